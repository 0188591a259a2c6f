/-! The reference: recovering, copying rows, keeping them. -/
theorem nRl_snoc {P : Int → Bool} {fl : Int → Int} : ∀ (m : Nat) (n : zN) (v : Int), nRl P fl n v (m + 1) = if P (v + m) = true then nE1 (nRl P fl n v m) (fl (v + m)) (v + m) else nRl P fl n v m := by
  intro m
  induction m with
  | zero => intro n v; simp [nRl]
  | succ m ih =>
    intro n v
    rw [nRl, ih, show v + 1 + (m : Int) = v + ((m + 1 : Nat) : Int) by omega]
    rfl
/-- the reference's row when the versions below t are back -/
def nSt (P : Int → Bool) (fl : Int → Int) (n1 : zN) (t : Nat) : zN := if nCll P t = [] then n1 else nRl P fl (nBg n1) 0 t
theorem nRl_none {P : Int → Bool} {fl : Int → Int} {n : zN} : ∀ t : Nat, nCll P t = [] → nRl P fl n 0 t = n := by
  intro t
  induction t with
  | zero => intro _; rfl
  | succ t ih =>
    intro h
    rw [nCll] at h
    cases hp : P t
    · rw [hp, if_neg (by simp)] at h
      rw [nRl_snoc, show (0 : Int) + (t : Int) = t by omega, hp, if_neg (by simp)]
      exact ih h
    · rw [hp, if_pos rfl] at h
      simp at h
theorem zr_zr {σ : zW} {k d c : Nat} {r r' : Int → Int} : zr (zr σ k d c r) k d c r' = zr σ k d c r' := by
  funext k' d' c'
  unfold zr
  by_cases h : k' = k ∧ d' = d ∧ c' = c
  · rw [if_pos h, if_pos h]
  · rw [if_neg h, if_neg h, if_neg h]
section zMod
variable {E : zE} {σ : zW}
theorem e10_rec_L (hW : zWF E) (hm : zU E 3 0 = true) {n0 n1 : zN} (hn0 : nW n0) (hn1 : nW n1) (ho1 : nOp n1 = false) (h12 : n1 3 < 12) (he : ∀ i, i < 1255 → n1 i = n0 i) {l : Int} (hcl : ∀ n : zN, zCl (zw σ n) (nCll (nRc n0 l) (n0 6).toNat)) (hb : nW (nBg n1)) (hob : nOp (nBg n1) = true) (hent : nS (nBg n1) (n1 3) 2 = 0) : ∀ (m fuel t : Nat), (t : Int) + m = n0 6 → m < fuel →
    ∃ fu : Nat, f_X10_recover_L43 fuel (zH E (zw σ (nSt (nRc n0 l) (fun v => nV n0 v 0) n1 t))) (zL E 3 0 0) (zI ((nCll (nRc n0 l) t).length : Int)) = f_X10_recover_L43 (fu + 1) (zH E (zw σ (nSt (nRc n0 l) (fun v => nV n0 v 0) n1 (n0 6).toNat))) (zL E 3 0 0) (zI ((nCll (nRc n0 l) (n0 6).toNat).length : Int)) := by
  have hN0 := hn0.1.r
  have hN1 := hn1.1.r
  have hver := hn0.2.2.1.1
  have hla : nLa (nBg n1) = n1 3 := by unfold nLa; rw [nBg_3]; omega
  have ebg : ∀ i, i < 1255 → i ≠ 3 → nBg n1 i = n0 i := fun i hi h3 => by rw [nBg_lo (by omega) hi h3, he i hi]
  have hlen : ∀ t : Nat, (t : Int) ≤ n0 6 → ((nCll (nRc n0 l) t).length : Int) ≤ 10 := fun t ht => by
    rw [nCll_len]
    have := nRc_10 hn0 l ht
    omega
  intro m
  induction m with
  | zero =>
    intro fuel t h0 h2
    obtain ⟨f, rfl, h4⟩ := zfuel h2
    exact ⟨f, by rw [show (n0 6).toNat = t by omega]⟩
  | succ m ih =>
    intro fuel t h0 h2
    obtain ⟨f, rfl, h4⟩ := zfuel h2
    cases hp : nRc n0 l t
    · have e1 : nCll (nRc n0 l) (t + 1) = nCll (nRc n0 l) t := by rw [nCll, hp]; rfl
      have e2 : nSt (nRc n0 l) (fun v => nV n0 v 0) n1 (t + 1) = nSt (nRc n0 l) (fun v => nV n0 v 0) n1 t := by
        unfold nSt
        rw [e1, nRl_snoc, show (0 : Int) + (t : Int) = t by omega, hp]
        rfl
      obtain ⟨fu, q⟩ := ih (f + 1) (t + 1) (by omega) (by omega)
      rw [e1, e2] at q
      exact ⟨fu, q⟩
    · have e1 : nCll (nRc n0 l) (t + 1) = nCll (nRc n0 l) t ++ [(t : Int)] := by rw [nCll, hp]; rfl
      -- the state here
      obtain ⟨c, hc⟩ : ∃ c, c = nSt (nRc n0 l) (fun v => nV n0 v 0) n1 t := ⟨_, rfl⟩
      have hrl := nRl_W (P := nRc n0 l) (fl := fun v => nV n0 v 0) t (nBg n1) 0 hb hob (by omega) (by rw [ebg 6 (by omega) (by omega)]; omega) (fun u u0 u1 _ => by
        rw [ebg 6 (by omega) (by omega)] at u1
        exact (ebg _ (by omega) (by omega)).symm) (fun u t u0 u1 t1 hu ht => by
        rw [ebg 6 (by omega) (by omega)] at t1
        exact nRc_ne u0 u1 t1 hu ht) (fun g hg => by
        rw [hla] at hg
        obtain ⟨k, k0, k1, _⟩ := nEn_iff.mp hg
        omega)
      have hcs : nW c ∧ nTm c = false ∧ (∀ i, i < 1255 → i ≠ 3 → c i = n0 i) ∧ nBi c = nRl (nRc n0 l) (fun v => nV n0 v 0) (nBg n1) 0 t := by
        rw [hc]
        unfold nSt
        by_cases h5 : nCll (nRc n0 l) t = []
        · rw [if_pos h5]
          refine ⟨hn1, by unfold nTm; rw [ho1]; simp; omega, fun i hi _ => he i hi, ?_⟩
          unfold nBi
          rw [ho1, if_neg (by simp), nRl_none t h5]
        · rw [if_neg h5]
          refine ⟨hrl.1, by unfold nTm; rw [hrl.2.1]; rfl, fun i hi h3 => by rw [hrl.2.2.2.1 i hi, ebg i hi h3], ?_⟩
          unfold nBi
          rw [hrl.2.1, if_pos rfl]
      have htv := hn0.2.2.1.2 t (by omega) (by omega)
      have c6 := hcs.2.2.1 6 (by omega) (by omega)
      have c2 := hcs.2.2.1 2 (by omega) (by omega)
      have hcn := hcs.1.1.r
      have hV : nV c t 0 = nV n0 t 0 := hcs.2.2.1 _ (by omega) (by omega)
      have hen := e10_enters (σ := σ) hW hm hcs.1 hcs.2.1 (f := nV n0 t 0) (v := t) htv.1.1 (by omega)
      have hst : nE1 (nBi c) (nV n0 t 0) t = nSt (nRc n0 l) (fun v => nV n0 v 0) n1 (t + 1) := by
        rw [hcs.2.2.2]
        unfold nSt
        rw [e1, if_neg (by simp), nRl_snoc, show (0 : Int) + (t : Int) = t by omega, hp, if_pos rfl]
      rw [hst] at hen
      obtain ⟨fu, q⟩ := ih f (t + 1) (by omega) (by omega)
      refine ⟨fu, ?_⟩
      rw [← q, ← hc]
      have hcc := hcl c
      have h22 : g_i (zH E (zw σ c)) (zL E 3 0 0) 10 22 = some (zI ((nCll (nRc n0 l) (n0 6).toNat).length : Int)) := by rw [← hcc.1]; exact zg_md22 hW hm
      -- the list's place
      have hpre : ∀ (T : Nat) (d : Nat), T = t + 1 + d → (nCll (nRc n0 l) t).length < (nCll (nRc n0 l) T).length ∧ (nCll (nRc n0 l) T).getD (nCll (nRc n0 l) t).length 0 = t := by
        intro T d
        induction d generalizing T with
        | zero =>
          intro hT
          rw [hT, Nat.add_zero, e1]
          refine ⟨by simp, ?_⟩
          simp
        | succ d ihd =>
          intro hT
          have h6 := ihd (t + 1 + d) rfl
          rw [hT, ← Nat.add_assoc, nCll]
          split
          · refine ⟨by rw [List.length_append]; omega, ?_⟩
            rw [List.getD_eq_getElem?_getD, List.getElem?_append_left h6.1, ← List.getD_eq_getElem?_getD]
            exact h6.2
          · exact h6
      obtain ⟨hlt, hget⟩ := hpre (n0 6).toNat m (by omega)
      have hl1 := hlen t (by omega)
      have hl2 := hlen (n0 6).toNat (by omega)
      have hrow := hcc.2 (nCll (nRc n0 l) t).length hlt
      rw [hget] at hrow
      have hov := e10_ofVersion (σ := zw σ c) hW hm zw_at (v := t) (w := 0) (by omega) (by omega) (by omega) (by omega)
      rw [hV] at hov
      rw [e1, List.length_append]
      simp (disch := first | assumption | omega) only [f_X10_recover_L43, h22, hrow, hov, hen, zz_mdo hW hm, zz_ra hW hm, zw_at, zz_some, zz_lit, zz_num, zI_lt, zI_le, zI_eq, zI_nat, zz_b, if_pos, if_neg, if_true, if_false]
      simp
/-! copying segments of 1555 numbers -/
theorem e10_copies_L (hW : zWF E) (hm : zU E 3 0 = true) {c1 c2 N1 N2 : Nat} (ha1 : zA 3 c1 = some (0, N1)) (ha2 : zA 3 c2 = some (0, N2)) (hN1 : N1 < 100000) (hN2 : N2 < 100000) {a b : Int} (ha0 : 0 ≤ a) (ha : a + 1555 ≤ N1) (hb0 : 0 ≤ b) (hb : b + 1555 ≤ N2) (hd : c1 ≠ c2 ∨ b + 1555 ≤ a) (τ : zW) : ∀ (m fuel : Nat) (k : Int), 0 ≤ k → k + m = 1555 → m < fuel → f_X10_copies_L3 fuel (zH E (zr τ 3 0 c2 (fun i => if b ≤ i ∧ i < b + k then τ 3 0 c1 (a + (i - b)) else τ 3 0 c2 i))) (zL E 3 0 c1) (zI a) (zL E 3 0 c2) (zI b) (zI k) = some (zH E (zr τ 3 0 c2 (fun i => if b ≤ i ∧ i < b + 1555 then τ 3 0 c1 (a + (i - b)) else τ 3 0 c2 i))) := by
  intro m
  induction m with
  | zero =>
    intro fuel k h0 h1 h2
    obtain ⟨f, rfl, h4⟩ := zfuel h2
    have hk : k = 1555 := by omega
    subst hk
    simp (disch := first | assumption | omega) only [f_X10_copies_L3, zz_some, zz_lit, zz_num, zI_lt, zI_le, zI_eq, zI_nat, zz_b, if_pos, if_neg, if_true, if_false]
  | succ m ih =>
    intro fuel k h0 h1 h2
    obtain ⟨f, rfl, h4⟩ := zfuel h2
    obtain ⟨τ1, ht1⟩ : ∃ x, x = zr τ 3 0 c2 (fun i => if b ≤ i ∧ i < b + k then τ 3 0 c1 (a + (i - b)) else τ 3 0 c2 i) := ⟨_, rfl⟩
    have hread : τ1 3 0 c1 (a + k) = τ 3 0 c1 (a + k) := by
      rw [ht1]
      by_cases h : c1 = c2
      · subst h
        rw [zr_at, if_neg (by rcases hd with q | q; exact absurd rfl q; omega)]
      · rw [zr_ne (by omega)]
    have hg1 := zAld (σ := τ1) (E := E) (k := 3) (d := 0) (c := c1) hW hm ha1 (by omega) (by omega) (i := a + k) (by omega) (by omega)
    have hg2 := zAst (σ := τ1) (E := E) (k := 3) (d := 0) (c := c2) hW hm ha2 (by omega) (by omega) (i := b + k) (v := τ 3 0 c1 (a + k)) (by omega) (by omega) rfl
    rw [hread] at hg1
    rw [← ht1]
    have hnext : zs τ1 3 0 c2 (b + k) (τ 3 0 c1 (a + k)) = zr τ 3 0 c2 (fun i => if b ≤ i ∧ i < b + (k + 1) then τ 3 0 c1 (a + (i - b)) else τ 3 0 c2 i) := by
      rw [← zs_r, ht1, zr_zr]
      congr 1
      funext i
      rw [zr_at]
      by_cases hi : i = b + k
      · rw [if_pos hi, if_pos (by omega), hi]
        congr 1
        omega
      · rw [if_neg hi]
        by_cases h5 : b ≤ i ∧ i < b + k
        · rw [if_pos h5, if_pos (by omega)]
        · rw [if_neg h5, if_neg (by omega)]
    simp (disch := first | assumption | omega) only [f_X10_copies_L3, hg1, hg2, zz_some, zz_lit, zz_num, zI_lt, zI_le, zI_eq, zI_nat, zz_b, if_pos, if_neg, if_true, if_false]
    rw [hnext]
    exact ih f (k + 1) (by omega) (by omega) (by omega)
theorem e10_copies (hW : zWF E) (hm : zU E 3 0 = true) {c1 c2 N1 N2 : Nat} (ha1 : zA 3 c1 = some (0, N1)) (ha2 : zA 3 c2 = some (0, N2)) (hN1 : N1 < 100000) (hN2 : N2 < 100000) {a b : Int} (ha0 : 0 ≤ a) (ha : a + 1555 ≤ N1) (hb0 : 0 ≤ b) (hb : b + 1555 ≤ N2) (hd : c1 ≠ c2 ∨ b + 1555 ≤ a) (τ : zW) : f_X10_copies (zH E τ) (zL E 3 0 c1) (zI a) (zL E 3 0 c2) (zI b) = some (zH E (zr τ 3 0 c2 (fun i => if b ≤ i ∧ i < b + 1555 then τ 3 0 c1 (a + (i - b)) else τ 3 0 c2 i))) := by
  have h := e10_copies_L hW hm ha1 ha2 hN1 hN2 ha0 ha hb0 hb hd τ 1555 g_N 0 (by omega) (by omega) (by unfold g_N; omega)
  have e : zr τ 3 0 c2 (fun i => if b ≤ i ∧ i < b + 0 then τ 3 0 c1 (a + (i - b)) else τ 3 0 c2 i) = τ := zr_self (by funext i; rw [if_neg (by omega)])
  rw [e] at h
  exact h
end zMod

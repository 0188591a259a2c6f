/-! The reference: what could be recovered, risks, space. -/
theorem nFv_file {n : zN} (hn : nW n) {f b : Int} (h : 0 ≤ nFv n f b) : nV n (nFv n f b) 0 = f := by
  have hN := hn.1.r
  have h1 := nSk_rng n f b
  have hR := nFv_rng hn f b
  have e : nFv n f b = nSv n (nSk n f b) f := rfl
  by_cases hs : nSk n f b = -1
  · rw [e, hs] at h
    unfold nSv at h
    rw [if_pos rfl] at h
    omega
  · have h2 := nSk_en (n := n) (f := f) (b := b) (by omega)
    have h3 := nEn_rng n (nSk n f b) f
    have e2 : nFv n f b = nS n (nSk n f b) (6 + 2 * nEn n (nSk n f b) f) := by rw [e]; unfold nSv; rw [if_neg hs]
    have hv := (hn.2.2.1.2 (nFv n f b) h hR.2).2.2.2.2.2.2 (nSk n f b) (nEn n (nSk n f b) f) (by omega) (by omega) (by omega) (by omega) e2.symm
    rw [hv]
    rcases zfs_spec (P := fun k => decide (nS n (nSk n f b) (5 + 2 * k) = f)) (nS n (nSk n f b) 2).toNat 0 (by omega) with ⟨h5, _⟩ | ⟨_, _, h5, _⟩
    · exact absurd h5 h2.2
    · exact of_decide_eq_true h5
/-- those below t, in order -/
def nCll (P : Int → Bool) : Nat → List Int
  | 0 => []
  | t + 1 => if P t = true then nCll P t ++ [(t : Int)] else nCll P t
theorem nCll_len (P : Int → Bool) : ∀ t : Nat, ((nCll P t).length : Int) = zcn P 0 t := by
  intro t
  induction t with
  | zero => rfl
  | succ t ih =>
    rw [zcn_snoc, nCll, show (0 : Int) + (t : Int) = t by omega]
    cases h : P t
    · rw [if_neg (by simp), ih]; simp [zb]
    · rw [if_pos rfl, List.length_append]; simp [zb]; omega
/-- things with different files are no more than the files -/
theorem zcn_inj {P : Int → Bool} {fl : Int → Int} {F : Nat} {T : Int} (hf : ∀ u, 0 ≤ u → u < T → P u = true → 0 ≤ fl u ∧ fl u < F) (hd : ∀ u t, 0 ≤ u → u < t → t < T → P u = true → P t = true → fl u ≠ fl t) : ∀ t : Nat, (t : Int) ≤ T → zcn P 0 t ≤ zcn (fun g => !zal (fun u => !(P u && decide (fl u = g))) 0 t) 0 F := by
  intro t
  induction t with
  | zero => intro _; simp [zcn]; exact (zcn_rng _ _ _).1
  | succ t ih =>
    intro ht
    have ih := ih (by omega)
    have key : ∀ g, (!zal (fun u => !(P u && decide (fl u = g))) 0 (t + 1)) = ((!zal (fun u => !(P u && decide (fl u = g))) 0 t) || (P t && decide (fl t = g))) := by
      intro g
      have h1 := zal_iff (P := fun u => !(P u && decide (fl u = g))) (t + 1) 0
      have h2 := zal_iff (P := fun u => !(P u && decide (fl u = g))) t 0
      cases ha : zal (fun u => !(P u && decide (fl u = g))) 0 t
      · have : zal (fun u => !(P u && decide (fl u = g))) 0 (t + 1) = false := by
          cases hb : zal (fun u => !(P u && decide (fl u = g))) 0 (t + 1)
          · rfl
          · have := h2.mpr (fun i i0 i1 => h1.mp hb i i0 (by omega))
            rw [ha] at this; cases this
        rw [this]; rfl
      · cases hp : (P t && decide (fl t = g))
        · have : zal (fun u => !(P u && decide (fl u = g))) 0 (t + 1) = true := h1.mpr (fun i i0 i1 => by
            by_cases hi : i = t
            · subst hi; simp [hp]
            · exact h2.mp ha i i0 (by omega))
          rw [this]; rfl
        · have : zal (fun u => !(P u && decide (fl u = g))) 0 (t + 1) = false := by
            cases hb : zal (fun u => !(P u && decide (fl u = g))) 0 (t + 1)
            · rfl
            · have := h1.mp hb t (by omega) (by omega)
              rw [hp] at this
              cases this
          rw [this]; rfl
    rw [zcn_snoc, show (0 : Int) + (t : Int) = t by omega]
    cases hp : P t
    · have := zcn_le (P := fun g => !zal (fun u => !(P u && decide (fl u = g))) 0 t) (Q := fun g => !zal (fun u => !(P u && decide (fl u = g))) 0 (t + 1)) F 0 (fun g _ _ h => by
        show (!zal (fun u => !(P u && decide (fl u = g))) 0 (t + 1)) = true
        rw [key g, h]; rfl)
      have hz : zb false = 0 := rfl
      omega
    · have hft := hf t (by omega) (by omega) hp
      have hnew : zal (fun u => !(P u && decide (fl u = fl t))) 0 t = true := (zal_iff _ _).mpr (fun u u0 u1 => by
        cases hu : P u
        · rfl
        · have := hd u t u0 (by omega) (by omega) hu hp
          simp [this])
      have := zcn_one (P := fun g => !zal (fun u => !(P u && decide (fl u = g))) 0 t) (Q := fun g => !zal (fun u => !(P u && decide (fl u = g))) 0 (t + 1)) (j := fl t) F 0 hft.1 (by omega) (by rw [hnew]; rfl) (by
        show (!zal (fun u => !(P u && decide (fl u = fl t))) 0 (t + 1)) = true
        rw [key, hp]; simp) (fun g hg _ _ => by
        show (!zal (fun u => !(P u && decide (fl u = g))) 0 (t + 1)) = _
        rw [key, hp]
        have : decide (fl t = g) = false := decide_eq_false (fun z => hg z.symm)
        rw [this]; simp)
      have hz : zb true = 1 := rfl
      omega
theorem nRc_10 {n : zN} (hn : nW n) (l : Int) {t : Nat} (ht : (t : Int) ≤ n 6) : zcn (nRc n l) 0 t ≤ n 2 := by
  have hN := hn.1.r
  have h1 := zcn_inj (P := nRc n l) (fl := fun u => nV n u 0) (F := (n 2).toNat) (T := n 6) (fun u u0 u1 _ => by have := (hn.2.2.1.2 u u0 u1).1; omega) (fun u t u0 u1 t1 hu ht => nRc_ne u0 u1 t1 hu ht) t ht
  have h2 := (zcn_rng (fun g => !zal (fun u => !(nRc n l u && decide (nV n u 0 = g))) 0 t) (n 2).toNat 0).2
  omega
def zCl (σ : zW) (l : List Int) : Prop := σ 3 0 0 22 = l.length ∧ ∀ k : Nat, k < l.length → σ 3 0 21 k = l.getD k 0
def nCo (n : zN) : List Int := if nLo n = true then nCll (nRc n (nLa n)) (n 6).toNat else []
theorem nCo_len {n : zN} (hn : nW n) : ((nCo n).length : Int) = nCr n := by
  unfold nCo nCr
  cases nLo n
  · rw [if_neg (by simp), if_neg (by simp)]; rfl
  · rw [if_pos rfl, if_pos rfl, nCll_len]
section zMod
variable {E : zE} {σ : zW} {n : zN}
theorem zCl_push {l : List Int} {x : Int} (hl : zCl σ l) : zCl (zs (zs σ 3 0 21 l.length x) 3 0 0 22 (l.length + 1)) (l ++ [x]) := by
  refine ⟨by simp [zs], fun k hk => ?_⟩
  rw [zs_ne (by omega), zs_at]
  simp only [List.length_append, List.length_cons, List.length_nil] at hk
  by_cases h : k = l.length
  · subst h
    simp
  · rw [if_neg (by omega), hl.2 k (by omega)]
    simp only [List.getD_eq_getElem?_getD]
    rw [List.getElem?_append_left (by omega)]
theorem e10_isOutdone_L (hW : zWF E) (hm : zU E 3 0 = true) (h1 : σ 3 0 1 = n) (hn : nW n) {v : Int} (hv0 : 0 ≤ v) (hv1 : v < n 6) : ∀ (m fuel : Nat) (c : Bool) (u : Int), 0 ≤ u → u + m = n 6 → m < fuel → f_X10_isOutdone_L6 (zH E σ) fuel (zL E 3 0 0) (zI v) (zI (zb c)) (zI u) = some (zI (zb (c || !zal (fun u => !(decide (nV n u 0 = nV n v 0) && nRo n u (nLa n))) u m))) := by
  have hN' := hn.1.r
  have hla : nLa n = n 3 - 1 := rfl
  have hvv := hn.2.2.1.2 v hv0 hv1
  intro m
  induction m with
  | zero =>
    intro fuel c u h0 h2 h3
    obtain ⟨f, rfl, h4⟩ := zfuel h3
    simp (disch := first | assumption | omega) only [f_X10_isOutdone_L6, zal, zz_mdo hW hm, zz_ra hW hm, h1, zz_some, zz_lit, zz_num, zI_lt, zI_le, zI_eq, zI_nat, zz_b, if_pos, if_neg, if_true, if_false]
    cases c <;> rfl
  | succ m ih =>
    intro fuel c u h0 h2 h3
    obtain ⟨f, rfl, h4⟩ := zfuel h3
    have huv := hn.2.2.1.2 u h0 (by omega)
    have i0 := ih f false (u + 1) (by omega) (by omega) (by omega)
    have i1 := ih f true (u + 1) (by omega) (by omega) (by omega)
    rw [show zI (zb false) = zI 0 from rfl] at i0
    rw [show zI (zb true) = zI 1 from rfl] at i1
    have hrd := e10_isReadable hW hm h1 hn (v := u) h0 (by omega)
    simp (disch := first | assumption | omega) only [f_X10_isOutdone_L6, e10_ofVersion hW hm h1, e10_latest hW hm h1, hrd, i0, i1, zz_mdo hW hm, zz_ra hW hm, h1, zz_some, zz_lit, zz_num, zI_lt, zI_le, zI_eq, zI_nat, zz_b, if_pos, if_neg, if_true, if_false]
    rw [zal]
    unfold nRo
    cases c
    · by_cases ha : nV n u 4 = nLa n
      · by_cases hb : nV n u 0 = nV n v 0
        · cases hc : nRv n u
          · simp [ha, hb]
          · simp [ha, hb]
        · simp [ha, hb]
      · simp [ha]
    · simp
theorem e10_isOutdone (hW : zWF E) (hm : zU E 3 0 = true) (h1 : σ 3 0 1 = n) (hn : nW n) {v : Int} (hv0 : 0 ≤ v) (hv1 : v < n 6) : f_X10_isOutdone (zH E σ) (zL E 3 0 0) (zI v) = some (zI (zb (!zal (fun u => !(decide (nV n u 0 = nV n v 0) && nRo n u (nLa n))) (v + 1) (n 6 - v - 1).toNat))) := by
  have hN' := hn.1.r
  unfold f_X10_isOutdone
  have h := e10_isOutdone_L hW hm h1 hn hv0 hv1 (n 6 - v - 1).toNat g_N false (v + 1) (by omega) (by omega) (by unfold g_N; omega)
  rw [Bool.false_or] at h
  simp (disch := first | assumption | omega) only [zz_mdo hW hm, zz_ra hW hm, h1, zz_some, zz_lit, zz_num, zI_lt, zI_le, zI_eq, zI_nat, zz_b, if_pos, if_neg, if_true, if_false]
  exact h
theorem e10_findsLost_L (hW : zWF E) (hm : zU E 3 0 = true) (hn : nW n) : ∀ (m fuel t : Nat) (σ : zW), σ 3 0 1 = n → zCl σ (nCll (nRc n (nLa n)) t) → (t : Int) + m = n 6 → m < fuel → ∃ σ', f_X10_findsLost_L28 fuel (zH E σ) (zL E 3 0 0) (zI (t : Int)) = some (zH E σ') ∧ zQ σ σ' ∧ zCl σ' (nCll (nRc n (nLa n)) (n 6).toNat) := by
  have hN' := hn.1.r
  have hla : nLa n = n 3 - 1 := rfl
  intro m
  induction m with
  | zero =>
    intro fuel t σ h1 hl h0 h3
    obtain ⟨f, rfl, h4⟩ := zfuel h3
    refine ⟨σ, ?_, zQ.rf, by rw [show (n 6).toNat = t by omega]; exact hl⟩
    simp (disch := first | assumption | omega) only [f_X10_findsLost_L28, zz_mdo hW hm, zz_ra hW hm, h1, zz_some, zz_lit, zz_num, zI_lt, zI_le, zI_eq, zI_nat, zz_b, if_pos, if_neg, if_true, if_false]
  | succ m ih =>
    intro fuel t σ h1 hl h0 h3
    obtain ⟨f, rfl, h4⟩ := zfuel h3
    have htv := hn.2.2.1.2 t (by omega) (by omega)
    have hrd := e10_isReadable hW hm h1 hn (v := t) (by omega) (by omega)
    have hod := e10_isOutdone hW hm h1 hn (v := t) (by omega) (by omega)
    have hi : ((t + 1 : Nat) : Int) = (t : Int) + 1 := by omega
    have hlen := nCll_len (nRc n (nLa n)) t
    have h10 := nRc_10 hn (nLa n) (t := t) (by omega)
    have h22 : g_i (zH E σ) (zL E 3 0 0) 10 22 = some (zI ((nCll (nRc n (nLa n)) t).length : Int)) := by rw [← hl.1]; exact zg_md22 hW hm
    have hno : nRc n (nLa n) t = false → ∃ σ', f_X10_findsLost_L28 f (zH E σ) (zL E 3 0 0) (zI ((t : Int) + 1)) = some (zH E σ') ∧ zQ σ σ' ∧ zCl σ' (nCll (nRc n (nLa n)) (n 6).toNat) := by
      intro hp
      have := ih f (t + 1) σ h1 (by rw [nCll, hp]; exact hl) (by omega) (by omega)
      rw [hi] at this
      exact this
    by_cases ha : nV n t 4 = nLa n
    · cases hb : nRv n t
      · obtain ⟨σ', q1, q2, q3⟩ := hno (by simp [nRc, nRo, hb])
        refine ⟨σ', ?_, q2, q3⟩
        rw [hb] at hrd
        simp (disch := first | assumption | omega) only [f_X10_findsLost_L28, e10_ofVersion hW hm h1, e10_latest hW hm h1, hrd, zz_mdo hW hm, zz_ra hW hm, h1, zz_some, zz_lit, zz_num, zI_lt, zI_le, zI_eq, zI_nat, zz_b, if_pos, if_neg, if_true, if_false]
        first | exact q1 | (rw [if_pos ha]; exact q1)
      · rw [hb] at hrd
        have hrc : nRc n (nLa n) t = zal (fun u => !(decide (nV n u 0 = nV n t 0) && nRo n u (nLa n))) ((t : Int) + 1) (n 6 - t - 1).toNat := by
          unfold nRc
          have : nRo n t (nLa n) = true := by simp [nRo, ha, hb]
          rw [this, Bool.true_and]
        cases hc : nRc n (nLa n) t
        · obtain ⟨σ', q1, q2, q3⟩ := hno hc
          refine ⟨σ', ?_, q2, q3⟩
          rw [← hrc, hc] at hod
          simp (disch := first | assumption | omega) only [f_X10_findsLost_L28, e10_ofVersion hW hm h1, e10_latest hW hm h1, hrd, hod, Bool.true_eq_false, Bool.not_false, zz_mdo hW hm, zz_ra hW hm, h1, zz_some, zz_lit, zz_num, zI_lt, zI_le, zI_eq, zI_nat, zz_b, if_pos, if_neg, if_true, if_false]
          first | exact q1 | (rw [if_pos ha]; exact q1)
        · rw [← hrc, hc] at hod
          have hlt : ((nCll (nRc n (nLa n)) t).length : Int) < 10 := by
            have h5 := nRc_10 hn (nLa n) (t := t + 1) (by omega)
            rw [zcn_snoc, show (0 : Int) + (t : Int) = t by omega, hc] at h5
            have h6 : zb true = 1 := rfl
            omega
          obtain ⟨σ1, s1⟩ : ∃ x, x = zs σ 3 0 21 (nCll (nRc n (nLa n)) t).length t := ⟨_, rfl⟩
          obtain ⟨σ2, s2⟩ : ∃ x, x = zs σ1 3 0 0 22 ((nCll (nRc n (nLa n)) t).length + 1) := ⟨_, rfl⟩
          obtain ⟨σ', q1, q2, q3⟩ := ih f (t + 1) σ2 (by rw [s2, s1, zs_ne (by omega), zs_ne (by omega)]; exact h1) (by rw [nCll, hc, s2, s1]; exact zCl_push hl) (by omega) (by omega)
          have h222 : g_i (zH E σ1) (zL E 3 0 0) 10 22 = some (zI ((nCll (nRc n (nLa n)) t).length : Int)) := by
            have : σ1 3 0 0 22 = ((nCll (nRc n (nLa n)) t).length : Int) := by rw [s1, zs_ne (by omega)]; exact hl.1
            rw [← this]; exact zg_md22 hW hm
          refine ⟨σ', ?_, zQ.tr (by rw [s2, s1]; exact zQ.tr (zQ.a (by omega)) (zQ.f (by omega))) q2, q3⟩
          rw [hi] at q1
          simp (disch := first | assumption | omega) only [f_X10_findsLost_L28, e10_ofVersion hW hm h1, e10_latest hW hm h1, hrd, hod, h22, Bool.true_eq_false, Bool.not_true, zz_mdo hW hm, zz_ra hW hm, h1, zz_some, zz_lit, zz_num, zI_lt, zI_le, zI_eq, zI_nat, zz_b, if_pos, if_neg, if_true, if_false]
          try rw [if_pos ha]
          rw [← s1]
          simp (disch := first | assumption | omega) only [h222, zp_md22 hW hm, zz_mdo hW hm, zz_ra hW hm, h1, zz_some, zz_lit, zz_num, zI_lt, zI_le, zI_eq, zI_nat, zz_b, if_pos, if_neg, if_true, if_false]
          rw [← s2]
          exact q1
    · obtain ⟨σ', q1, q2, q3⟩ := hno (by simp [nRc, nRo, ha])
      refine ⟨σ', ?_, q2, q3⟩
      simp (disch := first | assumption | omega) only [f_X10_findsLost_L28, e10_ofVersion hW hm h1, e10_latest hW hm h1, zz_mdo hW hm, zz_ra hW hm, h1, zz_some, zz_lit, zz_num, zI_lt, zI_le, zI_eq, zI_nat, zz_b, if_pos, if_neg, if_true, if_false]
      first | exact q1 | (rw [if_neg ha]; exact q1)
theorem e10_findsLost (hW : zWF E) (hm : zU E 3 0 = true) (h1 : σ 3 0 1 = n) (hn : nW n) : ∃ σ', f_X10_findsLost (zH E σ) (zL E 3 0 0) = some (zH E σ') ∧ zQ σ σ' ∧ zCl σ' (nCo n) := by
  have hN' := hn.1.r
  have hla : nLa n = n 3 - 1 := rfl
  obtain ⟨σ1, s1⟩ : ∃ x, x = zs σ 3 0 0 22 0 := ⟨_, rfl⟩
  have h11 : σ1 3 0 1 = n := by rw [s1, zs_ne (by omega)]; exact h1
  have hl0 : zCl σ1 [] := ⟨by rw [s1, zs_at, if_pos rfl]; rfl, fun k hk => by simp at hk⟩
  have hl := e10_latest hW hm h11
  have hq : zQ σ σ1 := by rw [s1]; exact zQ.f (by omega)
  unfold nCo
  by_cases h : 0 ≤ nLa n
  · have hs := hn.2.2.2 (nLa n) h (by omega)
    have ho := e10_of hW hm h11 (s := nLa n) (w := 0) h (by omega) (by omega) (by omega)
    by_cases h2 : nS n (nLa n) 0 = 2
    · have hlo : nLo n = true := nLo_iff.mpr ⟨h, h2⟩
      obtain ⟨σ', q1, q2, q3⟩ := e10_findsLost_L hW hm hn (n 6).toNat g_N 0 σ1 h11 hl0 (by omega) (by unfold g_N; omega)
      refine ⟨σ', ?_, hq.tr q2, by rw [hlo, if_pos rfl]; exact q3⟩
      simp (disch := first | assumption | omega) only [f_X10_findsLost, zp_md22 hW hm, zz_mdo hW hm, zz_ra hW hm, h1, zz_some, zz_lit, zz_num, zI_lt, zI_le, zI_eq, zI_nat, zz_b, if_pos, if_neg, if_true, if_false]
      rw [← s1]
      simp (disch := first | assumption | omega) only [hl, ho, h2, zz_mdo hW hm, zz_ra hW hm, h1, zz_some, zz_lit, zz_num, zI_lt, zI_le, zI_eq, zI_nat, zz_b, if_pos, if_neg, if_true, if_false]
      exact q1
    · have hlo : nLo n = false := by
        cases hx : nLo n
        · rfl
        · exact absurd (nLo_iff.mp hx).2 h2
      refine ⟨σ1, ?_, hq, by rw [hlo, if_neg (by simp)]; exact hl0⟩
      simp (disch := first | assumption | omega) only [f_X10_findsLost, zp_md22 hW hm, zz_mdo hW hm, zz_ra hW hm, h1, zz_some, zz_lit, zz_num, zI_lt, zI_le, zI_eq, zI_nat, zz_b, if_pos, if_neg, if_true, if_false]
      rw [← s1]
      simp (disch := first | assumption | omega) only [hl, ho, zz_mdo hW hm, zz_ra hW hm, h1, zz_some, zz_lit, zz_num, zI_lt, zI_le, zI_eq, zI_nat, zz_b, if_pos, if_neg, if_true, if_false]
      all_goals (try rw [if_neg h2])
  · have hlo : nLo n = false := by
      cases hx : nLo n
      · rfl
      · exact absurd (nLo_iff.mp hx).1 h
    refine ⟨σ1, ?_, hq, by rw [hlo, if_neg (by simp)]; exact hl0⟩
    simp (disch := first | assumption | omega) only [f_X10_findsLost, zp_md22 hW hm, zz_mdo hW hm, zz_ra hW hm, h1, zz_some, zz_lit, zz_num, zI_lt, zI_le, zI_eq, zI_nat, zz_b, if_pos, if_neg, if_true, if_false]
    rw [← s1]
    simp (disch := first | assumption | omega) only [hl, zz_mdo hW hm, zz_ra hW hm, h1, zz_some, zz_lit, zz_num, zI_lt, zI_le, zI_eq, zI_nat, zz_b, if_pos, if_neg, if_true, if_false]
theorem nLo_nop {n : zN} (h : nLo n = true) : nOp n = false := by
  cases ho : nOp n
  · rfl
  · have := (nOp_iff.mp ho).2
    have := (nLo_iff.mp h).2
    omega
theorem e10_whyRecover (hW : zWF E) (hm : zU E 3 0 = true) (h1 : σ 3 0 1 = n) (hn : nW n) : ∃ σ', f_X10_whyRecover (zH E σ) (zL E 3 0 0) = some (zH E σ', zI (nWr n)) ∧ zQ σ σ' ∧ zCl σ' (nCo n) := by
  have hN' := hn.1.r
  obtain ⟨σ', q1, q2, q3⟩ := e10_findsLost hW hm h1 hn
  have hc := nCr_rng hn
  have h22 : g_i (zH E σ') (zL E 3 0 0) 10 22 = some (zI (nCr n)) := by rw [← nCo_len hn, ← q3.1]; exact zg_md22 hW hm
  have h11 := q2.n.trans h1
  refine ⟨σ', ?_, q2, q3⟩
  have hz : ∀ G : gH, f_X10_directoryLong G (zI (nCr n)) = some (zI (nDl (nCr n))) := e10_dirLong hc.1 (by omega)
  have hd := nDl_rng hc.1 hc.2
  unfold nWr
  by_cases h0 : nCr n = 0
  · rw [if_pos h0]
    rw [h0] at h22
    simp (disch := first | assumption | omega) only [f_X10_whyRecover, q1, h22, zz_mdo hW hm, zz_ra hW hm, h1, zz_some, zz_lit, zz_num, zI_lt, zI_le, zI_eq, zI_nat, zz_b, if_pos, if_neg, if_true, if_false]
  · rw [if_neg h0, nTm_12 hn.1]
    have hlo : nLo n = true := by
      cases hl : nLo n
      · unfold nCr at h0; rw [hl, if_neg (by simp)] at h0; exact absurd rfl h0
      · rfl
    rw [nLo_nop hlo]
    by_cases h12 : n 3 = 12
    · have : (!false && decide (n 3 = 12)) = true := by simp [h12]
      rw [this, if_pos rfl]
      simp (disch := first | assumption | omega) only [f_X10_whyRecover, q1, h22, zz_mdo hW hm, zz_ra hW hm, h11, h12, zz_some, zz_lit, zz_num, zI_lt, zI_le, zI_eq, zI_nat, zz_b, if_pos, if_neg, if_true, if_false]
    · have : (!false && decide (n 3 = 12)) = false := by simp [h12]
      rw [this, if_neg (by simp)]
      unfold nWd
      have hrm := e10_hasRoom hW hm h11 hn.1 (x := nDl (nCr n)) (by omega) (by omega)
      have hsp := e10_hasSpare hW hm h11 hn.1 hn.2.1 (x := nDl (nCr n)) (by omega)
      by_cases h3 : n 4 + nDl (nCr n) ≤ n 0 - n 1
      · have hsp := hsp h3
        rw [decide_eq_true h3] at hrm
        rw [if_pos h3]
        cases hx : nHs n (nDl (nCr n))
        · rw [hx] at hsp
          simp (disch := first | assumption | omega) only [f_X10_whyRecover, q1, h22, zz_mdo hW hm, zz_ra hW hm, h11, hz, hrm, hsp, Bool.true_eq_false, zz_some, zz_lit, zz_num, zI_lt, zI_le, zI_eq, zI_nat, zz_b, if_pos, if_neg, if_true, if_false]
          rfl
        · rw [hx] at hsp
          simp (disch := first | assumption | omega) only [f_X10_whyRecover, q1, h22, zz_mdo hW hm, zz_ra hW hm, h11, hz, hrm, hsp, Bool.true_eq_false, zz_some, zz_lit, zz_num, zI_lt, zI_le, zI_eq, zI_nat, zz_b, if_pos, if_neg, if_true, if_false]
      · rw [decide_eq_false h3] at hrm
        rw [if_neg h3]
        simp (disch := first | assumption | omega) only [f_X10_whyRecover, q1, h22, zz_mdo hW hm, zz_ra hW hm, h11, hz, hrm, zz_some, zz_lit, zz_num, zI_lt, zI_le, zI_eq, zI_nat, zz_b, if_pos, if_neg, if_true, if_false]
theorem e10_whyClose (hW : zWF E) (hm : zU E 3 0 = true) (h1 : σ 3 0 1 = n) (hn : nW n) : f_X10_whyClose (zH E σ) (zL E 3 0 0) = some (zI (nWc n)) := by
  have hN' := hn.1.r
  have hla : nLa n = n 3 - 1 := rfl
  have ho := e10_isOpen hW hm h1 hn.1 hn.2.2.2
  unfold nWc
  cases h : nOp n
  · rw [h] at ho
    simp (disch := first | assumption | omega) only [f_X10_whyClose, ho, zz_mdo hW hm, zz_ra hW hm, h1, zz_some, zz_lit, zz_num, zI_lt, zI_le, zI_eq, zI_nat, zz_b, if_pos, if_neg, if_true, if_false]
    simp
  · rw [h] at ho
    obtain ⟨h2, h3⟩ := nOp_iff.mp h
    have he := hn.2.2.2.ent hn.1 h2 (by omega)
    have hd := nDl_rng he.1 (by omega)
    have hz : ∀ G : gH, f_X10_directoryLong G (zI (nS n (nLa n) 2)) = some (zI (nDl (nS n (nLa n) 2))) := e10_dirLong he.1 (by omega)
    have hrm := e10_hasRoom hW hm h1 hn.1 (x := nDl (nS n (nLa n) 2)) (by omega) (by omega)
    have hsp := e10_hasSpare hW hm h1 hn.1 hn.2.1 (x := nDl (nS n (nLa n) 2)) (by omega)
    rw [if_pos rfl]
    unfold nWd
    by_cases h5 : n 4 + nDl (nS n (nLa n) 2) ≤ n 0 - n 1
    · have hsp := hsp h5
      rw [decide_eq_true h5] at hrm
      rw [if_pos h5]
      cases hx : nHs n (nDl (nS n (nLa n) 2))
      · rw [hx] at hsp
        simp (disch := first | assumption | omega) only [f_X10_whyClose, ho, e10_latest hW hm h1, e10_of hW hm h1, hz, hrm, hsp, Bool.true_eq_false, zz_mdo hW hm, zz_ra hW hm, h1, zz_some, zz_lit, zz_num, zI_lt, zI_le, zI_eq, zI_nat, zz_b, if_pos, if_neg, if_true, if_false]
        rfl
      · rw [hx] at hsp
        simp (disch := first | assumption | omega) only [f_X10_whyClose, ho, e10_latest hW hm h1, e10_of hW hm h1, hz, hrm, hsp, Bool.true_eq_false, zz_mdo hW hm, zz_ra hW hm, h1, zz_some, zz_lit, zz_num, zI_lt, zI_le, zI_eq, zI_nat, zz_b, if_pos, if_neg, if_true, if_false]
    · rw [decide_eq_false h5] at hrm
      rw [if_neg h5]
      simp (disch := first | assumption | omega) only [f_X10_whyClose, ho, e10_latest hW hm h1, e10_of hW hm h1, hz, hrm, Bool.true_eq_false, zz_mdo hW hm, zz_ra hW hm, h1, zz_some, zz_lit, zz_num, zI_lt, zI_le, zI_eq, zI_nat, zz_b, if_pos, if_neg, if_true, if_false]
theorem e10_whyErase (hW : zWF E) (hm : zU E 3 0 = true) (h1 : σ 3 0 1 = n) (hn : nW n) {x : Int} (hx0 : 0 ≤ x) (hx1 : x < 100) : ∃ σ', f_X10_whyErase (zH E σ) (zL E 3 0 0) (zI x) = some (zH E σ', zI (nWe n x)) ∧ zQ σ σ' := by
  have hN' := hn.1.r
  obtain ⟨σ', q1, q2, q3, q4⟩ := e10_finds hW hm h1 hn hx0 hx1
  have h20 : g_i (zH E σ') (zL E 3 0 0) 10 20 = some (zI (nFv n x 12)) := by rw [← q4]; exact zg_md20 hW hm
  have h11 := q2.n.trans h1
  have hF := nFv_rng hn x 12
  have he := nEw_rng hn x
  have hd := nDl_rng he.1 (by omega)
  have hz : ∀ G : gH, f_X10_directoryLong G (zI (nEw n x)) = some (zI (nDl (nEw n x))) := e10_dirLong he.1 (by omega)
  have ho := e10_isOpen hW hm h11 hn.1 hn.2.2.2
  have hew := e10_entriesWith hW hm h11 hn (x := x) (by omega) hx1
  have hrm := e10_hasRoom hW hm h11 hn.1 (x := nDl (nEw n x)) (by omega) (by omega)
  refine ⟨σ', ?_, q2⟩
  unfold nWe
  rw [nTm_12 hn.1]
  have hJ : f_X10_whyErase_J35 (zH E σ') (zL E 3 0 0) (zI x) = some (zH E σ', zI (if n 4 + nDl (nEw n x) ≤ n 0 - n 1 then 0 else 4)) := by
    by_cases h5 : n 4 + nDl (nEw n x) ≤ n 0 - n 1
    · rw [decide_eq_true h5] at hrm
      rw [if_pos h5]
      simp (disch := first | assumption | omega) only [f_X10_whyErase_J35, zz_mdo hW hm, hew, hz, hrm, Bool.true_eq_false, zz_some, zz_lit, zz_num, zI_lt, zI_le, zI_eq, zI_nat, zz_b, if_pos, if_neg, if_true, if_false]
    · rw [decide_eq_false h5] at hrm
      rw [if_neg h5]
      simp (disch := first | assumption | omega) only [f_X10_whyErase_J35, zz_mdo hW hm, hew, hz, hrm, zz_some, zz_lit, zz_num, zI_lt, zI_le, zI_eq, zI_nat, zz_b, if_pos, if_neg, if_true, if_false]
  by_cases h0 : nFv n x 12 = -1
  · rw [if_pos h0]
    rw [h0] at h20
    simp (disch := first | assumption | omega) only [f_X10_whyErase, zz_mdo hW hm, q1, h20, zz_some, zz_lit, zz_num, zI_lt, zI_le, zI_eq, zI_nat, zz_b, if_pos, if_neg, if_true, if_false]
  · rw [if_neg h0]
    cases hop : nOp n
    · rw [hop] at ho
      by_cases h12 : n 3 = 12
      · have : (!false && decide (n 3 = 12)) = true := by simp [h12]
        rw [this, if_pos rfl]
        simp (disch := first | assumption | omega) only [f_X10_whyErase, zz_mdo hW hm, zz_ra hW hm, h11, q1, h20, ho, h12, zz_some, zz_lit, zz_num, zI_lt, zI_le, zI_eq, zI_nat, zz_b, if_pos, if_neg, if_true, if_false]
      · have : (!false && decide (n 3 = 12)) = false := by simp [h12]
        rw [this, if_neg (by simp)]
        simp (disch := first | assumption | omega) only [f_X10_whyErase, zz_mdo hW hm, zz_ra hW hm, h11, q1, h20, ho, hJ, zz_some, zz_lit, zz_num, zI_lt, zI_le, zI_eq, zI_nat, zz_b, if_pos, if_neg, if_true, if_false]
    · rw [hop] at ho
      rw [show (!true && decide (n 3 = 12)) = false from rfl, if_neg (by simp)]
      simp (disch := first | assumption | omega) only [f_X10_whyErase, zz_mdo hW hm, zz_ra hW hm, h11, q1, h20, ho, hJ, Bool.true_eq_false, zz_some, zz_lit, zz_num, zI_lt, zI_le, zI_eq, zI_nat, zz_b, if_pos, if_neg, if_true, if_false]
theorem e10_defect_L (hW : zWF E) (hm : zU E 3 0 = true) (h1 : σ 3 0 1 = n) (hn : nW n) {w : Bool} : ∀ (m fuel : Nat) (k b : Int), 0 ≤ b → b + m = n 0 - n 1 → m < fuel → 0 ≤ k → k < 2147483648 → f_X10_defect_L10 fuel (zH E σ) (zL E 3 0 0) (zI (zb w)) (zI k) (zI b) = some ((zH E σ), zI (if znt (nDf n) b m k = -1 then -1 else if w = true then nPl n (znt (nDf n) b m k) else znt (nDf n) b m k)) := by
  have hN' := hn.1.r
  intro m
  induction m with
  | zero =>
    intro fuel k b h0 h2 h3 hk0 hk1
    obtain ⟨f, rfl, h4⟩ := zfuel h3
    simp (disch := first | assumption | omega) only [f_X10_defect_L10, e10_mainMany hW hm h1 hn.1, znt, zz_mdo hW hm, zz_ra hW hm, h1, zz_some, zz_lit, zz_num, zI_lt, zI_le, zI_eq, zI_nat, zz_b, if_pos, if_neg, if_true, if_false]
  | succ m ih =>
    intro fuel k b h0 h2 h3 hk0 hk1
    obtain ⟨f, rfl, h4⟩ := zfuel h3
    have hb := hn.2.1 b h0 (by omega)
    have hmm := e10_mainMany hW hm h1 hn.1
    by_cases hmv : n (679 + b) = 0
    · have hD : nDf n b = false := by simp [nDf, hmv]
      have e : znt (nDf n) b (m + 1) k = znt (nDf n) (b + 1) m k := by rw [znt, hD]; simp
      rw [e]
      simp (disch := first | assumption | omega) only [f_X10_defect_L10, hmm, hmv, ih, zz_mdo hW hm, zz_ra hW hm, h1, zz_some, zz_lit, zz_num, zI_lt, zI_le, zI_eq, zI_nat, zz_b, if_pos, if_neg, if_true, if_false]
    · have hk3 : n (7 + b) = 3 := (hb.2.2.2.2.2.2.2.2.2.2.2.2.1 (by omega)).mpr hmv
      have hw1 := hb.2.2.2.2.2.2.2.2.2.1 (by omega)
      have hs := hn.2.2.2 (n (295 + b) - 1) (by omega) (by omega)
      have ho := e10_of hW hm h1 (s := n (295 + b) - 1) (w := 0) (by omega) (by omega) (by omega) (by omega)
      have hrng : 0 ≤ n (679 + b) ∧ n (679 + b) ≤ 96 := by
        rcases hb.2.2.2.2.2.2.2.1 with q | q <;> omega
      by_cases h2' : nS n (n (295 + b) - 1) 0 = 2
      · have hD : nDf n b = false := by simp [nDf, h2']
        have e : znt (nDf n) b (m + 1) k = znt (nDf n) (b + 1) m k := by rw [znt, hD]; simp
        rw [e]
        simp (disch := first | assumption | omega) only [f_X10_defect_L10, hmm, ho, ih, zz_mdo hW hm, zz_ra hW hm, h1, zz_some, zz_lit, zz_num, zI_lt, zI_le, zI_eq, zI_nat, zz_b, if_pos, if_neg, if_true, if_false] <;> (try simp [hmv, h2'])
      · have hD : nDf n b = true := by simp [nDf, h2', hmv]
        have e : znt (nDf n) b (m + 1) k = if k = 0 then b else znt (nDf n) (b + 1) m (k - 1) := by rw [znt, hD, if_pos rfl]
        rw [e]
        have hp := e10_placeOf hW hm h1 hn.1 hn.2.1 h0 (by omega : b < 96)
        by_cases hk : k = 0
        · subst hk
          rw [if_pos rfl, if_neg (by omega)]
          cases w
          · simp (disch := first | assumption | omega) only [f_X10_defect_L10, hmm, ho, zz_mdo hW hm, zz_ra hW hm, h1, zz_some, zz_lit, zz_num, zI_lt, zI_le, zI_eq, zI_nat, zz_b, if_pos, if_neg, if_true, if_false]
            all_goals (try simp [hmv, h2'])
          · simp (disch := first | assumption | omega) only [f_X10_defect_L10, hmm, ho, hp, Bool.true_eq_false, zz_mdo hW hm, zz_ra hW hm, h1, zz_some, zz_lit, zz_num, zI_lt, zI_le, zI_eq, zI_nat, zz_b, if_pos, if_neg, if_true, if_false]
            all_goals (try simp [hmv, h2'])
        · rw [if_neg hk]
          have i0 := ih f (k - 1) (b + 1) (by omega) (by omega) (by omega) (by omega) (by omega)
          rw [show k - 1 = k + -1 by omega] at i0 ⊢
          simp (disch := first | assumption | omega) only [f_X10_defect_L10, hmm, ho, i0, zz_mdo hW hm, zz_ra hW hm, h1, zz_some, zz_lit, zz_num, zI_lt, zI_le, zI_eq, zI_nat, zz_b, if_pos, if_neg, if_true, if_false]
          all_goals (try simp [hmv, h2', hk])
end zMod

/-! Versions, sessions, and what would be: the class. -/
def nHs (n : zN) (many : Int) : Bool := decide (zcn (fun b => decide (n (103 + b) = 1)) (n 4) many.toNat ≤ zcn (fun b => decide (n (7 + b) = 0) && decide (n (103 + b) = 0)) (n 0 - n 1) (n 1).toNat)
def nTm (n : zN) : Bool := !nOp n && decide (12 ≤ n 3)
def nEw (n : zN) (f : Int) : Int := if nOp n = true then nS n (nLa n) 2 + zb (decide (nEn n (nLa n) f = -1)) else 1
def nWd (n : zN) (e : Int) : Int := if n 4 + nDl e ≤ n 0 - n 1 then (if nHs n (nDl e) = true then 0 else 5) else 4
def nWw (n : zN) (f m : Int) : Int := if nTm n = true then 3 else if n 4 + (m + nDl (nEw n f)) ≤ n 0 - n 1 then (if nHs n m = true then 0 else 5) else 4
def nWc (n : zN) : Int := if nOp n = true then nWd n (nS n (nLa n) 2) else 1
def nLo (n : zN) : Bool := decide (0 ≤ nLa n) && decide (nS n (nLa n) 0 = 2)
def nRo (n : zN) (v l : Int) : Bool := decide (nV n v 4 = l) && nRv n v
def nRc (n : zN) (l v : Int) : Bool := nRo n v l && zal (fun u => !(decide (nV n u 0 = nV n v 0) && nRo n u l)) (v + 1) (n 6 - v - 1).toNat
def nCr (n : zN) : Int := if nLo n = true then zcn (nRc n (nLa n)) 0 (n 6).toNat else 0
def nWr (n : zN) : Int := if nCr n = 0 then 2 else if nTm n = true then 3 else nWd n (nCr n)
def znt (P : Int → Bool) : Int → Nat → Int → Int
  | _, 0, _ => -1
  | lo, m + 1, k => if P lo = true then (if k = 0 then lo else znt P (lo + 1) m (k - 1)) else znt P (lo + 1) m k
def nDf (n : zN) (b : Int) : Bool := decide (n (679 + b) ≠ 0) && decide (nS n (n (295 + b) - 1) 0 ≠ 2)
def nLk (n : zN) (s : Int) : Int := if nS n s 3 = 0 then -1 else zls (fun t => decide (nS n t 0 = 1)) s.toNat
theorem nEn_rng (n : zN) (s f : Int) : -1 ≤ nEn n s f ∧ (0 ≤ nEn n s f → nEn n s f < nS n s 2) := by
  have h := zfs_rng (fun k => decide (nS n s (5 + 2 * k) = f)) (nS n s 2).toNat
  have h2 : nEn n s f = zfs (fun k => decide (nS n s (5 + 2 * k) = f)) 0 (nS n s 2).toNat := rfl
  omega
theorem zcn_full {P : Int → Bool} : ∀ (m : Nat), (m : Int) ≤ zcn P 0 m → ∀ k, 0 ≤ k → k < (m : Int) → P k = true := by
  intro m
  induction m with
  | zero => intro _ k h0 h1; omega
  | succ m ih =>
    intro h k h0 h1
    rw [zcn_snoc, Int.zero_add] at h
    have h2 := (zcn_rng P m 0).2
    have h3 := zb_rng (P m)
    by_cases hk : k = m
    · subst hk
      rw [← zb_eq1]
      omega
    · exact ih (by omega) k h0 (by omega)
/-- counting under a map that is one to one -/
theorem zcn_map {e : Nat} {g : Int → Int} : ∀ (m : Nat) (Q P : Int → Bool), (∀ f : Int, 0 ≤ f → f < m → Q f = true → 0 ≤ g f ∧ g f < e ∧ P (g f) = true) → (∀ f f' : Int, 0 ≤ f → f < m → 0 ≤ f' → f' < m → Q f = true → Q f' = true → g f = g f' → f = f') → zcn Q 0 m ≤ zcn P 0 e := by
  intro m
  induction m with
  | zero =>
    intro Q P _ _
    exact (zcn_rng P e 0).1
  | succ m ih =>
    intro Q P h1 h2
    rw [zcn_snoc, Int.zero_add]
    cases hq : Q m
    · have := ih Q P (fun f a b c => h1 f a (by omega) c) (fun f f' a b a' b' c c' => h2 f f' a (by omega) a' (by omega) c c')
      simp [zb]
      exact this
    · obtain ⟨g0, g1, g2⟩ := h1 m (by omega) (by omega) hq
      have h3 := ih Q (fun k => P k && decide (k ≠ g m)) (fun f a b c => by
        obtain ⟨y0, y1, y2⟩ := h1 f a (by omega) c
        refine ⟨y0, y1, ?_⟩
        rw [y2, Bool.true_and, decide_eq_true_iff]
        intro z
        have := h2 f m a (by omega) (by omega) (by omega) c hq z
        omega) (fun f f' a b a' b' c c' => h2 f f' a (by omega) a' (by omega) c c')
      have h4 := zcn_one (P := fun k => P k && decide (k ≠ g m)) (Q := P) (j := g m) e 0 g0 (by omega) (by simp) g2 (fun i z _ _ => by simp [z])
      have : zb true = 1 := rfl
      omega
/-- the entries of a session tell files that differ -/
theorem nEn_at {n : zN} (h : nWs n) (hN : nWn n) {s k : Int} (h0 : 0 ≤ s) (h1 : s < n 3) (k0 : 0 ≤ k) (k1 : k < nS n s 2) : nEn n s (nS n s (5 + 2 * k)) = k := by
  have hN' := hN.r
  have hs := h s h0 h1
  have ha := zcn_map (e := (nS n s 2).toNat) (g := fun f => nEn n s f) (n 2).toNat (fun f => decide (nEn n s f ≠ -1)) (fun k => decide (nEn n s (nS n s (5 + 2 * k)) = k)) (fun f f0 f1 hf => by
      have hf := of_decide_eq_true hf
      have hr := nEn_rng n s f
      refine ⟨by omega, by omega, ?_⟩
      rw [decide_eq_true_iff]
      rcases zfs_spec (P := fun k => decide (nS n s (5 + 2 * k) = f)) (nS n s 2).toNat 0 (by omega) with ⟨z, -⟩ | ⟨-, -, z, -⟩
      · exact absurd z hf
      · have z : nS n s (5 + 2 * nEn n s f) = f := of_decide_eq_true z
        rw [z]) (fun f f' f0 f1 f0' f1' hf hf' he => by
      have hf := of_decide_eq_true hf
      have hf' := of_decide_eq_true hf'
      have z : nS n s (5 + 2 * nEn n s f) = f := by
        rcases zfs_spec (P := fun k => decide (nS n s (5 + 2 * k) = f)) (nS n s 2).toNat 0 (by omega) with ⟨z, -⟩ | ⟨-, -, z, -⟩
        · exact absurd z hf
        · exact of_decide_eq_true z
      have z' : nS n s (5 + 2 * nEn n s f') = f' := by
        rcases zfs_spec (P := fun k => decide (nS n s (5 + 2 * k) = f')) (nS n s 2).toNat 0 (by omega) with ⟨z, -⟩ | ⟨-, -, z, -⟩
        · exact absurd z hf'
        · exact of_decide_eq_true z
      have he : nEn n s f = nEn n s f' := he
      rw [← z, ← z', he])
  have hb := hs.2.2.2.1
  have hall : ∀ k, 0 ≤ k → k < ((nS n s 2).toNat : Int) → decide (nEn n s (nS n s (5 + 2 * k)) = k) = true := zcn_full _ (by omega)
  exact of_decide_eq_true (hall k k0 (by omega))
theorem nWs.ent {n : zN} (h : nWs n) (hN : nWn n) {s : Int} (h0 : 0 ≤ s) (h1 : s < n 3) : 0 ≤ nS n s 2 ∧ nS n s 2 ≤ n 2 := by
  have h2 := (h s h0 h1).2.2.2.1
  have h3 := (zcn_rng (fun f => decide (nEn n s f ≠ -1)) (n 2).toNat 0).2
  have h4 := hN.r
  omega
theorem nDl_eq {e : Int} (h : 1 ≤ e) : nDl e = 1 + (e - 1) / 4 := by
  unfold nDl
  rw [Int.tdiv_eq_ediv_of_nonneg (by omega)]
theorem nDl_rng {e : Int} (h0 : 0 ≤ e) (h1 : e ≤ 96) : 1 ≤ nDl e ∧ nDl e ≤ 24 := by
  by_cases h : e = 0
  · subst h; decide
  · rw [nDl_eq (by omega)]; omega
theorem nDl_10 {e : Int} (h0 : 0 ≤ e) (h1 : e ≤ 10) : 1 ≤ nDl e ∧ nDl e ≤ 3 := by
  by_cases h : e = 0
  · subst h; decide
  · rw [nDl_eq (by omega)]; omega
section zCls
variable {E : zE} {σ : zW} {d : Nat} {n : zN}
theorem e7_fileOf (hW : zWF E) (hu : zU E 0 d = true) (hR : zRv (σ 0 d) n) (hN : nWn n) {v : Int} (h0 : -1 ≤ v) (h1 : v < n 6) : f_X7_fileOf (zH E σ) (zL E 0 d 10) (zI v) = some (zI (if 0 ≤ v then nV n v 0 else -1)) := by
  have hN' := hN.r
  simp (disch := first | assumption | omega) only [f_X7_fileOf, zz_vso hW hu, zz_dr hW hu, zz_some, zz_lit, zz_num, zI_lt, zI_le, zI_eq, zI_nat, zz_b, if_pos, if_neg, if_true, if_false]
  by_cases h : 0 ≤ v
  · simp (disch := first | assumption | omega) only [hR.r, zz_some, zz_lit, zz_num, zI_lt, zI_le, zI_eq, zI_nat, zz_b, if_pos, if_neg, if_true, if_false]
  · rw [if_neg h, if_neg (fun z => h z.1)]
theorem e7_firstOf (hW : zWF E) (hu : zU E 0 d = true) (hR : zRv (σ 0 d) n) (hN : nWn n) {v : Int} (h0 : -1 ≤ v) (h1 : v < n 6) : f_X7_firstOf (zH E σ) (zL E 0 d 10) (zI v) = some (zI (if 0 ≤ v then nV n v 1 else -1)) := by
  have hN' := hN.r
  simp (disch := first | assumption | omega) only [f_X7_firstOf, zz_vso hW hu, zz_dr hW hu, zz_some, zz_lit, zz_num, zI_lt, zI_le, zI_eq, zI_nat, zz_b, if_pos, if_neg, if_true, if_false]
  by_cases h : 0 ≤ v
  · simp (disch := first | assumption | omega) only [hR.r, zz_some, zz_lit, zz_num, zI_lt, zI_le, zI_eq, zI_nat, zz_b, if_pos, if_neg, if_true, if_false]
  · rw [if_neg h, if_neg (fun z => h z.1)]
theorem e7_lengthOf (hW : zWF E) (hu : zU E 0 d = true) (hR : zRv (σ 0 d) n) (hN : nWn n) {v : Int} (h0 : -1 ≤ v) (h1 : v < n 6) : f_X7_lengthOf (zH E σ) (zL E 0 d 10) (zI v) = some (zI (if 0 ≤ v then nV n v 2 else 0)) := by
  have hN' := hN.r
  simp (disch := first | assumption | omega) only [f_X7_lengthOf, zz_vso hW hu, zz_dr hW hu, zz_some, zz_lit, zz_num, zI_lt, zI_le, zI_eq, zI_nat, zz_b, if_pos, if_neg, if_true, if_false]
  by_cases h : 0 ≤ v
  · simp (disch := first | assumption | omega) only [hR.r, zz_some, zz_lit, zz_num, zI_lt, zI_le, zI_eq, zI_nat, zz_b, if_pos, if_neg, if_true, if_false]
  · rw [if_neg h, if_neg (fun z => h z.1)]
theorem e7_tagOf (hW : zWF E) (hu : zU E 0 d = true) (hR : zRv (σ 0 d) n) (hN : nWn n) {v : Int} (h0 : -1 ≤ v) (h1 : v < n 6) : f_X7_tagOf (zH E σ) (zL E 0 d 10) (zI v) = some (zI (if 0 ≤ v then nV n v 3 else -1)) := by
  have hN' := hN.r
  simp (disch := first | assumption | omega) only [f_X7_tagOf, zz_vso hW hu, zz_dr hW hu, zz_some, zz_lit, zz_num, zI_lt, zI_le, zI_eq, zI_nat, zz_b, if_pos, if_neg, if_true, if_false]
  by_cases h : 0 ≤ v
  · simp (disch := first | assumption | omega) only [hR.r, zz_some, zz_lit, zz_num, zI_lt, zI_le, zI_eq, zI_nat, zz_b, if_pos, if_neg, if_true, if_false]
  · rw [if_neg h, if_neg (fun z => h z.1)]
theorem e7_writerOf (hW : zWF E) (hu : zU E 0 d = true) (hR : zRv (σ 0 d) n) (hN : nWn n) {v : Int} (h0 : -1 ≤ v) (h1 : v < n 6) : f_X7_writerOf (zH E σ) (zL E 0 d 10) (zI v) = some (zI (if 0 ≤ v then nV n v 4 else -1)) := by
  have hN' := hN.r
  simp (disch := first | assumption | omega) only [f_X7_writerOf, zz_vso hW hu, zz_dr hW hu, zz_some, zz_lit, zz_num, zI_lt, zI_le, zI_eq, zI_nat, zz_b, if_pos, if_neg, if_true, if_false]
  by_cases h : 0 ≤ v
  · simp (disch := first | assumption | omega) only [hR.r, zz_some, zz_lit, zz_num, zI_lt, zI_le, zI_eq, zI_nat, zz_b, if_pos, if_neg, if_true, if_false]
  · rw [if_neg h, if_neg (fun z => h z.1)]
theorem e7_countOf_L (hW : zWF E) (hu : zU E 0 d = true) (hR : zRv (σ 0 d) n) (hN : nWn n) (hV : nWv n) {x : Int} (hx0 : 0 ≤ x) (hx1 : x < 100) : ∀ (m fuel : Nat) (acc v : Int), 0 ≤ v → v + m = n 6 → m < fuel → f_X7_countOf_L4 (zH E σ) fuel (zL E 0 d 10) (zI x) (zI acc) (zI v) = some (zI (acc + zcn (fun v => decide (nV n v 0 = x)) v m)) := by
  have hN' := hN.r
  intro m
  induction m with
  | zero =>
    intro fuel acc v h0 h1 h2
    obtain ⟨f, rfl, h3⟩ := zfuel h2
    simp (disch := first | assumption | omega) only [f_X7_countOf_L4, e7_count hW hu hR hN, zcn, zz_some, zz_lit, zz_num, zI_lt, zI_le, zI_eq, zI_nat, zz_b, if_pos, if_neg, if_true, if_false]
    simp
  | succ m ih =>
    intro fuel acc v h0 h1 h2
    obtain ⟨f, rfl, h3⟩ := zfuel h2
    have hv := hV.2 v h0 (by omega)
    simp (disch := first | assumption | omega) only [f_X7_countOf_L4, e7_count hW hu hR hN, e7_fileOf hW hu hR hN, zz_vso hW hu, zcn, ih, zz_some, zz_lit, zz_num, zI_lt, zI_le, zI_eq, zI_nat, zz_b, if_pos, if_neg, if_true, if_false]
    by_cases h : nV n v 0 = x
    · rw [if_pos h, zb_dpos h]; congr 2; omega
    · rw [if_neg h, zb_dneg h]; congr 2; omega
theorem e7_countOf (hW : zWF E) (hu : zU E 0 d = true) (hR : zRv (σ 0 d) n) (hN : nWn n) (hV : nWv n) {x : Int} (hx0 : 0 ≤ x) (hx1 : x < 100) : f_X7_countOf (zH E σ) (zL E 0 d 10) (zI x) = some (zI (zcn (fun v => decide (nV n v 0 = x)) 0 (n 6).toNat)) := by
  have hN' := hN.r
  unfold f_X7_countOf
  simp (disch := first | assumption | omega) only [zz_some, zz_lit, zz_num, zI_lt, zI_le, zI_eq, zI_nat, zz_b, if_pos, if_neg, if_true, if_false]
  rw [e7_countOf_L hW hu hR hN hV hx0 hx1 (n 6).toNat _ _ _ (by omega) (by omega) (by unfold g_N; omega)]
  congr 2; omega
theorem e5_stateOf (hW : zWF E) (hu : zU E 0 d = true) (hR : zRs (σ 0 d) n) (hN : nWn n) {s : Int} (h0 : -1 ≤ s) (h1 : s < 100) : f_X5_stateOf (zH E σ) (zL E 0 d 16) (zI s) = some (zI (if 0 ≤ s ∧ s < n 3 then nS n s 0 else -1)) := by
  have hN' := hN.r
  simp (disch := first | assumption | omega) only [f_X5_stateOf, e5_count hW hu hR hN, zz_seo hW hu, zz_dr hW hu, zz_some, zz_lit, zz_num, zI_lt, zI_le, zI_eq, zI_nat, zz_b, if_pos, if_neg, if_true, if_false]
  by_cases h : 0 ≤ s
  · by_cases h2 : s < n 3
    · simp (disch := first | assumption | omega) only [hR.r, zz_some, zz_lit, zz_num, zI_lt, zI_le, zI_eq, zI_nat, zz_b, if_pos, if_neg, if_true, if_false]
    · simp (disch := first | assumption | omega) only [zz_some, zz_lit, zz_num, zI_lt, zI_le, zI_eq, zI_nat, zz_b, if_pos, if_neg, if_true, if_false]
  · simp (disch := first | assumption | omega) only [zz_some, zz_lit, zz_num, zI_lt, zI_le, zI_eq, zI_nat, zz_b, if_pos, if_neg, if_true, if_false]
theorem e5_firstOf (hW : zWF E) (hu : zU E 0 d = true) (hR : zRs (σ 0 d) n) (hN : nWn n) {s : Int} (h0 : -1 ≤ s) (h1 : s < n 3) : f_X5_firstOf (zH E σ) (zL E 0 d 16) (zI s) = some (zI (if 0 ≤ s then nS n s 1 else -1)) := by
  have hN' := hN.r
  simp (disch := first | assumption | omega) only [f_X5_firstOf, zz_seo hW hu, zz_dr hW hu, zz_some, zz_lit, zz_num, zI_lt, zI_le, zI_eq, zI_nat, zz_b, if_pos, if_neg, if_true, if_false]
  by_cases h : 0 ≤ s
  · simp (disch := first | assumption | omega) only [hR.r, zz_some, zz_lit, zz_num, zI_lt, zI_le, zI_eq, zI_nat, zz_b, if_pos, if_neg, if_true, if_false]
  · rw [if_neg h, if_neg (fun z => h z.1)]
theorem e5_directoryOf (hW : zWF E) (hu : zU E 0 d = true) (hR : zRs (σ 0 d) n) (hN : nWn n) {s : Int} (h0 : -1 ≤ s) (h1 : s < n 3) : f_X5_directoryOf (zH E σ) (zL E 0 d 16) (zI s) = some (zI (if 0 ≤ s then nS n s 3 - 1 else -1)) := by
  have hN' := hN.r
  simp (disch := first | assumption | omega) only [f_X5_directoryOf, zz_seo hW hu, zz_dr hW hu, zz_some, zz_lit, zz_num, zI_lt, zI_le, zI_eq, zI_nat, zz_b, if_pos, if_neg, if_true, if_false]
  by_cases h : 0 ≤ s
  · simp (disch := first | assumption | omega) only [hR.r, zz_some, zz_lit, zz_num, zI_lt, zI_le, zI_eq, zI_nat, zz_b, if_pos, if_neg, if_true, if_false]
  · rw [if_neg h, if_neg (fun z => h z.1)]
theorem e5_entriesOf (hW : zWF E) (hu : zU E 0 d = true) (hR : zRs (σ 0 d) n) (hN : nWn n) {s : Int} (h0 : -1 ≤ s) (h1 : s < n 3) : f_X5_entriesOf (zH E σ) (zL E 0 d 16) (zI s) = some (zI (if 0 ≤ s then nS n s 2 else 0)) := by
  have hN' := hN.r
  simp (disch := first | assumption | omega) only [f_X5_entriesOf, zz_seo hW hu, zz_dr hW hu, zz_some, zz_lit, zz_num, zI_lt, zI_le, zI_eq, zI_nat, zz_b, if_pos, if_neg, if_true, if_false]
  by_cases h : 0 ≤ s
  · simp (disch := first | assumption | omega) only [hR.r, zz_some, zz_lit, zz_num, zI_lt, zI_le, zI_eq, zI_nat, zz_b, if_pos, if_neg, if_true, if_false]
  · rw [if_neg h, if_neg (fun z => h z.1)]
theorem e5_directoryLengthOf (hW : zWF E) (hu : zU E 0 d = true) (hR : zRs (σ 0 d) n) (hN : nWn n) {s : Int} (h0 : 0 ≤ s) (h1 : s < n 3) : f_X5_directoryLengthOf (zH E σ) (zL E 0 d 16) (zI s) = some (zI (nL n s)) := by
  have hN' := hN.r
  simp (disch := first | assumption | omega) only [f_X5_directoryLengthOf, zz_seo hW hu, zz_dr hW hu, hR.r, zz_some, zz_lit, zz_num, zI_lt, zI_le, zI_eq, zI_nat, zz_b, if_pos, if_neg, if_true, if_false]
theorem e5_fileAt (hW : zWF E) (hu : zU E 0 d = true) (hR : zRs (σ 0 d) n) (hN : nWn n) (hZ : nWs n) {s k : Int} (h0 : 0 ≤ s) (h1 : s < n 3) (h2 : -2147483648 ≤ k) (h3 : k < 2147483648) : f_X5_fileAt (zH E σ) (zL E 0 d 16) (zI s) (zI k) = some (zI (if 0 ≤ k ∧ k < nS n s 2 then nS n s (5 + 2 * k) else -1)) := by
  have hN' := hN.r
  have he := hZ.ent hN h0 h1
  simp (disch := first | assumption | omega) only [f_X5_fileAt, e5_entriesOf hW hu hR hN, zz_seo hW hu, zz_some, zz_lit, zz_num, zI_lt, zI_le, zI_eq, zI_nat, zz_b, if_pos, if_neg, if_true, if_false]
  by_cases h : k < 0
  · simp (disch := first | assumption | omega) only [zz_some, zz_lit, zz_num, zI_lt, zI_le, zI_eq, zI_nat, zz_b, if_pos, if_neg, if_true, if_false]
  · by_cases h4 : nS n s 2 ≤ k
    · simp (disch := first | assumption | omega) only [zz_some, zz_lit, zz_num, zI_lt, zI_le, zI_eq, zI_nat, zz_b, if_pos, if_neg, if_true, if_false]
    · simp (disch := first | assumption | omega) only [zz_seo hW hu, zz_dr hW hu, hR.r, zz_some, zz_lit, zz_num, zI_lt, zI_le, zI_eq, zI_nat, zz_b, if_pos, if_neg, if_true, if_false]
theorem e5_row (hW : zWF E) (hu : zU E 0 d = true) (hR : zRs (σ 0 d) n) (hN : nWn n) (hZ : nWs n) {s x : Int} (h0 : 0 ≤ s) (h1 : s < n 3) (hx0 : 0 ≤ x) (hx1 : x < 10) : f_X9_at (zH E σ) (zL E 0 d 22) (zI (s * 10 + x)) (zI (-2)) = some (zI (if nEn n s x = -1 then -2 else nS n s (6 + 2 * nEn n s x))) ∧ (nEn n s x ≠ -1 → -1 ≤ nS n s (6 + 2 * nEn n s x) ∧ nS n s (6 + 2 * nEn n s x) < n 6) := by
  have hN' := hN.r
  have hE := nEn_rng n s x
  have hr : σ 0 d 22 (s * 10 + x) = nX n s x := hR.2.2.2.2.2.2.1 s x h0 h1 hx0 hx1
  refine ⟨?_, fun h => ((hZ s h0 h1).2.2.2.2.2.2 (nEn n s x) (by omega) (by omega)).2⟩
  rw [zX_at (n := 120) hW hu rfl (by decide) (by omega) (by omega), if_pos (by omega), hr]
  rfl
theorem e5_hasEntry (hW : zWF E) (hu : zU E 0 d = true) (hR : zRs (σ 0 d) n) (hN : nWn n) (hZ : nWs n) {s x : Int} (h0 : 0 ≤ s) (h1 : s < n 3) (hx0 : 0 ≤ x) (hx1 : x < 10) : f_X5_hasEntry (zH E σ) (zL E 0 d 16) (zI s) (zI x) = some (zI (zb (decide (nEn n s x ≠ -1)))) := by
  have hN' := hN.r
  obtain ⟨hr, hv⟩ := e5_row hW hu hR hN hZ h0 h1 hx0 hx1
  simp (disch := first | assumption | omega) only [f_X5_hasEntry, zz_seo hW hu, hr, zz_some, zz_lit, zz_num, zI_lt, zI_le, zI_eq, zI_nat, zz_b, if_pos, if_neg, if_true, if_false]
  by_cases h : nEn n s x = -1
  · rw [if_pos h, if_pos rfl, zb_dneg (by simp [h])]
  · have hv := hv h
    rw [if_neg h, if_neg (by omega), zb_dpos h]
theorem e5_versionFor (hW : zWF E) (hu : zU E 0 d = true) (hR : zRs (σ 0 d) n) (hN : nWn n) (hZ : nWs n) {s x : Int} (h0 : 0 ≤ s) (h1 : s < n 3) (hx0 : 0 ≤ x) (hx1 : x < 10) : f_X5_versionFor (zH E σ) (zL E 0 d 16) (zI s) (zI x) = some (zI (if nEn n s x = -1 then -1 else nS n s (6 + 2 * nEn n s x))) := by
  have hN' := hN.r
  obtain ⟨hr, hv⟩ := e5_row hW hu hR hN hZ h0 h1 hx0 hx1
  simp (disch := first | assumption | omega) only [f_X5_versionFor, zz_seo hW hu, hr, zz_some, zz_lit, zz_num, zI_lt, zI_le, zI_eq, zI_nat, zz_b, if_pos, if_neg, if_true, if_false]
  by_cases h : nEn n s x = -1
  · rw [if_pos h, if_pos rfl, if_pos h]
  · have hv := hv h
    rw [if_neg h, if_neg (by omega), if_neg h]
theorem e5_versionFor' (hW : zWF E) (hu : zU E 0 d = true) {x : Int} (hx0 : 0 ≤ x) (hx1 : x < 10) : f_X5_versionFor (zH E σ) (zL E 0 d 16) (zI (-1)) (zI x) = some (zI (-1)) := by
  have hr : f_X9_at (zH E σ) (zL E 0 d 22) (zI (-1 * 10 + x)) (zI (-2)) = some (zI (-2)) := by
    rw [zX_at (n := 120) hW hu rfl (by decide) (by omega) (by omega), if_neg (by omega)]
  simp (disch := first | assumption | omega) only [f_X5_versionFor, zz_seo hW hu, hr, zz_some, zz_lit, zz_num, zI_lt, zI_le, zI_eq, zI_nat, zz_b, if_pos, if_neg, if_true, if_false]
theorem e5_latest (hW : zWF E) (hu : zU E 0 d = true) (hR : zRs (σ 0 d) n) (hN : nWn n) : f_X5_latest (zH E σ) (zL E 0 d 16) = some (zI (nLa n)) := by
  simp (disch := first | assumption | omega) only [f_X5_latest, e5_count hW hu hR hN, zz_some, zz_lit, zz_num, zI_lt, zI_le, zI_eq, zI_nat, zz_b, if_pos, if_neg, if_true, if_false]
  rfl
theorem e5_isOpen (hW : zWF E) (hu : zU E 0 d = true) (hR : zRs (σ 0 d) n) (hN : nWn n) (hZ : nWs n) : f_X5_isOpen (zH E σ) (zL E 0 d 16) = some (zI (zb (nOp n))) := by
  have hN' := hN.r
  have hla : nLa n = n 3 - 1 := rfl
  simp (disch := first | assumption | omega) only [f_X5_isOpen, e5_latest hW hu hR hN, e5_stateOf hW hu hR hN, zz_seo hW hu, zz_some, zz_lit, zz_num, zI_lt, zI_le, zI_eq, zI_nat, zz_b, if_pos, if_neg, if_true, if_false]
  unfold nOp
  by_cases h : 0 ≤ nLa n
  · have h2 := hZ _ h (by omega)
    simp (disch := first | assumption | omega) only [decide_eq_true h, Bool.true_and, zz_some, zz_lit, zz_num, zI_lt, zI_le, zI_eq, zI_nat, zz_b, if_pos, if_neg, if_true, if_false]
    exact zb_somp _
  · simp (disch := first | assumption | omega) only [decide_eq_false h, Bool.false_and, zz_some, zz_lit, zz_num, zI_lt, zI_le, zI_eq, zI_nat, zz_b, if_pos, if_neg, if_true, if_false]
    rfl
theorem e5_latestIsLost (hW : zWF E) (hu : zU E 0 d = true) (hR : zRs (σ 0 d) n) (hN : nWn n) (hZ : nWs n) : f_X5_latestIsLost (zH E σ) (zL E 0 d 16) = some (zI (zb (nLo n))) := by
  have hN' := hN.r
  have hla : nLa n = n 3 - 1 := rfl
  simp (disch := first | assumption | omega) only [f_X5_latestIsLost, e5_latest hW hu hR hN, e5_stateOf hW hu hR hN, zz_seo hW hu, zz_some, zz_lit, zz_num, zI_lt, zI_le, zI_eq, zI_nat, zz_b, if_pos, if_neg, if_true, if_false]
  unfold nLo
  by_cases h : 0 ≤ nLa n
  · have h2 := hZ _ h (by omega)
    simp (disch := first | assumption | omega) only [decide_eq_true h, Bool.true_and, zz_some, zz_lit, zz_num, zI_lt, zI_le, zI_eq, zI_nat, zz_b, if_pos, if_neg, if_true, if_false]
    exact zb_somp _
  · simp (disch := first | assumption | omega) only [decide_eq_false h, Bool.false_and, zz_some, zz_lit, zz_num, zI_lt, zI_le, zI_eq, zI_nat, zz_b, if_pos, if_neg, if_true, if_false]
    rfl
theorem e5_oneMoreIsTooMany (hW : zWF E) (hu : zU E 0 d = true) (hR : zRs (σ 0 d) n) (hN : nWn n) (hZ : nWs n) : f_X5_oneMoreIsTooMany (zH E σ) (zL E 0 d 16) = some (zI (zb (nTm n))) := by
  have hN' := hN.r
  simp (disch := first | assumption | omega) only [f_X5_oneMoreIsTooMany, e5_isOpen hW hu hR hN hZ, e5_count hW hu hR hN, zz_seo hW hu, zz_some, zz_lit, zz_num, zI_lt, zI_le, zI_eq, zI_nat, zz_b, if_pos, if_neg, if_true, if_false]
  unfold nTm
  cases h : nOp n
  · simp only [if_true, Bool.not_false, Bool.true_and]
    by_cases h2 : n 3 < 12
    · rw [if_pos h2, zb_dneg (by omega)]
    · rw [if_neg h2, zb_dpos (by omega)]
  · simp [zb]
theorem e5_entriesWith (hW : zWF E) (hu : zU E 0 d = true) (hR : zRs (σ 0 d) n) (hN : nWn n) (hZ : nWs n) {x : Int} (hx0 : 0 ≤ x) (hx1 : x < 10) : f_X5_entriesWith (zH E σ) (zL E 0 d 16) (zI x) = some (zI (nEw n x)) := by
  have hN' := hN.r
  have hla : nLa n = n 3 - 1 := rfl
  simp (disch := first | assumption | omega) only [f_X5_entriesWith, e5_isOpen hW hu hR hN hZ, e5_latest hW hu hR hN, zz_seo hW hu, zz_some, zz_lit, zz_num, zI_lt, zI_le, zI_eq, zI_nat, zz_b, if_pos, if_neg, if_true, if_false]
  unfold nEw
  cases h : nOp n
  · simp
  · have h2 : 0 ≤ nLa n := by
      unfold nOp at h
      by_cases h3 : 0 ≤ nLa n
      · exact h3
      · simp [h3] at h
    have he := hZ.ent hN h2 (by omega)
    have hr := zfs_rng (fun k => decide (nS n (nLa n) (5 + 2 * k) = x)) (nS n (nLa n) 2).toNat
    have hE : nEn n (nLa n) x = zfs (fun k => decide (nS n (nLa n) (5 + 2 * k) = x)) 0 (nS n (nLa n) 2).toNat := rfl
    simp (disch := first | assumption | omega) only [e5_entriesOf hW hu hR hN, e5_hasEntry hW hu hR hN hZ, zz_seo hW hu, Bool.true_eq_false, zz_some, zz_lit, zz_num, zI_lt, zI_le, zI_eq, zI_nat, zz_b, if_pos, if_neg, if_true, if_false]
    by_cases h4 : nEn n (nLa n) x = -1
    · rw [if_pos (by simp [h4]), zb_dpos h4]
    · rw [if_neg (by simp [h4]), zb_dneg h4]
theorem e5_linkOf_L (hW : zWF E) (hu : zU E 0 d = true) (hR : zRs (σ 0 d) n) (hN : nWn n) (hZ : nWs n) : ∀ (m fuel : Nat) , (m : Int) ≤ n 3 → m < fuel → f_X5_linkOf_L15 (zH E σ) fuel (zL E 0 d 16) (zI ((m : Int) - 1)) = some (zI (zls (fun t => decide (nS n t 0 = 1)) m)) := by
  have hN' := hN.r
  intro m
  induction m with
  | zero =>
    intro fuel h2 h4
    obtain ⟨f, rfl, h5⟩ := zfuel h4
    simp (disch := first | assumption | omega) only [f_X5_linkOf_L15, zls, zz_some, zz_lit, zz_num, zI_lt, zI_le, zI_eq, zI_nat, zz_b, if_pos, if_neg, if_true, if_false]
  | succ m ih =>
    intro fuel h2 h4
    obtain ⟨f, rfl, h5⟩ := zfuel h4
    have hs := hZ m (by omega) (by omega)
    rw [show (((m + 1 : Nat) : Int) - 1) = (m : Int) by omega]
    simp (disch := first | assumption | omega) only [f_X5_linkOf_L15, e5_stateOf hW hu hR hN, zz_seo hW hu, zls, zz_some, zz_lit, zz_num, zI_lt, zI_le, zI_eq, zI_nat, zz_b, if_pos, if_neg, if_true, if_false]
    by_cases h : nS n m 0 = 1
    · simp [h]
    · simp only [h, decide_false, if_false]
      rw [show (m : Int) + -1 = (m : Int) - 1 by omega, ih f (by omega) (by omega)]
      rfl
theorem e5_linkOf (hW : zWF E) (hu : zU E 0 d = true) (hR : zRs (σ 0 d) n) (hN : nWn n) (hZ : nWs n) {s : Int} (h0 : 0 ≤ s) (h1 : s < n 3) : f_X5_linkOf (zH E σ) (zL E 0 d 16) (zI s) = some (zI (nLk n s)) := by
  have hN' := hN.r
  have hs := hZ s h0 h1
  have hd : nS n s 3 ≤ 1000 := by
    have := hN.r
    have he := nDl_10 (hZ.ent hN h0 h1).1 (by have := (hZ.ent hN h0 h1).2; omega)
    omega
  simp (disch := first | assumption | omega) only [f_X5_linkOf, e5_directoryOf hW hu hR hN, zz_seo hW hu, zz_some, zz_lit, zz_num, zI_lt, zI_le, zI_eq, zI_nat, zz_b, if_pos, if_neg, if_true, if_false]
  unfold nLk
  by_cases h : nS n s 3 = 0
  · simp (disch := first | assumption | omega) only [zz_some, zz_lit, zz_num, zI_lt, zI_le, zI_eq, zI_nat, zz_b, if_pos, if_neg, if_true, if_false]
  · simp (disch := first | assumption | omega) only [zz_some, zz_lit, zz_num, zI_lt, zI_le, zI_eq, zI_nat, zz_b, if_pos, if_neg, if_true, if_false]
    rw [show s - 1 = ((s.toNat : Int)) - 1 by omega, e5_linkOf_L hW hu hR hN hZ s.toNat _ (by omega) (by unfold g_N; omega)]
end zCls

/-! The reference: risks, space; what it writes. -/
def zw (σ : zW) (n : zN) : zW := zr σ 3 0 1 n
theorem zw_at {σ : zW} {n : zN} : zw σ n 3 0 1 = n := zr_at
theorem zw_zw {σ : zW} {n n' : zN} : zw (zw σ n) n' = zw σ n' := by
  funext k d c
  unfold zw zr
  by_cases h : k = 3 ∧ d = 0 ∧ c = 1
  · rw [if_pos h, if_pos h]
  · rw [if_neg h, if_neg h, if_neg h]
theorem zw_self {σ : zW} {n : zN} (h : σ 3 0 1 = n) : zw σ n = σ := zr_self h.symm
theorem zs_zw {σ : zW} {n : zN} {i v : Int} : zs (zw σ n) 3 0 1 i v = zw σ (zu n i v) := by
  rw [← zs_r]
  show zw (zw σ n) _ = _
  rw [zw_zw]
  congr 1
  all_goals (funext j; rw [zw_at]; rfl)
theorem zw_ne {σ : zW} {n : zN} {k d c : Nat} (h : ¬ (k = 3 ∧ d = 0 ∧ c = 1)) : zw σ n k d c = σ k d c := zr_ne h
theorem nSh_zu (n : zN) (b : Int) : nSh n b = zu n (199 + b) 1 := rfl
section zMod
variable {E : zE} {σ : zW} {n : zN}
theorem e10_riskOf (hW : zWF E) (hm : zU E 3 0 = true) (h1 : σ 3 0 1 = n) (hn : nW n) {b : Int} (h0 : 0 ≤ b) (h2 : b < n 0) : ∃ σ', f_X10_riskOf (zH E σ) (zL E 3 0 0) (zI b) = some (zH E σ', zI (nRk n b)) ∧ zQ σ σ' := by
  have hN' := hn.1.r
  have hb := hn.2.1 b h0 (by omega)
  unfold nRk
  by_cases hk : n (7 + b) = 0
  · refine ⟨σ, ?_, zQ.rf⟩
    simp (disch := first | assumption | omega) only [f_X10_riskOf, hk, zz_mdo hW hm, zz_ra hW hm, h1, zz_some, zz_lit, zz_num, zI_lt, zI_le, zI_eq, zI_nat, zz_b, if_pos, if_neg, if_true, if_false]
    simp
  · by_cases hs : n (199 + b) = 1
    · refine ⟨σ, ?_, zQ.rf⟩
      simp (disch := first | assumption | omega) only [f_X10_riskOf, hs, zz_mdo hW hm, zz_ra hW hm, h1, zz_some, zz_lit, zz_num, zI_lt, zI_le, zI_eq, zI_nat, zz_b, if_pos, if_neg, if_true, if_false]
      simp
    · have hs0 : n (199 + b) = 0 := by omega
      rw [if_neg (by omega)]
      obtain ⟨σ1, x, a1, a2, a3⟩ := e10_goodFiles hW hm h1 hn
      have h11 := a2.n.trans h1
      obtain ⟨σ2, s2⟩ : ∃ y, y = zs σ1 3 0 1 (199 + b) 1 := ⟨_, rfl⟩
      have h12 : σ2 3 0 1 = nSh n b := by
        rw [s2]
        funext i
        rw [zs_at, h11]
        rfl
      obtain ⟨σ3, y, b1, b2, b3⟩ := e10_goodFiles hW hm h12 (nSh_W hn h0 (by omega))
      have h13 := b2.n.trans h12
      obtain ⟨σ4, s4⟩ : ∃ y, y = zs σ3 3 0 1 (199 + b) 0 := ⟨_, rfl⟩
      have h14 : σ4 3 0 1 = n := by
        rw [s4]
        funext i
        rw [zs_at, h13]
        by_cases hi : i = 199 + b
        · rw [if_pos hi, hi, hs0]
        · rw [if_neg hi]; unfold nSh; rw [if_neg hi]
      have hQ : zQ σ σ4 := by
        refine ⟨fun k d c hz => ?_, fun i i1 i2 i3 i4 => ?_⟩
        · by_cases h : k = 3 ∧ d = 0 ∧ c = 1
          · obtain ⟨rfl, rfl, rfl⟩ := h
            rw [h14, h1]
          · rw [s4, zs_ne h, b2.1 k d c hz, s2, zs_ne h, a2.1 k d c hz]
        · rw [s4, zs_ne (by omega), b2.2 i i1 i2 i3 i4, s2, zs_ne (by omega), a2.2 i i1 i2 i3 i4]
      have hn2 : (nSh n b) 2 = n 2 := by unfold nSh; rw [if_neg (by omega)]
      rw [hn2] at b3
      have hones := zBit_ones (zBit_diff a3 b3) (by omega : (n 2).toNat ≤ 10) (zH E σ4)
      refine ⟨σ4, ?_, hQ⟩
      simp (disch := first | assumption | omega) only [f_X10_riskOf, a1, zz_mdo hW hm, zz_ra hW hm, h1, zz_some, zz_lit, zz_num, zI_lt, zI_le, zI_eq, zI_nat, zz_b, if_pos, if_neg, if_true, if_false]
      try rw [if_neg hk]
      try rw [if_neg hs]
      rw [← s2]
      simp (disch := first | assumption | omega) only [zz_mdo hW hm, zz_ra hW hm, b1, zz_some, zz_lit, zz_num, zI_lt, zI_le, zI_eq, zI_nat, zz_b, if_pos, if_neg, if_true, if_false]
      rw [← s4, hones, zz_some]
theorem e10_fcount_L (hW : zWF E) (hm : zU E 3 0 = true) (hn : nW n) : ∀ (m fuel : Nat) (f : Int) (σ : zW), σ 3 0 1 = n → zQl σ (nQl n (n 3).toNat) → (∀ v, 0 ≤ v → v < n 6 → σ 3 0 23 v = zb (decide (nV n v 0 < f) && decide (nFv n (nV n v 0) 12 = v))) → 0 ≤ f → f + m = n 2 → m < fuel → ∃ σ', f_X10_findsCounting_L32 fuel (zH E σ) (zL E 3 0 0) (zI f) = some (zH E σ') ∧ zQ σ σ' ∧ (∀ v, 0 ≤ v → v < n 6 → σ' 3 0 23 v = zb (decide (nFv n (nV n v 0) 12 = v))) := by
  have hN' := hn.1.r
  intro m
  induction m with
  | zero =>
    intro fuel f σ h1 hl hc h0 h2 h3
    obtain ⟨fu, rfl, h4⟩ := zfuel h3
    refine ⟨σ, ?_, zQ.rf, fun v v0 v1 => ?_⟩
    · simp (disch := first | assumption | omega) only [f_X10_findsCounting_L32, zz_mdo hW hm, zz_ra hW hm, h1, zz_some, zz_lit, zz_num, zI_lt, zI_le, zI_eq, zI_nat, zz_b, if_pos, if_neg, if_true, if_false]
    · rw [hc v v0 v1]
      have := (hn.2.2.1.2 v v0 v1).1
      rw [decide_eq_true (by omega), Bool.true_and]
  | succ m ih =>
    intro fuel f σ h1 hl hc h0 h2 h3
    obtain ⟨fu, rfl, h4⟩ := zfuel h3
    obtain ⟨σ1, b1, b2, b3, b4, b5, b6⟩ := e10_seeks' hW hm h1 hn hl (x := f) h0 (by omega) (below := 12) (by omega) (by omega)
    have g20 : g_i (zH E σ1) (zL E 3 0 0) 10 20 = some (zI (nFv n f 12)) := by rw [← b5]; exact zg_md20 hW hm
    have hF := nFv_rng hn f 12
    have h11 := b2.n.trans h1
    by_cases h : nFv n f 12 = -1
    · obtain ⟨σ', c1, c2, c3⟩ := ih fu (f + 1) σ1 h11 b3 (fun v v0 v1 => by
        rw [b6 23 (by omega), hc v v0 v1]
        congr 1
        by_cases hv : nV n v 0 = f
        · rw [hv, h]
          simp
          omega
        · congr 1
          exact decide_eq_decide.mpr (by omega)) (by omega) (by omega) (by omega)
      refine ⟨σ', ?_, b2.tr c2, c3⟩
      rw [h] at g20
      simp (disch := first | assumption | omega) only [f_X10_findsCounting_L32, b1, g20, c1, zz_mdo hW hm, zz_ra hW hm, h1, zz_some, zz_lit, zz_num, zI_lt, zI_le, zI_eq, zI_nat, zz_b, if_pos, if_neg, if_true, if_false]
    · have hfile := nFv_file hn (f := f) (b := 12) (by omega)
      obtain ⟨σ2, s2⟩ : ∃ y, y = zs σ1 3 0 23 (nFv n f 12) 1 := ⟨_, rfl⟩
      obtain ⟨σ', c1, c2, c3⟩ := ih fu (f + 1) σ2 (by rw [s2, zs_ne (by omega)]; exact h11) (by rw [s2]; exact zQl.a (by omega) (by omega) b3) (fun v v0 v1 => by
        rw [s2, zs_at]
        by_cases hv : v = nFv n f 12
        · rw [if_pos hv, hv, hfile]
          simp [zb]
          omega
        · rw [if_neg hv, b6 23 (by omega), hc v v0 v1]
          congr 1
          by_cases hv2 : nV n v 0 = f
          · rw [hv2]
            have : ¬ (nFv n f 12 = v) := fun z => hv z.symm
            simp [this]
          · congr 1
            exact decide_eq_decide.mpr (by omega)) (by omega) (by omega) (by omega)
      refine ⟨σ', ?_, b2.tr (zQ.tr (by rw [s2]; exact zQ.a (by omega)) c2), c3⟩
      simp (disch := first | assumption | omega) only [f_X10_findsCounting_L32, b1, g20, zz_mdo hW hm, zz_ra hW hm, h1, zz_some, zz_lit, zz_num, zI_lt, zI_le, zI_eq, zI_nat, zz_b, if_pos, if_neg, if_true, if_false]
      rw [← s2]
      exact c1
theorem e10_fclear_L (hW : zWF E) (hm : zU E 3 0 = true) (hn : nW n) : ∀ (m fuel : Nat) (v : Int) (σ : zW), σ 3 0 1 = n → (∀ u, 0 ≤ u → u < v → σ 3 0 23 u = 0) → 0 ≤ v → v + m = n 6 → m < fuel → ∃ σ', f_X10_findsCounting_L2 fuel (zH E σ) (zL E 3 0 0) (zI v) = some (zH E σ') ∧ zQ σ σ' ∧ (∀ v, 0 ≤ v → v < n 6 → σ' 3 0 23 v = zb (decide (nFv n (nV n v 0) 12 = v))) := by
  have hN' := hn.1.r
  intro m
  induction m with
  | zero =>
    intro fuel v σ h1 hc h0 h2 h3
    obtain ⟨fu, rfl, h4⟩ := zfuel h3
    obtain ⟨σ1, a1, a2, a3, a4⟩ := e10_searches' hW hm hn h1
    obtain ⟨σ', c1, c2, c3⟩ := e10_fcount_L hW hm hn (n 2).toNat g_N 0 σ1 (a2.n.trans h1) a3 (fun u u0 u1 => by
      rw [a4 23 (by omega) (by omega), hc u u0 (by omega)]
      have := (hn.2.2.1.2 u u0 u1).1
      rw [decide_eq_false (by omega : ¬ nV n u 0 < 0)]
      rfl) (by omega) (by omega) (by unfold g_N; omega)
    refine ⟨σ', ?_, a2.tr c2, c3⟩
    simp (disch := first | assumption | omega) only [f_X10_findsCounting_L2, a1, zz_mdo hW hm, zz_ra hW hm, h1, zz_some, zz_lit, zz_num, zI_lt, zI_le, zI_eq, zI_nat, zz_b, if_pos, if_neg, if_true, if_false]
    exact c1
  | succ m ih =>
    intro fuel v σ h1 hc h0 h2 h3
    obtain ⟨fu, rfl, h4⟩ := zfuel h3
    obtain ⟨σ2, s2⟩ : ∃ y, y = zs σ 3 0 23 v 0 := ⟨_, rfl⟩
    obtain ⟨σ', c1, c2, c3⟩ := ih fu (v + 1) σ2 (by rw [s2, zs_ne (by omega)]; exact h1) (fun u u0 u1 => by
      rw [s2, zs_at]
      by_cases hu : u = v
      · rw [if_pos hu]
      · rw [if_neg hu]; exact hc u u0 (by omega)) (by omega) (by omega) (by omega)
    refine ⟨σ', ?_, zQ.tr (by rw [s2]; exact zQ.a (by omega)) c2, c3⟩
    simp (disch := first | assumption | omega) only [f_X10_findsCounting_L2, zz_mdo hW hm, zz_ra hW hm, h1, zz_some, zz_lit, zz_num, zI_lt, zI_le, zI_eq, zI_nat, zz_b, if_pos, if_neg, if_true, if_false]
    rw [← s2]
    exact c1
theorem e10_findsCounting (hW : zWF E) (hm : zU E 3 0 = true) (h1 : σ 3 0 1 = n) (hn : nW n) : ∃ σ', f_X10_findsCounting (zH E σ) (zL E 3 0 0) = some (zH E σ') ∧ zQ σ σ' ∧ (∀ v, 0 ≤ v → v < n 6 → σ' 3 0 23 v = zb (decide (nFv n (nV n v 0) 12 = v))) := by
  have hN' := hn.1.r
  exact e10_fclear_L hW hm hn (n 6).toNat g_N 0 σ h1 (fun u u0 u1 => by omega) (by omega) (by omega) (by unfold g_N; omega)
theorem e10_useOf (hW : zWF E) (hm : zU E 3 0 = true) (h1 : σ 3 0 1 = n) (hn : nW n) (hc : ∀ v, 0 ≤ v → v < n 6 → σ 3 0 23 v = zb (decide (nFv n (nV n v 0) 12 = v))) {b : Int} (h0 : 0 ≤ b) (h2 : b < n 0) : f_X10_useOf (zH E σ) (zL E 3 0 0) (zI b) = some (zI (nUs n b)) := by
  have hN' := hn.1.r
  have hb := hn.2.1 b h0 (by omega)
  unfold nUs
  rcases (by omega : n (7 + b) = 0 ∨ n (7 + b) = 1 ∨ n (7 + b) = 2 ∨ n (7 + b) = 3) with h | h | h | h
  · simp (disch := first | assumption | omega) only [f_X10_useOf, h, zz_mdo hW hm, zz_ra hW hm, h1, zz_some, zz_lit, zz_num, zI_lt, zI_le, zI_eq, zI_nat, zz_b, if_pos, if_neg, if_true, if_false]
  · have hv1 := hb.2.2.2.2.2.2.2.2.1 h
    have hcv := hc (n (391 + b) - 1) (by omega) (by omega)
    simp (disch := first | assumption | omega) only [f_X10_useOf, h, hcv, zz_mdo hW hm, zz_ra hW hm, h1, zz_some, zz_lit, zz_num, zI_lt, zI_le, zI_eq, zI_nat, zz_b, if_pos, if_neg, if_true, if_false]
    by_cases h5 : nFv n (nV n (n (391 + b) - 1) 0) 12 = n (391 + b) - 1
    · simp [h5]
    · simp [h5]
  · simp (disch := first | assumption | omega) only [f_X10_useOf, h, zz_mdo hW hm, zz_ra hW hm, h1, zz_some, zz_lit, zz_num, zI_lt, zI_le, zI_eq, zI_nat, zz_b, if_pos, if_neg, if_true, if_false]
  · simp (disch := first | assumption | omega) only [f_X10_useOf, h, zz_mdo hW hm, zz_ra hW hm, h1, zz_some, zz_lit, zz_num, zI_lt, zI_le, zI_eq, zI_nat, zz_b, if_pos, if_neg, if_true, if_false]
theorem e10_spaceBy_L (hW : zWF E) (hm : zU E 3 0 = true) (h1 : σ 3 0 1 = n) (hn : nW n) (hc : ∀ v, 0 ≤ v → v < n 6 → σ 3 0 23 v = zb (decide (nFv n (nV n v 0) 12 = v))) {s u : Int} (hs0 : -1 ≤ s) (hs1 : s < 100) (hu0 : 0 ≤ u) (hu1 : u ≤ 4) : ∀ (m fuel : Nat) (acc b : Int), 0 ≤ b → b + m = n 0 → m < fuel → f_X10_spaceBy_L9 fuel (zH E σ) (zL E 3 0 0) (zI s) (zI u) (zI acc) (zI b) = some ((zH E σ), zI (acc + zcn (fun b => (decide (s = -1) || decide (n (295 + b) = s + 1)) && decide (nUs n b = u)) b m)) := by
  have hN' := hn.1.r
  intro m
  induction m with
  | zero =>
    intro fuel acc b h0 h2 h3
    obtain ⟨f, rfl, h4⟩ := zfuel h3
    simp (disch := first | assumption | omega) only [f_X10_spaceBy_L9, zcn, zz_mdo hW hm, zz_ra hW hm, h1, zz_some, zz_lit, zz_num, zI_lt, zI_le, zI_eq, zI_nat, zz_b, if_pos, if_neg, if_true, if_false]
    simp
  | succ m ih =>
    intro fuel acc b h0 h2 h3
    obtain ⟨f, rfl, h4⟩ := zfuel h3
    have hb := hn.2.1 b h0 (by omega)
    have hus := nUs_rng n b
    have huse := e10_useOf hW hm h1 hn hc h0 (by omega : b < n 0)
    have i1 := ih f (acc + 1) (b + 1) (by omega) (by omega) (by omega)
    have i0 := ih f (acc + 0) (b + 1) (by omega) (by omega) (by omega)
    simp (disch := first | assumption | omega) only [f_X10_spaceBy_L9, huse, zcn, i0, i1, zz_mdo hW hm, zz_ra hW hm, h1, zz_some, zz_lit, zz_num, zI_lt, zI_le, zI_eq, zI_nat, zz_b, if_pos, if_neg, if_true, if_false]
    by_cases hx : nUs n b = u
    · by_cases ha : s = -1
      · simp [ha, hx, zb]; congr 1; omega
      · by_cases hw : n (295 + b) = s + 1
        · simp [ha, hx, hw, zb]; congr 1; omega
        · simp [ha, hx, hw, zb]
    · simp [hx, zb]
theorem e10_spaceBy (hW : zWF E) (hm : zU E 3 0 = true) (h1 : σ 3 0 1 = n) (hn : nW n) {s u : Int} (hs0 : -1 ≤ s) (hs1 : s < 100) (hu0 : 0 ≤ u) (hu1 : u ≤ 4) : ∃ σ', f_X10_spaceBy (zH E σ) (zL E 3 0 0) (zI s) (zI u) = some (zH E σ', zI (nSp n s u)) ∧ zQ σ σ' := by
  have hN' := hn.1.r
  obtain ⟨σ1, a1, a2, a3⟩ := e10_findsCounting hW hm h1 hn
  refine ⟨σ1, ?_, a2⟩
  simp (disch := first | assumption | omega) only [f_X10_spaceBy, a1, zz_mdo hW hm, zz_ra hW hm, h1, zz_some, zz_lit, zz_num, zI_lt, zI_le, zI_eq, zI_nat, zz_b, if_pos, if_neg, if_true, if_false]
  rw [e10_spaceBy_L hW hm (a2.n.trans h1) hn a3 hs0 hs1 hu0 hu1 (n 0).toNat _ _ _ (by omega) (by omega) (by unfold g_N; omega)]
  simp [nSp]
/-! what it writes -/
theorem e10_lays (hW : zWF E) (hm : zU E 3 0 = true) (n : zN) {b kind se v k : Int} (h0 : 0 ≤ b) (h2 : b < 96) : f_X10_lays (zH E (zw σ n)) (zL E 3 0 0) (zI b) (zI kind) (zI se) (zI v) (zI k) = some (zH E (zw σ (nLay n b kind se v k))) := by
  simp (disch := first | assumption | omega) only [f_X10_lays, zz_mdo hW hm, zz_ra hW hm, zs_zw, zz_some, zz_lit, zz_num, zI_lt, zI_le, zI_eq, zI_nat, zz_b, if_pos, if_neg, if_true, if_false]
  rfl
theorem e10_tks (hW : zWF E) (hm : zU E 3 0 = true) {kind se v k b : Int} (hb0 : 0 ≤ b) (hb1 : b < 96) : ∀ (m fuel : Nat) (n : zN) (s : Int), 0 ≤ s → s + m ≤ 96 → (∀ c, 0 ≤ c → c < 96 → (0 ≤ n (7 + c) ∧ n (7 + c) ≤ 3) ∧ (n (103 + c) = 0 ∨ n (103 + c) = 1)) → (∃ g, s ≤ g ∧ g < s + m ∧ n (7 + g) = 0 ∧ n (103 + g) = 0) → m < fuel → f_X10_writesBlock_L59 fuel (zH E (zw σ n)) (zL E 3 0 0) (zI kind) (zI se) (zI v) (zI k) (zI b) (zI s) = some (zH E (zw σ (zu (zu (nLay (nTks n se s m).1 (nTks n se s m).2 kind se v k) (583 + (nTks n se s m).2) (b + 1)) (679 + b) ((nTks n se s m).2 + 1)))) := by
  intro m
  induction m with
  | zero =>
    intro fuel n s h0 h2 hr hg h3
    obtain ⟨g, g1, g2, g3⟩ := hg
    omega
  | succ m ih =>
    intro fuel n s h0 h2 hr hg h3
    obtain ⟨f, rfl, h4⟩ := zfuel h3
    have hs := hr s h0 (by omega)
    by_cases hk0 : n (7 + s) = 0
    · by_cases hb0' : n (103 + s) = 0
      · have e : nTks n se s (m + 1) = (n, s) := by rw [nTks, if_pos hk0, if_pos hb0']
        rw [e]
        simp (disch := first | assumption | omega) only [f_X10_writesBlock_L59, zz_mdo hW hm, zz_ra hW hm, zw_at, hk0, hb0', e10_lays hW hm, zs_zw, zz_some, zz_lit, zz_num, zI_lt, zI_le, zI_eq, zI_nat, zz_b, if_pos, if_neg, if_true, if_false]
      · have hb1' : n (103 + s) = 1 := by omega
        have e : nTks n se s (m + 1) = nTks (nLay n s 3 se (-1) (-1)) se (s + 1) m := by rw [nTks, if_pos hk0, if_neg hb0']
        rw [e, ← ih f (nLay n s 3 se (-1) (-1)) (s + 1) (by omega) (by omega) (fun c c0 c1 => by
          have hl := nLay_at n (b := s) (kind := 3) (se := se) (v := -1) (k := -1) h0 (by omega) c0 c1
          rw [hl.1, nLay_out n h0 (by omega) (by omega)]
          have := hr c c0 c1
          refine ⟨?_, this.2⟩
          split <;> omega) (by
          obtain ⟨g, g1, g2, g3, g4⟩ := hg
          have hgs : g ≠ s := by
            intro z
            subst z
            omega
          have hl := nLay_at n (b := s) (kind := 3) (se := se) (v := -1) (k := -1) h0 (by omega) (c := g) (by omega) (by omega)
          exact ⟨g, by omega, by omega, by rw [hl.1, if_neg hgs]; exact g3, by rw [nLay_out n h0 (by omega) (by omega)]; exact g4⟩) (by omega)]
        simp (disch := first | assumption | omega) only [f_X10_writesBlock_L59, f_X10_writesBlock_J86, zz_mdo hW hm, zz_ra hW hm, zw_at, hk0, hb1', e10_lays hW hm, zz_some, zz_lit, zz_num, zI_lt, zI_le, zI_eq, zI_nat, zz_b, if_pos, if_neg, if_true, if_false]
    · have e : nTks n se s (m + 1) = nTks n se (s + 1) m := by rw [nTks, if_neg hk0]
      rw [e, ← ih f n (s + 1) (by omega) (by omega) hr (by
        obtain ⟨g, g1, g2, g3, g4⟩ := hg
        have hgs : g ≠ s := by
          intro z
          subst z
          omega
        exact ⟨g, by omega, by omega, g3, g4⟩) (by omega)]
      simp (disch := first | assumption | omega) only [f_X10_writesBlock_L59, f_X10_writesBlock_J86, zz_mdo hW hm, zz_ra hW hm, zw_at, zz_some, zz_lit, zz_num, zI_lt, zI_le, zI_eq, zI_nat, zz_b, if_pos, if_neg, if_true, if_false]
theorem e10_writesBlock (hW : zWF E) (hm : zU E 3 0 = true) {n : zN} (hN : nWn n) (hB : nWb n) {kind se v k : Int} (hr : n 4 < n 0 - n 1) (hg : n (103 + n 4) = 1 → 1 ≤ nGc n) : f_X10_writesBlock (zH E (zw σ n)) (zL E 3 0 0) (zI kind) (zI se) (zI v) (zI k) = some (zH E (zw σ (nWrB n kind se v k))) := by
  have hN' := hN.r
  have hb := hB (n 4) (by omega) (by omega)
  have ho : ∀ i : Int, i ≠ 4 → zu n 4 (n 4 + 1) i = n i := fun i hi => zu_ne hi
  have ho0 := ho 0 (by omega)
  have ho1 := ho 1 (by omega)
  have hob := ho (103 + n 4) (by omega)
  unfold nWrB
  by_cases hz : n (103 + n 4) = 0
  · rw [if_pos hz]
    simp (disch := first | assumption | omega) only [f_X10_writesBlock, zz_mdo hW hm, zz_ra hW hm, zw_at, zs_zw, hob, hz, e10_lays hW hm, zz_some, zz_lit, zz_num, zI_lt, zI_le, zI_eq, zI_nat, zz_b, if_pos, if_neg, if_true, if_false]
  · have hz1 : n (103 + n 4) = 1 := by omega
    rw [if_neg hz]
    obtain ⟨g, g1, g2, g3⟩ := zcn_ex _ _ (hg hz1)
    simp only [Bool.and_eq_true, decide_eq_true_eq] at g3
    obtain ⟨n2, hn2⟩ : ∃ x, x = nLay (zu n 4 (n 4 + 1)) (n 4) 3 se (-1) (-1) := ⟨_, rfl⟩
    have hl := fun (c : Int) (h0 : 0 ≤ c) (h1 : c < 96) => nLay_at (zu n 4 (n 4 + 1)) (b := n 4) (kind := 3) (se := se) (v := -1) (k := -1) (by omega) (by omega) h0 h1
    have hlo : ∀ i : Int, i < 7 ∨ (103 ≤ i ∧ i < 295) ∨ 583 ≤ i → n2 i = zu n 4 (n 4 + 1) i := fun i hi => by rw [hn2]; exact nLay_out _ (by omega) (by omega) hi
    rw [← hn2] at hl ⊢
    have hm0 : f_X10_mainMany (zH E (zw σ n2)) (zL E 3 0 0) = some (zI (n 0 - n 1)) := by
      have q0 : n2 0 = n 0 := by rw [hlo 0 (by omega), ho 0 (by omega)]
      have q1 : n2 1 = n 1 := by rw [hlo 1 (by omega), ho 1 (by omega)]
      simp (disch := first | assumption | omega) only [f_X10_mainMany, zz_mdo hW hm, zz_ra hW hm, zw_at, q0, q1, zz_some, zz_lit, zz_num, zI_lt, zI_le, zI_eq, zI_nat, zz_b, if_pos, if_neg, if_true, if_false]
    rw [← e10_tks hW hm (b := n 4) (by omega) (by omega) (n 1).toNat g_N n2 (n 0 - n 1) (by omega) (by omega) (fun c c0 c1 => by
      have hbc := hB c c0 c1
      rw [(hl c c0 c1).1, hlo _ (by omega), ho _ (by omega), ho _ (by omega)]
      refine ⟨?_, hbc.2.1⟩
      split <;> omega) ⟨g, by omega, by omega, by rw [(hl g (by omega) (by omega)).1, if_neg (by omega), ho _ (by omega)]; exact g3.1, by rw [hlo _ (by omega), ho _ (by omega)]; exact g3.2⟩ (by unfold g_N; omega)]
    simp (disch := first | assumption | omega) only [f_X10_writesBlock, zz_mdo hW hm, zz_ra hW hm, zw_at, zs_zw, hob, hz1, e10_lays hW hm, zz_some, zz_lit, zz_num, zI_lt, zI_le, zI_eq, zI_nat, zz_b, if_pos, if_neg, if_true, if_false]
    rw [← hn2]
    simp (disch := first | assumption | omega) only [zz_mdo hW hm, hm0, zz_some, zz_lit, zz_num, zI_lt, zI_le, zI_eq, zI_nat, zz_b, if_pos, if_neg, if_true, if_false]
theorem e10_sets (hW : zWF E) (hm : zU E 3 0 = true) (n : zN) {s w x : Int} (h0 : 0 ≤ s) (h2 : s < 12) (h3 : 0 ≤ w) (h4 : w < 25) : f_X10_sets (zH E (zw σ n)) (zL E 3 0 0) (zI s) (zI w) (zI x) = some (zH E (zw σ (zus n s w x))) := by
  simp (disch := first | assumption | omega) only [f_X10_sets, zz_mdo hW hm, zz_ra hW hm, zs_zw, zz_some, zz_lit, zz_num, zI_lt, zI_le, zI_eq, zI_nat, zz_b, if_pos, if_neg, if_true, if_false]
  rfl
end zMod

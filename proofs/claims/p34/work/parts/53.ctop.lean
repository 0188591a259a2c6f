/-! The class's calls that only read. -/
theorem zz_ex {α : Type} {x : α} {p : α → Prop} : (∃ v, some x = some v ∧ p v) = p x := propext ⟨fun ⟨v, h, q⟩ => by rw [Option.some.inj h]; exact q, fun q => ⟨x, rfl, q⟩⟩
theorem zz_exu {p : Prop} : (∃ _ : Unit, True ∧ p) = p := propext ⟨fun ⟨_, _, q⟩ => q, fun q => ⟨(), trivial, q⟩⟩
/-- only views differ -/
def zFv (σ σ' : zW) : Prop := ∀ k, k ≠ 1 → ∀ d c, σ' k d c = σ k d c
theorem zFv.rf {σ : zW} : zFv σ σ := fun _ _ _ _ => rfl
theorem zFv.f {σ σ' : zW} {d : Nat} (h : zFr σ σ' 1 d) : zFv σ σ' := fun k hk d' c => by rw [h k d' (by omega)]
theorem zFv.tr {σ σ1 σ2 : zW} (h : zFv σ σ1) (h2 : zFv σ1 σ2) : zFv σ σ2 := fun k hk d c => (h2 k hk d c).trans (h k hk d c)
theorem c9_idx {G : gH} {x m : Int} {KX : String → gH → Prop} {K : gH → Prop} (hx0 : -2147483648 ≤ x) (hx1 : x < 2147483648) (hm0 : 0 ≤ m) (hm1 : m < 1000) : w_X9_checkIndex G (zI x) (zI m) KX K = if 0 ≤ x ∧ x < m then K G else KX g_xIOB G := by
  by_cases h : x < 0
  · rw [if_neg (by omega)]
    simp (disch := first | assumption | omega) only [w_X9_checkIndex, zz_some, zz_lit, zz_num, zI_lt, zI_le, zI_eq, zI_nat, zz_b, if_pos, if_neg, if_true, if_false]
  · by_cases h2 : x < m
    · rw [if_pos (by omega)]
      simp (disch := first | assumption | omega) only [w_X9_checkIndex, zz_some, zz_lit, zz_num, zI_lt, zI_le, zI_eq, zI_nat, zz_b, if_pos, if_neg, if_true, if_false]
    · rw [if_neg (by omega)]
      simp (disch := first | assumption | omega) only [w_X9_checkIndex, zz_some, zz_lit, zz_num, zI_lt, zI_le, zI_eq, zI_nat, zz_b, if_pos, if_neg, if_true, if_false]
theorem c9_rng {G : gH} {x lo hi : Int} {KX : String → gH → Prop} {K : gH → Prop} (hx0 : -2147483648 ≤ x) (hx1 : x < 2147483648) (hm0 : 0 ≤ lo) (hm1 : lo < 1000) (hh0 : 0 ≤ hi) (hh1 : hi < 1000) : w_X9_checkRange G (zI x) (zI lo) (zI hi) KX K = if lo ≤ x ∧ x ≤ hi then K G else KX g_xIAE G := by
  by_cases h : x < lo
  · rw [if_neg (by omega)]
    simp (disch := first | assumption | omega) only [w_X9_checkRange, zz_some, zz_lit, zz_num, zI_lt, zI_le, zI_eq, zI_nat, zz_b, if_pos, if_neg, if_true, if_false]
  · by_cases h2 : x ≤ hi
    · rw [if_pos (by omega)]
      simp (disch := first | assumption | omega) only [w_X9_checkRange, zz_some, zz_lit, zz_num, zI_lt, zI_le, zI_eq, zI_nat, zz_b, if_pos, if_neg, if_true, if_false]
    · rw [if_neg (by omega)]
      simp (disch := first | assumption | omega) only [w_X9_checkRange, zz_some, zz_lit, zz_num, zI_lt, zI_le, zI_eq, zI_nat, zz_b, if_pos, if_neg, if_true, if_false]
theorem c9_all {G : gH} {x : Int} {KX : String → gH → Prop} {K : gH → Prop} (hx0 : -2147483648 ≤ x) (hx1 : x < 2147483648) : w_X9_checkAllowed G (zI x) KX K = if x = 0 then K G else KX g_xISE G := by
  by_cases h : x = 0
  · rw [if_pos h]
    simp (disch := first | assumption | omega) only [w_X9_checkAllowed, h, zz_some, zz_lit, zz_num, zI_lt, zI_le, zI_eq, zI_nat, zz_b, if_pos, if_neg, if_true, if_false]
  · rw [if_neg h]
    simp (disch := first | assumption | omega) only [w_X9_checkAllowed, zz_some, zz_lit, zz_num, zI_lt, zI_le, zI_eq, zI_nat, zz_b, if_pos, if_neg, if_true, if_false]
theorem c9_one {G : gH} (b : Bool) : f_X9_oneIf G (zI (zb b)) = some (zI (zb b)) := by cases b <;> rfl
section zCls
variable {E : zE} {σ : zW} {d : Nat} {n : zN}

theorem c9_block (hW : zWF E) (hm : zU E 2 0 = true) (hd : (σ 2 0 0 5).toNat = d) (hu : zU E 0 d = true) (hv : zU E 1 d = true) (hR : zRd (σ 0 d) n) (hn : nW n) {y : Int} (hy0 : -2147483648 ≤ y) (hy1 : y < 2147483648) {x : Int} (hx0 : -2147483648 ≤ x) (hx1 : x < 2147483648) {KX : String → gH → Prop} {K : Int32 → gH → Prop} (h : if 0 ≤ y ∧ y < n 0 then (if 0 ≤ x ∧ x ≤ 6 then ∀ σ', zFv σ σ' → K (zI (aBlock n y x)) (zH E σ') else KX g_xIAE (zH E σ)) else KX g_xIOB (zH E σ)) : w_X9_block (zH E σ) (zL E 2 0 0) (zI y) (zI x) KX K := by
  have m5 := zg_ma5 (σ := σ) hW hm
  rw [hd] at m5
  have hN' := hn.1.r
  have hdc := zz_dco (σ := σ) hW hu
  have hbl := zz_blo (σ := σ) hW hu
  have hvs := zz_vso (σ := σ) hW hu
  have hse := zz_seo (σ := σ) hW hu
  have ec := e0_count hW hu hR.1.1 hn.1 hn.2.1
  have es := e5_count hW hu hR.2.2.1 hn.1
  have ef : g_i (zH E σ) (zL E 0 d 0) 1 3 = some (zI (n 2)) := by rw [← show σ 0 d 0 3 = n 2 from hR.2.2.2.1]; exact zg_dc3 hW hu
  by_cases hi : 0 ≤ y ∧ y < n 0
  · rw [if_pos hi] at h
    have hi0 := hi.1
    have hi1 := hi.2
    by_cases hc : 0 ≤ x ∧ x ≤ 6
    · rw [if_pos hc] at h
      have hp := e0_property hW hu hR.1.1 hn.1 hn.2.1 hi0 (by omega) hc.1 hc.2
      have h := h σ zFv.rf
      unfold aBlock at h
      simp (disch := first | assumption | omega) only [w_X9_block, m5, hdc, hbl, hvs, hse, ec, es, ef, c9_idx, c9_rng, hi, hc, hp, and_self, zz_ex, zz_exu, zz_some, zz_lit, zz_num, zI_lt, zI_le, zI_eq, zI_nat, zz_b, if_pos, if_neg, if_true, if_false]
      exact h
    · rw [if_neg hc] at h
      refine ⟨zL E 0 d 0, m5, zL E 0 d 1, by simp only [hdc], zI (n 0), ec, ?_⟩
      refine Eq.mpr (c9_idx hy0 hy1 (by omega) (by omega)) ?_
      rw [if_pos hi]
      refine Eq.mpr (c9_rng (lo := 0) (hi := 6) hx0 hx1 (by omega) (by omega) (by omega) (by omega)) ?_
      rw [if_neg hc]
      exact h
  · rw [if_neg hi] at h
    refine ⟨zL E 0 d 0, m5, zL E 0 d 1, by simp only [hdc], zI (n 0), ec, ?_⟩
    refine Eq.mpr (c9_idx hy0 hy1 (by omega) (by omega)) ?_
    rw [if_neg hi]
    exact h
theorem c9_whyNotWrite (hW : zWF E) (hm : zU E 2 0 = true) (hd : (σ 2 0 0 5).toNat = d) (hu : zU E 0 d = true) (hv : zU E 1 d = true) (hR : zRd (σ 0 d) n) (hn : nW n) {y : Int} (hy0 : -2147483648 ≤ y) (hy1 : y < 2147483648) {x : Int} (hx0 : -2147483648 ≤ x) (hx1 : x < 2147483648) {KX : String → gH → Prop} {K : Int32 → gH → Prop} (h : if 0 ≤ y ∧ y < n 2 then (if 1 ≤ x ∧ x ≤ 8 then ∀ σ', zFv σ σ' → K (zI (nWw n y x)) (zH E σ') else KX g_xIAE (zH E σ)) else KX g_xIOB (zH E σ)) : w_X9_whyNotWrite (zH E σ) (zL E 2 0 0) (zI y) (zI x) KX K := by
  have m5 := zg_ma5 (σ := σ) hW hm
  rw [hd] at m5
  have hN' := hn.1.r
  have hdc := zz_dco (σ := σ) hW hu
  have hbl := zz_blo (σ := σ) hW hu
  have hvs := zz_vso (σ := σ) hW hu
  have hse := zz_seo (σ := σ) hW hu
  have ec := e0_count hW hu hR.1.1 hn.1 hn.2.1
  have es := e5_count hW hu hR.2.2.1 hn.1
  have ef : g_i (zH E σ) (zL E 0 d 0) 1 3 = some (zI (n 2)) := by rw [← show σ 0 d 0 3 = n 2 from hR.2.2.2.1]; exact zg_dc3 hW hu
  by_cases hi : 0 ≤ y ∧ y < n 2
  · rw [if_pos hi] at h
    have hi0 := hi.1
    have hi1 := hi.2
    by_cases hc : 1 ≤ x ∧ x ≤ 8
    · rw [if_pos hc] at h
      have hp := e1_reasonAgainstWrite (x := y) (m := x) hW hu hR hn (by omega) (by omega) (by omega) (by omega)
      have h := h σ zFv.rf
      simp (disch := first | assumption | omega) only [w_X9_whyNotWrite, m5, hdc, hbl, hvs, hse, ec, es, ef, c9_idx, c9_rng, hi, hc, hp, and_self, zz_ex, zz_exu, zz_some, zz_lit, zz_num, zI_lt, zI_le, zI_eq, zI_nat, zz_b, if_pos, if_neg, if_true, if_false]
      exact h
    · rw [if_neg hc] at h
      refine ⟨zL E 0 d 0, m5, zI (n 2), ef, ?_⟩
      refine Eq.mpr (c9_idx hy0 hy1 (by omega) (by omega)) ?_
      rw [if_pos hi]
      refine Eq.mpr (c9_rng (lo := 1) (hi := 8) hx0 hx1 (by omega) (by omega) (by omega) (by omega)) ?_
      rw [if_neg hc]
      exact h
  · rw [if_neg hi] at h
    refine ⟨zL E 0 d 0, m5, zI (n 2), ef, ?_⟩
    refine Eq.mpr (c9_idx hy0 hy1 (by omega) (by omega)) ?_
    rw [if_neg hi]
    exact h
theorem c9_spaceOf (hW : zWF E) (hm : zU E 2 0 = true) (hd : (σ 2 0 0 5).toNat = d) (hu : zU E 0 d = true) (hv : zU E 1 d = true) (hR : zRd (σ 0 d) n) (hn : nW n) {y : Int} (hy0 : -2147483648 ≤ y) (hy1 : y < 2147483648) {x : Int} (hx0 : -2147483648 ≤ x) (hx1 : x < 2147483648) {KX : String → gH → Prop} {K : Int32 → gH → Prop} (h : if 0 ≤ y ∧ y < n 3 then (if 1 ≤ x ∧ x ≤ 4 then ∀ σ', zFv σ σ' → K (zI (nSp n y x)) (zH E σ') else KX g_xIAE (zH E σ)) else KX g_xIOB (zH E σ)) : w_X9_spaceOf (zH E σ) (zL E 2 0 0) (zI y) (zI x) KX K := by
  have m5 := zg_ma5 (σ := σ) hW hm
  rw [hd] at m5
  have hN' := hn.1.r
  have hdc := zz_dco (σ := σ) hW hu
  have hbl := zz_blo (σ := σ) hW hu
  have hvs := zz_vso (σ := σ) hW hu
  have hse := zz_seo (σ := σ) hW hu
  have ec := e0_count hW hu hR.1.1 hn.1 hn.2.1
  have es := e5_count hW hu hR.2.2.1 hn.1
  have ef : g_i (zH E σ) (zL E 0 d 0) 1 3 = some (zI (n 2)) := by rw [← show σ 0 d 0 3 = n 2 from hR.2.2.2.1]; exact zg_dc3 hW hu
  by_cases hi : 0 ≤ y ∧ y < n 3
  · rw [if_pos hi] at h
    have hi0 := hi.1
    have hi1 := hi.2
    by_cases hc : 1 ≤ x ∧ x ≤ 4
    · rw [if_pos hc] at h
      obtain ⟨σ1, b1, b2⟩ := e1_blocksUsed (s := y) (u := x) hW hu hv hn hR (by omega) (by omega) (by omega) hc.2
      have h := h σ1 (zFv.f b2)
      simp (disch := first | assumption | omega) only [w_X9_spaceOf, m5, hdc, hbl, hvs, hse, ec, es, ef, c9_idx, c9_rng, hi, hc, b1, and_self, zz_ex, zz_exu, zz_some, zz_lit, zz_num, zI_lt, zI_le, zI_eq, zI_nat, zz_b, if_pos, if_neg, if_true, if_false]
      exact h
    · rw [if_neg hc] at h
      refine ⟨zL E 0 d 0, m5, zL E 0 d 16, by simp only [hdc], zI (n 3), es, ?_⟩
      refine Eq.mpr (c9_idx hy0 hy1 (by omega) (by omega)) ?_
      rw [if_pos hi]
      refine Eq.mpr (c9_rng (lo := 1) (hi := 4) hx0 hx1 (by omega) (by omega) (by omega) (by omega)) ?_
      rw [if_neg hc]
      exact h
  · rw [if_neg hi] at h
    refine ⟨zL E 0 d 0, m5, zL E 0 d 16, by simp only [hdc], zI (n 3), es, ?_⟩
    refine Eq.mpr (c9_idx hy0 hy1 (by omega) (by omega)) ?_
    rw [if_neg hi]
    exact h
theorem c9_place (hW : zWF E) (hm : zU E 2 0 = true) (hd : (σ 2 0 0 5).toNat = d) (hu : zU E 0 d = true) (hv : zU E 1 d = true) (hR : zRd (σ 0 d) n) (hn : nW n) {y : Int} (hy0 : -2147483648 ≤ y) (hy1 : y < 2147483648) {KX : String → gH → Prop} {K : Int32 → gH → Prop} (h : if 0 ≤ y ∧ y < n 0 then ∀ σ', zFv σ σ' → K (zI (aPlace n y)) (zH E σ') else KX g_xIOB (zH E σ)) : w_X9_place (zH E σ) (zL E 2 0 0) (zI y) KX K := by
  have m5 := zg_ma5 (σ := σ) hW hm
  rw [hd] at m5
  have hN' := hn.1.r
  have hdc := zz_dco (σ := σ) hW hu
  have hbl := zz_blo (σ := σ) hW hu
  have hvs := zz_vso (σ := σ) hW hu
  have hse := zz_seo (σ := σ) hW hu
  have ec := e0_count hW hu hR.1.1 hn.1 hn.2.1
  have es := e5_count hW hu hR.2.2.1 hn.1
  have ef : g_i (zH E σ) (zL E 0 d 0) 1 3 = some (zI (n 2)) := by rw [← show σ 0 d 0 3 = n 2 from hR.2.2.2.1]; exact zg_dc3 hW hu
  by_cases hi : 0 ≤ y ∧ y < n 0
  · rw [if_pos hi] at h
    have hi0 := hi.1
    have hi1 := hi.2
    have hp := e0_placeOf (b := y) hW hu hR.1 hn.1 hn.2.1 (by omega) (by omega)
    have h := h σ zFv.rf
    have e : aPlace n y = if 0 ≤ y ∧ y < n 4 then nPl n y else -1 := by
      have hk := (hn.2.1 y hi0 (by omega)).2.2.2.2.2.2.2.2.2.2.2.1
      unfold aPlace
      by_cases h5 : y < n 0 - n 1
      · have hk := hk h5
        rw [if_pos h5]
        by_cases h6 : n (7 + y) = 0
        · rw [if_pos h6, if_neg (by omega)]
        · rw [if_neg h6, if_pos (by omega)]
      · rw [if_neg h5, if_neg (by omega)]
    rw [e] at h
    simp (disch := first | assumption | omega) only [w_X9_place, m5, hdc, hbl, hvs, hse, ec, es, ef, c9_idx, hi, hp, and_self, zz_ex, zz_exu, zz_some, zz_lit, zz_num, zI_lt, zI_le, zI_eq, zI_nat, zz_b, if_pos, if_neg, if_true, if_false]
    simpa [hi0] using h
  · rw [if_neg hi] at h
    refine ⟨zL E 0 d 0, m5, zL E 0 d 1, by simp only [hdc], zI (n 0), ec, ?_⟩
    refine Eq.mpr (c9_idx hy0 hy1 (by omega) (by omega)) ?_
    rw [if_neg hi]
    exact h
theorem c9_filesBefore (hW : zWF E) (hm : zU E 2 0 = true) (hd : (σ 2 0 0 5).toNat = d) (hu : zU E 0 d = true) (hv : zU E 1 d = true) (hR : zRd (σ 0 d) n) (hn : nW n) {y : Int} (hy0 : -2147483648 ≤ y) (hy1 : y < 2147483648) {KX : String → gH → Prop} {K : Int32 → gH → Prop} (h : if 0 ≤ y ∧ y < n 3 then ∀ σ', zFv σ σ' → K (zI (nTh n y)) (zH E σ') else KX g_xIOB (zH E σ)) : w_X9_filesBefore (zH E σ) (zL E 2 0 0) (zI y) KX K := by
  have m5 := zg_ma5 (σ := σ) hW hm
  rw [hd] at m5
  have hN' := hn.1.r
  have hdc := zz_dco (σ := σ) hW hu
  have hbl := zz_blo (σ := σ) hW hu
  have hvs := zz_vso (σ := σ) hW hu
  have hse := zz_seo (σ := σ) hW hu
  have ec := e0_count hW hu hR.1.1 hn.1 hn.2.1
  have es := e5_count hW hu hR.2.2.1 hn.1
  have ef : g_i (zH E σ) (zL E 0 d 0) 1 3 = some (zI (n 2)) := by rw [← show σ 0 d 0 3 = n 2 from hR.2.2.2.1]; exact zg_dc3 hW hu
  by_cases hi : 0 ≤ y ∧ y < n 3
  · rw [if_pos hi] at h
    have hi0 := hi.1
    have hi1 := hi.2
    obtain ⟨σ1, l1, l2, l3⟩ := e1_look hW hu hv hn hR
    have hF1 : zFv σ σ1 := zFv.f l2
    have m51 := zg_ma5 (σ := σ1) hW hm
    rw [hF1 2 (by omega), hd] at m51
    have hR1 : zRd (σ1 0 d) n := by rw [show σ1 0 d = σ 0 d from l2 0 d (by omega)]; exact hR
    have hdc1 := zz_dco (σ := σ1) hW hu
    have hbl1 := zz_blo (σ := σ1) hW hu
    have hvs1 := zz_vso (σ := σ1) hW hu
    have hvw1 := zz_vwo (σ := σ1) hW hv
    have hvw := zz_vwo (σ := σ) hW hv
    have hp := e8_filesThereBefore (y := y) hW hu hv hn hR1 l3 hi0 (by omega)
    have h := h σ1 hF1
    simp (disch := first | assumption | omega) only [w_X9_filesBefore, m5, hdc, hbl, hvs, hse, ec, es, ef, l1, m51, hdc1, hbl1, hvs1, hvw1, hvw, c9_idx, hi, hp, and_self, zz_ex, zz_exu, zz_some, zz_lit, zz_num, zI_lt, zI_le, zI_eq, zI_nat, zz_b, if_pos, if_neg, if_true, if_false]
    exact h
  · rw [if_neg hi] at h
    refine ⟨zL E 0 d 0, m5, zL E 0 d 16, by simp only [hdc], zI (n 3), es, ?_⟩
    refine Eq.mpr (c9_idx hy0 hy1 (by omega) (by omega)) ?_
    rw [if_neg hi]
    exact h
theorem c9_risk (hW : zWF E) (hm : zU E 2 0 = true) (hd : (σ 2 0 0 5).toNat = d) (hu : zU E 0 d = true) (hv : zU E 1 d = true) (hR : zRd (σ 0 d) n) (hn : nW n) (hw : zU E 1 14 = true) (hwd : 14 ≠ d) {y : Int} (hy0 : -2147483648 ≤ y) (hy1 : y < 2147483648) {KX : String → gH → Prop} {K : Int32 → gH → Prop} (h : if 0 ≤ y ∧ y < n 0 then ∀ σ', zFv σ σ' → K (zI (nRk n y)) (zH E σ') else KX g_xIOB (zH E σ)) : w_X9_risk (zH E σ) (zL E 2 0 0) (zI y) KX K := by
  have m5 := zg_ma5 (σ := σ) hW hm
  rw [hd] at m5
  have hN' := hn.1.r
  have hdc := zz_dco (σ := σ) hW hu
  have hbl := zz_blo (σ := σ) hW hu
  have hvs := zz_vso (σ := σ) hW hu
  have hse := zz_seo (σ := σ) hW hu
  have ec := e0_count hW hu hR.1.1 hn.1 hn.2.1
  have es := e5_count hW hu hR.2.2.1 hn.1
  have ef : g_i (zH E σ) (zL E 0 d 0) 1 3 = some (zI (n 2)) := by rw [← show σ 0 d 0 3 = n 2 from hR.2.2.2.1]; exact zg_dc3 hW hu
  by_cases hi : 0 ≤ y ∧ y < n 0
  · rw [if_pos hi] at h
    have hi0 := hi.1
    have hi1 := hi.2
    obtain ⟨σ1, l1, l2, l3⟩ := e1_look hW hu hv hn hR
    have hF1 : zFv σ σ1 := zFv.f l2
    have m51 := zg_ma5 (σ := σ1) hW hm
    rw [hF1 2 (by omega), hd] at m51
    have hR1 : zRd (σ1 0 d) n := by rw [show σ1 0 d = σ 0 d from l2 0 d (by omega)]; exact hR
    have hdc1 := zz_dco (σ := σ1) hW hu
    have hbl1 := zz_blo (σ := σ1) hW hu
    have hvs1 := zz_vso (σ := σ1) hW hu
    have hvw1 := zz_vwo (σ := σ1) hW hv
    have hvw := zz_vwo (σ := σ) hW hv
    have m4 := zg_ma4 (σ := σ1) hW hm
    obtain ⟨σ2, b1, b2⟩ := e1_filesLostBy (b := y) (w := 14) hW hu hv hn hR1 hw hwd l3 hi0 hi1
    have h := h σ2 (hF1.tr (zFv.f b2))
    simp (disch := first | assumption | omega) only [w_X9_risk, m5, hdc, hbl, hvs, hse, ec, es, ef, l1, m51, hdc1, hbl1, hvs1, hvw1, hvw, c9_idx, hi, m4, b1, and_self, zz_ex, zz_exu, zz_some, zz_lit, zz_num, zI_lt, zI_le, zI_eq, zI_nat, zz_b, if_pos, if_neg, if_true, if_false]
    exact h
  · rw [if_neg hi] at h
    refine ⟨zL E 0 d 0, m5, zL E 0 d 1, by simp only [hdc], zI (n 0), ec, ?_⟩
    refine Eq.mpr (c9_idx hy0 hy1 (by omega) (by omega)) ?_
    rw [if_neg hi]
    exact h
theorem c9_space (hW : zWF E) (hm : zU E 2 0 = true) (hd : (σ 2 0 0 5).toNat = d) (hu : zU E 0 d = true) (hv : zU E 1 d = true) (hR : zRd (σ 0 d) n) (hn : nW n) {x : Int} (hx0 : -2147483648 ≤ x) (hx1 : x < 2147483648) {KX : String → gH → Prop} {K : Int32 → gH → Prop} (h : if 0 ≤ x ∧ x ≤ 4 then ∀ σ', zFv σ σ' → K (zI (nSp n (-1) x)) (zH E σ') else KX g_xIAE (zH E σ)) : w_X9_space (zH E σ) (zL E 2 0 0) (zI x) KX K := by
  have m5 := zg_ma5 (σ := σ) hW hm
  rw [hd] at m5
  have hN' := hn.1.r
  have hdc := zz_dco (σ := σ) hW hu
  have hbl := zz_blo (σ := σ) hW hu
  have hvs := zz_vso (σ := σ) hW hu
  have hse := zz_seo (σ := σ) hW hu
  have ec := e0_count hW hu hR.1.1 hn.1 hn.2.1
  have es := e5_count hW hu hR.2.2.1 hn.1
  have ef : g_i (zH E σ) (zL E 0 d 0) 1 3 = some (zI (n 2)) := by rw [← show σ 0 d 0 3 = n 2 from hR.2.2.2.1]; exact zg_dc3 hW hu
  by_cases hc : 0 ≤ x ∧ x ≤ 4
  · rw [if_pos hc] at h
    have hc0 := hc.1
    have hc1 := hc.2
    obtain ⟨σ1, b1, b2⟩ := e1_blocksUsed (s := -1) (u := x) hW hu hv hn hR (by omega) (by omega) hc0 hc1
    have h := h σ1 (zFv.f b2)
    simp (disch := first | assumption | omega) only [w_X9_space, m5, hdc, hbl, hvs, hse, ec, es, ef, c9_rng, hc, b1, and_self, zz_ex, zz_exu, zz_some, zz_lit, zz_num, zI_lt, zI_le, zI_eq, zI_nat, zz_b, if_pos, if_neg, if_true, if_false]
    exact h
  · rw [if_neg hc] at h
    refine Eq.mpr (c9_rng (lo := 0) (hi := 4) hx0 hx1 (by omega) (by omega) (by omega) (by omega)) ?_
    rw [if_neg hc]
    exact h
theorem c9_whyNot (hW : zWF E) (hm : zU E 2 0 = true) (hd : (σ 2 0 0 5).toNat = d) (hu : zU E 0 d = true) (hv : zU E 1 d = true) (hR : zRd (σ 0 d) n) (hn : nW n) {x : Int} (hx0 : -2147483648 ≤ x) (hx1 : x < 2147483648) {KX : String → gH → Prop} {K : Int32 → gH → Prop} (h : if 0 ≤ x ∧ x ≤ 2 then ∀ σ', zFv σ σ' → K (zI (aWhyNot n x)) (zH E σ') else KX g_xIAE (zH E σ)) : w_X9_whyNot (zH E σ) (zL E 2 0 0) (zI x) KX K := by
  have m5 := zg_ma5 (σ := σ) hW hm
  rw [hd] at m5
  have hN' := hn.1.r
  have hdc := zz_dco (σ := σ) hW hu
  have hbl := zz_blo (σ := σ) hW hu
  have hvs := zz_vso (σ := σ) hW hu
  have hse := zz_seo (σ := σ) hW hu
  have ec := e0_count hW hu hR.1.1 hn.1 hn.2.1
  have es := e5_count hW hu hR.2.2.1 hn.1
  have ef : g_i (zH E σ) (zL E 0 d 0) 1 3 = some (zI (n 2)) := by rw [← show σ 0 d 0 3 = n 2 from hR.2.2.2.1]; exact zg_dc3 hW hu
  by_cases hc : 0 ≤ x ∧ x ≤ 2
  · rw [if_pos hc] at h
    have hc0 := hc.1
    have hc1 := hc.2
    have h := h σ zFv.rf
    have p0 := e1_reasonAgainstClose hW hu hR hn
    have p1 := e1_reasonAgainstCrash hW hu hR hn
    have p2 := e1_reasonAgainstRecover hW hu hR hn
    have e1 : zb (!nOp n) = if nOp n = true then 0 else 1 := by cases nOp n <;> rfl
    unfold aWhyNot at h
    have hc : x = 0 ∨ x = 1 ∨ x = 2 := by omega
    rcases hc with rfl | rfl | rfl
    all_goals simp only [e1] at h
    all_goals simp (disch := first | assumption | omega) only [w_X9_whyNot, m5, hdc, hbl, hvs, hse, ec, es, ef, c9_rng, p0, p1, p2, zz_ex, zz_exu, zz_some, zz_lit, zz_num, zI_lt, zI_le, zI_eq, zI_nat, zz_b, if_pos, if_neg, if_true, if_false]
    all_goals simpa using h
  · rw [if_neg hc] at h
    refine Eq.mpr (c9_rng (lo := 0) (hi := 2) hx0 hx1 (by omega) (by omega) (by omega) (by omega)) ?_
    rw [if_neg hc]
    exact h
theorem c9_session (hW : zWF E) (hm : zU E 2 0 = true) (hd : (σ 2 0 0 5).toNat = d) (hu : zU E 0 d = true) (hv : zU E 1 d = true) (hR : zRd (σ 0 d) n) (hn : nW n) {y : Int} (hy0 : -2147483648 ≤ y) (hy1 : y < 2147483648) {x : Int} (hx0 : -2147483648 ≤ x) (hx1 : x < 2147483648) {KX : String → gH → Prop} {K : Int32 → gH → Prop} (h : if 0 ≤ y ∧ y < n 3 then (if 0 ≤ x ∧ x ≤ 8 then ∀ σ', zFv σ σ' → K (zI (aSession n y x)) (zH E σ') else KX g_xIAE (zH E σ)) else KX g_xIOB (zH E σ)) : w_X9_session (zH E σ) (zL E 2 0 0) (zI y) (zI x) KX K := by
  have m5 := zg_ma5 (σ := σ) hW hm
  rw [hd] at m5
  have hN' := hn.1.r
  have hdc := zz_dco (σ := σ) hW hu
  have hbl := zz_blo (σ := σ) hW hu
  have hvs := zz_vso (σ := σ) hW hu
  have hse := zz_seo (σ := σ) hW hu
  have ec := e0_count hW hu hR.1.1 hn.1 hn.2.1
  have es := e5_count hW hu hR.2.2.1 hn.1
  have ef : g_i (zH E σ) (zL E 0 d 0) 1 3 = some (zI (n 2)) := by rw [← show σ 0 d 0 3 = n 2 from hR.2.2.2.1]; exact zg_dc3 hW hu
  by_cases hi : 0 ≤ y ∧ y < n 3
  · rw [if_pos hi] at h
    have hi0 := hi.1
    have hi1 := hi.2
    by_cases hc : 0 ≤ x ∧ x ≤ 8
    · rw [if_pos hc] at h
      obtain ⟨σ1, l1, l2, l3⟩ := e1_look hW hu hv hn hR
      have hF1 : zFv σ σ1 := zFv.f l2
      have m51 := zg_ma5 (σ := σ1) hW hm
      rw [hF1 2 (by omega), hd] at m51
      have hR1 : zRd (σ1 0 d) n := by rw [show σ1 0 d = σ 0 d from l2 0 d (by omega)]; exact hR
      have hdc1 := zz_dco (σ := σ1) hW hu
      have hbl1 := zz_blo (σ := σ1) hW hu
      have hvs1 := zz_vso (σ := σ1) hW hu
      have hvw1 := zz_vwo (σ := σ1) hW hv
      have hvw := zz_vwo (σ := σ) hW hv
      have hs := hn.2.2.2 y hi0 hi1
      have elk : nLk n y = nS n y 4 - 1 := by
        rw [hs.2.2.2.2.2.1]
        unfold nLk
        by_cases h3 : nS n y 3 = 0
        · rw [if_pos h3, if_neg (by omega)]; rfl
        · rw [if_neg h3, if_pos (by omega)]; omega
      have p0 := e5_stateOf (s := y) hW hu hR.2.2.1 hn.1 (by omega) (by omega)
      rw [if_pos hi] at p0
      have p1 := e5_firstOf (s := y) hW hu hR.2.2.1 hn.1 (by omega) hi1
      rw [if_pos hi0] at p1
      have p2 := e0_mainBlocksOf (s := y) hW hu hR.1.1 hn.1 hn.2.1 hi0 (by omega)
      have p3 := e5_entriesOf (s := y) hW hu hR.2.2.1 hn.1 (by omega) hi1
      rw [if_pos hi0] at p3
      have p4 := e5_directoryOf (s := y) hW hu hR.2.2.1 hn.1 (by omega) hi1
      rw [if_pos hi0] at p4
      have p5 := e0_canReadDir hW hu hR hn hi0 hi1
      have p9 := e5_directoryLengthOf (s := y) hW hu hR.2.2.1 hn.1 hi0 hi1
      have p6 := e5_linkOf hW hu hR.2.2.1 hn.1 hn.2.2.2 hi0 hi1
      rw [elk] at p6
      have p7 := e8_reached hW hv l3 hn hi0 hi1
      have p8 := e0_spareBlocksOf (s := y) hW hu hR.1.1 hn.1 hn.2.1 hi0 (by omega)
      have h1 := h σ1 hF1
      have h := h σ zFv.rf
      unfold aSession at h h1
      have hc : x = 0 ∨ x = 1 ∨ x = 2 ∨ x = 3 ∨ x = 4 ∨ x = 5 ∨ x = 6 ∨ x = 7 ∨ x = 8 := by omega
      rcases hc with rfl | rfl | rfl | rfl | rfl | rfl | rfl | rfl | rfl
      all_goals simp (disch := first | assumption | omega) only [w_X9_session, m5, hdc, hbl, hvs, hse, ec, es, ef, l1, m51, hdc1, hbl1, hvs1, hvw1, hvw, c9_idx, c9_rng, hi, and_self, p0, p1, p2, p3, p4, p9, p5, p6, p7, p8, c9_one, zz_ex, zz_exu, zz_some, zz_lit, zz_num, zI_lt, zI_le, zI_eq, zI_nat, zz_b, if_pos, if_neg, if_true, if_false]
      all_goals first
        | simpa using h
        | simpa using h1
    · rw [if_neg hc] at h
      refine ⟨zL E 0 d 0, m5, zL E 0 d 16, by simp only [hdc], zI (n 3), es, ?_⟩
      refine Eq.mpr (c9_idx hy0 hy1 (by omega) (by omega)) ?_
      rw [if_pos hi]
      refine Eq.mpr (c9_rng (lo := 0) (hi := 8) hx0 hx1 (by omega) (by omega) (by omega) (by omega)) ?_
      rw [if_neg hc]
      exact h
  · rw [if_neg hi] at h
    refine ⟨zL E 0 d 0, m5, zL E 0 d 16, by simp only [hdc], zI (n 3), es, ?_⟩
    refine Eq.mpr (c9_idx hy0 hy1 (by omega) (by omega)) ?_
    rw [if_neg hi]
    exact h
theorem c9_file (hW : zWF E) (hm : zU E 2 0 = true) (hd : (σ 2 0 0 5).toNat = d) (hu : zU E 0 d = true) (hv : zU E 1 d = true) (hR : zRd (σ 0 d) n) (hn : nW n) {y : Int} (hy0 : -2147483648 ≤ y) (hy1 : y < 2147483648) {x : Int} (hx0 : -2147483648 ≤ x) (hx1 : x < 2147483648) {KX : String → gH → Prop} {K : Int32 → gH → Prop} (h : if 0 ≤ y ∧ y < n 2 then (if 0 ≤ x ∧ x ≤ 6 then ∀ σ', zFv σ σ' → K (zI (aFile n y x)) (zH E σ') else KX g_xIAE (zH E σ)) else KX g_xIOB (zH E σ)) : w_X9_file (zH E σ) (zL E 2 0 0) (zI y) (zI x) KX K := by
  have m5 := zg_ma5 (σ := σ) hW hm
  rw [hd] at m5
  have hN' := hn.1.r
  have hdc := zz_dco (σ := σ) hW hu
  have hbl := zz_blo (σ := σ) hW hu
  have hvs := zz_vso (σ := σ) hW hu
  have hse := zz_seo (σ := σ) hW hu
  have ec := e0_count hW hu hR.1.1 hn.1 hn.2.1
  have es := e5_count hW hu hR.2.2.1 hn.1
  have ef : g_i (zH E σ) (zL E 0 d 0) 1 3 = some (zI (n 2)) := by rw [← show σ 0 d 0 3 = n 2 from hR.2.2.2.1]; exact zg_dc3 hW hu
  by_cases hi : 0 ≤ y ∧ y < n 2
  · rw [if_pos hi] at h
    have hi0 := hi.1
    have hi1 := hi.2
    by_cases hc : 0 ≤ x ∧ x ≤ 6
    · rw [if_pos hc] at h
      obtain ⟨σ1, l1, l2, l3⟩ := e1_look hW hu hv hn hR
      have hF1 : zFv σ σ1 := zFv.f l2
      have m51 := zg_ma5 (σ := σ1) hW hm
      rw [hF1 2 (by omega), hd] at m51
      have hR1 : zRd (σ1 0 d) n := by rw [show σ1 0 d = σ 0 d from l2 0 d (by omega)]; exact hR
      have hdc1 := zz_dco (σ := σ1) hW hu
      have hbl1 := zz_blo (σ := σ1) hW hu
      have hvs1 := zz_vso (σ := σ1) hW hu
      have hvw1 := zz_vwo (σ := σ1) hW hv
      have hvw := zz_vwo (σ := σ) hW hv
      have hf := nFv_rng hn y 12
      have q1 := e8_versionOf hW hv l3 hn hi0 hi1
      have q2 := e8_isReadable hW hv l3 hn hi0 hi1
      have q3 := e7_lengthOf (v := nFv n y 12) hW hu hR1.2.1 hn.1 (by omega) (by omega)
      have q4 := e7_tagOf (v := nFv n y 12) hW hu hR1.2.1 hn.1 (by omega) (by omega)
      have q5 := e8_sessionOf hW hv l3 hn hi0 hi1
      have q6 := e7_countOf (x := y) hW hu hR1.2.1 hn.1 hn.2.2.1 hi0 (by omega)
      have o0 : f_X9_oneIf (zH E σ1) (zI 0) = some (zI 0) := c9_one false
      have o1 : f_X9_oneIf (zH E σ1) (zI 1) = some (zI 1) := c9_one true
      have o2 := c9_one (G := zH E σ1) (nGd n y)
      have h := h σ1 hF1
      refine ⟨zL E 0 d 0, m5, zI (n 2), ef, ?_⟩
      refine Eq.mpr (c9_idx hy0 hy1 (by omega) (by omega)) ?_
      rw [if_pos hi]
      refine Eq.mpr (c9_rng (lo := 0) (hi := 6) hx0 hx1 (by omega) (by omega) (by omega) (by omega)) ?_
      rw [if_pos hc]
      unfold aFile at h
      by_cases hg : nFv n y 12 = -1
      · have eg : nGd n y = false := by unfold nGd; rw [hg]; rfl
        rw [eg] at q2 o2
        rw [hg] at q1 q3 q4 h
        have hc : x = 0 ∨ x = 1 ∨ x = 2 ∨ x = 3 ∨ x = 4 ∨ x = 5 ∨ x = 6 := by omega
        rcases hc with rfl | rfl | rfl | rfl | rfl | rfl | rfl
        all_goals simp (disch := first | assumption | omega) only [m5, hdc, hbl, hvs, hse, ec, es, ef, l1, m51, hdc1, hbl1, hvs1, hvw1, hvw, q1, q2, q3, q4, q5, q6, o0, o1, o2, zz_ex, zz_exu, zz_some, zz_lit, zz_num, zI_lt, zI_le, zI_eq, zI_nat, zz_b, if_pos, if_neg, if_true, if_false]
        all_goals simpa [zb] using h
      · have eg : nGd n y = nRv n (nFv n y 12) := by unfold nGd; rw [decide_eq_true hg, Bool.true_and]
        rw [if_pos (by omega)] at q3 q4
        rw [if_neg hg, if_neg hg, if_neg hg, if_neg hg, ← eg] at h
        have hc : x = 0 ∨ x = 1 ∨ x = 2 ∨ x = 3 ∨ x = 4 ∨ x = 5 ∨ x = 6 := by omega
        rcases hc with rfl | rfl | rfl | rfl | rfl | rfl | rfl
        all_goals simp (disch := first | assumption | omega) only [m5, hdc, hbl, hvs, hse, ec, es, ef, l1, m51, hdc1, hbl1, hvs1, hvw1, hvw, q1, q2, q3, q4, q5, q6, o0, o1, o2, zz_ex, zz_exu, zz_some, zz_lit, zz_num, zI_lt, zI_le, zI_eq, zI_nat, zz_b, if_pos, if_neg, if_true, if_false]
        all_goals simpa using h
    · rw [if_neg hc] at h
      refine ⟨zL E 0 d 0, m5, zI (n 2), ef, ?_⟩
      refine Eq.mpr (c9_idx hy0 hy1 (by omega) (by omega)) ?_
      rw [if_pos hi]
      refine Eq.mpr (c9_rng (lo := 0) (hi := 6) hx0 hx1 (by omega) (by omega) (by omega) (by omega)) ?_
      rw [if_neg hc]
      exact h
  · rw [if_neg hi] at h
    refine ⟨zL E 0 d 0, m5, zI (n 2), ef, ?_⟩
    refine Eq.mpr (c9_idx hy0 hy1 (by omega) (by omega)) ?_
    rw [if_neg hi]
    exact h
theorem c9_where (hW : zWF E) (hm : zU E 2 0 = true) (hd : (σ 2 0 0 5).toNat = d) (hu : zU E 0 d = true) (hv : zU E 1 d = true) (hR : zRd (σ 0 d) n) (hn : nW n) {y : Int} (hy0 : -2147483648 ≤ y) (hy1 : y < 2147483648) {z : Int} (hz0 : -2147483648 ≤ z) (hz1 : z < 2147483648) {KX : String → gH → Prop} {K : Int32 → gH → Prop} (h : if 0 ≤ y ∧ y < n 2 then ∀ σ', zFv σ σ' → K (zI (aWhere n y z)) (zH E σ') else KX g_xIOB (zH E σ)) : w_X9_where (zH E σ) (zL E 2 0 0) (zI y) (zI z) KX K := by
  have m5 := zg_ma5 (σ := σ) hW hm
  rw [hd] at m5
  have hN' := hn.1.r
  have hdc := zz_dco (σ := σ) hW hu
  have hbl := zz_blo (σ := σ) hW hu
  have hvs := zz_vso (σ := σ) hW hu
  have hse := zz_seo (σ := σ) hW hu
  have ec := e0_count hW hu hR.1.1 hn.1 hn.2.1
  have es := e5_count hW hu hR.2.2.1 hn.1
  have ef : g_i (zH E σ) (zL E 0 d 0) 1 3 = some (zI (n 2)) := by rw [← show σ 0 d 0 3 = n 2 from hR.2.2.2.1]; exact zg_dc3 hW hu
  by_cases hi : 0 ≤ y ∧ y < n 2
  · rw [if_pos hi] at h
    have hi0 := hi.1
    have hi1 := hi.2
    obtain ⟨σ1, l1, l2, l3⟩ := e1_look hW hu hv hn hR
    have hF1 : zFv σ σ1 := zFv.f l2
    have m51 := zg_ma5 (σ := σ1) hW hm
    rw [hF1 2 (by omega), hd] at m51
    have hR1 : zRd (σ1 0 d) n := by rw [show σ1 0 d = σ 0 d from l2 0 d (by omega)]; exact hR
    have hdc1 := zz_dco (σ := σ1) hW hu
    have hbl1 := zz_blo (σ := σ1) hW hu
    have hvs1 := zz_vso (σ := σ1) hW hu
    have hvw1 := zz_vwo (σ := σ1) hW hv
    have hvw := zz_vwo (σ := σ) hW hv
    have hf := nFv_rng hn y 12
    have q1 := e8_versionOf hW hv l3 hn hi0 hi1
    have q3 := e7_lengthOf (v := nFv n y 12) hW hu hR1.2.1 hn.1 (by omega) (by omega)
    have q4 := e7_firstOf (v := nFv n y 12) hW hu hR1.2.1 hn.1 (by omega) (by omega)
    have h := h σ1 hF1
    refine ⟨zL E 0 d 0, m5, zI (n 2), ef, ?_⟩
    refine Eq.mpr (c9_idx hy0 hy1 (by omega) (by omega)) ?_
    rw [if_pos hi]
    unfold aWhere at h
    by_cases hz : z < 0
    · rw [show (if nFv n y 12 = -1 then -1 else if 0 ≤ z ∧ z < nV n (nFv n y 12) 2 then nPl n (nV n (nFv n y 12) 1 + z) else -1 : Int) = -1 by
        split
        · rfl
        · rw [if_neg (by omega)]] at h
      simp (disch := first | assumption | omega) only [m5, hdc, hbl, hvs, hse, ec, es, ef, l1, m51, hdc1, hbl1, hvs1, hvw1, hvw, q1, zz_ex, zz_exu, zz_some, zz_lit, zz_num, zI_lt, zI_le, zI_eq, zI_nat, zz_b, if_pos, if_neg, if_true, if_false]
      exact h
    · by_cases hg : nFv n y 12 = -1
      · rw [if_pos hg] at h
        rw [hg] at q1 q3 q4
        rw [if_neg (by omega)] at q3 q4
        simp (disch := first | assumption | omega) only [m5, hdc, hbl, hvs, hse, ec, es, ef, l1, m51, hdc1, hbl1, hvs1, hvw1, hvw, q1, q3, q4, zz_ex, zz_exu, zz_some, zz_lit, zz_num, zI_lt, zI_le, zI_eq, zI_nat, zz_b, if_pos, if_neg, if_true, if_false]
        exact h
      · rw [if_neg hg] at h
        rw [if_pos (by omega)] at q3 q4
        have hvs := hn.2.2.1.2 (nFv n y 12) (by omega) (by omega)
        by_cases hz2 : z < nV n (nFv n y 12) 2
        · rw [if_pos (by omega)] at h
          have q5 := e0_placeOf (b := nV n (nFv n y 12) 1 + z) hW hu hR1.1 hn.1 hn.2.1 (by omega) (by omega)
          rw [if_pos (by omega)] at q5
          simp (disch := first | assumption | omega) only [m5, hdc, hbl, hvs, hse, ec, es, ef, l1, m51, hdc1, hbl1, hvs1, hvw1, hvw, q1, q3, q4, q5, zz_ex, zz_exu, zz_some, zz_lit, zz_num, zI_lt, zI_le, zI_eq, zI_nat, zz_b, if_pos, if_neg, if_true, if_false]
          exact h
        · rw [if_neg (by omega)] at h
          simp (disch := first | assumption | omega) only [m5, hdc, hbl, hvs, hse, ec, es, ef, l1, m51, hdc1, hbl1, hvs1, hvw1, hvw, q1, q3, q4, zz_ex, zz_exu, zz_some, zz_lit, zz_num, zI_lt, zI_le, zI_eq, zI_nat, zz_b, if_pos, if_neg, if_true, if_false]
          exact h
  · rw [if_neg hi] at h
    refine ⟨zL E 0 d 0, m5, zI (n 2), ef, ?_⟩
    refine Eq.mpr (c9_idx hy0 hy1 (by omega) (by omega)) ?_
    rw [if_neg hi]
    exact h
theorem c9_entry (hW : zWF E) (hm : zU E 2 0 = true) (hd : (σ 2 0 0 5).toNat = d) (hu : zU E 0 d = true) (hv : zU E 1 d = true) (hR : zRd (σ 0 d) n) (hn : nW n) {y : Int} (hy0 : -2147483648 ≤ y) (hy1 : y < 2147483648) {x : Int} (hx0 : -2147483648 ≤ x) (hx1 : x < 2147483648) {z : Int} (hz0 : -2147483648 ≤ z) (hz1 : z < 2147483648) {KX : String → gH → Prop} {K : Int32 → gH → Prop} (h : if 0 ≤ y ∧ y < n 3 then (if 0 ≤ x ∧ x ≤ 4 then ∀ σ', zFv σ σ' → K (zI (aEntry n y z x)) (zH E σ') else KX g_xIAE (zH E σ)) else KX g_xIOB (zH E σ)) : w_X9_entry (zH E σ) (zL E 2 0 0) (zI y) (zI z) (zI x) KX K := by
  have m5 := zg_ma5 (σ := σ) hW hm
  rw [hd] at m5
  have hN' := hn.1.r
  have hdc := zz_dco (σ := σ) hW hu
  have hbl := zz_blo (σ := σ) hW hu
  have hvs := zz_vso (σ := σ) hW hu
  have hse := zz_seo (σ := σ) hW hu
  have ec := e0_count hW hu hR.1.1 hn.1 hn.2.1
  have es := e5_count hW hu hR.2.2.1 hn.1
  have ef : g_i (zH E σ) (zL E 0 d 0) 1 3 = some (zI (n 2)) := by rw [← show σ 0 d 0 3 = n 2 from hR.2.2.2.1]; exact zg_dc3 hW hu
  by_cases hi : 0 ≤ y ∧ y < n 3
  · rw [if_pos hi] at h
    have hi0 := hi.1
    have hi1 := hi.2
    by_cases hc : 0 ≤ x ∧ x ≤ 4
    · rw [if_pos hc] at h
      have h := h σ zFv.rf
      have hsl := e5_fileAt hW hu hR.2.2.1 hn.1 hn.2.2.2 hi0 hi1 hz0 hz1
      refine ⟨zL E 0 d 0, m5, zL E 0 d 16, by simp only [hdc], zI (n 3), es, ?_⟩
      refine Eq.mpr (c9_idx hy0 hy1 (by omega) (by omega)) ?_
      rw [if_pos hi]
      refine Eq.mpr (c9_rng (lo := 0) (hi := 4) hx0 hx1 (by omega) (by omega) (by omega) (by omega)) ?_
      rw [if_pos hc]
      unfold aEntry at h
      have h2 := nEw2 hn hi0 hi1
      by_cases hz : 0 ≤ z ∧ z < nS n y 2
      · rw [if_pos hz] at h hsl
        have hen := (hn.2.2.2 y hi0 hi1).2.2.2.2.2.2 z hz.1 hz.2
        have q1 := e5_versionFor (x := nS n y (5 + 2 * z)) hW hu hR.2.2.1 hn.1 hn.2.2.2 hi0 hi1 hen.1.1 (by omega)
        rw [nEn_at hn.2.2.2 hn.1 hi0 hi1 hz.1 hz.2, if_neg (by omega)] at q1
        have q2 := e7_firstOf (v := nS n y (6 + 2 * z)) hW hu hR.2.1 hn.1 (by omega) (by omega)
        have q3 := e7_lengthOf (v := nS n y (6 + 2 * z)) hW hu hR.2.1 hn.1 (by omega) (by omega)
        have q4 := e7_tagOf (v := nS n y (6 + 2 * z)) hW hu hR.2.1 hn.1 (by omega) (by omega)
        by_cases hg : nS n y (6 + 2 * z) = -1
        · rw [if_pos hg] at h
          rw [if_neg (by omega)] at q2 q3 q4
          rw [hg] at q1 q2 q3 q4
          have hc : x = 0 ∨ x = 1 ∨ x = 2 ∨ x = 3 ∨ x = 4 := by omega
          rcases hc with rfl | rfl | rfl | rfl | rfl
          all_goals simp (disch := first | assumption | omega) only [m5, hdc, hbl, hvs, hse, ec, es, ef, hsl, q1, q2, q3, q4, zz_ex, zz_exu, zz_some, zz_lit, zz_num, zI_lt, zI_le, zI_eq, zI_nat, zz_b, if_pos, if_neg, if_true, if_false]
          all_goals simpa [hg] using h
        · rw [if_neg hg] at h
          rw [if_pos (by omega)] at q2 q3 q4
          have hc : x = 0 ∨ x = 1 ∨ x = 2 ∨ x = 3 ∨ x = 4 := by omega
          rcases hc with rfl | rfl | rfl | rfl | rfl
          all_goals simp (disch := first | assumption | omega) only [m5, hdc, hbl, hvs, hse, ec, es, ef, hsl, q1, q2, q3, q4, zz_ex, zz_exu, zz_some, zz_lit, zz_num, zI_lt, zI_le, zI_eq, zI_nat, zz_b, if_pos, if_neg, if_true, if_false]
          all_goals simpa using h
      · rw [if_neg hz] at h hsl
        simp (disch := first | assumption | omega) only [m5, hdc, hbl, hvs, hse, ec, es, ef, hsl, zz_ex, zz_exu, zz_some, zz_lit, zz_num, zI_lt, zI_le, zI_eq, zI_nat, zz_b, if_pos, if_neg, if_true, if_false]
        simpa using h
    · rw [if_neg hc] at h
      refine ⟨zL E 0 d 0, m5, zL E 0 d 16, by simp only [hdc], zI (n 3), es, ?_⟩
      refine Eq.mpr (c9_idx hy0 hy1 (by omega) (by omega)) ?_
      rw [if_pos hi]
      refine Eq.mpr (c9_rng (lo := 0) (hi := 4) hx0 hx1 (by omega) (by omega) (by omega) (by omega)) ?_
      rw [if_neg hc]
      exact h
  · rw [if_neg hi] at h
    refine ⟨zL E 0 d 0, m5, zL E 0 d 16, by simp only [hdc], zI (n 3), es, ?_⟩
    refine Eq.mpr (c9_idx hy0 hy1 (by omega) (by omega)) ?_
    rw [if_neg hi]
    exact h
theorem c9_size (hW : zWF E) (hm : zU E 2 0 = true) (hd : (σ 2 0 0 5).toNat = d) (hu : zU E 0 d = true) (hv : zU E 1 d = true) (hR : zRd (σ 0 d) n) (hn : nW n) {u : Int} (hh : σ 2 0 4 0 = u) {x : Int} (hx0 : -2147483648 ≤ x) (hx1 : x < 2147483648) {KX : String → gH → Prop} {K : Int32 → gH → Prop} (h : if 0 ≤ x ∧ x ≤ 12 then ∀ σ', zFv σ σ' → K (zI (aSize n u x)) (zH E σ') else KX g_xIAE (zH E σ)) : w_X9_size (zH E σ) (zL E 2 0 0) (zI x) KX K := by
  have m5 := zg_ma5 (σ := σ) hW hm
  rw [hd] at m5
  have hN' := hn.1.r
  have hdc := zz_dco (σ := σ) hW hu
  have hbl := zz_blo (σ := σ) hW hu
  have hvs := zz_vso (σ := σ) hW hu
  have hse := zz_seo (σ := σ) hW hu
  have ec := e0_count hW hu hR.1.1 hn.1 hn.2.1
  have es := e5_count hW hu hR.2.2.1 hn.1
  have ef : g_i (zH E σ) (zL E 0 d 0) 1 3 = some (zI (n 2)) := by rw [← show σ 0 d 0 3 = n 2 from hR.2.2.2.1]; exact zg_dc3 hW hu
  by_cases hc : 0 ≤ x ∧ x ≤ 12
  · rw [if_pos hc] at h
    have hc0 := hc.1
    have hc1 := hc.2
    obtain ⟨σ1, l1, l2, l3⟩ := e1_look hW hu hv hn hR
    have hF1 : zFv σ σ1 := zFv.f l2
    have m51 := zg_ma5 (σ := σ1) hW hm
    rw [hF1 2 (by omega), hd] at m51
    have hR1 : zRd (σ1 0 d) n := by rw [show σ1 0 d = σ 0 d from l2 0 d (by omega)]; exact hR
    have hdc1 := zz_dco (σ := σ1) hW hu
    have hbl1 := zz_blo (σ := σ1) hW hu
    have hvs1 := zz_vso (σ := σ1) hW hu
    have hvw1 := zz_vwo (σ := σ1) hW hv
    have hvw := zz_vwo (σ := σ) hW hv
    have ma := zz_mao (σ := σ) hW hm
    have eh := zg_hi0 (σ := σ) hW hm
    rw [hh] at eh
    have p1 : zI (n 0) - zI (n 0 - n 1) = zI (n 1) := by rw [zI_sub]; congr 1; omega
    have e1 := e0_main hW hu hR.1.1 hn.1 hn.2.1
    have e4 := e0_next hW hu hR.1.1 hn.1 hn.2.1
    have q5 := e0_emptySpares hW hu hR.1.1 hn.1 hn.2.1
    have q6 := e0_badOnes hW hu hR.1.1 hn.1 hn.2.1
    have q7 := e8_filesThere hW hv l3 hn
    have q8 := e8_filesReadable hW hv l3 hn
    rw [show nGs n = zcn (nGd n) 0 (n 2).toNat from rfl] at q8
    have q9 := e5_isOpen hW hu hR.2.2.1 hn.1 hn.2.2.2
    have o9 := c9_one (G := zH E σ) (nOp n)
    have q10 : g_i (zH E σ) (zL E 0 d 0) 1 5 = some (zI (n 5)) := by rw [← show σ 0 d 0 5 = n 5 from hR.2.2.2.2]; exact zg_dc5 hW hu
    have o10 : f_X9_oneIf (zH E σ) (zI (n 5)) = some (zI (n 5)) := by
      rcases hN'.2.2.2.2.2.1 with h5 | h5 <;> rw [h5] <;> rfl
    have e6 := e7_count hW hu hR.2.1 hn.1
    have h1 := h σ1 hF1
    have h := h σ zFv.rf
    refine Eq.mpr (c9_rng (lo := 0) (hi := 12) hx0 hx1 (by omega) (by omega) (by omega) (by omega)) ?_
    rw [if_pos hc]
    unfold aSize at h h1
    have hcc : x = 0 ∨ x = 1 ∨ x = 2 ∨ x = 3 ∨ x = 4 ∨ x = 5 ∨ x = 6 ∨ x = 7 ∨ x = 8 ∨ x = 9 ∨ x = 10 ∨ x = 11 ∨ x = 12 := by omega
    rcases hcc with rfl | rfl | rfl | rfl | rfl | rfl | rfl | rfl | rfl | rfl | rfl | rfl | rfl
    all_goals simp (disch := first | assumption | omega) only [m5, hdc, hbl, hvs, hse, ec, es, ef, l1, m51, hdc1, hbl1, hvs1, hvw1, hvw, ma, eh, p1, e1, e4, q5, q6, q7, q8, q9, o9, q10, o10, e6, zz_ex, zz_exu, zz_some, zz_lit, zz_num, zI_lt, zI_le, zI_eq, zI_nat, zz_b, if_pos, if_neg, if_true, if_false]
    all_goals first
      | simpa using h
      | simpa using h1
  · rw [if_neg hc] at h
    refine Eq.mpr (c9_rng (lo := 0) (hi := 12) hx0 hx1 (by omega) (by omega) (by omega) (by omega)) ?_
    rw [if_neg hc]
    exact h
end zCls

/-! The class: defect, couldRecover, weakest. -/
theorem znt_rng {P : Int → Bool} : ∀ (m : Nat) (lo k : Int), 0 ≤ k → znt P lo m k = -1 ∨ (lo ≤ znt P lo m k ∧ znt P lo m k < lo + m ∧ P (znt P lo m k) = true) := by
  intro m
  induction m with
  | zero => intro lo k _; exact Or.inl rfl
  | succ m ih =>
    intro lo k hk
    rw [znt]
    by_cases hp : P lo = true
    · rw [if_pos hp]
      by_cases h0 : k = 0
      · rw [if_pos h0]; exact Or.inr ⟨by omega, by omega, hp⟩
      · rw [if_neg h0]
        rcases ih (lo + 1) (k - 1) (by omega) with h | ⟨h1, h2, h3⟩
        · exact Or.inl h
        · exact Or.inr ⟨by omega, by omega, h3⟩
    · rw [if_neg hp]
      rcases ih (lo + 1) k hk with h | ⟨h1, h2, h3⟩
      · exact Or.inl h
      · exact Or.inr ⟨by omega, by omega, h3⟩
section zCls
variable {E : zE} {σ : zW} {d : Nat} {n : zN}
theorem c9_couldRecover (hW : zWF E) (hm : zU E 2 0 = true) (hd : (σ 2 0 0 5).toNat = d) (hu : zU E 0 d = true) (hv : zU E 1 d = true) (hR : zRd (σ 0 d) n) (hn : nW n) : f_X9_couldRecover (zH E σ) (zL E 2 0 0) = some (zI ((nCo n).length : Int)) := by
  have m5 := zg_ma5 (σ := σ) hW hm
  rw [hd] at m5
  have hN' := hn.1.r
  have hdc := zz_dco (σ := σ) hW hu
  have hbl := zz_blo (σ := σ) hW hu
  have hvs := zz_vso (σ := σ) hW hu
  have hse := zz_seo (σ := σ) hW hu
  have ec := e0_count hW hu hR.1.1 hn.1 hn.2.1
  have es := e5_count hW hu hR.2.2.1 hn.1
  have ef : g_i (zH E σ) (zL E 0 d 0) 1 3 = some (zI (n 2)) := by rw [← show σ 0 d 0 3 = n 2 from hR.2.2.2.1]; exact zg_dc3 hW hu
  have p := e1_recoverableVersions hW hu hR hn
  rw [nCo_len hn]
  simp (disch := first | assumption | omega) only [f_X9_couldRecover, m5, hdc, p, zz_some, zz_lit, zz_num, zI_lt, zI_le, zI_eq, zI_nat, zz_b, if_pos, if_neg, if_true, if_false]
theorem c9_defect (hW : zWF E) (hm : zU E 2 0 = true) (hd : (σ 2 0 0 5).toNat = d) (hu : zU E 0 d = true) (hv : zU E 1 d = true) (hR : zRd (σ 0 d) n) (hn : nW n) {x : Int} (hx0 : -2147483648 ≤ x) (hx1 : x < 2147483648) {w : Bool} : f_X9_defect (zH E σ) (zL E 2 0 0) (zI x) (zI (zb w)) = some (zI (aDefect n x w)) := by
  have m5 := zg_ma5 (σ := σ) hW hm
  rw [hd] at m5
  have hN' := hn.1.r
  have hdc := zz_dco (σ := σ) hW hu
  have hbl := zz_blo (σ := σ) hW hu
  have hvs := zz_vso (σ := σ) hW hu
  have hse := zz_seo (σ := σ) hW hu
  have ec := e0_count hW hu hR.1.1 hn.1 hn.2.1
  have es := e5_count hW hu hR.2.2.1 hn.1
  have ef : g_i (zH E σ) (zL E 0 d 0) 1 3 = some (zI (n 2)) := by rw [← show σ 0 d 0 3 = n 2 from hR.2.2.2.1]; exact zg_dc3 hW hu
  have p := e1_relocatedBlock (k := x) hW hu hR hn hx0 hx1
  unfold aDefect
  by_cases hx : x < 0
  · rw [if_neg (by omega)] at p
    rw [if_pos hx]
    simp (disch := first | assumption | omega) only [f_X9_defect, m5, hdc, p, zz_some, zz_lit, zz_num, zI_lt, zI_le, zI_eq, zI_nat, zz_b, if_pos, if_neg, if_true, if_false]
  · rw [if_pos (by omega)] at p
    rw [if_neg hx]
    obtain ⟨t, ht⟩ : ∃ t, t = znt (nDf n) 0 (n 0 - n 1).toNat x := ⟨_, rfl⟩
    have hr := znt_rng (P := nDf n) (n 0 - n 1).toNat 0 x (by omega)
    rw [← ht] at p hr ⊢
    rcases hr with h | ⟨h1, h2, h3⟩
    · rw [if_pos h]
      rw [h] at p
      simp (disch := first | assumption | omega) only [f_X9_defect, m5, hdc, p, zz_some, zz_lit, zz_num, zI_lt, zI_le, zI_eq, zI_nat, zz_b, if_pos, if_neg, if_true, if_false]
    · rw [if_neg (by omega)]
      have hb := (hn.2.1 t (by omega) (by omega)).2.2.2.2.2.2.2.1
      have h4 : n (679 + t) ≠ 0 := by
        unfold nDf at h3
        simp at h3
        exact h3.1
      have q := e0_placeOf (b := t) hW hu hR.1 hn.1 hn.2.1 (by omega) (by omega)
      rw [if_pos (by omega)] at q
      cases w
      · simp (disch := first | assumption | omega) only [f_X9_defect, m5, hdc, p, zb, zz_some, zz_lit, zz_num, zI_lt, zI_le, zI_eq, zI_nat, zz_b, if_pos, if_neg, if_true, if_false]
        try simp
      · simp (disch := first | assumption | omega) only [f_X9_defect, m5, hdc, hbl, p, q, zb, zz_some, zz_lit, zz_num, zI_lt, zI_le, zI_eq, zI_nat, zz_b, if_pos, if_neg, if_true, if_false]
        try simp
theorem c9_weakest_L (hW : zWF E) (hm : zU E 2 0 = true) (hu : zU E 0 d = true) (hv : zU E 1 d = true) (hw : zU E 1 14 = true) (hwd : 14 ≠ d) (hn : nW n) : ∀ (m fuel : Nat) (σ : zW) (b w r : Int), (σ 2 0 0 5).toNat = d → zRd (σ 0 d) n → zVw (σ 1 d) n → 0 ≤ b → b + m = n 0 → m < fuel → 0 ≤ r → r ≤ 100 → ∃ σ', f_X9_weakest_L22 fuel (zH E σ) (zL E 2 0 0) (zL E 1 d 0) (zI w) (zI r) (zI b) = some (zH E σ', zI (zwk (nRk n) m b w r)) ∧ zFv σ σ' := by
  have hN' := hn.1.r
  intro m
  induction m with
  | zero =>
    intro fuel σ b w r hd hR hV hb0 hb1 hf hr0 hr1
    obtain ⟨f, rfl, h4⟩ := zfuel hf
    have m5 := zg_ma5 (σ := σ) hW hm
    rw [hd] at m5
    have hdc := zz_dco (σ := σ) hW hu
    have ec := e0_count hW hu hR.1.1 hn.1 hn.2.1
    refine ⟨σ, ?_, zFv.rf⟩
    simp (disch := first | assumption | omega) only [f_X9_weakest_L22, zwk, m5, hdc, ec, zz_some, zz_lit, zz_num, zI_lt, zI_le, zI_eq, zI_nat, zz_b, if_pos, if_neg, if_true, if_false]
  | succ m ih =>
    intro fuel σ b w r hd hR hV hb0 hb1 hf hr0 hr1
    obtain ⟨f, rfl, h4⟩ := zfuel hf
    have m5 := zg_ma5 (σ := σ) hW hm
    rw [hd] at m5
    have m4 := zg_ma4 (σ := σ) hW hm
    have hdc := zz_dco (σ := σ) hW hu
    have ec := e0_count hW hu hR.1.1 hn.1 hn.2.1
    obtain ⟨σ1, a1, a2⟩ := e1_filesLostBy (b := b) (w := 14) hW hu hv hn hR hw hwd hV hb0 (by omega)
    have hk := nRk_rng n b
    have hF := zFv.f a2
    have hd1 : (σ1 2 0 0 5).toNat = d := by rw [hF 2 (by omega)]; exact hd
    have hR1 : zRd (σ1 0 d) n := by rw [a2 0 d (by omega)]; exact hR
    have hV1 : zVw (σ1 1 d) n := by rw [a2 1 d (by omega)]; exact hV
    by_cases hc : nRk n b ≤ r
    · obtain ⟨σ2, b1, b2⟩ := ih f σ1 (b + 1) w r hd1 hR1 hV1 (by omega) (by omega) (by omega) hr0 hr1
      refine ⟨σ2, ?_, hF.tr b2⟩
      rw [zwk, if_pos hc]
      simp (disch := first | assumption | omega) only [f_X9_weakest_L22, m5, m4, hdc, ec, a1, b1, zz_some, zz_lit, zz_num, zI_lt, zI_le, zI_eq, zI_nat, zz_b, if_pos, if_neg, if_true, if_false]
    · obtain ⟨σ2, b1, b2⟩ := ih f σ1 (b + 1) b (nRk n b) hd1 hR1 hV1 (by omega) (by omega) (by omega) (by omega) (by omega)
      refine ⟨σ2, ?_, hF.tr b2⟩
      rw [zwk, if_neg hc]
      simp (disch := first | assumption | omega) only [f_X9_weakest_L22, m5, m4, hdc, ec, a1, b1, zz_some, zz_lit, zz_num, zI_lt, zI_le, zI_eq, zI_nat, zz_b, if_pos, if_neg, if_true, if_false]
theorem c9_weakest (hW : zWF E) (hm : zU E 2 0 = true) (hd : (σ 2 0 0 5).toNat = d) (hu : zU E 0 d = true) (hv : zU E 1 d = true) (hR : zRd (σ 0 d) n) (hn : nW n) (hw : zU E 1 14 = true) (hwd : 14 ≠ d) : ∃ σ', f_X9_weakest (zH E σ) (zL E 2 0 0) = some (zH E σ', zI (zwk (nRk n) (n 0).toNat 0 0 0)) ∧ zFv σ σ' := by
  have m5 := zg_ma5 (σ := σ) hW hm
  rw [hd] at m5
  have hN' := hn.1.r
  have hdc := zz_dco (σ := σ) hW hu
  have hbl := zz_blo (σ := σ) hW hu
  have hvs := zz_vso (σ := σ) hW hu
  have hse := zz_seo (σ := σ) hW hu
  have ec := e0_count hW hu hR.1.1 hn.1 hn.2.1
  have es := e5_count hW hu hR.2.2.1 hn.1
  have ef : g_i (zH E σ) (zL E 0 d 0) 1 3 = some (zI (n 2)) := by rw [← show σ 0 d 0 3 = n 2 from hR.2.2.2.1]; exact zg_dc3 hW hu
  obtain ⟨σ1, l1, l2, l3⟩ := e1_look hW hu hv hn hR
  have hF1 : zFv σ σ1 := zFv.f l2
  have m51 := zg_ma5 (σ := σ1) hW hm
  rw [hF1 2 (by omega), hd] at m51
  have hR1 : zRd (σ1 0 d) n := by rw [show σ1 0 d = σ 0 d from l2 0 d (by omega)]; exact hR
  have hdc1 := zz_dco (σ := σ1) hW hu
  have hbl1 := zz_blo (σ := σ1) hW hu
  have hvs1 := zz_vso (σ := σ1) hW hu
  have hvw1 := zz_vwo (σ := σ1) hW hv
  have hvw := zz_vwo (σ := σ) hW hv
  obtain ⟨σ2, b1, b2⟩ := c9_weakest_L hW hm hu hv hw hwd hn (n 0).toNat g_N σ1 0 0 0 (by rw [hF1 2 (by omega)]; exact hd) hR1 l3 (by omega) (by omega) (by unfold g_N; omega) (by omega) (by omega)
  refine ⟨σ2, ?_, hF1.tr b2⟩
  simp (disch := first | assumption | omega) only [f_X9_weakest, m5, hdc, hvw, l1, b1, zz_some, zz_lit, zz_num, zI_lt, zI_le, zI_eq, zI_nat, zz_b, if_pos, if_neg, if_true, if_false]

end zCls

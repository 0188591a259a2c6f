/-! The law's own disc: burning a block at next. -/
section yG
variable {E : zE} {σ : zW} {n : zN}
theorem yRb.lo (h : yRb (σ 5 0) n) {m : zN} {τ : zW} (hm : ∀ i, 7 ≤ i → i < 775 → m i = n i) (ht : ∀ c, 7 ≤ c → c ≤ 14 → τ 5 0 c = σ 5 0 c) : yRb (τ 5 0) m := by
  obtain ⟨e0, e1, e2, e3, e4, e5, e6, e7⟩ := h
  refine ⟨fun c c0 c1 => ?_, fun c c0 c1 => ?_, fun c c0 c1 => ?_, fun c c0 c1 => ?_, fun c c0 c1 => ?_, fun c c0 c1 => ?_, fun c c0 c1 => ?_, fun c c0 c1 => ?_⟩
  · rw [ht 7 (by omega) (by omega), hm _ (by omega) (by omega), e0 c c0 c1]
  · rw [ht 8 (by omega) (by omega), hm _ (by omega) (by omega), e1 c c0 c1]
  · rw [ht 9 (by omega) (by omega), hm _ (by omega) (by omega), e2 c c0 c1]
  · rw [ht 10 (by omega) (by omega), hm _ (by omega) (by omega), e3 c c0 c1]
  · rw [ht 11 (by omega) (by omega), hm _ (by omega) (by omega), e4 c c0 c1]
  · rw [ht 12 (by omega) (by omega), hm _ (by omega) (by omega), e5 c c0 c1]
  · rw [ht 13 (by omega) (by omega), hm _ (by omega) (by omega), e6 c c0 c1]
  · rw [ht 14 (by omega) (by omega), hm _ (by omega) (by omega), e7 c c0 c1]

theorem yl_burn_n (hW : zWF E) (hu : zU E 5 0 = true) (hN : nWn n) (hB : nWb n) (hn : yRn (σ 5 0) n) (hb : yRb (σ 5 0) n) {kind k : Int} (hr : n 4 < n 0 - n 1) (hg : n (103 + n 4) = 1 → 1 ≤ nGc n) : ∃ σ', f_X10_burn_n (zH E σ) (zL E 5 0 0) (zI kind) (zI k) = some (zH E σ', zI (nPl (nWrB n kind (nLa n) (-1) k) (n 4))) ∧ yRn (σ' 5 0) (nWrB n kind (nLa n) (-1) k) ∧ yRb (σ' 5 0) (nWrB n kind (nLa n) (-1) k) ∧ (∀ c, c = 15 ∨ c = 16 → σ' 5 0 c = σ 5 0 c) ∧ (∀ K d, K ≠ 5 → σ' K d = σ K d) ∧ (∀ j, σ' 5 0 14 j = σ 5 0 14 j ∨ σ' 5 0 14 j = 0 ∨ σ' 5 0 14 j = (-1) + 1) := by
  have hN' := hN.r
  obtain ⟨e0, e1, e2, e3, e4, e5, e6⟩ := hn
  have hbn := hB (n 4) (by omega) (by omega)
  have hnp : n (679 + n 4) = 0 := by have := hbn.2.2.2.2.2.2.2.1; omega
  have S := nWrB_spec hN hB kind (nLa n) (-1) k hr hg
  obtain ⟨t, hit, -, -, -, -, S4, Slo⟩ := S
  have hnum : ∀ τ : zW, τ 5 0 0 = (zs σ 5 0 0 3 (n 4 + 1)) 5 0 0 → yRn (τ 5 0) (nWrB n kind (nLa n) (-1) k) := by
    intro τ hτ
    unfold yRn
    rw [hτ, S4, Slo 0 (by omega) (by omega), Slo 1 (by omega) (by omega), Slo 2 (by omega) (by omega), Slo 3 (by omega) (by omega), Slo 6 (by omega) (by omega), Slo 5 (by omega) (by omega)]
    simp only [zs_at]
    refine ⟨?_, ?_, ?_, ?_, ?_, ?_, ?_⟩
    · rw [if_neg (by omega)]; exact e0
    · rw [if_neg (by omega)]; exact e1
    · rw [if_neg (by omega)]; exact e2
    · rw [if_pos trivial]
    · rw [if_neg (by omega)]; exact e4
    · rw [if_neg (by omega)]; exact e5
    · rw [if_neg (by omega)]; exact e6
  have z := fun τ => zz_ea (σ := τ) hW hu
  have g3 : g_i (zH E σ) (zL E 5 0 0) 10 3 = some (zI (n 4)) := by rw [zg_ld3 hW hu, e3]
  have p3 : g_put (zH E σ) (zL E 5 0 0) 10 3 (.int (zI (n 4 + 1))) = some (zH E (zs σ 5 0 0 3 (n 4 + 1))) := zp_ld3 hW hu _
  have hb1 : yRb ((zs σ 5 0 0 3 (n 4 + 1)) 5 0) (zu n 4 (n 4 + 1)) := hb.lo (fun i i0 i1 => zu_ne (by omega)) (fun c c0 c1 => zs_ne (by omega))
  have gb : g_ald 1 (zH E (zs σ 5 0 0 3 (n 4 + 1))) (zL E 5 0 12) (zI (n 4)) = some (zI (n (103 + n 4))) := by
    rw [← hb.2.2.2.2.2.1 (n 4) (by omega) (by omega), ← zs_ne (σ := σ) (k := 5) (d := 0) (c := 0) (i := 3) (v := n 4 + 1) (k' := 5) (d' := 0) (c' := 12) (by simp)]
    simp (disch := omega) only [z]
  have q4 : (zs σ 5 0 0 3 (n 4 + 1)) 5 0 0 4 - 1 = nLa n := by rw [zs_at, if_neg (by omega), e4]; rfl
  have q0 : (zs σ 5 0 0 3 (n 4 + 1)) 5 0 0 0 = n 0 := by rw [zs_at, if_neg (by omega), e0]
  have q1 : (zs σ 5 0 0 3 (n 4 + 1)) 5 0 0 1 = n 1 := by rw [zs_at, if_neg (by omega), e1]
  rcases hbn.2.1 with hz | hz
  · have e : nWrB n kind (nLa n) (-1) k = nLay (zu n 4 (n 4 + 1)) (n 4) kind (nLa n) (-1) k := by unfold nWrB; rw [if_pos hz]
    have hp := yl_put_n hW hu (b := n 4) (kind := kind) (k := k) (σ := zs σ 5 0 0 3 (n 4 + 1)) (by omega) (by omega)
    rw [q4] at hp
    have hpl : nPl (nWrB n kind (nLa n) (-1) k) (n 4) = n 4 := by
      unfold nPl
      rw [e, nLay_out _ (by omega) (by omega) (by omega), zu_ne (by omega), hnp, if_neg (by omega)]
    refine ⟨yP (zs σ 5 0 0 3 (n 4 + 1)) (n 4) kind (nLa n) (-1) k, ?_, hnum _ (yP_c (by decide) (by decide) (by decide) (by decide)), ?_, fun c hc => ?_, fun K d hK => ?_, fun j => ?_⟩
    · rw [hpl]
      simp (disch := first | assumption | omega) only [f_X10_burn_n, g3, p3, zz_ldo hW hu, gb, hz, hp, zz_some, zz_nul, zz_lit, zz_num, zI_lt, zI_le, zI_eq, zI_nat, zz_b, if_pos, if_neg, if_true, if_false]
    · rw [e]
      exact hb1.put (by omega) (by omega)
    · rw [yP_c (by omega) (by omega) (by omega) (by omega), zs_ne (by omega)]
    · rw [yP_k hK, zs_kd (fun q => hK q.1)]
    · rw [yP_at.2.2.1, zs_ne (by simp)]
      by_cases hj : j = n 4
      · rw [if_pos hj]; exact Or.inr (Or.inr rfl)
      · rw [if_neg hj]; exact Or.inl rfl
  · have e : nWrB n kind (nLa n) (-1) k = zu (zu (nLay (nTks (nLay (zu n 4 (n 4 + 1)) (n 4) 3 (nLa n) (-1) (-1)) (nLa n) (n 0 - n 1) (n 1).toNat).1 (nTks (nLay (zu n 4 (n 4 + 1)) (n 4) 3 (nLa n) (-1) (-1)) (nLa n) (n 0 - n 1) (n 1).toNat).2 kind (nLa n) (-1) k) (583 + (nTks (nLay (zu n 4 (n 4 + 1)) (n 4) 3 (nLa n) (-1) (-1)) (nLa n) (n 0 - n 1) (n 1).toNat).2) (n 4 + 1)) (679 + n 4) ((nTks (nLay (zu n 4 (n 4 + 1)) (n 4) 3 (nLa n) (-1) (-1)) (nLa n) (n 0 - n 1) (n 1).toNat).2 + 1) := by unfold nWrB; rw [if_neg (by omega)]
    have hp := yl_put_n hW hu (b := n 4) (kind := 3) (k := -1) (σ := zs σ 5 0 0 3 (n 4 + 1)) (by omega) (by omega)
    rw [q4] at hp
    have hb2 := hb1.put (kind := 3) (se := nLa n) (v := -1) (k := -1) (b := n 4) (by omega) (by omega)
    have c0 : yP (zs σ 5 0 0 3 (n 4 + 1)) (n 4) 3 (nLa n) (-1) (-1) 5 0 0 = (zs σ 5 0 0 3 (n 4 + 1)) 5 0 0 := yP_c (by decide) (by decide) (by decide) (by decide)
    obtain ⟨g, G0, G1, G2⟩ := zcn_ex _ _ (hg hz)
    simp only [Bool.and_eq_true, decide_eq_true_eq] at G2
    have hL := yl_burn_n_L hW hu (kind := kind) (k := k) (b4 := n 4) (by omega) (by omega) (n 1).toNat g_N _ _ (n 0 - n 1) (by omega) (by rw [c0, q0]; omega) (by omega) (by unfold g_N; omega) hb2 (fun c k0 k1 => by
      have := hB c k0 k1
      rw [(nLay_at _ (by omega) (by omega) k0 k1).1, nLay_out _ (by omega) (by omega) (by omega), zu_ne (by omega), zu_ne (by omega)]
      refine ⟨?_, this.2.1⟩
      have := this.1
      split <;> omega) ⟨g, by omega, by omega, by rw [(nLay_at _ (by omega) (by omega) (by omega) (by omega)).1, if_neg (by omega), zu_ne (by omega)]; exact G2.1, by rw [nLay_out _ (by omega) (by omega) (by omega), zu_ne (by omega)]; exact G2.2⟩
    rw [c0, q4] at hL
    obtain ⟨σ', i1, i2, i3, i4, i5⟩ := hL
    have hpl : nPl (nWrB n kind (nLa n) (-1) k) (n 4) = (nTks (nLay (zu n 4 (n 4 + 1)) (n 4) 3 (nLa n) (-1) (-1)) (nLa n) (n 0 - n 1) (n 1).toNat).2 := by
      have hP := (nTks_P (nLa n) (n 1).toNat (nLay (zu n 4 (n 4 + 1)) (n 4) 3 (nLa n) (-1) (-1)) (n 0 - n 1) (by omega) (by omega)).1
      unfold nPl
      rw [e, zu_eq rfl, if_pos (by omega)]
      omega
    have hm : f_X10_main (zH E (yP (zs σ 5 0 0 3 (n 4 + 1)) (n 4) 3 (nLa n) (-1) (-1))) (zL E 5 0 0) = some (zI (n 0 - n 1)) := by
      have g0 : g_i (zH E (yP (zs σ 5 0 0 3 (n 4 + 1)) (n 4) 3 (nLa n) (-1) (-1))) (zL E 5 0 0) 10 0 = some (zI (n 0)) := by rw [zg_ld0 hW hu, c0, q0]
      have g1 : g_i (zH E (yP (zs σ 5 0 0 3 (n 4 + 1)) (n 4) 3 (nLa n) (-1) (-1))) (zL E 5 0 0) 10 1 = some (zI (n 1)) := by rw [zg_ld1 hW hu, c0, q1]
      simp (disch := first | assumption | omega) only [f_X10_main, g0, g1, zz_some, zz_nul, zz_lit, zz_num, zI_lt, zI_le, zI_eq, zI_nat, zz_b, if_pos, if_neg, if_true, if_false]
    refine ⟨σ', ?_, hnum _ ?_, ?_, fun c hc => ?_, fun K d hK => ?_, fun j => ?_⟩
    · rw [hpl, ← i1]
      simp (disch := first | assumption | omega) only [f_X10_burn_n, g3, p3, zz_ldo hW hu, gb, hz, hp, hm, zz_some, zz_nul, zz_lit, zz_num, zI_lt, zI_le, zI_eq, zI_nat, zz_b, if_pos, if_neg, if_true, if_false]
    · rw [i3 0 (by omega), c0]
    · rw [e]
      exact i2
    · rw [i3 c (by omega), yP_c (by omega) (by omega) (by omega) (by omega), zs_ne (by omega)]
    · rw [i4 K d hK, yP_k hK, zs_kd (fun q => hK q.1)]
    · have := i5 j
      rw [yP_at.2.2.1, zs_ne (by simp)] at this
      by_cases hj : j = n 4
      · rw [if_pos hj] at this; rcases this with q | q | q
        · exact Or.inr (Or.inl q)
        · exact Or.inr (Or.inl q)
        · exact Or.inr (Or.inr q)
      · rw [if_neg hj] at this; exact this

theorem yl_burn_r (hW : zWF E) (hu : zU E 5 0 = true) (hN : nWn n) (hB : nWb n) (hn : yRn (σ 5 0) n) (hb : yRb (σ 5 0) n) {v : Int} (v0 : 0 ≤ v) (hv : zU E 7 v.toNat = true) {kind k : Int} (hr : n 4 < n 0 - n 1) (hg : n (103 + n 4) = 1 → 1 ≤ nGc n) : ∃ σ', f_X10_burn_r (zH E σ) (zL E 5 0 0) (zI kind) (yVe E v) (zI k) = some (zH E σ', zI (nPl (nWrB n kind (nLa n) v k) (n 4))) ∧ yRn (σ' 5 0) (nWrB n kind (nLa n) v k) ∧ yRb (σ' 5 0) (nWrB n kind (nLa n) v k) ∧ (∀ c, c = 15 ∨ c = 16 → σ' 5 0 c = σ 5 0 c) ∧ (∀ K d, K ≠ 5 → σ' K d = σ K d) ∧ (∀ j, σ' 5 0 14 j = σ 5 0 14 j ∨ σ' 5 0 14 j = 0 ∨ σ' 5 0 14 j = v + 1) := by
  have hN' := hN.r
  obtain ⟨e0, e1, e2, e3, e4, e5, e6⟩ := hn
  have hbn := hB (n 4) (by omega) (by omega)
  have hnp : n (679 + n 4) = 0 := by have := hbn.2.2.2.2.2.2.2.1; omega
  have S := nWrB_spec hN hB kind (nLa n) v k hr hg
  obtain ⟨t, hit, -, -, -, -, S4, Slo⟩ := S
  have hnum : ∀ τ : zW, τ 5 0 0 = (zs σ 5 0 0 3 (n 4 + 1)) 5 0 0 → yRn (τ 5 0) (nWrB n kind (nLa n) v k) := by
    intro τ hτ
    unfold yRn
    rw [hτ, S4, Slo 0 (by omega) (by omega), Slo 1 (by omega) (by omega), Slo 2 (by omega) (by omega), Slo 3 (by omega) (by omega), Slo 6 (by omega) (by omega), Slo 5 (by omega) (by omega)]
    simp only [zs_at]
    refine ⟨?_, ?_, ?_, ?_, ?_, ?_, ?_⟩
    · rw [if_neg (by omega)]; exact e0
    · rw [if_neg (by omega)]; exact e1
    · rw [if_neg (by omega)]; exact e2
    · rw [if_pos trivial]
    · rw [if_neg (by omega)]; exact e4
    · rw [if_neg (by omega)]; exact e5
    · rw [if_neg (by omega)]; exact e6
  have z := fun τ => zz_ea (σ := τ) hW hu
  have g3 : g_i (zH E σ) (zL E 5 0 0) 10 3 = some (zI (n 4)) := by rw [zg_ld3 hW hu, e3]
  have p3 : g_put (zH E σ) (zL E 5 0 0) 10 3 (.int (zI (n 4 + 1))) = some (zH E (zs σ 5 0 0 3 (n 4 + 1))) := zp_ld3 hW hu _
  have hb1 : yRb ((zs σ 5 0 0 3 (n 4 + 1)) 5 0) (zu n 4 (n 4 + 1)) := hb.lo (fun i i0 i1 => zu_ne (by omega)) (fun c c0 c1 => zs_ne (by omega))
  have gb : g_ald 1 (zH E (zs σ 5 0 0 3 (n 4 + 1))) (zL E 5 0 12) (zI (n 4)) = some (zI (n (103 + n 4))) := by
    rw [← hb.2.2.2.2.2.1 (n 4) (by omega) (by omega), ← zs_ne (σ := σ) (k := 5) (d := 0) (c := 0) (i := 3) (v := n 4 + 1) (k' := 5) (d' := 0) (c' := 12) (by simp)]
    simp (disch := omega) only [z]
  have q4 : (zs σ 5 0 0 3 (n 4 + 1)) 5 0 0 4 - 1 = nLa n := by rw [zs_at, if_neg (by omega), e4]; rfl
  have q0 : (zs σ 5 0 0 3 (n 4 + 1)) 5 0 0 0 = n 0 := by rw [zs_at, if_neg (by omega), e0]
  have q1 : (zs σ 5 0 0 3 (n 4 + 1)) 5 0 0 1 = n 1 := by rw [zs_at, if_neg (by omega), e1]
  rcases hbn.2.1 with hz | hz
  · have e : nWrB n kind (nLa n) v k = nLay (zu n 4 (n 4 + 1)) (n 4) kind (nLa n) v k := by unfold nWrB; rw [if_pos hz]
    have hp := yl_put_r hW hu (v := v) (b := n 4) (kind := kind) (k := k) (σ := zs σ 5 0 0 3 (n 4 + 1)) (by omega) (by omega) v0 hv
    rw [q4] at hp
    have hpl : nPl (nWrB n kind (nLa n) v k) (n 4) = n 4 := by
      unfold nPl
      rw [e, nLay_out _ (by omega) (by omega) (by omega), zu_ne (by omega), hnp, if_neg (by omega)]
    refine ⟨yP (zs σ 5 0 0 3 (n 4 + 1)) (n 4) kind (nLa n) v k, ?_, hnum _ (yP_c (by decide) (by decide) (by decide) (by decide)), ?_, fun c hc => ?_, fun K d hK => ?_, fun j => ?_⟩
    · rw [hpl]
      simp (disch := first | assumption | omega) only [f_X10_burn_r, g3, p3, zz_ldo hW hu, gb, hz, hp, zz_some, zz_nul, zz_lit, zz_num, zI_lt, zI_le, zI_eq, zI_nat, zz_b, if_pos, if_neg, if_true, if_false]
    · rw [e]
      exact hb1.put (by omega) (by omega)
    · rw [yP_c (by omega) (by omega) (by omega) (by omega), zs_ne (by omega)]
    · rw [yP_k hK, zs_kd (fun q => hK q.1)]
    · rw [yP_at.2.2.1, zs_ne (by simp)]
      by_cases hj : j = n 4
      · rw [if_pos hj]; exact Or.inr (Or.inr rfl)
      · rw [if_neg hj]; exact Or.inl rfl
  · have e : nWrB n kind (nLa n) v k = zu (zu (nLay (nTks (nLay (zu n 4 (n 4 + 1)) (n 4) 3 (nLa n) (-1) (-1)) (nLa n) (n 0 - n 1) (n 1).toNat).1 (nTks (nLay (zu n 4 (n 4 + 1)) (n 4) 3 (nLa n) (-1) (-1)) (nLa n) (n 0 - n 1) (n 1).toNat).2 kind (nLa n) v k) (583 + (nTks (nLay (zu n 4 (n 4 + 1)) (n 4) 3 (nLa n) (-1) (-1)) (nLa n) (n 0 - n 1) (n 1).toNat).2) (n 4 + 1)) (679 + n 4) ((nTks (nLay (zu n 4 (n 4 + 1)) (n 4) 3 (nLa n) (-1) (-1)) (nLa n) (n 0 - n 1) (n 1).toNat).2 + 1) := by unfold nWrB; rw [if_neg (by omega)]
    have hp := yl_put_n hW hu (b := n 4) (kind := 3) (k := -1) (σ := zs σ 5 0 0 3 (n 4 + 1)) (by omega) (by omega)
    rw [q4] at hp
    have hb2 := hb1.put (kind := 3) (se := nLa n) (v := -1) (k := -1) (b := n 4) (by omega) (by omega)
    have c0 : yP (zs σ 5 0 0 3 (n 4 + 1)) (n 4) 3 (nLa n) (-1) (-1) 5 0 0 = (zs σ 5 0 0 3 (n 4 + 1)) 5 0 0 := yP_c (by decide) (by decide) (by decide) (by decide)
    obtain ⟨g, G0, G1, G2⟩ := zcn_ex _ _ (hg hz)
    simp only [Bool.and_eq_true, decide_eq_true_eq] at G2
    have hL := yl_burn_r_L hW hu (kind := kind) (k := k) v0 hv (b4 := n 4) (by omega) (by omega) (n 1).toNat g_N _ _ (n 0 - n 1) (by omega) (by rw [c0, q0]; omega) (by omega) (by unfold g_N; omega) hb2 (fun c k0 k1 => by
      have := hB c k0 k1
      rw [(nLay_at _ (by omega) (by omega) k0 k1).1, nLay_out _ (by omega) (by omega) (by omega), zu_ne (by omega), zu_ne (by omega)]
      refine ⟨?_, this.2.1⟩
      have := this.1
      split <;> omega) ⟨g, by omega, by omega, by rw [(nLay_at _ (by omega) (by omega) (by omega) (by omega)).1, if_neg (by omega), zu_ne (by omega)]; exact G2.1, by rw [nLay_out _ (by omega) (by omega) (by omega), zu_ne (by omega)]; exact G2.2⟩
    rw [c0, q4] at hL
    obtain ⟨σ', i1, i2, i3, i4, i5⟩ := hL
    have hpl : nPl (nWrB n kind (nLa n) v k) (n 4) = (nTks (nLay (zu n 4 (n 4 + 1)) (n 4) 3 (nLa n) (-1) (-1)) (nLa n) (n 0 - n 1) (n 1).toNat).2 := by
      have hP := (nTks_P (nLa n) (n 1).toNat (nLay (zu n 4 (n 4 + 1)) (n 4) 3 (nLa n) (-1) (-1)) (n 0 - n 1) (by omega) (by omega)).1
      unfold nPl
      rw [e, zu_eq rfl, if_pos (by omega)]
      omega
    have hm : f_X10_main (zH E (yP (zs σ 5 0 0 3 (n 4 + 1)) (n 4) 3 (nLa n) (-1) (-1))) (zL E 5 0 0) = some (zI (n 0 - n 1)) := by
      have g0 : g_i (zH E (yP (zs σ 5 0 0 3 (n 4 + 1)) (n 4) 3 (nLa n) (-1) (-1))) (zL E 5 0 0) 10 0 = some (zI (n 0)) := by rw [zg_ld0 hW hu, c0, q0]
      have g1 : g_i (zH E (yP (zs σ 5 0 0 3 (n 4 + 1)) (n 4) 3 (nLa n) (-1) (-1))) (zL E 5 0 0) 10 1 = some (zI (n 1)) := by rw [zg_ld1 hW hu, c0, q1]
      simp (disch := first | assumption | omega) only [f_X10_main, g0, g1, zz_some, zz_nul, zz_lit, zz_num, zI_lt, zI_le, zI_eq, zI_nat, zz_b, if_pos, if_neg, if_true, if_false]
    refine ⟨σ', ?_, hnum _ ?_, ?_, fun c hc => ?_, fun K d hK => ?_, fun j => ?_⟩
    · rw [hpl, ← i1]
      simp (disch := first | assumption | omega) only [f_X10_burn_r, g3, p3, zz_ldo hW hu, gb, hz, hp, hm, zz_some, zz_nul, zz_lit, zz_num, zI_lt, zI_le, zI_eq, zI_nat, zz_b, if_pos, if_neg, if_true, if_false]
    · rw [i3 0 (by omega), c0]
    · rw [e]
      exact i2
    · rw [i3 c (by omega), yP_c (by omega) (by omega) (by omega) (by omega), zs_ne (by omega)]
    · rw [i4 K d hK, yP_k hK, zs_kd (fun q => hK q.1)]
    · have := i5 j
      rw [yP_at.2.2.1, zs_ne (by simp)] at this
      by_cases hj : j = n 4
      · rw [if_pos hj] at this; rcases this with q | q | q
        · exact Or.inr (Or.inl q)
        · exact Or.inr (Or.inl q)
        · exact Or.inr (Or.inr q)
      · rw [if_neg hj] at this; exact this

end yG

/-! more of the class's disc -/
section zCls
variable {E : zE} {σ : zW} {d : Nat} {n : zN}
theorem e0_canReadDir (hW : zWF E) (hu : zU E 0 d = true) (hR : zRd (σ 0 d) n) (hn : nW n) {s : Int} (h0 : 0 ≤ s) (h1 : s < n 3) : f_X0_canRead (zH E σ) (zL E 0 d 1) (zI (nS n s 3 - 1)) (zI (nL n s)) = some (zI (zb (nRdD n s))) := by
  have hN' := hn.1.r
  have hs := hn.2.2.2 s h0 h1
  have he := hn.2.2.2.ent hn.1 h0 h1
  have hd := nDl_10 he.1 (by omega)
  unfold nRdD nL
  by_cases h : 0 < nS n s 3
  · rw [if_pos h, e0_canRead hW hu hR.1 hn.1 hn.2.1 (by omega) (by omega) (by omega), decide_eq_true h, Bool.true_and]
  · rw [if_neg h, show nS n s 3 - 1 = -1 by omega, e0_canRead' hW hu hR.1 hn.1 hn.2.1, decide_eq_false h, Bool.false_and]
    rfl
theorem e1_reasonAgainstWrite (hW : zWF E) (hu : zU E 0 d = true) (hR : zRd (σ 0 d) n) (hn : nW n) {x m : Int} (h0 : 0 ≤ x) (h1 : x < 10) (hm0 : 0 ≤ m) (hm1 : m ≤ 8) : f_X1_reasonAgainstWrite (zH E σ) (zL E 0 d 0) (zI x) (zI m) = some (zI (nWw n x m)) := by
  have hN' := hn.1.r
  have he := nEw_rng hn x
  have hd := nDl_rng he.1 (by omega)
  have hz : ∀ G : gH, f_X9_directoryLength G (zI (nEw n x)) = some (zI (nDl (nEw n x))) := nDl_z he.1 (by omega)
  unfold nWw
  obtain ⟨y, hy⟩ : ∃ y, nDl (nEw n x) = y := ⟨_, rfl⟩
  rw [hy] at hd
  simp only [hy] at hz
  rw [hy]
  simp (disch := first | assumption | omega) only [f_X1_reasonAgainstWrite, zz_dc hW hu, zz_blo hW hu, zz_seo hW hu, hz, e0_hasRoomFor hW hu hR.1.1 hn.1 hn.2.1, e5_oneMoreIsTooMany hW hu hR.2.2.1 hn.1 hn.2.2.2, e5_entriesWith hW hu hR.2.2.1 hn.1 hn.2.2.2, zz_some, zz_lit, zz_num, zI_lt, zI_le, zI_eq, zI_nat, zz_b, if_pos, if_neg, if_true, if_false]
  cases nTm n
  · simp only [if_true, Bool.false_eq_true, if_false]
    by_cases h : n 4 + (m + y) ≤ n 0 - n 1
    · simp (disch := first | assumption | omega) only [e0_canRelocate hW hu hR.1.1 hn.1 hn.2.1, decide_eq_true h, Bool.true_eq_false, zz_some, zz_lit, zz_num, zI_lt, zI_le, zI_eq, zI_nat, zz_b, if_pos, if_neg, if_true, if_false]
      cases nHs n m <;> rfl
    · simp (disch := first | assumption | omega) only [decide_eq_false h, zz_some, zz_lit, zz_num, zI_lt, zI_le, zI_eq, zI_nat, zz_b, if_pos, if_neg, if_true, if_false]
  · simp
end zCls

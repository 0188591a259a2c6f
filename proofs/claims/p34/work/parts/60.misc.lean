/-! errorPosition; the snapshots' slots. -/
section zCls
variable {E : zE} {σ : zW}
theorem e10_errorPosition (hW : zWF E) (hm : zU E 3 0 = true) : ∃ σ', f_X10_errorPosition (zH E σ) (zL E 3 0 0) = some (zH E σ', zI (σ 3 0 0 12)) ∧ zT σ σ' 0 := by
  have g := zg_md12 (σ := zth σ 0) hW hm
  rw [zth_i (by omega)] at g
  refine ⟨zth σ 0, ?_, zT.th σ 0⟩
  have h : zs σ 3 0 0 0 0 = zth σ 0 := rfl
  simp (disch := first | assumption | omega) only [f_X10_errorPosition, zp_md0 hW hm, h, g, zz_some, zz_lit, zz_num, zI_lt, zI_le, zI_eq, zI_nat, zz_b, if_pos, if_neg, if_true, if_false]
theorem c9_errorPosition (hW : zWF E) (hm : zU E 2 0 = true) : f_X9_errorPosition (zH E σ) (zL E 2 0 0) = some (zI (σ 2 0 3 1)) := by
  simp (disch := first | assumption | omega) only [f_X9_errorPosition, zg_ma1 hW hm, zg_tx1 hW hm, zz_some, zz_lit, zz_num, zI_lt, zI_le, zI_eq, zI_nat, zz_b, if_pos, if_neg, if_true, if_false]
theorem c6_load (hW : zWF E) (hm : zU E 2 0 = true) {x : Int32} {a2 : Nat} {K : gH → Prop} (h : w_X9_loadFrom (zH E σ) (zL E 2 0 8) x a2 K) : w_X6_load (zH E σ) (zL E 2 0 6) x a2 K := ⟨_, zg_sn1 hW hm, h⟩
end zCls

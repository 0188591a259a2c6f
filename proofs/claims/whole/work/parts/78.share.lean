/-! share on both sides. -/
def w_X9_share (G : gH) (a0 : Nat) (K : UInt64 → gH → Prop) : Prop :=
    ∃ v1, g_r G a0 9 5 = some v1 ∧
    ∃ v4, g_r G v1 1 0 = some v4 ∧
    ∃ v7, g_i G v4 0 0 = some v7 ∧
    ∃ u16, g_ob G v1 1 = some u16 ∧
    ∃ q16, f_X1_blocksUsed G v1 (-1 : Int32) (0 : Int32) = some q16 ∧
    if (0 : Int32) < v7 - q16.2 then
    ∃ v28, g_r q16.1 a0 9 5 = some v28 ∧
    ∃ u33, g_ob q16.1 v28 1 = some u33 ∧
    ∃ q33, f_X1_blocksUsed q16.1 v28 (-1 : Int32) (1 : Int32) = some q33 ∧
    vf_n64 (FP.ddiv (FP.i2d q33.2) (FP.i2d (v7 - q16.2))) ∧
    K (FP.ddiv (FP.i2d q33.2) (FP.i2d (v7 - q16.2))) q33.1
    else
    K FP.dconst1 q16.1
def w_X10_share (G : gH) (a0 : Nat) (K : UInt64 → gH → Prop) : Prop :=
    ∃ G2, g_put G a0 10 0 (.int (0 : Int32)) = some G2 ∧
    ∃ v6, g_r G2 a0 10 1 = some v6 ∧
    ∃ v10, g_ald 0 G2 v6 (0 : Int32) = some v10 ∧
    ∃ u14, g_ob G2 a0 10 = some u14 ∧
    ∃ q14, f_X10_spaceBy G2 a0 (-1 : Int32) (0 : Int32) = some q14 ∧
    if v10 - q14.2 = 0 then
    K FP.dconst1 q14.1
    else
    ∃ u30, g_ob q14.1 a0 10 = some u30 ∧
    ∃ q30, f_X10_spaceBy q14.1 a0 (-1 : Int32) (1 : Int32) = some q30 ∧
    vf_n64 (FP.ddiv (FP.i2d q30.2) (FP.i2d (v10 - q14.2))) ∧
    K (FP.ddiv (FP.i2d q30.2) (FP.i2d (v10 - q14.2))) q30.1
theorem nSp_rg {n : zN} (hn : nW n) (s u : Int) : 0 ≤ nSp n s u ∧ nSp n s u ≤ n 0 := by
  have hN := hn.1.r
  unfold nSp
  have := zcn_rng (fun b => (decide (s = -1) || decide (n (295 + b) = s + 1)) && decide (nUs n b = u)) (n 0).toNat 0
  refine ⟨this.1, ?_⟩
  have h2 := this.2
  omega
section zShr
variable {ax am ao : Nat} {G : gH}
theorem L_share (h : zGd ax am ao G) : w_X9_share G ax (fun p G1 => g_ob G1 am 10 = some () ∧ w_X10_share G1 am (fun q G2 => q = p ∧ Op.cmpValue (FP.dcmp p p) CmpOp.l = 0 ∧ zGd ax am ao G2)) := by
  obtain ⟨E, σ, rfl, d, t, c, U, hh, V, u, b, hr⟩ := h
  obtain ⟨⟨m5, od, _⟩, hu, hv, hR, hn, hd⟩ := zCL.fs hr.1 hr.2.2.1
  have hO := hr.1
  have hW := hO.1
  have hm := hO.m
  have hm3 := hO.2.2.1
  obtain ⟨rfl, rfl, rfl⟩ := id hr.2.1
  obtain ⟨n, hn0⟩ : ∃ n, n = σ 3 0 1 := ⟨_, rfl⟩
  rw [← hn0] at hR hn
  have hN := hn.1.r
  have hdc := zz_dco (σ := σ) hW hu
  have ec := e0_count hW hu hR.1.1 hn.1 hn.2.1
  obtain ⟨σ1, b1, b2⟩ := e1_blocksUsed (E := E) (σ := σ) (s := -1) (u := 0) hW hu hv hn hR (by omega) (by omega) (by omega) (by omega)
  have s0 := nSp_rg hn (-1) 0
  have s1 := nSp_rg hn (-1) 1
  have fv1 := zFv.f b2
  have hR1 : zRd (σ1 0 d) n := by rw [b2 0 d (by omega)]; exact hR
  obtain ⟨w, hw⟩ : ∃ w, w = n 0 - nSp n (-1) 0 := ⟨_, rfl⟩
  have ew : zI (n 0) - zI (nSp n (-1) 0) = zI w := by rw [zI_sub, hw]
  -- the reference, from any state that shows n
  have model : ∀ (τ : zW) (p : UInt64), zFv σ τ → (p = if w = 0 then FP.dconst1 else zQu (nSp n (-1) 1) w) → g_ob (zH E τ) (zL E 3 0 0) 10 = some () ∧ w_X10_share (zH E τ) (zL E 3 0 0) (fun q G2 => q = p ∧ Op.cmpValue (FP.dcmp p p) CmpOp.l = 0 ∧ zGd (zL E 2 0 0) (zL E 3 0 0) (zL E 4 0 0) G2) := by
    intro τ p fv hp
    refine ⟨(zob hO hr.2.1).1, ?_⟩
    have p0 := zp_md0 (σ := τ) hW hm3 0
    have hz : zs τ 3 0 0 0 0 = zth τ 0 := rfl
    rw [hz] at p0
    have e1 : zth τ 0 3 0 1 = n := by unfold zth; rw [zs_ne (by omega), fv 3 (by omega) 0 1, hn0]
    have al := zAld (σ := zth τ 0) (t := 0) (n := 1555) hW hm3 (k := 3) (d := 0) (c := 1) rfl (by decide) (by decide) (i := 0) (by omega) (by omega)
    rw [e1] at al
    obtain ⟨σ3, d1, d2⟩ := e10_spaceBy (E := E) (σ := zth τ 0) (n := n) (s := -1) (u := 0) hW hm3 e1 hn (by omega) (by omega) (by omega) (by omega)
    have gd : ∀ σ5, zQ σ3 σ5 → zGd (zL E 2 0 0) (zL E 3 0 0) (zL E 4 0 0) (zH E σ5) := fun σ5 q5 => ⟨E, σ5, rfl, d, t, c, U, hh, V, u, b, hr.cg ((zSm2.v fv).tr (zSm2.th (((zT.th τ 0).q d2).q q5)))⟩
    refine ⟨_, p0, _, zg_md1 hW hm3, _, al, (), (zob hO hr.2.1).1, _, d1, ?_⟩
    show if zI (n 0) - zI (nSp n (-1) 0) = 0 then _ else _
    rw [ew]
    by_cases c0 : w = 0
    · rw [if_pos (show zI w = (0 : Int32) by rw [c0]; rfl)]
      rw [if_pos c0] at hp
      refine ⟨hp.symm, by rw [hp]; exact zQu_1, gd σ3 ⟨fun _ _ _ _ => rfl, fun _ _ _ _ _ => rfl⟩⟩
    · rw [if_neg (show ¬ zI w = (0 : Int32) by rw [show (0 : Int32) = zI 0 from rfl, zI_eq (by omega) (by omega) (by omega) (by omega)]; exact c0)]
      rw [if_neg c0] at hp
      have e3 : σ3 3 0 1 = n := (d2.1 3 0 1 (by omega)).trans e1
      obtain ⟨σ4, y1, y2⟩ := e10_spaceBy (E := E) (σ := σ3) (n := n) (s := -1) (u := 1) hW hm3 e3 hn (by omega) (by omega) (by omega) (by omega)
      have ok := zQu_ok (c := nSp n (-1) 1) (w := w) s1.1 (by omega) (by omega) (by omega)
      refine ⟨(), (zob hO hr.2.1).1, _, y1, ok.1, ?_, ?_, gd σ4 y2⟩
      · rw [hp]; rfl
      · rw [hp]; exact ok.2
  refine ⟨_, m5, zL E 0 d 1, by simp only [hdc], _, ec, (), od, _, b1, ?_⟩
  show if (0 : Int32) < zI (n 0) - zI (nSp n (-1) 0) then _ else _
  rw [ew]
  by_cases c0 : w = 0
  · rw [if_neg (show ¬ (0 : Int32) < zI w by rw [show (0 : Int32) = zI 0 from rfl, zI_lt (by omega) (by omega) (by omega) (by omega)]; omega)]
    exact model σ1 _ fv1 (by rw [if_pos c0])
  · rw [if_pos (show (0 : Int32) < zI w by rw [show (0 : Int32) = zI 0 from rfl, zI_lt (by omega) (by omega) (by omega) (by omega)]; omega)]
    have m51 := zg_ma5 (σ := σ1) hW hm
    rw [b2 2 0 (by omega), hd] at m51
    have od1 : g_ob (zH E σ1) (zL E 0 d 0) 1 = some () := by simp only [zz_dco (σ := σ1) hW hu]
    obtain ⟨σ2, y1, y2⟩ := e1_blocksUsed (E := E) (σ := σ1) (s := -1) (u := 1) hW hu hv hn hR1 (by omega) (by omega) (by omega) (by omega)
    have ok := zQu_ok (c := nSp n (-1) 1) (w := w) s1.1 (by omega) (by omega) (by omega)
    exact ⟨_, m51, (), od1, _, y1, ok.1, model σ2 _ (fv1.tr (zFv.f y2)) (by rw [if_neg c0]; rfl)⟩
end zShr

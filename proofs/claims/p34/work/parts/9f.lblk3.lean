/-! The space, the sizes and the share; the blocks, whole. -/
section zD
variable {G A T : gH} {o q : Nat} {n : zN} {E : zE} {σ : zW} {K : Int32 → gH → Prop}
theorem nSp_all (n : zN) (u : Int) : nSp n (-1) u = zcn (fun b => decide (nUs n b = u)) 0 (n 0).toNat := by
  unfold nSp
  exact zcn_congr _ _ (fun b _ _ => by simp)
theorem aSize_5 {n : zN} (hN : nWn n) : zcn (yEm n) 0 (n 0).toNat = aSize n 0 5 := by
  have h := hN.r
  have e : (n 0).toNat = (n 0 - n 1).toNat + (n 1).toNat := by omega
  rw [e, zcn_add]
  have z0 : zcn (yEm n) 0 (n 0 - n 1).toNat = 0 := by
    rw [zcn_congr (Q := fun _ => false) _ _ (fun i h0 h1 => by unfold yEm; simp; omega)]
    have : ∀ (m : Nat) (lo : Int), zcn (fun _ => false) lo m = 0 := by
      intro m; induction m with
      | zero => intro lo; rfl
      | succ m ih => intro lo; show zb false + zcn (fun _ => false) (lo + 1) m = 0; rw [ih]; rfl
    exact this _ _
  rw [z0, Int.zero_add, show (0 : Int) + (((n 0 - n 1).toNat : Nat) : Int) = n 0 - n 1 by omega]
  show _ = zcn (fun b => decide (n (7 + b) = 0)) (n 0 - n 1) (n 1).toNat
  exact zcn_congr _ _ (fun i h0 h1 => by unfold yEm; simp; omega)
theorem yb_J577 {MC MS kc ks : Nat} (hkc : kc ≤ MC) (hks : ks ≤ MS) {p : UInt64} (h : Op.cmpValue (FP.dcmp p p) CmpOp.l = 0) (hk : K (1 : Int32) G) : w_L_blocks_J577 MC MS K G kc ks p p := by
  unfold w_L_blocks_J577
  rw [if_pos h]
  exact ⟨hkc, hks, hk⟩
theorem yb_L492 {MC MS : Nat} {q1 q11 : Nat} (hI : yI E σ n) (hy : yW n) {f : Nat → Int32} (hq : T q = some (.inl (0, 1, f))) {u ρ : Nat → Int32} (h1 : T q1 = some (.inl (0, 5, u))) (hu : ∀ i, i < 5 → u i = yUc n (n 0) i) (h11 : T q11 = some (.inl (0, 11, ρ))) (hρ : ∀ w : Int, 0 ≤ w → w < 11 → ρ w.toNat = zI (aSize n 0 w)) (hK : ∀ G', yT o (zL E 5 0 0) q G' n → K (1 : Int32) G') : ∀ (m fuel : Nat) (w : Int) (G A : gH) (kc ks : Nat), yJ G A (zH E σ) T → yCo A o n → 0 ≤ w → w + m = 11 → m < fuel → kc + m + 1 ≤ MC → ks + 6 * m + 6 ≤ MS → w_L_blocks_L492 MC MS K fuel G kc ks o (zL E 5 0 0) q1 (zI (zcn (nDf n) 0 (n 0).toNat)) q11 (zI w) := by
  intro m
  induction m with
  | zero =>
    intro fuel w G A kc ks hJ hA w0 wm hf hkc hks
    cases fuel with
    | zero => omega
    | succ fuel =>
    have hn := hA.w
    have hN := hn.1.r
    obtain rfl : w = 11 := by omega
    have rD := zcn_rng (nDf n) (n 0).toNat 0
    have s0 := nSp_rg hn (-1) 0
    have s1 := nSp_rg hn (-1) 1
    unfold w_L_blocks_L492
    rw [if_pos (show (11 : Int32) ≤ zI 11 from by decide)]
    refine ⟨_, _, hJ.a.1, hJ.a.2, (), hA.ob, ⟨by omega, by omega⟩, k_size hA (x := 12) (by omega) (by omega) (by omega) (fun A' hA' G2 d2 e2 => ?_)⟩
    have hJ2 := hJ.a' d2 e2
    refine ⟨_, hJ2.i (yN hI.w hI.r).2.2.2.2.2.1, ?_⟩
    rw [if_pos (show zI (aSize n 0 12) = zI (n 6) from rfl)]
    have pd := k_defect hA' (x := zcn (nDf n) 0 (n 0).toNat) rD.1 (by omega) (w := true)
    have ed : aDefect n (zcn (nDf n) 0 (n 0).toNat) true = -1 := by
      unfold aDefect
      rw [if_neg (by omega), znt_end _ _ _ (by
        rw [show (n 0).toNat = (n 0 - n 1).toNat + (n 1).toNat by omega, zcn_add]
        have := zcn_rng (nDf n) (n 1).toNat (0 + ((n 0 - n 1).toNat : Nat))
        omega), if_pos rfl]
    rw [ed] at pd
    refine ⟨_, _, hJ2.a.1, hJ2.a.2, (), hA'.ob, ⟨by omega, by omega⟩, _, pd, ?_⟩
    rw [if_pos (show zI (-1) = (-1 : Int32) from rfl)]
    refine ⟨_, _, hJ2.a.1, hJ2.a.2, (), hA'.ob, ⟨by omega, by omega⟩, k_share hA' (fun A2 hA2 G3 d3 e3 => ?_)⟩
    have hJ3 := hJ2.a' d3 e3
    have fin := hK G3 (yT.mk hJ3 hA2 hI hy hq)
    have u0 : u 0 = zI (nSp n (-1) 0) := by rw [hu 0 (by omega), nSp_all]; rfl
    have u1 : u 1 = zI (nSp n (-1) 1) := by rw [hu 1 (by omega), nSp_all]; rfl
    have t0 := hJ3.tald h1 (by omega) (i := 0) (by omega) (by omega)
    have t1 := hJ3.tald h1 (by omega) (i := 1) (by omega) (by omega)
    rw [show u (0 : Int).toNat = zI (nSp n (-1) 0) from u0] at t0
    rw [show u (1 : Int).toNat = zI (nSp n (-1) 1) from u1] at t1
    refine ⟨_, t0, _, hJ3.i (yN hI.w hI.r).1, ?_⟩
    by_cases c : n 0 - nSp n (-1) 0 = 0
    · rw [if_pos c, if_pos (show zI (nSp n (-1) 0) = zI (n 0) by rw [show nSp n (-1) 0 = n 0 by omega])]
      exact yb_J577 (by omega) (by omega) zQu_1 fin
    · rw [if_neg c, if_neg (show ¬ zI (nSp n (-1) 0) = zI (n 0) from zI_ne (by omega) (by omega) (by omega) (by omega) (by omega))]
      have ok := zQu_ok (c := nSp n (-1) 1) (w := n 0 - nSp n (-1) 0) s1.1 (by omega) (by omega) (by omega)
      refine ⟨_, t1, _, hJ3.i (yN hI.w hI.r).1, _, t0, ?_⟩
      rw [zI_sub]
      exact ⟨ok.1, yb_J577 (by omega) (by omega) ok.2 fin⟩
  | succ m ih =>
    intro fuel w G A kc ks hJ hA w0 wm hf hkc hks
    cases fuel with
    | zero => omega
    | succ fuel =>
    unfold w_L_blocks_L492
    rw [if_neg (show ¬ (11 : Int32) ≤ zI w by rw [show (11 : Int32) = zI 11 from rfl, zI_le (by omega) (by omega) (by omega) (by omega)]; omega)]
    refine ⟨_, _, hJ.a.1, hJ.a.2, (), hA.ob, ⟨by omega, by omega⟩, k_size hA w0 (by omega) (by omega) (fun A' hA' G2 d2 e2 => ?_)⟩
    have hJ2 := hJ.a' d2 e2
    refine ⟨_, hJ2.tald h11 (by omega) w0 (by omega), ?_⟩
    rw [hρ w w0 (by omega), if_pos rfl, show (zI w + (1 : Int32)) = zI (w + 1) from zI_add w 1]
    exact ih fuel (w + 1) G2 A' (kc + 1) (ks + 6) hJ2 hA' (by omega) (by omega) (by omega) (by omega) (by omega)
theorem yb_L358 {MC MS : Nat} {q1 : Nat} (hI : yI E σ n) (hy : yW n) {f : Nat → Int32} (hq : T q = some (.inl (0, 1, f))) {u : Nat → Int32} (h1 : T q1 = some (.inl (0, 5, u))) (hu : ∀ i, i < 5 → u i = yUc n (n 0) i) (hK : ∀ G', yT o (zL E 5 0 0) q G' n → K (1 : Int32) G') : ∀ (m fuel : Nat) (w : Int) (G A : gH) (kc ks : Nat), yJ G A (zH E σ) T → yCo A o n → 0 ≤ w → w + m = 5 → m < fuel → kc + m + 13 ≤ MC → ks + 6 * m + 83 ≤ MS → w_L_blocks_L358 MC MS K fuel G kc ks o (zL E 5 0 0) q1 (zI (zcn (fun b => decide (n (103 + b) = 1)) 0 (n 0).toNat)) (zI (zcn (yEm n) 0 (n 0).toNat)) (zI (zcn (nDf n) 0 (n 0).toNat)) (zI w) := by
  intro m
  induction m with
  | zero =>
    intro fuel w G A kc ks hJ hA w0 wm hf hkc hks
    cases fuel with
    | zero => omega
    | succ fuel =>
    have hn := hA.w
    have hN := hn.1.r
    have y2 := hy.1
    obtain rfl : w = 5 := by omega
    obtain ⟨N0, N1, N2, N3, N4, N5, N6⟩ := yN hI.w hI.r
    unfold w_L_blocks_L358
    rw [if_pos (show (5 : Int32) ≤ zI 5 from by decide)]
    refine ⟨⟨by omega, by omega⟩, fun q11 z11 G1 i1 => ?_⟩
    obtain ⟨J1, n11⟩ := hJ.new z11 (.inl (0, 11, fun _ => 0))
    rw [← i1] at J1
    obtain ⟨G2, g2, J2⟩ := J1.tast2 (by omega) (i := 0) (by omega) (by omega) (zI (n 0))
    obtain ⟨G3, g3, J3⟩ := J2.tast2 (by omega) (i := 1) (by omega) (by omega) (zI (n 1))
    obtain ⟨G4, g4, J4⟩ := J3.tast2 (by omega) (i := 2) (by omega) (by omega) (zI (n 2))
    obtain ⟨G5, g5, J5⟩ := J4.tast2 (by omega) (i := 3) (by omega) (by omega) (zI (n 3))
    obtain ⟨G6, g6, J6⟩ := J5.tast2 (by omega) (i := 4) (by omega) (by omega) (zI (n 4))
    obtain ⟨G7, g7, J7⟩ := J6.tast2 (by omega) (i := 5) (by omega) (by omega) (zI (zcn (yEm n) 0 (n 0).toNat))
    obtain ⟨G8, g8, J8⟩ := J7.tast2 (by omega) (i := 6) (by omega) (by omega) (zI (zcn (fun b => decide (n (103 + b) = 1)) 0 (n 0).toNat))
    obtain ⟨G9, g9, J9⟩ := J8.tast2 (by omega) (i := 7) (by omega) (by omega) (zI (nTh n 12))
    obtain ⟨G10, g10, J10⟩ := J9.tast2 (by omega) (i := 8) (by omega) (by omega) (zI (zcn (nGd n) 0 (n 2).toNat))
    refine ⟨_, J1.i N0, _, g2, _, J2.i N1, _, g3, _, J3.i N2, _, g4, _, J4.i N4, _, g5, _, J5.i N3, _, g6, _, g7, _, g8, _, _, J8.b.1, J8.b.2, (), yl_ob5 hI, ⟨by omega, by omega⟩, _, yl_there hI.w hI.r hn hy (x := 12) (by omega) (by omega), _, g9, _, _, J9.b.1, J9.b.2, (), yl_ob5 hI, ⟨by omega, by omega⟩, _, yl_good hI.w hI.r hn hy, _, _, J9.b.1, J9.b.2, ⟨by omega, by omega⟩, _, zM6_cnt (nGd n) (by omega), ?_⟩
    rw [show (((n 2).toNat)) = (n 2).toNat from rfl]
    refine ⟨_, g10, _, _, J10.b.1, J10.b.2, (), yl_ob5 hI, ⟨by omega, by omega⟩, _, yl_open hI.w hI.r hn, ?_⟩
    have key : ∀ x : Int32, x = zI (zb (nOp n)) → w_L_blocks_J470 MC MS K G10 (kc + 1) (ks + 11) o (zL E 5 0 0) q1 (zI (zcn (nDf n) 0 (n 0).toNat)) q11 q11 (9 : Int32) x := by
      intro x hx
      subst hx
      obtain ⟨G11, g11, J11⟩ := J10.tast2 (by omega) (i := 9) (by omega) (by omega) (zI (zb (nOp n)))
      obtain ⟨G12, g12, J12⟩ := J11.tast2 (by omega) (i := 10) (by omega) (by omega) (zI (n 5))
      have nxt := yb_L492 (MC := MC) (MS := MS) (K := K) (o := o) (q := q) (q1 := q1) (q11 := q11) (T := va_up T q11 _) hI hy (va_keep hq n11) (va_keep h1 n11) hu (ρ := _) gva_at (fun w w0 w1 => by
        rcases (by omega : w = 0 ∨ w = 1 ∨ w = 2 ∨ w = 3 ∨ w = 4 ∨ w = 5 ∨ w = 6 ∨ w = 7 ∨ w = 8 ∨ w = 9 ∨ w = 10) with rfl | rfl | rfl | rfl | rfl | rfl | rfl | rfl | rfl | rfl | rfl
        · rfl
        · rfl
        · rfl
        · rfl
        · rfl
        · exact congrArg zI (aSize_5 hn.1)
        · rfl
        · rfl
        · rfl
        · rfl
        · rfl) hK 11 g_N 0 G12 A (kc + 1) (ks + 11) J12 hA (by omega) (by omega) (by unfold g_N; omega) (by omega) (by omega)
      unfold w_L_blocks_J470
      refine ⟨_, g11, _, J11.i N6, ?_⟩
      rcases hN.2.2.2.2.2.1 with c | c
      · rw [if_pos (show zI (n 5) = 0 by rw [c]; rfl)]
        exact ⟨_, (show zI (n 5) = (0 : Int32) by rw [c]; rfl) ▸ g12, nxt⟩
      · rw [if_neg (show ¬ zI (n 5) = 0 by rw [c]; decide)]
        exact ⟨_, (show zI (n 5) = (1 : Int32) by rw [c]; rfl) ▸ g12, nxt⟩
    cases hop : nOp n
    · exact ⟨fun _ => key _ (by rw [hop]; rfl), fun r hr => by simp at hr⟩
    · exact ⟨fun z => by simp at z, fun r hr => key _ (by rw [hop]; rfl)⟩
  | succ m ih =>
    intro fuel w G A kc ks hJ hA w0 wm hf hkc hks
    cases fuel with
    | zero => omega
    | succ fuel =>
    unfold w_L_blocks_L358
    rw [if_neg (show ¬ (5 : Int32) ≤ zI w by rw [show (5 : Int32) = zI 5 from rfl, zI_le (by omega) (by omega) (by omega) (by omega)]; omega)]
    refine ⟨_, _, hJ.a.1, hJ.a.2, (), hA.ob, ⟨by omega, by omega⟩, k_space hA w0 (by omega) (fun A' hA' G2 d2 e2 => ?_)⟩
    have hJ2 := hJ.a' d2 e2
    refine ⟨_, hJ2.tald h1 (by omega) w0 (by omega), ?_⟩
    have e : u w.toNat = zI (nSp n (-1) w) := by
      rw [hu _ (by omega), nSp_all]
      unfold yUc
      rw [show ((w.toNat : Nat) : Int) = w by omega]
    rw [e, if_pos rfl, show (zI w + (1 : Int32)) = zI (w + 1) from zI_add w 1]
    exact ih fuel (w + 1) G2 A' (kc + 1) (ks + 6) hJ2 hA' (by omega) (by omega) (by omega) (by omega) (by omega)
theorem yl_blocks {e : Nat} (h : yT o e q G n) (hK : ∀ G', yT o e q G' n → K (1 : Int32) G') : w_L_blocks 1000 10000 G o e K := by
  obtain ⟨A, B, T, f, hJ, hA, ⟨E, σ, hI, rfl, rfl⟩, hy, hq⟩ := h
  have hn := hA.w
  have hN := hn.1.r
  have y2 := hy.1
  unfold w_L_blocks
  refine ⟨⟨by omega, by omega⟩, fun q1 z1 G1 i1 => ?_⟩
  obtain ⟨J1, n1⟩ := hJ.new z1 (.inl (0, 5, fun _ => 0))
  rw [← i1] at J1
  have hne : q ≠ q1 := by rintro rfl; rw [n1] at hq; cases hq
  have := yb_L15 (MC := 1000) (MS := 10000) (K := K) (o := o) (q := q) (q1 := q1) hI hy (by omega) (n 0).toNat g_N 0 G1 A _ 1 5 (fun _ => 0) f J1 hA (va_keep hq n1) hne gva_at (fun i hi => rfl) (by omega) (by omega) (by unfold g_N; omega) (by omega) (by omega) (fun G' A' T' kc' ks' u' h1 h2 hJ' hA' hq' hq1' hu' => yb_L358 hI hy hq' hq1' hu' hK 5 g_N 0 G' A' kc' ks' hJ' hA' (by omega) (by omega) (by unfold g_N; omega) (by omega) (by omega))
  exact this
end zD


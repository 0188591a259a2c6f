/-! One change, both discs: all but a recovery. -/
def yT (o e q : Nat) (G : gH) (n : zN) : Prop := ∃ A B T f, yJ G A B T ∧ yCo A o n ∧ yLo B e n ∧ yW n ∧ T q = some (.inl (0, 1, f))
theorem yT.mk {G A T : gH} {o q : Nat} {n : zN} {E : zE} {σ : zW} {f : Nat → Int32} (hJ : yJ G A (zH E σ) T) (hA : yCo A o n) (hI : yI E σ n) (hy : yW n) (hq : T q = some (.inl (0, 1, f))) : yT o (zL E 5 0 0) q G n := ⟨A, _, T, f, hJ, hA, ⟨E, σ, hI, rfl, rfl⟩, hy, hq⟩
theorem nHs_0 (n : zN) : nHs n 0 = true := by
  unfold nHs
  have := zcn_rng (fun b => decide (n (7 + b) = 0) && decide (n (103 + b) = 0)) (n 1).toNat (n 0 - n 1)
  simp only [decide_eq_true_eq]
  show (0 : Int) ≤ _
  omega
theorem nWe_if (n : zN) (f : Int) : (if nFv n f 12 = -1 then 2 else if nTm n = true then 3 else if n 4 + nDl (nEw n f) ≤ n 0 - n 1 then (if nHs n 0 = true then 0 else 5) else 4) = nWe n f := by
  unfold nWe
  rw [if_pos (nHs_0 n)]
section yV
variable {G A T : gH} {o q : Nat} {n : zN} {E : zE} {σ : zW} {f : Nat → Int32} {K : Int32 → gH → Prop}
theorem yl_ob5 (h : yI E σ n) : g_ob (zH E σ) (zL E 5 0 0) 10 = some () := by simp only [zz_ldo h.w h.u]
theorem yc_erase (hJ : yJ G A (zH E σ) T) (hA : yCo A o n) (hI : yI E σ n) (hy : yW n) (hq : T q = some (.inl (0, 1, f))) {x : Int} (x0 : 0 ≤ x) (x1 : x < n 2) (hK : ∀ G' n', yT o (zL E 5 0 0) q G' n' → K (1 : Int32) G') : ∃ C58 R58 : gH, gd C58 R58 ∧ G = gj C58 R58 ∧
    ∃ u58, g_ob C58 (zL E 5 0 0) 10 = some u58 ∧
    (0 + 0 ≤ 200 ∧ 0 + 0 ≤ 20000) ∧
    ∃ v58, f_X10_whyErase C58 (zL E 5 0 0) (zI x) = some v58 ∧
    if v58 ≤ 0 then
    ∃ C68 R68 : gH, gd C68 R68 ∧ G = gj C68 R68 ∧
    ∃ u68, g_ob C68 (zL E 5 0 0) 10 = some u68 ∧
    (0 + 4 ≤ 200 ∧ 0 + 32 ≤ 20000) ∧
    w_X10_erase 4 32 C68 (zL E 5 0 0) (zI x) (fun D68 => ∀ G68 : gH, gd D68 R68 → G68 = gj D68 R68 →
    ∃ C73 R73 : gH, gd C73 R73 ∧ G68 = gj C73 R73 ∧
    ∃ u73, g_ob C73 o 9 = some u73 ∧
    ((0 + 4) + 32 ≤ 200 ∧ (0 + 32) + 1649 ≤ 20000) ∧
    w_X9_erase C73 o (zI x) (fun _ _ => False) (fun v73 D73 => ∀ G73 : gH, gd D73 R73 → G73 = gj D73 R73 →
    ∃ C79 R79 : gH, gd C79 R79 ∧ G73 = gj C79 R79 ∧
    ∃ u79, g_ob C79 (zL E 5 0 0) 10 = some u79 ∧
    (((0 + 4) + 32) + 0 ≤ 200 ∧ ((0 + 32) + 1649) + 0 ≤ 20000) ∧
    ∃ v79, f_X10_there C79 (zL E 5 0 0) (12 : Int32) = some v79 ∧
    if v73 = v79 then
    ((0 + 4) + 32) ≤ 200 ∧ ((0 + 32) + 1649) ≤ 20000 ∧ K (1 : Int32) G73
    else
    ((0 + 4) + 32) ≤ 200 ∧ ((0 + 32) + 1649) ≤ 20000 ∧ K (0 : Int32) G73))
    else
    0 ≤ 200 ∧ 0 ≤ 20000 ∧ K (1 : Int32) G := by
  have hn := hA.w
  have hN := hn.1.r
  have y2 := hy.1
  have rg := nWe_rng n x
  refine ⟨_, _, hJ.b.1, hJ.b.2, (), yl_ob5 hI, ⟨by omega, by omega⟩, _, yl_whyErase hI.w hI.r hn hy x0 (by omega), ?_⟩
  rw [nWe_if]
  by_cases hw : nWe n x = 0
  · rw [if_pos (show zI (nWe n x) ≤ (0 : Int32) by rw [hw]; decide)]
    refine ⟨_, _, hJ.b.1, hJ.b.2, (), yl_ob5 hI, ⟨by omega, by omega⟩, yl_erase hI hn hy x0 x1 hw (fun E' σ' hI' g hn' hy' G' d' e' => ?_)⟩
    have hJ1 := hJ.b' d' e'
    refine ⟨_, _, hJ1.a.1, hJ1.a.2, (), hA.ob, ⟨by omega, by omega⟩, k_erase hA x0 x1 hw (fun A' hA' G2 d2 e2 => ?_)⟩
    have hJ2 := hJ1.a' d2 e2
    rw [← (g 5 0 0 hI.u).2]
    refine ⟨_, _, hJ2.b.1, hJ2.b.2, (), yl_ob5 hI', ⟨by omega, by omega⟩, _, yl_there hI'.w hI'.r hn' hy' (x := 12) (by omega) (by omega), ?_⟩
    rw [if_pos rfl]
    exact ⟨by omega, by omega, hK _ _ (by rw [← (g 5 0 0 hI.u).2]; exact yT.mk hJ2 hA' hI' hy' hq)⟩
  · rw [if_neg (show ¬ zI (nWe n x) ≤ (0 : Int32) by rw [show (0 : Int32) = zI 0 from rfl, zI_le (by omega) (by omega) (by omega) (by omega)]; omega)]
    exact ⟨by omega, by omega, hK _ _ (yT.mk hJ hA hI hy hq)⟩
theorem yc_J91 (hJ : yJ G A (zH E σ) T) (hA : yCo A o n) (hI : yI E σ n) (hy : yW n) (hq : T q = some (.inl (0, 1, f))) (hK : ∀ G' n', yT o (zL E 5 0 0) q G' n' → K (1 : Int32) G') : w_L_changes_J91 200 20000 K G 0 0 o (zL E 5 0 0) := by
  have hn := hA.w
  have hN := hn.1.r
  have rg := nWc_rng n
  unfold w_L_changes_J91
  refine ⟨_, _, hJ.b.1, hJ.b.2, (), yl_ob5 hI, ⟨by omega, by omega⟩, _, yl_whyClose hI.w hI.r hn hy, ?_⟩
  by_cases hw : nWc n = 0
  · rw [if_pos (show zI (nWc n) ≤ (0 : Int32) by rw [hw]; decide)]
    obtain ⟨σ', c1, c2, c3⟩ := yl_close hI hn hy hw
    refine ⟨_, _, hJ.b.1, hJ.b.2, (), yl_ob5 hI, ⟨by omega, by omega⟩, _, c1, fun G' d' e' => ?_⟩
    have hJ1 := hJ.b' d' e'
    refine ⟨_, _, hJ1.a.1, hJ1.a.2, (), hA.ob, ⟨by omega, by omega⟩, k_close hA hw (fun A' hA' G2 d2 e2 => ?_)⟩
    have hJ2 := hJ1.a' d2 e2
    have e3 : nCl n 3 = n 3 := (nCl_W hn hw).2.2.2.2 3 (by omega) (by omega)
    refine ⟨_, hJ2.i (yN c2.w c2.r).2.2.2.2.1, ?_⟩
    rw [e3, if_pos (show zI (nLa n) = zI (n 3) - (1 : Int32) from (zI_sub _ 1).symm)]
    exact ⟨by omega, by omega, hK _ _ (yT.mk hJ2 hA' c2 c3 hq)⟩
  · rw [if_neg (show ¬ zI (nWc n) ≤ (0 : Int32) by rw [show (0 : Int32) = zI 0 from rfl, zI_le (by omega) (by omega) (by omega) (by omega)]; omega)]
    exact ⟨by omega, by omega, hK _ _ (yT.mk hJ hA hI hy hq)⟩
/-- the blocks of the session lost are counted -/
theorem yc_L162 {n' : zN} (hJ : yJ G A (zH E σ) T) (hA : yCo A o n) (hop : nOp n = true) (hn : nW n) (hI : yI E σ (nCrs n)) (hy : yW (nCrs n)) (hq : T q = some (.inl (0, 1, f))) (hK : ∀ G' n', yT o (zL E 5 0 0) q G' n' → K (1 : Int32) G') : ∀ (m fuel : Nat) (b c : Int), 0 ≤ b → b + m = n 0 - n 1 → m < fuel → 0 ≤ c → c + m < 1000 → c + zcn (fun b => decide (n (295 + b) = nLa n + 1)) b m = zcn (fun b => decide (n (295 + b) = nLa n + 1)) 0 (n 0 - n 1).toNat → w_L_changes_L162 200 20000 K fuel G 0 0 o (zL E 5 0 0) (zI c) (zI b) := by
  have hN := hn.1.r
  have lo := (nCrs_W hn hop).2.1
  have hm := yl_main hI.w hI.r
  rw [lo 0 (by omega), lo 1 (by omega)] at hm
  intro m
  induction m with
  | zero =>
    intro fuel b c b0 bm hf c0 c1 hc
    cases fuel with
    | zero => omega
    | succ fuel =>
    unfold w_L_changes_L162
    refine ⟨_, _, hJ.b.1, hJ.b.2, (), yl_ob5 hI, ⟨by omega, by omega⟩, _, hm, ?_⟩
    rw [if_pos (show zI (n 0 - n 1) ≤ zI b by rw [zI_le (by omega) (by omega) (by omega) (by omega)]; omega)]
    refine ⟨_, _, hJ.a.1, hJ.a.2, (), hA.ob, ⟨by omega, by omega⟩, k_crash hA hop (fun A' hA' G2 d2 e2 => ?_)⟩
    have hJ2 := hJ.a' d2 e2
    have : zcn (fun b => decide (n (295 + b) = nLa n + 1)) b 0 = 0 := rfl
    rw [if_pos (by rw [← hc, this, Int.add_zero])]
    exact ⟨by omega, by omega, hK _ _ (yT.mk hJ2 hA' hI hy hq)⟩
  | succ m ih =>
    intro fuel b c b0 bm hf c0 c1 hc
    cases fuel with
    | zero => omega
    | succ fuel =>
    have hb := hn.2.1 b b0 (by omega)
    have hz : zcn (fun b => decide (n (295 + b) = nLa n + 1)) b (m + 1) = zb (decide (n (295 + b) = nLa n + 1)) + zcn (fun b => decide (n (295 + b) = nLa n + 1)) (b + 1) m := rfl
    have hla : nLa n = n 3 - 1 := rfl
    unfold w_L_changes_L162
    refine ⟨_, _, hJ.b.1, hJ.b.2, (), yl_ob5 hI, ⟨by omega, by omega⟩, _, hm, ?_⟩
    rw [if_neg (show ¬ zI (n 0 - n 1) ≤ zI b by rw [zI_le (by omega) (by omega) (by omega) (by omega)]; omega)]
    refine ⟨_, hJ.r (show g_r (zH E σ) (zL E 5 0 0) 10 8 = some (zL E 5 0 8) by simp only [zz_ldo hI.w hI.u]), _, hJ.ald ((yB hI.w hI.r).2.1 b b0 (by omega)), _, hJ.i (yN hI.w hI.r).2.2.2.2.1, ?_⟩
    rw [lo _ (by omega), lo 3 (by omega), show zI (n 3) - (1 : Int32) = zI (n 3 - 1) from zI_sub _ 1, show (zI b + (1 : Int32)) = zI (b + 1) from zI_add b 1, show (zI c + (1 : Int32)) = zI (c + 1) from zI_add c 1, show (zI c + (0 : Int32)) = zI (c + 0) from zI_add c 0, Int.add_zero]
    by_cases z : n (295 + b) = nLa n + 1
    · rw [if_pos (show zI (n (295 + b) - 1) = zI (n 3 - 1) by rw [z, hla]; rw [show n 3 - 1 + 1 - 1 = n 3 - 1 by omega])]
      rw [zb_dpos z] at hz
      exact ih fuel (b + 1) (c + 1) (by omega) (by omega) (by omega) (by omega) (by omega) (by omega)
    · rw [if_neg (show ¬ zI (n (295 + b) - 1) = zI (n 3 - 1) by rw [zI_eq (by omega) (by omega) (by omega) (by omega)]; omega)]
      rw [zb_dneg z] at hz
      exact ih fuel (b + 1) c (by omega) (by omega) (by omega) (by omega) (by omega) (by omega)
theorem yc_J386 (hJ : yJ G A (zH E σ) T) (hA : yCo A o n) {b x : Int} (b0 : 0 ≤ b) (b1 : b < n 0) (hx : x = if n (7 + b) = 0 then n (103 + b) else n (199 + b)) (hI : yI E σ (nScr n b)) (hy : yW n) (hq : T q = some (.inl (0, 1, f))) (hK : ∀ G' n', yT o (zL E 5 0 0) q G' n' → K (1 : Int32) G') : w_L_changes_J386 200 20000 K G 0 0 o (zI b) (zI x) := by
  have hn := hA.w
  have hN := hn.1.r
  have hb := hn.2.1 b b0 (by omega)
  have hy' : yW (nScr n b) := hy.lo (fun i hi => by unfold nScr; split <;> exact zu_ne (by omega))
  have hx01 : x = 0 ∨ x = 1 := by rw [hx]; split <;> first | exact hb.2.1 | exact hb.2.2.1
  unfold w_L_changes_J386
  refine ⟨_, _, hJ.a.1, hJ.a.2, (), hA.ob, ⟨by omega, by omega⟩, k_scratch hA b0 b1 (fun A' hA' G2 d2 e2 => ?_)⟩
  have hJ2 := hJ.a' d2 e2
  rw [← hx, if_neg (by rcases hx01 with z | z <;> rw [z] <;> decide)]
  exact ⟨by omega, by omega, hK _ _ (yT.mk hJ2 hA' hI hy' hq)⟩
theorem yc_J355 (hJ : yJ G A (zH E σ) T) (hA : yCo A o n) {b x : Int} (b0 : 0 ≤ b) (b1 : b < n 0) (hx : x = if n (7 + b) = 0 then n (103 + b) else n (199 + b)) (hI : yI E σ n) (hy : yW n) (hq : T q = some (.inl (0, 1, f))) (hK : ∀ G' n', yT o (zL E 5 0 0) q G' n' → K (1 : Int32) G') : w_L_changes_J355 200 20000 K G 0 0 o (zL E 5 0 0) (zI b) (zI x) := by
  have hn := hA.w
  have hN := hn.1.r
  have hb := hn.2.1 b b0 (by omega)
  have zo := zz_ldo (σ := σ) hI.w hI.u
  obtain ⟨s0, s1⟩ := yl_scratch hI (b := b) b0 (by omega)
  unfold w_L_changes_J355
  refine ⟨_, hJ.r (show g_r (zH E σ) (zL E 5 0 0) 10 7 = some (zL E 5 0 7) by simp only [zo]), _, hJ.ald ((yB hI.w hI.r).1 b b0 (by omega)), ?_⟩
  by_cases z : n (7 + b) = 0
  · rw [if_pos (show zI (n (7 + b)) = 0 by rw [z]; rfl)]
    obtain ⟨p1, p2⟩ := s0 z
    obtain ⟨G', g1, g2⟩ := hJ.ast p1
    exact ⟨_, hJ.r (show g_r (zH E σ) (zL E 5 0 0) 10 12 = some (zL E 5 0 12) by simp only [zo]), _, g1, yc_J386 g2 hA b0 b1 hx p2 hy hq hK⟩
  · rw [if_neg (show ¬ zI (n (7 + b)) = 0 by rw [show (0 : Int32) = zI 0 from rfl, zI_eq (by omega) (by omega) (by omega) (by omega)]; exact z)]
    obtain ⟨p1, p2⟩ := s1 z
    obtain ⟨G', g1, g2⟩ := hJ.ast p1
    exact ⟨_, hJ.r (show g_r (zH E σ) (zL E 5 0 0) 10 13 = some (zL E 5 0 13) by simp only [zo]), _, g1, yc_J386 g2 hA b0 b1 hx p2 hy hq hK⟩
theorem yc_J423 (hJ : yJ G A (zH E σ) T) (hA : yCo A o n) (hI : yI E σ n) (hy : yW n) (hq : T q = some (.inl (0, 1, f))) (w : Bool) (hK : ∀ G' n', yT o (zL E 5 0 0) q G' n' → K (1 : Int32) G') : w_L_changes_J423 200 20000 K G 0 0 o (zL E 5 0 0) (zI (n 5)) (zL E 5 0 0) (zI (zb w)) := by
  obtain ⟨p1, p2⟩ := yl_scan hI (zb w)
  obtain ⟨G', g1, g2⟩ := hJ.put p1
  unfold w_L_changes_J423
  refine ⟨_, (by cases w <;> rfl), _, g1, _, g2.i (yN p2.w p2.r).2.2.2.2.2.2, ?_⟩
  rw [zu_eq rfl]
  refine ⟨_, _, g2.a.1, g2.a.2, (), hA.ob, ⟨by omega, by omega⟩, k_setScan hA (fun A' hA' G2 d2 e2 => ?_)⟩
  have hJ2 := g2.a' d2 e2
  rw [if_pos rfl]
  exact ⟨by omega, by omega, hK _ _ (yT.mk hJ2 hA' p2 (hy.lo (fun i hi => zu_ne (by omega))) hq)⟩
end yV


/-! One change, whole. -/
section yY
variable {G A T : gH} {o q : Nat} {n : zN} {E : zE} {σ : zW} {f : Nat → Int32} {K : Int32 → gH → Prop}
theorem zI_ne {a b : Int} (ha : 0 ≤ a) (ha1 : a < 100) (hb : 0 ≤ b) (hb1 : b < 100) (h : a ≠ b) : ¬ zI a = zI b := by
  rw [zI_eq (by omega) (by omega) (by omega) (by omega)]; exact h
theorem yc_write (hJ : yJ G A (zH E σ) T) (hA : yCo A o n) (hI : yI E σ n) (hy : yW n) (hq : T q = some (.inl (0, 1, f))) {x m tag : Int} (x0 : 0 ≤ x) (x1 : x < n 2) (m0 : 1 ≤ m) (m1 : m ≤ 8) (t0 : 0 ≤ tag) (t1 : tag < 1000) (hK : ∀ G' n', yT o (zL E 5 0 0) q G' n' → K (1 : Int32) G') : ∃ C467 R467 : gH, gd C467 R467 ∧ G = gj C467 R467 ∧
    ∃ u467, g_ob C467 (zL E 5 0 0) 10 = some u467 ∧
    (0 + 0 ≤ 200 ∧ 0 + 0 ≤ 20000) ∧
    ∃ v467, f_X10_whyWrite C467 (zL E 5 0 0) (zI x) (zI m) = some v467 ∧
    if 0 < v467 then
    0 ≤ 200 ∧ 0 ≤ 20000 ∧ K (1 : Int32) G
    else
    ∃ C479 R479 : gH, gd C479 R479 ∧ G = gj C479 R479 ∧
    ∃ u479, g_ob C479 o 9 = some u479 ∧
    (0 + 34 ≤ 200 ∧ 0 + 1661 ≤ 20000) ∧
    w_X9_write C479 o (zI x) (zI m) (zI tag) (fun _ _ => False) (fun v479 D479 => ∀ G479 : gH, gd D479 R479 → G479 = gj D479 R479 →
    ∃ C488 R488 : gH, gd C488 R488 ∧ G479 = gj C488 R488 ∧
    ∃ u488, g_ob C488 (zL E 5 0 0) 10 = some u488 ∧
    ((0 + 34) + 6 ≤ 200 ∧ (0 + 1661) + 47 ≤ 20000) ∧
    w_X10_write 6 47 C488 (zL E 5 0 0) (zI x) (zI m) (zI tag) (fun v488 D488 => ∀ G488 : gH, gd D488 R488 → G488 = gj D488 R488 →
    if v479 = v488 then
    ((0 + 34) + 6) ≤ 200 ∧ ((0 + 1661) + 47) ≤ 20000 ∧ K (1 : Int32) G488
    else
    ((0 + 34) + 6) ≤ 200 ∧ ((0 + 1661) + 47) ≤ 20000 ∧ K (0 : Int32) G488)) := by
  have hn := hA.w
  have hN := hn.1.r
  have y2 := hy.1
  have rg := nWw_rng n x m
  refine ⟨_, _, hJ.b.1, hJ.b.2, (), yl_ob5 hI, ⟨by omega, by omega⟩, _, yl_whyWrite hI.w hI.r hn hy x0 (by omega) (by omega) m1, ?_⟩
  by_cases hw : nWw n x m = 0
  · rw [if_neg (show ¬ (0 : Int32) < zI (nWw n x m) by rw [hw]; decide)]
    refine ⟨_, _, hJ.a.1, hJ.a.2, (), hA.ob, ⟨by omega, by omega⟩, k_write hA x0 x1 m0 m1 t0 (by omega) hw (fun A' hA' G2 d2 e2 => ?_)⟩
    have hJ1 := hJ.a' d2 e2
    refine ⟨_, _, hJ1.b.1, hJ1.b.2, (), yl_ob5 hI, ⟨by omega, by omega⟩, yl_write hI hn hy x0 x1 m0 m1 t0 (by omega) hw (fun E' σ' hI' g hn' hy' G' d' e' => ?_)⟩
    have hJ2 := hJ1.b' d' e'
    rw [if_pos rfl]
    exact ⟨by omega, by omega, hK _ _ (by rw [← (g 5 0 0 hI.u).2]; exact yT.mk hJ2 hA' hI' hy' hq)⟩
  · rw [if_pos (show (0 : Int32) < zI (nWw n x m) by rw [show (0 : Int32) = zI 0 from rfl, zI_lt (by omega) (by omega) (by omega) (by omega)]; omega)]
    exact ⟨by omega, by omega, hK _ _ (yT.mk hJ hA hI hy hq)⟩
theorem yl_changes {e : Nat} (h : yT o e q G n) (hK : ∀ G' n', yT o e q G' n' → K (1 : Int32) G') : w_L_changes 200 20000 G o e q K := by
  obtain ⟨A, B, T, f, hJ, hA, ⟨E, σ, hI, rfl, rfl⟩, hy, hq⟩ := h
  have hn := hA.w
  have hN := hn.1.r
  have y2 := hy.1
  have hNn := yN hI.w hI.r
  unfold w_L_changes
  refine ⟨_, hJ.i hNn.2.2.1, ?_⟩
  obtain ⟨C, R, d1, e1, w, p1, x, x0, x1, ex, nx⟩ := hJ.draw hq (m := n 2) (by omega) (by omega)
  refine ⟨C, R, d1, e1, ⟨by omega, by omega⟩, w, p1, fun G1 d1' e1' => ?_⟩
  obtain ⟨f1, hJ1⟩ := nx G1 d1' e1'
  rw [ex]
  have hq1 : (va_up T q (some (.inl (0, 1, f1)))) q = some (.inl (0, 1, f1)) := gva_at
  obtain ⟨T1, hT1⟩ : ∃ T1, T1 = va_up T q (some (.inl (0, 1, f1))) := ⟨_, rfl⟩
  rw [← hT1] at hJ1 hq1
  obtain ⟨C2, R2, d2, e2, w2, p2, r, r0, r1, er, nx2⟩ := hJ1.draw hq1 (m := 10) (by omega) (by omega)
  refine ⟨C2, R2, d2, e2, ⟨by omega, by omega⟩, w2, p2, fun G2 d2' e2' => ?_⟩
  obtain ⟨f2, hJ2⟩ := nx2 G2 d2' e2'
  rw [er]
  have hq2 : (va_up T1 q (some (.inl (0, 1, f2)))) q = some (.inl (0, 1, f2)) := gva_at
  obtain ⟨T2, hT2⟩ : ∃ T2, T2 = va_up T1 q (some (.inl (0, 1, f2))) := ⟨_, rfl⟩
  rw [← hT2] at hJ2 hq2
  by_cases c0 : r = 0
  · rw [if_pos (show zI r = (0 : Int32) by rw [c0]; rfl)]
    exact yc_erase hJ2 hA hI hy hq2 x0 x1 hK
  rw [if_neg (show ¬ zI r = (0 : Int32) from zI_ne r0 (by omega) (by omega) (by omega) c0)]
  by_cases c1 : r = 1
  · rw [if_pos (show zI r = (1 : Int32) by rw [c1]; rfl)]
    exact yc_J91 hJ2 hA hI hy hq2 hK
  rw [if_neg (show ¬ zI r = (1 : Int32) from zI_ne r0 (by omega) (by omega) (by omega) c1)]
  by_cases c2 : r = 2
  · rw [if_pos (show zI r = (2 : Int32) by rw [c2]; rfl)]
    exact yc_J91 hJ2 hA hI hy hq2 hK
  rw [if_neg (show ¬ zI r = (2 : Int32) from zI_ne r0 (by omega) (by omega) (by omega) c2)]
  by_cases c3 : r = 3
  · rw [if_pos (show zI r = (3 : Int32) by rw [c3]; rfl)]
    refine ⟨_, _, hJ2.b.1, hJ2.b.2, (), yl_ob5 hI, ⟨by omega, by omega⟩, _, yl_open hI.w hI.r hn, ?_⟩
    cases hop : nOp n
    · exact ⟨fun _ => ⟨by omega, by omega, hK _ _ (yT.mk hJ2 hA hI hy hq2)⟩, fun r hr => by simp at hr⟩
    · refine ⟨fun z => by simp at z, fun s hs => ?_⟩
      obtain rfl : ySe E (nLa n) = s := by simpa using hs
      obtain ⟨C3, R3, d3, e3, w3, p3, y, y0, y1, ey, nx3⟩ := hJ2.draw hq2 (m := 2) (by omega) (by omega)
      refine ⟨C3, R3, d3, e3, ⟨by omega, by omega⟩, w3, p3, fun G3 d3' e3' => ?_⟩
      obtain ⟨f3, hJ3⟩ := nx3 G3 d3' e3'
      rw [ey]
      have hq3 : (va_up T2 q (some (.inl (0, 1, f3)))) q = some (.inl (0, 1, f3)) := gva_at
      by_cases z : y = 0
      · rw [if_pos (show zI y = 0 by rw [z]; rfl)]
        exact ⟨by omega, by omega, hK _ _ (yT.mk hJ3 hA hI hy hq3)⟩
      · rw [if_neg (show ¬ zI y = (0 : Int32) from zI_ne y0 (by omega) (by omega) (by omega) z)]
        obtain ⟨B1, σ', b1, b2, b3, b4⟩ := yl_crash hI hn hy hop
        obtain ⟨G4, g1, g2⟩ := hJ3.put b1
        obtain ⟨G5, g3, g4⟩ := g2.put b2
        have hm : (((n 0 - n 1).toNat : Nat) : Int) = n 0 - n 1 := by omega
        exact ⟨_, g1, _, g3, yc_L162 (n' := n) g4 hA hop hn b3 b4 hq3 hK (n 0 - n 1).toNat g_N 0 0 (by omega) (by omega) (by unfold g_N; omega) (by omega) (by omega) (by omega)⟩
  rw [if_neg (show ¬ zI r = (3 : Int32) from zI_ne r0 (by omega) (by omega) (by omega) c3)]
  by_cases c4 : r = 4
  · rw [if_pos (show zI r = (4 : Int32) by rw [c4]; rfl)]
    exact yc_rec hJ2 hA hI hy hq2 hK
  rw [if_neg (show ¬ zI r = (4 : Int32) from zI_ne r0 (by omega) (by omega) (by omega) c4)]
  by_cases c5 : r = 5
  · rw [if_pos (show zI r = (5 : Int32) by rw [c5]; rfl)]
    refine ⟨_, hJ2.i hNn.1, ?_⟩
    obtain ⟨C3, R3, d3, e3, w3, p3, y, y0, y1, ey, nx3⟩ := hJ2.draw hq2 (m := n 0) (by omega) (by omega)
    refine ⟨C3, R3, d3, e3, ⟨by omega, by omega⟩, w3, p3, fun G3 d3' e3' => ?_⟩
    obtain ⟨f3, hJ3⟩ := nx3 G3 d3' e3'
    rw [ey]
    have hq3 : (va_up T2 q (some (.inl (0, 1, f3)))) q = some (.inl (0, 1, f3)) := gva_at
    have zo := zz_ldo (σ := σ) hI.w hI.u
    have hb := hn.2.1 y y0 (by omega)
    refine ⟨_, hJ3.r (show g_r (zH E σ) (zL E 5 0 0) 10 7 = some (zL E 5 0 7) by simp only [zo]), _, hJ3.ald ((yB hI.w hI.r).1 y y0 (by omega)), ?_⟩
    by_cases z : n (7 + y) = 0
    · rw [if_pos (show zI (n (7 + y)) = 0 by rw [z]; rfl)]
      exact ⟨_, hJ3.r (show g_r (zH E σ) (zL E 5 0 0) 10 12 = some (zL E 5 0 12) by simp only [zo]), _, hJ3.ald ((yB hI.w hI.r).2.2.2.2.2.1 y y0 (by omega)), yc_J355 hJ3 hA y0 y1 (by rw [if_pos z]) hI hy hq3 hK⟩
    · rw [if_neg (show ¬ zI (n (7 + y)) = (0 : Int32) from zI_ne (by omega) (by omega) (by omega) (by omega) z)]
      exact ⟨_, hJ3.r (show g_r (zH E σ) (zL E 5 0 0) 10 13 = some (zL E 5 0 13) by simp only [zo]), _, hJ3.ald ((yB hI.w hI.r).2.2.2.2.2.2.1 y y0 (by omega)), yc_J355 hJ3 hA y0 y1 (by rw [if_neg z]) hI hy hq3 hK⟩
  rw [if_neg (show ¬ zI r = (5 : Int32) from zI_ne r0 (by omega) (by omega) (by omega) c5)]
  by_cases c6 : r = 6
  · rw [if_pos (show zI r = (6 : Int32) by rw [c6]; rfl)]
    refine ⟨_, hJ2.i hNn.2.2.2.2.2.2, ?_⟩
    obtain ⟨C3, R3, d3, e3, w3, p3, y, y0, y1, ey, nx3⟩ := hJ2.draw hq2 (m := 2) (by omega) (by omega)
    refine ⟨C3, R3, d3, e3, ⟨by omega, by omega⟩, w3, p3, fun G3 d3' e3' => ?_⟩
    obtain ⟨f3, hJ3⟩ := nx3 G3 d3' e3'
    rw [ey]
    have hq3 : (va_up T2 q (some (.inl (0, 1, f3)))) q = some (.inl (0, 1, f3)) := gva_at
    by_cases z : y = 0
    · rw [if_pos (show zI y = 0 by rw [z]; rfl)]
      exact yc_J423 hJ3 hA hI hy hq3 true hK
    · rw [if_neg (show ¬ zI y = (0 : Int32) from zI_ne y0 (by omega) (by omega) (by omega) z)]
      exact yc_J423 hJ3 hA hI hy hq3 false hK
  rw [if_neg (show ¬ zI r = (6 : Int32) from zI_ne r0 (by omega) (by omega) (by omega) c6)]
  obtain ⟨C3, R3, d3, e3, w3, p3, m, m0, m1, em, nx3⟩ := hJ2.draw hq2 (m := 3) (by omega) (by omega)
  refine ⟨C3, R3, d3, e3, ⟨by omega, by omega⟩, w3, p3, fun G3 d3' e3' => ?_⟩
  obtain ⟨f3, hJ3⟩ := nx3 G3 d3' e3'
  have hq3 : (va_up T2 q (some (.inl (0, 1, f3)))) q = some (.inl (0, 1, f3)) := gva_at
  obtain ⟨C4, R4, d4, e4, w4, p4, t, t0, t1, et, nx4⟩ := hJ3.draw hq3 (m := 1000) (by omega) (by omega)
  refine ⟨C4, R4, d4, e4, ⟨by omega, by omega⟩, w4, p4, fun G4 d4' e4' => ?_⟩
  obtain ⟨f4, hJ4⟩ := nx4 G4 d4' e4'
  have hq4 : (va_up (va_up T2 q (some (.inl (0, 1, f3)))) q (some (.inl (0, 1, f4)))) q = some (.inl (0, 1, f4)) := gva_at
  rw [em, et, show (1 : Int32) + zI m = zI (1 + m) from zI_add 1 m]
  exact yc_write hJ4 hA hI hy hq4 x0 x1 (by omega) (by omega) t0 t1 hK
end yY


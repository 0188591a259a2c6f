/-! The files of both discs. -/
section zG_
variable {G A T : gH} {o q : Nat} {n : zN} {E : zE} {σ : zW} {K : Int32 → gH → Prop}
theorem yEv_n {v : Int} (h : v = -1) : yEv E v = none := by unfold yEv; rw [if_pos h]
theorem yEv_s {v : Int} (h : v ≠ -1) : yEv E v = some (yVe E v) := by unfold yEv; rw [if_neg h]
theorem yf_J319 {MC MS kc ks : Nat} {k2 : gH → Nat → Nat → Nat → Nat → Nat → Int32 → Prop} {k278 : gH → Nat → Nat → Nat → Nat → Nat → Int32 → Option Nat → Int32 → Prop} {x k z : Int} {ba5 : Option Nat} (hk : k278 G kc ks o (zL E 5 0 0) q (zI x) ba5 (zI (k + 1))) : w_L_files_J319 MC MS K k2 k278 G kc ks o (zL E 5 0 0) q (zI x) ba5 (zI k) (zI z) (zI z) := by
  unfold w_L_files_J319
  refine ⟨fun h => ?_, fun r hr => ?_⟩
  · rw [h] at hk
    rw [if_pos rfl, show (zI k + (1 : Int32)) = zI (k + 1) from zI_add k 1]
    exact hk
  · rw [hr] at hk
    rw [if_pos rfl, show (zI k + (1 : Int32)) = zI (k + 1) from zI_add k 1]
    exact hk
theorem yf_L278 {MC MS : Nat} {k2 : gH → Nat → Nat → Nat → Nat → Nat → Int32 → Prop} {x : Int} (hI : yI E σ n) (x0 : 0 ≤ x) (x1 : x < n 2) : ∀ (m fuel : Nat) (k : Int) (G A : gH) (kc ks : Nat), yJ G A (zH E σ) T → yCo A o n → 0 ≤ k → k + m = 8 → m < fuel → kc + m ≤ MC → ks + 6 * m ≤ MS → (∀ G' A' kc' ks', kc' = kc + m → ks' = ks + 6 * m → yJ G' A' (zH E σ) T → yCo A' o n → k2 G' kc' ks' o (zL E 5 0 0) q (zI (x + 1))) → w_L_files_L278 MC MS K k2 fuel G kc ks o (zL E 5 0 0) q (zI x) (yEv E (nFv n x 12)) (zI k) := by
  intro m
  induction m with
  | zero =>
    intro fuel k G A kc ks hJ hA k0 km hf hkc hks hk
    cases fuel with
    | zero => omega
    | succ fuel =>
    obtain rfl : k = 8 := by omega
    unfold w_L_files_L278
    have e1 : (zI x + (1 : Int32)) = zI (x + 1) := zI_add x 1
    refine ⟨fun h => ?_, fun r hr => ?_⟩
    · rw [if_pos (show (8 : Int32) ≤ zI 8 from by decide), e1]; exact hk G A kc ks (by omega) (by omega) hJ hA
    · rw [if_pos (show (8 : Int32) ≤ zI 8 from by decide), e1]; exact hk G A kc ks (by omega) (by omega) hJ hA
  | succ m ih =>
    intro fuel k G A kc ks hJ hA k0 km hf hkc hks hk
    cases fuel with
    | zero => omega
    | succ fuel =>
    have hn := hA.w
    have hN := hn.1.r
    have vr := nFv_rng hn x 12
    have nxt : ∀ G2 A2, yJ G2 A2 (zH E σ) T → yCo A2 o n → w_L_files_L278 MC MS K k2 fuel G2 (kc + 1) (ks + 6) o (zL E 5 0 0) q (zI x) (yEv E (nFv n x 12)) (zI (k + 1)) := fun G2 A2 hJ2 hA2 => ih fuel (k + 1) G2 A2 (kc + 1) (ks + 6) hJ2 hA2 (by omega) (by omega) (by omega) (by omega) (by omega) (fun G' A' kc' ks' h1 h2 => hk G' A' kc' ks' (by omega) (by omega))
    have h8 : ¬ (8 : Int32) ≤ zI k := by rw [show (8 : Int32) = zI 8 from rfl, zI_le (by omega) (by omega) (by omega) (by omega)]; omega
    unfold w_L_files_L278
    by_cases c : nFv n x 12 = -1
    · rw [yEv_n c] at nxt ⊢
      refine ⟨fun _ => ?_, fun r hr => (by cases hr)⟩
      rw [if_neg h8]
      refine ⟨_, _, hJ.a.1, hJ.a.2, (), hA.ob, ⟨by omega, by omega⟩, k_where hA x0 x1 k0 (by omega) (fun A' hA' G2 d2 e2 => ?_)⟩
      have hJ2 := hJ.a' d2 e2
      have e : aWhere n x k = -1 := by unfold aWhere; rw [if_pos c]
      rw [e]
      exact yf_J319 (z := -1) (nxt G2 A' hJ2 hA')
    · rw [yEv_s c] at nxt ⊢
      refine ⟨fun h => (by cases h), fun r hr => ?_⟩
      obtain rfl : yVe E (nFv n x 12) = r := by injection hr
      rw [if_neg h8]
      refine ⟨_, _, hJ.a.1, hJ.a.2, (), hA.ob, ⟨by omega, by omega⟩, k_where hA x0 x1 k0 (by omega) (fun A' hA' G2 d2 e2 => ?_)⟩
      have hJ2 := hJ.a' d2 e2
      have hv := yV hI.w hI.r hn (v := nFv n x 12) (by omega) vr.2
      have vf := hn.2.2.1.2 (nFv n x 12) (by omega) vr.2
      refine ⟨_, hJ2.i hv.1.2.2.2.1, ?_⟩
      by_cases d : k < nV n (nFv n x 12) 2
      · rw [if_pos (show zI k < zI (nV n (nFv n x 12) 2) by rw [zI_lt (by omega) (by omega) (by omega) (by omega)]; exact d)]
        refine ⟨_, hJ2.r hv.2.1, _, hJ2.ald (yVr hI.w hI.r hn (by omega) vr.2 k k0 d (by omega)), ?_⟩
        have e : aWhere n x k = nPl n (nV n (nFv n x 12) 1 + k) := by unfold aWhere; rw [if_neg c, if_pos ⟨k0, d⟩]
        rw [e]
        exact yf_J319 (nxt G2 A' hJ2 hA')
      · rw [if_neg (show ¬ zI k < zI (nV n (nFv n x 12) 2) by rw [zI_lt (by omega) (by omega) (by omega) (by omega)]; exact d)]
        have e : aWhere n x k = -1 := by unfold aWhere; rw [if_neg c, if_neg (by omega)]
        rw [e]
        exact yf_J319 (z := -1) (nxt G2 A' hJ2 hA')
theorem yf_L216 {MC MS : Nat} {k2 : gH → Nat → Nat → Nat → Nat → Nat → Int32 → Prop} {x : Int} {q7 : Nat} (hI : yI E σ n) (hy : yW n) (x0 : 0 ≤ x) (x1 : x < n 2) {f : Nat → Int32} (hq : T q = some (.inl (0, 1, f))) {ρ : Nat → Int32} (h7 : T q7 = some (.inl (0, 7, ρ))) (hρ : ∀ i : Int, 0 ≤ i → i < 7 → ρ i.toNat = zI (aFile n x i)) : ∀ (m fuel : Nat) (k : Int) (G A : gH) (kc ks : Nat), yJ G A (zH E σ) T → yCo A o n → 0 ≤ k → k + m = 7 → m < fuel → kc + 2 * m + 10 ≤ MC → ks + 12 * m + 60 ≤ MS → (∀ G' A' T' f' kc' ks', kc' = kc + 2 * m + 10 → ks' = ks + 12 * m + 60 → yJ G' A' (zH E σ) T' → yCo A' o n → T' q = some (.inl (0, 1, f')) → k2 G' kc' ks' o (zL E 5 0 0) q (zI (x + 1))) → w_L_files_L216 MC MS K k2 fuel G kc ks o (zL E 5 0 0) q (zI x) (yEv E (nFv n x 12)) q7 (zI k) := by
  intro m
  induction m with
  | zero =>
    intro fuel k G A kc ks hJ hA k0 km hf hkc hks hk
    cases fuel with
    | zero => omega
    | succ fuel =>
    have hn := hA.w
    have hN := hn.1.r
    have y2 := hy.1
    obtain rfl : k = 7 := by omega
    have body : ∀ ba5 : Option Nat, ba5 = yEv E (nFv n x 12) → ∃ C250 R250 : gH, gd C250 R250 ∧ G = gj C250 R250 ∧
        (kc + 0 ≤ MC ∧ ks + 0 ≤ MS) ∧
        ∃ q250, f_L_draw C250 q (8 : Int32) = some q250 ∧ ∀ G250 : gH, gd q250.1 R250 → G250 = gj q250.1 R250 →
        ∃ C260 R260 : gH, gd C260 R260 ∧ G250 = gj C260 R260 ∧
        ∃ u260, g_ob C260 o 9 = some u260 ∧
        (kc + 2 ≤ MC ∧ ks + 12 ≤ MS) ∧
        w_X9_whyNotWrite C260 o (zI x) ((1 : Int32) + q250.2) (fun _ _ => False) (fun v260 D260 => ∀ G260 : gH, gd D260 R260 → G260 = gj D260 R260 →
        ∃ C267 R267 : gH, gd C267 R267 ∧ G260 = gj C267 R267 ∧
        ∃ u267, g_ob C267 (zL E 5 0 0) 10 = some u267 ∧
        ((kc + 2) + 0 ≤ MC ∧ (ks + 12) + 0 ≤ MS) ∧
        ∃ v267, f_X10_whyWrite C267 (zL E 5 0 0) (zI x) ((1 : Int32) + q250.2) = some v267 ∧
        if v260 = v267 then
        w_L_files_L278 MC MS K k2 g_N G260 (kc + 2) (ks + 12) o (zL E 5 0 0) q (zI x) ba5 (0 : Int32)
        else
        (kc + 2) ≤ MC ∧ (ks + 12) ≤ MS ∧ K (0 : Int32) G260) := by
      intro ba5 hb
      subst hb
      obtain ⟨C3, R3, d3, e3, w3, p3, m, m0, m1, em, nx3⟩ := hJ.draw hq (m := 8) (by omega) (by omega)
      refine ⟨C3, R3, d3, e3, ⟨by omega, by omega⟩, w3, p3, fun G3 d3' e3' => ?_⟩
      obtain ⟨f3, hJ3⟩ := nx3 G3 d3' e3'
      rw [em, show (1 : Int32) + zI m = zI (1 + m) from zI_add 1 m]
      refine ⟨_, _, hJ3.a.1, hJ3.a.2, (), hA.ob, ⟨by omega, by omega⟩, k_whyNotWrite hA x0 x1 (by omega) (by omega) (fun A' hA' G4 d4 e4 => ?_)⟩
      have hJ4 := hJ3.a' d4 e4
      refine ⟨_, _, hJ4.b.1, hJ4.b.2, (), yl_ob5 hI, ⟨by omega, by omega⟩, _, yl_whyWrite hI.w hI.r hn hy x0 (by omega) (by omega) (by omega), ?_⟩
      rw [if_pos rfl]
      exact yf_L278 hI x0 x1 8 g_N 0 G4 A' (kc + 2) (ks + 12) hJ4 hA' (by omega) (by omega) (by unfold g_N; omega) (by omega) (by omega) (fun G' A' kc' ks' h1 h2 hJ' hA' => hk G' A' _ f3 kc' ks' (by omega) (by omega) hJ' hA' gva_at)
    unfold w_L_files_L216
    refine ⟨fun h => ?_, fun r hr => ?_⟩
    · rw [if_pos (show (7 : Int32) ≤ zI 7 from by decide)]; exact body none h.symm
    · rw [if_pos (show (7 : Int32) ≤ zI 7 from by decide)]; exact body (some r) hr.symm
  | succ m ih =>
    intro fuel k G A kc ks hJ hA k0 km hf hkc hks hk
    cases fuel with
    | zero => omega
    | succ fuel =>
    have h8 : ¬ (7 : Int32) ≤ zI k := by rw [show (7 : Int32) = zI 7 from rfl, zI_le (by omega) (by omega) (by omega) (by omega)]; omega
    have body : ∀ ba5 : Option Nat, ba5 = yEv E (nFv n x 12) → ∃ C227 R227 : gH, gd C227 R227 ∧ G = gj C227 R227 ∧
        ∃ u227, g_ob C227 o 9 = some u227 ∧
        (kc + 2 ≤ MC ∧ ks + 12 ≤ MS) ∧
        w_X9_file C227 o (zI x) (zI k) (fun _ _ => False) (fun v227 D227 => ∀ G227 : gH, gd D227 R227 → G227 = gj D227 R227 →
        ∃ v234, g_ald 0 G227 q7 (zI k) = some v234 ∧
        if v227 = v234 then
        w_L_files_L216 MC MS K k2 fuel G227 (kc + 2) (ks + 12) o (zL E 5 0 0) q (zI x) ba5 q7 (zI k + (1 : Int32))
        else
        (kc + 2) ≤ MC ∧ (ks + 12) ≤ MS ∧ K (0 : Int32) G227) := by
      intro ba5 hb
      subst hb
      refine ⟨_, _, hJ.a.1, hJ.a.2, (), hA.ob, ⟨by omega, by omega⟩, k_file hA x0 x1 k0 (by omega) (fun A' hA' G2 d2 e2 => ?_)⟩
      have hJ2 := hJ.a' d2 e2
      refine ⟨_, hJ2.tald h7 (by omega) (by omega) (by omega), ?_⟩
      rw [hρ k k0 (by omega), if_pos rfl, show (zI k + (1 : Int32)) = zI (k + 1) from zI_add k 1]
      exact ih fuel (k + 1) G2 A' (kc + 2) (ks + 12) hJ2 hA' (by omega) (by omega) (by omega) (by omega) (by omega) (fun G' A' T' f' kc' ks' h1 h2 => hk G' A' T' f' kc' ks' (by omega) (by omega))
    unfold w_L_files_L216
    refine ⟨fun h => ?_, fun r hr => ?_⟩
    · rw [if_neg h8]; exact body none h.symm
    · rw [if_neg h8]; exact body (some r) hr.symm
/-- the row of a file's properties -/
def yDf (n : zN) (x : Int) : Nat → Int32 := upd (upd (upd (upd (upd (upd (upd (fun _ => 0) 0 (zI (aFile n x 0))) 1 (zI (aFile n x 1))) 2 (zI (aFile n x 2))) 3 (zI (aFile n x 3))) 4 (zI (aFile n x 4))) 5 (zI (aFile n x 5))) 6 (zI (aFile n x 6))
theorem yDf_at {n : zN} {x w : Int} (w0 : 0 ≤ w) (w1 : w < 7) : yDf n x w.toNat = zI (aFile n x w) := by
  rcases (by omega : w = 0 ∨ w = 1 ∨ w = 2 ∨ w = 3 ∨ w = 4 ∨ w = 5 ∨ w = 6) with rfl | rfl | rfl | rfl | rfl | rfl | rfl <;> rfl
theorem yf_due {MC MS kc ks : Nat} {k2 : gH → Nat → Nat → Nat → Nat → Nat → Int32 → Prop} {x : Int} (hJ : yJ G A (zH E σ) T) (hA : yCo A o n) (hI : yI E σ n) (hy : yW n) (x0 : 0 ≤ x) (x1 : x < n 2) {f : Nat → Int32} (hq : T q = some (.inl (0, 1, f))) (hkc : kc + 25 ≤ MC) (hks : ks + 151 ≤ MS) (hk : ∀ G' A' T' f' kc' ks', kc' = kc + 25 → ks' = ks + 151 → yJ G' A' (zH E σ) T' → yCo A' o n → T' q = some (.inl (0, 1, f')) → k2 G' kc' ks' o (zL E 5 0 0) q (zI (x + 1))) (y : Int32) (hyy : y = zI (aFile n x 0)) : (kc + 1 ≤ MC ∧ ks + 7 ≤ MS) ∧ ∀ q112 : Nat, G q112 = none → ∀ G112 : gH, G112 = va_up G q112 (some (.inl (0, 7, fun _ => 0))) →
    w_L_files_J126 MC MS K k2 G112 (kc + 1) (ks + 7) o (zL E 5 0 0) q (zI x) (yEv E (nFv n x 12)) (zI (nSk n x 12)) (zI (zcn (fun v => decide (nV n v 0 = x)) 0 (n 6).toNat)) q112 q112 (0 : Int32) y := by
  subst hyy
  have hn := hA.w
  have hN := hn.1.r
  have vr := nFv_rng hn x 12
  refine ⟨⟨by omega, by omega⟩, fun q7 z7 G1 i1 => ?_⟩
  obtain ⟨J1, n7⟩ := hJ.new z7 (.inl (0, 7, fun _ => 0))
  rw [← i1] at J1
  obtain ⟨G2, g2, J2⟩ := J1.tast2 (by omega) (i := 0) (by omega) (by omega) (zI (aFile n x 0))
  obtain ⟨G3, g3, J3⟩ := J2.tast2 (by omega) (i := 1) (by omega) (by omega) (zI (aFile n x 1))
  obtain ⟨G4, g4, J4⟩ := J3.tast2 (by omega) (i := 2) (by omega) (by omega) (zI (aFile n x 2))
  obtain ⟨G5, g5, J5⟩ := J4.tast2 (by omega) (i := 3) (by omega) (by omega) (zI (aFile n x 3))
  obtain ⟨G6, g6, J6⟩ := J5.tast2 (by omega) (i := 4) (by omega) (by omega) (zI (aFile n x 4))
  obtain ⟨G7, g7, J7⟩ := J6.tast2 (by omega) (i := 5) (by omega) (by omega) (zI (aFile n x 5))
  obtain ⟨G8, g8, J8⟩ := J7.tast2 (by omega) (i := 6) (by omega) (by omega) (zI (aFile n x 6))
  have fin : w_L_files_L216 MC MS K k2 g_N G8 (kc + 1) (ks + 7) o (zL E 5 0 0) q (zI x) (yEv E (nFv n x 12)) q7 (0 : Int32) := yf_L216 hI hy x0 x1 (va_keep hq n7) (ρ := yDf n x) gva_at (fun i i0 i1 => yDf_at i0 i1) 7 g_N 0 G8 A (kc + 1) (ks + 7) J8 hA (by omega) (by omega) (by unfold g_N; omega) (by omega) (by omega) (fun G' A' T' f' kc' ks' h1 h2 => hk G' A' T' f' kc' ks' (by omega) (by omega))
  have e5 : aFile n x 5 = nSk n x 12 := rfl
  have e6 : aFile n x 6 = zcn (fun v => decide (nV n v 0 = x)) 0 (n 6).toNat := rfl
  rw [← e5, ← e6]
  by_cases c : nFv n x 12 = -1
  · rw [yEv_n c] at fin ⊢
    have a1 : aFile n x 1 = 0 := by unfold aFile; rw [if_neg (by omega), if_pos rfl, if_pos c]
    have a2 : aFile n x 2 = -1 := by unfold aFile; rw [if_neg (by omega), if_neg (by omega), if_pos rfl, c]
    have a3 : aFile n x 3 = 0 := by unfold aFile; rw [if_neg (by omega), if_neg (by omega), if_neg (by omega), if_pos rfl, if_pos c]
    have a4 : aFile n x 4 = -1 := by unfold aFile; rw [if_neg (by omega), if_neg (by omega), if_neg (by omega), if_neg (by omega), if_pos rfl, if_pos c]
    rw [a1] at g3
    rw [a2] at g4
    rw [a3] at g5
    rw [a4] at g6
    unfold w_L_files_J126
    refine ⟨fun _ => ⟨_, g2, ?_⟩, fun r hr => (by cases hr)⟩
    unfold w_L_files_J148
    refine ⟨fun _ => ⟨_, g3, ?_⟩, fun r hr => (by cases hr)⟩
    unfold w_L_files_J165
    refine ⟨fun _ => ⟨_, g4, ?_⟩, fun r hr => (by cases hr)⟩
    unfold w_L_files_J182
    refine ⟨fun _ => ⟨_, g5, ?_⟩, fun r hr => (by cases hr)⟩
    unfold w_L_files_J199
    exact ⟨fun _ => ⟨_, g6, _, g7, _, g8, fin⟩, fun r hr => (by cases hr)⟩
  · rw [yEv_s c] at fin ⊢
    have hv := (yV hI.w hI.r hn (v := nFv n x 12) (by omega) vr.2).1
    have a1 : aFile n x 1 = zb (nRv n (nFv n x 12)) := by unfold aFile; rw [if_neg (by omega), if_pos rfl, if_neg c]
    have a2 : aFile n x 2 = nFv n x 12 := by unfold aFile; rw [if_neg (by omega), if_neg (by omega), if_pos rfl]
    have a3 : aFile n x 3 = nV n (nFv n x 12) 2 := by unfold aFile; rw [if_neg (by omega), if_neg (by omega), if_neg (by omega), if_pos rfl, if_neg c]
    have a4 : aFile n x 4 = nV n (nFv n x 12) 3 := by unfold aFile; rw [if_neg (by omega), if_neg (by omega), if_neg (by omega), if_neg (by omega), if_pos rfl, if_neg c]
    rw [a2] at g4
    rw [a3] at g5
    rw [a4] at g6
    unfold w_L_files_J126
    refine ⟨fun h => (by cases h), fun r hr => ?_⟩
    obtain rfl : yVe E (nFv n x 12) = r := by injection hr
    refine ⟨_, g2, _, _, J2.b.1, J2.b.2, (), yl_ob5 hI, ⟨by omega, by omega⟩, _, yl_readv hI.w hI.r hn (by omega) vr.2, ?_⟩
    have key : ∀ y : Int32, y = zI (aFile n x 1) → w_L_files_J148 MC MS K k2 G2 (kc + 1) (ks + 7) o (zL E 5 0 0) q (zI x) (some (yVe E (nFv n x 12))) (zI (aFile n x 5)) (zI (aFile n x 6)) q7 q7 (1 : Int32) y := by
      intro y hyy
      subst hyy
      unfold w_L_files_J148
      refine ⟨fun h => (by cases h), fun r hr => ?_⟩
      obtain rfl : yVe E (nFv n x 12) = r := by injection hr
      refine ⟨_, g3, _, J3.i hv.2.1, ?_⟩
      unfold w_L_files_J165
      refine ⟨fun h => (by cases h), fun r hr => ?_⟩
      obtain rfl : yVe E (nFv n x 12) = r := by injection hr
      refine ⟨_, g4, _, J4.i hv.2.2.2.1, ?_⟩
      unfold w_L_files_J182
      refine ⟨fun h => (by cases h), fun r hr => ?_⟩
      obtain rfl : yVe E (nFv n x 12) = r := by injection hr
      refine ⟨_, g5, _, J5.i hv.2.2.2.2.1, ?_⟩
      unfold w_L_files_J199
      refine ⟨fun h => (by cases h), fun r hr => ?_⟩
      obtain rfl : yVe E (nFv n x 12) = r := by injection hr
      exact ⟨_, g6, _, g7, _, g8, fin⟩
    rw [zI_b]
    cases d : nRv n (nFv n x 12)
    · exact key _ (by rw [a1, d]; rfl)
    · exact key _ (by rw [a1, d]; rfl)
theorem yf_L71 {MC MS kc ks : Nat} {k2 : gH → Nat → Nat → Nat → Nat → Nat → Int32 → Prop} {x : Int} (hJ : yJ G A (zH E σ) T) (hA : yCo A o n) (hI : yI E σ n) (hy : yW n) (x0 : 0 ≤ x) (x1 : x < n 2) {f : Nat → Int32} (hq : T q = some (.inl (0, 1, f))) (hkc : kc + 25 ≤ MC) (hks : ks + 151 ≤ MS) (hk : ∀ G' A' T' f' kc' ks', kc' = kc + 25 → ks' = ks + 151 → yJ G' A' (zH E σ) T' → yCo A' o n → T' q = some (.inl (0, 1, f')) → k2 G' kc' ks' o (zL E 5 0 0) q (zI (x + 1))) : ∀ (m fuel : Nat) (v c : Int), 0 ≤ v → v + m = n 6 → m < fuel → c + zcn (fun v => decide (nV n v 0 = x)) v m = zcn (fun v => decide (nV n v 0 = x)) 0 (n 6).toNat → w_L_files_L71 MC MS K k2 fuel G kc ks o (zL E 5 0 0) q (zI x) (yEv E (nFv n x 12)) (zI (nSk n x 12)) (zI c) (zI v) := by
  have hn := hA.w
  have hN := hn.1.r
  intro m
  induction m with
  | zero =>
    intro fuel v c v0 vm hf hc
    cases fuel with
    | zero => omega
    | succ fuel =>
    have z0 : zcn (fun v => decide (nV n v 0 = x)) v 0 = 0 := rfl
    have hc' : c = zcn (fun v => decide (nV n v 0 = x)) 0 (n 6).toNat := by omega
    have a0 : aFile n x 0 = if nFv n x 12 = -1 then 0 else 1 := rfl
    obtain rfl : v = n 6 := by omega
    have hle : zI (n 6) ≤ zI (n 6) := by rw [zI_le (by omega) (by omega) (by omega) (by omega)]; omega
    have due := yf_due (K := K) hJ hA hI hy x0 x1 hq hkc hks hk
    rw [hc']
    unfold w_L_files_L71
    by_cases d : nFv n x 12 = -1
    · rw [yEv_n d] at due ⊢
      refine ⟨fun _ => ⟨_, hJ.i (yN hI.w hI.r).2.2.2.2.2.1, ?_⟩, fun r hr => (by cases hr)⟩
      rw [if_pos hle]
      exact due 0 (by rw [a0, if_pos d]; rfl)
    · rw [yEv_s d] at due ⊢
      refine ⟨fun h => (by cases h), fun r hr => ⟨_, hJ.i (yN hI.w hI.r).2.2.2.2.2.1, ?_⟩⟩
      obtain rfl : yVe E (nFv n x 12) = r := by injection hr
      rw [if_pos hle]
      exact due 1 (by rw [a0, if_neg d]; rfl)
  | succ m ih =>
    intro fuel v c v0 vm hf hc
    cases fuel with
    | zero => omega
    | succ fuel =>
    have hle : ¬ zI (n 6) ≤ zI v := by rw [zI_le (by omega) (by omega) (by omega) (by omega)]; omega
    have hz : zcn (fun v => decide (nV n v 0 = x)) v (m + 1) = zb (decide (nV n v 0 = x)) + zcn (fun v => decide (nV n v 0 = x)) (v + 1) m := rfl
    have vf := hn.2.2.1.2 v v0 (by omega)
    have y2 := hy.1
    have e1 : (zI v + (1 : Int32)) = zI (v + 1) := zI_add v 1
    have body : ∀ ba5 : Option Nat, ba5 = yEv E (nFv n x 12) → ∃ v83, g_r G (zL E 5 0 0) 10 15 = some v83 ∧
        ∃ v88, g_rald 6 G v83 (zI v) = some v88 ∧
        ((v88 = none →
        False) ∧ ∀ r88 : Nat, v88 = some r88 →
        ∃ v89, g_i G r88 13 0 = some v89 ∧
        if v89 = zI x then
        w_L_files_L71 MC MS K k2 fuel G kc ks o (zL E 5 0 0) q (zI x) ba5 (zI (nSk n x 12)) (zI c + (1 : Int32)) (zI v + (1 : Int32))
        else
        w_L_files_L71 MC MS K k2 fuel G kc ks o (zL E 5 0 0) q (zI x) ba5 (zI (nSk n x 12)) (zI c + (0 : Int32)) (zI v + (1 : Int32))) := by
      intro ba5 hb
      subst hb
      refine ⟨_, hJ.r (show g_r (zH E σ) (zL E 5 0 0) 10 15 = some (zL E 5 0 15) by simp only [zz_ldo hI.w hI.u]), _, hJ.rald ((yAll hI.w hI.r hn.1).1 v v0 (by omega)), fun h => (by cases h), fun r hr => ?_⟩
      obtain rfl : yVe E v = r := by injection hr
      refine ⟨_, hJ.i (yV hI.w hI.r hn v0 (by omega)).1.1, ?_⟩
      rw [e1, show (zI c + (1 : Int32)) = zI (c + 1) from zI_add c 1, show (zI c + (0 : Int32)) = zI (c + 0) from zI_add c 0, Int.add_zero]
      by_cases d : nV n v 0 = x
      · rw [if_pos (by rw [d])]
        rw [zb_dpos d] at hz
        exact ih fuel (v + 1) (c + 1) (by omega) (by omega) (by omega) (by omega)
      · rw [if_neg (show ¬ zI (nV n v 0) = zI x from zI_ne vf.1.1 (by omega) x0 (by omega) d)]
        rw [zb_dneg d] at hz
        exact ih fuel (v + 1) c (by omega) (by omega) (by omega) (by omega)
    unfold w_L_files_L71
    refine ⟨fun h => ⟨_, hJ.i (yN hI.w hI.r).2.2.2.2.2.1, ?_⟩, fun r hr => ⟨_, hJ.i (yN hI.w hI.r).2.2.2.2.2.1, ?_⟩⟩
    · rw [if_neg hle]; exact body none h.symm
    · rw [if_neg hle]; exact body (some r) hr.symm
end zG_


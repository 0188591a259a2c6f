/-! The sessions of both discs, whole. -/
section zF_
variable {G A T : gH} {o q : Nat} {n : zN} {E : zE} {σ : zW} {K : Int32 → gH → Prop}
/-- the uses of a session's blocks, counted so far -/
def yUs (n : zN) (s k : Int) (i : Nat) : Int32 := zI (zcn (fun b => decide (n (295 + b) = s + 1) && decide (nUs n b = i)) 0 k.toNat)
theorem yUs_no {n : zN} {s b : Int} (b0 : 0 ≤ b) (h : n (295 + b) ≠ s + 1) {u : Nat → Int32} (hu : ∀ i, i < 5 → u i = yUs n s b i) : ∀ i, i < 5 → u i = yUs n s (b + 1) i := by
  intro i hi
  rw [hu i hi]
  unfold yUs
  rw [zcn_nx b0, show (decide (n (295 + b) = s + 1) && decide (nUs n b = (i : Int))) = false by simp [h], show zb false = 0 from rfl, Int.add_zero]
theorem yUs_nx {n : zN} {s b : Int} (b0 : 0 ≤ b) (h : n (295 + b) = s + 1) {u : Nat → Int32} (hu : ∀ i, i < 5 → u i = yUs n s b i) : ∀ i, i < 5 → upd u (nUs n b).toNat (u (nUs n b).toNat + 1) i = yUs n s (b + 1) i := by
  have r := nUs_rng n b
  intro i hi
  unfold yUs
  rw [zcn_nx b0, h]
  by_cases z : i = (nUs n b).toNat
  · subst z
    rw [show upd u (nUs n b).toNat (u (nUs n b).toNat + 1) (nUs n b).toNat = u (nUs n b).toNat + 1 by simp [upd], hu _ hi]
    unfold yUs
    rw [show (decide (s + 1 = s + 1) && decide (nUs n b = (((nUs n b).toNat : Nat) : Int))) = true by simp; omega, show (1 : Int32) = zI 1 from rfl, zI_add]
    rfl
  · rw [show upd u (nUs n b).toNat (u (nUs n b).toNat + 1) i = u i by simp [upd, z], hu _ hi]
    unfold yUs
    rw [show (decide (s + 1 = s + 1) && decide (nUs n b = (i : Int))) = false by simp; omega, show zb false = 0 from rfl, Int.add_zero]
theorem yUs_end {n : zN} {s : Int} (s0 : 0 ≤ s) (i : Int) (i0 : 0 ≤ i) : yUs n s (n 0) i.toNat = zI (nSp n s i) := by
  unfold yUs nSp
  congr 1
  exact zcn_congr _ _ (fun b _ _ => by rw [show ((i.toNat : Nat) : Int) = i by omega, show decide (s = -1) = false by simp; omega]; rfl)
/-- blocks of a session on the main part, on the spare part -/
def yMa (n : zN) (s b : Int) : Bool := decide (n (295 + b) = s + 1) && decide (b < n 0 - n 1)
def ySp (n : zN) (s b : Int) : Bool := decide (n (295 + b) = s + 1) && !decide (b < n 0 - n 1)
theorem zcn_false : ∀ (m : Nat) (lo : Int), zcn (fun _ => false) lo m = 0 := by
  intro m; induction m with
  | zero => intro lo; rfl
  | succ m ih => intro lo; show zb false + zcn (fun _ => false) (lo + 1) m = 0; rw [ih]; rfl
theorem yMa_all {n : zN} (hN : nWn n) (s : Int) : zcn (yMa n s) 0 (n 0).toNat = aSession n s 2 := by
  have h := hN.r
  rw [show (n 0).toNat = (n 0 - n 1).toNat + (n 1).toNat by omega, zcn_add]
  rw [zcn_congr (P := yMa n s) (Q := fun _ => false) (n 1).toNat _ (fun i h0 h1 => by unfold yMa; simp; omega), zcn_false, Int.add_zero]
  show _ = zcn (fun b => decide (n (295 + b) = s + 1)) 0 (n 0 - n 1).toNat
  exact zcn_congr _ _ (fun i h0 h1 => by unfold yMa; simp; omega)
theorem ySp_all {n : zN} (hN : nWn n) (s : Int) : zcn (ySp n s) 0 (n 0).toNat = aSession n s 8 := by
  have h := hN.r
  rw [show (n 0).toNat = (n 0 - n 1).toNat + (n 1).toNat by omega, zcn_add]
  rw [zcn_congr (P := ySp n s) (Q := fun _ => false) (n 0 - n 1).toNat _ (fun i h0 h1 => by unfold ySp; simp; omega), zcn_false, Int.zero_add, show (0 : Int) + (((n 0 - n 1).toNat : Nat) : Int) = n 0 - n 1 by omega]
  show _ = zcn (fun b => decide (n (295 + b) = s + 1)) (n 0 - n 1) (n 1).toNat
  exact zcn_congr _ _ (fun i h0 h1 => by unfold ySp; simp; omega)
/-- the row of a session's properties -/
def yDs (n : zN) (s : Int) : Nat → Int32 := upd (upd (upd (upd (upd (upd (upd (upd (upd (fun _ => 0) 0 (zI (nS n s 0))) 1 (zI (nS n s 1))) 2 (zI (zcn (yMa n s) 0 (n 0).toNat))) 3 (zI (nS n s 2))) 4 (zI (nS n s 3 - 1))) 5 (zI (zb (nRdD n s)))) 6 (zI (nS n s 4 - 1))) 7 (zI (zb (nRe n s)))) 8 (zI (zcn (ySp n s) 0 (n 0).toNat))
theorem yDs_at {n : zN} (hN : nWn n) {s w : Int} (w0 : 0 ≤ w) (w1 : w < 9) : yDs n s w.toNat = zI (aSession n s w) := by
  rcases (by omega : w = 0 ∨ w = 1 ∨ w = 2 ∨ w = 3 ∨ w = 4 ∨ w = 5 ∨ w = 6 ∨ w = 7 ∨ w = 8) with rfl | rfl | rfl | rfl | rfl | rfl | rfl | rfl | rfl
  · rfl
  · rfl
  · exact congrArg zI (yMa_all hN s)
  · rfl
  · rfl
  · rfl
  · rfl
  · rfl
  · exact congrArg zI (ySp_all hN s)
theorem zI_b {b : Bool} {α : Type} (x y : α) : (if zI (zb b) = (0 : Int32) then x else y) = if b = true then y else x := by cases b <;> rfl
/-- after the blocks: the row is filled, and all is held against it -/
theorem yd_due {MC MS kc ks : Nat} {k2 : gH → Nat → Nat → Nat → Nat → Int32 → Prop} {s : Int} {q5 : Nat} (hJ : yJ G A (zH E σ) T) (hA : yCo A o n) (hI : yI E σ n) (hy : yW n) (s0 : 0 ≤ s) (s1 : s < n 3) {u : Nat → Int32} (h5 : T q5 = some (.inl (0, 5, u))) (hu : ∀ i : Int, 1 ≤ i → i < 5 → u i.toNat = zI (nSp n s i)) (hkc : kc + 90 ≤ MC) (hks : ks + 543 ≤ MS) (hk : ∀ G' A' q9 x kc' ks', kc' ≤ kc + 90 → ks' ≤ ks + 543 → T q9 = none → yJ G' A' (zH E σ) (va_up T q9 (some x)) → yCo A' o n → k2 G' kc' ks' o (zL E 5 0 0) (zI (s + 1))) : (kc + 1 ≤ MC ∧ ks + 9 ≤ MS) ∧ ∀ q113 : Nat, G q113 = none → ∀ G113 : gH, G113 = va_up G q113 (some (.inl (0, 9, fun _ => 0))) →
    ∃ v118, g_i G113 (ySe E s) 12 0 = some v118 ∧
    ∃ G121, g_ast 0 G113 q113 (0 : Int32) v118 = some G121 ∧
    ∃ v125, g_i G121 (ySe E s) 12 1 = some v125 ∧
    ∃ G128, g_ast 0 G121 q113 (1 : Int32) v125 = some G128 ∧
    ∃ G133, g_ast 0 G128 q113 (2 : Int32) (zI (zcn (yMa n s) 0 (n 0).toNat)) = some G133 ∧
    ∃ v137, g_i G133 (ySe E s) 12 2 = some v137 ∧
    ∃ G140, g_ast 0 G133 q113 (3 : Int32) v137 = some G140 ∧
    ∃ v144, g_i G140 (ySe E s) 12 3 = some v144 ∧
    ∃ G147, g_ast 0 G140 q113 (4 : Int32) v144 = some G147 ∧
    ∃ C152 R152 : gH, gd C152 R152 ∧ G147 = gj C152 R152 ∧
    ∃ u152, g_ob C152 (zL E 5 0 0) 10 = some u152 ∧
    ((kc + 1) + 0 ≤ MC ∧ (ks + 9) + 0 ≤ MS) ∧
    ∃ v152, f_X10_reads C152 (zL E 5 0 0) (ySe E s) = some v152 ∧
    if v152 = 0 then
    w_L_sessions_J163 MC MS K k2 G147 (kc + 1) (ks + 9) o (zL E 5 0 0) (zI s) (some (ySe E s)) (zI (zcn (ySp n s) 0 (n 0).toNat)) q5 q113 q113 (5 : Int32) (0 : Int32)
    else
    w_L_sessions_J163 MC MS K k2 G147 (kc + 1) (ks + 9) o (zL E 5 0 0) (zI s) (some (ySe E s)) (zI (zcn (ySp n s) 0 (n 0).toNat)) q5 q113 q113 (5 : Int32) (1 : Int32) := by
  have hn := hA.w
  have hN := hn.1.r
  have hs := (yS hI.w hI.r hn s0 s1).1
  refine ⟨⟨by omega, by omega⟩, fun q9 z9 G1 i1 => ?_⟩
  obtain ⟨J1, n9⟩ := hJ.new z9 (.inl (0, 9, fun _ => 0))
  rw [← i1] at J1
  obtain ⟨G2, g2, J2⟩ := J1.tast2 (by omega) (i := 0) (by omega) (by omega) (zI (nS n s 0))
  obtain ⟨G3, g3, J3⟩ := J2.tast2 (by omega) (i := 1) (by omega) (by omega) (zI (nS n s 1))
  obtain ⟨G4, g4, J4⟩ := J3.tast2 (by omega) (i := 2) (by omega) (by omega) (zI (zcn (yMa n s) 0 (n 0).toNat))
  obtain ⟨G5, g5, J5⟩ := J4.tast2 (by omega) (i := 3) (by omega) (by omega) (zI (nS n s 2))
  obtain ⟨G6, g6, J6⟩ := J5.tast2 (by omega) (i := 4) (by omega) (by omega) (zI (nS n s 3 - 1))
  refine ⟨_, J1.i hs.1, _, g2, _, J2.i hs.2.1, _, g3, _, g4, _, J4.i hs.2.2.1, _, g5, _, J5.i hs.2.2.2.1, _, g6, _, _, J6.b.1, J6.b.2, (), yl_ob5 hI, ⟨by omega, by omega⟩, _, yl_reads hI.w hI.r hn hy s0 s1, ?_⟩
  have key : ∀ x : Int32, x = zI (zb (nRdD n s)) → w_L_sessions_J163 MC MS K k2 G6 (kc + 1) (ks + 9) o (zL E 5 0 0) (zI s) (some (ySe E s)) (zI (zcn (ySp n s) 0 (n 0).toNat)) q5 q9 q9 (5 : Int32) x := by
    intro x hx
    subst hx
    obtain ⟨G7, g7, J7⟩ := J6.tast2 (by omega) (i := 5) (by omega) (by omega) (zI (zb (nRdD n s)))
    obtain ⟨G8, g8, J8⟩ := J7.tast2 (by omega) (i := 6) (by omega) (by omega) (zI (nS n s 4 - 1))
    unfold w_L_sessions_J163
    refine ⟨fun h => (by cases h), fun r hr => ?_⟩
    obtain rfl : ySe E s = r := by injection hr
    refine ⟨_, g7, _, J7.i hs.2.2.2.2.1, _, g8, _, _, J8.b.1, J8.b.2, (), yl_ob5 hI, ⟨by omega, by omega⟩, _, yl_reaches hI.w hI.r hn hy s0 s1, ?_⟩
    have key2 : ∀ x : Int32, x = zI (zb (nRe n s)) → w_L_sessions_J188 MC MS K k2 G8 (kc + 1) (ks + 9) o (zL E 5 0 0) (zI s) (some (ySe E s)) (zI (zcn (ySp n s) 0 (n 0).toNat)) q5 q9 q9 (7 : Int32) x := by
      intro x hx
      subst hx
      obtain ⟨G9, g9, J9⟩ := J8.tast2 (by omega) (i := 7) (by omega) (by omega) (zI (zb (nRe n s)))
      obtain ⟨G10, g10, J10⟩ := J9.tast2 (by omega) (i := 8) (by omega) (by omega) (zI (zcn (ySp n s) 0 (n 0).toNat))
      unfold w_L_sessions_J188
      refine ⟨fun h => (by cases h), fun r hr => ?_⟩
      obtain rfl : ySe E s = r := by injection hr
      refine ⟨_, g9, _, g10, ?_⟩
      exact yd_L200 hI hy s0 s1 (va_keep h5 n9) hu (ρ := yDs n s) gva_at (fun i i0 i1 => yDs_at hn.1 i0 i1) 9 g_N 0 G10 A (kc + 1) (ks + 9) J10 hA (by omega) (by omega) (by unfold g_N; omega) (by omega) (by omega) (fun G' A' kc' ks' h1 h2 hJ' hA' => hk G' A' q9 _ kc' ks' (by omega) (by omega) n9 hJ' hA')
    rw [zI_b]
    cases c : nRe n s
    · exact key2 _ (by rw [c]; rfl)
    · exact key2 _ (by rw [c]; rfl)
  rw [zI_b]
  cases c : nRdD n s
  · exact key _ (by rw [c]; rfl)
  · exact key _ (by rw [c]; rfl)
/-- the blocks of a session -/
theorem yd_L31 {MC MS : Nat} {k2 : gH → Nat → Nat → Nat → Nat → Int32 → Prop} {s : Int} {q5 : Nat} (hI : yI E σ n) (hy : yW n) (s0 : 0 ≤ s) (s1 : s < n 3) {f : Nat → Int32} (hne : q ≠ q5) {kc ks : Nat} (hkc : kc + 90 ≤ MC) (hks : ks + 543 ≤ MS) {A : gH} (hA : yCo A o n) (hk : ∀ G' A' T' kc' ks', kc' ≤ kc + 90 → ks' ≤ ks + 543 → yJ G' A' (zH E σ) T' → yCo A' o n → T' q = some (.inl (0, 1, f)) → k2 G' kc' ks' o (zL E 5 0 0) (zI (s + 1))) : ∀ (m fuel : Nat) (b : Int) (G T : gH) (u : Nat → Int32), yJ G A (zH E σ) T → T q = some (.inl (0, 1, f)) → T q5 = some (.inl (0, 5, u)) → (∀ i, i < 5 → u i = yUs n s b i) → 0 ≤ b → b + m = n 0 → m < fuel → w_L_sessions_L31 MC MS K k2 fuel G kc ks o (zL E 5 0 0) (zI s) (some (ySe E s)) (zI (zcn (yMa n s) 0 b.toNat)) (zI (zcn (ySp n s) 0 b.toNat)) q5 (zI b) := by
  intro m
  induction m with
  | zero =>
    intro fuel b G T u hJ hq h5 hu b0 bm hf
    cases fuel with
    | zero => omega
    | succ fuel =>
    have hN := hA.w.1.r
    obtain rfl : b = n 0 := by omega
    unfold w_L_sessions_L31
    refine ⟨fun h => (by cases h), fun r hr => ?_⟩
    obtain rfl : ySe E s = r := by injection hr
    refine ⟨_, hJ.i (yN hI.w hI.r).1, ?_⟩
    rw [if_pos (show zI (n 0) ≤ zI (n 0) by rw [zI_le (by omega) (by omega) (by omega) (by omega)]; omega)]
    exact yd_due hJ hA hI hy s0 s1 h5 (fun i i0 i1 => by rw [hu _ (by omega)]; exact yUs_end s0 i (by omega)) hkc hks (fun G' A' q9 x kc' ks' h1 h2 n9 hJ' hA' => hk G' A' _ kc' ks' h1 h2 hJ' hA' (va_keep hq n9))
  | succ m ih =>
    intro fuel b G T u hJ hq h5 hu b0 bm hf
    cases fuel with
    | zero => omega
    | succ fuel =>
    have hn := hA.w
    have hN := hn.1.r
    have hb := hn.2.1 b b0 (by omega)
    have zo := zz_ldo (σ := σ) hI.w hI.u
    have ur := nUs_rng n b
    have sM := zcn_nx (P := yMa n s) b0
    have sS := zcn_nx (P := ySp n s) b0
    unfold w_L_sessions_L31
    refine ⟨fun h => (by cases h), fun r hr => ?_⟩
    obtain rfl : ySe E s = r := by injection hr
    refine ⟨_, hJ.i (yN hI.w hI.r).1, ?_⟩
    rw [if_neg (show ¬ zI (n 0) ≤ zI b by rw [zI_le (by omega) (by omega) (by omega) (by omega)]; omega)]
    refine ⟨_, hJ.r (show g_r (zH E σ) (zL E 5 0 0) 10 8 = some (zL E 5 0 8) by simp only [zo]), _, hJ.ald ((yB hI.w hI.r).2.1 b b0 (by omega)), ?_⟩
    by_cases c : n (295 + b) = s + 1
    · rw [if_pos (show zI (n (295 + b) - 1) = zI s by rw [c, show s + 1 - 1 = s by omega])]
      obtain ⟨G2, g2, J2⟩ := hJ.tast h5 (by omega) ur.1 (by omega) (u (nUs n b).toNat + 1)
      have hq' : va_up T q5 (some (.inl (0, 5, upd u (nUs n b).toNat (u (nUs n b).toNat + 1)))) q = some (.inl (0, 1, f)) := va_keep2 hq hne
      have nxt := ih fuel (b + 1) G2 _ _ J2 hq' gva_at (yUs_nx b0 c hu) (by omega) (by omega) (by omega)
      have hm := yl_main hI.w hI.r
      refine ⟨_, _, hJ.b.1, hJ.b.2, (), yl_ob5 hI, ⟨by omega, by omega⟩, _, yl_use hI.w hI.r hn hy b0 (by omega), _, hJ.tald h5 (by omega) ur.1 (by omega), _, g2, _, _, J2.b.1, J2.b.2, (), yl_ob5 hI, ⟨by omega, by omega⟩, _, hm, ?_⟩
      have e1 : (zI b + (1 : Int32)) = zI (b + 1) := zI_add b 1
      by_cases d : b < n 0 - n 1
      · have m1 : yMa n s b = true := by unfold yMa; simp [c, d]
        have p1 : ySp n s b = false := by unfold ySp; simp [d]
        rw [m1, show zb true = 1 from rfl] at sM
        rw [p1, show zb false = 0 from rfl] at sS
        rw [if_neg (show ¬ zI (n 0 - n 1) ≤ zI b by rw [zI_le (by omega) (by omega) (by omega) (by omega)]; omega)]
        unfold w_L_sessions_J83
        refine ⟨fun h => (by cases h), fun r hr => ?_⟩
        obtain rfl : ySe E s = r := by injection hr
        refine ⟨_, _, J2.b.1, J2.b.2, (), yl_ob5 hI, ⟨by omega, by omega⟩, _, hm, ?_⟩
        rw [if_neg (show ¬ zI (n 0 - n 1) ≤ zI b by rw [zI_le (by omega) (by omega) (by omega) (by omega)]; omega), e1, show (zI (zcn (yMa n s) 0 b.toNat) + (1 : Int32)) = zI (zcn (yMa n s) 0 b.toNat + 1) from zI_add _ 1, show (zI (zcn (ySp n s) 0 b.toNat) + (0 : Int32)) = zI (zcn (ySp n s) 0 b.toNat + 0) from zI_add _ 0, ← sM, ← sS]
        exact nxt
      · have m1 : yMa n s b = false := by unfold yMa; simp [d]
        have p1 : ySp n s b = true := by unfold ySp; simp [c, d]
        rw [m1, show zb false = 0 from rfl] at sM
        rw [p1, show zb true = 1 from rfl] at sS
        rw [if_pos (show zI (n 0 - n 1) ≤ zI b by rw [zI_le (by omega) (by omega) (by omega) (by omega)]; omega)]
        unfold w_L_sessions_J83
        refine ⟨fun h => (by cases h), fun r hr => ?_⟩
        obtain rfl : ySe E s = r := by injection hr
        refine ⟨_, _, J2.b.1, J2.b.2, (), yl_ob5 hI, ⟨by omega, by omega⟩, _, hm, ?_⟩
        rw [if_pos (show zI (n 0 - n 1) ≤ zI b by rw [zI_le (by omega) (by omega) (by omega) (by omega)]; omega), e1, show (zI (zcn (yMa n s) 0 b.toNat) + (0 : Int32)) = zI (zcn (yMa n s) 0 b.toNat + 0) from zI_add _ 0, show (zI (zcn (ySp n s) 0 b.toNat) + (1 : Int32)) = zI (zcn (ySp n s) 0 b.toNat + 1) from zI_add _ 1, ← sM, ← sS]
        exact nxt
    · rw [if_neg (show ¬ zI (n (295 + b) - 1) = zI s by rw [zI_eq (by omega) (by omega) (by omega) (by omega)]; omega)]
      have m1 : yMa n s b = false := by unfold yMa; simp [c]
      have p1 : ySp n s b = false := by unfold ySp; simp [c]
      rw [m1, show zb false = 0 from rfl, Int.add_zero] at sM
      rw [p1, show zb false = 0 from rfl, Int.add_zero] at sS
      have nxt := ih fuel (b + 1) G T u hJ hq h5 (yUs_no b0 c hu) (by omega) (by omega) (by omega)
      rw [sM, sS] at nxt
      rw [show (zI b + (1 : Int32)) = zI (b + 1) from zI_add b 1]
      exact nxt
set_option maxRecDepth 8192 in
theorem yd_L2 {MC MS : Nat} (hI : yI E σ n) (hy : yW n) {f : Nat → Int32} (hK : ∀ G', yT o (zL E 5 0 0) q G' n → K (1 : Int32) G') : ∀ (m fuel : Nat) (s : Int) (G A T : gH) (kc ks : Nat), yJ G A (zH E σ) T → yCo A o n → T q = some (.inl (0, 1, f)) → 0 ≤ s → s + m = n 3 → m < fuel → kc + 91 * m ≤ MC → ks + 548 * m ≤ MS → w_L_sessions_L2 MC MS K fuel G kc ks o (zL E 5 0 0) (zI s) := by
  intro m
  induction m with
  | zero =>
    intro fuel s G A T kc ks hJ hA hq s0 sm hf hkc hks
    cases fuel with
    | zero => omega
    | succ fuel =>
    have hN := hA.w.1.r
    obtain rfl : s = n 3 := by omega
    unfold w_L_sessions_L2
    refine ⟨_, hJ.i (yN hI.w hI.r).2.2.2.2.1, ?_⟩
    rw [if_pos (show zI (n 3) ≤ zI (n 3) by rw [zI_le (by omega) (by omega) (by omega) (by omega)]; omega)]
    exact ⟨by omega, by omega, hK _ (yT.mk hJ hA hI hy hq)⟩
  | succ m ih =>
    intro fuel s G A T kc ks hJ hA hq s0 sm hf hkc hks
    cases fuel with
    | zero => omega
    | succ fuel =>
    have hn := hA.w
    have hN := hn.1.r
    unfold w_L_sessions_L2
    refine ⟨_, hJ.i (yN hI.w hI.r).2.2.2.2.1, ?_⟩
    rw [if_neg (show ¬ zI (n 3) ≤ zI s by rw [zI_le (by omega) (by omega) (by omega) (by omega)]; omega)]
    refine ⟨_, hJ.r (show g_r (zH E σ) (zL E 5 0 0) 10 16 = some (zL E 5 0 16) by simp only [zz_ldo hI.w hI.u]), _, hJ.rald ((yAll hI.w hI.r hn.1).2 s s0 (by omega)), fun h => (by cases h), fun r hr => ?_⟩
    obtain rfl : ySe E s = r := by injection hr
    refine ⟨⟨by omega, by omega⟩, fun q5 z5 G1 i1 => ?_⟩
    obtain ⟨J1, n5⟩ := hJ.new z5 (.inl (0, 5, fun _ => 0))
    rw [← i1] at J1
    have hne : q ≠ q5 := by rintro rfl; rw [n5] at hq; cases hq
    have b1 : kc + 1 + 90 ≤ MC := by omega
    have b2 : ks + 5 + 543 ≤ MS := by omega
    have b3 : s < n 3 := by omega
    have := yd_L31 (MC := MC) (MS := MS) (K := K) (o := o) (k2 := w_L_sessions_L2 MC MS K fuel) (q := q) hI hy s0 b3 (f := f) hne (kc := kc + 1) (ks := ks + 5) b1 b2 hA (fun G' A' T' kc' ks' h1 h2 hJ' hA' hq' => ih fuel (s + 1) G' A' T' kc' ks' hJ' hA' hq' (by omega) (by omega) (by omega) (by omega) (by omega)) (n 0).toNat g_N (0 : Int) G1 _ (fun _ => 0) J1 (va_keep hq n5) gva_at (fun i hi => rfl) (by omega) (by omega) (by unfold g_N; omega)
    exact this
theorem yl_sessions {e : Nat} (h : yT o e q G n) (hK : ∀ G', yT o e q G' n → K (1 : Int32) G') : w_L_sessions 1500 15000 G o e K := by
  obtain ⟨A, B, T, f, hJ, hA, ⟨E, σ, hI, rfl, rfl⟩, hy, hq⟩ := h
  have hn := hA.w
  have hN := hn.1.r
  unfold w_L_sessions
  exact yd_L2 hI hy hK (n 3).toNat g_N 0 G A T 0 0 hJ hA hq (by omega) (by omega) (by unfold g_N; omega) (by omega) (by omega)
end zF_


/-! The blocks of both discs, the space, the sizes. -/
section zC
variable {G A T : gH} {o q : Nat} {n : zN} {E : zE} {σ : zW} {K : Int32 → gH → Prop}
/-- the row of a block's properties, filled -/
def yDue (n : zN) (b : Int) : Nat → Int32 := upd (upd (upd (upd (upd (upd (upd (fun _ => 0) 0 (zI (n (7 + b)))) 1 (zI (n (103 + b)))) 2 (zI (n (199 + b)))) 3 (zI (n (295 + b) - 1))) 4 (zI (n (391 + b) - 1))) 5 (zI (n (487 + b) - 1))) 6 (zI (n (583 + b) - 1))
theorem yDue_at {n : zN} {b w : Int} (w0 : 0 ≤ w) (w1 : w < 7) : yDue n b w.toNat = zI (aBlock n b w) := by
  rcases (by omega : w = 0 ∨ w = 1 ∨ w = 2 ∨ w = 3 ∨ w = 4 ∨ w = 5 ∨ w = 6) with rfl | rfl | rfl | rfl | rfl | rfl | rfl <;> rfl
theorem yb_J80 {MC MS kc ks : Nat} {q1 : Nat} (hJ : yJ G A (zH E σ) T) (hA : yCo A o n) (hI : yI E σ n) {b x3 z0 z1 : Int} (b0 : 0 ≤ b) (b1 : b < n 0) (hm : n 0 ≤ 47) (hkc : kc + 16 ≤ MC) (hks : ks + 97 ≤ MS) {k15 : gH → Nat → Nat → Nat → Nat → Nat → Int32 → Int32 → Int32 → Int32 → Prop} (hk : ∀ G' A' q7 x kc' ks', kc' = kc + 16 → ks' = ks + 97 → T q7 = none → yJ G' A' (zH E σ) (va_up T q7 (some x)) → yCo A' o n → k15 G' kc' ks' o (zL E 5 0 0) q1 (zI x3) (zI (z0 + z1)) (zI (zcn (nDf n) 0 (b + 1).toNat)) (zI (b + 1))) : w_L_blocks_J80 MC MS K k15 G kc ks o (zL E 5 0 0) q1 (zI x3) (zI (zcn (nDf n) 0 b.toNat)) (zI b) (zI z0) (zI z1) := by
  have hn := hA.w
  have hN := hn.1.r
  have hb := hn.2.1 b b0 (by omega)
  have zo := zz_ldo (σ := σ) hI.w hI.u
  obtain ⟨B7, B8, B9, B10, B11, B12, B13, B14⟩ := yB hI.w hI.r
  unfold w_L_blocks_J80
  refine ⟨⟨by omega, by omega⟩, fun q7 z7 G1 i1 => ?_⟩
  obtain ⟨J1, n7⟩ := hJ.new z7 (.inl (0, 7, fun _ => 0))
  rw [← i1] at J1
  obtain ⟨G2, g2, J2⟩ := J1.tast2 (by omega) (i := 0) (by omega) (by omega) (zI (n (7 + b)))
  refine ⟨_, J1.r (show g_r (zH E σ) (zL E 5 0 0) 10 7 = some (zL E 5 0 7) by simp only [zo]), _, J1.ald (B7 b b0 (by omega)), _, g2, _, J2.r (show g_r (zH E σ) (zL E 5 0 0) 10 12 = some (zL E 5 0 12) by simp only [zo]), _, J2.ald (B12 b b0 (by omega)), ?_⟩
  rw [zI_add]
  have key : ∀ (x : Int32), x = zI (n (103 + b)) → w_L_blocks_J114 MC MS K k15 G2 (kc + 1) (ks + 7) o (zL E 5 0 0) q1 (zI x3) (zI (z0 + z1)) (zI (zcn (nDf n) 0 b.toNat)) (zI b) q7 q7 (1 : Int32) x := by
    intro x hx
    subst hx
    unfold w_L_blocks_J114
    obtain ⟨G3, g3, J3⟩ := J2.tast2 (by omega) (i := 1) (by omega) (by omega) (zI (n (103 + b)))
    refine ⟨_, g3, _, J3.r (show g_r (zH E σ) (zL E 5 0 0) 10 13 = some (zL E 5 0 13) by simp only [zo]), _, J3.ald (B13 b b0 (by omega)), ?_⟩
    have key2 : ∀ (x : Int32), x = zI (n (199 + b)) → w_L_blocks_J132 MC MS K k15 G3 (kc + 1) (ks + 7) o (zL E 5 0 0) q1 (zI x3) (zI (z0 + z1)) (zI (zcn (nDf n) 0 b.toNat)) (zI b) q7 q7 (2 : Int32) x := by
      intro x hx
      subst hx
      unfold w_L_blocks_J132
      obtain ⟨G4, g4, J4⟩ := J3.tast2 (by omega) (i := 2) (by omega) (by omega) (zI (n (199 + b)))
      obtain ⟨G5, g5, J5⟩ := J4.tast2 (by omega) (i := 3) (by omega) (by omega) (zI (n (295 + b) - 1))
      have r14 := J5.r (show g_r (zH E σ) (zL E 5 0 0) 10 14 = some (zL E 5 0 14) by simp only [zo])
      have a14 := J5.rald (B14 b b0 (by omega))
      refine ⟨_, g4, _, J4.r (show g_r (zH E σ) (zL E 5 0 0) 10 8 = some (zL E 5 0 8) by simp only [zo]), _, J4.ald (B8 b b0 (by omega)), _, g5, _, r14, _, a14, ?_⟩
      have key3 : ∀ (x : Int32), x = zI (n (391 + b) - 1) → w_L_blocks_J169 MC MS K k15 G5 (kc + 1) (ks + 7) o (zL E 5 0 0) q1 (zI x3) (zI (z0 + z1)) (zI (zcn (nDf n) 0 b.toNat)) (zI b) q7 q7 (4 : Int32) x := by
        intro x hx
        subst hx
        unfold w_L_blocks_J169
        obtain ⟨G6, g6, J6⟩ := J5.tast2 (by omega) (i := 4) (by omega) (by omega) (zI (n (391 + b) - 1))
        obtain ⟨G7, g7, J7⟩ := J6.tast2 (by omega) (i := 5) (by omega) (by omega) (zI (n (487 + b) - 1))
        obtain ⟨G8, g8, J8⟩ := J7.tast2 (by omega) (i := 6) (by omega) (by omega) (zI (n (583 + b) - 1))
        refine ⟨_, g6, _, J6.r (show g_r (zH E σ) (zL E 5 0 0) 10 9 = some (zL E 5 0 9) by simp only [zo]), _, J6.ald (B9 b b0 (by omega)), _, g7, _, J7.r (show g_r (zH E σ) (zL E 5 0 0) 10 10 = some (zL E 5 0 10) by simp only [zo]), _, J7.ald (B10 b b0 (by omega)), _, g8, ?_⟩
        exact yb_L196 hI (ρ := yDue n b) gva_at b0 b1 hm (fun w w0 w1 => yDue_at w0 w1) 7 g_N 0 G8 A (kc + 1) (ks + 7) J8 hA (by omega) (by omega) (by unfold g_N; omega) (by omega) (by omega) (fun G' A' kc' ks' h1 h2 hJ' hA' => hk G' A' q7 _ kc' ks' (by omega) (by omega) n7 hJ' hA')
      by_cases c : n (391 + b) = 0
      · rw [if_pos c]
        exact ⟨fun _ => key3 _ (by rw [c]; rfl), fun r hr => by cases hr⟩
      · rw [if_neg c] at a14 ⊢
        refine ⟨fun z => (by cases z), fun r hr => ⟨_, r14, _, a14, fun z => (by cases z), fun r' hr' => ?_⟩⟩
        obtain rfl : yVe E (n (391 + b) - 1) = r' := by injection hr'
        exact ⟨_, J5.i (yV hI.w hI.r hn (by omega) (by omega)).1.2.1, key3 _ rfl⟩
    rcases hb.2.2.1 with c | c
    · rw [if_pos (show zI (n (199 + b)) = 0 by rw [c]; rfl)]; exact key2 _ (by rw [c]; rfl)
    · rw [if_neg (show ¬ zI (n (199 + b)) = 0 by rw [c]; decide)]; exact key2 _ (by rw [c]; rfl)
  rcases hb.2.1 with c | c
  · rw [if_pos (show zI (n (103 + b)) = 0 by rw [c]; rfl)]; exact key _ (by rw [c]; rfl)
  · rw [if_neg (show ¬ zI (n (103 + b)) = 0 by rw [c]; decide)]; exact key _ (by rw [c]; rfl)
theorem zcn_nx {P : Int → Bool} {b : Int} (b0 : 0 ≤ b) : zcn P 0 (b + 1).toNat = zcn P 0 b.toNat + zb (P b) := by
  rw [show (b + 1).toNat = b.toNat + 1 by omega, zcn_add, show (0 : Int) + ((b.toNat : Nat) : Int) = b by omega]
  show _ + (zb (P b) + 0) = _
  omega
/-- an empty spare block -/
def yEm (n : zN) (b : Int) : Bool := decide (n 0 - n 1 ≤ b) && decide (n (7 + b) = 0)
theorem yb_J52 {MC MS kc ks : Nat} {q1 : Nat} (hJ : yJ G A (zH E σ) T) (hA : yCo A o n) (hI : yI E σ n) {b z0 z1 : Int} (b0 : 0 ≤ b) (b1 : b < n 0) (hm : n 0 ≤ 47) (hkc : kc + 16 ≤ MC) (hks : ks + 97 ≤ MS) {k15 : gH → Nat → Nat → Nat → Nat → Nat → Int32 → Int32 → Int32 → Int32 → Prop} (hk : ∀ G' A' q7 x kc' ks', kc' = kc + 16 → ks' = ks + 97 → T q7 = none → yJ G' A' (zH E σ) (va_up T q7 (some x)) → yCo A' o n → k15 G' kc' ks' o (zL E 5 0 0) q1 (zI (z0 + z1)) (zI (zcn (yEm n) 0 (b + 1).toNat)) (zI (zcn (nDf n) 0 (b + 1).toNat)) (zI (b + 1))) : w_L_blocks_J52 MC MS K k15 G kc ks o (zL E 5 0 0) q1 (zI (zcn (yEm n) 0 b.toNat)) (zI (zcn (nDf n) 0 b.toNat)) (zI b) (zI z0) (zI z1) := by
  have hn := hA.w
  have hN := hn.1.r
  have hb := hn.2.1 b b0 (by omega)
  have zo := zz_ldo (σ := σ) hI.w hI.u
  have hst := zcn_nx (P := yEm n) b0
  unfold w_L_blocks_J52
  refine ⟨_, _, hJ.b.1, hJ.b.2, (), yl_ob5 hI, ⟨by omega, by omega⟩, _, yl_main hI.w hI.r, ?_⟩
  rw [zI_add]
  by_cases c : b < n 0 - n 1
  · rw [if_pos (show zI b < zI (n 0 - n 1) by rw [zI_lt (by omega) (by omega) (by omega) (by omega)]; exact c)]
    have e : yEm n b = false := by unfold yEm; simp; omega
    rw [e, show zb false = 0 from rfl] at hst
    rw [hst] at hk
    rw [show (0 : Int32) = zI 0 from rfl]
    exact yb_J80 hJ hA hI b0 b1 hm hkc hks hk
  · rw [if_neg (show ¬ zI b < zI (n 0 - n 1) by rw [zI_lt (by omega) (by omega) (by omega) (by omega)]; exact c)]
    refine ⟨_, hJ.r (show g_r (zH E σ) (zL E 5 0 0) 10 7 = some (zL E 5 0 7) by simp only [zo]), _, hJ.ald ((yB hI.w hI.r).1 b b0 (by omega)), ?_⟩
    by_cases c1 : n (7 + b) = 0
    · rw [if_pos (show zI (n (7 + b)) = 0 by rw [c1]; rfl)]
      have e : yEm n b = true := by unfold yEm; simp [c1]; omega
      rw [e, show zb true = 1 from rfl] at hst
      rw [hst] at hk
      rw [show (1 : Int32) = zI 1 from rfl]
      exact yb_J80 hJ hA hI b0 b1 hm hkc hks hk
    · rw [if_neg (show ¬ zI (n (7 + b)) = (0 : Int32) from zI_ne (by omega) (by omega) (by omega) (by omega) c1)]
      have e : yEm n b = false := by unfold yEm; simp [c1]
      rw [e, show zb false = 0 from rfl] at hst
      rw [hst] at hk
      rw [show (0 : Int32) = zI 0 from rfl]
      exact yb_J80 hJ hA hI b0 b1 hm hkc hks hk
/-- the uses counted -/
def yUc (n : zN) (k : Int) (i : Nat) : Int32 := zI (zcn (fun b => decide (nUs n b = i)) 0 k.toNat)
theorem yUc_nx {n : zN} {b : Int} (b0 : 0 ≤ b) {u : Nat → Int32} (hu : ∀ i, i < 5 → u i = yUc n b i) : ∀ i, i < 5 → upd u (nUs n b).toNat (u (nUs n b).toNat + 1) i = yUc n (b + 1) i := by
  have r := nUs_rng n b
  intro i hi
  unfold yUc
  rw [zcn_nx b0]
  by_cases z : i = (nUs n b).toNat
  · subst z
    rw [show upd u (nUs n b).toNat (u (nUs n b).toNat + 1) (nUs n b).toNat = u (nUs n b).toNat + 1 by simp [upd], hu _ hi]
    unfold yUc
    rw [show decide (nUs n b = (((nUs n b).toNat : Nat) : Int)) = true by simp; omega, show (1 : Int32) = zI 1 from rfl, zI_add]
    rfl
  · rw [show upd u (nUs n b).toNat (u (nUs n b).toNat + 1) i = u i by simp [upd, z], hu _ hi]
    unfold yUc
    rw [show decide (nUs n b = (i : Int)) = false by simp; omega, show zb false = 0 from rfl, Int.add_zero]
theorem yb_L15 {MC MS : Nat} {q1 : Nat} (hI : yI E σ n) (hy : yW n) (hm : n 0 ≤ 47) : ∀ (m fuel : Nat) (b : Int) (G A T : gH) (kc ks : Nat) (u : Nat → Int32) (f : Nat → Int32), yJ G A (zH E σ) T → yCo A o n → T q = some (.inl (0, 1, f)) → q ≠ q1 → T q1 = some (.inl (0, 5, u)) → (∀ i, i < 5 → u i = yUc n b i) → 0 ≤ b → b + m = n 0 → m < fuel → kc + 16 * m ≤ MC → ks + 97 * m ≤ MS → (∀ G' A' T' kc' ks' u', kc' = kc + 16 * m → ks' = ks + 97 * m → yJ G' A' (zH E σ) T' → yCo A' o n → T' q = some (.inl (0, 1, f)) → T' q1 = some (.inl (0, 5, u')) → (∀ i, i < 5 → u' i = yUc n (n 0) i) → w_L_blocks_L358 MC MS K g_N G' kc' ks' o (zL E 5 0 0) q1 (zI (zcn (fun b => decide (n (103 + b) = 1)) 0 (n 0).toNat)) (zI (zcn (yEm n) 0 (n 0).toNat)) (zI (zcn (nDf n) 0 (n 0).toNat)) (0 : Int32)) → w_L_blocks_L15 MC MS K fuel G kc ks o (zL E 5 0 0) q1 (zI (zcn (fun b => decide (n (103 + b) = 1)) 0 b.toNat)) (zI (zcn (yEm n) 0 b.toNat)) (zI (zcn (nDf n) 0 b.toNat)) (zI b) := by
  intro m
  induction m with
  | zero =>
    intro fuel b G A T kc ks u f hJ hA hq hne hq1 hu b0 bm hf hkc hks hk
    cases fuel with
    | zero => omega
    | succ fuel =>
    have hN := hA.w.1.r
    obtain rfl : b = n 0 := by omega
    unfold w_L_blocks_L15
    refine ⟨_, hJ.i (yN hI.w hI.r).1, ?_⟩
    rw [if_pos (show zI (n 0) ≤ zI (n 0) by rw [zI_le (by omega) (by omega) (by omega) (by omega)]; omega)]
    exact hk G A T kc ks u (by omega) (by omega) hJ hA hq hq1 hu
  | succ m ih =>
    intro fuel b G A T kc ks u f hJ hA hq hne hq1 hu b0 bm hf hkc hks hk
    cases fuel with
    | zero => omega
    | succ fuel =>
    have hn := hA.w
    have hN := hn.1.r
    have hb := hn.2.1 b b0 (by omega)
    have ur := nUs_rng n b
    have zo := zz_ldo (σ := σ) hI.w hI.u
    have hst := zcn_nx (P := fun b => decide (n (103 + b) = 1)) b0
    unfold w_L_blocks_L15
    refine ⟨_, hJ.i (yN hI.w hI.r).1, ?_⟩
    rw [if_neg (show ¬ zI (n 0) ≤ zI b by rw [zI_le (by omega) (by omega) (by omega) (by omega)]; omega)]
    obtain ⟨G2, g2, J2⟩ := hJ.tast hq1 (by omega) ur.1 (by omega) (u (nUs n b).toNat + 1)
    have hq' : va_up T q1 (some (.inl (0, 5, upd u (nUs n b).toNat (u (nUs n b).toNat + 1)))) q = some (.inl (0, 1, f)) := va_keep2 hq hne
    have next : ∀ x : Int, zcn (fun b => decide (n (103 + b) = 1)) 0 (b + 1).toNat = zcn (fun b => decide (n (103 + b) = 1)) 0 b.toNat + x → w_L_blocks_J52 MC MS K (w_L_blocks_L15 MC MS K fuel) G2 kc ks o (zL E 5 0 0) q1 (zI (zcn (yEm n) 0 b.toNat)) (zI (zcn (nDf n) 0 b.toNat)) (zI b) (zI (zcn (fun b => decide (n (103 + b) = 1)) 0 b.toNat)) (zI x) := by
      intro x hx
      refine yb_J52 J2 hA hI b0 (by omega) hm (by omega) (by omega) (fun G' A' q7 y kc' ks' h1 h2 n7 hJ' hA' => ?_)
      rw [← hx]
      refine ih fuel (b + 1) G' A' _ kc' ks' (upd u (nUs n b).toNat (u (nUs n b).toNat + 1)) f hJ' hA' (va_keep hq' n7) hne (va_keep gva_at n7) (yUc_nx b0 hu) (by omega) (by omega) (by omega) (by omega) (by omega) (fun G3 A3 T3 kc3 ks3 u3 h3 h4 => hk G3 A3 T3 kc3 ks3 u3 (by omega) (by omega))
    refine ⟨_, _, hJ.b.1, hJ.b.2, (), yl_ob5 hI, ⟨by omega, by omega⟩, _, yl_use hI.w hI.r hn hy b0 (by omega), _, hJ.tald hq1 (by omega) ur.1 (by omega), _, g2, _, J2.r (show g_r (zH E σ) (zL E 5 0 0) 10 12 = some (zL E 5 0 12) by simp only [zo]), _, J2.ald ((yB hI.w hI.r).2.2.2.2.2.1 b b0 (by omega)), ?_⟩
    rcases hb.2.1 with c | c
    · rw [if_pos (show zI (n (103 + b)) = 0 by rw [c]; rfl)]
      exact (show zI 0 = (0 : Int32) from rfl) ▸ next 0 (by rw [hst, c]; rfl)
    · rw [if_neg (show ¬ zI (n (103 + b)) = 0 by rw [c]; decide)]
      exact (show zI 1 = (1 : Int32) from rfl) ▸ next 1 (by rw [hst, c]; rfl)
end zC


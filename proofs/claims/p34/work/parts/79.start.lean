/-! The start: the two objects made. -/
def yE (E : zE) (N : Nat → Nat → Bool) (T : List (Nat × Nat × Nat × Nat)) : zE :=
  (fun q => match T.find? (fun r => Prod.fst r == q) with
    | some p => p.2
    | none => if zU E (zO E q).1 (zO E q).2.1 = true then zO E q else (9, 0, 0), fun k d => zU E k d || N k d, fun k d c => if N k d = true then (match T.find? (fun r => Prod.snd r == (k, d, c)) with
    | some p => p.1
    | none => 0) else zL E k d c)
section zY
variable {E : zE} {N : Nat → Nat → Bool} {T : List (Nat × Nat × Nat × Nat)}
theorem yE_O1 (h1 : (T.map Prod.fst).Nodup) {p : Nat × Nat × Nat × Nat} (hp : p ∈ T) : zO (yE E N T) p.1 = p.2 := by
  show (match T.find? (fun r => Prod.fst r == p.1) with | some p => p.2 | none => _) = p.2
  rw [fnd Prod.fst h1 hp]
theorem yE_O2 {q : Nat} (h : ∀ p ∈ T, p.1 ≠ q) : zO (yE E N T) q = if zU E (zO E q).1 (zO E q).2.1 = true then zO E q else (9, 0, 0) := by
  show (match T.find? (fun r => Prod.fst r == q) with | some p => p.2 | none => _) = _
  rw [fnd_no Prod.fst h]
theorem yE_U {k d : Nat} : zU (yE E N T) k d = (zU E k d || N k d) := rfl
theorem yE_L1 (h2 : (T.map Prod.snd).Nodup) {p : Nat × Nat × Nat × Nat} (hp : p ∈ T) (hN : N p.2.1 p.2.2.1 = true) : zL (yE E N T) p.2.1 p.2.2.1 p.2.2.2 = p.1 := by
  show (if N p.2.1 p.2.2.1 = true then (match T.find? (fun r => Prod.snd r == (p.2.1, p.2.2.1, p.2.2.2)) with
    | some p => p.1
    | none => 0) else zL E p.2.1 p.2.2.1 p.2.2.2) = p.1
  rw [if_pos hN, show (p.2.1, p.2.2.1, p.2.2.2) = p.2 from rfl, fnd Prod.snd h2 hp]
theorem yE_L2 {k d c : Nat} (h : ¬ N k d = true) : zL (yE E N T) k d c = zL E k d c := by
  show (if N k d = true then _ else zL E k d c) = _
  rw [if_neg h]
theorem zk_9 {k c : Nat} (h : zk k c = true) : k ≠ 9 := by
  intro h9
  rw [h9] at h
  exact absurd h (by unfold zk zA zB; simp)
theorem yE_WF {σ : zW} (hW : zWF E) (h1 : (T.map Prod.fst).Nodup) (h2 : (T.map Prod.snd).Nodup) (h3 : ∀ p ∈ T, N p.2.1 p.2.2.1 = true) (h4 : ∀ k d c, N k d = true → zk k c = true → ∃ a, (a, k, d, c) ∈ T) (h5 : ∀ k d, N k d = true → zU E k d = false) (h6 : ∀ p ∈ T, zH E σ p.1 = none) : zWF (yE E N T) := by
  intro k d c hu hk q
  have h9 := zk_9 hk
  by_cases hn : N k d = true
  · obtain ⟨a, ha⟩ := h4 k d c hn hk
    have hL : zL (yE E N T) k d c = a := yE_L1 (E := E) h2 ha hn
    rw [hL]
    refine ⟨fun h => ?_, fun h => by rw [h]; exact yE_O1 h1 ha⟩
    by_cases hq : ∃ p ∈ T, p.1 = q
    · obtain ⟨p, hp, rfl⟩ := hq
      rw [yE_O1 h1 hp] at h
      have e : p = (a, k, d, c) := nodup_inj Prod.snd h2 hp ha h
      rw [e]
    · rw [yE_O2 (fun p hp h0 => hq ⟨p, hp, h0⟩)] at h
      by_cases hus : zU E (zO E q).1 (zO E q).2.1 = true
      · rw [if_pos hus] at h
        rw [h] at hus
        exact absurd hus (by rw [h5 k d hn]; simp)
      · rw [if_neg hus] at h
        exact absurd (congrArg (fun x => x.1) h).symm h9
  · have hu0 : zU E k d = true := by
      rw [yE_U] at hu
      rcases Bool.or_eq_true_iff.mp hu with h | h
      · exact h
      · exact absurd h hn
    rw [yE_L2 hn]
    refine ⟨fun h => ?_, fun h => ?_⟩
    · by_cases hq : ∃ p ∈ T, p.1 = q
      · obtain ⟨p, hp, rfl⟩ := hq
        rw [yE_O1 h1 hp] at h
        have := h3 p hp
        rw [h] at this
        exact absurd this hn
      · rw [yE_O2 (fun p hp h0 => hq ⟨p, hp, h0⟩)] at h
        by_cases hus : zU E (zO E q).1 (zO E q).2.1 = true
        · rw [if_pos hus] at h
          exact (hW k d c hu0 hk q).mp h
        · rw [if_neg hus] at h
          exact absurd (congrArg (fun x => x.1) h).symm h9
    · have ho := (hW k d c hu0 hk q).mpr h
      have hT : ∀ p ∈ T, p.1 ≠ q := by
        intro p hp h0
        have h7 := h6 p hp
        rw [h0] at h7
        unfold zH at h7
        rw [ho, if_pos hu0] at h7
        exact zC_ne hk E d _ h7
      rw [yE_O2 hT, ho, if_pos hu0]
theorem yE_H {σ σ' : zW} {G' : gH} (h1 : (T.map Prod.fst).Nodup) (h3 : ∀ p ∈ T, N p.2.1 p.2.2.1 = true) (h9 : zU E 9 0 = false ∧ N 9 0 = false) (hnew : ∀ p ∈ T, G' p.1 = zC (yE E N T) p.2.1 p.2.2.1 p.2.2.2 (σ' p.2.1 p.2.2.1 p.2.2.2)) (hout : ∀ q, (∀ p ∈ T, p.1 ≠ q) → G' q = zH E σ q) (hold : ∀ k d c, zU E k d = true → zC (yE E N T) k d c (σ' k d c) = zC E k d c (σ k d c)) : zH (yE E N T) σ' = G' := by
  funext q
  by_cases hq : ∃ p ∈ T, p.1 = q
  · obtain ⟨p, hp, rfl⟩ := hq
    rw [hnew p hp]
    unfold zH
    rw [yE_O1 h1 hp, yE_U, if_pos (by simp [h3 p hp])]
  · have hT : ∀ p ∈ T, p.1 ≠ q := fun p hp h0 => hq ⟨p, hp, h0⟩
    rw [hout q hT]
    unfold zH
    rw [yE_O2 hT]
    by_cases hus : zU E (zO E q).1 (zO E q).2.1 = true
    · rw [if_pos hus, if_pos hus, yE_U, if_pos (by rw [hus]; rfl)]
      exact hold _ _ _ hus
    · rw [if_neg hus, if_neg hus, yE_U, if_neg (by rw [h9.1, h9.2]; simp)]
end zY
theorem zk_2 {c : Nat} (h : zk 2 c = true) : c ≤ 19 := by
  by_cases h2 : c ≤ 19
  · exact h2
  · obtain ⟨m, rfl⟩ : ∃ m, c = m + 20 := ⟨c - 20, by omega⟩
    exact absurd h (by simp [zk, zA, zB])
theorem zk_3 {c : Nat} (h : zk 3 c = true) : c ≤ 27 := by
  by_cases h2 : c ≤ 27
  · exact h2
  · obtain ⟨m, rfl⟩ : ∃ m, c = m + 28 := ⟨c - 28, by omega⟩
    exact absurd h (by simp [zk, zA, zB])
theorem zk_4 {c : Nat} (h : zk 4 c = true) : c = 0 := by
  by_cases h2 : c = 0
  · exact h2
  · obtain ⟨m, rfl⟩ : ∃ m, c = m + 1 := ⟨c - 1, by omega⟩
    exact absurd h (by simp [zk, zA, zB])
theorem gi_X3 {G : gH} {a0 : Nat} {K : gH → Prop} (h0 : G a0 = some (gO 3 [.null, .int 0])) (h : ∀ q G', gi G a0 3 [.ref q, .int 0] [(q, .inl (0, 600, fun _ => 0))] G' → K G') : w_X3_init G a0 K := by
  unfold w_X3_init
  have g0 := gi.start h0
  intro q z G8 i
  have n1 := g0.new z (.inl (0, 600, fun _ => 0))
  rw [← i] at n1
  obtain ⟨J1, p1, g1⟩ := n1.put 0 (.ref q) (by simp)
  refine ⟨J1, p1, ?_⟩
  obtain ⟨J2, p2, g2⟩ := g1.put 1 (.int (0 : Int32)) (by simp)
  exact ⟨J2, p2, h q _ g2⟩
theorem gi_X2 {G : gH} {a0 : Nat} {K : gH → Prop} (h0 : G a0 = some (gO 2 [.int 0, .int 0, .null])) (h : ∀ q G', gi G a0 2 [.int 0, .int 0, .ref q] [(q, .inr (.inr (.inl (4, 10, fun _ => none))))] G' → K G') : w_X2_init G a0 K := by
  unfold w_X2_init
  have g0 := gi.start h0
  obtain ⟨J1, p1, g1⟩ := g0.put 0 (.int (0 : Int32)) (by simp)
  refine ⟨J1, p1, ?_⟩
  obtain ⟨J2, p2, g2⟩ := g1.put 1 (.int (0 : Int32)) (by simp)
  refine ⟨J2, p2, ?_⟩
  intro q z G8 i
  have n1 := g2.new z (.inr (.inr (.inl (4, 10, fun _ => none))))
  rw [← i] at n1
  obtain ⟨J3, p3, g3⟩ := n1.put 2 (.ref q) (by simp)
  exact ⟨J3, p3, h q _ g3⟩
theorem gi_X6 {G : gH} {a0 : Nat} {K : gH → Prop} (h0 : G a0 = some (gO 6 [.null, .null])) (h : ∀ q r G', gi G a0 6 [.ref q, .ref r] [(q, .inl (1, 2, fun _ => 0)), (r, .inr (.inr (.inl (4, 2, fun _ => none))))] G' → K G') : w_X6_init G a0 K := by
  unfold w_X6_init
  have g0 := gi.start h0
  intro q z G8 i
  have n1 := g0.new z (.inl (1, 2, fun _ => 0))
  rw [← i] at n1
  obtain ⟨J1, p1, g1⟩ := n1.put 0 (.ref q) (by simp)
  refine ⟨J1, p1, ?_⟩
  intro r z2 G9 i2
  have n2 := g1.new z2 (.inr (.inr (.inl (4, 2, fun _ => none))))
  rw [← i2] at n2
  obtain ⟨J2, p2, g2⟩ := n2.put 1 (.ref r) (by simp)
  exact ⟨J2, p2, h q r _ g2⟩

theorem gi_X11 {G : gH} {a0 : Nat} {K : gH → Prop} (h0 : G a0 = some (gO 11 [.int 0, .int 0, .null, .null, .null])) (h : ∀ k17 k18 k19 G', gi G a0 11 [.int 0, .int 0, .ref k17, .ref k18, .ref k19] [(k17, .inl (0, 600, fun _ => 0)), (k18, .inl (0, 600, fun _ => 0)), (k19, .inr (.inl (600, fun _ => 0)))] G' → K G') : w_X11_init G a0 K := by
  unfold w_X11_init
  have g0 := gi.start h0
  obtain ⟨J0, p0, g1⟩ := g0.put 0 (.int (0 : Int32)) (by simp)
  refine ⟨J0, p0, ?_⟩
  obtain ⟨J1, p1, g2⟩ := g1.put 1 (.int (0 : Int32)) (by simp)
  refine ⟨J1, p1, ?_⟩
  intro k17 z2 G2 i2
  have n2 := g2.new z2 (.inl (0, 600, fun _ => 0))
  rw [← i2] at n2
  obtain ⟨J2, p2, g3⟩ := n2.put 2 (.ref k17) (by simp)
  refine ⟨J2, p2, ?_⟩
  intro k18 z3 G3 i3
  have n3 := g3.new z3 (.inl (0, 600, fun _ => 0))
  rw [← i3] at n3
  obtain ⟨J3, p3, g4⟩ := n3.put 3 (.ref k18) (by simp)
  refine ⟨J3, p3, ?_⟩
  intro k19 z4 G4 i4
  have n4 := g4.new z4 (.inr (.inl (600, fun _ => 0)))
  rw [← i4] at n4
  obtain ⟨J4, p4, g5⟩ := n4.put 4 (.ref k19) (by simp)
  exact ⟨J4, p4, h k17 k18 k19 _ g5⟩
set_option maxHeartbeats 2000000 in
theorem gi_X4 {G : gH} {a0 : Nat} {K : gH → Prop} (h0 : G a0 = some (gO 4 [.int 0, .int 0, .int 0, .int 0, .int 0, .null, .int 0, .null, .null, .null, .null, .null, .null, .null, .int 0])) (h : ∀ k9 k10 k11 k12 k13 k14 k15 k16 k17 k18 k19 G', gi G a0 4 [.int 0, .int (-1), .int 8, .int 0, .int 0, .ref k9, .int 0, .ref k10, .ref k11, .ref k12, .ref k13, .ref k14, .ref k15, .ref k16, .int 0] [(k9, .inr (.inl (10, fun _ => 0))), (k10, .inl (0, 120, fun _ => 0)), (k11, .inl (0, 120, fun _ => 0)), (k12, .inl (0, 120, fun _ => 0)), (k13, .inl (0, 120, fun _ => 0)), (k14, .inl (0, 120, fun _ => 0)), (k15, .inl (1, 96, fun _ => 0)), (k16, gO 11 [.int 0, .int 0, .ref k17, .ref k18, .ref k19]), (k17, .inl (0, 600, fun _ => 0)), (k18, .inl (0, 600, fun _ => 0)), (k19, .inr (.inl (600, fun _ => 0)))] G' → K G') : w_X4_init G a0 K := by
  unfold w_X4_init
  have g0 := gi.start h0
  obtain ⟨J0, p0, g1⟩ := g0.put 0 (.int (0 : Int32)) (by simp)
  refine ⟨J0, p0, ?_⟩
  obtain ⟨J1, p1, g2⟩ := g1.put 1 (.int (-1 : Int32)) (by simp)
  refine ⟨J1, p1, ?_⟩
  obtain ⟨J2, p2, g3⟩ := g2.put 2 (.int (8 : Int32)) (by simp)
  refine ⟨J2, p2, ?_⟩
  obtain ⟨J3, p3, g4⟩ := g3.put 3 (.int (0 : Int32)) (by simp)
  refine ⟨J3, p3, ?_⟩
  obtain ⟨J4, p4, g5⟩ := g4.put 4 (.int (0 : Int32)) (by simp)
  refine ⟨J4, p4, ?_⟩
  intro k9 z5 G5 i5
  have n5 := g5.new z5 (.inr (.inl (10, fun _ => 0)))
  rw [← i5] at n5
  obtain ⟨J5, p5, g6⟩ := n5.put 5 (.ref k9) (by simp)
  refine ⟨J5, p5, ?_⟩
  obtain ⟨J6, p6, g7⟩ := g6.put 6 (.int (0 : Int32)) (by simp)
  refine ⟨J6, p6, ?_⟩
  intro k10 z7 G7 i7
  have n7 := g7.new z7 (.inl (0, 120, fun _ => 0))
  rw [← i7] at n7
  obtain ⟨J7, p7, g8⟩ := n7.put 7 (.ref k10) (by simp)
  refine ⟨J7, p7, ?_⟩
  intro k11 z8 G8 i8
  have n8 := g8.new z8 (.inl (0, 120, fun _ => 0))
  rw [← i8] at n8
  obtain ⟨J8, p8, g9⟩ := n8.put 8 (.ref k11) (by simp)
  refine ⟨J8, p8, ?_⟩
  intro k12 z9 G9 i9
  have n9 := g9.new z9 (.inl (0, 120, fun _ => 0))
  rw [← i9] at n9
  obtain ⟨J9, p9, g10⟩ := n9.put 9 (.ref k12) (by simp)
  refine ⟨J9, p9, ?_⟩
  intro k13 z10 G10 i10
  have n10 := g10.new z10 (.inl (0, 120, fun _ => 0))
  rw [← i10] at n10
  obtain ⟨J10, p10, g11⟩ := n10.put 10 (.ref k13) (by simp)
  refine ⟨J10, p10, ?_⟩
  intro k14 z11 G11 i11
  have n11 := g11.new z11 (.inl (0, 120, fun _ => 0))
  rw [← i11] at n11
  obtain ⟨J11, p11, g12⟩ := n11.put 11 (.ref k14) (by simp)
  refine ⟨J11, p11, ?_⟩
  intro k15 z12 G12 i12
  have n12 := g12.new z12 (.inl (1, 96, fun _ => 0))
  rw [← i12] at n12
  obtain ⟨J12, p12, g13⟩ := n12.put 12 (.ref k15) (by simp)
  refine ⟨J12, p12, ?_⟩
  intro k16 z13 G13 i13
  have n13 := g13.new z13 (gO 11 [.int 0, .int 0, .null, .null, .null])
  rw [← i13] at n13
  refine gi_X11 (n13.cel (k16, gO 11 [.int 0, .int 0, .null, .null, .null]) (by simp)) ?_
  intro k17 k18 k19 H13 t13
  have m13 := n13.sub t13
  obtain ⟨J13, p13, g14⟩ := m13.put 13 (.ref k16) (by simp)
  refine ⟨J13, p13, ?_⟩
  obtain ⟨J14, p14, g15⟩ := g14.put 14 (.int (0 : Int32)) (by simp)
  exact ⟨J14, p14, h k9 k10 k11 k12 k13 k14 k15 k16 k17 k18 k19 _ g15⟩
set_option maxRecDepth 20000 in
set_option maxHeartbeats 4000000 in
theorem gi_X9 {G : gH} {a0 : Nat} {K : gH → Prop} (h0 : G a0 = some (gO 9 [.null, .null, .null, .null, .null, .null, .null])) (h : ∀ i1 i2 k3 k9 k10 k11 k12 k13 k14 k15 k16 k17 k18 k19 k4 k5 n6 n7 n8 u0 u1 u2 u3 u4 xa xb1 xb2 xb3 xb4 xb5 xb6 xb7 xb8 xb9 xv10 xv11 xv12 xv13 xv14 xv15 xs16 xs17 xs18 xs19 xs24 xs20 xs21 xs22 xc23 xw0 xw1 xw2 xw3 xw4 ya yb1 yb2 yb3 yb4 yb5 yb6 yb7 yb8 yb9 yv10 yv11 yv12 yv13 yv14 yv15 ys16 ys17 ys18 ys19 ys24 ys20 ys21 ys22 yc23 yw0 yw1 yw2 yw3 yw4 G', gi G a0 9 [.ref i1, .ref k3, .ref k4, .ref n6, .ref u0, .ref xa, .ref ya] [(i1, gO 3 [.ref i2, .int 0]), (i2, .inl (0, 600, fun _ => 0)), (k3, gO 4 [.int 0, .int (-1), .int 8, .int 0, .int 0, .ref k9, .int 0, .ref k10, .ref k11, .ref k12, .ref k13, .ref k14, .ref k15, .ref k16, .int 0]), (k9, .inr (.inl (10, fun _ => 0))), (k10, .inl (0, 120, fun _ => 0)), (k11, .inl (0, 120, fun _ => 0)), (k12, .inl (0, 120, fun _ => 0)), (k13, .inl (0, 120, fun _ => 0)), (k14, .inl (0, 120, fun _ => 0)), (k15, .inl (1, 96, fun _ => 0)), (k16, gO 11 [.int 0, .int 0, .ref k17, .ref k18, .ref k19]), (k17, .inl (0, 600, fun _ => 0)), (k18, .inl (0, 600, fun _ => 0)), (k19, .inr (.inl (600, fun _ => 0))), (k4, gO 2 [.int 0, .int 0, .ref k5]), (k5, .inr (.inr (.inl (4, 10, fun _ => none)))), (n6, gO 6 [.ref n7, .ref n8]), (n7, .inl (1, 2, fun _ => 0)), (n8, .inr (.inr (.inl (4, 2, fun _ => none)))), (u0, gO 8 [.int 0, .ref u1, .ref u2, .ref u3, .ref u4]), (u1, .inl (1, 12, fun _ => 0)), (u2, .inl (0, 10, fun _ => 0)), (u3, .inl (0, 10, fun _ => 0)), (u4, .inl (1, 10, fun _ => 0)), (xa, gO 1 [.ref xb1, .ref xv10, .ref xs16, .int 0, .ref xc23, .int 0, .ref xw0]), (xb1, gO 0 [.int 0, .int 0, .int 0, .ref xb2, .ref xb3, .ref xb4, .ref xb5, .ref xb6, .ref xb7, .ref xb8, .ref xb9]), (xb2, .inl (0, 96, fun _ => 0)), (xb3, .inl (1, 96, fun _ => 0)), (xb4, .inl (1, 96, fun _ => 0)), (xb5, .inl (0, 96, fun _ => 0)), (xb6, .inl (0, 96, fun _ => 0)), (xb7, .inl (0, 96, fun _ => 0)), (xb8, .inl (0, 96, fun _ => 0)), (xb9, .inl (0, 96, fun _ => 0)), (xv10, gO 7 [.int 0, .ref xv11, .ref xv12, .ref xv13, .ref xv14, .ref xv15]), (xv11, .inl (0, 96, fun _ => 0)), (xv12, .inl (0, 96, fun _ => 0)), (xv13, .inl (0, 96, fun _ => 0)), (xv14, .inl (0, 96, fun _ => 0)), (xv15, .inl (0, 96, fun _ => 0)), (xs16, gO 5 [.int 0, .ref xs17, .ref xs18, .ref xs19, .ref xs24, .ref xs20, .ref xs21, .ref xs22]), (xs17, .inl (0, 12, fun _ => 0)), (xs18, .inl (0, 12, fun _ => 0)), (xs19, .inl (0, 12, fun _ => 0)), (xs24, .inl (0, 12, fun _ => 0)), (xs20, .inl (0, 12, fun _ => 0)), (xs21, .inl (0, 120, fun _ => 0)), (xs22, .inl (0, 120, fun _ => 0)), (xc23, .inr (.inl (10, fun _ => 0))), (xw0, gO 8 [.int 0, .ref xw1, .ref xw2, .ref xw3, .ref xw4]), (xw1, .inl (1, 12, fun _ => 0)), (xw2, .inl (0, 10, fun _ => 0)), (xw3, .inl (0, 10, fun _ => 0)), (xw4, .inl (1, 10, fun _ => 0)), (ya, gO 1 [.ref yb1, .ref yv10, .ref ys16, .int 0, .ref yc23, .int 0, .ref yw0]), (yb1, gO 0 [.int 0, .int 0, .int 0, .ref yb2, .ref yb3, .ref yb4, .ref yb5, .ref yb6, .ref yb7, .ref yb8, .ref yb9]), (yb2, .inl (0, 96, fun _ => 0)), (yb3, .inl (1, 96, fun _ => 0)), (yb4, .inl (1, 96, fun _ => 0)), (yb5, .inl (0, 96, fun _ => 0)), (yb6, .inl (0, 96, fun _ => 0)), (yb7, .inl (0, 96, fun _ => 0)), (yb8, .inl (0, 96, fun _ => 0)), (yb9, .inl (0, 96, fun _ => 0)), (yv10, gO 7 [.int 0, .ref yv11, .ref yv12, .ref yv13, .ref yv14, .ref yv15]), (yv11, .inl (0, 96, fun _ => 0)), (yv12, .inl (0, 96, fun _ => 0)), (yv13, .inl (0, 96, fun _ => 0)), (yv14, .inl (0, 96, fun _ => 0)), (yv15, .inl (0, 96, fun _ => 0)), (ys16, gO 5 [.int 0, .ref ys17, .ref ys18, .ref ys19, .ref ys24, .ref ys20, .ref ys21, .ref ys22]), (ys17, .inl (0, 12, fun _ => 0)), (ys18, .inl (0, 12, fun _ => 0)), (ys19, .inl (0, 12, fun _ => 0)), (ys24, .inl (0, 12, fun _ => 0)), (ys20, .inl (0, 12, fun _ => 0)), (ys21, .inl (0, 120, fun _ => 0)), (ys22, .inl (0, 120, fun _ => 0)), (yc23, .inr (.inl (10, fun _ => 0))), (yw0, gO 8 [.int 0, .ref yw1, .ref yw2, .ref yw3, .ref yw4]), (yw1, .inl (1, 12, fun _ => 0)), (yw2, .inl (0, 10, fun _ => 0)), (yw3, .inl (0, 10, fun _ => 0)), (yw4, .inl (1, 10, fun _ => 0))] G' → ∃ v82, g_r G' a0 9 5 = some v82 ∧ ∃ u88, g_ob G' v82 1 = some u88 ∧ ∃ G88, f_X1_format G' v82 (8 : Int32) (0 : Int32) = some G88 ∧ K G88) : w_X9_init G a0 K := by
  unfold w_X9_init
  have g0 := gi.start h0
  intro i1 z0 G0 i_0
  have n_0 := g0.new z0 (gO 3 [.null, .int 0])
  rw [← i_0] at n_0
  refine gi_X3 (n_0.cel (i1, gO 3 [.null, .int 0]) (by simp)) ?_
  intro i2 H0 t0
  have m_0 := n_0.sub t0
  obtain ⟨J0, q_0, e_0⟩ := m_0.put 0 (.ref i1) (by simp)
  refine ⟨J0, q_0, ?_⟩
  intro k3 z1 G1 i_1
  have n_1 := e_0.new z1 (gO 4 [.int 0, .int 0, .int 0, .int 0, .int 0, .null, .int 0, .null, .null, .null, .null, .null, .null, .null, .int 0])
  rw [← i_1] at n_1
  refine gi_X4 (n_1.cel (k3, gO 4 [.int 0, .int 0, .int 0, .int 0, .int 0, .null, .int 0, .null, .null, .null, .null, .null, .null, .null, .int 0]) (by simp)) ?_
  intro k9 k10 k11 k12 k13 k14 k15 k16 k17 k18 k19 H1 t1
  have m_1 := n_1.sub t1
  obtain ⟨J1, q_1, e_1⟩ := m_1.put 1 (.ref k3) (by simp)
  refine ⟨J1, q_1, ?_⟩
  intro k4 z2 G2 i_2
  have n_2 := e_1.new z2 (gO 2 [.int 0, .int 0, .null])
  rw [← i_2] at n_2
  refine gi_X2 (n_2.cel (k4, gO 2 [.int 0, .int 0, .null]) (by simp)) ?_
  intro k5 H2 t2
  have m_2 := n_2.sub t2
  obtain ⟨J2, q_2, e_2⟩ := m_2.put 2 (.ref k4) (by simp)
  refine ⟨J2, q_2, ?_⟩
  intro n6 z3 G3 i_3
  have n_3 := e_2.new z3 (gO 6 [.null, .null])
  rw [← i_3] at n_3
  refine gi_X6 (n_3.cel (n6, gO 6 [.null, .null]) (by simp)) ?_
  intro n7 n8 H3 t3
  have m_3 := n_3.sub t3
  obtain ⟨J3, q_3, e_3⟩ := m_3.put 3 (.ref n6) (by simp)
  refine ⟨J3, q_3, ?_⟩
  intro u0 z4 G4 i_4
  have n_4 := e_3.new z4 (gO 8 [.int 0, .null, .null, .null, .null])
  rw [← i_4] at n_4
  refine gi_X8 (n_4.cel (u0, gO 8 [.int 0, .null, .null, .null, .null]) (by simp)) ?_
  intro u1 u2 u3 u4 H4 t4
  have m_4 := n_4.sub t4
  obtain ⟨J4, q_4, e_4⟩ := m_4.put 4 (.ref u0) (by simp)
  refine ⟨J4, q_4, ?_⟩
  intro xa z5 G5 i_5
  have n_5 := e_4.new z5 (gO 1 [.null, .null, .null, .int 0, .null, .int 0, .null])
  rw [← i_5] at n_5
  refine gi_X1 (n_5.cel (xa, gO 1 [.null, .null, .null, .int 0, .null, .int 0, .null]) (by simp)) ?_
  intro xb1 xb2 xb3 xb4 xb5 xb6 xb7 xb8 xb9 xv10 xv11 xv12 xv13 xv14 xv15 xs16 xs17 xs18 xs19 xs24 xs20 xs21 xs22 xc23 xw0 xw1 xw2 xw3 xw4 H5 t5
  have m_5 := n_5.sub t5
  obtain ⟨J5, q_5, e_5⟩ := m_5.put 5 (.ref xa) (by simp)
  refine ⟨J5, q_5, ?_⟩
  intro ya z6 G6 i_6
  have n_6 := e_5.new z6 (gO 1 [.null, .null, .null, .int 0, .null, .int 0, .null])
  rw [← i_6] at n_6
  refine gi_X1 (n_6.cel (ya, gO 1 [.null, .null, .null, .int 0, .null, .int 0, .null]) (by simp)) ?_
  intro yb1 yb2 yb3 yb4 yb5 yb6 yb7 yb8 yb9 yv10 yv11 yv12 yv13 yv14 yv15 ys16 ys17 ys18 ys19 ys24 ys20 ys21 ys22 yc23 yw0 yw1 yw2 yw3 yw4 H6 t6
  have m_6 := n_6.sub t6
  obtain ⟨J6, q_6, e_6⟩ := m_6.put 6 (.ref ya) (by simp)
  refine ⟨J6, q_6, ?_⟩
  exact h i1 i2 k3 k9 k10 k11 k12 k13 k14 k15 k16 k17 k18 k19 k4 k5 n6 n7 n8 u0 u1 u2 u3 u4 xa xb1 xb2 xb3 xb4 xb5 xb6 xb7 xb8 xb9 xv10 xv11 xv12 xv13 xv14 xv15 xs16 xs17 xs18 xs19 xs24 xs20 xs21 xs22 xc23 xw0 xw1 xw2 xw3 xw4 ya yb1 yb2 yb3 yb4 yb5 yb6 yb7 yb8 yb9 yv10 yv11 yv12 yv13 yv14 yv15 ys16 ys17 ys18 ys19 ys24 ys20 ys21 ys22 yc23 yw0 yw1 yw2 yw3 yw4 _ e_6

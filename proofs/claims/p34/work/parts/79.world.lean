/-! The start: the world of the class. -/
def zS0 : zW := fun k d c i => if k = 2 ∧ d = 0 ∧ c = 0 ∧ i = 6 then 1 else if k = 2 ∧ d = 0 ∧ c = 3 ∧ i = 1 then -1 else if k = 2 ∧ d = 0 ∧ c = 3 ∧ i = 2 then 8 else if k = 3 ∧ d = 0 ∧ c = 0 ∧ i = 12 then -1 else 0
def yE0 : zE := (fun _ => (9, 0, 0), fun _ _ => false, fun _ _ _ => 0)
def yN1 (k d : Nat) : Bool := (k == 0 && (d == 0 || d == 1)) || (k == 1 && (d == 0 || d == 1 || d == 14)) || (k == 2 && d == 0)
theorem yN1_iff {k d : Nat} : yN1 k d = true ↔ (k = 0 ∧ (d = 0 ∨ d = 1)) ∨ (k = 1 ∧ (d = 0 ∨ d = 1 ∨ d = 14)) ∨ (k = 2 ∧ d = 0) := by
  unfold yN1
  simp [or_assoc]
theorem yE0_WF : zWF yE0 := fun k d c h => by exact absurd h (by show ¬ false = true; simp)
theorem yE0_H (σ : zW) : zH yE0 σ = fun _ => none := by
  funext q
  unfold zH
  rw [if_neg (by show ¬ false = true; simp)]
set_option maxRecDepth 40000 in
set_option maxHeartbeats 16000000 in
theorem c9_world {a0 : Nat} {i1 i2 k3 k9 k10 k11 k12 k13 k14 k15 k16 k17 k18 k19 k4 k5 n6 n7 n8 u0 u1 u2 u3 u4 xa xb1 xb2 xb3 xb4 xb5 xb6 xb7 xb8 xb9 xv10 xv11 xv12 xv13 xv14 xv15 xs16 xs17 xs18 xs19 xs24 xs20 xs21 xs22 xc23 xw0 xw1 xw2 xw3 xw4 ya yb1 yb2 yb3 yb4 yb5 yb6 yb7 yb8 yb9 yv10 yv11 yv12 yv13 yv14 yv15 ys16 ys17 ys18 ys19 ys24 ys20 ys21 ys22 yc23 yw0 yw1 yw2 yw3 yw4 : Nat} {G' : gH} (s : gi (va_up (fun _ => none) a0 (some (gO 9 [.null, .null, .null, .null, .null, .null, .null]))) a0 9 [.ref i1, .ref k3, .ref k4, .ref n6, .ref u0, .ref xa, .ref ya] [(i1, gO 3 [.ref i2, .int 0]), (i2, .inl (0, 600, fun _ => 0)), (k3, gO 4 [.int 0, .int (-1), .int 8, .int 0, .int 0, .ref k9, .int 0, .ref k10, .ref k11, .ref k12, .ref k13, .ref k14, .ref k15, .ref k16, .int 0]), (k9, .inr (.inl (10, fun _ => 0))), (k10, .inl (0, 120, fun _ => 0)), (k11, .inl (0, 120, fun _ => 0)), (k12, .inl (0, 120, fun _ => 0)), (k13, .inl (0, 120, fun _ => 0)), (k14, .inl (0, 120, fun _ => 0)), (k15, .inl (1, 96, fun _ => 0)), (k16, gO 11 [.int 0, .int 0, .ref k17, .ref k18, .ref k19]), (k17, .inl (0, 600, fun _ => 0)), (k18, .inl (0, 600, fun _ => 0)), (k19, .inr (.inl (600, fun _ => 0))), (k4, gO 2 [.int 0, .int 0, .ref k5]), (k5, .inr (.inr (.inl (4, 10, fun _ => none)))), (n6, gO 6 [.ref n7, .ref n8]), (n7, .inl (1, 2, fun _ => 0)), (n8, .inr (.inr (.inl (4, 2, fun _ => none)))), (u0, gO 8 [.int 0, .ref u1, .ref u2, .ref u3, .ref u4]), (u1, .inl (1, 12, fun _ => 0)), (u2, .inl (0, 10, fun _ => 0)), (u3, .inl (0, 10, fun _ => 0)), (u4, .inl (1, 10, fun _ => 0)), (xa, gO 1 [.ref xb1, .ref xv10, .ref xs16, .int 0, .ref xc23, .int 0, .ref xw0]), (xb1, gO 0 [.int 0, .int 0, .int 0, .ref xb2, .ref xb3, .ref xb4, .ref xb5, .ref xb6, .ref xb7, .ref xb8, .ref xb9]), (xb2, .inl (0, 96, fun _ => 0)), (xb3, .inl (1, 96, fun _ => 0)), (xb4, .inl (1, 96, fun _ => 0)), (xb5, .inl (0, 96, fun _ => 0)), (xb6, .inl (0, 96, fun _ => 0)), (xb7, .inl (0, 96, fun _ => 0)), (xb8, .inl (0, 96, fun _ => 0)), (xb9, .inl (0, 96, fun _ => 0)), (xv10, gO 7 [.int 0, .ref xv11, .ref xv12, .ref xv13, .ref xv14, .ref xv15]), (xv11, .inl (0, 96, fun _ => 0)), (xv12, .inl (0, 96, fun _ => 0)), (xv13, .inl (0, 96, fun _ => 0)), (xv14, .inl (0, 96, fun _ => 0)), (xv15, .inl (0, 96, fun _ => 0)), (xs16, gO 5 [.int 0, .ref xs17, .ref xs18, .ref xs19, .ref xs24, .ref xs20, .ref xs21, .ref xs22]), (xs17, .inl (0, 12, fun _ => 0)), (xs18, .inl (0, 12, fun _ => 0)), (xs19, .inl (0, 12, fun _ => 0)), (xs24, .inl (0, 12, fun _ => 0)), (xs20, .inl (0, 12, fun _ => 0)), (xs21, .inl (0, 120, fun _ => 0)), (xs22, .inl (0, 120, fun _ => 0)), (xc23, .inr (.inl (10, fun _ => 0))), (xw0, gO 8 [.int 0, .ref xw1, .ref xw2, .ref xw3, .ref xw4]), (xw1, .inl (1, 12, fun _ => 0)), (xw2, .inl (0, 10, fun _ => 0)), (xw3, .inl (0, 10, fun _ => 0)), (xw4, .inl (1, 10, fun _ => 0)), (ya, gO 1 [.ref yb1, .ref yv10, .ref ys16, .int 0, .ref yc23, .int 0, .ref yw0]), (yb1, gO 0 [.int 0, .int 0, .int 0, .ref yb2, .ref yb3, .ref yb4, .ref yb5, .ref yb6, .ref yb7, .ref yb8, .ref yb9]), (yb2, .inl (0, 96, fun _ => 0)), (yb3, .inl (1, 96, fun _ => 0)), (yb4, .inl (1, 96, fun _ => 0)), (yb5, .inl (0, 96, fun _ => 0)), (yb6, .inl (0, 96, fun _ => 0)), (yb7, .inl (0, 96, fun _ => 0)), (yb8, .inl (0, 96, fun _ => 0)), (yb9, .inl (0, 96, fun _ => 0)), (yv10, gO 7 [.int 0, .ref yv11, .ref yv12, .ref yv13, .ref yv14, .ref yv15]), (yv11, .inl (0, 96, fun _ => 0)), (yv12, .inl (0, 96, fun _ => 0)), (yv13, .inl (0, 96, fun _ => 0)), (yv14, .inl (0, 96, fun _ => 0)), (yv15, .inl (0, 96, fun _ => 0)), (ys16, gO 5 [.int 0, .ref ys17, .ref ys18, .ref ys19, .ref ys24, .ref ys20, .ref ys21, .ref ys22]), (ys17, .inl (0, 12, fun _ => 0)), (ys18, .inl (0, 12, fun _ => 0)), (ys19, .inl (0, 12, fun _ => 0)), (ys24, .inl (0, 12, fun _ => 0)), (ys20, .inl (0, 12, fun _ => 0)), (ys21, .inl (0, 120, fun _ => 0)), (ys22, .inl (0, 120, fun _ => 0)), (yc23, .inr (.inl (10, fun _ => 0))), (yw0, gO 8 [.int 0, .ref yw1, .ref yw2, .ref yw3, .ref yw4]), (yw1, .inl (1, 12, fun _ => 0)), (yw2, .inl (0, 10, fun _ => 0)), (yw3, .inl (0, 10, fun _ => 0)), (yw4, .inl (1, 10, fun _ => 0))] G') : ∃ E, zWF E ∧ (∀ k d, zU E k d = yN1 k d) ∧ zL E 2 0 0 = a0 ∧ zH E zS0 = G' := by
  obtain ⟨T, hT⟩ : ∃ T : List (Nat × Nat × Nat × Nat), T = [(a0, 2, 0, 0), (i1, 2, 0, 1), (i2, 2, 0, 2), (k3, 2, 0, 3), (k9, 2, 0, 9), (k10, 2, 0, 10), (k11, 2, 0, 11), (k12, 2, 0, 12), (k13, 2, 0, 13), (k14, 2, 0, 14), (k15, 2, 0, 15), (k16, 2, 0, 16), (k17, 2, 0, 17), (k18, 2, 0, 18), (k19, 2, 0, 19), (k4, 2, 0, 4), (k5, 2, 0, 5), (n6, 2, 0, 6), (n7, 2, 0, 7), (n8, 2, 0, 8), (u0, 1, 14, 0), (u1, 1, 14, 1), (u2, 1, 14, 2), (u3, 1, 14, 3), (u4, 1, 14, 4), (xa, 0, 0, 0), (xb1, 0, 0, 1), (xb2, 0, 0, 2), (xb3, 0, 0, 3), (xb4, 0, 0, 4), (xb5, 0, 0, 5), (xb6, 0, 0, 6), (xb7, 0, 0, 7), (xb8, 0, 0, 8), (xb9, 0, 0, 9), (xv10, 0, 0, 10), (xv11, 0, 0, 11), (xv12, 0, 0, 12), (xv13, 0, 0, 13), (xv14, 0, 0, 14), (xv15, 0, 0, 15), (xs16, 0, 0, 16), (xs17, 0, 0, 17), (xs18, 0, 0, 18), (xs19, 0, 0, 19), (xs24, 0, 0, 24), (xs20, 0, 0, 20), (xs21, 0, 0, 21), (xs22, 0, 0, 22), (xc23, 0, 0, 23), (xw0, 1, 0, 0), (xw1, 1, 0, 1), (xw2, 1, 0, 2), (xw3, 1, 0, 3), (xw4, 1, 0, 4), (ya, 0, 1, 0), (yb1, 0, 1, 1), (yb2, 0, 1, 2), (yb3, 0, 1, 3), (yb4, 0, 1, 4), (yb5, 0, 1, 5), (yb6, 0, 1, 6), (yb7, 0, 1, 7), (yb8, 0, 1, 8), (yb9, 0, 1, 9), (yv10, 0, 1, 10), (yv11, 0, 1, 11), (yv12, 0, 1, 12), (yv13, 0, 1, 13), (yv14, 0, 1, 14), (yv15, 0, 1, 15), (ys16, 0, 1, 16), (ys17, 0, 1, 17), (ys18, 0, 1, 18), (ys19, 0, 1, 19), (ys24, 0, 1, 24), (ys20, 0, 1, 20), (ys21, 0, 1, 21), (ys22, 0, 1, 22), (yc23, 0, 1, 23), (yw0, 1, 1, 0), (yw1, 1, 1, 1), (yw2, 1, 1, 2), (yw3, 1, 1, 3), (yw4, 1, 1, 4)] := ⟨_, rfl⟩
  have hmf : T.map Prod.fst = a0 :: List.map Prod.fst [(i1, gO 3 [.ref i2, .int 0]), (i2, .inl (0, 600, fun _ => 0)), (k3, gO 4 [.int 0, .int (-1), .int 8, .int 0, .int 0, .ref k9, .int 0, .ref k10, .ref k11, .ref k12, .ref k13, .ref k14, .ref k15, .ref k16, .int 0]), (k9, .inr (.inl (10, fun _ => 0))), (k10, .inl (0, 120, fun _ => 0)), (k11, .inl (0, 120, fun _ => 0)), (k12, .inl (0, 120, fun _ => 0)), (k13, .inl (0, 120, fun _ => 0)), (k14, .inl (0, 120, fun _ => 0)), (k15, .inl (1, 96, fun _ => 0)), (k16, gO 11 [.int 0, .int 0, .ref k17, .ref k18, .ref k19]), (k17, .inl (0, 600, fun _ => 0)), (k18, .inl (0, 600, fun _ => 0)), (k19, .inr (.inl (600, fun _ => 0))), (k4, gO 2 [.int 0, .int 0, .ref k5]), (k5, .inr (.inr (.inl (4, 10, fun _ => none)))), (n6, gO 6 [.ref n7, .ref n8]), (n7, .inl (1, 2, fun _ => 0)), (n8, .inr (.inr (.inl (4, 2, fun _ => none)))), (u0, gO 8 [.int 0, .ref u1, .ref u2, .ref u3, .ref u4]), (u1, .inl (1, 12, fun _ => 0)), (u2, .inl (0, 10, fun _ => 0)), (u3, .inl (0, 10, fun _ => 0)), (u4, .inl (1, 10, fun _ => 0)), (xa, gO 1 [.ref xb1, .ref xv10, .ref xs16, .int 0, .ref xc23, .int 0, .ref xw0]), (xb1, gO 0 [.int 0, .int 0, .int 0, .ref xb2, .ref xb3, .ref xb4, .ref xb5, .ref xb6, .ref xb7, .ref xb8, .ref xb9]), (xb2, .inl (0, 96, fun _ => 0)), (xb3, .inl (1, 96, fun _ => 0)), (xb4, .inl (1, 96, fun _ => 0)), (xb5, .inl (0, 96, fun _ => 0)), (xb6, .inl (0, 96, fun _ => 0)), (xb7, .inl (0, 96, fun _ => 0)), (xb8, .inl (0, 96, fun _ => 0)), (xb9, .inl (0, 96, fun _ => 0)), (xv10, gO 7 [.int 0, .ref xv11, .ref xv12, .ref xv13, .ref xv14, .ref xv15]), (xv11, .inl (0, 96, fun _ => 0)), (xv12, .inl (0, 96, fun _ => 0)), (xv13, .inl (0, 96, fun _ => 0)), (xv14, .inl (0, 96, fun _ => 0)), (xv15, .inl (0, 96, fun _ => 0)), (xs16, gO 5 [.int 0, .ref xs17, .ref xs18, .ref xs19, .ref xs24, .ref xs20, .ref xs21, .ref xs22]), (xs17, .inl (0, 12, fun _ => 0)), (xs18, .inl (0, 12, fun _ => 0)), (xs19, .inl (0, 12, fun _ => 0)), (xs24, .inl (0, 12, fun _ => 0)), (xs20, .inl (0, 12, fun _ => 0)), (xs21, .inl (0, 120, fun _ => 0)), (xs22, .inl (0, 120, fun _ => 0)), (xc23, .inr (.inl (10, fun _ => 0))), (xw0, gO 8 [.int 0, .ref xw1, .ref xw2, .ref xw3, .ref xw4]), (xw1, .inl (1, 12, fun _ => 0)), (xw2, .inl (0, 10, fun _ => 0)), (xw3, .inl (0, 10, fun _ => 0)), (xw4, .inl (1, 10, fun _ => 0)), (ya, gO 1 [.ref yb1, .ref yv10, .ref ys16, .int 0, .ref yc23, .int 0, .ref yw0]), (yb1, gO 0 [.int 0, .int 0, .int 0, .ref yb2, .ref yb3, .ref yb4, .ref yb5, .ref yb6, .ref yb7, .ref yb8, .ref yb9]), (yb2, .inl (0, 96, fun _ => 0)), (yb3, .inl (1, 96, fun _ => 0)), (yb4, .inl (1, 96, fun _ => 0)), (yb5, .inl (0, 96, fun _ => 0)), (yb6, .inl (0, 96, fun _ => 0)), (yb7, .inl (0, 96, fun _ => 0)), (yb8, .inl (0, 96, fun _ => 0)), (yb9, .inl (0, 96, fun _ => 0)), (yv10, gO 7 [.int 0, .ref yv11, .ref yv12, .ref yv13, .ref yv14, .ref yv15]), (yv11, .inl (0, 96, fun _ => 0)), (yv12, .inl (0, 96, fun _ => 0)), (yv13, .inl (0, 96, fun _ => 0)), (yv14, .inl (0, 96, fun _ => 0)), (yv15, .inl (0, 96, fun _ => 0)), (ys16, gO 5 [.int 0, .ref ys17, .ref ys18, .ref ys19, .ref ys24, .ref ys20, .ref ys21, .ref ys22]), (ys17, .inl (0, 12, fun _ => 0)), (ys18, .inl (0, 12, fun _ => 0)), (ys19, .inl (0, 12, fun _ => 0)), (ys24, .inl (0, 12, fun _ => 0)), (ys20, .inl (0, 12, fun _ => 0)), (ys21, .inl (0, 120, fun _ => 0)), (ys22, .inl (0, 120, fun _ => 0)), (yc23, .inr (.inl (10, fun _ => 0))), (yw0, gO 8 [.int 0, .ref yw1, .ref yw2, .ref yw3, .ref yw4]), (yw1, .inl (1, 12, fun _ => 0)), (yw2, .inl (0, 10, fun _ => 0)), (yw3, .inl (0, 10, fun _ => 0)), (yw4, .inl (1, 10, fun _ => 0))] := by rw [hT]; rfl
  have h1 : (T.map Prod.fst).Nodup := by
    rw [hmf]
    refine List.nodup_cons.mpr ⟨fun hp => ?_, s.ndp⟩
    obtain ⟨p, hp1, hp2⟩ := List.mem_map.mp hp
    exact s.nea p hp1 hp2
  have hms : T.map Prod.snd = [(2, 0, 0), (2, 0, 1), (2, 0, 2), (2, 0, 3), (2, 0, 9), (2, 0, 10), (2, 0, 11), (2, 0, 12), (2, 0, 13), (2, 0, 14), (2, 0, 15), (2, 0, 16), (2, 0, 17), (2, 0, 18), (2, 0, 19), (2, 0, 4), (2, 0, 5), (2, 0, 6), (2, 0, 7), (2, 0, 8), (1, 14, 0), (1, 14, 1), (1, 14, 2), (1, 14, 3), (1, 14, 4), (0, 0, 0), (0, 0, 1), (0, 0, 2), (0, 0, 3), (0, 0, 4), (0, 0, 5), (0, 0, 6), (0, 0, 7), (0, 0, 8), (0, 0, 9), (0, 0, 10), (0, 0, 11), (0, 0, 12), (0, 0, 13), (0, 0, 14), (0, 0, 15), (0, 0, 16), (0, 0, 17), (0, 0, 18), (0, 0, 19), (0, 0, 24), (0, 0, 20), (0, 0, 21), (0, 0, 22), (0, 0, 23), (1, 0, 0), (1, 0, 1), (1, 0, 2), (1, 0, 3), (1, 0, 4), (0, 1, 0), (0, 1, 1), (0, 1, 2), (0, 1, 3), (0, 1, 4), (0, 1, 5), (0, 1, 6), (0, 1, 7), (0, 1, 8), (0, 1, 9), (0, 1, 10), (0, 1, 11), (0, 1, 12), (0, 1, 13), (0, 1, 14), (0, 1, 15), (0, 1, 16), (0, 1, 17), (0, 1, 18), (0, 1, 19), (0, 1, 24), (0, 1, 20), (0, 1, 21), (0, 1, 22), (0, 1, 23), (1, 1, 0), (1, 1, 1), (1, 1, 2), (1, 1, 3), (1, 1, 4)] := by rw [hT]; rfl
  have h2 : (T.map Prod.snd).Nodup := by
    rw [hms]
    decide +kernel
  have h3 : ∀ p ∈ T, yN1 p.2.1 p.2.2.1 = true := by
    intro p hp
    have : p.2 ∈ T.map Prod.snd := List.mem_map_of_mem hp
    rw [hms] at this
    have key : ∀ x ∈ ([(2, 0, 0), (2, 0, 1), (2, 0, 2), (2, 0, 3), (2, 0, 9), (2, 0, 10), (2, 0, 11), (2, 0, 12), (2, 0, 13), (2, 0, 14), (2, 0, 15), (2, 0, 16), (2, 0, 17), (2, 0, 18), (2, 0, 19), (2, 0, 4), (2, 0, 5), (2, 0, 6), (2, 0, 7), (2, 0, 8), (1, 14, 0), (1, 14, 1), (1, 14, 2), (1, 14, 3), (1, 14, 4), (0, 0, 0), (0, 0, 1), (0, 0, 2), (0, 0, 3), (0, 0, 4), (0, 0, 5), (0, 0, 6), (0, 0, 7), (0, 0, 8), (0, 0, 9), (0, 0, 10), (0, 0, 11), (0, 0, 12), (0, 0, 13), (0, 0, 14), (0, 0, 15), (0, 0, 16), (0, 0, 17), (0, 0, 18), (0, 0, 19), (0, 0, 24), (0, 0, 20), (0, 0, 21), (0, 0, 22), (0, 0, 23), (1, 0, 0), (1, 0, 1), (1, 0, 2), (1, 0, 3), (1, 0, 4), (0, 1, 0), (0, 1, 1), (0, 1, 2), (0, 1, 3), (0, 1, 4), (0, 1, 5), (0, 1, 6), (0, 1, 7), (0, 1, 8), (0, 1, 9), (0, 1, 10), (0, 1, 11), (0, 1, 12), (0, 1, 13), (0, 1, 14), (0, 1, 15), (0, 1, 16), (0, 1, 17), (0, 1, 18), (0, 1, 19), (0, 1, 24), (0, 1, 20), (0, 1, 21), (0, 1, 22), (0, 1, 23), (1, 1, 0), (1, 1, 1), (1, 1, 2), (1, 1, 3), (1, 1, 4)] : List (Nat × Nat × Nat)), yN1 x.1 x.2.1 = true := by decide +kernel
    exact key p.2 this
  have h6 : ∀ p ∈ T, zH yE0 zS0 p.1 = none := fun p _ => by rw [yE0_H]
  have h4 : ∀ k d c, yN1 k d = true → zk k c = true → ∃ a, (a, k, d, c) ∈ T := by
    intro k d c hN hz
    have hm : (k, d, c) ∈ T.map Prod.snd := by
      rw [hms]
      have k0 : ∀ c : Fin 25, ∀ d : Fin 2, (0, d.val, c.val) ∈ ([(2, 0, 0), (2, 0, 1), (2, 0, 2), (2, 0, 3), (2, 0, 9), (2, 0, 10), (2, 0, 11), (2, 0, 12), (2, 0, 13), (2, 0, 14), (2, 0, 15), (2, 0, 16), (2, 0, 17), (2, 0, 18), (2, 0, 19), (2, 0, 4), (2, 0, 5), (2, 0, 6), (2, 0, 7), (2, 0, 8), (1, 14, 0), (1, 14, 1), (1, 14, 2), (1, 14, 3), (1, 14, 4), (0, 0, 0), (0, 0, 1), (0, 0, 2), (0, 0, 3), (0, 0, 4), (0, 0, 5), (0, 0, 6), (0, 0, 7), (0, 0, 8), (0, 0, 9), (0, 0, 10), (0, 0, 11), (0, 0, 12), (0, 0, 13), (0, 0, 14), (0, 0, 15), (0, 0, 16), (0, 0, 17), (0, 0, 18), (0, 0, 19), (0, 0, 24), (0, 0, 20), (0, 0, 21), (0, 0, 22), (0, 0, 23), (1, 0, 0), (1, 0, 1), (1, 0, 2), (1, 0, 3), (1, 0, 4), (0, 1, 0), (0, 1, 1), (0, 1, 2), (0, 1, 3), (0, 1, 4), (0, 1, 5), (0, 1, 6), (0, 1, 7), (0, 1, 8), (0, 1, 9), (0, 1, 10), (0, 1, 11), (0, 1, 12), (0, 1, 13), (0, 1, 14), (0, 1, 15), (0, 1, 16), (0, 1, 17), (0, 1, 18), (0, 1, 19), (0, 1, 24), (0, 1, 20), (0, 1, 21), (0, 1, 22), (0, 1, 23), (1, 1, 0), (1, 1, 1), (1, 1, 2), (1, 1, 3), (1, 1, 4)] : List (Nat × Nat × Nat)) := by decide +kernel
      have k1 : ∀ c : Fin 5, (1, 0, c.val) ∈ ([(2, 0, 0), (2, 0, 1), (2, 0, 2), (2, 0, 3), (2, 0, 9), (2, 0, 10), (2, 0, 11), (2, 0, 12), (2, 0, 13), (2, 0, 14), (2, 0, 15), (2, 0, 16), (2, 0, 17), (2, 0, 18), (2, 0, 19), (2, 0, 4), (2, 0, 5), (2, 0, 6), (2, 0, 7), (2, 0, 8), (1, 14, 0), (1, 14, 1), (1, 14, 2), (1, 14, 3), (1, 14, 4), (0, 0, 0), (0, 0, 1), (0, 0, 2), (0, 0, 3), (0, 0, 4), (0, 0, 5), (0, 0, 6), (0, 0, 7), (0, 0, 8), (0, 0, 9), (0, 0, 10), (0, 0, 11), (0, 0, 12), (0, 0, 13), (0, 0, 14), (0, 0, 15), (0, 0, 16), (0, 0, 17), (0, 0, 18), (0, 0, 19), (0, 0, 24), (0, 0, 20), (0, 0, 21), (0, 0, 22), (0, 0, 23), (1, 0, 0), (1, 0, 1), (1, 0, 2), (1, 0, 3), (1, 0, 4), (0, 1, 0), (0, 1, 1), (0, 1, 2), (0, 1, 3), (0, 1, 4), (0, 1, 5), (0, 1, 6), (0, 1, 7), (0, 1, 8), (0, 1, 9), (0, 1, 10), (0, 1, 11), (0, 1, 12), (0, 1, 13), (0, 1, 14), (0, 1, 15), (0, 1, 16), (0, 1, 17), (0, 1, 18), (0, 1, 19), (0, 1, 24), (0, 1, 20), (0, 1, 21), (0, 1, 22), (0, 1, 23), (1, 1, 0), (1, 1, 1), (1, 1, 2), (1, 1, 3), (1, 1, 4)] : List (Nat × Nat × Nat)) ∧ (1, 1, c.val) ∈ ([(2, 0, 0), (2, 0, 1), (2, 0, 2), (2, 0, 3), (2, 0, 9), (2, 0, 10), (2, 0, 11), (2, 0, 12), (2, 0, 13), (2, 0, 14), (2, 0, 15), (2, 0, 16), (2, 0, 17), (2, 0, 18), (2, 0, 19), (2, 0, 4), (2, 0, 5), (2, 0, 6), (2, 0, 7), (2, 0, 8), (1, 14, 0), (1, 14, 1), (1, 14, 2), (1, 14, 3), (1, 14, 4), (0, 0, 0), (0, 0, 1), (0, 0, 2), (0, 0, 3), (0, 0, 4), (0, 0, 5), (0, 0, 6), (0, 0, 7), (0, 0, 8), (0, 0, 9), (0, 0, 10), (0, 0, 11), (0, 0, 12), (0, 0, 13), (0, 0, 14), (0, 0, 15), (0, 0, 16), (0, 0, 17), (0, 0, 18), (0, 0, 19), (0, 0, 24), (0, 0, 20), (0, 0, 21), (0, 0, 22), (0, 0, 23), (1, 0, 0), (1, 0, 1), (1, 0, 2), (1, 0, 3), (1, 0, 4), (0, 1, 0), (0, 1, 1), (0, 1, 2), (0, 1, 3), (0, 1, 4), (0, 1, 5), (0, 1, 6), (0, 1, 7), (0, 1, 8), (0, 1, 9), (0, 1, 10), (0, 1, 11), (0, 1, 12), (0, 1, 13), (0, 1, 14), (0, 1, 15), (0, 1, 16), (0, 1, 17), (0, 1, 18), (0, 1, 19), (0, 1, 24), (0, 1, 20), (0, 1, 21), (0, 1, 22), (0, 1, 23), (1, 1, 0), (1, 1, 1), (1, 1, 2), (1, 1, 3), (1, 1, 4)] : List (Nat × Nat × Nat)) ∧ (1, 14, c.val) ∈ ([(2, 0, 0), (2, 0, 1), (2, 0, 2), (2, 0, 3), (2, 0, 9), (2, 0, 10), (2, 0, 11), (2, 0, 12), (2, 0, 13), (2, 0, 14), (2, 0, 15), (2, 0, 16), (2, 0, 17), (2, 0, 18), (2, 0, 19), (2, 0, 4), (2, 0, 5), (2, 0, 6), (2, 0, 7), (2, 0, 8), (1, 14, 0), (1, 14, 1), (1, 14, 2), (1, 14, 3), (1, 14, 4), (0, 0, 0), (0, 0, 1), (0, 0, 2), (0, 0, 3), (0, 0, 4), (0, 0, 5), (0, 0, 6), (0, 0, 7), (0, 0, 8), (0, 0, 9), (0, 0, 10), (0, 0, 11), (0, 0, 12), (0, 0, 13), (0, 0, 14), (0, 0, 15), (0, 0, 16), (0, 0, 17), (0, 0, 18), (0, 0, 19), (0, 0, 24), (0, 0, 20), (0, 0, 21), (0, 0, 22), (0, 0, 23), (1, 0, 0), (1, 0, 1), (1, 0, 2), (1, 0, 3), (1, 0, 4), (0, 1, 0), (0, 1, 1), (0, 1, 2), (0, 1, 3), (0, 1, 4), (0, 1, 5), (0, 1, 6), (0, 1, 7), (0, 1, 8), (0, 1, 9), (0, 1, 10), (0, 1, 11), (0, 1, 12), (0, 1, 13), (0, 1, 14), (0, 1, 15), (0, 1, 16), (0, 1, 17), (0, 1, 18), (0, 1, 19), (0, 1, 24), (0, 1, 20), (0, 1, 21), (0, 1, 22), (0, 1, 23), (1, 1, 0), (1, 1, 1), (1, 1, 2), (1, 1, 3), (1, 1, 4)] : List (Nat × Nat × Nat)) := by decide +kernel
      have k2 : ∀ c : Fin 20, (2, 0, c.val) ∈ ([(2, 0, 0), (2, 0, 1), (2, 0, 2), (2, 0, 3), (2, 0, 9), (2, 0, 10), (2, 0, 11), (2, 0, 12), (2, 0, 13), (2, 0, 14), (2, 0, 15), (2, 0, 16), (2, 0, 17), (2, 0, 18), (2, 0, 19), (2, 0, 4), (2, 0, 5), (2, 0, 6), (2, 0, 7), (2, 0, 8), (1, 14, 0), (1, 14, 1), (1, 14, 2), (1, 14, 3), (1, 14, 4), (0, 0, 0), (0, 0, 1), (0, 0, 2), (0, 0, 3), (0, 0, 4), (0, 0, 5), (0, 0, 6), (0, 0, 7), (0, 0, 8), (0, 0, 9), (0, 0, 10), (0, 0, 11), (0, 0, 12), (0, 0, 13), (0, 0, 14), (0, 0, 15), (0, 0, 16), (0, 0, 17), (0, 0, 18), (0, 0, 19), (0, 0, 24), (0, 0, 20), (0, 0, 21), (0, 0, 22), (0, 0, 23), (1, 0, 0), (1, 0, 1), (1, 0, 2), (1, 0, 3), (1, 0, 4), (0, 1, 0), (0, 1, 1), (0, 1, 2), (0, 1, 3), (0, 1, 4), (0, 1, 5), (0, 1, 6), (0, 1, 7), (0, 1, 8), (0, 1, 9), (0, 1, 10), (0, 1, 11), (0, 1, 12), (0, 1, 13), (0, 1, 14), (0, 1, 15), (0, 1, 16), (0, 1, 17), (0, 1, 18), (0, 1, 19), (0, 1, 24), (0, 1, 20), (0, 1, 21), (0, 1, 22), (0, 1, 23), (1, 1, 0), (1, 1, 1), (1, 1, 2), (1, 1, 3), (1, 1, 4)] : List (Nat × Nat × Nat)) := by decide +kernel
      rcases yN1_iff.mp hN with ⟨rfl, hd⟩ | ⟨rfl, hd⟩ | ⟨rfl, rfl⟩
      · have hc : c ≤ 24 := by rcases zk_new (by omega) hz with h | h <;> omega
        exact k0 ⟨c, by omega⟩ ⟨d, by omega⟩
      · have hc : c ≤ 4 := by rcases zk_new (by omega) hz with h | h <;> omega
        have := k1 ⟨c, by omega⟩
        rcases hd with rfl | rfl | rfl
        · exact this.1
        · exact this.2.1
        · exact this.2.2
      · exact k2 ⟨c, by have := zk_2 hz; omega⟩
    obtain ⟨p, hp, he⟩ := List.mem_map.mp hm
    exact ⟨p.1, by rw [← he]; exact hp⟩
  have hL := fun p hp => yE_L1 (E := yE0) (N := yN1) (p := p) h2 hp (h3 p hp)
  have l2_0_0 : zL (yE yE0 yN1 T) 2 0 0 = a0 := hL (a0, 2, 0, 0) (by rw [hT]; exact List.mem_of_getElem? (i := 0) rfl)
  have l2_0_1 : zL (yE yE0 yN1 T) 2 0 1 = i1 := hL (i1, 2, 0, 1) (by rw [hT]; exact List.mem_of_getElem? (i := 1) rfl)
  have l2_0_2 : zL (yE yE0 yN1 T) 2 0 2 = i2 := hL (i2, 2, 0, 2) (by rw [hT]; exact List.mem_of_getElem? (i := 2) rfl)
  have l2_0_3 : zL (yE yE0 yN1 T) 2 0 3 = k3 := hL (k3, 2, 0, 3) (by rw [hT]; exact List.mem_of_getElem? (i := 3) rfl)
  have l2_0_9 : zL (yE yE0 yN1 T) 2 0 9 = k9 := hL (k9, 2, 0, 9) (by rw [hT]; exact List.mem_of_getElem? (i := 4) rfl)
  have l2_0_10 : zL (yE yE0 yN1 T) 2 0 10 = k10 := hL (k10, 2, 0, 10) (by rw [hT]; exact List.mem_of_getElem? (i := 5) rfl)
  have l2_0_11 : zL (yE yE0 yN1 T) 2 0 11 = k11 := hL (k11, 2, 0, 11) (by rw [hT]; exact List.mem_of_getElem? (i := 6) rfl)
  have l2_0_12 : zL (yE yE0 yN1 T) 2 0 12 = k12 := hL (k12, 2, 0, 12) (by rw [hT]; exact List.mem_of_getElem? (i := 7) rfl)
  have l2_0_13 : zL (yE yE0 yN1 T) 2 0 13 = k13 := hL (k13, 2, 0, 13) (by rw [hT]; exact List.mem_of_getElem? (i := 8) rfl)
  have l2_0_14 : zL (yE yE0 yN1 T) 2 0 14 = k14 := hL (k14, 2, 0, 14) (by rw [hT]; exact List.mem_of_getElem? (i := 9) rfl)
  have l2_0_15 : zL (yE yE0 yN1 T) 2 0 15 = k15 := hL (k15, 2, 0, 15) (by rw [hT]; exact List.mem_of_getElem? (i := 10) rfl)
  have l2_0_16 : zL (yE yE0 yN1 T) 2 0 16 = k16 := hL (k16, 2, 0, 16) (by rw [hT]; exact List.mem_of_getElem? (i := 11) rfl)
  have l2_0_17 : zL (yE yE0 yN1 T) 2 0 17 = k17 := hL (k17, 2, 0, 17) (by rw [hT]; exact List.mem_of_getElem? (i := 12) rfl)
  have l2_0_18 : zL (yE yE0 yN1 T) 2 0 18 = k18 := hL (k18, 2, 0, 18) (by rw [hT]; exact List.mem_of_getElem? (i := 13) rfl)
  have l2_0_19 : zL (yE yE0 yN1 T) 2 0 19 = k19 := hL (k19, 2, 0, 19) (by rw [hT]; exact List.mem_of_getElem? (i := 14) rfl)
  have l2_0_4 : zL (yE yE0 yN1 T) 2 0 4 = k4 := hL (k4, 2, 0, 4) (by rw [hT]; exact List.mem_of_getElem? (i := 15) rfl)
  have l2_0_5 : zL (yE yE0 yN1 T) 2 0 5 = k5 := hL (k5, 2, 0, 5) (by rw [hT]; exact List.mem_of_getElem? (i := 16) rfl)
  have l2_0_6 : zL (yE yE0 yN1 T) 2 0 6 = n6 := hL (n6, 2, 0, 6) (by rw [hT]; exact List.mem_of_getElem? (i := 17) rfl)
  have l2_0_7 : zL (yE yE0 yN1 T) 2 0 7 = n7 := hL (n7, 2, 0, 7) (by rw [hT]; exact List.mem_of_getElem? (i := 18) rfl)
  have l2_0_8 : zL (yE yE0 yN1 T) 2 0 8 = n8 := hL (n8, 2, 0, 8) (by rw [hT]; exact List.mem_of_getElem? (i := 19) rfl)
  have l1_14_0 : zL (yE yE0 yN1 T) 1 14 0 = u0 := hL (u0, 1, 14, 0) (by rw [hT]; exact List.mem_of_getElem? (i := 20) rfl)
  have l1_14_1 : zL (yE yE0 yN1 T) 1 14 1 = u1 := hL (u1, 1, 14, 1) (by rw [hT]; exact List.mem_of_getElem? (i := 21) rfl)
  have l1_14_2 : zL (yE yE0 yN1 T) 1 14 2 = u2 := hL (u2, 1, 14, 2) (by rw [hT]; exact List.mem_of_getElem? (i := 22) rfl)
  have l1_14_3 : zL (yE yE0 yN1 T) 1 14 3 = u3 := hL (u3, 1, 14, 3) (by rw [hT]; exact List.mem_of_getElem? (i := 23) rfl)
  have l1_14_4 : zL (yE yE0 yN1 T) 1 14 4 = u4 := hL (u4, 1, 14, 4) (by rw [hT]; exact List.mem_of_getElem? (i := 24) rfl)
  have l0_0_0 : zL (yE yE0 yN1 T) 0 0 0 = xa := hL (xa, 0, 0, 0) (by rw [hT]; exact List.mem_of_getElem? (i := 25) rfl)
  have l0_0_1 : zL (yE yE0 yN1 T) 0 0 1 = xb1 := hL (xb1, 0, 0, 1) (by rw [hT]; exact List.mem_of_getElem? (i := 26) rfl)
  have l0_0_2 : zL (yE yE0 yN1 T) 0 0 2 = xb2 := hL (xb2, 0, 0, 2) (by rw [hT]; exact List.mem_of_getElem? (i := 27) rfl)
  have l0_0_3 : zL (yE yE0 yN1 T) 0 0 3 = xb3 := hL (xb3, 0, 0, 3) (by rw [hT]; exact List.mem_of_getElem? (i := 28) rfl)
  have l0_0_4 : zL (yE yE0 yN1 T) 0 0 4 = xb4 := hL (xb4, 0, 0, 4) (by rw [hT]; exact List.mem_of_getElem? (i := 29) rfl)
  have l0_0_5 : zL (yE yE0 yN1 T) 0 0 5 = xb5 := hL (xb5, 0, 0, 5) (by rw [hT]; exact List.mem_of_getElem? (i := 30) rfl)
  have l0_0_6 : zL (yE yE0 yN1 T) 0 0 6 = xb6 := hL (xb6, 0, 0, 6) (by rw [hT]; exact List.mem_of_getElem? (i := 31) rfl)
  have l0_0_7 : zL (yE yE0 yN1 T) 0 0 7 = xb7 := hL (xb7, 0, 0, 7) (by rw [hT]; exact List.mem_of_getElem? (i := 32) rfl)
  have l0_0_8 : zL (yE yE0 yN1 T) 0 0 8 = xb8 := hL (xb8, 0, 0, 8) (by rw [hT]; exact List.mem_of_getElem? (i := 33) rfl)
  have l0_0_9 : zL (yE yE0 yN1 T) 0 0 9 = xb9 := hL (xb9, 0, 0, 9) (by rw [hT]; exact List.mem_of_getElem? (i := 34) rfl)
  have l0_0_10 : zL (yE yE0 yN1 T) 0 0 10 = xv10 := hL (xv10, 0, 0, 10) (by rw [hT]; exact List.mem_of_getElem? (i := 35) rfl)
  have l0_0_11 : zL (yE yE0 yN1 T) 0 0 11 = xv11 := hL (xv11, 0, 0, 11) (by rw [hT]; exact List.mem_of_getElem? (i := 36) rfl)
  have l0_0_12 : zL (yE yE0 yN1 T) 0 0 12 = xv12 := hL (xv12, 0, 0, 12) (by rw [hT]; exact List.mem_of_getElem? (i := 37) rfl)
  have l0_0_13 : zL (yE yE0 yN1 T) 0 0 13 = xv13 := hL (xv13, 0, 0, 13) (by rw [hT]; exact List.mem_of_getElem? (i := 38) rfl)
  have l0_0_14 : zL (yE yE0 yN1 T) 0 0 14 = xv14 := hL (xv14, 0, 0, 14) (by rw [hT]; exact List.mem_of_getElem? (i := 39) rfl)
  have l0_0_15 : zL (yE yE0 yN1 T) 0 0 15 = xv15 := hL (xv15, 0, 0, 15) (by rw [hT]; exact List.mem_of_getElem? (i := 40) rfl)
  have l0_0_16 : zL (yE yE0 yN1 T) 0 0 16 = xs16 := hL (xs16, 0, 0, 16) (by rw [hT]; exact List.mem_of_getElem? (i := 41) rfl)
  have l0_0_17 : zL (yE yE0 yN1 T) 0 0 17 = xs17 := hL (xs17, 0, 0, 17) (by rw [hT]; exact List.mem_of_getElem? (i := 42) rfl)
  have l0_0_18 : zL (yE yE0 yN1 T) 0 0 18 = xs18 := hL (xs18, 0, 0, 18) (by rw [hT]; exact List.mem_of_getElem? (i := 43) rfl)
  have l0_0_19 : zL (yE yE0 yN1 T) 0 0 19 = xs19 := hL (xs19, 0, 0, 19) (by rw [hT]; exact List.mem_of_getElem? (i := 44) rfl)
  have l0_0_24 : zL (yE yE0 yN1 T) 0 0 24 = xs24 := hL (xs24, 0, 0, 24) (by rw [hT]; exact List.mem_of_getElem? (i := 45) rfl)
  have l0_0_20 : zL (yE yE0 yN1 T) 0 0 20 = xs20 := hL (xs20, 0, 0, 20) (by rw [hT]; exact List.mem_of_getElem? (i := 46) rfl)
  have l0_0_21 : zL (yE yE0 yN1 T) 0 0 21 = xs21 := hL (xs21, 0, 0, 21) (by rw [hT]; exact List.mem_of_getElem? (i := 47) rfl)
  have l0_0_22 : zL (yE yE0 yN1 T) 0 0 22 = xs22 := hL (xs22, 0, 0, 22) (by rw [hT]; exact List.mem_of_getElem? (i := 48) rfl)
  have l0_0_23 : zL (yE yE0 yN1 T) 0 0 23 = xc23 := hL (xc23, 0, 0, 23) (by rw [hT]; exact List.mem_of_getElem? (i := 49) rfl)
  have l1_0_0 : zL (yE yE0 yN1 T) 1 0 0 = xw0 := hL (xw0, 1, 0, 0) (by rw [hT]; exact List.mem_of_getElem? (i := 50) rfl)
  have l1_0_1 : zL (yE yE0 yN1 T) 1 0 1 = xw1 := hL (xw1, 1, 0, 1) (by rw [hT]; exact List.mem_of_getElem? (i := 51) rfl)
  have l1_0_2 : zL (yE yE0 yN1 T) 1 0 2 = xw2 := hL (xw2, 1, 0, 2) (by rw [hT]; exact List.mem_of_getElem? (i := 52) rfl)
  have l1_0_3 : zL (yE yE0 yN1 T) 1 0 3 = xw3 := hL (xw3, 1, 0, 3) (by rw [hT]; exact List.mem_of_getElem? (i := 53) rfl)
  have l1_0_4 : zL (yE yE0 yN1 T) 1 0 4 = xw4 := hL (xw4, 1, 0, 4) (by rw [hT]; exact List.mem_of_getElem? (i := 54) rfl)
  have l0_1_0 : zL (yE yE0 yN1 T) 0 1 0 = ya := hL (ya, 0, 1, 0) (by rw [hT]; exact List.mem_of_getElem? (i := 55) rfl)
  have l0_1_1 : zL (yE yE0 yN1 T) 0 1 1 = yb1 := hL (yb1, 0, 1, 1) (by rw [hT]; exact List.mem_of_getElem? (i := 56) rfl)
  have l0_1_2 : zL (yE yE0 yN1 T) 0 1 2 = yb2 := hL (yb2, 0, 1, 2) (by rw [hT]; exact List.mem_of_getElem? (i := 57) rfl)
  have l0_1_3 : zL (yE yE0 yN1 T) 0 1 3 = yb3 := hL (yb3, 0, 1, 3) (by rw [hT]; exact List.mem_of_getElem? (i := 58) rfl)
  have l0_1_4 : zL (yE yE0 yN1 T) 0 1 4 = yb4 := hL (yb4, 0, 1, 4) (by rw [hT]; exact List.mem_of_getElem? (i := 59) rfl)
  have l0_1_5 : zL (yE yE0 yN1 T) 0 1 5 = yb5 := hL (yb5, 0, 1, 5) (by rw [hT]; exact List.mem_of_getElem? (i := 60) rfl)
  have l0_1_6 : zL (yE yE0 yN1 T) 0 1 6 = yb6 := hL (yb6, 0, 1, 6) (by rw [hT]; exact List.mem_of_getElem? (i := 61) rfl)
  have l0_1_7 : zL (yE yE0 yN1 T) 0 1 7 = yb7 := hL (yb7, 0, 1, 7) (by rw [hT]; exact List.mem_of_getElem? (i := 62) rfl)
  have l0_1_8 : zL (yE yE0 yN1 T) 0 1 8 = yb8 := hL (yb8, 0, 1, 8) (by rw [hT]; exact List.mem_of_getElem? (i := 63) rfl)
  have l0_1_9 : zL (yE yE0 yN1 T) 0 1 9 = yb9 := hL (yb9, 0, 1, 9) (by rw [hT]; exact List.mem_of_getElem? (i := 64) rfl)
  have l0_1_10 : zL (yE yE0 yN1 T) 0 1 10 = yv10 := hL (yv10, 0, 1, 10) (by rw [hT]; exact List.mem_of_getElem? (i := 65) rfl)
  have l0_1_11 : zL (yE yE0 yN1 T) 0 1 11 = yv11 := hL (yv11, 0, 1, 11) (by rw [hT]; exact List.mem_of_getElem? (i := 66) rfl)
  have l0_1_12 : zL (yE yE0 yN1 T) 0 1 12 = yv12 := hL (yv12, 0, 1, 12) (by rw [hT]; exact List.mem_of_getElem? (i := 67) rfl)
  have l0_1_13 : zL (yE yE0 yN1 T) 0 1 13 = yv13 := hL (yv13, 0, 1, 13) (by rw [hT]; exact List.mem_of_getElem? (i := 68) rfl)
  have l0_1_14 : zL (yE yE0 yN1 T) 0 1 14 = yv14 := hL (yv14, 0, 1, 14) (by rw [hT]; exact List.mem_of_getElem? (i := 69) rfl)
  have l0_1_15 : zL (yE yE0 yN1 T) 0 1 15 = yv15 := hL (yv15, 0, 1, 15) (by rw [hT]; exact List.mem_of_getElem? (i := 70) rfl)
  have l0_1_16 : zL (yE yE0 yN1 T) 0 1 16 = ys16 := hL (ys16, 0, 1, 16) (by rw [hT]; exact List.mem_of_getElem? (i := 71) rfl)
  have l0_1_17 : zL (yE yE0 yN1 T) 0 1 17 = ys17 := hL (ys17, 0, 1, 17) (by rw [hT]; exact List.mem_of_getElem? (i := 72) rfl)
  have l0_1_18 : zL (yE yE0 yN1 T) 0 1 18 = ys18 := hL (ys18, 0, 1, 18) (by rw [hT]; exact List.mem_of_getElem? (i := 73) rfl)
  have l0_1_19 : zL (yE yE0 yN1 T) 0 1 19 = ys19 := hL (ys19, 0, 1, 19) (by rw [hT]; exact List.mem_of_getElem? (i := 74) rfl)
  have l0_1_24 : zL (yE yE0 yN1 T) 0 1 24 = ys24 := hL (ys24, 0, 1, 24) (by rw [hT]; exact List.mem_of_getElem? (i := 75) rfl)
  have l0_1_20 : zL (yE yE0 yN1 T) 0 1 20 = ys20 := hL (ys20, 0, 1, 20) (by rw [hT]; exact List.mem_of_getElem? (i := 76) rfl)
  have l0_1_21 : zL (yE yE0 yN1 T) 0 1 21 = ys21 := hL (ys21, 0, 1, 21) (by rw [hT]; exact List.mem_of_getElem? (i := 77) rfl)
  have l0_1_22 : zL (yE yE0 yN1 T) 0 1 22 = ys22 := hL (ys22, 0, 1, 22) (by rw [hT]; exact List.mem_of_getElem? (i := 78) rfl)
  have l0_1_23 : zL (yE yE0 yN1 T) 0 1 23 = yc23 := hL (yc23, 0, 1, 23) (by rw [hT]; exact List.mem_of_getElem? (i := 79) rfl)
  have l1_1_0 : zL (yE yE0 yN1 T) 1 1 0 = yw0 := hL (yw0, 1, 1, 0) (by rw [hT]; exact List.mem_of_getElem? (i := 80) rfl)
  have l1_1_1 : zL (yE yE0 yN1 T) 1 1 1 = yw1 := hL (yw1, 1, 1, 1) (by rw [hT]; exact List.mem_of_getElem? (i := 81) rfl)
  have l1_1_2 : zL (yE yE0 yN1 T) 1 1 2 = yw2 := hL (yw2, 1, 1, 2) (by rw [hT]; exact List.mem_of_getElem? (i := 82) rfl)
  have l1_1_3 : zL (yE yE0 yN1 T) 1 1 3 = yw3 := hL (yw3, 1, 1, 3) (by rw [hT]; exact List.mem_of_getElem? (i := 83) rfl)
  have l1_1_4 : zL (yE yE0 yN1 T) 1 1 4 = yw4 := hL (yw4, 1, 1, 4) (by rw [hT]; exact List.mem_of_getElem? (i := 84) rfl)
  refine ⟨yE yE0 yN1 T, yE_WF (σ := zS0) yE0_WF h1 h2 h3 h4 (fun _ _ _ => rfl) h6, fun k d => by rw [yE_U]; rfl, l2_0_0, ?_⟩
  refine yE_H (σ := zS0) h1 h3 ⟨rfl, rfl⟩ (fun p hp => ?_) (fun q hq => ?_) (fun k d c hu => by exact absurd hu (by show ¬ false = true; simp))
  · have hown := s.own
    have hcel := s.cel
    rw [hT] at hp
    simp only [List.mem_cons, List.not_mem_nil, or_false] at hp
    rcases hp with rfl | rfl | rfl | rfl | rfl | rfl | rfl | rfl | rfl | rfl | rfl | rfl | rfl | rfl | rfl | rfl | rfl | rfl | rfl | rfl | rfl | rfl | rfl | rfl | rfl | rfl | rfl | rfl | rfl | rfl | rfl | rfl | rfl | rfl | rfl | rfl | rfl | rfl | rfl | rfl | rfl | rfl | rfl | rfl | rfl | rfl | rfl | rfl | rfl | rfl | rfl | rfl | rfl | rfl | rfl | rfl | rfl | rfl | rfl | rfl | rfl | rfl | rfl | rfl | rfl | rfl | rfl | rfl | rfl | rfl | rfl | rfl | rfl | rfl | rfl | rfl | rfl | rfl | rfl | rfl | rfl | rfl | rfl | rfl | rfl
    · have hz : zC (yE yE0 yN1 T) 2 0 0 (zS0 2 0 0) = some (gO 9 [.ref (zL (yE yE0 yN1 T) 2 0 1), .ref (zL (yE yE0 yN1 T) 2 0 3), .ref (zL (yE yE0 yN1 T) 2 0 4), .ref (zL (yE yE0 yN1 T) 2 0 6), .ref (zL (yE yE0 yN1 T) 1 14 0), .ref (zL (yE yE0 yN1 T) 0 0 0), .ref (zL (yE yE0 yN1 T) 0 1 0)]) := rfl
      refine Eq.trans ?_ hz.symm
      rw [l2_0_1, l2_0_3, l2_0_4, l2_0_6, l1_14_0, l0_0_0, l0_1_0]
      exact hown
    · have hz : zC (yE yE0 yN1 T) 2 0 1 (zS0 2 0 1) = some (gO 3 [.ref (zL (yE yE0 yN1 T) 2 0 2), .int 0]) := rfl
      refine Eq.trans ?_ hz.symm
      rw [l2_0_2]
      exact hcel (i1, gO 3 [.ref i2, .int 0]) (List.mem_of_getElem? (i := 0) rfl)
    · exact (hcel (i2, .inl (0, 600, fun _ => 0)) (List.mem_of_getElem? (i := 1) rfl)).trans rfl
    · have hz : zC (yE yE0 yN1 T) 2 0 3 (zS0 2 0 3) = some (gO 4 [.int 0, .int (-1), .int 8, .int 0, .int 0, .ref (zL (yE yE0 yN1 T) 2 0 9), .int 0, .ref (zL (yE yE0 yN1 T) 2 0 10), .ref (zL (yE yE0 yN1 T) 2 0 11), .ref (zL (yE yE0 yN1 T) 2 0 12), .ref (zL (yE yE0 yN1 T) 2 0 13), .ref (zL (yE yE0 yN1 T) 2 0 14), .ref (zL (yE yE0 yN1 T) 2 0 15), .ref (zL (yE yE0 yN1 T) 2 0 16), .int 0]) := rfl
      refine Eq.trans ?_ hz.symm
      rw [l2_0_9, l2_0_10, l2_0_11, l2_0_12, l2_0_13, l2_0_14, l2_0_15, l2_0_16]
      exact hcel (k3, gO 4 [.int 0, .int (-1), .int 8, .int 0, .int 0, .ref k9, .int 0, .ref k10, .ref k11, .ref k12, .ref k13, .ref k14, .ref k15, .ref k16, .int 0]) (List.mem_of_getElem? (i := 2) rfl)
    · exact (hcel (k9, .inr (.inl (10, fun _ => 0))) (List.mem_of_getElem? (i := 3) rfl)).trans rfl
    · exact (hcel (k10, .inl (0, 120, fun _ => 0)) (List.mem_of_getElem? (i := 4) rfl)).trans rfl
    · exact (hcel (k11, .inl (0, 120, fun _ => 0)) (List.mem_of_getElem? (i := 5) rfl)).trans rfl
    · exact (hcel (k12, .inl (0, 120, fun _ => 0)) (List.mem_of_getElem? (i := 6) rfl)).trans rfl
    · exact (hcel (k13, .inl (0, 120, fun _ => 0)) (List.mem_of_getElem? (i := 7) rfl)).trans rfl
    · exact (hcel (k14, .inl (0, 120, fun _ => 0)) (List.mem_of_getElem? (i := 8) rfl)).trans rfl
    · exact (hcel (k15, .inl (1, 96, fun _ => 0)) (List.mem_of_getElem? (i := 9) rfl)).trans rfl
    · have hz : zC (yE yE0 yN1 T) 2 0 16 (zS0 2 0 16) = some (gO 11 [.int 0, .int 0, .ref (zL (yE yE0 yN1 T) 2 0 17), .ref (zL (yE yE0 yN1 T) 2 0 18), .ref (zL (yE yE0 yN1 T) 2 0 19)]) := rfl
      refine Eq.trans ?_ hz.symm
      rw [l2_0_17, l2_0_18, l2_0_19]
      exact hcel (k16, gO 11 [.int 0, .int 0, .ref k17, .ref k18, .ref k19]) (List.mem_of_getElem? (i := 10) rfl)
    · exact (hcel (k17, .inl (0, 600, fun _ => 0)) (List.mem_of_getElem? (i := 11) rfl)).trans rfl
    · exact (hcel (k18, .inl (0, 600, fun _ => 0)) (List.mem_of_getElem? (i := 12) rfl)).trans rfl
    · exact (hcel (k19, .inr (.inl (600, fun _ => 0))) (List.mem_of_getElem? (i := 13) rfl)).trans rfl
    · have hz : zC (yE yE0 yN1 T) 2 0 4 (zS0 2 0 4) = some (gO 2 [.int 0, .int 0, .ref (zL (yE yE0 yN1 T) 2 0 5)]) := rfl
      refine Eq.trans ?_ hz.symm
      rw [l2_0_5]
      exact hcel (k4, gO 2 [.int 0, .int 0, .ref k5]) (List.mem_of_getElem? (i := 14) rfl)
    · exact (hcel (k5, .inr (.inr (.inl (4, 10, fun _ => none)))) (List.mem_of_getElem? (i := 15) rfl)).trans rfl
    · have hz : zC (yE yE0 yN1 T) 2 0 6 (zS0 2 0 6) = some (gO 6 [.ref (zL (yE yE0 yN1 T) 2 0 7), .ref (zL (yE yE0 yN1 T) 2 0 8)]) := rfl
      refine Eq.trans ?_ hz.symm
      rw [l2_0_7, l2_0_8]
      exact hcel (n6, gO 6 [.ref n7, .ref n8]) (List.mem_of_getElem? (i := 16) rfl)
    · exact (hcel (n7, .inl (1, 2, fun _ => 0)) (List.mem_of_getElem? (i := 17) rfl)).trans rfl
    · exact (hcel (n8, .inr (.inr (.inl (4, 2, fun _ => none)))) (List.mem_of_getElem? (i := 18) rfl)).trans rfl
    · have hz : zC (yE yE0 yN1 T) 1 14 0 (zS0 1 14 0) = some (gO 8 [.int 0, .ref (zL (yE yE0 yN1 T) 1 14 1), .ref (zL (yE yE0 yN1 T) 1 14 2), .ref (zL (yE yE0 yN1 T) 1 14 3), .ref (zL (yE yE0 yN1 T) 1 14 4)]) := rfl
      refine Eq.trans ?_ hz.symm
      rw [l1_14_1, l1_14_2, l1_14_3, l1_14_4]
      exact hcel (u0, gO 8 [.int 0, .ref u1, .ref u2, .ref u3, .ref u4]) (List.mem_of_getElem? (i := 19) rfl)
    · exact (hcel (u1, .inl (1, 12, fun _ => 0)) (List.mem_of_getElem? (i := 20) rfl)).trans rfl
    · exact (hcel (u2, .inl (0, 10, fun _ => 0)) (List.mem_of_getElem? (i := 21) rfl)).trans rfl
    · exact (hcel (u3, .inl (0, 10, fun _ => 0)) (List.mem_of_getElem? (i := 22) rfl)).trans rfl
    · exact (hcel (u4, .inl (1, 10, fun _ => 0)) (List.mem_of_getElem? (i := 23) rfl)).trans rfl
    · have hz : zC (yE yE0 yN1 T) 0 0 0 (zS0 0 0 0) = some (gO 1 [.ref (zL (yE yE0 yN1 T) 0 0 1), .ref (zL (yE yE0 yN1 T) 0 0 10), .ref (zL (yE yE0 yN1 T) 0 0 16), .int 0, .ref (zL (yE yE0 yN1 T) 0 0 23), .int 0, .ref (zL (yE yE0 yN1 T) 1 0 0)]) := rfl
      refine Eq.trans ?_ hz.symm
      rw [l0_0_1, l0_0_10, l0_0_16, l0_0_23, l1_0_0]
      exact hcel (xa, gO 1 [.ref xb1, .ref xv10, .ref xs16, .int 0, .ref xc23, .int 0, .ref xw0]) (List.mem_of_getElem? (i := 24) rfl)
    · have hz : zC (yE yE0 yN1 T) 0 0 1 (zS0 0 0 1) = some (gO 0 [.int 0, .int 0, .int 0, .ref (zL (yE yE0 yN1 T) 0 0 2), .ref (zL (yE yE0 yN1 T) 0 0 3), .ref (zL (yE yE0 yN1 T) 0 0 4), .ref (zL (yE yE0 yN1 T) 0 0 5), .ref (zL (yE yE0 yN1 T) 0 0 6), .ref (zL (yE yE0 yN1 T) 0 0 7), .ref (zL (yE yE0 yN1 T) 0 0 8), .ref (zL (yE yE0 yN1 T) 0 0 9)]) := rfl
      refine Eq.trans ?_ hz.symm
      rw [l0_0_2, l0_0_3, l0_0_4, l0_0_5, l0_0_6, l0_0_7, l0_0_8, l0_0_9]
      exact hcel (xb1, gO 0 [.int 0, .int 0, .int 0, .ref xb2, .ref xb3, .ref xb4, .ref xb5, .ref xb6, .ref xb7, .ref xb8, .ref xb9]) (List.mem_of_getElem? (i := 25) rfl)
    · exact (hcel (xb2, .inl (0, 96, fun _ => 0)) (List.mem_of_getElem? (i := 26) rfl)).trans rfl
    · exact (hcel (xb3, .inl (1, 96, fun _ => 0)) (List.mem_of_getElem? (i := 27) rfl)).trans rfl
    · exact (hcel (xb4, .inl (1, 96, fun _ => 0)) (List.mem_of_getElem? (i := 28) rfl)).trans rfl
    · exact (hcel (xb5, .inl (0, 96, fun _ => 0)) (List.mem_of_getElem? (i := 29) rfl)).trans rfl
    · exact (hcel (xb6, .inl (0, 96, fun _ => 0)) (List.mem_of_getElem? (i := 30) rfl)).trans rfl
    · exact (hcel (xb7, .inl (0, 96, fun _ => 0)) (List.mem_of_getElem? (i := 31) rfl)).trans rfl
    · exact (hcel (xb8, .inl (0, 96, fun _ => 0)) (List.mem_of_getElem? (i := 32) rfl)).trans rfl
    · exact (hcel (xb9, .inl (0, 96, fun _ => 0)) (List.mem_of_getElem? (i := 33) rfl)).trans rfl
    · have hz : zC (yE yE0 yN1 T) 0 0 10 (zS0 0 0 10) = some (gO 7 [.int 0, .ref (zL (yE yE0 yN1 T) 0 0 11), .ref (zL (yE yE0 yN1 T) 0 0 12), .ref (zL (yE yE0 yN1 T) 0 0 13), .ref (zL (yE yE0 yN1 T) 0 0 14), .ref (zL (yE yE0 yN1 T) 0 0 15)]) := rfl
      refine Eq.trans ?_ hz.symm
      rw [l0_0_11, l0_0_12, l0_0_13, l0_0_14, l0_0_15]
      exact hcel (xv10, gO 7 [.int 0, .ref xv11, .ref xv12, .ref xv13, .ref xv14, .ref xv15]) (List.mem_of_getElem? (i := 34) rfl)
    · exact (hcel (xv11, .inl (0, 96, fun _ => 0)) (List.mem_of_getElem? (i := 35) rfl)).trans rfl
    · exact (hcel (xv12, .inl (0, 96, fun _ => 0)) (List.mem_of_getElem? (i := 36) rfl)).trans rfl
    · exact (hcel (xv13, .inl (0, 96, fun _ => 0)) (List.mem_of_getElem? (i := 37) rfl)).trans rfl
    · exact (hcel (xv14, .inl (0, 96, fun _ => 0)) (List.mem_of_getElem? (i := 38) rfl)).trans rfl
    · exact (hcel (xv15, .inl (0, 96, fun _ => 0)) (List.mem_of_getElem? (i := 39) rfl)).trans rfl
    · have hz : zC (yE yE0 yN1 T) 0 0 16 (zS0 0 0 16) = some (gO 5 [.int 0, .ref (zL (yE yE0 yN1 T) 0 0 17), .ref (zL (yE yE0 yN1 T) 0 0 18), .ref (zL (yE yE0 yN1 T) 0 0 19), .ref (zL (yE yE0 yN1 T) 0 0 24), .ref (zL (yE yE0 yN1 T) 0 0 20), .ref (zL (yE yE0 yN1 T) 0 0 21), .ref (zL (yE yE0 yN1 T) 0 0 22)]) := rfl
      refine Eq.trans ?_ hz.symm
      rw [l0_0_17, l0_0_18, l0_0_19, l0_0_24, l0_0_20, l0_0_21, l0_0_22]
      exact hcel (xs16, gO 5 [.int 0, .ref xs17, .ref xs18, .ref xs19, .ref xs24, .ref xs20, .ref xs21, .ref xs22]) (List.mem_of_getElem? (i := 40) rfl)
    · exact (hcel (xs17, .inl (0, 12, fun _ => 0)) (List.mem_of_getElem? (i := 41) rfl)).trans rfl
    · exact (hcel (xs18, .inl (0, 12, fun _ => 0)) (List.mem_of_getElem? (i := 42) rfl)).trans rfl
    · exact (hcel (xs19, .inl (0, 12, fun _ => 0)) (List.mem_of_getElem? (i := 43) rfl)).trans rfl
    · exact (hcel (xs24, .inl (0, 12, fun _ => 0)) (List.mem_of_getElem? (i := 44) rfl)).trans rfl
    · exact (hcel (xs20, .inl (0, 12, fun _ => 0)) (List.mem_of_getElem? (i := 45) rfl)).trans rfl
    · exact (hcel (xs21, .inl (0, 120, fun _ => 0)) (List.mem_of_getElem? (i := 46) rfl)).trans rfl
    · exact (hcel (xs22, .inl (0, 120, fun _ => 0)) (List.mem_of_getElem? (i := 47) rfl)).trans rfl
    · exact (hcel (xc23, .inr (.inl (10, fun _ => 0))) (List.mem_of_getElem? (i := 48) rfl)).trans rfl
    · have hz : zC (yE yE0 yN1 T) 1 0 0 (zS0 1 0 0) = some (gO 8 [.int 0, .ref (zL (yE yE0 yN1 T) 1 0 1), .ref (zL (yE yE0 yN1 T) 1 0 2), .ref (zL (yE yE0 yN1 T) 1 0 3), .ref (zL (yE yE0 yN1 T) 1 0 4)]) := rfl
      refine Eq.trans ?_ hz.symm
      rw [l1_0_1, l1_0_2, l1_0_3, l1_0_4]
      exact hcel (xw0, gO 8 [.int 0, .ref xw1, .ref xw2, .ref xw3, .ref xw4]) (List.mem_of_getElem? (i := 49) rfl)
    · exact (hcel (xw1, .inl (1, 12, fun _ => 0)) (List.mem_of_getElem? (i := 50) rfl)).trans rfl
    · exact (hcel (xw2, .inl (0, 10, fun _ => 0)) (List.mem_of_getElem? (i := 51) rfl)).trans rfl
    · exact (hcel (xw3, .inl (0, 10, fun _ => 0)) (List.mem_of_getElem? (i := 52) rfl)).trans rfl
    · exact (hcel (xw4, .inl (1, 10, fun _ => 0)) (List.mem_of_getElem? (i := 53) rfl)).trans rfl
    · have hz : zC (yE yE0 yN1 T) 0 1 0 (zS0 0 1 0) = some (gO 1 [.ref (zL (yE yE0 yN1 T) 0 1 1), .ref (zL (yE yE0 yN1 T) 0 1 10), .ref (zL (yE yE0 yN1 T) 0 1 16), .int 0, .ref (zL (yE yE0 yN1 T) 0 1 23), .int 0, .ref (zL (yE yE0 yN1 T) 1 1 0)]) := rfl
      refine Eq.trans ?_ hz.symm
      rw [l0_1_1, l0_1_10, l0_1_16, l0_1_23, l1_1_0]
      exact hcel (ya, gO 1 [.ref yb1, .ref yv10, .ref ys16, .int 0, .ref yc23, .int 0, .ref yw0]) (List.mem_of_getElem? (i := 54) rfl)
    · have hz : zC (yE yE0 yN1 T) 0 1 1 (zS0 0 1 1) = some (gO 0 [.int 0, .int 0, .int 0, .ref (zL (yE yE0 yN1 T) 0 1 2), .ref (zL (yE yE0 yN1 T) 0 1 3), .ref (zL (yE yE0 yN1 T) 0 1 4), .ref (zL (yE yE0 yN1 T) 0 1 5), .ref (zL (yE yE0 yN1 T) 0 1 6), .ref (zL (yE yE0 yN1 T) 0 1 7), .ref (zL (yE yE0 yN1 T) 0 1 8), .ref (zL (yE yE0 yN1 T) 0 1 9)]) := rfl
      refine Eq.trans ?_ hz.symm
      rw [l0_1_2, l0_1_3, l0_1_4, l0_1_5, l0_1_6, l0_1_7, l0_1_8, l0_1_9]
      exact hcel (yb1, gO 0 [.int 0, .int 0, .int 0, .ref yb2, .ref yb3, .ref yb4, .ref yb5, .ref yb6, .ref yb7, .ref yb8, .ref yb9]) (List.mem_of_getElem? (i := 55) rfl)
    · exact (hcel (yb2, .inl (0, 96, fun _ => 0)) (List.mem_of_getElem? (i := 56) rfl)).trans rfl
    · exact (hcel (yb3, .inl (1, 96, fun _ => 0)) (List.mem_of_getElem? (i := 57) rfl)).trans rfl
    · exact (hcel (yb4, .inl (1, 96, fun _ => 0)) (List.mem_of_getElem? (i := 58) rfl)).trans rfl
    · exact (hcel (yb5, .inl (0, 96, fun _ => 0)) (List.mem_of_getElem? (i := 59) rfl)).trans rfl
    · exact (hcel (yb6, .inl (0, 96, fun _ => 0)) (List.mem_of_getElem? (i := 60) rfl)).trans rfl
    · exact (hcel (yb7, .inl (0, 96, fun _ => 0)) (List.mem_of_getElem? (i := 61) rfl)).trans rfl
    · exact (hcel (yb8, .inl (0, 96, fun _ => 0)) (List.mem_of_getElem? (i := 62) rfl)).trans rfl
    · exact (hcel (yb9, .inl (0, 96, fun _ => 0)) (List.mem_of_getElem? (i := 63) rfl)).trans rfl
    · have hz : zC (yE yE0 yN1 T) 0 1 10 (zS0 0 1 10) = some (gO 7 [.int 0, .ref (zL (yE yE0 yN1 T) 0 1 11), .ref (zL (yE yE0 yN1 T) 0 1 12), .ref (zL (yE yE0 yN1 T) 0 1 13), .ref (zL (yE yE0 yN1 T) 0 1 14), .ref (zL (yE yE0 yN1 T) 0 1 15)]) := rfl
      refine Eq.trans ?_ hz.symm
      rw [l0_1_11, l0_1_12, l0_1_13, l0_1_14, l0_1_15]
      exact hcel (yv10, gO 7 [.int 0, .ref yv11, .ref yv12, .ref yv13, .ref yv14, .ref yv15]) (List.mem_of_getElem? (i := 64) rfl)
    · exact (hcel (yv11, .inl (0, 96, fun _ => 0)) (List.mem_of_getElem? (i := 65) rfl)).trans rfl
    · exact (hcel (yv12, .inl (0, 96, fun _ => 0)) (List.mem_of_getElem? (i := 66) rfl)).trans rfl
    · exact (hcel (yv13, .inl (0, 96, fun _ => 0)) (List.mem_of_getElem? (i := 67) rfl)).trans rfl
    · exact (hcel (yv14, .inl (0, 96, fun _ => 0)) (List.mem_of_getElem? (i := 68) rfl)).trans rfl
    · exact (hcel (yv15, .inl (0, 96, fun _ => 0)) (List.mem_of_getElem? (i := 69) rfl)).trans rfl
    · have hz : zC (yE yE0 yN1 T) 0 1 16 (zS0 0 1 16) = some (gO 5 [.int 0, .ref (zL (yE yE0 yN1 T) 0 1 17), .ref (zL (yE yE0 yN1 T) 0 1 18), .ref (zL (yE yE0 yN1 T) 0 1 19), .ref (zL (yE yE0 yN1 T) 0 1 24), .ref (zL (yE yE0 yN1 T) 0 1 20), .ref (zL (yE yE0 yN1 T) 0 1 21), .ref (zL (yE yE0 yN1 T) 0 1 22)]) := rfl
      refine Eq.trans ?_ hz.symm
      rw [l0_1_17, l0_1_18, l0_1_19, l0_1_24, l0_1_20, l0_1_21, l0_1_22]
      exact hcel (ys16, gO 5 [.int 0, .ref ys17, .ref ys18, .ref ys19, .ref ys24, .ref ys20, .ref ys21, .ref ys22]) (List.mem_of_getElem? (i := 70) rfl)
    · exact (hcel (ys17, .inl (0, 12, fun _ => 0)) (List.mem_of_getElem? (i := 71) rfl)).trans rfl
    · exact (hcel (ys18, .inl (0, 12, fun _ => 0)) (List.mem_of_getElem? (i := 72) rfl)).trans rfl
    · exact (hcel (ys19, .inl (0, 12, fun _ => 0)) (List.mem_of_getElem? (i := 73) rfl)).trans rfl
    · exact (hcel (ys24, .inl (0, 12, fun _ => 0)) (List.mem_of_getElem? (i := 74) rfl)).trans rfl
    · exact (hcel (ys20, .inl (0, 12, fun _ => 0)) (List.mem_of_getElem? (i := 75) rfl)).trans rfl
    · exact (hcel (ys21, .inl (0, 120, fun _ => 0)) (List.mem_of_getElem? (i := 76) rfl)).trans rfl
    · exact (hcel (ys22, .inl (0, 120, fun _ => 0)) (List.mem_of_getElem? (i := 77) rfl)).trans rfl
    · exact (hcel (yc23, .inr (.inl (10, fun _ => 0))) (List.mem_of_getElem? (i := 78) rfl)).trans rfl
    · have hz : zC (yE yE0 yN1 T) 1 1 0 (zS0 1 1 0) = some (gO 8 [.int 0, .ref (zL (yE yE0 yN1 T) 1 1 1), .ref (zL (yE yE0 yN1 T) 1 1 2), .ref (zL (yE yE0 yN1 T) 1 1 3), .ref (zL (yE yE0 yN1 T) 1 1 4)]) := rfl
      refine Eq.trans ?_ hz.symm
      rw [l1_1_1, l1_1_2, l1_1_3, l1_1_4]
      exact hcel (yw0, gO 8 [.int 0, .ref yw1, .ref yw2, .ref yw3, .ref yw4]) (List.mem_of_getElem? (i := 79) rfl)
    · exact (hcel (yw1, .inl (1, 12, fun _ => 0)) (List.mem_of_getElem? (i := 80) rfl)).trans rfl
    · exact (hcel (yw2, .inl (0, 10, fun _ => 0)) (List.mem_of_getElem? (i := 81) rfl)).trans rfl
    · exact (hcel (yw3, .inl (0, 10, fun _ => 0)) (List.mem_of_getElem? (i := 82) rfl)).trans rfl
    · exact (hcel (yw4, .inl (1, 10, fun _ => 0)) (List.mem_of_getElem? (i := 83) rfl)).trans rfl
  · rw [yE0_H]
    have hq0 : q ≠ a0 := fun h => hq (a0, 2, 0, 0) (by rw [hT]; simp) h.symm
    rw [s.out q hq0 (fun p hp h => ?_), gva_ne hq0]
    have hm : q ∈ T.map Prod.fst := by
      rw [hmf]
      exact List.mem_cons_of_mem _ (List.mem_map.mpr ⟨p, hp, h⟩)
    obtain ⟨r, hr, he⟩ := List.mem_map.mp hm
    exact hq r hr he

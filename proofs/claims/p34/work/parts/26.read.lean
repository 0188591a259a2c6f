/-! The readings of a state that is in order. -/
theorem zRk.r {ρ : Nat → Int → Int} {n : zN} (h : zRk ρ n) :
  ρ 1 0 = n 0 ∧ ρ 1 1 = n 0 - n 1 ∧ ρ 1 2 = n 4 ∧ (∀ b, 0 ≤ b → b < 96 → ρ 2 b = n (7 + b)) ∧ (∀ b, 0 ≤ b → b < 96 → ρ 3 b = n (103 + b)) ∧ (∀ b, 0 ≤ b → b < 96 → ρ 4 b = n (199 + b)) ∧ (∀ b, 0 ≤ b → b < 96 → ρ 5 b = n (295 + b) - 1) ∧ (∀ b, 0 ≤ b → b < 96 → ρ 6 b = n (391 + b) - 1) ∧ (∀ b, 0 ≤ b → b < 96 → ρ 7 b = n (487 + b) - 1) ∧ (∀ b, 0 ≤ b → b < 96 → ρ 8 b = n (583 + b) - 1) := h
theorem zRb.r {ρ : Nat → Int → Int} {n : zN} (h : zRb ρ n) :
  zRk ρ n ∧ (∀ b, 0 ≤ b → b < 96 → ρ 9 b = if b < n 4 then nPl n b else -1) := h
theorem zRv.r {ρ : Nat → Int → Int} {n : zN} (h : zRv ρ n) :
  ρ 10 0 = n 6 ∧ (∀ v, 0 ≤ v → v < n 6 → ρ 11 v = nV n v 0) ∧ (∀ v, 0 ≤ v → v < n 6 → ρ 12 v = nV n v 1) ∧ (∀ v, 0 ≤ v → v < n 6 → ρ 13 v = nV n v 2) ∧ (∀ v, 0 ≤ v → v < n 6 → ρ 14 v = nV n v 3) ∧ (∀ v, 0 ≤ v → v < n 6 → ρ 15 v = nV n v 4) := h
theorem zRs.r {ρ : Nat → Int → Int} {n : zN} (h : zRs ρ n) :
  ρ 16 0 = n 3 ∧ (∀ s, 0 ≤ s → s < n 3 → ρ 17 s = nS n s 0) ∧ (∀ s, 0 ≤ s → s < n 3 → ρ 18 s = nS n s 1) ∧ (∀ s, 0 ≤ s → s < n 3 → ρ 19 s = nS n s 3 - 1) ∧ (∀ s, 0 ≤ s → s < n 3 → ρ 20 s = nS n s 2) ∧ (∀ s k, 0 ≤ s → s < n 3 → 0 ≤ k → k < nS n s 2 → ρ 21 (s * 10 + k) = nS n s (5 + 2 * k)) ∧ (∀ s f, 0 ≤ s → s < n 3 → 0 ≤ f → f < 10 → ρ 22 (s * 10 + f) = nX n s f) ∧ (∀ s, 0 ≤ s → s < n 3 → ρ 24 s = nL n s) := h
theorem zRf.r {ρ : Nat → Int → Int} {n : zN} (h : zRf ρ n) :
  ρ 0 3 = n 2 ∧ ρ 0 5 = n 5 := h
theorem nWn.r {n : zN} (h : nWn n) :
  (8 ≤ n 0 ∧ n 0 ≤ 96) ∧ (0 ≤ n 1 ∧ n 1 ≤ 16 ∧ 2 * n 1 ≤ n 0) ∧ (0 ≤ n 2 ∧ n 2 ≤ 10) ∧ (0 ≤ n 3 ∧ n 3 ≤ 12) ∧ (0 ≤ n 4 ∧ n 4 ≤ n 0 - n 1) ∧ (n 5 = 0 ∨ n 5 = 1) ∧ (0 ≤ n 6 ∧ n 6 ≤ 96) := h
theorem nWb.r {n : zN} (h : nWb n) :
  ∀ b, 0 ≤ b → b < 96 → (0 ≤ n (7 + b) ∧ n (7 + b) ≤ 3) ∧ (n (103 + b) = 0 ∨ n (103 + b) = 1) ∧ (n (199 + b) = 0 ∨ n (199 + b) = 1) ∧ (0 ≤ n (295 + b) ∧ n (295 + b) ≤ n 3) ∧ (0 ≤ n (391 + b) ∧ n (391 + b) ≤ n 6) ∧ (0 ≤ n (487 + b) ∧ n (487 + b) ≤ 8) ∧ (0 ≤ n (583 + b) ∧ n (583 + b) ≤ 96) ∧ (n (679 + b) = 0 ∨ (n 0 - n 1 < n (679 + b) ∧ n (679 + b) ≤ n 0 ∧ b < n 4)) ∧ (n (7 + b) = 1 → 1 ≤ n (391 + b)) ∧ (n (7 + b) ≠ 0 → 1 ≤ n (295 + b)) ∧ (n (7 + b) = 0 → n (295 + b) = 0 ∧ n (391 + b) = 0 ∧ n (487 + b) = 0 ∧ n (583 + b) = 0) ∧ (b < n 0 - n 1 → (n (7 + b) = 0 ↔ n 4 ≤ b)) ∧ (b < n 0 - n 1 → (n (7 + b) = 3 ↔ n (679 + b) ≠ 0)) ∧ (n 0 ≤ b → n (7 + b) = 0) := h
theorem nWv.r {n : zN} (h : nWv n) :
  n 6 ≤ n 4 ∧ ∀ v, 0 ≤ v → v < n 6 → (0 ≤ nV n v 0 ∧ nV n v 0 < n 2) ∧ 0 ≤ nV n v 1 ∧ (1 ≤ nV n v 2 ∧ nV n v 2 ≤ 8) ∧ nV n v 1 + nV n v 2 ≤ n 4 ∧ (0 ≤ nV n v 3 ∧ nV n v 3 ≤ 999) ∧ (0 ≤ nV n v 4 ∧ nV n v 4 < n 3) ∧ (∀ s k, 0 ≤ s → s < n 3 → 0 ≤ k → k < nS n s 2 → nS n s (6 + 2 * k) = v → nV n v 0 = nS n s (5 + 2 * k)) := h
theorem nWs.r {n : zN} (h : nWs n) :
  ∀ s, 0 ≤ s → s < n 3 → (0 ≤ nS n s 0 ∧ nS n s 0 ≤ 3) ∧ (nS n s 0 = 0 → s = n 3 - 1) ∧ (0 ≤ nS n s 1 ∧ nS n s 1 ≤ 96) ∧ (0 ≤ nS n s 2 ∧ nS n s 2 ≤ zcn (fun f => decide (nEn n s f ≠ -1)) 0 (n 2).toNat) ∧ (0 ≤ nS n s 3 ∧ (0 < nS n s 3 ↔ nS n s 0 = 1) ∧ (0 < nS n s 3 → nS n s 3 - 1 + nDl (nS n s 2) ≤ n 4)) ∧ (nS n s 4 = if 0 < nS n s 3 then zls (fun t => decide (nS n t 0 = 1)) s.toNat + 1 else 0) ∧ (∀ k, 0 ≤ k → k < nS n s 2 → (0 ≤ nS n s (5 + 2 * k) ∧ nS n s (5 + 2 * k) < n 2) ∧ (-1 ≤ nS n s (6 + 2 * k) ∧ nS n s (6 + 2 * k) < n 6)) := h
theorem zb_I0 (b : Bool) : (zI (zb b) = zI 0) = (b = false) := by cases b <;> simp [zb, zI]
theorem zb_I1 (b : Bool) : (zI (zb b) = zI 1) = (b = true) := by cases b <;> simp [zb, zI]
theorem zb_01I {x : Int} (h : x = 0 ∨ x = 1) : zI x = zI (zb (decide (x = 1))) := by rcases h with rfl | rfl <;> rfl
theorem zb_zif (c : Prop) [Decidable c] (a b : Int) : (if c then some (zI a) else some (zI b)) = some (zI (if c then a else b)) := by split <;> rfl
theorem zz_b : (∀ b : Bool, (zI (zb b) = zI 0) = (b = false)) ∧ (∀ b : Bool, (zI (zb b) = zI 1) = (b = true)) ∧ (∀ b : Bool, g_z (zI (zb b)) = some (zI (zb b))) ∧ (g_z (zI 0) = some (zI 0)) ∧ (g_z (zI 1) = some (zI 1)) ∧ (∀ (G : gH) (b : Bool), f_X9_oneIf G (zI (zb b)) = some (zI (zb b))) ∧ (∀ G : gH, f_X9_oneIf G (zI 0) = some (zI 0)) ∧ (∀ G : gH, f_X9_oneIf G (zI 1) = some (zI 1)) := ⟨zb_I0, zb_I1, g_zb, rfl, rfl, fun G b => by cases b <;> rfl, fun G => rfl, fun G => rfl⟩
theorem zb_some (b : Bool) : (if b = true then some (zI 1) else some (zI 0)) = some (zI (zb b)) := by cases b <;> rfl
theorem zb_somf (b : Bool) : (if b = false then some (zI 0) else some (zI 1)) = some (zI (zb b)) := by cases b <;> rfl
theorem zb_somp (c : Prop) [Decidable c] : (if c then some (zI 1) else some (zI 0)) = some (zI (zb (decide c))) := by by_cases h : c <;> simp [h, zb]
theorem zb_somn (c : Prop) [Decidable c] : (if c then some (zI 0) else some (zI 1)) = some (zI (zb (decide (¬ c)))) := by by_cases h : c <;> simp [h, zb]
theorem zb_pos {b : Bool} (h : b = true) : zb b = 1 := by rw [h]; rfl
theorem zb_neg {b : Bool} (h : b = false) : zb b = 0 := by rw [h]; rfl
theorem zb_dpos {p : Prop} [Decidable p] (h : p) : zb (decide p) = 1 := by simp [h, zb]
theorem zb_dneg {p : Prop} [Decidable p] (h : ¬ p) : zb (decide p) = 0 := by simp [h, zb]
theorem zfuel {fuel m : Nat} (h : m < fuel) : ∃ f, fuel = f + 1 ∧ m ≤ f := ⟨fuel - 1, by omega, by omega⟩
section zCls
variable {E : zE} {σ : zW} {d : Nat} {n : zN}
theorem e0_count (hW : zWF E) (hu : zU E 0 d = true) (hR : zRk (σ 0 d) n) (hN : nWn n) (hB : nWb n) : g_i (zH E σ) (zL E 0 d 1) 0 0 = some (zI (n 0)) := by
  simp (disch := first | assumption | omega) only [zz_bl hW hu, hR.r, zz_some, zz_lit, zz_num, zI_lt, zI_le, zI_eq, zI_nat, zz_b, if_pos, if_neg, if_true, if_false]
theorem e0_main (hW : zWF E) (hu : zU E 0 d = true) (hR : zRk (σ 0 d) n) (hN : nWn n) (hB : nWb n) : g_i (zH E σ) (zL E 0 d 1) 0 1 = some (zI (n 0 - n 1)) := by
  simp (disch := first | assumption | omega) only [zz_bl hW hu, hR.r, zz_some, zz_lit, zz_num, zI_lt, zI_le, zI_eq, zI_nat, zz_b, if_pos, if_neg, if_true, if_false]
theorem e0_next (hW : zWF E) (hu : zU E 0 d = true) (hR : zRk (σ 0 d) n) (hN : nWn n) (hB : nWb n) : g_i (zH E σ) (zL E 0 d 1) 0 2 = some (zI (n 4)) := by
  simp (disch := first | assumption | omega) only [zz_bl hW hu, hR.r, zz_some, zz_lit, zz_num, zI_lt, zI_le, zI_eq, zI_nat, zz_b, if_pos, if_neg, if_true, if_false]
theorem e7_count (hW : zWF E) (hu : zU E 0 d = true) (hR : zRv (σ 0 d) n) (hN : nWn n) : g_i (zH E σ) (zL E 0 d 10) 7 0 = some (zI (n 6)) := by
  simp (disch := first | assumption | omega) only [zz_vs hW hu, hR.r, zz_some, zz_lit, zz_num, zI_lt, zI_le, zI_eq, zI_nat, zz_b, if_pos, if_neg, if_true, if_false]
theorem e5_count (hW : zWF E) (hu : zU E 0 d = true) (hR : zRs (σ 0 d) n) (hN : nWn n) : g_i (zH E σ) (zL E 0 d 16) 5 0 = some (zI (n 3)) := by
  simp (disch := first | assumption | omega) only [zz_se hW hu, hR.r, zz_some, zz_lit, zz_num, zI_lt, zI_le, zI_eq, zI_nat, zz_b, if_pos, if_neg, if_true, if_false]
theorem e0_kindOf (hW : zWF E) (hu : zU E 0 d = true) (hR : zRk (σ 0 d) n) (hN : nWn n) (hB : nWb n) {b : Int} (h0 : 0 ≤ b) (h1 : b < 96) : f_X0_kindOf (zH E σ) (zL E 0 d 1) (zI b) = some (zI (n (7 + b))) := by
  simp (disch := first | assumption | omega) only [f_X0_kindOf, zz_blo hW hu, zz_dr hW hu, hR.r, zz_some, zz_lit, zz_num, zI_lt, zI_le, zI_eq, zI_nat, zz_b, if_pos, if_neg, if_true, if_false]
theorem e0_writerOf (hW : zWF E) (hu : zU E 0 d = true) (hR : zRk (σ 0 d) n) (hN : nWn n) (hB : nWb n) {b : Int} (h0 : 0 ≤ b) (h1 : b < 96) : f_X0_writerOf (zH E σ) (zL E 0 d 1) (zI b) = some (zI (n (295 + b) - 1)) := by
  simp (disch := first | assumption | omega) only [f_X0_writerOf, zz_blo hW hu, zz_dr hW hu, hR.r, zz_some, zz_lit, zz_num, zI_lt, zI_le, zI_eq, zI_nat, zz_b, if_pos, if_neg, if_true, if_false]
theorem e0_dataVersionOf (hW : zWF E) (hu : zU E 0 d = true) (hR : zRk (σ 0 d) n) (hN : nWn n) (hB : nWb n) {b : Int} (h0 : 0 ≤ b) (h1 : b < 96) : f_X0_dataVersionOf (zH E σ) (zL E 0 d 1) (zI b) = some (zI (n (391 + b) - 1)) := by
  simp (disch := first | assumption | omega) only [f_X0_dataVersionOf, zz_blo hW hu, zz_dr hW hu, hR.r, zz_some, zz_lit, zz_num, zI_lt, zI_le, zI_eq, zI_nat, zz_b, if_pos, if_neg, if_true, if_false]
theorem e0_placeOf (hW : zWF E) (hu : zU E 0 d = true) (hR : zRb (σ 0 d) n) (hN : nWn n) (hB : nWb n) {b : Int} (h0 : -1 ≤ b) (h1 : b < 96) : f_X0_placeOf (zH E σ) (zL E 0 d 1) (zI b) = some (zI (if 0 ≤ b ∧ b < n 4 then nPl n b else -1)) := by
  simp (disch := first | assumption | omega) only [f_X0_placeOf, zz_blo hW hu, zz_dr hW hu, zz_some, zz_lit, zz_num, zI_lt, zI_le, zI_eq, zI_nat, zz_b, if_pos, if_neg, if_true, if_false]
  by_cases h : 0 ≤ b
  · simp (disch := first | assumption | omega) only [hR.2, zz_some, zz_lit, zz_num, zI_lt, zI_le, zI_eq, zI_nat, zz_b, if_pos, if_neg, if_true, if_false]
    by_cases h2 : b < n 4
    · rw [if_pos h2, if_pos ⟨h, h2⟩]
    · rw [if_neg h2, if_neg (fun z => h2 z.2)]
  · rw [if_neg (fun z => h z.1), if_neg (fun z => h z.1)]
theorem e0_isBad (hW : zWF E) (hu : zU E 0 d = true) (hR : zRk (σ 0 d) n) (hN : nWn n) (hB : nWb n) {b : Int} (h0 : -1 ≤ b) (h1 : b < 96) : f_X0_isBad (zH E σ) (zL E 0 d 1) (zI b) = some (zI (zb (decide (0 ≤ b) && decide (n (103 + b) = 1)))) := by
  have hr : ∀ b, 0 ≤ b → b < 96 → σ 0 d 3 b = n (103 + b) := hR.2.2.2.2.1
  simp (disch := first | assumption | omega) only [f_X0_isBad, zz_blo hW hu, zz_some, zz_lit, zz_num, zI_lt, zI_le, zI_eq, zI_nat, zz_b, if_pos, if_neg, if_true, if_false]
  rw [zX_isSet (n := 96) hW hu rfl (by decide) (by omega) (by omega) (fun h2 h3 => by rw [hr b h2 h1]; exact (hB b h2 h1).2.1)]
  by_cases h : 0 ≤ b
  · rw [if_pos ⟨h, h1⟩, hr b h h1]
    rcases (hB b h h1).2.1 with z | z <;> simp [z, h, zb, zz_some, g_z0, g_z1]
  · rw [if_neg (fun z => h z.1)]
    simp [h, zb, zz_some, g_z0]
theorem e0_isBad' (hW : zWF E) (hu : zU E 0 d = true) (hR : zRk (σ 0 d) n) (hN : nWn n) (hB : nWb n) {b : Int} (h0 : 0 ≤ b) (h1 : b < 96) : f_X0_isBad (zH E σ) (zL E 0 d 1) (zI b) = some (zI (n (103 + b))) := by
  rw [e0_isBad hW hu hR hN hB (by omega) h1]
  rcases (hB b h0 h1).2.1 with z | z <;> simp [z, h0, zb]
theorem e0_isUnreadable (hW : zWF E) (hu : zU E 0 d = true) (hR : zRk (σ 0 d) n) (hN : nWn n) (hB : nWb n) {b : Int} (h0 : -1 ≤ b) (h1 : b < 96) : f_X0_isUnreadable (zH E σ) (zL E 0 d 1) (zI b) = some (zI (zb (decide (0 ≤ b) && decide (n (199 + b) = 1)))) := by
  have hr : ∀ b, 0 ≤ b → b < 96 → σ 0 d 4 b = n (199 + b) := hR.2.2.2.2.2.1
  simp (disch := first | assumption | omega) only [f_X0_isUnreadable, zz_blo hW hu, zz_some, zz_lit, zz_num, zI_lt, zI_le, zI_eq, zI_nat, zz_b, if_pos, if_neg, if_true, if_false]
  rw [zX_isSet (n := 96) hW hu rfl (by decide) (by omega) (by omega) (fun h2 h3 => by rw [hr b h2 h1]; exact (hB b h2 h1).2.2.1)]
  by_cases h : 0 ≤ b
  · rw [if_pos ⟨h, h1⟩, hr b h h1]
    rcases (hB b h h1).2.2.1 with z | z <;> simp [z, h, zb, zz_some, g_z0, g_z1]
  · rw [if_neg (fun z => h z.1)]
    simp [h, zb, zz_some, g_z0]
theorem e0_isUnreadable' (hW : zWF E) (hu : zU E 0 d = true) (hR : zRk (σ 0 d) n) (hN : nWn n) (hB : nWb n) {b : Int} (h0 : 0 ≤ b) (h1 : b < 96) : f_X0_isUnreadable (zH E σ) (zL E 0 d 1) (zI b) = some (zI (n (199 + b))) := by
  rw [e0_isUnreadable hW hu hR hN hB (by omega) h1]
  rcases (hB b h0 h1).2.2.1 with z | z <;> simp [z, h0, zb]
theorem e0_property (hW : zWF E) (hu : zU E 0 d = true) (hR : zRk (σ 0 d) n) (hN : nWn n) (hB : nWb n) {b w : Int} (h0 : 0 ≤ b) (h1 : b < 96) (h2 : 0 ≤ w) (h3 : w ≤ 6) : f_X0_property (zH E σ) (zL E 0 d 1) (zI b) (zI w) = some (zI (if w = 0 then n (7 + b) else if w = 1 then n (103 + b) else if w = 2 then n (199 + b) else if w = 3 then n (295 + b) - 1 else if w = 4 then n (391 + b) - 1 else if w = 5 then n (487 + b) - 1 else n (583 + b) - 1)) := by
  have hb := hB b h0 h1
  have h4 : ∀ (G : gH) (x : Int), x = 0 ∨ x = 1 → f_X9_oneIf G (zI x) = some (zI x) := fun G x h => by rcases h with rfl | rfl <;> rfl
  rcases (by omega : w = 0 ∨ w = 1 ∨ w = 2 ∨ w = 3 ∨ w = 4 ∨ w = 5 ∨ w = 6) with rfl | rfl | rfl | rfl | rfl | rfl | rfl
  all_goals simp (disch := first | assumption | omega) only [f_X0_property, zz_blo hW hu, zz_dr hW hu, e0_kindOf hW hu hR hN hB, e0_isBad' hW hu hR hN hB, e0_isUnreadable' hW hu hR hN hB, e0_writerOf hW hu hR hN hB, e0_dataVersionOf hW hu hR hN hB, hR.r, zz_some, zz_lit, zz_num, zI_lt, zI_le, zI_eq, zI_nat, zz_b, if_pos, if_neg, if_true, if_false]
  · rw [h4 _ _ hb.2.1]; rfl
  · rw [h4 _ _ hb.2.2.1]; rfl
theorem e0_emptySpares_L (hW : zWF E) (hu : zU E 0 d = true) (hR : zRk (σ 0 d) n) (hN : nWn n) (hB : nWb n) : ∀ (m fuel : Nat) (acc b : Int), 0 ≤ b → b + m = n 0 → m < fuel → f_X0_emptySpares_L7 (zH E σ) fuel (zL E 0 d 1) (zI acc) (zI b) = some (zI (acc + zcn (fun b => decide (n (7 + b) = 0)) b m)) := by
  have hN' := hN.r
  intro m
  induction m with
  | zero =>
    intro fuel acc b h0 h1 h2
    obtain ⟨f, rfl, h3⟩ := zfuel h2
    simp (disch := first | assumption | omega) only [f_X0_emptySpares_L7, e0_count hW hu hR hN hB, zcn, zz_some, zz_lit, zz_num, zI_lt, zI_le, zI_eq, zI_nat, zz_b, if_pos, if_neg, if_true, if_false]
    simp
  | succ m ih =>
    intro fuel acc b h0 h1 h2
    obtain ⟨f, rfl, h3⟩ := zfuel h2
    have hb := hB b h0 (by omega)
    simp (disch := first | assumption | omega) only [f_X0_emptySpares_L7, e0_count hW hu hR hN hB, e0_kindOf hW hu hR hN hB, zz_blo hW hu, zcn, ih, zz_some, zz_lit, zz_num, zI_lt, zI_le, zI_eq, zI_nat, zz_b, if_pos, if_neg, if_true, if_false]
    by_cases h : n (7 + b) = 0
    · rw [if_pos h, zb_dpos h]; congr 2; omega
    · rw [if_neg h, zb_dneg h]; congr 2; omega
theorem e0_emptySpares (hW : zWF E) (hu : zU E 0 d = true) (hR : zRk (σ 0 d) n) (hN : nWn n) (hB : nWb n) : f_X0_emptySpares (zH E σ) (zL E 0 d 1) = some (zI (zcn (fun b => decide (n (7 + b) = 0)) (n 0 - n 1) (n 1).toNat)) := by
  have hN' := hN.r
  unfold f_X0_emptySpares
  simp (disch := first | assumption | omega) only [e0_main hW hu hR hN hB, zz_some, zz_lit, zz_num, zI_lt, zI_le, zI_eq, zI_nat, zz_b, if_pos, if_neg, if_true, if_false]
  rw [e0_emptySpares_L hW hu hR hN hB (n 1).toNat _ _ _ (by omega) (by omega) (by unfold g_N; omega)]
  congr 2; omega
theorem e0_badOnes_L (hW : zWF E) (hu : zU E 0 d = true) (hR : zRk (σ 0 d) n) (hN : nWn n) (hB : nWb n) : ∀ (m fuel : Nat) (acc b : Int), 0 ≤ b → b + m = n 0 → m < fuel → f_X0_badOnes_L4 (zH E σ) fuel (zL E 0 d 1) (zI acc) (zI b) = some (zI (acc + zcn (fun b => decide (n (103 + b) = 1)) b m)) := by
  have hN' := hN.r
  intro m
  induction m with
  | zero =>
    intro fuel acc b h0 h1 h2
    obtain ⟨f, rfl, h3⟩ := zfuel h2
    simp (disch := first | assumption | omega) only [f_X0_badOnes_L4, e0_count hW hu hR hN hB, zcn, zz_some, zz_lit, zz_num, zI_lt, zI_le, zI_eq, zI_nat, zz_b, if_pos, if_neg, if_true, if_false]
    simp
  | succ m ih =>
    intro fuel acc b h0 h1 h2
    obtain ⟨f, rfl, h3⟩ := zfuel h2
    simp (disch := first | assumption | omega) only [f_X0_badOnes_L4, e0_count hW hu hR hN hB, e0_isBad hW hu hR hN hB, zz_blo hW hu, zcn, ih, zz_some, zz_lit, zz_num, zI_lt, zI_le, zI_eq, zI_nat, zz_b, if_pos, if_neg, if_true, if_false]
    rw [decide_eq_true h0, Bool.true_and, Int.add_assoc]
theorem e0_badOnes (hW : zWF E) (hu : zU E 0 d = true) (hR : zRk (σ 0 d) n) (hN : nWn n) (hB : nWb n) : f_X0_badOnes (zH E σ) (zL E 0 d 1) = some (zI (zcn (fun b => decide (n (103 + b) = 1)) 0 (n 0).toNat)) := by
  have hN' := hN.r
  unfold f_X0_badOnes
  simp (disch := first | assumption | omega) only [zz_some, zz_lit, zz_num, zI_lt, zI_le, zI_eq, zI_nat, zz_b, if_pos, if_neg, if_true, if_false]
  rw [e0_badOnes_L hW hu hR hN hB (n 0).toNat _ _ _ (by omega) (by omega) (by unfold g_N; omega)]
  congr 2; omega
theorem e0_blocksOf_L (hW : zWF E) (hu : zU E 0 d = true) (hR : zRk (σ 0 d) n) (hN : nWn n) (hB : nWb n) {s hi : Int} (hs0 : 0 ≤ s) (hs1 : s < 100) (hhi : hi ≤ 96) : ∀ (m fuel : Nat) (acc b : Int), 0 ≤ b → b + m = hi → m < fuel → f_X0_blocksOf_L6 (zH E σ) fuel (zL E 0 d 1) (zI s) (zI hi) (zI acc) (zI b) = some (zI (acc + zcn (fun b => decide (n (295 + b) = s + 1)) b m)) := by
  have hN' := hN.r
  intro m
  induction m with
  | zero =>
    intro fuel acc b h0 h1 h2
    obtain ⟨f, rfl, h3⟩ := zfuel h2
    simp (disch := first | assumption | omega) only [f_X0_blocksOf_L6, zcn, zz_some, zz_lit, zz_num, zI_lt, zI_le, zI_eq, zI_nat, zz_b, if_pos, if_neg, if_true, if_false]
    simp
  | succ m ih =>
    intro fuel acc b h0 h1 h2
    obtain ⟨f, rfl, h3⟩ := zfuel h2
    have hb := hB b h0 (by omega)
    simp (disch := first | assumption | omega) only [f_X0_blocksOf_L6, e0_writerOf hW hu hR hN hB, zz_blo hW hu, zcn, ih, zz_some, zz_lit, zz_num, zI_lt, zI_le, zI_eq, zI_nat, zz_b, if_pos, if_neg, if_true, if_false]
    by_cases h : n (295 + b) = s + 1
    · rw [if_pos (by omega), zb_dpos h]; congr 2; omega
    · rw [if_neg (by omega), zb_dneg h]; congr 2; omega
theorem e0_mainBlocksOf (hW : zWF E) (hu : zU E 0 d = true) (hR : zRk (σ 0 d) n) (hN : nWn n) (hB : nWb n) {s : Int} (hs0 : 0 ≤ s) (hs1 : s < 100) : f_X0_mainBlocksOf (zH E σ) (zL E 0 d 1) (zI s) = some (zI (zcn (fun b => decide (n (295 + b) = s + 1)) 0 (n 0 - n 1).toNat)) := by
  have hN' := hN.r
  simp (disch := first | assumption | omega) only [f_X0_mainBlocksOf, f_X0_blocksOf, e0_main hW hu hR hN hB, zz_blo hW hu, zz_some, zz_lit, zz_num, zI_lt, zI_le, zI_eq, zI_nat, zz_b, if_pos, if_neg, if_true, if_false]
  rw [e0_blocksOf_L hW hu hR hN hB hs0 hs1 (by omega) (n 0 - n 1).toNat _ _ _ (by omega) (by omega) (by unfold g_N; omega)]
  rw [zz_some]; congr 2; omega
theorem e0_spareBlocksOf (hW : zWF E) (hu : zU E 0 d = true) (hR : zRk (σ 0 d) n) (hN : nWn n) (hB : nWb n) {s : Int} (hs0 : 0 ≤ s) (hs1 : s < 100) : f_X0_spareBlocksOf (zH E σ) (zL E 0 d 1) (zI s) = some (zI (zcn (fun b => decide (n (295 + b) = s + 1)) (n 0 - n 1) (n 1).toNat)) := by
  have hN' := hN.r
  simp (disch := first | assumption | omega) only [f_X0_spareBlocksOf, f_X0_blocksOf, e0_main hW hu hR hN hB, e0_count hW hu hR hN hB, zz_blo hW hu, zz_some, zz_lit, zz_num, zI_lt, zI_le, zI_eq, zI_nat, zz_b, if_pos, if_neg, if_true, if_false]
  rw [e0_blocksOf_L hW hu hR hN hB hs0 hs1 (by omega) (n 1).toNat _ _ _ (by omega) (by omega) (by unfold g_N; omega)]
  rw [zz_some]; congr 2; omega
theorem e0_hasRoomFor (hW : zWF E) (hu : zU E 0 d = true) (hR : zRk (σ 0 d) n) (hN : nWn n) (hB : nWb n) {x : Int} (h0 : 0 ≤ x) (h1 : x < 1000) : f_X0_hasRoomFor (zH E σ) (zL E 0 d 1) (zI x) = some (zI (zb (decide (n 4 + x ≤ n 0 - n 1)))) := by
  have hN' := hN.r
  simp (disch := first | assumption | omega) only [f_X0_hasRoomFor, e0_main hW hu hR hN hB, e0_next hW hu hR hN hB, zz_some, zz_lit, zz_num, zI_lt, zI_le, zI_eq, zI_nat, zz_b, if_pos, if_neg, if_true, if_false]
  rw [zb_somn]
  congr 4
  simp
theorem e0_canRead_L (hW : zWF E) (hu : zU E 0 d = true) (hR : zRb (σ 0 d) n) (hN : nWn n) (hB : nWb n) {x y : Int} (hy : x + y ≤ n 4) (hx : 0 ≤ x) (hy0 : 0 ≤ y) : ∀ (m fuel : Nat) (b : Int), 0 ≤ b → b + m = x + y → m < fuel → f_X0_canRead_L2 (zH E σ) fuel (zL E 0 d 1) (zI x) (zI y) (zI b) = some (zI (zb (zal (fun b => decide (n (199 + nPl n b) = 0)) b m))) := by
  have hN' := hN.r
  intro m
  induction m with
  | zero =>
    intro fuel b h0 h1 h2
    obtain ⟨f, rfl, h3⟩ := zfuel h2
    simp (disch := first | assumption | omega) only [f_X0_canRead_L2, f_X0_canRead_J48, zal, zz_some, zz_lit, zz_num, zI_lt, zI_le, zI_eq, zI_nat, zz_b, if_pos, if_neg, if_true, if_false]
    rfl
  | succ m ih =>
    intro fuel b h0 h1 h2
    obtain ⟨f, rfl, h3⟩ := zfuel h2
    have hb := hB b h0 (by omega)
    have hp : 0 ≤ nPl n b ∧ nPl n b < 96 := by
      unfold nPl
      split <;> omega
    obtain ⟨hp0, hp1⟩ := hp
    have hb2 := hB _ hp0 hp1
    have h9 : σ 0 d 9 b = nPl n b := by rw [hR.2 b h0 (by omega), if_pos (by omega)]
    have h4 : σ 0 d 4 (nPl n b) = n (199 + nPl n b) := hR.1.2.2.2.2.2.1 _ hp0 hp1
    have hat : f_X9_at (zH E σ) (zL E 0 d 9) (zI b) (zI (-1)) = some (zI (nPl n b)) := by
      rw [zX_at (n := 96) hW hu rfl (by decide) (by omega) (by omega), if_pos (by omega), h9]
    have his : f_X9_isSet (zH E σ) (zL E 0 d 4) (zI (nPl n b)) = some (zI (n (199 + nPl n b))) := by
      rw [zX_isSet (n := 96) hW hu rfl (by decide) (by omega) (by omega) (fun _ _ => by rw [h4]; exact hb2.2.2.1), if_pos (by omega), h4]
    simp (disch := first | assumption | omega) only [f_X0_canRead_L2, e0_main hW hu hR.1 hN hB, hat, his, zz_blo hW hu, zal, ih, zz_some, zz_lit, zz_num, zI_lt, zI_le, zI_eq, zI_nat, zz_b, if_pos, if_neg, if_true, if_false]
    by_cases h : n (199 + nPl n b) = 0
    · rw [if_pos h]; simp [h]
    · rw [if_neg h]; simp [h, zb]
theorem e0_canRead (hW : zWF E) (hu : zU E 0 d = true) (hR : zRb (σ 0 d) n) (hN : nWn n) (hB : nWb n) {x y : Int} (hy : x + y ≤ n 4) (hx : 0 ≤ x) (hy0 : 0 ≤ y) : f_X0_canRead (zH E σ) (zL E 0 d 1) (zI x) (zI y) = some (zI (zb (nRd n x y))) := by
  have hN' := hN.r
  unfold f_X0_canRead nRd
  rw [e0_canRead_L hW hu hR hN hB hy hx hy0 y.toNat _ _ hx (by omega) (by unfold g_N; omega)]
theorem e0_canRead' (hW : zWF E) (hu : zU E 0 d = true) (hR : zRb (σ 0 d) n) (hN : nWn n) (hB : nWb n) {y : Int} : f_X0_canRead (zH E σ) (zL E 0 d 1) (zI (-1)) (zI y) = some (zI 0) := by
  have h : ∀ f : Nat, f_X0_canRead_L2 (zH E σ) (f + 1) (zL E 0 d 1) (zI (-1)) (zI y) (zI (-1)) = some (zI 0) := by
    intro f
    simp (disch := first | assumption | omega) only [f_X0_canRead_L2, f_X0_canRead_J48, zz_some, zz_lit, zz_num, zI_lt, zI_le, zI_eq, zI_nat, zz_b, if_pos, if_neg, if_true, if_false]
  exact h 4095
end zCls

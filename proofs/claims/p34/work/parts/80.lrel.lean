/-! The law's own disc shows the state n: its world is of the kinds 5 (the disc), 6 (its sessions), 7 (its versions). -/
theorem zz_nul : (∀ (α : Type) (a : α) (b : Nat → α), g_nul none a b = a) ∧ (∀ (α : Type) (r : Nat) (a : α) (b : Nat → α), g_nul (some r) a b = b r) := ⟨fun _ _ _ => rfl, fun _ _ _ _ => rfl⟩
/-- the groups of the law's world that are in use -/
def yU (E : zE) (n : zN) : Prop := zU E 5 0 = true ∧ (∀ s : Nat, (s : Int) < n 3 → zU E 6 s = true) ∧ ∀ v : Nat, (v : Int) < n 6 → zU E 7 v = true
def yRn (ρ : Nat → Int → Int) (n : zN) : Prop := ρ 0 0 = n 0 ∧ ρ 0 1 = n 1 ∧ ρ 0 2 = n 2 ∧ ρ 0 3 = n 4 ∧ ρ 0 4 = n 3 ∧ ρ 0 5 = n 6 ∧ ρ 0 6 = n 5
def yRb (ρ : Nat → Int → Int) (n : zN) : Prop := (∀ b, 0 ≤ b → b < 96 → ρ 7 b = n (7 + b)) ∧ (∀ b, 0 ≤ b → b < 96 → ρ 8 b = n (295 + b) - 1) ∧ (∀ b, 0 ≤ b → b < 96 → ρ 9 b = n (487 + b) - 1) ∧ (∀ b, 0 ≤ b → b < 96 → ρ 10 b = n (583 + b) - 1) ∧ (∀ b, 0 ≤ b → b < 96 → ρ 11 b = n (679 + b) - 1) ∧ (∀ b, 0 ≤ b → b < 96 → ρ 12 b = n (103 + b)) ∧ (∀ b, 0 ≤ b → b < 96 → ρ 13 b = n (199 + b)) ∧ (∀ b, 0 ≤ b → b < 96 → ρ 14 b = n (391 + b))
def yRr (ρ : Nat → Int → Int) (n : zN) : Prop := (∀ v, 0 ≤ v → v < n 6 → ρ 15 v = v + 1) ∧ (∀ s, 0 ≤ s → s < n 3 → ρ 16 s = s + 1)
def yRs (κ : Nat → Int → Int) (n : zN) (s : Int) : Prop := κ 0 0 = nS n s 0 ∧ κ 0 1 = nS n s 1 ∧ κ 0 2 = nS n s 2 ∧ κ 0 3 = nS n s 3 - 1 ∧ κ 0 4 = nS n s 4 - 1 ∧ κ 0 5 = nL n s ∧ (∀ k, 0 ≤ k → k < nS n s 2 → κ 6 k = nS n s (5 + 2 * k)) ∧ (∀ k, 0 ≤ k → k < nL n s → κ 7 k = nPl n (nS n s 3 - 1 + k)) ∧ (∀ k, 0 ≤ k → k < nS n s 2 → κ 8 k = nS n s (6 + 2 * k) + 1)
def yRv (κ : Nat → Int → Int) (n : zN) (v : Int) : Prop := κ 0 0 = nV n v 0 ∧ κ 0 1 = v ∧ κ 0 2 = nV n v 1 ∧ κ 0 3 = nV n v 2 ∧ κ 0 4 = nV n v 3 ∧ κ 0 5 = nV n v 4 ∧ (∀ k, 0 ≤ k → k < nV n v 2 → κ 6 k = nPl n (nV n v 1 + k))
/-- an open or a closed session has an entry, and no more than the files; a disc of the law is small -/
def yW (n : zN) : Prop := (n 0 ≤ 47 ∧ n 1 ≤ 8 ∧ 1 ≤ n 2 ∧ n 2 ≤ 6) ∧ ∀ s, 0 ≤ s → s < n 3 → (nS n s 2 ≤ 6) ∧ (nS n s 0 = 0 ∨ nS n s 0 = 1 → 1 ≤ nS n s 2)
def yR (E : zE) (σ : zW) (n : zN) : Prop := yU E n ∧ yRn (σ 5 0) n ∧ yRb (σ 5 0) n ∧ yRr (σ 5 0) n ∧ (∀ s : Nat, (s : Int) < n 3 → yRs (σ 6 s) n s) ∧ (∀ v : Nat, (v : Int) < n 6 → yRv (σ 7 v) n v)
/-- a session, a version by its number -/
abbrev ySe (E : zE) (s : Int) : Nat := zL E 6 s.toNat 0
abbrev yVe (E : zE) (v : Int) : Nat := zL E 7 v.toNat 0
section yA
variable {E : zE} {σ : zW} {n : zN}
theorem yR.u (h : yR E σ n) : zU E 5 0 = true := h.1.1
theorem yR.us (h : yR E σ n) {s : Int} (h0 : 0 ≤ s) (h1 : s < n 3) : zU E 6 s.toNat = true := h.1.2.1 _ (by omega)
theorem yR.uv (h : yR E σ n) {v : Int} (h0 : 0 ≤ v) (h1 : v < n 6) : zU E 7 v.toNat = true := h.1.2.2 _ (by omega)
theorem yR.num (h : yR E σ n) : yRn (σ 5 0) n := h.2.1
theorem yR.blk (h : yR E σ n) : yRb (σ 5 0) n := h.2.2.1
theorem yR.rws (h : yR E σ n) : yRr (σ 5 0) n := h.2.2.2.1
theorem yR.ses (h : yR E σ n) {s : Int} (h0 : 0 ≤ s) (h1 : s < n 3) : yRs (σ 6 s.toNat) n s := by
  have := h.2.2.2.2.1 s.toNat (by omega)
  rwa [Int.toNat_of_nonneg h0] at this
theorem yR.ver (h : yR E σ n) {v : Int} (h0 : 0 ≤ v) (h1 : v < n 6) : yRv (σ 7 v.toNat) n v := by
  have := h.2.2.2.2.2 v.toNat (by omega)
  rwa [Int.toNat_of_nonneg h0] at this
/-- the disc's numbers, all at once -/
theorem yN (hW : zWF E) (h : yR E σ n) : g_i (zH E σ) (zL E 5 0 0) 10 0 = some (zI (n 0)) ∧ g_i (zH E σ) (zL E 5 0 0) 10 1 = some (zI (n 1)) ∧ g_i (zH E σ) (zL E 5 0 0) 10 2 = some (zI (n 2)) ∧ g_i (zH E σ) (zL E 5 0 0) 10 3 = some (zI (n 4)) ∧ g_i (zH E σ) (zL E 5 0 0) 10 4 = some (zI (n 3)) ∧ g_i (zH E σ) (zL E 5 0 0) 10 5 = some (zI (n 6)) ∧ g_i (zH E σ) (zL E 5 0 0) 10 6 = some (zI (n 5)) := by
  obtain ⟨e0, e1, e2, e3, e4, e5, e6⟩ := h.num
  refine ⟨?_, ?_, ?_, ?_, ?_, ?_, ?_⟩
  · rw [zg_ld0 hW h.u, e0]
  · rw [zg_ld1 hW h.u, e1]
  · rw [zg_ld2 hW h.u, e2]
  · rw [zg_ld3 hW h.u, e3]
  · rw [zg_ld4 hW h.u, e4]
  · rw [zg_ld5 hW h.u, e5]
  · rw [zg_ld6 hW h.u, e6]
/-- its rows -/
theorem yB (hW : zWF E) (h : yR E σ n) : (∀ b, 0 ≤ b → b < 96 → g_ald 0 (zH E σ) (zL E 5 0 7) (zI b) = some (zI (n (7 + b)))) ∧ (∀ b, 0 ≤ b → b < 96 → g_ald 0 (zH E σ) (zL E 5 0 8) (zI b) = some (zI (n (295 + b) - 1))) ∧ (∀ b, 0 ≤ b → b < 96 → g_ald 0 (zH E σ) (zL E 5 0 9) (zI b) = some (zI (n (487 + b) - 1))) ∧ (∀ b, 0 ≤ b → b < 96 → g_ald 0 (zH E σ) (zL E 5 0 10) (zI b) = some (zI (n (583 + b) - 1))) ∧ (∀ b, 0 ≤ b → b < 96 → g_ald 0 (zH E σ) (zL E 5 0 11) (zI b) = some (zI (n (679 + b) - 1))) ∧ (∀ b, 0 ≤ b → b < 96 → g_ald 1 (zH E σ) (zL E 5 0 12) (zI b) = some (zI (n (103 + b)))) ∧ (∀ b, 0 ≤ b → b < 96 → g_ald 1 (zH E σ) (zL E 5 0 13) (zI b) = some (zI (n (199 + b)))) ∧ (∀ b, 0 ≤ b → b < 96 → g_rald 6 (zH E σ) (zL E 5 0 14) (zI b) = some (if n (391 + b) = 0 then none else some (yVe E (n (391 + b) - 1)))) := by
  obtain ⟨e0, e1, e2, e3, e4, e5, e6, e7⟩ := h.blk
  have z := zz_ea (σ := σ) hW h.u
  refine ⟨?_, ?_, ?_, ?_, ?_, ?_, ?_, ?_⟩ <;> intro b h0 h1
  · rw [← e0 b h0 h1]; simp (disch := omega) only [z]
  · rw [← e1 b h0 h1]; simp (disch := omega) only [z]
  · rw [← e2 b h0 h1]; simp (disch := omega) only [z]
  · rw [← e3 b h0 h1]; simp (disch := omega) only [z]
  · rw [← e4 b h0 h1]; simp (disch := omega) only [z]
  · rw [← e5 b h0 h1]; simp (disch := omega) only [z]
  · rw [← e6 b h0 h1]; simp (disch := omega) only [z]
  · rw [← e7 b h0 h1]; simp (disch := omega) only [z]
theorem yAll (hW : zWF E) (h : yR E σ n) (hN : nWn n) : (∀ v, 0 ≤ v → v < n 6 → g_rald 6 (zH E σ) (zL E 5 0 15) (zI v) = some (some (yVe E v))) ∧ (∀ s, 0 ≤ s → s < n 3 → g_rald 5 (zH E σ) (zL E 5 0 16) (zI s) = some (some (ySe E s))) := by
  obtain ⟨e0, e1⟩ := h.rws
  have z := zz_ea (σ := σ) hW h.u
  have hN' := hN.r
  refine ⟨fun v h0 h1 => ?_, fun s h0 h1 => ?_⟩
  · have : g_rald 6 (zH E σ) (zL E 5 0 15) (zI v) = some (if σ 5 0 15 v = 0 then none else some (zL E 7 (σ 5 0 15 v - 1).toNat 0)) := by simp (disch := omega) only [z]
    rw [this, e0 v h0 h1, if_neg (by omega), show v + 1 - 1 = v by omega]
  · have : g_rald 5 (zH E σ) (zL E 5 0 16) (zI s) = some (if σ 5 0 16 s = 0 then none else some (zL E 6 (σ 5 0 16 s - 1).toNat 0)) := by simp (disch := omega) only [z]
    rw [this, e1 s h0 h1, if_neg (by omega), show s + 1 - 1 = s by omega]
/-- a session's numbers and rows -/
theorem yS (hW : zWF E) (h : yR E σ n) (hn : nW n) {s : Int} (h0 : 0 ≤ s) (h1 : s < n 3) : (g_i (zH E σ) (ySe E s) 12 0 = some (zI (nS n s 0)) ∧ g_i (zH E σ) (ySe E s) 12 1 = some (zI (nS n s 1)) ∧ g_i (zH E σ) (ySe E s) 12 2 = some (zI (nS n s 2)) ∧ g_i (zH E σ) (ySe E s) 12 3 = some (zI (nS n s 3 - 1)) ∧ g_i (zH E σ) (ySe E s) 12 4 = some (zI (nS n s 4 - 1)) ∧ g_i (zH E σ) (ySe E s) 12 5 = some (zI (nL n s))) ∧ (g_r (zH E σ) (ySe E s) 12 6 = some (zL E 6 s.toNat 6) ∧ g_r (zH E σ) (ySe E s) 12 7 = some (zL E 6 s.toNat 7) ∧ g_r (zH E σ) (ySe E s) 12 8 = some (zL E 6 s.toNat 8) ∧ g_ob (zH E σ) (ySe E s) 12 = some ()) := by
  obtain ⟨e0, e1, e2, e3, e4, e5, -⟩ := h.ses h0 h1
  have u := h.us h0 h1
  have z := zz_lso (σ := σ) hW u
  refine ⟨⟨?_, ?_, ?_, ?_, ?_, ?_⟩, z.1, z.2.1, z.2.2.1, z.2.2.2⟩
  · rw [zg_ls0 hW u, e0]
  · rw [zg_ls1 hW u, e1]
  · rw [zg_ls2 hW u, e2]
  · rw [zg_ls3 hW u, e3]
  · rw [zg_ls4 hW u, e4]
  · rw [zg_ls5 hW u, e5]
theorem ySr (hW : zWF E) (h : yR E σ n) (hn : nW n) {s : Int} (h0 : 0 ≤ s) (h1 : s < n 3) : (∀ k, 0 ≤ k → k < nS n s 2 → k < 10 → g_ald 0 (zH E σ) (zL E 6 s.toNat 6) (zI k) = some (zI (nS n s (5 + 2 * k)))) ∧ (∀ k, 0 ≤ k → k < nL n s → k < 3 → g_ald 0 (zH E σ) (zL E 6 s.toNat 7) (zI k) = some (zI (nPl n (nS n s 3 - 1 + k)))) ∧ (∀ k, 0 ≤ k → k < nS n s 2 → k < 10 → g_rald 6 (zH E σ) (zL E 6 s.toNat 8) (zI k) = some (if nS n s (6 + 2 * k) = -1 then none else some (yVe E (nS n s (6 + 2 * k))))) := by
  obtain ⟨-, -, -, -, -, -, e6, e7, e8⟩ := h.ses h0 h1
  have u := h.us h0 h1
  have z := zz_ga (σ := σ) hW u
  refine ⟨fun k k0 k1 k2 => ?_, fun k k0 k1 k2 => ?_, fun k k0 k1 k2 => ?_⟩
  · rw [← e6 k k0 k1]; simp (disch := omega) only [z]
  · rw [← e7 k k0 k1]; simp (disch := omega) only [z]
  · have : g_rald 6 (zH E σ) (zL E 6 s.toNat 8) (zI k) = some (if σ 6 s.toNat 8 k = 0 then none else some (zL E 7 (σ 6 s.toNat 8 k - 1).toNat 0)) := by simp (disch := omega) only [z]
    rw [this, e8 k k0 k1]
    by_cases hv : nS n s (6 + 2 * k) = -1
    · rw [if_pos (by omega), if_pos hv]
    · rw [if_neg (by omega), if_neg hv, show nS n s (6 + 2 * k) + 1 - 1 = nS n s (6 + 2 * k) by omega]
/-- a version's -/
theorem yV (hW : zWF E) (h : yR E σ n) (hn : nW n) {v : Int} (h0 : 0 ≤ v) (h1 : v < n 6) : (g_i (zH E σ) (yVe E v) 13 0 = some (zI (nV n v 0)) ∧ g_i (zH E σ) (yVe E v) 13 1 = some (zI v) ∧ g_i (zH E σ) (yVe E v) 13 2 = some (zI (nV n v 1)) ∧ g_i (zH E σ) (yVe E v) 13 3 = some (zI (nV n v 2)) ∧ g_i (zH E σ) (yVe E v) 13 4 = some (zI (nV n v 3)) ∧ g_i (zH E σ) (yVe E v) 13 5 = some (zI (nV n v 4))) ∧ (g_r (zH E σ) (yVe E v) 13 6 = some (zL E 7 v.toNat 6) ∧ g_ob (zH E σ) (yVe E v) 13 = some ()) := by
  obtain ⟨e0, e1, e2, e3, e4, e5, -⟩ := h.ver h0 h1
  have u := h.uv h0 h1
  have z := zz_lvo (σ := σ) hW u
  refine ⟨⟨?_, ?_, ?_, ?_, ?_, ?_⟩, z⟩
  · rw [zg_lv0 hW u, e0]
  · rw [zg_lv1 hW u, e1]
  · rw [zg_lv2 hW u, e2]
  · rw [zg_lv3 hW u, e3]
  · rw [zg_lv4 hW u, e4]
  · rw [zg_lv5 hW u, e5]
theorem yVr (hW : zWF E) (h : yR E σ n) (hn : nW n) {v : Int} (h0 : 0 ≤ v) (h1 : v < n 6) : ∀ k, 0 ≤ k → k < nV n v 2 → k < 8 → g_ald 0 (zH E σ) (zL E 7 v.toNat 6) (zI k) = some (zI (nPl n (nV n v 1 + k))) := by
  obtain ⟨-, -, -, -, -, -, e6⟩ := h.ver h0 h1
  have z := zz_ha (σ := σ) hW (h.uv h0 h1)
  intro k k0 k1 k2
  rw [← e6 k k0 k1]; simp (disch := omega) only [z]
end yA

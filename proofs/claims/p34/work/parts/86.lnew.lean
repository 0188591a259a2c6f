/-! New sessions and versions of the law's disc: a longer world. -/
section yH
variable {E E' : zE} {d c : Nat} {r : Int → Int}
/-- one group more, of the kind k and the number d -/
def yG1 (k0 d0 : Nat) : Nat → Nat → Bool := fun k d => k == k0 && d == d0
theorem yG1_iff {k0 d0 k d : Nat} : yG1 k0 d0 k d = true ↔ k = k0 ∧ d = d0 := by simp [yG1]
theorem zgq {kk n : Nat} (t : Nat) (ht : (t = 5 ∧ kk = 6) ∨ (t = 6 ∧ kk = 7)) (h : ∀ j : Nat, r j = 0 ∨ zL E' kk (r j - 1).toNat 0 = zL E kk (r j - 1).toNat 0) : zg E' t n r = zg E t n r := by
  rcases ht with ⟨rfl, rfl⟩ | ⟨rfl, rfl⟩
  · show (Sum.inr (Sum.inr (Sum.inl (5, n, fun j : Nat => if r j = 0 then none else some (zL E' 6 (r j - 1).toNat 0)))) : gE) = Sum.inr (Sum.inr (Sum.inl (5, n, fun j : Nat => if r j = 0 then none else some (zL E 6 (r j - 1).toNat 0))))
    have : (fun j : Nat => if r j = 0 then none else some (zL E' 6 (r j - 1).toNat 0)) = (fun j : Nat => if r j = 0 then none else some (zL E 6 (r j - 1).toNat 0)) := by
      funext j
      rcases h j with h5 | h5
      · rw [if_pos h5, if_pos h5]
      · rw [h5]
    rw [this]
  · show (Sum.inr (Sum.inr (Sum.inl (6, n, fun j : Nat => if r j = 0 then none else some (zL E' 7 (r j - 1).toNat 0)))) : gE) = Sum.inr (Sum.inr (Sum.inl (6, n, fun j : Nat => if r j = 0 then none else some (zL E 7 (r j - 1).toNat 0))))
    have : (fun j : Nat => if r j = 0 then none else some (zL E' 7 (r j - 1).toNat 0)) = (fun j : Nat => if r j = 0 then none else some (zL E 7 (r j - 1).toNat 0)) := by
      funext j
      rcases h j with h5 | h5
      · rw [if_pos h5, if_pos h5]
      · rw [h5]
    rw [this]

theorem zC_5 (h : ∀ c', zL E' 5 d c' = zL E 5 d c') (h14 : c = 14 → ∀ j : Nat, r j = 0 ∨ zL E' 7 (r j - 1).toNat 0 = zL E 7 (r j - 1).toNat 0) (h15 : c = 15 → ∀ j : Nat, r j = 0 ∨ zL E' 7 (r j - 1).toNat 0 = zL E 7 (r j - 1).toNat 0) (h16 : c = 16 → ∀ j : Nat, r j = 0 ∨ zL E' 6 (r j - 1).toNat 0 = zL E 6 (r j - 1).toNat 0) : zC E' 5 d c r = zC E 5 d c r := by
  by_cases hc : c < 17
  · rcases (by omega : c = 0 ∨ c = 1 ∨ c = 2 ∨ c = 3 ∨ c = 4 ∨ c = 5 ∨ c = 6 ∨ c = 7 ∨ c = 8 ∨ c = 9 ∨ c = 10 ∨ c = 11 ∨ c = 12 ∨ c = 13 ∨ c = 14 ∨ c = 15 ∨ c = 16) with rfl | rfl | rfl | rfl | rfl | rfl | rfl | rfl | rfl | rfl | rfl | rfl | rfl | rfl | rfl | rfl | rfl
    · simp only [zC, zA, zB, h]
    · rfl
    · rfl
    · rfl
    · rfl
    · rfl
    · rfl
    · rfl
    · rfl
    · rfl
    · rfl
    · rfl
    · rfl
    · rfl
    · exact congrArg some (zgq (n := 96) 6 (by decide) (h14 rfl))
    · exact congrArg some (zgq (n := 96) 6 (by decide) (h15 rfl))
    · exact congrArg some (zgq (n := 12) 5 (by decide) (h16 rfl))
  · obtain ⟨m, rfl⟩ : ∃ m, c = m + 17 := ⟨c - 17, by omega⟩
    simp [zC, zA, zB]
theorem zC_6 (h : ∀ c', zL E' 6 d c' = zL E 6 d c') (h8 : c = 8 → ∀ j : Nat, r j = 0 ∨ zL E' 7 (r j - 1).toNat 0 = zL E 7 (r j - 1).toNat 0) : zC E' 6 d c r = zC E 6 d c r := by
  by_cases hc : c < 9
  · rcases (by omega : c = 0 ∨ c = 1 ∨ c = 2 ∨ c = 3 ∨ c = 4 ∨ c = 5 ∨ c = 6 ∨ c = 7 ∨ c = 8) with rfl | rfl | rfl | rfl | rfl | rfl | rfl | rfl | rfl
    · simp only [zC, zA, zB, h]
    · rfl
    · rfl
    · rfl
    · rfl
    · rfl
    · rfl
    · rfl
    · exact congrArg some (zgq (n := 10) 6 (by decide) (h8 rfl))
  · obtain ⟨m, rfl⟩ : ∃ m, c = m + 9 := ⟨c - 9, by omega⟩
    simp [zC, zA, zB]
theorem zC_7 (h : ∀ c', zL E' 7 d c' = zL E 7 d c') : zC E' 7 d c r = zC E 7 d c r := by
  by_cases hc : c < 7
  · rcases (by omega : c = 0 ∨ c = 1 ∨ c = 2 ∨ c = 3 ∨ c = 4 ∨ c = 5 ∨ c = 6) with rfl | rfl | rfl | rfl | rfl | rfl | rfl
    · simp only [zC, zA, zB, h]
    · rfl
    · rfl
    · rfl
    · rfl
    · rfl
    · rfl
  · obtain ⟨m, rfl⟩ : ∃ m, c = m + 7 := ⟨c - 7, by omega⟩
    simp [zC, zA, zB]
theorem zC_8 (h : ∀ c', zL E' 8 d c' = zL E 8 d c') (h0 : c = 0 → ∀ j : Nat, r j = 0 ∨ zL E' 7 (r j - 1).toNat 0 = zL E 7 (r j - 1).toNat 0) : zC E' 8 d c r = zC E 8 d c r := by
  by_cases hc : c < 1
  · rcases (by omega : c = 0) with rfl
    · exact congrArg some (zgq (n := 10) 6 (by decide) (h0 rfl))
  · obtain ⟨m, rfl⟩ : ∃ m, c = m + 1 := ⟨c - 1, by omega⟩
    simp [zC, zA, zB]
end yH

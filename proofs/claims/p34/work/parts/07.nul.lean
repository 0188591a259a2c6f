/-! What may be null; a division's rest. -/
def g_nul {α : Type} (x : Option Nat) (a : α) (b : Nat → α) : α := match x with
  | none => a
  | some r => b r
theorem g_nul_none {α : Type} (a : α) (b : Nat → α) : g_nul none a b = a := rfl
theorem g_nul_some {α : Type} (r : Nat) (a : α) (b : Nat → α) : g_nul (some r) a b = b r := rfl
def g_rem (x y : Int32) : Option Int32 := if y = 0 then none else some (x - x / y * y)
theorem g_rem_spec {x y z : Int32} (h : g_rem x y = some z) : ¬ y = 0 ∧ x - x / y * y = z := by
  unfold g_rem at h
  split at h
  · cases h
  · rename_i h0
    exact ⟨h0, Option.some.inj h⟩

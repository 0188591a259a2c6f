theorem g_z_fit {x y : Int32} (h : g_z x = some y) : fits .boolean (.int y) = true := by
  unfold g_z at h
  split at h
  · rename_i hx
    cases h
    rcases hx with rfl | rfl <;> rfl
  · cases h

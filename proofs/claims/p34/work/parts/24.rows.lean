/-! Rows: the class's own helpers over them. -/
theorem zb_01 (b : Bool) : zb b = 0 ∨ zb b = 1 := by cases b <;> decide
section zRow
variable {E : zE} {σ : zW} {k d c : Nat}
theorem zr_zs {i v : Int} {r : Int → Int} : zr (zs σ k d c i v) k d c r = zr σ k d c r := by
  funext k' d' c'
  unfold zr zs
  by_cases h : k' = k ∧ d' = d ∧ c' = c
  · rw [if_pos h, if_pos h]
  · rw [if_neg h, if_neg h]
    funext i'
    rw [if_neg (fun z => h ⟨z.1, z.2.1, z.2.2.1⟩)]
theorem zr_self {r : Int → Int} (h : r = σ k d c) : zr σ k d c r = σ := by
  funext k' d' c'
  unfold zr
  split
  · rename_i z
    obtain ⟨rfl, rfl, rfl⟩ := z
    exact h
  · rfl
theorem zr_at {r : Int → Int} : zr σ k d c r k d c = r := by simp [zr]
theorem zs_at {i v j : Int} : zs σ k d c i v k d c j = if j = i then v else σ k d c j := by simp [zs]
theorem zr_ne {r : Int → Int} {k' d' c' : Nat} (h : ¬ (k' = k ∧ d' = d ∧ c' = c)) : zr σ k d c r k' d' c' = σ k' d' c' := by
  unfold zr
  rw [if_neg h]
theorem zs_ne {i v : Int} {k' d' c' : Nat} (h : ¬ (k' = k ∧ d' = d ∧ c' = c)) : zs σ k d c i v k' d' c' = σ k' d' c' := by
  funext j
  unfold zs
  rw [if_neg (fun z => h ⟨z.1, z.2.1, z.2.2.1⟩)]
theorem zX_at {n : Nat} (hW : zWF E) (hu : zU E k d = true) (ha : zA k c = some (0, n)) (hn : n < 2147483648) {i o : Int} (h0 : -2147483648 ≤ i) (h1 : i < 2147483648) : f_X9_at (zH E σ) (zL E k d c) (zI i) (zI o) = some (zI (if 0 ≤ i ∧ i < n then σ k d c i else o)) := by
  unfold f_X9_at
  rw [show (0 : Int32) = zI 0 from rfl, zLen hW hu ha, zz_some]
  simp only [show (zI i < zI 0) = (i < 0) from zI_lt h0 h1 (by omega) (by omega), show (zI n ≤ zI i) = ((n : Int) ≤ i) from zI_le (by omega) (by omega) h0 h1]
  by_cases h2 : i < 0
  · rw [if_pos h2, if_neg (by omega)]
  · rw [if_neg h2]
    by_cases h3 : (n : Int) ≤ i
    · rw [if_pos h3, if_neg (by omega)]
    · rw [if_neg h3, if_pos (by omega), zAld hW hu ha (by omega) hn (by omega) (by omega), zz_some]
theorem zX_isSet {n : Nat} (hW : zWF E) (hu : zU E k d = true) (ha : zA k c = some (1, n)) (hn : n < 2147483648) {i : Int} (h0 : -2147483648 ≤ i) (h1 : i < 2147483648) (hv : 0 ≤ i → i < n → σ k d c i = 0 ∨ σ k d c i = 1) : f_X9_isSet (zH E σ) (zL E k d c) (zI i) = some (zI (if 0 ≤ i ∧ i < n then σ k d c i else 0)) := by
  unfold f_X9_isSet
  rw [show (0 : Int32) = zI 0 from rfl, zLen hW hu ha, zz_some]
  simp only [show (zI i < zI 0) = (i < 0) from zI_lt h0 h1 (by omega) (by omega), show (zI n ≤ zI i) = ((n : Int) ≤ i) from zI_le (by omega) (by omega) h0 h1]
  by_cases h2 : i < 0
  · rw [if_pos h2, if_neg (by omega)]
  · rw [if_neg h2]
    by_cases h3 : (n : Int) ≤ i
    · rw [if_pos h3, if_neg (by omega)]
    · rw [if_neg h3, if_pos (by omega), zAld hW hu ha (by omega) hn (by omega) (by omega), zz_some]
      rcases hv (by omega) (by omega) with h | h <;> rw [h] <;> rfl
theorem zX_put {n : Nat} (hW : zWF E) (hu : zU E k d = true) (ha : zA k c = some (0, n)) (hn : n < 2147483648) {i v : Int} (h0 : -2147483648 ≤ i) (h1 : i < 2147483648) : f_X9_put (zH E σ) (zL E k d c) (zI i) (zI v) = some (zH E (if 0 ≤ i ∧ i < n then zs σ k d c i v else σ)) := by
  unfold f_X9_put
  rw [show (0 : Int32) = zI 0 from rfl, zLen hW hu ha, zz_some]
  simp only [show (zI i < zI 0) = (i < 0) from zI_lt h0 h1 (by omega) (by omega), show (zI n ≤ zI i) = ((n : Int) ≤ i) from zI_le (by omega) (by omega) h0 h1]
  by_cases h2 : i < 0
  · rw [if_pos h2, if_neg (by omega)]
  · rw [if_neg h2]
    by_cases h3 : (n : Int) ≤ i
    · rw [if_pos h3, if_neg (by omega)]
    · rw [if_neg h3, if_pos (by omega), zAst hW hu ha (by omega) hn (by omega) (by omega) rfl, zz_some]
theorem zX_put_ {n : Nat} (hW : zWF E) (hu : zU E k d = true) (ha : zA k c = some (3, n)) (hn : n < 2147483648) {i v : Int} (h0 : -2147483648 ≤ i) (h1 : i < 2147483648) : f_X9_put_ (zH E σ) (zL E k d c) (zI i) (zJ v) = some (zH E (if 0 ≤ i ∧ i < n then zs σ k d c i v else σ)) := by
  unfold f_X9_put_
  rw [show (0 : Int32) = zI 0 from rfl, zLen hW hu ha, zz_some]
  simp only [show (zI i < zI 0) = (i < 0) from zI_lt h0 h1 (by omega) (by omega), show (zI n ≤ zI i) = ((n : Int) ≤ i) from zI_le (by omega) (by omega) h0 h1]
  by_cases h2 : i < 0
  · rw [if_pos h2, if_neg (by omega)]
  · rw [if_neg h2]
    by_cases h3 : (n : Int) ≤ i
    · rw [if_pos h3, if_neg (by omega)]
    · rw [if_neg h3, if_pos (by omega), zLast hW hu ha hn (by omega) (by omega), zz_some]
theorem zX_at_ {n : Nat} (hW : zWF E) (hu : zU E k d = true) (ha : zA k c = some (3, n)) (hn : n < 2147483648) {i o : Int} (h0 : -2147483648 ≤ i) (h1 : i < 2147483648) : f_X9_at_ (zH E σ) (zL E k d c) (zI i) (zJ o) = some (zJ (if 0 ≤ i ∧ i < n then σ k d c i else o)) := by
  unfold f_X9_at_
  rw [show (0 : Int32) = zI 0 from rfl, zLen hW hu ha, zz_some]
  simp only [show (zI i < zI 0) = (i < 0) from zI_lt h0 h1 (by omega) (by omega), show (zI n ≤ zI i) = ((n : Int) ≤ i) from zI_le (by omega) (by omega) h0 h1]
  by_cases h2 : i < 0
  · rw [if_pos h2, if_neg (by omega)]
  · rw [if_neg h2]
    by_cases h3 : (n : Int) ≤ i
    · rw [if_pos h3, if_neg (by omega)]
    · rw [if_neg h3, if_pos (by omega), zLald hW hu ha hn (by omega) (by omega), zz_some]
theorem zX_mark {n : Nat} (hW : zWF E) (hu : zU E k d = true) (ha : zA k c = some (1, n)) (hn : n < 2147483648) {i v : Int} (h0 : -2147483648 ≤ i) (h1 : i < 2147483648) (hv : v = 0 ∨ v = 1) : f_X9_mark (zH E σ) (zL E k d c) (zI i) (zI v) = some (zH E (if 0 ≤ i ∧ i < n then zs σ k d c i v else σ)) := by
  unfold f_X9_mark
  rw [show (0 : Int32) = zI 0 from rfl, zLen hW hu ha, zz_some]
  simp only [show (zI i < zI 0) = (i < 0) from zI_lt h0 h1 (by omega) (by omega), show (zI n ≤ zI i) = ((n : Int) ≤ i) from zI_le (by omega) (by omega) h0 h1]
  by_cases h2 : i < 0
  · rw [if_pos h2, if_neg (by omega)]
  · rw [if_neg h2]
    by_cases h3 : (n : Int) ≤ i
    · rw [if_pos h3, if_neg (by omega)]
    · rw [if_neg h3, if_pos (by omega), zAst hW hu ha (by omega) hn (by omega) (by omega) (by rcases hv with rfl | rfl <;> rfl), zz_some]

theorem zX_fill_L {n : Nat} (hW : zWF E) (hu : zU E k d = true) (ha : zA k c = some (0, n)) (hn : n < 2147483648) {v : Int} : ∀ (m fuel : Nat) (i : Int) (σ : zW), 0 ≤ i → i + m = n → m < fuel → f_X9_fill_L2 fuel (zH E σ) (zL E k d c) (zI v) (zI i) = some (zH E (zr σ k d c (fun j => if i ≤ j ∧ j < n then v else σ k d c j))) := by
  intro m
  induction m with
  | zero =>
    intro fuel i σ h0 h1 h2
    obtain ⟨fuel, rfl⟩ : ∃ f, fuel = f + 1 := ⟨fuel - 1, by omega⟩
    rw [f_X9_fill_L2, zLen hW hu ha, zz_some, if_pos (show zI n ≤ zI i by rw [zI_le (by omega) (by omega) (by omega) (by omega)]; omega), zr_self]
    funext j
    rw [if_neg (by omega)]
  | succ m ih =>
    intro fuel i σ h0 h1 h2
    obtain ⟨fuel, rfl⟩ : ∃ f, fuel = f + 1 := ⟨fuel - 1, by omega⟩
    rw [f_X9_fill_L2, zLen hW hu ha, zz_some, if_neg (show ¬ zI n ≤ zI i by rw [zI_le (by omega) (by omega) (by omega) (by omega)]; omega), zAst hW hu ha (by omega) hn (by omega) (by omega) rfl, zz_some, show (1 : Int32) = zI 1 from rfl, zI_add, ih _ _ _ (by omega) (by omega) (by omega), zr_zs]
    congr 3
    funext j
    rw [zs_at]
    by_cases hj : j = i
    · subst hj
      rw [if_neg (by omega), if_pos rfl, if_pos (by omega)]
    · by_cases hj2 : i ≤ j ∧ j < n
      · rw [if_pos (by omega), if_pos hj2]
      · rw [if_neg (by omega), if_neg hj, if_neg hj2]
theorem zX_fill {n : Nat} (hW : zWF E) (hu : zU E k d = true) (ha : zA k c = some (0, n)) (hn : n < 4096) {v : Int} : f_X9_fill (zH E σ) (zL E k d c) (zI v) = some (zH E (zr σ k d c (fun j => if 0 ≤ j ∧ j < n then v else σ k d c j))) := by
  unfold f_X9_fill
  rw [show (0 : Int32) = zI 0 from rfl]
  exact zX_fill_L hW hu ha (by omega) n g_N 0 σ (by omega) (by omega) (by unfold g_N; omega)

theorem zX_fill__L {n : Nat} (hW : zWF E) (hu : zU E k d = true) (ha : zA k c = some (1, n)) (hn : n < 2147483648) {v : Int} (hv : v = 0 ∨ v = 1) : ∀ (m fuel : Nat) (i : Int) (σ : zW), 0 ≤ i → i + m = n → m < fuel → f_X9_fill__L2 fuel (zH E σ) (zL E k d c) (zI v) (zI i) = some (zH E (zr σ k d c (fun j => if i ≤ j ∧ j < n then v else σ k d c j))) := by
  intro m
  induction m with
  | zero =>
    intro fuel i σ h0 h1 h2
    obtain ⟨fuel, rfl⟩ : ∃ f, fuel = f + 1 := ⟨fuel - 1, by omega⟩
    rw [f_X9_fill__L2, zLen hW hu ha, zz_some, if_pos (show zI n ≤ zI i by rw [zI_le (by omega) (by omega) (by omega) (by omega)]; omega), zr_self]
    funext j
    rw [if_neg (by omega)]
  | succ m ih =>
    intro fuel i σ h0 h1 h2
    obtain ⟨fuel, rfl⟩ : ∃ f, fuel = f + 1 := ⟨fuel - 1, by omega⟩
    rw [f_X9_fill__L2, zLen hW hu ha, zz_some, if_neg (show ¬ zI n ≤ zI i by rw [zI_le (by omega) (by omega) (by omega) (by omega)]; omega), zAst hW hu ha (by omega) hn (by omega) (by omega) (by rcases hv with rfl | rfl <;> rfl), zz_some, show (1 : Int32) = zI 1 from rfl, zI_add, ih _ _ _ (by omega) (by omega) (by omega), zr_zs]
    congr 3
    funext j
    rw [zs_at]
    by_cases hj : j = i
    · subst hj
      rw [if_neg (by omega), if_pos rfl, if_pos (by omega)]
    · by_cases hj2 : i ≤ j ∧ j < n
      · rw [if_pos (by omega), if_pos hj2]
      · rw [if_neg (by omega), if_neg hj, if_neg hj2]
theorem zX_fill_ {n : Nat} (hW : zWF E) (hu : zU E k d = true) (ha : zA k c = some (1, n)) (hn : n < 4096) {v : Int} (hv : v = 0 ∨ v = 1) : f_X9_fill_ (zH E σ) (zL E k d c) (zI v) = some (zH E (zr σ k d c (fun j => if 0 ≤ j ∧ j < n then v else σ k d c j))) := by
  unfold f_X9_fill_
  rw [show (0 : Int32) = zI 0 from rfl]
  exact zX_fill__L hW hu ha (by omega) hv n g_N 0 σ (by omega) (by omega) (by unfold g_N; omega)

theorem zX_copy_L {n d2 : Nat} (hd : d2 ≠ d) (hW : zWF E) (hu : zU E k d = true) (ha : zA k c = some (0, n)) (hu2 : zU E k d2 = true) (hn : n < 2147483648) (s : Int → Int) : ∀ (m fuel : Nat) (i : Int) (σ : zW), σ k d c = s → 0 ≤ i → i + m = n → m < fuel → f_X9_copy_L2 fuel (zH E σ) (zL E k d c) (zL E k d2 c) (zI i) = some (zH E (zr σ k d2 c (fun j => if i ≤ j ∧ j < n then s j else σ k d2 c j))) := by
  have ha2 := ha
  intro m
  induction m with
  | zero =>
    intro fuel i σ hs h0 h1 h2
    obtain ⟨fuel, rfl⟩ : ∃ f, fuel = f + 1 := ⟨fuel - 1, by omega⟩
    rw [f_X9_copy_L2, zLen hW hu ha, zz_some, if_pos (show zI n ≤ zI i by rw [zI_le (by omega) (by omega) (by omega) (by omega)]; omega), zr_self]
    funext j
    rw [if_neg (by omega)]
  | succ m ih =>
    intro fuel i σ hs h0 h1 h2
    obtain ⟨fuel, rfl⟩ : ∃ f, fuel = f + 1 := ⟨fuel - 1, by omega⟩
    rw [f_X9_copy_L2, zLen hW hu ha, zz_some, if_neg (show ¬ zI n ≤ zI i by rw [zI_le (by omega) (by omega) (by omega) (by omega)]; omega), zLen hW hu2 ha2, zz_some, if_neg (show ¬ zI n ≤ zI i by rw [zI_le (by omega) (by omega) (by omega) (by omega)]; omega), zAld hW hu ha (by omega) hn h0 (by omega), zz_some, zAst hW hu2 ha2 (by omega) hn h0 (by omega) rfl, zz_some, show (1 : Int32) = zI 1 from rfl, zI_add, ih _ _ _ (by rw [zs_ne (fun z => hd z.2.1.symm)]; exact hs) (by omega) (by omega) (by omega), zr_zs]
    congr 3
    funext j
    rw [zs_at, hs]
    by_cases hj : j = i
    · subst hj
      rw [if_neg (by omega), if_pos rfl, if_pos (by omega)]
    · by_cases hj2 : i ≤ j ∧ j < n
      · rw [if_pos (by omega), if_pos hj2]
      · rw [if_neg (by omega), if_neg hj, if_neg hj2]
theorem zX_copy {n d2 : Nat} (hd : d2 ≠ d) (hW : zWF E) (hu : zU E k d = true) (ha : zA k c = some (0, n)) (hu2 : zU E k d2 = true) (hn : n < 4096) : f_X9_copy (zH E σ) (zL E k d c) (zL E k d2 c) = some (zH E (zr σ k d2 c (fun j => if 0 ≤ j ∧ j < n then σ k d c j else σ k d2 c j))) := by
  unfold f_X9_copy
  rw [show (0 : Int32) = zI 0 from rfl]
  exact zX_copy_L hd hW hu ha hu2 (by omega) (σ k d c) n g_N 0 σ rfl (by omega) (by omega) (by unfold g_N; omega)

theorem zX_copy__L {n d2 : Nat} (hd : d2 ≠ d) (hW : zWF E) (hu : zU E k d = true) (ha : zA k c = some (1, n)) (hu2 : zU E k d2 = true) (hn : n < 2147483648) (s : Int → Int) (hv : ∀ j : Int, 0 ≤ j → j < n → s j = 0 ∨ s j = 1) : ∀ (m fuel : Nat) (i : Int) (σ : zW), σ k d c = s → 0 ≤ i → i + m = n → m < fuel → f_X9_copy__L2 fuel (zH E σ) (zL E k d c) (zL E k d2 c) (zI i) = some (zH E (zr σ k d2 c (fun j => if i ≤ j ∧ j < n then s j else σ k d2 c j))) := by
  have ha2 := ha
  intro m
  induction m with
  | zero =>
    intro fuel i σ hs h0 h1 h2
    obtain ⟨fuel, rfl⟩ : ∃ f, fuel = f + 1 := ⟨fuel - 1, by omega⟩
    rw [f_X9_copy__L2, zLen hW hu ha, zz_some, if_pos (show zI n ≤ zI i by rw [zI_le (by omega) (by omega) (by omega) (by omega)]; omega), zr_self]
    funext j
    rw [if_neg (by omega)]
  | succ m ih =>
    intro fuel i σ hs h0 h1 h2
    obtain ⟨fuel, rfl⟩ : ∃ f, fuel = f + 1 := ⟨fuel - 1, by omega⟩
    rw [f_X9_copy__L2, zLen hW hu ha, zz_some, if_neg (show ¬ zI n ≤ zI i by rw [zI_le (by omega) (by omega) (by omega) (by omega)]; omega), zLen hW hu2 ha2, zz_some, if_neg (show ¬ zI n ≤ zI i by rw [zI_le (by omega) (by omega) (by omega) (by omega)]; omega), zAld hW hu ha (by omega) hn h0 (by omega), zz_some, zAst hW hu2 ha2 (by omega) hn h0 (by omega) (by rcases hv i h0 (by omega) with h | h <;> rw [hs, h] <;> rfl), zz_some, show (1 : Int32) = zI 1 from rfl, zI_add, ih _ _ _ (by rw [zs_ne (fun z => hd z.2.1.symm)]; exact hs) (by omega) (by omega) (by omega), zr_zs]
    congr 3
    funext j
    rw [zs_at, hs]
    by_cases hj : j = i
    · subst hj
      rw [if_neg (by omega), if_pos rfl, if_pos (by omega)]
    · by_cases hj2 : i ≤ j ∧ j < n
      · rw [if_pos (by omega), if_pos hj2]
      · rw [if_neg (by omega), if_neg hj, if_neg hj2]
theorem zX_copy_ {n d2 : Nat} (hd : d2 ≠ d) (hW : zWF E) (hu : zU E k d = true) (ha : zA k c = some (1, n)) (hu2 : zU E k d2 = true) (hn : n < 4096) (hv : ∀ j : Int, 0 ≤ j → j < n → σ k d c j = 0 ∨ σ k d c j = 1) : f_X9_copy_ (zH E σ) (zL E k d c) (zL E k d2 c) = some (zH E (zr σ k d2 c (fun j => if 0 ≤ j ∧ j < n then σ k d c j else σ k d2 c j))) := by
  unfold f_X9_copy_
  rw [show (0 : Int32) = zI 0 from rfl]
  exact zX_copy__L hd hW hu ha hu2 (by omega) (σ k d c) hv n g_N 0 σ rfl (by omega) (by omega) (by unfold g_N; omega)

theorem zX_copy___L {n d2 : Nat} (hd : d2 ≠ d) (hW : zWF E) (hu : zU E k d = true) (ha : zA k c = some (3, n)) (hu2 : zU E k d2 = true) (hn : n < 2147483648) (s : Int → Int) : ∀ (m fuel : Nat) (i : Int) (σ : zW), σ k d c = s → 0 ≤ i → i + m = n → m < fuel → f_X9_copy___L2 fuel (zH E σ) (zL E k d c) (zL E k d2 c) (zI i) = some (zH E (zr σ k d2 c (fun j => if i ≤ j ∧ j < n then s j else σ k d2 c j))) := by
  have ha2 := ha
  intro m
  induction m with
  | zero =>
    intro fuel i σ hs h0 h1 h2
    obtain ⟨fuel, rfl⟩ : ∃ f, fuel = f + 1 := ⟨fuel - 1, by omega⟩
    rw [f_X9_copy___L2, zLen hW hu ha, zz_some, if_pos (show zI n ≤ zI i by rw [zI_le (by omega) (by omega) (by omega) (by omega)]; omega), zr_self]
    funext j
    rw [if_neg (by omega)]
  | succ m ih =>
    intro fuel i σ hs h0 h1 h2
    obtain ⟨fuel, rfl⟩ : ∃ f, fuel = f + 1 := ⟨fuel - 1, by omega⟩
    rw [f_X9_copy___L2, zLen hW hu ha, zz_some, if_neg (show ¬ zI n ≤ zI i by rw [zI_le (by omega) (by omega) (by omega) (by omega)]; omega), zLen hW hu2 ha2, zz_some, if_neg (show ¬ zI n ≤ zI i by rw [zI_le (by omega) (by omega) (by omega) (by omega)]; omega), zLald hW hu ha hn h0 (by omega), zz_some, zLast hW hu2 ha2 hn h0 (by omega), zz_some, show (1 : Int32) = zI 1 from rfl, zI_add, ih _ _ _ (by rw [zs_ne (fun z => hd z.2.1.symm)]; exact hs) (by omega) (by omega) (by omega), zr_zs]
    congr 3
    funext j
    rw [zs_at, hs]
    by_cases hj : j = i
    · subst hj
      rw [if_neg (by omega), if_pos rfl, if_pos (by omega)]
    · by_cases hj2 : i ≤ j ∧ j < n
      · rw [if_pos (by omega), if_pos hj2]
      · rw [if_neg (by omega), if_neg hj, if_neg hj2]
theorem zX_copy__ {n d2 : Nat} (hd : d2 ≠ d) (hW : zWF E) (hu : zU E k d = true) (ha : zA k c = some (3, n)) (hu2 : zU E k d2 = true) (hn : n < 4096) : f_X9_copy__ (zH E σ) (zL E k d c) (zL E k d2 c) = some (zH E (zr σ k d2 c (fun j => if 0 ≤ j ∧ j < n then σ k d c j else σ k d2 c j))) := by
  unfold f_X9_copy__
  rw [show (0 : Int32) = zI 0 from rfl]
  exact zX_copy___L hd hW hu ha hu2 (by omega) (σ k d c) n g_N 0 σ rfl (by omega) (by omega) (by unfold g_N; omega)

set_option maxRecDepth 20000 in
theorem zz_dr (hW : zWF E) (hu : zU E 0 d = true) : (∀ i o : Int, -2147483648 ≤ i → i < 2147483648 → f_X9_at (zH E σ) (zL E 0 d 2) (zI i) (zI o) = some (zI (if 0 ≤ i ∧ i < 96 then σ 0 d 2 i else o))) ∧ (∀ i v : Int, 0 ≤ i → i < 96 → f_X9_put (zH E σ) (zL E 0 d 2) (zI i) (zI v) = some (zH E (zs σ 0 d 2 i v))) ∧ (∀ i v : Int, -2147483648 ≤ i → i < 0 → f_X9_put (zH E σ) (zL E 0 d 2) (zI i) (zI v) = some (zH E σ)) ∧ (∀ v : Int, f_X9_fill (zH E σ) (zL E 0 d 2) (zI v) = some (zH E (zr σ 0 d 2 (fun j => if 0 ≤ j ∧ j < 96 then v else σ 0 d 2 j)))) ∧ (∀ i v : Int, 0 ≤ i → i < 96 → v = 0 ∨ v = 1 → f_X9_mark (zH E σ) (zL E 0 d 3) (zI i) (zI v) = some (zH E (zs σ 0 d 3 i v))) ∧ (∀ (i : Int) (b : Bool), 0 ≤ i → i < 96 → f_X9_mark (zH E σ) (zL E 0 d 3) (zI i) (zI (zb b)) = some (zH E (zs σ 0 d 3 i (zb b)))) ∧ (∀ i : Int, 0 ≤ i → i < 96 → f_X9_mark (zH E σ) (zL E 0 d 3) (zI i) (zI 0) = some (zH E (zs σ 0 d 3 i 0))) ∧ (∀ i : Int, 0 ≤ i → i < 96 → f_X9_mark (zH E σ) (zL E 0 d 3) (zI i) (zI 1) = some (zH E (zs σ 0 d 3 i 1))) ∧ (f_X9_fill_ (zH E σ) (zL E 0 d 3) (zI 0) = some (zH E (zr σ 0 d 3 (fun j => if 0 ≤ j ∧ j < 96 then 0 else σ 0 d 3 j)))) ∧ (∀ i v : Int, 0 ≤ i → i < 96 → v = 0 ∨ v = 1 → f_X9_mark (zH E σ) (zL E 0 d 4) (zI i) (zI v) = some (zH E (zs σ 0 d 4 i v))) ∧ (∀ (i : Int) (b : Bool), 0 ≤ i → i < 96 → f_X9_mark (zH E σ) (zL E 0 d 4) (zI i) (zI (zb b)) = some (zH E (zs σ 0 d 4 i (zb b)))) ∧ (∀ i : Int, 0 ≤ i → i < 96 → f_X9_mark (zH E σ) (zL E 0 d 4) (zI i) (zI 0) = some (zH E (zs σ 0 d 4 i 0))) ∧ (∀ i : Int, 0 ≤ i → i < 96 → f_X9_mark (zH E σ) (zL E 0 d 4) (zI i) (zI 1) = some (zH E (zs σ 0 d 4 i 1))) ∧ (f_X9_fill_ (zH E σ) (zL E 0 d 4) (zI 0) = some (zH E (zr σ 0 d 4 (fun j => if 0 ≤ j ∧ j < 96 then 0 else σ 0 d 4 j)))) ∧ (∀ i o : Int, -2147483648 ≤ i → i < 2147483648 → f_X9_at (zH E σ) (zL E 0 d 5) (zI i) (zI o) = some (zI (if 0 ≤ i ∧ i < 96 then σ 0 d 5 i else o))) ∧ (∀ i v : Int, 0 ≤ i → i < 96 → f_X9_put (zH E σ) (zL E 0 d 5) (zI i) (zI v) = some (zH E (zs σ 0 d 5 i v))) ∧ (∀ i v : Int, -2147483648 ≤ i → i < 0 → f_X9_put (zH E σ) (zL E 0 d 5) (zI i) (zI v) = some (zH E σ)) ∧ (∀ v : Int, f_X9_fill (zH E σ) (zL E 0 d 5) (zI v) = some (zH E (zr σ 0 d 5 (fun j => if 0 ≤ j ∧ j < 96 then v else σ 0 d 5 j)))) ∧ (∀ i o : Int, -2147483648 ≤ i → i < 2147483648 → f_X9_at (zH E σ) (zL E 0 d 6) (zI i) (zI o) = some (zI (if 0 ≤ i ∧ i < 96 then σ 0 d 6 i else o))) ∧ (∀ i v : Int, 0 ≤ i → i < 96 → f_X9_put (zH E σ) (zL E 0 d 6) (zI i) (zI v) = some (zH E (zs σ 0 d 6 i v))) ∧ (∀ i v : Int, -2147483648 ≤ i → i < 0 → f_X9_put (zH E σ) (zL E 0 d 6) (zI i) (zI v) = some (zH E σ)) ∧ (∀ v : Int, f_X9_fill (zH E σ) (zL E 0 d 6) (zI v) = some (zH E (zr σ 0 d 6 (fun j => if 0 ≤ j ∧ j < 96 then v else σ 0 d 6 j)))) ∧ (∀ i o : Int, -2147483648 ≤ i → i < 2147483648 → f_X9_at (zH E σ) (zL E 0 d 7) (zI i) (zI o) = some (zI (if 0 ≤ i ∧ i < 96 then σ 0 d 7 i else o))) ∧ (∀ i v : Int, 0 ≤ i → i < 96 → f_X9_put (zH E σ) (zL E 0 d 7) (zI i) (zI v) = some (zH E (zs σ 0 d 7 i v))) ∧ (∀ i v : Int, -2147483648 ≤ i → i < 0 → f_X9_put (zH E σ) (zL E 0 d 7) (zI i) (zI v) = some (zH E σ)) ∧ (∀ v : Int, f_X9_fill (zH E σ) (zL E 0 d 7) (zI v) = some (zH E (zr σ 0 d 7 (fun j => if 0 ≤ j ∧ j < 96 then v else σ 0 d 7 j)))) ∧ (∀ i o : Int, -2147483648 ≤ i → i < 2147483648 → f_X9_at (zH E σ) (zL E 0 d 8) (zI i) (zI o) = some (zI (if 0 ≤ i ∧ i < 96 then σ 0 d 8 i else o))) ∧ (∀ i v : Int, 0 ≤ i → i < 96 → f_X9_put (zH E σ) (zL E 0 d 8) (zI i) (zI v) = some (zH E (zs σ 0 d 8 i v))) ∧ (∀ i v : Int, -2147483648 ≤ i → i < 0 → f_X9_put (zH E σ) (zL E 0 d 8) (zI i) (zI v) = some (zH E σ)) ∧ (∀ v : Int, f_X9_fill (zH E σ) (zL E 0 d 8) (zI v) = some (zH E (zr σ 0 d 8 (fun j => if 0 ≤ j ∧ j < 96 then v else σ 0 d 8 j)))) ∧ (∀ i o : Int, -2147483648 ≤ i → i < 2147483648 → f_X9_at (zH E σ) (zL E 0 d 9) (zI i) (zI o) = some (zI (if 0 ≤ i ∧ i < 96 then σ 0 d 9 i else o))) ∧ (∀ i v : Int, 0 ≤ i → i < 96 → f_X9_put (zH E σ) (zL E 0 d 9) (zI i) (zI v) = some (zH E (zs σ 0 d 9 i v))) ∧ (∀ i v : Int, -2147483648 ≤ i → i < 0 → f_X9_put (zH E σ) (zL E 0 d 9) (zI i) (zI v) = some (zH E σ)) ∧ (∀ v : Int, f_X9_fill (zH E σ) (zL E 0 d 9) (zI v) = some (zH E (zr σ 0 d 9 (fun j => if 0 ≤ j ∧ j < 96 then v else σ 0 d 9 j)))) ∧ (∀ i o : Int, -2147483648 ≤ i → i < 2147483648 → f_X9_at (zH E σ) (zL E 0 d 11) (zI i) (zI o) = some (zI (if 0 ≤ i ∧ i < 96 then σ 0 d 11 i else o))) ∧ (∀ i v : Int, 0 ≤ i → i < 96 → f_X9_put (zH E σ) (zL E 0 d 11) (zI i) (zI v) = some (zH E (zs σ 0 d 11 i v))) ∧ (∀ i v : Int, -2147483648 ≤ i → i < 0 → f_X9_put (zH E σ) (zL E 0 d 11) (zI i) (zI v) = some (zH E σ)) ∧ (∀ v : Int, f_X9_fill (zH E σ) (zL E 0 d 11) (zI v) = some (zH E (zr σ 0 d 11 (fun j => if 0 ≤ j ∧ j < 96 then v else σ 0 d 11 j)))) ∧ (∀ i o : Int, -2147483648 ≤ i → i < 2147483648 → f_X9_at (zH E σ) (zL E 0 d 12) (zI i) (zI o) = some (zI (if 0 ≤ i ∧ i < 96 then σ 0 d 12 i else o))) ∧ (∀ i v : Int, 0 ≤ i → i < 96 → f_X9_put (zH E σ) (zL E 0 d 12) (zI i) (zI v) = some (zH E (zs σ 0 d 12 i v))) ∧ (∀ i v : Int, -2147483648 ≤ i → i < 0 → f_X9_put (zH E σ) (zL E 0 d 12) (zI i) (zI v) = some (zH E σ)) ∧ (∀ v : Int, f_X9_fill (zH E σ) (zL E 0 d 12) (zI v) = some (zH E (zr σ 0 d 12 (fun j => if 0 ≤ j ∧ j < 96 then v else σ 0 d 12 j)))) ∧ (∀ i o : Int, -2147483648 ≤ i → i < 2147483648 → f_X9_at (zH E σ) (zL E 0 d 13) (zI i) (zI o) = some (zI (if 0 ≤ i ∧ i < 96 then σ 0 d 13 i else o))) ∧ (∀ i v : Int, 0 ≤ i → i < 96 → f_X9_put (zH E σ) (zL E 0 d 13) (zI i) (zI v) = some (zH E (zs σ 0 d 13 i v))) ∧ (∀ i v : Int, -2147483648 ≤ i → i < 0 → f_X9_put (zH E σ) (zL E 0 d 13) (zI i) (zI v) = some (zH E σ)) ∧ (∀ v : Int, f_X9_fill (zH E σ) (zL E 0 d 13) (zI v) = some (zH E (zr σ 0 d 13 (fun j => if 0 ≤ j ∧ j < 96 then v else σ 0 d 13 j)))) ∧ (∀ i o : Int, -2147483648 ≤ i → i < 2147483648 → f_X9_at (zH E σ) (zL E 0 d 14) (zI i) (zI o) = some (zI (if 0 ≤ i ∧ i < 96 then σ 0 d 14 i else o))) ∧ (∀ i v : Int, 0 ≤ i → i < 96 → f_X9_put (zH E σ) (zL E 0 d 14) (zI i) (zI v) = some (zH E (zs σ 0 d 14 i v))) ∧ (∀ i v : Int, -2147483648 ≤ i → i < 0 → f_X9_put (zH E σ) (zL E 0 d 14) (zI i) (zI v) = some (zH E σ)) ∧ (∀ v : Int, f_X9_fill (zH E σ) (zL E 0 d 14) (zI v) = some (zH E (zr σ 0 d 14 (fun j => if 0 ≤ j ∧ j < 96 then v else σ 0 d 14 j)))) ∧ (∀ i o : Int, -2147483648 ≤ i → i < 2147483648 → f_X9_at (zH E σ) (zL E 0 d 15) (zI i) (zI o) = some (zI (if 0 ≤ i ∧ i < 96 then σ 0 d 15 i else o))) ∧ (∀ i v : Int, 0 ≤ i → i < 96 → f_X9_put (zH E σ) (zL E 0 d 15) (zI i) (zI v) = some (zH E (zs σ 0 d 15 i v))) ∧ (∀ i v : Int, -2147483648 ≤ i → i < 0 → f_X9_put (zH E σ) (zL E 0 d 15) (zI i) (zI v) = some (zH E σ)) ∧ (∀ v : Int, f_X9_fill (zH E σ) (zL E 0 d 15) (zI v) = some (zH E (zr σ 0 d 15 (fun j => if 0 ≤ j ∧ j < 96 then v else σ 0 d 15 j)))) ∧ (∀ i o : Int, -2147483648 ≤ i → i < 2147483648 → f_X9_at (zH E σ) (zL E 0 d 17) (zI i) (zI o) = some (zI (if 0 ≤ i ∧ i < 12 then σ 0 d 17 i else o))) ∧ (∀ i v : Int, 0 ≤ i → i < 12 → f_X9_put (zH E σ) (zL E 0 d 17) (zI i) (zI v) = some (zH E (zs σ 0 d 17 i v))) ∧ (∀ i v : Int, -2147483648 ≤ i → i < 0 → f_X9_put (zH E σ) (zL E 0 d 17) (zI i) (zI v) = some (zH E σ)) ∧ (∀ v : Int, f_X9_fill (zH E σ) (zL E 0 d 17) (zI v) = some (zH E (zr σ 0 d 17 (fun j => if 0 ≤ j ∧ j < 12 then v else σ 0 d 17 j)))) ∧ (∀ i o : Int, -2147483648 ≤ i → i < 2147483648 → f_X9_at (zH E σ) (zL E 0 d 18) (zI i) (zI o) = some (zI (if 0 ≤ i ∧ i < 12 then σ 0 d 18 i else o))) ∧ (∀ i v : Int, 0 ≤ i → i < 12 → f_X9_put (zH E σ) (zL E 0 d 18) (zI i) (zI v) = some (zH E (zs σ 0 d 18 i v))) ∧ (∀ i v : Int, -2147483648 ≤ i → i < 0 → f_X9_put (zH E σ) (zL E 0 d 18) (zI i) (zI v) = some (zH E σ)) ∧ (∀ v : Int, f_X9_fill (zH E σ) (zL E 0 d 18) (zI v) = some (zH E (zr σ 0 d 18 (fun j => if 0 ≤ j ∧ j < 12 then v else σ 0 d 18 j)))) ∧ (∀ i o : Int, -2147483648 ≤ i → i < 2147483648 → f_X9_at (zH E σ) (zL E 0 d 19) (zI i) (zI o) = some (zI (if 0 ≤ i ∧ i < 12 then σ 0 d 19 i else o))) ∧ (∀ i v : Int, 0 ≤ i → i < 12 → f_X9_put (zH E σ) (zL E 0 d 19) (zI i) (zI v) = some (zH E (zs σ 0 d 19 i v))) ∧ (∀ i v : Int, -2147483648 ≤ i → i < 0 → f_X9_put (zH E σ) (zL E 0 d 19) (zI i) (zI v) = some (zH E σ)) ∧ (∀ v : Int, f_X9_fill (zH E σ) (zL E 0 d 19) (zI v) = some (zH E (zr σ 0 d 19 (fun j => if 0 ≤ j ∧ j < 12 then v else σ 0 d 19 j)))) ∧ (∀ i o : Int, -2147483648 ≤ i → i < 2147483648 → f_X9_at (zH E σ) (zL E 0 d 20) (zI i) (zI o) = some (zI (if 0 ≤ i ∧ i < 12 then σ 0 d 20 i else o))) ∧ (∀ i v : Int, 0 ≤ i → i < 12 → f_X9_put (zH E σ) (zL E 0 d 20) (zI i) (zI v) = some (zH E (zs σ 0 d 20 i v))) ∧ (∀ i v : Int, -2147483648 ≤ i → i < 0 → f_X9_put (zH E σ) (zL E 0 d 20) (zI i) (zI v) = some (zH E σ)) ∧ (∀ v : Int, f_X9_fill (zH E σ) (zL E 0 d 20) (zI v) = some (zH E (zr σ 0 d 20 (fun j => if 0 ≤ j ∧ j < 12 then v else σ 0 d 20 j)))) ∧ (∀ i o : Int, -2147483648 ≤ i → i < 2147483648 → f_X9_at (zH E σ) (zL E 0 d 21) (zI i) (zI o) = some (zI (if 0 ≤ i ∧ i < 120 then σ 0 d 21 i else o))) ∧ (∀ i v : Int, 0 ≤ i → i < 120 → f_X9_put (zH E σ) (zL E 0 d 21) (zI i) (zI v) = some (zH E (zs σ 0 d 21 i v))) ∧ (∀ i v : Int, -2147483648 ≤ i → i < 0 → f_X9_put (zH E σ) (zL E 0 d 21) (zI i) (zI v) = some (zH E σ)) ∧ (∀ v : Int, f_X9_fill (zH E σ) (zL E 0 d 21) (zI v) = some (zH E (zr σ 0 d 21 (fun j => if 0 ≤ j ∧ j < 120 then v else σ 0 d 21 j)))) ∧ (∀ i o : Int, -2147483648 ≤ i → i < 2147483648 → f_X9_at (zH E σ) (zL E 0 d 22) (zI i) (zI o) = some (zI (if 0 ≤ i ∧ i < 120 then σ 0 d 22 i else o))) ∧ (∀ i v : Int, 0 ≤ i → i < 120 → f_X9_put (zH E σ) (zL E 0 d 22) (zI i) (zI v) = some (zH E (zs σ 0 d 22 i v))) ∧ (∀ i v : Int, -2147483648 ≤ i → i < 0 → f_X9_put (zH E σ) (zL E 0 d 22) (zI i) (zI v) = some (zH E σ)) ∧ (∀ v : Int, f_X9_fill (zH E σ) (zL E 0 d 22) (zI v) = some (zH E (zr σ 0 d 22 (fun j => if 0 ≤ j ∧ j < 120 then v else σ 0 d 22 j)))) ∧ (∀ i o : Int, -2147483648 ≤ i → i < 2147483648 → f_X9_at (zH E σ) (zL E 0 d 24) (zI i) (zI o) = some (zI (if 0 ≤ i ∧ i < 12 then σ 0 d 24 i else o))) ∧ (∀ i v : Int, 0 ≤ i → i < 12 → f_X9_put (zH E σ) (zL E 0 d 24) (zI i) (zI v) = some (zH E (zs σ 0 d 24 i v))) ∧ (∀ i v : Int, -2147483648 ≤ i → i < 0 → f_X9_put (zH E σ) (zL E 0 d 24) (zI i) (zI v) = some (zH E σ)) ∧ (∀ v : Int, f_X9_fill (zH E σ) (zL E 0 d 24) (zI v) = some (zH E (zr σ 0 d 24 (fun j => if 0 ≤ j ∧ j < 12 then v else σ 0 d 24 j)))) := by
  refine ⟨?_, ?_, ?_, ?_, ?_, ?_, ?_, ?_, ?_, ?_, ?_, ?_, ?_, ?_, ?_, ?_, ?_, ?_, ?_, ?_, ?_, ?_, ?_, ?_, ?_, ?_, ?_, ?_, ?_, ?_, ?_, ?_, ?_, ?_, ?_, ?_, ?_, ?_, ?_, ?_, ?_, ?_, ?_, ?_, ?_, ?_, ?_, ?_, ?_, ?_, ?_, ?_, ?_, ?_, ?_, ?_, ?_, ?_, ?_, ?_, ?_, ?_, ?_, ?_, ?_, ?_, ?_, ?_, ?_, ?_, ?_, ?_, ?_, ?_, ?_, ?_, ?_, ?_, ?_, ?_, ?_, ?_⟩
  · exact fun i o h0 h1 => zX_at hW hu rfl (by decide) h0 h1
  · exact fun i v h0 h1 => by rw [zX_put (n := 96) hW hu rfl (by decide) (by omega) (by omega), if_pos (by omega)]
  · exact fun i v h0 h1 => by rw [zX_put (n := 96) hW hu rfl (by decide) (by omega) (by omega), if_neg (by omega)]
  · exact fun v => zX_fill hW hu rfl (by decide)
  · exact fun i v h0 h1 hv => by rw [zX_mark (n := 96) hW hu rfl (by decide) (by omega) (by omega) hv, if_pos (by omega)]
  · exact fun i b h0 h1 => by rw [zX_mark (n := 96) hW hu rfl (by decide) (by omega) (by omega) (zb_01 b), if_pos (by omega)]
  · exact fun i h0 h1 => by rw [zX_mark (n := 96) hW hu rfl (by decide) (by omega) (by omega) (Or.inl rfl), if_pos (by omega)]
  · exact fun i h0 h1 => by rw [zX_mark (n := 96) hW hu rfl (by decide) (by omega) (by omega) (Or.inr rfl), if_pos (by omega)]
  · exact zX_fill_ hW hu rfl (by decide) (Or.inl rfl)
  · exact fun i v h0 h1 hv => by rw [zX_mark (n := 96) hW hu rfl (by decide) (by omega) (by omega) hv, if_pos (by omega)]
  · exact fun i b h0 h1 => by rw [zX_mark (n := 96) hW hu rfl (by decide) (by omega) (by omega) (zb_01 b), if_pos (by omega)]
  · exact fun i h0 h1 => by rw [zX_mark (n := 96) hW hu rfl (by decide) (by omega) (by omega) (Or.inl rfl), if_pos (by omega)]
  · exact fun i h0 h1 => by rw [zX_mark (n := 96) hW hu rfl (by decide) (by omega) (by omega) (Or.inr rfl), if_pos (by omega)]
  · exact zX_fill_ hW hu rfl (by decide) (Or.inl rfl)
  · exact fun i o h0 h1 => zX_at hW hu rfl (by decide) h0 h1
  · exact fun i v h0 h1 => by rw [zX_put (n := 96) hW hu rfl (by decide) (by omega) (by omega), if_pos (by omega)]
  · exact fun i v h0 h1 => by rw [zX_put (n := 96) hW hu rfl (by decide) (by omega) (by omega), if_neg (by omega)]
  · exact fun v => zX_fill hW hu rfl (by decide)
  · exact fun i o h0 h1 => zX_at hW hu rfl (by decide) h0 h1
  · exact fun i v h0 h1 => by rw [zX_put (n := 96) hW hu rfl (by decide) (by omega) (by omega), if_pos (by omega)]
  · exact fun i v h0 h1 => by rw [zX_put (n := 96) hW hu rfl (by decide) (by omega) (by omega), if_neg (by omega)]
  · exact fun v => zX_fill hW hu rfl (by decide)
  · exact fun i o h0 h1 => zX_at hW hu rfl (by decide) h0 h1
  · exact fun i v h0 h1 => by rw [zX_put (n := 96) hW hu rfl (by decide) (by omega) (by omega), if_pos (by omega)]
  · exact fun i v h0 h1 => by rw [zX_put (n := 96) hW hu rfl (by decide) (by omega) (by omega), if_neg (by omega)]
  · exact fun v => zX_fill hW hu rfl (by decide)
  · exact fun i o h0 h1 => zX_at hW hu rfl (by decide) h0 h1
  · exact fun i v h0 h1 => by rw [zX_put (n := 96) hW hu rfl (by decide) (by omega) (by omega), if_pos (by omega)]
  · exact fun i v h0 h1 => by rw [zX_put (n := 96) hW hu rfl (by decide) (by omega) (by omega), if_neg (by omega)]
  · exact fun v => zX_fill hW hu rfl (by decide)
  · exact fun i o h0 h1 => zX_at hW hu rfl (by decide) h0 h1
  · exact fun i v h0 h1 => by rw [zX_put (n := 96) hW hu rfl (by decide) (by omega) (by omega), if_pos (by omega)]
  · exact fun i v h0 h1 => by rw [zX_put (n := 96) hW hu rfl (by decide) (by omega) (by omega), if_neg (by omega)]
  · exact fun v => zX_fill hW hu rfl (by decide)
  · exact fun i o h0 h1 => zX_at hW hu rfl (by decide) h0 h1
  · exact fun i v h0 h1 => by rw [zX_put (n := 96) hW hu rfl (by decide) (by omega) (by omega), if_pos (by omega)]
  · exact fun i v h0 h1 => by rw [zX_put (n := 96) hW hu rfl (by decide) (by omega) (by omega), if_neg (by omega)]
  · exact fun v => zX_fill hW hu rfl (by decide)
  · exact fun i o h0 h1 => zX_at hW hu rfl (by decide) h0 h1
  · exact fun i v h0 h1 => by rw [zX_put (n := 96) hW hu rfl (by decide) (by omega) (by omega), if_pos (by omega)]
  · exact fun i v h0 h1 => by rw [zX_put (n := 96) hW hu rfl (by decide) (by omega) (by omega), if_neg (by omega)]
  · exact fun v => zX_fill hW hu rfl (by decide)
  · exact fun i o h0 h1 => zX_at hW hu rfl (by decide) h0 h1
  · exact fun i v h0 h1 => by rw [zX_put (n := 96) hW hu rfl (by decide) (by omega) (by omega), if_pos (by omega)]
  · exact fun i v h0 h1 => by rw [zX_put (n := 96) hW hu rfl (by decide) (by omega) (by omega), if_neg (by omega)]
  · exact fun v => zX_fill hW hu rfl (by decide)
  · exact fun i o h0 h1 => zX_at hW hu rfl (by decide) h0 h1
  · exact fun i v h0 h1 => by rw [zX_put (n := 96) hW hu rfl (by decide) (by omega) (by omega), if_pos (by omega)]
  · exact fun i v h0 h1 => by rw [zX_put (n := 96) hW hu rfl (by decide) (by omega) (by omega), if_neg (by omega)]
  · exact fun v => zX_fill hW hu rfl (by decide)
  · exact fun i o h0 h1 => zX_at hW hu rfl (by decide) h0 h1
  · exact fun i v h0 h1 => by rw [zX_put (n := 96) hW hu rfl (by decide) (by omega) (by omega), if_pos (by omega)]
  · exact fun i v h0 h1 => by rw [zX_put (n := 96) hW hu rfl (by decide) (by omega) (by omega), if_neg (by omega)]
  · exact fun v => zX_fill hW hu rfl (by decide)
  · exact fun i o h0 h1 => zX_at hW hu rfl (by decide) h0 h1
  · exact fun i v h0 h1 => by rw [zX_put (n := 12) hW hu rfl (by decide) (by omega) (by omega), if_pos (by omega)]
  · exact fun i v h0 h1 => by rw [zX_put (n := 12) hW hu rfl (by decide) (by omega) (by omega), if_neg (by omega)]
  · exact fun v => zX_fill hW hu rfl (by decide)
  · exact fun i o h0 h1 => zX_at hW hu rfl (by decide) h0 h1
  · exact fun i v h0 h1 => by rw [zX_put (n := 12) hW hu rfl (by decide) (by omega) (by omega), if_pos (by omega)]
  · exact fun i v h0 h1 => by rw [zX_put (n := 12) hW hu rfl (by decide) (by omega) (by omega), if_neg (by omega)]
  · exact fun v => zX_fill hW hu rfl (by decide)
  · exact fun i o h0 h1 => zX_at hW hu rfl (by decide) h0 h1
  · exact fun i v h0 h1 => by rw [zX_put (n := 12) hW hu rfl (by decide) (by omega) (by omega), if_pos (by omega)]
  · exact fun i v h0 h1 => by rw [zX_put (n := 12) hW hu rfl (by decide) (by omega) (by omega), if_neg (by omega)]
  · exact fun v => zX_fill hW hu rfl (by decide)
  · exact fun i o h0 h1 => zX_at hW hu rfl (by decide) h0 h1
  · exact fun i v h0 h1 => by rw [zX_put (n := 12) hW hu rfl (by decide) (by omega) (by omega), if_pos (by omega)]
  · exact fun i v h0 h1 => by rw [zX_put (n := 12) hW hu rfl (by decide) (by omega) (by omega), if_neg (by omega)]
  · exact fun v => zX_fill hW hu rfl (by decide)
  · exact fun i o h0 h1 => zX_at hW hu rfl (by decide) h0 h1
  · exact fun i v h0 h1 => by rw [zX_put (n := 120) hW hu rfl (by decide) (by omega) (by omega), if_pos (by omega)]
  · exact fun i v h0 h1 => by rw [zX_put (n := 120) hW hu rfl (by decide) (by omega) (by omega), if_neg (by omega)]
  · exact fun v => zX_fill hW hu rfl (by decide)
  · exact fun i o h0 h1 => zX_at hW hu rfl (by decide) h0 h1
  · exact fun i v h0 h1 => by rw [zX_put (n := 120) hW hu rfl (by decide) (by omega) (by omega), if_pos (by omega)]
  · exact fun i v h0 h1 => by rw [zX_put (n := 120) hW hu rfl (by decide) (by omega) (by omega), if_neg (by omega)]
  · exact fun v => zX_fill hW hu rfl (by decide)
  · exact fun i o h0 h1 => zX_at hW hu rfl (by decide) h0 h1
  · exact fun i v h0 h1 => by rw [zX_put (n := 12) hW hu rfl (by decide) (by omega) (by omega), if_pos (by omega)]
  · exact fun i v h0 h1 => by rw [zX_put (n := 12) hW hu rfl (by decide) (by omega) (by omega), if_neg (by omega)]
  · exact fun v => zX_fill hW hu rfl (by decide)
set_option maxRecDepth 20000 in
theorem zz_vr (hW : zWF E) (hu : zU E 1 d = true) : (∀ i v : Int, 0 ≤ i → i < 12 → v = 0 ∨ v = 1 → f_X9_mark (zH E σ) (zL E 1 d 1) (zI i) (zI v) = some (zH E (zs σ 1 d 1 i v))) ∧ (∀ (i : Int) (b : Bool), 0 ≤ i → i < 12 → f_X9_mark (zH E σ) (zL E 1 d 1) (zI i) (zI (zb b)) = some (zH E (zs σ 1 d 1 i (zb b)))) ∧ (∀ i : Int, 0 ≤ i → i < 12 → f_X9_mark (zH E σ) (zL E 1 d 1) (zI i) (zI 0) = some (zH E (zs σ 1 d 1 i 0))) ∧ (∀ i : Int, 0 ≤ i → i < 12 → f_X9_mark (zH E σ) (zL E 1 d 1) (zI i) (zI 1) = some (zH E (zs σ 1 d 1 i 1))) ∧ (f_X9_fill_ (zH E σ) (zL E 1 d 1) (zI 0) = some (zH E (zr σ 1 d 1 (fun j => if 0 ≤ j ∧ j < 12 then 0 else σ 1 d 1 j)))) ∧ (∀ i o : Int, -2147483648 ≤ i → i < 2147483648 → f_X9_at (zH E σ) (zL E 1 d 2) (zI i) (zI o) = some (zI (if 0 ≤ i ∧ i < 10 then σ 1 d 2 i else o))) ∧ (∀ i v : Int, 0 ≤ i → i < 10 → f_X9_put (zH E σ) (zL E 1 d 2) (zI i) (zI v) = some (zH E (zs σ 1 d 2 i v))) ∧ (∀ i v : Int, -2147483648 ≤ i → i < 0 → f_X9_put (zH E σ) (zL E 1 d 2) (zI i) (zI v) = some (zH E σ)) ∧ (∀ v : Int, f_X9_fill (zH E σ) (zL E 1 d 2) (zI v) = some (zH E (zr σ 1 d 2 (fun j => if 0 ≤ j ∧ j < 10 then v else σ 1 d 2 j)))) ∧ (∀ i o : Int, -2147483648 ≤ i → i < 2147483648 → f_X9_at (zH E σ) (zL E 1 d 3) (zI i) (zI o) = some (zI (if 0 ≤ i ∧ i < 10 then σ 1 d 3 i else o))) ∧ (∀ i v : Int, 0 ≤ i → i < 10 → f_X9_put (zH E σ) (zL E 1 d 3) (zI i) (zI v) = some (zH E (zs σ 1 d 3 i v))) ∧ (∀ i v : Int, -2147483648 ≤ i → i < 0 → f_X9_put (zH E σ) (zL E 1 d 3) (zI i) (zI v) = some (zH E σ)) ∧ (∀ v : Int, f_X9_fill (zH E σ) (zL E 1 d 3) (zI v) = some (zH E (zr σ 1 d 3 (fun j => if 0 ≤ j ∧ j < 10 then v else σ 1 d 3 j)))) ∧ (∀ i v : Int, 0 ≤ i → i < 10 → v = 0 ∨ v = 1 → f_X9_mark (zH E σ) (zL E 1 d 4) (zI i) (zI v) = some (zH E (zs σ 1 d 4 i v))) ∧ (∀ (i : Int) (b : Bool), 0 ≤ i → i < 10 → f_X9_mark (zH E σ) (zL E 1 d 4) (zI i) (zI (zb b)) = some (zH E (zs σ 1 d 4 i (zb b)))) ∧ (∀ i : Int, 0 ≤ i → i < 10 → f_X9_mark (zH E σ) (zL E 1 d 4) (zI i) (zI 0) = some (zH E (zs σ 1 d 4 i 0))) ∧ (∀ i : Int, 0 ≤ i → i < 10 → f_X9_mark (zH E σ) (zL E 1 d 4) (zI i) (zI 1) = some (zH E (zs σ 1 d 4 i 1))) ∧ (f_X9_fill_ (zH E σ) (zL E 1 d 4) (zI 0) = some (zH E (zr σ 1 d 4 (fun j => if 0 ≤ j ∧ j < 10 then 0 else σ 1 d 4 j)))) := by
  refine ⟨?_, ?_, ?_, ?_, ?_, ?_, ?_, ?_, ?_, ?_, ?_, ?_, ?_, ?_, ?_, ?_, ?_, ?_⟩
  · exact fun i v h0 h1 hv => by rw [zX_mark (n := 12) hW hu rfl (by decide) (by omega) (by omega) hv, if_pos (by omega)]
  · exact fun i b h0 h1 => by rw [zX_mark (n := 12) hW hu rfl (by decide) (by omega) (by omega) (zb_01 b), if_pos (by omega)]
  · exact fun i h0 h1 => by rw [zX_mark (n := 12) hW hu rfl (by decide) (by omega) (by omega) (Or.inl rfl), if_pos (by omega)]
  · exact fun i h0 h1 => by rw [zX_mark (n := 12) hW hu rfl (by decide) (by omega) (by omega) (Or.inr rfl), if_pos (by omega)]
  · exact zX_fill_ hW hu rfl (by decide) (Or.inl rfl)
  · exact fun i o h0 h1 => zX_at hW hu rfl (by decide) h0 h1
  · exact fun i v h0 h1 => by rw [zX_put (n := 10) hW hu rfl (by decide) (by omega) (by omega), if_pos (by omega)]
  · exact fun i v h0 h1 => by rw [zX_put (n := 10) hW hu rfl (by decide) (by omega) (by omega), if_neg (by omega)]
  · exact fun v => zX_fill hW hu rfl (by decide)
  · exact fun i o h0 h1 => zX_at hW hu rfl (by decide) h0 h1
  · exact fun i v h0 h1 => by rw [zX_put (n := 10) hW hu rfl (by decide) (by omega) (by omega), if_pos (by omega)]
  · exact fun i v h0 h1 => by rw [zX_put (n := 10) hW hu rfl (by decide) (by omega) (by omega), if_neg (by omega)]
  · exact fun v => zX_fill hW hu rfl (by decide)
  · exact fun i v h0 h1 hv => by rw [zX_mark (n := 10) hW hu rfl (by decide) (by omega) (by omega) hv, if_pos (by omega)]
  · exact fun i b h0 h1 => by rw [zX_mark (n := 10) hW hu rfl (by decide) (by omega) (by omega) (zb_01 b), if_pos (by omega)]
  · exact fun i h0 h1 => by rw [zX_mark (n := 10) hW hu rfl (by decide) (by omega) (by omega) (Or.inl rfl), if_pos (by omega)]
  · exact fun i h0 h1 => by rw [zX_mark (n := 10) hW hu rfl (by decide) (by omega) (by omega) (Or.inr rfl), if_pos (by omega)]
  · exact zX_fill_ hW hu rfl (by decide) (Or.inl rfl)
set_option maxRecDepth 20000 in
theorem zz_xr (hW : zWF E) (hu : zU E 2 d = true) : (∀ i o : Int, -2147483648 ≤ i → i < 2147483648 → f_X9_at (zH E σ) (zL E 2 d 2) (zI i) (zI o) = some (zI (if 0 ≤ i ∧ i < 600 then σ 2 d 2 i else o))) ∧ (∀ i v : Int, 0 ≤ i → i < 600 → f_X9_put (zH E σ) (zL E 2 d 2) (zI i) (zI v) = some (zH E (zs σ 2 d 2 i v))) ∧ (∀ i v : Int, -2147483648 ≤ i → i < 0 → f_X9_put (zH E σ) (zL E 2 d 2) (zI i) (zI v) = some (zH E σ)) ∧ (∀ v : Int, f_X9_fill (zH E σ) (zL E 2 d 2) (zI v) = some (zH E (zr σ 2 d 2 (fun j => if 0 ≤ j ∧ j < 600 then v else σ 2 d 2 j)))) ∧ (∀ i v : Int, 0 ≤ i → i < 2 → v = 0 ∨ v = 1 → f_X9_mark (zH E σ) (zL E 2 d 7) (zI i) (zI v) = some (zH E (zs σ 2 d 7 i v))) ∧ (∀ (i : Int) (b : Bool), 0 ≤ i → i < 2 → f_X9_mark (zH E σ) (zL E 2 d 7) (zI i) (zI (zb b)) = some (zH E (zs σ 2 d 7 i (zb b)))) ∧ (∀ i : Int, 0 ≤ i → i < 2 → f_X9_mark (zH E σ) (zL E 2 d 7) (zI i) (zI 0) = some (zH E (zs σ 2 d 7 i 0))) ∧ (∀ i : Int, 0 ≤ i → i < 2 → f_X9_mark (zH E σ) (zL E 2 d 7) (zI i) (zI 1) = some (zH E (zs σ 2 d 7 i 1))) ∧ (f_X9_fill_ (zH E σ) (zL E 2 d 7) (zI 0) = some (zH E (zr σ 2 d 7 (fun j => if 0 ≤ j ∧ j < 2 then 0 else σ 2 d 7 j)))) ∧ (∀ i o : Int, -2147483648 ≤ i → i < 2147483648 → f_X9_at_ (zH E σ) (zL E 2 d 9) (zI i) (zJ o) = some (zJ (if 0 ≤ i ∧ i < 10 then σ 2 d 9 i else o))) ∧ (∀ i v : Int, 0 ≤ i → i < 10 → f_X9_put_ (zH E σ) (zL E 2 d 9) (zI i) (zJ v) = some (zH E (zs σ 2 d 9 i v))) ∧ (∀ i o : Int, -2147483648 ≤ i → i < 2147483648 → f_X9_at (zH E σ) (zL E 2 d 10) (zI i) (zI o) = some (zI (if 0 ≤ i ∧ i < 120 then σ 2 d 10 i else o))) ∧ (∀ i v : Int, 0 ≤ i → i < 120 → f_X9_put (zH E σ) (zL E 2 d 10) (zI i) (zI v) = some (zH E (zs σ 2 d 10 i v))) ∧ (∀ i v : Int, -2147483648 ≤ i → i < 0 → f_X9_put (zH E σ) (zL E 2 d 10) (zI i) (zI v) = some (zH E σ)) ∧ (∀ v : Int, f_X9_fill (zH E σ) (zL E 2 d 10) (zI v) = some (zH E (zr σ 2 d 10 (fun j => if 0 ≤ j ∧ j < 120 then v else σ 2 d 10 j)))) ∧ (∀ i o : Int, -2147483648 ≤ i → i < 2147483648 → f_X9_at (zH E σ) (zL E 2 d 11) (zI i) (zI o) = some (zI (if 0 ≤ i ∧ i < 120 then σ 2 d 11 i else o))) ∧ (∀ i v : Int, 0 ≤ i → i < 120 → f_X9_put (zH E σ) (zL E 2 d 11) (zI i) (zI v) = some (zH E (zs σ 2 d 11 i v))) ∧ (∀ i v : Int, -2147483648 ≤ i → i < 0 → f_X9_put (zH E σ) (zL E 2 d 11) (zI i) (zI v) = some (zH E σ)) ∧ (∀ v : Int, f_X9_fill (zH E σ) (zL E 2 d 11) (zI v) = some (zH E (zr σ 2 d 11 (fun j => if 0 ≤ j ∧ j < 120 then v else σ 2 d 11 j)))) ∧ (∀ i o : Int, -2147483648 ≤ i → i < 2147483648 → f_X9_at (zH E σ) (zL E 2 d 12) (zI i) (zI o) = some (zI (if 0 ≤ i ∧ i < 120 then σ 2 d 12 i else o))) ∧ (∀ i v : Int, 0 ≤ i → i < 120 → f_X9_put (zH E σ) (zL E 2 d 12) (zI i) (zI v) = some (zH E (zs σ 2 d 12 i v))) ∧ (∀ i v : Int, -2147483648 ≤ i → i < 0 → f_X9_put (zH E σ) (zL E 2 d 12) (zI i) (zI v) = some (zH E σ)) ∧ (∀ v : Int, f_X9_fill (zH E σ) (zL E 2 d 12) (zI v) = some (zH E (zr σ 2 d 12 (fun j => if 0 ≤ j ∧ j < 120 then v else σ 2 d 12 j)))) ∧ (∀ i o : Int, -2147483648 ≤ i → i < 2147483648 → f_X9_at (zH E σ) (zL E 2 d 13) (zI i) (zI o) = some (zI (if 0 ≤ i ∧ i < 120 then σ 2 d 13 i else o))) ∧ (∀ i v : Int, 0 ≤ i → i < 120 → f_X9_put (zH E σ) (zL E 2 d 13) (zI i) (zI v) = some (zH E (zs σ 2 d 13 i v))) ∧ (∀ i v : Int, -2147483648 ≤ i → i < 0 → f_X9_put (zH E σ) (zL E 2 d 13) (zI i) (zI v) = some (zH E σ)) ∧ (∀ v : Int, f_X9_fill (zH E σ) (zL E 2 d 13) (zI v) = some (zH E (zr σ 2 d 13 (fun j => if 0 ≤ j ∧ j < 120 then v else σ 2 d 13 j)))) ∧ (∀ i o : Int, -2147483648 ≤ i → i < 2147483648 → f_X9_at (zH E σ) (zL E 2 d 14) (zI i) (zI o) = some (zI (if 0 ≤ i ∧ i < 120 then σ 2 d 14 i else o))) ∧ (∀ i v : Int, 0 ≤ i → i < 120 → f_X9_put (zH E σ) (zL E 2 d 14) (zI i) (zI v) = some (zH E (zs σ 2 d 14 i v))) ∧ (∀ i v : Int, -2147483648 ≤ i → i < 0 → f_X9_put (zH E σ) (zL E 2 d 14) (zI i) (zI v) = some (zH E σ)) ∧ (∀ v : Int, f_X9_fill (zH E σ) (zL E 2 d 14) (zI v) = some (zH E (zr σ 2 d 14 (fun j => if 0 ≤ j ∧ j < 120 then v else σ 2 d 14 j)))) ∧ (∀ i v : Int, 0 ≤ i → i < 96 → v = 0 ∨ v = 1 → f_X9_mark (zH E σ) (zL E 2 d 15) (zI i) (zI v) = some (zH E (zs σ 2 d 15 i v))) ∧ (∀ (i : Int) (b : Bool), 0 ≤ i → i < 96 → f_X9_mark (zH E σ) (zL E 2 d 15) (zI i) (zI (zb b)) = some (zH E (zs σ 2 d 15 i (zb b)))) ∧ (∀ i : Int, 0 ≤ i → i < 96 → f_X9_mark (zH E σ) (zL E 2 d 15) (zI i) (zI 0) = some (zH E (zs σ 2 d 15 i 0))) ∧ (∀ i : Int, 0 ≤ i → i < 96 → f_X9_mark (zH E σ) (zL E 2 d 15) (zI i) (zI 1) = some (zH E (zs σ 2 d 15 i 1))) ∧ (f_X9_fill_ (zH E σ) (zL E 2 d 15) (zI 0) = some (zH E (zr σ 2 d 15 (fun j => if 0 ≤ j ∧ j < 96 then 0 else σ 2 d 15 j)))) ∧ (∀ i o : Int, -2147483648 ≤ i → i < 2147483648 → f_X9_at (zH E σ) (zL E 2 d 17) (zI i) (zI o) = some (zI (if 0 ≤ i ∧ i < 600 then σ 2 d 17 i else o))) ∧ (∀ i v : Int, 0 ≤ i → i < 600 → f_X9_put (zH E σ) (zL E 2 d 17) (zI i) (zI v) = some (zH E (zs σ 2 d 17 i v))) ∧ (∀ i v : Int, -2147483648 ≤ i → i < 0 → f_X9_put (zH E σ) (zL E 2 d 17) (zI i) (zI v) = some (zH E σ)) ∧ (∀ v : Int, f_X9_fill (zH E σ) (zL E 2 d 17) (zI v) = some (zH E (zr σ 2 d 17 (fun j => if 0 ≤ j ∧ j < 600 then v else σ 2 d 17 j)))) ∧ (∀ i o : Int, -2147483648 ≤ i → i < 2147483648 → f_X9_at (zH E σ) (zL E 2 d 18) (zI i) (zI o) = some (zI (if 0 ≤ i ∧ i < 600 then σ 2 d 18 i else o))) ∧ (∀ i v : Int, 0 ≤ i → i < 600 → f_X9_put (zH E σ) (zL E 2 d 18) (zI i) (zI v) = some (zH E (zs σ 2 d 18 i v))) ∧ (∀ i v : Int, -2147483648 ≤ i → i < 0 → f_X9_put (zH E σ) (zL E 2 d 18) (zI i) (zI v) = some (zH E σ)) ∧ (∀ v : Int, f_X9_fill (zH E σ) (zL E 2 d 18) (zI v) = some (zH E (zr σ 2 d 18 (fun j => if 0 ≤ j ∧ j < 600 then v else σ 2 d 18 j)))) ∧ (∀ i o : Int, -2147483648 ≤ i → i < 2147483648 → f_X9_at_ (zH E σ) (zL E 2 d 19) (zI i) (zJ o) = some (zJ (if 0 ≤ i ∧ i < 600 then σ 2 d 19 i else o))) ∧ (∀ i v : Int, 0 ≤ i → i < 600 → f_X9_put_ (zH E σ) (zL E 2 d 19) (zI i) (zJ v) = some (zH E (zs σ 2 d 19 i v))) := by
  refine ⟨?_, ?_, ?_, ?_, ?_, ?_, ?_, ?_, ?_, ?_, ?_, ?_, ?_, ?_, ?_, ?_, ?_, ?_, ?_, ?_, ?_, ?_, ?_, ?_, ?_, ?_, ?_, ?_, ?_, ?_, ?_, ?_, ?_, ?_, ?_, ?_, ?_, ?_, ?_, ?_, ?_, ?_, ?_, ?_, ?_, ?_⟩
  · exact fun i o h0 h1 => zX_at hW hu rfl (by decide) h0 h1
  · exact fun i v h0 h1 => by rw [zX_put (n := 600) hW hu rfl (by decide) (by omega) (by omega), if_pos (by omega)]
  · exact fun i v h0 h1 => by rw [zX_put (n := 600) hW hu rfl (by decide) (by omega) (by omega), if_neg (by omega)]
  · exact fun v => zX_fill hW hu rfl (by decide)
  · exact fun i v h0 h1 hv => by rw [zX_mark (n := 2) hW hu rfl (by decide) (by omega) (by omega) hv, if_pos (by omega)]
  · exact fun i b h0 h1 => by rw [zX_mark (n := 2) hW hu rfl (by decide) (by omega) (by omega) (zb_01 b), if_pos (by omega)]
  · exact fun i h0 h1 => by rw [zX_mark (n := 2) hW hu rfl (by decide) (by omega) (by omega) (Or.inl rfl), if_pos (by omega)]
  · exact fun i h0 h1 => by rw [zX_mark (n := 2) hW hu rfl (by decide) (by omega) (by omega) (Or.inr rfl), if_pos (by omega)]
  · exact zX_fill_ hW hu rfl (by decide) (Or.inl rfl)
  · exact fun i o h0 h1 => zX_at_ hW hu rfl (by decide) h0 h1
  · exact fun i v h0 h1 => by rw [zX_put_ (n := 10) hW hu rfl (by decide) (by omega) (by omega), if_pos (by omega)]
  · exact fun i o h0 h1 => zX_at hW hu rfl (by decide) h0 h1
  · exact fun i v h0 h1 => by rw [zX_put (n := 120) hW hu rfl (by decide) (by omega) (by omega), if_pos (by omega)]
  · exact fun i v h0 h1 => by rw [zX_put (n := 120) hW hu rfl (by decide) (by omega) (by omega), if_neg (by omega)]
  · exact fun v => zX_fill hW hu rfl (by decide)
  · exact fun i o h0 h1 => zX_at hW hu rfl (by decide) h0 h1
  · exact fun i v h0 h1 => by rw [zX_put (n := 120) hW hu rfl (by decide) (by omega) (by omega), if_pos (by omega)]
  · exact fun i v h0 h1 => by rw [zX_put (n := 120) hW hu rfl (by decide) (by omega) (by omega), if_neg (by omega)]
  · exact fun v => zX_fill hW hu rfl (by decide)
  · exact fun i o h0 h1 => zX_at hW hu rfl (by decide) h0 h1
  · exact fun i v h0 h1 => by rw [zX_put (n := 120) hW hu rfl (by decide) (by omega) (by omega), if_pos (by omega)]
  · exact fun i v h0 h1 => by rw [zX_put (n := 120) hW hu rfl (by decide) (by omega) (by omega), if_neg (by omega)]
  · exact fun v => zX_fill hW hu rfl (by decide)
  · exact fun i o h0 h1 => zX_at hW hu rfl (by decide) h0 h1
  · exact fun i v h0 h1 => by rw [zX_put (n := 120) hW hu rfl (by decide) (by omega) (by omega), if_pos (by omega)]
  · exact fun i v h0 h1 => by rw [zX_put (n := 120) hW hu rfl (by decide) (by omega) (by omega), if_neg (by omega)]
  · exact fun v => zX_fill hW hu rfl (by decide)
  · exact fun i o h0 h1 => zX_at hW hu rfl (by decide) h0 h1
  · exact fun i v h0 h1 => by rw [zX_put (n := 120) hW hu rfl (by decide) (by omega) (by omega), if_pos (by omega)]
  · exact fun i v h0 h1 => by rw [zX_put (n := 120) hW hu rfl (by decide) (by omega) (by omega), if_neg (by omega)]
  · exact fun v => zX_fill hW hu rfl (by decide)
  · exact fun i v h0 h1 hv => by rw [zX_mark (n := 96) hW hu rfl (by decide) (by omega) (by omega) hv, if_pos (by omega)]
  · exact fun i b h0 h1 => by rw [zX_mark (n := 96) hW hu rfl (by decide) (by omega) (by omega) (zb_01 b), if_pos (by omega)]
  · exact fun i h0 h1 => by rw [zX_mark (n := 96) hW hu rfl (by decide) (by omega) (by omega) (Or.inl rfl), if_pos (by omega)]
  · exact fun i h0 h1 => by rw [zX_mark (n := 96) hW hu rfl (by decide) (by omega) (by omega) (Or.inr rfl), if_pos (by omega)]
  · exact zX_fill_ hW hu rfl (by decide) (Or.inl rfl)
  · exact fun i o h0 h1 => zX_at hW hu rfl (by decide) h0 h1
  · exact fun i v h0 h1 => by rw [zX_put (n := 600) hW hu rfl (by decide) (by omega) (by omega), if_pos (by omega)]
  · exact fun i v h0 h1 => by rw [zX_put (n := 600) hW hu rfl (by decide) (by omega) (by omega), if_neg (by omega)]
  · exact fun v => zX_fill hW hu rfl (by decide)
  · exact fun i o h0 h1 => zX_at hW hu rfl (by decide) h0 h1
  · exact fun i v h0 h1 => by rw [zX_put (n := 600) hW hu rfl (by decide) (by omega) (by omega), if_pos (by omega)]
  · exact fun i v h0 h1 => by rw [zX_put (n := 600) hW hu rfl (by decide) (by omega) (by omega), if_neg (by omega)]
  · exact fun v => zX_fill hW hu rfl (by decide)
  · exact fun i o h0 h1 => zX_at_ hW hu rfl (by decide) h0 h1
  · exact fun i v h0 h1 => by rw [zX_put_ (n := 600) hW hu rfl (by decide) (by omega) (by omega), if_pos (by omega)]
end zRow

/-! What the rows say: counting, searching; the reference's own row n as the state. -/
def zcn (P : Int → Bool) : Int → Nat → Int
  | _, 0 => 0
  | lo, k + 1 => zb (P lo) + zcn P (lo + 1) k
def zal (P : Int → Bool) : Int → Nat → Bool
  | _, 0 => true
  | lo, k + 1 => P lo && zal P (lo + 1) k
def zfs (P : Int → Bool) : Int → Nat → Int
  | _, 0 => -1
  | lo, k + 1 => if P lo then lo else zfs P (lo + 1) k
def zls (P : Int → Bool) : Nat → Int
  | 0 => -1
  | k + 1 => if P k then k else zls P k
theorem zb_rng (b : Bool) : 0 ≤ zb b ∧ zb b ≤ 1 := by cases b <;> decide
theorem zb_eq0 (b : Bool) : (zb b = 0) = (b = false) := by cases b <;> simp [zb]
theorem zb_eq1 (b : Bool) : (zb b = 1) = (b = true) := by cases b <;> simp [zb]
theorem zb_ite (b : Bool) : (if b = true then (1 : Int) else 0) = zb b := rfl
theorem zcn_rng (P : Int → Bool) : ∀ (k : Nat) (lo : Int), 0 ≤ zcn P lo k ∧ zcn P lo k ≤ k := by
  intro k
  induction k with
  | zero => intro lo; simp [zcn]
  | succ k ih =>
    intro lo
    have h1 := zb_rng (P lo)
    have h2 := ih (lo + 1)
    simp only [zcn]
    omega
theorem zcn_congr {P Q : Int → Bool} : ∀ (k : Nat) (lo : Int), (∀ i, lo ≤ i → i < lo + k → P i = Q i) → zcn P lo k = zcn Q lo k := by
  intro k
  induction k with
  | zero => intro lo _; rfl
  | succ k ih =>
    intro lo h
    simp only [zcn]
    rw [h lo (by omega) (by omega), ih (lo + 1) (fun i h0 h1 => h i (by omega) (by omega))]
theorem zcn_le {P Q : Int → Bool} : ∀ (k : Nat) (lo : Int), (∀ i, lo ≤ i → i < lo + k → P i = true → Q i = true) → zcn P lo k ≤ zcn Q lo k := by
  intro k
  induction k with
  | zero => intro lo _; simp [zcn]
  | succ k ih =>
    intro lo h
    simp only [zcn]
    have h1 := ih (lo + 1) (fun i h0 h1 => h i (by omega) (by omega))
    have h2 := h lo (by omega) (by omega)
    have h3 : zb (P lo) ≤ zb (Q lo) := by
      cases hp : P lo
      · exact (zb_rng _).1
      · rw [h2 hp]; exact Int.le_refl _
    omega
/-- one more of them -/
theorem zcn_one {P Q : Int → Bool} {j : Int} : ∀ (k : Nat) (lo : Int), lo ≤ j → j < lo + k → P j = false → Q j = true → (∀ i, i ≠ j → lo ≤ i → i < lo + k → Q i = P i) → zcn Q lo k = zcn P lo k + 1 := by
  intro k
  induction k with
  | zero => intro lo h0 h1; omega
  | succ k ih =>
    intro lo h0 h1 hp hq h
    simp only [zcn]
    by_cases hj : j = lo
    · subst hj
      rw [hp, hq, zcn_congr (P := Q) (Q := P) k (j + 1) (fun i h0 h1 => h i (by omega) (by omega) (by omega))]
      simp [zb]
      omega
    · rw [ih (lo + 1) (by omega) (by omega) hp hq (fun i h0 h1 h2 => h i h0 (by omega) (by omega)), h lo (by omega) (by omega) (by omega)]
      omega
theorem zcn_snoc (P : Int → Bool) : ∀ (k : Nat) (lo : Int), zcn P lo (k + 1) = zcn P lo k + zb (P (lo + k)) := by
  intro k
  induction k with
  | zero => intro lo; simp [zcn]
  | succ k ih =>
    intro lo
    rw [zcn, ih (lo + 1), zcn]
    rw [show lo + 1 + (k : Int) = lo + ((k + 1 : Nat) : Int) by omega]
    omega
theorem zcn_app (P : Int → Bool) (a b : Nat) : ∀ lo : Int, zcn P lo (a + b) = zcn P lo a + zcn P (lo + a) b := by
  induction b with
  | zero => intro lo; simp [zcn]
  | succ b ih =>
    intro lo
    rw [← Nat.add_assoc, zcn_snoc, ih lo, zcn_snoc]
    rw [show lo + ((a + b : Nat) : Int) = lo + (a : Int) + (b : Int) by omega]
    omega
theorem zcn_none {P : Int → Bool} (k : Nat) (lo : Int) (h : ∀ i, lo ≤ i → i < lo + k → P i = false) : zcn P lo k = 0 := by
  rw [zcn_congr (Q := fun _ => false) k lo h]
  clear h
  induction k generalizing lo with
  | zero => rfl
  | succ k ih => simp [zcn, ih, zb]
theorem zal_iff {P : Int → Bool} : ∀ (k : Nat) (lo : Int), zal P lo k = true ↔ ∀ i, lo ≤ i → i < lo + k → P i = true := by
  intro k
  induction k with
  | zero => intro lo; simp [zal]; intro i h0 h1; omega
  | succ k ih =>
    intro lo
    simp only [zal, Bool.and_eq_true, ih]
    constructor
    · rintro ⟨h1, h2⟩ i h3 h4
      by_cases h : i = lo
      · subst h; exact h1
      · exact h2 i (by omega) (by omega)
    · intro h
      exact ⟨h lo (by omega) (by omega), fun i h0 h1 => h i (by omega) (by omega)⟩
theorem zal_congr {P Q : Int → Bool} : ∀ (k : Nat) (lo : Int), (∀ i, lo ≤ i → i < lo + k → P i = Q i) → zal P lo k = zal Q lo k := by
  intro k
  induction k with
  | zero => intro lo _; rfl
  | succ k ih =>
    intro lo h
    simp only [zal]
    rw [h lo (by omega) (by omega), ih (lo + 1) (fun i h0 h1 => h i (by omega) (by omega))]
theorem zfs_spec {P : Int → Bool} : ∀ (k : Nat) (lo : Int), 0 ≤ lo → (zfs P lo k = -1 ∧ ∀ i, lo ≤ i → i < lo + k → P i = false) ∨ (lo ≤ zfs P lo k ∧ zfs P lo k < lo + k ∧ P (zfs P lo k) = true ∧ ∀ i, lo ≤ i → i < zfs P lo k → P i = false) := by
  intro k
  induction k with
  | zero => intro lo _; exact Or.inl ⟨rfl, fun i h0 h1 => by omega⟩
  | succ k ih =>
    intro lo hlo
    cases hp : P lo
    · have e : zfs P lo (k + 1) = zfs P (lo + 1) k := by simp [zfs, hp]
      rw [e]
      rcases ih (lo + 1) (by omega) with ⟨h1, h2⟩ | ⟨h1, h2, h3, h4⟩
      · refine Or.inl ⟨h1, fun i h5 h6 => ?_⟩
        by_cases h : i = lo
        · subst h; exact hp
        · exact h2 i (by omega) (by omega)
      · refine Or.inr ⟨by omega, by omega, h3, fun i h5 h6 => ?_⟩
        by_cases h : i = lo
        · subst h; exact hp
        · exact h4 i (by omega) (by omega)
    · have e : zfs P lo (k + 1) = lo := by simp [zfs, hp]
      rw [e]
      exact Or.inr ⟨by omega, by omega, hp, fun i h5 h6 => by omega⟩
theorem zfs_congr {P Q : Int → Bool} : ∀ (k : Nat) (lo : Int), (∀ i, lo ≤ i → i < lo + k → P i = Q i) → zfs P lo k = zfs Q lo k := by
  intro k
  induction k with
  | zero => intro lo _; rfl
  | succ k ih =>
    intro lo h
    simp only [zfs]
    rw [h lo (by omega) (by omega), ih (lo + 1) (fun i h0 h1 => h i (by omega) (by omega))]
theorem zls_spec {P : Int → Bool} : ∀ (k : Nat), (zls P k = -1 ∧ ∀ i, 0 ≤ i → i < (k : Int) → P i = false) ∨ (0 ≤ zls P k ∧ zls P k < k ∧ P (zls P k) = true ∧ ∀ i, zls P k < i → i < (k : Int) → P i = false) := by
  intro k
  induction k with
  | zero => exact Or.inl ⟨rfl, fun i h0 h1 => by omega⟩
  | succ k ih =>
    cases hp : P k
    · have e : zls P (k + 1) = zls P k := by simp [zls, hp]
      rw [e]
      rcases ih with ⟨h1, h2⟩ | ⟨h1, h2, h3, h4⟩
      · refine Or.inl ⟨h1, fun i h5 h6 => ?_⟩
        by_cases h : i = k
        · subst h; exact hp
        · exact h2 i (by omega) (by omega)
      · refine Or.inr ⟨by omega, by omega, h3, fun i h5 h6 => ?_⟩
        by_cases h : i = k
        · subst h; exact hp
        · exact h4 i (by omega) (by omega)
    · have e : zls P (k + 1) = k := by simp [zls, hp]
      rw [e]
      exact Or.inr ⟨by omega, by omega, hp, fun i h5 h6 => by omega⟩
theorem zls_congr {P Q : Int → Bool} : ∀ (k : Nat), (∀ i, 0 ≤ i → i < (k : Int) → P i = Q i) → zls P k = zls Q k := by
  intro k
  induction k with
  | zero => intro _; rfl
  | succ k ih =>
    intro h
    simp only [zls]
    rw [h k (by omega) (by omega), ih (fun i h0 h1 => h i (by omega) (by omega))]
theorem zls_rng (P : Int → Bool) (k : Nat) : -1 ≤ zls P k ∧ zls P k < k := by
  rcases zls_spec (P := P) k with ⟨h1, -⟩ | ⟨h1, h2, -⟩ <;> omega
theorem zfs_rng (P : Int → Bool) (k : Nat) : -1 ≤ zfs P 0 k ∧ zfs P 0 k < k := by
  rcases zfs_spec (P := P) k 0 (by omega) with ⟨h1, -⟩ | ⟨h1, h2, -⟩ <;> omega
-- the state n
abbrev zN : Type := Int → Int
def nMn (n : zN) : Int := n 0 - n 1
def nPl (n : zN) (b : Int) : Int := if 0 < n (679 + b) then n (679 + b) - 1 else b
def nRd (n : zN) (first many : Int) : Bool := zal (fun b => decide (n (199 + nPl n b) = 0)) first many.toNat
def nDl (e : Int) : Int := 1 + (e - 1).tdiv 4
def nS (n : zN) (s w : Int) : Int := n (1255 + 25 * s + w)
def nV (n : zN) (v w : Int) : Int := n (775 + 5 * v + w)
def nLa (n : zN) : Int := n 3 - 1
def nOp (n : zN) : Bool := decide (0 ≤ nLa n) && decide (nS n (nLa n) 0 = 0)
def nEn (n : zN) (s f : Int) : Int := zfs (fun k => decide (nS n s (5 + 2 * k) = f)) 0 (nS n s 2).toNat
def nRdD (n : zN) (s : Int) : Bool := decide (0 < nS n s 3) && nRd n (nS n s 3 - 1) (nDl (nS n s 2))
def nIs (n : zN) (s : Int) : Bool := decide (nS n s 0 = 0) || (decide (nS n s 0 = 1) && nRdD n s)
def nGo (n : zN) : Nat → Bool
  | 0 => true
  | t + 1 => nGo n t && (nIs n (nLa n - t) || decide (nS n (nLa n - t) 0 ≠ 1) || decide (n 5 = 1))
def nRe (n : zN) (s : Int) : Bool := nGo n (nLa n - s).toNat && nIs n s
def nSk (n : zN) (f below : Int) : Int := zls (fun s => nRe n s && decide (nEn n s f ≠ -1)) (min below (n 3)).toNat
def nSv (n : zN) (s f : Int) : Int := if s = -1 then -1 else nS n s (6 + 2 * nEn n s f)
def nFv (n : zN) (f below : Int) : Int := nSv n (nSk n f below) f
def nRv (n : zN) (v : Int) : Bool := nRd n (nV n v 1) (nV n v 2)
def nTh (n : zN) (below : Int) : Int := zcn (fun f => decide (nFv n f below ≠ -1)) 0 (n 2).toNat
def nGd (n : zN) (f : Int) : Bool := decide (nFv n f 12 ≠ -1) && nRv n (nFv n f 12)
def nGs (n : zN) : Int := zcn (nGd n) 0 (n 2).toNat
/-- the state is in order: its numbers, blocks, versions, sessions -/
def nWn (n : zN) : Prop :=
  (8 ≤ n 0 ∧ n 0 ≤ 96) ∧ (0 ≤ n 1 ∧ n 1 ≤ 16 ∧ 2 * n 1 ≤ n 0) ∧ (0 ≤ n 2 ∧ n 2 ≤ 10) ∧ (0 ≤ n 3 ∧ n 3 ≤ 12) ∧ (0 ≤ n 4 ∧ n 4 ≤ n 0 - n 1) ∧ (n 5 = 0 ∨ n 5 = 1) ∧ (0 ≤ n 6 ∧ n 6 ≤ 96)
def nWb (n : zN) : Prop :=
  ∀ b, 0 ≤ b → b < 96 → (0 ≤ n (7 + b) ∧ n (7 + b) ≤ 3) ∧ (n (103 + b) = 0 ∨ n (103 + b) = 1) ∧ (n (199 + b) = 0 ∨ n (199 + b) = 1) ∧ (0 ≤ n (295 + b) ∧ n (295 + b) ≤ n 3) ∧ (0 ≤ n (391 + b) ∧ n (391 + b) ≤ n 6) ∧ (0 ≤ n (487 + b) ∧ n (487 + b) ≤ 8) ∧ (0 ≤ n (583 + b) ∧ n (583 + b) ≤ 96) ∧ (n (679 + b) = 0 ∨ (n 0 - n 1 < n (679 + b) ∧ n (679 + b) ≤ n 0 ∧ b < n 4)) ∧ (n (7 + b) = 1 → 1 ≤ n (391 + b)) ∧ (n (7 + b) ≠ 0 → 1 ≤ n (295 + b)) ∧ (n (7 + b) = 0 → n (295 + b) = 0 ∧ n (391 + b) = 0 ∧ n (487 + b) = 0 ∧ n (583 + b) = 0) ∧ (b < n 0 - n 1 → (n (7 + b) = 0 ↔ n 4 ≤ b)) ∧ (b < n 0 - n 1 → (n (7 + b) = 3 ↔ n (679 + b) ≠ 0)) ∧ (n 0 ≤ b → n (7 + b) = 0)
def nWv (n : zN) : Prop :=
  n 6 ≤ n 4 ∧ ∀ v, 0 ≤ v → v < n 6 → (0 ≤ nV n v 0 ∧ nV n v 0 < n 2) ∧ 0 ≤ nV n v 1 ∧ (1 ≤ nV n v 2 ∧ nV n v 2 ≤ 8) ∧ nV n v 1 + nV n v 2 ≤ n 4 ∧ (0 ≤ nV n v 3 ∧ nV n v 3 ≤ 999) ∧ (0 ≤ nV n v 4 ∧ nV n v 4 < n 3) ∧ (∀ s k, 0 ≤ s → s < n 3 → 0 ≤ k → k < nS n s 2 → nS n s (6 + 2 * k) = v → nV n v 0 = nS n s (5 + 2 * k))
def nWs (n : zN) : Prop :=
  ∀ s, 0 ≤ s → s < n 3 → (0 ≤ nS n s 0 ∧ nS n s 0 ≤ 3) ∧ (nS n s 0 = 0 → s = n 3 - 1) ∧ (0 ≤ nS n s 1 ∧ nS n s 1 ≤ 96) ∧ (0 ≤ nS n s 2 ∧ nS n s 2 ≤ zcn (fun f => decide (nEn n s f ≠ -1)) 0 (n 2).toNat) ∧ (0 ≤ nS n s 3 ∧ (0 < nS n s 3 ↔ nS n s 0 = 1) ∧ (0 < nS n s 3 → nS n s 3 - 1 + nDl (nS n s 2) ≤ n 4)) ∧ (nS n s 4 = if 0 < nS n s 3 then zls (fun t => decide (nS n t 0 = 1)) s.toNat + 1 else 0) ∧ (∀ k, 0 ≤ k → k < nS n s 2 → (0 ≤ nS n s (5 + 2 * k) ∧ nS n s (5 + 2 * k) < n 2) ∧ (-1 ≤ nS n s (6 + 2 * k) ∧ nS n s (6 + 2 * k) < n 6))
def nW (n : zN) : Prop := nWn n ∧ nWb n ∧ nWv n ∧ nWs n
/-- how the class holds a session's versions (by the files), and how long its directory is -/
def nX (n : zN) (s f : Int) : Int := if nEn n s f = -1 then -2 else nS n s (6 + 2 * nEn n s f)
def nL (n : zN) (s : Int) : Int := if 0 < nS n s 3 then nDl (nS n s 2) else 0
theorem nX_cg {n n' : zN} {s f : Int} (he : nS n s 2 ≤ 10) (h2 : nS n' s 2 = nS n s 2) (h : ∀ w, 5 ≤ w → w < 25 → nS n' s w = nS n s w) : nX n' s f = nX n s f := by
  have hE : nEn n' s f = nEn n s f := by
    unfold nEn
    rw [h2]
    exact zfs_congr _ _ (fun k h0 h1 => by rw [h _ (by omega) (by omega)])
  have hr := zfs_rng (fun k => decide (nS n s (5 + 2 * k) = f)) (nS n s 2).toNat
  have hr2 : nEn n s f = zfs (fun k => decide (nS n s (5 + 2 * k) = f)) 0 (nS n s 2).toNat := rfl
  unfold nX
  rw [hE]
  by_cases h3 : nEn n s f = -1
  · rw [if_pos h3, if_pos h3]
  · rw [if_neg h3, if_neg h3, h _ (by omega) (by omega)]
theorem nX_0 {n : zN} {s f : Int} (he : nS n s 2 ≤ 0) : nX n s f = -2 := by
  have : nEn n s f = -1 := by
    unfold nEn
    rw [show (nS n s 2).toNat = 0 by omega]
    rfl
  unfold nX
  rw [if_pos this]
theorem nL_cg {n n' : zN} {s : Int} (h2 : nS n' s 2 = nS n s 2) (h3 : nS n' s 3 = nS n s 3) : nL n' s = nL n s := by
  unfold nL
  rw [h2, h3]
theorem zfs_cut {P : Int → Bool} : ∀ (m : Nat) (lo : Int), P (lo + m) = false → zfs P lo (m + 1) = zfs P lo m := by
  intro m
  induction m with
  | zero =>
    intro lo h
    have h : P lo = false := by simpa using h
    simp [zfs, h]
  | succ m ih =>
    intro lo h
    rw [zfs]
    conv => rhs; rw [zfs]
    rw [ih (lo + 1) (by rw [show lo + 1 + (m : Int) = lo + ((m + 1 : Nat) : Int) by omega]; exact h)]
/-- the rows of one of the class's discs show the state n: its blocks, versions, sessions, files -/
def zRk (ρ : Nat → Int → Int) (n : zN) : Prop :=
  ρ 1 0 = n 0 ∧ ρ 1 1 = n 0 - n 1 ∧ ρ 1 2 = n 4 ∧ (∀ b, 0 ≤ b → b < 96 → ρ 2 b = n (7 + b)) ∧ (∀ b, 0 ≤ b → b < 96 → ρ 3 b = n (103 + b)) ∧ (∀ b, 0 ≤ b → b < 96 → ρ 4 b = n (199 + b)) ∧ (∀ b, 0 ≤ b → b < 96 → ρ 5 b = n (295 + b) - 1) ∧ (∀ b, 0 ≤ b → b < 96 → ρ 6 b = n (391 + b) - 1) ∧ (∀ b, 0 ≤ b → b < 96 → ρ 7 b = n (487 + b) - 1) ∧ (∀ b, 0 ≤ b → b < 96 → ρ 8 b = n (583 + b) - 1)
def zRb (ρ : Nat → Int → Int) (n : zN) : Prop :=
  zRk ρ n ∧ (∀ b, 0 ≤ b → b < 96 → ρ 9 b = if b < n 4 then nPl n b else -1)
def zRv (ρ : Nat → Int → Int) (n : zN) : Prop :=
  ρ 10 0 = n 6 ∧ (∀ v, 0 ≤ v → v < n 6 → ρ 11 v = nV n v 0) ∧ (∀ v, 0 ≤ v → v < n 6 → ρ 12 v = nV n v 1) ∧ (∀ v, 0 ≤ v → v < n 6 → ρ 13 v = nV n v 2) ∧ (∀ v, 0 ≤ v → v < n 6 → ρ 14 v = nV n v 3) ∧ (∀ v, 0 ≤ v → v < n 6 → ρ 15 v = nV n v 4)
def zRs (ρ : Nat → Int → Int) (n : zN) : Prop :=
  ρ 16 0 = n 3 ∧ (∀ s, 0 ≤ s → s < n 3 → ρ 17 s = nS n s 0) ∧ (∀ s, 0 ≤ s → s < n 3 → ρ 18 s = nS n s 1) ∧ (∀ s, 0 ≤ s → s < n 3 → ρ 19 s = nS n s 3 - 1) ∧ (∀ s, 0 ≤ s → s < n 3 → ρ 20 s = nS n s 2) ∧ (∀ s k, 0 ≤ s → s < n 3 → 0 ≤ k → k < nS n s 2 → ρ 21 (s * 10 + k) = nS n s (5 + 2 * k)) ∧ (∀ s f, 0 ≤ s → s < n 3 → 0 ≤ f → f < 10 → ρ 22 (s * 10 + f) = nX n s f) ∧ (∀ s, 0 ≤ s → s < n 3 → ρ 24 s = nL n s)
def zRf (ρ : Nat → Int → Int) (n : zN) : Prop :=
  ρ 0 3 = n 2 ∧ ρ 0 5 = n 5
def zRd (ρ : Nat → Int → Int) (n : zN) : Prop := zRb ρ n ∧ zRv ρ n ∧ zRs ρ n ∧ zRf ρ n

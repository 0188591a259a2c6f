/-! Pure level: whole numbers for the machine's, and the world as a function of rows of numbers. -/
def zI (z : Int) : Int32 := Int32.ofInt z
def zJ (z : Int) : Int64 := Int64.ofInt z
def zb (b : Bool) : Int := if b then 1 else 0
theorem zI_add (a b : Int) : zI a + zI b = zI (a + b) := (Int32.ofInt_add a b).symm
theorem zI_sub (a b : Int) : zI a - zI b = zI (a - b) := (Int32.ofInt_sub a b).symm
theorem zI_mul (a b : Int) : zI a * zI b = zI (a * b) := (Int32.ofInt_mul a b).symm
theorem zI_toInt {a : Int} (h : -2147483648 ≤ a) (h2 : a < 2147483648) : (zI a).toInt = a := Int32.toInt_ofInt_of_le (by omega) (by omega)
theorem zI_of (x : Int32) : zI x.toInt = x := Int32.ofInt_toInt x
theorem zI_lt {a b : Int} (h : -2147483648 ≤ a) (h2 : a < 2147483648) (h3 : -2147483648 ≤ b) (h4 : b < 2147483648) : (zI a < zI b) = (a < b) := by
  rw [Int32.lt_iff_toInt_lt, zI_toInt h h2, zI_toInt h3 h4]
theorem zI_le {a b : Int} (h : -2147483648 ≤ a) (h2 : a < 2147483648) (h3 : -2147483648 ≤ b) (h4 : b < 2147483648) : (zI a ≤ zI b) = (a ≤ b) := by
  rw [Int32.le_iff_toInt_le, zI_toInt h h2, zI_toInt h3 h4]
theorem zI_eq {a b : Int} (h : -2147483648 ≤ a) (h2 : a < 2147483648) (h3 : -2147483648 ≤ b) (h4 : b < 2147483648) : (zI a = zI b) = (a = b) := by
  rw [← Int32.toInt_inj, zI_toInt h h2, zI_toInt h3 h4]
theorem zI_nat {a : Int} (h : -2147483648 ≤ a) (h2 : a < 2147483648) : (zI a).toNatClampNeg = a.toNat := Int32.toNatClampNeg_ofInt_of_le (by omega) (by omega)
theorem zI_mn : Int32.minValue.toInt = -2147483648 := by decide
theorem zI_mx : Int32.maxValue.toInt = 2147483647 := by decide
theorem zI_div {a b : Int} (h : -2147483648 ≤ a) (h2 : a < 2147483648) (h3 : -2147483648 ≤ b) (h4 : b < 2147483648) : zI a / zI b = zI (a.tdiv b) := (Int32.ofInt_tdiv (by rw [zI_mn]; omega) (by rw [zI_mx]; omega) (by rw [zI_mn]; omega) (by rw [zI_mx]; omega)).symm
theorem zI_mod {a b : Int} (h : -2147483648 ≤ a) (h2 : a < 2147483648) (h3 : -2147483648 ≤ b) (h4 : b < 2147483648) : zI a % zI b = zI (a.tmod b) := (Int32.ofInt_tmod (by rw [zI_mn]; omega) (by rw [zI_mx]; omega) (by rw [zI_mn]; omega) (by rw [zI_mx]; omega)).symm
theorem zI_rng (x : Int32) : -2147483648 ≤ x.toInt ∧ x.toInt < 2147483648 := ⟨by have := x.le_toInt; omega, by have := x.toInt_lt; omega⟩
theorem zI_ofNat (n : Nat) : Int32.ofNat n = zI n := by unfold zI; rw [Int32.ofInt_eq_ofNat]
theorem zI_nI (n : Nat) : nI n = zI n := zI_ofNat n
theorem zJ_add (a b : Int) : zJ a + zJ b = zJ (a + b) := (Int64.ofInt_add a b).symm
theorem zJ_mul (a b : Int) : zJ a * zJ b = zJ (a * b) := (Int64.ofInt_mul a b).symm
theorem zJ_toInt {a : Int} (h : -9223372036854775808 ≤ a) (h2 : a < 9223372036854775808) : (zJ a).toInt = a := Int64.toInt_ofInt_of_le (by omega) (by omega)
theorem zJ_eq {a b : Int} (h : -9223372036854775808 ≤ a) (h2 : a < 9223372036854775808) (h3 : -9223372036854775808 ≤ b) (h4 : b < 9223372036854775808) : (zJ a = zJ b) = (a = b) := by
  rw [← Int64.toInt_inj, zJ_toInt h h2, zJ_toInt h3 h4]
theorem zJ_of (x : Int64) : zJ x.toInt = x := Int64.ofInt_toInt x
theorem zJ_I {a : Int} (h : -2147483648 ≤ a) (h2 : a < 2147483648) : (zI a).toInt64 = zJ a := by
  rw [← Int64.toInt_inj, Int32.toInt_toInt64, zI_toInt h h2, zJ_toInt (by omega) (by omega)]
theorem lg_cmp0 (x y : Int64) : (lg_cmp x y = 0) = (x = y) := by
  unfold lg_cmp
  by_cases h : x = y
  · subst h
    have h1 : ¬ (x > x) := by
      intro h
      rw [gt_iff_lt, Int64.lt_iff_toInt_lt] at h
      omega
    simp [h1]
  · by_cases h2 : x > y
    · simp [h, h2]
    · simp [h, h2]
theorem z_ite_zI (c : Prop) [Decidable c] (a b : Int) : (if c then zI a else zI b) = zI (if c then a else b) := by split <;> rfl
theorem zz_lit : ((0 : Int32) = zI 0) ∧ ((1 : Int32) = zI 1) ∧ ((2 : Int32) = zI 2) ∧ ((3 : Int32) = zI 3) ∧ ((4 : Int32) = zI 4) ∧ ((5 : Int32) = zI 5) ∧ ((6 : Int32) = zI 6) ∧ ((7 : Int32) = zI 7) ∧ ((8 : Int32) = zI 8) ∧ ((9 : Int32) = zI 9) ∧ ((10 : Int32) = zI 10) ∧ ((11 : Int32) = zI 11) ∧ ((12 : Int32) = zI 12) ∧ ((16 : Int32) = zI 16) ∧ ((20 : Int32) = zI 20) ∧ ((24 : Int32) = zI 24) ∧ ((25 : Int32) = zI 25) ∧ ((32 : Int32) = zI 32) ∧ ((48 : Int32) = zI 48) ∧ ((57 : Int32) = zI 57) ∧ ((59 : Int32) = zI 59) ∧ ((96 : Int32) = zI 96) ∧ ((120 : Int32) = zI 120) ∧ ((97 : Int32) = zI 97) ∧ ((103 : Int32) = zI 103) ∧ ((122 : Int32) = zI 122) ∧ ((199 : Int32) = zI 199) ∧ ((255 : Int32) = zI 255) ∧ ((295 : Int32) = zI 295) ∧ ((391 : Int32) = zI 391) ∧ ((487 : Int32) = zI 487) ∧ ((583 : Int32) = zI 583) ∧ ((600 : Int32) = zI 600) ∧ ((679 : Int32) = zI 679) ∧ ((775 : Int32) = zI 775) ∧ ((999 : Int32) = zI 999) ∧ ((1255 : Int32) = zI 1255) ∧ ((1555 : Int32) = zI 1555) ∧ ((-1 : Int32) = zI (-1)) ∧ ((-8 : Int32) = zI (-8)) ∧ ((-2 : Int32) = zI (-2)) := by
  refine ⟨rfl, rfl, rfl, rfl, rfl, rfl, rfl, rfl, rfl, rfl, rfl, rfl, rfl, rfl, rfl, rfl, rfl, rfl, rfl, rfl, rfl, rfl, rfl, rfl, rfl, rfl, rfl, rfl, rfl, rfl, rfl, rfl, rfl, rfl, rfl, rfl, rfl, rfl, rfl, rfl, rfl⟩
theorem zI_neg (a : Int) : -zI a = zI (-a) := Int32.neg_ofInt
theorem zz_num : (∀ a : Int, -zI a = zI (-a)) ∧ (∀ a b : Int, zI a + zI b = zI (a + b)) ∧ (∀ a b : Int, zI a - zI b = zI (a - b)) ∧ (∀ a b : Int, zI a * zI b = zI (a * b)) := ⟨zI_neg, zI_add, zI_sub, zI_mul⟩
theorem zz_some {α β : Type} (a : α) (f : α → Option β) : (some a).bind f = f a := (fun h : (some a).bind f = f a => h) rfl
/-! The world: a cell is (kind, which one, which cell of it); a row of numbers each. -/
abbrev zW : Type := Nat → Nat → Nat → Int → Int
abbrev zE : Type := (Nat → Nat × Nat × Nat) × (Nat → Nat → Bool) × (Nat → Nat → Nat → Nat)
def zO (E : zE) (q : Nat) : Nat × Nat × Nat := E.1 q
def zU (E : zE) (k d : Nat) : Bool := E.2.1 k d
def zL (E : zE) (k d c : Nat) : Nat := E.2.2 k d c
def zA (k c : Nat) : Option (Nat × Nat) := match k, c with
  | 0, 2 => some (0, 96)
  | 0, 3 => some (1, 96)
  | 0, 4 => some (1, 96)
  | 0, 5 => some (0, 96)
  | 0, 6 => some (0, 96)
  | 0, 7 => some (0, 96)
  | 0, 8 => some (0, 96)
  | 0, 9 => some (0, 96)
  | 0, 11 => some (0, 96)
  | 0, 12 => some (0, 96)
  | 0, 13 => some (0, 96)
  | 0, 14 => some (0, 96)
  | 0, 15 => some (0, 96)
  | 0, 17 => some (0, 12)
  | 0, 18 => some (0, 12)
  | 0, 19 => some (0, 12)
  | 0, 20 => some (0, 12)
  | 0, 21 => some (0, 120)
  | 0, 22 => some (0, 120)
  | 0, 23 => some (3, 10)
  | 0, 24 => some (0, 12)
  | 1, 1 => some (1, 12)
  | 1, 2 => some (0, 10)
  | 1, 3 => some (0, 10)
  | 1, 4 => some (1, 10)
  | 2, 2 => some (0, 600)
  | 2, 5 => some (4, 10)
  | 2, 7 => some (1, 2)
  | 2, 8 => some (4, 2)
  | 2, 9 => some (3, 10)
  | 2, 10 => some (0, 120)
  | 2, 11 => some (0, 120)
  | 2, 12 => some (0, 120)
  | 2, 13 => some (0, 120)
  | 2, 14 => some (0, 120)
  | 2, 15 => some (1, 96)
  | 2, 17 => some (0, 600)
  | 2, 18 => some (0, 600)
  | 2, 19 => some (3, 600)
  | 5, 7 => some (0, 96)
  | 5, 8 => some (0, 96)
  | 5, 9 => some (0, 96)
  | 5, 10 => some (0, 96)
  | 5, 11 => some (0, 96)
  | 5, 12 => some (1, 96)
  | 5, 13 => some (1, 96)
  | 5, 14 => some (6, 96)
  | 5, 15 => some (6, 96)
  | 5, 16 => some (5, 12)
  | 6, 6 => some (0, 10)
  | 6, 7 => some (0, 3)
  | 6, 8 => some (6, 10)
  | 7, 6 => some (0, 8)
  | 8, 0 => some (6, 10)
  | _, _ => none
def zB (E : zE) (k d c : Nat) (r : Int → Int) : Option (Nat × List Value) := match k, c with
  | 0, 0 => some (1, [.ref (zL E 0 d 1), .ref (zL E 0 d 10), .ref (zL E 0 d 16), .int (zI (r 3)), .ref (zL E 0 d 23), .int (zI (r 5)), .ref (zL E 1 d 0)])
  | 0, 1 => some (0, [.int (zI (r 0)), .int (zI (r 1)), .int (zI (r 2)), .ref (zL E 0 d 2), .ref (zL E 0 d 3), .ref (zL E 0 d 4), .ref (zL E 0 d 5), .ref (zL E 0 d 6), .ref (zL E 0 d 7), .ref (zL E 0 d 8), .ref (zL E 0 d 9)])
  | 0, 10 => some (7, [.int (zI (r 0)), .ref (zL E 0 d 11), .ref (zL E 0 d 12), .ref (zL E 0 d 13), .ref (zL E 0 d 14), .ref (zL E 0 d 15)])
  | 0, 16 => some (5, [.int (zI (r 0)), .ref (zL E 0 d 17), .ref (zL E 0 d 18), .ref (zL E 0 d 19), .ref (zL E 0 d 24), .ref (zL E 0 d 20), .ref (zL E 0 d 21), .ref (zL E 0 d 22)])
  | 1, 0 => some (8, [.int (zI (r 0)), .ref (zL E 1 d 1), .ref (zL E 1 d 2), .ref (zL E 1 d 3), .ref (zL E 1 d 4)])
  | 2, 0 => some (9, [.ref (zL E 2 d 1), .ref (zL E 2 d 3), .ref (zL E 2 d 4), .ref (zL E 2 d 6), .ref (zL E 1 14 0), .ref (zL E 0 (r 5).toNat 0), .ref (zL E 0 (r 6).toNat 0)])
  | 2, 1 => some (3, [.ref (zL E 2 d 2), .int (zI (r 1))])
  | 2, 3 => some (4, [.int (zI (r 0)), .int (zI (r 1)), .int (zI (r 2)), .int (zI (r 3)), .int (zI (r 4)), .ref (zL E 2 d 9), .int (zI (r 6)), .ref (zL E 2 d 10), .ref (zL E 2 d 11), .ref (zL E 2 d 12), .ref (zL E 2 d 13), .ref (zL E 2 d 14), .ref (zL E 2 d 15), .ref (zL E 2 d 16), .int (zI (r 14))])
  | 2, 4 => some (2, [.int (zI (r 0)), .int (zI (r 1)), .ref (zL E 2 d 5)])
  | 2, 6 => some (6, [.ref (zL E 2 d 7), .ref (zL E 2 d 8)])
  | 2, 16 => some (11, [.int (zI (r 0)), .int (zI (r 1)), .ref (zL E 2 d 17), .ref (zL E 2 d 18), .ref (zL E 2 d 19)])
  | 5, 0 => some (10, [.int (zI (r 0)), .int (zI (r 1)), .int (zI (r 2)), .int (zI (r 3)), .int (zI (r 4)), .int (zI (r 5)), .int (zI (r 6)), .ref (zL E 5 d 7), .ref (zL E 5 d 8), .ref (zL E 5 d 9), .ref (zL E 5 d 10), .ref (zL E 5 d 11), .ref (zL E 5 d 12), .ref (zL E 5 d 13), .ref (zL E 5 d 14), .ref (zL E 5 d 15), .ref (zL E 5 d 16)])
  | 6, 0 => some (12, [.int (zI (r 0)), .int (zI (r 1)), .int (zI (r 2)), .int (zI (r 3)), .int (zI (r 4)), .int (zI (r 5)), .ref (zL E 6 d 6), .ref (zL E 6 d 7), .ref (zL E 6 d 8)])
  | 7, 0 => some (13, [.int (zI (r 0)), .int (zI (r 1)), .int (zI (r 2)), .int (zI (r 3)), .int (zI (r 4)), .int (zI (r 5)), .ref (zL E 7 d 6)])
  | _, _ => none
def zk (k c : Nat) : Bool := (zA k c).isSome || (zB (fun _ => (0, 0, 0), fun _ _ => false, fun _ _ _ => 0) k 0 c (fun _ => 0)).isSome
def zg (E : zE) (t n : Nat) (r : Int → Int) : gE := match t with
  | 0 => .inl (0, n, fun j => zI (r j))
  | 1 => .inl (1, n, fun j => zI (r j))
  | 2 => .inl (2, n, fun j => zI (r j))
  | 3 => .inr (.inl (n, fun j => zJ (r j)))
  | 4 => .inr (.inr (.inl (4, n, fun j => if r j = 0 then none else some (zL E 0 (r j - 1).toNat 0))))
  | 5 => .inr (.inr (.inl (5, n, fun j => if r j = 0 then none else some (zL E 6 (r j - 1).toNat 0))))
  | _ => .inr (.inr (.inl (6, n, fun j => if r j = 0 then none else some (zL E 7 (r j - 1).toNat 0))))
def zC (E : zE) (k d c : Nat) (r : Int → Int) : Option gE := match zA k c with
  | some (t, n) => some (zg E t n r)
  | none => (zB E k d c r).map fun p => .inr (.inr (.inr p))
def zH (E : zE) (σ : zW) : gH := fun q => if zU E (zO E q).1 (zO E q).2.1 = true then zC E (zO E q).1 (zO E q).2.1 (zO E q).2.2 (σ (zO E q).1 (zO E q).2.1 (zO E q).2.2) else none
def zWF (E : zE) : Prop := ∀ k d c, zU E k d = true → zk k c = true → ∀ q, zO E q = (k, d, c) ↔ q = zL E k d c
def zr (σ : zW) (k d c : Nat) (r : Int → Int) : zW := fun k' d' c' => if k' = k ∧ d' = d ∧ c' = c then r else σ k' d' c'
def zs (σ : zW) (k d c : Nat) (i v : Int) : zW := fun k' d' c' i' => if k' = k ∧ d' = d ∧ c' = c ∧ i' = i then v else σ k' d' c' i'
theorem zs_r (σ : zW) (k d c : Nat) (i v : Int) : zr σ k d c (fun i' => if i' = i then v else σ k d c i') = zs σ k d c i v := by
  funext k' d' c' i'
  unfold zr zs
  by_cases h : k' = k ∧ d' = d ∧ c' = c
  · obtain ⟨rfl, rfl, rfl⟩ := h
    simp
  · rw [if_neg h, if_neg (fun z => h ⟨z.1, z.2.1, z.2.2.1⟩)]
section zH
variable {E : zE} {σ : zW} {k d c : Nat}
theorem zH_at (hW : zWF E) (hu : zU E k d = true) (hk : zk k c = true) : zH E σ (zL E k d c) = zC E k d c (σ k d c) := by
  have h : zO E (zL E k d c) = (k, d, c) := (hW k d c hu hk _).mpr rfl
  simp only [zH, h, hu, if_true]
theorem zH_up (hW : zWF E) (hu : zU E k d = true) (hk : zk k c = true) {e : gE} {r : Int → Int} (he : zC E k d c r = some e) : va_up (zH E σ) (zL E k d c) (some e) = zH E (zr σ k d c r) := by
  funext q
  by_cases h : q = zL E k d c
  · subst h
    rw [zH_at hW hu hk]
    simp [va_up, zr, he]
  · have h2 : ¬ ((zO E q).1 = k ∧ (zO E q).2.1 = d ∧ (zO E q).2.2 = c) := fun z => h ((hW k d c hu hk q).mp (by rw [← z.1, ← z.2.1, ← z.2.2]))
    simp only [va_up, if_neg h, zH, zr, if_neg h2]
theorem zV {r : Nat × List Value} (hW : zWF E) (hu : zU E k d = true) (hk : zk k c = true) (ha : zA k c = none) (hb : zB E k d c (σ k d c) = some r) (f : Nat) : g_V (zH E σ) (zL E k d c) r.1 f = r.2[f]? := by
  unfold g_V
  rw [zH_at hW hu hk]
  unfold zC
  rw [ha, hb]
  simp
theorem zPut {ci : Nat} {fs fs' : List Value} {r : Int → Int} (hW : zWF E) (hu : zU E k d = true) (hk : zk k c = true) (ha : zA k c = none) (hb : zB E k d c (σ k d c) = some (ci, fs)) {f : Nat} {v : Value} (hf : f < fs.length) (hs : fs.set f v = fs') (hb2 : zB E k d c r = some (ci, fs')) : g_put (zH E σ) (zL E k d c) ci f v = some (zH E (zr σ k d c r)) := by
  subst hs
  unfold g_put
  rw [zH_at hW hu hk]
  have h1 : zC E k d c (σ k d c) = some (.inr (.inr (.inr (ci, fs)))) := by unfold zC; rw [ha, hb]; rfl
  have h2 : zC E k d c r = some (.inr (.inr (.inr (ci, fs.set f v)))) := by unfold zC; rw [ha, hb2]; rfl
  rw [h1]
  simp only [hf, and_self, if_true]
  rw [zH_up hW hu hk h2]
theorem zOb {ci : Nat} {fs : List Value} (hW : zWF E) (hu : zU E k d = true) (hk : zk k c = true) (ha : zA k c = none) (hb : zB E k d c (σ k d c) = some (ci, fs)) : g_ob (zH E σ) (zL E k d c) ci = some () := by
  unfold g_ob
  rw [zH_at hW hu hk]
  unfold zC
  rw [ha, hb]
  simp
theorem zAt {t n : Nat} (hW : zWF E) (hu : zU E k d = true) (ha : zA k c = some (t, n)) : zH E σ (zL E k d c) = some (zg E t n (σ k d c)) := by
  rw [zH_at hW hu (by unfold zk; rw [ha]; rfl)]
  unfold zC
  rw [ha]
theorem zUp {t n : Nat} {r : Int → Int} (hW : zWF E) (hu : zU E k d = true) (ha : zA k c = some (t, n)) : va_up (zH E σ) (zL E k d c) (some (zg E t n r)) = zH E (zr σ k d c r) := by
  refine zH_up hW hu (by unfold zk; rw [ha]; rfl) ?_
  unfold zC
  rw [ha]
theorem zIn {n : Nat} {i : Int} (h0 : 0 ≤ i) (h1 : i < n) (hn : n < 2147483648) : ¬ (zI i < 0 ∨ n ≤ (zI i).toNatClampNeg) := by
  rw [show (0 : Int32) = zI 0 from rfl, zI_lt (by omega) (by omega) (by omega) (by omega), zI_nat (by omega) (by omega)]
  omega
theorem zAld {t n : Nat} (hW : zWF E) (hu : zU E k d = true) (ha : zA k c = some (t, n)) (ht : t < 3) (hn : n < 2147483648) {i : Int} (h0 : 0 ≤ i) (h1 : i < n) : g_ald t (zH E σ) (zL E k d c) (zI i) = some (zI (σ k d c i)) := by
  have h2 := zIn h0 h1 hn
  unfold g_ald
  rw [zAt hW hu ha]
  have h3 : (zI i).toNatClampNeg = i.toNat := zI_nat (by omega) (by omega)
  rw [h3] at h2
  rcases (by omega : t = 0 ∨ t = 1 ∨ t = 2) with rfl | rfl | rfl <;> simp only [zg, h2, not_false_eq_true, and_self, if_true, h3, Int.toNat_of_nonneg h0]
theorem zAst {t n : Nat} (hW : zWF E) (hu : zU E k d = true) (ha : zA k c = some (t, n)) (ht : t < 3) (hn : n < 2147483648) {i v : Int} (h0 : 0 ≤ i) (h1 : i < n) (hv : g_nar t (zI v) = zI v) : g_ast t (zH E σ) (zL E k d c) (zI i) (zI v) = some (zH E (zs σ k d c i v)) := by
  have h2 := zIn h0 h1 hn
  have h3 : (zI i).toNatClampNeg = i.toNat := zI_nat (by omega) (by omega)
  rw [h3] at h2
  have h4 : ∀ j : Nat, (upd (fun j : Nat => zI (σ k d c j)) i.toNat (zI v)) j = zI ((fun i' => if i' = i then v else σ k d c i') (j : Int)) := by
    intro j
    unfold upd
    by_cases hj : j = i.toNat
    · subst hj
      simp [Int.toNat_of_nonneg h0]
    · rw [if_neg hj]
      show _ = zI (if (j : Int) = i then v else σ k d c j)
      rw [if_neg (by omega)]
  unfold g_ast
  rw [zAt hW hu ha, ← zs_r, ← zUp hW hu ha]
  rcases (by omega : t = 0 ∨ t = 1 ∨ t = 2) with rfl | rfl | rfl <;> simp only [zg, h2, not_false_eq_true, and_self, if_true, h3, hv, funext h4]
theorem zLald {n : Nat} (hW : zWF E) (hu : zU E k d = true) (ha : zA k c = some (3, n)) (hn : n < 2147483648) {i : Int} (h0 : 0 ≤ i) (h1 : i < n) : g_lald (zH E σ) (zL E k d c) (zI i) = some (zJ (σ k d c i)) := by
  have h2 := zIn h0 h1 hn
  have h3 : (zI i).toNatClampNeg = i.toNat := zI_nat (by omega) (by omega)
  rw [h3] at h2
  unfold g_lald
  rw [zAt hW hu ha]
  simp only [zg, h2, not_false_eq_true, if_true, h3, Int.toNat_of_nonneg h0]
theorem zLast {n : Nat} (hW : zWF E) (hu : zU E k d = true) (ha : zA k c = some (3, n)) (hn : n < 2147483648) {i v : Int} (h0 : 0 ≤ i) (h1 : i < n) : g_last (zH E σ) (zL E k d c) (zI i) (zJ v) = some (zH E (zs σ k d c i v)) := by
  have h2 := zIn h0 h1 hn
  have h3 : (zI i).toNatClampNeg = i.toNat := zI_nat (by omega) (by omega)
  rw [h3] at h2
  have h4 : ∀ j : Nat, (vp_updL (fun j : Nat => zJ (σ k d c j)) i.toNat (zJ v)) j = zJ ((fun i' => if i' = i then v else σ k d c i') (j : Int)) := by
    intro j
    unfold vp_updL
    by_cases hj : j = i.toNat
    · subst hj
      simp [Int.toNat_of_nonneg h0]
    · rw [if_neg hj]
      show _ = zJ (if (j : Int) = i then v else σ k d c j)
      rw [if_neg (by omega)]
  unfold g_last
  rw [zAt hW hu ha, ← zs_r, ← zUp hW hu ha]
  simp only [zg, h2, not_false_eq_true, if_true, h3, funext h4]
theorem zQald {n : Nat} (hW : zWF E) (hu : zU E k d = true) (ha : zA k c = some (4, n)) (hn : n < 2147483648) {i : Int} (h0 : 0 ≤ i) (h1 : i < n) : g_qald (zH E σ) (zL E k d c) (zI i) = some (if σ k d c i = 0 then none else some (zL E 0 (σ k d c i - 1).toNat 0)) := by
  have h2 := zIn h0 h1 hn
  have h3 : (zI i).toNatClampNeg = i.toNat := zI_nat (by omega) (by omega)
  rw [h3] at h2
  unfold g_qald
  rw [zAt hW hu ha]
  simp only [zg, h2, not_false_eq_true, and_self, if_true, h3, Int.toNat_of_nonneg h0]
theorem zRald5 {n : Nat} (hW : zWF E) (hu : zU E k d = true) (ha : zA k c = some (5, n)) (hn : n < 2147483648) {i : Int} (h0 : 0 ≤ i) (h1 : i < n) : g_rald 5 (zH E σ) (zL E k d c) (zI i) = some (if σ k d c i = 0 then none else some (zL E 6 (σ k d c i - 1).toNat 0)) := by
  have h2 := zIn h0 h1 hn
  have h3 : (zI i).toNatClampNeg = i.toNat := zI_nat (by omega) (by omega)
  rw [h3] at h2
  unfold g_rald
  rw [zAt hW hu ha]
  simp only [zg, h2, not_false_eq_true, and_self, if_true, h3, Int.toNat_of_nonneg h0]
theorem zRald6 {n : Nat} (hW : zWF E) (hu : zU E k d = true) (ha : zA k c = some (6, n)) (hn : n < 2147483648) {i : Int} (h0 : 0 ≤ i) (h1 : i < n) : g_rald 6 (zH E σ) (zL E k d c) (zI i) = some (if σ k d c i = 0 then none else some (zL E 7 (σ k d c i - 1).toNat 0)) := by
  have h2 := zIn h0 h1 hn
  have h3 : (zI i).toNatClampNeg = i.toNat := zI_nat (by omega) (by omega)
  rw [h3] at h2
  unfold g_rald
  rw [zAt hW hu ha]
  simp only [zg, h2, not_false_eq_true, and_self, if_true, h3, Int.toNat_of_nonneg h0]
/-- a row of references: storing one, or null -/
theorem zRast {t kk n : Nat} (hW : zWF E) (hu : zU E k d = true) (ha : zA k c = some (t, n)) (ht : (t = 5 ∧ kk = 6) ∨ (t = 6 ∧ kk = 7)) (hn : n < 2147483648) {i v : Int} (h0 : 0 ≤ i) (h1 : i < n) : g_rast t (zH E σ) (zL E k d c) (zI i) (if v = 0 then none else some (zL E kk (v - 1).toNat 0)) = some (zH E (zs σ k d c i v)) := by
  have h2 := zIn h0 h1 hn
  have h3 : (zI i).toNatClampNeg = i.toNat := zI_nat (by omega) (by omega)
  rw [h3] at h2
  have h4 : (va_up (fun j : Nat => if σ k d c j = 0 then none else some (zL E kk (σ k d c j - 1).toNat 0)) i.toNat (if v = 0 then none else some (zL E kk (v - 1).toNat 0))) = (fun j : Nat => if (fun i' => if i' = i then v else σ k d c i') (j : Int) = 0 then none else some (zL E kk ((fun i' => if i' = i then v else σ k d c i') (j : Int) - 1).toNat 0)) := by
    funext j
    unfold va_up
    by_cases hj : j = i.toNat
    · subst hj
      simp [Int.toNat_of_nonneg h0]
    · rw [if_neg hj]
      have : ¬ (j : Int) = i := by omega
      simp [this]
  unfold g_rast
  rw [zAt hW hu ha, ← zs_r, ← zUp hW hu ha]
  rcases ht with ⟨rfl, rfl⟩ | ⟨rfl, rfl⟩
  · simp only [zg, h2, not_false_eq_true, and_self, if_true, h3, h4]
  · simp only [zg, h2, not_false_eq_true, and_self, if_true, h3, h4]
theorem zLen {t n : Nat} (hW : zWF E) (hu : zU E k d = true) (ha : zA k c = some (t, n)) (ht : t < 5 := by first | decide | omega) : g_len (zH E σ) (zL E k d c) = some (zI n) := by
  unfold g_len
  rw [zAt hW hu ha]
  rcases (by omega : t = 0 ∨ t = 1 ∨ t = 2 ∨ t = 3 ∨ t = 4) with rfl | rfl | rfl | rfl | rfl <;> simp [zg, zI_ofNat]
theorem g_nar0 (x : Int32) : g_nar 0 x = x := rfl
theorem g_nar1 (b : Bool) : g_nar 1 (zI (zb b)) = zI (zb b) := by cases b <;> rfl
theorem g_nar10 : g_nar 1 (zI 0) = zI 0 := rfl
theorem g_nar11 : g_nar 1 (zI 1) = zI 1 := rfl
theorem g_zb (b : Bool) : g_z (zI (zb b)) = some (zI (zb b)) := by cases b <;> rfl
theorem g_z0 : g_z (zI 0) = some (zI 0) := rfl
theorem g_z1 : g_z (zI 1) = some (zI 1) := rfl

theorem zg_dc0 (hW : zWF E) (hu : zU E 0 d = true) : (g_r (zH E σ) (zL E 0 d 0) 1 0 = some (zL E 0 d 1)) := by unfold g_r; rw [show g_V (zH E σ) (zL E 0 d 0) 1 0 = _ from (zV (E := E) (σ := σ) (k := 0) (d := d) (c := 0) hW hu rfl rfl rfl 0)]; rfl
theorem zg_dc1 (hW : zWF E) (hu : zU E 0 d = true) : (g_r (zH E σ) (zL E 0 d 0) 1 1 = some (zL E 0 d 10)) := by unfold g_r; rw [show g_V (zH E σ) (zL E 0 d 0) 1 1 = _ from (zV (E := E) (σ := σ) (k := 0) (d := d) (c := 0) hW hu rfl rfl rfl 1)]; rfl
theorem zg_dc2 (hW : zWF E) (hu : zU E 0 d = true) : (g_r (zH E σ) (zL E 0 d 0) 1 2 = some (zL E 0 d 16)) := by unfold g_r; rw [show g_V (zH E σ) (zL E 0 d 0) 1 2 = _ from (zV (E := E) (σ := σ) (k := 0) (d := d) (c := 0) hW hu rfl rfl rfl 2)]; rfl
theorem zg_dc3 (hW : zWF E) (hu : zU E 0 d = true) : (g_i (zH E σ) (zL E 0 d 0) 1 3 = some (zI (σ 0 d 0 3))) := by unfold g_i; rw [show g_V (zH E σ) (zL E 0 d 0) 1 3 = _ from (zV (E := E) (σ := σ) (k := 0) (d := d) (c := 0) hW hu rfl rfl rfl 3)]; rfl
theorem zp_dc3 (hW : zWF E) (hu : zU E 0 d = true) : (∀ v : Int, g_put (zH E σ) (zL E 0 d 0) 1 3 (.int (zI v)) = some (zH E (zs σ 0 d 0 3 v))) := fun v => by rw [← zs_r]; exact zPut hW hu rfl rfl rfl (by simp) rfl rfl
theorem zg_dc4 (hW : zWF E) (hu : zU E 0 d = true) : (g_r (zH E σ) (zL E 0 d 0) 1 4 = some (zL E 0 d 23)) := by unfold g_r; rw [show g_V (zH E σ) (zL E 0 d 0) 1 4 = _ from (zV (E := E) (σ := σ) (k := 0) (d := d) (c := 0) hW hu rfl rfl rfl 4)]; rfl
theorem zg_dc5 (hW : zWF E) (hu : zU E 0 d = true) : (g_i (zH E σ) (zL E 0 d 0) 1 5 = some (zI (σ 0 d 0 5))) := by unfold g_i; rw [show g_V (zH E σ) (zL E 0 d 0) 1 5 = _ from (zV (E := E) (σ := σ) (k := 0) (d := d) (c := 0) hW hu rfl rfl rfl 5)]; rfl
theorem zp_dc5 (hW : zWF E) (hu : zU E 0 d = true) : (∀ v : Int, g_put (zH E σ) (zL E 0 d 0) 1 5 (.int (zI v)) = some (zH E (zs σ 0 d 0 5 v))) := fun v => by rw [← zs_r]; exact zPut hW hu rfl rfl rfl (by simp) rfl rfl
theorem zg_dc6 (hW : zWF E) (hu : zU E 0 d = true) : (g_r (zH E σ) (zL E 0 d 0) 1 6 = some (zL E 1 d 0)) := by unfold g_r; rw [show g_V (zH E σ) (zL E 0 d 0) 1 6 = _ from (zV (E := E) (σ := σ) (k := 0) (d := d) (c := 0) hW hu rfl rfl rfl 6)]; rfl
set_option maxRecDepth 20000 in
theorem zz_dco (hW : zWF E) (hu : zU E 0 d = true) : (g_r (zH E σ) (zL E 0 d 0) 1 0 = some (zL E 0 d 1)) ∧ (g_r (zH E σ) (zL E 0 d 0) 1 1 = some (zL E 0 d 10)) ∧ (g_r (zH E σ) (zL E 0 d 0) 1 2 = some (zL E 0 d 16)) ∧ (g_r (zH E σ) (zL E 0 d 0) 1 4 = some (zL E 0 d 23)) ∧ (g_r (zH E σ) (zL E 0 d 0) 1 6 = some (zL E 1 d 0)) ∧ (g_ob (zH E σ) (zL E 0 d 0) 1 = some ()) := by
  refine ⟨?_, ?_, ?_, ?_, ?_, ?_⟩
  · exact by unfold g_r; rw [show g_V (zH E σ) (zL E 0 d 0) 1 0 = _ from (zV (E := E) (σ := σ) (k := 0) (d := d) (c := 0) hW hu rfl rfl rfl 0)]; rfl
  · exact by unfold g_r; rw [show g_V (zH E σ) (zL E 0 d 0) 1 1 = _ from (zV (E := E) (σ := σ) (k := 0) (d := d) (c := 0) hW hu rfl rfl rfl 1)]; rfl
  · exact by unfold g_r; rw [show g_V (zH E σ) (zL E 0 d 0) 1 2 = _ from (zV (E := E) (σ := σ) (k := 0) (d := d) (c := 0) hW hu rfl rfl rfl 2)]; rfl
  · exact by unfold g_r; rw [show g_V (zH E σ) (zL E 0 d 0) 1 4 = _ from (zV (E := E) (σ := σ) (k := 0) (d := d) (c := 0) hW hu rfl rfl rfl 4)]; rfl
  · exact by unfold g_r; rw [show g_V (zH E σ) (zL E 0 d 0) 1 6 = _ from (zV (E := E) (σ := σ) (k := 0) (d := d) (c := 0) hW hu rfl rfl rfl 6)]; rfl
  · exact zOb hW hu rfl rfl rfl
set_option maxRecDepth 20000 in
theorem zz_dc (hW : zWF E) (hu : zU E 0 d = true) : (g_r (zH E σ) (zL E 0 d 0) 1 0 = some (zL E 0 d 1)) ∧ (g_r (zH E σ) (zL E 0 d 0) 1 1 = some (zL E 0 d 10)) ∧ (g_r (zH E σ) (zL E 0 d 0) 1 2 = some (zL E 0 d 16)) ∧ (g_i (zH E σ) (zL E 0 d 0) 1 3 = some (zI (σ 0 d 0 3))) ∧ (∀ v : Int, g_put (zH E σ) (zL E 0 d 0) 1 3 (.int (zI v)) = some (zH E (zs σ 0 d 0 3 v))) ∧ (g_r (zH E σ) (zL E 0 d 0) 1 4 = some (zL E 0 d 23)) ∧ (g_i (zH E σ) (zL E 0 d 0) 1 5 = some (zI (σ 0 d 0 5))) ∧ (∀ v : Int, g_put (zH E σ) (zL E 0 d 0) 1 5 (.int (zI v)) = some (zH E (zs σ 0 d 0 5 v))) ∧ (g_r (zH E σ) (zL E 0 d 0) 1 6 = some (zL E 1 d 0)) ∧ (g_ob (zH E σ) (zL E 0 d 0) 1 = some ()) := by
  refine ⟨?_, ?_, ?_, ?_, ?_, ?_, ?_, ?_, ?_, ?_⟩
  · exact by unfold g_r; rw [show g_V (zH E σ) (zL E 0 d 0) 1 0 = _ from (zV (E := E) (σ := σ) (k := 0) (d := d) (c := 0) hW hu rfl rfl rfl 0)]; rfl
  · exact by unfold g_r; rw [show g_V (zH E σ) (zL E 0 d 0) 1 1 = _ from (zV (E := E) (σ := σ) (k := 0) (d := d) (c := 0) hW hu rfl rfl rfl 1)]; rfl
  · exact by unfold g_r; rw [show g_V (zH E σ) (zL E 0 d 0) 1 2 = _ from (zV (E := E) (σ := σ) (k := 0) (d := d) (c := 0) hW hu rfl rfl rfl 2)]; rfl
  · exact by unfold g_i; rw [show g_V (zH E σ) (zL E 0 d 0) 1 3 = _ from (zV (E := E) (σ := σ) (k := 0) (d := d) (c := 0) hW hu rfl rfl rfl 3)]; rfl
  · exact fun v => by rw [← zs_r]; exact zPut hW hu rfl rfl rfl (by simp) rfl rfl
  · exact by unfold g_r; rw [show g_V (zH E σ) (zL E 0 d 0) 1 4 = _ from (zV (E := E) (σ := σ) (k := 0) (d := d) (c := 0) hW hu rfl rfl rfl 4)]; rfl
  · exact by unfold g_i; rw [show g_V (zH E σ) (zL E 0 d 0) 1 5 = _ from (zV (E := E) (σ := σ) (k := 0) (d := d) (c := 0) hW hu rfl rfl rfl 5)]; rfl
  · exact fun v => by rw [← zs_r]; exact zPut hW hu rfl rfl rfl (by simp) rfl rfl
  · exact by unfold g_r; rw [show g_V (zH E σ) (zL E 0 d 0) 1 6 = _ from (zV (E := E) (σ := σ) (k := 0) (d := d) (c := 0) hW hu rfl rfl rfl 6)]; rfl
  · exact zOb hW hu rfl rfl rfl
theorem zg_bl0 (hW : zWF E) (hu : zU E 0 d = true) : (g_i (zH E σ) (zL E 0 d 1) 0 0 = some (zI (σ 0 d 1 0))) := by unfold g_i; rw [show g_V (zH E σ) (zL E 0 d 1) 0 0 = _ from (zV (E := E) (σ := σ) (k := 0) (d := d) (c := 1) hW hu rfl rfl rfl 0)]; rfl
theorem zp_bl0 (hW : zWF E) (hu : zU E 0 d = true) : (∀ v : Int, g_put (zH E σ) (zL E 0 d 1) 0 0 (.int (zI v)) = some (zH E (zs σ 0 d 1 0 v))) := fun v => by rw [← zs_r]; exact zPut hW hu rfl rfl rfl (by simp) rfl rfl
theorem zg_bl1 (hW : zWF E) (hu : zU E 0 d = true) : (g_i (zH E σ) (zL E 0 d 1) 0 1 = some (zI (σ 0 d 1 1))) := by unfold g_i; rw [show g_V (zH E σ) (zL E 0 d 1) 0 1 = _ from (zV (E := E) (σ := σ) (k := 0) (d := d) (c := 1) hW hu rfl rfl rfl 1)]; rfl
theorem zp_bl1 (hW : zWF E) (hu : zU E 0 d = true) : (∀ v : Int, g_put (zH E σ) (zL E 0 d 1) 0 1 (.int (zI v)) = some (zH E (zs σ 0 d 1 1 v))) := fun v => by rw [← zs_r]; exact zPut hW hu rfl rfl rfl (by simp) rfl rfl
theorem zg_bl2 (hW : zWF E) (hu : zU E 0 d = true) : (g_i (zH E σ) (zL E 0 d 1) 0 2 = some (zI (σ 0 d 1 2))) := by unfold g_i; rw [show g_V (zH E σ) (zL E 0 d 1) 0 2 = _ from (zV (E := E) (σ := σ) (k := 0) (d := d) (c := 1) hW hu rfl rfl rfl 2)]; rfl
theorem zp_bl2 (hW : zWF E) (hu : zU E 0 d = true) : (∀ v : Int, g_put (zH E σ) (zL E 0 d 1) 0 2 (.int (zI v)) = some (zH E (zs σ 0 d 1 2 v))) := fun v => by rw [← zs_r]; exact zPut hW hu rfl rfl rfl (by simp) rfl rfl
theorem zg_bl3 (hW : zWF E) (hu : zU E 0 d = true) : (g_r (zH E σ) (zL E 0 d 1) 0 3 = some (zL E 0 d 2)) := by unfold g_r; rw [show g_V (zH E σ) (zL E 0 d 1) 0 3 = _ from (zV (E := E) (σ := σ) (k := 0) (d := d) (c := 1) hW hu rfl rfl rfl 3)]; rfl
theorem zg_bl4 (hW : zWF E) (hu : zU E 0 d = true) : (g_r (zH E σ) (zL E 0 d 1) 0 4 = some (zL E 0 d 3)) := by unfold g_r; rw [show g_V (zH E σ) (zL E 0 d 1) 0 4 = _ from (zV (E := E) (σ := σ) (k := 0) (d := d) (c := 1) hW hu rfl rfl rfl 4)]; rfl
theorem zg_bl5 (hW : zWF E) (hu : zU E 0 d = true) : (g_r (zH E σ) (zL E 0 d 1) 0 5 = some (zL E 0 d 4)) := by unfold g_r; rw [show g_V (zH E σ) (zL E 0 d 1) 0 5 = _ from (zV (E := E) (σ := σ) (k := 0) (d := d) (c := 1) hW hu rfl rfl rfl 5)]; rfl
theorem zg_bl6 (hW : zWF E) (hu : zU E 0 d = true) : (g_r (zH E σ) (zL E 0 d 1) 0 6 = some (zL E 0 d 5)) := by unfold g_r; rw [show g_V (zH E σ) (zL E 0 d 1) 0 6 = _ from (zV (E := E) (σ := σ) (k := 0) (d := d) (c := 1) hW hu rfl rfl rfl 6)]; rfl
theorem zg_bl7 (hW : zWF E) (hu : zU E 0 d = true) : (g_r (zH E σ) (zL E 0 d 1) 0 7 = some (zL E 0 d 6)) := by unfold g_r; rw [show g_V (zH E σ) (zL E 0 d 1) 0 7 = _ from (zV (E := E) (σ := σ) (k := 0) (d := d) (c := 1) hW hu rfl rfl rfl 7)]; rfl
theorem zg_bl8 (hW : zWF E) (hu : zU E 0 d = true) : (g_r (zH E σ) (zL E 0 d 1) 0 8 = some (zL E 0 d 7)) := by unfold g_r; rw [show g_V (zH E σ) (zL E 0 d 1) 0 8 = _ from (zV (E := E) (σ := σ) (k := 0) (d := d) (c := 1) hW hu rfl rfl rfl 8)]; rfl
theorem zg_bl9 (hW : zWF E) (hu : zU E 0 d = true) : (g_r (zH E σ) (zL E 0 d 1) 0 9 = some (zL E 0 d 8)) := by unfold g_r; rw [show g_V (zH E σ) (zL E 0 d 1) 0 9 = _ from (zV (E := E) (σ := σ) (k := 0) (d := d) (c := 1) hW hu rfl rfl rfl 9)]; rfl
theorem zg_bl10 (hW : zWF E) (hu : zU E 0 d = true) : (g_r (zH E σ) (zL E 0 d 1) 0 10 = some (zL E 0 d 9)) := by unfold g_r; rw [show g_V (zH E σ) (zL E 0 d 1) 0 10 = _ from (zV (E := E) (σ := σ) (k := 0) (d := d) (c := 1) hW hu rfl rfl rfl 10)]; rfl
set_option maxRecDepth 20000 in
theorem zz_blo (hW : zWF E) (hu : zU E 0 d = true) : (g_r (zH E σ) (zL E 0 d 1) 0 3 = some (zL E 0 d 2)) ∧ (g_r (zH E σ) (zL E 0 d 1) 0 4 = some (zL E 0 d 3)) ∧ (g_r (zH E σ) (zL E 0 d 1) 0 5 = some (zL E 0 d 4)) ∧ (g_r (zH E σ) (zL E 0 d 1) 0 6 = some (zL E 0 d 5)) ∧ (g_r (zH E σ) (zL E 0 d 1) 0 7 = some (zL E 0 d 6)) ∧ (g_r (zH E σ) (zL E 0 d 1) 0 8 = some (zL E 0 d 7)) ∧ (g_r (zH E σ) (zL E 0 d 1) 0 9 = some (zL E 0 d 8)) ∧ (g_r (zH E σ) (zL E 0 d 1) 0 10 = some (zL E 0 d 9)) ∧ (g_ob (zH E σ) (zL E 0 d 1) 0 = some ()) := by
  refine ⟨?_, ?_, ?_, ?_, ?_, ?_, ?_, ?_, ?_⟩
  · exact by unfold g_r; rw [show g_V (zH E σ) (zL E 0 d 1) 0 3 = _ from (zV (E := E) (σ := σ) (k := 0) (d := d) (c := 1) hW hu rfl rfl rfl 3)]; rfl
  · exact by unfold g_r; rw [show g_V (zH E σ) (zL E 0 d 1) 0 4 = _ from (zV (E := E) (σ := σ) (k := 0) (d := d) (c := 1) hW hu rfl rfl rfl 4)]; rfl
  · exact by unfold g_r; rw [show g_V (zH E σ) (zL E 0 d 1) 0 5 = _ from (zV (E := E) (σ := σ) (k := 0) (d := d) (c := 1) hW hu rfl rfl rfl 5)]; rfl
  · exact by unfold g_r; rw [show g_V (zH E σ) (zL E 0 d 1) 0 6 = _ from (zV (E := E) (σ := σ) (k := 0) (d := d) (c := 1) hW hu rfl rfl rfl 6)]; rfl
  · exact by unfold g_r; rw [show g_V (zH E σ) (zL E 0 d 1) 0 7 = _ from (zV (E := E) (σ := σ) (k := 0) (d := d) (c := 1) hW hu rfl rfl rfl 7)]; rfl
  · exact by unfold g_r; rw [show g_V (zH E σ) (zL E 0 d 1) 0 8 = _ from (zV (E := E) (σ := σ) (k := 0) (d := d) (c := 1) hW hu rfl rfl rfl 8)]; rfl
  · exact by unfold g_r; rw [show g_V (zH E σ) (zL E 0 d 1) 0 9 = _ from (zV (E := E) (σ := σ) (k := 0) (d := d) (c := 1) hW hu rfl rfl rfl 9)]; rfl
  · exact by unfold g_r; rw [show g_V (zH E σ) (zL E 0 d 1) 0 10 = _ from (zV (E := E) (σ := σ) (k := 0) (d := d) (c := 1) hW hu rfl rfl rfl 10)]; rfl
  · exact zOb hW hu rfl rfl rfl
set_option maxRecDepth 20000 in
theorem zz_bl (hW : zWF E) (hu : zU E 0 d = true) : (g_i (zH E σ) (zL E 0 d 1) 0 0 = some (zI (σ 0 d 1 0))) ∧ (∀ v : Int, g_put (zH E σ) (zL E 0 d 1) 0 0 (.int (zI v)) = some (zH E (zs σ 0 d 1 0 v))) ∧ (g_i (zH E σ) (zL E 0 d 1) 0 1 = some (zI (σ 0 d 1 1))) ∧ (∀ v : Int, g_put (zH E σ) (zL E 0 d 1) 0 1 (.int (zI v)) = some (zH E (zs σ 0 d 1 1 v))) ∧ (g_i (zH E σ) (zL E 0 d 1) 0 2 = some (zI (σ 0 d 1 2))) ∧ (∀ v : Int, g_put (zH E σ) (zL E 0 d 1) 0 2 (.int (zI v)) = some (zH E (zs σ 0 d 1 2 v))) ∧ (g_r (zH E σ) (zL E 0 d 1) 0 3 = some (zL E 0 d 2)) ∧ (g_r (zH E σ) (zL E 0 d 1) 0 4 = some (zL E 0 d 3)) ∧ (g_r (zH E σ) (zL E 0 d 1) 0 5 = some (zL E 0 d 4)) ∧ (g_r (zH E σ) (zL E 0 d 1) 0 6 = some (zL E 0 d 5)) ∧ (g_r (zH E σ) (zL E 0 d 1) 0 7 = some (zL E 0 d 6)) ∧ (g_r (zH E σ) (zL E 0 d 1) 0 8 = some (zL E 0 d 7)) ∧ (g_r (zH E σ) (zL E 0 d 1) 0 9 = some (zL E 0 d 8)) ∧ (g_r (zH E σ) (zL E 0 d 1) 0 10 = some (zL E 0 d 9)) ∧ (g_ob (zH E σ) (zL E 0 d 1) 0 = some ()) := by
  refine ⟨?_, ?_, ?_, ?_, ?_, ?_, ?_, ?_, ?_, ?_, ?_, ?_, ?_, ?_, ?_⟩
  · exact by unfold g_i; rw [show g_V (zH E σ) (zL E 0 d 1) 0 0 = _ from (zV (E := E) (σ := σ) (k := 0) (d := d) (c := 1) hW hu rfl rfl rfl 0)]; rfl
  · exact fun v => by rw [← zs_r]; exact zPut hW hu rfl rfl rfl (by simp) rfl rfl
  · exact by unfold g_i; rw [show g_V (zH E σ) (zL E 0 d 1) 0 1 = _ from (zV (E := E) (σ := σ) (k := 0) (d := d) (c := 1) hW hu rfl rfl rfl 1)]; rfl
  · exact fun v => by rw [← zs_r]; exact zPut hW hu rfl rfl rfl (by simp) rfl rfl
  · exact by unfold g_i; rw [show g_V (zH E σ) (zL E 0 d 1) 0 2 = _ from (zV (E := E) (σ := σ) (k := 0) (d := d) (c := 1) hW hu rfl rfl rfl 2)]; rfl
  · exact fun v => by rw [← zs_r]; exact zPut hW hu rfl rfl rfl (by simp) rfl rfl
  · exact by unfold g_r; rw [show g_V (zH E σ) (zL E 0 d 1) 0 3 = _ from (zV (E := E) (σ := σ) (k := 0) (d := d) (c := 1) hW hu rfl rfl rfl 3)]; rfl
  · exact by unfold g_r; rw [show g_V (zH E σ) (zL E 0 d 1) 0 4 = _ from (zV (E := E) (σ := σ) (k := 0) (d := d) (c := 1) hW hu rfl rfl rfl 4)]; rfl
  · exact by unfold g_r; rw [show g_V (zH E σ) (zL E 0 d 1) 0 5 = _ from (zV (E := E) (σ := σ) (k := 0) (d := d) (c := 1) hW hu rfl rfl rfl 5)]; rfl
  · exact by unfold g_r; rw [show g_V (zH E σ) (zL E 0 d 1) 0 6 = _ from (zV (E := E) (σ := σ) (k := 0) (d := d) (c := 1) hW hu rfl rfl rfl 6)]; rfl
  · exact by unfold g_r; rw [show g_V (zH E σ) (zL E 0 d 1) 0 7 = _ from (zV (E := E) (σ := σ) (k := 0) (d := d) (c := 1) hW hu rfl rfl rfl 7)]; rfl
  · exact by unfold g_r; rw [show g_V (zH E σ) (zL E 0 d 1) 0 8 = _ from (zV (E := E) (σ := σ) (k := 0) (d := d) (c := 1) hW hu rfl rfl rfl 8)]; rfl
  · exact by unfold g_r; rw [show g_V (zH E σ) (zL E 0 d 1) 0 9 = _ from (zV (E := E) (σ := σ) (k := 0) (d := d) (c := 1) hW hu rfl rfl rfl 9)]; rfl
  · exact by unfold g_r; rw [show g_V (zH E σ) (zL E 0 d 1) 0 10 = _ from (zV (E := E) (σ := σ) (k := 0) (d := d) (c := 1) hW hu rfl rfl rfl 10)]; rfl
  · exact zOb hW hu rfl rfl rfl
theorem zg_vs0 (hW : zWF E) (hu : zU E 0 d = true) : (g_i (zH E σ) (zL E 0 d 10) 7 0 = some (zI (σ 0 d 10 0))) := by unfold g_i; rw [show g_V (zH E σ) (zL E 0 d 10) 7 0 = _ from (zV (E := E) (σ := σ) (k := 0) (d := d) (c := 10) hW hu rfl rfl rfl 0)]; rfl
theorem zp_vs0 (hW : zWF E) (hu : zU E 0 d = true) : (∀ v : Int, g_put (zH E σ) (zL E 0 d 10) 7 0 (.int (zI v)) = some (zH E (zs σ 0 d 10 0 v))) := fun v => by rw [← zs_r]; exact zPut hW hu rfl rfl rfl (by simp) rfl rfl
theorem zg_vs1 (hW : zWF E) (hu : zU E 0 d = true) : (g_r (zH E σ) (zL E 0 d 10) 7 1 = some (zL E 0 d 11)) := by unfold g_r; rw [show g_V (zH E σ) (zL E 0 d 10) 7 1 = _ from (zV (E := E) (σ := σ) (k := 0) (d := d) (c := 10) hW hu rfl rfl rfl 1)]; rfl
theorem zg_vs2 (hW : zWF E) (hu : zU E 0 d = true) : (g_r (zH E σ) (zL E 0 d 10) 7 2 = some (zL E 0 d 12)) := by unfold g_r; rw [show g_V (zH E σ) (zL E 0 d 10) 7 2 = _ from (zV (E := E) (σ := σ) (k := 0) (d := d) (c := 10) hW hu rfl rfl rfl 2)]; rfl
theorem zg_vs3 (hW : zWF E) (hu : zU E 0 d = true) : (g_r (zH E σ) (zL E 0 d 10) 7 3 = some (zL E 0 d 13)) := by unfold g_r; rw [show g_V (zH E σ) (zL E 0 d 10) 7 3 = _ from (zV (E := E) (σ := σ) (k := 0) (d := d) (c := 10) hW hu rfl rfl rfl 3)]; rfl
theorem zg_vs4 (hW : zWF E) (hu : zU E 0 d = true) : (g_r (zH E σ) (zL E 0 d 10) 7 4 = some (zL E 0 d 14)) := by unfold g_r; rw [show g_V (zH E σ) (zL E 0 d 10) 7 4 = _ from (zV (E := E) (σ := σ) (k := 0) (d := d) (c := 10) hW hu rfl rfl rfl 4)]; rfl
theorem zg_vs5 (hW : zWF E) (hu : zU E 0 d = true) : (g_r (zH E σ) (zL E 0 d 10) 7 5 = some (zL E 0 d 15)) := by unfold g_r; rw [show g_V (zH E σ) (zL E 0 d 10) 7 5 = _ from (zV (E := E) (σ := σ) (k := 0) (d := d) (c := 10) hW hu rfl rfl rfl 5)]; rfl
set_option maxRecDepth 20000 in
theorem zz_vso (hW : zWF E) (hu : zU E 0 d = true) : (g_r (zH E σ) (zL E 0 d 10) 7 1 = some (zL E 0 d 11)) ∧ (g_r (zH E σ) (zL E 0 d 10) 7 2 = some (zL E 0 d 12)) ∧ (g_r (zH E σ) (zL E 0 d 10) 7 3 = some (zL E 0 d 13)) ∧ (g_r (zH E σ) (zL E 0 d 10) 7 4 = some (zL E 0 d 14)) ∧ (g_r (zH E σ) (zL E 0 d 10) 7 5 = some (zL E 0 d 15)) ∧ (g_ob (zH E σ) (zL E 0 d 10) 7 = some ()) := by
  refine ⟨?_, ?_, ?_, ?_, ?_, ?_⟩
  · exact by unfold g_r; rw [show g_V (zH E σ) (zL E 0 d 10) 7 1 = _ from (zV (E := E) (σ := σ) (k := 0) (d := d) (c := 10) hW hu rfl rfl rfl 1)]; rfl
  · exact by unfold g_r; rw [show g_V (zH E σ) (zL E 0 d 10) 7 2 = _ from (zV (E := E) (σ := σ) (k := 0) (d := d) (c := 10) hW hu rfl rfl rfl 2)]; rfl
  · exact by unfold g_r; rw [show g_V (zH E σ) (zL E 0 d 10) 7 3 = _ from (zV (E := E) (σ := σ) (k := 0) (d := d) (c := 10) hW hu rfl rfl rfl 3)]; rfl
  · exact by unfold g_r; rw [show g_V (zH E σ) (zL E 0 d 10) 7 4 = _ from (zV (E := E) (σ := σ) (k := 0) (d := d) (c := 10) hW hu rfl rfl rfl 4)]; rfl
  · exact by unfold g_r; rw [show g_V (zH E σ) (zL E 0 d 10) 7 5 = _ from (zV (E := E) (σ := σ) (k := 0) (d := d) (c := 10) hW hu rfl rfl rfl 5)]; rfl
  · exact zOb hW hu rfl rfl rfl
set_option maxRecDepth 20000 in
theorem zz_vs (hW : zWF E) (hu : zU E 0 d = true) : (g_i (zH E σ) (zL E 0 d 10) 7 0 = some (zI (σ 0 d 10 0))) ∧ (∀ v : Int, g_put (zH E σ) (zL E 0 d 10) 7 0 (.int (zI v)) = some (zH E (zs σ 0 d 10 0 v))) ∧ (g_r (zH E σ) (zL E 0 d 10) 7 1 = some (zL E 0 d 11)) ∧ (g_r (zH E σ) (zL E 0 d 10) 7 2 = some (zL E 0 d 12)) ∧ (g_r (zH E σ) (zL E 0 d 10) 7 3 = some (zL E 0 d 13)) ∧ (g_r (zH E σ) (zL E 0 d 10) 7 4 = some (zL E 0 d 14)) ∧ (g_r (zH E σ) (zL E 0 d 10) 7 5 = some (zL E 0 d 15)) ∧ (g_ob (zH E σ) (zL E 0 d 10) 7 = some ()) := by
  refine ⟨?_, ?_, ?_, ?_, ?_, ?_, ?_, ?_⟩
  · exact by unfold g_i; rw [show g_V (zH E σ) (zL E 0 d 10) 7 0 = _ from (zV (E := E) (σ := σ) (k := 0) (d := d) (c := 10) hW hu rfl rfl rfl 0)]; rfl
  · exact fun v => by rw [← zs_r]; exact zPut hW hu rfl rfl rfl (by simp) rfl rfl
  · exact by unfold g_r; rw [show g_V (zH E σ) (zL E 0 d 10) 7 1 = _ from (zV (E := E) (σ := σ) (k := 0) (d := d) (c := 10) hW hu rfl rfl rfl 1)]; rfl
  · exact by unfold g_r; rw [show g_V (zH E σ) (zL E 0 d 10) 7 2 = _ from (zV (E := E) (σ := σ) (k := 0) (d := d) (c := 10) hW hu rfl rfl rfl 2)]; rfl
  · exact by unfold g_r; rw [show g_V (zH E σ) (zL E 0 d 10) 7 3 = _ from (zV (E := E) (σ := σ) (k := 0) (d := d) (c := 10) hW hu rfl rfl rfl 3)]; rfl
  · exact by unfold g_r; rw [show g_V (zH E σ) (zL E 0 d 10) 7 4 = _ from (zV (E := E) (σ := σ) (k := 0) (d := d) (c := 10) hW hu rfl rfl rfl 4)]; rfl
  · exact by unfold g_r; rw [show g_V (zH E σ) (zL E 0 d 10) 7 5 = _ from (zV (E := E) (σ := σ) (k := 0) (d := d) (c := 10) hW hu rfl rfl rfl 5)]; rfl
  · exact zOb hW hu rfl rfl rfl
theorem zg_se0 (hW : zWF E) (hu : zU E 0 d = true) : (g_i (zH E σ) (zL E 0 d 16) 5 0 = some (zI (σ 0 d 16 0))) := by unfold g_i; rw [show g_V (zH E σ) (zL E 0 d 16) 5 0 = _ from (zV (E := E) (σ := σ) (k := 0) (d := d) (c := 16) hW hu rfl rfl rfl 0)]; rfl
theorem zp_se0 (hW : zWF E) (hu : zU E 0 d = true) : (∀ v : Int, g_put (zH E σ) (zL E 0 d 16) 5 0 (.int (zI v)) = some (zH E (zs σ 0 d 16 0 v))) := fun v => by rw [← zs_r]; exact zPut hW hu rfl rfl rfl (by simp) rfl rfl
theorem zg_se1 (hW : zWF E) (hu : zU E 0 d = true) : (g_r (zH E σ) (zL E 0 d 16) 5 1 = some (zL E 0 d 17)) := by unfold g_r; rw [show g_V (zH E σ) (zL E 0 d 16) 5 1 = _ from (zV (E := E) (σ := σ) (k := 0) (d := d) (c := 16) hW hu rfl rfl rfl 1)]; rfl
theorem zg_se2 (hW : zWF E) (hu : zU E 0 d = true) : (g_r (zH E σ) (zL E 0 d 16) 5 2 = some (zL E 0 d 18)) := by unfold g_r; rw [show g_V (zH E σ) (zL E 0 d 16) 5 2 = _ from (zV (E := E) (σ := σ) (k := 0) (d := d) (c := 16) hW hu rfl rfl rfl 2)]; rfl
theorem zg_se3 (hW : zWF E) (hu : zU E 0 d = true) : (g_r (zH E σ) (zL E 0 d 16) 5 3 = some (zL E 0 d 19)) := by unfold g_r; rw [show g_V (zH E σ) (zL E 0 d 16) 5 3 = _ from (zV (E := E) (σ := σ) (k := 0) (d := d) (c := 16) hW hu rfl rfl rfl 3)]; rfl
theorem zg_se4 (hW : zWF E) (hu : zU E 0 d = true) : (g_r (zH E σ) (zL E 0 d 16) 5 4 = some (zL E 0 d 24)) := by unfold g_r; rw [show g_V (zH E σ) (zL E 0 d 16) 5 4 = _ from (zV (E := E) (σ := σ) (k := 0) (d := d) (c := 16) hW hu rfl rfl rfl 4)]; rfl
theorem zg_se5 (hW : zWF E) (hu : zU E 0 d = true) : (g_r (zH E σ) (zL E 0 d 16) 5 5 = some (zL E 0 d 20)) := by unfold g_r; rw [show g_V (zH E σ) (zL E 0 d 16) 5 5 = _ from (zV (E := E) (σ := σ) (k := 0) (d := d) (c := 16) hW hu rfl rfl rfl 5)]; rfl
theorem zg_se6 (hW : zWF E) (hu : zU E 0 d = true) : (g_r (zH E σ) (zL E 0 d 16) 5 6 = some (zL E 0 d 21)) := by unfold g_r; rw [show g_V (zH E σ) (zL E 0 d 16) 5 6 = _ from (zV (E := E) (σ := σ) (k := 0) (d := d) (c := 16) hW hu rfl rfl rfl 6)]; rfl
theorem zg_se7 (hW : zWF E) (hu : zU E 0 d = true) : (g_r (zH E σ) (zL E 0 d 16) 5 7 = some (zL E 0 d 22)) := by unfold g_r; rw [show g_V (zH E σ) (zL E 0 d 16) 5 7 = _ from (zV (E := E) (σ := σ) (k := 0) (d := d) (c := 16) hW hu rfl rfl rfl 7)]; rfl
set_option maxRecDepth 20000 in
theorem zz_seo (hW : zWF E) (hu : zU E 0 d = true) : (g_r (zH E σ) (zL E 0 d 16) 5 1 = some (zL E 0 d 17)) ∧ (g_r (zH E σ) (zL E 0 d 16) 5 2 = some (zL E 0 d 18)) ∧ (g_r (zH E σ) (zL E 0 d 16) 5 3 = some (zL E 0 d 19)) ∧ (g_r (zH E σ) (zL E 0 d 16) 5 4 = some (zL E 0 d 24)) ∧ (g_r (zH E σ) (zL E 0 d 16) 5 5 = some (zL E 0 d 20)) ∧ (g_r (zH E σ) (zL E 0 d 16) 5 6 = some (zL E 0 d 21)) ∧ (g_r (zH E σ) (zL E 0 d 16) 5 7 = some (zL E 0 d 22)) ∧ (g_ob (zH E σ) (zL E 0 d 16) 5 = some ()) := by
  refine ⟨?_, ?_, ?_, ?_, ?_, ?_, ?_, ?_⟩
  · exact by unfold g_r; rw [show g_V (zH E σ) (zL E 0 d 16) 5 1 = _ from (zV (E := E) (σ := σ) (k := 0) (d := d) (c := 16) hW hu rfl rfl rfl 1)]; rfl
  · exact by unfold g_r; rw [show g_V (zH E σ) (zL E 0 d 16) 5 2 = _ from (zV (E := E) (σ := σ) (k := 0) (d := d) (c := 16) hW hu rfl rfl rfl 2)]; rfl
  · exact by unfold g_r; rw [show g_V (zH E σ) (zL E 0 d 16) 5 3 = _ from (zV (E := E) (σ := σ) (k := 0) (d := d) (c := 16) hW hu rfl rfl rfl 3)]; rfl
  · exact by unfold g_r; rw [show g_V (zH E σ) (zL E 0 d 16) 5 4 = _ from (zV (E := E) (σ := σ) (k := 0) (d := d) (c := 16) hW hu rfl rfl rfl 4)]; rfl
  · exact by unfold g_r; rw [show g_V (zH E σ) (zL E 0 d 16) 5 5 = _ from (zV (E := E) (σ := σ) (k := 0) (d := d) (c := 16) hW hu rfl rfl rfl 5)]; rfl
  · exact by unfold g_r; rw [show g_V (zH E σ) (zL E 0 d 16) 5 6 = _ from (zV (E := E) (σ := σ) (k := 0) (d := d) (c := 16) hW hu rfl rfl rfl 6)]; rfl
  · exact by unfold g_r; rw [show g_V (zH E σ) (zL E 0 d 16) 5 7 = _ from (zV (E := E) (σ := σ) (k := 0) (d := d) (c := 16) hW hu rfl rfl rfl 7)]; rfl
  · exact zOb hW hu rfl rfl rfl
set_option maxRecDepth 20000 in
theorem zz_se (hW : zWF E) (hu : zU E 0 d = true) : (g_i (zH E σ) (zL E 0 d 16) 5 0 = some (zI (σ 0 d 16 0))) ∧ (∀ v : Int, g_put (zH E σ) (zL E 0 d 16) 5 0 (.int (zI v)) = some (zH E (zs σ 0 d 16 0 v))) ∧ (g_r (zH E σ) (zL E 0 d 16) 5 1 = some (zL E 0 d 17)) ∧ (g_r (zH E σ) (zL E 0 d 16) 5 2 = some (zL E 0 d 18)) ∧ (g_r (zH E σ) (zL E 0 d 16) 5 3 = some (zL E 0 d 19)) ∧ (g_r (zH E σ) (zL E 0 d 16) 5 4 = some (zL E 0 d 24)) ∧ (g_r (zH E σ) (zL E 0 d 16) 5 5 = some (zL E 0 d 20)) ∧ (g_r (zH E σ) (zL E 0 d 16) 5 6 = some (zL E 0 d 21)) ∧ (g_r (zH E σ) (zL E 0 d 16) 5 7 = some (zL E 0 d 22)) ∧ (g_ob (zH E σ) (zL E 0 d 16) 5 = some ()) := by
  refine ⟨?_, ?_, ?_, ?_, ?_, ?_, ?_, ?_, ?_, ?_⟩
  · exact by unfold g_i; rw [show g_V (zH E σ) (zL E 0 d 16) 5 0 = _ from (zV (E := E) (σ := σ) (k := 0) (d := d) (c := 16) hW hu rfl rfl rfl 0)]; rfl
  · exact fun v => by rw [← zs_r]; exact zPut hW hu rfl rfl rfl (by simp) rfl rfl
  · exact by unfold g_r; rw [show g_V (zH E σ) (zL E 0 d 16) 5 1 = _ from (zV (E := E) (σ := σ) (k := 0) (d := d) (c := 16) hW hu rfl rfl rfl 1)]; rfl
  · exact by unfold g_r; rw [show g_V (zH E σ) (zL E 0 d 16) 5 2 = _ from (zV (E := E) (σ := σ) (k := 0) (d := d) (c := 16) hW hu rfl rfl rfl 2)]; rfl
  · exact by unfold g_r; rw [show g_V (zH E σ) (zL E 0 d 16) 5 3 = _ from (zV (E := E) (σ := σ) (k := 0) (d := d) (c := 16) hW hu rfl rfl rfl 3)]; rfl
  · exact by unfold g_r; rw [show g_V (zH E σ) (zL E 0 d 16) 5 4 = _ from (zV (E := E) (σ := σ) (k := 0) (d := d) (c := 16) hW hu rfl rfl rfl 4)]; rfl
  · exact by unfold g_r; rw [show g_V (zH E σ) (zL E 0 d 16) 5 5 = _ from (zV (E := E) (σ := σ) (k := 0) (d := d) (c := 16) hW hu rfl rfl rfl 5)]; rfl
  · exact by unfold g_r; rw [show g_V (zH E σ) (zL E 0 d 16) 5 6 = _ from (zV (E := E) (σ := σ) (k := 0) (d := d) (c := 16) hW hu rfl rfl rfl 6)]; rfl
  · exact by unfold g_r; rw [show g_V (zH E σ) (zL E 0 d 16) 5 7 = _ from (zV (E := E) (σ := σ) (k := 0) (d := d) (c := 16) hW hu rfl rfl rfl 7)]; rfl
  · exact zOb hW hu rfl rfl rfl
theorem zg_vw0 (hW : zWF E) (hu : zU E 1 d = true) : (g_i (zH E σ) (zL E 1 d 0) 8 0 = some (zI (σ 1 d 0 0))) := by unfold g_i; rw [show g_V (zH E σ) (zL E 1 d 0) 8 0 = _ from (zV (E := E) (σ := σ) (k := 1) (d := d) (c := 0) hW hu rfl rfl rfl 0)]; rfl
theorem zp_vw0 (hW : zWF E) (hu : zU E 1 d = true) : (∀ v : Int, g_put (zH E σ) (zL E 1 d 0) 8 0 (.int (zI v)) = some (zH E (zs σ 1 d 0 0 v))) := fun v => by rw [← zs_r]; exact zPut hW hu rfl rfl rfl (by simp) rfl rfl
theorem zg_vw1 (hW : zWF E) (hu : zU E 1 d = true) : (g_r (zH E σ) (zL E 1 d 0) 8 1 = some (zL E 1 d 1)) := by unfold g_r; rw [show g_V (zH E σ) (zL E 1 d 0) 8 1 = _ from (zV (E := E) (σ := σ) (k := 1) (d := d) (c := 0) hW hu rfl rfl rfl 1)]; rfl
theorem zg_vw2 (hW : zWF E) (hu : zU E 1 d = true) : (g_r (zH E σ) (zL E 1 d 0) 8 2 = some (zL E 1 d 2)) := by unfold g_r; rw [show g_V (zH E σ) (zL E 1 d 0) 8 2 = _ from (zV (E := E) (σ := σ) (k := 1) (d := d) (c := 0) hW hu rfl rfl rfl 2)]; rfl
theorem zg_vw3 (hW : zWF E) (hu : zU E 1 d = true) : (g_r (zH E σ) (zL E 1 d 0) 8 3 = some (zL E 1 d 3)) := by unfold g_r; rw [show g_V (zH E σ) (zL E 1 d 0) 8 3 = _ from (zV (E := E) (σ := σ) (k := 1) (d := d) (c := 0) hW hu rfl rfl rfl 3)]; rfl
theorem zg_vw4 (hW : zWF E) (hu : zU E 1 d = true) : (g_r (zH E σ) (zL E 1 d 0) 8 4 = some (zL E 1 d 4)) := by unfold g_r; rw [show g_V (zH E σ) (zL E 1 d 0) 8 4 = _ from (zV (E := E) (σ := σ) (k := 1) (d := d) (c := 0) hW hu rfl rfl rfl 4)]; rfl
set_option maxRecDepth 20000 in
theorem zz_vwo (hW : zWF E) (hu : zU E 1 d = true) : (g_r (zH E σ) (zL E 1 d 0) 8 1 = some (zL E 1 d 1)) ∧ (g_r (zH E σ) (zL E 1 d 0) 8 2 = some (zL E 1 d 2)) ∧ (g_r (zH E σ) (zL E 1 d 0) 8 3 = some (zL E 1 d 3)) ∧ (g_r (zH E σ) (zL E 1 d 0) 8 4 = some (zL E 1 d 4)) ∧ (g_ob (zH E σ) (zL E 1 d 0) 8 = some ()) := by
  refine ⟨?_, ?_, ?_, ?_, ?_⟩
  · exact by unfold g_r; rw [show g_V (zH E σ) (zL E 1 d 0) 8 1 = _ from (zV (E := E) (σ := σ) (k := 1) (d := d) (c := 0) hW hu rfl rfl rfl 1)]; rfl
  · exact by unfold g_r; rw [show g_V (zH E σ) (zL E 1 d 0) 8 2 = _ from (zV (E := E) (σ := σ) (k := 1) (d := d) (c := 0) hW hu rfl rfl rfl 2)]; rfl
  · exact by unfold g_r; rw [show g_V (zH E σ) (zL E 1 d 0) 8 3 = _ from (zV (E := E) (σ := σ) (k := 1) (d := d) (c := 0) hW hu rfl rfl rfl 3)]; rfl
  · exact by unfold g_r; rw [show g_V (zH E σ) (zL E 1 d 0) 8 4 = _ from (zV (E := E) (σ := σ) (k := 1) (d := d) (c := 0) hW hu rfl rfl rfl 4)]; rfl
  · exact zOb hW hu rfl rfl rfl
set_option maxRecDepth 20000 in
theorem zz_vw (hW : zWF E) (hu : zU E 1 d = true) : (g_i (zH E σ) (zL E 1 d 0) 8 0 = some (zI (σ 1 d 0 0))) ∧ (∀ v : Int, g_put (zH E σ) (zL E 1 d 0) 8 0 (.int (zI v)) = some (zH E (zs σ 1 d 0 0 v))) ∧ (g_r (zH E σ) (zL E 1 d 0) 8 1 = some (zL E 1 d 1)) ∧ (g_r (zH E σ) (zL E 1 d 0) 8 2 = some (zL E 1 d 2)) ∧ (g_r (zH E σ) (zL E 1 d 0) 8 3 = some (zL E 1 d 3)) ∧ (g_r (zH E σ) (zL E 1 d 0) 8 4 = some (zL E 1 d 4)) ∧ (g_ob (zH E σ) (zL E 1 d 0) 8 = some ()) := by
  refine ⟨?_, ?_, ?_, ?_, ?_, ?_, ?_⟩
  · exact by unfold g_i; rw [show g_V (zH E σ) (zL E 1 d 0) 8 0 = _ from (zV (E := E) (σ := σ) (k := 1) (d := d) (c := 0) hW hu rfl rfl rfl 0)]; rfl
  · exact fun v => by rw [← zs_r]; exact zPut hW hu rfl rfl rfl (by simp) rfl rfl
  · exact by unfold g_r; rw [show g_V (zH E σ) (zL E 1 d 0) 8 1 = _ from (zV (E := E) (σ := σ) (k := 1) (d := d) (c := 0) hW hu rfl rfl rfl 1)]; rfl
  · exact by unfold g_r; rw [show g_V (zH E σ) (zL E 1 d 0) 8 2 = _ from (zV (E := E) (σ := σ) (k := 1) (d := d) (c := 0) hW hu rfl rfl rfl 2)]; rfl
  · exact by unfold g_r; rw [show g_V (zH E σ) (zL E 1 d 0) 8 3 = _ from (zV (E := E) (σ := σ) (k := 1) (d := d) (c := 0) hW hu rfl rfl rfl 3)]; rfl
  · exact by unfold g_r; rw [show g_V (zH E σ) (zL E 1 d 0) 8 4 = _ from (zV (E := E) (σ := σ) (k := 1) (d := d) (c := 0) hW hu rfl rfl rfl 4)]; rfl
  · exact zOb hW hu rfl rfl rfl
theorem zg_ma0 (hW : zWF E) (hu : zU E 2 d = true) : (g_r (zH E σ) (zL E 2 d 0) 9 0 = some (zL E 2 d 1)) := by unfold g_r; rw [show g_V (zH E σ) (zL E 2 d 0) 9 0 = _ from (zV (E := E) (σ := σ) (k := 2) (d := d) (c := 0) hW hu rfl rfl rfl 0)]; rfl
theorem zg_ma1 (hW : zWF E) (hu : zU E 2 d = true) : (g_r (zH E σ) (zL E 2 d 0) 9 1 = some (zL E 2 d 3)) := by unfold g_r; rw [show g_V (zH E σ) (zL E 2 d 0) 9 1 = _ from (zV (E := E) (σ := σ) (k := 2) (d := d) (c := 0) hW hu rfl rfl rfl 1)]; rfl
theorem zg_ma2 (hW : zWF E) (hu : zU E 2 d = true) : (g_r (zH E σ) (zL E 2 d 0) 9 2 = some (zL E 2 d 4)) := by unfold g_r; rw [show g_V (zH E σ) (zL E 2 d 0) 9 2 = _ from (zV (E := E) (σ := σ) (k := 2) (d := d) (c := 0) hW hu rfl rfl rfl 2)]; rfl
theorem zg_ma3 (hW : zWF E) (hu : zU E 2 d = true) : (g_r (zH E σ) (zL E 2 d 0) 9 3 = some (zL E 2 d 6)) := by unfold g_r; rw [show g_V (zH E σ) (zL E 2 d 0) 9 3 = _ from (zV (E := E) (σ := σ) (k := 2) (d := d) (c := 0) hW hu rfl rfl rfl 3)]; rfl
theorem zg_ma4 (hW : zWF E) (hu : zU E 2 d = true) : (g_r (zH E σ) (zL E 2 d 0) 9 4 = some (zL E 1 14 0)) := by unfold g_r; rw [show g_V (zH E σ) (zL E 2 d 0) 9 4 = _ from (zV (E := E) (σ := σ) (k := 2) (d := d) (c := 0) hW hu rfl rfl rfl 4)]; rfl
theorem zg_ma5 (hW : zWF E) (hu : zU E 2 d = true) : (g_r (zH E σ) (zL E 2 d 0) 9 5 = some (zL E 0 (σ 2 d 0 5).toNat 0)) := by unfold g_r; rw [show g_V (zH E σ) (zL E 2 d 0) 9 5 = _ from (zV (E := E) (σ := σ) (k := 2) (d := d) (c := 0) hW hu rfl rfl rfl 5)]; rfl
theorem zp_ma5 (hW : zWF E) (hu : zU E 2 d = true) : (∀ v : Nat, g_put (zH E σ) (zL E 2 d 0) 9 5 (.ref (zL E 0 v 0)) = some (zH E (zs σ 2 d 0 5 v))) := fun v => by rw [← zs_r]; exact zPut hW hu rfl rfl rfl (by simp) rfl rfl
theorem zg_ma6 (hW : zWF E) (hu : zU E 2 d = true) : (g_r (zH E σ) (zL E 2 d 0) 9 6 = some (zL E 0 (σ 2 d 0 6).toNat 0)) := by unfold g_r; rw [show g_V (zH E σ) (zL E 2 d 0) 9 6 = _ from (zV (E := E) (σ := σ) (k := 2) (d := d) (c := 0) hW hu rfl rfl rfl 6)]; rfl
theorem zp_ma6 (hW : zWF E) (hu : zU E 2 d = true) : (∀ v : Nat, g_put (zH E σ) (zL E 2 d 0) 9 6 (.ref (zL E 0 v 0)) = some (zH E (zs σ 2 d 0 6 v))) := fun v => by rw [← zs_r]; exact zPut hW hu rfl rfl rfl (by simp) rfl rfl
set_option maxRecDepth 20000 in
theorem zz_mao (hW : zWF E) (hu : zU E 2 d = true) : (g_r (zH E σ) (zL E 2 d 0) 9 0 = some (zL E 2 d 1)) ∧ (g_r (zH E σ) (zL E 2 d 0) 9 1 = some (zL E 2 d 3)) ∧ (g_r (zH E σ) (zL E 2 d 0) 9 2 = some (zL E 2 d 4)) ∧ (g_r (zH E σ) (zL E 2 d 0) 9 3 = some (zL E 2 d 6)) ∧ (g_r (zH E σ) (zL E 2 d 0) 9 4 = some (zL E 1 14 0)) ∧ (g_r (zH E σ) (zL E 2 d 0) 9 5 = some (zL E 0 (σ 2 d 0 5).toNat 0)) ∧ (g_r (zH E σ) (zL E 2 d 0) 9 6 = some (zL E 0 (σ 2 d 0 6).toNat 0)) ∧ (g_ob (zH E σ) (zL E 2 d 0) 9 = some ()) := by
  refine ⟨?_, ?_, ?_, ?_, ?_, ?_, ?_, ?_⟩
  · exact by unfold g_r; rw [show g_V (zH E σ) (zL E 2 d 0) 9 0 = _ from (zV (E := E) (σ := σ) (k := 2) (d := d) (c := 0) hW hu rfl rfl rfl 0)]; rfl
  · exact by unfold g_r; rw [show g_V (zH E σ) (zL E 2 d 0) 9 1 = _ from (zV (E := E) (σ := σ) (k := 2) (d := d) (c := 0) hW hu rfl rfl rfl 1)]; rfl
  · exact by unfold g_r; rw [show g_V (zH E σ) (zL E 2 d 0) 9 2 = _ from (zV (E := E) (σ := σ) (k := 2) (d := d) (c := 0) hW hu rfl rfl rfl 2)]; rfl
  · exact by unfold g_r; rw [show g_V (zH E σ) (zL E 2 d 0) 9 3 = _ from (zV (E := E) (σ := σ) (k := 2) (d := d) (c := 0) hW hu rfl rfl rfl 3)]; rfl
  · exact by unfold g_r; rw [show g_V (zH E σ) (zL E 2 d 0) 9 4 = _ from (zV (E := E) (σ := σ) (k := 2) (d := d) (c := 0) hW hu rfl rfl rfl 4)]; rfl
  · exact by unfold g_r; rw [show g_V (zH E σ) (zL E 2 d 0) 9 5 = _ from (zV (E := E) (σ := σ) (k := 2) (d := d) (c := 0) hW hu rfl rfl rfl 5)]; rfl
  · exact by unfold g_r; rw [show g_V (zH E σ) (zL E 2 d 0) 9 6 = _ from (zV (E := E) (σ := σ) (k := 2) (d := d) (c := 0) hW hu rfl rfl rfl 6)]; rfl
  · exact zOb hW hu rfl rfl rfl
set_option maxRecDepth 20000 in
theorem zz_ma (hW : zWF E) (hu : zU E 2 d = true) : (g_r (zH E σ) (zL E 2 d 0) 9 0 = some (zL E 2 d 1)) ∧ (g_r (zH E σ) (zL E 2 d 0) 9 1 = some (zL E 2 d 3)) ∧ (g_r (zH E σ) (zL E 2 d 0) 9 2 = some (zL E 2 d 4)) ∧ (g_r (zH E σ) (zL E 2 d 0) 9 3 = some (zL E 2 d 6)) ∧ (g_r (zH E σ) (zL E 2 d 0) 9 4 = some (zL E 1 14 0)) ∧ (g_r (zH E σ) (zL E 2 d 0) 9 5 = some (zL E 0 (σ 2 d 0 5).toNat 0)) ∧ (∀ v : Nat, g_put (zH E σ) (zL E 2 d 0) 9 5 (.ref (zL E 0 v 0)) = some (zH E (zs σ 2 d 0 5 v))) ∧ (g_r (zH E σ) (zL E 2 d 0) 9 6 = some (zL E 0 (σ 2 d 0 6).toNat 0)) ∧ (∀ v : Nat, g_put (zH E σ) (zL E 2 d 0) 9 6 (.ref (zL E 0 v 0)) = some (zH E (zs σ 2 d 0 6 v))) ∧ (g_ob (zH E σ) (zL E 2 d 0) 9 = some ()) := by
  refine ⟨?_, ?_, ?_, ?_, ?_, ?_, ?_, ?_, ?_, ?_⟩
  · exact by unfold g_r; rw [show g_V (zH E σ) (zL E 2 d 0) 9 0 = _ from (zV (E := E) (σ := σ) (k := 2) (d := d) (c := 0) hW hu rfl rfl rfl 0)]; rfl
  · exact by unfold g_r; rw [show g_V (zH E σ) (zL E 2 d 0) 9 1 = _ from (zV (E := E) (σ := σ) (k := 2) (d := d) (c := 0) hW hu rfl rfl rfl 1)]; rfl
  · exact by unfold g_r; rw [show g_V (zH E σ) (zL E 2 d 0) 9 2 = _ from (zV (E := E) (σ := σ) (k := 2) (d := d) (c := 0) hW hu rfl rfl rfl 2)]; rfl
  · exact by unfold g_r; rw [show g_V (zH E σ) (zL E 2 d 0) 9 3 = _ from (zV (E := E) (σ := σ) (k := 2) (d := d) (c := 0) hW hu rfl rfl rfl 3)]; rfl
  · exact by unfold g_r; rw [show g_V (zH E σ) (zL E 2 d 0) 9 4 = _ from (zV (E := E) (σ := σ) (k := 2) (d := d) (c := 0) hW hu rfl rfl rfl 4)]; rfl
  · exact by unfold g_r; rw [show g_V (zH E σ) (zL E 2 d 0) 9 5 = _ from (zV (E := E) (σ := σ) (k := 2) (d := d) (c := 0) hW hu rfl rfl rfl 5)]; rfl
  · exact fun v => by rw [← zs_r]; exact zPut hW hu rfl rfl rfl (by simp) rfl rfl
  · exact by unfold g_r; rw [show g_V (zH E σ) (zL E 2 d 0) 9 6 = _ from (zV (E := E) (σ := σ) (k := 2) (d := d) (c := 0) hW hu rfl rfl rfl 6)]; rfl
  · exact fun v => by rw [← zs_r]; exact zPut hW hu rfl rfl rfl (by simp) rfl rfl
  · exact zOb hW hu rfl rfl rfl
theorem zg_inp0 (hW : zWF E) (hu : zU E 2 d = true) : (g_r (zH E σ) (zL E 2 d 1) 3 0 = some (zL E 2 d 2)) := by unfold g_r; rw [show g_V (zH E σ) (zL E 2 d 1) 3 0 = _ from (zV (E := E) (σ := σ) (k := 2) (d := d) (c := 1) hW hu rfl rfl rfl 0)]; rfl
theorem zg_inp1 (hW : zWF E) (hu : zU E 2 d = true) : (g_i (zH E σ) (zL E 2 d 1) 3 1 = some (zI (σ 2 d 1 1))) := by unfold g_i; rw [show g_V (zH E σ) (zL E 2 d 1) 3 1 = _ from (zV (E := E) (σ := σ) (k := 2) (d := d) (c := 1) hW hu rfl rfl rfl 1)]; rfl
theorem zp_inp1 (hW : zWF E) (hu : zU E 2 d = true) : (∀ v : Int, g_put (zH E σ) (zL E 2 d 1) 3 1 (.int (zI v)) = some (zH E (zs σ 2 d 1 1 v))) := fun v => by rw [← zs_r]; exact zPut hW hu rfl rfl rfl (by simp) rfl rfl
set_option maxRecDepth 20000 in
theorem zz_inpo (hW : zWF E) (hu : zU E 2 d = true) : (g_r (zH E σ) (zL E 2 d 1) 3 0 = some (zL E 2 d 2)) ∧ (g_ob (zH E σ) (zL E 2 d 1) 3 = some ()) := by
  refine ⟨?_, ?_⟩
  · exact by unfold g_r; rw [show g_V (zH E σ) (zL E 2 d 1) 3 0 = _ from (zV (E := E) (σ := σ) (k := 2) (d := d) (c := 1) hW hu rfl rfl rfl 0)]; rfl
  · exact zOb hW hu rfl rfl rfl
set_option maxRecDepth 20000 in
theorem zz_inp (hW : zWF E) (hu : zU E 2 d = true) : (g_r (zH E σ) (zL E 2 d 1) 3 0 = some (zL E 2 d 2)) ∧ (g_i (zH E σ) (zL E 2 d 1) 3 1 = some (zI (σ 2 d 1 1))) ∧ (∀ v : Int, g_put (zH E σ) (zL E 2 d 1) 3 1 (.int (zI v)) = some (zH E (zs σ 2 d 1 1 v))) ∧ (g_ob (zH E σ) (zL E 2 d 1) 3 = some ()) := by
  refine ⟨?_, ?_, ?_, ?_⟩
  · exact by unfold g_r; rw [show g_V (zH E σ) (zL E 2 d 1) 3 0 = _ from (zV (E := E) (σ := σ) (k := 2) (d := d) (c := 1) hW hu rfl rfl rfl 0)]; rfl
  · exact by unfold g_i; rw [show g_V (zH E σ) (zL E 2 d 1) 3 1 = _ from (zV (E := E) (σ := σ) (k := 2) (d := d) (c := 1) hW hu rfl rfl rfl 1)]; rfl
  · exact fun v => by rw [← zs_r]; exact zPut hW hu rfl rfl rfl (by simp) rfl rfl
  · exact zOb hW hu rfl rfl rfl
theorem zg_tx0 (hW : zWF E) (hu : zU E 2 d = true) : (g_i (zH E σ) (zL E 2 d 3) 4 0 = some (zI (σ 2 d 3 0))) := by unfold g_i; rw [show g_V (zH E σ) (zL E 2 d 3) 4 0 = _ from (zV (E := E) (σ := σ) (k := 2) (d := d) (c := 3) hW hu rfl rfl rfl 0)]; rfl
theorem zp_tx0 (hW : zWF E) (hu : zU E 2 d = true) : (∀ v : Int, g_put (zH E σ) (zL E 2 d 3) 4 0 (.int (zI v)) = some (zH E (zs σ 2 d 3 0 v))) := fun v => by rw [← zs_r]; exact zPut hW hu rfl rfl rfl (by simp) rfl rfl
theorem zg_tx1 (hW : zWF E) (hu : zU E 2 d = true) : (g_i (zH E σ) (zL E 2 d 3) 4 1 = some (zI (σ 2 d 3 1))) := by unfold g_i; rw [show g_V (zH E σ) (zL E 2 d 3) 4 1 = _ from (zV (E := E) (σ := σ) (k := 2) (d := d) (c := 3) hW hu rfl rfl rfl 1)]; rfl
theorem zp_tx1 (hW : zWF E) (hu : zU E 2 d = true) : (∀ v : Int, g_put (zH E σ) (zL E 2 d 3) 4 1 (.int (zI v)) = some (zH E (zs σ 2 d 3 1 v))) := fun v => by rw [← zs_r]; exact zPut hW hu rfl rfl rfl (by simp) rfl rfl
theorem zg_tx2 (hW : zWF E) (hu : zU E 2 d = true) : (g_i (zH E σ) (zL E 2 d 3) 4 2 = some (zI (σ 2 d 3 2))) := by unfold g_i; rw [show g_V (zH E σ) (zL E 2 d 3) 4 2 = _ from (zV (E := E) (σ := σ) (k := 2) (d := d) (c := 3) hW hu rfl rfl rfl 2)]; rfl
theorem zp_tx2 (hW : zWF E) (hu : zU E 2 d = true) : (∀ v : Int, g_put (zH E σ) (zL E 2 d 3) 4 2 (.int (zI v)) = some (zH E (zs σ 2 d 3 2 v))) := fun v => by rw [← zs_r]; exact zPut hW hu rfl rfl rfl (by simp) rfl rfl
theorem zg_tx3 (hW : zWF E) (hu : zU E 2 d = true) : (g_i (zH E σ) (zL E 2 d 3) 4 3 = some (zI (σ 2 d 3 3))) := by unfold g_i; rw [show g_V (zH E σ) (zL E 2 d 3) 4 3 = _ from (zV (E := E) (σ := σ) (k := 2) (d := d) (c := 3) hW hu rfl rfl rfl 3)]; rfl
theorem zp_tx3 (hW : zWF E) (hu : zU E 2 d = true) : (∀ v : Int, g_put (zH E σ) (zL E 2 d 3) 4 3 (.int (zI v)) = some (zH E (zs σ 2 d 3 3 v))) := fun v => by rw [← zs_r]; exact zPut hW hu rfl rfl rfl (by simp) rfl rfl
theorem zg_tx4 (hW : zWF E) (hu : zU E 2 d = true) : (g_i (zH E σ) (zL E 2 d 3) 4 4 = some (zI (σ 2 d 3 4))) := by unfold g_i; rw [show g_V (zH E σ) (zL E 2 d 3) 4 4 = _ from (zV (E := E) (σ := σ) (k := 2) (d := d) (c := 3) hW hu rfl rfl rfl 4)]; rfl
theorem zp_tx4 (hW : zWF E) (hu : zU E 2 d = true) : (∀ v : Int, g_put (zH E σ) (zL E 2 d 3) 4 4 (.int (zI v)) = some (zH E (zs σ 2 d 3 4 v))) := fun v => by rw [← zs_r]; exact zPut hW hu rfl rfl rfl (by simp) rfl rfl
theorem zg_tx5 (hW : zWF E) (hu : zU E 2 d = true) : (g_r (zH E σ) (zL E 2 d 3) 4 5 = some (zL E 2 d 9)) := by unfold g_r; rw [show g_V (zH E σ) (zL E 2 d 3) 4 5 = _ from (zV (E := E) (σ := σ) (k := 2) (d := d) (c := 3) hW hu rfl rfl rfl 5)]; rfl
theorem zg_tx6 (hW : zWF E) (hu : zU E 2 d = true) : (g_i (zH E σ) (zL E 2 d 3) 4 6 = some (zI (σ 2 d 3 6))) := by unfold g_i; rw [show g_V (zH E σ) (zL E 2 d 3) 4 6 = _ from (zV (E := E) (σ := σ) (k := 2) (d := d) (c := 3) hW hu rfl rfl rfl 6)]; rfl
theorem zp_tx6 (hW : zWF E) (hu : zU E 2 d = true) : (∀ v : Int, g_put (zH E σ) (zL E 2 d 3) 4 6 (.int (zI v)) = some (zH E (zs σ 2 d 3 6 v))) := fun v => by rw [← zs_r]; exact zPut hW hu rfl rfl rfl (by simp) rfl rfl
theorem zg_tx7 (hW : zWF E) (hu : zU E 2 d = true) : (g_r (zH E σ) (zL E 2 d 3) 4 7 = some (zL E 2 d 10)) := by unfold g_r; rw [show g_V (zH E σ) (zL E 2 d 3) 4 7 = _ from (zV (E := E) (σ := σ) (k := 2) (d := d) (c := 3) hW hu rfl rfl rfl 7)]; rfl
theorem zg_tx8 (hW : zWF E) (hu : zU E 2 d = true) : (g_r (zH E σ) (zL E 2 d 3) 4 8 = some (zL E 2 d 11)) := by unfold g_r; rw [show g_V (zH E σ) (zL E 2 d 3) 4 8 = _ from (zV (E := E) (σ := σ) (k := 2) (d := d) (c := 3) hW hu rfl rfl rfl 8)]; rfl
theorem zg_tx9 (hW : zWF E) (hu : zU E 2 d = true) : (g_r (zH E σ) (zL E 2 d 3) 4 9 = some (zL E 2 d 12)) := by unfold g_r; rw [show g_V (zH E σ) (zL E 2 d 3) 4 9 = _ from (zV (E := E) (σ := σ) (k := 2) (d := d) (c := 3) hW hu rfl rfl rfl 9)]; rfl
theorem zg_tx10 (hW : zWF E) (hu : zU E 2 d = true) : (g_r (zH E σ) (zL E 2 d 3) 4 10 = some (zL E 2 d 13)) := by unfold g_r; rw [show g_V (zH E σ) (zL E 2 d 3) 4 10 = _ from (zV (E := E) (σ := σ) (k := 2) (d := d) (c := 3) hW hu rfl rfl rfl 10)]; rfl
theorem zg_tx11 (hW : zWF E) (hu : zU E 2 d = true) : (g_r (zH E σ) (zL E 2 d 3) 4 11 = some (zL E 2 d 14)) := by unfold g_r; rw [show g_V (zH E σ) (zL E 2 d 3) 4 11 = _ from (zV (E := E) (σ := σ) (k := 2) (d := d) (c := 3) hW hu rfl rfl rfl 11)]; rfl
theorem zg_tx12 (hW : zWF E) (hu : zU E 2 d = true) : (g_r (zH E σ) (zL E 2 d 3) 4 12 = some (zL E 2 d 15)) := by unfold g_r; rw [show g_V (zH E σ) (zL E 2 d 3) 4 12 = _ from (zV (E := E) (σ := σ) (k := 2) (d := d) (c := 3) hW hu rfl rfl rfl 12)]; rfl
theorem zg_tx13 (hW : zWF E) (hu : zU E 2 d = true) : (g_r (zH E σ) (zL E 2 d 3) 4 13 = some (zL E 2 d 16)) := by unfold g_r; rw [show g_V (zH E σ) (zL E 2 d 3) 4 13 = _ from (zV (E := E) (σ := σ) (k := 2) (d := d) (c := 3) hW hu rfl rfl rfl 13)]; rfl
theorem zg_tx14 (hW : zWF E) (hu : zU E 2 d = true) : (g_i (zH E σ) (zL E 2 d 3) 4 14 = some (zI (σ 2 d 3 14))) := by unfold g_i; rw [show g_V (zH E σ) (zL E 2 d 3) 4 14 = _ from (zV (E := E) (σ := σ) (k := 2) (d := d) (c := 3) hW hu rfl rfl rfl 14)]; rfl
theorem zp_tx14 (hW : zWF E) (hu : zU E 2 d = true) : (∀ v : Int, g_put (zH E σ) (zL E 2 d 3) 4 14 (.int (zI v)) = some (zH E (zs σ 2 d 3 14 v))) := fun v => by rw [← zs_r]; exact zPut hW hu rfl rfl rfl (by simp) rfl rfl
set_option maxRecDepth 20000 in
theorem zz_txo (hW : zWF E) (hu : zU E 2 d = true) : (g_r (zH E σ) (zL E 2 d 3) 4 5 = some (zL E 2 d 9)) ∧ (g_r (zH E σ) (zL E 2 d 3) 4 7 = some (zL E 2 d 10)) ∧ (g_r (zH E σ) (zL E 2 d 3) 4 8 = some (zL E 2 d 11)) ∧ (g_r (zH E σ) (zL E 2 d 3) 4 9 = some (zL E 2 d 12)) ∧ (g_r (zH E σ) (zL E 2 d 3) 4 10 = some (zL E 2 d 13)) ∧ (g_r (zH E σ) (zL E 2 d 3) 4 11 = some (zL E 2 d 14)) ∧ (g_r (zH E σ) (zL E 2 d 3) 4 12 = some (zL E 2 d 15)) ∧ (g_r (zH E σ) (zL E 2 d 3) 4 13 = some (zL E 2 d 16)) ∧ (g_ob (zH E σ) (zL E 2 d 3) 4 = some ()) := by
  refine ⟨?_, ?_, ?_, ?_, ?_, ?_, ?_, ?_, ?_⟩
  · exact by unfold g_r; rw [show g_V (zH E σ) (zL E 2 d 3) 4 5 = _ from (zV (E := E) (σ := σ) (k := 2) (d := d) (c := 3) hW hu rfl rfl rfl 5)]; rfl
  · exact by unfold g_r; rw [show g_V (zH E σ) (zL E 2 d 3) 4 7 = _ from (zV (E := E) (σ := σ) (k := 2) (d := d) (c := 3) hW hu rfl rfl rfl 7)]; rfl
  · exact by unfold g_r; rw [show g_V (zH E σ) (zL E 2 d 3) 4 8 = _ from (zV (E := E) (σ := σ) (k := 2) (d := d) (c := 3) hW hu rfl rfl rfl 8)]; rfl
  · exact by unfold g_r; rw [show g_V (zH E σ) (zL E 2 d 3) 4 9 = _ from (zV (E := E) (σ := σ) (k := 2) (d := d) (c := 3) hW hu rfl rfl rfl 9)]; rfl
  · exact by unfold g_r; rw [show g_V (zH E σ) (zL E 2 d 3) 4 10 = _ from (zV (E := E) (σ := σ) (k := 2) (d := d) (c := 3) hW hu rfl rfl rfl 10)]; rfl
  · exact by unfold g_r; rw [show g_V (zH E σ) (zL E 2 d 3) 4 11 = _ from (zV (E := E) (σ := σ) (k := 2) (d := d) (c := 3) hW hu rfl rfl rfl 11)]; rfl
  · exact by unfold g_r; rw [show g_V (zH E σ) (zL E 2 d 3) 4 12 = _ from (zV (E := E) (σ := σ) (k := 2) (d := d) (c := 3) hW hu rfl rfl rfl 12)]; rfl
  · exact by unfold g_r; rw [show g_V (zH E σ) (zL E 2 d 3) 4 13 = _ from (zV (E := E) (σ := σ) (k := 2) (d := d) (c := 3) hW hu rfl rfl rfl 13)]; rfl
  · exact zOb hW hu rfl rfl rfl
set_option maxRecDepth 20000 in
theorem zz_tx (hW : zWF E) (hu : zU E 2 d = true) : (g_i (zH E σ) (zL E 2 d 3) 4 0 = some (zI (σ 2 d 3 0))) ∧ (∀ v : Int, g_put (zH E σ) (zL E 2 d 3) 4 0 (.int (zI v)) = some (zH E (zs σ 2 d 3 0 v))) ∧ (g_i (zH E σ) (zL E 2 d 3) 4 1 = some (zI (σ 2 d 3 1))) ∧ (∀ v : Int, g_put (zH E σ) (zL E 2 d 3) 4 1 (.int (zI v)) = some (zH E (zs σ 2 d 3 1 v))) ∧ (g_i (zH E σ) (zL E 2 d 3) 4 2 = some (zI (σ 2 d 3 2))) ∧ (∀ v : Int, g_put (zH E σ) (zL E 2 d 3) 4 2 (.int (zI v)) = some (zH E (zs σ 2 d 3 2 v))) ∧ (g_i (zH E σ) (zL E 2 d 3) 4 3 = some (zI (σ 2 d 3 3))) ∧ (∀ v : Int, g_put (zH E σ) (zL E 2 d 3) 4 3 (.int (zI v)) = some (zH E (zs σ 2 d 3 3 v))) ∧ (g_i (zH E σ) (zL E 2 d 3) 4 4 = some (zI (σ 2 d 3 4))) ∧ (∀ v : Int, g_put (zH E σ) (zL E 2 d 3) 4 4 (.int (zI v)) = some (zH E (zs σ 2 d 3 4 v))) ∧ (g_r (zH E σ) (zL E 2 d 3) 4 5 = some (zL E 2 d 9)) ∧ (g_i (zH E σ) (zL E 2 d 3) 4 6 = some (zI (σ 2 d 3 6))) ∧ (∀ v : Int, g_put (zH E σ) (zL E 2 d 3) 4 6 (.int (zI v)) = some (zH E (zs σ 2 d 3 6 v))) ∧ (g_r (zH E σ) (zL E 2 d 3) 4 7 = some (zL E 2 d 10)) ∧ (g_r (zH E σ) (zL E 2 d 3) 4 8 = some (zL E 2 d 11)) ∧ (g_r (zH E σ) (zL E 2 d 3) 4 9 = some (zL E 2 d 12)) ∧ (g_r (zH E σ) (zL E 2 d 3) 4 10 = some (zL E 2 d 13)) ∧ (g_r (zH E σ) (zL E 2 d 3) 4 11 = some (zL E 2 d 14)) ∧ (g_r (zH E σ) (zL E 2 d 3) 4 12 = some (zL E 2 d 15)) ∧ (g_r (zH E σ) (zL E 2 d 3) 4 13 = some (zL E 2 d 16)) ∧ (g_i (zH E σ) (zL E 2 d 3) 4 14 = some (zI (σ 2 d 3 14))) ∧ (∀ v : Int, g_put (zH E σ) (zL E 2 d 3) 4 14 (.int (zI v)) = some (zH E (zs σ 2 d 3 14 v))) ∧ (g_ob (zH E σ) (zL E 2 d 3) 4 = some ()) := by
  refine ⟨?_, ?_, ?_, ?_, ?_, ?_, ?_, ?_, ?_, ?_, ?_, ?_, ?_, ?_, ?_, ?_, ?_, ?_, ?_, ?_, ?_, ?_, ?_⟩
  · exact by unfold g_i; rw [show g_V (zH E σ) (zL E 2 d 3) 4 0 = _ from (zV (E := E) (σ := σ) (k := 2) (d := d) (c := 3) hW hu rfl rfl rfl 0)]; rfl
  · exact fun v => by rw [← zs_r]; exact zPut hW hu rfl rfl rfl (by simp) rfl rfl
  · exact by unfold g_i; rw [show g_V (zH E σ) (zL E 2 d 3) 4 1 = _ from (zV (E := E) (σ := σ) (k := 2) (d := d) (c := 3) hW hu rfl rfl rfl 1)]; rfl
  · exact fun v => by rw [← zs_r]; exact zPut hW hu rfl rfl rfl (by simp) rfl rfl
  · exact by unfold g_i; rw [show g_V (zH E σ) (zL E 2 d 3) 4 2 = _ from (zV (E := E) (σ := σ) (k := 2) (d := d) (c := 3) hW hu rfl rfl rfl 2)]; rfl
  · exact fun v => by rw [← zs_r]; exact zPut hW hu rfl rfl rfl (by simp) rfl rfl
  · exact by unfold g_i; rw [show g_V (zH E σ) (zL E 2 d 3) 4 3 = _ from (zV (E := E) (σ := σ) (k := 2) (d := d) (c := 3) hW hu rfl rfl rfl 3)]; rfl
  · exact fun v => by rw [← zs_r]; exact zPut hW hu rfl rfl rfl (by simp) rfl rfl
  · exact by unfold g_i; rw [show g_V (zH E σ) (zL E 2 d 3) 4 4 = _ from (zV (E := E) (σ := σ) (k := 2) (d := d) (c := 3) hW hu rfl rfl rfl 4)]; rfl
  · exact fun v => by rw [← zs_r]; exact zPut hW hu rfl rfl rfl (by simp) rfl rfl
  · exact by unfold g_r; rw [show g_V (zH E σ) (zL E 2 d 3) 4 5 = _ from (zV (E := E) (σ := σ) (k := 2) (d := d) (c := 3) hW hu rfl rfl rfl 5)]; rfl
  · exact by unfold g_i; rw [show g_V (zH E σ) (zL E 2 d 3) 4 6 = _ from (zV (E := E) (σ := σ) (k := 2) (d := d) (c := 3) hW hu rfl rfl rfl 6)]; rfl
  · exact fun v => by rw [← zs_r]; exact zPut hW hu rfl rfl rfl (by simp) rfl rfl
  · exact by unfold g_r; rw [show g_V (zH E σ) (zL E 2 d 3) 4 7 = _ from (zV (E := E) (σ := σ) (k := 2) (d := d) (c := 3) hW hu rfl rfl rfl 7)]; rfl
  · exact by unfold g_r; rw [show g_V (zH E σ) (zL E 2 d 3) 4 8 = _ from (zV (E := E) (σ := σ) (k := 2) (d := d) (c := 3) hW hu rfl rfl rfl 8)]; rfl
  · exact by unfold g_r; rw [show g_V (zH E σ) (zL E 2 d 3) 4 9 = _ from (zV (E := E) (σ := σ) (k := 2) (d := d) (c := 3) hW hu rfl rfl rfl 9)]; rfl
  · exact by unfold g_r; rw [show g_V (zH E σ) (zL E 2 d 3) 4 10 = _ from (zV (E := E) (σ := σ) (k := 2) (d := d) (c := 3) hW hu rfl rfl rfl 10)]; rfl
  · exact by unfold g_r; rw [show g_V (zH E σ) (zL E 2 d 3) 4 11 = _ from (zV (E := E) (σ := σ) (k := 2) (d := d) (c := 3) hW hu rfl rfl rfl 11)]; rfl
  · exact by unfold g_r; rw [show g_V (zH E σ) (zL E 2 d 3) 4 12 = _ from (zV (E := E) (σ := σ) (k := 2) (d := d) (c := 3) hW hu rfl rfl rfl 12)]; rfl
  · exact by unfold g_r; rw [show g_V (zH E σ) (zL E 2 d 3) 4 13 = _ from (zV (E := E) (σ := σ) (k := 2) (d := d) (c := 3) hW hu rfl rfl rfl 13)]; rfl
  · exact by unfold g_i; rw [show g_V (zH E σ) (zL E 2 d 3) 4 14 = _ from (zV (E := E) (σ := σ) (k := 2) (d := d) (c := 3) hW hu rfl rfl rfl 14)]; rfl
  · exact fun v => by rw [← zs_r]; exact zPut hW hu rfl rfl rfl (by simp) rfl rfl
  · exact zOb hW hu rfl rfl rfl
theorem zg_hi0 (hW : zWF E) (hu : zU E 2 d = true) : (g_i (zH E σ) (zL E 2 d 4) 2 0 = some (zI (σ 2 d 4 0))) := by unfold g_i; rw [show g_V (zH E σ) (zL E 2 d 4) 2 0 = _ from (zV (E := E) (σ := σ) (k := 2) (d := d) (c := 4) hW hu rfl rfl rfl 0)]; rfl
theorem zp_hi0 (hW : zWF E) (hu : zU E 2 d = true) : (∀ v : Int, g_put (zH E σ) (zL E 2 d 4) 2 0 (.int (zI v)) = some (zH E (zs σ 2 d 4 0 v))) := fun v => by rw [← zs_r]; exact zPut hW hu rfl rfl rfl (by simp) rfl rfl
theorem zg_hi1 (hW : zWF E) (hu : zU E 2 d = true) : (g_i (zH E σ) (zL E 2 d 4) 2 1 = some (zI (σ 2 d 4 1))) := by unfold g_i; rw [show g_V (zH E σ) (zL E 2 d 4) 2 1 = _ from (zV (E := E) (σ := σ) (k := 2) (d := d) (c := 4) hW hu rfl rfl rfl 1)]; rfl
theorem zp_hi1 (hW : zWF E) (hu : zU E 2 d = true) : (∀ v : Int, g_put (zH E σ) (zL E 2 d 4) 2 1 (.int (zI v)) = some (zH E (zs σ 2 d 4 1 v))) := fun v => by rw [← zs_r]; exact zPut hW hu rfl rfl rfl (by simp) rfl rfl
theorem zg_hi2 (hW : zWF E) (hu : zU E 2 d = true) : (g_r (zH E σ) (zL E 2 d 4) 2 2 = some (zL E 2 d 5)) := by unfold g_r; rw [show g_V (zH E σ) (zL E 2 d 4) 2 2 = _ from (zV (E := E) (σ := σ) (k := 2) (d := d) (c := 4) hW hu rfl rfl rfl 2)]; rfl
set_option maxRecDepth 20000 in
theorem zz_hio (hW : zWF E) (hu : zU E 2 d = true) : (g_r (zH E σ) (zL E 2 d 4) 2 2 = some (zL E 2 d 5)) ∧ (g_ob (zH E σ) (zL E 2 d 4) 2 = some ()) := by
  refine ⟨?_, ?_⟩
  · exact by unfold g_r; rw [show g_V (zH E σ) (zL E 2 d 4) 2 2 = _ from (zV (E := E) (σ := σ) (k := 2) (d := d) (c := 4) hW hu rfl rfl rfl 2)]; rfl
  · exact zOb hW hu rfl rfl rfl
set_option maxRecDepth 20000 in
theorem zz_hi (hW : zWF E) (hu : zU E 2 d = true) : (g_i (zH E σ) (zL E 2 d 4) 2 0 = some (zI (σ 2 d 4 0))) ∧ (∀ v : Int, g_put (zH E σ) (zL E 2 d 4) 2 0 (.int (zI v)) = some (zH E (zs σ 2 d 4 0 v))) ∧ (g_i (zH E σ) (zL E 2 d 4) 2 1 = some (zI (σ 2 d 4 1))) ∧ (∀ v : Int, g_put (zH E σ) (zL E 2 d 4) 2 1 (.int (zI v)) = some (zH E (zs σ 2 d 4 1 v))) ∧ (g_r (zH E σ) (zL E 2 d 4) 2 2 = some (zL E 2 d 5)) ∧ (g_ob (zH E σ) (zL E 2 d 4) 2 = some ()) := by
  refine ⟨?_, ?_, ?_, ?_, ?_, ?_⟩
  · exact by unfold g_i; rw [show g_V (zH E σ) (zL E 2 d 4) 2 0 = _ from (zV (E := E) (σ := σ) (k := 2) (d := d) (c := 4) hW hu rfl rfl rfl 0)]; rfl
  · exact fun v => by rw [← zs_r]; exact zPut hW hu rfl rfl rfl (by simp) rfl rfl
  · exact by unfold g_i; rw [show g_V (zH E σ) (zL E 2 d 4) 2 1 = _ from (zV (E := E) (σ := σ) (k := 2) (d := d) (c := 4) hW hu rfl rfl rfl 1)]; rfl
  · exact fun v => by rw [← zs_r]; exact zPut hW hu rfl rfl rfl (by simp) rfl rfl
  · exact by unfold g_r; rw [show g_V (zH E σ) (zL E 2 d 4) 2 2 = _ from (zV (E := E) (σ := σ) (k := 2) (d := d) (c := 4) hW hu rfl rfl rfl 2)]; rfl
  · exact zOb hW hu rfl rfl rfl
theorem zg_sn0 (hW : zWF E) (hu : zU E 2 d = true) : (g_r (zH E σ) (zL E 2 d 6) 6 0 = some (zL E 2 d 7)) := by unfold g_r; rw [show g_V (zH E σ) (zL E 2 d 6) 6 0 = _ from (zV (E := E) (σ := σ) (k := 2) (d := d) (c := 6) hW hu rfl rfl rfl 0)]; rfl
theorem zg_sn1 (hW : zWF E) (hu : zU E 2 d = true) : (g_r (zH E σ) (zL E 2 d 6) 6 1 = some (zL E 2 d 8)) := by unfold g_r; rw [show g_V (zH E σ) (zL E 2 d 6) 6 1 = _ from (zV (E := E) (σ := σ) (k := 2) (d := d) (c := 6) hW hu rfl rfl rfl 1)]; rfl
set_option maxRecDepth 20000 in
theorem zz_sno (hW : zWF E) (hu : zU E 2 d = true) : (g_r (zH E σ) (zL E 2 d 6) 6 0 = some (zL E 2 d 7)) ∧ (g_r (zH E σ) (zL E 2 d 6) 6 1 = some (zL E 2 d 8)) ∧ (g_ob (zH E σ) (zL E 2 d 6) 6 = some ()) := by
  refine ⟨?_, ?_, ?_⟩
  · exact by unfold g_r; rw [show g_V (zH E σ) (zL E 2 d 6) 6 0 = _ from (zV (E := E) (σ := σ) (k := 2) (d := d) (c := 6) hW hu rfl rfl rfl 0)]; rfl
  · exact by unfold g_r; rw [show g_V (zH E σ) (zL E 2 d 6) 6 1 = _ from (zV (E := E) (σ := σ) (k := 2) (d := d) (c := 6) hW hu rfl rfl rfl 1)]; rfl
  · exact zOb hW hu rfl rfl rfl
set_option maxRecDepth 20000 in
theorem zz_sn (hW : zWF E) (hu : zU E 2 d = true) : (g_r (zH E σ) (zL E 2 d 6) 6 0 = some (zL E 2 d 7)) ∧ (g_r (zH E σ) (zL E 2 d 6) 6 1 = some (zL E 2 d 8)) ∧ (g_ob (zH E σ) (zL E 2 d 6) 6 = some ()) := by
  refine ⟨?_, ?_, ?_⟩
  · exact by unfold g_r; rw [show g_V (zH E σ) (zL E 2 d 6) 6 0 = _ from (zV (E := E) (σ := σ) (k := 2) (d := d) (c := 6) hW hu rfl rfl rfl 0)]; rfl
  · exact by unfold g_r; rw [show g_V (zH E σ) (zL E 2 d 6) 6 1 = _ from (zV (E := E) (σ := σ) (k := 2) (d := d) (c := 6) hW hu rfl rfl rfl 1)]; rfl
  · exact zOb hW hu rfl rfl rfl
theorem zg_tk0 (hW : zWF E) (hu : zU E 2 d = true) : (g_i (zH E σ) (zL E 2 d 16) 11 0 = some (zI (σ 2 d 16 0))) := by unfold g_i; rw [show g_V (zH E σ) (zL E 2 d 16) 11 0 = _ from (zV (E := E) (σ := σ) (k := 2) (d := d) (c := 16) hW hu rfl rfl rfl 0)]; rfl
theorem zp_tk0 (hW : zWF E) (hu : zU E 2 d = true) : (∀ v : Int, g_put (zH E σ) (zL E 2 d 16) 11 0 (.int (zI v)) = some (zH E (zs σ 2 d 16 0 v))) := fun v => by rw [← zs_r]; exact zPut hW hu rfl rfl rfl (by simp) rfl rfl
theorem zg_tk1 (hW : zWF E) (hu : zU E 2 d = true) : (g_i (zH E σ) (zL E 2 d 16) 11 1 = some (zI (σ 2 d 16 1))) := by unfold g_i; rw [show g_V (zH E σ) (zL E 2 d 16) 11 1 = _ from (zV (E := E) (σ := σ) (k := 2) (d := d) (c := 16) hW hu rfl rfl rfl 1)]; rfl
theorem zp_tk1 (hW : zWF E) (hu : zU E 2 d = true) : (∀ v : Int, g_put (zH E σ) (zL E 2 d 16) 11 1 (.int (zI v)) = some (zH E (zs σ 2 d 16 1 v))) := fun v => by rw [← zs_r]; exact zPut hW hu rfl rfl rfl (by simp) rfl rfl
theorem zg_tk2 (hW : zWF E) (hu : zU E 2 d = true) : (g_r (zH E σ) (zL E 2 d 16) 11 2 = some (zL E 2 d 17)) := by unfold g_r; rw [show g_V (zH E σ) (zL E 2 d 16) 11 2 = _ from (zV (E := E) (σ := σ) (k := 2) (d := d) (c := 16) hW hu rfl rfl rfl 2)]; rfl
theorem zg_tk3 (hW : zWF E) (hu : zU E 2 d = true) : (g_r (zH E σ) (zL E 2 d 16) 11 3 = some (zL E 2 d 18)) := by unfold g_r; rw [show g_V (zH E σ) (zL E 2 d 16) 11 3 = _ from (zV (E := E) (σ := σ) (k := 2) (d := d) (c := 16) hW hu rfl rfl rfl 3)]; rfl
theorem zg_tk4 (hW : zWF E) (hu : zU E 2 d = true) : (g_r (zH E σ) (zL E 2 d 16) 11 4 = some (zL E 2 d 19)) := by unfold g_r; rw [show g_V (zH E σ) (zL E 2 d 16) 11 4 = _ from (zV (E := E) (σ := σ) (k := 2) (d := d) (c := 16) hW hu rfl rfl rfl 4)]; rfl
set_option maxRecDepth 20000 in
theorem zz_tko (hW : zWF E) (hu : zU E 2 d = true) : (g_r (zH E σ) (zL E 2 d 16) 11 2 = some (zL E 2 d 17)) ∧ (g_r (zH E σ) (zL E 2 d 16) 11 3 = some (zL E 2 d 18)) ∧ (g_r (zH E σ) (zL E 2 d 16) 11 4 = some (zL E 2 d 19)) ∧ (g_ob (zH E σ) (zL E 2 d 16) 11 = some ()) := by
  refine ⟨?_, ?_, ?_, ?_⟩
  · exact by unfold g_r; rw [show g_V (zH E σ) (zL E 2 d 16) 11 2 = _ from (zV (E := E) (σ := σ) (k := 2) (d := d) (c := 16) hW hu rfl rfl rfl 2)]; rfl
  · exact by unfold g_r; rw [show g_V (zH E σ) (zL E 2 d 16) 11 3 = _ from (zV (E := E) (σ := σ) (k := 2) (d := d) (c := 16) hW hu rfl rfl rfl 3)]; rfl
  · exact by unfold g_r; rw [show g_V (zH E σ) (zL E 2 d 16) 11 4 = _ from (zV (E := E) (σ := σ) (k := 2) (d := d) (c := 16) hW hu rfl rfl rfl 4)]; rfl
  · exact zOb hW hu rfl rfl rfl
set_option maxRecDepth 20000 in
theorem zz_tk (hW : zWF E) (hu : zU E 2 d = true) : (g_i (zH E σ) (zL E 2 d 16) 11 0 = some (zI (σ 2 d 16 0))) ∧ (∀ v : Int, g_put (zH E σ) (zL E 2 d 16) 11 0 (.int (zI v)) = some (zH E (zs σ 2 d 16 0 v))) ∧ (g_i (zH E σ) (zL E 2 d 16) 11 1 = some (zI (σ 2 d 16 1))) ∧ (∀ v : Int, g_put (zH E σ) (zL E 2 d 16) 11 1 (.int (zI v)) = some (zH E (zs σ 2 d 16 1 v))) ∧ (g_r (zH E σ) (zL E 2 d 16) 11 2 = some (zL E 2 d 17)) ∧ (g_r (zH E σ) (zL E 2 d 16) 11 3 = some (zL E 2 d 18)) ∧ (g_r (zH E σ) (zL E 2 d 16) 11 4 = some (zL E 2 d 19)) ∧ (g_ob (zH E σ) (zL E 2 d 16) 11 = some ()) := by
  refine ⟨?_, ?_, ?_, ?_, ?_, ?_, ?_, ?_⟩
  · exact by unfold g_i; rw [show g_V (zH E σ) (zL E 2 d 16) 11 0 = _ from (zV (E := E) (σ := σ) (k := 2) (d := d) (c := 16) hW hu rfl rfl rfl 0)]; rfl
  · exact fun v => by rw [← zs_r]; exact zPut hW hu rfl rfl rfl (by simp) rfl rfl
  · exact by unfold g_i; rw [show g_V (zH E σ) (zL E 2 d 16) 11 1 = _ from (zV (E := E) (σ := σ) (k := 2) (d := d) (c := 16) hW hu rfl rfl rfl 1)]; rfl
  · exact fun v => by rw [← zs_r]; exact zPut hW hu rfl rfl rfl (by simp) rfl rfl
  · exact by unfold g_r; rw [show g_V (zH E σ) (zL E 2 d 16) 11 2 = _ from (zV (E := E) (σ := σ) (k := 2) (d := d) (c := 16) hW hu rfl rfl rfl 2)]; rfl
  · exact by unfold g_r; rw [show g_V (zH E σ) (zL E 2 d 16) 11 3 = _ from (zV (E := E) (σ := σ) (k := 2) (d := d) (c := 16) hW hu rfl rfl rfl 3)]; rfl
  · exact by unfold g_r; rw [show g_V (zH E σ) (zL E 2 d 16) 11 4 = _ from (zV (E := E) (σ := σ) (k := 2) (d := d) (c := 16) hW hu rfl rfl rfl 4)]; rfl
  · exact zOb hW hu rfl rfl rfl
theorem zg_ld0 (hW : zWF E) (hu : zU E 5 d = true) : (g_i (zH E σ) (zL E 5 d 0) 10 0 = some (zI (σ 5 d 0 0))) := by unfold g_i; rw [show g_V (zH E σ) (zL E 5 d 0) 10 0 = _ from (zV (E := E) (σ := σ) (k := 5) (d := d) (c := 0) hW hu rfl rfl rfl 0)]; rfl
theorem zp_ld0 (hW : zWF E) (hu : zU E 5 d = true) : (∀ v : Int, g_put (zH E σ) (zL E 5 d 0) 10 0 (.int (zI v)) = some (zH E (zs σ 5 d 0 0 v))) := fun v => by rw [← zs_r]; exact zPut hW hu rfl rfl rfl (by simp) rfl rfl
theorem zg_ld1 (hW : zWF E) (hu : zU E 5 d = true) : (g_i (zH E σ) (zL E 5 d 0) 10 1 = some (zI (σ 5 d 0 1))) := by unfold g_i; rw [show g_V (zH E σ) (zL E 5 d 0) 10 1 = _ from (zV (E := E) (σ := σ) (k := 5) (d := d) (c := 0) hW hu rfl rfl rfl 1)]; rfl
theorem zp_ld1 (hW : zWF E) (hu : zU E 5 d = true) : (∀ v : Int, g_put (zH E σ) (zL E 5 d 0) 10 1 (.int (zI v)) = some (zH E (zs σ 5 d 0 1 v))) := fun v => by rw [← zs_r]; exact zPut hW hu rfl rfl rfl (by simp) rfl rfl
theorem zg_ld2 (hW : zWF E) (hu : zU E 5 d = true) : (g_i (zH E σ) (zL E 5 d 0) 10 2 = some (zI (σ 5 d 0 2))) := by unfold g_i; rw [show g_V (zH E σ) (zL E 5 d 0) 10 2 = _ from (zV (E := E) (σ := σ) (k := 5) (d := d) (c := 0) hW hu rfl rfl rfl 2)]; rfl
theorem zp_ld2 (hW : zWF E) (hu : zU E 5 d = true) : (∀ v : Int, g_put (zH E σ) (zL E 5 d 0) 10 2 (.int (zI v)) = some (zH E (zs σ 5 d 0 2 v))) := fun v => by rw [← zs_r]; exact zPut hW hu rfl rfl rfl (by simp) rfl rfl
theorem zg_ld3 (hW : zWF E) (hu : zU E 5 d = true) : (g_i (zH E σ) (zL E 5 d 0) 10 3 = some (zI (σ 5 d 0 3))) := by unfold g_i; rw [show g_V (zH E σ) (zL E 5 d 0) 10 3 = _ from (zV (E := E) (σ := σ) (k := 5) (d := d) (c := 0) hW hu rfl rfl rfl 3)]; rfl
theorem zp_ld3 (hW : zWF E) (hu : zU E 5 d = true) : (∀ v : Int, g_put (zH E σ) (zL E 5 d 0) 10 3 (.int (zI v)) = some (zH E (zs σ 5 d 0 3 v))) := fun v => by rw [← zs_r]; exact zPut hW hu rfl rfl rfl (by simp) rfl rfl
theorem zg_ld4 (hW : zWF E) (hu : zU E 5 d = true) : (g_i (zH E σ) (zL E 5 d 0) 10 4 = some (zI (σ 5 d 0 4))) := by unfold g_i; rw [show g_V (zH E σ) (zL E 5 d 0) 10 4 = _ from (zV (E := E) (σ := σ) (k := 5) (d := d) (c := 0) hW hu rfl rfl rfl 4)]; rfl
theorem zp_ld4 (hW : zWF E) (hu : zU E 5 d = true) : (∀ v : Int, g_put (zH E σ) (zL E 5 d 0) 10 4 (.int (zI v)) = some (zH E (zs σ 5 d 0 4 v))) := fun v => by rw [← zs_r]; exact zPut hW hu rfl rfl rfl (by simp) rfl rfl
theorem zg_ld5 (hW : zWF E) (hu : zU E 5 d = true) : (g_i (zH E σ) (zL E 5 d 0) 10 5 = some (zI (σ 5 d 0 5))) := by unfold g_i; rw [show g_V (zH E σ) (zL E 5 d 0) 10 5 = _ from (zV (E := E) (σ := σ) (k := 5) (d := d) (c := 0) hW hu rfl rfl rfl 5)]; rfl
theorem zp_ld5 (hW : zWF E) (hu : zU E 5 d = true) : (∀ v : Int, g_put (zH E σ) (zL E 5 d 0) 10 5 (.int (zI v)) = some (zH E (zs σ 5 d 0 5 v))) := fun v => by rw [← zs_r]; exact zPut hW hu rfl rfl rfl (by simp) rfl rfl
theorem zg_ld6 (hW : zWF E) (hu : zU E 5 d = true) : (g_i (zH E σ) (zL E 5 d 0) 10 6 = some (zI (σ 5 d 0 6))) := by unfold g_i; rw [show g_V (zH E σ) (zL E 5 d 0) 10 6 = _ from (zV (E := E) (σ := σ) (k := 5) (d := d) (c := 0) hW hu rfl rfl rfl 6)]; rfl
theorem zp_ld6 (hW : zWF E) (hu : zU E 5 d = true) : (∀ v : Int, g_put (zH E σ) (zL E 5 d 0) 10 6 (.int (zI v)) = some (zH E (zs σ 5 d 0 6 v))) := fun v => by rw [← zs_r]; exact zPut hW hu rfl rfl rfl (by simp) rfl rfl
theorem zg_ld7 (hW : zWF E) (hu : zU E 5 d = true) : (g_r (zH E σ) (zL E 5 d 0) 10 7 = some (zL E 5 d 7)) := by unfold g_r; rw [show g_V (zH E σ) (zL E 5 d 0) 10 7 = _ from (zV (E := E) (σ := σ) (k := 5) (d := d) (c := 0) hW hu rfl rfl rfl 7)]; rfl
theorem zg_ld8 (hW : zWF E) (hu : zU E 5 d = true) : (g_r (zH E σ) (zL E 5 d 0) 10 8 = some (zL E 5 d 8)) := by unfold g_r; rw [show g_V (zH E σ) (zL E 5 d 0) 10 8 = _ from (zV (E := E) (σ := σ) (k := 5) (d := d) (c := 0) hW hu rfl rfl rfl 8)]; rfl
theorem zg_ld9 (hW : zWF E) (hu : zU E 5 d = true) : (g_r (zH E σ) (zL E 5 d 0) 10 9 = some (zL E 5 d 9)) := by unfold g_r; rw [show g_V (zH E σ) (zL E 5 d 0) 10 9 = _ from (zV (E := E) (σ := σ) (k := 5) (d := d) (c := 0) hW hu rfl rfl rfl 9)]; rfl
theorem zg_ld10 (hW : zWF E) (hu : zU E 5 d = true) : (g_r (zH E σ) (zL E 5 d 0) 10 10 = some (zL E 5 d 10)) := by unfold g_r; rw [show g_V (zH E σ) (zL E 5 d 0) 10 10 = _ from (zV (E := E) (σ := σ) (k := 5) (d := d) (c := 0) hW hu rfl rfl rfl 10)]; rfl
theorem zg_ld11 (hW : zWF E) (hu : zU E 5 d = true) : (g_r (zH E σ) (zL E 5 d 0) 10 11 = some (zL E 5 d 11)) := by unfold g_r; rw [show g_V (zH E σ) (zL E 5 d 0) 10 11 = _ from (zV (E := E) (σ := σ) (k := 5) (d := d) (c := 0) hW hu rfl rfl rfl 11)]; rfl
theorem zg_ld12 (hW : zWF E) (hu : zU E 5 d = true) : (g_r (zH E σ) (zL E 5 d 0) 10 12 = some (zL E 5 d 12)) := by unfold g_r; rw [show g_V (zH E σ) (zL E 5 d 0) 10 12 = _ from (zV (E := E) (σ := σ) (k := 5) (d := d) (c := 0) hW hu rfl rfl rfl 12)]; rfl
theorem zg_ld13 (hW : zWF E) (hu : zU E 5 d = true) : (g_r (zH E σ) (zL E 5 d 0) 10 13 = some (zL E 5 d 13)) := by unfold g_r; rw [show g_V (zH E σ) (zL E 5 d 0) 10 13 = _ from (zV (E := E) (σ := σ) (k := 5) (d := d) (c := 0) hW hu rfl rfl rfl 13)]; rfl
theorem zg_ld14 (hW : zWF E) (hu : zU E 5 d = true) : (g_r (zH E σ) (zL E 5 d 0) 10 14 = some (zL E 5 d 14)) := by unfold g_r; rw [show g_V (zH E σ) (zL E 5 d 0) 10 14 = _ from (zV (E := E) (σ := σ) (k := 5) (d := d) (c := 0) hW hu rfl rfl rfl 14)]; rfl
theorem zg_ld15 (hW : zWF E) (hu : zU E 5 d = true) : (g_r (zH E σ) (zL E 5 d 0) 10 15 = some (zL E 5 d 15)) := by unfold g_r; rw [show g_V (zH E σ) (zL E 5 d 0) 10 15 = _ from (zV (E := E) (σ := σ) (k := 5) (d := d) (c := 0) hW hu rfl rfl rfl 15)]; rfl
theorem zg_ld16 (hW : zWF E) (hu : zU E 5 d = true) : (g_r (zH E σ) (zL E 5 d 0) 10 16 = some (zL E 5 d 16)) := by unfold g_r; rw [show g_V (zH E σ) (zL E 5 d 0) 10 16 = _ from (zV (E := E) (σ := σ) (k := 5) (d := d) (c := 0) hW hu rfl rfl rfl 16)]; rfl
set_option maxRecDepth 20000 in
theorem zz_ldo (hW : zWF E) (hu : zU E 5 d = true) : (g_r (zH E σ) (zL E 5 d 0) 10 7 = some (zL E 5 d 7)) ∧ (g_r (zH E σ) (zL E 5 d 0) 10 8 = some (zL E 5 d 8)) ∧ (g_r (zH E σ) (zL E 5 d 0) 10 9 = some (zL E 5 d 9)) ∧ (g_r (zH E σ) (zL E 5 d 0) 10 10 = some (zL E 5 d 10)) ∧ (g_r (zH E σ) (zL E 5 d 0) 10 11 = some (zL E 5 d 11)) ∧ (g_r (zH E σ) (zL E 5 d 0) 10 12 = some (zL E 5 d 12)) ∧ (g_r (zH E σ) (zL E 5 d 0) 10 13 = some (zL E 5 d 13)) ∧ (g_r (zH E σ) (zL E 5 d 0) 10 14 = some (zL E 5 d 14)) ∧ (g_r (zH E σ) (zL E 5 d 0) 10 15 = some (zL E 5 d 15)) ∧ (g_r (zH E σ) (zL E 5 d 0) 10 16 = some (zL E 5 d 16)) ∧ (g_ob (zH E σ) (zL E 5 d 0) 10 = some ()) := by
  refine ⟨?_, ?_, ?_, ?_, ?_, ?_, ?_, ?_, ?_, ?_, ?_⟩
  · exact by unfold g_r; rw [show g_V (zH E σ) (zL E 5 d 0) 10 7 = _ from (zV (E := E) (σ := σ) (k := 5) (d := d) (c := 0) hW hu rfl rfl rfl 7)]; rfl
  · exact by unfold g_r; rw [show g_V (zH E σ) (zL E 5 d 0) 10 8 = _ from (zV (E := E) (σ := σ) (k := 5) (d := d) (c := 0) hW hu rfl rfl rfl 8)]; rfl
  · exact by unfold g_r; rw [show g_V (zH E σ) (zL E 5 d 0) 10 9 = _ from (zV (E := E) (σ := σ) (k := 5) (d := d) (c := 0) hW hu rfl rfl rfl 9)]; rfl
  · exact by unfold g_r; rw [show g_V (zH E σ) (zL E 5 d 0) 10 10 = _ from (zV (E := E) (σ := σ) (k := 5) (d := d) (c := 0) hW hu rfl rfl rfl 10)]; rfl
  · exact by unfold g_r; rw [show g_V (zH E σ) (zL E 5 d 0) 10 11 = _ from (zV (E := E) (σ := σ) (k := 5) (d := d) (c := 0) hW hu rfl rfl rfl 11)]; rfl
  · exact by unfold g_r; rw [show g_V (zH E σ) (zL E 5 d 0) 10 12 = _ from (zV (E := E) (σ := σ) (k := 5) (d := d) (c := 0) hW hu rfl rfl rfl 12)]; rfl
  · exact by unfold g_r; rw [show g_V (zH E σ) (zL E 5 d 0) 10 13 = _ from (zV (E := E) (σ := σ) (k := 5) (d := d) (c := 0) hW hu rfl rfl rfl 13)]; rfl
  · exact by unfold g_r; rw [show g_V (zH E σ) (zL E 5 d 0) 10 14 = _ from (zV (E := E) (σ := σ) (k := 5) (d := d) (c := 0) hW hu rfl rfl rfl 14)]; rfl
  · exact by unfold g_r; rw [show g_V (zH E σ) (zL E 5 d 0) 10 15 = _ from (zV (E := E) (σ := σ) (k := 5) (d := d) (c := 0) hW hu rfl rfl rfl 15)]; rfl
  · exact by unfold g_r; rw [show g_V (zH E σ) (zL E 5 d 0) 10 16 = _ from (zV (E := E) (σ := σ) (k := 5) (d := d) (c := 0) hW hu rfl rfl rfl 16)]; rfl
  · exact zOb hW hu rfl rfl rfl
set_option maxRecDepth 20000 in
theorem zz_ld (hW : zWF E) (hu : zU E 5 d = true) : (g_i (zH E σ) (zL E 5 d 0) 10 0 = some (zI (σ 5 d 0 0))) ∧ (∀ v : Int, g_put (zH E σ) (zL E 5 d 0) 10 0 (.int (zI v)) = some (zH E (zs σ 5 d 0 0 v))) ∧ (g_i (zH E σ) (zL E 5 d 0) 10 1 = some (zI (σ 5 d 0 1))) ∧ (∀ v : Int, g_put (zH E σ) (zL E 5 d 0) 10 1 (.int (zI v)) = some (zH E (zs σ 5 d 0 1 v))) ∧ (g_i (zH E σ) (zL E 5 d 0) 10 2 = some (zI (σ 5 d 0 2))) ∧ (∀ v : Int, g_put (zH E σ) (zL E 5 d 0) 10 2 (.int (zI v)) = some (zH E (zs σ 5 d 0 2 v))) ∧ (g_i (zH E σ) (zL E 5 d 0) 10 3 = some (zI (σ 5 d 0 3))) ∧ (∀ v : Int, g_put (zH E σ) (zL E 5 d 0) 10 3 (.int (zI v)) = some (zH E (zs σ 5 d 0 3 v))) ∧ (g_i (zH E σ) (zL E 5 d 0) 10 4 = some (zI (σ 5 d 0 4))) ∧ (∀ v : Int, g_put (zH E σ) (zL E 5 d 0) 10 4 (.int (zI v)) = some (zH E (zs σ 5 d 0 4 v))) ∧ (g_i (zH E σ) (zL E 5 d 0) 10 5 = some (zI (σ 5 d 0 5))) ∧ (∀ v : Int, g_put (zH E σ) (zL E 5 d 0) 10 5 (.int (zI v)) = some (zH E (zs σ 5 d 0 5 v))) ∧ (g_i (zH E σ) (zL E 5 d 0) 10 6 = some (zI (σ 5 d 0 6))) ∧ (∀ v : Int, g_put (zH E σ) (zL E 5 d 0) 10 6 (.int (zI v)) = some (zH E (zs σ 5 d 0 6 v))) ∧ (g_r (zH E σ) (zL E 5 d 0) 10 7 = some (zL E 5 d 7)) ∧ (g_r (zH E σ) (zL E 5 d 0) 10 8 = some (zL E 5 d 8)) ∧ (g_r (zH E σ) (zL E 5 d 0) 10 9 = some (zL E 5 d 9)) ∧ (g_r (zH E σ) (zL E 5 d 0) 10 10 = some (zL E 5 d 10)) ∧ (g_r (zH E σ) (zL E 5 d 0) 10 11 = some (zL E 5 d 11)) ∧ (g_r (zH E σ) (zL E 5 d 0) 10 12 = some (zL E 5 d 12)) ∧ (g_r (zH E σ) (zL E 5 d 0) 10 13 = some (zL E 5 d 13)) ∧ (g_r (zH E σ) (zL E 5 d 0) 10 14 = some (zL E 5 d 14)) ∧ (g_r (zH E σ) (zL E 5 d 0) 10 15 = some (zL E 5 d 15)) ∧ (g_r (zH E σ) (zL E 5 d 0) 10 16 = some (zL E 5 d 16)) ∧ (g_ob (zH E σ) (zL E 5 d 0) 10 = some ()) := by
  refine ⟨?_, ?_, ?_, ?_, ?_, ?_, ?_, ?_, ?_, ?_, ?_, ?_, ?_, ?_, ?_, ?_, ?_, ?_, ?_, ?_, ?_, ?_, ?_, ?_, ?_⟩
  · exact by unfold g_i; rw [show g_V (zH E σ) (zL E 5 d 0) 10 0 = _ from (zV (E := E) (σ := σ) (k := 5) (d := d) (c := 0) hW hu rfl rfl rfl 0)]; rfl
  · exact fun v => by rw [← zs_r]; exact zPut hW hu rfl rfl rfl (by simp) rfl rfl
  · exact by unfold g_i; rw [show g_V (zH E σ) (zL E 5 d 0) 10 1 = _ from (zV (E := E) (σ := σ) (k := 5) (d := d) (c := 0) hW hu rfl rfl rfl 1)]; rfl
  · exact fun v => by rw [← zs_r]; exact zPut hW hu rfl rfl rfl (by simp) rfl rfl
  · exact by unfold g_i; rw [show g_V (zH E σ) (zL E 5 d 0) 10 2 = _ from (zV (E := E) (σ := σ) (k := 5) (d := d) (c := 0) hW hu rfl rfl rfl 2)]; rfl
  · exact fun v => by rw [← zs_r]; exact zPut hW hu rfl rfl rfl (by simp) rfl rfl
  · exact by unfold g_i; rw [show g_V (zH E σ) (zL E 5 d 0) 10 3 = _ from (zV (E := E) (σ := σ) (k := 5) (d := d) (c := 0) hW hu rfl rfl rfl 3)]; rfl
  · exact fun v => by rw [← zs_r]; exact zPut hW hu rfl rfl rfl (by simp) rfl rfl
  · exact by unfold g_i; rw [show g_V (zH E σ) (zL E 5 d 0) 10 4 = _ from (zV (E := E) (σ := σ) (k := 5) (d := d) (c := 0) hW hu rfl rfl rfl 4)]; rfl
  · exact fun v => by rw [← zs_r]; exact zPut hW hu rfl rfl rfl (by simp) rfl rfl
  · exact by unfold g_i; rw [show g_V (zH E σ) (zL E 5 d 0) 10 5 = _ from (zV (E := E) (σ := σ) (k := 5) (d := d) (c := 0) hW hu rfl rfl rfl 5)]; rfl
  · exact fun v => by rw [← zs_r]; exact zPut hW hu rfl rfl rfl (by simp) rfl rfl
  · exact by unfold g_i; rw [show g_V (zH E σ) (zL E 5 d 0) 10 6 = _ from (zV (E := E) (σ := σ) (k := 5) (d := d) (c := 0) hW hu rfl rfl rfl 6)]; rfl
  · exact fun v => by rw [← zs_r]; exact zPut hW hu rfl rfl rfl (by simp) rfl rfl
  · exact by unfold g_r; rw [show g_V (zH E σ) (zL E 5 d 0) 10 7 = _ from (zV (E := E) (σ := σ) (k := 5) (d := d) (c := 0) hW hu rfl rfl rfl 7)]; rfl
  · exact by unfold g_r; rw [show g_V (zH E σ) (zL E 5 d 0) 10 8 = _ from (zV (E := E) (σ := σ) (k := 5) (d := d) (c := 0) hW hu rfl rfl rfl 8)]; rfl
  · exact by unfold g_r; rw [show g_V (zH E σ) (zL E 5 d 0) 10 9 = _ from (zV (E := E) (σ := σ) (k := 5) (d := d) (c := 0) hW hu rfl rfl rfl 9)]; rfl
  · exact by unfold g_r; rw [show g_V (zH E σ) (zL E 5 d 0) 10 10 = _ from (zV (E := E) (σ := σ) (k := 5) (d := d) (c := 0) hW hu rfl rfl rfl 10)]; rfl
  · exact by unfold g_r; rw [show g_V (zH E σ) (zL E 5 d 0) 10 11 = _ from (zV (E := E) (σ := σ) (k := 5) (d := d) (c := 0) hW hu rfl rfl rfl 11)]; rfl
  · exact by unfold g_r; rw [show g_V (zH E σ) (zL E 5 d 0) 10 12 = _ from (zV (E := E) (σ := σ) (k := 5) (d := d) (c := 0) hW hu rfl rfl rfl 12)]; rfl
  · exact by unfold g_r; rw [show g_V (zH E σ) (zL E 5 d 0) 10 13 = _ from (zV (E := E) (σ := σ) (k := 5) (d := d) (c := 0) hW hu rfl rfl rfl 13)]; rfl
  · exact by unfold g_r; rw [show g_V (zH E σ) (zL E 5 d 0) 10 14 = _ from (zV (E := E) (σ := σ) (k := 5) (d := d) (c := 0) hW hu rfl rfl rfl 14)]; rfl
  · exact by unfold g_r; rw [show g_V (zH E σ) (zL E 5 d 0) 10 15 = _ from (zV (E := E) (σ := σ) (k := 5) (d := d) (c := 0) hW hu rfl rfl rfl 15)]; rfl
  · exact by unfold g_r; rw [show g_V (zH E σ) (zL E 5 d 0) 10 16 = _ from (zV (E := E) (σ := σ) (k := 5) (d := d) (c := 0) hW hu rfl rfl rfl 16)]; rfl
  · exact zOb hW hu rfl rfl rfl
theorem zg_ls0 (hW : zWF E) (hu : zU E 6 d = true) : (g_i (zH E σ) (zL E 6 d 0) 12 0 = some (zI (σ 6 d 0 0))) := by unfold g_i; rw [show g_V (zH E σ) (zL E 6 d 0) 12 0 = _ from (zV (E := E) (σ := σ) (k := 6) (d := d) (c := 0) hW hu rfl rfl rfl 0)]; rfl
theorem zp_ls0 (hW : zWF E) (hu : zU E 6 d = true) : (∀ v : Int, g_put (zH E σ) (zL E 6 d 0) 12 0 (.int (zI v)) = some (zH E (zs σ 6 d 0 0 v))) := fun v => by rw [← zs_r]; exact zPut hW hu rfl rfl rfl (by simp) rfl rfl
theorem zg_ls1 (hW : zWF E) (hu : zU E 6 d = true) : (g_i (zH E σ) (zL E 6 d 0) 12 1 = some (zI (σ 6 d 0 1))) := by unfold g_i; rw [show g_V (zH E σ) (zL E 6 d 0) 12 1 = _ from (zV (E := E) (σ := σ) (k := 6) (d := d) (c := 0) hW hu rfl rfl rfl 1)]; rfl
theorem zp_ls1 (hW : zWF E) (hu : zU E 6 d = true) : (∀ v : Int, g_put (zH E σ) (zL E 6 d 0) 12 1 (.int (zI v)) = some (zH E (zs σ 6 d 0 1 v))) := fun v => by rw [← zs_r]; exact zPut hW hu rfl rfl rfl (by simp) rfl rfl
theorem zg_ls2 (hW : zWF E) (hu : zU E 6 d = true) : (g_i (zH E σ) (zL E 6 d 0) 12 2 = some (zI (σ 6 d 0 2))) := by unfold g_i; rw [show g_V (zH E σ) (zL E 6 d 0) 12 2 = _ from (zV (E := E) (σ := σ) (k := 6) (d := d) (c := 0) hW hu rfl rfl rfl 2)]; rfl
theorem zp_ls2 (hW : zWF E) (hu : zU E 6 d = true) : (∀ v : Int, g_put (zH E σ) (zL E 6 d 0) 12 2 (.int (zI v)) = some (zH E (zs σ 6 d 0 2 v))) := fun v => by rw [← zs_r]; exact zPut hW hu rfl rfl rfl (by simp) rfl rfl
theorem zg_ls3 (hW : zWF E) (hu : zU E 6 d = true) : (g_i (zH E σ) (zL E 6 d 0) 12 3 = some (zI (σ 6 d 0 3))) := by unfold g_i; rw [show g_V (zH E σ) (zL E 6 d 0) 12 3 = _ from (zV (E := E) (σ := σ) (k := 6) (d := d) (c := 0) hW hu rfl rfl rfl 3)]; rfl
theorem zp_ls3 (hW : zWF E) (hu : zU E 6 d = true) : (∀ v : Int, g_put (zH E σ) (zL E 6 d 0) 12 3 (.int (zI v)) = some (zH E (zs σ 6 d 0 3 v))) := fun v => by rw [← zs_r]; exact zPut hW hu rfl rfl rfl (by simp) rfl rfl
theorem zg_ls4 (hW : zWF E) (hu : zU E 6 d = true) : (g_i (zH E σ) (zL E 6 d 0) 12 4 = some (zI (σ 6 d 0 4))) := by unfold g_i; rw [show g_V (zH E σ) (zL E 6 d 0) 12 4 = _ from (zV (E := E) (σ := σ) (k := 6) (d := d) (c := 0) hW hu rfl rfl rfl 4)]; rfl
theorem zp_ls4 (hW : zWF E) (hu : zU E 6 d = true) : (∀ v : Int, g_put (zH E σ) (zL E 6 d 0) 12 4 (.int (zI v)) = some (zH E (zs σ 6 d 0 4 v))) := fun v => by rw [← zs_r]; exact zPut hW hu rfl rfl rfl (by simp) rfl rfl
theorem zg_ls5 (hW : zWF E) (hu : zU E 6 d = true) : (g_i (zH E σ) (zL E 6 d 0) 12 5 = some (zI (σ 6 d 0 5))) := by unfold g_i; rw [show g_V (zH E σ) (zL E 6 d 0) 12 5 = _ from (zV (E := E) (σ := σ) (k := 6) (d := d) (c := 0) hW hu rfl rfl rfl 5)]; rfl
theorem zp_ls5 (hW : zWF E) (hu : zU E 6 d = true) : (∀ v : Int, g_put (zH E σ) (zL E 6 d 0) 12 5 (.int (zI v)) = some (zH E (zs σ 6 d 0 5 v))) := fun v => by rw [← zs_r]; exact zPut hW hu rfl rfl rfl (by simp) rfl rfl
theorem zg_ls6 (hW : zWF E) (hu : zU E 6 d = true) : (g_r (zH E σ) (zL E 6 d 0) 12 6 = some (zL E 6 d 6)) := by unfold g_r; rw [show g_V (zH E σ) (zL E 6 d 0) 12 6 = _ from (zV (E := E) (σ := σ) (k := 6) (d := d) (c := 0) hW hu rfl rfl rfl 6)]; rfl
theorem zg_ls7 (hW : zWF E) (hu : zU E 6 d = true) : (g_r (zH E σ) (zL E 6 d 0) 12 7 = some (zL E 6 d 7)) := by unfold g_r; rw [show g_V (zH E σ) (zL E 6 d 0) 12 7 = _ from (zV (E := E) (σ := σ) (k := 6) (d := d) (c := 0) hW hu rfl rfl rfl 7)]; rfl
theorem zg_ls8 (hW : zWF E) (hu : zU E 6 d = true) : (g_r (zH E σ) (zL E 6 d 0) 12 8 = some (zL E 6 d 8)) := by unfold g_r; rw [show g_V (zH E σ) (zL E 6 d 0) 12 8 = _ from (zV (E := E) (σ := σ) (k := 6) (d := d) (c := 0) hW hu rfl rfl rfl 8)]; rfl
set_option maxRecDepth 20000 in
theorem zz_lso (hW : zWF E) (hu : zU E 6 d = true) : (g_r (zH E σ) (zL E 6 d 0) 12 6 = some (zL E 6 d 6)) ∧ (g_r (zH E σ) (zL E 6 d 0) 12 7 = some (zL E 6 d 7)) ∧ (g_r (zH E σ) (zL E 6 d 0) 12 8 = some (zL E 6 d 8)) ∧ (g_ob (zH E σ) (zL E 6 d 0) 12 = some ()) := by
  refine ⟨?_, ?_, ?_, ?_⟩
  · exact by unfold g_r; rw [show g_V (zH E σ) (zL E 6 d 0) 12 6 = _ from (zV (E := E) (σ := σ) (k := 6) (d := d) (c := 0) hW hu rfl rfl rfl 6)]; rfl
  · exact by unfold g_r; rw [show g_V (zH E σ) (zL E 6 d 0) 12 7 = _ from (zV (E := E) (σ := σ) (k := 6) (d := d) (c := 0) hW hu rfl rfl rfl 7)]; rfl
  · exact by unfold g_r; rw [show g_V (zH E σ) (zL E 6 d 0) 12 8 = _ from (zV (E := E) (σ := σ) (k := 6) (d := d) (c := 0) hW hu rfl rfl rfl 8)]; rfl
  · exact zOb hW hu rfl rfl rfl
set_option maxRecDepth 20000 in
theorem zz_ls (hW : zWF E) (hu : zU E 6 d = true) : (g_i (zH E σ) (zL E 6 d 0) 12 0 = some (zI (σ 6 d 0 0))) ∧ (∀ v : Int, g_put (zH E σ) (zL E 6 d 0) 12 0 (.int (zI v)) = some (zH E (zs σ 6 d 0 0 v))) ∧ (g_i (zH E σ) (zL E 6 d 0) 12 1 = some (zI (σ 6 d 0 1))) ∧ (∀ v : Int, g_put (zH E σ) (zL E 6 d 0) 12 1 (.int (zI v)) = some (zH E (zs σ 6 d 0 1 v))) ∧ (g_i (zH E σ) (zL E 6 d 0) 12 2 = some (zI (σ 6 d 0 2))) ∧ (∀ v : Int, g_put (zH E σ) (zL E 6 d 0) 12 2 (.int (zI v)) = some (zH E (zs σ 6 d 0 2 v))) ∧ (g_i (zH E σ) (zL E 6 d 0) 12 3 = some (zI (σ 6 d 0 3))) ∧ (∀ v : Int, g_put (zH E σ) (zL E 6 d 0) 12 3 (.int (zI v)) = some (zH E (zs σ 6 d 0 3 v))) ∧ (g_i (zH E σ) (zL E 6 d 0) 12 4 = some (zI (σ 6 d 0 4))) ∧ (∀ v : Int, g_put (zH E σ) (zL E 6 d 0) 12 4 (.int (zI v)) = some (zH E (zs σ 6 d 0 4 v))) ∧ (g_i (zH E σ) (zL E 6 d 0) 12 5 = some (zI (σ 6 d 0 5))) ∧ (∀ v : Int, g_put (zH E σ) (zL E 6 d 0) 12 5 (.int (zI v)) = some (zH E (zs σ 6 d 0 5 v))) ∧ (g_r (zH E σ) (zL E 6 d 0) 12 6 = some (zL E 6 d 6)) ∧ (g_r (zH E σ) (zL E 6 d 0) 12 7 = some (zL E 6 d 7)) ∧ (g_r (zH E σ) (zL E 6 d 0) 12 8 = some (zL E 6 d 8)) ∧ (g_ob (zH E σ) (zL E 6 d 0) 12 = some ()) := by
  refine ⟨?_, ?_, ?_, ?_, ?_, ?_, ?_, ?_, ?_, ?_, ?_, ?_, ?_, ?_, ?_, ?_⟩
  · exact by unfold g_i; rw [show g_V (zH E σ) (zL E 6 d 0) 12 0 = _ from (zV (E := E) (σ := σ) (k := 6) (d := d) (c := 0) hW hu rfl rfl rfl 0)]; rfl
  · exact fun v => by rw [← zs_r]; exact zPut hW hu rfl rfl rfl (by simp) rfl rfl
  · exact by unfold g_i; rw [show g_V (zH E σ) (zL E 6 d 0) 12 1 = _ from (zV (E := E) (σ := σ) (k := 6) (d := d) (c := 0) hW hu rfl rfl rfl 1)]; rfl
  · exact fun v => by rw [← zs_r]; exact zPut hW hu rfl rfl rfl (by simp) rfl rfl
  · exact by unfold g_i; rw [show g_V (zH E σ) (zL E 6 d 0) 12 2 = _ from (zV (E := E) (σ := σ) (k := 6) (d := d) (c := 0) hW hu rfl rfl rfl 2)]; rfl
  · exact fun v => by rw [← zs_r]; exact zPut hW hu rfl rfl rfl (by simp) rfl rfl
  · exact by unfold g_i; rw [show g_V (zH E σ) (zL E 6 d 0) 12 3 = _ from (zV (E := E) (σ := σ) (k := 6) (d := d) (c := 0) hW hu rfl rfl rfl 3)]; rfl
  · exact fun v => by rw [← zs_r]; exact zPut hW hu rfl rfl rfl (by simp) rfl rfl
  · exact by unfold g_i; rw [show g_V (zH E σ) (zL E 6 d 0) 12 4 = _ from (zV (E := E) (σ := σ) (k := 6) (d := d) (c := 0) hW hu rfl rfl rfl 4)]; rfl
  · exact fun v => by rw [← zs_r]; exact zPut hW hu rfl rfl rfl (by simp) rfl rfl
  · exact by unfold g_i; rw [show g_V (zH E σ) (zL E 6 d 0) 12 5 = _ from (zV (E := E) (σ := σ) (k := 6) (d := d) (c := 0) hW hu rfl rfl rfl 5)]; rfl
  · exact fun v => by rw [← zs_r]; exact zPut hW hu rfl rfl rfl (by simp) rfl rfl
  · exact by unfold g_r; rw [show g_V (zH E σ) (zL E 6 d 0) 12 6 = _ from (zV (E := E) (σ := σ) (k := 6) (d := d) (c := 0) hW hu rfl rfl rfl 6)]; rfl
  · exact by unfold g_r; rw [show g_V (zH E σ) (zL E 6 d 0) 12 7 = _ from (zV (E := E) (σ := σ) (k := 6) (d := d) (c := 0) hW hu rfl rfl rfl 7)]; rfl
  · exact by unfold g_r; rw [show g_V (zH E σ) (zL E 6 d 0) 12 8 = _ from (zV (E := E) (σ := σ) (k := 6) (d := d) (c := 0) hW hu rfl rfl rfl 8)]; rfl
  · exact zOb hW hu rfl rfl rfl
theorem zg_lv0 (hW : zWF E) (hu : zU E 7 d = true) : (g_i (zH E σ) (zL E 7 d 0) 13 0 = some (zI (σ 7 d 0 0))) := by unfold g_i; rw [show g_V (zH E σ) (zL E 7 d 0) 13 0 = _ from (zV (E := E) (σ := σ) (k := 7) (d := d) (c := 0) hW hu rfl rfl rfl 0)]; rfl
theorem zp_lv0 (hW : zWF E) (hu : zU E 7 d = true) : (∀ v : Int, g_put (zH E σ) (zL E 7 d 0) 13 0 (.int (zI v)) = some (zH E (zs σ 7 d 0 0 v))) := fun v => by rw [← zs_r]; exact zPut hW hu rfl rfl rfl (by simp) rfl rfl
theorem zg_lv1 (hW : zWF E) (hu : zU E 7 d = true) : (g_i (zH E σ) (zL E 7 d 0) 13 1 = some (zI (σ 7 d 0 1))) := by unfold g_i; rw [show g_V (zH E σ) (zL E 7 d 0) 13 1 = _ from (zV (E := E) (σ := σ) (k := 7) (d := d) (c := 0) hW hu rfl rfl rfl 1)]; rfl
theorem zp_lv1 (hW : zWF E) (hu : zU E 7 d = true) : (∀ v : Int, g_put (zH E σ) (zL E 7 d 0) 13 1 (.int (zI v)) = some (zH E (zs σ 7 d 0 1 v))) := fun v => by rw [← zs_r]; exact zPut hW hu rfl rfl rfl (by simp) rfl rfl
theorem zg_lv2 (hW : zWF E) (hu : zU E 7 d = true) : (g_i (zH E σ) (zL E 7 d 0) 13 2 = some (zI (σ 7 d 0 2))) := by unfold g_i; rw [show g_V (zH E σ) (zL E 7 d 0) 13 2 = _ from (zV (E := E) (σ := σ) (k := 7) (d := d) (c := 0) hW hu rfl rfl rfl 2)]; rfl
theorem zp_lv2 (hW : zWF E) (hu : zU E 7 d = true) : (∀ v : Int, g_put (zH E σ) (zL E 7 d 0) 13 2 (.int (zI v)) = some (zH E (zs σ 7 d 0 2 v))) := fun v => by rw [← zs_r]; exact zPut hW hu rfl rfl rfl (by simp) rfl rfl
theorem zg_lv3 (hW : zWF E) (hu : zU E 7 d = true) : (g_i (zH E σ) (zL E 7 d 0) 13 3 = some (zI (σ 7 d 0 3))) := by unfold g_i; rw [show g_V (zH E σ) (zL E 7 d 0) 13 3 = _ from (zV (E := E) (σ := σ) (k := 7) (d := d) (c := 0) hW hu rfl rfl rfl 3)]; rfl
theorem zp_lv3 (hW : zWF E) (hu : zU E 7 d = true) : (∀ v : Int, g_put (zH E σ) (zL E 7 d 0) 13 3 (.int (zI v)) = some (zH E (zs σ 7 d 0 3 v))) := fun v => by rw [← zs_r]; exact zPut hW hu rfl rfl rfl (by simp) rfl rfl
theorem zg_lv4 (hW : zWF E) (hu : zU E 7 d = true) : (g_i (zH E σ) (zL E 7 d 0) 13 4 = some (zI (σ 7 d 0 4))) := by unfold g_i; rw [show g_V (zH E σ) (zL E 7 d 0) 13 4 = _ from (zV (E := E) (σ := σ) (k := 7) (d := d) (c := 0) hW hu rfl rfl rfl 4)]; rfl
theorem zp_lv4 (hW : zWF E) (hu : zU E 7 d = true) : (∀ v : Int, g_put (zH E σ) (zL E 7 d 0) 13 4 (.int (zI v)) = some (zH E (zs σ 7 d 0 4 v))) := fun v => by rw [← zs_r]; exact zPut hW hu rfl rfl rfl (by simp) rfl rfl
theorem zg_lv5 (hW : zWF E) (hu : zU E 7 d = true) : (g_i (zH E σ) (zL E 7 d 0) 13 5 = some (zI (σ 7 d 0 5))) := by unfold g_i; rw [show g_V (zH E σ) (zL E 7 d 0) 13 5 = _ from (zV (E := E) (σ := σ) (k := 7) (d := d) (c := 0) hW hu rfl rfl rfl 5)]; rfl
theorem zp_lv5 (hW : zWF E) (hu : zU E 7 d = true) : (∀ v : Int, g_put (zH E σ) (zL E 7 d 0) 13 5 (.int (zI v)) = some (zH E (zs σ 7 d 0 5 v))) := fun v => by rw [← zs_r]; exact zPut hW hu rfl rfl rfl (by simp) rfl rfl
theorem zg_lv6 (hW : zWF E) (hu : zU E 7 d = true) : (g_r (zH E σ) (zL E 7 d 0) 13 6 = some (zL E 7 d 6)) := by unfold g_r; rw [show g_V (zH E σ) (zL E 7 d 0) 13 6 = _ from (zV (E := E) (σ := σ) (k := 7) (d := d) (c := 0) hW hu rfl rfl rfl 6)]; rfl
set_option maxRecDepth 20000 in
theorem zz_lvo (hW : zWF E) (hu : zU E 7 d = true) : (g_r (zH E σ) (zL E 7 d 0) 13 6 = some (zL E 7 d 6)) ∧ (g_ob (zH E σ) (zL E 7 d 0) 13 = some ()) := by
  refine ⟨?_, ?_⟩
  · exact by unfold g_r; rw [show g_V (zH E σ) (zL E 7 d 0) 13 6 = _ from (zV (E := E) (σ := σ) (k := 7) (d := d) (c := 0) hW hu rfl rfl rfl 6)]; rfl
  · exact zOb hW hu rfl rfl rfl
set_option maxRecDepth 20000 in
theorem zz_lv (hW : zWF E) (hu : zU E 7 d = true) : (g_i (zH E σ) (zL E 7 d 0) 13 0 = some (zI (σ 7 d 0 0))) ∧ (∀ v : Int, g_put (zH E σ) (zL E 7 d 0) 13 0 (.int (zI v)) = some (zH E (zs σ 7 d 0 0 v))) ∧ (g_i (zH E σ) (zL E 7 d 0) 13 1 = some (zI (σ 7 d 0 1))) ∧ (∀ v : Int, g_put (zH E σ) (zL E 7 d 0) 13 1 (.int (zI v)) = some (zH E (zs σ 7 d 0 1 v))) ∧ (g_i (zH E σ) (zL E 7 d 0) 13 2 = some (zI (σ 7 d 0 2))) ∧ (∀ v : Int, g_put (zH E σ) (zL E 7 d 0) 13 2 (.int (zI v)) = some (zH E (zs σ 7 d 0 2 v))) ∧ (g_i (zH E σ) (zL E 7 d 0) 13 3 = some (zI (σ 7 d 0 3))) ∧ (∀ v : Int, g_put (zH E σ) (zL E 7 d 0) 13 3 (.int (zI v)) = some (zH E (zs σ 7 d 0 3 v))) ∧ (g_i (zH E σ) (zL E 7 d 0) 13 4 = some (zI (σ 7 d 0 4))) ∧ (∀ v : Int, g_put (zH E σ) (zL E 7 d 0) 13 4 (.int (zI v)) = some (zH E (zs σ 7 d 0 4 v))) ∧ (g_i (zH E σ) (zL E 7 d 0) 13 5 = some (zI (σ 7 d 0 5))) ∧ (∀ v : Int, g_put (zH E σ) (zL E 7 d 0) 13 5 (.int (zI v)) = some (zH E (zs σ 7 d 0 5 v))) ∧ (g_r (zH E σ) (zL E 7 d 0) 13 6 = some (zL E 7 d 6)) ∧ (g_ob (zH E σ) (zL E 7 d 0) 13 = some ()) := by
  refine ⟨?_, ?_, ?_, ?_, ?_, ?_, ?_, ?_, ?_, ?_, ?_, ?_, ?_, ?_⟩
  · exact by unfold g_i; rw [show g_V (zH E σ) (zL E 7 d 0) 13 0 = _ from (zV (E := E) (σ := σ) (k := 7) (d := d) (c := 0) hW hu rfl rfl rfl 0)]; rfl
  · exact fun v => by rw [← zs_r]; exact zPut hW hu rfl rfl rfl (by simp) rfl rfl
  · exact by unfold g_i; rw [show g_V (zH E σ) (zL E 7 d 0) 13 1 = _ from (zV (E := E) (σ := σ) (k := 7) (d := d) (c := 0) hW hu rfl rfl rfl 1)]; rfl
  · exact fun v => by rw [← zs_r]; exact zPut hW hu rfl rfl rfl (by simp) rfl rfl
  · exact by unfold g_i; rw [show g_V (zH E σ) (zL E 7 d 0) 13 2 = _ from (zV (E := E) (σ := σ) (k := 7) (d := d) (c := 0) hW hu rfl rfl rfl 2)]; rfl
  · exact fun v => by rw [← zs_r]; exact zPut hW hu rfl rfl rfl (by simp) rfl rfl
  · exact by unfold g_i; rw [show g_V (zH E σ) (zL E 7 d 0) 13 3 = _ from (zV (E := E) (σ := σ) (k := 7) (d := d) (c := 0) hW hu rfl rfl rfl 3)]; rfl
  · exact fun v => by rw [← zs_r]; exact zPut hW hu rfl rfl rfl (by simp) rfl rfl
  · exact by unfold g_i; rw [show g_V (zH E σ) (zL E 7 d 0) 13 4 = _ from (zV (E := E) (σ := σ) (k := 7) (d := d) (c := 0) hW hu rfl rfl rfl 4)]; rfl
  · exact fun v => by rw [← zs_r]; exact zPut hW hu rfl rfl rfl (by simp) rfl rfl
  · exact by unfold g_i; rw [show g_V (zH E σ) (zL E 7 d 0) 13 5 = _ from (zV (E := E) (σ := σ) (k := 7) (d := d) (c := 0) hW hu rfl rfl rfl 5)]; rfl
  · exact fun v => by rw [← zs_r]; exact zPut hW hu rfl rfl rfl (by simp) rfl rfl
  · exact by unfold g_r; rw [show g_V (zH E σ) (zL E 7 d 0) 13 6 = _ from (zV (E := E) (σ := σ) (k := 7) (d := d) (c := 0) hW hu rfl rfl rfl 6)]; rfl
  · exact zOb hW hu rfl rfl rfl
set_option maxRecDepth 20000 in
theorem zz_da (hW : zWF E) (hu : zU E 0 d = true) : (∀ i : Int, 0 ≤ i → i < 96 → g_ald 0 (zH E σ) (zL E 0 d 2) (zI i) = some (zI (σ 0 d 2 i))) ∧ (∀ i v : Int, 0 ≤ i → i < 96 → g_ast 0 (zH E σ) (zL E 0 d 2) (zI i) (zI v) = some (zH E (zs σ 0 d 2 i v))) ∧ (g_len (zH E σ) (zL E 0 d 2) = some (zI 96)) ∧ (∀ i : Int, 0 ≤ i → i < 96 → g_ald 1 (zH E σ) (zL E 0 d 3) (zI i) = some (zI (σ 0 d 3 i))) ∧ (∀ (i : Int) (v : Bool), 0 ≤ i → i < 96 → g_ast 1 (zH E σ) (zL E 0 d 3) (zI i) (zI (zb v)) = some (zH E (zs σ 0 d 3 i (zb v)))) ∧ (∀ i : Int, 0 ≤ i → i < 96 → g_ast 1 (zH E σ) (zL E 0 d 3) (zI i) (zI 0) = some (zH E (zs σ 0 d 3 i 0))) ∧ (∀ i : Int, 0 ≤ i → i < 96 → g_ast 1 (zH E σ) (zL E 0 d 3) (zI i) (zI 1) = some (zH E (zs σ 0 d 3 i 1))) ∧ (g_len (zH E σ) (zL E 0 d 3) = some (zI 96)) ∧ (∀ i : Int, 0 ≤ i → i < 96 → g_ald 1 (zH E σ) (zL E 0 d 4) (zI i) = some (zI (σ 0 d 4 i))) ∧ (∀ (i : Int) (v : Bool), 0 ≤ i → i < 96 → g_ast 1 (zH E σ) (zL E 0 d 4) (zI i) (zI (zb v)) = some (zH E (zs σ 0 d 4 i (zb v)))) ∧ (∀ i : Int, 0 ≤ i → i < 96 → g_ast 1 (zH E σ) (zL E 0 d 4) (zI i) (zI 0) = some (zH E (zs σ 0 d 4 i 0))) ∧ (∀ i : Int, 0 ≤ i → i < 96 → g_ast 1 (zH E σ) (zL E 0 d 4) (zI i) (zI 1) = some (zH E (zs σ 0 d 4 i 1))) ∧ (g_len (zH E σ) (zL E 0 d 4) = some (zI 96)) ∧ (∀ i : Int, 0 ≤ i → i < 96 → g_ald 0 (zH E σ) (zL E 0 d 5) (zI i) = some (zI (σ 0 d 5 i))) ∧ (∀ i v : Int, 0 ≤ i → i < 96 → g_ast 0 (zH E σ) (zL E 0 d 5) (zI i) (zI v) = some (zH E (zs σ 0 d 5 i v))) ∧ (g_len (zH E σ) (zL E 0 d 5) = some (zI 96)) ∧ (∀ i : Int, 0 ≤ i → i < 96 → g_ald 0 (zH E σ) (zL E 0 d 6) (zI i) = some (zI (σ 0 d 6 i))) ∧ (∀ i v : Int, 0 ≤ i → i < 96 → g_ast 0 (zH E σ) (zL E 0 d 6) (zI i) (zI v) = some (zH E (zs σ 0 d 6 i v))) ∧ (g_len (zH E σ) (zL E 0 d 6) = some (zI 96)) ∧ (∀ i : Int, 0 ≤ i → i < 96 → g_ald 0 (zH E σ) (zL E 0 d 7) (zI i) = some (zI (σ 0 d 7 i))) ∧ (∀ i v : Int, 0 ≤ i → i < 96 → g_ast 0 (zH E σ) (zL E 0 d 7) (zI i) (zI v) = some (zH E (zs σ 0 d 7 i v))) ∧ (g_len (zH E σ) (zL E 0 d 7) = some (zI 96)) ∧ (∀ i : Int, 0 ≤ i → i < 96 → g_ald 0 (zH E σ) (zL E 0 d 8) (zI i) = some (zI (σ 0 d 8 i))) ∧ (∀ i v : Int, 0 ≤ i → i < 96 → g_ast 0 (zH E σ) (zL E 0 d 8) (zI i) (zI v) = some (zH E (zs σ 0 d 8 i v))) ∧ (g_len (zH E σ) (zL E 0 d 8) = some (zI 96)) ∧ (∀ i : Int, 0 ≤ i → i < 96 → g_ald 0 (zH E σ) (zL E 0 d 9) (zI i) = some (zI (σ 0 d 9 i))) ∧ (∀ i v : Int, 0 ≤ i → i < 96 → g_ast 0 (zH E σ) (zL E 0 d 9) (zI i) (zI v) = some (zH E (zs σ 0 d 9 i v))) ∧ (g_len (zH E σ) (zL E 0 d 9) = some (zI 96)) ∧ (∀ i : Int, 0 ≤ i → i < 96 → g_ald 0 (zH E σ) (zL E 0 d 11) (zI i) = some (zI (σ 0 d 11 i))) ∧ (∀ i v : Int, 0 ≤ i → i < 96 → g_ast 0 (zH E σ) (zL E 0 d 11) (zI i) (zI v) = some (zH E (zs σ 0 d 11 i v))) ∧ (g_len (zH E σ) (zL E 0 d 11) = some (zI 96)) ∧ (∀ i : Int, 0 ≤ i → i < 96 → g_ald 0 (zH E σ) (zL E 0 d 12) (zI i) = some (zI (σ 0 d 12 i))) ∧ (∀ i v : Int, 0 ≤ i → i < 96 → g_ast 0 (zH E σ) (zL E 0 d 12) (zI i) (zI v) = some (zH E (zs σ 0 d 12 i v))) ∧ (g_len (zH E σ) (zL E 0 d 12) = some (zI 96)) ∧ (∀ i : Int, 0 ≤ i → i < 96 → g_ald 0 (zH E σ) (zL E 0 d 13) (zI i) = some (zI (σ 0 d 13 i))) ∧ (∀ i v : Int, 0 ≤ i → i < 96 → g_ast 0 (zH E σ) (zL E 0 d 13) (zI i) (zI v) = some (zH E (zs σ 0 d 13 i v))) ∧ (g_len (zH E σ) (zL E 0 d 13) = some (zI 96)) ∧ (∀ i : Int, 0 ≤ i → i < 96 → g_ald 0 (zH E σ) (zL E 0 d 14) (zI i) = some (zI (σ 0 d 14 i))) ∧ (∀ i v : Int, 0 ≤ i → i < 96 → g_ast 0 (zH E σ) (zL E 0 d 14) (zI i) (zI v) = some (zH E (zs σ 0 d 14 i v))) ∧ (g_len (zH E σ) (zL E 0 d 14) = some (zI 96)) ∧ (∀ i : Int, 0 ≤ i → i < 96 → g_ald 0 (zH E σ) (zL E 0 d 15) (zI i) = some (zI (σ 0 d 15 i))) ∧ (∀ i v : Int, 0 ≤ i → i < 96 → g_ast 0 (zH E σ) (zL E 0 d 15) (zI i) (zI v) = some (zH E (zs σ 0 d 15 i v))) ∧ (g_len (zH E σ) (zL E 0 d 15) = some (zI 96)) ∧ (∀ i : Int, 0 ≤ i → i < 12 → g_ald 0 (zH E σ) (zL E 0 d 17) (zI i) = some (zI (σ 0 d 17 i))) ∧ (∀ i v : Int, 0 ≤ i → i < 12 → g_ast 0 (zH E σ) (zL E 0 d 17) (zI i) (zI v) = some (zH E (zs σ 0 d 17 i v))) ∧ (g_len (zH E σ) (zL E 0 d 17) = some (zI 12)) ∧ (∀ i : Int, 0 ≤ i → i < 12 → g_ald 0 (zH E σ) (zL E 0 d 18) (zI i) = some (zI (σ 0 d 18 i))) ∧ (∀ i v : Int, 0 ≤ i → i < 12 → g_ast 0 (zH E σ) (zL E 0 d 18) (zI i) (zI v) = some (zH E (zs σ 0 d 18 i v))) ∧ (g_len (zH E σ) (zL E 0 d 18) = some (zI 12)) ∧ (∀ i : Int, 0 ≤ i → i < 12 → g_ald 0 (zH E σ) (zL E 0 d 19) (zI i) = some (zI (σ 0 d 19 i))) ∧ (∀ i v : Int, 0 ≤ i → i < 12 → g_ast 0 (zH E σ) (zL E 0 d 19) (zI i) (zI v) = some (zH E (zs σ 0 d 19 i v))) ∧ (g_len (zH E σ) (zL E 0 d 19) = some (zI 12)) ∧ (∀ i : Int, 0 ≤ i → i < 12 → g_ald 0 (zH E σ) (zL E 0 d 20) (zI i) = some (zI (σ 0 d 20 i))) ∧ (∀ i v : Int, 0 ≤ i → i < 12 → g_ast 0 (zH E σ) (zL E 0 d 20) (zI i) (zI v) = some (zH E (zs σ 0 d 20 i v))) ∧ (g_len (zH E σ) (zL E 0 d 20) = some (zI 12)) ∧ (∀ i : Int, 0 ≤ i → i < 120 → g_ald 0 (zH E σ) (zL E 0 d 21) (zI i) = some (zI (σ 0 d 21 i))) ∧ (∀ i v : Int, 0 ≤ i → i < 120 → g_ast 0 (zH E σ) (zL E 0 d 21) (zI i) (zI v) = some (zH E (zs σ 0 d 21 i v))) ∧ (g_len (zH E σ) (zL E 0 d 21) = some (zI 120)) ∧ (∀ i : Int, 0 ≤ i → i < 120 → g_ald 0 (zH E σ) (zL E 0 d 22) (zI i) = some (zI (σ 0 d 22 i))) ∧ (∀ i v : Int, 0 ≤ i → i < 120 → g_ast 0 (zH E σ) (zL E 0 d 22) (zI i) (zI v) = some (zH E (zs σ 0 d 22 i v))) ∧ (g_len (zH E σ) (zL E 0 d 22) = some (zI 120)) ∧ (∀ i : Int, 0 ≤ i → i < 10 → g_lald (zH E σ) (zL E 0 d 23) (zI i) = some (zJ (σ 0 d 23 i))) ∧ (∀ i v : Int, 0 ≤ i → i < 10 → g_last (zH E σ) (zL E 0 d 23) (zI i) (zJ v) = some (zH E (zs σ 0 d 23 i v))) ∧ (g_len (zH E σ) (zL E 0 d 23) = some (zI 10)) ∧ (∀ i : Int, 0 ≤ i → i < 12 → g_ald 0 (zH E σ) (zL E 0 d 24) (zI i) = some (zI (σ 0 d 24 i))) ∧ (∀ i v : Int, 0 ≤ i → i < 12 → g_ast 0 (zH E σ) (zL E 0 d 24) (zI i) (zI v) = some (zH E (zs σ 0 d 24 i v))) ∧ (g_len (zH E σ) (zL E 0 d 24) = some (zI 12)) := by
  refine ⟨?_, ?_, ?_, ?_, ?_, ?_, ?_, ?_, ?_, ?_, ?_, ?_, ?_, ?_, ?_, ?_, ?_, ?_, ?_, ?_, ?_, ?_, ?_, ?_, ?_, ?_, ?_, ?_, ?_, ?_, ?_, ?_, ?_, ?_, ?_, ?_, ?_, ?_, ?_, ?_, ?_, ?_, ?_, ?_, ?_, ?_, ?_, ?_, ?_, ?_, ?_, ?_, ?_, ?_, ?_, ?_, ?_, ?_, ?_, ?_, ?_, ?_, ?_, ?_, ?_, ?_, ?_⟩
  · exact fun i h0 h1 => zAld hW hu rfl (by decide) (by decide) h0 h1
  · exact fun i v h0 h1 => zAst hW hu rfl (by decide) (by decide) h0 h1 rfl
  · exact zLen hW hu rfl (by decide)
  · exact fun i h0 h1 => zAld hW hu rfl (by decide) (by decide) h0 h1
  · exact fun i v h0 h1 => zAst hW hu rfl (by decide) (by decide) h0 h1 (g_nar1 v)
  · exact fun i h0 h1 => zAst hW hu rfl (by decide) (by decide) h0 h1 rfl
  · exact fun i h0 h1 => zAst hW hu rfl (by decide) (by decide) h0 h1 rfl
  · exact zLen hW hu rfl (by decide)
  · exact fun i h0 h1 => zAld hW hu rfl (by decide) (by decide) h0 h1
  · exact fun i v h0 h1 => zAst hW hu rfl (by decide) (by decide) h0 h1 (g_nar1 v)
  · exact fun i h0 h1 => zAst hW hu rfl (by decide) (by decide) h0 h1 rfl
  · exact fun i h0 h1 => zAst hW hu rfl (by decide) (by decide) h0 h1 rfl
  · exact zLen hW hu rfl (by decide)
  · exact fun i h0 h1 => zAld hW hu rfl (by decide) (by decide) h0 h1
  · exact fun i v h0 h1 => zAst hW hu rfl (by decide) (by decide) h0 h1 rfl
  · exact zLen hW hu rfl (by decide)
  · exact fun i h0 h1 => zAld hW hu rfl (by decide) (by decide) h0 h1
  · exact fun i v h0 h1 => zAst hW hu rfl (by decide) (by decide) h0 h1 rfl
  · exact zLen hW hu rfl (by decide)
  · exact fun i h0 h1 => zAld hW hu rfl (by decide) (by decide) h0 h1
  · exact fun i v h0 h1 => zAst hW hu rfl (by decide) (by decide) h0 h1 rfl
  · exact zLen hW hu rfl (by decide)
  · exact fun i h0 h1 => zAld hW hu rfl (by decide) (by decide) h0 h1
  · exact fun i v h0 h1 => zAst hW hu rfl (by decide) (by decide) h0 h1 rfl
  · exact zLen hW hu rfl (by decide)
  · exact fun i h0 h1 => zAld hW hu rfl (by decide) (by decide) h0 h1
  · exact fun i v h0 h1 => zAst hW hu rfl (by decide) (by decide) h0 h1 rfl
  · exact zLen hW hu rfl (by decide)
  · exact fun i h0 h1 => zAld hW hu rfl (by decide) (by decide) h0 h1
  · exact fun i v h0 h1 => zAst hW hu rfl (by decide) (by decide) h0 h1 rfl
  · exact zLen hW hu rfl (by decide)
  · exact fun i h0 h1 => zAld hW hu rfl (by decide) (by decide) h0 h1
  · exact fun i v h0 h1 => zAst hW hu rfl (by decide) (by decide) h0 h1 rfl
  · exact zLen hW hu rfl (by decide)
  · exact fun i h0 h1 => zAld hW hu rfl (by decide) (by decide) h0 h1
  · exact fun i v h0 h1 => zAst hW hu rfl (by decide) (by decide) h0 h1 rfl
  · exact zLen hW hu rfl (by decide)
  · exact fun i h0 h1 => zAld hW hu rfl (by decide) (by decide) h0 h1
  · exact fun i v h0 h1 => zAst hW hu rfl (by decide) (by decide) h0 h1 rfl
  · exact zLen hW hu rfl (by decide)
  · exact fun i h0 h1 => zAld hW hu rfl (by decide) (by decide) h0 h1
  · exact fun i v h0 h1 => zAst hW hu rfl (by decide) (by decide) h0 h1 rfl
  · exact zLen hW hu rfl (by decide)
  · exact fun i h0 h1 => zAld hW hu rfl (by decide) (by decide) h0 h1
  · exact fun i v h0 h1 => zAst hW hu rfl (by decide) (by decide) h0 h1 rfl
  · exact zLen hW hu rfl (by decide)
  · exact fun i h0 h1 => zAld hW hu rfl (by decide) (by decide) h0 h1
  · exact fun i v h0 h1 => zAst hW hu rfl (by decide) (by decide) h0 h1 rfl
  · exact zLen hW hu rfl (by decide)
  · exact fun i h0 h1 => zAld hW hu rfl (by decide) (by decide) h0 h1
  · exact fun i v h0 h1 => zAst hW hu rfl (by decide) (by decide) h0 h1 rfl
  · exact zLen hW hu rfl (by decide)
  · exact fun i h0 h1 => zAld hW hu rfl (by decide) (by decide) h0 h1
  · exact fun i v h0 h1 => zAst hW hu rfl (by decide) (by decide) h0 h1 rfl
  · exact zLen hW hu rfl (by decide)
  · exact fun i h0 h1 => zAld hW hu rfl (by decide) (by decide) h0 h1
  · exact fun i v h0 h1 => zAst hW hu rfl (by decide) (by decide) h0 h1 rfl
  · exact zLen hW hu rfl (by decide)
  · exact fun i h0 h1 => zAld hW hu rfl (by decide) (by decide) h0 h1
  · exact fun i v h0 h1 => zAst hW hu rfl (by decide) (by decide) h0 h1 rfl
  · exact zLen hW hu rfl (by decide)
  · exact fun i h0 h1 => zLald hW hu rfl (by decide) h0 h1
  · exact fun i v h0 h1 => zLast hW hu rfl (by decide) h0 h1
  · exact zLen hW hu rfl (by decide)
  · exact fun i h0 h1 => zAld hW hu rfl (by decide) (by decide) h0 h1
  · exact fun i v h0 h1 => zAst hW hu rfl (by decide) (by decide) h0 h1 rfl
  · exact zLen hW hu rfl (by decide)
set_option maxRecDepth 20000 in
theorem zz_va (hW : zWF E) (hu : zU E 1 d = true) : (∀ i : Int, 0 ≤ i → i < 12 → g_ald 1 (zH E σ) (zL E 1 d 1) (zI i) = some (zI (σ 1 d 1 i))) ∧ (∀ (i : Int) (v : Bool), 0 ≤ i → i < 12 → g_ast 1 (zH E σ) (zL E 1 d 1) (zI i) (zI (zb v)) = some (zH E (zs σ 1 d 1 i (zb v)))) ∧ (∀ i : Int, 0 ≤ i → i < 12 → g_ast 1 (zH E σ) (zL E 1 d 1) (zI i) (zI 0) = some (zH E (zs σ 1 d 1 i 0))) ∧ (∀ i : Int, 0 ≤ i → i < 12 → g_ast 1 (zH E σ) (zL E 1 d 1) (zI i) (zI 1) = some (zH E (zs σ 1 d 1 i 1))) ∧ (g_len (zH E σ) (zL E 1 d 1) = some (zI 12)) ∧ (∀ i : Int, 0 ≤ i → i < 10 → g_ald 0 (zH E σ) (zL E 1 d 2) (zI i) = some (zI (σ 1 d 2 i))) ∧ (∀ i v : Int, 0 ≤ i → i < 10 → g_ast 0 (zH E σ) (zL E 1 d 2) (zI i) (zI v) = some (zH E (zs σ 1 d 2 i v))) ∧ (g_len (zH E σ) (zL E 1 d 2) = some (zI 10)) ∧ (∀ i : Int, 0 ≤ i → i < 10 → g_ald 0 (zH E σ) (zL E 1 d 3) (zI i) = some (zI (σ 1 d 3 i))) ∧ (∀ i v : Int, 0 ≤ i → i < 10 → g_ast 0 (zH E σ) (zL E 1 d 3) (zI i) (zI v) = some (zH E (zs σ 1 d 3 i v))) ∧ (g_len (zH E σ) (zL E 1 d 3) = some (zI 10)) ∧ (∀ i : Int, 0 ≤ i → i < 10 → g_ald 1 (zH E σ) (zL E 1 d 4) (zI i) = some (zI (σ 1 d 4 i))) ∧ (∀ (i : Int) (v : Bool), 0 ≤ i → i < 10 → g_ast 1 (zH E σ) (zL E 1 d 4) (zI i) (zI (zb v)) = some (zH E (zs σ 1 d 4 i (zb v)))) ∧ (∀ i : Int, 0 ≤ i → i < 10 → g_ast 1 (zH E σ) (zL E 1 d 4) (zI i) (zI 0) = some (zH E (zs σ 1 d 4 i 0))) ∧ (∀ i : Int, 0 ≤ i → i < 10 → g_ast 1 (zH E σ) (zL E 1 d 4) (zI i) (zI 1) = some (zH E (zs σ 1 d 4 i 1))) ∧ (g_len (zH E σ) (zL E 1 d 4) = some (zI 10)) := by
  refine ⟨?_, ?_, ?_, ?_, ?_, ?_, ?_, ?_, ?_, ?_, ?_, ?_, ?_, ?_, ?_, ?_⟩
  · exact fun i h0 h1 => zAld hW hu rfl (by decide) (by decide) h0 h1
  · exact fun i v h0 h1 => zAst hW hu rfl (by decide) (by decide) h0 h1 (g_nar1 v)
  · exact fun i h0 h1 => zAst hW hu rfl (by decide) (by decide) h0 h1 rfl
  · exact fun i h0 h1 => zAst hW hu rfl (by decide) (by decide) h0 h1 rfl
  · exact zLen hW hu rfl (by decide)
  · exact fun i h0 h1 => zAld hW hu rfl (by decide) (by decide) h0 h1
  · exact fun i v h0 h1 => zAst hW hu rfl (by decide) (by decide) h0 h1 rfl
  · exact zLen hW hu rfl (by decide)
  · exact fun i h0 h1 => zAld hW hu rfl (by decide) (by decide) h0 h1
  · exact fun i v h0 h1 => zAst hW hu rfl (by decide) (by decide) h0 h1 rfl
  · exact zLen hW hu rfl (by decide)
  · exact fun i h0 h1 => zAld hW hu rfl (by decide) (by decide) h0 h1
  · exact fun i v h0 h1 => zAst hW hu rfl (by decide) (by decide) h0 h1 (g_nar1 v)
  · exact fun i h0 h1 => zAst hW hu rfl (by decide) (by decide) h0 h1 rfl
  · exact fun i h0 h1 => zAst hW hu rfl (by decide) (by decide) h0 h1 rfl
  · exact zLen hW hu rfl (by decide)
set_option maxRecDepth 20000 in
theorem zz_xa (hW : zWF E) (hu : zU E 2 d = true) : (∀ i : Int, 0 ≤ i → i < 600 → g_ald 0 (zH E σ) (zL E 2 d 2) (zI i) = some (zI (σ 2 d 2 i))) ∧ (∀ i v : Int, 0 ≤ i → i < 600 → g_ast 0 (zH E σ) (zL E 2 d 2) (zI i) (zI v) = some (zH E (zs σ 2 d 2 i v))) ∧ (g_len (zH E σ) (zL E 2 d 2) = some (zI 600)) ∧ (∀ i : Int, 0 ≤ i → i < 10 → g_qald (zH E σ) (zL E 2 d 5) (zI i) = some (if σ 2 d 5 i = 0 then none else some (zL E 0 (σ 2 d 5 i - 1).toNat 0))) ∧ (g_len (zH E σ) (zL E 2 d 5) = some (zI 10)) ∧ (∀ i : Int, 0 ≤ i → i < 2 → g_ald 1 (zH E σ) (zL E 2 d 7) (zI i) = some (zI (σ 2 d 7 i))) ∧ (∀ (i : Int) (v : Bool), 0 ≤ i → i < 2 → g_ast 1 (zH E σ) (zL E 2 d 7) (zI i) (zI (zb v)) = some (zH E (zs σ 2 d 7 i (zb v)))) ∧ (∀ i : Int, 0 ≤ i → i < 2 → g_ast 1 (zH E σ) (zL E 2 d 7) (zI i) (zI 0) = some (zH E (zs σ 2 d 7 i 0))) ∧ (∀ i : Int, 0 ≤ i → i < 2 → g_ast 1 (zH E σ) (zL E 2 d 7) (zI i) (zI 1) = some (zH E (zs σ 2 d 7 i 1))) ∧ (g_len (zH E σ) (zL E 2 d 7) = some (zI 2)) ∧ (∀ i : Int, 0 ≤ i → i < 2 → g_qald (zH E σ) (zL E 2 d 8) (zI i) = some (if σ 2 d 8 i = 0 then none else some (zL E 0 (σ 2 d 8 i - 1).toNat 0))) ∧ (g_len (zH E σ) (zL E 2 d 8) = some (zI 2)) ∧ (∀ i : Int, 0 ≤ i → i < 10 → g_lald (zH E σ) (zL E 2 d 9) (zI i) = some (zJ (σ 2 d 9 i))) ∧ (∀ i v : Int, 0 ≤ i → i < 10 → g_last (zH E σ) (zL E 2 d 9) (zI i) (zJ v) = some (zH E (zs σ 2 d 9 i v))) ∧ (g_len (zH E σ) (zL E 2 d 9) = some (zI 10)) ∧ (∀ i : Int, 0 ≤ i → i < 120 → g_ald 0 (zH E σ) (zL E 2 d 10) (zI i) = some (zI (σ 2 d 10 i))) ∧ (∀ i v : Int, 0 ≤ i → i < 120 → g_ast 0 (zH E σ) (zL E 2 d 10) (zI i) (zI v) = some (zH E (zs σ 2 d 10 i v))) ∧ (g_len (zH E σ) (zL E 2 d 10) = some (zI 120)) ∧ (∀ i : Int, 0 ≤ i → i < 120 → g_ald 0 (zH E σ) (zL E 2 d 11) (zI i) = some (zI (σ 2 d 11 i))) ∧ (∀ i v : Int, 0 ≤ i → i < 120 → g_ast 0 (zH E σ) (zL E 2 d 11) (zI i) (zI v) = some (zH E (zs σ 2 d 11 i v))) ∧ (g_len (zH E σ) (zL E 2 d 11) = some (zI 120)) ∧ (∀ i : Int, 0 ≤ i → i < 120 → g_ald 0 (zH E σ) (zL E 2 d 12) (zI i) = some (zI (σ 2 d 12 i))) ∧ (∀ i v : Int, 0 ≤ i → i < 120 → g_ast 0 (zH E σ) (zL E 2 d 12) (zI i) (zI v) = some (zH E (zs σ 2 d 12 i v))) ∧ (g_len (zH E σ) (zL E 2 d 12) = some (zI 120)) ∧ (∀ i : Int, 0 ≤ i → i < 120 → g_ald 0 (zH E σ) (zL E 2 d 13) (zI i) = some (zI (σ 2 d 13 i))) ∧ (∀ i v : Int, 0 ≤ i → i < 120 → g_ast 0 (zH E σ) (zL E 2 d 13) (zI i) (zI v) = some (zH E (zs σ 2 d 13 i v))) ∧ (g_len (zH E σ) (zL E 2 d 13) = some (zI 120)) ∧ (∀ i : Int, 0 ≤ i → i < 120 → g_ald 0 (zH E σ) (zL E 2 d 14) (zI i) = some (zI (σ 2 d 14 i))) ∧ (∀ i v : Int, 0 ≤ i → i < 120 → g_ast 0 (zH E σ) (zL E 2 d 14) (zI i) (zI v) = some (zH E (zs σ 2 d 14 i v))) ∧ (g_len (zH E σ) (zL E 2 d 14) = some (zI 120)) ∧ (∀ i : Int, 0 ≤ i → i < 96 → g_ald 1 (zH E σ) (zL E 2 d 15) (zI i) = some (zI (σ 2 d 15 i))) ∧ (∀ (i : Int) (v : Bool), 0 ≤ i → i < 96 → g_ast 1 (zH E σ) (zL E 2 d 15) (zI i) (zI (zb v)) = some (zH E (zs σ 2 d 15 i (zb v)))) ∧ (∀ i : Int, 0 ≤ i → i < 96 → g_ast 1 (zH E σ) (zL E 2 d 15) (zI i) (zI 0) = some (zH E (zs σ 2 d 15 i 0))) ∧ (∀ i : Int, 0 ≤ i → i < 96 → g_ast 1 (zH E σ) (zL E 2 d 15) (zI i) (zI 1) = some (zH E (zs σ 2 d 15 i 1))) ∧ (g_len (zH E σ) (zL E 2 d 15) = some (zI 96)) ∧ (∀ i : Int, 0 ≤ i → i < 600 → g_ald 0 (zH E σ) (zL E 2 d 17) (zI i) = some (zI (σ 2 d 17 i))) ∧ (∀ i v : Int, 0 ≤ i → i < 600 → g_ast 0 (zH E σ) (zL E 2 d 17) (zI i) (zI v) = some (zH E (zs σ 2 d 17 i v))) ∧ (g_len (zH E σ) (zL E 2 d 17) = some (zI 600)) ∧ (∀ i : Int, 0 ≤ i → i < 600 → g_ald 0 (zH E σ) (zL E 2 d 18) (zI i) = some (zI (σ 2 d 18 i))) ∧ (∀ i v : Int, 0 ≤ i → i < 600 → g_ast 0 (zH E σ) (zL E 2 d 18) (zI i) (zI v) = some (zH E (zs σ 2 d 18 i v))) ∧ (g_len (zH E σ) (zL E 2 d 18) = some (zI 600)) ∧ (∀ i : Int, 0 ≤ i → i < 600 → g_lald (zH E σ) (zL E 2 d 19) (zI i) = some (zJ (σ 2 d 19 i))) ∧ (∀ i v : Int, 0 ≤ i → i < 600 → g_last (zH E σ) (zL E 2 d 19) (zI i) (zJ v) = some (zH E (zs σ 2 d 19 i v))) ∧ (g_len (zH E σ) (zL E 2 d 19) = some (zI 600)) := by
  refine ⟨?_, ?_, ?_, ?_, ?_, ?_, ?_, ?_, ?_, ?_, ?_, ?_, ?_, ?_, ?_, ?_, ?_, ?_, ?_, ?_, ?_, ?_, ?_, ?_, ?_, ?_, ?_, ?_, ?_, ?_, ?_, ?_, ?_, ?_, ?_, ?_, ?_, ?_, ?_, ?_, ?_, ?_, ?_, ?_⟩
  · exact fun i h0 h1 => zAld hW hu rfl (by decide) (by decide) h0 h1
  · exact fun i v h0 h1 => zAst hW hu rfl (by decide) (by decide) h0 h1 rfl
  · exact zLen hW hu rfl (by decide)
  · exact fun i h0 h1 => zQald hW hu rfl (by decide) h0 h1
  · exact zLen hW hu rfl (by decide)
  · exact fun i h0 h1 => zAld hW hu rfl (by decide) (by decide) h0 h1
  · exact fun i v h0 h1 => zAst hW hu rfl (by decide) (by decide) h0 h1 (g_nar1 v)
  · exact fun i h0 h1 => zAst hW hu rfl (by decide) (by decide) h0 h1 rfl
  · exact fun i h0 h1 => zAst hW hu rfl (by decide) (by decide) h0 h1 rfl
  · exact zLen hW hu rfl (by decide)
  · exact fun i h0 h1 => zQald hW hu rfl (by decide) h0 h1
  · exact zLen hW hu rfl (by decide)
  · exact fun i h0 h1 => zLald hW hu rfl (by decide) h0 h1
  · exact fun i v h0 h1 => zLast hW hu rfl (by decide) h0 h1
  · exact zLen hW hu rfl (by decide)
  · exact fun i h0 h1 => zAld hW hu rfl (by decide) (by decide) h0 h1
  · exact fun i v h0 h1 => zAst hW hu rfl (by decide) (by decide) h0 h1 rfl
  · exact zLen hW hu rfl (by decide)
  · exact fun i h0 h1 => zAld hW hu rfl (by decide) (by decide) h0 h1
  · exact fun i v h0 h1 => zAst hW hu rfl (by decide) (by decide) h0 h1 rfl
  · exact zLen hW hu rfl (by decide)
  · exact fun i h0 h1 => zAld hW hu rfl (by decide) (by decide) h0 h1
  · exact fun i v h0 h1 => zAst hW hu rfl (by decide) (by decide) h0 h1 rfl
  · exact zLen hW hu rfl (by decide)
  · exact fun i h0 h1 => zAld hW hu rfl (by decide) (by decide) h0 h1
  · exact fun i v h0 h1 => zAst hW hu rfl (by decide) (by decide) h0 h1 rfl
  · exact zLen hW hu rfl (by decide)
  · exact fun i h0 h1 => zAld hW hu rfl (by decide) (by decide) h0 h1
  · exact fun i v h0 h1 => zAst hW hu rfl (by decide) (by decide) h0 h1 rfl
  · exact zLen hW hu rfl (by decide)
  · exact fun i h0 h1 => zAld hW hu rfl (by decide) (by decide) h0 h1
  · exact fun i v h0 h1 => zAst hW hu rfl (by decide) (by decide) h0 h1 (g_nar1 v)
  · exact fun i h0 h1 => zAst hW hu rfl (by decide) (by decide) h0 h1 rfl
  · exact fun i h0 h1 => zAst hW hu rfl (by decide) (by decide) h0 h1 rfl
  · exact zLen hW hu rfl (by decide)
  · exact fun i h0 h1 => zAld hW hu rfl (by decide) (by decide) h0 h1
  · exact fun i v h0 h1 => zAst hW hu rfl (by decide) (by decide) h0 h1 rfl
  · exact zLen hW hu rfl (by decide)
  · exact fun i h0 h1 => zAld hW hu rfl (by decide) (by decide) h0 h1
  · exact fun i v h0 h1 => zAst hW hu rfl (by decide) (by decide) h0 h1 rfl
  · exact zLen hW hu rfl (by decide)
  · exact fun i h0 h1 => zLald hW hu rfl (by decide) h0 h1
  · exact fun i v h0 h1 => zLast hW hu rfl (by decide) h0 h1
  · exact zLen hW hu rfl (by decide)
set_option maxRecDepth 20000 in
theorem zz_ea (hW : zWF E) (hu : zU E 5 d = true) : (∀ i : Int, 0 ≤ i → i < 96 → g_ald 0 (zH E σ) (zL E 5 d 7) (zI i) = some (zI (σ 5 d 7 i))) ∧ (∀ i v : Int, 0 ≤ i → i < 96 → g_ast 0 (zH E σ) (zL E 5 d 7) (zI i) (zI v) = some (zH E (zs σ 5 d 7 i v))) ∧ (g_len (zH E σ) (zL E 5 d 7) = some (zI 96)) ∧ (∀ i : Int, 0 ≤ i → i < 96 → g_ald 0 (zH E σ) (zL E 5 d 8) (zI i) = some (zI (σ 5 d 8 i))) ∧ (∀ i v : Int, 0 ≤ i → i < 96 → g_ast 0 (zH E σ) (zL E 5 d 8) (zI i) (zI v) = some (zH E (zs σ 5 d 8 i v))) ∧ (g_len (zH E σ) (zL E 5 d 8) = some (zI 96)) ∧ (∀ i : Int, 0 ≤ i → i < 96 → g_ald 0 (zH E σ) (zL E 5 d 9) (zI i) = some (zI (σ 5 d 9 i))) ∧ (∀ i v : Int, 0 ≤ i → i < 96 → g_ast 0 (zH E σ) (zL E 5 d 9) (zI i) (zI v) = some (zH E (zs σ 5 d 9 i v))) ∧ (g_len (zH E σ) (zL E 5 d 9) = some (zI 96)) ∧ (∀ i : Int, 0 ≤ i → i < 96 → g_ald 0 (zH E σ) (zL E 5 d 10) (zI i) = some (zI (σ 5 d 10 i))) ∧ (∀ i v : Int, 0 ≤ i → i < 96 → g_ast 0 (zH E σ) (zL E 5 d 10) (zI i) (zI v) = some (zH E (zs σ 5 d 10 i v))) ∧ (g_len (zH E σ) (zL E 5 d 10) = some (zI 96)) ∧ (∀ i : Int, 0 ≤ i → i < 96 → g_ald 0 (zH E σ) (zL E 5 d 11) (zI i) = some (zI (σ 5 d 11 i))) ∧ (∀ i v : Int, 0 ≤ i → i < 96 → g_ast 0 (zH E σ) (zL E 5 d 11) (zI i) (zI v) = some (zH E (zs σ 5 d 11 i v))) ∧ (g_len (zH E σ) (zL E 5 d 11) = some (zI 96)) ∧ (∀ i : Int, 0 ≤ i → i < 96 → g_ald 1 (zH E σ) (zL E 5 d 12) (zI i) = some (zI (σ 5 d 12 i))) ∧ (∀ (i : Int) (v : Bool), 0 ≤ i → i < 96 → g_ast 1 (zH E σ) (zL E 5 d 12) (zI i) (zI (zb v)) = some (zH E (zs σ 5 d 12 i (zb v)))) ∧ (∀ i : Int, 0 ≤ i → i < 96 → g_ast 1 (zH E σ) (zL E 5 d 12) (zI i) (zI 0) = some (zH E (zs σ 5 d 12 i 0))) ∧ (∀ i : Int, 0 ≤ i → i < 96 → g_ast 1 (zH E σ) (zL E 5 d 12) (zI i) (zI 1) = some (zH E (zs σ 5 d 12 i 1))) ∧ (g_len (zH E σ) (zL E 5 d 12) = some (zI 96)) ∧ (∀ i : Int, 0 ≤ i → i < 96 → g_ald 1 (zH E σ) (zL E 5 d 13) (zI i) = some (zI (σ 5 d 13 i))) ∧ (∀ (i : Int) (v : Bool), 0 ≤ i → i < 96 → g_ast 1 (zH E σ) (zL E 5 d 13) (zI i) (zI (zb v)) = some (zH E (zs σ 5 d 13 i (zb v)))) ∧ (∀ i : Int, 0 ≤ i → i < 96 → g_ast 1 (zH E σ) (zL E 5 d 13) (zI i) (zI 0) = some (zH E (zs σ 5 d 13 i 0))) ∧ (∀ i : Int, 0 ≤ i → i < 96 → g_ast 1 (zH E σ) (zL E 5 d 13) (zI i) (zI 1) = some (zH E (zs σ 5 d 13 i 1))) ∧ (g_len (zH E σ) (zL E 5 d 13) = some (zI 96)) ∧ (∀ i : Int, 0 ≤ i → i < 96 → g_rald 6 (zH E σ) (zL E 5 d 14) (zI i) = some (if σ 5 d 14 i = 0 then none else some (zL E 7 (σ 5 d 14 i - 1).toNat 0))) ∧ (∀ i : Int, 0 ≤ i → i < 96 → g_rast 6 (zH E σ) (zL E 5 d 14) (zI i) none = some (zH E (zs σ 5 d 14 i 0))) ∧ (∀ (i : Int) (v : Nat), 0 ≤ i → i < 96 → g_rast 6 (zH E σ) (zL E 5 d 14) (zI i) (some (zL E 7 v 0)) = some (zH E (zs σ 5 d 14 i ((v : Int) + 1)))) ∧ (∀ i : Int, 0 ≤ i → i < 96 → g_rald 6 (zH E σ) (zL E 5 d 15) (zI i) = some (if σ 5 d 15 i = 0 then none else some (zL E 7 (σ 5 d 15 i - 1).toNat 0))) ∧ (∀ i : Int, 0 ≤ i → i < 96 → g_rast 6 (zH E σ) (zL E 5 d 15) (zI i) none = some (zH E (zs σ 5 d 15 i 0))) ∧ (∀ (i : Int) (v : Nat), 0 ≤ i → i < 96 → g_rast 6 (zH E σ) (zL E 5 d 15) (zI i) (some (zL E 7 v 0)) = some (zH E (zs σ 5 d 15 i ((v : Int) + 1)))) ∧ (∀ i : Int, 0 ≤ i → i < 12 → g_rald 5 (zH E σ) (zL E 5 d 16) (zI i) = some (if σ 5 d 16 i = 0 then none else some (zL E 6 (σ 5 d 16 i - 1).toNat 0))) ∧ (∀ i : Int, 0 ≤ i → i < 12 → g_rast 5 (zH E σ) (zL E 5 d 16) (zI i) none = some (zH E (zs σ 5 d 16 i 0))) ∧ (∀ (i : Int) (v : Nat), 0 ≤ i → i < 12 → g_rast 5 (zH E σ) (zL E 5 d 16) (zI i) (some (zL E 6 v 0)) = some (zH E (zs σ 5 d 16 i ((v : Int) + 1)))) := by
  refine ⟨?_, ?_, ?_, ?_, ?_, ?_, ?_, ?_, ?_, ?_, ?_, ?_, ?_, ?_, ?_, ?_, ?_, ?_, ?_, ?_, ?_, ?_, ?_, ?_, ?_, ?_, ?_, ?_, ?_, ?_, ?_, ?_, ?_, ?_⟩
  · exact fun i h0 h1 => zAld hW hu rfl (by decide) (by decide) h0 h1
  · exact fun i v h0 h1 => zAst hW hu rfl (by decide) (by decide) h0 h1 rfl
  · exact zLen hW hu rfl (by decide)
  · exact fun i h0 h1 => zAld hW hu rfl (by decide) (by decide) h0 h1
  · exact fun i v h0 h1 => zAst hW hu rfl (by decide) (by decide) h0 h1 rfl
  · exact zLen hW hu rfl (by decide)
  · exact fun i h0 h1 => zAld hW hu rfl (by decide) (by decide) h0 h1
  · exact fun i v h0 h1 => zAst hW hu rfl (by decide) (by decide) h0 h1 rfl
  · exact zLen hW hu rfl (by decide)
  · exact fun i h0 h1 => zAld hW hu rfl (by decide) (by decide) h0 h1
  · exact fun i v h0 h1 => zAst hW hu rfl (by decide) (by decide) h0 h1 rfl
  · exact zLen hW hu rfl (by decide)
  · exact fun i h0 h1 => zAld hW hu rfl (by decide) (by decide) h0 h1
  · exact fun i v h0 h1 => zAst hW hu rfl (by decide) (by decide) h0 h1 rfl
  · exact zLen hW hu rfl (by decide)
  · exact fun i h0 h1 => zAld hW hu rfl (by decide) (by decide) h0 h1
  · exact fun i v h0 h1 => zAst hW hu rfl (by decide) (by decide) h0 h1 (g_nar1 v)
  · exact fun i h0 h1 => zAst hW hu rfl (by decide) (by decide) h0 h1 rfl
  · exact fun i h0 h1 => zAst hW hu rfl (by decide) (by decide) h0 h1 rfl
  · exact zLen hW hu rfl (by decide)
  · exact fun i h0 h1 => zAld hW hu rfl (by decide) (by decide) h0 h1
  · exact fun i v h0 h1 => zAst hW hu rfl (by decide) (by decide) h0 h1 (g_nar1 v)
  · exact fun i h0 h1 => zAst hW hu rfl (by decide) (by decide) h0 h1 rfl
  · exact fun i h0 h1 => zAst hW hu rfl (by decide) (by decide) h0 h1 rfl
  · exact zLen hW hu rfl (by decide)
  · exact fun i h0 h1 => zRald6 hW hu rfl (by decide) h0 h1
  · exact fun i h0 h1 => zRast (kk := 7) (v := 0) hW hu rfl (by decide) (by decide) h0 h1
  · exact fun i v h0 h1 => by have := zRast (σ := σ) (kk := 7) (v := (v : Int) + 1) hW hu (rfl : zA 5 14 = some (6, 96)) (by decide) (by decide) h0 h1; rwa [if_neg (by omega), show ((v : Int) + 1 - 1).toNat = v by omega] at this
  · exact fun i h0 h1 => zRald6 hW hu rfl (by decide) h0 h1
  · exact fun i h0 h1 => zRast (kk := 7) (v := 0) hW hu rfl (by decide) (by decide) h0 h1
  · exact fun i v h0 h1 => by have := zRast (σ := σ) (kk := 7) (v := (v : Int) + 1) hW hu (rfl : zA 5 15 = some (6, 96)) (by decide) (by decide) h0 h1; rwa [if_neg (by omega), show ((v : Int) + 1 - 1).toNat = v by omega] at this
  · exact fun i h0 h1 => zRald5 hW hu rfl (by decide) h0 h1
  · exact fun i h0 h1 => zRast (kk := 6) (v := 0) hW hu rfl (by decide) (by decide) h0 h1
  · exact fun i v h0 h1 => by have := zRast (σ := σ) (kk := 6) (v := (v : Int) + 1) hW hu (rfl : zA 5 16 = some (5, 12)) (by decide) (by decide) h0 h1; rwa [if_neg (by omega), show ((v : Int) + 1 - 1).toNat = v by omega] at this
set_option maxRecDepth 20000 in
theorem zz_ga (hW : zWF E) (hu : zU E 6 d = true) : (∀ i : Int, 0 ≤ i → i < 10 → g_ald 0 (zH E σ) (zL E 6 d 6) (zI i) = some (zI (σ 6 d 6 i))) ∧ (∀ i v : Int, 0 ≤ i → i < 10 → g_ast 0 (zH E σ) (zL E 6 d 6) (zI i) (zI v) = some (zH E (zs σ 6 d 6 i v))) ∧ (g_len (zH E σ) (zL E 6 d 6) = some (zI 10)) ∧ (∀ i : Int, 0 ≤ i → i < 3 → g_ald 0 (zH E σ) (zL E 6 d 7) (zI i) = some (zI (σ 6 d 7 i))) ∧ (∀ i v : Int, 0 ≤ i → i < 3 → g_ast 0 (zH E σ) (zL E 6 d 7) (zI i) (zI v) = some (zH E (zs σ 6 d 7 i v))) ∧ (g_len (zH E σ) (zL E 6 d 7) = some (zI 3)) ∧ (∀ i : Int, 0 ≤ i → i < 10 → g_rald 6 (zH E σ) (zL E 6 d 8) (zI i) = some (if σ 6 d 8 i = 0 then none else some (zL E 7 (σ 6 d 8 i - 1).toNat 0))) ∧ (∀ i : Int, 0 ≤ i → i < 10 → g_rast 6 (zH E σ) (zL E 6 d 8) (zI i) none = some (zH E (zs σ 6 d 8 i 0))) ∧ (∀ (i : Int) (v : Nat), 0 ≤ i → i < 10 → g_rast 6 (zH E σ) (zL E 6 d 8) (zI i) (some (zL E 7 v 0)) = some (zH E (zs σ 6 d 8 i ((v : Int) + 1)))) := by
  refine ⟨?_, ?_, ?_, ?_, ?_, ?_, ?_, ?_, ?_⟩
  · exact fun i h0 h1 => zAld hW hu rfl (by decide) (by decide) h0 h1
  · exact fun i v h0 h1 => zAst hW hu rfl (by decide) (by decide) h0 h1 rfl
  · exact zLen hW hu rfl (by decide)
  · exact fun i h0 h1 => zAld hW hu rfl (by decide) (by decide) h0 h1
  · exact fun i v h0 h1 => zAst hW hu rfl (by decide) (by decide) h0 h1 rfl
  · exact zLen hW hu rfl (by decide)
  · exact fun i h0 h1 => zRald6 hW hu rfl (by decide) h0 h1
  · exact fun i h0 h1 => zRast (kk := 7) (v := 0) hW hu rfl (by decide) (by decide) h0 h1
  · exact fun i v h0 h1 => by have := zRast (σ := σ) (kk := 7) (v := (v : Int) + 1) hW hu (rfl : zA 6 8 = some (6, 10)) (by decide) (by decide) h0 h1; rwa [if_neg (by omega), show ((v : Int) + 1 - 1).toNat = v by omega] at this
set_option maxRecDepth 20000 in
theorem zz_ha (hW : zWF E) (hu : zU E 7 d = true) : (∀ i : Int, 0 ≤ i → i < 8 → g_ald 0 (zH E σ) (zL E 7 d 6) (zI i) = some (zI (σ 7 d 6 i))) ∧ (∀ i v : Int, 0 ≤ i → i < 8 → g_ast 0 (zH E σ) (zL E 7 d 6) (zI i) (zI v) = some (zH E (zs σ 7 d 6 i v))) ∧ (g_len (zH E σ) (zL E 7 d 6) = some (zI 8)) := by
  refine ⟨?_, ?_, ?_⟩
  · exact fun i h0 h1 => zAld hW hu rfl (by decide) (by decide) h0 h1
  · exact fun i v h0 h1 => zAst hW hu rfl (by decide) (by decide) h0 h1 rfl
  · exact zLen hW hu rfl (by decide)
set_option maxRecDepth 20000 in
theorem zz_ia (hW : zWF E) (hu : zU E 8 d = true) : (∀ i : Int, 0 ≤ i → i < 10 → g_rald 6 (zH E σ) (zL E 8 d 0) (zI i) = some (if σ 8 d 0 i = 0 then none else some (zL E 7 (σ 8 d 0 i - 1).toNat 0))) ∧ (∀ i : Int, 0 ≤ i → i < 10 → g_rast 6 (zH E σ) (zL E 8 d 0) (zI i) none = some (zH E (zs σ 8 d 0 i 0))) ∧ (∀ (i : Int) (v : Nat), 0 ≤ i → i < 10 → g_rast 6 (zH E σ) (zL E 8 d 0) (zI i) (some (zL E 7 v 0)) = some (zH E (zs σ 8 d 0 i ((v : Int) + 1)))) := by
  refine ⟨?_, ?_, ?_⟩
  · exact fun i h0 h1 => zRald6 hW hu rfl (by decide) h0 h1
  · exact fun i h0 h1 => zRast (kk := 7) (v := 0) hW hu rfl (by decide) (by decide) h0 h1
  · exact fun i v h0 h1 => by have := zRast (σ := σ) (kk := 7) (v := (v : Int) + 1) hW hu (rfl : zA 8 0 = some (6, 10)) (by decide) (by decide) h0 h1; rwa [if_neg (by omega), show ((v : Int) + 1 - 1).toNat = v by omega] at this
end zH

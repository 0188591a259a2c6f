/-! Four letters in a number, twenty in five. -/
theorem zI_bv {c : Int} (h0 : 0 ≤ c) (h1 : c < 2147483648) : (zI c).toBitVec.toNat = c.toNat := by
  have h := zI_toInt (a := c) (by omega) (by omega)
  have h2 : (zI c).toBitVec.toInt = c := h
  have h3 := (zI c).toBitVec.isLt
  rw [BitVec.toInt_eq_toNat_cond] at h2
  split at h2 <;> omega
theorem pk8 {x : Int32} {X : Nat} (hx : x.toBitVec.toNat = X) (hX : X < 16777216) {c : Int} (h0 : 0 ≤ c) (h1 : c < 256) : (x <<< ((8 : Int32) &&& 31) ||| zI c).toBitVec.toNat = X * 256 + c.toNat := by
  have e : ((8 : Int32) &&& 31) = 8 := by decide
  rw [e, Int32.toBitVec_or, BitVec.toNat_or, zI_bv h0 (by omega)]
  have e2 : (x <<< (8 : Int32)).toBitVec.toNat = X * 256 := by
    rw [Int32.toBitVec_shiftLeft]
    have e3 : ((8 : Int32).toBitVec.smod 32) = 8#32 := by decide
    rw [e3]
    show (x.toBitVec <<< (8#32).toNat).toNat = _
    rw [BitVec.toNat_shiftLeft, hx, show (8#32).toNat = 8 from rfl, Nat.shiftLeft_eq, Nat.mod_eq_of_lt (by omega)]
  rw [e2, show X * 256 = X <<< 8 by rw [Nat.shiftLeft_eq], ← Nat.shiftLeft_add_eq_or_of_lt (by omega : c.toNat < 2 ^ 8)]
theorem bx_nat {x : Int32} {X : Nat} (hx : x.toBitVec.toNat = X) (s : Nat) : bx s x = ((X / 2 ^ s % 256 : Nat) : Int) := by
  unfold bx
  rw [BitVec.toNat_setWidth, BitVec.toNat_ushiftRight, hx, Nat.shiftRight_eq_div_pow]
/-- four letters -/
def pk4 (c0 c1 c2 c3 : Int) : Int32 := (((((0 : Int32) <<< ((8 : Int32) &&& 31) ||| zI c0) <<< ((8 : Int32) &&& 31) ||| zI c1) <<< ((8 : Int32) &&& 31) ||| zI c2) <<< ((8 : Int32) &&& 31) ||| zI c3)
theorem pk4_bx {c0 c1 c2 c3 : Int} (h0 : 0 ≤ c0 ∧ c0 < 256) (h1 : 0 ≤ c1 ∧ c1 < 256) (h2 : 0 ≤ c2 ∧ c2 < 256) (h3 : 0 ≤ c3 ∧ c3 < 256) : bx 24 (pk4 c0 c1 c2 c3) = c0 ∧ bx 16 (pk4 c0 c1 c2 c3) = c1 ∧ bx 8 (pk4 c0 c1 c2 c3) = c2 ∧ bx 0 (pk4 c0 c1 c2 c3) = c3 := by
  have a0 := pk8 (x := 0) (X := 0) rfl (by omega) h0.1 h0.2
  have a1 := pk8 a0 (by omega) h1.1 h1.2
  have a2 := pk8 a1 (by omega) h2.1 h2.2
  have a3 := pk8 a2 (by omega) h3.1 h3.2
  have e : (pk4 c0 c1 c2 c3).toBitVec.toNat = (((0 * 256 + c0.toNat) * 256 + c1.toNat) * 256 + c2.toNat) * 256 + c3.toNat := a3
  rw [bx_nat e 24, bx_nat e 16, bx_nat e 8, bx_nat e 0]
  refine ⟨?_, ?_, ?_, ?_⟩ <;> omega
theorem zb4_at {b : Int → Int} {u : Int} {c : Int → Int} (hc : ∀ i, 0 ≤ i → i < 4 → 0 ≤ c i ∧ c i < 256) : zb4 b u (pk4 (c 0) (c 1) (c 2) (c 3)) = fun i => if u ≤ i ∧ i < u + 4 then c (i - u) else b i := by
  obtain ⟨e0, e1, e2, e3⟩ := pk4_bx (hc 0 (by omega) (by omega)) (hc 1 (by omega) (by omega)) (hc 2 (by omega) (by omega)) (hc 3 (by omega) (by omega))
  funext i
  unfold zb4
  rw [e0, e1, e2, e3]
  unfold zup
  by_cases h3 : i = u + 3
  · rw [if_pos h3, if_pos (by omega)]; congr 1; omega
  · rw [if_neg h3]
    by_cases h2 : i = u + 2
    · rw [if_pos h2, if_pos (by omega)]; congr 1; omega
    · rw [if_neg h2]
      by_cases h1 : i = u + 1
      · rw [if_pos h1, if_pos (by omega)]; congr 1; omega
      · rw [if_neg h1]
        by_cases h0 : i = u
        · rw [if_pos h0, if_pos (by omega)]; congr 1; omega
        · rw [if_neg h0, if_neg (by omega)]
/-- twenty letters -/
theorem zb20_at {b : Int → Int} {u : Int} {c : Int → Int} (hc : ∀ i, 0 ≤ i → i < 20 → 0 ≤ c i ∧ c i < 256) : zb20 b u (pk4 (c 0) (c 1) (c 2) (c 3)) (pk4 (c 4) (c 5) (c 6) (c 7)) (pk4 (c 8) (c 9) (c 10) (c 11)) (pk4 (c 12) (c 13) (c 14) (c 15)) (pk4 (c 16) (c 17) (c 18) (c 19)) = fun i => if u ≤ i ∧ i < u + 20 then c (i - u) else b i := by
  have s := fun (k : Int) (hk : 0 ≤ k) (hk2 : k ≤ 16) (b' : Int → Int) => zb4_at (b := b') (u := u + k) (c := fun i => c (k + i)) (fun i i0 i1 => hc (k + i) (by omega) (by omega))
  have s0 := s 0 (by omega) (by omega)
  have s4 := s 4 (by omega) (by omega)
  have s8 := s 8 (by omega) (by omega)
  have s12 := s 12 (by omega) (by omega)
  have s16 := s 16 (by omega) (by omega)
  simp only [Int.add_zero, Int.zero_add, show (4 : Int) + 1 = 5 from rfl, show (4 : Int) + 2 = 6 from rfl, show (4 : Int) + 3 = 7 from rfl, show (8 : Int) + 1 = 9 from rfl, show (8 : Int) + 2 = 10 from rfl, show (8 : Int) + 3 = 11 from rfl, show (12 : Int) + 1 = 13 from rfl, show (12 : Int) + 2 = 14 from rfl, show (12 : Int) + 3 = 15 from rfl, show (16 : Int) + 1 = 17 from rfl, show (16 : Int) + 2 = 18 from rfl, show (16 : Int) + 3 = 19 from rfl] at s0 s4 s8 s12 s16
  unfold zb20
  rw [s0, s4, s8, s12, s16]
  funext i
  by_cases h4 : u + 16 ≤ i ∧ i < u + 16 + 4
  · rw [if_pos h4, if_pos (by omega)]; congr 1; omega
  · rw [if_neg h4]
    by_cases h3 : u + 12 ≤ i ∧ i < u + 12 + 4
    · rw [if_pos h3, if_pos (by omega)]; congr 1; omega
    · rw [if_neg h3]
      by_cases h2 : u + 8 ≤ i ∧ i < u + 8 + 4
      · rw [if_pos h2, if_pos (by omega)]; congr 1; omega
      · rw [if_neg h2]
        by_cases h1 : u + 4 ≤ i ∧ i < u + 4 + 4
        · rw [if_pos h1, if_pos (by omega)]; congr 1; omega
        · rw [if_neg h1]
          by_cases h0 : u ≤ i ∧ i < u + 4
          · rw [if_pos h0, if_pos (by omega)]
          · rw [if_neg h0, if_neg (by omega)]


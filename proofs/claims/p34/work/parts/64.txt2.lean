/-! The reference's way through the tokens. -/
theorem zby_all : ∀ k : Fin 256, zI (if (k.val : Int) < 128 then (k.val : Int) else (k.val : Int) - 256) &&& zI 255 = zI (k.val : Int) := by decide +kernel
theorem zby {x : Int} (h0 : 0 ≤ x) (h1 : x ≤ 255) : zI (if x < 128 then x else x - 256) &&& zI 255 = zI x := by
  have := zby_all ⟨x.toNat, by omega⟩
  rw [show ((⟨x.toNat, by omega⟩ : Fin 256).val : Int) = x from by show ((x.toNat : Nat) : Int) = x; omega] at this
  exact this
theorem zJ_or {a x : Int} (h0 : 0 ≤ x) (h1 : x < 256) : (zJ a <<< ((zI 8).toInt64 &&& 63)) ||| (zI x).toInt64 = zJ (a * 256 + x) := by
  rw [zJ_I (a := x) (by omega) (by omega)]
  have e8 : ((zI 8).toInt64 &&& 63) = (8 : Int64) := by decide +kernel
  rw [e8, ← zJ_add, ← zJ_mul]
  apply Int64.toBitVec_inj.mp
  rw [Int64.toBitVec_or, Int64.toBitVec_add, Int64.toBitVec_mul, Int64.toBitVec_shiftLeft]
  have h8 : (zJ a).toBitVec <<< (Int64.toBitVec 8).smod 64 = (zJ a).toBitVec * (zJ 256).toBitVec := by
    have e2 : ((Int64.toBitVec 8).smod 64) = 8#64 := by decide +kernel
    have e3 : (zJ 256).toBitVec = BitVec.twoPow 64 8 := by decide +kernel
    rw [e2, e3, BitVec.mul_twoPow_eq_shiftLeft]
    rfl
  rw [h8]
  symm
  apply BitVec.add_eq_or_of_and_eq_zero
  have e3 : (zJ 256).toBitVec = BitVec.twoPow 64 8 := by decide +kernel
  rw [e3, BitVec.mul_twoPow_eq_shiftLeft]
  apply BitVec.eq_of_getLsbD_eq
  intro i hi
  rw [BitVec.getLsbD_and, BitVec.getLsbD_shiftLeft, BitVec.getLsbD_zero]
  by_cases c : i < 8
  · simp [c]
  · have hx : (zJ x).toBitVec.toNat = x.toNat := by
      show (Int64.ofInt x).toBitVec.toNat = _
      rw [Int64.toBitVec_ofInt, BitVec.toNat_ofInt]
      omega
    have : (zJ x).toBitVec.getLsbD i = false := by
      rw [← BitVec.testBit_toNat, hx]
      apply Nat.testBit_lt_two_pow
      have : (2 : Nat) ^ 8 ≤ 2 ^ i := Nat.pow_le_pow_right (by omega) (by omega)
      omega
    rw [this]
    simp
/-- the reference's bytes are b up to L -/
def zTm (σ : zW) (b : Int → Int) (L : Int) : Prop := (0 ≤ L ∧ L ≤ 600) ∧ ∀ i, 0 ≤ i → i < L → (0 ≤ b i ∧ b i ≤ 255) ∧ σ 3 0 3 i = if b i < 128 then b i else b i - 256
theorem zTm.cg {σ σ' : zW} {b : Int → Int} {L : Int} (h : zTm σ b L) (e : σ' 3 0 3 = σ 3 0 3) : zTm σ' b L := ⟨h.1, fun i h0 h1 => by rw [e]; exact h.2 i h0 h1⟩
/-- only the reference's token fields differ -/
def zMf (σ σ' : zW) : Prop := (∀ k d c, ¬ (k = 3 ∧ d = 0 ∧ c = 0) → σ' k d c = σ k d c) ∧ ∀ i, i < 6 ∨ 10 < i → σ' 3 0 0 i = σ 3 0 0 i
theorem zMf.rf {σ : zW} : zMf σ σ := ⟨fun _ _ _ _ => rfl, fun _ _ => rfl⟩
theorem zMf.tr {σ σ1 σ2 : zW} (h : zMf σ σ1) (h2 : zMf σ1 σ2) : zMf σ σ2 := ⟨fun k d c z => (h2.1 k d c z).trans (h.1 k d c z), fun i z => (h2.2 i z).trans (h.2 i z)⟩
theorem zMf.s {σ : zW} {i v : Int} (h0 : 6 ≤ i) (h1 : i ≤ 10) : zMf σ (zs σ 3 0 0 i v) := ⟨fun k d c z => zs_ne z, fun j z => by rw [zs_at, if_neg (by omega)]⟩
section zTxt
variable {E : zE} {σ : zW} {b : Int → Int} {L : Int}
theorem zTm.f {σ' : zW} (h : zTm σ b L) (f : zMf σ σ') : zTm σ' b L := h.cg (f.1 3 0 3 (by omega))
/-- the reference's token fields -/
def zPm (σ : zW) (b : Int → Int) (L p : Int) : Prop := σ 3 0 0 6 = tS b L p ∧ σ 3 0 0 7 = tE b L p ∧ σ 3 0 0 8 = tK b L p ∧ (tK b L p = 2 → σ 3 0 0 9 = tV b L p) ∧ (tK b L p = 1 → σ 3 0 0 10 = zw8 (tW b L p))
theorem zPm.cg {σ σ' : zW} {p : Int} (h : zPm σ b L p) (e : ∀ i, 6 ≤ i → i ≤ 10 → σ' 3 0 0 i = σ 3 0 0 i) : zPm σ' b L p := by
  unfold zPm
  rw [e 6 (by omega) (by omega), e 7 (by omega) (by omega), e 8 (by omega) (by omega), e 9 (by omega) (by omega), e 10 (by omega) (by omega)]
  exact h
theorem tS_step {p : Int} (hp : p < L) (h : tWh b p = true) : tS b L (p + 1) = tS b L p := by
  unfold tS
  rw [show (L - p).toNat = (L - (p + 1)).toNat + 1 by omega, zrun, if_pos h]
theorem tS_stop {p : Int} (h : ¬ (p < L ∧ tWh b p = true)) : tS b L p = p := by
  unfold tS
  by_cases hp : p < L
  · rw [show (L - p).toNat = (L - (p + 1)).toNat + 1 by omega, zrun, if_neg (fun h2 => h ⟨hp, h2⟩)]
  · rw [show (L - p).toNat = 0 by omega, zrun]
theorem zPm.st {p p2 : Int} (h : zPm σ b L p) (e : tS b L p = tS b L p2) : zPm σ b L p2 := by
  unfold zPm tV tW tK at *
  have e2 : tE b L p = tE b L p2 := by unfold tE; rw [e]
  rw [e, e2] at h
  exact h
end zTxt

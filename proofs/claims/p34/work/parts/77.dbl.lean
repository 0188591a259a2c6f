/-! Quotients of small numbers are numbers. -/
def zQu (c w : Int) : UInt64 := FP.ddiv (FP.i2d (zI c)) (FP.i2d (zI w))
theorem zQu_all : ∀ c : Fin 97, ∀ w : Fin 96, zQu c.val ((w.val : Int) + 1) &&& 0x7fffffffffffffff ≤ 0x7ff0000000000000 ∧ Op.cmpValue (FP.dcmp (zQu c.val ((w.val : Int) + 1)) (zQu c.val ((w.val : Int) + 1))) CmpOp.l = 0 := by decide +kernel
theorem zQu_ok {c w : Int} (hc0 : 0 ≤ c) (hc1 : c ≤ 96) (hw0 : 1 ≤ w) (hw1 : w ≤ 96) : vf_n64 (zQu c w) ∧ Op.cmpValue (FP.dcmp (zQu c w) (zQu c w)) CmpOp.l = 0 := by
  have h := zQu_all ⟨c.toNat, by omega⟩ ⟨(w - 1).toNat, by omega⟩
  have e1 : ((c.toNat : Nat) : Int) = c := by omega
  have e2 : (((w - 1).toNat : Nat) : Int) + 1 = w := by omega
  rw [show ((⟨c.toNat, by omega⟩ : Fin 97).val : Int) = c from e1, show (((⟨(w - 1).toNat, by omega⟩ : Fin 96).val : Int) + 1) = w from e2] at h
  exact h
theorem zQu_1 : Op.cmpValue (FP.dcmp FP.dconst1 FP.dconst1) CmpOp.l = 0 := by decide +kernel

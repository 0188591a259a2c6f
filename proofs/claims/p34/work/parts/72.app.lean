/-! append and find. -/
/-- a byte of a number -/
def bx (s : Nat) (x : Int32) : Int := (((x.toBitVec >>> s).setWidth 8).toNat : Int)
theorem bx_rng (s : Nat) (x : Int32) : 0 ≤ bx s x ∧ bx s x ≤ 255 := by
  have := ((x.toBitVec >>> s).setWidth 8).isLt
  unfold bx
  omega
theorem bx_bv (s : Nat) (x : Int32) : (zI (bx s x)).toBitVec = ((x.toBitVec >>> s).setWidth 8).setWidth 32 := by
  show (Int32.ofInt (bx s x)).toBitVec = _
  rw [Int32.toBitVec_ofInt]
  apply BitVec.eq_of_toNat_eq
  have := ((x.toBitVec >>> s).setWidth 8).isLt
  rw [BitVec.toNat_ofInt, BitVec.toNat_setWidth]
  unfold bx
  omega
theorem bx_and (s : Nat) (y : BitVec 32) : (y >>> s) &&& 255#32 = ((y >>> s).setWidth 8).setWidth 32 := by
  apply BitVec.eq_of_getLsbD_eq
  intro i hi
  rw [BitVec.getLsbD_and, BitVec.getLsbD_setWidth, BitVec.getLsbD_setWidth]
  have h : ∀ i : Nat, i < 32 → (255#32).getLsbD i = decide (i < 8) := by decide
  rw [h i hi]
  by_cases c : i < 8
  · simp [c, hi]
  · simp [c]
theorem bx_c {x : Int32} {s : Nat} {w : UInt32} (hw : w.toBitVec % 32 = BitVec.ofNat 32 s) (hs : s < 32) : (x.toUInt32 >>> w).toInt32 &&& zI 255 = zI (bx s x) := by
  apply Int32.toBitVec_inj.mp
  rw [bx_bv, Int32.toBitVec_and]
  have e : (x.toUInt32 >>> w).toInt32.toBitVec = x.toBitVec >>> s := by
    show (x.toUInt32 >>> w).toBitVec = _
    rw [UInt32.toBitVec_shiftRight, hw]
    show x.toBitVec >>> (BitVec.ofNat 32 s) = _
    rw [BitVec.ushiftRight_eq', BitVec.toNat_ofNat, Nat.mod_eq_of_lt (by omega)]
  rw [e]
  exact bx_and s _
theorem bx_c0 (x : Int32) : x &&& zI 255 = zI (bx 0 x) := by
  apply Int32.toBitVec_inj.mp
  rw [bx_bv, Int32.toBitVec_and]
  exact bx_and 0 _
theorem bx_m {x : Int32} {s : Nat} {w : Int32} (hw : w.toBitVec.smod 32 = BitVec.ofNat 32 s) (hs : s ≤ 24) : (x >>> w).toInt8.toInt32 = zI (if bx s x < 128 then bx s x else bx s x - 256) := by
  apply Int32.toBitVec_inj.mp
  show ((x >>> w).toBitVec.signExtend 8).signExtend 32 = (Int32.ofInt _).toBitVec
  rw [Int32.toBitVec_ofInt]
  have e : (x >>> w).toBitVec.signExtend 8 = (x.toBitVec >>> s).setWidth 8 := by
    rw [Int32.toBitVec_shiftRight, hw]
    apply BitVec.eq_of_getLsbD_eq
    intro i hi
    rw [BitVec.sshiftRight_eq', BitVec.toNat_ofNat, Nat.mod_eq_of_lt (by omega), BitVec.signExtend_eq_setWidth_of_le _ (by omega), BitVec.getLsbD_setWidth, BitVec.getLsbD_setWidth, BitVec.getLsbD_sshiftRight, BitVec.getLsbD_ushiftRight]
    have h1 : ¬ 32 ≤ i := by omega
    have h2 : s + i < 32 := by omega
    simp [h1, h2]
  rw [e]
  show BitVec.ofInt 32 ((x.toBitVec >>> s).setWidth 8).toInt = _
  refine congrArg (BitVec.ofInt 32) ?_
  rw [BitVec.toInt_eq_toNat_cond]
  have := ((x.toBitVec >>> s).setWidth 8).isLt
  unfold bx
  split <;> split <;> omega
def zup (b : Int → Int) (u v : Int) : Int → Int := fun i => if i = u then v else b i
def zb4 (b : Int → Int) (u : Int) (x : Int32) : Int → Int := zup (zup (zup (zup b u (bx 24 x)) (u + 1) (bx 16 x)) (u + 2) (bx 8 x)) (u + 3) (bx 0 x)
def zb20 (b : Int → Int) (u : Int) (x1 x2 x3 x4 x5 : Int32) : Int → Int := zb4 (zb4 (zb4 (zb4 (zb4 b u x1) (u + 4) x2) (u + 8) x3) (u + 12) x4) (u + 16) x5
/-- only the class's input has changed -/
def zIf (σ σ' : zW) : Prop := (∀ k d c, ¬ (k = 2 ∧ d = 0 ∧ (c = 1 ∨ c = 2)) → σ' k d c = σ k d c)
theorem zIf.tr {σ σ1 σ2 : zW} (h : zIf σ σ1) (h2 : zIf σ1 σ2) : zIf σ σ2 := fun k d c z => (h2 k d c z).trans (h k d c z)
/-- only the reference's text has changed -/
def zJf (σ σ' : zW) : Prop := (∀ k d c, ¬ (k = 3 ∧ d = 0 ∧ (c = 0 ∨ c = 3)) → σ' k d c = σ k d c) ∧ ∀ i, i ≠ 4 → σ' 3 0 0 i = σ 3 0 0 i
theorem zJf.tr {σ σ1 σ2 : zW} (h : zJf σ σ1) (h2 : zJf σ1 σ2) : zJf σ σ2 := ⟨fun k d c z => (h2.1 k d c z).trans (h.1 k d c z), fun i z => (h2.2 i z).trans (h.2 i z)⟩
section zApp
variable {E : zE} {σ : zW} {b : Int → Int} {u : Int}
theorem e3_addByte (hW : zWF E) (hm : zU E 2 0 = true) (hT : zTc σ b u) (h1 : σ 2 0 1 1 = u) (hu0 : 0 ≤ u) (hu1 : u < 600) {x : Int32} {v : Int} (hx : x &&& zI 255 = zI v) (hv0 : 0 ≤ v) (hv1 : v ≤ 255) : ∃ σ', f_X3_addByte (zH E σ) (zL E 2 0 1) x = some (zH E σ') ∧ zIf σ σ' ∧ zTc σ' (zup b u v) (u + 1) ∧ σ' 2 0 1 1 = u + 1 := by
  have ip := zz_inpo (σ := σ) hW hm
  have g1 := (zz_inp (σ := σ) hW hm).2.1
  rw [h1] at g1
  have pu := zX_put (σ := σ) (n := 600) hW hm (k := 2) (d := 0) (c := 2) rfl (by decide) (i := u) (v := v) (by omega) (by omega)
  rw [if_pos ⟨hu0, by omega⟩] at pu
  have g2 := (zz_inp (σ := zs σ 2 0 2 u v) hW hm).2.1
  rw [zs_ne (by omega), h1] at g2
  have p2 := (zz_inp (σ := zs σ 2 0 2 u v) hW hm).2.2.1 (u + 1)
  refine ⟨zs (zs σ 2 0 2 u v) 2 0 1 1 (u + 1), ?_, fun k d c z => by rw [zs_ne (by omega), zs_ne (by omega)], ⟨by omega, fun i i0 i1 => ?_⟩, by rw [zs_at, if_pos rfl]⟩
  · simp (disch := first | assumption | omega) only [f_X3_addByte, ip, g1, hx, pu, g2, p2, zz_some, zz_lit, zz_num, zI_lt, zI_le, zI_eq, zI_nat, zz_b, if_pos, if_neg, if_true, if_false]
  · rw [zs_ne (by omega), zs_at]
    unfold zup
    by_cases hi : i = u
    · rw [if_pos hi, if_pos hi]
      exact ⟨⟨hv0, hv1⟩, rfl⟩
    · rw [if_neg hi, if_neg hi]
      exact hT.2 i i0 (by omega)
theorem e3_addBytes (hW : zWF E) (hm : zU E 2 0 = true) (hT : zTc σ b u) (h1 : σ 2 0 1 1 = u) (hu0 : 0 ≤ u) (hu1 : u + 4 ≤ 600) (x : Int32) : ∃ σ', f_X3_addBytes (zH E σ) (zL E 2 0 1) x = some (zH E σ') ∧ zIf σ σ' ∧ zTc σ' (zb4 b u x) (u + 4) ∧ σ' 2 0 1 1 = u + 4 := by
  obtain ⟨σ1, a1, a2, a3, a4⟩ := e3_addByte hW hm hT h1 hu0 (by omega) (bx_c (x := x) (s := 24) (w := ((24 : Int32).toUInt32 &&& Int32.toUInt32 31)) (by decide) (by omega)) (bx_rng 24 x).1 (bx_rng 24 x).2
  obtain ⟨σ2, d1, d2, d3, d4⟩ := e3_addByte hW hm a3 a4 (by omega) (by omega) (bx_c (x := x) (s := 16) (w := ((16 : Int32).toUInt32 &&& Int32.toUInt32 31)) (by decide) (by omega)) (bx_rng 16 x).1 (bx_rng 16 x).2
  obtain ⟨σ3, y1, y2, y3, y4⟩ := e3_addByte hW hm d3 d4 (by omega) (by omega) (bx_c (x := x) (s := 8) (w := ((8 : Int32).toUInt32 &&& Int32.toUInt32 31)) (by decide) (by omega)) (bx_rng 8 x).1 (bx_rng 8 x).2
  obtain ⟨σ4, w1, w2, w3, w4⟩ := e3_addByte hW hm y3 y4 (by omega) (by omega) (bx_c0 x) (bx_rng 0 x).1 (bx_rng 0 x).2
  have o0 := (zz_inpo (σ := σ) hW hm).2
  have o1 := (zz_inpo (σ := σ1) hW hm).2
  have o2 := (zz_inpo (σ := σ2) hW hm).2
  have o3 := (zz_inpo (σ := σ3) hW hm).2
  rw [show u + 1 + 1 = u + 2 by omega] at y3 y4 w3 w4
  rw [show u + 2 + 1 = u + 3 by omega] at w3 w4
  rw [show u + 3 + 1 = u + 4 by omega] at w3 w4
  refine ⟨σ4, ?_, ((a2.tr d2).tr y2).tr w2, w3, w4⟩
  simp only [f_X3_addBytes, o0, a1, o1, d1, o2, y1, o3, w1, zz_some]
theorem e9_append (hW : zWF E) (hm : zU E 2 0 = true) (hT : zTc σ b u) (h1 : σ 2 0 1 1 = u) (hu0 : 0 ≤ u) (hu1 : u ≤ 600) (x1 x2 x3 x4 x5 : Int32) : ∃ σ', f_X9_append (zH E σ) (zL E 2 0 0) x1 x2 x3 x4 x5 = some (zH E σ', zI (if u + 20 ≤ 600 then u + 20 else -1)) ∧ zIf σ σ' ∧ (if u + 20 ≤ 600 then zTc σ' (zb20 b u x1 x2 x3 x4 x5) (u + 20) ∧ σ' 2 0 1 1 = u + 20 else σ' = σ) := by
  have g1 := (zz_inp (σ := σ) hW hm).2.1
  rw [h1] at g1
  have o0 := (zz_inpo (σ := σ) hW hm).2
  have m0 := zg_ma0 (σ := σ) hW hm
  by_cases c : u + 20 ≤ 600
  · simp only [if_pos c]
    have c' : ¬ 600 < u + 20 := by omega
    have hr : f_X3_hasRoom (zH E σ) (zL E 2 0 1) (zI 20) = some (zI 1) := by
      simp (disch := first | assumption | omega) only [f_X3_hasRoom, g1, c', zz_some, zz_lit, zz_num, zI_lt, zI_le, zI_eq, zI_nat, zz_b, if_pos, if_neg, if_true, if_false]
    obtain ⟨σ1, a1, a2, a3, a4⟩ := e3_addBytes hW hm hT h1 hu0 (by omega) x1
    obtain ⟨σ2, d1, d2, d3, d4⟩ := e3_addBytes hW hm a3 a4 (by omega) (by omega) x2
    obtain ⟨σ3, y1, y2, y3, y4⟩ := e3_addBytes hW hm d3 d4 (by omega) (by omega) x3
    obtain ⟨σ4, w1, w2, w3, w4⟩ := e3_addBytes hW hm y3 y4 (by omega) (by omega) x4
    obtain ⟨σ5, v1, v2, v3, v4⟩ := e3_addBytes hW hm w3 w4 (by omega) (by omega) x5
    rw [show u + 4 + 4 = u + 8 by omega] at y3 y4 w3 w4 v3 v4
    rw [show u + 8 + 4 = u + 12 by omega] at w3 w4 v3 v4
    rw [show u + 12 + 4 = u + 16 by omega] at v3 v4
    rw [show u + 16 + 4 = u + 20 by omega] at v3 v4
    have o1 := (zz_inpo (σ := σ1) hW hm).2
    have o2 := (zz_inpo (σ := σ2) hW hm).2
    have o3 := (zz_inpo (σ := σ3) hW hm).2
    have o4 := (zz_inpo (σ := σ4) hW hm).2
    have m1 := zg_ma0 (σ := σ1) hW hm
    have m2 := zg_ma0 (σ := σ2) hW hm
    have m3 := zg_ma0 (σ := σ3) hW hm
    have m4 := zg_ma0 (σ := σ4) hW hm
    have m5 := zg_ma0 (σ := σ5) hW hm
    have g5 := (zz_inp (σ := σ5) hW hm).2.1
    rw [v4] at g5
    refine ⟨σ5, ?_, (((a2.tr d2).tr y2).tr w2).tr v2, v3, v4⟩
    simp (disch := first | assumption | omega) only [f_X9_append, m0, o0, hr, a1, m1, o1, d1, m2, o2, y1, m3, o3, w1, m4, o4, v1, m5, g5, zz_some, zz_lit, zz_num, zI_lt, zI_le, zI_eq, zI_nat, zz_b, if_pos, if_neg, if_true, if_false]
  · simp only [if_neg c]
    have c' : 600 < u + 20 := by omega
    have hr : f_X3_hasRoom (zH E σ) (zL E 2 0 1) (zI 20) = some (zI 0) := by
      simp (disch := first | assumption | omega) only [f_X3_hasRoom, g1, c', zz_some, zz_lit, zz_num, zI_lt, zI_le, zI_eq, zI_nat, zz_b, if_pos, if_neg, if_true, if_false]
    refine ⟨σ, ?_, fun _ _ _ _ => rfl, rfl⟩
    simp (disch := first | assumption | omega) only [f_X9_append, m0, o0, hr, zz_some, zz_lit, zz_num, zI_lt, zI_le, zI_eq, zI_nat, zz_b, if_pos, if_neg, if_true, if_false]
end zApp

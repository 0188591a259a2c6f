/-! The reference's calls that only read. -/
def zth (σ : zW) (v : Int) : zW := zs σ 3 0 0 0 v
theorem zth_zth {σ : zW} {v w : Int} : zs (zth σ v) 3 0 0 0 w = zth σ w := by
  funext k d c i
  unfold zth zs
  by_cases h : k = 3 ∧ d = 0 ∧ c = 0 ∧ i = 0
  · rw [if_pos h, if_pos h]
  · rw [if_neg h, if_neg h, if_neg h]
theorem zth_c {σ : zW} {v : Int} {k d c : Nat} (h : ¬ (k = 3 ∧ d = 0 ∧ c = 0)) : zth σ v k d c = σ k d c := zs_ne h
theorem zth_0 {σ : zW} {v : Int} : zth σ v 3 0 0 0 = v := by unfold zth; rw [zs_at, if_pos rfl]
theorem zth_i {σ : zW} {v i : Int} (h : i ≠ 0) : zth σ v 3 0 0 i = σ 3 0 0 i := by unfold zth; rw [zs_at, if_neg h]
/-- only scratch and the thrown number (now e) differ -/
def zT (σ σ' : zW) (e : Int) : Prop := (∀ k d c, ¬ (k = 3 ∧ d = 0 ∧ (c = 0 ∨ c = 17 ∨ c = 21 ∨ c = 23)) → σ' k d c = σ k d c) ∧ (∀ i, i ≠ 0 → i ≠ 18 → i ≠ 19 → i ≠ 20 → i ≠ 22 → σ' 3 0 0 i = σ 3 0 0 i) ∧ σ' 3 0 0 0 = e
theorem zT.th (σ : zW) (e : Int) : zT σ (zth σ e) e := ⟨fun k d c z => zth_c (by omega), fun i a _ _ _ _ => zth_i a, zth_0⟩
theorem zT.q {σ σ1 σ2 : zW} {e : Int} (h : zT σ σ1 e) (q : zQ σ1 σ2) : zT σ σ2 e := ⟨fun k d c z => (q.1 k d c z).trans (h.1 k d c z), fun i a b c d e => (q.2 i b c d e).trans (h.2.1 i a b c d e), (q.2 0 (by omega) (by omega) (by omega) (by omega)).trans h.2.2⟩
theorem zT.t {σ σ1 σ2 : zW} {e e1 : Int} (h : zT σ σ1 e) (q : zT σ1 σ2 e1) : zT σ σ2 e1 := ⟨fun k d c z => (q.1 k d c z).trans (h.1 k d c z), fun i a b c d e => (q.2.1 i a b c d e).trans (h.2.1 i a b c d e), q.2.2⟩
theorem zT.n {σ σ' : zW} {e : Int} (h : zT σ σ' e) : σ' 3 0 1 = σ 3 0 1 := h.1 3 0 1 (by omega)
theorem nEw2 {n : zN} (hn : nW n) {s : Int} (h0 : 0 ≤ s) (h1 : s < n 3) : 0 ≤ nS n s 2 ∧ nS n s 2 ≤ 10 := by
  have h := (hn.2.2.2 s h0 h1).2.2.2.1
  have h2 := (zcn_rng (fun f => decide (nEn n s f ≠ -1)) (n 2).toNat 0).2
  have hN := hn.1.r
  omega
section zMod
variable {E : zE} {σ : zW} {n : zN}

theorem e10_th0 (hW : zWF E) (hm : zU E 3 0 = true) (h0 : σ 3 0 0 0 = 0) {w : Int} : f_X10_throwsIf (zH E σ) (zL E 3 0 0) (zI 0) (zI w) = some ((zH E σ), zI 0) := by
  simp (disch := first | assumption | omega) only [f_X10_throwsIf, f_X10_throwsIf_J16, zg_md0 hW hm, h0, zz_some, zz_lit, zz_num, zI_lt, zI_le, zI_eq, zI_nat, zz_b, if_pos, if_neg, if_true, if_false]
theorem e10_th1 (hW : zWF E) (hm : zU E 3 0 = true) (h0 : σ 3 0 0 0 = 0) {w : Int} (hw : 1 ≤ w) (hw1 : w ≤ 9) : f_X10_throwsIf (zH E σ) (zL E 3 0 0) (zI 1) (zI w) = some (zH E (zth σ w), zI 1) := by
  have h2 := zg_md0 (σ := zth σ w) hW hm
  rw [zth_0] at h2
  simp (disch := first | assumption | omega) only [f_X10_throwsIf, f_X10_throwsIf_J16, zg_md0 hW hm, zp_md0 hW hm, h0, zz_some, zz_lit, zz_num, zI_lt, zI_le, zI_eq, zI_nat, zz_b, if_pos, if_neg, if_true, if_false]
  rw [show zs σ 3 0 0 0 w = zth σ w from rfl]
  simp (disch := first | assumption | omega) only [f_X10_throwsIf_J16, h2, zz_some, zz_lit, zz_num, zI_lt, zI_le, zI_eq, zI_nat, zz_b, if_pos, if_neg, if_true, if_false]
theorem e10_win {x lo hi : Int} (G : gH) (hx0 : -2147483648 ≤ x) (hx1 : x < 2147483648) (hl : 0 ≤ lo) (hl2 : lo < 1000) (hh : -2 ≤ hi) (hh2 : hi < 1000) : f_X10_within G (zI x) (zI lo) (zI hi) = some (zI (zb (decide (lo ≤ x ∧ x ≤ hi)))) := by
  by_cases h1 : x < lo
  · have e : decide (lo ≤ x ∧ x ≤ hi) = false := decide_eq_false (by omega)
    rw [e]
    simp (disch := first | assumption | omega) only [f_X10_within, zz_some, zz_lit, zz_num, zI_lt, zI_le, zI_eq, zI_nat, zz_b, if_pos, if_neg, if_true, if_false]
    rfl
  · by_cases h2 : hi < x
    · have e : decide (lo ≤ x ∧ x ≤ hi) = false := decide_eq_false (by omega)
      rw [e]
      simp (disch := first | assumption | omega) only [f_X10_within, zz_some, zz_lit, zz_num, zI_lt, zI_le, zI_eq, zI_nat, zz_b, if_pos, if_neg, if_true, if_false]
      rfl
    · have e : decide (lo ≤ x ∧ x ≤ hi) = true := decide_eq_true (by omega)
      rw [e]
      simp (disch := first | assumption | omega) only [f_X10_within, zz_some, zz_lit, zz_num, zI_lt, zI_le, zI_eq, zI_nat, zz_b, if_pos, if_neg, if_true, if_false]
      rfl
theorem e10_no (hW : zWF E) (hm : zU E 3 0 = true) {x m : Int} (hx0 : -2147483648 ≤ x) (hx1 : x < 2147483648) (hm0 : 0 ≤ m) (hm1 : m < 1000) : f_X10_no (zH E σ) (zL E 3 0 0) (zI x) (zI m) = if 0 ≤ x ∧ x < m then some (zH E (zth σ 0), zI 0) else some (zH E (zth σ 1), zI 1) := by
  have hw := e10_win (x := x) (lo := 0) (hi := m - 1) (zH E (zth σ 0)) hx0 hx1 (by omega) (by omega) (by omega) (by omega)
  have h0 : zth σ 0 3 0 0 0 = 0 := zth_0
  have hz : zs σ 3 0 0 0 0 = zth σ 0 := rfl
  have hz2 : zth (zth σ 0) 1 = zth σ 1 := zth_zth
  have ha := e10_th0 (w := 1) hW hm h0
  have hb := e10_th1 (w := 1) hW hm h0 (by omega) (by omega)
  rw [hz2] at hb
  by_cases h : 0 ≤ x ∧ x < m
  · have e : decide (0 ≤ x ∧ x ≤ m - 1) = true := decide_eq_true (by omega)
    rw [e] at hw
    rw [if_pos h]
    simp (disch := first | assumption | omega) only [f_X10_no, zp_md0 hW hm, zz_mdo hW hm, hz, hw, ha, hb, zz_some, zz_lit, zz_num, zI_lt, zI_le, zI_eq, zI_nat, zz_b, if_pos, if_neg, if_true, if_false]
    simp
  · have e : decide (0 ≤ x ∧ x ≤ m - 1) = false := decide_eq_false (by omega)
    rw [e] at hw
    rw [if_neg h]
    simp (disch := first | assumption | omega) only [f_X10_no, zp_md0 hW hm, zz_mdo hW hm, hz, hw, ha, hb, zz_some, zz_lit, zz_num, zI_lt, zI_le, zI_eq, zI_nat, zz_b, if_pos, if_neg, if_true, if_false]
    try simp

theorem e10_noBlock (hW : zWF E) (hm : zU E 3 0 = true) (h1 : σ 3 0 1 = n) (hn : nW n) {x : Int} (hx0 : -2147483648 ≤ x) (hx1 : x < 2147483648) : f_X10_noBlock (zH E σ) (zL E 3 0 0) (zI x) = if 0 ≤ x ∧ x < n 0 then some (zH E (zth σ 0), zI 0) else some (zH E (zth σ 1), zI 1) := by
  have hN' := hn.1.r
  have h := e10_no (σ := σ) (x := x) (m := n 0) hW hm hx0 hx1 (by omega) (by omega)
  simp (disch := first | assumption | omega) only [f_X10_noBlock, h, zz_mdo hW hm, zz_ra hW hm, h1, zz_some, zz_lit, zz_num, zI_lt, zI_le, zI_eq, zI_nat, zz_b, if_pos, if_neg, if_true, if_false]
  by_cases hc : 0 ≤ x ∧ x < n 0
  · rw [if_pos hc, zz_some]; simp (disch := first | assumption | omega) only [zz_some, zz_lit, zz_num, zI_lt, zI_le, zI_eq, zI_nat, zz_b, if_pos, if_neg, if_true, if_false]
  · rw [if_neg hc, zz_some]; simp (disch := first | assumption | omega) only [zz_some, zz_lit, zz_num, zI_lt, zI_le, zI_eq, zI_nat, zz_b, if_pos, if_neg, if_true, if_false]

theorem e10_noSession (hW : zWF E) (hm : zU E 3 0 = true) (h1 : σ 3 0 1 = n) (hn : nW n) {x : Int} (hx0 : -2147483648 ≤ x) (hx1 : x < 2147483648) : f_X10_noSession (zH E σ) (zL E 3 0 0) (zI x) = if 0 ≤ x ∧ x < n 3 then some (zH E (zth σ 0), zI 0) else some (zH E (zth σ 1), zI 1) := by
  have hN' := hn.1.r
  have h := e10_no (σ := σ) (x := x) (m := n 3) hW hm hx0 hx1 (by omega) (by omega)
  simp (disch := first | assumption | omega) only [f_X10_noSession, h, zz_mdo hW hm, zz_ra hW hm, h1, zz_some, zz_lit, zz_num, zI_lt, zI_le, zI_eq, zI_nat, zz_b, if_pos, if_neg, if_true, if_false]
  by_cases hc : 0 ≤ x ∧ x < n 3
  · rw [if_pos hc, zz_some]; simp (disch := first | assumption | omega) only [zz_some, zz_lit, zz_num, zI_lt, zI_le, zI_eq, zI_nat, zz_b, if_pos, if_neg, if_true, if_false]
  · rw [if_neg hc, zz_some]; simp (disch := first | assumption | omega) only [zz_some, zz_lit, zz_num, zI_lt, zI_le, zI_eq, zI_nat, zz_b, if_pos, if_neg, if_true, if_false]

theorem e10_noFile (hW : zWF E) (hm : zU E 3 0 = true) (h1 : σ 3 0 1 = n) (hn : nW n) {x : Int} (hx0 : -2147483648 ≤ x) (hx1 : x < 2147483648) : f_X10_noFile (zH E σ) (zL E 3 0 0) (zI x) = if 0 ≤ x ∧ x < n 2 then some (zH E (zth σ 0), zI 0) else some (zH E (zth σ 1), zI 1) := by
  have hN' := hn.1.r
  have h := e10_no (σ := σ) (x := x) (m := n 2) hW hm hx0 hx1 (by omega) (by omega)
  simp (disch := first | assumption | omega) only [f_X10_noFile, h, zz_mdo hW hm, zz_ra hW hm, h1, zz_some, zz_lit, zz_num, zI_lt, zI_le, zI_eq, zI_nat, zz_b, if_pos, if_neg, if_true, if_false]
  by_cases hc : 0 ≤ x ∧ x < n 2
  · rw [if_pos hc, zz_some]; simp (disch := first | assumption | omega) only [zz_some, zz_lit, zz_num, zI_lt, zI_le, zI_eq, zI_nat, zz_b, if_pos, if_neg, if_true, if_false]
  · rw [if_neg hc, zz_some]; simp (disch := first | assumption | omega) only [zz_some, zz_lit, zz_num, zI_lt, zI_le, zI_eq, zI_nat, zz_b, if_pos, if_neg, if_true, if_false]

def aSize (n : zN) (u x : Int) : Int := if x = 5 then zcn (fun b => decide (n (7 + b) = 0)) (n 0 - n 1) (n 1).toNat else if x = 6 then zcn (fun b => decide (n (103 + b) = 1)) 0 (n 0).toNat else if x = 7 then nTh n 12 else if x = 8 then zcn (nGd n) 0 (n 2).toNat else if x = 9 then zb (nOp n) else if x = 10 then n 5 else if x = 11 then u else if x = 12 then n 6 else n x
def aBlock (n : zN) (b x : Int) : Int := if x = 0 then n (7 + b) else if x = 1 then n (103 + b) else if x = 2 then n (199 + b) else if x = 3 then n (295 + b) - 1 else if x = 4 then n (391 + b) - 1 else if x = 5 then n (487 + b) - 1 else n (583 + b) - 1
def aSession (n : zN) (s x : Int) : Int := if x = 0 then nS n s 0 else if x = 1 then nS n s 1 else if x = 2 then zcn (fun b => decide (n (295 + b) = s + 1)) 0 (n 0 - n 1).toNat else if x = 3 then nS n s 2 else if x = 4 then nS n s 3 - 1 else if x = 5 then zb (nRdD n s) else if x = 6 then nS n s 4 - 1 else if x = 7 then zb (nRe n s) else zcn (fun b => decide (n (295 + b) = s + 1)) (n 0 - n 1) (n 1).toNat
def aEntry (n : zN) (s k x : Int) : Int := if 0 ≤ k ∧ k < nS n s 2 then (if 2 ≤ x then (if nS n s (6 + 2 * k) = -1 then (if x = 3 then 0 else -1) else nV n (nS n s (6 + 2 * k)) (x - 1)) else if x = 0 then nS n s (5 + 2 * k) else nS n s (6 + 2 * k)) else -1
def aFile (n : zN) (f x : Int) : Int := if x = 0 then (if nFv n f 12 = -1 then 0 else 1) else if x = 1 then (if nFv n f 12 = -1 then 0 else zb (nRv n (nFv n f 12))) else if x = 2 then nFv n f 12 else if x = 3 then (if nFv n f 12 = -1 then 0 else nV n (nFv n f 12) 2) else if x = 4 then (if nFv n f 12 = -1 then -1 else nV n (nFv n f 12) 3) else if x = 5 then nSk n f 12 else zcn (fun v => decide (nV n v 0 = f)) 0 (n 6).toNat
def aWhere (n : zN) (f k : Int) : Int := if nFv n f 12 = -1 then -1 else if 0 ≤ k ∧ k < nV n (nFv n f 12) 2 then nPl n (nV n (nFv n f 12) 1 + k) else -1
def aPlace (n : zN) (b : Int) : Int := if b < n 0 - n 1 then (if n (7 + b) = 0 then -1 else nPl n b) else -1
def aWhyNot (n : zN) (x : Int) : Int := if x = 0 then nWc n else if x = 1 then zb (!nOp n) else nWr n

theorem e10_size_J21_1 (hW : zWF E) (hm : zU E 3 0 = true) (h0 : σ 3 0 0 0 = 0) {x y z : Int} : f_X10_size_J21 (zH E σ) (zL E 3 0 0) (zI x) (zL E 3 0 0) (zI 1) = some (zH E (zth σ 1), zI 0) := by
  have h := e10_th1 (w := 1) hW hm h0 (by omega) (by omega)
  simp (disch := first | assumption | omega) only [f_X10_size_J21, zz_mdo hW hm, h, zz_some, zz_lit, zz_num, zI_lt, zI_le, zI_eq, zI_nat, zz_b, if_pos, if_neg, if_true, if_false]
  simp [zI]

theorem e10_block_J24_1 (hW : zWF E) (hm : zU E 3 0 = true) (h0 : σ 3 0 0 0 = 0) {x y z : Int} : f_X10_block_J24 (zH E σ) (zL E 3 0 0) (zI y) (zI x) (zL E 3 0 0) (zI 1) = some (zH E (zth σ 2), zI 0) := by
  have h := e10_th1 (w := 2) hW hm h0 (by omega) (by omega)
  simp (disch := first | assumption | omega) only [f_X10_block_J24, zz_mdo hW hm, h, zz_some, zz_lit, zz_num, zI_lt, zI_le, zI_eq, zI_nat, zz_b, if_pos, if_neg, if_true, if_false]
  simp [zI]

theorem e10_session_J24_1 (hW : zWF E) (hm : zU E 3 0 = true) (h0 : σ 3 0 0 0 = 0) {x y z : Int} : f_X10_session_J24 (zH E σ) (zL E 3 0 0) (zI y) (zI x) (zL E 3 0 0) (zI 1) = some (zH E (zth σ 2), zI 0) := by
  have h := e10_th1 (w := 2) hW hm h0 (by omega) (by omega)
  simp (disch := first | assumption | omega) only [f_X10_session_J24, zz_mdo hW hm, h, zz_some, zz_lit, zz_num, zI_lt, zI_le, zI_eq, zI_nat, zz_b, if_pos, if_neg, if_true, if_false]
  simp [zI]

theorem e10_entry_J23_1 (hW : zWF E) (hm : zU E 3 0 = true) (h0 : σ 3 0 0 0 = 0) {x y z : Int} : f_X10_entry_J23 (zH E σ) (zL E 3 0 0) (zI y) (zI z) (zI x) (zL E 3 0 0) (zI 1) = some (zH E (zth σ 2), zI 0) := by
  have h := e10_th1 (w := 2) hW hm h0 (by omega) (by omega)
  simp (disch := first | assumption | omega) only [f_X10_entry_J23, zz_mdo hW hm, h, zz_some, zz_lit, zz_num, zI_lt, zI_le, zI_eq, zI_nat, zz_b, if_pos, if_neg, if_true, if_false]
  simp [zI]

theorem e10_file_J24_1 (hW : zWF E) (hm : zU E 3 0 = true) (h0 : σ 3 0 0 0 = 0) {x y z : Int} : f_X10_file_J24 (zH E σ) (zL E 3 0 0) (zI y) (zI x) (zL E 3 0 0) (zI 1) = some (zH E (zth σ 2), zI 0) := by
  have h := e10_th1 (w := 2) hW hm h0 (by omega) (by omega)
  simp (disch := first | assumption | omega) only [f_X10_file_J24, zz_mdo hW hm, h, zz_some, zz_lit, zz_num, zI_lt, zI_le, zI_eq, zI_nat, zz_b, if_pos, if_neg, if_true, if_false]
  simp [zI]

theorem e10_whyNotWrite_J24_1 (hW : zWF E) (hm : zU E 3 0 = true) (h0 : σ 3 0 0 0 = 0) {x y z : Int} : f_X10_whyNotWrite_J24 (zH E σ) (zL E 3 0 0) (zI y) (zI x) (zL E 3 0 0) (zI 1) = some (zH E (zth σ 2), zI 0) := by
  have h := e10_th1 (w := 2) hW hm h0 (by omega) (by omega)
  simp (disch := first | assumption | omega) only [f_X10_whyNotWrite_J24, zz_mdo hW hm, h, zz_some, zz_lit, zz_num, zI_lt, zI_le, zI_eq, zI_nat, zz_b, if_pos, if_neg, if_true, if_false]
  simp [zI]

theorem e10_space_J20_1 (hW : zWF E) (hm : zU E 3 0 = true) (h0 : σ 3 0 0 0 = 0) {x y z : Int} : f_X10_space_J20 (zH E σ) (zL E 3 0 0) (zI x) (zL E 3 0 0) (zI 1) = some (zH E (zth σ 1), zI 0) := by
  have h := e10_th1 (w := 1) hW hm h0 (by omega) (by omega)
  simp (disch := first | assumption | omega) only [f_X10_space_J20, zz_mdo hW hm, h, zz_some, zz_lit, zz_num, zI_lt, zI_le, zI_eq, zI_nat, zz_b, if_pos, if_neg, if_true, if_false]
  simp [zI]

theorem e10_spaceOf_J23_1 (hW : zWF E) (hm : zU E 3 0 = true) (h0 : σ 3 0 0 0 = 0) {x y z : Int} : f_X10_spaceOf_J23 (zH E σ) (zL E 3 0 0) (zI y) (zI x) (zL E 3 0 0) (zI 1) = some (zH E (zth σ 2), zI 0) := by
  have h := e10_th1 (w := 2) hW hm h0 (by omega) (by omega)
  simp (disch := first | assumption | omega) only [f_X10_spaceOf_J23, zz_mdo hW hm, h, zz_some, zz_lit, zz_num, zI_lt, zI_le, zI_eq, zI_nat, zz_b, if_pos, if_neg, if_true, if_false]
  simp [zI]

theorem e10_whyNot_J20_1 (hW : zWF E) (hm : zU E 3 0 = true) (h0 : σ 3 0 0 0 = 0) {x y z : Int} : f_X10_whyNot_J20 (zH E σ) (zL E 3 0 0) (zI x) (zL E 3 0 0) (zI 1) = some (zH E (zth σ 1), zI 0) := by
  have h := e10_th1 (w := 1) hW hm h0 (by omega) (by omega)
  simp (disch := first | assumption | omega) only [f_X10_whyNot_J20, zz_mdo hW hm, h, zz_some, zz_lit, zz_num, zI_lt, zI_le, zI_eq, zI_nat, zz_b, if_pos, if_neg, if_true, if_false]
  simp [zI]

theorem e10_size_J21_0 (hW : zWF E) (hm : zU E 3 0 = true) (h1 : σ 3 0 1 = n) (hn : nW n) (h0 : σ 3 0 0 0 = 0) {x  : Int} (hx0 : 0 ≤ x) (hx1 : x ≤ 12)  : ∃ σ', f_X10_size_J21 (zH E σ) (zL E 3 0 0) (zI x) (zL E 3 0 0) (zI 0) = some (zH E σ', zI (aSize n (σ 3 0 0 24) x)) ∧ zQ σ σ' := by
  have hN' := hn.1.r
  have ht := fun w : Int => e10_th0 (w := w) hW hm h0
  have hmd := zz_mdo (σ := σ) hW hm

  have hc : x = 0 ∨ x = 1 ∨ x = 2 ∨ x = 3 ∨ x = 4 ∨ x = 5 ∨ x = 6 ∨ x = 7 ∨ x = 8 ∨ x = 9 ∨ x = 10 ∨ x = 11 ∨ x = 12 := by omega
  rcases hc with rfl | rfl | rfl | rfl | rfl | rfl | rfl | rfl | rfl | rfl | rfl | rfl | rfl
  · refine ⟨σ, ?_, zQ.rf⟩
    simp (disch := first | assumption | omega) only [f_X10_size_J21, aSize, ht, zz_mdo hW hm, zz_ra hW hm, h1, zz_some, zz_lit, zz_num, zI_lt, zI_le, zI_eq, zI_nat, zz_b, if_pos, if_neg, if_true, if_false]
    try simp
  · refine ⟨σ, ?_, zQ.rf⟩
    simp (disch := first | assumption | omega) only [f_X10_size_J21, aSize, ht, zz_mdo hW hm, zz_ra hW hm, h1, zz_some, zz_lit, zz_num, zI_lt, zI_le, zI_eq, zI_nat, zz_b, if_pos, if_neg, if_true, if_false]
    try simp
  · refine ⟨σ, ?_, zQ.rf⟩
    simp (disch := first | assumption | omega) only [f_X10_size_J21, aSize, ht, zz_mdo hW hm, zz_ra hW hm, h1, zz_some, zz_lit, zz_num, zI_lt, zI_le, zI_eq, zI_nat, zz_b, if_pos, if_neg, if_true, if_false]
    try simp
  · refine ⟨σ, ?_, zQ.rf⟩
    simp (disch := first | assumption | omega) only [f_X10_size_J21, aSize, ht, zz_mdo hW hm, zz_ra hW hm, h1, zz_some, zz_lit, zz_num, zI_lt, zI_le, zI_eq, zI_nat, zz_b, if_pos, if_neg, if_true, if_false]
    try simp
  · refine ⟨σ, ?_, zQ.rf⟩
    simp (disch := first | assumption | omega) only [f_X10_size_J21, aSize, ht, zz_mdo hW hm, zz_ra hW hm, h1, zz_some, zz_lit, zz_num, zI_lt, zI_le, zI_eq, zI_nat, zz_b, if_pos, if_neg, if_true, if_false]
    try simp
  · refine ⟨σ, ?_, zQ.rf⟩
    simp (disch := first | assumption | omega) only [f_X10_size_J21, aSize, ht, e10_emptySpares hW hm h1 hn, zz_mdo hW hm, zz_ra hW hm, h1, zz_some, zz_lit, zz_num, zI_lt, zI_le, zI_eq, zI_nat, zz_b, if_pos, if_neg, if_true, if_false]
    try simp
  · refine ⟨σ, ?_, zQ.rf⟩
    simp (disch := first | assumption | omega) only [f_X10_size_J21, aSize, ht, e10_badMany hW hm h1 hn, zz_mdo hW hm, zz_ra hW hm, h1, zz_some, zz_lit, zz_num, zI_lt, zI_le, zI_eq, zI_nat, zz_b, if_pos, if_neg, if_true, if_false]
    try simp
  · obtain ⟨σ1, a1, a2⟩ := e10_filesThere hW hm h1 hn (y := 12) (by omega) (by omega)
    refine ⟨σ1, ?_, a2⟩
    simp (disch := first | assumption | omega) only [f_X10_size_J21, aSize, ht, a1, zz_mdo hW hm, zz_ra hW hm, h1, zz_some, zz_lit, zz_num, zI_lt, zI_le, zI_eq, zI_nat, zz_b, if_pos, if_neg, if_true, if_false]
    try simp
  · obtain ⟨σ1, y, a1, a2, a3⟩ := e10_goodFiles hW hm h1 hn
    have a4 := zBit_ones a3 (by omega) (zH E σ1)
    refine ⟨σ1, ?_, a2⟩
    simp (disch := first | assumption | omega) only [f_X10_size_J21, aSize, ht, a1, a4, zz_mdo hW hm, zz_ra hW hm, h1, zz_some, zz_lit, zz_num, zI_lt, zI_le, zI_eq, zI_nat, zz_b, if_pos, if_neg, if_true, if_false]
    try simp
  · refine ⟨σ, ?_, zQ.rf⟩
    have a1 := e10_isOpen hW hm h1 hn.1 hn.2.2.2
    cases ho : nOp n
    all_goals rw [ho] at a1
    all_goals simp (disch := first | assumption | omega) only [f_X10_size_J21, aSize, ht, a1, ho, zz_mdo hW hm, zz_ra hW hm, h1, zz_some, zz_lit, zz_num, zI_lt, zI_le, zI_eq, zI_nat, zz_b, if_pos, if_neg, if_true, if_false]
    all_goals simp [zb]
  · refine ⟨σ, ?_, zQ.rf⟩
    simp (disch := first | assumption | omega) only [f_X10_size_J21, aSize, ht, zz_mdo hW hm, zz_ra hW hm, h1, zz_some, zz_lit, zz_num, zI_lt, zI_le, zI_eq, zI_nat, zz_b, if_pos, if_neg, if_true, if_false]
    try simp
  · refine ⟨σ, ?_, zQ.rf⟩
    simp (disch := first | assumption | omega) only [f_X10_size_J21, aSize, ht, zg_md24 hW hm, zz_mdo hW hm, zz_ra hW hm, h1, zz_some, zz_lit, zz_num, zI_lt, zI_le, zI_eq, zI_nat, zz_b, if_pos, if_neg, if_true, if_false]
    try simp
  · refine ⟨σ, ?_, zQ.rf⟩
    simp (disch := first | assumption | omega) only [f_X10_size_J21, aSize, ht, zz_mdo hW hm, zz_ra hW hm, h1, zz_some, zz_lit, zz_num, zI_lt, zI_le, zI_eq, zI_nat, zz_b, if_pos, if_neg, if_true, if_false]
    try simp
theorem e10_block_J24_0 (hW : zWF E) (hm : zU E 3 0 = true) (h1 : σ 3 0 1 = n) (hn : nW n) (h0 : σ 3 0 0 0 = 0) {x y : Int} (hx0 : 0 ≤ x) (hx1 : x ≤ 6) (hy0 : 0 ≤ y) (hy1 : y < n 0) : ∃ σ', f_X10_block_J24 (zH E σ) (zL E 3 0 0) (zI y) (zI x) (zL E 3 0 0) (zI 0) = some (zH E σ', zI (aBlock n y x)) ∧ zQ σ σ' := by
  have hN' := hn.1.r
  have ht := fun w : Int => e10_th0 (w := w) hW hm h0
  have hmd := zz_mdo (σ := σ) hW hm

  have hc : x = 0 ∨ x = 1 ∨ x = 2 ∨ x = 3 ∨ x = 4 ∨ x = 5 ∨ x = 6 := by omega
  rcases hc with rfl | rfl | rfl | rfl | rfl | rfl | rfl
  · refine ⟨σ, ?_, zQ.rf⟩
    simp (disch := first | assumption | omega) only [f_X10_block_J24, aBlock, ht, zz_mdo hW hm, zz_ra hW hm, h1, zz_some, zz_lit, zz_num, zI_lt, zI_le, zI_eq, zI_nat, zz_b, if_pos, if_neg, if_true, if_false]
    try simp
  · refine ⟨σ, ?_, zQ.rf⟩
    simp (disch := first | assumption | omega) only [f_X10_block_J24, aBlock, ht, zz_mdo hW hm, zz_ra hW hm, h1, zz_some, zz_lit, zz_num, zI_lt, zI_le, zI_eq, zI_nat, zz_b, if_pos, if_neg, if_true, if_false]
    try simp
  · refine ⟨σ, ?_, zQ.rf⟩
    simp (disch := first | assumption | omega) only [f_X10_block_J24, aBlock, ht, zz_mdo hW hm, zz_ra hW hm, h1, zz_some, zz_lit, zz_num, zI_lt, zI_le, zI_eq, zI_nat, zz_b, if_pos, if_neg, if_true, if_false]
    try simp
  · refine ⟨σ, ?_, zQ.rf⟩
    simp (disch := first | assumption | omega) only [f_X10_block_J24, aBlock, ht, zz_mdo hW hm, zz_ra hW hm, h1, zz_some, zz_lit, zz_num, zI_lt, zI_le, zI_eq, zI_nat, zz_b, if_pos, if_neg, if_true, if_false]
    try simp
  · refine ⟨σ, ?_, zQ.rf⟩
    simp (disch := first | assumption | omega) only [f_X10_block_J24, aBlock, ht, zz_mdo hW hm, zz_ra hW hm, h1, zz_some, zz_lit, zz_num, zI_lt, zI_le, zI_eq, zI_nat, zz_b, if_pos, if_neg, if_true, if_false]
    try simp
  · refine ⟨σ, ?_, zQ.rf⟩
    simp (disch := first | assumption | omega) only [f_X10_block_J24, aBlock, ht, zz_mdo hW hm, zz_ra hW hm, h1, zz_some, zz_lit, zz_num, zI_lt, zI_le, zI_eq, zI_nat, zz_b, if_pos, if_neg, if_true, if_false]
    try simp
  · refine ⟨σ, ?_, zQ.rf⟩
    simp (disch := first | assumption | omega) only [f_X10_block_J24, aBlock, ht, zz_mdo hW hm, zz_ra hW hm, h1, zz_some, zz_lit, zz_num, zI_lt, zI_le, zI_eq, zI_nat, zz_b, if_pos, if_neg, if_true, if_false]
    try simp
theorem e10_session_J24_0 (hW : zWF E) (hm : zU E 3 0 = true) (h1 : σ 3 0 1 = n) (hn : nW n) (h0 : σ 3 0 0 0 = 0) {x y : Int} (hx0 : 0 ≤ x) (hx1 : x ≤ 8) (hy0 : 0 ≤ y) (hy1 : y < n 3) : ∃ σ', f_X10_session_J24 (zH E σ) (zL E 3 0 0) (zI y) (zI x) (zL E 3 0 0) (zI 0) = some (zH E σ', zI (aSession n y x)) ∧ zQ σ σ' := by
  have hN' := hn.1.r
  have ht := fun w : Int => e10_th0 (w := w) hW hm h0
  have hmd := zz_mdo (σ := σ) hW hm
  obtain ⟨σ1, a1, a2, a3⟩ := e10_searches hW hm hn h1
  have h11 := a2.n.trans h1
  have hof := fun (w : Int) => e10_of (s := y) (w := w) hW hm h11 (by omega) (by omega)
  have hmd1 := zz_mdo (σ := σ1) hW hm
  have hc : x = 0 ∨ x = 1 ∨ x = 2 ∨ x = 3 ∨ x = 4 ∨ x = 5 ∨ x = 6 ∨ x = 7 ∨ x = 8 := by omega
  rcases hc with rfl | rfl | rfl | rfl | rfl | rfl | rfl | rfl | rfl
  · refine ⟨σ1, ?_, a2⟩
    have q := hof 0 (by omega) (by omega)
    simp (disch := first | assumption | omega) only [f_X10_session_J24, aSession, ht, a1, q, zz_mdo hW hm, zz_ra hW hm, h1, zz_some, zz_lit, zz_num, zI_lt, zI_le, zI_eq, zI_nat, zz_b, if_pos, if_neg, if_true, if_false]
    try simp
  · refine ⟨σ1, ?_, a2⟩
    have q := hof 1 (by omega) (by omega)
    simp (disch := first | assumption | omega) only [f_X10_session_J24, aSession, ht, a1, q, zz_mdo hW hm, zz_ra hW hm, h1, zz_some, zz_lit, zz_num, zI_lt, zI_le, zI_eq, zI_nat, zz_b, if_pos, if_neg, if_true, if_false]
    try simp
  · refine ⟨σ1, ?_, a2⟩
    simp (disch := first | assumption | omega) only [f_X10_session_J24, aSession, ht, a1, e10_writtenBy1 hW hm h11 hn hy0 (by omega), zz_mdo hW hm, zz_ra hW hm, h1, zz_some, zz_lit, zz_num, zI_lt, zI_le, zI_eq, zI_nat, zz_b, if_pos, if_neg, if_true, if_false]
    try simp
  · refine ⟨σ1, ?_, a2⟩
    have q := hof 2 (by omega) (by omega)
    simp (disch := first | assumption | omega) only [f_X10_session_J24, aSession, ht, a1, q, zz_mdo hW hm, zz_ra hW hm, h1, zz_some, zz_lit, zz_num, zI_lt, zI_le, zI_eq, zI_nat, zz_b, if_pos, if_neg, if_true, if_false]
    try simp
  · refine ⟨σ1, ?_, a2⟩
    have q := hof 3 (by omega) (by omega)
    simp (disch := first | assumption | omega) only [f_X10_session_J24, aSession, ht, a1, q, zz_mdo hW hm, zz_ra hW hm, h1, zz_some, zz_lit, zz_num, zI_lt, zI_le, zI_eq, zI_nat, zz_b, if_pos, if_neg, if_true, if_false]
    try simp
  · refine ⟨σ1, ?_, a2⟩
    have q := e10_canReadDirectory hW hm h11 hn hy0 hy1
    cases ho : nRdD n y
    all_goals rw [ho] at q
    all_goals simp (disch := first | assumption | omega) only [f_X10_session_J24, aSession, ht, a1, q, ho, zz_mdo hW hm, zz_ra hW hm, h1, zz_some, zz_lit, zz_num, zI_lt, zI_le, zI_eq, zI_nat, zz_b, if_pos, if_neg, if_true, if_false]
    all_goals simp [zb]
  · refine ⟨σ1, ?_, a2⟩
    have q := hof 4 (by omega) (by omega)
    simp (disch := first | assumption | omega) only [f_X10_session_J24, aSession, ht, a1, q, zz_mdo hW hm, zz_ra hW hm, h1, zz_some, zz_lit, zz_num, zI_lt, zI_le, zI_eq, zI_nat, zz_b, if_pos, if_neg, if_true, if_false]
    try simp
  · refine ⟨σ1, ?_, a2⟩
    have q := e10_isReached hW hm h11 hn a3 hy0 hy1
    cases ho : nRe n y
    all_goals rw [ho] at q
    all_goals simp (disch := first | assumption | omega) only [f_X10_session_J24, aSession, ht, a1, q, ho, zz_mdo hW hm, zz_ra hW hm, h1, zz_some, zz_lit, zz_num, zI_lt, zI_le, zI_eq, zI_nat, zz_b, if_pos, if_neg, if_true, if_false]
    all_goals simp [zb]
  · refine ⟨σ1, ?_, a2⟩
    simp (disch := first | assumption | omega) only [f_X10_session_J24, aSession, ht, a1, e10_writtenBy0 hW hm h11 hn hy0 (by omega), zz_mdo hW hm, zz_ra hW hm, h1, zz_some, zz_lit, zz_num, zI_lt, zI_le, zI_eq, zI_nat, zz_b, if_pos, if_neg, if_true, if_false]
    try simp
end zMod

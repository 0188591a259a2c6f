/-! The reference's calls that only read. -/
def zth (σ : zW) (v : Int) : zW := zs σ 3 0 0 0 v
theorem zth_zth {σ : zW} {v w : Int} : zs (zth σ v) 3 0 0 0 w = zth σ w := by
  funext k d c i
  unfold zth zs
  by_cases h : k = 3 ∧ d = 0 ∧ c = 0 ∧ i = 0
  · rw [if_pos h, if_pos h]
  · rw [if_neg h, if_neg h, if_neg h]
theorem zth_c {σ : zW} {v : Int} {k d c : Nat} (h : ¬ (k = 3 ∧ d = 0 ∧ c = 0)) : zth σ v k d c = σ k d c := zs_ne h
theorem zth_0 {σ : zW} {v : Int} : zth σ v 3 0 0 0 = v := by unfold zth; rw [zs_at, if_pos rfl]
theorem zth_i {σ : zW} {v i : Int} (h : i ≠ 0) : zth σ v 3 0 0 i = σ 3 0 0 i := by unfold zth; rw [zs_at, if_neg h]
/-- only scratch and the thrown number (now e) differ -/
def zT (σ σ' : zW) (e : Int) : Prop := (∀ k d c, ¬ (k = 3 ∧ d = 0 ∧ (c = 0 ∨ c = 17 ∨ c = 21 ∨ c = 23)) → σ' k d c = σ k d c) ∧ (∀ i, i ≠ 0 → i ≠ 18 → i ≠ 19 → i ≠ 20 → i ≠ 22 → σ' 3 0 0 i = σ 3 0 0 i) ∧ σ' 3 0 0 0 = e
theorem zT.th (σ : zW) (e : Int) : zT σ (zth σ e) e := ⟨fun k d c z => zth_c (by omega), fun i a _ _ _ _ => zth_i a, zth_0⟩
theorem zT.q {σ σ1 σ2 : zW} {e : Int} (h : zT σ σ1 e) (q : zQ σ1 σ2) : zT σ σ2 e := ⟨fun k d c z => (q.1 k d c z).trans (h.1 k d c z), fun i a b c d e => (q.2 i b c d e).trans (h.2.1 i a b c d e), (q.2 0 (by omega) (by omega) (by omega) (by omega)).trans h.2.2⟩
theorem zT.t {σ σ1 σ2 : zW} {e e1 : Int} (h : zT σ σ1 e) (q : zT σ1 σ2 e1) : zT σ σ2 e1 := ⟨fun k d c z => (q.1 k d c z).trans (h.1 k d c z), fun i a b c d e => (q.2.1 i a b c d e).trans (h.2.1 i a b c d e), q.2.2⟩
theorem zT.n {σ σ' : zW} {e : Int} (h : zT σ σ' e) : σ' 3 0 1 = σ 3 0 1 := h.1 3 0 1 (by omega)
theorem nEw2 {n : zN} (hn : nW n) {s : Int} (h0 : 0 ≤ s) (h1 : s < n 3) : 0 ≤ nS n s 2 ∧ nS n s 2 ≤ 10 := by
  have h := (hn.2.2.2 s h0 h1).2.2.2.1
  have h2 := (zcn_rng (fun f => decide (nEn n s f ≠ -1)) (n 2).toNat 0).2
  have hN := hn.1.r
  omega
theorem zz10 : ¬ (zI 1 = (0 : Int32)) := by decide
section zMod
variable {E : zE} {σ : zW} {n : zN}

theorem e10_th0 (hW : zWF E) (hm : zU E 3 0 = true) (h0 : σ 3 0 0 0 = 0) {w : Int} : f_X10_throwsIf (zH E σ) (zL E 3 0 0) (zI 0) (zI w) = some ((zH E σ), zI 0) := by
  simp (disch := first | assumption | omega) only [f_X10_throwsIf, f_X10_throwsIf_J16, zg_md0 hW hm, h0, zz_some, zz_lit, zz_num, zI_lt, zI_le, zI_eq, zI_nat, zz_b, if_pos, if_neg, if_true, if_false]
theorem e10_th1 (hW : zWF E) (hm : zU E 3 0 = true) (h0 : σ 3 0 0 0 = 0) {w : Int} (hw : 1 ≤ w) (hw1 : w ≤ 9) : f_X10_throwsIf (zH E σ) (zL E 3 0 0) (zI 1) (zI w) = some (zH E (zth σ w), zI 1) := by
  have h2 := zg_md0 (σ := zth σ w) hW hm
  rw [zth_0] at h2
  have h3 : zs σ 3 0 0 0 w = zth σ w := rfl
  simp (disch := first | assumption | omega) only [f_X10_throwsIf, f_X10_throwsIf_J16, zg_md0 hW hm, zp_md0 hW hm, h0, h3, zth_0, zz_some, zz_lit, zz_num, zI_lt, zI_le, zI_eq, zI_nat, zz_b, if_pos, if_neg, if_true, if_false]
theorem e10_win {x lo hi : Int} (G : gH) (hx0 : -2147483648 ≤ x) (hx1 : x < 2147483648) (hl : 0 ≤ lo) (hl2 : lo < 1000) (hh : -2 ≤ hi) (hh2 : hi < 1000) : f_X10_within G (zI x) (zI lo) (zI hi) = some (zI (zb (decide (lo ≤ x ∧ x ≤ hi)))) := by
  by_cases h1 : x < lo
  · have e : decide (lo ≤ x ∧ x ≤ hi) = false := decide_eq_false (by omega)
    rw [e]
    simp (disch := first | assumption | omega) only [f_X10_within, zz_some, zz_lit, zz_num, zI_lt, zI_le, zI_eq, zI_nat, zz_b, if_pos, if_neg, if_true, if_false]
    rfl
  · by_cases h2 : hi < x
    · have e : decide (lo ≤ x ∧ x ≤ hi) = false := decide_eq_false (by omega)
      rw [e]
      simp (disch := first | assumption | omega) only [f_X10_within, zz_some, zz_lit, zz_num, zI_lt, zI_le, zI_eq, zI_nat, zz_b, if_pos, if_neg, if_true, if_false]
      rfl
    · have e : decide (lo ≤ x ∧ x ≤ hi) = true := decide_eq_true (by omega)
      rw [e]
      simp (disch := first | assumption | omega) only [f_X10_within, zz_some, zz_lit, zz_num, zI_lt, zI_le, zI_eq, zI_nat, zz_b, if_pos, if_neg, if_true, if_false]
      rfl
theorem e10_no (hW : zWF E) (hm : zU E 3 0 = true) {x m : Int} (hx0 : -2147483648 ≤ x) (hx1 : x < 2147483648) (hm0 : 0 ≤ m) (hm1 : m < 1000) : f_X10_no (zH E σ) (zL E 3 0 0) (zI x) (zI m) = if 0 ≤ x ∧ x < m then some (zH E (zth σ 0), zI 0) else some (zH E (zth σ 1), zI 1) := by
  have hw := e10_win (x := x) (lo := 0) (hi := m - 1) (zH E (zth σ 0)) hx0 hx1 (by omega) (by omega) (by omega) (by omega)
  have h0 : zth σ 0 3 0 0 0 = 0 := zth_0
  have hz : zs σ 3 0 0 0 0 = zth σ 0 := rfl
  have hz2 : zth (zth σ 0) 1 = zth σ 1 := zth_zth
  have ha := e10_th0 (w := 1) hW hm h0
  have hb := e10_th1 (w := 1) hW hm h0 (by omega) (by omega)
  rw [hz2] at hb
  by_cases h : 0 ≤ x ∧ x < m
  · have e : decide (0 ≤ x ∧ x ≤ m - 1) = true := decide_eq_true (by omega)
    rw [e] at hw
    rw [if_pos h]
    simp (disch := first | assumption | omega) only [f_X10_no, zp_md0 hW hm, zz_mdo hW hm, hz, hw, ha, hb, zz_some, zz_lit, zz_num, zI_lt, zI_le, zI_eq, zI_nat, zz_b, if_pos, if_neg, if_true, if_false]
    simp
  · have e : decide (0 ≤ x ∧ x ≤ m - 1) = false := decide_eq_false (by omega)
    rw [e] at hw
    rw [if_neg h]
    simp (disch := first | assumption | omega) only [f_X10_no, zp_md0 hW hm, zz_mdo hW hm, hz, hw, ha, hb, zz_some, zz_lit, zz_num, zI_lt, zI_le, zI_eq, zI_nat, zz_b, if_pos, if_neg, if_true, if_false]
    try simp

theorem e10_noBlock (hW : zWF E) (hm : zU E 3 0 = true) (h1 : σ 3 0 1 = n) (hn : nW n) {x : Int} (hx0 : -2147483648 ≤ x) (hx1 : x < 2147483648) : f_X10_noBlock (zH E σ) (zL E 3 0 0) (zI x) = if 0 ≤ x ∧ x < n 0 then some (zH E (zth σ 0), zI 0) else some (zH E (zth σ 1), zI 1) := by
  have hN' := hn.1.r
  have h := e10_no (σ := σ) (x := x) (m := n 0) hW hm hx0 hx1 (by omega) (by omega)
  simp (disch := first | assumption | omega) only [f_X10_noBlock, h, zz_mdo hW hm, zz_ra hW hm, h1, zz_some, zz_lit, zz_num, zI_lt, zI_le, zI_eq, zI_nat, zz_b, if_pos, if_neg, if_true, if_false]
  by_cases hc : 0 ≤ x ∧ x < n 0
  · rw [if_pos hc, zz_some]; simp (disch := first | assumption | omega) only [zz_some, zz_lit, zz_num, zI_lt, zI_le, zI_eq, zI_nat, zz_b, if_pos, if_neg, if_true, if_false]
  · rw [if_neg hc, zz_some]; simp (disch := first | assumption | omega) only [zz_some, zz_lit, zz_num, zI_lt, zI_le, zI_eq, zI_nat, zz_b, if_pos, if_neg, if_true, if_false]

theorem e10_noSession (hW : zWF E) (hm : zU E 3 0 = true) (h1 : σ 3 0 1 = n) (hn : nW n) {x : Int} (hx0 : -2147483648 ≤ x) (hx1 : x < 2147483648) : f_X10_noSession (zH E σ) (zL E 3 0 0) (zI x) = if 0 ≤ x ∧ x < n 3 then some (zH E (zth σ 0), zI 0) else some (zH E (zth σ 1), zI 1) := by
  have hN' := hn.1.r
  have h := e10_no (σ := σ) (x := x) (m := n 3) hW hm hx0 hx1 (by omega) (by omega)
  simp (disch := first | assumption | omega) only [f_X10_noSession, h, zz_mdo hW hm, zz_ra hW hm, h1, zz_some, zz_lit, zz_num, zI_lt, zI_le, zI_eq, zI_nat, zz_b, if_pos, if_neg, if_true, if_false]
  by_cases hc : 0 ≤ x ∧ x < n 3
  · rw [if_pos hc, zz_some]; simp (disch := first | assumption | omega) only [zz_some, zz_lit, zz_num, zI_lt, zI_le, zI_eq, zI_nat, zz_b, if_pos, if_neg, if_true, if_false]
  · rw [if_neg hc, zz_some]; simp (disch := first | assumption | omega) only [zz_some, zz_lit, zz_num, zI_lt, zI_le, zI_eq, zI_nat, zz_b, if_pos, if_neg, if_true, if_false]

theorem e10_noFile (hW : zWF E) (hm : zU E 3 0 = true) (h1 : σ 3 0 1 = n) (hn : nW n) {x : Int} (hx0 : -2147483648 ≤ x) (hx1 : x < 2147483648) : f_X10_noFile (zH E σ) (zL E 3 0 0) (zI x) = if 0 ≤ x ∧ x < n 2 then some (zH E (zth σ 0), zI 0) else some (zH E (zth σ 1), zI 1) := by
  have hN' := hn.1.r
  have h := e10_no (σ := σ) (x := x) (m := n 2) hW hm hx0 hx1 (by omega) (by omega)
  simp (disch := first | assumption | omega) only [f_X10_noFile, h, zz_mdo hW hm, zz_ra hW hm, h1, zz_some, zz_lit, zz_num, zI_lt, zI_le, zI_eq, zI_nat, zz_b, if_pos, if_neg, if_true, if_false]
  by_cases hc : 0 ≤ x ∧ x < n 2
  · rw [if_pos hc, zz_some]; simp (disch := first | assumption | omega) only [zz_some, zz_lit, zz_num, zI_lt, zI_le, zI_eq, zI_nat, zz_b, if_pos, if_neg, if_true, if_false]
  · rw [if_neg hc, zz_some]; simp (disch := first | assumption | omega) only [zz_some, zz_lit, zz_num, zI_lt, zI_le, zI_eq, zI_nat, zz_b, if_pos, if_neg, if_true, if_false]

def aSize (n : zN) (u x : Int) : Int := if x = 5 then zcn (fun b => decide (n (7 + b) = 0)) (n 0 - n 1) (n 1).toNat else if x = 6 then zcn (fun b => decide (n (103 + b) = 1)) 0 (n 0).toNat else if x = 7 then nTh n 12 else if x = 8 then zcn (nGd n) 0 (n 2).toNat else if x = 9 then zb (nOp n) else if x = 10 then n 5 else if x = 11 then u else if x = 12 then n 6 else n x
def aBlock (n : zN) (b x : Int) : Int := if x = 0 then n (7 + b) else if x = 1 then n (103 + b) else if x = 2 then n (199 + b) else if x = 3 then n (295 + b) - 1 else if x = 4 then n (391 + b) - 1 else if x = 5 then n (487 + b) - 1 else n (583 + b) - 1
def aSession (n : zN) (s x : Int) : Int := if x = 0 then nS n s 0 else if x = 1 then nS n s 1 else if x = 2 then zcn (fun b => decide (n (295 + b) = s + 1)) 0 (n 0 - n 1).toNat else if x = 3 then nS n s 2 else if x = 4 then nS n s 3 - 1 else if x = 5 then zb (nRdD n s) else if x = 6 then nS n s 4 - 1 else if x = 7 then zb (nRe n s) else zcn (fun b => decide (n (295 + b) = s + 1)) (n 0 - n 1) (n 1).toNat
def aEntry (n : zN) (s k x : Int) : Int := if 0 ≤ k ∧ k < nS n s 2 then (if 2 ≤ x then (if nS n s (6 + 2 * k) = -1 then (if x = 3 then 0 else -1) else nV n (nS n s (6 + 2 * k)) (x - 1)) else if x = 0 then nS n s (5 + 2 * k) else nS n s (6 + 2 * k)) else -1
def aFile (n : zN) (f x : Int) : Int := if x = 0 then (if nFv n f 12 = -1 then 0 else 1) else if x = 1 then (if nFv n f 12 = -1 then 0 else zb (nRv n (nFv n f 12))) else if x = 2 then nFv n f 12 else if x = 3 then (if nFv n f 12 = -1 then 0 else nV n (nFv n f 12) 2) else if x = 4 then (if nFv n f 12 = -1 then -1 else nV n (nFv n f 12) 3) else if x = 5 then nSk n f 12 else zcn (fun v => decide (nV n v 0 = f)) 0 (n 6).toNat
def aWhere (n : zN) (f k : Int) : Int := if nFv n f 12 = -1 then -1 else if 0 ≤ k ∧ k < nV n (nFv n f 12) 2 then nPl n (nV n (nFv n f 12) 1 + k) else -1
def aPlace (n : zN) (b : Int) : Int := if b < n 0 - n 1 then (if n (7 + b) = 0 then -1 else nPl n b) else -1
def aWhyNot (n : zN) (x : Int) : Int := if x = 0 then nWc n else if x = 1 then zb (!nOp n) else nWr n

theorem e10_size_J21_1 (hW : zWF E) (hm : zU E 3 0 = true) (h0 : σ 3 0 0 0 = 0) {x y z : Int} : f_X10_size_J21 (zH E σ) (zL E 3 0 0) (zI x) (zL E 3 0 0) (zI 1) = some (zH E (zth σ 1), zI 0) := by
  have h := e10_th1 (w := 1) hW hm h0 (by omega) (by omega)
  have hob : g_ob (zH E σ) (zL E 3 0 0) 10 = some () := by simp only [zz_mdo hW hm]
  rw [f_X10_size_J21, hob, zz_some, show (1 : Int32) = zI 1 from rfl, h, zz_some, if_neg zz10]
  rfl

theorem e10_block_J24_1 (hW : zWF E) (hm : zU E 3 0 = true) (h0 : σ 3 0 0 0 = 0) {x y z : Int} : f_X10_block_J24 (zH E σ) (zL E 3 0 0) (zI y) (zI x) (zL E 3 0 0) (zI 1) = some (zH E (zth σ 2), zI 0) := by
  have h := e10_th1 (w := 2) hW hm h0 (by omega) (by omega)
  have hob : g_ob (zH E σ) (zL E 3 0 0) 10 = some () := by simp only [zz_mdo hW hm]
  rw [f_X10_block_J24, hob, zz_some, show (2 : Int32) = zI 2 from rfl, h, zz_some, if_neg zz10]
  rfl

theorem e10_session_J24_1 (hW : zWF E) (hm : zU E 3 0 = true) (h0 : σ 3 0 0 0 = 0) {x y z : Int} : f_X10_session_J24 (zH E σ) (zL E 3 0 0) (zI y) (zI x) (zL E 3 0 0) (zI 1) = some (zH E (zth σ 2), zI 0) := by
  have h := e10_th1 (w := 2) hW hm h0 (by omega) (by omega)
  have hob : g_ob (zH E σ) (zL E 3 0 0) 10 = some () := by simp only [zz_mdo hW hm]
  rw [f_X10_session_J24, hob, zz_some, show (2 : Int32) = zI 2 from rfl, h, zz_some, if_neg zz10]
  rfl

theorem e10_entry_J23_1 (hW : zWF E) (hm : zU E 3 0 = true) (h0 : σ 3 0 0 0 = 0) {x y z : Int} : f_X10_entry_J23 (zH E σ) (zL E 3 0 0) (zI y) (zI z) (zI x) (zL E 3 0 0) (zI 1) = some (zH E (zth σ 2), zI 0) := by
  have h := e10_th1 (w := 2) hW hm h0 (by omega) (by omega)
  have hob : g_ob (zH E σ) (zL E 3 0 0) 10 = some () := by simp only [zz_mdo hW hm]
  rw [f_X10_entry_J23, hob, zz_some, show (2 : Int32) = zI 2 from rfl, h, zz_some, if_neg zz10]
  rfl

theorem e10_file_J24_1 (hW : zWF E) (hm : zU E 3 0 = true) (h0 : σ 3 0 0 0 = 0) {x y z : Int} : f_X10_file_J24 (zH E σ) (zL E 3 0 0) (zI y) (zI x) (zL E 3 0 0) (zI 1) = some (zH E (zth σ 2), zI 0) := by
  have h := e10_th1 (w := 2) hW hm h0 (by omega) (by omega)
  have hob : g_ob (zH E σ) (zL E 3 0 0) 10 = some () := by simp only [zz_mdo hW hm]
  rw [f_X10_file_J24, hob, zz_some, show (2 : Int32) = zI 2 from rfl, h, zz_some, if_neg zz10]
  rfl

theorem e10_whyNotWrite_J24_1 (hW : zWF E) (hm : zU E 3 0 = true) (h0 : σ 3 0 0 0 = 0) {x y z : Int} : f_X10_whyNotWrite_J24 (zH E σ) (zL E 3 0 0) (zI y) (zI x) (zL E 3 0 0) (zI 1) = some (zH E (zth σ 2), zI 0) := by
  have h := e10_th1 (w := 2) hW hm h0 (by omega) (by omega)
  have hob : g_ob (zH E σ) (zL E 3 0 0) 10 = some () := by simp only [zz_mdo hW hm]
  rw [f_X10_whyNotWrite_J24, hob, zz_some, show (2 : Int32) = zI 2 from rfl, h, zz_some, if_neg zz10]
  rfl

theorem e10_space_J20_1 (hW : zWF E) (hm : zU E 3 0 = true) (h0 : σ 3 0 0 0 = 0) {x y z : Int} : f_X10_space_J20 (zH E σ) (zL E 3 0 0) (zI x) (zL E 3 0 0) (zI 1) = some (zH E (zth σ 1), zI 0) := by
  have h := e10_th1 (w := 1) hW hm h0 (by omega) (by omega)
  have hob : g_ob (zH E σ) (zL E 3 0 0) 10 = some () := by simp only [zz_mdo hW hm]
  rw [f_X10_space_J20, hob, zz_some, show (1 : Int32) = zI 1 from rfl, h, zz_some, if_neg zz10]
  rfl

theorem e10_spaceOf_J23_1 (hW : zWF E) (hm : zU E 3 0 = true) (h0 : σ 3 0 0 0 = 0) {x y z : Int} : f_X10_spaceOf_J23 (zH E σ) (zL E 3 0 0) (zI y) (zI x) (zL E 3 0 0) (zI 1) = some (zH E (zth σ 2), zI 0) := by
  have h := e10_th1 (w := 2) hW hm h0 (by omega) (by omega)
  have hob : g_ob (zH E σ) (zL E 3 0 0) 10 = some () := by simp only [zz_mdo hW hm]
  rw [f_X10_spaceOf_J23, hob, zz_some, show (2 : Int32) = zI 2 from rfl, h, zz_some, if_neg zz10]
  rfl

theorem e10_whyNot_J20_1 (hW : zWF E) (hm : zU E 3 0 = true) (h0 : σ 3 0 0 0 = 0) {x y z : Int} : f_X10_whyNot_J20 (zH E σ) (zL E 3 0 0) (zI x) (zL E 3 0 0) (zI 1) = some (zH E (zth σ 1), zI 0) := by
  have h := e10_th1 (w := 1) hW hm h0 (by omega) (by omega)
  have hob : g_ob (zH E σ) (zL E 3 0 0) 10 = some () := by simp only [zz_mdo hW hm]
  rw [f_X10_whyNot_J20, hob, zz_some, show (1 : Int32) = zI 1 from rfl, h, zz_some, if_neg zz10]
  rfl

theorem e10_size_J21_0 (hW : zWF E) (hm : zU E 3 0 = true) (h1 : σ 3 0 1 = n) (hn : nW n) (h0 : σ 3 0 0 0 = 0) {x  : Int} (hx0 : 0 ≤ x) (hx1 : x ≤ 12)  : ∃ σ', f_X10_size_J21 (zH E σ) (zL E 3 0 0) (zI x) (zL E 3 0 0) (zI 0) = some (zH E σ', zI (aSize n (σ 3 0 0 24) x)) ∧ zQ σ σ' := by
  have hN' := hn.1.r
  have ht := fun w : Int => e10_th0 (w := w) hW hm h0
  have hmd := zz_mdo (σ := σ) hW hm

  have hc : x = 0 ∨ x = 1 ∨ x = 2 ∨ x = 3 ∨ x = 4 ∨ x = 5 ∨ x = 6 ∨ x = 7 ∨ x = 8 ∨ x = 9 ∨ x = 10 ∨ x = 11 ∨ x = 12 := by omega
  rcases hc with rfl | rfl | rfl | rfl | rfl | rfl | rfl | rfl | rfl | rfl | rfl | rfl | rfl
  · refine ⟨σ, ?_, zQ.rf⟩
    simp (disch := first | assumption | omega) only [f_X10_size_J21, aSize, ht, zz_mdo hW hm, zz_ra hW hm, h1, zz_some, zz_lit, zz_num, zI_lt, zI_le, zI_eq, zI_nat, zz_b, if_pos, if_neg, if_true, if_false]
    try simp
  · refine ⟨σ, ?_, zQ.rf⟩
    simp (disch := first | assumption | omega) only [f_X10_size_J21, aSize, ht, zz_mdo hW hm, zz_ra hW hm, h1, zz_some, zz_lit, zz_num, zI_lt, zI_le, zI_eq, zI_nat, zz_b, if_pos, if_neg, if_true, if_false]
    try simp
  · refine ⟨σ, ?_, zQ.rf⟩
    simp (disch := first | assumption | omega) only [f_X10_size_J21, aSize, ht, zz_mdo hW hm, zz_ra hW hm, h1, zz_some, zz_lit, zz_num, zI_lt, zI_le, zI_eq, zI_nat, zz_b, if_pos, if_neg, if_true, if_false]
    try simp
  · refine ⟨σ, ?_, zQ.rf⟩
    simp (disch := first | assumption | omega) only [f_X10_size_J21, aSize, ht, zz_mdo hW hm, zz_ra hW hm, h1, zz_some, zz_lit, zz_num, zI_lt, zI_le, zI_eq, zI_nat, zz_b, if_pos, if_neg, if_true, if_false]
    try simp
  · refine ⟨σ, ?_, zQ.rf⟩
    simp (disch := first | assumption | omega) only [f_X10_size_J21, aSize, ht, zz_mdo hW hm, zz_ra hW hm, h1, zz_some, zz_lit, zz_num, zI_lt, zI_le, zI_eq, zI_nat, zz_b, if_pos, if_neg, if_true, if_false]
    try simp
  · refine ⟨σ, ?_, zQ.rf⟩
    simp (disch := first | assumption | omega) only [f_X10_size_J21, aSize, ht, e10_emptySpares hW hm h1 hn, zz_mdo hW hm, zz_ra hW hm, h1, zz_some, zz_lit, zz_num, zI_lt, zI_le, zI_eq, zI_nat, zz_b, if_pos, if_neg, if_true, if_false]
    try simp
  · refine ⟨σ, ?_, zQ.rf⟩
    simp (disch := first | assumption | omega) only [f_X10_size_J21, aSize, ht, e10_badMany hW hm h1 hn, zz_mdo hW hm, zz_ra hW hm, h1, zz_some, zz_lit, zz_num, zI_lt, zI_le, zI_eq, zI_nat, zz_b, if_pos, if_neg, if_true, if_false]
    try simp
  · obtain ⟨σ1, a1, a2⟩ := e10_filesThere hW hm h1 hn (y := 12) (by omega) (by omega)
    refine ⟨σ1, ?_, a2⟩
    simp (disch := first | assumption | omega) only [f_X10_size_J21, aSize, ht, a1, zz_mdo hW hm, zz_ra hW hm, h1, zz_some, zz_lit, zz_num, zI_lt, zI_le, zI_eq, zI_nat, zz_b, if_pos, if_neg, if_true, if_false]
    try simp
  · obtain ⟨σ1, y, a1, a2, a3⟩ := e10_goodFiles hW hm h1 hn
    have a4 := zBit_ones a3 (by omega) (zH E σ1)
    refine ⟨σ1, ?_, a2⟩
    simp (disch := first | assumption | omega) only [f_X10_size_J21, aSize, ht, a1, a4, zz_mdo hW hm, zz_ra hW hm, h1, zz_some, zz_lit, zz_num, zI_lt, zI_le, zI_eq, zI_nat, zz_b, if_pos, if_neg, if_true, if_false]
    try simp
  · refine ⟨σ, ?_, zQ.rf⟩
    have a1 := e10_isOpen hW hm h1 hn.1 hn.2.2.2
    cases ho : nOp n
    all_goals rw [ho] at a1
    all_goals simp (disch := first | assumption | omega) only [f_X10_size_J21, aSize, ht, a1, ho, zz_mdo hW hm, zz_ra hW hm, h1, zz_some, zz_lit, zz_num, zI_lt, zI_le, zI_eq, zI_nat, zz_b, if_pos, if_neg, if_true, if_false]
    all_goals simp [zb]
  · refine ⟨σ, ?_, zQ.rf⟩
    simp (disch := first | assumption | omega) only [f_X10_size_J21, aSize, ht, zz_mdo hW hm, zz_ra hW hm, h1, zz_some, zz_lit, zz_num, zI_lt, zI_le, zI_eq, zI_nat, zz_b, if_pos, if_neg, if_true, if_false]
    try simp
  · refine ⟨σ, ?_, zQ.rf⟩
    simp (disch := first | assumption | omega) only [f_X10_size_J21, aSize, ht, zg_md24 hW hm, zz_mdo hW hm, zz_ra hW hm, h1, zz_some, zz_lit, zz_num, zI_lt, zI_le, zI_eq, zI_nat, zz_b, if_pos, if_neg, if_true, if_false]
    try simp
  · refine ⟨σ, ?_, zQ.rf⟩
    simp (disch := first | assumption | omega) only [f_X10_size_J21, aSize, ht, zz_mdo hW hm, zz_ra hW hm, h1, zz_some, zz_lit, zz_num, zI_lt, zI_le, zI_eq, zI_nat, zz_b, if_pos, if_neg, if_true, if_false]
    try simp
theorem e10_block_J24_0 (hW : zWF E) (hm : zU E 3 0 = true) (h1 : σ 3 0 1 = n) (hn : nW n) (h0 : σ 3 0 0 0 = 0) {x y : Int} (hx0 : 0 ≤ x) (hx1 : x ≤ 6) (hy0 : 0 ≤ y) (hy1 : y < n 0) : ∃ σ', f_X10_block_J24 (zH E σ) (zL E 3 0 0) (zI y) (zI x) (zL E 3 0 0) (zI 0) = some (zH E σ', zI (aBlock n y x)) ∧ zQ σ σ' := by
  have hN' := hn.1.r
  have ht := fun w : Int => e10_th0 (w := w) hW hm h0
  have hmd := zz_mdo (σ := σ) hW hm

  have hc : x = 0 ∨ x = 1 ∨ x = 2 ∨ x = 3 ∨ x = 4 ∨ x = 5 ∨ x = 6 := by omega
  rcases hc with rfl | rfl | rfl | rfl | rfl | rfl | rfl
  · refine ⟨σ, ?_, zQ.rf⟩
    simp (disch := first | assumption | omega) only [f_X10_block_J24, aBlock, ht, zz_mdo hW hm, zz_ra hW hm, h1, zz_some, zz_lit, zz_num, zI_lt, zI_le, zI_eq, zI_nat, zz_b, if_pos, if_neg, if_true, if_false]
    try simp
  · refine ⟨σ, ?_, zQ.rf⟩
    simp (disch := first | assumption | omega) only [f_X10_block_J24, aBlock, ht, zz_mdo hW hm, zz_ra hW hm, h1, zz_some, zz_lit, zz_num, zI_lt, zI_le, zI_eq, zI_nat, zz_b, if_pos, if_neg, if_true, if_false]
    try simp
  · refine ⟨σ, ?_, zQ.rf⟩
    simp (disch := first | assumption | omega) only [f_X10_block_J24, aBlock, ht, zz_mdo hW hm, zz_ra hW hm, h1, zz_some, zz_lit, zz_num, zI_lt, zI_le, zI_eq, zI_nat, zz_b, if_pos, if_neg, if_true, if_false]
    try simp
  · refine ⟨σ, ?_, zQ.rf⟩
    simp (disch := first | assumption | omega) only [f_X10_block_J24, aBlock, ht, zz_mdo hW hm, zz_ra hW hm, h1, zz_some, zz_lit, zz_num, zI_lt, zI_le, zI_eq, zI_nat, zz_b, if_pos, if_neg, if_true, if_false]
    try simp
  · refine ⟨σ, ?_, zQ.rf⟩
    simp (disch := first | assumption | omega) only [f_X10_block_J24, aBlock, ht, zz_mdo hW hm, zz_ra hW hm, h1, zz_some, zz_lit, zz_num, zI_lt, zI_le, zI_eq, zI_nat, zz_b, if_pos, if_neg, if_true, if_false]
    try simp
  · refine ⟨σ, ?_, zQ.rf⟩
    simp (disch := first | assumption | omega) only [f_X10_block_J24, aBlock, ht, zz_mdo hW hm, zz_ra hW hm, h1, zz_some, zz_lit, zz_num, zI_lt, zI_le, zI_eq, zI_nat, zz_b, if_pos, if_neg, if_true, if_false]
    try simp
  · refine ⟨σ, ?_, zQ.rf⟩
    simp (disch := first | assumption | omega) only [f_X10_block_J24, aBlock, ht, zz_mdo hW hm, zz_ra hW hm, h1, zz_some, zz_lit, zz_num, zI_lt, zI_le, zI_eq, zI_nat, zz_b, if_pos, if_neg, if_true, if_false]
    try simp
theorem e10_session_J24_0 (hW : zWF E) (hm : zU E 3 0 = true) (h1 : σ 3 0 1 = n) (hn : nW n) (h0 : σ 3 0 0 0 = 0) {x y : Int} (hx0 : 0 ≤ x) (hx1 : x ≤ 8) (hy0 : 0 ≤ y) (hy1 : y < n 3) : ∃ σ', f_X10_session_J24 (zH E σ) (zL E 3 0 0) (zI y) (zI x) (zL E 3 0 0) (zI 0) = some (zH E σ', zI (aSession n y x)) ∧ zQ σ σ' := by
  have hN' := hn.1.r
  have ht := fun w : Int => e10_th0 (w := w) hW hm h0
  have hmd := zz_mdo (σ := σ) hW hm
  obtain ⟨σ1, a1, a2, a3⟩ := e10_searches hW hm hn h1
  have h11 := a2.n.trans h1
  have hof := fun (w : Int) => e10_of (s := y) (w := w) hW hm h11 (by omega) (by omega)
  have hmd1 := zz_mdo (σ := σ1) hW hm
  have hc : x = 0 ∨ x = 1 ∨ x = 2 ∨ x = 3 ∨ x = 4 ∨ x = 5 ∨ x = 6 ∨ x = 7 ∨ x = 8 := by omega
  rcases hc with rfl | rfl | rfl | rfl | rfl | rfl | rfl | rfl | rfl
  · refine ⟨σ1, ?_, a2⟩
    have q := hof 0 (by omega) (by omega)
    simp (disch := first | assumption | omega) only [f_X10_session_J24, aSession, ht, a1, q, zz_mdo hW hm, zz_ra hW hm, h1, zz_some, zz_lit, zz_num, zI_lt, zI_le, zI_eq, zI_nat, zz_b, if_pos, if_neg, if_true, if_false]
    try simp
  · refine ⟨σ1, ?_, a2⟩
    have q := hof 1 (by omega) (by omega)
    simp (disch := first | assumption | omega) only [f_X10_session_J24, aSession, ht, a1, q, zz_mdo hW hm, zz_ra hW hm, h1, zz_some, zz_lit, zz_num, zI_lt, zI_le, zI_eq, zI_nat, zz_b, if_pos, if_neg, if_true, if_false]
    try simp
  · refine ⟨σ1, ?_, a2⟩
    simp (disch := first | assumption | omega) only [f_X10_session_J24, aSession, ht, a1, e10_writtenBy1 hW hm h11 hn hy0 (by omega), zz_mdo hW hm, zz_ra hW hm, h1, zz_some, zz_lit, zz_num, zI_lt, zI_le, zI_eq, zI_nat, zz_b, if_pos, if_neg, if_true, if_false]
    try simp
  · refine ⟨σ1, ?_, a2⟩
    have q := hof 2 (by omega) (by omega)
    simp (disch := first | assumption | omega) only [f_X10_session_J24, aSession, ht, a1, q, zz_mdo hW hm, zz_ra hW hm, h1, zz_some, zz_lit, zz_num, zI_lt, zI_le, zI_eq, zI_nat, zz_b, if_pos, if_neg, if_true, if_false]
    try simp
  · refine ⟨σ1, ?_, a2⟩
    have q := hof 3 (by omega) (by omega)
    simp (disch := first | assumption | omega) only [f_X10_session_J24, aSession, ht, a1, q, zz_mdo hW hm, zz_ra hW hm, h1, zz_some, zz_lit, zz_num, zI_lt, zI_le, zI_eq, zI_nat, zz_b, if_pos, if_neg, if_true, if_false]
    try simp
  · refine ⟨σ1, ?_, a2⟩
    have q := e10_canReadDirectory hW hm h11 hn hy0 hy1
    cases ho : nRdD n y
    all_goals rw [ho] at q
    all_goals simp (disch := first | assumption | omega) only [f_X10_session_J24, aSession, ht, a1, q, ho, zz_mdo hW hm, zz_ra hW hm, h1, zz_some, zz_lit, zz_num, zI_lt, zI_le, zI_eq, zI_nat, zz_b, if_pos, if_neg, if_true, if_false]
    all_goals simp [zb]
  · refine ⟨σ1, ?_, a2⟩
    have q := hof 4 (by omega) (by omega)
    simp (disch := first | assumption | omega) only [f_X10_session_J24, aSession, ht, a1, q, zz_mdo hW hm, zz_ra hW hm, h1, zz_some, zz_lit, zz_num, zI_lt, zI_le, zI_eq, zI_nat, zz_b, if_pos, if_neg, if_true, if_false]
    try simp
  · refine ⟨σ1, ?_, a2⟩
    have q := e10_isReached hW hm h11 hn a3 hy0 hy1
    cases ho : nRe n y
    all_goals rw [ho] at q
    all_goals simp (disch := first | assumption | omega) only [f_X10_session_J24, aSession, ht, a1, q, ho, zz_mdo hW hm, zz_ra hW hm, h1, zz_some, zz_lit, zz_num, zI_lt, zI_le, zI_eq, zI_nat, zz_b, if_pos, if_neg, if_true, if_false]
    all_goals simp [zb]
  · refine ⟨σ1, ?_, a2⟩
    simp (disch := first | assumption | omega) only [f_X10_session_J24, aSession, ht, a1, e10_writtenBy0 hW hm h11 hn hy0 (by omega), zz_mdo hW hm, zz_ra hW hm, h1, zz_some, zz_lit, zz_num, zI_lt, zI_le, zI_eq, zI_nat, zz_b, if_pos, if_neg, if_true, if_false]
    try simp
theorem e10_entry_J23_0 (hW : zWF E) (hm : zU E 3 0 = true) (h1 : σ 3 0 1 = n) (hn : nW n) (h0 : σ 3 0 0 0 = 0) {x y z : Int} (hx0 : 0 ≤ x) (hx1 : x ≤ 4) (hy0 : 0 ≤ y) (hy1 : y < n 3) (hz0 : -2147483648 ≤ z) (hz1 : z < 2147483648) : f_X10_entry_J23 (zH E σ) (zL E 3 0 0) (zI y) (zI z) (zI x) (zL E 3 0 0) (zI 0) = some (zH E σ, zI (aEntry n y z x)) := by
  have hN' := hn.1.r
  have ht := fun w : Int => e10_th0 (w := w) hW hm h0
  have h2 := nEw2 hn hy0 hy1
  have hof := fun (w : Int) => e10_of (s := y) (w := w) hW hm h1 (by omega) (by omega)
  have q2 := hof 2 (by omega) (by omega)
  have hw := e10_win (x := z) (lo := 0) (hi := nS n y 2 - 1) (zH E σ) hz0 hz1 (by omega) (by omega) (by omega) (by omega)
  unfold aEntry
  by_cases hz : 0 ≤ z ∧ z < nS n y 2
  · have e : decide (0 ≤ z ∧ z ≤ nS n y 2 - 1) = true := decide_eq_true (by omega)
    rw [e] at hw
    rw [if_pos hz]
    have hen := (hn.2.2.2 y hy0 hy1).2.2.2.2.2.2 z hz.1 hz.2
    have q5 := hof (5 + 2 * z) (by omega) (by omega)
    have q6 := hof (5 + 2 * z + 1) (by omega) (by omega)
    rw [show 5 + 2 * z + 1 = 6 + 2 * z by omega] at q6
    have e6 : (5 : Int) + 2 * z + 1 = 6 + 2 * z := by omega
    by_cases hx : 2 ≤ x
    · rw [if_pos hx]
      by_cases hv : nS n y (6 + 2 * z) = -1
      · rw [if_pos hv]
        rw [hv] at q6
        by_cases h3 : x = 3
        · rw [if_pos h3]
          simp (disch := first | assumption | omega) only [f_X10_entry_J23, ht, q2, hw, e6, q5, q6, zb, zz_mdo hW hm, zz_ra hW hm, h1, zz_some, zz_lit, zz_num, zI_lt, zI_le, zI_eq, zI_nat, zz_b, if_pos, if_neg, if_true, if_false]
        · rw [if_neg h3]
          simp (disch := first | assumption | omega) only [f_X10_entry_J23, ht, q2, hw, e6, q5, q6, zb, zz_mdo hW hm, zz_ra hW hm, h1, zz_some, zz_lit, zz_num, zI_lt, zI_le, zI_eq, zI_nat, zz_b, if_pos, if_neg, if_true, if_false]
      · rw [if_neg hv]
        have hvs := hn.2.2.1
        have hov := e10_ofVersion (v := nS n y (6 + 2 * z)) (w := x - 1) hW hm h1 (by omega) (by omega) (by omega) (by omega)
        simp (disch := first | assumption | omega) only [f_X10_entry_J23, ht, q2, hw, e6, q5, q6, hov, zb, zz_mdo hW hm, zz_ra hW hm, h1, zz_some, zz_lit, zz_num, zI_lt, zI_le, zI_eq, zI_nat, zz_b, if_pos, if_neg, if_true, if_false]
    · rw [if_neg hx]
      by_cases h3 : x = 0
      · rw [if_pos h3]
        simp (disch := first | assumption | omega) only [f_X10_entry_J23, ht, q2, hw, e6, q5, q6, zb, zz_mdo hW hm, zz_ra hW hm, h1, zz_some, zz_lit, zz_num, zI_lt, zI_le, zI_eq, zI_nat, zz_b, if_pos, if_neg, if_true, if_false]
      · rw [if_neg h3]
        simp (disch := first | assumption | omega) only [f_X10_entry_J23, ht, q2, hw, e6, q5, q6, zb, zz_mdo hW hm, zz_ra hW hm, h1, zz_some, zz_lit, zz_num, zI_lt, zI_le, zI_eq, zI_nat, zz_b, if_pos, if_neg, if_true, if_false]
  · have e : decide (0 ≤ z ∧ z ≤ nS n y 2 - 1) = false := decide_eq_false (by omega)
    rw [e] at hw
    rw [if_neg hz]
    simp (disch := first | assumption | omega) only [f_X10_entry_J23, ht, q2, hw, zz_mdo hW hm, zz_ra hW hm, h1, zz_some, zz_lit, zz_num, zI_lt, zI_le, zI_eq, zI_nat, zz_b, if_pos, if_neg, if_true, if_false]
    try simp

theorem e10_file_J51 (hW : zWF E) (hm : zU E 3 0 = true) (h1 : σ 3 0 1 = n) (hn : nW n) {x y : Int} (hx0 : 0 ≤ x) (hx1 : x ≤ 6) (hy0 : 0 ≤ y) (hy1 : y < n 2) (h19 : σ 3 0 0 19 = nSk n y 12) (h20 : σ 3 0 0 20 = nFv n y 12) : f_X10_file_J51 (zH E σ) (zL E 3 0 0) (zI y) (zI x) (zI (zb (decide (nFv n y 12 ≠ -1)))) = some (zH E σ, zI (aFile n y x)) := by
  have hN' := hn.1.r
  have hf := nFv_rng hn y 12
  have g19 := zg_md19 (σ := σ) hW hm
  have g20 := zg_md20 (σ := σ) hW hm
  rw [h19] at g19
  rw [h20] at g20
  have hvo := e10_versionsOf (x := y) hW hm h1 hn hy0 (by omega)
  have hc : x = 0 ∨ x = 1 ∨ x = 2 ∨ x = 3 ∨ x = 4 ∨ x = 5 ∨ x = 6 := by omega
  rcases hc with rfl | rfl | rfl | rfl | rfl | rfl | rfl

  · by_cases hv : nFv n y 12 = -1
    · rw [decide_eq_false (by omega)]
      simp (disch := first | assumption | omega) only [f_X10_file_J51, aFile, zb, g19, g20, hvo, zz_mdo hW hm, zz_ra hW hm, h1, zz_some, zz_lit, zz_num, zI_lt, zI_le, zI_eq, zI_nat, zz_b, if_pos, if_neg, if_true, if_false]
      try simp
    · rw [decide_eq_true (by omega)]
      have hov := fun w : Int => e10_ofVersion (v := nFv n y 12) (w := w) hW hm h1 (by omega) (by omega)
      have q2 := hov 2 (by omega) (by omega)
      have q3 := hov 3 (by omega) (by omega)
      have hr := e10_isReadable (v := nFv n y 12) hW hm h1 hn (by omega) (by omega)
      simp (disch := first | assumption | omega) only [f_X10_file_J51, aFile, zb, g19, g20, hvo, q2, q3, hr, zz_mdo hW hm, zz_ra hW hm, h1, zz_some, zz_lit, zz_num, zI_lt, zI_le, zI_eq, zI_nat, zz_b, if_pos, if_neg, if_true, if_false]
      try simp
  · by_cases hv : nFv n y 12 = -1
    · rw [decide_eq_false (by omega)]
      simp (disch := first | assumption | omega) only [f_X10_file_J51, aFile, zb, g19, g20, hvo, zz_mdo hW hm, zz_ra hW hm, h1, zz_some, zz_lit, zz_num, zI_lt, zI_le, zI_eq, zI_nat, zz_b, if_pos, if_neg, if_true, if_false]
      try simp
    · rw [decide_eq_true (by omega)]
      have hov := fun w : Int => e10_ofVersion (v := nFv n y 12) (w := w) hW hm h1 (by omega) (by omega)
      have q2 := hov 2 (by omega) (by omega)
      have q3 := hov 3 (by omega) (by omega)
      have hr := e10_isReadable (v := nFv n y 12) hW hm h1 hn (by omega) (by omega)
      cases ho : nRv n (nFv n y 12)
      all_goals rw [ho] at hr
      all_goals simp (disch := first | assumption | omega) only [f_X10_file_J51, aFile, zb, g19, g20, hvo, q2, q3, hr, ho, zz_mdo hW hm, zz_ra hW hm, h1, zz_some, zz_lit, zz_num, zI_lt, zI_le, zI_eq, zI_nat, zz_b, if_pos, if_neg, if_true, if_false]
      all_goals simp
  · by_cases hv : nFv n y 12 = -1
    · rw [decide_eq_false (by omega)]
      simp (disch := first | assumption | omega) only [f_X10_file_J51, aFile, zb, g19, g20, hvo, zz_mdo hW hm, zz_ra hW hm, h1, zz_some, zz_lit, zz_num, zI_lt, zI_le, zI_eq, zI_nat, zz_b, if_pos, if_neg, if_true, if_false]
      try simp
    · rw [decide_eq_true (by omega)]
      have hov := fun w : Int => e10_ofVersion (v := nFv n y 12) (w := w) hW hm h1 (by omega) (by omega)
      have q2 := hov 2 (by omega) (by omega)
      have q3 := hov 3 (by omega) (by omega)
      have hr := e10_isReadable (v := nFv n y 12) hW hm h1 hn (by omega) (by omega)
      simp (disch := first | assumption | omega) only [f_X10_file_J51, aFile, zb, g19, g20, hvo, q2, q3, hr, zz_mdo hW hm, zz_ra hW hm, h1, zz_some, zz_lit, zz_num, zI_lt, zI_le, zI_eq, zI_nat, zz_b, if_pos, if_neg, if_true, if_false]
      try simp
  · by_cases hv : nFv n y 12 = -1
    · rw [decide_eq_false (by omega)]
      simp (disch := first | assumption | omega) only [f_X10_file_J51, aFile, zb, g19, g20, hvo, zz_mdo hW hm, zz_ra hW hm, h1, zz_some, zz_lit, zz_num, zI_lt, zI_le, zI_eq, zI_nat, zz_b, if_pos, if_neg, if_true, if_false]
      try simp
    · rw [decide_eq_true (by omega)]
      have hov := fun w : Int => e10_ofVersion (v := nFv n y 12) (w := w) hW hm h1 (by omega) (by omega)
      have q2 := hov 2 (by omega) (by omega)
      have q3 := hov 3 (by omega) (by omega)
      have hr := e10_isReadable (v := nFv n y 12) hW hm h1 hn (by omega) (by omega)
      simp (disch := first | assumption | omega) only [f_X10_file_J51, aFile, zb, g19, g20, hvo, q2, q3, hr, zz_mdo hW hm, zz_ra hW hm, h1, zz_some, zz_lit, zz_num, zI_lt, zI_le, zI_eq, zI_nat, zz_b, if_pos, if_neg, if_true, if_false]
      try simp
  · by_cases hv : nFv n y 12 = -1
    · rw [decide_eq_false (by omega)]
      simp (disch := first | assumption | omega) only [f_X10_file_J51, aFile, zb, g19, g20, hvo, zz_mdo hW hm, zz_ra hW hm, h1, zz_some, zz_lit, zz_num, zI_lt, zI_le, zI_eq, zI_nat, zz_b, if_pos, if_neg, if_true, if_false]
      try simp
    · rw [decide_eq_true (by omega)]
      have hov := fun w : Int => e10_ofVersion (v := nFv n y 12) (w := w) hW hm h1 (by omega) (by omega)
      have q2 := hov 2 (by omega) (by omega)
      have q3 := hov 3 (by omega) (by omega)
      have hr := e10_isReadable (v := nFv n y 12) hW hm h1 hn (by omega) (by omega)
      simp (disch := first | assumption | omega) only [f_X10_file_J51, aFile, zb, g19, g20, hvo, q2, q3, hr, zz_mdo hW hm, zz_ra hW hm, h1, zz_some, zz_lit, zz_num, zI_lt, zI_le, zI_eq, zI_nat, zz_b, if_pos, if_neg, if_true, if_false]
      try simp
  · by_cases hv : nFv n y 12 = -1
    · rw [decide_eq_false (by omega)]
      simp (disch := first | assumption | omega) only [f_X10_file_J51, aFile, zb, g19, g20, hvo, zz_mdo hW hm, zz_ra hW hm, h1, zz_some, zz_lit, zz_num, zI_lt, zI_le, zI_eq, zI_nat, zz_b, if_pos, if_neg, if_true, if_false]
      try simp
    · rw [decide_eq_true (by omega)]
      have hov := fun w : Int => e10_ofVersion (v := nFv n y 12) (w := w) hW hm h1 (by omega) (by omega)
      have q2 := hov 2 (by omega) (by omega)
      have q3 := hov 3 (by omega) (by omega)
      have hr := e10_isReadable (v := nFv n y 12) hW hm h1 hn (by omega) (by omega)
      simp (disch := first | assumption | omega) only [f_X10_file_J51, aFile, zb, g19, g20, hvo, q2, q3, hr, zz_mdo hW hm, zz_ra hW hm, h1, zz_some, zz_lit, zz_num, zI_lt, zI_le, zI_eq, zI_nat, zz_b, if_pos, if_neg, if_true, if_false]
      try simp
  · by_cases hv : nFv n y 12 = -1
    · rw [decide_eq_false (by omega)]
      simp (disch := first | assumption | omega) only [f_X10_file_J51, aFile, zb, g19, g20, hvo, zz_mdo hW hm, zz_ra hW hm, h1, zz_some, zz_lit, zz_num, zI_lt, zI_le, zI_eq, zI_nat, zz_b, if_pos, if_neg, if_true, if_false]
      try simp
    · rw [decide_eq_true (by omega)]
      have hov := fun w : Int => e10_ofVersion (v := nFv n y 12) (w := w) hW hm h1 (by omega) (by omega)
      have q2 := hov 2 (by omega) (by omega)
      have q3 := hov 3 (by omega) (by omega)
      have hr := e10_isReadable (v := nFv n y 12) hW hm h1 hn (by omega) (by omega)
      simp (disch := first | assumption | omega) only [f_X10_file_J51, aFile, zb, g19, g20, hvo, q2, q3, hr, zz_mdo hW hm, zz_ra hW hm, h1, zz_some, zz_lit, zz_num, zI_lt, zI_le, zI_eq, zI_nat, zz_b, if_pos, if_neg, if_true, if_false]
      try simp
theorem e10_file_J24_0 (hW : zWF E) (hm : zU E 3 0 = true) (h1 : σ 3 0 1 = n) (hn : nW n) (h0 : σ 3 0 0 0 = 0) {x y : Int} (hx0 : 0 ≤ x) (hx1 : x ≤ 6) (hy0 : 0 ≤ y) (hy1 : y < n 2) : ∃ σ', f_X10_file_J24 (zH E σ) (zL E 3 0 0) (zI y) (zI x) (zL E 3 0 0) (zI 0) = some (zH E σ', zI (aFile n y x)) ∧ zQ σ σ' := by
  have hN' := hn.1.r
  have ht := fun w : Int => e10_th0 (w := w) hW hm h0
  have hf := nFv_rng hn y 12
  obtain ⟨σ1, a1, a2, a3, a4⟩ := e10_finds (x := y) hW hm h1 hn hy0 (by omega)
  have h11 := a2.n.trans h1
  have hj := e10_file_J51 hW hm h11 hn hx0 hx1 hy0 hy1 a3 a4
  have g20 := zg_md20 (σ := σ1) hW hm
  rw [a4] at g20
  refine ⟨σ1, ?_, a2⟩
  by_cases hv : nFv n y 12 = -1
  · rw [decide_eq_false (by omega)] at hj
    simp (disch := first | assumption | omega) only [f_X10_file_J24, ht, a1, g20, zz_mdo hW hm, zz_ra hW hm, h1, zz_some, zz_lit, zz_num, zI_lt, zI_le, zI_eq, zI_nat, zz_b, if_pos, if_neg, if_true, if_false]
    exact hj
  · rw [decide_eq_true (by omega)] at hj
    simp (disch := first | assumption | omega) only [f_X10_file_J24, ht, a1, g20, zz_mdo hW hm, zz_ra hW hm, h1, zz_some, zz_lit, zz_num, zI_lt, zI_le, zI_eq, zI_nat, zz_b, if_pos, if_neg, if_true, if_false]
    exact hj
theorem e10_whyNotWrite_J24_0 (hW : zWF E) (hm : zU E 3 0 = true) (h1 : σ 3 0 1 = n) (hn : nW n) (h0 : σ 3 0 0 0 = 0) {x y : Int} (hx0 : 1 ≤ x) (hx1 : x ≤ 8) (hy0 : 0 ≤ y) (hy1 : y < n 2) : f_X10_whyNotWrite_J24 (zH E σ) (zL E 3 0 0) (zI y) (zI x) (zL E 3 0 0) (zI 0) = some (zH E σ, zI (nWw n y x)) := by
  have hN' := hn.1.r
  have ht := fun w : Int => e10_th0 (w := w) hW hm h0
  have hq := e10_whyWrite (x := y) (m := x) hW hm h1 hn (by omega) (by omega) (by omega) (by omega)
  simp (disch := first | assumption | omega) only [f_X10_whyNotWrite_J24, ht, hq, zz_mdo hW hm, zz_ra hW hm, h1, zz_some, zz_lit, zz_num, zI_lt, zI_le, zI_eq, zI_nat, zz_b, if_pos, if_neg, if_true, if_false]
theorem e10_space_J20_0 (hW : zWF E) (hm : zU E 3 0 = true) (h1 : σ 3 0 1 = n) (hn : nW n) (h0 : σ 3 0 0 0 = 0) {x : Int} (hx0 : 0 ≤ x) (hx1 : x ≤ 4) : ∃ σ', f_X10_space_J20 (zH E σ) (zL E 3 0 0) (zI x) (zL E 3 0 0) (zI 0) = some (zH E σ', zI (nSp n (-1) x)) ∧ zQ σ σ' := by
  have ht := fun w : Int => e10_th0 (w := w) hW hm h0
  obtain ⟨σ1, a1, a2⟩ := e10_spaceBy (s := -1) (u := x) hW hm h1 hn (by omega) (by omega) hx0 hx1
  refine ⟨σ1, ?_, a2⟩
  simp (disch := first | assumption | omega) only [f_X10_space_J20, ht, a1, zz_mdo hW hm, zz_ra hW hm, h1, zz_some, zz_lit, zz_num, zI_lt, zI_le, zI_eq, zI_nat, zz_b, if_pos, if_neg, if_true, if_false]
theorem e10_spaceOf_J23_0 (hW : zWF E) (hm : zU E 3 0 = true) (h1 : σ 3 0 1 = n) (hn : nW n) (h0 : σ 3 0 0 0 = 0) {x y : Int} (hx0 : 1 ≤ x) (hx1 : x ≤ 4) (hy0 : 0 ≤ y) (hy1 : y < n 3) : ∃ σ', f_X10_spaceOf_J23 (zH E σ) (zL E 3 0 0) (zI y) (zI x) (zL E 3 0 0) (zI 0) = some (zH E σ', zI (nSp n y x)) ∧ zQ σ σ' := by
  have hN' := hn.1.r
  have ht := fun w : Int => e10_th0 (w := w) hW hm h0
  obtain ⟨σ1, a1, a2⟩ := e10_spaceBy (s := y) (u := x) hW hm h1 hn (by omega) (by omega) (by omega) hx1
  refine ⟨σ1, ?_, a2⟩
  simp (disch := first | assumption | omega) only [f_X10_spaceOf_J23, ht, a1, zz_mdo hW hm, zz_ra hW hm, h1, zz_some, zz_lit, zz_num, zI_lt, zI_le, zI_eq, zI_nat, zz_b, if_pos, if_neg, if_true, if_false]
theorem e10_whyNot_J20_0 (hW : zWF E) (hm : zU E 3 0 = true) (h1 : σ 3 0 1 = n) (hn : nW n) (h0 : σ 3 0 0 0 = 0) {x : Int} (hx0 : 0 ≤ x) (hx1 : x ≤ 2) : ∃ σ', f_X10_whyNot_J20 (zH E σ) (zL E 3 0 0) (zI x) (zL E 3 0 0) (zI 0) = some (zH E σ', zI (aWhyNot n x)) ∧ zQ σ σ' := by
  have ht := fun w : Int => e10_th0 (w := w) hW hm h0
  have hc : x = 0 ∨ x = 1 ∨ x = 2 := by omega
  rcases hc with rfl | rfl | rfl
  · have hq := e10_whyClose hW hm h1 hn
    refine ⟨σ, ?_, zQ.rf⟩
    simp (disch := first | assumption | omega) only [f_X10_whyNot_J20, aWhyNot, ht, hq, zz_mdo hW hm, zz_ra hW hm, h1, zz_some, zz_lit, zz_num, zI_lt, zI_le, zI_eq, zI_nat, zz_b, if_pos, if_neg, if_true, if_false]
  · have hq := e10_isOpen hW hm h1 hn.1 hn.2.2.2
    refine ⟨σ, ?_, zQ.rf⟩
    cases ho : nOp n
    all_goals rw [ho] at hq
    all_goals simp (disch := first | assumption | omega) only [f_X10_whyNot_J20, aWhyNot, ht, hq, ho, zz_mdo hW hm, zz_ra hW hm, h1, zz_some, zz_lit, zz_num, zI_lt, zI_le, zI_eq, zI_nat, zz_b, if_pos, if_neg, if_true, if_false]
    all_goals simp [zb]
  · obtain ⟨σ1, a1, a2, _⟩ := e10_whyRecover hW hm h1 hn
    refine ⟨σ1, ?_, a2⟩
    simp (disch := first | assumption | omega) only [f_X10_whyNot_J20, aWhyNot, ht, a1, zz_mdo hW hm, zz_ra hW hm, h1, zz_some, zz_lit, zz_num, zI_lt, zI_le, zI_eq, zI_nat, zz_b, if_pos, if_neg, if_true, if_false]

/-- the first of the greatest risks -/
def zwk (F : Int → Int) : Nat → Int → Int → Int → Int
  | 0, _, w, _ => w
  | m + 1, b, w, r => if F b ≤ r then zwk F m (b + 1) w r else zwk F m (b + 1) b (F b)
def aDefect (n : zN) (x : Int) (w : Bool) : Int := if x < 0 then -1 else if znt (nDf n) 0 (n 0 - n 1).toNat x = -1 then -1 else if w = true then nPl n (znt (nDf n) 0 (n 0 - n 1).toNat x) else znt (nDf n) 0 (n 0 - n 1).toNat x
theorem e10_size (hW : zWF E) (hm : zU E 3 0 = true) (h1 : σ 3 0 1 = n) (hn : nW n) {x : Int} (hx0 : -2147483648 ≤ x) (hx1 : x < 2147483648) : ∃ σ', f_X10_size (zH E σ) (zL E 3 0 0) (zI x) = some (zH E σ', zI (if 0 ≤ x ∧ x ≤ 12 then aSize n (σ 3 0 0 24) x else 0)) ∧ zT σ σ' (if 0 ≤ x ∧ x ≤ 12 then 0 else 1) := by
  obtain ⟨τ, hz⟩ : ∃ y, zs σ 3 0 0 0 0 = y := ⟨_, rfl⟩
  have hzt : zth σ 0 = τ := hz
  have hT : zT σ τ 0 := hzt ▸ zT.th σ 0
  have h11 : τ 3 0 1 = n := hT.n.trans h1
  have h00 : τ 3 0 0 0 = 0 := hT.2.2
  have hN' := hn.1.r
  have hmt := zz_mdo (σ := τ) hW hm
  have hms := zz_mdo (σ := σ) hW hm
  have hw := e10_win (x := x) (lo := 0) (hi := 12) (zH E τ) hx0 hx1 (by omega) (by omega) (by omega) (by omega)
  by_cases hc : 0 ≤ x ∧ x ≤ 12
  · rw [if_pos hc, if_pos hc]
    rw [decide_eq_true hc] at hw
    obtain ⟨σ1, a1, a2⟩ := e10_size_J21_0 hW hm h11 hn h00 hc.1 hc.2
    rw [show τ 3 0 0 24 = σ 3 0 0 24 from hT.2.1 24 (by omega) (by omega) (by omega) (by omega) (by omega)] at a1
    refine ⟨σ1, ?_, hT.q a2⟩
    simp (disch := first | assumption | omega) only [f_X10_size, zp_md0 hW hm, hz, hw, a1, zz_some, zz_lit, zz_num, zI_lt, zI_le, zI_eq, zI_nat, zz_b, if_pos, if_neg, if_true, if_false]
    try simp
  · rw [if_neg hc, if_neg hc]
    rw [decide_eq_false hc] at hw
    have a1 := e10_size_J21_1 (x := x) (y := 0) (z := 0) hW hm h00
    refine ⟨zth τ 1, ?_, hT.t (zT.th τ 1)⟩
    simp (disch := first | assumption | omega) only [f_X10_size, zp_md0 hW hm, hz, hw, a1, zz_some, zz_lit, zz_num, zI_lt, zI_le, zI_eq, zI_nat, zz_b, if_pos, if_neg, if_true, if_false]
    try simp

theorem e10_space (hW : zWF E) (hm : zU E 3 0 = true) (h1 : σ 3 0 1 = n) (hn : nW n) {x : Int} (hx0 : -2147483648 ≤ x) (hx1 : x < 2147483648) : ∃ σ', f_X10_space (zH E σ) (zL E 3 0 0) (zI x) = some (zH E σ', zI (if 0 ≤ x ∧ x ≤ 4 then nSp n (-1) x else 0)) ∧ zT σ σ' (if 0 ≤ x ∧ x ≤ 4 then 0 else 1) := by
  obtain ⟨τ, hz⟩ : ∃ y, zs σ 3 0 0 0 0 = y := ⟨_, rfl⟩
  have hzt : zth σ 0 = τ := hz
  have hT : zT σ τ 0 := hzt ▸ zT.th σ 0
  have h11 : τ 3 0 1 = n := hT.n.trans h1
  have h00 : τ 3 0 0 0 = 0 := hT.2.2
  have hN' := hn.1.r
  have hmt := zz_mdo (σ := τ) hW hm
  have hms := zz_mdo (σ := σ) hW hm
  have hw := e10_win (x := x) (lo := 0) (hi := 4) (zH E τ) hx0 hx1 (by omega) (by omega) (by omega) (by omega)
  by_cases hc : 0 ≤ x ∧ x ≤ 4
  · rw [if_pos hc, if_pos hc]
    rw [decide_eq_true hc] at hw
    obtain ⟨σ1, a1, a2⟩ := e10_space_J20_0 hW hm h11 hn h00 hc.1 hc.2
    refine ⟨σ1, ?_, hT.q a2⟩
    simp (disch := first | assumption | omega) only [f_X10_space, zp_md0 hW hm, hz, hw, a1, zz_some, zz_lit, zz_num, zI_lt, zI_le, zI_eq, zI_nat, zz_b, if_pos, if_neg, if_true, if_false]
    try simp
  · rw [if_neg hc, if_neg hc]
    rw [decide_eq_false hc] at hw
    have a1 := e10_space_J20_1 (x := x) (y := 0) (z := 0) hW hm h00
    refine ⟨zth τ 1, ?_, hT.t (zT.th τ 1)⟩
    simp (disch := first | assumption | omega) only [f_X10_space, zp_md0 hW hm, hz, hw, a1, zz_some, zz_lit, zz_num, zI_lt, zI_le, zI_eq, zI_nat, zz_b, if_pos, if_neg, if_true, if_false]
    try simp

theorem e10_whyNot (hW : zWF E) (hm : zU E 3 0 = true) (h1 : σ 3 0 1 = n) (hn : nW n) {x : Int} (hx0 : -2147483648 ≤ x) (hx1 : x < 2147483648) : ∃ σ', f_X10_whyNot (zH E σ) (zL E 3 0 0) (zI x) = some (zH E σ', zI (if 0 ≤ x ∧ x ≤ 2 then aWhyNot n x else 0)) ∧ zT σ σ' (if 0 ≤ x ∧ x ≤ 2 then 0 else 1) := by
  obtain ⟨τ, hz⟩ : ∃ y, zs σ 3 0 0 0 0 = y := ⟨_, rfl⟩
  have hzt : zth σ 0 = τ := hz
  have hT : zT σ τ 0 := hzt ▸ zT.th σ 0
  have h11 : τ 3 0 1 = n := hT.n.trans h1
  have h00 : τ 3 0 0 0 = 0 := hT.2.2
  have hN' := hn.1.r
  have hmt := zz_mdo (σ := τ) hW hm
  have hms := zz_mdo (σ := σ) hW hm
  have hw := e10_win (x := x) (lo := 0) (hi := 2) (zH E τ) hx0 hx1 (by omega) (by omega) (by omega) (by omega)
  by_cases hc : 0 ≤ x ∧ x ≤ 2
  · rw [if_pos hc, if_pos hc]
    rw [decide_eq_true hc] at hw
    obtain ⟨σ1, a1, a2⟩ := e10_whyNot_J20_0 hW hm h11 hn h00 hc.1 hc.2
    refine ⟨σ1, ?_, hT.q a2⟩
    simp (disch := first | assumption | omega) only [f_X10_whyNot, zp_md0 hW hm, hz, hw, a1, zz_some, zz_lit, zz_num, zI_lt, zI_le, zI_eq, zI_nat, zz_b, if_pos, if_neg, if_true, if_false]
    try simp
  · rw [if_neg hc, if_neg hc]
    rw [decide_eq_false hc] at hw
    have a1 := e10_whyNot_J20_1 (x := x) (y := 0) (z := 0) hW hm h00
    refine ⟨zth τ 1, ?_, hT.t (zT.th τ 1)⟩
    simp (disch := first | assumption | omega) only [f_X10_whyNot, zp_md0 hW hm, hz, hw, a1, zz_some, zz_lit, zz_num, zI_lt, zI_le, zI_eq, zI_nat, zz_b, if_pos, if_neg, if_true, if_false]
    try simp

theorem e10_block (hW : zWF E) (hm : zU E 3 0 = true) (h1 : σ 3 0 1 = n) (hn : nW n) {x y : Int} (hx0 : -2147483648 ≤ x) (hx1 : x < 2147483648) (hy0 : -2147483648 ≤ y) (hy1 : y < 2147483648) : ∃ σ', f_X10_block (zH E σ) (zL E 3 0 0) (zI y) (zI x) = some (zH E σ', zI (if 0 ≤ y ∧ y < n 0 then if 0 ≤ x ∧ x ≤ 6 then aBlock n y x else 0 else 0)) ∧ zT σ σ' (if 0 ≤ y ∧ y < n 0 then if 0 ≤ x ∧ x ≤ 6 then 0 else 2 else 1) := by
  obtain ⟨τ, hz⟩ : ∃ y, zs σ 3 0 0 0 0 = y := ⟨_, rfl⟩
  have hzt : zth σ 0 = τ := hz
  have hT : zT σ τ 0 := hzt ▸ zT.th σ 0
  have h11 : τ 3 0 1 = n := hT.n.trans h1
  have h00 : τ 3 0 0 0 = 0 := hT.2.2
  have hN' := hn.1.r
  have hmt := zz_mdo (σ := τ) hW hm
  have hms := zz_mdo (σ := σ) hW hm
  have hno := e10_noBlock (x := y) hW hm h1 hn hy0 hy1
  rw [hzt] at hno
  have hw := e10_win (x := x) (lo := 0) (hi := 6) (zH E τ) hx0 hx1 (by omega) (by omega) (by omega) (by omega)
  by_cases hi : 0 ≤ y ∧ y < n 0
  · rw [if_pos hi, if_pos hi]
    rw [if_pos hi] at hno
    by_cases hc : 0 ≤ x ∧ x ≤ 6
    · rw [if_pos hc, if_pos hc]
      rw [decide_eq_true hc] at hw
      obtain ⟨σ1, a1, a2⟩ := e10_block_J24_0 hW hm h11 hn h00 hc.1 hc.2 hi.1 hi.2
      refine ⟨σ1, ?_, hT.q a2⟩
      simp (disch := first | assumption | omega) only [f_X10_block, hms, hno, hw, a1, zz_some, zz_lit, zz_num, zI_lt, zI_le, zI_eq, zI_nat, zz_b, if_pos, if_neg, if_true, if_false]
      try simp
    · rw [if_neg hc, if_neg hc]
      rw [decide_eq_false hc] at hw
      have a1 := e10_block_J24_1 (x := x) (y := y) (z := 0) hW hm h00
      refine ⟨zth τ 2, ?_, hT.t (zT.th τ 2)⟩
      simp (disch := first | assumption | omega) only [f_X10_block, hms, hno, hw, a1, zz_some, zz_lit, zz_num, zI_lt, zI_le, zI_eq, zI_nat, zz_b, if_pos, if_neg, if_true, if_false]
      try simp
  · rw [if_neg hi, if_neg hi]
    rw [if_neg hi] at hno
    refine ⟨zth σ 1, ?_, zT.th σ 1⟩
    simp (disch := first | assumption | omega) only [f_X10_block, hms, hno, zz_some, zz_lit, zz_num, zI_lt, zI_le, zI_eq, zI_nat, zz_b, if_pos, if_neg, if_true, if_false]
    try simp

theorem e10_session (hW : zWF E) (hm : zU E 3 0 = true) (h1 : σ 3 0 1 = n) (hn : nW n) {x y : Int} (hx0 : -2147483648 ≤ x) (hx1 : x < 2147483648) (hy0 : -2147483648 ≤ y) (hy1 : y < 2147483648) : ∃ σ', f_X10_session (zH E σ) (zL E 3 0 0) (zI y) (zI x) = some (zH E σ', zI (if 0 ≤ y ∧ y < n 3 then if 0 ≤ x ∧ x ≤ 8 then aSession n y x else 0 else 0)) ∧ zT σ σ' (if 0 ≤ y ∧ y < n 3 then if 0 ≤ x ∧ x ≤ 8 then 0 else 2 else 1) := by
  obtain ⟨τ, hz⟩ : ∃ y, zs σ 3 0 0 0 0 = y := ⟨_, rfl⟩
  have hzt : zth σ 0 = τ := hz
  have hT : zT σ τ 0 := hzt ▸ zT.th σ 0
  have h11 : τ 3 0 1 = n := hT.n.trans h1
  have h00 : τ 3 0 0 0 = 0 := hT.2.2
  have hN' := hn.1.r
  have hmt := zz_mdo (σ := τ) hW hm
  have hms := zz_mdo (σ := σ) hW hm
  have hno := e10_noSession (x := y) hW hm h1 hn hy0 hy1
  rw [hzt] at hno
  have hw := e10_win (x := x) (lo := 0) (hi := 8) (zH E τ) hx0 hx1 (by omega) (by omega) (by omega) (by omega)
  by_cases hi : 0 ≤ y ∧ y < n 3
  · rw [if_pos hi, if_pos hi]
    rw [if_pos hi] at hno
    by_cases hc : 0 ≤ x ∧ x ≤ 8
    · rw [if_pos hc, if_pos hc]
      rw [decide_eq_true hc] at hw
      obtain ⟨σ1, a1, a2⟩ := e10_session_J24_0 hW hm h11 hn h00 hc.1 hc.2 hi.1 hi.2
      refine ⟨σ1, ?_, hT.q a2⟩
      simp (disch := first | assumption | omega) only [f_X10_session, hms, hno, hw, a1, zz_some, zz_lit, zz_num, zI_lt, zI_le, zI_eq, zI_nat, zz_b, if_pos, if_neg, if_true, if_false]
      try simp
    · rw [if_neg hc, if_neg hc]
      rw [decide_eq_false hc] at hw
      have a1 := e10_session_J24_1 (x := x) (y := y) (z := 0) hW hm h00
      refine ⟨zth τ 2, ?_, hT.t (zT.th τ 2)⟩
      simp (disch := first | assumption | omega) only [f_X10_session, hms, hno, hw, a1, zz_some, zz_lit, zz_num, zI_lt, zI_le, zI_eq, zI_nat, zz_b, if_pos, if_neg, if_true, if_false]
      try simp
  · rw [if_neg hi, if_neg hi]
    rw [if_neg hi] at hno
    refine ⟨zth σ 1, ?_, zT.th σ 1⟩
    simp (disch := first | assumption | omega) only [f_X10_session, hms, hno, zz_some, zz_lit, zz_num, zI_lt, zI_le, zI_eq, zI_nat, zz_b, if_pos, if_neg, if_true, if_false]
    try simp

theorem e10_entry (hW : zWF E) (hm : zU E 3 0 = true) (h1 : σ 3 0 1 = n) (hn : nW n) {x y : Int} (hx0 : -2147483648 ≤ x) (hx1 : x < 2147483648) (hy0 : -2147483648 ≤ y) (hy1 : y < 2147483648) {z : Int} (hz0 : -2147483648 ≤ z) (hz1 : z < 2147483648) : ∃ σ', f_X10_entry (zH E σ) (zL E 3 0 0) (zI y) (zI z) (zI x) = some (zH E σ', zI (if 0 ≤ y ∧ y < n 3 then if 0 ≤ x ∧ x ≤ 4 then aEntry n y z x else 0 else 0)) ∧ zT σ σ' (if 0 ≤ y ∧ y < n 3 then if 0 ≤ x ∧ x ≤ 4 then 0 else 2 else 1) := by
  obtain ⟨τ, hz⟩ : ∃ y, zs σ 3 0 0 0 0 = y := ⟨_, rfl⟩
  have hzt : zth σ 0 = τ := hz
  have hT : zT σ τ 0 := hzt ▸ zT.th σ 0
  have h11 : τ 3 0 1 = n := hT.n.trans h1
  have h00 : τ 3 0 0 0 = 0 := hT.2.2
  have hN' := hn.1.r
  have hmt := zz_mdo (σ := τ) hW hm
  have hms := zz_mdo (σ := σ) hW hm
  have hno := e10_noSession (x := y) hW hm h1 hn hy0 hy1
  rw [hzt] at hno
  have hw := e10_win (x := x) (lo := 0) (hi := 4) (zH E τ) hx0 hx1 (by omega) (by omega) (by omega) (by omega)
  by_cases hi : 0 ≤ y ∧ y < n 3
  · rw [if_pos hi, if_pos hi]
    rw [if_pos hi] at hno
    by_cases hc : 0 ≤ x ∧ x ≤ 4
    · rw [if_pos hc, if_pos hc]
      rw [decide_eq_true hc] at hw
      have a1 := e10_entry_J23_0 hW hm h11 hn h00 hc.1 hc.2 hi.1 hi.2 hz0 hz1
      refine ⟨τ, ?_, hT⟩
      simp (disch := first | assumption | omega) only [f_X10_entry, hms, hno, hw, a1, zz_some, zz_lit, zz_num, zI_lt, zI_le, zI_eq, zI_nat, zz_b, if_pos, if_neg, if_true, if_false]
      try simp
    · rw [if_neg hc, if_neg hc]
      rw [decide_eq_false hc] at hw
      have a1 := e10_entry_J23_1 (x := x) (y := y) (z := z) hW hm h00
      refine ⟨zth τ 2, ?_, hT.t (zT.th τ 2)⟩
      simp (disch := first | assumption | omega) only [f_X10_entry, hms, hno, hw, a1, zz_some, zz_lit, zz_num, zI_lt, zI_le, zI_eq, zI_nat, zz_b, if_pos, if_neg, if_true, if_false]
      try simp
  · rw [if_neg hi, if_neg hi]
    rw [if_neg hi] at hno
    refine ⟨zth σ 1, ?_, zT.th σ 1⟩
    simp (disch := first | assumption | omega) only [f_X10_entry, hms, hno, zz_some, zz_lit, zz_num, zI_lt, zI_le, zI_eq, zI_nat, zz_b, if_pos, if_neg, if_true, if_false]
    try simp

theorem e10_file (hW : zWF E) (hm : zU E 3 0 = true) (h1 : σ 3 0 1 = n) (hn : nW n) {x y : Int} (hx0 : -2147483648 ≤ x) (hx1 : x < 2147483648) (hy0 : -2147483648 ≤ y) (hy1 : y < 2147483648) : ∃ σ', f_X10_file (zH E σ) (zL E 3 0 0) (zI y) (zI x) = some (zH E σ', zI (if 0 ≤ y ∧ y < n 2 then if 0 ≤ x ∧ x ≤ 6 then aFile n y x else 0 else 0)) ∧ zT σ σ' (if 0 ≤ y ∧ y < n 2 then if 0 ≤ x ∧ x ≤ 6 then 0 else 2 else 1) := by
  obtain ⟨τ, hz⟩ : ∃ y, zs σ 3 0 0 0 0 = y := ⟨_, rfl⟩
  have hzt : zth σ 0 = τ := hz
  have hT : zT σ τ 0 := hzt ▸ zT.th σ 0
  have h11 : τ 3 0 1 = n := hT.n.trans h1
  have h00 : τ 3 0 0 0 = 0 := hT.2.2
  have hN' := hn.1.r
  have hmt := zz_mdo (σ := τ) hW hm
  have hms := zz_mdo (σ := σ) hW hm
  have hno := e10_noFile (x := y) hW hm h1 hn hy0 hy1
  rw [hzt] at hno
  have hw := e10_win (x := x) (lo := 0) (hi := 6) (zH E τ) hx0 hx1 (by omega) (by omega) (by omega) (by omega)
  by_cases hi : 0 ≤ y ∧ y < n 2
  · rw [if_pos hi, if_pos hi]
    rw [if_pos hi] at hno
    by_cases hc : 0 ≤ x ∧ x ≤ 6
    · rw [if_pos hc, if_pos hc]
      rw [decide_eq_true hc] at hw
      obtain ⟨σ1, a1, a2⟩ := e10_file_J24_0 hW hm h11 hn h00 hc.1 hc.2 hi.1 hi.2
      refine ⟨σ1, ?_, hT.q a2⟩
      simp (disch := first | assumption | omega) only [f_X10_file, hms, hno, hw, a1, zz_some, zz_lit, zz_num, zI_lt, zI_le, zI_eq, zI_nat, zz_b, if_pos, if_neg, if_true, if_false]
      try simp
    · rw [if_neg hc, if_neg hc]
      rw [decide_eq_false hc] at hw
      have a1 := e10_file_J24_1 (x := x) (y := y) (z := 0) hW hm h00
      refine ⟨zth τ 2, ?_, hT.t (zT.th τ 2)⟩
      simp (disch := first | assumption | omega) only [f_X10_file, hms, hno, hw, a1, zz_some, zz_lit, zz_num, zI_lt, zI_le, zI_eq, zI_nat, zz_b, if_pos, if_neg, if_true, if_false]
      try simp
  · rw [if_neg hi, if_neg hi]
    rw [if_neg hi] at hno
    refine ⟨zth σ 1, ?_, zT.th σ 1⟩
    simp (disch := first | assumption | omega) only [f_X10_file, hms, hno, zz_some, zz_lit, zz_num, zI_lt, zI_le, zI_eq, zI_nat, zz_b, if_pos, if_neg, if_true, if_false]
    try simp

theorem e10_whyNotWrite (hW : zWF E) (hm : zU E 3 0 = true) (h1 : σ 3 0 1 = n) (hn : nW n) {x y : Int} (hx0 : -2147483648 ≤ x) (hx1 : x < 2147483648) (hy0 : -2147483648 ≤ y) (hy1 : y < 2147483648) : ∃ σ', f_X10_whyNotWrite (zH E σ) (zL E 3 0 0) (zI y) (zI x) = some (zH E σ', zI (if 0 ≤ y ∧ y < n 2 then if 1 ≤ x ∧ x ≤ 8 then nWw n y x else 0 else 0)) ∧ zT σ σ' (if 0 ≤ y ∧ y < n 2 then if 1 ≤ x ∧ x ≤ 8 then 0 else 2 else 1) := by
  obtain ⟨τ, hz⟩ : ∃ y, zs σ 3 0 0 0 0 = y := ⟨_, rfl⟩
  have hzt : zth σ 0 = τ := hz
  have hT : zT σ τ 0 := hzt ▸ zT.th σ 0
  have h11 : τ 3 0 1 = n := hT.n.trans h1
  have h00 : τ 3 0 0 0 = 0 := hT.2.2
  have hN' := hn.1.r
  have hmt := zz_mdo (σ := τ) hW hm
  have hms := zz_mdo (σ := σ) hW hm
  have hno := e10_noFile (x := y) hW hm h1 hn hy0 hy1
  rw [hzt] at hno
  have hw := e10_win (x := x) (lo := 1) (hi := 8) (zH E τ) hx0 hx1 (by omega) (by omega) (by omega) (by omega)
  by_cases hi : 0 ≤ y ∧ y < n 2
  · rw [if_pos hi, if_pos hi]
    rw [if_pos hi] at hno
    by_cases hc : 1 ≤ x ∧ x ≤ 8
    · rw [if_pos hc, if_pos hc]
      rw [decide_eq_true hc] at hw
      have a1 := e10_whyNotWrite_J24_0 hW hm h11 hn h00 hc.1 hc.2 hi.1 hi.2
      refine ⟨τ, ?_, hT⟩
      simp (disch := first | assumption | omega) only [f_X10_whyNotWrite, hms, hno, hw, a1, zz_some, zz_lit, zz_num, zI_lt, zI_le, zI_eq, zI_nat, zz_b, if_pos, if_neg, if_true, if_false]
      try simp
    · rw [if_neg hc, if_neg hc]
      rw [decide_eq_false hc] at hw
      have a1 := e10_whyNotWrite_J24_1 (x := x) (y := y) (z := 0) hW hm h00
      refine ⟨zth τ 2, ?_, hT.t (zT.th τ 2)⟩
      simp (disch := first | assumption | omega) only [f_X10_whyNotWrite, hms, hno, hw, a1, zz_some, zz_lit, zz_num, zI_lt, zI_le, zI_eq, zI_nat, zz_b, if_pos, if_neg, if_true, if_false]
      try simp
  · rw [if_neg hi, if_neg hi]
    rw [if_neg hi] at hno
    refine ⟨zth σ 1, ?_, zT.th σ 1⟩
    simp (disch := first | assumption | omega) only [f_X10_whyNotWrite, hms, hno, zz_some, zz_lit, zz_num, zI_lt, zI_le, zI_eq, zI_nat, zz_b, if_pos, if_neg, if_true, if_false]
    try simp

theorem e10_spaceOf (hW : zWF E) (hm : zU E 3 0 = true) (h1 : σ 3 0 1 = n) (hn : nW n) {x y : Int} (hx0 : -2147483648 ≤ x) (hx1 : x < 2147483648) (hy0 : -2147483648 ≤ y) (hy1 : y < 2147483648) : ∃ σ', f_X10_spaceOf (zH E σ) (zL E 3 0 0) (zI y) (zI x) = some (zH E σ', zI (if 0 ≤ y ∧ y < n 3 then if 1 ≤ x ∧ x ≤ 4 then nSp n y x else 0 else 0)) ∧ zT σ σ' (if 0 ≤ y ∧ y < n 3 then if 1 ≤ x ∧ x ≤ 4 then 0 else 2 else 1) := by
  obtain ⟨τ, hz⟩ : ∃ y, zs σ 3 0 0 0 0 = y := ⟨_, rfl⟩
  have hzt : zth σ 0 = τ := hz
  have hT : zT σ τ 0 := hzt ▸ zT.th σ 0
  have h11 : τ 3 0 1 = n := hT.n.trans h1
  have h00 : τ 3 0 0 0 = 0 := hT.2.2
  have hN' := hn.1.r
  have hmt := zz_mdo (σ := τ) hW hm
  have hms := zz_mdo (σ := σ) hW hm
  have hno := e10_noSession (x := y) hW hm h1 hn hy0 hy1
  rw [hzt] at hno
  have hw := e10_win (x := x) (lo := 1) (hi := 4) (zH E τ) hx0 hx1 (by omega) (by omega) (by omega) (by omega)
  by_cases hi : 0 ≤ y ∧ y < n 3
  · rw [if_pos hi, if_pos hi]
    rw [if_pos hi] at hno
    by_cases hc : 1 ≤ x ∧ x ≤ 4
    · rw [if_pos hc, if_pos hc]
      rw [decide_eq_true hc] at hw
      obtain ⟨σ1, a1, a2⟩ := e10_spaceOf_J23_0 hW hm h11 hn h00 hc.1 hc.2 hi.1 hi.2
      refine ⟨σ1, ?_, hT.q a2⟩
      simp (disch := first | assumption | omega) only [f_X10_spaceOf, hms, hno, hw, a1, zz_some, zz_lit, zz_num, zI_lt, zI_le, zI_eq, zI_nat, zz_b, if_pos, if_neg, if_true, if_false]
      try simp
    · rw [if_neg hc, if_neg hc]
      rw [decide_eq_false hc] at hw
      have a1 := e10_spaceOf_J23_1 (x := x) (y := y) (z := 0) hW hm h00
      refine ⟨zth τ 2, ?_, hT.t (zT.th τ 2)⟩
      simp (disch := first | assumption | omega) only [f_X10_spaceOf, hms, hno, hw, a1, zz_some, zz_lit, zz_num, zI_lt, zI_le, zI_eq, zI_nat, zz_b, if_pos, if_neg, if_true, if_false]
      try simp
  · rw [if_neg hi, if_neg hi]
    rw [if_neg hi] at hno
    refine ⟨zth σ 1, ?_, zT.th σ 1⟩
    simp (disch := first | assumption | omega) only [f_X10_spaceOf, hms, hno, zz_some, zz_lit, zz_num, zI_lt, zI_le, zI_eq, zI_nat, zz_b, if_pos, if_neg, if_true, if_false]
    try simp

theorem e10_place (hW : zWF E) (hm : zU E 3 0 = true) (h1 : σ 3 0 1 = n) (hn : nW n) {y : Int} (hy0 : -2147483648 ≤ y) (hy1 : y < 2147483648) : ∃ σ', f_X10_place (zH E σ) (zL E 3 0 0) (zI y) = some (zH E σ', zI (if 0 ≤ y ∧ y < n 0 then aPlace n y else 0)) ∧ zT σ σ' (if 0 ≤ y ∧ y < n 0 then 0 else 1) := by
  obtain ⟨τ, hz⟩ : ∃ y, zs σ 3 0 0 0 0 = y := ⟨_, rfl⟩
  have hzt : zth σ 0 = τ := hz
  have hT : zT σ τ 0 := hzt ▸ zT.th σ 0
  have h11 : τ 3 0 1 = n := hT.n.trans h1
  have h00 : τ 3 0 0 0 = 0 := hT.2.2
  have hN' := hn.1.r
  have hmt := zz_mdo (σ := τ) hW hm
  have hms := zz_mdo (σ := σ) hW hm
  have hno := e10_noBlock (x := y) hW hm h1 hn hy0 hy1
  rw [hzt] at hno
  by_cases hi : 0 ≤ y ∧ y < n 0
  · rw [if_pos hi, if_pos hi]
    rw [if_pos hi] at hno
    have hi0 := hi.1
    have hi1 := hi.2
    have hmn := e10_isMain hW hm h11 hn.1 hi0 (by omega)
    have hpl := e10_placeOf hW hm h11 hn.1 hn.2.1 hi0 (by omega)
    have hbk := hn.2.1 y hi0 (by omega)
    refine ⟨τ, ?_, hT⟩
    unfold aPlace
    by_cases hc : y < n 0 - n 1
    · rw [decide_eq_true hc] at hmn
      rw [if_pos hc]
      by_cases hk : n (7 + y) = 0
      · rw [if_pos hk]
        simp (disch := first | assumption | omega) only [f_X10_place, hms, hmt, hno, hmn, hpl, zz_ra hW hm, h11, hk, zz_some, zz_lit, zz_num, zI_lt, zI_le, zI_eq, zI_nat, zz_b, if_pos, if_neg, if_true, if_false]
        try simp
      · rw [if_neg hk]
        simp (disch := first | assumption | omega) only [f_X10_place, hms, hmt, hno, hmn, hpl, zz_ra hW hm, h11, zz_some, zz_lit, zz_num, zI_lt, zI_le, zI_eq, zI_nat, zz_b, if_pos, if_neg, if_true, if_false]
        try simp [hk]
    · rw [decide_eq_false hc] at hmn
      rw [if_neg hc]
      simp (disch := first | assumption | omega) only [f_X10_place, hms, hmt, hno, hmn, zz_some, zz_lit, zz_num, zI_lt, zI_le, zI_eq, zI_nat, zz_b, if_pos, if_neg, if_true, if_false]
      try simp
  · rw [if_neg hi, if_neg hi]
    rw [if_neg hi] at hno
    refine ⟨zth σ 1, ?_, zT.th σ 1⟩
    simp (disch := first | assumption | omega) only [f_X10_place, hms, hno, zz_some, zz_lit, zz_num, zI_lt, zI_le, zI_eq, zI_nat, zz_b, if_pos, if_neg, if_true, if_false]
    try simp

theorem e10_risk (hW : zWF E) (hm : zU E 3 0 = true) (h1 : σ 3 0 1 = n) (hn : nW n) {y : Int} (hy0 : -2147483648 ≤ y) (hy1 : y < 2147483648) : ∃ σ', f_X10_risk (zH E σ) (zL E 3 0 0) (zI y) = some (zH E σ', zI (if 0 ≤ y ∧ y < n 0 then nRk n y else 0)) ∧ zT σ σ' (if 0 ≤ y ∧ y < n 0 then 0 else 1) := by
  obtain ⟨τ, hz⟩ : ∃ y, zs σ 3 0 0 0 0 = y := ⟨_, rfl⟩
  have hzt : zth σ 0 = τ := hz
  have hT : zT σ τ 0 := hzt ▸ zT.th σ 0
  have h11 : τ 3 0 1 = n := hT.n.trans h1
  have h00 : τ 3 0 0 0 = 0 := hT.2.2
  have hN' := hn.1.r
  have hmt := zz_mdo (σ := τ) hW hm
  have hms := zz_mdo (σ := σ) hW hm
  have hno := e10_noBlock (x := y) hW hm h1 hn hy0 hy1
  rw [hzt] at hno
  by_cases hi : 0 ≤ y ∧ y < n 0
  · rw [if_pos hi, if_pos hi]
    rw [if_pos hi] at hno
    have hi0 := hi.1
    have hi1 := hi.2
    obtain ⟨σ1, a1, a2⟩ := e10_riskOf hW hm h11 hn hi0 hi1
    refine ⟨σ1, ?_, hT.q a2⟩
    simp (disch := first | assumption | omega) only [f_X10_risk, hms, hmt, hno, a1, zz_some, zz_lit, zz_num, zI_lt, zI_le, zI_eq, zI_nat, zz_b, if_pos, if_neg, if_true, if_false]
    try simp
  · rw [if_neg hi, if_neg hi]
    rw [if_neg hi] at hno
    refine ⟨zth σ 1, ?_, zT.th σ 1⟩
    simp (disch := first | assumption | omega) only [f_X10_risk, hms, hno, zz_some, zz_lit, zz_num, zI_lt, zI_le, zI_eq, zI_nat, zz_b, if_pos, if_neg, if_true, if_false]
    try simp

theorem e10_filesBefore (hW : zWF E) (hm : zU E 3 0 = true) (h1 : σ 3 0 1 = n) (hn : nW n) {y : Int} (hy0 : -2147483648 ≤ y) (hy1 : y < 2147483648) : ∃ σ', f_X10_filesBefore (zH E σ) (zL E 3 0 0) (zI y) = some (zH E σ', zI (if 0 ≤ y ∧ y < n 3 then nTh n y else 0)) ∧ zT σ σ' (if 0 ≤ y ∧ y < n 3 then 0 else 1) := by
  obtain ⟨τ, hz⟩ : ∃ y, zs σ 3 0 0 0 0 = y := ⟨_, rfl⟩
  have hzt : zth σ 0 = τ := hz
  have hT : zT σ τ 0 := hzt ▸ zT.th σ 0
  have h11 : τ 3 0 1 = n := hT.n.trans h1
  have h00 : τ 3 0 0 0 = 0 := hT.2.2
  have hN' := hn.1.r
  have hmt := zz_mdo (σ := τ) hW hm
  have hms := zz_mdo (σ := σ) hW hm
  have hno := e10_noSession (x := y) hW hm h1 hn hy0 hy1
  rw [hzt] at hno
  by_cases hi : 0 ≤ y ∧ y < n 3
  · rw [if_pos hi, if_pos hi]
    rw [if_pos hi] at hno
    have hi0 := hi.1
    have hi1 := hi.2
    obtain ⟨σ1, a1, a2⟩ := e10_filesThere (y := y) hW hm h11 hn hi0 (by omega)
    refine ⟨σ1, ?_, hT.q a2⟩
    simp (disch := first | assumption | omega) only [f_X10_filesBefore, hms, hmt, hno, a1, zz_some, zz_lit, zz_num, zI_lt, zI_le, zI_eq, zI_nat, zz_b, if_pos, if_neg, if_true, if_false]
    try simp
  · rw [if_neg hi, if_neg hi]
    rw [if_neg hi] at hno
    refine ⟨zth σ 1, ?_, zT.th σ 1⟩
    simp (disch := first | assumption | omega) only [f_X10_filesBefore, hms, hno, zz_some, zz_lit, zz_num, zI_lt, zI_le, zI_eq, zI_nat, zz_b, if_pos, if_neg, if_true, if_false]
    try simp

theorem e10_where (hW : zWF E) (hm : zU E 3 0 = true) (h1 : σ 3 0 1 = n) (hn : nW n) {y : Int} (hy0 : -2147483648 ≤ y) (hy1 : y < 2147483648) {z : Int} (hz0 : -2147483648 ≤ z) (hz1 : z < 2147483648) : ∃ σ', f_X10_where (zH E σ) (zL E 3 0 0) (zI y) (zI z) = some (zH E σ', zI (if 0 ≤ y ∧ y < n 2 then aWhere n y z else 0)) ∧ zT σ σ' (if 0 ≤ y ∧ y < n 2 then 0 else 1) := by
  obtain ⟨τ, hz⟩ : ∃ y, zs σ 3 0 0 0 0 = y := ⟨_, rfl⟩
  have hzt : zth σ 0 = τ := hz
  have hT : zT σ τ 0 := hzt ▸ zT.th σ 0
  have h11 : τ 3 0 1 = n := hT.n.trans h1
  have h00 : τ 3 0 0 0 = 0 := hT.2.2
  have hN' := hn.1.r
  have hmt := zz_mdo (σ := τ) hW hm
  have hms := zz_mdo (σ := σ) hW hm
  have hno := e10_noFile (x := y) hW hm h1 hn hy0 hy1
  rw [hzt] at hno
  by_cases hi : 0 ≤ y ∧ y < n 2
  · rw [if_pos hi, if_pos hi]
    rw [if_pos hi] at hno
    have hi0 := hi.1
    have hi1 := hi.2
    have hf := nFv_rng hn y 12
    obtain ⟨σ1, a1, a2, a3, a4⟩ := e10_finds (x := y) hW hm h11 hn hi0 (by omega)
    have h12 := a2.n.trans h11
    have g20 := zg_md20 (σ := σ1) hW hm
    rw [a4] at g20
    have hm1 := zz_mdo (σ := σ1) hW hm
    refine ⟨σ1, ?_, hT.q a2⟩
    unfold aWhere
    by_cases hv : nFv n y 12 = -1
    · rw [if_pos hv]
      rw [hv] at g20
      simp (disch := first | assumption | omega) only [f_X10_where, f_X10_where_J47, hms, hmt, hm1, hno, a1, g20, zz_some, zz_lit, zz_num, zI_lt, zI_le, zI_eq, zI_nat, zz_b, if_pos, if_neg, if_true, if_false]
      try simp
    · rw [if_neg hv]
      have hvs := hn.2.2.1.2 (nFv n y 12) (by omega) (by omega)
      have o2 := e10_ofVersion (v := nFv n y 12) (w := 2) hW hm h12 (by omega) (by omega) (by omega) (by omega)
      have o1 := e10_ofVersion (v := nFv n y 12) (w := 1) hW hm h12 (by omega) (by omega) (by omega) (by omega)
      have hw := e10_win (x := z) (lo := 0) (hi := nV n (nFv n y 12) 2 - 1) (zH E σ1) hz0 hz1 (by omega) (by omega) (by omega) (by omega)
      by_cases hc : 0 ≤ z ∧ z < nV n (nFv n y 12) 2
      · rw [if_pos hc]
        rw [decide_eq_true (by omega)] at hw
        have hpl := e10_placeOf (b := nV n (nFv n y 12) 1 + z) hW hm h12 hn.1 hn.2.1 (by omega) (by omega)
        simp (disch := first | assumption | omega) only [f_X10_where, f_X10_where_J47, hms, hmt, hm1, hno, a1, g20, o2, o1, hw, hpl, zz_some, zz_lit, zz_num, zI_lt, zI_le, zI_eq, zI_nat, zz_b, if_pos, if_neg, if_true, if_false]
        try simp
      · rw [if_neg hc]
        rw [decide_eq_false (by omega)] at hw
        simp (disch := first | assumption | omega) only [f_X10_where, f_X10_where_J47, hms, hmt, hm1, hno, a1, g20, o2, o1, hw, zz_some, zz_lit, zz_num, zI_lt, zI_le, zI_eq, zI_nat, zz_b, if_pos, if_neg, if_true, if_false]
        try simp
  · rw [if_neg hi, if_neg hi]
    rw [if_neg hi] at hno
    refine ⟨zth σ 1, ?_, zT.th σ 1⟩
    simp (disch := first | assumption | omega) only [f_X10_where, hms, hno, zz_some, zz_lit, zz_num, zI_lt, zI_le, zI_eq, zI_nat, zz_b, if_pos, if_neg, if_true, if_false]
    try simp

theorem e10_defect (hW : zWF E) (hm : zU E 3 0 = true) (h1 : σ 3 0 1 = n) (hn : nW n) {x : Int} (hx0 : -2147483648 ≤ x) (hx1 : x < 2147483648) {w : Bool} : ∃ σ', f_X10_defect (zH E σ) (zL E 3 0 0) (zI x) (zI (zb w)) = some (zH E σ', zI (aDefect n x w)) ∧ zT σ σ' 0 := by
  obtain ⟨τ, hz⟩ : ∃ y, zs σ 3 0 0 0 0 = y := ⟨_, rfl⟩
  have hzt : zth σ 0 = τ := hz
  have hT : zT σ τ 0 := hzt ▸ zT.th σ 0
  have h11 : τ 3 0 1 = n := hT.n.trans h1
  have h00 : τ 3 0 0 0 = 0 := hT.2.2
  have hN' := hn.1.r
  have hmt := zz_mdo (σ := τ) hW hm
  have hms := zz_mdo (σ := σ) hW hm
  have hmn := e10_mainMany hW hm h11 hn.1
  refine ⟨τ, ?_, hT⟩
  unfold aDefect
  by_cases hc : x < 0
  · rw [if_pos hc]
    obtain ⟨f, hf⟩ : ∃ f, g_N = f + 1 := ⟨4095, rfl⟩
    simp (disch := first | assumption | omega) only [f_X10_defect, zp_md0 hW hm, hz, zz_some, zz_lit, zz_num, zI_lt, zI_le, zI_eq, zI_nat, zz_b, if_pos, if_neg, if_true, if_false]
    rw [hf]
    simp (disch := first | assumption | omega) only [f_X10_defect_L10, hmt, hmn, zz_some, zz_lit, zz_num, zI_lt, zI_le, zI_eq, zI_nat, zz_b, if_pos, if_neg, if_true, if_false]
    try split
    all_goals rfl
  · rw [if_neg hc]
    have h := e10_defect_L (w := w) hW hm h11 hn (n 0 - n 1).toNat g_N x 0 (by omega) (by omega) (by unfold g_N; omega) (by omega) hx1
    simp (disch := first | assumption | omega) only [f_X10_defect, zp_md0 hW hm, hz, h, zz_some, zz_lit, zz_num, zI_lt, zI_le, zI_eq, zI_nat, zz_b, if_pos, if_neg, if_true, if_false]
theorem e10_couldRecover (hW : zWF E) (hm : zU E 3 0 = true) (h1 : σ 3 0 1 = n) (hn : nW n) : ∃ σ', f_X10_couldRecover (zH E σ) (zL E 3 0 0) = some (zH E σ', zI ((nCo n).length : Int)) ∧ zT σ σ' 0 := by
  obtain ⟨τ, hz⟩ : ∃ y, zs σ 3 0 0 0 0 = y := ⟨_, rfl⟩
  have hzt : zth σ 0 = τ := hz
  have hT : zT σ τ 0 := hzt ▸ zT.th σ 0
  have h11 : τ 3 0 1 = n := hT.n.trans h1
  have h00 : τ 3 0 0 0 = 0 := hT.2.2
  have hN' := hn.1.r
  have hmt := zz_mdo (σ := τ) hW hm
  have hms := zz_mdo (σ := σ) hW hm
  obtain ⟨σ1, a1, a2, a3⟩ := e10_findsLost hW hm h11 hn
  have g22 := zg_md22 (σ := σ1) hW hm
  rw [a3.1] at g22
  refine ⟨σ1, ?_, hT.q a2⟩
  simp (disch := first | assumption | omega) only [f_X10_couldRecover, zp_md0 hW hm, hz, hmt, a1, g22, zz_some, zz_lit, zz_num, zI_lt, zI_le, zI_eq, zI_nat, zz_b, if_pos, if_neg, if_true, if_false]
theorem nRk_rng (n : zN) (b : Int) : 0 ≤ nRk n b ∧ nRk n b ≤ (n 2).toNat := by
  unfold nRk
  split
  · omega
  · exact zcn_rng _ _ _
theorem e10_weakest_L (hW : zWF E) (hm : zU E 3 0 = true) (hn : nW n) : ∀ (m fuel : Nat) (σ : zW) (b w r : Int), σ 3 0 1 = n → 0 ≤ b → b + m = n 0 → m < fuel → 0 ≤ r → r ≤ 100 → ∃ σ', f_X10_weakest_L11 fuel (zH E σ) (zL E 3 0 0) (zI w) (zI r) (zI b) = some (zH E σ', zI (zwk (nRk n) m b w r)) ∧ zQ σ σ' := by
  have hN' := hn.1.r
  intro m
  induction m with
  | zero =>
    intro fuel σ b w r h1 hb0 hb1 hf hr0 hr1
    obtain ⟨f, rfl, h4⟩ := zfuel hf
    refine ⟨σ, ?_, zQ.rf⟩
    simp (disch := first | assumption | omega) only [f_X10_weakest_L11, zwk, zz_mdo hW hm, zz_ra hW hm, h1, zz_some, zz_lit, zz_num, zI_lt, zI_le, zI_eq, zI_nat, zz_b, if_pos, if_neg, if_true, if_false]
  | succ m ih =>
    intro fuel σ b w r h1 hb0 hb1 hf hr0 hr1
    obtain ⟨f, rfl, h4⟩ := zfuel hf
    obtain ⟨σ1, a1, a2⟩ := e10_riskOf hW hm h1 hn hb0 (by omega)
    have hk := nRk_rng n b
    have h11 := a2.n.trans h1
    by_cases hc : nRk n b ≤ r
    · obtain ⟨σ2, b1, b2⟩ := ih f σ1 (b + 1) w r h11 (by omega) (by omega) (by omega) hr0 hr1
      refine ⟨σ2, ?_, a2.tr b2⟩
      rw [zwk, if_pos hc]
      simp (disch := first | assumption | omega) only [f_X10_weakest_L11, f_X10_weakest_J39, a1, b1, zz_mdo hW hm, zz_ra hW hm, h1, zz_some, zz_lit, zz_num, zI_lt, zI_le, zI_eq, zI_nat, zz_b, if_pos, if_neg, if_true, if_false]
    · obtain ⟨σ2, b1, b2⟩ := ih f σ1 (b + 1) b (nRk n b) h11 (by omega) (by omega) (by omega) (by omega) (by omega)
      refine ⟨σ2, ?_, a2.tr b2⟩
      rw [zwk, if_neg hc]
      simp (disch := first | assumption | omega) only [f_X10_weakest_L11, f_X10_weakest_J39, a1, b1, zz_mdo hW hm, zz_ra hW hm, h1, zz_some, zz_lit, zz_num, zI_lt, zI_le, zI_eq, zI_nat, zz_b, if_pos, if_neg, if_true, if_false]
theorem e10_weakest (hW : zWF E) (hm : zU E 3 0 = true) (h1 : σ 3 0 1 = n) (hn : nW n) : ∃ σ', f_X10_weakest (zH E σ) (zL E 3 0 0) = some (zH E σ', zI (zwk (nRk n) (n 0).toNat 0 0 0)) ∧ zT σ σ' 0 := by
  obtain ⟨τ, hz⟩ : ∃ y, zs σ 3 0 0 0 0 = y := ⟨_, rfl⟩
  have hzt : zth σ 0 = τ := hz
  have hT : zT σ τ 0 := hzt ▸ zT.th σ 0
  have h11 : τ 3 0 1 = n := hT.n.trans h1
  have h00 : τ 3 0 0 0 = 0 := hT.2.2
  have hN' := hn.1.r
  have hmt := zz_mdo (σ := τ) hW hm
  have hms := zz_mdo (σ := σ) hW hm
  obtain ⟨σ1, a1, a2⟩ := e10_weakest_L hW hm hn (n 0).toNat g_N τ 0 0 0 h11 (by omega) (by omega) (by unfold g_N; omega) (by omega) (by omega)
  refine ⟨σ1, ?_, hT.q a2⟩
  simp (disch := first | assumption | omega) only [f_X10_weakest, zp_md0 hW hm, hz, a1, zz_some, zz_lit, zz_num, zI_lt, zI_le, zI_eq, zI_nat, zz_b, if_pos, if_neg, if_true, if_false]

end zMod

/-! The law's own disc: its reads are the state's (first part: numbers, sessions, room, reasons). -/
section yC
variable {E : zE} {σ : zW} {n : zN}
theorem yl_main (hW : zWF E) (h : yR E σ n) : f_X10_main (zH E σ) (zL E 5 0 0) = some (zI (n 0 - n 1)) := by
  simp (disch := first | assumption | omega) only [f_X10_main, yN hW h, zz_some, zz_nul, zz_lit, zz_num, zI_lt, zI_le, zI_eq, zI_nat, zz_b, if_pos, if_neg, if_true, if_false]
theorem yl_ob (hW : zWF E) (h : yR E σ n) : g_ob (zH E σ) (zL E 5 0 0) 10 = some () := by
  simp only [zz_ldo (σ := σ) hW h.u]
theorem nOp_if (n : zN) : nOp n = true ↔ 0 ≤ nLa n ∧ nS n (nLa n) 0 = 0 := by simp [nOp]
theorem yl_open (hW : zWF E) (h : yR E σ n) (hn : nW n) : f_X10_open (zH E σ) (zL E 5 0 0) = some (if nOp n = true then some (ySe E (nLa n)) else none) := by
  have hN := hn.1.r
  by_cases h3 : n 3 ≤ 0
  · have : ¬ nOp n = true := fun z => by have := ((nOp_if n).mp z).1; unfold nLa at this; omega
    rw [if_neg this]
    simp (disch := first | assumption | omega) only [f_X10_open, yN hW h, zz_some, zz_nul, zz_lit, zz_num, zI_lt, zI_le, zI_eq, zI_nat, zz_b, if_pos, if_neg, if_true, if_false]
  · have hs := (yS hW h hn (s := nLa n) (by unfold nLa; omega) (by unfold nLa; omega)).1
    have hs0 := hn.2.2.2 (nLa n) (by unfold nLa; omega) (by unfold nLa; omega)
    have ha := (yAll hW h hn.1).2 (nLa n) (by unfold nLa; omega) (by unfold nLa; omega)
    have e : n 3 - 1 = nLa n := rfl
    by_cases h0 : nS n (nLa n) 0 = 0
    · rw [if_pos ((nOp_if n).mpr ⟨by unfold nLa; omega, h0⟩)]
      simp (disch := first | assumption | omega) only [f_X10_open, yN hW h, zz_ldo hW h.u, e, ha, hs, h0, zz_some, zz_nul, zz_lit, zz_num, zI_lt, zI_le, zI_eq, zI_nat, zz_b, if_pos, if_neg, if_true, if_false]
    · rw [if_neg (fun z => h0 ((nOp_if n).mp z).2)]
      simp (disch := first | assumption | omega) only [f_X10_open, yN hW h, zz_ldo hW h.u, e, ha, hs, h0, zz_some, zz_nul, zz_lit, zz_num, zI_lt, zI_le, zI_eq, zI_nat, zz_b, if_pos, if_neg, if_true, if_false]
theorem yl_find_L (hW : zWF E) (h : yR E σ n) (hn : nW n) {s f : Int} (s0 : 0 ≤ s) (s1 : s < n 3) (f0 : 0 ≤ f) (f1 : f < 100) : ∀ (m fuel : Nat) (k : Int), 0 ≤ k → k + m = nS n s 2 → m < fuel → f_X12_find_L2 (zH E σ) fuel (ySe E s) (zI f) (zI k) = some (zI (zfs (fun k => decide (nS n s (5 + 2 * k) = f)) k m)) := by
  have hN := hn.1.r
  have he := hn.2.2.2.ent hn.1 s0 s1
  have hs := yS hW h hn s0 s1
  have hr := (ySr hW h hn s0 s1).1
  intro m
  induction m with
  | zero =>
    intro fuel k h0 h1 h2
    obtain ⟨g, rfl, h5⟩ := zfuel h2
    simp (disch := first | assumption | omega) only [f_X12_find_L2, hs.1, zfs, zz_some, zz_nul, zz_lit, zz_num, zI_lt, zI_le, zI_eq, zI_nat, zz_b, if_pos, if_neg, if_true, if_false]
  | succ m ih =>
    intro fuel k h0 h1 h2
    obtain ⟨g, rfl, h5⟩ := zfuel h2
    have hk := (hn.2.2.2 s s0 s1).2.2.2.2.2.2 k h0 (by omega)
    by_cases hf : nS n s (5 + 2 * k) = f
    · simp (disch := first | assumption | omega) only [f_X12_find_L2, hs.1, hs.2, hr, hf, zfs, decide_true, zz_some, zz_nul, zz_lit, zz_num, zI_lt, zI_le, zI_eq, zI_nat, zz_b, if_pos, if_neg, if_true, if_false]
    · simp (disch := first | assumption | omega) only [f_X12_find_L2, hs.1, hs.2, hr, hf, zfs, decide_false, ih, Bool.false_eq_true, zz_some, zz_nul, zz_lit, zz_num, zI_lt, zI_le, zI_eq, zI_nat, zz_b, if_pos, if_neg, if_true, if_false]
theorem yl_find (hW : zWF E) (h : yR E σ n) (hn : nW n) {s f : Int} (s0 : 0 ≤ s) (s1 : s < n 3) (f0 : 0 ≤ f) (f1 : f < 100) : f_X12_find (zH E σ) (ySe E s) (zI f) = some (zI (nEn n s f)) := by
  have hN := hn.1.r
  have he := hn.2.2.2.ent hn.1 s0 s1
  have := yl_find_L hW h hn s0 s1 f0 f1 (nS n s 2).toNat g_N 0 (by omega) (by omega) (by unfold g_N; omega)
  exact this
theorem yl_size (hW : zWF E) (h : yR E σ n) (hn : nW n) {s : Int} (s0 : 0 ≤ s) (s1 : s < n 3) : f_X12_size (zH E σ) (ySe E s) = some (zI ((nS n s 2 + 3).tdiv 4)) := by
  have hN := hn.1.r
  have he := hn.2.2.2.ent hn.1 s0 s1
  have hs := (yS hW h hn s0 s1).1
  simp (disch := first | assumption | omega) only [f_X12_size, hs, zI_div, zz_some, zz_nul, zz_lit, zz_num, zI_lt, zI_le, zI_eq, zI_nat, zz_b, if_pos, if_neg, if_true, if_false]
/-- as long as a directory is -/
theorem nDl_div {e : Int} (h : 1 ≤ e) : (e + 3).tdiv 4 = nDl e := by
  unfold nDl
  rw [Int.tdiv_eq_ediv_of_nonneg (by omega), Int.tdiv_eq_ediv_of_nonneg (by omega)]
  omega
theorem yl_spares_L51 (hW : zWF E) (h : yR E σ n) (hn : nW n) {x g : Int} (hx0 : 0 ≤ x) (hx1 : n 4 + x ≤ n 0 - n 1) (g0 : 0 ≤ g) (g1 : g < 1000) : ∀ (m fuel : Nat) (acc b : Int), 0 ≤ b → b + m = x → m < fuel → 0 ≤ acc → acc + m < 500 → f_X10_spares_L51 (zH E σ) fuel (zL E 5 0 0) (zI x) (zI g) (zI acc) (zI b) = some (zI (zb (decide (acc + zcn (fun b => decide (n (103 + b) = 1)) (n 4 + b) m ≤ g)))) := by
  have hN := hn.1.r
  have hb4 := (yB hW h).2.2.2.2.2.1
  intro m
  induction m with
  | zero =>
    intro fuel acc b h0 h1 h2 h3 h4
    obtain ⟨f, rfl, h5⟩ := zfuel h2
    have e : acc + zcn (fun b => decide (n (103 + b) = 1)) (n 4 + b) 0 = acc := by simp [zcn]
    rw [e]
    simp (disch := first | assumption | omega) only [f_X10_spares_L51, zz_some, zz_nul, zz_lit, zz_num, zI_lt, zI_le, zI_eq, zI_nat, zz_b, if_pos, if_neg, if_true, if_false]
    by_cases c : g < acc
    · rw [if_pos c, decide_eq_false (by omega)]; rfl
    · rw [if_neg c, decide_eq_true (by omega)]; rfl
  | succ m ih =>
    intro fuel acc b h0 h1 h2 h3 h4
    obtain ⟨f, rfl, h5⟩ := zfuel h2
    have hb := (hn.2.1 (n 4 + b) (by omega) (by omega)).2.1
    have e2 : n 4 + b + 1 = n 4 + (b + 1) := by omega
    rcases hb with h6 | h6
    · simp (disch := first | assumption | omega) only [f_X10_spares_L51, zz_ldo hW h.u, yN hW h, hb4, h6, zcn, ih, zz_some, zz_nul, zz_lit, zz_num, zI_lt, zI_le, zI_eq, zI_nat, zz_b, if_pos, if_neg, if_true, if_false]
      simp [zb, e2]
    · simp (disch := first | assumption | omega) only [f_X10_spares_L51, zz_ldo hW h.u, yN hW h, hb4, h6, zcn, ih, zz_some, zz_nul, zz_lit, zz_num, zI_lt, zI_le, zI_eq, zI_nat, zz_b, if_pos, if_neg, if_true, if_false]
      rw [e2]
      congr 4
      simp [zb]
      omega
theorem yl_spares_L10 (hW : zWF E) (h : yR E σ n) (hn : nW n) {x : Int} (hx0 : 0 ≤ x) (hx1 : n 4 + x ≤ n 0 - n 1) : ∀ (m fuel : Nat) (acc b : Int), 0 ≤ b → b + m = n 0 → m < fuel → 0 ≤ acc → acc + m < 500 → f_X10_spares_L10 (zH E σ) fuel (zL E 5 0 0) (zI x) (zI acc) (zI 0) (zI b) = some (zI (zb (decide (zcn (fun b => decide (n (103 + b) = 1)) (n 4) x.toNat ≤ acc + zcn (fun b => decide (n (7 + b) = 0) && decide (n (103 + b) = 0)) b m)))) := by
  have hN := hn.1.r
  have hB := yB hW h
  intro m
  induction m with
  | zero =>
    intro fuel acc b h0 h1 h2 h3 h4
    obtain ⟨f, rfl, h5⟩ := zfuel h2
    have := yl_spares_L51 hW h hn hx0 hx1 (g := acc) h3 (by omega) x.toNat g_N 0 0 (by omega) (by omega) (by unfold g_N; omega) (by omega) (by omega)
    simp (disch := first | assumption | omega) only [f_X10_spares_L10, yN hW h, this, zcn, zz_some, zz_nul, zz_lit, zz_num, zI_lt, zI_le, zI_eq, zI_nat, zz_b, if_pos, if_neg, if_true, if_false]
    simp
  | succ m ih =>
    intro fuel acc b h0 h1 h2 h3 h4
    obtain ⟨f, rfl, h5⟩ := zfuel h2
    have hb := (hn.2.1 b (by omega) (by omega))
    have hb1 := hb.1
    have hb2 := hb.2.1
    by_cases h7 : n (7 + b) = 0
    · rcases hb2 with h6 | h6
      · simp (disch := first | assumption | omega) only [f_X10_spares_L10, zz_ldo hW h.u, yN hW h, hB.1, hB.2.2.2.2.2.1, h6, h7, zcn, ih, zz_some, zz_nul, zz_lit, zz_num, zI_lt, zI_le, zI_eq, zI_nat, zz_b, if_pos, if_neg, if_true, if_false]
        congr 4
        simp [zb]
        rw [Int.add_assoc]
      · simp (disch := first | assumption | omega) only [f_X10_spares_L10, zz_ldo hW h.u, yN hW h, hB.1, hB.2.2.2.2.2.1, h6, h7, zcn, ih, zz_some, zz_nul, zz_lit, zz_num, zI_lt, zI_le, zI_eq, zI_nat, zz_b, if_pos, if_neg, if_true, if_false]
        congr 4
        simp [zb]
    · simp (disch := first | assumption | omega) only [f_X10_spares_L10, zz_ldo hW h.u, yN hW h, hB.1, hB.2.2.2.2.2.1, h7, zcn, ih, zz_some, zz_nul, zz_lit, zz_num, zI_lt, zI_le, zI_eq, zI_nat, zz_b, if_pos, if_neg, if_true, if_false]
      congr 4
      simp [zb]
theorem yl_spares (hW : zWF E) (h : yR E σ n) (hn : nW n) {x : Int} (hx0 : 0 ≤ x) (hx1 : n 4 + x ≤ n 0 - n 1) : f_X10_spares (zH E σ) (zL E 5 0 0) (zI x) = some (zI (zb (nHs n x))) := by
  have hN := hn.1.r
  have := yl_spares_L10 hW h hn hx0 hx1 (n 1).toNat g_N 0 (n 0 - n 1) (by omega) (by omega) (by unfold g_N; omega) (by omega) (by omega)
  simp (disch := first | assumption | omega) only [f_X10_spares, yl_ob hW h, yl_main hW h, this, zz_some, zz_nul, zz_lit, zz_num, zI_lt, zI_le, zI_eq, zI_nat, zz_b, if_pos, if_neg, if_true, if_false]
  unfold nHs
  simp
theorem yl_why (hW : zWF E) (h : yR E σ n) (hn : nW n) {x e : Int} (hx0 : 0 ≤ x) (hx1 : x ≤ 8) (he0 : 1 ≤ e) (he1 : e ≤ 100) : f_X10_why (zH E σ) (zL E 5 0 0) (zI x) (zI e) = some (zI (if n 4 + (x + nDl e) ≤ n 0 - n 1 then (if nHs n x = true then 0 else 5) else 4)) := by
  have hN := hn.1.r
  have hd := nDl_div he0
  have hd1 : 1 ≤ nDl e ∧ nDl e ≤ 100 := by
    unfold nDl
    rw [Int.tdiv_eq_ediv_of_nonneg (by omega)]
    omega
  by_cases c : n 4 + (x + nDl e) ≤ n 0 - n 1
  · have hs := yl_spares hW h hn hx0 (by omega)
    cases h5 : nHs n x
    · rw [h5] at hs
      simp (disch := first | assumption | omega) only [f_X10_why, yN hW h, yl_ob hW h, yl_main hW h, zI_div, hd, hs, h5, Bool.false_eq_true, zz_some, zz_nul, zz_lit, zz_num, zI_lt, zI_le, zI_eq, zI_nat, zz_b, if_pos, if_neg, if_true, if_false]
    · rw [h5] at hs
      simp (disch := first | assumption | omega) only [f_X10_why, yN hW h, yl_ob hW h, yl_main hW h, zI_div, hd, hs, h5, Bool.true_eq_false, zz_some, zz_nul, zz_lit, zz_num, zI_lt, zI_le, zI_eq, zI_nat, zz_b, if_pos, if_neg, if_true, if_false]
  · simp (disch := first | assumption | omega) only [f_X10_why, yN hW h, yl_ob hW h, yl_main hW h, zI_div, hd, zz_some, zz_nul, zz_lit, zz_num, zI_lt, zI_le, zI_eq, zI_nat, zz_b, if_pos, if_neg, if_true, if_false]
theorem yEw_rng {f : Int} (hn : nW n) (hy : yW n) : 1 ≤ nEw n f ∧ nEw n f ≤ 7 := by
  unfold nEw
  by_cases ho : nOp n = true
  · rw [if_pos ho]
    have ⟨a, b⟩ := (nOp_if n).mp ho
    have h2 := hy.2 (nLa n) a (by unfold nLa; omega)
    have h3 := h2.2 (Or.inl b)
    have := zb_rng (decide (nEn n (nLa n) f = -1))
    omega
  · rw [if_neg ho]
    omega
theorem yl_entriesWith (hW : zWF E) (h : yR E σ n) (hn : nW n) {f : Int} (f0 : 0 ≤ f) (f1 : f < 100) : f_X10_entriesWith (zH E σ) (zL E 5 0 0) (zI f) = some (zI (nEw n f)) := by
  have hN := hn.1.r
  have ho := yl_open hW h hn
  unfold nEw
  by_cases hp : nOp n = true
  · rw [if_pos hp] at ho
    have ⟨a, b⟩ := (nOp_if n).mp hp
    have l3 : nLa n < n 3 := by unfold nLa; omega
    have hs := yS hW h hn a l3
    have hf := yl_find hW h hn a l3 f0 f1
    have he := hn.2.2.2.ent hn.1 a l3
    have hr : -1 ≤ nEn n (nLa n) f ∧ nEn n (nLa n) f < 100 := by
      have := zfs_rng (fun k => decide (nS n (nLa n) (5 + 2 * k) = f)) (nS n (nLa n) 2).toNat
      unfold nEn
      omega
    by_cases c : nEn n (nLa n) f = -1
    · have c' : ¬ (0 ≤ nEn n (nLa n) f) := by omega
      simp (disch := first | assumption | omega) only [f_X10_entriesWith, yl_ob hW h, ho, hs.1, hs.2, hf, hp, c, c', decide_true, zz_some, zz_nul, zz_lit, zz_num, zI_lt, zI_le, zI_eq, zI_nat, zz_b, if_pos, if_neg, if_true, if_false]
      rfl
    · have c' : 0 ≤ nEn n (nLa n) f := by omega
      simp (disch := first | assumption | omega) only [f_X10_entriesWith, yl_ob hW h, ho, hs.1, hs.2, hf, hp, c, c', decide_false, zz_some, zz_nul, zz_lit, zz_num, zI_lt, zI_le, zI_eq, zI_nat, zz_b, if_pos, if_neg, if_true, if_false]
      rfl
  · rw [if_neg hp] at ho
    simp (disch := first | assumption | omega) only [f_X10_entriesWith, yl_ob hW h, ho, hp, Bool.false_eq_true, zz_some, zz_nul, zz_lit, zz_num, zI_lt, zI_le, zI_eq, zI_nat, zz_b, if_pos, if_neg, if_true, if_false]
theorem yl_whyWrite (hW : zWF E) (h : yR E σ n) (hn : nW n) (hy : yW n) {f m : Int} (f0 : 0 ≤ f) (f1 : f < 100) (m0 : 0 ≤ m) (m1 : m ≤ 8) : f_X10_whyWrite (zH E σ) (zL E 5 0 0) (zI f) (zI m) = some (zI (nWw n f m)) := by
  have hN := hn.1.r
  have ho := yl_open hW h hn
  have hr := yEw_rng (f := f) hn hy
  have hw := yl_why hW h hn m0 m1 hr.1 (by omega)
  have he := yl_entriesWith hW h hn f0 f1
  unfold nWw nTm
  by_cases hp : nOp n = true
  · rw [if_pos hp] at ho
    rw [hp, if_neg (show ¬ ((!true && decide (12 ≤ n 3)) = true) by simp)]
    simp (disch := first | assumption | omega) only [f_X10_whyWrite, yl_ob hW h, ho, he, hw, zz_some, zz_nul, zz_lit, zz_num, zI_lt, zI_le, zI_eq, zI_nat, zz_b, if_pos, if_neg, if_true, if_false]
  · rw [if_neg hp] at ho
    rw [show nOp n = false by simpa using hp]
    by_cases c : n 3 = 12
    · rw [if_pos (show (!false && decide (12 ≤ n 3)) = true by simp; omega)]
      simp (disch := first | assumption | omega) only [f_X10_whyWrite, yl_ob hW h, ho, yN hW h, c, zz_some, zz_nul, zz_lit, zz_num, zI_lt, zI_le, zI_eq, zI_nat, zz_b, if_pos, if_neg, if_true, if_false]
    · rw [if_neg (show ¬ (!false && decide (12 ≤ n 3)) = true by simp; omega)]
      simp (disch := first | assumption | omega) only [f_X10_whyWrite, yl_ob hW h, ho, yN hW h, c, he, hw, zz_some, zz_nul, zz_lit, zz_num, zI_lt, zI_le, zI_eq, zI_nat, zz_b, if_pos, if_neg, if_true, if_false]
theorem yl_whyClose (hW : zWF E) (h : yR E σ n) (hn : nW n) (hy : yW n) : f_X10_whyClose (zH E σ) (zL E 5 0 0) = some (zI (nWc n)) := by
  have hN := hn.1.r
  have ho := yl_open hW h hn
  unfold nWc nWd
  by_cases hp : nOp n = true
  · rw [if_pos hp] at ho
    have ⟨a, b⟩ := (nOp_if n).mp hp
    have l3 : nLa n < n 3 := by unfold nLa; omega
    have hs := yS hW h hn a l3
    have he := hy.2 (nLa n) a l3
    have he1 := he.2 (Or.inl b)
    have hz := yl_size hW h hn a l3
    rw [nDl_div he1] at hz
    have hd1 : 1 ≤ nDl (nS n (nLa n) 2) ∧ nDl (nS n (nLa n) 2) ≤ 100 := by
      unfold nDl
      rw [Int.tdiv_eq_ediv_of_nonneg (by omega)]
      omega
    by_cases c : n 4 + nDl (nS n (nLa n) 2) ≤ n 0 - n 1
    · have hq := yl_spares hW h hn (x := nDl (nS n (nLa n) 2)) (by omega) c
      cases h5 : nHs n (nDl (nS n (nLa n) 2))
      · rw [h5] at hq
        simp (disch := first | assumption | omega) only [f_X10_whyClose, yl_ob hW h, ho, yN hW h, hs.2, hz, yl_main hW h, hq, hp, h5, Bool.false_eq_true, zz_some, zz_nul, zz_lit, zz_num, zI_lt, zI_le, zI_eq, zI_nat, zz_b, if_pos, if_neg, if_true, if_false]
      · rw [h5] at hq
        simp (disch := first | assumption | omega) only [f_X10_whyClose, yl_ob hW h, ho, yN hW h, hs.2, hz, yl_main hW h, hq, hp, h5, Bool.true_eq_false, zz_some, zz_nul, zz_lit, zz_num, zI_lt, zI_le, zI_eq, zI_nat, zz_b, if_pos, if_neg, if_true, if_false]
    · simp (disch := first | assumption | omega) only [f_X10_whyClose, yl_ob hW h, ho, yN hW h, hs.2, hz, yl_main hW h, hp, zz_some, zz_nul, zz_lit, zz_num, zI_lt, zI_le, zI_eq, zI_nat, zz_b, if_pos, if_neg, if_true, if_false]
  · rw [if_neg hp] at ho
    simp (disch := first | assumption | omega) only [f_X10_whyClose, yl_ob hW h, ho, hp, Bool.false_eq_true, zz_some, zz_nul, zz_lit, zz_num, zI_lt, zI_le, zI_eq, zI_nat, zz_b, if_pos, if_neg, if_true, if_false]
theorem yl_whyRecover (hW : zWF E) (h : yR E σ n) (hn : nW n) {x : Int} (x0 : 0 ≤ x) (x1 : x ≤ 100) : f_X10_whyRecover (zH E σ) (zL E 5 0 0) (zI x) = some (zI (if x = 0 then 2 else if n 3 = 12 then 3 else nWd n x)) := by
  have hN := hn.1.r
  unfold nWd
  by_cases c : x = 0
  · simp (disch := first | assumption | omega) only [f_X10_whyRecover, c, zz_some, zz_nul, zz_lit, zz_num, zI_lt, zI_le, zI_eq, zI_nat, zz_b, if_pos, if_neg, if_true, if_false]
  · by_cases c2 : n 3 = 12
    · simp (disch := first | assumption | omega) only [f_X10_whyRecover, c, c2, yN hW h, zz_some, zz_nul, zz_lit, zz_num, zI_lt, zI_le, zI_eq, zI_nat, zz_b, if_pos, if_neg, if_true, if_false]
    · have hd := nDl_div (e := x) (by omega)
      have hd1 : 1 ≤ nDl x ∧ nDl x ≤ 100 := by
        unfold nDl
        rw [Int.tdiv_eq_ediv_of_nonneg (by omega)]
        omega
      by_cases c3 : n 4 + nDl x ≤ n 0 - n 1
      · have hq := yl_spares hW h hn (x := nDl x) (by omega) c3
        cases h5 : nHs n (nDl x)
        · rw [h5] at hq
          simp (disch := first | assumption | omega) only [f_X10_whyRecover, c, c2, c3, yN hW h, yl_ob hW h, yl_main hW h, zI_div, hd, hq, h5, Bool.false_eq_true, zz_some, zz_nul, zz_lit, zz_num, zI_lt, zI_le, zI_eq, zI_nat, zz_b, if_pos, if_neg, if_true, if_false]
        · rw [h5] at hq
          simp (disch := first | assumption | omega) only [f_X10_whyRecover, c, c2, c3, yN hW h, yl_ob hW h, yl_main hW h, zI_div, hd, hq, h5, Bool.true_eq_false, zz_some, zz_nul, zz_lit, zz_num, zI_lt, zI_le, zI_eq, zI_nat, zz_b, if_pos, if_neg, if_true, if_false]
      · simp (disch := first | assumption | omega) only [f_X10_whyRecover, c, c2, c3, yN hW h, yl_ob hW h, yl_main hW h, zI_div, hd, zz_some, zz_nul, zz_lit, zz_num, zI_lt, zI_le, zI_eq, zI_nat, zz_b, if_pos, if_neg, if_true, if_false]
end yC

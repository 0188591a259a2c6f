/-! The law's own disc: what can be read, what counts, what is there. -/
section yD
variable {E : zE} {σ : zW} {n : zN}
theorem nPl_rng (hn : nW n) {b : Int} (h0 : 0 ≤ b) (h1 : b < 96) : 0 ≤ nPl n b ∧ nPl n b < 96 := by
  have hN := hn.1.r
  have := (hn.2.1 b h0 h1).2.2.2.2.2.2.2.1
  unfold nPl
  split <;> omega
theorem yDl_rng {e : Int} (h0 : 1 ≤ e) (h1 : e ≤ 6) : 1 ≤ nDl e ∧ nDl e ≤ 2 := by
  unfold nDl
  rw [Int.tdiv_eq_ediv_of_nonneg (by omega)]
  omega
theorem nL_rng (hn : nW n) (hy : yW n) {s : Int} (s0 : 0 ≤ s) (s1 : s < n 3) : 0 ≤ nL n s ∧ nL n s ≤ 2 ∧ (0 < nS n s 3 → nS n s 3 - 1 + nL n s ≤ n 4) := by
  have hs := hn.2.2.2 s s0 s1
  have hz := hy.2 s s0 s1
  unfold nL
  by_cases c : 0 < nS n s 3
  · rw [if_pos c]
    have h1 := hs.2.2.2.2.1.2.1.mp c
    have := yDl_rng (e := nS n s 2) (hz.2 (Or.inr h1)) hz.1
    have h3 := hs.2.2.2.2.1.2.2 c
    exact ⟨by omega, by omega, fun _ => h3⟩
  · rw [if_neg c]
    exact ⟨by omega, by omega, fun z => absurd z c⟩
theorem yl_reads_L (hW : zWF E) (h : yR E σ n) (hn : nW n) (hy : yW n) {s : Int} (s0 : 0 ≤ s) (s1 : s < n 3) : ∀ (m fuel : Nat) (k : Int) (acc : Bool), 0 ≤ k → k + m = nL n s → m < fuel → (m ≠ 0 → 0 < nS n s 3) → f_X10_reads_L15 (zH E σ) fuel (zL E 5 0 0) (ySe E s) (zI (zb acc)) (zI k) = some (zI (zb (acc && zal (fun b => decide (n (199 + nPl n b) = 0)) (nS n s 3 - 1 + k) m))) := by
  have hN := hn.1.r
  have hL := nL_rng hn hy s0 s1
  have hs := yS hW h hn s0 s1
  have hr := (ySr hW h hn s0 s1).2.1
  have hB := (yB hW h).2.2.2.2.2.2.1
  intro m
  induction m with
  | zero =>
    intro fuel k acc h0 h1 h2 _
    obtain ⟨g, rfl, h5⟩ := zfuel h2
    simp (disch := first | assumption | omega) only [f_X10_reads_L15, hs.1, zal, Bool.and_true, zz_some, zz_nul, zz_lit, zz_num, zI_lt, zI_le, zI_eq, zI_nat, zz_b, if_pos, if_neg, if_true, if_false]
  | succ m ih =>
    intro fuel k acc h0 h1 h2 h3
    obtain ⟨g, rfl, h5⟩ := zfuel h2
    have h3' := h3 (by omega)
    have hp := nPl_rng hn (b := nS n s 3 - 1 + k) (by omega) (by have := hL.2.2 h3'; omega)
    have hu := (hn.2.1 _ hp.1 hp.2).2.2.1
    have i0 := ih g (k + 1) false (by omega) (by omega) h5 (fun _ => h3')
    have i1 := ih g (k + 1) true (by omega) (by omega) h5 (fun _ => h3')
    rw [show zb false = 0 from rfl, Bool.false_and, show zb false = 0 from rfl] at i0
    rw [show zb true = 1 from rfl, Bool.true_and] at i1
    have e2 : nS n s 3 - 1 + k + 1 = nS n s 3 - 1 + (k + 1) := by omega
    cases acc
    · simp (disch := first | assumption | omega) only [f_X10_reads_L15, hs.1, i0, Bool.false_and, zz_some, zz_nul, zz_lit, zz_num, zI_lt, zI_le, zI_eq, zI_nat, zz_b, if_pos, if_neg, if_true, if_false]
      rfl
    · rcases hu with hu | hu
      · simp (disch := first | assumption | omega) only [f_X10_reads_L15, hs.1, hs.2, zz_ldo hW h.u, hr, hB, hu, i1, zal, Bool.true_and, decide_true, Bool.true_eq_false, e2, zz_some, zz_nul, zz_lit, zz_num, zI_lt, zI_le, zI_eq, zI_nat, zz_b, if_pos, if_neg, if_true, if_false]
      · simp (disch := first | assumption | omega) only [f_X10_reads_L15, hs.1, hs.2, zz_ldo hW h.u, hr, hB, hu, i0, zal, Bool.true_and, Bool.true_eq_false, zz_some, zz_nul, zz_lit, zz_num, zI_lt, zI_le, zI_eq, zI_nat, zz_b, if_pos, if_neg, if_true, if_false]
        simp
        rfl
theorem yl_reads (hW : zWF E) (h : yR E σ n) (hn : nW n) (hy : yW n) {s : Int} (s0 : 0 ≤ s) (s1 : s < n 3) : f_X10_reads (zH E σ) (zL E 5 0 0) (ySe E s) = some (zI (zb (nRdD n s))) := by
  have hN := hn.1.r
  have hL := nL_rng hn hy s0 s1
  have hs := yS hW h hn s0 s1
  have hw := hn.2.2.2 s s0 s1
  have h3b : nS n s 3 - 1 < 100 ∧ 0 ≤ nS n s 3 := by
    refine ⟨?_, hw.2.2.2.2.1.1⟩
    by_cases c : 0 < nS n s 3
    · have := hL.2.2 c; omega
    · omega
  unfold nRdD
  by_cases c : 0 < nS n s 3
  · have := yl_reads_L hW h hn hy s0 s1 (nL n s).toNat g_N 0 true (by omega) (by omega) (by unfold g_N; omega) (fun _ => c)
    rw [show zb true = 1 from rfl, Bool.true_and, Int.add_zero] at this
    simp (disch := first | assumption | omega) only [f_X10_reads, hs.1, this, c, decide_true, Bool.true_and, zz_some, zz_nul, zz_lit, zz_num, zI_lt, zI_le, zI_eq, zI_nat, zz_b, if_pos, if_neg, if_true, if_false]
    unfold nRd nL
    rw [if_pos c]
  · have e0 : nL n s = 0 := by unfold nL; rw [if_neg c]
    have := yl_reads_L hW h hn hy s0 s1 0 g_N 0 false (by omega) (by omega) (by unfold g_N; omega) (fun z => absurd rfl z)
    rw [show zb false = 0 from rfl, Bool.false_and, show zb false = 0 from rfl] at this
    simp (disch := first | assumption | omega) only [f_X10_reads, hs.1, this, c, decide_false, Bool.false_and, zz_some, zz_nul, zz_lit, zz_num, zI_lt, zI_le, zI_eq, zI_nat, zz_b, if_pos, if_neg, if_true, if_false]
    rfl
theorem yl_readv_L (hW : zWF E) (h : yR E σ n) (hn : nW n) {v : Int} (v0 : 0 ≤ v) (v1 : v < n 6) : ∀ (m fuel : Nat) (k : Int) (acc : Bool), 0 ≤ k → k + m = nV n v 2 → m < fuel → f_X10_reads__L4 (zH E σ) fuel (zL E 5 0 0) (yVe E v) (zI (zb acc)) (zI k) = some (zI (zb (acc && zal (fun b => decide (n (199 + nPl n b) = 0)) (nV n v 1 + k) m))) := by
  have hN := hn.1.r
  have hv := hn.2.2.1.2 v v0 v1
  have hs := yV hW h hn v0 v1
  have hr := yVr hW h hn v0 v1
  have hB := (yB hW h).2.2.2.2.2.2.1
  intro m
  induction m with
  | zero =>
    intro fuel k acc h0 h1 h2
    obtain ⟨g, rfl, h5⟩ := zfuel h2
    simp (disch := first | assumption | omega) only [f_X10_reads__L4, hs.1, zal, Bool.and_true, zz_some, zz_nul, zz_lit, zz_num, zI_lt, zI_le, zI_eq, zI_nat, zz_b, if_pos, if_neg, if_true, if_false]
  | succ m ih =>
    intro fuel k acc h0 h1 h2
    obtain ⟨g, rfl, h5⟩ := zfuel h2
    have hp := nPl_rng hn (b := nV n v 1 + k) (by omega) (by omega)
    have hu := (hn.2.1 _ hp.1 hp.2).2.2.1
    have i0 := ih g (k + 1) false (by omega) (by omega) h5
    have i1 := ih g (k + 1) true (by omega) (by omega) h5
    rw [show zb false = 0 from rfl, Bool.false_and, show zb false = 0 from rfl] at i0
    rw [show zb true = 1 from rfl, Bool.true_and] at i1
    have e2 : nV n v 1 + k + 1 = nV n v 1 + (k + 1) := by omega
    cases acc
    · simp (disch := first | assumption | omega) only [f_X10_reads__L4, hs.1, i0, Bool.false_and, zz_some, zz_nul, zz_lit, zz_num, zI_lt, zI_le, zI_eq, zI_nat, zz_b, if_pos, if_neg, if_true, if_false]
      rfl
    · rcases hu with hu | hu
      · simp (disch := first | assumption | omega) only [f_X10_reads__L4, hs.1, hs.2, zz_ldo hW h.u, hr, hB, hu, i1, zal, Bool.true_and, decide_true, Bool.true_eq_false, e2, zz_some, zz_nul, zz_lit, zz_num, zI_lt, zI_le, zI_eq, zI_nat, zz_b, if_pos, if_neg, if_true, if_false]
      · simp (disch := first | assumption | omega) only [f_X10_reads__L4, hs.1, hs.2, zz_ldo hW h.u, hr, hB, hu, i0, zal, Bool.true_and, Bool.true_eq_false, zz_some, zz_nul, zz_lit, zz_num, zI_lt, zI_le, zI_eq, zI_nat, zz_b, if_pos, if_neg, if_true, if_false]
        simp
        rfl
theorem yl_readv (hW : zWF E) (h : yR E σ n) (hn : nW n) {v : Int} (v0 : 0 ≤ v) (v1 : v < n 6) : f_X10_reads_ (zH E σ) (zL E 5 0 0) (yVe E v) = some (zI (zb (nRv n v))) := by
  have hN := hn.1.r
  have hv := hn.2.2.1.2 v v0 v1
  have := yl_readv_L hW h hn v0 v1 (nV n v 2).toNat g_N 0 true (by omega) (by omega) (by unfold g_N; omega)
  rw [show zb true = 1 from rfl, Bool.true_and, Int.add_zero] at this
  exact this
theorem nGo_scan (h5 : n 5 = 1) : ∀ t, nGo n t = true := by
  intro t
  induction t with
  | zero => rfl
  | succ t ih => simp [nGo, ih, h5]
theorem yl_reaches_L (hW : zWF E) (h : yR E σ n) (hn : nW n) (hy : yW n) : ∀ (m fuel : Nat) (k : Int), 0 ≤ k → k + m = n 3 → m < fuel → f_X10_reaches_L46 (zH E σ) fuel (zL E 5 0 0) (zI k) = some (zI (zb (nGo n m))) := by
  have hN := hn.1.r
  intro m
  induction m with
  | zero =>
    intro fuel k h0 h1 h2
    obtain ⟨g, rfl, h5⟩ := zfuel h2
    simp (disch := first | assumption | omega) only [f_X10_reaches_L46, yN hW h, nGo, zz_some, zz_nul, zz_lit, zz_num, zI_lt, zI_le, zI_eq, zI_nat, zz_b, if_pos, if_neg, if_true, if_false]
    rfl
  | succ m ih =>
    intro fuel k h0 h1 h2
    obtain ⟨g, rfl, h5⟩ := zfuel h2
    have hk := hn.2.2.2 k h0 (by omega)
    have hs := yS hW h hn h0 (by omega)
    have ha := (yAll hW h hn.1).2 k h0 (by omega)
    have hr := yl_reads hW h hn hy h0 (by omega)
    have hi := ih g (k + 1) (by omega) (by omega) h5
    have ek : nLa n - (m : Int) = k := by unfold nLa; omega
    rcases hN.2.2.2.2.2.1 with h5z | h5z
    · by_cases c : nS n k 0 = 1
      · cases hd : nRdD n k
        · rw [hd] at hr
          simp (disch := first | assumption | omega) only [f_X10_reaches_L46, yN hW h, zz_ldo hW h.u, h5z, ha, hs.1, c, yl_ob hW h, hr, nGo, ek, zz_some, zz_nul, zz_lit, zz_num, zI_lt, zI_le, zI_eq, zI_nat, zz_b, if_pos, if_neg, if_true, if_false]
          simp [nIs, c, hd, zb]
        · rw [hd] at hr
          simp (disch := first | assumption | omega) only [f_X10_reaches_L46, yN hW h, zz_ldo hW h.u, h5z, ha, hs.1, c, yl_ob hW h, hr, hi, nGo, ek, Bool.true_eq_false, zz_some, zz_nul, zz_lit, zz_num, zI_lt, zI_le, zI_eq, zI_nat, zz_b, if_pos, if_neg, if_true, if_false]
          simp [nIs, c, hd]
      · simp (disch := first | assumption | omega) only [f_X10_reaches_L46, yN hW h, zz_ldo hW h.u, h5z, ha, hs.1, c, hi, nGo, ek, zz_some, zz_nul, zz_lit, zz_num, zI_lt, zI_le, zI_eq, zI_nat, zz_b, if_pos, if_neg, if_true, if_false]
        simp [c]
    · rw [nGo_scan h5z]
      simp (disch := first | assumption | omega) only [f_X10_reaches_L46, yN hW h, h5z, zz_some, zz_nul, zz_lit, zz_num, zI_lt, zI_le, zI_eq, zI_nat, zz_b, if_pos, if_neg, if_true, if_false]
      rfl
theorem yl_reaches (hW : zWF E) (h : yR E σ n) (hn : nW n) (hy : yW n) {s : Int} (s0 : 0 ≤ s) (s1 : s < n 3) : f_X10_reaches (zH E σ) (zL E 5 0 0) (zI s) = some (zI (zb (nRe n s))) := by
  have hN := hn.1.r
  have hk := hn.2.2.2 s s0 s1
  have hs := yS hW h hn s0 s1
  have ha := (yAll hW h hn.1).2 s s0 s1
  have hr := yl_reads hW h hn hy s0 s1
  have hl := yl_reaches_L hW h hn hy (n 3 - (s + 1)).toNat g_N (s + 1) (by omega) (by omega) (by unfold g_N; omega)
  unfold nRe
  rw [show nLa n - s = n 3 - (s + 1) by unfold nLa; omega]
  by_cases c0 : nS n s 0 = 0
  · have : s = n 3 - 1 := hk.2.1 c0
    rw [show (n 3 - (s + 1)).toNat = 0 by omega]
    simp (disch := first | assumption | omega) only [f_X10_reaches, zz_ldo hW h.u, ha, hs.1, c0, nGo, nIs, decide_true, Bool.true_or, Bool.true_and, zz_some, zz_nul, zz_lit, zz_num, zI_lt, zI_le, zI_eq, zI_nat, zz_b, if_pos, if_neg, if_true, if_false]
    rfl
  · by_cases c : nS n s 0 = 1
    · cases hd : nRdD n s
      · rw [hd] at hr
        simp (disch := first | assumption | omega) only [f_X10_reaches, zz_ldo hW h.u, ha, hs.1, c, yl_ob hW h, hr, zz_some, zz_nul, zz_lit, zz_num, zI_lt, zI_le, zI_eq, zI_nat, zz_b, if_pos, if_neg, if_true, if_false]
        simp [nIs, c, hd, zb]
      · rw [hd] at hr
        simp (disch := first | assumption | omega) only [f_X10_reaches, zz_ldo hW h.u, ha, hs.1, c, yl_ob hW h, hr, hl, Bool.true_eq_false, zz_some, zz_nul, zz_lit, zz_num, zI_lt, zI_le, zI_eq, zI_nat, zz_b, if_pos, if_neg, if_true, if_false]
        simp [nIs, c, hd]
    · simp (disch := first | assumption | omega) only [f_X10_reaches, zz_ldo hW h.u, ha, hs.1, c0, c, zz_some, zz_nul, zz_lit, zz_num, zI_lt, zI_le, zI_eq, zI_nat, zz_b, if_pos, if_neg, if_true, if_false]
      simp [nIs, c0, c, zb]
theorem yl_counting_L (hW : zWF E) (h : yR E σ n) (hn : nW n) (hy : yW n) {f x : Int} (f0 : 0 ≤ f) (f1 : f < 100) (x0 : 0 ≤ x) (x1 : x ≤ 100) : ∀ (m fuel : Nat), (m : Int) ≤ n 3 → m < fuel → f_X10_counting_L7 (zH E σ) fuel (zL E 5 0 0) (zI f) (zI x) (zI (m - 1)) = some (if zls (fun s => nRe n s && decide (nEn n s f ≠ -1)) (min x m).toNat = -1 then none else some (ySe E (zls (fun s => nRe n s && decide (nEn n s f ≠ -1)) (min x m).toNat))) := by
  have hN := hn.1.r
  intro m
  induction m with
  | zero =>
    intro fuel h1 h2
    obtain ⟨g, rfl, h5⟩ := zfuel h2
    rw [show (min x ((0 : Nat) : Int)).toNat = 0 by omega]
    simp (disch := first | assumption | omega) only [f_X10_counting_L7, zls, zz_some, zz_nul, zz_lit, zz_num, zI_lt, zI_le, zI_eq, zI_nat, zz_b, if_pos, if_neg, if_true, if_false]
  | succ m ih =>
    intro fuel h1 h2
    obtain ⟨g, rfl, h5⟩ := zfuel h2
    have hi := ih g (by omega) h5
    have e1 : ((m + 1 : Nat) : Int) - 1 = m := by omega
    rw [e1]
    by_cases c : x ≤ m
    · rw [show (min x ((m + 1 : Nat) : Int)).toNat = (min x (m : Int)).toNat by omega]
      simp (disch := first | assumption | omega) only [f_X10_counting_L7, zz_some, zz_nul, zz_lit, zz_num, zI_lt, zI_le, zI_eq, zI_nat, zz_b, if_pos, if_neg, if_true, if_false]
      rw [show (m : Int) + -1 = m - 1 by omega]
      exact hi
    · rw [show (min x ((m + 1 : Nat) : Int)).toNat = m + 1 by omega]
      rw [show (min x (m : Int)).toNat = m by omega] at hi
      have s1 : (m : Int) < n 3 := by omega
      have hs := yS hW h hn (s := m) (by omega) s1
      have ha := (yAll hW h hn.1).2 m (by omega) s1
      have hr := yl_reaches hW h hn hy (s := m) (by omega) s1
      have hf := yl_find hW h hn (s := m) (by omega) s1 f0 f1
      have hq := nEn_rng n m f
      have he := hn.2.2.2.ent hn.1 (s := m) (by omega) s1
      cases hre : nRe n m
      · rw [hre] at hr
        simp (disch := first | assumption | omega) only [f_X10_counting_L7, yl_ob hW h, hr, zls, hre, Bool.false_and, Bool.false_eq_true, zz_some, zz_nul, zz_lit, zz_num, zI_lt, zI_le, zI_eq, zI_nat, zz_b, if_pos, if_neg, if_true, if_false]
        rw [show (m : Int) + -1 = m - 1 by omega]
        exact hi
      · rw [hre] at hr
        by_cases c2 : nEn n m f = -1
        · simp (disch := first | assumption | omega) only [f_X10_counting_L7, yl_ob hW h, hr, zls, hre, ha, hs.2, hf, zz_ldo hW h.u, c2, Bool.true_eq_false, zz_some, zz_nul, zz_lit, zz_num, zI_lt, zI_le, zI_eq, zI_nat, zz_b, if_pos, if_neg, if_true, if_false]
          rw [show (m : Int) + -1 = m - 1 by omega, hi]
          simp
        · have c3 : ¬ (nEn n m f < 0) := by omega
          have c4 : ¬ ((m : Int) = -1) := by omega
          simp (disch := first | assumption | omega) only [f_X10_counting_L7, yl_ob hW h, hr, zls, hre, ha, hs.2, hf, zz_ldo hW h.u, c2, c3, Bool.true_eq_false, zz_some, zz_nul, zz_lit, zz_num, zI_lt, zI_le, zI_eq, zI_nat, zz_b, if_pos, if_neg, if_true, if_false]
          simp [c2, c4]
theorem yl_counting (hW : zWF E) (h : yR E σ n) (hn : nW n) (hy : yW n) {f x : Int} (f0 : 0 ≤ f) (f1 : f < 100) (x0 : 0 ≤ x) (x1 : x ≤ 100) : f_X10_counting (zH E σ) (zL E 5 0 0) (zI f) (zI x) = some (if nSk n f x = -1 then none else some (ySe E (nSk n f x))) := by
  have hN := hn.1.r
  have := yl_counting_L hW h hn hy f0 f1 x0 x1 (n 3).toNat g_N (by omega) (by unfold g_N; omega)
  rw [show ((n 3).toNat : Int) = n 3 by omega] at this
  simp (disch := first | assumption | omega) only [f_X10_counting, yN hW h, zz_some, zz_nul, zz_lit, zz_num, zI_lt, zI_le, zI_eq, zI_nat, zz_b, if_pos, if_neg, if_true, if_false]
  exact this
theorem yl_version (hW : zWF E) (h : yR E σ n) (hn : nW n) (hy : yW n) {f x : Int} (f0 : 0 ≤ f) (f1 : f < 100) (x0 : 0 ≤ x) (x1 : x ≤ 100) : f_X10_version (zH E σ) (zL E 5 0 0) (zI f) (zI x) = some (if nFv n f x = -1 then none else some (yVe E (nFv n f x))) := by
  have hN := hn.1.r
  have hc := yl_counting hW h hn hy f0 f1 x0 x1
  have hk := nSk_rng n f x
  unfold nFv nSv
  by_cases c : nSk n f x = -1
  · rw [if_pos c] at hc
    simp (disch := first | assumption | omega) only [f_X10_version, yl_ob hW h, hc, c, zz_some, zz_nul, zz_lit, zz_num, zI_lt, zI_le, zI_eq, zI_nat, zz_b, if_pos, if_neg, if_true, if_false]
  · rw [if_neg c] at hc
    have s0 : 0 ≤ nSk n f x := by omega
    have s1 := (hk.2 s0).1
    have hs := yS hW h hn s0 s1
    have hf := yl_find hW h hn s0 s1 f0 f1
    have hq := nEn_rng n (nSk n f x) f
    have hne := (nSk_en s0).2
    have he := hn.2.2.2.ent hn.1 s0 s1
    have hv := (ySr hW h hn s0 s1).2.2 (nEn n (nSk n f x) f) (by omega) (hq.2 (by omega)) (by omega)
    by_cases c2 : nS n (nSk n f x) (6 + 2 * nEn n (nSk n f x) f) = -1
    · rw [if_pos c2] at hv
      simp (disch := first | assumption | omega) only [f_X10_version, yl_ob hW h, hc, hs.2, hf, hv, c, c2, zz_some, zz_nul, zz_lit, zz_num, zI_lt, zI_le, zI_eq, zI_nat, zz_b, if_pos, if_neg, if_true, if_false]
    · rw [if_neg c2] at hv
      simp (disch := first | assumption | omega) only [f_X10_version, yl_ob hW h, hc, hs.2, hf, hv, c, c2, zz_some, zz_nul, zz_lit, zz_num, zI_lt, zI_le, zI_eq, zI_nat, zz_b, if_pos, if_neg, if_true, if_false]
theorem yl_whyErase (hW : zWF E) (h : yR E σ n) (hn : nW n) (hy : yW n) {f : Int} (f0 : 0 ≤ f) (f1 : f < 100) : f_X10_whyErase (zH E σ) (zL E 5 0 0) (zI f) = some (zI (if nFv n f 12 = -1 then 2 else if nTm n = true then 3 else if n 4 + nDl (nEw n f) ≤ n 0 - n 1 then (if nHs n 0 = true then 0 else 5) else 4)) := by
  have hN := hn.1.r
  have hc := yl_counting hW h hn hy f0 f1 (x := 12) (by omega) (by omega)
  have hk := nSk_rng n f 12
  have ho := yl_open hW h hn
  have hr := yEw_rng (f := f) hn hy
  have hw := yl_why hW h hn (x := 0) (by omega) (by omega) hr.1 (by omega)
  have hew := yl_entriesWith hW h hn f0 f1
  rw [Int.zero_add] at hw
  unfold nFv nSv
  by_cases c : nSk n f 12 = -1
  · rw [if_pos c] at hc
    simp (disch := first | assumption | omega) only [f_X10_whyErase, yl_ob hW h, hc, c, zz_some, zz_nul, zz_lit, zz_num, zI_lt, zI_le, zI_eq, zI_nat, zz_b, if_pos, if_neg, if_true, if_false]
  · rw [if_neg c] at hc
    have s0 : 0 ≤ nSk n f 12 := by omega
    have s1 := (hk.2 s0).1
    have hs := yS hW h hn s0 s1
    have hf := yl_find hW h hn s0 s1 f0 f1
    have hq := nEn_rng n (nSk n f 12) f
    have hne := (nSk_en s0).2
    have he := hn.2.2.2.ent hn.1 s0 s1
    have hv := (ySr hW h hn s0 s1).2.2 (nEn n (nSk n f 12) f) (by omega) (hq.2 (by omega)) (by omega)
    by_cases c2 : nS n (nSk n f 12) (6 + 2 * nEn n (nSk n f 12) f) = -1
    · rw [if_pos c2] at hv
      simp (disch := first | assumption | omega) only [f_X10_whyErase, yl_ob hW h, hc, hs.2, hf, hv, c, c2, zz_some, zz_nul, zz_lit, zz_num, zI_lt, zI_le, zI_eq, zI_nat, zz_b, if_pos, if_neg, if_true, if_false]
    · rw [if_neg c2] at hv
      unfold nTm
      by_cases hp : nOp n = true
      · rw [if_pos hp] at ho
        simp (disch := first | assumption | omega) only [f_X10_whyErase, yl_ob hW h, hc, hs.2, hf, hv, c, c2, ho, hew, hw, zz_some, zz_nul, zz_lit, zz_num, zI_lt, zI_le, zI_eq, zI_nat, zz_b, if_pos, if_neg, if_true, if_false]
        simp [hp]
      · rw [if_neg hp] at ho
        have hp' : nOp n = false := by simpa using hp
        by_cases c3 : n 3 = 12
        · simp (disch := first | assumption | omega) only [f_X10_whyErase, yl_ob hW h, hc, hs.2, hf, hv, c, c2, ho, yN hW h, c3, zz_some, zz_nul, zz_lit, zz_num, zI_lt, zI_le, zI_eq, zI_nat, zz_b, if_pos, if_neg, if_true, if_false]
          simp [hp']
        · have c4 : ¬ (12 ≤ n 3) := by omega
          simp (disch := first | assumption | omega) only [f_X10_whyErase, yl_ob hW h, hc, hs.2, hf, hv, c, c2, ho, yN hW h, c3, hew, hw, zz_some, zz_nul, zz_lit, zz_num, zI_lt, zI_le, zI_eq, zI_nat, zz_b, if_pos, if_neg, if_true, if_false]
          simp [hp', c4]
theorem yl_there_L (hW : zWF E) (h : yR E σ n) (hn : nW n) (hy : yW n) {x : Int} (x0 : 0 ≤ x) (x1 : x ≤ 100) : ∀ (m fuel : Nat) (acc f : Int), 0 ≤ f → f + m = n 2 → m < fuel → 0 ≤ acc → acc + m < 1000 → f_X10_there_L4 (zH E σ) fuel (zL E 5 0 0) (zI x) (zI acc) (zI f) = some (zI (acc + zcn (fun f => decide (nFv n f x ≠ -1)) f m)) := by
  have hN := hn.1.r
  intro m
  induction m with
  | zero =>
    intro fuel acc f h0 h1 h2 h3 h4
    obtain ⟨g, rfl, h5⟩ := zfuel h2
    simp (disch := first | assumption | omega) only [f_X10_there_L4, yN hW h, zcn, zz_some, zz_nul, zz_lit, zz_num, zI_lt, zI_le, zI_eq, zI_nat, zz_b, if_pos, if_neg, if_true, if_false]
    simp
  | succ m ih =>
    intro fuel acc f h0 h1 h2 h3 h4
    obtain ⟨g, rfl, h5⟩ := zfuel h2
    have hv := yl_version hW h hn hy (f := f) h0 (by omega) x0 x1
    by_cases c : nFv n f x = -1
    · rw [if_pos c] at hv
      have hi := ih g (acc + 0) (f + 1) (by omega) (by omega) h5 (by omega) (by omega)
      simp (disch := first | assumption | omega) only [f_X10_there_L4, yN hW h, yl_ob hW h, hv, hi, zcn, zz_some, zz_nul, zz_lit, zz_num, zI_lt, zI_le, zI_eq, zI_nat, zz_b, if_pos, if_neg, if_true, if_false]
      simp [c, zb]
    · rw [if_neg c] at hv
      have hi := ih g (acc + 1) (f + 1) (by omega) (by omega) h5 (by omega) (by omega)
      simp (disch := first | assumption | omega) only [f_X10_there_L4, yN hW h, yl_ob hW h, hv, hi, zcn, zz_some, zz_nul, zz_lit, zz_num, zI_lt, zI_le, zI_eq, zI_nat, zz_b, if_pos, if_neg, if_true, if_false]
      simp [c, zb]
      congr 1
      omega
theorem yl_there (hW : zWF E) (h : yR E σ n) (hn : nW n) (hy : yW n) {x : Int} (x0 : 0 ≤ x) (x1 : x ≤ 100) : f_X10_there (zH E σ) (zL E 5 0 0) (zI x) = some (zI (nTh n x)) := by
  have hN := hn.1.r
  have := yl_there_L hW h hn hy x0 x1 (n 2).toNat g_N 0 0 (by omega) (by omega) (by unfold g_N; omega) (by omega) (by omega)
  rw [Int.zero_add] at this
  exact this
theorem yVe_inj (hW : zWF E) (h : yR E σ n) {v w : Int} (v0 : 0 ≤ v) (v1 : v < n 6) (w0 : 0 ≤ w) (w1 : w < n 6) : (yVe E v = yVe E w) = (v = w) := by
  have h1 := (hW 7 v.toNat 0 (h.uv v0 v1) rfl (yVe E v)).mpr rfl
  have h2 := (hW 7 w.toNat 0 (h.uv w0 w1) rfl (yVe E w)).mpr rfl
  apply propext
  constructor
  · intro z
    rw [z, h2] at h1
    injection h1 with _ h3
    injection h3 with h4 _
    omega
  · rintro rfl; rfl
theorem ySe_inj (hW : zWF E) (h : yR E σ n) {v w : Int} (v0 : 0 ≤ v) (v1 : v < n 3) (w0 : 0 ≤ w) (w1 : w < n 3) : (ySe E v = ySe E w) = (v = w) := by
  have h1 := (hW 6 v.toNat 0 (h.us v0 v1) rfl (ySe E v)).mpr rfl
  have h2 := (hW 6 w.toNat 0 (h.us w0 w1) rfl (ySe E w)).mpr rfl
  apply propext
  constructor
  · intro z
    rw [z, h2] at h1
    injection h1 with _ h3
    injection h3 with h4 _
    omega
  · rintro rfl; rfl
theorem yl_use (hW : zWF E) (h : yR E σ n) (hn : nW n) (hy : yW n) {b : Int} (b0 : 0 ≤ b) (b1 : b < 96) : f_X10_use (zH E σ) (zL E 5 0 0) (zI b) = some (zI (nUs n b)) := by
  have hN := hn.1.r
  have hB := yB hW h
  have hb := hn.2.1 b b0 b1
  have hk := hb.1
  have hkv := hb.2.2.2.2.1
  have hk1 := hb.2.2.2.2.2.2.2.2.1
  have h14 := hB.2.2.2.2.2.2.2 b b0 b1
  unfold nUs
  rcases (by omega : n (7 + b) = 0 ∨ n (7 + b) = 1 ∨ n (7 + b) = 2 ∨ n (7 + b) = 3) with c | c | c | c
  · simp (disch := first | assumption | omega) only [f_X10_use, f_X10_use_J19, zz_ldo hW h.u, hB.1, c, zz_some, zz_nul, zz_lit, zz_num, zI_lt, zI_le, zI_eq, zI_nat, zz_b, if_pos, if_neg, if_true, if_false]
  · have v0 : 0 ≤ n (391 + b) - 1 := by have := hk1 c; omega
    have v1 : n (391 + b) - 1 < n 6 := by omega
    rw [if_neg (by omega)] at h14
    have hv := yV hW h hn v0 v1
    have hf := (hn.2.2.1.2 _ v0 v1).1
    have hq := yl_version hW h hn hy (f := nV n (n (391 + b) - 1) 0) (x := 12) (by omega) (by omega) (by omega) (by omega)
    have hr := nFv_rng hn (nV n (n (391 + b) - 1) 0) 12
    by_cases c2 : nFv n (nV n (n (391 + b) - 1) 0) 12 = -1
    · rw [if_pos c2] at hq
      have c3 : ¬ (-1 = n (391 + b) - 1) := by omega
      simp (disch := first | assumption | omega) only [f_X10_use, f_X10_use_J19, zz_ldo hW h.u, hB.1, c, h14, hv.1, yl_ob hW h, hq, c2, c3, zz_some, zz_nul, zz_lit, zz_num, zI_lt, zI_le, zI_eq, zI_nat, zz_b, if_pos, if_neg, if_true, if_false]
    · rw [if_neg c2] at hq
      have hi := yVe_inj hW h (v := nFv n (nV n (n (391 + b) - 1) 0) 12) (w := n (391 + b) - 1) (by omega) (by omega) v0 v1
      by_cases c3 : nFv n (nV n (n (391 + b) - 1) 0) 12 = n (391 + b) - 1
      · rw [if_pos c3]
        rw [c3] at hq hi
        simp (disch := first | assumption | omega) only [f_X10_use, f_X10_use_J19, zz_ldo hW h.u, hB.1, c, h14, hv.1, yl_ob hW h, hq, zz_some, zz_nul, zz_lit, zz_num, zI_lt, zI_le, zI_eq, zI_nat, zz_b, if_pos, if_neg, if_true, if_false]
      · rw [if_neg c3]
        have c4 : ¬ (yVe E (nFv n (nV n (n (391 + b) - 1) 0) 12) = yVe E (n (391 + b) - 1)) := by rw [hi]; exact c3
        simp (disch := first | assumption | omega) only [f_X10_use, f_X10_use_J19, zz_ldo hW h.u, hB.1, c, h14, hv.1, yl_ob hW h, hq, c4, zz_some, zz_nul, zz_lit, zz_num, zI_lt, zI_le, zI_eq, zI_nat, zz_b, if_pos, if_neg, if_true, if_false]
  · simp (disch := first | assumption | omega) only [f_X10_use, f_X10_use_J19, zz_ldo hW h.u, hB.1, c, zz_some, zz_nul, zz_lit, zz_num, zI_lt, zI_le, zI_eq, zI_nat, zz_b, if_pos, if_neg, if_true, if_false]
    rfl
  · simp (disch := first | assumption | omega) only [f_X10_use, f_X10_use_J19, zz_ldo hW h.u, hB.1, c, zz_some, zz_nul, zz_lit, zz_num, zI_lt, zI_le, zI_eq, zI_nat, zz_b, if_pos, if_neg, if_true, if_false]
    rfl
end yD

/-! The reference's calls that change. -/
def zCh (σ σ' : zW) (e : Int) : Prop := (∀ k d c, ¬ (k = 3 ∧ d = 0 ∧ (c = 0 ∨ c = 1 ∨ c = 17 ∨ c = 21 ∨ c = 23 ∨ c = 25)) → σ' k d c = σ k d c) ∧ (∀ i, i ≠ 0 → i ≠ 18 → i ≠ 19 → i ≠ 20 → i ≠ 22 → i ≠ 24 → σ' 3 0 0 i = σ 3 0 0 i) ∧ σ' 3 0 0 0 = e
theorem zCh.mk3 {σ σ1 σ2 : zW} {e : Int} (h : zT σ σ1 e) (k : zK σ1 σ2) (n' : zN) : zCh σ (zw σ2 n') e := by
  refine ⟨fun k' d c z => ?_, fun i a b c d f g => ?_, ?_⟩
  · unfold zw; rw [zr_ne (by omega), k.1 k' d c (by omega), h.1 k' d c (by omega)]
  · unfold zw; rw [zr_ne (by omega), k.2 i g, h.2.1 i a b c d f]
  · unfold zw; rw [zr_ne (by omega), k.2 0 (by omega), h.2.2]
theorem zCh.q {σ σ1 σ2 : zW} {e : Int} (h : zCh σ σ1 e) (q : zQ σ1 σ2) : zCh σ σ2 e := ⟨fun k d c z => (q.1 k d c (by omega)).trans (h.1 k d c z), fun i a b c d f g => (q.2 i b c d f).trans (h.2.1 i a b c d f g), (q.2 0 (by omega) (by omega) (by omega) (by omega)).trans h.2.2⟩
theorem zUn.cg {σ σ' : zW} {c : Int} {U : Int → zN} (h : zUn σ c U) (h1 : σ' 3 0 0 24 = σ 3 0 0 24) (h2 : σ' 3 0 25 = σ 3 0 25) : zUn σ' c U := ⟨h1.trans h.1, h.2.1, h.2.2.1, fun k i a b x y => by rw [h2]; exact h.2.2.2 k i a b x y⟩
theorem zUn.t {σ σ' : zW} {c e : Int} {U : Int → zN} (h : zUn σ c U) (t : zT σ σ' e) : zUn σ' c U := h.cg (t.2.1 24 (by omega) (by omega) (by omega) (by omega) (by omega)) (t.1 3 0 25 (by omega))
theorem zUn.q {σ σ' : zW} {c : Int} {U : Int → zN} (h : zUn σ c U) (t : zQ σ σ') : zUn σ' c U := h.cg (t.2 24 (by omega) (by omega) (by omega) (by omega)) (t.1 3 0 25 (by omega))
theorem zUn.w {σ : zW} {c : Int} {U : Int → zN} (h : zUn σ c U) (n' : zN) : zUn (zw σ n') c U := h.cg (by unfold zw; rw [zr_ne (by omega)]) (by unfold zw; rw [zr_ne (by omega)])
theorem nWd_rng (n : zN) (e : Int) : 0 ≤ nWd n e ∧ nWd n e ≤ 5 := by unfold nWd; split <;> (try split) <;> omega
theorem nWw_rng (n : zN) (f m : Int) : 0 ≤ nWw n f m ∧ nWw n f m ≤ 5 := by unfold nWw; split <;> (try split) <;> (try split) <;> omega
theorem nWc_rng (n : zN) : 0 ≤ nWc n ∧ nWc n ≤ 5 := by
  have := nWd_rng n (nS n (nLa n) 2)
  unfold nWc; split <;> omega
theorem nWr_rng (n : zN) : 0 ≤ nWr n ∧ nWr n ≤ 5 := by
  have := nWd_rng n (nCr n)
  unfold nWr; split <;> (try split) <;> omega
theorem nWe_rng (n : zN) (f : Int) : 0 ≤ nWe n f ∧ nWe n f ≤ 5 := by unfold nWe; split <;> (try split) <;> (try split) <;> omega
section zMod
variable {E : zE} {σ : zW} {n : zN}
theorem e10_kp (hW : zWF E) (hm : zU E 3 0 = true) (h1 : σ 3 0 1 = n) {c : Int} {U : Int → zN} (hU : zUn σ c U) {τ : zW} (hT : zT σ τ 0) : ∃ σ2, f_X10_keeps (zH E τ) (zL E 3 0 0) = some (zH E (zw σ2 n)) ∧ ∀ n', zCh σ (zw σ2 n') 0 ∧ zUn (zw σ2 n') (kC c) (kU c U n) := by
  obtain ⟨σ2, a1, a2, a3⟩ := e10_keeps hW hm (hT.n.trans h1) (hU.t hT)
  have h2 : σ2 3 0 1 = n := (a2.1 3 0 1 (by omega)).trans (hT.n.trans h1)
  exact ⟨σ2, by rw [a1, zw_self h2], fun n' => ⟨zCh.mk3 hT a2 n', a3.w n'⟩⟩
/-- what a call answers: its state, its answer, the thrown number e; ok: the row, one more kept -/
theorem e10_write_ok (hW : zWF E) (hm : zU E 3 0 = true) (h1 : σ 3 0 1 = n) (hn : nW n) {c : Int} {U : Int → zN} (hU : zUn σ c U) {f m t : Int} (hf : 0 ≤ f ∧ f < n 2) (hm0 : 1 ≤ m ∧ m ≤ 8) (ht : 0 ≤ t ∧ t ≤ 999) (hy : nWw n f m = 0) : ∃ σ', f_X10_write (zH E σ) (zL E 3 0 0) (zI f) (zI m) (zI t) = some (zH E σ', zI (n 6)) ∧ zCh σ σ' 0 ∧ σ' 3 0 1 = nWrs n f m t ∧ zUn σ' (kC c) (kU c U n) := by
  obtain ⟨τ, hz⟩ : ∃ y, zs σ 3 0 0 0 0 = y := ⟨_, rfl⟩
  have hzt : zth σ 0 = τ := hz
  have hT : zT σ τ 0 := hzt ▸ zT.th σ 0
  have h11 : τ 3 0 1 = n := hT.n.trans h1
  have h00 : τ 3 0 0 0 = 0 := hT.2.2
  have hN' := hn.1.r
  have hmt := zz_mdo (σ := τ) hW hm
  have hms := zz_mdo (σ := σ) hW hm
  have hno := e10_noFile (x := f) hW hm h1 hn (by omega) (by omega)
  rw [hzt, if_pos hf] at hno
  have hw1 := e10_win (x := m) (lo := 1) (hi := 8) (zH E τ) (by omega) (by omega) (by omega) (by omega) (by omega) (by omega)
  have hw2 := e10_win (x := t) (lo := 0) (hi := 999) (zH E τ) (by omega) (by omega) (by omega) (by omega) (by omega) (by omega)
  rw [decide_eq_true hm0] at hw1
  rw [decide_eq_true ht] at hw2
  have hy1 := e10_whyWrite (x := f) (m := m) hW hm h11 hn (by omega) (by omega) (by omega) (by omega)
  rw [hy] at hy1
  have hth := fun w : Int => e10_th0 (w := w) hW hm h00
  obtain ⟨σ2, k1, k2⟩ := e10_kp hW hm h1 hU hT
  have hm2 := zz_mdo (σ := zw σ2 n) hW hm
  have hwr := e10_writes (σ := σ2) hW hm hn hf.1 hf.2 hm0.1 hm0.2 ht.1 ht.2 hy
  refine ⟨zw σ2 (nWrs n f m t), ?_, (k2 _).1, zw_at, (k2 _).2⟩
  have hj : f_X10_write_J57 (zH E τ) (zL E 3 0 0) (zI f) (zI m) (zI t) (zL E 3 0 0) (zI 0) = some (zH E (zw σ2 (nWrs n f m t)), zI (n 6)) := by
    simp (disch := first | assumption | omega) only [f_X10_write_J57, hmt, hm2, hth, k1, hwr, zz_some, zz_lit, zz_num, zI_lt, zI_le, zI_eq, zI_nat, zz_b, if_pos, if_neg, if_true, if_false]
  have hj2 : f_X10_write_J35 (zH E τ) (zL E 3 0 0) (zI f) (zI m) (zI t) (zL E 3 0 0) (zI 0) = some (zH E (zw σ2 (nWrs n f m t)), zI (n 6)) := by
    simp (disch := first | assumption | omega) only [f_X10_write_J35, hmt, hth, hy1, hj, zz_some, zz_lit, zz_num, zI_lt, zI_le, zI_eq, zI_nat, zz_b, if_pos, if_neg, if_true, if_false]
  simp (disch := first | assumption | omega) only [f_X10_write, hms, hmt, hno, hw1, hw2, hj2, zz_some, zz_lit, zz_num, zI_lt, zI_le, zI_eq, zI_nat, zz_b, if_pos, if_neg, if_true, if_false]
  try simp
theorem e10_write_no (hW : zWF E) (hm : zU E 3 0 = true) (h1 : σ 3 0 1 = n) (hn : nW n) {f m t : Int} (hf0 : -2147483648 ≤ f) (hf1 : f < 2147483648) (hm0 : -2147483648 ≤ m) (hm1 : m < 2147483648) (ht0 : -2147483648 ≤ t) (ht1 : t < 2147483648) {e : Int} (he : e = if 0 ≤ f ∧ f < n 2 then (if (1 ≤ m ∧ m ≤ 8) ∧ 0 ≤ t ∧ t ≤ 999 then (if nWw n f m = 0 then 0 else 3) else 2) else 1) (he0 : e ≠ 0) : ∃ σ', f_X10_write (zH E σ) (zL E 3 0 0) (zI f) (zI m) (zI t) = some (zH E σ', zI 0) ∧ zT σ σ' e := by
  obtain ⟨τ, hz⟩ : ∃ y, zs σ 3 0 0 0 0 = y := ⟨_, rfl⟩
  have hzt : zth σ 0 = τ := hz
  have hT : zT σ τ 0 := hzt ▸ zT.th σ 0
  have h11 : τ 3 0 1 = n := hT.n.trans h1
  have h00 : τ 3 0 0 0 = 0 := hT.2.2
  have hN' := hn.1.r
  have hmt := zz_mdo (σ := τ) hW hm
  have hms := zz_mdo (σ := σ) hW hm
  have hno := e10_noFile (x := f) hW hm h1 hn hf0 hf1
  rw [hzt] at hno
  have hw1 := e10_win (x := m) (lo := 1) (hi := 8) (zH E τ) (by omega) (by omega) (by omega) (by omega) (by omega) (by omega)
  have hw2 := e10_win (x := t) (lo := 0) (hi := 999) (zH E τ) (by omega) (by omega) (by omega) (by omega) (by omega) (by omega)
  by_cases hf : 0 ≤ f ∧ f < n 2
  · rw [if_pos hf] at hno he
    have h2 := e10_th1 (w := 2) hW hm h00 (by omega) (by omega)
    have h3 := e10_th1 (w := 3) hW hm h00 (by omega) (by omega)
    have hth := fun w : Int => e10_th0 (w := w) hW hm h00
    by_cases hmm : 1 ≤ m ∧ m ≤ 8
    · rw [decide_eq_true hmm] at hw1
      by_cases htt : 0 ≤ t ∧ t ≤ 999
      · rw [decide_eq_true htt] at hw2
        rw [if_pos ⟨hmm, htt⟩] at he
        have hy1 := e10_whyWrite (x := f) (m := m) hW hm h11 hn (by omega) (by omega) (by omega) (by omega)
        have hr := nWw_rng n f m
        by_cases hy : nWw n f m = 0
        · rw [if_pos hy] at he; exact absurd he he0
        · rw [if_neg hy] at he
          subst he
          refine ⟨zth τ 3, ?_, hT.t (zT.th τ 3)⟩
          have hj : f_X10_write_J57 (zH E τ) (zL E 3 0 0) (zI f) (zI m) (zI t) (zL E 3 0 0) (zI 1) = some (zH E (zth τ 3), zI 0) := by
            have hob : g_ob (zH E τ) (zL E 3 0 0) 10 = some () := by simp only [hmt]
            rw [f_X10_write_J57, hob, zz_some, show (3 : Int32) = zI 3 from rfl, h3, zz_some, if_neg zz10]
            rfl
          have hj2 : f_X10_write_J35 (zH E τ) (zL E 3 0 0) (zI f) (zI m) (zI t) (zL E 3 0 0) (zI 0) = some (zH E (zth τ 3), zI 0) := by
            simp (disch := first | assumption | omega) only [f_X10_write_J35, hmt, hth, hy1, hj, zz_some, zz_lit, zz_num, zI_lt, zI_le, zI_eq, zI_nat, zz_b, if_pos, if_neg, if_true, if_false]
          simp (disch := first | assumption | omega) only [f_X10_write, hms, hmt, hno, hw1, hw2, hj2, zz_some, zz_lit, zz_num, zI_lt, zI_le, zI_eq, zI_nat, zz_b, if_pos, if_neg, if_true, if_false]
          try simp
      · rw [decide_eq_false htt] at hw2
        rw [if_neg (by omega)] at he
        subst he
        refine ⟨zth τ 2, ?_, hT.t (zT.th τ 2)⟩
        simp (disch := first | assumption | omega) only [f_X10_write, f_X10_write_J35, hms, hmt, hno, hw1, hw2, h2, zz_some, zz_lit, zz_num, zI_lt, zI_le, zI_eq, zI_nat, zz_b, if_pos, if_neg, if_true, if_false]
        try simp
    · rw [decide_eq_false hmm] at hw1
      rw [if_neg (by omega)] at he
      subst he
      refine ⟨zth τ 2, ?_, hT.t (zT.th τ 2)⟩
      simp (disch := first | assumption | omega) only [f_X10_write, f_X10_write_J35, hms, hmt, hno, hw1, h2, zz_some, zz_lit, zz_num, zI_lt, zI_le, zI_eq, zI_nat, zz_b, if_pos, if_neg, if_true, if_false]
      try simp
  · rw [if_neg hf] at hno he
    subst he
    refine ⟨zth σ 1, ?_, zT.th σ 1⟩
    simp (disch := first | assumption | omega) only [f_X10_write, hms, hno, zz_some, zz_lit, zz_num, zI_lt, zI_le, zI_eq, zI_nat, zz_b, if_pos, if_neg, if_true, if_false]
    try simp
theorem e10_erase_ok (hW : zWF E) (hm : zU E 3 0 = true) (h1 : σ 3 0 1 = n) (hn : nW n) {c : Int} {U : Int → zN} (hU : zUn σ c U) {f : Int} (hf : 0 ≤ f ∧ f < n 2) (hy : nWe n f = 0) : ∃ σ', f_X10_erase (zH E σ) (zL E 3 0 0) (zI f) = some (zH E σ', zI (nTh (nErs n f) 12)) ∧ zCh σ σ' 0 ∧ σ' 3 0 1 = nErs n f ∧ zUn σ' (kC c) (kU c U n) := by
  obtain ⟨τ, hz⟩ : ∃ y, zs σ 3 0 0 0 0 = y := ⟨_, rfl⟩
  have hzt : zth σ 0 = τ := hz
  have hT : zT σ τ 0 := hzt ▸ zT.th σ 0
  have h11 : τ 3 0 1 = n := hT.n.trans h1
  have h00 : τ 3 0 0 0 = 0 := hT.2.2
  have hN' := hn.1.r
  have hmt := zz_mdo (σ := τ) hW hm
  have hms := zz_mdo (σ := σ) hW hm
  have hno := e10_noFile (x := f) hW hm h1 hn (by omega) (by omega)
  rw [hzt, if_pos hf] at hno
  obtain ⟨σ1, y1, y2⟩ := e10_whyErase (x := f) hW hm h11 hn hf.1 (by omega)
  rw [hy] at y1
  have hm1 := zz_mdo (σ := σ1) hW hm
  have hT1 : zT σ σ1 0 := hT.q y2
  have hth := fun w : Int => e10_th0 (w := w) hW hm hT1.2.2
  obtain ⟨σ2, k1, k2⟩ := e10_kp hW hm h1 hU hT1
  have hm2 := zz_mdo (σ := zw σ2 n) hW hm
  have hen := e10_enters (σ := σ2) (v := -1) hW hm hn (nWe_0 hy).2 hf.1 hf.2
  rw [show nE1 (nBi n) f (-1) = nErs n f from rfl] at hen
  have hm3 := zz_mdo (σ := zw σ2 (nErs n f)) hW hm
  obtain ⟨σ3, t1, t2⟩ := e10_filesThere (σ := zw σ2 (nErs n f)) (y := 12) hW hm zw_at (nErs_W hn hf.1 hf.2 hy) (by omega) (by omega)
  refine ⟨σ3, ?_, (k2 _).1.q t2, t2.n.trans zw_at, (k2 _).2.q t2⟩
  simp (disch := first | assumption | omega) only [f_X10_erase, f_X10_erase_J22, f_X10_erases, hms, hmt, hm1, hm2, hm3, hno, hth, y1, k1, hen, t1, zz_some, zz_lit, zz_num, zI_lt, zI_le, zI_eq, zI_nat, zz_b, if_pos, if_neg, if_true, if_false]
  try simp
theorem e10_erase_no (hW : zWF E) (hm : zU E 3 0 = true) (h1 : σ 3 0 1 = n) (hn : nW n) {f : Int} (hf0 : -2147483648 ≤ f) (hf1 : f < 2147483648) {e : Int} (he : e = if 0 ≤ f ∧ f < n 2 then (if nWe n f = 0 then 0 else 2) else 1) (he0 : e ≠ 0) : ∃ σ', f_X10_erase (zH E σ) (zL E 3 0 0) (zI f) = some (zH E σ', zI 0) ∧ zT σ σ' e := by
  obtain ⟨τ, hz⟩ : ∃ y, zs σ 3 0 0 0 0 = y := ⟨_, rfl⟩
  have hzt : zth σ 0 = τ := hz
  have hT : zT σ τ 0 := hzt ▸ zT.th σ 0
  have h11 : τ 3 0 1 = n := hT.n.trans h1
  have h00 : τ 3 0 0 0 = 0 := hT.2.2
  have hN' := hn.1.r
  have hmt := zz_mdo (σ := τ) hW hm
  have hms := zz_mdo (σ := σ) hW hm
  have hno := e10_noFile (x := f) hW hm h1 hn hf0 hf1
  rw [hzt] at hno
  by_cases hf : 0 ≤ f ∧ f < n 2
  · rw [if_pos hf] at hno he
    obtain ⟨σ1, y1, y2⟩ := e10_whyErase (x := f) hW hm h11 hn hf.1 (by omega)
    have hr := nWe_rng n f
    have hm1 := zz_mdo (σ := σ1) hW hm
    have hT1 : zT σ σ1 0 := hT.q y2
    have h2 := e10_th1 (w := 2) hW hm hT1.2.2 (by omega) (by omega)
    by_cases hy : nWe n f = 0
    · rw [if_pos hy] at he; exact absurd he he0
    · rw [if_neg hy] at he
      subst he
      refine ⟨zth σ1 2, ?_, hT1.t (zT.th σ1 2)⟩
      simp (disch := first | assumption | omega) only [f_X10_erase, f_X10_erase_J22, hms, hmt, hm1, hno, y1, h2, zz_some, zz_lit, zz_num, zI_lt, zI_le, zI_eq, zI_nat, zz_b, if_pos, if_neg, if_true, if_false]
      try simp
  · rw [if_neg hf] at hno he
    subst he
    refine ⟨zth σ 1, ?_, zT.th σ 1⟩
    simp (disch := first | assumption | omega) only [f_X10_erase, hms, hno, zz_some, zz_lit, zz_num, zI_lt, zI_le, zI_eq, zI_nat, zz_b, if_pos, if_neg, if_true, if_false]
    try simp
theorem e10_close_ok (hW : zWF E) (hm : zU E 3 0 = true) (h1 : σ 3 0 1 = n) (hn : nW n) {c : Int} {U : Int → zN} (hU : zUn σ c U) (hy : nWc n = 0) : ∃ σ', f_X10_close (zH E σ) (zL E 3 0 0) = some (zH E σ', zI (nLa (nCl n))) ∧ zCh σ σ' 0 ∧ σ' 3 0 1 = nCl n ∧ zUn σ' (kC c) (kU c U n) := by
  obtain ⟨τ, hz⟩ : ∃ y, zs σ 3 0 0 0 0 = y := ⟨_, rfl⟩
  have hzt : zth σ 0 = τ := hz
  have hT : zT σ τ 0 := hzt ▸ zT.th σ 0
  have h11 : τ 3 0 1 = n := hT.n.trans h1
  have h00 : τ 3 0 0 0 = 0 := hT.2.2
  have hN' := hn.1.r
  have hmt := zz_mdo (σ := τ) hW hm
  have hms := zz_mdo (σ := σ) hW hm
  have y1 := e10_whyClose hW hm h11 hn
  rw [hy] at y1
  have hth := fun w : Int => e10_th0 (w := w) hW hm h00
  obtain ⟨σ2, k1, k2⟩ := e10_kp hW hm h1 hU hT
  have hm2 := zz_mdo (σ := zw σ2 n) hW hm
  have hcl := e10_closesOpen (σ := σ2) hW hm hn hy
  have hm3 := zz_mdo (σ := zw σ2 (nCl n)) hW hm
  have hla := e10_latest (σ := zw σ2 (nCl n)) hW hm zw_at
  refine ⟨zw σ2 (nCl n), ?_, (k2 _).1, zw_at, (k2 _).2⟩
  simp (disch := first | assumption | omega) only [f_X10_close, f_X10_close_J18, zp_md0 hW hm, hz, hmt, hm2, hm3, hth, y1, k1, hcl, hla, zz_some, zz_lit, zz_num, zI_lt, zI_le, zI_eq, zI_nat, zz_b, if_pos, if_neg, if_true, if_false]
  try simp
theorem e10_close_no (hW : zWF E) (hm : zU E 3 0 = true) (h1 : σ 3 0 1 = n) (hn : nW n) (hy : nWc n ≠ 0) : ∃ σ', f_X10_close (zH E σ) (zL E 3 0 0) = some (zH E σ', zI 0) ∧ zT σ σ' 1 := by
  obtain ⟨τ, hz⟩ : ∃ y, zs σ 3 0 0 0 0 = y := ⟨_, rfl⟩
  have hzt : zth σ 0 = τ := hz
  have hT : zT σ τ 0 := hzt ▸ zT.th σ 0
  have h11 : τ 3 0 1 = n := hT.n.trans h1
  have h00 : τ 3 0 0 0 = 0 := hT.2.2
  have hN' := hn.1.r
  have hmt := zz_mdo (σ := τ) hW hm
  have hms := zz_mdo (σ := σ) hW hm
  have y1 := e10_whyClose hW hm h11 hn
  have hr := nWc_rng n
  have h2 := e10_th1 (w := 1) hW hm h00 (by omega) (by omega)
  refine ⟨zth τ 1, ?_, hT.t (zT.th τ 1)⟩
  simp (disch := first | assumption | omega) only [f_X10_close, f_X10_close_J18, zp_md0 hW hm, hz, hmt, y1, h2, zz_some, zz_lit, zz_num, zI_lt, zI_le, zI_eq, zI_nat, zz_b, if_pos, if_neg, if_true, if_false]
  try simp
theorem e10_crash_ok (hW : zWF E) (hm : zU E 3 0 = true) (h1 : σ 3 0 1 = n) (hn : nW n) {c : Int} {U : Int → zN} (hU : zUn σ c U) (hy : nOp n = true) : ∃ σ', f_X10_crash (zH E σ) (zL E 3 0 0) = some (zH E σ', zI (zcn (fun b => decide (n (295 + b) = nLa n + 1)) 0 (n 0 - n 1).toNat)) ∧ zCh σ σ' 0 ∧ σ' 3 0 1 = nCrs n ∧ zUn σ' (kC c) (kU c U n) := by
  obtain ⟨τ, hz⟩ : ∃ y, zs σ 3 0 0 0 0 = y := ⟨_, rfl⟩
  have hzt : zth σ 0 = τ := hz
  have hT : zT σ τ 0 := hzt ▸ zT.th σ 0
  have h11 : τ 3 0 1 = n := hT.n.trans h1
  have h00 : τ 3 0 0 0 = 0 := hT.2.2
  have hN' := hn.1.r
  have hmt := zz_mdo (σ := τ) hW hm
  have hms := zz_mdo (σ := σ) hW hm
  have y1 := e10_isOpen hW hm h11 hn.1 hn.2.2.2
  rw [hy] at y1
  obtain ⟨l0, lst⟩ := nOp_iff.mp hy
  have hla0 : nLa n = n 3 - 1 := rfl
  have hth := fun w : Int => e10_th0 (w := w) hW hm h00
  obtain ⟨σ2, k1, k2⟩ := e10_kp hW hm h1 hU hT
  have hm2 := zz_mdo (σ := zw σ2 n) hW hm
  have hla := e10_latest (σ := zw σ2 n) hW hm zw_at
  have hs1 := e10_sets (σ := σ2) (x := 2) hW hm n (s := nLa n) (w := 0) (by omega) (by omega) (by omega) (by omega)
  obtain ⟨n1, hn1⟩ : ∃ x, x = zus n (nLa n) 0 2 := ⟨_, rfl⟩
  rw [← hn1] at hs1
  have e1 : nLa n1 = nLa n := by unfold nLa; rw [hn1, zus_lo (by omega) (by omega) (by omega)]
  have hm3 := zz_mdo (σ := zw σ2 n1) hW hm
  have hla1 := e10_latest (σ := zw σ2 n1) hW hm zw_at
  rw [e1] at hla1
  have hs2 := e10_sets (σ := σ2) (x := 0) hW hm n1 (s := nLa n) (w := 2) (by omega) (by omega) (by omega) (by omega)
  have e2 : zus n1 (nLa n) 2 0 = nCrs n := by rw [hn1]; rfl
  rw [e2] at hs2
  have hcr := nCrs_W hn hy
  have hm4 := zz_mdo (σ := zw σ2 (nCrs n)) hW hm
  have hla2 := e10_latest (σ := zw σ2 (nCrs n)) hW hm zw_at
  rw [show nLa (nCrs n) = nLa n by unfold nLa; rw [hcr.2.1 3 (by omega)]] at hla2
  have hwb := e10_writtenBy1 (σ := zw σ2 (nCrs n)) hW hm zw_at hcr.1 (s := nLa n) (by omega) (by omega)
  have e3 : zcn (fun b => decide (nCrs n (295 + b) = nLa n + 1)) 0 (nCrs n 0 - nCrs n 1).toNat = zcn (fun b => decide (n (295 + b) = nLa n + 1)) 0 (n 0 - n 1).toNat := by
    rw [hcr.2.1 0 (by omega), hcr.2.1 1 (by omega)]
    exact zcn_congr _ _ (fun i hi0 hi1 => by rw [hcr.2.1 (295 + i) (by omega)])
  rw [e3] at hwb
  refine ⟨zw σ2 (nCrs n), ?_, (k2 _).1, zw_at, (k2 _).2⟩
  simp (disch := first | assumption | omega) only [f_X10_crash, f_X10_crash_J18, zp_md0 hW hm, hz, hmt, hm2, hm3, hm4, hth, y1, k1, hla, hs1, hla1, hs2, hla2, hwb, zz_some, zz_lit, zz_num, zI_lt, zI_le, zI_eq, zI_nat, zz_b, if_pos, if_neg, if_true, if_false]
  try simp
theorem e10_crash_no (hW : zWF E) (hm : zU E 3 0 = true) (h1 : σ 3 0 1 = n) (hn : nW n) (hy : nOp n = false) : ∃ σ', f_X10_crash (zH E σ) (zL E 3 0 0) = some (zH E σ', zI 0) ∧ zT σ σ' 1 := by
  obtain ⟨τ, hz⟩ : ∃ y, zs σ 3 0 0 0 0 = y := ⟨_, rfl⟩
  have hzt : zth σ 0 = τ := hz
  have hT : zT σ τ 0 := hzt ▸ zT.th σ 0
  have h11 : τ 3 0 1 = n := hT.n.trans h1
  have h00 : τ 3 0 0 0 = 0 := hT.2.2
  have hN' := hn.1.r
  have hmt := zz_mdo (σ := τ) hW hm
  have hms := zz_mdo (σ := σ) hW hm
  have y1 := e10_isOpen hW hm h11 hn.1 hn.2.2.2
  rw [hy] at y1
  have h2 := e10_th1 (w := 1) hW hm h00 (by omega) (by omega)
  refine ⟨zth τ 1, ?_, hT.t (zT.th τ 1)⟩
  simp (disch := first | assumption | omega) only [f_X10_crash, f_X10_crash_J18, zp_md0 hW hm, hz, hmt, y1, h2, zz_some, zz_lit, zz_num, zI_lt, zI_le, zI_eq, zI_nat, zz_b, if_pos, if_neg, if_true, if_false]
  try simp

end zMod

/-! find on both sides. -/
def tSp (b : Int → Int) (p : Int) : Bool := decide (b p = 32)
def fE (b : Int → Int) (u : Int) : Int := zrun (tLe b) u.toNat 0
def fS (b : Int → Int) (u : Int) : Int := zrun (tSp b) (u - fE b u).toNat (fE b u)
def fOk (b : Int → Int) (u : Int) : Bool := decide (1 ≤ fE b u ∧ fE b u ≤ 8 ∧ fS b u = u)
def fW (b : Int → Int) (u : Int) : List Int := tLs b (fE b u).toNat 0
theorem fE_rng {b : Int → Int} {u : Int} (h : 0 ≤ u) : 0 ≤ fE b u ∧ fE b u ≤ u := by
  have := zrun_rng (tLe b) u.toNat 0
  unfold fE
  omega
theorem fW_W {b : Int → Int} {u : Int} (h : 0 ≤ u) (h1 : 1 ≤ fE b u) (h2 : fE b u ≤ 8) : zWd (fW b u) := by
  unfold zWd fW
  rw [tLs_len]
  refine ⟨by omega, by omega, fun x hx => ?_⟩
  obtain ⟨j, j1, j2, j3⟩ := tLs_mem _ _ _ hx
  have := zrun_all (P := tLe b) u.toNat 0 j j1 (by unfold fE at j2 h1 h2; omega)
  unfold tLe at this
  rw [j3]
  simpa using this
section zFin
variable {E : zE} {σ : zW} {b : Int → Int} {u : Int}
theorem e3_na_L (hW : zWF E) (hm : zU E 2 0 = true) (hT : zTc σ b u) (h1 : σ 2 0 1 1 = u) (hu0 : 0 ≤ u) {e w : Int} (he0 : 0 ≤ e) : ∀ (m fuel : Nat) (i : Int), e ≤ i → (i = e → i < u → tLe b i = false) → i + m = u → m < fuel → f_X3_nameAlone_L7 (zH E σ) fuel (zL E 2 0 1) (zI e) (zJ w) (zI i) = some (if (1 ≤ e ∧ e ≤ 8) ∧ zrun (tSp b) m i = u then zJ w else zJ (-1)) := by
  have hL := hT.1
  have g1 := (zz_inp (σ := σ) hW hm).2.1
  rw [h1] at g1
  have ip := (zz_inpo (σ := σ) hW hm).2
  have em : (-1 : Int64) = zJ (-1) := rfl
  intro m
  induction m with
  | zero =>
    intro fuel i h0 hne h2 hf
    obtain ⟨f, rfl, _⟩ := zfuel hf
    have c1 : u ≤ i := by omega
    have hz : zrun (tSp b) 0 i = u := by show i = u; omega
    by_cases c2 : e < 1
    · rw [if_neg (by omega)]
      simp (disch := first | assumption | omega) only [f_X3_nameAlone_L7, g1, c1, c2, em, zz_some, zz_lit, zz_num, zI_lt, zI_le, zI_eq, zI_nat, zz_b, if_pos, if_neg, if_true, if_false]
    · by_cases c3 : 8 < e
      · rw [if_neg (by omega)]
        simp (disch := first | assumption | omega) only [f_X3_nameAlone_L7, g1, c1, c2, c3, em, zz_some, zz_lit, zz_num, zI_lt, zI_le, zI_eq, zI_nat, zz_b, if_pos, if_neg, if_true, if_false]
      · rw [if_pos ⟨by omega, hz⟩]
        simp (disch := first | assumption | omega) only [f_X3_nameAlone_L7, g1, c1, c2, c3, zz_some, zz_lit, zz_num, zI_lt, zI_le, zI_eq, zI_nat, zz_b, if_pos, if_neg, if_true, if_false]
  | succ m ih =>
    intro fuel i h0 hne h2 hf
    obtain ⟨f, rfl, hf2⟩ := zfuel hf
    have c1 : ¬ u ≤ i := by omega
    have pb := e3_byteAt hW hm hT (i := i) (by omega) (by omega)
    have hb := (hT.2 i (by omega) (by omega)).1
    have hl := e9_isLetter (G := zH E σ) (x := b i) (by omega) (by omega)
    have hle : decide (97 ≤ b i ∧ b i ≤ 122) = tLe b i := rfl
    rw [hle] at hl
    have hr := ih f (i + 1) (by omega) (fun z => by omega) (by omega) (by omega)
    rw [zrun]
    by_cases c2 : b i = 32
    · have hn : tLe b i = false := by unfold tLe; rw [c2]; decide
      rw [hn] at hl
      rw [if_pos (show tSp b i = true by unfold tSp; simp [c2]), ← hr]
      rw [c2] at hl pb
      simp (disch := first | assumption | omega) only [f_X3_nameAlone_L7, f_X3_nameAlone_J51, g1, c1, ip, pb, hl, zz_some, zz_lit, zz_num, zI_lt, zI_le, zI_eq, zI_nat, zz_b, if_pos, if_neg, if_true, if_false]
    · rw [if_neg (show ¬ tSp b i = true by unfold tSp; simp [c2]), if_neg (by omega)]
      have hj : f_X3_nameAlone_J51 (zH E σ) (f_X3_nameAlone_L7 (zH E σ) f) (zL E 2 0 1) (zI e) (zJ w) (zI i) (zI (b i)) = some (zJ (-1)) := by
        simp (disch := first | assumption | omega) only [f_X3_nameAlone_J51, c2, em, zz_some, zz_lit, zz_num, zI_lt, zI_le, zI_eq, zI_nat, zz_b, if_pos, if_neg, if_true, if_false]
      by_cases c3 : tLe b i = true
      · have hei : ¬ e = i := fun z => by
          have := hne z.symm (by omega)
          rw [c3] at this
          cases this
        rw [c3] at hl
        simp (disch := first | assumption | omega) only [f_X3_nameAlone_L7, g1, c1, ip, pb, hl, hei, hj, Bool.true_eq_false, zz_some, zz_lit, zz_num, zI_lt, zI_le, zI_eq, zI_nat, zz_b, if_pos, if_neg, if_true, if_false]
      · rw [show tLe b i = false by simpa using c3] at hl
        simp (disch := first | assumption | omega) only [f_X3_nameAlone_L7, g1, c1, ip, pb, hl, hj, zz_some, zz_lit, zz_num, zI_lt, zI_le, zI_eq, zI_nat, zz_b, if_pos, if_neg, if_true, if_false]
theorem e3_na_L2 (hW : zWF E) (hm : zU E 2 0 = true) (hT : zTc σ b u) (h1 : σ 2 0 1 1 = u) (hu0 : 0 ≤ u) : ∀ (m fuel : Nat) (e : Int), 0 ≤ e → e + m = u → m < fuel → f_X3_nameAlone_L7 (zH E σ) fuel (zL E 2 0 1) (zI e) (zJ (zw27 (tLs b e.toNat 0))) (zI e) = f_X3_nameAlone_L7 (zH E σ) (fuel - (zrun (tLe b) m e - e).toNat) (zL E 2 0 1) (zI (zrun (tLe b) m e)) (zJ (zw27 (tLs b (zrun (tLe b) m e).toNat 0))) (zI (zrun (tLe b) m e)) := by
  have hL := hT.1
  have g1 := (zz_inp (σ := σ) hW hm).2.1
  rw [h1] at g1
  have ip := (zz_inpo (σ := σ) hW hm).2
  intro m
  induction m with
  | zero =>
    intro fuel e h0 h2 hf
    have e0 : zrun (tLe b) 0 e = e := rfl
    rw [e0, show (e - e).toNat = 0 by omega, Nat.sub_zero]
  | succ m ih =>
    intro fuel e h0 h2 hf
    obtain ⟨f, rfl, hf2⟩ := zfuel hf
    have c1 : ¬ u ≤ e := by omega
    have pb := e3_byteAt hW hm hT (i := e) (by omega) (by omega)
    have hb := (hT.2 e (by omega) (by omega)).1
    have hl := e9_isLetter (G := zH E σ) (x := b e) (by omega) (by omega)
    have hle : decide (97 ≤ b e ∧ b e ≤ 122) = tLe b e := rfl
    rw [hle] at hl
    have hr := ih f (e + 1) (by omega) (by omega) (by omega)
    rw [zrun]
    by_cases c2 : tLe b e = true
    · rw [if_pos c2]
      have hz := zrun_rng (tLe b) m (e + 1)
      rw [show f + 1 - (zrun (tLe b) m (e + 1) - e).toNat = f - (zrun (tLe b) m (e + 1) - (e + 1)).toNat by omega, ← hr]
      rw [c2] at hl
      have hw := e9_withLetter (G := zH E σ) (v := zw27 (tLs b e.toNat 0)) (x := b e) (by omega) (by omega)
      have hv : zw27 (tLs b e.toNat 0) * 27 + (b e - 97 + 1) = zw27 (tLs b (e + 1).toNat 0) := by
        rw [show (e + 1).toNat = e.toNat + 1 by omega, tLs_snoc, show (0 : Int) + (e.toNat : Int) = e by omega]
        unfold zw27
        rw [List.foldl_append]
        rfl
      rw [hv] at hw
      simp (disch := first | assumption | omega) only [f_X3_nameAlone_L7, g1, c1, ip, pb, hl, hw, Bool.true_eq_false, zz_some, zz_lit, zz_num, zI_lt, zI_le, zI_eq, zI_nat, zz_b, if_pos, if_neg, if_true, if_false]
    · rw [if_neg c2, show (e - e).toNat = 0 by omega, Nat.sub_zero]
theorem e3_nameAlone (hW : zWF E) (hm : zU E 2 0 = true) (hT : zTc σ b u) (h1 : σ 2 0 1 1 = u) (hu0 : 0 ≤ u) : f_X3_nameAlone (zH E σ) (zL E 2 0 1) = some (if fOk b u = true then zJ (zw27 (fW b u)) else zJ (-1)) := by
  have hL := hT.1
  have hr := fE_rng (b := b) hu0
  have a := e3_na_L2 hW hm hT h1 hu0 u.toNat g_N 0 (Int.le_refl _) (by omega) (by unfold g_N; omega)
  have hfe : zrun (tLe b) u.toNat 0 = fE b u := rfl
  rw [hfe] at a
  have c := e3_na_L hW hm hT h1 hu0 (e := fE b u) (w := zw27 (tLs b (fE b u).toNat 0)) hr.1 (u - fE b u).toNat (g_N - (fE b u - 0).toNat) (fE b u) (Int.le_refl _) (fun _ hlt => by
    have := zrun_stop (P := tLe b) u.toNat 0 (by rw [hfe]; omega)
    rw [hfe] at this
    exact this) (by omega) (by unfold g_N; omega)
  unfold f_X3_nameAlone
  refine (a.trans c).trans (congrArg some ?_)
  by_cases h : fOk b u = true
  · rw [if_pos h]
    have := of_decide_eq_true h
    rw [if_pos ⟨⟨this.1, this.2.1⟩, this.2.2⟩]
    rfl
  · rw [if_neg h]
    have := fun z => h (decide_eq_true (p := 1 ≤ fE b u ∧ fE b u ≤ 8 ∧ fS b u = u) z)
    rw [if_neg (fun z => this ⟨z.1.1, z.1.2, z.2⟩)]
theorem e9_find (hW : zWF E) (hm : zU E 2 0 = true) (hT : zTc σ b u) (h1 : σ 2 0 1 1 = u) (hu0 : 0 ≤ u) {d : Nat} (hd : (σ 2 0 0 5).toNat = d) (hu : zU E 0 d = true) {n : zN} {wd : Int → List Int} (hS : zSw σ d n wd) : f_X9_find (zH E σ) (zL E 2 0 0) = some (zH E (zs σ 2 0 1 1 0), zI (if fOk b u = true then fNm wd n (fW b u) else -1)) := by
  have hL := hT.1
  have hr := fE_rng (b := b) hu0
  have m0 := zg_ma0 (σ := σ) hW hm
  have ip := (zz_inpo (σ := σ) hW hm).2
  have na := e3_nameAlone hW hm hT h1 hu0
  have p1 := (zz_inp (σ := σ) hW hm).2.2.1 0
  have m5 := zg_ma5 (σ := zs σ 2 0 1 1 0) hW hm
  rw [zs_ne (by omega), hd] at m5
  have hS' : zSw (zs σ 2 0 1 1 0) d n wd := hS.cg (funext fun c => zs_ne (by omega))
  have od : g_ob (zH E (zs σ 2 0 1 1 0)) (zL E 0 d 0) 1 = some () := by simp only [zz_dco (σ := zs σ 2 0 1 1 0) hW hu]
  have em : (-1 : Int64) = zJ (-1) := rfl
  by_cases h : fOk b u = true
  · rw [if_pos h] at na ⊢
    have h' := of_decide_eq_true h
    have hw := fW_W hu0 h'.1 h'.2.1
    have rg := zw27_rng hw
    have nm := hS'.nm hW hu hw
    have hc : (lg_cmp (zJ (zw27 (fW b u))) (zJ (-1)) = zI 0) = False := by
      rw [show (zI 0 : Int32) = 0 from rfl, lg_cmp0, zJ_eq (by omega) (by omega) (by omega) (by omega)]
      exact eq_false (by omega)
    simp (disch := first | assumption | omega) only [f_X9_find, m0, ip, na, p1, em, hc, m5, od, nm, zz_some, zz_lit, zz_num, zI_lt, zI_le, zI_eq, zI_nat, zz_b, if_pos, if_neg, if_true, if_false]
  · rw [if_neg h] at na ⊢
    have hc : (lg_cmp (zJ (-1)) (zJ (-1)) = zI 0) = True := by
      rw [show (zI 0 : Int32) = 0 from rfl, lg_cmp0]
      exact eq_true rfl
    simp (disch := first | assumption | omega) only [f_X9_find, m0, ip, na, p1, em, hc, zz_some, zz_lit, zz_num, zI_lt, zI_le, zI_eq, zI_nat, zz_b, if_pos, if_neg, if_true, if_false]
theorem e10_find_L (hW : zWF E) (hm : zU E 3 0 = true) {n : zN} (hn : nW n) {wd : Int → List Int} {w : List Int} {e : Int} (he0 : 0 ≤ e) (he : e ≤ 600) (hw : 1 ≤ e → e ≤ 8 → zWd w) : ∀ (m fuel : Nat) (σ : zW) (i : Int), zTm σ b u → σ 3 0 0 5 = u → σ 3 0 0 7 = i → σ 3 0 1 = n → (1 ≤ e → e ≤ 8 → σ 3 0 0 10 = zw8 w) → (∀ k, 0 ≤ k → k < n 2 → zWd (wd k) ∧ σ 3 0 2 k = zw8 (wd k)) → 0 ≤ i → i + m = u → m < fuel → ∃ σ', f_X10_find_L37 fuel (zH E σ) (zL E 3 0 0) (zI e) = some (zH E σ', zI (if (1 ≤ e ∧ e ≤ 8) ∧ zrun (tSp b) m i = u then fNm wd n w else -1)) ∧ zMf σ σ' := by
  intro m
  induction m with
  | zero =>
    intro fuel σ i hT h5 h7 h1 h10 hnm h0 h2 hf
    obtain ⟨f, rfl, _⟩ := zfuel hf
    have hL := hT.1
    have hN := hn.1.r
    have g7 := zg_md7 (σ := σ) hW hm
    rw [h7] at g7
    have g5 := zg_md5 (σ := σ) hW hm
    rw [h5] at g5
    have od : g_ob (zH E σ) (zL E 3 0 0) 10 = some () := by simp only [zz_mdo (σ := σ) hW hm]
    have pb := e10_byteAt hW hm hT h5 (i := i) (by omega) (by omega)
    rw [if_neg (by omega)] at pb
    have n1 : ¬ (-1 : Int) = 32 := by omega
    have hz : zrun (tSp b) 0 i = u := by show i = u; omega
    refine ⟨σ, ?_, zMf.rf⟩
    by_cases c2 : e = 0
    · rw [if_neg (by omega)]
      simp (disch := first | assumption | omega) only [f_X10_find_L37, g7, od, pb, n1, c2, zz_some, zz_lit, zz_num, zI_lt, zI_le, zI_eq, zI_nat, zz_b, if_pos, if_neg, if_true, if_false]
    · by_cases c3 : 8 < e
      · rw [if_neg (by omega)]
        simp (disch := first | assumption | omega) only [f_X10_find_L37, g7, od, pb, n1, c2, c3, zz_some, zz_lit, zz_num, zI_lt, zI_le, zI_eq, zI_nat, zz_b, if_pos, if_neg, if_true, if_false]
      · rw [if_pos ⟨by omega, hz⟩]
        have c4 : u ≤ i := by omega
        have m2 := zg_md2 (σ := σ) hW hm
        have m1 := zg_md1 (σ := σ) hW hm
        have al := zAld (σ := σ) (t := 0) (n := 1555) hW hm (k := 3) (d := 0) (c := 1) rfl (by decide) (by decide) (i := 2) (by omega) (by omega)
        rw [h1] at al
        have g10 := zg_md10 (σ := σ) hW hm
        rw [h10 (by omega) (by omega)] at g10
        have nm : f_X10_named (zH E σ) (zL E 3 0 2) (zI (n 2)) (zJ (zw8 w)) = some (zI (fNm wd n w)) := e10_named hW hm (Or.inl rfl) hN.2.2.1.1 hN.2.2.1.2 hnm (hw (by omega) (by omega))
        simp (disch := first | assumption | omega) only [f_X10_find_L37, g7, g5, od, pb, n1, c2, c3, c4, m2, m1, al, g10, nm, zz_some, zz_lit, zz_num, zI_lt, zI_le, zI_eq, zI_nat, zz_b, if_pos, if_neg, if_true, if_false]
  | succ m ih =>
    intro fuel σ i hT h5 h7 h1 h10 hnm h0 h2 hf
    obtain ⟨f, rfl, hf2⟩ := zfuel hf
    have hL := hT.1
    have g7 := zg_md7 (σ := σ) hW hm
    rw [h7] at g7
    have g5 := zg_md5 (σ := σ) hW hm
    rw [h5] at g5
    have od : g_ob (zH E σ) (zL E 3 0 0) 10 = some () := by simp only [zz_mdo (σ := σ) hW hm]
    have pb := e10_byteAt hW hm hT h5 (i := i) (by omega) (by omega)
    rw [if_pos (by omega)] at pb
    have hb := (hT.2 i (by omega) (by omega)).1
    rw [zrun]
    by_cases c2 : b i = 32
    · rw [if_pos (show tSp b i = true by unfold tSp; simp [c2])]
      have p7 := zp_md7 (σ := σ) hW hm (i + 1)
      obtain ⟨σ', y1, y2⟩ := ih f (zs σ 3 0 0 7 (i + 1)) (i + 1) (hT.cg (zs_ne (by omega))) (by rw [zs_at, if_neg (by omega)]; exact h5) (by rw [zs_at, if_pos rfl]) (by rw [zs_ne (by omega)]; exact h1) (fun a c => by rw [zs_at, if_neg (by omega)]; exact h10 a c) (fun k k0 k1 => by rw [zs_ne (by omega)]; exact hnm k k0 k1) (by omega) (by omega) (by omega)
      refine ⟨σ', ?_, (zMf.s (by omega) (by omega)).tr y2⟩
      rw [← y1]
      simp (disch := first | assumption | omega) only [f_X10_find_L37, g7, od, pb, c2, p7, zz_some, zz_lit, zz_num, zI_lt, zI_le, zI_eq, zI_nat, zz_b, if_pos, if_neg, if_true, if_false]
    · rw [if_neg (show ¬ tSp b i = true by unfold tSp; simp [c2])]
      refine ⟨σ, ?_, zMf.rf⟩
      rw [if_neg (by omega)]
      have c4 : ¬ u ≤ i := by omega
      by_cases c5 : e = 0
      · simp (disch := first | assumption | omega) only [f_X10_find_L37, g7, od, pb, c2, c5, zz_some, zz_lit, zz_num, zI_lt, zI_le, zI_eq, zI_nat, zz_b, if_pos, if_neg, if_true, if_false]
      · by_cases c3 : 8 < e
        · simp (disch := first | assumption | omega) only [f_X10_find_L37, g7, od, pb, c2, c5, c3, zz_some, zz_lit, zz_num, zI_lt, zI_le, zI_eq, zI_nat, zz_b, if_pos, if_neg, if_true, if_false]
        · simp (disch := first | assumption | omega) only [f_X10_find_L37, g7, g5, od, pb, c2, c5, c3, c4, zz_some, zz_lit, zz_num, zI_lt, zI_le, zI_eq, zI_nat, zz_b, if_pos, if_neg, if_true, if_false]
theorem e10_find (hW : zWF E) (hm : zU E 3 0 = true) (hT : zTm σ b u) (h4 : σ 3 0 0 4 = u) {n : zN} (h1 : σ 3 0 1 = n) (hn : nW n) {wd : Int → List Int} (hnm : ∀ k, 0 ≤ k → k < n 2 → zWd (wd k) ∧ σ 3 0 2 k = zw8 (wd k)) : ∃ σ', f_X10_find (zH E σ) (zL E 3 0 0) = some (zH E σ', zI (if fOk b u = true then fNm wd n (fW b u) else -1)) ∧ (∀ k d c, ¬ (k = 3 ∧ d = 0 ∧ c = 0) → σ' k d c = σ k d c) ∧ (∀ i, i ≠ 0 → i < 4 ∨ 10 < i → σ' 3 0 0 i = σ 3 0 0 i) ∧ σ' 3 0 0 0 = 0 ∧ σ' 3 0 0 4 = 0 := by
  have hL := hT.1
  obtain ⟨τ, hτ⟩ : ∃ τ, τ = zs (zs (zs (zs (zth σ 0) 3 0 0 5 u) 3 0 0 4 0) 3 0 0 6 0) 3 0 0 7 0 := ⟨_, rfl⟩
  have p0 := zp_md0 (σ := σ) hW hm 0
  have h : zs σ 3 0 0 0 0 = zth σ 0 := rfl
  rw [h] at p0
  have g4 := zg_md4 (σ := zth σ 0) hW hm
  rw [zth_i (by omega), h4] at g4
  have q5 := zp_md5 (σ := zth σ 0) hW hm u
  have q4 := zp_md4 (σ := zs (zth σ 0) 3 0 0 5 u) hW hm 0
  have q6 := zp_md6 (σ := zs (zs (zth σ 0) 3 0 0 5 u) 3 0 0 4 0) hW hm 0
  have q7 := zp_md7 (σ := zs (zs (zs (zth σ 0) 3 0 0 5 u) 3 0 0 4 0) 3 0 0 6 0) hW hm 0
  rw [← hτ] at q7
  have f1 : ∀ k d c, ¬ (k = 3 ∧ d = 0 ∧ c = 0) → τ k d c = σ k d c := fun k d c z => by
    rw [hτ]
    unfold zth
    rw [zs_ne (by omega), zs_ne (by omega), zs_ne (by omega), zs_ne (by omega), zs_ne (by omega)]
  have f2 : ∀ i, i ≠ 0 → i < 4 ∨ 10 < i → τ 3 0 0 i = σ 3 0 0 i := fun i i0 z => by
    rw [hτ]
    unfold zth
    rw [zs_at, if_neg (by omega), zs_at, if_neg (by omega), zs_at, if_neg (by omega), zs_at, if_neg (by omega), zs_at, if_neg i0]
  have v0 : τ 3 0 0 0 = 0 := by
    rw [hτ]
    unfold zth
    rw [zs_at, if_neg (by omega), zs_at, if_neg (by omega), zs_at, if_neg (by omega), zs_at, if_neg (by omega), zs_at, if_pos rfl]
  have v4 : τ 3 0 0 4 = 0 := by rw [hτ, zs_at, if_neg (by omega), zs_at, if_neg (by omega), zs_at, if_pos rfl]
  have v5 : τ 3 0 0 5 = u := by rw [hτ, zs_at, if_neg (by omega), zs_at, if_neg (by omega), zs_at, if_neg (by omega), zs_at, if_pos rfl]
  have v6 : τ 3 0 0 6 = 0 := by rw [hτ, zs_at, if_neg (by omega), zs_at, if_pos rfl]
  have v7 : τ 3 0 0 7 = 0 := by rw [hτ, zs_at, if_pos rfl]
  have hTt : zTm τ b u := hT.cg (f1 3 0 3 (by omega))
  obtain ⟨σ1, a1, a2, a3, a4, a5, a6, a7⟩ := e10_takesLetters hW hm hTt v5 (Int.le_refl _) hL.1 v6 v7
  have hr := fE_rng (b := b) hL.1
  have eE : zrun (tLe b) (u - 0).toNat 0 = fE b u := by unfold fE; rw [Int.sub_zero]
  rw [eE] at a6 a7
  have od : g_ob (zH E τ) (zL E 3 0 0) 10 = some () := by simp only [zz_mdo (σ := τ) hW hm]
  have g7 := zg_md7 (σ := σ1) hW hm
  rw [a6] at g7
  obtain ⟨σ2, d1, d2⟩ := e10_find_L (b := b) (u := u) (n := n) (wd := wd) (w := fW b u) (e := fE b u) hW hm hn hr.1 (by omega) (fun x y => fW_W hL.1 x y) (u - fE b u).toNat g_N σ1 (fE b u) (hTt.f a2) (by rw [a2.2 5 (by omega)]; exact v5) a6 (by rw [a2.1 3 0 1 (by omega), f1 3 0 1 (by omega)]; exact h1) (fun x y => by
    rw [a7, show (min (fE b u - 0) 8).toNat = (fE b u).toNat by omega]
    rfl) (fun k k0 k1 => by rw [a2.1 3 0 2 (by omega), f1 3 0 2 (by omega)]; exact hnm k k0 k1) hr.1 (by omega) (by unfold g_N; omega)
  have hif : (if (1 ≤ fE b u ∧ fE b u ≤ 8) ∧ zrun (tSp b) (u - fE b u).toNat (fE b u) = u then fNm wd n (fW b u) else -1) = (if fOk b u = true then fNm wd n (fW b u) else -1) := by
    by_cases h : fOk b u = true
    · rw [if_pos h]
      have := of_decide_eq_true h
      rw [if_pos ⟨⟨this.1, this.2.1⟩, this.2.2⟩]
    · rw [if_neg h]
      have := fun z => h (decide_eq_true (p := 1 ≤ fE b u ∧ fE b u ≤ 8 ∧ fS b u = u) z)
      rw [if_neg (fun z => this ⟨z.1.1, z.1.2, z.2⟩)]
  rw [hif] at d1
  refine ⟨σ2, ?_, fun k d c z => by rw [d2.1 k d c z, a2.1 k d c z, f1 k d c z], fun i i0 z => by rw [d2.2 i (by omega), a2.2 i (by omega), f2 i i0 z], ?_, ?_⟩
  · simp (disch := first | assumption | omega) only [f_X10_find, p0, g4, q5, q4, q6, q7, od, a1, g7, d1, zz_some, zz_lit, zz_num, zI_lt, zI_le, zI_eq, zI_nat, zz_b, if_pos, if_neg, if_true, if_false]
  · rw [d2.2 0 (by omega), a2.2 0 (by omega)]; exact v0
  · rw [d2.2 4 (by omega), a2.2 4 (by omega)]; exact v4
end zFin

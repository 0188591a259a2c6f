/-! The reference's parser: the whole text. -/
theorem nErs_2 {n : zN} (hn : nW n) {f : Int} (hT : nTm n = false) : nErs n f 2 = n 2 := by
  obtain ⟨a1, a2⟩ := nBi_W hn hT
  obtain ⟨h3, hst⟩ := nOp_iff.mp a2
  have hla : nLa (nBi n) = nBi n 3 - 1 := rfl
  have hs := (a1.2.2.2 (nLa (nBi n)) (by omega) (by omega)).2.2.2.1.1
  have hN := hn.1.r
  unfold nErs
  rw [nE1_lo (by omega) hs (by omega), nBi_lo (by omega) (by omega) (by omega)]
theorem nWrs_2 {n : zN} (hn : nW n) {f m tag : Int} (hf0 : 0 ≤ f) (hf1 : f < n 2) (hm0 : 1 ≤ m) (hm1 : m ≤ 8) (ht0 : 0 ≤ tag) (ht1 : tag ≤ 999) (h : nWw n f m = 0) : nWrs n f m tag 2 = n 2 := by
  obtain ⟨a1, a2, ⟨b1, b2, b3, b4, b5, b6⟩, c1, c2⟩ := nWrs_W hn hf0 hf1 hm0 hm1 ht0 ht1 h
  obtain ⟨h3, hst⟩ := nOp_iff.mp a2
  have hla : nLa (nBi n) = nBi n 3 - 1 := rfl
  have hN := hn.1.r
  have e3 := b5 3 (by omega) (Or.inl (by omega))
  have e2 := b5 2 (by omega) (Or.inl (by omega))
  have e := nWl_W (kind := 1) (se := nLa (nBi n)) (v := n 6) m.toNat (nAdd (nBi n) f m tag) 0 b1 b2 (by omega) b4 (Or.inl rfl) (by omega) (by omega) (by omega) (by omega) (fun _ => by omega) (by omega) (by omega)
  obtain ⟨X, hX⟩ : ∃ X, X = nWl 1 (nLa (nBi n)) (n 6) (nAdd (nBi n) f m tag) 0 m.toNat := ⟨_, rfl⟩
  unfold nWrs
  rw [← hX] at c1 e ⊢
  have x3 := e.2.2.2 3 (by omega) (Or.inl (by omega))
  have x2 := e.2.2.2 2 (by omega) (Or.inl (by omega))
  have hlx : nLa X = X 3 - 1 := rfl
  have hs := (c1.2.2.2 (nLa X) (by omega) (by omega)).2.2.2.1.1
  rw [nE1_lo (by omega) hs (by omega), x2, e2, nBi_lo (by omega) (by omega) (by omega)]
theorem nWe_T {n : zN} {f : Int} (h : nWe n f = 0) : nTm n = false := by
  unfold nWe at h
  revert h
  repeat' split
  all_goals first
    | (intro h9; exact absurd h9 (by omega))
    | (intro _; simp_all)
section zPar
variable {E : zE} {σ : zW} {b : Int → Int} {L : Int} {n : zN} {wd : Int → List Int}
theorem e10_statement (hW : zWF E) (hm : zU E 3 0 = true) (hT : zTm σ b L) (h5 : σ 3 0 0 5 = L) (h11 : σ 3 0 0 11 = 0) (hS : zSm σ n wd) {q : Int} (hP : zPm σ b L q) (hq0 : 0 ≤ q) (hq : q ≤ L) : ∃ σ', f_X10_statement (zH E σ) (zL E 3 0 0) = some (zH E σ', zI (zb (decide ((eStm b L q n wd).1 = 0)))) ∧ zMd σ σ' ∧ zSx σ σ' b L (eStm b L q n wd) (pStm b L q) (nStm b L q n wd) (wStm b L q n wd) := by
  have hsq := tS_rng (b := b) hq
  have heq := tE_rng (b := b) hq
  have hL6 := hT.1
  have hn := hS.2.1
  have od : g_ob (zH E σ) (zL E 3 0 0) 10 = some () := by simp only [zz_mdo (σ := σ) hW hm]
  have g6 := zg_md6 (σ := σ) hW hm
  rw [hP.1] at g6
  have i1 := e10_isWord hW hm hT hq0 hq hP (j := 1) (by omega)
  have i2 := e10_isWord hW hm hT hq0 hq hP (j := 2) (by omega)
  have i3 := e10_isWord hW hm hT hq0 hq hP (j := 3) (by omega)
  have i4 := e10_isWord hW hm hT hq0 hq hP (j := 4) (by omega)
  have i5 := e10_isWord hW hm hT hq0 hq hP (j := 5) (by omega)
  unfold eStm nStm wStm pStm
  by_cases c1 : tIs b L q 1 = true
  · rw [zb_pos c1] at i1
    simp only [if_pos c1]
    obtain ⟨σ', x1, x2, x3⟩ := e10_badLine hW hm hT h5 h11 hS hP.2.1 (by omega) heq.2.1
    refine ⟨σ', ?_, x2, x3⟩
    simp (disch := first | assumption | omega) only [f_X10_statement, g6, od, i1, x1, zz_some, zz_lit, zz_num, zI_lt, zI_le, zI_eq, zI_nat, zz_b, if_pos, if_neg, if_true, if_false]
  · rw [zb_neg (by simpa using c1)] at i1
    simp only [if_neg c1]
    by_cases c2 : tIs b L q 2 = true
    · rw [zb_pos c2] at i2
      simp only [if_pos c2]
      obtain ⟨σ', x1, x2, x3⟩ := e10_fileLine hW hm hT h5 h11 hS hP.1 hP.2.1 (by omega) heq.2.1
      refine ⟨σ', ?_, x2, x3⟩
      simp (disch := first | assumption | omega) only [f_X10_statement, g6, od, i1, i2, x1, zz_some, zz_lit, zz_num, zI_lt, zI_le, zI_eq, zI_nat, zz_b, if_pos, if_neg, if_true, if_false]
    · rw [zb_neg (by simpa using c2)] at i2
      simp only [if_neg c2]
      by_cases c3 : tIs b L q 3 = true
      · rw [zb_pos c3] at i3
        simp only [if_pos c3]
        obtain ⟨σ', x1, x2, x3⟩ := e10_writeLine (q := q) hW hm hT h5 h11 hS hP.2.1 (by omega) heq.2.1 (fun f m t a0 a1 a2 a3 a4 a5 a6 => nWrs_2 hn a0 a1 a2 a3 a4 a5 a6)
        refine ⟨σ', ?_, x2, x3⟩
        simp (disch := first | assumption | omega) only [f_X10_statement, g6, od, i1, i2, i3, x1, zz_some, zz_lit, zz_num, zI_lt, zI_le, zI_eq, zI_nat, zz_b, if_pos, if_neg, if_true, if_false]
      · rw [zb_neg (by simpa using c3)] at i3
        simp only [if_neg c3]
        by_cases c4 : tIs b L q 4 = true
        · rw [zb_pos c4] at i4
          simp only [if_pos c4]
          obtain ⟨σ', x1, x2, x3⟩ := e10_eraseLine (q := q) hW hm hT h5 h11 hS hP.2.1 (by omega) heq.2.1 (fun f a0 a1 a2 => nErs_2 hn (nWe_T a2))
          refine ⟨σ', ?_, x2, x3⟩
          simp (disch := first | assumption | omega) only [f_X10_statement, g6, od, i1, i2, i3, i4, x1, zz_some, zz_lit, zz_num, zI_lt, zI_le, zI_eq, zI_nat, zz_b, if_pos, if_neg, if_true, if_false]
        · rw [zb_neg (by simpa using c4)] at i4
          simp only [if_neg c4]
          by_cases c5 : tIs b L q 5 = true
          · rw [zb_pos c5] at i5
            simp only [if_pos c5]
            obtain ⟨σ', x1, x2, x3⟩ := e10_closeLine (q := q) hW hm hT h5 h11 hS hP.2.1 (by omega) heq.2.1
            refine ⟨σ', ?_, x2, x3⟩
            simp (disch := first | assumption | omega) only [f_X10_statement, g6, od, i1, i2, i3, i4, i5, x1, zz_some, zz_lit, zz_num, zI_lt, zI_le, zI_eq, zI_nat, zz_b, if_pos, if_neg, if_true, if_false]
          · rw [zb_neg (by simpa using c5)] at i5
            simp only [if_neg c5]
            rw [zb_dneg (show ¬ ((1, tS b L q) : Int × Int).1 = 0 by simp)]
            have fl := e10_fails hW hm h11 (w := 1) hP.1
            refine ⟨zMl σ (1, tS b L q), ?_, zMl.g.d, zSx.no (by simp) (zMl.r (by simp))⟩
            simp (disch := first | assumption | omega) only [f_X10_statement, g6, od, i1, i2, i3, i4, i5, fl, zz_some, zz_lit, zz_num, zI_lt, zI_le, zI_eq, zI_nat, zz_b, if_pos, if_neg, if_true, if_false]
theorem e10_ps_stop {f : Nat} : f_X10_parse_L101 (f + 1) (zH E σ) (zL E 3 0 0) (zI 0) = f_X10_parse_J135 (zH E σ) (zL E 3 0 0) (zI 0) := by
  simp (disch := first | assumption | omega) only [f_X10_parse_L101, zz_some, zz_lit, zz_num, zI_lt, zI_le, zI_eq, zI_nat, zz_b, if_pos, if_neg, if_true, if_false]
theorem e10_ps_L (hW : zWF E) (hm : zU E 3 0 = true) : ∀ (m fuel : Nat) (σ : zW) (q : Int) (n : zN) (wd : Int → List Int), zTm σ b L → σ 3 0 0 5 = L → σ 3 0 0 11 = 0 → zSm σ n wd → zPm σ b L q → 0 ≤ q → q ≤ L → L ≤ q + m → m < fuel → ∃ σ', f_X10_parse_L101 fuel (zH E σ) (zL E 3 0 0) (zI 1) = f_X10_parse_J135 (zH E σ') (zL E 3 0 0) (zI (zb (decide ((pAll b L m q n wd).1.1 = 0)))) ∧ zMd σ σ' ∧ zMr σ σ' (pAll b L m q n wd).1 ∧ ((pAll b L m q n wd).1.1 = 0 → zSm σ' (pAll b L m q n wd).2.1 (pAll b L m q n wd).2.2) := by
  intro m
  induction m with
  | zero =>
    intro fuel σ q n wd hT h5 h11 hS hP hq0 hq hLq hf
    obtain ⟨f, rfl, _⟩ := zfuel hf
    have hs := tS_rng (b := b) hq
    have k0 : tK b L q = 0 := (tK_0 hq).mpr (by omega)
    have g8 := zg_md8 (σ := σ) hW hm
    rw [hP.2.2.1, k0] at g8
    have n1 : ¬ (1 : Int) = 0 := by omega
    refine ⟨σ, ?_, zMd.rf, ⟨fun _ => ⟨rfl, rfl⟩, fun z => absurd rfl z⟩, fun _ => hS⟩
    rw [show zb (decide ((pAll b L 0 q n wd).1.1 = 0)) = 1 from rfl]
    simp (disch := first | assumption | omega) only [f_X10_parse_L101, n1, g8, zz_some, zz_lit, zz_num, zI_lt, zI_le, zI_eq, zI_nat, zz_b, if_pos, if_neg, if_true, if_false]
  | succ m ih =>
    intro fuel σ q n wd hT h5 h11 hS hP hq0 hq hLq hf
    obtain ⟨f, rfl, hf2⟩ := zfuel hf
    obtain ⟨f2, hf3, _⟩ := zfuel (show m < f by omega)
    have hk := tK_rng (b := b) (L := L) (p := q)
    have n1 : ¬ (1 : Int) = 0 := by omega
    have g8 := zg_md8 (σ := σ) hW hm
    rw [hP.2.2.1] at g8
    by_cases c1 : tK b L q = 0
    · simp only [pAll, if_pos c1]
      rw [c1] at g8
      refine ⟨σ, ?_, zMd.rf, ⟨fun _ => ⟨rfl, rfl⟩, fun z => absurd rfl z⟩, fun _ => hS⟩
      show f_X10_parse_L101 (f + 1) (zH E σ) (zL E 3 0 0) (zI 1) = f_X10_parse_J135 (zH E σ) (zL E 3 0 0) (zI 1)
      simp (disch := first | assumption | omega) only [f_X10_parse_L101, n1, g8, zz_some, zz_lit, zz_num, zI_lt, zI_le, zI_eq, zI_nat, zz_b, if_pos, if_neg, if_true, if_false]
    · have od : g_ob (zH E σ) (zL E 3 0 0) 10 = some () := by simp only [zz_mdo (σ := σ) hW hm]
      have hq2 := tK_E (b := b) hq c1
      have hpr := pStm_rng (b := b) hq
      obtain ⟨σ1, a1, a2, a3, a4⟩ := e10_statement hW hm hT h5 h11 hS hP hq0 hq
      simp only [pAll, if_neg c1]
      by_cases c2 : (eStm b L q n wd).1 = 0
      · rw [zb_dpos c2] at a1
        simp only [if_pos c2]
        obtain ⟨b5, b6⟩ := a4 c2
        have z1 := a3.1 c2
        have od1 : g_ob (zH E σ1) (zL E 3 0 0) 10 = some () := by simp only [zz_mdo (σ := σ1) hW hm]
        obtain ⟨σ2, d1, d2, d3, d4⟩ := e10_closes (σ := σ1) hW hm (hT.d a2) (by rw [a2.2 5 (by omega)]; exact h5) (by rw [z1.1]; exact h11) b5 (by omega) hpr.2
        have b6' := b6.g d2
        by_cases c3 : (eSem b L (pStm b L q)).1 = 0
        · rw [zb_dpos c3] at d1
          simp only [if_pos c3]
          have he3 := tE_rng (b := b) hpr.2
          have hs3 := tS_rng (b := b) hpr.2
          have z2 := d3.1 c3
          obtain ⟨σ4, y1, y2, y3, y4⟩ := ih f σ2 (tE b L (pStm b L q)) (nStm b L q n wd) (wStm b L q n wd) ((hT.d a2).d d2.d) (by rw [d2.2 5 (by omega), a2.2 5 (by omega)]; exact h5) (by rw [z2.1, z1.1]; exact h11) b6' (d4 c3) (by omega) he3.2.1 (by omega) (by omega)
          refine ⟨σ4, ?_, (a2.tr d2.d).tr y2, zMr.tr ⟨z2.1.trans z1.1, z2.2.trans z1.2⟩ y3, y4⟩
          rw [← y1]
          simp (disch := first | assumption | omega) only [f_X10_parse_L101, n1, g8, c1, od, a1, od1, d1, zz_some, zz_lit, zz_num, zI_lt, zI_le, zI_eq, zI_nat, zz_b, if_pos, if_neg, if_true, if_false]
        · rw [zb_dneg c3] at d1
          simp only [if_neg c3]
          have st := e10_ps_stop (E := E) (σ := σ2) (f := f2)
          rw [← hf3] at st
          refine ⟨σ2, ?_, a2.tr d2.d, zMr.tr z1 d3, fun z => absurd z c3⟩
          rw [zb_dneg c3]
          simp (disch := first | assumption | omega) only [f_X10_parse_L101, n1, g8, c1, od, a1, od1, d1, st, zz_some, zz_lit, zz_num, zI_lt, zI_le, zI_eq, zI_nat, zz_b, if_pos, if_neg, if_true, if_false]
      · rw [zb_dneg c2] at a1
        simp only [if_neg c2]
        have st := e10_ps_stop (E := E) (σ := σ1) (f := f2)
        rw [← hf3] at st
        refine ⟨σ1, ?_, a2, a3, fun z => absurd z c2⟩
        rw [zb_dneg c2]
        simp (disch := first | assumption | omega) only [f_X10_parse_L101, n1, g8, c1, od, a1, st, zz_some, zz_lit, zz_num, zI_lt, zI_le, zI_eq, zI_nat, zz_b, if_pos, if_neg, if_true, if_false]
theorem e10_head (hW : zWF E) (hm : zU E 3 0 = true) (hT : zTm σ b L) (h5 : σ 3 0 0 5 = L) (h11 : σ 3 0 0 11 = 0) (hP0 : zPm σ b L 0) {z : zN} (h1 : σ 3 0 1 = z) : ∃ σ', f_X10_head (zH E σ) (zL E 3 0 0) = some (zH E σ', zI (zb (decide ((eHead b L).1 = 0)))) ∧ zMd σ σ' ∧ zMr σ σ' (eHead b L) ∧ ((eHead b L).1 = 0 → zPm σ' b L (hP b L) ∧ σ' 3 0 1 = zu (zu z 0 (hB b L)) 1 (hS b L)) := by
  have hL6 := hT.1
  have e1 := tE_rng (b := b) (L := L) (p := 0) hL6.1
  have e2 := tE_rng (b := b) e1.2.1
  have e3 := tE_rng (b := b) e2.2.1
  have k1 := tS_rng (b := b) (L := L) (p := 0) hL6.1
  have k2 := tS_rng (b := b) e1.2.1
  have k3 := tS_rng (b := b) e2.2.1
  have od : g_ob (zH E σ) (zL E 3 0 0) 10 = some () := by simp only [zz_mdo (σ := σ) hW hm]
  have iw := e10_isWord hW hm hT (Int.le_refl _) hL6.1 hP0 (j := 0) (by omega)
  unfold eHead
  by_cases c1 : tIs b L 0 0 = true
  · rw [zb_pos c1] at iw
    simp only [if_pos c1]
    obtain ⟨σ1, a1, a2, a3⟩ := e10_starts1 (w := 1) hW hm hT h5 hP0.2.1 (by omega) e1.2.1
    have od1 : g_ob (zH E σ1) (zL E 3 0 0) 10 = some () := by simp only [zz_mdo (σ := σ1) hW hm]
    have v11 : σ1 3 0 0 11 = 0 := by rw [a2.2 11 (by omega)]; exact h11
    have v5 : σ1 3 0 0 5 = L := by rw [a2.2 5 (by omega)]; exact h5
    obtain ⟨σ2, d1, d2, d3, d4⟩ := e10_takes (lo := 8) (hi := 96) hW hm (hT.f a2) v5 v11 a3 (by omega) e1.2.1 (by omega) (by omega) (by omega) (by omega)
    by_cases c2 : (eNum b L (tE b L 0) 8 96).1 = 0
    · rw [zb_dpos c2] at d1
      rw [eTh_ok c2]
      obtain ⟨m1, m2, m3⟩ := eNum_0 c2
      obtain ⟨x1, x2⟩ := d4 c2
      have z2 := d3.1 c2
      obtain ⟨v, hv⟩ : ∃ v, v = tV b L (tE b L 0) := ⟨_, rfl⟩
      have hhB : hB b L = v := hv.symm
      rw [← hv] at m2 m3 x2 ⊢
      have g13 := zg_md13 (σ := σ2) hW hm
      rw [x2] at g13
      have md1 := zg_md1 (σ := σ2) hW hm
      have n21 : σ2 3 0 1 = z := by rw [d2.1 3 0 1 (by omega), a2.1 3 0 1 (by omega)]; exact h1
      have as := zAst (σ := σ2) (t := 0) (n := 1555) hW hm (k := 3) (d := 0) (c := 1) rfl (by decide) (by decide) (i := 0) (v := v) (by omega) (by omega) rfl
      have hw : zs σ2 3 0 1 0 v = zr σ2 3 0 1 (zu z 0 v) := by
        rw [← zs_r, n21]
        rfl
      rw [hw] at as
      obtain ⟨σ3, h33⟩ : ∃ x, x = zr σ2 3 0 1 (zu z 0 v) := ⟨_, rfl⟩
      rw [← h33] at as
      have f3 : zMd σ2 σ3 := by rw [h33]; exact zMd.c (Or.inl rfl)
      have f30 : σ3 3 0 0 = σ2 3 0 0 := by rw [h33, zr_ne (by omega)]
      have n31 : σ3 3 0 1 = zu z 0 v := by rw [h33, zr_at]
      have od3 : g_ob (zH E σ3) (zL E 3 0 0) 10 = some () := by simp only [zz_mdo (σ := σ3) hW hm]
      obtain ⟨σ4, u1, u2, u3, u4⟩ := e10_takes (σ := σ3) (lo := 0) (hi := min 16 (v / 2)) (p := tE b L (tE b L 0)) hW hm (((hT.f a2).d d2.d).d f3) (by rw [f30, d2.2 5 (by omega)]; exact v5) (by rw [f30, z2.1]; exact v11) (x1.cg fun i _ _ => by rw [f30]) (by omega) e2.2.1 (by omega) (by omega) (by omega) (by omega)
      have dv : zI v / zI 2 = zI (v / 2) := by
        rw [zI_div (by omega) (by omega) (by omega) (by omega), Int.tdiv_eq_ediv_of_nonneg (by omega)]
      -- the middle road to J49
      have hJ49 : ∀ r, f_X10_head_J49 (zH E σ2) (zL E 3 0 0) (zI (min 16 (v / 2))) = r → f_X10_head (zH E σ) (zL E 3 0 0) = r := by
        intro r hr
        subst hr
        by_cases c5 : 16 ≤ v / 2
        · rw [show min 16 (v / 2) = 16 by omega]
          simp (disch := first | assumption | omega) only [f_X10_head, od, iw, a1, od1, d1, g13, dv, c5, zz_some, zz_lit, zz_num, zI_lt, zI_le, zI_eq, zI_nat, zz_b, if_pos, if_neg, if_true, if_false]
        · rw [show min 16 (v / 2) = v / 2 by omega]
          simp (disch := first | assumption | omega) only [f_X10_head, od, iw, a1, od1, d1, g13, dv, c5, zz_some, zz_lit, zz_num, zI_lt, zI_le, zI_eq, zI_nat, zz_b, if_pos, if_neg, if_true, if_false]
      by_cases c3 : (eNum b L (tE b L (tE b L 0)) 0 (min 16 (v / 2))).1 = 0
      · rw [zb_dpos c3] at u1
        rw [eTh_ok c3]
        obtain ⟨s1, s2⟩ := u4 c3
        have z3 := u3.1 c3
        have g134 := zg_md13 (σ := σ4) hW hm
        rw [s2] at g134
        have md14 := zg_md1 (σ := σ4) hW hm
        have n41 : σ4 3 0 1 = zu z 0 v := by rw [u2.1 3 0 1 (by omega)]; exact n31
        obtain ⟨w, hw2⟩ : ∃ w, w = tV b L (tE b L (tE b L 0)) := ⟨_, rfl⟩
        have hhS : hS b L = w := hw2.symm
        rw [← hw2] at g134
        have as4 := zAst (σ := σ4) (t := 0) (n := 1555) hW hm (k := 3) (d := 0) (c := 1) rfl (by decide) (by decide) (i := 1) (v := w) (by omega) (by omega) rfl
        have hw4 : zs σ4 3 0 1 1 w = zr σ4 3 0 1 (zu (zu z 0 v) 1 w) := by
          rw [← zs_r, n41]
          rfl
        rw [hw4] at as4
        obtain ⟨σ5, h55⟩ : ∃ x, x = zr σ4 3 0 1 (zu (zu z 0 v) 1 w) := ⟨_, rfl⟩
        rw [← h55] at as4
        have f5 : zMd σ4 σ5 := by rw [h55]; exact zMd.c (Or.inl rfl)
        have f50 : σ5 3 0 0 = σ4 3 0 0 := by rw [h55, zr_ne (by omega)]
        have od5 : g_ob (zH E σ5) (zL E 3 0 0) 10 = some () := by simp only [zz_mdo (σ := σ5) hW hm]
        obtain ⟨σ6, y1, y2, y3, y4⟩ := e10_closes (σ := σ5) (p := tE b L (tE b L (tE b L 0))) hW hm (((((hT.f a2).d d2.d).d f3).d u2.d).d f5) (by rw [f50, u2.2 5 (by omega), f30, d2.2 5 (by omega)]; exact v5) (by rw [f50, z3.1, f30, z2.1]; exact v11) (s1.cg fun i _ _ => by rw [f50]) (by omega) e3.2.1
        have gz := g_zb (decide ((eSem b L (tE b L (tE b L (tE b L 0)))).1 = 0))
        refine ⟨σ6, hJ49 _ ?_, ((((a2.g.tr d2).d.tr f3).tr u2.d).tr f5).tr y2.d, zMr.tr ?_ y3, fun zz => ⟨y4 zz, ?_⟩⟩
        · simp (disch := first | assumption | omega) only [f_X10_head_J49, md1, g13, as, od3, u1, md14, g134, as4, od5, y1, gz, zz_some, zz_lit, zz_num, zI_lt, zI_le, zI_eq, zI_nat, zz_b, if_pos, if_neg, if_true, if_false]
        · rw [f50]
          exact ⟨z3.1.trans (by rw [f30]; exact z2.1.trans a2.e.1), z3.2.trans (by rw [f30]; exact z2.2.trans a2.e.2)⟩
        · rw [y2.1 3 0 1 (by omega), h55, zr_at, hhB, hhS]
      · rw [zb_dneg c3] at u1
        rw [eTh_no c3, zb_dneg c3]
        refine ⟨σ4, hJ49 _ ?_, ((a2.g.tr d2).d.tr f3).tr u2.d, zMr.tr (by rw [f30]; exact ⟨z2.1.trans a2.e.1, z2.2.trans a2.e.2⟩) u3, fun z => absurd z c3⟩
        simp (disch := first | assumption | omega) only [f_X10_head_J49, md1, g13, as, od3, u1, zz_some, zz_lit, zz_num, zI_lt, zI_le, zI_eq, zI_nat, zz_b, if_pos, if_neg, if_true, if_false]
    · rw [zb_dneg c2] at d1
      rw [eTh_no c2, zb_dneg c2]
      refine ⟨σ2, ?_, (a2.g.tr d2).d, zMr.tr a2.e d3, fun z => absurd z c2⟩
      simp (disch := first | assumption | omega) only [f_X10_head, od, iw, a1, od1, d1, zz_some, zz_lit, zz_num, zI_lt, zI_le, zI_eq, zI_nat, zz_b, if_pos, if_neg, if_true, if_false]
  · rw [zb_neg (by simpa using c1)] at iw
    simp only [if_neg c1]
    rw [zb_dneg (show ¬ ((1, tS b L 0) : Int × Int).1 = 0 by simp)]
    have fl := e10_starts0 hW hm h11 (w := 1) hP0.1
    refine ⟨zMl σ (1, tS b L 0), ?_, zMl.g.d, zMl.r (by simp), fun z => absurd z (by simp)⟩
    simp (disch := first | assumption | omega) only [f_X10_head, od, iw, fl, zz_some, zz_lit, zz_num, zI_lt, zI_le, zI_eq, zI_nat, zz_b, if_pos, if_neg, if_true, if_false]
end zPar

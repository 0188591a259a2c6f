/-! The class's parser: the whole text. -/
def pAll (b : Int → Int) (L : Int) : Nat → Int → zN → (Int → List Int) → (Int × Int) × zN × (Int → List Int)
  | 0, _, n, wd => ((0, 0), n, wd)
  | m + 1, q, n, wd => if tK b L q = 0 then ((0, 0), n, wd) else if (eStm b L q n wd).1 = 0 then (if (eSem b L (pStm b L q)).1 = 0 then pAll b L m (tE b L (pStm b L q)) (nStm b L q n wd) (wStm b L q n wd) else (eSem b L (pStm b L q), n, wd)) else (eStm b L q n wd, n, wd)
def eHead (b : Int → Int) (L : Int) : Int × Int := if tIs b L 0 0 = true then eTh (eNum b L (tE b L 0) 8 96) (eTh (eNum b L (tE b L (tE b L 0)) 0 (min 16 (tV b L (tE b L 0) / 2))) (eSem b L (tE b L (tE b L (tE b L 0))))) else (1, tS b L 0)
def hB (b : Int → Int) (L : Int) : Int := tV b L (tE b L 0)
def hS (b : Int → Int) (L : Int) : Int := tV b L (tE b L (tE b L 0))
def hP (b : Int → Int) (L : Int) : Int := tE b L (tE b L (tE b L (tE b L 0)))
theorem eSem_0 {b : Int → Int} {L p : Int} (h : (eSem b L p).1 = 0) : tK b L p = 3 := by
  unfold eSem at h
  by_cases c1 : tK b L p = 3
  · exact c1
  · rw [if_neg c1] at h
    exact absurd h (by simp)
theorem pStm_rng {b : Int → Int} {L q : Int} (h : q ≤ L) : tE b L q ≤ pStm b L q ∧ pStm b L q ≤ L := by
  have h1 := tE_rng (b := b) h
  have h2 := tE_rng (b := b) h1.2.1
  have h3 := tE_rng (b := b) h2.2.1
  have h4 := tE_rng (b := b) h3.2.1
  have k2 := tS_rng (b := b) h1.2.1
  have k3 := tS_rng (b := b) h2.2.1
  have k4 := tS_rng (b := b) h3.2.1
  unfold pStm
  split
  · omega
  · split
    · omega
    · split
      · omega
      · split <;> omega
section zPar
variable {E : zE} {b : Int → Int} {L : Int} {t : Nat}
theorem e4_rs_stop {σ : zW} {x : Int} (h0 : 0 ≤ x) (h1 : x ≤ 700) {f : Nat} : f_X4_readStatements_L10 (f + 1) (zH E σ) (zL E 2 0 3) (zL E 2 0 1) (zL E 0 t 0) (zI 0) (zI x) = some (zH E σ) := by
  by_cases c : 600 ≤ x
  · simp (disch := first | assumption | omega) only [f_X4_readStatements_L10, c, zz_some, zz_lit, zz_num, zI_lt, zI_le, zI_eq, zI_nat, zz_b, if_pos, if_neg, if_true, if_false]
  · simp (disch := first | assumption | omega) only [f_X4_readStatements_L10, c, zz_some, zz_lit, zz_num, zI_lt, zI_le, zI_eq, zI_nat, zz_b, if_pos, if_neg, if_true, if_false]
theorem e4_rs_L (hW : zWF E) (hm : zU E 2 0 = true) (hu : zU E 0 t = true) (hv : zU E 1 t = true) : ∀ (m fuel : Nat) (σ : zW) (q : Int) (n : zN) (wd : Int → List Int), zTc σ b L → σ 2 0 3 2 = L → zPc σ b L q → zSw σ t n wd → 0 ≤ q → q ≤ L → m ≤ 600 → m < fuel → ∃ σ', f_X4_readStatements_L10 fuel (zH E σ) (zL E 2 0 3) (zL E 2 0 1) (zL E 0 t 0) (zI 1) (zI (600 - m)) = some (zH E σ') ∧ zPd t σ σ' ∧ zRes σ σ' (pAll b L m q n wd).1 ∧ ((pAll b L m q n wd).1.1 = 0 → zSw σ' t (pAll b L m q n wd).2.1 (pAll b L m q n wd).2.2) := by
  intro m
  induction m with
  | zero =>
    intro fuel σ q n wd hT h2 hP hS hq0 hq hm6 hf
    obtain ⟨f, rfl, _⟩ := zfuel hf
    refine ⟨σ, ?_, zPd.rf, ⟨fun _ => ⟨rfl, rfl⟩, fun z => absurd rfl z⟩, fun _ => hS⟩
    rw [show (600 - ((0 : Nat) : Int)) = 600 from rfl]
    have c : (600 : Int) ≤ 600 := Int.le_refl _
    simp (disch := first | assumption | omega) only [f_X4_readStatements_L10, c, zz_some, zz_lit, zz_num, zI_lt, zI_le, zI_eq, zI_nat, zz_b, if_pos, if_neg, if_true, if_false]
  | succ m ih =>
    intro fuel σ q n wd hT h2 hP hS hq0 hq hm6 hf
    obtain ⟨f, rfl, hf2⟩ := zfuel hf
    obtain ⟨f2, hf3, _⟩ := zfuel (show m < f by omega)
    have c0 : ¬ (600 : Int) ≤ 600 - ((m + 1 : Nat) : Int) := by omega
    have ce : (600 - ((m + 1 : Nat) : Int)) + 1 = 600 - (m : Int) := by omega
    have g3 := zg_pa3 (σ := σ) hW hm
    rw [hP.2.2.1] at g3
    have hk := tK_rng (b := b) (L := L) (p := q)
    have n1 : ¬ (1 : Int) = 0 := by omega
    by_cases c1 : tK b L q = 0
    · simp only [pAll, if_pos c1]
      refine ⟨σ, ?_, zPd.rf, ⟨fun _ => ⟨rfl, rfl⟩, fun z => absurd rfl z⟩, fun _ => hS⟩
      simp (disch := first | assumption | omega) only [f_X4_readStatements_L10, c0, n1, g3, c1, zz_some, zz_lit, zz_num, zI_lt, zI_le, zI_eq, zI_nat, zz_b, if_pos, if_neg, if_true, if_false]
    · have po := (zz_pao (σ := σ) hW hm).1
      have hq2 := tK_E (b := b) hq c1
      have hpr := pStm_rng (b := b) hq
      obtain ⟨σ1, a1, a2, a3, a4⟩ := e4_readStatement hW hm hT hu hv hS h2 hP hq0 hq
      simp only [pAll, if_neg c1]
      by_cases c2 : (eStm b L q n wd).1 = 0
      · rw [zb_dpos c2] at a1
        simp only [if_pos c2]
        obtain ⟨b5, b6⟩ := a4 c2
        have po1 := (zz_pao (σ := σ1) hW hm).1
        obtain ⟨σ2, d1, d2, d3, d4⟩ := e4_readSemicolon hW hm (a2.T hT) (a2.2.trans h2) b5 (by omega) hpr.2
        have b6' : zSw σ2 t (nStm b L q n wd) (wStm b L q n wd) := b6.cg (funext fun c => d2.1 0 t c (by omega))
        by_cases c3 : (eSem b L (pStm b L q)).1 = 0
        · rw [zb_dpos c3] at d1
          simp only [if_pos c3]
          have he3 := tE_rng (b := b) hpr.2
          have hs3 := tS_rng (b := b) hpr.2
          obtain ⟨σ3, x1, x2, x3⟩ := e4_advance hW hm ((d2.d (t := t)).T (a2.T hT)) (d2.2.trans (a2.2.trans h2)) d3.2.1 (by omega) he3.2.1
          have po2 := (zz_pao (σ := σ2) hW hm).1
          obtain ⟨σ4, y1, y2, y3, y4⟩ := ih f σ3 (tE b L (pStm b L q)) (nStm b L q n wd) (wStm b L q n wd) ((x2.g.d (t := t)).T ((d2.d (t := t)).T (a2.T hT))) (x2.g.2.trans (d2.2.trans (a2.2.trans h2))) x3 (b6'.cg (funext fun c => x2.1 0 t c (by omega))) (by omega) he3.2.1 (by omega) (by omega)
          refine ⟨σ4, ?_, ((a2.tr d2.d).tr x2.g.d).tr y2, ?_, y4⟩
          · simp (disch := first | assumption | omega) only [f_X4_readStatements_L10, c0, n1, g3, c1, po, a1, po1, d1, f_X4_readStatements_J51, po2, x1, ce, y1, zz_some, zz_lit, zz_num, zI_lt, zI_le, zI_eq, zI_nat, zz_b, if_pos, if_neg, if_true, if_false]
          · have z1 := a3.1 c2
            have z2 := d4.1 c3
            exact zRes.tr ⟨(x2.2 1 (by omega)).trans (z2.1.trans z1.1), (x2.2 0 (by omega)).trans (z2.2.trans z1.2)⟩ y3
        · rw [zb_dneg c3] at d1
          simp only [if_neg c3]
          have st := e4_rs_stop (E := E) (t := t) (σ := σ2) (x := 600 - (m : Int)) (by omega) (by omega) (f := f2)
          rw [← hf3] at st
          refine ⟨σ2, ?_, a2.tr d2.d, d4.tr (a3.1 c2), fun z => absurd z c3⟩
          simp (disch := first | assumption | omega) only [f_X4_readStatements_L10, c0, n1, g3, c1, po, a1, po1, d1, f_X4_readStatements_J51, ce, st, zz_some, zz_lit, zz_num, zI_lt, zI_le, zI_eq, zI_nat, zz_b, if_pos, if_neg, if_true, if_false]
      · rw [zb_dneg c2] at a1
        simp only [if_neg c2]
        have st := e4_rs_stop (E := E) (t := t) (σ := σ1) (x := 600 - (m : Int)) (by omega) (by omega) (f := f2)
        rw [← hf3] at st
        refine ⟨σ1, ?_, a2, a3, fun z => absurd z c2⟩
        simp (disch := first | assumption | omega) only [f_X4_readStatements_L10, c0, n1, g3, c1, po, a1, f_X4_readStatements_J51, ce, st, zz_some, zz_lit, zz_num, zI_lt, zI_le, zI_eq, zI_nat, zz_b, if_pos, if_neg, if_true, if_false]
variable {σ : zW}
theorem e4_readStatements (hW : zWF E) (hm : zU E 2 0 = true) (hu : zU E 0 t = true) (hv : zU E 1 t = true) {p : Int} {n : zN} {wd : Int → List Int} (hT : zTc σ b L) (h2 : σ 2 0 3 2 = L) (h5 : σ 2 0 3 5 = p) (hS : zSw σ t n wd) (hp0 : 0 ≤ p) (hp : p ≤ L) : ∃ σ', f_X4_readStatements (zH E σ) (zL E 2 0 3) (zL E 2 0 1) (zL E 0 t 0) = some (zH E σ') ∧ zPd t σ σ' ∧ zRes σ σ' (pAll b L 600 p n wd).1 ∧ ((pAll b L 600 p n wd).1.1 = 0 → zSw σ' t (pAll b L 600 p n wd).2.1 (pAll b L 600 p n wd).2.2) := by
  obtain ⟨σ1, a1, a2, a3⟩ := e4_advance hW hm hT h2 h5 hp0 hp
  have po := (zz_pao (σ := σ) hW hm).1
  obtain ⟨σ', y1, y2, y3, y4⟩ := e4_rs_L (b := b) (L := L) hW hm hu hv 600 g_N σ1 p n wd ((a2.g.d (t := t)).T hT) (a2.g.2.trans h2) a3 (hS.cg (funext fun c => a2.1 0 t c (by omega))) hp0 hp (Nat.le_refl _) (by unfold g_N; omega)
  rw [show (600 - ((600 : Nat) : Int)) = 0 from rfl] at y1
  refine ⟨σ', ?_, a2.g.d.tr y2, zRes.tr ⟨a2.2 1 (by omega), a2.2 0 (by omega)⟩ y3, y4⟩
  simp (disch := first | assumption | omega) only [f_X4_readStatements, po, a1, y1, zz_some, zz_lit, zz_num, zI_lt, zI_le, zI_eq, zI_nat, zz_b, if_pos, if_neg, if_true, if_false]
theorem nFm_W {b s : Int} (hb0 : 8 ≤ b) (hb1 : b ≤ 96) (hs0 : 0 ≤ s) (hs1 : s ≤ 16) (hs2 : 2 * s ≤ b) : nW (nFm b s) := by
  have h7 : ∀ i : Int, 2 ≤ i → nFm b s i = 0 := fun i hi => by unfold nFm; rw [if_neg (by omega), if_neg (by omega)]
  have h0 : nFm b s 0 = b := by unfold nFm; rw [if_pos rfl]
  have h1 : nFm b s 1 = s := by unfold nFm; rw [if_neg (by omega), if_pos rfl]
  refine ⟨?_, fun c c0 c1 => ?_, ?_, ?_⟩
  · unfold nWn
    rw [h0, h1, h7 2 (by omega), h7 3 (by omega), h7 4 (by omega), h7 5 (by omega), h7 6 (by omega)]
    omega
  · rw [h0, h1, h7 3 (by omega), h7 4 (by omega), h7 6 (by omega), h7 (7 + c) (by omega), h7 (103 + c) (by omega), h7 (199 + c) (by omega), h7 (295 + c) (by omega), h7 (391 + c) (by omega), h7 (487 + c) (by omega), h7 (583 + c) (by omega), h7 (679 + c) (by omega)]
    omega
  · unfold nWv
    rw [h7 4 (by omega), h7 6 (by omega)]
    exact ⟨Int.le_refl _, fun v v0 v1 => absurd v1 (by omega)⟩
  · unfold nWs
    rw [h7 3 (by omega)]
    exact fun s s0 s1 => absurd s1 (by omega)
theorem eHead_ok (hL : 0 ≤ L) (h : (eHead b L).1 = 0) : 8 ≤ hB b L ∧ hB b L ≤ 96 ∧ 0 ≤ hS b L ∧ hS b L ≤ 16 ∧ 2 * hS b L ≤ hB b L ∧ 0 ≤ hP b L ∧ hP b L ≤ L := by
  have e1 := tE_rng (b := b) (L := L) (p := 0) hL
  have e2 := tE_rng (b := b) e1.2.1
  have e3 := tE_rng (b := b) e2.2.1
  have e4 := tE_rng (b := b) e3.2.1
  have k1 := tS_rng (b := b) (L := L) (p := 0) hL
  have k2 := tS_rng (b := b) e1.2.1
  have k3 := tS_rng (b := b) e2.2.1
  have k4 := tS_rng (b := b) e3.2.1
  unfold eHead at h
  by_cases c1 : tIs b L 0 0 = true
  · rw [if_pos c1] at h
    by_cases c2 : (eNum b L (tE b L 0) 8 96).1 = 0
    · rw [eTh_ok c2] at h
      by_cases c3 : (eNum b L (tE b L (tE b L 0)) 0 (min 16 (tV b L (tE b L 0) / 2))).1 = 0
      · obtain ⟨_, m2, m3⟩ := eNum_0 c2
        obtain ⟨_, y2, y3⟩ := eNum_0 c3
        unfold hB hS hP
        omega
      · rw [eTh_no c3] at h
        exact absurd h c3
    · rw [eTh_no c2] at h
      exact absurd h c2
  · rw [if_neg c1] at h
    exact absurd h (by simp)
theorem e4_readHead (hW : zWF E) (hm : zU E 2 0 = true) (hu : zU E 0 t = true) (hT : zTc σ b L) (hL : 0 ≤ L) (h2 : σ 2 0 3 2 = L) (h5 : σ 2 0 3 5 = 0) : ∃ σ', f_X4_readHead (zH E σ) (zL E 2 0 3) (zL E 2 0 1) (zL E 0 t 0) = some (zH E σ', zI (zb (decide ((eHead b L).1 = 0)))) ∧ zPd t σ σ' ∧ zRes σ σ' (eHead b L) ∧ ((eHead b L).1 = 0 → σ' 2 0 3 5 = hP b L ∧ zRd (σ' 0 t) (nFm (hB b L) (hS b L))) := by
  have hL6 := hT.1
  have e1 := tE_rng (b := b) (L := L) (p := 0) hL
  have e2 := tE_rng (b := b) e1.2.1
  have e3 := tE_rng (b := b) e2.2.1
  have k1 := tS_rng (b := b) (L := L) (p := 0) hL
  have k2 := tS_rng (b := b) e1.2.1
  have k3 := tS_rng (b := b) e2.2.1
  have po := (zz_pao (σ := σ) hW hm).1
  obtain ⟨σ1, a1, a2, a3⟩ := e4_advance hW hm hT h2 h5 (Int.le_refl _) hL
  have po1 := (zz_pao (σ := σ1) hW hm).1
  have hT1 := hT.cg (a2.1 2 0 2 (by omega))
  have iw := e4_isWord hW hm hT1 (Int.le_refl _) hL a3 (j := 0) (by omega)
  unfold eHead
  by_cases c1 : tIs b L 0 0 = true
  · rw [zb_pos c1] at iw
    simp only [if_pos c1]
    obtain ⟨σ2, d1, d2, d3, d4⟩ := e4_readNumber hW hm hT1 (lo := 8) (hi := 96) (a2.g.2.trans h2) a3.2.1 (by omega) e1.2.1 (by omega) (by omega) (by omega) (by omega)
    have r1 : σ1 2 0 3 1 = σ 2 0 3 1 ∧ σ1 2 0 3 0 = σ 2 0 3 0 := ⟨a2.2 1 (by omega), a2.2 0 (by omega)⟩
    by_cases c2 : (eNum b L (tE b L 0) 8 96).1 = 0
    · rw [zb_dpos c2] at d1
      rw [eTh_ok c2]
      obtain ⟨m1, m2, m3⟩ := eNum_0 c2
      have g6 := zg_pa6 (σ := σ2) hW hm
      rw [d3.2.2.2.1 m1] at g6
      have po2 := (zz_pao (σ := σ2) hW hm).1
      have hT2 := hT1.cg (d2.1 2 0 2 (by omega))
      obtain ⟨v, hv⟩ : ∃ v, v = tV b L (tE b L 0) := ⟨_, rfl⟩
      rw [← hv] at g6 m2 m3 ⊢
      have dv : zI v / zI 2 = zI (v / 2) := by
        rw [zI_div (by omega) (by omega) (by omega) (by omega), Int.tdiv_eq_ediv_of_nonneg (by omega)]
      obtain ⟨σ3, x1, x2, x3, x4⟩ := e4_readNumber hW hm hT2 (lo := 0) (hi := min 16 (v / 2)) (d2.2.trans (a2.g.2.trans h2)) d3.2.1 (by omega) e2.2.1 (by omega) (by omega) (by omega) (by omega)
      have hmin : (if v / 2 < 16 then zI (v / 2) else zI 16) = zI (min 16 (v / 2)) := by
        split
        · congr 1; omega
        · congr 1; omega
      rw [← hmin] at x1
      have r2 := d4.1 c2
      by_cases c3 : (eNum b L (tE b L (tE b L 0)) 0 (min 16 (v / 2))).1 = 0
      · rw [zb_dpos c3] at x1
        rw [eTh_ok c3]
        obtain ⟨y1, y2, y3⟩ := eNum_0 c3
        have h6 := zg_pa6 (σ := σ3) hW hm
        rw [x3.2.2.2.1 y1] at h6
        have od3 : g_ob (zH E σ3) (zL E 0 t 0) 1 = some () := by simp only [zz_dco (σ := σ3) hW hu]
        obtain ⟨σ4, w1, w2, w3, w4⟩ := e1_format (σ := σ3) hW hu (b := v) (s := tV b L (tE b L (tE b L 0))) m2 m3 y2 (by omega) (by omega)
        have po4 := (zz_pao (σ := σ4) hW hm).1
        have hT4 : zTc σ4 b L := (hT2.cg (x2.1 2 0 2 (by omega))).cg (w2 2 0 2 (by omega))
        obtain ⟨σ5, u1, u2, u3, u4⟩ := e4_readSemicolon hW hm hT4 (by rw [w2 2 0 3 (by omega)]; exact x2.2.trans (d2.2.trans (a2.g.2.trans h2))) (by rw [w2 2 0 3 (by omega)]; exact x3.2.1) (by omega) e3.2.1
        have r3 := x4.1 c3
        refine ⟨σ5, ?_, (((a2.g.tr d2).tr x2).d.tr (zPd.t w2)).tr u2.d, zRes.tr ?_ u4, fun z => ⟨u3.2.1, ?_⟩⟩
        · have gz := g_zb (decide ((eSem b L (tE b L (tE b L (tE b L 0)))).1 = 0))
          by_cases c5 : v / 2 < 16
          · simp only [if_pos c5] at x1
            simp (disch := first | assumption | omega) only [f_X4_readHead, po, a1, po1, iw, d1, g6, po2, dv, c5, x1, h6, od3, w1, po4, u1, gz, zz_some, zz_lit, zz_num, zI_lt, zI_le, zI_eq, zI_nat, zz_b, if_pos, if_neg, if_true, if_false]
          · simp only [if_neg c5] at x1
            simp (disch := first | assumption | omega) only [f_X4_readHead, po, a1, po1, iw, d1, g6, po2, dv, c5, x1, h6, od3, w1, po4, u1, gz, zz_some, zz_lit, zz_num, zI_lt, zI_le, zI_eq, zI_nat, zz_b, if_pos, if_neg, if_true, if_false]
        · rw [w2 2 0 3 (by omega)]
          exact ⟨r3.1.trans (r2.1.trans r1.1), r3.2.trans (r2.2.trans r1.2)⟩
        · unfold hB hS
          rw [← hv, show σ5 0 t = σ4 0 t from funext fun c => u2.1 0 t c (by omega)]
          exact w4
      · rw [zb_dneg c3] at x1
        rw [eTh_no c3, zb_dneg c3]
        refine ⟨σ3, ?_, ((a2.g.tr d2).tr x2).d, x4.tr ⟨r2.1.trans r1.1, r2.2.trans r1.2⟩, fun z => absurd z c3⟩
        by_cases c5 : v / 2 < 16
        · simp only [if_pos c5] at x1
          simp (disch := first | assumption | omega) only [f_X4_readHead, po, a1, po1, iw, d1, g6, po2, dv, c5, x1, zz_some, zz_lit, zz_num, zI_lt, zI_le, zI_eq, zI_nat, zz_b, if_pos, if_neg, if_true, if_false]
        · simp only [if_neg c5] at x1
          simp (disch := first | assumption | omega) only [f_X4_readHead, po, a1, po1, iw, d1, g6, po2, dv, c5, x1, zz_some, zz_lit, zz_num, zI_lt, zI_le, zI_eq, zI_nat, zz_b, if_pos, if_neg, if_true, if_false]
    · rw [zb_dneg c2] at d1
      rw [eTh_no c2, zb_dneg c2]
      refine ⟨σ2, ?_, (a2.g.tr d2).d, d4.tr r1, fun z => absurd z c2⟩
      simp (disch := first | assumption | omega) only [f_X4_readHead, po, a1, po1, iw, d1, zz_some, zz_lit, zz_num, zI_lt, zI_le, zI_eq, zI_nat, zz_b, if_pos, if_neg, if_true, if_false]
  · rw [zb_neg (by simpa using c1)] at iw
    simp only [if_neg c1]
    have g4 := zg_pa4 (σ := σ1) hW hm
    rw [a3.1] at g4
    rw [zb_dneg (show ¬ ((1, tS b L 0) : Int × Int).1 = 0 by simp)]
    have fl : f_X4_fail (zH E σ1) (zL E 2 0 3) (zI 1) (zI (tS b L 0)) = some (zH E (zFl σ1 (1, tS b L 0)), zI 0) := e4_fail (σ := σ1) hW hm (1, tS b L 0)
    refine ⟨zFl σ1 (1, tS b L 0), ?_, (a2.g.tr zFl.g).d, zFl.r (by simp), fun z => absurd z (by simp)⟩
    simp (disch := first | assumption | omega) only [f_X4_readHead, po, a1, po1, iw, g4, fl, zz_some, zz_lit, zz_num, zI_lt, zI_le, zI_eq, zI_nat, zz_b, if_pos, if_neg, if_true, if_false]
def eTxt (b : Int → Int) (L : Int) (n : zN) : Int × Int := if (eHead b L).1 = 0 then (pAll b L 600 (hP b L) n (fun _ => [])).1 else eHead b L
def nTxt (b : Int → Int) (L : Int) (n : zN) : zN := (pAll b L 600 (hP b L) n (fun _ => [])).2.1
def wTxt (b : Int → Int) (L : Int) (n : zN) : Int → List Int := (pAll b L 600 (hP b L) n (fun _ => [])).2.2
/-- a text read, n being any state that is the new disc's where it matters -/
theorem e4_readText (hW : zWF E) (hm : zU E 2 0 = true) (hu : zU E 0 t = true) (hv : zU E 1 t = true) (hT : zTc σ b L) (hL : 0 ≤ L) {n : zN} (hn : ∀ i, 0 ≤ i → i < 1555 → n i = nFm (hB b L) (hS b L) i) : ∃ σ', f_X4_readText (zH E σ) (zL E 2 0 3) (zL E 2 0 1) (zI L) (zL E 0 t 0) = some (zH E σ', zI (eTxt b L n).1) ∧ (∀ k d c, ¬ (k = 2 ∧ d = 0 ∧ c = 3) → ¬ (k ≤ 1 ∧ d = t) → σ' k d c = σ k d c) ∧ σ' 2 0 3 0 = (if (eTxt b L n).1 = 0 then -1 else (eTxt b L n).2) ∧ ((eTxt b L n).1 = 0 → zSw σ' t (nTxt b L n) (wTxt b L n)) := by
  obtain ⟨σ1, h1⟩ : ∃ x, x = zs (zs (zs (zs σ 2 0 3 0 (-1)) 2 0 3 1 0) 2 0 3 2 L) 2 0 3 5 0 := ⟨_, rfl⟩
  have q1 := zp_pa0 (σ := σ) hW hm (-1)
  have q2 := zp_pa1 (σ := zs σ 2 0 3 0 (-1)) hW hm 0
  have q3 := zp_pa2 (σ := zs (zs σ 2 0 3 0 (-1)) 2 0 3 1 0) hW hm L
  have q4 := zp_pa5 (σ := zs (zs (zs σ 2 0 3 0 (-1)) 2 0 3 1 0) 2 0 3 2 L) hW hm 0
  rw [← h1] at q4
  have f0 : ∀ k d c, ¬ (k = 2 ∧ d = 0 ∧ c = 3) → σ1 k d c = σ k d c := fun k d c z => by rw [h1, zs_ne z, zs_ne z, zs_ne z, zs_ne z]
  have a0 : σ1 2 0 3 0 = -1 := by rw [h1, zs_at, if_neg (by omega), zs_at, if_neg (by omega), zs_at, if_neg (by omega), zs_at, if_pos rfl]
  have a1 : σ1 2 0 3 1 = 0 := by rw [h1, zs_at, if_neg (by omega), zs_at, if_neg (by omega), zs_at, if_pos rfl]
  have a2 : σ1 2 0 3 2 = L := by rw [h1, zs_at, if_neg (by omega), zs_at, if_pos rfl]
  have a5 : σ1 2 0 3 5 = 0 := by rw [h1, zs_at, if_pos rfl]
  have po := (zz_pao (σ := σ1) hW hm).1
  have hT1 := hT.cg (f0 2 0 2 (by omega))
  obtain ⟨σ2, b1, b2, b3, b4⟩ := e4_readHead hW hm hu hT1 hL a2 a5
  have po2 := (zz_pao (σ := σ2) hW hm).1
  have g1 := zg_pa1 (σ := σ2) hW hm
  by_cases c1 : (eHead b L).1 = 0
  · rw [zb_dpos c1] at b1
    obtain ⟨b5, b6⟩ := b4 c1
    have hk := eHead_ok hL c1
    have hnF := nFm_W hk.1 hk.2.1 hk.2.2.1 hk.2.2.2.1 hk.2.2.2.2.1
    have hn2 : nW n := nW_cg0 hn hnF
    have hS : zSw σ2 t n (fun _ => []) := ⟨zRd_cg0 hn hnF b6, hn2, fun k k0 k1 => absurd k1 (by
      have : n 2 = 0 := by rw [hn 2 (by omega) (by omega)]; rfl
      omega)⟩
    obtain ⟨σ3, d1, d2, d3, d4⟩ := e4_readStatements hW hm hu hv (b2.T hT1) (b2.2.trans a2) b5 hS hk.2.2.2.2.2.1 hk.2.2.2.2.2.2
    have eT : eTxt b L n = (pAll b L 600 (hP b L) n (fun _ => [])).1 := by unfold eTxt; rw [if_pos c1]
    have z1 := b3.1 c1
    have g3 := zg_pa1 (σ := σ3) hW hm
    have e1 : σ3 2 0 3 1 = (eTxt b L n).1 := by
      rw [eT]
      by_cases c2 : (pAll b L 600 (hP b L) n (fun _ => [])).1.1 = 0
      · rw [(d3.1 c2).1, z1.1, a1, c2]
      · exact (d3.2 c2).1
    rw [e1] at g3
    refine ⟨σ3, ?_, fun k d c z y => ((d2.1 k d c z y).trans (b2.1 k d c z y)).trans (f0 k d c z), ?_, fun z => d4 (by rw [← eT]; exact z)⟩
    · simp (disch := first | assumption | omega) only [f_X4_readText, q1, q2, q3, q4, po, b1, po2, d1, g3, zz_some, zz_lit, zz_num, zI_lt, zI_le, zI_eq, zI_nat, zz_b, if_pos, if_neg, if_true, if_false]
    · rw [eT]
      by_cases c2 : (pAll b L 600 (hP b L) n (fun _ => [])).1.1 = 0
      · rw [if_pos c2, (d3.1 c2).2, z1.2, a0]
      · rw [if_neg c2]
        exact (d3.2 c2).2
  · rw [zb_dneg c1] at b1
    have eT : eTxt b L n = eHead b L := by unfold eTxt; rw [if_neg c1]
    rw [eT]
    rw [(b3.2 c1).1] at g1
    refine ⟨σ2, ?_, fun k d c z y => (b2.1 k d c z y).trans (f0 k d c z), ?_, fun z => absurd z c1⟩
    · simp (disch := first | assumption | omega) only [f_X4_readText, q1, q2, q3, q4, po, b1, g1, zz_some, zz_lit, zz_num, zI_lt, zI_le, zI_eq, zI_nat, zz_b, if_pos, if_neg, if_true, if_false]
    · rw [if_neg c1]
      exact (b3.2 c1).2
end zPar

/-! The class's text: the head, the whole, and what is done on the draft. -/
def zF3 (σ σ' : zW) : Prop := (∀ k d c, ¬ (k = 2 ∧ d = 0 ∧ c = 3) → σ' k d c = σ k d c) ∧ ∀ i, i ≠ 0 → i ≠ 2 → i ≠ 3 → i ≠ 14 → σ' 2 0 3 i = σ 2 0 3 i
theorem zF3.tr {σ σ1 σ2 : zW} (h : zF3 σ σ1) (h2 : zF3 σ1 σ2) : zF3 σ σ2 := ⟨fun k d c z => (h2.1 k d c z).trans (h.1 k d c z), fun i a c d e => (h2.2 i a c d e).trans (h.2 i a c d e)⟩
theorem zF1.g3 {σ σ' : zW} (h : zF1 σ σ') : zF3 σ σ' := ⟨h.1, fun i a _ _ e => h.2 i a e⟩
theorem zF3.s {σ : zW} {i v : Int} (hi : i = 2 ∨ i = 3) : zF3 σ (zs σ 2 0 3 i v) := ⟨fun k d c z => zs_ne z, fun j a c d e => by rw [zs_at, if_neg (by omega)]⟩
section zRun
variable {E : zE} {σ : zW} {b : Int → Int} {L : Int} {C T : Nat} {n : zN} {wd : Int → List Int} {S : List zS5}
theorem e4_readHead (hW : zWF E) (hm : zU E 2 0 = true) (hz : zTz σ b L C) (h14 : σ 2 0 3 14 = 0) (h2 : σ 2 0 3 2 = 8) (h3 : σ 2 0 3 3 = 0) : ∃ (σ' : zW) (T' : Nat), f_X4_readHead (zH E σ) (zL E 2 0 3) = some (zH E σ', zI (zb (decide ((eHead b L).1 = 0)))) ∧ zF3 σ σ' ∧ zA1 σ σ' (eHead b L) ∧ σ' 2 0 3 14 = (T' : Int) ∧ T' ≤ 3 ∧ ((eHead b L).1 ≠ 0 → (eHead b L).2 = tS b L (tp b L T')) ∧ ((eHead b L).1 = 0 → T' = 3 ∧ σ' 2 0 3 2 = hB b L ∧ σ' 2 0 3 3 = hS b L) ∧ (8 ≤ σ' 2 0 3 2 ∧ σ' 2 0 3 2 ≤ 96 ∧ 0 ≤ σ' 2 0 3 3 ∧ σ' 2 0 3 3 ≤ 16 ∧ 2 * σ' 2 0 3 3 ≤ σ' 2 0 3 2) := by
  have htx := (zz_txo (σ := σ) hW hm).2.2.2.2.2.2.2.2
  have iw := e4_isWord hW hm hz (T := 0) (by omega) h14 (j := 0) (by omega)
  have ht0 : tp b L 0 = 0 := rfl
  rw [ht0] at iw
  have hd1 : tE b L 0 = tp b L 1 := rfl
  have hd2 : tE b L (tp b L 1) = tp b L 2 := rfl
  have hd3 : tE b L (tp b L 2) = tp b L 3 := rfl
  unfold eHead hB hS
  rw [hd1, hd2, hd3]
  by_cases c1 : tIs b L 0 0 = true
  · rw [zb_pos c1] at iw
    rw [if_pos c1]
    obtain ⟨σ1, a1, a2, a3, a4, a5⟩ := e4_readNumber hW hm hz (T := 0) (by omega) h14 (lo := 8) (hi := 96) (by omega) (by omega) (by omega) (by omega)
    have hz1 : zTz σ1 b L C := hz.cg (fun c y z => a2.1 2 0 c (by omega))
    by_cases c2 : (eNum b L (tp b L 1) 8 96).1 = 0
    · obtain ⟨m1, m2, m3⟩ := eNum_0 c2
      rw [zb_dpos c2] at a1
      rw [eTh_ok c2]
      have g13 := zg_tx13 (σ := σ1) hW hm
      have g14 := zg_tx14 (σ := σ1) hW hm
      rw [a3] at g14
      have hto := (zz_tko (σ := σ1) hW hm).2.2.2
      have hnu := e11_numberOf hW hm hz1 (T := 1) m1
      have hnu : f_X11_numberOf (zH E σ1) (zL E 2 0 16) (zI ((0 + 1 : Nat) : Int)) = some (zI (tV b L (tp b L 1))) := hnu
      obtain ⟨v, hv⟩ : ∃ v, v = tV b L (tp b L 1) := ⟨_, rfl⟩
      rw [← hv] at hnu m2 m3 ⊢
      have p2 := zp_tx2 (σ := σ1) hW hm v
      obtain ⟨σ2, e2⟩ : ∃ y, y = zs σ1 2 0 3 2 v := ⟨_, rfl⟩
      rw [← e2] at p2
      have f2 : zF3 σ1 σ2 := by rw [e2]; exact zF3.s (Or.inl rfl)
      have h142 : σ2 2 0 3 14 = ((1 : Nat) : Int) := by rw [e2, zs_at, if_neg (by omega)]; exact a3
      have g22 := zg_tx2 (σ := σ2) hW hm
      have hv2 : σ2 2 0 3 2 = v := by rw [e2, zs_at, if_pos rfl]
      rw [hv2] at g22
      have htx2 := (zz_txo (σ := σ2) hW hm).2.2.2.2.2.2.2.2
      have hz2 : zTz σ2 b L C := hz1.cg (fun c y z => f2.1 2 0 c (by omega))
      have dv : zI v / zI 2 = zI (v / 2) := by
        rw [zI_div (by omega) (by omega) (by omega) (by omega), Int.tdiv_eq_ediv_of_nonneg (by omega)]
      have hmin : (if v / 2 < 16 then zI (v / 2) else zI 16) = zI (min 16 (v / 2)) := by
        split
        · congr 1; omega
        · congr 1; omega
      obtain ⟨σ3, b1, b2, b3, b4, b5⟩ := e4_readNumber hW hm hz2 (T := 1) (by omega) h142 (lo := 0) (hi := min 16 (v / 2)) (by omega) (by omega) (by omega) (by omega)
      rw [← hmin] at b1
      have hz3 : zTz σ3 b L C := hz2.cg (fun c y z => b2.1 2 0 c (by omega))
      have hv3 : σ3 2 0 3 2 = v := by rw [b2.2 2 (by omega) (by omega)]; exact hv2
      have hs3 : σ3 2 0 3 3 = 0 := by rw [b2.2 3 (by omega) (by omega), e2, zs_at, if_neg (by omega), a2.2 3 (by omega) (by omega)]; exact h3
      have hc0 : σ2 2 0 3 0 = σ 2 0 3 0 := by rw [e2, zs_at, if_neg (by omega)]; exact a4.1 c2
      by_cases c3 : (eNum b L (tp b L 2) 0 (min 16 (v / 2))).1 = 0
      · obtain ⟨y1, y2, y3⟩ := eNum_0 c3
        rw [zb_dpos c3] at b1
        rw [eTh_ok c3]
        have g133 := zg_tx13 (σ := σ3) hW hm
        have g143 := zg_tx14 (σ := σ3) hW hm
        rw [b3] at g143
        have hto3 := (zz_tko (σ := σ3) hW hm).2.2.2
        have hnu3 := e11_numberOf hW hm hz3 (T := 2) y1
        have hnu3 : f_X11_numberOf (zH E σ3) (zL E 2 0 16) (zI ((1 + 1 : Nat) : Int)) = some (zI (tV b L (tp b L 2))) := hnu3
        have p3 := zp_tx3 (σ := σ3) hW hm (tV b L (tp b L 2))
        obtain ⟨σ4, e4⟩ : ∃ y, y = zs σ3 2 0 3 3 (tV b L (tp b L 2)) := ⟨_, rfl⟩
        rw [← e4] at p3
        have f4 : zF3 σ3 σ4 := by rw [e4]; exact zF3.s (Or.inr rfl)
        have h144 : σ4 2 0 3 14 = ((2 : Nat) : Int) := by rw [e4, zs_at, if_neg (by omega)]; exact b3
        have htx4 := (zz_txo (σ := σ4) hW hm).2.2.2.2.2.2.2.2
        have hz4 : zTz σ4 b L C := hz3.cg (fun c y z => f4.1 2 0 c (by omega))
        obtain ⟨σ5, d1, d2, d3, d4, d5⟩ := e4_readSemicolon hW hm hz4 (T := 2) (by omega) h144
        have hv5 : σ5 2 0 3 2 = v := by rw [d2.2 2 (by omega) (by omega), e4, zs_at, if_neg (by omega)]; exact hv3
        have hs5 : σ5 2 0 3 3 = tV b L (tp b L 2) := by rw [d2.2 3 (by omega) (by omega), e4, zs_at, if_pos rfl]
        have gz := g_zb (decide ((eSem b L (tp b L 3)).1 = 0))
        refine ⟨σ5, 3, ?_, (((a2.g3.tr f2).tr b2.g3).tr f4).tr d2.g3, zA1.tr ?_ d4, d3, by omega, d5, fun _ => ⟨rfl, hv5, hs5⟩, by rw [hv5, hs5]; omega⟩
        · by_cases c5 : v / 2 < 16
          · simp only [if_pos c5] at b1
            simp (disch := first | assumption | omega) only [f_X4_readHead, htx, iw, a1, g13, g14, hto, hnu, p2, g22, htx2, dv, c5, b1, g133, g143, hto3, hnu3, p3, htx4, d1, gz, zz_some, zz_lit, zz_num, zI_lt, zI_le, zI_eq, zI_nat, zz_b, if_pos, if_neg, if_true, if_false]
          · simp only [if_neg c5] at b1
            simp (disch := first | assumption | omega) only [f_X4_readHead, htx, iw, a1, g13, g14, hto, hnu, p2, g22, htx2, dv, c5, b1, g133, g143, hto3, hnu3, p3, htx4, d1, gz, zz_some, zz_lit, zz_num, zI_lt, zI_le, zI_eq, zI_nat, zz_b, if_pos, if_neg, if_true, if_false]
        · rw [e4, zs_at, if_neg (by omega)]
          exact (b4.1 c3).trans hc0
      · rw [zb_dneg c3] at b1
        rw [eTh_no c3, zb_dneg c3]
        refine ⟨σ3, 2, ?_, (a2.g3.tr f2).tr b2.g3, zA1.tr hc0 b4, b3, by omega, b5, fun z => absurd z c3, by rw [hv3, hs3]; omega⟩
        by_cases c5 : v / 2 < 16
        · simp only [if_pos c5] at b1
          simp (disch := first | assumption | omega) only [f_X4_readHead, htx, iw, a1, g13, g14, hto, hnu, p2, g22, htx2, dv, c5, b1, zz_some, zz_lit, zz_num, zI_lt, zI_le, zI_eq, zI_nat, zz_b, if_pos, if_neg, if_true, if_false]
        · simp only [if_neg c5] at b1
          simp (disch := first | assumption | omega) only [f_X4_readHead, htx, iw, a1, g13, g14, hto, hnu, p2, g22, htx2, dv, c5, b1, zz_some, zz_lit, zz_num, zI_lt, zI_le, zI_eq, zI_nat, zz_b, if_pos, if_neg, if_true, if_false]
    · rw [zb_dneg c2] at a1
      rw [eTh_no c2, zb_dneg c2]
      refine ⟨σ1, 1, ?_, a2.g3, a4, a3, by omega, a5, fun z => absurd z c2, by rw [a2.2 2 (by omega) (by omega), a2.2 3 (by omega) (by omega), h2, h3]; omega⟩
      simp (disch := first | assumption | omega) only [f_X4_readHead, htx, iw, a1, zz_some, zz_lit, zz_num, zI_lt, zI_le, zI_eq, zI_nat, zz_b, if_pos, if_neg, if_true, if_false]
  · rw [zb_neg (by simpa using c1)] at iw
    rw [if_neg c1, zb_dneg (show ¬ ((1, tS b L 0) : Int × Int).1 = 0 by simp)]
    have fl := e4_fail (σ := σ) hW hm 1
    refine ⟨zs σ 2 0 3 0 1, 0, ?_, (zF1.s (Or.inl rfl)).g3, ⟨fun z => absurd z (by simp), fun _ => by rw [zs_at, if_pos rfl]⟩, by rw [zs_at, if_neg (by omega)]; exact h14, by omega, fun _ => rfl, fun z => absurd z (by simp), by rw [zs_at, if_neg (by omega), zs_at, if_neg (by omega), h2, h3]; omega⟩
    simp (disch := first | assumption | omega) only [f_X4_readHead, htx, iw, fl, zz_some, zz_lit, zz_num, zI_lt, zI_le, zI_eq, zI_nat, zz_b, if_pos, if_neg, if_true, if_false]
/-- a statement's bytes -/
theorem tIs_len {q : Int} {j : Nat} (hq : q ≤ L) (h : tIs b L q j = true) : q + ((wl j).length : Int) ≤ tE b L q ∧ tK b L q = 1 := by
  unfold tIs at h
  rw [decide_eq_true_iff] at h
  have h2 := congrArg List.length h.2
  unfold tW at h2
  rw [tLs_len] at h2
  have hs := tS_rng (b := b) hq
  have hw := (wl_rng j).1
  exact ⟨by omega, h.1⟩
theorem stm_len {q : Int} (hq : q ≤ L) (h1 : (e1Stm b L q n wd).1 = 0) (h2 : (eSem b L (pStm b L q)).1 = 0) : q + 5 * ((s1Stm b L q n wd).length : Int) ≤ tE b L (pStm b L q) := by
  have hp := pStm_rng (b := b) hq
  have hs : tK b L (pStm b L q) = 3 := eSem_0 h2
  have he := tK_E (b := b) hp.2 (by omega)
  have e1 := tE_rng (b := b) hq
  have t1 := tS_rng (b := b) hq
  unfold e1Stm at h1
  by_cases c1 : tIs b L q 1 = true
  · simp only [if_pos c1] at h1
    have hl := (tIs_len hq c1).1
    have hE : pStm b L q = tE b L (tE b L q) := by unfold pStm; rw [if_pos c1]
    unfold eBad at h1
    by_cases d1 : (eNum b L (tE b L q) 0 (n 0 - 1)).1 = 0
    · have m1 := (eNum_0 d1).1
      have e2 := tK_E (b := b) e1.2.1 (by omega)
      have : (wl 1).length = 3 := rfl
      have hs1 : (s1Stm b L q n wd).length = 1 := by unfold s1Stm; rw [if_pos c1]; rfl
      rw [hs1]
      omega
    · rw [eTh_no d1] at h1
      exact absurd h1 d1
  · simp only [if_neg c1] at h1
    by_cases c2 : tIs b L q 2 = true
    · have hs1 : (s1Stm b L q n wd).length = 0 := by unfold s1Stm; rw [if_neg c1, if_pos c2]; rfl
      rw [hs1]
      omega
    · simp only [if_neg c2] at h1
      have hs1 : (s1Stm b L q n wd).length = 1 := by
        unfold s1Stm
        rw [if_neg c1, if_neg c2]
        split
        · rfl
        · split <;> rfl
      rw [hs1]
      by_cases c3 : tIs b L q 3 = true
      · have hl := (tIs_len hq c3).1
        have : (wl 3).length = 5 := rfl
        omega
      · simp only [if_neg c3] at h1
        by_cases c4 : tIs b L q 4 = true
        · have hl := (tIs_len hq c4).1
          have : (wl 4).length = 5 := rfl
          omega
        · simp only [if_neg c4] at h1
          by_cases c5 : tIs b L q 5 = true
          · have hl := (tIs_len hq c5).1
            have : (wl 5).length = 5 := rfl
            omega
          · simp only [if_neg c5] at h1
            exact absurd h1 (by simp)
/-- what is left by a text's reading -/
def zEnd (σ σ' : zW) (e : Int × Int) (n : zN) (wd : Int → List Int) (S : List zS5) : Prop := ((∀ k d c, ¬ (k = 2 ∧ d = 0 ∧ (c = 3 ∨ (9 ≤ c ∧ c ≤ 15))) → σ' k d c = σ k d c) ∧ ∀ i, 2 ≤ i → i ≤ 3 → σ' 2 0 3 i = σ 2 0 3 i) ∧ (σ' 2 0 3 0 = (if e.1 = 0 then σ 2 0 3 0 else e.1) ∧ σ' 2 0 3 1 = (if e.1 = 0 then σ 2 0 3 1 else e.2)) ∧ zNs σ' n wd ∧ zSl σ' S ∧ S.length ≤ 120
theorem e4_J111_0 (hW : zWF E) (hm : zU E 2 0 = true) (hz : zTz σ b L C) (hT : T ≤ 1000) (h14 : σ 2 0 3 14 = (T : Int)) : f_X4_read_J111 (zH E σ) (zL E 2 0 3) (zI 0) = some (zH E (zs σ 2 0 3 1 (tS b L (tp b L T)))) := by
  have g13 := zg_tx13 (σ := σ) hW hm
  have g14 := zg_tx14 (σ := σ) hW hm
  rw [h14] at g14
  have hto := (zz_tko (σ := σ) hW hm).2.2.2
  have hst := e11_startAt hW hm hz hT
  have p1 := zp_tx1 (σ := σ) hW hm (tS b L (tp b L T))
  simp (disch := first | assumption | omega) only [f_X4_read_J111, g13, g14, hto, hst, p1, zz_some, zz_lit, zz_num, zI_lt, zI_le, zI_eq, zI_nat, zz_b, if_pos, if_neg, if_true, if_false]
theorem e4_L58_0 (hW : zWF E) (hm : zU E 2 0 = true) (hP : zP1 σ b L C T n wd S) (hT : T ≤ 1000) {e : Int × Int} (he : e.1 ≠ 0) (h0 : σ 2 0 3 0 = e.1) (h2 : e.2 = tS b L (tp b L T)) (hS : S.length ≤ 120) {f : Nat} : ∃ σ', f_X4_read_L58 (f + 1) (zH E σ) (zL E 2 0 3) (zI 0) = some (zH E σ') ∧ zEnd σ σ' e n wd S := by
  have hj := e4_J111_0 hW hm hP.1 hT hP.2.1
  refine ⟨zs σ 2 0 3 1 (tS b L (tp b L T)), ?_, ⟨fun k d c z => zs_ne (by omega), fun i a c => by rw [zs_at, if_neg (by omega)]⟩, ⟨by rw [if_neg he, zs_at, if_neg (by omega)]; exact h0, by rw [if_neg he, zs_at, if_pos rfl]; exact h2.symm⟩, ?_, ?_, hS⟩
  · rw [f_X4_read_L58, if_pos (show zI 0 = (0 : Int32) from rfl)]
    exact hj
  · obtain ⟨q6, q7, q8⟩ := hP.2.2.2.1
    exact ⟨by rw [zs_at, if_neg (by omega)]; exact q6, q7, fun k k0 k1 => by rw [zs_ne (by omega)]; exact q8 k k0 k1⟩
  · obtain ⟨q9, q10⟩ := hP.2.2.2.2
    refine ⟨by rw [zs_at, if_neg (by omega)]; exact q9, fun i s hs => ?_⟩
    have := q10 i s hs
    unfold zSr at this ⊢
    rw [zs_ne (by omega), zs_ne (by omega), zs_ne (by omega), zs_ne (by omega), zs_ne (by omega)]
    exact this
theorem zEnd.pre {σ1 σ' : zW} {e : Int × Int} (f : zF2 σ σ1) (h0 : σ1 2 0 3 0 = σ 2 0 3 0) (h : zEnd σ1 σ' e n wd S) : zEnd σ σ' e n wd S := by
  obtain ⟨⟨f1, f2⟩, ⟨g1, g2⟩, r⟩ := h
  exact ⟨⟨fun k d c z => (f1 k d c z).trans (f.1 k d c z), fun i a c => (f2 i a c).trans (f.2 i (by omega) c)⟩, ⟨by rw [g1, h0], by rw [g2, f.2 1 (by omega) (by omega)]⟩, r⟩
theorem zEnd.prE {σ1 σ' : zW} {e : Int × Int} (he : e.1 ≠ 0) (f : zF2 σ σ1) (h : zEnd σ1 σ' e n wd S) : zEnd σ σ' e n wd S := by
  obtain ⟨⟨f1, f2⟩, ⟨g1, g2⟩, r⟩ := h
  rw [if_neg he] at g1 g2
  exact ⟨⟨fun k d c z => (f1 k d c z).trans (f.1 k d c z), fun i a c => (f2 i a c).trans (f.2 i (by omega) c)⟩, ⟨by rw [g1, if_neg he], by rw [g2, if_neg he]⟩, r⟩
theorem e4_L58 (hW : zWF E) (hm : zU E 2 0 = true) : ∀ (m fuel : Nat) (σ : zW) (U : Nat) (n : zN) (wd : Int → List Int) (S : List zS5), zP1 σ b L C U n wd S → (C : Int) - (U + 1) ≤ m → m < fuel → U ≤ 700 → 5 * (S.length : Int) ≤ tp b L (U + 1) → ∃ σ', f_X4_read_L58 fuel (zH E σ) (zL E 2 0 3) (zI 1) = some (zH E σ') ∧ zEnd σ σ' (p1All b L m (tp b L (U + 1)) n wd).1 (p1All b L m (tp b L (U + 1)) n wd).2.1 (p1All b L m (tp b L (U + 1)) n wd).2.2.1 (S ++ (p1All b L m (tp b L (U + 1)) n wd).2.2.2) := by
  intro m
  induction m with
  | zero =>
    intro fuel σ U n wd S hP hm0 hf hU h5
    obtain ⟨f, rfl, _⟩ := zfuel hf
    have hpr := tp_rng (b := b) hP.1.1.1 (U + 1)
    have hL6 := hP.1.1.2
    have g14 := zg_tx14 (σ := σ) hW hm
    rw [hP.2.1] at g14
    have g13 := zg_tx13 (σ := σ) hW hm
    have g0 := zg_tk0 (σ := σ) hW hm
    rw [hP.1.2.1.1] at g0
    have hC := hP.1.C
    have c1 : (C : Int) - 1 ≤ U := by omega
    have hj : f_X4_read_J111 (zH E σ) (zL E 2 0 3) (zI 1) = some (zH E σ) := by
      simp (disch := first | assumption | omega) only [f_X4_read_J111, zz_some, zz_lit, zz_num, zI_lt, zI_le, zI_eq, zI_nat, zz_b, if_pos, if_neg, if_true, if_false]
    refine ⟨σ, ?_, ⟨fun _ _ _ _ => rfl, fun _ _ _ => rfl⟩, ⟨(if_pos (show ((0, 0) : Int × Int).1 = 0 from rfl)).symm, (if_pos (show ((0, 0) : Int × Int).1 = 0 from rfl)).symm⟩, hP.2.2.2.1, by rw [show (p1All b L 0 (tp b L (U + 1)) n wd).2.2.2 = [] from rfl, List.append_nil]; exact hP.2.2.2.2, by rw [show (p1All b L 0 (tp b L (U + 1)) n wd).2.2.2 = [] from rfl, List.append_nil]; omega⟩
    simp (disch := first | assumption | omega) only [f_X4_read_L58, g14, g13, g0, c1, hj, zz_some, zz_lit, zz_num, zI_lt, zI_le, zI_eq, zI_nat, zz_b, if_pos, if_neg, if_true, if_false]
  | succ m ih =>
    intro fuel σ U n wd S hP hm0 hf hU h5
    obtain ⟨f, rfl, hf2⟩ := zfuel hf
    obtain ⟨f2, hf3, _⟩ := zfuel (show m < f by omega)
    have hpr := tp_rng (b := b) hP.1.1.1 (U + 1)
    have hL6 := hP.1.1.2
    have g14 := zg_tx14 (σ := σ) hW hm
    rw [hP.2.1] at g14
    have g13 := zg_tx13 (σ := σ) hW hm
    have g0 := zg_tk0 (σ := σ) hW hm
    rw [hP.1.2.1.1] at g0
    have hC := hP.1.C
    unfold p1All
    by_cases c0 : tK b L (tp b L (U + 1)) = 0
    · rw [if_pos c0]
      have c1 : (C : Int) - 1 ≤ U := by
        by_cases h : U + 1 < C
        · exact absurd c0 (hP.1.2.1.2.2 (U + 1) h).2
        · omega
      have hj : f_X4_read_J111 (zH E σ) (zL E 2 0 3) (zI 1) = some (zH E σ) := by
        simp (disch := first | assumption | omega) only [f_X4_read_J111, zz_some, zz_lit, zz_num, zI_lt, zI_le, zI_eq, zI_nat, zz_b, if_pos, if_neg, if_true, if_false]
      refine ⟨σ, ?_, ⟨fun _ _ _ _ => rfl, fun _ _ _ => rfl⟩, ⟨by rw [if_pos rfl], by rw [if_pos rfl]⟩, hP.2.2.2.1, by rw [List.append_nil]; exact hP.2.2.2.2, by rw [List.append_nil]; omega⟩
      simp (disch := first | assumption | omega) only [f_X4_read_L58, g14, g13, g0, c1, hj, zz_some, zz_lit, zz_num, zI_lt, zI_le, zI_eq, zI_nat, zz_b, if_pos, if_neg, if_true, if_false]
    · rw [if_neg c0]
      have hlt := hP.1.lt c0
      have c1 : ¬ (C : Int) - 1 ≤ U := by omega
      have hsr := tS_rng (b := b) hpr.2
      have hs0 := mt (tK_0 (b := b) hpr.2).mpr c0
      have hSl : S.length < 120 := by omega
      have p14 := zp_tx14 (σ := σ) hW hm ((U : Int) + 1)
      obtain ⟨σ1, e1⟩ : ∃ y, y = zs σ 2 0 3 14 ((U : Int) + 1) := ⟨_, rfl⟩
      rw [← e1] at p14
      have f1 : zF1 σ σ1 := by rw [e1]; exact zF1.s (Or.inr rfl)
      have h01 : σ1 2 0 3 0 = σ 2 0 3 0 := by rw [e1, zs_at, if_neg (by omega)]
      have hP1 : zP1 σ1 b L C (U + 1) n wd S := hP.t f1 (by rw [e1, zs_at, if_pos rfl]; omega)
      have htx1 := (zz_txo (σ := σ1) hW hm).2.2.2.2.2.2.2.2
      obtain ⟨σ2, T', a1, ⟨a2, a3, a4, a5⟩, ⟨t1, t2⟩, a6⟩ := e4_readStatement hW hm hP1 (by omega) hSl
      have htx2 := (zz_txo (σ := σ2) hW hm).2.2.2.2.2.2.2.2
      by_cases c2 : (e1Stm b L (tp b L (U + 1)) n wd).1 = 0
      · rw [zb_dpos c2] at a1
        rw [if_pos c2]
        have t3 := a6 c2
        have hP2 := a5 c2
        obtain ⟨σ3, b1, b2, b3, b4, b5⟩ := e4_readSemicolon hW hm hP2.1 (T := T') (by omega) hP2.2.1
        rw [t3] at b1 b4 b5
        have hP3 := hP2.t b2 b3
        have hsl : (S ++ s1Stm b L (tp b L (U + 1)) n wd).length ≤ 120 := by
          have : (s1Stm b L (tp b L (U + 1)) n wd).length ≤ 1 := by
            unfold s1Stm
            split
            · exact Nat.le_refl _
            · split
              · exact Nat.zero_le _
              · split
                · exact Nat.le_refl _
                · split <;> exact Nat.le_refl _
          rw [List.length_append]
          omega
        by_cases c3 : (eSem b L (pStm b L (tp b L (U + 1)))).1 = 0
        · rw [zb_dpos c3] at b1
          rw [if_pos c3]
          have hln := stm_len (b := b) (wd := wd) hpr.2 c2 c3
          have hE : tp b L (T' + 1 + 1) = tE b L (pStm b L (tp b L (U + 1))) := by rw [← t3]; rfl
          obtain ⟨σ4, d1, d2⟩ := ih f σ3 (T' + 1) (n1Stm b L (tp b L (U + 1)) n) (wStm b L (tp b L (U + 1)) n wd) (S ++ s1Stm b L (tp b L (U + 1)) n wd) hP3 (by omega) (by omega) (by omega) (by rw [hE, List.length_append]; omega)
          rw [hE] at d2
          refine ⟨σ4, ?_, ?_⟩
          · simp (disch := first | assumption | omega) only [f_X4_read_L58, g14, g13, g0, c1, p14, htx1, a1, htx2, b1, d1, zz_some, zz_lit, zz_num, zI_lt, zI_le, zI_eq, zI_nat, zz_b, if_pos, if_neg, if_true, if_false]
          · simp only
            rw [← List.append_assoc]
            exact zEnd.pre (f1.f.tr a2) ((a3.1 c2).trans h01) (zEnd.pre b2.f (b4.1 c3) d2)
        · rw [zb_dneg c3] at b1
          rw [if_neg c3]
          obtain ⟨σ4, d1, d2⟩ := e4_L58_0 (f := f2) hW hm hP3 (by omega) c3 (b4.2 c3) (by rw [t3]; exact b5 c3) hsl
          rw [← hf3] at d1
          refine ⟨σ4, ?_, zEnd.prE c3 ((f1.f.tr a2).tr b2.f) d2⟩
          simp (disch := first | assumption | omega) only [f_X4_read_L58, g14, g13, g0, c1, p14, htx1, a1, htx2, b1, d1, zz_some, zz_lit, zz_num, zI_lt, zI_le, zI_eq, zI_nat, zz_b, if_pos, if_neg, if_true, if_false]
      · rw [zb_dneg c2] at a1
        rw [if_neg c2]
        obtain ⟨w1, w2⟩ := a4 c2
        obtain ⟨σ4, d1, d2⟩ := e4_L58_0 (f := f2) hW hm w2 (by omega) c2 (a3.2 c2) w1 (by omega)
        rw [← hf3] at d1
        refine ⟨σ4, ?_, by rw [List.append_nil]; exact zEnd.prE c2 (f1.f.tr a2) d2⟩
        simp (disch := first | assumption | omega) only [f_X4_read_L58, g14, g13, g0, c1, p14, htx1, a1, htx2, d1, zz_some, zz_lit, zz_num, zI_lt, zI_le, zI_eq, zI_nat, zz_b, if_pos, if_neg, if_true, if_false]
end zRun

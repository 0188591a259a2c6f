/-! The class's text: its statements. -/
def zO1 (b : Int → Int) (L : Int) (C : Nat) (σ σ' : zW) (T' : Nat) (n : zN) (wd : Int → List Int) (S : List zS5) (e : Int × Int) (n1 : zN) (wd1 : Int → List Int) (S1 : List zS5) : Prop := zF2 σ σ' ∧ zA1 σ σ' e ∧ (e.1 ≠ 0 → e.2 = tS b L (tp b L T') ∧ zP1 σ' b L C T' n wd S) ∧ (e.1 = 0 → zP1 σ' b L C T' n1 wd1 S1)
section zP
variable {E : zE} {σ : zW} {b : Int → Int} {L : Int} {C T : Nat} {n : zN} {wd : Int → List Int} {S : List zS5}
theorem zO1.no {σ' : zW} {T' : Nat} {e : Int × Int} {n1 : zN} {wd1 : Int → List Int} {S1 : List zS5} (h : zP1 σ b L C T n wd S) (he : e.1 ≠ 0) (f : zF1 σ σ') (h14 : σ' 2 0 3 14 = (T' : Int)) (h0 : σ' 2 0 3 0 = e.1) (h2 : e.2 = tS b L (tp b L T')) : zO1 b L C σ σ' T' n wd S e n1 wd1 S1 :=
  ⟨f.f, ⟨fun z => absurd z he, fun _ => h0⟩, fun _ => ⟨h2, h.t f h14⟩, fun z => absurd z he⟩
theorem e4_readBad (hW : zWF E) (hm : zU E 2 0 = true) (hP : zP1 σ b L C T n wd S) (hT : T ≤ 800) (hc : S.length < 120) : ∃ σ', f_X4_readBad (zH E σ) (zL E 2 0 3) = some (zH E σ', zI (zb (decide ((eBad b L (tp b L (T + 1)) n).1 = 0)))) ∧ zO1 b L C σ σ' (T + 1) n wd S (eBad b L (tp b L (T + 1)) n) (zu n (103 + tV b L (tp b L (T + 1))) 1) wd (S ++ [(0, tS b L (tp b L T), tV b L (tp b L (T + 1)), 0, 0)]) := by
  obtain ⟨hz, h14, hB, hN, hS⟩ := id hP
  have g13 := zg_tx13 (σ := σ) hW hm
  have g14 := zg_tx14 (σ := σ) hW hm
  rw [h14] at g14
  have hto := (zz_tko (σ := σ) hW hm).2.2.2
  have htx := (zz_txo (σ := σ) hW hm).2.2.2.2.2.2.2.2
  have hst := e11_startAt hW hm hz (T := T) (by omega)
  have g2 := zg_tx2 (σ := σ) hW hm
  rw [hB.1] at g2
  have hB2 := hB.2.1
  obtain ⟨σ1, a1, a2, a3, a4, a5⟩ := e4_readNumber hW hm hz (by omega) h14 (lo := 0) (hi := n 0 - 1) (by omega) (by omega) (by omega) (by omega)
  have hP1 := hP.t a2 a3
  unfold eBad
  by_cases c1 : (eNum b L (tp b L (T + 1)) 0 (n 0 - 1)).1 = 0
  · obtain ⟨m1, m2, m3⟩ := eNum_0 c1
    rw [eTh_ok c1]
    rw [zb_dpos c1] at a1
    obtain ⟨v, hv⟩ : ∃ v, v = tV b L (tp b L (T + 1)) := ⟨_, rfl⟩
    rw [← hv] at m2 m3 ⊢
    have g131 := zg_tx13 (σ := σ1) hW hm
    have g141 := zg_tx14 (σ := σ1) hW hm
    rw [a3] at g141
    have hto1 := (zz_tko (σ := σ1) hW hm).2.2.2
    have htx1 := (zz_txo (σ := σ1) hW hm).2.2.2.2.2.2.2.2
    have hnu := e11_numberOf hW hm hP1.1 m1
    rw [← hv] at hnu
    have g121 := zg_tx12 (σ := σ1) hW hm
    obtain ⟨r1, r2⟩ := hP1.2.2.1.2.2 v m2 (by omega)
    have his := zX_isSet (σ := σ1) (n := 96) hW hm (k := 2) (d := 0) (c := 15) rfl (by decide) (i := v) (by omega) (by omega) (fun _ _ => by rw [r1]; exact r2)
    rw [if_pos (by omega), r1] at his
    by_cases c2 : n (103 + v) = 0
    · rw [if_pos c2]
      rw [c2] at his
      have hmk := zX_mark (σ := σ1) (n := 96) hW hm (k := 2) (d := 0) (c := 15) rfl (by decide) (i := v) (v := 1) (by omega) (by omega) (Or.inr rfl)
      rw [if_pos (by omega)] at hmk
      obtain ⟨σ2, e2⟩ : ∃ y, y = zs σ1 2 0 15 v 1 := ⟨_, rfl⟩
      rw [← e2] at hmk
      have htx2 := (zz_txo (σ := σ2) hW hm).2.2.2.2.2.2.2.2
      have hP2 : zP1 σ2 b L C (T + 1) (zu n (103 + v) 1) wd S := by
        obtain ⟨q1, q2, ⟨q3, q4, q5⟩, ⟨q6, q7, q8⟩, q9, q10⟩ := hP1
        have o : ∀ c : Nat, c ≠ 15 → σ2 2 0 c = σ1 2 0 c := fun c hc => by rw [e2, zs_ne (by omega)]
        refine ⟨q1.cg (fun c y z => o c (by omega)), by rw [o 3 (by omega)]; exact q2, ⟨by rw [o 3 (by omega), zu_ne (by omega)]; exact q3, by rw [zu_ne (by omega)]; exact q4, fun c c0 c1 => ?_⟩, ⟨by rw [o 3 (by omega), zu_ne (by omega)]; exact q6, by rw [zu_ne (by omega)]; exact q7, fun k k0 k1 => by rw [zu_ne (by omega)] at k1; rw [o 9 (by omega)]; exact q8 k k0 k1⟩, by rw [o 3 (by omega)]; exact q9, fun i s hs => ?_⟩
        · rw [e2, zs_at]
          by_cases hcv : c = v
          · rw [if_pos hcv, zu_eq (by omega)]
            exact ⟨rfl, Or.inr rfl⟩
          · rw [if_neg hcv, zu_ne (by omega)]
            exact q5 c c0 c1
        · have := q10 i s hs
          unfold zSr at this ⊢
          rw [o 10 (by omega), o 11 (by omega), o 12 (by omega), o 13 (by omega), o 14 (by omega)]
          exact this
      have had := e4_add hW hm hc hP2.2.2.2.2.1 (k := 0) (s := tS b L (tp b L T)) (t := v)
      refine ⟨zAd1 σ2 S.length 0 (tS b L (tp b L T)) v, ?_, (a2.f.tr (by rw [e2]; exact zF2.c (by omega))).tr zAd1.f, ⟨fun _ => ?_, fun z => absurd rfl z⟩, fun z => absurd rfl z, fun _ => hP2.a (fun z => absurd z (by omega))⟩
      · rw [zb_dpos (show ((0, 0) : Int × Int).1 = 0 from rfl)]
        simp (disch := first | assumption | omega) only [f_X4_readBad, g13, g14, hto, hst, g2, htx, a1, g131, g141, hto1, hnu, g121, his, hmk, htx2, had, zz_some, zz_lit, zz_num, zI_lt, zI_le, zI_eq, zI_nat, zz_b, if_pos, if_neg, if_true, if_false]
      · have h0 : zAd1 σ2 S.length 0 (tS b L (tp b L T)) v 2 0 3 0 = σ2 2 0 3 0 := by
          unfold zAd1
          rw [zs_at, if_neg (by omega), zs_ne (by omega), zs_ne (by omega), zs_ne (by omega)]
        rw [h0, e2, zs_ne (by omega)]
        exact a4.1 c1
    · rw [if_neg c2]
      have h1 : n (103 + v) = 1 := by omega
      rw [h1] at his
      have fl := e4_fail (σ := σ1) hW hm 2
      refine ⟨zs σ1 2 0 3 0 2, ?_, zO1.no hP (by simp) (a2.tr (zF1.s (Or.inl rfl))) (by rw [zs_at, if_neg (by omega)]; exact a3) (by rw [zs_at, if_pos rfl]) rfl⟩
      rw [zb_dneg (show ¬ ((2, tS b L (tp b L (T + 1))) : Int × Int).1 = 0 by simp)]
      simp (disch := first | assumption | omega) only [f_X4_readBad, g13, g14, hto, hst, g2, htx, a1, g131, g141, hto1, hnu, g121, his, htx1, fl, zz_some, zz_lit, zz_num, zI_lt, zI_le, zI_eq, zI_nat, zz_b, if_pos, if_neg, if_true, if_false]
  · rw [eTh_no c1]
    refine ⟨σ1, ?_, zO1.no hP c1 a2 a3 (a4.2 c1) (a5 c1)⟩
    rw [zb_dneg c1] at a1 ⊢
    simp (disch := first | assumption | omega) only [f_X4_readBad, g13, g14, hto, hst, g2, htx, a1, zz_some, zz_lit, zz_num, zI_lt, zI_le, zI_eq, zI_nat, zz_b, if_pos, if_neg, if_true, if_false]
theorem e4_readNewFile (hW : zWF E) (hm : zU E 2 0 = true) (hP : zP1 σ b L C T n wd S) (hT : T ≤ 800) : ∃ σ' T', f_X4_readNewFile (zH E σ) (zL E 2 0 3) = some (zH E σ', zI (zb (decide ((eNew b L (tp b L T) (tp b L (T + 1)) n wd).1 = 0)))) ∧ zO1 b L C σ σ' T' n wd S (eNew b L (tp b L T) (tp b L (T + 1)) n wd) (zu n 2 (n 2 + 1)) (fun k => if k = n 2 then tW b L (tp b L (T + 1)) else wd k) S ∧ (T ≤ T' ∧ T' ≤ T + 3) ∧ ((eNew b L (tp b L T) (tp b L (T + 1)) n wd).1 = 0 → T' = T + 1) := by
  obtain ⟨hz, h14, hB, hN, hS⟩ := id hP
  have g4 := zg_tx4 (σ := σ) hW hm
  rw [hN.1] at g4
  have htx := (zz_txo (σ := σ) hW hm).2.2.2.2.2.2.2.2
  have h10 := hN.2.1
  unfold eNew
  by_cases c0 : 10 ≤ n 2
  · rw [if_pos c0]
    have c0' : ¬ n 2 < 10 := by omega
    have fl := e4_fail (σ := σ) hW hm 5
    refine ⟨zs σ 2 0 3 0 5, T, ?_, zO1.no hP (by simp) (zF1.s (Or.inl rfl)) (by rw [zs_at, if_neg (by omega)]; exact h14) (by rw [zs_at, if_pos rfl]) rfl, by omega, fun z => absurd z (by simp)⟩
    rw [zb_dneg (show ¬ ((5, tS b L (tp b L T)) : Int × Int).1 = 0 by simp)]
    simp (disch := first | assumption | omega) only [f_X4_readNewFile, g4, c0', htx, fl, zz_some, zz_lit, zz_num, zI_lt, zI_le, zI_eq, zI_nat, zz_b, if_pos, if_neg, if_true, if_false]
  · rw [if_neg c0]
    have c0' : n 2 < 10 := by omega
    have g14 := zg_tx14 (σ := σ) hW hm
    rw [h14] at g14
    have q14 := zp_tx14 (σ := σ) hW hm ((T : Int) + 1)
    obtain ⟨σ1, e1⟩ : ∃ y, y = zs σ 2 0 3 14 ((T : Int) + 1) := ⟨_, rfl⟩
    rw [← e1] at q14
    have f1 : zF1 σ σ1 := by rw [e1]; exact zF1.s (Or.inr rfl)
    have h141 : σ1 2 0 3 14 = ((T + 1 : Nat) : Int) := by rw [e1, zs_at, if_pos rfl]; omega
    have h01 : σ1 2 0 3 0 = σ 2 0 3 0 := by rw [e1, zs_at, if_neg (by omega)]
    have hP1 := hP.t f1 h141
    have g13 := zg_tx13 (σ := σ1) hW hm
    have g5 := zg_tx5 (σ := σ1) hW hm
    have g41 := zg_tx4 (σ := σ1) hW hm
    rw [hP1.2.2.2.1.1] at g41
    have g141 := zg_tx14 (σ := σ1) hW hm
    rw [h141] at g141
    have hto := (zz_tko (σ := σ1) hW hm).2.2.2
    have htx1 := (zz_txo (σ := σ1) hW hm).2.2.2.2.2.2.2.2
    have hk := e11_kindOf hW hm hP1.1 (T := T + 1) (by omega)
    have hkr := tK_rn b L (tp b L (T + 1))
    by_cases c1 : tK b L (tp b L (T + 1)) = 1
    · rw [if_pos c1]
      have hv := e11_wordOf hW hm hP1.1 c1
      have hw := tK_1 (tp_rng (b := b) hz.1.1 (T + 1)).2 c1
      have hx := e9_indexOf (σ := σ1) (k0 := 2) (d := 0) (c := 9) hW hm rfl h10.1 h10.2 hP1.2.2.2.1.2.2 hw
      have hfn : zfd wd (tW b L (tp b L (T + 1))) (n 2).toNat 0 = fNm wd n (tW b L (tp b L (T + 1))) := rfl
      rw [hfn] at hx
      have hr : -1 ≤ fNm wd n (tW b L (tp b L (T + 1))) ∧ fNm wd n (tW b L (tp b L (T + 1))) < 11 := by
        rcases zfd_rng wd (tW b L (tp b L (T + 1))) (n 2).toNat 0 with h | h
        · unfold fNm; omega
        · unfold fNm; omega
      by_cases c2 : fNm wd n (tW b L (tp b L (T + 1))) = -1
      · rw [if_pos c2]
        rw [c2] at hx
        have hp9 := zX_put_ (σ := σ1) (n := 10) hW hm (k := 2) (d := 0) (c := 9) rfl (by decide) (i := n 2) (v := zw27 (tW b L (tp b L (T + 1)))) (by omega) (by omega)
        rw [if_pos (by omega)] at hp9
        obtain ⟨σ2, e2⟩ : ∃ y, y = zs σ1 2 0 9 (n 2) (zw27 (tW b L (tp b L (T + 1)))) := ⟨_, rfl⟩
        rw [← e2] at hp9
        have g42 := zg_tx4 (σ := σ2) hW hm
        rw [show σ2 2 0 3 4 = n 2 by rw [e2, zs_ne (by omega)]; exact hP1.2.2.2.1.1] at g42
        have q4 := zp_tx4 (σ := σ2) hW hm (n 2 + 1)
        obtain ⟨σ3, e3⟩ : ∃ y, y = zs σ2 2 0 3 4 (n 2 + 1) := ⟨_, rfl⟩
        rw [← e3] at q4
        have o : ∀ c : Nat, c ≠ 3 → c ≠ 9 → σ3 2 0 c = σ1 2 0 c := fun c y z => by rw [e3, zs_ne (by omega), e2, zs_ne (by omega)]
        have o3 : ∀ i, i ≠ 4 → σ3 2 0 3 i = σ1 2 0 3 i := fun i hi => by rw [e3, zs_at, if_neg hi, e2, zs_ne (by omega)]
        refine ⟨σ3, T + 1, ?_, ⟨f1.f.tr ⟨fun k d c z => by rw [e3, zs_ne (by omega), e2, zs_ne (by omega)], fun i y z => o3 i (by omega)⟩, ⟨fun _ => by rw [o3 0 (by omega)]; exact h01, fun z => absurd rfl z⟩, fun z => absurd rfl z, fun _ => ?_⟩, by omega, fun _ => rfl⟩
        · rw [zb_dpos (show ((0, 0) : Int × Int).1 = 0 from rfl)]
          simp (disch := first | assumption | omega) only [f_X4_readNewFile, g4, c0', g14, q14, g13, g141, hto, hk, c1, hv, g5, g41, hx, hp9, g42, q4, zz_some, zz_lit, zz_num, zI_lt, zI_le, zI_eq, zI_nat, zz_b, if_pos, if_neg, if_true, if_false]
        · obtain ⟨q1, q2, ⟨q3, q4', q5⟩, ⟨q6, q7, q8⟩, q9, q10⟩ := hP1
          refine ⟨q1.cg (fun c y z => o c (by omega) (by omega)), by rw [o3 14 (by omega)]; exact q2, ⟨by rw [o3 2 (by omega), zu_ne (by omega)]; exact q3, by rw [zu_ne (by omega)]; exact q4', fun c c0 c1 => by rw [o 15 (by omega) (by omega), zu_ne (by omega)]; exact q5 c c0 c1⟩, ⟨by rw [e3, zs_at, if_pos rfl, zu_eq rfl], by rw [zu_eq rfl]; omega, fun k k0 k1 => ?_⟩, by rw [o3 6 (by omega)]; exact q9, fun i s hs => ?_⟩
          · rw [zu_eq rfl] at k1
            rw [e3, zs_ne (by omega), e2, zs_at]
            by_cases hkn : k = n 2
            · simp only [if_pos hkn]
              exact ⟨hw, trivial⟩
            · simp only [if_neg hkn]
              exact q8 k k0 (by omega)
          · have := q10 i s hs
            unfold zSr at this ⊢
            rw [o 10 (by omega) (by omega), o 11 (by omega) (by omega), o 12 (by omega) (by omega), o 13 (by omega) (by omega), o 14 (by omega) (by omega)]
            exact this
      · rw [if_neg c2]
        have fl := e4_fail (σ := σ1) hW hm 2
        refine ⟨zs σ1 2 0 3 0 2, T + 1, ?_, zO1.no hP (by simp) (f1.tr (zF1.s (Or.inl rfl))) (by rw [zs_at, if_neg (by omega)]; exact h141) (by rw [zs_at, if_pos rfl]) rfl, by omega, fun _ => rfl⟩
        rw [zb_dneg (show ¬ ((2, tS b L (tp b L (T + 1))) : Int × Int).1 = 0 by simp)]
        simp (disch := first | assumption | omega) only [f_X4_readNewFile, g4, c0', g14, q14, g13, g141, hto, hk, c1, hv, g5, g41, hx, c2, htx1, fl, zz_some, zz_lit, zz_num, zI_lt, zI_le, zI_eq, zI_nat, zz_b, if_pos, if_neg, if_true, if_false]
    · rw [if_neg c1]
      have fl := e4_fail (σ := σ1) hW hm 1
      refine ⟨zs σ1 2 0 3 0 1, T + 1, ?_, zO1.no hP (by simp) (f1.tr (zF1.s (Or.inl rfl))) (by rw [zs_at, if_neg (by omega)]; exact h141) (by rw [zs_at, if_pos rfl]) rfl, by omega, fun _ => rfl⟩
      rw [zb_dneg (show ¬ ((1, tS b L (tp b L (T + 1))) : Int × Int).1 = 0 by simp)]
      simp (disch := first | assumption | omega) only [f_X4_readNewFile, g4, c0', g14, q14, g13, g141, hto, hk, c1, htx1, fl, zz_some, zz_lit, zz_num, zI_lt, zI_le, zI_eq, zI_nat, zz_b, if_pos, if_neg, if_true, if_false]
theorem e4_readErase (hW : zWF E) (hm : zU E 2 0 = true) (hP : zP1 σ b L C T n wd S) (hT : T ≤ 800) (hc : S.length < 120) : ∃ σ', f_X4_readErase (zH E σ) (zL E 2 0 3) = some (zH E σ', zI (zb (decide ((eFil b L (tp b L (T + 1)) n wd).1 = 0)))) ∧ zO1 b L C σ σ' (T + 1) n wd S (eFil b L (tp b L (T + 1)) n wd) n wd (S ++ [(2, tS b L (tp b L T), fNm wd n (tW b L (tp b L (T + 1))), 0, 0)]) := by
  obtain ⟨hz, h14, hB, hN, hS⟩ := id hP
  have g13 := zg_tx13 (σ := σ) hW hm
  have g14 := zg_tx14 (σ := σ) hW hm
  rw [h14] at g14
  have hto := (zz_tko (σ := σ) hW hm).2.2.2
  have htx := (zz_txo (σ := σ) hW hm).2.2.2.2.2.2.2.2
  have hst := e11_startAt hW hm hz (T := T) (by omega)
  obtain ⟨σ1, a1, a2, a3, a4, a5⟩ := e4_readFile hW hm hz (by omega) h14 hN
  have hP1 := hP.t a2 a3
  have htx1 := (zz_txo (σ := σ1) hW hm).2.2.2.2.2.2.2.2
  by_cases c1 : (eFil b L (tp b L (T + 1)) n wd).1 = 0
  · rw [if_pos c1] at a1
    rw [zb_dpos c1]
    have hf := (eFil_0 c1).2
    have hfr : 0 ≤ fNm wd n (tW b L (tp b L (T + 1))) ∧ fNm wd n (tW b L (tp b L (T + 1))) < 10 := by
      have h10 := hN.2.1
      rcases zfd_rng wd (tW b L (tp b L (T + 1))) (n 2).toNat 0 with h | h
      · exact absurd h hf
      · unfold fNm; omega
    have had := e4_add hW hm hc hP1.2.2.2.2.1 (k := 2) (s := tS b L (tp b L T)) (t := fNm wd n (tW b L (tp b L (T + 1))))
    refine ⟨zAd1 σ1 S.length 2 (tS b L (tp b L T)) (fNm wd n (tW b L (tp b L (T + 1)))), ?_, a2.f.tr zAd1.f, ⟨fun _ => ?_, fun z => absurd c1 z⟩, fun z => absurd c1 z, fun _ => hP1.a (fun z => absurd z (by omega))⟩
    · simp (disch := first | assumption | omega) only [f_X4_readErase, g13, g14, hto, hst, htx, a1, hf, htx1, had, zz_some, zz_lit, zz_num, zI_lt, zI_le, zI_eq, zI_nat, zz_b, if_pos, if_neg, if_true, if_false]
    · have h0 : zAd1 σ1 S.length 2 (tS b L (tp b L T)) (fNm wd n (tW b L (tp b L (T + 1)))) 2 0 3 0 = σ1 2 0 3 0 := by
        unfold zAd1
        rw [zs_at, if_neg (by omega), zs_ne (by omega), zs_ne (by omega), zs_ne (by omega)]
      rw [h0]
      exact a4.1 c1
  · rw [if_neg c1] at a1
    refine ⟨σ1, ?_, zO1.no hP c1 a2 a3 (a4.2 c1) (a5 c1)⟩
    rw [zb_dneg c1]
    simp (disch := first | assumption | omega) only [f_X4_readErase, g13, g14, hto, hst, htx, a1, zz_some, zz_lit, zz_num, zI_lt, zI_le, zI_eq, zI_nat, zz_b, if_pos, if_neg, if_true, if_false]
theorem e4_readWrite (hW : zWF E) (hm : zU E 2 0 = true) (hP : zP1 σ b L C T n wd S) (hT : T ≤ 800) (hc : S.length < 120) : ∃ σ' T', f_X4_readWrite (zH E σ) (zL E 2 0 3) = some (zH E σ', zI (zb (decide ((e1Wri b L (tp b L (T + 1)) n wd).1 = 0)))) ∧ zO1 b L C σ σ' T' n wd S (e1Wri b L (tp b L (T + 1)) n wd) n wd (S ++ [(1, tS b L (tp b L T), fNm wd n (tW b L (tp b L (T + 1))), tV b L (tp b L (T + 2)), tV b L (tp b L (T + 3)))]) ∧ (T ≤ T' ∧ T' ≤ T + 3) ∧ ((e1Wri b L (tp b L (T + 1)) n wd).1 = 0 → T' = T + 3) := by
  obtain ⟨hz, h14, hB, hN, hS⟩ := id hP
  have g13 := zg_tx13 (σ := σ) hW hm
  have g14 := zg_tx14 (σ := σ) hW hm
  rw [h14] at g14
  have hto := (zz_tko (σ := σ) hW hm).2.2.2
  have htx := (zz_txo (σ := σ) hW hm).2.2.2.2.2.2.2.2
  have hst := e11_startAt hW hm hz (T := T) (by omega)
  obtain ⟨σ1, a1, a2, a3, a4, a5⟩ := e4_readFile hW hm hz (by omega) h14 hN
  have hP1 := hP.t a2 a3
  have htx1 := (zz_txo (σ := σ1) hW hm).2.2.2.2.2.2.2.2
  have hd1 : tE b L (tp b L (T + 1)) = tp b L (T + 2) := rfl
  have hd2 : tE b L (tp b L (T + 2)) = tp b L (T + 3) := rfl
  unfold e1Wri
  rw [hd1, hd2]
  by_cases c1 : (eFil b L (tp b L (T + 1)) n wd).1 = 0
  · rw [if_pos c1] at a1
    rw [eTh_ok c1]
    have hf := (eFil_0 c1).2
    have hfr : 0 ≤ fNm wd n (tW b L (tp b L (T + 1))) ∧ fNm wd n (tW b L (tp b L (T + 1))) < 10 := by
      have h10 := hN.2.1
      rcases zfd_rng wd (tW b L (tp b L (T + 1))) (n 2).toNat 0 with h | h
      · exact absurd h hf
      · unfold fNm; omega
    obtain ⟨σ2, b1, b2, b3, b4, b5⟩ := e4_readNumber hW hm hP1.1 (T := T + 1) (by omega) a3 (lo := 1) (hi := 8) (by omega) (by omega) (by omega) (by omega)
    have hP2 := hP1.t b2 b3
    by_cases c2 : (eNum b L (tp b L (T + 2)) 1 8).1 = 0
    · obtain ⟨m1, m2, m3⟩ := eNum_0 c2
      rw [eTh_ok c2]
      rw [zb_dpos c2] at b1
      have g132 := zg_tx13 (σ := σ2) hW hm
      have g142 := zg_tx14 (σ := σ2) hW hm
      rw [b3] at g142
      have hto2 := (zz_tko (σ := σ2) hW hm).2.2.2
      have htx2 := (zz_txo (σ := σ2) hW hm).2.2.2.2.2.2.2.2
      have hnu := e11_numberOf hW hm hP2.1 (T := T + 2) m1
      have hnu : f_X11_numberOf (zH E σ2) (zL E 2 0 16) (zI ((T + 1 + 1 : Nat) : Int)) = some (zI (tV b L (tp b L (T + 2)))) := hnu
      obtain ⟨σ3, d1, d2, d3, d4, d5⟩ := e4_readNumber hW hm hP2.1 (T := T + 2) (by omega) b3 (lo := 0) (hi := 999) (by omega) (by omega) (by omega) (by omega)
      have hP3 := hP2.t d2 d3
      by_cases c3 : (eNum b L (tp b L (T + 3)) 0 999).1 = 0
      · obtain ⟨y1, y2, y3⟩ := eNum_0 c3
        rw [zb_dpos c3] at d1
        rw [zb_dpos c3]
        have g103 := zg_tx10 (σ := σ3) hW hm
        have g63 := zg_tx6 (σ := σ3) hW hm
        rw [hP3.2.2.2.2.1] at g63
        have p13 := zX_put (σ := σ3) (n := 120) hW hm (k := 2) (d := 0) (c := 13) rfl (by decide) (i := (S.length : Int)) (v := tV b L (tp b L (T + 2))) (by omega) (by omega)
        rw [if_pos (by omega)] at p13
        obtain ⟨σ4, e4⟩ : ∃ y, y = zs σ3 2 0 13 S.length (tV b L (tp b L (T + 2))) := ⟨_, rfl⟩
        rw [← e4] at p13
        have o4 : ∀ c : Nat, c ≠ 13 → σ4 2 0 c = σ3 2 0 c := fun c y => by rw [e4, zs_ne (by omega)]
        have g114 := zg_tx11 (σ := σ4) hW hm
        have g64 := zg_tx6 (σ := σ4) hW hm
        rw [o4 3 (by omega), hP3.2.2.2.2.1] at g64
        have g134 := zg_tx13 (σ := σ4) hW hm
        have g144 := zg_tx14 (σ := σ4) hW hm
        rw [o4 3 (by omega), d3] at g144
        have hto4 := (zz_tko (σ := σ4) hW hm).2.2.2
        have hz4 : zTz σ4 b L C := hP3.1.cg (fun c y z => o4 c (by omega))
        have hnu4 := e11_numberOf hW hm hz4 (T := T + 3) y1
        have hnu4 : f_X11_numberOf (zH E σ4) (zL E 2 0 16) (zI ((T + 2 + 1 : Nat) : Int)) = some (zI (tV b L (tp b L (T + 3)))) := hnu4
        have p14 := zX_put (σ := σ4) (n := 120) hW hm (k := 2) (d := 0) (c := 14) rfl (by decide) (i := (S.length : Int)) (v := tV b L (tp b L (T + 3))) (by omega) (by omega)
        rw [if_pos (by omega)] at p14
        obtain ⟨σ5, e5⟩ : ∃ y, y = zs σ4 2 0 14 S.length (tV b L (tp b L (T + 3))) := ⟨_, rfl⟩
        rw [← e5] at p14
        have o5 : ∀ c : Nat, c ≠ 13 → c ≠ 14 → σ5 2 0 c = σ3 2 0 c := fun c y z => by rw [e5, zs_ne (by omega), o4 c y]
        have htx5 := (zz_txo (σ := σ5) hW hm).2.2.2.2.2.2.2.2
        have f4 : zF2 σ3 σ4 := by rw [e4]; exact zF2.c (by omega)
        have f5 : zF2 σ4 σ5 := by rw [e5]; exact zF2.c (by omega)
        have hP5 : zP1 σ5 b L C (T + 3) n wd S := by
          obtain ⟨q1, q2, ⟨q3, q4, q5⟩, ⟨q6, q7, q8⟩, q9, q10⟩ := hP3
          refine ⟨q1.cg (fun c y z => o5 c (by omega) (by omega)), by rw [o5 3 (by omega) (by omega)]; exact q2, ⟨by rw [o5 3 (by omega) (by omega)]; exact q3, q4, fun c c0 c1 => by rw [o5 15 (by omega) (by omega)]; exact q5 c c0 c1⟩, ⟨by rw [o5 3 (by omega) (by omega)]; exact q6, q7, fun k k0 k1 => by rw [o5 9 (by omega) (by omega)]; exact q8 k k0 k1⟩, by rw [o5 3 (by omega) (by omega)]; exact q9, fun i s hs => ?_⟩
          have hlt : i < S.length := by
            by_cases h : i < S.length
            · exact h
            · rw [List.getElem?_eq_none (by omega)] at hs
              cases hs
          have := q10 i s hs
          unfold zSr at this ⊢
          rw [o5 10 (by omega) (by omega), o5 11 (by omega) (by omega), o5 12 (by omega) (by omega), e5, zs_ne (by omega), zs_at, if_neg (by omega), e4, zs_at, if_neg (by omega), zs_ne (by omega)]
          exact this
        have had := e4_add hW hm hc hP5.2.2.2.2.1 (k := 1) (s := tS b L (tp b L T)) (t := fNm wd n (tW b L (tp b L (T + 1))))
        refine ⟨zAd1 σ5 S.length 1 (tS b L (tp b L T)) (fNm wd n (tW b L (tp b L (T + 1)))), T + 3, ?_, ⟨((((a2.f.tr b2.f).tr d2.f).tr f4).tr f5).tr zAd1.f, ⟨fun _ => ?_, fun z => absurd c3 z⟩, fun z => absurd c3 z, fun _ => hP5.a (fun _ => ⟨?_, ?_⟩)⟩, by omega, fun _ => rfl⟩
        · simp (disch := first | assumption | omega) only [f_X4_readWrite, g13, g14, hto, hst, htx, a1, hf, htx1, b1, g132, g142, hto2, hnu, htx2, d1, g103, g63, p13, g114, g64, g134, g144, hto4, hnu4, p14, htx5, had, zz_some, zz_lit, zz_num, zI_lt, zI_le, zI_eq, zI_nat, zz_b, if_pos, if_neg, if_true, if_false]
        · have h0 : zAd1 σ5 S.length 1 (tS b L (tp b L T)) (fNm wd n (tW b L (tp b L (T + 1)))) 2 0 3 0 = σ5 2 0 3 0 := by
            unfold zAd1
            rw [zs_at, if_neg (by omega), zs_ne (by omega), zs_ne (by omega), zs_ne (by omega)]
          rw [h0, o5 3 (by omega) (by omega)]
          exact (d4.1 c3).trans ((b4.1 c2).trans (a4.1 c1))
        · rw [e5, zs_ne (by omega), e4, zs_at, if_pos rfl]
        · rw [e5, zs_at, if_pos rfl]
      · refine ⟨σ3, T + 3, ?_, zO1.no hP c3 ((a2.tr b2).tr d2) d3 (d4.2 c3) (d5 c3), by omega, fun z => absurd z c3⟩
        rw [zb_dneg c3] at d1 ⊢
        simp (disch := first | assumption | omega) only [f_X4_readWrite, g13, g14, hto, hst, htx, a1, hf, htx1, b1, g132, g142, hto2, hnu, htx2, d1, zz_some, zz_lit, zz_num, zI_lt, zI_le, zI_eq, zI_nat, zz_b, if_pos, if_neg, if_true, if_false]
    · rw [eTh_no c2]
      refine ⟨σ2, T + 2, ?_, zO1.no hP c2 (a2.tr b2) b3 (b4.2 c2) (b5 c2), by omega, fun z => absurd z c2⟩
      rw [zb_dneg c2] at b1 ⊢
      simp (disch := first | assumption | omega) only [f_X4_readWrite, g13, g14, hto, hst, htx, a1, hf, htx1, b1, zz_some, zz_lit, zz_num, zI_lt, zI_le, zI_eq, zI_nat, zz_b, if_pos, if_neg, if_true, if_false]
  · rw [if_neg c1] at a1
    rw [eTh_no c1]
    refine ⟨σ1, T + 1, ?_, zO1.no hP c1 a2 a3 (a4.2 c1) (a5 c1), by omega, fun z => absurd z c1⟩
    rw [zb_dneg c1]
    simp (disch := first | assumption | omega) only [f_X4_readWrite, g13, g14, hto, hst, htx, a1, zz_some, zz_lit, zz_num, zI_lt, zI_le, zI_eq, zI_nat, zz_b, if_pos, if_neg, if_true, if_false]
theorem e4_readStatement (hW : zWF E) (hm : zU E 2 0 = true) (hP : zP1 σ b L C T n wd S) (hT : T ≤ 800) (hc : S.length < 120) : ∃ σ' T', f_X4_readStatement (zH E σ) (zL E 2 0 3) = some (zH E σ', zI (zb (decide ((e1Stm b L (tp b L T) n wd).1 = 0)))) ∧ zO1 b L C σ σ' T' n wd S (e1Stm b L (tp b L T) n wd) (n1Stm b L (tp b L T) n) (wStm b L (tp b L T) n wd) (S ++ s1Stm b L (tp b L T) n wd) ∧ (T ≤ T' ∧ T' ≤ T + 3) ∧ ((e1Stm b L (tp b L T) n wd).1 = 0 → tp b L (T' + 1) = pStm b L (tp b L T)) := by
  obtain ⟨hz, h14, hB, hN, hS⟩ := id hP
  have htx := (zz_txo (σ := σ) hW hm).2.2.2.2.2.2.2.2
  have w := fun j (hj : j < 6) => e4_isWord hW hm hz (T := T) (by omega) h14 hj
  have w1 := w 1 (by omega)
  have w2 := w 2 (by omega)
  have w3 := w 3 (by omega)
  have w4 := w 4 (by omega)
  have w5 := w 5 (by omega)
  have hd1 : tE b L (tp b L T) = tp b L (T + 1) := rfl
  have hd2 : tE b L (tp b L (T + 1)) = tp b L (T + 2) := rfl
  have hd3 : tE b L (tp b L (T + 2)) = tp b L (T + 3) := rfl
  have hd4 : tE b L (tp b L (T + 3)) = tp b L (T + 4) := rfl
  unfold e1Stm n1Stm wStm s1Stm pStm
  rw [hd1, hd2, hd3, hd4]
  by_cases c1 : tIs b L (tp b L T) 1 = true
  · simp only [if_pos c1]
    rw [zb_pos c1] at w1
    obtain ⟨σ', a1, a2⟩ := e4_readBad hW hm hP hT hc
    refine ⟨σ', T + 1, ?_, a2, by omega, fun _ => rfl⟩
    have gz := g_zb (decide ((eBad b L (tp b L (T + 1)) n).1 = 0))
    simp (disch := first | assumption | omega) only [f_X4_readStatement, htx, w1, a1, gz, zz_some, zz_lit, zz_num, zI_lt, zI_le, zI_eq, zI_nat, zz_b, if_pos, if_neg, if_true, if_false]
  · simp only [if_neg c1]
    rw [zb_neg (by simpa using c1)] at w1
    by_cases c2 : tIs b L (tp b L T) 2 = true
    · simp only [if_pos c2]
      rw [zb_pos c2] at w2
      obtain ⟨σ', T', a1, a2, a4, a3⟩ := e4_readNewFile hW hm hP hT
      refine ⟨σ', T', ?_, by rw [List.append_nil]; exact a2, a4, fun z => ?_⟩
      · have gz := g_zb (decide ((eNew b L (tp b L T) (tp b L (T + 1)) n wd).1 = 0))
        simp (disch := first | assumption | omega) only [f_X4_readStatement, htx, w1, w2, a1, gz, zz_some, zz_lit, zz_num, zI_lt, zI_le, zI_eq, zI_nat, zz_b, if_pos, if_neg, if_true, if_false]
      · rw [a3 z]
    · simp only [if_neg c2]
      rw [zb_neg (by simpa using c2)] at w2
      by_cases c3 : tIs b L (tp b L T) 3 = true
      · simp only [if_pos c3]
        rw [zb_pos c3] at w3
        obtain ⟨σ', T', a1, a2, a4, a3⟩ := e4_readWrite hW hm hP hT hc
        refine ⟨σ', T', ?_, a2, a4, fun z => ?_⟩
        · have gz := g_zb (decide ((e1Wri b L (tp b L (T + 1)) n wd).1 = 0))
          simp (disch := first | assumption | omega) only [f_X4_readStatement, htx, w1, w2, w3, a1, gz, zz_some, zz_lit, zz_num, zI_lt, zI_le, zI_eq, zI_nat, zz_b, if_pos, if_neg, if_true, if_false]
        · rw [a3 z]
      · simp only [if_neg c3]
        rw [zb_neg (by simpa using c3)] at w3
        by_cases c4 : tIs b L (tp b L T) 4 = true
        · simp only [if_pos c4]
          rw [zb_pos c4] at w4
          obtain ⟨σ', a1, a2⟩ := e4_readErase hW hm hP hT hc
          refine ⟨σ', T + 1, ?_, a2, by omega, fun _ => rfl⟩
          have gz := g_zb (decide ((eFil b L (tp b L (T + 1)) n wd).1 = 0))
          simp (disch := first | assumption | omega) only [f_X4_readStatement, htx, w1, w2, w3, w4, a1, gz, zz_some, zz_lit, zz_num, zI_lt, zI_le, zI_eq, zI_nat, zz_b, if_pos, if_neg, if_true, if_false]
        · simp only [if_neg c4]
          rw [zb_neg (by simpa using c4)] at w4
          by_cases c5 : tIs b L (tp b L T) 5 = true
          · simp only [if_pos c5]
            rw [zb_pos c5] at w5
            have g13 := zg_tx13 (σ := σ) hW hm
            have g14 := zg_tx14 (σ := σ) hW hm
            rw [h14] at g14
            have hto := (zz_tko (σ := σ) hW hm).2.2.2
            have hst := e11_startAt hW hm hz (T := T) (by omega)
            have had := e4_add hW hm hc hS.1 (k := 3) (s := tS b L (tp b L T)) (t := -1)
            refine ⟨zAd1 σ S.length 3 (tS b L (tp b L T)) (-1), T, ?_, ⟨zAd1.f, ⟨fun _ => ?_, fun z => absurd rfl z⟩, fun z => absurd rfl z, fun _ => hP.a (fun z => absurd z (by omega))⟩, by omega, fun _ => rfl⟩
            · rw [show (zb (decide True) : Int) = 1 from rfl]
              simp (disch := first | assumption | omega) only [f_X4_readStatement, htx, w1, w2, w3, w4, w5, g13, g14, hto, hst, had, zz_some, zz_lit, zz_num, zI_lt, zI_le, zI_eq, zI_nat, zz_b, if_pos, if_neg, if_true, if_false]
            · unfold zAd1
              rw [zs_at, if_neg (by omega), zs_ne (by omega), zs_ne (by omega), zs_ne (by omega)]
          · simp only [if_neg c5]
            rw [zb_neg (by simpa using c5)] at w5
            have fl := e4_fail (σ := σ) hW hm 1
            refine ⟨zs σ 2 0 3 0 1, T, ?_, zO1.no hP (by simp) (zF1.s (Or.inl rfl)) (by rw [zs_at, if_neg (by omega)]; exact h14) (by rw [zs_at, if_pos rfl]) rfl, by omega, fun z => absurd z (by simp)⟩
            rw [zb_dneg (show ¬ ((1, tS b L (tp b L T)) : Int × Int).1 = 0 by simp)]
            simp (disch := first | assumption | omega) only [f_X4_readStatement, htx, w1, w2, w3, w4, w5, fl, zz_some, zz_lit, zz_num, zI_lt, zI_le, zI_eq, zI_nat, zz_b, if_pos, if_neg, if_true, if_false]
end zP

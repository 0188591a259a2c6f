/-! parse at the class; the relation of both sides. -/
theorem eNum_rng {b : Int → Int} {L p lo hi : Int} : 0 ≤ (eNum b L p lo hi).1 ∧ (eNum b L p lo hi).1 ≤ 6 := by
  unfold eNum
  split
  · split <;> simp
  · simp
theorem eSem_rng {b : Int → Int} {L p : Int} : 0 ≤ (eSem b L p).1 ∧ (eSem b L p).1 ≤ 6 := by
  unfold eSem
  split <;> simp
theorem eFil_rng {b : Int → Int} {L p : Int} {n : zN} {wd : Int → List Int} : 0 ≤ (eFil b L p n wd).1 ∧ (eFil b L p n wd).1 ≤ 6 := by
  unfold eFil
  split
  · split <;> simp
  · simp
theorem eTh_rng {a c : Int × Int} (h : 0 ≤ a.1 ∧ a.1 ≤ 6) (h2 : 0 ≤ c.1 ∧ c.1 ≤ 6) : 0 ≤ (eTh a c).1 ∧ (eTh a c).1 ≤ 6 := by
  unfold eTh
  split
  · exact h2
  · exact h
theorem eStm_rng {b : Int → Int} {L q : Int} {n : zN} {wd : Int → List Int} : 0 ≤ (eStm b L q n wd).1 ∧ (eStm b L q n wd).1 ≤ 6 := by
  unfold eStm
  split
  · unfold eBad
    exact eTh_rng eNum_rng (by split <;> simp)
  · split
    · unfold eNew
      split
      · simp
      · split
        · split <;> simp
        · simp
    · split
      · unfold eWri
        exact eTh_rng eFil_rng (eTh_rng eNum_rng (eTh_rng eNum_rng (by split <;> simp)))
      · split
        · unfold eEra
          exact eTh_rng eFil_rng (by split <;> simp)
        · split
          · unfold eClo
            split <;> simp
          · simp
theorem pAll_rng {b : Int → Int} {L : Int} : ∀ (m : Nat) (q : Int) (n : zN) (wd : Int → List Int), 0 ≤ (pAll b L m q n wd).1.1 ∧ (pAll b L m q n wd).1.1 ≤ 6 := by
  intro m
  induction m with
  | zero => intro q n wd; simp [pAll]
  | succ m ih =>
    intro q n wd
    rw [pAll]
    split
    · simp
    · split
      · split
        · exact ih _ _ _
        · exact eSem_rng
      · exact eStm_rng
theorem eTxt_rng {b : Int → Int} {L : Int} {n : zN} : 0 ≤ (eTxt b L n).1 ∧ (eTxt b L n).1 ≤ 6 := by
  unfold eTxt
  split
  · exact pAll_rng _ _ _ _
  · unfold eHead
    split
    · exact eTh_rng eNum_rng (eTh_rng eNum_rng eSem_rng)
    · simp
theorem zCL.z {nm : Int → Int} {E : zE} {σ σ' : zW} {d t : Nat} {n : zN} {c : Int} {U : Int → zN} {h : Int → Bool} {V : Int → zN} (hC : zCL nm E σ d t n c U h V) (f0 : ∀ d c, σ' 0 d c = σ 0 d c) (f2 : ∀ c, σ' 2 0 c = σ 2 0 c) : zCL nm E σ' d t n c U h V := by
  obtain ⟨hD, hS, ⟨o, r1, r2, r3, r4, r5, r6, r7⟩, hV⟩ := hC
  have g0 : ∀ s, σ' 0 s = σ 0 s := fun s => funext fun c' => f0 s c'
  refine ⟨hD.cg (by rw [f2]) (by rw [f2]) (fun c' _ => f2 c'), hS.cg (g0 d), ⟨o, by rw [f2]; exact r1, r2, r3, by rw [f2]; exact r4, r5, r6, fun k k0 k1 => ?_⟩, fun j j0 j1 => ?_⟩
  · obtain ⟨s, q1, q2⟩ := r7 k k0 k1
    exact ⟨s, by rw [f2]; exact q1, q2.cg (g0 s)⟩
  · obtain ⟨v1, v2⟩ := hV j j0 j1
    refine ⟨by rw [f2]; exact v1, fun hh => ?_⟩
    obtain ⟨s, q1, q2⟩ := v2 hh
    exact ⟨s, by rw [f2]; exact q1, q2.cg (g0 s)⟩
theorem zCL.tt {nm : Int → Int} {E : zE} {σ σ' : zW} {d t : Nat} {n : zN} {c : Int} {U : Int → zN} {h : Int → Bool} {V : Int → zN} (hC : zCL nm E σ d t n c U h V) (f : ∀ k d' c', ¬ (k = 2 ∧ d' = 0 ∧ (c' = 1 ∨ c' = 3 ∨ (9 ≤ c' ∧ c' ≤ 19))) → ¬ (k ≤ 1 ∧ d' = t) → σ' k d' c' = σ k d' c') : zCL nm E σ' d t n c U h V := by
  obtain ⟨hD, hS, ⟨o, r1, r2, r3, r4, r5, r6, r7⟩, hV⟩ := hC
  have hdt := hD.1.2.2.1
  have g0 : ∀ s, s ≠ t → σ' 0 s = σ 0 s := fun s hs => funext fun c' => f 0 s c' (by omega) (by omega)
  have g2 : ∀ c', c' ≠ 1 → c' ≠ 3 → c' ≤ 8 → σ' 2 0 c' = σ 2 0 c' := fun c' a1 a3 a8 => f 2 0 c' (by omega) (by omega)
  refine ⟨hD.cg (by rw [g2 0 (by omega) (by omega) (by omega)]) (by rw [g2 0 (by omega) (by omega) (by omega)]) (fun c' z => g2 c' (by omega) (by omega) (by omega)), hS.cg (g0 d hdt), ⟨o, by rw [g2 4 (by omega) (by omega) (by omega)]; exact r1, r2, r3, by rw [g2 4 (by omega) (by omega) (by omega)]; exact r4, r5, r6, fun k k0 k1 => ?_⟩, fun j j0 j1 => ?_⟩
  · obtain ⟨s, q1, q2⟩ := r7 k k0 k1
    exact ⟨s, by rw [g2 5 (by omega) (by omega) (by omega)]; exact q1, q2.cg (g0 s (hD.sn (Or.inl rfl) (by omega) q1).2.1)⟩
  · obtain ⟨v1, v2⟩ := hV j j0 j1
    refine ⟨by rw [g2 7 (by omega) (by omega) (by omega)]; exact v1, fun hh => ?_⟩
    obtain ⟨s, q1, q2⟩ := v2 hh
    exact ⟨s, by rw [g2 8 (by omega) (by omega) (by omega)]; exact q1, q2.cg (g0 s (hD.sn (Or.inr rfl) j0 q1).2.1)⟩
theorem zCL.n {nm : Int → Int} {E : zE} {σ : zW} {d t : Nat} {n : zN} {c : Int} {U : Int → zN} {h : Int → Bool} {V : Int → zN} {n' : zN} (hC : zCL nm E σ d t n c U h V) (e : ∀ i, 0 ≤ i → i < 1555 → n' i = n i) : zCL nm E σ d t n' c U h V := by
  refine ⟨hC.1, ⟨zRd_cg0 e hC.2.1.2.1 hC.2.1.1, nW_cg0 e hC.2.1.2.1, fun i i0 i1 => hC.2.1.2.2 i i0 (by rw [← e 2 (by omega) (by omega)]; exact i1)⟩, hC.2.2.1, hC.2.2.2⟩
section zPrs
variable {nm : Int → Int} {E : zE} {σ : zW} {d t : Nat} {n : zN} {c : Int} {U : Int → zN} {h : Int → Bool} {V : Int → zN} {b : Int → Int} {u : Int}
theorem c9_parse (hO : zOk E) (hC : zCL nm E σ d t n c U h V) (hT : zTc σ b u) (h1 : σ 2 0 1 1 = u) (hu0 : 0 ≤ u) {x : Int} (hx0 : -2147483648 ≤ x) (hx1 : x < 2147483648) {m : zN} (hm : ∀ i, 0 ≤ i → i < 1555 → m i = nFm (hB b x) (hS b x) i) {KX : String → gH → Prop} {K : Int32 → gH → Prop} (hk : if 0 ≤ x ∧ x ≤ u then ∀ σ', (∀ k d c, 3 ≤ k → σ' k d c = σ k d c) → σ' 2 0 1 1 = 0 → σ' 2 0 3 1 = (if (eTxt b x m).1 = 0 then -1 else (eTxt b x m).2) → ((eTxt b x m).1 ≠ 0 → zCL nm E σ' d t n c U h V) → ((eTxt b x m).1 = 0 → ∀ nm' U' h' V', (∀ k, 0 ≤ k → k < nTxt b x m 2 → nm' k = zw8 (wTxt b x m k)) → (∀ j, h' j = false) → zCL nm' E σ' t d (nTxt b x m) 0 U' h' V') → K (zI (eTxt b x m).1) (zH E σ') else KX g_xIAE (zH E σ)) : w_X9_parse (zH E σ) (zL E 2 0 0) (zI x) KX K := by
  have hW := hO.1
  have hM := hO.m
  have hL := hT.1
  obtain ⟨⟨m5, od, m2, oh, m3, os⟩, hu, hv, hR, hn, hd⟩ := zCL.fs hO hC
  obtain ⟨hD, hS9, ⟨o, r1, r2, r3, r4, r5, r6, r7⟩, hVV⟩ := id hC
  have m0 := zg_ma0 (σ := σ) hW hM
  have g1 := (zz_inp (σ := σ) hW hM).2.1
  rw [h1] at g1
  unfold w_X9_parse
  refine ⟨_, m0, _, g1, ?_⟩
  by_cases c1 : 0 ≤ x ∧ x ≤ u
  · rw [if_pos c1] at hk
    have hut := hD.2.1.2.2.1
    have hvt := hD.2.1.2.2.2
    have m1 := zg_ma1 (σ := σ) hW hM
    have po := (zz_txo (σ := σ) hW hM).2.2.2.2.2.2.2.2
    obtain ⟨σ1, e, n1, wd, S, a1, a2, ⟨a3, a4⟩, a5, a6, a7, a8, a9, aF, aK⟩ := e4_read (σ := σ) (b := b) (L := x) hW hM ⟨by omega, fun i i0 i1 => hT.2 i i0 (by omega)⟩ c1.1
    have m01 := zg_ma0 (σ := σ1) hW hM
    have p1 := (zz_inp (σ := σ1) hW hM).2.2.1 0
    obtain ⟨σ2, h2⟩ : ∃ y, y = zs σ1 2 0 1 1 0 := ⟨_, rfl⟩
    rw [← h2] at p1
    have f2 : ∀ k d' c', ¬ (k = 2 ∧ d' = 0 ∧ (c' = 1 ∨ c' = 3 ∨ (9 ≤ c' ∧ c' ≤ 19))) → σ2 k d' c' = σ k d' c' := fun k d' c' z => by rw [h2, zs_ne (by omega), a2 k d' c' (by omega)]
    have u2 : σ2 2 0 1 1 = 0 := by rw [h2, zs_at, if_pos rfl]
    have o2 : ∀ c' : Nat, c' ≠ 1 → σ2 2 0 c' = σ1 2 0 c' := fun c' hc => by rw [h2, zs_ne (by omega)]
    have m62 := zg_ma6 (σ := σ2) hW hM
    have ht2 : (σ2 2 0 0 6).toNat = t := by rw [f2 2 0 0 (by omega), hD.1.2.1, Int.toNat_natCast]
    rw [ht2] at m62
    have m12 := zg_ma1 (σ := σ2) hW hM
    have od2 : g_ob (zH E σ2) (zL E 0 t 0) 1 = some () := by simp only [zz_dco (σ := σ2) hW hut]
    obtain ⟨y0, y1, y2, y3, y4⟩ := a8
    obtain ⟨σ3, b1, b2, b3, b4⟩ := e1_begin (σ := σ2) (B := σ1 2 0 3 2) (s := σ1 2 0 3 3) (F := n1 2) hW hM hut (by rw [o2 3 (by omega)]) (by rw [o2 3 (by omega)]) (by rw [o2 3 (by omega)]; exact a5.1) y0 y1 y2 y3 y4
    have h10 := a5.2.1
    have hnF := nFm_W y0 y1 y2 y3 y4
    have hF2 : nFm (σ1 2 0 3 2) (σ1 2 0 3 3) 2 = 0 := by unfold nFm; rw [if_neg (by omega), if_neg (by omega)]
    have hnZ : nW (zu (nFm (σ1 2 0 3 2) (σ1 2 0 3 3)) 2 (n1 2)) := by
      have := nZuF_W hnF (n1 2).toNat (by omega)
      rw [show nFm (σ1 2 0 3 2) (σ1 2 0 3 3) 2 + ((n1 2).toNat : Int) = n1 2 by omega] at this
      exact this
    have f3 : ∀ k d' c', ¬ (k ≤ 1 ∧ d' = t) → σ3 k d' c' = σ2 k d' c' := fun k d' c' z => b2 k d' c' (by omega)
    have hS3 : zSl σ3 S := by
      unfold zSl zSr
      rw [f3 2 0 3 (by omega), f3 2 0 10 (by omega), f3 2 0 11 (by omega), f3 2 0 12 (by omega), f3 2 0 13 (by omega), f3 2 0 14 (by omega), o2 3 (by omega), o2 10 (by omega), o2 11 (by omega), o2 12 (by omega), o2 13 (by omega), o2 14 (by omega)]
      exact a6
    have hst := fun N (hRN : zRd (σ3 0 t) N) (hnN : nW N) (h2N : N 2 = n1 2) => c9_stms (S := S) (F := n1 2) (t := t) hW hM hut hvt a7 a9 S.length g_N 0 σ3 N (by omega) (by unfold g_N; omega) (by rw [f3 2 0 0 (by omega)]; exact ht2) hS3 hRN hnN h2N
    have hrg : w_X9_checkRange (zH E σ) (zI x) (0 : Int32) (zI u) KX = fun K => if 0 ≤ x ∧ x ≤ u then K (zH E σ) else KX g_xIAE (zH E σ) := by
      funext K
      exact c9_rng (lo := 0) (hi := u) hx0 hx1 (by omega) (by omega) hu0 (by omega)
    rw [hrg]
    show if 0 ≤ x ∧ x ≤ u then _ else _
    rw [if_pos c1]
    refine ⟨_, m1, _, m0, (), po, _, a1, _, m01, _, p1, _, m62, _, m12, (), od2, _, b1, ?_⟩
    have er : (0 : Int32) = zI ((0 : Nat) : Int) := rfl
    -- an error: the code and the position stand in the text's object, the disc is as it was
    have bad : ∀ (σ4 : zW) (e' : Int × Int), e' = eTxt b x m → e'.1 ≠ 0 → 0 ≤ e'.1 → e'.1 ≤ 6 → f_X9_parse_L45 g_N (zH E σ3) (zL E 2 0 0) (zI ((0 : Nat) : Int)) = f_X9_parse_J100 (zH E σ4) (zL E 2 0 0) → (∀ k d' c', ¬ (k ≤ 1 ∧ d' = t) → ¬ (k = 2 ∧ d' = 0 ∧ c' = 3) → σ4 k d' c' = σ3 k d' c') → σ4 2 0 3 0 = e'.1 → σ4 2 0 3 1 = e'.2 → ∃ q45, f_X9_parse_L45 g_N (zH E σ3) (zL E 2 0 0) (0 : Int32) = some q45 ∧ K q45.2 q45.1 := by
      intro σ4 e' he hne hg0 hg6 hl hf hc hp
      have m14 := zg_ma1 (σ := σ4) hW hM
      have gc := zg_tx0 (σ := σ4) hW hM
      rw [hc] at gc
      have hj : f_X9_parse_J100 (zH E σ4) (zL E 2 0 0) = some (zH E σ4, zI e'.1) := by
        simp (disch := first | assumption | omega) only [f_X9_parse_J100, m14, gc, zz_some, zz_lit, zz_num, zI_lt, zI_le, zI_eq, zI_nat, zz_b, if_pos, if_neg, if_true, if_false]
      have ff : ∀ k d' c', ¬ (k = 2 ∧ d' = 0 ∧ (c' = 1 ∨ c' = 3 ∨ (9 ≤ c' ∧ c' ≤ 19))) → ¬ (k ≤ 1 ∧ d' = t) → σ4 k d' c' = σ k d' c' := fun k d' c' z y => by rw [hf k d' c' y (by omega), f3 k d' c' y, f2 k d' c' z]
      refine ⟨_, (by rw [er, hl]; exact hj), ?_⟩
      rw [he] at hne hc hp ⊢
      exact hk σ4 (fun k d' c' z => ff k d' c' (by omega) (by omega)) (by rw [hf 2 0 1 (by omega) (by omega), f3 2 0 1 (by omega)]; exact u2) (by rw [if_neg hne]; exact hp) (fun _ => hC.tt ff) (fun z => absurd z hne)
    by_cases ch : (eHead b x).1 = 0
    · obtain ⟨k1, k2, k3, k4, k5, k6⟩ := aK ch
      rw [k1, k2] at b3 hnZ hnF hF2
      have hmW : nW m := nW_cg0 hm hnF
      have hm2 : m 2 = 0 := by rw [hm 2 (by omega) (by omega)]; exact hF2
      have hzq : zRq m (nFm (hB b x) (hS b x)) := ⟨(hm 0 (by omega) (by omega)).symm, (hm 2 (by omega) (by omega)).symm, fun c c0 c1 => (hm _ (by omega) (by omega)).symm⟩
      have hag : ∀ i, 0 ≤ i → i < 1555 → zu m 2 (n1 2) i = zu (nFm (hB b x) (hS b x)) 2 (n1 2) i := fun i i0 i1 => by
        by_cases h : i = 2
        · rw [zu_eq h, zu_eq h]
        · rw [zu_ne h, zu_ne h, hm i i0 i1]
      have hRm : zRd (σ3 0 t) (zu m 2 (n1 2)) := zRd_cg0 hag hnZ b3
      have hnm : nW (zu m 2 (n1 2)) := nW_cg0 hag hnZ
      obtain ⟨s1, s2⟩ := hst (zu m 2 (n1 2)) hRm hnm (zu_eq rfl)
      rw [List.drop_zero] at s1 s2
      obtain ⟨q1, q2⟩ := all_cmb (b := b) (L := x) (F := n1 2) 600 (hP b x) m (nFm (hB b x) (hS b x)) (fun _ => []) hmW hzq (eHead_ok c1.1 ch).2.2.2.2.2.2
      rw [← k6] at q1 q2
      have hT1 : eTxt b x m = (pAll b x 600 (hP b x) m (fun _ => [])).1 := by unfold eTxt; rw [if_pos ch]
      obtain ⟨r, hr⟩ : ∃ r, r = xAll (zu m 2 (n1 2)) S := ⟨_, rfl⟩
      obtain ⟨ro, rx⟩ := r
      cases ro with
      | some p =>
        obtain ⟨σ4, w1, w2, w3, w4⟩ := s2 p rx hr.symm
        have hE := q1 p rx hr.symm
        exact bad σ4 (6, p) (by rw [hT1, hE]) (by simp) (by simp) (by simp) w1 w2 w3 w4
      | none =>
        obtain ⟨σ4, w1, w2, w3, w4, w5⟩ := s1 rx hr.symm
        obtain ⟨hE, hE2⟩ := q2 rx hr.symm
        rw [← k3] at hE hE2
        have hcd : σ4 2 0 3 0 = e.1 := by rw [w2 2 0 3 (by omega), f3 2 0 3 (by omega), o2 3 (by omega)]; exact a3
        have hps : σ4 2 0 3 1 = (if e.1 = 0 then -1 else e.2) := by rw [w2 2 0 3 (by omega), f3 2 0 3 (by omega), o2 3 (by omega)]; exact a4
        have heT : e = eTxt b x m := by rw [hT1, hE]
        have hr6 : 0 ≤ e.1 ∧ e.1 ≤ 6 := by rw [heT]; exact eTxt_rng
        by_cases ce : e.1 = 0
        · obtain ⟨z1, z2, z3⟩ := hE2 ce
          rw [← k4] at z3
          rw [← k5] at z2
          have hx : rx = nTxt b x m := by
            rw [z1]
            funext i
            unfold nTxt zu
            by_cases h : i = 2
            · rw [if_pos h, h, z3]
            · rw [if_neg h]
          have hwT : wTxt b x m = wd := z2
          have h2T : nTxt b x m 2 = n1 2 := z3
          have hsw : zSw σ4 t (nTxt b x m) (wTxt b x m) := by
            rw [← hx, hwT]
            refine ⟨w3, w4, fun k k0 k1 => ?_⟩
            rw [hx, h2T] at k1
            rw [w5, b4 k k0 (by omega), o2 9 (by omega)]
            exact a5.2.2 k k0 k1
          have ff : ∀ k d' c', ¬ (k = 2 ∧ d' = 0 ∧ (c' = 1 ∨ c' = 3 ∨ (9 ≤ c' ∧ c' ≤ 19))) → ¬ (k ≤ 1 ∧ d' = t) → σ4 k d' c' = σ k d' c' := fun k d' c' z y => by rw [w2 k d' c' y, f3 k d' c' y, f2 k d' c' z]
          have v0 : ∀ c', c' ≠ 1 → c' ≠ 3 → c' ≤ 8 → σ4 2 0 c' = σ 2 0 c' := fun c' z1 z3 z8 => ff 2 0 c' (by omega) (by omega)
          have m14 := zg_ma1 (σ := σ4) hW hM
          have gc := zg_tx0 (σ := σ4) hW hM
          rw [hcd, ce] at gc
          have m54 := zg_ma5 (σ := σ4) hW hM
          rw [v0 0 (by omega) (by omega) (by omega), hd] at m54
          have m64 := zg_ma6 (σ := σ4) hW hM
          rw [v0 0 (by omega) (by omega) (by omega), hD.1.2.1, Int.toNat_natCast] at m64
          have p5 := zp_ma5 (σ := σ4) hW hM t
          obtain ⟨σ5', h5'⟩ : ∃ y, y = zs σ4 2 0 0 5 t := ⟨_, rfl⟩
          rw [← h5'] at p5
          have p6 := zp_ma6 (σ := σ5') hW hM d
          obtain ⟨σ5, h5⟩ : ∃ y, y = zs σ5' 2 0 0 6 d := ⟨_, rfl⟩
          rw [← h5] at p6
          have f5 : ∀ k d' c', ¬ (k = 2 ∧ d' = 0 ∧ c' = 0) → σ5 k d' c' = σ4 k d' c' := fun k d' c' z => by rw [h5, zs_ne z, h5', zs_ne z]
          obtain ⟨σ6, h6⟩ : ∃ y, y = zs (zs σ5 2 0 4 0 0) 2 0 4 1 0 := ⟨_, rfl⟩
          have cl : f_X2_clear (zH E σ5) (zL E 2 0 4) = some (zH E σ6) := by
            simp (disch := first | assumption | omega) only [f_X2_clear, zp_hi0 hW hM, zp_hi1 hW hM, h6, zz_some, zz_lit, zz_num, zI_lt, zI_le, zI_eq, zI_nat, zz_b, if_pos, if_neg, if_true, if_false]
          have f6 : ∀ k d' c', ¬ (k = 2 ∧ d' = 0 ∧ c' = 4) → σ6 k d' c' = σ5 k d' c' := fun k d' c' z => by rw [h6, zs_ne z, zs_ne z]
          obtain ⟨σ7, h7⟩ : ∃ y, y = zr σ6 2 0 7 (fun j => if 0 ≤ j ∧ j < 2 then 0 else σ6 2 0 7 j) := ⟨_, rfl⟩
          have fi := zX_fill_ (σ := σ6) (n := 2) hW hM (k := 2) (d := 0) (c := 7) rfl (by decide) (v := 0) (Or.inl rfl)
          have cl6 : f_X6_clear (zH E σ6) (zL E 2 0 6) = some (zH E σ7) := by
            rw [h7]
            simp (disch := first | assumption | omega) only [f_X6_clear, zg_sn0 hW hM, fi, zz_some, zz_lit, zz_num, zI_lt, zI_le, zI_eq, zI_nat, zz_b, if_pos, if_neg, if_true, if_false]
            rfl
          have f7 : ∀ k d' c', ¬ (k = 2 ∧ d' = 0 ∧ c' = 7) → σ7 k d' c' = σ6 k d' c' := fun k d' c' z => by rw [h7, zr_ne z]
          have w0 : ∀ s, σ7 0 s = σ4 0 s := fun s => funext fun c' => by rw [f7 0 s c' (by omega), f6 0 s c' (by omega), f5 0 s c' (by omega)]
          have g7 : ∀ c', c' ≠ 0 → c' ≠ 4 → c' ≠ 7 → σ7 2 0 c' = σ4 2 0 c' := fun c' z0 z4 z7 => by rw [f7 2 0 c' (by omega), f6 2 0 c' (by omega), f5 2 0 c' (by omega)]
          have w58 : ∀ c', c' = 5 ∨ c' = 8 → σ7 2 0 c' = σ 2 0 c' := fun c' z => by rw [g7 c' (by omega) (by omega) (by omega), v0 c' (by omega) (by omega) (by omega)]
          have w00 : σ7 2 0 0 5 = t ∧ σ7 2 0 0 6 = d := by
            rw [f7 2 0 0 (by omega), f6 2 0 0 (by omega), h5, zs_at, if_neg (by omega), h5', zs_at, if_pos rfl, zs_at, if_pos rfl]
            exact ⟨rfl, rfl⟩
          have w4' : σ7 2 0 4 0 = 0 ∧ σ7 2 0 4 1 = 0 := by
            rw [f7 2 0 4 (by omega), h6, zs_at, if_neg (by omega), zs_at, if_pos rfl, zs_at, if_pos rfl]
            exact ⟨rfl, rfl⟩
          have m17 := zg_ma1 (σ := σ7) hW hM
          have gc7 := zg_tx0 (σ := σ7) hW hM
          rw [g7 3 (by omega) (by omega) (by omega), hcd, ce] at gc7
          have m25 := zg_ma2 (σ := σ5) hW hM
          have oh := (zz_hio (σ := σ5) hW hM).2
          have m36 := zg_ma3 (σ := σ6) hW hM
          have os6 := (zz_sno (σ := σ6) hW hM).2.2
          have hj : f_X9_parse_J100 (zH E σ4) (zL E 2 0 0) = some (zH E σ7, zI 0) := by
            simp (disch := first | assumption | omega) only [f_X9_parse_J100, m14, gc, m54, m64, p5, p6, m25, oh, cl, m36, os6, cl6, m17, gc7, zz_some, zz_lit, zz_num, zI_lt, zI_le, zI_eq, zI_nat, zz_b, if_pos, if_neg, if_true, if_false]
          refine ⟨_, (by rw [er, w1]; exact hj), ?_⟩
          have e0 : (eTxt b x m).1 = 0 := by rw [← heT]; exact ce
          have hk' := hk σ7 (fun k d' c' z => by rw [f7 k d' c' (by omega), f6 k d' c' (by omega), f5 k d' c' (by omega), ff k d' c' (by omega) (by omega)]) (by rw [g7 1 (by omega) (by omega) (by omega), w2 2 0 1 (by omega), f3 2 0 1 (by omega)]; exact u2) (by rw [g7 3 (by omega) (by omega) (by omega), hps, if_pos ce, if_pos e0]) (fun z => absurd e0 z) (fun _ nm' U' h' V' hnm hh => ⟨⟨⟨w00.1, w00.2, Ne.symm hD.1.2.2.1, hD.1.2.2.2.2, hD.1.2.2.2.1⟩, ⟨hut, hvt, hu, hv⟩, fun c' z j => ?_, fun c1 c2 j1 j2 s z1 z2 q1 q2 => ?_⟩, ⟨?_, hsw.2.1, fun i i0 i1 => ?_⟩, ⟨0, w4'.2, by omega, by omega, w4'.1, by omega, by omega, fun k k0 k1 => absurd k1 (by omega)⟩, fun j j0 j1 => ⟨?_, fun hj => absurd hj (by rw [hh j]; simp)⟩⟩)
          · rw [e0] at hk'
            exact hk'
          · rw [w58 c' z]
            rcases hD.2.2.1 c' z j with y | ⟨s, y1, y2, y3, y4⟩
            · exact Or.inl y
            · exact Or.inr ⟨s, y1, y2, y4, y3⟩
          · rw [w58 c1 z1] at q1
            rw [w58 c2 z2] at q2
            exact hD.2.2.2 c1 c2 j1 j2 s z1 z2 q1 q2
          · rw [w0]
            exact hsw.1
          · obtain ⟨y1, y2⟩ := hsw.2.2 i i0 i1
            exact ⟨wTxt b x m i, y1, by rw [w0]; exact y2, hnm i i0 i1⟩
          · rw [h7, zr_at]
            show (if 0 ≤ j ∧ j < 2 then 0 else σ6 2 0 7 j) = _
            rw [if_pos ⟨j0, j1⟩, hh j]
            rfl
        · rw [if_neg ce] at hps
          exact bad σ4 e heT ce hr6.1 hr6.2 w1 (fun k d' c' y _ => w2 k d' c' y) hcd hps
    · obtain ⟨k1, k2⟩ := aF ch
      obtain ⟨s1, -⟩ := hst _ b3 hnZ (zu_eq rfl)
      rw [k2, List.drop_nil] at s1
      obtain ⟨σ4, w1, w2, -⟩ := s1 _ rfl
      have heT : e = eTxt b x m := by unfold eTxt; rw [if_neg ch]; exact k1
      have ce : e.1 ≠ 0 := by rw [k1]; exact ch
      have hr6 : 0 ≤ e.1 ∧ e.1 ≤ 6 := by rw [heT]; exact eTxt_rng
      have hcd : σ4 2 0 3 0 = e.1 := by rw [w2 2 0 3 (by omega), f3 2 0 3 (by omega), o2 3 (by omega)]; exact a3
      have hps : σ4 2 0 3 1 = e.2 := by rw [w2 2 0 3 (by omega), f3 2 0 3 (by omega), o2 3 (by omega), a4, if_neg ce]
      exact bad σ4 e heT ce hr6.1 hr6.2 w1 (fun k d' c' y _ => w2 k d' c' y) hcd hps
  · rw [if_neg c1] at hk
    refine Eq.mpr (c9_rng (lo := 0) (hi := u) hx0 hx1 (by omega) (by omega) hu0 (by omega)) ?_
    rw [if_neg c1]
    exact hk
end zPrs

/-! parse at the class; the relation of both sides. -/
theorem eNum_rng {b : Int → Int} {L p lo hi : Int} : 0 ≤ (eNum b L p lo hi).1 ∧ (eNum b L p lo hi).1 ≤ 6 := by
  unfold eNum
  split
  · split <;> simp
  · simp
theorem eSem_rng {b : Int → Int} {L p : Int} : 0 ≤ (eSem b L p).1 ∧ (eSem b L p).1 ≤ 6 := by
  unfold eSem
  split <;> simp
theorem eFil_rng {b : Int → Int} {L p : Int} {n : zN} {wd : Int → List Int} : 0 ≤ (eFil b L p n wd).1 ∧ (eFil b L p n wd).1 ≤ 6 := by
  unfold eFil
  split
  · split <;> simp
  · simp
theorem eTh_rng {a c : Int × Int} (h : 0 ≤ a.1 ∧ a.1 ≤ 6) (h2 : 0 ≤ c.1 ∧ c.1 ≤ 6) : 0 ≤ (eTh a c).1 ∧ (eTh a c).1 ≤ 6 := by
  unfold eTh
  split
  · exact h2
  · exact h
theorem eStm_rng {b : Int → Int} {L q : Int} {n : zN} {wd : Int → List Int} : 0 ≤ (eStm b L q n wd).1 ∧ (eStm b L q n wd).1 ≤ 6 := by
  unfold eStm
  split
  · unfold eBad
    exact eTh_rng eNum_rng (by split <;> simp)
  · split
    · unfold eNew
      split
      · simp
      · split
        · split <;> simp
        · simp
    · split
      · unfold eWri
        exact eTh_rng eFil_rng (eTh_rng eNum_rng (eTh_rng eNum_rng (by split <;> simp)))
      · split
        · unfold eEra
          exact eTh_rng eFil_rng (by split <;> simp)
        · split
          · unfold eClo
            split <;> simp
          · simp
theorem pAll_rng {b : Int → Int} {L : Int} : ∀ (m : Nat) (q : Int) (n : zN) (wd : Int → List Int), 0 ≤ (pAll b L m q n wd).1.1 ∧ (pAll b L m q n wd).1.1 ≤ 6 := by
  intro m
  induction m with
  | zero => intro q n wd; simp [pAll]
  | succ m ih =>
    intro q n wd
    rw [pAll]
    split
    · simp
    · split
      · split
        · exact ih _ _ _
        · exact eSem_rng
      · exact eStm_rng
theorem eTxt_rng {b : Int → Int} {L : Int} {n : zN} : 0 ≤ (eTxt b L n).1 ∧ (eTxt b L n).1 ≤ 6 := by
  unfold eTxt
  split
  · exact pAll_rng _ _ _ _
  · unfold eHead
    split
    · exact eTh_rng eNum_rng (eTh_rng eNum_rng eSem_rng)
    · simp
theorem zCL.z {nm : Int → Int} {E : zE} {σ σ' : zW} {d t : Nat} {n : zN} {c : Int} {U : Int → zN} {h : Int → Bool} {V : Int → zN} (hC : zCL nm E σ d t n c U h V) (f0 : ∀ d c, σ' 0 d c = σ 0 d c) (f2 : ∀ c, σ' 2 0 c = σ 2 0 c) : zCL nm E σ' d t n c U h V := by
  obtain ⟨hD, hS, ⟨o, r1, r2, r3, r4, r5, r6, r7⟩, hV⟩ := hC
  have g0 : ∀ s, σ' 0 s = σ 0 s := fun s => funext fun c' => f0 s c'
  refine ⟨hD.cg (by rw [f2]) (by rw [f2]) (fun c' _ => f2 c'), hS.cg (g0 d), ⟨o, by rw [f2]; exact r1, r2, r3, by rw [f2]; exact r4, r5, r6, fun k k0 k1 => ?_⟩, fun j j0 j1 => ?_⟩
  · obtain ⟨s, q1, q2⟩ := r7 k k0 k1
    exact ⟨s, by rw [f2]; exact q1, q2.cg (g0 s)⟩
  · obtain ⟨v1, v2⟩ := hV j j0 j1
    refine ⟨by rw [f2]; exact v1, fun hh => ?_⟩
    obtain ⟨s, q1, q2⟩ := v2 hh
    exact ⟨s, by rw [f2]; exact q1, q2.cg (g0 s)⟩
theorem zCL.tt {nm : Int → Int} {E : zE} {σ σ' : zW} {d t : Nat} {n : zN} {c : Int} {U : Int → zN} {h : Int → Bool} {V : Int → zN} (hC : zCL nm E σ d t n c U h V) (f : ∀ k d' c', ¬ (k = 2 ∧ d' = 0 ∧ (c' = 1 ∨ c' = 3)) → ¬ (k ≤ 1 ∧ d' = t) → σ' k d' c' = σ k d' c') : zCL nm E σ' d t n c U h V := by
  obtain ⟨hD, hS, ⟨o, r1, r2, r3, r4, r5, r6, r7⟩, hV⟩ := hC
  have hdt := hD.1.2.2.1
  have g0 : ∀ s, s ≠ t → σ' 0 s = σ 0 s := fun s hs => funext fun c' => f 0 s c' (by omega) (by omega)
  have g2 : ∀ c', c' ≠ 1 → c' ≠ 3 → σ' 2 0 c' = σ 2 0 c' := fun c' a1 a3 => f 2 0 c' (by omega) (by omega)
  refine ⟨hD.cg (by rw [g2 0 (by omega) (by omega)]) (by rw [g2 0 (by omega) (by omega)]) (fun c' z => g2 c' (by omega) (by omega)), hS.cg (g0 d hdt), ⟨o, by rw [g2 4 (by omega) (by omega)]; exact r1, r2, r3, by rw [g2 4 (by omega) (by omega)]; exact r4, r5, r6, fun k k0 k1 => ?_⟩, fun j j0 j1 => ?_⟩
  · obtain ⟨s, q1, q2⟩ := r7 k k0 k1
    exact ⟨s, by rw [g2 5 (by omega) (by omega)]; exact q1, q2.cg (g0 s (hD.sn (Or.inl rfl) (by omega) q1).2.1)⟩
  · obtain ⟨v1, v2⟩ := hV j j0 j1
    refine ⟨by rw [g2 7 (by omega) (by omega)]; exact v1, fun hh => ?_⟩
    obtain ⟨s, q1, q2⟩ := v2 hh
    exact ⟨s, by rw [g2 8 (by omega) (by omega)]; exact q1, q2.cg (g0 s (hD.sn (Or.inr rfl) j0 q1).2.1)⟩
theorem zCL.n {nm : Int → Int} {E : zE} {σ : zW} {d t : Nat} {n : zN} {c : Int} {U : Int → zN} {h : Int → Bool} {V : Int → zN} {n' : zN} (hC : zCL nm E σ d t n c U h V) (e : ∀ i, 0 ≤ i → i < 1555 → n' i = n i) : zCL nm E σ d t n' c U h V := by
  refine ⟨hC.1, ⟨zRd_cg0 e hC.2.1.2.1 hC.2.1.1, nW_cg0 e hC.2.1.2.1, fun i i0 i1 => hC.2.1.2.2 i i0 (by rw [← e 2 (by omega) (by omega)]; exact i1)⟩, hC.2.2.1, hC.2.2.2⟩
section zPrs
variable {nm : Int → Int} {E : zE} {σ : zW} {d t : Nat} {n : zN} {c : Int} {U : Int → zN} {h : Int → Bool} {V : Int → zN} {b : Int → Int} {u : Int}
theorem c9_parse (hO : zOk E) (hC : zCL nm E σ d t n c U h V) (hT : zTc σ b u) (h1 : σ 2 0 1 1 = u) (hu0 : 0 ≤ u) {x : Int} (hx0 : -2147483648 ≤ x) (hx1 : x < 2147483648) {m : zN} (hm : ∀ i, 0 ≤ i → i < 1555 → m i = nFm (hB b x) (hS b x) i) {KX : String → gH → Prop} {K : Int32 → gH → Prop} (hk : if 0 ≤ x ∧ x ≤ u then ∀ σ', (∀ k d c, 3 ≤ k → σ' k d c = σ k d c) → σ' 2 0 1 1 = 0 → σ' 2 0 3 0 = (if (eTxt b x m).1 = 0 then -1 else (eTxt b x m).2) → ((eTxt b x m).1 ≠ 0 → zCL nm E σ' d t n c U h V) → ((eTxt b x m).1 = 0 → ∀ nm' U' h' V', (∀ k, 0 ≤ k → k < nTxt b x m 2 → nm' k = zw8 (wTxt b x m k)) → (∀ j, h' j = false) → zCL nm' E σ' t d (nTxt b x m) 0 U' h' V') → K (zI (eTxt b x m).1) (zH E σ') else KX g_xIAE (zH E σ)) : w_X9_parse (zH E σ) (zL E 2 0 0) (zI x) KX K := by
  have hW := hO.1
  have hM := hO.m
  have hL := hT.1
  obtain ⟨⟨m5, od, m2, oh, m3, os⟩, hu, hv, hR, hn, hd⟩ := zCL.fs hO hC
  obtain ⟨hD, hS9, ⟨o, r1, r2, r3, r4, r5, r6, r7⟩, hVV⟩ := id hC
  have m0 := zg_ma0 (σ := σ) hW hM
  have g1 := (zz_inp (σ := σ) hW hM).2.1
  rw [h1] at g1
  unfold w_X9_parse
  refine ⟨_, m0, _, g1, ?_⟩
  by_cases c1 : 0 ≤ x ∧ x ≤ u
  · rw [if_pos c1] at hk
    have hut := hD.2.1.2.2.1
    have hvt := hD.2.1.2.2.2
    have m1 := zg_ma1 (σ := σ) hW hM
    have m6 := zg_ma6 (σ := σ) hW hM
    rw [hD.1.2.1, Int.toNat_natCast] at m6
    have po := (zz_pao (σ := σ) hW hM).1
    obtain ⟨σ1, a1, a2, a3, a4⟩ := e4_readText hW hM hut hvt (b := b) (L := x) ⟨by omega, fun i i0 i1 => hT.2 i i0 (by omega)⟩ c1.1 hm
    have m01 := zg_ma0 (σ := σ1) hW hM
    have p1 := (zz_inp (σ := σ1) hW hM).2.2.1 0
    obtain ⟨σ2, h2⟩ : ∃ y, y = zs σ1 2 0 1 1 0 := ⟨_, rfl⟩
    rw [← h2] at p1
    have f2 : ∀ k d' c', ¬ (k = 2 ∧ d' = 0 ∧ (c' = 1 ∨ c' = 3)) → ¬ (k ≤ 1 ∧ d' = t) → σ2 k d' c' = σ k d' c' := fun k d' c' z y => by rw [h2, zs_ne (by omega), a2 k d' c' (by omega) y]
    have u2 : σ2 2 0 1 1 = 0 := by rw [h2, zs_at, if_pos rfl]
    have e2 : σ2 2 0 3 0 = (if (eTxt b x m).1 = 0 then -1 else (eTxt b x m).2) := by rw [h2, zs_ne (by omega)]; exact a3
    have hC2 := hC.tt f2
    have hrg : w_X9_checkRange (zH E σ) (zI x) (0 : Int32) (zI u) KX = fun K => if 0 ≤ x ∧ x ≤ u then K (zH E σ) else KX g_xIAE (zH E σ) := by
      funext K
      exact c9_rng (lo := 0) (hi := u) hx0 hx1 (by omega) (by omega) hu0 (by omega)
    rw [hrg]
    show if 0 ≤ x ∧ x ≤ u then _ else _
    rw [if_pos c1]
    refine ⟨_, m1, _, m0, _, m6, (), po, _, a1, _, m01, _, p1, ?_⟩
    by_cases c2 : (eTxt b x m).1 = 0
    · rw [if_pos (show zI (eTxt b x m).1 = (0 : Int32) by rw [c2]; rfl)]
      have hsw : zSw σ2 t (nTxt b x m) (wTxt b x m) := (a4 c2).cg (funext fun c' => by rw [h2, zs_ne (by omega)])
      have v0 : ∀ c', c' ≠ 1 → c' ≠ 3 → σ2 2 0 c' = σ 2 0 c' := fun c' z1 z3 => f2 2 0 c' (by omega) (by omega)
      have m52 := zg_ma5 (σ := σ2) hW hM
      rw [v0 0 (by omega) (by omega), hd] at m52
      have m62 := zg_ma6 (σ := σ2) hW hM
      rw [v0 0 (by omega) (by omega), hD.1.2.1, Int.toNat_natCast] at m62
      have p5 := zp_ma5 (σ := σ2) hW hM t
      have p6 := zp_ma6 (σ := zs σ2 2 0 0 5 t) hW hM d
      obtain ⟨σ3, h3⟩ : ∃ y, y = zs (zs σ2 2 0 0 5 t) 2 0 0 6 d := ⟨_, rfl⟩
      rw [← h3] at p6
      have f3 : ∀ k d' c', ¬ (k = 2 ∧ d' = 0 ∧ c' = 0) → σ3 k d' c' = σ2 k d' c' := fun k d' c' z => by rw [h3, zs_ne z, zs_ne z]
      obtain ⟨σ4, h4⟩ : ∃ y, y = zs (zs σ3 2 0 4 0 0) 2 0 4 1 0 := ⟨_, rfl⟩
      have cl : f_X2_clear (zH E σ3) (zL E 2 0 4) = some (zH E σ4) := by
        simp (disch := first | assumption | omega) only [f_X2_clear, zp_hi0 hW hM, zp_hi1 hW hM, h4, zz_some, zz_lit, zz_num, zI_lt, zI_le, zI_eq, zI_nat, zz_b, if_pos, if_neg, if_true, if_false]
      have f4 : ∀ k d' c', ¬ (k = 2 ∧ d' = 0 ∧ c' = 4) → σ4 k d' c' = σ3 k d' c' := fun k d' c' z => by rw [h4, zs_ne z, zs_ne z]
      obtain ⟨σ5, h5⟩ : ∃ y, y = zr σ4 2 0 7 (fun j => if 0 ≤ j ∧ j < 2 then 0 else σ4 2 0 7 j) := ⟨_, rfl⟩
      have fi := zX_fill_ (σ := σ4) (n := 2) hW hM (k := 2) (d := 0) (c := 7) rfl (by decide) (v := 0) (Or.inl rfl)
      have cl6 : f_X6_clear (zH E σ4) (zL E 2 0 6) = some (zH E σ5) := by
        rw [h5]
        simp (disch := first | assumption | omega) only [f_X6_clear, zg_sn0 hW hM, fi, zz_some, zz_lit, zz_num, zI_lt, zI_le, zI_eq, zI_nat, zz_b, if_pos, if_neg, if_true, if_false]
        rfl
      have f5 : ∀ k d' c', ¬ (k = 2 ∧ d' = 0 ∧ c' = 7) → σ5 k d' c' = σ4 k d' c' := fun k d' c' z => by rw [h5, zr_ne z]
      have w0 : ∀ s, σ5 0 s = σ2 0 s := fun s => funext fun c' => by rw [f5 0 s c' (by omega), f4 0 s c' (by omega), f3 0 s c' (by omega)]
      have w1 : σ5 2 0 1 = σ2 2 0 1 := by rw [f5 2 0 1 (by omega), f4 2 0 1 (by omega), f3 2 0 1 (by omega)]
      have w3 : σ5 2 0 3 = σ2 2 0 3 := by rw [f5 2 0 3 (by omega), f4 2 0 3 (by omega), f3 2 0 3 (by omega)]
      have w58 : ∀ c', c' = 5 ∨ c' = 8 → σ5 2 0 c' = σ 2 0 c' := fun c' z => by rw [f5 2 0 c' (by omega), f4 2 0 c' (by omega), f3 2 0 c' (by omega), v0 c' (by omega) (by omega)]
      have w00 : σ5 2 0 0 5 = t ∧ σ5 2 0 0 6 = d := by
        rw [f5 2 0 0 (by omega), f4 2 0 0 (by omega), h3, zs_at, if_neg (by omega), zs_at, if_pos rfl, zs_at, if_pos rfl]
        exact ⟨rfl, rfl⟩
      have w4 : σ5 2 0 4 0 = 0 ∧ σ5 2 0 4 1 = 0 := by
        rw [f5 2 0 4 (by omega), h4, zs_at, if_neg (by omega), zs_at, if_pos rfl, zs_at, if_pos rfl]
        exact ⟨rfl, rfl⟩
      refine ⟨_, m52, _, m62, _, p5, _, p6, _, zg_ma2 hW hM, (), (zz_hio hW hM).2, _, cl, _, zg_ma3 hW hM, (), (zz_sno hW hM).2.2, _, cl6, hk σ5 (fun k d' c' z => ?_) (by rw [w1]; exact u2) (by rw [w3]; exact e2) (fun z => absurd c2 z) (fun _ nm' U' h' V' hnm hh => ⟨⟨⟨w00.1, w00.2, Ne.symm hD.1.2.2.1, hD.1.2.2.2.2, hD.1.2.2.2.1⟩, ⟨hut, hvt, hu, hv⟩, fun c' z j => ?_, fun c1 c2 j1 j2 s z1 z2 q1 q2 => ?_⟩, ⟨?_, hsw.2.1, fun i i0 i1 => ?_⟩, ⟨0, w4.2, by omega, by omega, w4.1, by omega, by omega, fun k k0 k1 => absurd k1 (by omega)⟩, fun j j0 j1 => ⟨?_, fun hj => absurd hj (by rw [hh j]; simp)⟩⟩)⟩
      · rw [f5 k d' c' (by omega), f4 k d' c' (by omega), f3 k d' c' (by omega), f2 k d' c' (by omega) (by omega)]
      · rw [w58 c' z]
        rcases hD.2.2.1 c' z j with y | ⟨s, y1, y2, y3, y4⟩
        · exact Or.inl y
        · exact Or.inr ⟨s, y1, y2, y4, y3⟩
      · rw [w58 c1 z1] at q1
        rw [w58 c2 z2] at q2
        exact hD.2.2.2 c1 c2 j1 j2 s z1 z2 q1 q2
      · rw [w0]
        exact hsw.1
      · obtain ⟨y1, y2⟩ := hsw.2.2 i i0 i1
        exact ⟨wTxt b x m i, y1, by rw [w0]; exact y2, hnm i i0 i1⟩
      · rw [h5, zr_at]
        show (if 0 ≤ j ∧ j < 2 then 0 else σ4 2 0 7 j) = _
        rw [if_pos ⟨j0, j1⟩, hh j]
        rfl
    · have hne : ¬ zI (eTxt b x m).1 = (0 : Int32) := by
        intro z
        have : (eTxt b x m).1 = 0 := by
          have hr : 0 ≤ (eTxt b x m).1 ∧ (eTxt b x m).1 ≤ 6 := eTxt_rng
          rw [show (0 : Int32) = zI 0 from rfl, zI_eq (by omega) (by omega) (by omega) (by omega)] at z
          exact z
        exact c2 this
      rw [if_neg hne]
      exact hk σ2 (fun k d' c' z => f2 k d' c' (by omega) (by omega)) u2 e2 (fun _ => hC2) (fun z => absurd z c2)
  · rw [if_neg c1] at hk
    refine Eq.mpr (c9_rng (lo := 0) (hi := u) hx0 hx1 (by omega) (by omega) hu0 (by omega)) ?_
    rw [if_neg c1]
    exact hk
end zPrs

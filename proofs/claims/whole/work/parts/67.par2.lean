/-! The class's parser: statements. -/
theorem nZu2_W {n : zN} (hn : nW n) (h10 : n 2 < 10) : nW (zu n 2 (n 2 + 1)) := by
  have h7 : ∀ i : Int, i ≠ 2 → zu n 2 (n 2 + 1) i = n i := fun i hi => by unfold zu; rw [if_neg hi]
  have h2 : zu n 2 (n 2 + 1) 2 = n 2 + 1 := by unfold zu; rw [if_pos rfl]
  have hV : ∀ v w : Int, 0 ≤ v → 0 ≤ w → nV (zu n 2 (n 2 + 1)) v w = nV n v w := fun v w a1 a2 => by unfold nV; exact h7 _ (by omega)
  have hS : ∀ v w : Int, 0 ≤ v → 0 ≤ w → nS (zu n 2 (n 2 + 1)) v w = nS n v w := fun v w a1 a2 => by unfold nS; exact h7 _ (by omega)
  have hN := hn.1.r
  refine ⟨?_, nWb_ag (fun i a1 a2 => h7 i (by omega)) (h7 0 (by omega)) (h7 1 (by omega)) (by rw [h7 3 (by omega)]; exact Int.le_refl _) (h7 4 (by omega)) (by rw [h7 6 (by omega)]; exact Int.le_refl _) hn.2.1, ?_, ?_⟩
  · unfold nWn
    rw [h7 0 (by omega), h7 1 (by omega), h2, h7 3 (by omega), h7 4 (by omega), h7 5 (by omega), h7 6 (by omega)]
    omega
  · obtain ⟨q, hv⟩ := hn.2.2.1
    unfold nWv
    rw [h7 6 (by omega), h7 4 (by omega), h2, h7 3 (by omega)]
    refine ⟨q, fun v v0 v1 => ?_⟩
    obtain ⟨a1, a2, a3, a4, a5, a6, a7⟩ := hv v v0 v1
    rw [hV v 0 v0 (by omega), hV v 1 v0 (by omega), hV v 2 v0 (by omega), hV v 3 v0 (by omega), hV v 4 v0 (by omega)]
    refine ⟨by omega, a2, a3, a4, a5, a6, fun s k s0 s1 k0 k1 e => ?_⟩
    rw [hS s 2 s0 (by omega)] at k1
    rw [hS s _ s0 (by omega)] at e ⊢
    exact a7 s k s0 s1 k0 k1 e
  · intro s s0 s1
    rw [h7 3 (by omega)] at s1
    obtain ⟨a1, a2, a3, a4, a5, a6, a7⟩ := hn.2.2.2 s s0 s1
    rw [hS s 0 s0 (by omega), hS s 1 s0 (by omega), hS s 2 s0 (by omega), hS s 3 s0 (by omega), hS s 4 s0 (by omega), h7 3 (by omega), h7 4 (by omega), h2]
    refine ⟨a1, a2, a3, ⟨a4.1, ?_⟩, a5, ?_, fun k k0 k1 => ?_⟩
    · rw [show (n 2 + 1).toNat = (n 2).toNat + 1 by omega, zcn_snoc]
      have e : zcn (fun f => decide (nEn (zu n 2 (n 2 + 1)) s f ≠ -1)) 0 (n 2).toNat = zcn (fun f => decide (nEn n s f ≠ -1)) 0 (n 2).toNat := zcn_congr _ _ (fun f f0 f1 => by rw [nEn_cg (fun i hi => h7 i (by omega)) s0])
      rw [e]
      have := a4.2
      have z : 0 ≤ zb (decide (nEn (zu n 2 (n 2 + 1)) s (0 + ((n 2).toNat : Int)) ≠ -1)) := by unfold zb; split <;> omega
      omega
    · rw [a6]
      split
      · congr 1
        have : ∀ (m : Nat) (P Q : Int → Bool), (∀ i, 0 ≤ i → i < m → P i = Q i) → zls P m = zls Q m := by
          intro m P Q h
          induction m with
          | zero => rfl
          | succ m ih =>
            have := ih (fun i a b => h i a (by omega))
            simp only [zls, this, h m (by omega) (by omega)]
        exact this _ _ _ (fun i i0 i1 => by rw [hS (i : Int) 0 (by omega) (by omega)])
      · rfl
    · rw [hS s _ s0 (by omega), hS s _ s0 (by omega), h7 6 (by omega)]
      have := a7 k k0 k1
      omega
theorem zRd_2 {ρ ρ' : Nat → Int → Int} {n : zN} {x : Int} (hR : zRd ρ n) (h : ∀ c, c ≠ 0 → c ≠ 23 → ρ' c = ρ c) (h3 : ρ' 0 3 = x) (h5 : ρ' 0 5 = ρ 0 5) : zRd ρ' (zu n 2 x) := by
  have h7 : ∀ i : Int, i ≠ 2 → zu n 2 x i = n i := fun i hi => by unfold zu; rw [if_neg hi]
  have hV : ∀ v w : Int, 0 ≤ v → 0 ≤ w → nV (zu n 2 x) v w = nV n v w := fun v w h1 h2 => by unfold nV; exact h7 _ (by omega)
  have hS : ∀ v w : Int, 0 ≤ v → 0 ≤ w → nS (zu n 2 x) v w = nS n v w := fun v w h1 h2 => by unfold nS; exact h7 _ (by omega)
  obtain ⟨⟨⟨k1, k2, k3, k4, k5, k6, k7, k8, k9, k10⟩, b2⟩, ⟨v1, v2, v3, v4, v5, v6⟩, ⟨s1, s2, s3, s4, s5, s6, s7⟩, f1, f2⟩ := hR
  refine ⟨⟨⟨?_, ?_, ?_, ?_, ?_, ?_, ?_, ?_, ?_, ?_⟩, ?_⟩, ⟨?_, ?_, ?_, ?_, ?_, ?_⟩, ⟨?_, ?_, ?_, ?_, ?_, ?_, ?_⟩, ?_, ?_⟩
  · rw [h 1 (by omega) (by omega), h7 0 (by omega)]; exact k1
  · rw [h 1 (by omega) (by omega), h7 0 (by omega), h7 1 (by omega)]; exact k2
  · rw [h 1 (by omega) (by omega), h7 4 (by omega)]; exact k3
  · intro b b0 b1; rw [h 2 (by omega) (by omega), h7 _ (by omega)]; exact k4 b b0 b1
  · intro b b0 b1; rw [h 3 (by omega) (by omega), h7 _ (by omega)]; exact k5 b b0 b1
  · intro b b0 b1; rw [h 4 (by omega) (by omega), h7 _ (by omega)]; exact k6 b b0 b1
  · intro b b0 b1; rw [h 5 (by omega) (by omega), h7 _ (by omega)]; exact k7 b b0 b1
  · intro b b0 b1; rw [h 6 (by omega) (by omega), h7 _ (by omega)]; exact k8 b b0 b1
  · intro b b0 b1; rw [h 7 (by omega) (by omega), h7 _ (by omega)]; exact k9 b b0 b1
  · intro b b0 b1; rw [h 8 (by omega) (by omega), h7 _ (by omega)]; exact k10 b b0 b1
  · intro b b0 b1
    rw [h 9 (by omega) (by omega), h7 4 (by omega)]
    have : nPl (zu n 2 x) b = nPl n b := by unfold nPl; rw [h7 _ (by omega)]
    rw [this]
    exact b2 b b0 b1
  · rw [h 10 (by omega) (by omega), h7 6 (by omega)]; exact v1
  · intro v a0 a1; rw [h7 6 (by omega)] at a1; rw [h 11 (by omega) (by omega), hV _ _ a0 (by omega)]; exact v2 v a0 a1
  · intro v a0 a1; rw [h7 6 (by omega)] at a1; rw [h 12 (by omega) (by omega), hV _ _ a0 (by omega)]; exact v3 v a0 a1
  · intro v a0 a1; rw [h7 6 (by omega)] at a1; rw [h 13 (by omega) (by omega), hV _ _ a0 (by omega)]; exact v4 v a0 a1
  · intro v a0 a1; rw [h7 6 (by omega)] at a1; rw [h 14 (by omega) (by omega), hV _ _ a0 (by omega)]; exact v5 v a0 a1
  · intro v a0 a1; rw [h7 6 (by omega)] at a1; rw [h 15 (by omega) (by omega), hV _ _ a0 (by omega)]; exact v6 v a0 a1
  · rw [h 16 (by omega) (by omega), h7 3 (by omega)]; exact s1
  · intro s a0 a1; rw [h7 3 (by omega)] at a1; rw [h 17 (by omega) (by omega), hS _ _ a0 (by omega)]; exact s2 s a0 a1
  · intro s a0 a1; rw [h7 3 (by omega)] at a1; rw [h 18 (by omega) (by omega), hS _ _ a0 (by omega)]; exact s3 s a0 a1
  · intro s a0 a1; rw [h7 3 (by omega)] at a1; rw [h 19 (by omega) (by omega), hS _ _ a0 (by omega)]; exact s4 s a0 a1
  · intro s a0 a1; rw [h7 3 (by omega)] at a1; rw [h 20 (by omega) (by omega), hS _ _ a0 (by omega)]; exact s5 s a0 a1
  · intro s k a0 a1 z0 z1; rw [h7 3 (by omega)] at a1; rw [hS _ _ a0 (by omega)] at z1; rw [h 21 (by omega) (by omega), hS _ _ a0 (by omega)]; exact s6 s k a0 a1 z0 z1
  · intro s k a0 a1 z0 z1; rw [h7 3 (by omega)] at a1; rw [hS _ _ a0 (by omega)] at z1; rw [h 22 (by omega) (by omega), hS _ _ a0 (by omega)]; exact s7 s k a0 a1 z0 z1
  · rw [h3]; unfold zu; rw [if_pos rfl]
  · rw [h5, h7 5 (by omega)]; exact f2
/-- the parser and the disc t alone have changed -/
def zPd (t : Nat) (σ σ' : zW) : Prop := (∀ k d c, ¬ (k = 2 ∧ d = 0 ∧ c = 3) → ¬ (k ≤ 1 ∧ d = t) → σ' k d c = σ k d c) ∧ σ' 2 0 3 2 = σ 2 0 3 2
theorem zPd.rf {t : Nat} {σ : zW} : zPd t σ σ := ⟨fun _ _ _ _ _ => rfl, rfl⟩
theorem zPd.tr {t : Nat} {σ σ1 σ2 : zW} (h : zPd t σ σ1) (h2 : zPd t σ1 σ2) : zPd t σ σ2 := ⟨fun k d c z y => (h2.1 k d c z y).trans (h.1 k d c z y), h2.2.trans h.2⟩
theorem zPg.d {t : Nat} {σ σ' : zW} (h : zPg σ σ') : zPd t σ σ' := ⟨fun k d c z _ => h.1 k d c z, h.2⟩
theorem zPd.t {t : Nat} {σ σ' : zW} (h : ∀ k' d' c', ¬ (k' = 0 ∧ d' = t) → σ' k' d' c' = σ k' d' c') : zPd t σ σ' := ⟨fun k d c _ y => h k d c (by omega), by rw [h 2 0 3 (by omega)]⟩
theorem zPd.v {t : Nat} {σ σ' : zW} (h : zFr σ σ' 1 t) : zPd t σ σ' := ⟨fun k d c _ y => by rw [h k d (by omega)], by rw [h 2 0 (by omega)]⟩
theorem zPd.T {t : Nat} {σ σ' : zW} (h : zPd t σ σ') {b : Int → Int} {L : Int} (hT : zTc σ b L) : zTc σ' b L := hT.cg (h.1 2 0 2 (by omega) (by omega))
theorem zRes.sm {σ σ1 σ2 : zW} {e : Int × Int} (h : zRes σ σ1 e) (h2 : σ2 2 0 3 = σ1 2 0 3) : zRes σ σ2 e := by unfold zRes; rw [h2]; exact h
/-- the outcome of a piece of text: e, and where all went well, the position, the state and the names -/
def zSt (σ σ' : zW) (t : Nat) (e : Int × Int) (p' : Int) (n' : zN) (wd' : Int → List Int) : Prop := zRes σ σ' e ∧ (e.1 = 0 → σ' 2 0 3 5 = p' ∧ zSw σ' t n' wd')
theorem eTh_ok {a c : Int × Int} (h : a.1 = 0) : eTh a c = c := by unfold eTh; rw [if_pos h]
theorem eTh_no {a c : Int × Int} (h : ¬ a.1 = 0) : eTh a c = a := by unfold eTh; rw [if_neg h]
theorem eNum_0 {b : Int → Int} {L p lo hi : Int} (h : (eNum b L p lo hi).1 = 0) : tK b L p = 2 ∧ lo ≤ tV b L p ∧ tV b L p ≤ hi := by
  unfold eNum at h
  by_cases c1 : tK b L p = 2
  · rw [if_pos c1] at h
    by_cases c2 : lo ≤ tV b L p ∧ tV b L p ≤ hi
    · exact ⟨c1, c2⟩
    · rw [if_neg c2] at h
      exact absurd h (by simp)
  · rw [if_neg c1] at h
    exact absurd h (by simp)
theorem eFil_0 {b : Int → Int} {L p : Int} {n : zN} {wd : Int → List Int} (h : (eFil b L p n wd).1 = 0) : tK b L p = 1 ∧ ¬ fNm wd n (tW b L p) = -1 := by
  unfold eFil at h
  by_cases c1 : tK b L p = 1
  · rw [if_pos c1] at h
    by_cases c2 : fNm wd n (tW b L p) = -1
    · rw [if_pos c2] at h
      exact absurd h (by simp)
    · exact ⟨c1, c2⟩
  · rw [if_neg c1] at h
    exact absurd h (by simp)
theorem zSt.no {σ σ' : zW} {t : Nat} {e : Int × Int} {p' : Int} {n' : zN} {wd' : Int → List Int} (he : ¬ e.1 = 0) (h : zRes σ σ' e) : zSt σ σ' t e p' n' wd' := ⟨h, fun z => absurd z he⟩
section zPar
variable {E : zE} {σ : zW} {b : Int → Int} {L : Int} {t : Nat} {n : zN} {wd : Int → List Int}
theorem zSt.fl {σ0 σ1 : zW} {e : Int × Int} {p' : Int} {n' : zN} {wd' : Int → List Int} (he : ¬ e.1 = 0) : zSt σ0 (zFl σ1 e) t e p' n' wd' := zSt.no he (zFl.r he)
theorem e4_readBad (hW : zWF E) (hm : zU E 2 0 = true) (hT : zTc σ b L) (hu : zU E 0 t = true) (hS : zSw σ t n wd) {p : Int} (h2 : σ 2 0 3 2 = L) (h5 : σ 2 0 3 5 = p) (hp0 : 0 ≤ p) (hp : p ≤ L) : ∃ σ', f_X4_readBad (zH E σ) (zL E 2 0 3) (zL E 2 0 1) (zL E 0 t 0) = some (zH E σ', zI (zb (decide ((eBad b L p n).1 = 0)))) ∧ zPd t σ σ' ∧ zSt σ σ' t (eBad b L p n) (tE b L p) (zu n (103 + tV b L p) 1) wd := by
  have hn := hS.2.1
  have hN := hn.1.r
  have hs := tS_rng (b := b) hp
  have hL6 := hT.1
  have dc := (zz_dco (σ := σ) hW hu)
  have ec := e0_count hW hu hS.1.1.1 hn.1 hn.2.1
  have po := (zz_pao (σ := σ) hW hm).1
  obtain ⟨σ1, a1, a2, a3, a4⟩ := e4_readNumber hW hm hT (lo := 0) (hi := n 0 - 1) h2 h5 hp0 hp (by omega) (by omega) (by omega) (by omega)
  by_cases c1 : (eNum b L p 0 (n 0 - 1)).1 = 0
  · obtain ⟨k1, k2, k3⟩ := eNum_0 c1
    rw [zb_dpos c1] at a1
    have hS1 : zSw σ1 t n wd := hS.cg (funext fun c => a2.1 0 t c (by omega))
    have dc1 := (zz_dco (σ := σ1) hW hu)
    have bl1 := (zz_blo (σ := σ1) hW hu)
    have g6 := zg_pa6 (σ := σ1) hW hm
    rw [a3.2.2.2.1 k1] at g6
    have ib := e0_isBad' hW hu hS1.1.1.1 hn.1 hn.2.1 (b := tV b L p) k2 (by omega)
    have hb := (hn.2.1 (tV b L p) k2 (by omega)).2.1
    have eB : eBad b L p n = if n (103 + tV b L p) = 0 then (0, 0) else (2, tS b L p) := eTh_ok c1
    by_cases c2 : n (103 + tV b L p) = 0
    · have e : eBad b L p n = (0, 0) := by rw [eB, if_pos c2]
      rw [e, zb_dpos (show ((0, 0) : Int × Int).1 = 0 from rfl)]
      have mk := zX_mark (σ := σ1) (n := 96) hW hu (k := 0) (d := t) (c := 3) rfl (by decide) (i := tV b L p) (v := 1) (by omega) (by omega) (Or.inr rfl)
      rw [if_pos ⟨k2, by omega⟩] at mk
      refine ⟨zs σ1 0 t 3 (tV b L p) 1, ?_, (a2.d).tr (zPd.t fun k d c z => zs_ne (by omega)), ⟨fun _ => ?_, fun z => absurd rfl z⟩, fun _ => ⟨?_, ?_⟩⟩
      · simp (disch := first | assumption | omega) only [f_X4_readBad, dc, ec, po, a1, dc1, bl1, g6, ib, c2, mk, zz_some, zz_lit, zz_num, zI_lt, zI_le, zI_eq, zI_nat, zz_b, if_pos, if_neg, if_true, if_false]
      · rw [zs_ne (by omega)]
        exact a4.1 c1
      · rw [zs_ne (by omega)]
        exact a3.2.1
      · refine hS1.ch (fun c' hc => zs_ne (by omega)) (nBd_R k2 (by omega) hS1.1 hn (by funext i; exact zs_at) (fun c hc => zs_ne (by omega))) (nBd_W hn k2 (by omega))
    · have e : eBad b L p n = (2, tS b L p) := by rw [eB, if_neg c2]
      rw [e, zb_dneg (show ¬ ((2, tS b L p) : Int × Int).1 = 0 by simp)]
      have g4 := zg_pa4 (σ := σ1) hW hm
      rw [a3.1] at g4
      have po1 := (zz_pao (σ := σ1) hW hm).1
      have fl : f_X4_fail (zH E σ1) (zL E 2 0 3) (zI 2) (zI (tS b L p)) = some (zH E (zFl σ1 (2, tS b L p)), zI 0) := e4_fail (σ := σ1) hW hm (2, tS b L p)
      refine ⟨zFl σ1 (2, tS b L p), ?_, (a2.tr zFl.g).d, zSt.fl (by simp)⟩
      simp (disch := first | assumption | omega) only [f_X4_readBad, dc, ec, po, a1, dc1, bl1, g6, ib, c2, g4, po1, fl, zz_some, zz_lit, zz_num, zI_lt, zI_le, zI_eq, zI_nat, zz_b, if_pos, if_neg, if_true, if_false]
  · rw [zb_dneg c1] at a1
    have e : eBad b L p n = eNum b L p 0 (n 0 - 1) := eTh_no c1
    rw [e, zb_dneg c1]
    refine ⟨σ1, ?_, a2.d, zSt.no c1 a4⟩
    simp (disch := first | assumption | omega) only [f_X4_readBad, dc, ec, po, a1, zz_some, zz_lit, zz_num, zI_lt, zI_le, zI_eq, zI_nat, zz_b, if_pos, if_neg, if_true, if_false]
theorem e4_readNewFile (hW : zWF E) (hm : zU E 2 0 = true) (hT : zTc σ b L) (hu : zU E 0 t = true) (hS : zSw σ t n wd) {p q : Int} (h2 : σ 2 0 3 2 = L) (h4 : σ 2 0 3 4 = tS b L q) (h5 : σ 2 0 3 5 = p) (hp0 : 0 ≤ p) (hp : p ≤ L) (hq0 : 0 ≤ q) (hq : q ≤ L) : ∃ σ', f_X4_readNewFile (zH E σ) (zL E 2 0 3) (zL E 2 0 1) (zL E 0 t 0) = some (zH E σ', zI (zb (decide ((eNew b L q p n wd).1 = 0)))) ∧ zPd t σ σ' ∧ zSt σ σ' t (eNew b L q p n wd) (tE b L p) (zu n 2 (n 2 + 1)) (fun k => if k = n 2 then tW b L p else wd k) := by
  have hn := hS.2.1
  have hN := hn.1.r
  have hs := tS_rng (b := b) hp
  have hsq := tS_rng (b := b) hq
  have hL6 := hT.1
  have od : g_ob (zH E σ) (zL E 0 t 0) 1 = some () := by simp only [zz_dco (σ := σ) hW hu]
  have g3 := zg_dc3 (σ := σ) hW hu
  rw [hS.1.2.2.2.1] at g3
  have po := (zz_pao (σ := σ) hW hm).1
  by_cases c0 : 10 ≤ n 2
  · have e : eNew b L q p n wd = (5, tS b L q) := by unfold eNew; rw [if_pos c0]
    rw [e, zb_dneg (show ¬ ((5, tS b L q) : Int × Int).1 = 0 by simp)]
    have d0 : ¬ n 2 < 10 := by omega
    have ha : f_X1_hasAllFiles (zH E σ) (zL E 0 t 0) = some (zI 1) := by
      simp (disch := first | assumption | omega) only [f_X1_hasAllFiles, g3, d0, zz_some, zz_lit, zz_num, zI_lt, zI_le, zI_eq, zI_nat, zz_b, if_pos, if_neg, if_true, if_false]
    have g4 := zg_pa4 (σ := σ) hW hm
    rw [h4] at g4
    have fl : f_X4_fail (zH E σ) (zL E 2 0 3) (zI 5) (zI (tS b L q)) = some (zH E (zFl σ (5, tS b L q)), zI 0) := e4_fail (σ := σ) hW hm (5, tS b L q)
    refine ⟨zFl σ (5, tS b L q), ?_, zFl.g.d, zSt.fl (by simp)⟩
    simp (disch := first | assumption | omega) only [f_X4_readNewFile, od, ha, g4, po, fl, zz_some, zz_lit, zz_num, zI_lt, zI_le, zI_eq, zI_nat, zz_b, if_pos, if_neg, if_true, if_false]
  · have d0 : n 2 < 10 := by omega
    have ha : f_X1_hasAllFiles (zH E σ) (zL E 0 t 0) = some (zI 0) := by
      simp (disch := first | assumption | omega) only [f_X1_hasAllFiles, g3, d0, zz_some, zz_lit, zz_num, zI_lt, zI_le, zI_eq, zI_nat, zz_b, if_pos, if_neg, if_true, if_false]
    obtain ⟨σ1, a1, a2, a3⟩ := e4_advance hW hm hT h2 h5 hp0 hp
    have hk := tK_rng (b := b) (L := L) (p := p)
    have po1 := (zz_pao (σ := σ1) hW hm).1
    have q3 := zg_pa3 (σ := σ1) hW hm
    rw [a3.2.2.1] at q3
    have q4 := zg_pa4 (σ := σ1) hW hm
    rw [a3.1] at q4
    have od1 : g_ob (zH E σ1) (zL E 0 t 0) 1 = some () := by simp only [zz_dco (σ := σ1) hW hu]
    have hS1 : zSw σ1 t n wd := hS.cg (funext fun c => a2.1 0 t c (by omega))
    by_cases c1 : tK b L p = 1
    · have g7 := zg_pa7 (σ := σ1) hW hm
      rw [a3.2.2.2.2 c1] at g7
      have hw := tK_1 hp c1
      have nm := hS1.nm hW hu hw
      have nr := fNm_rg (wd := wd) (w := tW b L p) hS.2.1
      by_cases c2 : fNm wd n (tW b L p) = -1
      · have e : eNew b L q p n wd = (0, 0) := by unfold eNew; rw [if_neg c0, if_pos c1, if_pos c2]
        rw [e, zb_dpos (show ((0, 0) : Int × Int).1 = 0 from rfl)]
        have r3 := zg_dc3 (σ := σ1) hW hu
        rw [hS1.1.2.2.2.1] at r3
        have dc1 := zz_dco (σ := σ1) hW hu
        have hl : g_len (zH E σ1) (zL E 0 t 23) = some (zI 10) := zLen (σ := σ1) hW hu (c := 23) rfl
        have ls := zLast (σ := σ1) (n := 10) hW hu (k := 0) (d := t) (c := 23) rfl (by decide) (i := n 2) (v := zw27 (tW b L p)) (by omega) (by omega)
        obtain ⟨σ2, h22⟩ : ∃ x, x = zs σ1 0 t 23 (n 2) (zw27 (tW b L p)) := ⟨_, rfl⟩
        rw [← h22] at ls
        have r32 := zg_dc3 (σ := σ2) hW hu
        rw [show σ2 0 t 0 = σ1 0 t 0 by rw [h22, zs_ne (by omega)], hS1.1.2.2.2.1] at r32
        have p32 := zp_dc3 (σ := σ2) hW hu (n 2 + 1)
        have d1 : ¬ 10 ≤ n 2 := by omega
        have af : f_X1_addFile (zH E σ1) (zL E 0 t 0) (zJ (zw27 (tW b L p))) = some (zH E (zs σ2 0 t 0 3 (n 2 + 1))) := by
          simp (disch := first | assumption | omega) only [f_X1_addFile, r3, dc1, hl, d1, ls, r32, p32, zz_some, zz_lit, zz_num, zI_lt, zI_le, zI_eq, zI_nat, zz_b, if_pos, if_neg, if_true, if_false]
        refine ⟨zs σ2 0 t 0 3 (n 2 + 1), ?_, (a2.g.d).tr (zPd.t fun k d c z => by rw [zs_ne (by omega), h22, zs_ne (by omega)]), ⟨fun _ => ?_, fun z => absurd rfl z⟩, fun _ => ⟨?_, ?_, nZu2_W hn d0, ?_⟩⟩
        · simp (disch := first | assumption | omega) only [f_X4_readNewFile, od, ha, po, a1, q3, c1, g7, od1, nm, c2, af, zz_some, zz_lit, zz_num, zI_lt, zI_le, zI_eq, zI_nat, zz_b, if_pos, if_neg, if_true, if_false]
        · rw [zs_ne (by omega), h22, zs_ne (by omega)]
          exact ⟨a2.2 1 (by omega), a2.2 0 (by omega)⟩
        · rw [zs_ne (by omega), h22, zs_ne (by omega)]
          exact a3.2.1
        · refine zRd_2 hS1.1 (fun c z1 z2 => by rw [zs_ne (by omega), h22, zs_ne (by omega)]) ?_ ?_
          · rw [zs_at, if_pos rfl]
          · rw [zs_at, if_neg (by omega), h22, zs_ne (by omega)]
        · intro k k0 k1
          rw [show zu n 2 (n 2 + 1) 2 = n 2 + 1 by unfold zu; rw [if_pos rfl]] at k1
          rw [zs_ne (by omega), h22, zs_at]
          by_cases hk2 : k = n 2
          · simp only [hk2, if_true]
            exact ⟨hw, trivial⟩
          · simp only [hk2, if_false]
            exact hS1.2.2 k k0 (by omega)
      · have e : eNew b L q p n wd = (2, tS b L p) := by unfold eNew; rw [if_neg c0, if_pos c1, if_neg c2]
        rw [e, zb_dneg (show ¬ ((2, tS b L p) : Int × Int).1 = 0 by simp)]
        have fl : f_X4_fail (zH E σ1) (zL E 2 0 3) (zI 2) (zI (tS b L p)) = some (zH E (zFl σ1 (2, tS b L p)), zI 0) := e4_fail (σ := σ1) hW hm (2, tS b L p)
        refine ⟨zFl σ1 (2, tS b L p), ?_, (a2.g.tr zFl.g).d, zSt.fl (by simp)⟩
        simp (disch := first | assumption | omega) only [f_X4_readNewFile, od, ha, po, a1, q3, c1, g7, od1, nm, c2, q4, po1, fl, zz_some, zz_lit, zz_num, zI_lt, zI_le, zI_eq, zI_nat, zz_b, if_pos, if_neg, if_true, if_false]
    · have e : eNew b L q p n wd = (1, tS b L p) := by unfold eNew; rw [if_neg c0, if_neg c1]
      rw [e, zb_dneg (show ¬ ((1, tS b L p) : Int × Int).1 = 0 by simp)]
      have fl : f_X4_fail (zH E σ1) (zL E 2 0 3) (zI 1) (zI (tS b L p)) = some (zH E (zFl σ1 (1, tS b L p)), zI 0) := e4_fail (σ := σ1) hW hm (1, tS b L p)
      refine ⟨zFl σ1 (1, tS b L p), ?_, (a2.g.tr zFl.g).d, zSt.fl (by simp)⟩
      simp (disch := first | assumption | omega) only [f_X4_readNewFile, od, ha, po, a1, q3, c1, q4, po1, fl, zz_some, zz_lit, zz_num, zI_lt, zI_le, zI_eq, zI_nat, zz_b, if_pos, if_neg, if_true, if_false]
theorem e4_doClose (hW : zWF E) (hm : zU E 2 0 = true) (hT : zTc σ b L) (hu : zU E 0 t = true) (hS : zSw σ t n wd) {p q : Int} (h4 : σ 2 0 3 4 = tS b L q) (h5 : σ 2 0 3 5 = p) (hq0 : 0 ≤ q) (hq : q ≤ L) : ∃ σ', f_X4_doClose (zH E σ) (zL E 2 0 3) (zL E 0 t 0) = some (zH E σ', zI (zb (decide ((eClo b L q n).1 = 0)))) ∧ zPd t σ σ' ∧ zSt σ σ' t (eClo b L q n) p (nCl n) wd := by
  have hn := hS.2.1
  have hsq := tS_rng (b := b) hq
  have hL6 := hT.1
  have od : g_ob (zH E σ) (zL E 0 t 0) 1 = some () := by simp only [zz_dco (σ := σ) hW hu]
  have r := e1_reasonAgainstClose hW hu hS.1 hn
  have rg := nWc_rng n
  by_cases c1 : nWc n = 0
  · have e : eClo b L q n = (0, 0) := by unfold eClo; rw [if_pos c1]
    rw [e, zb_dpos (show ((0, 0) : Int × Int).1 = 0 from rfl)]
    obtain ⟨σ2, b1, b2, b3, b4⟩ := e1_closeSession hW hu hS.1 hn c1
    refine ⟨σ2, ?_, zPd.t b2, ⟨fun _ => ?_, fun z => absurd rfl z⟩, fun _ => ⟨?_, hS.ch b3 b4 (nCl_W hn c1).2.1⟩⟩
    · simp (disch := first | assumption | omega) only [f_X4_doClose, od, r, c1, b1, zz_some, zz_lit, zz_num, zI_lt, zI_le, zI_eq, zI_nat, zz_b, if_pos, if_neg, if_true, if_false]
    · rw [b2 2 0 3 (by omega)]; exact ⟨rfl, rfl⟩
    · rw [b2 2 0 3 (by omega)]; exact h5
  · have e : eClo b L q n = (6, tS b L q) := by unfold eClo; rw [if_neg c1]
    rw [e, zb_dneg (show ¬ ((6, tS b L q) : Int × Int).1 = 0 by simp)]
    have g4 := zg_pa4 (σ := σ) hW hm
    rw [h4] at g4
    have po := (zz_pao (σ := σ) hW hm).1
    have fl : f_X4_fail (zH E σ) (zL E 2 0 3) (zI 6) (zI (tS b L q)) = some (zH E (zFl σ (6, tS b L q)), zI 0) := e4_fail (σ := σ) hW hm (6, tS b L q)
    refine ⟨zFl σ (6, tS b L q), ?_, zFl.g.d, zSt.fl (by simp)⟩
    simp (disch := first | assumption | omega) only [f_X4_doClose, od, r, c1, g4, po, fl, zz_some, zz_lit, zz_num, zI_lt, zI_le, zI_eq, zI_nat, zz_b, if_pos, if_neg, if_true, if_false]
theorem e4_readErase (hW : zWF E) (hm : zU E 2 0 = true) (hT : zTc σ b L) (hu : zU E 0 t = true) (hv : zU E 1 t = true) (hS : zSw σ t n wd) {p q : Int} (h2 : σ 2 0 3 2 = L) (h4 : σ 2 0 3 4 = tS b L q) (h5 : σ 2 0 3 5 = p) (hp0 : 0 ≤ p) (hp : p ≤ L) (hq0 : 0 ≤ q) (hq : q ≤ L) : ∃ σ', f_X4_readErase (zH E σ) (zL E 2 0 3) (zL E 2 0 1) (zL E 0 t 0) = some (zH E σ', zI (zb (decide ((eEra b L q p n wd).1 = 0)))) ∧ zPd t σ σ' ∧ zSt σ σ' t (eEra b L q p n wd) (tE b L p) (nErs n (fNm wd n (tW b L p))) wd := by
  have hn := hS.2.1
  have hsq := tS_rng (b := b) hq
  have hL6 := hT.1
  have g4 := zg_pa4 (σ := σ) hW hm
  rw [h4] at g4
  have po := (zz_pao (σ := σ) hW hm).1
  obtain ⟨σ1, a1, a2, a3, a4⟩ := e4_readFile hW hm hT hu hS h2 h5 hp0 hp
  by_cases c1 : (eFil b L p n wd).1 = 0
  · obtain ⟨k1, k2⟩ := eFil_0 c1
    rw [zb_dpos c1] at a1
    have hS1 : zSw σ1 t n wd := hS.cg (funext fun c => a2.1 0 t c (by omega))
    have od1 : g_ob (zH E σ1) (zL E 0 t 0) 1 = some () := by simp only [zz_dco (σ := σ1) hW hu]
    have g7 := zg_pa7 (σ := σ1) hW hm
    rw [a3.2.2.2.2 k1] at g7
    have nm := hS1.nm hW hu (tK_1 hp k1)
    have nr := fNm_rng (wd := wd) (w := tW b L p) hn k2
    obtain ⟨σ2, r1, r2⟩ := e1_reasonAgainstErase hW hu hv hn hS1.1 nr.1 nr.2
    have rg := nWe_rng n (fNm wd n (tW b L p))
    have hS2 : zSw σ2 t n wd := hS1.cg (r2 0 t (by omega))
    have od2 : g_ob (zH E σ2) (zL E 0 t 0) 1 = some () := by simp only [zz_dco (σ := σ2) hW hu]
    have eE : eEra b L q p n wd = if nWe n (fNm wd n (tW b L p)) = 0 then (0, 0) else (6, tS b L q) := eTh_ok c1
    by_cases c2 : nWe n (fNm wd n (tW b L p)) = 0
    · have e : eEra b L q p n wd = (0, 0) := by rw [eE, if_pos c2]
      rw [e, zb_dpos (show ((0, 0) : Int × Int).1 = 0 from rfl)]
      obtain ⟨σ3, b1, b2, b3, b4⟩ := e1_eraseFile hW hu hS2.1 hn nr.1 nr.2 c2
      refine ⟨σ3, ?_, (a2.d).tr ((zPd.v r2).tr (zPd.t b2)), ⟨fun _ => ?_, fun z => absurd rfl z⟩, fun _ => ⟨?_, hS2.ch b3 b4 (nErs_W hn nr.1 nr.2 c2)⟩⟩
      · simp (disch := first | assumption | omega) only [f_X4_readErase, g4, po, a1, g7, od1, nm, r1, c2, od2, b1, zz_some, zz_lit, zz_num, zI_lt, zI_le, zI_eq, zI_nat, zz_b, if_pos, if_neg, if_true, if_false]
      · rw [b2 2 0 3 (by omega), r2 2 0 (by omega)]; exact a4.1 c1
      · rw [b2 2 0 3 (by omega), r2 2 0 (by omega)]; exact a3.2.1
    · have e : eEra b L q p n wd = (6, tS b L q) := by rw [eE, if_neg c2]
      rw [e, zb_dneg (show ¬ ((6, tS b L q) : Int × Int).1 = 0 by simp)]
      have po2 := (zz_pao (σ := σ2) hW hm).1
      have fl : f_X4_fail (zH E σ2) (zL E 2 0 3) (zI 6) (zI (tS b L q)) = some (zH E (zFl σ2 (6, tS b L q)), zI 0) := e4_fail (σ := σ2) hW hm (6, tS b L q)
      refine ⟨zFl σ2 (6, tS b L q), ?_, (a2.d).tr ((zPd.v r2).tr zFl.g.d), zSt.fl (by simp)⟩
      simp (disch := first | assumption | omega) only [f_X4_readErase, g4, po, a1, g7, od1, nm, r1, c2, po2, fl, zz_some, zz_lit, zz_num, zI_lt, zI_le, zI_eq, zI_nat, zz_b, if_pos, if_neg, if_true, if_false]
  · rw [zb_dneg c1] at a1
    have e : eEra b L q p n wd = eFil b L p n wd := eTh_no c1
    rw [e, zb_dneg c1]
    refine ⟨σ1, ?_, a2.d, zSt.no c1 a4⟩
    simp (disch := first | assumption | omega) only [f_X4_readErase, g4, po, a1, zz_some, zz_lit, zz_num, zI_lt, zI_le, zI_eq, zI_nat, zz_b, if_pos, if_neg, if_true, if_false]
theorem e4_readWrite (hW : zWF E) (hm : zU E 2 0 = true) (hT : zTc σ b L) (hu : zU E 0 t = true) (hS : zSw σ t n wd) {p q : Int} (h2 : σ 2 0 3 2 = L) (h4 : σ 2 0 3 4 = tS b L q) (h5 : σ 2 0 3 5 = p) (hp0 : 0 ≤ p) (hp : p ≤ L) (hq0 : 0 ≤ q) (hq : q ≤ L) : ∃ σ', f_X4_readWrite (zH E σ) (zL E 2 0 3) (zL E 2 0 1) (zL E 0 t 0) = some (zH E σ', zI (zb (decide ((eWri b L q p n wd).1 = 0)))) ∧ zPd t σ σ' ∧ zSt σ σ' t (eWri b L q p n wd) (tE b L (tE b L (tE b L p))) (nWrs n (fNm wd n (tW b L p)) (tV b L (tE b L p)) (tV b L (tE b L (tE b L p)))) wd := by
  have hn := hS.2.1
  have hsq := tS_rng (b := b) hq
  have hL6 := hT.1
  have g4 := zg_pa4 (σ := σ) hW hm
  rw [h4] at g4
  have po := (zz_pao (σ := σ) hW hm).1
  have hp1 := tE_rng (b := b) hp
  have hp1s := tS_rng (b := b) hp
  obtain ⟨σ1, a1, a2, a3, a4⟩ := e4_readFile hW hm hT hu hS h2 h5 hp0 hp
  by_cases c1 : (eFil b L p n wd).1 = 0
  · obtain ⟨k1, k2⟩ := eFil_0 c1
    rw [zb_dpos c1] at a1
    have hS1 : zSw σ1 t n wd := hS.cg (funext fun c => a2.1 0 t c (by omega))
    have od1 : g_ob (zH E σ1) (zL E 0 t 0) 1 = some () := by simp only [zz_dco (σ := σ1) hW hu]
    have po1 := (zz_pao (σ := σ1) hW hm).1
    have g7 := zg_pa7 (σ := σ1) hW hm
    rw [a3.2.2.2.2 k1] at g7
    have nm := hS1.nm hW hu (tK_1 hp k1)
    have nr := fNm_rng (wd := wd) (w := tW b L p) hn k2
    have hT1 := hT.cg (a2.1 2 0 2 (by omega))
    obtain ⟨p1, hp1e⟩ : ∃ x, x = tE b L p := ⟨_, rfl⟩
    obtain ⟨f, hf⟩ : ∃ x, x = fNm wd n (tW b L p) := ⟨_, rfl⟩
    unfold eWri
    rw [eTh_ok c1]
    rw [← hp1e, ← hf]
    rw [← hf] at nm nr
    rw [← hp1e] at hp1
    have a32 : σ1 2 0 3 5 = p1 := by rw [hp1e]; exact a3.2.1
    have hp2 := tE_rng (b := b) hp1.2.1
    have hp2s := tS_rng (b := b) hp1.2.1
    obtain ⟨σ2, d1, d2, d3, d4⟩ := e4_readNumber hW hm hT1 (lo := 1) (hi := 8) (a2.2.trans h2) a32 (by omega) hp1.2.1 (by omega) (by omega) (by omega) (by omega)
    by_cases c2 : (eNum b L p1 1 8).1 = 0
    · obtain ⟨m1, m2, m3⟩ := eNum_0 c2
      rw [zb_dpos c2] at d1
      rw [eTh_ok c2]
      have hS2 : zSw σ2 t n wd := hS1.cg (funext fun c => d2.1 0 t c (by omega))
      have po2 := (zz_pao (σ := σ2) hW hm).1
      have g6 := zg_pa6 (σ := σ2) hW hm
      rw [d3.2.2.2.1 m1] at g6
      have hT2 := hT1.cg (d2.1 2 0 2 (by omega))
      obtain ⟨p2, hp2e⟩ : ∃ x, x = tE b L p1 := ⟨_, rfl⟩
      rw [← hp2e]
      rw [← hp2e] at hp2
      have d32 : σ2 2 0 3 5 = p2 := by rw [hp2e]; exact d3.2.1
      obtain ⟨σ3, x1, x2, x3, x4⟩ := e4_readNumber hW hm hT2 (lo := 0) (hi := 999) (d2.2.trans (a2.2.trans h2)) d32 (by omega) hp2.2.1 (by omega) (by omega) (by omega) (by omega)
      by_cases c3 : (eNum b L p2 0 999).1 = 0
      · obtain ⟨y1, y2, y3⟩ := eNum_0 c3
        rw [zb_dpos c3] at x1
        rw [eTh_ok c3]
        have hS3 : zSw σ3 t n wd := hS2.cg (funext fun c => x2.1 0 t c (by omega))
        have od3 : g_ob (zH E σ3) (zL E 0 t 0) 1 = some () := by simp only [zz_dco (σ := σ3) hW hu]
        have po3 := (zz_pao (σ := σ3) hW hm).1
        have h6 := zg_pa6 (σ := σ3) hW hm
        rw [x3.2.2.2.1 y1] at h6
        have hN := hn.1.r
        have rg := nWw_rng n f (tV b L p1)
        have r := e1_reasonAgainstWrite hW hu hS3.1 hn (x := f) (m := tV b L p1) (by omega) (by omega) (by omega) (by omega)
        by_cases c4 : nWw n f (tV b L p1) = 0
        · rw [if_pos c4, zb_dpos (show ((0, 0) : Int × Int).1 = 0 from rfl)]
          obtain ⟨σ4, b1, b2, b3, b4⟩ := e1_writeVersion hW hu hS3.1 hn nr.1 nr.2 m2 m3 y2 y3 c4
          refine ⟨σ4, ?_, ((a2.tr d2).tr x2).d.tr (zPd.t b2), ⟨fun _ => ?_, fun z => absurd rfl z⟩, fun _ => ⟨?_, hS3.ch b3 b4 (nWrs_W hn nr.1 nr.2 m2 m3 y2 y3 c4).2.2.2.2⟩⟩
          · simp (disch := first | assumption | omega) only [f_X4_readWrite, g4, po, a1, g7, od1, nm, po1, d1, g6, po2, x1, od3, r, c4, h6, b1, zz_some, zz_lit, zz_num, zI_lt, zI_le, zI_eq, zI_nat, zz_b, if_pos, if_neg, if_true, if_false]
          · rw [b2 2 0 3 (by omega)]
            have z1 := a4.1 c1
            have z2 := d4.1 c2
            have z3 := x4.1 c3
            exact ⟨z3.1.trans (z2.1.trans z1.1), z3.2.trans (z2.2.trans z1.2)⟩
          · rw [b2 2 0 3 (by omega)]; exact x3.2.1
        · rw [if_neg c4, zb_dneg (show ¬ ((6, tS b L q) : Int × Int).1 = 0 by simp)]
          have fl : f_X4_fail (zH E σ3) (zL E 2 0 3) (zI 6) (zI (tS b L q)) = some (zH E (zFl σ3 (6, tS b L q)), zI 0) := e4_fail (σ := σ3) hW hm (6, tS b L q)
          refine ⟨zFl σ3 (6, tS b L q), ?_, (((a2.tr d2).tr x2).tr zFl.g).d, zSt.fl (by simp)⟩
          simp (disch := first | assumption | omega) only [f_X4_readWrite, g4, po, a1, g7, od1, nm, po1, d1, g6, po2, x1, od3, r, c4, po3, fl, zz_some, zz_lit, zz_num, zI_lt, zI_le, zI_eq, zI_nat, zz_b, if_pos, if_neg, if_true, if_false]
      · rw [zb_dneg c3] at x1
        rw [eTh_no c3, zb_dneg c3]
        have z1 := a4.1 c1
        have z2 := d4.1 c2
        refine ⟨σ3, ?_, ((a2.tr d2).tr x2).d, zSt.no c3 (x4.tr ⟨z2.1.trans z1.1, z2.2.trans z1.2⟩)⟩
        simp (disch := first | assumption | omega) only [f_X4_readWrite, g4, po, a1, g7, od1, nm, po1, d1, g6, po2, x1, zz_some, zz_lit, zz_num, zI_lt, zI_le, zI_eq, zI_nat, zz_b, if_pos, if_neg, if_true, if_false]
    · rw [zb_dneg c2] at d1
      rw [eTh_no c2, zb_dneg c2]
      refine ⟨σ2, ?_, (a2.tr d2).d, zSt.no c2 (d4.tr (a4.1 c1))⟩
      simp (disch := first | assumption | omega) only [f_X4_readWrite, g4, po, a1, g7, od1, nm, po1, d1, zz_some, zz_lit, zz_num, zI_lt, zI_le, zI_eq, zI_nat, zz_b, if_pos, if_neg, if_true, if_false]
  · rw [zb_dneg c1] at a1
    have e : eWri b L q p n wd = eFil b L p n wd := eTh_no c1
    rw [e, zb_dneg c1]
    refine ⟨σ1, ?_, a2.d, zSt.no c1 a4⟩
    simp (disch := first | assumption | omega) only [f_X4_readWrite, g4, po, a1, zz_some, zz_lit, zz_num, zI_lt, zI_le, zI_eq, zI_nat, zz_b, if_pos, if_neg, if_true, if_false]
theorem e4_readStatement (hW : zWF E) (hm : zU E 2 0 = true) (hT : zTc σ b L) (hu : zU E 0 t = true) (hv : zU E 1 t = true) (hS : zSw σ t n wd) {q : Int} (h2 : σ 2 0 3 2 = L) (hP : zPc σ b L q) (hq0 : 0 ≤ q) (hq : q ≤ L) : ∃ σ', f_X4_readStatement (zH E σ) (zL E 2 0 3) (zL E 2 0 1) (zL E 0 t 0) = some (zH E σ', zI (zb (decide ((eStm b L q n wd).1 = 0)))) ∧ zPd t σ σ' ∧ zSt σ σ' t (eStm b L q n wd) (pStm b L q) (nStm b L q n wd) (wStm b L q n wd) := by
  have hsq := tS_rng (b := b) hq
  have heq := tE_rng (b := b) hq
  have hL6 := hT.1
  have po := (zz_pao (σ := σ) hW hm).1
  have i1 := e4_isWord hW hm hT hq0 hq hP (j := 1) (by omega)
  have i2 := e4_isWord hW hm hT hq0 hq hP (j := 2) (by omega)
  have i3 := e4_isWord hW hm hT hq0 hq hP (j := 3) (by omega)
  have i4 := e4_isWord hW hm hT hq0 hq hP (j := 4) (by omega)
  have i5 := e4_isWord hW hm hT hq0 hq hP (j := 5) (by omega)
  unfold eStm nStm wStm pStm
  by_cases c1 : tIs b L q 1 = true
  · rw [zb_pos c1] at i1
    simp only [if_pos c1]
    obtain ⟨σ', x1, x2, x3⟩ := e4_readBad hW hm hT hu hS h2 hP.2.1 (by omega) heq.2.1
    refine ⟨σ', ?_, x2, x3⟩
    simp (disch := first | assumption | omega) only [f_X4_readStatement, po, i1, x1, zz_some, zz_lit, zz_num, zI_lt, zI_le, zI_eq, zI_nat, zz_b, if_pos, if_neg, if_true, if_false]
  · rw [zb_neg (by simpa using c1)] at i1
    simp only [if_neg c1]
    by_cases c2 : tIs b L q 2 = true
    · rw [zb_pos c2] at i2
      simp only [if_pos c2]
      obtain ⟨σ', x1, x2, x3⟩ := e4_readNewFile hW hm hT hu hS h2 hP.1 hP.2.1 (by omega) heq.2.1 hq0 hq
      refine ⟨σ', ?_, x2, x3⟩
      simp (disch := first | assumption | omega) only [f_X4_readStatement, po, i1, i2, x1, zz_some, zz_lit, zz_num, zI_lt, zI_le, zI_eq, zI_nat, zz_b, if_pos, if_neg, if_true, if_false]
    · rw [zb_neg (by simpa using c2)] at i2
      simp only [if_neg c2]
      by_cases c3 : tIs b L q 3 = true
      · rw [zb_pos c3] at i3
        simp only [if_pos c3]
        obtain ⟨σ', x1, x2, x3⟩ := e4_readWrite hW hm hT hu hS h2 hP.1 hP.2.1 (by omega) heq.2.1 hq0 hq
        refine ⟨σ', ?_, x2, x3⟩
        simp (disch := first | assumption | omega) only [f_X4_readStatement, po, i1, i2, i3, x1, zz_some, zz_lit, zz_num, zI_lt, zI_le, zI_eq, zI_nat, zz_b, if_pos, if_neg, if_true, if_false]
      · rw [zb_neg (by simpa using c3)] at i3
        simp only [if_neg c3]
        by_cases c4 : tIs b L q 4 = true
        · rw [zb_pos c4] at i4
          simp only [if_pos c4]
          obtain ⟨σ', x1, x2, x3⟩ := e4_readErase hW hm hT hu hv hS h2 hP.1 hP.2.1 (by omega) heq.2.1 hq0 hq
          refine ⟨σ', ?_, x2, x3⟩
          simp (disch := first | assumption | omega) only [f_X4_readStatement, po, i1, i2, i3, i4, x1, zz_some, zz_lit, zz_num, zI_lt, zI_le, zI_eq, zI_nat, zz_b, if_pos, if_neg, if_true, if_false]
        · rw [zb_neg (by simpa using c4)] at i4
          simp only [if_neg c4]
          by_cases c5 : tIs b L q 5 = true
          · rw [zb_pos c5] at i5
            simp only [if_pos c5]
            obtain ⟨σ', x1, x2, x3⟩ := e4_doClose hW hm hT hu hS hP.1 hP.2.1 hq0 hq
            refine ⟨σ', ?_, x2, x3⟩
            simp (disch := first | assumption | omega) only [f_X4_readStatement, po, i1, i2, i3, i4, i5, x1, zz_some, zz_lit, zz_num, zI_lt, zI_le, zI_eq, zI_nat, zz_b, if_pos, if_neg, if_true, if_false]
          · rw [zb_neg (by simpa using c5)] at i5
            simp only [if_neg c5]
            have g4 := zg_pa4 (σ := σ) hW hm
            rw [hP.1] at g4
            rw [zb_dneg (show ¬ ((1, tS b L q) : Int × Int).1 = 0 by simp)]
            have fl : f_X4_fail (zH E σ) (zL E 2 0 3) (zI 1) (zI (tS b L q)) = some (zH E (zFl σ (1, tS b L q)), zI 0) := e4_fail (σ := σ) hW hm (1, tS b L q)
            refine ⟨zFl σ (1, tS b L q), ?_, zFl.g.d, zSt.fl (by simp)⟩
            simp (disch := first | assumption | omega) only [f_X4_readStatement, po, i1, i2, i3, i4, i5, g4, fl, zz_some, zz_lit, zz_num, zI_lt, zI_le, zI_eq, zI_nat, zz_b, if_pos, if_neg, if_true, if_false]
end zPar

/-! The class's calls that change. -/
theorem zCL.v {nm : Int → Int} {E : zE} {σ σ' : zW} {d t : Nat} {n : zN} {c : Int} {U : Int → zN} {h : Int → Bool} {V : Int → zN} (hC : zCL nm E σ d t n c U h V) (f : zFv σ σ') : zCL nm E σ' d t n c U h V := by
  obtain ⟨hD, hS, ⟨o, r1, r2, r3, r4, r5, r6, r7⟩, hV⟩ := hC
  have g0 : ∀ s, σ' 0 s = σ 0 s := fun s => funext fun c' => f 0 (by omega) s c'
  have g2 : ∀ c', σ' 2 0 c' = σ 2 0 c' := fun c' => f 2 (by omega) 0 c'
  refine ⟨hD.cg (by rw [g2]) (by rw [g2]) (fun c' _ => g2 c'), hS.cg (g0 d), ⟨o, by rw [g2]; exact r1, r2, r3, by rw [g2]; exact r4, r5, r6, fun k k0 k1 => ?_⟩, fun j j0 j1 => ?_⟩
  · obtain ⟨s, q1, q2⟩ := r7 k k0 k1
    exact ⟨s, by rw [g2]; exact q1, q2.cg (g0 s)⟩
  · obtain ⟨v1, v2⟩ := hV j j0 j1
    refine ⟨by rw [g2]; exact v1, fun hh => ?_⟩
    obtain ⟨s, q1, q2⟩ := v2 hh
    exact ⟨s, by rw [g2]; exact q1, q2.cg (g0 s)⟩
theorem zDs.sn {E : zE} {σ : zW} {d t : Nat} (hD : zDs E σ d t) {c s : Nat} {j : Int} (hc : c = 5 ∨ c = 8) (hj : 0 ≤ j) (h : σ 2 0 c j = (s : Int) + 1) : s ≠ d ∧ s ≠ t ∧ zU E 0 s = true := by
  have := hD.2.2.1 c hc j.toNat
  rw [show ((j.toNat : Nat) : Int) = j by omega] at this
  rcases this with h1 | ⟨s', h1, h2, h3, h4⟩
  · omega
  · have : s' = s := by omega
    subst this
    exact ⟨h3, h4, h2⟩
theorem zCL.ch {nm : Int → Int} {E : zE} {σ σ' : zW} {d t : Nat} {n n' : zN} {c : Int} {U : Int → zN} {h : Int → Bool} {V : Int → zN} (hC : zCL nm E σ d t n c U h V) (f : ∀ k' d' c', ¬ (k' = 0 ∧ d' = d) → σ' k' d' c' = σ k' d' c') (h23 : σ' 0 d 23 = σ 0 d 23) (hR : zRd (σ' 0 d) n') (hn : nW n') (h2 : n' 2 = n 2) : zCL nm E σ' d t n' c U h V := by
  obtain ⟨hD, hS, ⟨o, r1, r2, r3, r4, r5, r6, r7⟩, hV⟩ := hC
  have g2 : ∀ c', σ' 2 0 c' = σ 2 0 c' := fun c' => f 2 0 c' (by omega)
  have g0 : ∀ s, s ≠ d → σ' 0 s = σ 0 s := fun s hs => funext fun c' => f 0 s c' (by omega)
  refine ⟨hD.cg (by rw [g2]) (by rw [g2]) (fun c' _ => g2 c'), ⟨hR, hn, fun i i0 i1 => by rw [h23]; exact hS.2.2 i i0 (by omega)⟩, ⟨o, by rw [g2]; exact r1, r2, r3, by rw [g2]; exact r4, r5, r6, fun k k0 k1 => ?_⟩, fun j j0 j1 => ?_⟩
  · obtain ⟨s, q1, q2⟩ := r7 k k0 k1
    exact ⟨s, by rw [g2]; exact q1, q2.cg (g0 s (hD.sn (Or.inl rfl) (by omega) q1).1)⟩
  · obtain ⟨v1, v2⟩ := hV j j0 j1
    refine ⟨by rw [g2]; exact v1, fun hh => ?_⟩
    obtain ⟨s, q1, q2⟩ := v2 hh
    exact ⟨s, by rw [g2]; exact q1, q2.cg (g0 s (hD.sn (Or.inr rfl) j0 q1).1)⟩
theorem zCL.ch0 {nm : Int → Int} {E : zE} {σ σ' : zW} {d t : Nat} {n n' : zN} {c : Int} {U : Int → zN} {h : Int → Bool} {V : Int → zN} (hC : zCL nm E σ d t n c U h V) (f : ∀ k' d' c', ¬ (k' = 0 ∧ d' = d) → σ' k' d' c' = σ k' d' c') (g : ∀ c', c' = 0 ∨ c' = 23 → σ' 0 d c' = σ 0 d c') (hR : zRd (σ' 0 d) n') (hn : nW n') : zCL nm E σ' d t n' c U h V := by
  refine hC.ch f (g 23 (Or.inr rfl)) hR hn ?_
  have e1 : σ' 0 d 0 3 = n' 2 := hR.2.2.2.1
  have e2 : σ 0 d 0 3 = n 2 := hC.2.1.1.2.2.2.1
  rw [← e1, ← e2, g 0 (Or.inl rfl)]
theorem zFc.d {σ σ' : zW} {d : Nat} (f : ∀ k' d' c', ¬ (k' = 0 ∧ d' = d) → σ' k' d' c' = σ k' d' c') : zFc σ σ' := fun k d' c z _ => f k d' c (by omega)
section zFs
variable {nm : Int → Int} {E : zE} {σ : zW} {d t : Nat} {n : zN} {c : Int} {U : Int → zN} {h : Int → Bool} {V : Int → zN}
theorem zCL.fs (hO : zOk E) (hC : zCL nm E σ d t n c U h V) : (g_r (zH E σ) (zL E 2 0 0) 9 5 = some (zL E 0 d 0) ∧ g_ob (zH E σ) (zL E 0 d 0) 1 = some () ∧ g_r (zH E σ) (zL E 2 0 0) 9 2 = some (zL E 2 0 4) ∧ g_ob (zH E σ) (zL E 2 0 4) 2 = some () ∧ g_r (zH E σ) (zL E 2 0 0) 9 3 = some (zL E 2 0 6) ∧ g_ob (zH E σ) (zL E 2 0 6) 6 = some ()) ∧ zU E 0 d = true ∧ zU E 1 d = true ∧ zRd (σ 0 d) n ∧ nW n ∧ (σ 2 0 0 5).toNat = d := by
  have hd : (σ 2 0 0 5).toNat = d := by rw [hC.1.1.1]; exact Int.toNat_natCast d
  have m5 := zg_ma5 (σ := σ) hO.1 hO.m
  rw [hd] at m5
  have hu := hC.1.2.1.1
  have hdc := zz_dco (σ := σ) hO.1 hu
  have hh := zz_hio (σ := σ) hO.1 hO.m
  have hs := zz_sno (σ := σ) hO.1 hO.m
  exact ⟨⟨m5, by simp only [hdc], zg_ma2 hO.1 hO.m, hh.2, zg_ma3 hO.1 hO.m, hs.2.2⟩, hu, hC.1.2.1.2.1, hC.2.1.1, hC.2.1.2.1, hd⟩
theorem zGr.L {E E' : zE} (hO : zOk E) (hC : zCL nm E σ d t n c U h V) (g : zGr E E') : zL E' 2 0 0 = zL E 2 0 0 ∧ zL E' 0 d 0 = zL E 0 d 0 ∧ zL E' 2 0 4 = zL E 2 0 4 ∧ zL E' 2 0 6 = zL E 2 0 6 := ⟨g.2 2 0 0 hO.m, g.2 0 d 0 hC.1.2.1.1, g.2 2 0 4 hO.m, g.2 2 0 6 hO.m⟩

theorem c9_close (hO : zOk E) (hC : zCL nm E σ d t n c U h V) {KX : String → gH → Prop} {K : Int32 → gH → Prop} (hk : if nWc n = 0 then ∀ E' σ', zOk E' → zGr E E' → zCL nm E' σ' d t (nCl n) (kC c) (kU c U n) h V → zFc σ σ' → K (zI (nLa n)) (zH E' σ') else KX g_xISE (zH E σ)) : w_X9_close (zH E σ) (zL E 2 0 0) KX K := by
  obtain ⟨⟨m5, od, m2, oh, m3, os⟩, hu, hv, hR, hn, hd⟩ := zCL.fs hO hC
  have hW := hO.1
  have hm := hO.m
  have hN' := hn.1.r
  have p := e1_reasonAgainstClose hW hu hR hn
  have rg := nWc_rng n
  unfold w_X9_close
  refine ⟨_, m5, (), od, _, p, ?_⟩
  refine Eq.mpr (c9_all (by first | omega | (split <;> omega)) (by first | omega | (split <;> omega))) ?_
  by_cases hy : nWc n = 0
  · rw [if_pos hy] at hk
    rw [if_pos (by first | exact hy | rw [if_pos hy])]
    refine ⟨_, m2, _, m5, (), oh, c9_kp hO hC ?_⟩
    intro E' σ' a1 a2 a3 a4
    obtain ⟨⟨m5', od', m2', oh', m3', os'⟩, hu', hv', hR', _, hd'⟩ := zCL.fs a1 a3
    have hW' := a1.1
    obtain ⟨L1, L2, L3, L4⟩ := a2.L hO hC
    rw [L1] at m5' m2' m3'
    rw [L2] at m5'
    obtain ⟨σ2, b1, b2, b3, b4⟩ := e1_closeSession hW' hu' hR' hn hy
    rw [L2] at b1 od'
    exact ⟨_, m5', (), od', _, b1, hk E' σ2 a1 a2 (a3.ch0 b2 b3 b4 (nCl_W hn hy).2.1) (a4.tr (zFc.d b2))⟩
  · rw [if_neg hy] at hk
    rw [if_neg (by first | exact hy | (rw [if_neg hy]; omega))]
    exact hk
theorem c9_crash (hO : zOk E) (hC : zCL nm E σ d t n c U h V) {KX : String → gH → Prop} {K : Int32 → gH → Prop} (hk : if nOp n = true then ∀ E' σ', zOk E' → zGr E E' → zCL nm E' σ' d t (nCrs n) (kC c) (kU c U n) h V → zFc σ σ' → K (zI (zcn (fun b => decide (n (295 + b) = nLa n + 1)) 0 (n 0 - n 1).toNat)) (zH E' σ') else KX g_xISE (zH E σ)) : w_X9_crash (zH E σ) (zL E 2 0 0) KX K := by
  obtain ⟨⟨m5, od, m2, oh, m3, os⟩, hu, hv, hR, hn, hd⟩ := zCL.fs hO hC
  have hW := hO.1
  have hm := hO.m
  have hN' := hn.1.r
  have p := e1_reasonAgainstCrash hW hu hR hn
  unfold w_X9_crash
  refine ⟨_, m5, (), od, _, p, ?_⟩
  refine Eq.mpr (c9_all (by first | omega | (split <;> omega)) (by first | omega | (split <;> omega))) ?_
  by_cases hy : nOp n = true
  · rw [if_pos hy] at hk
    rw [if_pos (by first | exact hy | rw [if_pos hy])]
    refine ⟨_, m2, _, m5, (), oh, c9_kp hO hC ?_⟩
    intro E' σ' a1 a2 a3 a4
    obtain ⟨⟨m5', od', m2', oh', m3', os'⟩, hu', hv', hR', _, hd'⟩ := zCL.fs a1 a3
    have hW' := a1.1
    obtain ⟨L1, L2, L3, L4⟩ := a2.L hO hC
    rw [L1] at m5' m2' m3'
    rw [L2] at m5'
    obtain ⟨σ2, b1, b2, b3, b4⟩ := e1_loseSession hW' hu' hR' hn hy
    rw [L2] at b1 od'
    exact ⟨_, m5', (), od', _, b1, hk E' σ2 a1 a2 (a3.ch0 b2 b3 b4 (nCrs_W hn hy).1) (a4.tr (zFc.d b2))⟩
  · rw [if_neg hy] at hk
    rw [if_neg (by first | exact hy | (rw [if_neg hy]; omega))]
    exact hk
theorem c9_recover (hO : zOk E) (hC : zCL nm E σ d t n c U h V) {KX : String → gH → Prop} {K : Int32 → gH → Prop} (hk : if nWr n = 0 then ∀ E' σ', zOk E' → zGr E E' → zCL nm E' σ' d t (nRec n) (kC c) (kU c U n) h V → zFc σ σ' → K (zI (nCr n)) (zH E' σ') else KX g_xISE (zH E σ)) : w_X9_recover (zH E σ) (zL E 2 0 0) KX K := by
  obtain ⟨⟨m5, od, m2, oh, m3, os⟩, hu, hv, hR, hn, hd⟩ := zCL.fs hO hC
  have hW := hO.1
  have hm := hO.m
  have hN' := hn.1.r
  have p := e1_reasonAgainstRecover hW hu hR hn
  have rg := nWr_rng n
  unfold w_X9_recover
  refine ⟨_, m5, (), od, _, p, ?_⟩
  refine Eq.mpr (c9_all (by first | omega | (split <;> omega)) (by first | omega | (split <;> omega))) ?_
  by_cases hy : nWr n = 0
  · rw [if_pos hy] at hk
    rw [if_pos (by first | exact hy | rw [if_pos hy])]
    refine ⟨_, m2, _, m5, (), oh, c9_kp hO hC ?_⟩
    intro E' σ' a1 a2 a3 a4
    obtain ⟨⟨m5', od', m2', oh', m3', os'⟩, hu', hv', hR', _, hd'⟩ := zCL.fs a1 a3
    have hW' := a1.1
    obtain ⟨L1, L2, L3, L4⟩ := a2.L hO hC
    rw [L1] at m5' m2' m3'
    rw [L2] at m5'
    obtain ⟨σ2, b1, b2, b3, b4⟩ := e1_recoverSession hW' hu' hR' hn hy
    rw [L2] at b1 od'
    exact ⟨_, m5', (), od', _, b1, hk E' σ2 a1 a2 (a3.ch0 b2 b3 b4 (nRec_W hn hy).2.2.2.2.2.2.2) (a4.tr (zFc.d b2))⟩
  · rw [if_neg hy] at hk
    rw [if_neg (by first | exact hy | (rw [if_neg hy]; omega))]
    exact hk
theorem c9_write (hO : zOk E) (hC : zCL nm E σ d t n c U h V) {KX : String → gH → Prop} {K : Int32 → gH → Prop} {f m tag : Int} (hf0 : -2147483648 ≤ f) (hf1 : f < 2147483648) (hm0 : -2147483648 ≤ m) (hm1 : m < 2147483648) (ht0 : -2147483648 ≤ tag) (ht1 : tag < 2147483648) (hk : if 0 ≤ f ∧ f < n 2 then (if 1 ≤ m ∧ m ≤ 8 then (if 0 ≤ tag ∧ tag ≤ 999 then (if nWw n f m = 0 then ∀ E' σ', zOk E' → zGr E E' → zCL nm E' σ' d t (nWrs n f m tag) (kC c) (kU c U n) h V → zFc σ σ' → K (zI (n 6)) (zH E' σ') else KX g_xISE (zH E σ)) else KX g_xIAE (zH E σ)) else KX g_xIAE (zH E σ)) else KX g_xIOB (zH E σ)) : w_X9_write (zH E σ) (zL E 2 0 0) (zI f) (zI m) (zI tag) KX K := by
  obtain ⟨⟨m5, od, m2, oh, m3, os⟩, hu, hv, hR, hn, hd⟩ := zCL.fs hO hC
  have hW := hO.1
  have hm := hO.m
  have hN' := hn.1.r
  have ef : g_i (zH E σ) (zL E 0 d 0) 1 3 = some (zI (n 2)) := by rw [← show σ 0 d 0 3 = n 2 from hR.2.2.2.1]; exact zg_dc3 hW hu
  unfold w_X9_write
  refine ⟨_, m5, _, ef, ?_⟩
  refine Eq.mpr (c9_idx hf0 hf1 (by omega) (by omega)) ?_
  by_cases c1 : 0 ≤ f ∧ f < n 2
  · rw [if_pos c1] at hk ⊢
    refine Eq.mpr (c9_rng (lo := 1) (hi := 8) hm0 hm1 (by omega) (by omega) (by omega) (by omega)) ?_
    by_cases c2 : 1 ≤ m ∧ m ≤ 8
    · rw [if_pos c2] at hk ⊢
      refine Eq.mpr (c9_rng (lo := 0) (hi := 999) ht0 ht1 (by omega) (by omega) (by omega) (by omega)) ?_
      by_cases c3 : 0 ≤ tag ∧ tag ≤ 999
      · rw [if_pos c3] at hk ⊢
        have rg := nWw_rng n f m
        refine ⟨_, m5, (), od, _, e1_reasonAgainstWrite hW hu hR hn (by omega) (by omega) (by omega) (by omega), ?_⟩
        refine Eq.mpr (c9_all (by omega) (by omega)) ?_
        by_cases hy : nWw n f m = 0
        · rw [if_pos hy] at hk ⊢
          refine ⟨_, m2, _, m5, (), oh, c9_kp hO hC ?_⟩
          intro E' σ' a1 a2 a3 a4
          obtain ⟨⟨m5', od', m2', oh', m3', os'⟩, hu', hv', hR', _, hd'⟩ := zCL.fs a1 a3
          have hW' := a1.1
          obtain ⟨L1, L2, L3, L4⟩ := a2.L hO hC
          rw [L1] at m5' m2' m3'
          rw [L2] at m5'
          obtain ⟨σ2, b1, b2, b3, b4⟩ := e1_writeVersion hW' hu' hR' hn c1.1 c1.2 c2.1 c2.2 c3.1 c3.2 hy
          rw [L2] at b1 od'
          exact ⟨_, m5', (), od', _, b1, hk E' σ2 a1 a2 (a3.ch0 b2 b3 b4 (nWrs_W hn c1.1 c1.2 c2.1 c2.2 c3.1 c3.2 hy).2.2.2.2) (a4.tr (zFc.d b2))⟩
        · rw [if_neg hy] at hk ⊢
          exact hk
      · rw [if_neg c3] at hk ⊢
        exact hk
    · rw [if_neg c2] at hk ⊢
      exact hk
  · rw [if_neg c1] at hk ⊢
    exact hk
theorem c9_erase (hO : zOk E) (hC : zCL nm E σ d t n c U h V) {KX : String → gH → Prop} {K : Int32 → gH → Prop} {f : Int} (hf0 : -2147483648 ≤ f) (hf1 : f < 2147483648) (hk : if 0 ≤ f ∧ f < n 2 then (if nWe n f = 0 then ∀ E' σ', zOk E' → zGr E E' → zCL nm E' σ' d t (nErs n f) (kC c) (kU c U n) h V → zFc σ σ' → K (zI (nTh (nErs n f) 12)) (zH E' σ') else ∀ σ', zFv σ σ' → KX g_xISE (zH E σ')) else KX g_xIOB (zH E σ)) : w_X9_erase (zH E σ) (zL E 2 0 0) (zI f) KX K := by
  obtain ⟨⟨m5, od, m2, oh, m3, os⟩, hu, hv, hR, hn, hd⟩ := zCL.fs hO hC
  have hW := hO.1
  have hm := hO.m
  have hN' := hn.1.r
  have ef : g_i (zH E σ) (zL E 0 d 0) 1 3 = some (zI (n 2)) := by rw [← show σ 0 d 0 3 = n 2 from hR.2.2.2.1]; exact zg_dc3 hW hu
  unfold w_X9_erase
  refine ⟨_, m5, _, ef, ?_⟩
  refine Eq.mpr (c9_idx hf0 hf1 (by omega) (by omega)) ?_
  by_cases c1 : 0 ≤ f ∧ f < n 2
  · rw [if_pos c1] at hk ⊢
    have rg := nWe_rng n f
    obtain ⟨σ1, q1, q2⟩ := e1_reasonAgainstErase hW hu hv hn hR c1.1 c1.2
    refine ⟨_, m5, (), od, _, q1, ?_⟩
    refine Eq.mpr (c9_all (by omega) (by omega)) ?_
    have hF := zFv.f q2
    by_cases hy : nWe n f = 0
    · rw [if_pos hy] at hk ⊢
      have hC1 := hC.v hF
      obtain ⟨⟨m5, od, m2, oh, m3, os⟩, _⟩ := zCL.fs hO hC1
      refine ⟨_, m2, _, m5, (), oh, c9_kp hO hC1 ?_⟩
      intro E' σ' a1 a2 a3 a4
      obtain ⟨⟨m5', od', m2', oh', m3', os'⟩, hu', hv', hR', _, hd'⟩ := zCL.fs a1 a3
      have hW' := a1.1
      obtain ⟨L1, L2, L3, L4⟩ := a2.L hO hC
      rw [L1, L2] at m5'
      obtain ⟨σ2, b1, b2, b3, b4⟩ := e1_eraseFile hW' hu' hR' hn c1.1 c1.2 hy
      have hn2 := nErs_W hn c1.1 c1.2 hy
      have hC2 := a3.ch0 b2 b3 b4 hn2
      obtain ⟨⟨m52, od2, _⟩, _, hv2, hR2, _⟩ := zCL.fs a1 hC2
      obtain ⟨σ3, l1, l2, l3⟩ := e1_look hW' hu' hv2 hn2 hR2
      have p := e8_filesThere hW' hv2 l3 hn2
      have hvw := zz_vwo (σ := σ3) hW' hv2
      have g6 := zg_dc6 (σ := σ2) hW' hu'
      have ob8 : g_ob (zH E' σ2) (zL E' 1 d 0) 8 = some () := by simp only [zz_vwo (σ := σ2) hW' hv2]
      rw [L2] at b1 od' l1 g6
      rw [L1, L2] at m52
      exact ⟨_, m5', (), od', _, b1, _, m52, _, g6, _, m52, (), ob8, _, l1, (), by simp only [hvw], _, p, hk E' σ3 a1 a2 (hC2.v (zFv.f l2)) (((zFc.v hF).tr a4).tr ((zFc.d b2).tr (zFc.v (zFv.f l2))))⟩
    · rw [if_neg hy] at hk ⊢
      exact hk σ1 hF
  · rw [if_neg c1] at hk ⊢
    exact hk
theorem c9_scratch (hO : zOk E) (hC : zCL nm E σ d t n c U h V) {KX : String → gH → Prop} {K : Int32 → gH → Prop} {b : Int} (hf0 : -2147483648 ≤ b) (hf1 : b < 2147483648) (hk : if 0 ≤ b ∧ b < n 0 then ∀ E' σ', zOk E' → zGr E E' → zCL nm E' σ' d t (nScr n b) (kC c) (kU c U n) h V → zFc σ σ' → K (zI (zb (decide ((if n (7 + b) = 0 then n (103 + b) else n (199 + b)) = 0)))) (zH E' σ') else KX g_xIOB (zH E σ)) : w_X9_scratch (zH E σ) (zL E 2 0 0) (zI b) KX K := by
  obtain ⟨⟨m5, od, m2, oh, m3, os⟩, hu, hv, hR, hn, hd⟩ := zCL.fs hO hC
  have hW := hO.1
  have hm := hO.m
  have hN' := hn.1.r
  have hdc := zz_dco (σ := σ) hW hu
  have ec := e0_count hW hu hR.1.1 hn.1 hn.2.1
  unfold w_X9_scratch
  refine ⟨_, m5, zL E 0 d 1, by simp only [hdc], _, ec, ?_⟩
  refine Eq.mpr (c9_idx hf0 hf1 (by omega) (by omega)) ?_
  by_cases c1 : 0 ≤ b ∧ b < n 0
  · rw [if_pos c1] at hk ⊢
    refine ⟨_, m2, _, m5, (), oh, c9_kp hO hC ?_⟩
    intro E' σ' a1 a2 a3 a4
    obtain ⟨⟨m5', od', m2', oh', m3', os'⟩, hu', hv', hR', _, hd'⟩ := zCL.fs a1 a3
    have hW' := a1.1
    obtain ⟨L1, L2, L3, L4⟩ := a2.L hO hC
    rw [L1] at m5' m2' m3'
    rw [L2] at m5'
    obtain ⟨σ2, b1, b2, b3, b4⟩ := e0_damage hW' hu' hR' hn (b := b) (by omega) (by omega)
    have hdc' := zz_dco (σ := σ') hW' hu'
    have hbl' := zz_blo (σ := σ') hW' hu'
    refine ⟨_, m5', zL E' 0 d 1, by rw [← L2]; simp only [hdc'], (), by simp only [hbl'], _, b1, _, g_zb _, hk E' σ2 a1 a2 (a3.ch0 b2 b3 b4 (nScr_W hn (by omega) (by omega))) (a4.tr (zFc.d b2))⟩
  · rw [if_neg c1] at hk ⊢
    exact hk
theorem nZu5_W {n : zN} (hn : nW n) (w : Bool) : nW (zu n 5 (zb w)) := by
  obtain ⟨hN, hB, hV, hS⟩ := hn
  have h7 : ∀ i : Int, i ≠ 5 → zu n 5 (zb w) i = n i := fun i hi => by unfold zu; rw [if_neg hi]
  refine ⟨?_, nWb_ag (fun i h1 h2 => h7 i (by omega)) (h7 0 (by omega)) (h7 1 (by omega)) (by rw [h7 3 (by omega)]; exact Int.le_refl _) (h7 4 (by omega)) (by rw [h7 6 (by omega)]; exact Int.le_refl _) hB, nWv_cg (fun i h1 => h7 i (by omega)) (h7 2 (by omega)) (h7 3 (by omega)) (by rw [h7 4 (by omega)]; exact Int.le_refl _) (h7 6 (by omega)) hV, nWs_cg (fun i h1 => h7 i (by omega)) (h7 2 (by omega)) (h7 3 (by omega)) (by rw [h7 4 (by omega)]; exact Int.le_refl _) (by rw [h7 6 (by omega)]; exact Int.le_refl _) hS⟩
  unfold nWn at hN ⊢
  rw [h7 0 (by omega), h7 1 (by omega), h7 2 (by omega), h7 3 (by omega), h7 4 (by omega), h7 6 (by omega)]
  refine ⟨hN.1, hN.2.1, hN.2.2.1, hN.2.2.2.1, hN.2.2.2.2.1, ?_, hN.2.2.2.2.2.2⟩
  unfold zu
  rw [if_pos rfl]
  cases w
  · exact Or.inl rfl
  · exact Or.inr rfl
theorem nX_cgA {n n' : zN} {s f : Int} (h : ∀ w, 0 ≤ w → nS n' s w = nS n s w) : nX n' s f = nX n s f := by
  have hE : nEn n' s f = nEn n s f := by
    unfold nEn
    rw [h 2 (by omega)]
    exact zfs_congr _ _ (fun k h0 h1 => by rw [h _ (by omega)])
  have hr := nEn_rng n s f
  unfold nX
  rw [hE]
  by_cases h3 : nEn n s f = -1
  · rw [if_pos h3, if_pos h3]
  · rw [if_neg h3, if_neg h3, h _ (by omega)]
theorem zRd_5 {ρ ρ' : Nat → Int → Int} {n : zN} {x : Int} (hR : zRd ρ n) (h : ∀ c, c ≠ 0 → ρ' c = ρ c) (h3 : ρ' 0 3 = ρ 0 3) (h5 : ρ' 0 5 = x) : zRd ρ' (zu n 5 x) := by
  have h7 : ∀ i : Int, i ≠ 5 → zu n 5 x i = n i := fun i hi => by unfold zu; rw [if_neg hi]
  have q7 : ∀ (b : Int), 0 ≤ b → zu n 5 x (7 + b) = n (7 + b) := fun b hb => h7 _ (by omega)
  have hV : ∀ v w : Int, 0 ≤ v → 0 ≤ w → nV (zu n 5 x) v w = nV n v w := fun v w h1 h2 => by unfold nV; exact h7 _ (by omega)
  have hS : ∀ v w : Int, 0 ≤ v → 0 ≤ w → nS (zu n 5 x) v w = nS n v w := fun v w h1 h2 => by unfold nS; exact h7 _ (by omega)
  obtain ⟨⟨⟨k1, k2, k3, k4, k5, k6, k7, k8, k9, k10⟩, b2⟩, ⟨v1, v2, v3, v4, v5, v6⟩, ⟨s1, s2, s3, s4, s5, s6, s7, s8⟩, f1, f2⟩ := hR
  refine ⟨⟨⟨?_, ?_, ?_, ?_, ?_, ?_, ?_, ?_, ?_, ?_⟩, ?_⟩, ⟨?_, ?_, ?_, ?_, ?_, ?_⟩, ⟨?_, ?_, ?_, ?_, ?_, ?_, ?_, ?_⟩, ?_, ?_⟩
  · rw [h 1 (by omega), h7 0 (by omega)]; exact k1
  · rw [h 1 (by omega), h7 0 (by omega), h7 1 (by omega)]; exact k2
  · rw [h 1 (by omega), h7 4 (by omega)]; exact k3
  · intro b b0 b1; rw [h 2 (by omega), h7 _ (by omega)]; exact k4 b b0 b1
  · intro b b0 b1; rw [h 3 (by omega), h7 _ (by omega)]; exact k5 b b0 b1
  · intro b b0 b1; rw [h 4 (by omega), h7 _ (by omega)]; exact k6 b b0 b1
  · intro b b0 b1; rw [h 5 (by omega), h7 _ (by omega)]; exact k7 b b0 b1
  · intro b b0 b1; rw [h 6 (by omega), h7 _ (by omega)]; exact k8 b b0 b1
  · intro b b0 b1; rw [h 7 (by omega), h7 _ (by omega)]; exact k9 b b0 b1
  · intro b b0 b1; rw [h 8 (by omega), h7 _ (by omega)]; exact k10 b b0 b1
  · intro b b0 b1
    rw [h 9 (by omega), h7 4 (by omega)]
    have : nPl (zu n 5 x) b = nPl n b := by unfold nPl; rw [h7 _ (by omega)]
    rw [this]
    exact b2 b b0 b1
  · rw [h 10 (by omega), h7 6 (by omega)]; exact v1
  · intro v a0 a1; rw [h7 6 (by omega)] at a1; rw [h 11 (by omega), hV _ _ a0 (by omega)]; exact v2 v a0 a1
  · intro v a0 a1; rw [h7 6 (by omega)] at a1; rw [h 12 (by omega), hV _ _ a0 (by omega)]; exact v3 v a0 a1
  · intro v a0 a1; rw [h7 6 (by omega)] at a1; rw [h 13 (by omega), hV _ _ a0 (by omega)]; exact v4 v a0 a1
  · intro v a0 a1; rw [h7 6 (by omega)] at a1; rw [h 14 (by omega), hV _ _ a0 (by omega)]; exact v5 v a0 a1
  · intro v a0 a1; rw [h7 6 (by omega)] at a1; rw [h 15 (by omega), hV _ _ a0 (by omega)]; exact v6 v a0 a1
  · rw [h 16 (by omega), h7 3 (by omega)]; exact s1
  · intro s a0 a1; rw [h7 3 (by omega)] at a1; rw [h 17 (by omega), hS _ _ a0 (by omega)]; exact s2 s a0 a1
  · intro s a0 a1; rw [h7 3 (by omega)] at a1; rw [h 18 (by omega), hS _ _ a0 (by omega)]; exact s3 s a0 a1
  · intro s a0 a1; rw [h7 3 (by omega)] at a1; rw [h 19 (by omega), hS _ _ a0 (by omega)]; exact s4 s a0 a1
  · intro s a0 a1; rw [h7 3 (by omega)] at a1; rw [h 20 (by omega), hS _ _ a0 (by omega)]; exact s5 s a0 a1
  · intro s k a0 a1 z0 z1; rw [h7 3 (by omega)] at a1; rw [hS _ _ a0 (by omega)] at z1; rw [h 21 (by omega), hS _ _ a0 (by omega)]; exact s6 s k a0 a1 z0 z1
  · intro s k a0 a1 z0 z1; rw [h7 3 (by omega)] at a1; rw [h 22 (by omega), nX_cgA (fun w hw => hS s w a0 hw)]; exact s7 s k a0 a1 z0 z1
  · intro s a0 a1; rw [h7 3 (by omega)] at a1; rw [h 24 (by omega), nL_cg (hS s 2 a0 (by omega)) (hS s 3 a0 (by omega))]; exact s8 s a0 a1
  · rw [h3, h7 2 (by omega)]; exact f1
  · rw [h5]; unfold zu; rw [if_pos rfl]
theorem c9_setScan (hO : zOk E) (hC : zCL nm E σ d t n c U h V) {K : Int32 → gH → Prop} {w : Bool} (hk : ∀ E' σ', zOk E' → zGr E E' → zCL nm E' σ' d t (zu n 5 (zb w)) (kC c) (kU c U n) h V → zFc σ σ' → K (zI (n 5)) (zH E' σ')) : w_X9_setScan (zH E σ) (zL E 2 0 0) (zI (zb w)) K := by
  obtain ⟨⟨m5, od, m2, oh, m3, os⟩, hu, hv, hR, hn, hd⟩ := zCL.fs hO hC
  have hW := hO.1
  have hm := hO.m
  have hN' := hn.1.r
  unfold w_X9_setScan
  refine ⟨_, m2, _, m5, (), oh, c9_kp hO hC ?_⟩
  intro E' σ' a1 a2 a3 a4
  obtain ⟨⟨m5', od', m2', oh', m3', os'⟩, hu', hv', hR', _, hd'⟩ := zCL.fs a1 a3
  have hW' := a1.1
  obtain ⟨L1, L2, L3, L4⟩ := a2.L hO hC
  rw [L1] at m5' m2' m3'
  rw [L2] at m5'
  have e5 : σ' 0 d 0 5 = n 5 := hR'.2.2.2.2
  have g5 := zg_dc5 (σ := σ') hW' hu'
  rw [e5, L2] at g5
  have p5 := zp_dc5 (σ := σ') hW' hu' (zb w)
  rw [L2] at p5
  have hz : g_z (zI (n 5)) = some (zI (n 5)) := by
    rcases hn.1.2.2.2.2.2.1 with h | h <;> rw [h]
    · exact g_z0
    · exact g_z1
  refine ⟨_, m5', _, g5, _, m5', _, g_zb w, _, p5, _, hz, hk E' _ a1 a2 (a3.ch (fun k d3 c3 z => zs_ne (by omega)) (zs_ne (by omega)) (zRd_5 hR' (fun c3 z => zs_ne (by omega)) ?_ ?_) (nZu5_W hn w) ?_) (a4.tr fun k d3 c3 z y => zs_ne (by omega))⟩
  · rw [zs_at, if_neg (by omega)]
  · rw [zs_at, if_pos rfl]
  · unfold zu
    rw [if_neg (by omega)]
end zFs

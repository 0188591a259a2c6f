/-! Recovering, scratching, copying discs: the class. -/
theorem nRv_ag {n n' : zN} (hn : nW n) (h : ∀ i, i < 1255 → i ≠ 3 → n' i = n i) {v : Int} (h0 : 0 ≤ v) (h1 : v < n 6) : nRv n' v = nRv n v := by
  have hN := hn.1.r
  have hv := hn.2.2.1.2 v h0 h1
  have e : ∀ w, 0 ≤ w → w < 5 → nV n' v w = nV n v w := fun w w0 w1 => by
    have := hn.2.2.1.1
    exact h _ (by omega) (by omega)
  unfold nRv nRd
  rw [e 1 (by omega) (by omega), e 2 (by omega) (by omega)]
  refine zal_congr _ _ (fun b b0 b1 => ?_)
  have hb := hn.2.1 b (by omega) (by omega)
  have hp : nPl n' b = nPl n b := by unfold nPl; rw [h _ (by omega) (by omega)]
  have hp2 : 0 ≤ nPl n b ∧ nPl n b < 97 := by
    unfold nPl
    split <;> omega
  rw [hp, h _ (by omega) (by omega)]
theorem nRc_ag {n n' : zN} (hn : nW n) (h : ∀ i, i < 1255 → i ≠ 3 → n' i = n i) {v l : Int} (h0 : 0 ≤ v) (h1 : v < n 6) : nRc n' l v = nRc n l v := by
  have hN := hn.1.r
  have e : ∀ u w, 0 ≤ u → u < n 6 → 0 ≤ w → w < 5 → nV n' u w = nV n u w := fun u w u0 u1 w0 w1 => by
    have := hn.2.2.1.1
    exact h _ (by omega) (by omega)
  have ro : ∀ u, 0 ≤ u → u < n 6 → nRo n' u l = nRo n u l := fun u u0 u1 => by
    unfold nRo
    rw [e u 4 u0 u1 (by omega) (by omega), nRv_ag hn h u0 u1]
  unfold nRc
  rw [ro v h0 h1, h 6 (by omega) (by omega)]
  rw [zal_congr (Q := fun u => !(decide (nV n u 0 = nV n v 0) && nRo n u l)) _ _ (fun u u0 u1 => by rw [e u 0 (by omega) (by omega) (by omega) (by omega), e v 0 h0 h1 (by omega) (by omega), ro u (by omega) (by omega)])]
section zCls
variable {E : zE} {σ : zW} {d : Nat} {n : zN}
theorem e1_rec_L (hW : zWF E) (hu : zU E 0 d = true) {n0 : zN} (hn0 : nW n0) {l : Int} (hl0 : -1 ≤ l) (hl1 : l < 100) : ∀ (m fuel : Nat) (σ : zW) (n : zN) (v : Int), zRd (σ 0 d) n → nW n → nOp n = true → (∀ i, i < 1255 → i ≠ 3 → n i = n0 i) → 0 ≤ v → v + m = n0 6 → m < fuel →
    ∃ (σ' : zW) (fu : Nat), f_X1_recoverSession_L31 fuel (zH E σ) (zL E 0 d 0) (zI l) (zI v) = f_X1_recoverSession_L31 (fu + 1) (zH E σ') (zL E 0 d 0) (zI l) (zI (n0 6)) ∧ (∀ k' d' c', ¬ (k' = 0 ∧ d' = d) → σ' k' d' c' = σ k' d' c') ∧ (∀ c', c' = 0 ∨ c' = 23 → σ' 0 d c' = σ 0 d c') ∧ zRd (σ' 0 d) (nRl (nRc n0 l) (fun v => nV n0 v 0) n v m) := by
  have hN0 := hn0.1.r
  intro m
  induction m with
  | zero =>
    intro fuel σ n v hR hn hop he h0 h1 h2
    obtain ⟨f, rfl, h3⟩ := zfuel h2
    exact ⟨σ, f, by rw [show v = n0 6 by omega], fun _ _ _ _ => rfl, fun _ _ => rfl, hR⟩
  | succ m ih =>
    intro fuel σ n v hR hn hop he h0 h1 h2
    obtain ⟨f, rfl, h3⟩ := zfuel h2
    have hN := hn.1.r
    have e6 : n 6 = n0 6 := he 6 (by omega) (by omega)
    have e2 : n 2 = n0 2 := he 2 (by omega) (by omega)
    have hver := hn0.2.2.1.1
    have hvv := hn.2.2.1.2 v h0 (by omega)
    have hV0 : nV n v 0 = nV n0 v 0 := he _ (by omega) (by omega)
    have hrc := e1_recVer hW hu hR hn (x := nV n v 0) hvv.1.1 (by omega) hl0 hl1
    have hrr := nRf_rng n l (nV n v 0)
    have hri := nRf_iff (l := l) h0 (by omega : v < n 6)
    rw [nRc_ag hn0 he h0 (by omega)] at hri
    have hfo := e7_fileOf hW hu hR.2.1 hn.1 (by omega : -1 ≤ v) (by omega : v < n 6)
    rw [if_pos h0] at hfo
    have hcnt : g_i (zH E σ) (zL E 0 d 10) 7 0 = some (zI (n0 6)) := by rw [← e6]; exact e7_count hW hu hR.2.1 hn.1
    cases hp : nRc n0 l v
    · obtain ⟨σ', fu, q1, q2, q3, q4⟩ := ih f σ n (v + 1) hR hn hop he (by omega) (by omega) (by omega)
      have hne : ¬ nRf n l (nV n v 0) = v := fun z => by
        have := hri.mpr z
        rw [hp] at this
        cases this
      refine ⟨σ', fu, ?_, q2, q3, ?_⟩
      · rw [← q1]
        simp (disch := first | assumption | omega) only [f_X1_recoverSession_L31, zz_dco hW hu, zz_vso hW hu, hcnt, hfo, hrc, hne, zz_some, zz_lit, zz_num, zI_lt, zI_le, zI_eq, zI_nat, zz_b, if_pos, if_neg, if_true, if_false]
      · rw [nRl, hp, if_neg (by simp)]; exact q4
    · obtain ⟨σ1, r1, r2, r3⟩ := e5_enter (v := v) hW hu hR.2.2.1 hn.1 hn.2.2.2 hop (f := nV n v 0) hvv.1.1 hvv.1.2
      obtain ⟨l0, lst⟩ := nOp_iff.mp hop
      have hla : nLa n = n 3 - 1 := rfl
      have hent := hn.2.2.2.ent hn.1 l0 (by omega)
      have elo : ∀ i, i < 1255 → nE1 n (nV n v 0) v i = n i := fun i hi => nE1_lo l0 hent.1 hi
      obtain ⟨w1, w2, w3, w4⟩ := nE1_W hn hop (f := nV n v 0) (v := v) hvv.1.1 hvv.1.2 (by omega) (by omega) (fun _ => rfl)
      have hρ : ∀ c, ¬ (16 ≤ c ∧ c ≠ 23 ∧ c ≤ 24) → σ1 0 d c = σ 0 d c := fun c hc => r2 0 d c (by omega)
      have hR1 : zRd (σ1 0 d) (nE1 n (nV n v 0) v) := ⟨zRb_ag (fun c h1 h2 => hρ c (by omega)) (fun i _ _ _ _ hi => elo i (by omega)) hR.1, zRv_ag (fun c h1 h2 => hρ c (by omega)) (elo 6 (by omega)) (by omega) (fun i h1 h2 => elo i h2) hR.2.1, r3, by rw [hρ 0 (by omega), elo 2 (by omega)]; exact hR.2.2.2.1, by rw [hρ 0 (by omega), elo 5 (by omega)]; exact hR.2.2.2.2⟩
      obtain ⟨σ', fu, q1, q2, q3, q4⟩ := ih f σ1 (nE1 n (nV n v 0) v) (v + 1) hR1 w1 w2 (fun i hi h3 => by rw [elo i hi]; exact he i hi h3) (by omega) (by omega) (by omega)
      have heq := hri.mp hp
      refine ⟨σ', fu, ?_, fun k' d' c' hz => by rw [q2 k' d' c' hz, r2 k' d' c' (by omega)], fun c' hc' => by rw [q3 c' hc', hρ c' (by omega)], ?_⟩
      · rw [← q1]
        simp (disch := first | assumption | omega) only [f_X1_recoverSession_L31, zz_dco hW hu, zz_vso hW hu, zz_seo hW hu, hcnt, hfo, hrc, heq, r1, zz_some, zz_lit, zz_num, zI_lt, zI_le, zI_eq, zI_nat, zz_b, if_pos, if_neg, if_true, if_false]
      · rw [nRl, hp, if_pos rfl, ← hV0]; exact q4
theorem e1_recoverSession (hW : zWF E) (hu : zU E 0 d = true) (hR : zRd (σ 0 d) n) (hn : nW n) (h : nWr n = 0) : ∃ σ', f_X1_recoverSession (zH E σ) (zL E 0 d 0) = some (zH E σ', zI (nCr n)) ∧ (∀ k' d' c', ¬ (k' = 0 ∧ d' = d) → σ' k' d' c' = σ k' d' c') ∧ (∀ c', c' = 0 ∨ c' = 23 → σ' 0 d c' = σ 0 d c') ∧ zRd (σ' 0 d) (nRec n) := by
  have hN' := hn.1.r
  obtain ⟨k1, k2, k3, k4, ⟨a1, a2⟩, ⟨b1, b2, b3⟩, ⟨c1, c2, c3, c4⟩, w⟩ := nRec_W hn h
  obtain ⟨l0, lst⟩ := nLo_iff.mp k1
  have hla : nLa n = n 3 - 1 := rfl
  obtain ⟨n1, hn1⟩ : ∃ x, x = zus n (nLa n) 0 3 := ⟨_, rfl⟩
  have e1 : ∀ i, i < 1255 → n1 i = n i := fun i hi => by rw [hn1]; exact zus_lo l0 (by omega) hi
  have s1 : ∀ s w, 0 ≤ w → w < 25 → nS n1 s w = if s = nLa n ∧ w = 0 then 3 else nS n s w := fun s w w0 w1 => by rw [hn1, nS_zus (by omega) (by omega) w0 w1]
  rw [← hn1] at a1 a2 b1 b2 b3 c1 c2 c3 c4
  obtain ⟨σ1, t1⟩ : ∃ x, x = zs σ 0 d 17 (nLa n) 3 := ⟨_, rfl⟩
  have hρ1 : ∀ c, c ≠ 17 → σ1 0 d c = σ 0 d c := fun c hc => by rw [t1, zs_ne (by omega)]
  have hR1 : zRd (σ1 0 d) n1 := by
    refine ⟨zRb_ag (fun c h1 h2 => hρ1 c (by omega)) (fun i _ _ _ _ hi => e1 i (by omega)) hR.1, zRv_ag (fun c h1 h2 => hρ1 c (by omega)) (e1 6 (by omega)) (by omega) (fun i h1 h2 => e1 i h2) hR.2.1, ?_, by rw [hρ1 0 (by omega), e1 2 (by omega)]; exact hR.2.2.2.1, by rw [hρ1 0 (by omega), e1 5 (by omega)]; exact hR.2.2.2.2⟩
    obtain ⟨y1, y2, y3, y4, y5, y6, y7, y8⟩ := hR.2.2.1
    unfold zRs
    rw [e1 3 (by omega)]
    refine ⟨by rw [hρ1 16 (by omega)]; exact y1, fun s s0 s1' => ?_, fun s s0 s1' => ?_, fun s s0 s1' => ?_, fun s s0 s1' => ?_, fun s k s0 s1' k0 k1 => ?_, fun s k s0 s1' k0 k1 => ?_, fun s s0 s1' => ?_⟩
    · rw [t1, zs_at, s1 s 0 (by omega) (by omega)]
      by_cases hs : s = nLa n
      · rw [if_pos hs, if_pos ⟨hs, rfl⟩]
      · rw [if_neg hs, if_neg (by omega)]; exact y2 s s0 s1'
    · rw [hρ1 18 (by omega), s1 s 1 (by omega) (by omega), if_neg (by omega)]; exact y3 s s0 s1'
    · rw [hρ1 19 (by omega), s1 s 3 (by omega) (by omega), if_neg (by omega)]; exact y4 s s0 s1'
    · rw [hρ1 20 (by omega), s1 s 2 (by omega) (by omega), if_neg (by omega)]; exact y5 s s0 s1'
    · have he := hn.2.2.2.ent hn.1 s0 s1'
      rw [s1 s 2 (by omega) (by omega), if_neg (by omega)] at k1
      rw [hρ1 21 (by omega), s1 s _ (by omega) (by omega), if_neg (by omega)]; exact y6 s k s0 s1' k0 k1
    · have he := hn.2.2.2.ent hn.1 s0 s1'
      rw [hρ1 22 (by omega), nX_cg (n := n) (n' := n1) (s := s) (f := k) (by omega) (by rw [s1 s 2 (by omega) (by omega), if_neg (by omega)]) (fun w w0 w1 => by rw [s1 s w (by omega) w1, if_neg (by omega)])]
      exact y7 s k s0 s1' k0 k1
    · rw [hρ1 24 (by omega), nL_cg (n := n) (n' := n1) (s := s) (by rw [s1 s 2 (by omega) (by omega), if_neg (by omega)]) (by rw [s1 s 3 (by omega) (by omega), if_neg (by omega)])]
      exact y8 s s0 s1'
  obtain ⟨σ2, g1, g2, g3⟩ := e5_begin hW hu hR1.2.2.1 a1.1 a1.2.2.2 (by rw [e1 3 (by omega)]; exact k3) (x := n 4) (e1 4 (by omega)).symm
  have hρ2 : ∀ c, ¬ (16 ≤ c ∧ c ≠ 23 ∧ c ≤ 24) → σ2 0 d c = σ1 0 d c := fun c hc => g2 0 d c (by omega)
  have e2 : ∀ i, i < 1255 → i ≠ 3 → nBg n1 i = n i := fun i hi h3 => by rw [nBg_lo (by rw [e1 3 (by omega)]; omega) hi h3, e1 i hi]
  have hR2 : zRd (σ2 0 d) (nBg n1) := ⟨zRb_ag (n := n) (fun c h1 h2 => by rw [hρ2 c (by omega), hρ1 c (by omega)]) (fun i _ h3 _ _ hi => e2 i (by omega) h3) hR.1, zRv_ag (n := n) (fun c h1 h2 => by rw [hρ2 c (by omega), hρ1 c (by omega)]) (e2 6 (by omega) (by omega)) (by omega) (fun i h1 h2 => e2 i h2 (by omega)) hR.2.1, g3, by rw [hρ2 0 (by omega), hρ1 0 (by omega), e2 2 (by omega) (by omega)]; exact hR.2.2.2.1, by rw [hρ2 0 (by omega), hρ1 0 (by omega), e2 5 (by omega) (by omega)]; exact hR.2.2.2.2⟩
  obtain ⟨σ3, fu, q1, q2, q3, q4⟩ := e1_rec_L hW hu hn (l := nLa n) (by omega) (by omega) (n 6).toNat g_N σ2 (nBg n1) 0 hR2 b1 b2 e2 (by omega) (by omega) (by unfold g_N; omega)
  obtain ⟨n3, hn3⟩ : ∃ x, x = nRl (nRc n (nLa n)) (fun v => nV n v 0) (nBg n1) 0 (n 6).toNat := ⟨_, rfl⟩
  rw [← hn3] at c1 c2 c3 c4 q4
  obtain ⟨σ4, p1, p2, p3, p4⟩ := e1_closeSession hW hu q4 c1 c2
  have hrec : nRec n = nCl n3 := by unfold nRec; rw [← hn1, ← hn3]
  have hcl := nCl_W c1 c2
  have hla3 : nLa n3 = n3 3 - 1 := rfl
  have h33 : n3 3 = n 3 + 1 := by omega
  have hcl3 : nCl n3 3 = n 3 + 1 := by rw [hcl.2.2.2.2 3 (by omega) (by omega), h33]
  refine ⟨σ4, ?_, fun k' d' c' hz => by rw [p2 k' d' c' hz, q2 k' d' c' hz, g2 k' d' c' (by omega), t1, zs_ne (by omega)], fun c' hc' => by rw [p3 c' hc', q3 c' hc', hρ2 c' (by omega), hρ1 c' (by omega)], by rw [hrec]; exact p4⟩
  have h6 : f_X1_recoverSession (zH E σ) (zL E 0 d 0) = f_X1_recoverSession_L31 g_N (zH E σ2) (zL E 0 d 0) (zI (nLa n)) (zI 0) := by
    have hlat := e5_latest hW hu hR.2.2.1 hn.1
    have hnx : g_i (zH E σ1) (zL E 0 d 1) 0 2 = some (zI (n 4)) := by rw [e1_next hW hu hR1.1, e1 4 (by omega)]
    simp (disch := first | assumption | omega) only [f_X1_recoverSession, f_X5_markRecovered, zz_dco hW hu, zz_seo hW hu, hlat, zz_dr hW hu, zz_some, zz_lit, zz_num, zI_lt, zI_le, zI_eq, zI_nat, zz_b, if_pos, if_neg, if_true, if_false]
    rw [← t1]
    simp (disch := first | assumption | omega) only [zz_dco hW hu, zz_seo hW hu, hnx, g1, zz_some, zz_lit, zz_num, zI_lt, zI_le, zI_eq, zI_nat, zz_b, if_pos, if_neg, if_true, if_false]
  rw [h6, q1]
  have hc6 : g_i (zH E σ3) (zL E 0 d 10) 7 0 = some (zI (n 6)) := by
    rw [e7_count hW hu q4.2.1 c1.1]
    have := (nRl_W (P := nRc n (nLa n)) (fl := fun v => nV n v 0) (n 6).toNat (nBg n1) 0 b1 b2 (by omega) (by rw [e2 6 (by omega) (by omega)]; omega) (fun u u0 u1 _ => by
      rw [e2 6 (by omega) (by omega)] at u1
      have := hn.2.2.1.1
      exact (e2 _ (by omega) (by omega)).symm) (fun u t u0 u1 t1 hu ht => by
      rw [e2 6 (by omega) (by omega)] at t1
      exact nRc_ne u0 u1 t1 hu ht) (fun g hg => by
      rw [b3] at hg
      obtain ⟨k, k0, k1, _⟩ := nEn_iff.mp hg
      have h5 := nS_nBg (n := n1) (s := n 3) (w := 2) (by rw [e1 3 (by omega)]; omega) (by omega) (by omega) (by omega)
      rw [e1 3 (by omega), if_pos rfl, if_neg (by omega)] at h5
      omega)).2.2.2.1 6 (by omega)
    rw [← hn3, e2 6 (by omega) (by omega)] at this
    rw [this]
  have hl4 := e5_latest hW hu p4.2.2.1 hcl.2.1.1
  have hlc : nLa (nCl n3) = n 3 := by unfold nLa; omega
  have he4 := e5_entriesOf hW hu p4.2.2.1 hcl.2.1.1 (s := n 3) (by omega) (by omega)
  rw [hlc] at hl4
  rw [if_pos (by omega), hcl.2.2.1 (n 3) 2 (by omega) (by omega) (by omega), if_neg (by omega), if_neg (by omega), if_neg (by omega), c4] at he4
  simp (disch := first | assumption | omega) only [f_X1_recoverSession_L31, zz_dco hW hu, zz_vso hW hu, zz_seo hW hu, hc6, p1, hl4, he4, zz_some, zz_lit, zz_num, zI_lt, zI_le, zI_eq, zI_nat, zz_b, if_pos, if_neg, if_true, if_false]
end zCls

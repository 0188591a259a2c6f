/-! The reference: writing a version, recovering, copying rows. -/
theorem nE1_hi {n n' : zN} (h3 : n' 3 = n 3) (h : ∀ i, 1255 ≤ i → n' i = n i) (hla : 0 ≤ nLa n) (he : 0 ≤ nS n (nLa n) 2) (f v : Int) : ∀ i, 1255 ≤ i → nE1 n' f v i = nE1 n f v i := by
  intro i hi
  have hl : nLa n' = nLa n := nLa_lo h3
  have hS : ∀ w, 0 ≤ w → nS n' (nLa n) w = nS n (nLa n) w := fun w w0 => h _ (by omega)
  have hE : nEn n' (nLa n) f = nEn n (nLa n) f := nEn_cg h hla
  unfold nE1
  rw [hl, hE, hS 2 (by omega)]
  unfold zus zu
  split
  · dsimp only
    split
    · rfl
    · split
      · rfl
      · split
        · rfl
        · exact h i hi
  · dsimp only
    split
    · rfl
    · split
      · rfl
      · exact h i hi
theorem nWl_ag {kind se v : Int} : ∀ (m : Nat) (n n' : zN) (k : Int), nWn n → nWb n → n 4 + m ≤ n 0 - n 1 → nBc n m ≤ nGc n → (kind = 1 ∨ kind = 2) → 0 ≤ se → se < n 3 → -1 ≤ v → v < n 6 → (kind = 1 → 0 ≤ v) → 0 ≤ k → k + m ≤ 8 → zAg n n' → zAg (nWl kind se v n k m) (nWl kind se v n' k m) := by
  intro m
  induction m with
  | zero => intro n n' k _ _ _ _ _ _ _ _ _ _ _ _ h; exact h
  | succ m ih =>
    intro n n' k hN hB hr hc hk h0 h1 h2 h3 h4 h5 h6 h
    have hN' := hN.r
    have hb := hB (n 4) (by omega) (by omega)
    have hcc : nBc n (m + 1) = zb (decide (n (103 + n 4) = 1)) + zcn (fun b => decide (n (103 + b) = 1)) (n 4 + 1) m := rfl
    have hz := zcn_rng (fun b => decide (n (103 + b) = 1)) m (n 4 + 1)
    obtain ⟨a1, a2, a3, a4, a5⟩ := nWrB_W hN hB (kind := kind) (se := se) (v := v) (k := k) (by omega) (fun z => by rw [zb_dpos z] at hcc; omega) hk h0 h1 h2 h3 h4 (by omega) (by omega)
    have e0 := a5 0 (by omega) (by omega)
    have e1 := a5 1 (by omega) (by omega)
    have e3 := a5 3 (by omega) (by omega)
    have e6 := a5 6 (by omega) (by omega)
    have hb' : nBc (nWrB n kind se v k) m = zcn (fun b => decide (n (103 + b) = 1)) (n 4 + 1) m := by
      unfold nBc
      rw [a4]
      exact zcn_congr _ _ (fun c c0 c1 => by rw [a5 (103 + c) (by omega) (by omega)])
    exact ih _ _ (k + 1) a1 a2 (by rw [a4, e0, e1]; omega) (by rw [hb', a3]; omega) hk h0 (by omega) h2 (by omega) h4 (by omega) (by omega) (nWrB_ag h hN kind se v k)
section zMod
variable {E : zE} {σ : zW}
theorem e10_enters0 (hW : zWF E) (hm : zU E 3 0 = true) {n : zN} (hN : nWn n) (hZ : nWs n) (h12 : nOp n = false → n 3 < 12) (hN2 : nWn (nBi n)) (hZ2 : nWs (nBi n)) (hop2 : nOp (nBi n) = true) {f v : Int} (hf0 : 0 ≤ f) (hf1 : f < n 2) : f_X10_enters (zH E (zw σ n)) (zL E 3 0 0) (zI f) (zI v) = some (zH E (zw σ (nE1 (nBi n) f v))) := by
  have hN' := hN.r
  have ho := e10_isOpen (σ := zw σ n) hW hm zw_at hN hZ
  have hl := e10_latest (σ := zw σ n) hW hm zw_at
  have h2 : nBi n 2 = n 2 := nBi_lo (by omega) (by omega) (by omega)
  have hJ := e10_enters_J18 (σ := σ) hW hm hN2 hZ2 hop2 (f := f) (v := v) hf0 (by rw [h2]; exact hf1)
  unfold nBi at hJ ⊢
  cases hop : nOp n
  · rw [hop, if_neg (by simp)] at hJ
    rw [if_neg (by simp)]
    rw [hop] at ho
    have hla : nLa (nBg n) = n 3 := by unfold nLa; rw [nBg_3]; omega
    rw [hla] at hJ
    have h12' := h12 hop
    simp (disch := first | assumption | omega) only [f_X10_enters, ho, e10_begins hW hm, hJ, zz_mdo hW hm, zz_ra hW hm, zw_at, zz_some, zz_lit, zz_num, zI_lt, zI_le, zI_eq, zI_nat, zz_b, if_pos, if_neg, if_true, if_false]
  · rw [hop, if_pos rfl] at hJ
    rw [if_pos rfl]
    rw [hop] at ho
    simp (disch := first | assumption | omega) only [f_X10_enters, ho, hl, hJ, Bool.true_eq_false, zz_mdo hW hm, zz_ra hW hm, zw_at, zz_some, zz_lit, zz_num, zI_lt, zI_le, zI_eq, zI_nat, zz_b, if_pos, if_neg, if_true, if_false]
theorem nBi_6 {n : zN} (x : Int) (h3 : 0 ≤ n 3) : nBi (zu n 6 x) = zu (nBi n) 6 x := by
  have ho : nOp (zu n 6 x) = nOp n := by
    unfold nOp nLa nS
    rw [zu_ne (by omega)]
    by_cases h : 0 ≤ n 3 - 1
    · rw [zu_ne (by omega)]
    · rw [decide_eq_false h]; rfl
  unfold nBi
  rw [ho]
  split
  · rfl
  · funext i
    have e3 : zu n 6 x 3 = n 3 := zu_ne (by omega)
    have e4 : zu n 6 x 4 = n 4 := zu_ne (by omega)
    unfold nBg
    rw [e3, e4]
    by_cases h6 : i = 6
    · subst h6
      rw [if_neg (by omega), if_neg (by omega), if_neg (by omega), zu_eq rfl, zu_eq rfl]
    · rw [zu_ne h6, zu_ne h6]
theorem e10_writes (hW : zWF E) (hm : zU E 3 0 = true) {n : zN} (hn : nW n) {f m tag : Int} (hf0 : 0 ≤ f) (hf1 : f < n 2) (hm0 : 1 ≤ m) (hm1 : m ≤ 8) (ht0 : 0 ≤ tag) (ht1 : tag ≤ 999) (h : nWw n f m = 0) : f_X10_writes (zH E (zw σ n)) (zL E 3 0 0) (zI f) (zI m) (zI tag) = some (zH E (zw σ (nWrs n f m tag)), zI (n 6)) := by
  have hN' := hn.1.r
  obtain ⟨b1, b2, ⟨a1, a2, a3, a4, a5, a6⟩, w3, w4⟩ := nWrs_W hn hf0 hf1 hm0 hm1 ht0 ht1 h
  obtain ⟨hT, hroom, hsp⟩ := nWw_0 h
  have hDl := nDl_rng (nEw_rng hn f).1 (by have := (nEw_rng hn f).2; omega)
  have hver := hn.2.2.1.1
  obtain ⟨l0, lst⟩ := nOp_iff.mp b2
  have hla : nLa (nBi n) = nBi n 3 - 1 := rfl
  have hN1 := b1.1.r
  have e1 : ∀ i, i < 1255 → i ≠ 3 → nBi n i = n i := fun i hi h3 => nBi_lo (by omega) hi h3
  have hv6 : nBi n 6 = n 6 := e1 6 (by omega) (by omega)
  have hv4 : nBi n 4 = n 4 := e1 4 (by omega) (by omega)
  -- the row with one version more
  obtain ⟨na, hna⟩ : ∃ x, x = zu n 6 (n 6 + 1) := ⟨_, rfl⟩
  have ea : ∀ i, i ≠ 6 → na i = n i := fun i hi => by rw [hna]; exact zu_ne hi
  have ea6 : na 6 = n 6 + 1 := by rw [hna]; exact zu_eq rfl
  have hBa : nBi na = zu (nBi n) 6 (n 6 + 1) := by rw [hna]; exact nBi_6 _ (by omega)
  obtain ⟨nb, hnb⟩ : ∃ x, x = zu (nBi n) 6 (n 6 + 1) := ⟨_, rfl⟩
  have eb : ∀ i, i ≠ 6 → nb i = nBi n i := fun i hi => by rw [hnb]; exact zu_ne hi
  have eb6 : nb 6 = n 6 + 1 := by rw [hnb]; exact zu_eq rfl
  have hlb : nLa nb = nLa (nBi n) := nLa_lo (eb 3 (by omega))
  have hNa : nWn na := by
    unfold nWn
    rw [ea 0 (by omega), ea 1 (by omega), ea 2 (by omega), ea 3 (by omega), ea 4 (by omega), ea 5 (by omega), ea6]
    omega
  have hZa : nWs na := nWs_cg (fun i hi => ea i (by omega)) (ea 2 (by omega)) (ea 3 (by omega)) (by rw [ea 4 (by omega)]; omega) (by omega) hn.2.2.2
  have hNb : nWn nb := by
    unfold nWn
    rw [eb 0 (by omega), eb 1 (by omega), eb 2 (by omega), eb 3 (by omega), eb 4 (by omega), eb 5 (by omega), eb6]
    omega
  have hZb : nWs nb := nWs_cg (fun i hi => eb i (by omega)) (eb 2 (by omega)) (eb 3 (by omega)) (by rw [eb 4 (by omega)]; omega) (by omega) b1.2.2.2
  have hSb : nS nb (nLa nb) 0 = 0 := by rw [hlb]; exact (eb _ (by omega)).trans lst
  have hob : nOp nb = true := nOp_iff.mpr ⟨by omega, hSb⟩
  have hopa : nOp na = nOp n := by
    have := hBa
    cases h5 : nOp n
    · cases h6 : nOp na
      · rfl
      · have h7 := (nOp_iff.mp h6)
        have h8 : nLa na = nLa n := nLa_lo (ea 3 (by omega))
        rw [h8] at h7
        have h9 : nS na (nLa n) 0 = nS n (nLa n) 0 := ea _ (by omega)
        rw [h9] at h7
        rw [nOp_iff.mpr h7] at h5
        cases h5
    · have h7 := (nOp_iff.mp h5)
      have h8 : nLa na = nLa n := nLa_lo (ea 3 (by omega))
      have h9 : nS na (nLa n) 0 = nS n (nLa n) 0 := ea _ (by omega)
      exact nOp_iff.mpr ⟨by rw [h8]; exact h7.1, by rw [h8, h9]; exact h7.2⟩
  have hen := e10_enters0 (σ := σ) (n := na) hW hm hNa hZa (fun z => by rw [ea 3 (by omega)]; exact nTm_f hn hT (by rw [← hopa]; exact z)) (by rw [hBa, ← hnb]; exact hNb) (by rw [hBa, ← hnb]; exact hZb) (by rw [hBa, ← hnb]; exact hob) (f := f) (v := n 6) hf0 (by rw [ea 2 (by omega)]; exact hf1)
  rw [hBa, ← hnb] at hen
  have hentb := hZb.ent hNb (by omega : 0 ≤ nLa nb) (by unfold nLa; omega)
  obtain ⟨nc, hnc⟩ : ∃ x, x = nE1 nb f (n 6) := ⟨_, rfl⟩
  have ec : ∀ i, i < 1255 → nc i = nb i := fun i hi => by rw [hnc]; exact nE1_lo (by omega) hentb.1 hi
  rw [← hnc] at hen
  have hlc : nLa nc = nLa (nBi n) := by rw [← hlb]; exact nLa_lo (ec 3 (by omega))
  obtain ⟨nd, hnd⟩ : ∃ x, x = nAr nc (n 6) f (n 4) m tag (nLa (nBi n)) := ⟨_, rfl⟩
  have ed : ∀ i, i < 775 + 5 * n 6 ∨ 780 + 5 * n 6 ≤ i → nd i = nc i := fun i hi => by rw [hnd]; exact nAr_out (by omega) hi
  have hld : nLa nd = nLa (nBi n) := by rw [← hlc]; exact nLa_lo (ed 3 (by omega))
  obtain ⟨n2, hn2⟩ : ∃ x, x = nAdd (nBi n) f m tag := ⟨_, rfl⟩
  rw [← hn2] at a1 a2 a3 a4 a5 a6 w3
  have hag : zAg n2 nd := fun i hi => by
    rw [ed i (by omega), ec i (by omega)]
    by_cases h6 : i = 6
    · rw [h6, eb6, a6]
    · rw [eb i h6, a5 i h6 (by omega)]
  have hNd : nWn nd := by
    unfold nWn at a1 ⊢
    rw [hag 0 (by omega), hag 1 (by omega), hag 2 (by omega), hag 3 (by omega), hag 4 (by omega), hag 5 (by omega), hag 6 (by omega)]
    exact a1
  have hBd : nWb nd := nWb_ag (fun i _ hi => hag i hi) (hag 0 (by omega)) (hag 1 (by omega)) (by rw [hag 3 (by omega)]; omega) (hag 4 (by omega)) (by rw [hag 6 (by omega)]; omega) a2
  have h24 : n2 4 = n 4 := by rw [a5 4 (by omega) (by omega), hv4]
  have h23 : n2 3 = nBi n 3 := a5 3 (by omega) (by omega)
  have hbcd : nBc nd m.toNat ≤ nGc nd := by
    have hN2' := a1.r
    rw [nBc_ag (fun i _ hi => hag i (by omega)) (hag 4 (by omega)) (by omega) (by omega), nGc_ag (fun i _ hi => hag i (by omega)) (hag 0 (by omega)) (hag 1 (by omega)) a1]
    exact a4
  have hq := e10_wl (σ := σ) 1 (nLa (nBi n)) (n 6) (Or.inl rfl) l0 (by omega) (fun _ => by omega) hW hm m.toNat nd 0 hNd hBd (by rw [hag 4 (by omega), hag 0 (by omega), hag 1 (by omega)]; omega) hbcd (by rw [hag 3 (by omega)]; omega) (by rw [hag 6 (by omega)]; omega) (by omega) (by omega) (gH × Int32) (fun fuel G x => f_X10_writes_L96 fuel G (zL E 3 0 0) (zI m) (zI (n 6)) x) m (by omega) (fun f τ x hx hx0 hx1 h33 => by
    have hlt := e10_latest (σ := zw σ τ) hW hm zw_at
    have hlt2 : nLa τ = nLa (nBi n) := by rw [← hld]; exact nLa_lo h33
    rw [hlt2] at hlt
    simp (disch := first | assumption | omega) only [f_X10_writes_L96, hlt, zz_mdo hW hm, zz_ra hW hm, zw_at, zz_some, zz_lit, zz_num, zI_lt, zI_le, zI_eq, zI_nat, zz_b, if_pos, if_neg, if_true, if_false]) g_N (by unfold g_N; omega)
  obtain ⟨fu, hfu⟩ : ∃ fu, g_N - m.toNat = fu + 1 := ⟨g_N - m.toNat - 1, by unfold g_N; omega⟩
  rw [hfu] at hq
  have hfin : nWl 1 (nLa (nBi n)) (n 6) nd 0 m.toNat = nWrs n f m tag := by
    have hw := nWl_W (kind := 1) (se := nLa (nBi n)) (v := n 6) m.toNat nd 0 hNd hBd (by rw [hag 4 (by omega), hag 0 (by omega), hag 1 (by omega)]; omega) hbcd (Or.inl rfl) l0 (by rw [hag 3 (by omega)]; omega) (by omega) (by rw [hag 6 (by omega)]; omega) (fun _ => by omega) (by omega) (by omega)
    have hw2 := nWl_W (kind := 1) (se := nLa (nBi n)) (v := n 6) m.toNat n2 0 a1 a2 (by omega) a4 (Or.inl rfl) l0 (by omega) (by omega) (by omega) (fun _ => by omega) (by omega) (by omega)
    have hwa := nWl_ag (kind := 1) (se := nLa (nBi n)) (v := n 6) m.toNat n2 nd 0 a1 a2 (by omega) a4 (Or.inl rfl) l0 (by omega) (by omega) (by omega) (fun _ => by omega) (by omega) (by omega) hag
    obtain ⟨n3, hn3⟩ : ∃ x, x = nWl 1 (nLa (nBi n)) (n 6) n2 0 m.toNat := ⟨_, rfl⟩
    have hwr : nWrs n f m tag = nE1 n3 f (n 6) := by unfold nWrs; rw [← hn2, ← hn3]
    rw [← hn3] at hwa hw2
    have h33 : n3 3 = nBi n 3 := by rw [hw2.2.2.2 3 (by omega) (by omega)]; exact h23
    have hl3 : nLa n3 = nLa (nBi n) := nLa_lo h33
    have hhi : ∀ i, 1255 ≤ i → n3 i = nBi n i := fun i hi => by rw [hw2.2.2.2 i (by omega) (by omega), a5 i (by omega) (by omega)]
    have he3 : 0 ≤ nS n3 (nLa n3) 2 := by
      rw [hl3]
      have : nS n3 (nLa (nBi n)) 2 = nS (nBi n) (nLa (nBi n)) 2 := hhi _ (by omega)
      rw [this]
      exact (b1.2.2.2.ent b1.1 l0 (by omega)).1
    funext i
    rw [hwr]
    by_cases h1 : i < 775
    · rw [hwa i h1, nE1_lo (by omega) he3 (by omega)]
    · rw [hw.2.2.2 i (by omega) (by omega)]
      by_cases h2 : i < 1255
      · rw [nE1_lo (by omega) he3 h2, hw2.2.2.2 i (by omega) (by omega)]
        by_cases h5 : i < 775 + 5 * n 6 ∨ 780 + 5 * n 6 ≤ i
        · rw [ed i h5, ec i h2, eb i (by omega), a5 i (by omega) h5]
        · rw [hnd, hn2]
          unfold nAdd nAr
          rw [hv6, hv4]
          unfold zu
          by_cases q4 : i = 775 + 5 * n 6 + 4
          · rw [if_pos q4, if_pos q4]
          · rw [if_neg q4, if_neg q4]
            by_cases q3 : i = 775 + 5 * n 6 + 3
            · rw [if_pos q3, if_pos q3]
            · rw [if_neg q3, if_neg q3]
              by_cases q2 : i = 775 + 5 * n 6 + 2
              · rw [if_pos q2, if_pos q2]
              · rw [if_neg q2, if_neg q2]
                by_cases q1 : i = 775 + 5 * n 6 + 1
                · rw [if_pos q1, if_pos q1]
                · rw [if_neg q1, if_neg q1, if_pos (by omega), if_pos (by omega)]
      · rw [ed i (by omega), hnc]
        exact (nE1_hi (n := nBi n) (n' := nb) (eb 3 (by omega)) (fun j hj => eb j (by omega)) l0 (b1.2.2.2.ent b1.1 l0 (by omega)).1 f (n 6) i (by omega)).trans (nE1_hi (n := nBi n) (n' := n3) h33 hhi l0 (b1.2.2.2.ent b1.1 l0 (by omega)).1 f (n 6) i (by omega)).symm
  rw [hfin] at hq
  have hc4 : nc 4 = n 4 := by rw [ec 4 (by omega), eb 4 (by omega), hv4]
  have hA : nd = zu (zu (zu (zu (zu nc (775 + 5 * n 6) f) (775 + 5 * n 6 + 1) (n 4)) (775 + 5 * n 6 + 2) m) (775 + 5 * n 6 + 3) tag) (775 + 5 * n 6 + 4) (nLa (nBi n)) := hnd
  simp (disch := first | assumption | omega) only [f_X10_writes, zs_zw, zz_mdo hW hm, zz_ra hW hm, zw_at, zz_some, zz_lit, zz_num, zI_lt, zI_le, zI_eq, zI_nat, zz_b, if_pos, if_neg, if_true, if_false]
  rw [← hna]
  simp (disch := first | assumption | omega) only [hen, zs_zw, zz_mdo hW hm, zz_ra hW hm, zw_at, zz_some, zz_lit, zz_num, zI_lt, zI_le, zI_eq, zI_nat, zz_b, if_pos, if_neg, if_true, if_false]
  have hc4' : zu nc (775 + 5 * n 6) f 4 = n 4 := by rw [zu_ne (by omega), hc4]
  simp (disch := first | assumption | omega) only [hc4', zs_zw, zz_mdo hW hm, zz_ra hW hm, zw_at, zz_some, zz_lit, zz_num, zI_lt, zI_le, zI_eq, zI_nat, zz_b, if_pos, if_neg, if_true, if_false]
  have hlt := e10_latest (σ := zw σ (zu (zu (zu (zu nc (775 + 5 * n 6) f) (775 + 5 * n 6 + 1) (n 4)) (775 + 5 * n 6 + 2) m) (775 + 5 * n 6 + 3) tag)) hW hm zw_at
  have hlt2 : nLa (zu (zu (zu (zu nc (775 + 5 * n 6) f) (775 + 5 * n 6 + 1) (n 4)) (775 + 5 * n 6 + 2) m) (775 + 5 * n 6 + 3) tag) = nLa (nBi n) := by
    rw [← hlc]
    exact nLa_lo (by rw [zu_ne (by omega), zu_ne (by omega), zu_ne (by omega), zu_ne (by omega)])
  rw [hlt2] at hlt
  simp (disch := first | assumption | omega) only [hlt, zs_zw, zz_mdo hW hm, zz_ra hW hm, zw_at, zz_some, zz_lit, zz_num, zI_lt, zI_le, zI_eq, zI_nat, zz_b, if_pos, if_neg, if_true, if_false]
  rw [← hA]
  refine Eq.trans hq ?_
  simp (disch := first | assumption | omega) only [f_X10_writes_L96, zz_mdo hW hm, zz_ra hW hm, zw_at, zz_some, zz_lit, zz_num, zI_lt, zI_le, zI_eq, zI_nat, zz_b, if_pos, if_neg, if_true, if_false]
end zMod

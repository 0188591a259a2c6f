/-! The changes keep the row in order. -/
theorem nWw_0 {n : zN} {f m : Int} (h : nWw n f m = 0) : nTm n = false ∧ n 4 + (m + nDl (nEw n f)) ≤ n 0 - n 1 ∧ nHs n m = true := by
  unfold nWw at h
  cases h1 : nTm n
  · rw [h1, if_neg (by simp)] at h
    by_cases h2 : n 4 + (m + nDl (nEw n f)) ≤ n 0 - n 1
    · rw [if_pos h2] at h
      cases h3 : nHs n m
      · rw [h3, if_neg (by simp)] at h; omega
      · exact ⟨rfl, h2, rfl⟩
    · rw [if_neg h2] at h; omega
  · rw [h1, if_pos rfl] at h; omega
theorem nWd_0 {n : zN} {e : Int} (h : nWd n e = 0) : n 4 + nDl e ≤ n 0 - n 1 ∧ nHs n (nDl e) = true := by
  unfold nWd at h
  by_cases h2 : n 4 + nDl e ≤ n 0 - n 1
  · rw [if_pos h2] at h
    cases h3 : nHs n (nDl e)
    · rw [h3, if_neg (by simp)] at h; omega
    · exact ⟨h2, rfl⟩
  · rw [if_neg h2] at h; omega
theorem nWb_ag {n n' : zN} (h : ∀ i, 7 ≤ i → i < 775 → n' i = n i) (h0 : n' 0 = n 0) (h1 : n' 1 = n 1) (h3 : n 3 ≤ n' 3) (h4 : n' 4 = n 4) (h6 : n 6 ≤ n' 6) (hB : nWb n) : nWb n' := by
  intro b b0 b1
  obtain ⟨k1, k2, k3, k4, k5, k6⟩ := hB b b0 b1
  rw [h (7 + b) (by omega) (by omega), h (103 + b) (by omega) (by omega), h (199 + b) (by omega) (by omega), h (295 + b) (by omega) (by omega), h (391 + b) (by omega) (by omega), h (487 + b) (by omega) (by omega), h (583 + b) (by omega) (by omega), h (679 + b) (by omega) (by omega), h0, h1, h4]
  exact ⟨k1, k2, k3, ⟨k4.1, by omega⟩, ⟨k5.1, by omega⟩, k6⟩
theorem nBc_ag {n n' : zN} (h : ∀ i, 103 ≤ i → i < 199 → n' i = n i) (h4 : n' 4 = n 4) {k : Nat} (hk0 : 0 ≤ n 4) (hk : n 4 + k ≤ 96) : nBc n' k = nBc n k := by
  unfold nBc
  rw [h4]
  exact zcn_congr _ _ (fun c c0 c1 => by rw [h _ (by omega) (by omega)])
theorem nGc_ag {n n' : zN} (h : ∀ i, 7 ≤ i → i < 199 → n' i = n i) (h0 : n' 0 = n 0) (h1 : n' 1 = n 1) (hN : nWn n) : nGc n' = nGc n := by
  have hN' := hN.r
  unfold nGc
  rw [h0, h1]
  exact zcn_congr _ _ (fun c c0 c1 => by rw [h _ (by omega) (by omega), h _ (by omega) (by omega)])
theorem nAr_out {n : zN} {v f first m tag se i : Int} (hv : 0 ≤ v) (hi : i < 775 + 5 * v ∨ 780 + 5 * v ≤ i) : nAr n v f first m tag se i = n i := by
  unfold nAr
  rw [zu_ne (by omega), zu_ne (by omega), zu_ne (by omega), zu_ne (by omega), zu_ne (by omega)]
theorem nAr_V {n : zN} {v f first m tag se : Int} : nV (nAr n v f first m tag se) v 0 = f ∧ nV (nAr n v f first m tag se) v 1 = first ∧ nV (nAr n v f first m tag se) v 2 = m ∧ nV (nAr n v f first m tag se) v 3 = tag ∧ nV (nAr n v f first m tag se) v 4 = se := by
  unfold nV nAr
  refine ⟨?_, ?_, ?_, ?_, ?_⟩ <;> simp (disch := omega) only [zu_eq, zu_ne]
theorem nLa_lo {n n' : zN} (h : n' 3 = n 3) : nLa n' = nLa n := by unfold nLa; rw [h]
/-- writing a version: each stage -/
theorem nWrs_W {n : zN} (hn : nW n) {f m tag : Int} (hf0 : 0 ≤ f) (hf1 : f < n 2) (hm0 : 1 ≤ m) (hm1 : m ≤ 8) (ht0 : 0 ≤ tag) (ht1 : tag ≤ 999) (h : nWw n f m = 0) :
    nW (nBi n) ∧ nOp (nBi n) = true ∧ (nWn (nAdd (nBi n) f m tag) ∧ nWb (nAdd (nBi n) f m tag) ∧ nAdd (nBi n) f m tag 4 + m ≤ nAdd (nBi n) f m tag 0 - nAdd (nBi n) f m tag 1 ∧ nBc (nAdd (nBi n) f m tag) m.toNat ≤ nGc (nAdd (nBi n) f m tag) ∧ (∀ i, i ≠ 6 → i < 775 + 5 * n 6 ∨ 780 + 5 * n 6 ≤ i → nAdd (nBi n) f m tag i = nBi n i) ∧ nAdd (nBi n) f m tag 6 = n 6 + 1) ∧ nW (nWl 1 (nLa (nBi n)) (n 6) (nAdd (nBi n) f m tag) 0 m.toNat) ∧ nW (nWrs n f m tag) := by
  obtain ⟨hT, hroom, hsp⟩ := nWw_0 h
  have hN := hn.1.r
  obtain ⟨b1, b2⟩ := nBi_W hn hT
  have hEw := nEw_rng hn f
  have hD := nDl_rng hEw.1 (by omega)
  obtain ⟨n1, hn1⟩ : ∃ x, x = nBi n := ⟨_, rfl⟩
  have e1 : ∀ i, i < 1255 → i ≠ 3 → n1 i = n i := fun i hi h3 => by rw [hn1]; exact nBi_lo (by omega) hi h3
  rw [← hn1] at b1 b2 ⊢
  have hN1 := b1.1.r
  have hla : nLa n1 = n1 3 - 1 := rfl
  have hla0 := (nOp_iff.mp b2).1
  have hver := hn.2.2.1.1
  obtain ⟨n2, hn2⟩ : ∃ x, x = nAdd n1 f m tag := ⟨_, rfl⟩
  have hv6 : n1 6 = n 6 := e1 6 (by omega) (by omega)
  have e2 : ∀ i, i ≠ 6 → i < 775 + 5 * n 6 ∨ 780 + 5 * n 6 ≤ i → n2 i = n1 i := fun i h6 hi => by
    rw [hn2]; unfold nAdd; rw [nAr_out (by omega) (by omega), zu_ne h6]
  have e26 : n2 6 = n 6 + 1 := by rw [hn2]; unfold nAdd; rw [nAr_out (by omega) (by omega), zu_eq rfl, hv6]
  rw [← hn2]
  have a1 : nWn n2 := by
    unfold nWn
    rw [e2 0 (by omega) (by omega), e2 1 (by omega) (by omega), e2 2 (by omega) (by omega), e2 3 (by omega) (by omega), e2 4 (by omega) (by omega), e2 5 (by omega) (by omega), e26]
    have := e1 4 (by omega) (by omega)
    have := e1 0 (by omega) (by omega)
    have := e1 1 (by omega) (by omega)
    omega
  have a2 : nWb n2 := nWb_ag (fun i h7 h8 => e2 i (by omega) (by omega)) (e2 0 (by omega) (by omega)) (e2 1 (by omega) (by omega)) (by rw [e2 3 (by omega) (by omega)]; omega) (e2 4 (by omega) (by omega)) (by omega) b1.2.1
  have a3 : n2 4 + m ≤ n2 0 - n2 1 := by
    rw [e2 4 (by omega) (by omega), e2 0 (by omega) (by omega), e2 1 (by omega) (by omega), e1 4 (by omega) (by omega), e1 0 (by omega) (by omega), e1 1 (by omega) (by omega)]
    omega
  have a4 : nBc n2 m.toNat ≤ nGc n2 := by
    have h5 := (nHs_iff n m).mp hsp
    have c : ∀ i, 7 ≤ i → i < 199 → n2 i = n i := fun i h7 h8 => by rw [e2 i (by omega) (by omega), e1 i (by omega) (by omega)]
    have c2 : ∀ i, i = 0 ∨ i = 1 ∨ i = 4 → n2 i = n i := fun i hi => by rw [e2 i (by omega) (by omega), e1 i (by omega) (by omega)]
    rw [nBc_ag (fun i h7 h8 => c i (by omega) h8) (c2 4 (by omega)) (by omega) (by omega), nGc_ag c (c2 0 (by omega)) (c2 1 (by omega)) hn.1]
    exact h5
  have h3 := nWl_W (kind := 1) (se := nLa n1) (v := n 6) m.toNat n2 0 a1 a2 (by omega) a4 (Or.inl rfl) hla0 (by rw [e2 3 (by omega) (by omega)]; omega) (by omega) (by omega) (fun _ => by omega) (by omega) (by omega)
  obtain ⟨n3, hn3⟩ : ∃ x, x = nWl 1 (nLa n1) (n 6) n2 0 m.toNat := ⟨_, rfl⟩
  rw [← hn3] at h3
  rw [← hn3]
  obtain ⟨c1, c2, c3, c4⟩ := h3
  have c4' : ∀ i, i ≠ 4 → i < 7 ∨ 775 ≤ i → n3 i = n2 i := fun i h4 hi => c4 i h4 (by omega)
  have d6 : n3 6 = n 6 + 1 := by rw [c4' 6 (by omega) (by omega), e26]
  have d3 : n3 3 = n1 3 := by rw [c4' 3 (by omega) (by omega), e2 3 (by omega) (by omega)]
  have d2 : n3 2 = n1 2 := by rw [c4' 2 (by omega) (by omega), e2 2 (by omega) (by omega)]
  have d4 : n3 4 = n1 4 + m := by rw [c3, e2 4 (by omega) (by omega)]; omega
  have dS : ∀ i, 1255 ≤ i → n3 i = n1 i := fun i hi => by rw [c4' i (by omega) (by omega), e2 i (by omega) (by omega)]
  have dSs : ∀ s w, 0 ≤ s → 0 ≤ w → nS n3 s w = nS n1 s w := fun s w s0 w0 => dS _ (by omega)
  have dV : ∀ v w, 0 ≤ v → v < n 6 → 0 ≤ w → w < 5 → nV n3 v w = nV n1 v w := fun v w v0 v1 w0 w1 => by
    unfold nV
    rw [c4' _ (by omega) (by omega), e2 _ (by omega) (by omega)]
  have dVn : nV n3 (n 6) 0 = f ∧ nV n3 (n 6) 1 = n1 4 ∧ nV n3 (n 6) 2 = m ∧ nV n3 (n 6) 3 = tag ∧ nV n3 (n 6) 4 = nLa n1 := by
    have h5 : ∀ w, 0 ≤ w → w < 5 → nV n3 (n 6) w = nV n2 (n 6) w := fun w w0 w1 => c4' _ (by omega) (by omega)
    have h6 := nAr_V (n := zu n1 6 (n1 6 + 1)) (v := n1 6) (f := f) (first := n1 4) (m := m) (tag := tag) (se := nLa n1)
    have h7 : n2 = nAr (zu n1 6 (n1 6 + 1)) (n1 6) f (n1 4) m tag (nLa n1) := hn2
    rw [← h7, hv6] at h6
    rw [h5 0 (by omega) (by omega), h5 1 (by omega) (by omega), h5 2 (by omega) (by omega), h5 3 (by omega) (by omega), h5 4 (by omega) (by omega)]
    exact h6
  have w3 : nW n3 := by
    refine ⟨c1, c2, ⟨by rw [d6, d4]; have := e1 4 (by omega) (by omega); omega, fun v v0 v1 => ?_⟩, nWs_cg dS d2 d3 (by omega) (by omega) b1.2.2.2⟩
    rw [d6] at v1
    rw [d2, d3, d4]
    by_cases hv : v = n 6
    · subst hv
      rw [dVn.1, dVn.2.1, dVn.2.2.1, dVn.2.2.2.1, dVn.2.2.2.2]
      have := e1 2 (by omega) (by omega)
      refine ⟨by omega, by omega, by omega, by omega, by omega, by omega, fun s k s0 s1 k0 k1 k2 => ?_⟩
      rw [dSs s 2 s0 (by omega)] at k1
      rw [dSs s _ s0 (by omega)] at k2
      have := ((b1.2.2.2 s s0 s1).2.2.2.2.2.2 k k0 k1).2
      omega
    · obtain ⟨x1, x2, x3, x4, x5, x6, x7⟩ := b1.2.2.1.2 v v0 (by omega)
      rw [dV v 0 v0 (by omega) (by omega) (by omega), dV v 1 v0 (by omega) (by omega) (by omega), dV v 2 v0 (by omega) (by omega) (by omega), dV v 3 v0 (by omega) (by omega) (by omega), dV v 4 v0 (by omega) (by omega) (by omega)]
      refine ⟨x1, x2, x3, by omega, x5, x6, fun s k s0 s1 k0 k1 k2 => ?_⟩
      rw [dSs s 2 s0 (by omega)] at k1
      rw [dSs s _ s0 (by omega)] at k2
      rw [dSs s _ s0 (by omega)]
      exact x7 s k s0 s1 k0 k1 k2
  have o3 : nOp n3 = true := by
    rw [nOp_iff] at b2 ⊢
    rw [nLa_lo d3, dSs _ 0 b2.1 (by omega)]
    exact b2
  refine ⟨b1, b2, ⟨a1, a2, a3, a4, e2, e26⟩, w3, ?_⟩
  have h9 := nE1_W w3 o3 (f := f) (v := n 6) hf0 (by rw [d2]; have := e1 2 (by omega) (by omega); omega) (by omega) (by omega) (fun _ => dVn.1)
  have h10 : nWrs n f m tag = nE1 n3 f (n 6) := by unfold nWrs; rw [← hn1, ← hn2, ← hn3]
  rw [h10]
  exact h9.1
theorem nWe_0 {n : zN} {f : Int} (h : nWe n f = 0) : nFv n f 12 ≠ -1 ∧ nTm n = false := by
  unfold nWe at h
  by_cases h1 : nFv n f 12 = -1
  · rw [if_pos h1] at h; omega
  · rw [if_neg h1] at h
    cases h2 : nTm n
    · exact ⟨h1, rfl⟩
    · rw [h2, if_pos rfl] at h; omega
theorem nErs_W {n : zN} (hn : nW n) {f : Int} (hf0 : 0 ≤ f) (hf1 : f < n 2) (h : nWe n f = 0) : nW (nErs n f) := by
  have hN := hn.1.r
  obtain ⟨b1, b2⟩ := nBi_W hn (nWe_0 h).2
  have e1 : ∀ i, i < 1255 → i ≠ 3 → nBi n i = n i := fun i hi h3 => nBi_lo (by omega) hi h3
  exact (nE1_W b1 b2 hf0 (by rw [e1 2 (by omega) (by omega)]; omega) (by omega) (by rw [e1 6 (by omega) (by omega)]; omega) (fun z => by omega)).1
theorem nWc_0 {n : zN} (h : nWc n = 0) : nOp n = true ∧ nWd n (nS n (nLa n) 2) = 0 := by
  unfold nWc at h
  cases h1 : nOp n
  · rw [h1, if_neg (by simp)] at h; omega
  · rw [h1, if_pos rfl] at h; exact ⟨rfl, h⟩
/-- the same versions, sessions' entries no more than before -/
theorem nWv_cg2 {n n' : zN} (h : ∀ i, 775 ≤ i → i < 1255 → n' i = n i) (h2 : n' 2 = n 2) (h3 : n' 3 = n 3) (h4 : n 4 ≤ n' 4) (h6 : n' 6 = n 6) (h60 : n 6 ≤ 96) (hS : ∀ s k, 0 ≤ s → s < n 3 → 0 ≤ k → k < nS n' s 2 → k < nS n s 2 ∧ nS n' s (5 + 2 * k) = nS n s (5 + 2 * k) ∧ nS n' s (6 + 2 * k) = nS n s (6 + 2 * k)) (hV : nWv n) : nWv n' := by
  refine ⟨by have := hV.1; omega, fun v v0 v1 => ?_⟩
  rw [h6] at v1
  obtain ⟨a1, a2, a3, a4, a5, a6, a7⟩ := hV.2 v v0 v1
  have e : ∀ w, 0 ≤ w → w < 5 → nV n' v w = nV n v w := fun w hw hw2 => h _ (by omega) (by omega)
  rw [e 0 (by omega) (by omega), e 1 (by omega) (by omega), e 2 (by omega) (by omega), e 3 (by omega) (by omega), e 4 (by omega) (by omega), h2, h3]
  refine ⟨a1, a2, a3, by omega, a5, a6, fun s k s0 s1 k0 k1 k2 => ?_⟩
  have h7 := hS s k s0 s1 k0 k1
  rw [h7.2.2] at k2
  rw [h7.2.1]
  exact a7 s k s0 s1 k0 h7.1 k2
theorem nCl_W {n : zN} (hn : nW n) (h : nWc n = 0) : (nWn (nCl0 n) ∧ nWb (nCl0 n) ∧ (∀ i, i < 1255 → nCl0 n i = n i) ∧ nBc n (nDl (nS n (nLa n) 2)).toNat ≤ nGc n ∧ n 4 + nDl (nS n (nLa n) 2) ≤ n 0 - n 1 ∧ (1 ≤ nDl (nS n (nLa n) 2) ∧ nDl (nS n (nLa n) 2) ≤ 3)) ∧ nW (nCl n) ∧ (∀ s w, 0 ≤ s → 0 ≤ w → w < 25 → nS (nCl n) s w = if s = nLa n ∧ w = 0 then 1 else if s = nLa n ∧ w = 4 then nCb n (nLa n) + 1 else if s = nLa n ∧ w = 3 then n 4 + 1 else nS n s w) ∧ (∀ i, i < 1255 → nCl n i = nWl 2 (nLa n) (-1) (nCl0 n) 0 (nDl (nS n (nLa n) 2)).toNat i) ∧ (∀ i, i ≠ 4 → i < 7 ∨ (775 ≤ i ∧ i < 1255) → nCl n i = n i) := by
  have hN := hn.1.r
  obtain ⟨hop, hd⟩ := nWc_0 h
  obtain ⟨hroom, hsp⟩ := nWd_0 hd
  obtain ⟨h3, hst⟩ := nOp_iff.mp hop
  have hla : nLa n = n 3 - 1 := rfl
  have hent := hn.2.2.2.ent hn.1 h3 (by omega : nLa n < n 3)
  have hD := nDl_10 hent.1 (by omega)
  obtain ⟨D, hDe⟩ : ∃ D, D = nDl (nS n (nLa n) 2) := ⟨_, rfl⟩
  rw [← hDe] at hD hroom hsp ⊢
  have e0 : ∀ i, i < 1255 → nCl0 n i = n i := fun i hi => by unfold nCl0; rw [zus_lo h3 (by omega) hi, zus_lo h3 (by omega) hi]
  have a1 : nWn (nCl0 n) := by
    unfold nWn
    rw [e0 0 (by omega), e0 1 (by omega), e0 2 (by omega), e0 3 (by omega), e0 4 (by omega), e0 5 (by omega), e0 6 (by omega)]
    exact hn.1
  have a2 : nWb (nCl0 n) := nWb_ag (fun i _ hi => e0 i (by omega)) (e0 0 (by omega)) (e0 1 (by omega)) (by rw [e0 3 (by omega)]; omega) (e0 4 (by omega)) (by rw [e0 6 (by omega)]; omega) hn.2.1
  have a4 : nBc n D.toNat ≤ nGc n := (nHs_iff n D).mp hsp
  have a5 : nBc (nCl0 n) D.toNat ≤ nGc (nCl0 n) := by
    rw [nBc_ag (fun i _ hi => e0 i (by omega)) (e0 4 (by omega)) (by omega) (by omega), nGc_ag (fun i _ hi => e0 i (by omega)) (e0 0 (by omega)) (e0 1 (by omega)) hn.1]
    exact a4
  have hw := nWl_W (kind := 2) (se := nLa n) (v := -1) D.toNat (nCl0 n) 0 a1 a2 (by rw [e0 4 (by omega), e0 0 (by omega), e0 1 (by omega)]; omega) a5 (Or.inr rfl) h3 (by rw [e0 3 (by omega)]; omega) (by omega) (by rw [e0 6 (by omega)]; omega) (fun z => by omega) (by omega) (by omega)
  obtain ⟨n3, hn3⟩ : ∃ x, x = nWl 2 (nLa n) (-1) (nCl0 n) 0 D.toNat := ⟨_, rfl⟩
  rw [← hn3] at hw ⊢
  obtain ⟨c1, c2, c3, c4⟩ := hw
  have hcl : nCl n = zus n3 (nLa n) 0 1 := by unfold nCl; rw [← hDe, ← hn3]
  have cl_lo : ∀ i, i < 1255 → nCl n i = n3 i := fun i hi => by rw [hcl]; exact zus_lo h3 (by omega) hi
  have clS : ∀ s w, 0 ≤ s → 0 ≤ w → w < 25 → nS (nCl n) s w = if s = nLa n ∧ w = 0 then 1 else if s = nLa n ∧ w = 4 then nCb n (nLa n) + 1 else if s = nLa n ∧ w = 3 then n 4 + 1 else nS n s w := by
    intro s w s0 w0 w1
    rw [hcl, nS_zus (by omega) (by omega) w0 w1]
    by_cases h5 : s = nLa n ∧ w = 0
    · rw [if_pos h5, if_pos h5]
    · rw [if_neg h5, if_neg h5]
      have h6 : nS n3 s w = nS (nCl0 n) s w := c4 _ (by omega) (by omega)
      rw [h6]
      unfold nCl0
      rw [nS_zus (by omega) (by omega) w0 w1, nS_zus (by omega) (by omega) w0 w1]
  have f4 : nCl n 4 = n 4 + D := by rw [cl_lo 4 (by omega), c3, e0 4 (by omega)]; omega
  have fo : ∀ i, i ≠ 4 → i < 7 ∨ (775 ≤ i ∧ i < 1255) → nCl n i = n i := fun i hi4 hi => by rw [cl_lo i (by omega), c4 i hi4 (by omega), e0 i (by omega)]
  have eo : ∀ s w, s ≠ nLa n → 0 ≤ s → 0 ≤ w → w < 25 → nS (nCl n) s w = nS n s w := fun s w h5 s0 w0 w1 => by
    rw [clS s w s0 w0 w1, if_neg (by omega), if_neg (by omega), if_neg (by omega)]
  have el : ∀ w, 0 ≤ w → w < 25 → w ≠ 0 → w ≠ 3 → w ≠ 4 → nS (nCl n) (nLa n) w = nS n (nLa n) w := fun w w0 w1 h5 h6 h7 => by
    rw [clS _ w h3 w0 w1, if_neg (by omega), if_neg (by omega), if_neg (by omega)]
  refine ⟨⟨a1, a2, e0, a4, hroom, hD⟩, ⟨?_, ?_, ?_, fun s s0 s1 => ?_⟩, clS, cl_lo, fo⟩
  · unfold nWn at c1 ⊢
    rw [cl_lo 0 (by omega), cl_lo 1 (by omega), cl_lo 2 (by omega), cl_lo 3 (by omega), cl_lo 4 (by omega), cl_lo 5 (by omega), cl_lo 6 (by omega)]
    exact c1
  · exact nWb_ag (fun i _ hi => cl_lo i (by omega)) (cl_lo 0 (by omega)) (cl_lo 1 (by omega)) (by rw [cl_lo 3 (by omega)]; omega) (cl_lo 4 (by omega)) (by rw [cl_lo 6 (by omega)]; omega) c2
  · refine nWv_cg2 (fun i h5 h6 => fo i (by omega) (by omega)) (fo 2 (by omega) (by omega)) (fo 3 (by omega) (by omega)) (by omega) (fo 6 (by omega) (by omega)) (by omega) (fun s k s0 s1 k0 k1 => ?_) hn.2.2.1
    have he := hn.2.2.2.ent hn.1 s0 s1
    by_cases hs : s = nLa n
    · subst hs
      rw [el 2 (by omega) (by omega) (by omega) (by omega) (by omega)] at k1
      exact ⟨k1, el _ (by omega) (by omega) (by omega) (by omega) (by omega), el _ (by omega) (by omega) (by omega) (by omega) (by omega)⟩
    · rw [eo s 2 hs s0 (by omega) (by omega)] at k1
      exact ⟨k1, eo s _ hs s0 (by omega) (by omega), eo s _ hs s0 (by omega) (by omega)⟩
  · rw [fo 3 (by omega) (by omega)] at s1
    show nWs1 (nCl n) s
    by_cases hs : s = nLa n
    · subst hs
      obtain ⟨b1, b2, b3, b4, b5, b6, b7⟩ := hn.2.2.2 (nLa n) s0 s1
      have x0 : nS (nCl n) (nLa n) 0 = 1 := by rw [clS _ 0 h3 (by omega) (by omega), if_pos ⟨rfl, rfl⟩]
      have x3 : nS (nCl n) (nLa n) 3 = n 4 + 1 := by rw [clS _ 3 h3 (by omega) (by omega), if_neg (by omega), if_neg (by omega), if_pos ⟨rfl, rfl⟩]
      have x4 : nS (nCl n) (nLa n) 4 = nCb n (nLa n) + 1 := by rw [clS _ 4 h3 (by omega) (by omega), if_neg (by omega), if_pos ⟨rfl, rfl⟩]
      unfold nWs1
      rw [x0, x3, x4, el 1 (by omega) (by omega) (by omega) (by omega) (by omega), el 2 (by omega) (by omega) (by omega) (by omega) (by omega), fo 2 (by omega) (by omega), fo 3 (by omega) (by omega), f4, fo 6 (by omega) (by omega), ← hDe]
      refine ⟨by omega, by omega, b3, ⟨b4.1, ?_⟩, by omega, ?_, fun k k0 k1 => ?_⟩
      · have hcong : ∀ g, nEn (nCl n) (nLa n) g = nEn n (nLa n) g := by
          intro g
          unfold nEn
          rw [el 2 (by omega) (by omega) (by omega) (by omega) (by omega)]
          exact zfs_congr _ _ (fun k k0 k1 => by rw [el _ (by omega) (by omega) (by omega) (by omega) (by omega)])
        rw [zcn_congr (Q := fun f => decide (nEn n (nLa n) f ≠ -1)) _ _ (fun f _ _ => by rw [hcong])]
        exact b4.2
      · rw [if_pos (by omega)]
        unfold nCb
        rw [zls_congr (P := fun t => decide (nS n t 0 = 1)) (Q := fun t => decide (nS (nCl n) t 0 = 1)) _ (fun t t0 t1 => by rw [eo t 0 (by omega) t0 (by omega) (by omega)])]
      · rw [el _ (by omega) (by omega) (by omega) (by omega) (by omega), el _ (by omega) (by omega) (by omega) (by omega) (by omega)]
        exact b7 k k0 k1
    · exact nWs1_cg s0 (fun t w t0 t1 w0 w1 => eo t w (by omega) t0 w0 w1) (fo 2 (by omega) (by omega)) (by omega) (by omega) (fun z => by rw [fo 3 (by omega) (by omega)]; exact (hn.2.2.2 s s0 s1).2.1 z) (by omega) (by rw [fo 6 (by omega) (by omega)]; omega) (hn.2.2.2 s s0 s1)
/-- changing the state of the latest session, and forgetting its entries or not -/
theorem nSt_W {n n' : zN} (hn : nW n) (h0 : 0 ≤ nLa n) (hlo : ∀ i, i < 1255 → n' i = n i) (x y : Int) (hx : x = 2 ∨ x = 3) (hy : y = 0 ∨ y = nS n (nLa n) 2) (hS : ∀ s w, 0 ≤ s → 0 ≤ w → w < 25 → nS n' s w = if s = nLa n ∧ w = 2 then y else if s = nLa n ∧ w = 0 then x else nS n s w) (hd : nS n (nLa n) 3 = 0) : nW n' := by
  have hN := hn.1.r
  have hla : nLa n = n 3 - 1 := rfl
  have eo : ∀ s w, s ≠ nLa n → 0 ≤ s → 0 ≤ w → w < 25 → nS n' s w = nS n s w := fun s w h5 s0 w0 w1 => by
    rw [hS s w s0 w0 w1, if_neg (by omega), if_neg (by omega)]
  have el : ∀ w, 0 ≤ w → w < 25 → w ≠ 0 → w ≠ 2 → nS n' (nLa n) w = nS n (nLa n) w := fun w w0 w1 h5 h6 => by
    rw [hS _ w h0 w0 w1, if_neg (by omega), if_neg (by omega)]
  have x0 : nS n' (nLa n) 0 = x := by rw [hS _ 0 h0 (by omega) (by omega), if_neg (by omega), if_pos ⟨rfl, rfl⟩]
  have x2 : nS n' (nLa n) 2 = y := by rw [hS _ 2 h0 (by omega) (by omega), if_pos ⟨rfl, rfl⟩]
  refine ⟨?_, ?_, ?_, fun s s0 s1 => ?_⟩
  · unfold nWn
    rw [hlo 0 (by omega), hlo 1 (by omega), hlo 2 (by omega), hlo 3 (by omega), hlo 4 (by omega), hlo 5 (by omega), hlo 6 (by omega)]
    exact hn.1
  · exact nWb_ag (fun i _ hi => hlo i (by omega)) (hlo 0 (by omega)) (hlo 1 (by omega)) (by rw [hlo 3 (by omega)]; omega) (hlo 4 (by omega)) (by rw [hlo 6 (by omega)]; omega) hn.2.1
  · refine nWv_cg2 (fun i h5 h6 => hlo i h6) (hlo 2 (by omega)) (hlo 3 (by omega)) (by rw [hlo 4 (by omega)]; omega) (hlo 6 (by omega)) (by omega) (fun s k s0 s1 k0 k1 => ?_) hn.2.2.1
    have he := hn.2.2.2.ent hn.1 s0 s1
    by_cases hs : s = nLa n
    · subst hs
      rw [x2] at k1
      exact ⟨by omega, el _ (by omega) (by omega) (by omega) (by omega), el _ (by omega) (by omega) (by omega) (by omega)⟩
    · rw [eo s 2 hs s0 (by omega) (by omega)] at k1
      exact ⟨k1, eo s _ hs s0 (by omega) (by omega), eo s _ hs s0 (by omega) (by omega)⟩
  · rw [hlo 3 (by omega)] at s1
    show nWs1 n' s
    by_cases hs : s = nLa n
    · subst hs
      have he := hn.2.2.2.ent hn.1 s0 s1
      obtain ⟨b1, b2, b3, b4, b5, b6, b7⟩ := hn.2.2.2 (nLa n) s0 s1
      unfold nWs1
      rw [x0, x2, el 1 (by omega) (by omega) (by omega) (by omega), el 3 (by omega) (by omega) (by omega) (by omega), el 4 (by omega) (by omega) (by omega) (by omega), hd, hlo 2 (by omega), hlo 6 (by omega)]
      have hz := zcn_rng (fun f => decide (nEn n' (nLa n) f ≠ -1)) (n 2).toNat 0
      refine ⟨by omega, by omega, b3, ⟨by omega, ?_⟩, by omega, ?_, fun k k0 k1 => ?_⟩
      · rcases hy with hy | hy
        · rw [hy]; exact hz.1
        · have hcong : ∀ g, nEn n' (nLa n) g = nEn n (nLa n) g := by
            intro g
            unfold nEn
            rw [x2, hy]
            exact zfs_congr _ _ (fun k k0 k1 => by rw [el _ (by omega) (by omega) (by omega) (by omega)])
          rw [hy, zcn_congr (Q := fun f => decide (nEn n (nLa n) f ≠ -1)) _ _ (fun f _ _ => by rw [hcong])]
          exact b4.2
      · rw [if_neg (by omega)]
        rw [hd, if_neg (by omega)] at b6
        exact b6
      · rw [el _ (by omega) (by omega) (by omega) (by omega), el _ (by omega) (by omega) (by omega) (by omega)]
        exact b7 k k0 (by omega)
    · exact nWs1_cg s0 (fun t w t0 t1 w0 w1 => eo t w (by omega) t0 w0 w1) (hlo 2 (by omega)) (by omega) (by omega) (fun z => by rw [hlo 3 (by omega)]; exact (hn.2.2.2 s s0 s1).2.1 z) (by rw [hlo 4 (by omega)]; omega) (by rw [hlo 6 (by omega)]; omega) (hn.2.2.2 s s0 s1)
theorem nCrs_W {n : zN} (hn : nW n) (hop : nOp n = true) : nW (nCrs n) ∧ (∀ i, i < 1255 → nCrs n i = n i) ∧ (∀ s w, 0 ≤ s → 0 ≤ w → w < 25 → nS (nCrs n) s w = if s = nLa n ∧ w = 2 then 0 else if s = nLa n ∧ w = 0 then 2 else nS n s w) := by
  obtain ⟨h3, hst⟩ := nOp_iff.mp hop
  have hla : nLa n = n 3 - 1 := rfl
  have hlo : ∀ i, i < 1255 → nCrs n i = n i := fun i hi => by unfold nCrs; rw [zus_lo h3 (by omega) hi, zus_lo h3 (by omega) hi]
  have hS : ∀ s w, 0 ≤ s → 0 ≤ w → w < 25 → nS (nCrs n) s w = if s = nLa n ∧ w = 2 then 0 else if s = nLa n ∧ w = 0 then 2 else nS n s w := fun s w s0 w0 w1 => by
    unfold nCrs
    rw [nS_zus (by omega) (by omega) w0 w1, nS_zus (by omega) (by omega) w0 w1]
  refine ⟨nSt_W hn h3 hlo 2 0 (Or.inl rfl) (Or.inl rfl) hS ?_, hlo, hS⟩
  have b5 := (hn.2.2.2 (nLa n) h3 (by omega)).2.2.2.2.1
  by_cases h : 0 < nS n (nLa n) 3
  · have := b5.2.1.mp h; omega
  · omega
theorem nLo_iff {n : zN} : nLo n = true ↔ 0 ≤ nLa n ∧ nS n (nLa n) 0 = 2 := by
  unfold nLo
  simp
/-- the loop of a recovery: whichever versions, each file at most once -/
theorem nRl_W {P : Int → Bool} {fl : Int → Int} : ∀ (m : Nat) (n : zN) (v : Int), nW n → nOp n = true → 0 ≤ v → v + m ≤ n 6 → (∀ u, 0 ≤ u → u < n 6 → P u = true → fl u = nV n u 0) → (∀ u t, 0 ≤ u → u < t → t < n 6 → P u = true → P t = true → fl u ≠ fl t) → (∀ g, nEn n (nLa n) g ≠ -1 → ∃ u, 0 ≤ u ∧ u < v ∧ P u = true ∧ fl u = g) →
    nW (nRl P fl n v m) ∧ nOp (nRl P fl n v m) = true ∧ nLa (nRl P fl n v m) = nLa n ∧ (∀ i, i < 1255 → nRl P fl n v m i = n i) ∧ nS (nRl P fl n v m) (nLa n) 2 = nS n (nLa n) 2 + zcn P v m := by
  intro m
  induction m with
  | zero =>
    intro n v hn hop _ _ _ _ _
    exact ⟨hn, hop, rfl, fun _ _ => rfl, by simp [nRl, zcn]⟩
  | succ m ih =>
    intro n v hn hop h0 h1 hf hd hi
    have hN := hn.1.r
    obtain ⟨h3, hst⟩ := nOp_iff.mp hop
    have hla : nLa n = n 3 - 1 := rfl
    have hent := hn.2.2.2.ent hn.1 h3 (by omega : nLa n < n 3)
    have hv := (hn.2.2.1.2 v h0 (by omega)).1
    cases hp : P v
    · have e : nRl P fl n v (m + 1) = nRl P fl n (v + 1) m := by rw [nRl, hp, if_neg (by simp)]
      rw [e, zcn, hp]
      obtain ⟨a1, a2, a3, a4, a5⟩ := ih n (v + 1) hn hop (by omega) (by omega) hf hd (fun g hg => by
        obtain ⟨u, u0, u1, u2⟩ := hi g hg
        exact ⟨u, u0, by omega, u2⟩)
      exact ⟨a1, a2, a3, a4, by rw [a5]; simp [zb]⟩
    · have e : nRl P fl n v (m + 1) = nRl P fl (nE1 n (fl v) v) (v + 1) m := by rw [nRl, hp, if_pos rfl]
      have hfv := hf v h0 (by omega) hp
      have hnew : nEn n (nLa n) (fl v) = -1 := by
        by_cases h : nEn n (nLa n) (fl v) = -1
        · exact h
        · obtain ⟨u, u0, u1, u2, u3⟩ := hi _ h
          exact absurd u3 (hd u v u0 u1 (by omega) u2 hp)
      obtain ⟨b1, b2, b3, b4⟩ := nE1_W hn hop (f := fl v) (v := v) (by omega) (by omega) (by omega) (by omega) (fun _ => hfv.symm)
      have blo : ∀ i, i < 1255 → nE1 n (fl v) v i = n i := fun i hi => nE1_lo h3 hent.1 hi
      have bV : ∀ u w, 0 ≤ u → u < n 6 → 0 ≤ w → w < 5 → nV (nE1 n (fl v) v) u w = nV n u w := fun u w u0 u1 w0 w1 => blo _ (by omega)
      obtain ⟨a1, a2, a3, a4, a5⟩ := ih (nE1 n (fl v) v) (v + 1) b1 b2 (by omega) (by rw [blo 6 (by omega)]; omega) (fun u u0 u1 u2 => by rw [blo 6 (by omega)] at u1; rw [bV u 0 u0 u1 (by omega) (by omega)]; exact hf u u0 u1 u2) (fun u t u0 u1 t1 => by rw [blo 6 (by omega)] at t1; exact hd u t u0 u1 t1) (fun g hg => by
        rw [b3] at hg
        obtain ⟨k, k0, k9, hk1, hk2, eS⟩ := nE1_S (n := n) (fl v) v hent.1 (fun _ => by
          have h5 := zcn_one (P := fun g => decide (nEn n (nLa n) g ≠ -1)) (Q := fun g => decide (nEn n (nLa n) g ≠ -1) || decide (g = fl v)) (j := fl v) (n 2).toNat 0 (by omega) (by omega) (by simp [hnew]) (by simp) (fun g hg _ _ => by simp [hg])
          have h6 := (zcn_rng (fun g => decide (nEn n (nLa n) g ≠ -1) || decide (g = fl v)) (n 2).toNat 0).2
          have h7 := (hn.2.2.2 (nLa n) h3 (by omega)).2.2.2.1.2
          omega) (by omega)
        obtain ⟨j, j0, j1, j2⟩ := nEn_iff.mp hg
        rw [eS _ 2 (by omega) (by omega), if_neg (by omega), if_neg (by omega), if_pos ⟨rfl, rfl⟩] at j1
        have hkk := hk1 hnew
        rw [eS _ _ (by omega) (by omega), if_neg (by omega)] at j2
        by_cases hj : j = k
        · rw [if_pos ⟨rfl, by omega⟩] at j2
          exact ⟨v, h0, by omega, hp, j2⟩
        · rw [if_neg (by omega), if_neg (by omega)] at j2
          obtain ⟨u, u0, u1, u2⟩ := hi g (nEn_iff.mpr ⟨j, j0, by omega, j2⟩)
          exact ⟨u, u0, by omega, u2⟩)
      rw [b3] at a3 a5
      rw [e, zcn, hp]
      refine ⟨a1, a2, a3, fun i hi => by rw [a4 i hi, blo i hi], ?_⟩
      rw [a5, b4, zb_dpos hnew]
      simp only [zb, if_true]
      omega
theorem nRc_ne {n : zN} {l u t : Int} (h0 : 0 ≤ u) (h1 : u < t) (h2 : t < n 6) (hu : nRc n l u = true) (ht : nRc n l t = true) : nV n u 0 ≠ nV n t 0 := by
  unfold nRc at hu ht
  simp only [Bool.and_eq_true] at hu ht
  intro z
  have h3 := (zal_iff _ _).mp hu.2 t (by omega) (by omega)
  simp [z, ht.1] at h3
/-- a recovery: each stage -/
theorem nRec_W {n : zN} (hn : nW n) (h : nWr n = 0) : nLo n = true ∧ 1 ≤ nCr n ∧ n 3 < 12 ∧ nOp n = false ∧
    (nW (zus n (nLa n) 0 3) ∧ nOp (zus n (nLa n) 0 3) = false) ∧ (nW (nBg (zus n (nLa n) 0 3)) ∧ nOp (nBg (zus n (nLa n) 0 3)) = true ∧ nLa (nBg (zus n (nLa n) 0 3)) = n 3) ∧
    (nW (nRl (nRc n (nLa n)) (fun v => nV n v 0) (nBg (zus n (nLa n) 0 3)) 0 (n 6).toNat) ∧ nWc (nRl (nRc n (nLa n)) (fun v => nV n v 0) (nBg (zus n (nLa n) 0 3)) 0 (n 6).toNat) = 0 ∧ nLa (nRl (nRc n (nLa n)) (fun v => nV n v 0) (nBg (zus n (nLa n) 0 3)) 0 (n 6).toNat) = n 3 ∧ nS (nRl (nRc n (nLa n)) (fun v => nV n v 0) (nBg (zus n (nLa n) 0 3)) 0 (n 6).toNat) (n 3) 2 = nCr n) ∧ nW (nRec n) := by
  have hN := hn.1.r
  have hla : nLa n = n 3 - 1 := rfl
  have hcr := nCr_rng hn
  unfold nWr at h
  by_cases hc : nCr n = 0
  · rw [if_pos hc] at h; omega
  · rw [if_neg hc] at h
    have hlo : nLo n = true := by
      cases hl : nLo n
      · unfold nCr at hc; rw [hl, if_neg (by simp)] at hc; exact absurd rfl hc
      · rfl
    obtain ⟨l0, lst⟩ := nLo_iff.mp hlo
    have hop : nOp n = false := by
      cases ho : nOp n
      · rfl
      · have := (nOp_iff.mp ho).2; omega
    have hT : nTm n = false := by
      cases hT : nTm n
      · rfl
      · rw [hT, if_pos rfl] at h; omega
    rw [hT, if_neg (by simp)] at h
    obtain ⟨hroom, hsp⟩ := nWd_0 h
    have h12 := nTm_f hn hT hop
    have hcrE : nCr n = zcn (nRc n (nLa n)) 0 (n 6).toNat := by unfold nCr; rw [hlo, if_pos rfl]
    obtain ⟨b1, b2, b3, b4, b5, b6, b7⟩ := hn.2.2.2 (nLa n) l0 (by omega)
    obtain ⟨n1, hn1⟩ : ∃ x, x = zus n (nLa n) 0 3 := ⟨_, rfl⟩
    have e1 : ∀ i, i < 1255 → n1 i = n i := fun i hi => by rw [hn1]; exact zus_lo l0 (by omega) hi
    have s1 : ∀ s w, 0 ≤ w → w < 25 → nS n1 s w = if s = nLa n ∧ w = 0 then 3 else nS n s w := fun s w w0 w1 => by rw [hn1, nS_zus (by omega) (by omega) w0 w1]
    have hd0 : nS n (nLa n) 3 = 0 := by
      by_cases hd : 0 < nS n (nLa n) 3
      · have := b5.2.1.mp hd; omega
      · omega
    have w1 : nW n1 := nSt_W hn l0 e1 3 (nS n (nLa n) 2) (Or.inr rfl) (Or.inr rfl) (fun s w s0 w0 w1 => by
      rw [s1 s w w0 w1]
      by_cases h5 : s = nLa n ∧ w = 2
      · rw [if_pos h5, if_neg (by omega), h5.1, h5.2]
      · rw [if_neg h5]) hd0
    have la1 : nLa n1 = nLa n := nLa_lo (e1 3 (by omega))
    have o1 : nOp n1 = false := by
      cases ho : nOp n1
      · rfl
      · have h5 := (nOp_iff.mp ho).2
        rw [la1, s1 _ 0 (by omega) (by omega), if_pos ⟨rfl, rfl⟩] at h5
        omega
    have g := nBg_W w1 o1 (by rw [e1 3 (by omega)]; exact h12)
    rw [e1 3 (by omega)] at g
    obtain ⟨n2, hn2⟩ : ∃ x, x = nBg n1 := ⟨_, rfl⟩
    rw [← hn2] at g
    obtain ⟨g1, g2, g3⟩ := g
    have e2 : ∀ i, i < 1255 → i ≠ 3 → n2 i = n i := fun i hi h5 => by rw [hn2, nBg_lo (by rw [e1 3 (by omega)]; omega) hi h5, e1 i hi]
    have z2 : nS n2 (n 3) 2 = 0 := by
      have h5 := nS_nBg (n := n1) (s := n 3) (w := 2) (by rw [e1 3 (by omega)]; omega) (by omega) (by omega) (by omega)
      rw [← hn2, e1 3 (by omega), if_pos rfl, if_neg (by omega)] at h5
      exact h5
    have r := nRl_W (P := nRc n (nLa n)) (fl := fun v => nV n v 0) (n 6).toNat n2 0 g1 g2 (by omega) (by rw [e2 6 (by omega) (by omega)]; omega) (fun u u0 u1 _ => by
      rw [e2 6 (by omega) (by omega)] at u1
      exact (e2 _ (by omega) (by omega)).symm) (fun u t u0 u1 t1 hu ht => by
      rw [e2 6 (by omega) (by omega)] at t1
      exact nRc_ne u0 u1 t1 hu ht) (fun g hg => by
      rw [g3] at hg
      obtain ⟨k, k0, k1, _⟩ := nEn_iff.mp hg
      omega)
    rw [g3] at r
    obtain ⟨n3, hn3⟩ : ∃ x, x = nRl (nRc n (nLa n)) (fun v => nV n v 0) n2 0 (n 6).toNat := ⟨_, rfl⟩
    rw [← hn3] at r
    obtain ⟨r1, r2, r3, r4, r5⟩ := r
    rw [z2, ← hcrE] at r5
    have e3 : ∀ i, i < 1255 → i ≠ 3 → n3 i = n i := fun i hi h5 => by rw [r4 i hi, e2 i hi h5]
    have hD := nDl_rng hcr.1 hcr.2
    have w3 : nWc n3 = 0 := by
      unfold nWc
      rw [r2, if_pos rfl, r3]
      have h5 : nS n3 (n 3) 2 = nCr n := by omega
      rw [h5]
      unfold nWd
      have h6 : nHs n3 (nDl (nCr n)) = true := by
        rw [nHs_iff] at hsp ⊢
        rw [nBc_ag (fun i _ hi => e3 i (by omega) (by omega)) (e3 4 (by omega) (by omega)) (by omega) (by omega), nGc_ag (fun i _ hi => e3 i (by omega) (by omega)) (e3 0 (by omega) (by omega)) (e3 1 (by omega) (by omega)) hn.1]
        exact hsp
      rw [e3 4 (by omega) (by omega), e3 0 (by omega) (by omega), e3 1 (by omega) (by omega), if_pos hroom, h6, if_pos rfl]
    rw [← hn1, ← hn2, ← hn3]
    refine ⟨hlo, by omega, h12, hop, ⟨w1, o1⟩, ⟨g1, g2, g3⟩, ⟨r1, w3, r3, by omega⟩, ?_⟩
    have h7 : nRec n = nCl n3 := by unfold nRec; rw [← hn1, ← hn2, ← hn3]
    rw [h7]
    exact (nCl_W r1 w3).2.1

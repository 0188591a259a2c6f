/-! Writing blocks keeps the row in order. -/
def nB1 (a0 a1 a3 a4 a6 c x1 xb xs x2 x3 x4 x5 x6 : Int) : Prop :=
  (0 ≤ x1 ∧ x1 ≤ 3) ∧ (xb = 0 ∨ xb = 1) ∧ (xs = 0 ∨ xs = 1) ∧ (0 ≤ x2 ∧ x2 ≤ a3) ∧ (0 ≤ x3 ∧ x3 ≤ a6) ∧ (0 ≤ x4 ∧ x4 ≤ 8) ∧ (0 ≤ x5 ∧ x5 ≤ 96) ∧ (x6 = 0 ∨ (a0 - a1 < x6 ∧ x6 ≤ a0 ∧ c < a4)) ∧ (x1 = 1 → 1 ≤ x3) ∧ (x1 ≠ 0 → 1 ≤ x2) ∧ (x1 = 0 → x2 = 0 ∧ x3 = 0 ∧ x4 = 0 ∧ x5 = 0) ∧ (c < a0 - a1 → (x1 = 0 ↔ a4 ≤ c)) ∧ (c < a0 - a1 → (x1 = 3 ↔ x6 ≠ 0)) ∧ (a0 ≤ c → x1 = 0)
theorem nB1_t {a0 a1 a3 a4 a6 c xb xs x5 kind se v k : Int} (hk : kind = 1 ∨ kind = 2) (hse0 : 0 ≤ se) (hse1 : se < a3) (hv0 : -1 ≤ v) (hv1 : v < a6) (hkv : kind = 1 → 0 ≤ v) (hk0 : 0 ≤ k) (hk1 : k ≤ 7) (k2 : xb = 0 ∨ xb = 1) (k3 : xs = 0 ∨ xs = 1) (y5 : 0 ≤ x5 ∧ x5 ≤ 96) (ha : 0 ≤ a1) (hr : a4 < a0 - a1) (hc : c = a4 ∨ (a0 - a1 ≤ c ∧ c < a0)) : nB1 a0 a1 a3 (a4 + 1) a6 c kind xb xs (se + 1) (v + 1) (k + 1) x5 0 := by
  refine ⟨by omega, k2, k3, by omega, by omega, by omega, y5, Or.inl rfl, by omega, by omega, by omega, by omega, by omega, by omega⟩
theorem nB1_f {a0 a1 a3 a4 a6 c xb xs se t : Int} (hse0 : 0 ≤ se) (hse1 : se < a3) (k2 : xb = 0 ∨ xb = 1) (k3 : xs = 0 ∨ xs = 1) (h6 : 0 ≤ a6) (ha : 0 ≤ a1) (ha4 : 0 ≤ a4) (hr : a4 < a0 - a1) (hc : c = a4) (ht : a0 - a1 ≤ t) (ht2 : t < a0) : nB1 a0 a1 a3 (a4 + 1) a6 c 3 xb xs (se + 1) 0 0 0 (t + 1) := by
  refine ⟨by omega, k2, k3, by omega, by omega, by omega, by omega, by omega, by omega, by omega, by omega, by omega, by omega, by omega⟩
theorem nB1_h {a0 a1 a3 a4 a6 c xb xs se : Int} (hse0 : 0 ≤ se) (hse1 : se < a3) (k2 : xb = 0 ∨ xb = 1) (k3 : xs = 0 ∨ xs = 1) (h6 : 0 ≤ a6) (hr : a4 < a0 - a1) (hc : a0 - a1 ≤ c) (hc2 : c < a0) : nB1 a0 a1 a3 (a4 + 1) a6 c 3 xb xs (se + 1) 0 0 0 0 := by
  refine ⟨by omega, k2, k3, by omega, by omega, by omega, by omega, by omega, by omega, by omega, by omega, by omega, by omega, by omega⟩
theorem nB1_o {a0 a1 a3 a4 a6 c x1 xb xs x2 x3 x4 x5 x6 : Int} (h : nB1 a0 a1 a3 a4 a6 c x1 xb xs x2 x3 x4 x5 x6) (hc : c ≠ a4) : nB1 a0 a1 a3 (a4 + 1) a6 c x1 xb xs x2 x3 x4 x5 x6 := by
  obtain ⟨k1, k2, k3, k4, k5, k6, k7, k8, k9, k10, k11, k12, k13, k14⟩ := h
  refine ⟨k1, k2, k3, k4, k5, k6, k7, ?_, k9, k10, k11, ?_, k13, k14⟩
  · clear k1 k2 k3 k4 k5 k6 k7 k9 k10 k11 k12 k13 k14; omega
  · clear k1 k2 k3 k4 k5 k6 k7 k9 k10 k11 k13 k14; omega
theorem nWrB_W {n : zN} (hN : nWn n) (hB : nWb n) {kind se v k : Int} (hr : n 4 < n 0 - n 1) (hg : n (103 + n 4) = 1 → 1 ≤ nGc n) (hk : kind = 1 ∨ kind = 2) (hse0 : 0 ≤ se) (hse1 : se < n 3) (hv0 : -1 ≤ v) (hv1 : v < n 6) (hkv : kind = 1 → 0 ≤ v) (hk0 : 0 ≤ k) (hk1 : k ≤ 7) :
    nWn (nWrB n kind se v k) ∧ nWb (nWrB n kind se v k) ∧ nGc (nWrB n kind se v k) = nGc n - zb (decide (n (103 + n 4) = 1)) ∧ nWrB n kind se v k 4 = n 4 + 1 ∧ (∀ i, i ≠ 4 → i < 7 ∨ (103 ≤ i ∧ i < 295) ∨ 775 ≤ i → nWrB n kind se v k i = n i) := by
  obtain ⟨t, hit, h1, h2, h3, h4, h5, h6⟩ := nWrB_spec hN hB kind se v k hr hg
  obtain ⟨n', hn'⟩ : ∃ x, x = nWrB n kind se v k := ⟨_, rfl⟩
  rw [← hn'] at h4 h5 h6 ⊢
  have hN' := hN
  unfold nWn at hN'
  have e0 := h6 0 (by omega) (by omega)
  have e1 := h6 1 (by omega) (by omega)
  have e2 := h6 2 (by omega) (by omega)
  have e3 := h6 3 (by omega) (by omega)
  have e5 := h6 5 (by omega) (by omega)
  have e6 := h6 6 (by omega) (by omega)
  have hb := hB (n 4) (by omega) (by omega)
  have hb2 := hb.2.1
  refine ⟨?_, fun c c0 c1 => ?_, ?_, h5, h6⟩
  · unfold nWn
    rw [e0, e1, e2, e3, e5, e6, h5]
    omega
  · obtain ⟨s1, s2, s3, s4, s5, s6⟩ := h4 c c0 c1
    have e103 := h6 (103 + c) (by omega) (by omega)
    have e199 := h6 (199 + c) (by omega) (by omega)
    show nB1 (n' 0) (n' 1) (n' 3) (n' 4) (n' 6) c (n' (7 + c)) (n' (103 + c)) (n' (199 + c)) (n' (295 + c)) (n' (391 + c)) (n' (487 + c)) (n' (583 + c)) (n' (679 + c))
    rw [e103, e199, e0, e1, e3, e6, h5]
    have hbc : nB1 (n 0) (n 1) (n 3) (n 4) (n 6) c (n (7 + c)) (n (103 + c)) (n (199 + c)) (n (295 + c)) (n (391 + c)) (n (487 + c)) (n (583 + c)) (n (679 + c)) := hB c c0 c1
    obtain ⟨k1, k2, k3, k4, k5, k6, k7, k8, k9, k10, k11, k12, k13, k14⟩ := hB c c0 c1
    by_cases a1 : c = t
    · have y1 : n' (7 + c) = kind := by
        rcases s1 with z | z | z
        · exact z.1
        · exact absurd a1 z.2.1
        · exact absurd a1 z.2.1
      have y2 : n' (295 + c) = se + 1 := by
        rcases s2 with z | z
        · exact z.1
        · exact absurd a1 z.2.1
      have y3 : n' (391 + c) = v + 1 := by
        rcases s3 with z | z
        · exact z.1
        · exact absurd a1 z.2
      have y4 : n' (487 + c) = k + 1 := by
        rcases s4 with z | z
        · exact z.1
        · exact absurd a1 z.2
      have y6 : n' (679 + c) = 0 := by
        rcases s6 with z | z
        · exact absurd (a1.symm.trans z.2.1) z.2.2
        · rw [z.1]
          rcases k8 with q | q
          · exact q
          · rcases hb2 with w | w
            · have := (h1 w).1
              omega
            · have := h2 w
              omega
      have y5 : 0 ≤ n' (583 + c) ∧ n' (583 + c) ≤ 96 := by
        rcases s5 with z | z
        · omega
        · rw [z.1]; exact k7
      rw [y1, y2, y3, y4, y6]
      refine nB1_t hk hse0 hse1 hv0 hv1 hkv hk0 hk1 k2 k3 y5 (by omega) hr ?_
      rcases hb2 with w | w
      · exact Or.inl (a1.trans (h1 w).1)
      · have := h2 w
        exact Or.inr (by omega)
    · have y3 : n' (391 + c) = n (391 + c) := by
        rcases s3 with z | z
        · exact absurd z.2 a1
        · exact z.1
      have y4 : n' (487 + c) = n (487 + c) := by
        rcases s4 with z | z
        · exact absurd z.2 a1
        · exact z.1
      have y5 : n' (583 + c) = n (583 + c) := by
        rcases s5 with z | z
        · exact absurd z.2.1 a1
        · exact z.1
      rw [y3, y4, y5]
      by_cases a2 : c = n 4
      · have y2 : n' (295 + c) = se + 1 := by
          rcases s2 with z | z
          · exact z.1
          · exact absurd a2 z.2.2.1
        have z1 : n (103 + n 4) = 1 := by
          rcases hb2 with z | z
          · exact absurd (a2.trans (h1 z).1.symm) a1
          · exact z
        have h7 := h2 z1
        have y1 : n' (7 + c) = 3 := by
          rcases s1 with z | z | z
          · exact absurd z.2 a1
          · exact z.1
          · exact absurd a2 z.2.2.1
        have y6 : n' (679 + c) = t + 1 := by
          rcases s6 with z | z
          · exact z.1
          · rcases z.2 with q | q
            · exact absurd a2 q
            · exact absurd (a2.trans q.symm) a1
        have hk0' : n (7 + c) = 0 := (k12 (by omega)).mpr (by omega)
        have h11 := k11 hk0'
        rw [y1, y2, y6, h11.2.1, h11.2.2.1, h11.2.2.2]
        exact nB1_f hse0 hse1 k2 k3 (by omega) (by omega) (by omega) hr a2 h7.1 h7.2.1
      · have y6 : n' (679 + c) = n (679 + c) := by
          rcases s6 with z | z
          · exact absurd z.2.1 a2
          · exact z.1
        rw [y6]
        by_cases a3 : hit c
        · have y1 : n' (7 + c) = 3 := by
            rcases s1 with z | z | z
            · exact absurd z.2 a1
            · exact z.1
            · exact absurd a3 z.2.2.2
          have y2 : n' (295 + c) = se + 1 := by
            rcases s2 with z | z
            · exact z.1
            · exact absurd a3 z.2.2.2
          have h7 := h3 c a3
          have h11 := k11 h7.2.2.1
          have hm0 : n (679 + c) = 0 := by
            rcases k8 with q | q
            · exact q
            · omega
          have ht0 : t < n 0 := by
            rcases hb2 with z | z
            · exact absurd a3 ((h1 z).2 c)
            · exact (h2 z).2.1
          rw [y1, y2, h11.2.1, h11.2.2.1, h11.2.2.2, hm0]
          exact nB1_h hse0 hse1 k2 k3 (by omega) hr h7.1 (by omega)
        · have y1 : n' (7 + c) = n (7 + c) := by
            rcases s1 with z | z | z
            · exact absurd z.2 a1
            · rcases z.2.2 with z | z
              · exact absurd z a2
              · exact absurd z a3
            · exact z.1
          have y2 : n' (295 + c) = n (295 + c) := by
            rcases s2 with z | z
            · rcases z.2 with z | z | z
              · exact absurd z a1
              · exact absurd z a2
              · exact absurd z a3
            · exact z.1
          rw [y1, y2]
          exact nB1_o hbc a2
  · unfold nGc
    rw [e0, e1]
    rcases hb2 with z | z
    · have h7 := h1 z
      rw [zb_dneg (by omega)]
      rw [zcn_congr (Q := fun b => decide (n (7 + b) = 0) && decide (n (103 + b) = 0)) _ _ (fun c c0 c1 => by
        have e103 := h6 (103 + c) (by omega) (by omega)
        have s1 : n' (7 + c) = n (7 + c) := by
          rcases (h4 c (by omega) (by omega)).1 with q | q | q
          · omega
          · rcases q.2.2 with q | q
            · omega
            · exact absurd q (h7.2 c)
          · exact q.1
        rw [e103, s1])]
      omega
    · have h7 := h2 z
      have h8 := zcn_one (P := fun b => decide (n' (7 + b) = 0) && decide (n' (103 + b) = 0)) (Q := fun b => decide (n (7 + b) = 0) && decide (n (103 + b) = 0)) (j := t) (n 1).toNat (n 0 - n 1) (by omega) (by omega) (by
          have s1 : n' (7 + t) = kind := by
            have := (h4 t (by omega) (by omega)).1
            omega
          have s2 : n' (7 + t) ≠ 0 := by omega
          simp [s2]) (by simp [h7.2.2.1, h7.2.2.2.1]) (fun c hc c0 c1 => by
          have e103 := h6 (103 + c) (by omega) (by omega)
          show (decide (n (7 + c) = 0) && decide (n (103 + c) = 0)) = (decide (n' (7 + c) = 0) && decide (n' (103 + c) = 0))
          by_cases a3 : hit c
          · have := h3 c a3
            have s1 : n' (7 + c) = 3 := by
              rcases (h4 c (by omega) (by omega)).1 with q | q | q
              · exact absurd q.2 hc
              · exact q.1
              · exact absurd a3 q.2.2.2
            simp [s1, this.2.2.2]
          · have s1 : n' (7 + c) = n (7 + c) := by
              rcases (h4 c (by omega) (by omega)).1 with q | q | q
              · exact absurd q.2 hc
              · rcases q.2.2 with q | q
                · omega
                · exact absurd q a3
              · exact q.1
            rw [s1, e103])
      rw [zb_dpos z]
      omega
theorem nWl_W {kind se v : Int} : ∀ (m : Nat) (n : zN) (k : Int), nWn n → nWb n → n 4 + m ≤ n 0 - n 1 → nBc n m ≤ nGc n → (kind = 1 ∨ kind = 2) → 0 ≤ se → se < n 3 → -1 ≤ v → v < n 6 → (kind = 1 → 0 ≤ v) → 0 ≤ k → k + m ≤ 8 →
    nWn (nWl kind se v n k m) ∧ nWb (nWl kind se v n k m) ∧ nWl kind se v n k m 4 = n 4 + m ∧ (∀ i, i ≠ 4 → i < 7 ∨ (103 ≤ i ∧ i < 295) ∨ 775 ≤ i → nWl kind se v n k m i = n i) := by
  intro m
  induction m with
  | zero =>
    intro n k hN hB _ _ _ _ _ _ _ _ _ _
    exact ⟨hN, hB, by simp [nWl], fun i _ _ => rfl⟩
  | succ m ih =>
    intro n k hN hB hr hc hk h0 h1 h2 h3 h4 h5 h6
    have hN' := hN
    unfold nWn at hN'
    have hb := hB (n 4) (by omega) (by omega)
    have hcc : nBc n (m + 1) = zb (decide (n (103 + n 4) = 1)) + zcn (fun b => decide (n (103 + b) = 1)) (n 4 + 1) m := rfl
    have hz := zcn_rng (fun b => decide (n (103 + b) = 1)) m (n 4 + 1)
    obtain ⟨a1, a2, a3, a4, a5⟩ := nWrB_W hN hB (kind := kind) (se := se) (v := v) (k := k) (by omega) (fun z => by rw [zb_dpos z] at hcc; omega) hk h0 h1 h2 h3 h4 (by omega) (by omega)
    have e0 := a5 0 (by omega) (by omega)
    have e1 := a5 1 (by omega) (by omega)
    have e3 := a5 3 (by omega) (by omega)
    have e6 := a5 6 (by omega) (by omega)
    have hb' : nBc (nWrB n kind se v k) m = zcn (fun b => decide (n (103 + b) = 1)) (n 4 + 1) m := by
      unfold nBc
      rw [a4]
      exact zcn_congr _ _ (fun c c0 c1 => by rw [a5 (103 + c) (by omega) (by omega)])
    obtain ⟨b1, b2, b3, b4⟩ := ih (nWrB n kind se v k) (k + 1) a1 a2 (by rw [a4, e0, e1]; omega) (by rw [hb', a3]; omega) hk h0 (by omega) h2 (by omega) h4 (by omega) (by omega)
    refine ⟨b1, b2, ?_, fun i hi hi2 => ?_⟩
    · show nWl kind se v (nWrB n kind se v k) (k + 1) m 4 = _
      rw [b3, a4]
      omega
    · show nWl kind se v (nWrB n kind se v k) (k + 1) m i = _
      rw [b4 i hi hi2, a5 i hi hi2]
/-- rows that agree on what is written and read are written alike -/
def zAg (n n' : zN) : Prop := ∀ i, i < 775 → n' i = n i
theorem nLay_ag {n n' : zN} (h : zAg n n') (b kind se v k : Int) : zAg (nLay n b kind se v k) (nLay n' b kind se v k) := by
  intro i hi
  unfold nLay zu
  split
  · rfl
  · split
    · rfl
    · split
      · rfl
      · split
        · rfl
        · exact h i hi
theorem nTks_ag (se : Int) : ∀ (m : Nat) (n n' : zN) (s : Int), s + m ≤ 96 → zAg n n' → zAg (nTks n se s m).1 (nTks n' se s m).1 ∧ (nTks n' se s m).2 = (nTks n se s m).2 := by
  intro m
  induction m with
  | zero => intro n n' s _ h; exact ⟨h, rfl⟩
  | succ m ih =>
    intro n n' s hs h
    unfold nTks
    rw [h (7 + s) (by omega), h (103 + s) (by omega)]
    by_cases h1 : n (7 + s) = 0
    · by_cases h2 : n (103 + s) = 0
      · rw [if_pos h1, if_pos h2, if_pos h1, if_pos h2]; exact ⟨h, rfl⟩
      · rw [if_pos h1, if_neg h2, if_pos h1, if_neg h2]; exact ih _ _ _ (by omega) (nLay_ag h _ _ _ _ _)
    · rw [if_neg h1, if_neg h1]; exact ih _ _ _ (by omega) h
theorem zu_ag {n n' : zN} (h : zAg n n') (i v : Int) : zAg (zu n i v) (zu n' i v) := by
  intro j hj
  unfold zu
  split
  · rfl
  · exact h j hj
theorem nWrB_ag {n n' : zN} (h : zAg n n') (hN : nWn n) (kind se v k : Int) : zAg (nWrB n kind se v k) (nWrB n' kind se v k) := by
  unfold nWn at hN
  unfold nWrB
  rw [h 4 (by omega), h 0 (by omega), h 1 (by omega), h (103 + n 4) (by omega)]
  have h2 := nTks_ag se (n 1).toNat (nLay (zu n 4 (n 4 + 1)) (n 4) 3 se (-1) (-1)) (nLay (zu n' 4 (n 4 + 1)) (n 4) 3 se (-1) (-1)) (n 0 - n 1) (by omega) (nLay_ag (zu_ag h _ _) _ _ _ _ _)
  split
  · exact nLay_ag (zu_ag h _ _) _ _ _ _ _
  · rw [h2.2]
    exact zu_ag (zu_ag (nLay_ag h2.1 _ _ _ _ _) _ _) _ _

/-! Sessions and versions, on the row n. -/
def zus (n : zN) (s w x : Int) : zN := zu n (1255 + 25 * s + w) x
def nBg (n : zN) : zN := fun i => if i = 3 then n 3 + 1 else if i = 1256 + 25 * n 3 then n 4 else if 1255 + 25 * n 3 ≤ i ∧ i < 1280 + 25 * n 3 then 0 else n i
def nBi (n : zN) : zN := if nOp n = true then n else nBg n
def nE1 (n : zN) (f v : Int) : zN :=
  if nEn n (nLa n) f = -1 then zus (zus (zus n (nLa n) 2 (nS n (nLa n) 2 + 1)) (nLa n) (5 + 2 * nS n (nLa n) 2) f) (nLa n) (6 + 2 * nS n (nLa n) 2) v
  else zus (zus n (nLa n) (5 + 2 * nEn n (nLa n) f) f) (nLa n) (6 + 2 * nEn n (nLa n) f) v
def nAr (n : zN) (v f first m tag se : Int) : zN := zu (zu (zu (zu (zu n (775 + 5 * v) f) (775 + 5 * v + 1) first) (775 + 5 * v + 2) m) (775 + 5 * v + 3) tag) (775 + 5 * v + 4) se
def nAdd (n : zN) (f m tag : Int) : zN := nAr (zu n 6 (n 6 + 1)) (n 6) f (n 4) m tag (nLa n)
def nWrs (n : zN) (f m tag : Int) : zN := nE1 (nWl 1 (nLa (nBi n)) (n 6) (nAdd (nBi n) f m tag) 0 m.toNat) f (n 6)
def nErs (n : zN) (f : Int) : zN := nE1 (nBi n) f (-1)
def nCb (n : zN) (s : Int) : Int := zls (fun t => decide (nS n t 0 = 1)) s.toNat
def nCl0 (n : zN) : zN := zus (zus n (nLa n) 3 (n 4 + 1)) (nLa n) 4 (nCb n (nLa n) + 1)
def nCl (n : zN) : zN := zus (nWl 2 (nLa n) (-1) (nCl0 n) 0 (nDl (nS n (nLa n) 2)).toNat) (nLa n) 0 1
def nCrs (n : zN) : zN := zus (zus n (nLa n) 0 2) (nLa n) 2 0
def nRl (P : Int → Bool) (fl : Int → Int) : zN → Int → Nat → zN
  | n, _, 0 => n
  | n, v, m + 1 => nRl P fl (if P v = true then nE1 n (fl v) v else n) (v + 1) m
def nRec (n : zN) : zN := nCl (nRl (nRc n (nLa n)) (fun v => nV n v 0) (nBg (zus n (nLa n) 0 3)) 0 (n 6).toNat)
theorem nS_zus {n : zN} {s w x s' w' : Int} (h0 : 0 ≤ w) (h1 : w < 25) (h2 : 0 ≤ w') (h3 : w' < 25) : nS (zus n s w x) s' w' = if s' = s ∧ w' = w then x else nS n s' w' := by
  unfold nS zus zu
  by_cases h : s' = s ∧ w' = w
  · rw [if_pos h, if_pos (by omega)]
  · rw [if_neg h, if_neg (by omega)]
theorem zus_lo {n : zN} {s w x i : Int} (h0 : 0 ≤ s) (h1 : 0 ≤ w) (hi : i < 1255) : zus n s w x i = n i := zu_ne (by omega)
theorem nBg_lo {n : zN} {i : Int} (h0 : 0 ≤ n 3) (hi : i < 1255) (h3 : i ≠ 3) : nBg n i = n i := by
  unfold nBg
  rw [if_neg h3, if_neg (by omega), if_neg (by omega)]
theorem nBg_3 (n : zN) : nBg n 3 = n 3 + 1 := by unfold nBg; rw [if_pos rfl]
theorem nS_nBg {n : zN} {s w : Int} (h3 : 0 ≤ n 3) (h0 : 0 ≤ s) (h1 : 0 ≤ w) (h2 : w < 25) : nS (nBg n) s w = if s = n 3 then (if w = 1 then n 4 else 0) else nS n s w := by
  unfold nS nBg
  rw [if_neg (by omega)]
  by_cases h : s = n 3
  · rw [if_pos h]
    by_cases h4 : w = 1
    · rw [if_pos (by omega), if_pos h4]
    · rw [if_neg (by omega), if_neg h4, if_pos (by omega)]
  · rw [if_neg h, if_neg (by omega), if_neg (by omega)]
def nWs1 (n : zN) (s : Int) : Prop :=
  (0 ≤ nS n s 0 ∧ nS n s 0 ≤ 3) ∧ (nS n s 0 = 0 → s = n 3 - 1) ∧ (0 ≤ nS n s 1 ∧ nS n s 1 ≤ 96) ∧ (0 ≤ nS n s 2 ∧ nS n s 2 ≤ zcn (fun f => decide (nEn n s f ≠ -1)) 0 (n 2).toNat) ∧ (0 ≤ nS n s 3 ∧ (0 < nS n s 3 ↔ nS n s 0 = 1) ∧ (0 < nS n s 3 → nS n s 3 - 1 + nDl (nS n s 2) ≤ n 4)) ∧ (nS n s 4 = if 0 < nS n s 3 then zls (fun t => decide (nS n t 0 = 1)) s.toNat + 1 else 0) ∧ (∀ k, 0 ≤ k → k < nS n s 2 → (0 ≤ nS n s (5 + 2 * k) ∧ nS n s (5 + 2 * k) < n 2) ∧ (-1 ≤ nS n s (6 + 2 * k) ∧ nS n s (6 + 2 * k) < n 6))
theorem nEn_cg2 {n n' : zN} {s f : Int} (he : nS n s 2 ≤ 10) (h : ∀ w, 0 ≤ w → w < 25 → nS n' s w = nS n s w) : nEn n' s f = nEn n s f := by
  unfold nEn
  rw [h 2 (by omega) (by omega)]
  exact zfs_congr _ _ (fun k h0 h1 => by rw [h _ (by omega) (by omega)])
theorem nWs1.ent {n : zN} {s : Int} (h : nWs1 n s) (h2 : n 2 ≤ 10) (h3 : 0 ≤ n 2) : nS n s 2 ≤ n 2 := by
  have h4 := h.2.2.2.1.2
  have h5 := (zcn_rng (fun f => decide (nEn n s f ≠ -1)) (n 2).toNat 0).2
  omega
theorem nWs1_cg {n n' : zN} {s : Int} (hs : 0 ≤ s) (h : ∀ t w, 0 ≤ t → t ≤ s → 0 ≤ w → w < 25 → nS n' t w = nS n t w) (h2 : n' 2 = n 2) (h20 : 0 ≤ n 2) (h21 : n 2 ≤ 10) (h3 : nS n s 0 = 0 → s = n' 3 - 1) (h4 : n 4 ≤ n' 4) (h6 : n 6 ≤ n' 6) (hZ : nWs1 n s) : nWs1 n' s := by
  have he := hZ.ent h21 h20
  obtain ⟨a1, a2, a3, a4, a5, a6, a7⟩ := hZ
  have e : ∀ w, 0 ≤ w → w < 25 → nS n' s w = nS n s w := fun w hw hw1 => h s w hs (by omega) hw hw1
  unfold nWs1
  rw [e 0 (by omega) (by omega), e 1 (by omega) (by omega), e 2 (by omega) (by omega), e 3 (by omega) (by omega), e 4 (by omega) (by omega), h2]
  refine ⟨a1, h3, a3, ⟨a4.1, ?_⟩, ⟨a5.1, a5.2.1, fun z => by have := a5.2.2 z; omega⟩, ?_, fun k k0 k1 => ?_⟩
  · rw [zcn_congr (Q := fun f => decide (nEn n s f ≠ -1)) _ _ (fun f _ _ => by rw [nEn_cg2 (by omega) e])]
    exact a4.2
  · rw [a6, zls_congr (Q := fun t => decide (nS n' t 0 = 1)) (P := fun t => decide (nS n t 0 = 1)) _ (fun t t0 t1 => by rw [h t 0 t0 (by omega) (by omega) (by omega)])]
  · rw [e _ (by omega) (by omega), e _ (by omega) (by omega)]
    have := a7 k k0 k1
    omega
theorem nEn_iff {n : zN} {s f : Int} : nEn n s f ≠ -1 ↔ ∃ k, 0 ≤ k ∧ k < nS n s 2 ∧ nS n s (5 + 2 * k) = f := by
  unfold nEn
  rcases zfs_spec (P := fun k => decide (nS n s (5 + 2 * k) = f)) (nS n s 2).toNat 0 (by omega) with ⟨h1, h2⟩ | ⟨h1, h2, h3, h4⟩
  · rw [h1]
    constructor
    · intro h; exact absurd rfl h
    · rintro ⟨k, k0, k1, k2⟩
      have := h2 k k0 (by omega)
      simp [k2] at this
  · constructor
    · intro _
      exact ⟨_, h1, by omega, by simpa using h3⟩
    · intro _
      omega
theorem nOp_iff {n : zN} : nOp n = true ↔ 0 ≤ nLa n ∧ nS n (nLa n) 0 = 0 := by
  unfold nOp
  simp
theorem nBg_W {n : zN} (hn : nW n) (hc : nOp n = false) (h3 : n 3 < 12) : nW (nBg n) ∧ nOp (nBg n) = true ∧ nLa (nBg n) = n 3 := by
  have hN := hn.1.r
  have e : ∀ i, i < 1255 → i ≠ 3 → nBg n i = n i := fun i hi h => nBg_lo (by omega) hi h
  have eS : ∀ s w, 0 ≤ s → 0 ≤ w → w < 25 → nS (nBg n) s w = if s = n 3 then (if w = 1 then n 4 else 0) else nS n s w := fun s w h0 h1 h2 => nS_nBg (by omega) h0 h1 h2
  have hla : nLa (nBg n) = n 3 := by unfold nLa; rw [nBg_3]; omega
  have hno : ∀ s, 0 ≤ s → s < n 3 → nS n s 0 ≠ 0 := by
    intro s s0 s1 z
    have h5 := (hn.2.2.2 s s0 s1).2.1 z
    have h6 : nOp n = true := nOp_iff.mpr ⟨by unfold nLa; omega, by unfold nLa; rw [← h5]; exact z⟩
    rw [hc] at h6
    cases h6
  refine ⟨⟨?_, fun b b0 b1 => ?_, ⟨?_, fun v v0 v1 => ?_⟩, fun s s0 s1 => ?_⟩, ?_, hla⟩
  · unfold nWn
    rw [e 0 (by omega) (by omega), e 1 (by omega) (by omega), e 2 (by omega) (by omega), nBg_3, e 4 (by omega) (by omega), e 5 (by omega) (by omega), e 6 (by omega) (by omega)]
    omega
  · have hb := hn.2.1 b b0 b1
    rw [e (7 + b) (by omega) (by omega), e (103 + b) (by omega) (by omega), e (199 + b) (by omega) (by omega), e (295 + b) (by omega) (by omega), e (391 + b) (by omega) (by omega), e (487 + b) (by omega) (by omega), e (583 + b) (by omega) (by omega), e (679 + b) (by omega) (by omega), e 0 (by omega) (by omega), e 1 (by omega) (by omega), e 4 (by omega) (by omega), e 6 (by omega) (by omega), nBg_3]
    obtain ⟨k1, k2, k3, k4, k5⟩ := hb
    exact ⟨k1, k2, k3, ⟨k4.1, by omega⟩, k5⟩
  · rw [e 6 (by omega) (by omega), e 4 (by omega) (by omega)]
    exact hn.2.2.1.1
  · rw [e 6 (by omega) (by omega)] at v1
    obtain ⟨a1, a2, a3, a4, a5, a6, a7⟩ := hn.2.2.1.2 v v0 v1
    have e2 : ∀ w, 0 ≤ w → w < 5 → nV (nBg n) v w = nV n v w := fun w w0 w1 => e _ (by omega) (by omega)
    rw [e2 0 (by omega) (by omega), e2 1 (by omega) (by omega), e2 2 (by omega) (by omega), e2 3 (by omega) (by omega), e2 4 (by omega) (by omega), e 2 (by omega) (by omega), e 4 (by omega) (by omega), nBg_3]
    refine ⟨a1, a2, a3, a4, a5, by omega, fun s k s0 s1 k0 k1 k2 => ?_⟩
    by_cases hs : s = n 3
    · rw [eS s 2 s0 (by omega) (by omega), if_pos hs, if_neg (by omega)] at k1
      omega
    · have he := hn.2.2.2.ent hn.1 s0 (by omega : s < n 3)
      rw [eS s 2 s0 (by omega) (by omega), if_neg hs] at k1
      rw [eS s _ s0 (by omega) (by omega), if_neg hs] at k2
      rw [eS s _ s0 (by omega) (by omega), if_neg hs]
      exact a7 s k s0 (by omega) k0 k1 k2
  · show nWs1 (nBg n) s
    rw [nBg_3] at s1
    by_cases hs : s = n 3
    · unfold nWs1
      rw [eS s 0 s0 (by omega) (by omega), eS s 1 s0 (by omega) (by omega), eS s 2 s0 (by omega) (by omega), eS s 3 s0 (by omega) (by omega), eS s 4 s0 (by omega) (by omega), if_pos hs, if_pos hs, if_pos hs, if_pos hs, if_pos hs, nBg_3]
      have hz := zcn_rng (fun f => decide (nEn (nBg n) s f ≠ -1)) (nBg n 2).toNat 0
      refine ⟨by simp, fun _ => by omega, by simp; omega, ⟨by simp, by simpa using hz.1⟩, by simp, by simp, fun k k0 k1 => ?_⟩
      simp at k1
      omega
    · exact nWs1_cg s0 (fun t w t0 t1 w0 w1 => by rw [eS t w t0 w0 w1, if_neg (by omega)]) (e 2 (by omega) (by omega)) (by omega) (by omega) (fun z => absurd z (hno s s0 (by omega))) (by rw [e 4 (by omega) (by omega)]; omega) (by rw [e 6 (by omega) (by omega)]; omega) (hn.2.2.2 s s0 (by omega))
  · rw [nOp_iff, hla]
    refine ⟨by omega, ?_⟩
    rw [eS _ 0 (by omega) (by omega) (by omega), if_pos rfl, if_neg (by omega)]
theorem nTm_f {n : zN} (hn : nW n) (h : nTm n = false) (hc : nOp n = false) : n 3 < 12 := by
  unfold nTm at h
  rw [hc] at h
  have := hn.1.r
  simp at h
  omega
theorem nBi_W {n : zN} (hn : nW n) (h : nTm n = false) : nW (nBi n) ∧ nOp (nBi n) = true := by
  unfold nBi
  cases hc : nOp n
  · rw [if_neg (by simp)]
    have := nBg_W hn hc (nTm_f hn h hc)
    exact ⟨this.1, this.2.1⟩
  · rw [if_pos rfl]
    exact ⟨hn, hc⟩
theorem nBi_lo {n : zN} {i : Int} (h0 : 0 ≤ n 3) (hi : i < 1255) (h3 : i ≠ 3) : nBi n i = n i := by
  unfold nBi
  split
  · rfl
  · exact nBg_lo h0 hi h3
/-- an entry: what it changes in its session -/
theorem nE1_lo {n : zN} {f v i : Int} (h3 : 0 ≤ nLa n) (he : 0 ≤ nS n (nLa n) 2) (hi : i < 1255) : nE1 n f v i = n i := by
  have hE := (nEn_rng n (nLa n) f).1
  unfold nE1
  split
  · rw [zus_lo h3 (by omega) hi, zus_lo h3 (by omega) hi, zus_lo h3 (by omega) hi]
  · rw [zus_lo h3 (by omega) hi, zus_lo h3 (by omega) hi]
theorem nE1_S {n : zN} (f v : Int) (he : 0 ≤ nS n (nLa n) 2) (hk : nEn n (nLa n) f = -1 → nS n (nLa n) 2 ≤ 9) (hk2 : nS n (nLa n) 2 ≤ 10) : ∃ k, 0 ≤ k ∧ k ≤ 9 ∧ (nEn n (nLa n) f = -1 → k = nS n (nLa n) 2) ∧ (nEn n (nLa n) f ≠ -1 → k = nEn n (nLa n) f ∧ k < nS n (nLa n) 2) ∧ ∀ s w, 0 ≤ w → w < 25 → nS (nE1 n f v) s w = if s = nLa n ∧ w = 6 + 2 * k then v else if s = nLa n ∧ w = 5 + 2 * k then f else if s = nLa n ∧ w = 2 then max (nS n (nLa n) 2) (k + 1) else nS n s w := by
  have hE := nEn_rng n (nLa n) f
  by_cases h : nEn n (nLa n) f = -1
  · have h9 := hk h
    refine ⟨nS n (nLa n) 2, he, h9, fun _ => rfl, fun z => absurd h z, fun s w w0 w1 => ?_⟩
    unfold nE1
    rw [if_pos h, nS_zus (by omega) (by omega) w0 w1, nS_zus (by omega) (by omega) w0 w1, nS_zus (by omega) (by omega) w0 w1]
    rw [show max (nS n (nLa n) 2) (nS n (nLa n) 2 + 1) = nS n (nLa n) 2 + 1 by omega]
  · refine ⟨nEn n (nLa n) f, by omega, by omega, fun z => absurd z h, fun _ => ⟨rfl, by omega⟩, fun s w w0 w1 => ?_⟩
    unfold nE1
    rw [if_neg h, nS_zus (by omega) (by omega) w0 w1, nS_zus (by omega) (by omega) w0 w1]
    rw [show max (nS n (nLa n) 2) (nEn n (nLa n) f + 1) = nS n (nLa n) 2 by omega]
    by_cases h2 : s = nLa n ∧ w = 2
    · rw [if_pos h2, if_neg (by omega), if_neg (by omega), if_neg (by omega), if_neg (by omega), h2.1, h2.2]
    · rw [if_neg h2]
theorem nE1_W {n : zN} (hn : nW n) (hop : nOp n = true) {f v : Int} (hf0 : 0 ≤ f) (hf1 : f < n 2) (hv0 : -1 ≤ v) (hv1 : v < n 6) (hvf : 0 ≤ v → nV n v 0 = f) : nW (nE1 n f v) ∧ nOp (nE1 n f v) = true ∧ nLa (nE1 n f v) = nLa n ∧ nS (nE1 n f v) (nLa n) 2 = nS n (nLa n) 2 + zb (decide (nEn n (nLa n) f = -1)) := by
  have hN := hn.1.r
  obtain ⟨h3, hst⟩ := nOp_iff.mp hop
  have hla : nLa n = n 3 - 1 := rfl
  have hs := hn.2.2.2 (nLa n) h3 (by omega)
  have hent := hn.2.2.2.ent hn.1 h3 (by omega : nLa n < n 3)
  have hk9 : nEn n (nLa n) f = -1 → nS n (nLa n) 2 ≤ n 2 - 1 := by
    intro h
    have h5 := zcn_one (P := fun g => decide (nEn n (nLa n) g ≠ -1)) (Q := fun g => decide (nEn n (nLa n) g ≠ -1) || decide (g = f)) (j := f) (n 2).toNat 0 hf0 (by omega) (by simp [h]) (by simp) (fun g hg _ _ => by simp [hg])
    have h6 := (zcn_rng (fun g => decide (nEn n (nLa n) g ≠ -1) || decide (g = f)) (n 2).toNat 0).2
    have h7 := hs.2.2.2.1.2
    omega
  obtain ⟨k, k0, k9, hk1, hk2, eS⟩ := nE1_S (n := n) f v hent.1 (fun z => by have := hk9 z; omega) (by omega)
  have e : ∀ i, i < 1255 → nE1 n f v i = n i := fun i hi => nE1_lo h3 hent.1 hi
  have hla2 : nLa (nE1 n f v) = nLa n := by unfold nLa; rw [e 3 (by omega)]
  have hcnt : max (nS n (nLa n) 2) (k + 1) = nS n (nLa n) 2 + zb (decide (nEn n (nLa n) f = -1)) := by
    by_cases h : nEn n (nLa n) f = -1
    · rw [zb_dpos h, hk1 h]; omega
    · rw [zb_dneg h]; have := hk2 h; omega
  have hkK : k < max (nS n (nLa n) 2) (k + 1) := by omega
  -- the files of its entries
  have hfile : ∀ j, 0 ≤ j → j < max (nS n (nLa n) 2) (k + 1) → nS (nE1 n f v) (nLa n) (5 + 2 * j) = if j = k then f else nS n (nLa n) (5 + 2 * j) := by
    intro j j0 j1
    rw [eS _ _ (by omega) (by omega), if_neg (by omega)]
    by_cases h : j = k
    · rw [if_pos h, if_pos (by omega)]
    · rw [if_neg h, if_neg (by omega), if_neg (by omega)]
  have hvers : ∀ j, 0 ≤ j → j < max (nS n (nLa n) 2) (k + 1) → nS (nE1 n f v) (nLa n) (6 + 2 * j) = if j = k then v else nS n (nLa n) (6 + 2 * j) := by
    intro j j0 j1
    rw [eS _ _ (by omega) (by omega)]
    by_cases h : j = k
    · rw [if_pos h, if_pos (by omega)]
    · rw [if_neg h, if_neg (by omega), if_neg (by omega), if_neg (by omega)]
  have hlt : ∀ j, 0 ≤ j → j < max (nS n (nLa n) 2) (k + 1) → j ≠ k → j < nS n (nLa n) 2 := by
    intro j j0 j1 j2
    by_cases h : nEn n (nLa n) f = -1
    · have := hk1 h; omega
    · have := hk2 h; omega
  have eo : ∀ s w, s ≠ nLa n → 0 ≤ w → w < 25 → nS (nE1 n f v) s w = nS n s w := fun s w h w0 w1 => by
    rw [eS s w w0 w1, if_neg (by omega), if_neg (by omega), if_neg (by omega)]
  have e2 : nS (nE1 n f v) (nLa n) 2 = max (nS n (nLa n) 2) (k + 1) := by rw [eS _ 2 (by omega) (by omega), if_neg (by omega), if_neg (by omega), if_pos ⟨rfl, rfl⟩]
  have e013 : ∀ w, w = 0 ∨ w = 1 ∨ w = 3 ∨ w = 4 → nS (nE1 n f v) (nLa n) w = nS n (nLa n) w := fun w hw => by
    rw [eS _ w (by omega) (by omega), if_neg (by omega), if_neg (by omega), if_neg (by omega)]
  refine ⟨⟨?_, fun b b0 b1 => ?_, ⟨?_, fun u u0 u1 => ?_⟩, fun s s0 s1 => ?_⟩, ?_, hla2, by rw [e2, hcnt]⟩
  · unfold nWn
    rw [e 0 (by omega), e 1 (by omega), e 2 (by omega), e 3 (by omega), e 4 (by omega), e 5 (by omega), e 6 (by omega)]
    exact hn.1
  · rw [e (7 + b) (by omega), e (103 + b) (by omega), e (199 + b) (by omega), e (295 + b) (by omega), e (391 + b) (by omega), e (487 + b) (by omega), e (583 + b) (by omega), e (679 + b) (by omega), e 0 (by omega), e 1 (by omega), e 3 (by omega), e 4 (by omega), e 6 (by omega)]
    exact hn.2.1 b b0 b1
  · rw [e 6 (by omega), e 4 (by omega)]
    exact hn.2.2.1.1
  · rw [e 6 (by omega)] at u1
    obtain ⟨a1, a2, a3, a4, a5, a6, a7⟩ := hn.2.2.1.2 u u0 u1
    have eV : ∀ w, 0 ≤ w → w < 5 → nV (nE1 n f v) u w = nV n u w := fun w w0 w1 => e _ (by omega)
    rw [eV 0 (by omega) (by omega), eV 1 (by omega) (by omega), eV 2 (by omega) (by omega), eV 3 (by omega) (by omega), eV 4 (by omega) (by omega), e 2 (by omega), e 3 (by omega), e 4 (by omega)]
    refine ⟨a1, a2, a3, a4, a5, a6, fun s j s0 s1 j0 j1 j2 => ?_⟩
    by_cases hsl : s = nLa n
    · subst hsl
      rw [e2] at j1
      rw [hvers j j0 j1] at j2
      rw [hfile j j0 j1]
      by_cases hj : j = k
      · rw [if_pos hj] at j2 ⊢
        subst j2
        exact hvf u0
      · rw [if_neg hj] at j2 ⊢
        exact a7 _ j s0 s1 j0 (hlt j j0 j1 hj) j2
    · have he := hn.2.2.2.ent hn.1 s0 s1
      rw [eo s 2 hsl (by omega) (by omega)] at j1
      rw [eo s _ hsl (by omega) (by omega)] at j2
      rw [eo s _ hsl (by omega) (by omega)]
      exact a7 s j s0 s1 j0 j1 j2
  · rw [e 3 (by omega)] at s1
    show nWs1 (nE1 n f v) s
    by_cases hsl : s = nLa n
    · subst hsl
      obtain ⟨b1, b2, b3, b4, b5, b6, b7⟩ := hs
      unfold nWs1
      rw [e013 0 (by omega), e013 1 (by omega), e013 3 (by omega), e013 4 (by omega), e2, e 2 (by omega), e 3 (by omega), e 4 (by omega), e 6 (by omega)]
      have hd0 : nS n (nLa n) 3 = 0 := by
        by_cases h : 0 < nS n (nLa n) 3
        · have := b5.2.1.mp h; omega
        · omega
      refine ⟨b1, b2, b3, ⟨by omega, ?_⟩, ⟨b5.1, b5.2.1, fun z => by omega⟩, ?_, fun j j0 j1 => ?_⟩
      · rw [hcnt]
        have hmem : ∀ g, (nEn (nE1 n f v) (nLa n) g ≠ -1 ↔ nEn n (nLa n) g ≠ -1 ∨ g = f) := by
          intro g
          rw [nEn_iff, nEn_iff, e2]
          constructor
          · rintro ⟨j, j0, j1, j2⟩
            rw [hfile j j0 j1] at j2
            by_cases hj : j = k
            · rw [if_pos hj] at j2; exact Or.inr j2.symm
            · rw [if_neg hj] at j2; exact Or.inl ⟨j, j0, hlt j j0 j1 hj, j2⟩
          · rintro (⟨j, j0, j1, j2⟩ | h)
            · by_cases hj : j = k
              · refine ⟨k, k0, hkK, ?_⟩
                rw [hfile k k0 hkK, if_pos rfl]
                have hne : nEn n (nLa n) f ≠ -1 := by
                  intro z
                  have := hk1 z
                  omega
                have h5 := (hk2 hne).1
                rcases zfs_spec (P := fun k => decide (nS n (nLa n) (5 + 2 * k) = f)) (nS n (nLa n) 2).toNat 0 (by omega) with ⟨h1, _⟩ | ⟨_, _, h1, _⟩
                · exact absurd h1 hne
                · have h6 : nS n (nLa n) (5 + 2 * nEn n (nLa n) f) = f := of_decide_eq_true h1
                  rw [← h5, ← hj, j2] at h6
                  exact h6.symm
              · refine ⟨j, j0, by omega, ?_⟩
                rw [hfile j j0 (by omega), if_neg hj]
                exact j2
            · exact ⟨k, k0, hkK, by rw [hfile k k0 hkK, if_pos rfl]; exact h.symm⟩
        by_cases h : nEn n (nLa n) f = -1
        · rw [zb_dpos h]
          have h5 := zcn_one (P := fun g => decide (nEn n (nLa n) g ≠ -1)) (Q := fun g => decide (nEn (nE1 n f v) (nLa n) g ≠ -1)) (j := f) (n 2).toNat 0 hf0 (by omega) (by simp [h]) (by have := (hmem f).mpr (Or.inr rfl); simpa using this) (fun g hg _ _ => by
            have := hmem g
            simp only [hg, or_false] at this
            exact decide_eq_decide.mpr this)
          have h6 := b4.2
          omega
        · rw [zb_dneg h]
          have h5 := zcn_le (P := fun g => decide (nEn n (nLa n) g ≠ -1)) (Q := fun g => decide (nEn (nE1 n f v) (nLa n) g ≠ -1)) (n 2).toNat 0 (fun g _ _ hp => by
            have := (hmem g).mpr (Or.inl (of_decide_eq_true hp))
            exact decide_eq_true this)
          have h6 := b4.2
          omega
      · rw [b6, if_neg (by omega), if_neg (by omega)]
      · rw [hfile j j0 j1, hvers j j0 j1]
        by_cases hj : j = k
        · rw [if_pos hj, if_pos hj]; omega
        · rw [if_neg hj, if_neg hj]
          exact b7 j j0 (hlt j j0 j1 hj)
    · exact nWs1_cg s0 (fun t w t0 t1 w0 w1 => eo t w (by omega) w0 w1) (e 2 (by omega)) (by omega) (by omega) (fun z => by rw [e 3 (by omega)]; exact (hn.2.2.2 s s0 s1).2.1 z) (by rw [e 4 (by omega)]; omega) (by rw [e 6 (by omega)]; omega) (hn.2.2.2 s s0 s1)
  · rw [nOp_iff, hla2, e013 0 (by omega)]
    exact ⟨h3, hst⟩

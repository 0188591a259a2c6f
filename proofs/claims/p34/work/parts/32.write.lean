/-! Writing, on the row n: blocks. -/
def zu (n : zN) (i v : Int) : zN := fun j => if j = i then v else n j
theorem zu_eq {n : zN} {i v j : Int} (h : j = i) : zu n i v j = v := by unfold zu; rw [if_pos h]
theorem zu_ne {n : zN} {i v j : Int} (h : j ≠ i) : zu n i v j = n j := by unfold zu; rw [if_neg h]
def nLay (n : zN) (b kind se v k : Int) : zN := zu (zu (zu (zu n (7 + b) kind) (295 + b) (se + 1)) (391 + b) (v + 1)) (487 + b) (k + 1)
def nTks (n : zN) (se s : Int) : Nat → zN × Int
  | 0 => (n, s)
  | m + 1 => if n (7 + s) = 0 then (if n (103 + s) = 0 then (n, s) else nTks (nLay n s 3 se (-1) (-1)) se (s + 1) m) else nTks n se (s + 1) m
def nWrB (n : zN) (kind se v k : Int) : zN :=
  if n (103 + n 4) = 0 then nLay (zu n 4 (n 4 + 1)) (n 4) kind se v k
  else zu (zu (nLay (nTks (nLay (zu n 4 (n 4 + 1)) (n 4) 3 se (-1) (-1)) se (n 0 - n 1) (n 1).toNat).1 (nTks (nLay (zu n 4 (n 4 + 1)) (n 4) 3 se (-1) (-1)) se (n 0 - n 1) (n 1).toNat).2 kind se v k) (583 + (nTks (nLay (zu n 4 (n 4 + 1)) (n 4) 3 se (-1) (-1)) se (n 0 - n 1) (n 1).toNat).2) (n 4 + 1)) (679 + n 4) ((nTks (nLay (zu n 4 (n 4 + 1)) (n 4) 3 se (-1) (-1)) se (n 0 - n 1) (n 1).toNat).2 + 1)
def nWl (kind se v : Int) : zN → Int → Nat → zN
  | n, _, 0 => n
  | n, k, m + 1 => nWl kind se v (nWrB n kind se v k) (k + 1) m
def nGc (n : zN) : Int := zcn (fun b => decide (n (7 + b) = 0) && decide (n (103 + b) = 0)) (n 0 - n 1) (n 1).toNat
def nBc (n : zN) (k : Nat) : Int := zcn (fun b => decide (n (103 + b) = 1)) (n 4) k
theorem nHs_iff (n : zN) (m : Int) : nHs n m = true ↔ nBc n m.toNat ≤ nGc n := by
  unfold nHs nBc nGc
  exact decide_eq_true_iff
theorem nLay_at (n : zN) {b kind se v k : Int} (hb0 : 0 ≤ b) (hb1 : b < 96) {c : Int} (h0 : 0 ≤ c) (h1 : c < 96) : nLay n b kind se v k (7 + c) = (if c = b then kind else n (7 + c)) ∧ nLay n b kind se v k (295 + c) = (if c = b then se + 1 else n (295 + c)) ∧ nLay n b kind se v k (391 + c) = (if c = b then v + 1 else n (391 + c)) ∧ nLay n b kind se v k (487 + c) = (if c = b then k + 1 else n (487 + c)) := by
  unfold nLay
  by_cases h : c = b
  · subst h
    simp only [if_true]
    refine ⟨?_, ?_, ?_, ?_⟩ <;> simp (disch := omega) only [zu_eq, zu_ne]
  · simp only [if_neg h]
    refine ⟨?_, ?_, ?_, ?_⟩ <;> simp (disch := omega) only [zu_eq, zu_ne]
theorem nLay_out (n : zN) {b kind se v k : Int} (hb0 : 0 ≤ b) (hb1 : b < 96) {i : Int} (h : i < 7 ∨ (103 ≤ i ∧ i < 295) ∨ 583 ≤ i) : nLay n b kind se v k i = n i := by
  unfold nLay
  simp (disch := omega) only [zu_ne]
theorem nTks_out (se : Int) : ∀ (m : Nat) (n : zN) (s : Int), 0 ≤ s → s + m ≤ 96 → ∀ i : Int, i < 7 ∨ (103 ≤ i ∧ i < 295) ∨ 583 ≤ i → (nTks n se s m).1 i = n i := by
  intro m
  induction m with
  | zero => intro n s _ _ i _; rfl
  | succ m ih =>
    intro n s h0 h1 i hi
    unfold nTks
    split
    · split
      · rfl
      · rw [ih _ _ (by omega) (by omega) i hi, nLay_out n h0 (by omega) hi]
    · rw [ih _ _ (by omega) (by omega) i hi]
theorem nTks_P (se : Int) : ∀ (m : Nat) (n : zN) (s : Int), 0 ≤ s → s + m ≤ 96 →
    (s ≤ (nTks n se s m).2 ∧ (nTks n se s m).2 ≤ s + m) ∧ ((nTks n se s m).2 < s + m → n (7 + (nTks n se s m).2) = 0 ∧ n (103 + (nTks n se s m).2) = 0) ∧ (∀ c, s ≤ c → c < (nTks n se s m).2 → n (7 + c) = 0 → n (103 + c) ≠ 0) ∧
    (∀ c, 0 ≤ c → c < 96 → (nTks n se s m).1 (7 + c) = (if s ≤ c ∧ c < (nTks n se s m).2 ∧ n (7 + c) = 0 then 3 else n (7 + c)) ∧ (nTks n se s m).1 (295 + c) = (if s ≤ c ∧ c < (nTks n se s m).2 ∧ n (7 + c) = 0 then se + 1 else n (295 + c)) ∧ (nTks n se s m).1 (391 + c) = (if s ≤ c ∧ c < (nTks n se s m).2 ∧ n (7 + c) = 0 then 0 else n (391 + c)) ∧ (nTks n se s m).1 (487 + c) = (if s ≤ c ∧ c < (nTks n se s m).2 ∧ n (7 + c) = 0 then 0 else n (487 + c))) := by
  intro m
  induction m with
  | zero =>
    intro n s h0 h1
    have e : nTks n se s 0 = (n, s) := rfl
    rw [e]
    refine ⟨⟨by simp, by simp⟩, fun h => by simp at h, fun c h2 h3 => by simp at h3; omega, fun c h2 h3 => ?_⟩
    simp only
    rw [if_neg (by omega), if_neg (by omega), if_neg (by omega), if_neg (by omega)]
    exact ⟨rfl, rfl, rfl, rfl⟩
  | succ m ih =>
    intro n s h0 h1
    by_cases hk : n (7 + s) = 0
    · by_cases hb : n (103 + s) = 0
      · have e : nTks n se s (m + 1) = (n, s) := by rw [nTks, if_pos hk, if_pos hb]
        rw [e]
        refine ⟨⟨by simp, by simp; omega⟩, fun _ => ⟨hk, hb⟩, fun c h2 h3 => by simp at h3; omega, fun c h2 h3 => ?_⟩
        simp only
        rw [if_neg (by omega), if_neg (by omega), if_neg (by omega), if_neg (by omega)]
        exact ⟨rfl, rfl, rfl, rfl⟩
      · have e : nTks n se s (m + 1) = nTks (nLay n s 3 se (-1) (-1)) se (s + 1) m := by rw [nTks, if_pos hk, if_neg hb]
        rw [e]
        obtain ⟨a1, a2, a3, a4⟩ := ih (nLay n s 3 se (-1) (-1)) (s + 1) (by omega) (by omega)
        obtain ⟨t, ht⟩ : ∃ t, (nTks (nLay n s 3 se (-1) (-1)) se (s + 1) m).2 = t := ⟨_, rfl⟩
        rw [ht] at a1 a2 a3
        simp only [ht] at a4
        rw [ht]
        have hl : ∀ c, 0 ≤ c → c < 96 → c ≠ s → nLay n s 3 se (-1) (-1) (7 + c) = n (7 + c) ∧ nLay n s 3 se (-1) (-1) (295 + c) = n (295 + c) ∧ nLay n s 3 se (-1) (-1) (391 + c) = n (391 + c) ∧ nLay n s 3 se (-1) (-1) (487 + c) = n (487 + c) := fun c h2 h3 h4 => by
          have := nLay_at n (b := s) (kind := 3) (se := se) (v := -1) (k := -1) h0 (by omega) h2 h3
          simpa only [if_neg h4] using this
        have hls := nLay_at n (b := s) (kind := 3) (se := se) (v := -1) (k := -1) h0 (by omega) h0 (by omega : s < 96)
        simp only [if_true] at hls
        have hl2 : ∀ c, 0 ≤ c → c < 96 → nLay n s 3 se (-1) (-1) (103 + c) = n (103 + c) := fun c h2 h3 => nLay_out n h0 (by omega) (by omega)
        refine ⟨by omega, fun h => ?_, fun c h2 h3 h4 => ?_, fun c h2 h3 => ?_⟩
        · have := a2 (by omega)
          rw [(hl t (by omega) (by omega) (by omega)).1, hl2 t (by omega) (by omega)] at this
          exact this
        · by_cases hc : c = s
          · subst hc; exact hb
          · have := a3 c (by omega) h3
            rw [(hl c (by omega) (by omega) hc).1, hl2 c (by omega) (by omega)] at this
            exact this h4
        · have h5 := a4 c h2 h3
          by_cases hc : c = s
          · subst hc
            rw [if_neg (by omega), if_neg (by omega), if_neg (by omega), if_neg (by omega)] at h5
            have h6 : c ≤ c ∧ c < t ∧ n (7 + c) = 0 := ⟨by omega, by omega, hk⟩
            rw [if_pos h6, if_pos h6, if_pos h6, if_pos h6]
            exact ⟨h5.1.trans hls.1, h5.2.1.trans hls.2.1, h5.2.2.1.trans hls.2.2.1, h5.2.2.2.trans hls.2.2.2⟩
          · have h6 := hl c h2 h3 hc
            rw [h6.1, h6.2.1, h6.2.2.1, h6.2.2.2] at h5
            by_cases h7 : s + 1 ≤ c ∧ c < t ∧ n (7 + c) = 0
            · rw [if_pos h7, if_pos h7, if_pos h7, if_pos h7] at h5
              have h8 : s ≤ c ∧ c < t ∧ n (7 + c) = 0 := ⟨by omega, h7.2⟩
              rw [if_pos h8, if_pos h8, if_pos h8, if_pos h8]
              exact h5
            · rw [if_neg h7, if_neg h7, if_neg h7, if_neg h7] at h5
              have h8 : ¬ (s ≤ c ∧ c < t ∧ n (7 + c) = 0) := fun z => h7 ⟨by omega, z.2⟩
              rw [if_neg h8, if_neg h8, if_neg h8, if_neg h8]
              exact h5
    · have e : nTks n se s (m + 1) = nTks n se (s + 1) m := by rw [nTks, if_neg hk]
      rw [e]
      obtain ⟨a1, a2, a3, a4⟩ := ih n (s + 1) (by omega) (by omega)
      obtain ⟨t, ht⟩ : ∃ t, (nTks n se (s + 1) m).2 = t := ⟨_, rfl⟩
      rw [ht] at a1 a2 a3
      simp only [ht] at a4
      rw [ht]
      refine ⟨by omega, fun h => a2 (by omega), fun c h2 h3 h4 => ?_, fun c h2 h3 => ?_⟩
      · by_cases hc : c = s
        · subst hc; exact absurd h4 hk
        · exact a3 c (by omega) h3 h4
      · have h5 := a4 c h2 h3
        by_cases h7 : s + 1 ≤ c ∧ c < t ∧ n (7 + c) = 0
        · rw [if_pos h7, if_pos h7, if_pos h7, if_pos h7] at h5
          have h8 : s ≤ c ∧ c < t ∧ n (7 + c) = 0 := ⟨by omega, h7.2⟩
          rw [if_pos h8, if_pos h8, if_pos h8, if_pos h8]
          exact h5
        · rw [if_neg h7, if_neg h7, if_neg h7, if_neg h7] at h5
          have h8 : ¬ (s ≤ c ∧ c < t ∧ n (7 + c) = 0) := fun z => h7 ⟨by
            by_cases hc : c = s
            · subst hc; exact absurd z.2.2 hk
            · omega, z.2⟩
          rw [if_neg h8, if_neg h8, if_neg h8, if_neg h8]
          exact h5
theorem zcn_ex {P : Int → Bool} : ∀ (k : Nat) (lo : Int), 1 ≤ zcn P lo k → ∃ i, lo ≤ i ∧ i < lo + k ∧ P i = true := by
  intro k
  induction k with
  | zero => intro lo h; simp [zcn] at h
  | succ k ih =>
    intro lo h
    cases hp : P lo
    · rw [zcn, hp] at h
      obtain ⟨i, h1, h2, h3⟩ := ih (lo + 1) (by simpa [zb] using h)
      exact ⟨i, by omega, by omega, h3⟩
    · exact ⟨lo, by omega, by omega, hp⟩
/-- what one block's writing does to the row: t is where it goes, the blocks of 'hit' fail on the way -/
theorem nWrB_spec {n : zN} (hN : nWn n) (hB : nWb n) (kind se v k : Int) (hr : n 4 < n 0 - n 1) (hg : n (103 + n 4) = 1 → 1 ≤ nGc n) :
    ∃ (t : Int) (hit : Int → Prop), (n (103 + n 4) = 0 → t = n 4 ∧ ∀ c, ¬ hit c) ∧ (n (103 + n 4) = 1 → n 0 - n 1 ≤ t ∧ t < n 0 ∧ n (7 + t) = 0 ∧ n (103 + t) = 0 ∧ t = (nTks (nLay (zu n 4 (n 4 + 1)) (n 4) 3 se (-1) (-1)) se (n 0 - n 1) (n 1).toNat).2) ∧ (∀ c, hit c → n 0 - n 1 ≤ c ∧ c < t ∧ n (7 + c) = 0 ∧ n (103 + c) = 1) ∧
    (∀ c, 0 ≤ c → c < 96 → (nWrB n kind se v k (7 + c) = kind ∧ c = t ∨ nWrB n kind se v k (7 + c) = 3 ∧ c ≠ t ∧ (c = n 4 ∨ hit c) ∨ nWrB n kind se v k (7 + c) = n (7 + c) ∧ c ≠ t ∧ c ≠ n 4 ∧ ¬ hit c) ∧ (nWrB n kind se v k (295 + c) = se + 1 ∧ (c = t ∨ c = n 4 ∨ hit c) ∨ nWrB n kind se v k (295 + c) = n (295 + c) ∧ c ≠ t ∧ c ≠ n 4 ∧ ¬ hit c) ∧ (nWrB n kind se v k (391 + c) = v + 1 ∧ c = t ∨ nWrB n kind se v k (391 + c) = n (391 + c) ∧ c ≠ t) ∧ (nWrB n kind se v k (487 + c) = k + 1 ∧ c = t ∨ nWrB n kind se v k (487 + c) = n (487 + c) ∧ c ≠ t) ∧ (nWrB n kind se v k (583 + c) = n 4 + 1 ∧ c = t ∧ t ≠ n 4 ∨ nWrB n kind se v k (583 + c) = n (583 + c) ∧ (c ≠ t ∨ t = n 4)) ∧ (nWrB n kind se v k (679 + c) = t + 1 ∧ c = n 4 ∧ t ≠ n 4 ∨ nWrB n kind se v k (679 + c) = n (679 + c) ∧ (c ≠ n 4 ∨ t = n 4))) ∧
    nWrB n kind se v k 4 = n 4 + 1 ∧ (∀ i, i ≠ 4 → i < 7 ∨ (103 ≤ i ∧ i < 295) ∨ 775 ≤ i → nWrB n kind se v k i = n i) := by
  have hN' := hN
  unfold nWn at hN'
  have hb := hB (n 4) (by omega) (by omega)
  rcases hb.2.1 with hz | hz
  · refine ⟨n 4, fun _ => False, fun _ => ⟨rfl, fun _ z => z⟩, fun z => by omega, fun c z => z.elim, fun c h0 h1 => ?_, ?_, fun i hi4 hi => ?_⟩
    · have e : nWrB n kind se v k = nLay (zu n 4 (n 4 + 1)) (n 4) kind se v k := by unfold nWrB; rw [if_pos hz]
      rw [e]
      have hl := nLay_at (zu n 4 (n 4 + 1)) (b := n 4) (kind := kind) (se := se) (v := v) (k := k) (by omega) (by omega) h0 h1
      have ho : ∀ i : Int, i ≠ 4 → zu n 4 (n 4 + 1) i = n i := fun i hi => zu_ne hi
      have h2 : nLay (zu n 4 (n 4 + 1)) (n 4) kind se v k (583 + c) = n (583 + c) := by rw [nLay_out _ (by omega) (by omega) (by omega), ho _ (by omega)]
      have h3 : nLay (zu n 4 (n 4 + 1)) (n 4) kind se v k (679 + c) = n (679 + c) := by rw [nLay_out _ (by omega) (by omega) (by omega), ho _ (by omega)]
      rw [hl.1, hl.2.1, hl.2.2.1, hl.2.2.2, h2, h3, ho _ (by omega), ho _ (by omega), ho _ (by omega), ho _ (by omega)]
      by_cases hc : c = n 4
      · simp [hc]
      · simp [hc]
    · unfold nWrB
      rw [if_pos hz, nLay_out _ (by omega) (by omega) (by omega), zu_eq rfl]
    · unfold nWrB
      rw [if_pos hz, nLay_out _ (by omega) (by omega) (by omega), zu_ne hi4]
  · obtain ⟨n2, hn2⟩ : ∃ x, x = nLay (zu n 4 (n 4 + 1)) (n 4) 3 se (-1) (-1) := ⟨_, rfl⟩
    have hP := nTks_P se (n 1).toNat n2 (n 0 - n 1) (by omega) (by omega)
    have hO := nTks_out se (n 1).toNat n2 (n 0 - n 1) (by omega) (by omega)
    have hl := fun (c : Int) (h0 : 0 ≤ c) (h1 : c < 96) => nLay_at (zu n 4 (n 4 + 1)) (b := n 4) (kind := 3) (se := se) (v := -1) (k := -1) (by omega) (by omega) h0 h1
    rw [← hn2] at hl
    have ho : ∀ i : Int, i ≠ 4 → zu n 4 (n 4 + 1) i = n i := fun i hi => zu_ne hi
    have hlo : ∀ i : Int, i < 7 ∨ (103 ≤ i ∧ i < 295) ∨ 583 ≤ i → n2 i = zu n 4 (n 4 + 1) i := fun i hi => by rw [hn2]; exact nLay_out _ (by omega) (by omega) hi
    have e : nWrB n kind se v k = zu (zu (nLay (nTks n2 se (n 0 - n 1) (n 1).toNat).1 (nTks n2 se (n 0 - n 1) (n 1).toNat).2 kind se v k) (583 + (nTks n2 se (n 0 - n 1) (n 1).toNat).2) (n 4 + 1)) (679 + n 4) ((nTks n2 se (n 0 - n 1) (n 1).toNat).2 + 1) := by
      unfold nWrB; rw [if_neg (by omega), ← hn2]
    obtain ⟨p, hp⟩ : ∃ p, p = (nTks n2 se (n 0 - n 1) (n 1).toNat).1 := ⟨_, rfl⟩
    obtain ⟨t, ht⟩ : ∃ t, t = (nTks n2 se (n 0 - n 1) (n 1).toNat).2 := ⟨_, rfl⟩
    simp only [← ht, ← hp] at hP hO
    rw [← ht, ← hp] at e
    obtain ⟨a1, a2, a3, a4⟩ := hP
    obtain ⟨g, g1, g2, g3⟩ := zcn_ex _ _ (hg hz)
    simp only [Bool.and_eq_true, decide_eq_true_eq] at g3
    have hn2k : ∀ c, n 0 - n 1 ≤ c → c < 96 → n2 (7 + c) = n (7 + c) ∧ n2 (103 + c) = n (103 + c) := fun c h0 h1 => by
      have := (hl c (by omega) h1).1
      rw [if_neg (by omega), ho _ (by omega)] at this
      exact ⟨this, by rw [hlo _ (by omega), ho _ (by omega)]⟩
    have htl : t < n 0 := by
      by_cases h : t < n 0
      · exact h
      · have h4 := hn2k g (by omega) (by omega)
        exact absurd (h4.2.trans g3.2) (a3 g (by omega) (by omega) (h4.1.trans g3.1))
    have a2' := a2 (by omega)
    have h2t := hn2k t (by omega) (by omega)
    rw [h2t.1, h2t.2] at a2'
    refine ⟨t, fun c => n 0 - n 1 ≤ c ∧ c < t ∧ n (7 + c) = 0, fun z => by omega, fun _ => ⟨by omega, htl, a2'.1, a2'.2, by rw [ht, hn2]⟩, fun c z => ⟨z.1, z.2.1, z.2.2, ?_⟩, fun c h0 h1 => ?_, ?_, fun i hi4 hi => ?_⟩
    · have h4 := hn2k c z.1 (by omega)
      have h5 := a3 c z.1 z.2.1 (h4.1.trans z.2.2)
      have h6 := (hB c (by omega) (by omega)).2.1
      omega
    · rw [e]
      have q1 := a4 c h0 h1
      have q2 := hl c h0 h1
      have q3 := nLay_at p (b := t) (kind := kind) (se := se) (v := v) (k := k) (by omega) (by omega) h0 h1
      have hbc := hB c h0 h1
      have hO2 : p (583 + c) = n (583 + c) := by rw [hO _ (by omega), hlo _ (by omega), ho _ (by omega)]
      have hO3 : p (679 + c) = n (679 + c) := by rw [hO _ (by omega), hlo _ (by omega), ho _ (by omega)]
      have r1 : zu (zu (nLay p t kind se v k) (583 + t) (n 4 + 1)) (679 + n 4) (t + 1) (7 + c) = nLay p t kind se v k (7 + c) := by rw [zu_ne (by omega), zu_ne (by omega)]
      have r2 : zu (zu (nLay p t kind se v k) (583 + t) (n 4 + 1)) (679 + n 4) (t + 1) (295 + c) = nLay p t kind se v k (295 + c) := by rw [zu_ne (by omega), zu_ne (by omega)]
      have r3 : zu (zu (nLay p t kind se v k) (583 + t) (n 4 + 1)) (679 + n 4) (t + 1) (391 + c) = nLay p t kind se v k (391 + c) := by rw [zu_ne (by omega), zu_ne (by omega)]
      have r4 : zu (zu (nLay p t kind se v k) (583 + t) (n 4 + 1)) (679 + n 4) (t + 1) (487 + c) = nLay p t kind se v k (487 + c) := by rw [zu_ne (by omega), zu_ne (by omega)]
      have r5 : zu (zu (nLay p t kind se v k) (583 + t) (n 4 + 1)) (679 + n 4) (t + 1) (583 + c) = if c = t then n 4 + 1 else n (583 + c) := by
        rw [zu_ne (by omega)]
        split
        · rename_i h; rw [zu_eq (by omega)]
        · rw [zu_ne (by omega), nLay_out _ (by omega) (by omega) (by omega), hO2]
      have r6 : zu (zu (nLay p t kind se v k) (583 + t) (n 4 + 1)) (679 + n 4) (t + 1) (679 + c) = if c = n 4 then t + 1 else n (679 + c) := by
        split
        · rename_i h; rw [zu_eq (by omega)]
        · rw [zu_ne (by omega), zu_ne (by omega), nLay_out _ (by omega) (by omega) (by omega), hO3]
      rw [r1, r2, r3, r4, r5, r6, q3.1, q3.2.1, q3.2.2.1, q3.2.2.2, q1.1, q1.2.1, q1.2.2.1, q1.2.2.2]
      rw [ho _ (by omega), ho _ (by omega), ho _ (by omega), ho _ (by omega)] at q2
      have htb : t ≠ n 4 := by omega
      by_cases c1 : c = t
      · subst c1
        simp [htb]
      · by_cases c2 : c = n 4
        · subst c2
          have hh : ¬ (n 0 - n 1 ≤ n 4 ∧ n 4 < t ∧ n2 (7 + n 4) = 0) := by omega
          have hh2 : ¬ (n 0 - n 1 ≤ n 4 ∧ n 4 < t ∧ n (7 + n 4) = 0) := by omega
          simp only [if_true] at q2
          simp only [if_neg hh, if_neg c1, q2.1, q2.2.1, q2.2.2.1, q2.2.2.2, if_true, hh2]
          have hz0 := hb.2.2.2.2.2.2.2.2.2.2.1
          have hz1 := hb.2.2.2.2.2.2.2.2.2.2.2.1
          simp [c1, htb]
          omega
        · simp only [if_neg c2] at q2
          rw [q2.1]
          have hz0 := hbc.2.2.2.2.2.2.2.2.2.2.1
          by_cases c3 : n 0 - n 1 ≤ c ∧ c < t ∧ n (7 + c) = 0
          · have hz2 := hz0 c3.2.2
            simp only [if_pos c3, if_neg c1, if_neg c2, q2.2.2.1, q2.2.2.2]
            simp [c1, c2, c3, hz2]
          · simp only [if_neg c3, if_neg c1, if_neg c2, q2.2.1, q2.2.2.1, q2.2.2.2]
            simp [c1, c2, c3]
    · rw [e, zu_ne (by omega), zu_ne (by omega), nLay_out _ (by omega) (by omega) (by omega), hO _ (by omega), hlo _ (by omega), zu_eq rfl]
    · rw [e, zu_ne (by omega), zu_ne (by omega), nLay_out _ (by omega) (by omega) (by omega), hO _ (by omega), hlo _ (by omega), zu_ne hi4]

/-! The reference: keeping rows for undo, snapshots. -/
/-- only the undo rows and their count differ -/
def zK (σ σ' : zW) : Prop := (∀ k d c, ¬ (k = 3 ∧ d = 0 ∧ (c = 0 ∨ c = 25)) → σ' k d c = σ k d c) ∧ ∀ i, i ≠ 24 → σ' 3 0 0 i = σ 3 0 0 i
/-- the undo rows are U 0 .. U (c - 1) -/
def zUn (σ : zW) (c : Int) (U : Int → zN) : Prop := σ 3 0 0 24 = c ∧ 0 ≤ c ∧ c ≤ 10 ∧ ∀ k i, 0 ≤ k → k < c → 0 ≤ i → i < 1555 → σ 3 0 25 (1555 * k + i) = U k i
def kC (c : Int) : Int := if c = 10 then 10 else c + 1
def kU (c : Int) (U : Int → zN) (n : zN) : Int → zN := fun k => if c = 10 then (if k = 9 then n else U (k + 1)) else if k = c then n else U k
/-- the snapshots: h says which are there, S which rows -/
def zSn (σ : zW) (h : Int → Bool) (S : Int → zN) : Prop := ∀ j, 0 ≤ j → j < 2 → σ 3 0 27 j = zb (h j) ∧ (h j = true → ∀ i, 0 ≤ i → i < 1555 → σ 3 0 26 (1555 * j + i) = S j i)
section zMod
variable {E : zE} {σ : zW} {n : zN}
theorem e10_keeps_J (hW : zWF E) (hm : zU E 3 0 = true) (h1 : σ 3 0 1 = n) {c : Int} (h24 : σ 3 0 0 24 = c) (hc0 : 0 ≤ c) (hc1 : c ≤ 9) : ∃ σ', f_X10_keeps_J58 (zH E σ) (zL E 3 0 0) = some (zH E σ') ∧ zK σ σ' ∧ σ' 3 0 0 24 = c + 1 ∧ ∀ k i, 0 ≤ i → i < 1555 → σ' 3 0 25 (1555 * k + i) = if k = c then n i else σ 3 0 25 (1555 * k + i) := by
  have hcp := e10_copies (c1 := 1) (c2 := 25) (N1 := 1555) (N2 := 15550) hW hm rfl rfl (by omega) (by omega) (a := 0) (b := 1555 * c) (by omega) (by omega) (by omega) (by omega) (Or.inl (by omega)) σ
  obtain ⟨τ, ht⟩ : ∃ x, x = zr σ 3 0 25 (fun i => if 1555 * c ≤ i ∧ i < 1555 * c + 1555 then σ 3 0 1 (0 + (i - 1555 * c)) else σ 3 0 25 i) := ⟨_, rfl⟩
  rw [← ht] at hcp
  have g24 := zg_md24 (σ := σ) hW hm
  have g24' := zg_md24 (σ := τ) hW hm
  rw [h24] at g24
  rw [show τ 3 0 0 24 = c by rw [ht, zr_ne (by omega), h24]] at g24'
  refine ⟨zs τ 3 0 0 24 (c + 1), ?_, ⟨fun k d c' z => ?_, fun i hi => ?_⟩, ?_, fun k i hi0 hi1 => ?_⟩
  · simp (disch := first | assumption | omega) only [f_X10_keeps_J58, zg_md1 hW hm, zg_md25 hW hm, g24, hcp, g24', zp_md24 hW hm, zz_some, zz_lit, zz_num, zI_lt, zI_le, zI_eq, zI_nat, zz_b, if_pos, if_neg, if_true, if_false]
  · rw [zs_ne (by omega), ht, zr_ne (by omega)]
  · rw [zs_at, if_neg hi, ht, zr_ne (by omega)]
  · rw [zs_at, if_pos rfl]
  · rw [zs_ne (by omega), ht, zr_at, h1]
    by_cases hk : k = c
    · rw [if_pos hk, if_pos (by omega)]
      congr 1
      omega
    · rw [if_neg hk, if_neg (by omega)]
theorem e10_keeps_L (hW : zWF E) (hm : zU E 3 0 = true) : ∀ (m fuel : Nat) (t : Int) (σ : zW), 0 ≤ t → t + m = 9 → m < fuel → σ 3 0 0 24 = 9 → ∃ σ', f_X10_keeps_L21 fuel (zH E σ) (zL E 3 0 0) (zI t) = f_X10_keeps_J58 (zH E σ') (zL E 3 0 0) ∧ (∀ k d c, ¬ (k = 3 ∧ d = 0 ∧ c = 25) → σ' k d c = σ k d c) ∧ ∀ k i, k < 9 → 0 ≤ i → i < 1555 → σ' 3 0 25 (1555 * k + i) = if k < t then σ 3 0 25 (1555 * k + i) else σ 3 0 25 (1555 * (k + 1) + i) := by
  intro m
  induction m with
  | zero =>
    intro fuel t σ h0 h1 h2 h24
    obtain ⟨f, rfl, h4⟩ := zfuel h2
    have g24 := zg_md24 (σ := σ) hW hm
    rw [h24] at g24
    refine ⟨σ, ?_, fun _ _ _ _ => rfl, fun k i hk hi0 hi1 => by rw [if_pos (by omega)]⟩
    simp (disch := first | assumption | omega) only [f_X10_keeps_L21, g24, zz_some, zz_lit, zz_num, zI_lt, zI_le, zI_eq, zI_nat, zz_b, if_pos, if_neg, if_true, if_false]
  | succ m ih =>
    intro fuel t σ h0 h1 h2 h24
    obtain ⟨f, rfl, h4⟩ := zfuel h2
    have g24 := zg_md24 (σ := σ) hW hm
    rw [h24] at g24
    have hcp := e10_copies (c1 := 25) (c2 := 25) (N1 := 15550) (N2 := 15550) hW hm rfl rfl (by omega) (by omega) (a := 1555 * (t + 1)) (b := 1555 * t) (by omega) (by omega) (by omega) (by omega) (Or.inr (by omega)) σ
    obtain ⟨τ, ht⟩ : ∃ x, x = zr σ 3 0 25 (fun i => if 1555 * t ≤ i ∧ i < 1555 * t + 1555 then σ 3 0 25 (1555 * (t + 1) + (i - 1555 * t)) else σ 3 0 25 i) := ⟨_, rfl⟩
    rw [← ht] at hcp
    obtain ⟨σ', a1, a2, a3⟩ := ih f (t + 1) τ (by omega) (by omega) (by omega) (by rw [ht, zr_ne (by omega), h24])
    refine ⟨σ', ?_, fun k d c z => (a2 k d c z).trans (by rw [ht, zr_ne z]), fun k i hk hi0 hi1 => ?_⟩
    · rw [← a1]
      simp (disch := first | assumption | omega) only [f_X10_keeps_L21, zg_md25 hW hm, g24, hcp, zz_some, zz_lit, zz_num, zI_lt, zI_le, zI_eq, zI_nat, zz_b, if_pos, if_neg, if_true, if_false]
    · rw [a3 k i hk hi0 hi1, ht, zr_at]
      by_cases hkt : k < t
      · rw [if_pos (by omega), if_neg (by omega), if_pos hkt]
      · rw [if_neg hkt]
        by_cases hk2 : k = t
        · rw [if_pos (by omega), if_pos (by omega), hk2]
          congr 1
          omega
        · rw [if_neg (by omega), if_neg (by omega)]
theorem e10_keeps (hW : zWF E) (hm : zU E 3 0 = true) (h1 : σ 3 0 1 = n) {c : Int} {U : Int → zN} (hU : zUn σ c U) : ∃ σ', f_X10_keeps (zH E σ) (zL E 3 0 0) = some (zH E σ') ∧ zK σ σ' ∧ zUn σ' (kC c) (kU c U n) := by
  obtain ⟨h24, hc0, hc1, hU⟩ := hU
  have g24 := zg_md24 (σ := σ) hW hm
  rw [h24] at g24
  by_cases hc : c = 10
  · obtain ⟨τ, ht⟩ : ∃ x, zs σ 3 0 0 24 (10 - 1) = x := ⟨_, rfl⟩
    obtain ⟨σ1, a1, a2, a3⟩ := e10_keeps_L hW hm 9 g_N 0 τ (by omega) (by omega) (by unfold g_N; omega) (by rw [← ht, zs_at, if_pos rfl]; rfl)
    obtain ⟨σ2, b1, b2, b3, b4⟩ := e10_keeps_J (n := n) (c := 9) (σ := σ1) hW hm (by rw [a2 _ _ _ (by omega), ← ht, zs_ne (by omega), h1]) (by rw [a2 _ _ _ (by omega), ← ht, zs_at, if_pos rfl]; rfl) (by omega) (by omega)
    refine ⟨σ2, ?_, ⟨fun k d c' z => ?_, fun i hi => ?_⟩, ?_, ?_, ?_, fun k i hk0 hk1 hi0 hi1 => ?_⟩
    · rw [← b1, ← a1]
      simp (disch := first | assumption | omega) only [f_X10_keeps, g24, hc, zp_md24 hW hm, ht, zz_some, zz_lit, zz_num, zI_lt, zI_le, zI_eq, zI_nat, zz_b, if_pos, if_neg, if_true, if_false]
    · rw [b2.1 k d c' z, a2 k d c' (by omega), ← ht, zs_ne (by omega)]
    · rw [b2.2 i hi, a2 _ _ _ (by omega), ← ht, zs_at, if_neg hi]
    · rw [b3]; unfold kC; rw [if_pos hc]; rfl
    · unfold kC; rw [if_pos hc]; omega
    · unfold kC; rw [if_pos hc]; omega
    · unfold kC at hk1
      rw [if_pos hc] at hk1
      unfold kU
      rw [b4 k i hi0 hi1, if_pos hc]
      by_cases h9 : k = 9
      · rw [if_pos h9, if_pos h9]
      · rw [if_neg h9, if_neg h9, a3 k i (by omega) hi0 hi1, if_neg (by omega), ← ht, zs_ne (by omega)]
        exact hU (k + 1) i (by omega) (by omega) hi0 hi1
  · obtain ⟨σ2, b1, b2, b3, b4⟩ := e10_keeps_J (n := n) (c := c) (σ := σ) hW hm h1 h24 hc0 (by omega)
    refine ⟨σ2, ?_, b2, ?_, ?_, ?_, fun k i hk0 hk1 hi0 hi1 => ?_⟩
    · rw [← b1]
      simp (disch := first | assumption | omega) only [f_X10_keeps, g24, zz_some, zz_lit, zz_num, zI_lt, zI_le, zI_eq, zI_nat, zz_b, if_pos, if_neg, if_true, if_false]
      try simp [hc]
    · rw [b3]; unfold kC; rw [if_neg hc]
    · unfold kC; rw [if_neg hc]; omega
    · unfold kC; rw [if_neg hc]; omega
    · unfold kC at hk1
      rw [if_neg hc] at hk1
      unfold kU
      rw [b4 k i hi0 hi1, if_neg hc]
      by_cases h9 : k = c
      · rw [if_pos h9, if_pos h9]
      · rw [if_neg h9, if_neg h9]
        exact hU k i hk0 (by omega) hi0 hi1
theorem e10_undo (hW : zWF E) (hm : zU E 3 0 = true) {c : Int} {U : Int → zN} (hU : zUn σ c U) : ∃ σ', f_X10_undo (zH E σ) (zL E 3 0 0) = some (zH E σ', zI (if c = 0 then -1 else c - 1)) ∧ (∀ k d c', ¬ (k = 3 ∧ d = 0 ∧ (c' = 0 ∨ c' = 1)) → σ' k d c' = σ k d c') ∧ (∀ i, i ≠ 0 → i ≠ 24 → σ' 3 0 0 i = σ 3 0 0 i) ∧ σ' 3 0 0 0 = 0 ∧ (c = 0 → σ' 3 0 1 = σ 3 0 1) ∧ (c ≠ 0 → ∀ i, 0 ≤ i → i < 1555 → σ' 3 0 1 i = U (c - 1) i) ∧ zUn σ' (if c = 0 then 0 else c - 1) U := by
  obtain ⟨h24, hc0, hc1, hU⟩ := hU
  obtain ⟨τ, ht⟩ : ∃ x, zs σ 3 0 0 0 0 = x := ⟨_, rfl⟩
  have t24 : τ 3 0 0 24 = c := by rw [← ht, zs_at, if_neg (by omega), h24]
  have g24 := zg_md24 (σ := τ) hW hm
  rw [t24] at g24
  by_cases hc : c = 0
  · refine ⟨τ, ?_, fun k d c' z => by rw [← ht, zs_ne (by omega)], fun i h0 h1 => by rw [← ht, zs_at, if_neg h0], by rw [← ht, zs_at, if_pos rfl], fun _ => by rw [← ht]; funext i; rw [zs_ne (by omega)], fun h => absurd hc h, ?_, ?_, ?_, fun k i hk0 hk1 => ?_⟩
    · simp (disch := first | assumption | omega) only [f_X10_undo, zp_md0 hW hm, ht, g24, hc, zz_some, zz_lit, zz_num, zI_lt, zI_le, zI_eq, zI_nat, zz_b, if_pos, if_neg, if_true, if_false]
      try simp
    · rw [t24, hc]; rfl
    · rw [if_pos hc]; omega
    · rw [if_pos hc]; omega
    · rw [if_pos hc] at hk1; omega
  · obtain ⟨τ1, ht1⟩ : ∃ x, zs τ 3 0 0 24 (c - 1) = x := ⟨_, rfl⟩
    have u24 : τ1 3 0 0 24 = c - 1 := by rw [← ht1, zs_at, if_pos rfl]
    have g24' := zg_md24 (σ := τ1) hW hm
    rw [u24] at g24'
    have hcp := e10_copies (c1 := 25) (c2 := 1) (N1 := 15550) (N2 := 1555) hW hm rfl rfl (by omega) (by omega) (a := 1555 * (c - 1)) (b := 0) (by omega) (by omega) (by omega) (by omega) (Or.inl (by omega)) τ1
    obtain ⟨τ2, ht2⟩ : ∃ x, x = zr τ1 3 0 1 (fun i => if 0 ≤ i ∧ i < 0 + 1555 then τ1 3 0 25 (1555 * (c - 1) + (i - 0)) else τ1 3 0 1 i) := ⟨_, rfl⟩
    rw [← ht2] at hcp
    have v24 : τ2 3 0 0 24 = c - 1 := by rw [ht2, zr_ne (by omega), u24]
    have g24'' := zg_md24 (σ := τ2) hW hm
    rw [v24] at g24''
    refine ⟨τ2, ?_, fun k d c' z => by rw [ht2, zr_ne (by omega), ← ht1, zs_ne (by omega), ← ht, zs_ne (by omega)], fun i h0 h1 => by rw [ht2, zr_ne (by omega), ← ht1, zs_at, if_neg h1, ← ht, zs_at, if_neg h0], by rw [ht2, zr_ne (by omega), ← ht1, zs_at, if_neg (by omega), ← ht, zs_at, if_pos rfl], fun h => absurd h hc, fun _ i hi0 hi1 => ?_, ?_, ?_, ?_, fun k i hk0 hk1 hi0 hi1 => ?_⟩
    · simp (disch := first | assumption | omega) only [f_X10_undo, zp_md0 hW hm, ht, g24, zp_md24 hW hm, ht1, zg_md25 hW hm, g24', zg_md1 hW hm, hcp, g24'', zz_some, zz_lit, zz_num, zI_lt, zI_le, zI_eq, zI_nat, zz_b, if_pos, if_neg, if_true, if_false]
      try simp [hc]
    · rw [ht2, zr_at, if_pos (by omega), ← ht1, zs_ne (by omega), ← ht, zs_ne (by omega)]
      rw [show i - 0 = i by omega]
      exact hU (c - 1) i (by omega) (by omega) hi0 hi1
    · rw [v24, if_neg hc]
    · rw [if_neg hc]; omega
    · rw [if_neg hc]; omega
    · rw [if_neg hc] at hk1
      rw [ht2, zr_ne (by omega), ← ht1, zs_ne (by omega), ← ht, zs_ne (by omega)]
      exact hU k i hk0 (by omega) hi0 hi1

end zMod

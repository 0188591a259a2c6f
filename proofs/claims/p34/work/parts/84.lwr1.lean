/-! The law's own disc: writing blocks. -/
section yF
variable {E : zE} {σ : zW} {n : zN}
/-- rows behind one laid block -/
def yP (σ : zW) (b kind se v k : Int) : zW := zs (zs (zs (zs σ 5 0 7 b kind) 5 0 8 b se) 5 0 14 b (v + 1)) 5 0 9 b k
theorem yP_c {b kind se v k : Int} {c : Nat} (h : c ≠ 7) (h2 : c ≠ 8) (h3 : c ≠ 14) (h4 : c ≠ 9) : yP σ b kind se v k 5 0 c = σ 5 0 c := by
  unfold yP
  rw [zs_ne (fun z => h4 z.2.2), zs_ne (fun z => h3 z.2.2), zs_ne (fun z => h2 z.2.2), zs_ne (fun z => h z.2.2)]
theorem yP_k {b kind se v k : Int} {K d : Nat} (h : K ≠ 5) : yP σ b kind se v k K d = σ K d := by
  unfold yP
  rw [zs_kd (fun z => h z.1), zs_kd (fun z => h z.1), zs_kd (fun z => h z.1), zs_kd (fun z => h z.1)]
theorem yP_at {b kind se v k c : Int} : yP σ b kind se v k 5 0 7 c = (if c = b then kind else σ 5 0 7 c) ∧ yP σ b kind se v k 5 0 8 c = (if c = b then se else σ 5 0 8 c) ∧ yP σ b kind se v k 5 0 14 c = (if c = b then v + 1 else σ 5 0 14 c) ∧ yP σ b kind se v k 5 0 9 c = (if c = b then k else σ 5 0 9 c) := by
  unfold yP
  refine ⟨?_, ?_, ?_, ?_⟩
  · rw [zs_ne (by simp), zs_ne (by simp), zs_ne (by simp), zs_at]
  · rw [zs_ne (by simp), zs_ne (by simp), zs_at, zs_ne (by simp)]
  · rw [zs_ne (by simp), zs_at, zs_ne (by simp), zs_ne (by simp)]
  · rw [zs_at, zs_ne (by simp), zs_ne (by simp), zs_ne (by simp)]
theorem yRb.put (h : yRb (σ 5 0) n) {b kind se v k : Int} (b0 : 0 ≤ b) (b1 : b < 96) : yRb (yP σ b kind se v k 5 0) (nLay n b kind se v k) := by
  obtain ⟨e0, e1, e2, e3, e4, e5, e6, e7⟩ := h
  have A := fun c : Int => yP_at (σ := σ) (b := b) (kind := kind) (se := se) (v := v) (k := k) (c := c)
  refine ⟨fun c c0 c1 => ?_, fun c c0 c1 => ?_, fun c c0 c1 => ?_, fun c c0 c1 => ?_, fun c c0 c1 => ?_, fun c c0 c1 => ?_, fun c c0 c1 => ?_, fun c c0 c1 => ?_⟩
  · rw [(A c).1, (nLay_at n b0 b1 c0 c1).1, e0 c c0 c1]
  · rw [(A c).2.1, (nLay_at n b0 b1 c0 c1).2.1, e1 c c0 c1]; split <;> omega
  · rw [(A c).2.2.2, (nLay_at n b0 b1 c0 c1).2.2.2, e2 c c0 c1]; split <;> omega
  · rw [yP_c (by decide) (by decide) (by decide) (by decide), nLay_out n b0 b1 (by omega), e3 c c0 c1]
  · rw [yP_c (by decide) (by decide) (by decide) (by decide), nLay_out n b0 b1 (by omega), e4 c c0 c1]
  · rw [yP_c (by decide) (by decide) (by decide) (by decide), nLay_out n b0 b1 (by omega), e5 c c0 c1]
  · rw [yP_c (by decide) (by decide) (by decide) (by decide), nLay_out n b0 b1 (by omega), e6 c c0 c1]
  · rw [(A c).2.2.1, (nLay_at n b0 b1 c0 c1).2.2.1, e7 c c0 c1]
theorem yg_4 (hW : zWF E) (hu : zU E 5 0 = true) : g_i (zH E σ) (zL E 5 0 0) 10 4 = some (zI (σ 5 0 0 4)) := zg_ld4 hW hu
theorem yl_put_n (hW : zWF E) (hu : zU E 5 0 = true) {b kind k : Int} (b0 : 0 ≤ b) (b1 : b < 96) : f_X10_put_n (zH E σ) (zL E 5 0 0) (zI b) (zI kind) (zI k) = some (zH E (yP σ b kind (σ 5 0 0 4 - 1) (-1) k)) := by
  have z := fun τ => zz_ea (σ := τ) hW hu
  simp (disch := first | assumption | omega) only [f_X10_put_n, zz_ldo hW hu, z, yg_4 hW hu, zz_some, zz_nul, zz_lit, zz_num, zI_lt, zI_le, zI_eq, zI_nat, zz_b, if_pos, if_neg, if_true, if_false]
  unfold yP
  rw [zs_ne (by simp)]
  rfl
theorem yl_put_r (hW : zWF E) (hu : zU E 5 0 = true) {b kind k v : Int} (b0 : 0 ≤ b) (b1 : b < 96) (v0 : 0 ≤ v) (hv : zU E 7 v.toNat = true) : f_X10_put_r (zH E σ) (zL E 5 0 0) (zI b) (zI kind) (yVe E v) (zI k) = some (zH E (yP σ b kind (σ 5 0 0 4 - 1) v k)) := by
  have z := fun τ => zz_ea (σ := τ) hW hu
  have zo : ∀ τ, g_ob (zH E τ) (yVe E v) 13 = some () := fun τ => (zz_lvo (σ := τ) hW hv).2
  simp (disch := first | assumption | omega) only [f_X10_put_r, zz_ldo hW hu, z, zo, yg_4 hW hu, zz_some, zz_nul, zz_lit, zz_num, zI_lt, zI_le, zI_eq, zI_nat, zz_b, if_pos, if_neg, if_true, if_false]
  unfold yP
  rw [zs_ne (by simp), show ((v.toNat : Int) + 1) = v + 1 by omega]

theorem yl_burn_n_L (hW : zWF E) (hu : zU E 5 0 = true) {kind k b4 : Int} (b40 : 0 ≤ b4) (b41 : b4 < 96) : ∀ (m fuel : Nat) (σ : zW) (n : zN) (s : Int), 0 ≤ s → s + m = σ 5 0 0 0 → s + m ≤ 96 → m < fuel → yRb (σ 5 0) n → (∀ c, 0 ≤ c → c < 96 → (0 ≤ n (7 + c) ∧ n (7 + c) ≤ 3) ∧ (n (103 + c) = 0 ∨ n (103 + c) = 1)) → (∃ g, s ≤ g ∧ g < s + m ∧ n (7 + g) = 0 ∧ n (103 + g) = 0) → ∃ σ', f_X10_burn_n_L50 fuel (zH E σ) (zL E 5 0 0) (zI kind) (zI k) (zI b4) (zI s) = some (zH E σ', zI (nTks n (σ 5 0 0 4 - 1) s m).2) ∧ yRb (σ' 5 0) (zu (zu (nLay (nTks n (σ 5 0 0 4 - 1) s m).1 (nTks n (σ 5 0 0 4 - 1) s m).2 kind (σ 5 0 0 4 - 1) (-1) k) (583 + (nTks n (σ 5 0 0 4 - 1) s m).2) (b4 + 1)) (679 + b4) ((nTks n (σ 5 0 0 4 - 1) s m).2 + 1)) ∧ (∀ c, c = 0 ∨ c = 15 ∨ c = 16 → σ' 5 0 c = σ 5 0 c) ∧ (∀ K d, K ≠ 5 → σ' K d = σ K d) ∧ (∀ j, σ' 5 0 14 j = σ 5 0 14 j ∨ σ' 5 0 14 j = 0 ∨ σ' 5 0 14 j = (-1) + 1) := by
  intro m
  induction m with
  | zero =>
    intro fuel σ n s h0 h1 h2 h3 hR hr hg
    obtain ⟨g, g1, g2, -⟩ := hg
    omega
  | succ m ih =>
    intro fuel σ n s h0 h1 h2 h3 hR hr hg
    obtain ⟨f, rfl, h5⟩ := zfuel h3
    have hrs := hr s h0 (by omega)
    have z := fun τ => zz_ea (σ := τ) hW hu
    have gk : g_ald 0 (zH E σ) (zL E 5 0 7) (zI s) = some (zI (n (7 + s))) := by rw [← hR.1 s h0 (by omega)]; simp (disch := omega) only [z]
    have gb : g_ald 1 (zH E σ) (zL E 5 0 12) (zI s) = some (zI (n (103 + s))) := by rw [← hR.2.2.2.2.2.1 s h0 (by omega)]; simp (disch := omega) only [z]
    have g0 : g_i (zH E σ) (zL E 5 0 0) 10 0 = some (zI (σ 5 0 0 0)) := zg_ld0 hW hu
    have ob := zz_ldo (σ := σ) hW hu
    by_cases hk : n (7 + s) = 0
    · by_cases hb : n (103 + s) = 0
      · have e : nTks n (σ 5 0 0 4 - 1) s (m + 1) = (n, s) := by rw [nTks, if_pos hk, if_pos hb]
        rw [e]
        have hp := yl_put_n hW hu (b := s) (kind := kind) (k := k) (σ := σ) h0 (by omega)
        have hRp := hR.put (kind := kind) (se := σ 5 0 0 4 - 1) (v := (-1)) (k := k) h0 (show s < 96 by omega)
        refine ⟨zs (zs (yP σ s kind (σ 5 0 0 4 - 1) (-1) k) 5 0 10 s b4) 5 0 11 b4 s, ?_, ?_, fun c hc => ?_, fun K d hK => ?_, fun j => ?_⟩
        · simp (disch := first | assumption | omega) only [f_X10_burn_n_L50, g0, gk, gb, hk, hb, ob, hp, zz_ldo hW hu, z, zz_some, zz_nul, zz_lit, zz_num, zI_lt, zI_le, zI_eq, zI_nat, zz_b, if_pos, if_neg, if_true, if_false]
        · obtain ⟨e0, e1, e2, e3, e4, e5, e6, e7⟩ := hRp
          have N := fun (i : Int) (h : i < 583) => show zu (zu (nLay n s kind (σ 5 0 0 4 - 1) (-1) k) (583 + s) (b4 + 1)) (679 + b4) (s + 1) i = nLay n s kind (σ 5 0 0 4 - 1) (-1) k i by rw [zu_ne (by omega), zu_ne (by omega)]
          refine ⟨fun c c0 c1 => ?_, fun c c0 c1 => ?_, fun c c0 c1 => ?_, fun c c0 c1 => ?_, fun c c0 c1 => ?_, fun c c0 c1 => ?_, fun c c0 c1 => ?_, fun c c0 c1 => ?_⟩
          · rw [N _ (by omega), zs_ne (by simp), zs_ne (by simp), e0 c c0 c1]
          · rw [N _ (by omega), zs_ne (by simp), zs_ne (by simp), e1 c c0 c1]
          · rw [N _ (by omega), zs_ne (by simp), zs_ne (by simp), e2 c c0 c1]
          · rw [zs_ne (by simp), zs_at, zu_ne (by omega)]
            by_cases hc : c = s
            · subst hc; rw [if_pos rfl, zu_eq rfl]; omega
            · rw [if_neg hc, zu_ne (by omega), e3 c c0 c1]
          · rw [zs_at]
            by_cases hc : c = b4
            · subst hc; rw [if_pos rfl, zu_eq rfl]; omega
            · rw [if_neg hc, zu_ne (by omega), zu_ne (by omega), zs_ne (by simp), e4 c c0 c1]
          · rw [N _ (by omega), zs_ne (by simp), zs_ne (by simp), e5 c c0 c1]
          · rw [N _ (by omega), zs_ne (by simp), zs_ne (by simp), e6 c c0 c1]
          · rw [N _ (by omega), zs_ne (by simp), zs_ne (by simp), e7 c c0 c1]
        · rw [zs_ne (by omega), zs_ne (by omega), yP_c (by omega) (by omega) (by omega) (by omega)]
        · rw [zs_kd (fun q => hK q.1), zs_kd (fun q => hK q.1), yP_k hK]
        · rw [zs_ne (by simp), zs_ne (by simp), yP_at.2.2.1]
          by_cases hj : j = s
          · rw [if_pos hj]; exact Or.inr (Or.inr rfl)
          · rw [if_neg hj]; exact Or.inl rfl
      · have hb1 : n (103 + s) = 1 := by omega
        have e : nTks n (σ 5 0 0 4 - 1) s (m + 1) = nTks (nLay n s 3 (σ 5 0 0 4 - 1) (-1) (-1)) (σ 5 0 0 4 - 1) (s + 1) m := by rw [nTks, if_pos hk, if_neg hb]
        rw [e]
        have hp := yl_put_n hW hu (b := s) (kind := 3) (k := -1) (σ := σ) h0 (by omega)
        have hRp := hR.put (kind := 3) (se := σ 5 0 0 4 - 1) (v := -1) (k := -1) h0 (show s < 96 by omega)
        obtain ⟨g, g1, g2, g3, g4⟩ := hg
        have gs : g ≠ s := fun q => hb (q ▸ g4)
        have c0 : yP σ s 3 (σ 5 0 0 4 - 1) (-1) (-1) 5 0 0 = σ 5 0 0 := yP_c (by decide) (by decide) (by decide) (by decide)
        obtain ⟨σ', i1, i2, i3, i4, i5⟩ := ih f (yP σ s 3 (σ 5 0 0 4 - 1) (-1) (-1)) (nLay n s 3 (σ 5 0 0 4 - 1) (-1) (-1)) (s + 1) (by omega) (by rw [c0]; omega) (by omega) h5 hRp (fun c q0 q1 => by
          rw [(nLay_at n h0 (by omega) q0 q1).1, nLay_out n h0 (by omega) (by omega)]
          have := hr c q0 q1
          split <;> omega) ⟨g, by omega, by omega, by rw [(nLay_at n h0 (by omega) (by omega) (by omega)).1, if_neg gs]; exact g3, by rw [nLay_out n h0 (by omega) (by omega)]; exact g4⟩
        rw [c0] at i1 i2
        refine ⟨σ', ?_, i2, fun c hc => ?_, fun K d hK => ?_, fun j => ?_⟩
        · rw [← i1]
          simp (disch := first | assumption | omega) only [f_X10_burn_n_L50, g0, gk, gb, hk, hb1, ob, hp, zz_some, zz_nul, zz_lit, zz_num, zI_lt, zI_le, zI_eq, zI_nat, zz_b, if_pos, if_neg, if_true, if_false]
        · rw [i3 c hc, yP_c (by omega) (by omega) (by omega) (by omega)]
        · rw [i4 K d hK, yP_k hK]
        · have := i5 j
          rw [yP_at.2.2.1] at this
          by_cases hj : j = s
          · rw [if_pos hj] at this; rcases this with q | q | q
            · exact Or.inr (Or.inl q)
            · exact Or.inr (Or.inl q)
            · exact Or.inr (Or.inr q)
          · rw [if_neg hj] at this; exact this
    · have e : nTks n (σ 5 0 0 4 - 1) s (m + 1) = nTks n (σ 5 0 0 4 - 1) (s + 1) m := by rw [nTks, if_neg hk]
      rw [e]
      obtain ⟨g, g1, g2, g3, g4⟩ := hg
      have gs : g ≠ s := fun q => hk (q ▸ g3)
      obtain ⟨σ', i1, i2⟩ := ih f σ n (s + 1) (by omega) (by omega) (by omega) h5 hR hr ⟨g, by omega, by omega, g3, g4⟩
      refine ⟨σ', ?_, i2⟩
      rw [← i1]
      simp (disch := first | assumption | omega) only [f_X10_burn_n_L50, g0, gk, hk, ob, zz_some, zz_nul, zz_lit, zz_num, zI_lt, zI_le, zI_eq, zI_nat, zz_b, if_pos, if_neg, if_true, if_false]

theorem yl_burn_r_L (hW : zWF E) (hu : zU E 5 0 = true) {kind k b4 : Int} {v : Int} (v0 : 0 ≤ v) (hv : zU E 7 v.toNat = true) (b40 : 0 ≤ b4) (b41 : b4 < 96) : ∀ (m fuel : Nat) (σ : zW) (n : zN) (s : Int), 0 ≤ s → s + m = σ 5 0 0 0 → s + m ≤ 96 → m < fuel → yRb (σ 5 0) n → (∀ c, 0 ≤ c → c < 96 → (0 ≤ n (7 + c) ∧ n (7 + c) ≤ 3) ∧ (n (103 + c) = 0 ∨ n (103 + c) = 1)) → (∃ g, s ≤ g ∧ g < s + m ∧ n (7 + g) = 0 ∧ n (103 + g) = 0) → ∃ σ', f_X10_burn_r_L50 fuel (zH E σ) (zL E 5 0 0) (zI kind) (yVe E v) (zI k) (zI b4) (zI s) = some (zH E σ', zI (nTks n (σ 5 0 0 4 - 1) s m).2) ∧ yRb (σ' 5 0) (zu (zu (nLay (nTks n (σ 5 0 0 4 - 1) s m).1 (nTks n (σ 5 0 0 4 - 1) s m).2 kind (σ 5 0 0 4 - 1) v k) (583 + (nTks n (σ 5 0 0 4 - 1) s m).2) (b4 + 1)) (679 + b4) ((nTks n (σ 5 0 0 4 - 1) s m).2 + 1)) ∧ (∀ c, c = 0 ∨ c = 15 ∨ c = 16 → σ' 5 0 c = σ 5 0 c) ∧ (∀ K d, K ≠ 5 → σ' K d = σ K d) ∧ (∀ j, σ' 5 0 14 j = σ 5 0 14 j ∨ σ' 5 0 14 j = 0 ∨ σ' 5 0 14 j = v + 1) := by
  intro m
  induction m with
  | zero =>
    intro fuel σ n s h0 h1 h2 h3 hR hr hg
    obtain ⟨g, g1, g2, -⟩ := hg
    omega
  | succ m ih =>
    intro fuel σ n s h0 h1 h2 h3 hR hr hg
    obtain ⟨f, rfl, h5⟩ := zfuel h3
    have hrs := hr s h0 (by omega)
    have z := fun τ => zz_ea (σ := τ) hW hu
    have gk : g_ald 0 (zH E σ) (zL E 5 0 7) (zI s) = some (zI (n (7 + s))) := by rw [← hR.1 s h0 (by omega)]; simp (disch := omega) only [z]
    have gb : g_ald 1 (zH E σ) (zL E 5 0 12) (zI s) = some (zI (n (103 + s))) := by rw [← hR.2.2.2.2.2.1 s h0 (by omega)]; simp (disch := omega) only [z]
    have g0 : g_i (zH E σ) (zL E 5 0 0) 10 0 = some (zI (σ 5 0 0 0)) := zg_ld0 hW hu
    have ob := zz_ldo (σ := σ) hW hu
    by_cases hk : n (7 + s) = 0
    · by_cases hb : n (103 + s) = 0
      · have e : nTks n (σ 5 0 0 4 - 1) s (m + 1) = (n, s) := by rw [nTks, if_pos hk, if_pos hb]
        rw [e]
        have hp := yl_put_r hW hu (v := v) (b := s) (kind := kind) (k := k) (σ := σ) h0 (by omega) v0 hv
        have hRp := hR.put (kind := kind) (se := σ 5 0 0 4 - 1) (v := v) (k := k) h0 (show s < 96 by omega)
        refine ⟨zs (zs (yP σ s kind (σ 5 0 0 4 - 1) v k) 5 0 10 s b4) 5 0 11 b4 s, ?_, ?_, fun c hc => ?_, fun K d hK => ?_, fun j => ?_⟩
        · simp (disch := first | assumption | omega) only [f_X10_burn_r_L50, g0, gk, gb, hk, hb, ob, hp, zz_ldo hW hu, z, zz_some, zz_nul, zz_lit, zz_num, zI_lt, zI_le, zI_eq, zI_nat, zz_b, if_pos, if_neg, if_true, if_false]
        · obtain ⟨e0, e1, e2, e3, e4, e5, e6, e7⟩ := hRp
          have N := fun (i : Int) (h : i < 583) => show zu (zu (nLay n s kind (σ 5 0 0 4 - 1) v k) (583 + s) (b4 + 1)) (679 + b4) (s + 1) i = nLay n s kind (σ 5 0 0 4 - 1) v k i by rw [zu_ne (by omega), zu_ne (by omega)]
          refine ⟨fun c c0 c1 => ?_, fun c c0 c1 => ?_, fun c c0 c1 => ?_, fun c c0 c1 => ?_, fun c c0 c1 => ?_, fun c c0 c1 => ?_, fun c c0 c1 => ?_, fun c c0 c1 => ?_⟩
          · rw [N _ (by omega), zs_ne (by simp), zs_ne (by simp), e0 c c0 c1]
          · rw [N _ (by omega), zs_ne (by simp), zs_ne (by simp), e1 c c0 c1]
          · rw [N _ (by omega), zs_ne (by simp), zs_ne (by simp), e2 c c0 c1]
          · rw [zs_ne (by simp), zs_at, zu_ne (by omega)]
            by_cases hc : c = s
            · subst hc; rw [if_pos rfl, zu_eq rfl]; omega
            · rw [if_neg hc, zu_ne (by omega), e3 c c0 c1]
          · rw [zs_at]
            by_cases hc : c = b4
            · subst hc; rw [if_pos rfl, zu_eq rfl]; omega
            · rw [if_neg hc, zu_ne (by omega), zu_ne (by omega), zs_ne (by simp), e4 c c0 c1]
          · rw [N _ (by omega), zs_ne (by simp), zs_ne (by simp), e5 c c0 c1]
          · rw [N _ (by omega), zs_ne (by simp), zs_ne (by simp), e6 c c0 c1]
          · rw [N _ (by omega), zs_ne (by simp), zs_ne (by simp), e7 c c0 c1]
        · rw [zs_ne (by omega), zs_ne (by omega), yP_c (by omega) (by omega) (by omega) (by omega)]
        · rw [zs_kd (fun q => hK q.1), zs_kd (fun q => hK q.1), yP_k hK]
        · rw [zs_ne (by simp), zs_ne (by simp), yP_at.2.2.1]
          by_cases hj : j = s
          · rw [if_pos hj]; exact Or.inr (Or.inr rfl)
          · rw [if_neg hj]; exact Or.inl rfl
      · have hb1 : n (103 + s) = 1 := by omega
        have e : nTks n (σ 5 0 0 4 - 1) s (m + 1) = nTks (nLay n s 3 (σ 5 0 0 4 - 1) (-1) (-1)) (σ 5 0 0 4 - 1) (s + 1) m := by rw [nTks, if_pos hk, if_neg hb]
        rw [e]
        have hp := yl_put_n hW hu (b := s) (kind := 3) (k := -1) (σ := σ) h0 (by omega)
        have hRp := hR.put (kind := 3) (se := σ 5 0 0 4 - 1) (v := -1) (k := -1) h0 (show s < 96 by omega)
        obtain ⟨g, g1, g2, g3, g4⟩ := hg
        have gs : g ≠ s := fun q => hb (q ▸ g4)
        have c0 : yP σ s 3 (σ 5 0 0 4 - 1) (-1) (-1) 5 0 0 = σ 5 0 0 := yP_c (by decide) (by decide) (by decide) (by decide)
        obtain ⟨σ', i1, i2, i3, i4, i5⟩ := ih f (yP σ s 3 (σ 5 0 0 4 - 1) (-1) (-1)) (nLay n s 3 (σ 5 0 0 4 - 1) (-1) (-1)) (s + 1) (by omega) (by rw [c0]; omega) (by omega) h5 hRp (fun c q0 q1 => by
          rw [(nLay_at n h0 (by omega) q0 q1).1, nLay_out n h0 (by omega) (by omega)]
          have := hr c q0 q1
          split <;> omega) ⟨g, by omega, by omega, by rw [(nLay_at n h0 (by omega) (by omega) (by omega)).1, if_neg gs]; exact g3, by rw [nLay_out n h0 (by omega) (by omega)]; exact g4⟩
        rw [c0] at i1 i2
        refine ⟨σ', ?_, i2, fun c hc => ?_, fun K d hK => ?_, fun j => ?_⟩
        · rw [← i1]
          simp (disch := first | assumption | omega) only [f_X10_burn_r_L50, g0, gk, gb, hk, hb1, ob, hp, zz_some, zz_nul, zz_lit, zz_num, zI_lt, zI_le, zI_eq, zI_nat, zz_b, if_pos, if_neg, if_true, if_false]
        · rw [i3 c hc, yP_c (by omega) (by omega) (by omega) (by omega)]
        · rw [i4 K d hK, yP_k hK]
        · have := i5 j
          rw [yP_at.2.2.1] at this
          by_cases hj : j = s
          · rw [if_pos hj] at this; rcases this with q | q | q
            · exact Or.inr (Or.inl q)
            · exact Or.inr (Or.inl q)
            · exact Or.inr (Or.inr q)
          · rw [if_neg hj] at this; exact this
    · have e : nTks n (σ 5 0 0 4 - 1) s (m + 1) = nTks n (σ 5 0 0 4 - 1) (s + 1) m := by rw [nTks, if_neg hk]
      rw [e]
      obtain ⟨g, g1, g2, g3, g4⟩ := hg
      have gs : g ≠ s := fun q => hk (q ▸ g3)
      obtain ⟨σ', i1, i2⟩ := ih f σ n (s + 1) (by omega) (by omega) (by omega) h5 hR hr ⟨g, by omega, by omega, g3, g4⟩
      refine ⟨σ', ?_, i2⟩
      rw [← i1]
      simp (disch := first | assumption | omega) only [f_X10_burn_r_L50, g0, gk, hk, ob, zz_some, zz_nul, zz_lit, zz_num, zI_lt, zI_le, zI_eq, zI_nat, zz_b, if_pos, if_neg, if_true, if_false]

end yF

/-! Writing a block: the class. -/
section zCls
variable {E : zE} {σ : zW} {d : Nat} {n : zN}
theorem e0r_kindOf (hW : zWF E) (hu : zU E 0 d = true) {b : Int} (h0 : 0 ≤ b) (h1 : b < 96) : f_X0_kindOf (zH E σ) (zL E 0 d 1) (zI b) = some (zI (σ 0 d 2 b)) := by
  simp (disch := first | assumption | omega) only [f_X0_kindOf, zz_blo hW hu, zz_dr hW hu, zz_some, zz_lit, zz_num, zI_lt, zI_le, zI_eq, zI_nat, zz_b, if_pos, if_neg, if_true, if_false]
theorem e0r_isBad (hW : zWF E) (hu : zU E 0 d = true) {b : Int} (h0 : 0 ≤ b) (h1 : b < 96) (hb : σ 0 d 3 b = 0 ∨ σ 0 d 3 b = 1) : f_X0_isBad (zH E σ) (zL E 0 d 1) (zI b) = some (zI (σ 0 d 3 b)) := by
  simp (disch := first | assumption | omega) only [f_X0_isBad, zz_blo hW hu, zz_some, zz_lit, zz_num, zI_lt, zI_le, zI_eq, zI_nat, zz_b, if_pos, if_neg, if_true, if_false]
  rw [zX_isSet (n := 96) hW hu rfl (by decide) (by omega) (by omega) (fun _ _ => hb), if_pos ⟨h0, h1⟩, zz_some]
  rcases hb with h | h <;> rw [h] <;> rfl
theorem e0_takeSpare_L (hW : zWF E) (hu : zU E 0 d = true) {se : Int} : ∀ (m fuel : Nat) (σ : zW) (n : zN) (s : Int), 0 ≤ s → s + m = σ 0 d 1 0 → s + m ≤ 96 → (∀ c, 0 ≤ c → c < 96 → σ 0 d 2 c = n (7 + c) ∧ (0 ≤ n (7 + c) ∧ n (7 + c) ≤ 3) ∧ σ 0 d 3 c = n (103 + c) ∧ (n (103 + c) = 0 ∨ n (103 + c) = 1) ∧ σ 0 d 5 c = n (295 + c) - 1) → (∃ g, s ≤ g ∧ g < s + m ∧ n (7 + g) = 0 ∧ n (103 + g) = 0) → m < fuel →
    ∃ σ', f_X0_takeSpare_L5 fuel (zH E σ) (zL E 0 d 1) (zI se) (zI s) = some (zH E σ', zI (nTks n se s m).2) ∧ (∀ k' d' c', ¬ (k' = 0 ∧ d' = d ∧ (c' = 2 ∨ c' = 5)) → σ' k' d' c' = σ k' d' c') ∧ (∀ c, 0 ≤ c → c < 96 → σ' 0 d 2 c = (nTks n se s m).1 (7 + c) ∧ σ' 0 d 5 c = (nTks n se s m).1 (295 + c) - 1) := by
  intro m
  induction m with
  | zero =>
    intro fuel σ n s h0 h1 h2 hr hg h3
    obtain ⟨g, g1, g2, g3⟩ := hg
    omega
  | succ m ih =>
    intro fuel σ n s h0 h1 h2 hr hg h3
    obtain ⟨f, rfl, h4⟩ := zfuel h3
    have hs := hr s h0 (by omega)
    have hc : g_i (zH E σ) (zL E 0 d 1) 0 0 = some (zI (s + ((m + 1 : Nat) : Int))) := by rw [h1]; exact (zz_bl hW hu).1
    obtain ⟨cn, hcn⟩ : ∃ x, x = s + ((m + 1 : Nat) : Int) := ⟨_, rfl⟩
    rw [← hcn] at hc
    have hk := hs.1
    have hb3 := hs.2.2.1
    by_cases hk0 : n (7 + s) = 0
    · by_cases hb0 : n (103 + s) = 0
      · refine ⟨σ, ?_, fun _ _ _ _ => rfl, fun c c0 c1 => ?_⟩
        · simp (disch := first | assumption | omega) only [f_X0_takeSpare_L5, hc, zz_blo hW hu, e0r_kindOf hW hu, hk, hk0, zz_some, zz_lit, zz_num, zI_lt, zI_le, zI_eq, zI_nat, zz_b, if_pos, if_neg, if_true, if_false]
          rw [e0r_isBad hW hu h0 (by omega) (by rw [hb3]; exact hs.2.2.2.1), hb3, hb0, zz_some, if_pos rfl]
          unfold nTks
          rw [if_pos hk0, if_pos hb0]
        · have e : nTks n se s (m + 1) = (n, s) := by rw [nTks, if_pos hk0, if_pos hb0]
          rw [e]
          have := hr c c0 c1
          exact ⟨this.1, this.2.2.2.2⟩
      · have hb1 : n (103 + s) = 1 := by omega
        have e : nTks n se s (m + 1) = nTks (nLay n s 3 se (-1) (-1)) se (s + 1) m := by rw [nTks, if_pos hk0, if_neg hb0]
        obtain ⟨σ1, e1⟩ : ∃ x, x = zs (zs σ 0 d 2 s 3) 0 d 5 s se := ⟨_, rfl⟩
        have hr1 : ∀ c, 0 ≤ c → c < 96 → σ1 0 d 2 c = nLay n s 3 se (-1) (-1) (7 + c) ∧ (0 ≤ nLay n s 3 se (-1) (-1) (7 + c) ∧ nLay n s 3 se (-1) (-1) (7 + c) ≤ 3) ∧ σ1 0 d 3 c = nLay n s 3 se (-1) (-1) (103 + c) ∧ (nLay n s 3 se (-1) (-1) (103 + c) = 0 ∨ nLay n s 3 se (-1) (-1) (103 + c) = 1) ∧ σ1 0 d 5 c = nLay n s 3 se (-1) (-1) (295 + c) - 1 := by
          intro c c0 c1
          have hl := nLay_at n (b := s) (kind := 3) (se := se) (v := -1) (k := -1) h0 (by omega) c0 c1
          have ho : nLay n s 3 se (-1) (-1) (103 + c) = n (103 + c) := nLay_out n h0 (by omega) (by omega)
          have hrc := hr c c0 c1
          rw [hl.1, hl.2.1, ho]
          subst e1
          by_cases hcs : c = s
          · subst hcs
            simp [zs, hrc]
          · simp [zs, hcs, hrc]
        obtain ⟨σ', b1, b2, b3⟩ := ih f σ1 (nLay n s 3 se (-1) (-1)) (s + 1) (by omega) (by rw [e1]; simp [zs]; omega) (by omega) hr1 (by
          obtain ⟨g, g1, g2, g3, g4⟩ := hg
          have hgs : g ≠ s := by
            intro z
            subst z
            omega
          have hl := nLay_at n (b := s) (kind := 3) (se := se) (v := -1) (k := -1) h0 (by omega) (c := g) (by omega) (by omega)
          exact ⟨g, by omega, by omega, by rw [hl.1, if_neg hgs]; exact g3, by rw [nLay_out n h0 (by omega) (by omega)]; exact g4⟩) (by omega)
        refine ⟨σ', ?_, fun k' d' c' hz => ?_, ?_⟩
        · rw [e, ← b1]
          simp (disch := first | assumption | omega) only [f_X0_takeSpare_L5, hc, zz_blo hW hu, e0r_kindOf hW hu, hk, hk0, zz_some, zz_lit, zz_num, zI_lt, zI_le, zI_eq, zI_nat, zz_b, if_pos, if_neg, if_true, if_false]
          rw [e0r_isBad hW hu h0 (by omega) (by rw [hb3]; exact hs.2.2.2.1), hb3, hb1, zz_some, if_neg (by decide)]
          simp (disch := first | assumption | omega) only [zz_blo hW hu, zz_dr hW hu, zz_some, zz_lit, zz_num, zI_lt, zI_le, zI_eq, zI_nat, zz_b, if_pos, if_neg, if_true, if_false]
          rw [← e1]
        · rw [b2 k' d' c' hz, e1, zs_ne (by omega), zs_ne (by omega)]
        · rw [e]; exact b3
    · have e : nTks n se s (m + 1) = nTks n se (s + 1) m := by rw [nTks, if_neg hk0]
      obtain ⟨σ', b1, b2, b3⟩ := ih f σ n (s + 1) (by omega) (by omega) (by omega) hr (by
        obtain ⟨g, g1, g2, g3, g4⟩ := hg
        have hgs : g ≠ s := by
          intro z
          subst z
          omega
        exact ⟨g, by omega, by omega, g3, g4⟩) (by omega)
      refine ⟨σ', ?_, b2, ?_⟩
      · rw [e, ← b1]
        simp (disch := first | assumption | omega) only [f_X0_takeSpare_L5, hc, zz_blo hW hu, e0r_kindOf hW hu, hk, hk0, zz_some, zz_lit, zz_num, zI_lt, zI_le, zI_eq, zI_nat, zz_b, if_pos, if_neg, if_true, if_false]
      · rw [e]; exact b3
theorem e0_writeNext (hW : zWF E) (hu : zU E 0 d = true) (hR : zRb (σ 0 d) n) (hN : nWn n) (hB : nWb n) {kind se v k : Int} (hr : n 4 < n 0 - n 1) (hg : n (103 + n 4) = 1 → 1 ≤ nGc n) (hk : kind = 1 ∨ kind = 2) (hse0 : 0 ≤ se) (hse1 : se < n 3) (hv0 : -1 ≤ v) (hv1 : v < n 6) (hk0 : 0 ≤ k) (hk1 : k ≤ 7) :
    ∃ σ', f_X0_writeNext (zH E σ) (zL E 0 d 1) (zI kind) (zI se) (zI v) (zI k) = some (zH E σ') ∧ (∀ k' d' c', ¬ (k' = 0 ∧ d' = d ∧ 1 ≤ c' ∧ c' ≤ 9) → σ' k' d' c' = σ k' d' c') ∧ zRb (σ' 0 d) (nWrB n kind se v k) := by
  have hN' := hN
  unfold nWn at hN'
  obtain ⟨t, hit, h1, h2, h3, h4, h5, h6⟩ := nWrB_spec hN hB kind se v k hr hg
  obtain ⟨n', hn'⟩ : ∃ x, x = nWrB n kind se v k := ⟨_, rfl⟩
  rw [← hn'] at h4 h5 h6 ⊢
  obtain ⟨⟨r0, r1, r2, r3, r4, r5, r6, r7, r8, r9⟩, r10⟩ := hR
  have hb := hB (n 4) (by omega) (by omega)
  have e0 := h6 0 (by omega) (by omega)
  have e1 := h6 1 (by omega) (by omega)
  obtain ⟨σ1, s1⟩ : ∃ x, x = zs σ 0 d 1 2 (n 4 + 1) := ⟨_, rfl⟩
  have hbad : f_X0_isBad (zH E σ1) (zL E 0 d 1) (zI (n 4)) = some (zI (n (103 + n 4))) := by
    have h7 : σ1 0 d 3 (n 4) = n (103 + n 4) := by rw [s1]; simp [zs]; exact r4 _ (by omega) (by omega)
    rw [e0r_isBad hW hu (by omega) (by omega) (by rw [h7]; exact hb.2.1), h7]
  have hnx : g_i (zH E σ) (zL E 0 d 1) 0 2 = some (zI (n 4)) := by rw [← r2]; exact (zz_bl hW hu).2.2.2.2.1
  have hput : g_put (zH E σ) (zL E 0 d 1) 0 2 (.int (zI (n 4 + 1))) = some (zH E σ1) := by rw [s1]; exact (zz_bl hW hu).2.2.2.2.2.1 _
  -- the common end
  have hend : ∀ (σ2 : zW), (∀ k' d' c', ¬ (k' = 0 ∧ d' = d ∧ (c' = 2 ∨ c' = 5 ∨ c' = 8)) → σ2 k' d' c' = σ1 k' d' c') → 0 ≤ t → t < 96 → (∀ c, 0 ≤ c → c < 96 → c ≠ t → σ2 0 d 2 c = n' (7 + c)) → (∀ c, 0 ≤ c → c < 96 → c ≠ t → σ2 0 d 5 c = n' (295 + c) - 1) → (∀ c, 0 ≤ c → c < 96 → σ2 0 d 8 c = n' (583 + c) - 1) → ∃ σ', f_X0_writeNext_J67 (zH E σ2) (zL E 0 d 1) (zI kind) (zI se) (zI v) (zI k) (zI (n 4)) (zI t) = some (zH E σ') ∧ (∀ k' d' c', ¬ (k' = 0 ∧ d' = d ∧ 1 ≤ c' ∧ c' ≤ 9) → σ' k' d' c' = σ k' d' c') ∧ zRb (σ' 0 d) n' := by
    intro σ2 f1 ht0 ht1 f2 f3 f4
    refine ⟨zs (zs (zs (zs (zs σ2 0 d 9 (n 4) t) 0 d 2 t kind) 0 d 5 t se) 0 d 6 t v) 0 d 7 t k, ?_, fun k' d' c' hz => ?_, ?_⟩
    · simp (disch := first | assumption | omega) only [f_X0_writeNext_J67, zz_blo hW hu, zz_dr hW hu, zz_some, zz_lit, zz_num, zI_lt, zI_le, zI_eq, zI_nat, zz_b, if_pos, if_neg, if_true, if_false]
    · rw [zs_ne (by omega), zs_ne (by omega), zs_ne (by omega), zs_ne (by omega), zs_ne (by omega), f1 k' d' c' (by omega), s1, zs_ne (by omega)]
    · have q1 : ∀ i, σ2 0 d 1 i = if i = 2 then n 4 + 1 else σ 0 d 1 i := fun i => by rw [f1 0 d 1 (by omega), s1, zs_at]
      have q3 : σ2 0 d 3 = σ 0 d 3 := by rw [f1 0 d 3 (by omega), s1, zs_ne (by omega)]
      have q4 : σ2 0 d 4 = σ 0 d 4 := by rw [f1 0 d 4 (by omega), s1, zs_ne (by omega)]
      have q6 : σ2 0 d 6 = σ 0 d 6 := by rw [f1 0 d 6 (by omega), s1, zs_ne (by omega)]
      have q7 : σ2 0 d 7 = σ 0 d 7 := by rw [f1 0 d 7 (by omega), s1, zs_ne (by omega)]
      have q9 : σ2 0 d 9 = σ 0 d 9 := by rw [f1 0 d 9 (by omega), s1, zs_ne (by omega)]
      refine ⟨⟨?_, ?_, ?_, fun c c0 c1 => ?_, fun c c0 c1 => ?_, fun c c0 c1 => ?_, fun c c0 c1 => ?_, fun c c0 c1 => ?_, fun c c0 c1 => ?_, fun c c0 c1 => ?_⟩, fun c c0 c1 => ?_⟩
      · simp [zs, q1, e0, r0]
      · simp [zs, q1, e0, e1, r1]
      · simp [zs, q1, h5]
      · by_cases hc : c = t
        · have : n' (7 + c) = kind := by
            rcases (h4 c c0 c1).1 with z | z | z
            · exact z.1
            · exact absurd hc z.2.1
            · exact absurd hc z.2.1
          rw [this]; simp [zs, hc]
        · simp [zs, hc]; exact f2 c c0 c1 hc
      · rw [h6 _ (by omega) (by omega), ← r4 c c0 c1]; simp [zs, q3]
      · rw [h6 _ (by omega) (by omega), ← r5 c c0 c1]; simp [zs, q4]
      · by_cases hc : c = t
        · have : n' (295 + c) = se + 1 := by
            rcases (h4 c c0 c1).2.1 with z | z
            · exact z.1
            · exact absurd hc z.2.1
          rw [this]; simp [zs, hc]
        · simp [zs, hc]; exact f3 c c0 c1 hc
      · rcases (h4 c c0 c1).2.2.1 with z | z
        · rw [z.1]; simp [zs, z.2]
        · rw [z.1, ← r7 c c0 c1]; simp [zs, z.2, q6]
      · rcases (h4 c c0 c1).2.2.2.1 with z | z
        · rw [z.1]; simp [zs, z.2]
        · rw [z.1, ← r8 c c0 c1]; simp [zs, z.2, q7]
      · rw [← f4 c c0 c1]; simp [zs]
      · rw [h5]
        have hx := r10 c c0 c1
        by_cases hc : c = n 4
        · have h8 : nPl n' c = t := by
            unfold nPl
            rcases (h4 c c0 c1).2.2.2.2.2 with z | z
            · rw [z.1, if_pos (by omega)]; omega
            · rw [z.1]
              have h9 : n (679 + c) = 0 := by
                rcases (hB c c0 c1).2.2.2.2.2.2.2.1 with q | q <;> omega
              rw [h9, if_neg (by omega)]
              rcases z.2 with q | q
              · exact absurd hc q
              · omega
          rw [if_pos (by omega), h8]; simp [zs, hc]
        · have h8 : nPl n' c = nPl n c := by
            unfold nPl
            rcases (h4 c c0 c1).2.2.2.2.2 with z | z
            · exact absurd z.2.1 hc
            · rw [z.1]
          rw [h8]
          have h9 : zs (zs (zs (zs (zs σ2 0 d 9 (n 4) t) 0 d 2 t kind) 0 d 5 t se) 0 d 6 t v) 0 d 7 t k 0 d 9 c = σ 0 d 9 c := by simp [zs, hc, q9]
          rw [h9, hx]
          by_cases h10 : c < n 4
          · rw [if_pos h10, if_pos (by omega)]
          · rw [if_neg h10, if_neg (by omega)]
  have hstart : f_X0_writeNext (zH E σ) (zL E 0 d 1) (zI kind) (zI se) (zI v) (zI k) = (if zI (n (103 + n 4)) = 0 then f_X0_writeNext_J67 (zH E σ1) (zL E 0 d 1) (zI kind) (zI se) (zI v) (zI k) (zI (n 4)) (zI (n 4)) else (f_X9_put (zH E σ1) (zL E 0 d 2) (zI (n 4)) (zI 3)).bind fun G36 => (g_r G36 (zL E 0 d 1) 0 6).bind fun v40 => (f_X9_put G36 v40 (zI (n 4)) (zI se)).bind fun G46 => (g_ob G46 (zL E 0 d 1) 0).bind fun u51 => (f_X0_takeSpare G46 (zL E 0 d 1) (zI se)).bind fun q51 => (g_r q51.1 (zL E 0 d 1) 0 9).bind fun v57 => (f_X9_put q51.1 v57 q51.2 (zI (n 4))).bind fun G64 => f_X0_writeNext_J67 G64 (zL E 0 d 1) (zI kind) (zI se) (zI v) (zI k) (zI (n 4)) q51.2) := by
    unfold f_X0_writeNext
    rw [hnx, zz_some, zz_some, show (1 : Int32) = zI 1 from rfl, zI_add, hput, zz_some, (show g_ob (zH E σ1) (zL E 0 d 1) 0 = some () from zOb hW hu rfl rfl rfl), zz_some, hbad, zz_some, show g_r (zH E σ1) (zL E 0 d 1) 0 3 = some (zL E 0 d 2) from (zz_blo hW hu).1, zz_some]
    rfl
  rw [hstart]
  rcases hb.2.1 with hz | hz
  · have ht := (h1 hz).1
    rw [hz, if_pos (show zI 0 = 0 from rfl)]
    have h7 := hend σ1 (fun _ _ _ _ => rfl) (by omega) (by omega) (fun c c0 c1 hc => ?_) (fun c c0 c1 hc => ?_) (fun c c0 c1 => ?_)
    · rw [ht] at h7
      exact h7
    · rw [s1]
      simp [zs]
      rcases (h4 c c0 c1).1 with z | z | z
      · exact absurd z.2 hc
      · rcases z.2.2 with q | q
        · exact absurd (q.trans ht.symm) hc
        · exact absurd q ((h1 hz).2 c)
      · rw [z.1]; exact r3 c c0 c1
    · rw [s1]
      simp [zs]
      rcases (h4 c c0 c1).2.1 with z | z
      · rcases z.2 with q | q | q
        · exact absurd q hc
        · exact absurd (q.trans ht.symm) hc
        · exact absurd q ((h1 hz).2 c)
      · rw [z.1]; exact r6 c c0 c1
    · rw [s1]
      simp [zs]
      rcases (h4 c c0 c1).2.2.2.2.1 with z | z
      · exact absurd ht z.2.2
      · rw [z.1]; exact r9 c c0 c1
  · have ht := h2 hz
    rw [hz, if_neg (by decide)]
    obtain ⟨σ2, s2⟩ : ∃ x, x = zs (zs σ1 0 d 2 (n 4) 3) 0 d 5 (n 4) se := ⟨_, rfl⟩
    obtain ⟨n2, hn2⟩ : ∃ x, x = nLay (zu n 4 (n 4 + 1)) (n 4) 3 se (-1) (-1) := ⟨_, rfl⟩
    rw [← hn2] at ht
    have ho : ∀ i : Int, i ≠ 4 → zu n 4 (n 4 + 1) i = n i := fun i hi => zu_ne hi
    have hl := fun (c : Int) (h0 : 0 ≤ c) (h1 : c < 96) => nLay_at (zu n 4 (n 4 + 1)) (b := n 4) (kind := 3) (se := se) (v := -1) (k := -1) (by omega) (by omega) h0 h1
    have hlo : ∀ i : Int, i < 7 ∨ (103 ≤ i ∧ i < 295) ∨ 583 ≤ i → n2 i = zu n 4 (n 4 + 1) i := fun i hi => by rw [hn2]; exact nLay_out _ (by omega) (by omega) hi
    rw [← hn2] at hl
    obtain ⟨σ3, b1, b2, b3⟩ := e0_takeSpare_L hW hu (se := se) (n 1).toNat g_N σ2 n2 (n 0 - n 1) (by omega) (by rw [s2, s1]; simp [zs, r0]; omega) (by omega) (fun c c0 c1 => by
      have hlc := hl c c0 c1
      have hbc := hB c c0 c1
      rw [hlc.1, hlc.2.1, hlo _ (by omega), ho _ (by omega), ho _ (by omega), ho _ (by omega), ← r3 c c0 c1, ← r4 c c0 c1] 
      rw [s2, s1]
      by_cases hc : c = n 4
      · simp [zs, hc]
        rw [← hc, r4 c c0 c1]
        exact hbc.2.1
      · simp [zs, hc]
        rw [r3 c c0 c1, r4 c c0 c1, r6 c c0 c1]
        exact ⟨hbc.1, hbc.2.1, rfl⟩) ⟨t, by omega, by omega, by
      have := hl t (by omega) (by omega)
      rw [this.1, if_neg (by omega), ho _ (by omega)]
      exact ht.2.2.1, by rw [hlo _ (by omega), ho _ (by omega)]; exact ht.2.2.2.1⟩ (by unfold g_N; omega)
    rw [← ht.2.2.2.2] at b1
    obtain ⟨p, hp⟩ : ∃ p, p = (nTks n2 se (n 0 - n 1) (n 1).toNat).1 := ⟨_, rfl⟩
    rw [← hp] at b3
    have hx : n' = zu (zu (nLay p t kind se v k) (583 + t) (n 4 + 1)) (679 + n 4) (t + 1) := by
      rw [hn', hp]
      unfold nWrB
      rw [if_neg (by omega), ← hn2, ← ht.2.2.2.2]
    have hm0 : f_X0_takeSpare (zH E σ2) (zL E 0 d 1) (zI se) = some (zH E σ3, zI t) := by
      unfold f_X0_takeSpare
      have : g_i (zH E σ2) (zL E 0 d 1) 0 1 = some (zI (n 0 - n 1)) := by
        rw [← r1, show σ 0 d 1 1 = σ2 0 d 1 1 by rw [s2, s1]; simp [zs]]
        exact (zz_bl hW hu).2.2.1
      rw [this, zz_some]
      exact b1
    have h7 := hend (zs σ3 0 d 8 t (n 4)) (fun k' d' c' hz2 => by rw [zs_ne (by omega), b2 k' d' c' (by omega), s2, zs_ne (by omega), zs_ne (by omega)]) (by omega) (by omega) (fun c c0 c1 hc => ?_) (fun c c0 c1 hc => ?_) (fun c c0 c1 => ?_)
    · obtain ⟨σ', g1, g2, g3⟩ := h7
      refine ⟨σ', ?_, g2, g3⟩
      have u1 : f_X9_put (zH E σ1) (zL E 0 d 2) (zI (n 4)) (zI 3) = some (zH E (zs σ1 0 d 2 (n 4) 3)) := by simp (disch := first | assumption | omega) only [zz_dr hW hu, zz_some, zz_lit, zz_num, zI_lt, zI_le, zI_eq, zI_nat, zz_b, if_pos, if_neg, if_true, if_false]
      rw [u1, zz_some]
      simp (disch := first | assumption | omega) only [zz_blo hW hu, zz_dr hW hu, zz_some, zz_lit, zz_num, zI_lt, zI_le, zI_eq, zI_nat, zz_b, if_pos, if_neg, if_true, if_false]
      rw [← s2, hm0]
      simp (disch := first | assumption | omega) only [zz_blo hW hu, zz_dr hW hu, zz_some, zz_lit, zz_num, zI_lt, zI_le, zI_eq, zI_nat, zz_b, if_pos, if_neg, if_true, if_false]
      exact g1
    · have q := nLay_at p (b := t) (kind := kind) (se := se) (v := v) (k := k) (by omega) (by omega) c0 c1
      rw [hx, zu_ne (by omega), zu_ne (by omega), q.1, if_neg hc, zs_ne (by omega)]
      exact (b3 c c0 c1).1
    · have q := nLay_at p (b := t) (kind := kind) (se := se) (v := v) (k := k) (by omega) (by omega) c0 c1
      rw [hx, zu_ne (by omega), zu_ne (by omega), q.2.1, if_neg hc, zs_ne (by omega)]
      exact (b3 c c0 c1).2
    · rw [zs_at]
      have q8 : σ3 0 d 8 c = n (583 + c) - 1 := by
        rw [b2 0 d 8 (by omega), s2, s1, zs_ne (by omega), zs_ne (by omega), zs_ne (by omega)]
        exact r9 c c0 c1
      rcases (h4 c c0 c1).2.2.2.2.1 with z | z
      · rw [z.1, if_pos z.2.1]; omega
      · rw [z.1]
        rcases z.2 with q | q
        · rw [if_neg q, q8]
        · omega
end zCls

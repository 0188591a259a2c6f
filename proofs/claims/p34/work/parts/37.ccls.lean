/-! Changes: the class's sessions, versions, discs. -/
theorem zRb_ag {ρ ρ' : Nat → Int → Int} {n n' : zN} (hρ : ∀ c, 1 ≤ c → c ≤ 9 → ρ' c = ρ c) (h : ∀ i, i ≠ 2 → i ≠ 3 → i ≠ 5 → i ≠ 6 → i < 775 → n' i = n i) (hR : zRb ρ n) : zRb ρ' n' := by
  obtain ⟨⟨r0, r1, r2, r3, r4, r5, r6, r7, r8, r9⟩, r10⟩ := hR
  unfold zRb zRk
  rw [hρ 1 (by omega) (by omega), hρ 2 (by omega) (by omega), hρ 3 (by omega) (by omega), hρ 4 (by omega) (by omega), hρ 5 (by omega) (by omega), hρ 6 (by omega) (by omega), hρ 7 (by omega) (by omega), hρ 8 (by omega) (by omega), hρ 9 (by omega) (by omega), h 0 (by omega) (by omega) (by omega) (by omega) (by omega), h 1 (by omega) (by omega) (by omega) (by omega) (by omega), h 4 (by omega) (by omega) (by omega) (by omega) (by omega)]
  refine ⟨⟨r0, r1, r2, fun c c0 c1 => ?_, fun c c0 c1 => ?_, fun c c0 c1 => ?_, fun c c0 c1 => ?_, fun c c0 c1 => ?_, fun c c0 c1 => ?_, fun c c0 c1 => ?_⟩, fun c c0 c1 => ?_⟩
  · rw [h _ (by omega) (by omega) (by omega) (by omega) (by omega)]; exact r3 c c0 c1
  · rw [h _ (by omega) (by omega) (by omega) (by omega) (by omega)]; exact r4 c c0 c1
  · rw [h _ (by omega) (by omega) (by omega) (by omega) (by omega)]; exact r5 c c0 c1
  · rw [h _ (by omega) (by omega) (by omega) (by omega) (by omega)]; exact r6 c c0 c1
  · rw [h _ (by omega) (by omega) (by omega) (by omega) (by omega)]; exact r7 c c0 c1
  · rw [h _ (by omega) (by omega) (by omega) (by omega) (by omega)]; exact r8 c c0 c1
  · rw [h _ (by omega) (by omega) (by omega) (by omega) (by omega)]; exact r9 c c0 c1
  · rw [r10 c c0 c1]
    unfold nPl
    rw [h _ (by omega) (by omega) (by omega) (by omega) (by omega)]
theorem zRv_ag {ρ ρ' : Nat → Int → Int} {n n' : zN} (hρ : ∀ c, 10 ≤ c → c ≤ 15 → ρ' c = ρ c) (h6 : n' 6 = n 6) (hn6 : n 6 ≤ 96) (h : ∀ i, 775 ≤ i → i < 1255 → n' i = n i) (hR : zRv ρ n) : zRv ρ' n' := by
  obtain ⟨b1, b2, b3, b4, b5, b6⟩ := hR
  unfold zRv
  rw [hρ 10 (by omega) (by omega), hρ 11 (by omega) (by omega), hρ 12 (by omega) (by omega), hρ 13 (by omega) (by omega), hρ 14 (by omega) (by omega), hρ 15 (by omega) (by omega), h6]
  have e : ∀ v w, 0 ≤ v → v < n 6 → 0 ≤ w → w < 5 → nV n' v w = nV n v w := fun v w v0 v1 w0 w1 => h _ (by omega) (by omega)
  refine ⟨b1, fun v v0 v1 => ?_, fun v v0 v1 => ?_, fun v v0 v1 => ?_, fun v v0 v1 => ?_, fun v v0 v1 => ?_⟩
  · rw [e v 0 v0 v1 (by omega) (by omega)]; exact b2 v v0 v1
  · rw [e v 1 v0 v1 (by omega) (by omega)]; exact b3 v v0 v1
  · rw [e v 2 v0 v1 (by omega) (by omega)]; exact b4 v v0 v1
  · rw [e v 3 v0 v1 (by omega) (by omega)]; exact b5 v v0 v1
  · rw [e v 4 v0 v1 (by omega) (by omega)]; exact b6 v v0 v1
theorem zRs_ag {ρ ρ' : Nat → Int → Int} {n n' : zN} (hρ : ∀ c, 16 ≤ c → c ≠ 23 → c ≤ 24 → ρ' c = ρ c) (h3 : n' 3 = n 3) (he : ∀ s, 0 ≤ s → s < n 3 → nS n s 2 ≤ 10) (h : ∀ s w, 0 ≤ s → s < n 3 → 0 ≤ w → w < 25 → w ≠ 4 → nS n' s w = nS n s w) (hR : zRs ρ n) : zRs ρ' n' := by
  obtain ⟨c1, c2, c3, c4, c5, c6, c7, c8⟩ := hR
  unfold zRs
  rw [hρ 16 (by omega) (by omega) (by omega), hρ 17 (by omega) (by omega) (by omega), hρ 18 (by omega) (by omega) (by omega), hρ 19 (by omega) (by omega) (by omega), hρ 20 (by omega) (by omega) (by omega), hρ 21 (by omega) (by omega) (by omega), hρ 22 (by omega) (by omega) (by omega), hρ 24 (by omega) (by omega) (by omega), h3]
  refine ⟨c1, fun s s0 s1 => ?_, fun s s0 s1 => ?_, fun s s0 s1 => ?_, fun s s0 s1 => ?_, fun s k s0 s1 k0 k1 => ?_, fun s k s0 s1 k0 k1 => ?_, fun s s0 s1 => ?_⟩
  · rw [h s 0 s0 s1 (by omega) (by omega) (by omega)]; exact c2 s s0 s1
  · rw [h s 1 s0 s1 (by omega) (by omega) (by omega)]; exact c3 s s0 s1
  · rw [h s 3 s0 s1 (by omega) (by omega) (by omega)]; exact c4 s s0 s1
  · rw [h s 2 s0 s1 (by omega) (by omega) (by omega)]; exact c5 s s0 s1
  · have := he s s0 s1
    rw [h s 2 s0 s1 (by omega) (by omega) (by omega)] at k1
    rw [h s _ s0 s1 (by omega) (by omega) (by omega)]; exact c6 s k s0 s1 k0 k1
  · rw [nX_cg (n := n) (n' := n') (he s s0 s1) (h s 2 s0 s1 (by omega) (by omega) (by omega)) (fun w w0 w1 => h s w s0 s1 (by omega) w1 (by omega))]
    exact c7 s k s0 s1 k0 k1
  · rw [nL_cg (n := n) (n' := n') (h s 2 s0 s1 (by omega) (by omega) (by omega)) (h s 3 s0 s1 (by omega) (by omega) (by omega))]
    exact c8 s s0 s1
/-- an entry: how the class holds it -/
theorem nX_E1 {n : zN} {f v : Int} (h3 : 0 ≤ nLa n) (he : 0 ≤ nS n (nLa n) 2) (hk9 : nEn n (nLa n) f = -1 → nS n (nLa n) 2 ≤ 9) (h10 : ∀ s, 0 ≤ s → s ≤ nLa n → nS n s 2 ≤ 10) {s g : Int} (s0 : 0 ≤ s) (s1 : s ≤ nLa n) : nX (nE1 n f v) s g = if s = nLa n ∧ g = f then v else nX n s g := by
  have hk10 := h10 (nLa n) h3 (Int.le_refl _)
  obtain ⟨k, k0, k9, hk1, hk2, eS⟩ := nE1_S (n := n) f v he hk9 hk10
  by_cases hsl : s = nLa n
  · subst hsl
    have e2 : nS (nE1 n f v) (nLa n) 2 = max (nS n (nLa n) 2) (k + 1) := by rw [eS _ 2 (by omega) (by omega), if_neg (by omega), if_neg (by omega), if_pos ⟨rfl, rfl⟩]
    have hfile : ∀ j, 0 ≤ j → j < max (nS n (nLa n) 2) (k + 1) → nS (nE1 n f v) (nLa n) (5 + 2 * j) = if j = k then f else nS n (nLa n) (5 + 2 * j) := by
      intro j j0 j1
      rw [eS _ _ (by omega) (by omega), if_neg (by omega)]
      by_cases h : j = k
      · rw [if_pos h, if_pos (by omega)]
      · rw [if_neg h, if_neg (by omega), if_neg (by omega)]
    have hvers : ∀ j, 0 ≤ j → j < max (nS n (nLa n) 2) (k + 1) → nS (nE1 n f v) (nLa n) (6 + 2 * j) = if j = k then v else nS n (nLa n) (6 + 2 * j) := by
      intro j j0 j1
      rw [eS _ _ (by omega) (by omega)]
      by_cases h : j = k
      · rw [if_pos h, if_pos (by omega)]
      · rw [if_neg h, if_neg (by omega), if_neg (by omega), if_neg (by omega)]
    have hspec := zfs_spec (P := fun j => decide (nS n (nLa n) (5 + 2 * j) = f)) (nS n (nLa n) 2).toNat 0 (by omega)
    have hE : nEn n (nLa n) f = zfs (fun j => decide (nS n (nLa n) (5 + 2 * j) = f)) 0 (nS n (nLa n) 2).toNat := rfl
    rw [← hE] at hspec
    by_cases hg : g = f
    · subst hg
      rw [if_pos ⟨rfl, rfl⟩]
      have hEk : nEn (nE1 n g v) (nLa n) g = k := by
        have hsp := zfs_spec (P := fun j => decide (nS (nE1 n g v) (nLa n) (5 + 2 * j) = g)) (nS (nE1 n g v) (nLa n) 2).toNat 0 (by omega)
        have hE' : nEn (nE1 n g v) (nLa n) g = zfs (fun j => decide (nS (nE1 n g v) (nLa n) (5 + 2 * j) = g)) 0 (nS (nE1 n g v) (nLa n) 2).toNat := rfl
        rw [← hE', e2] at hsp
        have hkf := hfile k k0 (by omega)
        rw [if_pos rfl] at hkf
        rcases hsp with ⟨-, z⟩ | ⟨z0, z1, z2, z3⟩
        · have := z k k0 (by omega)
          simp [hkf] at this
        · by_cases hlt : nEn (nE1 n g v) (nLa n) g < k
          · have y := hfile _ z0 (by omega)
            rw [if_neg (by omega)] at y
            have z2 := of_decide_eq_true z2
            rw [y] at z2
            rcases hspec with ⟨x1, x2⟩ | ⟨x1, x2, x3, x4⟩
            · have := hk1 x1
              have := x2 _ z0 (by omega)
              simp [z2] at this
            · have := (hk2 (by omega)).1
              have := x4 _ z0 (by omega)
              simp [z2] at this
          · by_cases hgt : k < nEn (nE1 n g v) (nLa n) g
            · have := z3 k k0 hgt
              simp [hkf] at this
            · omega
      unfold nX
      rw [hEk, if_neg (by omega), hvers k k0 (by omega), if_pos rfl]
    · rw [if_neg (by omega)]
      have hEg : nEn (nE1 n f v) (nLa n) g = nEn n (nLa n) g := by
        unfold nEn
        rw [e2]
        by_cases hne : nEn n (nLa n) f = -1
        · have hkK := hk1 hne
          rw [show (max (nS n (nLa n) 2) (k + 1)).toNat = (nS n (nLa n) 2).toNat + 1 by omega, zfs_cut _ _ (by
            have y := hfile k k0 (by omega)
            rw [if_pos rfl] at y
            rw [show (0 : Int) + ((nS n (nLa n) 2).toNat : Int) = k by omega, y]
            exact decide_eq_false (fun z => hg z.symm))]
          exact zfs_congr _ _ (fun j j0 j1 => by rw [hfile j (by omega) (by omega), if_neg (by omega)])
        · have hkK := hk2 hne
          rw [show (max (nS n (nLa n) 2) (k + 1)).toNat = (nS n (nLa n) 2).toNat by omega]
          refine zfs_congr _ _ (fun j j0 j1 => ?_)
          rw [hfile j (by omega) (by omega)]
          by_cases hj : j = k
          · rw [if_pos hj]
            rcases hspec with ⟨x1, x2⟩ | ⟨x1, x2, x3, x4⟩
            · exact absurd x1 hne
            · have x3 : nS n (nLa n) (5 + 2 * nEn n (nLa n) f) = f := of_decide_eq_true x3
              rw [hj, hkK.1, x3]
          · rw [if_neg hj]
      unfold nX
      rw [hEg]
      have hr := nEn_rng n (nLa n) g
      by_cases hz : nEn n (nLa n) g = -1
      · rw [if_pos hz, if_pos hz]
      · rw [if_neg hz, if_neg hz, hvers _ (by omega) (by omega)]
        by_cases hj : nEn n (nLa n) g = k
        · exfalso
          have hsg := zfs_spec (P := fun j => decide (nS n (nLa n) (5 + 2 * j) = g)) (nS n (nLa n) 2).toNat 0 (by omega)
          have hEg2 : nEn n (nLa n) g = zfs (fun j => decide (nS n (nLa n) (5 + 2 * j) = g)) 0 (nS n (nLa n) 2).toNat := rfl
          rw [← hEg2] at hsg
          rcases hsg with ⟨x1, -⟩ | ⟨-, -, x3, -⟩
          · exact hz x1
          · have x3 : nS n (nLa n) (5 + 2 * nEn n (nLa n) g) = g := of_decide_eq_true x3
            by_cases hne : nEn n (nLa n) f = -1
            · have := hk1 hne
              omega
            · rcases hspec with ⟨y1, -⟩ | ⟨-, -, y3, -⟩
              · exact hne y1
              · have y3 : nS n (nLa n) (5 + 2 * nEn n (nLa n) f) = f := of_decide_eq_true y3
                rw [← (hk2 hne).1, ← hj, x3] at y3
                exact hg y3
        · rw [if_neg hj]
  · rw [if_neg (by omega)]
    exact nX_cg (h10 s s0 s1) (by rw [eS s 2 (by omega) (by omega), if_neg (by omega), if_neg (by omega), if_neg (by omega)]) (fun w w0 w1 => by rw [eS s w (by omega) (by omega), if_neg (by omega), if_neg (by omega), if_neg (by omega)])
theorem nX_Bg {n : zN} (hN : nWn n) (hZ : nWs n) {s g : Int} (s0 : 0 ≤ s) (s1 : s ≤ n 3) : nX (nBg n) s g = if s = n 3 then -2 else nX n s g := by
  have hN' := hN.r
  have eS : ∀ w, 0 ≤ w → w < 25 → nS (nBg n) s w = if s = n 3 then (if w = 1 then n 4 else 0) else nS n s w := fun w h1 h2 => nS_nBg (by omega) s0 h1 h2
  by_cases h : s = n 3
  · rw [if_pos h]
    refine nX_0 ?_
    rw [eS 2 (by omega) (by omega), if_pos h, if_neg (by omega)]
    omega
  · rw [if_neg h]
    have he := hZ.ent hN s0 (by omega)
    exact nX_cg (by omega) (by rw [eS 2 (by omega) (by omega), if_neg h]) (fun w w0 w1 => by rw [eS w (by omega) w1, if_neg h])
def nScr (n : zN) (b : Int) : zN := if n (7 + b) = 0 then zu n (103 + b) 1 else zu n (199 + b) 1
def nFm (b s : Int) : zN := fun i => if i = 0 then b else if i = 1 then s else 0
section zCls
variable {E : zE} {σ : zW} {d : Nat} {n : zN}
theorem e5_forget_L {d : Nat} (hW : zWF E) (hu : zU E 0 d = true) {s : Int} (h0 : 0 ≤ s) (h1 : s < 12) : ∀ (m fuel : Nat) (i : Int) (σ : zW), 0 ≤ i → i + m = 10 → m < fuel → f_X5_forgetEntries_L11 fuel (zH E σ) (zL E 0 d 16) (zI s) (zI i) = some (zH E (zr σ 0 d 22 (fun j => if s * 10 + i ≤ j ∧ j < s * 10 + 10 then -2 else σ 0 d 22 j))) := by
  intro m
  induction m with
  | zero =>
    intro fuel i σ h2 h3 h4
    obtain ⟨f, rfl, h5⟩ := zfuel h4
    simp (disch := first | assumption | omega) only [f_X5_forgetEntries_L11, zz_some, zz_lit, zz_num, zI_lt, zI_le, zI_eq, zI_nat, zz_b, if_pos, if_neg, if_true, if_false]
    rw [zr_self]
    funext j
    first | rfl | rw [if_neg (by omega)]
  | succ m ih =>
    intro fuel i σ h2 h3 h4
    obtain ⟨f, rfl, h5⟩ := zfuel h4
    have hih := ih f (i + 1) (zs σ 0 d 22 (s * 10 + i) (-2)) (by omega) (by omega) (by omega)
    simp (disch := first | assumption | omega) only [f_X5_forgetEntries_L11, zz_seo hW hu, zz_dr hW hu, hih, zz_some, zz_lit, zz_num, zI_lt, zI_le, zI_eq, zI_nat, zz_b, if_pos, if_neg, if_true, if_false]
    rw [zr_zs]
    congr 3
    funext j
    rw [zs_at]
    by_cases hj : j = s * 10 + i
    · rw [if_neg (by omega), if_pos hj, if_pos (by omega)]
    · by_cases hj2 : s * 10 + i ≤ j ∧ j < s * 10 + 10
      · rw [if_pos (by omega), if_pos hj2]
      · rw [if_neg (by omega), if_neg hj, if_neg hj2]
theorem e5_forget {d : Nat} (hW : zWF E) (hu : zU E 0 d = true) (σ : zW) {s : Int} (h0 : 0 ≤ s) (h1 : s < 12) : f_X5_forgetEntries (zH E σ) (zL E 0 d 16) (zI s) = some (zH E (zr (zs σ 0 d 20 s 0) 0 d 22 (fun j => if s * 10 ≤ j ∧ j < s * 10 + 10 then -2 else σ 0 d 22 j))) := by
  have h := e5_forget_L hW hu h0 h1 10 g_N 0 (zs σ 0 d 20 s 0) (by omega) (by omega) (by unfold g_N; omega)
  rw [Int.add_zero, zs_ne (k' := 0) (d' := d) (c' := 22) (by omega)] at h
  simp (disch := first | assumption | omega) only [f_X5_forgetEntries, zz_seo hW hu, zz_dr hW hu, h, zz_some, zz_lit, zz_num, zI_lt, zI_le, zI_eq, zI_nat, zz_b, if_pos, if_neg, if_true, if_false]
theorem e5_begin (hW : zWF E) (hu : zU E 0 d = true) (hR : zRs (σ 0 d) n) (hN : nWn n) (hZ : nWs n) (h3 : n 3 < 12) {x : Int} (hx : x = n 4) : ∃ σ', f_X5_begin (zH E σ) (zL E 0 d 16) (zI x) = some (zH E σ') ∧ (∀ k' d' c', ¬ (k' = 0 ∧ d' = d ∧ 16 ≤ c' ∧ c' ≠ 23 ∧ c' ≤ 24) → σ' k' d' c' = σ k' d' c') ∧ zRs (σ' 0 d) (nBg n) := by
  have hN' := hN.r
  subst hx
  obtain ⟨c1, c2, c3, c4, c5, c6, c7, c8⟩ := hR
  obtain ⟨σ1, e1⟩ : ∃ y, y = zs (zs (zs (zs (zs σ 0 d 16 0 (n 3 + 1)) 0 d 17 (n 3) 0) 0 d 18 (n 3) (n 4)) 0 d 19 (n 3) (-1)) 0 d 24 (n 3) 0 := ⟨_, rfl⟩
  have hfg := e5_forget hW hu σ1 (s := n 3) (by omega) h3
  obtain ⟨σ2, e2⟩ : ∃ y, y = zr (zs σ1 0 d 20 (n 3) 0) 0 d 22 (fun j => if n 3 * 10 ≤ j ∧ j < n 3 * 10 + 10 then -2 else σ1 0 d 22 j) := ⟨_, rfl⟩
  rw [← e2] at hfg
  have r16 : σ2 0 d 16 0 = n 3 + 1 := by rw [e2, zr_ne (by omega), zs_ne (by omega), e1]; simp [zs]
  have r17 : ∀ s, σ2 0 d 17 s = if s = n 3 then 0 else σ 0 d 17 s := fun s => by rw [e2, zr_ne (by omega), zs_ne (by omega), e1]; simp [zs]
  have r18 : ∀ s, σ2 0 d 18 s = if s = n 3 then n 4 else σ 0 d 18 s := fun s => by rw [e2, zr_ne (by omega), zs_ne (by omega), e1]; simp [zs]
  have r19 : ∀ s, σ2 0 d 19 s = if s = n 3 then -1 else σ 0 d 19 s := fun s => by rw [e2, zr_ne (by omega), zs_ne (by omega), e1]; simp [zs]
  have r24 : ∀ s, σ2 0 d 24 s = if s = n 3 then 0 else σ 0 d 24 s := fun s => by rw [e2, zr_ne (by omega), zs_ne (by omega), e1]; simp [zs]
  have r20 : ∀ s, σ2 0 d 20 s = if s = n 3 then 0 else σ 0 d 20 s := fun s => by rw [e2, zr_ne (by omega), zs_at, e1]; simp [zs]
  have r21 : ∀ s, σ2 0 d 21 s = σ 0 d 21 s := fun s => by rw [e2, zr_ne (by omega), zs_ne (by omega), e1]; simp [zs]
  have r22 : ∀ j, σ2 0 d 22 j = if n 3 * 10 ≤ j ∧ j < n 3 * 10 + 10 then -2 else σ 0 d 22 j := fun j => by rw [e2, zr_at, e1]; simp [zs]
  refine ⟨σ2, ?_, fun k' d' c' hz => ?_, ?_⟩
  · simp (disch := first | assumption | omega) only [f_X5_begin, zz_se hW hu, c1, zz_dr hW hu, zz_some, zz_lit, zz_num, zI_lt, zI_le, zI_eq, zI_nat, zz_b, if_pos, if_neg, if_true, if_false]
    rw [← e1]
    simp (disch := first | assumption | omega) only [zz_seo hW hu, hfg, zz_some, zz_lit, zz_num, zI_lt, zI_le, zI_eq, zI_nat, zz_b, if_pos, if_neg, if_true, if_false]
  · rw [e2, zr_ne (by omega), zs_ne (by omega), e1, zs_ne (by omega), zs_ne (by omega), zs_ne (by omega), zs_ne (by omega), zs_ne (by omega)]
  · have eS : ∀ s w, 0 ≤ s → 0 ≤ w → w < 25 → nS (nBg n) s w = if s = n 3 then (if w = 1 then n 4 else 0) else nS n s w := fun s w h0 h1 h2 => nS_nBg (by omega) h0 h1 h2
    unfold zRs
    rw [nBg_3]
    refine ⟨r16, fun s s0 s1 => ?_, fun s s0 s1 => ?_, fun s s0 s1 => ?_, fun s s0 s1 => ?_, fun s k s0 s1 k0 k1 => ?_, fun s k s0 s1 k0 k1 => ?_, fun s s0 s1 => ?_⟩
    · rw [eS s 0 s0 (by omega) (by omega), r17]
      by_cases h : s = n 3
      · rw [if_pos h, if_pos h, if_neg (by omega)]
      · rw [if_neg h, if_neg h]; exact c2 s s0 (by omega)
    · rw [eS s 1 s0 (by omega) (by omega), r18]
      by_cases h : s = n 3
      · rw [if_pos h, if_pos h, if_pos rfl]
      · rw [if_neg h, if_neg h]; exact c3 s s0 (by omega)
    · rw [eS s 3 s0 (by omega) (by omega), r19]
      by_cases h : s = n 3
      · rw [if_pos h, if_pos h, if_neg (by omega)]; omega
      · rw [if_neg h, if_neg h]; exact c4 s s0 (by omega)
    · rw [eS s 2 s0 (by omega) (by omega), r20]
      by_cases h : s = n 3
      · rw [if_pos h, if_pos h, if_neg (by omega)]
      · rw [if_neg h, if_neg h]; exact c5 s s0 (by omega)
    · by_cases h : s = n 3
      · rw [eS s 2 s0 (by omega) (by omega), if_pos h, if_neg (by omega)] at k1; omega
      · have he := hZ.ent hN s0 (by omega : s < n 3)
        rw [eS s 2 s0 (by omega) (by omega), if_neg h] at k1
        rw [eS s _ s0 (by omega) (by omega), if_neg h, r21]
        exact c6 s k s0 (by omega) k0 k1
    · rw [nX_Bg hN hZ s0 (by omega), r22]
      by_cases h : s = n 3
      · rw [if_pos h, if_pos (by omega)]
      · rw [if_neg h, if_neg (by omega)]; exact c7 s k s0 (by omega) k0 k1
    · rw [r24]
      by_cases h : s = n 3
      · unfold nL
        rw [if_pos h, eS s 3 s0 (by omega) (by omega), if_pos h, if_neg (by omega)]
      · rw [if_neg h, nL_cg (n := n) (n' := nBg n) (by rw [eS s 2 s0 (by omega) (by omega), if_neg h]) (by rw [eS s 3 s0 (by omega) (by omega), if_neg h])]
        exact c8 s s0 (by omega)
theorem e5r_entriesOf (hW : zWF E) (hu : zU E 0 d = true) {s : Int} (h0 : 0 ≤ s) (h1 : s < 12) : f_X5_entriesOf (zH E σ) (zL E 0 d 16) (zI s) = some (zI (σ 0 d 20 s)) := by
  simp (disch := first | assumption | omega) only [f_X5_entriesOf, zz_seo hW hu, zz_dr hW hu, zz_some, zz_lit, zz_num, zI_lt, zI_le, zI_eq, zI_nat, zz_b, if_pos, if_neg, if_true, if_false]
theorem e5r_latest (hW : zWF E) (hu : zU E 0 d = true) : f_X5_latest (zH E σ) (zL E 0 d 16) = some (zI (σ 0 d 16 0 - 1)) := by
  simp (disch := first | assumption | omega) only [f_X5_latest, zz_se hW hu, zz_some, zz_lit, zz_num, zI_lt, zI_le, zI_eq, zI_nat, zz_b, if_pos, if_neg, if_true, if_false]
theorem e5_enter (hW : zWF E) (hu : zU E 0 d = true) (hR : zRs (σ 0 d) n) (hN : nWn n) (hZ : nWs n) (hop : nOp n = true) {f v : Int} (hf0 : 0 ≤ f) (hf1 : f < n 2) : ∃ σ', f_X5_enter (zH E σ) (zL E 0 d 16) (zI f) (zI v) = some (zH E σ') ∧ (∀ k' d' c', ¬ (k' = 0 ∧ d' = d ∧ 16 ≤ c' ∧ c' ≠ 23 ∧ c' ≤ 24) → σ' k' d' c' = σ k' d' c') ∧ zRs (σ' 0 d) (nE1 n f v) := by
  have hN' := hN.r
  obtain ⟨h3, hst⟩ := nOp_iff.mp hop
  have hla : nLa n = n 3 - 1 := rfl
  have hs := hZ (nLa n) h3 (by omega)
  have hent := hZ.ent hN h3 (by omega : nLa n < n 3)
  have hk9 : nEn n (nLa n) f = -1 → nS n (nLa n) 2 ≤ n 2 - 1 := by
    intro h
    have h5 := zcn_one (P := fun g => decide (nEn n (nLa n) g ≠ -1)) (Q := fun g => decide (nEn n (nLa n) g ≠ -1) || decide (g = f)) (j := f) (n 2).toNat 0 hf0 (by omega) (by simp [h]) (by simp) (fun g hg _ _ => by simp [hg])
    have h6 := (zcn_rng (fun g => decide (nEn n (nLa n) g ≠ -1) || decide (g = f)) (n 2).toNat 0).2
    have h7 := hs.2.2.2.1.2
    omega
  obtain ⟨k, k0, k9, hk1, hk2, eS⟩ := nE1_S (n := n) f v hent.1 (fun z => by have := hk9 z; omega) (by omega)
  have e3 : nE1 n f v 3 = n 3 := nE1_lo h3 hent.1 (by omega)
  have hE := nEn_rng n (nLa n) f
  have hso := e5_hasEntry hW hu hR hN hZ h3 (by omega) hf0 (by omega : f < 10)
  have hnx : ∀ s g, 0 ≤ s → s ≤ nLa n → nX (nE1 n f v) s g = if s = nLa n ∧ g = f then v else nX n s g := fun s g s0 s1 => nX_E1 h3 hent.1 (fun z => by have := hk9 z; omega) (fun t t0 t1 => by have := hZ.ent hN t0 (by omega : t < n 3); omega) s0 s1
  have hd0 : nS n (nLa n) 3 = 0 := by
    by_cases h : 0 < nS n (nLa n) 3
    · have := hs.2.2.2.2.1.2.1.mp h; omega
    · have := hs.2.2.2.2.1.1; omega
  obtain ⟨c1, c2, c3, c4, c5, c6, c7, c8⟩ := hR
  obtain ⟨la, hlae⟩ : ∃ x, x = nLa n := ⟨_, rfl⟩
  rw [← hlae] at hso hk1 hk2 eS hE hent hla h3 hnx hd0
  have hlat : ∀ σ2 : zW, σ2 0 d 16 0 = n 3 → f_X5_latest (zH E σ2) (zL E 0 d 16) = some (zI la) := fun σ2 h => by rw [e5r_latest hW hu, h, hla]
  have hend : ∀ σ2 : zW, (∀ k' d' c', ¬ (k' = 0 ∧ d' = d ∧ (c' = 20 ∨ c' = 21)) → σ2 k' d' c' = σ k' d' c') → (∀ s, 0 ≤ s → s < n 3 → σ2 0 d 20 s = nS (nE1 n f v) s 2) → (∀ s j, 0 ≤ s → s < n 3 → 0 ≤ j → j < nS (nE1 n f v) s 2 → σ2 0 d 21 (s * 10 + j) = nS (nE1 n f v) s (5 + 2 * j)) → f_X5_enter_J47 (zH E σ2) (zL E 0 d 16) (zI f) (zI v) (zI la) = some (zH E (zs σ2 0 d 22 (la * 10 + f) v)) ∧ (∀ k' d' c', ¬ (k' = 0 ∧ d' = d ∧ 16 ≤ c' ∧ c' ≠ 23 ∧ c' ≤ 24) → zs σ2 0 d 22 (la * 10 + f) v k' d' c' = σ k' d' c') ∧ zRs (zs σ2 0 d 22 (la * 10 + f) v 0 d) (nE1 n f v) := by
    intro σ2 f1 f2 f3
    refine ⟨?_, fun k' d' c' hz => ?_, ?_⟩
    · simp (disch := first | assumption | omega) only [f_X5_enter_J47, zz_seo hW hu, zz_dr hW hu, zz_some, zz_lit, zz_num, zI_lt, zI_le, zI_eq, zI_nat, zz_b, if_pos, if_neg, if_true, if_false]
    · rw [zs_ne (by omega), f1 k' d' c' (by omega)]
    · unfold zRs
      rw [e3]
      refine ⟨?_, fun s s0 s1 => ?_, fun s s0 s1 => ?_, fun s s0 s1 => ?_, fun s s0 s1 => ?_, fun s j s0 s1 j0 j1 => ?_, fun s g s0 s1 g0 g1 => ?_, fun s s0 s1 => ?_⟩
      · rw [zs_ne (by omega), f1 0 d 16 (by omega)]; exact c1
      · rw [zs_ne (by omega), f1 0 d 17 (by omega), eS s 0 (by omega) (by omega), if_neg (by omega), if_neg (by omega), if_neg (by omega)]; exact c2 s s0 s1
      · rw [zs_ne (by omega), f1 0 d 18 (by omega), eS s 1 (by omega) (by omega), if_neg (by omega), if_neg (by omega), if_neg (by omega)]; exact c3 s s0 s1
      · rw [zs_ne (by omega), f1 0 d 19 (by omega), eS s 3 (by omega) (by omega), if_neg (by omega), if_neg (by omega), if_neg (by omega)]; exact c4 s s0 s1
      · rw [zs_ne (by omega)]; exact f2 s s0 s1
      · rw [zs_ne (by omega)]; exact f3 s j s0 s1 j0 j1
      · rw [hnx s g s0 (by omega), zs_at, f1 0 d 22 (by omega)]
        by_cases hsg : s = la ∧ g = f
        · rw [if_pos hsg, if_pos (by omega)]
        · rw [if_neg hsg, if_neg (by omega)]; exact c7 s g s0 s1 g0 g1
      · rw [zs_ne (by omega), f1 0 d 24 (by omega), c8 s s0 s1]
        have e3' := eS s 3 (by omega) (by omega)
        rw [if_neg (by omega), if_neg (by omega), if_neg (by omega)] at e3'
        by_cases hsl : s = la
        · subst hsl
          unfold nL
          rw [e3', hd0, if_neg (by omega), if_neg (by omega)]
        · have e2' := eS s 2 (by omega) (by omega)
          rw [if_neg (by omega), if_neg (by omega), if_neg (by omega)] at e2'
          exact (nL_cg e2' e3').symm
  by_cases h : nEn n la f = -1
  · have hK := hk1 h
    have hk9' := hk9 (hlae ▸ h)
    rw [← hlae] at hk9'
    obtain ⟨σ0, s0⟩ : ∃ x, x = zs σ 0 d 21 (la * 10 + nS n la 2) f := ⟨_, rfl⟩
    obtain ⟨σ1, s1⟩ : ∃ x, x = zs σ0 0 d 20 la (nS n la 2 + 1) := ⟨_, rfl⟩
    have hen : f_X5_entriesOf (zH E σ) (zL E 0 d 16) (zI la) = some (zI (nS n la 2)) := by rw [e5r_entriesOf hW hu h3 (by omega), c5 la h3 (by omega)]
    have hen0 : f_X5_entriesOf (zH E σ0) (zL E 0 d 16) (zI la) = some (zI (nS n la 2)) := by rw [e5r_entriesOf hW hu h3 (by omega), s0, zs_ne (by omega), c5 la h3 (by omega)]
    obtain ⟨g1, g2, g3⟩ := hend σ1 (fun k' d' c' hz => by rw [s1, zs_ne (by omega), s0, zs_ne (by omega)]) (fun s s0' s1' => by
      rw [eS s 2 (by omega) (by omega), if_neg (by omega), if_neg (by omega), s1, zs_at, s0, zs_ne (by omega)]
      by_cases hsl : s = la
      · rw [if_pos hsl, if_pos ⟨hsl, rfl⟩]; omega
      · rw [if_neg hsl, if_neg (by omega)]; exact c5 s s0' s1') (fun s j s0' s1' j0 j1 => by
      have he := hZ.ent hN s0' s1'
      rw [s1, zs_ne (by omega), s0, zs_at]
      by_cases hsl : s = la
      · rw [eS s 2 (by omega) (by omega), if_neg (by omega), if_neg (by omega), if_pos ⟨hsl, rfl⟩] at j1
        have hx := eS s (5 + 2 * j) (by omega) (by omega)
        rw [if_neg (by omega)] at hx
        rw [hx]
        by_cases hj : j = k
        · rw [if_pos (by omega), if_pos (by omega)]
        · rw [if_neg (by omega), if_neg (by omega), if_neg (by omega)]
          exact c6 s j s0' s1' j0 (by rw [hsl]; omega)
      · rw [eS s 2 (by omega) (by omega), if_neg (by omega), if_neg (by omega), if_neg (by omega)] at j1
        have hx := eS s (5 + 2 * j) (by omega) (by omega)
        rw [if_neg (by omega), if_neg (by omega), if_neg (by omega)] at hx
        rw [hx, if_neg (by omega)]
        exact c6 s j s0' s1' j0 j1)
    refine ⟨_, ?_, g2, g3⟩
    rw [← g1]
    rw [zb_dneg (by simp [h])] at hso
    simp (disch := first | assumption | omega) only [f_X5_enter, zz_seo hW hu, hlat σ c1, hso, hen, zz_dr hW hu, zz_some, zz_lit, zz_num, zI_lt, zI_le, zI_eq, zI_nat, zz_b, if_pos, if_neg, if_true, if_false]
    rw [← s0]
    simp (disch := first | assumption | omega) only [zz_seo hW hu, hen0, zz_dr hW hu, zz_some, zz_lit, zz_num, zI_lt, zI_le, zI_eq, zI_nat, zz_b, if_pos, if_neg, if_true, if_false]
    rw [← s1]
  · have hK := hk2 h
    have hff : nS n la (5 + 2 * nEn n la f) = f := by
      rcases zfs_spec (P := fun j => decide (nS n la (5 + 2 * j) = f)) (nS n la 2).toNat 0 (by omega) with ⟨y1, -⟩ | ⟨-, -, y3, -⟩
      · exact absurd y1 h
      · exact of_decide_eq_true y3
    obtain ⟨g1, g2, g3⟩ := hend σ (fun _ _ _ _ => rfl) (fun s s0 s1' => by
      rw [eS s 2 (by omega) (by omega), if_neg (by omega), if_neg (by omega)]
      by_cases hsl : s = la
      · rw [if_pos ⟨hsl, rfl⟩, c5 s s0 s1', hsl]; omega
      · rw [if_neg (by omega)]; exact c5 s s0 s1') (fun s j s0' s1' j0 j1 => by
      have he := hZ.ent hN s0' s1'
      by_cases hsl : s = la
      · rw [eS s 2 (by omega) (by omega), if_neg (by omega), if_neg (by omega), if_pos ⟨hsl, rfl⟩] at j1
        rw [eS s _ (by omega) (by omega), if_neg (by omega), c6 s j s0' s1' j0 (by rw [hsl]; omega)]
        by_cases hj : j = k
        · rw [if_pos (by omega), hsl, hj, hK.1, hff]
        · rw [if_neg (by omega), if_neg (by omega)]
      · rw [eS s 2 (by omega) (by omega), if_neg (by omega), if_neg (by omega), if_neg (by omega)] at j1
        rw [eS s _ (by omega) (by omega), if_neg (by omega), if_neg (by omega), if_neg (by omega)]
        exact c6 s j s0' s1' j0 j1)
    refine ⟨_, ?_, g2, g3⟩
    rw [← g1]
    rw [zb_dpos h] at hso
    simp (disch := first | assumption | omega) only [f_X5_enter, zz_seo hW hu, hlat σ c1, hso, zz_some, zz_lit, zz_num, zI_lt, zI_le, zI_eq, zI_nat, zz_b, if_pos, if_neg, if_true, if_false]
theorem e7_add (hW : zWF E) (hu : zU E 0 d = true) (hR : zRv (σ 0 d) n) (hN : nWn n) (h6 : n 6 < 96) {f m tag se : Int} : ∃ σ', f_X7_add (zH E σ) (zL E 0 d 10) (zI f) (zI (n 4)) (zI m) (zI tag) (zI se) = some (zH E σ', zI (n 6)) ∧ (∀ k' d' c', ¬ (k' = 0 ∧ d' = d ∧ 10 ≤ c' ∧ c' ≤ 15) → σ' k' d' c' = σ k' d' c') ∧ zRv (σ' 0 d) (nAr (zu n 6 (n 6 + 1)) (n 6) f (n 4) m tag se) := by
  have hN' := hN.r
  obtain ⟨b1, b2, b3, b4, b5, b6⟩ := hR
  refine ⟨zs (zs (zs (zs (zs (zs σ 0 d 10 0 (n 6 + 1)) 0 d 11 (n 6) f) 0 d 12 (n 6) (n 4)) 0 d 13 (n 6) m) 0 d 14 (n 6) tag) 0 d 15 (n 6) se, ?_, fun k' d' c' hz => ?_, ?_⟩
  · simp (disch := first | assumption | omega) only [f_X7_add, zz_vs hW hu, b1, zz_dr hW hu, zz_some, zz_lit, zz_num, zI_lt, zI_le, zI_eq, zI_nat, zz_b, if_pos, if_neg, if_true, if_false]
  · rw [zs_ne (by omega), zs_ne (by omega), zs_ne (by omega), zs_ne (by omega), zs_ne (by omega), zs_ne (by omega)]
  · have e6 : nAr (zu n 6 (n 6 + 1)) (n 6) f (n 4) m tag se 6 = n 6 + 1 := by rw [nAr_out (by omega) (by omega), zu_eq rfl]
    have eo : ∀ v w, 0 ≤ v → v < n 6 → 0 ≤ w → w < 5 → nV (nAr (zu n 6 (n 6 + 1)) (n 6) f (n 4) m tag se) v w = nV n v w := fun v w v0 v1 w0 w1 => by
      unfold nV
      rw [nAr_out (by omega) (by omega), zu_ne (by omega)]
    have en := nAr_V (n := zu n 6 (n 6 + 1)) (v := n 6) (f := f) (first := n 4) (m := m) (tag := tag) (se := se)
    unfold zRv
    rw [e6]
    refine ⟨by simp [zs], fun v v0 v1 => ?_, fun v v0 v1 => ?_, fun v v0 v1 => ?_, fun v v0 v1 => ?_, fun v v0 v1 => ?_⟩
    · by_cases hv : v = n 6
      · rw [hv, en.1]; simp [zs]
      · rw [eo v 0 v0 (by omega) (by omega) (by omega)]; simp [zs, hv]; exact b2 v v0 (by omega)
    · by_cases hv : v = n 6
      · rw [hv, en.2.1]; simp [zs]
      · rw [eo v 1 v0 (by omega) (by omega) (by omega)]; simp [zs, hv]; exact b3 v v0 (by omega)
    · by_cases hv : v = n 6
      · rw [hv, en.2.2.1]; simp [zs]
      · rw [eo v 2 v0 (by omega) (by omega) (by omega)]; simp [zs, hv]; exact b4 v v0 (by omega)
    · by_cases hv : v = n 6
      · rw [hv, en.2.2.2.1]; simp [zs]
      · rw [eo v 3 v0 (by omega) (by omega) (by omega)]; simp [zs, hv]; exact b5 v v0 (by omega)
    · by_cases hv : v = n 6
      · rw [hv, en.2.2.2.2]; simp [zs]
      · rw [eo v 4 v0 (by omega) (by omega) (by omega)]; simp [zs, hv]; exact b6 v v0 (by omega)
theorem e1_next (hW : zWF E) (hu : zU E 0 d = true) (hR : zRb (σ 0 d) n) : g_i (zH E σ) (zL E 0 d 1) 0 2 = some (zI (n 4)) := by
  rw [← hR.1.2.2.1]; exact (zz_bl hW hu).2.2.2.2.1
theorem e1_beginIfNeeded (hW : zWF E) (hu : zU E 0 d = true) (hR : zRd (σ 0 d) n) (hn : nW n) (hT : nTm n = false) : ∃ σ', f_X1_beginIfNeeded (zH E σ) (zL E 0 d 0) = some (zH E σ') ∧ (∀ k' d' c', ¬ (k' = 0 ∧ d' = d ∧ 16 ≤ c' ∧ c' ≠ 23 ∧ c' ≤ 24) → σ' k' d' c' = σ k' d' c') ∧ zRd (σ' 0 d) (nBi n) := by
  have hN' := hn.1.r
  have hop := e5_isOpen hW hu hR.2.2.1 hn.1 hn.2.2.2
  unfold nBi
  cases hc : nOp n
  · obtain ⟨σ', g1, g2, g3⟩ := e5_begin hW hu hR.2.2.1 hn.1 hn.2.2.2 (nTm_f hn hT hc) (x := n 4) rfl
    refine ⟨σ', ?_, g2, ?_⟩
    · rw [hc] at hop
      simp (disch := first | assumption | omega) only [f_X1_beginIfNeeded, zz_dco hW hu, zz_seo hW hu, zz_blo hW hu, hop, e1_next hW hu hR.1, g1, zz_some, zz_lit, zz_num, zI_lt, zI_le, zI_eq, zI_nat, zz_b, if_pos, if_neg, if_true, if_false]
    · rw [if_neg (by simp)]
      have hρ : ∀ c, ¬ (16 ≤ c ∧ c ≠ 23 ∧ c ≤ 24) → σ' 0 d c = σ 0 d c := fun c hc => g2 0 d c (by omega)
      have e : ∀ i, i < 1255 → i ≠ 3 → nBg n i = n i := fun i hi h => nBg_lo (by omega) hi h
      exact ⟨zRb_ag (fun c h1 h2 => hρ c (by omega)) (fun i _ h3 _ _ hi => e i (by omega) h3) hR.1, zRv_ag (fun c h1 h2 => hρ c (by omega)) (e 6 (by omega) (by omega)) (by omega) (fun i h1 h2 => e i h2 (by omega)) hR.2.1, g3, by rw [hρ 0 (by omega), e 2 (by omega) (by omega)]; exact hR.2.2.2.1, by rw [hρ 0 (by omega), e 5 (by omega) (by omega)]; exact hR.2.2.2.2⟩
  · refine ⟨σ, ?_, fun _ _ _ _ => rfl, by rw [if_pos rfl]; exact hR⟩
    rw [hc] at hop
    simp (disch := first | assumption | omega) only [f_X1_beginIfNeeded, zz_dco hW hu, zz_seo hW hu, hop, Bool.true_eq_false, zz_some, zz_lit, zz_num, zI_lt, zI_le, zI_eq, zI_nat, zz_b, if_pos, if_neg, if_true, if_false]
/-- the blocks of a version or a directory, one behind the other -/
theorem e1_wl (kind se v : Int) (hk : kind = 1 ∨ kind = 2) (hse0 : 0 ≤ se) (hv0 : -1 ≤ v) (hkv : kind = 1 → 0 ≤ v) (hW : zWF E) (hu : zU E 0 d = true) : ∀ (m : Nat) (σ : zW) (nb : zN) (k : Int), zRb (σ 0 d) nb → nWn nb → nWb nb → nb 4 + m ≤ nb 0 - nb 1 → nBc nb m ≤ nGc nb → se < nb 3 → v < nb 6 → 0 ≤ k → k + m ≤ 8 →
    ∃ σ', (∀ (β : Type) (st : Nat → gH → Int32 → Option β) (len : Int), len = k + m → (∀ (f : Nat) (τ : zW) (x : Int), x < len → 0 ≤ x → x < 100 → st (f + 1) (zH E τ) (zI x) = (f_X0_writeNext (zH E τ) (zL E 0 d 1) (zI kind) (zI se) (zI v) (zI x)).bind fun G2 => st f G2 (zI (x + 1))) → ∀ fuel, m < fuel → st fuel (zH E σ) (zI k) = st (fuel - m) (zH E σ') (zI len)) ∧ (∀ k' d' c', ¬ (k' = 0 ∧ d' = d ∧ 1 ≤ c' ∧ c' ≤ 9) → σ' k' d' c' = σ k' d' c') ∧ zRb (σ' 0 d) (nWl kind se v nb k m) := by
  intro m
  induction m with
  | zero =>
    intro σ nb k hR _ _ _ _ _ _ _ _
    refine ⟨σ, fun β st len hlen hst fuel hf => ?_, fun _ _ _ _ => rfl, hR⟩
    rw [hlen, Nat.sub_zero, show k + ((0 : Nat) : Int) = k by omega]
  | succ m ih =>
    intro σ nb k hR hN hB hr hc h1 h2 h3 h4
    have hN' := hN.r
    have hb := hB (nb 4) (by omega) (by omega)
    have hcc : nBc nb (m + 1) = zb (decide (nb (103 + nb 4) = 1)) + zcn (fun b => decide (nb (103 + b) = 1)) (nb 4 + 1) m := rfl
    have hz := zcn_rng (fun b => decide (nb (103 + b) = 1)) m (nb 4 + 1)
    have hg : nb (103 + nb 4) = 1 → 1 ≤ nGc nb := fun z => by rw [zb_dpos z] at hcc; omega
    obtain ⟨a1, a2, a3, a4, a5⟩ := nWrB_W hN hB (kind := kind) (se := se) (v := v) (k := k) (by omega) hg hk hse0 h1 hv0 h2 hkv h3 (by omega)
    obtain ⟨σ1, g1, g2, g3⟩ := e0_writeNext hW hu hR hN hB (kind := kind) (se := se) (v := v) (k := k) (by omega) hg hk hse0 h1 hv0 h2 h3 (by omega)
    have e0 := a5 0 (by omega) (by omega)
    have e1 := a5 1 (by omega) (by omega)
    have e3 := a5 3 (by omega) (by omega)
    have e6 := a5 6 (by omega) (by omega)
    have hb' : nBc (nWrB nb kind se v k) m = zcn (fun b => decide (nb (103 + b) = 1)) (nb 4 + 1) m := by
      unfold nBc
      rw [a4]
      exact zcn_congr _ _ (fun c c0 c1 => by rw [a5 (103 + c) (by omega) (by omega)])
    obtain ⟨σ', q1, q2, q3⟩ := ih σ1 (nWrB nb kind se v k) (k + 1) g3 a1 a2 (by rw [a4, e0, e1]; omega) (by rw [hb', a3]; omega) (by omega) (by omega) (by omega) (by omega)
    refine ⟨σ', fun β st len hlen hst fuel hf => ?_, fun k' d' c' hz => (q2 k' d' c' hz).trans (g2 k' d' c' hz), q3⟩
    obtain ⟨f, rfl, hf2⟩ := zfuel hf
    have h6 : st (f + 1) (zH E σ) (zI k) = st f (zH E σ1) (zI (k + 1)) := by
      rw [hst f σ k (by omega) h3 (by omega), g1, zz_some]
    rw [h6, q1 β st len (by omega) hst f (by omega), show f + 1 - (m + 1) = f - m by omega]
theorem e1_closeSession (hW : zWF E) (hu : zU E 0 d = true) (hR : zRd (σ 0 d) n) (hn : nW n) (h : nWc n = 0) : ∃ σ', f_X1_closeSession (zH E σ) (zL E 0 d 0) = some (zH E σ', zI (nLa n)) ∧ (∀ k' d' c', ¬ (k' = 0 ∧ d' = d) → σ' k' d' c' = σ k' d' c') ∧ (∀ c', c' = 0 ∨ c' = 23 → σ' 0 d c' = σ 0 d c') ∧ zRd (σ' 0 d) (nCl n) := by
  have hN' := hn.1.r
  obtain ⟨⟨x1, x2, x3, x4, x5, x6⟩, w2, w3, w4, w5⟩ := nCl_W hn h
  obtain ⟨hop, hd⟩ := nWc_0 h
  obtain ⟨h3, hst⟩ := nOp_iff.mp hop
  have hla : nLa n = n 3 - 1 := rfl
  have hent := hn.2.2.2.ent hn.1 h3 (by omega : nLa n < n 3)
  obtain ⟨D, hDe⟩ : ∃ D, D = nDl (nS n (nLa n) 2) := ⟨_, rfl⟩
  have hz : ∀ G : gH, f_X9_directoryLength G (zI (nS n (nLa n) 2)) = some (zI D) := fun G => by rw [nDl_z hent.1 (by omega), hDe]
  rw [← hDe] at x4 x5 x6 w4
  have e0 := x3
  have hbc : nBc (nCl0 n) D.toNat ≤ nGc (nCl0 n) := by
    rw [nBc_ag (fun i _ hi => e0 i (by omega)) (e0 4 (by omega)) (by omega) (by omega), nGc_ag (fun i _ hi => e0 i (by omega)) (e0 0 (by omega)) (e0 1 (by omega)) hn.1]
    exact x4
  have hRb0 : zRb (σ 0 d) (nCl0 n) := zRb_ag (fun _ _ _ => rfl) (fun i _ _ _ _ hi => e0 i (by omega)) hR.1
  obtain ⟨σ1, q1, q2, q3⟩ := e1_wl 2 (nLa n) (-1) (Or.inr rfl) h3 (by omega) (fun z => by omega) hW hu D.toNat σ (nCl0 n) 0 hRb0 x1 x2 (by rw [e0 4 (by omega), e0 0 (by omega), e0 1 (by omega)]; omega) hbc (by rw [e0 3 (by omega)]; omega) (by rw [e0 6 (by omega)]; omega) (by omega) (by omega)
  have hρ1 : ∀ c, ¬ (1 ≤ c ∧ c ≤ 9) → σ1 0 d c = σ 0 d c := fun c hc => q2 0 d c (by omega)
  have hl1 : f_X5_latest (zH E σ1) (zL E 0 d 16) = some (zI (nLa n)) := by
    rw [e5r_latest hW hu, hρ1 16 (by omega), hR.2.2.1.1, hla]
  refine ⟨zs (zs (zs σ1 0 d 17 (nLa n) 1) 0 d 19 (nLa n) (n 4)) 0 d 24 (nLa n) D, ?_, fun k' d' c' hz => ?_, fun c' hc' => ?_, ?_⟩
  · have h5 := q1 (gH × Int32) (fun fuel G x => f_X1_closeSession_L31 fuel G (zL E 0 d 0) (zI (nLa n)) (zI (n 4)) (zI D) x) D (by omega) (fun f τ x hx hx0 hx1 => by
      simp (disch := first | assumption | omega) only [f_X1_closeSession_L31, zz_dco hW hu, zz_blo hW hu, zz_some, zz_lit, zz_num, zI_lt, zI_le, zI_eq, zI_nat, zz_b, if_pos, if_neg, if_true, if_false]) g_N (by unfold g_N; omega)
    have h6 : f_X1_closeSession (zH E σ) (zL E 0 d 0) = f_X1_closeSession_L31 g_N (zH E σ) (zL E 0 d 0) (zI (nLa n)) (zI (n 4)) (zI D) (zI 0) := by
      simp (disch := first | assumption | omega) only [f_X1_closeSession, zz_dco hW hu, zz_seo hW hu, e5_latest hW hu hR.2.2.1 hn.1, e1_next hW hu hR.1, e5_entriesOf hW hu hR.2.2.1 hn.1, hz, zz_some, zz_lit, zz_num, zI_lt, zI_le, zI_eq, zI_nat, zz_b, if_pos, if_neg, if_true, if_false]
    rw [h6, h5]
    obtain ⟨fu, hfu⟩ : ∃ fu, g_N - D.toNat = fu + 1 := ⟨g_N - D.toNat - 1, by unfold g_N; omega⟩
    rw [hfu]
    simp (disch := first | assumption | omega) only [f_X1_closeSession_L31, zz_dco hW hu, zz_seo hW hu, f_X5_markClosed, hl1, zz_dr hW hu, zz_some, zz_lit, zz_num, zI_lt, zI_le, zI_eq, zI_nat, zz_b, if_pos, if_neg, if_true, if_false]
    have hl2 : f_X5_latest (zH E (zs σ1 0 d 17 (nLa n) 1)) (zL E 0 d 16) = some (zI (nLa n)) := by
      rw [e5r_latest hW hu, zs_ne (by omega), hρ1 16 (by omega), hR.2.2.1.1, hla]
    simp (disch := first | assumption | omega) only [zz_seo hW hu, hl2, zz_dr hW hu, zz_some, zz_lit, zz_num, zI_lt, zI_le, zI_eq, zI_nat, zz_b, if_pos, if_neg, if_true, if_false]
    have hl3 : f_X5_latest (zH E (zs (zs σ1 0 d 17 (nLa n) 1) 0 d 19 (nLa n) (n 4))) (zL E 0 d 16) = some (zI (nLa n)) := by
      rw [e5r_latest hW hu, zs_ne (by omega), zs_ne (by omega), hρ1 16 (by omega), hR.2.2.1.1, hla]
    simp (disch := first | assumption | omega) only [zz_seo hW hu, hl3, zz_dr hW hu, zz_some, zz_lit, zz_num, zI_lt, zI_le, zI_eq, zI_nat, zz_b, if_pos, if_neg, if_true, if_false]
  · rw [zs_ne (by omega), zs_ne (by omega), zs_ne (by omega), q2 k' d' c' (by omega)]
  · rw [zs_ne (by omega), zs_ne (by omega), zs_ne (by omega), hρ1 c' (by omega)]
  · refine ⟨zRb_ag (fun c h1 h2 => by rw [zs_ne (by omega), zs_ne (by omega), zs_ne (by omega)]) (fun i _ _ _ _ hi => w4 i (by omega)) q3, zRv_ag (fun c h1 h2 => by rw [zs_ne (by omega), zs_ne (by omega), zs_ne (by omega), hρ1 c (by omega)]) (w5 6 (by omega) (by omega)) (by omega) (fun i h1 h2 => w5 i (by omega) (by omega)) hR.2.1, ?_, ?_⟩
    · obtain ⟨c1, c2, c3, c4, c5, c6, c7, c8⟩ := hR.2.2.1
      unfold zRs
      rw [w5 3 (by omega) (by omega)]
      refine ⟨?_, fun s s0 s1 => ?_, fun s s0 s1 => ?_, fun s s0 s1 => ?_, fun s s0 s1 => ?_, fun s k s0 s1 k0 k1 => ?_, fun s k s0 s1 k0 k1 => ?_, fun s s0 s1 => ?_⟩
      · rw [zs_ne (by omega), zs_ne (by omega), zs_ne (by omega), hρ1 16 (by omega)]; exact c1
      · rw [zs_ne (by omega), zs_ne (by omega), zs_at, w3 s 0 s0 (by omega) (by omega)]
        by_cases hs : s = nLa n
        · rw [if_pos hs, if_pos ⟨hs, rfl⟩]
        · rw [if_neg hs, if_neg (by omega), if_neg (by omega), if_neg (by omega), hρ1 17 (by omega)]; exact c2 s s0 s1
      · rw [zs_ne (by omega), zs_ne (by omega), zs_ne (by omega), hρ1 18 (by omega), w3 s 1 s0 (by omega) (by omega), if_neg (by omega), if_neg (by omega), if_neg (by omega)]; exact c3 s s0 s1
      · rw [zs_ne (by omega), zs_at, zs_ne (by omega), hρ1 19 (by omega), w3 s 3 s0 (by omega) (by omega)]
        by_cases hs : s = nLa n
        · rw [if_pos hs, if_neg (by omega), if_neg (by omega), if_pos ⟨hs, rfl⟩]; omega
        · rw [if_neg hs, if_neg (by omega), if_neg (by omega), if_neg (by omega)]; exact c4 s s0 s1
      · rw [zs_ne (by omega), zs_ne (by omega), zs_ne (by omega), hρ1 20 (by omega), w3 s 2 s0 (by omega) (by omega), if_neg (by omega), if_neg (by omega), if_neg (by omega)]; exact c5 s s0 s1
      · have he := hn.2.2.2.ent hn.1 s0 s1
        rw [w3 s 2 s0 (by omega) (by omega), if_neg (by omega), if_neg (by omega), if_neg (by omega)] at k1
        rw [zs_ne (by omega), zs_ne (by omega), zs_ne (by omega), hρ1 21 (by omega), w3 s _ s0 (by omega) (by omega), if_neg (by omega), if_neg (by omega), if_neg (by omega)]; exact c6 s k s0 s1 k0 k1
      · have he := hn.2.2.2.ent hn.1 s0 s1
        rw [zs_ne (by omega), zs_ne (by omega), zs_ne (by omega), hρ1 22 (by omega), nX_cg (n := n) (n' := nCl n) (s := s) (f := k) (by omega) (by rw [w3 s 2 s0 (by omega) (by omega), if_neg (by omega), if_neg (by omega), if_neg (by omega)]) (fun w w0 w1 => by rw [w3 s w s0 (by omega) (by omega), if_neg (by omega), if_neg (by omega), if_neg (by omega)])]
        exact c7 s k s0 s1 k0 k1
      · have e2 := w3 s 2 s0 (by omega) (by omega)
        rw [if_neg (by omega), if_neg (by omega), if_neg (by omega)] at e2
        have e3 := w3 s 3 s0 (by omega) (by omega)
        rw [zs_at, zs_ne (by omega), zs_ne (by omega), hρ1 24 (by omega)]
        by_cases hs : s = nLa n
        · rw [if_neg (by omega), if_neg (by omega), if_pos ⟨hs, rfl⟩] at e3
          unfold nL
          rw [if_pos hs, e2, e3, if_pos (by omega), hs, hDe]
        · rw [if_neg (by omega), if_neg (by omega), if_neg (by omega)] at e3
          rw [if_neg hs, nL_cg e2 e3]; exact c8 s s0 s1
    · unfold zRf
      rw [zs_ne (by omega), zs_ne (by omega), zs_ne (by omega), hρ1 0 (by omega), w5 2 (by omega) (by omega), w5 5 (by omega) (by omega)]
      exact hR.2.2.2
theorem e1_writeVersion (hW : zWF E) (hu : zU E 0 d = true) (hR : zRd (σ 0 d) n) (hn : nW n) {f m tag : Int} (hf0 : 0 ≤ f) (hf1 : f < n 2) (hm0 : 1 ≤ m) (hm1 : m ≤ 8) (ht0 : 0 ≤ tag) (ht1 : tag ≤ 999) (h : nWw n f m = 0) : ∃ σ', f_X1_writeVersion (zH E σ) (zL E 0 d 0) (zI f) (zI m) (zI tag) = some (zH E σ', zI (n 6)) ∧ (∀ k' d' c', ¬ (k' = 0 ∧ d' = d) → σ' k' d' c' = σ k' d' c') ∧ (∀ c', c' = 0 ∨ c' = 23 → σ' 0 d c' = σ 0 d c') ∧ zRd (σ' 0 d) (nWrs n f m tag) := by
  have hN' := hn.1.r
  obtain ⟨b1, b2, ⟨a1, a2, a3, a4, a5, a6⟩, w3, w4⟩ := nWrs_W hn hf0 hf1 hm0 hm1 ht0 ht1 h
  obtain ⟨hT, hroom, hsp⟩ := nWw_0 h
  obtain ⟨σ1, g1, g2, g3⟩ := e1_beginIfNeeded hW hu hR hn hT
  obtain ⟨n1, hn1⟩ : ∃ x, x = nBi n := ⟨_, rfl⟩
  rw [← hn1] at b1 b2 a1 a2 a3 a4 a5 a6 w3 g3
  have e1 : ∀ i, i < 1255 → i ≠ 3 → n1 i = n i := fun i hi h3 => by rw [hn1]; exact nBi_lo (by omega) hi h3
  have hN1 := b1.1.r
  obtain ⟨l0, lst⟩ := nOp_iff.mp b2
  have hla : nLa n1 = n1 3 - 1 := rfl
  have hver := hn.2.2.1.1
  have hDl := nDl_rng (nEw_rng hn f).1 (by have := (nEw_rng hn f).2; omega)
  have hv6 : n1 6 = n 6 := e1 6 (by omega) (by omega)
  have hv4 : n1 4 = n 4 := e1 4 (by omega) (by omega)
  obtain ⟨σ2, p1, p2, p3⟩ := e7_add (d := d) hW hu g3.2.1 b1.1 (by omega) (f := f) (m := m) (tag := tag) (se := nLa n1)
  obtain ⟨n2, hn2⟩ : ∃ x, x = nAdd n1 f m tag := ⟨_, rfl⟩
  have hn2' : nAr (zu n1 6 (n1 6 + 1)) (n1 6) f (n1 4) m tag (nLa n1) = n2 := hn2.symm
  rw [hn2'] at p3
  rw [← hn2] at a1 a2 a3 a4 a5 a6 w3
  have hρ2 : ∀ c, ¬ (10 ≤ c ∧ c ≤ 15) → σ2 0 d c = σ1 0 d c := fun c hc => p2 0 d c (by omega)
  have hRb2 : zRb (σ2 0 d) n2 := zRb_ag (fun c h1 h2 => hρ2 c (by omega)) (fun i _ _ _ h6 hi => a5 i h6 (by omega)) g3.1
  obtain ⟨σ3, q1, q2, q3⟩ := e1_wl 1 (nLa n1) (n 6) (Or.inl rfl) l0 (by omega) (fun _ => by omega) hW hu m.toNat σ2 n2 0 hRb2 a1 a2 (by omega) a4 (by rw [a5 3 (by omega) (by omega)]; omega) (by omega) (by omega) (by omega)
  have hρ3 : ∀ c, ¬ (1 ≤ c ∧ c ≤ 9) → σ3 0 d c = σ2 0 d c := fun c hc => q2 0 d c (by omega)
  have hw := nWl_W (kind := 1) (se := nLa n1) (v := n 6) m.toNat n2 0 a1 a2 (by omega) a4 (Or.inl rfl) l0 (by rw [a5 3 (by omega) (by omega)]; omega) (by omega) (by omega) (fun _ => by omega) (by omega) (by omega)
  obtain ⟨n3, hn3⟩ : ∃ x, x = nWl 1 (nLa n1) (n 6) n2 0 m.toNat := ⟨_, rfl⟩
  rw [← hn3] at q3 w3 hw
  obtain ⟨-, -, c3, c4⟩ := hw
  have c4' : ∀ i, i ≠ 4 → i < 7 ∨ 775 ≤ i → n3 i = n2 i := fun i h4 hi => c4 i h4 (by omega)
  have d3 : n3 3 = n1 3 := by rw [c4' 3 (by omega) (by omega), a5 3 (by omega) (by omega)]
  have hla3 : nLa n3 = nLa n1 := nLa_lo d3
  have dS : ∀ s w, 0 ≤ s → 0 ≤ w → nS n3 s w = nS n1 s w := fun s w s0 w0 => by
    unfold nS
    rw [c4' _ (by omega) (by omega), a5 _ (by omega) (by omega)]
  have hRs3 : zRs (σ3 0 d) n3 := zRs_ag (fun c h1 _ h2 => by rw [hρ3 c (by omega), hρ2 c (by omega)]) d3 (fun s s0 s1 => by have := b1.2.2.2.ent b1.1 s0 s1; omega) (fun s w s0 _ w0 _ _ => dS s w s0 w0) g3.2.2.1
  have o3 : nOp n3 = true := nOp_iff.mpr ⟨by omega, by rw [hla3, dS _ 0 l0 (by omega)]; exact lst⟩
  obtain ⟨σ4, r1, r2, r3⟩ := e5_enter (v := n 6) hW hu hRs3 w3.1 w3.2.2.2 o3 hf0 (by rw [c4' 2 (by omega) (by omega), a5 2 (by omega) (by omega), e1 2 (by omega) (by omega)]; exact hf1)
  have hρ4 : ∀ c, ¬ (16 ≤ c ∧ c ≠ 23 ∧ c ≤ 24) → σ4 0 d c = σ3 0 d c := fun c hc => r2 0 d c (by omega)
  have hwr : nWrs n f m tag = nE1 n3 f (n 6) := by unfold nWrs; rw [← hn1, ← hn2, ← hn3]
  have hent3 := w3.2.2.2.ent w3.1 (by omega : 0 ≤ nLa n3) (by omega : nLa n3 < n3 3)
  have elo : ∀ i, i < 1255 → nE1 n3 f (n 6) i = n3 i := fun i hi => nE1_lo (by omega) hent3.1 hi
  refine ⟨σ4, ?_, fun k' d' c' hz => ?_, fun c' hc' => ?_, ?_⟩
  · have h5 := q1 (gH × Int32) (fun fuel G x => f_X1_writeVersion_L37 fuel G (zL E 0 d 0) (zI f) (zI m) (zI (nLa n1)) (zI (n 6)) x) m (by omega) (fun f τ x hx hx0 hx1 => by
      simp (disch := first | assumption | omega) only [f_X1_writeVersion_L37, zz_dco hW hu, zz_blo hW hu, zz_some, zz_lit, zz_num, zI_lt, zI_le, zI_eq, zI_nat, zz_b, if_pos, if_neg, if_true, if_false]) g_N (by unfold g_N; omega)
    have h6 : f_X1_writeVersion (zH E σ) (zL E 0 d 0) (zI f) (zI m) (zI tag) = f_X1_writeVersion_L37 g_N (zH E σ2) (zL E 0 d 0) (zI f) (zI m) (zI (nLa n1)) (zI (n 6)) (zI 0) := by
      rw [hv6] at p1
      simp (disch := first | assumption | omega) only [f_X1_writeVersion, zz_dco hW hu, zz_seo hW hu, zz_vso hW hu, g1, e5_latest hW hu g3.2.2.1 b1.1, e1_next hW hu g3.1, p1, zz_some, zz_lit, zz_num, zI_lt, zI_le, zI_eq, zI_nat, zz_b, if_pos, if_neg, if_true, if_false]
    rw [h6, h5]
    obtain ⟨fu, hfu⟩ : ∃ fu, g_N - m.toNat = fu + 1 := ⟨g_N - m.toNat - 1, by unfold g_N; omega⟩
    rw [hfu]
    simp (disch := first | assumption | omega) only [f_X1_writeVersion_L37, zz_dco hW hu, zz_seo hW hu, r1, zz_some, zz_lit, zz_num, zI_lt, zI_le, zI_eq, zI_nat, zz_b, if_pos, if_neg, if_true, if_false]
  · rw [r2 k' d' c' (by omega), q2 k' d' c' (by omega), p2 k' d' c' (by omega), g2 k' d' c' (by omega)]
  · rw [hρ4 c' (by omega), hρ3 c' (by omega), hρ2 c' (by omega), g2 0 d c' (by omega)]
  · rw [hwr]
    refine ⟨zRb_ag (fun c h1 h2 => hρ4 c (by omega)) (fun i _ _ _ _ hi => elo i (by omega)) q3, zRv_ag (ρ := σ2 0 d) (n := n2) (fun c h1 h2 => by rw [hρ4 c (by omega), hρ3 c (by omega)]) (by rw [elo 6 (by omega), c4' 6 (by omega) (by omega)]) (by omega) (fun i h1 h2 => by rw [elo i h2, c4' i (by omega) (by omega)]) p3, r3, ?_⟩
    unfold zRf
    rw [hρ4 0 (by omega), hρ3 0 (by omega), hρ2 0 (by omega), elo 2 (by omega), elo 5 (by omega), c4' 2 (by omega) (by omega), c4' 5 (by omega) (by omega), a5 2 (by omega) (by omega), a5 5 (by omega) (by omega)]
    exact g3.2.2.2
theorem e1_eraseFile (hW : zWF E) (hu : zU E 0 d = true) (hR : zRd (σ 0 d) n) (hn : nW n) {f : Int} (hf0 : 0 ≤ f) (hf1 : f < n 2) (h : nWe n f = 0) : ∃ σ', f_X1_eraseFile (zH E σ) (zL E 0 d 0) (zI f) = some (zH E σ') ∧ (∀ k' d' c', ¬ (k' = 0 ∧ d' = d) → σ' k' d' c' = σ k' d' c') ∧ (∀ c', c' = 0 ∨ c' = 23 → σ' 0 d c' = σ 0 d c') ∧ zRd (σ' 0 d) (nErs n f) := by
  have hN' := hn.1.r
  obtain ⟨b1, b2⟩ := nBi_W hn (nWe_0 h).2
  obtain ⟨σ1, g1, g2, g3⟩ := e1_beginIfNeeded hW hu hR hn (nWe_0 h).2
  have e1 : ∀ i, i < 1255 → i ≠ 3 → nBi n i = n i := fun i hi h3 => nBi_lo (by omega) hi h3
  obtain ⟨σ4, r1, r2, r3⟩ := e5_enter (v := -1) hW hu g3.2.2.1 b1.1 b1.2.2.2 b2 hf0 (by rw [e1 2 (by omega) (by omega)]; exact hf1)
  have hN1 := b1.1.r
  obtain ⟨l0, lst⟩ := nOp_iff.mp b2
  have hla : nLa (nBi n) = nBi n 3 - 1 := rfl
  have hent3 := b1.2.2.2.ent b1.1 l0 (by omega)
  have elo : ∀ i, i < 1255 → nE1 (nBi n) f (-1) i = nBi n i := fun i hi => nE1_lo l0 hent3.1 hi
  have hρ4 : ∀ c, ¬ (16 ≤ c ∧ c ≠ 23 ∧ c ≤ 24) → σ4 0 d c = σ1 0 d c := fun c hc => r2 0 d c (by omega)
  refine ⟨σ4, ?_, fun k' d' c' hz => ?_, fun c' hc' => ?_, ?_⟩
  · simp (disch := first | assumption | omega) only [f_X1_eraseFile, zz_dco hW hu, zz_seo hW hu, g1, r1, zz_some, zz_lit, zz_num, zI_lt, zI_le, zI_eq, zI_nat, zz_b, if_pos, if_neg, if_true, if_false]
  · rw [r2 k' d' c' (by omega), g2 k' d' c' (by omega)]
  · rw [hρ4 c' (by omega), g2 0 d c' (by omega)]
  · unfold nErs
    refine ⟨zRb_ag (fun c h1 h2 => hρ4 c (by omega)) (fun i _ _ _ _ hi => elo i (by omega)) g3.1, zRv_ag (fun c h1 h2 => hρ4 c (by omega)) (elo 6 (by omega)) (by omega) (fun i h1 h2 => elo i h2) g3.2.1, r3, ?_⟩
    unfold zRf
    rw [hρ4 0 (by omega), elo 2 (by omega), elo 5 (by omega)]
    exact g3.2.2.2
theorem e1_loseSession (hW : zWF E) (hu : zU E 0 d = true) (hR : zRd (σ 0 d) n) (hn : nW n) (hop : nOp n = true) : ∃ σ', f_X1_loseSession (zH E σ) (zL E 0 d 0) = some (zH E σ', zI (zcn (fun b => decide (n (295 + b) = nLa n + 1)) 0 (n 0 - n 1).toNat)) ∧ (∀ k' d' c', ¬ (k' = 0 ∧ d' = d) → σ' k' d' c' = σ k' d' c') ∧ (∀ c', c' = 0 ∨ c' = 23 → σ' 0 d c' = σ 0 d c') ∧ zRd (σ' 0 d) (nCrs n) := by
  have hN' := hn.1.r
  obtain ⟨l0, lst⟩ := nOp_iff.mp hop
  have hla : nLa n = n 3 - 1 := rfl
  obtain ⟨w1, w2, w3⟩ := nCrs_W hn hop
  obtain ⟨c1, c2, c3, c4, c5, c6, c7, c8⟩ := hR.2.2.1
  have hd0 : nS n (nLa n) 3 = 0 := by
    have hs := hn.2.2.2 (nLa n) l0 (by omega)
    by_cases h : 0 < nS n (nLa n) 3
    · have := hs.2.2.2.2.1.2.1.mp h; omega
    · have := hs.2.2.2.2.1.1; omega
  obtain ⟨σ0, s0'⟩ : ∃ x, x = zs σ 0 d 17 (nLa n) 2 := ⟨_, rfl⟩
  have hfg := e5_forget hW hu σ0 (s := nLa n) l0 (by omega)
  obtain ⟨σ1, s1⟩ : ∃ x, x = zr (zs σ0 0 d 20 (nLa n) 0) 0 d 22 (fun j => if nLa n * 10 ≤ j ∧ j < nLa n * 10 + 10 then -2 else σ0 0 d 22 j) := ⟨_, rfl⟩
  rw [← s1] at hfg
  have hρ : ∀ c, c ≠ 17 → c ≠ 20 → c ≠ 22 → σ1 0 d c = σ 0 d c := fun c h1 h2 h3 => by rw [s1, zr_ne (by omega), zs_ne (by omega), s0', zs_ne (by omega)]
  have r17 : ∀ s, σ1 0 d 17 s = if s = nLa n then 2 else σ 0 d 17 s := fun s => by rw [s1, zr_ne (by omega), zs_ne (by omega), s0', zs_at]
  have r20 : ∀ s, σ1 0 d 20 s = if s = nLa n then 0 else σ 0 d 20 s := fun s => by rw [s1, zr_ne (by omega), zs_at, s0', zs_ne (by omega)]
  have r22 : ∀ j, σ1 0 d 22 j = if nLa n * 10 ≤ j ∧ j < nLa n * 10 + 10 then -2 else σ 0 d 22 j := fun j => by rw [s1, zr_at, s0', zs_ne (by omega)]
  have hR1 : zRd (σ1 0 d) (nCrs n) := by
    refine ⟨zRb_ag (fun c h1 h2 => hρ c (by omega) (by omega) (by omega)) (fun i _ _ _ _ hi => w2 i (by omega)) hR.1, zRv_ag (fun c h1 h2 => hρ c (by omega) (by omega) (by omega)) (w2 6 (by omega)) (by omega) (fun i h1 h2 => w2 i h2) hR.2.1, ?_, ?_⟩
    · unfold zRs
      rw [w2 3 (by omega)]
      refine ⟨?_, fun s s0 s1' => ?_, fun s s0 s1' => ?_, fun s s0 s1' => ?_, fun s s0 s1' => ?_, fun s k s0 s1' k0 k1 => ?_, fun s k s0 s1' k0 k1 => ?_, fun s s0 s1' => ?_⟩
      · rw [hρ 16 (by omega) (by omega) (by omega)]; exact c1
      · have hx := w3 s 0 s0 (by omega) (by omega)
        rw [if_neg (by omega)] at hx
        rw [r17, hx]
        by_cases hs : s = nLa n
        · rw [if_pos hs, if_pos ⟨hs, rfl⟩]
        · rw [if_neg hs, if_neg (by omega)]; exact c2 s s0 s1'
      · rw [hρ 18 (by omega) (by omega) (by omega), w3 s 1 s0 (by omega) (by omega), if_neg (by omega), if_neg (by omega)]; exact c3 s s0 s1'
      · rw [hρ 19 (by omega) (by omega) (by omega), w3 s 3 s0 (by omega) (by omega), if_neg (by omega), if_neg (by omega)]; exact c4 s s0 s1'
      · rw [r20, w3 s 2 s0 (by omega) (by omega)]
        by_cases hs : s = nLa n
        · rw [if_pos hs, if_pos ⟨hs, rfl⟩]
        · rw [if_neg hs, if_neg (by omega), if_neg (by omega)]; exact c5 s s0 s1'
      · rw [w3 s 2 s0 (by omega) (by omega)] at k1
        by_cases hs : s = nLa n
        · rw [if_pos ⟨hs, rfl⟩] at k1; omega
        · have he := hn.2.2.2.ent hn.1 s0 s1'
          rw [if_neg (by omega), if_neg (by omega)] at k1
          rw [hρ 21 (by omega) (by omega) (by omega), w3 s _ s0 (by omega) (by omega), if_neg (by omega), if_neg (by omega)]; exact c6 s k s0 s1' k0 k1
      · have e2 := w3 s 2 s0 (by omega) (by omega)
        rw [r22]
        by_cases hs : s = nLa n
        · rw [if_pos ⟨hs, rfl⟩] at e2
          rw [if_pos (by omega), nX_0 (by omega)]
        · have he := hn.2.2.2.ent hn.1 s0 s1'
          rw [if_neg (by omega), if_neg (by omega)] at e2
          rw [if_neg (by omega), nX_cg (n := n) (n' := nCrs n) (by omega) e2 (fun w w0 w1 => by rw [w3 s w s0 (by omega) (by omega), if_neg (by omega), if_neg (by omega)])]
          exact c7 s k s0 s1' k0 k1
      · have e2 := w3 s 2 s0 (by omega) (by omega)
        have e3 := w3 s 3 s0 (by omega) (by omega)
        rw [if_neg (by omega), if_neg (by omega)] at e3
        rw [hρ 24 (by omega) (by omega) (by omega), c8 s s0 s1']
        by_cases hs : s = nLa n
        · unfold nL
          rw [e3, hs, hd0, if_neg (by omega), if_neg (by omega)]
        · rw [if_neg (by omega), if_neg (by omega)] at e2
          exact (nL_cg e2 e3).symm
    · unfold zRf
      rw [hρ 0 (by omega) (by omega) (by omega), w2 2 (by omega), w2 5 (by omega)]
      exact hR.2.2.2
  have hl : ∀ σ2 : zW, σ2 0 d 16 0 = n 3 → f_X5_latest (zH E σ2) (zL E 0 d 16) = some (zI (nLa n)) := fun σ2 h => by rw [e5r_latest hW hu, h, hla]
  have hl0 := hl σ c1
  have hl1 := hl σ0 (by rw [s0', zs_ne (by omega)]; exact c1)
  have hl2 := hl σ1 (by rw [hρ 16 (by omega) (by omega) (by omega)]; exact c1)
  have hmb := e0_mainBlocksOf hW hu hR1.1.1 w1.1 w1.2.1 (s := nLa n) l0 (by omega)
  refine ⟨σ1, ?_, fun k' d' c' hz => by rw [s1, zr_ne (by omega), zs_ne (by omega), s0', zs_ne (by omega)], fun c' hc' => hρ c' (by omega) (by omega) (by omega), hR1⟩
  simp (disch := first | assumption | omega) only [f_X1_loseSession, f_X5_markLost, zz_dco hW hu, zz_seo hW hu, hl0, zz_dr hW hu, zz_some, zz_lit, zz_num, zI_lt, zI_le, zI_eq, zI_nat, zz_b, if_pos, if_neg, if_true, if_false]
  rw [← s0']
  simp (disch := first | assumption | omega) only [zz_dco hW hu, zz_seo hW hu, hl1, hfg, zz_some, zz_lit, zz_num, zI_lt, zI_le, zI_eq, zI_nat, zz_b, if_pos, if_neg, if_true, if_false]
  simp (disch := first | assumption | omega) only [zz_dco hW hu, zz_seo hW hu, zz_blo hW hu, hl2, hmb, zz_some, zz_lit, zz_num, zI_lt, zI_le, zI_eq, zI_nat, zz_b, if_pos, if_neg, if_true, if_false]
  rw [w2 0 (by omega), w2 1 (by omega)]
  congr 3
  exact zcn_congr _ _ (fun b b0 b1 => by rw [w2 _ (by omega)])
end zCls

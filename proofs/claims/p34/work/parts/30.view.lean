/-! The class's views. -/
def zVw (κ : Nat → Int → Int) (n : zN) : Prop :=
  κ 0 0 = n 2 ∧ (∀ s, 0 ≤ s → s < n 3 → κ 1 s = zb (nRe n s)) ∧ (∀ f, 0 ≤ f → f < n 2 → κ 2 f = nSk n f 12) ∧ (∀ f, 0 ≤ f → f < n 2 → κ 3 f = nFv n f 12) ∧ (∀ f, 0 ≤ f → f < n 2 → κ 4 f = zb (nGd n f))
theorem zVw.r {κ : Nat → Int → Int} {n : zN} (h : zVw κ n) :
  κ 0 0 = n 2 ∧ (∀ s, 0 ≤ s → s < n 3 → κ 1 s = zb (nRe n s)) ∧ (∀ f, 0 ≤ f → f < n 2 → κ 2 f = nSk n f 12) ∧ (∀ f, 0 ≤ f → f < n 2 → κ 3 f = nFv n f 12) ∧ (∀ f, 0 ≤ f → f < n 2 → κ 4 f = zb (nGd n f)) := h
def zFr (σ σ' : zW) (k d : Nat) : Prop := ∀ k' d', ¬ (k' = k ∧ d' = d) → σ' k' d' = σ k' d'
theorem zFr.rf {σ : zW} {k d : Nat} : zFr σ σ k d := fun _ _ _ => rfl
theorem zFr.tr {σ σ1 σ2 : zW} {k d : Nat} (h : zFr σ σ1 k d) (h2 : zFr σ1 σ2 k d) : zFr σ σ2 k d := fun k' d' z => (h2 k' d' z).trans (h k' d' z)
theorem zs_kd {σ : zW} {k d c k' d' : Nat} {i v : Int} (h : ¬ (k' = k ∧ d' = d)) : zs σ k d c i v k' d' = σ k' d' := by
  funext c'
  exact zs_ne (fun z => h ⟨z.1, z.2.1⟩)
theorem zr_kd {σ : zW} {k d c k' d' : Nat} {r : Int → Int} (h : ¬ (k' = k ∧ d' = d)) : zr σ k d c r k' d' = σ k' d' := by
  funext c'
  exact zr_ne (fun z => h ⟨z.1, z.2.1⟩)
theorem zFr.zs {σ : zW} {k d c : Nat} {i v : Int} : zFr σ (zs σ k d c i v) k d := fun _ _ z => zs_kd z
theorem zFr.zr {σ : zW} {k d c : Nat} {r : Int → Int} : zFr σ (zr σ k d c r) k d := fun _ _ z => zr_kd z
theorem zr_down {σ : zW} {k d c m : Nat} {x : Int} {F : Int → Int} (hx : x = F m) : zr (zs σ k d c m x) k d c (fun i => if 0 ≤ i ∧ i < (m : Int) then F i else zs σ k d c m x k d c i) = zr σ k d c (fun i => if 0 ≤ i ∧ i < ((m + 1 : Nat) : Int) then F i else σ k d c i) := by
  rw [zr_zs]
  congr 1
  funext j
  rw [zs_at, hx]
  by_cases hj : j = m
  · subst hj
    rw [if_neg (by omega), if_pos rfl, if_pos (by omega)]
  · by_cases hj2 : 0 ≤ j ∧ j < (m : Int)
    · rw [if_pos hj2, if_pos (by omega)]
    · rw [if_neg hj2, if_neg hj, if_neg (by omega)]
theorem nGo_succ (n : zN) (t : Nat) : nGo n (t + 1) = (nGo n t && (nIs n (nLa n - t) || decide (nS n (nLa n - t) 0 ≠ 1) || decide (n 5 = 1))) := rfl
theorem nSk_rng (n : zN) (f b : Int) : -1 ≤ nSk n f b ∧ (0 ≤ nSk n f b → nSk n f b < n 3 ∧ nSk n f b < b) := by
  have h := zls_rng (fun s => nRe n s && decide (nEn n s f ≠ -1)) (min b (n 3)).toNat
  unfold nSk
  omega
theorem nSk_en {n : zN} {f b : Int} (h : 0 ≤ nSk n f b) : nRe n (nSk n f b) = true ∧ nEn n (nSk n f b) f ≠ -1 := by
  have h2 : nSk n f b = zls (fun s => nRe n s && decide (nEn n s f ≠ -1)) (min b (n 3)).toNat := rfl
  rcases zls_spec (P := fun s => nRe n s && decide (nEn n s f ≠ -1)) (min b (n 3)).toNat with ⟨h3, -⟩ | ⟨h3, h4, h5, -⟩
  · omega
  · rw [← h2] at h5
    simpa using h5
theorem nFv_rng {n : zN} (hn : nW n) (f b : Int) : -1 ≤ nFv n f b ∧ nFv n f b < n 6 := by
  have h1 := nSk_rng n f b
  have hN := hn.1.r
  unfold nFv nSv
  by_cases h : nSk n f b = -1
  · rw [if_pos h]; omega
  · rw [if_neg h]
    have h2 := nSk_en (n := n) (f := f) (b := b) (by omega)
    have h3 := nEn_rng n (nSk n f b) f
    have h4 := (hn.2.2.2 (nSk n f b) (by omega) (by omega)).2.2.2.2.2.2 (nEn n (nSk n f b) f) (by omega) (by omega)
    exact h4.2
section zCls
variable {E : zE} {σ : zW} {d v : Nat} {n : zN}
theorem e8_markReached_L (hW : zWF E) (hu : zU E 0 d = true) (hv : zU E 1 v = true) (hn : nW n) : ∀ (m fuel : Nat) (σ : zW), zRd (σ 0 d) n → (m : Int) ≤ n 3 → m < fuel → f_X8_markReached_L13 fuel (zH E σ) (zL E 1 v 0) (zL E 0 d 0) (zL E 0 d 16) (zI (zb (nGo n (n 3 - m).toNat))) (zI ((m : Int) - 1)) = some (zH E (zr σ 1 v 1 (fun i => if 0 ≤ i ∧ i < (m : Int) then zb (nRe n i) else σ 1 v 1 i))) := by
  have hN' := hn.1.r
  intro m
  induction m with
  | zero =>
    intro fuel σ hR h1 h2
    obtain ⟨f, rfl, h3⟩ := zfuel h2
    simp (disch := first | assumption | omega) only [f_X8_markReached_L13, zz_some, zz_lit, zz_num, zI_lt, zI_le, zI_eq, zI_nat, zz_b, if_pos, if_neg, if_true, if_false]
    rw [zr_self]
    funext j
    first | rfl | rw [if_neg (by omega)]
  | succ m ih =>
    intro fuel σ hR h1 h2
    obtain ⟨f, rfl, h3⟩ := zfuel h2
    have hs := hn.2.2.2 m (by omega) (by omega)
    have hf : σ 0 d 0 5 = n 5 := hR.2.2.2.2
    obtain ⟨t, ht⟩ : ∃ t, (n 3 - ((m + 1 : Nat) : Int)).toNat = t := ⟨_, rfl⟩
    have ht2 : (n 3 - (m : Int)).toNat = t + 1 := by omega
    have hm : nLa n - (t : Int) = m := by unfold nLa; omega
    have hg := nGo_succ n t
    rw [hm] at hg
    have hre : nRe n m = (nGo n t && nIs n m) := by
      unfold nRe
      rw [show (nLa n - (m : Int)).toNat = t by unfold nLa; omega]
    have hih : ∀ x : Int, x = zb (nRe n m) → f_X8_markReached_L13 f (zH E (zs σ 1 v 1 m x)) (zL E 1 v 0) (zL E 0 d 0) (zL E 0 d 16) (zI (zb (nGo n (t + 1)))) (zI ((m : Int) - 1)) = some (zH E (zr σ 1 v 1 (fun i => if 0 ≤ i ∧ i < ((m + 1 : Nat) : Int) then zb (nRe n i) else σ 1 v 1 i))) := by
      intro x hx
      have h4 := ih f (zs σ 1 v 1 m x) (by rw [zs_kd (by omega)]; exact hR) (by omega) (by omega)
      rw [ht2] at h4
      exact h4.trans (congrArg (fun s => some (zH E s)) (zr_down (F := fun i => zb (nRe n i)) hx))
    rw [ht, show (((m + 1 : Nat) : Int) - 1) = (m : Int) by omega]
    have hdir := e5_directoryOf hW hu hR.2.2.1 hn.1 (s := m) (by omega) (by omega)
    rw [if_pos (by omega)] at hdir
    have hlen := e5_directoryLengthOf hW hu hR.2.2.1 hn.1 (s := m) (by omega) (by omega)
    have hcr := e0_canReadDir hW hu hR hn (s := m) (by omega) (by omega)
    have hi : (m : Int) + -1 = (m : Int) - 1 := by omega
    simp (disch := first | assumption | omega) only [f_X8_markReached_L13, f_X8_markReached_J36, zz_dco hW hu, zz_seo hW hu, e5_stateOf hW hu hR.2.2.1 hn.1, zz_some, zz_lit, zz_num, zI_lt, zI_le, zI_eq, zI_nat, zz_b, if_pos, if_neg, if_true, if_false]
    rcases (by omega : nS n m 0 = 0 ∨ nS n m 0 = 1 ∨ nS n m 0 = 2 ∨ nS n m 0 = 3) with h | h | h | h
    · have ht0 : t = 0 := by have := hs.2.1 h; omega
      subst ht0
      have e1 : nIs n m = true := by simp [nIs, h]
      have e2 : nGo n (0 + 1) = true := by rw [hg, e1]; rfl
      have e3 : nRe n m = true := by rw [hre, e1]; rfl
      have h5 := hih 1 (by rw [e3]; rfl)
      rw [e2] at h5
      rw [h]
      simp (disch := first | assumption | omega) only [zz_vwo hW hv, zz_vr hW hv, hi, zz_some, zz_lit, zz_num, zI_lt, zI_le, zI_eq, zI_nat, zz_b, if_pos, if_neg, if_true, if_false]
      exact h5
    · rw [h]
      cases hgt : nGo n t
      · have e2 : nGo n (t + 1) = false := by rw [hg, hgt]; rfl
        have e3 : nRe n m = false := by rw [hre, hgt]; rfl
        have h5 := hih 0 (by rw [e3]; rfl)
        rw [e2] at h5
        simp (disch := first | assumption | omega) only [zz_vwo hW hv, zz_vr hW hv, hi, zz_some, zz_lit, zz_num, zI_lt, zI_le, zI_eq, zI_nat, zz_b, if_pos, if_neg, if_true, if_false]
        exact h5
      · cases hrd : nRdD n m
        · have e1 : nIs n m = false := by simp [nIs, h, hrd]
          have e3 : nRe n m = false := by rw [hre, e1, hgt]; rfl
          have h5 := hih (zb false) (by rw [e3])
          rcases hN'.2.2.2.2.2.1 with h6 | h6
          · have e2 : nGo n (t + 1) = false := by rw [hg, hgt, e1]; simp [h, h6]
            rw [e2] at h5
            simp (disch := first | assumption | omega) only [zz_vwo hW hv, zz_vr hW hv, hi, zz_seo hW hu, zz_blo hW hu, hdir, hlen, hcr, hrd, zz_dc hW hu, zz_dco hW hu, hf, h6, f_X8_markReached_J86, Bool.true_eq_false, zz_some, zz_lit, zz_num, zI_lt, zI_le, zI_eq, zI_nat, zz_b, if_pos, if_neg, if_true, if_false]
            exact h5
          · have e2 : nGo n (t + 1) = true := by rw [hg, hgt, e1]; simp [h, h6]
            rw [e2] at h5
            simp (disch := first | assumption | omega) only [zz_vwo hW hv, zz_vr hW hv, hi, zz_seo hW hu, zz_blo hW hu, hdir, hlen, hcr, hrd, zz_dc hW hu, zz_dco hW hu, hf, h6, f_X8_markReached_J86, Bool.true_eq_false, zz_some, zz_lit, zz_num, zI_lt, zI_le, zI_eq, zI_nat, zz_b, if_pos, if_neg, if_true, if_false]
            exact h5
        · have e1 : nIs n m = true := by simp [nIs, h, hrd]
          have e2 : nGo n (t + 1) = true := by rw [hg, hgt, e1]; rfl
          have e3 : nRe n m = true := by rw [hre, e1, hgt]; rfl
          have h5 := hih (zb true) (by rw [e3])
          rw [e2] at h5
          simp (disch := first | assumption | omega) only [zz_vwo hW hv, zz_vr hW hv, hi, zz_seo hW hu, zz_blo hW hu, hdir, hlen, hcr, hrd, zz_dco hW hu, f_X8_markReached_J86, Bool.true_eq_false, zz_some, zz_lit, zz_num, zI_lt, zI_le, zI_eq, zI_nat, zz_b, if_pos, if_neg, if_true, if_false]
          exact h5
    all_goals
      have e1 : nIs n m = false := by simp [nIs, h]
      have e2 : nGo n (t + 1) = nGo n t := by rw [hg]; simp [h]
      have e3 : nRe n m = false := by rw [hre, e1]; simp
      have h5 := hih 0 (by rw [e3]; rfl)
      rw [e2] at h5
      rw [h]
      simp (disch := first | assumption | omega) only [zz_vwo hW hv, zz_vr hW hv, hi, zz_some, zz_lit, zz_num, zI_lt, zI_le, zI_eq, zI_nat, zz_b, if_pos, if_neg, if_true, if_false]
      exact h5
theorem e8_markReached (hW : zWF E) (hu : zU E 0 d = true) (hv : zU E 1 v = true) (hn : nW n) (hR : zRd (σ 0 d) n) : f_X8_markReached (zH E σ) (zL E 1 v 0) (zL E 0 d 0) = some (zH E (zr σ 1 v 1 (fun i => if 0 ≤ i ∧ i < n 3 then zb (nRe n i) else σ 1 v 1 i))) := by
  have hN' := hn.1.r
  simp (disch := first | assumption | omega) only [f_X8_markReached, zz_dco hW hu, zz_seo hW hu, e5_latest hW hu hR.2.2.1 hn.1, zz_some, zz_lit, zz_num, zI_lt, zI_le, zI_eq, zI_nat, zz_b, if_pos, if_neg, if_true, if_false]
  have h := e8_markReached_L hW hu hv hn (n 3).toNat g_N σ hR (by omega) (by unfold g_N; omega)
  rw [show (((n 3).toNat : Nat) : Int) = n 3 by omega] at h
  rw [show (n 3 - n 3).toNat = 0 by omega] at h
  exact h
theorem e8_isReached (hW : zWF E) (hu : zU E 0 d = true) (hv : zU E 1 v = true) (hn : nW n) {s : Int} (h0 : 0 ≤ s) (h1 : s < 12) {b : Bool} (hb : σ 1 v 1 s = zb b) : f_X8_isReached (zH E σ) (zL E 1 v 0) (zI s) = some (zI (zb b)) := by
  simp (disch := first | assumption | omega) only [f_X8_isReached, zz_vwo hW hv, zz_some, zz_lit, zz_num, zI_lt, zI_le, zI_eq, zI_nat, zz_b, if_pos, if_neg, if_true, if_false]
  rw [zX_isSet (n := 12) hW hv rfl (by decide) (by omega) (by omega) (fun _ _ => by rw [hb]; exact zb_01 b), if_pos ⟨h0, h1⟩, hb]
  exact g_zb b
theorem e8_sessionThatCounts_L (hW : zWF E) (hu : zU E 0 d = true) (hv : zU E 1 v = true) (hn : nW n) (hR : zRd (σ 0 d) n) (hr : ∀ s, 0 ≤ s → s < n 3 → σ 1 v 1 s = zb (nRe n s)) {x : Int} (hx0 : 0 ≤ x) (hx1 : x < 10) : ∀ (m fuel : Nat), (m : Int) ≤ n 3 → m < fuel → f_X8_sessionThatCounts_L5 (zH E σ) fuel (zL E 1 v 0) (zL E 0 d 16) (zI x) (zI ((m : Int) - 1)) = some (zI (zls (fun s => nRe n s && decide (nEn n s x ≠ -1)) m)) := by
  have hN' := hn.1.r
  intro m
  induction m with
  | zero =>
    intro fuel h1 h2
    obtain ⟨f, rfl, h3⟩ := zfuel h2
    simp (disch := first | assumption | omega) only [f_X8_sessionThatCounts_L5, zls, zz_some, zz_lit, zz_num, zI_lt, zI_le, zI_eq, zI_nat, zz_b, if_pos, if_neg, if_true, if_false]
  | succ m ih =>
    intro fuel h1 h2
    obtain ⟨f, rfl, h3⟩ := zfuel h2
    have hi : (m : Int) + -1 = (m : Int) - 1 := by omega
    have he := hn.2.2.2.ent hn.1 (s := m) (by omega) (by omega)
    have hE := nEn_rng n m x
    rw [show (((m + 1 : Nat) : Int) - 1) = (m : Int) by omega]
    simp (disch := first | assumption | omega) only [f_X8_sessionThatCounts_L5, zz_vwo hW hv, zz_seo hW hu, e8_isReached hW hu hv hn (by omega : (0 : Int) ≤ m) (by omega) (hr m (by omega) (by omega)), e5_hasEntry hW hu hR.2.2.1 hn.1 hn.2.2.2, zls, ih, hi, zz_some, zz_lit, zz_num, zI_lt, zI_le, zI_eq, zI_nat, zz_b, if_pos, if_neg, if_true, if_false]
    by_cases h7 : nRe n m = true
    · by_cases h : nEn n m x = -1
      · simp [h, h7]
      · simp [h, h7]
    · simp [h7]
theorem e8_sessionThatCounts (hW : zWF E) (hu : zU E 0 d = true) (hv : zU E 1 v = true) (hn : nW n) (hR : zRd (σ 0 d) n) (hr : ∀ s, 0 ≤ s → s < n 3 → σ 1 v 1 s = zb (nRe n s)) {x y : Int} (hx0 : 0 ≤ x) (hx1 : x < 10) (hy0 : 0 ≤ y) (hy1 : y ≤ n 3) : f_X8_sessionThatCounts (zH E σ) (zL E 1 v 0) (zL E 0 d 16) (zI x) (zI y) = some (zI (nSk n x y)) := by
  have hN' := hn.1.r
  simp (disch := first | assumption | omega) only [f_X8_sessionThatCounts, zz_some, zz_lit, zz_num, zI_lt, zI_le, zI_eq, zI_nat, zz_b, if_pos, if_neg, if_true, if_false]
  rw [show y - 1 = ((y.toNat : Nat) : Int) - 1 by omega, e8_sessionThatCounts_L hW hu hv hn hR hr hx0 hx1 y.toNat _ (by omega) (by unfold g_N; omega)]
  unfold nSk
  rw [show min y (n 3) = y by omega]
theorem nSk_12 (hn : nW n) (x : Int) : nSk n x (n 3) = nSk n x 12 := by
  have hN' := hn.1.r
  unfold nSk
  rw [show min (n 3) (n 3) = min 12 (n 3) by omega]
/-- the version that the entry of the session that counts tells -/
theorem e8_vers (hW : zWF E) (hu : zU E 0 d = true) (hv : zU E 1 v = true) (hn : nW n) (hR : zRd (σ 0 d) n) {x y : Int} (hx0 : 0 ≤ x) (hx1 : x < 10) : f_X5_versionFor (zH E σ) (zL E 0 d 16) (zI (nSk n x y)) (zI x) = some (zI (nFv n x y)) := by
  have hN' := hn.1.r
  have h1 := nSk_rng n x y
  unfold nFv nSv
  by_cases h : nSk n x y = -1
  · rw [h, if_pos rfl, e5_versionFor' hW hu hx0 hx1]
  · have h2 := nSk_en (n := n) (f := x) (b := y) (by omega)
    rw [if_neg h, e5_versionFor hW hu hR.2.2.1 hn.1 hn.2.2.2 (by omega) (by omega) hx0 hx1, if_neg h2.2]
/-- the first m files are held -/
def zVm (κ : Nat → Int → Int) (n : zN) (m : Int) : Prop :=
  κ 0 0 = n 2 ∧ (∀ s, 0 ≤ s → s < n 3 → κ 1 s = zb (nRe n s)) ∧ (∀ f, 0 ≤ f → f < m → κ 2 f = nSk n f 12) ∧ (∀ f, 0 ≤ f → f < m → κ 3 f = nFv n f 12) ∧ (∀ f, 0 ≤ f → f < m → κ 4 f = zb (nGd n f))
theorem e8_lookAt_L (hW : zWF E) (hu : zU E 0 d = true) (hv : zU E 1 v = true) (hn : nW n) : ∀ (m fuel : Nat) (i : Int) (σ : zW), zRd (σ 0 d) n → zVm (σ 1 v) n i → 0 ≤ i → i + m = n 2 → m < fuel → ∃ σ', f_X8_lookAt_L15 fuel (zH E σ) (zL E 1 v 0) (zL E 0 d 0) (zI i) = some (zH E σ', (zL E 1 v 0)) ∧ zFr σ σ' 1 v ∧ zVw (σ' 1 v) n := by
  have hN' := hn.1.r
  intro m
  induction m with
  | zero =>
    intro fuel i σ hR hV h0 h1 h2
    obtain ⟨f, rfl, h3⟩ := zfuel h2
    have hi : i = n 2 := by omega
    subst hi
    refine ⟨σ, ?_, zFr.rf, hV⟩
    have hc := hV.1
    simp (disch := first | assumption | omega) only [f_X8_lookAt_L15, zz_vw hW hv, hc, zz_some, zz_lit, zz_num, zI_lt, zI_le, zI_eq, zI_nat, zz_b, if_pos, if_neg, if_true, if_false]
  | succ m ih =>
    intro fuel i σ hR hV h0 h1 h2
    obtain ⟨f, rfl, h3⟩ := zfuel h2
    have hc := hV.1
    have hr := hV.2.1
    have hF := nFv_rng hn i 12
    obtain ⟨σ1, e1⟩ : ∃ s, s = zs (zs σ 1 v 2 i (nSk n i 12)) 1 v 3 i (nFv n i 12) := ⟨_, rfl⟩
    have hR1 : zRd (σ1 0 d) n := by rw [e1, zs_kd (by omega), zs_kd (by omega)]; exact hR
    have hstep : ∀ b : Bool, b = nGd n i → ∃ σ', f_X8_lookAt_L15 f (zH E (zs σ1 1 v 4 i (zb b))) (zL E 1 v 0) (zL E 0 d 0) (zI (i + 1)) = some (zH E σ', (zL E 1 v 0)) ∧ zFr σ σ' 1 v ∧ zVw (σ' 1 v) n := by
      intro b hb
      obtain ⟨σ', h4, h5, h6⟩ := ih f (i + 1) (zs σ1 1 v 4 i (zb b)) (by rw [zs_kd (by omega)]; exact hR1) (by
        subst e1 hb
        refine ⟨by simp [zs, hc], fun s h4 h5 => by simp [zs, hr s h4 h5], fun g h4 h5 => ?_, fun g h4 h5 => ?_, fun g h4 h5 => ?_⟩
        · by_cases hg : g = i
          · subst hg; simp [zs]
          · simp [zs, hg, hV.2.2.1 g h4 (by omega)]
        · by_cases hg : g = i
          · subst hg; simp [zs]
          · simp [zs, hg, hV.2.2.2.1 g h4 (by omega)]
        · by_cases hg : g = i
          · subst hg; simp [zs]
          · simp [zs, hg, hV.2.2.2.2 g h4 (by omega)]) (by omega) (by omega) (by omega)
      refine ⟨σ', h4, zFr.tr ?_ h5, h6⟩
      subst e1
      exact zFr.tr zFr.zs (zFr.tr zFr.zs zFr.zs)
    simp (disch := first | assumption | omega) only [f_X8_lookAt_L15, zz_vw hW hv, zz_vwo hW hv, hc, zz_dco hW hu, zz_seo hW hu, e5_count hW hu hR.2.2.1 hn.1, e8_sessionThatCounts hW hu hv hn hR hr, nSk_12 hn, e8_vers hW hu hv hn hR, zz_vr hW hv, zz_some, zz_lit, zz_num, zI_lt, zI_le, zI_eq, zI_nat, zz_b, if_pos, if_neg, if_true, if_false]
    rw [← e1]
    by_cases h : nFv n i 12 = -1
    · obtain ⟨σ', h4, h5⟩ := hstep false (by simp [nGd, h])
      refine ⟨σ', ?_, h5⟩
      rw [h]
      simp (disch := first | assumption | omega) only [zz_vwo hW hv, zz_vr hW hv, zz_dco hW hu, e1_canReadVersion' hW hu hR1 hn, zz_some, zz_lit, zz_num, zI_lt, zI_le, zI_eq, zI_nat, zz_b, if_pos, if_neg, if_true, if_false]
      exact h4
    · cases h8 : nRv n (nFv n i 12)
      · obtain ⟨σ', h4, h5⟩ := hstep false (by simp [nGd, h8])
        refine ⟨σ', ?_, h5⟩
        simp (disch := first | assumption | omega) only [zz_vwo hW hv, zz_vr hW hv, zz_dco hW hu, e1_canReadVersion hW hu hR1 hn, h8, zz_some, zz_lit, zz_num, zI_lt, zI_le, zI_eq, zI_nat, zz_b, if_pos, if_neg, if_true, if_false]
        exact h4
      · obtain ⟨σ', h4, h5⟩ := hstep true (by simp [nGd, h8, h])
        refine ⟨σ', ?_, h5⟩
        simp (disch := first | assumption | omega) only [zz_vwo hW hv, zz_vr hW hv, zz_dco hW hu, e1_canReadVersion hW hu hR1 hn, h8, Bool.true_eq_false, zz_some, zz_lit, zz_num, zI_lt, zI_le, zI_eq, zI_nat, zz_b, if_pos, if_neg, if_true, if_false]
        exact h4
theorem e8_lookAt (hW : zWF E) (hu : zU E 0 d = true) (hv : zU E 1 v = true) (hn : nW n) (hR : zRd (σ 0 d) n) : ∃ σ', f_X8_lookAt (zH E σ) (zL E 1 v 0) (zL E 0 d 0) = some (zH E σ', (zL E 1 v 0)) ∧ zFr σ σ' 1 v ∧ zVw (σ' 1 v) n := by
  have hN' := hn.1.r
  have hf : σ 0 d 0 3 = n 2 := hR.2.2.2.1
  obtain ⟨σ1, e1⟩ : ∃ s, s = zs σ 1 v 0 0 (n 2) := ⟨_, rfl⟩
  have hR1 : zRd (σ1 0 d) n := by rw [e1, zs_kd (by omega)]; exact hR
  have h1 := e8_markReached hW hu hv hn (σ := σ1) hR1
  obtain ⟨σ2, e2⟩ : ∃ s, s = zr σ1 1 v 1 (fun i => if 0 ≤ i ∧ i < n 3 then zb (nRe n i) else σ1 1 v 1 i) := ⟨_, rfl⟩
  rw [← e2] at h1
  obtain ⟨σ', h2, h3, h4⟩ := e8_lookAt_L hW hu hv hn (n 2).toNat g_N 0 σ2 (by rw [e2, zr_kd (by omega)]; exact hR1) ⟨by rw [e2, e1]; simp [zs, zr], fun s h5 h6 => by rw [e2]; simp [zr, h5, h6], fun g _ _ => by omega, fun g _ _ => by omega, fun g _ _ => by omega⟩ (by omega) (by omega) (by unfold g_N; omega)
  refine ⟨σ', ?_, zFr.tr (by rw [e2, e1]; exact zFr.tr zFr.zs zFr.zr) h3, h4⟩
  unfold f_X8_lookAt
  rw [show g_i (zH E σ) (zL E 0 d 0) 1 3 = some (zI (n 2)) by rw [← hf]; exact (zz_dc hW hu).2.2.2.1, zz_some]
  simp (disch := first | assumption | omega) only [zz_vw hW hv, zz_vwo hW hv, zz_some, zz_lit, zz_num, zI_lt, zI_le, zI_eq, zI_nat, zz_b, if_pos, if_neg, if_true, if_false]
  rw [← e1]
  simp (disch := first | assumption | omega) only [zz_vwo hW hv, h1, zz_some, zz_lit, zz_num, zI_lt, zI_le, zI_eq, zI_nat, zz_b, if_pos, if_neg, if_true, if_false]
  exact h2
end zCls

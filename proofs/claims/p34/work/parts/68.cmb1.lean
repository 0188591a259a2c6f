/-! The class's text: a statement's work does not look at the number of files. -/
theorem nZu2_W {n : zN} (hn : nW n) (h10 : n 2 < 10) : nW (zu n 2 (n 2 + 1)) := by
  have h7 : ∀ i : Int, i ≠ 2 → zu n 2 (n 2 + 1) i = n i := fun i hi => by unfold zu; rw [if_neg hi]
  have h2 : zu n 2 (n 2 + 1) 2 = n 2 + 1 := by unfold zu; rw [if_pos rfl]
  have hV : ∀ v w : Int, 0 ≤ v → 0 ≤ w → nV (zu n 2 (n 2 + 1)) v w = nV n v w := fun v w a1 a2 => by unfold nV; exact h7 _ (by omega)
  have hS : ∀ v w : Int, 0 ≤ v → 0 ≤ w → nS (zu n 2 (n 2 + 1)) v w = nS n v w := fun v w a1 a2 => by unfold nS; exact h7 _ (by omega)
  have hN := hn.1.r
  refine ⟨?_, nWb_ag (fun i a1 a2 => h7 i (by omega)) (h7 0 (by omega)) (h7 1 (by omega)) (by rw [h7 3 (by omega)]; exact Int.le_refl _) (h7 4 (by omega)) (by rw [h7 6 (by omega)]; exact Int.le_refl _) hn.2.1, ?_, ?_⟩
  · unfold nWn
    rw [h7 0 (by omega), h7 1 (by omega), h2, h7 3 (by omega), h7 4 (by omega), h7 5 (by omega), h7 6 (by omega)]
    omega
  · obtain ⟨q, hv⟩ := hn.2.2.1
    unfold nWv
    rw [h7 6 (by omega), h7 4 (by omega), h2, h7 3 (by omega)]
    refine ⟨q, fun v v0 v1 => ?_⟩
    obtain ⟨a1, a2, a3, a4, a5, a6, a7⟩ := hv v v0 v1
    rw [hV v 0 v0 (by omega), hV v 1 v0 (by omega), hV v 2 v0 (by omega), hV v 3 v0 (by omega), hV v 4 v0 (by omega)]
    refine ⟨by omega, a2, a3, a4, a5, a6, fun s k s0 s1 k0 k1 e => ?_⟩
    rw [hS s 2 s0 (by omega)] at k1
    rw [hS s _ s0 (by omega)] at e ⊢
    exact a7 s k s0 s1 k0 k1 e
  · intro s s0 s1
    rw [h7 3 (by omega)] at s1
    obtain ⟨a1, a2, a3, a4, a5, a6, a7⟩ := hn.2.2.2 s s0 s1
    rw [hS s 0 s0 (by omega), hS s 1 s0 (by omega), hS s 2 s0 (by omega), hS s 3 s0 (by omega), hS s 4 s0 (by omega), h7 3 (by omega), h7 4 (by omega), h2]
    refine ⟨a1, a2, a3, ⟨a4.1, ?_⟩, a5, ?_, fun k k0 k1 => ?_⟩
    · rw [show (n 2 + 1).toNat = (n 2).toNat + 1 by omega, zcn_snoc]
      have e : zcn (fun f => decide (nEn (zu n 2 (n 2 + 1)) s f ≠ -1)) 0 (n 2).toNat = zcn (fun f => decide (nEn n s f ≠ -1)) 0 (n 2).toNat := zcn_congr _ _ (fun f f0 f1 => by rw [nEn_cg (fun i hi => h7 i (by omega)) s0])
      rw [e]
      have := a4.2
      have z : 0 ≤ zb (decide (nEn (zu n 2 (n 2 + 1)) s (0 + ((n 2).toNat : Int)) ≠ -1)) := by unfold zb; split <;> omega
      omega
    · rw [a6]
      split
      · congr 1
        have : ∀ (m : Nat) (P Q : Int → Bool), (∀ i, 0 ≤ i → i < m → P i = Q i) → zls P m = zls Q m := by
          intro m P Q h
          induction m with
          | zero => rfl
          | succ m ih =>
            have := ih (fun i a b => h i a (by omega))
            simp only [zls, this, h m (by omega) (by omega)]
        exact this _ _ _ (fun i i0 i1 => by rw [hS (i : Int) 0 (by omega) (by omega)])
      · rfl
    · rw [hS s _ s0 (by omega), hS s _ s0 (by omega), h7 6 (by omega)]
      have := a7 k k0 k1
      omega
theorem zRd_2 {ρ ρ' : Nat → Int → Int} {n : zN} {x : Int} (hR : zRd ρ n) (h : ∀ c, c ≠ 0 → c ≠ 23 → ρ' c = ρ c) (h3 : ρ' 0 3 = x) (h5 : ρ' 0 5 = ρ 0 5) : zRd ρ' (zu n 2 x) := by
  have h7 : ∀ i : Int, i ≠ 2 → zu n 2 x i = n i := fun i hi => by unfold zu; rw [if_neg hi]
  have hV : ∀ v w : Int, 0 ≤ v → 0 ≤ w → nV (zu n 2 x) v w = nV n v w := fun v w h1 h2 => by unfold nV; exact h7 _ (by omega)
  have hS : ∀ v w : Int, 0 ≤ v → 0 ≤ w → nS (zu n 2 x) v w = nS n v w := fun v w h1 h2 => by unfold nS; exact h7 _ (by omega)
  obtain ⟨⟨⟨k1, k2, k3, k4, k5, k6, k7, k8, k9, k10⟩, b2⟩, ⟨v1, v2, v3, v4, v5, v6⟩, ⟨s1, s2, s3, s4, s5, s6, s7, s8⟩, f1, f2⟩ := hR
  refine ⟨⟨⟨?_, ?_, ?_, ?_, ?_, ?_, ?_, ?_, ?_, ?_⟩, ?_⟩, ⟨?_, ?_, ?_, ?_, ?_, ?_⟩, ⟨?_, ?_, ?_, ?_, ?_, ?_, ?_, ?_⟩, ?_, ?_⟩
  · rw [h 1 (by omega) (by omega), h7 0 (by omega)]; exact k1
  · rw [h 1 (by omega) (by omega), h7 0 (by omega), h7 1 (by omega)]; exact k2
  · rw [h 1 (by omega) (by omega), h7 4 (by omega)]; exact k3
  · intro b b0 b1; rw [h 2 (by omega) (by omega), h7 _ (by omega)]; exact k4 b b0 b1
  · intro b b0 b1; rw [h 3 (by omega) (by omega), h7 _ (by omega)]; exact k5 b b0 b1
  · intro b b0 b1; rw [h 4 (by omega) (by omega), h7 _ (by omega)]; exact k6 b b0 b1
  · intro b b0 b1; rw [h 5 (by omega) (by omega), h7 _ (by omega)]; exact k7 b b0 b1
  · intro b b0 b1; rw [h 6 (by omega) (by omega), h7 _ (by omega)]; exact k8 b b0 b1
  · intro b b0 b1; rw [h 7 (by omega) (by omega), h7 _ (by omega)]; exact k9 b b0 b1
  · intro b b0 b1; rw [h 8 (by omega) (by omega), h7 _ (by omega)]; exact k10 b b0 b1
  · intro b b0 b1
    rw [h 9 (by omega) (by omega), h7 4 (by omega)]
    have : nPl (zu n 2 x) b = nPl n b := by unfold nPl; rw [h7 _ (by omega)]
    rw [this]
    exact b2 b b0 b1
  · rw [h 10 (by omega) (by omega), h7 6 (by omega)]; exact v1
  · intro v a0 a1; rw [h7 6 (by omega)] at a1; rw [h 11 (by omega) (by omega), hV _ _ a0 (by omega)]; exact v2 v a0 a1
  · intro v a0 a1; rw [h7 6 (by omega)] at a1; rw [h 12 (by omega) (by omega), hV _ _ a0 (by omega)]; exact v3 v a0 a1
  · intro v a0 a1; rw [h7 6 (by omega)] at a1; rw [h 13 (by omega) (by omega), hV _ _ a0 (by omega)]; exact v4 v a0 a1
  · intro v a0 a1; rw [h7 6 (by omega)] at a1; rw [h 14 (by omega) (by omega), hV _ _ a0 (by omega)]; exact v5 v a0 a1
  · intro v a0 a1; rw [h7 6 (by omega)] at a1; rw [h 15 (by omega) (by omega), hV _ _ a0 (by omega)]; exact v6 v a0 a1
  · rw [h 16 (by omega) (by omega), h7 3 (by omega)]; exact s1
  · intro s a0 a1; rw [h7 3 (by omega)] at a1; rw [h 17 (by omega) (by omega), hS _ _ a0 (by omega)]; exact s2 s a0 a1
  · intro s a0 a1; rw [h7 3 (by omega)] at a1; rw [h 18 (by omega) (by omega), hS _ _ a0 (by omega)]; exact s3 s a0 a1
  · intro s a0 a1; rw [h7 3 (by omega)] at a1; rw [h 19 (by omega) (by omega), hS _ _ a0 (by omega)]; exact s4 s a0 a1
  · intro s a0 a1; rw [h7 3 (by omega)] at a1; rw [h 20 (by omega) (by omega), hS _ _ a0 (by omega)]; exact s5 s a0 a1
  · intro s k a0 a1 z0 z1; rw [h7 3 (by omega)] at a1; rw [hS _ _ a0 (by omega)] at z1; rw [h 21 (by omega) (by omega), hS _ _ a0 (by omega)]; exact s6 s k a0 a1 z0 z1
  · intro s k a0 a1 z0 z1; rw [h7 3 (by omega)] at a1; rw [h 22 (by omega) (by omega), nX_cgA (fun w hw => hS s w a0 hw)]; exact s7 s k a0 a1 z0 z1
  · intro s a0 a1; rw [h7 3 (by omega)] at a1; rw [h 24 (by omega) (by omega), nL_cg (hS s 2 a0 (by omega)) (hS s 3 a0 (by omega))]; exact s8 s a0 a1
  · rw [h3]; unfold zu; rw [if_pos rfl]
  · rw [h5, h7 5 (by omega)]; exact f2
section zCm
variable {n : zN} {F : Int}
theorem zuC {i v : Int} (h : i ≠ 2) : zu (zu n 2 F) i v = zu (zu n i v) 2 F := by
  funext j
  unfold zu
  by_cases h1 : j = i
  · rw [if_pos h1, if_neg (by omega), if_pos h1]
  · rw [if_neg h1]
    by_cases h2 : j = 2
    · rw [if_pos h2, if_pos h2]
    · rw [if_neg h2, if_neg h2, if_neg h1]
theorem zuR {i : Int} (h : i ≠ 2) : zu n 2 F i = n i := zu_ne h
theorem zu22 {x : Int} : zu (zu n 2 x) 2 F = zu n 2 F := by
  funext j
  unfold zu
  by_cases h : j = 2
  · rw [if_pos h, if_pos h]
  · rw [if_neg h, if_neg h, if_neg h]
theorem c_S {s w : Int} (hs : -1 ≤ s) (hw : 0 ≤ w) : nS (zu n 2 F) s w = nS n s w := by unfold nS; exact zuR (by omega)
theorem c_V {v w : Int} (hv : 0 ≤ v) (hw : 0 ≤ w) : nV (zu n 2 F) v w = nV n v w := by unfold nV; exact zuR (by omega)
theorem c_La : nLa (zu n 2 F) = nLa n := by unfold nLa; rw [zuR (by omega)]
theorem c_Op (h3 : 0 ≤ n 3) : nOp (zu n 2 F) = nOp n := by
  unfold nOp
  rw [c_La, c_S (by unfold nLa; omega) (by omega)]
theorem c_Tm (h3 : 0 ≤ n 3) : nTm (zu n 2 F) = nTm n := by unfold nTm; rw [c_Op h3, zuR (by omega)]
theorem c_En {s f : Int} (hs : -1 ≤ s) : nEn (zu n 2 F) s f = nEn n s f := by
  unfold nEn
  rw [c_S hs (by omega)]
  exact zfs_congr _ _ (fun k h0 _ => by rw [c_S hs (by omega)])
theorem c_Ew {f : Int} (h3 : 0 ≤ n 3) : nEw (zu n 2 F) f = nEw n f := by
  have hla : -1 ≤ nLa n := by unfold nLa; omega
  unfold nEw
  rw [c_Op h3, c_La, c_S hla (by omega), c_En hla]
theorem c_Hs {m : Int} (h4 : 0 ≤ n 4) (h01 : 0 ≤ n 0 - n 1) : nHs (zu n 2 F) m = nHs n m := by
  unfold nHs
  rw [zuR (i := 4) (by omega), zuR (i := 0) (by omega), zuR (i := 1) (by omega)]
  rw [zcn_congr (P := fun b => decide (zu n 2 F (103 + b) = 1)) (Q := fun b => decide (n (103 + b) = 1)) _ _ (fun i i0 _ => by rw [zuR (by omega)]), zcn_congr (P := fun b => decide (zu n 2 F (7 + b) = 0) && decide (zu n 2 F (103 + b) = 0)) (Q := fun b => decide (n (7 + b) = 0) && decide (n (103 + b) = 0)) _ _ (fun i i0 _ => by rw [zuR (by omega), zuR (by omega)])]
theorem c_Wd {e : Int} (h4 : 0 ≤ n 4) (h01 : 0 ≤ n 0 - n 1) : nWd (zu n 2 F) e = nWd n e := by
  unfold nWd
  rw [c_Hs h4 h01, zuR (i := 4) (by omega), zuR (i := 0) (by omega), zuR (i := 1) (by omega)]
theorem c_Ww {f m : Int} (h3 : 0 ≤ n 3) (h4 : 0 ≤ n 4) (h01 : 0 ≤ n 0 - n 1) : nWw (zu n 2 F) f m = nWw n f m := by
  unfold nWw
  rw [c_Tm h3, c_Ew h3, c_Hs h4 h01, zuR (i := 4) (by omega), zuR (i := 0) (by omega), zuR (i := 1) (by omega)]
theorem c_Wc (h3 : 0 ≤ n 3) (h4 : 0 ≤ n 4) (h01 : 0 ≤ n 0 - n 1) : nWc (zu n 2 F) = nWc n := by
  have hla : -1 ≤ nLa n := by unfold nLa; omega
  unfold nWc
  rw [c_Op h3, c_La, c_S hla (by omega), c_Wd h4 h01]
theorem nPl_nn {b : Int} (h : 0 ≤ b) : 0 ≤ nPl n b := by unfold nPl; split <;> omega
theorem c_Pl {b : Int} (h : 0 ≤ b) : nPl (zu n 2 F) b = nPl n b := by unfold nPl; rw [zuR (by omega)]
theorem c_Rd {x m : Int} (hx : 0 ≤ x) : nRd (zu n 2 F) x m = nRd n x m := by
  unfold nRd
  exact zal_congr _ _ (fun i i0 _ => by
    have := nPl_nn (n := n) (b := i) (by omega)
    rw [c_Pl (by omega), zuR (by omega)])
theorem c_RdD {s : Int} (hs : -1 ≤ s) : nRdD (zu n 2 F) s = nRdD n s := by
  unfold nRdD
  rw [c_S hs (by omega), c_S hs (by omega)]
  by_cases h : 0 < nS n s 3
  · rw [c_Rd (by omega)]
  · rw [decide_eq_false h, Bool.false_and, Bool.false_and]
theorem c_Is {s : Int} (hs : -1 ≤ s) : nIs (zu n 2 F) s = nIs n s := by
  unfold nIs
  rw [c_S hs (by omega), c_RdD hs]
theorem c_Go : ∀ t : Nat, (t : Int) ≤ nLa n + 2 → nGo (zu n 2 F) t = nGo n t := by
  intro t
  induction t with
  | zero => intro _; rfl
  | succ t ih =>
    intro h
    rw [nGo, nGo, ih (by omega), c_La, c_Is (by omega), c_S (by omega) (by omega), zuR (i := 5) (by omega)]
theorem c_Re {s : Int} (h3 : 0 ≤ n 3) (hs : 0 ≤ s) : nRe (zu n 2 F) s = nRe n s := by
  have hla : nLa n = n 3 - 1 := rfl
  unfold nRe
  rw [c_La, c_Go _ (by omega), c_Is (by omega)]
theorem c_Sk {f x : Int} (h3 : 0 ≤ n 3) : nSk (zu n 2 F) f x = nSk n f x := by
  unfold nSk
  rw [zuR (i := 3) (by omega)]
  exact zls_congr _ (fun i i0 _ => by rw [c_Re h3 i0, c_En (by omega)])
theorem c_Fv {f x : Int} (h3 : 0 ≤ n 3) : nFv (zu n 2 F) f x = nFv n f x := by
  have h1 := nSk_rng n f x
  have h2 := nEn_rng n (nSk n f x) f
  unfold nFv nSv
  rw [c_Sk h3]
  by_cases h : nSk n f x = -1
  · rw [if_pos h, if_pos h]
  · rw [if_neg h, if_neg h, c_En (by omega), c_S (by omega) (by omega)]
theorem c_We {f : Int} (h3 : 0 ≤ n 3) : nWe (zu n 2 F) f = nWe n f := by
  unfold nWe
  rw [c_Fv h3, c_Tm h3, c_Ew h3, zuR (i := 4) (by omega), zuR (i := 0) (by omega), zuR (i := 1) (by omega)]
theorem c_Lay {b kind se v k : Int} (hb : 0 ≤ b) : nLay (zu n 2 F) b kind se v k = zu (nLay n b kind se v k) 2 F := by
  unfold nLay
  rw [zuC (by omega), zuC (by omega), zuC (by omega), zuC (by omega)]
theorem c_Tks {se : Int} : ∀ (m : Nat) (n : zN) (s : Int), 0 ≤ s → nTks (zu n 2 F) se s m = (zu (nTks n se s m).1 2 F, (nTks n se s m).2) := by
  intro m
  induction m with
  | zero => intro n s _; rfl
  | succ m ih =>
    intro n s hs
    rw [nTks, nTks, zuR (by omega), zuR (by omega), c_Lay hs]
    by_cases h1 : n (7 + s) = 0
    · rw [if_pos h1, if_pos h1]
      by_cases h2 : n (103 + s) = 0
      · rw [if_pos h2, if_pos h2]
      · rw [if_neg h2, if_neg h2]
        exact ih _ _ (by omega)
    · rw [if_neg h1, if_neg h1]
      exact ih _ _ (by omega)
theorem nTks_ge {se : Int} : ∀ (m : Nat) (n : zN) (s : Int), 0 ≤ s → s ≤ (nTks n se s m).2 ∧ ∀ i, i < 7 → (nTks n se s m).1 i = n i := by
  intro m
  induction m with
  | zero => intro n s _; exact ⟨Int.le_refl _, fun _ _ => rfl⟩
  | succ m ih =>
    intro n s hs
    rw [nTks]
    by_cases h1 : n (7 + s) = 0
    · rw [if_pos h1]
      by_cases h2 : n (103 + s) = 0
      · rw [if_pos h2]
        exact ⟨Int.le_refl _, fun _ _ => rfl⟩
      · rw [if_neg h2]
        obtain ⟨a1, a2⟩ := ih (nLay n s 3 se (-1) (-1)) (s + 1) (by omega)
        refine ⟨by omega, fun i hi => ?_⟩
        rw [a2 i hi]
        unfold nLay
        rw [zu_ne (by omega), zu_ne (by omega), zu_ne (by omega), zu_ne (by omega)]
    · rw [if_neg h1]
      obtain ⟨a1, a2⟩ := ih n (s + 1) (by omega)
      exact ⟨by omega, a2⟩
theorem c_WrB {kind se v k : Int} (h4 : 0 ≤ n 4) (h01 : 0 ≤ n 0 - n 1) : nWrB (zu n 2 F) kind se v k = zu (nWrB n kind se v k) 2 F ∧ nWrB n kind se v k 4 = n 4 + 1 ∧ ∀ i, i < 7 → i ≠ 4 → nWrB n kind se v k i = n i := by
  have hg := nTks_ge (se := se) (n 1).toNat (nLay (zu n 4 (n 4 + 1)) (n 4) 3 se (-1) (-1)) (n 0 - n 1) h01
  have hl : ∀ (m : zN) (b x y z w : Int), 0 ≤ b → ∀ i, i < 7 → nLay m b x y z w i = m i := fun m b x y z w hb i hi => by
    unfold nLay
    rw [zu_ne (by omega), zu_ne (by omega), zu_ne (by omega), zu_ne (by omega)]
  unfold nWrB
  rw [zuR (i := 4) (by omega), zuR (i := 0) (by omega), zuR (i := 1) (by omega), zuR (i := 103 + n 4) (by omega), zuC (i := 4) (by omega), c_Lay h4, c_Lay h4, c_Tks _ _ _ h01]
  by_cases h : n (103 + n 4) = 0
  · rw [if_pos h, if_pos h]
    exact ⟨rfl, by rw [hl _ _ _ _ _ _ h4 4 (by omega), zu_eq rfl], fun i hi h4' => by rw [hl _ _ _ _ _ _ h4 i hi, zu_ne h4']⟩
  · rw [if_neg h, if_neg h]
    obtain ⟨t, ht⟩ : ∃ t, t = (nTks (nLay (zu n 4 (n 4 + 1)) (n 4) 3 se (-1) (-1)) se (n 0 - n 1) (n 1).toNat).2 := ⟨_, rfl⟩
    obtain ⟨p, hp⟩ : ∃ p, p = (nTks (nLay (zu n 4 (n 4 + 1)) (n 4) 3 se (-1) (-1)) se (n 0 - n 1) (n 1).toNat).1 := ⟨_, rfl⟩
    rw [← ht, ← hp] at hg
    simp only [← ht, ← hp]
    have hlo : ∀ i, i < 7 → zu (zu (nLay p t kind se v k) (583 + t) (n 4 + 1)) (679 + n 4) (t + 1) i = zu n 4 (n 4 + 1) i := fun i hi => by
      rw [zu_ne (by omega), zu_ne (by omega), hl _ _ _ _ _ _ (by omega) i hi, hg.2 i hi, hl _ _ _ _ _ _ h4 i hi]
    refine ⟨by rw [c_Lay (by omega), zuC (by omega), zuC (by omega)], by rw [hlo 4 (by omega), zu_eq rfl], fun i hi h4' => by rw [hlo i hi, zu_ne h4']⟩
theorem c_Wl {kind se v : Int} : ∀ (m : Nat) (n : zN) (k : Int), 0 ≤ n 4 → 0 ≤ n 0 - n 1 → nWl kind se v (zu n 2 F) k m = zu (nWl kind se v n k m) 2 F ∧ ∀ i, i < 7 → i ≠ 4 → nWl kind se v n k m i = n i := by
  intro m
  induction m with
  | zero => intro n k _ _; exact ⟨rfl, fun _ _ _ => rfl⟩
  | succ m ih =>
    intro n k h4 h01
    obtain ⟨a1, a2, a3⟩ := c_WrB (n := n) (F := F) (kind := kind) (se := se) (v := v) (k := k) h4 h01
    obtain ⟨b1, b2⟩ := ih (nWrB n kind se v k) (k + 1) (by omega) (by rw [a3 0 (by omega) (by omega), a3 1 (by omega) (by omega)]; exact h01)
    rw [nWl, nWl, a1]
    exact ⟨b1, fun i hi h4' => by rw [b2 i hi h4', a3 i hi h4']⟩
theorem c_Bg (h3 : 0 ≤ n 3) : nBg (zu n 2 F) = zu (nBg n) 2 F := by
  funext i
  unfold nBg
  rw [zuR (i := 3) (by omega), zuR (i := 4) (by omega)]
  by_cases h2 : i = 2
  · subst h2
    rw [if_neg (by omega), if_neg (by omega), if_neg (by omega), zu_eq rfl, zu_eq rfl]
  · rw [zu_ne h2, zu_ne h2]
theorem c_Bi (h3 : 0 ≤ n 3) : nBi (zu n 2 F) = zu (nBi n) 2 F := by
  unfold nBi
  rw [c_Op h3]
  split
  · rfl
  · exact c_Bg h3
theorem c_us {s w x : Int} (hs : -1 ≤ s) (hw : 0 ≤ w) : zus (zu n 2 F) s w x = zu (zus n s w x) 2 F := by unfold zus; exact zuC (by omega)
theorem c_E1 {f v : Int} (h3 : 0 ≤ n 3) (he : 0 ≤ nS n (nLa n) 2) : nE1 (zu n 2 F) f v = zu (nE1 n f v) 2 F := by
  have hla : -1 ≤ nLa n := by unfold nLa; omega
  have hE := nEn_rng n (nLa n) f
  unfold nE1
  rw [c_La, c_En hla, c_S hla (by omega)]
  split
  · rw [c_us hla (by omega), c_us hla (by omega), c_us hla (by omega)]
  · rw [c_us hla (by omega), c_us hla (by omega)]
theorem c_Add {f m tag : Int} (h6 : 0 ≤ n 6) : nAdd (zu n 2 F) f m tag = zu (nAdd n f m tag) 2 F := by
  unfold nAdd nAr
  rw [zuR (i := 6) (by omega), zuR (i := 4) (by omega), c_La, zuC (by omega), zuC (by omega), zuC (by omega), zuC (by omega), zuC (by omega), zuC (by omega)]
theorem c_Ers {f : Int} (hn : nW n) (hT : nTm n = false) : nErs (zu n 2 F) f = zu (nErs n f) 2 F := by
  have hN := hn.1.r
  obtain ⟨a1, a2⟩ := nBi_W hn hT
  obtain ⟨l0, -⟩ := nOp_iff.mp a2
  have hla : nLa (nBi n) = nBi n 3 - 1 := rfl
  have he := a1.2.2.2.ent a1.1 l0 (by omega)
  unfold nErs
  rw [c_Bi (by omega), c_E1 (by omega) he.1]
theorem c_Cl (hn : nW n) : nCl (zu n 2 F) = zu (nCl n) 2 F := by
  have hN := hn.1.r
  have hla : nLa n = n 3 - 1 := rfl
  have h0 : nCl0 (zu n 2 F) = zu (nCl0 n) 2 F := by
    have hcb : nCb (zu n 2 F) (nLa n) = nCb n (nLa n) := by
      unfold nCb
      exact zls_congr _ (fun i i0 _ => by rw [c_S (by omega) (by omega)])
    unfold nCl0
    rw [c_La, hcb, zuR (i := 4) (by omega), c_us (by omega) (by omega), c_us (by omega) (by omega)]
  have e : ∀ i, i < 7 → nCl0 n i = n i := fun i hi => by
    unfold nCl0 zus
    rw [zu_ne (by omega), zu_ne (by omega)]
  unfold nCl
  rw [c_La, h0, c_S (by omega) (by omega), (c_Wl _ _ _ (by rw [e 4 (by omega)]; omega) (by rw [e 0 (by omega), e 1 (by omega)]; omega)).1, c_us (by omega) (by omega)]
theorem c_Wrs {f m tag : Int} (hn : nW n) (hf0 : 0 ≤ f) (hf1 : f < n 2) (hm0 : 1 ≤ m) (hm1 : m ≤ 8) (ht0 : 0 ≤ tag) (ht1 : tag ≤ 999) (h : nWw n f m = 0) : nWrs (zu n 2 F) f m tag = zu (nWrs n f m tag) 2 F := by
  have hN := hn.1.r
  obtain ⟨a1, a2, ⟨b1, b2, b3, b4, b5, b6⟩, c1, -⟩ := nWrs_W hn hf0 hf1 hm0 hm1 ht0 ht1 h
  obtain ⟨l0, -⟩ := nOp_iff.mp a2
  have hN1 := a1.1.r
  have hN2 := b1.r
  have hla : nLa (nBi n) = nBi n 3 - 1 := rfl
  have hw := c_Wl (F := F) (kind := 1) (se := nLa (nBi n)) (v := n 6) m.toNat (nAdd (nBi n) f m tag) 0 (by omega) (by omega)
  have e3 := b5 3 (by omega) (Or.inl (by omega))
  have x3 := hw.2 3 (by omega) (by omega)
  obtain ⟨X, hX⟩ : ∃ X, X = nWl 1 (nLa (nBi n)) (n 6) (nAdd (nBi n) f m tag) 0 m.toNat := ⟨_, rfl⟩
  rw [← hX] at hw x3 c1
  have hlx : nLa X = X 3 - 1 := rfl
  have he := c1.2.2.2.ent c1.1 (by omega : 0 ≤ nLa X) (by omega)
  unfold nWrs
  rw [c_Bi (by omega), c_La, zuR (i := 6) (by omega), c_Add (by omega), hw.1, ← hX, c_E1 (by omega) he.1]
end zCm
/-! What the statements do, one by one. -/
def sWhy (n : zN) (s : zS5) : Int := if s.1 = 1 then nWw n s.2.2.1 s.2.2.2.1 else if s.1 = 2 then nWe n s.2.2.1 else if s.1 = 3 then nWc n else 0
def sDo (n : zN) (s : zS5) : zN := if s.1 = 1 then nWrs n s.2.2.1 s.2.2.2.1 s.2.2.2.2 else if s.1 = 2 then nErs n s.2.2.1 else if s.1 = 3 then nCl n else zu n (103 + s.2.2.1) 1
def xAll : zN → List zS5 → Option Int × zN
  | n, [] => (none, n)
  | n, s :: S => if sWhy n s = 0 then xAll (sDo n s) S else (some s.2.1, n)
def sOk (F : Int) (s : zS5) : Prop := (0 ≤ s.1 ∧ s.1 ≤ 3) ∧ (s.1 = 0 → 0 ≤ s.2.2.1 ∧ s.2.2.1 < 96) ∧ (s.1 = 1 → (0 ≤ s.2.2.1 ∧ s.2.2.1 < F) ∧ (1 ≤ s.2.2.2.1 ∧ s.2.2.2.1 ≤ 8) ∧ (0 ≤ s.2.2.2.2 ∧ s.2.2.2.2 ≤ 999)) ∧ (s.1 = 2 → 0 ≤ s.2.2.1 ∧ s.2.2.1 < F)
theorem sOk.le {F F' : Int} {s : zS5} (h : sOk F s) (hF : F ≤ F') : sOk F' s := ⟨h.1, h.2.1, fun z => ⟨by have := h.2.2.1 z; omega, (h.2.2.1 z).2⟩, fun z => by have := h.2.2.2 z; omega⟩
theorem sOk.k0 {F a t c d : Int} (h : 0 ≤ t ∧ t < 96) : sOk F (0, a, t, c, d) := ⟨⟨Int.le_refl _, show (0 : Int) ≤ 3 by decide⟩, fun _ => h, fun z => absurd z (show ¬ (0 : Int) = 1 by decide), fun z => absurd z (show ¬ (0 : Int) = 2 by decide)⟩
theorem sOk.k1 {F a t c d : Int} (h : (0 ≤ t ∧ t < F) ∧ (1 ≤ c ∧ c ≤ 8) ∧ (0 ≤ d ∧ d ≤ 999)) : sOk F (1, a, t, c, d) := ⟨⟨show (0 : Int) ≤ 1 by decide, show (1 : Int) ≤ 3 by decide⟩, fun z => absurd z (show ¬ (1 : Int) = 0 by decide), fun _ => h, fun z => absurd z (show ¬ (1 : Int) = 2 by decide)⟩
theorem sOk.k2 {F a t c d : Int} (h : 0 ≤ t ∧ t < F) : sOk F (2, a, t, c, d) := ⟨⟨show (0 : Int) ≤ 2 by decide, show (2 : Int) ≤ 3 by decide⟩, fun z => absurd z (show ¬ (2 : Int) = 0 by decide), fun z => absurd z (show ¬ (2 : Int) = 1 by decide), fun _ => h⟩
theorem sOk.k3 {F a t c d : Int} : sOk F (3, a, t, c, d) := ⟨⟨show (0 : Int) ≤ 3 by decide, show (3 : Int) ≤ 3 by decide⟩, fun z => absurd z (show ¬ (3 : Int) = 0 by decide), fun z => absurd z (show ¬ (3 : Int) = 1 by decide), fun z => absurd z (show ¬ (3 : Int) = 2 by decide)⟩
theorem nBad_W {n : zN} (hn : nW n) {v : Int} (h0 : 0 ≤ v) (h1 : v < 96) : nW (zu n (103 + v) 1) := by
  have e : ∀ i, i ≠ 103 + v → zu n (103 + v) 1 i = n i := fun i hi => zu_ne hi
  refine ⟨?_, fun c c0 c1 => ?_, nWv_cg (fun i hi => e i (by omega)) (e 2 (by omega)) (e 3 (by omega)) (by rw [e 4 (by omega)]; omega) (e 6 (by omega)) hn.2.2.1, nWs_cg (fun i hi => e i (by omega)) (e 2 (by omega)) (e 3 (by omega)) (by rw [e 4 (by omega)]; omega) (by rw [e 6 (by omega)]; omega) hn.2.2.2⟩
  · have := hn.1
    unfold nWn at this ⊢
    rw [e 0 (by omega), e 1 (by omega), e 2 (by omega), e 3 (by omega), e 4 (by omega), e 5 (by omega), e 6 (by omega)]
    exact this
  · have := hn.2.1 c c0 c1
    rw [e (7 + c) (by omega), e (199 + c) (by omega), e (295 + c) (by omega), e (391 + c) (by omega), e (487 + c) (by omega), e (583 + c) (by omega), e (679 + c) (by omega), e 0 (by omega), e 1 (by omega), e 3 (by omega), e 4 (by omega), e 6 (by omega)]
    refine ⟨this.1, ?_, this.2.2⟩
    by_cases hc : c = v
    · rw [zu_eq (by omega)]; exact Or.inr rfl
    · rw [e _ (by omega)]; exact this.2.1
/-- a statement's work keeps the state in order, the number of files, and the bad blocks but one -/
theorem sDo_W {n : zN} (hn : nW n) {s : zS5} (hs : sOk (n 2) s) (h : sWhy n s = 0) : nW (sDo n s) ∧ sDo n s 0 = n 0 ∧ sDo n s 2 = n 2 ∧ ∀ c, 0 ≤ c → c < 96 → sDo n s (103 + c) = if s.1 = 0 ∧ c = s.2.2.1 then 1 else n (103 + c) := by
  have hN := hn.1.r
  obtain ⟨k, y⟩ := s
  obtain ⟨h1, h2, h3, h4⟩ := hs
  unfold sWhy at h
  unfold sDo
  have hk : k = 0 ∨ k = 1 ∨ k = 2 ∨ k = 3 := by omega
  rcases hk with rfl | rfl | rfl | rfl
  · have h2 := h2 rfl
    refine ⟨nBad_W hn h2.1 h2.2, zu_ne (by omega), zu_ne (by omega), fun c c0 c1 => ?_⟩
    show zu n (103 + y.2.1) 1 (103 + c) = if (0 : Int) = 0 ∧ c = y.2.1 then 1 else n (103 + c)
    by_cases hc : c = y.2.1
    · rw [if_pos ⟨rfl, hc⟩, zu_eq (by omega)]
    · have h2' : 0 ≤ y.2.1 ∧ y.2.1 < 96 := h2
      rw [if_neg (by omega), zu_ne (by omega)]
  · obtain ⟨⟨f0, f1⟩, ⟨m0, m1⟩, ⟨t0, t1⟩⟩ := h3 rfl
    have h : nWw n y.2.1 y.2.2.1 = 0 := h
    have f0' : 0 ≤ y.2.1 := f0
    have f1' : y.2.1 < n 2 := f1
    have m0' : 1 ≤ y.2.2.1 := m0
    have m1' : y.2.2.1 ≤ 8 := m1
    obtain ⟨a1, a2, ⟨b1, b2, b3, b4, b5, b6⟩, c1, c2⟩ := nWrs_W (f := y.2.1) (m := y.2.2.1) (tag := y.2.2.2) hn f0 f1 m0 m1 t0 t1 h
    obtain ⟨l0, -⟩ := nOp_iff.mp a2
    have hN1 := a1.1.r
    have hN2 := b1.r
    have hla : nLa (nBi n) = nBi n 3 - 1 := rfl
    have e3 := b5 3 (by omega) (Or.inl (by omega))
    have e := nWl_W (kind := 1) (se := nLa (nBi n)) (v := n 6) y.2.2.1.toNat (nAdd (nBi n) y.2.1 y.2.2.1 y.2.2.2) 0 b1 b2 (by omega) b4 (Or.inl rfl) (by omega) (by omega) (by omega) (by omega) (fun _ => by omega) (by omega) (by omega)
    have lo : ∀ i, i ≠ 4 → i ≠ 6 → i ≠ 3 → i < 7 ∨ (103 ≤ i ∧ i < 295) → nWrs n y.2.1 y.2.2.1 y.2.2.2 i = n i := by
      intro i i4 i6 i3 hi
      obtain ⟨X, hX⟩ : ∃ X, X = nWl 1 (nLa (nBi n)) (n 6) (nAdd (nBi n) y.2.1 y.2.2.1 y.2.2.2) 0 y.2.2.1.toNat := ⟨_, rfl⟩
      unfold nWrs
      rw [← hX] at c1 e ⊢
      have x3 := e.2.2.2 3 (by omega) (Or.inl (by omega))
      have hlx : nLa X = X 3 - 1 := rfl
      have hs := (c1.2.2.2 (nLa X) (by omega) (by omega)).2.2.2.1.1
      rw [nE1_lo (by omega) hs (by omega), e.2.2.2 i i4 (by omega), b5 i i6 (Or.inl (by omega)), nBi_lo (by omega) (by omega) i3]
    refine ⟨c2, lo 0 (by omega) (by omega) (by omega) (by omega), lo 2 (by omega) (by omega) (by omega) (by omega), fun c c0 c1 => ?_⟩
    show nWrs n y.2.1 y.2.2.1 y.2.2.2 (103 + c) = if (1 : Int) = 0 ∧ c = y.2.1 then 1 else n (103 + c)
    rw [if_neg (by omega)]
    exact lo _ (by omega) (by omega) (by omega) (by omega)
  · have h4 := h4 rfl
    have h : nWe n y.2.1 = 0 := h
    have hT := (nWe_0 h).2
    obtain ⟨a1, a2⟩ := nBi_W hn hT
    obtain ⟨l0, -⟩ := nOp_iff.mp a2
    have hla : nLa (nBi n) = nBi n 3 - 1 := rfl
    have he := a1.2.2.2.ent a1.1 l0 (by omega)
    have lo : ∀ i, i < 1255 → i ≠ 3 → nErs n y.2.1 i = n i := fun i hi i3 => by
      unfold nErs
      rw [nE1_lo l0 he.1 hi, nBi_lo (by omega) hi i3]
    refine ⟨nErs_W hn h4.1 h4.2 h, lo 0 (by omega) (by omega), lo 2 (by omega) (by omega), fun c c0 c1 => ?_⟩
    show nErs n y.2.1 (103 + c) = if (2 : Int) = 0 ∧ c = y.2.1 then 1 else n (103 + c)
    rw [if_neg (by omega)]
    exact lo _ (by omega) (by omega)
  · have h : nWc n = 0 := h
    obtain ⟨⟨x1, x2, x3, x4, x5, x6⟩, w2, w3, w4, w5⟩ := nCl_W hn h
    obtain ⟨hop, -⟩ := nWc_0 h
    obtain ⟨l0, -⟩ := nOp_iff.mp hop
    have hla : nLa n = n 3 - 1 := rfl
    have e := nWl_W (kind := 2) (se := nLa n) (v := -1) (nDl (nS n (nLa n) 2)).toNat (nCl0 n) 0 x1 x2 (by rw [x3 4 (by omega), x3 0 (by omega), x3 1 (by omega)]; omega) (by
      rw [nBc_ag (fun i _ hi => x3 i (by omega)) (x3 4 (by omega)) (by omega) (by omega), nGc_ag (fun i _ hi => x3 i (by omega)) (x3 0 (by omega)) (x3 1 (by omega)) hn.1]
      exact x4) (Or.inr rfl) (by omega) (by rw [x3 3 (by omega)]; omega) (by omega) (by rw [x3 6 (by omega)]; omega) (fun z => by omega) (by omega) (by omega)
    refine ⟨w2, w5 0 (by omega) (by omega), w5 2 (by omega) (by omega), fun c c0 c1 => ?_⟩
    show nCl n (103 + c) = if (3 : Int) = 0 ∧ c = y.2.1 then 1 else n (103 + c)
    rw [if_neg (by omega), w4 _ (by omega), e.2.2.2 _ (by omega) (by omega), x3 _ (by omega)]
theorem c_sWhy {n : zN} {F : Int} (hn : nW n) {s : zS5} : sWhy (zu n 2 F) s = sWhy n s := by
  have hN := hn.1.r
  unfold sWhy
  rw [c_Ww (by omega) (by omega) (by omega), c_We (by omega), c_Wc (by omega) (by omega) (by omega)]
theorem c_sDo {n : zN} {F : Int} (hn : nW n) {s : zS5} (hs : sOk (n 2) s) (h : sWhy n s = 0) : sDo (zu n 2 F) s = zu (sDo n s) 2 F := by
  have hN := hn.1.r
  obtain ⟨k, y⟩ := s
  obtain ⟨h1, h2, h3, h4⟩ := hs
  unfold sWhy at h
  unfold sDo
  have hk : k = 0 ∨ k = 1 ∨ k = 2 ∨ k = 3 := by omega
  rcases hk with rfl | rfl | rfl | rfl
  · have h2 := h2 rfl
    have h2' : 0 ≤ y.2.1 ∧ y.2.1 < 96 := h2
    exact zuC (by omega)
  · obtain ⟨⟨f0, f1⟩, ⟨m0, m1⟩, ⟨t0, t1⟩⟩ := h3 rfl
    exact c_Wrs hn f0 f1 m0 m1 t0 t1 h
  · exact c_Ers hn (nWe_0 h).2
  · exact c_Cl hn

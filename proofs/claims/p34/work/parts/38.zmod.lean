/-! Pure definitions and facts that the reference's parts of whole held, and the class's parts use. -/
/-- all but the reference's own scratch numbers -/
def zQ (σ σ' : zW) : Prop := (∀ k d c, ¬ (k = 3 ∧ d = 0 ∧ (c = 0 ∨ c = 17 ∨ c = 21 ∨ c = 23)) → σ' k d c = σ k d c) ∧ (∀ i, i ≠ 18 → i ≠ 19 → i ≠ 20 → i ≠ 22 → σ' 3 0 0 i = σ 3 0 0 i)
/-- those below t, in order -/
def nCll (P : Int → Bool) : Nat → List Int
  | 0 => []
  | t + 1 => if P t = true then nCll P t ++ [(t : Int)] else nCll P t
theorem nCll_len (P : Int → Bool) : ∀ t : Nat, ((nCll P t).length : Int) = zcn P 0 t := by
  intro t
  induction t with
  | zero => rfl
  | succ t ih =>
    rw [zcn_snoc, nCll, show (0 : Int) + (t : Int) = t by omega]
    cases h : P t
    · rw [if_neg (by simp), ih]; simp [zb]
    · rw [if_pos rfl, List.length_append]; simp [zb]; omega
def nCo (n : zN) : List Int := if nLo n = true then nCll (nRc n (nLa n)) (n 6).toNat else []
theorem nCo_len {n : zN} (hn : nW n) : ((nCo n).length : Int) = nCr n := by
  unfold nCo nCr
  cases nLo n
  · rw [if_neg (by simp), if_neg (by simp)]; rfl
  · rw [if_pos rfl, if_pos rfl, nCll_len]
theorem nW_cg0 {n n' : zN} (h : ∀ i, 0 ≤ i → i < 1555 → n' i = n i) (hn : nW n) : nW n' := by
  have hN := hn.1.r
  refine ⟨?_, nWb_ag (fun i h1 h2 => h i (by omega) (by omega)) (h 0 (by omega) (by omega)) (h 1 (by omega) (by omega)) (by rw [h 3 (by omega) (by omega)]; omega) (h 4 (by omega) (by omega)) (by rw [h 6 (by omega) (by omega)]; omega) hn.2.1, nWv_cg2 (fun i h1 h2 => h i (by omega) (by omega)) (h 2 (by omega) (by omega)) (h 3 (by omega) (by omega)) (by rw [h 4 (by omega) (by omega)]; omega) (h 6 (by omega) (by omega)) (by omega) (fun s k s0 s1 k0 k1 => ?_) hn.2.2.1, fun s s0 s1 => ?_⟩
  · unfold nWn
    rw [h 0 (by omega) (by omega), h 1 (by omega) (by omega), h 2 (by omega) (by omega), h 3 (by omega) (by omega), h 4 (by omega) (by omega), h 5 (by omega) (by omega), h 6 (by omega) (by omega)]
    exact hn.1
  · have he := hn.2.2.2.ent hn.1 s0 s1
    have e : ∀ w, 0 ≤ w → w < 25 → nS n' s w = nS n s w := fun w w0 w1 => h _ (by omega) (by omega)
    rw [e 2 (by omega) (by omega)] at k1
    exact ⟨k1, e _ (by omega) (by omega), e _ (by omega) (by omega)⟩
  · rw [h 3 (by omega) (by omega)] at s1
    exact nWs1_cg s0 (fun t w t0 t1 w0 w1 => h _ (by omega) (by omega)) (h 2 (by omega) (by omega)) (by omega) (by omega) (fun z => by rw [h 3 (by omega) (by omega)]; exact (hn.2.2.2 s s0 s1).2.1 z) (by rw [h 4 (by omega) (by omega)]; omega) (by rw [h 6 (by omega) (by omega)]; omega) (hn.2.2.2 s s0 s1)
theorem zRd_cg0 {ρ : Nat → Int → Int} {n n' : zN} (h : ∀ i, 0 ≤ i → i < 1555 → n' i = n i) (hn : nW n) (hR : zRd ρ n) : zRd ρ n' := by
  have hN := hn.1.r
  obtain ⟨⟨⟨r0, r1, r2, r3, r4, r5, r6, r7, r8, r9⟩, r10⟩, hv, hs, hf⟩ := hR
  refine ⟨⟨⟨?_, ?_, ?_, fun c c0 c1 => ?_, fun c c0 c1 => ?_, fun c c0 c1 => ?_, fun c c0 c1 => ?_, fun c c0 c1 => ?_, fun c c0 c1 => ?_, fun c c0 c1 => ?_⟩, fun c c0 c1 => ?_⟩, zRv_ag (fun _ _ _ => rfl) (h 6 (by omega) (by omega)) (by omega) (fun i h1 h2 => h i (by omega) (by omega)) hv, zRs_ag (fun _ _ _ _ => rfl) (h 3 (by omega) (by omega)) (fun s s0 s1 => by have := hn.2.2.2.ent hn.1 s0 s1; omega) (fun s w s0 s1 w0 w1 _ => h _ (by omega) (by omega)) hs, ?_⟩
  · rw [h 0 (by omega) (by omega)]; exact r0
  · rw [h 0 (by omega) (by omega), h 1 (by omega) (by omega)]; exact r1
  · rw [h 4 (by omega) (by omega)]; exact r2
  · rw [h _ (by omega) (by omega)]; exact r3 c c0 c1
  · rw [h _ (by omega) (by omega)]; exact r4 c c0 c1
  · rw [h _ (by omega) (by omega)]; exact r5 c c0 c1
  · rw [h _ (by omega) (by omega)]; exact r6 c c0 c1
  · rw [h _ (by omega) (by omega)]; exact r7 c c0 c1
  · rw [h _ (by omega) (by omega)]; exact r8 c c0 c1
  · rw [h _ (by omega) (by omega)]; exact r9 c c0 c1
  · rw [r10 c c0 c1, h 4 (by omega) (by omega)]
    unfold nPl
    rw [h _ (by omega) (by omega)]
  · unfold zRf
    rw [h 2 (by omega) (by omega), h 5 (by omega) (by omega)]
    exact hf
theorem nBd_W {n : zN} {b : Int} (hn : nW n) (h0 : 0 ≤ b) (h1 : b < 96) : nW (zu n (103 + b) 1) := by
  have e : ∀ i : Int, i ≠ 103 + b → zu n (103 + b) 1 i = n i := fun i hi => by unfold zu; rw [if_neg hi]
  have e2 : ∀ i : Int, 199 ≤ i → zu n (103 + b) 1 i = n i := fun i hi => e i (by omega)
  refine ⟨?_, fun c c0 c1 => ?_, nWv_cg (fun i hi => e2 i (by omega)) (e 2 (by omega)) (e 3 (by omega)) (by rw [e 4 (by omega)]; omega) (e 6 (by omega)) hn.2.2.1, nWs_cg (fun i hi => e2 i (by omega)) (e 2 (by omega)) (e 3 (by omega)) (by rw [e 4 (by omega)]; omega) (by rw [e 6 (by omega)]; omega) hn.2.2.2⟩
  · have := hn.1
    unfold nWn at this ⊢
    rw [e 0 (by omega), e 1 (by omega), e 2 (by omega), e 3 (by omega), e 4 (by omega), e 5 (by omega), e 6 (by omega)]
    exact this
  · have := hn.2.1 c c0 c1
    rw [e (7 + c) (by omega), e (199 + c) (by omega), e (295 + c) (by omega), e (391 + c) (by omega), e (487 + c) (by omega), e (583 + c) (by omega), e (679 + c) (by omega), e 0 (by omega), e 1 (by omega), e 3 (by omega), e 4 (by omega), e 6 (by omega)]
    refine ⟨this.1, ?_, this.2.2⟩
    unfold zu
    split
    · exact Or.inr rfl
    · exact this.2.1
theorem nBd_R {ρ ρ' : Nat → Int → Int} {n : zN} {b : Int} (h0 : 0 ≤ b) (h1 : b < 96) (hR : zRd ρ n) (hn : nW n) (h4 : ρ' 3 = fun i => if i = b then 1 else ρ 3 i) (h5 : ∀ c, c ≠ 3 → ρ' c = ρ c) : zRd ρ' (zu n (103 + b) 1) := by
  have e : ∀ i : Int, i ≠ 103 + b → zu n (103 + b) 1 i = n i := fun i hi => by unfold zu; rw [if_neg hi]
  have hN := hn.1.r
  obtain ⟨⟨⟨a1, a2, a3, a4, a5, a6, a7, a8, a9, a10⟩, a11⟩, ⟨b1, b2, b3, b4, b5, b6⟩, ⟨c1, c2, c3, c4, c5, c6, c7, c8⟩, ⟨d1, d2⟩⟩ := hR
  unfold zRd zRb zRk zRv zRs zRf
  rw [h5 0 (by decide), h5 1 (by decide), h5 2 (by decide), h5 4 (by decide), h5 5 (by decide), h5 6 (by decide), h5 7 (by decide), h5 8 (by decide), h5 9 (by decide), h5 10 (by decide), h5 11 (by decide), h5 12 (by decide), h5 13 (by decide), h5 14 (by decide), h5 15 (by decide), h5 16 (by decide), h5 17 (by decide), h5 18 (by decide), h5 19 (by decide), h5 20 (by decide), h5 21 (by decide), h5 22 (by decide), h5 24 (by decide)]
  rw [e 0 (by omega), e 1 (by omega), e 2 (by omega), e 3 (by omega), e 4 (by omega), e 5 (by omega), e 6 (by omega)]
  refine ⟨⟨⟨a1, a2, a3, fun c c0 c1 => ?_, fun c c0 c1 => ?_, fun c c0 c1 => ?_, fun c c0 c1 => ?_, fun c c0 c1 => ?_, fun c c0 c1 => ?_, fun c c0 c1 => ?_⟩, fun c c0 c1 => ?_⟩, ⟨b1, fun w w0 w1 => ?_, fun w w0 w1 => ?_, fun w w0 w1 => ?_, fun w w0 w1 => ?_, fun w w0 w1 => ?_⟩, ⟨c1, fun w w0 w1 => ?_, fun w w0 w1 => ?_, fun w w0 w1 => ?_, fun w w0 w1 => ?_, fun w k w0 w1 k0 k1 => ?_, fun w k w0 w1 k0 k1 => ?_, fun w w0 w1 => ?_⟩, ⟨d1, d2⟩⟩
  · rw [e _ (by omega)]; exact a4 c c0 c1
  · rw [h4]
    show (if c = b then (1 : Int) else ρ 3 c) = zu n (103 + b) 1 (103 + c)
    by_cases hc : c = b
    · subst hc; simp [zu]
    · rw [if_neg hc, e _ (by omega)]; exact a5 c c0 c1
  · rw [e _ (by omega)]; exact a6 c c0 c1
  · rw [e _ (by omega)]; exact a7 c c0 c1
  · rw [e _ (by omega)]; exact a8 c c0 c1
  · rw [e _ (by omega)]; exact a9 c c0 c1
  · rw [e _ (by omega)]; exact a10 c c0 c1
  · rw [a11 c c0 c1]
    unfold nPl
    rw [e _ (by omega)]
  · unfold nV; rw [e _ (by omega)]; exact b2 w w0 w1
  · unfold nV; rw [e _ (by omega)]; exact b3 w w0 w1
  · unfold nV; rw [e _ (by omega)]; exact b4 w w0 w1
  · unfold nV; rw [e _ (by omega)]; exact b5 w w0 w1
  · unfold nV; rw [e _ (by omega)]; exact b6 w w0 w1
  · unfold nS; rw [e _ (by omega)]; exact c2 w w0 w1
  · unfold nS; rw [e _ (by omega)]; exact c3 w w0 w1
  · unfold nS; rw [e _ (by omega)]; exact c4 w w0 w1
  · unfold nS; rw [e _ (by omega)]; exact c5 w w0 w1
  · unfold nS at k1 ⊢; rw [e _ (by omega)] at k1; rw [e _ (by omega)]; exact c6 w k w0 w1 k0 k1
  · have he := (hn.2.2.2 w w0 w1).2.2.2.1.2
    have hz := (zcn_rng (fun f => decide (nEn n w f ≠ -1)) (n 2).toNat 0).2
    rw [nX_cg (n := n) (n' := zu n (103 + b) 1) (s := w) (f := k) (by omega) (by unfold nS; exact e _ (by omega)) (fun x x0 x1 => by unfold nS; exact e _ (by omega))]
    exact c7 w k w0 w1 k0 k1
  · rw [nL_cg (n := n) (n' := zu n (103 + b) 1) (s := w) (by unfold nS; exact e _ (by omega)) (by unfold nS; exact e _ (by omega))]
    exact c8 w w0 w1
theorem nScr_W {n : zN} {b : Int} (hn : nW n) (h0 : 0 ≤ b) (h1 : b < 96) : nW (nScr n b) := by
  unfold nScr
  split
  · exact nBd_W hn h0 h1
  · exact nSh_W hn h0 h1
section
variable {E : zE} {σ : zW} {d d2 : Nat} {n : zN}
theorem e0_damage (hW : zWF E) (hu : zU E 0 d = true) (hR : zRd (σ 0 d) n) (hn : nW n) {b : Int} (h0 : 0 ≤ b) (h1 : b < 96) : ∃ σ', f_X0_damage (zH E σ) (zL E 0 d 1) (zI b) = some (zH E σ', zI (zb (decide ((if n (7 + b) = 0 then n (103 + b) else n (199 + b)) = 0)))) ∧ (∀ k' d' c', ¬ (k' = 0 ∧ d' = d) → σ' k' d' c' = σ k' d' c') ∧ (∀ c', c' = 0 ∨ c' = 23 → σ' 0 d c' = σ 0 d c') ∧ zRd (σ' 0 d) (nScr n b) := by
  have hb := hn.2.1 b h0 h1
  have hko := e0_kindOf hW hu hR.1.1 hn.1 hn.2.1 h0 h1
  unfold nScr
  by_cases hk : n (7 + b) = 0
  · rw [if_pos hk, if_pos hk]
    have hr : σ 0 d 3 b = n (103 + b) := hR.1.1.2.2.2.2.1 b h0 h1
    have his := zX_isSet (σ := σ) (E := E) (k := 0) (d := d) (c := 3) (n := 96) hW hu rfl (by decide) (i := b) (by omega) (by omega) (fun _ _ => by rw [hr]; exact hb.2.1)
    rw [if_pos ⟨h0, h1⟩, hr] at his
    refine ⟨zs σ 0 d 3 b 1, ?_, fun k' d' c' hz => zs_ne (by omega), fun c' hc' => zs_ne (by omega), nBd_R h0 h1 hR hn (by funext i; exact zs_at) (fun c hc => zs_ne (by omega))⟩
    simp (disch := first | assumption | omega) only [f_X0_damage, f_X0_damage_J19, zz_blo hW hu, hko, hk, his, zz_dr hW hu, zz_some, zz_lit, zz_num, zI_lt, zI_le, zI_eq, zI_nat, zz_b, if_pos, if_neg, if_true, if_false]
    rcases hb.2.1 with h | h <;> rw [h] <;> rfl
  · rw [if_neg hk, if_neg hk]
    have hr : σ 0 d 4 b = n (199 + b) := hR.1.1.2.2.2.2.2.1 b h0 h1
    have his := zX_isSet (σ := σ) (E := E) (k := 0) (d := d) (c := 4) (n := 96) hW hu rfl (by decide) (i := b) (by omega) (by omega) (fun _ _ => by rw [hr]; exact hb.2.2.1)
    rw [if_pos ⟨h0, h1⟩, hr] at his
    refine ⟨zs σ 0 d 4 b 1, ?_, fun k' d' c' hz => zs_ne (by omega), fun c' hc' => zs_ne (by omega), nSh_R h0 h1 hR hn (by funext i; exact zs_at) (fun c hc => zs_ne (by omega))⟩
    simp (disch := first | assumption | omega) only [f_X0_damage, f_X0_damage_J19, zz_blo hW hu, hko, his, zz_dr hW hu, zz_some, zz_lit, zz_num, zI_lt, zI_le, zI_eq, zI_nat, zz_b, if_pos, if_neg, if_true, if_false]
    try rw [if_neg hk]
    rcases hb.2.2.1 with h | h <;> rw [h] <;> rfl
/-- the first N numbers of a row are v -/
def zq0 (σ : zW) (d c : Nat) (N v : Int) : zW := zr σ 0 d c (fun j => if 0 ≤ j ∧ j < N then v else σ 0 d c j)
theorem zq0_at {σ : zW} {d c : Nat} {N v : Int} : zq0 σ d c N v 0 d c = fun j => if 0 ≤ j ∧ j < N then v else σ 0 d c j := zr_at
theorem zq0_ne {σ : zW} {d c : Nat} {N v : Int} {k' d' c' : Nat} (h : ¬ (k' = 0 ∧ d' = d ∧ c' = c)) : zq0 σ d c N v k' d' c' = σ k' d' c' := zr_ne h
theorem zq0_f {E : zE} {σ : zW} {d : Nat} (hW : zWF E) (hu : zU E 0 d = true) : (∀ v : Int, f_X9_fill (zH E σ) (zL E 0 d 2) (zI v) = some (zH E (zq0 σ d 2 96 v))) ∧ (∀ v : Int, f_X9_fill (zH E σ) (zL E 0 d 5) (zI v) = some (zH E (zq0 σ d 5 96 v))) ∧ (∀ v : Int, f_X9_fill (zH E σ) (zL E 0 d 6) (zI v) = some (zH E (zq0 σ d 6 96 v))) ∧ (∀ v : Int, f_X9_fill (zH E σ) (zL E 0 d 7) (zI v) = some (zH E (zq0 σ d 7 96 v))) ∧ (∀ v : Int, f_X9_fill (zH E σ) (zL E 0 d 8) (zI v) = some (zH E (zq0 σ d 8 96 v))) ∧ (∀ v : Int, f_X9_fill (zH E σ) (zL E 0 d 9) (zI v) = some (zH E (zq0 σ d 9 96 v))) ∧ (f_X9_fill_ (zH E σ) (zL E 0 d 3) (zI 0) = some (zH E (zq0 σ d 3 96 0))) ∧ (f_X9_fill_ (zH E σ) (zL E 0 d 4) (zI 0) = some (zH E (zq0 σ d 4 96 0))) :=
  ⟨fun v => zX_fill hW hu rfl (by decide), fun v => zX_fill hW hu rfl (by decide), fun v => zX_fill hW hu rfl (by decide), fun v => zX_fill hW hu rfl (by decide), fun v => zX_fill hW hu rfl (by decide), fun v => zX_fill hW hu rfl (by decide), zX_fill_ hW hu rfl (by decide) (Or.inl rfl), zX_fill_ hW hu rfl (by decide) (Or.inl rfl)⟩
/-- the first N numbers of a row are another disc's -/
def zq1 (σ τ : zW) (d d2 c : Nat) (N : Int) : zW := zr τ 0 d2 c (fun j => if 0 ≤ j ∧ j < N then σ 0 d c j else τ 0 d2 c j)
theorem zq1_at {σ τ : zW} {d d2 c : Nat} {N : Int} : zq1 σ τ d d2 c N 0 d2 c = fun j => if 0 ≤ j ∧ j < N then σ 0 d c j else τ 0 d2 c j := zr_at
theorem zq1_ne {σ τ : zW} {d d2 c : Nat} {N : Int} {k' d' c' : Nat} (h : ¬ (k' = 0 ∧ d' = d2 ∧ c' = c)) : zq1 σ τ d d2 c N k' d' c' = τ k' d' c' := zr_ne h
theorem e1_format (hW : zWF E) (hu : zU E 0 d = true) {b s : Int} (hb0 : 8 ≤ b) (hb1 : b ≤ 96) (hs0 : 0 ≤ s) (hs1 : s ≤ 16) (hs2 : 2 * s ≤ b) : ∃ σ', f_X1_format (zH E σ) (zL E 0 d 0) (zI b) (zI s) = some (zH E σ') ∧ (∀ k' d' c', ¬ (k' = 0 ∧ d' = d) → σ' k' d' c' = σ k' d' c') ∧ σ' 0 d 23 = σ 0 d 23 ∧ zRd (σ' 0 d) (nFm b s) := by
  refine ⟨(zs (zs (zs (zs (zq0 (zq0 (zq0 (zq0 (zq0 (zq0 (zq0 (zq0 (zs (zs (zs σ 0 d 1 0 b) 0 d 1 1 (b - s)) 0 d 1 2 0) d 2 96 (0)) d 3 96 (0)) d 4 96 (0)) d 5 96 (-1)) d 6 96 (-1)) d 7 96 (-1)) d 8 96 (-1)) d 9 96 (-1)) 0 d 10 0 0) 0 d 16 0 0) 0 d 0 3 0) 0 d 0 5 0), ?_, fun k' d' c' hz => ?_, ?_, ?_⟩
  · simp (disch := first | assumption | omega) only [f_X1_format, f_X0_format, zz_dco hW hu, zz_blo hW hu, zz_vso hW hu, zz_seo hW hu, zz_bl hW hu, zz_vs hW hu, zz_se hW hu, zz_dc hW hu, zq0_f hW hu, zz_some, zz_lit, zz_num, zI_lt, zI_le, zI_eq, zI_nat, zz_b, if_pos, if_neg, if_true, if_false]
  · simp (disch := omega) only [zs_ne, zq0_ne]
  · simp (disch := omega) only [zs_ne, zq0_ne]
  · have e : ∀ i, 2 ≤ i → nFm b s i = 0 := fun i hi => by unfold nFm; rw [if_neg (by omega), if_neg (by omega)]
    have e0 : nFm b s 0 = b := by unfold nFm; rw [if_pos rfl]
    have e1 : nFm b s 1 = s := by unfold nFm; rw [if_neg (by omega), if_pos rfl]
    unfold zRd zRb zRk zRv zRs zRf
    rw [e0, e1, e 2 (by omega), e 3 (by omega), e 4 (by omega), e 5 (by omega), e 6 (by omega)]
    refine ⟨⟨⟨?_, ?_, ?_, fun c c0 c1 => ?_, fun c c0 c1 => ?_, fun c c0 c1 => ?_, fun c c0 c1 => ?_, fun c c0 c1 => ?_, fun c c0 c1 => ?_, fun c c0 c1 => ?_⟩, fun c c0 c1 => ?_⟩, ⟨?_, fun v v0 v1 => by omega, fun v v0 v1 => by omega, fun v v0 v1 => by omega, fun v v0 v1 => by omega, fun v v0 v1 => by omega⟩, ⟨?_, fun v v0 v1 => by omega, fun v v0 v1 => by omega, fun v v0 v1 => by omega, fun v v0 v1 => by omega, fun v k v0 v1 => by omega, fun v k v0 v1 => by omega, fun v v0 v1 => by omega⟩, ?_, ?_⟩
    all_goals (try rw [e _ (by omega)])
    all_goals simp (disch := omega) only [zs_ne, zq0_ne, zq0_at, zs_at, if_pos, if_neg]
    all_goals (try omega)
    all_goals (try simp)
theorem zq1_f {E : zE} {σ : zW} {d d2 : Nat} (hW : zWF E) (hu : zU E 0 d = true) (hu2 : zU E 0 d2 = true) (hd : d2 ≠ d) (h3 : ∀ j, 0 ≤ j → j < 96 → σ 0 d 3 j = 0 ∨ σ 0 d 3 j = 1) (h4 : ∀ j, 0 ≤ j → j < 96 → σ 0 d 4 j = 0 ∨ σ 0 d 4 j = 1) : (∀ τ : zW, τ 0 d 2 = σ 0 d 2 → f_X9_copy (zH E τ) (zL E 0 d 2) (zL E 0 d2 2) = some (zH E (zq1 σ τ d d2 2 96))) ∧ (∀ τ : zW, τ 0 d 3 = σ 0 d 3 → f_X9_copy_ (zH E τ) (zL E 0 d 3) (zL E 0 d2 3) = some (zH E (zq1 σ τ d d2 3 96))) ∧ (∀ τ : zW, τ 0 d 4 = σ 0 d 4 → f_X9_copy_ (zH E τ) (zL E 0 d 4) (zL E 0 d2 4) = some (zH E (zq1 σ τ d d2 4 96))) ∧ (∀ τ : zW, τ 0 d 5 = σ 0 d 5 → f_X9_copy (zH E τ) (zL E 0 d 5) (zL E 0 d2 5) = some (zH E (zq1 σ τ d d2 5 96))) ∧ (∀ τ : zW, τ 0 d 6 = σ 0 d 6 → f_X9_copy (zH E τ) (zL E 0 d 6) (zL E 0 d2 6) = some (zH E (zq1 σ τ d d2 6 96))) ∧ (∀ τ : zW, τ 0 d 7 = σ 0 d 7 → f_X9_copy (zH E τ) (zL E 0 d 7) (zL E 0 d2 7) = some (zH E (zq1 σ τ d d2 7 96))) ∧ (∀ τ : zW, τ 0 d 8 = σ 0 d 8 → f_X9_copy (zH E τ) (zL E 0 d 8) (zL E 0 d2 8) = some (zH E (zq1 σ τ d d2 8 96))) ∧ (∀ τ : zW, τ 0 d 9 = σ 0 d 9 → f_X9_copy (zH E τ) (zL E 0 d 9) (zL E 0 d2 9) = some (zH E (zq1 σ τ d d2 9 96))) ∧ (∀ τ : zW, τ 0 d 11 = σ 0 d 11 → f_X9_copy (zH E τ) (zL E 0 d 11) (zL E 0 d2 11) = some (zH E (zq1 σ τ d d2 11 96))) ∧ (∀ τ : zW, τ 0 d 12 = σ 0 d 12 → f_X9_copy (zH E τ) (zL E 0 d 12) (zL E 0 d2 12) = some (zH E (zq1 σ τ d d2 12 96))) ∧ (∀ τ : zW, τ 0 d 13 = σ 0 d 13 → f_X9_copy (zH E τ) (zL E 0 d 13) (zL E 0 d2 13) = some (zH E (zq1 σ τ d d2 13 96))) ∧ (∀ τ : zW, τ 0 d 14 = σ 0 d 14 → f_X9_copy (zH E τ) (zL E 0 d 14) (zL E 0 d2 14) = some (zH E (zq1 σ τ d d2 14 96))) ∧ (∀ τ : zW, τ 0 d 15 = σ 0 d 15 → f_X9_copy (zH E τ) (zL E 0 d 15) (zL E 0 d2 15) = some (zH E (zq1 σ τ d d2 15 96))) ∧ (∀ τ : zW, τ 0 d 17 = σ 0 d 17 → f_X9_copy (zH E τ) (zL E 0 d 17) (zL E 0 d2 17) = some (zH E (zq1 σ τ d d2 17 12))) ∧ (∀ τ : zW, τ 0 d 18 = σ 0 d 18 → f_X9_copy (zH E τ) (zL E 0 d 18) (zL E 0 d2 18) = some (zH E (zq1 σ τ d d2 18 12))) ∧ (∀ τ : zW, τ 0 d 19 = σ 0 d 19 → f_X9_copy (zH E τ) (zL E 0 d 19) (zL E 0 d2 19) = some (zH E (zq1 σ τ d d2 19 12))) ∧ (∀ τ : zW, τ 0 d 20 = σ 0 d 20 → f_X9_copy (zH E τ) (zL E 0 d 20) (zL E 0 d2 20) = some (zH E (zq1 σ τ d d2 20 12))) ∧ (∀ τ : zW, τ 0 d 21 = σ 0 d 21 → f_X9_copy (zH E τ) (zL E 0 d 21) (zL E 0 d2 21) = some (zH E (zq1 σ τ d d2 21 120))) ∧ (∀ τ : zW, τ 0 d 22 = σ 0 d 22 → f_X9_copy (zH E τ) (zL E 0 d 22) (zL E 0 d2 22) = some (zH E (zq1 σ τ d d2 22 120))) ∧ (∀ τ : zW, τ 0 d 23 = σ 0 d 23 → f_X9_copy__ (zH E τ) (zL E 0 d 23) (zL E 0 d2 23) = some (zH E (zq1 σ τ d d2 23 10))) ∧ (∀ τ : zW, τ 0 d 24 = σ 0 d 24 → f_X9_copy (zH E τ) (zL E 0 d 24) (zL E 0 d2 24) = some (zH E (zq1 σ τ d d2 24 12))) := by
  refine ⟨?_, ?_, ?_, ?_, ?_, ?_, ?_, ?_, ?_, ?_, ?_, ?_, ?_, ?_, ?_, ?_, ?_, ?_, ?_, ?_, ?_⟩
  · intro τ h; unfold zq1; rw [← h]; exact zX_copy (n := 96) hd hW hu rfl hu2 (by decide)
  · intro τ h; unfold zq1; rw [← h]; exact zX_copy_ (n := 96) hd hW hu rfl hu2 (by decide) (fun j j0 j1 => by rw [h]; exact h3 j j0 (by omega))
  · intro τ h; unfold zq1; rw [← h]; exact zX_copy_ (n := 96) hd hW hu rfl hu2 (by decide) (fun j j0 j1 => by rw [h]; exact h4 j j0 (by omega))
  · intro τ h; unfold zq1; rw [← h]; exact zX_copy (n := 96) hd hW hu rfl hu2 (by decide)
  · intro τ h; unfold zq1; rw [← h]; exact zX_copy (n := 96) hd hW hu rfl hu2 (by decide)
  · intro τ h; unfold zq1; rw [← h]; exact zX_copy (n := 96) hd hW hu rfl hu2 (by decide)
  · intro τ h; unfold zq1; rw [← h]; exact zX_copy (n := 96) hd hW hu rfl hu2 (by decide)
  · intro τ h; unfold zq1; rw [← h]; exact zX_copy (n := 96) hd hW hu rfl hu2 (by decide)
  · intro τ h; unfold zq1; rw [← h]; exact zX_copy (n := 96) hd hW hu rfl hu2 (by decide)
  · intro τ h; unfold zq1; rw [← h]; exact zX_copy (n := 96) hd hW hu rfl hu2 (by decide)
  · intro τ h; unfold zq1; rw [← h]; exact zX_copy (n := 96) hd hW hu rfl hu2 (by decide)
  · intro τ h; unfold zq1; rw [← h]; exact zX_copy (n := 96) hd hW hu rfl hu2 (by decide)
  · intro τ h; unfold zq1; rw [← h]; exact zX_copy (n := 96) hd hW hu rfl hu2 (by decide)
  · intro τ h; unfold zq1; rw [← h]; exact zX_copy (n := 12) hd hW hu rfl hu2 (by decide)
  · intro τ h; unfold zq1; rw [← h]; exact zX_copy (n := 12) hd hW hu rfl hu2 (by decide)
  · intro τ h; unfold zq1; rw [← h]; exact zX_copy (n := 12) hd hW hu rfl hu2 (by decide)
  · intro τ h; unfold zq1; rw [← h]; exact zX_copy (n := 12) hd hW hu rfl hu2 (by decide)
  · intro τ h; unfold zq1; rw [← h]; exact zX_copy (n := 120) hd hW hu rfl hu2 (by decide)
  · intro τ h; unfold zq1; rw [← h]; exact zX_copy (n := 120) hd hW hu rfl hu2 (by decide)
  · intro τ h; unfold zq1; rw [← h]; exact zX_copy__ (n := 10) hd hW hu rfl hu2 (by decide)
  · intro τ h; unfold zq1; rw [← h]; exact zX_copy (n := 12) hd hW hu rfl hu2 (by decide)
set_option maxHeartbeats 4000000 in
theorem e1_takeFrom (hW : zWF E) (hu : zU E 0 d = true) (hu2 : zU E 0 d2 = true) (hd : d2 ≠ d) (hR : zRd (σ 0 d) n) (hn : nW n) : ∃ σ', f_X1_takeFrom (zH E σ) (zL E 0 d2 0) (zL E 0 d 0) = some (zH E σ') ∧ (∀ k' d' c', ¬ (k' = 0 ∧ d' = d2) → σ' k' d' c' = σ k' d' c') ∧ (∀ i, 0 ≤ i → i < 10 → σ' 0 d2 23 i = σ 0 d 23 i) ∧ zRd (σ' 0 d2) n := by
  have hN := hn.1.r
  have hver := hn.2.2.1.1
  have h3 : ∀ j, 0 ≤ j → j < 96 → σ 0 d 3 j = 0 ∨ σ 0 d 3 j = 1 := fun j j0 j1 => by rw [hR.1.1.2.2.2.2.1 j j0 j1]; exact (hn.2.1 j j0 j1).2.1
  have h4 : ∀ j, 0 ≤ j → j < 96 → σ 0 d 4 j = 0 ∨ σ 0 d 4 j = 1 := fun j j0 j1 => by rw [hR.1.1.2.2.2.2.2.1 j j0 j1]; exact (hn.2.1 j j0 j1).2.2.1
  have h5 : g_z (zI (σ 0 d 0 5)) = some (zI (σ 0 d 0 5)) := by
    rw [hR.2.2.2.2]
    rcases hN.2.2.2.2.2.1 with h | h <;> rw [h] <;> rfl
  refine ⟨(zs (zq1 σ (zs (zq1 σ (zq1 σ (zq1 σ (zq1 σ (zq1 σ (zq1 σ (zq1 σ (zs (zq1 σ (zq1 σ (zq1 σ (zq1 σ (zq1 σ (zs (zq1 σ (zq1 σ (zq1 σ (zq1 σ (zq1 σ (zq1 σ (zq1 σ (zq1 σ (zs (zs (zs σ 0 d2 1 0 (σ 0 d 1 0)) 0 d2 1 1 (σ 0 d 1 1)) 0 d2 1 2 (σ 0 d 1 2)) d d2 2 96) d d2 3 96) d d2 4 96) d d2 5 96) d d2 6 96) d d2 7 96) d d2 8 96) d d2 9 96) 0 d2 10 0 (σ 0 d 10 0)) d d2 11 96) d d2 12 96) d d2 13 96) d d2 14 96) d d2 15 96) 0 d2 16 0 (σ 0 d 16 0)) d d2 17 12) d d2 18 12) d d2 19 12) d d2 24 12) d d2 20 12) d d2 21 120) d d2 22 120) 0 d2 0 3 (σ 0 d 0 3)) d d2 23 10) 0 d2 0 5 (σ 0 d 0 5)), ?_, fun k' d' c' hz => ?_, fun i i0 i1 => ?_, ?_⟩
  · simp (disch := first | assumption | omega | (simp (disch := omega) only [zs_ne, zq1_ne])) only [f_X1_takeFrom, f_X0_takeFrom, f_X7_takeFrom, f_X5_takeFrom, zz_dco hW hu, zz_blo hW hu, zz_vso hW hu, zz_seo hW hu, zz_dco hW hu2, zz_blo hW hu2, zz_vso hW hu2, zz_seo hW hu2, zz_bl hW hu, zz_vs hW hu, zz_se hW hu, zz_dc hW hu, zz_bl hW hu2, zz_vs hW hu2, zz_se hW hu2, zz_dc hW hu2, zq1_f hW hu hu2 hd h3 h4, zs_ne, zq1_ne, h5, zz_some, zz_lit, zz_num, zz_b, if_true, if_false]
  · simp (disch := omega) only [zs_ne, zq1_ne]
  · simp (disch := omega) only [zs_ne, zq1_ne, zq1_at, if_pos]
  · obtain ⟨⟨⟨r0, r1, r2, r3, r4, r5, r6, r7, r8, r9⟩, r10⟩, ⟨b1, b2, b3, b4, b5, b6⟩, ⟨c1, c2, c3, c4, c5, c6, c7, c8⟩, ⟨d1, d3⟩⟩ := hR
    refine ⟨⟨⟨?_, ?_, ?_, fun c c0 c1 => ?_, fun c c0 c1 => ?_, fun c c0 c1 => ?_, fun c c0 c1 => ?_, fun c c0 c1 => ?_, fun c c0 c1 => ?_, fun c c0 c1 => ?_⟩, fun c c0 c1 => ?_⟩, ⟨?_, fun v v0 v1 => ?_, fun v v0 v1 => ?_, fun v v0 v1 => ?_, fun v v0 v1 => ?_, fun v v0 v1 => ?_⟩, ⟨?_, fun v v0 v1 => ?_, fun v v0 v1 => ?_, fun v v0 v1 => ?_, fun v v0 v1 => ?_, fun v k v0 v1 k0 k1 => ?_, fun v k v0 v1 k0 k1 => ?_, fun v v0 v1 => ?_⟩, ?_, ?_⟩
    all_goals (try have he := hn.2.2.2.ent hn.1 v0 v1)
    all_goals simp (disch := omega) only [zs_ne, zq1_ne, zq1_at, zs_at, if_pos, if_neg]
    · exact r0
    · exact r1
    · exact r2
    · exact r3 c c0 c1
    · exact r4 c c0 c1
    · exact r5 c c0 c1
    · exact r6 c c0 c1
    · exact r7 c c0 c1
    · exact r8 c c0 c1
    · exact r9 c c0 c1
    · exact r10 c c0 c1
    · exact b1
    · exact b2 v v0 v1
    · exact b3 v v0 v1
    · exact b4 v v0 v1
    · exact b5 v v0 v1
    · exact b6 v v0 v1
    · exact c1
    · exact c2 v v0 v1
    · exact c3 v v0 v1
    · exact c4 v v0 v1
    · exact c5 v v0 v1
    · exact c6 v k v0 v1 k0 k1
    · exact c7 v k v0 v1 k0 k1
    · exact c8 v v0 v1
    · exact d1
    · exact d3
end
def zth (σ : zW) (v : Int) : zW := zs σ 3 0 0 0 v
theorem zth_c {σ : zW} {v : Int} {k d c : Nat} (h : ¬ (k = 3 ∧ d = 0 ∧ c = 0)) : zth σ v k d c = σ k d c := zs_ne h
theorem zth_0 {σ : zW} {v : Int} : zth σ v 3 0 0 0 = v := by unfold zth; rw [zs_at, if_pos rfl]
theorem zth_i {σ : zW} {v i : Int} (h : i ≠ 0) : zth σ v 3 0 0 i = σ 3 0 0 i := by unfold zth; rw [zs_at, if_neg h]
/-- only scratch and the thrown number (now e) differ -/
def zT (σ σ' : zW) (e : Int) : Prop := (∀ k d c, ¬ (k = 3 ∧ d = 0 ∧ (c = 0 ∨ c = 17 ∨ c = 21 ∨ c = 23)) → σ' k d c = σ k d c) ∧ (∀ i, i ≠ 0 → i ≠ 18 → i ≠ 19 → i ≠ 20 → i ≠ 22 → σ' 3 0 0 i = σ 3 0 0 i) ∧ σ' 3 0 0 0 = e
theorem zT.th (σ : zW) (e : Int) : zT σ (zth σ e) e := ⟨fun k d c z => zth_c (by omega), fun i a _ _ _ _ => zth_i a, zth_0⟩
theorem nEw2 {n : zN} (hn : nW n) {s : Int} (h0 : 0 ≤ s) (h1 : s < n 3) : 0 ≤ nS n s 2 ∧ nS n s 2 ≤ 10 := by
  have h := (hn.2.2.2 s h0 h1).2.2.2.1
  have h2 := (zcn_rng (fun f => decide (nEn n s f ≠ -1)) (n 2).toNat 0).2
  have hN := hn.1.r
  omega
section
variable {E : zE} {σ : zW} {n : zN}

def aSize (n : zN) (u x : Int) : Int := if x = 5 then zcn (fun b => decide (n (7 + b) = 0)) (n 0 - n 1) (n 1).toNat else if x = 6 then zcn (fun b => decide (n (103 + b) = 1)) 0 (n 0).toNat else if x = 7 then nTh n 12 else if x = 8 then zcn (nGd n) 0 (n 2).toNat else if x = 9 then zb (nOp n) else if x = 10 then n 5 else if x = 11 then u else if x = 12 then n 6 else n x
def aBlock (n : zN) (b x : Int) : Int := if x = 0 then n (7 + b) else if x = 1 then n (103 + b) else if x = 2 then n (199 + b) else if x = 3 then n (295 + b) - 1 else if x = 4 then n (391 + b) - 1 else if x = 5 then n (487 + b) - 1 else n (583 + b) - 1
def aSession (n : zN) (s x : Int) : Int := if x = 0 then nS n s 0 else if x = 1 then nS n s 1 else if x = 2 then zcn (fun b => decide (n (295 + b) = s + 1)) 0 (n 0 - n 1).toNat else if x = 3 then nS n s 2 else if x = 4 then nS n s 3 - 1 else if x = 5 then zb (nRdD n s) else if x = 6 then nS n s 4 - 1 else if x = 7 then zb (nRe n s) else zcn (fun b => decide (n (295 + b) = s + 1)) (n 0 - n 1) (n 1).toNat
def aEntry (n : zN) (s k x : Int) : Int := if 0 ≤ k ∧ k < nS n s 2 then (if 2 ≤ x then (if nS n s (6 + 2 * k) = -1 then (if x = 3 then 0 else -1) else nV n (nS n s (6 + 2 * k)) (x - 1)) else if x = 0 then nS n s (5 + 2 * k) else nS n s (6 + 2 * k)) else -1
def aFile (n : zN) (f x : Int) : Int := if x = 0 then (if nFv n f 12 = -1 then 0 else 1) else if x = 1 then (if nFv n f 12 = -1 then 0 else zb (nRv n (nFv n f 12))) else if x = 2 then nFv n f 12 else if x = 3 then (if nFv n f 12 = -1 then 0 else nV n (nFv n f 12) 2) else if x = 4 then (if nFv n f 12 = -1 then -1 else nV n (nFv n f 12) 3) else if x = 5 then nSk n f 12 else zcn (fun v => decide (nV n v 0 = f)) 0 (n 6).toNat
def aWhere (n : zN) (f k : Int) : Int := if nFv n f 12 = -1 then -1 else if 0 ≤ k ∧ k < nV n (nFv n f 12) 2 then nPl n (nV n (nFv n f 12) 1 + k) else -1
def aPlace (n : zN) (b : Int) : Int := if b < n 0 - n 1 then (if n (7 + b) = 0 then -1 else nPl n b) else -1
def aWhyNot (n : zN) (x : Int) : Int := if x = 0 then nWc n else if x = 1 then zb (!nOp n) else nWr n

/-- the first of the greatest risks -/
def zwk (F : Int → Int) : Nat → Int → Int → Int → Int
  | 0, _, w, _ => w
  | m + 1, b, w, r => if F b ≤ r then zwk F m (b + 1) w r else zwk F m (b + 1) b (F b)
def aDefect (n : zN) (x : Int) (w : Bool) : Int := if x < 0 then -1 else if znt (nDf n) 0 (n 0 - n 1).toNat x = -1 then -1 else if w = true then nPl n (znt (nDf n) 0 (n 0 - n 1).toNat x) else znt (nDf n) 0 (n 0 - n 1).toNat x
theorem nRk_rng (n : zN) (b : Int) : 0 ≤ nRk n b ∧ nRk n b ≤ (n 2).toNat := by
  unfold nRk
  split
  · omega
  · exact zcn_rng _ _ _
end
def kC (c : Int) : Int := if c = 10 then 10 else c + 1
def kU (c : Int) (U : Int → zN) (n : zN) : Int → zN := fun k => if c = 10 then (if k = 9 then n else U (k + 1)) else if k = c then n else U k
theorem nWd_rng (n : zN) (e : Int) : 0 ≤ nWd n e ∧ nWd n e ≤ 5 := by unfold nWd; split <;> (try split) <;> omega
theorem nWw_rng (n : zN) (f m : Int) : 0 ≤ nWw n f m ∧ nWw n f m ≤ 5 := by unfold nWw; split <;> (try split) <;> (try split) <;> omega
theorem nWc_rng (n : zN) : 0 ≤ nWc n ∧ nWc n ≤ 5 := by
  have := nWd_rng n (nS n (nLa n) 2)
  unfold nWc; split <;> omega
theorem nWr_rng (n : zN) : 0 ≤ nWr n ∧ nWr n ≤ 5 := by
  have := nWd_rng n (nCr n)
  unfold nWr; split <;> (try split) <;> omega
theorem nWe_rng (n : zN) (f : Int) : 0 ≤ nWe n f ∧ nWe n f ≤ 5 := by unfold nWe; split <;> (try split) <;> (try split) <;> omega

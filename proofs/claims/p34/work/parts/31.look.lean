/-! What the views show; risks; space. -/
theorem nS_cg {n n' : zN} (h : ∀ i : Int, 1255 ≤ i → n' i = n i) {s w : Int} (hs : 0 ≤ s) (hw : 0 ≤ w) : nS n' s w = nS n s w := h _ (by omega)
theorem nV_cg {n n' : zN} (h : ∀ i : Int, 775 ≤ i → n' i = n i) {s w : Int} (hs : 0 ≤ s) (hw : 0 ≤ w) : nV n' s w = nV n s w := h _ (by omega)
theorem nEn_cg {n n' : zN} (h : ∀ i : Int, 1255 ≤ i → n' i = n i) {s f : Int} (hs : 0 ≤ s) : nEn n' s f = nEn n s f := by
  unfold nEn
  rw [nS_cg h hs (by omega)]
  exact zfs_congr _ _ (fun k h0 _ => by rw [nS_cg h hs (by omega)])
theorem nWs_cg {n n' : zN} (h : ∀ i : Int, 1255 ≤ i → n' i = n i) (h2 : n' 2 = n 2) (h3 : n' 3 = n 3) (h4 : n 4 ≤ n' 4) (h6 : n 6 ≤ n' 6) (hZ : nWs n) : nWs n' := by
  intro s hs0 hs1
  obtain ⟨a1, a2, a3, a4, a5, a6, a7⟩ := hZ s hs0 (by omega)
  have e : ∀ w, 0 ≤ w → nS n' s w = nS n s w := fun w hw => nS_cg h hs0 hw
  rw [e 0 (by omega), e 1 (by omega), e 2 (by omega), e 3 (by omega), e 4 (by omega), h2, h3]
  refine ⟨a1, a2, a3, ⟨a4.1, ?_⟩, ⟨a5.1, a5.2.1, fun z => by have := a5.2.2 z; omega⟩, ?_, fun k k0 k1 => ?_⟩
  · rw [zcn_congr (Q := fun f => decide (nEn n s f ≠ -1)) _ _ (fun f _ _ => by rw [nEn_cg h hs0])]
    exact a4.2
  · rw [a6, zls_congr (Q := fun t => decide (nS n' t 0 = 1)) (P := fun t => decide (nS n t 0 = 1)) _ (fun t t0 _ => by rw [nS_cg h t0 (by omega)])]
  · rw [e _ (by omega), e _ (by omega)]
    have := a7 k k0 k1
    omega
theorem nWv_cg {n n' : zN} (h : ∀ i : Int, 775 ≤ i → n' i = n i) (h2 : n' 2 = n 2) (h3 : n' 3 = n 3) (h4 : n 4 ≤ n' 4) (h6 : n' 6 = n 6) (hV : nWv n) : nWv n' := by
  refine ⟨by have := hV.1; omega, fun v v0 v1 => ?_⟩
  obtain ⟨a1, a2, a3, a4, a5, a6, a7⟩ := hV.2 v v0 (by omega)
  have e : ∀ w, 0 ≤ w → nV n' v w = nV n v w := fun w hw => nV_cg h v0 hw
  rw [e 0 (by omega), e 1 (by omega), e 2 (by omega), e 3 (by omega), e 4 (by omega), h2, h3]
  refine ⟨a1, a2, a3, by omega, a5, a6, fun s k s0 s1 k0 k1 k2 => ?_⟩
  have e2 : ∀ w, 0 ≤ w → nS n' s w = nS n s w := fun w hw => nS_cg (fun i hi => h i (by omega)) s0 hw
  rw [e2 _ (by omega)] at k1 k2
  rw [e2 _ (by omega)]
  exact a7 s k s0 s1 k0 k1 k2
/-- the state with one block scratched more -/
def nSh (n : zN) (b : Int) : zN := fun i => if i = 199 + b then 1 else n i
def nRk (n : zN) (b : Int) : Int := if n (7 + b) = 0 ∨ n (199 + b) = 1 then 0 else zcn (fun f => nGd n f && !nGd (nSh n b) f) 0 (n 2).toNat
def nUs (n : zN) (b : Int) : Int := if n (7 + b) = 0 then 0 else if n (7 + b) = 1 then (if nFv n (nV n (n (391 + b) - 1) 0) 12 = n (391 + b) - 1 then 1 else 2) else if n (7 + b) = 2 then 3 else 4
def nSp (n : zN) (s u : Int) : Int := zcn (fun b => (decide (s = -1) || decide (n (295 + b) = s + 1)) && decide (nUs n b = u)) 0 (n 0).toNat
def nWe (n : zN) (f : Int) : Int := if nFv n f 12 = -1 then 2 else if nTm n = true then 3 else if n 4 + nDl (nEw n f) ≤ n 0 - n 1 then 0 else 4
theorem nSh_W {n : zN} {b : Int} (hn : nW n) (h0 : 0 ≤ b) (h1 : b < 96) : nW (nSh n b) := by
  have e : ∀ i : Int, i ≠ 199 + b → nSh n b i = n i := fun i hi => by unfold nSh; rw [if_neg hi]
  have e2 : ∀ i : Int, 295 ≤ i → nSh n b i = n i := fun i hi => e i (by omega)
  refine ⟨?_, fun c c0 c1 => ?_, nWv_cg (fun i hi => e2 i (by omega)) (e 2 (by omega)) (e 3 (by omega)) (by rw [e 4 (by omega)]; omega) (e 6 (by omega)) hn.2.2.1, nWs_cg (fun i hi => e2 i (by omega)) (e 2 (by omega)) (e 3 (by omega)) (by rw [e 4 (by omega)]; omega) (by rw [e 6 (by omega)]; omega) hn.2.2.2⟩
  · have := hn.1
    unfold nWn at this ⊢
    rw [e 0 (by omega), e 1 (by omega), e 2 (by omega), e 3 (by omega), e 4 (by omega), e 5 (by omega), e 6 (by omega)]
    exact this
  · have := hn.2.1 c c0 c1
    rw [e (7 + c) (by omega), e (103 + c) (by omega), e (295 + c) (by omega), e (391 + c) (by omega), e (487 + c) (by omega), e (583 + c) (by omega), e (679 + c) (by omega), e 0 (by omega), e 1 (by omega), e 3 (by omega), e 4 (by omega), e 6 (by omega)]
    refine ⟨this.1, this.2.1, ?_, this.2.2.2⟩
    unfold nSh
    split
    · exact Or.inr rfl
    · exact this.2.2.1
theorem nSh_R {ρ ρ' : Nat → Int → Int} {n : zN} {b : Int} (h0 : 0 ≤ b) (h1 : b < 96) (hR : zRd ρ n) (hn : nW n) (h4 : ρ' 4 = fun i => if i = b then 1 else ρ 4 i) (h5 : ∀ c, c ≠ 4 → ρ' c = ρ c) : zRd ρ' (nSh n b) := by
  have e : ∀ i : Int, i ≠ 199 + b → nSh n b i = n i := fun i hi => by unfold nSh; rw [if_neg hi]
  have hN := hn.1.r
  obtain ⟨⟨⟨a1, a2, a3, a4, a5, a6, a7, a8, a9, a10⟩, a11⟩, ⟨b1, b2, b3, b4, b5, b6⟩, ⟨c1, c2, c3, c4, c5, c6, c7, c8⟩, ⟨d1, d2⟩⟩ := hR
  unfold zRd zRb zRk zRv zRs zRf
  rw [h5 0 (by decide), h5 1 (by decide), h5 2 (by decide), h5 3 (by decide), h5 5 (by decide), h5 6 (by decide), h5 7 (by decide), h5 8 (by decide), h5 9 (by decide), h5 10 (by decide), h5 11 (by decide), h5 12 (by decide), h5 13 (by decide), h5 14 (by decide), h5 15 (by decide), h5 16 (by decide), h5 17 (by decide), h5 18 (by decide), h5 19 (by decide), h5 20 (by decide), h5 21 (by decide), h5 22 (by decide), h5 24 (by decide)]
  rw [e 0 (by omega), e 1 (by omega), e 2 (by omega), e 3 (by omega), e 4 (by omega), e 5 (by omega), e 6 (by omega)]
  refine ⟨⟨⟨a1, a2, a3, fun c c0 c1 => ?_, fun c c0 c1 => ?_, fun c c0 c1 => ?_, fun c c0 c1 => ?_, fun c c0 c1 => ?_, fun c c0 c1 => ?_, fun c c0 c1 => ?_⟩, fun c c0 c1 => ?_⟩, ⟨b1, fun w w0 w1 => ?_, fun w w0 w1 => ?_, fun w w0 w1 => ?_, fun w w0 w1 => ?_, fun w w0 w1 => ?_⟩, ⟨c1, fun w w0 w1 => ?_, fun w w0 w1 => ?_, fun w w0 w1 => ?_, fun w w0 w1 => ?_, fun w k w0 w1 k0 k1 => ?_, fun w k w0 w1 k0 k1 => ?_, fun w w0 w1 => ?_⟩, ⟨d1, d2⟩⟩
  · rw [e _ (by omega)]; exact a4 c c0 c1
  · rw [e _ (by omega)]; exact a5 c c0 c1
  · rw [h4]
    show (if c = b then (1 : Int) else ρ 4 c) = nSh n b (199 + c)
    by_cases hc : c = b
    · subst hc; simp [nSh]
    · rw [if_neg hc, e _ (by omega)]; exact a6 c c0 c1
  · rw [e _ (by omega)]; exact a7 c c0 c1
  · rw [e _ (by omega)]; exact a8 c c0 c1
  · rw [e _ (by omega)]; exact a9 c c0 c1
  · rw [e _ (by omega)]; exact a10 c c0 c1
  · rw [a11 c c0 c1]
    unfold nPl
    rw [e _ (by omega)]
  · unfold nV; rw [e _ (by omega)]; exact b2 w w0 w1
  · unfold nV; rw [e _ (by omega)]; exact b3 w w0 w1
  · unfold nV; rw [e _ (by omega)]; exact b4 w w0 w1
  · unfold nV; rw [e _ (by omega)]; exact b5 w w0 w1
  · unfold nV; rw [e _ (by omega)]; exact b6 w w0 w1
  · unfold nS; rw [e _ (by omega)]; exact c2 w w0 w1
  · unfold nS; rw [e _ (by omega)]; exact c3 w w0 w1
  · unfold nS; rw [e _ (by omega)]; exact c4 w w0 w1
  · unfold nS; rw [e _ (by omega)]; exact c5 w w0 w1
  · unfold nS at k1 ⊢; rw [e _ (by omega)] at k1; rw [e _ (by omega)]; exact c6 w k w0 w1 k0 k1
  · have he := (hn.2.2.2 w w0 w1).2.2.2.1.2
    have hz := (zcn_rng (fun f => decide (nEn n w f ≠ -1)) (n 2).toNat 0).2
    rw [nX_cg (n := n) (n' := nSh n b) (s := w) (f := k) (by omega) (by unfold nS; exact e _ (by omega)) (fun x x0 x1 => by unfold nS; exact e _ (by omega))]
    exact c7 w k w0 w1 k0 k1
  · rw [nL_cg (n := n) (n' := nSh n b) (s := w) (by unfold nS; exact e _ (by omega)) (by unfold nS; exact e _ (by omega))]
    exact c8 w w0 w1
section zCls
variable {E : zE} {σ : zW} {d v : Nat} {n : zN}
theorem e8_versionOf (hW : zWF E) (hv : zU E 1 v = true) (hV : zVw (σ 1 v) n) (hn : nW n) {f : Int} (h0 : 0 ≤ f) (h1 : f < n 2) : f_X8_versionOf (zH E σ) (zL E 1 v 0) (zI f) = some (zI (nFv n f 12)) := by
  have hN' := hn.1.r
  simp (disch := first | assumption | omega) only [f_X8_versionOf, zz_vwo hW hv, zz_vr hW hv, zz_some, zz_lit, zz_num, zI_lt, zI_le, zI_eq, zI_nat, zz_b, if_pos, if_neg, if_true, if_false]
  rw [hV.2.2.2.1 f h0 h1]
theorem e8_sessionOf (hW : zWF E) (hv : zU E 1 v = true) (hV : zVw (σ 1 v) n) (hn : nW n) {f : Int} (h0 : 0 ≤ f) (h1 : f < n 2) : f_X8_sessionOf (zH E σ) (zL E 1 v 0) (zI f) = some (zI (nSk n f 12)) := by
  have hN' := hn.1.r
  simp (disch := first | assumption | omega) only [f_X8_sessionOf, zz_vwo hW hv, zz_vr hW hv, zz_some, zz_lit, zz_num, zI_lt, zI_le, zI_eq, zI_nat, zz_b, if_pos, if_neg, if_true, if_false]
  rw [hV.2.2.1 f h0 h1]
theorem e8_isReadable (hW : zWF E) (hv : zU E 1 v = true) (hV : zVw (σ 1 v) n) (hn : nW n) {f : Int} (h0 : 0 ≤ f) (h1 : f < n 2) : f_X8_isReadable (zH E σ) (zL E 1 v 0) (zI f) = some (zI (zb (nGd n f))) := by
  have hN' := hn.1.r
  simp (disch := first | assumption | omega) only [f_X8_isReadable, zz_vwo hW hv, zz_some, zz_lit, zz_num, zI_lt, zI_le, zI_eq, zI_nat, zz_b, if_pos, if_neg, if_true, if_false]
  have h2 := hV.2.2.2.2 f h0 h1
  rw [zX_isSet (n := 10) hW hv rfl (by decide) (by omega) (by omega) (fun _ _ => by rw [h2]; exact zb_01 _), if_pos ⟨h0, by omega⟩, h2]
  exact g_zb _
theorem e8_reached (hW : zWF E) (hv : zU E 1 v = true) (hV : zVw (σ 1 v) n) (hn : nW n) {s : Int} (h0 : 0 ≤ s) (h1 : s < n 3) : f_X8_isReached (zH E σ) (zL E 1 v 0) (zI s) = some (zI (zb (nRe n s))) := by
  have hN' := hn.1.r
  simp (disch := first | assumption | omega) only [f_X8_isReached, zz_vwo hW hv, zz_some, zz_lit, zz_num, zI_lt, zI_le, zI_eq, zI_nat, zz_b, if_pos, if_neg, if_true, if_false]
  have h2 := hV.2.1 s h0 h1
  rw [zX_isSet (n := 12) hW hv rfl (by decide) (by omega) (by omega) (fun _ _ => by rw [h2]; exact zb_01 _), if_pos ⟨h0, by omega⟩, h2]
  exact g_zb _
theorem e8_filesThere_L (hW : zWF E) (hv : zU E 1 v = true) (hV : zVw (σ 1 v) n) (hn : nW n) : ∀ (m fuel : Nat) (acc f : Int), 0 ≤ f → f + m = n 2 → m < fuel → f_X8_filesThere_L4 (zH E σ) fuel (zL E 1 v 0) (zI acc) (zI f) = some (zI (acc + zcn (fun f => decide (nFv n f 12 ≠ -1)) f m)) := by
  have hN' := hn.1.r
  have hc : g_i (zH E σ) (zL E 1 v 0) 8 0 = some (zI (n 2)) := by rw [← hV.1]; exact (zz_vw hW hv).1
  intro m
  induction m with
  | zero =>
    intro fuel acc f h0 h1 h2
    obtain ⟨fu, rfl, h3⟩ := zfuel h2
    simp (disch := first | assumption | omega) only [f_X8_filesThere_L4, hc, zcn, zz_some, zz_lit, zz_num, zI_lt, zI_le, zI_eq, zI_nat, zz_b, if_pos, if_neg, if_true, if_false]
    simp
  | succ m ih =>
    intro fuel acc f h0 h1 h2
    obtain ⟨fu, rfl, h3⟩ := zfuel h2
    have hF := nFv_rng hn f 12
    simp (disch := first | assumption | omega) only [f_X8_filesThere_L4, hc, zz_vwo hW hv, e8_versionOf hW hv hV hn, zcn, ih, zz_some, zz_lit, zz_num, zI_lt, zI_le, zI_eq, zI_nat, zz_b, if_pos, if_neg, if_true, if_false]
    by_cases h : nFv n f 12 = -1
    · rw [if_pos h, zb_dneg (by simp [h])]; congr 2; omega
    · rw [if_neg h, zb_dpos h]; congr 2; omega
theorem e8_filesThere (hW : zWF E) (hv : zU E 1 v = true) (hV : zVw (σ 1 v) n) (hn : nW n) : f_X8_filesThere (zH E σ) (zL E 1 v 0) = some (zI (nTh n 12)) := by
  have hN' := hn.1.r
  unfold f_X8_filesThere nTh
  simp (disch := first | assumption | omega) only [zz_some, zz_lit, zz_num, zI_lt, zI_le, zI_eq, zI_nat, zz_b, if_pos, if_neg, if_true, if_false]
  rw [e8_filesThere_L hW hv hV hn (n 2).toNat _ _ _ (by omega) (by omega) (by unfold g_N; omega)]
  congr 2; omega
theorem e8_filesReadable_L (hW : zWF E) (hv : zU E 1 v = true) (hV : zVw (σ 1 v) n) (hn : nW n) : ∀ (m fuel : Nat) (acc f : Int), 0 ≤ f → f + m = n 2 → m < fuel → f_X8_filesReadable_L4 (zH E σ) fuel (zL E 1 v 0) (zI acc) (zI f) = some (zI (acc + zcn (nGd n) f m)) := by
  have hN' := hn.1.r
  have hc : g_i (zH E σ) (zL E 1 v 0) 8 0 = some (zI (n 2)) := by rw [← hV.1]; exact (zz_vw hW hv).1
  intro m
  induction m with
  | zero =>
    intro fuel acc f h0 h1 h2
    obtain ⟨fu, rfl, h3⟩ := zfuel h2
    simp (disch := first | assumption | omega) only [f_X8_filesReadable_L4, hc, zcn, zz_some, zz_lit, zz_num, zI_lt, zI_le, zI_eq, zI_nat, zz_b, if_pos, if_neg, if_true, if_false]
    simp
  | succ m ih =>
    intro fuel acc f h0 h1 h2
    obtain ⟨fu, rfl, h3⟩ := zfuel h2
    simp (disch := first | assumption | omega) only [f_X8_filesReadable_L4, hc, zz_vwo hW hv, e8_isReadable hW hv hV hn, zcn, ih, zz_some, zz_lit, zz_num, zI_lt, zI_le, zI_eq, zI_nat, zz_b, if_pos, if_neg, if_true, if_false]
    rw [Int.add_assoc]
theorem e8_filesReadable (hW : zWF E) (hv : zU E 1 v = true) (hV : zVw (σ 1 v) n) (hn : nW n) : f_X8_filesReadable (zH E σ) (zL E 1 v 0) = some (zI (nGs n)) := by
  have hN' := hn.1.r
  unfold f_X8_filesReadable nGs
  simp (disch := first | assumption | omega) only [zz_some, zz_lit, zz_num, zI_lt, zI_le, zI_eq, zI_nat, zz_b, if_pos, if_neg, if_true, if_false]
  rw [e8_filesReadable_L hW hv hV hn (n 2).toNat _ _ _ (by omega) (by omega) (by unfold g_N; omega)]
  congr 2; omega
theorem e8_filesThereBefore_L (hW : zWF E) (hu : zU E 0 d = true) (hv : zU E 1 v = true) (hn : nW n) (hR : zRd (σ 0 d) n) (hV : zVw (σ 1 v) n) {y : Int} (hy0 : 0 ≤ y) (hy1 : y ≤ n 3) : ∀ (m fuel : Nat) (acc f : Int), 0 ≤ f → f + m = n 2 → m < fuel → f_X8_filesThereBefore_L5 (zH E σ) fuel (zL E 1 v 0) (zL E 0 d 16) (zI y) (zI acc) (zI f) = some (zI (acc + zcn (fun f => decide (nFv n f y ≠ -1)) f m)) := by
  have hN' := hn.1.r
  have hc : g_i (zH E σ) (zL E 1 v 0) 8 0 = some (zI (n 2)) := by rw [← hV.1]; exact (zz_vw hW hv).1
  have hr := hV.2.1
  intro m
  induction m with
  | zero =>
    intro fuel acc f h0 h1 h2
    obtain ⟨fu, rfl, h3⟩ := zfuel h2
    simp (disch := first | assumption | omega) only [f_X8_filesThereBefore_L5, hc, zcn, zz_some, zz_lit, zz_num, zI_lt, zI_le, zI_eq, zI_nat, zz_b, if_pos, if_neg, if_true, if_false]
    simp
  | succ m ih =>
    intro fuel acc f h0 h1 h2
    obtain ⟨fu, rfl, h3⟩ := zfuel h2
    have hF := nFv_rng hn f y
    simp (disch := first | assumption | omega) only [f_X8_filesThereBefore_L5, hc, zz_vwo hW hv, zz_dco hW hu, zz_seo hW hu, e8_sessionThatCounts hW hu hv hn hR hr, e8_vers hW hu hv hn hR, zcn, ih, zz_some, zz_lit, zz_num, zI_lt, zI_le, zI_eq, zI_nat, zz_b, if_pos, if_neg, if_true, if_false]
    by_cases h : nFv n f y = -1
    · rw [if_pos h, zb_dneg (by simp [h])]; congr 2; omega
    · rw [if_neg h, zb_dpos h]; congr 2; omega
theorem e8_filesThereBefore (hW : zWF E) (hu : zU E 0 d = true) (hv : zU E 1 v = true) (hn : nW n) (hR : zRd (σ 0 d) n) (hV : zVw (σ 1 v) n) {y : Int} (hy0 : 0 ≤ y) (hy1 : y ≤ n 3) : f_X8_filesThereBefore (zH E σ) (zL E 1 v 0) (zL E 0 d 16) (zI y) = some (zI (nTh n y)) := by
  have hN' := hn.1.r
  unfold f_X8_filesThereBefore nTh
  simp (disch := first | assumption | omega) only [zz_some, zz_lit, zz_num, zI_lt, zI_le, zI_eq, zI_nat, zz_b, if_pos, if_neg, if_true, if_false]
  rw [e8_filesThereBefore_L hW hu hv hn hR hV hy0 hy1 (n 2).toNat _ _ _ (by omega) (by omega) (by unfold g_N; omega)]
  congr 2; omega
theorem e1_look (hW : zWF E) (hu : zU E 0 d = true) (hv : zU E 1 d = true) (hn : nW n) (hR : zRd (σ 0 d) n) : ∃ σ', f_X8_lookAt (zH E σ) (zL E 1 d 0) (zL E 0 d 0) = some (zH E σ', zL E 1 d 0) ∧ zFr σ σ' 1 d ∧ zVw (σ' 1 d) n := e8_lookAt hW hu hv hn hR
theorem e1_filesLostBy_L (hW : zWF E) (hu : zU E 0 d = true) (hv : zU E 1 v = true) {w : Nat} (hw : zU E 1 w = true) (hn : nW n) {n' : zN} (hn' : nW n') (h2' : n' 2 = n 2) (hf : σ 0 d 0 3 = n 2) (hV : zVw (σ 1 v) n) (hV' : zVw (σ 1 w) n') : ∀ (m fuel : Nat) (acc f : Int), 0 ≤ f → f + m = n 2 → m < fuel → f_X1_filesLostBy_L60 fuel (zH E σ) (zL E 0 d 0) (zL E 1 v 0) (zL E 1 w 0) (zI acc) (zI f) = some ((zH E σ), zI (acc + zcn (fun f => nGd n f && !nGd n' f) f m)) := by
  have hN' := hn.1.r
  have hc : g_i (zH E σ) (zL E 0 d 0) 1 3 = some (zI (n 2)) := by rw [← hf]; exact (zz_dc hW hu).2.2.2.1
  intro m
  induction m with
  | zero =>
    intro fuel acc f h0 h1 h2
    obtain ⟨fu, rfl, h3⟩ := zfuel h2
    simp (disch := first | assumption | omega) only [f_X1_filesLostBy_L60, hc, zcn, zz_some, zz_lit, zz_num, zI_lt, zI_le, zI_eq, zI_nat, zz_b, if_pos, if_neg, if_true, if_false]
    simp
  | succ m ih =>
    intro fuel acc f h0 h1 h2
    obtain ⟨fu, rfl, h3⟩ := zfuel h2
    simp (disch := first | assumption | omega) only [f_X1_filesLostBy_L60, hc, zz_vwo hW hv, zz_vwo hW hw, e8_isReadable hW hv hV hn, e8_isReadable hW hw hV' hn', zcn, ih, zz_some, zz_lit, zz_num, zI_lt, zI_le, zI_eq, zI_nat, zz_b, if_pos, if_neg, if_true, if_false]
    by_cases h : nGd n f = true
    · by_cases h5 : nGd n' f = true
      · simp [h, h5, zb]
      · simp [h, h5, zb]; congr 1; omega
    · simp [h, zb]
theorem e1_filesLostBy (hW : zWF E) (hu : zU E 0 d = true) (hv : zU E 1 d = true) (hn : nW n) (hR : zRd (σ 0 d) n) {w : Nat} (hw : zU E 1 w = true) (hwd : w ≠ d) (hV : zVw (σ 1 d) n) {b : Int} (h0 : 0 ≤ b) (h1 : b < n 0) : ∃ σ', f_X1_filesLostBy (zH E σ) (zL E 0 d 0) (zI b) (zL E 1 d 0) (zL E 1 w 0) = some (zH E σ', zI (nRk n b)) ∧ zFr σ σ' 1 w := by
  have hN' := hn.1.r
  have hb := hn.2.1 b h0 (by omega)
  unfold nRk
  by_cases hk : n (7 + b) = 0
  · refine ⟨σ, ?_, zFr.rf⟩
    simp (disch := first | assumption | omega) only [f_X1_filesLostBy, zz_dco hW hu, zz_blo hW hu, e0_kindOf hW hu hR.1.1 hn.1 hn.2.1, hk, Or.inl, zz_some, zz_lit, zz_num, zI_lt, zI_le, zI_eq, zI_nat, zz_b, if_pos, if_neg, if_true, if_false]
    simp
  · by_cases hs : n (199 + b) = 1
    · refine ⟨σ, ?_, zFr.rf⟩
      simp (disch := first | assumption | omega) only [f_X1_filesLostBy, zz_dco hW hu, zz_blo hW hu, e0_kindOf hW hu hR.1.1 hn.1 hn.2.1, e0_isUnreadable' hW hu hR.1.1 hn.1 hn.2.1, hs, zz_some, zz_lit, zz_num, zI_lt, zI_le, zI_eq, zI_nat, zz_b, if_pos, if_neg, if_true, if_false]
      simp
    · have hs0 : n (199 + b) = 0 := by omega
      obtain ⟨σ1, e1⟩ : ∃ s, s = zs σ 0 d 4 b 1 := ⟨_, rfl⟩
      have hR1 : zRd (σ1 0 d) (nSh n b) := nSh_R h0 (by omega) hR hn (by rw [e1]; funext i; exact zs_at) (fun c hc => by rw [e1]; exact zs_ne (fun z => hc z.2.2))
      have hn1 := nSh_W hn h0 (b := b) (by omega)
      obtain ⟨σ2, h2, h3, h4⟩ := e8_lookAt hW hu hw hn1 hR1
      obtain ⟨σ3, e3⟩ : ∃ s, s = zs σ2 0 d 4 b 0 := ⟨_, rfl⟩
      have hrow : σ 0 d 4 b = 0 := by rw [hR.1.1.2.2.2.2.2.1 b h0 (by omega)]; exact hs0
      have h30 : σ3 0 d = σ 0 d := by
        funext c i
        subst e3
        have h5 : σ2 0 d = σ1 0 d := h3 0 d (by omega)
        by_cases hz : c = 4 ∧ i = b
        · obtain ⟨rfl, rfl⟩ := hz
          simp [zs, hrow]
        · have h6 : zs σ2 0 d 4 b 0 0 d c i = σ2 0 d c i := by simp [zs, hz]
          rw [h6, h5, e1]
          simp [zs, hz]
      have hF : zFr σ σ3 1 w := by
        intro k' d' hz
        by_cases hkd : k' = 0 ∧ d' = d
        · obtain ⟨rfl, rfl⟩ := hkd
          exact h30
        · rw [e3, zs_kd hkd, h3 k' d' hz, e1, zs_kd hkd]
      have hV3 : zVw (σ3 1 d) n := by rw [hF 1 d (by omega)]; exact hV
      have hV3' : zVw (σ3 1 w) (nSh n b) := by rw [e3, zs_kd (by omega)]; exact h4
      have hc3 : σ3 0 d 0 3 = n 2 := by rw [h30]; exact hR.2.2.2.1
      refine ⟨σ3, ?_, hF⟩
      simp (disch := first | assumption | omega) only [f_X1_filesLostBy, zz_dco hW hu, zz_blo hW hu, e0_kindOf hW hu hR.1.1 hn.1 hn.2.1, e0_isUnreadable' hW hu hR.1.1 hn.1 hn.2.1, zz_dr hW hu, zz_some, zz_lit, zz_num, zI_lt, zI_le, zI_eq, zI_nat, zz_b, if_pos, if_neg, if_true, if_false]
      rw [← e1]
      simp (disch := first | assumption | omega) only [zz_vwo hW hw, h2, zz_dco hW hu, zz_blo hW hu, zz_dr hW hu, zz_some, zz_lit, zz_num, zI_lt, zI_le, zI_eq, zI_nat, zz_b, if_pos, if_neg, if_true, if_false]
      rw [← e3, e1_filesLostBy_L hW hu hv hw hn hn1 (by unfold nSh; rw [if_neg (by omega)]) hc3 hV3 hV3' (n 2).toNat _ _ _ (by omega) (by omega) (by unfold g_N; omega)]
      simp [hk, hs]
theorem e1_useOf (hW : zWF E) (hu : zU E 0 d = true) (hv : zU E 1 d = true) (hn : nW n) (hR : zRd (σ 0 d) n) (hV : zVw (σ 1 d) n) {b : Int} (h0 : 0 ≤ b) (h1 : b < n 0) : f_X1_useOf (zH E σ) (zL E 0 d 0) (zI b) (zL E 1 d 0) = some (zI (nUs n b)) := by
  have hN' := hn.1.r
  have hb := hn.2.1 b h0 (by omega)
  simp (disch := first | assumption | omega) only [f_X1_useOf, zz_dco hW hu, zz_blo hW hu, e0_kindOf hW hu hR.1.1 hn.1 hn.2.1, zz_some, zz_lit, zz_num, zI_lt, zI_le, zI_eq, zI_nat, zz_b, if_pos, if_neg, if_true, if_false]
  unfold nUs
  rcases (by omega : n (7 + b) = 0 ∨ n (7 + b) = 1 ∨ n (7 + b) = 2 ∨ n (7 + b) = 3) with h | h | h | h
  · simp [h]
  · have hv1 := hb.2.2.2.2.2.2.2.2.1 h
    have hver := hn.2.2.1.2 (n (391 + b) - 1) (by omega) (by omega)
    have hF := nFv_rng hn (nV n (n (391 + b) - 1) 0) 12
    rw [h]
    simp (disch := first | assumption | omega) only [f_X1_useOf_J46, zz_dco hW hu, zz_blo hW hu, zz_vso hW hu, zz_vwo hW hv, e0_dataVersionOf hW hu hR.1.1 hn.1 hn.2.1, e7_fileOf hW hu hR.2.1 hn.1, e8_versionOf hW hv hV hn, zz_some, zz_lit, zz_num, zI_lt, zI_le, zI_eq, zI_nat, zz_b, if_pos, if_neg, if_true, if_false]
    split <;> rfl
  · simp [h]
  · simp [h]
theorem nUs_rng (n : zN) (b : Int) : 0 ≤ nUs n b ∧ nUs n b ≤ 4 := by
  unfold nUs
  split
  · omega
  · split
    · split <;> omega
    · split <;> omega
theorem e1_blocksUsed_L (hW : zWF E) (hu : zU E 0 d = true) (hv : zU E 1 d = true) (hn : nW n) (hR : zRd (σ 0 d) n) (hV : zVw (σ 1 d) n) {s u : Int} (hs0 : -1 ≤ s) (hs1 : s < 100) (hu0 : 0 ≤ u) (hu1 : u ≤ 4) : ∀ (m fuel : Nat) (acc b : Int), 0 ≤ b → b + m = n 0 → m < fuel → f_X1_blocksUsed_L15 fuel (zH E σ) (zL E 0 d 0) (zI s) (zI u) (zL E 1 d 0) (zI acc) (zI b) = some ((zH E σ), zI (acc + zcn (fun b => (decide (s = -1) || decide (n (295 + b) = s + 1)) && decide (nUs n b = u)) b m)) := by
  have hN' := hn.1.r
  intro m
  induction m with
  | zero =>
    intro fuel acc b h0 h1 h2
    obtain ⟨f, rfl, h3⟩ := zfuel h2
    simp (disch := first | assumption | omega) only [f_X1_blocksUsed_L15, zz_dco hW hu, zz_blo hW hu, e0_count hW hu hR.1.1 hn.1 hn.2.1, zcn, zz_some, zz_lit, zz_num, zI_lt, zI_le, zI_eq, zI_nat, zz_b, if_pos, if_neg, if_true, if_false]
    simp
  | succ m ih =>
    intro fuel acc b h0 h1 h2
    obtain ⟨f, rfl, h3⟩ := zfuel h2
    have hb := hn.2.1 b h0 (by omega)
    have hus := nUs_rng n b
    simp (disch := first | assumption | omega) only [f_X1_blocksUsed_L15, f_X1_blocksUsed_J50, zz_dco hW hu, zz_blo hW hu, e0_count hW hu hR.1.1 hn.1 hn.2.1, e0_writerOf hW hu hR.1.1 hn.1 hn.2.1, e1_useOf hW hu hv hn hR hV, zcn, ih, zz_some, zz_lit, zz_num, zI_lt, zI_le, zI_eq, zI_nat, zz_b, if_pos, if_neg, if_true, if_false]
    by_cases ha : s = -1
    · by_cases hc : nUs n b = u
      · simp [ha, hc, zb]; congr 1; omega
      · simp [ha, hc, zb]
    · by_cases hw : n (295 + b) = s + 1
      · by_cases hc : nUs n b = u
        · rw [if_neg ha, if_pos (by omega), if_pos hc]
          simp [ha, hc, hw, zb]; congr 1; omega
        · rw [if_neg ha, if_pos (by omega), if_neg hc]
          simp [ha, hc, hw, zb]
      · rw [if_neg ha, if_neg (by omega)]
        simp [ha, hw, zb]
theorem e1_blocksUsed (hW : zWF E) (hu : zU E 0 d = true) (hv : zU E 1 d = true) (hn : nW n) (hR : zRd (σ 0 d) n) {s u : Int} (hs0 : -1 ≤ s) (hs1 : s < 100) (hu0 : 0 ≤ u) (hu1 : u ≤ 4) : ∃ σ', f_X1_blocksUsed (zH E σ) (zL E 0 d 0) (zI s) (zI u) = some (zH E σ', zI (nSp n s u)) ∧ zFr σ σ' 1 d := by
  have hN' := hn.1.r
  obtain ⟨σ', h1, h2, h3⟩ := e1_look hW hu hv hn hR
  refine ⟨σ', ?_, h2⟩
  simp (disch := first | assumption | omega) only [f_X1_blocksUsed, zz_dco hW hu, zz_vwo hW hv, h1, zz_some, zz_lit, zz_num, zI_lt, zI_le, zI_eq, zI_nat, zz_b, if_pos, if_neg, if_true, if_false]
  rw [e1_blocksUsed_L hW hu hv hn (by rw [h2 0 d (by omega)]; exact hR) h3 hs0 hs1 hu0 hu1 (n 0).toNat _ _ _ (by omega) (by omega) (by unfold g_N; omega)]
  simp [nSp]
theorem e1_reasonAgainstErase (hW : zWF E) (hu : zU E 0 d = true) (hv : zU E 1 d = true) (hn : nW n) (hR : zRd (σ 0 d) n) {x : Int} (hx0 : 0 ≤ x) (hx1 : x < n 2) : ∃ σ', f_X1_reasonAgainstErase (zH E σ) (zL E 0 d 0) (zI x) = some (zH E σ', zI (nWe n x)) ∧ zFr σ σ' 1 d := by
  have hN' := hn.1.r
  obtain ⟨σ', h1, h2, h3⟩ := e1_look hW hu hv hn hR
  have hR' : zRd (σ' 0 d) n := by rw [h2 0 d (by omega)]; exact hR
  have he := nEw_rng hn x
  have hd := nDl_rng he.1 (by omega)
  have hF := nFv_rng hn x 12
  have hz : ∀ G : gH, f_X9_directoryLength G (zI (nEw n x)) = some (zI (nDl (nEw n x))) := nDl_z he.1 (by omega)
  refine ⟨σ', ?_, h2⟩
  unfold nWe
  simp (disch := first | assumption | omega) only [f_X1_reasonAgainstErase, zz_dco hW hu, zz_blo hW hu, zz_seo hW hu, zz_vwo hW hv, h1, e8_versionOf hW hv h3 hn, e5_oneMoreIsTooMany hW hu hR'.2.2.1 hn.1 hn.2.2.2, e5_entriesWith hW hu hR'.2.2.1 hn.1 hn.2.2.2, hz, e0_hasRoomFor hW hu hR'.1.1 hn.1 hn.2.1, zz_some, zz_lit, zz_num, zI_lt, zI_le, zI_eq, zI_nat, zz_b, if_pos, if_neg, if_true, if_false]
  by_cases h : nFv n x 12 = -1
  · simp [h]
  · by_cases h5 : nTm n = true
    · simp [h, h5]
    · by_cases h6 : n 4 + nDl (nEw n x) ≤ n 0 - n 1
      · simp [h, h5, h6]
      · simp [h, h5, h6]
end zCls

/-! A crash, a recovery, a scratch, the scan: in the law's world. -/
def yLo (B : gH) (e : Nat) (n : zN) : Prop := ∃ E σ, yI E σ n ∧ B = zH E σ ∧ e = zL E 5 0 0
section yU
variable {E : zE} {σ : zW} {n : zN} {cv cs : Int → Int}
/-- a session that has no directory changes its state, or loses its entries -/
theorem yI.st (h : yI E σ n) {s : Nat} (s1 : (s : Int) < n 3) (s3 : nS n s 3 = 0) {σ' : zW} {n' : zN} (hσ : ∀ k d, ¬ (k = 6 ∧ d = s) → σ' k d = σ k d) (hc : ∀ c, c ≠ 0 → σ' 6 s c = σ 6 s c) (hlo : ∀ i, i < 1255 → n' i = n i) (hS : ∀ t w : Int, 0 ≤ t → t ≠ s → 0 ≤ w → w < 25 → nS n' t w = nS n t w) (hw : ∀ w, 1 ≤ w → w ≠ 2 → w < 25 → nS n' s w = nS n s w) (h2 : nS n' s 2 = nS n s 2 ∨ nS n' s 2 = 0) (c0 : σ' 6 s 0 0 = nS n' s 0) (c2 : σ' 6 s 0 2 = nS n' s 2) (ci : ∀ i, i ≠ 0 → i ≠ 2 → σ' 6 s 0 i = σ 6 s 0 i) : yI E σ' n' := by
  obtain ⟨a0, a1, a2, a3, a4, a5, a6, a7, a8⟩ := h.ses s s1
  have hb := h.bc.2.2.2.1 s (by omega) s1
  have eL : nL n s = 0 := nL_0 s3
  have eL' : nL n' s = 0 := nL_0 (by rw [hw 3 (by omega) (by omega) (by omega)]; exact s3)
  have G := h.se (s := s) (σ' := σ') (n' := n') (cs' := fun t => nL n' t) s1 hσ hlo hS ?_ (fun j => by rw [hc 8 (by omega)]; exact h.bd.2.2.2.2 s s1 j) ⟨by rcases h2 with z | z <;> rw [z] <;> omega, fun k k0 k1 => ?_⟩ (fun t t0 ht => nL_cg (hS t 2 t0 ht (by omega) (by omega)) (hS t 3 t0 ht (by omega) (by omega)))
  · exact G.cg (fun v v0 v1 => by have := h.bc.2.2.1; rw [hlo 6 (by omega)] at v1; exact hlo _ (by omega)) (fun _ _ _ => rfl)
  · show yRs' (σ' 6 s) n' s (nL n' s)
    unfold yRs'
    rw [hc 6 (by omega), hc 8 (by omega), hw 1 (by omega) (by omega) (by omega), hw 3 (by omega) (by omega) (by omega), hw 4 (by omega) (by omega) (by omega), eL', ci 1 (by omega) (by omega), ci 3 (by omega) (by omega), ci 4 (by omega) (by omega), ci 5 (by omega) (by omega)]
    refine ⟨c0, a1, c2, a3, a4, by rw [a5, eL], fun k k0 k1 => ?_, fun k k0 k1 => by omega, fun k k0 k1 => ?_⟩
    · rw [hw _ (by omega) (by omega) (by rcases h2 with z | z <;> rw [z] at k1 <;> omega)]; exact a6 k k0 (by rcases h2 with z | z <;> rw [z] at k1 <;> omega)
    · rw [hw _ (by omega) (by omega) (by rcases h2 with z | z <;> rw [z] at k1 <;> omega)]; exact a8 k k0 (by rcases h2 with z | z <;> rw [z] at k1 <;> omega)
  · simp only [eL'] at k1; omega
theorem yl_crash (h : yI E σ n) (hn : nW n) (hy : yW n) (hop : nOp n = true) : ∃ B1 σ', g_put (zH E σ) (ySe E (nLa n)) 12 0 (.int (2 : Int32)) = some B1 ∧ g_put B1 (ySe E (nLa n)) 12 2 (.int (0 : Int32)) = some (zH E σ') ∧ yI E σ' (nCrs n) ∧ yW (nCrs n) := by
  obtain ⟨l0, l1, st, s3, ⟨e0, e1⟩, -⟩ := yOp3 hn hop
  obtain ⟨W, lo, S⟩ := nCrs_W hn hop
  have hus := h.r.us l0 l1
  obtain ⟨s, hs⟩ : ∃ s : Nat, (s : Int) = nLa n := ⟨(nLa n).toNat, by omega⟩
  have hst : (nLa n).toNat = s := by omega
  have es : ySe E (nLa n) = zL E 6 s 0 := by rw [← hst]
  rw [hst] at hus
  refine ⟨_, _, by rw [es]; exact zp_ls0 h.w hus 2, by rw [es]; exact zp_ls2 h.w hus 0, ?_, ?_⟩
  · refine h.st (s := s) (by omega) (by rw [hs]; exact s3) (fun k d hk => by rw [zs_kd hk, zs_kd hk]) (fun c hc => by rw [zs_ne (by omega), zs_ne (by omega)]) lo (fun t w t0 ht w0 w1 => by rw [S t w t0 w0 w1, if_neg (by omega), if_neg (by omega)]) (fun w w0 w2 w1 => by rw [S s w (by omega) (by omega) w1, if_neg (by omega), if_neg (by omega)]) (Or.inr (by rw [S s 2 (by omega) (by omega) (by omega), if_pos ⟨hs, rfl⟩])) ?_ ?_ (fun i i0 i2 => by rw [zs_at, if_neg i2, zs_at, if_neg i0])
    · rw [zs_at, if_neg (by omega), zs_at, if_pos rfl, S s 0 (by omega) (by omega) (by omega), if_neg (by omega), if_pos ⟨hs, rfl⟩]
    · rw [zs_at, if_pos rfl, S s 2 (by omega) (by omega) (by omega), if_pos ⟨hs, rfl⟩]
  · refine yW_mk W (by rw [lo 0 (by omega)]; exact hy.1.1) (by rw [lo 1 (by omega)]; exact hy.1.2.1) (by rw [lo 2 (by omega)]; exact hy.1.2.2) (fun t t0 t1 => ?_)
    rw [lo 3 (by omega)] at t1
    rw [S t 0 t0 (by omega) (by omega), if_neg (by omega), S t 2 t0 (by omega) (by omega)]
    by_cases z : t = nLa n
    · rw [if_pos ⟨z, rfl⟩]; omega
    · rw [if_neg (by omega), if_neg (by omega), if_neg (by omega)]; exact (hy.2 t t0 t1).2
/-- the state of a lost session is set -/
theorem yl_lost3 (h : yI E σ n) (hn : nW n) (hlo : nLo n = true) : g_put (zH E σ) (ySe E (nLa n)) 12 0 (.int (3 : Int32)) = some (zH E (zs σ 6 (nLa n).toNat 0 0 3)) ∧ yI E (zs σ 6 (nLa n).toNat 0 0 3) (zus n (nLa n) 0 3) := by
  obtain ⟨l0, st⟩ := nLo_iff.mp hlo
  have hla : nLa n = n 3 - 1 := rfl
  have l1 : nLa n < n 3 := by omega
  have b5 := (hn.2.2.2 (nLa n) l0 l1).2.2.2.2.1
  have s3 : nS n (nLa n) 3 = 0 := by
    by_cases z : 0 < nS n (nLa n) 3
    · have := b5.2.1.mp z; omega
    · have := b5.1; omega
  have hus := h.r.us l0 l1
  obtain ⟨s, hs⟩ : ∃ s : Nat, (s : Int) = nLa n := ⟨(nLa n).toNat, by omega⟩
  have hst : (nLa n).toNat = s := by omega
  have es : ySe E (nLa n) = zL E 6 s 0 := by rw [← hst]
  rw [hst] at hus ⊢
  rw [es]
  have S : ∀ t w, 0 ≤ w → w < 25 → nS (zus n (nLa n) 0 3) t w = if t = nLa n ∧ w = 0 then 3 else nS n t w := fun t w w0 w1 => nS_zus (by omega) (by omega) w0 w1
  refine ⟨zp_ls0 h.w hus 3, ?_⟩
  refine h.st (s := s) (by omega) (by rw [hs]; exact s3) (fun k d hk => by rw [zs_kd hk]) (fun c hc => by rw [zs_ne (by omega)]) (fun i hi => zus_lo l0 (by omega) hi) (fun t w t0 ht w0 w1 => by rw [S t w w0 w1, if_neg (by omega)]) (fun w w0 w2 w1 => by rw [S s w (by omega) w1, if_neg (by omega)]) (Or.inl (by rw [S s 2 (by omega) (by omega), if_neg (by omega)])) ?_ ?_ (fun i i0 i2 => by rw [zs_at, if_neg i0])
  · rw [zs_at, if_pos rfl, S s 0 (by omega) (by omega), if_pos ⟨hs, rfl⟩]
  · rw [zs_at, if_neg (by omega), S s 2 (by omega) (by omega), if_neg (by omega)]; exact (h.ses s (by omega)).2.2.1
/-- only the disc's own numbers and rows change, and no place -/
theorem yI.own (h : yI E σ n) {σ' : zW} {n' : zN} (hσ : ∀ k d, k ≠ 5 → σ' k d = σ k d) (hlo : ∀ i, i = 3 ∨ i = 4 ∨ i = 6 ∨ 487 ≤ i → n' i = n i) (e1 : yRn (σ' 5 0) n') (e2 : yRb (σ' 5 0) n') (e3 : ∀ c, c = 14 ∨ c = 15 ∨ c = 16 → σ' 5 0 c = σ 5 0 c) : yI E σ' n' := by
  obtain ⟨a1, a2, a3, a4, a5, ⟨d1, d2, d3, d4, d5⟩, ⟨b1, b2, b3, b4, b5⟩, a8, a9⟩ := h
  have hS : ∀ t w : Int, 0 ≤ t → 0 ≤ w → nS n' t w = nS n t w := fun t w t0 w0 => hlo _ (by omega)
  have eV : ∀ v w : Int, 0 ≤ v → 0 ≤ w → nV n' v w = nV n v w := fun v w v0 w0 => hlo _ (by omega)
  have p : ∀ b, 0 ≤ b → nPl n' b = nPl n b := fun b b0 => nPl_cg (hlo _ (by omega))
  have eL : ∀ t, 0 ≤ t → nL n' t = nL n t := fun t t0 => nL_cg (hS t 2 t0 (by omega)) (hS t 3 t0 (by omega))
  have l3 := hlo 3 (by omega)
  have l4 := hlo 4 (by omega)
  have l6 := hlo 6 (by omega)
  refine ⟨⟨a1.1, a1.2.1, ?_⟩, ?_, e1, e2, ?_, ⟨?_, ?_, ?_, ?_, fun t t1 j => ?_⟩, ⟨?_, ?_, ?_, fun t t0 t1 => ?_, fun u v0 v1 => ?_⟩, fun t t1 => ?_, fun u v1 => ?_⟩
  · rw [l3, l6]; exact a1.2.2
  · unfold yU; rw [l3, l6]; exact a2
  · unfold yRr; rw [e3 15 (by omega), e3 16 (by omega), l3, l6]; exact a5
  · rw [l3, l6]; exact d1
  · rw [e3 14 (by omega), l6]; exact d2
  · rw [e3 15 (by omega), l6]; exact d3
  · rw [e3 16 (by omega), l3]; exact d4
  · rw [l3] at t1
    rw [hσ 6 t (by omega), l6]; exact d5 t t1 j
  · rw [l4]; exact b1
  · rw [l3]; exact b2
  · rw [l6]; exact b3
  · rw [l3] at t1
    rw [hS t 2 t0 (by omega), hS t 3 t0 (by omega), l4]
    have := b4 t t0 t1
    exact ⟨this.1, fun k k0 k1 => this.2 k k0 (by have q := eL t t0; simp only at k1 ⊢; omega)⟩
  · rw [l6] at v1
    rw [eV u 1 v0 (by omega), l4]
    exact fun k k0 k1 => b5 u v0 v1 k k0 (by have q := eV u 2 v0 (by omega); simp only at k1 ⊢; omega)
  · rw [l3] at t1
    rw [hσ 6 t (by omega)]
    show yRs' (σ 6 t) n' t (nL n' t)
    rw [eL t (by omega)]
    have cc := b4 t (by omega) t1
    exact (a8 t t1).cg cc.1.2 (fun w w0 w1 => hS t w (by omega) w0) (fun k k0 k1 => p _ (cc.2 k k0 k1).1)
  · rw [l6] at v1
    rw [hσ 7 u (by omega)]
    show yRv' (σ 7 u) n' u (nV n' u 2)
    rw [eV u 2 (by omega) (by omega)]
    exact (a9 u v1).cg (fun w w0 w1 => eV u w (by omega) w0) (fun k k0 k1 => p _ (b5 u (by omega) v1 k k0 k1).1)
theorem yl_scratch (h : yI E σ n) {b : Int} (b0 : 0 ≤ b) (b1 : b < 96) : (n (7 + b) = 0 → g_ast 1 (zH E σ) (zL E 5 0 12) (zI b) (1 : Int32) = some (zH E (zs σ 5 0 12 b 1)) ∧ yI E (zs σ 5 0 12 b 1) (nScr n b)) ∧ (n (7 + b) ≠ 0 → g_ast 1 (zH E σ) (zL E 5 0 13) (zI b) (1 : Int32) = some (zH E (zs σ 5 0 13 b 1)) ∧ yI E (zs σ 5 0 13 b 1) (nScr n b)) := by
  have z := zz_ea (σ := σ) h.w h.u
  obtain ⟨e0, e1, e2, e3, e4, e5, e6, e7⟩ := h.blk
  refine ⟨fun hk => ?_, fun hk => ?_⟩
  · have en : nScr n b = zu n (103 + b) 1 := by unfold nScr; rw [if_pos hk]
    rw [en]
    refine ⟨?_, h.own (fun k d hk => zs_kd (by omega)) (fun i hi => zu_ne (by omega)) ?_ ⟨fun c c0 c1 => ?_, fun c c0 c1 => ?_, fun c c0 c1 => ?_, fun c c0 c1 => ?_, fun c c0 c1 => ?_, fun c c0 c1 => ?_, fun c c0 c1 => ?_, fun c c0 c1 => ?_⟩ (fun c hc => zs_ne (by omega))⟩
    · exact zAst (t := 1) (n := 96) (v := 1) h.w h.u rfl (by decide) (by decide) b0 (by omega) (by decide)
    · unfold yRn
      rw [zs_ne (by omega), zu_ne (by omega), zu_ne (by omega), zu_ne (by omega), zu_ne (by omega), zu_ne (by omega), zu_ne (by omega), zu_ne (by omega)]
      exact h.num
    · rw [zs_ne (by omega), zu_ne (by omega)]; exact e0 c c0 c1
    · rw [zs_ne (by omega), zu_ne (by omega)]; exact e1 c c0 c1
    · rw [zs_ne (by omega), zu_ne (by omega)]; exact e2 c c0 c1
    · rw [zs_ne (by omega), zu_ne (by omega)]; exact e3 c c0 c1
    · rw [zs_ne (by omega), zu_ne (by omega)]; exact e4 c c0 c1
    · rw [zs_at]; unfold zu; by_cases q : c = b
      · rw [if_pos q, if_pos (by omega)]
      · rw [if_neg q, if_neg (by omega)]; exact e5 c c0 c1
    · rw [zs_ne (by omega), zu_ne (by omega)]; exact e6 c c0 c1
    · rw [zs_ne (by omega), zu_ne (by omega)]; exact e7 c c0 c1
  · have en : nScr n b = zu n (199 + b) 1 := by unfold nScr; rw [if_neg hk]
    rw [en]
    refine ⟨?_, h.own (fun k d hk => zs_kd (by omega)) (fun i hi => zu_ne (by omega)) ?_ ⟨fun c c0 c1 => ?_, fun c c0 c1 => ?_, fun c c0 c1 => ?_, fun c c0 c1 => ?_, fun c c0 c1 => ?_, fun c c0 c1 => ?_, fun c c0 c1 => ?_, fun c c0 c1 => ?_⟩ (fun c hc => zs_ne (by omega))⟩
    · exact zAst (t := 1) (n := 96) (v := 1) h.w h.u rfl (by decide) (by decide) b0 (by omega) (by decide)
    · unfold yRn
      rw [zs_ne (by omega), zu_ne (by omega), zu_ne (by omega), zu_ne (by omega), zu_ne (by omega), zu_ne (by omega), zu_ne (by omega), zu_ne (by omega)]
      exact h.num
    · rw [zs_ne (by omega), zu_ne (by omega)]; exact e0 c c0 c1
    · rw [zs_ne (by omega), zu_ne (by omega)]; exact e1 c c0 c1
    · rw [zs_ne (by omega), zu_ne (by omega)]; exact e2 c c0 c1
    · rw [zs_ne (by omega), zu_ne (by omega)]; exact e3 c c0 c1
    · rw [zs_ne (by omega), zu_ne (by omega)]; exact e4 c c0 c1
    · rw [zs_ne (by omega), zu_ne (by omega)]; exact e5 c c0 c1
    · rw [zs_at]; unfold zu; by_cases q : c = b
      · rw [if_pos q, if_pos (by omega)]
      · rw [if_neg q, if_neg (by omega)]; exact e6 c c0 c1
    · rw [zs_ne (by omega), zu_ne (by omega)]; exact e7 c c0 c1
theorem yl_scan (h : yI E σ n) (w : Int) : g_put (zH E σ) (zL E 5 0 0) 10 6 (.int (zI w)) = some (zH E (zs σ 5 0 0 6 w)) ∧ yI E (zs σ 5 0 0 6 w) (zu n 5 w) := by
  refine ⟨zp_ld6 h.w h.u w, h.own (fun k d hk => zs_kd (by omega)) (fun i hi => zu_ne (by omega)) ?_ (h.blk.lo (fun i _ _ => zu_ne (by omega)) (fun c _ _ => zs_ne (by omega))) (fun c hc => zs_ne (by omega))⟩
  obtain ⟨r0, r1, r2, r3, r4, r5, r6⟩ := h.num
  unfold yRn
  rw [zs_at, zs_at, zs_at, zs_at, zs_at, zs_at, zs_at, zu_ne (by omega), zu_ne (by omega), zu_ne (by omega), zu_ne (by omega), zu_ne (by omega), zu_ne (by omega), zu_eq rfl]
  exact ⟨by rw [if_neg (by omega)]; exact r0, by rw [if_neg (by omega)]; exact r1, by rw [if_neg (by omega)]; exact r2, by rw [if_neg (by omega)]; exact r3, by rw [if_neg (by omega)]; exact r4, by rw [if_neg (by omega)]; exact r5, by rw [if_pos rfl]⟩
theorem yW.lo {n' : zN} (hy : yW n) (hlo : ∀ i, i = 0 ∨ i = 1 ∨ i = 2 ∨ i = 3 ∨ 1255 ≤ i → n' i = n i) : yW n' := by
  have hS : ∀ t w : Int, 0 ≤ t → 0 ≤ w → nS n' t w = nS n t w := fun t w t0 w0 => hlo _ (by omega)
  unfold yW
  rw [hlo 0 (by omega), hlo 1 (by omega), hlo 2 (by omega), hlo 3 (by omega)]
  exact ⟨hy.1, fun s s0 s1 => by rw [hS s 2 s0 (by omega), hS s 0 s0 (by omega)]; exact hy.2 s s0 s1⟩
end yU
/-- entering a list of versions -/
def nEl (n0 : zN) : zN → List Int → zN
  | n, [] => n
  | n, v :: L => nEl n0 (nE1 n (nV n0 v 0) v) L
theorem nEl_app (n0 : zN) : ∀ (L : List Int) (n : zN) (M : List Int), nEl n0 n (L ++ M) = nEl n0 (nEl n0 n L) M := by
  intro L
  induction L with
  | nil => intro n M; rfl
  | cons v L ih => intro n M; exact ih _ M
theorem nRl_snoc (P : Int → Bool) (fl : Int → Int) : ∀ (m : Nat) (n : zN) (v : Int), nRl P fl n v (m + 1) = if P (v + m) = true then nE1 (nRl P fl n v m) (fl (v + m)) (v + m) else nRl P fl n v m := by
  intro m
  induction m with
  | zero => intro n v; simp [nRl]
  | succ m ih =>
    intro n v
    show nRl P fl (if P v = true then nE1 n (fl v) v else n) (v + 1) (m + 1) = _
    rw [ih, show v + 1 + (m : Int) = v + ((m + 1 : Nat) : Int) by omega]
    rfl
theorem nRl_El (P : Int → Bool) (n0 n : zN) : ∀ m : Nat, nRl P (fun v => nV n0 v 0) n 0 m = nEl n0 n (nCll P m) := by
  intro m
  induction m with
  | zero => rfl
  | succ m ih =>
    rw [nRl_snoc, ih]
    simp only [nCll, Int.zero_add]
    split
    · rw [nEl_app]; rfl
    · rfl


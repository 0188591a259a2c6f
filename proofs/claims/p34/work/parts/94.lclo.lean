/-! Closing a session. -/
section yQ
variable {E : zE} {σ : zW} {n : zN} {cv cs : Int → Int}
theorem yl_L65 {M : Int} {s : Nat} (M3 : M ≤ 3) {cs : Int → Int} : ∀ (m fuel : Nat) (k : Int) (σ : zW) (n : zN), yG E σ n cv (fun u => if u = s then k else cs u) → nWn n → nWb n → n 4 + m ≤ n 0 - n 1 → nBc n m ≤ nGc n → 0 ≤ k → k + m = M → nS n s 3 - 1 + k = n 4 → 0 < nS n s 3 → nL n s = M → nLa n = s → m < fuel → ∃ σ', f_X10_close_L65 fuel (zH E σ) (zL E 5 0 0) (some (zL E 6 s 0)) (zI k) = some (zH E σ') ∧ yG E σ' (zus (nWl 2 s (-1) n k m) s 0 1) cv (fun u => if u = s then M else cs u) := by
  intro m
  induction m with
  | zero =>
    intro fuel k σ n h hN hB _ _ k0 kM hV h3 hL hla hf
    cases fuel with
    | zero => omega
    | succ fuel =>
    have hN' := hN.r
    have s1 : (s : Int) < n 3 := by unfold nLa at hla; omega
    have hus := h.2.1.2.1 s s1
    have hr := h.ses s s1
    have e5 : σ 6 s 0 5 = M := by rw [hr.2.2.2.2.2.1, hL]
    obtain rfl : k = M := by omega
    refine ⟨zs σ 6 s 0 0 1, ?_, ?_⟩
    · unfold f_X10_close_L65
      simp (disch := first | assumption | omega) only [zg_ls5 h.w hus, e5, zz_some, zz_nul, zz_lit, zz_num, zI_lt, zI_le, zI_eq, zI_nat, zz_b, if_pos, if_neg, if_true, if_false]
      rw [zp_ls0 h.w hus 1]; rfl
    · have hb := h.bc.2.2.2.1 s (by omega) s1
      have hS : ∀ t w, 0 ≤ w → w < 25 → nS (zus n s 0 1) t w = if t = s ∧ w = 0 then 1 else nS n t w := fun t w w0 w1 => nS_zus (by omega) (by omega) w0 w1
      have eL : nL (zus n s 0 1) s = nL n s := nL_cg (by rw [hS s 2 (by omega) (by omega), if_neg (by omega)]) (by rw [hS s 3 (by omega) (by omega), if_neg (by omega)])
      refine h.se (s := s) s1 (fun K d hk => zs_kd hk) (fun i hi => zus_lo (by omega) (by omega) hi) (fun t w t0 ht w0 w1 => by rw [show nWl 2 s (-1) n k 0 = n from rfl, hS t w w0 w1, if_neg (by omega)]) ?_ (fun j => by rw [zs_ne (by omega)]; exact h.bd.2.2.2.2 s s1 j) ?_ (fun t _ ht => by simp only [if_neg ht])
      · simp only [if_true] at hr ⊢
        obtain ⟨a0, a1, a2, a3, a4, a5, a6, a7, a8⟩ := hr
        show yRs' _ (zus n s 0 1) s k
        unfold yRs'
        rw [hS s 0 (by omega) (by omega), hS s 1 (by omega) (by omega), hS s 2 (by omega) (by omega), hS s 3 (by omega) (by omega), hS s 4 (by omega) (by omega), eL, if_pos ⟨rfl, rfl⟩, if_neg (by omega), if_neg (by omega), if_neg (by omega), if_neg (by omega)]
        simp only [zs_at]
        refine ⟨rfl, by rw [if_neg (by omega)]; exact a1, by rw [if_neg (by omega)]; exact a2, by rw [if_neg (by omega)]; exact a3, by rw [if_neg (by omega)]; exact a4, by rw [if_neg (by omega)]; exact a5, fun j j0 j1 => ?_, fun j j0 j1 => ?_, fun j j0 j1 => ?_⟩
        · rw [zs_ne (by omega), hS s _ (by omega) (by omega), if_neg (by omega)]; exact a6 j j0 j1
        · rw [zs_ne (by omega), nPl_cg (zus_lo (by omega) (by omega) (by have := hb.2 j j0; simp only [if_true] at this; have := this j1; omega))]; exact a7 j j0 j1
        · rw [zs_ne (by omega), hS s _ (by omega) (by omega), if_neg (by omega)]; exact a8 j j0 j1
      · show (0 ≤ nS (zus n s 0 1) s 2 ∧ nS (zus n s 0 1) s 2 ≤ 10) ∧ _
        refine ⟨?_, fun j j0 j1 => ?_⟩
        · rw [hS s 2 (by omega) (by omega), if_neg (by omega)]; exact hb.1
        · show 0 ≤ nS (zus n s 0 1) s 3 - 1 + j ∧ nS (zus n s 0 1) s 3 - 1 + j < n 4
          rw [hS s 3 (by omega) (by omega), if_neg (by omega)]; exact hb.2 j j0 j1
  | succ m ih =>
    intro fuel k σ n h hN hB hr hc k0 kM hV h3 hL hla hf
    cases fuel with
    | zero => omega
    | succ fuel =>
    have hN' := hN.r
    have s1 : (s : Int) < n 3 := by unfold nLa at hla; omega
    have hus := h.2.1.2.1 s s1
    have hrs := h.ses s s1
    have e5 : σ 6 s 0 5 = M := by rw [hrs.2.2.2.2.2.1, hL]
    have hu := h.u
    obtain ⟨c1, c2, c3, c4, c5, c6, c7⟩ := nBc_step hN hB (kind := 2) (se := s) (v := -1) (k := k) (m := m) (by omega) hc (Or.inr rfl) (by omega) s1 (by omega) (by omega) (by omega) k0 (by omega)
    obtain ⟨τ, b1, b2, b3, b4, b5, b6⟩ := yl_burn_n h.w hu hN hB h.num h.blk (kind := 2) (k := k) (by omega) c1
    rw [hla] at b1 b2 b3
    have G1 : yG E τ (nWrB n 2 s (-1) k) cv (fun u => if u = s then k else cs u) := h.wr (v := -1) (by omega) (by omega) (fun i i4 hi => c7 i i4 (by omega)) c6 (by omega) (nWrB_679 hN hB (by omega) c1) b2 b3 b4 b5 b6
    have e3 : nWrB n 2 s (-1) k 3 = n 3 := c7 3 (by omega) (by omega)
    have eS : ∀ w, 0 ≤ w → nS (nWrB n 2 s (-1) k) s w = nS n s w := fun w w0 => c7 _ (by omega) (by omega)
    have eL : nL (nWrB n 2 s (-1) k) s = nL n s := nL_cg (eS 2 (by omega)) (eS 3 (by omega))
    have G2 := G1.ks (s := s) (by rw [e3]; exact s1) (by simp only [if_true]; omega) (by simp only [if_true]; rw [eS 3 (by omega), c6]; omega)
    simp only [if_true] at G2
    rw [eS 3 (by omega), hV] at G2
    have G3 : yG E (zs τ 6 s 7 k (nPl (nWrB n 2 s (-1) k) (n 4))) (nWrB n 2 s (-1) k) cv (fun u => if u = s then k + 1 else cs u) := G2.cg (fun _ _ _ => rfl) (fun u _ _ => by by_cases z : u = s <;> simp [z])
    obtain ⟨σ', x1, x2⟩ := ih fuel (k + 1) _ _ G3 c2 c3 c4 c5 (by omega) (by omega) (by rw [eS 3 (by omega), c6]; omega) (by rw [eS 3 (by omega)]; exact h3) (by rw [eL]; exact hL) (by unfold nLa; rw [e3]; exact hla) (by omega)
    refine ⟨σ', ?_, x2⟩
    unfold f_X10_close_L65
    simp (disch := first | assumption | omega) only [zg_ls5 h.w hus, e5, (zz_lso h.w hus).2.1, zz_ldo h.w hu, b1, zz_some, zz_nul, zz_lit, zz_num, zI_lt, zI_le, zI_eq, zI_nat, zz_b, if_pos, if_neg, if_true, if_false]
    rw [(zz_ga (σ := τ) h.w hus).2.2.2.2.1 k _ k0 (by omega), zz_some]
    exact x1
theorem yl_L28 (hW : zWF E) (hu : zU E 5 0 = true) {s : Nat} (hus : zU E 6 s = true) (s12 : s < 12) {n : zN} : ∀ (t fuel : Nat) (σ : zW), t ≤ s → σ 6 s 0 4 = -1 → (∀ u : Nat, u < s → σ 5 0 16 u = (u : Int) + 1 ∧ zU E 6 u = true ∧ σ 6 u 0 0 = nS n u 0 ∧ (0 ≤ nS n u 0 ∧ nS n u 0 ≤ 3)) → t + 2 ≤ fuel → f_X10_close_L28 fuel (zH E σ) (zL E 5 0 0) (some (zL E 6 s 0)) (zI (t - 1)) = f_X10_close_L65 g_N (zH E (zs σ 6 s 0 4 (zls (fun t => decide (nS n t 0 = 1)) t))) (zL E 5 0 0) (some (zL E 6 s 0)) (zI 0) := by
  intro t
  induction t with
  | zero =>
    intro fuel σ _ h4 hR hf
    cases fuel with
    | zero => omega
    | succ fuel =>
    unfold f_X10_close_L28
    rw [show ((0 : Nat) : Int) - 1 = -1 from rfl]
    simp (disch := first | assumption | omega) only [zz_some, zz_nul, zz_lit, zz_num, zI_lt, zI_le, zI_eq, zI_nat, zz_b, if_pos, if_neg, if_true, if_false]
    rw [show zls (fun t => decide (nS n t 0 = 1)) 0 = -1 from rfl, zs_self h4]
  | succ t ih =>
    intro fuel σ ht h4 hR hf
    cases fuel with
    | zero => omega
    | succ fuel =>
    obtain ⟨r1, r2, r3, r4⟩ := hR t (by omega)
    unfold f_X10_close_L28
    rw [show ((t + 1 : Nat) : Int) - 1 = (t : Int) by omega]
    have z16 : g_rald 5 (zH E σ) (zL E 5 0 16) (zI t) = some (some (zL E 6 t 0)) := by
      have := zRald5 (σ := σ) hW hu (rfl : zA 5 16 = some (5, 12)) (by decide) (i := (t : Int)) (by omega) (by omega)
      rw [this, r1, if_neg (by omega)]
      simp
    have o16 : g_r (zH E σ) (zL E 5 0 0) 10 16 = some (zL E 5 0 16) := by simp only [zz_ldo hW hu]
    have l4 : g_i (zH E σ) (zL E 6 s 0) 12 4 = some (zI (-1)) := by rw [zg_ls4 hW hus, h4]
    have l0 : g_i (zH E σ) (zL E 6 t 0) 12 0 = some (zI (nS n t 0)) := by rw [zg_ls0 hW r2, r3]
    have hzl : zls (fun t => decide (nS n t 0 = 1)) (t + 1) = if decide (nS n t 0 = 1) = true then (t : Int) else zls (fun t => decide (nS n t 0 = 1)) t := rfl
    by_cases z : nS n t 0 = 1
    · rw [if_pos (by simp [z])] at hzl
      rw [hzl]
      simp (disch := first | assumption | omega) only [l4, o16, z16, l0, z, zp_ls4 hW hus, zz_some, zz_nul, zz_lit, zz_num, zI_lt, zI_le, zI_eq, zI_nat, zz_b, if_pos, if_neg, if_true, if_false]
      cases fuel with
      | zero => omega
      | succ fuel =>
      unfold f_X10_close_L28
      by_cases t0 : t = 0
      · subst t0
        simp (disch := first | assumption | omega) only [zz_some, zz_nul, zz_lit, zz_num, zI_lt, zI_le, zI_eq, zI_nat, zz_b, if_pos, if_neg, if_true, if_false]
      · have l4' : g_i (zH E (zs σ 6 s 0 4 t)) (zL E 6 s 0) 12 4 = some (zI t) := by rw [zg_ls4 hW hus, zs_at, if_pos rfl]
        simp (disch := first | assumption | omega) only [l4', zz_some, zz_nul, zz_lit, zz_num, zI_lt, zI_le, zI_eq, zI_nat, zz_b, if_pos, if_neg, if_true, if_false]
    · rw [if_neg (by simp [z])] at hzl
      rw [hzl]
      simp (disch := first | assumption | omega) only [l4, o16, z16, l0, zz_some, zz_nul, zz_lit, zz_num, zI_lt, zI_le, zI_eq, zI_nat, zz_b, if_pos, if_neg, if_true, if_false]
      rw [show (t : Int) + -1 = t - 1 by omega]
      exact ih fuel σ (by omega) h4 (fun u hu => hR u hu) (by omega)
theorem yl_close (h : yI E σ n) (hn : nW n) (hy : yW n) (hw : nWc n = 0) : ∃ σ', f_X10_close (zH E σ) (zL E 5 0 0) = some (zH E σ') ∧ yI E σ' (nCl n) ∧ yW (nCl n) := by
  obtain ⟨hop, hd⟩ := nWc_0 hw
  obtain ⟨⟨C1, C2, C3, C4, C5, C6⟩, W, CS, C7, C8⟩ := nCl_W hn hw
  have hN := hn.1.r
  obtain ⟨l0, l1, st, s3, ⟨e0, e1⟩, -⟩ := yOp3 hn hop
  have hb1 := (hn.2.2.2 (nLa n) l0 l1)
  have ent := hy.2 (nLa n) l0 l1
  have hent1 := ent.2 (Or.inl st)
  have hus := h.r.us l0 l1
  have hW := h.w
  have hu := h.u
  obtain ⟨s, hs⟩ : ∃ s : Nat, (s : Int) = nLa n := ⟨(nLa n).toNat, by omega⟩
  have hst : (nLa n).toNat = s := by omega
  obtain ⟨r0, r1, r2, r3, r4, r5, r6⟩ := h.num
  have hrs := h.ses s (by omega)
  rw [hs] at hrs
  obtain ⟨a0, a1, a2, a3, a4, a5, a6, a7, a8⟩ := hrs
  have s4 : nS n (nLa n) 4 = 0 := by rw [hb1.2.2.2.2.2.1, if_neg (by omega)]
  obtain ⟨τ, hτ⟩ : ∃ τ, τ = zs (zs σ 6 s 0 3 (n 4)) 6 s 0 5 (nDl (nS n (nLa n) 2)) := ⟨_, rfl⟩
  have t0 : ∀ i, τ 6 s 0 i = if i = 5 then nDl (nS n (nLa n) 2) else if i = 3 then n 4 else σ 6 s 0 i := fun i => by rw [hτ, zs_at, zs_at]
  have tk : ∀ k d c, ¬ (k = 6 ∧ d = s ∧ c = 0) → τ k d c = σ k d c := fun k d c hk => by rw [hτ, zs_ne (by omega), zs_ne (by omega)]
  have hL28 := yl_L28 hW hu (s := s) (by rw [← hst]; exact hus) (by omega) (n := n) s g_N τ (Nat.le_refl _) (by rw [t0, if_neg (by omega), if_neg (by omega), a4, s4]; rfl) (fun u hu1 => by
    have q := hn.2.2.2 u (by omega) (by omega)
    refine ⟨?_, h.2.1.2.1 u (by omega), ?_, q.1⟩
    · rw [tk 5 0 16 (by omega)]; exact h.rws.2 u (by omega) (by omega)
    · rw [tk 6 u 0 (by omega)]; exact (h.ses u (by omega)).1) (by unfold g_N; omega)
  rw [hs] at hL28
  have hcb : zls (fun t => decide (nS n t 0 = 1)) s = nCb n (nLa n) := by unfold nCb; rw [hst]
  rw [hcb] at hL28
  -- the state with the numbers set
  have l0' : ∀ i, i < 1255 → nCl0 n i = n i := C3
  have S0 : ∀ t w, 0 ≤ w → w < 25 → nS (nCl0 n) t w = if t = nLa n ∧ w = 4 then nCb n (nLa n) + 1 else if t = nLa n ∧ w = 3 then n 4 + 1 else nS n t w := fun t w w0 w1 => by
    unfold nCl0
    rw [nS_zus (by omega) (by omega) w0 w1, nS_zus (by omega) (by omega) w0 w1]
  have eL : nL (nCl0 n) (nLa n) = nDl (nS n (nLa n) 2) := by
    have w3 : nS (nCl0 n) (nLa n) 3 = n 4 + 1 := by rw [S0 _ 3 (by omega) (by omega), if_neg (by omega), if_pos ⟨rfl, rfl⟩]
    have w2 : nS (nCl0 n) (nLa n) 2 = nS n (nLa n) 2 := by rw [S0 _ 2 (by omega) (by omega), if_neg (by omega), if_neg (by omega)]
    unfold nL
    rw [w3, w2, if_pos (by omega)]
  have G0 : yG E (zs τ 6 s 0 4 (nCb n (nLa n))) (nCl0 n) (fun v => nV n v 2) (fun u => if u = s then 0 else nL n u) := by
    refine h.se (s := s) (by omega) (fun k d hk => by rw [zs_kd hk, hτ, zs_kd hk, zs_kd hk]) l0' (fun t w t0 ht w0 w1 => by rw [S0 t w w0 w1, if_neg (by omega), if_neg (by omega)]) ?_ (fun j => by rw [zs_ne (by omega), tk 6 s 8 (by omega)]; exact h.bd.2.2.2.2 s (by omega) j) ?_ (fun t _ ht => if_neg ht)
    · simp only [if_true]
      rw [hs]
      unfold yRs'
      rw [eL, S0 _ 0 (by omega) (by omega), S0 _ 1 (by omega) (by omega), S0 _ 2 (by omega) (by omega), S0 _ 3 (by omega) (by omega), S0 _ 4 (by omega) (by omega), if_neg (by omega), if_neg (by omega), if_neg (by omega), if_neg (by omega), if_neg (by omega), if_neg (by omega), if_neg (by omega), if_pos ⟨rfl, rfl⟩, if_pos ⟨rfl, rfl⟩]
      simp only [zs_at]
      refine ⟨by rw [if_neg (by omega), t0, if_neg (by omega), if_neg (by omega)]; exact a0, by rw [if_neg (by omega), t0, if_neg (by omega), if_neg (by omega)]; exact a1, by rw [if_neg (by omega), t0, if_neg (by omega), if_neg (by omega)]; exact a2, by rw [if_neg (by omega), t0, if_neg (by omega), if_pos rfl]; omega, by rw [if_pos trivial]; omega, by rw [if_neg (by omega), t0, if_pos rfl], fun j j0 j1 => ?_, fun j j0 j1 => by omega, fun j j0 j1 => ?_⟩
      · rw [zs_ne (by omega), tk 6 s 6 (by omega), S0 _ _ (by omega) (by omega), if_neg (by omega), if_neg (by omega)]; exact a6 j j0 j1
      · rw [zs_ne (by omega), tk 6 s 8 (by omega), S0 _ _ (by omega) (by omega), if_neg (by omega), if_neg (by omega)]; exact a8 j j0 j1
    · simp only [if_true]
      refine ⟨?_, fun k k0 k1 => by omega⟩
      rw [hs, S0 _ 2 (by omega) (by omega), if_neg (by omega), if_neg (by omega)]; omega
  obtain ⟨σ', x1, x2⟩ := yl_L65 (E := E) (cv := fun v => nV n v 2) (M := nDl (nS n (nLa n) 2)) (s := s) (by omega) (cs := fun s => nL n s) (nDl (nS n (nLa n) 2)).toNat g_N 0 _ _ G0 C1 C2 (by rw [l0' 4 (by omega), l0' 0 (by omega), l0' 1 (by omega)]; omega) (by rw [nBc_ag (fun i h7 h8 => l0' i (by omega)) (l0' 4 (by omega)) (by omega) (by omega), nGc_ag (fun i h7 h8 => l0' i (by omega)) (l0' 0 (by omega)) (l0' 1 (by omega)) hn.1]; exact C4) (by omega) (by omega) (by rw [hs, S0 _ 3 (by omega) (by omega), if_neg (by omega), if_pos ⟨rfl, rfl⟩, l0' 4 (by omega)]; omega) (by rw [hs, S0 _ 3 (by omega) (by omega), if_neg (by omega), if_pos ⟨rfl, rfl⟩]; omega) (by rw [hs]; exact eL) (by unfold nLa at hs ⊢; rw [l0' 3 (by omega)]; omega) (by unfold g_N; omega)
  refine ⟨σ', ?_, ?_, ?_⟩
  · have hz : g_ob (zH E σ) (zL E 5 0 0) 10 = some () := by simp only [zz_ldo hW hu]
    have hz2 : ∀ τ, g_ob (zH E τ) (ySe E (nLa n)) 12 = some () := fun τ => (zz_lso (σ := τ) hW hus).2.2.2
    have y3 : ∀ v, g_put (zH E σ) (ySe E (nLa n)) 12 3 (.int (zI v)) = some (zH E (zs σ 6 s 0 3 v)) := fun v => by rw [← hst]; exact zp_ls3 hW hus v
    have y2 : g_i (zH E (zs σ 6 s 0 3 (n 4))) (ySe E (nLa n)) 12 2 = some (zI (nS n (nLa n) 2)) := by rw [zg_ls2 hW hus, hst, zs_at, if_neg (by omega), a2]
    have y5 : ∀ v, g_put (zH E (zs σ 6 s 0 3 (n 4))) (ySe E (nLa n)) 12 5 (.int (zI v)) = some (zH E (zs (zs σ 6 s 0 3 (n 4)) 6 s 0 5 v)) := fun v => by rw [← hst]; exact zp_ls5 hW hus v
    have y4 : g_i (zH E τ) (zL E 5 0 0) 10 4 = some (zI (n 3)) := by rw [zg_ld4 hW hu, tk 5 0 0 (by omega), r4]
    unfold f_X10_close
    rw [hz, yl_open hW h.r hn, hop]
    simp (disch := first | assumption | omega) only [zg_ld3 hW hu, r3, y3, hz2, f_X12_size, y2, zI_div, zz_some, zz_nul, zz_lit, zz_num, zI_lt, zI_le, zI_eq, zI_nat, zz_b, if_pos, if_neg, if_true, if_false]
    rw [nDl_div hent1, y5]
    simp (disch := first | assumption | omega) only [zz_some, zz_nul, zz_lit, zz_num, zI_lt, zI_le, zI_eq, zI_nat, zz_b, if_pos, if_neg, if_true, if_false]
    rw [← hτ, y4]
    simp (disch := first | assumption | omega) only [zz_some, zz_nul, zz_lit, zz_num, zI_lt, zI_le, zI_eq, zI_nat, zz_b, if_pos, if_neg, if_true, if_false]
    rw [show n 3 - 2 = nLa n - 1 by unfold nLa; omega, show ySe E (nLa n) = zL E 6 s 0 by rw [← hst], hL28]
    exact x1
  · have eCl : nCl n = zus (nWl 2 s (-1) (nCl0 n) 0 (nDl (nS n (nLa n) 2)).toNat) s 0 1 := by unfold nCl; rw [hs]
    rw [← eCl] at x2
    have c6 := C8 6 (by omega) (by omega)
    have c3 := C8 3 (by omega) (by omega)
    refine x2.cg (fun v v0 v1 => ?_) (fun t t0 t1 => ?_)
    · rw [c6] at v1
      exact C8 _ (by omega) (by omega)
    · show nL (nCl n) t = _
      by_cases z : t = s
      · rw [if_pos z, z, hs]
        have w3 : nS (nCl n) (nLa n) 3 = n 4 + 1 := by rw [CS _ 3 l0 (by omega) (by omega), if_neg (by omega), if_neg (by omega), if_pos ⟨rfl, rfl⟩]
        have w2 : nS (nCl n) (nLa n) 2 = nS n (nLa n) 2 := by rw [CS _ 2 l0 (by omega) (by omega), if_neg (by omega), if_neg (by omega), if_neg (by omega)]
        unfold nL
        rw [w3, w2, if_pos (by omega)]
      · rw [if_neg z]
        exact nL_cg (by rw [CS t 2 t0 (by omega) (by omega), if_neg (by omega), if_neg (by omega), if_neg (by omega)]) (by rw [CS t 3 t0 (by omega) (by omega), if_neg (by omega), if_neg (by omega), if_neg (by omega)])
  · refine yW_mk W (by rw [C8 0 (by omega) (by omega)]; exact hy.1.1) (by rw [C8 1 (by omega) (by omega)]; exact hy.1.2.1) (by rw [C8 2 (by omega) (by omega)]; exact hy.1.2.2) (fun t t0 t1 => ?_)
    rw [C8 3 (by omega) (by omega)] at t1
    rw [CS t 2 t0 (by omega) (by omega), if_neg (by omega), if_neg (by omega), if_neg (by omega), CS t 0 t0 (by omega) (by omega)]
    by_cases z : t = nLa n
    · intro _; rw [z]; exact hent1
    · rw [if_neg (by omega), if_neg (by omega), if_neg (by omega)]; exact (hy.2 t t0 t1).2
end yQ


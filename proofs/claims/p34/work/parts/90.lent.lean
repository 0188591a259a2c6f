/-! An entry; writing a file. -/
theorem gj_n (G : gH) : gj G (fun _ => none) = G := by funext a; unfold gj; cases G a <;> rfl
theorem gd_n (G : gH) : gd G (fun _ => none) := fun _ => Or.inr rfl
section yL
variable {E : zE} {σ : zW} {n : zN} {cv cs : Int → Int}
theorem nL_0 {n : zN} {s : Int} (h : nS n s 3 = 0) : nL n s = 0 := by unfold nL; rw [if_neg (by omega)]
/-- a session's status is open: it has no directory -/
theorem yOp3 (hn : nW n) (hop : nOp n = true) : 0 ≤ nLa n ∧ nLa n < n 3 ∧ nS n (nLa n) 0 = 0 ∧ nS n (nLa n) 3 = 0 ∧ (0 ≤ nS n (nLa n) 2 ∧ nS n (nLa n) 2 ≤ n 2) ∧ (nEn n (nLa n) = nEn n (nLa n)) := by
  obtain ⟨h3, hst⟩ := nOp_iff.mp hop
  have hla : nLa n = n 3 - 1 := rfl
  have hs := hn.2.2.2 (nLa n) h3 (by omega)
  have hN := hn.1.r
  have hent := hn.2.2.2.ent hn.1 h3 (by omega : nLa n < n 3)
  refine ⟨h3, by omega, hst, ?_, ⟨hent.1, hent.2⟩, rfl⟩
  by_cases h : 0 < nS n (nLa n) 3
  · have := hs.2.2.2.2.1.2.1.mp h; omega
  · have := hs.2.2.2.2.1.1; omega
theorem nEn_9 (hn : nW n) (hop : nOp n = true) {f : Int} (f0 : 0 ≤ f) (f1 : f < n 2) (z : nEn n (nLa n) f = -1) : nS n (nLa n) 2 ≤ n 2 - 1 := by
  have hs := hn.2.2.2 (nLa n) (yOp3 hn hop).1 (yOp3 hn hop).2.1
  have hN := hn.1.r
  have h5 := zcn_one (P := fun g => decide (nEn n (nLa n) g ≠ -1)) (Q := fun g => decide (nEn n (nLa n) g ≠ -1) || decide (g = f)) (j := f) (n 2).toNat 0 f0 (by omega) (by simp [z]) (by simp) (fun g hg _ _ => by simp [hg])
  have h6 := (zcn_rng (fun g => decide (nEn n (nLa n) g ≠ -1) || decide (g = f)) (n 2).toNat 0).2
  have h7 := hs.2.2.2.1.2
  omega
/-- the row after an entry -/
def yEn (σ : zW) (s : Nat) (e k f v : Int) : zW := zs (zs (zs σ 6 s 0 2 (max e (k + 1))) 6 s 6 k f) 6 s 8 k (v + 1)
theorem yG.en (h : yI E σ n) (hn : nW n) (hop : nOp n = true) {f v : Int} (f0 : 0 ≤ f) (f1 : f < n 2) (v0 : -1 ≤ v) (v1 : v < n 6) : ∃ k, 0 ≤ k ∧ k ≤ 9 ∧ (nEn n (nLa n) f = -1 → k = nS n (nLa n) 2) ∧ (nEn n (nLa n) f ≠ -1 → k = nEn n (nLa n) f ∧ k < nS n (nLa n) 2) ∧ yI E (yEn σ (nLa n).toNat (nS n (nLa n) 2) k f v) (nE1 n f v) := by
  obtain ⟨l0, l1, st, s3, ⟨e0, e1⟩, -⟩ := yOp3 hn hop
  have hN := hn.1.r
  obtain ⟨k, k0, k9, kn, ky, eS⟩ := nE1_S (n := n) f v e0 (fun z => by have := nEn_9 hn hop f0 f1 z; omega) (by omega)
  refine ⟨k, k0, k9, kn, ky, ?_⟩
  obtain ⟨s, hs⟩ : ∃ s : Nat, (s : Int) = nLa n := ⟨(nLa n).toNat, by omega⟩
  rw [← hs] at eS l0 l1 st s3 e0 e1 kn ky ⊢
  rw [show ((s : Int)).toNat = s from rfl]
  have hlo : ∀ i, i < 1255 → nE1 n f v i = n i := fun i hi => nE1_lo (by omega) (by rw [← hs]; exact e0) hi
  have hoth : ∀ t w : Int, t ≠ s → 0 ≤ w → w < 25 → nS (nE1 n f v) t w = nS n t w := fun t w ht w0 w1 => by
    rw [eS t w w0 w1, if_neg (by omega), if_neg (by omega), if_neg (by omega)]
  have w013 : ∀ w, w = 0 ∨ w = 1 ∨ w = 3 ∨ w = 4 → nS (nE1 n f v) s w = nS n s w := fun w hw => by
    rw [eS _ w (by omega) (by omega), if_neg (by omega), if_neg (by omega), if_neg (by omega)]
  have w2 : nS (nE1 n f v) s 2 = max (nS n s 2) (k + 1) := by rw [eS _ 2 (by omega) (by omega), if_neg (by omega), if_neg (by omega), if_pos ⟨rfl, rfl⟩]
  have hk : ∀ j, 0 ≤ j → j < max (nS n s 2) (k + 1) → j ≠ k → j < nS n s 2 := by
    intro j j0 j1 j2
    by_cases z : nEn n s f = -1
    · have := kn z; omega
    · have := ky z; omega
  have hr := h.ses s l1
  have eL : nL n s = 0 := nL_0 s3
  have eL' : nL (nE1 n f v) s = 0 := nL_0 (by rw [w013 3 (by omega)]; exact s3)
  have G := h.se (σ' := yEn σ s (nS n s 2) k f v) (n' := nE1 n f v) (cs' := fun t => nL (nE1 n f v) t) (s := s) l1 (fun K d hk => by unfold yEn; rw [zs_kd hk, zs_kd hk, zs_kd hk]) hlo (fun t w t0 ht w0 w1 => hoth t w ht w0 w1) ?_ ?_ ?_ ?_
  · exact G.cg (fun u u0 u1 => by
      have h6 := hlo 6 (by omega)
      unfold nV; rw [hlo _ (by omega)]) (fun _ _ _ => rfl)
  · obtain ⟨a0, a1, a2, a3, a4, a5, a6, a7, a8⟩ := hr
    show yRs' _ _ _ (nL (nE1 n f v) s)
    have c0 : ∀ i, yEn σ s (nS n s 2) k f v 6 s 0 i = if i = 2 then max (nS n s 2) (k + 1) else σ 6 s 0 i := fun i => by unfold yEn; rw [zs_ne (by omega), zs_ne (by omega), zs_at]
    have c6 : ∀ i, yEn σ s (nS n s 2) k f v 6 s 6 i = if i = k then f else σ 6 s 6 i := fun i => by unfold yEn; rw [zs_ne (by omega), zs_at, zs_ne (by omega)]
    have c8 : ∀ i, yEn σ s (nS n s 2) k f v 6 s 8 i = if i = k then v + 1 else σ 6 s 8 i := fun i => by unfold yEn; rw [zs_at, zs_ne (by omega), zs_ne (by omega)]
    unfold yRs'
    rw [c0, c0, c0, c0, c0, c0, w2, w013 0 (by omega), w013 1 (by omega), w013 3 (by omega), w013 4 (by omega), eL']
    refine ⟨by rw [if_neg (by omega)]; exact a0, by rw [if_neg (by omega)]; exact a1, by rw [if_pos rfl], by rw [if_neg (by omega)]; exact a3, by rw [if_neg (by omega)]; exact a4, by rw [if_neg (by omega), a5]; exact eL, fun j j0 j1 => ?_, fun j j0 j1 => by omega, fun j j0 j1 => ?_⟩
    · rw [eS _ _ (by omega) (by omega), if_neg (by omega), c6]
      by_cases z : j = k
      · rw [if_pos z, if_pos (by omega)]
      · rw [if_neg z, if_neg (by omega), if_neg (by omega)]; exact a6 j j0 (hk j j0 j1 z)
    · rw [c8, eS _ _ (by omega) (by omega)]
      by_cases z : j = k
      · rw [if_pos z, if_pos (by omega)]
      · rw [if_neg z, if_neg (by omega), if_neg (by omega), if_neg (by omega)]; exact a8 j j0 (hk j j0 j1 z)
  · intro j
    unfold yEn
    rw [zs_at, zs_ne (by omega), zs_ne (by omega)]
    have := h.bd.2.2.2.2 s l1 j
    split <;> omega
  · refine ⟨by rw [w2]; omega, fun j j0 j1 => ?_⟩
    simp only [eL'] at j1; omega
  · intro t t0 ht
    show nL (nE1 n f v) t = nL n t
    exact nL_cg (hoth t 2 ht (by omega) (by omega)) (hoth t 3 ht (by omega) (by omega))

theorem yl_J22_n (hW : zWF E) {s : Nat} (hu : zU E 6 s = true) {f k : Int} (k0 : 0 ≤ k) (k1 : k < 10) : f_X12_enter_n_J22 (zH E σ) (zL E 6 s 0) (zI f) (zI k) = some (zH E (zs (zs σ 6 s 6 k f) 6 s 8 k ((-1) + 1))) := by
  have z := fun τ => zz_ga (σ := τ) hW hu
  
  simp (disch := first | assumption | omega) only [f_X12_enter_n_J22, zz_lso hW hu, z, zz_some, zz_nul, zz_lit, zz_num, zI_lt, zI_le, zI_eq, zI_nat, zz_b, if_pos, if_neg, if_true, if_false]
  rfl
theorem yl_enter_n (h : yI E σ n) (hn : nW n) (hop : nOp n = true) (h2 : n 2 ≤ 10) {f : Int} (f0 : 0 ≤ f) (f1 : f < n 2) : ∃ σ', f_X12_enter_n (zH E σ) (ySe E (nLa n)) (zI f) = some (zH E σ') ∧ yI E σ' (nE1 n f (-1)) ∧ ∀ (k d : Nat), ¬ (k = 6 ∧ (d : Int) = nLa n) → σ' k d = σ k d := by
  obtain ⟨l0, l1, st, s3, ⟨e0, e1⟩, -⟩ := yOp3 hn hop
  have hW := h.w
  have hu := h.r.us l0 l1
  have hN := hn.1.r
  obtain ⟨k, k0, k9, kn, ky, H⟩ := yG.en h hn hop (f := f) (v := (-1)) f0 f1 (by omega) (by omega)
  refine ⟨_, ?_, H, fun K d hk => by unfold yEn; rw [zs_kd (by omega), zs_kd (by omega), zs_kd (by omega)]⟩
  have hob : g_ob (zH E σ) (ySe E (nLa n)) 12 = some () := (zz_lso (σ := σ) hW hu).2.2.2
  have hfi := yl_find hW h.r hn l0 l1 (f := f) f0 (by omega)
  have hr := (h.r.ses l0 l1).2.2.1
  have hE := nEn_rng n (nLa n) f
  unfold f_X12_enter_n
  rw [hob, hfi]
  by_cases z : nEn n (nLa n) f = -1
  · have hk := kn z
    simp (disch := first | assumption | omega) only [z, zg_ls2 hW hu, hr, zz_some, zz_nul, zz_lit, zz_num, zI_lt, zI_le, zI_eq, zI_nat, zz_b, if_pos, if_neg, if_true, if_false]
    rw [zp_ls2 hW hu, zz_some, yl_J22_n hW hu (by omega) (by omega)]
    unfold yEn
    rw [hk, show max (nS n (nLa n) 2) (nS n (nLa n) 2 + 1) = nS n (nLa n) 2 + 1 by omega]
  · have hk := ky z
    rw [← hk.1]
    simp (disch := first | assumption | omega) only [zz_some, zz_nul, zz_lit, zz_num, zI_lt, zI_le, zI_eq, zI_nat, zz_b, if_pos, if_neg, if_true, if_false]
    rw [yl_J22_n hW hu k0 (by omega)]
    unfold yEn
    rw [show max (nS n (nLa n) 2) (k + 1) = nS n (nLa n) 2 by omega, zs_self hr]

theorem yl_J22_r (hW : zWF E) {s : Nat} (hu : zU E 6 s = true) {v : Int} (v0 : 0 ≤ v) (hv : zU E 7 v.toNat = true) {f k : Int} (k0 : 0 ≤ k) (k1 : k < 10) : f_X12_enter_r_J22 (zH E σ) (zL E 6 s 0) (zI f) (yVe E v) (zI k) = some (zH E (zs (zs σ 6 s 6 k f) 6 s 8 k (v + 1))) := by
  have z := fun τ => zz_ga (σ := τ) hW hu
  have zo : ∀ τ, g_ob (zH E τ) (yVe E v) 13 = some () := fun τ => (zz_lvo (σ := τ) hW hv).2
  simp (disch := first | assumption | omega) only [f_X12_enter_r_J22, zz_lso hW hu, z, zo, zz_some, zz_nul, zz_lit, zz_num, zI_lt, zI_le, zI_eq, zI_nat, zz_b, if_pos, if_neg, if_true, if_false]
  rw [show ((v.toNat : Int) + 1) = v + 1 by omega]
theorem yl_enter_r (h : yI E σ n) (hn : nW n) (hop : nOp n = true) (h2 : n 2 ≤ 10) {f v : Int} (f0 : 0 ≤ f) (f1 : f < n 2) (v0 : 0 ≤ v) (v1 : v < n 6) (hv : zU E 7 v.toNat = true) : ∃ σ', f_X12_enter_r (zH E σ) (ySe E (nLa n)) (zI f) (yVe E v) = some (zH E σ') ∧ yI E σ' (nE1 n f v) ∧ ∀ (k d : Nat), ¬ (k = 6 ∧ (d : Int) = nLa n) → σ' k d = σ k d := by
  obtain ⟨l0, l1, st, s3, ⟨e0, e1⟩, -⟩ := yOp3 hn hop
  have hW := h.w
  have hu := h.r.us l0 l1
  have hN := hn.1.r
  obtain ⟨k, k0, k9, kn, ky, H⟩ := yG.en h hn hop (f := f) (v := v) f0 f1 (by omega) v1
  refine ⟨_, ?_, H, fun K d hk => by unfold yEn; rw [zs_kd (by omega), zs_kd (by omega), zs_kd (by omega)]⟩
  have hob : g_ob (zH E σ) (ySe E (nLa n)) 12 = some () := (zz_lso (σ := σ) hW hu).2.2.2
  have hfi := yl_find hW h.r hn l0 l1 (f := f) f0 (by omega)
  have hr := (h.r.ses l0 l1).2.2.1
  have hE := nEn_rng n (nLa n) f
  unfold f_X12_enter_r
  rw [hob, hfi]
  by_cases z : nEn n (nLa n) f = -1
  · have hk := kn z
    simp (disch := first | assumption | omega) only [z, zg_ls2 hW hu, hr, zz_some, zz_nul, zz_lit, zz_num, zI_lt, zI_le, zI_eq, zI_nat, zz_b, if_pos, if_neg, if_true, if_false]
    rw [zp_ls2 hW hu, zz_some, yl_J22_r hW hu v0 hv (by omega) (by omega)]
    unfold yEn
    rw [hk, show max (nS n (nLa n) 2) (nS n (nLa n) 2 + 1) = nS n (nLa n) 2 + 1 by omega]
  · have hk := ky z
    rw [← hk.1]
    simp (disch := first | assumption | omega) only [zz_some, zz_nul, zz_lit, zz_num, zI_lt, zI_le, zI_eq, zI_nat, zz_b, if_pos, if_neg, if_true, if_false]
    rw [yl_J22_r hW hu v0 hv k0 (by omega)]
    unfold yEn
    rw [show max (nS n (nLa n) 2) (k + 1) = nS n (nLa n) 2 by omega, zs_self hr]

end yL


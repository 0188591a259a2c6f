/-! Writing and erasing, whole. -/
section yO
variable {E : zE} {σ : zW} {n : zN} {cv cs : Int → Int}
theorem yI.bg (h : yI E σ n) (hn : nW n) (h3 : n 3 < 12) {E' : zE} {σ' : zW} (H : yG E' σ' (nBg n) (fun v => nV n v 2) (fun s => if s = n 3 then 0 else nL n s)) : yI E' σ' (nBg n) := by
  have hN := hn.1.r
  refine H.cg (fun v v0 v1 => ?_) (fun s s0 s1 => ?_)
  · rw [nBg_lo (by omega) (by omega) (by omega)] at v1
    exact nV_nBg (by omega) v0 (by omega) (by omega) (by omega)
  · show nL (nBg n) s = _
    by_cases z : s = n 3
    · rw [if_pos z]; exact nL_0 (by rw [nS_nBg (by omega) s0 (by omega) (by omega), if_pos z, if_neg (by omega)])
    · rw [if_neg z]
      exact nL_cg (by rw [nS_nBg (by omega) s0 (by omega) (by omega), if_neg z]) (by rw [nS_nBg (by omega) s0 (by omega) (by omega), if_neg z])
/-- entries and places of a disc of the law -/
theorem yW_mk {n : zN} (hn : nW n) (h0 : n 0 ≤ 47) (h1 : n 1 ≤ 8) (h2 : 1 ≤ n 2 ∧ n 2 ≤ 6) (hs : ∀ s, 0 ≤ s → s < n 3 → nS n s 0 = 0 ∨ nS n s 0 = 1 → 1 ≤ nS n s 2) : yW n := ⟨⟨h0, h1, h2⟩, fun s s0 s1 => ⟨by have := hn.2.2.2.ent hn.1 s0 s1; omega, hs s s0 s1⟩⟩
theorem nE1_e {n : zN} (hn : nW n) (hop : nOp n = true) {f v : Int} (f0 : 0 ≤ f) (f1 : f < n 2) : 1 ≤ nS (nE1 n f v) (nLa n) 2 ∧ (∀ s, s ≠ nLa n → nS (nE1 n f v) s 0 = nS n s 0 ∧ nS (nE1 n f v) s 2 = nS n s 2) ∧ (∀ i, i < 1255 → nE1 n f v i = n i) := by
  obtain ⟨l0, l1, st, s3, ⟨e0, e1⟩, -⟩ := yOp3 hn hop
  have hN := hn.1.r
  obtain ⟨k, k0, k9, kn, ky, eS⟩ := nE1_S (n := n) f v e0 (fun z => by have := nEn_9 hn hop f0 f1 z; omega) (by omega)
  refine ⟨?_, fun s hs => ?_, fun i hi => nE1_lo l0 e0 hi⟩
  · rw [eS _ 2 (by omega) (by omega), if_neg (by omega), if_neg (by omega), if_pos ⟨rfl, rfl⟩]; omega
  · rw [eS _ 2 (by omega) (by omega), if_neg (by omega), if_neg (by omega), if_neg (by omega), eS _ 0 (by omega) (by omega), if_neg (by omega), if_neg (by omega), if_neg (by omega)]
    exact ⟨rfl, rfl⟩
/-- the two ways into an open session -/
theorem yBi (h : yI E σ n) (hn : nW n) (hT : nTm n = false) : (nOp n = true → nBi n = n) ∧ (nOp n = false → nBi n = nBg n ∧ n 3 < 12 ∧ nW (nBg n) ∧ nOp (nBg n) = true ∧ nLa (nBg n) = n 3) := by
  refine ⟨fun z => by unfold nBi; rw [if_pos z], fun z => ?_⟩
  have h3 := nTm_f hn hT z
  obtain ⟨a, b, c⟩ := nBg_W hn z h3
  exact ⟨by unfold nBi; rw [z]; rfl, h3, a, b, c⟩
/-- all but the last session have what they need -/
def yWe (n : zN) : Prop := (n 0 ≤ 47 ∧ n 1 ≤ 8 ∧ 1 ≤ n 2 ∧ n 2 ≤ 6) ∧ ∀ s, 0 ≤ s → s < nLa n → nS n s 0 = 0 ∨ nS n s 0 = 1 → 1 ≤ nS n s 2
theorem yW.e (hy : yW n) : yWe n := ⟨hy.1, fun s s0 s1 => (hy.2 s s0 (by unfold nLa at s1; omega)).2⟩
theorem yWe.cg {n' : zN} (h : yWe n) (h0 : n' 0 = n 0) (h1 : n' 1 = n 1) (h2 : n' 2 = n 2) (h3 : n' 3 = n 3) (hS : ∀ s w, 0 ≤ s → 0 ≤ w → w < 25 → nS n' s w = nS n s w) : yWe n' := by
  unfold yWe nLa at *
  rw [h0, h1, h2, h3]
  exact ⟨h.1, fun s s0 s1 => by rw [hS s 0 s0 (by omega) (by omega), hS s 2 s0 (by omega) (by omega)]; exact h.2 s s0 s1⟩
theorem nE1_yW (h : yWe n) (hn : nW n) (hop : nOp n = true) {f v : Int} (f0 : 0 ≤ f) (f1 : f < n 2) (hn' : nW (nE1 n f v)) : yW (nE1 n f v) := by
  obtain ⟨a, b, c⟩ := nE1_e (v := v) hn hop f0 f1
  refine yW_mk hn' (by rw [c 0 (by omega)]; exact h.1.1) (by rw [c 1 (by omega)]; exact h.1.2.1) (by rw [c 2 (by omega)]; exact h.1.2.2) (fun s s0 s1 => ?_)
  rw [c 3 (by omega)] at s1
  by_cases z : s = nLa n
  · intro _; rw [z]; exact a
  · rw [(b s z).1, (b s z).2]; exact h.2 s s0 (by unfold nLa at *; omega)
theorem yWe_bg (hn : nW n) (hy : yW n) : yWe (nBg n) := by
  have hN := hn.1.r
  unfold yWe nLa
  rw [nBg_3, nBg_lo (by omega) (by omega) (by omega), nBg_lo (by omega) (by omega) (by omega), nBg_lo (by omega) (by omega) (by omega)]
  refine ⟨hy.1, fun s s0 s1 => ?_⟩
  rw [nS_nBg (by omega) s0 (by omega) (by omega), nS_nBg (by omega) s0 (by omega) (by omega), if_neg (by omega), if_neg (by omega)]
  exact (hy.2 s s0 (by omega)).2
theorem yWe_bi (hn : nW n) (hy : yW n) : yWe (nBi n) := by
  unfold nBi
  split
  · exact hy.e
  · exact yWe_bg hn hy
theorem yl_write (h : yI E σ n) (hn : nW n) (hy : yW n) {f m tag : Int} (f0 : 0 ≤ f) (f1 : f < n 2) (m0 : 1 ≤ m) (m8 : m ≤ 8) (t0 : 0 ≤ tag) (t1 : tag ≤ 999) (hw : nWw n f m = 0) {K : Int32 → gH → Prop} (hK : ∀ E' σ', yI E' σ' (nWrs n f m tag) → yGr E E' → nW (nWrs n f m tag) → yW (nWrs n f m tag) → K (zI (n 6)) (zH E' σ')) : w_X10_write 6 47 (zH E σ) (zL E 5 0 0) (zI f) (zI m) (zI tag) K := by
  obtain ⟨hT, hroom, hsp⟩ := nWw_0 hw
  have hN := hn.1.r
  obtain ⟨b1, b2, ⟨A1, A2, A3, A4, A5, A6⟩, W3, W4⟩ := nWrs_W hn f0 f1 m0 m8 t0 t1 hw
  have hEw := nEw_rng hn f
  have hD := nDl_rng hEw.1 (by omega)
  have e1 : ∀ i, i < 1255 → i ≠ 3 → nBi n i = n i := fun i hi h3 => nBi_lo (by omega) hi h3
  have hHs := (nHs_iff n m).mp hsp
  have hyI : yW (nWrs n f m tag) := by
    have hWl := nWl_W (kind := 1) (se := nLa (nBi n)) (v := n 6) m.toNat (nAdd (nBi n) f m tag) 0 A1 A2 (by omega) A4 (Or.inl rfl) (yOp3 b1 b2).1 (by rw [A5 3 (by omega) (by omega)]; exact (yOp3 b1 b2).2.1) (by omega) (by rw [A6]; omega) (fun _ => by omega) (by omega) (by omega)
    obtain ⟨n3, hn3⟩ : ∃ x, x = nWl 1 (nLa (nBi n)) (n 6) (nAdd (nBi n) f m tag) 0 m.toNat := ⟨_, rfl⟩
    rw [← hn3] at hWl W3
    have hv6 := hn.2.2.1.1
    have c4 : ∀ i, i ≠ 4 → i ≠ 6 → i < 7 ∨ 1255 ≤ i → n3 i = nBi n i := fun i h4 h6 hi => by
      rw [hWl.2.2.2 i h4 (by omega), A5 i h6 (by omega)]
    have hS : ∀ s w, 0 ≤ s → 0 ≤ w → w < 25 → nS n3 s w = nS (nBi n) s w := fun s w s0 w0 w1 => c4 _ (by omega) (by omega) (by omega)
    have hla : nLa n3 = nLa (nBi n) := by unfold nLa; rw [c4 3 (by omega) (by omega) (by omega)]
    have o3 : nOp n3 = true := by
      rw [nOp_iff] at b2 ⊢
      rw [hla, hS _ 0 b2.1 (by omega) (by omega)]
      exact b2
    have hE : nWrs n f m tag = nE1 n3 f (n 6) := by unfold nWrs; rw [← hn3]
    rw [hE] at W4 ⊢
    exact nE1_yW ((yWe_bi hn hy).cg (c4 0 (by omega) (by omega) (by omega)) (c4 1 (by omega) (by omega) (by omega)) (c4 2 (by omega) (by omega) (by omega)) (c4 3 (by omega) (by omega) (by omega)) hS) W3 o3 f0 (by rw [c4 2 (by omega) (by omega) (by omega), e1 2 (by omega) (by omega)]; exact f1) W4
  have hob := fun τ => (show g_ob (zH E τ) (zL E 5 0 0) 10 = some () by simp only [zz_ldo h.w h.u])
  have hopen := yl_open h.w h.r hn
  unfold w_X10_write
  refine ⟨_, _, gd_n _, (gj_n _).symm, (), hob σ, ⟨by omega, by omega⟩, _, hopen, ?_⟩
  cases z : nOp n
  · refine ⟨fun _ => ?_, fun r hr => by simp at hr⟩
    obtain ⟨eB, h3, c1, c2, c3⟩ := (yBi h hn hT).2 z
    rw [eB] at b1 b2 A1 A2 W3 e1
    have hWB : nWrs n f m tag = nE1 (nWl 1 (nLa (nBg n)) (n 6) (nAdd (nBg n) f m tag) 0 m.toNat) f (n 6) := by unfold nWrs; rw [eB]
    refine ⟨_, _, gd_n _, (gj_n _).symm, (), hob σ, ⟨by omega, by omega⟩, yl_begins h h3 (fun E' σ' H w4 _ G hg hG => ?_)⟩
    rw [gj_n] at hG
    subst hG
    refine ⟨fun q => (by cases q), fun r hr => ?_⟩
    obtain rfl : ySe E' (n 3) = r := by injection hr
    have hI := yI.bg h hn h3 H
    rw [← (w4 5 0 0 h.u).2, ← c3]
    have e6 : nBg n 6 = n 6 := e1 6 (by omega) (by omega)
    refine yl_J18 hI b1 b2 (by rw [e1 2 (by omega) (by omega)]; omega) f0 (by rw [e1 2 (by omega) (by omega)]; omega) m0 m8 (by rw [e1 0 (by omega) (by omega), e1 1 (by omega) (by omega), e1 4 (by omega) (by omega)]; omega) ?_ ⟨A1, A2⟩ (by rw [e6]; exact W3) (by omega) (by omega) (fun E2 σ2 H2 w5 => ?_)
    · rw [nBc_ag (fun i h7 h8 => e1 i (by omega) (by omega)) (e1 4 (by omega) (by omega)) (by omega) (by omega), nGc_ag (fun i h7 h8 => e1 i (by omega) (by omega)) (e1 0 (by omega) (by omega)) (e1 1 (by omega) (by omega)) hn.1]
      exact hHs
    · rw [e6] at H2 ⊢
      rw [← hWB] at H2
      exact hK E2 σ2 H2 (w4.tr w5) W4 hyI
  · refine ⟨fun q => by simp at q, fun r hr => ?_⟩
    have eB := (yBi h hn hT).1 z
    rw [eB] at b1 b2 A1 A2 W3
    have hWB : nWrs n f m tag = nE1 (nWl 1 (nLa n) (n 6) (nAdd n f m tag) 0 m.toNat) f (n 6) := by unfold nWrs; rw [eB]
    refine ⟨_, _, gd_n _, (gj_n _).symm, (), hob σ, ⟨by omega, by omega⟩, _, hopen, ?_⟩
    rw [z]
    refine ⟨fun q => by simp at q, fun r hr => ?_⟩
    obtain rfl : ySe E (nLa n) = r := by simpa using hr
    refine yl_J18 h b1 b2 (by omega) f0 f1 m0 m8 (by omega) hHs ⟨A1, A2⟩ W3 (by omega) (by omega) (fun E2 σ2 H2 w5 => ?_)
    rw [← hWB] at H2
    exact hK E2 σ2 H2 w5 W4 hyI
theorem yl_erase (h : yI E σ n) (hn : nW n) (hy : yW n) {f : Int} (f0 : 0 ≤ f) (f1 : f < n 2) (hw : nWe n f = 0) {K : gH → Prop} (hK : ∀ E' σ', yI E' σ' (nErs n f) → yGr E E' → nW (nErs n f) → yW (nErs n f) → K (zH E' σ')) : w_X10_erase 4 32 (zH E σ) (zL E 5 0 0) (zI f) K := by
  obtain ⟨-, hT⟩ := nWe_0 hw
  have hN := hn.1.r
  have W4 := nErs_W hn f0 f1 hw
  obtain ⟨b1, b2⟩ := nBi_W hn hT
  have e1 : ∀ i, i < 1255 → i ≠ 3 → nBi n i = n i := fun i hi h3 => nBi_lo (by omega) hi h3
  have hyI : yW (nErs n f) := nE1_yW (yWe_bi hn hy) b1 b2 f0 (by rw [e1 2 (by omega) (by omega)]; exact f1) W4
  have hob := fun τ => (show g_ob (zH E τ) (zL E 5 0 0) 10 = some () by simp only [zz_ldo h.w h.u])
  have hopen := yl_open h.w h.r hn
  unfold w_X10_erase
  refine ⟨_, _, gd_n _, (gj_n _).symm, (), hob σ, ⟨by omega, by omega⟩, _, hopen, ?_⟩
  cases z : nOp n
  · refine ⟨fun _ => ?_, fun r hr => by simp at hr⟩
    obtain ⟨eB, h3, c1, c2, c3⟩ := (yBi h hn hT).2 z
    rw [eB] at b1 b2 e1
    have hWB : nErs n f = nE1 (nBg n) f (-1) := by unfold nErs; rw [eB]
    refine ⟨_, _, gd_n _, (gj_n _).symm, (), hob σ, ⟨by omega, by omega⟩, yl_begins h h3 (fun E' σ' H w4 _ G hg hG => ?_)⟩
    rw [gj_n] at hG
    subst hG
    refine ⟨fun q => (by cases q), fun r hr => ?_⟩
    obtain rfl : ySe E' (n 3) = r := by injection hr
    have hI := yI.bg h hn h3 H
    obtain ⟨σ2, x1, x2, -⟩ := yl_enter_n hI b1 b2 (by rw [e1 2 (by omega) (by omega)]; omega) (f := f) f0 (by rw [e1 2 (by omega) (by omega)]; omega)
    have hus := hI.r.us (yOp3 b1 b2).1 (yOp3 b1 b2).2.1
    rw [c3] at x1 hus
    refine ⟨_, _, gd_n _, (gj_n _).symm, (), (zz_lso (σ := σ') hI.w hus).2.2.2, ⟨by omega, by omega⟩, _, x1, fun G hg hG => ?_⟩
    rw [gj_n] at hG
    subst hG
    rw [← hWB] at x2
    exact ⟨by omega, by omega, hK E' σ2 x2 w4 W4 hyI⟩
  · refine ⟨fun q => by simp at q, fun r hr => ?_⟩
    have eB := (yBi h hn hT).1 z
    rw [eB] at b1 b2
    have hWB : nErs n f = nE1 n f (-1) := by unfold nErs; rw [eB]
    refine ⟨_, _, gd_n _, (gj_n _).symm, (), hob σ, ⟨by omega, by omega⟩, _, hopen, ?_⟩
    rw [z]
    refine ⟨fun q => by simp at q, fun r hr => ?_⟩
    obtain rfl : ySe E (nLa n) = r := by simpa using hr
    obtain ⟨σ2, x1, x2, -⟩ := yl_enter_n h b1 b2 (by omega) (f := f) f0 f1
    have hus := h.r.us (yOp3 b1 b2).1 (yOp3 b1 b2).2.1
    refine ⟨_, _, gd_n _, (gj_n _).symm, (), (zz_lso (σ := σ) h.w hus).2.2.2, ⟨by omega, by omega⟩, _, x1, fun G hg hG => ?_⟩
    rw [gj_n] at hG
    subst hG
    rw [← hWB] at x2
    exact ⟨by omega, by omega, hK E σ2 x2 yGr.rf W4 hyI⟩
end yO


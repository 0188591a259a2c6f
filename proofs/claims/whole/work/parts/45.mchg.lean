/-! The reference: its changes. -/
/-- the first k numbers of a new session are set to 0 -/
def nB0 (n : zN) (k : Int) : zN := fun i => if i = 3 then n 3 + 1 else if 1255 + 25 * n 3 ≤ i ∧ i < 1255 + 25 * n 3 + k then 0 else n i
theorem nB0_0 (n : zN) : nB0 n 0 = zu n 3 (n 3 + 1) := by
  funext i
  unfold nB0 zu
  by_cases h : i = 3
  · rw [if_pos h, if_pos h]
  · rw [if_neg h, if_neg h, if_neg (by omega)]
theorem nB0_s (n : zN) {k : Int} (h3 : 0 ≤ n 3) (hk : 0 ≤ k) : zus (nB0 n k) (n 3) k 0 = nB0 n (k + 1) := by
  funext i
  unfold zus zu nB0
  by_cases h : i = 3
  · subst h
    rw [if_neg (by omega), if_pos rfl, if_pos rfl]
  · by_cases h2 : i = 1255 + 25 * n 3 + k
    · rw [if_pos h2, if_neg h, if_pos (by omega)]
    · rw [if_neg h2, if_neg h, if_neg h]
      by_cases h4 : 1255 + 25 * n 3 ≤ i ∧ i < 1255 + 25 * n 3 + k
      · rw [if_pos h4, if_pos (by omega)]
      · rw [if_neg h4, if_neg (by omega)]
theorem nB0_25 (n : zN) (h3 : 0 ≤ n 3) : zus (nB0 n 25) (n 3) 1 (n 4) = nBg n := by
  funext i
  unfold zus zu nB0 nBg
  by_cases h : i = 3
  · subst h
    rw [if_neg (by omega), if_pos rfl, if_pos rfl]
  · by_cases h2 : i = 1256 + 25 * n 3
    · rw [if_pos (by omega), if_neg h, if_pos h2]
    · rw [if_neg (by omega), if_neg h, if_neg h, if_neg h2]
      by_cases h4 : 1255 + 25 * n 3 ≤ i ∧ i < 1280 + 25 * n 3
      · rw [if_pos (by omega), if_pos h4]
      · rw [if_neg (by omega), if_neg h4]
section zMod
variable {E : zE} {σ : zW}
theorem e10_begins_L (hW : zWF E) (hm : zU E 3 0 = true) (n : zN) (h3 : 0 ≤ n 3) (h12 : n 3 < 12) : ∀ (m fuel : Nat) (k : Int), 0 ≤ k → k + m = 25 → m < fuel → f_X10_begins_L19 fuel (zH E (zw σ (nB0 n k))) (zL E 3 0 0) (zI (n 3)) (zI k) = some (zH E (zw σ (nBg n)), zI (n 3)) := by
  intro m
  induction m with
  | zero =>
    intro fuel k h0 h1 h2
    obtain ⟨f, rfl, h4⟩ := zfuel h2
    have hk : k = 25 := by omega
    subst hk
    have q4 : nB0 n 25 4 = n 4 := by unfold nB0; rw [if_neg (by omega), if_neg (by omega)]
    simp (disch := first | assumption | omega) only [f_X10_begins_L19, q4, e10_sets hW hm, zz_mdo hW hm, zz_ra hW hm, zw_at, zz_some, zz_lit, zz_num, zI_lt, zI_le, zI_eq, zI_nat, zz_b, if_pos, if_neg, if_true, if_false]
    rw [nB0_25 n h3]
  | succ m ih =>
    intro fuel k h0 h1 h2
    obtain ⟨f, rfl, h4⟩ := zfuel h2
    simp (disch := first | assumption | omega) only [f_X10_begins_L19, e10_sets hW hm, zz_mdo hW hm, zz_ra hW hm, zw_at, zz_some, zz_lit, zz_num, zI_lt, zI_le, zI_eq, zI_nat, zz_b, if_pos, if_neg, if_true, if_false]
    rw [nB0_s n h3 h0]
    exact ih f (k + 1) (by omega) (by omega) (by omega)
theorem e10_begins (hW : zWF E) (hm : zU E 3 0 = true) (n : zN) (h3 : 0 ≤ n 3) (h12 : n 3 < 12) : f_X10_begins (zH E (zw σ n)) (zL E 3 0 0) = some (zH E (zw σ (nBg n)), zI (n 3)) := by
  simp (disch := first | assumption | omega) only [f_X10_begins, zs_zw, zz_mdo hW hm, zz_ra hW hm, zw_at, zz_some, zz_lit, zz_num, zI_lt, zI_le, zI_eq, zI_nat, zz_b, if_pos, if_neg, if_true, if_false]
  rw [← nB0_0]
  exact e10_begins_L hW hm n h3 h12 25 g_N 0 (by omega) (by omega) (by unfold g_N; omega)
theorem e10_enters_J18 (hW : zWF E) (hm : zU E 3 0 = true) {n : zN} (hN : nWn n) (hZ : nWs n) (hop : nOp n = true) {f v : Int} (hf0 : 0 ≤ f) (hf1 : f < n 2) : f_X10_enters_J18 (zH E (zw σ n)) (zL E 3 0 0) (zI f) (zI v) (zI (nLa n)) = some (zH E (zw σ (nE1 n f v))) := by
  have hN' := hN.r
  obtain ⟨h3, hst⟩ := nOp_iff.mp hop
  have hla : nLa n = n 3 - 1 := rfl
  have hs := hZ (nLa n) h3 (by omega)
  have hent := hZ.ent hN h3 (by omega : nLa n < n 3)
  have hE := nEn_rng n (nLa n) f
  have hk9 : nEn n (nLa n) f = -1 → nS n (nLa n) 2 ≤ n 2 - 1 := by
    intro h
    have h5 := zcn_one (P := fun g => decide (nEn n (nLa n) g ≠ -1)) (Q := fun g => decide (nEn n (nLa n) g ≠ -1) || decide (g = f)) (j := f) (n 2).toNat 0 hf0 (by omega) (by simp [h]) (by simp) (fun g hg _ _ => by simp [hg])
    have h6 := (zcn_rng (fun g => decide (nEn n (nLa n) g ≠ -1) || decide (g = f)) (n 2).toNat 0).2
    have h7 := hs.2.2.2.1.2
    omega
  have heo := e10_entryOf (σ := zw σ n) hW hm zw_at hN hZ h3 (by omega : nLa n < n 3) (by omega : -1 ≤ f) (by omega : f < 100)
  have ho2 := e10_of (σ := zw σ n) hW hm zw_at (s := nLa n) (w := 2) h3 (by omega) (by omega) (by omega)
  unfold nE1
  by_cases h : nEn n (nLa n) f = -1
  · have h9 := hk9 h
    rw [if_pos h]
    rw [h] at heo
    simp (disch := first | assumption | omega) only [f_X10_enters_J18, f_X10_enters_J51, heo, ho2, e10_sets hW hm, zz_mdo hW hm, zz_ra hW hm, zw_at, zz_some, zz_lit, zz_num, zI_lt, zI_le, zI_eq, zI_nat, zz_b, if_pos, if_neg, if_true, if_false]
    rw [show 5 + 2 * nS n (nLa n) 2 + 1 = 6 + 2 * nS n (nLa n) 2 by omega]
  · rw [if_neg h]
    simp (disch := first | assumption | omega) only [f_X10_enters_J18, f_X10_enters_J51, heo, e10_sets hW hm, zz_mdo hW hm, zz_ra hW hm, zw_at, zz_some, zz_lit, zz_num, zI_lt, zI_le, zI_eq, zI_nat, zz_b, if_pos, if_neg, if_true, if_false]
    rw [show 5 + 2 * nEn n (nLa n) f + 1 = 6 + 2 * nEn n (nLa n) f by omega]
theorem e10_enters (hW : zWF E) (hm : zU E 3 0 = true) {n : zN} (hn : nW n) (hT : nTm n = false) {f v : Int} (hf0 : 0 ≤ f) (hf1 : f < n 2) : f_X10_enters (zH E (zw σ n)) (zL E 3 0 0) (zI f) (zI v) = some (zH E (zw σ (nE1 (nBi n) f v))) := by
  have hN' := hn.1.r
  have ho := e10_isOpen (σ := zw σ n) hW hm zw_at hn.1 hn.2.2.2
  have hl := e10_latest (σ := zw σ n) hW hm zw_at
  unfold nBi
  cases hop : nOp n
  · rw [if_neg (by simp)]
    rw [hop] at ho
    have h12 := nTm_f hn hT hop
    obtain ⟨b1, b2, b3⟩ := nBg_W hn hop h12
    have hJ := e10_enters_J18 (σ := σ) hW hm b1.1 b1.2.2.2 b2 (f := f) (v := v) hf0 (by rw [nBg_lo (by omega) (by omega) (by omega)]; exact hf1)
    rw [b3] at hJ
    simp (disch := first | assumption | omega) only [f_X10_enters, ho, e10_begins hW hm, hJ, zz_mdo hW hm, zz_ra hW hm, zw_at, zz_some, zz_lit, zz_num, zI_lt, zI_le, zI_eq, zI_nat, zz_b, if_pos, if_neg, if_true, if_false]
  · rw [if_pos rfl]
    rw [hop] at ho
    have hJ := e10_enters_J18 (σ := σ) hW hm hn.1 hn.2.2.2 hop (f := f) (v := v) hf0 hf1
    simp (disch := first | assumption | omega) only [f_X10_enters, ho, hl, hJ, Bool.true_eq_false, zz_mdo hW hm, zz_ra hW hm, zw_at, zz_some, zz_lit, zz_num, zI_lt, zI_le, zI_eq, zI_nat, zz_b, if_pos, if_neg, if_true, if_false]
theorem e10_wl (kind se v : Int) (hk : kind = 1 ∨ kind = 2) (hse0 : 0 ≤ se) (hv0 : -1 ≤ v) (hkv : kind = 1 → 0 ≤ v) (hW : zWF E) (hm : zU E 3 0 = true) : ∀ (m : Nat) (nb : zN) (k : Int), nWn nb → nWb nb → nb 4 + m ≤ nb 0 - nb 1 → nBc nb m ≤ nGc nb → se < nb 3 → v < nb 6 → 0 ≤ k → k + m ≤ 8 →
    ∀ (β : Type) (st : Nat → gH → Int32 → Option β) (len : Int), len = k + m → (∀ (f : Nat) (τ : zN) (x : Int), x < len → 0 ≤ x → x < 100 → τ 3 = nb 3 → st (f + 1) (zH E (zw σ τ)) (zI x) = (f_X10_writesBlock (zH E (zw σ τ)) (zL E 3 0 0) (zI kind) (zI se) (zI v) (zI x)).bind fun G2 => st f G2 (zI (x + 1))) → ∀ fuel, m < fuel → st fuel (zH E (zw σ nb)) (zI k) = st (fuel - m) (zH E (zw σ (nWl kind se v nb k m))) (zI len) := by
  intro m
  induction m with
  | zero =>
    intro nb k _ _ _ _ _ _ _ _ β st len hlen hst fuel hf
    rw [hlen, Nat.sub_zero, show k + ((0 : Nat) : Int) = k by omega]
    rfl
  | succ m ih =>
    intro nb k hN hB hr hc h1 h2 h3 h4 β st len hlen hst fuel hf
    have hN' := hN.r
    have hb := hB (nb 4) (by omega) (by omega)
    have hcc : nBc nb (m + 1) = zb (decide (nb (103 + nb 4) = 1)) + zcn (fun b => decide (nb (103 + b) = 1)) (nb 4 + 1) m := rfl
    have hz := zcn_rng (fun b => decide (nb (103 + b) = 1)) m (nb 4 + 1)
    have hg : nb (103 + nb 4) = 1 → 1 ≤ nGc nb := fun z => by rw [zb_dpos z] at hcc; omega
    obtain ⟨a1, a2, a3, a4, a5⟩ := nWrB_W hN hB (kind := kind) (se := se) (v := v) (k := k) (by omega) hg hk hse0 h1 hv0 h2 hkv h3 (by omega)
    have g1 := e10_writesBlock (σ := σ) hW hm hN hB (kind := kind) (se := se) (v := v) (k := k) (by omega) hg
    have e0 := a5 0 (by omega) (by omega)
    have e1 := a5 1 (by omega) (by omega)
    have e3 := a5 3 (by omega) (by omega)
    have e6 := a5 6 (by omega) (by omega)
    have hb' : nBc (nWrB nb kind se v k) m = zcn (fun b => decide (nb (103 + b) = 1)) (nb 4 + 1) m := by
      unfold nBc
      rw [a4]
      exact zcn_congr _ _ (fun c c0 c1 => by rw [a5 (103 + c) (by omega) (by omega)])
    obtain ⟨f, rfl, hf2⟩ := zfuel hf
    have q1 := ih (nWrB nb kind se v k) (k + 1) a1 a2 (by rw [a4, e0, e1]; omega) (by rw [hb', a3]; omega) (by omega) (by omega) (by omega) (by omega) β st len (by omega) (fun f τ x a b c d => hst f τ x a b c (by rw [d, e3])) f (by omega)
    rw [hst f nb k (by omega) h3 (by omega) rfl, g1, zz_some, q1, show f + 1 - (m + 1) = f - m by omega]
    rfl
theorem e10_closedBefore_L (hW : zWF E) (hm : zU E 3 0 = true) {n : zN} (hN : nWn n) (hS : ∀ s, 0 ≤ s → s < n 3 → 0 ≤ nS n s 0 ∧ nS n s 0 ≤ 3) : ∀ (m fuel : Nat), (m : Int) ≤ n 3 → m < fuel → f_X10_closedBefore_L4 (zH E (zw σ n)) fuel (zL E 3 0 0) (zI ((m : Int) - 1)) = some (zI (zls (fun t => decide (nS n t 0 = 1)) m)) := by
  have hN' := hN.r
  intro m
  induction m with
  | zero =>
    intro fuel h2 h4
    obtain ⟨f, rfl, h5⟩ := zfuel h4
    simp (disch := first | assumption | omega) only [f_X10_closedBefore_L4, zls, zz_mdo hW hm, zz_ra hW hm, zw_at, zz_some, zz_lit, zz_num, zI_lt, zI_le, zI_eq, zI_nat, zz_b, if_pos, if_neg, if_true, if_false]
    rfl
  | succ m ih =>
    intro fuel h2 h4
    obtain ⟨f, rfl, h5⟩ := zfuel h4
    have hs := hS m (by omega) (by omega)
    have ho := e10_of (σ := zw σ n) hW hm zw_at (s := m) (w := 0) (by omega) (by omega) (by omega) (by omega)
    rw [show (((m + 1 : Nat) : Int) - 1) = (m : Int) by omega]
    have i1 := ih f (by omega) (by omega)
    rw [show (m : Int) - 1 = (m : Int) + -1 by omega] at i1
    simp (disch := first | assumption | omega) only [f_X10_closedBefore_L4, ho, zls, i1, zz_mdo hW hm, zz_ra hW hm, zw_at, zz_some, zz_lit, zz_num, zI_lt, zI_le, zI_eq, zI_nat, zz_b, if_pos, if_neg, if_true, if_false]
    by_cases h : nS n m 0 = 1
    · simp [h]
    · simp [h]
theorem e10_closesOpen (hW : zWF E) (hm : zU E 3 0 = true) {n : zN} (hn : nW n) (h : nWc n = 0) : f_X10_closesOpen (zH E (zw σ n)) (zL E 3 0 0) = some (zH E (zw σ (nCl n))) := by
  have hN' := hn.1.r
  obtain ⟨⟨x1, x2, x3, x4, x5, x6⟩, w2, w3, w4, w5⟩ := nCl_W hn h
  obtain ⟨hop, hd⟩ := nWc_0 h
  obtain ⟨h3, hst⟩ := nOp_iff.mp hop
  have hla : nLa n = n 3 - 1 := rfl
  have hent := hn.2.2.2.ent hn.1 h3 (by omega : nLa n < n 3)
  obtain ⟨D, hDe⟩ : ∃ D, D = nDl (nS n (nLa n) 2) := ⟨_, rfl⟩
  have hz : ∀ G : gH, f_X10_directoryLong G (zI (nS n (nLa n) 2)) = some (zI D) := fun G => by rw [e10_dirLong hent.1 (by omega), hDe]
  have hcl : nCl n = zus (nWl 2 (nLa n) (-1) (nCl0 n) 0 D.toNat) (nLa n) 0 1 := by unfold nCl; rw [← hDe]
  rw [← hDe] at x4 x5 x6
  have e0 := x3
  have hbc : nBc (nCl0 n) D.toNat ≤ nGc (nCl0 n) := by
    rw [nBc_ag (fun i _ hi => e0 i (by omega)) (e0 4 (by omega)) (by omega) (by omega), nGc_ag (fun i _ hi => e0 i (by omega)) (e0 0 (by omega)) (e0 1 (by omega)) hn.1]
    exact x4
  obtain ⟨n1, hn1⟩ : ∃ x, x = zus n (nLa n) 3 (n 4 + 1) := ⟨_, rfl⟩
  have hl := e10_latest (σ := zw σ n) hW hm zw_at
  have ho2 := e10_of (σ := zw σ n) hW hm zw_at (s := nLa n) (w := 2) h3 (by omega) (by omega) (by omega)
  have e1 : ∀ i, i < 1255 → n1 i = n i := fun i hi => by rw [hn1]; exact zus_lo h3 (by omega) hi
  have s1 : ∀ s, nS n1 s 0 = nS n s 0 := fun s => by rw [hn1, nS_zus (by omega) (by omega) (by omega) (by omega), if_neg (by omega)]
  have hcb := e10_closedBefore_L (σ := σ) (n := n1) hW hm (by unfold nWn; rw [e1 0 (by omega), e1 1 (by omega), e1 2 (by omega), e1 3 (by omega), e1 4 (by omega), e1 5 (by omega), e1 6 (by omega)]; exact hn.1) (fun s s0 s1' => by rw [s1]; rw [e1 3 (by omega)] at s1'; exact (hn.2.2.2 s s0 s1').1) (nLa n).toNat g_N (by rw [e1 3 (by omega)]; omega) (by unfold g_N; omega)
  rw [zls_congr (Q := fun t => decide (nS n t 0 = 1)) _ (fun t _ _ => by rw [s1])] at hcb
  rw [show (((nLa n).toNat : Nat) : Int) - 1 = nLa n - 1 by omega] at hcb
  have hq := e10_wl (σ := σ) 2 (nLa n) (-1) (Or.inr rfl) h3 (by omega) (fun z => by omega) hW hm D.toNat (nCl0 n) 0 x1 x2 (by rw [e0 4 (by omega), e0 0 (by omega), e0 1 (by omega)]; omega) hbc (by rw [e0 3 (by omega)]; omega) (by rw [e0 6 (by omega)]; omega) (by omega) (by omega) gH (fun fuel G x => f_X10_closesOpen_L44 fuel G (zL E 3 0 0) (zI (nLa n)) (zI D) x) D (by omega) (fun f τ x hx hx0 hx1 _ => by
    simp (disch := first | assumption | omega) only [f_X10_closesOpen_L44, zz_mdo hW hm, zz_ra hW hm, zw_at, zz_some, zz_lit, zz_num, zI_lt, zI_le, zI_eq, zI_nat, zz_b, if_pos, if_neg, if_true, if_false]) g_N (by unfold g_N; omega)
  obtain ⟨fu, hfu⟩ : ∃ fu, g_N - D.toNat = fu + 1 := ⟨g_N - D.toNat - 1, by unfold g_N; omega⟩
  rw [hfu] at hq
  have hc0 : zus n1 (nLa n) 4 (zls (fun t => decide (nS n t 0 = 1)) (nLa n).toNat + 1) = nCl0 n := by rw [hn1]; rfl
  simp (disch := first | assumption | omega) only [f_X10_closesOpen, hl, ho2, hz, e10_sets hW hm, zz_mdo hW hm, zz_ra hW hm, zw_at, zz_some, zz_lit, zz_num, zI_lt, zI_le, zI_eq, zI_nat, zz_b, if_pos, if_neg, if_true, if_false]
  rw [← hn1]
  simp (disch := first | assumption | omega) only [f_X10_closedBefore, hcb, e10_sets hW hm, zz_mdo hW hm, zz_ra hW hm, zw_at, zz_some, zz_lit, zz_num, zI_lt, zI_le, zI_eq, zI_nat, zz_b, if_pos, if_neg, if_true, if_false]
  rw [hc0]
  refine Eq.trans hq ?_
  rw [hcl]
  simp (disch := first | assumption | omega) only [f_X10_closesOpen_L44, e10_sets hW hm, zz_mdo hW hm, zz_ra hW hm, zw_at, zz_some, zz_lit, zz_num, zI_lt, zI_le, zI_eq, zI_nat, zz_b, if_pos, if_neg, if_true, if_false]
end zMod

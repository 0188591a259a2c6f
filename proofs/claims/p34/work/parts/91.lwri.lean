/-! Writing a file. -/
section yM
variable {E : zE} {σ : zW} {n : zN} {cv cs : Int → Int}
theorem nBc_step {n : zN} (hN : nWn n) (hB : nWb n) {kind se v k : Int} {m : Nat} (hr : n 4 + (m + 1 : Nat) ≤ n 0 - n 1) (hc : nBc n (m + 1) ≤ nGc n) (hk : kind = 1 ∨ kind = 2) (h0 : 0 ≤ se) (h1 : se < n 3) (h2 : -1 ≤ v) (h3 : v < n 6) (h4 : kind = 1 → 0 ≤ v) (h5 : 0 ≤ k) (h6 : k ≤ 7) : (n (103 + n 4) = 1 → 1 ≤ nGc n) ∧ nWn (nWrB n kind se v k) ∧ nWb (nWrB n kind se v k) ∧ nWrB n kind se v k 4 + m ≤ nWrB n kind se v k 0 - nWrB n kind se v k 1 ∧ nBc (nWrB n kind se v k) m ≤ nGc (nWrB n kind se v k) ∧ nWrB n kind se v k 4 = n 4 + 1 ∧ (∀ i, i ≠ 4 → i < 7 ∨ (103 ≤ i ∧ i < 295) ∨ 775 ≤ i → nWrB n kind se v k i = n i) := by
  have hN' := hN
  unfold nWn at hN'
  have hb := hB (n 4) (by omega) (by omega)
  have hcc : nBc n (m + 1) = zb (decide (n (103 + n 4) = 1)) + zcn (fun b => decide (n (103 + b) = 1)) (n 4 + 1) m := rfl
  have hz := zcn_rng (fun b => decide (n (103 + b) = 1)) m (n 4 + 1)
  have hg : n (103 + n 4) = 1 → 1 ≤ nGc n := fun z => by rw [zb_dpos z] at hcc; omega
  obtain ⟨a1, a2, a3, a4, a5⟩ := nWrB_W hN hB (kind := kind) (se := se) (v := v) (k := k) (by omega) hg hk h0 h1 h2 h3 h4 (by omega) (by omega)
  have e0 := a5 0 (by omega) (by omega)
  have e1 := a5 1 (by omega) (by omega)
  have hb' : nBc (nWrB n kind se v k) m = zcn (fun b => decide (n (103 + b) = 1)) (n 4 + 1) m := by
    unfold nBc
    rw [a4]
    exact zcn_congr _ _ (fun c c0 c1 => by rw [a5 (103 + c) (by omega) (by omega)])
  exact ⟨hg, a1, a2, by rw [a4, e0, e1]; omega, by rw [hb', a3]; omega, a4, a5⟩
theorem nWrB_679 {n : zN} (hN : nWn n) (hB : nWb n) {kind se v k : Int} (hr : n 4 < n 0 - n 1) (hg : n (103 + n 4) = 1 → 1 ≤ nGc n) : ∀ b, 0 ≤ b → b < 96 → b ≠ n 4 → nWrB n kind se v k (679 + b) = n (679 + b) := by
  intro b b0 b1 hb
  obtain ⟨t, hit, h1, h2, h3, h4, h5, h6⟩ := nWrB_spec hN hB kind se v k hr hg
  rcases (h4 b b0 b1).2.2.2.2.2 with z | z
  · exact absurd z.2.1 hb
  · exact z.1
theorem yl_L97 {MC MS kc ks : Nat} (hkc : kc ≤ MC) (hks : ks ≤ MS) {K : Int32 → gH → Prop} {f M v la : Int} (M8 : M ≤ 8) (v0 : 0 ≤ v) (la0 : 0 ≤ la) {cs : Int → Int} : ∀ (m fuel : Nat) (k : Int) (σ : zW) (n : zN), yG E σ n (fun u => if u = v then k else cv u) cs → nWn n → nWb n → n 4 + m ≤ n 0 - n 1 → nBc n m ≤ nGc n → 0 ≤ k → k + m = M → nV n v 1 + k = n 4 → v < n 6 → nLa n = la → 0 ≤ nV n v 1 → m < fuel → (∀ σ', yG E σ' (nWl 1 la v n k m) (fun u => if u = v then M else cv u) cs → ∃ q, f_X12_enter_r (zH E σ') (ySe E la) (zI f) (yVe E v) = some q ∧ ∃ x, g_i q (yVe E v) 13 1 = some x ∧ K x q) → w_X10_write_L97 MC MS K fuel (zH E σ) kc ks (zL E 5 0 0) (zI f) (zI M) (some (ySe E la)) (yVe E v) (zI k) := by
  intro m
  induction m with
  | zero =>
    intro fuel k σ n h hN hB _ _ k0 kM hV v1 hla _ hf hK
    cases fuel with
    | zero => omega
    | succ fuel =>
    obtain ⟨q, e1, x, e2, e3⟩ := hK σ (by rw [show M = k by omega]; exact h)
    have hus := h.2.1.2.1 la.toNat (by have := hN.r; unfold nLa at hla; omega)
    unfold w_X10_write_L97
    refine ⟨fun z => (by cases z), fun s hs => ?_⟩
    obtain rfl : ySe E la = s := by injection hs
    rw [if_pos (show zI M ≤ zI k by rw [zI_le (by omega) (by omega) (by omega) (by omega)]; omega)]
    refine ⟨_, _, gd_n _, (gj_n _).symm, (), (zz_lso (σ := σ) h.w hus).2.2.2, ⟨by omega, by omega⟩, q, e1, fun G hg hG => ?_⟩
    rw [gj_n] at hG
    subst hG
    exact ⟨x, e2, hkc, hks, e3⟩
  | succ m ih =>
    intro fuel k σ n h hN hB hr hc k0 kM hV v1 hla hV1 hf hK
    cases fuel with
    | zero => omega
    | succ fuel =>
    have hN' := hN.r
    have hu := h.u
    have huv := h.2.1.2.2 v.toNat (by omega)
    obtain ⟨c1, c2, c3, c4, c5, c6, c7⟩ := nBc_step hN hB (kind := 1) (se := la) (v := v) (k := k) (m := m) (by omega) hc (Or.inl rfl) la0 (by unfold nLa at hla; omega) (by omega) v1 (fun _ => v0) k0 (by omega)
    obtain ⟨τ, b1, b2, b3, b4, b5, b6⟩ := yl_burn_r h.w hu hN hB h.num h.blk v0 huv (kind := 1) (k := k) (by omega) c1
    rw [hla] at b1 b2 b3
    have G1 : yG E τ (nWrB n 1 la v k) (fun u => if u = v then k else cv u) cs := h.wr (by omega) v1 (fun i i4 hi => c7 i i4 (by omega)) c6 (by omega) (nWrB_679 hN hB (by omega) c1) b2 b3 b4 b5 b6
    have e6 : nWrB n 1 la v k 6 = n 6 := c7 6 (by omega) (by omega)
    have e3 : nWrB n 1 la v k 3 = n 3 := c7 3 (by omega) (by omega)
    have eV : nV (nWrB n 1 la v k) v 1 = nV n v 1 := c7 _ (by omega) (by omega)
    obtain ⟨w, hw⟩ : ∃ w : Nat, (w : Int) = v := ⟨v.toNat, by omega⟩
    have G2 := G1.kv (v := w) (by rw [e6]; omega) (by simp only [if_pos hw]; omega) (by simp only [if_pos hw]; rw [hw, eV, c6]; omega)
    simp only [if_pos hw] at G2
    rw [hw, eV, hV] at G2
    have G3 : yG E (zs τ 7 w 6 k (nPl (nWrB n 1 la v k) (n 4))) (nWrB n 1 la v k) (fun u => if u = v then k + 1 else cv u) cs := G2.cg (fun u _ _ => by by_cases z : u = v <;> simp [z]) (fun _ _ _ => rfl)
    unfold w_X10_write_L97
    refine ⟨fun z => (by cases z), fun s hs => ?_⟩
    obtain rfl : ySe E la = s := by injection hs
    rw [if_neg (show ¬ (zI M ≤ zI k) by rw [zI_le (by omega) (by omega) (by omega) (by omega)]; omega)]
    refine ⟨_, (zz_lvo (σ := σ) h.w huv).1, _, _, gd_n _, (gj_n _).symm, (), (by simp only [zz_ldo h.w hu]), ⟨by omega, by omega⟩, _, b1, fun G hg hG => ?_⟩
    rw [gj_n] at hG
    subst hG
    refine ⟨_, (zz_ha (σ := τ) h.w huv).2.1 k _ k0 (by omega), ?_⟩
    rw [show (zI k + (1 : Int32)) = zI (k + 1) from zI_add k 1, show v.toNat = w by omega]
    exact ih fuel (k + 1) _ _ G3 c2 c3 c4 c5 (by omega) (by omega) (by rw [eV, c6]; omega) (by rw [e6]; exact v1) (by unfold nLa; rw [e3]; exact hla) (by rw [eV]; exact hV1) (by omega) hK
end yM


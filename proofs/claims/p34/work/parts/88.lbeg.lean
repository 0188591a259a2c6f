/-! The law's disc in between: how many places of each version and directory are known; beginning a session. -/
def yRs' (κ : Nat → Int → Int) (n : zN) (s c : Int) : Prop := κ 0 0 = nS n s 0 ∧ κ 0 1 = nS n s 1 ∧ κ 0 2 = nS n s 2 ∧ κ 0 3 = nS n s 3 - 1 ∧ κ 0 4 = nS n s 4 - 1 ∧ κ 0 5 = nL n s ∧ (∀ k, 0 ≤ k → k < nS n s 2 → κ 6 k = nS n s (5 + 2 * k)) ∧ (∀ k, 0 ≤ k → k < c → κ 7 k = nPl n (nS n s 3 - 1 + k)) ∧ (∀ k, 0 ≤ k → k < nS n s 2 → κ 8 k = nS n s (6 + 2 * k) + 1)
def yRv' (κ : Nat → Int → Int) (n : zN) (v c : Int) : Prop := κ 0 0 = nV n v 0 ∧ κ 0 1 = v ∧ κ 0 2 = nV n v 1 ∧ κ 0 3 = nV n v 2 ∧ κ 0 4 = nV n v 3 ∧ κ 0 5 = nV n v 4 ∧ (∀ k, 0 ≤ k → k < c → κ 6 k = nPl n (nV n v 1 + k))
/-- the numbers in their bounds -/
def yBc (n : zN) (cv cs : Int → Int) : Prop := (0 ≤ n 4 ∧ n 4 ≤ 96) ∧ (0 ≤ n 3 ∧ n 3 ≤ 12) ∧ (0 ≤ n 6 ∧ n 6 ≤ 96) ∧ (∀ s, 0 ≤ s → s < n 3 → (0 ≤ nS n s 2 ∧ nS n s 2 ≤ 10) ∧ (∀ k, 0 ≤ k → k < cs s → 0 ≤ nS n s 3 - 1 + k ∧ nS n s 3 - 1 + k < n 4)) ∧ (∀ v, 0 ≤ v → v < n 6 → ∀ k, 0 ≤ k → k < cv v → 0 ≤ nV n v 1 + k ∧ nV n v 1 + k < n 4)
def yG (E : zE) (σ : zW) (n : zN) (cv cs : Int → Int) : Prop := yOk E n ∧ yU E n ∧ yRn (σ 5 0) n ∧ yRb (σ 5 0) n ∧ yRr (σ 5 0) n ∧ yBd σ n ∧ yBc n cv cs ∧ (∀ s : Nat, (s : Int) < n 3 → yRs' (σ 6 s) n s (cs s)) ∧ ∀ v : Nat, (v : Int) < n 6 → yRv' (σ 7 v) n v (cv v)
section yJ
variable {E : zE} {σ : zW} {n : zN} {cv cs : Int → Int}
theorem yG.ok (h : yG E σ n cv cs) : yOk E n := h.1
theorem yG.w (h : yG E σ n cv cs) : zWF E := h.1.1
theorem yG.u (h : yG E σ n cv cs) : zU E 5 0 = true := h.2.1.1
theorem yG.num (h : yG E σ n cv cs) : yRn (σ 5 0) n := h.2.2.1
theorem yG.blk (h : yG E σ n cv cs) : yRb (σ 5 0) n := h.2.2.2.1
theorem yG.rws (h : yG E σ n cv cs) : yRr (σ 5 0) n := h.2.2.2.2.1
theorem yG.bd (h : yG E σ n cv cs) : yBd σ n := h.2.2.2.2.2.1
theorem yG.bc (h : yG E σ n cv cs) : yBc n cv cs := h.2.2.2.2.2.2.1
theorem yG.ses (h : yG E σ n cv cs) : ∀ s : Nat, (s : Int) < n 3 → yRs' (σ 6 s) n s (cs s) := h.2.2.2.2.2.2.2.1
theorem yG.ver (h : yG E σ n cv cs) : ∀ v : Nat, (v : Int) < n 6 → yRv' (σ 7 v) n v (cv v) := h.2.2.2.2.2.2.2.2
/-- between two changes -/
def yI (E : zE) (σ : zW) (n : zN) : Prop := yG E σ n (fun v => nV n v 2) (fun s => nL n s)
theorem yI.r (h : yI E σ n) : yR E σ n := ⟨yG.ok h |> fun _ => h.2.1, h.num, h.blk, h.rws, h.ses, h.ver⟩
theorem yRs'.cg {κ : Nat → Int → Int} {n' : zN} {s c : Int} (h : yRs' κ n s c) (he : nS n s 2 ≤ 10) (hw : ∀ w, 0 ≤ w → w < 25 → nS n' s w = nS n s w) (hp : ∀ k, 0 ≤ k → k < c → nPl n' (nS n s 3 - 1 + k) = nPl n (nS n s 3 - 1 + k)) : yRs' κ n' s c := by
  obtain ⟨a0, a1, a2, a3, a4, a5, a6, a7, a8⟩ := h
  have eL : nL n' s = nL n s := nL_cg (hw 2 (by omega) (by omega)) (hw 3 (by omega) (by omega))
  unfold yRs'
  rw [hw 0 (by omega) (by omega), hw 1 (by omega) (by omega), hw 2 (by omega) (by omega), hw 3 (by omega) (by omega), hw 4 (by omega) (by omega), eL]
  exact ⟨a0, a1, a2, a3, a4, a5, fun k k0 k1 => by rw [hw _ (by omega) (by omega)]; exact a6 k k0 k1, fun k k0 k1 => by rw [hp k k0 k1]; exact a7 k k0 k1, fun k k0 k1 => by rw [hw _ (by omega) (by omega)]; exact a8 k k0 k1⟩
theorem yRv'.cg {κ : Nat → Int → Int} {n' : zN} {v c : Int} (h : yRv' κ n v c) (hw : ∀ w, 0 ≤ w → w < 5 → nV n' v w = nV n v w) (hp : ∀ k, 0 ≤ k → k < c → nPl n' (nV n v 1 + k) = nPl n (nV n v 1 + k)) : yRv' κ n' v c := by
  obtain ⟨a0, a1, a2, a3, a4, a5, a6⟩ := h
  unfold yRv'
  rw [hw 0 (by omega) (by omega), hw 1 (by omega) (by omega), hw 2 (by omega) (by omega), hw 3 (by omega) (by omega), hw 4 (by omega) (by omega)]
  exact ⟨a0, a1, a2, a3, a4, a5, fun k k0 k1 => by rw [hp k k0 k1]; exact a6 k k0 k1⟩
theorem nPl_cg {n n' : zN} {b : Int} (h : n' (679 + b) = n (679 + b)) : nPl n' b = nPl n b := by unfold nPl; rw [h]
theorem nV_nBg {v w : Int} (h3 : 0 ≤ n 3) (hv : 0 ≤ v) (hv1 : v < 96) (h0 : 0 ≤ w) (h1 : w < 5) : nV (nBg n) v w = nV n v w := nBg_lo h3 (by omega) (by omega)
/-- where a session of a longer world stands -/
theorem ySe_gr {E E' : zE} (h : yGr E E') {s : Int} (hu : zU E 6 s.toNat = true) : ySe E' s = ySe E s := (h 6 s.toNat 0 hu).2
theorem yVe_gr {E E' : zE} (h : yGr E E') {v : Int} (hu : zU E 7 v.toNat = true) : yVe E' v = yVe E v := (h 7 v.toNat 0 hu).2
theorem yl_begins (h : yG E σ n cv cs) (h3 : n 3 < 12) {K : Option Nat → gH → Prop} (hK : ∀ E' σ', yG E' σ' (nBg n) cv (fun s => if s = n 3 then 0 else cs s) → yGr E E' → (∀ (k d : Nat), k ≠ 5 → ¬ (k = 6 ∧ (d : Int) = n 3) → σ' k d = σ k d) → K (some (ySe E' (n 3))) (zH E' σ')) : w_X10_begins 4 32 (zH E σ) (zL E 5 0 0) K := by
  obtain ⟨c4, c3, c6, cS, cV⟩ := h.bc
  obtain ⟨b0, b14, b15, b16, b8⟩ := h.bd
  obtain ⟨e0, e1, e2, e3, e4, e5, e6⟩ := h.num
  have hs : (((n 3).toNat : Nat) : Int) = n 3 := by omega
  unfold w_X10_begins
  refine ⟨⟨by omega, by omega⟩, fun q0 z0 G0 i0 => ?_⟩
  refine ⟨G0, fun _ => none, fun _ => Or.inr rfl, by funext a; unfold gj; cases G0 a <;> rfl, ⟨by omega, by omega⟩, ?_⟩
  refine gi_X12 (by rw [i0]; exact gva_at) (fun q6 q7 q8 D g G4 _ i4 => ?_)
  have i4 : G4 = D := by rw [i4]; funext a; unfold gj; cases D a <;> rfl
  subst i4
  rw [i0] at g
  obtain ⟨E', w1, w2, w3, w4, w5, w6⟩ := y_newS h.ok h.bd hs z0 g
  subst w6
  have u5 : zU E' 5 0 = true := (w4 5 0 0 h.u).1
  have u6 : zU E' 6 (n 3).toNat = true := by rw [w3]; simp [yG1]
  have l5 : ∀ c, zL E' 5 0 c = zL E 5 0 c := fun c => (w4 5 0 c h.u).2
  have c5 : ∀ c, ySn σ (n 3).toNat 5 0 c = σ 5 0 c := fun c => by unfold ySn; rw [if_neg (by omega)]
  rw [← l5 0, ← w5]
  have x3 : g_i (zH E' (ySn σ (n 3).toNat)) (zL E' 5 0 0) 10 3 = some (zI (n 4)) := by rw [zg_ld3 w1 u5, c5, e3]
  have x4 : g_i (zH E' (zs (ySn σ (n 3).toNat) 6 (n 3).toNat 0 1 (n 4))) (zL E' 5 0 0) 10 4 = some (zI (n 3)) := by rw [zg_ld4 w1 u5, zs_ne (by omega), c5, e4]
  have z16 := fun τ => zz_ea (σ := τ) w1 u5
  have zo := fun τ => (zz_lso (σ := τ) w1 u6).2.2.2
  have zr : ∀ τ, g_rast 5 (zH E' τ) (zL E' 5 0 16) (zI (n 3)) (some (zL E' 6 (n 3).toNat 0)) = some (zH E' (zs τ 5 0 16 (n 3) (n 3 + 1))) := by
    intro τ
    have := zRast (σ := τ) (kk := 6) (v := n 3 + 1) w1 u5 (rfl : zA 5 16 = some (5, 12)) (Or.inl ⟨rfl, rfl⟩) (by decide) (i := n 3) (by omega) (by omega)
    rwa [if_neg (by omega), show n 3 + 1 - 1 = n 3 by omega] at this
  have p4 : g_put (zH E' (zs (ySn σ (n 3).toNat) 6 (n 3).toNat 0 1 (n 4))) (zL E' 5 0 0) 10 4 (.int (zI (n 3) + 1)) = some (zH E' (zs (zs (ySn σ (n 3).toNat) 6 (n 3).toNat 0 1 (n 4)) 5 0 0 4 (n 3 + 1))) := by rw [show (zI (n 3) + (1 : Int32)) = zI (n 3 + 1) from zI_add (n 3) 1]; exact zp_ld4 w1 u5 (n 3 + 1)
  refine ⟨_, x3, _, zp_ls1 w1 u6 (n 4), _, (by simp only [zz_ldo w1 u5]), _, x4, _, p4, (), zo _, _, zr _, by omega, by omega, ?_⟩
  have hold : ∀ (k d : Nat), k ≠ 5 → ¬ (k = 6 ∧ (d : Int) = n 3) → (zs (zs (zs (ySn σ (n 3).toNat) 6 (n 3).toNat 0 1 (n 4)) 5 0 0 4 (n 3 + 1)) 5 0 16 (n 3) (n 3 + 1)) k d = σ k d := by
    intro k d k5 k6
    rw [zs_kd (by omega), zs_kd (by omega), zs_kd (by omega)]
    funext c
    unfold ySn
    rw [if_neg (by omega)]
  have h5c : ∀ c, c ≠ 0 → c ≠ 16 → (zs (zs (zs (ySn σ (n 3).toNat) 6 (n 3).toNat 0 1 (n 4)) 5 0 0 4 (n 3 + 1)) 5 0 16 (n 3) (n 3 + 1)) 5 0 c = σ 5 0 c := by
    intro c c0 c16
    rw [zs_ne (by omega), zs_ne (by omega), zs_ne (by omega), c5]
  have lo : ∀ i, i < 1255 → i ≠ 3 → nBg n i = n i := fun i hi h3 => nBg_lo (by omega) hi h3
  have pl : ∀ b, 0 ≤ b → b < 96 → nPl (nBg n) b = nPl n b := fun b b0 b1 => nPl_cg (lo _ (by omega) (by omega))
  have hSo : ∀ s w, 0 ≤ s → s ≠ n 3 → 0 ≤ w → w < 25 → nS (nBg n) s w = nS n s w := fun s w s0 s1 w0 w1 => by rw [nS_nBg (by omega) s0 w0 w1, if_neg s1]
  have hSn : ∀ w, 0 ≤ w → w < 25 → nS (nBg n) (n 3) w = if w = 1 then n 4 else 0 := fun w w0 w1 => by rw [nS_nBg (by omega) (by omega) w0 w1, if_pos rfl]
  have n3' : nBg n 3 = n 3 + 1 := nBg_3 n
  refine hK E' _ ⟨⟨w1, w2, fun k d hu => ?_⟩, ⟨u5, fun s hs' => ?_, fun v hv => ?_⟩, ?_, ?_, ⟨fun v v0 v1 => ?_, fun s s0 s1 => ?_⟩, ⟨⟨by rw [n3']; omega, by rw [lo 6 (by omega) (by omega)]; omega⟩, fun j => ?_, fun j => ?_, fun j => ?_, fun s hs' j => ?_⟩, ⟨by rw [lo 4 (by omega) (by omega)]; omega, by rw [n3']; omega, by rw [lo 6 (by omega) (by omega)]; omega, fun s s0 s1 => ?_, fun v v0 v1 k k0 k1 => ?_⟩, fun s hs' => ?_, fun v hv => ?_⟩ w4 hold
  · rw [w3] at hu
    rw [n3', lo 6 (by omega) (by omega)]
    rcases Bool.or_eq_true_iff.mp hu with z | z
    · have := h.ok.2.2 k d z; omega
    · have := yG1_iff.mp z; omega
  · rw [n3'] at hs'
    rw [w3]
    by_cases z : (s : Int) < n 3
    · rw [h.2.1.2.1 s z]; rfl
    · rw [yG1_iff.mpr ⟨rfl, by omega⟩]; simp
  · rw [lo 6 (by omega) (by omega)] at hv
    rw [w3, h.2.1.2.2 v hv]; rfl
  · unfold yRn
    rw [zs_ne (by simp), lo 0 (by omega) (by omega), lo 1 (by omega) (by omega), lo 2 (by omega) (by omega), lo 4 (by omega) (by omega), lo 5 (by omega) (by omega), lo 6 (by omega) (by omega), n3']
    simp only [zs_at]
    rw [zs_ne (by omega), c5]
    refine ⟨?_, ?_, ?_, ?_, ?_, ?_, ?_⟩
    · rw [if_neg (by omega)]; exact e0
    · rw [if_neg (by omega)]; exact e1
    · rw [if_neg (by omega)]; exact e2
    · rw [if_neg (by omega)]; exact e3
    · rw [if_pos trivial]
    · rw [if_neg (by omega)]; exact e5
    · rw [if_neg (by omega)]; exact e6
  · exact h.blk.lo (fun i i0 i1 => lo i (by omega) (by omega)) (fun c c0 c1 => h5c c (by omega) (by omega))
  · rw [lo 6 (by omega) (by omega)] at v1
    rw [h5c 15 (by omega) (by omega)]
    exact h.rws.1 v v0 v1
  · rw [n3'] at s1
    rw [zs_at]
    by_cases z : s = n 3
    · rw [if_pos z, z]
    · rw [if_neg z, zs_ne (by simp), zs_ne (by simp), c5]
      exact h.rws.2 s s0 (by omega)
  · rw [h5c 14 (by omega) (by omega), lo 6 (by omega) (by omega)]; exact b14 j
  · rw [h5c 15 (by omega) (by omega), lo 6 (by omega) (by omega)]; exact b15 j
  · rw [zs_at, n3']
    by_cases z : j = n 3
    · rw [if_pos z]; omega
    · rw [if_neg z, zs_ne (by simp), zs_ne (by simp), c5]
      have := b16 j
      omega
  · rw [n3'] at hs'
    rw [lo 6 (by omega) (by omega)]
    by_cases z : (s : Int) = n 3
    · rw [zs_ne (by omega), zs_ne (by omega), zs_ne (by omega)]
      unfold ySn
      rw [if_pos ⟨rfl, by omega⟩, if_neg (by omega)]
      omega
    · rw [hold 6 s (by omega) (by omega)]
      exact b8 s (by omega) j
  · rw [n3'] at s1
    by_cases z : s = n 3
    · subst z
      rw [hSn 2 (by omega) (by omega), if_neg (by omega)]
      refine ⟨by omega, fun k k0 k1 => ?_⟩
      simp only [if_true] at k1; omega
    · rw [hSo s 2 s0 z (by omega) (by omega), hSo s 3 s0 z (by omega) (by omega), lo 4 (by omega) (by omega)]
      simp only [if_neg z]
      exact cS s s0 (by omega)
  · rw [lo 6 (by omega) (by omega)] at v1
    rw [nV_nBg (by omega) v0 (by omega) (by omega) (by omega), lo 4 (by omega) (by omega)]
    exact cV v v0 v1 k k0 k1
  · rw [n3'] at hs'
    by_cases z : (s : Int) = n 3
    · have es : s = (n 3).toNat := by omega
      rw [z]
      simp only [if_true]
      have k6 : ∀ c, (zs (zs (zs (ySn σ (n 3).toNat) 6 (n 3).toNat 0 1 (n 4)) 5 0 0 4 (n 3 + 1)) 5 0 16 (n 3) (n 3 + 1)) 6 s c = (zs (ySn σ (n 3).toNat) 6 (n 3).toNat 0 1 (n 4)) 6 (n 3).toNat c := by
        intro c; rw [es, zs_ne (by omega), zs_ne (by omega)]
      have eL : nL (nBg n) (n 3) = 0 := by unfold nL; rw [hSn 3 (by omega) (by omega)]; simp
      unfold yRs'
      rw [k6, hSn 0 (by omega) (by omega), hSn 1 (by omega) (by omega), hSn 2 (by omega) (by omega), hSn 3 (by omega) (by omega), hSn 4 (by omega) (by omega), eL]
      simp only [zs_at]
      unfold ySn
      simp
      exact ⟨fun k _ _ => by omega, fun k _ _ => by omega, fun k _ _ => by omega⟩
    · rw [hold 6 s (by omega) (by omega)]
      simp only [if_neg z]
      have cc := cS s (by omega) (by omega)
      exact (h.ses s (by omega)).cg cc.1.2 (fun w w0 w1 => hSo s w (by omega) z w0 w1) (fun k k0 k1 => pl _ (cc.2 k k0 k1).1 (by have := (cc.2 k k0 k1).2; omega))
  · rw [lo 6 (by omega) (by omega)] at hv
    rw [hold 7 v (by omega) (by omega)]
    exact (h.ver v hv).cg (fun w w0 w1 => nV_nBg (by omega) (by omega) (by omega) w0 w1) (fun k k0 k1 => pl _ (cV v (by omega) hv k k0 k1).1 (by have := (cV v (by omega) hv k k0 k1).2; omega))
end yJ


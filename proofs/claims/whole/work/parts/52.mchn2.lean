/-! The reference: recover, scratch, setScan, snapshots. -/
section zMod
variable {E : zE} {σ : zW} {n : zN}
theorem e10_kp2 (hW : zWF E) (hm : zU E 3 0 = true) (h1 : σ 3 0 1 = n) {c : Int} {U : Int → zN} (hU : zUn σ c U) {τ : zW} (hT : zT σ τ 0) : ∃ σ2, f_X10_keeps (zH E τ) (zL E 3 0 0) = some (zH E (zw σ2 n)) ∧ zK τ σ2 ∧ ∀ n', zCh σ (zw σ2 n') 0 ∧ zUn (zw σ2 n') (kC c) (kU c U n) := by
  obtain ⟨σ2, a1, a2, a3⟩ := e10_keeps hW hm (hT.n.trans h1) (hU.t hT)
  have h2 : σ2 3 0 1 = n := (a2.1 3 0 1 (by omega)).trans (hT.n.trans h1)
  exact ⟨σ2, by rw [a1, zw_self h2], a2, fun n' => ⟨zCh.mk3 hT a2 n', a3.w n'⟩⟩
theorem e10_recover_no (hW : zWF E) (hm : zU E 3 0 = true) (h1 : σ 3 0 1 = n) (hn : nW n) (hy : nWr n ≠ 0) : ∃ σ', f_X10_recover (zH E σ) (zL E 3 0 0) = some (zH E σ', zI 0) ∧ zT σ σ' 1 := by
  obtain ⟨τ, hz⟩ : ∃ y, zs σ 3 0 0 0 0 = y := ⟨_, rfl⟩
  have hzt : zth σ 0 = τ := hz
  have hT : zT σ τ 0 := hzt ▸ zT.th σ 0
  have h11 : τ 3 0 1 = n := hT.n.trans h1
  have h00 : τ 3 0 0 0 = 0 := hT.2.2
  have hN' := hn.1.r
  have hmt := zz_mdo (σ := τ) hW hm
  have hms := zz_mdo (σ := σ) hW hm
  obtain ⟨σ1, y1, y2, _⟩ := e10_whyRecover hW hm h11 hn
  have hr := nWr_rng n
  have hT1 : zT σ σ1 0 := hT.q y2
  have hm1 := zz_mdo (σ := σ1) hW hm
  have h2 := e10_th1 (w := 1) hW hm hT1.2.2 (by omega) (by omega)
  refine ⟨zth σ1 1, ?_, hT1.t (zT.th σ1 1)⟩
  simp (disch := first | assumption | omega) only [f_X10_recover, f_X10_recover_J18, zp_md0 hW hm, hz, hmt, hm1, y1, h2, zz_some, zz_lit, zz_num, zI_lt, zI_le, zI_eq, zI_nat, zz_b, if_pos, if_neg, if_true, if_false]
  try simp
theorem e10_recover_ok (hW : zWF E) (hm : zU E 3 0 = true) (h1 : σ 3 0 1 = n) (hn : nW n) {c : Int} {U : Int → zN} (hU : zUn σ c U) (hy : nWr n = 0) : ∃ σ', f_X10_recover (zH E σ) (zL E 3 0 0) = some (zH E σ', zI (nCr n)) ∧ zCh σ σ' 0 ∧ σ' 3 0 1 = nRec n ∧ zUn σ' (kC c) (kU c U n) := by
  obtain ⟨τ, hz⟩ : ∃ y, zs σ 3 0 0 0 0 = y := ⟨_, rfl⟩
  have hzt : zth σ 0 = τ := hz
  have hT : zT σ τ 0 := hzt ▸ zT.th σ 0
  have h11 : τ 3 0 1 = n := hT.n.trans h1
  have h00 : τ 3 0 0 0 = 0 := hT.2.2
  have hN' := hn.1.r
  have hmt := zz_mdo (σ := τ) hW hm
  have hms := zz_mdo (σ := σ) hW hm
  obtain ⟨σ1, y1, y2, y3⟩ := e10_whyRecover hW hm h11 hn
  rw [hy] at y1
  have hT1 : zT σ σ1 0 := hT.q y2
  have hm1 := zz_mdo (σ := σ1) hW hm
  have hth := fun w : Int => e10_th0 (w := w) hW hm hT1.2.2
  obtain ⟨σ2, k1, kk, k2⟩ := e10_kp2 hW hm h1 hU hT1
  obtain ⟨r1, r2, r3, r4, ⟨a1, a2⟩, ⟨b1, b2, b3⟩, ⟨c1, c2, c3, c4⟩, w⟩ := nRec_W hn hy
  obtain ⟨l0, lst⟩ := nLo_iff.mp r1
  have hla0 : nLa n = n 3 - 1 := rfl
  have hm2 := zz_mdo (σ := zw σ2 n) hW hm
  have hla := e10_latest (σ := zw σ2 n) hW hm zw_at
  have hs1 := e10_sets (σ := σ2) (x := 3) hW hm n (s := nLa n) (w := 0) (by omega) (by omega) (by omega) (by omega)
  obtain ⟨n1, hn1⟩ : ∃ x, x = zus n (nLa n) 0 3 := ⟨_, rfl⟩
  have hrec : nRec n = nCl (nRl (nRc n (nLa n)) (fun v => nV n v 0) (nBg n1) 0 (n 6).toNat) := by unfold nRec; rw [← hn1]
  rw [← hn1] at hs1 a1 a2 b1 b2 b3 c1 c2 c3 c4
  have e1 : ∀ i, i < 1255 → n1 i = n i := fun i hi => by rw [hn1]; exact zus_lo l0 (by omega) hi
  have hent : nS (nBg n1) (n1 3) 2 = 0 := by
    have h5 := nS_nBg (n := n1) (s := n 3) (w := 2) (by rw [e1 3 (by omega)]; omega) (by omega) (by omega) (by omega)
    rw [e1 3 (by omega), if_pos rfl, if_neg (by omega)] at h5
    rw [e1 3 (by omega)]
    exact h5
  have hco : nCo n = nCll (nRc n (nLa n)) (n 6).toNat := by unfold nCo; rw [if_pos r1]
  have hlen : ((nCll (nRc n (nLa n)) (n 6).toNat).length : Int) = nCr n := by rw [nCll_len]; unfold nCr; rw [if_pos r1]
  rw [hco] at y3
  have hcl : ∀ m : zN, zCl (zw σ2 m) (nCll (nRc n (nLa n)) (n 6).toNat) := fun m => by
    refine ⟨?_, fun k hk => ?_⟩
    · unfold zw; rw [zr_ne (by omega), kk.2 22 (by omega)]; exact y3.1
    · unfold zw; rw [zr_ne (by omega), kk.1 3 0 21 (by omega)]; exact y3.2 k hk
  obtain ⟨fu, q⟩ := e10_rec_L (σ := σ2) hW hm hn a1 a2 (by rw [e1 3 (by omega)]; exact r3) e1 (l := nLa n) hcl b1 b2 hent (n 6).toNat g_N 0 (by omega) (by unfold g_N; omega)
  have s0 : nSt (nRc n (nLa n)) (fun v => nV n v 0) n1 0 = n1 := by unfold nSt; rw [if_pos (show nCll (nRc n (nLa n)) 0 = [] from rfl)]
  have sN : nSt (nRc n (nLa n)) (fun v => nV n v 0) n1 (n 6).toNat = nRl (nRc n (nLa n)) (fun v => nV n v 0) (nBg n1) 0 (n 6).toNat := by
    unfold nSt
    rw [if_neg (by intro h; rw [h] at hlen; simp at hlen; omega)]
  obtain ⟨n3, hn3⟩ : ∃ x, x = nRl (nRc n (nLa n)) (fun v => nV n v 0) (nBg n1) 0 (n 6).toNat := ⟨_, rfl⟩
  rw [← hn3] at c1 c2 sN hrec
  rw [s0, sN, hlen] at q
  rw [show ((nCll (nRc n (nLa n)) 0).length : Int) = 0 from rfl] at q
  have hm3 := zz_mdo (σ := zw σ2 n3) hW hm
  have g22 := zg_md22 (σ := zw σ2 n3) hW hm
  rw [(hcl n3).1, hlen] at g22
  have hcO := e10_closesOpen (σ := σ2) hW hm c1 c2
  rw [← hrec] at hcO
  have g22' := zg_md22 (σ := zw σ2 (nRec n)) hW hm
  rw [(hcl _).1, hlen] at g22'
  have hcr := nCr_rng hn
  have hend : f_X10_recover_L43 (fu + 1) (zH E (zw σ2 n3)) (zL E 3 0 0) (zI (nCr n)) = some (zH E (zw σ2 (nRec n)), zI (nCr n)) := by
    simp (disch := first | assumption | omega) only [f_X10_recover_L43, hm3, g22, hcO, g22', zz_some, zz_lit, zz_num, zI_lt, zI_le, zI_eq, zI_nat, zz_b, if_pos, if_neg, if_true, if_false]
  refine ⟨zw σ2 (nRec n), ?_, (k2 _).1, zw_at, (k2 _).2⟩
  have hj : f_X10_recover_J18 (zH E σ1) (zL E 3 0 0) (zL E 3 0 0) (zI 0) = some (zH E (zw σ2 (nRec n)), zI (nCr n)) := by
    rw [← hend, ← q]
    simp (disch := first | assumption | omega) only [f_X10_recover_J18, hm1, hm2, hth, k1, hla, hs1, zz_some, zz_lit, zz_num, zI_lt, zI_le, zI_eq, zI_nat, zz_b, if_pos, if_neg, if_true, if_false]
  simp (disch := first | assumption | omega) only [f_X10_recover, zp_md0 hW hm, hz, hmt, y1, hj, zz_some, zz_lit, zz_num, zI_lt, zI_le, zI_eq, zI_nat, zz_b, if_pos, if_neg, if_true, if_false]
  try simp
theorem e10_scratch_ok (hW : zWF E) (hm : zU E 3 0 = true) (h1 : σ 3 0 1 = n) (hn : nW n) {c : Int} {U : Int → zN} (hU : zUn σ c U) {b : Int} (hb : 0 ≤ b ∧ b < n 0) : ∃ σ', f_X10_scratch (zH E σ) (zL E 3 0 0) (zI b) = some (zH E σ', zI (zb (decide ((if n (7 + b) = 0 then n (103 + b) else n (199 + b)) = 0)))) ∧ zCh σ σ' 0 ∧ σ' 3 0 1 = nScr n b ∧ zUn σ' (kC c) (kU c U n) := by
  obtain ⟨τ, hz⟩ : ∃ y, zs σ 3 0 0 0 0 = y := ⟨_, rfl⟩
  have hzt : zth σ 0 = τ := hz
  have hT : zT σ τ 0 := hzt ▸ zT.th σ 0
  have h11 : τ 3 0 1 = n := hT.n.trans h1
  have h00 : τ 3 0 0 0 = 0 := hT.2.2
  have hN' := hn.1.r
  have hmt := zz_mdo (σ := τ) hW hm
  have hms := zz_mdo (σ := σ) hW hm
  have hno := e10_noBlock (x := b) hW hm h1 hn (by omega) (by omega)
  rw [hzt, if_pos hb] at hno
  obtain ⟨σ2, k1, k2⟩ := e10_kp hW hm h1 hU hT
  have hm2 := zz_mdo (σ := zw σ2 n) hW hm
  have hra := zz_ra (σ := zw σ2 n) hW hm
  have hbk := hn.2.1 b hb.1 (by omega)
  refine ⟨zw σ2 (nScr n b), ?_, (k2 _).1, zw_at, (k2 _).2⟩
  unfold nScr
  by_cases hk : n (7 + b) = 0
  · rw [if_pos hk, if_pos hk]
    rcases hbk.2.1 with h | h
    · rw [decide_eq_true h]
      simp (disch := first | assumption | omega) only [f_X10_scratch, f_X10_scratch_J38, f_X10_scratch_J54, hms, hmt, hm2, hno, k1, hra, zw_at, zs_zw, hk, h, zz_some, zz_lit, zz_num, zI_lt, zI_le, zI_eq, zI_nat, zz_b, if_pos, if_neg, if_true, if_false]
      simp [zb]
    · rw [decide_eq_false (by omega)]
      simp (disch := first | assumption | omega) only [f_X10_scratch, f_X10_scratch_J38, f_X10_scratch_J54, hms, hmt, hm2, hno, k1, hra, zw_at, zs_zw, hk, h, zz_some, zz_lit, zz_num, zI_lt, zI_le, zI_eq, zI_nat, zz_b, if_pos, if_neg, if_true, if_false]
      simp [zb]
  · rw [if_neg hk, if_neg hk]
    rcases hbk.2.2.1 with h | h
    · rw [decide_eq_true h]
      simp (disch := first | assumption | omega) only [f_X10_scratch, f_X10_scratch_J38, f_X10_scratch_J54, hms, hmt, hm2, hno, k1, hra, zw_at, zs_zw, h, zz_some, zz_lit, zz_num, zI_lt, zI_le, zI_eq, zI_nat, zz_b, if_pos, if_neg, if_true, if_false]
      simp [zb, hk]
    · rw [decide_eq_false (by omega)]
      simp (disch := first | assumption | omega) only [f_X10_scratch, f_X10_scratch_J38, f_X10_scratch_J54, hms, hmt, hm2, hno, k1, hra, zw_at, zs_zw, h, zz_some, zz_lit, zz_num, zI_lt, zI_le, zI_eq, zI_nat, zz_b, if_pos, if_neg, if_true, if_false]
      simp [zb, hk]
theorem e10_scratch_no (hW : zWF E) (hm : zU E 3 0 = true) (h1 : σ 3 0 1 = n) (hn : nW n) {b : Int} (hb0 : -2147483648 ≤ b) (hb1 : b < 2147483648) (hb : ¬ (0 ≤ b ∧ b < n 0)) : ∃ σ', f_X10_scratch (zH E σ) (zL E 3 0 0) (zI b) = some (zH E σ', zI 0) ∧ zT σ σ' 1 := by
  obtain ⟨τ, hz⟩ : ∃ y, zs σ 3 0 0 0 0 = y := ⟨_, rfl⟩
  have hzt : zth σ 0 = τ := hz
  have hT : zT σ τ 0 := hzt ▸ zT.th σ 0
  have h11 : τ 3 0 1 = n := hT.n.trans h1
  have h00 : τ 3 0 0 0 = 0 := hT.2.2
  have hN' := hn.1.r
  have hmt := zz_mdo (σ := τ) hW hm
  have hms := zz_mdo (σ := σ) hW hm
  have hno := e10_noBlock (x := b) hW hm h1 hn hb0 hb1
  rw [if_neg hb] at hno
  refine ⟨zth σ 1, ?_, zT.th σ 1⟩
  simp (disch := first | assumption | omega) only [f_X10_scratch, hms, hno, zz_some, zz_lit, zz_num, zI_lt, zI_le, zI_eq, zI_nat, zz_b, if_pos, if_neg, if_true, if_false]
  try simp
theorem e10_setScan (hW : zWF E) (hm : zU E 3 0 = true) (h1 : σ 3 0 1 = n) (hn : nW n) {c : Int} {U : Int → zN} (hU : zUn σ c U) {w : Bool} : ∃ σ', f_X10_setScan (zH E σ) (zL E 3 0 0) (zI (zb w)) = some (zH E σ', zI (n 5)) ∧ zCh σ σ' 0 ∧ σ' 3 0 1 = zu n 5 (zb w) ∧ zUn σ' (kC c) (kU c U n) := by
  obtain ⟨τ, hz⟩ : ∃ y, zs σ 3 0 0 0 0 = y := ⟨_, rfl⟩
  have hzt : zth σ 0 = τ := hz
  have hT : zT σ τ 0 := hzt ▸ zT.th σ 0
  have h11 : τ 3 0 1 = n := hT.n.trans h1
  have h00 : τ 3 0 0 0 = 0 := hT.2.2
  have hN' := hn.1.r
  have hmt := zz_mdo (σ := τ) hW hm
  have hms := zz_mdo (σ := σ) hW hm
  obtain ⟨σ2, k1, k2⟩ := e10_kp hW hm h1 hU hT
  have hm2 := zz_mdo (σ := zw σ2 n) hW hm
  have hra := zz_ra (σ := zw σ2 n) hW hm
  refine ⟨zw σ2 (zu n 5 (zb w)), ?_, (k2 _).1, zw_at, (k2 _).2⟩
  rcases hN'.2.2.2.2.2.1 with h | h
  · cases w
    all_goals simp (disch := first | assumption | omega) only [f_X10_setScan, f_X10_setScan_J24, zp_md0 hW hm, hz, hmt, hm2, k1, hra, zw_at, zs_zw, h, zb, zz_some, zz_lit, zz_num, zI_lt, zI_le, zI_eq, zI_nat, zz_b, if_pos, if_neg, if_true, if_false]
    all_goals try simp
  · cases w
    all_goals simp (disch := first | assumption | omega) only [f_X10_setScan, f_X10_setScan_J24, zp_md0 hW hm, hz, hmt, hm2, k1, hra, zw_at, zs_zw, h, zb, zz_some, zz_lit, zz_num, zI_lt, zI_le, zI_eq, zI_nat, zz_b, if_pos, if_neg, if_true, if_false]
    all_goals try simp

theorem e10_save_no (hW : zWF E) (hm : zU E 3 0 = true) {x : Int} (hx0 : -2147483648 ≤ x) (hx1 : x < 2147483648) (hx : ¬ (0 ≤ x ∧ x < 2)) : ∃ σ', f_X10_saveSnapshot (zH E σ) (zL E 3 0 0) (zI x) = some (zH E σ', zI 0) ∧ zT σ σ' 1 := by
  have hms := zz_mdo (σ := σ) hW hm
  have hno := e10_no (σ := σ) (x := x) (m := 2) hW hm hx0 hx1 (by omega) (by omega)
  rw [if_neg hx] at hno
  refine ⟨zth σ 1, ?_, zT.th σ 1⟩
  simp (disch := first | assumption | omega) only [f_X10_saveSnapshot, hms, hno, zz_some, zz_lit, zz_num, zI_lt, zI_le, zI_eq, zI_nat, zz_b, if_pos, if_neg, if_true, if_false]
  try simp
theorem e10_restore_no (hW : zWF E) (hm : zU E 3 0 = true) {h : Int → Bool} {V : Int → zN} (hS : zSn σ h V) {x : Int} (hx0 : -2147483648 ≤ x) (hx1 : x < 2147483648) {e : Int} (he : e = if 0 ≤ x ∧ x < 2 then (if h x = true then 0 else 2) else 1) (he0 : e ≠ 0) : ∃ σ', f_X10_restoreSnapshot (zH E σ) (zL E 3 0 0) (zI x) = some (zH E σ', zI 0) ∧ zT σ σ' e := by
  have hms := zz_mdo (σ := σ) hW hm
  have hno := e10_no (σ := σ) (x := x) (m := 2) hW hm hx0 hx1 (by omega) (by omega)
  by_cases hx : 0 ≤ x ∧ x < 2
  · rw [if_pos hx] at hno he
    have hmt := zz_mdo (σ := zth σ 0) hW hm
    have hra := zz_ra (σ := zth σ 0) hW hm
    have hq := (hS x hx.1 hx.2).1
    cases hh : h x
    · rw [hh, if_neg (by simp)] at he
      subst he
      rw [hh] at hq
      have h2 := e10_th1 (σ := zth σ 0) (w := 2) hW hm zth_0 (by omega) (by omega)
      have hr : zth σ 0 3 0 27 x = 0 := by rw [zth_c (by omega), hq]; rfl
      refine ⟨zth (zth σ 0) 2, ?_, (zT.th σ 0).t (zT.th _ 2)⟩
      simp (disch := first | assumption | omega) only [f_X10_restoreSnapshot, f_X10_restoreSnapshot_J24, hms, hmt, hra, hno, hr, h2, zz_some, zz_lit, zz_num, zI_lt, zI_le, zI_eq, zI_nat, zz_b, if_pos, if_neg, if_true, if_false]
      try simp
    · rw [hh, if_pos rfl] at he; exact absurd he he0
  · rw [if_neg hx] at hno he
    subst he
    refine ⟨zth σ 1, ?_, zT.th σ 1⟩
    simp (disch := first | assumption | omega) only [f_X10_restoreSnapshot, hms, hno, zz_some, zz_lit, zz_num, zI_lt, zI_le, zI_eq, zI_nat, zz_b, if_pos, if_neg, if_true, if_false]
    try simp
/-- saving: row 26 and the flags of row 27 alone -/
theorem e10_save_ok (hW : zWF E) (hm : zU E 3 0 = true) (h1 : σ 3 0 1 = n) {h : Int → Bool} {V : Int → zN} (hS : zSn σ h V) {x : Int} (hx : 0 ≤ x ∧ x < 2) : ∃ σ', f_X10_saveSnapshot (zH E σ) (zL E 3 0 0) (zI x) = some (zH E σ', zI (zb (h x))) ∧ (∀ k d c, ¬ (k = 3 ∧ d = 0 ∧ (c = 0 ∨ c = 26 ∨ c = 27)) → σ' k d c = σ k d c) ∧ (∀ i, i ≠ 0 → σ' 3 0 0 i = σ 3 0 0 i) ∧ σ' 3 0 0 0 = 0 ∧ zSn σ' (fun j => decide (j = x) || h j) (fun j => if j = x then n else V j) := by
  obtain ⟨τ, hτ⟩ : ∃ y, zth σ 0 = y := ⟨_, rfl⟩
  have hms := zz_mdo (σ := σ) hW hm
  have hmt := zz_mdo (σ := τ) hW hm
  have hno := e10_no (σ := σ) (x := x) (m := 2) hW hm (by omega) (by omega) (by omega) (by omega)
  rw [if_pos hx, hτ] at hno
  have hq := (hS x hx.1 hx.2).1
  have hc : ∀ k d c, ¬ (k = 3 ∧ d = 0 ∧ c = 0) → τ k d c = σ k d c := fun k d c z => by rw [← hτ, zth_c z]
  have hcp := e10_copies (c1 := 1) (c2 := 26) (N1 := 1555) (N2 := 3110) hW hm rfl rfl (by omega) (by omega) (a := 0) (b := 1555 * x) (by omega) (by omega) (by omega) (by omega) (Or.inl (by omega)) τ
  obtain ⟨τ1, ht1⟩ : ∃ y, y = zr τ 3 0 26 (fun i => if 1555 * x ≤ i ∧ i < 1555 * x + 1555 then τ 3 0 1 (0 + (i - 1555 * x)) else τ 3 0 26 i) := ⟨_, rfl⟩
  rw [← ht1] at hcp
  have hra := zz_ra (σ := τ) hW hm
  have hra1 := zz_ra (σ := τ1) hW hm
  have hm1 := zz_mdo (σ := τ1) hW hm
  have hr : τ 3 0 27 x = zb (h x) := by rw [hc _ _ _ (by omega), hq]
  refine ⟨zs τ1 3 0 27 x 1, ?_, fun k d c z => ?_, fun i hi => ?_, ?_, fun j hj0 hj1 => ⟨?_, fun hj i hi0 hi1 => ?_⟩⟩
  · simp (disch := first | assumption | omega) only [f_X10_saveSnapshot, hms, hmt, hra, hno, hr, hcp, hm1, hra1, zz_some, zz_lit, zz_num, zI_lt, zI_le, zI_eq, zI_nat, zz_b, if_pos, if_neg, if_true, if_false]
    try simp
  · rw [zs_ne (by omega), ht1, zr_ne (by omega), hc k d c (by omega)]
  · rw [zs_ne (by omega), ht1, zr_ne (by omega), ← hτ, zth_i hi]
  · rw [zs_ne (by omega), ht1, zr_ne (by omega), ← hτ, zth_0]
  · show zs τ1 3 0 27 x 1 3 0 27 j = zb (decide (j = x) || h j)
    rw [zs_at]
    by_cases hjx : j = x
    · rw [if_pos hjx, decide_eq_true hjx]; rfl
    · rw [if_neg hjx, decide_eq_false hjx, ht1, zr_ne (by omega), hc _ _ _ (by omega), (hS j hj0 hj1).1]; rfl
  · show zs τ1 3 0 27 x 1 3 0 26 (1555 * j + i) = (if j = x then n else V j) i
    rw [zs_ne (by omega), ht1, zr_at]
    by_cases hjx : j = x
    · rw [if_pos hjx, if_pos (by omega), hc _ _ _ (by omega), h1]
      congr 1
      omega
    · rw [if_neg hjx, if_neg (by omega), hc _ _ _ (by omega)]
      simp only [decide_eq_false hjx, Bool.false_or] at hj
      exact (hS j hj0 hj1).2 hj i hi0 hi1
theorem e10_restore_ok (hW : zWF E) (hm : zU E 3 0 = true) {h : Int → Bool} {V : Int → zN} (hS : zSn σ h V) {x : Int} (hx : 0 ≤ x ∧ x < 2) (hh : h x = true) : ∃ σ', f_X10_restoreSnapshot (zH E σ) (zL E 3 0 0) (zI x) = some (zH E σ', zI (V x 3)) ∧ (∀ k d c, ¬ (k = 3 ∧ d = 0 ∧ (c = 0 ∨ c = 1)) → σ' k d c = σ k d c) ∧ (∀ i, i ≠ 0 → i ≠ 24 → σ' 3 0 0 i = σ 3 0 0 i) ∧ σ' 3 0 0 0 = 0 ∧ (∀ i, 0 ≤ i → i < 1555 → σ' 3 0 1 i = V x i) ∧ ∀ U, zUn σ' 0 U := by
  obtain ⟨τ, hτ⟩ : ∃ y, zth σ 0 = y := ⟨_, rfl⟩
  have hms := zz_mdo (σ := σ) hW hm
  have hmt := zz_mdo (σ := τ) hW hm
  have hno := e10_no (σ := σ) (x := x) (m := 2) hW hm (by omega) (by omega) (by omega) (by omega)
  rw [if_pos hx, hτ] at hno
  have hc : ∀ k d c, ¬ (k = 3 ∧ d = 0 ∧ c = 0) → τ k d c = σ k d c := fun k d c z => by rw [← hτ, zth_c z]
  have h00 : τ 3 0 0 0 = 0 := by rw [← hτ]; exact zth_0
  have hth := fun w : Int => e10_th0 (σ := τ) (w := w) hW hm h00
  have hcp := e10_copies (c1 := 26) (c2 := 1) (N1 := 3110) (N2 := 1555) hW hm rfl rfl (by omega) (by omega) (a := 1555 * x) (b := 0) (by omega) (by omega) (by omega) (by omega) (Or.inl (by omega)) τ
  obtain ⟨τ1, ht1⟩ : ∃ y, y = zr τ 3 0 1 (fun i => if 0 ≤ i ∧ i < 0 + 1555 then τ 3 0 26 (1555 * x + (i - 0)) else τ 3 0 1 i) := ⟨_, rfl⟩
  rw [← ht1] at hcp
  have hra := zz_ra (σ := τ) hW hm
  obtain ⟨τ2, ht2⟩ : ∃ y, zs τ1 3 0 0 24 0 = y := ⟨_, rfl⟩
  have hm2 := zz_mdo (σ := τ2) hW hm
  have hra2 := zz_ra (σ := τ2) hW hm
  have hr : τ 3 0 27 x = 1 := by rw [hc _ _ _ (by omega), (hS x hx.1 hx.2).1, hh]; rfl
  have hrow : ∀ i, 0 ≤ i → i < 1555 → τ2 3 0 1 i = V x i := fun i hi0 hi1 => by
    rw [← ht2, zs_ne (by omega), ht1, zr_at, if_pos (by omega), hc _ _ _ (by omega), show i - 0 = i by omega]
    exact (hS x hx.1 hx.2).2 hh i hi0 hi1
  have h3 := hrow 3 (by omega) (by omega)
  refine ⟨τ2, ?_, fun k d c z => ?_, fun i hi hi2 => ?_, ?_, hrow, fun U => ⟨by rw [← ht2, zs_at, if_pos rfl], by omega, by omega, fun k i a b => by omega⟩⟩
  · simp (disch := first | assumption | omega) only [f_X10_restoreSnapshot, f_X10_restoreSnapshot_J24, hms, hmt, hra, hno, hr, hth, hcp, zp_md24 hW hm, ht2, hm2, hra2, h3, zz_some, zz_lit, zz_num, zI_lt, zI_le, zI_eq, zI_nat, zz_b, if_pos, if_neg, if_true, if_false]
    try simp
  · rw [← ht2, zs_ne (by omega), ht1, zr_ne (by omega), hc k d c (by omega)]
  · rw [← ht2, zs_at, if_neg hi2, ht1, zr_ne (by omega), ← hτ, zth_i hi]
  · rw [← ht2, zs_at, if_neg (by omega), ht1, zr_ne (by omega), h00]

end zMod

/-! The reference: what it reads off its row. -/
section zMod
variable {E : zE} {σ : zW} {n : zN}
theorem e10_mainMany (hW : zWF E) (hm : zU E 3 0 = true) (h1 : σ 3 0 1 = n) (hN : nWn n) : f_X10_mainMany (zH E σ) (zL E 3 0 0) = some (zI (n 0 - n 1)) := by
  simp (disch := first | assumption | omega) only [f_X10_mainMany, zz_mdo hW hm, zz_ra hW hm, h1, zz_some, zz_lit, zz_num, zI_lt, zI_le, zI_eq, zI_nat, zz_b, if_pos, if_neg, if_true, if_false]
theorem e10_isMain (hW : zWF E) (hm : zU E 3 0 = true) (h1 : σ 3 0 1 = n) (hN : nWn n) {b : Int} (h0 : 0 ≤ b) (h2 : b < 96) : f_X10_isMain (zH E σ) (zL E 3 0 0) (zI b) = some (zI (zb (decide (b < n 0 - n 1)))) := by
  have hN' := hN.r
  simp (disch := first | assumption | omega) only [f_X10_isMain, e10_mainMany hW hm h1 hN, zz_mdo hW hm, zz_ra hW hm, h1, zz_some, zz_lit, zz_num, zI_lt, zI_le, zI_eq, zI_nat, zz_b, if_pos, if_neg, if_true, if_false]
  by_cases h : b < n 0 - n 1
  · rw [if_neg (by omega), zb_dpos h]
  · rw [if_pos (by omega), zb_dneg h]
theorem e10_placeOf (hW : zWF E) (hm : zU E 3 0 = true) (h1 : σ 3 0 1 = n) (hN : nWn n) (hB : nWb n) {b : Int} (h0 : 0 ≤ b) (h2 : b < 96) : f_X10_placeOf (zH E σ) (zL E 3 0 0) (zI b) = some (zI (nPl n b)) := by
  have hN' := hN.r
  have hb := hB b h0 h2
  simp (disch := first | assumption | omega) only [f_X10_placeOf, zz_mdo hW hm, zz_ra hW hm, h1, zz_some, zz_lit, zz_num, zI_lt, zI_le, zI_eq, zI_nat, zz_b, if_pos, if_neg, if_true, if_false]
  unfold nPl
  by_cases h : 0 < n (679 + b)
  · rw [if_neg (by omega), if_pos h]
  · rw [if_pos (by omega), if_neg h]
theorem e10_canRead_L (hW : zWF E) (hm : zU E 3 0 = true) (h1 : σ 3 0 1 = n) (hN : nWn n) (hB : nWb n) {x y : Int} (hx : 0 ≤ x) (hy : 0 ≤ y) (hxy : x + y ≤ n 4) : ∀ (m fuel : Nat) (c : Bool) (b : Int), 0 ≤ b → b + m = x + y → m < fuel → f_X10_canRead_L5 (zH E σ) fuel (zL E 3 0 0) (zI x) (zI y) (zI (zb c)) (zI b) = some (zI (zb (c && zal (fun b => decide (n (199 + nPl n b) = 0)) b m))) := by
  have hN' := hN.r
  intro m
  induction m with
  | zero =>
    intro fuel c b h0 h2 h3
    obtain ⟨f, rfl, h4⟩ := zfuel h3
    simp (disch := first | assumption | omega) only [f_X10_canRead_L5, zal, zz_mdo hW hm, zz_ra hW hm, h1, zz_some, zz_lit, zz_num, zI_lt, zI_le, zI_eq, zI_nat, zz_b, if_pos, if_neg, if_true, if_false]
    simp
  | succ m ih =>
    intro fuel c b h0 h2 h3
    obtain ⟨f, rfl, h4⟩ := zfuel h3
    have hb := hB b h0 (by omega)
    have hp : 0 ≤ nPl n b ∧ nPl n b < 96 := by
      unfold nPl
      split <;> omega
    obtain ⟨hp0, hp1⟩ := hp
    have hb2 := hB _ hp0 hp1
    have i0 := ih f false (b + 1) (by omega) (by omega) (by omega)
    have i1 := ih f true (b + 1) (by omega) (by omega) (by omega)
    rw [show zI (zb false) = zI 0 from rfl] at i0
    rw [show zI (zb true) = zI 1 from rfl] at i1
    simp (disch := first | assumption | omega) only [f_X10_canRead_L5, e10_placeOf hW hm h1 hN hB, zal, i0, i1, zz_mdo hW hm, zz_ra hW hm, h1, zz_some, zz_lit, zz_num, zI_lt, zI_le, zI_eq, zI_nat, zz_b, if_pos, if_neg, if_true, if_false]
    cases c
    · simp
    · by_cases h : n (199 + nPl n b) = 0
      · simp [h]
      · simp [h]
theorem e10_canRead (hW : zWF E) (hm : zU E 3 0 = true) (h1 : σ 3 0 1 = n) (hN : nWn n) (hB : nWb n) {x y : Int} (hx : 0 ≤ x) (hy : 0 ≤ y) (hxy : x + y ≤ n 4) : f_X10_canRead (zH E σ) (zL E 3 0 0) (zI x) (zI y) = some (zI (zb (nRd n x y))) := by
  have hN' := hN.r
  unfold f_X10_canRead nRd
  have h := e10_canRead_L hW hm h1 hN hB hx hy hxy y.toNat g_N true x hx (by omega) (by unfold g_N; omega)
  rw [Bool.true_and] at h
  exact h
theorem e10_hasSpare_L62 (hW : zWF E) (hm : zU E 3 0 = true) (h1 : σ 3 0 1 = n) (hN : nWn n) (hB : nWb n) {x : Int} (hx : 0 ≤ x) (hx1 : n 4 + x ≤ n 0 - n 1) : ∀ (m fuel : Nat) (left b : Int), 0 ≤ b → b + m = n 4 + x → m < fuel → -1000 < left - m → left < 1000 → f_X10_hasSpare_L62 (zH E σ) fuel (zL E 3 0 0) (zI x) (zI left) (zI b) = some (zI (zb (decide (zcn (fun b => decide (n (103 + b) = 1)) b m ≤ left)))) := by
  have hN' := hN.r
  intro m
  induction m with
  | zero =>
    intro fuel left b h0 h2 h3 h4 h5
    obtain ⟨f, rfl, h6⟩ := zfuel h3
    simp (disch := first | assumption | omega) only [f_X10_hasSpare_L62, zz_mdo hW hm, zz_ra hW hm, h1, zz_some, zz_lit, zz_num, zI_lt, zI_le, zI_eq, zI_nat, zz_b, if_pos, if_neg, if_true, if_false]
    have hz0 : zcn (fun b => decide (n (103 + b) = 1)) b 0 = 0 := rfl
    by_cases h : left < 0
    · rw [if_pos h, zb_dneg (by rw [hz0]; omega)]
    · rw [if_neg h, zb_dpos (by rw [hz0]; omega)]
  | succ m ih =>
    intro fuel left b h0 h2 h3 h4 h5
    obtain ⟨f, rfl, h6⟩ := zfuel h3
    have hb := (hB b h0 (by omega)).2.1
    simp (disch := first | assumption | omega) only [f_X10_hasSpare_L62, zz_mdo hW hm, zz_ra hW hm, h1, zz_some, zz_lit, zz_num, zI_lt, zI_le, zI_eq, zI_nat, zz_b, if_pos, if_neg, if_true, if_false]
    rw [show zcn (fun b => decide (n (103 + b) = 1)) b (m + 1) = zb (decide (n (103 + b) = 1)) + zcn (fun b => decide (n (103 + b) = 1)) (b + 1) m from rfl]
    rw [ih _ _ _ (by omega) (by omega) (by omega) (by omega) (by omega)]
    have hz : zb (decide (n (103 + b) = 1)) = n (103 + b) := by
      rcases hb with h | h <;> simp [h, zb]
    rw [hz]
    have hp : (zcn (fun b => decide (n (103 + b) = 1)) (b + 1) m ≤ left - n (103 + b)) = (n (103 + b) + zcn (fun b => decide (n (103 + b) = 1)) (b + 1) m ≤ left) := propext ⟨fun h => by omega, fun h => by omega⟩
    simp only [hp]
theorem e10_hasSpare_L7 (hW : zWF E) (hm : zU E 3 0 = true) (h1 : σ 3 0 1 = n) (hN : nWn n) (hB : nWb n) {x : Int} (hx : 0 ≤ x) (hx1 : n 4 + x ≤ n 0 - n 1) : ∀ (m fuel : Nat) (left b : Int), 0 ≤ b → b + m = n 0 → m < fuel → 0 ≤ left → left + m < 500 → f_X10_hasSpare_L7 (zH E σ) fuel (zL E 3 0 0) (zI x) (zI left) (zI b) = some (zI (zb (decide (zcn (fun b => decide (n (103 + b) = 1)) (n 4) x.toNat ≤ left + zcn (fun b => decide (n (7 + b) = 0) && decide (n (103 + b) = 0)) b m)))) := by
  have hN' := hN.r
  intro m
  induction m with
  | zero =>
    intro fuel left b h0 h2 h3 h4 h5
    obtain ⟨f, rfl, h6⟩ := zfuel h3
    simp (disch := first | assumption | omega) only [f_X10_hasSpare_L7, zz_mdo hW hm, zz_ra hW hm, h1, zz_some, zz_lit, zz_num, zI_lt, zI_le, zI_eq, zI_nat, zz_b, if_pos, if_neg, if_true, if_false]
    rw [e10_hasSpare_L62 hW hm h1 hN hB hx hx1 x.toNat _ _ _ (by omega) (by omega) (by unfold g_N; omega) (by omega) (by omega)]
    simp [zcn]
  | succ m ih =>
    intro fuel left b h0 h2 h3 h4 h5
    obtain ⟨f, rfl, h6⟩ := zfuel h3
    have hb := hB b h0 (by omega)
    have i1 := ih f (left + 1) (b + 1) (by omega) (by omega) (by omega) (by omega) (by omega)
    have i0 := ih f (left + 0) (b + 1) (by omega) (by omega) (by omega) (by omega) (by omega)
    simp (disch := first | assumption | omega) only [f_X10_hasSpare_L7, i0, i1, zz_mdo hW hm, zz_ra hW hm, h1, zz_some, zz_lit, zz_num, zI_lt, zI_le, zI_eq, zI_nat, zz_b, if_pos, if_neg, if_true, if_false]
    rw [show zcn (fun b => decide (n (7 + b) = 0) && decide (n (103 + b) = 0)) b (m + 1) = zb (decide (n (7 + b) = 0) && decide (n (103 + b) = 0)) + zcn (fun b => decide (n (7 + b) = 0) && decide (n (103 + b) = 0)) (b + 1) m from rfl]
    by_cases h : n (7 + b) = 0
    · by_cases h7 : n (103 + b) = 0
      · simp [h, h7, zb, Int.add_assoc]
      · simp [h, h7, zb]
    · simp [h, zb]
theorem e10_hasSpare (hW : zWF E) (hm : zU E 3 0 = true) (h1 : σ 3 0 1 = n) (hN : nWn n) (hB : nWb n) {x : Int} (hx : 0 ≤ x) (hx1 : n 4 + x ≤ n 0 - n 1) : f_X10_hasSpare (zH E σ) (zL E 3 0 0) (zI x) = some (zI (zb (nHs n x))) := by
  have hN' := hN.r
  simp (disch := first | assumption | omega) only [f_X10_hasSpare, e10_mainMany hW hm h1 hN, zz_mdo hW hm, zz_ra hW hm, h1, zz_some, zz_lit, zz_num, zI_lt, zI_le, zI_eq, zI_nat, zz_b, if_pos, if_neg, if_true, if_false]
  rw [e10_hasSpare_L7 hW hm h1 hN hB hx hx1 (n 1).toNat _ _ _ (by omega) (by omega) (by unfold g_N; omega) (by omega) (by omega)]
  simp [nHs]
theorem e10_hasRoom (hW : zWF E) (hm : zU E 3 0 = true) (h1 : σ 3 0 1 = n) (hN : nWn n) {x : Int} (h0 : 0 ≤ x) (h2 : x < 1000) : f_X10_hasRoom (zH E σ) (zL E 3 0 0) (zI x) = some (zI (zb (decide (n 4 + x ≤ n 0 - n 1)))) := by
  have hN' := hN.r
  simp (disch := first | assumption | omega) only [f_X10_hasRoom, e10_mainMany hW hm h1 hN, zz_mdo hW hm, zz_ra hW hm, h1, zz_some, zz_lit, zz_num, zI_lt, zI_le, zI_eq, zI_nat, zz_b, if_pos, if_neg, if_true, if_false]
  rw [zb_somn]
  congr 4
  simp
theorem e10_dirLong {e : Int} (h0 : 0 ≤ e) (h2 : e ≤ 1000) (G : gH) : f_X10_directoryLong G (zI e) = some (zI (nDl e)) := by
  unfold f_X10_directoryLong nDl
  simp (disch := first | assumption | omega) only [zz_lit, zz_num, zI_div]
theorem e10_of (hW : zWF E) (hm : zU E 3 0 = true) (h1 : σ 3 0 1 = n) {s w : Int} (h0 : 0 ≤ s) (h2 : s < 12) (h3 : 0 ≤ w) (h4 : w < 25) : f_X10_of (zH E σ) (zL E 3 0 0) (zI s) (zI w) = some (zI (nS n s w)) := by
  simp (disch := first | assumption | omega) only [f_X10_of, zz_mdo hW hm, zz_ra hW hm, h1, zz_some, zz_lit, zz_num, zI_lt, zI_le, zI_eq, zI_nat, zz_b, if_pos, if_neg, if_true, if_false]
  rfl
theorem e10_ofVersion (hW : zWF E) (hm : zU E 3 0 = true) (h1 : σ 3 0 1 = n) {v w : Int} (h0 : 0 ≤ v) (h2 : v < 96) (h3 : 0 ≤ w) (h4 : w < 5) : f_X10_ofVersion (zH E σ) (zL E 3 0 0) (zI v) (zI w) = some (zI (nV n v w)) := by
  simp (disch := first | assumption | omega) only [f_X10_ofVersion, zz_mdo hW hm, zz_ra hW hm, h1, zz_some, zz_lit, zz_num, zI_lt, zI_le, zI_eq, zI_nat, zz_b, if_pos, if_neg, if_true, if_false]
  rfl
theorem e10_latest (hW : zWF E) (hm : zU E 3 0 = true) (h1 : σ 3 0 1 = n) : f_X10_latest (zH E σ) (zL E 3 0 0) = some (zI (nLa n)) := by
  simp (disch := first | assumption | omega) only [f_X10_latest, zz_mdo hW hm, zz_ra hW hm, h1, zz_some, zz_lit, zz_num, zI_lt, zI_le, zI_eq, zI_nat, zz_b, if_pos, if_neg, if_true, if_false]
  rfl
theorem e10_isOpen (hW : zWF E) (hm : zU E 3 0 = true) (h1 : σ 3 0 1 = n) (hN : nWn n) (hZ : nWs n) : f_X10_isOpen (zH E σ) (zL E 3 0 0) = some (zI (zb (nOp n))) := by
  have hN' := hN.r
  have hla : nLa n = n 3 - 1 := rfl
  have hl := e10_latest hW hm h1
  unfold nOp
  by_cases h : 0 ≤ nLa n
  · have hs := hZ (nLa n) h (by omega)
    simp (disch := first | assumption | omega) only [f_X10_isOpen, hl, e10_of hW hm h1, decide_eq_true h, Bool.true_and, zz_mdo hW hm, zz_ra hW hm, h1, zz_some, zz_lit, zz_num, zI_lt, zI_le, zI_eq, zI_nat, zz_b, if_pos, if_neg, if_true, if_false]
    exact zb_somp _
  · simp (disch := first | assumption | omega) only [f_X10_isOpen, hl, decide_eq_false h, Bool.false_and, zz_mdo hW hm, zz_ra hW hm, h1, zz_some, zz_lit, zz_num, zI_lt, zI_le, zI_eq, zI_nat, zz_b, if_pos, if_neg, if_true, if_false]
    rfl
theorem e10_entryOf_L (hW : zWF E) (hm : zU E 3 0 = true) (h1 : σ 3 0 1 = n) (hN : nWn n) (hZ : nWs n) {s f : Int} (h0 : 0 ≤ s) (h2 : s < n 3) (hf0 : -1 ≤ f) (hf1 : f < 100) : ∀ (m fuel : Nat) (k : Int), 0 ≤ k → k + m = nS n s 2 → m < fuel → f_X10_entryOf_L2 (zH E σ) fuel (zL E 3 0 0) (zI s) (zI f) (zI k) = some (zI (zfs (fun k => decide (nS n s (5 + 2 * k) = f)) k m)) := by
  have hN' := hN.r
  have he := hZ.ent hN h0 h2
  intro m
  induction m with
  | zero =>
    intro fuel k h3 h4 h5
    obtain ⟨fu, rfl, h6⟩ := zfuel h5
    simp (disch := first | assumption | omega) only [f_X10_entryOf_L2, e10_of hW hm h1, zfs, zz_mdo hW hm, zz_ra hW hm, h1, zz_some, zz_lit, zz_num, zI_lt, zI_le, zI_eq, zI_nat, zz_b, if_pos, if_neg, if_true, if_false]
  | succ m ih =>
    intro fuel k h3 h4 h5
    obtain ⟨fu, rfl, h6⟩ := zfuel h5
    have hk := (hZ s h0 h2).2.2.2.2.2.2 k h3 (by omega)
    simp (disch := first | assumption | omega) only [f_X10_entryOf_L2, e10_of hW hm h1, zfs, ih, zz_mdo hW hm, zz_ra hW hm, h1, zz_some, zz_lit, zz_num, zI_lt, zI_le, zI_eq, zI_nat, zz_b, if_pos, if_neg, if_true, if_false]
    by_cases h : nS n s (5 + 2 * k) = f
    · simp [h]
    · simp [h]
theorem e10_entryOf (hW : zWF E) (hm : zU E 3 0 = true) (h1 : σ 3 0 1 = n) (hN : nWn n) (hZ : nWs n) {s f : Int} (h0 : 0 ≤ s) (h2 : s < n 3) (hf0 : -1 ≤ f) (hf1 : f < 100) : f_X10_entryOf (zH E σ) (zL E 3 0 0) (zI s) (zI f) = some (zI (nEn n s f)) := by
  have hN' := hN.r
  have he := hZ.ent hN h0 h2
  unfold f_X10_entryOf nEn
  simp (disch := first | assumption | omega) only [zz_mdo hW hm, zz_ra hW hm, h1, zz_some, zz_lit, zz_num, zI_lt, zI_le, zI_eq, zI_nat, zz_b, if_pos, if_neg, if_true, if_false]
  exact e10_entryOf_L hW hm h1 hN hZ h0 h2 hf0 hf1 _ _ _ (by omega) (by omega) (by unfold g_N; omega)
theorem e10_canReadDirectory (hW : zWF E) (hm : zU E 3 0 = true) (h1 : σ 3 0 1 = n) (hn : nW n) {s : Int} (h0 : 0 ≤ s) (h2 : s < n 3) : f_X10_canReadDirectory (zH E σ) (zL E 3 0 0) (zI s) = some (zI (zb (nRdD n s))) := by
  have hN' := hn.1.r
  have hs := hn.2.2.2 s h0 h2
  have he := hn.2.2.2.ent hn.1 h0 h2
  have hd := nDl_10 he.1 (by omega)
  have hz : ∀ G : gH, f_X10_directoryLong G (zI (nS n s 2)) = some (zI (nDl (nS n s 2))) := e10_dirLong he.1 (by omega)
  have hc := e10_canRead hW hm h1 hn.1 hn.2.1 (x := nS n s 3 - 1) (y := nDl (nS n s 2))
  have hdb : nS n s 3 ≤ 1000 := by
    by_cases h : 0 < nS n s 3
    · have := hs.2.2.2.2.1.2.2 h; omega
    · omega
  unfold nRdD
  by_cases h : 0 < nS n s 3
  · have hc2 := hc (by omega) (by omega) (hs.2.2.2.2.1.2.2 h)
    simp (disch := first | assumption | omega) only [f_X10_canReadDirectory, e10_of hW hm h1, hz, hc2, decide_eq_true h, Bool.true_and, zz_mdo hW hm, zz_ra hW hm, h1, zz_some, zz_lit, zz_num, zI_lt, zI_le, zI_eq, zI_nat, zz_b, if_pos, if_neg, if_true, if_false]
    exact zb_somf _
  · simp (disch := first | assumption | omega) only [f_X10_canReadDirectory, e10_of hW hm h1, decide_eq_false h, Bool.false_and, zz_mdo hW hm, zz_ra hW hm, h1, zz_some, zz_lit, zz_num, zI_lt, zI_le, zI_eq, zI_nat, zz_b, if_pos, if_neg, if_true, if_false]
    rfl
theorem e10_isReadable (hW : zWF E) (hm : zU E 3 0 = true) (h1 : σ 3 0 1 = n) (hn : nW n) {v : Int} (h0 : 0 ≤ v) (h2 : v < n 6) : f_X10_isReadable (zH E σ) (zL E 3 0 0) (zI v) = some (zI (zb (nRv n v))) := by
  have hN' := hn.1.r
  have hv := hn.2.2.1.2 v h0 h2
  simp (disch := first | assumption | omega) only [f_X10_isReadable, e10_ofVersion hW hm h1, e10_canRead hW hm h1 hn.1 hn.2.1, zz_mdo hW hm, zz_ra hW hm, h1, zz_some, zz_lit, zz_num, zI_lt, zI_le, zI_eq, zI_nat, zz_b, if_pos, if_neg, if_true, if_false]
  rfl
theorem e10_entriesWith (hW : zWF E) (hm : zU E 3 0 = true) (h1 : σ 3 0 1 = n) (hn : nW n) {x : Int} (hx0 : -1 ≤ x) (hx1 : x < 100) : f_X10_entriesWith (zH E σ) (zL E 3 0 0) (zI x) = some (zI (nEw n x)) := by
  have hN' := hn.1.r
  have hla : nLa n = n 3 - 1 := rfl
  unfold nEw
  cases h : nOp n
  · have ho := e10_isOpen hW hm h1 hn.1 hn.2.2.2
    rw [h] at ho
    simp (disch := first | assumption | omega) only [f_X10_entriesWith, ho, zz_mdo hW hm, zz_ra hW hm, h1, zz_some, zz_lit, zz_num, zI_lt, zI_le, zI_eq, zI_nat, zz_b, if_pos, if_neg, if_true, if_false]
    simp
  · have ho := e10_isOpen hW hm h1 hn.1 hn.2.2.2
    rw [h] at ho
    obtain ⟨h2, h3⟩ := nOp_iff.mp h
    have he := hn.2.2.2.ent hn.1 h2 (by omega)
    have hE := nEn_rng n (nLa n) x
    simp (disch := first | assumption | omega) only [f_X10_entriesWith, ho, e10_latest hW hm h1, e10_of hW hm h1, e10_entryOf hW hm h1 hn.1 hn.2.2.2, Bool.true_eq_false, zz_mdo hW hm, zz_ra hW hm, h1, zz_some, zz_lit, zz_num, zI_lt, zI_le, zI_eq, zI_nat, zz_b, if_pos, if_neg, if_true, if_false]
    by_cases h4 : nEn n (nLa n) x = -1
    · rw [if_pos h4, zb_dpos h4]
    · rw [if_neg h4, zb_dneg h4]
theorem nTm_12 {n : zN} (hN : nWn n) : nTm n = (!nOp n && decide (n 3 = 12)) := by
  have hN' := hN.r
  unfold nTm
  congr 1
  exact decide_eq_decide.mpr (by omega)
theorem e10_whyWrite (hW : zWF E) (hm : zU E 3 0 = true) (h1 : σ 3 0 1 = n) (hn : nW n) {x m : Int} (hx0 : -1 ≤ x) (hx1 : x < 100) (hm0 : 0 ≤ m) (hm1 : m ≤ 8) : f_X10_whyWrite (zH E σ) (zL E 3 0 0) (zI x) (zI m) = some (zI (nWw n x m)) := by
  have hN' := hn.1.r
  have he := nEw_rng hn x
  have hd := nDl_rng he.1 (by omega)
  have hz : ∀ G : gH, f_X10_directoryLong G (zI (nEw n x)) = some (zI (nDl (nEw n x))) := e10_dirLong he.1 (by omega)
  have ho := e10_isOpen hW hm h1 hn.1 hn.2.2.2
  unfold nWw
  rw [nTm_12 hn.1]
  obtain ⟨y, hy⟩ : ∃ y, nDl (nEw n x) = y := ⟨_, rfl⟩
  rw [hy] at hd
  simp only [hy] at hz
  rw [hy]
  simp (disch := first | assumption | omega) only [f_X10_whyWrite, f_X10_whyWrite_J20, ho, e10_entriesWith hW hm h1 hn, hz, e10_hasRoom hW hm h1 hn.1, zz_mdo hW hm, zz_ra hW hm, h1, zz_some, zz_lit, zz_num, zI_lt, zI_le, zI_eq, zI_nat, zz_b, if_pos, if_neg, if_true, if_false]
  have hsp := e10_hasSpare hW hm h1 hn.1 hn.2.1 (x := m) hm0
  cases h : nOp n
  · by_cases h2 : n 3 = 12
    · simp [h2]
    · by_cases h3 : n 4 + (m + y) ≤ n 0 - n 1
      · rw [hsp (by omega)]
        cases nHs n m <;> simp [h2, h3, zz_some, zb, show ¬ (zI 1 = zI 0) by decide]
      · simp [h2, h3]
  · by_cases h3 : n 4 + (m + y) ≤ n 0 - n 1
    · rw [hsp (by omega)]
      cases nHs n m <;> simp [h3, zz_some, zb, show ¬ (zI 1 = zI 0) by decide]
    · simp [h3]
theorem e10_dirWhy (hW : zWF E) (hm : zU E 3 0 = true) (h1 : σ 3 0 1 = n) (hn : nW n) {e : Int} (h0 : 0 ≤ e) (h2 : e ≤ 96) (k : Option Int32) (hk : k = (f_X10_hasRoom (zH E σ) (zL E 3 0 0) (zI (nDl e))).bind fun v => if v = zI 0 then some (zI 4) else (f_X10_hasSpare (zH E σ) (zL E 3 0 0) (zI (nDl e))).bind fun w => if w = zI 0 then some (zI 5) else some (zI 0)) : k = some (zI (nWd n e)) := by
  have hN' := hn.1.r
  have hd := nDl_rng h0 h2
  have hsp := e10_hasSpare hW hm h1 hn.1 hn.2.1 (x := nDl e) (by omega)
  subst hk
  rw [e10_hasRoom hW hm h1 hn.1 (by omega) (by omega), zz_some]
  unfold nWd
  by_cases h3 : n 4 + nDl e ≤ n 0 - n 1
  · rw [hsp h3, zb_dpos h3, if_neg (by decide), zz_some, if_pos h3]
    cases nHs n (nDl e) <;> rfl
  · rw [zb_dneg h3, if_pos rfl, if_neg h3]
end zMod

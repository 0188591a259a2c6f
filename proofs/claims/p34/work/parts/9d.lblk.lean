/-! Rows beside the two worlds; the blocks of both discs. -/
theorem va_up_up {T : gH} {q : Nat} {x y : Option gE} : va_up (va_up T q x) q y = va_up T q y := by
  funext c
  by_cases z : c = q
  · rw [z, gva_at, gva_at]
  · rw [gva_ne z, gva_ne z, gva_ne z]
section zA
variable {G A B T : gH}
theorem yJ.tald (h : yJ G A B T) {q len : Nat} {u : Nat → Int32} (hq : T q = some (.inl (0, len, u))) (hl : len < 1000) {i : Int} (i0 : 0 ≤ i) (i1 : i < len) : g_ald 0 G q (zI i) = some (u i.toNat) := by
  unfold g_ald
  rw [(h.tt hq).1]
  simp only [true_and]
  rw [if_pos (by rw [show (0 : Int32) = zI 0 from rfl, zI_lt (by omega) (by omega) (by omega) (by omega), zI_nat (by omega) (by omega)]; omega), zI_nat (by omega) (by omega)]
theorem yJ.tast (h : yJ G A B T) {q len : Nat} {u : Nat → Int32} (hq : T q = some (.inl (0, len, u))) (hl : len < 1000) {i : Int} (i0 : 0 ≤ i) (i1 : i < len) (x : Int32) : ∃ G', g_ast 0 G q (zI i) x = some G' ∧ yJ G' A B (va_up T q (some (.inl (0, len, upd u i.toNat x)))) := by
  obtain ⟨t1, t2, t3⟩ := h.tt hq
  refine ⟨_, ?_, h.upT t2 t3 _⟩
  unfold g_ast
  rw [t1]
  simp only [true_and]
  rw [if_pos (by rw [show (0 : Int32) = zI 0 from rfl, zI_lt (by omega) (by omega) (by omega) (by omega), zI_nat (by omega) (by omega)]; omega), zI_nat (by omega) (by omega)]
  rfl
/-- a row is written that is itself the newest change -/
theorem yJ.tast2 {q len : Nat} {u : Nat → Int32} (h : yJ G A B (va_up T q (some (.inl (0, len, u))))) (hl : len < 1000) {i : Int} (i0 : 0 ≤ i) (i1 : i < len) (x : Int32) : ∃ G', g_ast 0 G q (zI i) x = some G' ∧ yJ G' A B (va_up T q (some (.inl (0, len, upd u i.toNat x)))) := by
  have := h.tast gva_at hl i0 i1 x
  rwa [va_up_up] at this
/-- a new row -/
theorem yJ.new (h : yJ G A B T) {q : Nat} (hq : G q = none) (x : gE) : yJ (va_up G q (some x)) A B (va_up T q (some x)) ∧ T q = none := ⟨h.upT (h.no hq).1 (h.no hq).2.1 _, (h.no hq).2.2⟩
end zA
theorem va_keep {T : gH} {q a : Nat} {e : gE} {x : Option gE} (ha : T a = some e) (hq : T q = none) : va_up T q x a = some e := by
  rw [gva_ne (by rintro rfl; rw [hq] at ha; cases ha)]; exact ha
theorem va_keep2 {T : gH} {q a : Nat} {e : gE} {x : Option gE} (ha : T a = some e) (hq : a ≠ q) : va_up T q x a = some e := by rw [gva_ne hq]; exact ha
theorem znt_at {P : Int → Bool} : ∀ (m : Nat) (lo b : Int), lo ≤ b → b < lo + m → P b = true → znt P lo m (zcn P lo (b - lo).toNat) = b := by
  intro m
  induction m with
  | zero => intro lo b h1 h2; omega
  | succ m ih =>
    intro lo b h1 h2 hb
    unfold znt
    by_cases z : b = lo
    · subst z
      rw [if_pos hb, show (b - b).toNat = 0 by omega, show zcn P b 0 = 0 from rfl, if_pos rfl]
    · obtain ⟨j, hj⟩ : ∃ j : Nat, (b - lo).toNat = j + 1 := ⟨(b - lo).toNat - 1, by omega⟩
      have hr := zcn_rng P j (lo + 1)
      rw [hj, show zcn P lo (j + 1) = zb (P lo) + zcn P (lo + 1) j from rfl]
      have hi := ih (lo + 1) b (by omega) (by omega) hb
      rw [show (b - (lo + 1)).toNat = j by omega] at hi
      cases hp : P lo
      · rw [if_neg (by simp), show zb false = 0 from rfl, Int.zero_add]; exact hi
      · rw [if_pos rfl, show zb true = 1 from rfl, if_neg (by omega), show 1 + zcn P (lo + 1) j - 1 = zcn P (lo + 1) j by omega]; exact hi
theorem znt_end {P : Int → Bool} : ∀ (m : Nat) (lo k : Int), zcn P lo m ≤ k → znt P lo m k = -1 := by
  intro m
  induction m with
  | zero => intro lo k _; rfl
  | succ m ih =>
    intro lo k h
    have e : zcn P lo (m + 1) = zb (P lo) + zcn P (lo + 1) m := rfl
    have hr := zcn_rng P m (lo + 1)
    unfold znt
    cases hp : P lo
    · rw [if_neg (by simp)]
      rw [hp, show zb false = 0 from rfl] at e
      exact ih _ _ (by omega)
    · rw [hp, show zb true = 1 from rfl] at e
      rw [if_pos rfl, if_neg (by omega)]
      exact ih _ _ (by omega)
theorem zcn_add {P : Int → Bool} : ∀ (a b : Nat) (lo : Int), zcn P lo (a + b) = zcn P lo a + zcn P (lo + a) b := by
  intro a
  induction a with
  | zero => intro b lo; simp [zcn]
  | succ a ih =>
    intro b lo
    rw [show a + 1 + b = (a + b) + 1 by omega]
    show zb (P lo) + zcn P (lo + 1) (a + b) = zb (P lo) + zcn P (lo + 1) a + _
    rw [ih b (lo + 1), show lo + 1 + (a : Int) = lo + ((a + 1 : Nat) : Int) by omega]
    omega
/-- defects stand on the main part alone -/
theorem nDf_main {n : zN} (hn : nW n) {b : Int} (b0 : 0 ≤ b) (b1 : b < 96) (h : nDf n b = true) : b < n 0 - n 1 ∧ n (7 + b) = 3 ∧ 0 ≤ n (295 + b) - 1 ∧ n (295 + b) - 1 < n 3 := by
  have hN := hn.1.r
  have hb := hn.2.1 b b0 b1
  unfold nDf at h
  simp only [Bool.and_eq_true, decide_eq_true_eq] at h
  omega
section zB
variable {G A T : gH} {o q : Nat} {n : zN} {E : zE} {σ : zW} {K : Int32 → gH → Prop}
theorem yb_J278 {MC MS kc ks : Nat} {q1 : Nat} (hJ : yJ G A (zH E σ) T) (hA : yCo A o n) (hI : yI E σ n) {b z x3 x4 : Int} (b0 : 0 ≤ b) (b1 : b < n 0) (hm : n 0 ≤ 47) (hkc : kc ≤ MC) (hks : ks ≤ MS) {k15 : gH → Nat → Nat → Nat → Nat → Nat → Int32 → Int32 → Int32 → Int32 → Prop} (hk : k15 G kc ks o (zL E 5 0 0) q1 (zI x3) (zI x4) (zI (zcn (nDf n) 0 (b + 1).toNat)) (zI (b + 1))) : w_L_blocks_J278 MC MS K k15 G kc ks o (zL E 5 0 0) q1 (zI x3) (zI x4) (zI (zcn (nDf n) 0 b.toNat)) (zI b) (zI z) (zI z) := by
  have hn := hA.w
  have hN := hn.1.r
  have hb := hn.2.1 b b0 (by omega)
  have zo := zz_ldo (σ := σ) hI.w hI.u
  have hrng := zcn_rng (nDf n) b.toNat 0
  have hstep : zcn (nDf n) 0 (b + 1).toNat = zcn (nDf n) 0 b.toNat + zb (nDf n b) := by
    rw [show (b + 1).toNat = b.toNat + 1 by omega, zcn_add]
    show _ = _
    rw [show (0 : Int) + ((b.toNat : Nat) : Int) = b by omega]
    show _ + (zb (nDf n b) + 0) = _
    omega
  have a8 := hJ.ald ((yB hI.w hI.r).2.1 b b0 (by omega))
  have a11 := hJ.ald ((yB hI.w hI.r).2.2.2.2.1 b b0 (by omega))
  have r11 := hJ.r (show g_r (zH E σ) (zL E 5 0 0) 10 11 = some (zL E 5 0 11) by simp only [zo])
  have r8 := hJ.r (show g_r (zH E σ) (zL E 5 0 0) 10 8 = some (zL E 5 0 8) by simp only [zo])
  have r16 := hJ.r (show g_r (zH E σ) (zL E 5 0 0) 10 16 = some (zL E 5 0 16) by simp only [zo])
  have e1 : (zI b + (1 : Int32)) = zI (b + 1) := zI_add b 1
  unfold w_L_blocks_J278
  rw [if_pos rfl]
  refine ⟨_, r11, _, a11, ?_⟩
  by_cases c0 : n (679 + b) = 0
  · have hd : nDf n b = false := by unfold nDf; simp [c0]
    rw [hd, show zb false = 0 from rfl, Int.add_zero] at hstep
    rw [if_pos (show zI (n (679 + b) - 1) < (0 : Int32) by rw [show (0 : Int32) = zI 0 from rfl, zI_lt (by omega) (by omega) (by omega) (by omega)]; omega), e1, ← hstep]
    exact hk
  · rw [if_neg (show ¬ zI (n (679 + b) - 1) < (0 : Int32) by rw [show (0 : Int32) = zI 0 from rfl, zI_lt (by omega) (by omega) (by omega) (by omega)]; omega)]
    have w0 : 0 ≤ n (295 + b) - 1 ∧ n (295 + b) - 1 < n 3 := by omega
    refine ⟨_, r16, _, r8, _, a8, _, hJ.rald ((yAll hI.w hI.r hn.1).2 _ w0.1 w0.2), fun z => (by cases z), fun r hr => ?_⟩
    obtain rfl : ySe E (n (295 + b) - 1) = r := by injection hr
    have hs := hn.2.2.2 (n (295 + b) - 1) w0.1 w0.2
    refine ⟨_, hJ.i (yS hI.w hI.r hn w0.1 w0.2).1.1, ?_⟩
    by_cases c1 : nS n (n (295 + b) - 1) 0 = 2
    · have hd : nDf n b = false := by unfold nDf; simp [c1]
      rw [hd, show zb false = 0 from rfl, Int.add_zero] at hstep
      rw [if_pos (show zI (nS n (n (295 + b) - 1) 0) = (2 : Int32) by rw [c1]; rfl), e1, ← hstep]
      exact hk
    · have hd : nDf n b = true := by unfold nDf; simp [c0, c1]
      rw [hd, show zb true = 1 from rfl] at hstep
      rw [if_neg (show ¬ zI (nS n (n (295 + b) - 1) 0) = (2 : Int32) from fun z => c1 (by rwa [show (2 : Int32) = zI 2 from rfl, zI_eq (by omega) (by omega) (by omega) (by omega)] at z))]
      have hmain := nDf_main hn b0 (by omega) hd
      have hz : znt (nDf n) 0 (n 0 - n 1).toNat (zcn (nDf n) 0 b.toNat) = b := by
        have := znt_at (P := nDf n) (n 0 - n 1).toNat 0 b b0 (by omega) hd
        rwa [Int.sub_zero] at this
      have p0 := k_defect hA (x := zcn (nDf n) 0 b.toNat) hrng.1 (by omega) (w := false)
      have p1 := k_defect hA (x := zcn (nDf n) 0 b.toNat) hrng.1 (by omega) (w := true)
      have d0 : aDefect n (zcn (nDf n) 0 b.toNat) false = b := by
        unfold aDefect
        rw [if_neg (by omega), hz, if_neg (by omega), if_neg (by simp)]
      have d1 : aDefect n (zcn (nDf n) 0 b.toNat) true = n (679 + b) - 1 := by
        unfold aDefect
        rw [if_neg (by omega), hz, if_neg (by omega), if_pos rfl]
        unfold nPl
        rw [if_pos (by omega)]
      rw [d0] at p0
      rw [d1] at p1
      refine ⟨_, _, hJ.a.1, hJ.a.2, (), hA.ob, ⟨by omega, by omega⟩, _, p0, ?_⟩
      rw [if_pos rfl]
      refine ⟨_, _, hJ.a.1, hJ.a.2, (), hA.ob, ⟨by omega, by omega⟩, _, p1, _, r11, _, a11, ?_⟩
      rw [if_pos rfl, e1, show (zI (zcn (nDf n) 0 b.toNat) + (1 : Int32)) = zI (zcn (nDf n) 0 b.toNat + 1) from zI_add _ 1, ← hstep]
      exact hk
theorem yb_L196 {MC MS : Nat} {q1 q7 : Nat} (hI : yI E σ n) {ρ : Nat → Int32} (h7 : T q7 = some (.inl (0, 7, ρ))) {b x3 x4 : Int} (b0 : 0 ≤ b) (b1 : b < n 0) (hm : n 0 ≤ 47) (hρ : ∀ w, 0 ≤ w → w < 7 → ρ w.toNat = zI (aBlock n b w)) {k15 : gH → Nat → Nat → Nat → Nat → Nat → Int32 → Int32 → Int32 → Int32 → Prop} : ∀ (m fuel : Nat) (w : Int) (G A : gH) (kc ks : Nat), yJ G A (zH E σ) T → yCo A o n → 0 ≤ w → w + m = 7 → m < fuel → kc + 2 * m + 1 ≤ MC → ks + 12 * m + 6 ≤ MS → (∀ G' A' kc' ks', kc' = kc + 2 * m + 1 → ks' = ks + 12 * m + 6 → yJ G' A' (zH E σ) T → yCo A' o n → k15 G' kc' ks' o (zL E 5 0 0) q1 (zI x3) (zI x4) (zI (zcn (nDf n) 0 (b + 1).toNat)) (zI (b + 1))) → w_L_blocks_L196 MC MS K k15 fuel G kc ks o (zL E 5 0 0) q1 (zI x3) (zI x4) (zI (zcn (nDf n) 0 b.toNat)) (zI b) q7 (zI w) := by
  intro m
  induction m with
  | zero =>
    intro fuel w G A kc ks hJ hA w0 wm hf hkc hks hk
    cases fuel with
    | zero => omega
    | succ fuel =>
    have hn := hA.w
    have hN := hn.1.r
    have hb := hn.2.1 b b0 (by omega)
    have zo := zz_ldo (σ := σ) hI.w hI.u
    obtain rfl : w = 7 := by omega
    unfold w_L_blocks_L196
    rw [if_pos (show (7 : Int32) ≤ zI 7 from by decide)]
    refine ⟨_, _, hJ.a.1, hJ.a.2, (), hA.ob, ⟨by omega, by omega⟩, k_place hA b0 b1 (fun A' hA' G2 d2 e2 => ?_)⟩
    have hJ2 := hJ.a' d2 e2
    have hk' := hk G2 A' (kc + 1) (ks + 6) (by omega) (by omega) hJ2 hA'
    refine ⟨_, _, hJ2.b.1, hJ2.b.2, (), yl_ob5 hI, ⟨by omega, by omega⟩, _, yl_main hI.w hI.r, ?_⟩
    by_cases c0 : n 0 - n 1 ≤ b
    · rw [if_pos (show zI (n 0 - n 1) ≤ zI b by rw [zI_le (by omega) (by omega) (by omega) (by omega)]; exact c0)]
      have ea : aPlace n b = -1 := by unfold aPlace; rw [if_neg (by omega)]
      rw [ea]
      exact yb_J278 hJ2 hA' hI b0 b1 hm (by omega) (by omega) hk'
    · rw [if_neg (show ¬ zI (n 0 - n 1) ≤ zI b by rw [zI_le (by omega) (by omega) (by omega) (by omega)]; exact c0)]
      refine ⟨_, hJ2.r (show g_r (zH E σ) (zL E 5 0 0) 10 7 = some (zL E 5 0 7) by simp only [zo]), _, hJ2.ald ((yB hI.w hI.r).1 b b0 (by omega)), ?_⟩
      have a11 := hJ2.ald ((yB hI.w hI.r).2.2.2.2.1 b b0 (by omega))
      have r11 := hJ2.r (show g_r (zH E σ) (zL E 5 0 0) 10 11 = some (zL E 5 0 11) by simp only [zo])
      by_cases c1 : n (7 + b) = 0
      · rw [if_pos (show zI (n (7 + b)) = 0 by rw [c1]; rfl)]
        have ea : aPlace n b = -1 := by unfold aPlace; rw [if_pos (by omega), if_pos c1]
        rw [ea]
        exact yb_J278 hJ2 hA' hI b0 b1 hm (by omega) (by omega) hk'
      · rw [if_neg (show ¬ zI (n (7 + b)) = (0 : Int32) from zI_ne (by omega) (by omega) (by omega) (by omega) c1)]
        have ea : aPlace n b = nPl n b := by unfold aPlace; rw [if_pos (by omega), if_neg c1]
        rw [ea]
        refine ⟨_, r11, _, a11, ?_⟩
        by_cases c2 : n (679 + b) = 0
        · rw [if_neg (show ¬ (0 : Int32) ≤ zI (n (679 + b) - 1) by rw [show (0 : Int32) = zI 0 from rfl, zI_le (by omega) (by omega) (by omega) (by omega)]; omega)]
          rw [show nPl n b = b by unfold nPl; rw [if_neg (by omega)]]
          exact yb_J278 hJ2 hA' hI b0 b1 hm (by omega) (by omega) hk'
        · rw [if_pos (show (0 : Int32) ≤ zI (n (679 + b) - 1) by rw [show (0 : Int32) = zI 0 from rfl, zI_le (by omega) (by omega) (by omega) (by omega)]; omega)]
          rw [show nPl n b = n (679 + b) - 1 by unfold nPl; rw [if_pos (by omega)]]
          exact ⟨_, r11, _, a11, yb_J278 hJ2 hA' hI b0 b1 hm (by omega) (by omega) hk'⟩
  | succ m ih =>
    intro fuel w G A kc ks hJ hA w0 wm hf hkc hks hk
    cases fuel with
    | zero => omega
    | succ fuel =>
    unfold w_L_blocks_L196
    rw [if_neg (show ¬ (7 : Int32) ≤ zI w by rw [show (7 : Int32) = zI 7 from rfl, zI_le (by omega) (by omega) (by omega) (by omega)]; omega)]
    refine ⟨_, _, hJ.a.1, hJ.a.2, (), hA.ob, ⟨by omega, by omega⟩, k_block hA b0 b1 w0 (by omega) (fun A' hA' G2 d2 e2 => ?_)⟩
    have hJ2 := hJ.a' d2 e2
    refine ⟨_, hJ2.tald h7 (by omega) w0 (by omega), ?_⟩
    rw [hρ w w0 (by omega), if_pos rfl, show (zI w + (1 : Int32)) = zI (w + 1) from zI_add w 1]
    exact ih fuel (w + 1) G2 A' (kc + 2) (ks + 12) hJ2 hA' (by omega) (by omega) (by omega) (by omega) (by omega) (fun G' A' kc' ks' h1 h2 => hk G' A' kc' ks' (by omega) (by omega))
end zB


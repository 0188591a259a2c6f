/-! A recovery; one change, whole. -/
theorem zH_cg {E : zE} {σ σ' : zW} (h : ∀ k d c, zU E k d = true → σ' k d c = σ k d c) : zH E σ' = zH E σ := by
  funext q
  unfold zH
  split
  · rename_i hu
    rw [h _ _ _ hu]
  · rfl
theorem gj_upL {B R : gH} {q : Nat} {x : gE} (hR : R q = none) : va_up (gj B R) q (some x) = gj (va_up B q (some x)) R := by
  funext c
  unfold gj
  by_cases z : c = q
  · rw [z, gva_at, gva_at]
  · rw [gva_ne z, gva_ne z]
section yX
variable {G A T : gH} {o q : Nat} {n : zN} {E : zE} {σ : zW} {f : Nat → Int32} {K : Int32 → gH → Prop}
theorem yWe.en {n : zN} (h : yWe n) (hn : nW n) (hop : nOp n = true) {f v : Int} (f0 : 0 ≤ f) (f1 : f < n 2) : yWe (nE1 n f v) := by
  obtain ⟨a, b, c⟩ := nE1_e (v := v) hn hop f0 f1
  have hla : nLa (nE1 n f v) = nLa n := by unfold nLa; rw [c 3 (by omega)]
  unfold yWe
  rw [c 0 (by omega), c 1 (by omega), c 2 (by omega), hla]
  exact ⟨h.1, fun s s0 s1 => by rw [(b s (by omega)).1, (b s (by omega)).2]; exact h.2 s s0 s1⟩
/-- the found versions are entered, and the session is closed -/
theorem yc_L268 {n0 : zN} (hA : yCo A o n0) (hw : nWr n0 = 0) {q2 : Nat} {ρ : Nat → Option Nat} (hq : T q = some (.inl (0, 1, f))) (hq2 : T q2 = some (.inr (.inr (.inl (6, 10, ρ))))) {len : Nat} (hlen : (len : Int) = nCr n0) (l10 : len ≤ 10) {Le : List Int} (hLe : Le.length = len) (hρ : ∀ i (h : i < Le.length), ρ i = some (yVe E (Le[i]))) (hK : ∀ G' n', yT o (zL E 5 0 0) q G' n' → K (1 : Int32) G') (hv0 : ∀ v ∈ Le, 0 ≤ v ∧ v < n0 6) : ∀ (L : List Int) (k fuel : Nat) (n : zN) (σ : zW) (G : gH), Le = Le.take k ++ L → k + L.length = len → L.length < fuel → yJ G A (zH E σ) T → yI E σ n → nW n → nOp n = true → yWe n → n 2 = n0 2 → n 6 = n0 6 → (∀ v, 0 ≤ v → v < n0 6 → nV n v 0 = nV n0 v 0) → (L = [] → 1 ≤ nS n (nLa n) 2) → nWc (nEl n0 n L) = 0 → nCl (nEl n0 n L) = nRec n0 → w_L_changes_L268 200 20000 K fuel G 5 42 o (zL E 5 0 0) q2 (zI len) (some (ySe E (nLa n))) (zI k) := by
  have hn0 := hA.w
  have hN0 := hn0.1.r
  intro L
  induction L with
  | nil =>
    intro k fuel n σ G hk hk2 hf hJ hI hn hop hye e2 e6 eV h1 hc hr
    cases fuel with
    | zero => simp at hf
    | succ fuel =>
    have hy : yW n := by
      refine yW_mk hn hye.1.1 hye.1.2.1 hye.1.2.2 (fun s s0 s1 => ?_)
      by_cases z : s = nLa n
      · intro _; rw [z]; exact h1 rfl
      · exact hye.2 s s0 (by unfold nLa at *; omega)
    obtain ⟨σ', c1, c2, c3⟩ := yl_close hI hn hy hc
    rw [show nCl n = nRec n0 from hr] at c2 c3
    unfold w_L_changes_L268
    refine ⟨fun z => (by cases z), fun s hs => ?_⟩
    rw [if_pos (show zI len ≤ zI k by rw [zI_le (by omega) (by omega) (by omega) (by omega)]; simp at hk2; omega)]
    refine ⟨_, _, hJ.b.1, hJ.b.2, (), yl_ob5 hI, ⟨by omega, by omega⟩, _, c1, fun G' d' e' => ?_⟩
    have hJ1 := hJ.b' d' e'
    refine ⟨_, _, hJ1.a.1, hJ1.a.2, (), hA.ob, ⟨by omega, by omega⟩, k_recover hA hw (fun A' hA' G2 d2 e2 => ?_)⟩
    have hJ2 := hJ1.a' d2 e2
    rw [if_pos (by rw [hlen])]
    exact ⟨by omega, by omega, hK _ _ (yT.mk hJ2 hA' c2 c3 hq)⟩
  | cons v L ih =>
    intro k fuel n σ G hk hk2 hf hJ hI hn hop hye e2 e6 eV h1 hc hr
    cases fuel with
    | zero => omega
    | succ fuel =>
    have hkl : k < Le.length := by rw [hLe, ← hk2]; simp
    have hv : Le[k] = v := by
      have : (Le.take k ++ v :: L)[k]? = some v := by
        rw [List.getElem?_append_right (by simp; omega)]
        simp [List.length_take, Nat.min_eq_left (by omega : k ≤ Le.length)]
      rw [← hk, List.getElem?_eq_getElem hkl] at this
      exact Option.some.inj this
    obtain ⟨v0, v1⟩ := hv0 v (by rw [← hv]; exact List.getElem_mem hkl)
    have hr1 : g_rald 6 G q2 (zI k) = some (some (yVe E v)) := by
      unfold g_rald
      rw [(hJ.tt hq2).1]
      simp only [true_and]
      rw [if_pos (by rw [show (0 : Int32) = zI 0 from rfl, zI_lt (by omega) (by omega) (by omega) (by omega), zI_nat (by omega) (by omega)]; omega), zI_nat (by omega) (by omega)]
      rw [Int.toNat_natCast, hρ k hkl, hv]
    have vf := hn.2.2.1.2 v v0 (by omega)
    have hl13 : g_i (zH E σ) (yVe E v) 13 0 = some (zI (nV n v 0)) := (yV hI.w hI.r hn v0 (by omega)).1.1
    have huv := hI.2.1.2.2 v.toNat (by omega)
    obtain ⟨σ', x1, x2, x3⟩ := yl_enter_r hI hn hop (by omega) (f := nV n v 0) (v := v) vf.1.1 vf.1.2 v0 (by omega) huv
    obtain ⟨w1, w2, w3, w4⟩ := nE1_W hn hop (f := nV n v 0) (v := v) vf.1.1 vf.1.2 (by omega) (by omega) (fun _ => rfl)
    obtain ⟨e1', -, elo⟩ := nE1_e (v := v) hn hop vf.1.1 vf.1.2
    have hEl : nEl n0 n (v :: L) = nEl n0 (nE1 n (nV n v 0) v) L := by rw [eV v v0 v1]; rfl
    rw [hEl] at hc hr
    unfold w_L_changes_L268
    refine ⟨fun z => (by cases z), fun s hs => ?_⟩
    obtain rfl : ySe E (nLa n) = s := by injection hs
    rw [if_neg (show ¬ zI len ≤ zI k by rw [zI_le (by omega) (by omega) (by omega) (by omega)]; omega)]
    refine ⟨_, hr1, fun z => (by cases z), fun r hr' => ?_⟩
    obtain rfl : yVe E v = r := by injection hr'
    refine ⟨_, hJ.i hl13, _, hr1, fun z => (by cases z), fun r hr' => ?_⟩
    obtain rfl : yVe E v = r := by injection hr'
    refine ⟨_, _, hJ.b.1, hJ.b.2, (), (zz_lso (σ := σ) hI.w (hI.r.us (yOp3 hn hop).1 (yOp3 hn hop).2.1)).2.2.2, ⟨by omega, by omega⟩, _, x1, fun G' d' e' => ?_⟩
    have hJ1 := hJ.b' d' e'
    rw [show (zI k + (1 : Int32)) = zI ((k + 1 : Nat) : Int) by rw [show (1 : Int32) = zI 1 from rfl, zI_add]; rfl, ← w3]
    refine ih (k + 1) fuel _ σ' G' ?_ (by simp at hk2; omega) (by simp at hf; omega) hJ1 x2 w1 w2 (hye.en hn hop vf.1.1 vf.1.2) (by rw [elo 2 (by omega)]; exact e2) (by rw [elo 6 (by omega)]; exact e6) (fun u u0 u1 => by rw [← eV u u0 u1]; exact elo _ (by omega)) (fun _ => by rw [w3]; exact e1') hc hr
    rw [List.take_add_one, List.getElem?_eq_getElem hkl, hv]
    simpa using hk
theorem yR.E8 {E E8 : zE} {σ σ' : zW} {n : zN} (h : yR E σ n) (hu : ∀ k d, zU E8 k d = (zU E k d || yG1 8 0 k d)) (hs : ∀ k d c, k ≠ 8 → σ' k d c = σ k d c) : yR E8 σ' n := by
  have := h.f8 hs
  obtain ⟨⟨u1, u2, u3⟩, r⟩ := this
  exact ⟨⟨by rw [hu, u1]; rfl, fun s s1 => by rw [hu, u2 s s1]; rfl, fun v v1 => by rw [hu, u3 v v1]; rfl⟩, r⟩
theorem yc_rec (hJ : yJ G A (zH E σ) T) (hA : yCo A o n) (hI : yI E σ n) (hy : yW n) (hq : T q = some (.inl (0, 1, f))) (hK : ∀ G' n', yT o (zL E 5 0 0) q G' n' → K (1 : Int32) G') : (0 + 1 ≤ 200 ∧ 0 + 10 ≤ 20000) ∧ ∀ q220 : Nat, G q220 = none → ∀ G220 : gH, G220 = va_up G q220 (some (.inr (.inr (.inl (6, 10, fun _ => none))))) →
    ∃ C228 R228 : gH, gd C228 R228 ∧ G220 = gj C228 R228 ∧
    ∃ u228, g_ob C228 (zL E 5 0 0) 10 = some u228 ∧
    ((0 + 1) + 0 ≤ 200 ∧ (0 + 10) + 0 ≤ 20000) ∧
    ∃ q228, f_X10_lost C228 (zL E 5 0 0) q220 = some q228 ∧ ∀ G228 : gH, gd q228.1 R228 → G228 = gj q228.1 R228 →
    ∃ C236 R236 : gH, gd C236 R236 ∧ G228 = gj C236 R236 ∧
    ∃ u236, g_ob C236 (zL E 5 0 0) 10 = some u236 ∧
    ((0 + 1) + 0 ≤ 200 ∧ (0 + 10) + 0 ≤ 20000) ∧
    ∃ v236, f_X10_whyRecover C236 (zL E 5 0 0) q228.2 = some v236 ∧
    if v236 ≤ 0 then
    ∃ v245, g_r G228 (zL E 5 0 0) 10 16 = some v245 ∧
    ∃ v249, g_i G228 (zL E 5 0 0) 10 4 = some v249 ∧
    ∃ v254, g_rald 5 G228 v245 (v249 - (1 : Int32)) = some v254 ∧
    ((v254 = none →
    False) ∧ ∀ r254 : Nat, v254 = some r254 →
    ∃ G256, g_put G228 r254 12 0 (.int (3 : Int32)) = some G256 ∧
    ∃ C260 R260 : gH, gd C260 R260 ∧ G256 = gj C260 R260 ∧
    ∃ u260, g_ob C260 (zL E 5 0 0) 10 = some u260 ∧
    ((0 + 1) + 4 ≤ 200 ∧ (0 + 10) + 32 ≤ 20000) ∧
    w_X10_begins 4 32 C260 (zL E 5 0 0) (fun v260 D260 => ∀ G260 : gH, gd D260 R260 → G260 = gj D260 R260 →
    ((v260 = none →
    w_L_changes_L268 200 20000 K g_N G260 ((0 + 1) + 4) ((0 + 10) + 32) o (zL E 5 0 0) q220 q228.2 none (0 : Int32)) ∧ ∀ r260 : Nat, v260 = some r260 →
    w_L_changes_L268 200 20000 K g_N G260 ((0 + 1) + 4) ((0 + 10) + 32) o (zL E 5 0 0) q220 q228.2 (some r260) (0 : Int32))))
    else
    (0 + 1) ≤ 200 ∧ (0 + 10) ≤ 20000 ∧ K (1 : Int32) G228 := by
  have hn := hA.w
  have hN := hn.1.r
  have hcr := nCr_files hn
  have hcr0 := nCr_rng hn
  have hlen := nCo_len hn
  have y2 := hy.1
  refine ⟨⟨by omega, by omega⟩, fun q2 z2 G2 i2 => ?_⟩
  obtain ⟨nA, nB, nT⟩ := hJ.no z2
  obtain ⟨E8, w8, u8, l8, L8, H8⟩ := y_new8 hI.ok nB
  obtain ⟨σ0, hσ0⟩ : ∃ σ0, σ0 = zr σ 8 0 0 (fun _ => 0) := ⟨_, rfl⟩
  have nu8 : zU E 8 0 = false := by
    cases h : zU E 8 0 with
    | false => rfl
    | true => have := hI.ok.2.2 8 0 h; omega
  have nk8 : ∀ d, zU E 8 d = false := by
    intro d
    cases h : zU E 8 d with
    | false => rfl
    | true => have := hI.ok.2.2 8 d h; omega
  have hs0 : ∀ k d c, k ≠ 8 → σ0 k d c = σ k d c := fun k d c hk => by rw [hσ0]; unfold zr; rw [if_neg (by omega)]
  have keep : ∀ σ' : zW, (∀ k d c, k ≠ 8 → σ' k d c = σ k d c) → zH E σ' = zH E σ := fun σ' h => zH_cg (fun k d c hu => h k d c (by rintro rfl; rw [nk8] at hu; cases hu))
  have hB8 : zH E8 σ0 = va_up (zH E σ) q2 (some (.inr (.inr (.inl (6, 10, fun _ => none))))) := by
    rw [H8, keep σ0 hs0]
    have : σ0 8 0 0 = fun _ => 0 := by rw [hσ0]; unfold zr; simp
    rw [this]
    rfl
  have e5 : zL E8 5 0 0 = zL E 5 0 0 := l8 5 0 0 (by omega)
  have yr8 : yR E8 σ0 n := hI.r.E8 u8 hs0
  have hu8 : zU E8 8 0 = true := by rw [u8]; simp [yG1]
  obtain ⟨σ', f1, f2, f3⟩ := yl_lost w8 yr8 hn hy hu8
  rw [e5, L8] at f1
  have fr : gd (zH E8 σ0) (gj A T) := by
    rw [hB8]
    exact gd_s (gd_up (gd_s hJ.b.1) (gj_n0.mpr ⟨nA, nT⟩))
  have eG : G2 = gj (zH E8 σ0) (gj A T) := by
    rw [i2, hB8, ← gj_upL (gj_n0.mpr ⟨nA, nT⟩), ← hJ.b.2]
  refine ⟨_, _, fr, eG, (), by rw [← e5]; simp only [zz_ldo w8 yr8.u], ⟨by omega, by omega⟩, _, f1, fun G3 d3 e3 => ?_⟩
  obtain ⟨ρ, hρ⟩ : ∃ ρ : Nat → Option Nat, ρ = fun j : Nat => if σ' 8 0 0 j = 0 then none else some (zL E8 7 (σ' 8 0 0 j - 1).toNat 0) := ⟨_, rfl⟩
  have hB3 : zH E8 σ' = va_up (zH E σ) q2 (some (.inr (.inr (.inl (6, 10, ρ))))) := by
    rw [H8, keep σ' (fun k d c hk => (f2 k d c hk).trans (hs0 k d c hk)), hρ]
    rfl
  have hJ3 : yJ G3 A (zH E σ) (va_up T q2 (some (.inr (.inr (.inl (6, 10, ρ)))))) := by
    have := hJ.upT nA nB (some (.inr (.inr (.inl (6, 10, ρ)))))
    rw [show G3 = va_up G q2 (some (.inr (.inr (.inl (6, 10, ρ))))) from ?_]
    · exact this
    · rw [e3]
      dsimp only
      rw [hB3, ← gj_upL (gj_n0.mpr ⟨nA, nT⟩), ← hJ.b.2]
  have hne : q ≠ q2 := by rintro rfl; rw [nT] at hq; cases hq
  have hq3 : (va_up T q2 (some (.inr (.inr (.inl (6, 10, ρ)))))) q = some (.inl (0, 1, f)) := by rw [gva_ne hne]; exact hq
  refine ⟨_, _, hJ3.b.1, hJ3.b.2, (), yl_ob5 hI, ⟨by omega, by omega⟩, _, yl_whyRecover hI.w hI.r hn (x := nCr n) hcr0.1 (by omega), ?_⟩
  have rgr := nWr_rng n
  have hwr : (if nCr n = 0 then 2 else if n 3 = 12 then 3 else nWd n (nCr n)) = nWr n := by
    unfold nWr
    by_cases z : nCr n = 0
    · rw [if_pos z, if_pos z]
    · rw [if_neg z, if_neg z]
      have hl : nLo n = true := by
        cases hh : nLo n with
        | true => rfl
        | false => exfalso; apply z; unfold nCr; rw [hh]; rfl
      obtain ⟨l0, l1⟩ := nLo_iff.mp hl
      have ho : nOp n = false := by
        cases hh : nOp n with
        | false => rfl
        | true => have := (nOp_iff.mp hh).2; omega
      unfold nTm
      rw [ho]
      by_cases z3 : n 3 = 12
      · rw [if_pos z3, if_pos (by simp; omega)]
      · rw [if_neg z3, if_neg (by simp; omega)]
  rw [hwr]
  by_cases hw : nWr n = 0
  · rw [if_pos (show zI (nWr n) ≤ (0 : Int32) by rw [hw]; decide)]
    obtain ⟨hl, r1, r3, ro, ⟨r4, r5⟩, ⟨r6, r7, r8⟩, ⟨r9, r10, r11, r12⟩, r13⟩ := nRec_W hn hw
    obtain ⟨l0, l1⟩ := nLo_iff.mp hl
    have hla : nLa n = n 3 - 1 := rfl
    refine ⟨_, hJ3.r (show g_r (zH E σ) (zL E 5 0 0) 10 16 = some (zL E 5 0 16) by simp only [zz_ldo hI.w hI.u]), _, hJ3.i (yN hI.w hI.r).2.2.2.2.1, some (ySe E (nLa n)), (by
      rw [show zI (n 3) - (1 : Int32) = zI (nLa n) from zI_sub _ 1]
      exact hJ3.rald ((yAll hI.w hI.r hn.1).2 (nLa n) l0 (by omega))), fun z => (by cases z), fun r hr => ?_⟩
    obtain rfl : ySe E (nLa n) = r := by injection hr
    obtain ⟨p1, p2⟩ := yl_lost3 hI hn hl
    obtain ⟨G4, g1, g2⟩ := hJ3.put p1
    obtain ⟨n1, hn1⟩ : ∃ n1, n1 = zus n (nLa n) 0 3 := ⟨_, rfl⟩
    rw [← hn1] at p2 r4 r5 r6 r7 r8 r9 r10 r11 r12
    have n1lo : ∀ i, i < 1255 → n1 i = n i := fun i hi => by rw [hn1]; exact zus_lo l0 (by omega) hi
    refine ⟨_, g1, _, _, g2.b.1, g2.b.2, (), yl_ob5 p2, ⟨by omega, by omega⟩, yl_begins p2 (by rw [n1lo 3 (by omega)]; exact r3) (fun E' σ2 H w4 _ G5 d5 e5' => ⟨fun z => (by cases z), fun r hr => ?_⟩)⟩
    obtain rfl : ySe E' (n1 3) = r := by injection hr
    have hI5 := yI.bg p2 r4 (by rw [n1lo 3 (by omega)]; exact r3) H
    have hJ5 := g2.b' d5 e5'
    have e50 : zL E' 5 0 0 = zL E 5 0 0 := (w4 5 0 0 hI.u).2
    have hye1 : yWe (nBg n1) := by
      have h1 : ∀ i, i < 1255 → i ≠ 3 → nBg n1 i = n i := fun i hi h3 => by rw [nBg_lo (by rw [n1lo 3 (by omega)]; omega) hi h3, n1lo i hi]
      unfold yWe
      rw [h1 0 (by omega) (by omega), h1 1 (by omega) (by omega), h1 2 (by omega) (by omega), r8]
      refine ⟨hy.1, fun s s0 s1 => ?_⟩
      rw [nS_nBg (by rw [n1lo 3 (by omega)]; omega) s0 (by omega) (by omega), nS_nBg (by rw [n1lo 3 (by omega)]; omega) s0 (by omega) (by omega), n1lo 3 (by omega), if_neg (by omega), if_neg (by omega), hn1, nS_zus (by omega) (by omega) (by omega) (by omega), nS_zus (by omega) (by omega) (by omega) (by omega), if_neg (show ¬ (s = nLa n ∧ (2 : Int) = 0) by omega)]
      by_cases z : s = nLa n
      · rw [if_pos ⟨z, rfl⟩]; omega
      · rw [if_neg (by omega)]; exact (hy.2 s s0 s1).2
    have hCo : nCo n = nCll (nRc n (nLa n)) (n 6).toNat := by unfold nCo; rw [if_pos hl]
    have hmem : ∀ v ∈ nCo n, 0 ≤ v ∧ v < n 6 := by
      rw [hCo]
      have : ∀ m : Nat, ∀ v ∈ nCll (nRc n (nLa n)) m, 0 ≤ v ∧ v < m := by
        intro m
        induction m with
        | zero => intro v hv; simp [nCll] at hv
        | succ m ih =>
          intro v hv
          unfold nCll at hv
          split at hv
          · rcases List.mem_append.mp hv with z | z
            · have := ih v z; omega
            · simp at z; omega
          · have := ih v hv; omega
      intro v hv
      have := this _ v hv
      omega
    have hEl : nRl (nRc n (nLa n)) (fun v => nV n v 0) (nBg n1) 0 (n 6).toNat = nEl n (nBg n1) (nCo n) := by rw [nRl_El, hCo]
    have hlo6 : ∀ i, i < 1255 → i ≠ 3 → nBg n1 i = n i := fun i hi h3 => by rw [nBg_lo (by rw [n1lo 3 (by omega)]; omega) hi h3, n1lo i hi]
    rw [← e50]
    have hcr6 : nCr n = ((nCo n).length : Int) := hlen.symm
    have hl6 : ((nCo n).length : Int) ≤ 10 := by rw [hlen]; unfold nCr; rw [if_pos hl]; omega
    rw [hcr6, show (some (ySe E' (n1 3))) = some (ySe E' (nLa (nBg n1))) by rw [r8, n1lo 3 (by omega)]]
    refine yc_L268 (E := E') (n0 := n) (q2 := q2) (ρ := ρ) (len := (nCo n).length) (Le := nCo n) hA hw hq3 gva_at hlen (by omega) rfl (fun i hi => ?_) (fun G' n' h' => hK G' n' (by rw [← e50]; exact h')) hmem (nCo n) 0 g_N (nBg n1) σ2 G5 rfl (by simp) (by unfold g_N; omega) hJ5 hI5 r6 r7 hye1 (hlo6 2 (by omega) (by omega)) (hlo6 6 (by omega) (by omega)) (fun v v0 v1 => hlo6 _ (by omega) (by omega)) (fun z => ?_) (by rw [← hEl]; exact r10) (by rw [← hEl, hn1]; rfl)
    · have hj := f3 i hi
      have hm := hmem _ (List.getElem_mem hi)
      have hd : (nCo n).getD i 0 = (nCo n)[i] := by simp [List.getD, List.getElem?_eq_getElem hi]
      rw [hρ]
      dsimp only
      rw [hj, hd, if_neg (by omega), show (nCo n)[i] + 1 - 1 = (nCo n)[i] by omega, l8 7 _ 0 (by omega)]
      have := yVe_gr (E := E) (E' := E') w4 (v := (nCo n)[i]) (hI.r.uv hm.1 hm.2)
      exact congrArg some this.symm
    · rw [z] at hlen; simp at hlen; omega
  · rw [if_neg (show ¬ zI (nWr n) ≤ (0 : Int32) by rw [show (0 : Int32) = zI 0 from rfl, zI_le (by omega) (by omega) (by omega) (by omega)]; omega)]
    exact ⟨by omega, by omega, hK _ _ (yT.mk hJ3 hA hI hy hq3)⟩
end yX


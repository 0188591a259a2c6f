/-! Writing a file: a new version; erasing. -/
section yN
variable {E : zE} {σ : zW} {n : zN} {cv cs : Int → Int}
/-- the rows after a version is made -/
def yVa (σ : zW) (v : Nat) (f first m tag la : Int) : zW := zs (zs (zs (zs (zs (zs (zs (zs (yVn σ v) 7 v 0 0 f) 7 v 0 1 v) 7 v 0 2 first) 7 v 0 3 m) 7 v 0 4 tag) 7 v 0 5 la) 5 0 0 5 (v + 1)) 5 0 15 v (v + 1)
theorem yVa_o {v : Nat} {f first m tag la : Int} {k d c : Nat} (h1 : ¬ (k = 7 ∧ d = v)) (h2 : ¬ (k = 5 ∧ d = 0 ∧ (c = 0 ∨ c = 15))) : yVa σ v f first m tag la k d c = σ k d c := by
  unfold yVa
  rw [zs_ne (by omega), zs_ne (by omega), zs_ne (by omega), zs_ne (by omega), zs_ne (by omega), zs_ne (by omega), zs_ne (by omega), zs_ne (by omega)]
  unfold yVn
  rw [if_neg h1]
theorem yG.ad (h : yI E σ n) (hn : nW n) {f m tag : Int} {E' : zE} (h96 : n 6 < 96) (w1 : zWF E') (w2 : zU E' 9 0 = false) (w3 : ∀ k d, zU E' k d = (zU E k d || yG1 7 (n 6).toNat k d)) (w4 : yGr E E') : yG E' (yVa σ (n 6).toNat f (n 4) m tag (nLa n)) (nAdd n f m tag) (fun u => if u = n 6 then 0 else nV n u 2) (fun s => nL n s) := by
  obtain ⟨a1, a2, a3, a4, a5, ⟨d1, d2, d3, d4, d5⟩, ⟨b1, b2, b3, b4, b5⟩, a8, a9⟩ := h
  obtain ⟨v, hv⟩ : ∃ v : Nat, (v : Int) = n 6 := ⟨(n 6).toNat, by omega⟩
  have hvt : (n 6).toNat = v := by omega
  rw [hvt] at w3 ⊢
  have lo : ∀ i, i ≠ 6 → i < 775 + 5 * n 6 ∨ 780 + 5 * n 6 ≤ i → nAdd n f m tag i = n i := fun i h6 hi => by
    unfold nAdd; rw [nAr_out (by omega) (by omega), zu_ne h6]
  have e6 : nAdd n f m tag 6 = n 6 + 1 := by unfold nAdd; rw [nAr_out (by omega) (by omega), zu_eq rfl]
  have hVn := nAr_V (n := zu n 6 (n 6 + 1)) (v := n 6) (f := f) (first := n 4) (m := m) (tag := tag) (se := nLa n)
  have hVo : ∀ u w, 0 ≤ u → u < n 6 → 0 ≤ w → w < 5 → nV (nAdd n f m tag) u w = nV n u w := fun u w u0 u1 w0 w1 => lo _ (by omega) (by omega)
  have hS : ∀ s w, 0 ≤ s → 0 ≤ w → nS (nAdd n f m tag) s w = nS n s w := fun s w s0 w0 => lo _ (by omega) (by omega)
  have pl : ∀ b, 0 ≤ b → b < 96 → nPl (nAdd n f m tag) b = nPl n b := fun b b0 b1 => nPl_cg (lo _ (by omega) (by omega))
  have l3 := lo 3 (by omega) (by omega)
  have l4 := lo 4 (by omega) (by omega)
  have hO : ∀ k d c, ¬ (k = 7 ∧ d = v) → ¬ (k = 5 ∧ d = 0 ∧ (c = 0 ∨ c = 15)) → yVa σ v f (n 4) m tag (nLa n) k d c = σ k d c := fun k d c h1 h2 => yVa_o h1 h2
  have c0 : ∀ i, yVa σ v f (n 4) m tag (nLa n) 5 0 0 i = if i = 5 then (v : Int) + 1 else σ 5 0 0 i := by
    intro i
    unfold yVa
    rw [zs_ne (by omega), zs_at]
    by_cases z : i = 5
    · rw [if_pos z, if_pos z]
    · rw [if_neg z, if_neg z, zs_ne (by omega), zs_ne (by omega), zs_ne (by omega), zs_ne (by omega), zs_ne (by omega), zs_ne (by omega)]
      unfold yVn
      rw [if_neg (by omega)]
  have c15 : ∀ i, yVa σ v f (n 4) m tag (nLa n) 5 0 15 i = if i = v then (v : Int) + 1 else σ 5 0 15 i := by
    intro i
    unfold yVa
    rw [zs_at]
    by_cases z : i = v
    · rw [if_pos z, if_pos z]
    · rw [if_neg z, if_neg z, zs_ne (by omega), zs_ne (by omega), zs_ne (by omega), zs_ne (by omega), zs_ne (by omega), zs_ne (by omega), zs_ne (by omega)]
      unfold yVn
      rw [if_neg (by omega)]
  have k6 : ∀ s, yVa σ v f (n 4) m tag (nLa n) 6 s = σ 6 s := fun s => by funext c; exact hO 6 s c (by omega) (by omega)
  have k7 : ∀ u, u ≠ v → yVa σ v f (n 4) m tag (nLa n) 7 u = σ 7 u := fun u hu => by funext c; exact hO 7 u c (by omega) (by omega)
  obtain ⟨r0, r1, r2, r3, r4, r5, r6⟩ := a3
  refine ⟨⟨w1, w2, fun k d hu => ?_⟩, ⟨(w4 5 0 0 a2.1).1, fun s hs => ?_, fun u hu => ?_⟩, ?_, ?_, ⟨fun u u0 u1 => ?_, fun s s0 s1 => ?_⟩, ⟨?_, fun j => ?_, fun j => ?_, fun j => ?_, fun s s1 j => ?_⟩, ⟨by rw [l4]; exact b1, by rw [l3]; exact b2, by rw [e6]; omega, fun s s0 s1 => ?_, fun u u0 u1 => ?_⟩, fun s s1 => ?_, fun u u1 => ?_⟩
  · rw [w3] at hu
    rw [l3, e6]
    rcases Bool.or_eq_true_iff.mp hu with z | z
    · have := a1.2.2 k d z; omega
    · have := yG1_iff.mp z; omega
  · rw [l3] at hs
    rw [w3, a2.2.1 s hs]; rfl
  · rw [e6] at hu
    rw [w3]
    by_cases z : (u : Int) < n 6
    · rw [a2.2.2 u z]; rfl
    · rw [yG1_iff.mpr ⟨rfl, by omega⟩]; simp
  · unfold yRn
    rw [c0, c0, c0, c0, c0, c0, c0, e6, l3, l4, lo 0 (by omega) (by omega), lo 1 (by omega) (by omega), lo 2 (by omega) (by omega), lo 5 (by omega) (by omega)]
    exact ⟨by rw [if_neg (by omega)]; exact r0, by rw [if_neg (by omega)]; exact r1, by rw [if_neg (by omega)]; exact r2, by rw [if_neg (by omega)]; exact r3, by rw [if_neg (by omega)]; exact r4, by rw [if_pos rfl]; omega, by rw [if_neg (by omega)]; exact r6⟩
  · exact a4.lo (fun i i0 i1 => lo i (by omega) (by omega)) (fun c c0 c1 => hO 5 0 c (by omega) (by omega))
  · rw [e6] at u1
    rw [c15]
    by_cases z : u = v
    · rw [if_pos z, z]
    · rw [if_neg z]; exact a5.1 u u0 (by omega)
  · rw [l3] at s1
    rw [hO 5 0 16 (by omega) (by omega)]; exact a5.2 s s0 s1
  · rw [l3, e6]; omega
  · rw [hO 5 0 14 (by omega) (by omega), e6]; have := d2 j; omega
  · rw [c15, e6]; have := d3 j; split <;> omega
  · rw [hO 5 0 16 (by omega) (by omega), l3]; exact d4 j
  · rw [l3] at s1
    rw [k6, e6]; have := d5 s s1 j; omega
  · rw [l3] at s1
    rw [hS s 2 s0 (by omega), hS s 3 s0 (by omega), l4]
    exact b4 s s0 s1
  · rw [e6] at u1
    rw [l4]
    intro k k0 k1
    by_cases z : u = n 6
    · simp only [if_pos z] at k1; omega
    · simp only [if_neg z] at k1
      rw [hVo u 1 u0 (by omega) (by omega) (by omega)]
      exact b5 u u0 (by omega) k k0 k1
  · rw [l3] at s1
    rw [k6]
    have cc := b4 s (by omega) s1
    exact (a8 s s1).cg cc.1.2 (fun w w0 w1 => hS s w (by omega) w0) (fun k k0 k1 => pl _ (cc.2 k k0 k1).1 (by have := (cc.2 k k0 k1).2; omega))
  · rw [e6] at u1
    by_cases z : u = v
    · subst z
      rw [hv]
      simp only [if_true]
      unfold nAdd
      unfold yRv'
      rw [hVn.1, hVn.2.1, hVn.2.2.1, hVn.2.2.2.1, hVn.2.2.2.2]
      have e : ∀ i, yVa σ u f (n 4) m tag (nLa n) 7 u 0 i = if i = 5 then nLa n else if i = 4 then tag else if i = 3 then m else if i = 2 then n 4 else if i = 1 then (u : Int) else if i = 0 then f else 0 := by
        intro i
        unfold yVa
        rw [zs_ne (by omega), zs_ne (by omega), zs_at, zs_at, zs_at, zs_at, zs_at, zs_at]
        unfold yVn
        simp
      rw [e, e, e, e, e, e]
      simp
      exact ⟨hv, fun k k0 k1 => by omega⟩
    · have z' : ¬ ((u : Int) = n 6) := by omega
      simp only [if_neg z']
      rw [k7 u z]
      have cc := b5 u (by omega) (by omega)
      exact (a9 u (by omega)).cg (fun w w0 w1 => hVo u w (by omega) (by omega) w0 w1) (fun k k0 k1 => pl _ (cc k k0 k1).1 (by have := (cc k k0 k1).2; omega))
theorem yl_J18 (h : yI E σ n) (hn : nW n) (hop : nOp n = true) (h2 : n 2 ≤ 10) {f m tag : Int} (f0 : 0 ≤ f) (f1 : f < n 2) (m0 : 1 ≤ m) (m8 : m ≤ 8) (hroom : n 4 + m ≤ n 0 - n 1) (hsp : nBc n m.toNat ≤ nGc n) (hA : nWn (nAdd n f m tag) ∧ nWb (nAdd n f m tag)) (hW3 : nW (nWl 1 (nLa n) (n 6) (nAdd n f m tag) 0 m.toNat)) {MC MS kc ks : Nat} (hkc : kc + 2 ≤ MC) (hks : ks + 15 ≤ MS) {K : Int32 → gH → Prop} (hK : ∀ E' σ', yI E' σ' (nE1 (nWl 1 (nLa n) (n 6) (nAdd n f m tag) 0 m.toNat) f (n 6)) → yGr E E' → K (zI (n 6)) (zH E' σ')) : w_X10_write_J18 MC MS K (zH E σ) kc ks (zL E 5 0 0) (zI f) (zI m) (zI tag) (some (ySe E (nLa n))) := by
  have hN := hn.1.r
  obtain ⟨l0, l1, st, s3, ⟨e0, e1⟩, -⟩ := yOp3 hn hop
  have h96 : n 6 < 96 := by have := hn.2.2.1.1; omega
  obtain ⟨r0, r1, r2, r3, r4, r5, r6⟩ := h.num
  unfold w_X10_write_J18
  refine ⟨fun z => (by cases z), fun s hs => ?_⟩
  obtain rfl : ySe E (nLa n) = s := by injection hs
  refine ⟨⟨by omega, by omega⟩, fun q0 z0 G0 i0 => ?_⟩
  refine ⟨G0, fun _ => none, gd_n _, (gj_n _).symm, ⟨by omega, by omega⟩, ?_⟩
  refine gi_X13 (by rw [i0]; exact gva_at) (fun q6 D g G4 _ i4 => ?_)
  rw [gj_n] at i4
  subst i4
  rw [i0] at g
  obtain ⟨E', w1, w2, w3, w4, w5, w6⟩ := y_newV h.ok h.bd (v := (n 6).toNat) (by omega) z0 g
  subst w6
  have u5 : zU E' 5 0 = true := (w4 5 0 0 h.u).1
  have u7 : zU E' 7 (n 6).toNat = true := by rw [w3]; simp [yG1]
  have l5 : ∀ c, zL E' 5 0 c = zL E 5 0 c := fun c => (w4 5 0 c h.u).2
  have hv : (((n 6).toNat : Nat) : Int) = n 6 := by omega
  have c5 : ∀ c, yVn σ (n 6).toNat 5 0 c = σ 5 0 c := fun c => by unfold yVn; rw [if_neg (by omega)]
  have eS : ySe E' (nLa n) = ySe E (nLa n) := ySe_gr w4 (h.r.us l0 l1)
  rw [← l5 0, ← w5, ← eS]
  have p := fun τ v => zp_lv0 (σ := τ) w1 u7 v
  have p1 := fun τ v => zp_lv1 (σ := τ) w1 u7 v
  have p2 := fun τ v => zp_lv2 (σ := τ) w1 u7 v
  have p3 := fun τ v => zp_lv3 (σ := τ) w1 u7 v
  have p4 := fun τ v => zp_lv4 (σ := τ) w1 u7 v
  have p5 := fun τ v => zp_lv5 (σ := τ) w1 u7 v
  have g5 : ∀ τ x, τ 5 0 0 5 = x → g_i (zH E' τ) (zL E' 5 0 0) 10 5 = some (zI x) := fun τ x z => by rw [zg_ld5 w1 u5, z]
  have g3 : ∀ τ x, τ 5 0 0 3 = x → g_i (zH E' τ) (zL E' 5 0 0) 10 3 = some (zI x) := fun τ x z => by rw [zg_ld3 w1 u5, z]
  have g4 : ∀ τ x, τ 5 0 0 4 = x → g_i (zH E' τ) (zL E' 5 0 0) 10 4 = some (zI x) := fun τ x z => by rw [zg_ld4 w1 u5, z]
  have zr : ∀ τ, g_rast 6 (zH E' τ) (zL E' 5 0 15) (zI (n 6)) (some (zL E' 7 (n 6).toNat 0)) = some (zH E' (zs τ 5 0 15 (n 6) (n 6 + 1))) := by
    intro τ
    have := zRast (σ := τ) (kk := 7) (v := n 6 + 1) w1 u5 (rfl : zA 5 15 = some (6, 96)) (Or.inr ⟨rfl, rfl⟩) (by decide) (i := n 6) (by omega) (by omega)
    rwa [if_neg (by omega), show n 6 + 1 - 1 = n 6 by omega] at this
  have hH := yG.ad h hn (f := f) (m := m) (tag := tag) h96 w1 w2 w3 w4
  have q5 : ∀ τ, g_put (zH E' τ) (zL E' 7 (n 6).toNat 0) 13 5 (.int (zI (n 3) - 1)) = some (zH E' (zs τ 7 (n 6).toNat 0 5 (nLa n))) := fun τ => by
    rw [show (zI (n 3) - (1 : Int32)) = zI (nLa n) from zI_sub _ 1]; exact p5 τ _
  have q6 : ∀ τ, g_put (zH E' τ) (zL E' 5 0 0) 10 5 (.int (zI (n 6) + 1)) = some (zH E' (zs τ 5 0 0 5 (n 6 + 1))) := fun τ => by
    rw [show (zI (n 6) + (1 : Int32)) = zI (n 6 + 1) from zI_add _ 1]; exact zp_ld5 w1 u5 _
  refine ⟨_, p _ f, _, g5 _ (n 6) ?_, _, p1 _ _, _, g3 _ (n 4) ?_, _, p2 _ _, _, p3 _ _, _, p4 _ _, _, g4 _ (n 3) ?_, _, q5 _, _, (by simp only [zz_ldo w1 u5]), _, g5 _ (n 6) ?_, _, q6 _, (), (zz_lvo w1 u7).2, _, zr _, ?_⟩
  · rw [zs_ne (by omega), c5]; exact r5
  · rw [zs_ne (by omega), zs_ne (by omega), c5]; exact r3
  · rw [zs_ne (by omega), zs_ne (by omega), zs_ne (by omega), zs_ne (by omega), zs_ne (by omega), c5]; exact r4
  · rw [zs_ne (by omega), zs_ne (by omega), zs_ne (by omega), zs_ne (by omega), zs_ne (by omega), zs_ne (by omega), c5]; exact r5
  have A0 : ∀ i, i ≠ 6 → i < 775 + 5 * n 6 ∨ 780 + 5 * n 6 ≤ i → nAdd n f m tag i = n i := fun i h6 hi => by
    unfold nAdd; rw [nAr_out (by omega) (by omega), zu_ne h6]
  have A6 : nAdd n f m tag 6 = n 6 + 1 := by unfold nAdd; rw [nAr_out (by omega) (by omega), zu_eq rfl]
  have AV := nAr_V (n := zu n 6 (n 6 + 1)) (v := n 6) (f := f) (first := n 4) (m := m) (tag := tag) (se := nLa n)
  have hst : zs (zs (zs (zs (zs (zs (zs (zs (yVn σ (n 6).toNat) 7 (n 6).toNat 0 0 f) 7 (n 6).toNat 0 1 (n 6)) 7 (n 6).toNat 0 2 (n 4)) 7 (n 6).toNat 0 3 m) 7 (n 6).toNat 0 4 tag) 7 (n 6).toNat 0 5 (nLa n)) 5 0 0 5 (n 6 + 1)) 5 0 15 (n 6) (n 6 + 1) = yVa σ (n 6).toNat f (n 4) m tag (nLa n) := by unfold yVa; rw [hv]
  rw [hst]
  have ABc : nBc (nAdd n f m tag) m.toNat = nBc n m.toNat := nBc_ag (fun i h7 h8 => A0 i (by omega) (by omega)) (A0 4 (by omega) (by omega)) (by omega) (by omega)
  have AGc : nGc (nAdd n f m tag) = nGc n := nGc_ag (fun i h7 h8 => A0 i (by omega) (by omega)) (A0 0 (by omega) (by omega)) (A0 1 (by omega) (by omega)) hn.1
  refine yl_L97 (cv := fun u => nV n u 2) (la := nLa n) (v := n 6) (by omega) (by omega) m8 (by omega) l0 (cs := fun s => nL n s) m.toNat g_N 0 _ _ ?_ hA.1 hA.2 (by rw [A0 4 (by omega) (by omega), A0 0 (by omega) (by omega), A0 1 (by omega) (by omega)]; omega) (by rw [ABc, AGc]; exact hsp) (by omega) (by omega) ?_ (by rw [A6]; omega) (by unfold nLa; rw [A0 3 (by omega) (by omega)]) ?_ (by unfold g_N; omega) (fun σ' H => ?_)
  · exact hH
  · unfold nAdd; rw [AV.2.1]; have := A0 4 (by omega) (by omega); unfold nAdd at this; omega
  · unfold nAdd; rw [AV.2.1]; omega
  -- after the blocks
  have hWl := nWl_W (kind := 1) (se := nLa n) (v := n 6) m.toNat (nAdd n f m tag) 0 hA.1 hA.2 (by rw [A0 4 (by omega) (by omega), A0 0 (by omega) (by omega), A0 1 (by omega) (by omega)]; omega) (by rw [ABc, AGc]; exact hsp) (Or.inl rfl) l0 (by rw [A0 3 (by omega) (by omega)]; omega) (by omega) (by rw [A6]; omega) (fun _ => by omega) (by omega) (by omega)
  obtain ⟨n3, hn3⟩ : ∃ x, x = nWl 1 (nLa n) (n 6) (nAdd n f m tag) 0 m.toNat := ⟨_, rfl⟩
  rw [← hn3] at hWl H hW3 hK
  obtain ⟨-, -, c3, c4⟩ := hWl
  have c4' : ∀ i, i ≠ 4 → i < 7 ∨ 775 ≤ i → n3 i = nAdd n f m tag i := fun i h4 hi => c4 i h4 (by omega)
  have d3 : n3 3 = n 3 := by rw [c4' 3 (by omega) (by omega), A0 3 (by omega) (by omega)]
  have d6 : n3 6 = n 6 + 1 := by rw [c4' 6 (by omega) (by omega), A6]
  have d2 : n3 2 = n 2 := by rw [c4' 2 (by omega) (by omega), A0 2 (by omega) (by omega)]
  have dS : ∀ s w, 0 ≤ s → 0 ≤ w → nS n3 s w = nS n s w := fun s w s0 w0 => by unfold nS; rw [c4' _ (by omega) (by omega), A0 _ (by omega) (by omega)]
  have dV : ∀ u, 0 ≤ u → u < n 6 + 1 → nV n3 u 2 = if u = n 6 then m else nV n u 2 := fun u u0 u1 => by
    unfold nV
    rw [c4' _ (by omega) (by omega)]
    by_cases z : u = n 6
    · rw [if_pos z, z]; exact AV.2.2.1
    · rw [if_neg z, A0 _ (by omega) (by omega)]
  have hla : nLa n3 = nLa n := by unfold nLa; rw [d3]
  have hI : yI E' σ' n3 := H.cg (fun u u0 u1 => by rw [d6] at u1; exact dV u u0 u1) (fun s s0 s1 => nL_cg (dS s 2 s0 (by omega)) (dS s 3 s0 (by omega)))
  have hop3 : nOp n3 = true := nOp_iff.mpr ⟨by rw [hla]; exact l0, by rw [hla, dS _ 0 l0 (by omega)]; exact st⟩
  obtain ⟨σ2, x1, x2, x3⟩ := yl_enter_r hI hW3 hop3 (by rw [d2]; exact h2) (f := f) (v := n 6) f0 (by rw [d2]; exact f1) (by omega) (by rw [d6]; omega) u7
  rw [hla] at x1
  refine ⟨_, x1, zI (n 6), ?_, hK E' σ2 x2 w4⟩
  have := (x2.ver (n 6).toNat (by rw [nE1_lo (by rw [hla]; exact l0) (by rw [hla, dS _ 2 l0 (by omega)]; exact e0) (by omega), d6]; omega)).2.1
  rw [zg_lv1 x2.w u7, this, hv]
end yN


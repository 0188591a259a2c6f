/-! What would be: the class's disc. -/
theorem zIb (b : Bool) : zI (zb b) = zI (if b = true then 1 else 0) := rfl
/-- the version of a file that would be recovered -/
def nRf (n : zN) (l x : Int) : Int := zls (fun v => decide (nV n v 0 = x) && nRo n v l) (n 6).toNat
theorem nRf_rng (n : zN) (l x : Int) : -1 ≤ nRf n l x ∧ (0 ≤ nRf n l x → nRf n l x < n 6) := by
  have h := zls_rng (fun v => decide (nV n v 0 = x) && nRo n v l) (n 6).toNat
  have h2 : nRf n l x = zls (fun v => decide (nV n v 0 = x) && nRo n v l) (n 6).toNat := rfl
  omega
theorem nRf_file {n : zN} {l x : Int} (h : nRf n l x ≠ -1) : nV n (nRf n l x) 0 = x := by
  rcases zls_spec (P := fun v => decide (nV n v 0 = x) && nRo n v l) (n 6).toNat with ⟨z, -⟩ | ⟨-, -, z, -⟩
  · exact absurd z h
  · rw [Bool.and_eq_true, decide_eq_true_iff] at z
    exact z.1
theorem nRf_iff {n : zN} {l v : Int} (h0 : 0 ≤ v) (h1 : v < n 6) : nRc n l v = true ↔ nRf n l (nV n v 0) = v := by
  have hsp := zls_spec (P := fun u => decide (nV n u 0 = nV n v 0) && nRo n u l) (n 6).toNat
  have he : nRf n l (nV n v 0) = zls (fun u => decide (nV n u 0 = nV n v 0) && nRo n u l) (n 6).toNat := rfl
  rw [← he] at hsp
  unfold nRc
  rw [Bool.and_eq_true, zal_iff]
  constructor
  · rintro ⟨h2, h3⟩
    rcases hsp with ⟨-, z⟩ | ⟨z0, z1, z2, z3⟩
    · have := z v h0 (by omega)
      simp [h2] at this
    · by_cases hlt : nRf n l (nV n v 0) < v
      · have := z3 v hlt (by omega)
        simp [h2] at this
      · by_cases hgt : v < nRf n l (nV n v 0)
        · have h4 := h3 _ (show v + 1 ≤ nRf n l (nV n v 0) by omega) (by omega)
          rw [z2] at h4
          exact absurd h4 (by simp)
        · omega
  · intro h2
    rcases hsp with ⟨z, -⟩ | ⟨z0, z1, z2, z3⟩
    · omega
    · rw [h2] at z2 z3
      rw [Bool.and_eq_true] at z2
      refine ⟨z2.2, fun i i0 i1 => ?_⟩
      have := z3 i (by omega) (by omega)
      rw [this]
      rfl
theorem nRf_cn {n : zN} (hn : nW n) {l : Int} : zcn (fun x => decide (nRf n l x ≠ -1)) 0 (n 2).toNat = zcn (nRc n l) 0 (n 6).toNat := by
  have hN := hn.1.r
  have h1 := zcn_map (e := (n 6).toNat) (g := fun x => nRf n l x) (n 2).toNat (fun x => decide (nRf n l x ≠ -1)) (nRc n l) (fun x x0 x1 hx => by
    have hx := of_decide_eq_true hx
    have hr := nRf_rng n l x
    refine ⟨by omega, by omega, ?_⟩
    rw [nRf_iff (by omega) (by omega), nRf_file hx]) (fun x x' _ _ _ _ hx hx' he => by
    have hx := of_decide_eq_true hx
    have hx' := of_decide_eq_true hx'
    have he : nRf n l x = nRf n l x' := he
    rw [← nRf_file hx, ← nRf_file hx', he])
  have h2 := zcn_map (e := (n 2).toNat) (g := fun v => nV n v 0) (n 6).toNat (nRc n l) (fun x => decide (nRf n l x ≠ -1)) (fun v v0 v1 hv => by
    have hw := hn.2.2.1.2 v v0 (by omega)
    rw [nRf_iff v0 (by omega)] at hv
    refine ⟨hw.1.1, by omega, ?_⟩
    rw [hv, decide_eq_true_iff]
    omega) (fun v v' v0 v1 v0' v1' hv hv' he => by
    rw [nRf_iff v0 (by omega)] at hv
    rw [nRf_iff v0' (by omega)] at hv'
    have he : nV n v 0 = nV n v' 0 := he
    rw [← hv, ← hv', he])
  omega
theorem nDl_z {e : Int} (h0 : 0 ≤ e) (h1 : e ≤ 1000) (G : gH) : f_X9_directoryLength G (zI e) = some (zI (nDl e)) := by
  unfold f_X9_directoryLength nDl
  simp (disch := first | assumption | omega) only [zz_lit, zz_num, zI_div]
section zCls
variable {E : zE} {σ : zW} {d : Nat} {n : zN}
theorem e0_canRelocate_L50 (hW : zWF E) (hu : zU E 0 d = true) (hR : zRk (σ 0 d) n) (hN : nWn n) (hB : nWb n) {x : Int} (hx0 : 0 ≤ x) (hx1 : x < 1000) : ∀ (m fuel : Nat) (acc b : Int), 0 ≤ b → b + m = n 0 → m < fuel → 0 ≤ acc → acc + m < 2000 → f_X0_canRelocate_L50 (zH E σ) fuel (zL E 0 d 1) (zI x) (zI acc) (zI b) = some (zI (zb (decide (x ≤ acc + zcn (fun b => decide (n (7 + b) = 0) && decide (n (103 + b) = 0)) b m)))) := by
  have hN' := hN.r
  intro m
  induction m with
  | zero =>
    intro fuel acc b h0 h1 h2 h3 h4
    obtain ⟨f, rfl, h5⟩ := zfuel h2
    simp (disch := first | assumption | omega) only [f_X0_canRelocate_L50, e0_count hW hu hR hN hB, zcn, zz_some, zz_lit, zz_num, zI_lt, zI_le, zI_eq, zI_nat, zz_b, if_pos, if_neg, if_true, if_false]
    rw [zb_somn]
    congr 4
    simp
  | succ m ih =>
    intro fuel acc b h0 h1 h2 h3 h4
    obtain ⟨f, rfl, h5⟩ := zfuel h2
    have hb := hB b h0 (by omega)
    simp (disch := first | assumption | omega) only [f_X0_canRelocate_L50, e0_count hW hu hR hN hB, e0_kindOf hW hu hR hN hB, e0_isBad' hW hu hR hN hB, zz_blo hW hu, zcn, ih, zz_some, zz_lit, zz_num, zI_lt, zI_le, zI_eq, zI_nat, zz_b, if_pos, if_neg, if_true, if_false]
    by_cases h : n (7 + b) = 0
    · by_cases h6 : n (103 + b) = 0
      · simp only [h, h6, decide_true, Bool.and_self, if_true]
        rw [show acc + 1 + zcn (fun b => decide (n (7 + b) = 0) && decide (n (103 + b) = 0)) (b + 1) m = acc + (zb true + zcn (fun b => decide (n (7 + b) = 0) && decide (n (103 + b) = 0)) (b + 1) m) by simp [zb]; omega]
      · simp only [h, h6, decide_true, decide_false, Bool.and_false, if_true, if_false]
        rw [show acc + 0 + zcn (fun b => decide (n (7 + b) = 0) && decide (n (103 + b) = 0)) (b + 1) m = acc + (zb false + zcn (fun b => decide (n (7 + b) = 0) && decide (n (103 + b) = 0)) (b + 1) m) by simp [zb]]
    · simp only [h, decide_false, Bool.false_and, if_false]
      rw [show acc + 0 + zcn (fun b => decide (n (7 + b) = 0) && decide (n (103 + b) = 0)) (b + 1) m = acc + (zb false + zcn (fun b => decide (n (7 + b) = 0) && decide (n (103 + b) = 0)) (b + 1) m) by simp [zb]]
theorem e0_canRelocate_L7 (hW : zWF E) (hu : zU E 0 d = true) (hR : zRk (σ 0 d) n) (hN : nWn n) (hB : nWb n) {x : Int} (hx0 : 0 ≤ x) (hx1 : n 4 + x ≤ n 0 - n 1) : ∀ (m fuel : Nat) (acc b : Int), 0 ≤ b → b + m = n 4 + x → m < fuel → 0 ≤ acc → acc + m < 500 → f_X0_canRelocate_L7 (zH E σ) fuel (zL E 0 d 1) (zI x) (zI acc) (zI b) = some (zI (zb (decide (acc + zcn (fun b => decide (n (103 + b) = 1)) b m ≤ zcn (fun b => decide (n (7 + b) = 0) && decide (n (103 + b) = 0)) (n 0 - n 1) (n 1).toNat)))) := by
  have hN' := hN.r
  intro m
  induction m with
  | zero =>
    intro fuel acc b h0 h1 h2 h3 h4
    obtain ⟨f, rfl, h5⟩ := zfuel h2
    simp (disch := first | assumption | omega) only [f_X0_canRelocate_L7, e0_main hW hu hR hN hB, e0_next hW hu hR hN hB, zcn, zz_some, zz_lit, zz_num, zI_lt, zI_le, zI_eq, zI_nat, zz_b, if_pos, if_neg, if_true, if_false]
    rw [e0_canRelocate_L50 hW hu hR hN hB h3 (by omega) (n 1).toNat _ _ _ (by omega) (by omega) (by unfold g_N; omega) (by omega) (by omega)]
    simp
  | succ m ih =>
    intro fuel acc b h0 h1 h2 h3 h4
    obtain ⟨f, rfl, h5⟩ := zfuel h2
    have hb := hB b h0 (by omega)
    have hz := zb_rng (decide (n (103 + b) = 1))
    simp (disch := first | assumption | omega) only [f_X0_canRelocate_L7, e0_main hW hu hR hN hB, e0_next hW hu hR hN hB, e0_isBad hW hu hR hN hB, zz_blo hW hu, zcn, decide_eq_true h0, Bool.true_and, zz_some, zz_lit, zz_num, zI_lt, zI_le, zI_eq, zI_nat, zz_b, if_pos, if_neg, if_true, if_false]
    rw [ih _ _ _ (by omega) (by omega) (by omega) (by omega) (by omega), Int.add_assoc]
    rfl
theorem e0_canRelocate (hW : zWF E) (hu : zU E 0 d = true) (hR : zRk (σ 0 d) n) (hN : nWn n) (hB : nWb n) {x : Int} (hx0 : 0 ≤ x) (hx1 : n 4 + x ≤ n 0 - n 1) : f_X0_canRelocate (zH E σ) (zL E 0 d 1) (zI x) = some (zI (zb (nHs n x))) := by
  have hN' := hN.r
  unfold f_X0_canRelocate nHs
  simp (disch := first | assumption | omega) only [e0_next hW hu hR hN hB, zz_some, zz_lit, zz_num, zI_lt, zI_le, zI_eq, zI_nat, zz_b, if_pos, if_neg, if_true, if_false]
  rw [e0_canRelocate_L7 hW hu hR hN hB hx0 hx1 x.toNat _ _ _ (by omega) (by omega) (by unfold g_N; omega) (by omega) (by omega)]
  simp
theorem e1_canReadVersion (hW : zWF E) (hu : zU E 0 d = true) (hR : zRd (σ 0 d) n) (hn : nW n) {v : Int} (h0 : 0 ≤ v) (h1 : v < n 6) : f_X1_canReadVersion (zH E σ) (zL E 0 d 0) (zI v) = some (zI (zb (nRv n v))) := by
  have hN' := hn.1.r
  have hv := hn.2.2.1.2 v h0 h1
  simp (disch := first | assumption | omega) only [f_X1_canReadVersion, zz_dc hW hu, zz_vso hW hu, zz_blo hW hu, e7_firstOf hW hu hR.2.1 hn.1, e7_lengthOf hW hu hR.2.1 hn.1, e0_canRead hW hu hR.1 hn.1 hn.2.1, zz_some, zz_lit, zz_num, zI_lt, zI_le, zI_eq, zI_nat, zz_b, if_pos, if_neg, if_true, if_false]
  rfl
theorem e1_canReadVersion' (hW : zWF E) (hu : zU E 0 d = true) (hR : zRd (σ 0 d) n) (hn : nW n) : f_X1_canReadVersion (zH E σ) (zL E 0 d 0) (zI (-1)) = some (zI 0) := by
  have hN' := hn.1.r
  have h1 := e7_firstOf hW hu hR.2.1 hn.1 (v := -1) (by omega) (by omega)
  have h2 := e7_lengthOf hW hu hR.2.1 hn.1 (v := -1) (by omega) (by omega)
  rw [if_neg (by omega)] at h1 h2
  simp (disch := first | assumption | omega) only [f_X1_canReadVersion, zz_dc hW hu, zz_vso hW hu, zz_blo hW hu, h1, h2, e0_canRead' hW hu hR.1 hn.1 hn.2.1, zz_some, zz_lit, zz_num, zI_lt, zI_le, zI_eq, zI_nat, zz_b, if_pos, if_neg, if_true, if_false]
theorem e1_relocatedBlock_L (hW : zWF E) (hu : zU E 0 d = true) (hR : zRd (σ 0 d) n) (hn : nW n) {k : Int} (hk0 : -2147483648 ≤ k) (hk1 : k < 2147483648) (hk : 0 ≤ k) : ∀ (m fuel : Nat) (c b : Int), 0 ≤ b → b + m = n 0 - n 1 → m < fuel → 0 ≤ c → c ≤ b → c ≤ k → f_X1_relocatedBlock_L4 (zH E σ) fuel (zL E 0 d 0) (zI k) (zI c) (zI b) = some (zI (znt (nDf n) b m (k - c))) := by
  have hN' := hn.1.r
  intro m
  induction m with
  | zero =>
    intro fuel c b h0 h1 h2 h3 h4 h6
    obtain ⟨f, rfl, h5⟩ := zfuel h2
    simp (disch := first | assumption | omega) only [f_X1_relocatedBlock_L4, zz_dc hW hu, e0_main hW hu hR.1.1 hn.1 hn.2.1, znt, zz_some, zz_lit, zz_num, zI_lt, zI_le, zI_eq, zI_nat, zz_b, if_pos, if_neg, if_true, if_false]
  | succ m ih =>
    intro fuel c b h0 h1 h2 h3 h4 h6
    obtain ⟨f, rfl, h5⟩ := zfuel h2
    have hb := hn.2.1 b h0 (by omega)
    simp (disch := first | assumption | omega) only [f_X1_relocatedBlock_L4, zz_dc hW hu, zz_blo hW hu, zz_seo hW hu, e0_main hW hu hR.1.1 hn.1 hn.2.1, e0_kindOf hW hu hR.1.1 hn.1 hn.2.1, e0_writerOf hW hu hR.1.1 hn.1 hn.2.1, znt, zz_some, zz_lit, zz_num, zI_lt, zI_le, zI_eq, zI_nat, zz_b, if_pos, if_neg, if_true, if_false]
    by_cases h : n (7 + b) = 3
    · have hm : n (679 + b) ≠ 0 := by
        have := hb.2.2.2.2.2.2.2.2.2.2.2.2.1 (by omega)
        omega
      have hs := hn.2.2.2 (n (295 + b) - 1) (by omega) (by omega)
      simp (disch := first | assumption | omega) only [e5_stateOf hW hu hR.2.2.1 hn.1, if_pos (And.intro (show 0 ≤ n (295 + b) - 1 by omega) (show n (295 + b) - 1 < n 3 by omega)), ih, zz_some, zz_lit, zz_num, zI_lt, zI_le, zI_eq, zI_nat, zz_b, if_pos, if_neg, if_true, if_false]
      have hD : nDf n b = decide (nS n (n (295 + b) - 1) 0 ≠ 2) := by simp [nDf, hm]
      rw [hD]
      by_cases h7 : nS n (n (295 + b) - 1) 0 = 2
      · simp [h7]
      · by_cases h8 : c = k
        · subst h8; simp [h7]
        · rw [if_neg h7, if_neg h8]
          simp only [h7, ne_eq, not_false_eq_true, decide_true, if_true]
          rw [if_neg (by omega), show k - (c + 1) = k - c - 1 by omega]
    · have hm : n (679 + b) = 0 := by
        have := hb.2.2.2.2.2.2.2.2.2.2.2.2.1 (by omega)
        omega
      have hD : nDf n b = false := by simp [nDf, hm]
      rw [hD]
      simp (disch := first | assumption | omega) only [ih, Bool.false_eq_true, zz_some, zz_lit, zz_num, zI_lt, zI_le, zI_eq, zI_nat, zz_b, if_pos, if_neg, if_true, if_false]
theorem e1_relocatedBlock (hW : zWF E) (hu : zU E 0 d = true) (hR : zRd (σ 0 d) n) (hn : nW n) {k : Int} (hk0 : -2147483648 ≤ k) (hk1 : k < 2147483648) : f_X1_relocatedBlock (zH E σ) (zL E 0 d 0) (zI k) = some (zI (if 0 ≤ k then znt (nDf n) 0 (n 0 - n 1).toNat k else -1)) := by
  have hN' := hn.1.r
  unfold f_X1_relocatedBlock
  simp (disch := first | assumption | omega) only [zz_some, zz_lit, zz_num, zI_lt, zI_le, zI_eq, zI_nat, zz_b, if_pos, if_neg, if_true, if_false]
  by_cases h : 0 ≤ k
  · rw [e1_relocatedBlock_L hW hu hR hn hk0 hk1 h (n 0 - n 1).toNat _ _ _ (by omega) (by omega) (by unfold g_N; omega) (by omega) (by omega) (by omega), if_pos h]
    simp
  · have h2 : ∀ f : Nat, f_X1_relocatedBlock_L4 (zH E σ) (f + 1) (zL E 0 d 0) (zI k) (zI 0) (zI 0) = some (zI (-1)) := by
      intro f
      simp (disch := first | assumption | omega) only [f_X1_relocatedBlock_L4, zz_some, zz_lit, zz_num, zI_lt, zI_le, zI_eq, zI_nat, zz_b, if_pos, if_neg, if_true, if_false]
    rw [if_neg h]
    exact h2 4095
theorem e1_recVer_L (hW : zWF E) (hu : zU E 0 d = true) (hR : zRd (σ 0 d) n) (hn : nW n) {x l : Int} (hx0 : 0 ≤ x) (hx1 : x < 100) (hl0 : -1 ≤ l) (hl1 : l < 100) : ∀ (m fuel : Nat), (m : Int) ≤ n 6 → m < fuel → f_X1_recoverableVersionOf_L10 (zH E σ) fuel (zL E 0 d 0) (zI x) (zI l) (zI ((m : Int) - 1)) = some (zI (zls (fun v => decide (nV n v 0 = x) && nRo n v l) m)) := by
  have hN' := hn.1.r
  intro m
  induction m with
  | zero =>
    intro fuel h1 h2
    obtain ⟨f, rfl, h3⟩ := zfuel h2
    simp (disch := first | assumption | omega) only [f_X1_recoverableVersionOf_L10, zls, zz_some, zz_lit, zz_num, zI_lt, zI_le, zI_eq, zI_nat, zz_b, if_pos, if_neg, if_true, if_false]
  | succ m ih =>
    intro fuel h1 h2
    obtain ⟨f, rfl, h3⟩ := zfuel h2
    have hi : (m : Int) + -1 = (m : Int) - 1 := by omega
    have hv := hn.2.2.1.2 m (by omega) (by omega)
    have hih := ih f (by omega) (by omega)
    rw [show (((m + 1 : Nat) : Int) - 1) = (m : Int) by omega, zls]
    have hF := e7_fileOf hW hu hR.2.1 hn.1 (v := m) (by omega) (by omega)
    have hw := e7_writerOf hW hu hR.2.1 hn.1 (v := m) (by omega) (by omega)
    have hc := e1_canReadVersion hW hu hR hn (v := m) (by omega) (by omega)
    rw [if_pos (by omega)] at hF hw
    by_cases h4 : nV n m 0 = x
    · by_cases h5 : nV n m 4 = l
      · cases h6 : nRv n m
        · have h7 : (decide (nV n m 0 = x) && nRo n m l) = false := by simp [nRo, h6]
          rw [h6] at hc
          rw [h7]
          simp (disch := first | assumption | omega) only [f_X1_recoverableVersionOf_L10, f_X1_recoverableVersionOf_J43, zz_dc hW hu, zz_dco hW hu, zz_vso hW hu, hF, hw, h4, h5, hc, hi, hih, Bool.false_eq_true, zz_some, zz_lit, zz_num, zI_lt, zI_le, zI_eq, zI_nat, zz_b, if_pos, if_neg, if_true, if_false]
        · have h7 : (decide (nV n m 0 = x) && nRo n m l) = true := by simp [nRo, h6, h4, h5]
          rw [h6] at hc
          rw [h7]
          simp (disch := first | assumption | omega) only [f_X1_recoverableVersionOf_L10, f_X1_recoverableVersionOf_J43, zz_dc hW hu, zz_dco hW hu, zz_vso hW hu, hF, hw, h4, h5, hc, hi, hih, Bool.true_eq_false, zz_some, zz_lit, zz_num, zI_lt, zI_le, zI_eq, zI_nat, zz_b, if_pos, if_neg, if_true, if_false]
      · have h7 : (decide (nV n m 0 = x) && nRo n m l) = false := by simp [nRo, h5]
        rw [h7]
        simp (disch := first | assumption | omega) only [f_X1_recoverableVersionOf_L10, f_X1_recoverableVersionOf_J43, zz_dc hW hu, zz_dco hW hu, zz_vso hW hu, hF, hw, h4, h5, hi, hih, Bool.false_eq_true, zz_some, zz_lit, zz_num, zI_lt, zI_le, zI_eq, zI_nat, zz_b, if_pos, if_neg, if_true, if_false]
    · have h7 : (decide (nV n m 0 = x) && nRo n m l) = false := by simp [h4]
      rw [h7]
      simp (disch := first | assumption | omega) only [f_X1_recoverableVersionOf_L10, f_X1_recoverableVersionOf_J43, zz_dc hW hu, zz_dco hW hu, zz_vso hW hu, hF, h4, hi, hih, Bool.false_eq_true, zz_some, zz_lit, zz_num, zI_lt, zI_le, zI_eq, zI_nat, zz_b, if_pos, if_neg, if_true, if_false]
theorem e1_recVer (hW : zWF E) (hu : zU E 0 d = true) (hR : zRd (σ 0 d) n) (hn : nW n) {x l : Int} (hx0 : 0 ≤ x) (hx1 : x < 100) (hl0 : -1 ≤ l) (hl1 : l < 100) : f_X1_recoverableVersionOf (zH E σ) (zL E 0 d 0) (zI x) (zI l) = some (zI (nRf n l x)) := by
  have hN' := hn.1.r
  have h := e1_recVer_L hW hu hR hn hx0 hx1 hl0 hl1 (n 6).toNat g_N (by omega) (by unfold g_N; omega)
  rw [show (((n 6).toNat : Nat) : Int) = n 6 by omega] at h
  simp (disch := first | assumption | omega) only [f_X1_recoverableVersionOf, zz_dc hW hu, zz_vso hW hu, e7_count hW hu hR.2.1 hn.1, h, zz_some, zz_lit, zz_num, zI_lt, zI_le, zI_eq, zI_nat, zz_b, if_pos, if_neg, if_true, if_false]
  rfl
theorem e1_recoverable_L (hW : zWF E) (hu : zU E 0 d = true) (hR : zRd (σ 0 d) n) (hn : nW n) (hl : nLo n = true) : ∀ (m fuel : Nat) (acc x : Int), 0 ≤ x → x + m = n 2 → m < fuel → f_X1_recoverableVersions_L4 (zH E σ) fuel (zL E 0 d 0) (zI acc) (zI x) = some (zI (acc + zcn (fun x => decide (nRf n (nLa n) x ≠ -1)) x m)) := by
  have hN' := hn.1.r
  have hla : nLa n = n 3 - 1 := rfl
  have hf : g_i (zH E σ) (zL E 0 d 0) 1 3 = some (zI (n 2)) := by rw [← hR.2.2.2.1]; exact (zz_dc hW hu).2.2.2.1
  intro m
  induction m with
  | zero =>
    intro fuel acc x h0 h1 h2
    obtain ⟨f, rfl, h5⟩ := zfuel h2
    simp (disch := first | assumption | omega) only [f_X1_recoverableVersions_L4, zz_dco hW hu, zz_seo hW hu, hf, e5_latestIsLost hW hu hR.2.2.1 hn.1 hn.2.2.2, hl, zcn, Bool.true_eq_false, zz_some, zz_lit, zz_num, zI_lt, zI_le, zI_eq, zI_nat, zz_b, if_pos, if_neg, if_true, if_false]
    simp
  | succ m ih =>
    intro fuel acc x h0 h1 h2
    obtain ⟨f, rfl, h5⟩ := zfuel h2
    have hr := nRf_rng n (nLa n) x
    simp (disch := first | assumption | omega) only [f_X1_recoverableVersions_L4, zz_dco hW hu, zz_seo hW hu, hf, e5_latestIsLost hW hu hR.2.2.1 hn.1 hn.2.2.2, hl, e5_latest hW hu hR.2.2.1 hn.1, e1_recVer hW hu hR hn, zcn, ih, Bool.true_eq_false, zz_some, zz_lit, zz_num, zI_lt, zI_le, zI_eq, zI_nat, zz_b, if_pos, if_neg, if_true, if_false]
    by_cases h : nRf n (nLa n) x = -1
    · rw [if_pos h, zb_dneg (by simp [h])]; congr 2; omega
    · rw [if_neg h, zb_dpos h]; congr 2; omega
theorem e1_recoverableVersions (hW : zWF E) (hu : zU E 0 d = true) (hR : zRd (σ 0 d) n) (hn : nW n) : f_X1_recoverableVersions (zH E σ) (zL E 0 d 0) = some (zI (nCr n)) := by
  have hN' := hn.1.r
  unfold f_X1_recoverableVersions nCr
  simp (disch := first | assumption | omega) only [zz_some, zz_lit, zz_num, zI_lt, zI_le, zI_eq, zI_nat, zz_b, if_pos, if_neg, if_true, if_false]
  cases hl : nLo n
  · have h2 : ∀ f : Nat, f_X1_recoverableVersions_L4 (zH E σ) (f + 1) (zL E 0 d 0) (zI 0) (zI 0) = some (zI 0) := by
      intro f
      simp (disch := first | assumption | omega) only [f_X1_recoverableVersions_L4, zz_dc hW hu, zz_seo hW hu, e5_latestIsLost hW hu hR.2.2.1 hn.1 hn.2.2.2, hl, zz_some, zz_lit, zz_num, zI_lt, zI_le, zI_eq, zI_nat, zz_b, if_pos, if_neg, if_true, if_false]
    rw [if_neg (by simp)]
    exact h2 4095
  · rw [e1_recoverable_L hW hu hR hn hl (n 2).toNat _ _ _ (by omega) (by omega) (by unfold g_N; omega), if_pos rfl, nRf_cn hn]
    simp
theorem nCr_rng (hn : nW n) : 0 ≤ nCr n ∧ nCr n ≤ 96 := by
  have hN' := hn.1.r
  unfold nCr
  split
  · have := zcn_rng (nRc n (nLa n)) (n 6).toNat 0
    omega
  · omega
theorem e1_reasonAgainstDirectory (hW : zWF E) (hu : zU E 0 d = true) (hR : zRd (σ 0 d) n) (hn : nW n) {e : Int} (h0 : 0 ≤ e) (h1 : e ≤ 96) : f_X1_reasonAgainstDirectory (zH E σ) (zL E 0 d 0) (zI e) = some (zI (nWd n e)) := by
  have hN' := hn.1.r
  have hd := nDl_rng h0 h1
  simp (disch := first | assumption | omega) only [f_X1_reasonAgainstDirectory, zz_dc hW hu, zz_blo hW hu, nDl_z, e0_hasRoomFor hW hu hR.1.1 hn.1 hn.2.1, zz_some, zz_lit, zz_num, zI_lt, zI_le, zI_eq, zI_nat, zz_b, if_pos, if_neg, if_true, if_false]
  unfold nWd
  by_cases h : n 4 + nDl e ≤ n 0 - n 1
  · simp (disch := first | assumption | omega) only [e0_canRelocate hW hu hR.1.1 hn.1 hn.2.1, decide_eq_true h, Bool.true_eq_false, zz_some, zz_lit, zz_num, zI_lt, zI_le, zI_eq, zI_nat, zz_b, if_pos, if_neg, if_true, if_false]
    cases nHs n (nDl e) <;> rfl
  · simp (disch := first | assumption | omega) only [decide_eq_false h, zz_some, zz_lit, zz_num, zI_lt, zI_le, zI_eq, zI_nat, zz_b, if_pos, if_neg, if_true, if_false]
theorem nEw_rng (hn : nW n) (f : Int) : 0 ≤ nEw n f ∧ nEw n f ≤ 11 := by
  have hN' := hn.1.r
  have hla : nLa n = n 3 - 1 := rfl
  unfold nEw
  split
  · rename_i h
    have h2 : 0 ≤ nLa n := by
      unfold nOp at h
      by_cases h3 : 0 ≤ nLa n
      · exact h3
      · simp [h3] at h
    have he := hn.2.2.2.ent hn.1 h2 (by omega)
    have hz := zb_rng (decide (nEn n (nLa n) f = -1))
    omega
  · omega
theorem e1_reasonAgainstClose (hW : zWF E) (hu : zU E 0 d = true) (hR : zRd (σ 0 d) n) (hn : nW n) : f_X1_reasonAgainstClose (zH E σ) (zL E 0 d 0) = some (zI (nWc n)) := by
  have hN' := hn.1.r
  have hla : nLa n = n 3 - 1 := rfl
  simp (disch := first | assumption | omega) only [f_X1_reasonAgainstClose, zz_dc hW hu, zz_seo hW hu, e5_isOpen hW hu hR.2.2.1 hn.1 hn.2.2.2, e5_latest hW hu hR.2.2.1 hn.1, zz_some, zz_lit, zz_num, zI_lt, zI_le, zI_eq, zI_nat, zz_b, if_pos, if_neg, if_true, if_false]
  unfold nWc
  cases h : nOp n
  · simp
  · have h2 : 0 ≤ nLa n := by
      unfold nOp at h
      by_cases h3 : 0 ≤ nLa n
      · exact h3
      · simp [h3] at h
    have he := hn.2.2.2.ent hn.1 h2 (by omega)
    simp (disch := first | assumption | omega) only [e5_entriesOf hW hu hR.2.2.1 hn.1, e1_reasonAgainstDirectory hW hu hR hn, Bool.true_eq_false, zz_some, zz_lit, zz_num, zI_lt, zI_le, zI_eq, zI_nat, zz_b, if_pos, if_neg, if_true, if_false]
theorem e1_reasonAgainstCrash (hW : zWF E) (hu : zU E 0 d = true) (hR : zRd (σ 0 d) n) (hn : nW n) : f_X1_reasonAgainstCrash (zH E σ) (zL E 0 d 0) = some (zI (if nOp n = true then 0 else 1)) := by
  simp (disch := first | assumption | omega) only [f_X1_reasonAgainstCrash, zz_dc hW hu, zz_seo hW hu, e5_isOpen hW hu hR.2.2.1 hn.1 hn.2.2.2, zz_some, zz_lit, zz_num, zI_lt, zI_le, zI_eq, zI_nat, zz_b, if_pos, if_neg, if_true, if_false]
  cases nOp n <;> simp
theorem e1_reasonAgainstRecover (hW : zWF E) (hu : zU E 0 d = true) (hR : zRd (σ 0 d) n) (hn : nW n) : f_X1_reasonAgainstRecover (zH E σ) (zL E 0 d 0) = some (zI (nWr n)) := by
  have hN' := hn.1.r
  have hc := nCr_rng hn
  simp (disch := first | assumption | omega) only [f_X1_reasonAgainstRecover, zz_dc hW hu, zz_seo hW hu, e1_recoverableVersions hW hu hR hn, e5_oneMoreIsTooMany hW hu hR.2.2.1 hn.1 hn.2.2.2, e1_reasonAgainstDirectory hW hu hR hn, zz_some, zz_lit, zz_num, zI_lt, zI_le, zI_eq, zI_nat, zz_b, if_pos, if_neg, if_true, if_false]
  unfold nWr
  by_cases h : nCr n = 0
  · simp [h]
  · cases nTm n <;> simp [h]
end zCls

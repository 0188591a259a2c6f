/-! The reference: counting, seeking, risks, space. -/
/-- the bits below k are those of P -/
def zBit (x : Int32) (k : Nat) (P : Int → Bool) : Prop := ∀ i : Nat, i < 32 → x.toBitVec.getLsbD i = (decide (i < k) && P i)
theorem shl_bit : ∀ k : Fin 10, ∀ i : Fin 32, ((zI 1) <<< (zI (k.val : Int) &&& 31)).toBitVec.getLsbD i.val = decide (i.val = k.val) := by decide +kernel
theorem zBit_0 (P : Int → Bool) : zBit (zI 0) 0 P := by
  intro i _
  simp [zI]
theorem zBit_keep {x : Int32} {k : Nat} {P : Int → Bool} (h : zBit x k P) (hp : P k = false) : zBit (x ||| zI 0) (k + 1) P := by
  intro i hi
  have h0 : (zI 0).toBitVec = 0#32 := rfl
  rw [Int32.toBitVec_or, BitVec.getLsbD_or, h i hi, h0]
  by_cases hk : i = k
  · subst hk
    simp [hp]
  · have e : decide (i < k + 1) = decide (i < k) := decide_eq_decide.mpr (by omega)
    rw [e]
    simp
theorem zBit_set {x : Int32} {k : Nat} {P : Int → Bool} (h : zBit x k P) (hk : k < 10) (hp : P k = true) : zBit (x ||| (zI 1 <<< (zI (k : Int) &&& 31))) (k + 1) P := by
  intro i hi
  rw [Int32.toBitVec_or, BitVec.getLsbD_or, h i hi, shl_bit ⟨k, hk⟩ ⟨i, hi⟩]
  by_cases hik : i = k
  · subst hik
    simp [hp]
  · have e : decide (i < k + 1) = decide (i < k) := decide_eq_decide.mpr (by omega)
    rw [e]
    simp [hik]
theorem zBit_diff {x y : Int32} {k : Nat} {P Q : Int → Bool} (h : zBit x k P) (h2 : zBit y k Q) : zBit (x &&& (y ^^^ zI (-1))) k (fun i => P i && !Q i) := by
  intro i hi
  have h0 : (zI (-1)).toBitVec = BitVec.allOnes 32 := rfl
  rw [Int32.toBitVec_and, BitVec.getLsbD_and, Int32.toBitVec_xor, BitVec.getLsbD_xor, h i hi, h2 i hi, h0, BitVec.getLsbD_allOnes]
  simp only [hi, decide_true, Bool.xor_true]
  cases decide (i < k) <;> simp
theorem ones_G (G G' : gH) : ∀ (f : Nat) (a x : Int32), f_X10_ones_L4 G f a x = f_X10_ones_L4 G' f a x := by
  intro f
  induction f with
  | zero => intro a x; rfl
  | succ f ih =>
    intro a x
    rw [f_X10_ones_L4, f_X10_ones_L4, ih]
theorem ones_dec : ∀ a : Fin 1024, f_X10_ones (fun _ => none) (zI (a.val : Int)) = some (zI (zcn (fun i => (zI (a.val : Int)).toBitVec.getLsbD i.toNat) 0 10)) := by decide +kernel
theorem zBit_ones {x : Int32} {k : Nat} {P : Int → Bool} (h : zBit x k P) (hk : k ≤ 10) (G : gH) : f_X10_ones G x = some (zI (zcn P 0 k)) := by
  have hlt : x.toBitVec.toNat < 1024 := by
    apply Nat.lt_pow_two_of_testBit (n := 10)
    intro i hi
    by_cases h32 : i < 32
    · have := h i h32
      rw [BitVec.getLsbD] at this
      rw [this]
      simp
      omega
    · exact Nat.testBit_lt_two_pow (Nat.lt_of_lt_of_le x.toBitVec.isLt (Nat.pow_le_pow_right (by omega) (by omega)))
  have hx : x = zI (x.toBitVec.toNat : Int) := by
    apply Int32.toBitVec.inj
    unfold zI
    rw [Int32.toBitVec_ofInt, BitVec.ofInt_natCast, BitVec.ofNat_toNat]
    simp
  have hd := ones_dec ⟨x.toBitVec.toNat, hlt⟩
  simp only at hd
  rw [← hx] at hd
  have he : f_X10_ones G x = f_X10_ones (fun _ => none) x := ones_G _ _ _ _ _
  rw [he, hd]
  congr 2
  rw [show (10 : Nat) = k + (10 - k) by omega, zcn_app]
  rw [zcn_none (10 - k) _ (fun i h0 h1 => by
    rw [h i.toNat (by omega)]
    simp
    omega)]
  rw [zcn_congr (Q := P) _ _ (fun i h0 h1 => by
    rw [h i.toNat (by omega)]
    have e : ((i.toNat : Nat) : Int) = i := by omega
    rw [e]
    have e2 : decide (i.toNat < k) = true := decide_eq_true (by omega)
    rw [e2, Bool.true_and])]
  omega
section zMod
variable {E : zE} {σ : zW} {n : zN}
theorem e10_badMany_L (hW : zWF E) (hm : zU E 3 0 = true) (h1 : σ 3 0 1 = n) (hn : nW n) : ∀ (m fuel : Nat) (acc b : Int), 0 ≤ b → b + m = n 0 → m < fuel → f_X10_badMany_L4 (zH E σ) fuel (zL E 3 0 0) (zI acc) (zI b) = some (zI (acc + zcn (fun b => decide (n (103 + b) = 1)) b m)) := by
  have hN' := hn.1.r
  intro m
  induction m with
  | zero =>
    intro fuel acc b h0 h2 h3
    obtain ⟨f, rfl, h4⟩ := zfuel h3
    simp (disch := first | assumption | omega) only [f_X10_badMany_L4, zcn, zz_mdo hW hm, zz_ra hW hm, h1, zz_some, zz_lit, zz_num, zI_lt, zI_le, zI_eq, zI_nat, zz_b, if_pos, if_neg, if_true, if_false]
    simp
  | succ m ih =>
    intro fuel acc b h0 h2 h3
    obtain ⟨f, rfl, h4⟩ := zfuel h3
    have hb := (hn.2.1 b h0 (by omega)).2.1
    simp (disch := first | assumption | omega) only [f_X10_badMany_L4, ih, zz_mdo hW hm, zz_ra hW hm, h1, zz_some, zz_lit, zz_num, zI_lt, zI_le, zI_eq, zI_nat, zz_b, if_pos, if_neg, if_true, if_false]
    rw [zcn]
    have hz : zb (decide (n (103 + b) = 1)) = n (103 + b) := by
      rcases hb with h | h <;> simp [h, zb]
    rw [hz, Int.add_assoc]
theorem e10_badMany (hW : zWF E) (hm : zU E 3 0 = true) (h1 : σ 3 0 1 = n) (hn : nW n) : f_X10_badMany (zH E σ) (zL E 3 0 0) = some (zI (zcn (fun b => decide (n (103 + b) = 1)) 0 (n 0).toNat)) := by
  have hN' := hn.1.r
  unfold f_X10_badMany
  simp (disch := first | assumption | omega) only [zz_mdo hW hm, zz_ra hW hm, h1, zz_some, zz_lit, zz_num, zI_lt, zI_le, zI_eq, zI_nat, zz_b, if_pos, if_neg, if_true, if_false]
  rw [e10_badMany_L hW hm h1 hn (n 0).toNat _ _ _ (by omega) (by omega) (by unfold g_N; omega)]
  congr 2; omega
theorem e10_emptySpares_L (hW : zWF E) (hm : zU E 3 0 = true) (h1 : σ 3 0 1 = n) (hn : nW n) : ∀ (m fuel : Nat) (acc b : Int), 0 ≤ b → b + m = n 0 → m < fuel → f_X10_emptySpares_L7 (zH E σ) fuel (zL E 3 0 0) (zI acc) (zI b) = some (zI (acc + zcn (fun b => decide (n (7 + b) = 0)) b m)) := by
  have hN' := hn.1.r
  intro m
  induction m with
  | zero =>
    intro fuel acc b h0 h2 h3
    obtain ⟨f, rfl, h4⟩ := zfuel h3
    simp (disch := first | assumption | omega) only [f_X10_emptySpares_L7, zcn, zz_mdo hW hm, zz_ra hW hm, h1, zz_some, zz_lit, zz_num, zI_lt, zI_le, zI_eq, zI_nat, zz_b, if_pos, if_neg, if_true, if_false]
    simp
  | succ m ih =>
    intro fuel acc b h0 h2 h3
    obtain ⟨f, rfl, h4⟩ := zfuel h3
    have hb := hn.2.1 b h0 (by omega)
    simp (disch := first | assumption | omega) only [f_X10_emptySpares_L7, ih, zcn, zz_mdo hW hm, zz_ra hW hm, h1, zz_some, zz_lit, zz_num, zI_lt, zI_le, zI_eq, zI_nat, zz_b, if_pos, if_neg, if_true, if_false]
    by_cases h : n (7 + b) = 0
    · rw [if_pos h, zb_dpos h]; congr 2; omega
    · rw [if_neg h, zb_dneg h]; congr 2; omega
theorem e10_emptySpares (hW : zWF E) (hm : zU E 3 0 = true) (h1 : σ 3 0 1 = n) (hn : nW n) : f_X10_emptySpares (zH E σ) (zL E 3 0 0) = some (zI (zcn (fun b => decide (n (7 + b) = 0)) (n 0 - n 1) (n 1).toNat)) := by
  have hN' := hn.1.r
  simp (disch := first | assumption | omega) only [f_X10_emptySpares, e10_mainMany hW hm h1 hn.1, zz_mdo hW hm, zz_ra hW hm, h1, zz_some, zz_lit, zz_num, zI_lt, zI_le, zI_eq, zI_nat, zz_b, if_pos, if_neg, if_true, if_false]
  rw [e10_emptySpares_L hW hm h1 hn (n 1).toNat _ _ _ (by omega) (by omega) (by unfold g_N; omega)]
  congr 2; omega
theorem e10_writtenBy_L (hW : zWF E) (hm : zU E 3 0 = true) (h1 : σ 3 0 1 = n) (hn : nW n) {s : Int} {w : Bool} (hs0 : 0 ≤ s) (hs1 : s < 12) : ∀ (m fuel : Nat) (acc b : Int), 0 ≤ b → b + m = n 0 → m < fuel → f_X10_writtenBy_L5 (zH E σ) fuel (zL E 3 0 0) (zI s) (zI (zb w)) (zI acc) (zI b) = some (zI (acc + zcn (fun b => (decide (b < n 0 - n 1) == w) && decide (n (295 + b) = s + 1)) b m)) := by
  have hN' := hn.1.r
  have zbb : ∀ a b : Bool, (zI (zb a) = zI (zb b)) = (a = b) := by intro a b; cases a <;> cases b <;> simp [zb, zI]
  intro m
  induction m with
  | zero =>
    intro fuel acc b h0 h2 h3
    obtain ⟨f, rfl, h4⟩ := zfuel h3
    simp (disch := first | assumption | omega) only [f_X10_writtenBy_L5, zcn, zz_mdo hW hm, zz_ra hW hm, h1, zz_some, zz_lit, zz_num, zI_lt, zI_le, zI_eq, zI_nat, zz_b, if_pos, if_neg, if_true, if_false]
    simp
  | succ m ih =>
    intro fuel acc b h0 h2 h3
    obtain ⟨f, rfl, h4⟩ := zfuel h3
    have hb := hn.2.1 b h0 (by omega)
    simp (disch := first | assumption | omega) only [f_X10_writtenBy_L5, e10_isMain hW hm h1 hn.1, zbb, ih, zcn, zz_mdo hW hm, zz_ra hW hm, h1, zz_some, zz_lit, zz_num, zI_lt, zI_le, zI_eq, zI_nat, zz_b, if_pos, if_neg, if_true, if_false]
    by_cases h : decide (b < n 0 - n 1) = w
    · by_cases h5 : n (295 + b) = s + 1
      · rw [if_pos h, if_pos h5]; simp [h, h5, zb]; congr 1; omega
      · rw [if_pos h, if_neg h5]; simp [h5, zb]
    · rw [if_neg h]; simp [h, zb]
theorem e10_writtenBy1 (hW : zWF E) (hm : zU E 3 0 = true) (h1 : σ 3 0 1 = n) (hn : nW n) {s : Int} (hs0 : 0 ≤ s) (hs1 : s < 12) : f_X10_writtenBy (zH E σ) (zL E 3 0 0) (zI s) (zI 1) = some (zI (zcn (fun b => decide (n (295 + b) = s + 1)) 0 (n 0 - n 1).toNat)) := by
  have hN' := hn.1.r
  unfold f_X10_writtenBy
  have h := e10_writtenBy_L hW hm h1 hn (s := s) (w := true) hs0 hs1 (n 0).toNat g_N 0 0 (by omega) (by omega) (by unfold g_N; omega)
  simp (disch := first | assumption | omega) only [zz_mdo hW hm, zz_ra hW hm, h1, zz_some, zz_lit, zz_num, zI_lt, zI_le, zI_eq, zI_nat, zz_b, if_pos, if_neg, if_true, if_false]
  rw [show zI 1 = zI (zb true) from rfl, h]
  congr 2
  rw [show (n 0).toNat = (n 0 - n 1).toNat + (n 1).toNat by omega, zcn_app]
  rw [zcn_none (n 1).toNat _ (fun i h0 h1 => by simp; omega)]
  rw [zcn_congr (Q := fun b => decide (n (295 + b) = s + 1)) _ _ (fun i h0 h1 => by
    have e : decide (i < n 0 - n 1) = true := decide_eq_true (by omega)
    rw [e]; simp)]
  omega
theorem e10_writtenBy0 (hW : zWF E) (hm : zU E 3 0 = true) (h1 : σ 3 0 1 = n) (hn : nW n) {s : Int} (hs0 : 0 ≤ s) (hs1 : s < 12) : f_X10_writtenBy (zH E σ) (zL E 3 0 0) (zI s) (zI 0) = some (zI (zcn (fun b => decide (n (295 + b) = s + 1)) (n 0 - n 1) (n 1).toNat)) := by
  have hN' := hn.1.r
  unfold f_X10_writtenBy
  have h := e10_writtenBy_L hW hm h1 hn (s := s) (w := false) hs0 hs1 (n 0).toNat g_N 0 0 (by omega) (by omega) (by unfold g_N; omega)
  simp (disch := first | assumption | omega) only [zz_mdo hW hm, zz_ra hW hm, h1, zz_some, zz_lit, zz_num, zI_lt, zI_le, zI_eq, zI_nat, zz_b, if_pos, if_neg, if_true, if_false]
  have h2 : f_X10_writtenBy_L5 (zH E σ) g_N (zL E 3 0 0) (zI s) (zI 0) (zI 0) (zI 0) = f_X10_writtenBy_L5 (zH E σ) g_N (zL E 3 0 0) (zI s) (zI (zb false)) (zI 0) (zI 0) := rfl
  rw [h2, h]
  congr 2
  rw [show (n 0).toNat = (n 0 - n 1).toNat + (n 1).toNat by omega, zcn_app]
  rw [zcn_none (n 0 - n 1).toNat _ (fun i h0 h1 => by
    have e : decide (i < n 0 - n 1) = true := decide_eq_true (by omega)
    rw [e]; simp)]
  rw [show (0 : Int) + (((n 0 - n 1).toNat : Nat) : Int) = n 0 - n 1 by omega]
  rw [zcn_congr (Q := fun b => decide (n (295 + b) = s + 1)) _ _ (fun i h0 h1 => by
    have e : decide (i < n 0 - n 1) = false := decide_eq_false (by omega)
    rw [e]; simp)]
  omega
theorem e10_versionsOf_L (hW : zWF E) (hm : zU E 3 0 = true) (h1 : σ 3 0 1 = n) (hn : nW n) {x : Int} (hx0 : 0 ≤ x) (hx1 : x < 100) : ∀ (m fuel : Nat) (acc v : Int), 0 ≤ v → v + m = n 6 → m < fuel → f_X10_versionsOf_L4 (zH E σ) fuel (zL E 3 0 0) (zI x) (zI acc) (zI v) = some (zI (acc + zcn (fun v => decide (nV n v 0 = x)) v m)) := by
  have hN' := hn.1.r
  intro m
  induction m with
  | zero =>
    intro fuel acc v h0 h2 h3
    obtain ⟨f, rfl, h4⟩ := zfuel h3
    simp (disch := first | assumption | omega) only [f_X10_versionsOf_L4, zcn, zz_mdo hW hm, zz_ra hW hm, h1, zz_some, zz_lit, zz_num, zI_lt, zI_le, zI_eq, zI_nat, zz_b, if_pos, if_neg, if_true, if_false]
    simp
  | succ m ih =>
    intro fuel acc v h0 h2 h3
    obtain ⟨f, rfl, h4⟩ := zfuel h3
    have hv := hn.2.2.1.2 v h0 (by omega)
    simp (disch := first | assumption | omega) only [f_X10_versionsOf_L4, e10_ofVersion hW hm h1, ih, zcn, zz_mdo hW hm, zz_ra hW hm, h1, zz_some, zz_lit, zz_num, zI_lt, zI_le, zI_eq, zI_nat, zz_b, if_pos, if_neg, if_true, if_false]
    by_cases h : nV n v 0 = x
    · rw [if_pos h, zb_dpos h]; congr 2; omega
    · rw [if_neg h, zb_dneg h]; congr 2; omega
theorem e10_versionsOf (hW : zWF E) (hm : zU E 3 0 = true) (h1 : σ 3 0 1 = n) (hn : nW n) {x : Int} (hx0 : 0 ≤ x) (hx1 : x < 100) : f_X10_versionsOf (zH E σ) (zL E 3 0 0) (zI x) = some (zI (zcn (fun v => decide (nV n v 0 = x)) 0 (n 6).toNat)) := by
  have hN' := hn.1.r
  unfold f_X10_versionsOf
  simp (disch := first | assumption | omega) only [zz_mdo hW hm, zz_ra hW hm, h1, zz_some, zz_lit, zz_num, zI_lt, zI_le, zI_eq, zI_nat, zz_b, if_pos, if_neg, if_true, if_false]
  rw [e10_versionsOf_L hW hm h1 hn hx0 hx1 (n 6).toNat _ _ _ (by omega) (by omega) (by unfold g_N; omega)]
  congr 2; omega
theorem e10_isReached_L (hW : zWF E) (hm : zU E 3 0 = true) (h1 : σ 3 0 1 = n) (hn : nW n) {l : List Int} (hl : zQl σ l) (hl2 : ∀ s ∈ l, 0 ≤ s ∧ s < 12) (hlen : l.length ≤ 12) {s : Int} (hs0 : 0 ≤ s) (hs1 : s < 12) : ∀ (m fuel : Nat) (c : Bool) (k : Nat), k + m = l.length → m < fuel → f_X10_isReached_L4 (zH E σ) fuel (zL E 3 0 0) (zI s) (zI (zb c)) (zI (k : Int)) = some (zI (zb (c || (l.drop k).any (fun t => decide (t = s))))) := by
  have hN' := hn.1.r
  have h18 : g_i (zH E σ) (zL E 3 0 0) 10 18 = some (zI (l.length : Int)) := by rw [← hl.1]; exact zg_md18 hW hm
  intro m
  induction m with
  | zero =>
    intro fuel c k h0 h2
    obtain ⟨f, rfl, h4⟩ := zfuel h2
    simp (disch := first | assumption | omega) only [f_X10_isReached_L4, h18, zz_mdo hW hm, zz_ra hW hm, h1, zz_some, zz_lit, zz_num, zI_lt, zI_le, zI_eq, zI_nat, zz_b, if_pos, if_neg, if_true, if_false]
    rw [List.drop_eq_nil_of_le (by omega)]
    simp
  | succ m ih =>
    intro fuel c k h0 h2
    obtain ⟨f, rfl, h4⟩ := zfuel h2
    have hk : k < l.length := by omega
    have hr := hl.2 k hk
    have hd : l.drop k = l.getD k 0 :: l.drop (k + 1) := by
      rw [List.drop_eq_getElem_cons hk]
      simp [List.getD_eq_getElem?_getD, List.getElem?_eq_getElem hk]
    have hmem := hl2 (l.getD k 0) (by simp [List.getD_eq_getElem?_getD, List.getElem?_eq_getElem hk])
    obtain ⟨x, hx⟩ : ∃ x, l.getD k 0 = x := ⟨_, rfl⟩
    rw [hx] at hr hd hmem
    have i0 := ih f false (k + 1) (by omega) (by omega)
    have i1 := ih f true (k + 1) (by omega) (by omega)
    rw [show zI (zb false) = zI 0 from rfl] at i0
    rw [show zI (zb true) = zI 1 from rfl] at i1
    rw [show (((k + 1 : Nat) : Int)) = (k : Int) + 1 by omega] at i0 i1
    simp (disch := first | assumption | omega) only [f_X10_isReached_L4, h18, hr, i0, i1, zz_mdo hW hm, zz_ra hW hm, h1, zz_some, zz_lit, zz_num, zI_lt, zI_le, zI_eq, zI_nat, zz_b, if_pos, if_neg, if_true, if_false]
    rw [hd]
    cases c
    · by_cases h : x = s
      · rw [if_pos h]; simp [h]
      · rw [if_neg h]; simp [h]
    · simp
theorem nQl_any {n : zN} : ∀ (t : Nat) (s : Int), (t : Int) ≤ n 3 → n 3 - t ≤ s → s < n 3 → (nQl n t).any (fun t => decide (t = s)) = nRe n s := by
  intro t
  induction t with
  | zero => intro s _ h0 h1; omega
  | succ t ih =>
    intro s ht h0 h1
    have hre : nRe n (nLa n - t) = (nGo n t && nIs n (nLa n - t)) := by
      unfold nRe
      rw [show (nLa n - (nLa n - (t : Int))).toNat = t by omega]
    have hx : nLa n - (t : Int) = n 3 - ((t + 1 : Nat) : Int) := by unfold nLa; omega
    by_cases hs : s = nLa n - t
    · have hnot : (nQl n t).any (fun u => decide (u = s)) = false := by
        rw [List.any_eq_false]
        intro u hu
        have := nQl_mem t u (by omega) hu
        simp
        omega
      unfold nQl
      split
      · rename_i h
        rw [List.any_append, hnot, hs, hre, h]
        simp
      · rename_i h
        rw [hnot, hs, hre]
        simpa using h
    · have ih := ih s (by omega) (by omega) h1
      unfold nQl
      split
      · rw [List.any_append, ih]
        simp
        omega
      · exact ih
theorem e10_isReached (hW : zWF E) (hm : zU E 3 0 = true) (h1 : σ 3 0 1 = n) (hn : nW n) (hl : zQl σ (nQl n (n 3).toNat)) {s : Int} (hs0 : 0 ≤ s) (hs1 : s < n 3) : f_X10_isReached (zH E σ) (zL E 3 0 0) (zI s) = some (zI (zb (nRe n s))) := by
  have hN' := hn.1.r
  have hlen := nQl_len n (n 3).toNat
  unfold f_X10_isReached
  have h := e10_isReached_L hW hm h1 hn hl (fun t ht => by have := nQl_mem _ t (by omega) ht; omega) (by omega) hs0 (by omega : s < 12) (nQl n (n 3).toNat).length g_N false 0 (by omega) (by unfold g_N; omega)
  rw [List.drop_zero, nQl_any _ s (by omega) (by omega) hs1, Bool.false_or] at h
  exact h
theorem zQl.f {l : List Int} {i v : Int} (hi : i ≠ 18) (h : zQl σ l) : zQl (zs σ 3 0 0 i v) l := ⟨by rw [zs_at, if_neg (by omega)]; exact h.1, fun k hk => by rw [zs_ne (by omega)]; exact h.2 k hk⟩
theorem zQl.a {l : List Int} {c : Nat} {i v : Int} (hc : c ≠ 17) (hc2 : c ≠ 0) (h : zQl σ l) : zQl (zs σ 3 0 c i v) l := ⟨by rw [zs_ne (by omega)]; exact h.1, fun k hk => by rw [zs_ne (by omega)]; exact h.2 k hk⟩
theorem e10_seeks_L (hW : zWF E) (hm : zU E 3 0 = true) (hn : nW n) {l : List Int} (hl2 : ∀ s ∈ l, 0 ≤ s ∧ s < n 3) (hlen : l.length ≤ 12) {x below : Int} (hx0 : 0 ≤ x) (hx1 : x < 100) (hb0 : 0 ≤ below) (hb1 : below ≤ 12) : ∀ (m fuel : Nat) (k : Nat) (σ : zW), σ 3 0 1 = n → zQl σ l → σ 3 0 0 19 = -1 → σ 3 0 0 20 = -1 → k + m = l.length → m < fuel → ∃ σ', f_X10_seeks_L12 fuel (zH E σ) (zL E 3 0 0) (zI x) (zI below) (zI (k : Int)) = some (zH E σ') ∧ zQ σ σ' ∧ zQl σ' l ∧ σ' 3 0 0 19 = lfi (fun s => decide (s < below) && decide (nEn n s x ≠ -1)) (l.drop k) ∧ σ' 3 0 0 20 = nSv n (lfi (fun s => decide (s < below) && decide (nEn n s x ≠ -1)) (l.drop k)) x ∧ (∀ c, c ≠ 0 → σ' 3 0 c = σ 3 0 c) := by
  have hN' := hn.1.r
  intro m
  induction m with
  | zero =>
    intro fuel k σ h1 hl h19 h20 h0 h2
    obtain ⟨f, rfl, h4⟩ := zfuel h2
    have h18 : g_i (zH E σ) (zL E 3 0 0) 10 18 = some (zI (l.length : Int)) := by rw [← hl.1]; exact zg_md18 hW hm
    rw [List.drop_eq_nil_of_le (by omega)]
    refine ⟨σ, ?_, zQ.rf, hl, h19, by rw [h20]; rfl, fun _ _ => rfl⟩
    simp (disch := first | assumption | omega) only [f_X10_seeks_L12, h18, zz_mdo hW hm, zz_ra hW hm, h1, zz_some, zz_lit, zz_num, zI_lt, zI_le, zI_eq, zI_nat, zz_b, if_pos, if_neg, if_true, if_false]
  | succ m ih =>
    intro fuel k σ h1 hl h19 h20 h0 h2
    obtain ⟨f, rfl, h4⟩ := zfuel h2
    have h18 : g_i (zH E σ) (zL E 3 0 0) 10 18 = some (zI (l.length : Int)) := by rw [← hl.1]; exact zg_md18 hW hm
    have g19 : g_i (zH E σ) (zL E 3 0 0) 10 19 = some (zI (-1)) := by rw [← h19]; exact zg_md19 hW hm
    have hk : k < l.length := by omega
    have hr := hl.2 k hk
    have hd : l.drop k = l.getD k 0 :: l.drop (k + 1) := by
      rw [List.drop_eq_getElem_cons hk]
      simp [List.getD_eq_getElem?_getD, List.getElem?_eq_getElem hk]
    have hmem := hl2 (l.getD k 0) (by simp [List.getD_eq_getElem?_getD, List.getElem?_eq_getElem hk])
    obtain ⟨s, hs⟩ : ∃ s, l.getD k 0 = s := ⟨_, rfl⟩
    rw [hs] at hr hd hmem
    have hE := nEn_rng n s x
    have hent := hn.2.2.2.ent hn.1 hmem.1 hmem.2
    have he := e10_entryOf hW hm h1 hn.1 hn.2.2.2 hmem.1 hmem.2 (by omega : -1 ≤ x) hx1
    obtain ⟨σ', q1, q2, q3, q4, q5, q6⟩ := ih f (k + 1) σ h1 hl h19 h20 (by omega) (by omega)
    rw [show (((k + 1 : Nat) : Int)) = (k : Int) + 1 by omega] at q1
    rw [hd]
    by_cases hsb : s < below
    · by_cases hne : nEn n s x = -1
      · rw [lfi, if_neg (by simp [hne])]
        refine ⟨σ', ?_, q2, q3, q4, q5, q6⟩
        rw [hne] at he
        simp (disch := first | assumption | omega) only [f_X10_seeks_L12, f_X10_seeks_J53, h18, g19, hr, he, zz_mdo hW hm, zz_ra hW hm, h1, zz_some, zz_lit, zz_num, zI_lt, zI_le, zI_eq, zI_nat, zz_b, if_pos, if_neg, if_true, if_false]
        exact q1
      · rw [lfi, if_pos (by simp [hsb, hne])]
        obtain ⟨σ1, s1⟩ : ∃ y, y = zs σ 3 0 0 19 s := ⟨_, rfl⟩
        have h11 : σ1 3 0 1 = n := by rw [s1, zs_ne (by omega)]; exact h1
        have hof := e10_of hW hm h11 (s := s) (w := 6 + 2 * nEn n s x) hmem.1 (by omega) (by omega) (by omega)
        refine ⟨zs σ1 3 0 0 20 (nS n s (6 + 2 * nEn n s x)), ?_, zQ.tr (by rw [s1]; exact zQ.f (by omega)) (zQ.f (by omega)), zQl.f (by omega) (by rw [s1]; exact zQl.f (by omega) hl), by rw [zs_at, if_neg (by omega), s1, zs_at, if_pos rfl], by rw [zs_at, if_pos rfl]; unfold nSv; rw [if_neg (by omega)], fun c hc => by rw [zs_ne (by omega), s1, zs_ne (by omega)]⟩
        simp (disch := first | assumption | omega) only [f_X10_seeks_L12, f_X10_seeks_J53, h18, g19, hr, he, zp_md19 hW hm, zz_mdo hW hm, zz_ra hW hm, h1, zz_some, zz_lit, zz_num, zI_lt, zI_le, zI_eq, zI_nat, zz_b, if_pos, if_neg, if_true, if_false]
        rw [← s1, show 5 + 2 * nEn n s x + 1 = 6 + 2 * nEn n s x by omega]
        simp (disch := first | assumption | omega) only [hof, zp_md20 hW hm, zz_mdo hW hm, zz_ra hW hm, h1, zz_some, zz_lit, zz_num, zI_lt, zI_le, zI_eq, zI_nat, zz_b, if_pos, if_neg, if_true, if_false]
        obtain ⟨f', rfl⟩ : ∃ f', f = f' + 1 := ⟨f - 1, by omega⟩
        have h182 : g_i (zH E (zs σ1 3 0 0 20 (nS n s (6 + 2 * nEn n s x)))) (zL E 3 0 0) 10 18 = some (zI (l.length : Int)) := by
          have : zs σ1 3 0 0 20 (nS n s (6 + 2 * nEn n s x)) 3 0 0 18 = (l.length : Int) := by rw [zs_at, if_neg (by omega), s1, zs_at, if_neg (by omega)]; exact hl.1
          rw [← this]; exact zg_md18 hW hm
        have h192 : g_i (zH E (zs σ1 3 0 0 20 (nS n s (6 + 2 * nEn n s x)))) (zL E 3 0 0) 10 19 = some (zI s) := by
          have : zs σ1 3 0 0 20 (nS n s (6 + 2 * nEn n s x)) 3 0 0 19 = s := by rw [zs_at, if_neg (by omega), s1, zs_at, if_pos rfl]
          rw [← this]; exact zg_md19 hW hm
        rw [f_X10_seeks_L12, h182, zz_some]
        by_cases hkl : (k : Int) + 1 < l.length
        · simp (disch := first | assumption | omega) only [h192, zz_mdo hW hm, zz_ra hW hm, h1, zz_some, zz_lit, zz_num, zI_lt, zI_le, zI_eq, zI_nat, zz_b, if_pos, if_neg, if_true, if_false]
        · simp (disch := first | assumption | omega) only [zz_mdo hW hm, zz_ra hW hm, h1, zz_some, zz_lit, zz_num, zI_lt, zI_le, zI_eq, zI_nat, zz_b, if_pos, if_neg, if_true, if_false]
    · rw [lfi, if_neg (by simp; omega)]
      refine ⟨σ', ?_, q2, q3, q4, q5, q6⟩
      simp (disch := first | assumption | omega) only [f_X10_seeks_L12, f_X10_seeks_J53, h18, g19, hr, zz_mdo hW hm, zz_ra hW hm, h1, zz_some, zz_lit, zz_num, zI_lt, zI_le, zI_eq, zI_nat, zz_b, if_pos, if_neg, if_true, if_false]
      exact q1
theorem e10_seeks' (hW : zWF E) (hm : zU E 3 0 = true) (h1 : σ 3 0 1 = n) (hn : nW n) (hl : zQl σ (nQl n (n 3).toNat)) {x below : Int} (hx0 : 0 ≤ x) (hx1 : x < 100) (hb0 : 0 ≤ below) (hb1 : below ≤ 12) : ∃ σ', f_X10_seeks (zH E σ) (zL E 3 0 0) (zI x) (zI below) = some (zH E σ') ∧ zQ σ σ' ∧ zQl σ' (nQl n (n 3).toNat) ∧ σ' 3 0 0 19 = nSk n x below ∧ σ' 3 0 0 20 = nFv n x below ∧ (∀ c, c ≠ 0 → σ' 3 0 c = σ 3 0 c) := by
  have hN' := hn.1.r
  have hlen := nQl_len n (n 3).toNat
  obtain ⟨σ1, s1⟩ : ∃ y, y = zs (zs σ 3 0 0 19 (-1)) 3 0 0 20 (-1) := ⟨_, rfl⟩
  obtain ⟨σ', q1, q2, q3, q4, q5, q6⟩ := e10_seeks_L hW hm hn (l := nQl n (n 3).toNat) (fun t ht => by have := nQl_mem _ t (by omega) ht; omega) (by omega) hx0 hx1 hb0 hb1 (nQl n (n 3).toNat).length g_N 0 σ1 (by rw [s1, zs_ne (by omega), zs_ne (by omega)]; exact h1) (by rw [s1]; exact zQl.f (by omega) (zQl.f (by omega) hl)) (by rw [s1]; simp [zs]) (by rw [s1]; simp [zs]) (by omega) (by unfold g_N; omega)
  rw [List.drop_zero, lfi_Sk (by omega)] at q4 q5
  refine ⟨σ', ?_, zQ.tr (by rw [s1]; exact zQ.tr (zQ.f (by omega)) (zQ.f (by omega))) q2, q3, q4, q5, fun c hc => by rw [q6 c hc, s1, zs_ne (by omega), zs_ne (by omega)]⟩
  simp (disch := first | assumption | omega) only [f_X10_seeks, zp_md19 hW hm, zp_md20 hW hm, zz_mdo hW hm, zz_ra hW hm, h1, zz_some, zz_lit, zz_num, zI_lt, zI_le, zI_eq, zI_nat, zz_b, if_pos, if_neg, if_true, if_false]
  rw [← s1]
  exact q1
theorem e10_seeks (hW : zWF E) (hm : zU E 3 0 = true) (h1 : σ 3 0 1 = n) (hn : nW n) (hl : zQl σ (nQl n (n 3).toNat)) {x below : Int} (hx0 : 0 ≤ x) (hx1 : x < 100) (hb0 : 0 ≤ below) (hb1 : below ≤ 12) : ∃ σ', f_X10_seeks (zH E σ) (zL E 3 0 0) (zI x) (zI below) = some (zH E σ') ∧ zQ σ σ' ∧ zQl σ' (nQl n (n 3).toNat) ∧ σ' 3 0 0 19 = nSk n x below ∧ σ' 3 0 0 20 = nFv n x below := by
  obtain ⟨σ', q1, q2, q3, q4, q5, q6⟩ := e10_seeks' hW hm h1 hn hl hx0 hx1 hb0 hb1
  exact ⟨σ', q1, q2, q3, q4, q5⟩
theorem e10_finds (hW : zWF E) (hm : zU E 3 0 = true) (h1 : σ 3 0 1 = n) (hn : nW n) {x : Int} (hx0 : 0 ≤ x) (hx1 : x < 100) : ∃ σ', f_X10_finds (zH E σ) (zL E 3 0 0) (zI x) = some (zH E σ') ∧ zQ σ σ' ∧ σ' 3 0 0 19 = nSk n x 12 ∧ σ' 3 0 0 20 = nFv n x 12 := by
  obtain ⟨σ1, a1, a2, a3⟩ := e10_searches hW hm hn h1
  obtain ⟨σ2, b1, b2, b3, b4, b5⟩ := e10_seeks hW hm (a2.n.trans h1) hn a3 hx0 hx1 (below := 12) (by omega) (by omega)
  refine ⟨σ2, ?_, a2.tr b2, b4, b5⟩
  simp (disch := first | assumption | omega) only [f_X10_finds, a1, b1, zz_mdo hW hm, zz_ra hW hm, h1, zz_some, zz_lit, zz_num, zI_lt, zI_le, zI_eq, zI_nat, zz_b, if_pos, if_neg, if_true, if_false]
theorem e10_filesThere_L (hW : zWF E) (hm : zU E 3 0 = true) (hn : nW n) {y : Int} (hy0 : 0 ≤ y) (hy1 : y ≤ 12) : ∀ (m fuel : Nat) (acc f : Int) (σ : zW), σ 3 0 1 = n → zQl σ (nQl n (n 3).toNat) → 0 ≤ f → f + m = n 2 → m < fuel → ∃ σ', f_X10_filesThere_L8 fuel (zH E σ) (zL E 3 0 0) (zI y) (zI acc) (zI f) = some (zH E σ', zI (acc + zcn (fun f => decide (nFv n f y ≠ -1)) f m)) ∧ zQ σ σ' := by
  have hN' := hn.1.r
  intro m
  induction m with
  | zero =>
    intro fuel acc f σ h1 hl h0 h2 h3
    obtain ⟨fu, rfl, h4⟩ := zfuel h3
    refine ⟨σ, ?_, zQ.rf⟩
    simp (disch := first | assumption | omega) only [f_X10_filesThere_L8, zcn, zz_mdo hW hm, zz_ra hW hm, h1, zz_some, zz_lit, zz_num, zI_lt, zI_le, zI_eq, zI_nat, zz_b, if_pos, if_neg, if_true, if_false]
    simp
  | succ m ih =>
    intro fuel acc f σ h1 hl h0 h2 h3
    obtain ⟨fu, rfl, h4⟩ := zfuel h3
    obtain ⟨σ1, b1, b2, b3, b4, b5⟩ := e10_seeks hW hm h1 hn hl (x := f) h0 (by omega) hy0 hy1
    have g20 : g_i (zH E σ1) (zL E 3 0 0) 10 20 = some (zI (nFv n f y)) := by rw [← b5]; exact zg_md20 hW hm
    have hF := nFv_rng hn f y
    by_cases h : nFv n f y = -1
    · obtain ⟨σ', c1, c2⟩ := ih fu (acc + 0) (f + 1) σ1 (b2.n.trans h1) b3 (by omega) (by omega) (by omega)
      refine ⟨σ', ?_, b2.tr c2⟩
      simp (disch := first | assumption | omega) only [f_X10_filesThere_L8, b1, g20, c1, zz_mdo hW hm, zz_ra hW hm, h1, zz_some, zz_lit, zz_num, zI_lt, zI_le, zI_eq, zI_nat, zz_b, if_pos, if_neg, if_true, if_false]
      rw [zcn, zb_dneg (by simp [h])]
      congr 3; omega
    · obtain ⟨σ', c1, c2⟩ := ih fu (acc + 1) (f + 1) σ1 (b2.n.trans h1) b3 (by omega) (by omega) (by omega)
      refine ⟨σ', ?_, b2.tr c2⟩
      simp (disch := first | assumption | omega) only [f_X10_filesThere_L8, b1, g20, c1, zz_mdo hW hm, zz_ra hW hm, h1, zz_some, zz_lit, zz_num, zI_lt, zI_le, zI_eq, zI_nat, zz_b, if_pos, if_neg, if_true, if_false]
      rw [zcn, zb_dpos h]
      congr 3; omega
theorem e10_filesThere (hW : zWF E) (hm : zU E 3 0 = true) (h1 : σ 3 0 1 = n) (hn : nW n) {y : Int} (hy0 : 0 ≤ y) (hy1 : y ≤ 12) : ∃ σ', f_X10_filesThere (zH E σ) (zL E 3 0 0) (zI y) = some (zH E σ', zI (nTh n y)) ∧ zQ σ σ' := by
  have hN' := hn.1.r
  obtain ⟨σ1, a1, a2, a3⟩ := e10_searches hW hm hn h1
  obtain ⟨σ2, b1, b2⟩ := e10_filesThere_L hW hm hn hy0 hy1 (n 2).toNat g_N 0 0 σ1 (a2.n.trans h1) a3 (by omega) (by omega) (by unfold g_N; omega)
  refine ⟨σ2, ?_, a2.tr b2⟩
  simp (disch := first | assumption | omega) only [f_X10_filesThere, a1, b1, zz_mdo hW hm, zz_ra hW hm, h1, zz_some, zz_lit, zz_num, zI_lt, zI_le, zI_eq, zI_nat, zz_b, if_pos, if_neg, if_true, if_false]
  unfold nTh
  congr 3; omega
theorem e10_goodFiles_L (hW : zWF E) (hm : zU E 3 0 = true) (hn : nW n) : ∀ (m fuel : Nat) (x : Int32) (f : Nat) (σ : zW), σ 3 0 1 = n → zQl σ (nQl n (n 3).toNat) → (f : Int) + m = n 2 → zBit x f (nGd n) → m < fuel → ∃ σ' y, f_X10_goodFiles_L8 fuel (zH E σ) (zL E 3 0 0) x (zI (f : Int)) = some (zH E σ', y) ∧ zQ σ σ' ∧ zBit y (n 2).toNat (nGd n) := by
  have hN' := hn.1.r
  intro m
  induction m with
  | zero =>
    intro fuel x f σ h1 hl h0 hb h3
    obtain ⟨fu, rfl, h4⟩ := zfuel h3
    refine ⟨σ, x, ?_, zQ.rf, by rw [show (n 2).toNat = f by omega]; exact hb⟩
    simp (disch := first | assumption | omega) only [f_X10_goodFiles_L8, zz_mdo hW hm, zz_ra hW hm, h1, zz_some, zz_lit, zz_num, zI_lt, zI_le, zI_eq, zI_nat, zz_b, if_pos, if_neg, if_true, if_false]
  | succ m ih =>
    intro fuel x f σ h1 hl h0 hb h3
    obtain ⟨fu, rfl, h4⟩ := zfuel h3
    obtain ⟨σ1, b1, b2, b3, b4, b5⟩ := e10_seeks hW hm h1 hn hl (x := f) (by omega) (by omega) (below := 12) (by omega) (by omega)
    have g20 : g_i (zH E σ1) (zL E 3 0 0) 10 20 = some (zI (nFv n f 12)) := by rw [← b5]; exact zg_md20 hW hm
    have hF := nFv_rng hn f 12
    have h11 := b2.n.trans h1
    have hi : ((f + 1 : Nat) : Int) = (f : Int) + 1 := by omega
    by_cases h : nFv n f 12 = -1
    · obtain ⟨σ', y, c1, c2, c3⟩ := ih fu (x ||| zI 0) (f + 1) σ1 h11 b3 (by omega) (zBit_keep hb (by simp [nGd, h])) (by omega)
      refine ⟨σ', y, ?_, b2.tr c2, c3⟩
      rw [hi] at c1
      simp (disch := first | assumption | omega) only [f_X10_goodFiles_L8, b1, g20, c1, zz_mdo hW hm, zz_ra hW hm, h1, zz_some, zz_lit, zz_num, zI_lt, zI_le, zI_eq, zI_nat, zz_b, if_pos, if_neg, if_true, if_false]
    · have hrd := e10_isReadable hW hm h11 hn (v := nFv n f 12) (by omega) hF.2
      cases hr : nRv n (nFv n f 12)
      · obtain ⟨σ', y, c1, c2, c3⟩ := ih fu (x ||| zI 0) (f + 1) σ1 h11 b3 (by omega) (zBit_keep hb (by simp [nGd, hr])) (by omega)
        refine ⟨σ', y, ?_, b2.tr c2, c3⟩
        rw [hi] at c1
        rw [hr] at hrd
        simp (disch := first | assumption | omega) only [f_X10_goodFiles_L8, b1, g20, hrd, c1, zz_mdo hW hm, zz_ra hW hm, h1, zz_some, zz_lit, zz_num, zI_lt, zI_le, zI_eq, zI_nat, zz_b, if_pos, if_neg, if_true, if_false]
      · obtain ⟨σ', y, c1, c2, c3⟩ := ih fu (x ||| (zI 1 <<< (zI (f : Int) &&& 31))) (f + 1) σ1 h11 b3 (by omega) (zBit_set hb (by omega) (by simp [nGd, hr, h])) (by omega)
        refine ⟨σ', y, ?_, b2.tr c2, c3⟩
        rw [hi] at c1
        rw [hr] at hrd
        simp (disch := first | assumption | omega) only [f_X10_goodFiles_L8, b1, g20, hrd, c1, Bool.true_eq_false, zz_mdo hW hm, zz_ra hW hm, h1, zz_some, zz_lit, zz_num, zI_lt, zI_le, zI_eq, zI_nat, zz_b, if_pos, if_neg, if_true, if_false]
theorem e10_goodFiles (hW : zWF E) (hm : zU E 3 0 = true) (h1 : σ 3 0 1 = n) (hn : nW n) : ∃ σ' y, f_X10_goodFiles (zH E σ) (zL E 3 0 0) = some (zH E σ', y) ∧ zQ σ σ' ∧ zBit y (n 2).toNat (nGd n) := by
  have hN' := hn.1.r
  obtain ⟨σ1, a1, a2, a3⟩ := e10_searches hW hm hn h1
  obtain ⟨σ2, y, b1, b2, b3⟩ := e10_goodFiles_L hW hm hn (n 2).toNat g_N (zI 0) 0 σ1 (a2.n.trans h1) a3 (by omega) (zBit_0 _) (by unfold g_N; omega)
  refine ⟨σ2, y, ?_, a2.tr b2, b3⟩
  simp (disch := first | assumption | omega) only [f_X10_goodFiles, a1, zz_mdo hW hm, zz_ra hW hm, h1, zz_some, zz_lit, zz_num, zI_lt, zI_le, zI_eq, zI_nat, zz_b, if_pos, if_neg, if_true, if_false]
  exact b1
end zMod

/-! The law's own disc: the good files as a mask, and how many bits it has; what could be recovered. -/
def mk6 (a b c d e f : Bool) : Int32 := (if a then 1 else 0) ||| (if b then 2 else 0) ||| (if c then 4 else 0) ||| (if d then 8 else 0) ||| (if e then 16 else 0) ||| (if f then 32 else 0)
theorem mk6_cnt : ∀ a b c d e f : Bool, f_J6_bitCount_0f7a4 (fun _ => none) (mk6 a b c d e f) = some (zI (zb a + zb b + zb c + zb d + zb e + zb f)) := by decide +kernel
theorem mk6_and : ∀ a b c d e f a' b' c' d' e' f' : Bool, mk6 a b c d e f &&& (mk6 a' b' c' d' e' f' ^^^ (-1 : Int32)) = mk6 (a && !a') (b && !b') (c && !c') (d && !d') (e && !e') (f && !f') := by decide +kernel
def zMk (P : Int → Bool) : Int → Nat → Int32 → Int32
  | _, 0, acc => acc
  | f, k + 1, acc => zMk P (f + 1) k (if P f = true then acc ||| ((1 : Int32) <<< (zI f &&& 31)) else acc)
def zM6 (P : Int → Bool) (k : Nat) : Int32 := mk6 (P 0 && decide (0 < k)) (P 1 && decide (1 < k)) (P 2 && decide (2 < k)) (P 3 && decide (3 < k)) (P 4 && decide (4 < k)) (P 5 && decide (5 < k))
theorem zMk_6 (P : Int → Bool) {k : Nat} (hk : k ≤ 6) : zMk P 0 k 0 = zM6 P k := by
  unfold zM6
  rcases (by omega : k = 0 ∨ k = 1 ∨ k = 2 ∨ k = 3 ∨ k = 4 ∨ k = 5 ∨ k = 6) with rfl | rfl | rfl | rfl | rfl | rfl | rfl
  · generalize P 0 = p0; generalize P 1 = p1; generalize P 2 = p2; generalize P 3 = p3; generalize P 4 = p4; generalize P 5 = p5
    cases p0 <;> cases p1 <;> cases p2 <;> cases p3 <;> cases p4 <;> cases p5 <;> rfl
  · show zMk P 0 1 0 = _
    simp only [zMk, Int.reduceAdd, Int.reduceNeg, show (0 : Int) + 1 = 1 from rfl]
    generalize P 0 = p0; generalize P 1 = p1; generalize P 2 = p2; generalize P 3 = p3; generalize P 4 = p4; generalize P 5 = p5
    cases p0 <;> cases p1 <;> cases p2 <;> cases p3 <;> cases p4 <;> cases p5 <;> rfl
  · simp only [zMk, show (0 : Int) + 1 = 1 from rfl]
    generalize P 0 = p0; generalize P 1 = p1; generalize P 2 = p2; generalize P 3 = p3; generalize P 4 = p4; generalize P 5 = p5
    cases p0 <;> cases p1 <;> cases p2 <;> cases p3 <;> cases p4 <;> cases p5 <;> rfl
  · simp only [zMk, show (0 : Int) + 1 = 1 from rfl, show (1 : Int) + 1 = 2 from rfl]
    generalize P 0 = p0; generalize P 1 = p1; generalize P 2 = p2; generalize P 3 = p3; generalize P 4 = p4; generalize P 5 = p5
    cases p0 <;> cases p1 <;> cases p2 <;> cases p3 <;> cases p4 <;> cases p5 <;> rfl
  · simp only [zMk, show (0 : Int) + 1 = 1 from rfl, show (1 : Int) + 1 = 2 from rfl, show (2 : Int) + 1 = 3 from rfl]
    generalize P 0 = p0; generalize P 1 = p1; generalize P 2 = p2; generalize P 3 = p3; generalize P 4 = p4; generalize P 5 = p5
    cases p0 <;> cases p1 <;> cases p2 <;> cases p3 <;> cases p4 <;> cases p5 <;> rfl
  · simp only [zMk, show (0 : Int) + 1 = 1 from rfl, show (1 : Int) + 1 = 2 from rfl, show (2 : Int) + 1 = 3 from rfl, show (3 : Int) + 1 = 4 from rfl]
    generalize P 0 = p0; generalize P 1 = p1; generalize P 2 = p2; generalize P 3 = p3; generalize P 4 = p4; generalize P 5 = p5
    cases p0 <;> cases p1 <;> cases p2 <;> cases p3 <;> cases p4 <;> cases p5 <;> rfl
  · simp only [zMk, show (0 : Int) + 1 = 1 from rfl, show (1 : Int) + 1 = 2 from rfl, show (2 : Int) + 1 = 3 from rfl, show (3 : Int) + 1 = 4 from rfl, show (4 : Int) + 1 = 5 from rfl]
    generalize P 0 = p0; generalize P 1 = p1; generalize P 2 = p2; generalize P 3 = p3; generalize P 4 = p4; generalize P 5 = p5
    cases p0 <;> cases p1 <;> cases p2 <;> cases p3 <;> cases p4 <;> cases p5 <;> rfl
theorem zcn_6 (P : Int → Bool) {k : Nat} (hk : k ≤ 6) : zcn P 0 k = zb (P 0 && decide (0 < k)) + zb (P 1 && decide (1 < k)) + zb (P 2 && decide (2 < k)) + zb (P 3 && decide (3 < k)) + zb (P 4 && decide (4 < k)) + zb (P 5 && decide (5 < k)) := by
  rcases (by omega : k = 0 ∨ k = 1 ∨ k = 2 ∨ k = 3 ∨ k = 4 ∨ k = 5 ∨ k = 6) with rfl | rfl | rfl | rfl | rfl | rfl | rfl <;> simp [zcn, zb] <;> omega
theorem zM6_cnt {G : gH} (P : Int → Bool) {k : Nat} (hk : k ≤ 6) : f_J6_bitCount_0f7a4 G (zM6 P k) = some (zI (zcn P 0 k)) := by
  rw [zcn_6 P hk]
  exact mk6_cnt _ _ _ _ _ _
theorem zM6_and {G : gH} (P Q : Int → Bool) {k : Nat} (hk : k ≤ 6) : f_J6_bitCount_0f7a4 G (zM6 P k &&& (zM6 Q k ^^^ (-1 : Int32))) = some (zI (zcn (fun f => P f && !Q f) 0 k)) := by
  have e : ∀ p q c : Bool, ((p && c) && !(q && c)) = ((p && !q) && c) := by decide
  have : zM6 P k &&& (zM6 Q k ^^^ (-1 : Int32)) = zM6 (fun f => P f && !Q f) k := by
    unfold zM6
    rw [mk6_and]
    simp only [e]
  rw [this]
  exact zM6_cnt _ hk
section yE
variable {E : zE} {σ : zW} {n : zN}
theorem yl_good_L (hW : zWF E) (h : yR E σ n) (hn : nW n) (hy : yW n) : ∀ (m fuel : Nat) (acc : Int32) (f : Int), 0 ≤ f → f + m = n 2 → m < fuel → f_X10_good_L4 (zH E σ) fuel (zL E 5 0 0) acc (zI f) = some (zMk (nGd n) f m acc) := by
  have hN := hn.1.r
  intro m
  induction m with
  | zero =>
    intro fuel acc f h0 h1 h2
    obtain ⟨g, rfl, h5⟩ := zfuel h2
    simp (disch := first | assumption | omega) only [f_X10_good_L4, yN hW h, zMk, zz_some, zz_nul, zz_lit, zz_num, zI_lt, zI_le, zI_eq, zI_nat, zz_b, if_pos, if_neg, if_true, if_false]
  | succ m ih =>
    intro fuel acc f h0 h1 h2
    obtain ⟨g, rfl, h5⟩ := zfuel h2
    have hv := yl_version hW h hn hy (f := f) (x := 12) h0 (by omega) (by omega) (by omega)
    have hi := ih g acc (f + 1) (by omega) (by omega) h5
    have hj := ih g (acc ||| ((1 : Int32) <<< (zI f &&& 31))) (f + 1) (by omega) (by omega) h5
    have hr := nFv_rng hn f 12
    unfold zMk
    by_cases c : nFv n f 12 = -1
    · rw [if_pos c] at hv
      have hg : nGd n f = false := by simp [nGd, c]
      rw [hg, if_neg (by simp)]
      simp (disch := first | assumption | omega) only [f_X10_good_L4, yN hW h, yl_ob hW h, hv, hi, zz_some, zz_nul, zz_lit, zz_num, zI_lt, zI_le, zI_eq, zI_nat, zz_b, if_pos, if_neg, if_true, if_false]
    · rw [if_neg c] at hv
      have hrd := yl_readv hW h hn (v := nFv n f 12) (by omega) (by omega)
      cases hd : nRv n (nFv n f 12)
      · rw [hd] at hrd
        have hg : nGd n f = false := by simp [nGd, c, hd]
        rw [hg, if_neg (by simp)]
        simp (disch := first | assumption | omega) only [f_X10_good_L4, yN hW h, yl_ob hW h, hv, hrd, hi, zz_some, zz_nul, zz_lit, zz_num, zI_lt, zI_le, zI_eq, zI_nat, zz_b, if_pos, if_neg, if_true, if_false]
      · rw [hd] at hrd
        have hg : nGd n f = true := by simp [nGd, c, hd]
        rw [hg, if_pos rfl]
        have hj' : f_X10_good_L4 (zH E σ) g (zL E 5 0 0) (acc ||| (zI 1) <<< (zI f &&& 31)) (zI (f + 1)) = some (zMk (nGd n) (f + 1) m (acc ||| (1 : Int32) <<< (zI f &&& 31))) := hj
        simp (disch := first | assumption | omega) only [f_X10_good_L4, yN hW h, yl_ob hW h, hv, hrd, hj', Bool.true_eq_false, zz_some, zz_nul, zz_lit, zz_num, zI_lt, zI_le, zI_eq, zI_nat, zz_b, if_pos, if_neg, if_true, if_false]
theorem yl_good (hW : zWF E) (h : yR E σ n) (hn : nW n) (hy : yW n) : f_X10_good (zH E σ) (zL E 5 0 0) = some (zM6 (nGd n) (n 2).toNat) := by
  have hN := hn.1.r
  have := yl_good_L hW h hn hy (n 2).toNat g_N 0 0 (by omega) (by omega) (by unfold g_N; omega)
  rw [zMk_6 _ (by have := hy.1.2.2; omega)] at this
  exact this
/-- a session's, a version's fields on any state that shows them -/
theorem nCll_mono (P : Int → Bool) {a b : Nat} (h : a ≤ b) : (nCll P a).length ≤ (nCll P b).length := by
  induction h with
  | refl => exact Nat.le_refl _
  | step _ ih =>
    refine Nat.le_trans ih ?_
    rw [nCll]
    split
    · rw [List.length_append]; omega
    · exact Nat.le_refl _
theorem zcn_uni {P : Int → Bool} : ∀ (k : Nat) (lo : Int), (∀ i j, lo ≤ i → i < lo + k → lo ≤ j → j < lo + k → P i = true → P j = true → i = j) → zcn P lo k ≤ 1 := by
  intro k
  induction k with
  | zero => intro lo _; simp [zcn]
  | succ k ih =>
    intro lo h
    cases hp : P lo
    · have := ih (lo + 1) (fun i j a b c d => h i j (by omega) (by omega) (by omega) (by omega))
      simp [zcn, hp, zb]
      exact this
    · rw [zcn, hp, zcn_none k (lo + 1) (fun i a b => by
        cases hq : P i
        · rfl
        · have := h lo i (by omega) (by omega) (by omega) (by omega) hp hq; omega)]
      simp [zb]
theorem zcn_split {P Q R : Int → Bool} : ∀ (k : Nat) (lo : Int), (∀ i, lo ≤ i → i < lo + k → zb (P i) = zb (Q i) + zb (R i)) → zcn P lo k = zcn Q lo k + zcn R lo k := by
  intro k
  induction k with
  | zero => intro lo _; simp [zcn]
  | succ k ih =>
    intro lo h
    simp only [zcn]
    rw [ih (lo + 1) (fun i a b => h i (by omega) (by omega)), h lo (by omega) (by omega)]
    omega
/-- of each file at most one version -/
theorem nCr_files (hn : nW n) : zcn (nRc n (nLa n)) 0 (n 6).toNat ≤ n 2 := by
  have hN := hn.1.r
  have key : ∀ k : Nat, zcn (fun v => nRc n (nLa n) v && decide (nV n v 0 < k)) 0 (n 6).toNat ≤ k := by
    intro k
    induction k with
    | zero =>
      rw [zcn_none _ _ (fun v v0 v1 => by
        have := (hn.2.2.1.2 v v0 (by omega)).1
        rw [decide_eq_false (by omega), Bool.and_false])]
      omega
    | succ k ih =>
      have h1 := zcn_split (P := fun v => nRc n (nLa n) v && decide (nV n v 0 < ((k + 1 : Nat) : Int))) (Q := fun v => nRc n (nLa n) v && decide (nV n v 0 < (k : Int))) (R := fun v => nRc n (nLa n) v && decide (nV n v 0 = (k : Int))) (n 6).toNat 0 (fun v _ _ => by
        cases nRc n (nLa n) v
        · simp [zb]
        · rcases (by omega : nV n v 0 < (k : Int) ∨ nV n v 0 = (k : Int) ∨ (k : Int) < nV n v 0) with c | c | c
          · simp [zb, c, show nV n v 0 < (k : Int) + 1 by omega, show ¬ nV n v 0 = (k : Int) by omega]
          · simp [zb, c, show (k : Int) < (k : Int) + 1 by omega]
          · simp [zb, show ¬ nV n v 0 < (k : Int) + 1 by omega, show ¬ nV n v 0 < (k : Int) by omega, show ¬ nV n v 0 = (k : Int) by omega])
      have h2 : zcn (fun v => nRc n (nLa n) v && decide (nV n v 0 = (k : Int))) 0 (n 6).toNat ≤ 1 := by
        refine zcn_uni _ _ (fun i j a b c d p q => ?_)
        simp only [Bool.and_eq_true, decide_eq_true_eq] at p q
        have z : ∀ i j, 0 ≤ i → j < 0 + ((n 6).toNat : Int) → i < j → nRc n (nLa n) i = true → nRc n (nLa n) j = true → nV n i 0 = nV n j 0 → False := by
          intro i j a b c p q e
          simp only [nRc, Bool.and_eq_true] at p q
          have := (zal_iff _ _).mp p.2 j (by omega) (by omega)
          simp [e, q.1] at this
        rcases Int.lt_trichotomy i j with e | e | e
        · exact (z i j a d e p.1 q.1 (by omega)).elim
        · exact e
        · exact (z j i c b e q.1 p.1 (by omega)).elim
      omega
  have := key (n 2).toNat
  rw [zcn_congr (Q := nRc n (nLa n)) _ _ (fun v v0 v1 => by
    have := (hn.2.2.1.2 v v0 (by omega)).1
    show (nRc n (nLa n) v && decide (nV n v 0 < ((n 2).toNat : Int))) = _
    rw [decide_eq_true (by omega), Bool.and_true])] at this
  omega
theorem nCll_get (P : Int → Bool) {t : Nat} (ht : P t = true) : nCll P (t + 1) = nCll P t ++ [(t : Int)] := by simp [nCll, ht]
/-- the found ones stand in the row -/
def yFo (σ : zW) (L : List Int) : Prop := ∀ j : Nat, j < L.length → σ 8 0 0 j = L.getD j 0 + 1
theorem yFo.push {L : List Int} {v : Int} (hF : yFo σ L) : yFo (zs σ 8 0 0 (L.length : Int) (v + 1)) (L ++ [v]) := by
  intro j hj
  rw [List.length_append] at hj
  simp only [List.length_singleton] at hj
  unfold zs
  by_cases c : j = L.length
  · subst c
    simp
  · rw [if_neg (by omega), hF j (by omega)]
    rw [List.getD_eq_getElem?_getD, List.getD_eq_getElem?_getD, List.getElem?_append_left (by omega)]
theorem yR.f8 (h : yR E σ n) {σ' : zW} (hs : ∀ k d c, k ≠ 8 → σ' k d c = σ k d c) : yR E σ' n := by
  obtain ⟨h1, h2, h3, h4, h5, h6⟩ := h
  have e5 : σ' 5 0 = σ 5 0 := funext fun c => hs 5 0 c (by omega)
  refine ⟨h1, by rw [e5]; exact h2, by rw [e5]; exact h3, by rw [e5]; exact h4, fun s hs' => ?_, fun v hv => ?_⟩
  · rw [show σ' 6 s = σ 6 s from funext fun c => hs 6 s c (by omega)]; exact h5 s hs'
  · rw [show σ' 7 v = σ 7 v from funext fun c => hs 7 v c (by omega)]; exact h6 v hv
/-- the inner loop: whether a later one of the same file can be read -/
theorem yl_lost_L81 (hW : zWF E) (h : yR E σ n) (hn : nW n) (hy : yW n) (hf8 : zU E 8 0 = true) (k31 : gH → Nat → Nat → Int32 → Int32 → Option (gH × Int32)) {v cnt : Int} (v0 : 0 ≤ v) (v1 : v < n 6) (c0 : 0 ≤ cnt) (c1 : cnt < 10) : ∀ (m fuel : Nat) (w : Int) (later : Bool), 0 ≤ w → w + m = n 6 → m < fuel → f_X10_lost_L81 k31 fuel (zH E σ) (zL E 5 0 0) (zL E 8 0 0) (zI cnt) (zI v) (zI (zb later)) (zI w) = if (!later && zal (fun u => !(decide (nV n u 0 = nV n v 0) && nRo n u (nLa n))) w m) = true then k31 (zH E (zs σ 8 0 0 cnt (v + 1))) (zL E 5 0 0) (zL E 8 0 0) (zI (cnt + 1)) (zI (v + 1)) else k31 (zH E σ) (zL E 5 0 0) (zL E 8 0 0) (zI cnt) (zI (v + 1)) := by
  have hN := hn.1.r
  have ha := (yAll hW h hn.1).1
  have hv := yV hW h hn v0 v1
  have zi := zz_ia (σ := σ) hW hf8
  have ela : n 3 - 1 = nLa n := rfl
  intro m
  induction m with
  | zero =>
    intro fuel w later h0 h1 h2
    obtain ⟨g, rfl, h5⟩ := zfuel h2
    have hav := ha v v0 v1
    have est := zi.2.2 cnt v.toNat c0 (by omega)
    rw [show ((v.toNat : Int) + 1) = v + 1 by omega] at est
    cases later
    · simp (disch := first | assumption | omega) only [f_X10_lost_L81, yN hW h, zz_ldo hW h.u, hav, hv.2, est, zal, Bool.not_false, Bool.and_true, zz_some, zz_nul, zz_lit, zz_num, zI_lt, zI_le, zI_eq, zI_nat, zz_b, if_pos, if_neg, if_true, if_false]
    · simp (disch := first | assumption | omega) only [f_X10_lost_L81, yN hW h, zal, Bool.not_true, Bool.false_and, Bool.true_eq_false, Bool.false_eq_true, zz_some, zz_nul, zz_lit, zz_num, zI_lt, zI_le, zI_eq, zI_nat, zz_b, if_pos, if_neg, if_true, if_false]
  | succ m ih =>
    intro fuel w later h0 h1 h2
    obtain ⟨g, rfl, h5⟩ := zfuel h2
    have w1 : w < n 6 := by omega
    have haw := ha w h0 w1
    have hav := ha v v0 v1
    have hw := yV hW h hn h0 w1
    have hvr := hn.2.2.1.2 v v0 v1
    have hwr := hn.2.2.1.2 w h0 w1
    have hrd := yl_readv hW h hn h0 w1
    have i0 := ih g (w + 1) false (by omega) (by omega) h5
    have i1 := ih g (w + 1) true (by omega) (by omega) h5
    rw [show zb false = 0 from rfl] at i0
    rw [show zb true = 1 from rfl] at i1
    have hN' := hN
    unfold zal
    cases later
    · by_cases c2 : nV n w 4 = nLa n
      · by_cases c3 : nV n w 0 = nV n v 0
        · cases c4 : nRv n w
          · rw [c4] at hrd
            simp (disch := first | assumption | omega) only [f_X10_lost_L81, yN hW h, zz_ldo hW h.u, haw, hw.1, hav, hv.1, ela, c2, c3, yl_ob hW h, hrd, i0, zz_some, zz_nul, zz_lit, zz_num, zI_lt, zI_le, zI_eq, zI_nat, zz_b, if_pos, if_neg, if_true, if_false]
            simp [nRo, c2, c3, c4]
          · rw [c4] at hrd
            simp (disch := first | assumption | omega) only [f_X10_lost_L81, yN hW h, zz_ldo hW h.u, haw, hw.1, hav, hv.1, ela, c2, c3, yl_ob hW h, hrd, i1, Bool.true_eq_false, zz_some, zz_nul, zz_lit, zz_num, zI_lt, zI_le, zI_eq, zI_nat, zz_b, if_pos, if_neg, if_true, if_false]
            simp [nRo, c2, c3, c4]
        · simp (disch := first | assumption | omega) only [f_X10_lost_L81, yN hW h, zz_ldo hW h.u, haw, hw.1, hav, hv.1, ela, c2, c3, i0, zz_some, zz_nul, zz_lit, zz_num, zI_lt, zI_le, zI_eq, zI_nat, zz_b, if_pos, if_neg, if_true, if_false]
          simp [nRo, c3]
      · have c2' : ¬ (nV n w 4 = n 3 - 1) := c2
        simp (disch := first | assumption | omega) only [f_X10_lost_L81, yN hW h, zz_ldo hW h.u, haw, hw.1, c2', i0, zz_some, zz_nul, zz_lit, zz_num, zI_lt, zI_le, zI_eq, zI_nat, zz_b, if_pos, if_neg, if_true, if_false]
        simp [nRo, c2]
    · simp (disch := first | assumption | omega) only [f_X10_lost_L81, yN hW h, i1, Bool.true_eq_false, zz_some, zz_nul, zz_lit, zz_num, zI_lt, zI_le, zI_eq, zI_nat, zz_b, if_pos, if_neg, if_true, if_false]
      simp
theorem yl_lost_L31 (hW : zWF E) (hn : nW n) (hy : yW n) (hf8 : zU E 8 0 = true) (hcr : (nCll (nRc n (nLa n)) (n 6).toNat).length ≤ 9) : ∀ (m fuel : Nat) (v : Nat) (σ : zW), yR E σ n → (v : Int) + m = n 6 → m < fuel → yFo σ (nCll (nRc n (nLa n)) v) → ∃ σ', f_X10_lost_L31 fuel (zH E σ) (zL E 5 0 0) (zL E 8 0 0) (zI (nCll (nRc n (nLa n)) v).length) (zI v) = some (zH E σ', zI (nCll (nRc n (nLa n)) (n 6).toNat).length) ∧ (∀ k d c, k ≠ 8 → σ' k d c = σ k d c) ∧ yFo σ' (nCll (nRc n (nLa n)) (n 6).toNat) := by
  have hN := hn.1.r
  have ela : n 3 - 1 = nLa n := rfl
  intro m
  induction m with
  | zero =>
    intro fuel v σ h h1 h2 hF
    obtain ⟨g, rfl, h5⟩ := zfuel h2
    have e : v = (n 6).toNat := by omega
    subst e
    refine ⟨σ, ?_, fun _ _ _ _ => rfl, hF⟩
    simp (disch := first | assumption | omega) only [f_X10_lost_L31, yN hW h, zz_some, zz_nul, zz_lit, zz_num, zI_lt, zI_le, zI_eq, zI_nat, zz_b, if_pos, if_neg, if_true, if_false]
  | succ m ih =>
    intro fuel v σ h h1 h2 hF
    obtain ⟨g, rfl, h5⟩ := zfuel h2
    have v1 : (v : Int) < n 6 := by omega
    have ha := (yAll hW h hn.1).1 v (by omega) v1
    have hv := yV hW h hn (v := v) (by omega) v1
    have hvr := hn.2.2.1.2 v (by omega) v1
    have hrd := yl_readv hW h hn (v := v) (by omega) v1
    have e1 : (v : Int) + 1 = ((v + 1 : Nat) : Int) := by omega
    have hlen : (nCll (nRc n (nLa n)) v).length ≤ 9 := by
      have := nCll_mono (nRc n (nLa n)) (a := v) (b := (n 6).toNat) (by omega)
      omega
    by_cases c2 : nV n v 4 = nLa n
    · cases c4 : nRv n v
      · have hc : nRc n (nLa n) v = false := by simp [nRc, nRo, c4]
        have hs : nCll (nRc n (nLa n)) (v + 1) = nCll (nRc n (nLa n)) v := by rw [nCll, hc, if_neg (by simp)]
        rw [c4] at hrd
        obtain ⟨σ', i1, i2, i3⟩ := ih g (v + 1) σ h (by omega) h5 (by rw [hs]; exact hF)
        rw [hs] at i1
        refine ⟨σ', ?_, i2, i3⟩
        rw [← i1]
        simp (disch := first | assumption | omega) only [f_X10_lost_L31, yN hW h, zz_ldo hW h.u, ha, hv.1, ela, c2, yl_ob hW h, hrd, zz_some, zz_nul, zz_lit, zz_num, zI_lt, zI_le, zI_eq, zI_nat, zz_b, if_pos, if_neg, if_true, if_false]
        rw [e1]
      · rw [c4] at hrd
        have hl := fun c1 => yl_lost_L81 hW h hn hy hf8 (f_X10_lost_L31 g) (v := v) (cnt := (nCll (nRc n (nLa n)) v).length) (by omega) v1 (by omega) c1 (n 6 - v - 1).toNat g_N (v + 1) false (by omega) (by omega) (by unfold g_N; omega)
        have hz : nRc n (nLa n) v = zal (fun u => !(decide (nV n u 0 = nV n v 0) && nRo n u (nLa n))) (v + 1) (n 6 - v - 1).toNat := by simp [nRc, nRo, c2, c4]
        cases hc : nRc n (nLa n) v
        · have hs : nCll (nRc n (nLa n)) (v + 1) = nCll (nRc n (nLa n)) v := by rw [nCll, hc, if_neg (by simp)]
          have hl := hl (by omega)
          rw [← hz, hc, if_neg (by simp), show zb false = 0 from rfl] at hl
          obtain ⟨σ', i1, i2, i3⟩ := ih g (v + 1) σ h (by omega) h5 (by rw [hs]; exact hF)
          rw [hs] at i1
          refine ⟨σ', ?_, i2, i3⟩
          rw [← i1]
          simp (disch := first | assumption | omega) only [f_X10_lost_L31, yN hW h, zz_ldo hW h.u, ha, hv.1, ela, c2, yl_ob hW h, hrd, Bool.true_eq_false, hl, zz_some, zz_nul, zz_lit, zz_num, zI_lt, zI_le, zI_eq, zI_nat, zz_b, if_pos, if_neg, if_true, if_false]
          rw [e1]
        · have hs : nCll (nRc n (nLa n)) (v + 1) = nCll (nRc n (nLa n)) v ++ [(v : Int)] := nCll_get _ hc
          have c1 : ((nCll (nRc n (nLa n)) v).length : Int) < 10 := by omega
          have hl := hl c1
          rw [← hz, hc, if_pos (by simp), show zb false = 0 from rfl] at hl
          have hs8 : ∀ k d c, k ≠ 8 → zs σ 8 0 0 ((nCll (nRc n (nLa n)) v).length : Int) ((v : Int) + 1) k d c = σ k d c := fun k d c hk => by funext i; unfold zs; rw [if_neg (fun z => hk z.1)]
          obtain ⟨σ', i1, i2, i3⟩ := ih g (v + 1) _ (h.f8 hs8) (by omega) h5 (by rw [hs]; exact hF.push)
          rw [hs, List.length_append] at i1
          refine ⟨σ', ?_, fun k d c hk => by rw [i2 k d c hk, hs8 k d c hk], i3⟩
          rw [← i1]
          simp (disch := first | assumption | omega) only [f_X10_lost_L31, yN hW h, zz_ldo hW h.u, ha, hv.1, ela, c2, yl_ob hW h, hrd, Bool.true_eq_false, hl, zz_some, zz_nul, zz_lit, zz_num, zI_lt, zI_le, zI_eq, zI_nat, zz_b, if_pos, if_neg, if_true, if_false]
          rw [e1]
          rfl
    · have hc : nRc n (nLa n) v = false := by simp [nRc, nRo, c2]
      have hs : nCll (nRc n (nLa n)) (v + 1) = nCll (nRc n (nLa n)) v := by rw [nCll, hc, if_neg (by simp)]
      have c2' : ¬ (nV n v 4 = n 3 - 1) := c2
      obtain ⟨σ', i1, i2, i3⟩ := ih g (v + 1) σ h (by omega) h5 (by rw [hs]; exact hF)
      rw [hs] at i1
      refine ⟨σ', ?_, i2, i3⟩
      rw [← i1]
      simp (disch := first | assumption | omega) only [f_X10_lost_L31, yN hW h, zz_ldo hW h.u, ha, hv.1, c2', zz_some, zz_nul, zz_lit, zz_num, zI_lt, zI_le, zI_eq, zI_nat, zz_b, if_pos, if_neg, if_true, if_false]
      rw [e1]
theorem yl_lost (hW : zWF E) (h : yR E σ n) (hn : nW n) (hy : yW n) (hf8 : zU E 8 0 = true) : ∃ σ', f_X10_lost (zH E σ) (zL E 5 0 0) (zL E 8 0 0) = some (zH E σ', zI (nCr n)) ∧ (∀ k d c, k ≠ 8 → σ' k d c = σ k d c) ∧ yFo σ' (nCo n) := by
  have hN := hn.1.r
  have hlen := nCo_len hn
  have ela : n 3 - 1 = nLa n := rfl
  by_cases h3 : n 3 = 0
  · have hl : nLo n = false := by simp [nLo, nLa, h3]
    refine ⟨σ, ?_, fun _ _ _ _ => rfl, ?_⟩
    · unfold nCr
      rw [hl, if_neg (by simp)]
      simp (disch := first | assumption | omega) only [f_X10_lost, yN hW h, h3, zz_some, zz_nul, zz_lit, zz_num, zI_lt, zI_le, zI_eq, zI_nat, zz_b, if_pos, if_neg, if_true, if_false]
    · unfold nCo
      rw [hl, if_neg (by simp)]
      intro j hj
      exact absurd hj (by simp)
  · have l0 : 0 ≤ nLa n := by unfold nLa; omega
    have l1 : nLa n < n 3 := by unfold nLa; omega
    have ha := (yAll hW h hn.1).2 (nLa n) l0 l1
    have hs := yS hW h hn l0 l1
    have hsr := hn.2.2.2 (nLa n) l0 l1
    by_cases c : nS n (nLa n) 0 = 2
    · have hl : nLo n = true := by simp [nLo, c, l0]
      have hco : nCo n = nCll (nRc n (nLa n)) (n 6).toNat := by unfold nCo; rw [hl, if_pos rfl]
      have hfl := nCr_files hn
      have hll := nCll_len (nRc n (nLa n)) (n 6).toNat
      have hy2 := hy.1.2.2
      obtain ⟨σ', i1, i2, i3⟩ := yl_lost_L31 hW hn hy hf8 (by omega) (n 6).toNat g_N 0 σ h (by omega) (by unfold g_N; omega) (fun j hj => absurd hj (by simp [nCll]))
      refine ⟨σ', ?_, i2, by rw [hco]; exact i3⟩
      rw [← hlen, hco, ← i1]
      simp (disch := first | assumption | omega) only [f_X10_lost, yN hW h, zz_ldo hW h.u, ela, ha, hs.1, c, zz_some, zz_nul, zz_lit, zz_num, zI_lt, zI_le, zI_eq, zI_nat, zz_b, if_pos, if_neg, if_true, if_false]
      rfl
    · have hl : nLo n = false := by simp [nLo, c]
      refine ⟨σ, ?_, fun _ _ _ _ => rfl, ?_⟩
      · unfold nCr
        rw [hl, if_neg (by simp)]
        simp (disch := first | assumption | omega) only [f_X10_lost, yN hW h, zz_ldo hW h.u, ela, ha, hs.1, c, zz_some, zz_nul, zz_lit, zz_num, zI_lt, zI_le, zI_eq, zI_nat, zz_b, if_pos, if_neg, if_true, if_false]
      · unfold nCo
        rw [hl, if_neg (by simp)]
        intro j hj
        exact absurd hj (by simp)
end yE

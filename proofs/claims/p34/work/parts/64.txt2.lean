/-! The reference's way through the tokens. -/
theorem e10_wi {G : gH} {v lo hi : Int} (h0 : -2147483648 ≤ v) (h1 : v < 2147483648) (l0 : 0 ≤ lo) (l1 : lo < 1000) (k0 : 0 ≤ hi) (k1 : hi < 1000) : f_X10_within G (zI v) (zI lo) (zI hi) = some (zI (zb (decide (lo ≤ v ∧ v ≤ hi)))) := by
  by_cases c1 : v < lo
  · rw [zb_dneg (by omega)]
    simp (disch := first | assumption | omega) only [f_X10_within, c1, zz_some, zz_lit, zz_num, zI_lt, zI_le, zI_eq, zI_nat, zz_b, if_pos, if_neg, if_true, if_false]
  · by_cases c2 : hi < v
    · rw [zb_dneg (by omega)]
      simp (disch := first | assumption | omega) only [f_X10_within, c1, c2, zz_some, zz_lit, zz_num, zI_lt, zI_le, zI_eq, zI_nat, zz_b, if_pos, if_neg, if_true, if_false]
    · rw [zb_dpos (by omega)]
      simp (disch := first | assumption | omega) only [f_X10_within, c1, c2, zz_some, zz_lit, zz_num, zI_lt, zI_le, zI_eq, zI_nat, zz_b, if_pos, if_neg, if_true, if_false]
theorem zby_all : ∀ k : Fin 256, zI (if (k.val : Int) < 128 then (k.val : Int) else (k.val : Int) - 256) &&& zI 255 = zI (k.val : Int) := by decide +kernel
theorem zby {x : Int} (h0 : 0 ≤ x) (h1 : x ≤ 255) : zI (if x < 128 then x else x - 256) &&& zI 255 = zI x := by
  have := zby_all ⟨x.toNat, by omega⟩
  rw [show ((⟨x.toNat, by omega⟩ : Fin 256).val : Int) = x from by show ((x.toNat : Nat) : Int) = x; omega] at this
  exact this
theorem zJ_or {a x : Int} (h0 : 0 ≤ x) (h1 : x < 256) : (zJ a <<< ((zI 8).toInt64 &&& 63)) ||| (zI x).toInt64 = zJ (a * 256 + x) := by
  rw [zJ_I (a := x) (by omega) (by omega)]
  have e8 : ((zI 8).toInt64 &&& 63) = (8 : Int64) := by decide +kernel
  rw [e8, ← zJ_add, ← zJ_mul]
  apply Int64.toBitVec_inj.mp
  rw [Int64.toBitVec_or, Int64.toBitVec_add, Int64.toBitVec_mul, Int64.toBitVec_shiftLeft]
  have h8 : (zJ a).toBitVec <<< (Int64.toBitVec 8).smod 64 = (zJ a).toBitVec * (zJ 256).toBitVec := by
    have e2 : ((Int64.toBitVec 8).smod 64) = 8#64 := by decide +kernel
    have e3 : (zJ 256).toBitVec = BitVec.twoPow 64 8 := by decide +kernel
    rw [e2, e3, BitVec.mul_twoPow_eq_shiftLeft]
    rfl
  rw [h8]
  symm
  apply BitVec.add_eq_or_of_and_eq_zero
  have e3 : (zJ 256).toBitVec = BitVec.twoPow 64 8 := by decide +kernel
  rw [e3, BitVec.mul_twoPow_eq_shiftLeft]
  apply BitVec.eq_of_getLsbD_eq
  intro i hi
  rw [BitVec.getLsbD_and, BitVec.getLsbD_shiftLeft, BitVec.getLsbD_zero]
  by_cases c : i < 8
  · simp [c]
  · have hx : (zJ x).toBitVec.toNat = x.toNat := by
      show (Int64.ofInt x).toBitVec.toNat = _
      rw [Int64.toBitVec_ofInt, BitVec.toNat_ofInt]
      omega
    have : (zJ x).toBitVec.getLsbD i = false := by
      rw [← BitVec.testBit_toNat, hx]
      apply Nat.testBit_lt_two_pow
      have : (2 : Nat) ^ 8 ≤ 2 ^ i := Nat.pow_le_pow_right (by omega) (by omega)
      omega
    rw [this]
    simp
/-- the reference's bytes are b up to L -/
def zTm (σ : zW) (b : Int → Int) (L : Int) : Prop := (0 ≤ L ∧ L ≤ 600) ∧ ∀ i, 0 ≤ i → i < L → (0 ≤ b i ∧ b i ≤ 255) ∧ σ 3 0 3 i = if b i < 128 then b i else b i - 256
theorem zTm.cg {σ σ' : zW} {b : Int → Int} {L : Int} (h : zTm σ b L) (e : σ' 3 0 3 = σ 3 0 3) : zTm σ' b L := ⟨h.1, fun i h0 h1 => by rw [e]; exact h.2 i h0 h1⟩
/-- only the reference's token fields differ -/
def zMf (σ σ' : zW) : Prop := (∀ k d c, ¬ (k = 3 ∧ d = 0 ∧ c = 0) → σ' k d c = σ k d c) ∧ ∀ i, i < 6 ∨ 10 < i → σ' 3 0 0 i = σ 3 0 0 i
theorem zMf.rf {σ : zW} : zMf σ σ := ⟨fun _ _ _ _ => rfl, fun _ _ => rfl⟩
theorem zMf.tr {σ σ1 σ2 : zW} (h : zMf σ σ1) (h2 : zMf σ1 σ2) : zMf σ σ2 := ⟨fun k d c z => (h2.1 k d c z).trans (h.1 k d c z), fun i z => (h2.2 i z).trans (h.2 i z)⟩
theorem zMf.s {σ : zW} {i v : Int} (h0 : 6 ≤ i) (h1 : i ≤ 10) : zMf σ (zs σ 3 0 0 i v) := ⟨fun k d c z => zs_ne z, fun j z => by rw [zs_at, if_neg (by omega)]⟩
section zTxt
variable {E : zE} {σ : zW} {b : Int → Int} {L : Int}
theorem zTm.f {σ' : zW} (h : zTm σ b L) (f : zMf σ σ') : zTm σ' b L := h.cg (f.1 3 0 3 (by omega))
theorem e10_byteAt (hW : zWF E) (hm : zU E 3 0 = true) (hT : zTm σ b L) (h5 : σ 3 0 0 5 = L) {i : Int} (h0 : 0 ≤ i) (h1 : i ≤ 600) : f_X10_byteAt (zH E σ) (zL E 3 0 0) (zI i) = some (zI (if i < L then b i else -1)) := by
  have hL := hT.1
  have g5 := zg_md5 (σ := σ) hW hm
  rw [h5] at g5
  by_cases c : i < L
  · rw [if_pos c]
    obtain ⟨hb, ht⟩ := hT.2 i h0 c
    have ha := zAld (σ := σ) (t := 2) (n := 600) hW hm (k := 3) (d := 0) (c := 3) rfl (by decide) (by decide) h0 (by omega)
    rw [ht] at ha
    have z := zby hb.1 hb.2
    have c' : ¬ L ≤ i := by omega
    simp (disch := first | assumption | omega) only [f_X10_byteAt, g5, c', zg_md3 hW hm, ha, z, zz_some, zz_lit, zz_num, zI_lt, zI_le, zI_eq, zI_nat, zz_b, if_pos, if_neg, if_true, if_false]
  · rw [if_neg c]
    have c' : L ≤ i := by omega
    simp (disch := first | assumption | omega) only [f_X10_byteAt, g5, c', zz_some, zz_lit, zz_num, zI_lt, zI_le, zI_eq, zI_nat, zz_b, if_pos, if_neg, if_true, if_false]
/-- the reference's token fields -/
def zPm (σ : zW) (b : Int → Int) (L p : Int) : Prop := σ 3 0 0 6 = tS b L p ∧ σ 3 0 0 7 = tE b L p ∧ σ 3 0 0 8 = tK b L p ∧ (tK b L p = 2 → σ 3 0 0 9 = tV b L p) ∧ (tK b L p = 1 → σ 3 0 0 10 = zw8 (tW b L p))
theorem zPm.cg {σ σ' : zW} {p : Int} (h : zPm σ b L p) (e : ∀ i, 6 ≤ i → i ≤ 10 → σ' 3 0 0 i = σ 3 0 0 i) : zPm σ' b L p := by
  unfold zPm
  rw [e 6 (by omega) (by omega), e 7 (by omega) (by omega), e 8 (by omega) (by omega), e 9 (by omega) (by omega), e 10 (by omega) (by omega)]
  exact h
theorem e10_let_L (hW : zWF E) (hm : zU E 3 0 = true) {s : Int} (hs : 0 ≤ s) : ∀ (m fuel : Nat) (σ : zW) (i a : Int), zTm σ b L → σ 3 0 0 5 = L → σ 3 0 0 6 = s → σ 3 0 0 7 = i → σ 3 0 0 10 = a → s ≤ i → i + m = L → m < fuel → ∃ σ', f_X10_takesLetters_L5 fuel (zH E σ) (zL E 3 0 0) = some (zH E σ') ∧ zMf σ σ' ∧ σ' 3 0 0 6 = s ∧ σ' 3 0 0 8 = σ 3 0 0 8 ∧ σ' 3 0 0 9 = σ 3 0 0 9 ∧ σ' 3 0 0 7 = zrun (tLe b) m i ∧ σ' 3 0 0 10 = (tLs b (min (zrun (tLe b) m i) (s + 8) - i).toNat i).foldl (fun a x => a * 256 + x) a := by
  intro m
  induction m with
  | zero =>
    intro fuel σ i a hT h5 h6 h7 h10 h0 h1 hf
    obtain ⟨f, rfl, _⟩ := zfuel hf
    have hL := hT.1
    have g7 := zg_md7 (σ := σ) hW hm
    rw [h7] at g7
    have pb := e10_byteAt hW hm hT h5 (i := i) (by omega) (by omega)
    rw [if_neg (by omega)] at pb
    have wi := e10_wi (G := zH E σ) (v := -1) (lo := 97) (hi := 122) (by omega) (by omega) (by omega) (by omega) (by omega) (by omega)
    rw [zb_dneg (by omega)] at wi
    have od : g_ob (zH E σ) (zL E 3 0 0) 10 = some () := by simp only [zz_mdo (σ := σ) hW hm]
    refine ⟨σ, ?_, zMf.rf, h6, rfl, rfl, by rw [h7]; rfl, ?_⟩
    · simp (disch := first | assumption | omega) only [f_X10_takesLetters_L5, g7, od, pb, wi, zz_some, zz_lit, zz_num, zI_lt, zI_le, zI_eq, zI_nat, zz_b, if_pos, if_neg, if_true, if_false]
    · rw [show (min (zrun (tLe b) 0 i) (s + 8) - i).toNat = 0 by simp only [zrun]; omega]
      exact h10
  | succ m ih =>
    intro fuel σ i a hT h5 h6 h7 h10 h0 h1 hf
    obtain ⟨f, rfl, hf2⟩ := zfuel hf
    have hL := hT.1
    have g7 := zg_md7 (σ := σ) hW hm
    rw [h7] at g7
    have g6 := zg_md6 (σ := σ) hW hm
    rw [h6] at g6
    have g10 := zg_md10 (σ := σ) hW hm
    rw [h10] at g10
    have hb := (hT.2 i (by omega) (by omega)).1
    have pb := e10_byteAt hW hm hT h5 (i := i) (by omega) (by omega)
    rw [if_pos (by omega)] at pb
    have wi := e10_wi (G := zH E σ) (v := b i) (lo := 97) (hi := 122) (by omega) (by omega) (by omega) (by omega) (by omega) (by omega)
    have od : g_ob (zH E σ) (zL E 3 0 0) 10 = some () := by simp only [zz_mdo (σ := σ) hW hm]
    have hle : zb (decide (97 ≤ b i ∧ b i ≤ 122)) = zb (tLe b i) := rfl
    rw [hle] at wi
    rw [zrun]
    by_cases c : tLe b i = true
    · rw [zb_pos c] at wi
      simp only [if_pos c]
      obtain ⟨a', ha'⟩ : ∃ a' : Int, a' = if 8 ≤ i - s then a else a * 256 + b i := ⟨_, rfl⟩
      have hJ : f_X10_takesLetters_J62 (f_X10_takesLetters_L5 f) (zH E σ) (zL E 3 0 0) (zL E 3 0 0) (zJ a') = f_X10_takesLetters_L5 f (zH E (zs (zs σ 3 0 0 10 a') 3 0 0 7 (i + 1))) (zL E 3 0 0) := by
        have p10 := zp_md10 (σ := σ) hW hm a'
        have q7 := zg_md7 (σ := zs σ 3 0 0 10 a') hW hm
        rw [zs_at, if_neg (by omega), h7] at q7
        have p7 := zp_md7 (σ := zs σ 3 0 0 10 a') hW hm (i + 1)
        simp (disch := first | assumption | omega) only [f_X10_takesLetters_J62, p10, q7, p7, zz_some, zz_lit, zz_num, zI_lt, zI_le, zI_eq, zI_nat, zz_b, if_pos, if_neg, if_true, if_false]
      obtain ⟨σ', y1, y2, y3, y4, y5, y6, y7⟩ := ih f (zs (zs σ 3 0 0 10 a') 3 0 0 7 (i + 1)) (i + 1) a' (hT.cg (by rw [zs_ne (by omega), zs_ne (by omega)])) (by rw [zs_at, if_neg (by omega), zs_at, if_neg (by omega)]; exact h5) (by rw [zs_at, if_neg (by omega), zs_at, if_neg (by omega)]; exact h6) (by rw [zs_at, if_pos rfl]) (by rw [zs_at, if_neg (by omega), zs_at, if_pos rfl]) (by omega) (by omega) (by omega)
      refine ⟨σ', ?_, ((zMf.s (by omega) (by omega)).tr (zMf.s (by omega) (by omega))).tr y2, y3, ?_, ?_, y6, ?_⟩
      · rw [← y1, ← hJ]
        by_cases c8 : 8 ≤ i - s
        · rw [if_pos c8] at ha'
          subst ha'
          simp (disch := first | assumption | omega) only [f_X10_takesLetters_L5, g7, g6, g10, od, pb, wi, c8, zz_some, zz_lit, zz_num, zI_lt, zI_le, zI_eq, zI_nat, zz_b, if_pos, if_neg, if_true, if_false]
        · rw [if_neg c8] at ha'
          have ho := zJ_or (a := a) (x := b i) hb.1 (by omega)
          rw [← ha'] at ho
          simp (disch := first | assumption | omega) only [f_X10_takesLetters_L5, g7, g6, g10, od, pb, wi, c8, ho, zz_some, zz_lit, zz_num, zI_lt, zI_le, zI_eq, zI_nat, zz_b, if_pos, if_neg, if_true, if_false]
      · rw [y4, zs_at, if_neg (by omega), zs_at, if_neg (by omega)]
      · rw [y5, zs_at, if_neg (by omega), zs_at, if_neg (by omega)]
      · rw [y7]
        have hz := zrun_rng (tLe b) m (i + 1)
        by_cases c8 : 8 ≤ i - s
        · rw [if_pos c8] at ha'
          rw [show (min (zrun (tLe b) m (i + 1)) (s + 8) - (i + 1)).toNat = 0 by omega, show (min (zrun (tLe b) m (i + 1)) (s + 8) - i).toNat = 0 by omega, ha']
          rfl
        · rw [if_neg c8] at ha'
          rw [show (min (zrun (tLe b) m (i + 1)) (s + 8) - i).toNat = (min (zrun (tLe b) m (i + 1)) (s + 8) - (i + 1)).toNat + 1 by omega, ha']
          rfl
    · rw [zb_neg (by simpa using c)] at wi
      simp only [if_neg c]
      refine ⟨σ, ?_, zMf.rf, h6, rfl, rfl, h7, ?_⟩
      · simp (disch := first | assumption | omega) only [f_X10_takesLetters_L5, g7, od, pb, wi, zz_some, zz_lit, zz_num, zI_lt, zI_le, zI_eq, zI_nat, zz_b, if_pos, if_neg, if_true, if_false]
      · rw [show (min i (s + 8) - i).toNat = 0 by omega]
        exact h10
theorem e10_takesLetters (hW : zWF E) (hm : zU E 3 0 = true) (hT : zTm σ b L) (h5 : σ 3 0 0 5 = L) {s : Int} (hs : 0 ≤ s) (hsL : s ≤ L) (h6 : σ 3 0 0 6 = s) (h7 : σ 3 0 0 7 = s) : ∃ σ', f_X10_takesLetters (zH E σ) (zL E 3 0 0) = some (zH E σ') ∧ zMf σ σ' ∧ σ' 3 0 0 6 = s ∧ σ' 3 0 0 8 = σ 3 0 0 8 ∧ σ' 3 0 0 9 = σ 3 0 0 9 ∧ σ' 3 0 0 7 = zrun (tLe b) (L - s).toNat s ∧ σ' 3 0 0 10 = zw8 (tLs b (min (zrun (tLe b) (L - s).toNat s - s) 8).toNat s) := by
  have hL := hT.1
  obtain ⟨σ', y1, y2, y3, y4, y5, y6, y7⟩ := e10_let_L (b := b) (L := L) hW hm hs (L - s).toNat g_N (zs σ 3 0 0 10 0) s 0 (hT.cg (zs_ne (by omega))) (by rw [zs_at, if_neg (by omega)]; exact h5) (by rw [zs_at, if_neg (by omega)]; exact h6) (by rw [zs_at, if_neg (by omega)]; exact h7) (by rw [zs_at, if_pos rfl]) (Int.le_refl _) (by omega) (by unfold g_N; omega)
  have e0 : (0 : Int64) = zJ 0 := rfl
  have p10 := zp_md10 (σ := σ) hW hm 0
  refine ⟨σ', ?_, (zMf.s (by omega) (by omega)).tr y2, y3, ?_, ?_, y6, ?_⟩
  · simp (disch := first | assumption | omega) only [f_X10_takesLetters, e0, p10, y1, zz_some, zz_lit, zz_num, zI_lt, zI_le, zI_eq, zI_nat, zz_b, if_pos, if_neg, if_true, if_false]
  · rw [y4, zs_at, if_neg (by omega)]
  · rw [y5, zs_at, if_neg (by omega)]
  · rw [y7, show min (zrun (tLe b) (L - s).toNat s) (s + 8) - s = min (zrun (tLe b) (L - s).toNat s - s) 8 by omega]
    rfl
theorem e10_num_L (hW : zWF E) (hm : zU E 3 0 = true) {s : Int} (hs : 0 ≤ s) : ∀ (m fuel : Nat) (σ : zW) (i a : Int), zTm σ b L → σ 3 0 0 5 = L → σ 3 0 0 6 = s → σ 3 0 0 7 = i → σ 3 0 0 9 = a → s ≤ i → i + m = L → m < fuel → ∃ σ', f_X10_advance_L126 fuel (zH E σ) (zL E 3 0 0) = some (zH E σ') ∧ zMf σ σ' ∧ σ' 3 0 0 6 = s ∧ σ' 3 0 0 7 = zrun (tDi b) m i ∧ σ' 3 0 0 8 = (if zrun (tDi b) m i - s ≤ 3 then 2 else 4) ∧ σ' 3 0 0 9 = d10 a (tLs b (min (zrun (tDi b) m i) (s + 3) - i).toNat i) := by
  intro m
  induction m with
  | zero =>
    intro fuel σ i a hT h5 h6 h7 h9 h0 h1 hf
    obtain ⟨f, rfl, _⟩ := zfuel hf
    have hL := hT.1
    have g7 := zg_md7 (σ := σ) hW hm
    rw [h7] at g7
    have g6 := zg_md6 (σ := σ) hW hm
    rw [h6] at g6
    have pb := e10_byteAt hW hm hT h5 (i := i) (by omega) (by omega)
    rw [if_neg (by omega)] at pb
    have wi := e10_wi (G := zH E σ) (v := -1) (lo := 48) (hi := 57) (by omega) (by omega) (by omega) (by omega) (by omega) (by omega)
    rw [zb_dneg (by omega)] at wi
    have od : g_ob (zH E σ) (zL E 3 0 0) 10 = some () := by simp only [zz_mdo (σ := σ) hW hm]
    rw [show zrun (tDi b) 0 i = i from rfl]
    rw [show (min i (s + 3) - i).toNat = 0 by omega]
    by_cases c : i - s ≤ 3
    · have p8 := zp_md8 (σ := σ) hW hm 2
      refine ⟨zs σ 3 0 0 8 2, ?_, zMf.s (by omega) (by omega), ?_, ?_, ?_, ?_⟩
      · simp (disch := first | assumption | omega) only [f_X10_advance_L126, g7, g6, od, pb, wi, c, p8, zz_some, zz_lit, zz_num, zI_lt, zI_le, zI_eq, zI_nat, zz_b, if_pos, if_neg, if_true, if_false]
      · rw [zs_at, if_neg (by omega)]; exact h6
      · rw [zs_at, if_neg (by omega)]; exact h7
      · rw [zs_at, if_pos rfl]; first | rw [if_pos c] | rw [if_neg c]
      · rw [zs_at, if_neg (by omega)]; exact h9
    · have p8 := zp_md8 (σ := σ) hW hm 4
      refine ⟨zs σ 3 0 0 8 4, ?_, zMf.s (by omega) (by omega), ?_, ?_, ?_, ?_⟩
      · simp (disch := first | assumption | omega) only [f_X10_advance_L126, g7, g6, od, pb, wi, c, p8, zz_some, zz_lit, zz_num, zI_lt, zI_le, zI_eq, zI_nat, zz_b, if_pos, if_neg, if_true, if_false]
      · rw [zs_at, if_neg (by omega)]; exact h6
      · rw [zs_at, if_neg (by omega)]; exact h7
      · rw [zs_at, if_pos rfl]; first | rw [if_pos c] | rw [if_neg c]
      · rw [zs_at, if_neg (by omega)]; exact h9
  | succ m ih =>
    intro fuel σ i a hT h5 h6 h7 h9 h0 h1 hf
    obtain ⟨f, rfl, hf2⟩ := zfuel hf
    have hL := hT.1
    have g7 := zg_md7 (σ := σ) hW hm
    rw [h7] at g7
    have g6 := zg_md6 (σ := σ) hW hm
    rw [h6] at g6
    have g9 := zg_md9 (σ := σ) hW hm
    rw [h9] at g9
    have hb := (hT.2 i (by omega) (by omega)).1
    have pb := e10_byteAt hW hm hT h5 (i := i) (by omega) (by omega)
    rw [if_pos (by omega)] at pb
    have wi := e10_wi (G := zH E σ) (v := b i) (lo := 48) (hi := 57) (by omega) (by omega) (by omega) (by omega) (by omega) (by omega)
    have od : g_ob (zH E σ) (zL E 3 0 0) 10 = some () := by simp only [zz_mdo (σ := σ) hW hm]
    have hle : zb (decide (48 ≤ b i ∧ b i ≤ 57)) = zb (tDi b i) := rfl
    rw [hle] at wi
    rw [zrun]
    by_cases c : tDi b i = true
    · rw [zb_pos c] at wi
      simp only [if_pos c]
      obtain ⟨a', ha'⟩ : ∃ a' : Int, a' = if 3 ≤ i - s then a else a * 10 + (b i - 48) := ⟨_, rfl⟩
      have hJ : f_X10_advance_J184 (f_X10_advance_L126 f) (zH E σ) (zL E 3 0 0) (zL E 3 0 0) (zI a') = f_X10_advance_L126 f (zH E (zs (zs σ 3 0 0 9 a') 3 0 0 7 (i + 1))) (zL E 3 0 0) := by
        have p9 := zp_md9 (σ := σ) hW hm a'
        have q7 := zg_md7 (σ := zs σ 3 0 0 9 a') hW hm
        rw [zs_at, if_neg (by omega), h7] at q7
        have p7 := zp_md7 (σ := zs σ 3 0 0 9 a') hW hm (i + 1)
        simp (disch := first | assumption | omega) only [f_X10_advance_J184, p9, q7, p7, zz_some, zz_lit, zz_num, zI_lt, zI_le, zI_eq, zI_nat, zz_b, if_pos, if_neg, if_true, if_false]
      obtain ⟨σ', y1, y2, y3, y4, y5, y6⟩ := ih f (zs (zs σ 3 0 0 9 a') 3 0 0 7 (i + 1)) (i + 1) a' (hT.cg (by rw [zs_ne (by omega), zs_ne (by omega)])) (by rw [zs_at, if_neg (by omega), zs_at, if_neg (by omega)]; exact h5) (by rw [zs_at, if_neg (by omega), zs_at, if_neg (by omega)]; exact h6) (by rw [zs_at, if_pos rfl]) (by rw [zs_at, if_neg (by omega), zs_at, if_pos rfl]) (by omega) (by omega) (by omega)
      refine ⟨σ', ?_, ((zMf.s (by omega) (by omega)).tr (zMf.s (by omega) (by omega))).tr y2, y3, y4, y5, ?_⟩
      · rw [← y1, ← hJ]
        by_cases c8 : 3 ≤ i - s
        · rw [if_pos c8] at ha'
          subst ha'
          simp (disch := first | assumption | omega) only [f_X10_advance_L126, g7, g6, g9, od, pb, wi, c8, zz_some, zz_lit, zz_num, zI_lt, zI_le, zI_eq, zI_nat, zz_b, if_pos, if_neg, if_true, if_false]
        · rw [if_neg c8] at ha'
          rw [show a' = 10 * a + b i - 48 by omega]
          simp (disch := first | assumption | omega) only [f_X10_advance_L126, g7, g6, g9, od, pb, wi, c8, zz_some, zz_lit, zz_num, zI_lt, zI_le, zI_eq, zI_nat, zz_b, if_pos, if_neg, if_true, if_false]
      · rw [y6]
        have hz := zrun_rng (tDi b) m (i + 1)
        by_cases c8 : 3 ≤ i - s
        · rw [if_pos c8] at ha'
          rw [show (min (zrun (tDi b) m (i + 1)) (s + 3) - (i + 1)).toNat = 0 by omega, show (min (zrun (tDi b) m (i + 1)) (s + 3) - i).toNat = 0 by omega, ha']
          rfl
        · rw [if_neg c8] at ha'
          rw [show (min (zrun (tDi b) m (i + 1)) (s + 3) - i).toNat = (min (zrun (tDi b) m (i + 1)) (s + 3) - (i + 1)).toNat + 1 by omega, ha']
          rfl
    · rw [zb_neg (by simpa using c)] at wi
      simp only [if_neg c]
      rw [show (min i (s + 3) - i).toNat = 0 by omega]
      by_cases c8 : i - s ≤ 3
      · have p8 := zp_md8 (σ := σ) hW hm 2
        refine ⟨zs σ 3 0 0 8 2, ?_, zMf.s (by omega) (by omega), ?_, ?_, ?_, ?_⟩
        · simp (disch := first | assumption | omega) only [f_X10_advance_L126, g7, g6, od, pb, wi, c8, p8, zz_some, zz_lit, zz_num, zI_lt, zI_le, zI_eq, zI_nat, zz_b, if_pos, if_neg, if_true, if_false]
        · rw [zs_at, if_neg (by omega)]; exact h6
        · rw [zs_at, if_neg (by omega)]; exact h7
        · rw [zs_at, if_pos rfl]; split <;> omega
        · rw [zs_at, if_neg (by omega)]; exact h9
      · have p8 := zp_md8 (σ := σ) hW hm 4
        refine ⟨zs σ 3 0 0 8 4, ?_, zMf.s (by omega) (by omega), ?_, ?_, ?_, ?_⟩
        · simp (disch := first | assumption | omega) only [f_X10_advance_L126, g7, g6, od, pb, wi, c8, p8, zz_some, zz_lit, zz_num, zI_lt, zI_le, zI_eq, zI_nat, zz_b, if_pos, if_neg, if_true, if_false]
        · rw [zs_at, if_neg (by omega)]; exact h6
        · rw [zs_at, if_neg (by omega)]; exact h7
        · rw [zs_at, if_pos rfl]; split <;> omega
        · rw [zs_at, if_neg (by omega)]; exact h9
set_option maxHeartbeats 8000000 in
/-- what the reference does once it stands at a token's first byte -/
theorem e10_tok (hW : zWF E) (hm : zU E 3 0 = true) (hT : zTm σ b L) (h5 : σ 3 0 0 5 = L) {p s : Int} (hp : p ≤ L) (hs : tS b L p = s) (h0 : 0 ≤ s) (h7 : σ 3 0 0 7 = s) (hw : ¬ (s < L ∧ (b s = 32 ∨ b s = 10))) {f : Nat} : ∃ σ', f_X10_advance_L0 (f + 1) (zH E σ) (zL E 3 0 0) = some (zH E σ') ∧ zMf σ σ' ∧ zPm σ' b L p := by
  have hL := hT.1
  have hsr := tS_rng (b := b) hp
  rw [hs] at hsr
  have od : g_ob (zH E σ) (zL E 3 0 0) 10 = some () := by simp only [zz_mdo (σ := σ) hW hm]
  have g7 := zg_md7 (σ := σ) hW hm
  rw [h7] at g7
  have pb := e10_byteAt hW hm hT h5 (i := s) (by omega) (by omega)
  obtain ⟨v, hv⟩ : ∃ v, v = if s < L then b s else -1 := ⟨_, rfl⟩
  rw [← hv] at pb
  have hvr : -1 ≤ v ∧ v ≤ 255 ∧ (v = -1 ↔ L ≤ s) ∧ (s < L → v = b s) := by
    by_cases c : s < L
    · have := (hT.2 s h0 c).1
      rw [if_pos c] at hv
      omega
    · rw [if_neg c] at hv
      omega
  have v1 : ¬ v = 32 := fun h => hw ⟨by omega, Or.inl (by omega)⟩
  have v2 : ¬ v = 10 := fun h => hw ⟨by omega, Or.inr (by omega)⟩
  obtain ⟨σ1, h1⟩ : ∃ x, x = zs (zs σ 3 0 0 6 s) 3 0 0 9 0 := ⟨_, rfl⟩
  have p6 := zp_md6 (σ := σ) hW hm s
  have p9 := zp_md9 (σ := zs σ 3 0 0 6 s) hW hm 0
  rw [← h1] at p9
  have f1 : zMf σ σ1 := by rw [h1]; exact (zMf.s (by omega) (by omega)).tr (zMf.s (by omega) (by omega))
  have a6 : σ1 3 0 0 6 = s := by rw [h1, zs_at, if_neg (by omega), zs_at, if_pos rfl]
  have a9 : σ1 3 0 0 9 = 0 := by rw [h1, zs_at, if_pos rfl]
  have a7 : σ1 3 0 0 7 = s := by rw [h1, zs_at, if_neg (by omega), zs_at, if_neg (by omega)]; exact h7
  have a5 : σ1 3 0 0 5 = L := by rw [f1.2 5 (by omega)]; exact h5
  have hT1 := hT.f f1
  have od1 : g_ob (zH E σ1) (zL E 3 0 0) 10 = some () := by simp only [zz_mdo (σ := σ1) hW hm]
  have q7 := zg_md7 (σ := σ1) hW hm
  rw [a7] at q7
  have pb1 := e10_byteAt hW hm hT1 a5 (i := s) (by omega) (by omega)
  rw [← hv] at pb1
  have wl := e10_wi (G := zH E σ1) (v := v) (lo := 97) (hi := 122) (by omega) (by omega) (by omega) (by omega) (by omega) (by omega)
  have wd := e10_wi (G := zH E σ1) (v := v) (lo := 48) (hi := 57) (by omega) (by omega) (by omega) (by omega) (by omega) (by omega)
  unfold zPm tK
  rw [hs]
  by_cases c1 : L ≤ s
  · have eE : tE b L p = s := by unfold tE; rw [hs, if_pos c1]
    rw [if_pos c1, eE]
    have vm : v = -1 := by omega
    have p8 := zp_md8 (σ := σ1) hW hm 0
    refine ⟨zs σ1 3 0 0 8 0, ?_, f1.tr (zMf.s (by omega) (by omega)), ?_, ?_, ?_, fun h => absurd h (by omega), fun h => absurd h (by omega)⟩
    · simp (disch := first | assumption | omega) only [f_X10_advance_L0, g7, od, pb, v1, v2, p6, p9, q7, od1, pb1, vm, p8, zz_some, zz_lit, zz_num, zI_lt, zI_le, zI_eq, zI_nat, zz_b, if_pos, if_neg, if_true, if_false]
    · rw [zs_at, if_neg (by omega)]; exact a6
    · rw [zs_at, if_neg (by omega)]; exact a7
    · rw [zs_at, if_pos rfl]
  · rw [if_neg c1]
    have vb : v = b s := hvr.2.2.2 (by omega)
    have vm : ¬ v = -1 := by omega
    have el : zb (decide (97 ≤ v ∧ v ≤ 122)) = zb (tLe b s) := by rw [vb]; rfl
    have ed : zb (decide (48 ≤ v ∧ v ≤ 57)) = zb (tDi b s) := by rw [vb]; rfl
    rw [el] at wl
    rw [ed] at wd
    by_cases c2 : tLe b s = true
    · have eE : tE b L p = zrun (tLe b) (L - s).toNat s := by unfold tE; rw [hs, if_neg c1, if_pos c2]
      rw [zb_pos c2] at wl
      rw [if_pos c2]
      obtain ⟨σ2, y1, y2, y3, y4, y5, y6, y7⟩ := e10_takesLetters hW hm hT1 a5 h0 hsr.2 a6 a7
      rw [← eE] at y6 y7
      have her := tE_rng (b := b) hp
      have r7 := zg_md7 (σ := σ2) hW hm
      rw [y6] at r7
      have r6 := zg_md6 (σ := σ2) hW hm
      rw [y3] at r6
      by_cases c8 : tE b L p - s ≤ 8
      · have p8 := zp_md8 (σ := σ2) hW hm 1
        rw [if_pos c8]
        refine ⟨zs σ2 3 0 0 8 1, ?_, (f1.tr y2).tr (zMf.s (by omega) (by omega)), ?_, ?_, ?_, fun h => absurd h (by omega), fun h => ?_⟩
        · simp (disch := first | assumption | omega) only [f_X10_advance_L0, g7, od, pb, v1, v2, p6, p9, q7, od1, pb1, vm, wl, y1, r7, r6, c8, p8, zz_some, zz_lit, zz_num, zI_lt, zI_le, zI_eq, zI_nat, zz_b, if_pos, if_neg, if_true, if_false]
        · rw [zs_at, if_neg (by omega)]; exact y3
        · rw [zs_at, if_neg (by omega)]; exact y6
        · rw [zs_at, if_pos rfl]
        · rw [zs_at, if_neg (by omega), y7]
          unfold tW
          rw [hs]
      · have p8 := zp_md8 (σ := σ2) hW hm 4
        rw [if_neg c8]
        refine ⟨zs σ2 3 0 0 8 4, ?_, (f1.tr y2).tr (zMf.s (by omega) (by omega)), ?_, ?_, ?_, fun h => absurd h (by omega), fun h => absurd h (by omega)⟩
        · simp (disch := first | assumption | omega) only [f_X10_advance_L0, g7, od, pb, v1, v2, p6, p9, q7, od1, pb1, vm, wl, y1, r7, r6, c8, p8, zz_some, zz_lit, zz_num, zI_lt, zI_le, zI_eq, zI_nat, zz_b, if_pos, if_neg, if_true, if_false]
        · rw [zs_at, if_neg (by omega)]; exact y3
        · rw [zs_at, if_neg (by omega)]; exact y6
        · rw [zs_at, if_pos rfl]
    · rw [zb_neg (by simpa using c2)] at wl
      rw [if_neg c2]
      by_cases c3 : tDi b s = true
      · have eE : tE b L p = zrun (tDi b) (L - s).toNat s := by unfold tE; rw [hs, if_neg c1, if_neg c2, if_pos c3]
        rw [zb_pos c3] at wd
        rw [if_pos c3]
        obtain ⟨σ2, y1, y2, y3, y4, y5, y6⟩ := e10_num_L (b := b) (L := L) hW hm h0 (L - s).toNat g_N σ1 s 0 hT1 a5 a6 a7 a9 (Int.le_refl _) (by omega) (by unfold g_N; omega)
        rw [← eE] at y4 y5 y6
        refine ⟨σ2, ?_, f1.tr y2, y3, y4, y5, fun h => ?_, fun h => ?_⟩
        · simp (disch := first | assumption | omega) only [f_X10_advance_L0, g7, od, pb, v1, v2, p6, p9, q7, od1, pb1, vm, wl, wd, y1, zz_some, zz_lit, zz_num, zI_lt, zI_le, zI_eq, zI_nat, zz_b, if_pos, if_neg, if_true, if_false]
        · rw [y6]
          unfold tV
          rw [hs, show min (tE b L p) (s + 3) - s = min (tE b L p - s) 3 by omega]
        · split at h <;> omega
      · have eE : tE b L p = s + 1 := by unfold tE; rw [hs, if_neg c1, if_neg c2, if_neg c3]
        rw [zb_neg (by simpa using c3)] at wd
        rw [if_neg c3, eE]
        have p7 := zp_md7 (σ := σ1) hW hm (s + 1)
        rw [← vb]
        by_cases c4 : v = 59
        · rw [if_pos c4]
          rw [c4] at wl wd
          have p8 := zp_md8 (σ := zs σ1 3 0 0 7 (s + 1)) hW hm 3
          refine ⟨zs (zs σ1 3 0 0 7 (s + 1)) 3 0 0 8 3, ?_, (f1.tr (zMf.s (by omega) (by omega))).tr (zMf.s (by omega) (by omega)), ?_, ?_, ?_, fun h => absurd h (by omega), fun h => absurd h (by omega)⟩
          · simp (disch := first | assumption | omega) only [f_X10_advance_L0, g7, od, pb, v1, v2, p6, p9, q7, od1, pb1, vm, wl, wd, p7, c4, p8, zz_some, zz_lit, zz_num, zI_lt, zI_le, zI_eq, zI_nat, zz_b, if_pos, if_neg, if_true, if_false]
          · rw [zs_at, if_neg (by omega), zs_at, if_neg (by omega)]; exact a6
          · rw [zs_at, if_neg (by omega), zs_at, if_pos rfl]
          · rw [zs_at, if_pos rfl]
        · rw [if_neg c4]
          have p8 := zp_md8 (σ := zs σ1 3 0 0 7 (s + 1)) hW hm 4
          refine ⟨zs (zs σ1 3 0 0 7 (s + 1)) 3 0 0 8 4, ?_, (f1.tr (zMf.s (by omega) (by omega))).tr (zMf.s (by omega) (by omega)), ?_, ?_, ?_, fun h => absurd h (by omega), fun h => absurd h (by omega)⟩
          · simp (disch := first | assumption | omega) only [f_X10_advance_L0, g7, od, pb, v1, v2, p6, p9, q7, od1, pb1, vm, wl, wd, p7, c4, p8, zz_some, zz_lit, zz_num, zI_lt, zI_le, zI_eq, zI_nat, zz_b, if_pos, if_neg, if_true, if_false]
          · rw [zs_at, if_neg (by omega), zs_at, if_neg (by omega)]; exact a6
          · rw [zs_at, if_neg (by omega), zs_at, if_pos rfl]
          · rw [zs_at, if_pos rfl]
theorem tS_step {p : Int} (hp : p < L) (h : tWh b p = true) : tS b L (p + 1) = tS b L p := by
  unfold tS
  rw [show (L - p).toNat = (L - (p + 1)).toNat + 1 by omega, zrun, if_pos h]
theorem tS_stop {p : Int} (h : ¬ (p < L ∧ tWh b p = true)) : tS b L p = p := by
  unfold tS
  by_cases hp : p < L
  · rw [show (L - p).toNat = (L - (p + 1)).toNat + 1 by omega, zrun, if_neg (fun h2 => h ⟨hp, h2⟩)]
  · rw [show (L - p).toNat = 0 by omega, zrun]
theorem zPm.st {p p2 : Int} (h : zPm σ b L p) (e : tS b L p = tS b L p2) : zPm σ b L p2 := by
  unfold zPm tV tW tK at *
  have e2 : tE b L p = tE b L p2 := by unfold tE; rw [e]
  rw [e, e2] at h
  exact h
theorem e10_adv_L (hW : zWF E) (hm : zU E 3 0 = true) : ∀ (m fuel : Nat) (σ : zW) (p : Int), zTm σ b L → σ 3 0 0 5 = L → σ 3 0 0 7 = p → 0 ≤ p → p + m = L → m < fuel → ∃ σ', f_X10_advance_L0 fuel (zH E σ) (zL E 3 0 0) = some (zH E σ') ∧ zMf σ σ' ∧ zPm σ' b L p := by
  intro m
  induction m with
  | zero =>
    intro fuel σ p hT h5 h7 h0 h1 hf
    obtain ⟨f, rfl, _⟩ := zfuel hf
    exact e10_tok hW hm hT h5 (by omega) (tS_stop (by omega)) h0 h7 (by omega)
  | succ m ih =>
    intro fuel σ p hT h5 h7 h0 h1 hf
    obtain ⟨f, rfl, hf2⟩ := zfuel hf
    by_cases c : tWh b p = true
    · have hL := hT.1
      have od : g_ob (zH E σ) (zL E 3 0 0) 10 = some () := by simp only [zz_mdo (σ := σ) hW hm]
      have g7 := zg_md7 (σ := σ) hW hm
      rw [h7] at g7
      have hb := (hT.2 p (by omega) (by omega)).1
      have pb := e10_byteAt hW hm hT h5 (i := p) (by omega) (by omega)
      rw [if_pos (by omega)] at pb
      have p7 := zp_md7 (σ := σ) hW hm (p + 1)
      obtain ⟨σ', y1, y2, y3⟩ := ih f (zs σ 3 0 0 7 (p + 1)) (p + 1) (hT.cg (zs_ne (by omega))) (by rw [zs_at, if_neg (by omega)]; exact h5) (by rw [zs_at, if_pos rfl]) (by omega) (by omega) (by omega)
      refine ⟨σ', ?_, (zMf.s (by omega) (by omega)).tr y2, y3.st (tS_step (by omega) c)⟩
      by_cases c1 : b p = 32
      · simp (disch := first | assumption | omega) only [f_X10_advance_L0, g7, od, pb, c1, p7, y1, zz_some, zz_lit, zz_num, zI_lt, zI_le, zI_eq, zI_nat, zz_b, if_pos, if_neg, if_true, if_false]
      · have c2 : b p = 10 := by
          unfold tWh at c
          simp at c
          omega
        simp (disch := first | assumption | omega) only [f_X10_advance_L0, g7, od, pb, c1, c2, p7, y1, zz_some, zz_lit, zz_num, zI_lt, zI_le, zI_eq, zI_nat, zz_b, if_pos, if_neg, if_true, if_false]
    · refine e10_tok hW hm hT h5 (by omega) (tS_stop (fun h => c h.2)) h0 h7 (fun h => c ?_)
      unfold tWh
      simpa using h.2
theorem e10_advance (hW : zWF E) (hm : zU E 3 0 = true) (hT : zTm σ b L) (h5 : σ 3 0 0 5 = L) {p : Int} (h7 : σ 3 0 0 7 = p) (hp0 : 0 ≤ p) (hp : p ≤ L) : ∃ σ', f_X10_advance (zH E σ) (zL E 3 0 0) = some (zH E σ') ∧ zMf σ σ' ∧ zPm σ' b L p := by
  have hL := hT.1
  exact e10_adv_L hW hm (L - p).toNat g_N σ p hT h5 h7 hp0 (by omega) (by unfold g_N; omega)
end zTxt

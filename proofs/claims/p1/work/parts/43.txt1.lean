/-! Texts: the tokens of a text, and the class's way through them. -/
theorem zs_zs {σ : zW} {k d c : Nat} {i v w : Int} : zs (zs σ k d c i v) k d c i w = zs σ k d c i w := by
  funext k' d' c' i'
  unfold zs
  by_cases h : k' = k ∧ d' = d ∧ c' = c ∧ i' = i
  · rw [if_pos h, if_pos h]
  · rw [if_neg h, if_neg h, if_neg h]
theorem zs_self {σ : zW} {k d c : Nat} {i v : Int} (h : σ k d c i = v) : zs σ k d c i v = σ := by
  funext k' d' c' i'
  unfold zs
  by_cases h' : k' = k ∧ d' = d ∧ c' = c ∧ i' = i
  · rw [if_pos h', ← h, h'.1, h'.2.1, h'.2.2.1, h'.2.2.2]
  · rw [if_neg h']
def zrun (P : Int → Bool) : Nat → Int → Int
  | 0, p => p
  | m + 1, p => if P p = true then zrun P m (p + 1) else p
theorem zrun_rng (P : Int → Bool) : ∀ (m : Nat) (p : Int), p ≤ zrun P m p ∧ zrun P m p ≤ p + m := by
  intro m
  induction m with
  | zero => intro p; exact ⟨Int.le_refl _, by simp [zrun]⟩
  | succ m ih =>
    intro p
    rw [zrun]
    split
    · have := ih (p + 1)
      omega
    · omega
def tWh (b : Int → Int) (p : Int) : Bool := decide (b p = 32 ∨ b p = 10)
def tLe (b : Int → Int) (p : Int) : Bool := decide (97 ≤ b p ∧ b p ≤ 122)
def tDi (b : Int → Int) (p : Int) : Bool := decide (48 ≤ b p ∧ b p ≤ 57)
def tLs (b : Int → Int) : Nat → Int → List Int
  | 0, _ => []
  | m + 1, s => b s :: tLs b m (s + 1)
def tS (b : Int → Int) (L p : Int) : Int := zrun (tWh b) (L - p).toNat p
def tE (b : Int → Int) (L p : Int) : Int := if L ≤ tS b L p then tS b L p else if tLe b (tS b L p) = true then zrun (tLe b) (L - tS b L p).toNat (tS b L p) else if tDi b (tS b L p) = true then zrun (tDi b) (L - tS b L p).toNat (tS b L p) else tS b L p + 1
def tK (b : Int → Int) (L p : Int) : Int := if L ≤ tS b L p then 0 else if tLe b (tS b L p) = true then (if tE b L p - tS b L p ≤ 8 then 1 else 4) else if tDi b (tS b L p) = true then (if tE b L p - tS b L p ≤ 3 then 2 else 4) else if b (tS b L p) = 59 then 3 else 4
def tW (b : Int → Int) (L p : Int) : List Int := tLs b (min (tE b L p - tS b L p) 8).toNat (tS b L p)
def d10 (a : Int) (l : List Int) : Int := l.foldl (fun a x => a * 10 + (x - 48)) a
def tV (b : Int → Int) (L p : Int) : Int := d10 0 (tLs b (min (tE b L p - tS b L p) 3).toNat (tS b L p))
theorem tS_rng {b : Int → Int} {L p : Int} (h : p ≤ L) : p ≤ tS b L p ∧ tS b L p ≤ L := by
  have := zrun_rng (tWh b) (L - p).toNat p
  unfold tS
  omega
theorem zrun_one {P : Int → Bool} {m : Nat} {p : Int} (h : P p = true) : p + 1 ≤ zrun P (m + 1) p := by
  rw [zrun, if_pos h]
  exact (zrun_rng P m (p + 1)).1
theorem tE_rng {b : Int → Int} {L p : Int} (h : p ≤ L) : tS b L p ≤ tE b L p ∧ tE b L p ≤ L ∧ (tS b L p < L → tS b L p + 1 ≤ tE b L p) := by
  have h1 := tS_rng (b := b) h
  unfold tE
  by_cases h2 : L ≤ tS b L p
  · rw [if_pos h2]
    omega
  · rw [if_neg h2]
    obtain ⟨m, hm⟩ : ∃ m : Nat, (L - tS b L p).toNat = m + 1 := ⟨(L - tS b L p).toNat - 1, by omega⟩
    by_cases h3 : tLe b (tS b L p) = true
    · rw [if_pos h3, hm]
      have := zrun_rng (tLe b) (m + 1) (tS b L p)
      have := zrun_one (m := m) h3
      omega
    · rw [if_neg h3]
      by_cases h4 : tDi b (tS b L p) = true
      · rw [if_pos h4, hm]
        have := zrun_rng (tDi b) (m + 1) (tS b L p)
        have := zrun_one (m := m) h4
        omega
      · rw [if_neg h4]
        omega
theorem tK_0 {b : Int → Int} {L p : Int} (h : p ≤ L) : tK b L p = 0 ↔ L ≤ tS b L p := by
  unfold tK
  split
  · simp [*]
  · split
    · split <;> simp [*]
    · split
      · split <;> simp [*]
      · split <;> simp [*]
theorem tK_E {b : Int → Int} {L p : Int} (h : p ≤ L) (hk : tK b L p ≠ 0) : p + 1 ≤ tE b L p := by
  have h0 := mt (tK_0 (b := b) h).mpr hk
  have := tE_rng (b := b) h
  have := tS_rng (b := b) h
  omega
theorem tLs_len (b : Int → Int) : ∀ (m : Nat) (s : Int), (tLs b m s).length = m := by
  intro m
  induction m with
  | zero => intro s; rfl
  | succ m ih => intro s; simp [tLs, ih]
theorem zrun_all {P : Int → Bool} : ∀ (m : Nat) (s j : Int), s ≤ j → j < zrun P m s → P j = true := by
  intro m
  induction m with
  | zero => intro s j h0 h1; simp [zrun] at h1; omega
  | succ m ih =>
    intro s j h0 h1
    rw [zrun] at h1
    by_cases h : P s = true
    · rw [if_pos h] at h1
      by_cases hj : j = s
      · rw [hj]; exact h
      · exact ih (s + 1) j (by omega) h1
    · rw [if_neg h] at h1
      omega
theorem tLs_mem {b : Int → Int} : ∀ (m : Nat) (s x : Int), x ∈ tLs b m s → ∃ j, s ≤ j ∧ j < s + m ∧ x = b j := by
  intro m
  induction m with
  | zero => intro s x h; simp [tLs] at h
  | succ m ih =>
    intro s x h
    rcases List.mem_cons.mp h with h | h
    · exact ⟨s, by omega, by omega, h⟩
    · obtain ⟨j, h1, h2, h3⟩ := ih (s + 1) x h
      exact ⟨j, by omega, by omega, h3⟩
theorem tK_1 {b : Int → Int} {L p : Int} (h : p ≤ L) (hk : tK b L p = 1) : zWd (tW b L p) := by
  have hs := tS_rng (b := b) h
  have he := tE_rng (b := b) h
  unfold tK at hk
  by_cases h1 : L ≤ tS b L p
  · rw [if_pos h1] at hk; omega
  · rw [if_neg h1] at hk
    by_cases h2 : tLe b (tS b L p) = true
    · rw [if_pos h2] at hk
      by_cases h3 : tE b L p - tS b L p ≤ 8
      · have e : tE b L p = zrun (tLe b) (L - tS b L p).toNat (tS b L p) := by
          unfold tE
          rw [if_neg h1, if_pos h2]
        unfold zWd tW
        rw [tLs_len]
        refine ⟨by omega, by omega, fun x hx => ?_⟩
        obtain ⟨j, j1, j2, j3⟩ := tLs_mem _ _ _ hx
        have := zrun_all (P := tLe b) (L - tS b L p).toNat (tS b L p) j j1 (by rw [← e]; omega)
        unfold tLe at this
        rw [j3]
        simpa using this
      · rw [if_neg h3] at hk; omega
    · rw [if_neg h2] at hk
      split at hk
      · split at hk <;> omega
      · split at hk <;> omega
theorem d10_rng : ∀ (l : List Int) (a : Int), (∀ x ∈ l, 48 ≤ x ∧ x ≤ 57) → 0 ≤ a → 0 ≤ d10 a l ∧ d10 a l < (a + 1) * 10 ^ l.length := by
  intro l
  induction l with
  | nil => intro a _ h; simp [d10]; omega
  | cons x l ih =>
    intro a hx h
    have hx0 := hx x (List.mem_cons_self ..)
    have := ih (a * 10 + (x - 48)) (fun y hy => hx y (List.mem_cons_of_mem _ hy)) (by omega)
    show 0 ≤ d10 (a * 10 + (x - 48)) l ∧ d10 (a * 10 + (x - 48)) l < _
    refine ⟨this.1, Int.lt_of_lt_of_le this.2 ?_⟩
    rw [List.length_cons, Int.pow_succ, Int.mul_comm (10 ^ l.length) 10, ← Int.mul_assoc]
    exact Int.mul_le_mul_of_nonneg_right (by omega) (Int.pow_nonneg (by omega))
theorem tK_2 {b : Int → Int} {L p : Int} (h : p ≤ L) (hk : tK b L p = 2) : 0 ≤ tV b L p ∧ tV b L p < 1000 := by
  have hs := tS_rng (b := b) h
  have he := tE_rng (b := b) h
  unfold tK at hk
  by_cases h1 : L ≤ tS b L p
  · rw [if_pos h1] at hk; omega
  · rw [if_neg h1] at hk
    by_cases h2 : tLe b (tS b L p) = true
    · rw [if_pos h2] at hk
      split at hk <;> omega
    · rw [if_neg h2] at hk
      by_cases h3 : tDi b (tS b L p) = true
      · rw [if_pos h3] at hk
        by_cases h4 : tE b L p - tS b L p ≤ 3
        · have e : tE b L p = zrun (tDi b) (L - tS b L p).toNat (tS b L p) := by
            unfold tE
            rw [if_neg h1, if_neg h2, if_pos h3]
          unfold tV
          have hd := d10_rng (tLs b (min (tE b L p - tS b L p) 3).toNat (tS b L p)) 0 (fun x hx => by
            obtain ⟨j, j1, j2, j3⟩ := tLs_mem _ _ _ hx
            have := zrun_all (P := tDi b) (L - tS b L p).toNat (tS b L p) j j1 (by rw [← e]; omega)
            unfold tDi at this
            rw [j3]
            simpa using this) (by omega)
          rw [tLs_len] at hd
          obtain ⟨k, hk⟩ : ∃ k : Nat, k = (min (tE b L p - tS b L p) 3).toNat := ⟨_, rfl⟩
          rw [← hk] at hd
          have hk3 : k = 0 ∨ k = 1 ∨ k = 2 ∨ k = 3 := by omega
          rw [← hk]
          refine ⟨hd.1, ?_⟩
          have := hd.2
          rcases hk3 with h | h | h | h <;> rw [h] at this ⊢ <;> omega
        · rw [if_neg h4] at hk; omega
      · rw [if_neg h3] at hk
        split at hk <;> omega
/-- the class's bytes are b up to L -/
def zTc (σ : zW) (b : Int → Int) (L : Int) : Prop := L ≤ 600 ∧ ∀ i, 0 ≤ i → i < L → (0 ≤ b i ∧ b i ≤ 255) ∧ σ 2 0 2 i = b i
theorem zTc.cg {σ σ' : zW} {b : Int → Int} {L : Int} (h : zTc σ b L) (e : σ' 2 0 2 = σ 2 0 2) : zTc σ' b L := ⟨h.1, fun i h0 h1 => by rw [e]; exact h.2 i h0 h1⟩
section zTxt
variable {E : zE} {σ : zW} {b : Int → Int} {L : Int}
theorem e3_byteAt (hW : zWF E) (hm : zU E 2 0 = true) (hT : zTc σ b L) {i : Int} (h0 : 0 ≤ i) (h1 : i < L) : f_X3_byteAt (zH E σ) (zL E 2 0 1) (zI i) = some (zI (b i)) := by
  have hL := hT.1
  have p := zX_at (σ := σ) (n := 600) hW hm (k := 2) (d := 0) (c := 2) rfl (by decide) (i := i) (o := -1) (by omega) (by omega)
  rw [if_pos ⟨h0, by omega⟩, (hT.2 i h0 h1).2] at p
  have ip := zz_inpo (σ := σ) hW hm

  simp (disch := first | assumption | omega) only [f_X3_byteAt, ip, p, zz_some, zz_lit, zz_num, zI_lt, zI_le, zI_eq, zI_nat, zz_b, if_pos, if_neg, if_true, if_false]
theorem e3_hasLetterAt (hW : zWF E) (hm : zU E 2 0 = true) (hT : zTc σ b L) {i : Int} (h0 : 0 ≤ i) (h1 : i < L) : f_X3_hasLetterAt (zH E σ) (zL E 2 0 1) (zI i) = some (zI (zb (tLe b i))) := by
  have p := e3_byteAt hW hm hT h0 h1
  have hb := (hT.2 i h0 h1).1
  have ip := zz_inpo (σ := σ) hW hm
  have e1 : (97 : Int32) = zI 97 := rfl
  have e2 : (122 : Int32) = zI 122 := rfl
  unfold tLe
  by_cases c1 : b i < 97
  · rw [zb_dneg (by omega)]
    simp (disch := first | assumption | omega) only [f_X3_hasLetterAt, ip, p, e1, e2, c1, zz_some, zz_lit, zz_num, zI_lt, zI_le, zI_eq, zI_nat, zz_b, if_pos, if_neg, if_true, if_false]
  · by_cases c2 : 122 < b i
    · rw [zb_dneg (by omega)]
      simp (disch := first | assumption | omega) only [f_X3_hasLetterAt, ip, p, e1, e2, c1, c2, zz_some, zz_lit, zz_num, zI_lt, zI_le, zI_eq, zI_nat, zz_b, if_pos, if_neg, if_true, if_false]
    · rw [zb_dpos (by omega)]
      simp (disch := first | assumption | omega) only [f_X3_hasLetterAt, ip, p, e1, e2, c1, c2, zz_some, zz_lit, zz_num, zI_lt, zI_le, zI_eq, zI_nat, zz_b, if_pos, if_neg, if_true, if_false]
theorem e3_hasDigitAt (hW : zWF E) (hm : zU E 2 0 = true) (hT : zTc σ b L) {i : Int} (h0 : 0 ≤ i) (h1 : i < L) : f_X3_hasDigitAt (zH E σ) (zL E 2 0 1) (zI i) = some (zI (zb (tDi b i))) := by
  have p := e3_byteAt hW hm hT h0 h1
  have hb := (hT.2 i h0 h1).1
  have ip := zz_inpo (σ := σ) hW hm
  have e1 : (48 : Int32) = zI 48 := rfl
  have e2 : (57 : Int32) = zI 57 := rfl
  unfold tDi
  by_cases c1 : b i < 48
  · rw [zb_dneg (by omega)]
    simp (disch := first | assumption | omega) only [f_X3_hasDigitAt, ip, p, e1, e2, c1, zz_some, zz_lit, zz_num, zI_lt, zI_le, zI_eq, zI_nat, zz_b, if_pos, if_neg, if_true, if_false]
  · by_cases c2 : 57 < b i
    · rw [zb_dneg (by omega)]
      simp (disch := first | assumption | omega) only [f_X3_hasDigitAt, ip, p, e1, e2, c1, c2, zz_some, zz_lit, zz_num, zI_lt, zI_le, zI_eq, zI_nat, zz_b, if_pos, if_neg, if_true, if_false]
    · rw [zb_dpos (by omega)]
      simp (disch := first | assumption | omega) only [f_X3_hasDigitAt, ip, p, e1, e2, c1, c2, zz_some, zz_lit, zz_num, zI_lt, zI_le, zI_eq, zI_nat, zz_b, if_pos, if_neg, if_true, if_false]
theorem e3_word_L (hW : zWF E) (hm : zU E 2 0 = true) (hT : zTc σ b L) {s e : Int} (hs : 0 ≤ s) (he : e ≤ L) : ∀ (m fuel : Nat) (i a : Int), s ≤ i → i + m = min e (s + 8) → m < fuel → f_X3_wordBetween_L5 (zH E σ) fuel (zL E 2 0 1) (zI s) (zI e) (zJ a) (zI i) = some (zJ ((tLs b m i).foldl (fun a x => a * 27 + (x - 97 + 1)) a)) := by
  have hL := hT.1
  have ip := zz_inpo (σ := σ) hW hm
  intro m
  induction m with
  | zero =>
    intro fuel i a h0 h1 hf
    obtain ⟨f, rfl, _⟩ := zfuel hf
    by_cases c1 : e ≤ i
    · simp (disch := first | assumption | omega) only [f_X3_wordBetween_L5, c1, tLs, List.foldl, zz_some, zz_lit, zz_num, zI_lt, zI_le, zI_eq, zI_nat, zz_b, if_pos, if_neg, if_true, if_false]
    · have c2 : s + 8 ≤ i := by omega
      simp (disch := first | assumption | omega) only [f_X3_wordBetween_L5, c1, c2, tLs, List.foldl, zz_some, zz_lit, zz_num, zI_lt, zI_le, zI_eq, zI_nat, zz_b, if_pos, if_neg, if_true, if_false]
  | succ m ih =>
    intro fuel i a h0 h1 hf
    obtain ⟨f, rfl, hf2⟩ := zfuel hf
    have p := e3_byteAt hW hm hT (i := i) (by omega) (by omega)
    have hb := (hT.2 i (by omega) (by omega)).1
    have hr := ih f (i + 1) (a * 27 + (b i - 97 + 1)) (by omega) (by omega) (by omega)
    have e1 : (97 : Int32) = zI 97 := rfl
    have e27 : (27 : Int64) = zJ 27 := rfl
    have c1 : ¬ e ≤ i := by omega
    have c2 : ¬ s + 8 ≤ i := by omega
    have ej : (zI (b i - 97 + 1)).toInt64 = zJ (b i - 97 + 1) := zJ_I (by omega) (by omega)
    simp (disch := first | assumption | omega) only [f_X3_wordBetween_L5, c1, c2, ip, p, e1, e27, ej, zJ_mul, zJ_add, hr, tLs, List.foldl, zz_some, zz_lit, zz_num, zI_lt, zI_le, zI_eq, zI_nat, zz_b, if_pos, if_neg, if_true, if_false]
theorem e3_word (hW : zWF E) (hm : zU E 2 0 = true) (hT : zTc σ b L) {s e : Int} (hs : 0 ≤ s) (hse : s ≤ e) (he : e ≤ L) : f_X3_wordBetween (zH E σ) (zL E 2 0 1) (zI s) (zI e) = some (zJ (zw27 (tLs b (min (e - s) 8).toNat s))) := by
  unfold f_X3_wordBetween
  exact e3_word_L hW hm hT hs he (min (e - s) 8).toNat g_N s 0 (Int.le_refl _) (by omega) (by unfold g_N; omega)

/-- the parser's fields after a token -/
def zPc (σ : zW) (b : Int → Int) (L p : Int) : Prop := σ 2 0 3 4 = tS b L p ∧ σ 2 0 3 5 = tE b L p ∧ σ 2 0 3 3 = tK b L p ∧ (tK b L p = 2 → σ 2 0 3 6 = tV b L p) ∧ (tK b L p = 1 → σ 2 0 3 7 = zw27 (tW b L p))
theorem zPc.cg {σ σ' : zW} {p : Int} (h : zPc σ b L p) (e : ∀ i, 3 ≤ i → σ' 2 0 3 i = σ 2 0 3 i) : zPc σ' b L p := by
  unfold zPc
  rw [e 3 (by omega), e 4 (by omega), e 5 (by omega), e 6 (by omega), e 7 (by omega)]
  exact h
theorem e4_run_L (hW : zWF E) (hm : zU E 2 0 = true) : ∀ (m fuel : Nat) (σ : zW) (s : Int), zTc σ b L → σ 2 0 3 2 = L → σ 2 0 3 4 = s → 0 ≤ s → s + m = L → m < fuel → f_X4_advance_L8 fuel (zH E σ) (zL E 2 0 3) (zL E 2 0 1) = f_X4_advance_J58 (zH E (zs σ 2 0 3 4 (zrun (tWh b) m s))) (zL E 2 0 3) (zL E 2 0 1) := by
  intro m
  induction m with
  | zero =>
    intro fuel σ s hT h2 h4 h0 h1 hf
    obtain ⟨f, rfl, _⟩ := zfuel hf
    have hL := hT.1
    have g4 := zg_pa4 (σ := σ) hW hm
    have g2 := zg_pa2 (σ := σ) hW hm
    rw [h4] at g4
    rw [h2] at g2
    have c1 : L ≤ s := by omega
    rw [zrun, zs_self h4]
    simp (disch := first | assumption | omega) only [f_X4_advance_L8, g4, g2, c1, zz_some, zz_lit, zz_num, zI_lt, zI_le, zI_eq, zI_nat, zz_b, if_pos, if_neg, if_true, if_false]
  | succ m ih =>
    intro fuel σ s hT h2 h4 h0 h1 hf
    obtain ⟨f, rfl, hf2⟩ := zfuel hf
    have hL := hT.1
    have g4 := zg_pa4 (σ := σ) hW hm
    have g2 := zg_pa2 (σ := σ) hW hm
    rw [h4] at g4
    rw [h2] at g2
    have c1 : ¬ L ≤ s := by omega
    have ip := zz_inpo (σ := σ) hW hm
    have p := e3_byteAt hW hm hT (i := s) (by omega) (by omega)
    have hb := (hT.2 s (by omega) (by omega)).1
    have pu := zp_pa4 (σ := σ) hW hm (s + 1)
    have hr := ih f (zs σ 2 0 3 4 (s + 1)) (s + 1) (hT.cg (zs_ne (by omega))) (by rw [zs_at, if_neg (by omega)]; exact h2) (by rw [zs_at, if_pos rfl]) (by omega) (by omega) (by omega)
    rw [zs_zs] at hr
    rw [zrun]
    have e1 : (32 : Int32) = zI 32 := rfl
    by_cases c2 : b s = 32
    · rw [if_pos (show tWh b s = true by unfold tWh; simp [c2])]
      simp (disch := first | assumption | omega) only [f_X4_advance_L8, g4, g2, c1, ip, p, e1, c2, pu, hr, zz_some, zz_lit, zz_num, zI_lt, zI_le, zI_eq, zI_nat, zz_b, if_pos, if_neg, if_true, if_false]
    · by_cases c3 : b s = 10
      · rw [if_pos (show tWh b s = true by unfold tWh; simp [c3])]
        simp (disch := first | assumption | omega) only [f_X4_advance_L8, g4, g2, c1, ip, p, e1, c2, c3, pu, hr, zz_some, zz_lit, zz_num, zI_lt, zI_le, zI_eq, zI_nat, zz_b, if_pos, if_neg, if_true, if_false]
      · rw [if_neg (show ¬ tWh b s = true by unfold tWh; simp [c2, c3]), zs_self h4]
        simp (disch := first | assumption | omega) only [f_X4_advance_L8, g4, g2, c1, ip, p, e1, c2, c3, zz_some, zz_lit, zz_num, zI_lt, zI_le, zI_eq, zI_nat, zz_b, if_pos, if_neg, if_true, if_false]
theorem e4_takeWord_L (hW : zWF E) (hm : zU E 2 0 = true) : ∀ (m fuel : Nat) (σ : zW) (e : Int), zTc σ b L → σ 2 0 3 2 = L → σ 2 0 3 5 = e → 0 ≤ e → e + m = L → m < fuel → f_X4_takeWord_L0 fuel (zH E σ) (zL E 2 0 3) (zL E 2 0 1) = f_X4_takeWord_J35 (zH E (zs σ 2 0 3 5 (zrun (tLe b) m e))) (zL E 2 0 3) (zL E 2 0 1) := by
  intro m
  induction m with
  | zero =>
    intro fuel σ s hT h2 h4 h0 h1 hf
    obtain ⟨f, rfl, _⟩ := zfuel hf
    have hL := hT.1
    have g4 := zg_pa5 (σ := σ) hW hm
    have g2 := zg_pa2 (σ := σ) hW hm
    rw [h4] at g4
    rw [h2] at g2
    have c1 : L ≤ s := by omega
    rw [zrun, zs_self h4]
    simp (disch := first | assumption | omega) only [f_X4_takeWord_L0, g4, g2, c1, zz_some, zz_lit, zz_num, zI_lt, zI_le, zI_eq, zI_nat, zz_b, if_pos, if_neg, if_true, if_false]
  | succ m ih =>
    intro fuel σ s hT h2 h4 h0 h1 hf
    obtain ⟨f, rfl, hf2⟩ := zfuel hf
    have hL := hT.1
    have g4 := zg_pa5 (σ := σ) hW hm
    have g2 := zg_pa2 (σ := σ) hW hm
    rw [h4] at g4
    rw [h2] at g2
    have c1 : ¬ L ≤ s := by omega
    have ip := zz_inpo (σ := σ) hW hm
    have p := e3_hasLetterAt hW hm hT (i := s) (by omega) (by omega)
    have pu := zp_pa5 (σ := σ) hW hm (s + 1)
    have hr := ih f (zs σ 2 0 3 5 (s + 1)) (s + 1) (hT.cg (zs_ne (by omega))) (by rw [zs_at, if_neg (by omega)]; exact h2) (by rw [zs_at, if_pos rfl]) (by omega) (by omega) (by omega)
    rw [zs_zs] at hr
    rw [zrun]
    by_cases c2 : tLe b s = true
    · rw [if_pos c2]
      rw [zb_pos c2] at p
      simp (disch := first | assumption | omega) only [f_X4_takeWord_L0, g4, g2, c1, ip, p, pu, hr, zz_some, zz_lit, zz_num, zI_lt, zI_le, zI_eq, zI_nat, zz_b, if_pos, if_neg, if_true, if_false]
    · rw [if_neg c2, zs_self h4]
      rw [zb_neg (by simpa using c2)] at p
      simp (disch := first | assumption | omega) only [f_X4_takeWord_L0, g4, g2, c1, ip, p, zz_some, zz_lit, zz_num, zI_lt, zI_le, zI_eq, zI_nat, zz_b, if_pos, if_neg, if_true, if_false]
theorem e4_takeNum_L (hW : zWF E) (hm : zU E 2 0 = true) : ∀ (m fuel : Nat) (σ : zW) (e : Int), zTc σ b L → σ 2 0 3 2 = L → σ 2 0 3 5 = e → 0 ≤ e → e + m = L → m < fuel → f_X4_takeNumber_L0 fuel (zH E σ) (zL E 2 0 3) (zL E 2 0 1) = f_X4_takeNumber_J35 (zH E (zs σ 2 0 3 5 (zrun (tDi b) m e))) (zL E 2 0 3) (zL E 2 0 1) := by
  intro m
  induction m with
  | zero =>
    intro fuel σ s hT h2 h4 h0 h1 hf
    obtain ⟨f, rfl, _⟩ := zfuel hf
    have hL := hT.1
    have g4 := zg_pa5 (σ := σ) hW hm
    have g2 := zg_pa2 (σ := σ) hW hm
    rw [h4] at g4
    rw [h2] at g2
    have c1 : L ≤ s := by omega
    rw [zrun, zs_self h4]
    simp (disch := first | assumption | omega) only [f_X4_takeNumber_L0, g4, g2, c1, zz_some, zz_lit, zz_num, zI_lt, zI_le, zI_eq, zI_nat, zz_b, if_pos, if_neg, if_true, if_false]
  | succ m ih =>
    intro fuel σ s hT h2 h4 h0 h1 hf
    obtain ⟨f, rfl, hf2⟩ := zfuel hf
    have hL := hT.1
    have g4 := zg_pa5 (σ := σ) hW hm
    have g2 := zg_pa2 (σ := σ) hW hm
    rw [h4] at g4
    rw [h2] at g2
    have c1 : ¬ L ≤ s := by omega
    have ip := zz_inpo (σ := σ) hW hm
    have p := e3_hasDigitAt hW hm hT (i := s) (by omega) (by omega)
    have pu := zp_pa5 (σ := σ) hW hm (s + 1)
    have hr := ih f (zs σ 2 0 3 5 (s + 1)) (s + 1) (hT.cg (zs_ne (by omega))) (by rw [zs_at, if_neg (by omega)]; exact h2) (by rw [zs_at, if_pos rfl]) (by omega) (by omega) (by omega)
    rw [zs_zs] at hr
    rw [zrun]
    by_cases c2 : tDi b s = true
    · rw [if_pos c2]
      rw [zb_pos c2] at p
      simp (disch := first | assumption | omega) only [f_X4_takeNumber_L0, g4, g2, c1, ip, p, pu, hr, zz_some, zz_lit, zz_num, zI_lt, zI_le, zI_eq, zI_nat, zz_b, if_pos, if_neg, if_true, if_false]
    · rw [if_neg c2, zs_self h4]
      rw [zb_neg (by simpa using c2)] at p
      simp (disch := first | assumption | omega) only [f_X4_takeNumber_L0, g4, g2, c1, ip, p, zz_some, zz_lit, zz_num, zI_lt, zI_le, zI_eq, zI_nat, zz_b, if_pos, if_neg, if_true, if_false]
/-- only the parser's fields from its token on differ -/
def zPf (σ σ' : zW) : Prop := (∀ k d c, ¬ (k = 2 ∧ d = 0 ∧ c = 3) → σ' k d c = σ k d c) ∧ ∀ i, i < 3 → σ' 2 0 3 i = σ 2 0 3 i
theorem zPf.rf {σ : zW} : zPf σ σ := ⟨fun _ _ _ _ => rfl, fun _ _ => rfl⟩
theorem zPf.tr {σ σ1 σ2 : zW} (h : zPf σ σ1) (h2 : zPf σ1 σ2) : zPf σ σ2 := ⟨fun k d c z => (h2.1 k d c z).trans (h.1 k d c z), fun i z => (h2.2 i z).trans (h.2 i z)⟩
theorem zPf.s {σ : zW} {i v : Int} (hi : 3 ≤ i) : zPf σ (zs σ 2 0 3 i v) := ⟨fun k d c z => zs_ne z, fun j z => by rw [zs_at, if_neg (by omega)]⟩
theorem e4_takeWord_J (hW : zWF E) (hm : zU E 2 0 = true) (hT : zTc σ b L) {s e : Int} (h4 : σ 2 0 3 4 = s) (h5 : σ 2 0 3 5 = e) (hs : 0 ≤ s) (hse : s ≤ e) (he : e ≤ L) : ∃ σ', f_X4_takeWord_J35 (zH E σ) (zL E 2 0 3) (zL E 2 0 1) = some (zH E σ') ∧ zPf σ σ' ∧ σ' 2 0 3 4 = s ∧ σ' 2 0 3 5 = e ∧ σ' 2 0 3 3 = (if e - s ≤ 8 then 1 else 4) ∧ σ' 2 0 3 7 = zw27 (tLs b (min (e - s) 8).toNat s) := by
  have hL := hT.1
  obtain ⟨t, ht⟩ : ∃ t : Int, t = if e - s ≤ 8 then 1 else 4 := ⟨_, rfl⟩
  have hJ : f_X4_takeWord_J55 (zH E σ) (zL E 2 0 3) (zL E 2 0 1) (zL E 2 0 3) (zI t) = some (zH E (zs (zs σ 2 0 3 3 t) 2 0 3 7 (zw27 (tLs b (min (e - s) 8).toNat s)))) := by
    have pu := zp_pa3 (σ := σ) hW hm t
    have g4 := zg_pa4 (σ := zs σ 2 0 3 3 t) hW hm
    have g5 := zg_pa5 (σ := zs σ 2 0 3 3 t) hW hm
    rw [zs_at, if_neg (by omega), h4] at g4
    rw [zs_at, if_neg (by omega), h5] at g5
    have ip := zz_inpo (σ := zs σ 2 0 3 3 t) hW hm
    have w := e3_word (σ := zs σ 2 0 3 3 t) hW hm (hT.cg (zs_ne (by omega))) hs hse he
    have p7 := zp_pa7 (σ := zs σ 2 0 3 3 t) hW hm (zw27 (tLs b (min (e - s) 8).toNat s))
    simp (disch := first | assumption | omega) only [f_X4_takeWord_J55, pu, g4, g5, ip, w, p7, zz_some, zz_lit, zz_num, zI_lt, zI_le, zI_eq, zI_nat, zz_b, if_pos, if_neg, if_true, if_false]
  refine ⟨zs (zs σ 2 0 3 3 t) 2 0 3 7 (zw27 (tLs b (min (e - s) 8).toNat s)), ?_, ((zPf.s (by omega)).tr (zPf.s (by omega))), ?_, ?_, ?_, ?_⟩
  · have g4 := zg_pa4 (σ := σ) hW hm
    have g5 := zg_pa5 (σ := σ) hW hm
    rw [h4] at g4
    rw [h5] at g5
    rw [← hJ]
    by_cases c : e - s ≤ 8
    · rw [if_pos c] at ht
      subst ht
      simp (disch := first | assumption | omega) only [f_X4_takeWord_J35, g4, g5, c, zz_some, zz_lit, zz_num, zI_lt, zI_le, zI_eq, zI_nat, zz_b, if_pos, if_neg, if_true, if_false]
    · rw [if_neg c] at ht
      subst ht
      simp (disch := first | assumption | omega) only [f_X4_takeWord_J35, g4, g5, c, zz_some, zz_lit, zz_num, zI_lt, zI_le, zI_eq, zI_nat, zz_b, if_pos, if_neg, if_true, if_false]
  · rw [zs_at, if_neg (by omega), zs_at, if_neg (by omega)]; exact h4
  · rw [zs_at, if_neg (by omega), zs_at, if_neg (by omega)]; exact h5
  · rw [zs_at, if_neg (by omega), zs_at, if_pos rfl, ht]
  · rw [zs_at, if_pos rfl]
theorem e4_num_L (hW : zWF E) (hm : zU E 2 0 = true) {s e : Int} (hs : 0 ≤ s) (he : e ≤ L) (hd : ∀ j, s ≤ j → j < e → tDi b j = true) : ∀ (m fuel : Nat) (σ : zW) (i a : Int), zTc σ b L → σ 2 0 3 4 = s → σ 2 0 3 5 = e → σ 2 0 3 6 = a → s ≤ i → i + m = min e (s + 3) → m < fuel → f_X4_takeNumber_L67 fuel (zH E σ) (zL E 2 0 3) (zL E 2 0 1) (zI i) = some (zH E (zs σ 2 0 3 6 (d10 a (tLs b m i)))) := by
  intro m
  induction m with
  | zero =>
    intro fuel σ i a hT h4 h5 h6 h0 h1 hf
    obtain ⟨f, rfl, _⟩ := zfuel hf
    have hL := hT.1
    have g4 := zg_pa4 (σ := σ) hW hm
    have g5 := zg_pa5 (σ := σ) hW hm
    rw [h4] at g4
    rw [h5] at g5
    rw [tLs, d10, List.foldl, zs_self h6]
    by_cases c1 : e ≤ i
    · simp (disch := first | assumption | omega) only [f_X4_takeNumber_L67, g4, g5, c1, zz_some, zz_lit, zz_num, zI_lt, zI_le, zI_eq, zI_nat, zz_b, if_pos, if_neg, if_true, if_false]
    · have c2 : s + 3 ≤ i := by omega
      simp (disch := first | assumption | omega) only [f_X4_takeNumber_L67, g4, g5, c1, c2, zz_some, zz_lit, zz_num, zI_lt, zI_le, zI_eq, zI_nat, zz_b, if_pos, if_neg, if_true, if_false]
  | succ m ih =>
    intro fuel σ i a hT h4 h5 h6 h0 h1 hf
    obtain ⟨f, rfl, hf2⟩ := zfuel hf
    have hL := hT.1
    have g4 := zg_pa4 (σ := σ) hW hm
    have g5 := zg_pa5 (σ := σ) hW hm
    have g6 := zg_pa6 (σ := σ) hW hm
    rw [h4] at g4
    rw [h5] at g5
    rw [h6] at g6
    have c1 : ¬ e ≤ i := by omega
    have c2 : ¬ s + 3 ≤ i := by omega
    have ip := zz_inpo (σ := σ) hW hm
    have p := e3_byteAt hW hm hT (i := i) (by omega) (by omega)
    have pu := zp_pa6 (σ := σ) hW hm (a * 10 + (b i - 48))
    have hr := ih f (zs σ 2 0 3 6 (a * 10 + (b i - 48))) (i + 1) (a * 10 + (b i - 48)) (hT.cg (zs_ne (by omega))) (by rw [zs_at, if_neg (by omega)]; exact h4) (by rw [zs_at, if_neg (by omega)]; exact h5) (by rw [zs_at, if_pos rfl]) (by omega) (by omega) (by omega)
    rw [zs_zs] at hr
    have e1 : (48 : Int32) = zI 48 := rfl
    have hd : d10 a (tLs b (m + 1) i) = d10 (a * 10 + (b i - 48)) (tLs b m (i + 1)) := rfl
    rw [hd]
    simp (disch := first | assumption | omega) only [f_X4_takeNumber_L67, g4, g5, g6, c1, c2, ip, p, e1, pu, hr, zz_some, zz_lit, zz_num, zI_lt, zI_le, zI_eq, zI_nat, zz_b, if_pos, if_neg, if_true, if_false]
theorem e4_takeNum_J (hW : zWF E) (hm : zU E 2 0 = true) (hT : zTc σ b L) {s e : Int} (h4 : σ 2 0 3 4 = s) (h5 : σ 2 0 3 5 = e) (hs : 0 ≤ s) (hse : s ≤ e) (he : e ≤ L) (hd : ∀ j, s ≤ j → j < e → tDi b j = true) : ∃ σ', f_X4_takeNumber_J35 (zH E σ) (zL E 2 0 3) (zL E 2 0 1) = some (zH E σ') ∧ zPf σ σ' ∧ σ' 2 0 3 4 = s ∧ σ' 2 0 3 5 = e ∧ σ' 2 0 3 3 = (if e - s ≤ 3 then 2 else 4) ∧ σ' 2 0 3 6 = d10 0 (tLs b (min (e - s) 3).toNat s) := by
  have hL := hT.1
  obtain ⟨t, ht⟩ : ∃ t : Int, t = if e - s ≤ 3 then 2 else 4 := ⟨_, rfl⟩
  have pu := zp_pa3 (σ := σ) hW hm t
  have p6 := zp_pa6 (σ := zs σ 2 0 3 3 t) hW hm 0
  have g4' := zg_pa4 (σ := zs (zs σ 2 0 3 3 t) 2 0 3 6 0) hW hm
  rw [zs_at, if_neg (by omega), zs_at, if_neg (by omega), h4] at g4'
  have hr := e4_num_L (b := b) (L := L) hW hm hs he hd (min (e - s) 3).toNat g_N (zs (zs σ 2 0 3 3 t) 2 0 3 6 0) s 0 (hT.cg (by rw [zs_ne (by omega), zs_ne (by omega)])) (by rw [zs_at, if_neg (by omega), zs_at, if_neg (by omega)]; exact h4) (by rw [zs_at, if_neg (by omega), zs_at, if_neg (by omega)]; exact h5) (by rw [zs_at, if_pos rfl]) (Int.le_refl _) (by omega) (by unfold g_N; omega)
  rw [zs_zs] at hr
  obtain ⟨w, hw⟩ : ∃ w, w = d10 0 (tLs b (min (e - s) 3).toNat s) := ⟨_, rfl⟩
  rw [← hw] at hr ⊢
  refine ⟨zs (zs σ 2 0 3 3 t) 2 0 3 6 w, ?_, ((zPf.s (by omega)).tr (zPf.s (by omega))), ?_, ?_, ?_, ?_⟩
  · have g4 := zg_pa4 (σ := σ) hW hm
    have g5 := zg_pa5 (σ := σ) hW hm
    rw [h4] at g4
    rw [h5] at g5
    by_cases c : e - s ≤ 3
    · rw [if_pos c] at ht
      subst ht
      simp (disch := first | assumption | omega) only [f_X4_takeNumber_J35, g4, g5, c, pu, p6, g4', hr, zz_some, zz_lit, zz_num, zI_lt, zI_le, zI_eq, zI_nat, zz_b, if_pos, if_neg, if_true, if_false]
    · rw [if_neg c] at ht
      subst ht
      simp (disch := first | assumption | omega) only [f_X4_takeNumber_J35, g4, g5, c, pu, p6, g4', hr, zz_some, zz_lit, zz_num, zI_lt, zI_le, zI_eq, zI_nat, zz_b, if_pos, if_neg, if_true, if_false]
  · rw [zs_at, if_neg (by omega), zs_at, if_neg (by omega)]; exact h4
  · rw [zs_at, if_neg (by omega), zs_at, if_neg (by omega)]; exact h5
  · rw [zs_at, if_neg (by omega), zs_at, if_pos rfl, ht]
  · rw [zs_at, if_pos rfl]
theorem e4_advance (hW : zWF E) (hm : zU E 2 0 = true) (hT : zTc σ b L) {p : Int} (h2 : σ 2 0 3 2 = L) (h5 : σ 2 0 3 5 = p) (hp0 : 0 ≤ p) (hp : p ≤ L) : ∃ σ', f_X4_advance (zH E σ) (zL E 2 0 3) (zL E 2 0 1) = some (zH E σ') ∧ zPf σ σ' ∧ zPc σ' b L p := by
  have hL := hT.1
  have hsr := tS_rng (b := b) hp
  have her := tE_rng (b := b) hp
  have g5 := zg_pa5 (σ := σ) hW hm
  rw [h5] at g5
  have pu := zp_pa4 (σ := σ) hW hm p
  have hrun := e4_run_L (b := b) (L := L) hW hm (L - p).toNat g_N (zs σ 2 0 3 4 p) p (hT.cg (zs_ne (by omega))) (by rw [zs_at, if_neg (by omega)]; exact h2) (by rw [zs_at, if_pos rfl]) hp0 (by omega) (by unfold g_N; omega)
  rw [zs_zs] at hrun
  have hst : zrun (tWh b) (L - p).toNat p = tS b L p := rfl
  rw [hst] at hrun
  obtain ⟨s, hs⟩ : ∃ s, s = tS b L p := ⟨_, rfl⟩
  rw [← hs] at hrun hsr her
  have hadv : f_X4_advance (zH E σ) (zL E 2 0 3) (zL E 2 0 1) = f_X4_advance_J58 (zH E (zs σ 2 0 3 4 s)) (zL E 2 0 3) (zL E 2 0 1) := by
    rw [← hrun]
    simp (disch := first | assumption | omega) only [f_X4_advance, g5, pu, zz_some, zz_lit, zz_num, zI_lt, zI_le, zI_eq, zI_nat, zz_b, if_pos, if_neg, if_true, if_false]
  rw [hadv]
  obtain ⟨σ1, h1⟩ : ∃ x, x = zs (zs σ 2 0 3 4 s) 2 0 3 5 s := ⟨_, rfl⟩
  have f1 : zPf σ σ1 := by rw [h1]; exact (zPf.s (by omega)).tr (zPf.s (by omega))
  have a2 : σ1 2 0 3 2 = L := by rw [f1.2 2 (by omega)]; exact h2
  have a4 : σ1 2 0 3 4 = s := by rw [h1, zs_at, if_neg (by omega), zs_at, if_pos rfl]
  have a5 : σ1 2 0 3 5 = s := by rw [h1, zs_at, if_pos rfl]
  have hT1 : zTc σ1 b L := hT.cg (f1.1 2 0 2 (by omega))
  have q4 := zg_pa4 (σ := zs σ 2 0 3 4 s) hW hm
  rw [zs_at, if_pos rfl] at q4
  have q5 := zp_pa5 (σ := zs σ 2 0 3 4 s) hW hm s
  rw [← h1] at q5
  have r4 := zg_pa4 (σ := σ1) hW hm
  have r2 := zg_pa2 (σ := σ1) hW hm
  have r5 := zg_pa5 (σ := σ1) hW hm
  rw [a4] at r4
  rw [a2] at r2
  rw [a5] at r5
  have ip := zz_inpo (σ := σ1) hW hm
  have po := (zz_pao (σ := σ1) hW hm).1
  unfold zPc tK
  rw [← hs]
  by_cases c1 : L ≤ s
  · have eE : tE b L p = s := by unfold tE; rw [← hs, if_pos c1]
    rw [if_pos c1, eE]
    have c1' : ¬ s < L := by omega
    have p3 := zp_pa3 (σ := σ1) hW hm 0
    refine ⟨zs σ1 2 0 3 3 0, ?_, f1.tr (zPf.s (by omega)), ?_, ?_, ?_, fun h => absurd h (by omega), fun h => absurd h (by omega)⟩
    · simp (disch := first | assumption | omega) only [f_X4_advance_J58, q4, q5, r4, r2, c1', p3, zz_some, zz_lit, zz_num, zI_lt, zI_le, zI_eq, zI_nat, zz_b, if_pos, if_neg, if_true, if_false]
    · rw [zs_at, if_neg (by omega)]; exact a4
    · rw [zs_at, if_neg (by omega)]; exact a5
    · rw [zs_at, if_pos rfl]
  · have c1' : s < L := by omega
    rw [if_neg c1]
    have pl := e3_hasLetterAt hW hm hT1 (i := s) (by omega) (by omega)
    by_cases c2 : tLe b s = true
    · have eE : tE b L p = zrun (tLe b) (L - s).toNat s := by unfold tE; rw [← hs, if_neg c1, if_pos c2]
      have hl := e4_takeWord_L (b := b) (L := L) hW hm (L - s).toNat g_N σ1 s hT1 a2 a5 (by omega) (by omega) (by unfold g_N; omega)
      rw [← eE] at hl
      obtain ⟨σ', w1, w2, w3, w4, w5, w6⟩ := e4_takeWord_J (σ := zs σ1 2 0 3 5 (tE b L p)) hW hm (hT1.cg (zs_ne (by omega))) (s := s) (e := tE b L p) (by rw [zs_at, if_neg (by omega)]; exact a4) (by rw [zs_at, if_pos rfl]) (by omega) (by omega) (by omega)
      have hw : f_X4_takeWord (zH E σ1) (zL E 2 0 3) (zL E 2 0 1) = some (zH E σ') := hl.trans w1
      rw [zb_pos c2] at pl
      rw [if_pos c2]
      refine ⟨σ', ?_, (f1.tr (zPf.s (by omega))).tr w2, w3, w4, w5, fun h => ?_, fun h => ?_⟩
      · simp (disch := first | assumption | omega) only [f_X4_advance_J58, q4, q5, r4, r2, c1', ip, pl, po, hw, zz_some, zz_lit, zz_num, zI_lt, zI_le, zI_eq, zI_nat, zz_b, if_pos, if_neg, if_true, if_false]
      · split at h <;> omega
      · rw [w6]
        unfold tW
        rw [← hs]
    · rw [zb_neg (by simpa using c2)] at pl
      rw [if_neg c2]
      have pd := e3_hasDigitAt hW hm hT1 (i := s) (by omega) (by omega)
      by_cases c3 : tDi b s = true
      · have eE : tE b L p = zrun (tDi b) (L - s).toNat s := by unfold tE; rw [← hs, if_neg c1, if_neg c2, if_pos c3]
        have hl := e4_takeNum_L (b := b) (L := L) hW hm (L - s).toNat g_N σ1 s hT1 a2 a5 (by omega) (by omega) (by unfold g_N; omega)
        rw [← eE] at hl
        obtain ⟨σ', w1, w2, w3, w4, w5, w6⟩ := e4_takeNum_J (σ := zs σ1 2 0 3 5 (tE b L p)) hW hm (hT1.cg (zs_ne (by omega))) (s := s) (e := tE b L p) (by rw [zs_at, if_neg (by omega)]; exact a4) (by rw [zs_at, if_pos rfl]) (by omega) (by omega) (by omega) (fun j j0 j1 => zrun_all _ _ _ j0 (by rw [← eE]; exact j1))
        have hw : f_X4_takeNumber (zH E σ1) (zL E 2 0 3) (zL E 2 0 1) = some (zH E σ') := hl.trans w1
        rw [zb_pos c3] at pd
        rw [if_pos c3]
        refine ⟨σ', ?_, (f1.tr (zPf.s (by omega))).tr w2, w3, w4, w5, fun h => ?_, fun h => ?_⟩
        · simp (disch := first | assumption | omega) only [f_X4_advance_J58, q4, q5, r4, r2, c1', ip, pl, pd, po, hw, zz_some, zz_lit, zz_num, zI_lt, zI_le, zI_eq, zI_nat, zz_b, if_pos, if_neg, if_true, if_false]
        · rw [w6]
          unfold tV
          rw [← hs]
        · split at h <;> omega
      · have eE : tE b L p = s + 1 := by unfold tE; rw [← hs, if_neg c1, if_neg c2, if_neg c3]
        rw [zb_neg (by simpa using c3)] at pd
        rw [if_neg c3, eE]
        have p5 := zp_pa5 (σ := σ1) hW hm (s + 1)
        have t4 := zg_pa4 (σ := zs σ1 2 0 3 5 (s + 1)) hW hm
        rw [zs_at, if_neg (by omega), a4] at t4
        have hT2 : zTc (zs σ1 2 0 3 5 (s + 1)) b L := hT1.cg (zs_ne (by omega))
        have ip2 := zz_inpo (σ := zs σ1 2 0 3 5 (s + 1)) hW hm
        have hb := (hT.2 s (by omega) (by omega)).1
        have pb := e3_byteAt hW hm hT2 (i := s) (by omega) (by omega)
        have e59 : (59 : Int32) = zI 59 := rfl
        by_cases c4 : b s = 59
        · rw [if_pos c4]
          have p3 := zp_pa3 (σ := zs σ1 2 0 3 5 (s + 1)) hW hm 3
          refine ⟨zs (zs σ1 2 0 3 5 (s + 1)) 2 0 3 3 3, ?_, (f1.tr (zPf.s (by omega))).tr (zPf.s (by omega)), ?_, ?_, ?_, fun h => absurd h (by omega), fun h => absurd h (by omega)⟩
          · simp (disch := first | assumption | omega) only [f_X4_advance_J58, q4, q5, r4, r2, r5, c1', ip, pl, pd, p5, t4, ip2, pb, e59, c4, p3, zz_some, zz_lit, zz_num, zI_lt, zI_le, zI_eq, zI_nat, zz_b, if_pos, if_neg, if_true, if_false]
          · rw [zs_at, if_neg (by omega), zs_at, if_neg (by omega)]; exact a4
          · rw [zs_at, if_neg (by omega), zs_at, if_pos rfl]
          · rw [zs_at, if_pos rfl]
        · rw [if_neg c4]
          have p3 := zp_pa3 (σ := zs σ1 2 0 3 5 (s + 1)) hW hm 4
          refine ⟨zs (zs σ1 2 0 3 5 (s + 1)) 2 0 3 3 4, ?_, (f1.tr (zPf.s (by omega))).tr (zPf.s (by omega)), ?_, ?_, ?_, fun h => absurd h (by omega), fun h => absurd h (by omega)⟩
          · simp (disch := first | assumption | omega) only [f_X4_advance_J58, q4, q5, r4, r2, r5, c1', ip, pl, pd, p5, t4, ip2, pb, e59, c4, p3, zz_some, zz_lit, zz_num, zI_lt, zI_le, zI_eq, zI_nat, zz_b, if_pos, if_neg, if_true, if_false]
          · rw [zs_at, if_neg (by omega), zs_at, if_neg (by omega)]; exact a4
          · rw [zs_at, if_neg (by omega), zs_at, if_pos rfl]
          · rw [zs_at, if_pos rfl]
end zTxt

/-! Texts: the tokens of a text, and the class's way through them. -/
theorem zs_zs {σ : zW} {k d c : Nat} {i v w : Int} : zs (zs σ k d c i v) k d c i w = zs σ k d c i w := by
  funext k' d' c' i'
  unfold zs
  by_cases h : k' = k ∧ d' = d ∧ c' = c ∧ i' = i
  · rw [if_pos h, if_pos h]
  · rw [if_neg h, if_neg h, if_neg h]
theorem zs_self {σ : zW} {k d c : Nat} {i v : Int} (h : σ k d c i = v) : zs σ k d c i v = σ := by
  funext k' d' c' i'
  unfold zs
  by_cases h' : k' = k ∧ d' = d ∧ c' = c ∧ i' = i
  · rw [if_pos h', ← h, h'.1, h'.2.1, h'.2.2.1, h'.2.2.2]
  · rw [if_neg h']
def zrun (P : Int → Bool) : Nat → Int → Int
  | 0, p => p
  | m + 1, p => if P p = true then zrun P m (p + 1) else p
theorem zrun_rng (P : Int → Bool) : ∀ (m : Nat) (p : Int), p ≤ zrun P m p ∧ zrun P m p ≤ p + m := by
  intro m
  induction m with
  | zero => intro p; exact ⟨Int.le_refl _, by simp [zrun]⟩
  | succ m ih =>
    intro p
    rw [zrun]
    split
    · have := ih (p + 1)
      omega
    · omega
def tWh (b : Int → Int) (p : Int) : Bool := decide (b p = 32 ∨ b p = 10)
def tLe (b : Int → Int) (p : Int) : Bool := decide (97 ≤ b p ∧ b p ≤ 122)
def tDi (b : Int → Int) (p : Int) : Bool := decide (48 ≤ b p ∧ b p ≤ 57)
def tLs (b : Int → Int) : Nat → Int → List Int
  | 0, _ => []
  | m + 1, s => b s :: tLs b m (s + 1)
def tS (b : Int → Int) (L p : Int) : Int := zrun (tWh b) (L - p).toNat p
def tE (b : Int → Int) (L p : Int) : Int := if L ≤ tS b L p then tS b L p else if tLe b (tS b L p) = true then zrun (tLe b) (L - tS b L p).toNat (tS b L p) else if tDi b (tS b L p) = true then zrun (tDi b) (L - tS b L p).toNat (tS b L p) else tS b L p + 1
def tK (b : Int → Int) (L p : Int) : Int := if L ≤ tS b L p then 0 else if tLe b (tS b L p) = true then (if tE b L p - tS b L p ≤ 8 then 1 else 4) else if tDi b (tS b L p) = true then (if tE b L p - tS b L p ≤ 3 then 2 else 4) else if b (tS b L p) = 59 then 3 else 4
def tW (b : Int → Int) (L p : Int) : List Int := tLs b (min (tE b L p - tS b L p) 8).toNat (tS b L p)
def d10 (a : Int) (l : List Int) : Int := l.foldl (fun a x => a * 10 + (x - 48)) a
def tV (b : Int → Int) (L p : Int) : Int := d10 0 (tLs b (min (tE b L p - tS b L p) 3).toNat (tS b L p))
theorem tS_rng {b : Int → Int} {L p : Int} (h : p ≤ L) : p ≤ tS b L p ∧ tS b L p ≤ L := by
  have := zrun_rng (tWh b) (L - p).toNat p
  unfold tS
  omega
theorem zrun_one {P : Int → Bool} {m : Nat} {p : Int} (h : P p = true) : p + 1 ≤ zrun P (m + 1) p := by
  rw [zrun, if_pos h]
  exact (zrun_rng P m (p + 1)).1
theorem tE_rng {b : Int → Int} {L p : Int} (h : p ≤ L) : tS b L p ≤ tE b L p ∧ tE b L p ≤ L ∧ (tS b L p < L → tS b L p + 1 ≤ tE b L p) := by
  have h1 := tS_rng (b := b) h
  unfold tE
  by_cases h2 : L ≤ tS b L p
  · rw [if_pos h2]
    omega
  · rw [if_neg h2]
    obtain ⟨m, hm⟩ : ∃ m : Nat, (L - tS b L p).toNat = m + 1 := ⟨(L - tS b L p).toNat - 1, by omega⟩
    by_cases h3 : tLe b (tS b L p) = true
    · rw [if_pos h3, hm]
      have := zrun_rng (tLe b) (m + 1) (tS b L p)
      have := zrun_one (m := m) h3
      omega
    · rw [if_neg h3]
      by_cases h4 : tDi b (tS b L p) = true
      · rw [if_pos h4, hm]
        have := zrun_rng (tDi b) (m + 1) (tS b L p)
        have := zrun_one (m := m) h4
        omega
      · rw [if_neg h4]
        omega
theorem tK_0 {b : Int → Int} {L p : Int} (h : p ≤ L) : tK b L p = 0 ↔ L ≤ tS b L p := by
  unfold tK
  split
  · simp [*]
  · split
    · split <;> simp [*]
    · split
      · split <;> simp [*]
      · split <;> simp [*]
theorem tK_E {b : Int → Int} {L p : Int} (h : p ≤ L) (hk : tK b L p ≠ 0) : p + 1 ≤ tE b L p := by
  have h0 := mt (tK_0 (b := b) h).mpr hk
  have := tE_rng (b := b) h
  have := tS_rng (b := b) h
  omega
theorem tLs_len (b : Int → Int) : ∀ (m : Nat) (s : Int), (tLs b m s).length = m := by
  intro m
  induction m with
  | zero => intro s; rfl
  | succ m ih => intro s; simp [tLs, ih]
theorem zrun_all {P : Int → Bool} : ∀ (m : Nat) (s j : Int), s ≤ j → j < zrun P m s → P j = true := by
  intro m
  induction m with
  | zero => intro s j h0 h1; simp [zrun] at h1; omega
  | succ m ih =>
    intro s j h0 h1
    rw [zrun] at h1
    by_cases h : P s = true
    · rw [if_pos h] at h1
      by_cases hj : j = s
      · rw [hj]; exact h
      · exact ih (s + 1) j (by omega) h1
    · rw [if_neg h] at h1
      omega
theorem tLs_mem {b : Int → Int} : ∀ (m : Nat) (s x : Int), x ∈ tLs b m s → ∃ j, s ≤ j ∧ j < s + m ∧ x = b j := by
  intro m
  induction m with
  | zero => intro s x h; simp [tLs] at h
  | succ m ih =>
    intro s x h
    rcases List.mem_cons.mp h with h | h
    · exact ⟨s, by omega, by omega, h⟩
    · obtain ⟨j, h1, h2, h3⟩ := ih (s + 1) x h
      exact ⟨j, by omega, by omega, h3⟩
theorem tK_1 {b : Int → Int} {L p : Int} (h : p ≤ L) (hk : tK b L p = 1) : zWd (tW b L p) := by
  have hs := tS_rng (b := b) h
  have he := tE_rng (b := b) h
  unfold tK at hk
  by_cases h1 : L ≤ tS b L p
  · rw [if_pos h1] at hk; omega
  · rw [if_neg h1] at hk
    by_cases h2 : tLe b (tS b L p) = true
    · rw [if_pos h2] at hk
      by_cases h3 : tE b L p - tS b L p ≤ 8
      · have e : tE b L p = zrun (tLe b) (L - tS b L p).toNat (tS b L p) := by
          unfold tE
          rw [if_neg h1, if_pos h2]
        unfold zWd tW
        rw [tLs_len]
        refine ⟨by omega, by omega, fun x hx => ?_⟩
        obtain ⟨j, j1, j2, j3⟩ := tLs_mem _ _ _ hx
        have := zrun_all (P := tLe b) (L - tS b L p).toNat (tS b L p) j j1 (by rw [← e]; omega)
        unfold tLe at this
        rw [j3]
        simpa using this
      · rw [if_neg h3] at hk; omega
    · rw [if_neg h2] at hk
      split at hk
      · split at hk <;> omega
      · split at hk <;> omega
theorem d10_rng : ∀ (l : List Int) (a : Int), (∀ x ∈ l, 48 ≤ x ∧ x ≤ 57) → 0 ≤ a → 0 ≤ d10 a l ∧ d10 a l < (a + 1) * 10 ^ l.length := by
  intro l
  induction l with
  | nil => intro a _ h; simp [d10]; omega
  | cons x l ih =>
    intro a hx h
    have hx0 := hx x (List.mem_cons_self ..)
    have := ih (a * 10 + (x - 48)) (fun y hy => hx y (List.mem_cons_of_mem _ hy)) (by omega)
    show 0 ≤ d10 (a * 10 + (x - 48)) l ∧ d10 (a * 10 + (x - 48)) l < _
    refine ⟨this.1, Int.lt_of_lt_of_le this.2 ?_⟩
    rw [List.length_cons, Int.pow_succ, Int.mul_comm (10 ^ l.length) 10, ← Int.mul_assoc]
    exact Int.mul_le_mul_of_nonneg_right (by omega) (Int.pow_nonneg (by omega))
theorem tK_2 {b : Int → Int} {L p : Int} (h : p ≤ L) (hk : tK b L p = 2) : 0 ≤ tV b L p ∧ tV b L p < 1000 := by
  have hs := tS_rng (b := b) h
  have he := tE_rng (b := b) h
  unfold tK at hk
  by_cases h1 : L ≤ tS b L p
  · rw [if_pos h1] at hk; omega
  · rw [if_neg h1] at hk
    by_cases h2 : tLe b (tS b L p) = true
    · rw [if_pos h2] at hk
      split at hk <;> omega
    · rw [if_neg h2] at hk
      by_cases h3 : tDi b (tS b L p) = true
      · rw [if_pos h3] at hk
        by_cases h4 : tE b L p - tS b L p ≤ 3
        · have e : tE b L p = zrun (tDi b) (L - tS b L p).toNat (tS b L p) := by
            unfold tE
            rw [if_neg h1, if_neg h2, if_pos h3]
          unfold tV
          have hd := d10_rng (tLs b (min (tE b L p - tS b L p) 3).toNat (tS b L p)) 0 (fun x hx => by
            obtain ⟨j, j1, j2, j3⟩ := tLs_mem _ _ _ hx
            have := zrun_all (P := tDi b) (L - tS b L p).toNat (tS b L p) j j1 (by rw [← e]; omega)
            unfold tDi at this
            rw [j3]
            simpa using this) (by omega)
          rw [tLs_len] at hd
          obtain ⟨k, hk⟩ : ∃ k : Nat, k = (min (tE b L p - tS b L p) 3).toNat := ⟨_, rfl⟩
          rw [← hk] at hd
          have hk3 : k = 0 ∨ k = 1 ∨ k = 2 ∨ k = 3 := by omega
          rw [← hk]
          refine ⟨hd.1, ?_⟩
          have := hd.2
          rcases hk3 with h | h | h | h <;> rw [h] at this ⊢ <;> omega
        · rw [if_neg h4] at hk; omega
      · rw [if_neg h3] at hk
        split at hk <;> omega
/-- the class's bytes are b up to L -/
def zTc (σ : zW) (b : Int → Int) (L : Int) : Prop := L ≤ 600 ∧ ∀ i, 0 ≤ i → i < L → (0 ≤ b i ∧ b i ≤ 255) ∧ σ 2 0 2 i = b i
theorem zTc.cg {σ σ' : zW} {b : Int → Int} {L : Int} (h : zTc σ b L) (e : σ' 2 0 2 = σ 2 0 2) : zTc σ' b L := ⟨h.1, fun i h0 h1 => by rw [e]; exact h.2 i h0 h1⟩
section zTxt
variable {E : zE} {σ : zW} {b : Int → Int} {L : Int}
theorem e3_byteAt (hW : zWF E) (hm : zU E 2 0 = true) (hT : zTc σ b L) {i : Int} (h0 : 0 ≤ i) (h1 : i < L) : f_X3_byteAt (zH E σ) (zL E 2 0 1) (zI i) = some (zI (b i)) := by
  have hL := hT.1
  have p := zX_at (σ := σ) (n := 600) hW hm (k := 2) (d := 0) (c := 2) rfl (by decide) (i := i) (o := -1) (by omega) (by omega)
  rw [if_pos ⟨h0, by omega⟩, (hT.2 i h0 h1).2] at p
  have ip := zz_inpo (σ := σ) hW hm

  simp (disch := first | assumption | omega) only [f_X3_byteAt, ip, p, zz_some, zz_lit, zz_num, zI_lt, zI_le, zI_eq, zI_nat, zz_b, if_pos, if_neg, if_true, if_false]
theorem e9_isLetter {G : gH} {x : Int} (h0 : -1 ≤ x) (h1 : x ≤ 255) : f_X9_isLetter G (zI x) = some (zI (zb (decide (97 ≤ x ∧ x ≤ 122)))) := by
  have e1 : (97 : Int32) = zI 97 := rfl
  have e2 : (122 : Int32) = zI 122 := rfl
  by_cases c1 : x < 97
  · rw [zb_dneg (by omega)]
    simp (disch := first | assumption | omega) only [f_X9_isLetter, e1, e2, c1, zz_some, zz_lit, zz_num, zI_lt, zI_le, zI_eq, zI_nat, zz_b, if_pos, if_neg, if_true, if_false]
  · by_cases c2 : 122 < x
    · rw [zb_dneg (by omega)]
      simp (disch := first | assumption | omega) only [f_X9_isLetter, e1, e2, c1, c2, zz_some, zz_lit, zz_num, zI_lt, zI_le, zI_eq, zI_nat, zz_b, if_pos, if_neg, if_true, if_false]
    · rw [zb_dpos (by omega)]
      simp (disch := first | assumption | omega) only [f_X9_isLetter, e1, e2, c1, c2, zz_some, zz_lit, zz_num, zI_lt, zI_le, zI_eq, zI_nat, zz_b, if_pos, if_neg, if_true, if_false]
/-- the kind of a byte -/
def kb (b : Int → Int) (p : Int) : Int := if tLe b p = true then 1 else if tDi b p = true then 2 else if tWh b p = true then 0 else if b p = 59 then 3 else 4
theorem kb_rng (b : Int → Int) (p : Int) : 0 ≤ kb b p ∧ kb b p ≤ 4 := by
  unfold kb
  split
  · omega
  · split
    · omega
    · split
      · omega
      · split <;> omega
theorem e3_kindAt (hW : zWF E) (hm : zU E 2 0 = true) (hT : zTc σ b L) {i : Int} (h0 : 0 ≤ i) (h1 : i < L) : f_X3_kindAt (zH E σ) (zL E 2 0 1) (zI i) = some (zI (kb b i)) := by
  have p := e3_byteAt hW hm hT h0 h1
  have hb := (hT.2 i h0 h1).1
  have ip := zz_inpo (σ := σ) hW hm
  have hl := e9_isLetter (G := zH E σ) (x := b i) (by omega) (by omega)
  have hle : decide (97 ≤ b i ∧ b i ≤ 122) = tLe b i := rfl
  rw [hle] at hl
  unfold kb
  by_cases c1 : tLe b i = true
  · rw [if_pos c1]
    rw [c1] at hl
    simp (disch := first | assumption | omega) only [f_X3_kindAt, ip, p, hl, Bool.true_eq_false, zz_some, zz_lit, zz_num, zI_lt, zI_le, zI_eq, zI_nat, zz_b, if_pos, if_neg, if_true, if_false]
  · rw [if_neg c1]
    rw [show tLe b i = false by simpa using c1] at hl
    have hj : f_X3_kindAt_J29 (zH E σ) (zI (b i)) = some (zI (if tWh b i = true then 0 else if b i = 59 then 3 else 4)) := by
      unfold tWh
      by_cases d1 : b i = 32
      · rw [if_pos (by simp [d1])]
        simp (disch := first | assumption | omega) only [f_X3_kindAt_J29, d1, zz_some, zz_lit, zz_num, zI_lt, zI_le, zI_eq, zI_nat, zz_b, if_pos, if_neg, if_true, if_false]
      · by_cases d2 : b i = 10
        · rw [if_pos (by simp [d2])]
          simp (disch := first | assumption | omega) only [f_X3_kindAt_J29, d1, d2, zz_some, zz_lit, zz_num, zI_lt, zI_le, zI_eq, zI_nat, zz_b, if_pos, if_neg, if_true, if_false]
        · rw [if_neg (by simp [d1, d2])]
          by_cases d3 : b i = 59
          · rw [if_pos d3]
            simp (disch := first | assumption | omega) only [f_X3_kindAt_J29, d1, d2, d3, zz_some, zz_lit, zz_num, zI_lt, zI_le, zI_eq, zI_nat, zz_b, if_pos, if_neg, if_true, if_false]
          · rw [if_neg d3]
            simp (disch := first | assumption | omega) only [f_X3_kindAt_J29, d1, d2, d3, zz_some, zz_lit, zz_num, zI_lt, zI_le, zI_eq, zI_nat, zz_b, if_pos, if_neg, if_true, if_false]
    by_cases c2 : b i < 48
    · rw [if_neg (by unfold tDi; simp; omega)]
      simp (disch := first | assumption | omega) only [f_X3_kindAt, ip, p, hl, c2, hj, zz_some, zz_lit, zz_num, zI_lt, zI_le, zI_eq, zI_nat, zz_b, if_pos, if_neg, if_true, if_false]
    · by_cases c3 : 57 < b i
      · rw [if_neg (by unfold tDi; simp; omega)]
        simp (disch := first | assumption | omega) only [f_X3_kindAt, ip, p, hl, c2, c3, hj, zz_some, zz_lit, zz_num, zI_lt, zI_le, zI_eq, zI_nat, zz_b, if_pos, if_neg, if_true, if_false]
      · rw [if_pos (by unfold tDi; simp; omega)]
        simp (disch := first | assumption | omega) only [f_X3_kindAt, ip, p, hl, c2, c3, zz_some, zz_lit, zz_num, zI_lt, zI_le, zI_eq, zI_nat, zz_b, if_pos, if_neg, if_true, if_false]
/-- the places between the tokens -/
def tp (b : Int → Int) (L : Int) : Nat → Int
  | 0 => 0
  | i + 1 => tE b L (tp b L i)
theorem tp_rng {b : Int → Int} {L : Int} (h : 0 ≤ L) : ∀ i : Nat, 0 ≤ tp b L i ∧ tp b L i ≤ L := by
  intro i
  induction i with
  | zero => exact ⟨Int.le_refl _, h⟩
  | succ i ih =>
    have h1 := tE_rng (b := b) ih.2
    have h2 := tS_rng (b := b) ih.2
    show 0 ≤ tE b L (tp b L i) ∧ tE b L (tp b L i) ≤ L
    omega
theorem tp_ge {b : Int → Int} {L : Int} (h : 0 ≤ L) : ∀ C : Nat, (∀ i : Nat, i < C → tK b L (tp b L i) ≠ 0) → (C : Int) ≤ tp b L C := by
  intro C
  induction C with
  | zero => intro _; exact Int.le_refl _
  | succ C ih =>
    intro hk
    have h1 := ih (fun i hi => hk i (by omega))
    have h2 := tK_E (b := b) (tp_rng h C).2 (hk C (by omega))
    show ((C + 1 : Nat) : Int) ≤ tE b L (tp b L C)
    omega
theorem tp_end {b : Int → Int} {L : Int} (h : 0 ≤ L) {C : Nat} (h0 : tK b L (tp b L C) = 0) : ∀ k : Nat, tK b L (tp b L (C + k)) = 0 ∧ tS b L (tp b L (C + k)) = L := by
  intro k
  induction k with
  | zero =>
    have h1 := (tK_0 (tp_rng h C).2).mp h0
    have h2 := tS_rng (b := b) (tp_rng (b := b) h C).2
    exact ⟨h0, by rw [Nat.add_zero]; omega⟩
  | succ k ih =>
    have hr := (tp_rng (b := b) h (C + k)).2
    have hE : tp b L (C + (k + 1)) = L := by
      show tE b L (tp b L (C + k)) = L
      unfold tE
      rw [if_pos (by omega), ih.2]
    have hs := tS_rng (b := b) (L := L) (p := L) (Int.le_refl _)
    rw [hE]
    exact ⟨(tK_0 (Int.le_refl _)).mpr hs.1, by omega⟩
/-- one token as the class holds it -/
def zTr (σ : zW) (b : Int → Int) (L : Int) (i : Nat) : Prop := σ 2 0 17 i = tK b L (tp b L i) ∧ σ 2 0 18 i = tS b L (tp b L i) ∧ (tK b L (tp b L i) = 2 → σ 2 0 19 i = tV b L (tp b L i)) ∧ (tK b L (tp b L i) = 1 → σ 2 0 19 i = zw27 (tW b L (tp b L i)))
def zTk (σ : zW) (b : Int → Int) (L : Int) (C : Nat) : Prop := σ 2 0 16 0 = C ∧ σ 2 0 16 1 = L ∧ ∀ i : Nat, i < C → zTr σ b L i ∧ tK b L (tp b L i) ≠ 0
theorem zTk.cg {σ σ' : zW} {C : Nat} (h : zTk σ b L C) (e : ∀ c, 16 ≤ c → c ≤ 19 → σ' 2 0 c = σ 2 0 c) : zTk σ' b L C := by
  unfold zTk zTr
  rw [e 16 (by omega) (by omega), e 17 (by omega) (by omega), e 18 (by omega) (by omega), e 19 (by omega) (by omega)]
  exact h
/-- the tokens alone have changed -/
def zFt (σ σ' : zW) : Prop := ∀ k d c, ¬ (k = 2 ∧ d = 0 ∧ 16 ≤ c ∧ c ≤ 19) → σ' k d c = σ k d c
theorem zFt.rf {σ : zW} : zFt σ σ := fun _ _ _ _ => rfl
theorem zFt.tr {σ σ1 σ2 : zW} (h : zFt σ σ1) (h2 : zFt σ1 σ2) : zFt σ σ2 := fun k d c z => (h2 k d c z).trans (h k d c z)
theorem e11_valueOf (hW : zWF E) (hm : zU E 2 0 = true) {i : Int} (h0 : 0 ≤ i) (h1 : i < 600) : f_X11_valueOf (zH E σ) (zL E 2 0 16) (zI i) = some (zJ (σ 2 0 19 i)) := by
  have ha := zX_at_ (σ := σ) (n := 600) hW hm (k := 2) (d := 0) (c := 19) rfl (by decide) (i := i) (o := -1) (by omega) (by omega)
  rw [if_pos (by omega)] at ha
  have e1 : (-1 : Int64) = zJ (-1) := rfl
  simp (disch := first | assumption | omega) only [f_X11_valueOf, zg_tk4 hW hm, e1, ha, zz_some, zz_lit, zz_num, zI_lt, zI_le, zI_eq, zI_nat, zz_b, if_pos, if_neg, if_true, if_false]
theorem e11_startOf (hW : zWF E) (hm : zU E 2 0 = true) {C : Nat} {i : Int} (hC : σ 2 0 16 0 = ((C : Nat) : Int)) (h6 : C ≤ 600) (h0 : 0 ≤ i) (hi : i < C) : f_X11_startOf (zH E σ) (zL E 2 0 16) (zI i) = some (zI (σ 2 0 18 i)) := by
  have g0 := zg_tk0 (σ := σ) hW hm
  have g1 := zg_tk1 (σ := σ) hW hm
  have g3 := zg_tk3 (σ := σ) hW hm
  have ha := zX_at (σ := σ) (n := 600) hW hm (k := 2) (d := 0) (c := 18) rfl (by decide) (i := i) (o := σ 2 0 16 1) (by omega) (by omega)
  rw [if_pos (by omega)] at ha
  rw [hC] at g0
  have c1 : ¬ (C : Int) ≤ i := by omega
  simp (disch := first | assumption | omega) only [f_X11_startOf, g0, g1, g3, ha, c1, zz_some, zz_lit, zz_num, zI_lt, zI_le, zI_eq, zI_nat, zz_b, if_pos, if_neg, if_true, if_false]
theorem e9_withLetter {G : gH} {v x : Int} (h0 : 0 ≤ x) (h1 : x ≤ 255) : f_X9_withLetter G (zJ v) (zI x) = some (zJ (v * 27 + (x - 97 + 1))) := by
  have e27 : (27 : Int64) = zJ 27 := rfl
  have e97 : (97 : Int32) = zI 97 := rfl
  have ej : (zI (x - 97 + 1)).toInt64 = zJ (x - 97 + 1) := zJ_I (by omega) (by omega)
  simp (disch := first | assumption | omega) only [f_X9_withLetter, e27, e97, ej, zJ_mul, zJ_add, zz_some, zz_lit, zz_num, zI_lt, zI_le, zI_eq, zI_nat, zz_b, if_pos, if_neg, if_true, if_false]
theorem tLs_snoc (b : Int → Int) : ∀ (m : Nat) (s : Int), tLs b (m + 1) s = tLs b m s ++ [b (s + m)] := by
  intro m
  induction m with
  | zero => intro s; simp [tLs]
  | succ m ih =>
    intro s
    rw [tLs, ih (s + 1), tLs]
    rw [show s + 1 + (m : Int) = s + ((m + 1 : Nat) : Int) by omega]
    rfl
theorem tLe_tDi {b : Int → Int} {p : Int} (h : tLe b p = true) (h2 : tDi b p = true) : False := by
  unfold tLe at h
  unfold tDi at h2
  simp only [decide_eq_true_eq] at h h2
  omega
theorem zs2_zs {σ : zW} {c : Int} {v k v2 k2 : Int} : zs (zs (zs (zs σ 2 0 19 c v) 2 0 17 c k) 2 0 19 c v2) 2 0 17 c k2 = zs (zs σ 2 0 19 c v2) 2 0 17 c k2 := by
  funext k' d' c' i'
  unfold zs
  by_cases h : k' = 2 ∧ d' = 0 ∧ c' = 17 ∧ i' = c
  · rw [if_pos h, if_pos h]
  · rw [if_neg h, if_neg h]
    by_cases h2 : k' = 2 ∧ d' = 0 ∧ c' = 19 ∧ i' = c
    · rw [if_pos h2]
      simp [h2]
    · rw [if_neg h2, if_neg h2, if_neg h, if_neg h2]
theorem e11_takeLetter (hW : zWF E) (hm : zU E 2 0 = true) {c : Nat} (hc : c < 600) (h0 : σ 2 0 16 0 = (c : Int) + 1) {s : Int} (h8 : σ 2 0 18 c = s) {x i : Int} (hx0 : 0 ≤ x) (hx1 : x ≤ 255) (hs : 0 ≤ s) (hi0 : s ≤ i) (hi1 : i < 1000) : f_X11_takeLetter (zH E σ) (zL E 2 0 16) (zI x) (zI i) = some (zH E (zs (zs σ 2 0 19 c (σ 2 0 19 c * 27 + (x - 97 + 1))) 2 0 17 c (if i - s < 8 then σ 2 0 17 c else 4))) := by
  have g0 := zg_tk0 (σ := σ) hW hm
  rw [h0] at g0
  have g4 := zg_tk4 (σ := σ) hW hm
  have hv := e11_valueOf (σ := σ) hW hm (i := (c : Int)) (by omega) (by omega)
  have hp := zX_put_ (σ := σ) (n := 600) hW hm (k := 2) (d := 0) (c := 19) rfl (by decide) (i := (c : Int)) (v := σ 2 0 19 c * 27 + (x - 97 + 1)) (by omega) (by omega)
  rw [if_pos (by omega)] at hp
  obtain ⟨σ1, e1⟩ : ∃ y, y = zs σ 2 0 19 c (σ 2 0 19 c * 27 + (x - 97 + 1)) := ⟨_, rfl⟩
  rw [← e1] at hp ⊢
  have e17 : σ1 2 0 17 = σ 2 0 17 := by rw [e1, zs_ne (by omega)]
  have hst := e11_startOf (σ := σ1) hW hm (C := c + 1) (i := (c : Int)) (by rw [e1, zs_ne (by omega)]; omega) (by omega) (by omega) (by omega)
  rw [show σ1 2 0 18 c = s by rw [e1, zs_ne (by omega)]; exact h8] at hst
  have htk := zz_tko (σ := σ) hW hm
  have htk1 := zz_tko (σ := σ1) hW hm
  have ec : (c : Int) + 1 - 1 = c := by omega
  have wl : f_X9_withLetter (zH E σ) (zJ (σ 2 0 19 c)) (zI x) = some (zJ (σ 2 0 19 c * 27 + (x - 97 + 1))) := e9_withLetter hx0 hx1
  by_cases hh : i - s < 8
  · rw [if_pos hh, zs_self (by rw [e17])]
    simp (disch := first | assumption | omega) only [f_X11_takeLetter, wl, g0, g4, htk, htk1, ec, hv, hp, hst, hh, zz_some, zz_lit, zz_num, zI_lt, zI_le, zI_eq, zI_nat, zz_b, if_pos, if_neg, if_true, if_false]
  · rw [if_neg hh]
    have hp2 := zX_put (σ := σ1) (n := 600) hW hm (k := 2) (d := 0) (c := 17) rfl (by decide) (i := (c : Int)) (v := 4) (by omega) (by omega)
    rw [if_pos (by omega)] at hp2
    simp (disch := first | assumption | omega) only [f_X11_takeLetter, wl, g0, g4, htk, htk1, ec, hv, hp, hst, hh, hp2, zz_some, zz_lit, zz_num, zI_lt, zI_le, zI_eq, zI_nat, zz_b, if_pos, if_neg, if_true, if_false]
theorem e11_takeDigit (hW : zWF E) (hm : zU E 2 0 = true) {c : Nat} (hc : c < 600) (h0 : σ 2 0 16 0 = (c : Int) + 1) {s : Int} (h8 : σ 2 0 18 c = s) {x i : Int} (hx0 : 0 ≤ x) (hx1 : x ≤ 255) (hs : 0 ≤ s) (hi0 : s ≤ i) (hi1 : i < 1000) : f_X11_takeDigit (zH E σ) (zL E 2 0 16) (zI x) (zI i) = some (zH E (zs (zs σ 2 0 19 c (σ 2 0 19 c * 10 + (x - 48))) 2 0 17 c (if i - s < 3 then σ 2 0 17 c else 4))) := by
  have g0 := zg_tk0 (σ := σ) hW hm
  rw [h0] at g0
  have g4 := zg_tk4 (σ := σ) hW hm
  have hv := e11_valueOf (σ := σ) hW hm (i := (c : Int)) (by omega) (by omega)
  have hp := zX_put_ (σ := σ) (n := 600) hW hm (k := 2) (d := 0) (c := 19) rfl (by decide) (i := (c : Int)) (v := σ 2 0 19 c * 10 + (x - 48)) (by omega) (by omega)
  rw [if_pos (by omega)] at hp
  obtain ⟨σ1, e1⟩ : ∃ y, y = zs σ 2 0 19 c (σ 2 0 19 c * 10 + (x - 48)) := ⟨_, rfl⟩
  rw [← e1] at hp ⊢
  have e17 : σ1 2 0 17 = σ 2 0 17 := by rw [e1, zs_ne (by omega)]
  have hst := e11_startOf (σ := σ1) hW hm (C := c + 1) (i := (c : Int)) (by rw [e1, zs_ne (by omega)]; omega) (by omega) (by omega) (by omega)
  rw [show σ1 2 0 18 c = s by rw [e1, zs_ne (by omega)]; exact h8] at hst
  have htk := zz_tko (σ := σ) hW hm
  have htk1 := zz_tko (σ := σ1) hW hm
  have ec : (c : Int) + 1 - 1 = c := by omega
  have ej : (zI (x - 48)).toInt64 = zJ (x - 48) := zJ_I (by omega) (by omega)
  have e10 : (10 : Int64) = zJ 10 := rfl
  have e48 : (48 : Int32) = zI 48 := rfl
  by_cases hh : i - s < 3
  · rw [if_pos hh, zs_self (by rw [e17])]
    simp (disch := first | assumption | omega) only [f_X11_takeDigit, ej, e10, e48, zJ_mul, zJ_add, g0, g4, htk, htk1, ec, hv, hp, hst, hh, zz_some, zz_lit, zz_num, zI_lt, zI_le, zI_eq, zI_nat, zz_b, if_pos, if_neg, if_true, if_false]
  · rw [if_neg hh]
    have hp2 := zX_put (σ := σ1) (n := 600) hW hm (k := 2) (d := 0) (c := 17) rfl (by decide) (i := (c : Int)) (v := 4) (by omega) (by omega)
    rw [if_pos (by omega)] at hp2
    simp (disch := first | assumption | omega) only [f_X11_takeDigit, ej, e10, e48, zJ_mul, zJ_add, g0, g4, htk, htk1, ec, hv, hp, hst, hh, hp2, zz_some, zz_lit, zz_num, zI_lt, zI_le, zI_eq, zI_nat, zz_b, if_pos, if_neg, if_true, if_false]
theorem e11_let_L (hW : zWF E) (hm : zU E 2 0 = true) {c : Nat} (hc : c < 600) {s : Int} (hs : 0 ≤ s) : ∀ (m fuel : Nat) (σ : zW) (j : Int), zTc σ b L → σ 2 0 16 1 = L → σ 2 0 16 0 = (c : Int) + 1 → σ 2 0 18 c = s → σ 2 0 17 c = (if j - s ≤ 8 then 1 else 4) → σ 2 0 19 c = (zw27 (tLs b (j - s).toNat s)) → s + 1 ≤ j → j + m = L → m < fuel → f_X11_read_L15 fuel (zH E σ) (zL E 2 0 16) (zL E 2 0 1) (zI 1) (zI j) = f_X11_read_L15 (fuel - (zrun (tLe b) m j - j).toNat) (zH E (zs (zs σ 2 0 19 c (zw27 (tLs b ((zrun (tLe b) m j) - s).toNat s))) 2 0 17 c (if zrun (tLe b) m j - s ≤ 8 then 1 else 4))) (zL E 2 0 16) (zL E 2 0 1) (zI 1) (zI (zrun (tLe b) m j)) := by
  intro m
  induction m with
  | zero =>
    intro fuel σ j hT h1 h0 h8 h7 h9 hj hjL hf
    have e : zrun (tLe b) 0 j = j := rfl
    rw [e, show (j - j).toNat = 0 by omega, Nat.sub_zero, zs_self h9, zs_self h7]
  | succ m ih =>
    intro fuel σ j hT h1 h0 h8 h7 h9 hj hjL hf
    obtain ⟨f, rfl, hf2⟩ := zfuel hf
    have hL6 := hT.1
    rw [zrun]
    by_cases hp : tLe b j = true
    · rw [if_pos hp]
      have hz := zrun_rng (tLe b) m (j + 1)
      have hk := e3_kindAt hW hm hT (i := j) (by omega) (by omega)
      have hkb : kb b j = 1 := by unfold kb; rw [if_pos hp]
      rw [hkb] at hk
      have hby := e3_byteAt hW hm hT (i := j) (by omega) (by omega)
      have hbr := (hT.2 j (by omega) (by omega)).1
      have hin := zz_inpo (σ := σ) hW hm
      have htk := zz_tko (σ := σ) hW hm
      have gl := zg_tk1 (σ := σ) hW hm
      rw [h1] at gl
      have tl := e11_takeLetter (σ := σ) hW hm hc h0 h8 (x := b j) (i := j) (by omega) (by omega) (by omega) (by omega) (by omega)
      obtain ⟨σ1, e1⟩ : ∃ y, y = zs (zs σ 2 0 19 c (σ 2 0 19 c * 27 + (b j - 97 + 1))) 2 0 17 c (if j - s < 8 then σ 2 0 17 c else 4) := ⟨_, rfl⟩
      rw [← e1] at tl
      have hv : σ 2 0 19 c * 27 + (b j - 97 + 1) = (zw27 (tLs b ((j + 1) - s).toNat s)) := by
        rw [h9, show (j + 1 - s).toNat = (j - s).toNat + 1 by omega, tLs_snoc, show s + ((j - s).toNat : Int) = j by omega]
        unfold zw27
        rw [List.foldl_append]
        rfl
      have hK : (if j - s < 8 then σ 2 0 17 c else 4) = (if j + 1 - s ≤ 8 then 1 else (4 : Int)) := by
        rw [h7]
        by_cases hh : j - s < 8
        · rw [if_pos hh, if_pos (by omega), if_pos (by omega)]
        · rw [if_neg hh, if_neg (by omega)]
      have hih := ih f σ1 (j + 1) (hT.cg (by rw [e1, zs_ne (by omega), zs_ne (by omega)])) (by rw [e1, zs_ne (by omega), zs_ne (by omega)]; exact h1) (by rw [e1, zs_ne (by omega), zs_ne (by omega)]; exact h0) (by rw [e1, zs_ne (by omega), zs_ne (by omega)]; exact h8) (by rw [e1, zs_at, if_pos rfl, hK]) (by rw [e1, zs_ne (by omega), zs_at, if_pos rfl, hv]) (by omega) (by omega) (by omega)
      have hl : f_X11_read_L15 (f + 1) (zH E σ) (zL E 2 0 16) (zL E 2 0 1) (zI 1) (zI j) = f_X11_read_L15 f (zH E σ1) (zL E 2 0 16) (zL E 2 0 1) (zI 1) (zI (j + 1)) := by
        have c1 : ¬ L ≤ j := by omega
        simp (disch := first | assumption | omega) only [f_X11_read_L15, f_X11_read_J55, f_X11_read_J75, gl, c1, hin, htk, hk, hby, tl, zz_some, zz_lit, zz_num, zI_lt, zI_le, zI_eq, zI_nat, zz_b, if_pos, if_neg, if_true, if_false]
      rw [hl, hih]
      rw [show f + 1 - (zrun (tLe b) m (j + 1) - j).toNat = f - (zrun (tLe b) m (j + 1) - (j + 1)).toNat by omega]
      rw [e1, zs2_zs]
    · rw [if_neg hp, show (j - j).toNat = 0 by omega, Nat.sub_zero, zs_self h9, zs_self h7]
theorem e11_dig_L (hW : zWF E) (hm : zU E 2 0 = true) {c : Nat} (hc : c < 600) {s : Int} (hs : 0 ≤ s) : ∀ (m fuel : Nat) (σ : zW) (j : Int), zTc σ b L → σ 2 0 16 1 = L → σ 2 0 16 0 = (c : Int) + 1 → σ 2 0 18 c = s → σ 2 0 17 c = (if j - s ≤ 3 then 2 else 4) → σ 2 0 19 c = (d10 0 (tLs b (j - s).toNat s)) → s + 1 ≤ j → j + m = L → m < fuel → f_X11_read_L15 fuel (zH E σ) (zL E 2 0 16) (zL E 2 0 1) (zI 2) (zI j) = f_X11_read_L15 (fuel - (zrun (tDi b) m j - j).toNat) (zH E (zs (zs σ 2 0 19 c (d10 0 (tLs b ((zrun (tDi b) m j) - s).toNat s))) 2 0 17 c (if zrun (tDi b) m j - s ≤ 3 then 2 else 4))) (zL E 2 0 16) (zL E 2 0 1) (zI 2) (zI (zrun (tDi b) m j)) := by
  intro m
  induction m with
  | zero =>
    intro fuel σ j hT h1 h0 h8 h7 h9 hj hjL hf
    have e : zrun (tDi b) 0 j = j := rfl
    rw [e, show (j - j).toNat = 0 by omega, Nat.sub_zero, zs_self h9, zs_self h7]
  | succ m ih =>
    intro fuel σ j hT h1 h0 h8 h7 h9 hj hjL hf
    obtain ⟨f, rfl, hf2⟩ := zfuel hf
    have hL6 := hT.1
    rw [zrun]
    by_cases hp : tDi b j = true
    · rw [if_pos hp]
      have hz := zrun_rng (tDi b) m (j + 1)
      have hk := e3_kindAt hW hm hT (i := j) (by omega) (by omega)
      have hkb : kb b j = 2 := by unfold kb; rw [if_neg (fun z => tLe_tDi z hp), if_pos hp]
      rw [hkb] at hk
      have hby := e3_byteAt hW hm hT (i := j) (by omega) (by omega)
      have hbr := (hT.2 j (by omega) (by omega)).1
      have hin := zz_inpo (σ := σ) hW hm
      have htk := zz_tko (σ := σ) hW hm
      have gl := zg_tk1 (σ := σ) hW hm
      rw [h1] at gl
      have tl := e11_takeDigit (σ := σ) hW hm hc h0 h8 (x := b j) (i := j) (by omega) (by omega) (by omega) (by omega) (by omega)
      obtain ⟨σ1, e1⟩ : ∃ y, y = zs (zs σ 2 0 19 c (σ 2 0 19 c * 10 + (b j - 48))) 2 0 17 c (if j - s < 3 then σ 2 0 17 c else 4) := ⟨_, rfl⟩
      rw [← e1] at tl
      have hv : σ 2 0 19 c * 10 + (b j - 48) = (d10 0 (tLs b ((j + 1) - s).toNat s)) := by
        rw [h9, show (j + 1 - s).toNat = (j - s).toNat + 1 by omega, tLs_snoc, show s + ((j - s).toNat : Int) = j by omega]
        unfold d10
        rw [List.foldl_append]
        rfl
      have hK : (if j - s < 3 then σ 2 0 17 c else 4) = (if j + 1 - s ≤ 3 then 2 else (4 : Int)) := by
        rw [h7]
        by_cases hh : j - s < 3
        · rw [if_pos hh, if_pos (by omega), if_pos (by omega)]
        · rw [if_neg hh, if_neg (by omega)]
      have hih := ih f σ1 (j + 1) (hT.cg (by rw [e1, zs_ne (by omega), zs_ne (by omega)])) (by rw [e1, zs_ne (by omega), zs_ne (by omega)]; exact h1) (by rw [e1, zs_ne (by omega), zs_ne (by omega)]; exact h0) (by rw [e1, zs_ne (by omega), zs_ne (by omega)]; exact h8) (by rw [e1, zs_at, if_pos rfl, hK]) (by rw [e1, zs_ne (by omega), zs_at, if_pos rfl, hv]) (by omega) (by omega) (by omega)
      have hl : f_X11_read_L15 (f + 1) (zH E σ) (zL E 2 0 16) (zL E 2 0 1) (zI 2) (zI j) = f_X11_read_L15 f (zH E σ1) (zL E 2 0 16) (zL E 2 0 1) (zI 2) (zI (j + 1)) := by
        have c1 : ¬ L ≤ j := by omega
        simp (disch := first | assumption | omega) only [f_X11_read_L15, f_X11_read_J55, f_X11_read_J75, gl, c1, hin, htk, hk, hby, tl, zz_some, zz_lit, zz_num, zI_lt, zI_le, zI_eq, zI_nat, zz_b, if_pos, if_neg, if_true, if_false]
      rw [hl, hih]
      rw [show f + 1 - (zrun (tDi b) m (j + 1) - j).toNat = f - (zrun (tDi b) m (j + 1) - (j + 1)).toNat by omega]
      rw [e1, zs2_zs]
    · rw [if_neg hp, show (j - j).toNat = 0 by omega, Nat.sub_zero, zs_self h9, zs_self h7]
theorem zrun_stop {P : Int → Bool} : ∀ (m : Nat) (p : Int), zrun P m p < p + m → P (zrun P m p) = false := by
  intro m
  induction m with
  | zero => intro p h; simp [zrun] at h
  | succ m ih =>
    intro p h
    rw [zrun] at h ⊢
    by_cases hp : P p = true
    · rw [if_pos hp] at h ⊢
      exact ih (p + 1) (by omega)
    · rw [if_neg hp]
      simpa using hp
theorem e11_sel {α : Type} {v : Int} (hv : v = 0 ∨ v = 3 ∨ v = 4) {x : Int32} {A A' B : α} : (if zI v = x then (if zI v = (1 : Int32) then A else if zI v = (2 : Int32) then A' else B) else B) = B := by
  have h1 : ¬ zI v = (1 : Int32) := by rcases hv with rfl | rfl | rfl <;> decide
  have h2 : ¬ zI v = (2 : Int32) := by rcases hv with rfl | rfl | rfl <;> decide
  rw [if_neg h1, if_neg h2]
  split <;> rfl
theorem e11_J75 {k : gH → Nat → Nat → Int32 → Int32 → Option gH} {G : gH} {p q : Nat} {i v : Int} (hv : v = 0 ∨ v = 3 ∨ v = 4) : f_X11_read_J75 k G p q (zI i) (zI v) = k G p q (zI v) (zI (i + 1)) := by
  have h1 : ¬ zI v = (1 : Int32) := by rcases hv with rfl | rfl | rfl <;> decide
  have h2 : ¬ zI v = (2 : Int32) := by rcases hv with rfl | rfl | rfl <;> decide
  unfold f_X11_read_J75
  rw [if_neg h1, if_neg h2, show (1 : Int32) = zI 1 from rfl, zI_add]
theorem e11_J55_0 {k : gH → Nat → Nat → Int32 → Int32 → Option gH} {G : gH} {p q : Nat} {i : Int} {z : Int32} : f_X11_read_J55 k G p q (zI i) (zI 0) z = k G p q (zI 0) (zI (i + 1)) := by
  unfold f_X11_read_J55
  rw [if_pos (show zI 0 = (0 : Int32) from rfl)]
  exact e11_J75 (Or.inl rfl)
theorem e11_one (hW : zWF E) (hm : zU E 2 0 = true) (hT : zTc σ b L) (h1 : σ 2 0 16 1 = L) {f : Nat} {i : Int} (h0 : 0 ≤ i) (hi : i < L) (hkb : kb b i = 0 ∨ kb b i = 3 ∨ kb b i = 4) {x : Int32} : f_X11_read_L15 (f + 1) (zH E σ) (zL E 2 0 16) (zL E 2 0 1) x (zI i) = f_X11_read_J55 (f_X11_read_L15 f) (zH E σ) (zL E 2 0 16) (zL E 2 0 1) (zI i) (zI (kb b i)) (0 : Int32) := by
  have hL6 := hT.1
  have hk := e3_kindAt hW hm hT (i := i) h0 hi
  have hin := (zz_inpo (σ := σ) hW hm).2
  have gl := zg_tk1 (σ := σ) hW hm
  rw [h1] at gl
  have c1 : ¬ zI L ≤ zI i := by rw [zI_le (by omega) (by omega) (by omega) (by omega)]; omega
  rw [f_X11_read_L15, gl, zz_some, if_neg c1, hin, zz_some, hk, zz_some]
  exact e11_sel hkb
theorem e11_ws_L (hW : zWF E) (hm : zU E 2 0 = true) (hT : zTc σ b L) (h1 : σ 2 0 16 1 = L) : ∀ (m fuel : Nat) (i bf : Int), 0 ≤ i → i + m = L → m < fuel → 0 ≤ bf → bf ≤ 4 → ∃ bf', f_X11_read_L15 fuel (zH E σ) (zL E 2 0 16) (zL E 2 0 1) (zI bf) (zI i) = f_X11_read_L15 (fuel - (zrun (tWh b) m i - i).toNat) (zH E σ) (zL E 2 0 16) (zL E 2 0 1) (zI bf') (zI (zrun (tWh b) m i)) ∧ (bf' = 0 ∨ (bf' = bf ∧ zrun (tWh b) m i = i)) := by
  intro m
  induction m with
  | zero =>
    intro fuel i bf h0 hi hf hb0 hb1
    refine ⟨bf, ?_, Or.inr ⟨rfl, rfl⟩⟩
    simp only [zrun]
    rw [show (i - i).toNat = 0 by omega, Nat.sub_zero]
  | succ m ih =>
    intro fuel i bf h0 hi hf hb0 hb1
    obtain ⟨f, rfl, hf2⟩ := zfuel hf
    have hL6 := hT.1
    rw [zrun]
    by_cases hp : tWh b i = true
    · rw [if_pos hp]
      have hz := zrun_rng (tWh b) m (i + 1)
      have hkb : kb b i = 0 := by
        unfold tWh at hp
        simp only [decide_eq_true_eq] at hp
        unfold kb tLe tDi tWh
        rw [if_neg (by simp; omega), if_neg (by simp; omega), if_pos (by simp; omega)]
      obtain ⟨bf', q1, q2⟩ := ih f (i + 1) 0 (by omega) (by omega) (by omega) (by omega) (by omega)
      refine ⟨bf', ?_, Or.inl (by rcases q2 with q2 | q2; exact q2; exact q2.1)⟩
      rw [show f + 1 - (zrun (tWh b) m (i + 1) - i).toNat = f - (zrun (tWh b) m (i + 1) - (i + 1)).toNat by omega, ← q1, e11_one hW hm hT h1 h0 (by omega) (Or.inl hkb), hkb]
      exact e11_J55_0
    · rw [if_neg hp]
      refine ⟨bf, ?_, Or.inr ⟨rfl, rfl⟩⟩
      rw [show (i - i).toNat = 0 by omega, Nat.sub_zero]
/-- a new token -/
def zBg (σ : zW) (c : Int) (k s : Int) : zW := zs (zs (zs (zs σ 2 0 17 c k) 2 0 18 c s) 2 0 19 c 0) 2 0 16 0 (c + 1)
theorem e11_begin (hW : zWF E) (hm : zU E 2 0 = true) {c : Nat} (hc : c < 600) (h0 : σ 2 0 16 0 = (c : Int)) {k s : Int} : f_X11_begin (zH E σ) (zL E 2 0 16) (zI k) (zI s) = some (zH E (zBg σ c k s)) := by
  have g0 := zg_tk0 (σ := σ) hW hm
  rw [h0] at g0
  have g2 := zg_tk2 (σ := σ) hW hm
  have p1 := zX_put (σ := σ) (n := 600) hW hm (k := 2) (d := 0) (c := 17) rfl (by decide) (i := (c : Int)) (v := k) (by omega) (by omega)
  rw [if_pos (by omega)] at p1
  obtain ⟨σ1, e1⟩ : ∃ y, y = zs σ 2 0 17 c k := ⟨_, rfl⟩
  rw [← e1] at p1
  have g01 := zg_tk0 (σ := σ1) hW hm
  rw [show σ1 2 0 16 0 = (c : Int) by rw [e1, zs_ne (by omega)]; exact h0] at g01
  have g31 := zg_tk3 (σ := σ1) hW hm
  have p2 := zX_put (σ := σ1) (n := 600) hW hm (k := 2) (d := 0) (c := 18) rfl (by decide) (i := (c : Int)) (v := s) (by omega) (by omega)
  rw [if_pos (by omega)] at p2
  obtain ⟨σ2, e2⟩ : ∃ y, y = zs σ1 2 0 18 c s := ⟨_, rfl⟩
  rw [← e2] at p2
  have g02 := zg_tk0 (σ := σ2) hW hm
  rw [show σ2 2 0 16 0 = (c : Int) by rw [e2, zs_ne (by omega), e1, zs_ne (by omega)]; exact h0] at g02
  have g42 := zg_tk4 (σ := σ2) hW hm
  have p3 := zX_put_ (σ := σ2) (n := 600) hW hm (k := 2) (d := 0) (c := 19) rfl (by decide) (i := (c : Int)) (v := 0) (by omega) (by omega)
  rw [if_pos (by omega)] at p3
  obtain ⟨σ3, e3⟩ : ∃ y, y = zs σ2 2 0 19 c 0 := ⟨_, rfl⟩
  rw [← e3] at p3
  have g03 := zg_tk0 (σ := σ3) hW hm
  rw [show σ3 2 0 16 0 = (c : Int) by rw [e3, zs_ne (by omega), e2, zs_ne (by omega), e1, zs_ne (by omega)]; exact h0] at g03
  have p4 := zp_tk0 (σ := σ3) hW hm ((c : Int) + 1)
  have ez : (0 : Int64) = zJ 0 := rfl
  have hB : zBg σ c k s = zs σ3 2 0 16 0 ((c : Int) + 1) := by rw [e3, e2, e1]; rfl
  rw [hB]
  simp (disch := first | assumption | omega) only [f_X11_begin, g0, g2, p1, g01, g31, p2, g02, g42, ez, p3, g03, p4, zz_some, zz_lit, zz_num, zI_lt, zI_le, zI_eq, zI_nat, zz_b, if_pos, if_neg, if_true, if_false]
theorem zBg_r {c k s : Int} : zBg σ c k s 2 0 16 0 = c + 1 ∧ zBg σ c k s 2 0 16 1 = σ 2 0 16 1 ∧ zBg σ c k s 2 0 17 c = k ∧ zBg σ c k s 2 0 18 c = s ∧ zBg σ c k s 2 0 19 c = 0 ∧ (∀ j, j ≠ c → zBg σ c k s 2 0 17 j = σ 2 0 17 j ∧ zBg σ c k s 2 0 18 j = σ 2 0 18 j ∧ zBg σ c k s 2 0 19 j = σ 2 0 19 j) ∧ zFt σ (zBg σ c k s) := by
  refine ⟨by simp [zBg, zs], by simp [zBg, zs], by simp [zBg, zs], by simp [zBg, zs], by simp [zBg, zs], fun j hj => ⟨by simp [zBg, zs, hj], by simp [zBg, zs, hj], by simp [zBg, zs, hj]⟩, fun k' d' c' z => ?_⟩
  unfold zBg
  rw [zs_ne (by omega), zs_ne (by omega), zs_ne (by omega), zs_ne (by omega)]
/-- what stands at a token's place is no part of the token ahead -/
def zBd (b : Int → Int) (L p bf : Int) : Prop := (0 ≤ bf ∧ bf ≤ 4) ∧ (p < L → bf = 1 → tLe b p = false) ∧ (p < L → bf = 2 → tDi b p = false)
theorem e11_tok (hW : zWF E) (hm : zU E 2 0 = true) (hL : 0 ≤ L) {c : Nat} (hT : zTc σ b L) (hk : zTk σ b L c) {fuel : Nat} {bf : Int} (hf : (L - tp b L c).toNat < fuel) (hb : zBd b L (tp b L c) bf) :
    (tK b L (tp b L c) = 0 ∧ f_X11_read_L15 fuel (zH E σ) (zL E 2 0 16) (zL E 2 0 1) (zI bf) (zI (tp b L c)) = some (zH E σ)) ∨
    (tK b L (tp b L c) ≠ 0 ∧ ∃ (σ' : zW) (fu : Nat) (bf' : Int), f_X11_read_L15 fuel (zH E σ) (zL E 2 0 16) (zL E 2 0 1) (zI bf) (zI (tp b L c)) = f_X11_read_L15 fu (zH E σ') (zL E 2 0 16) (zL E 2 0 1) (zI bf') (zI (tp b L (c + 1))) ∧ (L - tp b L (c + 1)).toNat < fu ∧ zFt σ σ' ∧ zTk σ' b L (c + 1) ∧ zBd b L (tp b L (c + 1)) bf') := by
  obtain ⟨p0, pL⟩ := tp_rng (b := b) hL c
  obtain ⟨k0, k1, k2⟩ := hk
  have hge := tp_ge hL c (fun i hi => (k2 i hi).2)
  obtain ⟨p, hp⟩ : ∃ p, p = tp b L c := ⟨_, rfl⟩
  have hp' : tp b L (c + 1) = tE b L p := by rw [hp]; rfl
  rw [← hp] at hf hb p0 pL hge ⊢
  rw [hp']
  have hL6 := hT.1
  have hs := tS_rng (b := b) pL
  have he := tE_rng (b := b) pL
  obtain ⟨bf1, w1, w2⟩ := e11_ws_L hW hm hT k1 (L - p).toNat fuel p bf p0 (by omega) hf hb.1.1 hb.1.2
  have hS : zrun (tWh b) (L - p).toNat p = tS b L p := rfl
  rw [hS] at w1 w2
  obtain ⟨s, hse⟩ : ∃ s, s = tS b L p := ⟨_, rfl⟩
  rw [← hse] at w1 w2 hs he
  obtain ⟨fu, hfu⟩ : ∃ fu, fu = fuel - (s - p).toNat := ⟨_, rfl⟩
  rw [← hfu] at w1
  have hfu1 : (L - s).toNat < fu := by omega
  have hb1 : zBd b L s bf1 := by
    rcases w2 with h | ⟨h, h2⟩
    · rw [h]
      exact ⟨by omega, fun _ z => absurd z (by omega), fun _ z => absurd z (by omega)⟩
    · rw [h, h2]
      exact hb
  have gl := zg_tk1 (σ := σ) hW hm
  rw [k1] at gl
  obtain ⟨f, rfl, hf2⟩ := zfuel hfu1
  rw [w1]
  by_cases c1 : L ≤ s
  · refine Or.inl ⟨(tK_0 pL).mpr (by rw [← hse]; exact c1), ?_⟩
    simp (disch := first | assumption | omega) only [f_X11_read_L15, gl, c1, zz_some, zz_lit, zz_num, zI_lt, zI_le, zI_eq, zI_nat, zz_b, if_pos, if_neg, if_true, if_false]
  · refine Or.inr ⟨fun z => c1 (by rw [hse]; exact (tK_0 pL).mp z), ?_⟩
    have hc6 : c < 600 := by omega
    have hin := zz_inpo (σ := σ) hW hm
    have htk := zz_tko (σ := σ) hW hm
    have hka := e3_kindAt hW hm hT (i := s) (by omega) (by omega)
    have hby := fun σ' (hT' : zTc σ' b L) => e3_byteAt (σ := σ') hW hm hT' (i := s) (by omega) (by omega)
    have hbr := (hT.2 s (by omega) (by omega)).1
    have hkr := kb_rng b s
    have hbg := e11_begin (σ := σ) hW hm hc6 k0 (k := kb b s) (s := s)
    obtain ⟨z1, z2, z3, z4, z5, z6, z7⟩ := zBg_r (σ := σ) (c := (c : Int)) (k := kb b s) (s := s)
    obtain ⟨σ1, e1⟩ : ∃ y, y = zBg σ c (kb b s) s := ⟨_, rfl⟩
    rw [← e1] at hbg z1 z2 z3 z4 z5 z6 z7
    have hT1 : zTc σ1 b L := hT.cg (z7 2 0 2 (by omega))
    have hby1 := hby σ1 hT1
    have hin1 := zz_inpo (σ := σ1) hW hm
    have htk1 := zz_tko (σ := σ1) hW hm
    have hwn : tWh b s = false := by
      have := zrun_stop (P := tWh b) (L - p).toNat p (by rw [hS, ← hse]; omega)
      rw [hS, ← hse] at this
      exact this
    have hold : ∀ (σ' : zW), (∀ j, j ≠ (c : Int) → σ' 2 0 17 j = σ 2 0 17 j ∧ σ' 2 0 18 j = σ 2 0 18 j ∧ σ' 2 0 19 j = σ 2 0 19 j) → σ' 2 0 16 0 = (c : Int) + 1 → σ' 2 0 16 1 = L → σ' 2 0 17 c = tK b L p → σ' 2 0 18 c = s → (tK b L p = 2 → σ' 2 0 19 c = tV b L p) → (tK b L p = 1 → σ' 2 0 19 c = zw27 (tW b L p)) → zTk σ' b L (c + 1) := by
      intro σ' y1 y2 y3 y4 y5 y6 y7
      refine ⟨by rw [y2]; omega, y3, fun i hi => ?_⟩
      by_cases hic : i = c
      · subst hic
        unfold zTr
        rw [← hp]
        exact ⟨⟨y4, y5.trans hse, y6, y7⟩, fun z => c1 (by rw [hse]; exact (tK_0 pL).mp z)⟩
      · have hy := y1 i (by omega)
        have hz := k2 i (by omega)
        unfold zTr at hz ⊢
        rw [hy.1, hy.2.1, hy.2.2]
        exact hz
    by_cases cl : tLe b s = true
    · -- a word
      have hkb : kb b s = 1 := by unfold kb; rw [if_pos cl]
      have hne : ¬ (1 : Int) = bf1 := fun z => by
        have := hb1.2.1 (by omega) z.symm
        rw [cl] at this
        cases this
      have hEe : tE b L p = zrun (tLe b) (L - s).toNat s := by unfold tE; rw [← hse, if_neg c1, if_pos cl]
      have hKe : tK b L p = if tE b L p - s ≤ 8 then 1 else 4 := by unfold tK; rw [← hse, if_neg c1, if_pos cl]
      have hz2 : zrun (tLe b) (L - s).toNat s = zrun (tLe b) (L - s - 1).toNat (s + 1) := by
        rw [show (L - s).toNat = (L - s - 1).toNat + 1 by omega, zrun, if_pos cl]
      rw [hkb] at hka hbg z3
      have tl := e11_takeLetter (σ := σ1) hW hm hc6 z1 z4 (x := b s) (i := s) (by omega) (by omega) (by omega) (by omega) (by omega)
      rw [if_pos (by omega), zs_self (c := 17) (by rw [zs_ne (by omega)])] at tl
      obtain ⟨σ2, e2⟩ : ∃ y, y = zs σ1 2 0 19 c (σ1 2 0 19 c * 27 + (b s - 97 + 1)) := ⟨_, rfl⟩
      rw [← e2] at tl
      have hl : f_X11_read_L15 (f + 1) (zH E σ) (zL E 2 0 16) (zL E 2 0 1) (zI bf1) (zI s) = f_X11_read_L15 f (zH E σ2) (zL E 2 0 16) (zL E 2 0 1) (zI 1) (zI (s + 1)) := by
        have hb10 := hb1.1
        simp (disch := first | assumption | omega) only [f_X11_read_L15, f_X11_read_J55, f_X11_read_J75, gl, c1, hin, htk, hka, hne, hbg, hin1, htk1, hby1, tl, zz_some, zz_lit, zz_num, zI_lt, zI_le, zI_eq, zI_nat, zz_b, if_pos, if_neg, if_true, if_false]
      have hrun := e11_let_L (b := b) (L := L) hW hm hc6 (s := s) (by omega) (L - s - 1).toNat f σ2 (s + 1) (hT1.cg (by rw [e2, zs_ne (by omega)])) (by rw [e2, zs_ne (by omega), z2]; exact k1) (by rw [e2, zs_ne (by omega)]; exact z1) (by rw [e2, zs_ne (by omega)]; exact z4) (by rw [e2, zs_ne (by omega), z3, if_pos (by omega)]) (by
        rw [e2, zs_at, if_pos rfl, z5, show (s + 1 - s).toNat = 0 + 1 by omega]
        show (0 : Int) * 27 + (b s - 97 + 1) = zw27 [b s]
        rfl) (by omega) (by omega) (by omega)
      rw [← hz2, ← hEe] at hrun
      obtain ⟨σ3, e3⟩ : ∃ y, y = zs (zs σ2 2 0 19 c (zw27 (tLs b (tE b L p - s).toNat s))) 2 0 17 c (if tE b L p - s ≤ 8 then 1 else 4) := ⟨_, rfl⟩
      rw [← e3] at hrun
      refine ⟨σ3, _, 1, by rw [hl, hrun], by omega, fun k d c' z => by rw [e3, zs_ne (by omega), zs_ne (by omega), e2, zs_ne (by omega), z7 k d c' z], hold σ3 (fun j hj => ?_) ?_ ?_ ?_ ?_ (fun h2 => ?_) (fun h1 => ?_), by omega, fun hlt _ => ?_, fun _ z => absurd z (by omega)⟩
      · obtain ⟨q1, q2, q3⟩ := z6 j hj
        refine ⟨?_, ?_, ?_⟩
        · rw [e3, zs_at, if_neg hj, zs_ne (by omega), e2, zs_ne (by omega)]; exact q1
        · rw [e3, zs_ne (by omega), zs_ne (by omega), e2, zs_ne (by omega)]; exact q2
        · rw [e3, zs_ne (by omega), zs_at, if_neg hj, e2, zs_at, if_neg hj]; exact q3
      · rw [e3, zs_ne (by omega), zs_ne (by omega), e2, zs_ne (by omega)]; exact z1
      · rw [e3, zs_ne (by omega), zs_ne (by omega), e2, zs_ne (by omega), z2]; exact k1
      · rw [e3, zs_at, if_pos rfl, hKe]
      · rw [e3, zs_ne (by omega), zs_ne (by omega), e2, zs_ne (by omega)]; exact z4
      · rw [hKe] at h2
        split at h2 <;> omega
      · rw [hKe] at h1
        have h8 : tE b L p - s ≤ 8 := by
          by_cases h : tE b L p - s ≤ 8
          · exact h
          · rw [if_neg h] at h1; omega
        rw [e3, zs_ne (by omega), zs_at, if_pos rfl]
        unfold tW
        rw [← hse, show min (tE b L p - s) 8 = tE b L p - s by omega]
      · rw [hEe]
        exact zrun_stop _ _ (by rw [← hEe]; omega)
    · by_cases cd : tDi b s = true
      · -- a number
        have hkb : kb b s = 2 := by unfold kb; rw [if_neg cl, if_pos cd]
        have hne : ¬ (2 : Int) = bf1 := fun z => by
          have := hb1.2.2 (by omega) z.symm
          rw [cd] at this
          cases this
        have hEe : tE b L p = zrun (tDi b) (L - s).toNat s := by unfold tE; rw [← hse, if_neg c1, if_neg cl, if_pos cd]
        have hKe : tK b L p = if tE b L p - s ≤ 3 then 2 else 4 := by unfold tK; rw [← hse, if_neg c1, if_neg cl, if_pos cd]
        have hz2 : zrun (tDi b) (L - s).toNat s = zrun (tDi b) (L - s - 1).toNat (s + 1) := by
          rw [show (L - s).toNat = (L - s - 1).toNat + 1 by omega, zrun, if_pos cd]
        rw [hkb] at hka hbg z3
        have tl := e11_takeDigit (σ := σ1) hW hm hc6 z1 z4 (x := b s) (i := s) (by omega) (by omega) (by omega) (by omega) (by omega)
        rw [if_pos (by omega), zs_self (c := 17) (by rw [zs_ne (by omega)])] at tl
        obtain ⟨σ2, e2⟩ : ∃ y, y = zs σ1 2 0 19 c (σ1 2 0 19 c * 10 + (b s - 48)) := ⟨_, rfl⟩
        rw [← e2] at tl
        have hl : f_X11_read_L15 (f + 1) (zH E σ) (zL E 2 0 16) (zL E 2 0 1) (zI bf1) (zI s) = f_X11_read_L15 f (zH E σ2) (zL E 2 0 16) (zL E 2 0 1) (zI 2) (zI (s + 1)) := by
          have hb10 := hb1.1
          simp (disch := first | assumption | omega) only [f_X11_read_L15, f_X11_read_J55, f_X11_read_J75, gl, c1, hin, htk, hka, hne, hbg, hin1, htk1, hby1, tl, zz_some, zz_lit, zz_num, zI_lt, zI_le, zI_eq, zI_nat, zz_b, if_pos, if_neg, if_true, if_false]
        have hrun := e11_dig_L (b := b) (L := L) hW hm hc6 (s := s) (by omega) (L - s - 1).toNat f σ2 (s + 1) (hT1.cg (by rw [e2, zs_ne (by omega)])) (by rw [e2, zs_ne (by omega), z2]; exact k1) (by rw [e2, zs_ne (by omega)]; exact z1) (by rw [e2, zs_ne (by omega)]; exact z4) (by rw [e2, zs_ne (by omega), z3, if_pos (by omega)]) (by
          rw [e2, zs_at, if_pos rfl, z5, show (s + 1 - s).toNat = 0 + 1 by omega]
          show (0 : Int) * 10 + (b s - 48) = d10 0 [b s]
          rfl) (by omega) (by omega) (by omega)
        rw [← hz2, ← hEe] at hrun
        obtain ⟨σ3, e3⟩ : ∃ y, y = zs (zs σ2 2 0 19 c (d10 0 (tLs b (tE b L p - s).toNat s))) 2 0 17 c (if tE b L p - s ≤ 3 then 2 else 4) := ⟨_, rfl⟩
        rw [← e3] at hrun
        refine ⟨σ3, _, 2, by rw [hl, hrun], by omega, fun k d c' z => by rw [e3, zs_ne (by omega), zs_ne (by omega), e2, zs_ne (by omega), z7 k d c' z], hold σ3 (fun j hj => ?_) ?_ ?_ ?_ ?_ (fun h2 => ?_) (fun h1 => ?_), by omega, fun _ z => absurd z (by omega), fun hlt _ => ?_⟩
        · obtain ⟨q1, q2, q3⟩ := z6 j hj
          refine ⟨?_, ?_, ?_⟩
          · rw [e3, zs_at, if_neg hj, zs_ne (by omega), e2, zs_ne (by omega)]; exact q1
          · rw [e3, zs_ne (by omega), zs_ne (by omega), e2, zs_ne (by omega)]; exact q2
          · rw [e3, zs_ne (by omega), zs_at, if_neg hj, e2, zs_at, if_neg hj]; exact q3
        · rw [e3, zs_ne (by omega), zs_ne (by omega), e2, zs_ne (by omega)]; exact z1
        · rw [e3, zs_ne (by omega), zs_ne (by omega), e2, zs_ne (by omega), z2]; exact k1
        · rw [e3, zs_at, if_pos rfl, hKe]
        · rw [e3, zs_ne (by omega), zs_ne (by omega), e2, zs_ne (by omega)]; exact z4
        · rw [hKe] at h2
          have h8 : tE b L p - s ≤ 3 := by
            by_cases h : tE b L p - s ≤ 3
            · exact h
            · rw [if_neg h] at h2; omega
          rw [e3, zs_ne (by omega), zs_at, if_pos rfl]
          unfold tV
          rw [← hse, show min (tE b L p - s) 3 = tE b L p - s by omega]
        · rw [hKe] at h1
          split at h1 <;> omega
        · rw [hEe]
          exact zrun_stop _ _ (by rw [← hEe]; omega)
      · -- one byte
        have hEe : tE b L p = s + 1 := by unfold tE; rw [← hse, if_neg c1, if_neg cl, if_neg cd]
        have hKe : tK b L p = if b s = 59 then 3 else 4 := by unfold tK; rw [← hse, if_neg c1, if_neg cl, if_neg cd]
        have hkb : kb b s = if b s = 59 then 3 else 4 := by unfold kb; rw [if_neg cl, if_neg cd, if_neg (by rw [hwn]; simp)]
        have hk34 : kb b s = 3 ∨ kb b s = 4 := by rw [hkb]; split <;> omega
        have hl : f_X11_read_L15 (f + 1) (zH E σ) (zL E 2 0 16) (zL E 2 0 1) (zI bf1) (zI s) = f_X11_read_L15 f (zH E σ1) (zL E 2 0 16) (zL E 2 0 1) (zI (kb b s)) (zI (s + 1)) := by
          have hz0 : ¬ zI (kb b s) = (0 : Int32) := by rcases hk34 with h | h <;> rw [h] <;> decide
          rw [e11_one hW hm hT k1 (by omega) (by omega) (Or.inr hk34)]
          unfold f_X11_read_J55
          rw [if_neg hz0, if_pos rfl, htk.2.2.2, zz_some, hbg, zz_some]
          exact e11_J75 (Or.inr hk34)
        rw [hEe]
        refine ⟨σ1, f, kb b s, hl, by omega, z7, hold σ1 z6 z1 (by rw [z2]; exact k1) (by rw [z3, hkb, hKe]) z4 (fun h2 => ?_) (fun h1 => ?_), hkr, fun _ z => absurd z (by omega), fun _ z => absurd z (by omega)⟩
        · rw [hKe] at h2
          split at h2 <;> omega
        · rw [hKe] at h1
          split at h1 <;> omega
theorem e11_all (hW : zWF E) (hm : zU E 2 0 = true) (hL : 0 ≤ L) : ∀ (m fuel : Nat) (σ : zW) (c : Nat) (bf : Int), zTc σ b L → zTk σ b L c → L - tp b L c ≤ m → (L - tp b L c).toNat < fuel → zBd b L (tp b L c) bf → ∃ (σ' : zW) (C : Nat), f_X11_read_L15 fuel (zH E σ) (zL E 2 0 16) (zL E 2 0 1) (zI bf) (zI (tp b L c)) = some (zH E σ') ∧ zFt σ σ' ∧ zTk σ' b L C ∧ tK b L (tp b L C) = 0 := by
  intro m
  induction m with
  | zero =>
    intro fuel σ c bf hT hk hm0 hf hb
    rcases e11_tok hW hm hL hT hk hf hb with ⟨h1, h2⟩ | ⟨h1, -⟩
    · exact ⟨σ, c, h2, zFt.rf, hk, h1⟩
    · have h3 := tK_E (tp_rng (b := b) hL c).2 h1
      have h4 := (tE_rng (b := b) (tp_rng (b := b) hL c).2).2.1
      omega
  | succ m ih =>
    intro fuel σ c bf hT hk hm0 hf hb
    rcases e11_tok hW hm hL hT hk hf hb with ⟨h1, h2⟩ | ⟨h1, σ1, fu, bf1, q1, q2, q3, q4, q5⟩
    · exact ⟨σ, c, h2, zFt.rf, hk, h1⟩
    · have h3 := tK_E (tp_rng (b := b) hL c).2 h1
      have hE : tp b L (c + 1) = tE b L (tp b L c) := rfl
      obtain ⟨σ', C, r1, r2, r3, r4⟩ := ih fu σ1 (c + 1) bf1 (hT.cg (q3 2 0 2 (by omega))) q4 (by omega) q2 q5
      exact ⟨σ', C, q1.trans r1, q3.tr r2, r3, r4⟩
theorem e11_read (hW : zWF E) (hm : zU E 2 0 = true) (hL : 0 ≤ L) (hT : zTc σ b L) : ∃ (σ' : zW) (C : Nat), f_X11_read (zH E σ) (zL E 2 0 16) (zL E 2 0 1) (zI L) = some (zH E σ') ∧ zFt σ σ' ∧ zTk σ' b L C ∧ tK b L (tp b L C) = 0 := by
  have hL6 := hT.1
  have p1 := zp_tk1 (σ := σ) hW hm L
  obtain ⟨σ1, e1⟩ : ∃ y, y = zs σ 2 0 16 1 L := ⟨_, rfl⟩
  rw [← e1] at p1
  have p0 := zp_tk0 (σ := σ1) hW hm 0
  obtain ⟨σ2, e2⟩ : ∃ y, y = zs σ1 2 0 16 0 0 := ⟨_, rfl⟩
  rw [← e2] at p0
  have f2 : zFt σ σ2 := fun k d c z => by rw [e2, zs_ne (by omega), e1, zs_ne (by omega)]
  obtain ⟨σ', C, r1, r2, r3, r4⟩ := e11_all (b := b) hW hm hL L.toNat g_N σ2 0 0 (hT.cg (f2 2 0 2 (by omega))) ⟨by rw [e2, zs_at, if_pos rfl]; rfl, by rw [e2, zs_at, if_neg (by omega), e1, zs_at, if_pos rfl], fun i hi => absurd hi (by omega)⟩ (by show L - 0 ≤ _; omega) (by show (L - 0).toNat < _; unfold g_N; omega) ⟨by omega, fun _ z => absurd z (by omega), fun _ z => absurd z (by omega)⟩
  refine ⟨σ', C, ?_, f2.tr r2, r3, r4⟩
  have r1 : f_X11_read_L15 g_N (zH E σ2) (zL E 2 0 16) (zL E 2 0 1) (zI 0) (zI 0) = some (zH E σ') := r1
  simp (disch := first | assumption | omega) only [f_X11_read, p1, p0, r1, zz_some, zz_lit, zz_num, zI_lt, zI_le, zI_eq, zI_nat, zz_b, if_pos, if_neg, if_true, if_false]
end zTxt

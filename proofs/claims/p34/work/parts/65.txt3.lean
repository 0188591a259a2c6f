/-! Words and names. -/
def zfo (B : Int) (g : Int → Int) (a : Int) (l : List Int) : Int := l.foldl (fun a x => a * B + g x) a
theorem zfo_snoc (B : Int) (g : Int → Int) (a : Int) (l : List Int) (x : Int) : zfo B g a (l ++ [x]) = zfo B g a l * B + g x := by
  unfold zfo
  rw [List.foldl_append]
  rfl
theorem zfo_rng {B : Int} {g : Int → Int} (hB : 2 ≤ B) : ∀ (l : List Int) (a : Int), (∀ x ∈ l, 0 ≤ g x ∧ g x < B) → 0 ≤ a → 0 ≤ zfo B g a l ∧ zfo B g a l < (a + 1) * B ^ l.length := by
  intro l
  induction l with
  | nil => intro a _ h; simp [zfo]; omega
  | cons x l ih =>
    intro a hx h
    have hx0 := hx x (List.mem_cons_self ..)
    have h1 : 0 ≤ a * B := Int.mul_nonneg h (by omega)
    have := ih (a * B + g x) (fun y hy => hx y (List.mem_cons_of_mem _ hy)) (by omega)
    show 0 ≤ zfo B g (a * B + g x) l ∧ zfo B g (a * B + g x) l < _
    refine ⟨this.1, Int.lt_of_lt_of_le this.2 ?_⟩
    rw [List.length_cons, Int.pow_succ, Int.mul_comm (B ^ l.length) B, ← Int.mul_assoc]
    refine Int.mul_le_mul_of_nonneg_right ?_ (Int.pow_nonneg (by omega))
    rw [Int.add_mul, Int.one_mul]
    omega
theorem zfo_inj {B : Int} {g : Int → Int} (hB : 2 ≤ B) (hg : ∀ x y, g x = g y → x = y) : ∀ (m : Nat) (l l' : List Int), l.length = m → (∀ x ∈ l, 1 ≤ g x ∧ g x < B) → (∀ x ∈ l', 1 ≤ g x ∧ g x < B) → zfo B g 0 l = zfo B g 0 l' → l = l' := by
  intro m
  induction m with
  | zero =>
    intro l l' hm h h' he
    have hl : l = [] := List.length_eq_zero_iff.mp hm
    subst hl
    rcases List.eq_nil_or_concat l' with h2 | ⟨r, y, h2⟩
    · exact h2.symm
    · exfalso
      rw [List.concat_eq_append] at h2
      subst h2
      rw [zfo_snoc] at he
      have hy := h' y (by simp)
      have hr := (zfo_rng (g := g) hB r 0 (fun x hx => by have := h' x (by simp [hx]); omega) (by omega)).1
      have : 0 ≤ zfo B g 0 r * B := Int.mul_nonneg hr (by omega)
      have e0 : zfo B g 0 [] = 0 := rfl
      omega
  | succ m ih =>
    intro l l' hm h h' he
    rcases List.eq_nil_or_concat l with h1 | ⟨q, x, h1⟩
    · rw [h1] at hm; simp at hm
    · rw [List.concat_eq_append] at h1
      subst h1
      have hx := h x (by simp)
      rcases List.eq_nil_or_concat l' with h2 | ⟨r, y, h2⟩
      · exfalso
        subst h2
        rw [zfo_snoc] at he
        have hq := (zfo_rng (g := g) hB q 0 (fun x hx => by have := h x (by simp [hx]); omega) (by omega)).1
        have : 0 ≤ zfo B g 0 q * B := Int.mul_nonneg hq (by omega)
        have e0 : zfo B g 0 [] = 0 := rfl
        omega
      · rw [List.concat_eq_append] at h2
        subst h2
        rw [zfo_snoc, zfo_snoc] at he
        have hy := h' y (by simp)
        have e1 : g x = g y := by
          have a1 : (zfo B g 0 q * B + g x) % B = g x := by
            rw [Int.add_comm, Int.add_mul_emod_self_right, Int.emod_eq_of_lt (by omega) (by omega)]
          have a2 : (zfo B g 0 r * B + g y) % B = g y := by
            rw [Int.add_comm, Int.add_mul_emod_self_right, Int.emod_eq_of_lt (by omega) (by omega)]
          rw [← a1, he, a2]
        have e2 : zfo B g 0 q = zfo B g 0 r := Int.eq_of_mul_eq_mul_right (by omega : B ≠ 0) (by omega)
        have e3 := ih q r (by simpa using hm) (fun x hx => h x (by simp [hx])) (fun x hx => h' x (by simp [hx])) e2
        rw [e3, hg x y e1]
theorem zw27_rng {l : List Int} (h : zWd l) : 0 ≤ zw27 l ∧ zw27 l < 282429536481 := by
  have := zfo_rng (B := 27) (g := fun x => x - 97 + 1) (by omega) l 0 (fun x hx => by have := h.2.2 x hx; show 0 ≤ x - 97 + 1 ∧ x - 97 + 1 < 27; omega) (by omega)
  refine ⟨this.1, Int.lt_of_lt_of_le this.2 ?_⟩
  have h8 := h.2.1
  have : (27 : Int) ^ l.length ≤ 27 ^ 8 := by
    rcases (by omega : l.length = 0 ∨ l.length = 1 ∨ l.length = 2 ∨ l.length = 3 ∨ l.length = 4 ∨ l.length = 5 ∨ l.length = 6 ∨ l.length = 7 ∨ l.length = 8) with h | h | h | h | h | h | h | h | h <;> rw [h] <;> decide
  omega
theorem zw8_rng {l : List Int} (h : zWd l) : 0 ≤ zw8 l ∧ zw8 l < 9223372036854775808 := by
  cases l with
  | nil => exact absurd h.1 (by simp)
  | cons y t =>
    have hy := h.2.2 y (List.mem_cons_self ..)
    have := zfo_rng (B := 256) (g := fun x => x) (by omega) t (0 * 256 + y) (fun x hx => by have := h.2.2 x (List.mem_cons_of_mem _ hx); show 0 ≤ x ∧ x < 256; omega) (by omega)
    refine ⟨this.1, Int.lt_of_lt_of_le this.2 ?_⟩
    have h8 : t.length ≤ 7 := by have := h.2.1; simp at this; omega
    have h9 : (256 : Int) ^ t.length ≤ 256 ^ 7 := by
      rcases (by omega : t.length = 0 ∨ t.length = 1 ∨ t.length = 2 ∨ t.length = 3 ∨ t.length = 4 ∨ t.length = 5 ∨ t.length = 6 ∨ t.length = 7) with h | h | h | h | h | h | h | h <;> rw [h] <;> decide
    have h10 : (0 * 256 + y + 1) * (256 : Int) ^ t.length ≤ 128 * 256 ^ 7 := Int.mul_le_mul (by omega) h9 (Int.pow_nonneg (by omega)) (by omega)
    omega
theorem zw27_inj {l l' : List Int} (h : zWd l) (h' : zWd l') : (zw27 l = zw27 l') = (l = l') := propext ⟨fun e => zfo_inj (B := 27) (g := fun x => x - 97 + 1) (by omega) (fun x y h => by have h : x - 97 + 1 = y - 97 + 1 := h; omega) l.length l l' rfl (fun x hx => by have := h.2.2 x hx; show 1 ≤ x - 97 + 1 ∧ x - 97 + 1 < 27; omega) (fun x hx => by have := h'.2.2 x hx; show 1 ≤ x - 97 + 1 ∧ x - 97 + 1 < 27; omega) e, fun e => by rw [e]⟩
theorem zw8_inj {l l' : List Int} (h : zWd l) (h' : zWd l') : (zw8 l = zw8 l') = (l = l') := propext ⟨fun e => zfo_inj (B := 256) (g := fun x => x) (by omega) (fun x y h => h) l.length l l' rfl (fun x hx => by have := h.2.2 x hx; show 1 ≤ x ∧ x < 256; omega) (fun x hx => by have := h'.2.2 x hx; show 1 ≤ x ∧ x < 256; omega) e, fun e => by rw [e]⟩
/-- the first index of a word among names -/
def zfd (wd : Int → List Int) (w : List Int) : Nat → Int → Int
  | 0, _ => -1
  | m + 1, k => if wd k = w then k else zfd wd w m (k + 1)
theorem zfd_rng (wd : Int → List Int) (w : List Int) : ∀ (m : Nat) (k : Int), zfd wd w m k = -1 ∨ (k ≤ zfd wd w m k ∧ zfd wd w m k < k + m) := by
  intro m
  induction m with
  | zero => intro k; exact Or.inl rfl
  | succ m ih =>
    intro k
    rw [zfd]
    split
    · exact Or.inr ⟨by omega, by omega⟩
    · rcases ih (k + 1) with h | h
      · exact Or.inl h
      · exact Or.inr ⟨by omega, by omega⟩
section zNam
variable {E : zE} {σ : zW} {wd : Int → List Int} {w : List Int} {N : Int}
theorem e9_indexOf_L (hW : zWF E) {k0 d c : Nat} (hu : zU E k0 d = true) (hA : zA k0 c = some (3, 10)) (hN0 : 0 ≤ N) (hN : N ≤ 10) (hn : ∀ k, 0 ≤ k → k < N → zWd (wd k) ∧ σ k0 d c k = zw27 (wd k)) (hw : zWd w) : ∀ (m fuel : Nat) (k : Int), 0 ≤ k → k + m = N → m < fuel → f_X9_indexOf_L3 (zH E σ) fuel (zL E k0 d c) (zI N) (zJ (zw27 w)) (zI k) = some (zI (zfd wd w m k)) := by
  have hl := zLen (σ := σ) hW hu (c := c) hA
  have hl : g_len (zH E σ) (zL E k0 d c) = some (zI 10) := hl
  intro m
  induction m with
  | zero =>
    intro fuel k h0 h1 hf
    obtain ⟨f, rfl, _⟩ := zfuel hf
    have c1 : N ≤ k := by omega
    rw [zfd]
    simp (disch := first | assumption | omega) only [f_X9_indexOf_L3, c1, zz_some, zz_lit, zz_num, zI_lt, zI_le, zI_eq, zI_nat, zz_b, if_pos, if_neg, if_true, if_false]
  | succ m ih =>
    intro fuel k h0 h1 hf
    obtain ⟨f, rfl, hf2⟩ := zfuel hf
    have c1 : ¬ N ≤ k := by omega
    have c2 : ¬ 10 ≤ k := by omega
    obtain ⟨q1, q2⟩ := hn k h0 (by omega)
    have ha := zLald (σ := σ) (n := 10) hW hu (k := k0) (d := d) (c := c) hA (by decide) h0 (by omega)
    rw [q2] at ha
    have r1 := zw27_rng q1
    have r2 := zw27_rng hw
    have hr := ih f (k + 1) (by omega) (by omega) (by omega)
    have hc : (lg_cmp (zJ (zw27 (wd k))) (zJ (zw27 w)) = zI 0) = (wd k = w) := by
      rw [show (zI 0 : Int32) = 0 from rfl, lg_cmp0, zJ_eq (by omega) (by omega) (by omega) (by omega), zw27_inj q1 hw]
    rw [zfd]
    by_cases c3 : wd k = w
    · rw [if_pos c3]
      have hc := hc.trans (eq_true c3)
      simp (disch := first | assumption | omega) only [f_X9_indexOf_L3, c1, c2, hl, ha, hc, zz_some, zz_lit, zz_num, zI_lt, zI_le, zI_eq, zI_nat, zz_b, if_pos, if_neg, if_true, if_false]
    · rw [if_neg c3]
      have hc := hc.trans (eq_false c3)
      simp (disch := first | assumption | omega) only [f_X9_indexOf_L3, c1, c2, hl, ha, hc, hr, zz_some, zz_lit, zz_num, zI_lt, zI_le, zI_eq, zI_nat, zz_b, if_pos, if_neg, if_true, if_false]
theorem e9_indexOf (hW : zWF E) {k0 d c : Nat} (hu : zU E k0 d = true) (hA : zA k0 c = some (3, 10)) (hN0 : 0 ≤ N) (hN : N ≤ 10) (hn : ∀ k, 0 ≤ k → k < N → zWd (wd k) ∧ σ k0 d c k = zw27 (wd k)) (hw : zWd w) : f_X9_indexOf (zH E σ) (zL E k0 d c) (zI N) (zJ (zw27 w)) = some (zI (zfd wd w N.toNat 0)) := by
  unfold f_X9_indexOf
  exact e9_indexOf_L hW hu hA hN0 hN hn hw N.toNat g_N 0 (by omega) (by omega) (by unfold g_N; omega)
end zNam
/-- the six words -/
def wl : Nat → List Int
  | 0 => [100, 105, 115, 99]
  | 1 => [98, 97, 100]
  | 2 => [102, 105, 108, 101]
  | 3 => [119, 114, 105, 116, 101]
  | 4 => [101, 114, 97, 115, 101]
  | _ => [99, 108, 111, 115, 101]
def tIs (b : Int → Int) (L p : Int) (j : Nat) : Bool := decide (tK b L p = 1 ∧ tW b L p = wl j)
theorem wl_rng : ∀ j : Nat, (3 ≤ (wl j).length ∧ (wl j).length ≤ 5) ∧ ∀ x ∈ wl j, 97 ≤ x ∧ x ≤ 122 := by
  intro j
  rcases j with _ | _ | _ | _ | _ | j <;> exact ⟨by simp [wl], by simp [wl]⟩
theorem wl_len {G : gH} : ∀ j : Nat, j < 6 → f_J0_length_8abf5 G j = some (zI ((wl j).length : Int)) := by
  intro j hj
  rcases (by omega : j = 0 ∨ j = 1 ∨ j = 2 ∨ j = 3 ∨ j = 4 ∨ j = 5) with rfl | rfl | rfl | rfl | rfl | rfl <;> rfl
theorem wl_at {G : gH} : ∀ j : Nat, j < 6 → ∀ k : Nat, k < (wl j).length → f_J0_charAt_5068e G j (zI (k : Int)) = some (zI ((wl j).getD k 0)) := by
  intro j hj k hk
  have hk5 := (wl_rng j).1.2
  rcases (by omega : j = 0 ∨ j = 1 ∨ j = 2 ∨ j = 3 ∨ j = 4 ∨ j = 5) with rfl | rfl | rfl | rfl | rfl | rfl <;> rcases (by omega : k = 0 ∨ k = 1 ∨ k = 2 ∨ k = 3 ∨ k = 4) with rfl | rfl | rfl | rfl | rfl <;> first | rfl | (exfalso; revert hk; decide)
theorem tIs_K {b : Int → Int} {L p : Int} {j : Nat} (h : ¬ tK b L p = 1) : tIs b L p j = false := by simp [tIs, h]
theorem tIs_L {b : Int → Int} {L p : Int} {j : Nat} (hp : p ≤ L) (h1 : tK b L p = 1) (h : ¬ tE b L p - tS b L p = ((wl j).length : Int)) : tIs b L p j = false := by
  have hk := tK_1 hp h1
  have he := tE_rng (b := b) hp
  unfold tIs
  rw [decide_eq_false_iff_not]
  rintro ⟨_, h2⟩
  have h3 := congrArg List.length h2
  unfold tW at h3
  rw [tLs_len] at h3
  unfold zWd tW at hk
  rw [tLs_len] at hk
  have := (wl_rng j).1
  omega
theorem tIs_E {b : Int → Int} {L p : Int} {j : Nat} (h1 : tK b L p = 1) (h : tE b L p - tS b L p = ((wl j).length : Int)) : tIs b L p j = decide (tLs b (wl j).length (tS b L p) = wl j) := by
  have := (wl_rng j).1
  unfold tIs tW
  rw [h, show (min ((wl j).length : Int) 8).toNat = (wl j).length by omega]
  simp [h1]
theorem drop_get {l : List Int} {k : Nat} (h : k < l.length) : l.drop k = l.getD k 0 :: l.drop (k + 1) := by
  rw [List.drop_eq_getElem_cons h, List.getD_eq_getElem?_getD, List.getElem?_eq_getElem h]
  rfl
section zWrd
variable {E : zE} {σ : zW} {b : Int → Int} {L p : Int}
theorem e9_packed_L {G : gH} {j : Nat} (hj : j < 6) : ∀ (m fuel k : Nat) (a : Int), k + m = (wl j).length → m < fuel → f_X9_packed_L4 G fuel j (zJ a) (zI (k : Int)) = some (zJ (((wl j).drop k).foldl (fun a x => a * 27 + (x - 97 + 1)) a)) := by
  have hr5 := (wl_rng j).1
  have ln := wl_len (G := G) j hj
  intro m
  induction m with
  | zero =>
    intro fuel k a h1 hf
    obtain ⟨f, rfl, _⟩ := zfuel hf
    have c1 : ((wl j).length : Int) ≤ (k : Int) := by omega
    rw [List.drop_of_length_le (by omega)]
    simp (disch := first | assumption | omega) only [f_X9_packed_L4, ln, c1, List.foldl, zz_some, zz_lit, zz_num, zI_lt, zI_le, zI_eq, zI_nat, zz_b, if_pos, if_neg, if_true, if_false]
  | succ m ih =>
    intro fuel k a h1 hf
    obtain ⟨f, rfl, hf2⟩ := zfuel hf
    have c1 : ¬ ((wl j).length : Int) ≤ (k : Int) := by omega
    have ch := wl_at (G := G) j hj k (by omega)
    have hx := (wl_rng j).2 ((wl j).getD k 0) (by rw [List.getD_eq_getElem?_getD, List.getElem?_eq_getElem (by omega)]; exact List.getElem_mem _)
    have hw := e9_withLetter (G := G) (v := a) (x := (wl j).getD k 0) (by omega) (by omega)
    have hr := ih f (k + 1) (a * 27 + ((wl j).getD k 0 - 97 + 1)) (by omega) (by omega)
    rw [drop_get (l := wl j) (k := k) (by omega)]
    rw [show ((k + 1 : Nat) : Int) = (k : Int) + 1 by omega] at hr
    simp (disch := first | assumption | omega) only [f_X9_packed_L4, ln, c1, ch, hw, hr, List.foldl, zz_some, zz_lit, zz_num, zI_lt, zI_le, zI_eq, zI_nat, zz_b, if_pos, if_neg, if_true, if_false]
theorem e9_packed {G : gH} {j : Nat} (hj : j < 6) : f_X9_packed G j = some (zJ (zw27 (wl j))) := by
  have h := e9_packed_L (G := G) hj (wl j).length g_N 0 0 (by omega) (by have := (wl_rng j).1; unfold g_N; omega)
  rw [List.drop_zero] at h
  exact h
theorem wl_wd (j : Nat) : zWd (wl j) := by
  have h := wl_rng j
  exact ⟨by omega, by omega, h.2⟩
/-- all tokens of the text as the class holds them -/
def zTz (σ : zW) (b : Int → Int) (L : Int) (C : Nat) : Prop := (0 ≤ L ∧ L ≤ 600) ∧ zTk σ b L C ∧ tK b L (tp b L C) = 0
theorem zTz.cg {σ σ' : zW} {C : Nat} (h : zTz σ b L C) (e : ∀ c, 16 ≤ c → c ≤ 19 → σ' 2 0 c = σ 2 0 c) : zTz σ' b L C := ⟨h.1, h.2.1.cg e, h.2.2⟩
theorem zTz.C {C : Nat} (h : zTz σ b L C) : C ≤ 600 := by
  have h1 := tp_ge h.1.1 C (fun i hi => (h.2.1.2.2 i hi).2)
  have h2 := (tp_rng (b := b) h.1.1 C).2
  have := h.1.2
  omega
theorem tK_rn (b : Int → Int) (L p : Int) : 0 ≤ tK b L p ∧ tK b L p ≤ 4 := by
  unfold tK
  split <;> (try split) <;> (try split) <;> omega
theorem zTz.lt {C T : Nat} (h : zTz σ b L C) (hk : tK b L (tp b L T) ≠ 0) : T < C := by
  by_cases hT : T < C
  · exact hT
  · obtain ⟨k, rfl⟩ : ∃ k, T = C + k := ⟨T - C, by omega⟩
    exact absurd (tp_end h.1.1 h.2.2 k).1 hk
theorem e11_kindOf (hW : zWF E) (hm : zU E 2 0 = true) {C T : Nat} (h : zTz σ b L C) (hT : T ≤ 1000) : f_X11_kindOf (zH E σ) (zL E 2 0 16) (zI (T : Int)) = some (zI (tK b L (tp b L T))) := by
  have hC := h.C
  have g0 := zg_tk0 (σ := σ) hW hm
  rw [h.2.1.1] at g0
  have g2 := zg_tk2 (σ := σ) hW hm
  by_cases c1 : (C : Int) ≤ T
  · obtain ⟨k, rfl⟩ : ∃ k, T = C + k := ⟨T - C, by omega⟩
    rw [(tp_end h.1.1 h.2.2 k).1]
    simp (disch := first | assumption | omega) only [f_X11_kindOf, g0, c1, zz_some, zz_lit, zz_num, zI_lt, zI_le, zI_eq, zI_nat, zz_b, if_pos, if_neg, if_true, if_false]
  · have ha := zX_at (σ := σ) (n := 600) hW hm (k := 2) (d := 0) (c := 17) rfl (by decide) (i := (T : Int)) (o := 0) (by omega) (by omega)
    rw [if_pos (by omega), (h.2.1.2.2 T (by omega)).1.1] at ha
    simp (disch := first | assumption | omega) only [f_X11_kindOf, g0, g2, c1, ha, zz_some, zz_lit, zz_num, zI_lt, zI_le, zI_eq, zI_nat, zz_b, if_pos, if_neg, if_true, if_false]
theorem e11_startAt (hW : zWF E) (hm : zU E 2 0 = true) {C T : Nat} (h : zTz σ b L C) (hT : T ≤ 1000) : f_X11_startOf (zH E σ) (zL E 2 0 16) (zI (T : Int)) = some (zI (tS b L (tp b L T))) := by
  have hC := h.C
  by_cases c1 : T < C
  · rw [e11_startOf hW hm h.2.1.1 hC (by omega) (by omega), (h.2.1.2.2 T c1).1.2.1]
  · have g0 := zg_tk0 (σ := σ) hW hm
    rw [h.2.1.1] at g0
    have g1 := zg_tk1 (σ := σ) hW hm
    rw [h.2.1.2.1] at g1
    have c2 : (C : Int) ≤ T := by omega
    obtain ⟨k, rfl⟩ : ∃ k, T = C + k := ⟨T - C, by omega⟩
    rw [(tp_end h.1.1 h.2.2 k).2]
    simp (disch := first | assumption | omega) only [f_X11_startOf, g0, g1, c2, zz_some, zz_lit, zz_num, zI_lt, zI_le, zI_eq, zI_nat, zz_b, if_pos, if_neg, if_true, if_false]
theorem e11_numberOf (hW : zWF E) (hm : zU E 2 0 = true) {C T : Nat} (h : zTz σ b L C) (hk : tK b L (tp b L T) = 2) : f_X11_numberOf (zH E σ) (zL E 2 0 16) (zI (T : Int)) = some (zI (tV b L (tp b L T))) := by
  have hC := h.C
  have hT := h.lt (T := T) (by omega)
  have g4 := zg_tk4 (σ := σ) hW hm
  have ha := zX_at_ (σ := σ) (n := 600) hW hm (k := 2) (d := 0) (c := 19) rfl (by decide) (i := (T : Int)) (o := -1) (by omega) (by omega)
  rw [if_pos (by omega), (h.2.1.2.2 T hT).1.2.2.1 hk] at ha
  have e1 : (-1 : Int64) = zJ (-1) := rfl
  have e2 : (zJ (tV b L (tp b L T))).toInt32 = zI (tV b L (tp b L T)) := Int64.toInt32_ofInt
  simp (disch := first | assumption | omega) only [f_X11_numberOf, g4, e1, ha, e2, zz_some, zz_lit, zz_num, zI_lt, zI_le, zI_eq, zI_nat, zz_b, if_pos, if_neg, if_true, if_false]
theorem e11_wordOf (hW : zWF E) (hm : zU E 2 0 = true) {C T : Nat} (h : zTz σ b L C) (hk : tK b L (tp b L T) = 1) : f_X11_valueOf (zH E σ) (zL E 2 0 16) (zI (T : Int)) = some (zJ (zw27 (tW b L (tp b L T)))) := by
  have hC := h.C
  have hT := h.lt (T := T) (by omega)
  rw [e11_valueOf hW hm (by omega) (by omega), (h.2.1.2.2 T hT).1.2.2.2 hk]
theorem e4_isWord (hW : zWF E) (hm : zU E 2 0 = true) {C T : Nat} (h : zTz σ b L C) (hT : T ≤ 1000) (h14 : σ 2 0 3 14 = (T : Int)) {j : Nat} (hj : j < 6) : f_X4_isWord (zH E σ) (zL E 2 0 3) j = some (zI (zb (tIs b L (tp b L T) j))) := by
  have g13 := zg_tx13 (σ := σ) hW hm
  have g14 := zg_tx14 (σ := σ) hW hm
  rw [h14] at g14
  have hto := (zz_tko (σ := σ) hW hm).2.2.2
  have hk := e11_kindOf hW hm h hT
  have hkr := tK_rn b L (tp b L T)
  have hpk := e9_packed (G := zH E σ) hj
  by_cases c1 : tK b L (tp b L T) = 1
  · have hv := e11_wordOf hW hm h c1
    have r1 := zw27_rng (tK_1 (tp_rng (b := b) h.1.1 T).2 c1)
    have r2 := zw27_rng (wl_wd j)
    have hc : (lg_cmp (zJ (zw27 (tW b L (tp b L T)))) (zJ (zw27 (wl j))) = zI 0) = (tW b L (tp b L T) = wl j) := by
      rw [show (zI 0 : Int32) = 0 from rfl, lg_cmp0, zJ_eq (by omega) (by omega) (by omega) (by omega), zw27_inj (tK_1 (tp_rng (b := b) h.1.1 T).2 c1) (wl_wd j)]
    have ht : tIs b L (tp b L T) j = decide (tW b L (tp b L T) = wl j) := by unfold tIs; simp [c1]
    rw [ht]
    by_cases c2 : tW b L (tp b L T) = wl j
    · have hc := hc.trans (eq_true c2)
      rw [zb_dpos c2]
      simp (disch := first | assumption | omega) only [f_X4_isWord, g13, g14, hto, hk, c1, hv, hpk, hc, zz_some, zz_lit, zz_num, zI_lt, zI_le, zI_eq, zI_nat, zz_b, if_pos, if_neg, if_true, if_false]
    · have hc := hc.trans (eq_false c2)
      rw [zb_dneg c2]
      simp (disch := first | assumption | omega) only [f_X4_isWord, g13, g14, hto, hk, c1, hv, hpk, hc, zz_some, zz_lit, zz_num, zI_lt, zI_le, zI_eq, zI_nat, zz_b, if_pos, if_neg, if_true, if_false]
  · rw [tIs_K c1, show zb false = 0 from rfl]
    simp (disch := first | assumption | omega) only [f_X4_isWord, g13, g14, hto, hk, c1, zz_some, zz_lit, zz_num, zI_lt, zI_le, zI_eq, zI_nat, zz_b, if_pos, if_neg, if_true, if_false]
end zWrd

/-! The reference: searching. -/
/-- all but the reference's own scratch numbers -/
def zQ (σ σ' : zW) : Prop := (∀ k d c, ¬ (k = 3 ∧ d = 0 ∧ (c = 0 ∨ c = 17 ∨ c = 21 ∨ c = 23)) → σ' k d c = σ k d c) ∧ (∀ i, i ≠ 18 → i ≠ 19 → i ≠ 20 → i ≠ 22 → σ' 3 0 0 i = σ 3 0 0 i)
theorem zQ.rf {σ : zW} : zQ σ σ := ⟨fun _ _ _ _ => rfl, fun _ _ _ _ _ => rfl⟩
theorem zQ.tr {σ σ1 σ2 : zW} (h : zQ σ σ1) (h2 : zQ σ1 σ2) : zQ σ σ2 := ⟨fun k d c z => (h2.1 k d c z).trans (h.1 k d c z), fun i a b c d => (h2.2 i a b c d).trans (h.2 i a b c d)⟩
theorem zQ.f {σ : zW} {i v : Int} (hi : i = 18 ∨ i = 19 ∨ i = 20 ∨ i = 22) : zQ σ (zs σ 3 0 0 i v) := ⟨fun k d c z => zs_ne (by omega), fun j a b c d => by rw [zs_at, if_neg (by omega)]⟩
theorem zQ.a {σ : zW} {i v : Int} {c : Nat} (hc : c = 17 ∨ c = 21 ∨ c = 23) : zQ σ (zs σ 3 0 c i v) := ⟨fun k d c z => zs_ne (by omega), fun j a b c d => by rw [zs_ne (by omega)]⟩
theorem zQ.n {σ σ' : zW} (h : zQ σ σ') : σ' 3 0 1 = σ 3 0 1 := h.1 3 0 1 (by omega)
def nQl (n : zN) : Nat → List Int
  | 0 => []
  | t + 1 => if (nGo n t && nIs n (nLa n - t)) = true then nQl n t ++ [nLa n - t] else nQl n t
def zQl (σ : zW) (l : List Int) : Prop := σ 3 0 0 18 = l.length ∧ ∀ k : Nat, k < l.length → σ 3 0 17 k = l.getD k 0
theorem nQl_len (n : zN) (t : Nat) : (nQl n t).length ≤ t := by
  induction t with
  | zero => simp [nQl]
  | succ t ih =>
    unfold nQl
    split
    · simp; omega
    · omega
theorem nGo_off {n : zN} {t : Nat} (h : nGo n t = false) (k : Nat) : nGo n (t + k) = false := by
  induction k with
  | zero => exact h
  | succ k ih =>
    rw [← Nat.add_assoc, nGo_succ, ih]
    rfl
theorem nQl_off {n : zN} {t : Nat} (h : nGo n t = false) (k : Nat) : nQl n (t + k) = nQl n t := by
  induction k with
  | zero => rfl
  | succ k ih =>
    rw [← Nat.add_assoc, nQl, nGo_off h k]
    simpa using ih
def lfi (P : Int → Bool) : List Int → Int
  | [] => -1
  | s :: l => if P s = true then s else lfi P l
theorem lfi_app (P : Int → Bool) (x : Int) : ∀ l : List Int, (∀ s ∈ l, 0 ≤ s) → lfi P (l ++ [x]) = if lfi P l = -1 then (if P x = true then x else -1) else lfi P l := by
  intro l
  induction l with
  | nil => intro _; simp [lfi]
  | cons s l ih =>
    intro h
    have hs := h s (by simp)
    rw [List.cons_append]
    by_cases hp : P s = true
    · have e1 : ∀ l', lfi P (s :: l') = s := fun l' => by rw [lfi, if_pos hp]
      rw [e1, e1, if_neg (by omega)]
    · have e1 : ∀ l', lfi P (s :: l') = lfi P l' := fun l' => by rw [lfi, if_neg hp]
      rw [e1, e1]
      exact ih (fun t ht => h t (by simp [ht]))
theorem nQl_mem {n : zN} : ∀ (t : Nat) (s : Int), (t : Int) ≤ n 3 → s ∈ nQl n t → n 3 - t ≤ s ∧ s < n 3 := by
  intro t
  induction t with
  | zero => intro s _ h; simp [nQl] at h
  | succ t ih =>
    intro s ht h
    unfold nQl at h
    split at h
    · rcases List.mem_append.mp h with h | h
      · have := ih s (by omega) h; omega
      · have hs : s = nLa n - t := by simpa using h
        unfold nLa at hs
        omega
    · have := ih s (by omega) h; omega
theorem lfi_spec {n : zN} (P : Int → Bool) : ∀ t : Nat, (t : Int) ≤ n 3 → (lfi P (nQl n t) = -1 ∧ ∀ s, n 3 - t ≤ s → s < n 3 → (nRe n s && P s) = false) ∨ (n 3 - t ≤ lfi P (nQl n t) ∧ lfi P (nQl n t) < n 3 ∧ (nRe n (lfi P (nQl n t)) && P (lfi P (nQl n t))) = true ∧ ∀ s, lfi P (nQl n t) < s → s < n 3 → (nRe n s && P s) = false) := by
  intro t
  induction t with
  | zero => intro _; exact Or.inl ⟨rfl, fun s h0 h1 => by omega⟩
  | succ t ih =>
    intro ht
    have hre : nRe n (nLa n - t) = (nGo n t && nIs n (nLa n - t)) := by
      unfold nRe
      rw [show (nLa n - (nLa n - (t : Int))).toNat = t by omega]
    have hx : nLa n - (t : Int) = n 3 - ((t + 1 : Nat) : Int) := by unfold nLa; omega
    have ih := ih (by omega)
    by_cases hg : (nGo n t && nIs n (nLa n - t)) = true
    · have e : nQl n (t + 1) = nQl n t ++ [nLa n - t] := by rw [nQl, if_pos hg]
      rw [e, lfi_app P _ _ (fun s hs => by have := nQl_mem t s (by omega) hs; omega)]
      rcases ih with ⟨h1, h2⟩ | ⟨h1, h2, h3, h4⟩
      · rw [h1, if_pos rfl]
        by_cases hp : P (nLa n - t) = true
        · rw [if_pos hp]
          exact Or.inr ⟨by omega, by omega, by rw [hre, hg, hp]; rfl, fun s h5 h6 => h2 s (by omega) h6⟩
        · rw [if_neg hp]
          refine Or.inl ⟨rfl, fun s h5 h6 => ?_⟩
          by_cases hs : s = nLa n - t
          · rw [hs]; simp [hp]
          · exact h2 s (by omega) h6
      · rw [if_neg (by omega)]
        exact Or.inr ⟨by omega, h2, h3, h4⟩
    · have e : nQl n (t + 1) = nQl n t := by rw [nQl, if_neg hg]
      rw [e]
      have hre2 : nRe n (nLa n - t) = false := by rw [hre]; simpa using hg
      rcases ih with ⟨h1, h2⟩ | ⟨h1, h2, h3, h4⟩
      · refine Or.inl ⟨h1, fun s h5 h6 => ?_⟩
        by_cases hs : s = nLa n - t
        · rw [hs, hre2]; rfl
        · exact h2 s (by omega) h6
      · exact Or.inr ⟨by omega, h2, h3, h4⟩
theorem lfi_Sk {n : zN} (h3 : 0 ≤ n 3) (f below : Int) : lfi (fun s => decide (s < below) && decide (nEn n s f ≠ -1)) (nQl n (n 3).toNat) = nSk n f below := by
  have h1 := lfi_spec (n := n) (fun s => decide (s < below) && decide (nEn n s f ≠ -1)) (n 3).toNat (by omega)
  have h2 := zls_spec (P := fun s => nRe n s && decide (nEn n s f ≠ -1)) (min below (n 3)).toNat
  have h4 : nSk n f below = zls (fun s => nRe n s && decide (nEn n s f ≠ -1)) (min below (n 3)).toNat := rfl
  rw [← h4] at h2
  obtain ⟨x, hx⟩ : ∃ x, lfi (fun s => decide (s < below) && decide (nEn n s f ≠ -1)) (nQl n (n 3).toNat) = x := ⟨_, rfl⟩
  rw [hx] at h1 ⊢
  have key : ∀ s, 0 ≤ s → s < n 3 → ((nRe n s && (decide (s < below) && decide (nEn n s f ≠ -1))) = true ↔ s < below ∧ (nRe n s && decide (nEn n s f ≠ -1)) = true) := by
    intro s _ _
    simp only [Bool.and_eq_true, decide_eq_true_eq]
    constructor
    · rintro ⟨a, b, c⟩; exact ⟨b, a, c⟩
    · rintro ⟨b, a, c⟩; exact ⟨a, b, c⟩
  rcases h1 with ⟨a1, a2⟩ | ⟨a1, a2, a3, a4⟩
  · rcases h2 with ⟨b1, b2⟩ | ⟨b1, b2, b3, b4⟩
    · omega
    · have h5 := a2 (nSk n f below) (by omega) (by omega)
      have h6 := (key _ b1 (by omega)).mpr ⟨by omega, b3⟩
      rw [h6] at h5; cases h5
  · have h7 := (key x (by omega) a2).mp a3
    rcases h2 with ⟨b1, b2⟩ | ⟨b1, b2, b3, b4⟩
    · have h5 := b2 x (by omega) (by omega)
      rw [h7.2] at h5; cases h5
    · by_cases hlt : x < nSk n f below
      · have h5 := a4 _ hlt (by omega)
        have h6 := (key _ b1 (by omega)).mpr ⟨by omega, b3⟩
        rw [h6] at h5; cases h5
      · by_cases hgt : nSk n f below < x
        · have h5 := b4 x hgt (by omega)
          rw [h7.2] at h5; cases h5
        · omega
section zMod
variable {E : zE} {σ : zW} {n : zN}
theorem zQl_push {l : List Int} {x : Int} (hl : zQl σ l) : zQl (zs (zs σ 3 0 17 l.length x) 3 0 0 18 (l.length + 1)) (l ++ [x]) := by
  refine ⟨by simp [zs], fun k hk => ?_⟩
  rw [zs_ne (by omega), zs_at]
  simp only [List.length_append, List.length_cons, List.length_nil] at hk
  by_cases h : k = l.length
  · subst h
    simp
  · rw [if_neg (by omega), hl.2 k (by omega)]
    simp only [List.getD_eq_getElem?_getD]
    rw [List.getElem?_append_left (by omega)]
theorem e10_searches_L (hW : zWF E) (hm : zU E 3 0 = true) (hn : nW n) : ∀ (m fuel t : Nat) (σ : zW), σ 3 0 1 = n → zQl σ (nQl n t) → (t : Int) + m = n 3 → m < fuel → ∃ σ', f_X10_searches_L12 fuel (zH E σ) (zL E 3 0 0) (zI (zb (nGo n t))) (zI ((m : Int) - 1)) = some (zH E σ') ∧ zQ σ σ' ∧ zQl σ' (nQl n (n 3).toNat) ∧ (∀ c, c ≠ 0 → c ≠ 17 → σ' 3 0 c = σ 3 0 c) := by
  have hN' := hn.1.r
  intro m
  induction m with
  | zero =>
    intro fuel t σ h1 hl ht hf
    obtain ⟨f, rfl, h3⟩ := zfuel hf
    refine ⟨σ, ?_, zQ.rf, by rw [show (n 3).toNat = t by omega]; exact hl, fun _ _ _ => rfl⟩
    simp (disch := first | assumption | omega) only [f_X10_searches_L12, zz_mdo hW hm, zz_ra hW hm, zz_some, zz_lit, zz_num, zI_lt, zI_le, zI_eq, zI_nat, zz_b, if_pos, if_neg, if_true, if_false]
  | succ m ih =>
    intro fuel t σ h1 hl ht hf
    obtain ⟨f, rfl, h3⟩ := zfuel hf
    rw [show (((m + 1 : Nat) : Int) - 1) = (m : Int) by omega]
    cases hg : nGo n t
    · refine ⟨σ, ?_, zQ.rf, ?_, fun _ _ _ => rfl⟩
      · simp (disch := first | assumption | omega) only [f_X10_searches_L12, zz_mdo hW hm, zz_ra hW hm, zz_some, zz_lit, zz_num, zI_lt, zI_le, zI_eq, zI_nat, zz_b, if_pos, if_neg, if_true, if_false]
      · rw [show (n 3).toNat = t + (m + 1) by omega, nQl_off hg]
        exact hl
    · have hs := hn.2.2.2 m (by omega) (by omega)
      have hx : nLa n - (t : Int) = m := by unfold nLa; omega
      have hgs := nGo_succ n t
      rw [hx, hg, Bool.true_and] at hgs
      have hlen := nQl_len n t
      have hi : (m : Int) + -1 = (m : Int) - 1 := by omega
      have ho := e10_of hW hm h1 (s := m) (w := 0) (by omega) (by omega) (by omega) (by omega)
      have hrd := e10_canReadDirectory hW hm h1 hn (s := m) (by omega) (by omega)
      have hn5 : g_ald 0 (zH E σ) (zL E 3 0 1) (zI 5) = some (zI (n 5)) := by rw [← h1]; exact zAld hW hm rfl (by decide) (by decide) (by omega) (by omega)
      have h18 : g_i (zH E σ) (zL E 3 0 0) 10 18 = some (zI ((nQl n t).length : Int)) := by rw [← hl.1]; exact zg_md18 hW hm
      -- the common ends
      have hyes : nIs n m = true → ∃ σ', f_X10_searches_J82 (f_X10_searches_L12 f) (zH E σ) (zL E 3 0 0) (zI m) (zI 1) (zI (zb (nGo n (t + 1)))) = some (zH E σ') ∧ zQ σ σ' ∧ zQl σ' (nQl n (n 3).toNat) ∧ (∀ c, c ≠ 0 → c ≠ 17 → σ' 3 0 c = σ 3 0 c) := by
        intro his
        have e : nQl n (t + 1) = nQl n t ++ [(m : Int)] := by rw [nQl, hg, hx, his]; rfl
        obtain ⟨σ1, s1⟩ : ∃ x, x = zs σ 3 0 17 (nQl n t).length m := ⟨_, rfl⟩
        obtain ⟨σ2, s2⟩ : ∃ x, x = zs σ1 3 0 0 18 ((nQl n t).length + 1) := ⟨_, rfl⟩
        obtain ⟨σ', q1, q2, q3, q4⟩ := ih f (t + 1) σ2 (by rw [s2, s1, zs_ne (by omega), zs_ne (by omega)]; exact h1) (by rw [e, s2, s1]; exact zQl_push hl) (by omega) (by omega)
        refine ⟨σ', ?_, zQ.tr (by rw [s2, s1]; exact zQ.tr (zQ.a (Or.inl rfl)) (zQ.f (Or.inl rfl))) q2, q3, fun c hc hc2 => by rw [q4 c hc hc2, s2, zs_ne (by omega), s1, zs_ne (by omega)]⟩
        have h182 : g_i (zH E σ1) (zL E 3 0 0) 10 18 = some (zI ((nQl n t).length : Int)) := by
          have h5 : σ1 3 0 0 18 = ((nQl n t).length : Int) := by rw [s1, zs_ne (by omega)]; exact hl.1
          rw [← h5]; exact zg_md18 hW hm
        have hp : ∀ v : Int, g_put (zH E σ1) (zL E 3 0 0) 10 18 (.int (zI v)) = some (zH E (zs σ1 3 0 0 18 v)) := zp_md18 hW hm
        simp (disch := first | assumption | omega) only [f_X10_searches_J82, h18, zz_mdo hW hm, zz_ra hW hm, zz_some, zz_lit, zz_num, zI_lt, zI_le, zI_eq, zI_nat, zz_b, if_pos, if_neg, if_true, if_false]
        rw [← s1]
        simp (disch := first | assumption | omega) only [h182, hp, hi, zz_mdo hW hm, zz_ra hW hm, zz_some, zz_lit, zz_num, zI_lt, zI_le, zI_eq, zI_nat, zz_b, if_pos, if_neg, if_true, if_false]
        rw [← s2]
        exact q1
      have hno : nIs n m = false → ∃ σ', f_X10_searches_J82 (f_X10_searches_L12 f) (zH E σ) (zL E 3 0 0) (zI m) (zI 0) (zI (zb (nGo n (t + 1)))) = some (zH E σ') ∧ zQ σ σ' ∧ zQl σ' (nQl n (n 3).toNat) ∧ (∀ c, c ≠ 0 → c ≠ 17 → σ' 3 0 c = σ 3 0 c) := by
        intro his
        have e : nQl n (t + 1) = nQl n t := by rw [nQl, hx, his]; simp
        obtain ⟨σ', q1, q2, q3, q4⟩ := ih f (t + 1) σ h1 (by rw [e]; exact hl) (by omega) (by omega)
        refine ⟨σ', ?_, q2, q3, q4⟩
        simp (disch := first | assumption | omega) only [f_X10_searches_J82, hi, zz_mdo hW hm, zz_ra hW hm, zz_some, zz_lit, zz_num, zI_lt, zI_le, zI_eq, zI_nat, zz_b, if_pos, if_neg, if_true, if_false]
        exact q1
      have hJ : f_X10_searches_L12 (f + 1) (zH E σ) (zL E 3 0 0) (zI (zb true)) (zI (m : Int)) = f_X10_searches_J52 (f_X10_searches_L12 f) (zH E σ) (zL E 3 0 0) (zI m) (zI (zb (nIs n m))) := by
        unfold nIs
        rcases (by omega : nS n m 0 = 0 ∨ nS n m 0 = 1 ∨ nS n m 0 = 2 ∨ nS n m 0 = 3) with h | h | h | h
        · simp (disch := first | assumption | omega) only [f_X10_searches_L12, ho, h, Bool.true_eq_false, zz_mdo hW hm, zz_ra hW hm, zz_some, zz_lit, zz_num, zI_lt, zI_le, zI_eq, zI_nat, zz_b, if_pos, if_neg, if_true, if_false]
          rfl
        · cases hr : nRdD n m
          · rw [hr] at hrd
            simp (disch := first | assumption | omega) only [f_X10_searches_L12, ho, h, hrd, Bool.true_eq_false, zz_mdo hW hm, zz_ra hW hm, zz_some, zz_lit, zz_num, zI_lt, zI_le, zI_eq, zI_nat, zz_b, if_pos, if_neg, if_true, if_false]
            rfl
          · rw [hr] at hrd
            simp (disch := first | assumption | omega) only [f_X10_searches_L12, ho, h, hrd, Bool.true_eq_false, zz_mdo hW hm, zz_ra hW hm, zz_some, zz_lit, zz_num, zI_lt, zI_le, zI_eq, zI_nat, zz_b, if_pos, if_neg, if_true, if_false]
            rfl
        · simp (disch := first | assumption | omega) only [f_X10_searches_L12, ho, h, Bool.true_eq_false, zz_mdo hW hm, zz_ra hW hm, zz_some, zz_lit, zz_num, zI_lt, zI_le, zI_eq, zI_nat, zz_b, if_pos, if_neg, if_true, if_false]
          rfl
        · simp (disch := first | assumption | omega) only [f_X10_searches_L12, ho, h, Bool.true_eq_false, zz_mdo hW hm, zz_ra hW hm, zz_some, zz_lit, zz_num, zI_lt, zI_le, zI_eq, zI_nat, zz_b, if_pos, if_neg, if_true, if_false]
          rfl
      rw [hJ]
      cases his : nIs n m
      · rw [his, Bool.false_or] at hgs
        have hno := hno his
        by_cases h : nS n m 0 = 1
        · rcases hN'.2.2.2.2.2.1 with h5 | h5
          · have : nGo n (t + 1) = false := by rw [hgs]; simp [h, h5]
            rw [this] at hno
            simp (disch := first | assumption | omega) only [f_X10_searches_J52, ho, h, hn5, h5, zz_mdo hW hm, zz_ra hW hm, zz_some, zz_lit, zz_num, zI_lt, zI_le, zI_eq, zI_nat, zz_b, if_pos, if_neg, if_true, if_false]
            exact hno
          · have : nGo n (t + 1) = true := by rw [hgs]; simp [h5]
            rw [this] at hno
            simp (disch := first | assumption | omega) only [f_X10_searches_J52, ho, h, hn5, h5, zz_mdo hW hm, zz_ra hW hm, zz_some, zz_lit, zz_num, zI_lt, zI_le, zI_eq, zI_nat, zz_b, if_pos, if_neg, if_true, if_false]
            exact hno
        · have : nGo n (t + 1) = true := by rw [hgs]; simp [h]
          rw [this] at hno
          simp (disch := first | assumption | omega) only [f_X10_searches_J52, ho, zz_mdo hW hm, zz_ra hW hm, zz_some, zz_lit, zz_num, zI_lt, zI_le, zI_eq, zI_nat, zz_b, if_pos, if_neg, if_true, if_false]
          exact hno
      · rw [his, Bool.true_or] at hgs
        have hyes := hyes his
        rw [hgs, Bool.true_or] at hyes
        simp (disch := first | assumption | omega) only [f_X10_searches_J52, Bool.true_eq_false, zz_mdo hW hm, zz_ra hW hm, zz_some, zz_lit, zz_num, zI_lt, zI_le, zI_eq, zI_nat, zz_b, if_pos, if_neg, if_true, if_false]
        exact hyes
theorem e10_searches' (hW : zWF E) (hm : zU E 3 0 = true) (hn : nW n) (h1 : σ 3 0 1 = n) : ∃ σ', f_X10_searches (zH E σ) (zL E 3 0 0) = some (zH E σ') ∧ zQ σ σ' ∧ zQl σ' (nQl n (n 3).toNat) ∧ (∀ c, c ≠ 0 → c ≠ 17 → σ' 3 0 c = σ 3 0 c) := by
  have hN' := hn.1.r
  obtain ⟨σ1, s1⟩ : ∃ x, x = zs σ 3 0 0 18 0 := ⟨_, rfl⟩
  have h11 : σ1 3 0 1 = n := by rw [s1, zs_ne (by omega)]; exact h1
  obtain ⟨σ', q1, q2, q3, q4⟩ := e10_searches_L hW hm hn (n 3).toNat g_N 0 σ1 h11 ⟨by rw [s1]; simp [zs, nQl], fun k hk => by simp [nQl] at hk⟩ (by omega) (by unfold g_N; omega)
  refine ⟨σ', ?_, zQ.tr (by rw [s1]; exact zQ.f (Or.inl rfl)) q2, q3, fun c hc hc2 => by rw [q4 c hc hc2, s1, zs_ne (by omega)]⟩
  have hl := e10_latest hW hm h11
  have hp : ∀ v : Int, g_put (zH E σ) (zL E 3 0 0) 10 18 (.int (zI v)) = some (zH E (zs σ 3 0 0 18 v)) := zp_md18 hW hm
  simp (disch := first | assumption | omega) only [f_X10_searches, hp, zz_mdo hW hm, zz_ra hW hm, zz_some, zz_lit, zz_num, zI_lt, zI_le, zI_eq, zI_nat, zz_b, if_pos, if_neg, if_true, if_false]
  rw [← s1]
  simp (disch := first | assumption | omega) only [hl, zz_mdo hW hm, zz_ra hW hm, zz_some, zz_lit, zz_num, zI_lt, zI_le, zI_eq, zI_nat, zz_b, if_pos, if_neg, if_true, if_false]
  rw [show (((n 3).toNat : Nat) : Int) = n 3 by omega] at q1
  exact q1
theorem e10_searches (hW : zWF E) (hm : zU E 3 0 = true) (hn : nW n) (h1 : σ 3 0 1 = n) : ∃ σ', f_X10_searches (zH E σ) (zL E 3 0 0) = some (zH E σ') ∧ zQ σ σ' ∧ zQl σ' (nQl n (n 3).toNat) := by
  obtain ⟨σ', q1, q2, q3, q4⟩ := e10_searches' hW hm hn h1
  exact ⟨σ', q1, q2, q3⟩
end zMod

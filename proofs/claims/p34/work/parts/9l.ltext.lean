/-! The text of a disc: what the class reads there. -/
def seg (b : Int → Int) (s : Int) (w : List Int) : Prop := ∀ (i : Nat) (h : i < w.length), b (s + i) = w[i]
theorem seg.app {b : Int → Int} {s : Int} {x y : List Int} (h : seg b s (x ++ y)) : seg b s x ∧ seg b (s + x.length) y := by
  refine ⟨fun i hi => ?_, fun i hi => ?_⟩
  · have := h i (by simp; omega)
    rw [this, List.getElem_append_left hi]
  · have := h (x.length + i) (by simp; omega)
    rw [show s + (x.length : Int) + (i : Int) = s + ((x.length + i : Nat) : Int) by omega, this, List.getElem_append_right (by omega)]
    simp
theorem seg.one {b : Int → Int} {s x : Int} {y : List Int} (h : seg b s (x :: y)) : b s = x ∧ seg b (s + 1) y := by
  have := seg.app (x := [x]) (y := y) h
  refine ⟨by have h0 := this.1 0 (by simp); simpa using h0, this.2⟩
theorem zrun_len {P : Int → Bool} : ∀ (k m : Nat) (p : Int), k ≤ m → (∀ i, p ≤ i → i < p + k → P i = true) → (k < m → P (p + k) = false) → zrun P m p = p + k := by
  intro k
  induction k with
  | zero =>
    intro m p hk h1 h2
    cases m with
    | zero => simp [zrun]
    | succ m =>
      have := h2 (by omega)
      rw [zrun, if_neg (by simpa using this)]; simp
  | succ k ih =>
    intro m p hk h1 h2
    cases m with
    | zero => omega
    | succ m =>
      rw [zrun, if_pos (h1 p (by omega) (by omega)), ih m (p + 1) (by omega) (fun i h3 h4 => h1 i (by omega) (by omega)) (fun h => by have := h2 (by omega); rwa [show p + ((k + 1 : Nat) : Int) = p + 1 + (k : Int) by omega] at this)]
      omega
theorem tLs_seg {b : Int → Int} : ∀ (w : List Int) (s : Int), seg b s w → tLs b w.length s = w := by
  intro w
  induction w with
  | nil => intro s _; rfl
  | cons x w ih =>
    intro s h
    obtain ⟨h1, h2⟩ := h.one
    show b s :: tLs b w.length (s + 1) = _
    rw [h1, ih _ h2]
section tx
variable {b : Int → Int} {L p s : Int}
theorem tS_0 (h : tWh b p = false) : tS b L p = p := tS_stop (fun z => by rw [h] at z; cases z.2)
theorem tS_1 (h0 : p < L) (h : b p = 32) (h2 : tWh b (p + 1) = false) : tS b L p = p + 1 := by
  rw [← tS_step h0 (by unfold tWh; simp [h])]; exact tS_0 h2
/-- a word -/
theorem tok1 (hs : tS b L p = s) {w : List Int} (hw : seg b s w) (hl : ∀ x ∈ w, 97 ≤ x ∧ x ≤ 122) (h1 : 1 ≤ w.length) (h8 : w.length ≤ 8) (hL : s + w.length ≤ L) (he : s + w.length < L → tLe b (s + w.length) = false) : tK b L p = 1 ∧ tE b L p = s + w.length ∧ tW b L p = w := by
  have hx : ∀ i : Int, s ≤ i → i < s + w.length → tLe b i = true := by
    intro i h1 h2
    have := hw (i - s).toNat (by omega)
    rw [show s + (((i - s).toNat : Nat) : Int) = i by omega] at this
    unfold tLe
    rw [this]
    have := hl _ (List.getElem_mem (l := w) (n := (i - s).toNat) (by omega))
    simpa using this
  have h0 := hx s (by omega) (by omega)
  have e : tE b L p = s + w.length := by
    unfold tE
    rw [hs, if_neg (by omega), if_pos h0]
    exact zrun_len w.length _ s (by omega) hx (fun h => he (by omega))
  refine ⟨?_, e, ?_⟩
  · unfold tK
    rw [hs, if_neg (by omega), if_pos h0, e, if_pos (by omega)]
  · unfold tW
    rw [hs, e, show (min (s + (w.length : Int) - s) 8).toNat = w.length by omega]
    exact tLs_seg w s hw
/-- a number -/
theorem tok2 (hs : tS b L p = s) {w : List Int} (hw : seg b s w) (hl : ∀ x ∈ w, 48 ≤ x ∧ x ≤ 57) (h1 : 1 ≤ w.length) (h3 : w.length ≤ 3) (hL : s + w.length ≤ L) (he : s + w.length < L → tDi b (s + w.length) = false) : tK b L p = 2 ∧ tE b L p = s + w.length ∧ tV b L p = d10 0 w := by
  have hx : ∀ i : Int, s ≤ i → i < s + w.length → tDi b i = true := by
    intro i h1 h2
    have := hw (i - s).toNat (by omega)
    rw [show s + (((i - s).toNat : Nat) : Int) = i by omega] at this
    unfold tDi
    rw [this]
    have := hl _ (List.getElem_mem (l := w) (n := (i - s).toNat) (by omega))
    simpa using this
  have h0 := hx s (by omega) (by omega)
  have hn : ¬ tLe b s = true := by
    unfold tDi at h0
    unfold tLe
    simp at h0 ⊢
    omega
  have e : tE b L p = s + w.length := by
    unfold tE
    rw [hs, if_neg (by omega), if_neg hn, if_pos h0]
    exact zrun_len w.length _ s (by omega) hx (fun h => he (by omega))
  refine ⟨?_, e, ?_⟩
  · unfold tK
    rw [hs, if_neg (by omega), if_neg hn, if_pos h0, e, if_pos (by omega)]
  · unfold tV
    rw [hs, e, show (min (s + (w.length : Int) - s) 3).toNat = w.length by omega, tLs_seg w s hw]
/-- a semicolon -/
theorem tok3 (hs : tS b L p = s) (hb : b s = 59) (hL : s < L) : tK b L p = 3 ∧ tE b L p = s + 1 := by
  have h1 : ¬ tLe b s = true := by unfold tLe; simp [hb]
  have h2 : ¬ tDi b s = true := by unfold tDi; simp [hb]
  refine ⟨?_, ?_⟩
  · unfold tK
    rw [hs, if_neg (by omega), if_neg h1, if_neg h2, if_pos hb]
  · unfold tE
    rw [hs, if_neg (by omega), if_neg h1, if_neg h2]
end tx
/-- a number's digits -/
def dg (v : Int) : List Int := if v < 10 then [48 + v] else if v < 100 then [48 + v / 10, 48 + v % 10] else [48 + v / 100, 48 + v / 10 % 10, 48 + v % 10]
theorem dg_len {v : Int} : 1 ≤ (dg v).length ∧ (dg v).length ≤ 3 := by unfold dg; split <;> (try split) <;> simp
theorem dg_d {v : Int} (h0 : 0 ≤ v) (h1 : v < 1000) : (∀ x ∈ dg v, 48 ≤ x ∧ x ≤ 57) ∧ d10 0 (dg v) = v := by
  unfold dg
  split
  · refine ⟨fun x hx => by simp at hx; omega, by simp [d10]; omega⟩
  · split
    · refine ⟨fun x hx => by simp at hx; omega, by simp [d10]; omega⟩
    · refine ⟨fun x hx => by simp at hx; omega, by simp [d10]; omega⟩
theorem dg_0 {v : Int} (h0 : 0 ≤ v) (h1 : v < 1000) : ∃ x l, dg v = x :: l ∧ 48 ≤ x ∧ x ≤ 57 := by
  have h := (dg_d h0 h1).1
  have hl := dg_len (v := v)
  cases e : dg v with
  | nil => rw [e] at hl; simp at hl
  | cons x l => exact ⟨x, l, rfl, h x (by rw [e]; simp)⟩
def xBad (v : Int) : List Int := wl 1 ++ (32 :: (dg v ++ [59]))
def xFil (f : Int) : List Int := wl 2 ++ (32 :: ([97 + f] ++ [59]))
def xWri (f l t : Int) : List Int := wl 3 ++ (32 :: ([97 + f] ++ (32 :: (dg l ++ (32 :: (dg t ++ [59]))))))
def xHd (N S : Int) : List Int := wl 0 ++ (32 :: (dg N ++ (32 :: (dg S ++ [59]))))
section ty
variable {b : Int → Int} {L p : Int} {n : zN} {wd : Int → List Int}
theorem tWh_d {x : Int} (s : Int) (h : b s = x) (h1 : 48 ≤ x) (h2 : x ≤ 122) : tWh b s = false := by unfold tWh; rw [h]; simp; omega
/-- a number behind a space, something that is no digit behind it -/
theorem num_sp {q v y : Int} {r : List Int} (hq : seg b q (32 :: (dg v ++ (y :: r)))) (hv0 : 0 ≤ v) (hv1 : v < 1000) (hy : ¬ (48 ≤ y ∧ y ≤ 57)) (hL : q + 1 + (dg v).length < L) : tS b L q = q + 1 ∧ tK b L q = 2 ∧ tE b L q = q + 1 + (dg v).length ∧ tV b L q = v ∧ seg b (q + 1 + (dg v).length) (y :: r) := by
  obtain ⟨h1, h2⟩ := hq.one
  obtain ⟨h3, h4⟩ := h2.app
  obtain ⟨x, l, e, x0, x1⟩ := dg_0 hv0 hv1
  have hx := (by rw [e] at h3; exact h3.one.1 : b (q + 1) = x)
  have hs := tS_1 (L := L) (by omega) h1 (tWh_d (q + 1) hx x0 (by omega))
  obtain ⟨d1, d2⟩ := dg_d hv0 hv1
  have t := tok2 hs h3 d1 dg_len.1 dg_len.2 (by omega) (fun _ => by unfold tDi; rw [h4.one.1]; simp; omega)
  exact ⟨hs, t.1, t.2.1, by rw [t.2.2, d2], h4⟩
/-- a word of one letter behind a space -/
theorem let_sp {q f y : Int} {r : List Int} (hq : seg b q (32 :: ([97 + f] ++ (y :: r)))) (f0 : 0 ≤ f) (f1 : f < 26) (hy : ¬ (97 ≤ y ∧ y ≤ 122)) (hL : q + 2 < L) : tS b L q = q + 1 ∧ tK b L q = 1 ∧ tE b L q = q + 2 ∧ tW b L q = [97 + f] ∧ seg b (q + 2) (y :: r) := by
  obtain ⟨h1, h2⟩ := hq.one
  obtain ⟨h3, h4⟩ := h2.app
  have hx : b (q + 1) = 97 + f := h3.one.1
  have hs := tS_1 (L := L) (by omega) h1 (tWh_d (q + 1) hx (by omega) (by omega))
  have h5 : seg b (q + 2) (y :: r) := by
    have := h4
    simp only [List.length_cons, List.length_nil] at this
    rwa [show q + 1 + ((0 + 1 : Nat) : Int) = q + 2 by omega] at this
  have t := tok1 hs h3 (fun x hx => by simp at hx; omega) (by simp) (by simp) (by simp; omega) (fun _ => by
    rw [show q + 1 + (([97 + f] : List Int).length : Int) = q + 2 by simp only [List.length_cons, List.length_nil]; omega]
    unfold tLe
    rw [h5.one.1]; simp; omega)
  refine ⟨hs, t.1, ?_, t.2.2, h5⟩
  rw [t.2.1]; simp only [List.length_cons, List.length_nil]; omega
/-- a key word, a space behind it -/
theorem key_sp (j : Nat) {q : Int} {r : List Int} (hq : seg b q (wl j ++ (32 :: r))) (hL : q + (wl j).length < L) : tK b L q = 1 ∧ tS b L q = q ∧ tE b L q = q + (wl j).length ∧ tW b L q = wl j ∧ seg b (q + (wl j).length) (32 :: r) := by
  obtain ⟨h3, h4⟩ := hq.app
  obtain ⟨hl, hw⟩ := wl_rng j
  have hx : tWh b q = false := by
    have h0 := h3 0 (by omega)
    rw [show q + ((0 : Nat) : Int) = q by omega] at h0
    have := hw _ (List.getElem_mem (l := wl j) (n := 0) (by omega))
    exact tWh_d q h0 (by omega) (by omega)
  have hs := tS_0 (L := L) hx
  have t := tok1 hs h3 hw (by omega) (by omega) (by omega) (fun _ => by unfold tLe; rw [h4.one.1]; simp)
  exact ⟨t.1, hs, t.2.1, t.2.2, h4⟩
theorem sem {q : Int} {r : List Int} (hq : seg b q (59 :: r)) (hL : q < L) : tK b L q = 3 ∧ tE b L q = q + 1 ∧ (eSem b L q).1 = 0 := by
  have hb := hq.one.1
  have t := tok3 (tS_0 (L := L) (p := q) (tWh_d q hb (by omega) (by omega))) hb hL
  exact ⟨t.1, t.2, by unfold eSem; rw [if_pos t.1]⟩
theorem tIs_key {j k : Nat} {q : Int} (h1 : tK b L q = 1) (h2 : tW b L q = wl j) : tIs b L q k = decide (wl j = wl k) := by
  unfold tIs; rw [h1, h2]; simp
theorem st_bad {m : Nat} {v : Int} (hq : seg b p (xBad v)) (hL : p + (xBad v).length ≤ L) (h0 : 0 ≤ v) (h1 : v < n 0) (h2 : n 0 ≤ 96) (hb : n (103 + v) = 0) : pAll b L (m + 1) p n wd = pAll b L m (p + (xBad v).length) (zu n (103 + v) 1) wd := by
  have dl := dg_len (v := v)
  have el : ((xBad v).length : Int) = 5 + (dg v).length := by unfold xBad wl; simp; omega
  obtain ⟨k1, k2, k3, k4, k5⟩ := key_sp (L := L) 1 hq (by show p + 3 < L; omega)
  obtain ⟨a1, a2, a3, a4, a5⟩ := num_sp (L := L) k5 h0 (by omega) (by omega) (by show p + 3 + 1 + ((dg v).length : Int) < L; omega)
  obtain ⟨s1, s2, s3⟩ := sem (L := L) a5 (by show p + 3 + 1 + ((dg v).length : Int) < L; omega)
  rw [← k3] at a2 a3 a4
  rw [← k3, ← a3] at s2 s3
  have t1 : tIs b L p 1 = true := by rw [tIs_key k1 k4]; decide
  rw [pAll, if_neg (by omega)]
  have es : (eStm b L p n wd).1 = 0 := by
    unfold eStm eBad eNum
    rw [if_pos t1, a4, if_pos a2, if_pos (by omega), if_pos hb]; rfl
  have ep : pStm b L p = tE b L (tE b L p) := by unfold pStm; rw [if_pos t1]
  have en : nStm b L p n wd = zu n (103 + v) 1 := by unfold nStm; rw [if_pos t1, a4]
  have ew : wStm b L p n wd = wd := by unfold wStm; rw [if_pos t1]
  rw [if_pos es, ep, if_pos s3, en, ew, s2, a3, k3]
  rw [show p + ((wl 1).length : Int) + 1 + ((dg v).length : Int) + 1 = p + ((xBad v).length : Int) by rw [el]; show p + 3 + 1 + _ + 1 = _; omega]
theorem zfd_no {w : List Int} : ∀ (m : Nat) (k : Int), (∀ i, k ≤ i → i < k + m → wd i ≠ w) → zfd wd w m k = -1 := by
  intro m
  induction m with
  | zero => intro k _; rfl
  | succ m ih =>
    intro k h
    rw [zfd, if_neg (h k (by omega) (by omega))]
    exact ih (k + 1) (fun i h1 h2 => h i (by omega) (by omega))
theorem zfd_at {w : List Int} : ∀ (m : Nat) (k j : Int), k ≤ j → j < k + m → wd j = w → (∀ i, k ≤ i → i < j → wd i ≠ w) → zfd wd w m k = j := by
  intro m
  induction m with
  | zero => intro k j h1 h2; omega
  | succ m ih =>
    intro k j h1 h2 h3 h4
    rw [zfd]
    by_cases z : j = k
    · subst z; rw [if_pos h3]
    · rw [if_neg (h4 k (by omega) (by omega))]
      exact ih (k + 1) j (by omega) (by omega) h3 (fun i h5 h6 => h4 i (by omega) h6)
/-- the names so far: one letter each -/
def xNm (wd : Int → List Int) (F : Int) : Prop := ∀ k, 0 ≤ k → k < F → wd k = [97 + k]
theorem xNm.find (h : xNm wd (n 2)) {f : Int} (f0 : 0 ≤ f) (f1 : f < n 2) : fNm wd n [97 + f] = f := by
  unfold fNm
  exact zfd_at _ _ _ f0 (by omega) (h f f0 f1) (fun i i0 i1 => by rw [h i i0 (by omega)]; simp; omega)
theorem st_fil {m : Nat} (hq : seg b p (xFil (n 2))) (hL : p + (xFil (n 2)).length ≤ L) (h0 : 0 ≤ n 2) (h1 : n 2 < 6) (hw : xNm wd (n 2)) : ∃ wd', pAll b L (m + 1) p n wd = pAll b L m (p + (xFil (n 2)).length) (zu n 2 (n 2 + 1)) wd' ∧ xNm wd' (n 2 + 1) := by
  have el : ((xFil (n 2)).length : Int) = 7 := by unfold xFil wl; simp
  obtain ⟨k1, k2, k3, k4, k5⟩ := key_sp (L := L) 2 hq (by show p + 4 < L; omega)
  obtain ⟨a1, a2, a3, a4, a5⟩ := let_sp (L := L) k5 h0 (by omega) (by omega) (by show p + 4 + 2 < L; omega)
  obtain ⟨s1, s2, s3⟩ := sem (L := L) a5 (by show p + 4 + 2 < L; omega)
  rw [← k3] at a2 a3 a4
  rw [← k3, ← a3] at s2 s3
  have t1 : tIs b L p 1 = false := by rw [tIs_key k1 k4]; decide
  have t2 : tIs b L p 2 = true := by rw [tIs_key k1 k4]; decide
  have hno : fNm wd n [97 + n 2] = -1 := by
    unfold fNm
    exact zfd_no _ _ (fun i i0 i1 => by rw [hw i i0 (by omega)]; simp; omega)
  refine ⟨wStm b L p n wd, ?_, ?_⟩
  · rw [pAll, if_neg (by omega)]
    have es : (eStm b L p n wd).1 = 0 := by
      unfold eStm eNew
      rw [if_neg (by rw [t1]; simp), if_pos t2, if_neg (by omega), if_pos a2, a4, if_pos hno]
    have ep : pStm b L p = tE b L (tE b L p) := by unfold pStm; rw [if_neg (by rw [t1]; simp), if_pos t2]
    have en : nStm b L p n wd = zu n 2 (n 2 + 1) := by unfold nStm; rw [if_neg (by rw [t1]; simp), if_pos t2]
    rw [if_pos es, ep, if_pos s3, en, s2, a3, k3]
    rw [show p + ((wl 2).length : Int) + 2 + 1 = p + ((xFil (n 2)).length : Int) by rw [el]; show p + 4 + 2 + 1 = _; omega]
  · intro k k0 k1'
    unfold wStm
    rw [if_neg (by rw [t1]; simp), if_pos t2, a4]
    by_cases z : k = n 2
    · simp only [z, if_true]
    · simp only [if_neg z]; exact hw k k0 (by omega)
theorem st_wri {m : Nat} {f l t : Int} (hq : seg b p (xWri f l t)) (hL : p + (xWri f l t).length ≤ L) (f0 : 0 ≤ f) (f1 : f < n 2) (h6 : n 2 ≤ 6) (l0 : 1 ≤ l) (l1 : l ≤ 8) (t0 : 0 ≤ t) (t1 : t ≤ 999) (hw : xNm wd (n 2)) (hy : nWw n f l = 0) : pAll b L (m + 1) p n wd = pAll b L m (p + (xWri f l t).length) (nWrs n f l t) wd := by
  have dl := dg_len (v := l)
  have dt := dg_len (v := t)
  have el : ((xWri f l t).length : Int) = 10 + (dg l).length + (dg t).length := by unfold xWri wl; simp; omega
  obtain ⟨k1, k2, k3, k4, k5⟩ := key_sp (L := L) 3 hq (by show p + 5 < L; omega)
  obtain ⟨a1, a2, a3, a4, a5⟩ := let_sp (L := L) k5 f0 (by omega) (by omega) (by show p + 5 + 2 < L; omega)
  obtain ⟨c1, c2, c3, c4, c5⟩ := num_sp (L := L) a5 (by omega) (by omega) (by omega) (by show p + 5 + 2 + 1 + ((dg l).length : Int) < L; omega)
  obtain ⟨e1, e2, e3, e4, e5⟩ := num_sp (L := L) c5 t0 (by omega) (by omega) (by show p + 5 + 2 + 1 + ((dg l).length : Int) + 1 + ((dg t).length : Int) < L; omega)
  obtain ⟨s1, s2, s3⟩ := sem (L := L) e5 (by show p + 5 + 2 + 1 + ((dg l).length : Int) + 1 + ((dg t).length : Int) < L; omega)
  rw [← k3] at a2 a3 a4
  rw [← k3, ← a3] at c2 c3 c4
  rw [← k3, ← a3, ← c3] at e2 e3 e4
  rw [← k3, ← a3, ← c3, ← e3] at s2 s3
  have i1 : tIs b L p 1 = false := by rw [tIs_key k1 k4]; decide
  have i2 : tIs b L p 2 = false := by rw [tIs_key k1 k4]; decide
  have i3 : tIs b L p 3 = true := by rw [tIs_key k1 k4]; decide
  have hf := hw.find f0 f1
  rw [pAll, if_neg (by omega)]
  have es : (eStm b L p n wd).1 = 0 := by
    unfold eStm eWri eFil eNum
    rw [if_neg (by rw [i1]; simp), if_neg (by rw [i2]; simp), if_pos i3, if_pos a2, a4, hf, if_neg (by omega), if_pos c2, c4, if_pos (by omega), if_pos e2, e4, if_pos (by omega), if_pos hy]
    rfl
  have ep : pStm b L p = tE b L (tE b L (tE b L (tE b L p))) := by unfold pStm; rw [if_neg (by rw [i1]; simp), if_neg (by rw [i2]; simp), if_pos i3]
  have en : nStm b L p n wd = nWrs n f l t := by unfold nStm; rw [if_neg (by rw [i1]; simp), if_neg (by rw [i2]; simp), if_pos i3, a4, hf, c4, e4]
  have ew : wStm b L p n wd = wd := by unfold wStm; rw [if_neg (by rw [i1]; simp), if_neg (by rw [i2]; simp)]
  rw [if_pos es, ep, if_pos s3, en, ew, s2, e3, c3, a3, k3]
  rw [show p + ((wl 3).length : Int) + 2 + 1 + ((dg l).length : Int) + 1 + ((dg t).length : Int) + 1 = p + ((xWri f l t).length : Int) by rw [el]; show p + 5 + 2 + 1 + _ + 1 + _ + 1 = _; omega]
theorem st_hd {N S : Int} (hq : seg b 0 (xHd N S)) (hL : ((xHd N S).length : Int) ≤ L) (N0 : 8 ≤ N) (N1 : N ≤ 96) (S0 : 0 ≤ S) (S1 : S ≤ 16) (S2 : 2 * S ≤ N) : (eHead b L).1 = 0 ∧ hB b L = N ∧ hS b L = S ∧ hP b L = (xHd N S).length := by
  have dl := dg_len (v := N)
  have dt := dg_len (v := S)
  have el : ((xHd N S).length : Int) = 7 + (dg N).length + (dg S).length := by unfold xHd wl; simp; omega
  obtain ⟨k1, k2, k3, k4, k5⟩ := key_sp (L := L) 0 hq (by show (0 : Int) + 4 < L; omega)
  obtain ⟨c1, c2, c3, c4, c5⟩ := num_sp (L := L) k5 (by omega) (by omega) (by omega) (by show (0 : Int) + 4 + 1 + ((dg N).length : Int) < L; omega)
  obtain ⟨e1, e2, e3, e4, e5⟩ := num_sp (L := L) c5 S0 (by omega) (by omega) (by show (0 : Int) + 4 + 1 + ((dg N).length : Int) + 1 + ((dg S).length : Int) < L; omega)
  obtain ⟨s1, s2, s3⟩ := sem (L := L) e5 (by show (0 : Int) + 4 + 1 + ((dg N).length : Int) + 1 + ((dg S).length : Int) < L; omega)
  rw [← k3] at c2 c3 c4
  rw [← k3, ← c3] at e2 e3 e4
  rw [← k3, ← c3, ← e3] at s2 s3
  have i0 : tIs b L 0 0 = true := by rw [tIs_key k1 k4]; decide
  refine ⟨?_, c4, e4, ?_⟩
  · unfold eHead eNum
    rw [if_pos i0, if_pos c2, c4, if_pos (by omega), if_pos e2, e4, if_pos (by omega)]
    exact s3
  · unfold hP
    rw [s2, e3, c3, k3, el]
    show (0 : Int) + 4 + 1 + _ + 1 + _ + 1 = _
    omega
theorem pAll_end {m : Nat} (hp : L ≤ p) : pAll b L (m + 1) p n wd = ((0, 0), n, wd) := by
  rw [pAll, if_pos]
  unfold tK
  rw [if_pos]
  have : tS b L p = p := tS_stop (fun z => by omega)
  omega
end ty


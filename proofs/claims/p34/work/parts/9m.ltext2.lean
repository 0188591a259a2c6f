/-! The text as it grows. -/
/-- a text that is read without a fault, k statements behind its head, and the row it gives -/
def xOk (T : List Int) (k : Nat) (N S : Int) (n : zN) : Prop := ∀ (b : Int → Int) (L : Int), seg b 0 T → (T.length : Int) ≤ L → ((eHead b L).1 = 0 ∧ hB b L = N ∧ hS b L = S) ∧ ∃ wd, xNm wd (n 2) ∧ ∀ m, pAll b L (m + k) (hP b L) (nFm N S) (fun _ => []) = pAll b L m T.length n wd
section xt
variable {T : List Int} {k : Nat} {N S : Int} {n : zN}
theorem xOk.hd (N0 : 8 ≤ N) (N1 : N ≤ 96) (S0 : 0 ≤ S) (S1 : S ≤ 16) (S2 : 2 * S ≤ N) : xOk (xHd N S) 0 N S (nFm N S) := by
  intro b L hq hL
  obtain ⟨h1, h2, h3, h4⟩ := st_hd hq hL N0 N1 S0 S1 S2
  exact ⟨⟨h1, h2, h3⟩, fun _ => [], fun j j0 j1 => by have : nFm N S 2 = 0 := rfl; omega, fun m => by rw [h4]; rfl⟩
theorem xOk.step {X : List Int} {n' : zN} (h : xOk T k N S n) (hs : ∀ (b : Int → Int) (L : Int) (m : Nat) (wd : Int → List Int), seg b T.length X → (T.length : Int) + X.length ≤ L → xNm wd (n 2) → ∃ wd', pAll b L (m + 1) T.length n wd = pAll b L m (T.length + X.length) n' wd' ∧ xNm wd' (n' 2)) (hw : ∀ (b : Int → Int) (L : Int) (wd : Int → List Int), seg b T.length X → (T.length : Int) + X.length ≤ L → xNm wd (n 2) → ∃ wd', xNm wd' (n' 2) ∧ ∀ m, pAll b L (m + 1) T.length n wd = pAll b L m (T.length + X.length) n' wd') : xOk (T ++ X) (k + 1) N S n' := by
  intro b L hq hL
  obtain ⟨q1, q2⟩ := hq.app
  rw [Int.zero_add] at q2
  rw [List.length_append] at hL ⊢
  obtain ⟨hh, wd, w1, w2⟩ := h b L q1 (by omega)
  obtain ⟨wd', v1, v2⟩ := hw b L wd q2 (by omega) w1
  refine ⟨hh, wd', v1, fun m => ?_⟩
  rw [show m + (k + 1) = (m + 1) + k by omega, w2, v2, show ((T.length + X.length : Nat) : Int) = (T.length : Int) + X.length by omega]
theorem xOk.bad (h : xOk T k N S n) {v : Int} (h0 : 0 ≤ v) (h1 : v < n 0) (h2 : n 0 ≤ 96) (hb : n (103 + v) = 0) : xOk (T ++ xBad v) (k + 1) N S (zu n (103 + v) 1) :=
  h.step (fun b L m wd hq hL hw => ⟨wd, st_bad hq hL h0 h1 h2 hb, by rw [zu_ne (by omega)]; exact hw⟩) (fun b L wd hq hL hw => ⟨wd, by rw [zu_ne (by omega)]; exact hw, fun m => st_bad hq hL h0 h1 h2 hb⟩)
theorem st_fil2 {b : Int → Int} {L p : Int} {wd : Int → List Int} (hq : seg b p (xFil (n 2))) (hL : p + (xFil (n 2)).length ≤ L) (h0 : 0 ≤ n 2) (h1 : n 2 < 6) (hw : xNm wd (n 2)) : ∃ wd', xNm wd' (n 2 + 1) ∧ ∀ m, pAll b L (m + 1) p n wd = pAll b L m (p + (xFil (n 2)).length) (zu n 2 (n 2 + 1)) wd' := by
  have key : ∀ m, ∃ wd', pAll b L (m + 1) p n wd = pAll b L m (p + (xFil (n 2)).length) (zu n 2 (n 2 + 1)) wd' ∧ xNm wd' (n 2 + 1) ∧ wd' = wStm b L p n wd := by
    intro m
    have el : ((xFil (n 2)).length : Int) = 7 := by unfold xFil wl; simp
    obtain ⟨k1, k2, k3, k4, k5⟩ := key_sp (L := L) 2 hq (by show p + 4 < L; omega)
    obtain ⟨a1, a2, a3, a4, a5⟩ := let_sp (L := L) k5 h0 (by omega) (by omega) (by show p + 4 + 2 < L; omega)
    obtain ⟨s1, s2, s3⟩ := sem (L := L) a5 (by show p + 4 + 2 < L; omega)
    rw [← k3] at a2 a3 a4
    rw [← k3, ← a3] at s2 s3
    have t1 : tIs b L p 1 = false := by rw [tIs_key k1 k4]; decide
    have t2 : tIs b L p 2 = true := by rw [tIs_key k1 k4]; decide
    have hno : fNm wd n [97 + n 2] = -1 := by
      unfold fNm
      exact zfd_no _ _ (fun i i0 i1 => by rw [hw i i0 (by omega)]; simp; omega)
    refine ⟨wStm b L p n wd, ?_, ?_, rfl⟩
    · rw [pAll, if_neg (by omega)]
      have es : (eStm b L p n wd).1 = 0 := by
        unfold eStm eNew
        rw [if_neg (by rw [t1]; simp), if_pos t2, if_neg (by omega), if_pos a2, a4, if_pos hno]
      have ep : pStm b L p = tE b L (tE b L p) := by unfold pStm; rw [if_neg (by rw [t1]; simp), if_pos t2]
      have en : nStm b L p n wd = zu n 2 (n 2 + 1) := by unfold nStm; rw [if_neg (by rw [t1]; simp), if_pos t2]
      rw [if_pos es, ep, if_pos s3, en, s2, a3, k3]
      rw [show p + ((wl 2).length : Int) + 2 + 1 = p + ((xFil (n 2)).length : Int) by rw [el]; show p + 4 + 2 + 1 = _; omega]
    · intro k k0 k1'
      unfold wStm
      rw [if_neg (by rw [t1]; simp), if_pos t2, a4]
      by_cases z : k = n 2
      · simp only [z, if_true]
      · simp only [if_neg z]; exact hw k k0 (by omega)
  obtain ⟨w0, _, x0, rfl⟩ := key 0
  refine ⟨_, x0, fun m => ?_⟩
  obtain ⟨w1, y1, _, rfl⟩ := key m
  exact y1
theorem xOk.fil (h : xOk T k N S n) (h0 : 0 ≤ n 2) (h1 : n 2 < 6) : xOk (T ++ xFil (n 2)) (k + 1) N S (zu n 2 (n 2 + 1)) :=
  h.step (fun b L m wd hq hL hw => by obtain ⟨wd', v1, v2⟩ := st_fil2 hq hL h0 h1 hw; exact ⟨wd', v2 m, by rw [zu_eq rfl]; exact v1⟩) (fun b L wd hq hL hw => by obtain ⟨wd', v1, v2⟩ := st_fil2 hq hL h0 h1 hw; exact ⟨wd', by rw [zu_eq rfl]; exact v1, v2⟩)
theorem xOk.wri (h : xOk T k N S n) {f l t : Int} (f0 : 0 ≤ f) (f1 : f < n 2) (h6 : n 2 ≤ 6) (l0 : 1 ≤ l) (l1 : l ≤ 8) (t0 : 0 ≤ t) (t1 : t ≤ 999) (hy : nWw n f l = 0) (h2 : nWrs n f l t 2 = n 2) : xOk (T ++ xWri f l t) (k + 1) N S (nWrs n f l t) :=
  h.step (fun b L m wd hq hL hw => ⟨wd, st_wri hq hL f0 f1 h6 l0 l1 t0 t1 hw hy, by rw [h2]; exact hw⟩) (fun b L wd hq hL hw => ⟨wd, by rw [h2]; exact hw, fun m => st_wri hq hL f0 f1 h6 l0 l1 t0 t1 hw hy⟩)
/-- the whole text -/
theorem xOk.fin (h : xOk T k N S n) (hk : k < 600) {b : Int → Int} (hq : seg b 0 T) : (eTxt b T.length (nFm N S)).1 = 0 ∧ nTxt b T.length (nFm N S) = n ∧ (hB b T.length = N ∧ hS b T.length = S) := by
  obtain ⟨⟨h1, h2, h3⟩, wd, w1, w2⟩ := h b T.length hq (by omega)
  have e : pAll b T.length 600 (hP b T.length) (nFm N S) (fun _ => []) = ((0, 0), n, wd) := by
    have := w2 (600 - k - 1 + 1)
    rw [show 600 - k - 1 + 1 + k = 600 by omega] at this
    rw [this]; exact pAll_end (by omega)
  refine ⟨?_, ?_, h2, h3⟩
  · unfold eTxt; rw [if_pos h1, e]
  · unfold nTxt; rw [e]
end xt
/-- the marks and the number of files may change places -/
theorem zu_sw {n : zN} {i j x y : Int} (h : i ≠ j) : zu (zu n i x) j y = zu (zu n j y) i x := by
  funext a
  unfold zu
  by_cases z : a = j
  · rw [if_pos z, if_neg (by omega), if_pos z]
  · rw [if_neg z]
    by_cases w : a = i
    · rw [if_pos w, if_pos w]
    · rw [if_neg w, if_neg w, if_neg z]
theorem zu_zu {n : zN} {i x y : Int} : zu (zu n i x) i y = zu n i y := by
  funext a
  unfold zu
  by_cases z : a = i
  · rw [if_pos z, if_pos z]
  · rw [if_neg z, if_neg z, if_neg z]
theorem zu_id {n : zN} {i x : Int} (h : n i = x) : zu n i x = n := by
  funext a
  unfold zu
  by_cases z : a = i
  · rw [if_pos z, z, h]
  · rw [if_neg z]


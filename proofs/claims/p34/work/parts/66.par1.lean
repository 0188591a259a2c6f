/-! The class's text: what it says, statement by statement. -/
def fNm (wd : Int → List Int) (n : zN) (w : List Int) : Int := zfd wd w (n 2).toNat 0
def eTh (a c : Int × Int) : Int × Int := if a.1 = 0 then c else a
def eNum (b : Int → Int) (L p lo hi : Int) : Int × Int := if tK b L p = 2 then (if lo ≤ tV b L p ∧ tV b L p ≤ hi then (0, 0) else (3, tS b L p)) else (1, tS b L p)
def eSem (b : Int → Int) (L p : Int) : Int × Int := if tK b L p = 3 then (0, 0) else (1, tS b L p)
def eFil (b : Int → Int) (L p : Int) (n : zN) (wd : Int → List Int) : Int × Int := if tK b L p = 1 then (if fNm wd n (tW b L p) = -1 then (4, tS b L p) else (0, 0)) else (1, tS b L p)
def eBad (b : Int → Int) (L p : Int) (n : zN) : Int × Int := eTh (eNum b L p 0 (n 0 - 1)) (if n (103 + tV b L p) = 0 then (0, 0) else (2, tS b L p))
def eNew (b : Int → Int) (L q p : Int) (n : zN) (wd : Int → List Int) : Int × Int := if 10 ≤ n 2 then (5, tS b L q) else if tK b L p = 1 then (if fNm wd n (tW b L p) = -1 then (0, 0) else (2, tS b L p)) else (1, tS b L p)
def eWri (b : Int → Int) (L q p : Int) (n : zN) (wd : Int → List Int) : Int × Int := eTh (eFil b L p n wd) (eTh (eNum b L (tE b L p) 1 8) (eTh (eNum b L (tE b L (tE b L p)) 0 999) (if nWw n (fNm wd n (tW b L p)) (tV b L (tE b L p)) = 0 then (0, 0) else (6, tS b L q))))
def eEra (b : Int → Int) (L q p : Int) (n : zN) (wd : Int → List Int) : Int × Int := eTh (eFil b L p n wd) (if nWe n (fNm wd n (tW b L p)) = 0 then (0, 0) else (6, tS b L q))
def eClo (b : Int → Int) (L q : Int) (n : zN) : Int × Int := if nWc n = 0 then (0, 0) else (6, tS b L q)
def eStm (b : Int → Int) (L q : Int) (n : zN) (wd : Int → List Int) : Int × Int := if tIs b L q 1 = true then eBad b L (tE b L q) n else if tIs b L q 2 = true then eNew b L q (tE b L q) n wd else if tIs b L q 3 = true then eWri b L q (tE b L q) n wd else if tIs b L q 4 = true then eEra b L q (tE b L q) n wd else if tIs b L q 5 = true then eClo b L q n else (1, tS b L q)
def nStm (b : Int → Int) (L q : Int) (n : zN) (wd : Int → List Int) : zN := if tIs b L q 1 = true then zu n (103 + tV b L (tE b L q)) 1 else if tIs b L q 2 = true then zu n 2 (n 2 + 1) else if tIs b L q 3 = true then nWrs n (fNm wd n (tW b L (tE b L q))) (tV b L (tE b L (tE b L q))) (tV b L (tE b L (tE b L (tE b L q)))) else if tIs b L q 4 = true then nErs n (fNm wd n (tW b L (tE b L q))) else nCl n
def wStm (b : Int → Int) (L q : Int) (n : zN) (wd : Int → List Int) : Int → List Int := if tIs b L q 1 = true then wd else if tIs b L q 2 = true then (fun k => if k = n 2 then tW b L (tE b L q) else wd k) else wd
def pStm (b : Int → Int) (L q : Int) : Int := if tIs b L q 1 = true then tE b L (tE b L q) else if tIs b L q 2 = true then tE b L (tE b L q) else if tIs b L q 3 = true then tE b L (tE b L (tE b L (tE b L q))) else if tIs b L q 4 = true then tE b L (tE b L q) else tE b L q
theorem tK_rng {b : Int → Int} {L p : Int} : 0 ≤ tK b L p ∧ tK b L p ≤ 4 := tK_rn b L p
theorem eTh_ok {a c : Int × Int} (h : a.1 = 0) : eTh a c = c := by unfold eTh; rw [if_pos h]
theorem eTh_no {a c : Int × Int} (h : ¬ a.1 = 0) : eTh a c = a := by unfold eTh; rw [if_neg h]
theorem eNum_0 {b : Int → Int} {L p lo hi : Int} (h : (eNum b L p lo hi).1 = 0) : tK b L p = 2 ∧ lo ≤ tV b L p ∧ tV b L p ≤ hi := by
  unfold eNum at h
  by_cases c1 : tK b L p = 2
  · rw [if_pos c1] at h
    by_cases c2 : lo ≤ tV b L p ∧ tV b L p ≤ hi
    · exact ⟨c1, c2⟩
    · rw [if_neg c2] at h
      exact absurd h (by simp)
  · rw [if_neg c1] at h
    exact absurd h (by simp)
theorem eFil_0 {b : Int → Int} {L p : Int} {n : zN} {wd : Int → List Int} (h : (eFil b L p n wd).1 = 0) : tK b L p = 1 ∧ ¬ fNm wd n (tW b L p) = -1 := by
  unfold eFil at h
  by_cases c1 : tK b L p = 1
  · rw [if_pos c1] at h
    by_cases c2 : fNm wd n (tW b L p) = -1
    · rw [if_pos c2] at h
      exact absurd h (by simp)
    · exact ⟨c1, c2⟩
  · rw [if_neg c1] at h
    exact absurd h (by simp)
/-- a text's statement as it is read, ahead of the disc -/
abbrev zS5 : Type := Int × Int × Int × Int × Int
def e1Wri (b : Int → Int) (L p : Int) (n : zN) (wd : Int → List Int) : Int × Int := eTh (eFil b L p n wd) (eTh (eNum b L (tE b L p) 1 8) (eNum b L (tE b L (tE b L p)) 0 999))
def e1Stm (b : Int → Int) (L q : Int) (n : zN) (wd : Int → List Int) : Int × Int := if tIs b L q 1 = true then eBad b L (tE b L q) n else if tIs b L q 2 = true then eNew b L q (tE b L q) n wd else if tIs b L q 3 = true then e1Wri b L (tE b L q) n wd else if tIs b L q 4 = true then eFil b L (tE b L q) n wd else if tIs b L q 5 = true then (0, 0) else (1, tS b L q)
def n1Stm (b : Int → Int) (L q : Int) (n : zN) : zN := if tIs b L q 1 = true then zu n (103 + tV b L (tE b L q)) 1 else if tIs b L q 2 = true then zu n 2 (n 2 + 1) else n
def s1Stm (b : Int → Int) (L q : Int) (n : zN) (wd : Int → List Int) : List zS5 := if tIs b L q 1 = true then [(0, tS b L q, tV b L (tE b L q), 0, 0)] else if tIs b L q 2 = true then [] else if tIs b L q 3 = true then [(1, tS b L q, fNm wd n (tW b L (tE b L q)), tV b L (tE b L (tE b L q)), tV b L (tE b L (tE b L (tE b L q))))] else if tIs b L q 4 = true then [(2, tS b L q, fNm wd n (tW b L (tE b L q)), 0, 0)] else [(3, tS b L q, -1, 0, 0)]
def zF1 (σ σ' : zW) : Prop := (∀ k d c, ¬ (k = 2 ∧ d = 0 ∧ c = 3) → σ' k d c = σ k d c) ∧ ∀ i, i ≠ 0 → i ≠ 14 → σ' 2 0 3 i = σ 2 0 3 i
theorem zF1.tr {σ σ1 σ2 : zW} (h : zF1 σ σ1) (h2 : zF1 σ1 σ2) : zF1 σ σ2 := ⟨fun k d c z => (h2.1 k d c z).trans (h.1 k d c z), fun i z y => (h2.2 i z y).trans (h.2 i z y)⟩
theorem zF1.s {σ : zW} {i v : Int} (hi : i = 0 ∨ i = 14) : zF1 σ (zs σ 2 0 3 i v) := ⟨fun k d c z => zs_ne z, fun j z y => by rw [zs_at, if_neg (by omega)]⟩
def zF2 (σ σ' : zW) : Prop := (∀ k d c, ¬ (k = 2 ∧ d = 0 ∧ (c = 3 ∨ (9 ≤ c ∧ c ≤ 15))) → σ' k d c = σ k d c) ∧ ∀ i, 1 ≤ i → i ≤ 3 → σ' 2 0 3 i = σ 2 0 3 i
theorem zF2.rf {σ : zW} : zF2 σ σ := ⟨fun _ _ _ _ => rfl, fun _ _ _ => rfl⟩
theorem zF2.tr {σ σ1 σ2 : zW} (h : zF2 σ σ1) (h2 : zF2 σ1 σ2) : zF2 σ σ2 := ⟨fun k d c z => (h2.1 k d c z).trans (h.1 k d c z), fun i z y => (h2.2 i z y).trans (h.2 i z y)⟩
theorem zF1.f {σ σ' : zW} (h : zF1 σ σ') : zF2 σ σ' := ⟨fun k d c z => h.1 k d c (by omega), fun i z y => h.2 i (by omega) (by omega)⟩
theorem zF2.c {σ : zW} {c : Nat} {i v : Int} (hc : 9 ≤ c ∧ c ≤ 15) : zF2 σ (zs σ 2 0 c i v) := ⟨fun k d c' z => zs_ne (by omega), fun j _ _ => by rw [zs_ne (by omega)]⟩
theorem zF2.s {σ : zW} {i v : Int} (hi : i = 0 ∨ 4 ≤ i) : zF2 σ (zs σ 2 0 3 i v) := ⟨fun k d c z => zs_ne (by omega), fun j z y => by rw [zs_at, if_neg (by omega)]⟩
def zA1 (σ σ' : zW) (e : Int × Int) : Prop := (e.1 = 0 → σ' 2 0 3 0 = σ 2 0 3 0) ∧ (e.1 ≠ 0 → σ' 2 0 3 0 = e.1)
theorem zA1.tr {σ σ1 σ2 : zW} {e : Int × Int} (h : σ1 2 0 3 0 = σ 2 0 3 0) (h2 : zA1 σ1 σ2 e) : zA1 σ σ2 e := ⟨fun z => (h2.1 z).trans h, h2.2⟩
def zNs (σ : zW) (n : zN) (wd : Int → List Int) : Prop := σ 2 0 3 4 = n 2 ∧ (0 ≤ n 2 ∧ n 2 ≤ 10) ∧ ∀ k, 0 ≤ k → k < n 2 → zWd (wd k) ∧ σ 2 0 9 k = zw27 (wd k)
def zSr (σ : zW) (i : Nat) (s : zS5) : Prop := σ 2 0 10 i = s.1 ∧ σ 2 0 11 i = s.2.1 ∧ σ 2 0 12 i = s.2.2.1 ∧ (s.1 = 1 → σ 2 0 13 i = s.2.2.2.1 ∧ σ 2 0 14 i = s.2.2.2.2)
def zSl (σ : zW) (S : List zS5) : Prop := σ 2 0 3 6 = (S.length : Int) ∧ ∀ (i : Nat) (s : zS5), S[i]? = some s → zSr σ i s
def zBs (σ : zW) (n : zN) : Prop := σ 2 0 3 2 = n 0 ∧ (8 ≤ n 0 ∧ n 0 ≤ 96) ∧ ∀ c, 0 ≤ c → c < 96 → σ 2 0 15 c = n (103 + c) ∧ (n (103 + c) = 0 ∨ n (103 + c) = 1)
def zP1 (σ : zW) (b : Int → Int) (L : Int) (C T : Nat) (n : zN) (wd : Int → List Int) (S : List zS5) : Prop := zTz σ b L C ∧ σ 2 0 3 14 = (T : Int) ∧ zBs σ n ∧ zNs σ n wd ∧ zSl σ S
section zP
variable {E : zE} {σ : zW} {b : Int → Int} {L : Int} {C T : Nat} {n : zN} {wd : Int → List Int} {S : List zS5}
/-- the disc t shows n, its files have the names wd -/
def zSw (σ : zW) (t : Nat) (n : zN) (wd : Int → List Int) : Prop := zRd (σ 0 t) n ∧ nW n ∧ ∀ k, 0 ≤ k → k < n 2 → zWd (wd k) ∧ σ 0 t 23 k = zw27 (wd k)
theorem zSw.cg {σ σ' : zW} {t : Nat} {n : zN} {wd : Int → List Int} (h : zSw σ t n wd) (e : σ' 0 t = σ 0 t) : zSw σ' t n wd := by
  unfold zSw
  rw [e]
  exact h
theorem zSw.ch {σ σ' : zW} {t : Nat} {n n' : zN} {wd : Int → List Int} (h : zSw σ t n wd) (g : ∀ c', c' = 0 ∨ c' = 23 → σ' 0 t c' = σ 0 t c') (hR : zRd (σ' 0 t) n') (hn : nW n') : zSw σ' t n' wd := by
  have e1 : σ' 0 t 0 3 = n' 2 := hR.2.2.2.1
  have e2 : σ 0 t 0 3 = n 2 := h.1.2.2.2.1
  have e3 : n' 2 = n 2 := by rw [← e1, ← e2, g 0 (Or.inl rfl)]
  exact ⟨hR, hn, fun k k0 k1 => by rw [g 23 (Or.inr rfl)]; exact h.2.2 k k0 (by omega)⟩
theorem fNm_rng {wd : Int → List Int} {n : zN} {w : List Int} (hn : nW n) (h : ¬ fNm wd n w = -1) : 0 ≤ fNm wd n w ∧ fNm wd n w < n 2 := by
  have h2 := hn.1.2.2.1
  rcases zfd_rng wd w (n 2).toNat 0 with h1 | h1
  · exact absurd h1 h
  · unfold fNm
    omega
theorem fNm_rg {wd : Int → List Int} {n : zN} {w : List Int} (hn : nW n) : -1 ≤ fNm wd n w ∧ fNm wd n w < 11 := by
  have h2 := hn.1.2.2.1
  rcases zfd_rng wd w (n 2).toNat 0 with h1 | h1
  · unfold fNm
    omega
  · unfold fNm
    omega
theorem zP1.t {σ' : zW} {T' : Nat} (h : zP1 σ b L C T n wd S) (f : zF1 σ σ') (h14 : σ' 2 0 3 14 = (T' : Int)) : zP1 σ' b L C T' n wd S := by
  obtain ⟨h1, h2, ⟨h3, h4, h5⟩, ⟨h6, h7, h8⟩, h9, h10⟩ := h
  refine ⟨h1.cg (fun c a z => f.1 2 0 c (by omega)), h14, ⟨by rw [f.2 2 (by omega) (by omega)]; exact h3, h4, fun c c0 c1 => by rw [f.1 2 0 15 (by omega)]; exact h5 c c0 c1⟩, ⟨by rw [f.2 4 (by omega) (by omega)]; exact h6, h7, fun k k0 k1 => by rw [f.1 2 0 9 (by omega)]; exact h8 k k0 k1⟩, by rw [f.2 6 (by omega) (by omega)]; exact h9, fun i s hs => ?_⟩
  have := h10 i s hs
  unfold zSr at this ⊢
  rw [f.1 2 0 10 (by omega), f.1 2 0 11 (by omega), f.1 2 0 12 (by omega), f.1 2 0 13 (by omega), f.1 2 0 14 (by omega)]
  exact this
theorem e4_fail (hW : zWF E) (hm : zU E 2 0 = true) (e : Int) : f_X4_fail (zH E σ) (zL E 2 0 3) (zI e) = some (zH E (zs σ 2 0 3 0 e), zI 0) := by
  have p0 := zp_tx0 (σ := σ) hW hm e
  simp (disch := first | assumption | omega) only [f_X4_fail, p0, zz_some, zz_lit, zz_num, zI_lt, zI_le, zI_eq, zI_nat, zz_b, if_pos, if_neg, if_true, if_false]
theorem e4_readNumber (hW : zWF E) (hm : zU E 2 0 = true) (hz : zTz σ b L C) (hT : T ≤ 900) (h14 : σ 2 0 3 14 = (T : Int)) {lo hi : Int} (hl0 : 0 ≤ lo) (hl1 : lo < 1000) (hh0 : -1 ≤ hi) (hh1 : hi < 1000) : ∃ σ', f_X4_readNumber (zH E σ) (zL E 2 0 3) (zI lo) (zI hi) = some (zH E σ', zI (zb (decide ((eNum b L (tp b L (T + 1)) lo hi).1 = 0)))) ∧ zF1 σ σ' ∧ σ' 2 0 3 14 = ((T + 1 : Nat) : Int) ∧ zA1 σ σ' (eNum b L (tp b L (T + 1)) lo hi) ∧ ((eNum b L (tp b L (T + 1)) lo hi).1 ≠ 0 → (eNum b L (tp b L (T + 1)) lo hi).2 = tS b L (tp b L (T + 1))) := by
  have g14 := zg_tx14 (σ := σ) hW hm
  rw [h14] at g14
  have q14 := zp_tx14 (σ := σ) hW hm ((T : Int) + 1)
  obtain ⟨σ1, e1⟩ : ∃ y, y = zs σ 2 0 3 14 ((T : Int) + 1) := ⟨_, rfl⟩
  rw [← e1] at q14
  have f1 : zF1 σ σ1 := by rw [e1]; exact zF1.s (Or.inr rfl)
  have h141 : σ1 2 0 3 14 = ((T + 1 : Nat) : Int) := by rw [e1, zs_at, if_pos rfl]; omega
  have h01 : σ1 2 0 3 0 = σ 2 0 3 0 := by rw [e1, zs_at, if_neg (by omega)]
  have hz1 : zTz σ1 b L C := hz.cg (fun c a z => f1.1 2 0 c (by omega))
  have g13 := zg_tx13 (σ := σ1) hW hm
  have g141 := zg_tx14 (σ := σ1) hW hm
  rw [h141] at g141
  have hto := (zz_tko (σ := σ1) hW hm).2.2.2
  have htx := (zz_txo (σ := σ1) hW hm).2.2.2.2.2.2.2.2
  have hk := e11_kindOf hW hm hz1 (T := T + 1) (by omega)
  have hkr := tK_rn b L (tp b L (T + 1))
  by_cases c1 : tK b L (tp b L (T + 1)) = 2
  · have hv := e11_numberOf hW hm hz1 c1
    have hvr := tK_2 (tp_rng (b := b) hz.1.1 (T + 1)).2 c1
    by_cases c2 : lo ≤ tV b L (tp b L (T + 1)) ∧ tV b L (tp b L (T + 1)) ≤ hi
    · have e : eNum b L (tp b L (T + 1)) lo hi = (0, 0) := by unfold eNum; rw [if_pos c1, if_pos c2]
      rw [e, zb_dpos (show ((0, 0) : Int × Int).1 = 0 from rfl)]
      have d1 : ¬ tV b L (tp b L (T + 1)) < lo := by omega
      have d2 : tV b L (tp b L (T + 1)) ≤ hi := c2.2
      refine ⟨σ1, ?_, f1, h141, ⟨fun _ => h01, fun z => absurd rfl z⟩, fun z => absurd rfl z⟩
      simp (disch := first | assumption | omega) only [f_X4_readNumber, g14, q14, g13, g141, hto, hk, c1, hv, d1, d2, zz_some, zz_lit, zz_num, zI_lt, zI_le, zI_eq, zI_nat, zz_b, if_pos, if_neg, if_true, if_false]
    · have e : eNum b L (tp b L (T + 1)) lo hi = (3, tS b L (tp b L (T + 1))) := by unfold eNum; rw [if_pos c1, if_neg c2]
      rw [e, zb_dneg (show ¬ ((3, tS b L (tp b L (T + 1))) : Int × Int).1 = 0 by simp)]
      have fl := e4_fail (σ := σ1) hW hm 3
      have hJ : f_X4_readNumber_J53 (zH E σ1) (zL E 2 0 3) = some (zH E (zs σ1 2 0 3 0 3), zI 0) := by
        simp (disch := first | assumption | omega) only [f_X4_readNumber_J53, htx, fl, zz_some, zz_lit, zz_num, zI_lt, zI_le, zI_eq, zI_nat, zz_b, if_pos, if_neg, if_true, if_false]
      refine ⟨zs σ1 2 0 3 0 3, ?_, f1.tr (zF1.s (Or.inl rfl)), by rw [zs_at, if_neg (by omega)]; exact h141, ⟨fun z => absurd z (by simp), fun _ => by rw [zs_at, if_pos rfl]⟩, fun _ => rfl⟩
      by_cases d1 : tV b L (tp b L (T + 1)) < lo
      · simp (disch := first | assumption | omega) only [f_X4_readNumber, g14, q14, g13, g141, hto, hk, c1, hv, d1, hJ, zz_some, zz_lit, zz_num, zI_lt, zI_le, zI_eq, zI_nat, zz_b, if_pos, if_neg, if_true, if_false]
      · have d2 : ¬ tV b L (tp b L (T + 1)) ≤ hi := by omega
        simp (disch := first | assumption | omega) only [f_X4_readNumber, g14, q14, g13, g141, hto, hk, c1, hv, d1, d2, hJ, zz_some, zz_lit, zz_num, zI_lt, zI_le, zI_eq, zI_nat, zz_b, if_pos, if_neg, if_true, if_false]
  · have e : eNum b L (tp b L (T + 1)) lo hi = (1, tS b L (tp b L (T + 1))) := by unfold eNum; rw [if_neg c1]
    rw [e, zb_dneg (show ¬ ((1, tS b L (tp b L (T + 1))) : Int × Int).1 = 0 by simp)]
    have fl := e4_fail (σ := σ1) hW hm 1
    refine ⟨zs σ1 2 0 3 0 1, ?_, f1.tr (zF1.s (Or.inl rfl)), by rw [zs_at, if_neg (by omega)]; exact h141, ⟨fun z => absurd z (by simp), fun _ => by rw [zs_at, if_pos rfl]⟩, fun _ => rfl⟩
    simp (disch := first | assumption | omega) only [f_X4_readNumber, g14, q14, g13, g141, hto, hk, c1, htx, fl, zz_some, zz_lit, zz_num, zI_lt, zI_le, zI_eq, zI_nat, zz_b, if_pos, if_neg, if_true, if_false]
theorem e4_readSemicolon (hW : zWF E) (hm : zU E 2 0 = true) (hz : zTz σ b L C) (hT : T ≤ 900) (h14 : σ 2 0 3 14 = (T : Int)) : ∃ σ', f_X4_readSemicolon (zH E σ) (zL E 2 0 3) = some (zH E σ', zI (zb (decide ((eSem b L (tp b L (T + 1))).1 = 0)))) ∧ zF1 σ σ' ∧ σ' 2 0 3 14 = ((T + 1 : Nat) : Int) ∧ zA1 σ σ' (eSem b L (tp b L (T + 1))) ∧ ((eSem b L (tp b L (T + 1))).1 ≠ 0 → (eSem b L (tp b L (T + 1))).2 = tS b L (tp b L (T + 1))) := by
  have g14 := zg_tx14 (σ := σ) hW hm
  rw [h14] at g14
  have q14 := zp_tx14 (σ := σ) hW hm ((T : Int) + 1)
  obtain ⟨σ1, e1⟩ : ∃ y, y = zs σ 2 0 3 14 ((T : Int) + 1) := ⟨_, rfl⟩
  rw [← e1] at q14
  have f1 : zF1 σ σ1 := by rw [e1]; exact zF1.s (Or.inr rfl)
  have h141 : σ1 2 0 3 14 = ((T + 1 : Nat) : Int) := by rw [e1, zs_at, if_pos rfl]; omega
  have h01 : σ1 2 0 3 0 = σ 2 0 3 0 := by rw [e1, zs_at, if_neg (by omega)]
  have hz1 : zTz σ1 b L C := hz.cg (fun c a z => f1.1 2 0 c (by omega))
  have g13 := zg_tx13 (σ := σ1) hW hm
  have g141 := zg_tx14 (σ := σ1) hW hm
  rw [h141] at g141
  have hto := (zz_tko (σ := σ1) hW hm).2.2.2
  have htx := (zz_txo (σ := σ1) hW hm).2.2.2.2.2.2.2.2
  have hk := e11_kindOf hW hm hz1 (T := T + 1) (by omega)
  have hkr := tK_rn b L (tp b L (T + 1))
  by_cases c1 : tK b L (tp b L (T + 1)) = 3
  · have e : eSem b L (tp b L (T + 1)) = (0, 0) := by unfold eSem; rw [if_pos c1]
    rw [e, zb_dpos (show ((0, 0) : Int × Int).1 = 0 from rfl)]
    refine ⟨σ1, ?_, f1, h141, ⟨fun _ => h01, fun z => absurd rfl z⟩, fun z => absurd rfl z⟩
    simp (disch := first | assumption | omega) only [f_X4_readSemicolon, g14, q14, g13, g141, hto, hk, c1, zz_some, zz_lit, zz_num, zI_lt, zI_le, zI_eq, zI_nat, zz_b, if_pos, if_neg, if_true, if_false]
  · have e : eSem b L (tp b L (T + 1)) = (1, tS b L (tp b L (T + 1))) := by unfold eSem; rw [if_neg c1]
    rw [e, zb_dneg (show ¬ ((1, tS b L (tp b L (T + 1))) : Int × Int).1 = 0 by simp)]
    have fl := e4_fail (σ := σ1) hW hm 1
    refine ⟨zs σ1 2 0 3 0 1, ?_, f1.tr (zF1.s (Or.inl rfl)), by rw [zs_at, if_neg (by omega)]; exact h141, ⟨fun z => absurd z (by simp), fun _ => by rw [zs_at, if_pos rfl]⟩, fun _ => rfl⟩
    simp (disch := first | assumption | omega) only [f_X4_readSemicolon, g14, q14, g13, g141, hto, hk, c1, htx, fl, zz_some, zz_lit, zz_num, zI_lt, zI_le, zI_eq, zI_nat, zz_b, if_pos, if_neg, if_true, if_false]
theorem e4_readFile (hW : zWF E) (hm : zU E 2 0 = true) (hz : zTz σ b L C) (hT : T ≤ 900) (h14 : σ 2 0 3 14 = (T : Int)) (hN : zNs σ n wd) : ∃ σ', f_X4_readFile (zH E σ) (zL E 2 0 3) = some (zH E σ', zI (if (eFil b L (tp b L (T + 1)) n wd).1 = 0 then fNm wd n (tW b L (tp b L (T + 1))) else -1)) ∧ zF1 σ σ' ∧ σ' 2 0 3 14 = ((T + 1 : Nat) : Int) ∧ zA1 σ σ' (eFil b L (tp b L (T + 1)) n wd) ∧ ((eFil b L (tp b L (T + 1)) n wd).1 ≠ 0 → (eFil b L (tp b L (T + 1)) n wd).2 = tS b L (tp b L (T + 1))) := by
  have g14 := zg_tx14 (σ := σ) hW hm
  rw [h14] at g14
  have q14 := zp_tx14 (σ := σ) hW hm ((T : Int) + 1)
  obtain ⟨σ1, e1⟩ : ∃ y, y = zs σ 2 0 3 14 ((T : Int) + 1) := ⟨_, rfl⟩
  rw [← e1] at q14
  have f1 : zF1 σ σ1 := by rw [e1]; exact zF1.s (Or.inr rfl)
  have h141 : σ1 2 0 3 14 = ((T + 1 : Nat) : Int) := by rw [e1, zs_at, if_pos rfl]; omega
  have h01 : σ1 2 0 3 0 = σ 2 0 3 0 := by rw [e1, zs_at, if_neg (by omega)]
  have hz1 : zTz σ1 b L C := hz.cg (fun c a z => f1.1 2 0 c (by omega))
  have g13 := zg_tx13 (σ := σ1) hW hm
  have g5 := zg_tx5 (σ := σ1) hW hm
  have g4 := zg_tx4 (σ := σ1) hW hm
  rw [f1.2 4 (by omega) (by omega), hN.1] at g4
  have g141 := zg_tx14 (σ := σ1) hW hm
  rw [h141] at g141
  have hto := (zz_tko (σ := σ1) hW hm).2.2.2
  have htx := (zz_txo (σ := σ1) hW hm).2.2.2.2.2.2.2.2
  have hk := e11_kindOf hW hm hz1 (T := T + 1) (by omega)
  have hkr := tK_rn b L (tp b L (T + 1))
  by_cases c1 : tK b L (tp b L (T + 1)) = 1
  · have hv := e11_wordOf hW hm hz1 c1
    have hw := tK_1 (tp_rng (b := b) hz.1.1 (T + 1)).2 c1
    have hx := e9_indexOf (σ := σ1) (k0 := 2) (d := 0) (c := 9) hW hm rfl hN.2.1.1 hN.2.1.2 (fun k k0 k1 => by rw [f1.1 2 0 9 (by omega)]; exact hN.2.2 k k0 k1) hw
    have hfn : zfd wd (tW b L (tp b L (T + 1))) (n 2).toNat 0 = fNm wd n (tW b L (tp b L (T + 1))) := rfl
    rw [hfn] at hx
    have hr : -1 ≤ fNm wd n (tW b L (tp b L (T + 1))) ∧ fNm wd n (tW b L (tp b L (T + 1))) < 11 := by
      have h10 := hN.2.1
      rcases zfd_rng wd (tW b L (tp b L (T + 1))) (n 2).toNat 0 with h | h
      · unfold fNm; omega
      · unfold fNm; omega
    by_cases c2 : fNm wd n (tW b L (tp b L (T + 1))) = -1
    · have e : eFil b L (tp b L (T + 1)) n wd = (4, tS b L (tp b L (T + 1))) := by unfold eFil; rw [if_pos c1, if_pos c2]
      rw [e, if_neg (show ¬ ((4, tS b L (tp b L (T + 1))) : Int × Int).1 = 0 by simp)]
      have fl := e4_fail (σ := σ1) hW hm 4
      refine ⟨zs σ1 2 0 3 0 4, ?_, f1.tr (zF1.s (Or.inl rfl)), by rw [zs_at, if_neg (by omega)]; exact h141, ⟨fun z => absurd z (by simp), fun _ => by rw [zs_at, if_pos rfl]⟩, fun _ => rfl⟩
      rw [c2] at hx
      simp (disch := first | assumption | omega) only [f_X4_readFile, g14, q14, g13, g141, hto, hk, c1, g5, g4, hv, hx, htx, fl, zz_some, zz_lit, zz_num, zI_lt, zI_le, zI_eq, zI_nat, zz_b, if_pos, if_neg, if_true, if_false]
    · have e : eFil b L (tp b L (T + 1)) n wd = (0, 0) := by unfold eFil; rw [if_pos c1, if_neg c2]
      rw [e, if_pos (show ((0, 0) : Int × Int).1 = 0 from rfl)]
      refine ⟨σ1, ?_, f1, h141, ⟨fun _ => h01, fun z => absurd rfl z⟩, fun z => absurd rfl z⟩
      simp (disch := first | assumption | omega) only [f_X4_readFile, g14, q14, g13, g141, hto, hk, c1, g5, g4, hv, hx, c2, zz_some, zz_lit, zz_num, zI_lt, zI_le, zI_eq, zI_nat, zz_b, if_pos, if_neg, if_true, if_false]
  · have e : eFil b L (tp b L (T + 1)) n wd = (1, tS b L (tp b L (T + 1))) := by unfold eFil; rw [if_neg c1]
    rw [e, if_neg (show ¬ ((1, tS b L (tp b L (T + 1))) : Int × Int).1 = 0 by simp)]
    have fl := e4_fail (σ := σ1) hW hm 1
    refine ⟨zs σ1 2 0 3 0 1, ?_, f1.tr (zF1.s (Or.inl rfl)), by rw [zs_at, if_neg (by omega)]; exact h141, ⟨fun z => absurd z (by simp), fun _ => by rw [zs_at, if_pos rfl]⟩, fun _ => rfl⟩
    simp (disch := first | assumption | omega) only [f_X4_readFile, g14, q14, g13, g141, hto, hk, c1, htx, fl, zz_some, zz_lit, zz_num, zI_lt, zI_le, zI_eq, zI_nat, zz_b, if_pos, if_neg, if_true, if_false]
/-- a statement put behind the others -/
def zAd1 (σ : zW) (c k s t : Int) : zW := zs (zs (zs (zs σ 2 0 10 c k) 2 0 11 c s) 2 0 12 c t) 2 0 3 6 (c + 1)
theorem e4_add (hW : zWF E) (hm : zU E 2 0 = true) {c : Nat} (hc : c < 120) (h6 : σ 2 0 3 6 = (c : Int)) {k s t : Int} : f_X4_add (zH E σ) (zL E 2 0 3) (zI k) (zI s) (zI t) = some (zH E (zAd1 σ c k s t), zI 1) := by
  have g7 := zg_tx7 (σ := σ) hW hm
  have g6 := zg_tx6 (σ := σ) hW hm
  rw [h6] at g6
  have p1 := zX_put (σ := σ) (n := 120) hW hm (k := 2) (d := 0) (c := 10) rfl (by decide) (i := (c : Int)) (v := k) (by omega) (by omega)
  rw [if_pos (by omega)] at p1
  obtain ⟨σ1, e1⟩ : ∃ y, y = zs σ 2 0 10 c k := ⟨_, rfl⟩
  rw [← e1] at p1
  have g8 := zg_tx8 (σ := σ1) hW hm
  have g61 := zg_tx6 (σ := σ1) hW hm
  rw [show σ1 2 0 3 6 = (c : Int) by rw [e1, zs_ne (by omega)]; exact h6] at g61
  have p2 := zX_put (σ := σ1) (n := 120) hW hm (k := 2) (d := 0) (c := 11) rfl (by decide) (i := (c : Int)) (v := s) (by omega) (by omega)
  rw [if_pos (by omega)] at p2
  obtain ⟨σ2, e2⟩ : ∃ y, y = zs σ1 2 0 11 c s := ⟨_, rfl⟩
  rw [← e2] at p2
  have g9 := zg_tx9 (σ := σ2) hW hm
  have g62 := zg_tx6 (σ := σ2) hW hm
  rw [show σ2 2 0 3 6 = (c : Int) by rw [e2, zs_ne (by omega), e1, zs_ne (by omega)]; exact h6] at g62
  have p3 := zX_put (σ := σ2) (n := 120) hW hm (k := 2) (d := 0) (c := 12) rfl (by decide) (i := (c : Int)) (v := t) (by omega) (by omega)
  rw [if_pos (by omega)] at p3
  obtain ⟨σ3, e3⟩ : ∃ y, y = zs σ2 2 0 12 c t := ⟨_, rfl⟩
  rw [← e3] at p3
  have g63 := zg_tx6 (σ := σ3) hW hm
  rw [show σ3 2 0 3 6 = (c : Int) by rw [e3, zs_ne (by omega), e2, zs_ne (by omega), e1, zs_ne (by omega)]; exact h6] at g63
  have p4 := zp_tx6 (σ := σ3) hW hm ((c : Int) + 1)
  have hA : zAd1 σ c k s t = zs σ3 2 0 3 6 ((c : Int) + 1) := by rw [e3, e2, e1]; rfl
  rw [hA]
  simp (disch := first | assumption | omega) only [f_X4_add, g7, g6, p1, g8, g61, p2, g9, g62, p3, g63, p4, zz_some, zz_lit, zz_num, zI_lt, zI_le, zI_eq, zI_nat, zz_b, if_pos, if_neg, if_true, if_false]
theorem zAd1.f {c k s t : Int} : zF2 σ (zAd1 σ c k s t) := ((zF2.c (by omega)).tr (zF2.c (by omega))).tr ((zF2.c (by omega)).tr (zF2.s (by omega)))
theorem zP1.a (h : zP1 σ b L C T n wd S) {k s t len tag : Int} (h1 : k = 1 → σ 2 0 13 (S.length : Int) = len ∧ σ 2 0 14 (S.length : Int) = tag) : zP1 (zAd1 σ S.length k s t) b L C T n wd (S ++ [(k, s, t, len, tag)]) := by
  obtain ⟨q1, q2, ⟨q3, q4, q5⟩, ⟨q6, q7, q8⟩, q9, q10⟩ := h
  have o : ∀ c : Nat, c ≠ 3 → c ≠ 10 → c ≠ 11 → c ≠ 12 → zAd1 σ S.length k s t 2 0 c = σ 2 0 c := fun c a1 a2 a3 a4 => by
    unfold zAd1
    rw [zs_ne (by omega), zs_ne (by omega), zs_ne (by omega), zs_ne (by omega)]
  have o3 : ∀ i, i ≠ 6 → zAd1 σ S.length k s t 2 0 3 i = σ 2 0 3 i := fun i hi => by
    unfold zAd1
    rw [zs_at, if_neg hi, zs_ne (by omega), zs_ne (by omega), zs_ne (by omega)]
  have o10 : ∀ i, zAd1 σ S.length k s t 2 0 10 i = if i = (S.length : Int) then k else σ 2 0 10 i := fun i => by
    unfold zAd1
    rw [zs_ne (by omega), zs_ne (by omega), zs_ne (by omega), zs_at]
  have o11 : ∀ i, zAd1 σ S.length k s t 2 0 11 i = if i = (S.length : Int) then s else σ 2 0 11 i := fun i => by
    unfold zAd1
    rw [zs_ne (by omega), zs_ne (by omega), zs_at, zs_ne (by omega)]
  have o12 : ∀ i, zAd1 σ S.length k s t 2 0 12 i = if i = (S.length : Int) then t else σ 2 0 12 i := fun i => by
    unfold zAd1
    rw [zs_ne (by omega), zs_at, zs_ne (by omega), zs_ne (by omega)]
  refine ⟨q1.cg (fun c a z => o c (by omega) (by omega) (by omega) (by omega)), by rw [o3 14 (by omega)]; exact q2, ⟨by rw [o3 2 (by omega)]; exact q3, q4, fun c c0 c1 => by rw [o 15 (by omega) (by omega) (by omega) (by omega)]; exact q5 c c0 c1⟩, ⟨by rw [o3 4 (by omega)]; exact q6, q7, fun j k0 k1 => by rw [o 9 (by omega) (by omega) (by omega) (by omega)]; exact q8 j k0 k1⟩, ?_, fun i x hx => ?_⟩
  · unfold zAd1
    rw [zs_at, if_pos rfl, List.length_append]
    simp
  · unfold zSr
    rw [o10, o11, o12, o 13 (by omega) (by omega) (by omega) (by omega), o 14 (by omega) (by omega) (by omega) (by omega)]
    by_cases hi : i = S.length
    · subst hi
      rw [List.getElem?_append_right (Nat.le_refl _), Nat.sub_self] at hx
      obtain rfl : (k, s, t, len, tag) = x := by simpa using hx
      rw [if_pos rfl, if_pos rfl, if_pos rfl]
      exact ⟨rfl, rfl, rfl, h1⟩
    · have hlt : i < S.length := by
        by_cases h : i < S.length
        · exact h
        · rw [List.getElem?_eq_none (by simp; omega)] at hx
          cases hx
      rw [List.getElem?_append_left hlt] at hx
      rw [if_neg (by omega), if_neg (by omega), if_neg (by omega)]
      exact q10 i x hx
end zP

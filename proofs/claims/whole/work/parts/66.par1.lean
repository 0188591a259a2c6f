/-! The class's parser, statement by statement. -/
def fNm (wd : Int → List Int) (n : zN) (w : List Int) : Int := zfd wd w (n 2).toNat 0
def eTh (a c : Int × Int) : Int × Int := if a.1 = 0 then c else a
def eNum (b : Int → Int) (L p lo hi : Int) : Int × Int := if tK b L p = 2 then (if lo ≤ tV b L p ∧ tV b L p ≤ hi then (0, 0) else (3, tS b L p)) else (1, tS b L p)
def eSem (b : Int → Int) (L p : Int) : Int × Int := if tK b L p = 3 then (0, 0) else (1, tS b L p)
def eFil (b : Int → Int) (L p : Int) (n : zN) (wd : Int → List Int) : Int × Int := if tK b L p = 1 then (if fNm wd n (tW b L p) = -1 then (4, tS b L p) else (0, 0)) else (1, tS b L p)
def eBad (b : Int → Int) (L p : Int) (n : zN) : Int × Int := eTh (eNum b L p 0 (n 0 - 1)) (if n (103 + tV b L p) = 0 then (0, 0) else (2, tS b L p))
def eNew (b : Int → Int) (L q p : Int) (n : zN) (wd : Int → List Int) : Int × Int := if 10 ≤ n 2 then (5, tS b L q) else if tK b L p = 1 then (if fNm wd n (tW b L p) = -1 then (0, 0) else (2, tS b L p)) else (1, tS b L p)
def eWri (b : Int → Int) (L q p : Int) (n : zN) (wd : Int → List Int) : Int × Int := eTh (eFil b L p n wd) (eTh (eNum b L (tE b L p) 1 8) (eTh (eNum b L (tE b L (tE b L p)) 0 999) (if nWw n (fNm wd n (tW b L p)) (tV b L (tE b L p)) = 0 then (0, 0) else (6, tS b L q))))
def eEra (b : Int → Int) (L q p : Int) (n : zN) (wd : Int → List Int) : Int × Int := eTh (eFil b L p n wd) (if nWe n (fNm wd n (tW b L p)) = 0 then (0, 0) else (6, tS b L q))
def eClo (b : Int → Int) (L q : Int) (n : zN) : Int × Int := if nWc n = 0 then (0, 0) else (6, tS b L q)
def eStm (b : Int → Int) (L q : Int) (n : zN) (wd : Int → List Int) : Int × Int := if tIs b L q 1 = true then eBad b L (tE b L q) n else if tIs b L q 2 = true then eNew b L q (tE b L q) n wd else if tIs b L q 3 = true then eWri b L q (tE b L q) n wd else if tIs b L q 4 = true then eEra b L q (tE b L q) n wd else if tIs b L q 5 = true then eClo b L q n else (1, tS b L q)
def nStm (b : Int → Int) (L q : Int) (n : zN) (wd : Int → List Int) : zN := if tIs b L q 1 = true then zu n (103 + tV b L (tE b L q)) 1 else if tIs b L q 2 = true then zu n 2 (n 2 + 1) else if tIs b L q 3 = true then nWrs n (fNm wd n (tW b L (tE b L q))) (tV b L (tE b L (tE b L q))) (tV b L (tE b L (tE b L (tE b L q)))) else if tIs b L q 4 = true then nErs n (fNm wd n (tW b L (tE b L q))) else nCl n
def wStm (b : Int → Int) (L q : Int) (n : zN) (wd : Int → List Int) : Int → List Int := if tIs b L q 1 = true then wd else if tIs b L q 2 = true then (fun k => if k = n 2 then tW b L (tE b L q) else wd k) else wd
def pStm (b : Int → Int) (L q : Int) : Int := if tIs b L q 1 = true then tE b L (tE b L q) else if tIs b L q 2 = true then tE b L (tE b L q) else if tIs b L q 3 = true then tE b L (tE b L (tE b L (tE b L q))) else if tIs b L q 4 = true then tE b L (tE b L q) else tE b L q
theorem tK_rng {b : Int → Int} {L p : Int} : 0 ≤ tK b L p ∧ tK b L p ≤ 4 := by
  unfold tK
  split <;> (try split) <;> (try split) <;> omega
/-- the parser alone has changed, not its length -/
def zPg (σ σ' : zW) : Prop := (∀ k d c, ¬ (k = 2 ∧ d = 0 ∧ c = 3) → σ' k d c = σ k d c) ∧ σ' 2 0 3 2 = σ 2 0 3 2
theorem zPg.rf {σ : zW} : zPg σ σ := ⟨fun _ _ _ _ => rfl, rfl⟩
theorem zPg.tr {σ σ1 σ2 : zW} (h : zPg σ σ1) (h2 : zPg σ1 σ2) : zPg σ σ2 := ⟨fun k d c z => (h2.1 k d c z).trans (h.1 k d c z), h2.2.trans h.2⟩
theorem zPf.g {σ σ' : zW} (h : zPf σ σ') : zPg σ σ' := ⟨h.1, h.2 2 (by omega)⟩
def zRes (σ σ' : zW) (e : Int × Int) : Prop := (e.1 = 0 → σ' 2 0 3 1 = σ 2 0 3 1 ∧ σ' 2 0 3 0 = σ 2 0 3 0) ∧ (e.1 ≠ 0 → σ' 2 0 3 1 = e.1 ∧ σ' 2 0 3 0 = e.2)
theorem zRes.ok {σ σ' : zW} {e : Int × Int} (he : e.1 = 0) (h : zPf σ σ') : zRes σ σ' e := ⟨fun _ => ⟨h.2 1 (by omega), h.2 0 (by omega)⟩, fun z => absurd he z⟩
theorem zRes.tr {σ σ1 σ2 : zW} {e : Int × Int} (h : σ1 2 0 3 1 = σ 2 0 3 1 ∧ σ1 2 0 3 0 = σ 2 0 3 0) (h2 : zRes σ1 σ2 e) : zRes σ σ2 e := ⟨fun z => ⟨(h2.1 z).1.trans h.1, (h2.1 z).2.trans h.2⟩, h2.2⟩
def zFl (σ : zW) (e : Int × Int) : zW := zs (zs σ 2 0 3 1 e.1) 2 0 3 0 e.2
theorem zFl.g {σ : zW} {e : Int × Int} : zPg σ (zFl σ e) := ⟨fun k d c z => by unfold zFl; rw [zs_ne z, zs_ne z], by unfold zFl; rw [zs_at, if_neg (by omega), zs_at, if_neg (by omega)]⟩
theorem zFl.r {σ σ0 : zW} {e : Int × Int} (he : e.1 ≠ 0) : zRes σ0 (zFl σ e) e := ⟨fun z => absurd z he, fun _ => ⟨by unfold zFl; rw [zs_at, if_neg (by omega), zs_at, if_pos rfl], by unfold zFl; rw [zs_at, if_pos rfl]⟩⟩
theorem zFl.c {σ : zW} {e : Int × Int} {b : Int → Int} {L p : Int} (h : zPc σ b L p) : zPc (zFl σ e) b L p := h.cg (fun i hi => by unfold zFl; rw [zs_at, if_neg (by omega), zs_at, if_neg (by omega)])
section zPar
variable {E : zE} {σ : zW} {b : Int → Int} {L : Int}
theorem e4_fail (hW : zWF E) (hm : zU E 2 0 = true) (e : Int × Int) : f_X4_fail (zH E σ) (zL E 2 0 3) (zI e.1) (zI e.2) = some (zH E (zFl σ e), zI 0) := by
  have p1 := zp_pa1 (σ := σ) hW hm e.1
  have p0 := zp_pa0 (σ := zs σ 2 0 3 1 e.1) hW hm e.2
  have hf : zFl σ e = zs (zs σ 2 0 3 1 e.1) 2 0 3 0 e.2 := rfl
  rw [hf]
  simp (disch := first | assumption | omega) only [f_X4_fail, p1, p0, zz_some, zz_lit, zz_num, zI_lt, zI_le, zI_eq, zI_nat, zz_b, if_pos, if_neg, if_true, if_false]
theorem e4_readNumber (hW : zWF E) (hm : zU E 2 0 = true) (hT : zTc σ b L) {p lo hi : Int} (h2 : σ 2 0 3 2 = L) (h5 : σ 2 0 3 5 = p) (hp0 : 0 ≤ p) (hp : p ≤ L) (hl0 : 0 ≤ lo) (hl1 : lo < 1000) (hh0 : -1 ≤ hi) (hh1 : hi < 1000) : ∃ σ', f_X4_readNumber (zH E σ) (zL E 2 0 3) (zL E 2 0 1) (zI lo) (zI hi) = some (zH E σ', zI (zb (decide ((eNum b L p lo hi).1 = 0)))) ∧ zPg σ σ' ∧ zPc σ' b L p ∧ zRes σ σ' (eNum b L p lo hi) := by
  obtain ⟨σ1, a1, a2, a3⟩ := e4_advance hW hm hT h2 h5 hp0 hp
  have hL6 := hT.1
  have hs := tS_rng (b := b) hp
  have hk := tK_rng (b := b) (L := L) (p := p)
  have po := (zz_pao (σ := σ) hW hm).1
  have po1 := (zz_pao (σ := σ1) hW hm).1
  have g3 := zg_pa3 (σ := σ1) hW hm
  rw [a3.2.2.1] at g3
  have g4 := zg_pa4 (σ := σ1) hW hm
  rw [a3.1] at g4
  by_cases c1 : tK b L p = 2
  · have g6 := zg_pa6 (σ := σ1) hW hm
    rw [a3.2.2.2.1 c1] at g6
    have hv := tK_2 hp c1
    by_cases c2 : lo ≤ tV b L p ∧ tV b L p ≤ hi
    · have e : eNum b L p lo hi = (0, 0) := by unfold eNum; rw [if_pos c1, if_pos c2]
      rw [e, zb_dpos (show ((0, 0) : Int × Int).1 = 0 from rfl)]
      have d1 : ¬ tV b L p < lo := by omega
      have d2 : tV b L p ≤ hi := c2.2
      refine ⟨σ1, ?_, a2.g, a3, zRes.ok rfl a2⟩
      simp (disch := first | assumption | omega) only [f_X4_readNumber, po, a1, g3, c1, g6, d1, d2, zz_some, zz_lit, zz_num, zI_lt, zI_le, zI_eq, zI_nat, zz_b, if_pos, if_neg, if_true, if_false]
    · have e : eNum b L p lo hi = (3, tS b L p) := by unfold eNum; rw [if_pos c1, if_neg c2]
      rw [e, zb_dneg (show ¬ ((3, tS b L p) : Int × Int).1 = 0 by simp)]
      have fl := e4_fail (σ := σ1) hW hm (3, tS b L p)
      have fl : f_X4_fail (zH E σ1) (zL E 2 0 3) (zI 3) (zI (tS b L p)) = some (zH E (zFl σ1 (3, tS b L p)), zI 0) := fl
      have hJ : f_X4_readNumber_J39 (zH E σ1) (zL E 2 0 3) = some (zH E (zFl σ1 (3, tS b L p)), zI 0) := by
        simp (disch := first | assumption | omega) only [f_X4_readNumber_J39, g4, po1, fl, zz_some, zz_lit, zz_num, zI_lt, zI_le, zI_eq, zI_nat, zz_b, if_pos, if_neg, if_true, if_false]
      refine ⟨zFl σ1 (3, tS b L p), ?_, a2.g.tr zFl.g, zFl.c a3, zFl.r (by simp)⟩
      by_cases d1 : tV b L p < lo
      · simp (disch := first | assumption | omega) only [f_X4_readNumber, po, a1, g3, c1, g6, d1, hJ, zz_some, zz_lit, zz_num, zI_lt, zI_le, zI_eq, zI_nat, zz_b, if_pos, if_neg, if_true, if_false]
      · have d2 : ¬ tV b L p ≤ hi := by omega
        simp (disch := first | assumption | omega) only [f_X4_readNumber, po, a1, g3, c1, g6, d1, d2, hJ, zz_some, zz_lit, zz_num, zI_lt, zI_le, zI_eq, zI_nat, zz_b, if_pos, if_neg, if_true, if_false]
  · have e : eNum b L p lo hi = (1, tS b L p) := by unfold eNum; rw [if_neg c1]
    rw [e, zb_dneg (show ¬ ((1, tS b L p) : Int × Int).1 = 0 by simp)]
    have fl : f_X4_fail (zH E σ1) (zL E 2 0 3) (zI 1) (zI (tS b L p)) = some (zH E (zFl σ1 (1, tS b L p)), zI 0) := e4_fail (σ := σ1) hW hm (1, tS b L p)
    refine ⟨zFl σ1 (1, tS b L p), ?_, a2.g.tr zFl.g, zFl.c a3, zFl.r (by simp)⟩
    simp (disch := first | assumption | omega) only [f_X4_readNumber, po, a1, g3, c1, g4, po1, fl, zz_some, zz_lit, zz_num, zI_lt, zI_le, zI_eq, zI_nat, zz_b, if_pos, if_neg, if_true, if_false]
theorem e4_readSemicolon (hW : zWF E) (hm : zU E 2 0 = true) (hT : zTc σ b L) {p : Int} (h2 : σ 2 0 3 2 = L) (h5 : σ 2 0 3 5 = p) (hp0 : 0 ≤ p) (hp : p ≤ L) : ∃ σ', f_X4_readSemicolon (zH E σ) (zL E 2 0 3) (zL E 2 0 1) = some (zH E σ', zI (zb (decide ((eSem b L p).1 = 0)))) ∧ zPg σ σ' ∧ zPc σ' b L p ∧ zRes σ σ' (eSem b L p) := by
  obtain ⟨σ1, a1, a2, a3⟩ := e4_advance hW hm hT h2 h5 hp0 hp
  have hL6 := hT.1
  have hs := tS_rng (b := b) hp
  have hk := tK_rng (b := b) (L := L) (p := p)
  have po := (zz_pao (σ := σ) hW hm).1
  have po1 := (zz_pao (σ := σ1) hW hm).1
  have g3 := zg_pa3 (σ := σ1) hW hm
  rw [a3.2.2.1] at g3
  have g4 := zg_pa4 (σ := σ1) hW hm
  rw [a3.1] at g4
  by_cases c1 : tK b L p = 3
  · have e : eSem b L p = (0, 0) := by unfold eSem; rw [if_pos c1]
    rw [e, zb_dpos (show ((0, 0) : Int × Int).1 = 0 from rfl)]
    refine ⟨σ1, ?_, a2.g, a3, zRes.ok rfl a2⟩
    simp (disch := first | assumption | omega) only [f_X4_readSemicolon, po, a1, g3, c1, zz_some, zz_lit, zz_num, zI_lt, zI_le, zI_eq, zI_nat, zz_b, if_pos, if_neg, if_true, if_false]
  · have e : eSem b L p = (1, tS b L p) := by unfold eSem; rw [if_neg c1]
    rw [e, zb_dneg (show ¬ ((1, tS b L p) : Int × Int).1 = 0 by simp)]
    have fl : f_X4_fail (zH E σ1) (zL E 2 0 3) (zI 1) (zI (tS b L p)) = some (zH E (zFl σ1 (1, tS b L p)), zI 0) := e4_fail (σ := σ1) hW hm (1, tS b L p)
    refine ⟨zFl σ1 (1, tS b L p), ?_, a2.g.tr zFl.g, zFl.c a3, zFl.r (by simp)⟩
    simp (disch := first | assumption | omega) only [f_X4_readSemicolon, po, a1, g3, c1, g4, po1, fl, zz_some, zz_lit, zz_num, zI_lt, zI_le, zI_eq, zI_nat, zz_b, if_pos, if_neg, if_true, if_false]
/-- the disc t shows n, its files have the names wd -/
def zSw (σ : zW) (t : Nat) (n : zN) (wd : Int → List Int) : Prop := zRd (σ 0 t) n ∧ nW n ∧ ∀ k, 0 ≤ k → k < n 2 → zWd (wd k) ∧ σ 0 t 23 k = zw27 (wd k)
theorem zSw.cg {σ σ' : zW} {t : Nat} {n : zN} {wd : Int → List Int} (h : zSw σ t n wd) (e : σ' 0 t = σ 0 t) : zSw σ' t n wd := by
  unfold zSw
  rw [e]
  exact h
theorem zSw.ch {σ σ' : zW} {t : Nat} {n n' : zN} {wd : Int → List Int} (h : zSw σ t n wd) (g : ∀ c', c' = 0 ∨ c' = 23 → σ' 0 t c' = σ 0 t c') (hR : zRd (σ' 0 t) n') (hn : nW n') : zSw σ' t n' wd := by
  have e1 : σ' 0 t 0 3 = n' 2 := hR.2.2.2.1
  have e2 : σ 0 t 0 3 = n 2 := h.1.2.2.2.1
  have e3 : n' 2 = n 2 := by rw [← e1, ← e2, g 0 (Or.inl rfl)]
  exact ⟨hR, hn, fun k k0 k1 => by rw [g 23 (Or.inr rfl)]; exact h.2.2 k k0 (by omega)⟩
theorem zSw.nm {t : Nat} {n : zN} {wd : Int → List Int} (hW : zWF E) (hu : zU E 0 t = true) (h : zSw σ t n wd) {w : List Int} (hw : zWd w) : f_X1_fileNamed (zH E σ) (zL E 0 t 0) (zJ (zw27 w)) = some (zI (fNm wd n w)) := by
  have h2 := h.2.1.1.2.2.1
  exact e1_fileNamed hW hu h2.1 h2.2 h.1.2.2.2.1 h.2.2 hw
theorem fNm_rng {wd : Int → List Int} {n : zN} {w : List Int} (hn : nW n) (h : ¬ fNm wd n w = -1) : 0 ≤ fNm wd n w ∧ fNm wd n w < n 2 := by
  have h2 := hn.1.2.2.1
  rcases zfd_rng wd w (n 2).toNat 0 with h1 | h1
  · exact absurd h1 h
  · unfold fNm
    omega
theorem fNm_rg {wd : Int → List Int} {n : zN} {w : List Int} (hn : nW n) : -1 ≤ fNm wd n w ∧ fNm wd n w < 11 := by
  have h2 := hn.1.2.2.1
  rcases zfd_rng wd w (n 2).toNat 0 with h1 | h1
  · unfold fNm
    omega
  · unfold fNm
    omega
theorem e4_readFile (hW : zWF E) (hm : zU E 2 0 = true) (hT : zTc σ b L) {t : Nat} (hu : zU E 0 t = true) {n : zN} {wd : Int → List Int} (hS : zSw σ t n wd) {p : Int} (h2 : σ 2 0 3 2 = L) (h5 : σ 2 0 3 5 = p) (hp0 : 0 ≤ p) (hp : p ≤ L) : ∃ σ', f_X4_readFile (zH E σ) (zL E 2 0 3) (zL E 2 0 1) (zL E 0 t 0) = some (zH E σ', zI (zb (decide ((eFil b L p n wd).1 = 0)))) ∧ zPg σ σ' ∧ zPc σ' b L p ∧ zRes σ σ' (eFil b L p n wd) := by
  obtain ⟨σ1, a1, a2, a3⟩ := e4_advance hW hm hT h2 h5 hp0 hp
  have hL6 := hT.1
  have hs := tS_rng (b := b) hp
  have hk := tK_rng (b := b) (L := L) (p := p)
  have po := (zz_pao (σ := σ) hW hm).1
  have po1 := (zz_pao (σ := σ1) hW hm).1
  have g3 := zg_pa3 (σ := σ1) hW hm
  rw [a3.2.2.1] at g3
  have g4 := zg_pa4 (σ := σ1) hW hm
  rw [a3.1] at g4
  have od : g_ob (zH E σ1) (zL E 0 t 0) 1 = some () := by simp only [zz_dco (σ := σ1) hW hu]
  have hS1 : zSw σ1 t n wd := hS.cg (funext fun c => a2.1 0 t c (by omega))
  by_cases c1 : tK b L p = 1
  · have g7 := zg_pa7 (σ := σ1) hW hm
    rw [a3.2.2.2.2 c1] at g7
    have nm := hS1.nm hW hu (tK_1 hp c1)
    have nr := fNm_rg (wd := wd) (w := tW b L p) hS.2.1
    by_cases c2 : fNm wd n (tW b L p) = -1
    · have e : eFil b L p n wd = (4, tS b L p) := by unfold eFil; rw [if_pos c1, if_pos c2]
      rw [e, zb_dneg (show ¬ ((4, tS b L p) : Int × Int).1 = 0 by simp)]
      have fl : f_X4_fail (zH E σ1) (zL E 2 0 3) (zI 4) (zI (tS b L p)) = some (zH E (zFl σ1 (4, tS b L p)), zI 0) := e4_fail (σ := σ1) hW hm (4, tS b L p)
      refine ⟨zFl σ1 (4, tS b L p), ?_, a2.g.tr zFl.g, zFl.c a3, zFl.r (by simp)⟩
      simp (disch := first | assumption | omega) only [f_X4_readFile, po, a1, g3, c1, g7, od, nm, c2, g4, po1, fl, zz_some, zz_lit, zz_num, zI_lt, zI_le, zI_eq, zI_nat, zz_b, if_pos, if_neg, if_true, if_false]
    · have e : eFil b L p n wd = (0, 0) := by unfold eFil; rw [if_pos c1, if_neg c2]
      rw [e, zb_dpos (show ((0, 0) : Int × Int).1 = 0 from rfl)]
      refine ⟨σ1, ?_, a2.g, a3, zRes.ok rfl a2⟩
      simp (disch := first | assumption | omega) only [f_X4_readFile, po, a1, g3, c1, g7, od, nm, c2, zz_some, zz_lit, zz_num, zI_lt, zI_le, zI_eq, zI_nat, zz_b, if_pos, if_neg, if_true, if_false]
  · have e : eFil b L p n wd = (1, tS b L p) := by unfold eFil; rw [if_neg c1]
    rw [e, zb_dneg (show ¬ ((1, tS b L p) : Int × Int).1 = 0 by simp)]
    have fl : f_X4_fail (zH E σ1) (zL E 2 0 3) (zI 1) (zI (tS b L p)) = some (zH E (zFl σ1 (1, tS b L p)), zI 0) := e4_fail (σ := σ1) hW hm (1, tS b L p)
    refine ⟨zFl σ1 (1, tS b L p), ?_, a2.g.tr zFl.g, zFl.c a3, zFl.r (by simp)⟩
    simp (disch := first | assumption | omega) only [f_X4_readFile, po, a1, g3, c1, g4, po1, fl, zz_some, zz_lit, zz_num, zI_lt, zI_le, zI_eq, zI_nat, zz_b, if_pos, if_neg, if_true, if_false]
end zPar

/-! The class's text: read first, done then; both at once is the same. -/
def pAll (b : Int → Int) (L : Int) : Nat → Int → zN → (Int → List Int) → (Int × Int) × zN × (Int → List Int)
  | 0, _, n, wd => ((0, 0), n, wd)
  | m + 1, q, n, wd => if tK b L q = 0 then ((0, 0), n, wd) else if (eStm b L q n wd).1 = 0 then (if (eSem b L (pStm b L q)).1 = 0 then pAll b L m (tE b L (pStm b L q)) (nStm b L q n wd) (wStm b L q n wd) else (eSem b L (pStm b L q), n, wd)) else (eStm b L q n wd, n, wd)
def eHead (b : Int → Int) (L : Int) : Int × Int := if tIs b L 0 0 = true then eTh (eNum b L (tE b L 0) 8 96) (eTh (eNum b L (tE b L (tE b L 0)) 0 (min 16 (tV b L (tE b L 0) / 2))) (eSem b L (tE b L (tE b L (tE b L 0))))) else (1, tS b L 0)
def hB (b : Int → Int) (L : Int) : Int := tV b L (tE b L 0)
def hS (b : Int → Int) (L : Int) : Int := tV b L (tE b L (tE b L 0))
def hP (b : Int → Int) (L : Int) : Int := tE b L (tE b L (tE b L (tE b L 0)))
theorem eSem_0 {b : Int → Int} {L p : Int} (h : (eSem b L p).1 = 0) : tK b L p = 3 := by
  unfold eSem at h
  by_cases c1 : tK b L p = 3
  · exact c1
  · rw [if_neg c1] at h
    exact absurd h (by simp)
theorem pStm_rng {b : Int → Int} {L q : Int} (h : q ≤ L) : tE b L q ≤ pStm b L q ∧ pStm b L q ≤ L := by
  have h1 := tE_rng (b := b) h
  have h2 := tE_rng (b := b) h1.2.1
  have h3 := tE_rng (b := b) h2.2.1
  have h4 := tE_rng (b := b) h3.2.1
  have k2 := tS_rng (b := b) h1.2.1
  have k3 := tS_rng (b := b) h2.2.1
  have k4 := tS_rng (b := b) h3.2.1
  unfold pStm
  split
  · omega
  · split
    · omega
    · split
      · omega
      · split <;> omega
section zPar
variable {E : zE} {b : Int → Int} {L : Int} {t : Nat}
theorem nFm_W {b s : Int} (hb0 : 8 ≤ b) (hb1 : b ≤ 96) (hs0 : 0 ≤ s) (hs1 : s ≤ 16) (hs2 : 2 * s ≤ b) : nW (nFm b s) := by
  have h7 : ∀ i : Int, 2 ≤ i → nFm b s i = 0 := fun i hi => by unfold nFm; rw [if_neg (by omega), if_neg (by omega)]
  have h0 : nFm b s 0 = b := by unfold nFm; rw [if_pos rfl]
  have h1 : nFm b s 1 = s := by unfold nFm; rw [if_neg (by omega), if_pos rfl]
  refine ⟨?_, fun c c0 c1 => ?_, ?_, ?_⟩
  · unfold nWn
    rw [h0, h1, h7 2 (by omega), h7 3 (by omega), h7 4 (by omega), h7 5 (by omega), h7 6 (by omega)]
    omega
  · rw [h0, h1, h7 3 (by omega), h7 4 (by omega), h7 6 (by omega), h7 (7 + c) (by omega), h7 (103 + c) (by omega), h7 (199 + c) (by omega), h7 (295 + c) (by omega), h7 (391 + c) (by omega), h7 (487 + c) (by omega), h7 (583 + c) (by omega), h7 (679 + c) (by omega)]
    omega
  · unfold nWv
    rw [h7 4 (by omega), h7 6 (by omega)]
    exact ⟨Int.le_refl _, fun v v0 v1 => absurd v1 (by omega)⟩
  · unfold nWs
    rw [h7 3 (by omega)]
    exact fun s s0 s1 => absurd s1 (by omega)
theorem eHead_ok (hL : 0 ≤ L) (h : (eHead b L).1 = 0) : 8 ≤ hB b L ∧ hB b L ≤ 96 ∧ 0 ≤ hS b L ∧ hS b L ≤ 16 ∧ 2 * hS b L ≤ hB b L ∧ 0 ≤ hP b L ∧ hP b L ≤ L := by
  have e1 := tE_rng (b := b) (L := L) (p := 0) hL
  have e2 := tE_rng (b := b) e1.2.1
  have e3 := tE_rng (b := b) e2.2.1
  have e4 := tE_rng (b := b) e3.2.1
  have k1 := tS_rng (b := b) (L := L) (p := 0) hL
  have k2 := tS_rng (b := b) e1.2.1
  have k3 := tS_rng (b := b) e2.2.1
  have k4 := tS_rng (b := b) e3.2.1
  unfold eHead at h
  by_cases c1 : tIs b L 0 0 = true
  · rw [if_pos c1] at h
    by_cases c2 : (eNum b L (tE b L 0) 8 96).1 = 0
    · rw [eTh_ok c2] at h
      by_cases c3 : (eNum b L (tE b L (tE b L 0)) 0 (min 16 (tV b L (tE b L 0) / 2))).1 = 0
      · obtain ⟨_, m2, m3⟩ := eNum_0 c2
        obtain ⟨_, y2, y3⟩ := eNum_0 c3
        unfold hB hS hP
        omega
      · rw [eTh_no c3] at h
        exact absurd h c3
    · rw [eTh_no c2] at h
      exact absurd h c2
  · rw [if_neg c1] at h
    exact absurd h (by simp)
end zPar
def eTxt (b : Int → Int) (L : Int) (n : zN) : Int × Int := if (eHead b L).1 = 0 then (pAll b L 600 (hP b L) n (fun _ => [])).1 else eHead b L
def nTxt (b : Int → Int) (L : Int) (n : zN) : zN := (pAll b L 600 (hP b L) n (fun _ => [])).2.1
def wTxt (b : Int → Int) (L : Int) (n : zN) : Int → List Int := (pAll b L 600 (hP b L) n (fun _ => [])).2.2
def p1All (b : Int → Int) (L : Int) : Nat → Int → zN → (Int → List Int) → (Int × Int) × zN × (Int → List Int) × List zS5
  | 0, _, n, wd => ((0, 0), n, wd, [])
  | m + 1, q, n, wd => if tK b L q = 0 then ((0, 0), n, wd, []) else if (e1Stm b L q n wd).1 = 0 then (if (eSem b L (pStm b L q)).1 = 0 then ((p1All b L m (tE b L (pStm b L q)) (n1Stm b L q n) (wStm b L q n wd)).1, (p1All b L m (tE b L (pStm b L q)) (n1Stm b L q n) (wStm b L q n wd)).2.1, (p1All b L m (tE b L (pStm b L q)) (n1Stm b L q n) (wStm b L q n wd)).2.2.1, s1Stm b L q n wd ++ (p1All b L m (tE b L (pStm b L q)) (n1Stm b L q n) (wStm b L q n wd)).2.2.2) else (eSem b L (pStm b L q), n1Stm b L q n, wStm b L q n wd, s1Stm b L q n wd)) else (e1Stm b L q n wd, n, wd, [])
/-- what of a state the text's reading looks at -/
def zRq (n n1 : zN) : Prop := n1 0 = n 0 ∧ n1 2 = n 2 ∧ ∀ c, 0 ≤ c → c < 96 → n1 (103 + c) = n (103 + c)
section zCb
variable {b : Int → Int} {L q : Int} {n n1 : zN} {wd : Int → List Int}
theorem zRq.nm (h : zRq n n1) (w : List Int) : fNm wd n1 w = fNm wd n w := by unfold fNm; rw [h.2.1]
theorem zRq.fil (h : zRq n n1) (p : Int) : eFil b L p n1 wd = eFil b L p n wd := by unfold eFil; rw [h.nm]
theorem zRq.bad (h : zRq n n1) (hn : nW n) (p : Int) : eBad b L p n1 = eBad b L p n := by
  have hN := hn.1.r
  unfold eBad
  rw [h.1]
  by_cases c1 : (eNum b L p 0 (n 0 - 1)).1 = 0
  · obtain ⟨-, m2, m3⟩ := eNum_0 c1
    rw [h.2.2 _ m2 (by omega)]
  · rw [eTh_no c1, eTh_no c1]
theorem zRq.new (h : zRq n n1) (p : Int) : eNew b L q p n1 wd = eNew b L q p n wd := by unfold eNew; rw [h.2.1, h.nm]
theorem fNm_lt {w : List Int} (hn : nW n) (h : ¬ fNm wd n w = -1) : 0 ≤ fNm wd n w ∧ fNm wd n w < n 2 := fNm_rng hn h
/-- one statement: read first and done then, or both at once -/
theorem stm_cmb (hn : nW n) (hR : zRq n n1) (hL : q ≤ L) : ((e1Stm b L q n1 wd).1 ≠ 0 → eStm b L q n wd = e1Stm b L q n1 wd) ∧ ((e1Stm b L q n1 wd).1 = 0 → wStm b L q n1 wd = wStm b L q n wd ∧
    ((s1Stm b L q n1 wd = [] ∧ (eStm b L q n wd).1 = 0 ∧ nStm b L q n wd = zu n 2 (n 2 + 1) ∧ nW (zu n 2 (n 2 + 1)) ∧ zRq (zu n 2 (n 2 + 1)) (n1Stm b L q n1)) ∨
     (∃ s, s1Stm b L q n1 wd = [s] ∧ sOk (n 2) s ∧ s.2.1 = tS b L q ∧ eStm b L q n wd = (if sWhy n s = 0 then (0, 0) else (6, tS b L q)) ∧ (sWhy n s = 0 → nStm b L q n wd = sDo n s ∧ zRq (sDo n s) (n1Stm b L q n1))))) := by
  have hN := hn.1.r
  unfold e1Stm eStm wStm s1Stm nStm n1Stm
  by_cases c1 : tIs b L q 1 = true
  · simp only [if_pos c1]
    rw [hR.bad hn]
    refine ⟨fun _ => rfl, fun h0 => ⟨trivial, Or.inr ⟨(0, tS b L q, tV b L (tE b L q), 0, 0), rfl, ?_, rfl, ?_, fun _ => ⟨rfl, ?_⟩⟩⟩⟩
    · unfold eBad at h0
      by_cases d1 : (eNum b L (tE b L q) 0 (n 0 - 1)).1 = 0
      · obtain ⟨-, m2, m3⟩ := eNum_0 d1
        exact sOk.k0 ⟨m2, by omega⟩
      · rw [eTh_no d1] at h0
        exact absurd h0 d1
    · unfold eBad at h0 ⊢
      by_cases d1 : (eNum b L (tE b L q) 0 (n 0 - 1)).1 = 0
      · rw [eTh_ok d1] at h0 ⊢
        by_cases d2 : n (103 + tV b L (tE b L q)) = 0
        · rw [if_pos d2]; rfl
        · rw [if_neg d2] at h0
          exact absurd h0 (by simp)
      · rw [eTh_no d1] at h0
        exact absurd h0 d1
    · unfold eBad at h0
      by_cases d1 : (eNum b L (tE b L q) 0 (n 0 - 1)).1 = 0
      · obtain ⟨-, m2, m3⟩ := eNum_0 d1
        show zRq (zu n (103 + tV b L (tE b L q)) 1) (zu n1 (103 + tV b L (tE b L q)) 1)
        refine ⟨by rw [zu_ne (by omega), zu_ne (by omega)]; exact hR.1, by rw [zu_ne (by omega), zu_ne (by omega)]; exact hR.2.1, fun c c0 c1 => ?_⟩
        by_cases hc : c = tV b L (tE b L q)
        · rw [zu_eq (by omega), zu_eq (by omega)]
        · rw [zu_ne (by omega), zu_ne (by omega)]; exact hR.2.2 c c0 c1
      · rw [eTh_no d1] at h0
        exact absurd h0 d1
  · simp only [if_neg c1]
    by_cases c2 : tIs b L q 2 = true
    · simp only [if_pos c2]
      rw [hR.new, hR.2.1]
      refine ⟨fun _ => rfl, fun h0 => ⟨rfl, Or.inl ⟨trivial, h0, trivial, ?_, ?_⟩⟩⟩
      · refine nZu2_W hn ?_
        unfold eNew at h0
        by_cases d1 : 10 ≤ n 2
        · rw [if_pos d1] at h0
          exact absurd h0 (by simp)
        · omega
      · refine ⟨by rw [zu_ne (by omega), zu_ne (by omega)]; exact hR.1, by rw [zu_eq rfl, zu_eq rfl], fun c c0 c1 => ?_⟩
        rw [zu_ne (by omega), zu_ne (by omega)]; exact hR.2.2 c c0 c1
    · simp only [if_neg c2]
      by_cases c3 : tIs b L q 3 = true
      · simp only [if_pos c3]
        have hE : e1Wri b L (tE b L q) n1 wd = eTh (eFil b L (tE b L q) n wd) (eTh (eNum b L (tE b L (tE b L q)) 1 8) (eNum b L (tE b L (tE b L (tE b L q))) 0 999)) := by unfold e1Wri; rw [hR.fil]
        rw [hE, hR.nm]
        unfold eWri
        by_cases d1 : (eFil b L (tE b L q) n wd).1 = 0
        · rw [eTh_ok d1, eTh_ok d1]
          by_cases d2 : (eNum b L (tE b L (tE b L q)) 1 8).1 = 0
          · rw [eTh_ok d2, eTh_ok d2]
            by_cases d3 : (eNum b L (tE b L (tE b L (tE b L q))) 0 999).1 = 0
            · rw [eTh_ok d3]
              refine ⟨fun z => absurd d3 z, fun _ => ⟨trivial, Or.inr ⟨_, rfl, ?_, rfl, rfl, fun hz => ⟨rfl, ?_⟩⟩⟩⟩
              · obtain ⟨-, m2, m3⟩ := eNum_0 d2
                obtain ⟨-, y2, y3⟩ := eNum_0 d3
                exact (sOk.k1 ⟨fNm_lt hn (eFil_0 d1).2, ⟨m2, m3⟩, ⟨y2, y3⟩⟩)
              · obtain ⟨-, m2, m3⟩ := eNum_0 d2
                obtain ⟨-, y2, y3⟩ := eNum_0 d3
                have hw := sDo_W hn (s := (1, tS b L q, fNm wd n (tW b L (tE b L q)), tV b L (tE b L (tE b L q)), tV b L (tE b L (tE b L (tE b L q))))) (sOk.k1 ⟨fNm_lt hn (eFil_0 d1).2, ⟨m2, m3⟩, ⟨y2, y3⟩⟩) hz
                refine ⟨by rw [hw.2.1]; exact hR.1, by rw [hw.2.2.1]; exact hR.2.1, fun c c0 c1 => ?_⟩
                rw [hw.2.2.2 c c0 c1, if_neg (fun z => absurd z.1 (show ¬ (1 : Int) = 0 by decide))]
                exact hR.2.2 c c0 c1
            · rw [eTh_no d3]
              exact ⟨fun _ => rfl, fun z => absurd z d3⟩
          · rw [eTh_no d2, eTh_no d2]
            exact ⟨fun _ => rfl, fun z => absurd z d2⟩
        · rw [eTh_no d1, eTh_no d1]
          exact ⟨fun _ => rfl, fun z => absurd z d1⟩
      · simp only [if_neg c3]
        by_cases c4 : tIs b L q 4 = true
        · simp only [if_pos c4]
          rw [hR.fil, hR.nm]
          unfold eEra
          by_cases d1 : (eFil b L (tE b L q) n wd).1 = 0
          · rw [eTh_ok d1]
            refine ⟨fun z => absurd d1 z, fun _ => ⟨trivial, Or.inr ⟨_, rfl, ?_, rfl, rfl, fun hz => ⟨rfl, ?_⟩⟩⟩⟩
            · exact (sOk.k2 (fNm_lt hn (eFil_0 d1).2))
            · have hw := sDo_W hn (s := (2, tS b L q, fNm wd n (tW b L (tE b L q)), 0, 0)) (sOk.k2 (fNm_lt hn (eFil_0 d1).2)) hz
              refine ⟨by rw [hw.2.1]; exact hR.1, by rw [hw.2.2.1]; exact hR.2.1, fun c c0 c1 => ?_⟩
              rw [hw.2.2.2 c c0 c1, if_neg (fun z => absurd z.1 (show ¬ (2 : Int) = 0 by decide))]
              exact hR.2.2 c c0 c1
          · rw [eTh_no d1]
            exact ⟨fun _ => rfl, fun z => absurd z d1⟩
        · simp only [if_neg c4]
          by_cases c5 : tIs b L q 5 = true
          · simp only [if_pos c5]
            refine ⟨fun z => absurd rfl z, fun _ => ⟨trivial, Or.inr ⟨_, rfl, ?_, rfl, rfl, fun hz => ⟨rfl, ?_⟩⟩⟩⟩
            · exact sOk.k3
            · have hw := sDo_W hn (s := (3, tS b L q, -1, 0, 0)) sOk.k3 hz
              refine ⟨by rw [hw.2.1]; exact hR.1, by rw [hw.2.2.1]; exact hR.2.1, fun c c0 c1 => ?_⟩
              rw [hw.2.2.2 c c0 c1, if_neg (fun z => absurd z.1 (show ¬ (3 : Int) = 0 by decide))]
              exact hR.2.2 c c0 c1
          · simp only [if_neg c5]
            exact ⟨fun _ => trivial, fun z => absurd z (by simp)⟩
end zCb
/-- the whole text -/
theorem all_cmb {b : Int → Int} {L F : Int} : ∀ (m : Nat) (q : Int) (n n1 : zN) (wd : Int → List Int), nW n → zRq n n1 → q ≤ L →
    (∀ s x, xAll (zu n 2 F) (p1All b L m q n1 wd).2.2.2 = (some s, x) → (pAll b L m q n wd).1 = (6, s)) ∧
    (∀ x, xAll (zu n 2 F) (p1All b L m q n1 wd).2.2.2 = (none, x) → (pAll b L m q n wd).1 = (p1All b L m q n1 wd).1 ∧ ((p1All b L m q n1 wd).1.1 = 0 → x = zu (pAll b L m q n wd).2.1 2 F ∧ (pAll b L m q n wd).2.2 = (p1All b L m q n1 wd).2.2.1 ∧ (pAll b L m q n wd).2.1 2 = (p1All b L m q n1 wd).2.1 2)) := by
  intro m
  induction m with
  | zero =>
    intro q n n1 wd hn hR hq
    refine ⟨fun s x h => ?_, fun x h => ⟨rfl, fun _ => ⟨?_, rfl, hR.2.1.symm⟩⟩⟩
    · have h : ((none, zu n 2 F) : Option Int × zN) = (some s, x) := h
      cases h
    · have h : ((none, zu n 2 F) : Option Int × zN) = (none, x) := h
      exact (Prod.mk.inj h).2.symm
  | succ m ih =>
    intro q n n1 wd hn hR hq
    have hpr := pStm_rng (b := b) hq
    have he3 := tE_rng (b := b) hpr.2
    obtain ⟨hA, hB⟩ := stm_cmb (b := b) (wd := wd) hn hR hq
    unfold pAll p1All
    by_cases c1 : tK b L q = 0
    · rw [if_pos c1, if_pos c1]
      refine ⟨fun s x h => ?_, fun x h => ⟨rfl, fun _ => ⟨?_, rfl, hR.2.1.symm⟩⟩⟩
      · have h : ((none, zu n 2 F) : Option Int × zN) = (some s, x) := h
        cases h
      · have h : ((none, zu n 2 F) : Option Int × zN) = (none, x) := h
        exact (Prod.mk.inj h).2.symm
    · rw [if_neg c1, if_neg c1]
      by_cases c2 : (e1Stm b L q n1 wd).1 = 0
      · rw [if_pos c2]
        obtain ⟨hw, hC⟩ := hB c2
        rcases hC with ⟨s0, s1, s2, s3, s4⟩ | ⟨s, s0, s1, s2, s3, s4⟩
        · -- a new file
          rw [if_pos s1, s0, s2, hw]
          obtain ⟨i1, i2⟩ := ih (tE b L (pStm b L q)) (zu n 2 (n 2 + 1)) (n1Stm b L q n1) (wStm b L q n wd) s3 s4 he3.2.1
          rw [zu22] at i1 i2
          by_cases c3 : (eSem b L (pStm b L q)).1 = 0
          · rw [if_pos c3, if_pos c3]
            exact ⟨i1, i2⟩
          · rw [if_neg c3, if_neg c3]
            refine ⟨fun s x h => ?_, fun x h => ⟨rfl, fun z => absurd z c3⟩⟩
            have h : ((none, zu n 2 F) : Option Int × zN) = (some s, x) := h
            cases h
        · -- a statement that is done on the disc
          have hxc : ∀ S : List zS5, xAll (zu n 2 F) (s :: S) = if sWhy n s = 0 then xAll (sDo (zu n 2 F) s) S else (some (tS b L q), zu n 2 F) := fun S => by rw [xAll, c_sWhy hn, s2]
          by_cases c4 : sWhy n s = 0
          · obtain ⟨d1, d2⟩ := s4 c4
            have hd := sDo_W hn s1 c4
            rw [if_pos c4] at s3
            obtain ⟨i1, i2⟩ := ih (tE b L (pStm b L q)) (sDo n s) (n1Stm b L q n1) (wStm b L q n wd) hd.1 d2 he3.2.1
            rw [if_pos (show (eStm b L q n wd).1 = 0 by rw [s3]), s0, d1, hw]
            by_cases c3 : (eSem b L (pStm b L q)).1 = 0
            · rw [if_pos c3, if_pos c3]
              simp only [List.singleton_append]
              rw [hxc, if_pos c4, c_sDo hn s1 c4]
              exact ⟨i1, i2⟩
            · rw [if_neg c3, if_neg c3]
              simp only
              rw [hxc, if_pos c4]
              refine ⟨fun s' x h => ?_, fun x h => ⟨trivial, fun z => absurd z c3⟩⟩
              have h : ((none, sDo (zu n 2 F) s) : Option Int × zN) = (some s', x) := h
              cases h
          · rw [if_neg c4] at s3
            rw [if_neg (show ¬ (eStm b L q n wd).1 = 0 by rw [s3]; simp), s0]
            have hx : ∀ S : List zS5, (∀ s' x, xAll (zu n 2 F) (s :: S) = (some s', x) → eStm b L q n wd = (6, s')) ∧ ∀ x, ¬ xAll (zu n 2 F) (s :: S) = (none, x) := fun S => by
              rw [hxc, if_neg c4]
              refine ⟨fun s' x h => ?_, fun x h => by cases h⟩
              rw [s3, ← Option.some.inj (Prod.mk.inj h).1]
            by_cases c3 : (eSem b L (pStm b L q)).1 = 0
            · rw [if_pos c3]
              exact ⟨(hx _).1, fun x h => absurd h ((hx _).2 x)⟩
            · rw [if_neg c3]
              exact ⟨(hx _).1, fun x h => absurd h ((hx _).2 x)⟩
      · rw [if_neg c2]
        have hA := hA c2
        rw [hA, if_neg c2]
        refine ⟨fun s x h => ?_, fun x h => ⟨rfl, fun z => absurd z c2⟩⟩
        have h : ((none, zu n 2 F) : Option Int × zN) = (some s, x) := h
        cases h
theorem s1_ok {b : Int → Int} {L q : Int} {n : zN} {wd : Int → List Int} (h0 : 8 ≤ n 0 ∧ n 0 ≤ 96) (h2 : 0 ≤ n 2 ∧ n 2 ≤ 10) (h : (e1Stm b L q n wd).1 = 0) : (n1Stm b L q n 0 = n 0 ∧ n 2 ≤ n1Stm b L q n 2 ∧ n1Stm b L q n 2 ≤ 10) ∧ ∀ s ∈ s1Stm b L q n wd, sOk (n 2) s := by
  have hf : ∀ p, (eFil b L p n wd).1 = 0 → 0 ≤ fNm wd n (tW b L p) ∧ fNm wd n (tW b L p) < n 2 := fun p hp => by
    have hne := (eFil_0 hp).2
    rcases zfd_rng wd (tW b L p) (n 2).toNat 0 with z | z
    · exact absurd z hne
    · unfold fNm; omega
  unfold e1Stm at h
  unfold n1Stm s1Stm
  by_cases c1 : tIs b L q 1 = true
  · simp only [if_pos c1] at h ⊢
    unfold eBad at h
    by_cases d1 : (eNum b L (tE b L q) 0 (n 0 - 1)).1 = 0
    · obtain ⟨-, m2, m3⟩ := eNum_0 d1
      refine ⟨⟨zu_ne (by omega), by rw [zu_ne (by omega)]; omega, by rw [zu_ne (by omega)]; omega⟩, fun s hs => ?_⟩
      rw [List.mem_singleton.mp hs]
      exact sOk.k0 ⟨m2, by omega⟩
    · rw [eTh_no d1] at h
      exact absurd h d1
  · simp only [if_neg c1] at h ⊢
    by_cases c2 : tIs b L q 2 = true
    · simp only [if_pos c2] at h ⊢
      have h9 : ¬ 10 ≤ n 2 := fun z => by
        unfold eNew at h
        rw [if_pos z] at h
        exact absurd h (by simp)
      exact ⟨⟨zu_ne (by omega), by rw [zu_eq rfl]; omega, by rw [zu_eq rfl]; omega⟩, fun s hs => by simp at hs⟩
    · simp only [if_neg c2] at h ⊢
      refine ⟨⟨trivial, Int.le_refl _, h2.2⟩, fun s hs => ?_⟩
      by_cases c3 : tIs b L q 3 = true
      · simp only [if_pos c3] at h hs
        unfold e1Wri at h
        by_cases d1 : (eFil b L (tE b L q) n wd).1 = 0
        · rw [eTh_ok d1] at h
          by_cases d2 : (eNum b L (tE b L (tE b L q)) 1 8).1 = 0
          · rw [eTh_ok d2] at h
            obtain ⟨-, m2, m3⟩ := eNum_0 d2
            obtain ⟨-, y2, y3⟩ := eNum_0 h
            rw [List.mem_singleton.mp hs]
            exact sOk.k1 ⟨hf _ d1, ⟨m2, m3⟩, ⟨y2, y3⟩⟩
          · rw [eTh_no d2] at h
            exact absurd h d2
        · rw [eTh_no d1] at h
          exact absurd h d1
      · simp only [if_neg c3] at h hs
        by_cases c4 : tIs b L q 4 = true
        · simp only [if_pos c4] at h hs
          rw [List.mem_singleton.mp hs]
          exact sOk.k2 (hf _ h)
        · simp only [if_neg c4] at h hs
          rw [List.mem_singleton.mp hs]
          exact sOk.k3
/-- what is read holds numbers in their ranges -/
theorem p1_ok {b : Int → Int} {L : Int} : ∀ (m : Nat) (q : Int) (n : zN) (wd : Int → List Int), (8 ≤ n 0 ∧ n 0 ≤ 96) → (0 ≤ n 2 ∧ n 2 ≤ 10) → n 2 ≤ (p1All b L m q n wd).2.1 2 ∧ (p1All b L m q n wd).2.1 2 ≤ 10 ∧ ∀ s ∈ (p1All b L m q n wd).2.2.2, sOk ((p1All b L m q n wd).2.1 2) s := by
  intro m
  induction m with
  | zero => intro q n wd h0 h2; exact ⟨Int.le_refl _, h2.2, fun s hs => by simp [p1All] at hs⟩
  | succ m ih =>
    intro q n wd h0 h2
    unfold p1All
    by_cases c1 : tK b L q = 0
    · rw [if_pos c1]
      exact ⟨Int.le_refl _, h2.2, fun s hs => by simp at hs⟩
    · rw [if_neg c1]
      by_cases c2 : (e1Stm b L q n wd).1 = 0
      · rw [if_pos c2]
        obtain ⟨⟨a1, a2, a3⟩, a4⟩ := s1_ok h0 h2 c2
        by_cases c3 : (eSem b L (pStm b L q)).1 = 0
        · rw [if_pos c3]
          obtain ⟨i1, i2, i3⟩ := ih (tE b L (pStm b L q)) (n1Stm b L q n) (wStm b L q n wd) (by rw [a1]; exact h0) (by omega)
          refine ⟨by simp only; omega, i2, fun s hs => ?_⟩
          rcases List.mem_append.mp hs with h | h
          · exact (a4 s h).le (by simp only; omega)
          · exact i3 s h
        · rw [if_neg c3]
          exact ⟨a2, a3, fun s hs => (a4 s hs).le a2⟩
      · rw [if_neg c2]
        exact ⟨Int.le_refl _, h2.2, fun s hs => by simp at hs⟩
theorem nZuF_W {n : zN} (hn : nW n) : ∀ (m : Nat), n 2 + m ≤ 10 → nW (zu n 2 (n 2 + m)) := by
  intro m
  induction m with
  | zero =>
    intro _
    have e : zu n 2 (n 2 + ((0 : Nat) : Int)) = n := by
      funext i
      unfold zu
      by_cases h : i = 2
      · rw [if_pos h, h]; simp
      · rw [if_neg h]
    rw [e]
    exact hn
  | succ m ih =>
    intro h
    have h1 := nZu2_W (ih (by omega)) (by rw [zu_eq rfl]; omega)
    rw [zu22, zu_eq rfl] at h1
    rw [show n 2 + ((m + 1 : Nat) : Int) = n 2 + (m : Int) + 1 by omega]
    exact h1

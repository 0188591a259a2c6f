/-! The reference's parser. -/
def zMl (σ : zW) (e : Int × Int) : zW := zs (zs σ 3 0 0 11 e.1) 3 0 0 12 e.2
/-- the reference's fields of tokens, numbers and errors alone have changed -/
def zMg (σ σ' : zW) : Prop := (∀ k d c, ¬ (k = 3 ∧ d = 0 ∧ c = 0) → σ' k d c = σ k d c) ∧ ∀ i, i < 6 ∨ 13 < i → σ' 3 0 0 i = σ 3 0 0 i
theorem zMg.rf {σ : zW} : zMg σ σ := ⟨fun _ _ _ _ => rfl, fun _ _ => rfl⟩
theorem zMg.tr {σ σ1 σ2 : zW} (h : zMg σ σ1) (h2 : zMg σ1 σ2) : zMg σ σ2 := ⟨fun k d c z => (h2.1 k d c z).trans (h.1 k d c z), fun i z => (h2.2 i z).trans (h.2 i z)⟩
theorem zMf.g {σ σ' : zW} (h : zMf σ σ') : zMg σ σ' := ⟨h.1, fun i z => h.2 i (by omega)⟩
theorem zMg.s {σ : zW} {i v : Int} (h0 : 6 ≤ i) (h1 : i ≤ 13) : zMg σ (zs σ 3 0 0 i v) := ⟨fun k d c z => zs_ne z, fun j z => by rw [zs_at, if_neg (by omega)]⟩
theorem zMl.g {σ : zW} {e : Int × Int} : zMg σ (zMl σ e) := (zMg.s (by omega) (by omega)).tr (zMg.s (by omega) (by omega))
/-- what a text's piece may change of the reference -/
def zMd (σ σ' : zW) : Prop := (∀ k d c, ¬ (k = 3 ∧ d = 0 ∧ (c = 0 ∨ c = 1 ∨ c = 15 ∨ c = 17 ∨ c = 21 ∨ c = 23)) → σ' k d c = σ k d c) ∧ ∀ i, i = 0 ∨ i = 4 ∨ i = 5 ∨ i = 24 → σ' 3 0 0 i = σ 3 0 0 i
theorem zMd.rf {σ : zW} : zMd σ σ := ⟨fun _ _ _ _ => rfl, fun _ _ => rfl⟩
theorem zMd.tr {σ σ1 σ2 : zW} (h : zMd σ σ1) (h2 : zMd σ1 σ2) : zMd σ σ2 := ⟨fun k d c z => (h2.1 k d c z).trans (h.1 k d c z), fun i z => (h2.2 i z).trans (h.2 i z)⟩
theorem zMg.d {σ σ' : zW} (h : zMg σ σ') : zMd σ σ' := ⟨fun k d c z => h.1 k d c (by omega), fun i z => h.2 i (by omega)⟩
theorem zQ.d {σ σ' : zW} (h : zQ σ σ') : zMd σ σ' := ⟨fun k d c z => h.1 k d c (by omega), fun i z => h.2 i (by omega) (by omega) (by omega) (by omega)⟩
theorem zMd.c {σ : zW} {c : Nat} {r : Int → Int} (hc : c = 1 ∨ c = 15) : zMd σ (zr σ 3 0 c r) := ⟨fun k d c' z => zr_ne (by omega), fun i z => by rw [zr_ne (by omega)]⟩
def zMr (σ σ' : zW) (e : Int × Int) : Prop := (e.1 = 0 → σ' 3 0 0 11 = σ 3 0 0 11 ∧ σ' 3 0 0 12 = σ 3 0 0 12) ∧ (e.1 ≠ 0 → σ' 3 0 0 11 = e.1 ∧ σ' 3 0 0 12 = e.2)
theorem zMr.tr {σ σ1 σ2 : zW} {e : Int × Int} (h : σ1 3 0 0 11 = σ 3 0 0 11 ∧ σ1 3 0 0 12 = σ 3 0 0 12) (h2 : zMr σ1 σ2 e) : zMr σ σ2 e := ⟨fun z => ⟨(h2.1 z).1.trans h.1, (h2.1 z).2.trans h.2⟩, h2.2⟩
theorem zMl.r {σ σ0 : zW} {e : Int × Int} (he : ¬ e.1 = 0) : zMr σ0 (zMl σ e) e := ⟨fun z => absurd z he, fun _ => ⟨by unfold zMl; rw [zs_at, if_neg (by omega), zs_at, if_pos rfl], by unfold zMl; rw [zs_at, if_pos rfl]⟩⟩
theorem zMf.e {σ σ' : zW} (h : zMf σ σ') : σ' 3 0 0 11 = σ 3 0 0 11 ∧ σ' 3 0 0 12 = σ 3 0 0 12 := ⟨h.2 11 (by omega), h.2 12 (by omega)⟩
/-- the reference shows n, the names that it has read are wd -/
def zSm (σ : zW) (n : zN) (wd : Int → List Int) : Prop := σ 3 0 1 = n ∧ nW n ∧ ∀ k, 0 ≤ k → k < n 2 → zWd (wd k) ∧ σ 3 0 15 k = zw8 (wd k)
theorem zSm.g {σ σ' : zW} {n : zN} {wd : Int → List Int} (h : zSm σ n wd) (f : zMg σ σ') : zSm σ' n wd := ⟨(f.1 3 0 1 (by omega)).trans h.1, h.2.1, fun k k0 k1 => by rw [f.1 3 0 15 (by omega)]; exact h.2.2 k k0 k1⟩
section zPar
variable {E : zE} {σ : zW} {b : Int → Int} {L : Int} {n : zN} {wd : Int → List Int}
theorem zTm.d {σ' : zW} (h : zTm σ b L) (f : zMd σ σ') : zTm σ' b L := h.cg (f.1 3 0 3 (by omega))
theorem e10_failsAt (hW : zWF E) (hm : zU E 3 0 = true) (h11 : σ 3 0 0 11 = 0) (e : Int × Int) : f_X10_failsAt (zH E σ) (zL E 3 0 0) (zI e.1) (zI e.2) = some (zH E (zMl σ e), zI 0) := by
  have g := zg_md11 (σ := σ) hW hm
  rw [h11] at g
  have p1 := zp_md11 (σ := σ) hW hm e.1
  have p2 := zp_md12 (σ := zs σ 3 0 0 11 e.1) hW hm e.2
  have hf : zMl σ e = zs (zs σ 3 0 0 11 e.1) 3 0 0 12 e.2 := rfl
  rw [hf]
  simp (disch := first | assumption | omega) only [f_X10_failsAt, g, p1, p2, zz_some, zz_lit, zz_num, zI_lt, zI_le, zI_eq, zI_nat, zz_b, if_pos, if_neg, if_true, if_false]
theorem e10_fails (hW : zWF E) (hm : zU E 3 0 = true) (h11 : σ 3 0 0 11 = 0) {w s : Int} (h6 : σ 3 0 0 6 = s) : f_X10_fails (zH E σ) (zL E 3 0 0) (zI w) = some (zH E (zMl σ (w, s)), zI 0) := by
  have g := zg_md6 (σ := σ) hW hm
  rw [h6] at g
  have od : g_ob (zH E σ) (zL E 3 0 0) 10 = some () := by simp only [zz_mdo (σ := σ) hW hm]
  have fl : f_X10_failsAt (zH E σ) (zL E 3 0 0) (zI w) (zI s) = some (zH E (zMl σ (w, s)), zI 0) := e10_failsAt (σ := σ) hW hm h11 (w, s)
  simp (disch := first | assumption | omega) only [f_X10_fails, g, od, fl, zz_some, zz_lit, zz_num, zI_lt, zI_le, zI_eq, zI_nat, zz_b, if_pos, if_neg, if_true, if_false]
theorem e10_starts1 (hW : zWF E) (hm : zU E 3 0 = true) (hT : zTm σ b L) (h5 : σ 3 0 0 5 = L) {p w : Int} (h7 : σ 3 0 0 7 = p) (hp0 : 0 ≤ p) (hp : p ≤ L) : ∃ σ', f_X10_starts (zH E σ) (zL E 3 0 0) (zI w) (zI 1) = some (zH E σ', zI 1) ∧ zMf σ σ' ∧ zPm σ' b L p := by
  obtain ⟨σ1, a1, a2, a3⟩ := e10_advance hW hm hT h5 h7 hp0 hp
  have od : g_ob (zH E σ) (zL E 3 0 0) 10 = some () := by simp only [zz_mdo (σ := σ) hW hm]
  refine ⟨σ1, ?_, a2, a3⟩
  simp (disch := first | assumption | omega) only [f_X10_starts, od, a1, zz_some, zz_lit, zz_num, zI_lt, zI_le, zI_eq, zI_nat, zz_b, if_pos, if_neg, if_true, if_false]
theorem e10_starts0 (hW : zWF E) (hm : zU E 3 0 = true) (h11 : σ 3 0 0 11 = 0) {w s : Int} (h6 : σ 3 0 0 6 = s) : f_X10_starts (zH E σ) (zL E 3 0 0) (zI w) (zI 0) = some (zH E (zMl σ (w, s)), zI 0) := by
  have od : g_ob (zH E σ) (zL E 3 0 0) 10 = some () := by simp only [zz_mdo (σ := σ) hW hm]
  have fl := e10_fails hW hm h11 (w := w) h6
  simp (disch := first | assumption | omega) only [f_X10_starts, od, fl, zz_some, zz_lit, zz_num, zI_lt, zI_le, zI_eq, zI_nat, zz_b, if_pos, if_neg, if_true, if_false]
theorem e10_takes (hW : zWF E) (hm : zU E 3 0 = true) (hT : zTm σ b L) (h5 : σ 3 0 0 5 = L) (h11 : σ 3 0 0 11 = 0) {p lo hi : Int} (hP : zPm σ b L p) (hp0 : 0 ≤ p) (hp : p ≤ L) (hl0 : 0 ≤ lo) (hl1 : lo < 1000) (hh0 : 0 ≤ hi) (hh1 : hi < 1000) : ∃ σ', f_X10_takes (zH E σ) (zL E 3 0 0) (zI lo) (zI hi) = some (zH E σ', zI (zb (decide ((eNum b L p lo hi).1 = 0)))) ∧ zMg σ σ' ∧ zMr σ σ' (eNum b L p lo hi) ∧ ((eNum b L p lo hi).1 = 0 → zPm σ' b L (tE b L p) ∧ σ' 3 0 0 13 = tV b L p) := by
  have hL6 := hT.1
  have hs := tS_rng (b := b) hp
  have he := tE_rng (b := b) hp
  have hk := tK_rng (b := b) (L := L) (p := p)
  have od : g_ob (zH E σ) (zL E 3 0 0) 10 = some () := by simp only [zz_mdo (σ := σ) hW hm]
  have g8 := zg_md8 (σ := σ) hW hm
  rw [hP.2.2.1] at g8
  by_cases c1 : tK b L p = 2
  · have g9 := zg_md9 (σ := σ) hW hm
    rw [hP.2.2.2.1 c1] at g9
    have hv := tK_2 hp c1
    have wi := e10_wi (G := zH E σ) (v := tV b L p) (lo := lo) (hi := hi) (by omega) (by omega) (by omega) (by omega) (by omega) (by omega)
    by_cases c2 : lo ≤ tV b L p ∧ tV b L p ≤ hi
    · have e : eNum b L p lo hi = (0, 0) := by unfold eNum; rw [if_pos c1, if_pos c2]
      rw [e, zb_dpos (show ((0, 0) : Int × Int).1 = 0 from rfl)]
      rw [zb_dpos c2] at wi
      have p13 := zp_md13 (σ := σ) hW hm (tV b L p)
      obtain ⟨σ2, h22⟩ : ∃ x, x = zs σ 3 0 0 13 (tV b L p) := ⟨_, rfl⟩
      have f2 : zMg σ σ2 := by rw [h22]; exact zMg.s (by omega) (by omega)
      have v7 : σ2 3 0 0 7 = tE b L p := by rw [h22, zs_at, if_neg (by omega)]; exact hP.2.1
      obtain ⟨σ1, a1, a2, a3⟩ := e10_advance (σ := σ2) hW hm (hT.d f2.d) (by rw [f2.2 5 (by omega)]; exact h5) v7 (by omega) he.2.1
      rw [← h22] at p13
      have od2 : g_ob (zH E σ2) (zL E 3 0 0) 10 = some () := by simp only [zz_mdo (σ := σ2) hW hm]
      refine ⟨σ1, ?_, f2.tr a2.g, ⟨fun _ => ?_, fun z => absurd rfl z⟩, fun _ => ⟨a3, ?_⟩⟩
      · simp (disch := first | assumption | omega) only [f_X10_takes, g8, c1, g9, wi, p13, od2, a1, zz_some, zz_lit, zz_num, zI_lt, zI_le, zI_eq, zI_nat, zz_b, if_pos, if_neg, if_true, if_false]
      · rw [a2.2 11 (by omega), a2.2 12 (by omega), h22, zs_at, if_neg (by omega), zs_at, if_neg (by omega)]
        exact ⟨rfl, rfl⟩
      · rw [a2.2 13 (by omega), h22, zs_at, if_pos rfl]
    · have e : eNum b L p lo hi = (3, tS b L p) := by unfold eNum; rw [if_pos c1, if_neg c2]
      rw [e, zb_dneg (show ¬ ((3, tS b L p) : Int × Int).1 = 0 by simp)]
      rw [zb_dneg c2] at wi
      have fl := e10_fails hW hm h11 (w := 3) hP.1
      refine ⟨zMl σ (3, tS b L p), ?_, zMl.g, zMl.r (by simp), fun z => absurd z (by simp)⟩
      simp (disch := first | assumption | omega) only [f_X10_takes, g8, c1, g9, wi, od, fl, zz_some, zz_lit, zz_num, zI_lt, zI_le, zI_eq, zI_nat, zz_b, if_pos, if_neg, if_true, if_false]
  · have e : eNum b L p lo hi = (1, tS b L p) := by unfold eNum; rw [if_neg c1]
    rw [e, zb_dneg (show ¬ ((1, tS b L p) : Int × Int).1 = 0 by simp)]
    have fl := e10_fails hW hm h11 (w := 1) hP.1
    refine ⟨zMl σ (1, tS b L p), ?_, zMl.g, zMl.r (by simp), fun z => absurd z (by simp)⟩
    simp (disch := first | assumption | omega) only [f_X10_takes, g8, c1, od, fl, zz_some, zz_lit, zz_num, zI_lt, zI_le, zI_eq, zI_nat, zz_b, if_pos, if_neg, if_true, if_false]
theorem e10_closes (hW : zWF E) (hm : zU E 3 0 = true) (hT : zTm σ b L) (h5 : σ 3 0 0 5 = L) (h11 : σ 3 0 0 11 = 0) {p : Int} (hP : zPm σ b L p) (hp0 : 0 ≤ p) (hp : p ≤ L) : ∃ σ', f_X10_closes (zH E σ) (zL E 3 0 0) = some (zH E σ', zI (zb (decide ((eSem b L p).1 = 0)))) ∧ zMg σ σ' ∧ zMr σ σ' (eSem b L p) ∧ ((eSem b L p).1 = 0 → zPm σ' b L (tE b L p)) := by
  have hL6 := hT.1
  have hs := tS_rng (b := b) hp
  have he := tE_rng (b := b) hp
  have hk := tK_rng (b := b) (L := L) (p := p)
  have od : g_ob (zH E σ) (zL E 3 0 0) 10 = some () := by simp only [zz_mdo (σ := σ) hW hm]
  have g8 := zg_md8 (σ := σ) hW hm
  rw [hP.2.2.1] at g8
  by_cases c1 : tK b L p = 3
  · have e : eSem b L p = (0, 0) := by unfold eSem; rw [if_pos c1]
    rw [e, zb_dpos (show ((0, 0) : Int × Int).1 = 0 from rfl)]
    obtain ⟨σ1, a1, a2, a3⟩ := e10_starts1 (w := 1) hW hm hT h5 hP.2.1 (by omega) he.2.1
    refine ⟨σ1, ?_, a2.g, ⟨fun _ => a2.e, fun z => absurd rfl z⟩, fun _ => a3⟩
    simp (disch := first | assumption | omega) only [f_X10_closes, g8, c1, od, a1, zz_some, zz_lit, zz_num, zI_lt, zI_le, zI_eq, zI_nat, zz_b, if_pos, if_neg, if_true, if_false]
  · have e : eSem b L p = (1, tS b L p) := by unfold eSem; rw [if_neg c1]
    rw [e, zb_dneg (show ¬ ((1, tS b L p) : Int × Int).1 = 0 by simp)]
    have fl := e10_starts0 hW hm h11 (w := 1) hP.1
    refine ⟨zMl σ (1, tS b L p), ?_, zMl.g, zMl.r (by simp), fun z => absurd z (by simp)⟩
    simp (disch := first | assumption | omega) only [f_X10_closes, g8, c1, od, fl, zz_some, zz_lit, zz_num, zI_lt, zI_le, zI_eq, zI_nat, zz_b, if_pos, if_neg, if_true, if_false]
theorem zSm.nm {c : Nat} (hW : zWF E) (hm : zU E 3 0 = true) (h : zSm σ n wd) {w : List Int} (hw : zWd w) : f_X10_named (zH E σ) (zL E 3 0 15) (zI (n 2)) (zJ (zw8 w)) = some (zI (fNm wd n w)) := by
  have h2 := h.2.1.1.2.2.1
  exact e10_named hW hm (Or.inr rfl) h2.1 h2.2 h.2.2 hw
theorem e10_takesFile (hW : zWF E) (hm : zU E 3 0 = true) (hT : zTm σ b L) (h5 : σ 3 0 0 5 = L) (h11 : σ 3 0 0 11 = 0) (hS : zSm σ n wd) {p : Int} (hP : zPm σ b L p) (hp0 : 0 ≤ p) (hp : p ≤ L) : ∃ σ', f_X10_takesFile (zH E σ) (zL E 3 0 0) = some (zH E σ', zI (zb (decide ((eFil b L p n wd).1 = 0)))) ∧ zMd σ σ' ∧ zSm σ' n wd ∧ zMr σ σ' (eFil b L p n wd) ∧ ((eFil b L p n wd).1 = 0 → zPm σ' b L (tE b L p) ∧ σ' 3 0 0 16 = fNm wd n (tW b L p)) := by
  have hL6 := hT.1
  have hs := tS_rng (b := b) hp
  have he := tE_rng (b := b) hp
  have hk := tK_rng (b := b) (L := L) (p := p)
  have od : g_ob (zH E σ) (zL E 3 0 0) 10 = some () := by simp only [zz_mdo (σ := σ) hW hm]
  have g8 := zg_md8 (σ := σ) hW hm
  rw [hP.2.2.1] at g8
  by_cases c1 : tK b L p = 1
  · have g10 := zg_md10 (σ := σ) hW hm
    rw [hP.2.2.2.2 c1] at g10
    have nm := hS.nm (c := 0) hW hm (tK_1 hp c1)
    have nr := fNm_rg (wd := wd) (w := tW b L p) hS.2.1
    have ha := zAld (σ := σ) (t := 0) (n := 1555) hW hm (k := 3) (d := 0) (c := 1) rfl (by decide) (by decide) (i := 2) (by omega) (by omega)
    rw [hS.1] at ha
    obtain ⟨f, hf⟩ : ∃ x, x = fNm wd n (tW b L p) := ⟨_, rfl⟩
    rw [← hf] at nm nr
    have p16 := zp_md16 (σ := σ) hW hm f
    obtain ⟨σ2, h22⟩ : ∃ x, x = zs σ 3 0 0 16 f := ⟨_, rfl⟩
    rw [← h22] at p16
    have f2 : ∀ k d c, ¬ (k = 3 ∧ d = 0 ∧ c = 0) → σ2 k d c = σ k d c := fun k d c z => by rw [h22, zs_ne z]
    have f3 : ∀ i, i ≠ 16 → σ2 3 0 0 i = σ 3 0 0 i := fun i hi => by rw [h22, zs_at, if_neg hi]
    have d2 : zMd σ σ2 := ⟨fun k d c z => f2 k d c (by omega), fun i z => f3 i (by omega)⟩
    have hS2 : zSm σ2 n wd := ⟨(f2 3 0 1 (by omega)).trans hS.1, hS.2.1, fun k k0 k1 => by rw [f2 3 0 15 (by omega)]; exact hS.2.2 k k0 k1⟩
    have g16 := zg_md16 (σ := σ2) hW hm
    have v16 : σ2 3 0 0 16 = f := by rw [h22, zs_at, if_pos rfl]
    rw [v16] at g16
    have od2 : g_ob (zH E σ2) (zL E 3 0 0) 10 = some () := by simp only [zz_mdo (σ := σ2) hW hm]
    have md := zz_mdo (σ := σ) hW hm
    by_cases c2 : f = -1
    · have e : eFil b L p n wd = (4, tS b L p) := by unfold eFil; rw [if_pos c1, ← hf, if_pos c2]
      rw [e, zb_dneg (show ¬ ((4, tS b L p) : Int × Int).1 = 0 by simp)]
      have fl := e10_starts0 (σ := σ2) hW hm (by rw [f3 11 (by omega)]; exact h11) (w := 4) (s := tS b L p) (by rw [f3 6 (by omega)]; exact hP.1)
      refine ⟨zMl σ2 (4, tS b L p), ?_, d2.tr zMl.g.d, hS2.g zMl.g, zMl.r (by simp), fun z => absurd z (by simp)⟩
      subst c2
      simp (disch := first | assumption | omega) only [f_X10_takesFile, g8, c1, md, ha, g10, nm, p16, g16, od2, fl, eq_self, zz_some, zz_lit, zz_num, zI_lt, zI_le, zI_eq, zI_nat, zz_b, if_pos, if_neg, if_true, if_false]
    · have e : eFil b L p n wd = (0, 0) := by unfold eFil; rw [if_pos c1, ← hf, if_neg c2]
      rw [e, zb_dpos (show ((0, 0) : Int × Int).1 = 0 from rfl)]
      obtain ⟨σ1, a1, a2, a3⟩ := e10_starts1 (σ := σ2) (w := 4) hW hm (hT.d d2) (by rw [f3 5 (by omega)]; exact h5) (p := tE b L p) (by rw [f3 7 (by omega)]; exact hP.2.1) (by omega) he.2.1
      refine ⟨σ1, ?_, d2.tr a2.g.d, hS2.g a2.g, ⟨fun _ => ?_, fun z => absurd rfl z⟩, fun _ => ⟨a3, ?_⟩⟩
      · simp (disch := first | assumption | omega) only [f_X10_takesFile, g8, c1, md, ha, g10, nm, p16, g16, c2, od2, a1, zz_some, zz_lit, zz_num, zI_lt, zI_le, zI_eq, zI_nat, zz_b, if_pos, if_neg, if_true, if_false]
      · rw [a2.e.1, a2.e.2, f3 11 (by omega), f3 12 (by omega)]
        exact ⟨rfl, rfl⟩
      · rw [a2.2 16 (by omega), v16, hf]
  · have e : eFil b L p n wd = (1, tS b L p) := by unfold eFil; rw [if_neg c1]
    rw [e, zb_dneg (show ¬ ((1, tS b L p) : Int × Int).1 = 0 by simp)]
    have fl := e10_fails hW hm h11 (w := 1) hP.1
    refine ⟨zMl σ (1, tS b L p), ?_, zMl.g.d, hS.g zMl.g, zMl.r (by simp), fun z => absurd z (by simp)⟩
    simp (disch := first | assumption | omega) only [f_X10_takesFile, g8, c1, od, fl, zz_some, zz_lit, zz_num, zI_lt, zI_le, zI_eq, zI_nat, zz_b, if_pos, if_neg, if_true, if_false]
/-- the outcome of a piece of text at the reference -/
def zSx (σ σ' : zW) (b : Int → Int) (L : Int) (e : Int × Int) (p' : Int) (n' : zN) (wd' : Int → List Int) : Prop := zMr σ σ' e ∧ (e.1 = 0 → zPm σ' b L p' ∧ zSm σ' n' wd')
theorem zSx.no {σ σ' : zW} {e : Int × Int} {p' : Int} {n' : zN} {wd' : Int → List Int} (he : ¬ e.1 = 0) (h : zMr σ σ' e) : zSx σ σ' b L e p' n' wd' := ⟨h, fun z => absurd z he⟩
theorem zPm.r {p : Int} {c : Nat} {r : Int → Int} (hc : c ≠ 0) (h : zPm σ b L p) : zPm (zr σ 3 0 c r) b L p := h.cg (fun i _ _ => by rw [zr_ne (by omega)])
theorem e10_badLine (hW : zWF E) (hm : zU E 3 0 = true) (hT : zTm σ b L) (h5 : σ 3 0 0 5 = L) (h11 : σ 3 0 0 11 = 0) (hS : zSm σ n wd) {p : Int} (h7 : σ 3 0 0 7 = p) (hp0 : 0 ≤ p) (hp : p ≤ L) : ∃ σ', f_X10_badLine (zH E σ) (zL E 3 0 0) = some (zH E σ', zI (zb (decide ((eBad b L p n).1 = 0)))) ∧ zMd σ σ' ∧ zSx σ σ' b L (eBad b L p n) (tE b L p) (zu n (103 + tV b L p) 1) wd := by
  have hn := hS.2.1
  have hN := hn.1.r
  have hL6 := hT.1
  have hs := tS_rng (b := b) hp
  have hk := tK_rng (b := b) (L := L) (p := p)
  have od : g_ob (zH E σ) (zL E 3 0 0) 10 = some () := by simp only [zz_mdo (σ := σ) hW hm]
  obtain ⟨σ1, a1, a2, a3⟩ := e10_advance hW hm hT h5 h7 hp0 hp
  have hS1 := hS.g a2.g
  have v11 : σ1 3 0 0 11 = 0 := by rw [a2.2 11 (by omega)]; exact h11
  have od1 : g_ob (zH E σ1) (zL E 3 0 0) 10 = some () := by simp only [zz_mdo (σ := σ1) hW hm]
  have md1 := zg_md1 (σ := σ1) hW hm
  have g8 := zg_md8 (σ := σ1) hW hm
  rw [a3.2.2.1] at g8
  have al0 := zAld (σ := σ1) (t := 0) (n := 1555) hW hm (k := 3) (d := 0) (c := 1) rfl (by decide) (by decide) (i := 0) (by omega) (by omega)
  rw [hS1.1] at al0
  obtain ⟨σ2, d1, d2, d3, d4⟩ := e10_takes (lo := 0) (hi := n 0 - 1) hW hm (hT.f a2) (by rw [a2.2 5 (by omega)]; exact h5) v11 a3 hp0 hp (by omega) (by omega) (by omega) (by omega)
  have md2 := zg_md1 (σ := σ2) hW hm
  have hS2 := hS1.g d2
  -- the road that takes the number
  have hJ : ¬ (tK b L p = 2 ∧ tV b L p < n 0 ∧ n (103 + tV b L p) = 1) → ∃ σ', f_X10_badLine_J47 (zH E σ1) (zL E 3 0 0) = some (zH E σ', zI (zb (decide ((eBad b L p n).1 = 0)))) ∧ zMd σ σ' ∧ zSx σ σ' b L (eBad b L p n) (tE b L p) (zu n (103 + tV b L p) 1) wd := by
    intro hno
    by_cases c2 : (eNum b L p 0 (n 0 - 1)).1 = 0
    · rw [zb_dpos c2] at d1
      obtain ⟨m1, m2, m3⟩ := eNum_0 c2
      obtain ⟨x1, x2⟩ := d4 c2
      have g13 := zg_md13 (σ := σ2) hW hm
      rw [x2] at g13
      have hb := (hn.2.1 (tV b L p) m2 (by omega)).2.1
      have hz : n (103 + tV b L p) = 0 := by
        rcases hb with h | h
        · exact h
        · exact absurd ⟨m1, by omega, h⟩ hno
      have e : eBad b L p n = (0, 0) := by unfold eBad; rw [eTh_ok c2, if_pos hz]
      rw [e, zb_dpos (show ((0, 0) : Int × Int).1 = 0 from rfl)]
      have as := zAst (σ := σ2) (t := 0) (n := 1555) hW hm (k := 3) (d := 0) (c := 1) rfl (by decide) (by decide) (i := 103 + tV b L p) (v := 1) (by omega) (by omega) rfl
      have hw : zs σ2 3 0 1 (103 + tV b L p) 1 = zr σ2 3 0 1 (zu n (103 + tV b L p) 1) := by
        rw [← zs_r, hS2.1]
        rfl
      rw [hw] at as
      refine ⟨zr σ2 3 0 1 (zu n (103 + tV b L p) 1), ?_, (a2.g.tr d2).d.tr (zMd.c (Or.inl rfl)), ⟨fun _ => ?_, fun z => absurd rfl z⟩, fun _ => ⟨x1.r (by omega), zr_at, nBd_W hn m2 (by omega), fun k k0 k1 => ?_⟩⟩
      · simp (disch := first | assumption | omega) only [f_X10_badLine_J47, md1, al0, od1, d1, md2, g13, as, zz_some, zz_lit, zz_num, zI_lt, zI_le, zI_eq, zI_nat, zz_b, if_pos, if_neg, if_true, if_false]
      · rw [zr_ne (by omega)]
        have z1 := d3.1 c2
        exact ⟨z1.1.trans a2.e.1, z1.2.trans a2.e.2⟩
      · rw [zr_ne (by omega)]
        rw [show zu n (103 + tV b L p) 1 2 = n 2 by unfold zu; rw [if_neg (by omega)]] at k1
        exact hS2.2.2 k k0 k1
    · rw [zb_dneg c2] at d1
      have e : eBad b L p n = eNum b L p 0 (n 0 - 1) := eTh_no c2
      rw [e, zb_dneg c2]
      refine ⟨σ2, ?_, (a2.g.tr d2).d, zSx.no c2 (zMr.tr a2.e d3)⟩
      simp (disch := first | assumption | omega) only [f_X10_badLine_J47, md1, al0, od1, d1, zz_some, zz_lit, zz_num, zI_lt, zI_le, zI_eq, zI_nat, zz_b, if_pos, if_neg, if_true, if_false]
  by_cases c1 : tK b L p = 2
  · have g9 := zg_md9 (σ := σ1) hW hm
    rw [a3.2.2.2.1 c1] at g9
    have hv := tK_2 hp c1
    by_cases c2 : n 0 ≤ tV b L p
    · obtain ⟨σ', y1, y2, y3⟩ := hJ (by omega)
      refine ⟨σ', ?_, y2, y3⟩
      simp (disch := first | assumption | omega) only [f_X10_badLine, od, a1, g8, c1, g9, md1, al0, c2, y1, zz_some, zz_lit, zz_num, zI_lt, zI_le, zI_eq, zI_nat, zz_b, if_pos, if_neg, if_true, if_false]
    · have al := zAld (σ := σ1) (t := 0) (n := 1555) hW hm (k := 3) (d := 0) (c := 1) rfl (by decide) (by decide) (i := 103 + tV b L p) (by omega) (by omega)
      rw [hS1.1] at al
      have hb := (hn.2.1 (tV b L p) (by omega) (by omega)).2.1
      by_cases c3 : n (103 + tV b L p) = 1
      · have e : eBad b L p n = (2, tS b L p) := by
          have : (eNum b L p 0 (n 0 - 1)).1 = 0 := by unfold eNum; rw [if_pos c1, if_pos (by omega)]
          unfold eBad
          rw [eTh_ok this, if_neg (by omega)]
        rw [e, zb_dneg (show ¬ ((2, tS b L p) : Int × Int).1 = 0 by simp)]
        have fl := e10_fails (σ := σ1) hW hm v11 (w := 2) a3.1
        refine ⟨zMl σ1 (2, tS b L p), ?_, (a2.g.tr zMl.g).d, zSx.no (by simp) (zMl.r (by simp))⟩
        simp (disch := first | assumption | omega) only [f_X10_badLine, od, a1, g8, c1, g9, md1, al0, c2, al, c3, od1, fl, zz_some, zz_lit, zz_num, zI_lt, zI_le, zI_eq, zI_nat, zz_b, if_pos, if_neg, if_true, if_false]
      · obtain ⟨σ', y1, y2, y3⟩ := hJ (by omega)
        refine ⟨σ', ?_, y2, y3⟩
        have c3' : ¬ n (103 + tV b L p) = 1 := c3
        simp (disch := first | assumption | omega) only [f_X10_badLine, od, a1, g8, c1, g9, md1, al0, c2, al, c3', y1, zz_some, zz_lit, zz_num, zI_lt, zI_le, zI_eq, zI_nat, zz_b, if_pos, if_neg, if_true, if_false]
  · obtain ⟨σ', y1, y2, y3⟩ := hJ (by omega)
    refine ⟨σ', ?_, y2, y3⟩
    simp (disch := first | assumption | omega) only [f_X10_badLine, od, a1, g8, c1, y1, zz_some, zz_lit, zz_num, zI_lt, zI_le, zI_eq, zI_nat, zz_b, if_pos, if_neg, if_true, if_false]
theorem e10_fileLine (hW : zWF E) (hm : zU E 3 0 = true) (hT : zTm σ b L) (h5 : σ 3 0 0 5 = L) (h11 : σ 3 0 0 11 = 0) (hS : zSm σ n wd) {p q : Int} (h6 : σ 3 0 0 6 = tS b L q) (h7 : σ 3 0 0 7 = p) (hp0 : 0 ≤ p) (hp : p ≤ L) : ∃ σ', f_X10_fileLine (zH E σ) (zL E 3 0 0) = some (zH E σ', zI (zb (decide ((eNew b L q p n wd).1 = 0)))) ∧ zMd σ σ' ∧ zSx σ σ' b L (eNew b L q p n wd) (tE b L p) (zu n 2 (n 2 + 1)) (fun k => if k = n 2 then tW b L p else wd k) := by
  have hn := hS.2.1
  have hN := hn.1.r
  have hL6 := hT.1
  have hs := tS_rng (b := b) hp
  have he := tE_rng (b := b) hp
  have hk := tK_rng (b := b) (L := L) (p := p)
  have od : g_ob (zH E σ) (zL E 3 0 0) 10 = some () := by simp only [zz_mdo (σ := σ) hW hm]
  have md := zg_md1 (σ := σ) hW hm
  have al2 := zAld (σ := σ) (t := 0) (n := 1555) hW hm (k := 3) (d := 0) (c := 1) rfl (by decide) (by decide) (i := 2) (by omega) (by omega)
  rw [hS.1] at al2
  by_cases c0 : 10 ≤ n 2
  · have e : eNew b L q p n wd = (5, tS b L q) := by unfold eNew; rw [if_pos c0]
    rw [e, zb_dneg (show ¬ ((5, tS b L q) : Int × Int).1 = 0 by simp)]
    have fl := e10_starts0 hW hm h11 (w := 5) h6
    refine ⟨zMl σ (5, tS b L q), ?_, zMl.g.d, zSx.no (by simp) (zMl.r (by simp))⟩
    simp (disch := first | assumption | omega) only [f_X10_fileLine, md, al2, c0, f_X10_fileLine_J20, od, fl, zz_some, zz_lit, zz_num, zI_lt, zI_le, zI_eq, zI_nat, zz_b, if_pos, if_neg, if_true, if_false]
  · obtain ⟨σ1, a1, a2, a3⟩ := e10_starts1 (w := 5) hW hm hT h5 h7 hp0 hp
    have hS1 := hS.g a2.g
    have v11 : σ1 3 0 0 11 = 0 := by rw [a2.2 11 (by omega)]; exact h11
    have od1 : g_ob (zH E σ1) (zL E 3 0 0) 10 = some () := by simp only [zz_mdo (σ := σ1) hW hm]
    have g8 := zg_md8 (σ := σ1) hW hm
    rw [a3.2.2.1] at g8
    by_cases c1 : tK b L p = 1
    · have g10 := zg_md10 (σ := σ1) hW hm
      rw [a3.2.2.2.2 c1] at g10
      have hw := tK_1 hp c1
      have nm := hS1.nm (c := 0) hW hm hw
      have md15 := zg_md15 (σ := σ1) hW hm
      have nr := fNm_rg (wd := wd) (w := tW b L p) hS.2.1
      by_cases c2 : fNm wd n (tW b L p) = -1
      · have e : eNew b L q p n wd = (0, 0) := by unfold eNew; rw [if_neg c0, if_pos c1, if_pos c2]
        rw [e, zb_dpos (show ((0, 0) : Int × Int).1 = 0 from rfl)]
        obtain ⟨σ2, d1, d2, d3⟩ := e10_starts1 (σ := σ1) (w := 2) hW hm (hT.f a2) (by rw [a2.2 5 (by omega)]; exact h5) a3.2.1 (by omega) he.2.1
        have hS2 := hS1.g d2.g
        have md15' := zg_md15 (σ := σ2) hW hm
        have ls := zLast (σ := σ2) (n := 10) hW hm (k := 3) (d := 0) (c := 15) rfl (by decide) (i := n 2) (v := zw8 (tW b L p)) (by omega) (by omega)
        obtain ⟨σ3, h33⟩ : ∃ x, x = zs σ2 3 0 15 (n 2) (zw8 (tW b L p)) := ⟨_, rfl⟩
        rw [← h33] at ls
        have md1' := zg_md1 (σ := σ3) hW hm
        have e31 : σ3 3 0 1 = n := by rw [h33, zs_ne (by omega)]; exact hS2.1
        have al3 := zAld (σ := σ3) (t := 0) (n := 1555) hW hm (k := 3) (d := 0) (c := 1) rfl (by decide) (by decide) (i := 2) (by omega) (by omega)
        rw [e31] at al3
        have as := zAst (σ := σ3) (t := 0) (n := 1555) hW hm (k := 3) (d := 0) (c := 1) rfl (by decide) (by decide) (i := 2) (v := n 2 + 1) (by omega) (by omega) rfl
        have hww : zs σ3 3 0 1 2 (n 2 + 1) = zr σ3 3 0 1 (zu n 2 (n 2 + 1)) := by
          rw [← zs_r, e31]
          rfl
        rw [hww] at as
        have f3 : zMd σ2 σ3 := by rw [h33, ← zs_r]; exact zMd.c (Or.inr rfl)
        refine ⟨zr σ3 3 0 1 (zu n 2 (n 2 + 1)), ?_, ((a2.g.tr d2.g).d.tr f3).tr (zMd.c (Or.inl rfl)), ⟨fun _ => ?_, fun z => absurd rfl z⟩, fun _ => ⟨zPm.r (by omega) (by rw [h33, ← zs_r]; exact d3.r (by omega)), zr_at, nZu2_W hn (by omega), fun k k0 k1 => ?_⟩⟩
        · have j67 : f_X10_fileLine_J67 (zH E σ1) (zL E 3 0 0) (zI (n 2)) (zJ (zw8 (tW b L p))) (zL E 3 0 0) (zI 2) (zI 1) = some (zH E (zr σ3 3 0 1 (zu n 2 (n 2 + 1))), zI 1) := by
            simp (disch := first | assumption | omega) only [f_X10_fileLine_J67, od1, d1, md15', ls, md1', al3, as, zz_some, zz_lit, zz_num, zI_lt, zI_le, zI_eq, zI_nat, zz_b, if_pos, if_neg, if_true, if_false]
          have j20 : f_X10_fileLine_J20 (zH E σ) (zL E 3 0 0) (zI (n 2)) (zL E 3 0 0) (zI 5) (zI 1) = some (zH E (zr σ3 3 0 1 (zu n 2 (n 2 + 1))), zI 1) := by
            simp (disch := first | assumption | omega) only [f_X10_fileLine_J20, od, a1, g8, c1, g10, md15, nm, c2, j67, zz_some, zz_lit, zz_num, zI_lt, zI_le, zI_eq, zI_nat, zz_b, if_pos, if_neg, if_true, if_false]
          simp (disch := first | assumption | omega) only [f_X10_fileLine, md, al2, c0, j20, zz_some, zz_lit, zz_num, zI_lt, zI_le, zI_eq, zI_nat, zz_b, if_pos, if_neg, if_true, if_false]
        · rw [zr_ne (by omega), h33, zs_ne (by omega)]
          exact ⟨d2.e.1.trans a2.e.1, d2.e.2.trans a2.e.2⟩
        · rw [show zu n 2 (n 2 + 1) 2 = n 2 + 1 by unfold zu; rw [if_pos rfl]] at k1
          rw [zr_ne (by omega), h33, zs_at]
          by_cases hk2 : k = n 2
          · simp only [hk2, if_true]
            exact ⟨hw, trivial⟩
          · simp only [hk2, if_false]
            exact hS2.2.2 k k0 (by omega)
      · have e : eNew b L q p n wd = (2, tS b L p) := by unfold eNew; rw [if_neg c0, if_pos c1, if_neg c2]
        rw [e, zb_dneg (show ¬ ((2, tS b L p) : Int × Int).1 = 0 by simp)]
        have fl := e10_starts0 (σ := σ1) hW hm v11 (w := 2) a3.1
        refine ⟨zMl σ1 (2, tS b L p), ?_, (a2.g.tr zMl.g).d, zSx.no (by simp) (zMl.r (by simp))⟩
        have j67 : f_X10_fileLine_J67 (zH E σ1) (zL E 3 0 0) (zI (n 2)) (zJ (zw8 (tW b L p))) (zL E 3 0 0) (zI 2) (zI 0) = some (zH E (zMl σ1 (2, tS b L p)), zI 0) := by
          simp (disch := first | assumption | omega) only [f_X10_fileLine_J67, od1, fl, zz_some, zz_lit, zz_num, zI_lt, zI_le, zI_eq, zI_nat, zz_b, if_pos, if_neg, if_true, if_false]
        have j20 : f_X10_fileLine_J20 (zH E σ) (zL E 3 0 0) (zI (n 2)) (zL E 3 0 0) (zI 5) (zI 1) = some (zH E (zMl σ1 (2, tS b L p)), zI 0) := by
          simp (disch := first | assumption | omega) only [f_X10_fileLine_J20, od, a1, g8, c1, g10, md15, nm, c2, j67, zz_some, zz_lit, zz_num, zI_lt, zI_le, zI_eq, zI_nat, zz_b, if_pos, if_neg, if_true, if_false]
        simp (disch := first | assumption | omega) only [f_X10_fileLine, md, al2, c0, j20, zz_some, zz_lit, zz_num, zI_lt, zI_le, zI_eq, zI_nat, zz_b, if_pos, if_neg, if_true, if_false]
    · have e : eNew b L q p n wd = (1, tS b L p) := by unfold eNew; rw [if_neg c0, if_neg c1]
      rw [e, zb_dneg (show ¬ ((1, tS b L p) : Int × Int).1 = 0 by simp)]
      have fl := e10_fails (σ := σ1) hW hm v11 (w := 1) a3.1
      refine ⟨zMl σ1 (1, tS b L p), ?_, (a2.g.tr zMl.g).d, zSx.no (by simp) (zMl.r (by simp))⟩
      simp (disch := first | assumption | omega) only [f_X10_fileLine, md, al2, c0, f_X10_fileLine_J20, od, a1, g8, c1, od1, fl, zz_some, zz_lit, zz_num, zI_lt, zI_le, zI_eq, zI_nat, zz_b, if_pos, if_neg, if_true, if_false]
theorem e10_closeLine (hW : zWF E) (hm : zU E 3 0 = true) (hT : zTm σ b L) (h5 : σ 3 0 0 5 = L) (h11 : σ 3 0 0 11 = 0) (hS : zSm σ n wd) {p q : Int} (h7 : σ 3 0 0 7 = p) (hp0 : 0 ≤ p) (hp : p ≤ L) : ∃ σ', f_X10_closeLine (zH E σ) (zL E 3 0 0) (zI (tS b L q)) = some (zH E σ', zI (zb (decide ((eClo b L q n).1 = 0)))) ∧ zMd σ σ' ∧ zSx σ σ' b L (eClo b L q n) p (nCl n) wd := by
  have hn := hS.2.1
  have od : g_ob (zH E σ) (zL E 3 0 0) 10 = some () := by simp only [zz_mdo (σ := σ) hW hm]
  obtain ⟨σ1, a1, a2, a3⟩ := e10_advance hW hm hT h5 h7 hp0 hp
  have hS1 := hS.g a2.g
  have v11 : σ1 3 0 0 11 = 0 := by rw [a2.2 11 (by omega)]; exact h11
  have od1 : g_ob (zH E σ1) (zL E 3 0 0) 10 = some () := by simp only [zz_mdo (σ := σ1) hW hm]
  have r := e10_whyClose (σ := σ1) hW hm hS1.1 hn
  have rg := nWc_rng n
  by_cases c1 : nWc n = 0
  · have e : eClo b L q n = (0, 0) := by unfold eClo; rw [if_pos c1]
    rw [e, zb_dpos (show ((0, 0) : Int × Int).1 = 0 from rfl)]
    have co := e10_closesOpen (σ := σ1) hW hm hn c1
    have hz : zw σ1 n = σ1 := zr_self hS1.1.symm
    rw [hz] at co
    have c1' : nWc n ≤ 0 := by omega
    refine ⟨zw σ1 (nCl n), ?_, a2.g.d.tr (zMd.c (Or.inl rfl)), ⟨fun _ => ?_, fun z => absurd rfl z⟩, fun _ => ⟨a3.r (by omega), zr_at, (nCl_W hn c1).2.1, fun k k0 k1 => ?_⟩⟩
    · simp (disch := first | assumption | omega) only [f_X10_closeLine, od, a1, od1, r, c1', co, zz_some, zz_lit, zz_num, zI_lt, zI_le, zI_eq, zI_nat, zz_b, if_pos, if_neg, if_true, if_false]
    · unfold zw
      rw [zr_ne (by omega)]
      exact a2.e
    · unfold zw
      rw [zr_ne (by omega)]
      rw [(nCl_W hn c1).2.2.2.2 2 (by omega) (by omega)] at k1
      exact hS1.2.2 k k0 k1
  · have e : eClo b L q n = (6, tS b L q) := by unfold eClo; rw [if_neg c1]
    rw [e, zb_dneg (show ¬ ((6, tS b L q) : Int × Int).1 = 0 by simp)]
    have fl : f_X10_failsAt (zH E σ1) (zL E 3 0 0) (zI 6) (zI (tS b L q)) = some (zH E (zMl σ1 (6, tS b L q)), zI 0) := e10_failsAt (σ := σ1) hW hm v11 (6, tS b L q)
    have c1' : ¬ nWc n ≤ 0 := by omega
    refine ⟨zMl σ1 (6, tS b L q), ?_, (a2.g.tr zMl.g).d, zSx.no (by simp) (zMl.r (by simp))⟩
    simp (disch := first | assumption | omega) only [f_X10_closeLine, od, a1, od1, r, c1', fl, zz_some, zz_lit, zz_num, zI_lt, zI_le, zI_eq, zI_nat, zz_b, if_pos, if_neg, if_true, if_false]
theorem e10_eraseLine (hW : zWF E) (hm : zU E 3 0 = true) (hT : zTm σ b L) (h5 : σ 3 0 0 5 = L) (h11 : σ 3 0 0 11 = 0) (hS : zSm σ n wd) {p q : Int} (h7 : σ 3 0 0 7 = p) (hp0 : 0 ≤ p) (hp : p ≤ L) (h2e : ∀ f, 0 ≤ f → f < n 2 → nWe n f = 0 → nErs n f 2 = n 2) : ∃ σ', f_X10_eraseLine (zH E σ) (zL E 3 0 0) (zI (tS b L q)) = some (zH E σ', zI (zb (decide ((eEra b L q p n wd).1 = 0)))) ∧ zMd σ σ' ∧ zSx σ σ' b L (eEra b L q p n wd) (tE b L p) (nErs n (fNm wd n (tW b L p))) wd := by
  have hn := hS.2.1
  have od : g_ob (zH E σ) (zL E 3 0 0) 10 = some () := by simp only [zz_mdo (σ := σ) hW hm]
  obtain ⟨σ1, a1, a2, a3⟩ := e10_advance hW hm hT h5 h7 hp0 hp
  have hS1 := hS.g a2.g
  have v11 : σ1 3 0 0 11 = 0 := by rw [a2.2 11 (by omega)]; exact h11
  have od1 : g_ob (zH E σ1) (zL E 3 0 0) 10 = some () := by simp only [zz_mdo (σ := σ1) hW hm]
  obtain ⟨σ2, d1, d2, d3, d4, d5⟩ := e10_takesFile hW hm (hT.f a2) (by rw [a2.2 5 (by omega)]; exact h5) v11 hS1 a3 hp0 hp
  have od2 : g_ob (zH E σ2) (zL E 3 0 0) 10 = some () := by simp only [zz_mdo (σ := σ2) hW hm]
  by_cases c1 : (eFil b L p n wd).1 = 0
  · obtain ⟨k1, k2⟩ := eFil_0 c1
    rw [zb_dpos c1] at d1
    have hN := hn.1.r
    have nr := fNm_rng (wd := wd) (w := tW b L p) hn k2
    obtain ⟨x1, x2⟩ := d5 c1
    obtain ⟨f, hf⟩ : ∃ x, x = fNm wd n (tW b L p) := ⟨_, rfl⟩
    rw [← hf] at nr x2
    have g16 := zg_md16 (σ := σ2) hW hm
    rw [x2] at g16
    obtain ⟨σ3, r1, r2⟩ := e10_whyErase (σ := σ2) hW hm d3.1 hn (x := f) nr.1 (by omega)
    have rg := nWe_rng n f
    have od3 : g_ob (zH E σ3) (zL E 3 0 0) 10 = some () := by simp only [zz_mdo (σ := σ3) hW hm]
    have g163 := zg_md16 (σ := σ3) hW hm
    rw [r2.2 16 (by omega) (by omega) (by omega) (by omega), x2] at g163
    have eE : eEra b L q p n wd = if nWe n f = 0 then (0, 0) else (6, tS b L q) := by rw [hf]; exact eTh_ok c1
    have v113 : σ3 3 0 0 11 = 0 := by
      rw [r2.2 11 (by omega) (by omega) (by omega) (by omega), (d4.1 c1).1]
      exact v11
    rw [← hf]
    have e31 : σ3 3 0 1 = n := (r2.1 3 0 1 (by omega)).trans d3.1
    by_cases c2 : nWe n f = 0
    · have e : eEra b L q p n wd = (0, 0) := by rw [eE, if_pos c2]
      rw [e, zb_dpos (show ((0, 0) : Int × Int).1 = 0 from rfl)]
      have hTm : nTm n = false := by
        have h9 := c2
        unfold nWe at h9
        revert h9
        repeat' split
        all_goals first
          | (intro h9; exact absurd h9 (by omega))
          | (intro _; simp_all)
      have en := e10_enters (σ := σ3) hW hm hn hTm (f := f) (v := -1) nr.1 nr.2
      have hz : zw σ3 n = σ3 := zr_self e31.symm
      rw [hz] at en
      have er : f_X10_erases (zH E σ3) (zL E 3 0 0) (zI f) = some (zH E (zw σ3 (nErs n f))) := by
        simp (disch := first | assumption | omega) only [f_X10_erases, od3, en, zz_some, zz_lit, zz_num, zI_lt, zI_le, zI_eq, zI_nat, zz_b, if_pos, if_neg, if_true, if_false]
        rfl
      have c2' : nWe n f ≤ 0 := by omega
      refine ⟨zw σ3 (nErs n f), ?_, ((a2.g.d.tr d2).tr r2.d).tr (zMd.c (Or.inl rfl)), ⟨fun _ => ?_, fun z => absurd rfl z⟩, fun _ => ⟨(x1.cg fun i i0 i1 => r2.2 i (by omega) (by omega) (by omega) (by omega)).r (by omega), zr_at, nErs_W hn nr.1 nr.2 c2, fun k k0 k1 => ?_⟩⟩
      · simp (disch := first | assumption | omega) only [f_X10_eraseLine, od, a1, od1, d1, g16, od2, r1, c2', g163, od3, er, zz_some, zz_lit, zz_num, zI_lt, zI_le, zI_eq, zI_nat, zz_b, if_pos, if_neg, if_true, if_false]
      · unfold zw
        rw [zr_ne (by omega), r2.2 11 (by omega) (by omega) (by omega) (by omega), r2.2 12 (by omega) (by omega) (by omega) (by omega)]
        have z1 := d4.1 c1
        exact ⟨z1.1.trans a2.e.1, z1.2.trans a2.e.2⟩
      · unfold zw
        rw [zr_ne (by omega), r2.1 3 0 15 (by omega)]
        rw [h2e f nr.1 nr.2 c2] at k1
        exact d3.2.2 k k0 k1
    · have e : eEra b L q p n wd = (6, tS b L q) := by rw [eE, if_neg c2]
      rw [e, zb_dneg (show ¬ ((6, tS b L q) : Int × Int).1 = 0 by simp)]
      have fl : f_X10_failsAt (zH E σ3) (zL E 3 0 0) (zI 6) (zI (tS b L q)) = some (zH E (zMl σ3 (6, tS b L q)), zI 0) := e10_failsAt (σ := σ3) hW hm v113 (6, tS b L q)
      have c2' : ¬ nWe n f ≤ 0 := by omega
      refine ⟨zMl σ3 (6, tS b L q), ?_, ((a2.g.d.tr d2).tr r2.d).tr zMl.g.d, zSx.no (by simp) (zMl.r (by simp))⟩
      simp (disch := first | assumption | omega) only [f_X10_eraseLine, od, a1, od1, d1, g16, od2, r1, c2', od3, fl, zz_some, zz_lit, zz_num, zI_lt, zI_le, zI_eq, zI_nat, zz_b, if_pos, if_neg, if_true, if_false]
  · rw [zb_dneg c1] at d1
    have e : eEra b L q p n wd = eFil b L p n wd := eTh_no c1
    rw [e, zb_dneg c1]
    refine ⟨σ2, ?_, a2.g.d.tr d2, zSx.no c1 (zMr.tr a2.e d4)⟩
    simp (disch := first | assumption | omega) only [f_X10_eraseLine, od, a1, od1, d1, zz_some, zz_lit, zz_num, zI_lt, zI_le, zI_eq, zI_nat, zz_b, if_pos, if_neg, if_true, if_false]
theorem e10_writeLine (hW : zWF E) (hm : zU E 3 0 = true) (hT : zTm σ b L) (h5 : σ 3 0 0 5 = L) (h11 : σ 3 0 0 11 = 0) (hS : zSm σ n wd) {p q : Int} (h7 : σ 3 0 0 7 = p) (hp0 : 0 ≤ p) (hp : p ≤ L) (h2e : ∀ f m t, 0 ≤ f → f < n 2 → 1 ≤ m → m ≤ 8 → 0 ≤ t → t ≤ 999 → nWw n f m = 0 → nWrs n f m t 2 = n 2) : ∃ σ', f_X10_writeLine (zH E σ) (zL E 3 0 0) (zI (tS b L q)) = some (zH E σ', zI (zb (decide ((eWri b L q p n wd).1 = 0)))) ∧ zMd σ σ' ∧ zSx σ σ' b L (eWri b L q p n wd) (tE b L (tE b L (tE b L p))) (nWrs n (fNm wd n (tW b L p)) (tV b L (tE b L p)) (tV b L (tE b L (tE b L p)))) wd := by
  have hn := hS.2.1
  have hs := tS_rng (b := b) hp
  have hp1 := tE_rng (b := b) hp
  have od : g_ob (zH E σ) (zL E 3 0 0) 10 = some () := by simp only [zz_mdo (σ := σ) hW hm]
  obtain ⟨σ1, a1, a2, a3⟩ := e10_advance hW hm hT h5 h7 hp0 hp
  have hS1 := hS.g a2.g
  have v11 : σ1 3 0 0 11 = 0 := by rw [a2.2 11 (by omega)]; exact h11
  have od1 : g_ob (zH E σ1) (zL E 3 0 0) 10 = some () := by simp only [zz_mdo (σ := σ1) hW hm]
  have hT1 := hT.f a2
  have v5 : σ1 3 0 0 5 = L := by rw [a2.2 5 (by omega)]; exact h5
  obtain ⟨σ2, d1, d2, d3, d4, d5⟩ := e10_takesFile hW hm hT1 v5 v11 hS1 a3 hp0 hp
  have od2 : g_ob (zH E σ2) (zL E 3 0 0) 10 = some () := by simp only [zz_mdo (σ := σ2) hW hm]
  by_cases c1 : (eFil b L p n wd).1 = 0
  · obtain ⟨k1, k2⟩ := eFil_0 c1
    rw [zb_dpos c1] at d1
    have hN := hn.1.r
    have nr := fNm_rng (wd := wd) (w := tW b L p) hn k2
    obtain ⟨x1, x2⟩ := d5 c1
    unfold eWri
    rw [eTh_ok c1]
    obtain ⟨f, hf⟩ : ∃ x, x = fNm wd n (tW b L p) := ⟨_, rfl⟩
    obtain ⟨p1, hp1e⟩ : ∃ x, x = tE b L p := ⟨_, rfl⟩
    rw [← hp1e, ← hf]
    rw [← hf] at nr x2
    rw [← hp1e] at x1 hp1
    have hp2 := tE_rng (b := b) hp1.2.1
    have hp2s := tS_rng (b := b) hp1.2.1
    have z1 := d4.1 c1
    obtain ⟨σ3, y1, y2, y3, y4⟩ := e10_takes (σ := σ2) (lo := 1) (hi := 8) hW hm (hT1.d d2) (by rw [d2.2 5 (by omega)]; exact v5) (by rw [z1.1]; exact v11) x1 (by omega) hp1.2.1 (by omega) (by omega) (by omega) (by omega)
    have hS3 := d3.g y2
    have od3 : g_ob (zH E σ3) (zL E 3 0 0) 10 = some () := by simp only [zz_mdo (σ := σ3) hW hm]
    by_cases c2 : (eNum b L p1 1 8).1 = 0
    · obtain ⟨m1, m2, m3⟩ := eNum_0 c2
      rw [zb_dpos c2] at y1
      rw [eTh_ok c2]
      obtain ⟨w1, w2⟩ := y4 c2
      have g13 := zg_md13 (σ := σ3) hW hm
      rw [w2] at g13
      obtain ⟨p2, hp2e⟩ : ∃ x, x = tE b L p1 := ⟨_, rfl⟩
      rw [← hp2e]
      rw [← hp2e] at w1 hp2
      have z2 := y3.1 c2
      obtain ⟨σ4, u1, u2, u3, u4⟩ := e10_takes (σ := σ3) (lo := 0) (hi := 999) hW hm ((hT1.d d2).d y2.d) (by rw [y2.2 5 (by omega), d2.2 5 (by omega)]; exact v5) (by rw [z2.1, z1.1]; exact v11) w1 (by omega) hp2.2.1 (by omega) (by omega) (by omega) (by omega)
      have hS4 := hS3.g u2
      have od4 : g_ob (zH E σ4) (zL E 3 0 0) 10 = some () := by simp only [zz_mdo (σ := σ4) hW hm]
      by_cases c3 : (eNum b L p2 0 999).1 = 0
      · obtain ⟨t1, t2, t3⟩ := eNum_0 c3
        rw [zb_dpos c3] at u1
        rw [eTh_ok c3]
        obtain ⟨s1, s2⟩ := u4 c3
        have z3 := u3.1 c3
        have g134 := zg_md13 (σ := σ4) hW hm
        rw [s2] at g134
        have g16 := zg_md16 (σ := σ4) hW hm
        rw [u2.2 16 (by omega), y2.2 16 (by omega), x2] at g16
        have rg := nWw_rng n f (tV b L p1)
        have r := e10_whyWrite (σ := σ4) hW hm hS4.1 hn (x := f) (m := tV b L p1) (by omega) (by omega) (by omega) (by omega)
        by_cases c4 : nWw n f (tV b L p1) = 0
        · rw [if_pos c4, zb_dpos (show ((0, 0) : Int × Int).1 = 0 from rfl)]
          have wr := e10_writes (σ := σ4) hW hm hn (f := f) (m := tV b L p1) (tag := tV b L p2) nr.1 nr.2 m2 m3 t2 t3 c4
          have hz : zw σ4 n = σ4 := zr_self hS4.1.symm
          rw [hz] at wr
          have c4' : nWw n f (tV b L p1) ≤ 0 := by omega
          refine ⟨zw σ4 (nWrs n f (tV b L p1) (tV b L p2)), ?_, ((a2.g.d.tr d2).tr (y2.tr u2).d).tr (zMd.c (Or.inl rfl)), ⟨fun _ => ?_, fun z => absurd rfl z⟩, fun _ => ⟨s1.r (by omega), zr_at, (nWrs_W hn nr.1 nr.2 m2 m3 t2 t3 c4).2.2.2.2, fun k k0 k1 => ?_⟩⟩
          · simp (disch := first | assumption | omega) only [f_X10_writeLine, od, a1, od1, d1, od2, y1, g13, od3, u1, g16, od4, r, c4', g134, wr, zz_some, zz_lit, zz_num, zI_lt, zI_le, zI_eq, zI_nat, zz_b, if_pos, if_neg, if_true, if_false]
          · unfold zw
            rw [zr_ne (by omega)]
            exact ⟨z3.1.trans (z2.1.trans (z1.1.trans a2.e.1)), z3.2.trans (z2.2.trans (z1.2.trans a2.e.2))⟩
          · unfold zw
            rw [zr_ne (by omega)]
            rw [h2e f _ _ nr.1 nr.2 m2 m3 t2 t3 c4] at k1
            exact hS4.2.2 k k0 k1
        · rw [if_neg c4, zb_dneg (show ¬ ((6, tS b L q) : Int × Int).1 = 0 by simp)]
          have fl : f_X10_failsAt (zH E σ4) (zL E 3 0 0) (zI 6) (zI (tS b L q)) = some (zH E (zMl σ4 (6, tS b L q)), zI 0) := e10_failsAt (σ := σ4) hW hm (by rw [z3.1, z2.1, z1.1]; exact v11) (6, tS b L q)
          have c4' : ¬ nWw n f (tV b L p1) ≤ 0 := by omega
          refine ⟨zMl σ4 (6, tS b L q), ?_, ((a2.g.d.tr d2).tr (y2.tr u2).d).tr zMl.g.d, zSx.no (by simp) (zMl.r (by simp))⟩
          simp (disch := first | assumption | omega) only [f_X10_writeLine, od, a1, od1, d1, od2, y1, g13, od3, u1, g16, od4, r, c4', fl, zz_some, zz_lit, zz_num, zI_lt, zI_le, zI_eq, zI_nat, zz_b, if_pos, if_neg, if_true, if_false]
      · rw [zb_dneg c3] at u1
        rw [eTh_no c3, zb_dneg c3]
        refine ⟨σ4, ?_, (a2.g.d.tr d2).tr (y2.tr u2).d, zSx.no c3 (zMr.tr ⟨z2.1.trans (z1.1.trans a2.e.1), z2.2.trans (z1.2.trans a2.e.2)⟩ u3)⟩
        simp (disch := first | assumption | omega) only [f_X10_writeLine, od, a1, od1, d1, od2, y1, g13, od3, u1, zz_some, zz_lit, zz_num, zI_lt, zI_le, zI_eq, zI_nat, zz_b, if_pos, if_neg, if_true, if_false]
    · rw [zb_dneg c2] at y1
      rw [eTh_no c2, zb_dneg c2]
      refine ⟨σ3, ?_, (a2.g.d.tr d2).tr y2.d, zSx.no c2 (zMr.tr ⟨z1.1.trans a2.e.1, z1.2.trans a2.e.2⟩ y3)⟩
      simp (disch := first | assumption | omega) only [f_X10_writeLine, od, a1, od1, d1, od2, y1, zz_some, zz_lit, zz_num, zI_lt, zI_le, zI_eq, zI_nat, zz_b, if_pos, if_neg, if_true, if_false]
  · rw [zb_dneg c1] at d1
    have e : eWri b L q p n wd = eFil b L p n wd := eTh_no c1
    rw [e, zb_dneg c1]
    refine ⟨σ2, ?_, a2.g.d.tr d2, zSx.no c1 (zMr.tr a2.e d4)⟩
    simp (disch := first | assumption | omega) only [f_X10_writeLine, od, a1, od1, d1, zz_some, zz_lit, zz_num, zI_lt, zI_le, zI_eq, zI_nat, zz_b, if_pos, if_neg, if_true, if_false]
end zPar

/-! The class's text: read, and done on the draft. -/
section zRun
variable {E : zE} {σ : zW} {b : Int → Int} {L : Int} {t : Nat}
theorem e4_read (hW : zWF E) (hm : zU E 2 0 = true) (hT : zTc σ b L) (hL : 0 ≤ L) : ∃ (σ' : zW) (e : Int × Int) (n1 : zN) (wd : Int → List Int) (S : List zS5), f_X4_read (zH E σ) (zL E 2 0 3) (zL E 2 0 1) (zI L) = some (zH E σ') ∧ (∀ k d c, ¬ (k = 2 ∧ d = 0 ∧ (c = 3 ∨ (9 ≤ c ∧ c ≤ 19))) → σ' k d c = σ k d c) ∧ (σ' 2 0 3 0 = e.1 ∧ σ' 2 0 3 1 = (if e.1 = 0 then -1 else e.2)) ∧ zNs σ' n1 wd ∧ zSl σ' S ∧ S.length ≤ 120 ∧ (8 ≤ σ' 2 0 3 2 ∧ σ' 2 0 3 2 ≤ 96 ∧ 0 ≤ σ' 2 0 3 3 ∧ σ' 2 0 3 3 ≤ 16 ∧ 2 * σ' 2 0 3 3 ≤ σ' 2 0 3 2) ∧ (∀ s ∈ S, sOk (n1 2) s) ∧ ((eHead b L).1 ≠ 0 → e = eHead b L ∧ S = []) ∧ ((eHead b L).1 = 0 → σ' 2 0 3 2 = hB b L ∧ σ' 2 0 3 3 = hS b L ∧ e = (p1All b L 600 (hP b L) (nFm (hB b L) (hS b L)) (fun _ => [])).1 ∧ n1 = (p1All b L 600 (hP b L) (nFm (hB b L) (hS b L)) (fun _ => [])).2.1 ∧ wd = (p1All b L 600 (hP b L) (nFm (hB b L) (hS b L)) (fun _ => [])).2.2.1 ∧ S = (p1All b L 600 (hP b L) (nFm (hB b L) (hS b L)) (fun _ => [])).2.2.2) := by
  have hL6 := hT.1
  have p0 := zp_tx0 (σ := σ) hW hm 0
  obtain ⟨σ0, e0⟩ : ∃ y, y = zs σ 2 0 3 0 0 := ⟨_, rfl⟩
  rw [← e0] at p0
  have p1 := zp_tx1 (σ := σ0) hW hm (-1)
  obtain ⟨σ1, e1⟩ : ∃ y, y = zs σ0 2 0 3 1 (-1) := ⟨_, rfl⟩
  rw [← e1] at p1
  have p2 := zp_tx2 (σ := σ1) hW hm 8
  obtain ⟨σ2, e2⟩ : ∃ y, y = zs σ1 2 0 3 2 8 := ⟨_, rfl⟩
  rw [← e2] at p2
  have p3 := zp_tx3 (σ := σ2) hW hm 0
  obtain ⟨σ3, e3⟩ : ∃ y, y = zs σ2 2 0 3 3 0 := ⟨_, rfl⟩
  rw [← e3] at p3
  have p4 := zp_tx4 (σ := σ3) hW hm 0
  obtain ⟨σ4, e4⟩ : ∃ y, y = zs σ3 2 0 3 4 0 := ⟨_, rfl⟩
  rw [← e4] at p4
  have p6 := zp_tx6 (σ := σ4) hW hm 0
  obtain ⟨σ6, e6⟩ : ∃ y, y = zs σ4 2 0 3 6 0 := ⟨_, rfl⟩
  rw [← e6] at p6
  have r0 : σ6 2 0 3 0 = 0 := by rw [e6, zs_at, if_neg (by omega), e4, zs_at, if_neg (by omega), e3, zs_at, if_neg (by omega), e2, zs_at, if_neg (by omega), e1, zs_at, if_neg (by omega), e0, zs_at, if_pos rfl]
  have r1 : σ6 2 0 3 1 = -1 := by rw [e6, zs_at, if_neg (by omega), e4, zs_at, if_neg (by omega), e3, zs_at, if_neg (by omega), e2, zs_at, if_neg (by omega), e1, zs_at, if_pos rfl]
  have r2 : σ6 2 0 3 2 = 8 := by rw [e6, zs_at, if_neg (by omega), e4, zs_at, if_neg (by omega), e3, zs_at, if_neg (by omega), e2, zs_at, if_pos rfl]
  have r3 : σ6 2 0 3 3 = 0 := by rw [e6, zs_at, if_neg (by omega), e4, zs_at, if_neg (by omega), e3, zs_at, if_pos rfl]
  have r4 : σ6 2 0 3 4 = 0 := by rw [e6, zs_at, if_neg (by omega), e4, zs_at, if_pos rfl]
  have r6 : σ6 2 0 3 6 = 0 := by rw [e6, zs_at, if_pos rfl]
  have f6 : ∀ k d c, ¬ (k = 2 ∧ d = 0 ∧ c = 3) → σ6 k d c = σ k d c := fun k d c z => by rw [e6, zs_ne z, e4, zs_ne z, e3, zs_ne z, e2, zs_ne z, e1, zs_ne z, e0, zs_ne z]
  have g12 := zg_tx12 (σ := σ6) hW hm
  have fi := zX_fill_ (σ := σ6) (n := 96) hW hm (k := 2) (d := 0) (c := 15) rfl (by decide) (v := 0) (Or.inl rfl)
  obtain ⟨σ7, e7⟩ : ∃ y, y = zr σ6 2 0 15 (fun j => if 0 ≤ j ∧ j < ((96 : Nat) : Int) then 0 else σ6 2 0 15 j) := ⟨_, rfl⟩
  rw [← e7] at fi
  have f7 : ∀ k d c, ¬ (k = 2 ∧ d = 0 ∧ c = 15) → σ7 k d c = σ6 k d c := fun k d c z => by rw [e7, zr_ne z]
  have b7 : ∀ c, 0 ≤ c → c < 96 → σ7 2 0 15 c = 0 := fun c c0 c1 => by rw [e7, zr_at]; exact if_pos ⟨c0, by omega⟩
  have g13 := zg_tx13 (σ := σ7) hW hm
  have hto := (zz_tko (σ := σ7) hW hm).2.2.2
  obtain ⟨σ8, C, a1, a2, a3, a4⟩ := e11_read (σ := σ7) (b := b) hW hm hL (hT.cg (by rw [f7 2 0 2 (by omega), f6 2 0 2 (by omega)]))
  have p14 := zp_tx14 (σ := σ8) hW hm 0
  obtain ⟨σ9, e9⟩ : ∃ y, y = zs σ8 2 0 3 14 0 := ⟨_, rfl⟩
  rw [← e9] at p14
  have htx := (zz_txo (σ := σ9) hW hm).2.2.2.2.2.2.2.2
  have f9 : ∀ c : Nat, c ≠ 3 → σ9 2 0 c = σ8 2 0 c := fun c hc => by rw [e9, zs_ne (by omega)]
  have hz : zTz σ9 b L C := ⟨⟨hL, hL6⟩, a3.cg (fun c y z => f9 c (by omega)), a4⟩
  have r9 : ∀ i, i ≠ 14 → σ9 2 0 3 i = σ6 2 0 3 i := fun i hi => by rw [e9, zs_at, if_neg hi, a2 2 0 3 (by omega), f7 2 0 3 (by omega)]
  obtain ⟨σa, T', d1, d2, d3, d4, d5, d6, d7, d8⟩ := e4_readHead hW hm hz (by rw [e9, zs_at, if_pos rfl]) (by rw [r9 2 (by omega)]; exact r2) (by rw [r9 3 (by omega)]; exact r3)
  have hPa : zP1 σa b L C T' (nFm (σa 2 0 3 2) (σa 2 0 3 3)) (fun _ => []) [] := by
    refine ⟨hz.cg (fun c y z => d2.1 2 0 c (by omega)), d4, ⟨by unfold nFm; rw [if_pos rfl], by unfold nFm; rw [if_pos rfl]; omega, fun c c0 c1 => ?_⟩, ⟨?_, by unfold nFm; rw [if_neg (by omega), if_neg (by omega)]; omega, fun k k0 k1 => ?_⟩, ?_, fun i s hs => by simp at hs⟩
    · have hn : nFm (σa 2 0 3 2) (σa 2 0 3 3) (103 + c) = 0 := by unfold nFm; rw [if_neg (by omega), if_neg (by omega)]
      rw [hn, d2.1 2 0 15 (by omega), f9 15 (by omega), a2 2 0 15 (by omega), b7 c c0 c1]
      exact ⟨rfl, Or.inl rfl⟩
    · rw [d2.2 4 (by omega) (by omega) (by omega) (by omega), r9 4 (by omega), r4]
      unfold nFm
      rw [if_neg (by omega), if_neg (by omega)]
    · unfold nFm at k1
      rw [if_neg (by omega), if_neg (by omega)] at k1
      omega
    · rw [d2.2 6 (by omega) (by omega) (by omega) (by omega), r9 6 (by omega), r6]
      rfl
  have h09 : σ9 2 0 3 0 = 0 := by rw [r9 0 (by omega)]; exact r0
  have h1a : σa 2 0 3 1 = -1 := by rw [d2.2 1 (by omega) (by omega) (by omega) (by omega), r9 1 (by omega)]; exact r1
  have hfr : ∀ σ' : zW, (∀ k d c, ¬ (k = 2 ∧ d = 0 ∧ (c = 3 ∨ (9 ≤ c ∧ c ≤ 15))) → σ' k d c = σa k d c) → ∀ k d c, ¬ (k = 2 ∧ d = 0 ∧ (c = 3 ∨ (9 ≤ c ∧ c ≤ 19))) → σ' k d c = σ k d c := fun σ' h k d c z => by
    rw [h k d c (by omega), d2.1 k d c (by omega), e9, zs_ne (by omega), a2 k d c (by omega), f7 k d c (by omega), f6 k d c (by omega)]
  have hfin : ∀ (fl : Int) (σ' : zW), f_X4_readHead (zH E σ9) (zL E 2 0 3) = some (zH E σa, zI fl) → f_X4_read_L58 g_N (zH E σa) (zL E 2 0 3) (zI fl) = some (zH E σ') → f_X4_read (zH E σ) (zL E 2 0 3) (zL E 2 0 1) (zI L) = some (zH E σ') := by
    intro fl σ' h1 h2
    simp (disch := first | assumption | omega) only [f_X4_read, p0, p1, p2, p3, p4, p6, g12, fi, g13, hto, a1, p14, htx, h1, h2, zz_some, zz_lit, zz_num, zI_lt, zI_le, zI_eq, zI_nat, zz_b, if_pos, if_neg, if_true, if_false]
  by_cases c1 : (eHead b L).1 = 0
  · obtain ⟨t1, t2, t3⟩ := d7 c1
    subst t1
    rw [zb_dpos c1] at d1
    rw [t2, t3] at hPa
    obtain ⟨σb, q1, ⟨q2, q2'⟩, ⟨q3, q4⟩, q5, q6, q7⟩ := e4_L58 hW hm 600 g_N σa 3 (nFm (hB b L) (hS b L)) (fun _ => []) [] hPa (by have := hPa.1.C; omega) (by unfold g_N; omega) (by omega) (by have := (tp_rng (b := b) hL (3 + 1)).1; simpa using this)
    have hP4 : tp b L (3 + 1) = hP b L := rfl
    rw [hP4] at q3 q4 q5 q6 q7
    rw [List.nil_append] at q6 q7
    have n0 : nFm (hB b L) (hS b L) 0 = hB b L := by unfold nFm; rw [if_pos rfl]
    have n2 : nFm (hB b L) (hS b L) 2 = 0 := by unfold nFm; rw [if_neg (by omega), if_neg (by omega)]
    have hok := p1_ok (b := b) (L := L) 600 (hP b L) (nFm (hB b L) (hS b L)) (fun _ => []) (by rw [n0]; omega) (by rw [n2]; omega)
    refine ⟨σb, _, _, _, _, hfin 1 σb d1 q1, hfr σb q2, ⟨?_, ?_⟩, q5, q6, q7, by rw [q2' 2 (by omega) (by omega), q2' 3 (by omega) (by omega)]; exact d8, hok.2.2, fun z => absurd c1 z, fun _ => ⟨by rw [q2' 2 (by omega) (by omega)]; exact t2, by rw [q2' 3 (by omega) (by omega)]; exact t3, rfl, rfl, rfl, rfl⟩⟩
    · rw [q3, (d3.1 c1).trans h09]
      split
      · rename_i h; exact h.symm
      · rfl
    · rw [q4, h1a]
  · rw [zb_dneg c1] at d1
    obtain ⟨f, hf⟩ : ∃ f, g_N = f + 1 := ⟨4095, rfl⟩
    obtain ⟨σb, q1, ⟨q2, q2'⟩, ⟨q3, q4⟩, q5, q6, q7⟩ := e4_L58_0 (f := f) hW hm hPa (by omega) c1 (d3.2 c1) (d6 c1) (by simp)
    rw [← hf] at q1
    rw [if_neg c1] at q3 q4
    refine ⟨σb, _, _, _, _, hfin 0 σb d1 q1, hfr σb q2, ⟨q3, ?_⟩, q5, q6, q7, by rw [q2' 2 (by omega) (by omega), q2' 3 (by omega) (by omega)]; exact d8, fun s hs => by simp at hs, fun _ => ⟨rfl, rfl⟩, fun z => absurd z c1⟩
    rw [q4, if_neg c1]
theorem zX_copyD_L (hW : zWF E) (hm : zU E 2 0 = true) (hu : zU E 0 t = true) (r : Int → Int) : ∀ (m fuel : Nat) (i : Int) (σ : zW), σ 2 0 9 = r → 0 ≤ i → i + m = 10 → m < fuel → f_X9_copy___L2 fuel (zH E σ) (zL E 2 0 9) (zL E 0 t 23) (zI i) = some (zH E (zr σ 0 t 23 (fun j => if i ≤ j ∧ j < 10 then r j else σ 0 t 23 j))) := by
  intro m
  induction m with
  | zero =>
    intro fuel i σ hs h0 h1 h2
    obtain ⟨fuel, rfl⟩ : ∃ f, fuel = f + 1 := ⟨fuel - 1, by omega⟩
    have l1 := zLen (σ := σ) hW hm (c := 9) (t := 3) (n := 10) rfl
    rw [f_X9_copy___L2, l1, zz_some, if_pos (show zI ((10 : Nat) : Int) ≤ zI i by rw [zI_le (by omega) (by omega) (by omega) (by omega)]; omega), zr_self]
    funext j
    rw [if_neg (by omega)]
  | succ m ih =>
    intro fuel i σ hs h0 h1 h2
    obtain ⟨fuel, rfl⟩ : ∃ f, fuel = f + 1 := ⟨fuel - 1, by omega⟩
    have l1 := zLen (σ := σ) hW hm (c := 9) (t := 3) (n := 10) rfl
    have l2 := zLen (σ := σ) hW hu (c := 23) (t := 3) (n := 10) rfl
    have a1 := zLald (σ := σ) (n := 10) hW hm (k := 2) (d := 0) (c := 9) rfl (by decide) h0 (by omega)
    have a2 := zLast (σ := σ) (n := 10) hW hu (k := 0) (d := t) (c := 23) (v := σ 2 0 9 i) rfl (by decide) h0 (by omega)
    rw [f_X9_copy___L2, l1, zz_some, if_neg (show ¬ zI ((10 : Nat) : Int) ≤ zI i by rw [zI_le (by omega) (by omega) (by omega) (by omega)]; omega), l2, zz_some, if_neg (show ¬ zI ((10 : Nat) : Int) ≤ zI i by rw [zI_le (by omega) (by omega) (by omega) (by omega)]; omega), a1, zz_some, a2, zz_some, show (1 : Int32) = zI 1 from rfl, zI_add, ih _ _ _ (by rw [zs_ne (by omega)]; exact hs) (by omega) (by omega) (by omega), zr_zs]
    congr 3
    funext j
    rw [zs_at, hs]
    by_cases hj : j = i
    · subst hj
      rw [if_neg (by omega), if_pos rfl, if_pos (by omega)]
    · by_cases hj2 : i ≤ j ∧ j < 10
      · rw [if_pos (by omega), if_pos hj2]
      · rw [if_neg (by omega), if_neg hj, if_neg hj2]
theorem e1_begin (hW : zWF E) (hm : zU E 2 0 = true) (hu : zU E 0 t = true) {B s F : Int} (h2 : σ 2 0 3 2 = B) (h3 : σ 2 0 3 3 = s) (h4 : σ 2 0 3 4 = F) (hb0 : 8 ≤ B) (hb1 : B ≤ 96) (hs0 : 0 ≤ s) (hs1 : s ≤ 16) (hs2 : 2 * s ≤ B) : ∃ σ', f_X1_begin (zH E σ) (zL E 0 t 0) (zL E 2 0 3) = some (zH E σ') ∧ (∀ k' d' c', ¬ (k' = 0 ∧ d' = t) → σ' k' d' c' = σ k' d' c') ∧ zRd (σ' 0 t) (zu (nFm B s) 2 F) ∧ ∀ k, 0 ≤ k → k < 10 → σ' 0 t 23 k = σ 2 0 9 k := by
  have g2 := zg_tx2 (σ := σ) hW hm
  rw [h2] at g2
  have g3 := zg_tx3 (σ := σ) hW hm
  rw [h3] at g3
  have od : g_ob (zH E σ) (zL E 0 t 0) 1 = some () := by simp only [zz_dco (σ := σ) hW hu]
  obtain ⟨σ1, w1, w2, w3, w4⟩ := e1_format (σ := σ) hW hu hb0 hb1 hs0 hs1 hs2
  have g4 := zg_tx4 (σ := σ1) hW hm
  rw [w2 2 0 3 (by omega), h4] at g4
  have p3 := zp_dc3 (σ := σ1) hW hu F
  obtain ⟨σ2, e2⟩ : ∃ y, y = zs σ1 0 t 0 3 F := ⟨_, rfl⟩
  rw [← e2] at p3
  have g5 := zg_tx5 (σ := σ2) hW hm
  have g4' := zg_dc4 (σ := σ2) hW hu
  have hcp : f_X9_copy__ (zH E σ2) (zL E 2 0 9) (zL E 0 t 23) = some (zH E (zr σ2 0 t 23 (fun j => if 0 ≤ j ∧ j < 10 then σ2 2 0 9 j else σ2 0 t 23 j))) := by
    unfold f_X9_copy__
    exact zX_copyD_L hW hm hu (σ2 2 0 9) 10 g_N 0 σ2 rfl (by omega) (by omega) (by unfold g_N; omega)
  obtain ⟨σ3, e3⟩ : ∃ y, y = zr σ2 0 t 23 (fun j => if 0 ≤ j ∧ j < 10 then σ2 2 0 9 j else σ2 0 t 23 j) := ⟨_, rfl⟩
  rw [← e3] at hcp
  refine ⟨σ3, ?_, fun k' d' c' z => by rw [e3, zr_ne (by omega), e2, zs_ne (by omega), w2 k' d' c' z], ?_, fun k k0 k1 => ?_⟩
  · simp (disch := first | assumption | omega) only [f_X1_begin, g2, g3, od, w1, g4, p3, g5, g4', hcp, zz_some, zz_lit, zz_num, zI_lt, zI_le, zI_eq, zI_nat, zz_b, if_pos, if_neg, if_true, if_false]
  · refine zRd_2 w4 (fun c c0 c3 => by rw [e3, zr_ne (by omega), e2, zs_ne (by omega)]) (by rw [e3, zr_ne (by omega), e2, zs_at, if_pos rfl]) (by rw [e3, zr_ne (by omega), e2, zs_at, if_neg (by omega)])
  · rw [e3, zr_at]
    show (if 0 ≤ k ∧ k < 10 then σ2 2 0 9 k else σ2 0 t 23 k) = σ 2 0 9 k
    rw [if_pos ⟨k0, k1⟩, e2, zs_ne (by omega), w2 2 0 9 (by omega)]
theorem e4_at (hW : zWF E) (hm : zU E 2 0 = true) {i : Nat} {s : zS5} (hi : i < 120) (hs : zSr σ i s) : f_X4_kindOf (zH E σ) (zL E 2 0 3) (zI (i : Int)) = some (zI s.1) ∧ f_X4_targetOf (zH E σ) (zL E 2 0 3) (zI (i : Int)) = some (zI s.2.2.1) ∧ (s.1 = 1 → f_X4_lengthOf (zH E σ) (zL E 2 0 3) (zI (i : Int)) = some (zI s.2.2.2.1) ∧ f_X4_tagOf (zH E σ) (zL E 2 0 3) (zI (i : Int)) = some (zI s.2.2.2.2)) := by
  have g7 := zg_tx7 (σ := σ) hW hm
  have g9 := zg_tx9 (σ := σ) hW hm
  have g10 := zg_tx10 (σ := σ) hW hm
  have g11 := zg_tx11 (σ := σ) hW hm
  have x := fun (c : Nat) (o : Int) (hc : zA 2 c = some (0, 120)) => zX_at (σ := σ) (n := 120) hW hm (k := 2) (d := 0) (c := c) hc (by decide) (i := (i : Int)) (o := o) (by omega) (by omega)
  have x10 := x 10 (-1) rfl
  have x12 := x 12 (-1) rfl
  have x13 := x 13 0 rfl
  have x14 := x 14 0 rfl
  rw [if_pos (by omega)] at x10 x12 x13 x14
  rw [hs.1] at x10
  rw [hs.2.2.1] at x12
  refine ⟨?_, ?_, fun h => ⟨?_, ?_⟩⟩
  · simp (disch := first | assumption | omega) only [f_X4_kindOf, g7, x10, zz_some, zz_lit, zz_num, zI_lt, zI_le, zI_eq, zI_nat, zz_b, if_pos, if_neg, if_true, if_false]
  · simp (disch := first | assumption | omega) only [f_X4_targetOf, g9, x12, zz_some, zz_lit, zz_num, zI_lt, zI_le, zI_eq, zI_nat, zz_b, if_pos, if_neg, if_true, if_false]
  · rw [(hs.2.2.2 h).1] at x13
    simp (disch := first | assumption | omega) only [f_X4_lengthOf, g10, x13, zz_some, zz_lit, zz_num, zI_lt, zI_le, zI_eq, zI_nat, zz_b, if_pos, if_neg, if_true, if_false]
  · rw [(hs.2.2.2 h).2] at x14
    simp (disch := first | assumption | omega) only [f_X4_tagOf, g11, x14, zz_some, zz_lit, zz_num, zI_lt, zI_le, zI_eq, zI_nat, zz_b, if_pos, if_neg, if_true, if_false]
variable {n : zN}
theorem e1_why (hW : zWF E) (hm : zU E 2 0 = true) (hu : zU E 0 t = true) (hv : zU E 1 t = true) (hR : zRd (σ 0 t) n) (hn : nW n) {i : Nat} {s : zS5} (hi : i < 120) (hs : zSr σ i s) (ok : sOk (n 2) s) : ∃ σ', f_X1_reasonAgainstStatement (zH E σ) (zL E 0 t 0) (zL E 2 0 3) (zI (i : Int)) = some (zH E σ', zI (sWhy n s)) ∧ zFr σ σ' 1 t := by
  have hN := hn.1.r
  have htx := (zz_txo (σ := σ) hW hm).2.2.2.2.2.2.2.2
  have od : g_ob (zH E σ) (zL E 0 t 0) 1 = some () := by simp only [zz_dco (σ := σ) hW hu]
  obtain ⟨k1, k2, k3⟩ := e4_at hW hm hi hs
  obtain ⟨o1, o2, o3, o4⟩ := ok
  unfold sWhy
  by_cases c1 : s.1 = 1
  · obtain ⟨⟨y0, y1⟩, ⟨y2, y3⟩, ⟨y4, y5⟩⟩ := o3 c1
    obtain ⟨l1, l2⟩ := k3 c1
    rw [if_pos c1]
    rw [c1] at k1
    have hw := e1_reasonAgainstWrite hW hu hR hn (x := s.2.2.1) (m := s.2.2.2.1) y0 (by omega) (by omega) (by omega)
    refine ⟨σ, ?_, zFr.rf⟩
    simp (disch := first | assumption | omega) only [f_X1_reasonAgainstStatement, htx, k1, k2, l1, od, hw, zz_some, zz_lit, zz_num, zI_lt, zI_le, zI_eq, zI_nat, zz_b, if_pos, if_neg, if_true, if_false]
  · rw [if_neg c1]
    by_cases c2 : s.1 = 2
    · obtain ⟨y0, y1⟩ := o4 c2
      rw [if_pos c2]
      rw [c2] at k1
      obtain ⟨σ', q1, q2⟩ := e1_reasonAgainstErase hW hu hv hn hR (x := s.2.2.1) y0 y1
      refine ⟨σ', ?_, q2⟩
      simp (disch := first | assumption | omega) only [f_X1_reasonAgainstStatement, htx, k1, k2, od, q1, zz_some, zz_lit, zz_num, zI_lt, zI_le, zI_eq, zI_nat, zz_b, if_pos, if_neg, if_true, if_false]
    · rw [if_neg c2]
      by_cases c3 : s.1 = 3
      · rw [if_pos c3]
        rw [c3] at k1
        have hc := e1_reasonAgainstClose hW hu hR hn
        refine ⟨σ, ?_, zFr.rf⟩
        simp (disch := first | assumption | omega) only [f_X1_reasonAgainstStatement, htx, k1, od, hc, zz_some, zz_lit, zz_num, zI_lt, zI_le, zI_eq, zI_nat, zz_b, if_pos, if_neg, if_true, if_false]
      · rw [if_neg c3]
        have c0 : s.1 = 0 := by omega
        rw [c0] at k1
        refine ⟨σ, ?_, zFr.rf⟩
        simp (disch := first | assumption | omega) only [f_X1_reasonAgainstStatement, htx, k1, zz_some, zz_lit, zz_num, zI_lt, zI_le, zI_eq, zI_nat, zz_b, if_pos, if_neg, if_true, if_false]
theorem e1_do (hW : zWF E) (hm : zU E 2 0 = true) (hu : zU E 0 t = true) (hR : zRd (σ 0 t) n) (hn : nW n) {i : Nat} {s : zS5} (hi : i < 120) (hs : zSr σ i s) (ok : sOk (n 2) s) (hy : sWhy n s = 0) : ∃ σ', f_X1_doStatement (zH E σ) (zL E 0 t 0) (zL E 2 0 3) (zI (i : Int)) = some (zH E σ') ∧ (∀ k' d' c', ¬ (k' = 0 ∧ d' = t) → σ' k' d' c' = σ k' d' c') ∧ σ' 0 t 23 = σ 0 t 23 ∧ zRd (σ' 0 t) (sDo n s) := by
  have hN := hn.1.r
  have htx := (zz_txo (σ := σ) hW hm).2.2.2.2.2.2.2.2
  have od : g_ob (zH E σ) (zL E 0 t 0) 1 = some () := by simp only [zz_dco (σ := σ) hW hu]
  obtain ⟨k1, k2, k3⟩ := e4_at hW hm hi hs
  obtain ⟨o1, o2, o3, o4⟩ := ok
  unfold sWhy at hy
  unfold sDo
  by_cases c1 : s.1 = 1
  · obtain ⟨⟨y0, y1⟩, ⟨y2, y3⟩, ⟨y4, y5⟩⟩ := o3 c1
    obtain ⟨l1, l2⟩ := k3 c1
    rw [if_pos c1] at hy ⊢
    rw [c1] at k1
    obtain ⟨σ', q1, q2, q3, q4⟩ := e1_writeVersion hW hu hR hn y0 y1 y2 y3 y4 y5 hy
    refine ⟨σ', ?_, q2, q3 23 (Or.inr rfl), q4⟩
    simp (disch := first | assumption | omega) only [f_X1_doStatement, htx, k1, k2, l1, l2, od, q1, zz_some, zz_lit, zz_num, zI_lt, zI_le, zI_eq, zI_nat, zz_b, if_pos, if_neg, if_true, if_false]
  · rw [if_neg c1] at hy ⊢
    by_cases c2 : s.1 = 2
    · obtain ⟨y0, y1⟩ := o4 c2
      rw [if_pos c2] at hy ⊢
      rw [c2] at k1
      obtain ⟨σ', q1, q2, q3, q4⟩ := e1_eraseFile hW hu hR hn y0 y1 hy
      refine ⟨σ', ?_, q2, q3 23 (Or.inr rfl), q4⟩
      simp (disch := first | assumption | omega) only [f_X1_doStatement, htx, k1, k2, od, q1, zz_some, zz_lit, zz_num, zI_lt, zI_le, zI_eq, zI_nat, zz_b, if_pos, if_neg, if_true, if_false]
    · rw [if_neg c2] at hy ⊢
      by_cases c3 : s.1 = 3
      · rw [if_pos c3] at hy ⊢
        rw [c3] at k1
        obtain ⟨σ', q1, q2, q3, q4⟩ := e1_closeSession hW hu hR hn hy
        refine ⟨σ', ?_, q2, q3 23 (Or.inr rfl), q4⟩
        simp (disch := first | assumption | omega) only [f_X1_doStatement, htx, k1, od, q1, zz_some, zz_lit, zz_num, zI_lt, zI_le, zI_eq, zI_nat, zz_b, if_pos, if_neg, if_true, if_false]
      · rw [if_neg c3]
        have c0 : s.1 = 0 := by omega
        obtain ⟨y0, y1⟩ := o2 c0
        rw [c0] at k1
        have g0 := zg_dc0 (σ := σ) hW hu
        have bo : g_ob (zH E σ) (zL E 0 t 1) 0 = some () := by simp only [zz_blo (σ := σ) hW hu]
        have gb := zg_bl4 (σ := σ) hW hu
        have mk := zX_mark (σ := σ) (n := 96) hW hu (k := 0) (d := t) (c := 3) rfl (by decide) (i := s.2.2.1) (v := 1) (by omega) (by omega) (Or.inr rfl)
        rw [if_pos (by omega)] at mk
        refine ⟨zs σ 0 t 3 s.2.2.1 1, ?_, fun k' d' c' z => zs_ne (by omega), zs_ne (by omega), nBd_R y0 y1 hR hn (by funext j; exact zs_at) (fun c hc => zs_ne (by omega))⟩
        simp (disch := first | assumption | omega) only [f_X1_doStatement, f_X0_makeBad, htx, k1, k2, g0, bo, gb, mk, zz_some, zz_lit, zz_num, zI_lt, zI_le, zI_eq, zI_nat, zz_b, if_pos, if_neg, if_true, if_false]
/-- what the statements do on the draft -/
theorem c9_stms (hW : zWF E) (hm : zU E 2 0 = true) (hu : zU E 0 t = true) (hv : zU E 1 t = true) {S : List zS5} (hl : S.length ≤ 120) {F : Int} (hF : ∀ s ∈ S, sOk F s) : ∀ (m fuel i : Nat) (σ : zW) (n : zN), i + m = S.length → m < fuel → (σ 2 0 0 6).toNat = t → zSl σ S → zRd (σ 0 t) n → nW n → n 2 = F →
    (∀ x, xAll n (S.drop i) = (none, x) → ∃ σ', f_X9_parse_L45 fuel (zH E σ) (zL E 2 0 0) (zI (i : Int)) = f_X9_parse_J100 (zH E σ') (zL E 2 0 0) ∧ (∀ k d c, ¬ (k ≤ 1 ∧ d = t) → σ' k d c = σ k d c) ∧ zRd (σ' 0 t) x ∧ nW x ∧ σ' 0 t 23 = σ 0 t 23) ∧
    (∀ p x, xAll n (S.drop i) = (some p, x) → ∃ σ', f_X9_parse_L45 fuel (zH E σ) (zL E 2 0 0) (zI (i : Int)) = f_X9_parse_J100 (zH E σ') (zL E 2 0 0) ∧ (∀ k d c, ¬ (k ≤ 1 ∧ d = t) → ¬ (k = 2 ∧ d = 0 ∧ c = 3) → σ' k d c = σ k d c) ∧ σ' 2 0 3 0 = 6 ∧ σ' 2 0 3 1 = p) := by
  intro m
  induction m with
  | zero =>
    intro fuel i σ n him hf ht hS hR hn hnF
    obtain ⟨f, rfl, _⟩ := zfuel hf
    have m1 := zg_ma1 (σ := σ) hW hm
    have g6 := zg_tx6 (σ := σ) hW hm
    rw [hS.1] at g6
    have c1 : (S.length : Int) ≤ i := by omega
    rw [List.drop_of_length_le (by omega)]
    refine ⟨fun x hx => ?_, fun p x hx => by cases hx⟩
    have hx := (Prod.mk.inj hx).2
    subst hx
    refine ⟨σ, ?_, fun _ _ _ _ => rfl, hR, hn, rfl⟩
    simp (disch := first | assumption | omega) only [f_X9_parse_L45, m1, g6, c1, zz_some, zz_lit, zz_num, zI_lt, zI_le, zI_eq, zI_nat, zz_b, if_pos, if_neg, if_true, if_false]
  | succ m ih =>
    intro fuel i σ n him hf ht hS hR hn hnF
    obtain ⟨f, rfl, hf2⟩ := zfuel hf
    have hlt : i < S.length := by omega
    rw [List.drop_eq_getElem_cons hlt]
    obtain ⟨s, hs⟩ : ∃ s, s = S[i] := ⟨_, rfl⟩
    rw [← hs]
    have hsr : zSr σ i s := hS.2 i s (by rw [hs]; exact List.getElem?_eq_getElem hlt)
    have hok : sOk (n 2) s := by rw [hnF]; exact hF s (by rw [hs]; exact List.getElem_mem _)
    have m1 := zg_ma1 (σ := σ) hW hm
    have m6 := zg_ma6 (σ := σ) hW hm
    rw [ht] at m6
    have g6 := zg_tx6 (σ := σ) hW hm
    rw [hS.1] at g6
    have od : g_ob (zH E σ) (zL E 0 t 0) 1 = some () := by simp only [zz_dco (σ := σ) hW hu]
    have c1 : ¬ (S.length : Int) ≤ i := by omega
    obtain ⟨σ1, a1, a2⟩ := e1_why hW hm hu hv hR hn (by omega) hsr hok
    have f1 : ∀ k d c, ¬ (k ≤ 1 ∧ d = t) → σ1 k d c = σ k d c := fun k d c z => by rw [a2 k d (by omega)]
    have hR1 : zRd (σ1 0 t) n := by rw [a2 0 t (by omega)]; exact hR
    have h23 : σ1 0 t 23 = σ 0 t 23 := by rw [a2 0 t (by omega)]
    have m11 := zg_ma1 (σ := σ1) hW hm
    have m61 := zg_ma6 (σ := σ1) hW hm
    rw [f1 2 0 0 (by omega), ht] at m61
    have hS1 : zSl σ1 S := by
      unfold zSl zSr
      rw [f1 2 0 3 (by omega), f1 2 0 10 (by omega), f1 2 0 11 (by omega), f1 2 0 12 (by omega), f1 2 0 13 (by omega), f1 2 0 14 (by omega)]
      exact hS
    have od1 : g_ob (zH E σ1) (zL E 0 t 0) 1 = some () := by simp only [zz_dco (σ := σ1) hW hu]
    have htx1 := (zz_txo (σ := σ1) hW hm).2.2.2.2.2.2.2.2
    have hwr : -2147483648 ≤ sWhy n s ∧ sWhy n s < 2147483648 := by
      unfold sWhy nWw nWe nWc nWd
      split
      · split <;> (try split) <;> (try split) <;> omega
      · split
        · split <;> (try split) <;> (try split) <;> omega
        · split
          · split <;> (try split) <;> (try split) <;> omega
          · omega
    by_cases c2 : sWhy n s = 0
    · have hxc : ∀ X : List zS5, xAll n (s :: X) = xAll (sDo n s) X := fun X => by rw [xAll, if_pos c2]
      rw [hxc]
      rw [c2] at a1
      obtain ⟨σ2, b1, b2, b3, b4⟩ := e1_do hW hm hu hR1 hn (by omega) (hS1.2 i s (by rw [hs]; exact List.getElem?_eq_getElem hlt)) hok c2
      have hd := sDo_W hn hok c2
      have f2 : ∀ k d c, ¬ (k ≤ 1 ∧ d = t) → σ2 k d c = σ k d c := fun k d c z => (b2 k d c (by omega)).trans (f1 k d c z)
      have hS2 : zSl σ2 S := by
        unfold zSl zSr
        rw [f2 2 0 3 (by omega), f2 2 0 10 (by omega), f2 2 0 11 (by omega), f2 2 0 12 (by omega), f2 2 0 13 (by omega), f2 2 0 14 (by omega)]
        exact hS
      obtain ⟨i1, i2⟩ := ih f (i + 1) σ2 (sDo n s) (by omega) (by omega) (by rw [f2 2 0 0 (by omega)]; exact ht) hS2 b4 hd.1 (by rw [hd.2.2.1]; exact hnF)
      have hstep : f_X9_parse_L45 (f + 1) (zH E σ) (zL E 2 0 0) (zI (i : Int)) = f_X9_parse_L45 f (zH E σ2) (zL E 2 0 0) (zI ((i + 1 : Nat) : Int)) := by
        rw [show ((i + 1 : Nat) : Int) = (i : Int) + 1 by omega]
        simp (disch := first | assumption | omega) only [f_X9_parse_L45, m1, g6, c1, m6, od, a1, m61, m11, od1, b1, zz_some, zz_lit, zz_num, zI_lt, zI_le, zI_eq, zI_nat, zz_b, if_pos, if_neg, if_true, if_false]
      rw [hstep]
      refine ⟨fun x hx => ?_, fun p x hx => ?_⟩
      · obtain ⟨σ', q1, q2, q3, q4, q5⟩ := i1 x hx
        exact ⟨σ', q1, fun k d c z => (q2 k d c z).trans (f2 k d c z), q3, q4, by rw [q5, b3, h23]⟩
      · obtain ⟨σ', q1, q2, q3, q4⟩ := i2 p x hx
        exact ⟨σ', q1, fun k d c z y => (q2 k d c z y).trans (f2 k d c z), q3, q4⟩
    · have hxc : ∀ X : List zS5, xAll n (s :: X) = (some s.2.1, n) := fun X => by rw [xAll, if_neg c2]
      rw [hxc]
      refine ⟨fun x hx => (by cases hx), fun p x hx => ?_⟩
      have hp := Option.some.inj (Prod.mk.inj hx).1
      subst hp
      have p0 := zp_tx0 (σ := σ1) hW hm 6
      obtain ⟨σ2, e2⟩ : ∃ y, y = zs σ1 2 0 3 0 6 := ⟨_, rfl⟩
      rw [← e2] at p0
      have g8 := zg_tx8 (σ := σ2) hW hm
      have hx11 := zX_at (σ := σ2) (n := 120) hW hm (k := 2) (d := 0) (c := 11) rfl (by decide) (i := (i : Int)) (o := -1) (by omega) (by omega)
      rw [if_pos (by omega), show σ2 2 0 11 i = s.2.1 by rw [e2, zs_ne (by omega), f1 2 0 11 (by omega)]; exact hsr.2.1] at hx11
      have p1 := zp_tx1 (σ := σ2) hW hm s.2.1
      obtain ⟨σ3, e3⟩ : ∃ y, y = zs σ2 2 0 3 1 s.2.1 := ⟨_, rfl⟩
      rw [← e3] at p1
      have rf : f_X4_refuseStatement (zH E σ1) (zL E 2 0 3) (zI (i : Int)) = some (zH E σ3) := by
        simp (disch := first | assumption | omega) only [f_X4_refuseStatement, p0, g8, hx11, p1, zz_some, zz_lit, zz_num, zI_lt, zI_le, zI_eq, zI_nat, zz_b, if_pos, if_neg, if_true, if_false]
      refine ⟨σ3, ?_, fun k d c z y => by rw [e3, zs_ne (by omega), e2, zs_ne (by omega), f1 k d c z], by rw [e3, zs_at, if_neg (by omega), e2, zs_at, if_pos rfl], by rw [e3, zs_at, if_pos rfl]⟩
      simp (disch := first | assumption | omega) only [f_X9_parse_L45, m1, g6, c1, m6, od, a1, c2, m11, htx1, rf, zz_some, zz_lit, zz_num, zI_lt, zI_le, zI_eq, zI_nat, zz_b, if_pos, if_neg, if_true, if_false]
end zRun

/-! The reference's parse. -/
def zZ (τ : zW) : zW := zr τ 3 0 1 (fun i => if 0 ≤ i ∧ i < 1555 then 0 else τ 3 0 1 i)
def zNn (τ : zW) : zW := zs (zs (zs (zr τ 3 0 2 (fun i => if 0 ≤ i ∧ i < 10 then τ 3 0 15 i else τ 3 0 2 i)) 3 0 0 24 0) 3 0 27 0 0) 3 0 27 1 0
section zPar
variable {E : zE} {σ : zW} {b : Int → Int} {L : Int}
theorem e10_zero_L (hW : zWF E) (hm : zU E 3 0 = true) (τ : zW) {σ1 σ2 : zW} {w : Int32} {r : Option (gH × Int32)} (a1 : f_X10_advance (zH E (zZ τ)) (zL E 3 0 0) = some (zH E σ1)) (a2 : f_X10_head (zH E σ1) (zL E 3 0 0) = some (zH E σ2, w)) (a3 : f_X10_parse_L101 g_N (zH E σ2) (zL E 3 0 0) w = r) : ∀ (m fuel : Nat) (k : Int), 0 ≤ k → k + m = 1555 → m < fuel → f_X10_parse_L72 fuel (zH E (zr τ 3 0 1 (fun i => if 0 ≤ i ∧ i < k then 0 else τ 3 0 1 i))) (zL E 3 0 0) (zI k) = r := by
  intro m
  induction m with
  | zero =>
    intro fuel k h0 h1 hf
    obtain ⟨f, rfl, _⟩ := zfuel hf
    have c : (1555 : Int) ≤ k := by omega
    have ek : k = 1555 := by omega
    subst ek
    have od : g_ob (zH E (zZ τ)) (zL E 3 0 0) 10 = some () := by simp only [zz_mdo (σ := zZ τ) hW hm]
    have od1 : g_ob (zH E σ1) (zL E 3 0 0) 10 = some () := by simp only [zz_mdo (σ := σ1) hW hm]
    have hz : zr τ 3 0 1 (fun i => if 0 ≤ i ∧ i < 1555 then 0 else τ 3 0 1 i) = zZ τ := rfl
    rw [hz, ← a3]
    simp (disch := first | assumption | omega) only [f_X10_parse_L72, c, od, a1, od1, a2, zz_some, zz_lit, zz_num, zI_lt, zI_le, zI_eq, zI_nat, zz_b, if_pos, if_neg, if_true, if_false]
  | succ m ih =>
    intro fuel k h0 h1 hf
    obtain ⟨f, rfl, hf2⟩ := zfuel hf
    have c : ¬ (1555 : Int) ≤ k := by omega
    obtain ⟨ρ, hρ⟩ : ∃ ρ, ρ = zr τ 3 0 1 (fun i => if 0 ≤ i ∧ i < k then 0 else τ 3 0 1 i) := ⟨_, rfl⟩
    rw [← hρ]
    have as := zAst (σ := ρ) (t := 0) (n := 1555) hW hm (k := 3) (d := 0) (c := 1) rfl (by decide) (by decide) (i := k) (v := 0) (by omega) (by omega) rfl
    have e : zs ρ 3 0 1 k 0 = zr τ 3 0 1 (fun i => if 0 ≤ i ∧ i < k + 1 then 0 else τ 3 0 1 i) := by
      rw [← zs_r, hρ, zr_zr, zr_at]
      congr 1
      funext i
      by_cases h1 : i = k
      · rw [if_pos h1, if_pos (by omega)]
      · rw [if_neg h1]
        by_cases h2 : 0 ≤ i ∧ i < k
        · rw [if_pos h2, if_pos (by omega)]
        · rw [if_neg h2, if_neg (by omega)]
    rw [e] at as
    have md1 := zg_md1 (σ := ρ) hW hm
    have hr := ih f (k + 1) (by omega) (by omega) (by omega)
    rw [← hr]
    simp (disch := first | assumption | omega) only [f_X10_parse_L72, c, md1, as, zz_some, zz_lit, zz_num, zI_lt, zI_le, zI_eq, zI_nat, zz_b, if_pos, if_neg, if_true, if_false]
theorem e10_names_L (hW : zWF E) (hm : zU E 3 0 = true) (τ : zW) : ∀ (m fuel : Nat) (k : Int), 0 ≤ k → k + m = 10 → m < fuel → f_X10_parse_L159 fuel (zH E (zr τ 3 0 2 (fun i => if 0 ≤ i ∧ i < k then τ 3 0 15 i else τ 3 0 2 i))) (zL E 3 0 0) (zI k) = some (zH E (zNn τ), zI 0) := by
  intro m
  induction m with
  | zero =>
    intro fuel k h0 h1 hf
    obtain ⟨f, rfl, _⟩ := zfuel hf
    have c : (10 : Int) ≤ k := by omega
    have ek : k = 10 := by omega
    subst ek
    obtain ⟨ρ, hρ⟩ : ∃ ρ, ρ = zr τ 3 0 2 (fun i => if 0 ≤ i ∧ i < 10 then τ 3 0 15 i else τ 3 0 2 i) := ⟨_, rfl⟩
    have hN : zNn τ = zs (zs (zs ρ 3 0 0 24 0) 3 0 27 0 0) 3 0 27 1 0 := by rw [hρ]; rfl
    rw [← hρ, hN]
    have p24 := zp_md24 (σ := ρ) hW hm 0
    have m27 := zg_md27 (σ := zs ρ 3 0 0 24 0) hW hm
    have s1 := zAst (σ := zs ρ 3 0 0 24 0) (t := 1) (n := 2) hW hm (k := 3) (d := 0) (c := 27) rfl (by decide) (by decide) (i := 0) (v := 0) (by omega) (by omega) rfl
    have m27' := zg_md27 (σ := zs (zs ρ 3 0 0 24 0) 3 0 27 0 0) hW hm
    have s2 := zAst (σ := zs (zs ρ 3 0 0 24 0) 3 0 27 0 0) (t := 1) (n := 2) hW hm (k := 3) (d := 0) (c := 27) rfl (by decide) (by decide) (i := 1) (v := 0) (by omega) (by omega) rfl
    simp (disch := first | assumption | omega) only [f_X10_parse_L159, c, p24, m27, s1, m27', s2, zz_some, zz_lit, zz_num, zI_lt, zI_le, zI_eq, zI_nat, zz_b, if_pos, if_neg, if_true, if_false]
  | succ m ih =>
    intro fuel k h0 h1 hf
    obtain ⟨f, rfl, hf2⟩ := zfuel hf
    have c : ¬ (10 : Int) ≤ k := by omega
    obtain ⟨ρ, hρ⟩ : ∃ ρ, ρ = zr τ 3 0 2 (fun i => if 0 ≤ i ∧ i < k then τ 3 0 15 i else τ 3 0 2 i) := ⟨_, rfl⟩
    rw [← hρ]
    have m2 := zg_md2 (σ := ρ) hW hm
    have m15 := zg_md15 (σ := ρ) hW hm
    have al := zLald (σ := ρ) (n := 10) hW hm (k := 3) (d := 0) (c := 15) rfl (by decide) h0 (by omega)
    rw [show ρ 3 0 15 = τ 3 0 15 by rw [hρ, zr_ne (by omega)]] at al
    have as := zLast (σ := ρ) (n := 10) hW hm (k := 3) (d := 0) (c := 2) rfl (by decide) (i := k) (v := τ 3 0 15 k) (by omega) (by omega)
    have e : zs ρ 3 0 2 k (τ 3 0 15 k) = zr τ 3 0 2 (fun i => if 0 ≤ i ∧ i < k + 1 then τ 3 0 15 i else τ 3 0 2 i) := by
      rw [← zs_r, hρ, zr_zr, zr_at]
      congr 1
      funext i
      by_cases h1 : i = k
      · rw [if_pos h1, if_pos (by omega), h1]
      · rw [if_neg h1]
        by_cases h2 : 0 ≤ i ∧ i < k
        · rw [if_pos h2, if_pos (by omega)]
        · rw [if_neg h2, if_neg (by omega)]
    rw [e] at as
    have hr := ih f (k + 1) (by omega) (by omega) (by omega)
    simp (disch := first | assumption | omega) only [f_X10_parse_L159, c, m2, m15, al, as, hr, zz_some, zz_lit, zz_num, zI_lt, zI_le, zI_eq, zI_nat, zz_b, if_pos, if_neg, if_true, if_false]
theorem e10_J135_1 (hW : zWF E) (hm : zU E 3 0 = true) (τ : zW) : f_X10_parse_J135 (zH E τ) (zL E 3 0 0) (zI 1) = some (zH E (zNn τ), zI 0) := by
  have h := e10_names_L hW hm τ 10 g_N 0 (by omega) (by omega) (by unfold g_N; omega)
  have e : zr τ 3 0 2 (fun i => if 0 ≤ i ∧ i < 0 then τ 3 0 15 i else τ 3 0 2 i) = τ := zr_self (by
    funext i
    rw [if_neg (by omega)])
  rw [e] at h
  have n1 : ¬ (1 : Int) = 0 := by omega
  simp (disch := first | assumption | omega) only [f_X10_parse_J135, n1, h, zz_some, zz_lit, zz_num, zI_lt, zI_le, zI_eq, zI_nat, zz_b, if_pos, if_neg, if_true, if_false]
theorem e10_J135_0 (hW : zWF E) (hm : zU E 3 0 = true) (τ : zW) : f_X10_parse_J135 (zH E τ) (zL E 3 0 0) (zI 0) = some (zH E (zr τ 3 0 1 (fun i => if 0 ≤ i ∧ i < 0 + 1555 then τ 3 0 14 (0 + (i - 0)) else τ 3 0 1 i)), zI (τ 3 0 0 11)) := by
  have cp := e10_copies (c1 := 14) (c2 := 1) (N1 := 1555) (N2 := 1555) (a := 0) (b := 0) hW hm rfl rfl (by omega) (by omega) (by omega) (by omega) (by omega) (by omega) (Or.inl (by omega)) τ
  have m14 := zg_md14 (σ := τ) hW hm
  have m1 := zg_md1 (σ := τ) hW hm
  have g11 := zg_md11 (σ := zr τ 3 0 1 (fun i => if 0 ≤ i ∧ i < 0 + 1555 then τ 3 0 14 (0 + (i - 0)) else τ 3 0 1 i)) hW hm
  rw [zr_ne (by omega)] at g11
  simp (disch := first | assumption | omega) only [f_X10_parse_J135, m14, m1, cp, g11, zz_some, zz_lit, zz_num, zI_lt, zI_le, zI_eq, zI_nat, zz_b, if_pos, if_neg, if_true, if_false]
/-- the state in which the reference begins a text -/
def zBeg (σ : zW) (L : Int) : zW := zZ (zr (zs (zs (zs (zs (zs (zth σ 0) 3 0 0 5 L) 3 0 0 4 0) 3 0 0 7 0) 3 0 0 11 0) 3 0 0 12 (-1)) 3 0 14 (fun i => if 0 ≤ i ∧ i < 0 + 1555 then σ 3 0 1 (0 + (i - 0)) else σ 3 0 14 i))
theorem zBeg_f (σ : zW) (L : Int) : (∀ k d c, ¬ (k = 3 ∧ d = 0 ∧ (c = 0 ∨ c = 1 ∨ c = 14)) → zBeg σ L k d c = σ k d c) ∧ (∀ i, i ≠ 0 → i ≠ 4 → i ≠ 5 → i ≠ 7 → i ≠ 11 → i ≠ 12 → zBeg σ L 3 0 0 i = σ 3 0 0 i) ∧ zBeg σ L 3 0 0 0 = 0 ∧ zBeg σ L 3 0 0 4 = 0 ∧ zBeg σ L 3 0 0 5 = L ∧ zBeg σ L 3 0 0 7 = 0 ∧ zBeg σ L 3 0 0 11 = 0 ∧ zBeg σ L 3 0 0 12 = -1 ∧ (∀ i, 0 ≤ i → i < 1555 → zBeg σ L 3 0 14 i = σ 3 0 1 i) ∧ zBeg σ L 3 0 1 = fun i => if 0 ≤ i ∧ i < 1555 then 0 else σ 3 0 1 i := by
  unfold zBeg zZ zth
  refine ⟨fun k d c z => ?_, fun i a0 a4 a5 a7 a11 a12 => ?_, ?_, ?_, ?_, ?_, ?_, ?_, fun i i0 i1 => ?_, ?_⟩
  · rw [zr_ne (by omega), zr_ne (by omega), zs_ne (by omega), zs_ne (by omega), zs_ne (by omega), zs_ne (by omega), zs_ne (by omega), zs_ne (by omega)]
  · rw [zr_ne (by omega), zr_ne (by omega), zs_at, if_neg a12, zs_at, if_neg a11, zs_at, if_neg a7, zs_at, if_neg a4, zs_at, if_neg a5, zs_at, if_neg a0]
  · rw [zr_ne (by omega), zr_ne (by omega), zs_at, if_neg (by omega), zs_at, if_neg (by omega), zs_at, if_neg (by omega), zs_at, if_neg (by omega), zs_at, if_neg (by omega), zs_at, if_pos rfl]
  · rw [zr_ne (by omega), zr_ne (by omega), zs_at, if_neg (by omega), zs_at, if_neg (by omega), zs_at, if_neg (by omega), zs_at, if_pos rfl]
  · rw [zr_ne (by omega), zr_ne (by omega), zs_at, if_neg (by omega), zs_at, if_neg (by omega), zs_at, if_neg (by omega), zs_at, if_neg (by omega), zs_at, if_pos rfl]
  · rw [zr_ne (by omega), zr_ne (by omega), zs_at, if_neg (by omega), zs_at, if_neg (by omega), zs_at, if_pos rfl]
  · rw [zr_ne (by omega), zr_ne (by omega), zs_at, if_neg (by omega), zs_at, if_pos rfl]
  · rw [zr_ne (by omega), zr_ne (by omega), zs_at, if_pos rfl]
  · rw [zr_ne (by omega), zr_at]
    show (if 0 ≤ i ∧ i < 0 + 1555 then σ 3 0 1 (0 + (i - 0)) else σ 3 0 14 i) = _
    rw [if_pos (by omega)]
    congr 1
    omega
  · rw [zr_at]
    funext i
    rw [zr_ne (by omega), zs_ne (by omega), zs_ne (by omega), zs_ne (by omega), zs_ne (by omega), zs_ne (by omega), zs_ne (by omega)]
/-- the row from which a good text goes on -/
def nBeg (σ : zW) (b : Int → Int) (L : Int) : zN := zu (zu (fun i => if 0 ≤ i ∧ i < 1555 then 0 else σ 3 0 1 i) 0 (hB b L)) 1 (hS b L)
theorem nBeg_F (σ : zW) (b : Int → Int) (L : Int) : ∀ i, 0 ≤ i → i < 1555 → nBeg σ b L i = nFm (hB b L) (hS b L) i := by
  intro i i0 i1
  unfold nBeg nFm zu
  by_cases h1 : i = 1
  · rw [if_pos h1, if_neg (by omega), if_pos h1]
  · rw [if_neg h1]
    by_cases h0 : i = 0
    · rw [if_pos h0, if_pos h0]
    · rw [if_neg h0, if_neg h0, if_neg h1]
      exact if_pos ⟨i0, i1⟩
theorem e10_parse_no (hW : zWF E) (hm : zU E 3 0 = true) {u x : Int} (h4 : σ 3 0 0 4 = u) (hu0 : 0 ≤ u) (hu1 : u ≤ 600) (hx0 : -2147483648 ≤ x) (hx1 : x < 2147483648) (hx : ¬ (0 ≤ x ∧ x ≤ u)) : ∃ σ', f_X10_parse (zH E σ) (zL E 3 0 0) (zI x) = some (zH E σ', zI 0) ∧ zT σ σ' 1 := by
  have p0 := zp_md0 (σ := σ) hW hm 0
  have h : zs σ 3 0 0 0 0 = zth σ 0 := rfl
  rw [h] at p0
  have g4 := zg_md4 (σ := zth σ 0) hW hm
  rw [zth_i (by omega), h4] at g4
  have wi := e10_wi (G := zH E (zth σ 0)) (v := x) (lo := 0) (hi := u) (by omega) (by omega) (by omega) (by omega) (by omega) (by omega)
  rw [zb_dneg hx] at wi
  have th := e10_th1 (σ := zth σ 0) hW hm zth_0 (w := 1) (by omega) (by omega)
  have od : g_ob (zH E (zth σ 0)) (zL E 3 0 0) 10 = some () := by simp only [zz_mdo (σ := zth σ 0) hW hm]
  have n1 : ¬ (1 : Int) = 0 := by omega
  refine ⟨zth (zth σ 0) 1, ?_, (zT.th σ 0).t (zT.th _ 1)⟩
  simp (disch := first | assumption | omega) only [f_X10_parse, p0, g4, wi, f_X10_parse_J23, od, th, n1, zz_some, zz_lit, zz_num, zI_lt, zI_le, zI_eq, zI_nat, zz_b, if_pos, if_neg, if_true, if_false]
theorem e10_parse_in (hW : zWF E) (hm : zU E 3 0 = true) {u : Int} (h4 : σ 3 0 0 4 = u) (hT : zTm σ b u) (hL0 : 0 ≤ L) (hLu : L ≤ u) : ∃ σ', f_X10_parse (zH E σ) (zL E 3 0 0) (zI L) = some (zH E σ', zI (eTxt b L (nBeg σ b L)).1) ∧ (∀ k d c, ¬ (k = 3 ∧ d = 0 ∧ (c = 0 ∨ c = 1 ∨ c = 2 ∨ c = 14 ∨ c = 15 ∨ c = 17 ∨ c = 21 ∨ c = 23 ∨ c = 27)) → σ' k d c = σ k d c) ∧ σ' 3 0 0 0 = 0 ∧ σ' 3 0 0 4 = 0 ∧ σ' 3 0 0 12 = (if (eTxt b L (nBeg σ b L)).1 = 0 then -1 else (eTxt b L (nBeg σ b L)).2) ∧ ((eTxt b L (nBeg σ b L)).1 ≠ 0 → (∀ i, 0 ≤ i → i < 1555 → σ' 3 0 1 i = σ 3 0 1 i) ∧ σ' 3 0 2 = σ 3 0 2 ∧ σ' 3 0 0 24 = σ 3 0 0 24 ∧ σ' 3 0 27 = σ 3 0 27) ∧ ((eTxt b L (nBeg σ b L)).1 = 0 → σ' 3 0 1 = nTxt b L (nBeg σ b L) ∧ (∀ k, 0 ≤ k → k < nTxt b L (nBeg σ b L) 2 → zWd (wTxt b L (nBeg σ b L) k) ∧ σ' 3 0 2 k = zw8 (wTxt b L (nBeg σ b L) k)) ∧ σ' 3 0 0 24 = 0 ∧ σ' 3 0 27 0 = 0 ∧ σ' 3 0 27 1 = 0) := by
  have hu6 := hT.1
  obtain ⟨B1, B2, B0, B4, B5, B7, B11, B12, B14, Bn⟩ := zBeg_f σ L
  obtain ⟨β, hβ⟩ : ∃ β, β = zBeg σ L := ⟨_, rfl⟩
  rw [← hβ] at B1 B2 B0 B4 B5 B7 B11 B12 B14 Bn
  have hTb : zTm β b L := ⟨by omega, fun i i0 i1 => by rw [B1 3 0 3 (by omega)]; exact hT.2 i i0 (by omega)⟩
  obtain ⟨σ1, a1, a2, a3⟩ := e10_advance hW hm hTb B5 B7 (Int.le_refl _) hL0
  obtain ⟨σ2, d1, d2, d3, d4⟩ := e10_head (σ := σ1) hW hm (hTb.f a2) (by rw [a2.2 5 (by omega)]; exact B5) (by rw [a2.2 11 (by omega)]; exact B11) a3 (a2.1 3 0 1 (by omega))
  obtain ⟨n, hn⟩ : ∃ n, n = nBeg σ b L := ⟨_, rfl⟩
  rw [← hn]
  have hnF : ∀ i, 0 ≤ i → i < 1555 → n i = nFm (hB b L) (hS b L) i := by rw [hn]; exact nBeg_F σ b L
  -- the loop over the statements
  have hloop : ∃ σ3, f_X10_parse_L101 g_N (zH E σ2) (zL E 3 0 0) (zI (zb (decide ((eHead b L).1 = 0)))) = f_X10_parse_J135 (zH E σ3) (zL E 3 0 0) (zI (zb (decide ((eTxt b L n).1 = 0)))) ∧ zMd β σ3 ∧ zMr β σ3 (eTxt b L n) ∧ ((eTxt b L n).1 = 0 → zSm σ3 (nTxt b L n) (wTxt b L n)) := by
    by_cases c1 : (eHead b L).1 = 0
    · obtain ⟨x1, x2⟩ := d4 c1
      have hk := eHead_ok hL0 c1
      have hnW := nFm_W hk.1 hk.2.1 hk.2.2.1 hk.2.2.2.1 hk.2.2.2.2.1
      have z1 := d3.1 c1
      have n2 : σ2 3 0 1 = n := by rw [x2, Bn, hn]; rfl
      have hS2 : zSm σ2 n (fun _ => []) := ⟨n2, nW_cg0 hnF hnW, fun k k0 k1 => absurd k1 (by
        have : n 2 = 0 := by rw [hnF 2 (by omega) (by omega)]; rfl
        omega)⟩
      have eT : eTxt b L n = (pAll b L 600 (hP b L) n (fun _ => [])).1 := by unfold eTxt; rw [if_pos c1]
      obtain ⟨σ3, y1, y2, y3, y4⟩ := e10_ps_L (b := b) (L := L) hW hm 600 g_N σ2 (hP b L) n (fun _ => []) ((hTb.f a2).d d2) (by rw [d2.2 5 (by omega), a2.2 5 (by omega)]; exact B5) (by rw [z1.1, a2.2 11 (by omega)]; exact B11) hS2 x1 hk.2.2.2.2.2.1 hk.2.2.2.2.2.2 (by omega) (by unfold g_N; omega)
      rw [zb_dpos c1, eT]
      exact ⟨σ3, y1, (a2.g.d.tr d2).tr y2, zMr.tr ⟨z1.1.trans a2.e.1, z1.2.trans a2.e.2⟩ y3, y4⟩
    · have eT : eTxt b L n = eHead b L := by unfold eTxt; rw [if_neg c1]
      obtain ⟨f, hf⟩ : ∃ f, g_N = f + 1 := ⟨4095, rfl⟩
      rw [zb_dneg c1, eT, zb_dneg c1, hf, e10_ps_stop]
      exact ⟨σ2, rfl, a2.g.d.tr d2, zMr.tr a2.e d3, fun z => absurd z c1⟩
  obtain ⟨σ3, y1, y2, y3, y4⟩ := hloop
  -- from the call to the loop
  have hparse : f_X10_parse (zH E σ) (zL E 3 0 0) (zI L) = f_X10_parse_J135 (zH E σ3) (zL E 3 0 0) (zI (zb (decide ((eTxt b L n).1 = 0)))) := by
    obtain ⟨τ, hτ⟩ : ∃ τ, τ = zs (zs (zs (zs (zs (zth σ 0) 3 0 0 5 L) 3 0 0 4 0) 3 0 0 7 0) 3 0 0 11 0) 3 0 0 12 (-1) := ⟨_, rfl⟩
    obtain ⟨ρ, hρ⟩ : ∃ ρ, ρ = zr τ 3 0 14 (fun i => if 0 ≤ i ∧ i < 0 + 1555 then τ 3 0 1 (0 + (i - 0)) else τ 3 0 14 i) := ⟨_, rfl⟩
    have t1 : τ 3 0 1 = σ 3 0 1 := by
      rw [hτ]
      unfold zth
      rw [zs_ne (by omega), zs_ne (by omega), zs_ne (by omega), zs_ne (by omega), zs_ne (by omega), zs_ne (by omega)]
    have t14 : τ 3 0 14 = σ 3 0 14 := by
      rw [hτ]
      unfold zth
      rw [zs_ne (by omega), zs_ne (by omega), zs_ne (by omega), zs_ne (by omega), zs_ne (by omega), zs_ne (by omega)]
    have hz : zZ ρ = β := by
      rw [hβ, hρ, t1, t14, hτ]
      rfl
    have hzl := e10_zero_L hW hm ρ (by rw [hz]; exact a1) d1 y1 1555 g_N 0 (by omega) (by omega) (by unfold g_N; omega)
    have e : zr ρ 3 0 1 (fun i => if 0 ≤ i ∧ i < 0 then 0 else ρ 3 0 1 i) = ρ := zr_self (by
      funext i
      rw [if_neg (by omega)])
    rw [e] at hzl
    have cp := e10_copies (c1 := 1) (c2 := 14) (N1 := 1555) (N2 := 1555) (a := 0) (b := 0) hW hm rfl rfl (by omega) (by omega) (by omega) (by omega) (by omega) (by omega) (Or.inl (by omega)) τ
    rw [← hρ] at cp
    have p0 := zp_md0 (σ := σ) hW hm 0
    have h : zs σ 3 0 0 0 0 = zth σ 0 := rfl
    rw [h] at p0
    have g4 := zg_md4 (σ := zth σ 0) hW hm
    rw [zth_i (by omega), h4] at g4
    have wi := e10_wi (G := zH E (zth σ 0)) (v := L) (lo := 0) (hi := u) (by omega) (by omega) (by omega) (by omega) (by omega) (by omega)
    rw [zb_dpos ⟨hL0, hLu⟩] at wi
    have th := e10_th0 (σ := zth σ 0) hW hm zth_0 (w := 1)
    have od : g_ob (zH E (zth σ 0)) (zL E 3 0 0) 10 = some () := by simp only [zz_mdo (σ := zth σ 0) hW hm]
    have q5 := zp_md5 (σ := zth σ 0) hW hm L
    have q4 := zp_md4 (σ := zs (zth σ 0) 3 0 0 5 L) hW hm 0
    have q7 := zp_md7 (σ := zs (zs (zth σ 0) 3 0 0 5 L) 3 0 0 4 0) hW hm 0
    have q11 := zp_md11 (σ := zs (zs (zs (zth σ 0) 3 0 0 5 L) 3 0 0 4 0) 3 0 0 7 0) hW hm 0
    have q12 := zp_md12 (σ := zs (zs (zs (zs (zth σ 0) 3 0 0 5 L) 3 0 0 4 0) 3 0 0 7 0) 3 0 0 11 0) hW hm (-1)
    rw [← hτ] at q12
    have m1 := zg_md1 (σ := τ) hW hm
    have m14 := zg_md14 (σ := τ) hW hm
    have n1 : ¬ (1 : Int) = 0 := by omega
    have hj : f_X10_parse_J23 (zH E (zth σ 0)) (zL E 3 0 0) (zI L) (zL E 3 0 0) (zI 0) = f_X10_parse_L72 g_N (zH E ρ) (zL E 3 0 0) (zI 0) := by
      simp (disch := first | assumption | omega) only [f_X10_parse_J23, od, th, q5, q4, q7, q11, q12, m1, m14, cp, zz_some, zz_lit, zz_num, zI_lt, zI_le, zI_eq, zI_nat, zz_b, if_pos, if_neg, if_true, if_false]
    rw [← hzl, ← hj]
    simp (disch := first | assumption | omega) only [f_X10_parse, p0, g4, wi, n1, zz_some, zz_lit, zz_num, zI_lt, zI_le, zI_eq, zI_nat, zz_b, if_pos, if_neg, if_true, if_false]
  rw [hparse]
  by_cases c1 : (eTxt b L n).1 = 0
  · rw [zb_dpos c1, e10_J135_1 hW hm]
    obtain ⟨s1, s2, s3⟩ := y4 c1
    have z1 := y3.1 c1
    refine ⟨zNn σ3, by rw [c1], fun k d c z => ?_, ?_, ?_, ?_, fun z => absurd c1 z, fun _ => ⟨?_, fun k k0 k1 => ?_, ?_, ?_, ?_⟩⟩
    · unfold zNn
      rw [zs_ne (by omega), zs_ne (by omega), zs_ne (by omega), zr_ne (by omega), y2.1 k d c (by omega), B1 k d c (by omega)]
    · unfold zNn
      rw [zs_ne (by omega), zs_ne (by omega), zs_at, if_neg (by omega), zr_ne (by omega), y2.2 0 (by omega)]
      exact B0
    · unfold zNn
      rw [zs_ne (by omega), zs_ne (by omega), zs_at, if_neg (by omega), zr_ne (by omega), y2.2 4 (by omega)]
      exact B4
    · unfold zNn
      rw [zs_ne (by omega), zs_ne (by omega), zs_at, if_neg (by omega), zr_ne (by omega), z1.2, if_pos c1]
      exact B12
    · unfold zNn
      rw [zs_ne (by omega), zs_ne (by omega), zs_ne (by omega), zr_ne (by omega)]
      exact s1
    · obtain ⟨r1, r2⟩ := s3 k k0 k1
      have h10 := s2.1.2.2.1.2
      refine ⟨r1, ?_⟩
      unfold zNn
      rw [zs_ne (by omega), zs_ne (by omega), zs_ne (by omega), zr_at]
      show (if 0 ≤ k ∧ k < 10 then σ3 3 0 15 k else σ3 3 0 2 k) = _
      rw [if_pos (by omega)]
      exact r2
    · unfold zNn
      rw [zs_ne (by omega), zs_ne (by omega), zs_at, if_pos rfl]
    · unfold zNn
      rw [zs_at, if_neg (by omega), zs_at, if_pos rfl]
    · unfold zNn
      rw [zs_at, if_pos rfl]
  · rw [zb_dneg c1, e10_J135_0 hW hm]
    have z1 := y3.2 c1
    refine ⟨_, by rw [z1.1], fun k d c z => ?_, ?_, ?_, ?_, fun _ => ⟨fun i i0 i1 => ?_, ?_, ?_, ?_⟩, fun z => absurd z c1⟩
    · rw [zr_ne (by omega), y2.1 k d c (by omega), B1 k d c (by omega)]
    · rw [zr_ne (by omega), y2.2 0 (by omega)]
      exact B0
    · rw [zr_ne (by omega), y2.2 4 (by omega)]
      exact B4
    · rw [zr_ne (by omega), if_neg c1]
      exact z1.2
    · rw [zr_at]
      show (if 0 ≤ i ∧ i < 0 + 1555 then σ3 3 0 14 (0 + (i - 0)) else σ3 3 0 1 i) = _
      rw [if_pos (by omega), show 0 + (i - 0) = i by omega, y2.1 3 0 14 (by omega)]
      exact B14 i i0 i1
    · rw [zr_ne (by omega), y2.1 3 0 2 (by omega), B1 3 0 2 (by omega)]
    · rw [zr_ne (by omega), y2.2 24 (by omega)]
      exact B2 24 (by omega) (by omega) (by omega) (by omega) (by omega) (by omega)
    · rw [zr_ne (by omega), y2.1 3 0 27 (by omega), B1 3 0 27 (by omega)]
end zPar

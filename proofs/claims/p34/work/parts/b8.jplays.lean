/-! One run of the law: a new disc, its text, eighteen rounds. -/
section yp
variable {G A B T : gH}
theorem yJ.newB (h : yJ G A B T) {a : Nat} (hn : G a = none) (e : gE) : yJ (va_up G a (some e)) A (va_up B a (some e)) T := by
  obtain ⟨nA, nB, nT⟩ := h.no hn
  refine ⟨?_, gd_up h.2.1 nA, h.2.2.1, gd_s (gd_up (gd_s h.2.2.2) nT)⟩
  funext c
  by_cases z : c = a
  · rw [z, gva_at]; unfold gj; rw [nA]; dsimp only; rw [gva_at]
  · rw [gva_ne z, h.1]; unfold gj; rw [gva_ne z]
theorem yJ.mvT {a : Nat} {e : gE} (h : yJ G A (va_up B a (some e)) T) (hB : B a = none) : yJ G A B (va_up T a (some e)) := by
  have hA : A a = none := by
    rcases h.2.1 a with z | z
    · exact z
    · rw [gva_at] at z; cases z
  have hT : T a = none := by
    rcases h.2.2.2 a with z | z
    · rw [gva_at] at z; cases z
    · exact z
  refine ⟨?_, fun c => ?_, gd_up h.2.2.1 hA, fun c => ?_⟩
  · funext c
    rw [h.1]
    unfold gj
    by_cases z : c = a
    · rw [z, hA, hB]; dsimp only; rw [gva_at, gva_at]
    · rw [gva_ne z, gva_ne z]
  · rcases h.2.1 c with z | z
    · exact Or.inl z
    · right
      by_cases y : c = a
      · rw [y]; exact hB
      · rw [gva_ne y] at z; exact z
  · by_cases y : c = a
    · left; rw [y]; exact hB
    · rcases h.2.2.2 c with z | z
      · left; rw [gva_ne y] at z; exact z
      · right; rw [gva_ne y]; exact z
theorem g_i_up {a e ci k : Nat} {x : Option gE} (h : e ≠ a) : g_i (va_up B a x) e ci k = g_i B e ci k := by
  unfold g_i; rw [g_V_c (gva_ne h)]
variable {q : Nat}
/-- a growing text begun in the world -/
theorem yJ.mk0 (h : yJ G A B T) {f0 : Nat → Int32} (hq : T q = some (.inl (0, 1, f0))) {sb v cap : Nat} {e0 : gE} {G' : gH} {f : Nat → Int32} {t : List Int} (hsb : T sb = some e0) (hv : G v = none) (hqs : q ≠ sb) (hr : jR G' sb v cap f t) (hO : ∀ a, a ≠ sb → G a ≠ none → G' a = G a) : ∃ T', yQ G' A B T' q sb t := by
  have s1 := h.tt hsb
  have s2 := h.no hv
  have s3 := h.tt hq
  refine ⟨yRest A B G', h.ch (fun a ha => hO a (fun z => ?_) (fun z => ?_)), ⟨f0, ?_⟩, v, cap, f, ?_, ?_, hr.2.2⟩
  · rw [z] at ha
    rcases ha with y | y
    · exact y s1.2.1
    · exact y s1.2.2
  · have := h.no z
    rcases ha with y | y
    · exact y this.1
    · exact y this.2.1
  · rw [yRest_at s3.2.1 s3.2.2, hO q hqs (by rw [s3.1]; simp)]; exact s3.1
  · rw [yRest_at s1.2.1 s1.2.2]; exact hr.1
  · rw [yRest_at s2.1 s2.2.1]; exact hr.2.1
set_option maxRecDepth 200000 in
set_option maxHeartbeats 8000000 in
theorem y_plays {o : Nat} {na : zN} (hJ : yJ G A (fun _ => none) T) (hA : yCo A o na) {f : Nat → Int32} (hq : T q = some (.inl (0, 1, f))) {K : Int32 → gH → Prop} (hK : ∀ e G' n', yT o e q G' n' → K (1 : Int32) G') : w_L_plays 80000 1200000 G o q K := by
  unfold w_L_plays
  refine ⟨⟨by omega, by omega⟩, fun e he G0 hG0 => ?_⟩
  have hgd : gd (va_up (fun _ => none) e (some (gO 10 [.int 0, .int 0, .int 0, .int 0, .int 0, .int 0, .int 0, .null, .null, .null, .null, .null, .null, .null, .null, .null, .null]))) G := fun a => by
    by_cases z : a = e
    · right; rw [z]; exact he
    · left; rw [gva_ne z]
  refine ⟨_, G, hgd, by
    rw [hG0]
    funext a
    unfold gj
    by_cases z : a = e
    · rw [z, gva_at, gva_at]
    · rw [gva_ne z, gva_ne z], ⟨by omega, by omega⟩, yl_newD (fun E hI0 hE G4 d4 e4 => ?_)⟩
  have hGA : G = gj A T := by
    rw [hJ.1]
    funext a
    unfold gj
    cases A a <;> rfl
  have hJ4 : yJ G4 A (zH E (yM1 96)) T := by
    rw [hGA] at d4 e4
    have := gd_j1 d4
    exact (show yJ G4 (zH E (yM1 96)) A T from ⟨e4, this.1, this.2, hJ.2.2.1⟩).sw
  -- the three numbers
  obtain ⟨C1, R1, d1, e1, w1, p1, x, x0, x1, ex, nx1⟩ := hJ4.draw hq (m := 40) (by omega) (by omega)
  refine ⟨C1, R1, d1, e1, ⟨by omega, by omega⟩, w1, p1, fun G14 d14 e14 => ?_⟩
  obtain ⟨f1, hJ14⟩ := nx1 G14 d14 e14
  have hq1 : (va_up T q (some (.inl (0, 1, f1)))) q = some (.inl (0, 1, f1)) := gva_at
  obtain ⟨T1, hT1⟩ : ∃ T1, T1 = va_up T q (some (.inl (0, 1, f1))) := ⟨_, rfl⟩
  rw [← hT1] at hJ14 hq1
  rw [ex, show (8 : Int32) + zI x = zI (8 + x) from zI_add 8 x]
  have a1 := zp_ld0 (σ := yM1 96) hI0.w hI0.u (8 + x)
  have hI1 := yl_num hI0 (Or.inl rfl) (8 + x)
  rw [hE] at a1
  obtain ⟨G18, g18, hJ18⟩ := hJ14.put a1
  refine ⟨G18, g18, _, hJ18.i (by rw [← hE]; exact (yN hI1.w hI1.r).1), ⟨by omega, by omega⟩, ?_⟩
  rw [zu_eq rfl]
  obtain ⟨M, hM⟩ : ∃ M : Int, M = if 8 < (8 + x) / 2 then 8 else (8 + x) / 2 := ⟨_, rfl⟩
  have hM1 : 4 ≤ M ∧ M ≤ 8 ∧ 2 * M ≤ 8 + x := by rw [hM]; split <;> omega
  have ed : zI (8 + x) / (2 : Int32) = zI ((8 + x) / 2) := by
    rw [show (2 : Int32) = zI 2 from rfl, zI_div (by omega) (by omega) (by omega) (by omega), Int.tdiv_eq_ediv_of_nonneg (by omega)]
  have em : (if (8 : Int32) < zI ((8 + x) / 2) then (8 : Int32) else zI ((8 + x) / 2)) + (1 : Int32) = zI (M + 1) := by
    rw [hM]
    by_cases z : 8 < (8 + x) / 2
    · rw [if_pos (show (8 : Int32) < zI ((8 + x) / 2) from by show zI 8 < zI ((8 + x) / 2); rw [zI_lt (by omega) (by omega) (by omega) (by omega)]; exact z), if_pos z]; rfl
    · rw [if_neg (show ¬ (8 : Int32) < zI ((8 + x) / 2) from by show ¬ zI 8 < zI ((8 + x) / 2); rw [zI_lt (by omega) (by omega) (by omega) (by omega)]; exact z), if_neg z]
      exact zI_add _ 1
  rw [ed, em]
  obtain ⟨C2, R2, d2, e2, w2, p2, y, y0, y1, ey, nx2⟩ := hJ18.draw hq1 (m := M + 1) (by omega) (by omega)
  refine ⟨C2, R2, d2, e2, ⟨by omega, by omega⟩, w2, p2, fun G36 d36 e36 => ?_⟩
  obtain ⟨f2, hJ36⟩ := nx2 G36 d36 e36
  have hq2 : (va_up T1 q (some (.inl (0, 1, f2)))) q = some (.inl (0, 1, f2)) := gva_at
  obtain ⟨T2, hT2⟩ : ∃ T2, T2 = va_up T1 q (some (.inl (0, 1, f2))) := ⟨_, rfl⟩
  rw [← hT2] at hJ36 hq2
  rw [ey]
  have a2 := zp_ld1 (σ := zs (yM1 96) 5 0 0 0 (8 + x)) hI1.w hI1.u y
  have hI2 := yl_num hI1 (Or.inr (Or.inl rfl)) y
  rw [hE] at a2
  obtain ⟨G39, g39, hJ39⟩ := hJ36.put a2
  refine ⟨G39, g39, ?_⟩
  obtain ⟨C3, R3, d3, e3, w3, p3, z, z0, z1, ez, nx3⟩ := hJ39.draw hq2 (m := 6) (by omega) (by omega)
  refine ⟨C3, R3, d3, e3, ⟨by omega, by omega⟩, w3, p3, fun G47 d47 e47 => ?_⟩
  obtain ⟨f3, hJ47⟩ := nx3 G47 d47 e47
  have hq3 : (va_up T2 q (some (.inl (0, 1, f3)))) q = some (.inl (0, 1, f3)) := gva_at
  obtain ⟨T3, hT3⟩ : ∃ T3, T3 = va_up T2 q (some (.inl (0, 1, f3))) := ⟨_, rfl⟩
  rw [← hT3] at hJ47 hq3
  rw [ez, show (1 : Int32) + zI z = zI (1 + z) from zI_add 1 z]
  have a3 := zp_ld2 (σ := zs (zs (yM1 96) 5 0 0 0 (8 + x)) 5 0 0 1 y) hI2.w hI2.u (1 + z)
  have hI3 := yl_num hI2 (Or.inr (Or.inr rfl)) (1 + z)
  rw [hE] at a3
  rw [nFm_zu] at hI3
  obtain ⟨hn3, hy3⟩ := nFm_W2 (N := 8 + x) (S := y) (F := 1 + z) (by omega) (by omega) (by omega) (by omega) (by omega) (by omega) (by omega)
  obtain ⟨G51, g51, hJ51⟩ := hJ47.put a3
  obtain ⟨σ, hσ⟩ : ∃ σ, σ = zs (zs (zs (yM1 96) 5 0 0 0 (8 + x)) 5 0 0 1 y) 5 0 0 2 (1 + z) := ⟨_, rfl⟩
  rw [← hσ] at hI3 hJ51
  refine ⟨G51, g51, ⟨by omega, by omega⟩, fun sb hsb G54 hG54 => ?_⟩
  have hB0 : zH E σ sb = none := (hJ51.no hsb).2.1
  have hJ54 := hJ51.newB hsb (gO 15 [.null, .int 0, .int 0, .int 0])
  rw [← hG54] at hJ54
  refine ⟨⟨by omega, by omega⟩, fun s2 hs2 G58 hG58 => ?_⟩
  have n58 := hJ54.no hs2
  have hJ58 := hJ54.upT n58.1 n58.2.1 (some (gO 15 [.null, .int 0, .int 0, .int 0]))
  rw [← hG58] at hJ58
  have nqs2 : q ≠ s2 := fun w => by rw [w, n58.2.2] at hq3; cases hq3
  have hq4 : (va_up T3 s2 (some (gO 15 [.null, .int 0, .int 0, .int 0]))) q = some (.inl (0, 1, f3)) := by rw [gva_ne nqs2]; exact hq3
  have nes : e ≠ sb := by
    have hob := yl_ob5 hI3
    rw [hE] at hob
    intro w
    unfold g_ob at hob
    rw [w, hB0] at hob
    cases hob
  have rd : ∀ {G9 T9 : gH} {t : List Int}, yQ G9 A (va_up (zH E σ) sb (some (gO 15 [.null, .int 0, .int 0, .int 0]))) T9 q s2 t → g_i G9 e 10 0 = some (zI (8 + x)) ∧ g_i G9 e 10 1 = some (zI y) := fun h9 => by
    refine ⟨h9.1.i ?_, h9.1.i ?_⟩
    · rw [g_i_up nes, ← hE]; exact (yN hI3.w hI3.r).1
    · rw [g_i_up nes, ← hE]; exact (yN hI3.w hI3.r).2.1
  refine ⟨G58, _, gd_n G58, (gj_n G58).symm, ⟨by omega, by omega⟩, j_init0 (by rw [hG58]; exact gva_at) (fun G62 v cap fb hv hr hO G62' _ e62 => ?_)⟩
  rw [show G62' = G62 from e62.trans (gj_n G62)]
  obtain ⟨T62, h62⟩ := hJ58.mk0 hq4 gva_at hv nqs2 hr (fun a a1 a2 => hO a a1 (fun w => a2 (by rw [w]; exact hv)))
  have tl0 := tU_len 0 (by omega)
  have tl1 := tU_len 1 (by omega)
  have tl2 := tU_len 2 (by omega)
  have dl1 := (dg_len (v := 8 + x)).2
  have dl2 := (dg_len (v := y)).2
  refine h62.wU (i := 0) (by omega) (by simp only [List.length_nil]; omega) ⟨by omega, by omega⟩ (fun G67 T67 h67 => ?_)
  refine ⟨_, (rd h67).1, ?_⟩
  refine h67.wI (x := 8 + x) (by omega) (by omega) (by simp only [List.length_append, List.length_nil]; omega) ⟨by omega, by omega⟩ (fun G74 T74 h74 => ?_)
  refine h74.wU (i := 1) (by omega) (by simp only [List.length_append, List.length_nil]; omega) ⟨by omega, by omega⟩ (fun G79 T79 h79 => ?_)
  refine ⟨_, (rd h79).2, ?_⟩
  refine h79.wI (x := y) (by omega) (by omega) (by simp only [List.length_append, List.length_nil]; omega) ⟨by omega, by omega⟩ (fun G86 T86 h86 => ?_)
  refine h86.wU (i := 2) (by omega) (by simp only [List.length_append, List.length_nil]; omega) ⟨by omega, by omega⟩ (fun G91 T91 h91 => ?_)
  rw [e_hd] at h91
  have hG1 := tG_hd (N := 8 + x) (S := y) (by omega) (by omega) (by omega) (by omega)
  obtain ⟨hJ91, ⟨f91, hq91⟩, v91, cap91, fb91, hr91⟩ := id h91
  have hr91G := hr91.up hJ91
  refine ⟨G91, _, gd_n G91, (gj_n G91).symm, (), j_ob hr91G.1, ⟨by omega, by omega⟩, j_toS hr91G (fun G94 s w g hs hw hsw hS hO G94' _ e94 => ?_)⟩
  rw [show G94' = G94 from e94.trans (gj_n G94)]
  obtain ⟨T94, ⟨hJ94, ⟨f94, hq94⟩, -⟩, hS94⟩ := h91.str hs hw hS hO
  have hJ95 := hJ94.mvT hB0
  have hsb94 : G94 sb = some (gO 15 [.null, .int 0, .int 0, .int 0]) := hJ94.at gva_at
  have nqsb : q ≠ sb := fun w9 => by
    have := hJ94.2.2.2 sb
    rw [gva_at] at this
    rcases this with h9 | h9
    · cases h9
    · rw [← w9, hq94] at h9; cases h9
  have hq95 : (va_up T94 sb (some (gO 15 [.null, .int 0, .int 0, .int 0]))) q = some (.inl (0, 1, f94)) := by rw [gva_ne nqsb]; exact hq94
  refine ⟨s, rfl, G94, _, gd_n G94, (gj_n G94).symm, ⟨by omega, by omega⟩, j_initS hsb94 hS (by have := hG1.1; omega) (fun G97 v97 cap97 fb97 hv97 hr97 hO97 G97' _ e97 => ?_)⟩
  rw [show G97' = G97 from e97.trans (gj_n G97)]
  obtain ⟨T97, h97⟩ := hJ95.mk0 hq95 gva_at hv97 nqsb hr97 hO97
  obtain ⟨C4, R4, d4', e4', w4, p4, r, r0, r1, er, nx4⟩ := h97.draw (m := 6) (by omega) (by omega)
  refine ⟨C4, R4, d4', e4', ⟨by omega, by omega⟩, w4, p4, fun G104 d104 e104 => ?_⟩
  obtain ⟨T104, h104⟩ := nx4 G104 d104 e104
  rw [er, show r = ((r.toNat : Nat) : Int) by omega]
  exact y_L109 (N := 8 + x) (S := y) (F := 1 + z) hA (by omega) (by omega) (by omega) (by omega) (hK e) r.toNat g_N G104 T104 E σ (nFm (8 + x) y) _ 0 13 _ _ (by unfold g_N; omega) (by omega) h104 hE hI3 hn3 hy3 rfl rfl (fun b b0 b1 => by unfold nFm; rw [if_neg (by omega), if_neg (by omega)]) (xOk.hd (by omega) (by omega) (by omega) (by omega) (by omega)) (by omega) hG1 (by omega) (by omega) (by omega)
end yp

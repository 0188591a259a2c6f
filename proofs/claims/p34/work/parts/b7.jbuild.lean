/-! The text grows with the law's disc, is fed and read. -/
section yp
variable {A : gH} {o e q sb : Nat} {na : zN}
theorem yQ.str {G B T : gH} {t : List Int} (h : yQ G A B T q sb t) {G' : gH} {s w : Nat} {g : Nat → Int32} (hs : G s = none) (hw : G w = none) (hS : jStr G' s w g t) (hO : ∀ a, a ≠ s → a ≠ w → G' a = G a) : ∃ T', yQ G' A B T' q sb t ∧ jStr T' s w g t := by
  obtain ⟨hJ, ⟨f0, hq⟩, v, cap, f, hr⟩ := h
  have s1 := hJ.tt hr.1
  have s2 := hJ.tt hr.2.1
  have s3 := hJ.tt hq
  have s4 := hJ.no hs
  have s5 := hJ.no hw
  refine ⟨yRest A B G', ⟨hJ.ch (fun a ha => hO a (fun z => ?_) (fun z => ?_)), ⟨f0, ?_⟩, v, cap, f, ?_, ?_, hr.2.2⟩, ?_, ?_, hS.2.2⟩
  · rw [z] at ha
    rcases ha with y | y
    · exact y s4.1
    · exact y s4.2.1
  · rw [z] at ha
    rcases ha with y | y
    · exact y s5.1
    · exact y s5.2.1
  · rw [yRest_at s3.2.1 s3.2.2, hO q (j_ne s3.1 hs) (j_ne s3.1 hw)]; exact s3.1
  · rw [yRest_at s1.2.1 s1.2.2, hO sb (j_ne s1.1 hs) (j_ne s1.1 hw)]; exact s1.1
  · rw [yRest_at s2.2.1 s2.2.2, hO v (j_ne s2.1 hs) (j_ne s2.1 hw)]; exact s2.1
  · rw [yRest_at s4.1 s4.2.1]; exact hS.1
  · rw [yRest_at s5.1 s5.2.1]; exact hS.2.1
theorem zI_m1 (m : Nat) : zI ((m + 1 : Nat) : Int) + (-1 : Int32) = zI (m : Int) := by
  rw [show (-1 : Int32) = zI (-1) by decide, zI_add]
  congr 1
  omega
theorem zI_pos (m : Nat) (h : m < 1000) : ¬ zI ((m + 1 : Nat) : Int) ≤ (0 : Int32) := by
  rw [j_le0 (by omega) (by omega)]; omega
set_option maxRecDepth 200000 in
set_option maxHeartbeats 4000000 in
/-- versions are written -/
theorem y_L214 (hA : yCo A o na) {N S : Int} {K : Int32 → gH → Prop} (hK : ∀ G' n', yT o e q G' n' → K (1 : Int32) G') : ∀ (m fuel : Nat) (G T : gH) (E : zE) (σ : zW) (n : zN) (t : List Int) (k b kc ks : Nat), m < fuel → m ≤ 100 → yQ G A (zH E σ) T q sb t → zL E 5 0 0 = e → yI E σ n → nW n → yW n → xOk t k N S n → k + m ≤ 25 → tG t b → b + 16 * m ≤ 200 → kc + 13 * m ≤ 150 → ks + 7047 * m ≤ 95000 → w_L_plays_L214 80000 1200000 K fuel G kc ks o q e sb (zI m) := by
  intro m
  induction m with
  | zero =>
    intro fuel G T E σ n t k b kc ks hf hm h hE hI hn hy hx hk hG hb c1 c2
    obtain ⟨f, rfl⟩ : ∃ f, fuel = f + 1 := ⟨fuel - 1, by omega⟩
    rw [w_L_plays_L214]
    rw [if_pos (show zI ((0 : Nat) : Int) ≤ (0 : Int32) by decide)]
    obtain ⟨hJ, ⟨f0, hq⟩, v, cap, fb, hr⟩ := id h
    have hrG := hr.up hJ
    refine ⟨G, _, gd_n G, (gj_n G).symm, (), j_ob hrG.1, ⟨by omega, by omega⟩, j_toS hrG (fun G1 s w g hs hw hsw hS hO G1' _ e1 => ?_)⟩
    rw [show G1' = G1 from e1.trans (gj_n G1)]
    obtain ⟨T1, h1, hS1⟩ := h.str hs hw hS hO
    refine ⟨s, rfl, G1, _, gd_n G1, (gj_n G1).symm, ⟨by omega, by omega⟩, y_feeds hG.2 (by have := hG.1; omega) h1.1 (hA.b (fun _ => 0)) hS1 (fun G2 A2 T2 b2 u2 hJ2 hT2 hA2 hu2 hseg G2' _ e2 => ?_)⟩
    rw [show G2' = G2 from e2.trans (gj_n G2), if_neg (by decide)]
    obtain ⟨hJ1, ⟨f1, hq1⟩, v1, cap1, fb1, hr1⟩ := h1
    have hr2 : jR T2 sb v1 cap1 fb1 t := ⟨hT2 _ _ hr1.1, hT2 _ _ hr1.2.1, hr1.2.2⟩
    have hr2G := hr2.up hJ2
    refine ⟨G2, _, gd_n G2, (gj_n G2).symm, (), j_ob hr2G.1, ⟨by omega, by omega⟩, j_lenW hr2G.1 (fun G3 _ e3 => ?_)⟩
    rw [show G3 = G2 from e3.trans (gj_n G2)]
    obtain ⟨p1, p2, p3, p4⟩ := hx.fin (by omega) hseg
    refine ⟨A2, _, hJ2.a.1, hJ2.a.2, (), hA2.ob, ⟨by omega, by omega⟩, k_parse hA2 (by omega) hu2 p3 p4 p1 (fun A3 hA3 G4 d4 e4 => ?_)⟩
    rw [if_pos (by rfl)]
    rw [p2] at hA3
    have hJ4 := hJ2.a' d4 e4
    rw [show (0 : Int32) = zI ((0 : Nat) : Int) from rfl]
    exact y_L346 hK 18 g_N 0 _ _ G4 n rfl (by unfold g_N; omega) (by omega) (by omega) (by rw [← hE]; exact yT.mk hJ4 hA3 hI hy (hT2 _ _ hq1))
  | succ m ih =>
    intro fuel G T E σ n t k b kc ks hf hm h hE hI hn hy hx hk hG hb c1 c2
    obtain ⟨f, rfl⟩ : ∃ f, fuel = f + 1 := ⟨fuel - 1, by omega⟩
    have hN := hn.1.r
    have y2 := hy.1
    have hNn := yN hI.w hI.r
    rw [w_L_plays_L214]
    rw [if_neg (zI_pos m (by omega)), zI_m1]
    refine ⟨_, h.1.i (by rw [← hE]; exact hNn.2.2.1), ?_⟩
    obtain ⟨C1, R1, d1, e1, w1, p1, x, x0, x1, ex, nx1⟩ := h.draw (m := n 2) (by omega) (by omega)
    refine ⟨C1, R1, d1, e1, ⟨by omega, by omega⟩, w1, p1, fun G1 d1' e1' => ?_⟩
    obtain ⟨T1, h1⟩ := nx1 G1 d1' e1'
    obtain ⟨C2, R2, d2, e2, w2, p2, l, l0, l1, el, nx2⟩ := h1.draw (m := 4) (by omega) (by omega)
    refine ⟨C2, R2, d2, e2, ⟨by omega, by omega⟩, w2, p2, fun G2 d2' e2' => ?_⟩
    obtain ⟨T2, h2⟩ := nx2 G2 d2' e2'
    obtain ⟨C3, R3, d3, e3, w3, p3, g, g0, g1, eg, nx3⟩ := h2.draw (m := 1000) (by omega) (by omega)
    refine ⟨C3, R3, d3, e3, ⟨by omega, by omega⟩, w3, p3, fun G3 d3' e3' => ?_⟩
    obtain ⟨T3, h3⟩ := nx3 G3 d3' e3'
    rw [ex, el, eg, show (1 : Int32) + zI l = zI (1 + l) from zI_add 1 l]
    have rg := nWw_rng n x (1 + l)
    refine ⟨_, _, h3.1.b.1, h3.1.b.2, (), by rw [← hE]; exact yl_ob5 hI, ⟨by omega, by omega⟩, _, by rw [← hE]; exact yl_whyWrite hI.w hI.r hn hy x0 (by omega) (by omega) (by omega), ?_⟩
    by_cases hw : nWw n x (1 + l) = 0
    · rw [if_pos (show zI (nWw n x (1 + l)) ≤ (0 : Int32) by rw [hw]; decide)]
      refine ⟨_, _, h3.1.b.1, h3.1.b.2, (), by rw [← hE]; exact yl_ob5 hI, ⟨by omega, by omega⟩, ?_⟩
      rw [← hE]
      refine yl_write hI hn hy x0 x1 (by omega) (by omega) g0 (by omega) hw (fun E' σ' hI' gr hn' hy' G4 d4 e4 => ?_)
      have h4 : yQ G4 A (zH E' σ') T3 q sb t := ⟨h3.1.b' d4 e4, h3.2⟩
      have hE' : zL E' 5 0 0 = zL E 5 0 0 := (gr 5 0 0 hI.u).2
      have n2 := nWrs_012 hn x0 x1 (by omega) (by omega) g0 (show g ≤ 999 by omega) hw (i := 2) (by omega)
      have hlen := hG.1
      have tl := tU_len 5 (by omega)
      have dl := (dg_len (v := 1 + l)).2
      have dg' := (dg_len (v := g)).2
      refine h4.wU (i := 5) (by omega) (by omega) ⟨by omega, by omega⟩ (fun G5 T5 h5 => ?_)
      rw [e_chr x0 (by omega)]
      refine h5.wC (c := 97 + x) (by omega) (by omega) (by simp only [List.length_append]; omega) ⟨by omega, by omega⟩ (fun G6 T6 h6 => ?_)
      refine h6.wC (c := 32) (by omega) (by omega) (by simp only [List.length_append, List.length_cons, List.length_nil]; omega) ⟨by omega, by omega⟩ (fun G7 T7 h7 => ?_)
      refine h7.wI (x := 1 + l) (by omega) (by omega) (by simp only [List.length_append, List.length_cons, List.length_nil]; omega) ⟨by omega, by omega⟩ (fun G8 T8 h8 => ?_)
      refine h8.wC (c := 32) (by omega) (by omega) (by simp only [List.length_append, List.length_cons, List.length_nil]; omega) ⟨by omega, by omega⟩ (fun G9 T9 h9 => ?_)
      refine h9.wI (x := g) g0 g1 (by simp only [List.length_append, List.length_cons, List.length_nil]; omega) ⟨by omega, by omega⟩ (fun G10 T10 h10 => ?_)
      refine h10.wC (c := 59) (by omega) (by omega) (by simp only [List.length_append, List.length_cons, List.length_nil]; omega) ⟨by omega, by omega⟩ (fun G11 T11 h11 => ?_)
      rw [e_wri] at h11
      rw [hE]
      exact ih f G11 T11 E' σ' _ _ (k + 1) (b + 16) _ _ (by omega) (by omega) h11 (hE'.trans hE) hI' hn' hy' (hx.wri x0 x1 (by omega) (by omega) (by omega) g0 (by omega) hw n2) (by omega) (hG.app (tG_wri x0 (by omega) (by omega) (by omega) g0 g1)) (by omega) (by omega) (by omega)
    · rw [if_neg (show ¬ zI (nWw n x (1 + l)) ≤ (0 : Int32) by rw [j_le0 (by omega) (by omega)]; omega)]
      exact ih f G3 T3 E σ n t k b kc ks (by omega) (by omega) h3 hE hI hn hy hx (by omega) hG (by omega) (by omega) (by omega)
set_option maxRecDepth 200000 in
set_option maxHeartbeats 4000000 in
/-- files are named -/
theorem y_L171 (hA : yCo A o na) {N S F : Int} (F1 : F ≤ 6) {K : Int32 → gH → Prop} (hK : ∀ G' n', yT o e q G' n' → K (1 : Int32) G') {E : zE} {σ : zW} (hE : zL E 5 0 0 = e) : ∀ (m fuel i : Nat) (G T : gH) (n' : zN) (t : List Int) (k b kc ks : Nat), (i : Int) + m = F → m < fuel → yQ G A (zH E σ) T q sb t → yI E σ (zu n' 2 F) → nW (zu n' 2 F) → yW (zu n' 2 F) → n' 2 = i → xOk t k N S n' → k + m ≤ 20 → tG t b → b + 7 * m ≤ 130 → kc + 3 * m ≤ 100 → ks + 3000 * m ≤ 70000 → w_L_plays_L171 80000 1200000 K fuel G kc ks o q e sb (zI i) := by
  intro m
  induction m with
  | zero =>
    intro fuel i G T n' t k b kc ks hi hf h hI hn hy h2 hx hk hG hb c1 c2
    obtain ⟨f, rfl⟩ : ∃ f, fuel = f + 1 := ⟨fuel - 1, by omega⟩
    have hNn := yN hI.w hI.r
    rw [w_L_plays_L171]
    refine ⟨_, h.1.i (by rw [← hE]; exact hNn.2.2.1), ?_⟩
    rw [zu_eq rfl, if_pos (show zI F ≤ zI (i : Int) by rw [zI_le (by omega) (by omega) (by omega) (by omega)]; omega)]
    obtain ⟨C1, R1, d1, e1, w1, p1, x, x0, x1, ex, nx1⟩ := h.draw (m := 4) (by omega) (by omega)
    refine ⟨C1, R1, d1, e1, ⟨by omega, by omega⟩, w1, p1, fun G1 d1' e1' => ?_⟩
    obtain ⟨T1, h1⟩ := nx1 G1 d1' e1'
    have en : zu n' 2 F = n' := zu_id (by omega)
    rw [en] at hI hn hy
    rw [ex, show x = ((x.toNat : Nat) : Int) by omega]
    exact y_L214 hA hK x.toNat g_N G1 T1 E σ n' t k b _ _ (by unfold g_N; omega) (by omega) h1 hE hI hn hy hx (by omega) hG (by omega) (by omega) (by omega)
  | succ m ih =>
    intro fuel i G T n' t k b kc ks hi hf h hI hn hy h2 hx hk hG hb c1 c2
    obtain ⟨f, rfl⟩ : ∃ f, fuel = f + 1 := ⟨fuel - 1, by omega⟩
    have hNn := yN hI.w hI.r
    rw [w_L_plays_L171]
    refine ⟨_, h.1.i (by rw [← hE]; exact hNn.2.2.1), ?_⟩
    rw [zu_eq rfl, if_neg (show ¬ zI F ≤ zI (i : Int) by rw [zI_le (by omega) (by omega) (by omega) (by omega)]; omega)]
    have hlen := hG.1
    have tl := tU_len 4 (by omega)
    refine h.wU (i := 4) (by omega) (by omega) ⟨by omega, by omega⟩ (fun G5 T5 h5 => ?_)
    rw [e_chr (f := (i : Int)) (by omega) (by omega)]
    refine h5.wC (c := 97 + (i : Int)) (by omega) (by omega) (by simp only [List.length_append]; omega) ⟨by omega, by omega⟩ (fun G6 T6 h6 => ?_)
    refine h6.wC (c := 59) (by omega) (by omega) (by simp only [List.length_append, List.length_cons, List.length_nil]; omega) ⟨by omega, by omega⟩ (fun G7 T7 h7 => ?_)
    rw [e_fil] at h7
    have hx' := hx.fil (by omega) (by omega)
    rw [h2] at hx'
    rw [show zI (i : Int) + (1 : Int32) = zI ((i + 1 : Nat) : Int) from zI_add i 1]
    have en : zu (zu n' 2 ((i : Int) + 1)) 2 F = zu n' 2 F := zu_zu
    exact ih f (i + 1) G7 T7 (zu n' 2 ((i : Int) + 1)) _ (k + 1) (b + 7) _ _ (by omega) (by omega) h7 (by rw [en]; exact hI) (by rw [en]; exact hn) (by rw [en]; exact hy) (by rw [zu_eq rfl]; omega) hx' (by omega) (hG.app (tG_fil (by omega) (by omega))) (by omega) (by omega) (by omega)
set_option maxRecDepth 200000 in
set_option maxHeartbeats 4000000 in
/-- bad marks -/
theorem y_L109 (hA : yCo A o na) {N S F : Int} (N0 : 8 ≤ N) (N1 : N ≤ 47) (F0 : 1 ≤ F) (F1 : F ≤ 6) {K : Int32 → gH → Prop} (hK : ∀ G' n', yT o e q G' n' → K (1 : Int32) G') : ∀ (m fuel : Nat) (G T : gH) (E : zE) (σ : zW) (n' : zN) (t : List Int) (k b kc ks : Nat), m < fuel → m ≤ 100 → yQ G A (zH E σ) T q sb t → zL E 5 0 0 = e → yI E σ (zu n' 2 F) → nW (zu n' 2 F) → yW (zu n' 2 F) → n' 2 = 0 → n' 0 = N → (∀ b, 0 ≤ b → b < 96 → n' (7 + b) = 0) → xOk t k N S n' → k + m ≤ 10 → tG t b → b + 8 * m ≤ 80 → kc + 3 * m ≤ 75 → ks + 3000 * m ≤ 45000 → w_L_plays_L109 80000 1200000 K fuel G kc ks o q e sb (zI m) := by
  intro m
  induction m with
  | zero =>
    intro fuel G T E σ n' t k b kc ks hf hm h hE hI hn hy h2 h0 h7 hx hk hG hb c1 c2
    obtain ⟨f, rfl⟩ : ∃ f, fuel = f + 1 := ⟨fuel - 1, by omega⟩
    rw [w_L_plays_L109]
    rw [if_pos (show zI ((0 : Nat) : Int) ≤ (0 : Int32) by decide)]
    rw [show (0 : Int32) = zI ((0 : Nat) : Int) from rfl]
    exact y_L171 hA F1 hK hE F.toNat g_N 0 G T n' t k b kc ks (by omega) (by unfold g_N; omega) h hI hn hy (by omega) hx (by omega) hG (by omega) (by omega) (by omega)
  | succ m ih =>
    intro fuel G T E σ n' t k b kc ks hf hm h hE hI hn hy h2 h0 h7 hx hk hG hb c1 c2
    obtain ⟨f, rfl⟩ : ∃ f, fuel = f + 1 := ⟨fuel - 1, by omega⟩
    have hNn := yN hI.w hI.r
    rw [w_L_plays_L109]
    rw [if_neg (zI_pos m (by omega)), zI_m1]
    refine ⟨_, h.1.i (by rw [← hE]; exact hNn.1), ?_⟩
    rw [show zu n' 2 F 0 = N from h0]
    obtain ⟨C1, R1, d1, e1, w1, p1, x, x0, x1, ex, nx1⟩ := h.draw (m := N) (by omega) (by omega)
    refine ⟨C1, R1, d1, e1, ⟨by omega, by omega⟩, w1, p1, fun G1 d1' e1' => ?_⟩
    obtain ⟨T1, h1⟩ := nx1 G1 d1' e1'
    rw [ex]
    have hb103 := (hn.2.1 x x0 (by omega)).2.1
    have e103 : zu n' 2 F (103 + x) = n' (103 + x) := zu_ne (by omega)
    have hr12 : g_r (zH E σ) e 10 12 = some (zL E 5 0 12) := by
      rw [← hE]
      simp only [zz_ldo (σ := σ) hI.w hI.u]
    refine ⟨_, h1.1.r hr12, _, h1.1.ald ((yB hI.w hI.r).2.2.2.2.2.1 x x0 (by omega)), ?_⟩
    rw [e103]
    rw [e103] at hb103
    by_cases z : n' (103 + x) = 0
    · rw [if_pos (show zI (n' (103 + x)) = (0 : Int32) by rw [z]; rfl)]
      obtain ⟨b1, b2, b3, b4⟩ := yl_bad hI hn hy x0 (by omega) (by rw [zu_ne (by omega)]; exact h7 x x0 (by omega))
      obtain ⟨G2, g1, hJ2⟩ := h1.1.ast b1
      refine ⟨_, h1.1.r hr12, G2, g1, ?_⟩
      have h3 : yQ G2 A (zH E (zs σ 5 0 12 x 1)) T1 q sb t := ⟨hJ2, h1.2⟩
      have hlen := hG.1
      have tl := tU_len 3 (by omega)
      have dl := (dg_len (v := x)).2
      refine h3.wU (i := 3) (by omega) (by omega) ⟨by omega, by omega⟩ (fun G5 T5 h5 => ?_)
      refine h5.wI (x := x) x0 (by omega) (by simp only [List.length_append]; omega) ⟨by omega, by omega⟩ (fun G6 T6 h6 => ?_)
      refine h6.wC (c := 59) (by omega) (by omega) (by simp only [List.length_append, List.length_cons, List.length_nil]; omega) ⟨by omega, by omega⟩ (fun G7 T7 h7' => ?_)
      rw [e_bad] at h7'
      have en : zu (zu n' 2 F) (103 + x) 1 = zu (zu n' (103 + x) 1) 2 F := zu_sw (by omega)
      rw [en] at b2 b3 b4
      exact ih f G7 T7 E _ (zu n' (103 + x) 1) _ (k + 1) (b + 8) _ _ (by omega) (by omega) h7' hE b2 b3 b4 (by rw [zu_ne (by omega)]; exact h2) (by rw [zu_ne (by omega)]; exact h0) (fun c c0 c1 => by rw [zu_ne (by omega)]; exact h7 c c0 c1) (hx.bad x0 (by omega) (by omega) z) (by omega) (hG.app (tG_bad x0 (by omega))) (by omega) (by omega) (by omega)
    · rw [if_neg (show ¬ zI (n' (103 + x)) = (0 : Int32) from zI_ne (by omega) (by omega) (by omega) (by omega) z)]
      exact ih f G1 T1 E σ n' t k b kc ks (by omega) (by omega) h1 hE hI hn hy h2 h0 h7 hx (by omega) hG (by omega) (by omega) (by omega)
end yp

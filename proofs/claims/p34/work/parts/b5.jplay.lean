/-! The worlds while the law builds its text, and its rounds. -/
/-- what stands beside two worlds -/
def yRest (A B G : gH) : gH := fun a => match A a, B a with
  | none, none => G a
  | _, _ => none
section yp
variable {G A B T : gH}
theorem yRest_at {a : Nat} (h1 : A a = none) (h2 : B a = none) : yRest A B G a = G a := by unfold yRest; rw [h1, h2]
theorem yJ.ch (h : yJ G A B T) {G' : gH} (hO : ∀ a, (A a ≠ none ∨ B a ≠ none) → G' a = G a) : yJ G' A B (yRest A B G') := by
  refine ⟨?_, h.2.1, fun a => ?_, fun a => ?_⟩
  · funext a
    unfold gj yRest
    cases hA : A a with
    | some e => 
      have := hO a (Or.inl (by rw [hA]; simp))
      rw [this, h.1]; unfold gj; rw [hA]
    | none =>
      cases hB : B a with
      | some e =>
        have := hO a (Or.inr (by rw [hB]; simp))
        rw [this, h.1]; unfold gj; rw [hA, hB]
      | none => rfl
  · cases hA : A a with
    | none => exact Or.inl rfl
    | some e => right; unfold yRest; rw [hA]
  · cases hB : B a with
    | none => exact Or.inl rfl
    | some e =>
      right; unfold yRest; rw [hB]
      cases A a <;> rfl
theorem jR.up {sb v cap : Nat} {f : Nat → Int32} {t : List Int} (h : jR T sb v cap f t) (hJ : yJ G A B T) : jR G sb v cap f t := ⟨(hJ.tt h.1).1, (hJ.tt h.2.1).1, h.2.2⟩
/-- the two worlds, the seed's row and the growing text beside them -/
def yQ (G A B T : gH) (q sb : Nat) (t : List Int) : Prop := yJ G A B T ∧ (∃ f, T q = some (.inl (0, 1, f))) ∧ ∃ v cap f, jR T sb v cap f t
theorem yJ.next (hJ : yJ G A B T) {G' : gH} {q sb v v' cap cap' : Nat} {f f' f0 : Nat → Int32} {t t' : List Int} (hq : T q = some (.inl (0, 1, f0))) (hr : jR T sb v cap f t) (hx : jX G G' sb v v') (hr' : jR G' sb v' cap' f' t') : ∃ T', yQ G' A B T' q sb t' := by
  have s1 := hJ.tt hr.1
  have s2 := hJ.tt hr.2.1
  have s3 := hJ.tt hq
  have s4 : A v' = none ∧ B v' = none := by
    rcases hx.1 with z | z
    · rw [z]; exact s2.2
    · exact ⟨(hJ.no z).1, (hJ.no z).2.1⟩
  have n1 : q ≠ sb := fun z => by have := s3.1; rw [z, s1.1] at this; cases this
  have n2 : q ≠ v' := by
    rcases hx.1 with z | z
    · rw [z]; intro y; have := s3.1; rw [y, s2.1] at this; cases this
    · exact j_ne s3.1 z
  refine ⟨yRest A B G', hJ.ch (fun a ha => hx.2 a (fun z => ?_) (fun z => ?_)), ⟨f0, ?_⟩, v', cap', f', ?_, ?_, hr'.2.2⟩
  · rw [z] at ha
    rcases ha with y | y
    · exact y s1.2.1
    · exact y s1.2.2
  · rw [z] at ha
    rcases ha with y | y
    · exact y s4.1
    · exact y s4.2
  · rw [yRest_at s3.2.1 s3.2.2, hx.2 q n1 n2]; exact s3.1
  · rw [yRest_at s1.2.1 s1.2.2]; exact hr'.1
  · rw [yRest_at s4.1 s4.2]; exact hr'.2.1
variable {q sb : Nat} {t : List Int}
theorem yQ.wU (h : yQ G A B T q sb t) {i : Nat} (hi : i < 6) (hm : t.length + (tU i).length ≤ 400) {P : Prop} (hP : P) {X : Nat → gH → Prop} (hK : ∀ G' T', yQ G' A B T' q sb (t ++ tU i) → X sb G') : ∃ C R : gH, gd C R ∧ G = gj C R ∧ ∃ u, g_ob C sb 15 = some u ∧ P ∧ w_J4_append_15ec4_U 1 1000 C sb i (fun v D => ∀ G' : gH, gd D R → G' = gj D R → ∃ r, v = some r ∧ X r G') := by
  obtain ⟨hJ, ⟨f0, hq⟩, v, cap, f, hr⟩ := h
  refine ⟨G, _, gd_n G, (gj_n G).symm, (), j_ob (hr.up hJ).1, hP, j_appU (hr.up hJ) hi hm (fun G' v' cap' f' x r' G2 _ eG => ?_)⟩
  rw [show G2 = G' from eG.trans (gj_n G')]
  obtain ⟨T', a⟩ := hJ.next hq hr x r'
  exact ⟨sb, rfl, hK G' T' a⟩
theorem yQ.wC (h : yQ G A B T q sb t) {c : Int} (c0 : 0 ≤ c) (c1 : c < 128) (hm : t.length + 1 ≤ 400) {P : Prop} (hP : P) {X : Nat → gH → Prop} (hK : ∀ G' T', yQ G' A B T' q sb (t ++ [c]) → X sb G') : ∃ C R : gH, gd C R ∧ G = gj C R ∧ ∃ u, g_ob C sb 15 = some u ∧ P ∧ w_J4_append_cf468 1 1000 C sb (zI c) (fun v D => ∀ G' : gH, gd D R → G' = gj D R → ∃ r, v = some r ∧ X r G') := by
  obtain ⟨hJ, ⟨f0, hq⟩, v, cap, f, hr⟩ := h
  refine ⟨G, _, gd_n G, (gj_n G).symm, (), j_ob (hr.up hJ).1, hP, j_appC (hr.up hJ) c0 c1 hm (fun G' v' cap' f' x r' G2 _ eG => ?_)⟩
  rw [show G2 = G' from eG.trans (gj_n G')]
  obtain ⟨T', a⟩ := hJ.next hq hr x r'
  exact ⟨sb, rfl, hK G' T' a⟩
theorem yQ.wI (h : yQ G A B T q sb t) {x : Int} (x0 : 0 ≤ x) (x1 : x < 1000) (hm : t.length + 3 ≤ 400) {P : Prop} (hP : P) {X : Nat → gH → Prop} (hK : ∀ G' T', yQ G' A B T' q sb (t ++ dg x) → X sb G') : ∃ C R : gH, gd C R ∧ G = gj C R ∧ ∃ u, g_ob C sb 15 = some u ∧ P ∧ w_J4_append_bf812 1 1000 C sb (zI x) (fun v D => ∀ G' : gH, gd D R → G' = gj D R → ∃ r, v = some r ∧ X r G') := by
  obtain ⟨hJ, ⟨f0, hq⟩, v, cap, f, hr⟩ := h
  refine ⟨G, _, gd_n G, (gj_n G).symm, (), j_ob (hr.up hJ).1, hP, j_appI (hr.up hJ) x0 x1 hm (fun G' v' cap' f' x r' G2 _ eG => ?_)⟩
  rw [show G2 = G' from eG.trans (gj_n G')]
  obtain ⟨T', a⟩ := hJ.next hq hr x r'
  exact ⟨sb, rfl, hK G' T' a⟩
theorem yQ.draw (h : yQ G A B T q sb t) {m : Int} (m0 : 0 < m) (m1 : m < 100000) : ∃ C R : gH, gd C R ∧ G = gj C R ∧ ∃ w, f_L_draw C q (zI m) = some w ∧ ∃ r : Int, 0 ≤ r ∧ r < m ∧ w.2 = zI r ∧ ∀ G' : gH, gd w.1 R → G' = gj w.1 R → ∃ T', yQ G' A B T' q sb t := by
  obtain ⟨hJ, ⟨f0, hq⟩, v, cap, f, hr⟩ := h
  obtain ⟨C, R, d, e, w, p, r, r0, r1, er, nx⟩ := hJ.draw hq m0 m1
  refine ⟨C, R, d, e, w, p, r, r0, r1, er, fun G' d' e' => ?_⟩
  obtain ⟨f1, hJ1⟩ := nx G' d' e'
  have n1 : sb ≠ q := fun z => by have := hr.1; rw [z, hq] at this; cases this
  have n2 : v ≠ q := fun z => by have := hr.2.1; rw [z, hq] at this; cases this
  exact ⟨_, hJ1, ⟨f1, gva_at⟩, v, cap, f, by rw [gva_ne n1]; exact hr.1, by rw [gva_ne n2]; exact hr.2.1, hr.2.2⟩
set_option maxRecDepth 200000 in
/-- eighteen rounds -/
theorem y_L346 {o e : Nat} {K : Int32 → gH → Prop} (hK : ∀ G' n', yT o e q G' n' → K (1 : Int32) G') : ∀ (m fuel j kc ks : Nat) (G : gH) (n : zN), j + m = 18 → m < fuel → kc + 3300 * m ≤ 80000 → ks + 51000 * m ≤ 1200000 → yT o e q G n → w_L_plays_L346 80000 1200000 K fuel G kc ks o q e (zI j) := by
  intro m
  induction m with
  | zero =>
    intro fuel j kc ks G n hj hf c1 c2 h
    obtain ⟨f, rfl⟩ : ∃ f, fuel = f + 1 := ⟨fuel - 1, by omega⟩
    obtain rfl : j = 18 := by omega
    rw [w_L_plays_L346]
    rw [if_pos (show (18 : Int32) ≤ zI ((18 : Nat) : Int) by decide)]
    exact ⟨by omega, by omega, hK G n h⟩
  | succ m ih =>
    intro fuel j kc ks G n hj hf c1 c2 h
    obtain ⟨f, rfl⟩ : ∃ f, fuel = f + 1 := ⟨fuel - 1, by omega⟩
    rw [w_L_plays_L346]
    rw [if_neg (show ¬ (18 : Int32) ≤ zI (j : Int) from by
      show ¬ zI 18 ≤ zI (j : Int)
      rw [zI_le (by omega) (by omega) (by omega) (by omega)]; omega)]
    refine ⟨G, _, gd_n G, (gj_n G).symm, ⟨by omega, by omega⟩, yl_changes h (fun G1 n1 h1 G1' _ e1 => ?_)⟩
    rw [show G1' = G1 from e1.trans (gj_n G1), if_neg (by decide)]
    refine ⟨G1, _, gd_n G1, (gj_n G1).symm, ⟨by omega, by omega⟩, yl_blocks h1 (fun G2 h2 G2' _ e2 => ?_)⟩
    rw [show G2' = G2 from e2.trans (gj_n G2), if_neg (by decide)]
    refine ⟨G2, _, gd_n G2, (gj_n G2).symm, ⟨by omega, by omega⟩, yl_sessions h2 (fun G3 h3 G3' _ e3 => ?_)⟩
    rw [show G3' = G3 from e3.trans (gj_n G3), if_neg (by decide)]
    refine ⟨G3, _, gd_n G3, (gj_n G3).symm, ⟨by omega, by omega⟩, yl_files h3 (fun G4 h4 G4' _ e4 => ?_)⟩
    rw [show G4' = G4 from e4.trans (gj_n G4), if_neg (by decide)]
    rw [show zI (j : Int) + (1 : Int32) = zI ((j + 1 : Nat) : Int) from zI_add j 1]
    exact ih f (j + 1) _ _ G4 n1 (by omega) (by omega) (by omega) (by omega) h4
end yp

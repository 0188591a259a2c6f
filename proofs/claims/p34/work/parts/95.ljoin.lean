/-! Two worlds and what stands beside them. -/
def yJ (G A B T : gH) : Prop := G = gj A (gj B T) ∧ gd A B ∧ gd A T ∧ gd B T
section yR
variable {G A B T : gH}
theorem gj_n0 {A B : gH} {a : Nat} : gj A B a = none ↔ A a = none ∧ B a = none := by
  unfold gj
  cases h : A a <;> simp
theorem gd_j {A B T : gH} (h1 : gd A B) (h2 : gd A T) : gd A (gj B T) := by
  intro a
  rcases h1 a with z | z
  · exact Or.inl z
  · rcases h2 a with y | y
    · exact Or.inl y
    · exact Or.inr (gj_n0.mpr ⟨z, y⟩)
theorem gd_j1 {A B T : gH} (h : gd A (gj B T)) : gd A B ∧ gd A T := by
  refine ⟨fun a => ?_, fun a => ?_⟩ <;> rcases h a with z | z
  · exact Or.inl z
  · exact Or.inr (gj_n0.mp z).1
  · exact Or.inl z
  · exact Or.inr (gj_n0.mp z).2
theorem gd_s {A B : gH} (h : gd A B) : gd B A := fun a => (h a).symm
theorem gj_c {A B T : gH} (h : gd A B) : gj A (gj B T) = gj B (gj A T) := by
  funext a
  unfold gj
  rcases h a with z | z <;> rw [z] <;> cases A a <;> cases B a <;> rfl
theorem yJ.sw (h : yJ G A B T) : yJ G B A T := ⟨h.1.trans (gj_c h.2.1), gd_s h.2.1, h.2.2.2, h.2.2.1⟩
/-- the frame of the one world, and back -/
theorem yJ.a (h : yJ G A B T) : gd A (gj B T) ∧ G = gj A (gj B T) := ⟨gd_j h.2.1 h.2.2.1, h.1⟩
theorem yJ.b (h : yJ G A B T) : gd B (gj A T) ∧ G = gj B (gj A T) := h.sw.a
theorem yJ.a' (h : yJ G A B T) {A' G' : gH} (hd : gd A' (gj B T)) (hG : G' = gj A' (gj B T)) : yJ G' A' B T := ⟨hG, (gd_j1 hd).1, (gd_j1 hd).2, h.2.2.2⟩
theorem yJ.b' (h : yJ G A B T) {B' G' : gH} (hd : gd B' (gj A T)) (hG : G' = gj B' (gj A T)) : yJ G' A B' T := (h.sw.a' hd hG).sw
/-- where the second world has something, the whole has it -/
theorem yJ.at (h : yJ G A B T) {a : Nat} {e : gE} (hb : B a = some e) : G a = some e := by
  rw [h.1]
  have hA : A a = none := by
    rcases h.2.1 a with z | z
    · exact z
    · rw [hb] at z; cases z
  unfold gj; rw [hA, hb]
theorem yJ.tt (h : yJ G A B T) {a : Nat} {e : gE} (hb : T a = some e) : G a = some e ∧ A a = none ∧ B a = none := by
  have hA : A a = none := by
    rcases h.2.2.1 a with z | z
    · exact z
    · rw [hb] at z; cases z
  have hB : B a = none := by
    rcases h.2.2.2 a with z | z
    · exact z
    · rw [hb] at z; cases z
  refine ⟨?_, hA, hB⟩
  rw [h.1]; unfold gj; rw [hA, hB, hb]
theorem yJ.no (h : yJ G A B T) {a : Nat} (hb : G a = none) : A a = none ∧ B a = none ∧ T a = none := by
  rw [h.1] at hb
  obtain ⟨h1, h2⟩ := gj_n0.mp hb
  exact ⟨h1, gj_n0.mp h2⟩
theorem gd_up {A B : gH} {a : Nat} {x : Option gE} (h : gd A B) (hA : A a = none) : gd A (va_up B a x) := by
  intro c
  by_cases z : c = a
  · exact Or.inl (by rw [z]; exact hA)
  · rw [gva_ne z]; exact h c
/-- a change in what stands beside -/
theorem yJ.upT (h : yJ G A B T) {a : Nat} (hA : A a = none) (hB : B a = none) (x : Option gE) : yJ (va_up G a x) A B (va_up T a x) := by
  refine ⟨?_, h.2.1, gd_up h.2.2.1 hA, gd_up h.2.2.2 hB⟩
  funext c
  rw [h.1]
  unfold gj
  by_cases z : c = a
  · rw [z, gva_at, hA, hB, gva_at]
  · rw [gva_ne z, gva_ne z]
theorem yJ.upB (h : yJ G A B T) {a : Nat} {e e' : gE} (hb : B a = some e) : yJ (va_up G a (some e')) A (va_up B a (some e')) T := by
  have hA : A a = none := by
    rcases h.2.1 a with z | z
    · exact z
    · rw [hb] at z; cases z
  have hT : T a = none := by
    rcases h.2.2.2 a with z | z
    · rw [hb] at z; cases z
    · exact z
  refine ⟨?_, gd_up h.2.1 hA, h.2.2.1, gd_s (gd_up (gd_s h.2.2.2) hT)⟩
  funext c
  rw [h.1]
  unfold gj
  by_cases z : c = a
  · rw [z, gva_at, hA, gva_at]
  · rw [gva_ne z, gva_ne z]
theorem g_V_c {H : gH} {a ci k : Nat} (h : H a = G a) : g_V H a ci k = g_V G a ci k := by unfold g_V; rw [h]
theorem g_V_s {a ci k : Nat} {v : Value} (h : g_V G a ci k = some v) : ∃ e, G a = some e := by
  unfold g_V at h
  cases z : G a with
  | none => rw [z] at h; cases h
  | some e => exact ⟨e, rfl⟩
theorem g_i_s {a ci k : Nat} {v : Int32} (h : g_i G a ci k = some v) : ∃ e, G a = some e := by
  unfold g_i at h
  cases z : g_V G a ci k with
  | none => rw [z] at h; cases h
  | some w => exact g_V_s z
theorem g_r_s {a ci k : Nat} {v : Nat} (h : g_r G a ci k = some v) : ∃ e, G a = some e := by
  unfold g_r at h
  cases z : g_V G a ci k with
  | none => rw [z] at h; cases h
  | some w => exact g_V_s z
theorem yJ.i (h : yJ G A B T) {a ci k : Nat} {v : Int32} (hb : g_i B a ci k = some v) : g_i G a ci k = some v := by
  obtain ⟨e, he⟩ := g_i_s hb
  unfold g_i at hb ⊢
  rwa [g_V_c (G := B) (by rw [he]; exact h.at he)]
theorem yJ.r (h : yJ G A B T) {a ci k : Nat} {v : Nat} (hb : g_r B a ci k = some v) : g_r G a ci k = some v := by
  obtain ⟨e, he⟩ := g_r_s hb
  unfold g_r at hb ⊢
  rwa [g_V_c (G := B) (by rw [he]; exact h.at he)]

theorem yJ.ob (h : yJ G A B T) {a ci : Nat} {v : Unit} (hb : g_ob B a ci = some v) : g_ob G a ci = some v := by
  have : ∃ e, B a = some e := by
    unfold g_ob at hb
    cases z : B a with
    | none => rw [z] at hb; cases hb
    | some e => exact ⟨e, rfl⟩
  obtain ⟨e, he⟩ := this
  unfold g_ob at hb ⊢
  rw [h.at he, ← he]; exact hb
theorem yJ.ald (h : yJ G A B T) {t a : Nat} {i v : Int32} (hb : g_ald t B a i = some v) : g_ald t G a i = some v := by
  have : ∃ e, B a = some e := by
    unfold g_ald at hb
    cases z : B a with
    | none => rw [z] at hb; cases hb
    | some e => exact ⟨e, rfl⟩
  obtain ⟨e, he⟩ := this
  unfold g_ald at hb ⊢
  rw [h.at he, ← he]; exact hb
theorem yJ.rald (h : yJ G A B T) {t a : Nat} {i : Int32} {v : Option Nat} (hb : g_rald t B a i = some v) : g_rald t G a i = some v := by
  have : ∃ e, B a = some e := by
    unfold g_rald at hb
    cases z : B a with
    | none => rw [z] at hb; cases hb
    | some e => exact ⟨e, rfl⟩
  obtain ⟨e, he⟩ := this
  unfold g_rald at hb ⊢
  rw [h.at he, ← he]; exact hb
theorem yJ.len (h : yJ G A B T) {a : Nat} {v : Int32} (hb : g_len B a = some v) : g_len G a = some v := by
  have : ∃ e, B a = some e := by
    unfold g_len at hb
    cases z : B a with
    | none => rw [z] at hb; cases hb
    | some e => exact ⟨e, rfl⟩
  obtain ⟨e, he⟩ := this
  unfold g_len at hb ⊢
  rw [h.at he, ← he]; exact hb
theorem yJ.put (h : yJ G A B T) {a ci k : Nat} {v : Value} {B' : gH} (hb : g_put B a ci k v = some B') : ∃ G', g_put G a ci k v = some G' ∧ yJ G' A B' T := by
  have : ∃ e e', B a = some e ∧ B' = va_up B a (some e') ∧ ∀ H : gH, H a = some e → g_put H a ci k v = some (va_up H a (some e')) := by
    unfold g_put at hb ⊢
    cases z : B a with
    | none => rw [z] at hb; cases hb
    | some e =>
      rw [z] at hb
      split at hb
      · split at hb
        · rename_i hc
          refine ⟨e, _, rfl, (Option.some.inj hb).symm, fun H hH => ?_⟩
          rename_i q
          rw [hH, q]
          simp only [hc]
          simp
        · cases hb
      · cases hb
  obtain ⟨e, e', h1, h2, h3⟩ := this
  exact ⟨_, h3 G (h.at h1), by rw [h2]; exact h.upB h1⟩
theorem yJ.ast (h : yJ G A B T) {t a : Nat} {i v : Int32} {B' : gH} (hb : g_ast t B a i v = some B') : ∃ G', g_ast t G a i v = some G' ∧ yJ G' A B' T := by
  have : ∃ e e', B a = some e ∧ B' = va_up B a (some e') ∧ ∀ H : gH, H a = some e → g_ast t H a i v = some (va_up H a (some e')) := by
    unfold g_ast at hb ⊢
    cases z : B a with
    | none => rw [z] at hb; cases hb
    | some e =>
      rw [z] at hb
      split at hb
      · split at hb
        · rename_i hc
          refine ⟨e, _, rfl, (Option.some.inj hb).symm, fun H hH => ?_⟩
          rename_i q
          rw [hH, q]
          simp only [hc]
          simp
        · cases hb
      · cases hb
  obtain ⟨e, e', h1, h2, h3⟩ := this
  exact ⟨_, h3 G (h.at h1), by rw [h2]; exact h.upB h1⟩
theorem yJ.rast (h : yJ G A B T) {t a : Nat} {i : Int32} {v : Option Nat} {B' : gH} (hb : g_rast t B a i v = some B') : ∃ G', g_rast t G a i v = some G' ∧ yJ G' A B' T := by
  have : ∃ e e', B a = some e ∧ B' = va_up B a (some e') ∧ ∀ H : gH, H a = some e → g_rast t H a i v = some (va_up H a (some e')) := by
    unfold g_rast at hb ⊢
    cases z : B a with
    | none => rw [z] at hb; cases hb
    | some e =>
      rw [z] at hb
      split at hb
      · split at hb
        · rename_i hc
          refine ⟨e, _, rfl, (Option.some.inj hb).symm, fun H hH => ?_⟩
          rename_i q
          rw [hH, q]
          simp only [hc]
          simp
        · cases hb
      · cases hb
  obtain ⟨e, e', h1, h2, h3⟩ := this
  exact ⟨_, h3 G (h.at h1), by rw [h2]; exact h.upB h1⟩
end yR


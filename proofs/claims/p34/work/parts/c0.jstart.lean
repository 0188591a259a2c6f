/-! The class's object, new. -/
theorem zS0_ne {k d c : Nat} (h : ¬ (k = 2 ∧ (c = 0 ∨ c = 3)) ∧ ¬ (k = 3 ∧ c = 0)) : zS0 k d c = fun _ => 0 := by
  funext i
  unfold zS0
  rw [if_neg (by omega), if_neg (by omega), if_neg (by omega), if_neg (by omega)]
abbrev zN9 : gE := gO 9 [.null, .null, .null, .null, .null, .null, .null]
/-- the class's object is made: a world of its own, its disc of eight blocks -/
def zW1 (E : zE) (σ : zW) : Prop := zWF E ∧ (∀ k d, zU E k d = yN1 k d) ∧ zRd (σ 0 0) (nFm 8 0) ∧ ∀ k d c, ¬ (k = 0 ∧ d = 0) → σ k d c = zS0 k d c
theorem z_start9 {a0 : Nat} {K : gH → Prop} (h : ∀ E σ, zW1 E σ → zL E 2 0 0 = a0 → K (zH E σ)) : w_X9_init (va_up (fun _ => none) a0 (some zN9)) a0 K := by
  refine gi_X9 gva_at ?_
  intros
  rename_i hg
  obtain ⟨E, hW, hU, hL, hH⟩ := c9_world hg
  have hm : zU E 2 0 = true := by rw [hU]; rfl
  have hu : zU E 0 0 = true := by rw [hU]; rfl
  rw [← hH, ← hL]
  have m5 := zg_ma5 (σ := zS0) hW hm
  have hd : (zS0 2 0 0 5).toNat = 0 := rfl
  rw [hd] at m5
  have od : g_ob (zH E zS0) (zL E 0 0 0) 1 = some () := by simp only [zz_dco (σ := zS0) hW hu]
  obtain ⟨σ', f1, f2, f3, f4⟩ := e1_format (E := E) (σ := zS0) (d := 0) (b := 8) (s := 0) hW hu (by omega) (by omega) (by omega) (by omega) (by omega)
  exact ⟨_, m5, (), od, _, f1, h E σ' ⟨hW, hU, f4, f2⟩ hL⟩
theorem yCo_start {E : zE} {σ : zW} (w : zW1 E σ) : yCo (zH E σ) (zL E 2 0 0) (nFm 8 0) := by
  obtain ⟨hW, hU, hR, hS⟩ := w
  have n2 : ∀ i, 2 ≤ i → nFm 8 0 i = 0 := fun i hi => by unfold nFm; rw [if_neg (by omega), if_neg (by omega)]
  have hsh : zSh (fun _ => 0) σ 0 (nFm 8 0) := ⟨hR, nFm_W (by omega) (by omega) (by omega) (by omega) (by omega), fun i i0 i1 => by rw [n2 2 (by omega)] at i1; omega⟩
  have hz : ∀ k d c, ¬ (k = 0 ∧ d = 0) → ¬ (k = 2 ∧ (c = 0 ∨ c = 3)) ∧ ¬ (k = 3 ∧ c = 0) → ∀ i, σ k d c i = 0 := fun k d c z1 z3 i => by rw [hS k d c z1, zS0_ne z3]
  have hUE : ∀ k d, zU E k d = true ↔ (k = 0 ∧ (d = 0 ∨ d = 1)) ∨ (k = 1 ∧ (d = 0 ∨ d = 1 ∨ d = 14)) ∨ (k = 2 ∧ d = 0) := by
    intro k d
    rw [hU, yN1_iff]
  refine ⟨fun _ => 0, E, σ, 0, 1, 0, fun _ => nFm 8 0, fun _ => false, fun _ => nFm 8 0, ⟨hW, fun d => ?_, trivial, trivial, ?_, (hUE 1 14).mpr (by omega), 15, by omega, fun d hd => ?_⟩, ⟨⟨⟨?_, ?_, by omega⟩, ⟨(hUE 0 0).mpr (by omega), (hUE 1 0).mpr (by omega), (hUE 0 1).mpr (by omega), (hUE 1 1).mpr (by omega)⟩, fun c hc j => Or.inl (hz 2 0 c (by omega) (by omega) j), fun c c' j j' s hc hc' e1 e2 => ?_⟩, hsh, ⟨0, ?_, by omega, by omega, ?_, by omega, by omega, fun k k0 k1 => by omega⟩, fun j j0 j1 => ⟨hz 2 0 7 (by omega) (by omega) j, fun h => by simp at h⟩⟩, rfl, rfl, hz 2 0 1 (by omega) (by omega) 1⟩
  · rw [hUE]; omega
  · cases h : zU E 9 0 with
    | false => rfl
    | true => exact absurd ((hUE 9 0).mp h) (by omega)
  · rw [hUE, hUE] at hd; omega
  · rw [hS 2 0 0 (by omega)]; rfl
  · rw [hS 2 0 0 (by omega)]; rfl
  · rw [hz 2 0 c (by omega) (by omega) j] at e1; omega
  · rw [hS 2 0 4 (by omega)]; rfl
  · rw [hS 2 0 4 (by omega)]; rfl
/-- new OnceDisc(), over a part of the world that holds only the new object -/
theorem y_start9 {a0 : Nat} {K : gH → Prop} (h : ∀ A, yCo A a0 (nFm 8 0) → K A) : w_X9_init (va_up (fun _ => none) a0 (some zN9)) a0 K :=
  z_start9 (fun E σ w e => h _ (by rw [← e]; exact yCo_start w))
theorem yJ.fold {G A B T : gH} (h : yJ G A B T) : yJ G A (fun _ => none) (gj B T) := by
  refine ⟨?_, fun _ => Or.inr rfl, gd_j h.2.1 h.2.2.1, fun _ => Or.inl rfl⟩
  rw [h.1]
  funext a
  unfold gj
  cases A a <;> rfl

/-! A world with one more disc: its cells T are (address, kind, cell). -/
theorem fnd {α β : Type} [BEq β] [LawfulBEq β] (f : α → β) {p : α} : ∀ {T : List α}, (T.map f).Nodup → p ∈ T → T.find? (fun r => f r == f p) = some p := by
  intro T
  induction T with
  | nil => intro _ h; simp at h
  | cons a T ih =>
    intro hn hp
    rw [List.map_cons, List.nodup_cons] at hn
    rcases List.mem_cons.mp hp with h | h
    · rw [h, List.find?_cons]
      simp
    · have hne : f a ≠ f p := fun h1 => hn.1 (by rw [h1]; exact List.mem_map_of_mem h)
      rw [List.find?_cons, show (f a == f p) = false from by simpa using hne]
      exact ih hn.2 h
theorem fnd_no {α β : Type} [BEq β] [LawfulBEq β] (f : α → β) {T : List α} {b : β} (h : ∀ p ∈ T, f p ≠ b) : T.find? (fun r => f r == b) = none := by
  rw [List.find?_eq_none]
  intro p hp
  simpa using h p hp
def xE (E : zE) (d' : Nat) (T : List (Nat × Nat × Nat)) : zE :=
  (fun q => match T.find? (fun p => Prod.fst p == q) with
    | some p => (p.2.1, d', p.2.2)
    | none => if zU E (zO E q).1 (zO E q).2.1 = true then zO E q else (9, 0, 0),
   fun k d => zU E k d || (decide (k ≤ 1) && decide (d = d')),
   fun k d c => if k ≤ 1 ∧ d = d' then (match T.find? (fun p => Prod.snd p == (k, c)) with
    | some p => p.1
    | none => 0) else zL E k d c)
section zX
variable {E : zE} {d' : Nat} {T : List (Nat × Nat × Nat)}
theorem xE_O1 (h1 : (T.map Prod.fst).Nodup) {p : Nat × Nat × Nat} (hp : p ∈ T) : zO (xE E d' T) p.1 = (p.2.1, d', p.2.2) := by
  unfold zO xE
  simp only [fnd Prod.fst h1 hp]
theorem xE_O2 {q : Nat} (h : ∀ p ∈ T, p.1 ≠ q) : zO (xE E d' T) q = if zU E (zO E q).1 (zO E q).2.1 = true then zO E q else (9, 0, 0) := by
  show (match T.find? (fun p => Prod.fst p == q) with
    | some p => (p.2.1, d', p.2.2)
    | none => if zU E (zO E q).1 (zO E q).2.1 = true then zO E q else (9, 0, 0)) = _
  rw [fnd_no Prod.fst h]
theorem xE_U {k d : Nat} : zU (xE E d' T) k d = (zU E k d || (decide (k ≤ 1) && decide (d = d'))) := rfl
theorem xE_L1 (h2 : (T.map Prod.snd).Nodup) {p : Nat × Nat × Nat} (hp : p ∈ T) (hk : p.2.1 ≤ 1) : zL (xE E d' T) p.2.1 d' p.2.2 = p.1 := by
  show (if p.2.1 ≤ 1 ∧ d' = d' then (match T.find? (fun r => Prod.snd r == (p.2.1, p.2.2)) with
    | some p => p.1
    | none => 0) else zL E p.2.1 d' p.2.2) = p.1
  rw [if_pos ⟨hk, rfl⟩, show (p.2.1, p.2.2) = p.2 from rfl, fnd Prod.snd h2 hp]
theorem xE_L2 {k d c : Nat} (h : ¬ (k ≤ 1 ∧ d = d')) : zL (xE E d' T) k d c = zL E k d c := by
  show (if k ≤ 1 ∧ d = d' then _ else zL E k d c) = _
  rw [if_neg h]
theorem nodup_inj {α β : Type} (f : α → β) {p r : α} : ∀ {T : List α}, (T.map f).Nodup → p ∈ T → r ∈ T → f p = f r → p = r := by
  intro T
  induction T with
  | nil => intro _ h; simp at h
  | cons a T ih =>
    intro hn hp hr h
    rw [List.map_cons, List.nodup_cons] at hn
    rcases List.mem_cons.mp hp with h1 | h1
    · rcases List.mem_cons.mp hr with h3 | h3
      · rw [h1, h3]
      · exact absurd (List.mem_map_of_mem (f := f) h3) (by rw [← h, h1]; exact hn.1)
    · rcases List.mem_cons.mp hr with h3 | h3
      · exact absurd (List.mem_map_of_mem (f := f) h1) (by rw [h, h3]; exact hn.1)
      · exact ih hn.2 h1 h3 h
theorem xE_WF {σ : zW} (hW : zWF E) (h1 : (T.map Prod.fst).Nodup) (h2 : (T.map Prod.snd).Nodup) (h3 : ∀ p ∈ T, p.2.1 ≤ 1) (h4 : ∀ k c, k ≤ 1 → zk k c = true → ∃ a, (a, k, c) ∈ T) (h5 : zU E 0 d' = false ∧ zU E 1 d' = false) (h6 : ∀ p ∈ T, zH E σ p.1 = none) (hC : ∀ k d c, zU E k d = true → zk k c = true → zC E k d c (σ k d c) ≠ none) : zWF (xE E d' T) := by
  intro k d c hu hk q
  have h9 : ¬ (k = 9) := by
    intro h
    rw [h] at hk
    exact absurd hk (by unfold zk zA zB; simp)
  by_cases hn : k ≤ 1 ∧ d = d'
  · obtain ⟨hk1, rfl⟩ := hn
    obtain ⟨a, ha⟩ := h4 k c hk1 hk
    rw [xE_L1 (E := E) h2 ha hk1]
    refine ⟨fun h => ?_, fun h => by rw [h]; exact xE_O1 h1 ha⟩
    by_cases hq : ∃ p ∈ T, p.1 = q
    · obtain ⟨p, hp, rfl⟩ := hq
      rw [xE_O1 h1 hp] at h
      have e : p = (a, k, c) := nodup_inj Prod.snd h2 hp ha (by
        have e1 : p.2.1 = k := congrArg (fun x => x.1) h
        have e2 : p.2.2 = c := congrArg (fun x => x.2.2) h
        exact Prod.ext e1 e2)
      rw [e]
    · rw [xE_O2 (fun p hp h0 => hq ⟨p, hp, h0⟩)] at h
      by_cases hus : zU E (zO E q).1 (zO E q).2.1 = true
      · rw [if_pos hus] at h
        rw [h] at hus
        rcases (by omega : k = 0 ∨ k = 1) with h0 | h0 <;> rw [h0] at hus <;> simp [h5.1, h5.2] at hus
      · rw [if_neg hus] at h
        exact absurd (congrArg (fun x => x.1) h).symm h9
  · have hu0 : zU E k d = true := by
      rw [xE_U] at hu
      rcases Bool.or_eq_true_iff.mp hu with h | h
      · exact h
      · exact absurd (by simpa using h) hn
    rw [xE_L2 hn]
    refine ⟨fun h => ?_, fun h => ?_⟩
    · by_cases hq : ∃ p ∈ T, p.1 = q
      · obtain ⟨p, hp, rfl⟩ := hq
        rw [xE_O1 h1 hp] at h
        have e1 : p.2.1 = k := congrArg (fun x => x.1) h
        have e2 : d' = d := congrArg (fun x => x.2.1) h
        exact absurd ⟨by rw [← e1]; exact h3 p hp, e2.symm⟩ hn
      · rw [xE_O2 (fun p hp h0 => hq ⟨p, hp, h0⟩)] at h
        by_cases hus : zU E (zO E q).1 (zO E q).2.1 = true
        · rw [if_pos hus] at h
          exact (hW k d c hu0 hk q).mp h
        · rw [if_neg hus] at h
          exact absurd (congrArg (fun x => x.1) h).symm h9
    · have ho := (hW k d c hu0 hk q).mpr h
      have hT : ∀ p ∈ T, p.1 ≠ q := by
        intro p hp h0
        have h7 := h6 p hp
        rw [h0] at h7
        unfold zH at h7
        rw [ho, if_pos hu0] at h7
        exact hC k d c hu0 hk h7
      rw [xE_O2 hT, ho, if_pos hu0]
theorem xE_H {σ σ' : zW} {G' : gH} (h1 : (T.map Prod.fst).Nodup) (h3 : ∀ p ∈ T, p.2.1 ≤ 1) (h9 : zU E 9 0 = false) (hnew : ∀ p ∈ T, G' p.1 = zC (xE E d' T) p.2.1 d' p.2.2 (σ' p.2.1 d' p.2.2)) (hout : ∀ q, (∀ p ∈ T, p.1 ≠ q) → G' q = zH E σ q) (hold : ∀ k d c, zU E k d = true → zC (xE E d' T) k d c (σ' k d c) = zC E k d c (σ k d c)) : zH (xE E d' T) σ' = G' := by
  funext q
  by_cases hq : ∃ p ∈ T, p.1 = q
  · obtain ⟨p, hp, rfl⟩ := hq
    rw [hnew p hp]
    unfold zH
    rw [xE_O1 h1 hp, xE_U, if_pos (by simp [h3 p hp])]
  · have hT : ∀ p ∈ T, p.1 ≠ q := fun p hp h0 => hq ⟨p, hp, h0⟩
    rw [hout q hT]
    unfold zH
    rw [xE_O2 hT]
    by_cases hus : zU E (zO E q).1 (zO E q).2.1 = true
    · rw [if_pos hus, if_pos hus, xE_U, if_pos (by rw [hus]; rfl)]
      exact hold _ _ _ hus
    · rw [if_neg hus, if_neg hus, xE_U, if_neg (by rw [h9]; simp)]
end zX

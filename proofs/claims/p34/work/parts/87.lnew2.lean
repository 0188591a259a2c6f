/-! The law's world with its references in bounds; a new session, a new version in it. -/
def yOk (E : zE) (n : zN) : Prop := zWF E ∧ zU E 9 0 = false ∧ ∀ k d, zU E k d = true → (k = 5 ∧ d = 0) ∨ (k = 6 ∧ (d : Int) < n 3) ∨ (k = 7 ∧ (d : Int) < n 6)
def yBd (σ : zW) (n : zN) : Prop := (0 ≤ n 3 ∧ 0 ≤ n 6) ∧ (∀ j, 0 ≤ σ 5 0 14 j ∧ σ 5 0 14 j ≤ n 6) ∧ (∀ j, 0 ≤ σ 5 0 15 j ∧ σ 5 0 15 j ≤ n 6) ∧ (∀ j, 0 ≤ σ 5 0 16 j ∧ σ 5 0 16 j ≤ n 3) ∧ (∀ s : Nat, (s : Int) < n 3 → ∀ j, 0 ≤ σ 6 s 8 j ∧ σ 6 s 8 j ≤ n 6)
/-- the old groups keep their places -/
def yGr (E E' : zE) : Prop := ∀ k d c, zU E k d = true → zU E' k d = true ∧ zL E' k d c = zL E k d c
theorem yGr.rf {E : zE} : yGr E E := fun _ _ _ h => ⟨h, rfl⟩
theorem yGr.tr {E E1 E2 : zE} (h : yGr E E1) (h2 : yGr E1 E2) : yGr E E2 := fun k d c u => ⟨(h2 k d c (h k d c u).1).1, ((h2 k d c (h k d c u).1).2).trans (h k d c u).2⟩
theorem zk_6 {c : Nat} (h : zk 6 c = true) : c = 0 ∨ c = 6 ∨ c = 7 ∨ c = 8 := by
  by_cases h2 : c < 9
  · rcases (by omega : c = 0 ∨ c = 1 ∨ c = 2 ∨ c = 3 ∨ c = 4 ∨ c = 5 ∨ c = 6 ∨ c = 7 ∨ c = 8) with rfl | rfl | rfl | rfl | rfl | rfl | rfl | rfl | rfl <;> first | omega | exact absurd h (by decide)
  · obtain ⟨m, rfl⟩ : ∃ m, c = m + 9 := ⟨c - 9, by omega⟩
    exact absurd h (by simp [zk, zA, zB])
theorem zk_7 {c : Nat} (h : zk 7 c = true) : c = 0 ∨ c = 6 := by
  by_cases h2 : c < 7
  · rcases (by omega : c = 0 ∨ c = 1 ∨ c = 2 ∨ c = 3 ∨ c = 4 ∨ c = 5 ∨ c = 6) with rfl | rfl | rfl | rfl | rfl | rfl | rfl <;> first | omega | exact absurd h (by decide)
  · obtain ⟨m, rfl⟩ : ∃ m, c = m + 7 := ⟨c - 7, by omega⟩
    exact absurd h (by simp [zk, zA, zB])
section yI
variable {E : zE} {σ : zW} {n : zN}
theorem y_hold (hO : yOk E n) (hB : yBd σ n) {k0 d0 : Nat} (h0 : (k0 = 6 ∧ (d0 : Int) = n 3) ∨ (k0 = 7 ∧ (d0 : Int) = n 6)) {T : List (Nat × Nat × Nat × Nat)} {σ' : zW} (hs : ∀ k d, ¬ (k = k0 ∧ d = d0) → σ' k d = σ k d) : ∀ k d c, zU E k d = true → zC (yE E (yG1 k0 d0) T) k d c (σ' k d c) = zC E k d c (σ k d c) := by
  intro k d c hu
  have hk := hO.2.2 k d hu
  have hne : ¬ (k = k0 ∧ d = d0) := by rintro ⟨rfl, rfl⟩; omega
  rw [hs k d hne]
  have hL : ∀ c', zL (yE E (yG1 k0 d0) T) k d c' = zL E k d c' := fun c' => yE_L2 (fun z => hne (yG1_iff.mp z))
  have h6 : ∀ x : Int, 0 ≤ x → x ≤ n 3 → x = 0 ∨ zL (yE E (yG1 k0 d0) T) 6 (x - 1).toNat 0 = zL E 6 (x - 1).toNat 0 := by
    intro x x0 x1
    by_cases hx : x = 0
    · exact Or.inl hx
    · exact Or.inr (yE_L2 (fun z => by have := yG1_iff.mp z; omega))
  have h7 : ∀ x : Int, 0 ≤ x → x ≤ n 6 → x = 0 ∨ zL (yE E (yG1 k0 d0) T) 7 (x - 1).toNat 0 = zL E 7 (x - 1).toNat 0 := by
    intro x x0 x1
    by_cases hx : x = 0
    · exact Or.inl hx
    · exact Or.inr (yE_L2 (fun z => by have := yG1_iff.mp z; omega))
  rcases hk with ⟨rfl, rfl⟩ | ⟨rfl, hd⟩ | ⟨rfl, hd⟩
  · refine zC_5 hL ?_ ?_ ?_
    · rintro rfl j; exact h7 _ (hB.2.1 j).1 (hB.2.1 j).2
    · rintro rfl j; exact h7 _ (hB.2.2.1 j).1 (hB.2.2.1 j).2
    · rintro rfl j; exact h6 _ (hB.2.2.2.1 j).1 (hB.2.2.2.1 j).2
  · refine zC_6 hL ?_
    rintro rfl j; exact h7 _ (hB.2.2.2.2 d hd j).1 (hB.2.2.2.2 d hd j).2
  · exact zC_7 hL
theorem gi_X12 {G : gH} {a0 : Nat} {K : gH → Prop} (h0 : G a0 = some (gO 12 [.int 0, .int 0, .int 0, .int 0, .int 0, .int 0, .null, .null, .null])) (h : ∀ q6 q7 q8 G', gi G a0 12 [.int 0, .int 0, .int 0, .int (-1), .int (-1), .int 0, .ref q6, .ref q7, .ref q8] [(q6, .inl (0, 10, fun _ => 0)), (q7, .inl (0, 3, fun _ => 0)), (q8, .inr (.inr (.inl (6, 10, fun _ => none))))] G' → K G') : w_X12_init 3 23 G a0 K := by
  unfold w_X12_init
  have g0 := gi.start h0
  obtain ⟨J1, p1, g1⟩ := g0.put 3 (.int (-1 : Int32)) (by simp)
  refine ⟨J1, p1, ?_⟩
  obtain ⟨J2, p2, g2⟩ := g1.put 4 (.int (-1 : Int32)) (by simp)
  refine ⟨J2, p2, ⟨by omega, by omega⟩, fun q6 z6 G6 i6 => ?_⟩
  have n1 := g2.new z6 (.inl (0, 10, fun _ => 0))
  rw [← i6] at n1
  obtain ⟨J3, p3, g3⟩ := n1.put 6 (.ref q6) (by simp)
  refine ⟨J3, p3, ⟨by omega, by omega⟩, fun q7 z7 G7 i7 => ?_⟩
  have n2 := g3.new z7 (.inl (0, 3, fun _ => 0))
  rw [← i7] at n2
  obtain ⟨J4, p4, g4⟩ := n2.put 7 (.ref q7) (by simp)
  refine ⟨J4, p4, ⟨by omega, by omega⟩, fun q8 z8 G8 i8 => ?_⟩
  have n3 := g4.new z8 (.inr (.inr (.inl (6, 10, fun _ => none))))
  rw [← i8] at n3
  obtain ⟨J5, p5, g5⟩ := n3.put 8 (.ref q8) (by simp)
  exact ⟨J5, p5, by omega, by omega, h q6 q7 q8 _ g5⟩
theorem gi_X13 {G : gH} {a0 : Nat} {K : gH → Prop} (h0 : G a0 = some (gO 13 [.int 0, .int 0, .int 0, .int 0, .int 0, .int 0, .null])) (h : ∀ q6 G', gi G a0 13 [.int 0, .int 0, .int 0, .int 0, .int 0, .int 0, .ref q6] [(q6, .inl (0, 8, fun _ => 0))] G' → K G') : w_X13_init 1 8 G a0 K := by
  unfold w_X13_init
  have g0 := gi.start h0
  refine ⟨⟨by omega, by omega⟩, fun q6 z6 G6 i6 => ?_⟩
  have n1 := g0.new z6 (.inl (0, 8, fun _ => 0))
  rw [← i6] at n1
  obtain ⟨J3, p3, g3⟩ := n1.put 6 (.ref q6) (by simp)
  exact ⟨J3, p3, by omega, by omega, h q6 _ g3⟩
/-- the rows of a session, of a version that is new -/
def ySn (σ : zW) (s : Nat) : zW := fun k d c => if k = 6 ∧ d = s then (if c = 0 then (fun i => if i = 3 ∨ i = 4 then -1 else 0) else fun _ => 0) else σ k d c
def yVn (σ : zW) (v : Nat) : zW := fun k d c => if k = 7 ∧ d = v then (fun _ => 0) else σ k d c
theorem y_newS (hO : yOk E n) (hB : yBd σ n) {s : Nat} (hs : (s : Int) = n 3) {q : Nat} (hq : zH E σ q = none) {q6 q7 q8 : Nat} {G' : gH} {e0 : gE} (g : gi (va_up (zH E σ) q (some e0)) q 12 [.int 0, .int 0, .int 0, .int (-1), .int (-1), .int 0, .ref q6, .ref q7, .ref q8] [(q6, .inl (0, 10, fun _ => 0)), (q7, .inl (0, 3, fun _ => 0)), (q8, .inr (.inr (.inl (6, 10, fun _ => none))))] G') : ∃ E', zWF E' ∧ zU E' 9 0 = false ∧ (∀ k d, zU E' k d = (zU E k d || yG1 6 s k d)) ∧ yGr E E' ∧ zL E' 6 s 0 = q ∧ zH E' (ySn σ s) = G' := by
  obtain ⟨hW, h9, hk⟩ := hO
  have hO : yOk E n := ⟨hW, h9, hk⟩
  have hus : zU E 6 s = false := by
    cases h : zU E 6 s with
    | false => rfl
    | true => have := hk 6 s h; omega
  have g2 := g.fre
  have g3 := g.ndp
  have g4 := g.nea
  have hu : ∀ a, a ≠ q → (va_up (zH E σ) q (some e0)) a = zH E σ a := fun a ha => gva_ne ha
  obtain ⟨T, hT⟩ : ∃ T : List (Nat × Nat × Nat × Nat), T = [(q, 6, s, 0), (q6, 6, s, 6), (q7, 6, s, 7), (q8, 6, s, 8)] := ⟨_, rfl⟩
  have n6 := g4 (q6, _) (List.mem_of_getElem? (i := 0) rfl)
  have n7 := g4 (q7, _) (List.mem_of_getElem? (i := 1) rfl)
  have n8 := g4 (q8, _) (List.mem_of_getElem? (i := 2) rfl)
  have f6 := g2 (q6, _) (List.mem_of_getElem? (i := 0) rfl)
  have f7 := g2 (q7, _) (List.mem_of_getElem? (i := 1) rfl)
  have f8 := g2 (q8, _) (List.mem_of_getElem? (i := 2) rfl)
  simp only at n6 n7 n8 f6 f7 f8
  rw [hu _ n6] at f6
  rw [hu _ n7] at f7
  rw [hu _ n8] at f8
  simp only [List.map_cons, List.map_nil, List.nodup_cons, List.mem_cons, List.not_mem_nil, or_false, not_or] at g3
  have h1 : (T.map Prod.fst).Nodup := by
    rw [hT]
    simp only [List.map_cons, List.map_nil, List.nodup_cons, List.mem_cons, List.not_mem_nil, or_false, not_or]
    exact ⟨⟨Ne.symm n6, Ne.symm n7, Ne.symm n8⟩, g3⟩
  have h2 : (T.map Prod.snd).Nodup := by rw [hT]; simp
  have h3 : ∀ p ∈ T, yG1 6 s p.2.1 p.2.2.1 = true := by rw [hT]; intro p hp; simp only [List.mem_cons, List.not_mem_nil, or_false] at hp; rcases hp with rfl | rfl | rfl | rfl <;> simp [yG1]
  have h4 : ∀ k d c, yG1 6 s k d = true → zk k c = true → ∃ a, (a, k, d, c) ∈ T := by
    intro k d c hkd hz
    obtain ⟨rfl, rfl⟩ := yG1_iff.mp hkd
    rw [hT]
    rcases zk_6 hz with rfl | rfl | rfl | rfl
    · exact ⟨q, by simp⟩
    · exact ⟨q6, by simp⟩
    · exact ⟨q7, by simp⟩
    · exact ⟨q8, by simp⟩
  have h5 : ∀ k d, yG1 6 s k d = true → zU E k d = false := by
    intro k d hkd
    obtain ⟨rfl, rfl⟩ := yG1_iff.mp hkd
    exact hus
  have h6 : ∀ p ∈ T, zH E σ p.1 = none := by
    rw [hT]; intro p hp; simp only [List.mem_cons, List.not_mem_nil, or_false] at hp
    rcases hp with rfl | rfl | rfl | rfl
    · exact hq
    · exact f6
    · exact f7
    · exact f8
  have hL := fun p hp => yE_L1 (E := E) (N := yG1 6 s) (p := p) h2 hp (h3 p hp)
  have l0 : zL (yE E (yG1 6 s) T) 6 s 0 = q := hL (q, 6, s, 0) (by rw [hT]; exact List.mem_of_getElem? (i := 0) rfl)
  have l6 : zL (yE E (yG1 6 s) T) 6 s 6 = q6 := hL (q6, 6, s, 6) (by rw [hT]; exact List.mem_of_getElem? (i := 1) rfl)
  have l7 : zL (yE E (yG1 6 s) T) 6 s 7 = q7 := hL (q7, 6, s, 7) (by rw [hT]; exact List.mem_of_getElem? (i := 2) rfl)
  have l8 : zL (yE E (yG1 6 s) T) 6 s 8 = q8 := hL (q8, 6, s, 8) (by rw [hT]; exact List.mem_of_getElem? (i := 3) rfl)
  refine ⟨yE E (yG1 6 s) T, yE_WF hW h1 h2 h3 h4 h5 h6, ?_, fun k d => yE_U, fun k d c u => ⟨by rw [yE_U, u]; rfl, yE_L2 (fun z => ?_)⟩, l0, ?_⟩
  · rw [yE_U, h9]
    simp [yG1]
  · obtain ⟨rfl, rfl⟩ := yG1_iff.mp z
    rw [hus] at u; cases u
  · refine yE_H h1 h3 ⟨h9, by simp [yG1]⟩ ?_ ?_ (y_hold hO hB (Or.inl ⟨rfl, hs⟩) (fun k d hkd => by funext c; unfold ySn; rw [if_neg hkd]))
    · rw [hT]; intro p hp; simp only [List.mem_cons, List.not_mem_nil, or_false] at hp
      rcases hp with rfl | rfl | rfl | rfl
      · refine g.own.trans ?_
        show _ = zC (yE E (yG1 6 s) [(q, 6, s, 0), (q6, 6, s, 6), (q7, 6, s, 7), (q8, 6, s, 8)]) 6 s 0 (ySn σ s 6 s 0)
        rw [← hT]
        simp only [zC, zA, zB, l6, l7, l8, ySn, and_self, if_true, Option.map_some]
        rfl
      · exact (g.cel (q6, _) (List.mem_of_getElem? (i := 0) rfl)).trans (by simp only [ySn, and_self, if_true]; rfl)
      · exact (g.cel (q7, _) (List.mem_of_getElem? (i := 1) rfl)).trans (by simp only [ySn, and_self, if_true]; rfl)
      · exact (g.cel (q8, _) (List.mem_of_getElem? (i := 2) rfl)).trans (by simp only [ySn, and_self, if_true]; rfl)
    · intro a ha
      rw [hT] at ha
      have a0 : a ≠ q := fun z => ha (q, 6, s, 0) (by simp) z.symm
      rw [g.out a a0 (fun p hp => by
        simp only [List.mem_cons, List.not_mem_nil, or_false] at hp
        rcases hp with rfl | rfl | rfl
        · exact ha (q6, 6, s, 6) (by simp)
        · exact ha (q7, 6, s, 7) (by simp)
        · exact ha (q8, 6, s, 8) (by simp)), hu a a0]
theorem y_newV (hO : yOk E n) (hB : yBd σ n) {v : Nat} (hs : (v : Int) = n 6) {q : Nat} (hq : zH E σ q = none) {q6 : Nat} {G' : gH} {e0 : gE} (g : gi (va_up (zH E σ) q (some e0)) q 13 [.int 0, .int 0, .int 0, .int 0, .int 0, .int 0, .ref q6] [(q6, .inl (0, 8, fun _ => 0))] G') : ∃ E', zWF E' ∧ zU E' 9 0 = false ∧ (∀ k d, zU E' k d = (zU E k d || yG1 7 v k d)) ∧ yGr E E' ∧ zL E' 7 v 0 = q ∧ zH E' (yVn σ v) = G' := by
  obtain ⟨hW, h9, hk⟩ := hO
  have hO : yOk E n := ⟨hW, h9, hk⟩
  have hus : zU E 7 v = false := by
    cases h : zU E 7 v with
    | false => rfl
    | true => have := hk 7 v h; omega
  have n6 := g.nea (q6, _) (List.mem_of_getElem? (i := 0) rfl)
  have f6 := g.fre (q6, _) (List.mem_of_getElem? (i := 0) rfl)
  have hu : ∀ a, a ≠ q → (va_up (zH E σ) q (some e0)) a = zH E σ a := fun a ha => gva_ne ha
  simp only at n6 f6
  rw [hu _ n6] at f6
  obtain ⟨T, hT⟩ : ∃ T : List (Nat × Nat × Nat × Nat), T = [(q, 7, v, 0), (q6, 7, v, 6)] := ⟨_, rfl⟩
  have h1 : (T.map Prod.fst).Nodup := by
    rw [hT]
    simp only [List.map_cons, List.map_nil, List.nodup_cons, List.mem_cons, List.not_mem_nil, or_false, not_or]
    exact ⟨Ne.symm n6, fun z => z, List.nodup_nil⟩
  have h2 : (T.map Prod.snd).Nodup := by rw [hT]; simp
  have h3 : ∀ p ∈ T, yG1 7 v p.2.1 p.2.2.1 = true := by rw [hT]; intro p hp; simp only [List.mem_cons, List.not_mem_nil, or_false] at hp; rcases hp with rfl | rfl <;> simp [yG1]
  have h4 : ∀ k d c, yG1 7 v k d = true → zk k c = true → ∃ a, (a, k, d, c) ∈ T := by
    intro k d c hkd hz
    obtain ⟨rfl, rfl⟩ := yG1_iff.mp hkd
    rw [hT]
    rcases zk_7 hz with rfl | rfl
    · exact ⟨q, by simp⟩
    · exact ⟨q6, by simp⟩
  have h5 : ∀ k d, yG1 7 v k d = true → zU E k d = false := by
    intro k d hkd
    obtain ⟨rfl, rfl⟩ := yG1_iff.mp hkd
    exact hus
  have h6 : ∀ p ∈ T, zH E σ p.1 = none := by
    rw [hT]; intro p hp; simp only [List.mem_cons, List.not_mem_nil, or_false] at hp
    rcases hp with rfl | rfl
    · exact hq
    · exact f6
  have hL := fun p hp => yE_L1 (E := E) (N := yG1 7 v) (p := p) h2 hp (h3 p hp)
  have l0 : zL (yE E (yG1 7 v) T) 7 v 0 = q := hL (q, 7, v, 0) (by rw [hT]; exact List.mem_of_getElem? (i := 0) rfl)
  have l6 : zL (yE E (yG1 7 v) T) 7 v 6 = q6 := hL (q6, 7, v, 6) (by rw [hT]; exact List.mem_of_getElem? (i := 1) rfl)
  refine ⟨yE E (yG1 7 v) T, yE_WF hW h1 h2 h3 h4 h5 h6, ?_, fun k d => yE_U, fun k d c u => ⟨by rw [yE_U, u]; rfl, yE_L2 (fun z => ?_)⟩, l0, ?_⟩
  · rw [yE_U, h9]
    simp [yG1]
  · obtain ⟨rfl, rfl⟩ := yG1_iff.mp z
    rw [hus] at u; cases u
  · refine yE_H h1 h3 ⟨h9, by simp [yG1]⟩ ?_ ?_ (y_hold hO hB (Or.inr ⟨rfl, hs⟩) (fun k d hkd => by funext c; unfold yVn; rw [if_neg hkd]))
    · rw [hT]; intro p hp; simp only [List.mem_cons, List.not_mem_nil, or_false] at hp
      rcases hp with rfl | rfl
      · refine g.own.trans ?_
        show _ = zC (yE E (yG1 7 v) [(q, 7, v, 0), (q6, 7, v, 6)]) 7 v 0 (yVn σ v 7 v 0)
        rw [← hT]
        simp only [zC, zA, zB, l6, yVn, and_self, if_true, Option.map_some]
        rfl
      · exact (g.cel (q6, _) (List.mem_of_getElem? (i := 0) rfl)).trans (by simp only [yVn, and_self, if_true]; rfl)
    · intro a ha
      rw [hT] at ha
      have a0 : a ≠ q := fun z => ha (q, 7, v, 0) (by simp) z.symm
      rw [g.out a a0 (fun p hp => by
        simp only [List.mem_cons, List.not_mem_nil, or_false] at hp
        subst hp
        exact ha (q6, 7, v, 6) (by simp)), hu a a0]
end yI


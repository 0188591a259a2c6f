/-! A new disc of the law. -/
def yEz : zE := (fun _ => (9, 0, 0), fun _ _ => false, fun _ _ _ => 0)
theorem yEz_W : zWF yEz := fun k d c h => by cases h
theorem yEz_H (σ : zW) : zH yEz σ = fun _ => none := by
  funext q
  unfold zH
  rw [if_neg (by simp [yEz, zU])]
theorem zk_5 {c : Nat} (h : zk 5 c = true) : c = 0 ∨ (7 ≤ c ∧ c ≤ 16) := by
  by_cases h2 : c < 17
  · rcases (by omega : c = 0 ∨ c = 1 ∨ c = 2 ∨ c = 3 ∨ c = 4 ∨ c = 5 ∨ c = 6 ∨ (7 ≤ c ∧ c ≤ 16)) with rfl | rfl | rfl | rfl | rfl | rfl | rfl | h3
    · exact Or.inl rfl
    · exact absurd h (by decide)
    · exact absurd h (by decide)
    · exact absurd h (by decide)
    · exact absurd h (by decide)
    · exact absurd h (by decide)
    · exact absurd h (by decide)
    · exact Or.inr h3
  · obtain ⟨m, rfl⟩ : ∃ m, c = m + 17 := ⟨c - 17, by omega⟩
    exact absurd h (by simp [zk, zA, zB])

theorem gi_X10 {G : gH} {a0 : Nat} {K : gH → Prop} (h0 : G a0 = some (gO 10 [.int 0, .int 0, .int 0, .int 0, .int 0, .int 0, .int 0, .null, .null, .null, .null, .null, .null, .null, .null, .null, .null])) (h : ∀ q7 q8 q9 q10 q11 q12 q13 q14 q15 q16 G', gi G a0 10 [.int 0, .int 0, .int 0, .int 0, .int 0, .int 0, .int 0, .ref q7, .ref q8, .ref q9, .ref q10, .ref q11, .ref q12, .ref q13, .ref q14, .ref q15, .ref q16] [(q7, .inl (0, 96, fun _ => 0)), (q8, .inl (0, 96, fun _ => 0)), (q9, .inl (0, 96, fun _ => 0)), (q10, .inl (0, 96, fun _ => 0)), (q11, .inl (0, 96, fun _ => 0)), (q12, .inl (1, 96, fun _ => 0)), (q13, .inl (1, 96, fun _ => 0)), (q14, .inr (.inr (.inl (6, 96, fun _ => none)))), (q15, .inr (.inr (.inl (6, 96, fun _ => none)))), (q16, .inr (.inr (.inl (5, 12, fun _ => none))))] G' → w_X10_init_L89 10 876 K g_N G' 10 876 a0 (0 : Int32)) : w_X10_init 10 876 G a0 K := by
  unfold w_X10_init
  have g0 := gi.start h0
  refine ⟨⟨by omega, by omega⟩, fun q7 z7 G7 i7 => ?_⟩
  have n7 := g0.new z7 (.inl (0, 96, fun _ => 0))
  rw [← i7] at n7
  obtain ⟨J7, p7, g7⟩ := n7.put 7 (.ref q7) (by simp)
  refine ⟨J7, p7, ?_⟩
  refine ⟨⟨by omega, by omega⟩, fun q8 z8 G8 i8 => ?_⟩
  have n8 := g7.new z8 (.inl (0, 96, fun _ => 0))
  rw [← i8] at n8
  obtain ⟨J8, p8, g8⟩ := n8.put 8 (.ref q8) (by simp)
  refine ⟨J8, p8, ?_⟩
  refine ⟨⟨by omega, by omega⟩, fun q9 z9 G9 i9 => ?_⟩
  have n9 := g8.new z9 (.inl (0, 96, fun _ => 0))
  rw [← i9] at n9
  obtain ⟨J9, p9, g9⟩ := n9.put 9 (.ref q9) (by simp)
  refine ⟨J9, p9, ?_⟩
  refine ⟨⟨by omega, by omega⟩, fun q10 z10 G10 i10 => ?_⟩
  have n10 := g9.new z10 (.inl (0, 96, fun _ => 0))
  rw [← i10] at n10
  obtain ⟨J10, p10, g10⟩ := n10.put 10 (.ref q10) (by simp)
  refine ⟨J10, p10, ?_⟩
  refine ⟨⟨by omega, by omega⟩, fun q11 z11 G11 i11 => ?_⟩
  have n11 := g10.new z11 (.inl (0, 96, fun _ => 0))
  rw [← i11] at n11
  obtain ⟨J11, p11, g11⟩ := n11.put 11 (.ref q11) (by simp)
  refine ⟨J11, p11, ?_⟩
  refine ⟨⟨by omega, by omega⟩, fun q12 z12 G12 i12 => ?_⟩
  have n12 := g11.new z12 (.inl (1, 96, fun _ => 0))
  rw [← i12] at n12
  obtain ⟨J12, p12, g12⟩ := n12.put 12 (.ref q12) (by simp)
  refine ⟨J12, p12, ?_⟩
  refine ⟨⟨by omega, by omega⟩, fun q13 z13 G13 i13 => ?_⟩
  have n13 := g12.new z13 (.inl (1, 96, fun _ => 0))
  rw [← i13] at n13
  obtain ⟨J13, p13, g13⟩ := n13.put 13 (.ref q13) (by simp)
  refine ⟨J13, p13, ?_⟩
  refine ⟨⟨by omega, by omega⟩, fun q14 z14 G14 i14 => ?_⟩
  have n14 := g13.new z14 (.inr (.inr (.inl (6, 96, fun _ => none))))
  rw [← i14] at n14
  obtain ⟨J14, p14, g14⟩ := n14.put 14 (.ref q14) (by simp)
  refine ⟨J14, p14, ?_⟩
  refine ⟨⟨by omega, by omega⟩, fun q15 z15 G15 i15 => ?_⟩
  have n15 := g14.new z15 (.inr (.inr (.inl (6, 96, fun _ => none))))
  rw [← i15] at n15
  obtain ⟨J15, p15, g15⟩ := n15.put 15 (.ref q15) (by simp)
  refine ⟨J15, p15, ?_⟩
  refine ⟨⟨by omega, by omega⟩, fun q16 z16 G16 i16 => ?_⟩
  have n16 := g15.new z16 (.inr (.inr (.inl (5, 12, fun _ => none))))
  rw [← i16] at n16
  obtain ⟨J16, p16, g16⟩ := n16.put 16 (.ref q16) (by simp)
  refine ⟨J16, p16, ?_⟩
  exact h q7 q8 q9 q10 q11 q12 q13 q14 q15 q16 _ g16
theorem y_newD {q : Nat} {e0 : gE} {q7 q8 q9 q10 q11 q12 q13 q14 q15 q16 : Nat} {G' : gH} (g : gi (va_up (fun _ => none) q (some e0)) q 10 [.int 0, .int 0, .int 0, .int 0, .int 0, .int 0, .int 0, .ref q7, .ref q8, .ref q9, .ref q10, .ref q11, .ref q12, .ref q13, .ref q14, .ref q15, .ref q16] [(q7, .inl (0, 96, fun _ => 0)), (q8, .inl (0, 96, fun _ => 0)), (q9, .inl (0, 96, fun _ => 0)), (q10, .inl (0, 96, fun _ => 0)), (q11, .inl (0, 96, fun _ => 0)), (q12, .inl (1, 96, fun _ => 0)), (q13, .inl (1, 96, fun _ => 0)), (q14, .inr (.inr (.inl (6, 96, fun _ => none)))), (q15, .inr (.inr (.inl (6, 96, fun _ => none)))), (q16, .inr (.inr (.inl (5, 12, fun _ => none))))] G') : ∃ E', zWF E' ∧ zU E' 9 0 = false ∧ (∀ k d, zU E' k d = yG1 5 0 k d) ∧ zL E' 5 0 0 = q ∧ zH E' (fun _ _ _ _ => 0) = G' := by
  have g2 := g.fre
  have g3 := g.ndp
  have g4 := g.nea
  have n7 := g4 (q7, _) (List.mem_of_getElem? (i := 0) rfl)
  have f7 := g2 (q7, _) (List.mem_of_getElem? (i := 0) rfl)
  have n8 := g4 (q8, _) (List.mem_of_getElem? (i := 1) rfl)
  have f8 := g2 (q8, _) (List.mem_of_getElem? (i := 1) rfl)
  have n9 := g4 (q9, _) (List.mem_of_getElem? (i := 2) rfl)
  have f9 := g2 (q9, _) (List.mem_of_getElem? (i := 2) rfl)
  have n10 := g4 (q10, _) (List.mem_of_getElem? (i := 3) rfl)
  have f10 := g2 (q10, _) (List.mem_of_getElem? (i := 3) rfl)
  have n11 := g4 (q11, _) (List.mem_of_getElem? (i := 4) rfl)
  have f11 := g2 (q11, _) (List.mem_of_getElem? (i := 4) rfl)
  have n12 := g4 (q12, _) (List.mem_of_getElem? (i := 5) rfl)
  have f12 := g2 (q12, _) (List.mem_of_getElem? (i := 5) rfl)
  have n13 := g4 (q13, _) (List.mem_of_getElem? (i := 6) rfl)
  have f13 := g2 (q13, _) (List.mem_of_getElem? (i := 6) rfl)
  have n14 := g4 (q14, _) (List.mem_of_getElem? (i := 7) rfl)
  have f14 := g2 (q14, _) (List.mem_of_getElem? (i := 7) rfl)
  have n15 := g4 (q15, _) (List.mem_of_getElem? (i := 8) rfl)
  have f15 := g2 (q15, _) (List.mem_of_getElem? (i := 8) rfl)
  have n16 := g4 (q16, _) (List.mem_of_getElem? (i := 9) rfl)
  have f16 := g2 (q16, _) (List.mem_of_getElem? (i := 9) rfl)
  simp only at n7 n8 n9 n10 n11 n12 n13 n14 n15 n16 f7 f8 f9 f10 f11 f12 f13 f14 f15 f16
  simp only [List.map_cons, List.map_nil, List.nodup_cons, List.mem_cons, List.not_mem_nil, or_false, not_or] at g3
  obtain ⟨T, hT⟩ : ∃ T : List (Nat × Nat × Nat × Nat), T = [(q, 5, 0, 0), (q7, 5, 0, 7), (q8, 5, 0, 8), (q9, 5, 0, 9), (q10, 5, 0, 10), (q11, 5, 0, 11), (q12, 5, 0, 12), (q13, 5, 0, 13), (q14, 5, 0, 14), (q15, 5, 0, 15), (q16, 5, 0, 16)] := ⟨_, rfl⟩
  have h1 : (T.map Prod.fst).Nodup := by
    rw [hT]
    simp only [List.map_cons, List.map_nil, List.nodup_cons, List.mem_cons, List.not_mem_nil, or_false, not_or]
    exact ⟨⟨Ne.symm n7, Ne.symm n8, Ne.symm n9, Ne.symm n10, Ne.symm n11, Ne.symm n12, Ne.symm n13, Ne.symm n14, Ne.symm n15, Ne.symm n16⟩, g3⟩
  have h2 : (T.map Prod.snd).Nodup := by rw [hT]; simp
  have h3 : ∀ p ∈ T, yG1 5 0 p.2.1 p.2.2.1 = true := by rw [hT]; intro p hp; simp only [List.mem_cons, List.not_mem_nil, or_false] at hp; rcases hp with rfl | rfl | rfl | rfl | rfl | rfl | rfl | rfl | rfl | rfl | rfl <;> simp [yG1]
  have h4 : ∀ k d c, yG1 5 0 k d = true → zk k c = true → ∃ a, (a, k, d, c) ∈ T := by
    intro k d c hkd hz
    obtain ⟨rfl, rfl⟩ := yG1_iff.mp hkd
    rw [hT]
    rcases (by have := zk_5 hz; omega : c = 0 ∨ c = 7 ∨ c = 8 ∨ c = 9 ∨ c = 10 ∨ c = 11 ∨ c = 12 ∨ c = 13 ∨ c = 14 ∨ c = 15 ∨ c = 16) with rfl | rfl | rfl | rfl | rfl | rfl | rfl | rfl | rfl | rfl | rfl
    · exact ⟨q, by simp⟩
    · exact ⟨q7, by simp⟩
    · exact ⟨q8, by simp⟩
    · exact ⟨q9, by simp⟩
    · exact ⟨q10, by simp⟩
    · exact ⟨q11, by simp⟩
    · exact ⟨q12, by simp⟩
    · exact ⟨q13, by simp⟩
    · exact ⟨q14, by simp⟩
    · exact ⟨q15, by simp⟩
    · exact ⟨q16, by simp⟩
  have h5 : ∀ k d, yG1 5 0 k d = true → zU yEz k d = false := fun _ _ _ => rfl
  have h6 : ∀ p ∈ T, zH yEz (fun _ _ _ _ => 0) p.1 = none := fun p _ => by rw [yEz_H]
  have hL := fun p hp => yE_L1 (E := yEz) (N := yG1 5 0) (p := p) h2 hp (h3 p hp)
  have l0 : zL (yE yEz (yG1 5 0) T) 5 0 0 = q := hL (q, 5, 0, 0) (by rw [hT]; exact List.mem_of_getElem? (i := 0) rfl)
  have l7 : zL (yE yEz (yG1 5 0) T) 5 0 7 = q7 := hL (q7, 5, 0, 7) (by rw [hT]; exact List.mem_of_getElem? (i := 1) rfl)
  have l8 : zL (yE yEz (yG1 5 0) T) 5 0 8 = q8 := hL (q8, 5, 0, 8) (by rw [hT]; exact List.mem_of_getElem? (i := 2) rfl)
  have l9 : zL (yE yEz (yG1 5 0) T) 5 0 9 = q9 := hL (q9, 5, 0, 9) (by rw [hT]; exact List.mem_of_getElem? (i := 3) rfl)
  have l10 : zL (yE yEz (yG1 5 0) T) 5 0 10 = q10 := hL (q10, 5, 0, 10) (by rw [hT]; exact List.mem_of_getElem? (i := 4) rfl)
  have l11 : zL (yE yEz (yG1 5 0) T) 5 0 11 = q11 := hL (q11, 5, 0, 11) (by rw [hT]; exact List.mem_of_getElem? (i := 5) rfl)
  have l12 : zL (yE yEz (yG1 5 0) T) 5 0 12 = q12 := hL (q12, 5, 0, 12) (by rw [hT]; exact List.mem_of_getElem? (i := 6) rfl)
  have l13 : zL (yE yEz (yG1 5 0) T) 5 0 13 = q13 := hL (q13, 5, 0, 13) (by rw [hT]; exact List.mem_of_getElem? (i := 7) rfl)
  have l14 : zL (yE yEz (yG1 5 0) T) 5 0 14 = q14 := hL (q14, 5, 0, 14) (by rw [hT]; exact List.mem_of_getElem? (i := 8) rfl)
  have l15 : zL (yE yEz (yG1 5 0) T) 5 0 15 = q15 := hL (q15, 5, 0, 15) (by rw [hT]; exact List.mem_of_getElem? (i := 9) rfl)
  have l16 : zL (yE yEz (yG1 5 0) T) 5 0 16 = q16 := hL (q16, 5, 0, 16) (by rw [hT]; exact List.mem_of_getElem? (i := 10) rfl)
  refine ⟨yE yEz (yG1 5 0) T, yE_WF yEz_W h1 h2 h3 h4 h5 h6, rfl, fun k d => rfl, l0, ?_⟩
  refine yE_H (σ := fun _ _ _ _ => 0) h1 h3 ⟨rfl, by simp [yG1]⟩ ?_ ?_ (fun k d c h => by cases h)
  · rw [hT]; intro p hp; simp only [List.mem_cons, List.not_mem_nil, or_false] at hp
    rcases hp with rfl | rfl | rfl | rfl | rfl | rfl | rfl | rfl | rfl | rfl | rfl
    · refine g.own.trans ?_
      show _ = zC (yE yEz (yG1 5 0) [(q, 5, 0, 0), (q7, 5, 0, 7), (q8, 5, 0, 8), (q9, 5, 0, 9), (q10, 5, 0, 10), (q11, 5, 0, 11), (q12, 5, 0, 12), (q13, 5, 0, 13), (q14, 5, 0, 14), (q15, 5, 0, 15), (q16, 5, 0, 16)]) 5 0 0 _
      rw [← hT]
      simp only [zC, zA, zB, l7, l8, l9, l10, l11, l12, l13, l14, l15, l16, Option.map_some]
      rfl
    · exact (g.cel (q7, _) (List.mem_of_getElem? (i := 0) rfl)).trans rfl
    · exact (g.cel (q8, _) (List.mem_of_getElem? (i := 1) rfl)).trans rfl
    · exact (g.cel (q9, _) (List.mem_of_getElem? (i := 2) rfl)).trans rfl
    · exact (g.cel (q10, _) (List.mem_of_getElem? (i := 3) rfl)).trans rfl
    · exact (g.cel (q11, _) (List.mem_of_getElem? (i := 4) rfl)).trans rfl
    · exact (g.cel (q12, _) (List.mem_of_getElem? (i := 5) rfl)).trans rfl
    · exact (g.cel (q13, _) (List.mem_of_getElem? (i := 6) rfl)).trans rfl
    · exact (g.cel (q14, _) (List.mem_of_getElem? (i := 7) rfl)).trans rfl
    · exact (g.cel (q15, _) (List.mem_of_getElem? (i := 8) rfl)).trans rfl
    · exact (g.cel (q16, _) (List.mem_of_getElem? (i := 9) rfl)).trans rfl
  · intro a ha
    rw [hT] at ha
    have a0 : a ≠ q := fun z => ha (q, 5, 0, 0) (by simp) z.symm
    rw [g.out a a0 (fun p hp => by
      simp only [List.mem_cons, List.not_mem_nil, or_false] at hp
      rcases hp with rfl | rfl | rfl | rfl | rfl | rfl | rfl | rfl | rfl | rfl
      · exact ha (q7, 5, 0, 7) (by simp)
      · exact ha (q8, 5, 0, 8) (by simp)
      · exact ha (q9, 5, 0, 9) (by simp)
      · exact ha (q10, 5, 0, 10) (by simp)
      · exact ha (q11, 5, 0, 11) (by simp)
      · exact ha (q12, 5, 0, 12) (by simp)
      · exact ha (q13, 5, 0, 13) (by simp)
      · exact ha (q14, 5, 0, 14) (by simp)
      · exact ha (q15, 5, 0, 15) (by simp)
      · exact ha (q16, 5, 0, 16) (by simp)), yEz_H, gva_ne a0]
/-- the rows of minus ones -/
def yM1 (k : Int) : zW := fun kk d c i => if kk = 5 ∧ d = 0 ∧ 8 ≤ c ∧ c ≤ 11 ∧ 0 ≤ i ∧ i < k then -1 else 0
theorem yM1_s {k : Int} (k0 : 0 ≤ k) : zs (zs (zs (zs (yM1 k) 5 0 8 k (-1)) 5 0 9 k (-1)) 5 0 10 k (-1)) 5 0 11 k (-1) = yM1 (k + 1) := by
  funext kk d c i
  unfold zs yM1
  by_cases h : kk = 5 ∧ d = 0 ∧ 8 ≤ c ∧ c ≤ 11
  · obtain ⟨rfl, rfl, h1, h2⟩ := h
    rcases (by omega : c = 8 ∨ c = 9 ∨ c = 10 ∨ c = 11) with rfl | rfl | rfl | rfl <;> simp <;> (by_cases z : i = k) <;> simp [z] <;> omega
  · rw [if_neg (by omega), if_neg (by omega), if_neg (by omega), if_neg (by omega), if_neg (by omega), if_neg (by omega)]
theorem yl_L89 {E : zE} (hW : zWF E) (hu : zU E 5 0 = true) {K : gH → Prop} (hK : K (zH E (yM1 96))) : ∀ (m fuel : Nat) (k : Int), 0 ≤ k → k + m = 96 → m < fuel → w_X10_init_L89 10 876 K fuel (zH E (yM1 k)) 10 876 (zL E 5 0 0) (zI k) := by
  intro m
  induction m with
  | zero =>
    intro fuel k k0 km hf
    cases fuel with
    | zero => omega
    | succ fuel =>
    obtain rfl : k = 96 := by omega
    unfold w_X10_init_L89
    rw [if_pos (show (96 : Int32) ≤ zI 96 from by decide)]
    exact ⟨by omega, by omega, hK⟩
  | succ m ih =>
    intro fuel k k0 km hf
    cases fuel with
    | zero => omega
    | succ fuel =>
    have z := fun τ => zz_ea (σ := τ) hW hu
    have zo := fun τ => zz_ldo (σ := τ) hW hu
    have nxt := ih fuel (k + 1) (by omega) (by omega) (by omega)
    rw [← yM1_s k0] at nxt
    unfold w_X10_init_L89
    rw [if_neg (show ¬ (96 : Int32) ≤ zI k by rw [show (96 : Int32) = zI 96 from rfl, zI_le (by omega) (by omega) (by omega) (by omega)]; omega), show (zI k + (1 : Int32)) = zI (k + 1) from zI_add k 1]
    refine ⟨_, (by simp only [zo]), _, zAst (t := 0) (n := 96) (v := -1) (k := 5) (d := 0) (c := 8) (i := k) hW hu rfl (by decide) (by decide) k0 (by omega) rfl, _, (by simp only [zo]), _, zAst (t := 0) (n := 96) (v := -1) (k := 5) (d := 0) (c := 9) (i := k) hW hu rfl (by decide) (by decide) k0 (by omega) rfl, _, (by simp only [zo]), _, zAst (t := 0) (n := 96) (v := -1) (k := 5) (d := 0) (c := 10) (i := k) hW hu rfl (by decide) (by decide) k0 (by omega) rfl, _, (by simp only [zo]), _, zAst (t := 0) (n := 96) (v := -1) (k := 5) (d := 0) (c := 11) (i := k) hW hu rfl (by decide) (by decide) k0 (by omega) rfl, nxt⟩
theorem yM1_I {E : zE} (hW : zWF E) (h9 : zU E 9 0 = false) (hk : ∀ k d, zU E k d = yG1 5 0 k d) {n : zN} (hz : ∀ i, n i = 0) : yI E (yM1 96) n := by
  have n3 := hz 3
  have n4 := hz 4
  have n6 := hz 6
  have o : ∀ c i, ¬ (8 ≤ c ∧ c ≤ 11) → yM1 96 5 0 c i = 0 := fun c i h => by unfold yM1; rw [if_neg (by omega)]
  have o6 : ∀ k d c i, k ≠ 5 → yM1 96 k d c i = 0 := fun k d c i h => by unfold yM1; rw [if_neg (by omega)]
  have w : ∀ c i, 8 ≤ c → c ≤ 11 → 0 ≤ i → i < 96 → yM1 96 5 0 c i = -1 := fun c i h1 h2 h3 h4 => by unfold yM1; rw [if_pos (by omega)]
  refine ⟨⟨hW, h9, fun k d h => ?_⟩, ⟨by rw [hk]; simp [yG1], fun s hs => by omega, fun v hv => by omega⟩, ?_, ⟨fun b b0 b1 => ?_, fun b b0 b1 => ?_, fun b b0 b1 => ?_, fun b b0 b1 => ?_, fun b b0 b1 => ?_, fun b b0 b1 => ?_, fun b b0 b1 => ?_, fun b b0 b1 => ?_⟩, ⟨fun v v0 v1 => by omega, fun s s0 s1 => by omega⟩, ⟨⟨by omega, by omega⟩, fun j => ?_, fun j => ?_, fun j => ?_, fun s hs => by omega⟩, ⟨by omega, by omega, by omega, fun s s0 s1 => by omega, fun v v0 v1 => by omega⟩, fun s hs => by omega, fun v hv => by omega⟩
  · rw [hk] at h; have := yG1_iff.mp h; omega
  · unfold yRn
    rw [o 0 _ (by omega), o 0 _ (by omega), o 0 _ (by omega), o 0 _ (by omega), o 0 _ (by omega), o 0 _ (by omega), o 0 _ (by omega), hz, hz, hz, hz, hz, hz, hz]
    simp
  · rw [o 7 b (by omega), hz]
  · rw [w 8 b (by omega) (by omega) b0 b1, hz]; rfl
  · rw [w 9 b (by omega) (by omega) b0 b1, hz]; rfl
  · rw [w 10 b (by omega) (by omega) b0 b1, hz]; rfl
  · rw [w 11 b (by omega) (by omega) b0 b1, hz]; rfl
  · rw [o 12 b (by omega), hz]
  · rw [o 13 b (by omega), hz]
  · rw [o 14 b (by omega), hz]
  · rw [o 14 j (by omega)]; omega
  · rw [o 15 j (by omega)]; omega
  · rw [o 16 j (by omega)]; omega
/-- new Disc(), over a part of the world that holds only the new object -/
theorem yl_newD {q : Nat} {K : gH → Prop} (hK : ∀ E, yI E (yM1 96) (fun _ => 0) → zL E 5 0 0 = q → K (zH E (yM1 96))) : w_X10_init 10 876 (va_up (fun _ => none) q (some (gO 10 [.int 0, .int 0, .int 0, .int 0, .int 0, .int 0, .int 0, .null, .null, .null, .null, .null, .null, .null, .null, .null, .null]))) q K := by
  refine gi_X10 gva_at (fun q7 q8 q9 q10 q11 q12 q13 q14 q15 q16 G' g => ?_)
  obtain ⟨E, w1, w2, w3, w4, w5⟩ := y_newD g
  have hu : zU E 5 0 = true := by rw [w3]; simp [yG1]
  have h0 : (yM1 0 : zW) = fun _ _ _ _ => 0 := by funext k d c i; unfold yM1; rw [if_neg (by omega)]
  rw [← w5, ← h0, ← w4]
  exact yl_L89 w1 hu (hK E (yM1_I w1 w2 w3 (fun _ => rfl)) w4) 96 g_N 0 (by omega) (by omega) (by unfold g_N; omega)

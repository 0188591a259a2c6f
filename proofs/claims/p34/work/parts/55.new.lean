/-! New objects: a fresh group of cells over a heap. -/
abbrev gO (ci : Nat) (fs : List Value) : gE := .inr (.inr (.inr (ci, fs)))
/-- over G: the object at a0 has the fields fs, the cells of L are new, all else is as in G -/
def gi (G : gH) (a0 ci : Nat) (fs : List Value) (L : List (Nat × gE)) (G' : gH) : Prop :=
  G' a0 = some (gO ci fs) ∧ (∀ p ∈ L, G' p.1 = some p.2) ∧ (∀ a, a ≠ a0 → (∀ p ∈ L, p.1 ≠ a) → G' a = G a) ∧ (∀ p ∈ L, G p.1 = none) ∧ (L.map Prod.fst).Nodup ∧ (∀ p ∈ L, p.1 ≠ a0)
section zGi
variable {G G' : gH} {a0 ci : Nat} {fs : List Value} {L : List (Nat × gE)}
theorem gi.own (h : gi G a0 ci fs L G') : G' a0 = some (gO ci fs) := h.1
theorem gi.cel (h : gi G a0 ci fs L G') : ∀ p ∈ L, G' p.1 = some p.2 := h.2.1
theorem gi.out (h : gi G a0 ci fs L G') : ∀ a, a ≠ a0 → (∀ p ∈ L, p.1 ≠ a) → G' a = G a := h.2.2.1
theorem gi.fre (h : gi G a0 ci fs L G') : ∀ p ∈ L, G p.1 = none := h.2.2.2.1
theorem gi.ndp (h : gi G a0 ci fs L G') : (L.map Prod.fst).Nodup := h.2.2.2.2.1
theorem gi.nea (h : gi G a0 ci fs L G') : ∀ p ∈ L, p.1 ≠ a0 := h.2.2.2.2.2
end zGi
theorem gi.start {G : gH} {a0 ci : Nat} {fs : List Value} (h : G a0 = some (gO ci fs)) : gi G a0 ci fs [] G := ⟨h, by simp, fun _ _ _ => rfl, by simp, by simp, by simp⟩
theorem gva_at {G : gH} {q : Nat} {e : Option gE} : va_up G q e q = e := by unfold va_up; rw [if_pos rfl]
theorem gva_ne {G : gH} {q a : Nat} {e : Option gE} (h : a ≠ q) : va_up G q e a = G a := by unfold va_up; rw [if_neg h]
theorem gi.put {G G' : gH} {a0 ci : Nat} {fs : List Value} {L : List (Nat × gE)} (h : gi G a0 ci fs L G') (k : Nat) (v : Value) (hk : k < fs.length) : ∃ G2, g_put G' a0 ci k v = some G2 ∧ gi G a0 ci (fs.set k v) L G2 := by
  refine ⟨va_up G' a0 (some (gO ci (fs.set k v))), ?_, gva_at, fun p hp => ?_, fun a ha hL => ?_, h.fre, h.ndp, h.nea⟩
  · unfold g_put
    rw [h.own]
    simp [hk]
  · rw [gva_ne (h.nea p hp)]; exact h.cel p hp
  · rw [gva_ne ha]; exact h.out a ha hL
theorem gi.new {G G' : gH} {a0 ci : Nat} {fs : List Value} {L : List (Nat × gE)} (h : gi G a0 ci fs L G') {q : Nat} (hq : G' q = none) (e : gE) : gi G a0 ci fs (L ++ [(q, e)]) (va_up G' q (some e)) := by
  have h0 : q ≠ a0 := by
    intro h1
    rw [h1, h.own] at hq
    exact absurd hq (by simp)
  have hL : ∀ p ∈ L, p.1 ≠ q := by
    intro p hp h1
    have := h.cel p hp
    rw [h1, hq] at this
    exact absurd this (by simp)
  have hG : G q = none := by rw [← h.out q h0 hL]; exact hq
  refine ⟨?_, fun p hp => ?_, fun a ha hL2 => ?_, fun p hp => ?_, ?_, fun p hp => ?_⟩
  · rw [gva_ne (Ne.symm h0)]; exact h.own
  · rcases List.mem_append.mp hp with h1 | h1
    · rw [gva_ne (hL p h1)]; exact h.cel p h1
    · rw [List.mem_singleton.mp h1]; exact gva_at
  · rw [gva_ne (fun h1 => hL2 (q, e) (by simp) h1.symm)]
    exact h.out a ha (fun p hp => hL2 p (List.mem_append_left _ hp))
  · rcases List.mem_append.mp hp with h1 | h1
    · exact h.fre p h1
    · rw [List.mem_singleton.mp h1]; exact hG
  · rw [List.map_append, List.nodup_append]
    refine ⟨h.ndp, by simp, fun x hx y hy hxy => ?_⟩
    obtain ⟨p, hp, rfl⟩ := List.mem_map.mp hx
    simp at hy
    exact hL p hp (hxy.trans hy)
  · rcases List.mem_append.mp hp with h1 | h1
    · exact h.nea p h1
    · rw [List.mem_singleton.mp h1]; exact h0
/-- a part made within: the new object q (empty: e0) got its own fields and cells -/
theorem gi.sub {G G1 G2 : gH} {a0 ci : Nat} {fs : List Value} {L : List (Nat × gE)} {q cj : Nat} {e0 : gE} {fs2 : List Value} {L2 : List (Nat × gE)} (h : gi G a0 ci fs (L ++ [(q, e0)]) G1) (h2 : gi G1 q cj fs2 L2 G2) : gi G a0 ci fs (L ++ [(q, gO cj fs2)] ++ L2) G2 := by
  have hq0 : q ≠ a0 := h.nea (q, e0) (by simp)
  have hold : ∀ a e, G1 a = some e → a ≠ q → G2 a = some e := fun a e h1 h3 => by
    rw [h2.out a h3 (fun p hp h4 => by
      have := h2.fre p hp
      rw [h4, h1] at this
      exact absurd this (by simp))]
    exact h1
  have hnd := h.ndp
  rw [List.map_append, List.nodup_append] at hnd
  have hLq : ∀ p ∈ L, p.1 ≠ q := fun p hp h1 => hnd.2.2 p.1 (List.mem_map_of_mem hp) q (by simp) h1
  have hL2 : ∀ p ∈ L2, ∀ r ∈ L ++ [(q, e0)], p.1 ≠ r.1 := fun p hp r hr h1 => by
    have h3 := h.cel r hr
    rw [← h1, h2.fre p hp] at h3
    exact absurd h3 (by simp)
  have hL2a : ∀ p ∈ L2, p.1 ≠ a0 := fun p hp h1 => by
    have h3 := h2.fre p hp
    rw [h1, h.own] at h3
    exact absurd h3 (by simp)
  refine ⟨hold a0 _ h.own (Ne.symm hq0), fun p hp => ?_, fun a ha hL => ?_, fun p hp => ?_, ?_, fun p hp => ?_⟩
  · rcases List.mem_append.mp hp with h1 | h1
    · rcases List.mem_append.mp h1 with h3 | h3
      · exact hold p.1 _ (h.cel p (List.mem_append_left _ h3)) (hLq p h3)
      · rw [List.mem_singleton.mp h3]; exact h2.own
    · exact h2.cel p h1
  · have hq : a ≠ q := fun h1 => hL (q, gO cj fs2) (by simp) h1.symm
    rw [h2.out a hq (fun p hp => hL p (List.mem_append_right _ hp))]
    refine h.out a ha (fun p hp => ?_)
    rcases List.mem_append.mp hp with h1 | h1
    · exact hL p (List.mem_append_left _ (List.mem_append_left _ h1))
    · rw [List.mem_singleton.mp h1]; exact Ne.symm hq
  · rcases List.mem_append.mp hp with h1 | h1
    · rcases List.mem_append.mp h1 with h3 | h3
      · exact h.fre p (List.mem_append_left _ h3)
      · rw [List.mem_singleton.mp h3]; exact h.fre (q, e0) (by simp)
    · have h3 := h2.fre p h1
      rw [h.out p.1 (hL2a p h1) (fun r hr => Ne.symm (hL2 p h1 r hr))] at h3
      exact h3
  · rw [List.map_append, List.nodup_append, List.map_append, List.nodup_append]
    refine ⟨⟨hnd.1, by simp, fun x hx y hy hxy => ?_⟩, h2.ndp, fun x hx y hy hxy => ?_⟩
    · obtain ⟨p, hp, rfl⟩ := List.mem_map.mp hx
      simp at hy
      exact hLq p hp (hxy.trans hy)
    · obtain ⟨p, hp, rfl⟩ := List.mem_map.mp hy
      rcases List.mem_append.mp hx with h1 | h1
      · obtain ⟨r, hr, rfl⟩ := List.mem_map.mp h1
        exact hL2 p hp r (List.mem_append_left _ hr) hxy.symm
      · simp at h1
        exact hL2 p hp (q, e0) (by simp) (hxy.symm.trans h1)
  · rcases List.mem_append.mp hp with h1 | h1
    · rcases List.mem_append.mp h1 with h3 | h3
      · exact h.nea p (List.mem_append_left _ h3)
      · rw [List.mem_singleton.mp h3]; exact hq0
    · exact hL2a p h1
theorem gi_X0 {G : gH} {a0 : Nat} {K : gH → Prop} (h0 : G a0 = some (gO 0 [.int 0, .int 0, .int 0, .null, .null, .null, .null, .null, .null, .null, .null])) (h : ∀ q22 q30 q38 q46 q54 q62 q70 q78 G', gi G a0 0 [.int 0, .int 0, .int 0, .ref q22, .ref q30, .ref q38, .ref q46, .ref q54, .ref q62, .ref q70, .ref q78] [(q22, .inl (0, 96, fun _ => 0)), (q30, .inl (1, 96, fun _ => 0)), (q38, .inl (1, 96, fun _ => 0)), (q46, .inl (0, 96, fun _ => 0)), (q54, .inl (0, 96, fun _ => 0)), (q62, .inl (0, 96, fun _ => 0)), (q70, .inl (0, 96, fun _ => 0)), (q78, .inl (0, 96, fun _ => 0))] G' → K G') : w_X0_init G a0 K := by
  unfold w_X0_init
  have g0 := gi.start h0
  obtain ⟨G6, p6, g6p⟩ := g0.put 0 (.int (0 : Int32)) (by simp)
  refine ⟨G6, p6, ?_⟩
  obtain ⟨G11, p11, g11p⟩ := g6p.put 1 (.int (0 : Int32)) (by simp)
  refine ⟨G11, p11, ?_⟩
  obtain ⟨G16, p16, g16p⟩ := g11p.put 2 (.int (0 : Int32)) (by simp)
  refine ⟨G16, p16, ?_⟩
  intro q22 zq22 G22 iq22
  have nq22 := g16p.new zq22 (.inl (0, 96, fun _ => 0))
  rw [← iq22] at nq22
  obtain ⟨G24, p24, g24p⟩ := nq22.put 3 (.ref q22) (by simp)
  refine ⟨G24, p24, ?_⟩
  intro q30 zq30 G30 iq30
  have nq30 := g24p.new zq30 (.inl (1, 96, fun _ => 0))
  rw [← iq30] at nq30
  obtain ⟨G32, p32, g32p⟩ := nq30.put 4 (.ref q30) (by simp)
  refine ⟨G32, p32, ?_⟩
  intro q38 zq38 G38 iq38
  have nq38 := g32p.new zq38 (.inl (1, 96, fun _ => 0))
  rw [← iq38] at nq38
  obtain ⟨G40, p40, g40p⟩ := nq38.put 5 (.ref q38) (by simp)
  refine ⟨G40, p40, ?_⟩
  intro q46 zq46 G46 iq46
  have nq46 := g40p.new zq46 (.inl (0, 96, fun _ => 0))
  rw [← iq46] at nq46
  obtain ⟨G48, p48, g48p⟩ := nq46.put 6 (.ref q46) (by simp)
  refine ⟨G48, p48, ?_⟩
  intro q54 zq54 G54 iq54
  have nq54 := g48p.new zq54 (.inl (0, 96, fun _ => 0))
  rw [← iq54] at nq54
  obtain ⟨G56, p56, g56p⟩ := nq54.put 7 (.ref q54) (by simp)
  refine ⟨G56, p56, ?_⟩
  intro q62 zq62 G62 iq62
  have nq62 := g56p.new zq62 (.inl (0, 96, fun _ => 0))
  rw [← iq62] at nq62
  obtain ⟨G64, p64, g64p⟩ := nq62.put 8 (.ref q62) (by simp)
  refine ⟨G64, p64, ?_⟩
  intro q70 zq70 G70 iq70
  have nq70 := g64p.new zq70 (.inl (0, 96, fun _ => 0))
  rw [← iq70] at nq70
  obtain ⟨G72, p72, g72p⟩ := nq70.put 9 (.ref q70) (by simp)
  refine ⟨G72, p72, ?_⟩
  intro q78 zq78 G78 iq78
  have nq78 := g72p.new zq78 (.inl (0, 96, fun _ => 0))
  rw [← iq78] at nq78
  obtain ⟨G80, p80, g80p⟩ := nq78.put 10 (.ref q78) (by simp)
  refine ⟨G80, p80, ?_⟩
  exact h q22 q30 q38 q46 q54 q62 q70 q78 _ g80p
theorem gi_X7 {G : gH} {a0 : Nat} {K : gH → Prop} (h0 : G a0 = some (gO 7 [.int 0, .null, .null, .null, .null, .null])) (h : ∀ q12 q20 q28 q36 q44 G', gi G a0 7 [.int 0, .ref q12, .ref q20, .ref q28, .ref q36, .ref q44] [(q12, .inl (0, 96, fun _ => 0)), (q20, .inl (0, 96, fun _ => 0)), (q28, .inl (0, 96, fun _ => 0)), (q36, .inl (0, 96, fun _ => 0)), (q44, .inl (0, 96, fun _ => 0))] G' → K G') : w_X7_init G a0 K := by
  unfold w_X7_init
  have g0 := gi.start h0
  obtain ⟨G6, p6, g6p⟩ := g0.put 0 (.int (0 : Int32)) (by simp)
  refine ⟨G6, p6, ?_⟩
  intro q12 zq12 G12 iq12
  have nq12 := g6p.new zq12 (.inl (0, 96, fun _ => 0))
  rw [← iq12] at nq12
  obtain ⟨G14, p14, g14p⟩ := nq12.put 1 (.ref q12) (by simp)
  refine ⟨G14, p14, ?_⟩
  intro q20 zq20 G20 iq20
  have nq20 := g14p.new zq20 (.inl (0, 96, fun _ => 0))
  rw [← iq20] at nq20
  obtain ⟨G22, p22, g22p⟩ := nq20.put 2 (.ref q20) (by simp)
  refine ⟨G22, p22, ?_⟩
  intro q28 zq28 G28 iq28
  have nq28 := g22p.new zq28 (.inl (0, 96, fun _ => 0))
  rw [← iq28] at nq28
  obtain ⟨G30, p30, g30p⟩ := nq28.put 3 (.ref q28) (by simp)
  refine ⟨G30, p30, ?_⟩
  intro q36 zq36 G36 iq36
  have nq36 := g30p.new zq36 (.inl (0, 96, fun _ => 0))
  rw [← iq36] at nq36
  obtain ⟨G38, p38, g38p⟩ := nq36.put 4 (.ref q36) (by simp)
  refine ⟨G38, p38, ?_⟩
  intro q44 zq44 G44 iq44
  have nq44 := g38p.new zq44 (.inl (0, 96, fun _ => 0))
  rw [← iq44] at nq44
  obtain ⟨G46, p46, g46p⟩ := nq44.put 5 (.ref q44) (by simp)
  refine ⟨G46, p46, ?_⟩
  exact h q12 q20 q28 q36 q44 _ g46p
theorem gi_X5 {G : gH} {a0 : Nat} {K : gH → Prop} (h0 : G a0 = some (gO 5 [.int 0, .null, .null, .null, .null, .null, .null, .null])) (h : ∀ q12 q20 q28 q36 q44 q52 q60 G', gi G a0 5 [.int 0, .ref q12, .ref q20, .ref q28, .ref q36, .ref q44, .ref q52, .ref q60] [(q12, .inl (0, 12, fun _ => 0)), (q20, .inl (0, 12, fun _ => 0)), (q28, .inl (0, 12, fun _ => 0)), (q36, .inl (0, 12, fun _ => 0)), (q44, .inl (0, 12, fun _ => 0)), (q52, .inl (0, 120, fun _ => 0)), (q60, .inl (0, 120, fun _ => 0))] G' → K G') : w_X5_init G a0 K := by
  unfold w_X5_init
  have g0 := gi.start h0
  obtain ⟨G6, p6, g6p⟩ := g0.put 0 (.int (0 : Int32)) (by simp)
  refine ⟨G6, p6, ?_⟩
  intro q12 zq12 G12 iq12
  have nq12 := g6p.new zq12 (.inl (0, 12, fun _ => 0))
  rw [← iq12] at nq12
  obtain ⟨G14, p14, g14p⟩ := nq12.put 1 (.ref q12) (by simp)
  refine ⟨G14, p14, ?_⟩
  intro q20 zq20 G20 iq20
  have nq20 := g14p.new zq20 (.inl (0, 12, fun _ => 0))
  rw [← iq20] at nq20
  obtain ⟨G22, p22, g22p⟩ := nq20.put 2 (.ref q20) (by simp)
  refine ⟨G22, p22, ?_⟩
  intro q28 zq28 G28 iq28
  have nq28 := g22p.new zq28 (.inl (0, 12, fun _ => 0))
  rw [← iq28] at nq28
  obtain ⟨G30, p30, g30p⟩ := nq28.put 3 (.ref q28) (by simp)
  refine ⟨G30, p30, ?_⟩
  intro q36 zq36 G36 iq36
  have nq36 := g30p.new zq36 (.inl (0, 12, fun _ => 0))
  rw [← iq36] at nq36
  obtain ⟨G38, p38, g38p⟩ := nq36.put 4 (.ref q36) (by simp)
  refine ⟨G38, p38, ?_⟩
  intro q44 zq44 G44 iq44
  have nq44 := g38p.new zq44 (.inl (0, 12, fun _ => 0))
  rw [← iq44] at nq44
  obtain ⟨G46, p46, g46p⟩ := nq44.put 5 (.ref q44) (by simp)
  refine ⟨G46, p46, ?_⟩
  intro q52 zq52 G52 iq52
  have nq52 := g46p.new zq52 (.inl (0, 120, fun _ => 0))
  rw [← iq52] at nq52
  obtain ⟨G54, p54, g54p⟩ := nq52.put 6 (.ref q52) (by simp)
  refine ⟨G54, p54, ?_⟩
  intro q60 zq60 G60 iq60
  have nq60 := g54p.new zq60 (.inl (0, 120, fun _ => 0))
  rw [← iq60] at nq60
  obtain ⟨G62, p62, g62p⟩ := nq60.put 7 (.ref q60) (by simp)
  refine ⟨G62, p62, ?_⟩
  exact h q12 q20 q28 q36 q44 q52 q60 _ g62p
theorem gi_X8 {G : gH} {a0 : Nat} {K : gH → Prop} (h0 : G a0 = some (gO 8 [.int 0, .null, .null, .null, .null])) (h : ∀ q12 q20 q28 q36 G', gi G a0 8 [.int 0, .ref q12, .ref q20, .ref q28, .ref q36] [(q12, .inl (1, 12, fun _ => 0)), (q20, .inl (0, 10, fun _ => 0)), (q28, .inl (0, 10, fun _ => 0)), (q36, .inl (1, 10, fun _ => 0))] G' → K G') : w_X8_init G a0 K := by
  unfold w_X8_init
  have g0 := gi.start h0
  obtain ⟨G6, p6, g6p⟩ := g0.put 0 (.int (0 : Int32)) (by simp)
  refine ⟨G6, p6, ?_⟩
  intro q12 zq12 G12 iq12
  have nq12 := g6p.new zq12 (.inl (1, 12, fun _ => 0))
  rw [← iq12] at nq12
  obtain ⟨G14, p14, g14p⟩ := nq12.put 1 (.ref q12) (by simp)
  refine ⟨G14, p14, ?_⟩
  intro q20 zq20 G20 iq20
  have nq20 := g14p.new zq20 (.inl (0, 10, fun _ => 0))
  rw [← iq20] at nq20
  obtain ⟨G22, p22, g22p⟩ := nq20.put 2 (.ref q20) (by simp)
  refine ⟨G22, p22, ?_⟩
  intro q28 zq28 G28 iq28
  have nq28 := g22p.new zq28 (.inl (0, 10, fun _ => 0))
  rw [← iq28] at nq28
  obtain ⟨G30, p30, g30p⟩ := nq28.put 3 (.ref q28) (by simp)
  refine ⟨G30, p30, ?_⟩
  intro q36 zq36 G36 iq36
  have nq36 := g30p.new zq36 (.inl (1, 10, fun _ => 0))
  rw [← iq36] at nq36
  obtain ⟨G38, p38, g38p⟩ := nq36.put 4 (.ref q36) (by simp)
  refine ⟨G38, p38, ?_⟩
  exact h q12 q20 q28 q36 _ g38p
theorem gi_X1 {G : gH} {a0 : Nat} {K : gH → Prop} (h0 : G a0 = some (gO 1 [.null, .null, .null, .int 0, .null, .int 0, .null])) (h : ∀ b1 b2 b3 b4 b5 b6 b7 b8 b9 v10 v11 v12 v13 v14 v15 s16 s17 s18 s19 s24 s20 s21 s22 c23 w0 w1 w2 w3 w4 G', gi G a0 1 [.ref b1, .ref v10, .ref s16, .int 0, .ref c23, .int 0, .ref w0] [(b1, gO 0 [.int 0, .int 0, .int 0, .ref b2, .ref b3, .ref b4, .ref b5, .ref b6, .ref b7, .ref b8, .ref b9]), (b2, .inl (0, 96, fun _ => 0)), (b3, .inl (1, 96, fun _ => 0)), (b4, .inl (1, 96, fun _ => 0)), (b5, .inl (0, 96, fun _ => 0)), (b6, .inl (0, 96, fun _ => 0)), (b7, .inl (0, 96, fun _ => 0)), (b8, .inl (0, 96, fun _ => 0)), (b9, .inl (0, 96, fun _ => 0)), (v10, gO 7 [.int 0, .ref v11, .ref v12, .ref v13, .ref v14, .ref v15]), (v11, .inl (0, 96, fun _ => 0)), (v12, .inl (0, 96, fun _ => 0)), (v13, .inl (0, 96, fun _ => 0)), (v14, .inl (0, 96, fun _ => 0)), (v15, .inl (0, 96, fun _ => 0)), (s16, gO 5 [.int 0, .ref s17, .ref s18, .ref s19, .ref s24, .ref s20, .ref s21, .ref s22]), (s17, .inl (0, 12, fun _ => 0)), (s18, .inl (0, 12, fun _ => 0)), (s19, .inl (0, 12, fun _ => 0)), (s24, .inl (0, 12, fun _ => 0)), (s20, .inl (0, 12, fun _ => 0)), (s21, .inl (0, 120, fun _ => 0)), (s22, .inl (0, 120, fun _ => 0)), (c23, .inr (.inl (10, fun _ => 0))), (w0, gO 8 [.int 0, .ref w1, .ref w2, .ref w3, .ref w4]), (w1, .inl (1, 12, fun _ => 0)), (w2, .inl (0, 10, fun _ => 0)), (w3, .inl (0, 10, fun _ => 0)), (w4, .inl (1, 10, fun _ => 0))] G' → K G') : w_X1_init G a0 K := by
  unfold w_X1_init
  have g0 := gi.start h0
  intro b1 z1 G1 i1
  have n1 := g0.new z1 (gO 0 [.int 0, .int 0, .int 0, .null, .null, .null, .null, .null, .null, .null, .null])
  rw [← i1] at n1
  refine gi_X0 (n1.cel (b1, gO 0 [.int 0, .int 0, .int 0, .null, .null, .null, .null, .null, .null, .null, .null]) (by simp)) ?_
  intro b2 b3 b4 b5 b6 b7 b8 b9 H1 t1
  have m1 := n1.sub t1
  obtain ⟨J1, p1, g1⟩ := m1.put 0 (.ref b1) (by simp)
  refine ⟨J1, p1, ?_⟩
  intro v10 z2 G2 i2
  have n2 := g1.new z2 (gO 7 [.int 0, .null, .null, .null, .null, .null])
  rw [← i2] at n2
  refine gi_X7 (n2.cel (v10, gO 7 [.int 0, .null, .null, .null, .null, .null]) (by simp)) ?_
  intro v11 v12 v13 v14 v15 H2 t2
  have m2 := n2.sub t2
  obtain ⟨J2, p2, g2⟩ := m2.put 1 (.ref v10) (by simp)
  refine ⟨J2, p2, ?_⟩
  intro s16 z3 G3 i3
  have n3 := g2.new z3 (gO 5 [.int 0, .null, .null, .null, .null, .null, .null, .null])
  rw [← i3] at n3
  refine gi_X5 (n3.cel (s16, gO 5 [.int 0, .null, .null, .null, .null, .null, .null, .null]) (by simp)) ?_
  intro s17 s18 s19 s24 s20 s21 s22 H3 t3
  have m3 := n3.sub t3
  obtain ⟨J3, p3, g3⟩ := m3.put 2 (.ref s16) (by simp)
  refine ⟨J3, p3, ?_⟩
  obtain ⟨J4, p4, g4⟩ := g3.put 3 (.int 0) (by simp)
  refine ⟨J4, p4, ?_⟩
  intro c23 z5 G5 i5
  have n5 := g4.new z5 (.inr (.inl (10, fun _ => 0)))
  rw [← i5] at n5
  obtain ⟨J5, p5, g5⟩ := n5.put 4 (.ref c23) (by simp)
  refine ⟨J5, p5, ?_⟩
  obtain ⟨J6, p6, g6⟩ := g5.put 5 (.int 0) (by simp)
  refine ⟨J6, p6, ?_⟩
  intro w0 z7 G7 i7
  have n7 := g6.new z7 (gO 8 [.int 0, .null, .null, .null, .null])
  rw [← i7] at n7
  refine gi_X8 (n7.cel (w0, gO 8 [.int 0, .null, .null, .null, .null]) (by simp)) ?_
  intro w1 w2 w3 w4 H7 t7
  have m7 := n7.sub t7
  obtain ⟨J7, p7, g7⟩ := m7.put 6 (.ref w0) (by simp)
  refine ⟨J7, p7, ?_⟩
  exact h b1 b2 b3 b4 b5 b6 b7 b8 b9 v10 v11 v12 v13 v14 v15 s16 s17 s18 s19 s24 s20 s21 s22 c23 w0 w1 w2 w3 w4 _ g7

/-! The start: the class made, the reference made, the law's row made; in step. -/
section zCg
variable {E E' : zE} {k d c : Nat} {r : Int → Int}
theorem zC_cg (h2 : ∀ k d c, k ≤ 2 → zL E' k d c = zL E k d c) (h3 : k = 3 → ∀ c, zL E' 3 d c = zL E 3 d c) : zC E' k d c r = zC E k d c r := by
  have e0 : ∀ d c, zL E' 0 d c = zL E 0 d c := fun d c => h2 0 d c (by omega)
  have e1 : ∀ d c, zL E' 1 d c = zL E 1 d c := fun d c => h2 1 d c (by omega)
  have e2 : ∀ d c, zL E' 2 d c = zL E 2 d c := fun d c => h2 2 d c (by omega)
  have hg : ∀ t n, zg E' t n r = zg E t n r := by
    intro t n
    unfold zg
    split
    all_goals first | rfl | simp only [e0]
  have hb : zB E' k d c r = zB E k d c r := by
    unfold zB
    split
    all_goals first | rfl | simp only [e0, e1, e2] | simp only [h3 rfl]
  unfold zC
  rw [hb]
  split
  · rw [hg]
  · rfl
end zCg
theorem zS0_ne {k d c : Nat} (h : ¬ (k = 2 ∧ (c = 0 ∨ c = 3)) ∧ ¬ (k = 3 ∧ c = 0)) : zS0 k d c = fun _ => 0 := by
  funext i
  unfold zS0
  rw [if_neg (by omega), if_neg (by omega), if_neg (by omega), if_neg (by omega)]
abbrev zN9 : gE := gO 9 [.null, .null, .null, .null, .null, .null, .null]
/-- the class's object is made: a world of its own, its disc of eight blocks -/
def zW1 (E : zE) (σ : zW) : Prop := zWF E ∧ (∀ k d, zU E k d = yN1 k d) ∧ zRd (σ 0 0) (nFm 8 0) ∧ ∀ k d c, ¬ (k = 0 ∧ d = 0) → σ k d c = zS0 k d c
theorem z_start9 {a0 : Nat} {K : gH → Prop} (h : ∀ E σ, zW1 E σ → zL E 2 0 0 = a0 → K (zH E σ)) : w_X9_init (va_up (fun _ => none) a0 (some zN9)) a0 K := by
  refine gi_X9 gva_at ?_
  intros
  rename_i hg
  obtain ⟨E, hW, hU, hL, hH⟩ := c9_world hg
  have hm : zU E 2 0 = true := by rw [hU]; rfl
  have hu : zU E 0 0 = true := by rw [hU]; rfl
  rw [← hH, ← hL]
  have m5 := zg_ma5 (σ := zS0) hW hm
  have hd : (zS0 2 0 0 5).toNat = 0 := rfl
  rw [hd] at m5
  have od : g_ob (zH E zS0) (zL E 0 0 0) 1 = some () := by simp only [zz_dco (σ := zS0) hW hu]
  obtain ⟨σ', f1, f2, f3, f4⟩ := e1_format (E := E) (σ := zS0) (d := 0) (b := 8) (s := 0) hW hu (by omega) (by omega) (by omega) (by omega) (by omega)
  exact ⟨_, m5, (), od, _, f1, h E σ' ⟨hW, hU, f4, f2⟩ hL⟩
abbrev zN10 : gE := gO 10 [.int 0, .null, .null, .null, .int 0, .int 0, .int 0, .int 0, .int 0, .int 0, .long 0, .int 0, .int 0, .int 0, .null, .null, .int 0, .null, .int 0, .int 0, .int 0, .null, .int 0, .null, .int 0, .null, .null, .null]
/-- both objects are made -/
def zW2 (E : zE) (σ : zW) : Prop := zWF E ∧ (∀ k d, zU E k d = (yN1 k d || (k == 3 && d == 0))) ∧ zRd (σ 0 0) (nFm 8 0) ∧ σ 3 0 1 = nFm 8 0 ∧ ∀ k d c, ¬ (k = 0 ∧ d = 0) → ¬ (k = 3 ∧ d = 0 ∧ c = 1) → σ k d c = zS0 k d c
def yN2 (k d : Nat) : Bool := k == 3 && d == 0
theorem yN2_iff {k d : Nat} : yN2 k d = true ↔ k = 3 ∧ d = 0 := by
  unfold yN2
  simp
set_option maxRecDepth 20000 in
set_option maxHeartbeats 8000000 in
theorem c10_world {E : zE} {σ : zW} (w : zW1 E σ) {am : Nat} (ham : zH E σ am = none) {c1 c2 c3 c14 c15 c17 c21 c23 c25 c26 c27 : Nat} {G' : gH} (s : gi (va_up (zH E σ) am (some zN10)) am 10 [.int 0, .ref c1, .ref c2, .ref c3, .int 0, .int 0, .int 0, .int 0, .int 0, .int 0, .long 0, .int 0, .int (-1), .int 0, .ref c14, .ref c15, .int 0, .ref c17, .int 0, .int 0, .int 0, .ref c21, .int 0, .ref c23, .int 0, .ref c25, .ref c26, .ref c27] [(c1, .inl (0, 1555, fun _ => 0)), (c2, .inr (.inl (10, fun _ => 0))), (c3, .inl (2, 600, fun _ => 0)), (c14, .inl (0, 1555, fun _ => 0)), (c15, .inr (.inl (10, fun _ => 0))), (c17, .inl (0, 12, fun _ => 0)), (c21, .inl (0, 10, fun _ => 0)), (c23, .inl (1, 96, fun _ => 0)), (c25, .inl (0, 15550, fun _ => 0)), (c26, .inl (0, 3110, fun _ => 0)), (c27, .inl (1, 2, fun _ => 0))] G') : ∃ E', zWF E' ∧ (∀ k d, zU E' k d = (yN1 k d || (k == 3 && d == 0))) ∧ zL E' 2 0 0 = zL E 2 0 0 ∧ zL E' 3 0 0 = am ∧ zH E' σ = G' := by
  obtain ⟨hW, hU, hR, hS⟩ := w
  obtain ⟨T, hT⟩ : ∃ T : List (Nat × Nat × Nat × Nat), T = [(am, 3, 0, 0), (c1, 3, 0, 1), (c2, 3, 0, 2), (c3, 3, 0, 3), (c14, 3, 0, 14), (c15, 3, 0, 15), (c17, 3, 0, 17), (c21, 3, 0, 21), (c23, 3, 0, 23), (c25, 3, 0, 25), (c26, 3, 0, 26), (c27, 3, 0, 27)] := ⟨_, rfl⟩
  have hmf : T.map Prod.fst = am :: List.map Prod.fst ([(c1, .inl (0, 1555, fun _ => 0)), (c2, .inr (.inl (10, fun _ => 0))), (c3, .inl (2, 600, fun _ => 0)), (c14, .inl (0, 1555, fun _ => 0)), (c15, .inr (.inl (10, fun _ => 0))), (c17, .inl (0, 12, fun _ => 0)), (c21, .inl (0, 10, fun _ => 0)), (c23, .inl (1, 96, fun _ => 0)), (c25, .inl (0, 15550, fun _ => 0)), (c26, .inl (0, 3110, fun _ => 0)), (c27, .inl (1, 2, fun _ => 0))] : List (Nat × gE)) := by rw [hT]; rfl
  have h1 : (T.map Prod.fst).Nodup := by
    rw [hmf]
    refine List.nodup_cons.mpr ⟨fun hp => ?_, s.ndp⟩
    obtain ⟨p, hp1, hp2⟩ := List.mem_map.mp hp
    exact s.nea p hp1 hp2
  have hms : T.map Prod.snd = [(3, 0, 0), (3, 0, 1), (3, 0, 2), (3, 0, 3), (3, 0, 14), (3, 0, 15), (3, 0, 17), (3, 0, 21), (3, 0, 23), (3, 0, 25), (3, 0, 26), (3, 0, 27)] := by rw [hT]; rfl
  have h2 : (T.map Prod.snd).Nodup := by
    rw [hms]
    decide +kernel
  have h3 : ∀ p ∈ T, yN2 p.2.1 p.2.2.1 = true := by
    intro p hp
    have : p.2 ∈ T.map Prod.snd := List.mem_map_of_mem hp
    rw [hms] at this
    have key : ∀ x ∈ ([(3, 0, 0), (3, 0, 1), (3, 0, 2), (3, 0, 3), (3, 0, 14), (3, 0, 15), (3, 0, 17), (3, 0, 21), (3, 0, 23), (3, 0, 25), (3, 0, 26), (3, 0, 27)] : List (Nat × Nat × Nat)), yN2 x.1 x.2.1 = true := by decide +kernel
    exact key p.2 this
  have hfree : ∀ p ∈ T, zH E σ p.1 = none := by
    intro p hp
    have : p.1 ∈ T.map Prod.fst := List.mem_map_of_mem hp
    rw [hmf] at this
    rcases List.mem_cons.mp this with h | h
    · rw [h]; exact ham
    · obtain ⟨r, hr, he⟩ := List.mem_map.mp h
      have := s.fre r hr
      rw [he, gva_ne (fun h0 => s.nea r hr (he.trans h0))] at this
      exact this
  have h4 : ∀ k d c, yN2 k d = true → zk k c = true → ∃ a, (a, k, d, c) ∈ T := by
    intro k d c hN hz
    have hm : (k, d, c) ∈ T.map Prod.snd := by
      rw [hms]
      obtain ⟨rfl, rfl⟩ := yN2_iff.mp hN
      have k0 : ∀ c : Fin 28, zk 3 c.val = true → (3, 0, c.val) ∈ ([(3, 0, 0), (3, 0, 1), (3, 0, 2), (3, 0, 3), (3, 0, 14), (3, 0, 15), (3, 0, 17), (3, 0, 21), (3, 0, 23), (3, 0, 25), (3, 0, 26), (3, 0, 27)] : List (Nat × Nat × Nat)) := by decide +kernel
      exact k0 ⟨c, by have := zk_3 hz; omega⟩ hz
    obtain ⟨p, hp, he⟩ := List.mem_map.mp hm
    exact ⟨p.1, by rw [← he]; exact hp⟩
  have h5 : ∀ k d, yN2 k d = true → zU E k d = false := by
    intro k d h
    obtain ⟨rfl, rfl⟩ := yN2_iff.mp h
    rw [hU]
    rfl
  have h30 : ∀ c, σ 3 0 c = zS0 3 0 c := fun c => hS 3 0 c (by omega)
  have hL := fun p hp => yE_L1 (E := E) (N := yN2) (p := p) h2 hp (h3 p hp)
  have l3_0 : zL (yE E yN2 T) 3 0 0 = am := hL (am, 3, 0, 0) (by rw [hT]; simp)
  have l3_1 : zL (yE E yN2 T) 3 0 1 = c1 := hL (c1, 3, 0, 1) (by rw [hT]; simp)
  have l3_2 : zL (yE E yN2 T) 3 0 2 = c2 := hL (c2, 3, 0, 2) (by rw [hT]; simp)
  have l3_3 : zL (yE E yN2 T) 3 0 3 = c3 := hL (c3, 3, 0, 3) (by rw [hT]; simp)
  have l3_14 : zL (yE E yN2 T) 3 0 14 = c14 := hL (c14, 3, 0, 14) (by rw [hT]; simp)
  have l3_15 : zL (yE E yN2 T) 3 0 15 = c15 := hL (c15, 3, 0, 15) (by rw [hT]; simp)
  have l3_17 : zL (yE E yN2 T) 3 0 17 = c17 := hL (c17, 3, 0, 17) (by rw [hT]; simp)
  have l3_21 : zL (yE E yN2 T) 3 0 21 = c21 := hL (c21, 3, 0, 21) (by rw [hT]; simp)
  have l3_23 : zL (yE E yN2 T) 3 0 23 = c23 := hL (c23, 3, 0, 23) (by rw [hT]; simp)
  have l3_25 : zL (yE E yN2 T) 3 0 25 = c25 := hL (c25, 3, 0, 25) (by rw [hT]; simp)
  have l3_26 : zL (yE E yN2 T) 3 0 26 = c26 := hL (c26, 3, 0, 26) (by rw [hT]; simp)
  have l3_27 : zL (yE E yN2 T) 3 0 27 = c27 := hL (c27, 3, 0, 27) (by rw [hT]; simp)
  have hLo : ∀ k d c, k ≤ 2 → zL (yE E yN2 T) k d c = zL E k d c := fun k d c hk => yE_L2 (fun h => by have := (yN2_iff.mp h).1; omega)
  refine ⟨yE E yN2 T, yE_WF (σ := σ) hW h1 h2 h3 h4 h5 hfree, fun k d => by rw [yE_U, hU]; rfl, hLo 2 0 0 (by omega), l3_0, ?_⟩
  refine yE_H (σ := σ) h1 h3 ⟨by rw [hU]; rfl, rfl⟩ (fun p hp => ?_) (fun q hq => ?_) (fun k d c hu => zC_cg hLo (fun h3 c => by
    subst h3
    refine yE_L2 (fun h => ?_)
    rw [h5 _ _ h] at hu
    exact absurd hu (by simp)))
  · have hown := s.own
    have hcel := s.cel
    rw [hT] at hp
    simp only [List.mem_cons, List.not_mem_nil, or_false] at hp
    rcases hp with rfl | rfl | rfl | rfl | rfl | rfl | rfl | rfl | rfl | rfl | rfl | rfl
    · show G' am = zC (yE E yN2 T) 3 0 0 (σ 3 0 0)
      rw [h30 0]
      have hz : zC (yE E yN2 T) 3 0 0 (zS0 3 0 0) = some (gO 10 [.int 0, .ref (zL (yE E yN2 T) 3 0 1), .ref (zL (yE E yN2 T) 3 0 2), .ref (zL (yE E yN2 T) 3 0 3), .int 0, .int 0, .int 0, .int 0, .int 0, .int 0, .long 0, .int 0, .int (-1), .int 0, .ref (zL (yE E yN2 T) 3 0 14), .ref (zL (yE E yN2 T) 3 0 15), .int 0, .ref (zL (yE E yN2 T) 3 0 17), .int 0, .int 0, .int 0, .ref (zL (yE E yN2 T) 3 0 21), .int 0, .ref (zL (yE E yN2 T) 3 0 23), .int 0, .ref (zL (yE E yN2 T) 3 0 25), .ref (zL (yE E yN2 T) 3 0 26), .ref (zL (yE E yN2 T) 3 0 27)]) := rfl
      refine Eq.trans ?_ hz.symm
      rw [l3_1, l3_2, l3_3, l3_14, l3_15, l3_17, l3_21, l3_23, l3_25, l3_26, l3_27]
      exact hown
    · show G' c1 = zC (yE E yN2 T) 3 0 1 (σ 3 0 1)
      rw [h30 1]
      exact (hcel (c1, .inl (0, 1555, fun _ => 0)) (by simp)).trans rfl
    · show G' c2 = zC (yE E yN2 T) 3 0 2 (σ 3 0 2)
      rw [h30 2]
      exact (hcel (c2, .inr (.inl (10, fun _ => 0))) (by simp)).trans rfl
    · show G' c3 = zC (yE E yN2 T) 3 0 3 (σ 3 0 3)
      rw [h30 3]
      exact (hcel (c3, .inl (2, 600, fun _ => 0)) (by simp)).trans rfl
    · show G' c14 = zC (yE E yN2 T) 3 0 14 (σ 3 0 14)
      rw [h30 14]
      exact (hcel (c14, .inl (0, 1555, fun _ => 0)) (by simp)).trans rfl
    · show G' c15 = zC (yE E yN2 T) 3 0 15 (σ 3 0 15)
      rw [h30 15]
      exact (hcel (c15, .inr (.inl (10, fun _ => 0))) (by simp)).trans rfl
    · show G' c17 = zC (yE E yN2 T) 3 0 17 (σ 3 0 17)
      rw [h30 17]
      exact (hcel (c17, .inl (0, 12, fun _ => 0)) (by simp)).trans rfl
    · show G' c21 = zC (yE E yN2 T) 3 0 21 (σ 3 0 21)
      rw [h30 21]
      exact (hcel (c21, .inl (0, 10, fun _ => 0)) (by simp)).trans rfl
    · show G' c23 = zC (yE E yN2 T) 3 0 23 (σ 3 0 23)
      rw [h30 23]
      exact (hcel (c23, .inl (1, 96, fun _ => 0)) (by simp)).trans rfl
    · show G' c25 = zC (yE E yN2 T) 3 0 25 (σ 3 0 25)
      rw [h30 25]
      exact (hcel (c25, .inl (0, 15550, fun _ => 0)) (by simp)).trans rfl
    · show G' c26 = zC (yE E yN2 T) 3 0 26 (σ 3 0 26)
      rw [h30 26]
      exact (hcel (c26, .inl (0, 3110, fun _ => 0)) (by simp)).trans rfl
    · show G' c27 = zC (yE E yN2 T) 3 0 27 (σ 3 0 27)
      rw [h30 27]
      exact (hcel (c27, .inl (1, 2, fun _ => 0)) (by simp)).trans rfl
  · have hq0 : q ≠ am := fun h => hq (am, 3, 0, 0) (by rw [hT]; simp) h.symm
    rw [s.out q hq0 (fun p hp h => ?_), gva_ne hq0]
    have hm : q ∈ T.map Prod.fst := by
      rw [hmf]
      exact List.mem_cons_of_mem _ (List.mem_map.mpr ⟨p, hp, h⟩)
    obtain ⟨r, hr, he⟩ := List.mem_map.mp hm
    exact hq r hr he
/-- the law's row is made: both objects are in step -/
theorem z_start4 {E : zE} {σ : zW} (w : zW2 E σ) {ao : Nat} (hao : zH E σ ao = none) : zGd (zL E 2 0 0) (zL E 3 0 0) ao (va_up (zH E σ) ao (some (.inr (.inl (1, fun _ => 0))))) := by
  obtain ⟨hW, hU, hR, h31, hS⟩ := w
  obtain ⟨N, hN⟩ : ∃ N : Nat → Nat → Bool, N = fun k d => k == 4 && d == 0 := ⟨_, rfl⟩
  have hNi : ∀ k d, N k d = true ↔ k = 4 ∧ d = 0 := fun k d => by rw [hN]; simp
  obtain ⟨T, hT⟩ : ∃ T : List (Nat × Nat × Nat × Nat), T = [(ao, 4, 0, 0)] := ⟨_, rfl⟩
  have h1 : (T.map Prod.fst).Nodup := by rw [hT]; simp
  have h2 : (T.map Prod.snd).Nodup := by rw [hT]; simp
  have hmT : ∀ p, p ∈ T ↔ p = (ao, 4, 0, 0) := fun p => by rw [hT]; simp
  have h3 : ∀ p ∈ T, N p.2.1 p.2.2.1 = true := fun p hp => by rw [(hmT p).mp hp]; exact (hNi 4 0).mpr ⟨rfl, rfl⟩
  have h5 : ∀ k d, N k d = true → zU E k d = false := by
    intro k d h
    obtain ⟨rfl, rfl⟩ := (hNi k d).mp h
    rw [hU]
    rfl
  have hLo : ∀ k d c, k ≤ 3 → zL (yE E N T) k d c = zL E k d c := fun k d c hk => yE_L2 (fun h => by have := ((hNi k d).mp h).1; omega)
  have hL4 : zL (yE E N T) 4 0 0 = ao := yE_L1 (E := E) (N := N) (p := (ao, 4, 0, 0)) h2 ((hmT _).mpr rfl) ((hNi 4 0).mpr ⟨rfl, rfl⟩)
  have hWF : zWF (yE E N T) := yE_WF (σ := σ) hW h1 h2 h3 (fun k d c hk hz => by
    obtain ⟨rfl, rfl⟩ := (hNi k d).mp hk
    exact ⟨ao, (hmT _).mpr (by rw [zk_4 hz])⟩) h5 (fun p hp => by rw [(hmT p).mp hp]; exact hao)
  have hH : zH (yE E N T) σ = va_up (zH E σ) ao (some (.inr (.inl (1, fun _ => 0)))) := by
    refine yE_H (σ := σ) h1 h3 ⟨by rw [hU]; rfl, by cases h : N 9 0 with
      | false => rfl
      | true => exact absurd ((hNi 9 0).mp h).1 (by omega)⟩ (fun p hp => ?_) (fun q hq => ?_) (fun k d c hu => zC_cg (fun k d c hk => hLo k d c (by omega)) (fun _ c => hLo 3 d c (by omega)))
    · rw [(hmT p).mp hp]
      show va_up _ ao _ ao = zC (yE E N T) 4 0 0 (σ 4 0 0)
      rw [gva_at, hS 4 0 0 (by omega) (by omega)]
      rfl
    · exact gva_ne (fun h => hq (ao, 4, 0, 0) ((hmT _).mpr rfl) h.symm)
  have hUE : ∀ k d, zU (yE E N T) k d = true ↔ ((k = 0 ∧ (d = 0 ∨ d = 1)) ∨ (k = 1 ∧ (d = 0 ∨ d = 1 ∨ d = 14)) ∨ (k = 2 ∧ d = 0)) ∨ (k = 3 ∧ d = 0) ∨ k = 4 ∧ d = 0 := by
    intro k d
    rw [yE_U, hU, Bool.or_eq_true, Bool.or_eq_true, yN1_iff, hNi]
    simp [or_assoc]
  have n2 : ∀ i, 2 ≤ i → nFm 8 0 i = 0 := fun i hi => by unfold nFm; rw [if_neg (by omega), if_neg (by omega)]
  have hsh : ∀ nm : Int → Int, zSh nm σ 0 (nFm 8 0) := fun nm => ⟨hR, nFm_W (by omega) (by omega) (by omega) (by omega) (by omega), fun i i0 i1 => by rw [n2 2 (by omega)] at i1; omega⟩
  have hz : ∀ k d c, ¬ (k = 0 ∧ d = 0) → ¬ (k = 3 ∧ d = 0 ∧ c = 1) → ¬ (k = 2 ∧ (c = 0 ∨ c = 3)) ∧ ¬ (k = 3 ∧ c = 0) → ∀ i, σ k d c i = 0 := fun k d c z1 z2 z3 i => by rw [hS k d c z1 z2, zS0_ne z3]
  refine ⟨yE E N T, σ, hH.symm, 0, 1, 0, fun _ => nFm 8 0, fun _ => false, fun _ => nFm 8 0, 0, fun _ => 0, ⟨hWF, fun d => ?_, (hUE 3 0).mpr (by omega), (hUE 4 0).mpr (by omega), ?_, (hUE 1 14).mpr (by omega), 15, by omega, fun d hd => ?_⟩, ⟨hLo 2 0 0 (by omega), hLo 3 0 0 (by omega), hL4⟩, ⟨⟨⟨?_, ?_, by omega⟩, ⟨(hUE 0 0).mpr (by omega), (hUE 1 0).mpr (by omega), (hUE 0 1).mpr (by omega), (hUE 1 1).mpr (by omega)⟩, fun c hc j => Or.inl (hz 2 0 c (by omega) (by omega) (by omega) j), fun c c' j j' s hc hc' e1 e2 => ?_⟩, ?_, ⟨0, ?_, by omega, by omega, ?_, by omega, by omega, fun k k0 k1 => by omega⟩, fun j j0 j1 => ⟨hz 2 0 7 (by omega) (by omega) (by omega) j, fun h => by simp at h⟩⟩, ⟨?_, by omega, by omega, fun k i k0 k1 => by omega⟩, fun j j0 j1 => ⟨hz 3 0 27 (by omega) (by omega) (by omega) j, fun h => by simp at h⟩, ?_, ?_, ⟨by omega, fun i i0 i1 => by omega⟩, ⟨by omega, fun i i0 i1 => by omega⟩, ?_⟩
  · rw [hUE]; omega
  · cases h : zU (yE E N T) 9 0 with
    | false => rfl
    | true => exact absurd ((hUE 9 0).mp h) (by omega)
  · rw [hUE, hUE] at hd; omega
  · rw [hS 2 0 0 (by omega) (by omega)]; rfl
  · rw [hS 2 0 0 (by omega) (by omega)]; rfl
  · rw [hz 2 0 c (by omega) (by omega) (by omega) j] at e1; omega
  · rw [h31]; exact hsh _
  · rw [hS 2 0 4 (by omega) (by omega)]; rfl
  · rw [hS 2 0 4 (by omega) (by omega)]; rfl
  · rw [hS 3 0 0 (by omega) (by omega)]; rfl
  · rw [hS 2 0 1 (by omega) (by omega)]; rfl
  · rw [hS 3 0 0 (by omega) (by omega)]; rfl
  · rw [hS 2 0 3 (by omega) (by omega), hS 3 0 0 (by omega) (by omega)]; rfl

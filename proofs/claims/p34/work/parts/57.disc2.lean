/-! The new disc's cells make the longer world. -/
section zX
variable {E : zE} {d' : Nat} {T : List (Nat × Nat × Nat)}
theorem xE_zg {t n : Nat} {r : Int → Int} (h : t = 4 → ∀ j : Nat, r j = 0 ∨ (r j - 1).toNat ≠ d') : zg (xE E d' T) t n r = zg E t n r := by
  unfold zg
  split
  · rfl
  · rfl
  · rfl
  · rfl
  · congr 1
    congr 1
    congr 1
    congr 1
    congr 1
    funext j
    rcases h rfl j with h5 | h5
    · rw [if_pos h5, if_pos h5]
    · rw [xE_L2 (fun q => h5 q.2)]
  · rfl
  · rfl
theorem xE_C {k d c : Nat} {r : Int → Int} (hn : ¬ (k ≤ 1 ∧ d = d')) (h14 : d' ≠ 14) (hm : k = 2 → c = 0 → (r 5).toNat ≠ d' ∧ (r 6).toNat ≠ d') (hr : k = 2 → (c = 5 ∨ c = 8) → ∀ j : Nat, r j = 0 ∨ (r j - 1).toNat ≠ d') : zC (xE E d' T) k d c r = zC E k d c r := by
  have hL : ∀ c', zL (xE E d' T) k d c' = zL E k d c' := fun c' => xE_L2 hn
  have hL1 : k = 0 → zL (xE E d' T) 1 d 0 = zL E 1 d 0 := fun h => xE_L2 (fun q => hn ⟨by omega, q.2⟩)
  have hL14 : zL (xE E d' T) 1 14 0 = zL E 1 14 0 := xE_L2 (fun q => h14 q.2.symm)
  unfold zC
  cases hA : zA k c with
  | some p =>
    obtain ⟨t, n⟩ := p
    show some (zg (xE E d' T) t n r) = some (zg E t n r)
    rw [xE_zg (fun h4 => ?_)]
    have : k = 2 ∧ (c = 5 ∨ c = 8) := by
      unfold zA at hA
      split at hA
      all_goals first
        | (injection hA with hA; injection hA with h1 h2; omega)
        | omega
        | simp at hA
    exact hr this.1 this.2
  | none =>
    show (zB (xE E d' T) k d c r).map _ = (zB E k d c r).map _
    congr 1
    unfold zB
    split
    all_goals first
      | rfl
      | (rw [hL1 rfl]; simp only [hL])
      | (have h5 := hm rfl rfl
         rw [hL14, xE_L2 (fun q => h5.1 q.2), xE_L2 (fun q => h5.2 q.2)]
         simp only [hL]
         done)
      | simp only [hL]
theorem zk_new {k c : Nat} (hk : k ≤ 1) (h : zk k c = true) : (k = 0 ∧ c ≤ 24) ∨ (k = 1 ∧ c ≤ 4) := by
  rcases (by omega : k = 0 ∨ k = 1) with rfl | rfl
  · refine Or.inl ⟨rfl, ?_⟩
    by_cases h2 : c ≤ 24
    · exact h2
    · obtain ⟨m, rfl⟩ : ∃ m, c = m + 25 := ⟨c - 25, by omega⟩
      exact absurd h (by simp [zk, zA, zB])
  · refine Or.inr ⟨rfl, ?_⟩
    by_cases h2 : c ≤ 4
    · exact h2
    · obtain ⟨m, rfl⟩ : ∃ m, c = m + 5 := ⟨c - 5, by omega⟩
      exact absurd h (by simp [zk, zA, zB])
end zX
section zY
variable {E : zE} {σ : zW} {d' : Nat}
def zNew (σ : zW) (d' : Nat) : zW := fun k d c i => if k ≤ 1 ∧ d = d' then 0 else σ k d c i
theorem zNew_at {k c : Nat} (hk : k ≤ 1) : zNew σ d' k d' c = fun _ => 0 := by
  funext i
  unfold zNew
  rw [if_pos ⟨hk, rfl⟩]
theorem zNew_ne {k d c : Nat} (h : ¬ (k ≤ 1 ∧ d = d')) : zNew σ d' k d c = σ k d c := by
  funext i
  unfold zNew
  rw [if_neg h]
theorem gi_disc (hW : zWF E) (h5 : zU E 0 d' = false ∧ zU E 1 d' = false) (h9 : zU E 9 0 = false) (h14 : d' ≠ 14) (hm : ∀ d, zU E 2 d = true → (σ 2 d 0 5).toNat ≠ d' ∧ (σ 2 d 0 6).toNat ≠ d') (hr : ∀ d c, zU E 2 d = true → (c = 5 ∨ c = 8) → ∀ j : Nat, σ 2 d c j = 0 ∨ (σ 2 d c j - 1).toNat ≠ d') (hC : ∀ k d c, zU E k d = true → zk k c = true → zC E k d c (σ k d c) ≠ none) {a0 : Nat} (z0 : zH E σ a0 = none) {K : gH → Prop} (h : ∀ E', zWF E' → (∀ k d, zU E' k d = (zU E k d || (decide (k ≤ 1) && decide (d = d')))) → zL E' 0 d' 0 = a0 → (∀ k d c, ¬ (k ≤ 1 ∧ d = d') → zL E' k d c = zL E k d c) → K (zH E' (zNew σ d'))) : w_X1_init (va_up (zH E σ) a0 (some (gO 1 [.null, .null, .null, .int 0, .null, .int 0, .null]))) a0 K := by
  refine gi_X1 gva_at ?_
  intro b1 b2 b3 b4 b5 b6 b7 b8 b9 v10 v11 v12 v13 v14 v15 s16 s17 s18 s19 s24 s20 s21 s22 c23 w0 w1 w2 w3 w4 G' s
  obtain ⟨T, hT⟩ : ∃ T : List (Nat × Nat × Nat), T = [(a0, 0, 0), (b1, 0, 1), (b2, 0, 2), (b3, 0, 3), (b4, 0, 4), (b5, 0, 5), (b6, 0, 6), (b7, 0, 7), (b8, 0, 8), (b9, 0, 9), (v10, 0, 10), (v11, 0, 11), (v12, 0, 12), (v13, 0, 13), (v14, 0, 14), (v15, 0, 15), (s16, 0, 16), (s17, 0, 17), (s18, 0, 18), (s19, 0, 19), (s24, 0, 24), (s20, 0, 20), (s21, 0, 21), (s22, 0, 22), (c23, 0, 23), (w0, 1, 0), (w1, 1, 1), (w2, 1, 2), (w3, 1, 3), (w4, 1, 4)] := ⟨_, rfl⟩
  have hold0 : ∀ q, q ≠ a0 → va_up (zH E σ) a0 (some (gO 1 [.null, .null, .null, .int 0, .null, .int 0, .null])) q = zH E σ q := fun q hq => gva_ne hq
  have h1 : (T.map Prod.fst).Nodup := by
    rw [hT]
    refine List.nodup_cons.mpr ⟨fun hp => ?_, s.ndp⟩
    obtain ⟨p, hp1, hp2⟩ := List.mem_map.mp (show a0 ∈ List.map Prod.fst [(b1, gO 0 [.int 0, .int 0, .int 0, .ref b2, .ref b3, .ref b4, .ref b5, .ref b6, .ref b7, .ref b8, .ref b9]), (b2, .inl (0, 96, fun _ => 0)), (b3, .inl (1, 96, fun _ => 0)), (b4, .inl (1, 96, fun _ => 0)), (b5, .inl (0, 96, fun _ => 0)), (b6, .inl (0, 96, fun _ => 0)), (b7, .inl (0, 96, fun _ => 0)), (b8, .inl (0, 96, fun _ => 0)), (b9, .inl (0, 96, fun _ => 0)), (v10, gO 7 [.int 0, .ref v11, .ref v12, .ref v13, .ref v14, .ref v15]), (v11, .inl (0, 96, fun _ => 0)), (v12, .inl (0, 96, fun _ => 0)), (v13, .inl (0, 96, fun _ => 0)), (v14, .inl (0, 96, fun _ => 0)), (v15, .inl (0, 96, fun _ => 0)), (s16, gO 5 [.int 0, .ref s17, .ref s18, .ref s19, .ref s24, .ref s20, .ref s21, .ref s22]), (s17, .inl (0, 12, fun _ => 0)), (s18, .inl (0, 12, fun _ => 0)), (s19, .inl (0, 12, fun _ => 0)), (s24, .inl (0, 12, fun _ => 0)), (s20, .inl (0, 12, fun _ => 0)), (s21, .inl (0, 120, fun _ => 0)), (s22, .inl (0, 120, fun _ => 0)), (c23, .inr (.inl (10, fun _ => 0))), (w0, gO 8 [.int 0, .ref w1, .ref w2, .ref w3, .ref w4]), (w1, .inl (1, 12, fun _ => 0)), (w2, .inl (0, 10, fun _ => 0)), (w3, .inl (0, 10, fun _ => 0)), (w4, .inl (1, 10, fun _ => 0))] from hp)
    exact s.nea p hp1 hp2
  have h2 : (T.map Prod.snd).Nodup := by
    rw [hT]
    show ([((0 : Nat), (0 : Nat)), ((0 : Nat), (1 : Nat)), ((0 : Nat), (2 : Nat)), ((0 : Nat), (3 : Nat)), ((0 : Nat), (4 : Nat)), ((0 : Nat), (5 : Nat)), ((0 : Nat), (6 : Nat)), ((0 : Nat), (7 : Nat)), ((0 : Nat), (8 : Nat)), ((0 : Nat), (9 : Nat)), ((0 : Nat), (10 : Nat)), ((0 : Nat), (11 : Nat)), ((0 : Nat), (12 : Nat)), ((0 : Nat), (13 : Nat)), ((0 : Nat), (14 : Nat)), ((0 : Nat), (15 : Nat)), ((0 : Nat), (16 : Nat)), ((0 : Nat), (17 : Nat)), ((0 : Nat), (18 : Nat)), ((0 : Nat), (19 : Nat)), ((0 : Nat), (24 : Nat)), ((0 : Nat), (20 : Nat)), ((0 : Nat), (21 : Nat)), ((0 : Nat), (22 : Nat)), ((0 : Nat), (23 : Nat)), ((1 : Nat), (0 : Nat)), ((1 : Nat), (1 : Nat)), ((1 : Nat), (2 : Nat)), ((1 : Nat), (3 : Nat)), ((1 : Nat), (4 : Nat))] : List (Nat × Nat)).Nodup
    decide
  have h3 : ∀ p ∈ T, p.2.1 ≤ 1 := by
    rw [hT]
    simp
  have h6 : ∀ p ∈ T, zH E σ p.1 = none := by
    intro p hp
    have hm2 : p.1 ∈ T.map Prod.fst := List.mem_map_of_mem hp
    rw [hT] at hm2
    rcases List.mem_cons.mp hm2 with e | e
    · rw [e]; exact z0
    · obtain ⟨r, r1, r2⟩ := List.mem_map.mp (show p.1 ∈ List.map Prod.fst [(b1, gO 0 [.int 0, .int 0, .int 0, .ref b2, .ref b3, .ref b4, .ref b5, .ref b6, .ref b7, .ref b8, .ref b9]), (b2, .inl (0, 96, fun _ => 0)), (b3, .inl (1, 96, fun _ => 0)), (b4, .inl (1, 96, fun _ => 0)), (b5, .inl (0, 96, fun _ => 0)), (b6, .inl (0, 96, fun _ => 0)), (b7, .inl (0, 96, fun _ => 0)), (b8, .inl (0, 96, fun _ => 0)), (b9, .inl (0, 96, fun _ => 0)), (v10, gO 7 [.int 0, .ref v11, .ref v12, .ref v13, .ref v14, .ref v15]), (v11, .inl (0, 96, fun _ => 0)), (v12, .inl (0, 96, fun _ => 0)), (v13, .inl (0, 96, fun _ => 0)), (v14, .inl (0, 96, fun _ => 0)), (v15, .inl (0, 96, fun _ => 0)), (s16, gO 5 [.int 0, .ref s17, .ref s18, .ref s19, .ref s24, .ref s20, .ref s21, .ref s22]), (s17, .inl (0, 12, fun _ => 0)), (s18, .inl (0, 12, fun _ => 0)), (s19, .inl (0, 12, fun _ => 0)), (s24, .inl (0, 12, fun _ => 0)), (s20, .inl (0, 12, fun _ => 0)), (s21, .inl (0, 120, fun _ => 0)), (s22, .inl (0, 120, fun _ => 0)), (c23, .inr (.inl (10, fun _ => 0))), (w0, gO 8 [.int 0, .ref w1, .ref w2, .ref w3, .ref w4]), (w1, .inl (1, 12, fun _ => 0)), (w2, .inl (0, 10, fun _ => 0)), (w3, .inl (0, 10, fun _ => 0)), (w4, .inl (1, 10, fun _ => 0))] from e)
      rw [← r2, ← hold0 r.1 (s.nea r r1)]
      exact s.fre r r1
  have h4 : ∀ k c, k ≤ 1 → zk k c = true → ∃ a, (a, k, c) ∈ T := by
    intro k c hk hz
    rw [hT]
    rcases zk_new hk hz with ⟨rfl, hc⟩ | ⟨rfl, hc⟩
    · have hcc : c = 0 ∨ c = 1 ∨ c = 2 ∨ c = 3 ∨ c = 4 ∨ c = 5 ∨ c = 6 ∨ c = 7 ∨ c = 8 ∨ c = 9 ∨ c = 10 ∨ c = 11 ∨ c = 12 ∨ c = 13 ∨ c = 14 ∨ c = 15 ∨ c = 16 ∨ c = 17 ∨ c = 18 ∨ c = 19 ∨ c = 20 ∨ c = 21 ∨ c = 22 ∨ c = 23 ∨ c = 24 := by omega
      rcases hcc with rfl | rfl | rfl | rfl | rfl | rfl | rfl | rfl | rfl | rfl | rfl | rfl | rfl | rfl | rfl | rfl | rfl | rfl | rfl | rfl | rfl | rfl | rfl | rfl | rfl
      · exact ⟨a0, by simp⟩
      · exact ⟨b1, by simp⟩
      · exact ⟨b2, by simp⟩
      · exact ⟨b3, by simp⟩
      · exact ⟨b4, by simp⟩
      · exact ⟨b5, by simp⟩
      · exact ⟨b6, by simp⟩
      · exact ⟨b7, by simp⟩
      · exact ⟨b8, by simp⟩
      · exact ⟨b9, by simp⟩
      · exact ⟨v10, by simp⟩
      · exact ⟨v11, by simp⟩
      · exact ⟨v12, by simp⟩
      · exact ⟨v13, by simp⟩
      · exact ⟨v14, by simp⟩
      · exact ⟨v15, by simp⟩
      · exact ⟨s16, by simp⟩
      · exact ⟨s17, by simp⟩
      · exact ⟨s18, by simp⟩
      · exact ⟨s19, by simp⟩
      · exact ⟨s20, by simp⟩
      · exact ⟨s21, by simp⟩
      · exact ⟨s22, by simp⟩
      · exact ⟨c23, by simp⟩
      · exact ⟨s24, by simp⟩
    · have hcc : c = 0 ∨ c = 1 ∨ c = 2 ∨ c = 3 ∨ c = 4 := by omega
      rcases hcc with rfl | rfl | rfl | rfl | rfl
      · exact ⟨w0, by simp⟩
      · exact ⟨w1, by simp⟩
      · exact ⟨w2, by simp⟩
      · exact ⟨w3, by simp⟩
      · exact ⟨w4, by simp⟩
  have hL := fun p hp => xE_L1 (E := E) (d' := d') (p := p) h2 hp (h3 p hp)

  have L0_0 : zL (xE E d' T) 0 d' 0 = a0 := hL (a0, 0, 0) (by rw [hT]; simp)
  have L0_1 : zL (xE E d' T) 0 d' 1 = b1 := hL (b1, 0, 1) (by rw [hT]; simp)
  have L0_2 : zL (xE E d' T) 0 d' 2 = b2 := hL (b2, 0, 2) (by rw [hT]; simp)
  have L0_3 : zL (xE E d' T) 0 d' 3 = b3 := hL (b3, 0, 3) (by rw [hT]; simp)
  have L0_4 : zL (xE E d' T) 0 d' 4 = b4 := hL (b4, 0, 4) (by rw [hT]; simp)
  have L0_5 : zL (xE E d' T) 0 d' 5 = b5 := hL (b5, 0, 5) (by rw [hT]; simp)
  have L0_6 : zL (xE E d' T) 0 d' 6 = b6 := hL (b6, 0, 6) (by rw [hT]; simp)
  have L0_7 : zL (xE E d' T) 0 d' 7 = b7 := hL (b7, 0, 7) (by rw [hT]; simp)
  have L0_8 : zL (xE E d' T) 0 d' 8 = b8 := hL (b8, 0, 8) (by rw [hT]; simp)
  have L0_9 : zL (xE E d' T) 0 d' 9 = b9 := hL (b9, 0, 9) (by rw [hT]; simp)
  have L0_10 : zL (xE E d' T) 0 d' 10 = v10 := hL (v10, 0, 10) (by rw [hT]; simp)
  have L0_11 : zL (xE E d' T) 0 d' 11 = v11 := hL (v11, 0, 11) (by rw [hT]; simp)
  have L0_12 : zL (xE E d' T) 0 d' 12 = v12 := hL (v12, 0, 12) (by rw [hT]; simp)
  have L0_13 : zL (xE E d' T) 0 d' 13 = v13 := hL (v13, 0, 13) (by rw [hT]; simp)
  have L0_14 : zL (xE E d' T) 0 d' 14 = v14 := hL (v14, 0, 14) (by rw [hT]; simp)
  have L0_15 : zL (xE E d' T) 0 d' 15 = v15 := hL (v15, 0, 15) (by rw [hT]; simp)
  have L0_16 : zL (xE E d' T) 0 d' 16 = s16 := hL (s16, 0, 16) (by rw [hT]; simp)
  have L0_17 : zL (xE E d' T) 0 d' 17 = s17 := hL (s17, 0, 17) (by rw [hT]; simp)
  have L0_18 : zL (xE E d' T) 0 d' 18 = s18 := hL (s18, 0, 18) (by rw [hT]; simp)
  have L0_19 : zL (xE E d' T) 0 d' 19 = s19 := hL (s19, 0, 19) (by rw [hT]; simp)
  have L0_24 : zL (xE E d' T) 0 d' 24 = s24 := hL (s24, 0, 24) (by rw [hT]; simp)
  have L0_20 : zL (xE E d' T) 0 d' 20 = s20 := hL (s20, 0, 20) (by rw [hT]; simp)
  have L0_21 : zL (xE E d' T) 0 d' 21 = s21 := hL (s21, 0, 21) (by rw [hT]; simp)
  have L0_22 : zL (xE E d' T) 0 d' 22 = s22 := hL (s22, 0, 22) (by rw [hT]; simp)
  have L0_23 : zL (xE E d' T) 0 d' 23 = c23 := hL (c23, 0, 23) (by rw [hT]; simp)
  have L1_0 : zL (xE E d' T) 1 d' 0 = w0 := hL (w0, 1, 0) (by rw [hT]; simp)
  have L1_1 : zL (xE E d' T) 1 d' 1 = w1 := hL (w1, 1, 1) (by rw [hT]; simp)
  have L1_2 : zL (xE E d' T) 1 d' 2 = w2 := hL (w2, 1, 2) (by rw [hT]; simp)
  have L1_3 : zL (xE E d' T) 1 d' 3 = w3 := hL (w3, 1, 3) (by rw [hT]; simp)
  have L1_4 : zL (xE E d' T) 1 d' 4 = w4 := hL (w4, 1, 4) (by rw [hT]; simp)
  have hH : zH (xE E d' T) (zNew σ d') = G' := by
    refine xE_H (σ := σ) h1 h3 h9 (fun p hp => ?_) (fun q hq => ?_) (fun k d c hu => ?_)
    · rw [zNew_at (h3 p hp)]
      have hown := s.own
      have hcel := s.cel
      rw [hT] at hp
      simp only [List.mem_cons, List.not_mem_nil, or_false] at hp
      rcases hp with rfl | rfl | rfl | rfl | rfl | rfl | rfl | rfl | rfl | rfl | rfl | rfl | rfl | rfl | rfl | rfl | rfl | rfl | rfl | rfl | rfl | rfl | rfl | rfl | rfl | rfl | rfl | rfl | rfl | rfl
      · show G' a0 = some (gO 1 [.ref (zL (xE E d' T) 0 d' 1), .ref (zL (xE E d' T) 0 d' 10), .ref (zL (xE E d' T) 0 d' 16), .int (zI 0), .ref (zL (xE E d' T) 0 d' 23), .int (zI 0), .ref (zL (xE E d' T) 1 d' 0)])
        rw [hown, L0_1, L0_10, L0_16, L0_23, L1_0]
        rfl
      · show G' b1 = some (gO 0 [.int (zI 0), .int (zI 0), .int (zI 0), .ref (zL (xE E d' T) 0 d' 2), .ref (zL (xE E d' T) 0 d' 3), .ref (zL (xE E d' T) 0 d' 4), .ref (zL (xE E d' T) 0 d' 5), .ref (zL (xE E d' T) 0 d' 6), .ref (zL (xE E d' T) 0 d' 7), .ref (zL (xE E d' T) 0 d' 8), .ref (zL (xE E d' T) 0 d' 9)])
        rw [hcel (b1, gO 0 [.int 0, .int 0, .int 0, .ref b2, .ref b3, .ref b4, .ref b5, .ref b6, .ref b7, .ref b8, .ref b9]) (by simp), L0_2, L0_3, L0_4, L0_5, L0_6, L0_7, L0_8, L0_9]
        rfl
      · exact (hcel (b2, .inl (0, 96, fun _ => 0)) (by simp)).trans rfl
      · exact (hcel (b3, .inl (1, 96, fun _ => 0)) (by simp)).trans rfl
      · exact (hcel (b4, .inl (1, 96, fun _ => 0)) (by simp)).trans rfl
      · exact (hcel (b5, .inl (0, 96, fun _ => 0)) (by simp)).trans rfl
      · exact (hcel (b6, .inl (0, 96, fun _ => 0)) (by simp)).trans rfl
      · exact (hcel (b7, .inl (0, 96, fun _ => 0)) (by simp)).trans rfl
      · exact (hcel (b8, .inl (0, 96, fun _ => 0)) (by simp)).trans rfl
      · exact (hcel (b9, .inl (0, 96, fun _ => 0)) (by simp)).trans rfl
      · show G' v10 = some (gO 7 [.int (zI 0), .ref (zL (xE E d' T) 0 d' 11), .ref (zL (xE E d' T) 0 d' 12), .ref (zL (xE E d' T) 0 d' 13), .ref (zL (xE E d' T) 0 d' 14), .ref (zL (xE E d' T) 0 d' 15)])
        rw [hcel (v10, gO 7 [.int 0, .ref v11, .ref v12, .ref v13, .ref v14, .ref v15]) (by simp), L0_11, L0_12, L0_13, L0_14, L0_15]
        rfl
      · exact (hcel (v11, .inl (0, 96, fun _ => 0)) (by simp)).trans rfl
      · exact (hcel (v12, .inl (0, 96, fun _ => 0)) (by simp)).trans rfl
      · exact (hcel (v13, .inl (0, 96, fun _ => 0)) (by simp)).trans rfl
      · exact (hcel (v14, .inl (0, 96, fun _ => 0)) (by simp)).trans rfl
      · exact (hcel (v15, .inl (0, 96, fun _ => 0)) (by simp)).trans rfl
      · show G' s16 = some (gO 5 [.int (zI 0), .ref (zL (xE E d' T) 0 d' 17), .ref (zL (xE E d' T) 0 d' 18), .ref (zL (xE E d' T) 0 d' 19), .ref (zL (xE E d' T) 0 d' 24), .ref (zL (xE E d' T) 0 d' 20), .ref (zL (xE E d' T) 0 d' 21), .ref (zL (xE E d' T) 0 d' 22)])
        rw [hcel (s16, gO 5 [.int 0, .ref s17, .ref s18, .ref s19, .ref s24, .ref s20, .ref s21, .ref s22]) (by simp), L0_17, L0_18, L0_19, L0_24, L0_20, L0_21, L0_22]
        rfl
      · exact (hcel (s17, .inl (0, 12, fun _ => 0)) (by simp)).trans rfl
      · exact (hcel (s18, .inl (0, 12, fun _ => 0)) (by simp)).trans rfl
      · exact (hcel (s19, .inl (0, 12, fun _ => 0)) (by simp)).trans rfl
      · exact (hcel (s24, .inl (0, 12, fun _ => 0)) (by simp)).trans rfl
      · exact (hcel (s20, .inl (0, 12, fun _ => 0)) (by simp)).trans rfl
      · exact (hcel (s21, .inl (0, 120, fun _ => 0)) (by simp)).trans rfl
      · exact (hcel (s22, .inl (0, 120, fun _ => 0)) (by simp)).trans rfl
      · exact (hcel (c23, .inr (.inl (10, fun _ => 0))) (by simp)).trans rfl
      · show G' w0 = some (gO 8 [.int (zI 0), .ref (zL (xE E d' T) 1 d' 1), .ref (zL (xE E d' T) 1 d' 2), .ref (zL (xE E d' T) 1 d' 3), .ref (zL (xE E d' T) 1 d' 4)])
        rw [hcel (w0, gO 8 [.int 0, .ref w1, .ref w2, .ref w3, .ref w4]) (by simp), L1_1, L1_2, L1_3, L1_4]
        rfl
      · exact (hcel (w1, .inl (1, 12, fun _ => 0)) (by simp)).trans rfl
      · exact (hcel (w2, .inl (0, 10, fun _ => 0)) (by simp)).trans rfl
      · exact (hcel (w3, .inl (0, 10, fun _ => 0)) (by simp)).trans rfl
      · exact (hcel (w4, .inl (1, 10, fun _ => 0)) (by simp)).trans rfl
    · have ha : q ≠ a0 := fun e => hq (a0, 0, 0) (by rw [hT]; simp) e.symm
      rw [s.out q ha (fun p hp e => ?_), hold0 q ha]
      have hm2 : p.1 ∈ T.map Prod.fst := by
        rw [hT]
        exact List.mem_cons_of_mem _ (show p.1 ∈ List.map Prod.fst [(b1, gO 0 [.int 0, .int 0, .int 0, .ref b2, .ref b3, .ref b4, .ref b5, .ref b6, .ref b7, .ref b8, .ref b9]), (b2, .inl (0, 96, fun _ => 0)), (b3, .inl (1, 96, fun _ => 0)), (b4, .inl (1, 96, fun _ => 0)), (b5, .inl (0, 96, fun _ => 0)), (b6, .inl (0, 96, fun _ => 0)), (b7, .inl (0, 96, fun _ => 0)), (b8, .inl (0, 96, fun _ => 0)), (b9, .inl (0, 96, fun _ => 0)), (v10, gO 7 [.int 0, .ref v11, .ref v12, .ref v13, .ref v14, .ref v15]), (v11, .inl (0, 96, fun _ => 0)), (v12, .inl (0, 96, fun _ => 0)), (v13, .inl (0, 96, fun _ => 0)), (v14, .inl (0, 96, fun _ => 0)), (v15, .inl (0, 96, fun _ => 0)), (s16, gO 5 [.int 0, .ref s17, .ref s18, .ref s19, .ref s24, .ref s20, .ref s21, .ref s22]), (s17, .inl (0, 12, fun _ => 0)), (s18, .inl (0, 12, fun _ => 0)), (s19, .inl (0, 12, fun _ => 0)), (s24, .inl (0, 12, fun _ => 0)), (s20, .inl (0, 12, fun _ => 0)), (s21, .inl (0, 120, fun _ => 0)), (s22, .inl (0, 120, fun _ => 0)), (c23, .inr (.inl (10, fun _ => 0))), (w0, gO 8 [.int 0, .ref w1, .ref w2, .ref w3, .ref w4]), (w1, .inl (1, 12, fun _ => 0)), (w2, .inl (0, 10, fun _ => 0)), (w3, .inl (0, 10, fun _ => 0)), (w4, .inl (1, 10, fun _ => 0))] from List.mem_map_of_mem hp)
      obtain ⟨r, r1, r2⟩ := List.mem_map.mp hm2
      exact hq r r1 (r2.trans e)
    · have hn : ¬ (k ≤ 1 ∧ d = d') := fun e => by
        rcases (by omega : k = 0 ∨ k = 1) with e0 | e0 <;> rw [e0, e.2] at hu <;> simp [h5.1, h5.2] at hu
      rw [zNew_ne hn]
      refine xE_C hn h14 (fun e1 e2 => ?_) (fun e1 e2 j => ?_)
      · subst e1 e2; exact hm d hu
      · subst e1; exact hr d c hu e2 j
  rw [← hH]
  exact h _ (xE_WF (σ := σ) hW h1 h2 h3 h4 h5 h6 hC) (fun _ _ => rfl) L0_0 (fun _ _ _ hn => xE_L2 hn)
end zY

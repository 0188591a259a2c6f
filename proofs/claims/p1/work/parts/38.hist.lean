/-! Discs kept in arrays: taking one out, and putting one over another. -/
section zCls
variable {E : zE} {σ : zW} {n : zN}
theorem c9_loadFrom (hW : zWF E) {k dk c N : Nat} (hk : zU E k dk = true) (ha : zA k c = some (4, N)) (hN : N < 1000) {i : Int} (h0 : 0 ≤ i) (h1 : i < N) {s : Nat} (hs : σ k dk c i = (s : Int) + 1) {d2 : Nat} (hd : d2 ≠ s) (hus : zU E 0 s = true) (hu2 : zU E 0 d2 = true) (hR : zRd (σ 0 s) n) (hn : nW n) {K : gH → Prop} (hK : ∀ σ', (∀ k' d' c', ¬ (k' = 0 ∧ d' = d2) → σ' k' d' c' = σ k' d' c') → (∀ i, 0 ≤ i → i < 10 → σ' 0 d2 23 i = σ 0 s 23 i) → zRd (σ' 0 d2) n → K (zH E σ')) : w_X9_loadFrom (zH E σ) (zL E k dk c) (zI i) (zL E 0 d2 0) K := by
  obtain ⟨σ', t1, t2, t3, t4⟩ := e1_takeFrom hW hus hu2 hd hR hn
  have hq := zQald (σ := σ) hW hk ha (by omega) h0 h1
  rw [hs, if_neg (by omega), show ((s : Int) + 1 - 1).toNat = s by omega] at hq
  have hl := zLen (σ := σ) hW hk ha
  have hob := zz_dco (σ := σ) hW (d := d2) hu2
  unfold w_X9_loadFrom
  rw [if_neg (show ¬ zI i < (0 : Int32) by rw [show (0 : Int32) = zI 0 from rfl, zI_lt (by omega) (by omega) (by omega) (by omega)]; omega)]
  refine ⟨zI N, hl, ?_⟩
  rw [if_neg (show ¬ zI N ≤ zI i by rw [zI_le (by omega) (by omega) (by omega) (by omega)]; omega)]
  refine ⟨_, hq, fun h => absurd h (by simp), fun _ => ⟨_, hq, _, rfl, (), by simp only [hob], _, t1, hK σ' t2 t3 t4⟩⟩
theorem c9_storeIn (hW : zWF E) {k dk c N : Nat} (hk : zU E k dk = true) (ha : zA k c = some (4, N)) (hN : N < 1000) {i : Int} (h0 : 0 ≤ i) (h1 : i < N) {s : Nat} (hs : σ k dk c i = (s : Int) + 1) {d2 : Nat} (hd : s ≠ d2) (hus : zU E 0 s = true) (hu2 : zU E 0 d2 = true) (hR : zRd (σ 0 d2) n) (hn : nW n) {K : gH → Prop} (hK : ∀ σ', (∀ k' d' c', ¬ (k' = 0 ∧ d' = s) → σ' k' d' c' = σ k' d' c') → (∀ i, 0 ≤ i → i < 10 → σ' 0 s 23 i = σ 0 d2 23 i) → zRd (σ' 0 s) n → K (zH E σ')) : w_X9_storeIn (zH E σ) (zL E k dk c) (zI i) (zL E 0 d2 0) K := by
  obtain ⟨σ', t1, t2, t3, t4⟩ := e1_takeFrom hW hu2 hus hd hR hn
  have hq := zQald (σ := σ) hW hk ha (by omega) h0 h1
  rw [hs, if_neg (by omega), show ((s : Int) + 1 - 1).toNat = s by omega] at hq
  have hl := zLen (σ := σ) hW hk ha
  have hob := zz_dco (σ := σ) hW (d := s) hus
  unfold w_X9_storeIn
  rw [if_neg (show ¬ zI i < (0 : Int32) by rw [show (0 : Int32) = zI 0 from rfl, zI_lt (by omega) (by omega) (by omega) (by omega)]; omega)]
  refine ⟨zI N, hl, ?_⟩
  rw [if_neg (show ¬ zI N ≤ zI i by rw [zI_le (by omega) (by omega) (by omega) (by omega)]; omega)]
  refine ⟨_, hq, fun h => absurd h (by simp), fun _ => ⟨_, hq, _, rfl, (), by simp only [hob], _, t1, hK σ' t2 t3 t4⟩⟩
end zCls

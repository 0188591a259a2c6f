/-! Discs kept in arrays: taking one out, and putting one over another. -/
section zCls
variable {E : zE} {σ : zW} {n : zN}
theorem c9_storeIn (hW : zWF E) {k dk c N : Nat} (hk : zU E k dk = true) (ha : zA k c = some (4, N)) (hN : N < 1000) {i : Int} (h0 : 0 ≤ i) (h1 : i < N) {s : Nat} (hs : σ k dk c i = (s : Int) + 1) {d2 : Nat} (hd : s ≠ d2) (hus : zU E 0 s = true) (hu2 : zU E 0 d2 = true) (hR : zRd (σ 0 d2) n) (hn : nW n) {K : gH → Prop} (hK : ∀ σ', (∀ k' d' c', ¬ (k' = 0 ∧ d' = s) → σ' k' d' c' = σ k' d' c') → (∀ i, 0 ≤ i → i < 10 → σ' 0 s 23 i = σ 0 d2 23 i) → zRd (σ' 0 s) n → K (zH E σ')) : w_X9_storeIn (zH E σ) (zL E k dk c) (zI i) (zL E 0 d2 0) K := by
  obtain ⟨σ', t1, t2, t3, t4⟩ := e1_takeFrom hW hu2 hus hd hR hn
  have hq := zQald (σ := σ) hW hk ha (by omega) h0 h1
  rw [hs, if_neg (by omega), show ((s : Int) + 1 - 1).toNat = s by omega] at hq
  have hl := zLen (σ := σ) hW hk ha
  have hob := zz_dco (σ := σ) hW (d := s) hus
  unfold w_X9_storeIn
  rw [if_neg (show ¬ zI i < (0 : Int32) by rw [show (0 : Int32) = zI 0 from rfl, zI_lt (by omega) (by omega) (by omega) (by omega)]; omega)]
  refine ⟨zI N, hl, ?_⟩
  rw [if_neg (show ¬ zI N ≤ zI i by rw [zI_le (by omega) (by omega) (by omega) (by omega)]; omega)]
  refine ⟨_, hq, fun h => absurd h (by simp), fun _ => ⟨_, hq, _, rfl, (), by simp only [hob], _, t1, hK σ' t2 t3 t4⟩⟩
end zCls
section zQ
variable {E : zE} {σ : zW} {k d c : Nat}
theorem zQast {n : Nat} (hW : zWF E) (hu : zU E k d = true) (ha : zA k c = some (4, n)) (hn : n < 2147483648) {i : Int} (h0 : 0 ≤ i) (h1 : i < n) {s : Nat} : g_qast (zH E σ) (zL E k d c) (zI i) (zL E 0 s 0) = some (zH E (zs σ k d c i ((s : Int) + 1))) := by
  have h2 := zIn h0 h1 hn
  have h3 : (zI i).toNatClampNeg = i.toNat := zI_nat (by omega) (by omega)
  rw [h3] at h2
  have h4 : ∀ j : Nat, (va_up (fun j : Nat => if σ k d c j = 0 then none else some (zL E 0 (σ k d c j - 1).toNat 0)) i.toNat (some (zL E 0 s 0))) j = (fun j : Nat => if (fun i' => if i' = i then (s : Int) + 1 else σ k d c i') (j : Int) = 0 then none else some (zL E 0 ((fun i' => if i' = i then (s : Int) + 1 else σ k d c i') (j : Int) - 1).toNat 0)) j := by
    intro j
    by_cases hj : j = i.toNat
    · rw [hj]
      unfold va_up
      rw [if_pos rfl]
      have e : ((i.toNat : Nat) : Int) = i := by omega
      simp only [e, if_true]
      rw [if_neg (by omega), show ((s : Int) + 1 - 1).toNat = s by omega]
    · unfold va_up
      rw [if_neg hj]
      have e : ¬ (j : Int) = i := by omega
      simp only [e, if_false]
  unfold g_qast
  rw [zAt hW hu ha, ← zs_r, ← zUp hW hu ha]
  simp only [zg, h2, not_false_eq_true, and_self, if_true, h3, funext h4]
end zQ
section zCls
variable {E : zE} {σ : zW} {n : zN}
theorem c9_storeNew (hW : zWF E) {k dk c N : Nat} (hk : zU E k dk = true) (hk2 : k = 2) (ha : zA k c = some (4, N)) (hN : N < 1000) {i : Int} (h0 : 0 ≤ i) (h1 : i < N) (hs : σ k dk c i = 0) {d2 d' : Nat} (hu2 : zU E 0 d2 = true) (hR : zRd (σ 0 d2) n) (hn : nW n) (h5 : zU E 0 d' = false ∧ zU E 1 d' = false) (h9 : zU E 9 0 = false) (h14 : d' ≠ 14) (hm : ∀ d, zU E 2 d = true → (σ 2 d 0 5).toNat ≠ d' ∧ (σ 2 d 0 6).toNat ≠ d') (hr : ∀ d c, zU E 2 d = true → (c = 5 ∨ c = 8) → ∀ j : Nat, σ 2 d c j = 0 ∨ (σ 2 d c j - 1).toNat ≠ d') (hC : ∀ k d c, zU E k d = true → zk k c = true → zC E k d c (σ k d c) ≠ none) {K : gH → Prop} (hK : ∀ E' σ', zWF E' → (∀ k d, zU E' k d = (zU E k d || (decide (k ≤ 1) && decide (d = d')))) → (∀ k d c, ¬ (k ≤ 1 ∧ d = d') → zL E' k d c = zL E k d c) → (∀ k3 d3 c3, ¬ (k3 ≤ 1 ∧ d3 = d') → ¬ (k3 = k ∧ d3 = dk ∧ c3 = c) → σ' k3 d3 c3 = σ k3 d3 c3) → σ' k dk c = (fun j => if j = i then (d' : Int) + 1 else σ k dk c j) → (∀ i, 0 ≤ i → i < 10 → σ' 0 d' 23 i = σ 0 d2 23 i) → zRd (σ' 0 d') n → K (zH E' σ')) : w_X9_storeIn (zH E σ) (zL E k dk c) (zI i) (zL E 0 d2 0) K := by
  have hq := zQald (σ := σ) hW hk ha (by omega) h0 h1
  rw [hs, if_pos rfl] at hq
  have hl := zLen (σ := σ) hW hk ha
  have hdd : d2 ≠ d' := fun e => by rw [e, h5.1] at hu2; exact absurd hu2 (by simp)
  unfold w_X9_storeIn
  rw [if_neg (show ¬ zI i < (0 : Int32) by rw [show (0 : Int32) = zI 0 from rfl, zI_lt (by omega) (by omega) (by omega) (by omega)]; omega)]
  refine ⟨zI N, hl, ?_⟩
  rw [if_neg (show ¬ zI N ≤ zI i by rw [zI_le (by omega) (by omega) (by omega) (by omega)]; omega)]
  refine ⟨_, hq, fun _ => ?_, fun h => absurd rfl h⟩
  intro q zq G18 e18
  subst e18
  refine gi_disc hW h5 h9 h14 hm hr hC zq ?_
  intro E' hW' hU' hL0 hL'
  have hkn : ¬ (k ≤ 1 ∧ dk = d') := by omega
  have hk' : zU E' k dk = true := by rw [hU', hk]; rfl
  have hud : zU E' 0 d' = true := by rw [hU']; simp
  have hu2' : zU E' 0 d2 = true := by rw [hU', hu2]; rfl
  have hob := zz_dco (E := E') (σ := zNew σ d') hW' (d := d') hud
  have hst := zQast (E := E') (σ := zNew σ d') hW' hk' ha (by omega) h0 h1 (s := d')
  rw [hL' k dk c hkn, hL0] at hst
  obtain ⟨σ1, hσ1⟩ : ∃ x, x = zs (zNew σ d') k dk c i ((d' : Int) + 1) := ⟨_, rfl⟩
  rw [← hσ1] at hst
  have hrow : σ1 k dk c = fun j => if j = i then (d' : Int) + 1 else σ k dk c j := by
    funext j
    rw [hσ1, zs_at, zNew_ne hkn]
  have hq2 := zQald (E := E') (σ := σ1) hW' hk' ha (by omega) h0 h1
  rw [hrow] at hq2
  simp only [if_true] at hq2
  rw [if_neg (by omega), show ((d' : Int) + 1 - 1).toNat = d' by omega, hL' k dk c hkn, hL0] at hq2
  have hob1 := zz_dco (E := E') (σ := σ1) hW' (d := d') hud
  have h2 : σ1 0 d2 = σ 0 d2 := by
    funext c3
    rw [hσ1, zs_ne (by omega), zNew_ne (by omega)]
  obtain ⟨σ', t1, t2, t3, t4⟩ := e1_takeFrom (E := E') (σ := σ1) hW' (d := d2) (d2 := d') (n := n) hu2' hud (Ne.symm hdd) (by rw [h2]; exact hR) hn
  rw [hL0, hL' 0 d2 0 (by omega)] at t1
  rw [hL0] at hob hob1
  refine ⟨(), by simp only [hob], _, hst, _, hq2, _, rfl, (), by simp only [hob1], _, t1, hK E' σ' hW' hU' hL' (fun k3 d3 c3 z1 z2 => ?_) ?_ (fun j j0 j1 => ?_) t4⟩
  · rw [t2 k3 d3 c3 (by omega), hσ1, zs_ne z2, zNew_ne z1]
  · rw [t2 k dk c (by omega), hrow]
  · rw [t3 j j0 j1, h2]
end zCls

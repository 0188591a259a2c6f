/-! The law's disc before its first change: numbers, bad marks. -/
section yn
variable {E : zE} {σ : zW} {n : zN}
/-- one of the three numbers is put -/
theorem yl_num (h : yI E σ n) {k : Int} (hk : k = 0 ∨ k = 1 ∨ k = 2) (x : Int) : yI E (zs σ 5 0 0 k x) (zu n k x) := by
  refine h.own (fun k' d hk => zs_kd (by omega)) (fun i hi => zu_ne (by omega)) ?_ (h.blk.lo (fun i _ _ => zu_ne (by omega)) (fun c _ _ => zs_ne (by omega))) (fun c hc => zs_ne (by omega))
  obtain ⟨r0, r1, r2, r3, r4, r5, r6⟩ := h.num
  unfold yRn
  rw [zs_at, zs_at, zs_at, zs_at, zs_at, zs_at, zs_at]
  unfold zu
  refine ⟨?_, ?_, ?_, ?_, ?_, ?_, ?_⟩
  · by_cases z : k = 0
    · rw [if_pos z.symm, if_pos z.symm]
    · rw [if_neg (fun y => z y.symm), if_neg (fun y => z y.symm)]; exact r0
  · by_cases z : k = 1
    · rw [if_pos z.symm, if_pos z.symm]
    · rw [if_neg (fun y => z y.symm), if_neg (fun y => z y.symm)]; exact r1
  · by_cases z : k = 2
    · rw [if_pos z.symm, if_pos z.symm]
    · rw [if_neg (fun y => z y.symm), if_neg (fun y => z y.symm)]; exact r2
  · rw [if_neg (by omega), if_neg (by omega)]; exact r3
  · rw [if_neg (by omega), if_neg (by omega)]; exact r4
  · rw [if_neg (by omega), if_neg (by omega)]; exact r5
  · rw [if_neg (by omega), if_neg (by omega)]; exact r6
theorem nFm_zu (N S : Int) : zu (zu (fun _ => 0) 0 N) 1 S = nFm N S := by
  funext i
  unfold zu nFm
  by_cases z : i = 1
  · rw [if_pos z, if_neg (by omega), if_pos z]
  · rw [if_neg z]
    by_cases w : i = 0
    · rw [if_pos w, if_pos w]
    · rw [if_neg w, if_neg w, if_neg z]
/-- a fresh row of a disc is in order -/
theorem nFm_W2 {N S F : Int} (N0 : 8 ≤ N) (N1 : N ≤ 47) (S0 : 0 ≤ S) (S1 : S ≤ 8) (S2 : 2 * S ≤ N) (F0 : 1 ≤ F) (F1 : F ≤ 6) : nW (zu (nFm N S) 2 F) ∧ yW (zu (nFm N S) 2 F) := by
  have z : ∀ i, i ≠ 0 → i ≠ 1 → i ≠ 2 → zu (nFm N S) 2 F i = 0 := fun i h0 h1 h2 => by unfold zu nFm; rw [if_neg h2, if_neg h0, if_neg h1]
  have z0 : zu (nFm N S) 2 F 0 = N := rfl
  have z1 : zu (nFm N S) 2 F 1 = S := rfl
  have z2 : zu (nFm N S) 2 F 2 = F := rfl
  have z3 := z 3 (by omega) (by omega) (by omega)
  have z4 := z 4 (by omega) (by omega) (by omega)
  have z5 := z 5 (by omega) (by omega) (by omega)
  have z6 := z 6 (by omega) (by omega) (by omega)
  obtain ⟨m, hm⟩ : ∃ m, m = zu (nFm N S) 2 F := ⟨_, rfl⟩
  rw [← hm] at z z0 z1 z2 z3 z4 z5 z6 ⊢
  refine ⟨⟨?_, fun b b0 b1 => ?_, ⟨by omega, fun v v0 v1 => by omega⟩, fun s s0 s1 => by omega⟩, ⟨by omega, fun s s0 s1 => by omega⟩⟩
  · unfold nWn; omega
  · rw [z (7 + b) (by omega) (by omega) (by omega), z (103 + b) (by omega) (by omega) (by omega), z (199 + b) (by omega) (by omega) (by omega), z (295 + b) (by omega) (by omega) (by omega), z (391 + b) (by omega) (by omega) (by omega), z (487 + b) (by omega) (by omega) (by omega), z (583 + b) (by omega) (by omega) (by omega), z (679 + b) (by omega) (by omega) (by omega)]
    refine ⟨by omega, by omega, by omega, by omega, by omega, by omega, by omega, by omega, by omega, by omega, by omega, by omega, by omega, by omega⟩
/-- a block is marked bad -/
theorem yl_bad (h : yI E σ n) (hn : nW n) (hy : yW n) {b : Int} (b0 : 0 ≤ b) (b1 : b < 96) (hk : n (7 + b) = 0) : g_ast 1 (zH E σ) (zL E 5 0 12) (zI b) (1 : Int32) = some (zH E (zs σ 5 0 12 b 1)) ∧ yI E (zs σ 5 0 12 b 1) (zu n (103 + b) 1) ∧ nW (zu n (103 + b) 1) ∧ yW (zu n (103 + b) 1) := by
  obtain ⟨p1, p2⟩ := (yl_scratch h b0 b1).1 hk
  have e : nScr n b = zu n (103 + b) 1 := by unfold nScr; rw [if_pos hk]
  have w := nScr_W (b := b) hn b0 b1
  rw [e] at p2 w
  exact ⟨p1, p2, w, hy.lo (fun i hi => zu_ne (by omega))⟩
end yn


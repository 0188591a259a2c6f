/-! The text's pieces, and the numbers that a version leaves as they are. -/
theorem nWrs_012 {n : zN} (hn : nW n) {f m tag : Int} (f0 : 0 ≤ f) (f1 : f < n 2) (m0 : 1 ≤ m) (m8 : m ≤ 8) (t0 : 0 ≤ tag) (t1 : tag ≤ 999) (hw : nWw n f m = 0) {i : Int} (hi : i = 0 ∨ i = 1 ∨ i = 2) : nWrs n f m tag i = n i := by
  obtain ⟨hT, hroom, hsp⟩ := nWw_0 hw
  have hN := hn.1.r
  obtain ⟨b1, b2, ⟨A1, A2, A3, A4, A5, A6⟩, W3, W4⟩ := nWrs_W hn f0 f1 m0 m8 t0 t1 hw
  have e1 : ∀ i, i < 1255 → i ≠ 3 → nBi n i = n i := fun i hi h3 => nBi_lo (by omega) hi h3
  have hWl := nWl_W (kind := 1) (se := nLa (nBi n)) (v := n 6) m.toNat (nAdd (nBi n) f m tag) 0 A1 A2 (by omega) A4 (Or.inl rfl) (yOp3 b1 b2).1 (by rw [A5 3 (by omega) (by omega)]; exact (yOp3 b1 b2).2.1) (by omega) (by rw [A6]; omega) (fun _ => by omega) (by omega) (by omega)
  obtain ⟨n3, hn3⟩ : ∃ x, x = nWl 1 (nLa (nBi n)) (n 6) (nAdd (nBi n) f m tag) 0 m.toNat := ⟨_, rfl⟩
  rw [← hn3] at hWl W3
  have hv6 := hn.2.2.1.1
  have c4 : ∀ i, i ≠ 4 → i ≠ 6 → i < 7 → n3 i = nBi n i := fun i h4 h6 hi => by
    rw [hWl.2.2.2 i h4 (by omega), A5 i h6 (by omega)]
  have hla : nLa n3 = nLa (nBi n) := by unfold nLa; rw [c4 3 (by omega) (by omega) (by omega)]
  have o3 := yOp3 b1 b2
  have h3 : n3 3 = nBi n 3 := c4 3 (by omega) (by omega) (by omega)
  have hE : nWrs n f m tag = nE1 n3 f (n 6) := by unfold nWrs; rw [← hn3]
  rw [hE, nE1_lo (by omega) (W3.2.2.2 (nLa n3) (by omega) (by omega)).2.2.2.1.1 (by omega), c4 i (by omega) (by omega) (by omega), e1 i (by omega) (by omega)]
/-- a text of at most b letters -/
def tG (t : List Int) (b : Nat) : Prop := t.length ≤ b ∧ ∀ x ∈ t, 0 ≤ x ∧ x < 128
theorem wl_r (j : Nat) : (wl j).length ≤ 5 ∧ ∀ x ∈ wl j, 0 ≤ x ∧ x < 128 := ⟨(wl_rng j).1.2, fun x hx => by have := (wl_rng j).2 x hx; omega⟩
theorem dg_r {v : Int} (h0 : 0 ≤ v) (h1 : v < 1000) : (dg v).length ≤ 3 ∧ ∀ x ∈ dg v, 0 ≤ x ∧ x < 128 := ⟨dg_len.2, dg_lt h0 h1⟩
theorem tG.app {t u : List Int} {a b : Nat} (h : tG t a) (hu : tG u b) : tG (t ++ u) (a + b) := by
  refine ⟨by rw [List.length_append]; have := h.1; have := hu.1; omega, fun x hx => ?_⟩
  rcases List.mem_append.mp hx with z | z
  · exact h.2 x z
  · exact hu.2 x z
theorem tG.cons {t : List Int} {a : Nat} {c : Int} (h : tG t a) (c0 : 0 ≤ c) (c1 : c < 128) : tG (c :: t) (a + 1) := by
  refine ⟨by rw [List.length_cons]; have := h.1; omega, fun x hx => ?_⟩
  rcases List.mem_cons.mp hx with z | z
  · omega
  · exact h.2 x z
theorem tG.nil : tG [] 0 := ⟨by simp, fun x hx => absurd hx (by simp)⟩
theorem tG.up {t : List Int} {a b : Nat} (h : tG t a) (hb : a ≤ b) : tG t b := ⟨Nat.le_trans h.1 hb, h.2⟩
theorem tG_bad {v : Int} (h0 : 0 ≤ v) (h1 : v < 1000) : tG (xBad v) 8 := by
  have a1 := dg_r h0 h1
  unfold xBad
  refine ⟨by simp [wl]; omega, fun x hx => ?_⟩
  simp [wl] at hx
  rcases hx with z | z | z | z | z | z
  all_goals first | omega | exact a1.2 x z
theorem tG_fil {f : Int} (h0 : 0 ≤ f) (h1 : f < 26) : tG (xFil f) 7 := by
  unfold xFil
  refine ⟨by simp [wl], fun x hx => ?_⟩
  simp [wl] at hx
  omega
theorem tG_wri {f l t : Int} (h0 : 0 ≤ f) (h1 : f < 26) (l0 : 0 ≤ l) (l1 : l < 1000) (t0 : 0 ≤ t) (t1 : t < 1000) : tG (xWri f l t) 16 := by
  have a1 := dg_r l0 l1
  have a2 := dg_r t0 t1
  unfold xWri
  refine ⟨by simp [wl]; omega, fun x hx => ?_⟩
  simp [wl] at hx
  rcases hx with z | z | z | z | z | z | z | z | z | z | z | z
  all_goals first | omega | exact a1.2 x z | exact a2.2 x z
theorem tG_hd {N S : Int} (l0 : 0 ≤ N) (l1 : N < 1000) (t0 : 0 ≤ S) (t1 : S < 1000) : tG (xHd N S) 13 := by
  have a1 := dg_r l0 l1
  have a2 := dg_r t0 t1
  unfold xHd
  refine ⟨by simp [wl]; omega, fun x hx => ?_⟩
  simp [wl] at hx
  rcases hx with z | z | z | z | z | z | z | z | z
  all_goals first | omega | exact a1.2 x z | exact a2.2 x z
theorem tU_wl : tU 0 = wl 0 ++ [32] ∧ tU 1 = [32] ∧ tU 2 = [59] ∧ tU 3 = wl 1 ++ [32] ∧ tU 4 = wl 2 ++ [32] ∧ tU 5 = wl 3 ++ [32] := by decide +kernel
theorem tU_len : ∀ i, i < 6 → (tU i).length ≤ 6 := by decide +kernel
theorem e_bad (t : List Int) (v : Int) : ((t ++ tU 3) ++ dg v) ++ [59] = t ++ xBad v := by
  rw [tU_wl.2.2.2.1]; unfold xBad; simp
theorem e_fil (t : List Int) (f : Int) : ((t ++ tU 4) ++ [97 + f]) ++ [59] = t ++ xFil f := by
  rw [tU_wl.2.2.2.2.1]; unfold xFil; simp
theorem e_wri (t : List Int) (f l g : Int) : ((((((t ++ tU 5) ++ [97 + f]) ++ [32]) ++ dg l) ++ [32]) ++ dg g) ++ [59] = t ++ xWri f l g := by
  rw [tU_wl.2.2.2.2.2]; unfold xWri; simp
theorem e_hd (N S : Int) : (((([] ++ tU 0) ++ dg N) ++ tU 1) ++ dg S) ++ tU 2 = xHd N S := by
  rw [tU_wl.1, tU_wl.2.1, tU_wl.2.2.1]; unfold xHd; simp
theorem e_chr {f : Int} (h0 : 0 ≤ f) (h1 : f < 26) : ((((97 : Int32) + zI f).toUInt32 % 65536).toInt32) = zI (97 + f) := by
  have : ∀ n : Nat, n < 26 → ((((97 : Int32) + zI (n : Int)).toUInt32 % 65536).toInt32) = zI (97 + (n : Int)) := by decide +kernel
  have := this f.toNat (by omega)
  rwa [show ((f.toNat : Nat) : Int) = f by omega] at this

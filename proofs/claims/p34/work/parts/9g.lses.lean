/-! The sessions of both discs: entries, uses. -/
section zE_
variable {G A T : gH} {o q : Nat} {n : zN} {E : zE} {σ : zW} {K : Int32 → gH → Prop}
/-- an entry's version as the law holds it -/
def yEv (E : zE) (v : Int) : Option Nat := if v = -1 then none else some (yVe E v)
theorem aEntry_in {n : zN} {s k x : Int} (k0 : 0 ≤ k) (k1 : k < nS n s 2) : aEntry n s k x = if 2 ≤ x then (if nS n s (6 + 2 * k) = -1 then (if x = 3 then 0 else -1) else nV n (nS n s (6 + 2 * k)) (x - 1)) else if x = 0 then nS n s (5 + 2 * k) else nS n s (6 + 2 * k) := by
  unfold aEntry; rw [if_pos ⟨k0, k1⟩]

theorem yd_J398 {MC MS kc ks : Nat} {k2 : gH → Nat → Nat → Nat → Nat → Int32 → Prop} {k265 : gH → Nat → Nat → Nat → Nat → Int32 → Option Nat → Int32 → Prop} {s k z : Int} {a : Nat} (hk : k265 G kc ks o (zL E 5 0 0) (zI s) (some a) (zI (k + 1))) : w_L_sessions_J398 MC MS K k2 k265 G kc ks o (zL E 5 0 0) (zI s) (some a) (zI k) (zI z) (zI z) := by
  unfold w_L_sessions_J398
  refine ⟨fun h => (by cases h), fun r hr => ?_⟩
  obtain rfl : a = r := by injection hr
  rw [if_pos rfl, show (zI k + (1 : Int32)) = zI (k + 1) from zI_add k 1]
  exact hk
theorem yd_J373 {MC MS kc ks : Nat} {k2 : gH → Nat → Nat → Nat → Nat → Int32 → Prop} {k265 : gH → Nat → Nat → Nat → Nat → Int32 → Option Nat → Int32 → Prop} {s k z : Int} (hJ : yJ G A (zH E σ) T) (hA : yCo A o n) (hI : yI E σ n) (hm : n 2 ≤ 10) (v0 : -1 ≤ nS n s (6 + 2 * k) ∧ nS n s (6 + 2 * k) < n 6) (s0 : 0 ≤ s) (s1 : s < n 3) (k0 : 0 ≤ k) (k1 : k < nS n s 2 ∧ k < 10) (hkc : kc + 2 ≤ MC) (hks : ks + 12 ≤ MS) (hk : ∀ G' A', yJ G' A' (zH E σ) T → yCo A' o n → k265 G' (kc + 2) (ks + 12) o (zL E 5 0 0) (zI s) (some (ySe E s)) (zI (k + 1))) : w_L_sessions_J373 MC MS K k2 k265 G kc ks o (zL E 5 0 0) (zI s) (some (ySe E s)) (zI k) (yEv E (nS n s (6 + 2 * k))) (zI z) (zI z) := by
  have hn := hA.w
  unfold w_L_sessions_J373
  refine ⟨fun h => (by cases h), fun r hr => ?_⟩
  obtain rfl : ySe E s = r := by injection hr
  have e := aEntry_in (n := n) (s := s) (x := 4) k0 k1.1
  rw [if_pos (by omega)] at e
  by_cases c : nS n s (6 + 2 * k) = -1
  · rw [if_pos c] at e
    have ev : yEv E (nS n s (6 + 2 * k)) = none := by unfold yEv; rw [if_pos c]
    rw [ev]
    refine ⟨fun _ => ?_, fun r hr => (by cases hr)⟩
    rw [if_pos rfl]
    refine ⟨_, _, hJ.a.1, hJ.a.2, (), hA.ob, ⟨by omega, by omega⟩, k_entry hA s0 s1 (x := 4) (by omega) (by omega) k0 (by omega) (fun A' hA' G2 d2 e2 => ?_)⟩
    have hJ2 := hJ.a' d2 e2
    have e3 : aEntry n s k 4 = -1 := by rw [e]; rfl
    rw [e3]
    have := yd_J398 (z := -1) (MC := MC) (MS := MS) (K := K) (k2 := k2) (k265 := k265) (G := G2) (hk G2 A' hJ2 hA')
    exact this
  · rw [if_neg c] at e
    have ev : yEv E (nS n s (6 + 2 * k)) = some (yVe E (nS n s (6 + 2 * k))) := by unfold yEv; rw [if_neg c]
    rw [ev]
    refine ⟨fun h => (by cases h), fun r hr => ?_⟩
    obtain rfl : yVe E (nS n s (6 + 2 * k)) = r := by injection hr
    rw [if_pos rfl]
    refine ⟨_, _, hJ.a.1, hJ.a.2, (), hA.ob, ⟨by omega, by omega⟩, k_entry hA s0 s1 (x := 4) (by omega) (by omega) k0 (by omega) (fun A' hA' G2 d2 e2 => ?_)⟩
    have hJ2 := hJ.a' d2 e2
    have hv := (yV hI.w hI.r hn (v := nS n s (6 + 2 * k)) (by omega) v0.2).1
    have e3 : aEntry n s k 4 = nV n (nS n s (6 + 2 * k)) 3 := by rw [e]; rfl
    rw [e3]
    refine ⟨_, hJ2.i hv.2.2.2.2.1, ?_⟩
    have := yd_J398 (z := nV n (nS n s (6 + 2 * k)) 3) (MC := MC) (MS := MS) (K := K) (k2 := k2) (k265 := k265) (G := G2) (hk G2 A' hJ2 hA')
    exact this
theorem yd_J348 {MC MS kc ks : Nat} {k2 : gH → Nat → Nat → Nat → Nat → Int32 → Prop} {k265 : gH → Nat → Nat → Nat → Nat → Int32 → Option Nat → Int32 → Prop} {s k z : Int} (hJ : yJ G A (zH E σ) T) (hA : yCo A o n) (hI : yI E σ n) (hm : n 2 ≤ 10) (v0 : -1 ≤ nS n s (6 + 2 * k) ∧ nS n s (6 + 2 * k) < n 6) (s0 : 0 ≤ s) (s1 : s < n 3) (k0 : 0 ≤ k) (k1 : k < nS n s 2 ∧ k < 10) (hkc : kc + 4 ≤ MC) (hks : ks + 24 ≤ MS) (hk : ∀ G' A', yJ G' A' (zH E σ) T → yCo A' o n → k265 G' (kc + 4) (ks + 24) o (zL E 5 0 0) (zI s) (some (ySe E s)) (zI (k + 1))) : w_L_sessions_J348 MC MS K k2 k265 G kc ks o (zL E 5 0 0) (zI s) (some (ySe E s)) (zI k) (yEv E (nS n s (6 + 2 * k))) (zI z) (zI z) := by
  have hn := hA.w
  unfold w_L_sessions_J348
  refine ⟨fun h => (by cases h), fun r hr => ?_⟩
  obtain rfl : ySe E s = r := by injection hr
  have e := aEntry_in (n := n) (s := s) (x := 3) k0 k1.1
  rw [if_pos (by omega)] at e
  by_cases c : nS n s (6 + 2 * k) = -1
  · rw [if_pos c] at e
    have ev : yEv E (nS n s (6 + 2 * k)) = none := by unfold yEv; rw [if_pos c]
    rw [ev]
    refine ⟨fun _ => ?_, fun r hr => (by cases hr)⟩
    rw [if_pos rfl]
    refine ⟨_, _, hJ.a.1, hJ.a.2, (), hA.ob, ⟨by omega, by omega⟩, k_entry hA s0 s1 (x := 3) (by omega) (by omega) k0 (by omega) (fun A' hA' G2 d2 e2 => ?_)⟩
    have hJ2 := hJ.a' d2 e2
    have e3 : aEntry n s k 3 = 0 := by rw [e]; rfl
    rw [e3]
    have := yd_J373 (z := 0) (MC := MC) (MS := MS) (K := K) (k2 := k2) (kc := kc + 2) (ks := ks + 12) hJ2 hA' hI hm v0 s0 s1 k0 k1 (by omega) (by omega) (fun G' A' h1 h2 => by have := hk G' A' h1 h2; rwa [show kc + 4 = kc + 2 + 2 by omega, show ks + 24 = ks + 12 + 12 by omega] at this)
    rw [ev] at this
    exact this
  · rw [if_neg c] at e
    have ev : yEv E (nS n s (6 + 2 * k)) = some (yVe E (nS n s (6 + 2 * k))) := by unfold yEv; rw [if_neg c]
    rw [ev]
    refine ⟨fun h => (by cases h), fun r hr => ?_⟩
    obtain rfl : yVe E (nS n s (6 + 2 * k)) = r := by injection hr
    rw [if_pos rfl]
    refine ⟨_, _, hJ.a.1, hJ.a.2, (), hA.ob, ⟨by omega, by omega⟩, k_entry hA s0 s1 (x := 3) (by omega) (by omega) k0 (by omega) (fun A' hA' G2 d2 e2 => ?_)⟩
    have hJ2 := hJ.a' d2 e2
    have hv := (yV hI.w hI.r hn (v := nS n s (6 + 2 * k)) (by omega) v0.2).1
    have e3 : aEntry n s k 3 = nV n (nS n s (6 + 2 * k)) 2 := by rw [e]; rfl
    rw [e3]
    refine ⟨_, hJ2.i hv.2.2.2.1, ?_⟩
    have := yd_J373 (z := nV n (nS n s (6 + 2 * k)) 2) (MC := MC) (MS := MS) (K := K) (k2 := k2) (kc := kc + 2) (ks := ks + 12) hJ2 hA' hI hm v0 s0 s1 k0 k1 (by omega) (by omega) (fun G' A' h1 h2 => by have := hk G' A' h1 h2; rwa [show kc + 4 = kc + 2 + 2 by omega, show ks + 24 = ks + 12 + 12 by omega] at this)
    rw [ev] at this
    exact this
theorem yd_J323 {MC MS kc ks : Nat} {k2 : gH → Nat → Nat → Nat → Nat → Int32 → Prop} {k265 : gH → Nat → Nat → Nat → Nat → Int32 → Option Nat → Int32 → Prop} {s k z : Int} (hJ : yJ G A (zH E σ) T) (hA : yCo A o n) (hI : yI E σ n) (hm : n 2 ≤ 10) (v0 : -1 ≤ nS n s (6 + 2 * k) ∧ nS n s (6 + 2 * k) < n 6) (s0 : 0 ≤ s) (s1 : s < n 3) (k0 : 0 ≤ k) (k1 : k < nS n s 2 ∧ k < 10) (hkc : kc + 6 ≤ MC) (hks : ks + 36 ≤ MS) (hk : ∀ G' A', yJ G' A' (zH E σ) T → yCo A' o n → k265 G' (kc + 6) (ks + 36) o (zL E 5 0 0) (zI s) (some (ySe E s)) (zI (k + 1))) : w_L_sessions_J323 MC MS K k2 k265 G kc ks o (zL E 5 0 0) (zI s) (some (ySe E s)) (zI k) (yEv E (nS n s (6 + 2 * k))) (zI z) (zI z) := by
  have hn := hA.w
  unfold w_L_sessions_J323
  refine ⟨fun h => (by cases h), fun r hr => ?_⟩
  obtain rfl : ySe E s = r := by injection hr
  have e := aEntry_in (n := n) (s := s) (x := 2) k0 k1.1
  rw [if_pos (by omega)] at e
  by_cases c : nS n s (6 + 2 * k) = -1
  · rw [if_pos c] at e
    have ev : yEv E (nS n s (6 + 2 * k)) = none := by unfold yEv; rw [if_pos c]
    rw [ev]
    refine ⟨fun _ => ?_, fun r hr => (by cases hr)⟩
    rw [if_pos rfl]
    refine ⟨_, _, hJ.a.1, hJ.a.2, (), hA.ob, ⟨by omega, by omega⟩, k_entry hA s0 s1 (x := 2) (by omega) (by omega) k0 (by omega) (fun A' hA' G2 d2 e2 => ?_)⟩
    have hJ2 := hJ.a' d2 e2
    have e3 : aEntry n s k 2 = -1 := by rw [e]; rfl
    rw [e3]
    have := yd_J348 (z := -1) (MC := MC) (MS := MS) (K := K) (k2 := k2) (kc := kc + 2) (ks := ks + 12) hJ2 hA' hI hm v0 s0 s1 k0 k1 (by omega) (by omega) (fun G' A' h1 h2 => by have := hk G' A' h1 h2; rwa [show kc + 6 = kc + 2 + 4 by omega, show ks + 36 = ks + 12 + 24 by omega] at this)
    rw [ev] at this
    exact this
  · rw [if_neg c] at e
    have ev : yEv E (nS n s (6 + 2 * k)) = some (yVe E (nS n s (6 + 2 * k))) := by unfold yEv; rw [if_neg c]
    rw [ev]
    refine ⟨fun h => (by cases h), fun r hr => ?_⟩
    obtain rfl : yVe E (nS n s (6 + 2 * k)) = r := by injection hr
    rw [if_pos rfl]
    refine ⟨_, _, hJ.a.1, hJ.a.2, (), hA.ob, ⟨by omega, by omega⟩, k_entry hA s0 s1 (x := 2) (by omega) (by omega) k0 (by omega) (fun A' hA' G2 d2 e2 => ?_)⟩
    have hJ2 := hJ.a' d2 e2
    have hv := (yV hI.w hI.r hn (v := nS n s (6 + 2 * k)) (by omega) v0.2).1
    have e3 : aEntry n s k 2 = nV n (nS n s (6 + 2 * k)) 1 := by rw [e]; rfl
    rw [e3]
    refine ⟨_, hJ2.i hv.2.2.1, ?_⟩
    have := yd_J348 (z := nV n (nS n s (6 + 2 * k)) 1) (MC := MC) (MS := MS) (K := K) (k2 := k2) (kc := kc + 2) (ks := ks + 12) hJ2 hA' hI hm v0 s0 s1 k0 k1 (by omega) (by omega) (fun G' A' h1 h2 => by have := hk G' A' h1 h2; rwa [show kc + 6 = kc + 2 + 4 by omega, show ks + 36 = ks + 12 + 24 by omega] at this)
    rw [ev] at this
    exact this
/-- the entries of a session -/
theorem yd_L265 {MC MS : Nat} {k2 : gH → Nat → Nat → Nat → Nat → Int32 → Prop} {s : Int} (hI : yI E σ n) (hy : yW n) (s0 : 0 ≤ s) (s1 : s < n 3) : ∀ (m fuel : Nat) (k : Int) (G A : gH) (kc ks : Nat), yJ G A (zH E σ) T → yCo A o n → 0 ≤ k → k + m = nS n s 2 → m < fuel → kc + 10 * m + 3 ≤ MC → ks + 60 * m + 18 ≤ MS → (∀ G' A' kc' ks', kc' = kc + 10 * m + 3 → ks' = ks + 60 * m + 18 → yJ G' A' (zH E σ) T → yCo A' o n → k2 G' kc' ks' o (zL E 5 0 0) (zI (s + 1))) → w_L_sessions_L265 MC MS K k2 fuel G kc ks o (zL E 5 0 0) (zI s) (some (ySe E s)) (zI k) := by
  intro m
  induction m with
  | zero =>
    intro fuel k G A kc ks hJ hA k0 km hf hkc hks hk
    cases fuel with
    | zero => omega
    | succ fuel =>
    have hn := hA.w
    have hN := hn.1.r
    have ent := (hy.2 s s0 s1).1
    obtain rfl : k = nS n s 2 := by omega
    have hs := (yS hI.w hI.r hn s0 s1).1
    unfold w_L_sessions_L265
    refine ⟨fun h => (by cases h), fun r hr => ?_⟩
    obtain rfl : ySe E s = r := by injection hr
    refine ⟨_, hJ.i hs.2.2.1, ?_⟩
    rw [if_pos (show zI (nS n s 2) ≤ zI (nS n s 2) by rw [zI_le (by omega) (by omega) (by omega) (by omega)]; omega)]
    refine ⟨_, hJ.i hs.2.2.1, _, _, hJ.a.1, hJ.a.2, (), hA.ob, ⟨by omega, by omega⟩, k_entry hA s0 s1 (x := 0) (by omega) (by omega) k0 (by omega) (fun A' hA' G2 d2 e2 => ?_)⟩
    have hJ2 := hJ.a' d2 e2
    rw [if_pos (show zI (aEntry n s (nS n s 2) 0) = (-1 : Int32) by unfold aEntry; rw [if_neg (by omega)]; rfl)]
    refine ⟨_, _, hJ2.a.1, hJ2.a.2, (), hA'.ob, ⟨by omega, by omega⟩, k_filesBefore hA' s0 s1 (fun A2 hA2 G3 d3 e3 => ?_)⟩
    have hJ3 := hJ2.a' d3 e3
    refine ⟨_, _, hJ3.b.1, hJ3.b.2, (), yl_ob5 hI, ⟨by omega, by omega⟩, _, yl_there hI.w hI.r hn hy s0 (by omega), ?_⟩
    rw [if_pos rfl, show (zI s + (1 : Int32)) = zI (s + 1) from zI_add s 1]
    exact hk G3 A2 _ _ (by omega) (by omega) hJ3 hA2
  | succ m ih =>
    intro fuel k G A kc ks hJ hA k0 km hf hkc hks hk
    cases fuel with
    | zero => omega
    | succ fuel =>
    have hn := hA.w
    have hN := hn.1.r
    have ent := (hy.2 s s0 s1).1
    have hs := (yS hI.w hI.r hn s0 s1)
    have hr := ySr hI.w hI.r hn s0 s1
    have hb := (hn.2.2.2 s s0 s1).2.2.2.2.2.2 k k0 (by omega)
    have e0 := aEntry_in (n := n) (s := s) (x := 0) k0 (by omega)
    have e1 := aEntry_in (n := n) (s := s) (x := 1) k0 (by omega)
    rw [if_neg (by omega), if_pos rfl] at e0
    rw [if_neg (by omega), if_neg (by omega)] at e1
    have y2 := hy.1
    have nxt : ∀ G3 A3, yJ G3 A3 (zH E σ) T → yCo A3 o n → w_L_sessions_J323 MC MS K k2 (w_L_sessions_L265 MC MS K k2 fuel) G3 (kc + 2 + 2) (ks + 12 + 12) o (zL E 5 0 0) (zI s) (some (ySe E s)) (zI k) (yEv E (nS n s (6 + 2 * k))) (zI (nS n s (6 + 2 * k))) (zI (nS n s (6 + 2 * k))) := by
      intro G3 A3 hJ3 hA3
      refine yd_J323 hJ3 hA3 hI (by omega) hb.2 s0 s1 k0 (by omega) (by omega) (by omega) (fun G' A' h1 h2 => ?_)
      exact ih fuel (k + 1) G' A' _ _ h1 h2 (by omega) (by omega) (by omega) (by omega) (by omega) (fun G4 A4 kc' ks' g1 g2 => hk G4 A4 kc' ks' (by omega) (by omega))
    unfold w_L_sessions_L265
    refine ⟨fun h => (by cases h), fun r hr' => ?_⟩
    obtain rfl : ySe E s = r := by injection hr'
    refine ⟨_, hJ.i hs.1.2.2.1, ?_⟩
    rw [if_neg (show ¬ zI (nS n s 2) ≤ zI k by rw [zI_le (by omega) (by omega) (by omega) (by omega)]; omega)]
    refine ⟨_, hJ.r hs.2.2.2.1, _, hJ.rald (hr.2.2 k k0 (by omega) (by omega)), ?_⟩
    by_cases c : nS n s (6 + 2 * k) = -1
    · rw [if_pos c]
      refine ⟨fun _ => ?_, fun r hr' => (by cases hr')⟩
      refine ⟨_, _, hJ.a.1, hJ.a.2, (), hA.ob, ⟨by omega, by omega⟩, k_entry hA s0 s1 (x := 0) (by omega) (by omega) k0 (by omega) (fun A' hA' G2 d2 e2 => ?_)⟩
      have hJ2 := hJ.a' d2 e2
      refine ⟨_, hJ2.r hs.2.1, _, hJ2.ald (hr.1 k k0 (by omega) (by omega)), ?_⟩
      rw [if_pos (by rw [e0])]
      refine ⟨_, _, hJ2.a.1, hJ2.a.2, (), hA'.ob, ⟨by omega, by omega⟩, k_entry hA' s0 s1 (x := 1) (by omega) (by omega) k0 (by omega) (fun A2 hA2 G3 d3 e3 => ?_)⟩
      have hJ3 := hJ2.a' d3 e3
      have := nxt G3 A2 hJ3 hA2
      rw [show yEv E (nS n s (6 + 2 * k)) = none by unfold yEv; rw [if_pos c]] at this
      rw [e1]
      rw [c] at this ⊢
      exact this
    · rw [if_neg c]
      refine ⟨fun h => (by cases h), fun r hr' => ?_⟩
      obtain rfl : yVe E (nS n s (6 + 2 * k)) = r := by injection hr'
      refine ⟨_, _, hJ.a.1, hJ.a.2, (), hA.ob, ⟨by omega, by omega⟩, k_entry hA s0 s1 (x := 0) (by omega) (by omega) k0 (by omega) (fun A' hA' G2 d2 e2 => ?_)⟩
      have hJ2 := hJ.a' d2 e2
      refine ⟨_, hJ2.r hs.2.1, _, hJ2.ald (hr.1 k k0 (by omega) (by omega)), ?_⟩
      rw [if_pos (by rw [e0])]
      refine ⟨_, _, hJ2.a.1, hJ2.a.2, (), hA'.ob, ⟨by omega, by omega⟩, k_entry hA' s0 s1 (x := 1) (by omega) (by omega) k0 (by omega) (fun A2 hA2 G3 d3 e3 => ?_)⟩
      have hJ3 := hJ2.a' d3 e3
      have hv := (yV hI.w hI.r hn (v := nS n s (6 + 2 * k)) (by omega) hb.2.2).1
      refine ⟨_, hJ3.i hv.2.1, ?_⟩
      have := nxt G3 A2 hJ3 hA2
      rw [show yEv E (nS n s (6 + 2 * k)) = some (yVe E (nS n s (6 + 2 * k))) by unfold yEv; rw [if_neg c]] at this
      rw [e1]
      exact this
/-- the uses of a session's blocks, its properties -/
theorem yd_L233 {MC MS : Nat} {k2 : gH → Nat → Nat → Nat → Nat → Int32 → Prop} {s : Int} {q5 : Nat} (hI : yI E σ n) (hy : yW n) (s0 : 0 ≤ s) (s1 : s < n 3) {u : Nat → Int32} (h5 : T q5 = some (.inl (0, 5, u))) (hu : ∀ i : Int, 1 ≤ i → i < 5 → u i.toNat = zI (nSp n s i)) : ∀ (m fuel : Nat) (k : Int) (G A : gH) (kc ks : Nat), yJ G A (zH E σ) T → yCo A o n → 1 ≤ k → k + m = 5 → m < fuel → kc + 2 * m + 63 ≤ MC → ks + 12 * m + 378 ≤ MS → (∀ G' A' kc' ks', kc' ≤ kc + 2 * m + 63 → ks' ≤ ks + 12 * m + 378 → yJ G' A' (zH E σ) T → yCo A' o n → k2 G' kc' ks' o (zL E 5 0 0) (zI (s + 1))) → w_L_sessions_L233 MC MS K k2 fuel G kc ks o (zL E 5 0 0) (zI s) (some (ySe E s)) q5 (zI k) := by
  intro m
  induction m with
  | zero =>
    intro fuel k G A kc ks hJ hA k0 km hf hkc hks hk
    cases fuel with
    | zero => omega
    | succ fuel =>
    have hn := hA.w
    have ent := (hy.2 s s0 s1).1
    have ent0 := hn.2.2.2.ent hn.1 s0 s1
    obtain rfl : k = 5 := by omega
    unfold w_L_sessions_L233
    refine ⟨fun h => (by cases h), fun r hr => ?_⟩
    obtain rfl : ySe E s = r := by injection hr
    rw [if_pos (show (5 : Int32) ≤ zI 5 from by decide)]
    exact yd_L265 hI hy s0 s1 (nS n s 2).toNat g_N 0 G A kc ks hJ hA (by omega) (by omega) (by unfold g_N; omega) (by omega) (by omega) (fun G' A' kc' ks' h1 h2 => hk G' A' kc' ks' (by omega) (by omega))
  | succ m ih =>
    intro fuel k G A kc ks hJ hA k0 km hf hkc hks hk
    cases fuel with
    | zero => omega
    | succ fuel =>
    unfold w_L_sessions_L233
    refine ⟨fun h => (by cases h), fun r hr => ?_⟩
    obtain rfl : ySe E s = r := by injection hr
    rw [if_neg (show ¬ (5 : Int32) ≤ zI k by rw [show (5 : Int32) = zI 5 from rfl, zI_le (by omega) (by omega) (by omega) (by omega)]; omega)]
    refine ⟨_, _, hJ.a.1, hJ.a.2, (), hA.ob, ⟨by omega, by omega⟩, k_spaceOf hA s0 s1 k0 (by omega) (fun A' hA' G2 d2 e2 => ?_)⟩
    have hJ2 := hJ.a' d2 e2
    refine ⟨_, hJ2.tald h5 (by omega) (by omega) (by omega), ?_⟩
    rw [hu k k0 (by omega), if_pos rfl, show (zI k + (1 : Int32)) = zI (k + 1) from zI_add k 1]
    exact ih fuel (k + 1) G2 A' (kc + 2) (ks + 12) hJ2 hA' (by omega) (by omega) (by omega) (by omega) (by omega) (fun G' A' kc' ks' h1 h2 => hk G' A' kc' ks' (by omega) (by omega))
theorem yd_L200 {MC MS : Nat} {k2 : gH → Nat → Nat → Nat → Nat → Int32 → Prop} {s : Int} {q5 q9 : Nat} (hI : yI E σ n) (hy : yW n) (s0 : 0 ≤ s) (s1 : s < n 3) {u ρ : Nat → Int32} (h5 : T q5 = some (.inl (0, 5, u))) (hu : ∀ i : Int, 1 ≤ i → i < 5 → u i.toNat = zI (nSp n s i)) (h9 : T q9 = some (.inl (0, 9, ρ))) (hρ : ∀ i : Int, 0 ≤ i → i < 9 → ρ i.toNat = zI (aSession n s i)) : ∀ (m fuel : Nat) (k : Int) (G A : gH) (kc ks : Nat), yJ G A (zH E σ) T → yCo A o n → 0 ≤ k → k + m = 9 → m < fuel → kc + 2 * m + 71 ≤ MC → ks + 12 * m + 426 ≤ MS → (∀ G' A' kc' ks', kc' ≤ kc + 2 * m + 71 → ks' ≤ ks + 12 * m + 426 → yJ G' A' (zH E σ) T → yCo A' o n → k2 G' kc' ks' o (zL E 5 0 0) (zI (s + 1))) → w_L_sessions_L200 MC MS K k2 fuel G kc ks o (zL E 5 0 0) (zI s) (some (ySe E s)) q5 q9 (zI k) := by
  intro m
  induction m with
  | zero =>
    intro fuel k G A kc ks hJ hA k0 km hf hkc hks hk
    cases fuel with
    | zero => omega
    | succ fuel =>
    obtain rfl : k = 9 := by omega
    unfold w_L_sessions_L200
    refine ⟨fun h => (by cases h), fun r hr => ?_⟩
    obtain rfl : ySe E s = r := by injection hr
    rw [if_pos (show (9 : Int32) ≤ zI 9 from by decide)]
    exact yd_L233 hI hy s0 s1 h5 hu 4 g_N 1 G A kc ks hJ hA (by omega) (by omega) (by unfold g_N; omega) (by omega) (by omega) (fun G' A' kc' ks' h1 h2 => hk G' A' kc' ks' (by omega) (by omega))
  | succ m ih =>
    intro fuel k G A kc ks hJ hA k0 km hf hkc hks hk
    cases fuel with
    | zero => omega
    | succ fuel =>
    unfold w_L_sessions_L200
    refine ⟨fun h => (by cases h), fun r hr => ?_⟩
    obtain rfl : ySe E s = r := by injection hr
    rw [if_neg (show ¬ (9 : Int32) ≤ zI k by rw [show (9 : Int32) = zI 9 from rfl, zI_le (by omega) (by omega) (by omega) (by omega)]; omega)]
    refine ⟨_, _, hJ.a.1, hJ.a.2, (), hA.ob, ⟨by omega, by omega⟩, k_session hA s0 s1 k0 (by omega) (fun A' hA' G2 d2 e2 => ?_)⟩
    have hJ2 := hJ.a' d2 e2
    refine ⟨_, hJ2.tald h9 (by omega) (by omega) (by omega), ?_⟩
    rw [hρ k k0 (by omega), if_pos rfl, show (zI k + (1 : Int32)) = zI (k + 1) from zI_add k 1]
    exact ih fuel (k + 1) G2 A' (kc + 2) (ks + 12) hJ2 hA' (by omega) (by omega) (by omega) (by omega) (by omega) (fun G' A' kc' ks' h1 h2 => hk G' A' kc' ks' (by omega) (by omega))
end zE_


/-! The slots of kept discs, all of different groups; the class's whole relation. -/
theorem zC_ne {k c : Nat} (h : zk k c = true) (E : zE) (d : Nat) (r : Int → Int) : zC E k d c r ≠ none := by
  unfold zk at h
  unfold zC
  cases hA : zA k c with
  | some p =>
    show some _ ≠ none
    simp
  | none =>
    rw [hA] at h
    simp only [Option.isSome_none, Bool.false_or] at h
    intro h2
    have h3 : zB E k d c r = none := by
      cases hB : zB E k d c r with
      | none => rfl
      | some p =>
        rw [hB] at h2
        exact absurd h2 (by simp)
    unfold zB at h h3
    split at h3
    all_goals try exact (Option.some_ne_none _ h3).elim
    split at h
    all_goals simp_all
def zGr (E E' : zE) : Prop := (∀ k d, zU E k d = true → zU E' k d = true) ∧ ∀ k d c, zU E k d = true → zL E' k d c = zL E k d c
theorem zGr.rf {E : zE} : zGr E E := ⟨fun _ _ h => h, fun _ _ _ _ => rfl⟩
theorem zGr.tr {E E1 E2 : zE} (h : zGr E E1) (h2 : zGr E1 E2) : zGr E E2 := ⟨fun k d u => h2.1 k d (h.1 k d u), fun k d c u => (h2.2 k d c (h.1 k d u)).trans (h.2 k d c u)⟩
def zOk (E : zE) : Prop := zWF E ∧ (∀ d, zU E 2 d = true ↔ d = 0) ∧ True ∧ True ∧ zU E 9 0 = false ∧ zU E 1 14 = true ∧ ∃ D : Nat, 15 ≤ D ∧ ∀ d, zU E 0 d = true ∨ zU E 1 d = true → d < D
theorem zOk.m {E : zE} (h : zOk E) : zU E 2 0 = true := (h.2.1 0).mpr rfl
def zWd (L : List Int) : Prop := 1 ≤ L.length ∧ L.length ≤ 8 ∧ ∀ x ∈ L, 97 ≤ x ∧ x ≤ 122
def zw27 (L : List Int) : Int := L.foldl (fun a x => a * 27 + (x - 97 + 1)) 0
def zw8 (L : List Int) : Int := L.foldl (fun a x => a * 256 + x) 0
def zNm (a b : Int) : Prop := ∃ L, zWd L ∧ a = zw27 L ∧ b = zw8 L
def zDs (E : zE) (σ : zW) (d t : Nat) : Prop :=
  (σ 2 0 0 5 = d ∧ σ 2 0 0 6 = t ∧ d ≠ t ∧ d ≠ 14 ∧ t ≠ 14) ∧ (zU E 0 d = true ∧ zU E 1 d = true ∧ zU E 0 t = true ∧ zU E 1 t = true) ∧ (∀ c, c = 5 ∨ c = 8 → ∀ j : Nat, σ 2 0 c j = 0 ∨ ∃ s : Nat, σ 2 0 c j = (s : Int) + 1 ∧ zU E 0 s = true ∧ s ≠ d ∧ s ≠ t) ∧ (∀ (c c' j j' s : Nat), c = 5 ∨ c = 8 → c' = 5 ∨ c' = 8 → σ 2 0 c j = (s : Int) + 1 → σ 2 0 c' j' = (s : Int) + 1 → c = c' ∧ j = j')
theorem zDs.cg {E : zE} {σ σ' : zW} {d t : Nat} (h : zDs E σ d t) (h5 : σ' 2 0 0 5 = σ 2 0 0 5) (h6 : σ' 2 0 0 6 = σ 2 0 0 6) (hc : ∀ c, c = 5 ∨ c = 8 → σ' 2 0 c = σ 2 0 c) : zDs E σ' d t :=
  ⟨⟨h5.trans h.1.1, h6.trans h.1.2.1, h.1.2.2⟩, h.2.1, fun c z j => by rw [hc c z]; exact h.2.2.1 c z j, fun c c' j j' s z z' e e' => h.2.2.2 c c' j j' s z z' (by rw [← hc c z]; exact e) (by rw [← hc c' z']; exact e')⟩
def zSh (nm : Int → Int) (σ : zW) (s : Nat) (n : zN) : Prop := zRd (σ 0 s) n ∧ nW n ∧ ∀ i, 0 ≤ i → i < n 2 → zNm (σ 0 s 23 i) (nm i)
theorem zSh.cg {nm : Int → Int} {σ σ' : zW} {s : Nat} {n : zN} (h : zSh nm σ s n) (e : σ' 0 s = σ 0 s) : zSh nm σ' s n := by
  unfold zSh
  rw [e]
  exact h
theorem zSh.of {nm : Int → Int} {σ σ' : zW} {s s' : Nat} {n : zN} (h : zSh nm σ s n) (hR : zRd (σ' 0 s') n) (e : ∀ i, 0 ≤ i → i < 10 → σ' 0 s' 23 i = σ 0 s 23 i) : zSh nm σ' s' n :=
  ⟨hR, h.2.1, fun i h0 h1 => by rw [e i h0 (by have := h.2.1.1.2.2.1.2; omega)]; exact h.2.2 i h0 h1⟩
section zStore
variable {E : zE} {σ : zW} {n : zN} {nm : Int → Int} {d t : Nat}
theorem c9_store (hO : zOk E) (hD : zDs E σ d t) (hS : zSh nm σ d n) {c N : Nat} (hc : (c = 5 ∧ N = 10) ∨ (c = 8 ∧ N = 2)) {i : Nat} (hi : i < N) {K : gH → Prop} (hK : ∀ (E' : zE) (σ' : zW) (s : Nat), zOk E' → zGr E E' → zDs E' σ' d t → σ' 2 0 c i = (s : Int) + 1 → zSh nm σ' s n → (∀ k3 d3 c3, ¬ (k3 ≤ 1 ∧ d3 = s) → ¬ (k3 = 2 ∧ d3 = 0 ∧ c3 = c) → σ' k3 d3 c3 = σ k3 d3 c3) → s ≠ d ∧ s ≠ t → (∀ (c' j' s' : Nat), c' = 5 ∨ c' = 8 → ¬ (c' = c ∧ j' = i) → σ 2 0 c' j' = (s' : Int) + 1 → σ' 2 0 c' j' = (s' : Int) + 1 ∧ σ' 0 s' = σ 0 s') → K (zH E' σ')) : w_X9_storeIn (zH E σ) (zL E 2 0 c) (zI i) (zL E 0 d 0) K := by
  have hc58 : c = 5 ∨ c = 8 := by omega
  have ha : zA 2 c = some (4, N) := by
    rcases hc with ⟨rfl, rfl⟩ | ⟨rfl, rfl⟩ <;> rfl
  have hN : N < 1000 := by omega
  have hD1 := hD.1
  have hD2 := hD.2.1
  have hdt := hD1.2.2.1
  rcases hD.2.2.1 c hc58 i with h0 | ⟨s, hs, hus, hsd, hst⟩
  · obtain ⟨D, hD15, hDu⟩ := hO.2.2.2.2.2.2
    have hnu : zU E 0 D = false ∧ zU E 1 D = false := by
      constructor
      · cases h : zU E 0 D with
        | false => rfl
        | true => exact absurd (hDu D (Or.inl h)) (by omega)
      · cases h : zU E 1 D with
        | false => rfl
        | true => exact absurd (hDu D (Or.inr h)) (by omega)
    have hdD := hDu d (Or.inl hD2.1)
    have htD := hDu t (Or.inl hD2.2.2.1)
    refine c9_storeNew (n := n) (d' := D) hO.1 hO.m rfl ha hN (by omega) (by omega) h0 hD2.1 hS.1 hS.2.1 hnu hO.2.2.2.2.1 (by omega) ?_ ?_ (fun k d c _ h2 => zC_ne h2 E d _) ?_
    · intro d' h
      rw [(hO.2.1 d').mp h, hD1.1, hD1.2.1]
      omega
    · intro d' c' h hc' j
      rw [(hO.2.1 d').mp h]
      rcases hD.2.2.1 c' hc' j with h | ⟨s, h, hu, _, _⟩
      · exact Or.inl h
      · have := hDu s (Or.inl hu)
        exact Or.inr (by rw [h]; omega)
    · intro E' σ' e1 e2 e3 e4 e5 e6 e7
      have hgr : zGr E E' := ⟨fun k d h => by rw [e2, h]; rfl, fun k d3 c h => e3 k d3 c (fun z => by
        rcases (by omega : k = 0 ∨ k = 1) with rfl | rfl
        · rw [z.2, hnu.1] at h; exact absurd h (by simp)
        · rw [z.2, hnu.2] at h; exact absurd h (by simp))⟩
      have hO' : zOk E' := by
        refine ⟨e1, fun d' => ?_, trivial, trivial, ?_, hgr.1 1 14 hO.2.2.2.2.2.1, D + 1, by omega, fun d' h => ?_⟩
        · rw [e2, ← hO.2.1 d']
          simp
        · rw [e2, hO.2.2.2.2.1]
          simp
        · by_cases hd' : d' = D
          · omega
          · rw [e2, e2] at h
            have := hDu d' (by simpa [hd'] using h)
            omega
      have f0 : σ' 2 0 0 = σ 2 0 0 := e4 2 0 0 (by omega) (by omega)
      have fo : ∀ c', c' = 5 ∨ c' = 8 → ∀ j : Nat, ¬ (c' = c ∧ j = i) → σ' 2 0 c' j = σ 2 0 c' j := by
        intro c' hc' j hj
        by_cases hcc : c' = c
        · subst hcc
          rw [e5]
          show (if (j : Int) = (i : Int) then _ else _) = _
          rw [if_neg (by omega)]
        · rw [e4 2 0 c' (by omega) (by omega)]
      have fi : σ' 2 0 c i = (D : Int) + 1 := by
        rw [e5]
        exact if_pos rfl
      have hlt : ∀ (c' j s : Nat), c' = 5 ∨ c' = 8 → σ 2 0 c' j = (s : Int) + 1 → s < D := by
        intro c' j s hc' h
        rcases hD.2.2.1 c' hc' j with h1 | ⟨s', h1, hu, _, _⟩
        · omega
        · have := hDu s' (Or.inl hu)
          omega
      refine hK E' σ' D hO' hgr ⟨⟨by rw [f0]; exact hD1.1, by rw [f0]; exact hD1.2.1, hD1.2.2⟩, ⟨hgr.1 0 d hD2.1, hgr.1 1 d hD2.2.1, hgr.1 0 t hD2.2.2.1, hgr.1 1 t hD2.2.2.2⟩, fun c' hc' j => ?_, fun c1 c2 j1 j2 s z1 z2 q1 q2 => ?_⟩ fi (hS.of e7 e6) (fun k3 d3 c3 z1 z2 => e4 k3 d3 c3 z1 z2) (by omega) (fun c' j' s' hc' hj hs' => ?_)
      · by_cases hj : c' = c ∧ j = i
        · rw [hj.1, hj.2]
          exact Or.inr ⟨D, fi, by rw [e2]; simp, by omega, by omega⟩
        · rw [fo c' hc' j hj]
          rcases hD.2.2.1 c' hc' j with h | ⟨s, h, hu, z1, z2⟩
          · exact Or.inl h
          · exact Or.inr ⟨s, h, hgr.1 0 s hu, z1, z2⟩
      · by_cases hj1 : c1 = c ∧ j1 = i
        · by_cases hj2 : c2 = c ∧ j2 = i
          · omega
          · rw [fo c2 z2 j2 hj2] at q2
            rw [hj1.1, hj1.2, fi] at q1
            have := hlt c2 j2 s z2 q2
            omega
        · rw [fo c1 z1 j1 hj1] at q1
          by_cases hj2 : c2 = c ∧ j2 = i
          · rw [hj2.1, hj2.2, fi] at q2
            have := hlt c1 j1 s z1 q1
            omega
          · rw [fo c2 z2 j2 hj2] at q2
            exact hD.2.2.2 c1 c2 j1 j2 s z1 z2 q1 q2
      · have := hlt c' j' s' hc' hs'
        refine ⟨by rw [fo c' hc' j' hj]; exact hs', ?_⟩
        funext c3
        exact e4 0 s' c3 (by omega) (by omega)
  · refine c9_storeIn (n := n) hO.1 hO.m ha hN (by omega) (by omega) hs hsd hus hD2.1 hS.1 hS.2.1 ?_
    intro σ' e1 e2 e3
    have f2 : ∀ c', σ' 2 0 c' = σ 2 0 c' := fun c' => e1 2 0 c' (by omega)
    refine hK E σ' s hO zGr.rf (hD.cg (by rw [f2]) (by rw [f2]) (fun c' _ => f2 c')) (by rw [f2]; exact hs) (hS.of e3 e2) (fun k3 d3 c3 z1 z2 => e1 k3 d3 c3 (by omega)) ⟨hsd, hst⟩ (fun c' j' s' hc' hj hs' => ⟨by rw [f2]; exact hs', ?_⟩)
    have hne : s' ≠ s := fun e => by
      rw [e] at hs'
      have := hD.2.2.2 c' c j' i s hc' hc58 hs' hs
      exact hj this
    funext c3
    exact e1 0 s' c3 (by omega)
end zStore
def zRg (nm : Int → Int) (σ : zW) (c : Int) (U : Int → zN) : Prop := ∃ o : Int, σ 2 0 4 1 = o ∧ 0 ≤ o ∧ o < 10 ∧ σ 2 0 4 0 = c ∧ 0 ≤ c ∧ c ≤ 10 ∧ ∀ k, 0 ≤ k → k < c → ∃ s : Nat, σ 2 0 5 ((o + k) % 10) = (s : Int) + 1 ∧ zSh nm σ s (U k)
def zSs (nm : Int → Int) (σ : zW) (h : Int → Bool) (V : Int → zN) : Prop := ∀ j, 0 ≤ j → j < 2 → σ 2 0 7 j = zb (h j) ∧ (h j = true → ∃ s : Nat, σ 2 0 8 j = (s : Int) + 1 ∧ zSh nm σ s (V j))
def zCL (nm : Int → Int) (E : zE) (σ : zW) (d t : Nat) (n : zN) (c : Int) (U : Int → zN) (h : Int → Bool) (V : Int → zN) : Prop := zDs E σ d t ∧ zSh nm σ d n ∧ zRg nm σ c U ∧ zSs nm σ h V
/-- the cells of the texts, of the reference and of the law stay -/
def zFc (σ σ' : zW) : Prop := ∀ k d c, 2 ≤ k → ¬ (k = 2 ∧ d = 0 ∧ (c = 0 ∨ c = 4 ∨ c = 5 ∨ c = 7 ∨ c = 8)) → σ' k d c = σ k d c
theorem zFc.rf {σ : zW} : zFc σ σ := fun _ _ _ _ _ => rfl
theorem zFc.tr {σ σ1 σ2 : zW} (h : zFc σ σ1) (h2 : zFc σ1 σ2) : zFc σ σ2 := fun k d c z y => (h2 k d c z y).trans (h k d c z y)
theorem zFc.v {σ σ' : zW} (h : zFv σ σ') : zFc σ σ' := fun k d c z _ => h k (by omega) d c
section zRing
variable {E : zE} {σ : zW} {n : zN} {nm : Int → Int} {d t : Nat} {c : Int} {U : Int → zN} {h : Int → Bool} {V : Int → zN}
theorem c9_kp (hO : zOk E) (hC : zCL nm E σ d t n c U h V) {K : gH → Prop} (hK : ∀ E' σ', zOk E' → zGr E E' → zCL nm E' σ' d t n (kC c) (kU c U n) h V → zFc σ σ' → K (zH E' σ')) : w_X2_keep (zH E σ) (zL E 2 0 4) (zL E 0 d 0) K := by
  obtain ⟨hD, hS, ⟨o, r1, r2, r3, r4, r5, r6, r7⟩, hV⟩ := hC
  have hm := hO.m
  refine c9_keep hO.1 hm r1 r4 r2 r3 r5 r6 ?_
  obtain ⟨σ1, hσ1⟩ : ∃ x, x = (if 10 ≤ c then zs σ 2 0 4 1 ((o + 1) % 10) else zs σ 2 0 4 0 (c + 1)) := ⟨_, rfl⟩
  rw [← hσ1]
  have g1 : ∀ k d c, ¬ (k = 2 ∧ d = 0 ∧ c = 4) → σ1 k d c = σ k d c := by
    intro k d' c' z
    rw [hσ1]
    split <;> rw [zs_ne z]
  have g0 : ∀ s, σ1 0 s = σ 0 s := fun s => funext fun c' => g1 0 s c' (by omega)
  have g4 : (10 ≤ c → σ1 2 0 4 1 = (o + 1) % 10 ∧ σ1 2 0 4 0 = c) ∧ (¬ 10 ≤ c → σ1 2 0 4 1 = o ∧ σ1 2 0 4 0 = c + 1) := by
    rw [hσ1]
    constructor
    · intro z
      rw [if_pos z, zs_at, zs_at, if_pos rfl, if_neg (by omega)]
      exact ⟨rfl, r4⟩
    · intro z
      rw [if_neg z, zs_at, zs_at, if_pos rfl, if_neg (by omega)]
      exact ⟨r1, rfl⟩
  have hi : (((o + c) % 10).toNat : Int) = (o + c) % 10 := by omega
  rw [← hi]
  refine c9_store (n := n) (nm := nm) hO (hD.cg (by rw [g1 2 0 0 (by omega)]) (by rw [g1 2 0 0 (by omega)]) (fun c' z => g1 2 0 c' (by omega))) (hS.cg (g0 d)) (Or.inl ⟨rfl, rfl⟩) (i := ((o + c) % 10).toNat) (by omega) ?_
  intro E' σ' s e1 e2 e3 e4 e5 e6 e7 e8
  rw [hi] at e4
  have f4 : σ' 2 0 4 = σ1 2 0 4 := e6 2 0 4 (by omega) (by omega)
  have hslot : ∀ (c' : Nat) (j : Int) (n2 : zN), c' = 5 ∨ c' = 8 → 0 ≤ j → ¬ (c' = 5 ∧ j = (o + c) % 10) → (∃ s : Nat, σ 2 0 c' j = (s : Int) + 1 ∧ zSh nm σ s n2) → ∃ s : Nat, σ' 2 0 c' j = (s : Int) + 1 ∧ zSh nm σ' s n2 := by
    rintro c' j n2 hc' hj hne ⟨s', q1, q2⟩
    have hjj : (j.toNat : Int) = j := by omega
    have := e8 c' j.toNat s' hc' (by omega) (by rw [hjj, g1 2 0 c' (by omega)]; exact q1)
    rw [hjj] at this
    exact ⟨s', this.1, (q2.cg (g0 s')).cg this.2⟩
  refine hK E' σ' e1 e2 ⟨e3, ?_, ?_, ?_⟩ (fun k3 d3 c3 z y => ?_)
  · refine (hS.cg (g0 d)).cg ?_
    funext c3
    exact e6 0 d c3 (by omega) (by omega)
  · unfold kC kU
    by_cases h10 : c = 10
    · subst h10
      obtain ⟨a1, a2⟩ := g4.1 (by omega)
      refine ⟨(o + 1) % 10, by rw [f4]; exact a1, by omega, by omega, by rw [f4, a2]; rfl, by simp, by simp, fun k k0 k1 => ?_⟩
      simp only [if_true] at k1 ⊢
      by_cases k9 : k = 9
      · rw [if_pos k9]
        refine ⟨s, ?_, e5⟩
        rw [← e4]
        congr 1
        omega
      · rw [if_neg k9]
        have := hslot 5 ((o + (k + 1)) % 10) (U (k + 1)) (Or.inl rfl) (by omega) (by omega) (r7 (k + 1) (by omega) (by omega))
        rw [show (o + 1) % 10 + k = (o + 1) % 10 + k from rfl, show ((o + 1) % 10 + k) % 10 = (o + (k + 1)) % 10 by omega]
        exact this
    · obtain ⟨a1, a2⟩ := g4.2 (by omega)
      rw [if_neg h10]
      refine ⟨o, by rw [f4]; exact a1, r2, r3, by rw [f4, a2], by omega, by omega, fun k k0 k1 => ?_⟩
      simp only [if_neg h10]
      by_cases kc : k = c
      · rw [if_pos kc, kc]
        exact ⟨s, e4, e5⟩
      · rw [if_neg kc]
        exact hslot 5 ((o + k) % 10) (U k) (Or.inl rfl) (by omega) (by omega) (r7 k k0 (by omega))
  · intro j j0 j1
    obtain ⟨v1, v2⟩ := hV j j0 j1
    refine ⟨by rw [e6 2 0 7 (by omega) (by omega), g1 2 0 7 (by omega)]; exact v1, fun hh => ?_⟩
    exact hslot 8 j (V j) (Or.inr rfl) j0 (by omega) (v2 hh)
  · rw [e6 k3 d3 c3 (by omega) (by omega), g1 k3 d3 c3 (by omega)]
end zRing

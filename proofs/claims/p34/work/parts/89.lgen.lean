/-! One session's words change; one block is written; one place is noted. -/
section yK
variable {E : zE} {σ : zW} {n : zN} {cv cs : Int → Int}
theorem yG.cg (h : yG E σ n cv cs) {cv' cs' : Int → Int} (hv : ∀ v, 0 ≤ v → v < n 6 → cv' v = cv v) (hs : ∀ s, 0 ≤ s → s < n 3 → cs' s = cs s) : yG E σ n cv' cs' := by
  obtain ⟨a1, a2, a3, a4, a5, a6, ⟨b1, b2, b3, b4, b5⟩, a8, a9⟩ := h
  refine ⟨a1, a2, a3, a4, a5, a6, ⟨b1, b2, b3, fun s s0 s1 => ?_, fun v v0 v1 => ?_⟩, fun s s1 => ?_, fun v v1 => ?_⟩
  · rw [hs s s0 s1]; exact b4 s s0 s1
  · rw [hv v v0 v1]; exact b5 v v0 v1
  · rw [hs s (by omega) s1]; exact a8 s s1
  · rw [hv v (by omega) v1]; exact a9 v v1
/-- the words of session s change, and nothing else -/
theorem yG.se (h : yG E σ n cv cs) {s : Nat} (hs : (s : Int) < n 3) {σ' : zW} {n' : zN} {cs' : Int → Int} (hσ : ∀ k d, ¬ (k = 6 ∧ d = s) → σ' k d = σ k d) (hlo : ∀ i, i < 1255 → n' i = n i) (hS : ∀ t w : Int, 0 ≤ t → t ≠ s → 0 ≤ w → w < 25 → nS n' t w = nS n t w) (hr : yRs' (σ' 6 s) n' s (cs' s)) (h8 : ∀ j, 0 ≤ σ' 6 s 8 j ∧ σ' 6 s 8 j ≤ n 6) (hb : (0 ≤ nS n' s 2 ∧ nS n' s 2 ≤ 10) ∧ ∀ k, 0 ≤ k → k < cs' s → 0 ≤ nS n' s 3 - 1 + k ∧ nS n' s 3 - 1 + k < n 4) (hc : ∀ t : Int, 0 ≤ t → t ≠ s → cs' t = cs t) : yG E σ' n' cv cs' := by
  obtain ⟨a1, a2, a3, a4, a5, ⟨d1, d2, d3, d4, d5⟩, ⟨b1, b2, b3, b4, b5⟩, a8, a9⟩ := h
  have e5 : σ' 5 0 = σ 5 0 := hσ 5 0 (by omega)
  have p : ∀ b, 0 ≤ b → b < 96 → nPl n' b = nPl n b := fun b b0 b1 => nPl_cg (hlo _ (by omega))
  have eV : ∀ v w, 0 ≤ v → v < 96 → 0 ≤ w → w < 5 → nV n' v w = nV n v w := fun v w v0 v1 w0 w1 => hlo _ (by omega)
  refine ⟨⟨a1.1, a1.2.1, ?_⟩, ?_, ?_, ?_, ?_, ⟨?_, ?_, ?_, ?_, fun t t1 j => ?_⟩, ⟨?_, ?_, ?_, fun t t0 t1 => ?_, fun v v0 v1 => ?_⟩, fun t t1 => ?_, fun v v1 => ?_⟩
  · rw [hlo 3 (by omega), hlo 6 (by omega)]; exact a1.2.2
  · unfold yU; rw [hlo 3 (by omega), hlo 6 (by omega)]; exact a2
  · unfold yRn; rw [e5, hlo 0 (by omega), hlo 1 (by omega), hlo 2 (by omega), hlo 4 (by omega), hlo 3 (by omega), hlo 6 (by omega), hlo 5 (by omega)]; exact a3
  · exact a4.lo (fun i i0 i1 => hlo i (by omega)) (fun c _ _ => by rw [e5])
  · unfold yRr; rw [e5, hlo 6 (by omega), hlo 3 (by omega)]; exact a5
  · rw [hlo 3 (by omega), hlo 6 (by omega)]; exact d1
  · rw [e5, hlo 6 (by omega)]; exact d2
  · rw [e5, hlo 6 (by omega)]; exact d3
  · rw [e5, hlo 3 (by omega)]; exact d4
  · rw [hlo 3 (by omega)] at t1
    rw [hlo 6 (by omega)]
    by_cases z : t = s
    · subst z; exact h8 j
    · rw [hσ 6 t (by omega)]; exact d5 t t1 j
  · rw [hlo 4 (by omega)]; exact b1
  · rw [hlo 3 (by omega)]; exact b2
  · rw [hlo 6 (by omega)]; exact b3
  · rw [hlo 3 (by omega)] at t1
    rw [hlo 4 (by omega)]
    by_cases z : t = s
    · subst z; exact hb
    · rw [hS t 2 t0 z (by omega) (by omega), hS t 3 t0 z (by omega) (by omega), hc t t0 z]; exact b4 t t0 t1
  · rw [hlo 6 (by omega)] at v1
    rw [eV v 1 v0 (by omega) (by omega) (by omega), hlo 4 (by omega)]
    exact b5 v v0 v1
  · rw [hlo 3 (by omega)] at t1
    by_cases z : t = s
    · subst z; exact hr
    · rw [hσ 6 t (by omega), hc t (by omega) (by omega)]
      have cc := b4 t (by omega) t1
      exact (a8 t t1).cg cc.1.2 (fun w w0 w1 => hS t w (by omega) (by omega) w0 w1) (fun k k0 k1 => p _ (cc.2 k k0 k1).1 (by have := (cc.2 k k0 k1).2; omega))
  · rw [hlo 6 (by omega)] at v1
    rw [hσ 7 v (by omega)]
    exact (a9 v v1).cg (fun w w0 w1 => eV v w (by omega) (by omega) w0 w1) (fun k k0 k1 => p _ (b5 v (by omega) v1 k k0 k1).1 (by have := (b5 v (by omega) v1 k k0 k1).2; omega))
/-- a block is written -/
theorem yG.wr (h : yG E σ n cv cs) {n' : zN} {τ : zW} {v : Int} (hv0 : -1 ≤ v) (hv1 : v < n 6) (hlo : ∀ i, i ≠ 4 → i < 7 ∨ 775 ≤ i → n' i = n i) (h4 : n' 4 = n 4 + 1) (h96 : n 4 + 1 ≤ 96) (hp : ∀ b, 0 ≤ b → b < 96 → b ≠ n 4 → n' (679 + b) = n (679 + b)) (e1 : yRn (τ 5 0) n') (e2 : yRb (τ 5 0) n') (e3 : ∀ c, c = 15 ∨ c = 16 → τ 5 0 c = σ 5 0 c) (e4 : ∀ K d, K ≠ 5 → τ K d = σ K d) (e5 : ∀ j, τ 5 0 14 j = σ 5 0 14 j ∨ τ 5 0 14 j = 0 ∨ τ 5 0 14 j = v + 1) : yG E τ n' cv cs := by
  obtain ⟨a1, a2, a3, a4, a5, ⟨d1, d2, d3, d4, d5⟩, ⟨b1, b2, b3, b4, b5⟩, a8, a9⟩ := h
  have hS : ∀ t w, 0 ≤ t → 0 ≤ w → nS n' t w = nS n t w := fun t w t0 w0 => hlo _ (by omega) (by omega)
  have eV : ∀ v w, 0 ≤ v → 0 ≤ w → nV n' v w = nV n v w := fun v w v0 w0 => hlo _ (by omega) (by omega)
  have p : ∀ b, 0 ≤ b → b < n 4 → nPl n' b = nPl n b := fun b b0 b1 => nPl_cg (hp b b0 (by omega) (by omega))
  have l3 := hlo 3 (by omega) (by omega)
  have l6 := hlo 6 (by omega) (by omega)
  refine ⟨⟨a1.1, a1.2.1, ?_⟩, ?_, e1, e2, ?_, ⟨?_, fun j => ?_, ?_, ?_, fun t t1 j => ?_⟩, ⟨?_, ?_, ?_, fun t t0 t1 => ?_, fun u v0 v1 => ?_⟩, fun t t1 => ?_, fun u v1 => ?_⟩
  · rw [l3, l6]; exact a1.2.2
  · unfold yU; rw [l3, l6]; exact a2
  · unfold yRr; rw [e3 15 (by omega), e3 16 (by omega), l3, l6]; exact a5
  · rw [l3, l6]; exact d1
  · rw [l6]; have := d2 j; rcases e5 j with z | z | z <;> rw [z] <;> omega
  · rw [e3 15 (by omega), l6]; exact d3
  · rw [e3 16 (by omega), l3]; exact d4
  · rw [l3] at t1
    rw [e4 6 t (by omega), l6]; exact d5 t t1 j
  · rw [h4]; omega
  · rw [l3]; exact b2
  · rw [l6]; exact b3
  · rw [l3] at t1
    rw [hS t 2 t0 (by omega), hS t 3 t0 (by omega), h4]
    have := b4 t t0 t1
    exact ⟨this.1, fun k k0 k1 => by have := this.2 k k0 k1; omega⟩
  · rw [l6] at v1
    rw [eV u 1 v0 (by omega), h4]
    have := b5 u v0 v1
    exact fun k k0 k1 => by have := this k k0 k1; omega
  · rw [l3] at t1
    rw [e4 6 t (by omega)]
    have cc := b4 t (by omega) t1
    exact (a8 t t1).cg cc.1.2 (fun w w0 w1 => hS t w (by omega) w0) (fun k k0 k1 => p _ (cc.2 k k0 k1).1 (cc.2 k k0 k1).2)
  · rw [l6] at v1
    rw [e4 7 u (by omega)]
    exact (a9 u v1).cg (fun w w0 w1 => eV u w (by omega) w0) (fun k k0 k1 => p _ (b5 u (by omega) v1 k k0 k1).1 (b5 u (by omega) v1 k k0 k1).2)
/-- a version's place is noted -/
theorem yG.kv (h : yG E σ n cv cs) {v : Nat} (v1 : (v : Int) < n 6) (c0 : 0 ≤ cv v) (hp : 0 ≤ nV n v 1 + cv v ∧ nV n v 1 + cv v < n 4) : yG E (zs σ 7 v 6 (cv v) (nPl n (nV n v 1 + cv v))) n (fun u => if u = v then cv v + 1 else cv u) cs := by
  obtain ⟨a1, a2, a3, a4, a5, ⟨d1, d2, d3, d4, d5⟩, ⟨b1, b2, b3, b4, b5⟩, a8, a9⟩ := h
  have e5 : ∀ d, (zs σ 7 v 6 (cv v) (nPl n (nV n v 1 + cv v))) 5 d = σ 5 d := fun d => zs_kd (by omega)
  have e6 : ∀ d, (zs σ 7 v 6 (cv v) (nPl n (nV n v 1 + cv v))) 6 d = σ 6 d := fun d => zs_kd (by omega)
  refine ⟨a1, a2, by rw [e5]; exact a3, by rw [e5]; exact a4, by rw [e5]; exact a5, ⟨d1, by rw [e5]; exact d2, by rw [e5]; exact d3, by rw [e5]; exact d4, fun t t1 => by rw [e6]; exact d5 t t1⟩, ⟨b1, b2, b3, b4, fun u u0 u1 k k0 k1 => ?_⟩, fun t t1 => by rw [e6]; exact a8 t t1, fun u u1 => ?_⟩
  · by_cases z : u = v
    · subst z
      simp only [if_true] at k1
      by_cases k2 : k = cv v
      · rw [k2]; exact hp
      · exact b5 v u0 u1 k k0 (by omega)
    · simp only [if_neg z] at k1
      exact b5 u u0 u1 k k0 k1
  · by_cases z : u = v
    · subst z
      obtain ⟨f0, f1, f2, f3, f4, f5, f6⟩ := a9 u u1
      simp only [if_true]
      have e : ∀ c, c ≠ 6 → (zs σ 7 u 6 (cv u) (nPl n (nV n u 1 + cv u))) 7 u c = σ 7 u c := fun c hc => zs_ne (by omega)
      unfold yRv'
      rw [e 0 (by omega)]
      refine ⟨f0, f1, f2, f3, f4, f5, fun k k0 k1 => ?_⟩
      rw [zs_at]
      by_cases k2 : k = cv u
      · rw [if_pos k2, k2]
      · rw [if_neg k2]; exact f6 k k0 (by omega)
    · have z' : ¬ ((u : Int) = v) := by omega
      simp only [if_neg z']
      rw [zs_kd (by omega)]
      exact a9 u u1
/-- a directory's place is noted -/
theorem yG.ks (h : yG E σ n cv cs) {s : Nat} (s1 : (s : Int) < n 3) (c0 : 0 ≤ cs s) (hp : 0 ≤ nS n s 3 - 1 + cs s ∧ nS n s 3 - 1 + cs s < n 4) : yG E (zs σ 6 s 7 (cs s) (nPl n (nS n s 3 - 1 + cs s))) n cv (fun u => if u = s then cs s + 1 else cs u) := by
  have e : ∀ c, c ≠ 7 → (zs σ 6 s 7 (cs s) (nPl n (nS n s 3 - 1 + cs s))) 6 s c = σ 6 s c := fun c hc => zs_ne (by omega)
  have hb := h.bc.2.2.2.1 s (by omega) s1
  refine h.se s1 (fun k d hk => zs_kd hk) (fun i _ => rfl) (fun t w _ _ _ _ => rfl) ?_ (fun j => by rw [e 8 (by omega)]; exact h.bd.2.2.2.2 s s1 j) ⟨hb.1, fun k k0 k1 => ?_⟩ (fun t _ ht => if_neg ht)
  · obtain ⟨f0, f1, f2, f3, f4, f5, f6, f7, f8⟩ := h.ses s s1
    simp only [if_true]
    unfold yRs'
    rw [e 0 (by omega), e 6 (by omega), e 8 (by omega)]
    refine ⟨f0, f1, f2, f3, f4, f5, f6, fun k k0 k1 => ?_, f8⟩
    rw [zs_at]
    by_cases k2 : k = cs s
    · rw [if_pos k2, k2]
    · rw [if_neg k2]; exact f7 k k0 (by omega)
  · simp only [if_true] at k1
    by_cases k2 : k = cs s
    · rw [k2]; exact hp
    · exact hb.2 k k0 (by omega)
end yK


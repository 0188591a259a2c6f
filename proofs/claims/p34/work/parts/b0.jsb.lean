/-! A growing text of the JDK's own in the world, and what its methods do to it. -/
def jR (G : gH) (sb v cap : Nat) (f : Nat → Int32) (t : List Int) : Prop := G sb = some (gO 15 [.ref v, .int 0, .int 0, .int (zI t.length)]) ∧ G v = some (.inl (2, cap, f)) ∧ t.length ≤ cap ∧ cap ≤ 1000 ∧ (∀ j, (f j).toInt8.toInt32 = f j) ∧ ∀ (i : Nat) (h : i < t.length), f i = zI t[i]
def jX (G G' : gH) (sb v v' : Nat) : Prop := (v' = v ∨ G v' = none) ∧ ∀ a, a ≠ sb → a ≠ v' → G' a = G a
/-- what is written behind the first n letters -/
def jE (f f' : Nat → Int32) (n : Nat) (w : List Int) : Prop := (∀ j, j < n → f' j = f j) ∧ ∀ (j : Nat) (h : j < w.length), f' (n + j) = zI w[j]
theorem jE.app {f f' : Nat → Int32} {t w : List Int} (h : jE f f' t.length w) (hf : ∀ (i : Nat) (h : i < t.length), f i = zI t[i]) : ∀ (i : Nat) (h : i < (t ++ w).length), f' i = zI (t ++ w)[i] := by
  intro i hi
  by_cases z : i < t.length
  · rw [List.getElem_append_left z, h.1 i z]; exact hf i z
  · rw [List.getElem_append_right (by omega)]
    have := h.2 (i - t.length) (by rw [List.length_append] at hi; omega)
    rw [show t.length + (i - t.length) = i by omega] at this
    exact this
theorem j_z : (0 : Int32).toInt8.toInt32 = 0 := by decide
section jT
variable {G : gH} {sb v cap : Nat} {f : Nat → Int32} {t : List Int}
theorem j_r {a ci k x : Nat} {fs : List Value} (h : G a = some (gO ci fs)) (hk : fs[k]? = some (.ref x)) : g_r G a ci k = some x := by
  unfold g_r g_V; rw [h]; simp [hk]
theorem j_i {a ci k : Nat} {x : Int32} {fs : List Value} (h : G a = some (gO ci fs)) (hk : fs[k]? = some (.int x)) : g_i G a ci k = some x := by
  unfold g_i g_V; rw [h]; simp [hk]
theorem j_ob {a ci : Nat} {fs : List Value} (h : G a = some (gO ci fs)) : g_ob G a ci = some () := by
  unfold g_ob; rw [h]; simp
theorem j_len {a n : Nat} {g : Nat → Int32} (h : G a = some (.inl (2, n, g))) : g_len G a = some (zI n) := by
  unfold g_len; rw [h]; simp [zI_ofNat]
theorem j_put {a ci k : Nat} {x : Value} {fs : List Value} (h : G a = some (gO ci fs)) (hk : k < fs.length) : g_put G a ci k x = some (va_up G a (some (gO ci (fs.set k x)))) := by
  unfold g_put; rw [h]; simp [hk]
theorem j_ast {a n : Nat} {g : Nat → Int32} {i : Int} {x : Int32} (h : G a = some (.inl (2, n, g))) (i0 : 0 ≤ i) (i1 : i < n) (hn : n < 2147483648) : g_ast 2 G a (zI i) x = some (va_up G a (some (.inl (2, n, upd g i.toNat (g_nar 2 x))))) := by
  unfold g_ast; rw [h]; simp only []; rw [if_pos ⟨by first | rfl | trivial, zIn i0 i1 hn⟩, zI_nat (by omega) (by omega)]
theorem j_shl (x : Int32) : x <<< ((0 : Int32) &&& 31) = x := by
  rw [show ((0 : Int32) &&& 31) = 0 by decide]; simp
theorem j_shr (x : Int32) : x >>> ((0 : Int32) &&& 31) = x := by
  rw [show ((0 : Int32) &&& 31) = 0 by decide]; simp
theorem j_nn {a : Int} (h0 : 0 ≤ a) (h1 : a < 2147483648) : ¬ zI a < (0 : Int32) := by
  show ¬ zI a < zI 0
  rw [zI_lt (by omega) (by omega) (by omega) (by omega)]; omega
theorem j_le0 {a : Int} (h0 : -2147483648 ≤ a) (h1 : a < 2147483648) : (zI a ≤ (0 : Int32)) = (a ≤ 0) := by
  show (zI a ≤ zI 0) = _
  rw [zI_le (by omega) (by omega) (by omega) (by omega)]
theorem j_ne {G : gH} {a b : Nat} {e : gE} (h : G a = some e) (hb : G b = none) : a ≠ b := fun z => by rw [z, hb] at h; cases h
theorem jR.ne (h : jR G sb v cap f t) : v ≠ sb := by
  intro z
  have h1 := h.1
  have h2 := h.2.1
  rw [z, h1] at h2
  cases h2
theorem j_lat {x : Int32} (h : G sb = some (gO 15 [.ref v, .int 0, .int 0, .int x])) : f_J5_isLatin1_aae02 G sb = some 1 := by
  unfold f_J5_isLatin1_aae02
  rw [if_neg (by decide), j_i (k := 1) (x := 0) h rfl, zz_some, if_pos rfl]
theorem j_newLen {a b c : Int} (a0 : 0 ≤ a) (a1 : a ≤ 1000) (b0 : 0 ≤ b) (b1 : b ≤ 2000) (c0 : 0 < c) (c1 : c ≤ 2000) : f_J8_newLength_cabcc G (zI a) (zI b) (zI c) = some (zI (a + (if b < c then c else b))) := by
  unfold f_J8_newLength_cabcc
  have e : (if zI b < zI c then zI c else zI b) = zI (if b < c then c else b) := by
    by_cases z : b < c
    · rw [if_pos (show zI b < zI c by rw [zI_lt (by omega) (by omega) (by omega) (by omega)]; exact z), if_pos z]
    · rw [if_neg (show ¬ zI b < zI c by rw [zI_lt (by omega) (by omega) (by omega) (by omega)]; exact z), if_neg z]
  rw [e, zI_add]
  have r : 0 < (if b < c then c else b) ∧ (if b < c then c else b) ≤ 2000 := by split <;> omega
  generalize (if b < c then c else b) = w at r
  rw [if_neg (show ¬ zI (a + w) ≤ (0 : Int32) by rw [j_le0 (by omega) (by omega)]; omega), if_neg (show ¬ (2147483639 : Int32) < zI (a + w) from by
    show ¬ zI 2147483639 < zI (a + w)
    rw [zI_lt (by omega) (by omega) (by omega) (by omega)]; omega)]
theorem j_cap (h : jR G sb v cap f t) {m : Int} (m0 : cap < m) (m1 : m ≤ 400) : f_J5_newCapacity_0f7a4 G sb (zI m) = some (zI (cap + (if m - cap < cap + 2 then (cap : Int) + 2 else m - cap))) := by
  have hc := h.2.2.2.1
  unfold f_J5_newCapacity_0f7a4
  simp only [j_r (k := 0) (x := v) h.1 rfl, j_len h.2.1, j_i (k := 1) (x := 0) h.1 rfl, zz_some, j_shl, j_shr]
  rw [zI_sub, show zI (cap : Int) + (2 : Int32) = zI ((cap : Int) + 2) from zI_add _ 2, j_newLen (by omega) (by omega) (by omega) (by omega) (by omega) (by omega), zz_some]
  have r : 0 < (if m - cap < cap + 2 then (cap : Int) + 2 else m - cap) ∧ (if m - cap < cap + 2 then (cap : Int) + 2 else m - cap) ≤ 2000 := by split <;> omega
  generalize (if m - cap < cap + 2 then (cap : Int) + 2 else m - cap) = w at r
  rw [if_neg (show ¬ zI (cap + w) = (2147483647 : Int32) from by
    show ¬ zI (cap + w) = zI 2147483647
    rw [zI_eq (by omega) (by omega) (by omega) (by omega)]; omega)]
theorem j_copyOf {K : Option Nat → gH → Prop} {n : Int} (h2 : G v = some (.inl (2, cap, f))) (hb : ∀ j, (f j).toInt8.toInt32 = f j) (n0 : cap < n) (n1 : n ≤ 1000) (hK : ∀ q G', G q = none → G' q = some (.inl (2, n.toNat, va_cpy f (fun _ => 0) 0 0 cap)) → (∀ a, a ≠ q → G' a = G a) → K (some q) G') : w_J7_copyOf_9075b 1 1000 G v (zI n) K := by
  unfold w_J7_copyOf_9075b
  have hn : (zI n).toNatClampNeg = n.toNat := zI_nat (by omega) (by omega)
  have z0 : (0 : Int32).toNatClampNeg = 0 := by decide
  have zc : (zI (cap : Int)).toNatClampNeg = cap := by rw [zI_nat (by omega) (by omega)]; omega
  refine ⟨_, j_len h2, ?_⟩
  rw [if_neg (show ¬ zI n = zI (cap : Int) by rw [zI_eq (by omega) (by omega) (by omega) (by omega)]; omega)]
  unfold g_newbW
  rw [hn]
  refine ⟨⟨j_nn (by omega) (by omega), by omega⟩, ⟨by omega, by omega⟩, fun q hq g hg => ?_⟩
  have hv : g v = some (.inl (2, cap, f)) := by rw [hg, gva_ne (j_ne h2 hq)]; exact h2
  refine ⟨_, j_len hv, ⟨by omega, by omega⟩, ?_⟩
  rw [if_neg (show ¬ zI n < zI (cap : Int) by rw [zI_lt (by omega) (by omega) (by omega) (by omega)]; omega)]
  unfold g_cpyW
  rw [z0, zc]
  refine ⟨cap, f, n.toNat, fun _ => 0, hv, by rw [hg]; exact gva_at, ⟨by decide, by decide, j_nn (by omega) (by omega)⟩, ⟨by omega, by omega⟩, fun i _ => hb _, fun g' hg' => ⟨by omega, by omega, hK q g' hq (by rw [hg']; exact gva_at) (fun a ha => by rw [hg', gva_ne ha, hg, gva_ne ha])⟩⟩
/-- room for m letters -/
theorem j_ens (h : jR G sb v cap f t) {m : Int} (m0 : (t.length : Int) ≤ m) (m1 : m ≤ 400) {K : gH → Prop} (hK : ∀ G' v' cap' f', jX G G' sb v v' → jR G' sb v' cap' f' t → m ≤ cap' → K G') : w_J5_ensureCapacityInternal_d00df 1 1000 G sb (zI m) K := by
  obtain ⟨h1, h2, h3, h4, h5, h6⟩ := id h
  unfold w_J5_ensureCapacityInternal_d00df
  refine ⟨v, j_r h1 rfl, _, j_len h2, 0, j_i h1 rfl, ?_⟩
  rw [j_shr, zI_sub]
  by_cases hm : m ≤ cap
  · rw [if_pos (show zI (m - cap) ≤ (0 : Int32) by rw [j_le0 (by omega) (by omega)]; omega)]
    exact ⟨by omega, by omega, hK G v cap f ⟨Or.inl rfl, fun _ _ _ => rfl⟩ h hm⟩
  · rw [if_neg (show ¬ zI (m - cap) ≤ (0 : Int32) by rw [j_le0 (by omega) (by omega)]; omega)]
    refine ⟨v, j_r h1 rfl, G, _, gd_n G, (gj_n G).symm, (), j_ob h1, ⟨by omega, by omega⟩, _, j_cap h (by omega) m1, 0, j_i h1 rfl, G, _, gd_n G, (gj_n G).symm, ⟨by omega, by omega⟩, ?_⟩
    rw [j_shl]
    have r : (m - cap ≤ (if m - cap < cap + 2 then (cap : Int) + 2 else m - cap)) ∧ (if m - cap < cap + 2 then (cap : Int) + 2 else m - cap) ≤ 802 - cap ∧ (cap : Int) < 400 := by split <;> omega
    generalize (if m - cap < cap + 2 then (cap : Int) + 2 else m - cap) = w at r
    refine j_copyOf h2 h5 (n := cap + w) (by omega) (by omega) (fun q G1 hq e1 e2 G2 _ eG => ?_)
    rw [show G2 = G1 from eG.trans (gj_n G1)]
    have hsb : sb ≠ q := j_ne h1 hq
    have e3 : G1 sb = some (gO 15 [.ref v, .int 0, .int 0, .int (zI t.length)]) := by rw [e2 sb hsb]; exact h1
    refine ⟨q, rfl, _, j_put e3 (by simp), by omega, by omega, ?_⟩
    refine hK _ q _ _ ⟨Or.inr hq, fun a a1 a2 => by rw [gva_ne a1]; exact e2 a a2⟩ ⟨gva_at, by rw [gva_ne hsb.symm]; exact e1, by omega, by omega, fun j => ?_, fun i hi => ?_⟩ (by omega)
    · unfold va_cpy
      split
      · exact h5 _
      · exact j_z
    · unfold va_cpy
      rw [if_pos ⟨by omega, by omega⟩, show 0 + (i - 0) = i by omega]
      exact h6 i hi
end jT

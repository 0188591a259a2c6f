/-! Appending a number. -/
theorem dg_lt {v : Int} (h0 : 0 ≤ v) (h1 : v < 1000) : ∀ x ∈ dg v, 0 ≤ x ∧ x < 128 := fun x hx => by have := (dg_d h0 h1).1 x hx; omega
section jT
variable {G : gH} {sb v cap : Nat} {f : Nat → Int32} {t : List Int}
theorem j_szL (G : gH) {x y : Int} (x0 : -1000 < x) (x1 : x ≤ 0) (y0 : -100000 < y) (y1 : y ≤ 0) {k : Int} (k0 : 0 ≤ k) (k1 : k < 10) (n : Nat) : f_J6_stringSize_0f7a4_L16 G (n + 1) (zI x) (0 : Int32) (zI y) (zI k) = if x ≤ y then f_J6_stringSize_0f7a4_L16 G n (zI x) (0 : Int32) (zI (10 * y)) (zI (k + 1)) else some (zI k) := by
  rw [f_J6_stringSize_0f7a4_L16]
  rw [if_neg (show ¬ (10 : Int32) ≤ zI k from by
    show ¬ zI 10 ≤ zI k
    rw [zI_le (by omega) (by omega) (by omega) (by omega)]; omega)]
  have e1 : (10 : Int32) * zI y = zI (10 * y) := zI_mul 10 y
  have e2 : zI k + (1 : Int32) = zI (k + 1) := zI_add k 1
  have e3 : zI k + (0 : Int32) = zI k := (zI_add k 0).trans (by rw [Int.add_zero])
  rw [e1, e2, e3]
  by_cases z : x ≤ y
  · rw [if_pos z, if_pos (show zI x ≤ zI y by rw [zI_le (by omega) (by omega) (by omega) (by omega)]; exact z)]
  · rw [if_neg z, if_neg (show ¬ zI x ≤ zI y by rw [zI_le (by omega) (by omega) (by omega) (by omega)]; exact z)]
theorem j_sz (G : gH) {x : Int} (x0 : 0 ≤ x) (x1 : x < 1000) : f_J6_stringSize_0f7a4 G (zI x) = some (zI (dg x).length) := by
  unfold f_J6_stringSize_0f7a4
  rw [if_neg (j_nn x0 (by omega)), zI_neg]
  obtain ⟨u, hu⟩ : ∃ u, g_N = u + 1 + 1 + 1 := ⟨4093, rfl⟩
  rw [hu]
  rw [show ((-10 : Int32)) = zI (-10) from rfl, show ((1 : Int32)) = zI 1 from rfl]
  rw [j_szL G (by omega) (by omega) (by omega) (by omega) (by omega) (by omega)]
  unfold dg
  by_cases c1 : x < 10
  · rw [if_neg (by omega), if_pos c1]; rfl
  · rw [if_pos (by omega), if_neg c1, j_szL G (by omega) (by omega) (by omega) (by omega) (by omega) (by omega)]
    by_cases c2 : x < 100
    · rw [if_neg (by omega), if_pos c2]; rfl
    · rw [if_pos (by omega), if_neg c2, j_szL G (by omega) (by omega) (by omega) (by omega) (by omega) (by omega), if_neg (by omega)]
      rfl
theorem j_dig {tt : Nat} {i : Int} (i0 : 0 ≤ i) (i1 : i < 100) : g_dig tt (zI i) = some (zI (48 + (if tt = 0 then i % 10 else i / 10))) := by
  unfold g_dig
  rw [if_pos (zIn (n := 100) i0 i1 (by omega)), zI_nat (by omega) (by omega), zI_ofNat]
  congr 2
  split <;> omega
/-- one number's letters, from the last on -/
theorem j_gch (h2 : G v = some (.inl (2, cap, f))) (hc : cap ≤ 1000) {x : Int} (x0 : 0 ≤ x) (x1 : x < 1000) {n : Nat} (hn : n + (dg x).length ≤ cap) : ∃ q f', f_J6_getChars_ba4f3 G (zI x) (zI (n + (dg x).length : Int)) v = some q ∧ q.1 = va_up G v (some (.inl (2, cap, f'))) ∧ jE f f' n (dg x) ∧ ∀ j, (f' j = f j ∨ (f' j).toInt8.toInt32 = f' j) := by
  unfold f_J6_getChars_ba4f3 f_J6_getChars_ba4f3_J12
  rw [if_pos (show (0 : Int32) ≤ zI x from by show zI 0 ≤ zI x; rw [zI_le (by omega) (by omega) (by omega) (by omega)]; exact x0), if_pos rfl, zI_neg]
  obtain ⟨u, hu⟩ : ∃ u, g_N = u + 1 + 1 := ⟨4094, rfl⟩
  rw [hu, f_J6_getChars_ba4f3_L22]
  have eL : ∀ k : Int, zI k + (-1 : Int32) = zI (k - 1) := fun k => by
    rw [show (-1 : Int32) = zI (-1) by decide, zI_add]
    congr 1
  have upv : ∀ (g g' : Nat → Int32), va_up (va_up G v (some (.inl (2, cap, g)))) v (some (.inl (2, cap, g'))) = va_up G v (some (.inl (2, cap, g'))) := by
    intro g g'
    funext a
    by_cases z : a = v
    · rw [z, gva_at, gva_at]
    · rw [gva_ne z, gva_ne z, gva_ne z]
  by_cases c1 : x < 10
  · have el : (dg x) = [48 + x] := by unfold dg; rw [if_pos c1]
    rw [el] at hn ⊢
    have hn1 : n + 1 ≤ cap := hn
    rw [if_pos (show (-100 : Int32) < zI (-x) from by show zI (-100) < zI (-x); rw [zI_lt (by omega) (by omega) (by omega) (by omega)]; omega), zI_neg, show - -x = x by omega, j_dig x0 (by omega), zz_some, eL, show ((n : Int) + (([48 + x] : List Int).length : Nat) - 1) = n by simp, j_ast h2 (by omega) (by omega) (by omega), zz_some, if_pos (show (-9 : Int32) ≤ zI (-x) from by show zI (-9) ≤ zI (-x); rw [zI_le (by omega) (by omega) (by omega) (by omega)]; omega)]
    unfold f_J6_getChars_ba4f3_J104
    rw [if_pos rfl, if_pos rfl, j_nar (by omega) (by omega), show ((n : Int).toNat) = n by omega, show x % 10 = x by omega]
    refine ⟨_, _, rfl, rfl, ⟨fun j hj => upd_ne (by omega), fun j hj => ?_⟩, fun j => ?_⟩
    · have : j = 0 := by simp at hj; exact hj
      subst this
      exact upd_at
    · by_cases z : j = n
      · rw [z, upd_at]; exact Or.inr (j_byt (by omega) (by omega))
      · rw [upd_ne z]; exact Or.inl rfl
  by_cases c2 : x < 100
  · have el : (dg x) = [48 + x / 10, 48 + x % 10] := by unfold dg; rw [if_neg c1, if_pos c2]
    rw [el] at hn ⊢
    have hn1 : n + 2 ≤ cap := hn
    rw [if_pos (show (-100 : Int32) < zI (-x) from by show zI (-100) < zI (-x); rw [zI_lt (by omega) (by omega) (by omega) (by omega)]; omega), zI_neg, show - -x = x by omega, j_dig x0 (by omega), zz_some, eL, eL, show ((n : Int) + (([48 + x / 10, 48 + x % 10] : List Int).length : Nat) - 1) = (n : Int) + 1 by simp; omega, j_ast h2 (by omega) (by omega) (by omega), zz_some, if_neg (show ¬ (-9 : Int32) ≤ zI (-x) from by show ¬ zI (-9) ≤ zI (-x); rw [zI_le (by omega) (by omega) (by omega) (by omega)]; omega), j_dig x0 (by omega), zz_some, show (n : Int) + 1 - 1 = n by omega, j_ast gva_at (by omega) (by omega) (by omega), zz_some]
    unfold f_J6_getChars_ba4f3_J104
    rw [if_pos rfl, if_pos rfl, if_neg (by decide), j_nar (by omega) (by omega), j_nar (by omega) (by omega), upv, show ((n : Int).toNat) = n by omega, show ((n : Int) + 1).toNat = n + 1 by omega]
    refine ⟨_, _, rfl, rfl, ⟨fun j hj => ?_, fun j hj => ?_⟩, fun j => ?_⟩
    · rw [upd_ne (by omega), upd_ne (by omega)]
    · have : j = 0 ∨ j = 1 := by simp at hj; omega
      rcases this with rfl | rfl
      · exact upd_at
      · rw [upd_ne (by omega)]; exact upd_at
    · by_cases z : j = n
      · rw [z, upd_at]; exact Or.inr (j_byt (by omega) (by omega))
      · rw [upd_ne z]
        by_cases z1 : j = n + 1
        · rw [z1, upd_at]; exact Or.inr (j_byt (by omega) (by omega))
        · rw [upd_ne z1]; exact Or.inl rfl
  · have el : (dg x) = [48 + x / 100, 48 + x / 10 % 10, 48 + x % 10] := by unfold dg; rw [if_neg c1, if_neg c2]
    rw [el] at hn ⊢
    have hn1 : n + 3 ≤ cap := hn
    have eq1 : zI (-x) / (100 : Int32) = zI (-(x / 100)) := by
      have := zI_div (a := -x) (b := 100) (by omega) (by omega) (by omega) (by omega)
      rw [show (100 : Int32) = zI 100 from rfl, this]
      congr 1
      rw [Int.neg_tdiv, Int.tdiv_eq_ediv_of_nonneg x0]
    have er : zI (-(x / 100)) * (100 : Int32) - zI (-x) = zI (x % 100) := by
      rw [show (100 : Int32) = zI 100 from rfl, zI_mul, zI_sub]
      congr 1; omega
    rw [if_neg (show ¬ (-100 : Int32) < zI (-x) from by show ¬ zI (-100) < zI (-x); rw [zI_lt (by omega) (by omega) (by omega) (by omega)]; omega), eq1, er, j_dig (by omega) (by omega), zz_some, eL, eL, show ((n : Int) + (([48 + x / 100, 48 + x / 10 % 10, 48 + x % 10] : List Int).length : Nat) - 1) = (n : Int) + 2 by simp; omega, show (n : Int) + 2 - 1 = n + 1 by omega, j_ast h2 (by omega) (by omega) (by omega), zz_some, j_dig (by omega) (by omega), zz_some, j_ast gva_at (by omega) (by omega) (by omega), zz_some, f_J6_getChars_ba4f3_L22]
    rw [if_pos (show (-100 : Int32) < zI (-(x / 100)) from by show zI (-100) < zI (-(x / 100)); rw [zI_lt (by omega) (by omega) (by omega) (by omega)]; omega), zI_neg, show - -(x / 100) = x / 100 by omega, j_dig (by omega) (by omega), zz_some, eL, show (n : Int) + 1 - 1 = n by omega, j_ast gva_at (by omega) (by omega) (by omega), zz_some, if_pos (show (-9 : Int32) ≤ zI (-(x / 100)) from by show zI (-9) ≤ zI (-(x / 100)); rw [zI_le (by omega) (by omega) (by omega) (by omega)]; omega)]
    unfold f_J6_getChars_ba4f3_J104
    rw [if_pos rfl, if_pos rfl, if_pos rfl, if_neg (by decide), j_nar (by omega) (by omega), j_nar (by omega) (by omega), j_nar (by omega) (by omega), upv, upv, show ((n : Int).toNat) = n by omega, show ((n : Int) + 1).toNat = n + 1 by omega, show ((n : Int) + 2).toNat = n + 2 by omega]
    refine ⟨_, _, rfl, rfl, ⟨fun j hj => ?_, fun j hj => ?_⟩, fun j => ?_⟩
    · rw [upd_ne (by omega), upd_ne (by omega), upd_ne (by omega)]
    · have : j = 0 ∨ j = 1 ∨ j = 2 := by simp at hj; omega
      rcases this with rfl | rfl | rfl
      · refine upd_at.trans ?_
        show zI _ = zI (48 + x / 100)
        congr 1; omega
      · rw [upd_ne (by omega)]
        refine upd_at.trans ?_
        show zI _ = zI (48 + x / 10 % 10)
        congr 1; omega
      · rw [upd_ne (by omega), upd_ne (by omega)]
        refine upd_at.trans ?_
        show zI _ = zI (48 + x % 10)
        congr 1; omega
    · by_cases z : j = n
      · rw [z, upd_at]; exact Or.inr (j_byt (by omega) (by omega))
      · rw [upd_ne z]
        by_cases z1 : j = n + 1
        · rw [z1, upd_at]; exact Or.inr (j_byt (by omega) (by omega))
        · rw [upd_ne z1]
          by_cases z2 : j = n + 2
          · rw [z2, upd_at]; exact Or.inr (j_byt (by omega) (by omega))
          · rw [upd_ne z2]; exact Or.inl rfl
theorem j_appI (h : jR G sb v cap f t) {x : Int} (x0 : 0 ≤ x) (x1 : x < 1000) (hm : t.length + 3 ≤ 400) {K : Option Nat → gH → Prop} (hK : ∀ G' v' cap' f', jX G G' sb v v' → jR G' sb v' cap' f' (t ++ dg x) → K (some sb) G') : w_J4_append_bf812 1 1000 G sb (zI x) K := by
  have hd := dg_len (v := x)
  unfold w_J4_append_bf812
  refine ⟨G, _, gd_n G, (gj_n G).symm, (), j_ob h.1, ⟨by omega, by omega⟩, ?_⟩
  unfold w_J5_append_c97b9
  refine ⟨_, j_i h.1 rfl, G, _, gd_n G, (gj_n G).symm, ⟨by omega, by omega⟩, _, j_sz G x0 x1, G, _, gd_n G, (gj_n G).symm, (), j_ob h.1, ⟨by omega, by omega⟩, ?_⟩
  rw [zI_add]
  refine j_ens h (by omega) (by omega) (fun G1 v1 cp f1 x1' r1 hc G2 _ eG => ?_)
  rw [show G2 = G1 from eG.trans (gj_n G1)]
  refine ⟨G1, _, gd_n G1, (gj_n G1).symm, (), j_ob r1.1, ⟨by omega, by omega⟩, _, j_lat r1.1, ?_⟩
  rw [if_neg (by decide)]
  have hne := r1.ne
  have hcp := r1.2.2.2.1
  obtain ⟨q, f2, g1, g2, g3, g4⟩ := j_gch r1.2.1 hcp x0 x1 (n := t.length) (by omega)
  refine ⟨v1, j_r r1.1 rfl, G1, _, gd_n G1, (gj_n G1).symm, ⟨by omega, by omega⟩, q, g1, fun G3 _ eG => ?_⟩
  rw [show G3 = _ from (eG.trans (gj_n _)).trans g2]
  have e1 : (va_up G1 v1 (some (.inl (2, cp, f2)))) sb = some (gO 15 [.ref v1, .int 0, .int 0, .int (zI t.length)]) := by rw [gva_ne hne.symm]; exact r1.1
  refine ⟨_, j_put e1 (by simp), by omega, by omega, fun G4 _ eG => ?_⟩
  rw [show G4 = _ from eG.trans (gj_n _)]
  refine ⟨sb, rfl, by omega, by omega, hK _ v1 cp f2 ⟨x1'.1, fun a a1 a2 => by rw [gva_ne a1, gva_ne a2]; exact x1'.2 a a1 a2⟩ (r1.done (by omega) g3 (fun j => ?_) (by rw [gva_at]; rfl) (by rw [gva_ne hne]; exact gva_at))⟩
  rcases g4 j with z | z
  · rw [z]; exact r1.2.2.2.2.1 j
  · exact z
end jT

/-! Appending to a growing text: a constant text, a letter, a number. -/
def tU (i : Nat) : List Int := (g_bytL.getD i []).map Int32.toInt
theorem tU_ok : ∀ i, i < 6 → (tU i).length = g_lenL.getD i 0 ∧ (g_bytL.getD i []).length = g_lenL.getD i 0 ∧ g_lenL.getD i 0 < 8 ∧ ∀ x ∈ g_bytL.getD i [], x.toInt8.toInt32 = x := by decide +kernel
theorem j_gd {l : List Int32} {j : Nat} (h : j < l.length) : l.getD j 0 = l[j] := by
  rw [List.getD_eq_getElem?_getD, List.getElem?_eq_getElem h]
  rfl
theorem tU_at {i : Nat} {j : Nat} (h : j < (tU i).length) : zI (tU i)[j] = (g_bytL.getD i []).getD j 0 := by
  unfold tU at h ⊢
  rw [List.length_map] at h
  rw [List.getElem_map, zI_of]
  exact (j_gd h).symm
section jT
variable {G : gH} {sb v cap : Nat} {f : Nat → Int32} {t : List Int}
theorem j_cdU {i : Nat} (hi : i < 6) : f_J0_coder_7d493_U G i = some 0 := by
  unfold f_J0_coder_7d493_U g_six
  rw [if_neg (by decide), if_pos hi, zz_some]
theorem j_lnU {i : Nat} (hi : i < 6) : f_J0_length_8abf5_U G i = some (zI (tU i).length) := by
  unfold f_J0_length_8abf5_U
  rw [j_cdU hi]
  unfold g_six
  rw [if_pos hi]
  simp only [zz_some, j_shr]
  rw [zI_ofNat, (tU_ok i hi).1]
/-- the letters of a constant text behind those that stand -/
theorem j_putU (h : jR G sb v cap f t) {i : Nat} (hi : i < 6) (hc : t.length + (tU i).length ≤ cap) {K : gH → Prop} (hK : ∀ f', jE f f' t.length (tU i) → (∀ j, (f' j).toInt8.toInt32 = f' j) → K (va_up G v (some (.inl (2, cap, f'))))) : w_J5_putStringAt_47b60_U 0 0 G sb (zI t.length) i K := by
  obtain ⟨h1, h2, h3, h4, h5, h6⟩ := id h
  obtain ⟨u1, u2, u3, u4⟩ := tU_ok i hi
  have hs : g_six i = some () := by unfold g_six; rw [if_pos hi]
  unfold w_J5_putStringAt_47b60_U
  refine ⟨G, _, gd_n G, (gj_n G).symm, (), j_ob h1, ⟨by omega, by omega⟩, ?_⟩
  unfold w_J5_inflateIfNeededFor_a7421_U
  rw [if_neg (by decide)]
  refine ⟨0, j_i h1 rfl, G, _, gd_n G, (gj_n G).symm, (), hs, ⟨by omega, by omega⟩, 0, j_cdU hi, ?_⟩
  rw [if_pos rfl]
  refine ⟨by omega, by omega, fun G2 _ eG => ?_⟩
  rw [show G2 = G from eG.trans (gj_n G)]
  refine ⟨v, j_r h1 rfl, 0, j_i h1 rfl, G, _, gd_n G, (gj_n G).symm, (), hs, ⟨by omega, by omega⟩, ?_⟩
  unfold w_J0_getBytes_840e7_U
  refine ⟨G, _, gd_n G, (gj_n G).symm, (), hs, ⟨by omega, by omega⟩, 0, j_cdU hi, ?_⟩
  rw [if_pos rfl]
  refine ⟨(), hs, (), hs, ?_⟩
  unfold g_cpyUW
  rw [j_shl, zI_ofNat]
  have z0 : (0 : Int32).toNatClampNeg = 0 := by decide
  have zt : (zI (t.length : Int)).toNatClampNeg = t.length := by rw [zI_nat (by omega) (by omega)]; omega
  have zl : (zI ((g_lenL.getD i 0 : Nat) : Int)).toNatClampNeg = g_lenL.getD i 0 := by rw [zI_nat (by omega) (by omega)]; omega
  rw [z0, zt, zl]
  refine ⟨cap, f, hi, h2, ⟨by decide, j_nn (by omega) (by omega), j_nn (by omega) (by omega)⟩, ⟨by omega, by omega⟩, fun g hg => ⟨by omega, by omega, fun G3 _ eG => ?_⟩⟩
  rw [show G3 = g from eG.trans (gj_n g), hg]
  refine ⟨by omega, by omega, hK _ ⟨fun j hj => ?_, fun j hj => ?_⟩ (fun j => ?_)⟩
  · unfold va_cpy; rw [if_neg (by omega)]
  · unfold va_cpy
    rw [if_pos ⟨by omega, by omega⟩, show 0 + (t.length + j - t.length) = j by omega, tU_at hj]
  · unfold va_cpy
    by_cases z : t.length ≤ j ∧ j < t.length + g_lenL.getD i 0
    · rw [if_pos z]
      refine u4 _ ?_
      show (g_bytL.getD i []).getD (0 + (j - t.length)) 0 ∈ _
      rw [j_gd (by omega : 0 + (j - t.length) < (g_bytL.getD i []).length)]
      exact List.getElem_mem _
    · rw [if_neg z]; exact h5 j
/-- what follows a change of letters and of their count -/
theorem jR.done {G' : gH} {f' : Nat → Int32} {w : List Int} (h : jR G sb v cap f t) (hc : t.length + w.length ≤ cap) (hf : jE f f' t.length w) (hb : ∀ j, (f' j).toInt8.toInt32 = f' j) (e1 : G' sb = some (gO 15 [.ref v, .int 0, .int 0, .int (zI (t.length + w.length : Int))])) (e2 : G' v = some (.inl (2, cap, f'))) : jR G' sb v cap f' (t ++ w) := by
  refine ⟨by rw [e1, List.length_append]; rfl, e2, by rw [List.length_append]; exact hc, h.2.2.2.1, hb, hf.app h.2.2.2.2.2⟩
theorem j_appU (h : jR G sb v cap f t) {i : Nat} (hi : i < 6) (hm : t.length + (tU i).length ≤ 400) {K : Option Nat → gH → Prop} (hK : ∀ G' v' cap' f', jX G G' sb v v' → jR G' sb v' cap' f' (t ++ tU i) → K (some sb) G') : w_J4_append_15ec4_U 1 1000 G sb i K := by
  unfold w_J4_append_15ec4_U
  refine ⟨G, _, gd_n G, (gj_n G).symm, (), j_ob h.1, ⟨by omega, by omega⟩, ?_⟩
  unfold w_J5_append_cf1ce_U
  have hs : g_six i = some () := by unfold g_six; rw [if_pos hi]
  refine ⟨G, _, gd_n G, (gj_n G).symm, (), hs, ⟨by omega, by omega⟩, _, j_lnU hi, _, j_i h.1 rfl, G, _, gd_n G, (gj_n G).symm, (), j_ob h.1, ⟨by omega, by omega⟩, ?_⟩
  rw [zI_add]
  refine j_ens h (by omega) (by omega) (fun G1 v1 c1 f1 x1 r1 hc G2 _ eG => ?_)
  rw [show G2 = G1 from eG.trans (gj_n G1)]
  refine ⟨_, j_i r1.1 rfl, G1, _, gd_n G1, (gj_n G1).symm, (), j_ob r1.1, ⟨by omega, by omega⟩, ?_⟩
  refine j_putU r1 hi (by omega) (fun f2 b1 b2 G3 _ eG => ?_)
  rw [show G3 = _ from eG.trans (gj_n _)]
  have hne := r1.ne
  have e1 : (va_up G1 v1 (some (.inl (2, c1, f2)))) sb = some (gO 15 [.ref v1, .int 0, .int 0, .int (zI t.length)]) := by rw [gva_ne hne.symm]; exact r1.1
  refine ⟨_, j_i e1 rfl, _, j_put e1 (by simp), by omega, by omega, fun G4 _ eG => ?_⟩
  rw [show G4 = _ from eG.trans (gj_n _)]
  refine ⟨sb, rfl, by omega, by omega, hK _ v1 c1 f2 ⟨x1.1, fun a a1 a2 => by rw [gva_ne a1, gva_ne a2]; exact x1.2 a a1 a2⟩ (r1.done (by omega) b1 b2 (by rw [gva_at, zI_add]; rfl) (by rw [gva_ne hne]; exact gva_at))⟩
theorem j_byt {c : Int} (c0 : 0 ≤ c) (c1 : c < 128) : (zI c).toInt8.toInt32 = zI c := by
  have : ∀ n : Nat, n < 128 → (zI (n : Int)).toInt8.toInt32 = zI (n : Int) := by decide +kernel
  have := this c.toNat (by omega)
  rwa [show ((c.toNat : Nat) : Int) = c by omega] at this
theorem j_nar {c : Int} (c0 : 0 ≤ c) (c1 : c < 128) : g_nar 2 (zI c) = zI c := by
  show vp_nar .byte (zI c) = zI c
  rw [vp_nar_byte, j_byt c0 c1]
theorem upd_at {g : Nat → Int32} {k : Nat} {x : Int32} : upd g k x k = x := pk_us
theorem upd_ne {g : Nat → Int32} {k j : Nat} {x : Int32} (h : j ≠ k) : upd g k x j = g j := pk_un h
theorem j_appC (h : jR G sb v cap f t) {c : Int} (c0 : 0 ≤ c) (c1 : c < 128) (hm : t.length + 1 ≤ 400) {K : Option Nat → gH → Prop} (hK : ∀ G' v' cap' f', jX G G' sb v v' → jR G' sb v' cap' f' (t ++ [c]) → K (some sb) G') : w_J4_append_cf468 1 1000 G sb (zI c) K := by
  unfold w_J4_append_cf468
  refine ⟨G, _, gd_n G, (gj_n G).symm, (), j_ob h.1, ⟨by omega, by omega⟩, ?_⟩
  unfold w_J5_append_3fe6f
  refine ⟨_, j_i h.1 rfl, G, _, gd_n G, (gj_n G).symm, (), j_ob h.1, ⟨by omega, by omega⟩, ?_⟩
  rw [show zI (t.length : Int) + (1 : Int32) = zI (t.length + 1) from zI_add _ 1]
  refine j_ens h (by omega) (by omega) (fun G1 v1 cp f1 x1 r1 hc G2 _ eG => ?_)
  rw [show G2 = G1 from eG.trans (gj_n G1)]
  refine ⟨G1, _, gd_n G1, (gj_n G1).symm, (), j_ob r1.1, ⟨by omega, by omega⟩, _, j_lat r1.1, ?_⟩
  rw [if_neg (by decide)]
  refine ⟨G1, _, gd_n G1, (gj_n G1).symm, ⟨by omega, by omega⟩, 1, ?_, ?_⟩
  · unfold f_J1_canEncode_fc78d
    rw [if_neg (show ¬ (255 : Int32) < zI c from by
      show ¬ zI 255 < zI c
      rw [zI_lt (by omega) (by omega) (by omega) (by omega)]; omega)]
  rw [if_neg (by decide)]
  have hne := r1.ne
  have hcp := r1.2.2.2.1
  refine ⟨v1, j_r r1.1 rfl, _, j_i r1.1 rfl, _, j_put r1.1 (by simp), ?_⟩
  have e1 : (va_up G1 sb (some (gO 15 ([Value.ref v1, .int 0, .int 0, .int (zI t.length)].set 3 (.int (zI t.length + (1 : Int32))))))) v1 = some (.inl (2, cp, f1)) := by rw [gva_ne hne]; exact r1.2.1
  refine ⟨_, j_ast e1 (by omega) (by omega) (by omega), by omega, by omega, fun G4 _ eG => ?_⟩
  rw [show G4 = _ from eG.trans (gj_n _), j_byt c0 c1, j_nar c0 c1, show ((t.length : Int).toNat) = t.length by omega]
  refine ⟨sb, rfl, by omega, by omega, hK _ v1 cp _ ⟨x1.1, fun a a1 a2 => by rw [gva_ne a2, gva_ne a1]; exact x1.2 a a1 a2⟩ (r1.done (f' := upd f1 t.length (zI c)) (by simp; omega) ⟨fun j hj => upd_ne (by omega), fun j hj => ?_⟩ (fun j => ?_) (by rw [gva_ne hne.symm, gva_at]; show some (gO 15 [.ref v1, .int 0, .int 0, .int (zI t.length + (1 : Int32))]) = _; rw [show zI (t.length : Int) + (1 : Int32) = zI (t.length + 1) from zI_add _ 1]; rfl) gva_at)⟩
  · have : j = 0 := by simp at hj; exact hj
    subst this
    exact upd_at
  · by_cases z : j = t.length
    · rw [z, upd_at]; exact j_byt c0 c1
    · rw [upd_ne z]; exact r1.2.2.2.2.1 j
end jT

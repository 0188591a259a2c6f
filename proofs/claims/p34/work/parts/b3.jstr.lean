/-! Texts that were made, and a growing text begun from one. -/
def jStr (G : gH) (s w : Nat) (g : Nat → Int32) (t : List Int) : Prop := G s = some (gO 14 [.ref w, .int 0, .int 0, .int 0]) ∧ G w = some (.inl (2, t.length, g)) ∧ t.length ≤ 1000 ∧ (∀ j, (g j).toInt8.toInt32 = g j) ∧ ∀ (i : Nat) (h : i < t.length), g i = zI t[i]
section jT
variable {G : gH} {sb v cap : Nat} {f : Nat → Int32} {t : List Int}
theorem j_clW {K : Nat → Nat → gH → Prop} (h2 : G v = some (.inl (2, cap, f))) (hc : cap ≤ 1000) (hb : ∀ j, (f j).toInt8.toInt32 = f j) (hK : ∀ q G', G q = none → G' = va_up G q (some (.inl (2, cap, f))) → K cap q G') : g_clnW 1 1000 G v 0 0 K :=
  ⟨cap, f, h2, ⟨by omega, by omega⟩, fun j _ => hb j, fun q hq g hg => hK q g hq hg⟩
theorem j_isb {a n : Nat} {g : Nat → Int32} (h : G a = some (.inl (2, n, g))) : g_isb G a = some () := by
  unfold g_isb
  rw [h]
  rfl
theorem j_cpr {K : Option Nat → gH → Prop} (h2 : G v = some (.inl (2, cap, f))) (hc : cap ≤ 1000) (hb : ∀ j, (f j).toInt8.toInt32 = f j) {n : Nat} (hn : n ≤ cap) (hK : ∀ q G' g, G q = none → G' q = some (.inl (2, n, g)) → (∀ j, j < n → g j = f j) → (∀ j, (g j).toInt8.toInt32 = g j) → (∀ a, a ≠ q → G' a = G a) → K (some q) G') : w_J7_copyOfRange_39247 1 1000 G v (0 : Int32) (zI n) K := by
  unfold w_J7_copyOfRange_39247
  rw [if_pos rfl]
  refine ⟨_, j_len h2, ?_⟩
  by_cases z : n = cap
  · rw [if_pos (by rw [z])]
    refine j_clW h2 hc hb (fun q G' hq hG => ⟨(), j_isb (n := cap) (g := f) (by rw [hG]; exact gva_at), by omega, by omega, hK q G' f hq (by rw [hG, z]; exact gva_at) (fun _ _ => rfl) hb (fun a ha => by rw [hG, gva_ne ha])⟩)
  · rw [if_neg (show ¬ zI (n : Int) = zI (cap : Int) by rw [zI_eq (by omega) (by omega) (by omega) (by omega)]; omega)]
    refine ⟨G, _, gd_n G, (gj_n G).symm, ⟨by omega, by omega⟩, ?_⟩
    unfold w_J7_copyOfRangeByte_39247
    have e0 : zI (n : Int) - (0 : Int32) = zI n := (zI_sub n 0).trans (by rw [Int.sub_zero])
    have ec : zI (cap : Int) - (0 : Int32) = zI cap := (zI_sub cap 0).trans (by rw [Int.sub_zero])
    have hz : (zI (n : Int)).toNatClampNeg = n := by rw [zI_nat (by omega) (by omega)]; omega
    have z0 : (0 : Int32).toNatClampNeg = 0 := by decide
    refine ⟨G, _, gd_n G, (gj_n G).symm, ⟨by omega, by omega⟩, (), ?_, ?_⟩
    · unfold f_J7_checkLength_df160
      rw [if_pos (show (0 : Int32) ≤ zI n from by show zI 0 ≤ zI n; rw [zI_le (by omega) (by omega) (by omega) (by omega)]; omega)]
    rw [e0]
    unfold g_newbW
    rw [hz]
    refine ⟨⟨j_nn (by omega) (by omega), by omega⟩, ⟨by omega, by omega⟩, fun q hq g hg => ?_⟩
    have hv : g v = some (.inl (2, cap, f)) := by rw [hg, gva_ne (j_ne h2 hq)]; exact h2
    refine ⟨_, j_len hv, ⟨by omega, by omega⟩, ?_⟩
    rw [ec, if_pos (show zI (n : Int) < zI (cap : Int) by rw [zI_lt (by omega) (by omega) (by omega) (by omega)]; omega)]
    unfold g_cpyW
    rw [z0, hz]
    refine ⟨cap, f, n, fun _ => 0, hv, by rw [hg]; exact gva_at, ⟨by decide, by decide, j_nn (by omega) (by omega)⟩, ⟨by omega, by omega⟩, fun i _ => hb _, fun g' hg' => ⟨by omega, by omega, fun G3 _ eG => ?_⟩⟩
    rw [show G3 = g' from eG.trans (gj_n g')]
    refine ⟨q, rfl, by omega, by omega, hK q g' _ hq (by rw [hg']; exact gva_at) (fun j hj => ?_) (fun j => ?_) (fun a ha => by rw [hg', gva_ne ha, hg, gva_ne ha])⟩
    · unfold va_cpy; rw [if_pos ⟨by omega, by omega⟩, show 0 + (j - 0) = j by omega]
    · unfold va_cpy
      split
      · exact hb _
      · exact j_z
theorem j_lenW {x : Int32} (h : G sb = some (gO 15 [.ref v, .int 0, .int 0, .int x])) {K : Int32 → gH → Prop} (hK : K x G) : w_J4_length_8abf5 0 0 G sb K := by
  unfold w_J4_length_8abf5
  refine ⟨G, _, gd_n G, (gj_n G).symm, (), j_ob h, ⟨by omega, by omega⟩, x, ?_, by omega, by omega, hK⟩
  unfold f_J5_length_8abf5
  rw [j_i (k := 3) (x := x) h rfl, zz_some]
/-- the text as it stands -/
theorem j_toS (h : jR G sb v cap f t) {K : Option Nat → gH → Prop} (hK : ∀ G' s w g, G s = none → G w = none → s ≠ w → jStr G' s w g t → (∀ a, a ≠ s → a ≠ w → G' a = G a) → K (some s) G') : w_J4_toString_0e30d 2 1004 G sb K := by
  obtain ⟨h1, h2, h3, h4, h5, h6⟩ := id h
  unfold w_J4_toString_0e30d
  refine ⟨⟨by omega, by omega⟩, fun s hs g0 hg0 => ?_⟩
  have k1 : g0 sb = some (gO 15 [.ref v, .int 0, .int 0, .int (zI t.length)]) := by rw [hg0, gva_ne (j_ne h1 hs)]; exact h1
  have k2 : g0 v = some (.inl (2, cap, f)) := by rw [hg0, gva_ne (j_ne h2 hs)]; exact h2
  have k0 : g0 s = some (gO 14 [.null, .int 0, .int 0, .int 0]) := by rw [hg0]; exact gva_at
  refine ⟨g0, _, gd_n g0, (gj_n g0).symm, ⟨by omega, by omega⟩, ?_⟩
  unfold w_J0_init_81219_A
  refine ⟨g0, _, gd_n g0, (gj_n g0).symm, ⟨by omega, by omega⟩, ?_⟩
  unfold w_J0_init_db425_A
  refine ⟨g0, _, gd_n g0, (gj_n g0).symm, (), j_ob k1, ⟨by omega, by omega⟩, ?_⟩
  unfold w_J5_getValue_6d5f1
  refine ⟨v, j_r k1 rfl, by omega, by omega, fun G5 _ eG => ?_⟩
  rw [show G5 = g0 from eG.trans (gj_n g0)]
  refine ⟨v, rfl, g0, _, gd_n g0, (gj_n g0).symm, (), j_ob k1, ⟨by omega, by omega⟩, j_lenW k1 (fun G6 _ eG => ?_)⟩
  rw [show G6 = g0 from eG.trans (gj_n g0)]
  refine ⟨g0, _, gd_n g0, (gj_n g0).symm, (), j_ob k1, ⟨by omega, by omega⟩, _, j_lat k1, ?_⟩
  rw [if_neg (by decide)]
  refine ⟨_, j_put k0 (by simp), _, _, gd_n _, (gj_n _).symm, ⟨by omega, by omega⟩, ?_⟩
  have k3 : (va_up g0 s (some (gO 14 ([Value.null, .int 0, .int 0, .int 0].set 1 (.int (0 : Int32)))))) v = some (.inl (2, cap, f)) := by rw [gva_ne (j_ne h2 hs)]; exact k2
  refine j_cpr k3 h4 h5 h3 (fun q G' g hq p1 p2 p3 p4 G7 _ eG => ?_)
  rw [show G7 = G' from eG.trans (gj_n G')]
  have hsq : s ≠ q := fun z => by rw [← z, gva_at] at hq; cases hq
  have k4 : G' s = some (gO 14 [.null, .int 0, .int 0, .int 0]) := by rw [p4 s hsq, gva_at]; rfl
  refine ⟨q, rfl, _, j_put k4 (by simp), by omega, by omega, fun G8 _ eG => ?_⟩
  rw [show G8 = _ from eG.trans (gj_n _)]
  refine ⟨by omega, by omega, fun G9 _ eG => ?_⟩
  rw [show G9 = _ from eG.trans (gj_n _)]
  refine ⟨by omega, by omega, hK _ s q g hs ?_ hsq ⟨gva_at, by rw [gva_ne hsq.symm]; exact p1, by omega, p3, fun i hi => ?_⟩ (fun a a1 a2 => ?_)⟩
  · rw [gva_ne hsq.symm, hg0, gva_ne hsq.symm] at hq; exact hq
  · rw [p2 i hi]; exact h6 i hi
  · rw [gva_ne a1, p4 a a2, gva_ne a1, hg0, gva_ne a1]
section str
variable {s w : Nat} {g : Nat → Int32} {r : List Int}
theorem j_cdA (h : jStr G s w g r) : f_J0_coder_7d493_A G s = some 0 := by
  unfold f_J0_coder_7d493_A
  rw [if_neg (by decide), j_i (k := 1) (x := 0) h.1 rfl, zz_some]
  decide
theorem j_lnA (h : jStr G s w g r) : f_J0_length_8abf5_A G s = some (zI r.length) := by
  unfold f_J0_length_8abf5_A
  rw [j_r (k := 0) (x := w) h.1 rfl, zz_some, j_len h.2.1, zz_some, j_ob h.1, zz_some, j_cdA h, zz_some, j_shr]
theorem j_chr {c : Int} (c0 : 0 ≤ c) (c1 : c < 128) : g_c (((zI c &&& (255 : Int32)).toUInt32 % 65536).toInt32) = some (zI c) ∧ g_c (zI c) = some (zI c) := by
  have : ∀ n : Nat, n < 128 → g_c (((zI (n : Int) &&& (255 : Int32)).toUInt32 % 65536).toInt32) = some (zI (n : Int)) ∧ g_c (zI (n : Int)) = some (zI (n : Int)) := by decide +kernel
  have := this c.toNat (by omega)
  rwa [show ((c.toNat : Nat) : Int) = c by omega] at this
theorem j_chA (h : jStr G s w g r) {i : Nat} (hi : i < r.length) (c0 : 0 ≤ r[i]) (c1 : r[i] < 128) : f_J0_charAt_5068e_A G s (zI i) = some (zI r[i]) := by
  have hl := h.2.2.1
  have e1 : f_J0_isLatin1_aae02_A G s = some 1 := by
    unfold f_J0_isLatin1_aae02_A
    rw [if_neg (by decide), j_i (k := 1) (x := 0) h.1 rfl, zz_some, if_pos rfl]
  have e2 : f_J1_charAt_3b067 G w (zI i) = some (zI r[i]) := by
    unfold f_J1_charAt_3b067
    rw [j_len h.2.1, zz_some]
    have e3 : f_J0_checkIndex_df160 G (zI i) (zI r.length) = some () := by
      unfold f_J0_checkIndex_df160
      rw [if_pos ⟨j_nn (by omega) (by omega), by rw [zI_lt (by omega) (by omega) (by omega) (by omega)]; omega⟩]
    have e4 : g_ald 2 G w (zI i) = some (zI r[i]) := by
      unfold g_ald
      rw [h.2.1]
      simp only []
      rw [if_pos ⟨by first | rfl | trivial, zIn (by omega) (by omega) (by omega)⟩, zI_nat (by omega) (by omega), show ((i : Int).toNat) = i by omega, h.2.2.2.2 i hi]
    rw [e3, zz_some, e4, zz_some]
    exact (j_chr c0 c1).1
  unfold f_J0_charAt_5068e_A
  rw [j_ob h.1, zz_some, e1, zz_some, if_neg (by decide), j_r (k := 0) (x := w) h.1 rfl, zz_some, e2, zz_some]
  exact (j_chr c0 c1).2
theorem jStr.keep {G' : gH} (h : jStr G s w g r) (h1 : G' s = G s) (h2 : G' w = G w) : jStr G' s w g r := ⟨h1.trans h.1, h2.trans h.2.1, h.2.2⟩
/-- a made text behind the letters that stand -/
theorem j_appA (h : jR G sb v cap f t) (hs : jStr G s w g r) (hw : w ≠ v) (hm : t.length + r.length ≤ 400) {K : Option Nat → gH → Prop} (hK : ∀ G' v' cap' f', jX G G' sb v v' → jR G' sb v' cap' f' (t ++ r) → K (some sb) G') : w_J4_append_cf1ce_A 1 1000 G sb s K := by
  have hrl := hs.2.2.1
  unfold w_J4_append_cf1ce_A
  refine ⟨G, _, gd_n G, (gj_n G).symm, (), j_ob h.1, ⟨by omega, by omega⟩, ?_⟩
  unfold w_J4_append_15ec4_A
  refine ⟨G, _, gd_n G, (gj_n G).symm, (), j_ob h.1, ⟨by omega, by omega⟩, ?_⟩
  unfold w_J5_append_cf1ce_A
  refine ⟨G, _, gd_n G, (gj_n G).symm, (), j_ob hs.1, ⟨by omega, by omega⟩, _, j_lnA hs, _, j_i h.1 rfl, G, _, gd_n G, (gj_n G).symm, (), j_ob h.1, ⟨by omega, by omega⟩, ?_⟩
  rw [zI_add]
  refine j_ens h (by omega) (by omega) (fun G1 v1 c1 f1 x1 r1 hc G2 _ eG => ?_)
  rw [show G2 = G1 from eG.trans (gj_n G1)]
  have s1 : s ≠ sb := fun z => by have a := hs.1; rw [z, h.1] at a; cases a
  have s2 : w ≠ sb := fun z => by have a := hs.2.1; rw [z, h.1] at a; cases a
  have s3 : s ≠ v1 := by
    rcases x1.1 with z | z
    · rw [z]; intro y; have a := hs.1; rw [y, h.2.1] at a; cases a
    · exact j_ne hs.1 z
  have s4 : w ≠ v1 := by
    rcases x1.1 with z | z
    · rw [z]; exact hw
    · exact j_ne hs.2.1 z
  have hs1 : jStr G1 s w g r := hs.keep (x1.2 s s1 s3) (x1.2 w s2 s4)
  refine ⟨_, j_i r1.1 rfl, G1, _, gd_n G1, (gj_n G1).symm, (), j_ob r1.1, ⟨by omega, by omega⟩, ?_⟩
  unfold w_J5_putStringAt_47b60_A
  refine ⟨G1, _, gd_n G1, (gj_n G1).symm, (), j_ob r1.1, ⟨by omega, by omega⟩, ?_⟩
  unfold w_J5_inflateIfNeededFor_a7421_A
  rw [if_neg (by decide)]
  refine ⟨0, j_i r1.1 rfl, G1, _, gd_n G1, (gj_n G1).symm, (), j_ob hs1.1, ⟨by omega, by omega⟩, 0, j_cdA hs1, ?_⟩
  rw [if_pos rfl]
  refine ⟨by omega, by omega, fun G3 _ eG => ?_⟩
  rw [show G3 = G1 from eG.trans (gj_n G1)]
  refine ⟨v1, j_r r1.1 rfl, 0, j_i r1.1 rfl, G1, _, gd_n G1, (gj_n G1).symm, (), j_ob hs1.1, ⟨by omega, by omega⟩, ?_⟩
  unfold w_J0_getBytes_840e7_A
  refine ⟨G1, _, gd_n G1, (gj_n G1).symm, (), j_ob hs1.1, ⟨by omega, by omega⟩, 0, j_cdA hs1, ?_⟩
  rw [if_pos rfl]
  refine ⟨w, j_r hs1.1 rfl, w, j_r hs1.1 rfl, _, j_len hs1.2.1, ?_⟩
  unfold g_cpyW
  rw [j_shl]
  have z0 : (0 : Int32).toNatClampNeg = 0 := by decide
  have zt : (zI (t.length : Int)).toNatClampNeg = t.length := by rw [zI_nat (by omega) (by omega)]; omega
  have zl : (zI (r.length : Int)).toNatClampNeg = r.length := by rw [zI_nat (by omega) (by omega)]; omega
  rw [z0, zt, zl]
  have hcp := r1.2.2.2.1
  refine ⟨r.length, g, c1, f1, hs1.2.1, r1.2.1, ⟨by decide, j_nn (by omega) (by omega), j_nn (by omega) (by omega)⟩, ⟨by omega, by omega⟩, fun i _ => hs.2.2.2.1 _, fun g9 hg9 => ⟨by omega, by omega, fun G4 _ eG => ?_⟩⟩
  rw [show G4 = g9 from eG.trans (gj_n g9)]
  refine ⟨by omega, by omega, fun G5 _ eG => ?_⟩
  rw [show G5 = g9 from eG.trans (gj_n g9)]
  have hne := r1.ne
  have e1 : g9 sb = some (gO 15 [.ref v1, .int 0, .int 0, .int (zI t.length)]) := by rw [hg9, gva_ne hne.symm]; exact r1.1
  refine ⟨_, j_i e1 rfl, _, j_put e1 (by simp), by omega, by omega, fun G6 _ eG => ?_⟩
  rw [show G6 = _ from eG.trans (gj_n _)]
  refine ⟨sb, rfl, by omega, by omega, fun G7 _ eG => ?_⟩
  rw [show G7 = _ from eG.trans (gj_n _)]
  refine ⟨sb, rfl, by omega, by omega, hK _ v1 c1 _ ⟨x1.1, fun a a1 a2 => by rw [gva_ne a1, hg9, gva_ne a2]; exact x1.2 a a1 a2⟩ (r1.done (f' := va_cpy g f1 0 t.length r.length) (by omega) ⟨fun j hj => ?_, fun j hj => ?_⟩ (fun j => ?_) (by rw [gva_at, zI_add]; rfl) (by rw [gva_ne hne, hg9]; exact gva_at))⟩
  · unfold va_cpy; rw [if_neg (by omega)]
  · unfold va_cpy
    rw [if_pos ⟨by omega, by omega⟩, show 0 + (t.length + j - t.length) = j by omega, hs.2.2.2.2 j hj]
  · unfold va_cpy
    split
    · exact hs.2.2.2.1 _
    · exact r1.2.2.2.2.1 j
end str
/-- begun empty -/
theorem j_init0 (h : G sb = some (gO 15 [.null, .int 0, .int 0, .int 0])) {K : gH → Prop} (hK : ∀ G' v cap f, G v = none → jR G' sb v cap f [] → (∀ a, a ≠ sb → a ≠ v → G' a = G a) → K G') : w_J4_init_da8c8 1 16 G sb K := by
  unfold w_J4_init_da8c8
  refine ⟨G, _, gd_n G, (gj_n G).symm, ⟨by omega, by omega⟩, ?_⟩
  unfold w_J5_init_d00df
  rw [if_neg (by decide)]
  unfold g_newbW
  have hz : (16 : Int32).toNatClampNeg = 16 := by decide
  rw [hz]
  refine ⟨⟨by decide, by omega⟩, ⟨by omega, by omega⟩, fun q hq g hg => ?_⟩
  have hsb : sb ≠ q := j_ne h hq
  have k1 : g sb = some (gO 15 [.null, .int 0, .int 0, .int 0]) := by rw [hg, gva_ne hsb]; exact h
  refine ⟨_, j_put k1 (by simp), _, j_put (fs := [.ref q, .int 0, .int 0, .int 0]) gva_at (by simp), by omega, by omega, fun G3 _ eG => ?_⟩
  rw [show G3 = _ from eG.trans (gj_n _)]
  refine ⟨by omega, by omega, hK _ q 16 (fun _ => 0) hq ⟨gva_at, by rw [gva_ne hsb.symm, gva_ne hsb.symm, hg]; exact gva_at, by simp, by omega, fun _ => j_z, fun i hi => absurd hi (by simp)⟩ (fun a a1 a2 => by rw [gva_ne a1, gva_ne a1, hg, gva_ne a2])⟩
/-- begun from a text -/
theorem j_initS (h : G sb = some (gO 15 [.null, .int 0, .int 0, .int 0])) {s w : Nat} {g : Nat → Int32} {r : List Int} (hs : jStr G s w g r) (hr : r.length ≤ 300) {K : gH → Prop} (hK : ∀ G' v cap f, G v = none → jR G' sb v cap f r → (∀ a, a ≠ sb → G a ≠ none → G' a = G a) → K G') : w_J4_init_a7421_A 2 2000 G sb s K := by
  unfold w_J4_init_a7421_A
  refine ⟨G, _, gd_n G, (gj_n G).symm, ⟨by omega, by omega⟩, ?_⟩
  unfold w_J5_init_a7421_A
  refine ⟨G, _, gd_n G, (gj_n G).symm, (), j_ob hs.1, ⟨by omega, by omega⟩, _, j_lnA hs, ?_⟩
  rw [if_neg (show ¬ (2147483631 : Int32) ≤ zI (r.length : Int) from by
    show ¬ zI 2147483631 ≤ zI (r.length : Int)
    rw [zI_le (by omega) (by omega) (by omega) (by omega)]; omega)]
  unfold w_J5_init_a7421_A_J24
  refine ⟨G, _, gd_n G, (gj_n G).symm, (), j_ob hs.1, ⟨by omega, by omega⟩, 0, j_cdA hs, 0, by decide, _, j_put h (by simp), ?_⟩
  rw [if_pos rfl]
  unfold g_newbW
  rw [show zI (r.length : Int) + (16 : Int32) = zI (r.length + 16) from zI_add _ 16]
  have hz : (zI ((r.length : Int) + 16)).toNatClampNeg = r.length + 16 := by rw [zI_nat (by omega) (by omega)]; omega
  rw [hz]
  refine ⟨⟨j_nn (by omega) (by omega), by omega⟩, ⟨by omega, by omega⟩, fun q hq g1 hg1 => ?_⟩
  have hsb : sb ≠ q := fun z => by rw [← z, gva_at] at hq; cases hq
  have hq0 : G q = none := by rw [gva_ne hsb.symm] at hq; exact hq
  have k1 : g1 sb = some (gO 15 [.null, .int 0, .int 0, .int 0]) := by rw [hg1, gva_ne hsb, gva_at]; rfl
  refine ⟨_, j_put k1 (by simp), _, _, gd_n _, (gj_n _).symm, (), j_ob gva_at, ⟨by omega, by omega⟩, ?_⟩
  have r1 : jR (va_up g1 sb (some (gO 15 ([Value.null, .int 0, .int 0, .int 0].set 0 (.ref q))))) sb q (r.length + 16) (fun _ => 0) [] := ⟨gva_at, by rw [gva_ne hsb.symm, hg1]; exact gva_at, by simp, by omega, fun _ => j_z, fun i hi => absurd hi (by simp)⟩
  have s1 : s ≠ sb := fun z => by have a := hs.1; rw [z, h] at a; cases a
  have s2 : w ≠ sb := fun z => by have a := hs.2.1; rw [z, h] at a; cases a
  have s3 : s ≠ q := j_ne hs.1 hq0
  have s4 : w ≠ q := j_ne hs.2.1 hq0
  have hs1 : jStr (va_up g1 sb (some (gO 15 ([Value.null, .int 0, .int 0, .int 0].set 0 (.ref q))))) s w g r := hs.keep (by rw [gva_ne s1, hg1, gva_ne s3, gva_ne s1]) (by rw [gva_ne s2, hg1, gva_ne s4, gva_ne s2])
  refine j_appA r1 hs1 s4 (by simp; omega) (fun G5 v5 c5 f5 x5 r5 G6 _ eG => ?_)
  rw [show G6 = G5 from eG.trans (gj_n G5)]
  refine ⟨sb, rfl, by omega, by omega, fun G7 _ eG => ?_⟩
  rw [show G7 = G5 from eG.trans (gj_n G5)]
  have hv5 : G v5 = none ∧ v5 ≠ sb := by
    rcases x5.1 with z | z
    · rw [z]; exact ⟨hq0, hsb.symm⟩
    · have n1 : v5 ≠ sb := fun y => by rw [y, gva_at] at z; cases z
      have n2 : v5 ≠ q := fun y => by rw [y, gva_ne hsb.symm, hg1, gva_at] at z; cases z
      rw [gva_ne n1, hg1, gva_ne n2, gva_ne n1] at z
      exact ⟨z, n1⟩
  refine ⟨by omega, by omega, hK G5 v5 c5 f5 hv5.1 (by rw [List.nil_append] at r5; exact r5) (fun a a1 a2 => ?_)⟩
  have n1 : a ≠ v5 := fun z => a2 (by rw [z]; exact hv5.1)
  have n2 : a ≠ q := fun z => a2 (by rw [z]; exact hq0)
  rw [x5.2 a a1 n1, gva_ne a1, hg1, gva_ne n2, gva_ne a1]
end jT

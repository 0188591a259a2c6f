/-! Lifted methods, by program (wip/whole/tools/lift.py). -/
def f_X5_enter_J55 (G : gH) (ba0 : Nat) (bx1 : Int32) (bx2 : Int32) (bx3 : Int32) : Option gH :=
    (g_r G ba0 5 5).bind fun v56 =>
    (f_X9_put G v56 bx3 bx1).bind fun G61 =>
    (g_r G61 ba0 5 6).bind fun v65 =>
    (f_X9_put G61 v65 bx3 bx2).bind fun G70 =>
    some G70
def f_X5_enter (G : gH) (a0 : Nat) (x1 : Int32) (x2 : Int32) : Option gH :=
    (g_ob G a0 5).bind fun u2 =>
    (f_X5_latest G a0).bind fun v2 =>
    (g_ob G a0 5).bind fun u6 =>
    (f_X5_slotOfFile G a0 v2 x1).bind fun v6 =>
    if v6 = (-1 : Int32) then
    (g_r G a0 5 4).bind fun v16 =>
    (g_ob G a0 5).bind fun u20 =>
    (f_X5_latest G a0).bind fun v20 =>
    (g_ob G a0 5).bind fun u25 =>
    (f_X5_latest G a0).bind fun v25 =>
    (g_ob G a0 5).bind fun u28 =>
    (f_X5_entriesOf G a0 v25).bind fun v28 =>
    (f_X9_put G v16 v20 (v28 + (1 : Int32))).bind fun G33 =>
    (g_ob G33 a0 5).bind fun u38 =>
    (f_X5_latest G33 a0).bind fun v38 =>
    (g_ob G33 a0 5).bind fun u43 =>
    (f_X5_latest G33 a0).bind fun v43 =>
    (g_ob G33 a0 5).bind fun u46 =>
    (f_X5_entriesOf G33 a0 v43).bind fun v46 =>
    (g_ob G33 a0 5).bind fun u51 =>
    (f_X5_slotAt G33 a0 v38 (v46 - (1 : Int32))).bind fun v51 =>
    f_X5_enter_J55 G33 a0 x1 x2 v51
    else
    f_X5_enter_J55 G a0 x1 x2 v6
set_option maxRecDepth 20000 in
set_option maxHeartbeats 4000000 in
theorem m_X5_enter (l : Launch) (dd : va_G) (cT : Nat → ClassId) (lo : Nat) (G : gH) (a0 : Nat) (x1 : Int32) (x2 : Int32) {Gz : gH} (h : f_X5_enter G a0 x1 x2 = some Gz) : Met l yX5_enter (Cond.code yX5_enter cX5_enter 4 none :: wsL_law) (g_rm 4 88 0 0) (va_Pc [.ref a0, .int x1, .int x2] (g_Pre lo dd cT G)) (va_Qv (g_iv Gz) (g_Pre lo dd cT) (g_A lo)) 0 0 (g_A lo) := by
  refine g_start RX5 rfl (by decide) (Nat.le_of_ble_eq_true rfl) ?_
  intro p e s m below meth c hx hb hr hlocks hml hown hnm hts hK hG hlo ls hl
  have hl : lv_has ls 4 [(0, .ref a0), (1, .int x1), (2, .int x2)] := hl
  have hG : g_S lo dd cT s s.heap [] G := hG
  have h55 : ∀ (G : gH) (ba0 : Nat) (bx1 : Int32) (bx2 : Int32) (bx3 : Int32), ∀ (H : Heap) (locs : List Loc), g_S lo dd cT s H locs G → ∀ ls : Array Slot, lv_has ls 4 [(0, .ref ba0), (1, .int bx1), (2, .int bx2), (3, .int bx3)] → f_X5_enter_J55 G ba0 bx1 bx2 bx3 = some Gz → W p l e (g_rm 4 88 0 0) s m ([.ref a0, .int x1, .int x2] : List Value).toArray below meth c H locs 0 0 (MQ below (va_Qv (g_iv Gz) (g_Pre lo dd cT) (g_A lo)) ([.ref a0, .int x1, .int x2] : List Value).toArray s 0 0 (g_A lo)) (F0 m 55 ls []) := by
    intro G ba0 bx1 bx2 bx3 H locs hG ls hl h
    unfold f_X5_enter_J55 at h
    refine lv_aload_n hx hb dX5_enter_55 rfl (lv_at hl 0 rfl) ?_
    obtain ⟨v56, e56, h⟩ := Option.bind_eq_some_iff.mp h
    refine g_getr hx hb hts inlX5 hown hK hG (by rfl) 5 (by decide) qF_X5_28 e56 dX5_enter_56 ?_
    refine lv_iload_n hx hb dX5_enter_59 rfl (lv_at hl 3 rfl) ?_
    refine lv_iload_n hx hb dX5_enter_60 rfl (lv_at hl 1 rfl) ?_
    obtain ⟨G61, e61, h⟩ := Option.bind_eq_some_iff.mp h
    refine g_cNv (As := [.ref v56, .int bx3, .int bx1]) (rest := []) (n := 3) hx hb hml hown hts hK hlo hG (m_X9_put l dd cT lo G v56 bx3 bx1 e61) (List.mem_of_getElem? (i := 30) rfl) qT_yX9_put qN_X9 qC_yX9_put (by decide +kernel) ⟨Nat.le_of_ble_eq_true rfl, Nat.le_of_ble_eq_true rfl⟩ rfl hl.1 rfl (Nat.le_of_ble_eq_true rfl) dX5_enter_61 ⟨Nat.le_of_ble_eq_true rfl, Nat.le_of_ble_eq_true rfl⟩ (fun H locs hG => ?_)
    refine lv_aload_n hx hb dX5_enter_64 rfl (lv_at hl 0 rfl) ?_
    obtain ⟨v65, e65, h⟩ := Option.bind_eq_some_iff.mp h
    refine g_getr hx hb hts inlX5 hown hK hG (by rfl) 6 (by decide) qF_X5_31 e65 dX5_enter_65 ?_
    refine lv_iload_n hx hb dX5_enter_68 rfl (lv_at hl 3 rfl) ?_
    refine lv_iload_n hx hb dX5_enter_69 rfl (lv_at hl 2 rfl) ?_
    obtain ⟨G70, e70, h⟩ := Option.bind_eq_some_iff.mp h
    refine g_cNv (As := [.ref v65, .int bx3, .int bx2]) (rest := []) (n := 3) hx hb hml hown hts hK hlo hG (m_X9_put l dd cT lo G61 v65 bx3 bx2 e70) (List.mem_of_getElem? (i := 30) rfl) qT_yX9_put qN_X9 qC_yX9_put (by decide +kernel) ⟨Nat.le_of_ble_eq_true rfl, Nat.le_of_ble_eq_true rfl⟩ rfl hl.1 rfl (Nat.le_of_ble_eq_true rfl) dX5_enter_70 ⟨Nat.le_of_ble_eq_true rfl, Nat.le_of_ble_eq_true rfl⟩ (fun H locs hG => ?_)
    obtain rfl := Option.some.inj h
    exact g_vret hx hb hr hlocks hK hlo hG rfl dX5_enter_73
  unfold f_X5_enter at h
  refine lv_aload_n hx hb dX5_enter_0 rfl (lv_at hl 0 rfl) ?_
  refine lv_aload_n hx hb dX5_enter_1 rfl (lv_at hl 0 rfl) ?_
  obtain ⟨u2, i2, h⟩ := Option.bind_eq_some_iff.mp h
  obtain ⟨v2, e2, h⟩ := Option.bind_eq_some_iff.mp h
  refine g_cVi (As := []) (rest := [.ref a0]) (n := 0) hx hb hml hown hts hK hlo hG (m_X5_latest l dd cT lo G a0 e2) qM_X5_38 qI_yX5_latest qS_X5_yX5_latest qN_X5 qC_yX5_latest (by decide +kernel) ⟨Nat.le_of_ble_eq_true rfl, Nat.le_of_ble_eq_true rfl⟩ (by rfl) i2 rfl hl.1 rfl (Nat.le_of_ble_eq_true rfl) dX5_enter_2 ⟨Nat.le_of_ble_eq_true rfl, Nat.le_of_ble_eq_true rfl⟩ (fun H locs hG => ?_)
  refine lv_iload_n hx hb dX5_enter_5 rfl (lv_at hl 1 rfl) ?_
  obtain ⟨u6, i6, h⟩ := Option.bind_eq_some_iff.mp h
  obtain ⟨v6, e6, h⟩ := Option.bind_eq_some_iff.mp h
  refine g_cVi (As := [.int v2, .int x1]) (rest := []) (n := 2) hx hb hml hown hts hK hlo hG (m_X5_slotOfFile l dd cT lo G a0 v2 x1 e6) qM_X5_68 qI_yX5_slotOfFile qS_X5_yX5_slotOfFile qN_X5 qC_yX5_slotOfFile (by decide +kernel) ⟨Nat.le_of_ble_eq_true rfl, Nat.le_of_ble_eq_true rfl⟩ (by rfl) i6 rfl hl.1 rfl (Nat.le_of_ble_eq_true rfl) dX5_enter_6 ⟨Nat.le_of_ble_eq_true rfl, Nat.le_of_ble_eq_true rfl⟩ (fun H locs hG => ?_)
  refine lv_istore_n (lv' := [(3, .int v6), (0, .ref a0), (1, .int x1), (2, .int x2)]) hx hb dX5_enter_9 rfl hl (by decide) rfl (fun ls hl => ?_)
  refine lv_iload_n hx hb dX5_enter_10 rfl (lv_at hl 0 rfl) ?_
  refine lv_iconst (v := (-1 : Int32)) hx hb dX5_enter_11 (by decide) ?_
  refine lv_icmp_ne (tgt := 55) hx hb dX5_enter_12 (by decide) (fun c12 => ?_) (fun c12 => ?_)
  · rw [if_neg c12] at h
    exact h55 G a0 x1 x2 v6 _ _ hG _ (lv_sub hl [1, 2, 3, 0] rfl) h
  · rw [if_pos c12] at h
    refine lv_aload_n hx hb dX5_enter_15 rfl (lv_at hl 1 rfl) ?_
    obtain ⟨v16, e16, h⟩ := Option.bind_eq_some_iff.mp h
    refine g_getr hx hb hts inlX5 hown hK hG (by rfl) 4 (by decide) qF_X5_25 e16 dX5_enter_16 ?_
    refine lv_aload_n hx hb dX5_enter_19 rfl (lv_at hl 1 rfl) ?_
    obtain ⟨u20, i20, h⟩ := Option.bind_eq_some_iff.mp h
    obtain ⟨v20, e20, h⟩ := Option.bind_eq_some_iff.mp h
    refine g_cVi (As := []) (rest := [.ref v16]) (n := 0) hx hb hml hown hts hK hlo hG (m_X5_latest l dd cT lo G a0 e20) qM_X5_38 qI_yX5_latest qS_X5_yX5_latest qN_X5 qC_yX5_latest (by decide +kernel) ⟨Nat.le_of_ble_eq_true rfl, Nat.le_of_ble_eq_true rfl⟩ (by rfl) i20 rfl hl.1 rfl (Nat.le_of_ble_eq_true rfl) dX5_enter_20 ⟨Nat.le_of_ble_eq_true rfl, Nat.le_of_ble_eq_true rfl⟩ (fun H locs hG => ?_)
    refine lv_aload_n hx hb dX5_enter_23 rfl (lv_at hl 1 rfl) ?_
    refine lv_aload_n hx hb dX5_enter_24 rfl (lv_at hl 1 rfl) ?_
    obtain ⟨u25, i25, h⟩ := Option.bind_eq_some_iff.mp h
    obtain ⟨v25, e25, h⟩ := Option.bind_eq_some_iff.mp h
    refine g_cVi (As := []) (rest := [.ref a0, .int v20, .ref v16]) (n := 0) hx hb hml hown hts hK hlo hG (m_X5_latest l dd cT lo G a0 e25) qM_X5_38 qI_yX5_latest qS_X5_yX5_latest qN_X5 qC_yX5_latest (by decide +kernel) ⟨Nat.le_of_ble_eq_true rfl, Nat.le_of_ble_eq_true rfl⟩ (by rfl) i25 rfl hl.1 rfl (Nat.le_of_ble_eq_true rfl) dX5_enter_25 ⟨Nat.le_of_ble_eq_true rfl, Nat.le_of_ble_eq_true rfl⟩ (fun H locs hG => ?_)
    obtain ⟨u28, i28, h⟩ := Option.bind_eq_some_iff.mp h
    obtain ⟨v28, e28, h⟩ := Option.bind_eq_some_iff.mp h
    refine g_cVi (As := [.int v25]) (rest := [.int v20, .ref v16]) (n := 1) hx hb hml hown hts hK hlo hG (m_X5_entriesOf l dd cT lo G a0 v25 e28) qM_X5_58 qI_yX5_entriesOf qS_X5_yX5_entriesOf qN_X5 qC_yX5_entriesOf (by decide +kernel) ⟨Nat.le_of_ble_eq_true rfl, Nat.le_of_ble_eq_true rfl⟩ (by rfl) i28 rfl hl.1 rfl (Nat.le_of_ble_eq_true rfl) dX5_enter_28 ⟨Nat.le_of_ble_eq_true rfl, Nat.le_of_ble_eq_true rfl⟩ (fun H locs hG => ?_)
    refine lv_iconst (v := (1 : Int32)) hx hb dX5_enter_31 (by decide) ?_
    refine lv_iadd hx hb dX5_enter_32 ?_
    obtain ⟨G33, e33, h⟩ := Option.bind_eq_some_iff.mp h
    refine g_cNv (As := [.ref v16, .int v20, .int (v28 + (1 : Int32))]) (rest := []) (n := 3) hx hb hml hown hts hK hlo hG (m_X9_put l dd cT lo G v16 v20 (v28 + (1 : Int32)) e33) (List.mem_of_getElem? (i := 30) rfl) qT_yX9_put qN_X9 qC_yX9_put (by decide +kernel) ⟨Nat.le_of_ble_eq_true rfl, Nat.le_of_ble_eq_true rfl⟩ rfl hl.1 rfl (Nat.le_of_ble_eq_true rfl) dX5_enter_33 ⟨Nat.le_of_ble_eq_true rfl, Nat.le_of_ble_eq_true rfl⟩ (fun H locs hG => ?_)
    refine lv_aload_n hx hb dX5_enter_36 rfl (lv_at hl 1 rfl) ?_
    refine lv_aload_n hx hb dX5_enter_37 rfl (lv_at hl 1 rfl) ?_
    obtain ⟨u38, i38, h⟩ := Option.bind_eq_some_iff.mp h
    obtain ⟨v38, e38, h⟩ := Option.bind_eq_some_iff.mp h
    refine g_cVi (As := []) (rest := [.ref a0]) (n := 0) hx hb hml hown hts hK hlo hG (m_X5_latest l dd cT lo G33 a0 e38) qM_X5_38 qI_yX5_latest qS_X5_yX5_latest qN_X5 qC_yX5_latest (by decide +kernel) ⟨Nat.le_of_ble_eq_true rfl, Nat.le_of_ble_eq_true rfl⟩ (by rfl) i38 rfl hl.1 rfl (Nat.le_of_ble_eq_true rfl) dX5_enter_38 ⟨Nat.le_of_ble_eq_true rfl, Nat.le_of_ble_eq_true rfl⟩ (fun H locs hG => ?_)
    refine lv_aload_n hx hb dX5_enter_41 rfl (lv_at hl 1 rfl) ?_
    refine lv_aload_n hx hb dX5_enter_42 rfl (lv_at hl 1 rfl) ?_
    obtain ⟨u43, i43, h⟩ := Option.bind_eq_some_iff.mp h
    obtain ⟨v43, e43, h⟩ := Option.bind_eq_some_iff.mp h
    refine g_cVi (As := []) (rest := [.ref a0, .int v38, .ref a0]) (n := 0) hx hb hml hown hts hK hlo hG (m_X5_latest l dd cT lo G33 a0 e43) qM_X5_38 qI_yX5_latest qS_X5_yX5_latest qN_X5 qC_yX5_latest (by decide +kernel) ⟨Nat.le_of_ble_eq_true rfl, Nat.le_of_ble_eq_true rfl⟩ (by rfl) i43 rfl hl.1 rfl (Nat.le_of_ble_eq_true rfl) dX5_enter_43 ⟨Nat.le_of_ble_eq_true rfl, Nat.le_of_ble_eq_true rfl⟩ (fun H locs hG => ?_)
    obtain ⟨u46, i46, h⟩ := Option.bind_eq_some_iff.mp h
    obtain ⟨v46, e46, h⟩ := Option.bind_eq_some_iff.mp h
    refine g_cVi (As := [.int v43]) (rest := [.int v38, .ref a0]) (n := 1) hx hb hml hown hts hK hlo hG (m_X5_entriesOf l dd cT lo G33 a0 v43 e46) qM_X5_58 qI_yX5_entriesOf qS_X5_yX5_entriesOf qN_X5 qC_yX5_entriesOf (by decide +kernel) ⟨Nat.le_of_ble_eq_true rfl, Nat.le_of_ble_eq_true rfl⟩ (by rfl) i46 rfl hl.1 rfl (Nat.le_of_ble_eq_true rfl) dX5_enter_46 ⟨Nat.le_of_ble_eq_true rfl, Nat.le_of_ble_eq_true rfl⟩ (fun H locs hG => ?_)
    refine lv_iconst (v := (1 : Int32)) hx hb dX5_enter_49 (by decide) ?_
    refine lv_isub hx hb dX5_enter_50 ?_
    obtain ⟨u51, i51, h⟩ := Option.bind_eq_some_iff.mp h
    obtain ⟨v51, e51, h⟩ := Option.bind_eq_some_iff.mp h
    refine g_cVi (As := [.int v38, .int (v46 - (1 : Int32))]) (rest := []) (n := 2) hx hb hml hown hts hK hlo hG (m_X5_slotAt l dd cT lo G33 a0 v38 (v46 - (1 : Int32)) e51) qM_X5_61 qI_yX5_slotAt qS_X5_yX5_slotAt qN_X5 qC_yX5_slotAt (by decide +kernel) ⟨Nat.le_of_ble_eq_true rfl, Nat.le_of_ble_eq_true rfl⟩ (by rfl) i51 rfl hl.1 rfl (Nat.le_of_ble_eq_true rfl) dX5_enter_51 ⟨Nat.le_of_ble_eq_true rfl, Nat.le_of_ble_eq_true rfl⟩ (fun H locs hG => ?_)
    refine lv_istore_n (lv' := [(3, .int v51), (0, .ref a0), (1, .int x1), (2, .int x2)]) hx hb dX5_enter_54 rfl hl (by decide) rfl (fun ls hl => ?_)
    exact h55 G33 a0 x1 x2 v51 _ _ hG _ (lv_sub hl [1, 2, 3, 0] rfl) h
def f_X5_markClosed (G : gH) (a0 : Nat) (x1 : Int32) : Option gH :=
    (g_r G a0 5 1).bind fun v1 =>
    (g_ob G a0 5).bind fun u5 =>
    (f_X5_latest G a0).bind fun v5 =>
    (f_X9_put G v1 v5 (1 : Int32)).bind fun G9 =>
    (g_r G9 a0 5 3).bind fun v13 =>
    (g_ob G9 a0 5).bind fun u17 =>
    (f_X5_latest G9 a0).bind fun v17 =>
    (f_X9_put G9 v13 v17 x1).bind fun G21 =>
    some G21
set_option maxRecDepth 20000 in
set_option maxHeartbeats 4000000 in
theorem m_X5_markClosed (l : Launch) (dd : va_G) (cT : Nat → ClassId) (lo : Nat) (G : gH) (a0 : Nat) (x1 : Int32) {Gz : gH} (h : f_X5_markClosed G a0 x1 = some Gz) : Met l yX5_markClosed (Cond.code yX5_markClosed cX5_markClosed 2 none :: wsL_law) (g_rm 1 22 0 0) (va_Pc [.ref a0, .int x1] (g_Pre lo dd cT G)) (va_Qv (g_iv Gz) (g_Pre lo dd cT) (g_A lo)) 0 0 (g_A lo) := by
  refine g_start RX5 rfl (by decide) (Nat.le_of_ble_eq_true rfl) ?_
  intro p e s m below meth c hx hb hr hlocks hml hown hnm hts hK hG hlo ls hl
  have hl : lv_has ls 2 [(0, .ref a0), (1, .int x1)] := hl
  have hG : g_S lo dd cT s s.heap [] G := hG
  unfold f_X5_markClosed at h
  refine lv_aload_n hx hb dX5_markClosed_0 rfl (lv_at hl 0 rfl) ?_
  obtain ⟨v1, e1, h⟩ := Option.bind_eq_some_iff.mp h
  refine g_getr hx hb hts inlX5 hown hK hG (by rfl) 1 (by decide) qF_X5_15 e1 dX5_markClosed_1 ?_
  refine lv_aload_n hx hb dX5_markClosed_4 rfl (lv_at hl 0 rfl) ?_
  obtain ⟨u5, i5, h⟩ := Option.bind_eq_some_iff.mp h
  obtain ⟨v5, e5, h⟩ := Option.bind_eq_some_iff.mp h
  refine g_cVi (As := []) (rest := [.ref v1]) (n := 0) hx hb hml hown hts hK hlo hG (m_X5_latest l dd cT lo G a0 e5) qM_X5_38 qI_yX5_latest qS_X5_yX5_latest qN_X5 qC_yX5_latest (by decide +kernel) ⟨Nat.le_of_ble_eq_true rfl, Nat.le_of_ble_eq_true rfl⟩ (by rfl) i5 rfl hl.1 rfl (Nat.le_of_ble_eq_true rfl) dX5_markClosed_5 ⟨Nat.le_of_ble_eq_true rfl, Nat.le_of_ble_eq_true rfl⟩ (fun H locs hG => ?_)
  refine lv_iconst (v := (1 : Int32)) hx hb dX5_markClosed_8 (by decide) ?_
  obtain ⟨G9, e9, h⟩ := Option.bind_eq_some_iff.mp h
  refine g_cNv (As := [.ref v1, .int v5, .int (1 : Int32)]) (rest := []) (n := 3) hx hb hml hown hts hK hlo hG (m_X9_put l dd cT lo G v1 v5 (1 : Int32) e9) (List.mem_of_getElem? (i := 30) rfl) qT_yX9_put qN_X9 qC_yX9_put (by decide +kernel) ⟨Nat.le_of_ble_eq_true rfl, Nat.le_of_ble_eq_true rfl⟩ rfl hl.1 rfl (Nat.le_of_ble_eq_true rfl) dX5_markClosed_9 ⟨Nat.le_of_ble_eq_true rfl, Nat.le_of_ble_eq_true rfl⟩ (fun H locs hG => ?_)
  refine lv_aload_n hx hb dX5_markClosed_12 rfl (lv_at hl 0 rfl) ?_
  obtain ⟨v13, e13, h⟩ := Option.bind_eq_some_iff.mp h
  refine g_getr hx hb hts inlX5 hown hK hG (by rfl) 3 (by decide) qF_X5_22 e13 dX5_markClosed_13 ?_
  refine lv_aload_n hx hb dX5_markClosed_16 rfl (lv_at hl 0 rfl) ?_
  obtain ⟨u17, i17, h⟩ := Option.bind_eq_some_iff.mp h
  obtain ⟨v17, e17, h⟩ := Option.bind_eq_some_iff.mp h
  refine g_cVi (As := []) (rest := [.ref v13]) (n := 0) hx hb hml hown hts hK hlo hG (m_X5_latest l dd cT lo G9 a0 e17) qM_X5_38 qI_yX5_latest qS_X5_yX5_latest qN_X5 qC_yX5_latest (by decide +kernel) ⟨Nat.le_of_ble_eq_true rfl, Nat.le_of_ble_eq_true rfl⟩ (by rfl) i17 rfl hl.1 rfl (Nat.le_of_ble_eq_true rfl) dX5_markClosed_17 ⟨Nat.le_of_ble_eq_true rfl, Nat.le_of_ble_eq_true rfl⟩ (fun H locs hG => ?_)
  refine lv_iload_n hx hb dX5_markClosed_20 rfl (lv_at hl 1 rfl) ?_
  obtain ⟨G21, e21, h⟩ := Option.bind_eq_some_iff.mp h
  refine g_cNv (As := [.ref v13, .int v17, .int x1]) (rest := []) (n := 3) hx hb hml hown hts hK hlo hG (m_X9_put l dd cT lo G9 v13 v17 x1 e21) (List.mem_of_getElem? (i := 30) rfl) qT_yX9_put qN_X9 qC_yX9_put (by decide +kernel) ⟨Nat.le_of_ble_eq_true rfl, Nat.le_of_ble_eq_true rfl⟩ rfl hl.1 rfl (Nat.le_of_ble_eq_true rfl) dX5_markClosed_21 ⟨Nat.le_of_ble_eq_true rfl, Nat.le_of_ble_eq_true rfl⟩ (fun H locs hG => ?_)
  obtain rfl := Option.some.inj h
  exact g_vret hx hb hr hlocks hK hlo hG rfl dX5_markClosed_24
def f_X5_markLost (G : gH) (a0 : Nat) : Option gH :=
    (g_r G a0 5 1).bind fun v1 =>
    (g_ob G a0 5).bind fun u5 =>
    (f_X5_latest G a0).bind fun v5 =>
    (f_X9_put G v1 v5 (2 : Int32)).bind fun G9 =>
    (g_r G9 a0 5 4).bind fun v13 =>
    (g_ob G9 a0 5).bind fun u17 =>
    (f_X5_latest G9 a0).bind fun v17 =>
    (f_X9_put G9 v13 v17 (0 : Int32)).bind fun G21 =>
    some G21
set_option maxRecDepth 20000 in
set_option maxHeartbeats 4000000 in
theorem m_X5_markLost (l : Launch) (dd : va_G) (cT : Nat → ClassId) (lo : Nat) (G : gH) (a0 : Nat) {Gz : gH} (h : f_X5_markLost G a0 = some Gz) : Met l yX5_markLost (Cond.code yX5_markLost cX5_markLost 1 none :: wsL_law) (g_rm 1 22 0 0) (va_Pc [.ref a0] (g_Pre lo dd cT G)) (va_Qv (g_iv Gz) (g_Pre lo dd cT) (g_A lo)) 0 0 (g_A lo) := by
  refine g_start RX5 rfl (by decide) (Nat.le_of_ble_eq_true rfl) ?_
  intro p e s m below meth c hx hb hr hlocks hml hown hnm hts hK hG hlo ls hl
  have hl : lv_has ls 1 [(0, .ref a0)] := hl
  have hG : g_S lo dd cT s s.heap [] G := hG
  unfold f_X5_markLost at h
  refine lv_aload_n hx hb dX5_markLost_0 rfl (lv_at hl 0 rfl) ?_
  obtain ⟨v1, e1, h⟩ := Option.bind_eq_some_iff.mp h
  refine g_getr hx hb hts inlX5 hown hK hG (by rfl) 1 (by decide) qF_X5_15 e1 dX5_markLost_1 ?_
  refine lv_aload_n hx hb dX5_markLost_4 rfl (lv_at hl 0 rfl) ?_
  obtain ⟨u5, i5, h⟩ := Option.bind_eq_some_iff.mp h
  obtain ⟨v5, e5, h⟩ := Option.bind_eq_some_iff.mp h
  refine g_cVi (As := []) (rest := [.ref v1]) (n := 0) hx hb hml hown hts hK hlo hG (m_X5_latest l dd cT lo G a0 e5) qM_X5_38 qI_yX5_latest qS_X5_yX5_latest qN_X5 qC_yX5_latest (by decide +kernel) ⟨Nat.le_of_ble_eq_true rfl, Nat.le_of_ble_eq_true rfl⟩ (by rfl) i5 rfl hl.1 rfl (Nat.le_of_ble_eq_true rfl) dX5_markLost_5 ⟨Nat.le_of_ble_eq_true rfl, Nat.le_of_ble_eq_true rfl⟩ (fun H locs hG => ?_)
  refine lv_iconst (v := (2 : Int32)) hx hb dX5_markLost_8 (by decide) ?_
  obtain ⟨G9, e9, h⟩ := Option.bind_eq_some_iff.mp h
  refine g_cNv (As := [.ref v1, .int v5, .int (2 : Int32)]) (rest := []) (n := 3) hx hb hml hown hts hK hlo hG (m_X9_put l dd cT lo G v1 v5 (2 : Int32) e9) (List.mem_of_getElem? (i := 30) rfl) qT_yX9_put qN_X9 qC_yX9_put (by decide +kernel) ⟨Nat.le_of_ble_eq_true rfl, Nat.le_of_ble_eq_true rfl⟩ rfl hl.1 rfl (Nat.le_of_ble_eq_true rfl) dX5_markLost_9 ⟨Nat.le_of_ble_eq_true rfl, Nat.le_of_ble_eq_true rfl⟩ (fun H locs hG => ?_)
  refine lv_aload_n hx hb dX5_markLost_12 rfl (lv_at hl 0 rfl) ?_
  obtain ⟨v13, e13, h⟩ := Option.bind_eq_some_iff.mp h
  refine g_getr hx hb hts inlX5 hown hK hG (by rfl) 4 (by decide) qF_X5_25 e13 dX5_markLost_13 ?_
  refine lv_aload_n hx hb dX5_markLost_16 rfl (lv_at hl 0 rfl) ?_
  obtain ⟨u17, i17, h⟩ := Option.bind_eq_some_iff.mp h
  obtain ⟨v17, e17, h⟩ := Option.bind_eq_some_iff.mp h
  refine g_cVi (As := []) (rest := [.ref v13]) (n := 0) hx hb hml hown hts hK hlo hG (m_X5_latest l dd cT lo G9 a0 e17) qM_X5_38 qI_yX5_latest qS_X5_yX5_latest qN_X5 qC_yX5_latest (by decide +kernel) ⟨Nat.le_of_ble_eq_true rfl, Nat.le_of_ble_eq_true rfl⟩ (by rfl) i17 rfl hl.1 rfl (Nat.le_of_ble_eq_true rfl) dX5_markLost_17 ⟨Nat.le_of_ble_eq_true rfl, Nat.le_of_ble_eq_true rfl⟩ (fun H locs hG => ?_)
  refine lv_iconst (v := (0 : Int32)) hx hb dX5_markLost_20 (by decide) ?_
  obtain ⟨G21, e21, h⟩ := Option.bind_eq_some_iff.mp h
  refine g_cNv (As := [.ref v13, .int v17, .int (0 : Int32)]) (rest := []) (n := 3) hx hb hml hown hts hK hlo hG (m_X9_put l dd cT lo G9 v13 v17 (0 : Int32) e21) (List.mem_of_getElem? (i := 30) rfl) qT_yX9_put qN_X9 qC_yX9_put (by decide +kernel) ⟨Nat.le_of_ble_eq_true rfl, Nat.le_of_ble_eq_true rfl⟩ rfl hl.1 rfl (Nat.le_of_ble_eq_true rfl) dX5_markLost_21 ⟨Nat.le_of_ble_eq_true rfl, Nat.le_of_ble_eq_true rfl⟩ (fun H locs hG => ?_)
  obtain rfl := Option.some.inj h
  exact g_vret hx hb hr hlocks hK hlo hG rfl dX5_markLost_24
def f_X5_linkOf_L15 (G : gH) : Nat → Nat → Int32 → Option Int32
  | 0, _, _ => none
  | n + 1, ba0, bx2 =>
    if bx2 < 0 then
    some (-1 : Int32)
    else
    (g_ob G ba0 5).bind fun u21 =>
    (f_X5_stateOf G ba0 bx2).bind fun v21 =>
    if v21 = (1 : Int32) then
    some bx2
    else
    f_X5_linkOf_L15 G n ba0 (bx2 + (-1 : Int32))
def f_X5_linkOf (G : gH) (a0 : Nat) (x1 : Int32) : Option Int32 :=
    (g_ob G a0 5).bind fun u2 =>
    (f_X5_directoryOf G a0 x1).bind fun v2 =>
    if v2 = (-1 : Int32) then
    some (-1 : Int32)
    else
    f_X5_linkOf_L15 G g_N a0 (x1 - (1 : Int32))
set_option maxRecDepth 20000 in
set_option maxHeartbeats 4000000 in
theorem m_X5_linkOf (l : Launch) (dd : va_G) (cT : Nat → ClassId) (lo : Nat) (G : gH) (a0 : Nat) (x1 : Int32) {rz : Int32} (h : f_X5_linkOf G a0 x1 = some rz) : Met l yX5_linkOf (Cond.code yX5_linkOf cX5_linkOf 3 (some .int) :: wsL_law) (g_rm 2 43 0 0) (va_Pc [.ref a0, .int x1] (g_Pre lo dd cT G)) (va_Qi (g_is rz G) (g_Pre lo dd cT) (g_A lo)) 0 0 (g_A lo) := by
  refine g_start RX5 rfl (by decide) (Nat.le_of_ble_eq_true rfl) ?_
  intro p e s m below meth c hx hb hr hlocks hml hown hnm hts hK hG hlo ls hl
  have hl : lv_has ls 3 [(0, .ref a0), (1, .int x1)] := hl
  have hG : g_S lo dd cT s s.heap [] G := hG
  have h15 : ∀ n : Nat, ∀ (ba0 : Nat) (bx2 : Int32), ∀ (H : Heap) (locs : List Loc), g_S lo dd cT s H locs G → ∀ ls : Array Slot, lv_has ls 3 [(0, .ref ba0), (2, .int bx2)] → f_X5_linkOf_L15 G n ba0 bx2 = some rz → W p l e (g_rm 2 43 0 0) s m ([.ref a0, .int x1] : List Value).toArray below meth c H locs 0 0 (MQ below (va_Qi (g_is rz G) (g_Pre lo dd cT) (g_A lo)) ([.ref a0, .int x1] : List Value).toArray s 0 0 (g_A lo)) (F0 m 15 ls []) := by
    intro n
    induction n with
    | zero =>
      intro ba0 bx2 H locs hG ls hl h
      cases (show (none : Option Int32) = some rz from h)
    | succ n ih =>
      intro ba0 bx2 H locs hG ls hl h
      rw [f_X5_linkOf_L15] at h
      refine lv_iload_n hx hb dX5_linkOf_15 rfl (lv_at hl 1 rfl) ?_
      refine lv_if_lt (tgt := 36) hx hb dX5_linkOf_16 (by decide) (fun c16 => ?_) (fun c16 => ?_)
      · rw [if_pos c16] at h
        refine lv_iconst (v := (-1 : Int32)) hx hb dX5_linkOf_36 (by decide) ?_
        obtain rfl := Option.some.inj h
        exact g_iret hx hb hr hlocks hK hlo hG ⟨rfl, rfl⟩ dX5_linkOf_37
      · rw [if_neg c16] at h
        refine lv_aload_n hx hb dX5_linkOf_19 rfl (lv_at hl 0 rfl) ?_
        refine lv_iload_n hx hb dX5_linkOf_20 rfl (lv_at hl 1 rfl) ?_
        obtain ⟨u21, i21, h⟩ := Option.bind_eq_some_iff.mp h
        obtain ⟨v21, e21, h⟩ := Option.bind_eq_some_iff.mp h
        refine g_cVi (As := [.int bx2]) (rest := []) (n := 1) hx hb hml hown hts hK hlo hG (m_X5_stateOf l dd cT lo G ba0 bx2 e21) qM_X5_42 qI_yX5_stateOf qS_X5_yX5_stateOf qN_X5 qC_yX5_stateOf (by decide +kernel) ⟨Nat.le_of_ble_eq_true rfl, Nat.le_of_ble_eq_true rfl⟩ (by rfl) i21 rfl hl.1 rfl (Nat.le_of_ble_eq_true rfl) dX5_linkOf_21 ⟨Nat.le_of_ble_eq_true rfl, Nat.le_of_ble_eq_true rfl⟩ (fun H locs hG => ?_)
        refine lv_iconst (v := (1 : Int32)) hx hb dX5_linkOf_24 (by decide) ?_
        refine lv_icmp_ne (tgt := 30) hx hb dX5_linkOf_25 (by decide) (fun c25 => ?_) (fun c25 => ?_)
        · rw [if_neg c25] at h
          refine lv_iinc (v := (bx2 + (-1 : Int32))) (lv' := [(2, .int (bx2 + (-1 : Int32))), (0, .ref ba0)]) hx hb dX5_linkOf_30 hl (k := 1) rfl rfl (by decide) rfl (fun ls hl => ?_)
          refine lv_goto (tgt := 15) hx hb dX5_linkOf_33 (by decide) ?_
          exact ih ba0 (bx2 + (-1 : Int32)) _ _ hG _ (lv_sub hl [1, 0] rfl) h
        · rw [if_pos c25] at h
          refine lv_iload_n hx hb dX5_linkOf_28 rfl (lv_at hl 1 rfl) ?_
          obtain rfl := Option.some.inj h
          exact g_iret hx hb hr hlocks hK hlo hG ⟨rfl, rfl⟩ dX5_linkOf_29
  unfold f_X5_linkOf at h
  refine lv_aload_n hx hb dX5_linkOf_0 rfl (lv_at hl 0 rfl) ?_
  refine lv_iload_n hx hb dX5_linkOf_1 rfl (lv_at hl 1 rfl) ?_
  obtain ⟨u2, i2, h⟩ := Option.bind_eq_some_iff.mp h
  obtain ⟨v2, e2, h⟩ := Option.bind_eq_some_iff.mp h
  refine g_cVi (As := [.int x1]) (rest := []) (n := 1) hx hb hml hown hts hK hlo hG (m_X5_directoryOf l dd cT lo G a0 x1 e2) qM_X5_75 qI_yX5_directoryOf qS_X5_yX5_directoryOf qN_X5 qC_yX5_directoryOf (by decide +kernel) ⟨Nat.le_of_ble_eq_true rfl, Nat.le_of_ble_eq_true rfl⟩ (by rfl) i2 rfl hl.1 rfl (Nat.le_of_ble_eq_true rfl) dX5_linkOf_2 ⟨Nat.le_of_ble_eq_true rfl, Nat.le_of_ble_eq_true rfl⟩ (fun H locs hG => ?_)
  refine lv_iconst (v := (-1 : Int32)) hx hb dX5_linkOf_5 (by decide) ?_
  refine lv_icmp_ne (tgt := 11) hx hb dX5_linkOf_6 (by decide) (fun c6 => ?_) (fun c6 => ?_)
  · rw [if_neg c6] at h
    refine lv_iload_n hx hb dX5_linkOf_11 rfl (lv_at hl 1 rfl) ?_
    refine lv_iconst (v := (1 : Int32)) hx hb dX5_linkOf_12 (by decide) ?_
    refine lv_isub hx hb dX5_linkOf_13 ?_
    refine lv_istore_n (lv' := [(2, .int (x1 - (1 : Int32))), (0, .ref a0), (1, .int x1)]) hx hb dX5_linkOf_14 rfl hl (by decide) rfl (fun ls hl => ?_)
    exact h15 g_N a0 (x1 - (1 : Int32)) _ _ hG _ (lv_sub hl [1, 0] rfl) h
  · rw [if_pos c6] at h
    refine lv_iconst (v := (-1 : Int32)) hx hb dX5_linkOf_9 (by decide) ?_
    obtain rfl := Option.some.inj h
    exact g_iret hx hb hr hlocks hK hlo hG ⟨rfl, rfl⟩ dX5_linkOf_10
def f_X6_clear (G : gH) (a0 : Nat) : Option gH :=
    (g_r G a0 6 0).bind fun v1 =>
    (f_X9_fill_ G v1 (0 : Int32)).bind fun G5 =>
    some G5
set_option maxRecDepth 20000 in
set_option maxHeartbeats 4000000 in
theorem m_X6_clear (l : Launch) (dd : va_G) (cT : Nat → ClassId) (lo : Nat) (G : gH) (a0 : Nat) {Gz : gH} (h : f_X6_clear G a0 = some Gz) : Met l yX6_clear (Cond.code yX6_clear cX6_clear 1 none :: wsL_law) (g_rm 1 22 0 0) (va_Pc [.ref a0] (g_Pre lo dd cT G)) (va_Qv (g_iv Gz) (g_Pre lo dd cT) (g_A lo)) 0 0 (g_A lo) := by
  refine g_start RX6 rfl (by decide) (Nat.le_of_ble_eq_true rfl) ?_
  intro p e s m below meth c hx hb hr hlocks hml hown hnm hts hK hG hlo ls hl
  have hl : lv_has ls 1 [(0, .ref a0)] := hl
  have hG : g_S lo dd cT s s.heap [] G := hG
  unfold f_X6_clear at h
  refine lv_aload_n hx hb dX6_clear_0 rfl (lv_at hl 0 rfl) ?_
  obtain ⟨v1, e1, h⟩ := Option.bind_eq_some_iff.mp h
  refine g_getr hx hb hts inlX6 hown hK hG (by rfl) 0 (by decide) qF_X6_9 e1 dX6_clear_1 ?_
  refine lv_iconst (v := (0 : Int32)) hx hb dX6_clear_4 (by decide) ?_
  obtain ⟨G5, e5, h⟩ := Option.bind_eq_some_iff.mp h
  refine g_cNv (As := [.ref v1, .int (0 : Int32)]) (rest := []) (n := 2) hx hb hml hown hts hK hlo hG (m_X9_fill_ l dd cT lo G v1 (0 : Int32) e5) (List.mem_of_getElem? (i := 32) rfl) qT_yX9_fill_ qN_X9 qC_yX9_fill_ (by decide +kernel) ⟨Nat.le_of_ble_eq_true rfl, Nat.le_of_ble_eq_true rfl⟩ rfl hl.1 rfl (Nat.le_of_ble_eq_true rfl) dX6_clear_5 ⟨Nat.le_of_ble_eq_true rfl, Nat.le_of_ble_eq_true rfl⟩ (fun H locs hG => ?_)
  obtain rfl := Option.some.inj h
  exact g_vret hx hb hr hlocks hK hlo hG rfl dX6_clear_8
def f_X6_isStored (G : gH) (a0 : Nat) (x1 : Int32) : Option Int32 :=
    (g_r G a0 6 0).bind fun v1 =>
    (f_X9_isSet G v1 x1).bind fun v5 =>
    g_z v5
set_option maxRecDepth 20000 in
set_option maxHeartbeats 4000000 in
theorem m_X6_isStored (l : Launch) (dd : va_G) (cT : Nat → ClassId) (lo : Nat) (G : gH) (a0 : Nat) (x1 : Int32) {rz : Int32} (h : f_X6_isStored G a0 x1 = some rz) : Met l yX6_isStored (Cond.code yX6_isStored cX6_isStored 2 (some .boolean) :: wsL_law) (g_rm 1 21 0 0) (va_Pc [.ref a0, .int x1] (g_Pre lo dd cT G)) (va_Qi (g_is rz G) (g_Pre lo dd cT) (g_A lo)) 0 0 (g_A lo) := by
  refine g_start RX6 rfl (by decide) (Nat.le_of_ble_eq_true rfl) ?_
  intro p e s m below meth c hx hb hr hlocks hml hown hnm hts hK hG hlo ls hl
  have hl : lv_has ls 2 [(0, .ref a0), (1, .int x1)] := hl
  have hG : g_S lo dd cT s s.heap [] G := hG
  unfold f_X6_isStored at h
  refine lv_aload_n hx hb dX6_isStored_0 rfl (lv_at hl 0 rfl) ?_
  obtain ⟨v1, e1, h⟩ := Option.bind_eq_some_iff.mp h
  refine g_getr hx hb hts inlX6 hown hK hG (by rfl) 0 (by decide) qF_X6_9 e1 dX6_isStored_1 ?_
  refine lv_iload_n hx hb dX6_isStored_4 rfl (lv_at hl 1 rfl) ?_
  obtain ⟨v5, e5, h⟩ := Option.bind_eq_some_iff.mp h
  refine g_cNi (As := [.ref v1, .int x1]) (rest := []) (n := 2) hx hb hml hown hts hK hlo hG (m_X9_isSet l dd cT lo G v1 x1 e5) (List.mem_of_getElem? (i := 33) rfl) qT_yX9_isSet qN_X9 qC_yX9_isSet (by decide +kernel) ⟨Nat.le_of_ble_eq_true rfl, Nat.le_of_ble_eq_true rfl⟩ rfl hl.1 rfl (Nat.le_of_ble_eq_true rfl) dX6_isStored_5 ⟨Nat.le_of_ble_eq_true rfl, Nat.le_of_ble_eq_true rfl⟩ (fun H locs hG => ?_)
  obtain ⟨n8, rfl⟩ := g_z_nar h
  exact g_zret hx hb hr hlocks hK hlo hG n8 ⟨rfl, rfl⟩ dX6_isStored_8
def f_X7_takeFrom (G : gH) (a0 : Nat) (a1 : Nat) : Option gH :=
    (g_i G a1 7 0).bind fun v2 =>
    (g_put G a0 7 0 (.int v2)).bind fun G5 =>
    (g_r G5 a1 7 1).bind fun v9 =>
    (g_r G5 a0 7 1).bind fun v13 =>
    (f_X9_copy G5 v9 v13).bind fun G16 =>
    (g_r G16 a1 7 2).bind fun v20 =>
    (g_r G16 a0 7 2).bind fun v24 =>
    (f_X9_copy G16 v20 v24).bind fun G27 =>
    (g_r G27 a1 7 3).bind fun v31 =>
    (g_r G27 a0 7 3).bind fun v35 =>
    (f_X9_copy G27 v31 v35).bind fun G38 =>
    (g_r G38 a1 7 4).bind fun v42 =>
    (g_r G38 a0 7 4).bind fun v46 =>
    (f_X9_copy G38 v42 v46).bind fun G49 =>
    (g_r G49 a1 7 5).bind fun v53 =>
    (g_r G49 a0 7 5).bind fun v57 =>
    (f_X9_copy G49 v53 v57).bind fun G60 =>
    some G60
set_option maxRecDepth 20000 in
set_option maxHeartbeats 4000000 in
theorem m_X7_takeFrom (l : Launch) (dd : va_G) (cT : Nat → ClassId) (lo : Nat) (G : gH) (a0 : Nat) (a1 : Nat) {Gz : gH} (h : f_X7_takeFrom G a0 a1 = some Gz) : Met l yX7_takeFrom (Cond.code yX7_takeFrom cX7_takeFrom 2 none :: wsL_law) (g_rm 1 22 0 0) (va_Pc [.ref a0, .ref a1] (g_Pre lo dd cT G)) (va_Qv (g_iv Gz) (g_Pre lo dd cT) (g_A lo)) 0 0 (g_A lo) := by
  refine g_start RX7 rfl (by decide) (Nat.le_of_ble_eq_true rfl) ?_
  intro p e s m below meth c hx hb hr hlocks hml hown hnm hts hK hG hlo ls hl
  have hl : lv_has ls 2 [(0, .ref a0), (1, .ref a1)] := hl
  have hG : g_S lo dd cT s s.heap [] G := hG
  unfold f_X7_takeFrom at h
  refine lv_aload_n hx hb dX7_takeFrom_0 rfl (lv_at hl 0 rfl) ?_
  refine lv_aload_n hx hb dX7_takeFrom_1 rfl (lv_at hl 1 rfl) ?_
  obtain ⟨v2, e2, h⟩ := Option.bind_eq_some_iff.mp h
  refine g_geti hx hb hts inlX7 hown hK hG (by rfl) 0 (by decide) qF_X7_9 e2 dX7_takeFrom_2 ?_
  obtain ⟨G5, i5, h⟩ := Option.bind_eq_some_iff.mp h
  refine g_putv hx hb hts inlX7 tyX7 tyX7_ok nmX7 hown hK hG (by rfl) 0 (by decide) qF_X7_9 rfl rfl rfl rfl i5 dX7_takeFrom_5 (fun H locs hG => ?_)
  refine lv_aload_n hx hb dX7_takeFrom_8 rfl (lv_at hl 1 rfl) ?_
  obtain ⟨v9, e9, h⟩ := Option.bind_eq_some_iff.mp h
  refine g_getr hx hb hts inlX7 hown hK hG (by rfl) 1 (by decide) qF_X7_15 e9 dX7_takeFrom_9 ?_
  refine lv_aload_n hx hb dX7_takeFrom_12 rfl (lv_at hl 0 rfl) ?_
  obtain ⟨v13, e13, h⟩ := Option.bind_eq_some_iff.mp h
  refine g_getr hx hb hts inlX7 hown hK hG (by rfl) 1 (by decide) qF_X7_15 e13 dX7_takeFrom_13 ?_
  obtain ⟨G16, e16, h⟩ := Option.bind_eq_some_iff.mp h
  refine g_cNv (As := [.ref v9, .ref v13]) (rest := []) (n := 2) hx hb hml hown hts hK hlo hG (m_X9_copy l dd cT lo G5 v9 v13 e16) (List.mem_of_getElem? (i := 37) rfl) qT_yX9_copy qN_X9 qC_yX9_copy (by decide +kernel) ⟨Nat.le_of_ble_eq_true rfl, Nat.le_of_ble_eq_true rfl⟩ rfl hl.1 rfl (Nat.le_of_ble_eq_true rfl) dX7_takeFrom_16 ⟨Nat.le_of_ble_eq_true rfl, Nat.le_of_ble_eq_true rfl⟩ (fun H locs hG => ?_)
  refine lv_aload_n hx hb dX7_takeFrom_19 rfl (lv_at hl 1 rfl) ?_
  obtain ⟨v20, e20, h⟩ := Option.bind_eq_some_iff.mp h
  refine g_getr hx hb hts inlX7 hown hK hG (by rfl) 2 (by decide) qF_X7_19 e20 dX7_takeFrom_20 ?_
  refine lv_aload_n hx hb dX7_takeFrom_23 rfl (lv_at hl 0 rfl) ?_
  obtain ⟨v24, e24, h⟩ := Option.bind_eq_some_iff.mp h
  refine g_getr hx hb hts inlX7 hown hK hG (by rfl) 2 (by decide) qF_X7_19 e24 dX7_takeFrom_24 ?_
  obtain ⟨G27, e27, h⟩ := Option.bind_eq_some_iff.mp h
  refine g_cNv (As := [.ref v20, .ref v24]) (rest := []) (n := 2) hx hb hml hown hts hK hlo hG (m_X9_copy l dd cT lo G16 v20 v24 e27) (List.mem_of_getElem? (i := 37) rfl) qT_yX9_copy qN_X9 qC_yX9_copy (by decide +kernel) ⟨Nat.le_of_ble_eq_true rfl, Nat.le_of_ble_eq_true rfl⟩ rfl hl.1 rfl (Nat.le_of_ble_eq_true rfl) dX7_takeFrom_27 ⟨Nat.le_of_ble_eq_true rfl, Nat.le_of_ble_eq_true rfl⟩ (fun H locs hG => ?_)
  refine lv_aload_n hx hb dX7_takeFrom_30 rfl (lv_at hl 1 rfl) ?_
  obtain ⟨v31, e31, h⟩ := Option.bind_eq_some_iff.mp h
  refine g_getr hx hb hts inlX7 hown hK hG (by rfl) 3 (by decide) qF_X7_22 e31 dX7_takeFrom_31 ?_
  refine lv_aload_n hx hb dX7_takeFrom_34 rfl (lv_at hl 0 rfl) ?_
  obtain ⟨v35, e35, h⟩ := Option.bind_eq_some_iff.mp h
  refine g_getr hx hb hts inlX7 hown hK hG (by rfl) 3 (by decide) qF_X7_22 e35 dX7_takeFrom_35 ?_
  obtain ⟨G38, e38, h⟩ := Option.bind_eq_some_iff.mp h
  refine g_cNv (As := [.ref v31, .ref v35]) (rest := []) (n := 2) hx hb hml hown hts hK hlo hG (m_X9_copy l dd cT lo G27 v31 v35 e38) (List.mem_of_getElem? (i := 37) rfl) qT_yX9_copy qN_X9 qC_yX9_copy (by decide +kernel) ⟨Nat.le_of_ble_eq_true rfl, Nat.le_of_ble_eq_true rfl⟩ rfl hl.1 rfl (Nat.le_of_ble_eq_true rfl) dX7_takeFrom_38 ⟨Nat.le_of_ble_eq_true rfl, Nat.le_of_ble_eq_true rfl⟩ (fun H locs hG => ?_)
  refine lv_aload_n hx hb dX7_takeFrom_41 rfl (lv_at hl 1 rfl) ?_
  obtain ⟨v42, e42, h⟩ := Option.bind_eq_some_iff.mp h
  refine g_getr hx hb hts inlX7 hown hK hG (by rfl) 4 (by decide) qF_X7_25 e42 dX7_takeFrom_42 ?_
  refine lv_aload_n hx hb dX7_takeFrom_45 rfl (lv_at hl 0 rfl) ?_
  obtain ⟨v46, e46, h⟩ := Option.bind_eq_some_iff.mp h
  refine g_getr hx hb hts inlX7 hown hK hG (by rfl) 4 (by decide) qF_X7_25 e46 dX7_takeFrom_46 ?_
  obtain ⟨G49, e49, h⟩ := Option.bind_eq_some_iff.mp h
  refine g_cNv (As := [.ref v42, .ref v46]) (rest := []) (n := 2) hx hb hml hown hts hK hlo hG (m_X9_copy l dd cT lo G38 v42 v46 e49) (List.mem_of_getElem? (i := 37) rfl) qT_yX9_copy qN_X9 qC_yX9_copy (by decide +kernel) ⟨Nat.le_of_ble_eq_true rfl, Nat.le_of_ble_eq_true rfl⟩ rfl hl.1 rfl (Nat.le_of_ble_eq_true rfl) dX7_takeFrom_49 ⟨Nat.le_of_ble_eq_true rfl, Nat.le_of_ble_eq_true rfl⟩ (fun H locs hG => ?_)
  refine lv_aload_n hx hb dX7_takeFrom_52 rfl (lv_at hl 1 rfl) ?_
  obtain ⟨v53, e53, h⟩ := Option.bind_eq_some_iff.mp h
  refine g_getr hx hb hts inlX7 hown hK hG (by rfl) 5 (by decide) qF_X7_28 e53 dX7_takeFrom_53 ?_
  refine lv_aload_n hx hb dX7_takeFrom_56 rfl (lv_at hl 0 rfl) ?_
  obtain ⟨v57, e57, h⟩ := Option.bind_eq_some_iff.mp h
  refine g_getr hx hb hts inlX7 hown hK hG (by rfl) 5 (by decide) qF_X7_28 e57 dX7_takeFrom_57 ?_
  obtain ⟨G60, e60, h⟩ := Option.bind_eq_some_iff.mp h
  refine g_cNv (As := [.ref v53, .ref v57]) (rest := []) (n := 2) hx hb hml hown hts hK hlo hG (m_X9_copy l dd cT lo G49 v53 v57 e60) (List.mem_of_getElem? (i := 37) rfl) qT_yX9_copy qN_X9 qC_yX9_copy (by decide +kernel) ⟨Nat.le_of_ble_eq_true rfl, Nat.le_of_ble_eq_true rfl⟩ rfl hl.1 rfl (Nat.le_of_ble_eq_true rfl) dX7_takeFrom_60 ⟨Nat.le_of_ble_eq_true rfl, Nat.le_of_ble_eq_true rfl⟩ (fun H locs hG => ?_)
  obtain rfl := Option.some.inj h
  exact g_vret hx hb hr hlocks hK hlo hG rfl dX7_takeFrom_63
def f_X7_add (G : gH) (a0 : Nat) (x1 : Int32) (x2 : Int32) (x3 : Int32) (x4 : Int32) (x5 : Int32) : Option (gH × Int32) :=
    (g_i G a0 7 0).bind fun v1 =>
    (g_i G a0 7 0).bind fun v8 =>
    (g_put G a0 7 0 (.int (v8 + (1 : Int32)))).bind fun G13 =>
    (g_r G13 a0 7 1).bind fun v17 =>
    (f_X9_put G13 v17 v1 x1).bind fun G23 =>
    (g_r G23 a0 7 2).bind fun v27 =>
    (f_X9_put G23 v27 v1 x2).bind fun G33 =>
    (g_r G33 a0 7 3).bind fun v37 =>
    (f_X9_put G33 v37 v1 x3).bind fun G43 =>
    (g_r G43 a0 7 4).bind fun v47 =>
    (f_X9_put G43 v47 v1 x4).bind fun G54 =>
    (g_r G54 a0 7 5).bind fun v58 =>
    (f_X9_put G54 v58 v1 x5).bind fun G65 =>
    some (G65, v1)
set_option maxRecDepth 20000 in
set_option maxHeartbeats 4000000 in
theorem m_X7_add (l : Launch) (dd : va_G) (cT : Nat → ClassId) (lo : Nat) (G : gH) (a0 : Nat) (x1 : Int32) (x2 : Int32) (x3 : Int32) (x4 : Int32) (x5 : Int32) {rz : Int32} {Gz : gH} (h : f_X7_add G a0 x1 x2 x3 x4 x5 = some (Gz, rz)) : Met l yX7_add (Cond.code yX7_add cX7_add 7 (some .int) :: wsL_law) (g_rm 1 22 0 0) (va_Pc [.ref a0, .int x1, .int x2, .int x3, .int x4, .int x5] (g_Pre lo dd cT G)) (va_Qi (g_is rz Gz) (g_Pre lo dd cT) (g_A lo)) 0 0 (g_A lo) := by
  refine g_start RX7 rfl (by decide) (Nat.le_of_ble_eq_true rfl) ?_
  intro p e s m below meth c hx hb hr hlocks hml hown hnm hts hK hG hlo ls hl
  have hl : lv_has ls 7 [(0, .ref a0), (1, .int x1), (2, .int x2), (3, .int x3), (4, .int x4), (5, .int x5)] := hl
  have hG : g_S lo dd cT s s.heap [] G := hG
  unfold f_X7_add at h
  refine lv_aload_n hx hb dX7_add_0 rfl (lv_at hl 0 rfl) ?_
  obtain ⟨v1, e1, h⟩ := Option.bind_eq_some_iff.mp h
  refine g_geti hx hb hts inlX7 hown hK hG (by rfl) 0 (by decide) qF_X7_9 e1 dX7_add_1 ?_
  refine lv_istore (lv' := [(6, .int v1), (0, .ref a0), (1, .int x1), (2, .int x2), (3, .int x3), (4, .int x4), (5, .int x5)]) hx hb dX7_add_4 hl (by decide) rfl (fun ls hl => ?_)
  refine lv_aload_n hx hb dX7_add_6 rfl (lv_at hl 1 rfl) ?_
  refine lv_dup hx hb dX7_add_7 rfl ?_
  obtain ⟨v8, e8, h⟩ := Option.bind_eq_some_iff.mp h
  refine g_geti hx hb hts inlX7 hown hK hG (by rfl) 0 (by decide) qF_X7_9 e8 dX7_add_8 ?_
  refine lv_iconst (v := (1 : Int32)) hx hb dX7_add_11 (by decide) ?_
  refine lv_iadd hx hb dX7_add_12 ?_
  obtain ⟨G13, i13, h⟩ := Option.bind_eq_some_iff.mp h
  refine g_putv hx hb hts inlX7 tyX7 tyX7_ok nmX7 hown hK hG (by rfl) 0 (by decide) qF_X7_9 rfl rfl rfl rfl i13 dX7_add_13 (fun H locs hG => ?_)
  refine lv_aload_n hx hb dX7_add_16 rfl (lv_at hl 1 rfl) ?_
  obtain ⟨v17, e17, h⟩ := Option.bind_eq_some_iff.mp h
  refine g_getr hx hb hts inlX7 hown hK hG (by rfl) 1 (by decide) qF_X7_15 e17 dX7_add_17 ?_
  refine lv_iload hx hb dX7_add_20 (lv_at hl 0 rfl) ?_
  refine lv_iload_n hx hb dX7_add_22 rfl (lv_at hl 2 rfl) ?_
  obtain ⟨G23, e23, h⟩ := Option.bind_eq_some_iff.mp h
  refine g_cNv (As := [.ref v17, .int v1, .int x1]) (rest := []) (n := 3) hx hb hml hown hts hK hlo hG (m_X9_put l dd cT lo G13 v17 v1 x1 e23) (List.mem_of_getElem? (i := 38) rfl) qT_yX9_put qN_X9 qC_yX9_put (by decide +kernel) ⟨Nat.le_of_ble_eq_true rfl, Nat.le_of_ble_eq_true rfl⟩ rfl hl.1 rfl (Nat.le_of_ble_eq_true rfl) dX7_add_23 ⟨Nat.le_of_ble_eq_true rfl, Nat.le_of_ble_eq_true rfl⟩ (fun H locs hG => ?_)
  refine lv_aload_n hx hb dX7_add_26 rfl (lv_at hl 1 rfl) ?_
  obtain ⟨v27, e27, h⟩ := Option.bind_eq_some_iff.mp h
  refine g_getr hx hb hts inlX7 hown hK hG (by rfl) 2 (by decide) qF_X7_19 e27 dX7_add_27 ?_
  refine lv_iload hx hb dX7_add_30 (lv_at hl 0 rfl) ?_
  refine lv_iload_n hx hb dX7_add_32 rfl (lv_at hl 3 rfl) ?_
  obtain ⟨G33, e33, h⟩ := Option.bind_eq_some_iff.mp h
  refine g_cNv (As := [.ref v27, .int v1, .int x2]) (rest := []) (n := 3) hx hb hml hown hts hK hlo hG (m_X9_put l dd cT lo G23 v27 v1 x2 e33) (List.mem_of_getElem? (i := 38) rfl) qT_yX9_put qN_X9 qC_yX9_put (by decide +kernel) ⟨Nat.le_of_ble_eq_true rfl, Nat.le_of_ble_eq_true rfl⟩ rfl hl.1 rfl (Nat.le_of_ble_eq_true rfl) dX7_add_33 ⟨Nat.le_of_ble_eq_true rfl, Nat.le_of_ble_eq_true rfl⟩ (fun H locs hG => ?_)
  refine lv_aload_n hx hb dX7_add_36 rfl (lv_at hl 1 rfl) ?_
  obtain ⟨v37, e37, h⟩ := Option.bind_eq_some_iff.mp h
  refine g_getr hx hb hts inlX7 hown hK hG (by rfl) 3 (by decide) qF_X7_22 e37 dX7_add_37 ?_
  refine lv_iload hx hb dX7_add_40 (lv_at hl 0 rfl) ?_
  refine lv_iload_n hx hb dX7_add_42 rfl (lv_at hl 4 rfl) ?_
  obtain ⟨G43, e43, h⟩ := Option.bind_eq_some_iff.mp h
  refine g_cNv (As := [.ref v37, .int v1, .int x3]) (rest := []) (n := 3) hx hb hml hown hts hK hlo hG (m_X9_put l dd cT lo G33 v37 v1 x3 e43) (List.mem_of_getElem? (i := 38) rfl) qT_yX9_put qN_X9 qC_yX9_put (by decide +kernel) ⟨Nat.le_of_ble_eq_true rfl, Nat.le_of_ble_eq_true rfl⟩ rfl hl.1 rfl (Nat.le_of_ble_eq_true rfl) dX7_add_43 ⟨Nat.le_of_ble_eq_true rfl, Nat.le_of_ble_eq_true rfl⟩ (fun H locs hG => ?_)
  refine lv_aload_n hx hb dX7_add_46 rfl (lv_at hl 1 rfl) ?_
  obtain ⟨v47, e47, h⟩ := Option.bind_eq_some_iff.mp h
  refine g_getr hx hb hts inlX7 hown hK hG (by rfl) 4 (by decide) qF_X7_25 e47 dX7_add_47 ?_
  refine lv_iload hx hb dX7_add_50 (lv_at hl 0 rfl) ?_
  refine lv_iload hx hb dX7_add_52 (lv_at hl 5 rfl) ?_
  obtain ⟨G54, e54, h⟩ := Option.bind_eq_some_iff.mp h
  refine g_cNv (As := [.ref v47, .int v1, .int x4]) (rest := []) (n := 3) hx hb hml hown hts hK hlo hG (m_X9_put l dd cT lo G43 v47 v1 x4 e54) (List.mem_of_getElem? (i := 38) rfl) qT_yX9_put qN_X9 qC_yX9_put (by decide +kernel) ⟨Nat.le_of_ble_eq_true rfl, Nat.le_of_ble_eq_true rfl⟩ rfl hl.1 rfl (Nat.le_of_ble_eq_true rfl) dX7_add_54 ⟨Nat.le_of_ble_eq_true rfl, Nat.le_of_ble_eq_true rfl⟩ (fun H locs hG => ?_)
  refine lv_aload_n hx hb dX7_add_57 rfl (lv_at hl 1 rfl) ?_
  obtain ⟨v58, e58, h⟩ := Option.bind_eq_some_iff.mp h
  refine g_getr hx hb hts inlX7 hown hK hG (by rfl) 5 (by decide) qF_X7_28 e58 dX7_add_58 ?_
  refine lv_iload hx hb dX7_add_61 (lv_at hl 0 rfl) ?_
  refine lv_iload hx hb dX7_add_63 (lv_at hl 6 rfl) ?_
  obtain ⟨G65, e65, h⟩ := Option.bind_eq_some_iff.mp h
  refine g_cNv (As := [.ref v58, .int v1, .int x5]) (rest := []) (n := 3) hx hb hml hown hts hK hlo hG (m_X9_put l dd cT lo G54 v58 v1 x5 e65) (List.mem_of_getElem? (i := 38) rfl) qT_yX9_put qN_X9 qC_yX9_put (by decide +kernel) ⟨Nat.le_of_ble_eq_true rfl, Nat.le_of_ble_eq_true rfl⟩ rfl hl.1 rfl (Nat.le_of_ble_eq_true rfl) dX7_add_65 ⟨Nat.le_of_ble_eq_true rfl, Nat.le_of_ble_eq_true rfl⟩ (fun H locs hG => ?_)
  refine lv_iload hx hb dX7_add_68 (lv_at hl 0 rfl) ?_
  obtain ⟨rfl, rfl⟩ := Prod.mk.inj (Option.some.inj h)
  exact g_iret hx hb hr hlocks hK hlo hG ⟨rfl, rfl⟩ dX7_add_70
def f_X7_fileOf (G : gH) (a0 : Nat) (x1 : Int32) : Option Int32 :=
    (g_r G a0 7 1).bind fun v1 =>
    (f_X9_at G v1 x1 (-1 : Int32)).bind fun v6 =>
    some v6
set_option maxRecDepth 20000 in
set_option maxHeartbeats 4000000 in
theorem m_X7_fileOf (l : Launch) (dd : va_G) (cT : Nat → ClassId) (lo : Nat) (G : gH) (a0 : Nat) (x1 : Int32) {rz : Int32} (h : f_X7_fileOf G a0 x1 = some rz) : Met l yX7_fileOf (Cond.code yX7_fileOf cX7_fileOf 2 (some .int) :: wsL_law) (g_rm 1 22 0 0) (va_Pc [.ref a0, .int x1] (g_Pre lo dd cT G)) (va_Qi (g_is rz G) (g_Pre lo dd cT) (g_A lo)) 0 0 (g_A lo) := by
  refine g_start RX7 rfl (by decide) (Nat.le_of_ble_eq_true rfl) ?_
  intro p e s m below meth c hx hb hr hlocks hml hown hnm hts hK hG hlo ls hl
  have hl : lv_has ls 2 [(0, .ref a0), (1, .int x1)] := hl
  have hG : g_S lo dd cT s s.heap [] G := hG
  unfold f_X7_fileOf at h
  refine lv_aload_n hx hb dX7_fileOf_0 rfl (lv_at hl 0 rfl) ?_
  obtain ⟨v1, e1, h⟩ := Option.bind_eq_some_iff.mp h
  refine g_getr hx hb hts inlX7 hown hK hG (by rfl) 1 (by decide) qF_X7_15 e1 dX7_fileOf_1 ?_
  refine lv_iload_n hx hb dX7_fileOf_4 rfl (lv_at hl 1 rfl) ?_
  refine lv_iconst (v := (-1 : Int32)) hx hb dX7_fileOf_5 (by decide) ?_
  obtain ⟨v6, e6, h⟩ := Option.bind_eq_some_iff.mp h
  refine g_cNi (As := [.ref v1, .int x1, .int (-1 : Int32)]) (rest := []) (n := 3) hx hb hml hown hts hK hlo hG (m_X9_at l dd cT lo G v1 x1 (-1 : Int32) e6) (List.mem_of_getElem? (i := 39) rfl) qT_yX9_at qN_X9 qC_yX9_at (by decide +kernel) ⟨Nat.le_of_ble_eq_true rfl, Nat.le_of_ble_eq_true rfl⟩ rfl hl.1 rfl (Nat.le_of_ble_eq_true rfl) dX7_fileOf_6 ⟨Nat.le_of_ble_eq_true rfl, Nat.le_of_ble_eq_true rfl⟩ (fun H locs hG => ?_)
  obtain rfl := Option.some.inj h
  exact g_iret hx hb hr hlocks hK hlo hG ⟨rfl, rfl⟩ dX7_fileOf_9
def f_X7_firstOf (G : gH) (a0 : Nat) (x1 : Int32) : Option Int32 :=
    (g_r G a0 7 2).bind fun v1 =>
    (f_X9_at G v1 x1 (-1 : Int32)).bind fun v6 =>
    some v6
set_option maxRecDepth 20000 in
set_option maxHeartbeats 4000000 in
theorem m_X7_firstOf (l : Launch) (dd : va_G) (cT : Nat → ClassId) (lo : Nat) (G : gH) (a0 : Nat) (x1 : Int32) {rz : Int32} (h : f_X7_firstOf G a0 x1 = some rz) : Met l yX7_firstOf (Cond.code yX7_firstOf cX7_firstOf 2 (some .int) :: wsL_law) (g_rm 1 22 0 0) (va_Pc [.ref a0, .int x1] (g_Pre lo dd cT G)) (va_Qi (g_is rz G) (g_Pre lo dd cT) (g_A lo)) 0 0 (g_A lo) := by
  refine g_start RX7 rfl (by decide) (Nat.le_of_ble_eq_true rfl) ?_
  intro p e s m below meth c hx hb hr hlocks hml hown hnm hts hK hG hlo ls hl
  have hl : lv_has ls 2 [(0, .ref a0), (1, .int x1)] := hl
  have hG : g_S lo dd cT s s.heap [] G := hG
  unfold f_X7_firstOf at h
  refine lv_aload_n hx hb dX7_firstOf_0 rfl (lv_at hl 0 rfl) ?_
  obtain ⟨v1, e1, h⟩ := Option.bind_eq_some_iff.mp h
  refine g_getr hx hb hts inlX7 hown hK hG (by rfl) 2 (by decide) qF_X7_19 e1 dX7_firstOf_1 ?_
  refine lv_iload_n hx hb dX7_firstOf_4 rfl (lv_at hl 1 rfl) ?_
  refine lv_iconst (v := (-1 : Int32)) hx hb dX7_firstOf_5 (by decide) ?_
  obtain ⟨v6, e6, h⟩ := Option.bind_eq_some_iff.mp h
  refine g_cNi (As := [.ref v1, .int x1, .int (-1 : Int32)]) (rest := []) (n := 3) hx hb hml hown hts hK hlo hG (m_X9_at l dd cT lo G v1 x1 (-1 : Int32) e6) (List.mem_of_getElem? (i := 39) rfl) qT_yX9_at qN_X9 qC_yX9_at (by decide +kernel) ⟨Nat.le_of_ble_eq_true rfl, Nat.le_of_ble_eq_true rfl⟩ rfl hl.1 rfl (Nat.le_of_ble_eq_true rfl) dX7_firstOf_6 ⟨Nat.le_of_ble_eq_true rfl, Nat.le_of_ble_eq_true rfl⟩ (fun H locs hG => ?_)
  obtain rfl := Option.some.inj h
  exact g_iret hx hb hr hlocks hK hlo hG ⟨rfl, rfl⟩ dX7_firstOf_9
def f_X7_lengthOf (G : gH) (a0 : Nat) (x1 : Int32) : Option Int32 :=
    (g_r G a0 7 3).bind fun v1 =>
    (f_X9_at G v1 x1 (0 : Int32)).bind fun v6 =>
    some v6
set_option maxRecDepth 20000 in
set_option maxHeartbeats 4000000 in
theorem m_X7_lengthOf (l : Launch) (dd : va_G) (cT : Nat → ClassId) (lo : Nat) (G : gH) (a0 : Nat) (x1 : Int32) {rz : Int32} (h : f_X7_lengthOf G a0 x1 = some rz) : Met l yX7_lengthOf (Cond.code yX7_lengthOf cX7_lengthOf 2 (some .int) :: wsL_law) (g_rm 1 22 0 0) (va_Pc [.ref a0, .int x1] (g_Pre lo dd cT G)) (va_Qi (g_is rz G) (g_Pre lo dd cT) (g_A lo)) 0 0 (g_A lo) := by
  refine g_start RX7 rfl (by decide) (Nat.le_of_ble_eq_true rfl) ?_
  intro p e s m below meth c hx hb hr hlocks hml hown hnm hts hK hG hlo ls hl
  have hl : lv_has ls 2 [(0, .ref a0), (1, .int x1)] := hl
  have hG : g_S lo dd cT s s.heap [] G := hG
  unfold f_X7_lengthOf at h
  refine lv_aload_n hx hb dX7_lengthOf_0 rfl (lv_at hl 0 rfl) ?_
  obtain ⟨v1, e1, h⟩ := Option.bind_eq_some_iff.mp h
  refine g_getr hx hb hts inlX7 hown hK hG (by rfl) 3 (by decide) qF_X7_22 e1 dX7_lengthOf_1 ?_
  refine lv_iload_n hx hb dX7_lengthOf_4 rfl (lv_at hl 1 rfl) ?_
  refine lv_iconst (v := (0 : Int32)) hx hb dX7_lengthOf_5 (by decide) ?_
  obtain ⟨v6, e6, h⟩ := Option.bind_eq_some_iff.mp h
  refine g_cNi (As := [.ref v1, .int x1, .int (0 : Int32)]) (rest := []) (n := 3) hx hb hml hown hts hK hlo hG (m_X9_at l dd cT lo G v1 x1 (0 : Int32) e6) (List.mem_of_getElem? (i := 39) rfl) qT_yX9_at qN_X9 qC_yX9_at (by decide +kernel) ⟨Nat.le_of_ble_eq_true rfl, Nat.le_of_ble_eq_true rfl⟩ rfl hl.1 rfl (Nat.le_of_ble_eq_true rfl) dX7_lengthOf_6 ⟨Nat.le_of_ble_eq_true rfl, Nat.le_of_ble_eq_true rfl⟩ (fun H locs hG => ?_)
  obtain rfl := Option.some.inj h
  exact g_iret hx hb hr hlocks hK hlo hG ⟨rfl, rfl⟩ dX7_lengthOf_9
def f_X7_tagOf (G : gH) (a0 : Nat) (x1 : Int32) : Option Int32 :=
    (g_r G a0 7 4).bind fun v1 =>
    (f_X9_at G v1 x1 (-1 : Int32)).bind fun v6 =>
    some v6
set_option maxRecDepth 20000 in
set_option maxHeartbeats 4000000 in
theorem m_X7_tagOf (l : Launch) (dd : va_G) (cT : Nat → ClassId) (lo : Nat) (G : gH) (a0 : Nat) (x1 : Int32) {rz : Int32} (h : f_X7_tagOf G a0 x1 = some rz) : Met l yX7_tagOf (Cond.code yX7_tagOf cX7_tagOf 2 (some .int) :: wsL_law) (g_rm 1 22 0 0) (va_Pc [.ref a0, .int x1] (g_Pre lo dd cT G)) (va_Qi (g_is rz G) (g_Pre lo dd cT) (g_A lo)) 0 0 (g_A lo) := by
  refine g_start RX7 rfl (by decide) (Nat.le_of_ble_eq_true rfl) ?_
  intro p e s m below meth c hx hb hr hlocks hml hown hnm hts hK hG hlo ls hl
  have hl : lv_has ls 2 [(0, .ref a0), (1, .int x1)] := hl
  have hG : g_S lo dd cT s s.heap [] G := hG
  unfold f_X7_tagOf at h
  refine lv_aload_n hx hb dX7_tagOf_0 rfl (lv_at hl 0 rfl) ?_
  obtain ⟨v1, e1, h⟩ := Option.bind_eq_some_iff.mp h
  refine g_getr hx hb hts inlX7 hown hK hG (by rfl) 4 (by decide) qF_X7_25 e1 dX7_tagOf_1 ?_
  refine lv_iload_n hx hb dX7_tagOf_4 rfl (lv_at hl 1 rfl) ?_
  refine lv_iconst (v := (-1 : Int32)) hx hb dX7_tagOf_5 (by decide) ?_
  obtain ⟨v6, e6, h⟩ := Option.bind_eq_some_iff.mp h
  refine g_cNi (As := [.ref v1, .int x1, .int (-1 : Int32)]) (rest := []) (n := 3) hx hb hml hown hts hK hlo hG (m_X9_at l dd cT lo G v1 x1 (-1 : Int32) e6) (List.mem_of_getElem? (i := 39) rfl) qT_yX9_at qN_X9 qC_yX9_at (by decide +kernel) ⟨Nat.le_of_ble_eq_true rfl, Nat.le_of_ble_eq_true rfl⟩ rfl hl.1 rfl (Nat.le_of_ble_eq_true rfl) dX7_tagOf_6 ⟨Nat.le_of_ble_eq_true rfl, Nat.le_of_ble_eq_true rfl⟩ (fun H locs hG => ?_)
  obtain rfl := Option.some.inj h
  exact g_iret hx hb hr hlocks hK hlo hG ⟨rfl, rfl⟩ dX7_tagOf_9
def f_X7_writerOf (G : gH) (a0 : Nat) (x1 : Int32) : Option Int32 :=
    (g_r G a0 7 5).bind fun v1 =>
    (f_X9_at G v1 x1 (-1 : Int32)).bind fun v6 =>
    some v6
set_option maxRecDepth 20000 in
set_option maxHeartbeats 4000000 in
theorem m_X7_writerOf (l : Launch) (dd : va_G) (cT : Nat → ClassId) (lo : Nat) (G : gH) (a0 : Nat) (x1 : Int32) {rz : Int32} (h : f_X7_writerOf G a0 x1 = some rz) : Met l yX7_writerOf (Cond.code yX7_writerOf cX7_writerOf 2 (some .int) :: wsL_law) (g_rm 1 22 0 0) (va_Pc [.ref a0, .int x1] (g_Pre lo dd cT G)) (va_Qi (g_is rz G) (g_Pre lo dd cT) (g_A lo)) 0 0 (g_A lo) := by
  refine g_start RX7 rfl (by decide) (Nat.le_of_ble_eq_true rfl) ?_
  intro p e s m below meth c hx hb hr hlocks hml hown hnm hts hK hG hlo ls hl
  have hl : lv_has ls 2 [(0, .ref a0), (1, .int x1)] := hl
  have hG : g_S lo dd cT s s.heap [] G := hG
  unfold f_X7_writerOf at h
  refine lv_aload_n hx hb dX7_writerOf_0 rfl (lv_at hl 0 rfl) ?_
  obtain ⟨v1, e1, h⟩ := Option.bind_eq_some_iff.mp h
  refine g_getr hx hb hts inlX7 hown hK hG (by rfl) 5 (by decide) qF_X7_28 e1 dX7_writerOf_1 ?_
  refine lv_iload_n hx hb dX7_writerOf_4 rfl (lv_at hl 1 rfl) ?_
  refine lv_iconst (v := (-1 : Int32)) hx hb dX7_writerOf_5 (by decide) ?_
  obtain ⟨v6, e6, h⟩ := Option.bind_eq_some_iff.mp h
  refine g_cNi (As := [.ref v1, .int x1, .int (-1 : Int32)]) (rest := []) (n := 3) hx hb hml hown hts hK hlo hG (m_X9_at l dd cT lo G v1 x1 (-1 : Int32) e6) (List.mem_of_getElem? (i := 39) rfl) qT_yX9_at qN_X9 qC_yX9_at (by decide +kernel) ⟨Nat.le_of_ble_eq_true rfl, Nat.le_of_ble_eq_true rfl⟩ rfl hl.1 rfl (Nat.le_of_ble_eq_true rfl) dX7_writerOf_6 ⟨Nat.le_of_ble_eq_true rfl, Nat.le_of_ble_eq_true rfl⟩ (fun H locs hG => ?_)
  obtain rfl := Option.some.inj h
  exact g_iret hx hb hr hlocks hK hlo hG ⟨rfl, rfl⟩ dX7_writerOf_9
def f_X7_countOf_L4 (G : gH) : Nat → Nat → Int32 → Int32 → Int32 → Option Int32
  | 0, _, _, _, _ => none
  | n + 1, ba0, bx1, bx2, bx3 =>
    (g_i G ba0 7 0).bind fun v6 =>
    if v6 ≤ bx3 then
    some bx2
    else
    (g_ob G ba0 7).bind fun u15 =>
    (f_X7_fileOf G ba0 bx3).bind fun v15 =>
    if v15 = bx1 then
    (f_X9_oneIf G (1 : Int32)).bind fun v27 =>
    f_X7_countOf_L4 G n ba0 bx1 (bx2 + v27) (bx3 + (1 : Int32))
    else
    (f_X9_oneIf G (0 : Int32)).bind fun v27 =>
    f_X7_countOf_L4 G n ba0 bx1 (bx2 + v27) (bx3 + (1 : Int32))
def f_X7_countOf (G : gH) (a0 : Nat) (x1 : Int32) : Option Int32 :=
    f_X7_countOf_L4 G g_N a0 x1 (0 : Int32) (0 : Int32)
set_option maxRecDepth 20000 in
set_option maxHeartbeats 4000000 in
theorem m_X7_countOf (l : Launch) (dd : va_G) (cT : Nat → ClassId) (lo : Nat) (G : gH) (a0 : Nat) (x1 : Int32) {rz : Int32} (h : f_X7_countOf G a0 x1 = some rz) : Met l yX7_countOf (Cond.code yX7_countOf cX7_countOf 4 (some .int) :: wsL_law) (g_rm 2 43 0 0) (va_Pc [.ref a0, .int x1] (g_Pre lo dd cT G)) (va_Qi (g_is rz G) (g_Pre lo dd cT) (g_A lo)) 0 0 (g_A lo) := by
  refine g_start RX7 rfl (by decide) (Nat.le_of_ble_eq_true rfl) ?_
  intro p e s m below meth c hx hb hr hlocks hml hown hnm hts hK hG hlo ls hl
  have hl : lv_has ls 4 [(0, .ref a0), (1, .int x1)] := hl
  have hG : g_S lo dd cT s s.heap [] G := hG
  have h4 : ∀ n : Nat, ∀ (ba0 : Nat) (bx1 : Int32) (bx2 : Int32) (bx3 : Int32), ∀ (H : Heap) (locs : List Loc), g_S lo dd cT s H locs G → ∀ ls : Array Slot, lv_has ls 4 [(0, .ref ba0), (1, .int bx1), (2, .int bx2), (3, .int bx3)] → f_X7_countOf_L4 G n ba0 bx1 bx2 bx3 = some rz → W p l e (g_rm 2 43 0 0) s m ([.ref a0, .int x1] : List Value).toArray below meth c H locs 0 0 (MQ below (va_Qi (g_is rz G) (g_Pre lo dd cT) (g_A lo)) ([.ref a0, .int x1] : List Value).toArray s 0 0 (g_A lo)) (F0 m 4 ls []) := by
    intro n
    induction n with
    | zero =>
      intro ba0 bx1 bx2 bx3 H locs hG ls hl h
      cases (show (none : Option Int32) = some rz from h)
    | succ n ih =>
      intro ba0 bx1 bx2 bx3 H locs hG ls hl h
      rw [f_X7_countOf_L4] at h
      refine lv_iload_n hx hb dX7_countOf_4 rfl (lv_at hl 3 rfl) ?_
      refine lv_aload_n hx hb dX7_countOf_5 rfl (lv_at hl 0 rfl) ?_
      obtain ⟨v6, e6, h⟩ := Option.bind_eq_some_iff.mp h
      refine g_geti hx hb hts inlX7 hown hK hG (by rfl) 0 (by decide) qF_X7_9 e6 dX7_countOf_6 ?_
      refine lv_icmp_ge (tgt := 38) hx hb dX7_countOf_9 (by decide) (fun c9 => ?_) (fun c9 => ?_)
      · rw [if_pos c9] at h
        refine lv_iload_n hx hb dX7_countOf_38 rfl (lv_at hl 2 rfl) ?_
        obtain rfl := Option.some.inj h
        exact g_iret hx hb hr hlocks hK hlo hG ⟨rfl, rfl⟩ dX7_countOf_39
      · rw [if_neg c9] at h
        refine lv_iload_n hx hb dX7_countOf_12 rfl (lv_at hl 2 rfl) ?_
        refine lv_aload_n hx hb dX7_countOf_13 rfl (lv_at hl 0 rfl) ?_
        refine lv_iload_n hx hb dX7_countOf_14 rfl (lv_at hl 3 rfl) ?_
        obtain ⟨u15, i15, h⟩ := Option.bind_eq_some_iff.mp h
        obtain ⟨v15, e15, h⟩ := Option.bind_eq_some_iff.mp h
        refine g_cVi (As := [.int bx3]) (rest := [.int bx2]) (n := 1) hx hb hml hown hts hK hlo hG (m_X7_fileOf l dd cT lo G ba0 bx3 e15) qM_X7_43 qI_yX7_fileOf qS_X7_yX7_fileOf qN_X7 qC_yX7_fileOf (by decide +kernel) ⟨Nat.le_of_ble_eq_true rfl, Nat.le_of_ble_eq_true rfl⟩ (by rfl) i15 rfl hl.1 rfl (Nat.le_of_ble_eq_true rfl) dX7_countOf_15 ⟨Nat.le_of_ble_eq_true rfl, Nat.le_of_ble_eq_true rfl⟩ (fun H locs hG => ?_)
        refine lv_iload_n hx hb dX7_countOf_18 rfl (lv_at hl 1 rfl) ?_
        refine lv_icmp_ne (tgt := 26) hx hb dX7_countOf_19 (by decide) (fun c19 => ?_) (fun c19 => ?_)
        · rw [if_neg c19] at h
          refine lv_iconst (v := (0 : Int32)) hx hb dX7_countOf_26 (by decide) ?_
          obtain ⟨v27, e27, h⟩ := Option.bind_eq_some_iff.mp h
          refine g_cNi (As := [.int (0 : Int32)]) (rest := [.int bx2]) (n := 1) hx hb hml hown hts hK hlo hG (m_X9_oneIf l dd cT lo G (0 : Int32) e27) (List.mem_of_getElem? (i := 40) rfl) qT_yX9_oneIf qN_X9 qC_yX9_oneIf (by decide +kernel) ⟨Nat.le_of_ble_eq_true rfl, Nat.le_of_ble_eq_true rfl⟩ rfl hl.1 rfl (Nat.le_of_ble_eq_true rfl) dX7_countOf_27 ⟨Nat.le_of_ble_eq_true rfl, Nat.le_of_ble_eq_true rfl⟩ (fun H locs hG => ?_)
          refine lv_iadd hx hb dX7_countOf_30 ?_
          refine lv_istore_n (lv' := [(2, .int (bx2 + v27)), (0, .ref ba0), (1, .int bx1), (3, .int bx3)]) hx hb dX7_countOf_31 rfl hl (by decide) rfl (fun ls hl => ?_)
          refine lv_iinc (v := (bx3 + (1 : Int32))) (lv' := [(3, .int (bx3 + (1 : Int32))), (2, .int (bx2 + v27)), (0, .ref ba0), (1, .int bx1)]) hx hb dX7_countOf_32 hl (k := 3) rfl rfl (by decide) rfl (fun ls hl => ?_)
          refine lv_goto (tgt := 4) hx hb dX7_countOf_35 (by decide) ?_
          exact ih ba0 bx1 (bx2 + v27) (bx3 + (1 : Int32)) _ _ hG _ (lv_sub hl [2, 3, 1, 0] rfl) h
        · rw [if_pos c19] at h
          refine lv_iconst (v := (1 : Int32)) hx hb dX7_countOf_22 (by decide) ?_
          refine lv_goto (tgt := 27) hx hb dX7_countOf_23 (by decide) ?_
          obtain ⟨v27, e27, h⟩ := Option.bind_eq_some_iff.mp h
          refine g_cNi (As := [.int (1 : Int32)]) (rest := [.int bx2]) (n := 1) hx hb hml hown hts hK hlo hG (m_X9_oneIf l dd cT lo G (1 : Int32) e27) (List.mem_of_getElem? (i := 40) rfl) qT_yX9_oneIf qN_X9 qC_yX9_oneIf (by decide +kernel) ⟨Nat.le_of_ble_eq_true rfl, Nat.le_of_ble_eq_true rfl⟩ rfl hl.1 rfl (Nat.le_of_ble_eq_true rfl) dX7_countOf_27 ⟨Nat.le_of_ble_eq_true rfl, Nat.le_of_ble_eq_true rfl⟩ (fun H locs hG => ?_)
          refine lv_iadd hx hb dX7_countOf_30 ?_
          refine lv_istore_n (lv' := [(2, .int (bx2 + v27)), (0, .ref ba0), (1, .int bx1), (3, .int bx3)]) hx hb dX7_countOf_31 rfl hl (by decide) rfl (fun ls hl => ?_)
          refine lv_iinc (v := (bx3 + (1 : Int32))) (lv' := [(3, .int (bx3 + (1 : Int32))), (2, .int (bx2 + v27)), (0, .ref ba0), (1, .int bx1)]) hx hb dX7_countOf_32 hl (k := 3) rfl rfl (by decide) rfl (fun ls hl => ?_)
          refine lv_goto (tgt := 4) hx hb dX7_countOf_35 (by decide) ?_
          exact ih ba0 bx1 (bx2 + v27) (bx3 + (1 : Int32)) _ _ hG _ (lv_sub hl [2, 3, 1, 0] rfl) h
  unfold f_X7_countOf at h
  refine lv_iconst (v := (0 : Int32)) hx hb dX7_countOf_0 (by decide) ?_
  refine lv_istore_n (lv' := [(2, .int (0 : Int32)), (0, .ref a0), (1, .int x1)]) hx hb dX7_countOf_1 rfl hl (by decide) rfl (fun ls hl => ?_)
  refine lv_iconst (v := (0 : Int32)) hx hb dX7_countOf_2 (by decide) ?_
  refine lv_istore_n (lv' := [(3, .int (0 : Int32)), (2, .int (0 : Int32)), (0, .ref a0), (1, .int x1)]) hx hb dX7_countOf_3 rfl hl (by decide) rfl (fun ls hl => ?_)
  exact h4 g_N a0 x1 (0 : Int32) (0 : Int32) _ _ hG _ (lv_sub hl [2, 3, 1, 0] rfl) h
def f_X8_isReached (G : gH) (a0 : Nat) (x1 : Int32) : Option Int32 :=
    (g_r G a0 8 1).bind fun v1 =>
    (f_X9_isSet G v1 x1).bind fun v5 =>
    g_z v5
set_option maxRecDepth 20000 in
set_option maxHeartbeats 4000000 in
theorem m_X8_isReached (l : Launch) (dd : va_G) (cT : Nat → ClassId) (lo : Nat) (G : gH) (a0 : Nat) (x1 : Int32) {rz : Int32} (h : f_X8_isReached G a0 x1 = some rz) : Met l yX8_isReached (Cond.code yX8_isReached cX8_isReached 2 (some .boolean) :: wsL_law) (g_rm 1 21 0 0) (va_Pc [.ref a0, .int x1] (g_Pre lo dd cT G)) (va_Qi (g_is rz G) (g_Pre lo dd cT) (g_A lo)) 0 0 (g_A lo) := by
  refine g_start RX8 rfl (by decide) (Nat.le_of_ble_eq_true rfl) ?_
  intro p e s m below meth c hx hb hr hlocks hml hown hnm hts hK hG hlo ls hl
  have hl : lv_has ls 2 [(0, .ref a0), (1, .int x1)] := hl
  have hG : g_S lo dd cT s s.heap [] G := hG
  unfold f_X8_isReached at h
  refine lv_aload_n hx hb dX8_isReached_0 rfl (lv_at hl 0 rfl) ?_
  obtain ⟨v1, e1, h⟩ := Option.bind_eq_some_iff.mp h
  refine g_getr hx hb hts inlX8 hown hK hG (by rfl) 1 (by decide) qF_X8_15 e1 dX8_isReached_1 ?_
  refine lv_iload_n hx hb dX8_isReached_4 rfl (lv_at hl 1 rfl) ?_
  obtain ⟨v5, e5, h⟩ := Option.bind_eq_some_iff.mp h
  refine g_cNi (As := [.ref v1, .int x1]) (rest := []) (n := 2) hx hb hml hown hts hK hlo hG (m_X9_isSet l dd cT lo G v1 x1 e5) (List.mem_of_getElem? (i := 43) rfl) qT_yX9_isSet qN_X9 qC_yX9_isSet (by decide +kernel) ⟨Nat.le_of_ble_eq_true rfl, Nat.le_of_ble_eq_true rfl⟩ rfl hl.1 rfl (Nat.le_of_ble_eq_true rfl) dX8_isReached_5 ⟨Nat.le_of_ble_eq_true rfl, Nat.le_of_ble_eq_true rfl⟩ (fun H locs hG => ?_)
  obtain ⟨n8, rfl⟩ := g_z_nar h
  exact g_zret hx hb hr hlocks hK hlo hG n8 ⟨rfl, rfl⟩ dX8_isReached_8
def f_X8_sessionOf (G : gH) (a0 : Nat) (x1 : Int32) : Option Int32 :=
    (g_r G a0 8 2).bind fun v1 =>
    (f_X9_at G v1 x1 (-1 : Int32)).bind fun v6 =>
    some v6
set_option maxRecDepth 20000 in
set_option maxHeartbeats 4000000 in
theorem m_X8_sessionOf (l : Launch) (dd : va_G) (cT : Nat → ClassId) (lo : Nat) (G : gH) (a0 : Nat) (x1 : Int32) {rz : Int32} (h : f_X8_sessionOf G a0 x1 = some rz) : Met l yX8_sessionOf (Cond.code yX8_sessionOf cX8_sessionOf 2 (some .int) :: wsL_law) (g_rm 1 22 0 0) (va_Pc [.ref a0, .int x1] (g_Pre lo dd cT G)) (va_Qi (g_is rz G) (g_Pre lo dd cT) (g_A lo)) 0 0 (g_A lo) := by
  refine g_start RX8 rfl (by decide) (Nat.le_of_ble_eq_true rfl) ?_
  intro p e s m below meth c hx hb hr hlocks hml hown hnm hts hK hG hlo ls hl
  have hl : lv_has ls 2 [(0, .ref a0), (1, .int x1)] := hl
  have hG : g_S lo dd cT s s.heap [] G := hG
  unfold f_X8_sessionOf at h
  refine lv_aload_n hx hb dX8_sessionOf_0 rfl (lv_at hl 0 rfl) ?_
  obtain ⟨v1, e1, h⟩ := Option.bind_eq_some_iff.mp h
  refine g_getr hx hb hts inlX8 hown hK hG (by rfl) 2 (by decide) qF_X8_19 e1 dX8_sessionOf_1 ?_
  refine lv_iload_n hx hb dX8_sessionOf_4 rfl (lv_at hl 1 rfl) ?_
  refine lv_iconst (v := (-1 : Int32)) hx hb dX8_sessionOf_5 (by decide) ?_
  obtain ⟨v6, e6, h⟩ := Option.bind_eq_some_iff.mp h
  refine g_cNi (As := [.ref v1, .int x1, .int (-1 : Int32)]) (rest := []) (n := 3) hx hb hml hown hts hK hlo hG (m_X9_at l dd cT lo G v1 x1 (-1 : Int32) e6) (List.mem_of_getElem? (i := 44) rfl) qT_yX9_at qN_X9 qC_yX9_at (by decide +kernel) ⟨Nat.le_of_ble_eq_true rfl, Nat.le_of_ble_eq_true rfl⟩ rfl hl.1 rfl (Nat.le_of_ble_eq_true rfl) dX8_sessionOf_6 ⟨Nat.le_of_ble_eq_true rfl, Nat.le_of_ble_eq_true rfl⟩ (fun H locs hG => ?_)
  obtain rfl := Option.some.inj h
  exact g_iret hx hb hr hlocks hK hlo hG ⟨rfl, rfl⟩ dX8_sessionOf_9
def f_X8_versionOf (G : gH) (a0 : Nat) (x1 : Int32) : Option Int32 :=
    (g_r G a0 8 3).bind fun v1 =>
    (f_X9_at G v1 x1 (-1 : Int32)).bind fun v6 =>
    some v6
set_option maxRecDepth 20000 in
set_option maxHeartbeats 4000000 in
theorem m_X8_versionOf (l : Launch) (dd : va_G) (cT : Nat → ClassId) (lo : Nat) (G : gH) (a0 : Nat) (x1 : Int32) {rz : Int32} (h : f_X8_versionOf G a0 x1 = some rz) : Met l yX8_versionOf (Cond.code yX8_versionOf cX8_versionOf 2 (some .int) :: wsL_law) (g_rm 1 22 0 0) (va_Pc [.ref a0, .int x1] (g_Pre lo dd cT G)) (va_Qi (g_is rz G) (g_Pre lo dd cT) (g_A lo)) 0 0 (g_A lo) := by
  refine g_start RX8 rfl (by decide) (Nat.le_of_ble_eq_true rfl) ?_
  intro p e s m below meth c hx hb hr hlocks hml hown hnm hts hK hG hlo ls hl
  have hl : lv_has ls 2 [(0, .ref a0), (1, .int x1)] := hl
  have hG : g_S lo dd cT s s.heap [] G := hG
  unfold f_X8_versionOf at h
  refine lv_aload_n hx hb dX8_versionOf_0 rfl (lv_at hl 0 rfl) ?_
  obtain ⟨v1, e1, h⟩ := Option.bind_eq_some_iff.mp h
  refine g_getr hx hb hts inlX8 hown hK hG (by rfl) 3 (by decide) qF_X8_23 e1 dX8_versionOf_1 ?_
  refine lv_iload_n hx hb dX8_versionOf_4 rfl (lv_at hl 1 rfl) ?_
  refine lv_iconst (v := (-1 : Int32)) hx hb dX8_versionOf_5 (by decide) ?_
  obtain ⟨v6, e6, h⟩ := Option.bind_eq_some_iff.mp h
  refine g_cNi (As := [.ref v1, .int x1, .int (-1 : Int32)]) (rest := []) (n := 3) hx hb hml hown hts hK hlo hG (m_X9_at l dd cT lo G v1 x1 (-1 : Int32) e6) (List.mem_of_getElem? (i := 44) rfl) qT_yX9_at qN_X9 qC_yX9_at (by decide +kernel) ⟨Nat.le_of_ble_eq_true rfl, Nat.le_of_ble_eq_true rfl⟩ rfl hl.1 rfl (Nat.le_of_ble_eq_true rfl) dX8_versionOf_6 ⟨Nat.le_of_ble_eq_true rfl, Nat.le_of_ble_eq_true rfl⟩ (fun H locs hG => ?_)
  obtain rfl := Option.some.inj h
  exact g_iret hx hb hr hlocks hK hlo hG ⟨rfl, rfl⟩ dX8_versionOf_9
def f_X8_isReadable (G : gH) (a0 : Nat) (x1 : Int32) : Option Int32 :=
    (g_r G a0 8 4).bind fun v1 =>
    (f_X9_isSet G v1 x1).bind fun v5 =>
    g_z v5
set_option maxRecDepth 20000 in
set_option maxHeartbeats 4000000 in
theorem m_X8_isReadable (l : Launch) (dd : va_G) (cT : Nat → ClassId) (lo : Nat) (G : gH) (a0 : Nat) (x1 : Int32) {rz : Int32} (h : f_X8_isReadable G a0 x1 = some rz) : Met l yX8_isReadable (Cond.code yX8_isReadable cX8_isReadable 2 (some .boolean) :: wsL_law) (g_rm 1 21 0 0) (va_Pc [.ref a0, .int x1] (g_Pre lo dd cT G)) (va_Qi (g_is rz G) (g_Pre lo dd cT) (g_A lo)) 0 0 (g_A lo) := by
  refine g_start RX8 rfl (by decide) (Nat.le_of_ble_eq_true rfl) ?_
  intro p e s m below meth c hx hb hr hlocks hml hown hnm hts hK hG hlo ls hl
  have hl : lv_has ls 2 [(0, .ref a0), (1, .int x1)] := hl
  have hG : g_S lo dd cT s s.heap [] G := hG
  unfold f_X8_isReadable at h
  refine lv_aload_n hx hb dX8_isReadable_0 rfl (lv_at hl 0 rfl) ?_
  obtain ⟨v1, e1, h⟩ := Option.bind_eq_some_iff.mp h
  refine g_getr hx hb hts inlX8 hown hK hG (by rfl) 4 (by decide) qF_X8_26 e1 dX8_isReadable_1 ?_
  refine lv_iload_n hx hb dX8_isReadable_4 rfl (lv_at hl 1 rfl) ?_
  obtain ⟨v5, e5, h⟩ := Option.bind_eq_some_iff.mp h
  refine g_cNi (As := [.ref v1, .int x1]) (rest := []) (n := 2) hx hb hml hown hts hK hlo hG (m_X9_isSet l dd cT lo G v1 x1 e5) (List.mem_of_getElem? (i := 43) rfl) qT_yX9_isSet qN_X9 qC_yX9_isSet (by decide +kernel) ⟨Nat.le_of_ble_eq_true rfl, Nat.le_of_ble_eq_true rfl⟩ rfl hl.1 rfl (Nat.le_of_ble_eq_true rfl) dX8_isReadable_5 ⟨Nat.le_of_ble_eq_true rfl, Nat.le_of_ble_eq_true rfl⟩ (fun H locs hG => ?_)
  obtain ⟨n8, rfl⟩ := g_z_nar h
  exact g_zret hx hb hr hlocks hK hlo hG n8 ⟨rfl, rfl⟩ dX8_isReadable_8
def f_X8_filesThere_L4 (G : gH) : Nat → Nat → Int32 → Int32 → Option Int32
  | 0, _, _, _ => none
  | n + 1, ba0, bx1, bx2 =>
    (g_i G ba0 8 0).bind fun v6 =>
    if v6 ≤ bx2 then
    some bx1
    else
    (g_ob G ba0 8).bind fun u15 =>
    (f_X8_versionOf G ba0 bx2).bind fun v15 =>
    if v15 = (-1 : Int32) then
    (f_X9_oneIf G (0 : Int32)).bind fun v27 =>
    f_X8_filesThere_L4 G n ba0 (bx1 + v27) (bx2 + (1 : Int32))
    else
    (f_X9_oneIf G (1 : Int32)).bind fun v27 =>
    f_X8_filesThere_L4 G n ba0 (bx1 + v27) (bx2 + (1 : Int32))
def f_X8_filesThere (G : gH) (a0 : Nat) : Option Int32 :=
    f_X8_filesThere_L4 G g_N a0 (0 : Int32) (0 : Int32)
set_option maxRecDepth 20000 in
set_option maxHeartbeats 4000000 in
theorem m_X8_filesThere (l : Launch) (dd : va_G) (cT : Nat → ClassId) (lo : Nat) (G : gH) (a0 : Nat) {rz : Int32} (h : f_X8_filesThere G a0 = some rz) : Met l yX8_filesThere (Cond.code yX8_filesThere cX8_filesThere 3 (some .int) :: wsL_law) (g_rm 2 43 0 0) (va_Pc [.ref a0] (g_Pre lo dd cT G)) (va_Qi (g_is rz G) (g_Pre lo dd cT) (g_A lo)) 0 0 (g_A lo) := by
  refine g_start RX8 rfl (by decide) (Nat.le_of_ble_eq_true rfl) ?_
  intro p e s m below meth c hx hb hr hlocks hml hown hnm hts hK hG hlo ls hl
  have hl : lv_has ls 3 [(0, .ref a0)] := hl
  have hG : g_S lo dd cT s s.heap [] G := hG
  have h4 : ∀ n : Nat, ∀ (ba0 : Nat) (bx1 : Int32) (bx2 : Int32), ∀ (H : Heap) (locs : List Loc), g_S lo dd cT s H locs G → ∀ ls : Array Slot, lv_has ls 3 [(0, .ref ba0), (1, .int bx1), (2, .int bx2)] → f_X8_filesThere_L4 G n ba0 bx1 bx2 = some rz → W p l e (g_rm 2 43 0 0) s m ([.ref a0] : List Value).toArray below meth c H locs 0 0 (MQ below (va_Qi (g_is rz G) (g_Pre lo dd cT) (g_A lo)) ([.ref a0] : List Value).toArray s 0 0 (g_A lo)) (F0 m 4 ls []) := by
    intro n
    induction n with
    | zero =>
      intro ba0 bx1 bx2 H locs hG ls hl h
      cases (show (none : Option Int32) = some rz from h)
    | succ n ih =>
      intro ba0 bx1 bx2 H locs hG ls hl h
      rw [f_X8_filesThere_L4] at h
      refine lv_iload_n hx hb dX8_filesThere_4 rfl (lv_at hl 2 rfl) ?_
      refine lv_aload_n hx hb dX8_filesThere_5 rfl (lv_at hl 0 rfl) ?_
      obtain ⟨v6, e6, h⟩ := Option.bind_eq_some_iff.mp h
      refine g_geti hx hb hts inlX8 hown hK hG (by rfl) 0 (by decide) qF_X8_9 e6 dX8_filesThere_6 ?_
      refine lv_icmp_ge (tgt := 38) hx hb dX8_filesThere_9 (by decide) (fun c9 => ?_) (fun c9 => ?_)
      · rw [if_pos c9] at h
        refine lv_iload_n hx hb dX8_filesThere_38 rfl (lv_at hl 1 rfl) ?_
        obtain rfl := Option.some.inj h
        exact g_iret hx hb hr hlocks hK hlo hG ⟨rfl, rfl⟩ dX8_filesThere_39
      · rw [if_neg c9] at h
        refine lv_iload_n hx hb dX8_filesThere_12 rfl (lv_at hl 1 rfl) ?_
        refine lv_aload_n hx hb dX8_filesThere_13 rfl (lv_at hl 0 rfl) ?_
        refine lv_iload_n hx hb dX8_filesThere_14 rfl (lv_at hl 2 rfl) ?_
        obtain ⟨u15, i15, h⟩ := Option.bind_eq_some_iff.mp h
        obtain ⟨v15, e15, h⟩ := Option.bind_eq_some_iff.mp h
        refine g_cVi (As := [.int bx2]) (rest := [.int bx1]) (n := 1) hx hb hml hown hts hK hlo hG (m_X8_versionOf l dd cT lo G ba0 bx2 e15) qM_X8_93 qI_yX8_versionOf qS_X8_yX8_versionOf qN_X8 qC_yX8_versionOf (by decide +kernel) ⟨Nat.le_of_ble_eq_true rfl, Nat.le_of_ble_eq_true rfl⟩ (by rfl) i15 rfl hl.1 rfl (Nat.le_of_ble_eq_true rfl) dX8_filesThere_15 ⟨Nat.le_of_ble_eq_true rfl, Nat.le_of_ble_eq_true rfl⟩ (fun H locs hG => ?_)
        refine lv_iconst (v := (-1 : Int32)) hx hb dX8_filesThere_18 (by decide) ?_
        refine lv_icmp_eq (tgt := 26) hx hb dX8_filesThere_19 (by decide) (fun c19 => ?_) (fun c19 => ?_)
        · rw [if_pos c19] at h
          refine lv_iconst (v := (0 : Int32)) hx hb dX8_filesThere_26 (by decide) ?_
          obtain ⟨v27, e27, h⟩ := Option.bind_eq_some_iff.mp h
          refine g_cNi (As := [.int (0 : Int32)]) (rest := [.int bx1]) (n := 1) hx hb hml hown hts hK hlo hG (m_X9_oneIf l dd cT lo G (0 : Int32) e27) (List.mem_of_getElem? (i := 45) rfl) qT_yX9_oneIf qN_X9 qC_yX9_oneIf (by decide +kernel) ⟨Nat.le_of_ble_eq_true rfl, Nat.le_of_ble_eq_true rfl⟩ rfl hl.1 rfl (Nat.le_of_ble_eq_true rfl) dX8_filesThere_27 ⟨Nat.le_of_ble_eq_true rfl, Nat.le_of_ble_eq_true rfl⟩ (fun H locs hG => ?_)
          refine lv_iadd hx hb dX8_filesThere_30 ?_
          refine lv_istore_n (lv' := [(1, .int (bx1 + v27)), (0, .ref ba0), (2, .int bx2)]) hx hb dX8_filesThere_31 rfl hl (by decide) rfl (fun ls hl => ?_)
          refine lv_iinc (v := (bx2 + (1 : Int32))) (lv' := [(2, .int (bx2 + (1 : Int32))), (1, .int (bx1 + v27)), (0, .ref ba0)]) hx hb dX8_filesThere_32 hl (k := 2) rfl rfl (by decide) rfl (fun ls hl => ?_)
          refine lv_goto (tgt := 4) hx hb dX8_filesThere_35 (by decide) ?_
          exact ih ba0 (bx1 + v27) (bx2 + (1 : Int32)) _ _ hG _ (lv_sub hl [2, 1, 0] rfl) h
        · rw [if_neg c19] at h
          refine lv_iconst (v := (1 : Int32)) hx hb dX8_filesThere_22 (by decide) ?_
          refine lv_goto (tgt := 27) hx hb dX8_filesThere_23 (by decide) ?_
          obtain ⟨v27, e27, h⟩ := Option.bind_eq_some_iff.mp h
          refine g_cNi (As := [.int (1 : Int32)]) (rest := [.int bx1]) (n := 1) hx hb hml hown hts hK hlo hG (m_X9_oneIf l dd cT lo G (1 : Int32) e27) (List.mem_of_getElem? (i := 45) rfl) qT_yX9_oneIf qN_X9 qC_yX9_oneIf (by decide +kernel) ⟨Nat.le_of_ble_eq_true rfl, Nat.le_of_ble_eq_true rfl⟩ rfl hl.1 rfl (Nat.le_of_ble_eq_true rfl) dX8_filesThere_27 ⟨Nat.le_of_ble_eq_true rfl, Nat.le_of_ble_eq_true rfl⟩ (fun H locs hG => ?_)
          refine lv_iadd hx hb dX8_filesThere_30 ?_
          refine lv_istore_n (lv' := [(1, .int (bx1 + v27)), (0, .ref ba0), (2, .int bx2)]) hx hb dX8_filesThere_31 rfl hl (by decide) rfl (fun ls hl => ?_)
          refine lv_iinc (v := (bx2 + (1 : Int32))) (lv' := [(2, .int (bx2 + (1 : Int32))), (1, .int (bx1 + v27)), (0, .ref ba0)]) hx hb dX8_filesThere_32 hl (k := 2) rfl rfl (by decide) rfl (fun ls hl => ?_)
          refine lv_goto (tgt := 4) hx hb dX8_filesThere_35 (by decide) ?_
          exact ih ba0 (bx1 + v27) (bx2 + (1 : Int32)) _ _ hG _ (lv_sub hl [2, 1, 0] rfl) h
  unfold f_X8_filesThere at h
  refine lv_iconst (v := (0 : Int32)) hx hb dX8_filesThere_0 (by decide) ?_
  refine lv_istore_n (lv' := [(1, .int (0 : Int32)), (0, .ref a0)]) hx hb dX8_filesThere_1 rfl hl (by decide) rfl (fun ls hl => ?_)
  refine lv_iconst (v := (0 : Int32)) hx hb dX8_filesThere_2 (by decide) ?_
  refine lv_istore_n (lv' := [(2, .int (0 : Int32)), (1, .int (0 : Int32)), (0, .ref a0)]) hx hb dX8_filesThere_3 rfl hl (by decide) rfl (fun ls hl => ?_)
  exact h4 g_N a0 (0 : Int32) (0 : Int32) _ _ hG _ (lv_sub hl [2, 1, 0] rfl) h
def f_X8_filesReadable_L4 (G : gH) : Nat → Nat → Int32 → Int32 → Option Int32
  | 0, _, _, _ => none
  | n + 1, ba0, bx1, bx2 =>
    (g_i G ba0 8 0).bind fun v6 =>
    if v6 ≤ bx2 then
    some bx1
    else
    (g_ob G ba0 8).bind fun u15 =>
    (f_X8_isReadable G ba0 bx2).bind fun v15 =>
    (f_X9_oneIf G v15).bind fun v18 =>
    f_X8_filesReadable_L4 G n ba0 (bx1 + v18) (bx2 + (1 : Int32))
def f_X8_filesReadable (G : gH) (a0 : Nat) : Option Int32 :=
    f_X8_filesReadable_L4 G g_N a0 (0 : Int32) (0 : Int32)
set_option maxRecDepth 20000 in
set_option maxHeartbeats 4000000 in
theorem m_X8_filesReadable (l : Launch) (dd : va_G) (cT : Nat → ClassId) (lo : Nat) (G : gH) (a0 : Nat) {rz : Int32} (h : f_X8_filesReadable G a0 = some rz) : Met l yX8_filesReadable (Cond.code yX8_filesReadable cX8_filesReadable 3 (some .int) :: wsL_law) (g_rm 2 42 0 0) (va_Pc [.ref a0] (g_Pre lo dd cT G)) (va_Qi (g_is rz G) (g_Pre lo dd cT) (g_A lo)) 0 0 (g_A lo) := by
  refine g_start RX8 rfl (by decide) (Nat.le_of_ble_eq_true rfl) ?_
  intro p e s m below meth c hx hb hr hlocks hml hown hnm hts hK hG hlo ls hl
  have hl : lv_has ls 3 [(0, .ref a0)] := hl
  have hG : g_S lo dd cT s s.heap [] G := hG
  have h4 : ∀ n : Nat, ∀ (ba0 : Nat) (bx1 : Int32) (bx2 : Int32), ∀ (H : Heap) (locs : List Loc), g_S lo dd cT s H locs G → ∀ ls : Array Slot, lv_has ls 3 [(0, .ref ba0), (1, .int bx1), (2, .int bx2)] → f_X8_filesReadable_L4 G n ba0 bx1 bx2 = some rz → W p l e (g_rm 2 42 0 0) s m ([.ref a0] : List Value).toArray below meth c H locs 0 0 (MQ below (va_Qi (g_is rz G) (g_Pre lo dd cT) (g_A lo)) ([.ref a0] : List Value).toArray s 0 0 (g_A lo)) (F0 m 4 ls []) := by
    intro n
    induction n with
    | zero =>
      intro ba0 bx1 bx2 H locs hG ls hl h
      cases (show (none : Option Int32) = some rz from h)
    | succ n ih =>
      intro ba0 bx1 bx2 H locs hG ls hl h
      rw [f_X8_filesReadable_L4] at h
      refine lv_iload_n hx hb dX8_filesReadable_4 rfl (lv_at hl 2 rfl) ?_
      refine lv_aload_n hx hb dX8_filesReadable_5 rfl (lv_at hl 0 rfl) ?_
      obtain ⟨v6, e6, h⟩ := Option.bind_eq_some_iff.mp h
      refine g_geti hx hb hts inlX8 hown hK hG (by rfl) 0 (by decide) qF_X8_9 e6 dX8_filesReadable_6 ?_
      refine lv_icmp_ge (tgt := 29) hx hb dX8_filesReadable_9 (by decide) (fun c9 => ?_) (fun c9 => ?_)
      · rw [if_pos c9] at h
        refine lv_iload_n hx hb dX8_filesReadable_29 rfl (lv_at hl 1 rfl) ?_
        obtain rfl := Option.some.inj h
        exact g_iret hx hb hr hlocks hK hlo hG ⟨rfl, rfl⟩ dX8_filesReadable_30
      · rw [if_neg c9] at h
        refine lv_iload_n hx hb dX8_filesReadable_12 rfl (lv_at hl 1 rfl) ?_
        refine lv_aload_n hx hb dX8_filesReadable_13 rfl (lv_at hl 0 rfl) ?_
        refine lv_iload_n hx hb dX8_filesReadable_14 rfl (lv_at hl 2 rfl) ?_
        obtain ⟨u15, i15, h⟩ := Option.bind_eq_some_iff.mp h
        obtain ⟨v15, e15, h⟩ := Option.bind_eq_some_iff.mp h
        refine g_cVi (As := [.int bx2]) (rest := [.int bx1]) (n := 1) hx hb hml hown hts hK hlo hG (m_X8_isReadable l dd cT lo G ba0 bx2 e15) qM_X8_100 qI_yX8_isReadable qS_X8_yX8_isReadable qN_X8 qC_yX8_isReadable (by decide +kernel) ⟨Nat.le_of_ble_eq_true rfl, Nat.le_of_ble_eq_true rfl⟩ (by rfl) i15 rfl hl.1 rfl (Nat.le_of_ble_eq_true rfl) dX8_filesReadable_15 ⟨Nat.le_of_ble_eq_true rfl, Nat.le_of_ble_eq_true rfl⟩ (fun H locs hG => ?_)
        obtain ⟨v18, e18, h⟩ := Option.bind_eq_some_iff.mp h
        refine g_cNi (As := [.int v15]) (rest := [.int bx1]) (n := 1) hx hb hml hown hts hK hlo hG (m_X9_oneIf l dd cT lo G v15 e18) (List.mem_of_getElem? (i := 45) rfl) qT_yX9_oneIf qN_X9 qC_yX9_oneIf (by decide +kernel) ⟨Nat.le_of_ble_eq_true rfl, Nat.le_of_ble_eq_true rfl⟩ rfl hl.1 rfl (Nat.le_of_ble_eq_true rfl) dX8_filesReadable_18 ⟨Nat.le_of_ble_eq_true rfl, Nat.le_of_ble_eq_true rfl⟩ (fun H locs hG => ?_)
        refine lv_iadd hx hb dX8_filesReadable_21 ?_
        refine lv_istore_n (lv' := [(1, .int (bx1 + v18)), (0, .ref ba0), (2, .int bx2)]) hx hb dX8_filesReadable_22 rfl hl (by decide) rfl (fun ls hl => ?_)
        refine lv_iinc (v := (bx2 + (1 : Int32))) (lv' := [(2, .int (bx2 + (1 : Int32))), (1, .int (bx1 + v18)), (0, .ref ba0)]) hx hb dX8_filesReadable_23 hl (k := 2) rfl rfl (by decide) rfl (fun ls hl => ?_)
        refine lv_goto (tgt := 4) hx hb dX8_filesReadable_26 (by decide) ?_
        exact ih ba0 (bx1 + v18) (bx2 + (1 : Int32)) _ _ hG _ (lv_sub hl [2, 1, 0] rfl) h
  unfold f_X8_filesReadable at h
  refine lv_iconst (v := (0 : Int32)) hx hb dX8_filesReadable_0 (by decide) ?_
  refine lv_istore_n (lv' := [(1, .int (0 : Int32)), (0, .ref a0)]) hx hb dX8_filesReadable_1 rfl hl (by decide) rfl (fun ls hl => ?_)
  refine lv_iconst (v := (0 : Int32)) hx hb dX8_filesReadable_2 (by decide) ?_
  refine lv_istore_n (lv' := [(2, .int (0 : Int32)), (1, .int (0 : Int32)), (0, .ref a0)]) hx hb dX8_filesReadable_3 rfl hl (by decide) rfl (fun ls hl => ?_)
  exact h4 g_N a0 (0 : Int32) (0 : Int32) _ _ hG _ (lv_sub hl [2, 1, 0] rfl) h
def f_X9_find (G : gH) (a0 : Nat) : Option (gH × Int32) :=
    (g_r G a0 9 0).bind fun v1 =>
    (g_ob G v1 3).bind fun u4 =>
    (f_X3_nameAlone G v1).bind fun v4 =>
    (g_r G a0 9 0).bind fun v9 =>
    (g_put G v9 3 1 (.int (0 : Int32))).bind fun G13 =>
    if (lg_cmp v4 (-1 : Int64)) = 0 then
    some (G13, (-1 : Int32))
    else
    (g_r G13 a0 9 5).bind fun v29 =>
    (g_ob G13 v29 1).bind fun u33 =>
    (f_X1_fileNamed G13 v29 v4).bind fun v33 =>
    some (G13, v33)
set_option maxRecDepth 20000 in
set_option maxHeartbeats 4000000 in
theorem m_X9_find (l : Launch) (dd : va_G) (cT : Nat → ClassId) (lo : Nat) (G : gH) (a0 : Nat) {rz : Int32} {Gz : gH} (h : f_X9_find G a0 = some (Gz, rz)) : Met l yX9_find (Cond.code yX9_find cX9_find 3 (some .int) :: wsL_law) (g_rm 4 90 0 0) (va_Pc [.ref a0] (g_Pre lo dd cT G)) (va_Qi (g_is rz Gz) (g_Pre lo dd cT) (g_A lo)) 0 0 (g_A lo) := by
  refine g_start RX9 rfl (by decide) (Nat.le_of_ble_eq_true rfl) ?_
  intro p e s m below meth c hx hb hr hlocks hml hown hnm hts hK hG hlo ls hl
  have hl : lv_has ls 3 [(0, .ref a0)] := hl
  have hG : g_S lo dd cT s s.heap [] G := hG
  unfold f_X9_find at h
  refine lv_aload_n hx hb dX9_find_0 rfl (lv_at hl 0 rfl) ?_
  obtain ⟨v1, e1, h⟩ := Option.bind_eq_some_iff.mp h
  refine g_getr hx hb hts inlX9 hown hK hG (by rfl) 0 (by decide) qF_X9_10 e1 dX9_find_1 ?_
  obtain ⟨u4, i4, h⟩ := Option.bind_eq_some_iff.mp h
  obtain ⟨v4, e4, h⟩ := Option.bind_eq_some_iff.mp h
  refine g_cVj (As := []) (rest := []) (n := 0) hx hb hml hown hts hK hlo hG (m_X3_nameAlone l dd cT lo G v1 e4) qM_X9_147 qI_yX3_nameAlone qS_X3_yX3_nameAlone qN_X3 qC_yX3_nameAlone (by decide +kernel) ⟨Nat.le_of_ble_eq_true rfl, Nat.le_of_ble_eq_true rfl⟩ (by rfl) i4 rfl hl.1 rfl (Nat.le_of_ble_eq_true rfl) dX9_find_4 ⟨Nat.le_of_ble_eq_true rfl, Nat.le_of_ble_eq_true rfl⟩ (fun H locs hG => ?_)
  refine lv_lstore_n (lv' := [(1, .long v4), (0, .ref a0)]) hx hb dX9_find_7 rfl hl (by decide) rfl (fun ls hl => ?_)
  refine lv_aload_n hx hb dX9_find_8 rfl (lv_at hl 1 rfl) ?_
  obtain ⟨v9, e9, h⟩ := Option.bind_eq_some_iff.mp h
  refine g_getr hx hb hts inlX9 hown hK hG (by rfl) 0 (by decide) qF_X9_10 e9 dX9_find_9 ?_
  refine lv_iconst (v := (0 : Int32)) hx hb dX9_find_12 (by decide) ?_
  obtain ⟨G13, i13, h⟩ := Option.bind_eq_some_iff.mp h
  refine g_putv hx hb hts inlX3 tyX3 tyX3_ok nmX3 hown hK hG (by rfl) 1 (by decide) qF_X9_66 rfl rfl rfl rfl i13 dX9_find_13 (fun H locs hG => ?_)
  refine lv_lload_n hx hb dX9_find_16 rfl (lv_at hl 0 rfl) ?_
  refine lv_ldc2 hx hb hown (hts _ qJ_X9_151) dX9_find_17 ?_
  refine W.lcmp hx hb dX9_find_20 ?_
  refine lv_if_ne (tgt := 28) hx hb dX9_find_21 (by decide) (fun c21 => ?_) (fun c21 => ?_)
  · rw [if_neg c21] at h
    refine lv_aload_n hx hb dX9_find_28 rfl (lv_at hl 1 rfl) ?_
    obtain ⟨v29, e29, h⟩ := Option.bind_eq_some_iff.mp h
    refine g_getr hx hb hts inlX9 hown hK hG (by rfl) 5 (by decide) qF_X9_47 e29 dX9_find_29 ?_
    refine lv_lload_n hx hb dX9_find_32 rfl (lv_at hl 0 rfl) ?_
    obtain ⟨u33, i33, h⟩ := Option.bind_eq_some_iff.mp h
    obtain ⟨v33, e33, h⟩ := Option.bind_eq_some_iff.mp h
    refine g_cVi (As := [.long v4]) (rest := []) (n := 1) hx hb hml hown hts hK hlo hG (m_X1_fileNamed l dd cT lo G13 v29 v4 e33) qM_X9_153 qI_yX1_fileNamed qS_X1_yX1_fileNamed qN_X1 qC_yX1_fileNamed (by decide +kernel) ⟨Nat.le_of_ble_eq_true rfl, Nat.le_of_ble_eq_true rfl⟩ (by rfl) i33 rfl hl.1 rfl (Nat.le_of_ble_eq_true rfl) dX9_find_33 ⟨Nat.le_of_ble_eq_true rfl, Nat.le_of_ble_eq_true rfl⟩ (fun H locs hG => ?_)
    obtain ⟨rfl, rfl⟩ := Prod.mk.inj (Option.some.inj h)
    exact g_iret hx hb hr hlocks hK hlo hG ⟨rfl, rfl⟩ dX9_find_36
  · rw [if_pos c21] at h
    refine lv_iconst (v := (-1 : Int32)) hx hb dX9_find_24 (by decide) ?_
    refine lv_goto (tgt := 36) hx hb dX9_find_25 (by decide) ?_
    obtain ⟨rfl, rfl⟩ := Prod.mk.inj (Option.some.inj h)
    exact g_iret hx hb hr hlocks hK hlo hG ⟨rfl, rfl⟩ dX9_find_36
def f_X0_mainBlocksOf (G : gH) (a0 : Nat) (x1 : Int32) : Option Int32 :=
    (g_i G a0 0 1).bind fun v4 =>
    (g_ob G a0 0).bind fun u7 =>
    (f_X0_blocksOf G a0 x1 (0 : Int32) v4).bind fun v7 =>
    some v7
set_option maxRecDepth 20000 in
set_option maxHeartbeats 4000000 in
theorem m_X0_mainBlocksOf (l : Launch) (dd : va_G) (cT : Nat → ClassId) (lo : Nat) (G : gH) (a0 : Nat) (x1 : Int32) {rz : Int32} (h : f_X0_mainBlocksOf G a0 x1 = some rz) : Met l yX0_mainBlocksOf (Cond.code yX0_mainBlocksOf cX0_mainBlocksOf 2 (some .int) :: wsL_law) (g_rm 3 68 0 0) (va_Pc [.ref a0, .int x1] (g_Pre lo dd cT G)) (va_Qi (g_is rz G) (g_Pre lo dd cT) (g_A lo)) 0 0 (g_A lo) := by
  refine g_start RX0 rfl (by decide) (Nat.le_of_ble_eq_true rfl) ?_
  intro p e s m below meth c hx hb hr hlocks hml hown hnm hts hK hG hlo ls hl
  have hl : lv_has ls 2 [(0, .ref a0), (1, .int x1)] := hl
  have hG : g_S lo dd cT s s.heap [] G := hG
  unfold f_X0_mainBlocksOf at h
  refine lv_aload_n hx hb dX0_mainBlocksOf_0 rfl (lv_at hl 0 rfl) ?_
  refine lv_iload_n hx hb dX0_mainBlocksOf_1 rfl (lv_at hl 1 rfl) ?_
  refine lv_iconst (v := (0 : Int32)) hx hb dX0_mainBlocksOf_2 (by decide) ?_
  refine lv_aload_n hx hb dX0_mainBlocksOf_3 rfl (lv_at hl 0 rfl) ?_
  obtain ⟨v4, e4, h⟩ := Option.bind_eq_some_iff.mp h
  refine g_geti hx hb hts inlX0 hown hK hG (by rfl) 1 (by decide) qF_X0_15 e4 dX0_mainBlocksOf_4 ?_
  obtain ⟨u7, i7, h⟩ := Option.bind_eq_some_iff.mp h
  obtain ⟨v7, e7, h⟩ := Option.bind_eq_some_iff.mp h
  refine g_cVi (As := [.int x1, .int (0 : Int32), .int v4]) (rest := []) (n := 3) hx hb hml hown hts hK hlo hG (m_X0_blocksOf l dd cT lo G a0 x1 (0 : Int32) v4 e7) qM_X0_90 qI_yX0_blocksOf qS_X0_yX0_blocksOf qN_X0 qC_yX0_blocksOf (by decide +kernel) ⟨Nat.le_of_ble_eq_true rfl, Nat.le_of_ble_eq_true rfl⟩ (by rfl) i7 rfl hl.1 rfl (Nat.le_of_ble_eq_true rfl) dX0_mainBlocksOf_7 ⟨Nat.le_of_ble_eq_true rfl, Nat.le_of_ble_eq_true rfl⟩ (fun H locs hG => ?_)
  obtain rfl := Option.some.inj h
  exact g_iret hx hb hr hlocks hK hlo hG ⟨rfl, rfl⟩ dX0_mainBlocksOf_10
def f_X0_spareBlocksOf (G : gH) (a0 : Nat) (x1 : Int32) : Option Int32 :=
    (g_i G a0 0 1).bind fun v3 =>
    (g_i G a0 0 0).bind fun v7 =>
    (g_ob G a0 0).bind fun u10 =>
    (f_X0_blocksOf G a0 x1 v3 v7).bind fun v10 =>
    some v10
set_option maxRecDepth 20000 in
set_option maxHeartbeats 4000000 in
theorem m_X0_spareBlocksOf (l : Launch) (dd : va_G) (cT : Nat → ClassId) (lo : Nat) (G : gH) (a0 : Nat) (x1 : Int32) {rz : Int32} (h : f_X0_spareBlocksOf G a0 x1 = some rz) : Met l yX0_spareBlocksOf (Cond.code yX0_spareBlocksOf cX0_spareBlocksOf 2 (some .int) :: wsL_law) (g_rm 3 68 0 0) (va_Pc [.ref a0, .int x1] (g_Pre lo dd cT G)) (va_Qi (g_is rz G) (g_Pre lo dd cT) (g_A lo)) 0 0 (g_A lo) := by
  refine g_start RX0 rfl (by decide) (Nat.le_of_ble_eq_true rfl) ?_
  intro p e s m below meth c hx hb hr hlocks hml hown hnm hts hK hG hlo ls hl
  have hl : lv_has ls 2 [(0, .ref a0), (1, .int x1)] := hl
  have hG : g_S lo dd cT s s.heap [] G := hG
  unfold f_X0_spareBlocksOf at h
  refine lv_aload_n hx hb dX0_spareBlocksOf_0 rfl (lv_at hl 0 rfl) ?_
  refine lv_iload_n hx hb dX0_spareBlocksOf_1 rfl (lv_at hl 1 rfl) ?_
  refine lv_aload_n hx hb dX0_spareBlocksOf_2 rfl (lv_at hl 0 rfl) ?_
  obtain ⟨v3, e3, h⟩ := Option.bind_eq_some_iff.mp h
  refine g_geti hx hb hts inlX0 hown hK hG (by rfl) 1 (by decide) qF_X0_15 e3 dX0_spareBlocksOf_3 ?_
  refine lv_aload_n hx hb dX0_spareBlocksOf_6 rfl (lv_at hl 0 rfl) ?_
  obtain ⟨v7, e7, h⟩ := Option.bind_eq_some_iff.mp h
  refine g_geti hx hb hts inlX0 hown hK hG (by rfl) 0 (by decide) qF_X0_9 e7 dX0_spareBlocksOf_7 ?_
  obtain ⟨u10, i10, h⟩ := Option.bind_eq_some_iff.mp h
  obtain ⟨v10, e10, h⟩ := Option.bind_eq_some_iff.mp h
  refine g_cVi (As := [.int x1, .int v3, .int v7]) (rest := []) (n := 3) hx hb hml hown hts hK hlo hG (m_X0_blocksOf l dd cT lo G a0 x1 v3 v7 e10) qM_X0_90 qI_yX0_blocksOf qS_X0_yX0_blocksOf qN_X0 qC_yX0_blocksOf (by decide +kernel) ⟨Nat.le_of_ble_eq_true rfl, Nat.le_of_ble_eq_true rfl⟩ (by rfl) i10 rfl hl.1 rfl (Nat.le_of_ble_eq_true rfl) dX0_spareBlocksOf_10 ⟨Nat.le_of_ble_eq_true rfl, Nat.le_of_ble_eq_true rfl⟩ (fun H locs hG => ?_)
  obtain rfl := Option.some.inj h
  exact g_iret hx hb hr hlocks hK hlo hG ⟨rfl, rfl⟩ dX0_spareBlocksOf_13
def f_X0_writeNext_J67 (G : gH) (ba0 : Nat) (bx1 : Int32) (bx2 : Int32) (bx3 : Int32) (bx4 : Int32) (bx5 : Int32) (bx6 : Int32) : Option gH :=
    (g_r G ba0 0 10).bind fun v68 =>
    (f_X9_put G v68 bx5 bx6).bind fun G75 =>
    (g_r G75 ba0 0 3).bind fun v79 =>
    (f_X9_put G75 v79 bx6 bx1).bind fun G85 =>
    (g_r G85 ba0 0 6).bind fun v89 =>
    (f_X9_put G85 v89 bx6 bx2).bind fun G95 =>
    (g_r G95 ba0 0 7).bind fun v99 =>
    (f_X9_put G95 v99 bx6 bx3).bind fun G105 =>
    (g_r G105 ba0 0 8).bind fun v109 =>
    (f_X9_put G105 v109 bx6 bx4).bind fun G116 =>
    some G116
def f_X0_writeNext (G : gH) (a0 : Nat) (x1 : Int32) (x2 : Int32) (x3 : Int32) (x4 : Int32) : Option gH :=
    (g_i G a0 0 2).bind fun v1 =>
    (g_i G a0 0 2).bind fun v8 =>
    (g_put G a0 0 2 (.int (v8 + (1 : Int32)))).bind fun G13 =>
    (g_ob G13 a0 0).bind fun u23 =>
    (f_X0_isBad G13 a0 v1).bind fun v23 =>
    if v23 = 0 then
    f_X0_writeNext_J67 G13 a0 x1 x2 x3 x4 v1 v1
    else
    (g_r G13 a0 0 3).bind fun v30 =>
    (f_X9_put G13 v30 v1 (3 : Int32)).bind fun G36 =>
    (g_r G36 a0 0 6).bind fun v40 =>
    (f_X9_put G36 v40 v1 x2).bind fun G46 =>
    (g_ob G46 a0 0).bind fun u51 =>
    (f_X0_takeSpare G46 a0 x2).bind fun q51 =>
    (g_r q51.1 a0 0 9).bind fun v57 =>
    (f_X9_put q51.1 v57 q51.2 v1).bind fun G64 =>
    f_X0_writeNext_J67 G64 a0 x1 x2 x3 x4 v1 q51.2
set_option maxRecDepth 20000 in
set_option maxHeartbeats 4000000 in
theorem m_X0_writeNext (l : Launch) (dd : va_G) (cT : Nat → ClassId) (lo : Nat) (G : gH) (a0 : Nat) (x1 : Int32) (x2 : Int32) (x3 : Int32) (x4 : Int32) {Gz : gH} (h : f_X0_writeNext G a0 x1 x2 x3 x4 = some Gz) : Met l yX0_writeNext (Cond.code yX0_writeNext cX0_writeNext 7 none :: wsL_law) (g_rm 3 65 0 0) (va_Pc [.ref a0, .int x1, .int x2, .int x3, .int x4] (g_Pre lo dd cT G)) (va_Qv (g_iv Gz) (g_Pre lo dd cT) (g_A lo)) 0 0 (g_A lo) := by
  refine g_start RX0 rfl (by decide) (Nat.le_of_ble_eq_true rfl) ?_
  intro p e s m below meth c hx hb hr hlocks hml hown hnm hts hK hG hlo ls hl
  have hl : lv_has ls 7 [(0, .ref a0), (1, .int x1), (2, .int x2), (3, .int x3), (4, .int x4)] := hl
  have hG : g_S lo dd cT s s.heap [] G := hG
  have h67 : ∀ (G : gH) (ba0 : Nat) (bx1 : Int32) (bx2 : Int32) (bx3 : Int32) (bx4 : Int32) (bx5 : Int32) (bx6 : Int32), ∀ (H : Heap) (locs : List Loc), g_S lo dd cT s H locs G → ∀ ls : Array Slot, lv_has ls 7 [(0, .ref ba0), (1, .int bx1), (2, .int bx2), (3, .int bx3), (4, .int bx4), (5, .int bx5), (6, .int bx6)] → f_X0_writeNext_J67 G ba0 bx1 bx2 bx3 bx4 bx5 bx6 = some Gz → W p l e (g_rm 3 65 0 0) s m ([.ref a0, .int x1, .int x2, .int x3, .int x4] : List Value).toArray below meth c H locs 0 0 (MQ below (va_Qv (g_iv Gz) (g_Pre lo dd cT) (g_A lo)) ([.ref a0, .int x1, .int x2, .int x3, .int x4] : List Value).toArray s 0 0 (g_A lo)) (F0 m 67 ls []) := by
    intro G ba0 bx1 bx2 bx3 bx4 bx5 bx6 H locs hG ls hl h
    unfold f_X0_writeNext_J67 at h
    refine lv_aload_n hx hb dX0_writeNext_67 rfl (lv_at hl 0 rfl) ?_
    obtain ⟨v68, e68, h⟩ := Option.bind_eq_some_iff.mp h
    refine g_getr hx hb hts inlX0 hown hK hG (by rfl) 10 (by decide) qF_X0_44 e68 dX0_writeNext_68 ?_
    refine lv_iload hx hb dX0_writeNext_71 (lv_at hl 5 rfl) ?_
    refine lv_iload hx hb dX0_writeNext_73 (lv_at hl 6 rfl) ?_
    obtain ⟨G75, e75, h⟩ := Option.bind_eq_some_iff.mp h
    refine g_cNv (As := [.ref v68, .int bx5, .int bx6]) (rest := []) (n := 3) hx hb hml hown hts hK hlo hG (m_X9_put l dd cT lo G v68 bx5 bx6 e75) (List.mem_of_getElem? (i := 13) rfl) qT_yX9_put qN_X9 qC_yX9_put (by decide +kernel) ⟨Nat.le_of_ble_eq_true rfl, Nat.le_of_ble_eq_true rfl⟩ rfl hl.1 rfl (Nat.le_of_ble_eq_true rfl) dX0_writeNext_75 ⟨Nat.le_of_ble_eq_true rfl, Nat.le_of_ble_eq_true rfl⟩ (fun H locs hG => ?_)
    refine lv_aload_n hx hb dX0_writeNext_78 rfl (lv_at hl 0 rfl) ?_
    obtain ⟨v79, e79, h⟩ := Option.bind_eq_some_iff.mp h
    refine g_getr hx hb hts inlX0 hown hK hG (by rfl) 3 (by decide) qF_X0_21 e79 dX0_writeNext_79 ?_
    refine lv_iload hx hb dX0_writeNext_82 (lv_at hl 6 rfl) ?_
    refine lv_iload_n hx hb dX0_writeNext_84 rfl (lv_at hl 1 rfl) ?_
    obtain ⟨G85, e85, h⟩ := Option.bind_eq_some_iff.mp h
    refine g_cNv (As := [.ref v79, .int bx6, .int bx1]) (rest := []) (n := 3) hx hb hml hown hts hK hlo hG (m_X9_put l dd cT lo G75 v79 bx6 bx1 e85) (List.mem_of_getElem? (i := 13) rfl) qT_yX9_put qN_X9 qC_yX9_put (by decide +kernel) ⟨Nat.le_of_ble_eq_true rfl, Nat.le_of_ble_eq_true rfl⟩ rfl hl.1 rfl (Nat.le_of_ble_eq_true rfl) dX0_writeNext_85 ⟨Nat.le_of_ble_eq_true rfl, Nat.le_of_ble_eq_true rfl⟩ (fun H locs hG => ?_)
    refine lv_aload_n hx hb dX0_writeNext_88 rfl (lv_at hl 0 rfl) ?_
    obtain ⟨v89, e89, h⟩ := Option.bind_eq_some_iff.mp h
    refine g_getr hx hb hts inlX0 hown hK hG (by rfl) 6 (by decide) qF_X0_32 e89 dX0_writeNext_89 ?_
    refine lv_iload hx hb dX0_writeNext_92 (lv_at hl 6 rfl) ?_
    refine lv_iload_n hx hb dX0_writeNext_94 rfl (lv_at hl 2 rfl) ?_
    obtain ⟨G95, e95, h⟩ := Option.bind_eq_some_iff.mp h
    refine g_cNv (As := [.ref v89, .int bx6, .int bx2]) (rest := []) (n := 3) hx hb hml hown hts hK hlo hG (m_X9_put l dd cT lo G85 v89 bx6 bx2 e95) (List.mem_of_getElem? (i := 13) rfl) qT_yX9_put qN_X9 qC_yX9_put (by decide +kernel) ⟨Nat.le_of_ble_eq_true rfl, Nat.le_of_ble_eq_true rfl⟩ rfl hl.1 rfl (Nat.le_of_ble_eq_true rfl) dX0_writeNext_95 ⟨Nat.le_of_ble_eq_true rfl, Nat.le_of_ble_eq_true rfl⟩ (fun H locs hG => ?_)
    refine lv_aload_n hx hb dX0_writeNext_98 rfl (lv_at hl 0 rfl) ?_
    obtain ⟨v99, e99, h⟩ := Option.bind_eq_some_iff.mp h
    refine g_getr hx hb hts inlX0 hown hK hG (by rfl) 7 (by decide) qF_X0_35 e99 dX0_writeNext_99 ?_
    refine lv_iload hx hb dX0_writeNext_102 (lv_at hl 6 rfl) ?_
    refine lv_iload_n hx hb dX0_writeNext_104 rfl (lv_at hl 3 rfl) ?_
    obtain ⟨G105, e105, h⟩ := Option.bind_eq_some_iff.mp h
    refine g_cNv (As := [.ref v99, .int bx6, .int bx3]) (rest := []) (n := 3) hx hb hml hown hts hK hlo hG (m_X9_put l dd cT lo G95 v99 bx6 bx3 e105) (List.mem_of_getElem? (i := 13) rfl) qT_yX9_put qN_X9 qC_yX9_put (by decide +kernel) ⟨Nat.le_of_ble_eq_true rfl, Nat.le_of_ble_eq_true rfl⟩ rfl hl.1 rfl (Nat.le_of_ble_eq_true rfl) dX0_writeNext_105 ⟨Nat.le_of_ble_eq_true rfl, Nat.le_of_ble_eq_true rfl⟩ (fun H locs hG => ?_)
    refine lv_aload_n hx hb dX0_writeNext_108 rfl (lv_at hl 0 rfl) ?_
    obtain ⟨v109, e109, h⟩ := Option.bind_eq_some_iff.mp h
    refine g_getr hx hb hts inlX0 hown hK hG (by rfl) 8 (by decide) qF_X0_38 e109 dX0_writeNext_109 ?_
    refine lv_iload hx hb dX0_writeNext_112 (lv_at hl 6 rfl) ?_
    refine lv_iload hx hb dX0_writeNext_114 (lv_at hl 4 rfl) ?_
    obtain ⟨G116, e116, h⟩ := Option.bind_eq_some_iff.mp h
    refine g_cNv (As := [.ref v109, .int bx6, .int bx4]) (rest := []) (n := 3) hx hb hml hown hts hK hlo hG (m_X9_put l dd cT lo G105 v109 bx6 bx4 e116) (List.mem_of_getElem? (i := 13) rfl) qT_yX9_put qN_X9 qC_yX9_put (by decide +kernel) ⟨Nat.le_of_ble_eq_true rfl, Nat.le_of_ble_eq_true rfl⟩ rfl hl.1 rfl (Nat.le_of_ble_eq_true rfl) dX0_writeNext_116 ⟨Nat.le_of_ble_eq_true rfl, Nat.le_of_ble_eq_true rfl⟩ (fun H locs hG => ?_)
    obtain rfl := Option.some.inj h
    exact g_vret hx hb hr hlocks hK hlo hG rfl dX0_writeNext_119
  unfold f_X0_writeNext at h
  refine lv_aload_n hx hb dX0_writeNext_0 rfl (lv_at hl 0 rfl) ?_
  obtain ⟨v1, e1, h⟩ := Option.bind_eq_some_iff.mp h
  refine g_geti hx hb hts inlX0 hown hK hG (by rfl) 2 (by decide) qF_X0_18 e1 dX0_writeNext_1 ?_
  refine lv_istore (lv' := [(5, .int v1), (0, .ref a0), (1, .int x1), (2, .int x2), (3, .int x3), (4, .int x4)]) hx hb dX0_writeNext_4 hl (by decide) rfl (fun ls hl => ?_)
  refine lv_aload_n hx hb dX0_writeNext_6 rfl (lv_at hl 1 rfl) ?_
  refine lv_dup hx hb dX0_writeNext_7 rfl ?_
  obtain ⟨v8, e8, h⟩ := Option.bind_eq_some_iff.mp h
  refine g_geti hx hb hts inlX0 hown hK hG (by rfl) 2 (by decide) qF_X0_18 e8 dX0_writeNext_8 ?_
  refine lv_iconst (v := (1 : Int32)) hx hb dX0_writeNext_11 (by decide) ?_
  refine lv_iadd hx hb dX0_writeNext_12 ?_
  obtain ⟨G13, i13, h⟩ := Option.bind_eq_some_iff.mp h
  refine g_putv hx hb hts inlX0 tyX0 tyX0_ok nmX0 hown hK hG (by rfl) 2 (by decide) qF_X0_18 rfl rfl rfl rfl i13 dX0_writeNext_13 (fun H locs hG => ?_)
  refine lv_iload hx hb dX0_writeNext_16 (lv_at hl 0 rfl) ?_
  refine lv_istore (lv' := [(6, .int v1), (5, .int v1), (0, .ref a0), (1, .int x1), (2, .int x2), (3, .int x3), (4, .int x4)]) hx hb dX0_writeNext_18 hl (by decide) rfl (fun ls hl => ?_)
  refine lv_aload_n hx hb dX0_writeNext_20 rfl (lv_at hl 2 rfl) ?_
  refine lv_iload hx hb dX0_writeNext_21 (lv_at hl 1 rfl) ?_
  obtain ⟨u23, i23, h⟩ := Option.bind_eq_some_iff.mp h
  obtain ⟨v23, e23, h⟩ := Option.bind_eq_some_iff.mp h
  refine g_cVi (As := [.int v1]) (rest := []) (n := 1) hx hb hml hown hts hK hlo hG (m_X0_isBad l dd cT lo G13 a0 v1 e23) qM_X0_73 qI_yX0_isBad qS_X0_yX0_isBad qN_X0 qC_yX0_isBad (by decide +kernel) ⟨Nat.le_of_ble_eq_true rfl, Nat.le_of_ble_eq_true rfl⟩ (by rfl) i23 rfl hl.1 rfl (Nat.le_of_ble_eq_true rfl) dX0_writeNext_23 ⟨Nat.le_of_ble_eq_true rfl, Nat.le_of_ble_eq_true rfl⟩ (fun H locs hG => ?_)
  refine lv_if_eq (tgt := 67) hx hb dX0_writeNext_26 (by decide) (fun c26 => ?_) (fun c26 => ?_)
  · rw [if_pos c26] at h
    exact h67 G13 a0 x1 x2 x3 x4 v1 v1 _ _ hG _ (lv_sub hl [2, 3, 4, 5, 6, 1, 0] rfl) h
  · rw [if_neg c26] at h
    refine lv_aload_n hx hb dX0_writeNext_29 rfl (lv_at hl 2 rfl) ?_
    obtain ⟨v30, e30, h⟩ := Option.bind_eq_some_iff.mp h
    refine g_getr hx hb hts inlX0 hown hK hG (by rfl) 3 (by decide) qF_X0_21 e30 dX0_writeNext_30 ?_
    refine lv_iload hx hb dX0_writeNext_33 (lv_at hl 1 rfl) ?_
    refine lv_iconst (v := (3 : Int32)) hx hb dX0_writeNext_35 (by decide) ?_
    obtain ⟨G36, e36, h⟩ := Option.bind_eq_some_iff.mp h
    refine g_cNv (As := [.ref v30, .int v1, .int (3 : Int32)]) (rest := []) (n := 3) hx hb hml hown hts hK hlo hG (m_X9_put l dd cT lo G13 v30 v1 (3 : Int32) e36) (List.mem_of_getElem? (i := 13) rfl) qT_yX9_put qN_X9 qC_yX9_put (by decide +kernel) ⟨Nat.le_of_ble_eq_true rfl, Nat.le_of_ble_eq_true rfl⟩ rfl hl.1 rfl (Nat.le_of_ble_eq_true rfl) dX0_writeNext_36 ⟨Nat.le_of_ble_eq_true rfl, Nat.le_of_ble_eq_true rfl⟩ (fun H locs hG => ?_)
    refine lv_aload_n hx hb dX0_writeNext_39 rfl (lv_at hl 2 rfl) ?_
    obtain ⟨v40, e40, h⟩ := Option.bind_eq_some_iff.mp h
    refine g_getr hx hb hts inlX0 hown hK hG (by rfl) 6 (by decide) qF_X0_32 e40 dX0_writeNext_40 ?_
    refine lv_iload hx hb dX0_writeNext_43 (lv_at hl 1 rfl) ?_
    refine lv_iload_n hx hb dX0_writeNext_45 rfl (lv_at hl 4 rfl) ?_
    obtain ⟨G46, e46, h⟩ := Option.bind_eq_some_iff.mp h
    refine g_cNv (As := [.ref v40, .int v1, .int x2]) (rest := []) (n := 3) hx hb hml hown hts hK hlo hG (m_X9_put l dd cT lo G36 v40 v1 x2 e46) (List.mem_of_getElem? (i := 13) rfl) qT_yX9_put qN_X9 qC_yX9_put (by decide +kernel) ⟨Nat.le_of_ble_eq_true rfl, Nat.le_of_ble_eq_true rfl⟩ rfl hl.1 rfl (Nat.le_of_ble_eq_true rfl) dX0_writeNext_46 ⟨Nat.le_of_ble_eq_true rfl, Nat.le_of_ble_eq_true rfl⟩ (fun H locs hG => ?_)
    refine lv_aload_n hx hb dX0_writeNext_49 rfl (lv_at hl 2 rfl) ?_
    refine lv_iload_n hx hb dX0_writeNext_50 rfl (lv_at hl 4 rfl) ?_
    obtain ⟨u51, i51, h⟩ := Option.bind_eq_some_iff.mp h
    obtain ⟨q51, e51, h⟩ := Option.bind_eq_some_iff.mp h
    refine g_cVi (As := [.int x2]) (rest := []) (n := 1) hx hb hml hown hts hK hlo hG (m_X0_takeSpare l dd cT lo G46 a0 x2 e51) qM_X0_98 qI_yX0_takeSpare qS_X0_yX0_takeSpare qN_X0 qC_yX0_takeSpare (by decide +kernel) ⟨Nat.le_of_ble_eq_true rfl, Nat.le_of_ble_eq_true rfl⟩ (by rfl) i51 rfl hl.1 rfl (Nat.le_of_ble_eq_true rfl) dX0_writeNext_51 ⟨Nat.le_of_ble_eq_true rfl, Nat.le_of_ble_eq_true rfl⟩ (fun H locs hG => ?_)
    refine lv_istore (lv' := [(6, .int q51.2), (5, .int v1), (0, .ref a0), (1, .int x1), (2, .int x2), (3, .int x3), (4, .int x4)]) hx hb dX0_writeNext_54 hl (by decide) rfl (fun ls hl => ?_)
    refine lv_aload_n hx hb dX0_writeNext_56 rfl (lv_at hl 2 rfl) ?_
    obtain ⟨v57, e57, h⟩ := Option.bind_eq_some_iff.mp h
    refine g_getr hx hb hts inlX0 hown hK hG (by rfl) 9 (by decide) qF_X0_41 e57 dX0_writeNext_57 ?_
    refine lv_iload hx hb dX0_writeNext_60 (lv_at hl 0 rfl) ?_
    refine lv_iload hx hb dX0_writeNext_62 (lv_at hl 1 rfl) ?_
    obtain ⟨G64, e64, h⟩ := Option.bind_eq_some_iff.mp h
    refine g_cNv (As := [.ref v57, .int q51.2, .int v1]) (rest := []) (n := 3) hx hb hml hown hts hK hlo hG (m_X9_put l dd cT lo q51.1 v57 q51.2 v1 e64) (List.mem_of_getElem? (i := 13) rfl) qT_yX9_put qN_X9 qC_yX9_put (by decide +kernel) ⟨Nat.le_of_ble_eq_true rfl, Nat.le_of_ble_eq_true rfl⟩ rfl hl.1 rfl (Nat.le_of_ble_eq_true rfl) dX0_writeNext_64 ⟨Nat.le_of_ble_eq_true rfl, Nat.le_of_ble_eq_true rfl⟩ (fun H locs hG => ?_)
    exact h67 G64 a0 x1 x2 x3 x4 v1 q51.2 _ _ hG _ (lv_sub hl [2, 3, 4, 5, 6, 1, 0] rfl) h
def f_X1_takeFrom (G : gH) (a0 : Nat) (a1 : Nat) : Option gH :=
    (g_r G a0 1 0).bind fun v1 =>
    (g_r G a1 1 0).bind fun v5 =>
    (g_ob G v1 0).bind fun u8 =>
    (f_X0_takeFrom G v1 v5).bind fun G8 =>
    (g_r G8 a0 1 1).bind fun v12 =>
    (g_r G8 a1 1 1).bind fun v16 =>
    (g_ob G8 v12 7).bind fun u19 =>
    (f_X7_takeFrom G8 v12 v16).bind fun G19 =>
    (g_r G19 a0 1 2).bind fun v23 =>
    (g_r G19 a1 1 2).bind fun v27 =>
    (g_ob G19 v23 5).bind fun u30 =>
    (f_X5_takeFrom G19 v23 v27).bind fun G30 =>
    (g_i G30 a1 1 3).bind fun v35 =>
    (g_put G30 a0 1 3 (.int v35)).bind fun G38 =>
    (g_r G38 a1 1 4).bind fun v42 =>
    (g_r G38 a0 1 4).bind fun v46 =>
    (f_X9_copy__ G38 v42 v46).bind fun G49 =>
    (g_i G49 a1 1 5).bind fun v54 =>
    (g_z v54).bind fun w57 =>
    (g_put G49 a0 1 5 (.int w57)).bind fun G57 =>
    some G57
set_option maxRecDepth 20000 in
set_option maxHeartbeats 4000000 in
theorem m_X1_takeFrom (l : Launch) (dd : va_G) (cT : Nat → ClassId) (lo : Nat) (G : gH) (a0 : Nat) (a1 : Nat) {Gz : gH} (h : f_X1_takeFrom G a0 a1 = some Gz) : Met l yX1_takeFrom (Cond.code yX1_takeFrom cX1_takeFrom 2 none :: wsL_law) (g_rm 2 43 0 0) (va_Pc [.ref a0, .ref a1] (g_Pre lo dd cT G)) (va_Qv (g_iv Gz) (g_Pre lo dd cT) (g_A lo)) 0 0 (g_A lo) := by
  refine g_start RX1 rfl (by decide) (Nat.le_of_ble_eq_true rfl) ?_
  intro p e s m below meth c hx hb hr hlocks hml hown hnm hts hK hG hlo ls hl
  have hl : lv_has ls 2 [(0, .ref a0), (1, .ref a1)] := hl
  have hG : g_S lo dd cT s s.heap [] G := hG
  unfold f_X1_takeFrom at h
  refine lv_aload_n hx hb dX1_takeFrom_0 rfl (lv_at hl 0 rfl) ?_
  obtain ⟨v1, e1, h⟩ := Option.bind_eq_some_iff.mp h
  refine g_getr hx hb hts inlX1 hown hK hG (by rfl) 0 (by decide) qF_X1_12 e1 dX1_takeFrom_1 ?_
  refine lv_aload_n hx hb dX1_takeFrom_4 rfl (lv_at hl 1 rfl) ?_
  obtain ⟨v5, e5, h⟩ := Option.bind_eq_some_iff.mp h
  refine g_getr hx hb hts inlX1 hown hK hG (by rfl) 0 (by decide) qF_X1_12 e5 dX1_takeFrom_5 ?_
  obtain ⟨u8, i8, h⟩ := Option.bind_eq_some_iff.mp h
  obtain ⟨G8, e8, h⟩ := Option.bind_eq_some_iff.mp h
  refine g_cVv (As := [.ref v5]) (rest := []) (n := 1) hx hb hml hown hts hK hlo hG (m_X0_takeFrom l dd cT lo G v1 v5 e8) qM_X1_59 qI_yX0_takeFrom qS_X0_yX0_takeFrom qN_X0 qC_yX0_takeFrom (by decide +kernel) ⟨Nat.le_of_ble_eq_true rfl, Nat.le_of_ble_eq_true rfl⟩ (by rfl) i8 rfl hl.1 rfl (Nat.le_of_ble_eq_true rfl) dX1_takeFrom_8 ⟨Nat.le_of_ble_eq_true rfl, Nat.le_of_ble_eq_true rfl⟩ (fun H locs hG => ?_)
  refine lv_aload_n hx hb dX1_takeFrom_11 rfl (lv_at hl 0 rfl) ?_
  obtain ⟨v12, e12, h⟩ := Option.bind_eq_some_iff.mp h
  refine g_getr hx hb hts inlX1 hown hK hG (by rfl) 1 (by decide) qF_X1_21 e12 dX1_takeFrom_12 ?_
  refine lv_aload_n hx hb dX1_takeFrom_15 rfl (lv_at hl 1 rfl) ?_
  obtain ⟨v16, e16, h⟩ := Option.bind_eq_some_iff.mp h
  refine g_getr hx hb hts inlX1 hown hK hG (by rfl) 1 (by decide) qF_X1_21 e16 dX1_takeFrom_16 ?_
  obtain ⟨u19, i19, h⟩ := Option.bind_eq_some_iff.mp h
  obtain ⟨G19, e19, h⟩ := Option.bind_eq_some_iff.mp h
  refine g_cVv (As := [.ref v16]) (rest := []) (n := 1) hx hb hml hown hts hK hlo hG (m_X7_takeFrom l dd cT lo G8 v12 v16 e19) qM_X1_63 qI_yX7_takeFrom qS_X7_yX7_takeFrom qN_X7 qC_yX7_takeFrom (by decide +kernel) ⟨Nat.le_of_ble_eq_true rfl, Nat.le_of_ble_eq_true rfl⟩ (by rfl) i19 rfl hl.1 rfl (Nat.le_of_ble_eq_true rfl) dX1_takeFrom_19 ⟨Nat.le_of_ble_eq_true rfl, Nat.le_of_ble_eq_true rfl⟩ (fun H locs hG => ?_)
  refine lv_aload_n hx hb dX1_takeFrom_22 rfl (lv_at hl 0 rfl) ?_
  obtain ⟨v23, e23, h⟩ := Option.bind_eq_some_iff.mp h
  refine g_getr hx hb hts inlX1 hown hK hG (by rfl) 2 (by decide) qF_X1_28 e23 dX1_takeFrom_23 ?_
  refine lv_aload_n hx hb dX1_takeFrom_26 rfl (lv_at hl 1 rfl) ?_
  obtain ⟨v27, e27, h⟩ := Option.bind_eq_some_iff.mp h
  refine g_getr hx hb hts inlX1 hown hK hG (by rfl) 2 (by decide) qF_X1_28 e27 dX1_takeFrom_27 ?_
  obtain ⟨u30, i30, h⟩ := Option.bind_eq_some_iff.mp h
  obtain ⟨G30, e30, h⟩ := Option.bind_eq_some_iff.mp h
  refine g_cVv (As := [.ref v27]) (rest := []) (n := 1) hx hb hml hown hts hK hlo hG (m_X5_takeFrom l dd cT lo G19 v23 v27 e30) qM_X1_66 qI_yX5_takeFrom qS_X5_yX5_takeFrom qN_X5 qC_yX5_takeFrom (by decide +kernel) ⟨Nat.le_of_ble_eq_true rfl, Nat.le_of_ble_eq_true rfl⟩ (by rfl) i30 rfl hl.1 rfl (Nat.le_of_ble_eq_true rfl) dX1_takeFrom_30 ⟨Nat.le_of_ble_eq_true rfl, Nat.le_of_ble_eq_true rfl⟩ (fun H locs hG => ?_)
  refine lv_aload_n hx hb dX1_takeFrom_33 rfl (lv_at hl 0 rfl) ?_
  refine lv_aload_n hx hb dX1_takeFrom_34 rfl (lv_at hl 1 rfl) ?_
  obtain ⟨v35, e35, h⟩ := Option.bind_eq_some_iff.mp h
  refine g_geti hx hb hts inlX1 hown hK hG (by rfl) 3 (by decide) qF_X1_32 e35 dX1_takeFrom_35 ?_
  obtain ⟨G38, i38, h⟩ := Option.bind_eq_some_iff.mp h
  refine g_putv hx hb hts inlX1 tyX1 tyX1_ok nmX1 hown hK hG (by rfl) 3 (by decide) qF_X1_32 rfl rfl rfl rfl i38 dX1_takeFrom_38 (fun H locs hG => ?_)
  refine lv_aload_n hx hb dX1_takeFrom_41 rfl (lv_at hl 1 rfl) ?_
  obtain ⟨v42, e42, h⟩ := Option.bind_eq_some_iff.mp h
  refine g_getr hx hb hts inlX1 hown hK hG (by rfl) 4 (by decide) qF_X1_36 e42 dX1_takeFrom_42 ?_
  refine lv_aload_n hx hb dX1_takeFrom_45 rfl (lv_at hl 0 rfl) ?_
  obtain ⟨v46, e46, h⟩ := Option.bind_eq_some_iff.mp h
  refine g_getr hx hb hts inlX1 hown hK hG (by rfl) 4 (by decide) qF_X1_36 e46 dX1_takeFrom_46 ?_
  obtain ⟨G49, e49, h⟩ := Option.bind_eq_some_iff.mp h
  refine g_cNv (As := [.ref v42, .ref v46]) (rest := []) (n := 2) hx hb hml hown hts hK hlo hG (m_X9_copy__ l dd cT lo G38 v42 v46 e49) (List.mem_of_getElem? (i := 19) rfl) qT_yX9_copy__ qN_X9 qC_yX9_copy__ (by decide +kernel) ⟨Nat.le_of_ble_eq_true rfl, Nat.le_of_ble_eq_true rfl⟩ rfl hl.1 rfl (Nat.le_of_ble_eq_true rfl) dX1_takeFrom_49 ⟨Nat.le_of_ble_eq_true rfl, Nat.le_of_ble_eq_true rfl⟩ (fun H locs hG => ?_)
  refine lv_aload_n hx hb dX1_takeFrom_52 rfl (lv_at hl 0 rfl) ?_
  refine lv_aload_n hx hb dX1_takeFrom_53 rfl (lv_at hl 1 rfl) ?_
  obtain ⟨v54, e54, h⟩ := Option.bind_eq_some_iff.mp h
  refine g_geti hx hb hts inlX1 hown hK hG (by rfl) 5 (by decide) qF_X1_40 e54 dX1_takeFrom_54 ?_
  obtain ⟨w57, e57, h⟩ := Option.bind_eq_some_iff.mp h
  obtain ⟨n57, rfl⟩ := g_z_nar e57
  obtain ⟨G57, i57, h⟩ := Option.bind_eq_some_iff.mp h
  refine g_putv hx hb hts inlX1 tyX1 tyX1_ok nmX1 hown hK hG (by rfl) 5 (by decide) qF_X1_40 rfl rfl n57 (g_z_fit e57) i57 dX1_takeFrom_57 (fun H locs hG => ?_)
  obtain rfl := Option.some.inj h
  exact g_vret hx hb hr hlocks hK hlo hG rfl dX1_takeFrom_60
def f_X1_canReadVersion (G : gH) (a0 : Nat) (x1 : Int32) : Option Int32 :=
    (g_r G a0 1 0).bind fun v1 =>
    (g_r G a0 1 1).bind fun v5 =>
    (g_ob G v5 7).bind fun u9 =>
    (f_X7_firstOf G v5 x1).bind fun v9 =>
    (g_r G a0 1 1).bind fun v13 =>
    (g_ob G v13 7).bind fun u17 =>
    (f_X7_lengthOf G v13 x1).bind fun v17 =>
    (g_ob G v1 0).bind fun u20 =>
    (f_X0_canRead G v1 v9 v17).bind fun v20 =>
    g_z v20
set_option maxRecDepth 20000 in
set_option maxHeartbeats 4000000 in
theorem m_X1_canReadVersion (l : Launch) (dd : va_G) (cT : Nat → ClassId) (lo : Nat) (G : gH) (a0 : Nat) (x1 : Int32) {rz : Int32} (h : f_X1_canReadVersion G a0 x1 = some rz) : Met l yX1_canReadVersion (Cond.code yX1_canReadVersion cX1_canReadVersion 2 (some .boolean) :: wsL_law) (g_rm 3 66 0 0) (va_Pc [.ref a0, .int x1] (g_Pre lo dd cT G)) (va_Qi (g_is rz G) (g_Pre lo dd cT) (g_A lo)) 0 0 (g_A lo) := by
  refine g_start RX1 rfl (by decide) (Nat.le_of_ble_eq_true rfl) ?_
  intro p e s m below meth c hx hb hr hlocks hml hown hnm hts hK hG hlo ls hl
  have hl : lv_has ls 2 [(0, .ref a0), (1, .int x1)] := hl
  have hG : g_S lo dd cT s s.heap [] G := hG
  unfold f_X1_canReadVersion at h
  refine lv_aload_n hx hb dX1_canReadVersion_0 rfl (lv_at hl 0 rfl) ?_
  obtain ⟨v1, e1, h⟩ := Option.bind_eq_some_iff.mp h
  refine g_getr hx hb hts inlX1 hown hK hG (by rfl) 0 (by decide) qF_X1_12 e1 dX1_canReadVersion_1 ?_
  refine lv_aload_n hx hb dX1_canReadVersion_4 rfl (lv_at hl 0 rfl) ?_
  obtain ⟨v5, e5, h⟩ := Option.bind_eq_some_iff.mp h
  refine g_getr hx hb hts inlX1 hown hK hG (by rfl) 1 (by decide) qF_X1_21 e5 dX1_canReadVersion_5 ?_
  refine lv_iload_n hx hb dX1_canReadVersion_8 rfl (lv_at hl 1 rfl) ?_
  obtain ⟨u9, i9, h⟩ := Option.bind_eq_some_iff.mp h
  obtain ⟨v9, e9, h⟩ := Option.bind_eq_some_iff.mp h
  refine g_cVi (As := [.int x1]) (rest := [.ref v1]) (n := 1) hx hb hml hown hts hK hlo hG (m_X7_firstOf l dd cT lo G v5 x1 e9) qM_X1_77 qI_yX7_firstOf qS_X7_yX7_firstOf qN_X7 qC_yX7_firstOf (by decide +kernel) ⟨Nat.le_of_ble_eq_true rfl, Nat.le_of_ble_eq_true rfl⟩ (by rfl) i9 rfl hl.1 rfl (Nat.le_of_ble_eq_true rfl) dX1_canReadVersion_9 ⟨Nat.le_of_ble_eq_true rfl, Nat.le_of_ble_eq_true rfl⟩ (fun H locs hG => ?_)
  refine lv_aload_n hx hb dX1_canReadVersion_12 rfl (lv_at hl 0 rfl) ?_
  obtain ⟨v13, e13, h⟩ := Option.bind_eq_some_iff.mp h
  refine g_getr hx hb hts inlX1 hown hK hG (by rfl) 1 (by decide) qF_X1_21 e13 dX1_canReadVersion_13 ?_
  refine lv_iload_n hx hb dX1_canReadVersion_16 rfl (lv_at hl 1 rfl) ?_
  obtain ⟨u17, i17, h⟩ := Option.bind_eq_some_iff.mp h
  obtain ⟨v17, e17, h⟩ := Option.bind_eq_some_iff.mp h
  refine g_cVi (As := [.int x1]) (rest := [.int v9, .ref v1]) (n := 1) hx hb hml hown hts hK hlo hG (m_X7_lengthOf l dd cT lo G v13 x1 e17) qM_X1_81 qI_yX7_lengthOf qS_X7_yX7_lengthOf qN_X7 qC_yX7_lengthOf (by decide +kernel) ⟨Nat.le_of_ble_eq_true rfl, Nat.le_of_ble_eq_true rfl⟩ (by rfl) i17 rfl hl.1 rfl (Nat.le_of_ble_eq_true rfl) dX1_canReadVersion_17 ⟨Nat.le_of_ble_eq_true rfl, Nat.le_of_ble_eq_true rfl⟩ (fun H locs hG => ?_)
  obtain ⟨u20, i20, h⟩ := Option.bind_eq_some_iff.mp h
  obtain ⟨v20, e20, h⟩ := Option.bind_eq_some_iff.mp h
  refine g_cVi (As := [.int v9, .int v17]) (rest := []) (n := 2) hx hb hml hown hts hK hlo hG (m_X0_canRead l dd cT lo G v1 v9 v17 e20) qM_X1_84 qI_yX0_canRead qS_X0_yX0_canRead qN_X0 qC_yX0_canRead (by decide +kernel) ⟨Nat.le_of_ble_eq_true rfl, Nat.le_of_ble_eq_true rfl⟩ (by rfl) i20 rfl hl.1 rfl (Nat.le_of_ble_eq_true rfl) dX1_canReadVersion_20 ⟨Nat.le_of_ble_eq_true rfl, Nat.le_of_ble_eq_true rfl⟩ (fun H locs hG => ?_)
  obtain ⟨n23, rfl⟩ := g_z_nar h
  exact g_zret hx hb hr hlocks hK hlo hG n23 ⟨rfl, rfl⟩ dX1_canReadVersion_23
def f_X1_canReadDirectory (G : gH) (a0 : Nat) (x1 : Int32) : Option Int32 :=
    (g_r G a0 1 2).bind fun v1 =>
    (g_ob G v1 5).bind fun u5 =>
    (f_X5_directoryOf G v1 x1).bind fun v5 =>
    if v5 = (-1 : Int32) then
    some (0 : Int32)
    else
    (g_r G a0 1 0).bind fun v15 =>
    (g_r G a0 1 2).bind fun v20 =>
    (g_ob G v20 5).bind fun u24 =>
    (f_X5_entriesOf G v20 x1).bind fun v24 =>
    (f_X1_directoryLength G v24).bind fun v27 =>
    (g_ob G v15 0).bind fun u30 =>
    (f_X0_canRead G v15 v5 v27).bind fun v30 =>
    if v30 = 0 then
    some (0 : Int32)
    else
    some (1 : Int32)
set_option maxRecDepth 20000 in
set_option maxHeartbeats 4000000 in
theorem m_X1_canReadDirectory (l : Launch) (dd : va_G) (cT : Nat → ClassId) (lo : Nat) (G : gH) (a0 : Nat) (x1 : Int32) {rz : Int32} (h : f_X1_canReadDirectory G a0 x1 = some rz) : Met l yX1_canReadDirectory (Cond.code yX1_canReadDirectory cX1_canReadDirectory 3 (some .boolean) :: wsL_law) (g_rm 3 66 0 0) (va_Pc [.ref a0, .int x1] (g_Pre lo dd cT G)) (va_Qi (g_is rz G) (g_Pre lo dd cT) (g_A lo)) 0 0 (g_A lo) := by
  refine g_start RX1 rfl (by decide) (Nat.le_of_ble_eq_true rfl) ?_
  intro p e s m below meth c hx hb hr hlocks hml hown hnm hts hK hG hlo ls hl
  have hl : lv_has ls 3 [(0, .ref a0), (1, .int x1)] := hl
  have hG : g_S lo dd cT s s.heap [] G := hG
  unfold f_X1_canReadDirectory at h
  refine lv_aload_n hx hb dX1_canReadDirectory_0 rfl (lv_at hl 0 rfl) ?_
  obtain ⟨v1, e1, h⟩ := Option.bind_eq_some_iff.mp h
  refine g_getr hx hb hts inlX1 hown hK hG (by rfl) 2 (by decide) qF_X1_28 e1 dX1_canReadDirectory_1 ?_
  refine lv_iload_n hx hb dX1_canReadDirectory_4 rfl (lv_at hl 1 rfl) ?_
  obtain ⟨u5, i5, h⟩ := Option.bind_eq_some_iff.mp h
  obtain ⟨v5, e5, h⟩ := Option.bind_eq_some_iff.mp h
  refine g_cVi (As := [.int x1]) (rest := []) (n := 1) hx hb hml hown hts hK hlo hG (m_X5_directoryOf l dd cT lo G v1 x1 e5) qM_X1_88 qI_yX5_directoryOf qS_X5_yX5_directoryOf qN_X5 qC_yX5_directoryOf (by decide +kernel) ⟨Nat.le_of_ble_eq_true rfl, Nat.le_of_ble_eq_true rfl⟩ (by rfl) i5 rfl hl.1 rfl (Nat.le_of_ble_eq_true rfl) dX1_canReadDirectory_5 ⟨Nat.le_of_ble_eq_true rfl, Nat.le_of_ble_eq_true rfl⟩ (fun H locs hG => ?_)
  refine lv_istore_n (lv' := [(2, .int v5), (0, .ref a0), (1, .int x1)]) hx hb dX1_canReadDirectory_8 rfl hl (by decide) rfl (fun ls hl => ?_)
  refine lv_iload_n hx hb dX1_canReadDirectory_9 rfl (lv_at hl 0 rfl) ?_
  refine lv_iconst (v := (-1 : Int32)) hx hb dX1_canReadDirectory_10 (by decide) ?_
  refine lv_icmp_eq (tgt := 40) hx hb dX1_canReadDirectory_11 (by decide) (fun c11 => ?_) (fun c11 => ?_)
  · rw [if_pos c11] at h
    refine lv_iconst (v := (0 : Int32)) hx hb dX1_canReadDirectory_40 (by decide) ?_
    obtain rfl := Option.some.inj h
    exact g_zret hx hb hr hlocks hK hlo hG rfl ⟨rfl, rfl⟩ dX1_canReadDirectory_41
  · rw [if_neg c11] at h
    refine lv_aload_n hx hb dX1_canReadDirectory_14 rfl (lv_at hl 1 rfl) ?_
    obtain ⟨v15, e15, h⟩ := Option.bind_eq_some_iff.mp h
    refine g_getr hx hb hts inlX1 hown hK hG (by rfl) 0 (by decide) qF_X1_12 e15 dX1_canReadDirectory_15 ?_
    refine lv_iload_n hx hb dX1_canReadDirectory_18 rfl (lv_at hl 0 rfl) ?_
    refine lv_aload_n hx hb dX1_canReadDirectory_19 rfl (lv_at hl 1 rfl) ?_
    obtain ⟨v20, e20, h⟩ := Option.bind_eq_some_iff.mp h
    refine g_getr hx hb hts inlX1 hown hK hG (by rfl) 2 (by decide) qF_X1_28 e20 dX1_canReadDirectory_20 ?_
    refine lv_iload_n hx hb dX1_canReadDirectory_23 rfl (lv_at hl 2 rfl) ?_
    obtain ⟨u24, i24, h⟩ := Option.bind_eq_some_iff.mp h
    obtain ⟨v24, e24, h⟩ := Option.bind_eq_some_iff.mp h
    refine g_cVi (As := [.int x1]) (rest := [.int v5, .ref v15]) (n := 1) hx hb hml hown hts hK hlo hG (m_X5_entriesOf l dd cT lo G v20 x1 e24) qM_X1_91 qI_yX5_entriesOf qS_X5_yX5_entriesOf qN_X5 qC_yX5_entriesOf (by decide +kernel) ⟨Nat.le_of_ble_eq_true rfl, Nat.le_of_ble_eq_true rfl⟩ (by rfl) i24 rfl hl.1 rfl (Nat.le_of_ble_eq_true rfl) dX1_canReadDirectory_24 ⟨Nat.le_of_ble_eq_true rfl, Nat.le_of_ble_eq_true rfl⟩ (fun H locs hG => ?_)
    obtain ⟨v27, e27, h⟩ := Option.bind_eq_some_iff.mp h
    refine g_cSi (As := [.int v24]) (rest := [.int v5, .ref v15]) (n := 1) hx hb hml hown hts hK hlo hG (m_X1_directoryLength l dd cT lo G v24 e27) qM_X1_94 qT_yX1_directoryLength qN_X1 qC_yX1_directoryLength (by decide +kernel) ⟨Nat.le_of_ble_eq_true rfl, Nat.le_of_ble_eq_true rfl⟩ rfl hl.1 rfl (Nat.le_of_ble_eq_true rfl) dX1_canReadDirectory_27 ⟨Nat.le_of_ble_eq_true rfl, Nat.le_of_ble_eq_true rfl⟩ (fun H locs hG => ?_)
    obtain ⟨u30, i30, h⟩ := Option.bind_eq_some_iff.mp h
    obtain ⟨v30, e30, h⟩ := Option.bind_eq_some_iff.mp h
    refine g_cVi (As := [.int v5, .int v27]) (rest := []) (n := 2) hx hb hml hown hts hK hlo hG (m_X0_canRead l dd cT lo G v15 v5 v27 e30) qM_X1_84 qI_yX0_canRead qS_X0_yX0_canRead qN_X0 qC_yX0_canRead (by decide +kernel) ⟨Nat.le_of_ble_eq_true rfl, Nat.le_of_ble_eq_true rfl⟩ (by rfl) i30 rfl hl.1 rfl (Nat.le_of_ble_eq_true rfl) dX1_canReadDirectory_30 ⟨Nat.le_of_ble_eq_true rfl, Nat.le_of_ble_eq_true rfl⟩ (fun H locs hG => ?_)
    refine lv_if_eq (tgt := 40) hx hb dX1_canReadDirectory_33 (by decide) (fun c33 => ?_) (fun c33 => ?_)
    · rw [if_pos c33] at h
      refine lv_iconst (v := (0 : Int32)) hx hb dX1_canReadDirectory_40 (by decide) ?_
      obtain rfl := Option.some.inj h
      exact g_zret hx hb hr hlocks hK hlo hG rfl ⟨rfl, rfl⟩ dX1_canReadDirectory_41
    · rw [if_neg c33] at h
      refine lv_iconst (v := (1 : Int32)) hx hb dX1_canReadDirectory_36 (by decide) ?_
      refine lv_goto (tgt := 41) hx hb dX1_canReadDirectory_37 (by decide) ?_
      obtain rfl := Option.some.inj h
      exact g_zret hx hb hr hlocks hK hlo hG rfl ⟨rfl, rfl⟩ dX1_canReadDirectory_41
def f_X1_relocatedBlock_L4 (G : gH) : Nat → Nat → Int32 → Int32 → Int32 → Option Int32
  | 0, _, _, _, _ => none
  | n + 1, ba0, bx1, bx2, bx3 =>
    if bx1 < 0 then
    some (-1 : Int32)
    else
    (g_r G ba0 1 0).bind fun v10 =>
    (g_i G v10 0 1).bind fun v13 =>
    if v13 ≤ bx3 then
    some (-1 : Int32)
    else
    (g_r G ba0 1 0).bind fun v20 =>
    (g_ob G v20 0).bind fun u24 =>
    (f_X0_kindOf G v20 bx3).bind fun v24 =>
    if v24 = (3 : Int32) then
    (g_r G ba0 1 2).bind fun v32 =>
    (g_r G ba0 1 0).bind fun v36 =>
    (g_ob G v36 0).bind fun u40 =>
    (f_X0_writerOf G v36 bx3).bind fun v40 =>
    (g_ob G v32 5).bind fun u43 =>
    (f_X5_stateOf G v32 v40).bind fun v43 =>
    if v43 = (2 : Int32) then
    f_X1_relocatedBlock_L4 G n ba0 bx1 bx2 (bx3 + (1 : Int32))
    else
    if bx2 = bx1 then
    some bx3
    else
    f_X1_relocatedBlock_L4 G n ba0 bx1 (bx2 + (1 : Int32)) (bx3 + (1 : Int32))
    else
    f_X1_relocatedBlock_L4 G n ba0 bx1 bx2 (bx3 + (1 : Int32))
def f_X1_relocatedBlock (G : gH) (a0 : Nat) (x1 : Int32) : Option Int32 :=
    f_X1_relocatedBlock_L4 G g_N a0 x1 (0 : Int32) (0 : Int32)
set_option maxRecDepth 20000 in
set_option maxHeartbeats 4000000 in
theorem m_X1_relocatedBlock (l : Launch) (dd : va_G) (cT : Nat → ClassId) (lo : Nat) (G : gH) (a0 : Nat) (x1 : Int32) {rz : Int32} (h : f_X1_relocatedBlock G a0 x1 = some rz) : Met l yX1_relocatedBlock (Cond.code yX1_relocatedBlock cX1_relocatedBlock 4 (some .int) :: wsL_law) (g_rm 2 43 0 0) (va_Pc [.ref a0, .int x1] (g_Pre lo dd cT G)) (va_Qi (g_is rz G) (g_Pre lo dd cT) (g_A lo)) 0 0 (g_A lo) := by
  refine g_start RX1 rfl (by decide) (Nat.le_of_ble_eq_true rfl) ?_
  intro p e s m below meth c hx hb hr hlocks hml hown hnm hts hK hG hlo ls hl
  have hl : lv_has ls 4 [(0, .ref a0), (1, .int x1)] := hl
  have hG : g_S lo dd cT s s.heap [] G := hG
  have h4 : ∀ n : Nat, ∀ (ba0 : Nat) (bx1 : Int32) (bx2 : Int32) (bx3 : Int32), ∀ (H : Heap) (locs : List Loc), g_S lo dd cT s H locs G → ∀ ls : Array Slot, lv_has ls 4 [(0, .ref ba0), (1, .int bx1), (2, .int bx2), (3, .int bx3)] → f_X1_relocatedBlock_L4 G n ba0 bx1 bx2 bx3 = some rz → W p l e (g_rm 2 43 0 0) s m ([.ref a0, .int x1] : List Value).toArray below meth c H locs 0 0 (MQ below (va_Qi (g_is rz G) (g_Pre lo dd cT) (g_A lo)) ([.ref a0, .int x1] : List Value).toArray s 0 0 (g_A lo)) (F0 m 4 ls []) := by
    intro n
    induction n with
    | zero =>
      intro ba0 bx1 bx2 bx3 H locs hG ls hl h
      cases (show (none : Option Int32) = some rz from h)
    | succ n ih =>
      intro ba0 bx1 bx2 bx3 H locs hG ls hl h
      rw [f_X1_relocatedBlock_L4] at h
      refine lv_iload_n hx hb dX1_relocatedBlock_4 rfl (lv_at hl 1 rfl) ?_
      refine lv_if_lt (tgt := 66) hx hb dX1_relocatedBlock_5 (by decide) (fun c5 => ?_) (fun c5 => ?_)
      · rw [if_pos c5] at h
        refine lv_iconst (v := (-1 : Int32)) hx hb dX1_relocatedBlock_66 (by decide) ?_
        obtain rfl := Option.some.inj h
        exact g_iret hx hb hr hlocks hK hlo hG ⟨rfl, rfl⟩ dX1_relocatedBlock_67
      · rw [if_neg c5] at h
        refine lv_iload_n hx hb dX1_relocatedBlock_8 rfl (lv_at hl 3 rfl) ?_
        refine lv_aload_n hx hb dX1_relocatedBlock_9 rfl (lv_at hl 0 rfl) ?_
        obtain ⟨v10, e10, h⟩ := Option.bind_eq_some_iff.mp h
        refine g_getr hx hb hts inlX1 hown hK hG (by rfl) 0 (by decide) qF_X1_12 e10 dX1_relocatedBlock_10 ?_
        obtain ⟨v13, e13, h⟩ := Option.bind_eq_some_iff.mp h
        refine g_geti hx hb hts inlX0 hown hK hG (by rfl) 1 (by decide) qF_X1_97 e13 dX1_relocatedBlock_13 ?_
        refine lv_icmp_ge (tgt := 66) hx hb dX1_relocatedBlock_16 (by decide) (fun c16 => ?_) (fun c16 => ?_)
        · rw [if_pos c16] at h
          refine lv_iconst (v := (-1 : Int32)) hx hb dX1_relocatedBlock_66 (by decide) ?_
          obtain rfl := Option.some.inj h
          exact g_iret hx hb hr hlocks hK hlo hG ⟨rfl, rfl⟩ dX1_relocatedBlock_67
        · rw [if_neg c16] at h
          refine lv_aload_n hx hb dX1_relocatedBlock_19 rfl (lv_at hl 0 rfl) ?_
          obtain ⟨v20, e20, h⟩ := Option.bind_eq_some_iff.mp h
          refine g_getr hx hb hts inlX1 hown hK hG (by rfl) 0 (by decide) qF_X1_12 e20 dX1_relocatedBlock_20 ?_
          refine lv_iload_n hx hb dX1_relocatedBlock_23 rfl (lv_at hl 3 rfl) ?_
          obtain ⟨u24, i24, h⟩ := Option.bind_eq_some_iff.mp h
          obtain ⟨v24, e24, h⟩ := Option.bind_eq_some_iff.mp h
          refine g_cVi (As := [.int bx3]) (rest := []) (n := 1) hx hb hml hown hts hK hlo hG (m_X0_kindOf l dd cT lo G v20 bx3 e24) qM_X1_100 qI_yX0_kindOf qS_X0_yX0_kindOf qN_X0 qC_yX0_kindOf (by decide +kernel) ⟨Nat.le_of_ble_eq_true rfl, Nat.le_of_ble_eq_true rfl⟩ (by rfl) i24 rfl hl.1 rfl (Nat.le_of_ble_eq_true rfl) dX1_relocatedBlock_24 ⟨Nat.le_of_ble_eq_true rfl, Nat.le_of_ble_eq_true rfl⟩ (fun H locs hG => ?_)
          refine lv_iconst (v := (3 : Int32)) hx hb dX1_relocatedBlock_27 (by decide) ?_
          refine lv_icmp_ne (tgt := 60) hx hb dX1_relocatedBlock_28 (by decide) (fun c28 => ?_) (fun c28 => ?_)
          · rw [if_neg c28] at h
            refine lv_iinc (v := (bx3 + (1 : Int32))) (lv' := [(3, .int (bx3 + (1 : Int32))), (0, .ref ba0), (1, .int bx1), (2, .int bx2)]) hx hb dX1_relocatedBlock_60 hl (k := 3) rfl rfl (by decide) rfl (fun ls hl => ?_)
            refine lv_goto (tgt := 4) hx hb dX1_relocatedBlock_63 (by decide) ?_
            exact ih ba0 bx1 bx2 (bx3 + (1 : Int32)) _ _ hG _ (lv_sub hl [1, 2, 3, 0] rfl) h
          · rw [if_pos c28] at h
            refine lv_aload_n hx hb dX1_relocatedBlock_31 rfl (lv_at hl 0 rfl) ?_
            obtain ⟨v32, e32, h⟩ := Option.bind_eq_some_iff.mp h
            refine g_getr hx hb hts inlX1 hown hK hG (by rfl) 2 (by decide) qF_X1_28 e32 dX1_relocatedBlock_32 ?_
            refine lv_aload_n hx hb dX1_relocatedBlock_35 rfl (lv_at hl 0 rfl) ?_
            obtain ⟨v36, e36, h⟩ := Option.bind_eq_some_iff.mp h
            refine g_getr hx hb hts inlX1 hown hK hG (by rfl) 0 (by decide) qF_X1_12 e36 dX1_relocatedBlock_36 ?_
            refine lv_iload_n hx hb dX1_relocatedBlock_39 rfl (lv_at hl 3 rfl) ?_
            obtain ⟨u40, i40, h⟩ := Option.bind_eq_some_iff.mp h
            obtain ⟨v40, e40, h⟩ := Option.bind_eq_some_iff.mp h
            refine g_cVi (As := [.int bx3]) (rest := [.ref v32]) (n := 1) hx hb hml hown hts hK hlo hG (m_X0_writerOf l dd cT lo G v36 bx3 e40) qM_X1_103 qI_yX0_writerOf qS_X0_yX0_writerOf qN_X0 qC_yX0_writerOf (by decide +kernel) ⟨Nat.le_of_ble_eq_true rfl, Nat.le_of_ble_eq_true rfl⟩ (by rfl) i40 rfl hl.1 rfl (Nat.le_of_ble_eq_true rfl) dX1_relocatedBlock_40 ⟨Nat.le_of_ble_eq_true rfl, Nat.le_of_ble_eq_true rfl⟩ (fun H locs hG => ?_)
            obtain ⟨u43, i43, h⟩ := Option.bind_eq_some_iff.mp h
            obtain ⟨v43, e43, h⟩ := Option.bind_eq_some_iff.mp h
            refine g_cVi (As := [.int v40]) (rest := []) (n := 1) hx hb hml hown hts hK hlo hG (m_X5_stateOf l dd cT lo G v32 v40 e43) qM_X1_106 qI_yX5_stateOf qS_X5_yX5_stateOf qN_X5 qC_yX5_stateOf (by decide +kernel) ⟨Nat.le_of_ble_eq_true rfl, Nat.le_of_ble_eq_true rfl⟩ (by rfl) i43 rfl hl.1 rfl (Nat.le_of_ble_eq_true rfl) dX1_relocatedBlock_43 ⟨Nat.le_of_ble_eq_true rfl, Nat.le_of_ble_eq_true rfl⟩ (fun H locs hG => ?_)
            refine lv_iconst (v := (2 : Int32)) hx hb dX1_relocatedBlock_46 (by decide) ?_
            refine lv_icmp_eq (tgt := 60) hx hb dX1_relocatedBlock_47 (by decide) (fun c47 => ?_) (fun c47 => ?_)
            · rw [if_pos c47] at h
              refine lv_iinc (v := (bx3 + (1 : Int32))) (lv' := [(3, .int (bx3 + (1 : Int32))), (0, .ref ba0), (1, .int bx1), (2, .int bx2)]) hx hb dX1_relocatedBlock_60 hl (k := 3) rfl rfl (by decide) rfl (fun ls hl => ?_)
              refine lv_goto (tgt := 4) hx hb dX1_relocatedBlock_63 (by decide) ?_
              exact ih ba0 bx1 bx2 (bx3 + (1 : Int32)) _ _ hG _ (lv_sub hl [1, 2, 3, 0] rfl) h
            · rw [if_neg c47] at h
              refine lv_iload_n hx hb dX1_relocatedBlock_50 rfl (lv_at hl 2 rfl) ?_
              refine lv_iload_n hx hb dX1_relocatedBlock_51 rfl (lv_at hl 1 rfl) ?_
              refine lv_icmp_ne (tgt := 57) hx hb dX1_relocatedBlock_52 (by decide) (fun c52 => ?_) (fun c52 => ?_)
              · rw [if_neg c52] at h
                refine lv_iinc (v := (bx2 + (1 : Int32))) (lv' := [(2, .int (bx2 + (1 : Int32))), (0, .ref ba0), (1, .int bx1), (3, .int bx3)]) hx hb dX1_relocatedBlock_57 hl (k := 2) rfl rfl (by decide) rfl (fun ls hl => ?_)
                refine lv_iinc (v := (bx3 + (1 : Int32))) (lv' := [(3, .int (bx3 + (1 : Int32))), (2, .int (bx2 + (1 : Int32))), (0, .ref ba0), (1, .int bx1)]) hx hb dX1_relocatedBlock_60 hl (k := 3) rfl rfl (by decide) rfl (fun ls hl => ?_)
                refine lv_goto (tgt := 4) hx hb dX1_relocatedBlock_63 (by decide) ?_
                exact ih ba0 bx1 (bx2 + (1 : Int32)) (bx3 + (1 : Int32)) _ _ hG _ (lv_sub hl [2, 3, 1, 0] rfl) h
              · rw [if_pos c52] at h
                refine lv_iload_n hx hb dX1_relocatedBlock_55 rfl (lv_at hl 3 rfl) ?_
                obtain rfl := Option.some.inj h
                exact g_iret hx hb hr hlocks hK hlo hG ⟨rfl, rfl⟩ dX1_relocatedBlock_56
  unfold f_X1_relocatedBlock at h
  refine lv_iconst (v := (0 : Int32)) hx hb dX1_relocatedBlock_0 (by decide) ?_
  refine lv_istore_n (lv' := [(2, .int (0 : Int32)), (0, .ref a0), (1, .int x1)]) hx hb dX1_relocatedBlock_1 rfl hl (by decide) rfl (fun ls hl => ?_)
  refine lv_iconst (v := (0 : Int32)) hx hb dX1_relocatedBlock_2 (by decide) ?_
  refine lv_istore_n (lv' := [(3, .int (0 : Int32)), (2, .int (0 : Int32)), (0, .ref a0), (1, .int x1)]) hx hb dX1_relocatedBlock_3 rfl hl (by decide) rfl (fun ls hl => ?_)
  exact h4 g_N a0 x1 (0 : Int32) (0 : Int32) _ _ hG _ (lv_sub hl [2, 3, 1, 0] rfl) h
def f_X1_useOf_J46 (G : gH) (ba0 : Nat) (bx1 : Int32) (ba2 : Nat) : Option Int32 :=
    (g_r G ba0 1 0).bind fun v47 =>
    (g_ob G v47 0).bind fun u51 =>
    (f_X0_dataVersionOf G v47 bx1).bind fun v51 =>
    (g_r G ba0 1 1).bind fun v57 =>
    (g_ob G v57 7).bind fun u61 =>
    (f_X7_fileOf G v57 v51).bind fun v61 =>
    (g_ob G ba2 8).bind fun u64 =>
    (f_X8_versionOf G ba2 v61).bind fun v64 =>
    if v64 = v51 then
    some (1 : Int32)
    else
    some (2 : Int32)
def f_X1_useOf (G : gH) (a0 : Nat) (x1 : Int32) (a2 : Nat) : Option Int32 :=
    (g_r G a0 1 0).bind fun v1 =>
    (g_ob G v1 0).bind fun u5 =>
    (f_X0_kindOf G v1 x1).bind fun v5 =>
    if v5 = (0 : Int32) then
    some (0 : Int32)
    else
    if v5 = (1 : Int32) then
    f_X1_useOf_J46 G a0 x1 a2
    else
    if v5 = (2 : Int32) then
    some (3 : Int32)
    else
    if v5 = (3 : Int32) then
    some (4 : Int32)
    else
    f_X1_useOf_J46 G a0 x1 a2
set_option maxRecDepth 20000 in
set_option maxHeartbeats 4000000 in
theorem m_X1_useOf (l : Launch) (dd : va_G) (cT : Nat → ClassId) (lo : Nat) (G : gH) (a0 : Nat) (x1 : Int32) (a2 : Nat) {rz : Int32} (h : f_X1_useOf G a0 x1 a2 = some rz) : Met l yX1_useOf (Cond.code yX1_useOf cX1_useOf 4 (some .int) :: wsL_law) (g_rm 2 43 0 0) (va_Pc [.ref a0, .int x1, .ref a2] (g_Pre lo dd cT G)) (va_Qi (g_is rz G) (g_Pre lo dd cT) (g_A lo)) 0 0 (g_A lo) := by
  refine g_start RX1 rfl (by decide) (Nat.le_of_ble_eq_true rfl) ?_
  intro p e s m below meth c hx hb hr hlocks hml hown hnm hts hK hG hlo ls hl
  have hl : lv_has ls 4 [(0, .ref a0), (1, .int x1), (2, .ref a2)] := hl
  have hG : g_S lo dd cT s s.heap [] G := hG
  have h46 : ∀ (ba0 : Nat) (bx1 : Int32) (ba2 : Nat), ∀ (H : Heap) (locs : List Loc), g_S lo dd cT s H locs G → ∀ ls : Array Slot, lv_has ls 4 [(0, .ref ba0), (1, .int bx1), (2, .ref ba2)] → f_X1_useOf_J46 G ba0 bx1 ba2 = some rz → W p l e (g_rm 2 43 0 0) s m ([.ref a0, .int x1, .ref a2] : List Value).toArray below meth c H locs 0 0 (MQ below (va_Qi (g_is rz G) (g_Pre lo dd cT) (g_A lo)) ([.ref a0, .int x1, .ref a2] : List Value).toArray s 0 0 (g_A lo)) (F0 m 46 ls []) := by
    intro ba0 bx1 ba2 H locs hG ls hl h
    unfold f_X1_useOf_J46 at h
    refine lv_aload_n hx hb dX1_useOf_46 rfl (lv_at hl 0 rfl) ?_
    obtain ⟨v47, e47, h⟩ := Option.bind_eq_some_iff.mp h
    refine g_getr hx hb hts inlX1 hown hK hG (by rfl) 0 (by decide) qF_X1_12 e47 dX1_useOf_47 ?_
    refine lv_iload_n hx hb dX1_useOf_50 rfl (lv_at hl 1 rfl) ?_
    obtain ⟨u51, i51, h⟩ := Option.bind_eq_some_iff.mp h
    obtain ⟨v51, e51, h⟩ := Option.bind_eq_some_iff.mp h
    refine g_cVi (As := [.int bx1]) (rest := []) (n := 1) hx hb hml hown hts hK hlo hG (m_X0_dataVersionOf l dd cT lo G v47 bx1 e51) qM_X1_137 qI_yX0_dataVersionOf qS_X0_yX0_dataVersionOf qN_X0 qC_yX0_dataVersionOf (by decide +kernel) ⟨Nat.le_of_ble_eq_true rfl, Nat.le_of_ble_eq_true rfl⟩ (by rfl) i51 rfl hl.1 rfl (Nat.le_of_ble_eq_true rfl) dX1_useOf_51 ⟨Nat.le_of_ble_eq_true rfl, Nat.le_of_ble_eq_true rfl⟩ (fun H locs hG => ?_)
    refine lv_istore_n (lv' := [(3, .int v51), (0, .ref ba0), (1, .int bx1), (2, .ref ba2)]) hx hb dX1_useOf_54 rfl hl (by decide) rfl (fun ls hl => ?_)
    refine lv_aload_n hx hb dX1_useOf_55 rfl (lv_at hl 3 rfl) ?_
    refine lv_aload_n hx hb dX1_useOf_56 rfl (lv_at hl 1 rfl) ?_
    obtain ⟨v57, e57, h⟩ := Option.bind_eq_some_iff.mp h
    refine g_getr hx hb hts inlX1 hown hK hG (by rfl) 1 (by decide) qF_X1_21 e57 dX1_useOf_57 ?_
    refine lv_iload_n hx hb dX1_useOf_60 rfl (lv_at hl 0 rfl) ?_
    obtain ⟨u61, i61, h⟩ := Option.bind_eq_some_iff.mp h
    obtain ⟨v61, e61, h⟩ := Option.bind_eq_some_iff.mp h
    refine g_cVi (As := [.int v51]) (rest := [.ref ba2]) (n := 1) hx hb hml hown hts hK hlo hG (m_X7_fileOf l dd cT lo G v57 v51 e61) qM_X1_140 qI_yX7_fileOf qS_X7_yX7_fileOf qN_X7 qC_yX7_fileOf (by decide +kernel) ⟨Nat.le_of_ble_eq_true rfl, Nat.le_of_ble_eq_true rfl⟩ (by rfl) i61 rfl hl.1 rfl (Nat.le_of_ble_eq_true rfl) dX1_useOf_61 ⟨Nat.le_of_ble_eq_true rfl, Nat.le_of_ble_eq_true rfl⟩ (fun H locs hG => ?_)
    obtain ⟨u64, i64, h⟩ := Option.bind_eq_some_iff.mp h
    obtain ⟨v64, e64, h⟩ := Option.bind_eq_some_iff.mp h
    refine g_cVi (As := [.int v61]) (rest := []) (n := 1) hx hb hml hown hts hK hlo hG (m_X8_versionOf l dd cT lo G ba2 v61 e64) qM_X1_143 qI_yX8_versionOf qS_X8_yX8_versionOf qN_X8 qC_yX8_versionOf (by decide +kernel) ⟨Nat.le_of_ble_eq_true rfl, Nat.le_of_ble_eq_true rfl⟩ (by rfl) i64 rfl hl.1 rfl (Nat.le_of_ble_eq_true rfl) dX1_useOf_64 ⟨Nat.le_of_ble_eq_true rfl, Nat.le_of_ble_eq_true rfl⟩ (fun H locs hG => ?_)
    refine lv_iload_n hx hb dX1_useOf_67 rfl (lv_at hl 0 rfl) ?_
    refine lv_icmp_ne (tgt := 75) hx hb dX1_useOf_68 (by decide) (fun c68 => ?_) (fun c68 => ?_)
    · rw [if_neg c68] at h
      refine lv_iconst (v := (2 : Int32)) hx hb dX1_useOf_75 (by decide) ?_
      obtain rfl := Option.some.inj h
      exact g_iret hx hb hr hlocks hK hlo hG ⟨rfl, rfl⟩ dX1_useOf_76
    · rw [if_pos c68] at h
      refine lv_iconst (v := (1 : Int32)) hx hb dX1_useOf_71 (by decide) ?_
      refine lv_goto (tgt := 76) hx hb dX1_useOf_72 (by decide) ?_
      obtain rfl := Option.some.inj h
      exact g_iret hx hb hr hlocks hK hlo hG ⟨rfl, rfl⟩ dX1_useOf_76
  unfold f_X1_useOf at h
  refine lv_aload_n hx hb dX1_useOf_0 rfl (lv_at hl 0 rfl) ?_
  obtain ⟨v1, e1, h⟩ := Option.bind_eq_some_iff.mp h
  refine g_getr hx hb hts inlX1 hown hK hG (by rfl) 0 (by decide) qF_X1_12 e1 dX1_useOf_1 ?_
  refine lv_iload_n hx hb dX1_useOf_4 rfl (lv_at hl 1 rfl) ?_
  obtain ⟨u5, i5, h⟩ := Option.bind_eq_some_iff.mp h
  obtain ⟨v5, e5, h⟩ := Option.bind_eq_some_iff.mp h
  refine g_cVi (As := [.int x1]) (rest := []) (n := 1) hx hb hml hown hts hK hlo hG (m_X0_kindOf l dd cT lo G v1 x1 e5) qM_X1_100 qI_yX0_kindOf qS_X0_yX0_kindOf qN_X0 qC_yX0_kindOf (by decide +kernel) ⟨Nat.le_of_ble_eq_true rfl, Nat.le_of_ble_eq_true rfl⟩ (by rfl) i5 rfl hl.1 rfl (Nat.le_of_ble_eq_true rfl) dX1_useOf_5 ⟨Nat.le_of_ble_eq_true rfl, Nat.le_of_ble_eq_true rfl⟩ (fun H locs hG => ?_)
  by_cases c8_0 : v5 = (0 : Int32)
  · rw [if_pos c8_0] at h
    refine g_swIn (tgt := 40) hx hb dX1_useOf_8 (0 : Int32) c8_0 (by decide) (by decide) 32 (by decide) (by decide) ?_
    refine lv_iconst (v := (0 : Int32)) hx hb dX1_useOf_40 (by decide) ?_
    obtain rfl := Option.some.inj h
    exact g_iret hx hb hr hlocks hK hlo hG ⟨rfl, rfl⟩ dX1_useOf_41
  rw [if_neg c8_0] at h
  by_cases c8_1 : v5 = (1 : Int32)
  · rw [if_pos c8_1] at h
    refine g_swIn (tgt := 46) hx hb dX1_useOf_8 (1 : Int32) c8_1 (by decide) (by decide) 38 (by decide) (by decide) ?_
    exact h46 a0 x1 a2 _ _ hG _ (lv_sub hl [0, 1, 2] rfl) h
  rw [if_neg c8_1] at h
  by_cases c8_2 : v5 = (2 : Int32)
  · rw [if_pos c8_2] at h
    refine g_swIn (tgt := 42) hx hb dX1_useOf_8 (2 : Int32) c8_2 (by decide) (by decide) 34 (by decide) (by decide) ?_
    refine lv_iconst (v := (3 : Int32)) hx hb dX1_useOf_42 (by decide) ?_
    obtain rfl := Option.some.inj h
    exact g_iret hx hb hr hlocks hK hlo hG ⟨rfl, rfl⟩ dX1_useOf_43
  rw [if_neg c8_2] at h
  by_cases c8_3 : v5 = (3 : Int32)
  · rw [if_pos c8_3] at h
    refine g_swIn (tgt := 44) hx hb dX1_useOf_8 (3 : Int32) c8_3 (by decide) (by decide) 36 (by decide) (by decide) ?_
    refine lv_iconst (v := (4 : Int32)) hx hb dX1_useOf_44 (by decide) ?_
    obtain rfl := Option.some.inj h
    exact g_iret hx hb hr hlocks hK hlo hG ⟨rfl, rfl⟩ dX1_useOf_45
  rw [if_neg c8_3] at h
  have z8 : v5.toInt < 0 ∨ 3 < v5.toInt := by
    have y0 : ¬ v5.toInt = 0 := fun w => c8_0 (Int32.toInt_inj.mp (by rw [w]; rfl))
    have y1 : ¬ v5.toInt = 1 := fun w => c8_1 (Int32.toInt_inj.mp (by rw [w]; rfl))
    have y2 : ¬ v5.toInt = 2 := fun w => c8_2 (Int32.toInt_inj.mp (by rw [w]; rfl))
    have y3 : ¬ v5.toInt = 3 := fun w => c8_3 (Int32.toInt_inj.mp (by rw [w]; rfl))
    omega
  refine lv_tableOut (tgt := 46) hx hb dX1_useOf_8 z8 (by decide) ?_
  exact h46 a0 x1 a2 _ _ hG _ (lv_sub hl [0, 1, 2] rfl) h
def f_X1_closeSession_L31 : Nat → gH → Nat → Int32 → Int32 → Int32 → Int32 → Option (gH × Int32)
  | 0, _, _, _, _, _, _ => none
  | n + 1, G, ba0, bx1, bx2, bx3, bx4 =>
    if bx3 ≤ bx4 then
    (g_r G ba0 1 2).bind fun v56 =>
    (g_ob G v56 5).bind fun u60 =>
    (f_X5_markClosed G v56 bx2).bind fun G60 =>
    some (G60, bx1)
    else
    (g_r G ba0 1 0).bind fun v38 =>
    (g_ob G v38 0).bind fun u46 =>
    (f_X0_writeNext G v38 (2 : Int32) bx1 (-1 : Int32) bx4).bind fun G46 =>
    f_X1_closeSession_L31 n G46 ba0 bx1 bx2 bx3 (bx4 + (1 : Int32))
def f_X1_closeSession (G : gH) (a0 : Nat) : Option (gH × Int32) :=
    (g_r G a0 1 2).bind fun v1 =>
    (g_ob G v1 5).bind fun u4 =>
    (f_X5_latest G v1).bind fun v4 =>
    (g_r G a0 1 0).bind fun v9 =>
    (g_i G v9 0 2).bind fun v12 =>
    (g_r G a0 1 2).bind fun v17 =>
    (g_ob G v17 5).bind fun u21 =>
    (f_X5_entriesOf G v17 v4).bind fun v21 =>
    (f_X1_directoryLength G v21).bind fun v24 =>
    f_X1_closeSession_L31 g_N G a0 v4 v12 v24 (0 : Int32)
set_option maxRecDepth 20000 in
set_option maxHeartbeats 4000000 in
theorem m_X1_closeSession (l : Launch) (dd : va_G) (cT : Nat → ClassId) (lo : Nat) (G : gH) (a0 : Nat) {rz : Int32} {Gz : gH} (h : f_X1_closeSession G a0 = some (Gz, rz)) : Met l yX1_closeSession (Cond.code yX1_closeSession cX1_closeSession 5 (some .int) :: wsL_law) (g_rm 4 91 0 0) (va_Pc [.ref a0] (g_Pre lo dd cT G)) (va_Qi (g_is rz Gz) (g_Pre lo dd cT) (g_A lo)) 0 0 (g_A lo) := by
  refine g_start RX1 rfl (by decide) (Nat.le_of_ble_eq_true rfl) ?_
  intro p e s m below meth c hx hb hr hlocks hml hown hnm hts hK hG hlo ls hl
  have hl : lv_has ls 5 [(0, .ref a0)] := hl
  have hG : g_S lo dd cT s s.heap [] G := hG
  have h31 : ∀ n : Nat, ∀ (G : gH) (ba0 : Nat) (bx1 : Int32) (bx2 : Int32) (bx3 : Int32) (bx4 : Int32), ∀ (H : Heap) (locs : List Loc), g_S lo dd cT s H locs G → ∀ ls : Array Slot, lv_has ls 5 [(0, .ref ba0), (1, .int bx1), (2, .int bx2), (3, .int bx3), (4, .int bx4)] → f_X1_closeSession_L31 n G ba0 bx1 bx2 bx3 bx4 = some (Gz, rz) → W p l e (g_rm 4 91 0 0) s m ([.ref a0] : List Value).toArray below meth c H locs 0 0 (MQ below (va_Qi (g_is rz Gz) (g_Pre lo dd cT) (g_A lo)) ([.ref a0] : List Value).toArray s 0 0 (g_A lo)) (F0 m 31 ls []) := by
    intro n
    induction n with
    | zero =>
      intro G ba0 bx1 bx2 bx3 bx4 H locs hG ls hl h
      cases (show (none : Option (gH × Int32)) = some (Gz, rz) from h)
    | succ n ih =>
      intro G ba0 bx1 bx2 bx3 bx4 H locs hG ls hl h
      rw [f_X1_closeSession_L31] at h
      refine lv_iload hx hb dX1_closeSession_31 (lv_at hl 4 rfl) ?_
      refine lv_iload_n hx hb dX1_closeSession_33 rfl (lv_at hl 3 rfl) ?_
      refine lv_icmp_ge (tgt := 55) hx hb dX1_closeSession_34 (by decide) (fun c34 => ?_) (fun c34 => ?_)
      · rw [if_pos c34] at h
        refine lv_aload_n hx hb dX1_closeSession_55 rfl (lv_at hl 0 rfl) ?_
        obtain ⟨v56, e56, h⟩ := Option.bind_eq_some_iff.mp h
        refine g_getr hx hb hts inlX1 hown hK hG (by rfl) 2 (by decide) qF_X1_28 e56 dX1_closeSession_56 ?_
        refine lv_iload_n hx hb dX1_closeSession_59 rfl (lv_at hl 2 rfl) ?_
        obtain ⟨u60, i60, h⟩ := Option.bind_eq_some_iff.mp h
        obtain ⟨G60, e60, h⟩ := Option.bind_eq_some_iff.mp h
        refine g_cVv (As := [.int bx2]) (rest := []) (n := 1) hx hb hml hown hts hK hlo hG (m_X5_markClosed l dd cT lo G v56 bx2 e60) qM_X1_193 qI_yX5_markClosed qS_X5_yX5_markClosed qN_X5 qC_yX5_markClosed (by decide +kernel) ⟨Nat.le_of_ble_eq_true rfl, Nat.le_of_ble_eq_true rfl⟩ (by rfl) i60 rfl hl.1 rfl (Nat.le_of_ble_eq_true rfl) dX1_closeSession_60 ⟨Nat.le_of_ble_eq_true rfl, Nat.le_of_ble_eq_true rfl⟩ (fun H locs hG => ?_)
        refine lv_iload_n hx hb dX1_closeSession_63 rfl (lv_at hl 1 rfl) ?_
        obtain ⟨rfl, rfl⟩ := Prod.mk.inj (Option.some.inj h)
        exact g_iret hx hb hr hlocks hK hlo hG ⟨rfl, rfl⟩ dX1_closeSession_64
      · rw [if_neg c34] at h
        refine lv_aload_n hx hb dX1_closeSession_37 rfl (lv_at hl 0 rfl) ?_
        obtain ⟨v38, e38, h⟩ := Option.bind_eq_some_iff.mp h
        refine g_getr hx hb hts inlX1 hown hK hG (by rfl) 0 (by decide) qF_X1_12 e38 dX1_closeSession_38 ?_
        refine lv_iconst (v := (2 : Int32)) hx hb dX1_closeSession_41 (by decide) ?_
        refine lv_iload_n hx hb dX1_closeSession_42 rfl (lv_at hl 1 rfl) ?_
        refine lv_iconst (v := (-1 : Int32)) hx hb dX1_closeSession_43 (by decide) ?_
        refine lv_iload hx hb dX1_closeSession_44 (lv_at hl 4 rfl) ?_
        obtain ⟨u46, i46, h⟩ := Option.bind_eq_some_iff.mp h
        obtain ⟨G46, e46, h⟩ := Option.bind_eq_some_iff.mp h
        refine g_cVv (As := [.int (2 : Int32), .int bx1, .int (-1 : Int32), .int bx4]) (rest := []) (n := 4) hx hb hml hown hts hK hlo hG (m_X0_writeNext l dd cT lo G v38 (2 : Int32) bx1 (-1 : Int32) bx4 e46) qM_X1_182 qI_yX0_writeNext qS_X0_yX0_writeNext qN_X0 qC_yX0_writeNext (by decide +kernel) ⟨Nat.le_of_ble_eq_true rfl, Nat.le_of_ble_eq_true rfl⟩ (by rfl) i46 rfl hl.1 rfl (Nat.le_of_ble_eq_true rfl) dX1_closeSession_46 ⟨Nat.le_of_ble_eq_true rfl, Nat.le_of_ble_eq_true rfl⟩ (fun H locs hG => ?_)
        refine lv_iinc (v := (bx4 + (1 : Int32))) (lv' := [(4, .int (bx4 + (1 : Int32))), (0, .ref ba0), (1, .int bx1), (2, .int bx2), (3, .int bx3)]) hx hb dX1_closeSession_49 hl (k := 4) rfl rfl (by decide) rfl (fun ls hl => ?_)
        refine lv_goto (tgt := 31) hx hb dX1_closeSession_52 (by decide) ?_
        exact ih G46 ba0 bx1 bx2 bx3 (bx4 + (1 : Int32)) _ _ hG _ (lv_sub hl [1, 2, 3, 4, 0] rfl) h
  unfold f_X1_closeSession at h
  refine lv_aload_n hx hb dX1_closeSession_0 rfl (lv_at hl 0 rfl) ?_
  obtain ⟨v1, e1, h⟩ := Option.bind_eq_some_iff.mp h
  refine g_getr hx hb hts inlX1 hown hK hG (by rfl) 2 (by decide) qF_X1_28 e1 dX1_closeSession_1 ?_
  obtain ⟨u4, i4, h⟩ := Option.bind_eq_some_iff.mp h
  obtain ⟨v4, e4, h⟩ := Option.bind_eq_some_iff.mp h
  refine g_cVi (As := []) (rest := []) (n := 0) hx hb hml hown hts hK hlo hG (m_X5_latest l dd cT lo G v1 e4) qM_X1_162 qI_yX5_latest qS_X5_yX5_latest qN_X5 qC_yX5_latest (by decide +kernel) ⟨Nat.le_of_ble_eq_true rfl, Nat.le_of_ble_eq_true rfl⟩ (by rfl) i4 rfl hl.1 rfl (Nat.le_of_ble_eq_true rfl) dX1_closeSession_4 ⟨Nat.le_of_ble_eq_true rfl, Nat.le_of_ble_eq_true rfl⟩ (fun H locs hG => ?_)
  refine lv_istore_n (lv' := [(1, .int v4), (0, .ref a0)]) hx hb dX1_closeSession_7 rfl hl (by decide) rfl (fun ls hl => ?_)
  refine lv_aload_n hx hb dX1_closeSession_8 rfl (lv_at hl 1 rfl) ?_
  obtain ⟨v9, e9, h⟩ := Option.bind_eq_some_iff.mp h
  refine g_getr hx hb hts inlX1 hown hK hG (by rfl) 0 (by decide) qF_X1_12 e9 dX1_closeSession_9 ?_
  obtain ⟨v12, e12, h⟩ := Option.bind_eq_some_iff.mp h
  refine g_geti hx hb hts inlX0 hown hK hG (by rfl) 2 (by decide) qF_X1_175 e12 dX1_closeSession_12 ?_
  refine lv_istore_n (lv' := [(2, .int v12), (1, .int v4), (0, .ref a0)]) hx hb dX1_closeSession_15 rfl hl (by decide) rfl (fun ls hl => ?_)
  refine lv_aload_n hx hb dX1_closeSession_16 rfl (lv_at hl 2 rfl) ?_
  obtain ⟨v17, e17, h⟩ := Option.bind_eq_some_iff.mp h
  refine g_getr hx hb hts inlX1 hown hK hG (by rfl) 2 (by decide) qF_X1_28 e17 dX1_closeSession_17 ?_
  refine lv_iload_n hx hb dX1_closeSession_20 rfl (lv_at hl 1 rfl) ?_
  obtain ⟨u21, i21, h⟩ := Option.bind_eq_some_iff.mp h
  obtain ⟨v21, e21, h⟩ := Option.bind_eq_some_iff.mp h
  refine g_cVi (As := [.int v4]) (rest := []) (n := 1) hx hb hml hown hts hK hlo hG (m_X5_entriesOf l dd cT lo G v17 v4 e21) qM_X1_91 qI_yX5_entriesOf qS_X5_yX5_entriesOf qN_X5 qC_yX5_entriesOf (by decide +kernel) ⟨Nat.le_of_ble_eq_true rfl, Nat.le_of_ble_eq_true rfl⟩ (by rfl) i21 rfl hl.1 rfl (Nat.le_of_ble_eq_true rfl) dX1_closeSession_21 ⟨Nat.le_of_ble_eq_true rfl, Nat.le_of_ble_eq_true rfl⟩ (fun H locs hG => ?_)
  obtain ⟨v24, e24, h⟩ := Option.bind_eq_some_iff.mp h
  refine g_cSi (As := [.int v21]) (rest := []) (n := 1) hx hb hml hown hts hK hlo hG (m_X1_directoryLength l dd cT lo G v21 e24) qM_X1_94 qT_yX1_directoryLength qN_X1 qC_yX1_directoryLength (by decide +kernel) ⟨Nat.le_of_ble_eq_true rfl, Nat.le_of_ble_eq_true rfl⟩ rfl hl.1 rfl (Nat.le_of_ble_eq_true rfl) dX1_closeSession_24 ⟨Nat.le_of_ble_eq_true rfl, Nat.le_of_ble_eq_true rfl⟩ (fun H locs hG => ?_)
  refine lv_istore_n (lv' := [(3, .int v24), (2, .int v12), (1, .int v4), (0, .ref a0)]) hx hb dX1_closeSession_27 rfl hl (by decide) rfl (fun ls hl => ?_)
  refine lv_iconst (v := (0 : Int32)) hx hb dX1_closeSession_28 (by decide) ?_
  refine lv_istore (lv' := [(4, .int (0 : Int32)), (3, .int v24), (2, .int v12), (1, .int v4), (0, .ref a0)]) hx hb dX1_closeSession_29 hl (by decide) rfl (fun ls hl => ?_)
  exact h31 g_N G a0 v4 v12 v24 (0 : Int32) _ _ hG _ (lv_sub hl [4, 3, 2, 1, 0] rfl) h
def f_X1_loseSession (G : gH) (a0 : Nat) : Option (gH × Int32) :=
    (g_r G a0 1 2).bind fun v1 =>
    (g_ob G v1 5).bind fun u4 =>
    (f_X5_markLost G v1).bind fun G4 =>
    (g_r G4 a0 1 0).bind fun v8 =>
    (g_r G4 a0 1 2).bind fun v12 =>
    (g_ob G4 v12 5).bind fun u15 =>
    (f_X5_latest G4 v12).bind fun v15 =>
    (g_ob G4 v8 0).bind fun u18 =>
    (f_X0_mainBlocksOf G4 v8 v15).bind fun v18 =>
    some (G4, v18)
set_option maxRecDepth 20000 in
set_option maxHeartbeats 4000000 in
theorem m_X1_loseSession (l : Launch) (dd : va_G) (cT : Nat → ClassId) (lo : Nat) (G : gH) (a0 : Nat) {rz : Int32} {Gz : gH} (h : f_X1_loseSession G a0 = some (Gz, rz)) : Met l yX1_loseSession (Cond.code yX1_loseSession cX1_loseSession 1 (some .int) :: wsL_law) (g_rm 4 89 0 0) (va_Pc [.ref a0] (g_Pre lo dd cT G)) (va_Qi (g_is rz Gz) (g_Pre lo dd cT) (g_A lo)) 0 0 (g_A lo) := by
  refine g_start RX1 rfl (by decide) (Nat.le_of_ble_eq_true rfl) ?_
  intro p e s m below meth c hx hb hr hlocks hml hown hnm hts hK hG hlo ls hl
  have hl : lv_has ls 1 [(0, .ref a0)] := hl
  have hG : g_S lo dd cT s s.heap [] G := hG
  unfold f_X1_loseSession at h
  refine lv_aload_n hx hb dX1_loseSession_0 rfl (lv_at hl 0 rfl) ?_
  obtain ⟨v1, e1, h⟩ := Option.bind_eq_some_iff.mp h
  refine g_getr hx hb hts inlX1 hown hK hG (by rfl) 2 (by decide) qF_X1_28 e1 dX1_loseSession_1 ?_
  obtain ⟨u4, i4, h⟩ := Option.bind_eq_some_iff.mp h
  obtain ⟨G4, e4, h⟩ := Option.bind_eq_some_iff.mp h
  refine g_cVv (As := []) (rest := []) (n := 0) hx hb hml hown hts hK hlo hG (m_X5_markLost l dd cT lo G v1 e4) qM_X1_196 qI_yX5_markLost qS_X5_yX5_markLost qN_X5 qC_yX5_markLost (by decide +kernel) ⟨Nat.le_of_ble_eq_true rfl, Nat.le_of_ble_eq_true rfl⟩ (by rfl) i4 rfl hl.1 rfl (Nat.le_of_ble_eq_true rfl) dX1_loseSession_4 ⟨Nat.le_of_ble_eq_true rfl, Nat.le_of_ble_eq_true rfl⟩ (fun H locs hG => ?_)
  refine lv_aload_n hx hb dX1_loseSession_7 rfl (lv_at hl 0 rfl) ?_
  obtain ⟨v8, e8, h⟩ := Option.bind_eq_some_iff.mp h
  refine g_getr hx hb hts inlX1 hown hK hG (by rfl) 0 (by decide) qF_X1_12 e8 dX1_loseSession_8 ?_
  refine lv_aload_n hx hb dX1_loseSession_11 rfl (lv_at hl 0 rfl) ?_
  obtain ⟨v12, e12, h⟩ := Option.bind_eq_some_iff.mp h
  refine g_getr hx hb hts inlX1 hown hK hG (by rfl) 2 (by decide) qF_X1_28 e12 dX1_loseSession_12 ?_
  obtain ⟨u15, i15, h⟩ := Option.bind_eq_some_iff.mp h
  obtain ⟨v15, e15, h⟩ := Option.bind_eq_some_iff.mp h
  refine g_cVi (As := []) (rest := [.ref v8]) (n := 0) hx hb hml hown hts hK hlo hG (m_X5_latest l dd cT lo G4 v12 e15) qM_X1_162 qI_yX5_latest qS_X5_yX5_latest qN_X5 qC_yX5_latest (by decide +kernel) ⟨Nat.le_of_ble_eq_true rfl, Nat.le_of_ble_eq_true rfl⟩ (by rfl) i15 rfl hl.1 rfl (Nat.le_of_ble_eq_true rfl) dX1_loseSession_15 ⟨Nat.le_of_ble_eq_true rfl, Nat.le_of_ble_eq_true rfl⟩ (fun H locs hG => ?_)
  obtain ⟨u18, i18, h⟩ := Option.bind_eq_some_iff.mp h
  obtain ⟨v18, e18, h⟩ := Option.bind_eq_some_iff.mp h
  refine g_cVi (As := [.int v15]) (rest := []) (n := 1) hx hb hml hown hts hK hlo hG (m_X0_mainBlocksOf l dd cT lo G4 v8 v15 e18) qM_X1_199 qI_yX0_mainBlocksOf qS_X0_yX0_mainBlocksOf qN_X0 qC_yX0_mainBlocksOf (by decide +kernel) ⟨Nat.le_of_ble_eq_true rfl, Nat.le_of_ble_eq_true rfl⟩ (by rfl) i18 rfl hl.1 rfl (Nat.le_of_ble_eq_true rfl) dX1_loseSession_18 ⟨Nat.le_of_ble_eq_true rfl, Nat.le_of_ble_eq_true rfl⟩ (fun H locs hG => ?_)
  obtain ⟨rfl, rfl⟩ := Prod.mk.inj (Option.some.inj h)
  exact g_iret hx hb hr hlocks hK hlo hG ⟨rfl, rfl⟩ dX1_loseSession_21
def f_X1_isReadableOf (G : gH) (a0 : Nat) (x1 : Int32) (x2 : Int32) : Option Int32 :=
    (g_r G a0 1 1).bind fun v1 =>
    (g_ob G v1 7).bind fun u5 =>
    (f_X7_writerOf G v1 x1).bind fun v5 =>
    if v5 = x2 then
    (g_ob G a0 1).bind fun u14 =>
    (f_X1_canReadVersion G a0 x1).bind fun v14 =>
    if v14 = 0 then
    some (0 : Int32)
    else
    some (1 : Int32)
    else
    some (0 : Int32)
set_option maxRecDepth 20000 in
set_option maxHeartbeats 4000000 in
theorem m_X1_isReadableOf (l : Launch) (dd : va_G) (cT : Nat → ClassId) (lo : Nat) (G : gH) (a0 : Nat) (x1 : Int32) (x2 : Int32) {rz : Int32} (h : f_X1_isReadableOf G a0 x1 x2 = some rz) : Met l yX1_isReadableOf (Cond.code yX1_isReadableOf cX1_isReadableOf 3 (some .boolean) :: wsL_law) (g_rm 4 87 0 0) (va_Pc [.ref a0, .int x1, .int x2] (g_Pre lo dd cT G)) (va_Qi (g_is rz G) (g_Pre lo dd cT) (g_A lo)) 0 0 (g_A lo) := by
  refine g_start RX1 rfl (by decide) (Nat.le_of_ble_eq_true rfl) ?_
  intro p e s m below meth c hx hb hr hlocks hml hown hnm hts hK hG hlo ls hl
  have hl : lv_has ls 3 [(0, .ref a0), (1, .int x1), (2, .int x2)] := hl
  have hG : g_S lo dd cT s s.heap [] G := hG
  unfold f_X1_isReadableOf at h
  refine lv_aload_n hx hb dX1_isReadableOf_0 rfl (lv_at hl 0 rfl) ?_
  obtain ⟨v1, e1, h⟩ := Option.bind_eq_some_iff.mp h
  refine g_getr hx hb hts inlX1 hown hK hG (by rfl) 1 (by decide) qF_X1_21 e1 dX1_isReadableOf_1 ?_
  refine lv_iload_n hx hb dX1_isReadableOf_4 rfl (lv_at hl 1 rfl) ?_
  obtain ⟨u5, i5, h⟩ := Option.bind_eq_some_iff.mp h
  obtain ⟨v5, e5, h⟩ := Option.bind_eq_some_iff.mp h
  refine g_cVi (As := [.int x1]) (rest := []) (n := 1) hx hb hml hown hts hK hlo hG (m_X7_writerOf l dd cT lo G v1 x1 e5) qM_X1_222 qI_yX7_writerOf qS_X7_yX7_writerOf qN_X7 qC_yX7_writerOf (by decide +kernel) ⟨Nat.le_of_ble_eq_true rfl, Nat.le_of_ble_eq_true rfl⟩ (by rfl) i5 rfl hl.1 rfl (Nat.le_of_ble_eq_true rfl) dX1_isReadableOf_5 ⟨Nat.le_of_ble_eq_true rfl, Nat.le_of_ble_eq_true rfl⟩ (fun H locs hG => ?_)
  refine lv_iload_n hx hb dX1_isReadableOf_8 rfl (lv_at hl 2 rfl) ?_
  refine lv_icmp_ne (tgt := 24) hx hb dX1_isReadableOf_9 (by decide) (fun c9 => ?_) (fun c9 => ?_)
  · rw [if_neg c9] at h
    refine lv_iconst (v := (0 : Int32)) hx hb dX1_isReadableOf_24 (by decide) ?_
    obtain rfl := Option.some.inj h
    exact g_zret hx hb hr hlocks hK hlo hG rfl ⟨rfl, rfl⟩ dX1_isReadableOf_25
  · rw [if_pos c9] at h
    refine lv_aload_n hx hb dX1_isReadableOf_12 rfl (lv_at hl 0 rfl) ?_
    refine lv_iload_n hx hb dX1_isReadableOf_13 rfl (lv_at hl 1 rfl) ?_
    obtain ⟨u14, i14, h⟩ := Option.bind_eq_some_iff.mp h
    obtain ⟨v14, e14, h⟩ := Option.bind_eq_some_iff.mp h
    refine g_cVi (As := [.int x1]) (rest := []) (n := 1) hx hb hml hown hts hK hlo hG (m_X1_canReadVersion l dd cT lo G a0 x1 e14) qM_X1_223 qI_yX1_canReadVersion qS_X1_yX1_canReadVersion qN_X1 qC_yX1_canReadVersion (by decide +kernel) ⟨Nat.le_of_ble_eq_true rfl, Nat.le_of_ble_eq_true rfl⟩ (by rfl) i14 rfl hl.1 rfl (Nat.le_of_ble_eq_true rfl) dX1_isReadableOf_14 ⟨Nat.le_of_ble_eq_true rfl, Nat.le_of_ble_eq_true rfl⟩ (fun H locs hG => ?_)
    refine lv_if_eq (tgt := 24) hx hb dX1_isReadableOf_17 (by decide) (fun c17 => ?_) (fun c17 => ?_)
    · rw [if_pos c17] at h
      refine lv_iconst (v := (0 : Int32)) hx hb dX1_isReadableOf_24 (by decide) ?_
      obtain rfl := Option.some.inj h
      exact g_zret hx hb hr hlocks hK hlo hG rfl ⟨rfl, rfl⟩ dX1_isReadableOf_25
    · rw [if_neg c17] at h
      refine lv_iconst (v := (1 : Int32)) hx hb dX1_isReadableOf_20 (by decide) ?_
      refine lv_goto (tgt := 25) hx hb dX1_isReadableOf_21 (by decide) ?_
      obtain rfl := Option.some.inj h
      exact g_zret hx hb hr hlocks hK hlo hG rfl ⟨rfl, rfl⟩ dX1_isReadableOf_25
def f_X3_addBytes (G : gH) (a0 : Nat) (x1 : Int32) : Option gH :=
    (g_ob G a0 3).bind fun u5 =>
    (f_X3_addByte G a0 ((x1.toUInt32 >>> ((24 : Int32).toUInt32 &&& Int32.toUInt32 31)).toInt32)).bind fun G5 =>
    (g_ob G5 a0 3).bind fun u13 =>
    (f_X3_addByte G5 a0 ((x1.toUInt32 >>> ((16 : Int32).toUInt32 &&& Int32.toUInt32 31)).toInt32)).bind fun G13 =>
    (g_ob G13 a0 3).bind fun u21 =>
    (f_X3_addByte G13 a0 ((x1.toUInt32 >>> ((8 : Int32).toUInt32 &&& Int32.toUInt32 31)).toInt32)).bind fun G21 =>
    (g_ob G21 a0 3).bind fun u26 =>
    (f_X3_addByte G21 a0 x1).bind fun G26 =>
    some G26
set_option maxRecDepth 20000 in
set_option maxHeartbeats 4000000 in
theorem m_X3_addBytes (l : Launch) (dd : va_G) (cT : Nat → ClassId) (lo : Nat) (G : gH) (a0 : Nat) (x1 : Int32) {Gz : gH} (h : f_X3_addBytes G a0 x1 = some Gz) : Met l yX3_addBytes (Cond.code yX3_addBytes cX3_addBytes 2 none :: wsL_law) (g_rm 2 43 0 0) (va_Pc [.ref a0, .int x1] (g_Pre lo dd cT G)) (va_Qv (g_iv Gz) (g_Pre lo dd cT) (g_A lo)) 0 0 (g_A lo) := by
  refine g_start RX3 rfl (by decide) (Nat.le_of_ble_eq_true rfl) ?_
  intro p e s m below meth c hx hb hr hlocks hml hown hnm hts hK hG hlo ls hl
  have hl : lv_has ls 2 [(0, .ref a0), (1, .int x1)] := hl
  have hG : g_S lo dd cT s s.heap [] G := hG
  unfold f_X3_addBytes at h
  refine lv_aload_n hx hb dX3_addBytes_0 rfl (lv_at hl 0 rfl) ?_
  refine lv_iload_n hx hb dX3_addBytes_1 rfl (lv_at hl 1 rfl) ?_
  refine lv_bipush (v := (24 : Int32)) hx hb dX3_addBytes_2 (by decide) ?_
  refine lv_iushr hx hb dX3_addBytes_4 rfl ?_
  obtain ⟨u5, i5, h⟩ := Option.bind_eq_some_iff.mp h
  obtain ⟨G5, e5, h⟩ := Option.bind_eq_some_iff.mp h
  refine g_cVv (As := [.int ((x1.toUInt32 >>> ((24 : Int32).toUInt32 &&& Int32.toUInt32 31)).toInt32)]) (rest := []) (n := 1) hx hb hml hown hts hK hlo hG (m_X3_addByte l dd cT lo G a0 ((x1.toUInt32 >>> ((24 : Int32).toUInt32 &&& Int32.toUInt32 31)).toInt32) e5) qM_X3_19 qI_yX3_addByte qS_X3_yX3_addByte qN_X3 qC_yX3_addByte (by decide +kernel) ⟨Nat.le_of_ble_eq_true rfl, Nat.le_of_ble_eq_true rfl⟩ (by rfl) i5 rfl hl.1 rfl (Nat.le_of_ble_eq_true rfl) dX3_addBytes_5 ⟨Nat.le_of_ble_eq_true rfl, Nat.le_of_ble_eq_true rfl⟩ (fun H locs hG => ?_)
  refine lv_aload_n hx hb dX3_addBytes_8 rfl (lv_at hl 0 rfl) ?_
  refine lv_iload_n hx hb dX3_addBytes_9 rfl (lv_at hl 1 rfl) ?_
  refine lv_bipush (v := (16 : Int32)) hx hb dX3_addBytes_10 (by decide) ?_
  refine lv_iushr hx hb dX3_addBytes_12 rfl ?_
  obtain ⟨u13, i13, h⟩ := Option.bind_eq_some_iff.mp h
  obtain ⟨G13, e13, h⟩ := Option.bind_eq_some_iff.mp h
  refine g_cVv (As := [.int ((x1.toUInt32 >>> ((16 : Int32).toUInt32 &&& Int32.toUInt32 31)).toInt32)]) (rest := []) (n := 1) hx hb hml hown hts hK hlo hG (m_X3_addByte l dd cT lo G5 a0 ((x1.toUInt32 >>> ((16 : Int32).toUInt32 &&& Int32.toUInt32 31)).toInt32) e13) qM_X3_19 qI_yX3_addByte qS_X3_yX3_addByte qN_X3 qC_yX3_addByte (by decide +kernel) ⟨Nat.le_of_ble_eq_true rfl, Nat.le_of_ble_eq_true rfl⟩ (by rfl) i13 rfl hl.1 rfl (Nat.le_of_ble_eq_true rfl) dX3_addBytes_13 ⟨Nat.le_of_ble_eq_true rfl, Nat.le_of_ble_eq_true rfl⟩ (fun H locs hG => ?_)
  refine lv_aload_n hx hb dX3_addBytes_16 rfl (lv_at hl 0 rfl) ?_
  refine lv_iload_n hx hb dX3_addBytes_17 rfl (lv_at hl 1 rfl) ?_
  refine lv_bipush (v := (8 : Int32)) hx hb dX3_addBytes_18 (by decide) ?_
  refine lv_iushr hx hb dX3_addBytes_20 rfl ?_
  obtain ⟨u21, i21, h⟩ := Option.bind_eq_some_iff.mp h
  obtain ⟨G21, e21, h⟩ := Option.bind_eq_some_iff.mp h
  refine g_cVv (As := [.int ((x1.toUInt32 >>> ((8 : Int32).toUInt32 &&& Int32.toUInt32 31)).toInt32)]) (rest := []) (n := 1) hx hb hml hown hts hK hlo hG (m_X3_addByte l dd cT lo G13 a0 ((x1.toUInt32 >>> ((8 : Int32).toUInt32 &&& Int32.toUInt32 31)).toInt32) e21) qM_X3_19 qI_yX3_addByte qS_X3_yX3_addByte qN_X3 qC_yX3_addByte (by decide +kernel) ⟨Nat.le_of_ble_eq_true rfl, Nat.le_of_ble_eq_true rfl⟩ (by rfl) i21 rfl hl.1 rfl (Nat.le_of_ble_eq_true rfl) dX3_addBytes_21 ⟨Nat.le_of_ble_eq_true rfl, Nat.le_of_ble_eq_true rfl⟩ (fun H locs hG => ?_)
  refine lv_aload_n hx hb dX3_addBytes_24 rfl (lv_at hl 0 rfl) ?_
  refine lv_iload_n hx hb dX3_addBytes_25 rfl (lv_at hl 1 rfl) ?_
  obtain ⟨u26, i26, h⟩ := Option.bind_eq_some_iff.mp h
  obtain ⟨G26, e26, h⟩ := Option.bind_eq_some_iff.mp h
  refine g_cVv (As := [.int x1]) (rest := []) (n := 1) hx hb hml hown hts hK hlo hG (m_X3_addByte l dd cT lo G21 a0 x1 e26) qM_X3_19 qI_yX3_addByte qS_X3_yX3_addByte qN_X3 qC_yX3_addByte (by decide +kernel) ⟨Nat.le_of_ble_eq_true rfl, Nat.le_of_ble_eq_true rfl⟩ (by rfl) i26 rfl hl.1 rfl (Nat.le_of_ble_eq_true rfl) dX3_addBytes_26 ⟨Nat.le_of_ble_eq_true rfl, Nat.le_of_ble_eq_true rfl⟩ (fun H locs hG => ?_)
  obtain rfl := Option.some.inj h
  exact g_vret hx hb hr hlocks hK hlo hG rfl dX3_addBytes_29
def f_X4_advance_J58 (G : gH) (ba0 : Nat) (ba1 : Nat) : Option gH :=
    (g_i G ba0 4 4).bind fun v60 =>
    (g_put G ba0 4 5 (.int v60)).bind fun G63 =>
    (g_i G63 ba0 4 4).bind fun v67 =>
    (g_i G63 ba0 4 2).bind fun v71 =>
    if v67 < v71 then
    (g_i G63 ba0 4 4).bind fun v87 =>
    (g_ob G63 ba1 3).bind fun u90 =>
    (f_X3_hasLetterAt G63 ba1 v87).bind fun v90 =>
    if v90 = 0 then
    (g_i G63 ba0 4 4).bind fun v106 =>
    (g_ob G63 ba1 3).bind fun u109 =>
    (f_X3_hasDigitAt G63 ba1 v106).bind fun v109 =>
    if v109 = 0 then
    (g_i G63 ba0 4 5).bind fun v125 =>
    (g_put G63 ba0 4 5 (.int (v125 + (1 : Int32)))).bind fun G130 =>
    (g_i G130 ba0 4 4).bind fun v136 =>
    (g_ob G130 ba1 3).bind fun u139 =>
    (f_X3_byteAt G130 ba1 v136).bind fun v139 =>
    if v139 = (59 : Int32) then
    (g_put G130 ba0 4 3 (.int (3 : Int32))).bind fun G152 =>
    some G152
    else
    (g_put G130 ba0 4 3 (.int (4 : Int32))).bind fun G152 =>
    some G152
    else
    (g_ob G63 ba0 4).bind fun u117 =>
    (f_X4_takeNumber G63 ba0 ba1).bind fun G117 =>
    some G117
    else
    (g_ob G63 ba0 4).bind fun u98 =>
    (f_X4_takeWord G63 ba0 ba1).bind fun G98 =>
    some G98
    else
    (g_put G63 ba0 4 3 (.int (0 : Int32))).bind fun G79 =>
    some G79
def f_X4_advance_L8 : Nat → gH → Nat → Nat → Option gH
  | 0, _, _, _ => none
  | n + 1, G, ba0, ba1 =>
    (g_i G ba0 4 4).bind fun v9 =>
    (g_i G ba0 4 2).bind fun v13 =>
    if v13 ≤ v9 then
    f_X4_advance_J58 G ba0 ba1
    else
    (g_i G ba0 4 4).bind fun v21 =>
    (g_ob G ba1 3).bind fun u24 =>
    (f_X3_byteAt G ba1 v21).bind fun v24 =>
    if v24 = (32 : Int32) then
    (g_i G ba0 4 4).bind fun v47 =>
    (g_put G ba0 4 4 (.int (v47 + (1 : Int32)))).bind fun G52 =>
    f_X4_advance_L8 n G52 ba0 ba1
    else
    (g_i G ba0 4 4).bind fun v34 =>
    (g_ob G ba1 3).bind fun u37 =>
    (f_X3_byteAt G ba1 v34).bind fun v37 =>
    if v37 = (10 : Int32) then
    (g_i G ba0 4 4).bind fun v47 =>
    (g_put G ba0 4 4 (.int (v47 + (1 : Int32)))).bind fun G52 =>
    f_X4_advance_L8 n G52 ba0 ba1
    else
    f_X4_advance_J58 G ba0 ba1
def f_X4_advance (G : gH) (a0 : Nat) (a1 : Nat) : Option gH :=
    (g_i G a0 4 5).bind fun v2 =>
    (g_put G a0 4 4 (.int v2)).bind fun G5 =>
    f_X4_advance_L8 g_N G5 a0 a1
set_option maxRecDepth 20000 in
set_option maxHeartbeats 4000000 in
theorem m_X4_advance (l : Launch) (dd : va_G) (cT : Nat → ClassId) (lo : Nat) (G : gH) (a0 : Nat) (a1 : Nat) {Gz : gH} (h : f_X4_advance G a0 a1 = some Gz) : Met l yX4_advance (Cond.code yX4_advance cX4_advance 2 none :: wsL_law) (g_rm 4 89 0 0) (va_Pc [.ref a0, .ref a1] (g_Pre lo dd cT G)) (va_Qv (g_iv Gz) (g_Pre lo dd cT) (g_A lo)) 0 0 (g_A lo) := by
  refine g_start RX4 rfl (by decide) (Nat.le_of_ble_eq_true rfl) ?_
  intro p e s m below meth c hx hb hr hlocks hml hown hnm hts hK hG hlo ls hl
  have hl : lv_has ls 2 [(0, .ref a0), (1, .ref a1)] := hl
  have hG : g_S lo dd cT s s.heap [] G := hG
  have h58 : ∀ (G : gH) (ba0 : Nat) (ba1 : Nat), ∀ (H : Heap) (locs : List Loc), g_S lo dd cT s H locs G → ∀ ls : Array Slot, lv_has ls 2 [(0, .ref ba0), (1, .ref ba1)] → f_X4_advance_J58 G ba0 ba1 = some Gz → W p l e (g_rm 4 89 0 0) s m ([.ref a0, .ref a1] : List Value).toArray below meth c H locs 0 0 (MQ below (va_Qv (g_iv Gz) (g_Pre lo dd cT) (g_A lo)) ([.ref a0, .ref a1] : List Value).toArray s 0 0 (g_A lo)) (F0 m 58 ls []) := by
    intro G ba0 ba1 H locs hG ls hl h
    unfold f_X4_advance_J58 at h
    refine lv_aload_n hx hb dX4_advance_58 rfl (lv_at hl 0 rfl) ?_
    refine lv_aload_n hx hb dX4_advance_59 rfl (lv_at hl 0 rfl) ?_
    obtain ⟨v60, e60, h⟩ := Option.bind_eq_some_iff.mp h
    refine g_geti hx hb hts inlX4 hown hK hG (by rfl) 4 (by decide) qF_X4_24 e60 dX4_advance_60 ?_
    obtain ⟨G63, i63, h⟩ := Option.bind_eq_some_iff.mp h
    refine g_putv hx hb hts inlX4 tyX4 tyX4_ok nmX4 hown hK hG (by rfl) 5 (by decide) qF_X4_27 rfl rfl rfl rfl i63 dX4_advance_63 (fun H locs hG => ?_)
    refine lv_aload_n hx hb dX4_advance_66 rfl (lv_at hl 0 rfl) ?_
    obtain ⟨v67, e67, h⟩ := Option.bind_eq_some_iff.mp h
    refine g_geti hx hb hts inlX4 hown hK hG (by rfl) 4 (by decide) qF_X4_24 e67 dX4_advance_67 ?_
    refine lv_aload_n hx hb dX4_advance_70 rfl (lv_at hl 0 rfl) ?_
    obtain ⟨v71, e71, h⟩ := Option.bind_eq_some_iff.mp h
    refine g_geti hx hb hts inlX4 hown hK hG (by rfl) 2 (by decide) qF_X4_18 e71 dX4_advance_71 ?_
    refine lv_icmp_lt (tgt := 85) hx hb dX4_advance_74 (by decide) (fun c74 => ?_) (fun c74 => ?_)
    · rw [if_pos c74] at h
      refine lv_aload_n hx hb dX4_advance_85 rfl (lv_at hl 1 rfl) ?_
      refine lv_aload_n hx hb dX4_advance_86 rfl (lv_at hl 0 rfl) ?_
      obtain ⟨v87, e87, h⟩ := Option.bind_eq_some_iff.mp h
      refine g_geti hx hb hts inlX4 hown hK hG (by rfl) 4 (by decide) qF_X4_24 e87 dX4_advance_87 ?_
      obtain ⟨u90, i90, h⟩ := Option.bind_eq_some_iff.mp h
      obtain ⟨v90, e90, h⟩ := Option.bind_eq_some_iff.mp h
      refine g_cVi (As := [.int v87]) (rest := []) (n := 1) hx hb hml hown hts hK hlo hG (m_X3_hasLetterAt l dd cT lo G63 ba1 v87 e90) qM_X4_178 qI_yX3_hasLetterAt qS_X3_yX3_hasLetterAt qN_X3 qC_yX3_hasLetterAt (by decide +kernel) ⟨Nat.le_of_ble_eq_true rfl, Nat.le_of_ble_eq_true rfl⟩ (by rfl) i90 rfl hl.1 rfl (Nat.le_of_ble_eq_true rfl) dX4_advance_90 ⟨Nat.le_of_ble_eq_true rfl, Nat.le_of_ble_eq_true rfl⟩ (fun H locs hG => ?_)
      refine lv_if_eq (tgt := 104) hx hb dX4_advance_93 (by decide) (fun c93 => ?_) (fun c93 => ?_)
      · rw [if_pos c93] at h
        refine lv_aload_n hx hb dX4_advance_104 rfl (lv_at hl 1 rfl) ?_
        refine lv_aload_n hx hb dX4_advance_105 rfl (lv_at hl 0 rfl) ?_
        obtain ⟨v106, e106, h⟩ := Option.bind_eq_some_iff.mp h
        refine g_geti hx hb hts inlX4 hown hK hG (by rfl) 4 (by decide) qF_X4_24 e106 dX4_advance_106 ?_
        obtain ⟨u109, i109, h⟩ := Option.bind_eq_some_iff.mp h
        obtain ⟨v109, e109, h⟩ := Option.bind_eq_some_iff.mp h
        refine g_cVi (As := [.int v106]) (rest := []) (n := 1) hx hb hml hown hts hK hlo hG (m_X3_hasDigitAt l dd cT lo G63 ba1 v106 e109) qM_X4_184 qI_yX3_hasDigitAt qS_X3_yX3_hasDigitAt qN_X3 qC_yX3_hasDigitAt (by decide +kernel) ⟨Nat.le_of_ble_eq_true rfl, Nat.le_of_ble_eq_true rfl⟩ (by rfl) i109 rfl hl.1 rfl (Nat.le_of_ble_eq_true rfl) dX4_advance_109 ⟨Nat.le_of_ble_eq_true rfl, Nat.le_of_ble_eq_true rfl⟩ (fun H locs hG => ?_)
        refine lv_if_eq (tgt := 123) hx hb dX4_advance_112 (by decide) (fun c112 => ?_) (fun c112 => ?_)
        · rw [if_pos c112] at h
          refine lv_aload_n hx hb dX4_advance_123 rfl (lv_at hl 0 rfl) ?_
          refine lv_dup hx hb dX4_advance_124 rfl ?_
          obtain ⟨v125, e125, h⟩ := Option.bind_eq_some_iff.mp h
          refine g_geti hx hb hts inlX4 hown hK hG (by rfl) 5 (by decide) qF_X4_27 e125 dX4_advance_125 ?_
          refine lv_iconst (v := (1 : Int32)) hx hb dX4_advance_128 (by decide) ?_
          refine lv_iadd hx hb dX4_advance_129 ?_
          obtain ⟨G130, i130, h⟩ := Option.bind_eq_some_iff.mp h
          refine g_putv hx hb hts inlX4 tyX4 tyX4_ok nmX4 hown hK hG (by rfl) 5 (by decide) qF_X4_27 rfl rfl rfl rfl i130 dX4_advance_130 (fun H locs hG => ?_)
          refine lv_aload_n hx hb dX4_advance_133 rfl (lv_at hl 0 rfl) ?_
          refine lv_aload_n hx hb dX4_advance_134 rfl (lv_at hl 1 rfl) ?_
          refine lv_aload_n hx hb dX4_advance_135 rfl (lv_at hl 0 rfl) ?_
          obtain ⟨v136, e136, h⟩ := Option.bind_eq_some_iff.mp h
          refine g_geti hx hb hts inlX4 hown hK hG (by rfl) 4 (by decide) qF_X4_24 e136 dX4_advance_136 ?_
          obtain ⟨u139, i139, h⟩ := Option.bind_eq_some_iff.mp h
          obtain ⟨v139, e139, h⟩ := Option.bind_eq_some_iff.mp h
          refine g_cVi (As := [.int v136]) (rest := [.ref ba0]) (n := 1) hx hb hml hown hts hK hlo hG (m_X3_byteAt l dd cT lo G130 ba1 v136 e139) qM_X4_169 qI_yX3_byteAt qS_X3_yX3_byteAt qN_X3 qC_yX3_byteAt (by decide +kernel) ⟨Nat.le_of_ble_eq_true rfl, Nat.le_of_ble_eq_true rfl⟩ (by rfl) i139 rfl hl.1 rfl (Nat.le_of_ble_eq_true rfl) dX4_advance_139 ⟨Nat.le_of_ble_eq_true rfl, Nat.le_of_ble_eq_true rfl⟩ (fun H locs hG => ?_)
          refine lv_bipush (v := (59 : Int32)) hx hb dX4_advance_142 (by decide) ?_
          refine lv_icmp_ne (tgt := 151) hx hb dX4_advance_144 (by decide) (fun c144 => ?_) (fun c144 => ?_)
          · rw [if_neg c144] at h
            refine lv_iconst (v := (4 : Int32)) hx hb dX4_advance_151 (by decide) ?_
            obtain ⟨G152, i152, h⟩ := Option.bind_eq_some_iff.mp h
            refine g_putv hx hb hts inlX4 tyX4 tyX4_ok nmX4 hown hK hG (by rfl) 3 (by decide) qF_X4_21 rfl rfl rfl rfl i152 dX4_advance_152 (fun H locs hG => ?_)
            obtain rfl := Option.some.inj h
            exact g_vret hx hb hr hlocks hK hlo hG rfl dX4_advance_155
          · rw [if_pos c144] at h
            refine lv_iconst (v := (3 : Int32)) hx hb dX4_advance_147 (by decide) ?_
            refine lv_goto (tgt := 152) hx hb dX4_advance_148 (by decide) ?_
            obtain ⟨G152, i152, h⟩ := Option.bind_eq_some_iff.mp h
            refine g_putv hx hb hts inlX4 tyX4 tyX4_ok nmX4 hown hK hG (by rfl) 3 (by decide) qF_X4_21 rfl rfl rfl rfl i152 dX4_advance_152 (fun H locs hG => ?_)
            obtain rfl := Option.some.inj h
            exact g_vret hx hb hr hlocks hK hlo hG rfl dX4_advance_155
        · rw [if_neg c112] at h
          refine lv_aload_n hx hb dX4_advance_115 rfl (lv_at hl 0 rfl) ?_
          refine lv_aload_n hx hb dX4_advance_116 rfl (lv_at hl 1 rfl) ?_
          obtain ⟨u117, i117, h⟩ := Option.bind_eq_some_iff.mp h
          obtain ⟨G117, e117, h⟩ := Option.bind_eq_some_iff.mp h
          refine g_cVv (As := [.ref ba1]) (rest := []) (n := 1) hx hb hml hown hts hK hlo hG (m_X4_takeNumber l dd cT lo G63 ba0 ba1 e117) qM_X4_187 qI_yX4_takeNumber qS_X4_yX4_takeNumber qN_X4 qC_yX4_takeNumber (by decide +kernel) ⟨Nat.le_of_ble_eq_true rfl, Nat.le_of_ble_eq_true rfl⟩ (by rfl) i117 rfl hl.1 rfl (Nat.le_of_ble_eq_true rfl) dX4_advance_117 ⟨Nat.le_of_ble_eq_true rfl, Nat.le_of_ble_eq_true rfl⟩ (fun H locs hG => ?_)
          refine lv_goto (tgt := 155) hx hb dX4_advance_120 (by decide) ?_
          obtain rfl := Option.some.inj h
          exact g_vret hx hb hr hlocks hK hlo hG rfl dX4_advance_155
      · rw [if_neg c93] at h
        refine lv_aload_n hx hb dX4_advance_96 rfl (lv_at hl 0 rfl) ?_
        refine lv_aload_n hx hb dX4_advance_97 rfl (lv_at hl 1 rfl) ?_
        obtain ⟨u98, i98, h⟩ := Option.bind_eq_some_iff.mp h
        obtain ⟨G98, e98, h⟩ := Option.bind_eq_some_iff.mp h
        refine g_cVv (As := [.ref ba1]) (rest := []) (n := 1) hx hb hml hown hts hK hlo hG (m_X4_takeWord l dd cT lo G63 ba0 ba1 e98) qM_X4_181 qI_yX4_takeWord qS_X4_yX4_takeWord qN_X4 qC_yX4_takeWord (by decide +kernel) ⟨Nat.le_of_ble_eq_true rfl, Nat.le_of_ble_eq_true rfl⟩ (by rfl) i98 rfl hl.1 rfl (Nat.le_of_ble_eq_true rfl) dX4_advance_98 ⟨Nat.le_of_ble_eq_true rfl, Nat.le_of_ble_eq_true rfl⟩ (fun H locs hG => ?_)
        refine lv_goto (tgt := 155) hx hb dX4_advance_101 (by decide) ?_
        obtain rfl := Option.some.inj h
        exact g_vret hx hb hr hlocks hK hlo hG rfl dX4_advance_155
    · rw [if_neg c74] at h
      refine lv_aload_n hx hb dX4_advance_77 rfl (lv_at hl 0 rfl) ?_
      refine lv_iconst (v := (0 : Int32)) hx hb dX4_advance_78 (by decide) ?_
      obtain ⟨G79, i79, h⟩ := Option.bind_eq_some_iff.mp h
      refine g_putv hx hb hts inlX4 tyX4 tyX4_ok nmX4 hown hK hG (by rfl) 3 (by decide) qF_X4_21 rfl rfl rfl rfl i79 dX4_advance_79 (fun H locs hG => ?_)
      refine lv_goto (tgt := 155) hx hb dX4_advance_82 (by decide) ?_
      obtain rfl := Option.some.inj h
      exact g_vret hx hb hr hlocks hK hlo hG rfl dX4_advance_155
  have h8 : ∀ n : Nat, ∀ (G : gH) (ba0 : Nat) (ba1 : Nat), ∀ (H : Heap) (locs : List Loc), g_S lo dd cT s H locs G → ∀ ls : Array Slot, lv_has ls 2 [(0, .ref ba0), (1, .ref ba1)] → f_X4_advance_L8 n G ba0 ba1 = some Gz → W p l e (g_rm 4 89 0 0) s m ([.ref a0, .ref a1] : List Value).toArray below meth c H locs 0 0 (MQ below (va_Qv (g_iv Gz) (g_Pre lo dd cT) (g_A lo)) ([.ref a0, .ref a1] : List Value).toArray s 0 0 (g_A lo)) (F0 m 8 ls []) := by
    intro n
    induction n with
    | zero =>
      intro G ba0 ba1 H locs hG ls hl h
      cases (show (none : Option gH) = some Gz from h)
    | succ n ih =>
      intro G ba0 ba1 H locs hG ls hl h
      rw [f_X4_advance_L8] at h
      refine lv_aload_n hx hb dX4_advance_8 rfl (lv_at hl 0 rfl) ?_
      obtain ⟨v9, e9, h⟩ := Option.bind_eq_some_iff.mp h
      refine g_geti hx hb hts inlX4 hown hK hG (by rfl) 4 (by decide) qF_X4_24 e9 dX4_advance_9 ?_
      refine lv_aload_n hx hb dX4_advance_12 rfl (lv_at hl 0 rfl) ?_
      obtain ⟨v13, e13, h⟩ := Option.bind_eq_some_iff.mp h
      refine g_geti hx hb hts inlX4 hown hK hG (by rfl) 2 (by decide) qF_X4_18 e13 dX4_advance_13 ?_
      refine lv_icmp_ge (tgt := 58) hx hb dX4_advance_16 (by decide) (fun c16 => ?_) (fun c16 => ?_)
      · rw [if_pos c16] at h
        exact h58 G ba0 ba1 _ _ hG _ (lv_sub hl [0, 1] rfl) h
      · rw [if_neg c16] at h
        refine lv_aload_n hx hb dX4_advance_19 rfl (lv_at hl 1 rfl) ?_
        refine lv_aload_n hx hb dX4_advance_20 rfl (lv_at hl 0 rfl) ?_
        obtain ⟨v21, e21, h⟩ := Option.bind_eq_some_iff.mp h
        refine g_geti hx hb hts inlX4 hown hK hG (by rfl) 4 (by decide) qF_X4_24 e21 dX4_advance_21 ?_
        obtain ⟨u24, i24, h⟩ := Option.bind_eq_some_iff.mp h
        obtain ⟨v24, e24, h⟩ := Option.bind_eq_some_iff.mp h
        refine g_cVi (As := [.int v21]) (rest := []) (n := 1) hx hb hml hown hts hK hlo hG (m_X3_byteAt l dd cT lo G ba1 v21 e24) qM_X4_169 qI_yX3_byteAt qS_X3_yX3_byteAt qN_X3 qC_yX3_byteAt (by decide +kernel) ⟨Nat.le_of_ble_eq_true rfl, Nat.le_of_ble_eq_true rfl⟩ (by rfl) i24 rfl hl.1 rfl (Nat.le_of_ble_eq_true rfl) dX4_advance_24 ⟨Nat.le_of_ble_eq_true rfl, Nat.le_of_ble_eq_true rfl⟩ (fun H locs hG => ?_)
        refine lv_bipush (v := (32 : Int32)) hx hb dX4_advance_27 (by decide) ?_
        refine lv_icmp_eq (tgt := 45) hx hb dX4_advance_29 (by decide) (fun c29 => ?_) (fun c29 => ?_)
        · rw [if_pos c29] at h
          refine lv_aload_n hx hb dX4_advance_45 rfl (lv_at hl 0 rfl) ?_
          refine lv_dup hx hb dX4_advance_46 rfl ?_
          obtain ⟨v47, e47, h⟩ := Option.bind_eq_some_iff.mp h
          refine g_geti hx hb hts inlX4 hown hK hG (by rfl) 4 (by decide) qF_X4_24 e47 dX4_advance_47 ?_
          refine lv_iconst (v := (1 : Int32)) hx hb dX4_advance_50 (by decide) ?_
          refine lv_iadd hx hb dX4_advance_51 ?_
          obtain ⟨G52, i52, h⟩ := Option.bind_eq_some_iff.mp h
          refine g_putv hx hb hts inlX4 tyX4 tyX4_ok nmX4 hown hK hG (by rfl) 4 (by decide) qF_X4_24 rfl rfl rfl rfl i52 dX4_advance_52 (fun H locs hG => ?_)
          refine lv_goto (tgt := 8) hx hb dX4_advance_55 (by decide) ?_
          exact ih G52 ba0 ba1 _ _ hG _ (lv_sub hl [0, 1] rfl) h
        · rw [if_neg c29] at h
          refine lv_aload_n hx hb dX4_advance_32 rfl (lv_at hl 1 rfl) ?_
          refine lv_aload_n hx hb dX4_advance_33 rfl (lv_at hl 0 rfl) ?_
          obtain ⟨v34, e34, h⟩ := Option.bind_eq_some_iff.mp h
          refine g_geti hx hb hts inlX4 hown hK hG (by rfl) 4 (by decide) qF_X4_24 e34 dX4_advance_34 ?_
          obtain ⟨u37, i37, h⟩ := Option.bind_eq_some_iff.mp h
          obtain ⟨v37, e37, h⟩ := Option.bind_eq_some_iff.mp h
          refine g_cVi (As := [.int v34]) (rest := []) (n := 1) hx hb hml hown hts hK hlo hG (m_X3_byteAt l dd cT lo G ba1 v34 e37) qM_X4_169 qI_yX3_byteAt qS_X3_yX3_byteAt qN_X3 qC_yX3_byteAt (by decide +kernel) ⟨Nat.le_of_ble_eq_true rfl, Nat.le_of_ble_eq_true rfl⟩ (by rfl) i37 rfl hl.1 rfl (Nat.le_of_ble_eq_true rfl) dX4_advance_37 ⟨Nat.le_of_ble_eq_true rfl, Nat.le_of_ble_eq_true rfl⟩ (fun H locs hG => ?_)
          refine lv_bipush (v := (10 : Int32)) hx hb dX4_advance_40 (by decide) ?_
          refine lv_icmp_ne (tgt := 58) hx hb dX4_advance_42 (by decide) (fun c42 => ?_) (fun c42 => ?_)
          · rw [if_neg c42] at h
            exact h58 G ba0 ba1 _ _ hG _ (lv_sub hl [0, 1] rfl) h
          · rw [if_pos c42] at h
            refine lv_aload_n hx hb dX4_advance_45 rfl (lv_at hl 0 rfl) ?_
            refine lv_dup hx hb dX4_advance_46 rfl ?_
            obtain ⟨v47, e47, h⟩ := Option.bind_eq_some_iff.mp h
            refine g_geti hx hb hts inlX4 hown hK hG (by rfl) 4 (by decide) qF_X4_24 e47 dX4_advance_47 ?_
            refine lv_iconst (v := (1 : Int32)) hx hb dX4_advance_50 (by decide) ?_
            refine lv_iadd hx hb dX4_advance_51 ?_
            obtain ⟨G52, i52, h⟩ := Option.bind_eq_some_iff.mp h
            refine g_putv hx hb hts inlX4 tyX4 tyX4_ok nmX4 hown hK hG (by rfl) 4 (by decide) qF_X4_24 rfl rfl rfl rfl i52 dX4_advance_52 (fun H locs hG => ?_)
            refine lv_goto (tgt := 8) hx hb dX4_advance_55 (by decide) ?_
            exact ih G52 ba0 ba1 _ _ hG _ (lv_sub hl [0, 1] rfl) h
  unfold f_X4_advance at h
  refine lv_aload_n hx hb dX4_advance_0 rfl (lv_at hl 0 rfl) ?_
  refine lv_aload_n hx hb dX4_advance_1 rfl (lv_at hl 0 rfl) ?_
  obtain ⟨v2, e2, h⟩ := Option.bind_eq_some_iff.mp h
  refine g_geti hx hb hts inlX4 hown hK hG (by rfl) 5 (by decide) qF_X4_27 e2 dX4_advance_2 ?_
  obtain ⟨G5, i5, h⟩ := Option.bind_eq_some_iff.mp h
  refine g_putv hx hb hts inlX4 tyX4 tyX4_ok nmX4 hown hK hG (by rfl) 4 (by decide) qF_X4_24 rfl rfl rfl rfl i5 dX4_advance_5 (fun H locs hG => ?_)
  exact h8 g_N G5 a0 a1 _ _ hG _ (lv_sub hl [0, 1] rfl) h
def f_X5_isOpen (G : gH) (a0 : Nat) : Option Int32 :=
    (g_ob G a0 5).bind fun u2 =>
    (f_X5_latest G a0).bind fun v2 =>
    (g_ob G a0 5).bind fun u5 =>
    (f_X5_stateOf G a0 v2).bind fun v5 =>
    if v5 = 0 then
    some (1 : Int32)
    else
    some (0 : Int32)
set_option maxRecDepth 20000 in
set_option maxHeartbeats 4000000 in
theorem m_X5_isOpen (l : Launch) (dd : va_G) (cT : Nat → ClassId) (lo : Nat) (G : gH) (a0 : Nat) {rz : Int32} (h : f_X5_isOpen G a0 = some rz) : Met l yX5_isOpen (Cond.code yX5_isOpen cX5_isOpen 1 (some .boolean) :: wsL_law) (g_rm 2 43 0 0) (va_Pc [.ref a0] (g_Pre lo dd cT G)) (va_Qi (g_is rz G) (g_Pre lo dd cT) (g_A lo)) 0 0 (g_A lo) := by
  refine g_start RX5 rfl (by decide) (Nat.le_of_ble_eq_true rfl) ?_
  intro p e s m below meth c hx hb hr hlocks hml hown hnm hts hK hG hlo ls hl
  have hl : lv_has ls 1 [(0, .ref a0)] := hl
  have hG : g_S lo dd cT s s.heap [] G := hG
  unfold f_X5_isOpen at h
  refine lv_aload_n hx hb dX5_isOpen_0 rfl (lv_at hl 0 rfl) ?_
  refine lv_aload_n hx hb dX5_isOpen_1 rfl (lv_at hl 0 rfl) ?_
  obtain ⟨u2, i2, h⟩ := Option.bind_eq_some_iff.mp h
  obtain ⟨v2, e2, h⟩ := Option.bind_eq_some_iff.mp h
  refine g_cVi (As := []) (rest := [.ref a0]) (n := 0) hx hb hml hown hts hK hlo hG (m_X5_latest l dd cT lo G a0 e2) qM_X5_38 qI_yX5_latest qS_X5_yX5_latest qN_X5 qC_yX5_latest (by decide +kernel) ⟨Nat.le_of_ble_eq_true rfl, Nat.le_of_ble_eq_true rfl⟩ (by rfl) i2 rfl hl.1 rfl (Nat.le_of_ble_eq_true rfl) dX5_isOpen_2 ⟨Nat.le_of_ble_eq_true rfl, Nat.le_of_ble_eq_true rfl⟩ (fun H locs hG => ?_)
  obtain ⟨u5, i5, h⟩ := Option.bind_eq_some_iff.mp h
  obtain ⟨v5, e5, h⟩ := Option.bind_eq_some_iff.mp h
  refine g_cVi (As := [.int v2]) (rest := []) (n := 1) hx hb hml hown hts hK hlo hG (m_X5_stateOf l dd cT lo G a0 v2 e5) qM_X5_42 qI_yX5_stateOf qS_X5_yX5_stateOf qN_X5 qC_yX5_stateOf (by decide +kernel) ⟨Nat.le_of_ble_eq_true rfl, Nat.le_of_ble_eq_true rfl⟩ (by rfl) i5 rfl hl.1 rfl (Nat.le_of_ble_eq_true rfl) dX5_isOpen_5 ⟨Nat.le_of_ble_eq_true rfl, Nat.le_of_ble_eq_true rfl⟩ (fun H locs hG => ?_)
  refine lv_if_ne (tgt := 15) hx hb dX5_isOpen_8 (by decide) (fun c8 => ?_) (fun c8 => ?_)
  · rw [if_neg c8] at h
    refine lv_iconst (v := (0 : Int32)) hx hb dX5_isOpen_15 (by decide) ?_
    obtain rfl := Option.some.inj h
    exact g_zret hx hb hr hlocks hK hlo hG rfl ⟨rfl, rfl⟩ dX5_isOpen_16
  · rw [if_pos c8] at h
    refine lv_iconst (v := (1 : Int32)) hx hb dX5_isOpen_11 (by decide) ?_
    refine lv_goto (tgt := 16) hx hb dX5_isOpen_12 (by decide) ?_
    obtain rfl := Option.some.inj h
    exact g_zret hx hb hr hlocks hK hlo hG rfl ⟨rfl, rfl⟩ dX5_isOpen_16
def f_X5_latestIsLost (G : gH) (a0 : Nat) : Option Int32 :=
    (g_ob G a0 5).bind fun u2 =>
    (f_X5_latest G a0).bind fun v2 =>
    (g_ob G a0 5).bind fun u5 =>
    (f_X5_stateOf G a0 v2).bind fun v5 =>
    if v5 = (2 : Int32) then
    some (1 : Int32)
    else
    some (0 : Int32)
set_option maxRecDepth 20000 in
set_option maxHeartbeats 4000000 in
theorem m_X5_latestIsLost (l : Launch) (dd : va_G) (cT : Nat → ClassId) (lo : Nat) (G : gH) (a0 : Nat) {rz : Int32} (h : f_X5_latestIsLost G a0 = some rz) : Met l yX5_latestIsLost (Cond.code yX5_latestIsLost cX5_latestIsLost 1 (some .boolean) :: wsL_law) (g_rm 2 43 0 0) (va_Pc [.ref a0] (g_Pre lo dd cT G)) (va_Qi (g_is rz G) (g_Pre lo dd cT) (g_A lo)) 0 0 (g_A lo) := by
  refine g_start RX5 rfl (by decide) (Nat.le_of_ble_eq_true rfl) ?_
  intro p e s m below meth c hx hb hr hlocks hml hown hnm hts hK hG hlo ls hl
  have hl : lv_has ls 1 [(0, .ref a0)] := hl
  have hG : g_S lo dd cT s s.heap [] G := hG
  unfold f_X5_latestIsLost at h
  refine lv_aload_n hx hb dX5_latestIsLost_0 rfl (lv_at hl 0 rfl) ?_
  refine lv_aload_n hx hb dX5_latestIsLost_1 rfl (lv_at hl 0 rfl) ?_
  obtain ⟨u2, i2, h⟩ := Option.bind_eq_some_iff.mp h
  obtain ⟨v2, e2, h⟩ := Option.bind_eq_some_iff.mp h
  refine g_cVi (As := []) (rest := [.ref a0]) (n := 0) hx hb hml hown hts hK hlo hG (m_X5_latest l dd cT lo G a0 e2) qM_X5_38 qI_yX5_latest qS_X5_yX5_latest qN_X5 qC_yX5_latest (by decide +kernel) ⟨Nat.le_of_ble_eq_true rfl, Nat.le_of_ble_eq_true rfl⟩ (by rfl) i2 rfl hl.1 rfl (Nat.le_of_ble_eq_true rfl) dX5_latestIsLost_2 ⟨Nat.le_of_ble_eq_true rfl, Nat.le_of_ble_eq_true rfl⟩ (fun H locs hG => ?_)
  obtain ⟨u5, i5, h⟩ := Option.bind_eq_some_iff.mp h
  obtain ⟨v5, e5, h⟩ := Option.bind_eq_some_iff.mp h
  refine g_cVi (As := [.int v2]) (rest := []) (n := 1) hx hb hml hown hts hK hlo hG (m_X5_stateOf l dd cT lo G a0 v2 e5) qM_X5_42 qI_yX5_stateOf qS_X5_yX5_stateOf qN_X5 qC_yX5_stateOf (by decide +kernel) ⟨Nat.le_of_ble_eq_true rfl, Nat.le_of_ble_eq_true rfl⟩ (by rfl) i5 rfl hl.1 rfl (Nat.le_of_ble_eq_true rfl) dX5_latestIsLost_5 ⟨Nat.le_of_ble_eq_true rfl, Nat.le_of_ble_eq_true rfl⟩ (fun H locs hG => ?_)
  refine lv_iconst (v := (2 : Int32)) hx hb dX5_latestIsLost_8 (by decide) ?_
  refine lv_icmp_ne (tgt := 16) hx hb dX5_latestIsLost_9 (by decide) (fun c9 => ?_) (fun c9 => ?_)
  · rw [if_neg c9] at h
    refine lv_iconst (v := (0 : Int32)) hx hb dX5_latestIsLost_16 (by decide) ?_
    obtain rfl := Option.some.inj h
    exact g_zret hx hb hr hlocks hK hlo hG rfl ⟨rfl, rfl⟩ dX5_latestIsLost_17
  · rw [if_pos c9] at h
    refine lv_iconst (v := (1 : Int32)) hx hb dX5_latestIsLost_12 (by decide) ?_
    refine lv_goto (tgt := 17) hx hb dX5_latestIsLost_13 (by decide) ?_
    obtain rfl := Option.some.inj h
    exact g_zret hx hb hr hlocks hK hlo hG rfl ⟨rfl, rfl⟩ dX5_latestIsLost_17
def f_X5_oneMoreIsTooMany (G : gH) (a0 : Nat) : Option Int32 :=
    (g_ob G a0 5).bind fun u1 =>
    (f_X5_isOpen G a0).bind fun v1 =>
    if v1 = 0 then
    (g_i G a0 5 0).bind fun v8 =>
    if v8 < (12 : Int32) then
    some (0 : Int32)
    else
    some (1 : Int32)
    else
    some (0 : Int32)
set_option maxRecDepth 20000 in
set_option maxHeartbeats 4000000 in
theorem m_X5_oneMoreIsTooMany (l : Launch) (dd : va_G) (cT : Nat → ClassId) (lo : Nat) (G : gH) (a0 : Nat) {rz : Int32} (h : f_X5_oneMoreIsTooMany G a0 = some rz) : Met l yX5_oneMoreIsTooMany (Cond.code yX5_oneMoreIsTooMany cX5_oneMoreIsTooMany 1 (some .boolean) :: wsL_law) (g_rm 3 63 0 0) (va_Pc [.ref a0] (g_Pre lo dd cT G)) (va_Qi (g_is rz G) (g_Pre lo dd cT) (g_A lo)) 0 0 (g_A lo) := by
  refine g_start RX5 rfl (by decide) (Nat.le_of_ble_eq_true rfl) ?_
  intro p e s m below meth c hx hb hr hlocks hml hown hnm hts hK hG hlo ls hl
  have hl : lv_has ls 1 [(0, .ref a0)] := hl
  have hG : g_S lo dd cT s s.heap [] G := hG
  unfold f_X5_oneMoreIsTooMany at h
  refine lv_aload_n hx hb dX5_oneMoreIsTooMany_0 rfl (lv_at hl 0 rfl) ?_
  obtain ⟨u1, i1, h⟩ := Option.bind_eq_some_iff.mp h
  obtain ⟨v1, e1, h⟩ := Option.bind_eq_some_iff.mp h
  refine g_cVi (As := []) (rest := []) (n := 0) hx hb hml hown hts hK hlo hG (m_X5_isOpen l dd cT lo G a0 e1) qM_X5_46 qI_yX5_isOpen qS_X5_yX5_isOpen qN_X5 qC_yX5_isOpen (by decide +kernel) ⟨Nat.le_of_ble_eq_true rfl, Nat.le_of_ble_eq_true rfl⟩ (by rfl) i1 rfl hl.1 rfl (Nat.le_of_ble_eq_true rfl) dX5_oneMoreIsTooMany_1 ⟨Nat.le_of_ble_eq_true rfl, Nat.le_of_ble_eq_true rfl⟩ (fun H locs hG => ?_)
  refine lv_if_ne (tgt := 20) hx hb dX5_oneMoreIsTooMany_4 (by decide) (fun c4 => ?_) (fun c4 => ?_)
  · rw [if_neg c4] at h
    refine lv_iconst (v := (0 : Int32)) hx hb dX5_oneMoreIsTooMany_20 (by decide) ?_
    obtain rfl := Option.some.inj h
    exact g_zret hx hb hr hlocks hK hlo hG rfl ⟨rfl, rfl⟩ dX5_oneMoreIsTooMany_21
  · rw [if_pos c4] at h
    refine lv_aload_n hx hb dX5_oneMoreIsTooMany_7 rfl (lv_at hl 0 rfl) ?_
    obtain ⟨v8, e8, h⟩ := Option.bind_eq_some_iff.mp h
    refine g_geti hx hb hts inlX5 hown hK hG (by rfl) 0 (by decide) qF_X5_9 e8 dX5_oneMoreIsTooMany_8 ?_
    refine lv_bipush (v := (12 : Int32)) hx hb dX5_oneMoreIsTooMany_11 (by decide) ?_
    refine lv_icmp_lt (tgt := 20) hx hb dX5_oneMoreIsTooMany_13 (by decide) (fun c13 => ?_) (fun c13 => ?_)
    · rw [if_pos c13] at h
      refine lv_iconst (v := (0 : Int32)) hx hb dX5_oneMoreIsTooMany_20 (by decide) ?_
      obtain rfl := Option.some.inj h
      exact g_zret hx hb hr hlocks hK hlo hG rfl ⟨rfl, rfl⟩ dX5_oneMoreIsTooMany_21
    · rw [if_neg c13] at h
      refine lv_iconst (v := (1 : Int32)) hx hb dX5_oneMoreIsTooMany_16 (by decide) ?_
      refine lv_goto (tgt := 21) hx hb dX5_oneMoreIsTooMany_17 (by decide) ?_
      obtain rfl := Option.some.inj h
      exact g_zret hx hb hr hlocks hK hlo hG rfl ⟨rfl, rfl⟩ dX5_oneMoreIsTooMany_21
def f_X5_entriesWith (G : gH) (a0 : Nat) (x1 : Int32) : Option Int32 :=
    (g_ob G a0 5).bind fun u1 =>
    (f_X5_isOpen G a0).bind fun v1 =>
    if v1 = 0 then
    some (1 : Int32)
    else
    (g_ob G a0 5).bind fun u11 =>
    (f_X5_latest G a0).bind fun v11 =>
    (g_ob G a0 5).bind fun u14 =>
    (f_X5_entriesOf G a0 v11).bind fun v14 =>
    (g_ob G a0 5).bind fun u19 =>
    (f_X5_latest G a0).bind fun v19 =>
    (g_ob G a0 5).bind fun u23 =>
    (f_X5_slotOfFile G a0 v19 x1).bind fun v23 =>
    if v23 = (-1 : Int32) then
    (f_X9_oneIf G (1 : Int32)).bind fun v35 =>
    some (v14 + v35)
    else
    (f_X9_oneIf G (0 : Int32)).bind fun v35 =>
    some (v14 + v35)
set_option maxRecDepth 20000 in
set_option maxHeartbeats 4000000 in
theorem m_X5_entriesWith (l : Launch) (dd : va_G) (cT : Nat → ClassId) (lo : Nat) (G : gH) (a0 : Nat) (x1 : Int32) {rz : Int32} (h : f_X5_entriesWith G a0 x1 = some rz) : Met l yX5_entriesWith (Cond.code yX5_entriesWith cX5_entriesWith 2 (some .int) :: wsL_law) (g_rm 4 88 0 0) (va_Pc [.ref a0, .int x1] (g_Pre lo dd cT G)) (va_Qi (g_is rz G) (g_Pre lo dd cT) (g_A lo)) 0 0 (g_A lo) := by
  refine g_start RX5 rfl (by decide) (Nat.le_of_ble_eq_true rfl) ?_
  intro p e s m below meth c hx hb hr hlocks hml hown hnm hts hK hG hlo ls hl
  have hl : lv_has ls 2 [(0, .ref a0), (1, .int x1)] := hl
  have hG : g_S lo dd cT s s.heap [] G := hG
  unfold f_X5_entriesWith at h
  refine lv_aload_n hx hb dX5_entriesWith_0 rfl (lv_at hl 0 rfl) ?_
  obtain ⟨u1, i1, h⟩ := Option.bind_eq_some_iff.mp h
  obtain ⟨v1, e1, h⟩ := Option.bind_eq_some_iff.mp h
  refine g_cVi (As := []) (rest := []) (n := 0) hx hb hml hown hts hK hlo hG (m_X5_isOpen l dd cT lo G a0 e1) qM_X5_46 qI_yX5_isOpen qS_X5_yX5_isOpen qN_X5 qC_yX5_isOpen (by decide +kernel) ⟨Nat.le_of_ble_eq_true rfl, Nat.le_of_ble_eq_true rfl⟩ (by rfl) i1 rfl hl.1 rfl (Nat.le_of_ble_eq_true rfl) dX5_entriesWith_1 ⟨Nat.le_of_ble_eq_true rfl, Nat.le_of_ble_eq_true rfl⟩ (fun H locs hG => ?_)
  refine lv_if_ne (tgt := 9) hx hb dX5_entriesWith_4 (by decide) (fun c4 => ?_) (fun c4 => ?_)
  · rw [if_neg c4] at h
    refine lv_aload_n hx hb dX5_entriesWith_9 rfl (lv_at hl 0 rfl) ?_
    refine lv_aload_n hx hb dX5_entriesWith_10 rfl (lv_at hl 0 rfl) ?_
    obtain ⟨u11, i11, h⟩ := Option.bind_eq_some_iff.mp h
    obtain ⟨v11, e11, h⟩ := Option.bind_eq_some_iff.mp h
    refine g_cVi (As := []) (rest := [.ref a0]) (n := 0) hx hb hml hown hts hK hlo hG (m_X5_latest l dd cT lo G a0 e11) qM_X5_38 qI_yX5_latest qS_X5_yX5_latest qN_X5 qC_yX5_latest (by decide +kernel) ⟨Nat.le_of_ble_eq_true rfl, Nat.le_of_ble_eq_true rfl⟩ (by rfl) i11 rfl hl.1 rfl (Nat.le_of_ble_eq_true rfl) dX5_entriesWith_11 ⟨Nat.le_of_ble_eq_true rfl, Nat.le_of_ble_eq_true rfl⟩ (fun H locs hG => ?_)
    obtain ⟨u14, i14, h⟩ := Option.bind_eq_some_iff.mp h
    obtain ⟨v14, e14, h⟩ := Option.bind_eq_some_iff.mp h
    refine g_cVi (As := [.int v11]) (rest := []) (n := 1) hx hb hml hown hts hK hlo hG (m_X5_entriesOf l dd cT lo G a0 v11 e14) qM_X5_58 qI_yX5_entriesOf qS_X5_yX5_entriesOf qN_X5 qC_yX5_entriesOf (by decide +kernel) ⟨Nat.le_of_ble_eq_true rfl, Nat.le_of_ble_eq_true rfl⟩ (by rfl) i14 rfl hl.1 rfl (Nat.le_of_ble_eq_true rfl) dX5_entriesWith_14 ⟨Nat.le_of_ble_eq_true rfl, Nat.le_of_ble_eq_true rfl⟩ (fun H locs hG => ?_)
    refine lv_aload_n hx hb dX5_entriesWith_17 rfl (lv_at hl 0 rfl) ?_
    refine lv_aload_n hx hb dX5_entriesWith_18 rfl (lv_at hl 0 rfl) ?_
    obtain ⟨u19, i19, h⟩ := Option.bind_eq_some_iff.mp h
    obtain ⟨v19, e19, h⟩ := Option.bind_eq_some_iff.mp h
    refine g_cVi (As := []) (rest := [.ref a0, .int v14]) (n := 0) hx hb hml hown hts hK hlo hG (m_X5_latest l dd cT lo G a0 e19) qM_X5_38 qI_yX5_latest qS_X5_yX5_latest qN_X5 qC_yX5_latest (by decide +kernel) ⟨Nat.le_of_ble_eq_true rfl, Nat.le_of_ble_eq_true rfl⟩ (by rfl) i19 rfl hl.1 rfl (Nat.le_of_ble_eq_true rfl) dX5_entriesWith_19 ⟨Nat.le_of_ble_eq_true rfl, Nat.le_of_ble_eq_true rfl⟩ (fun H locs hG => ?_)
    refine lv_iload_n hx hb dX5_entriesWith_22 rfl (lv_at hl 1 rfl) ?_
    obtain ⟨u23, i23, h⟩ := Option.bind_eq_some_iff.mp h
    obtain ⟨v23, e23, h⟩ := Option.bind_eq_some_iff.mp h
    refine g_cVi (As := [.int v19, .int x1]) (rest := [.int v14]) (n := 2) hx hb hml hown hts hK hlo hG (m_X5_slotOfFile l dd cT lo G a0 v19 x1 e23) qM_X5_68 qI_yX5_slotOfFile qS_X5_yX5_slotOfFile qN_X5 qC_yX5_slotOfFile (by decide +kernel) ⟨Nat.le_of_ble_eq_true rfl, Nat.le_of_ble_eq_true rfl⟩ (by rfl) i23 rfl hl.1 rfl (Nat.le_of_ble_eq_true rfl) dX5_entriesWith_23 ⟨Nat.le_of_ble_eq_true rfl, Nat.le_of_ble_eq_true rfl⟩ (fun H locs hG => ?_)
    refine lv_iconst (v := (-1 : Int32)) hx hb dX5_entriesWith_26 (by decide) ?_
    refine lv_icmp_ne (tgt := 34) hx hb dX5_entriesWith_27 (by decide) (fun c27 => ?_) (fun c27 => ?_)
    · rw [if_neg c27] at h
      refine lv_iconst (v := (0 : Int32)) hx hb dX5_entriesWith_34 (by decide) ?_
      obtain ⟨v35, e35, h⟩ := Option.bind_eq_some_iff.mp h
      refine g_cNi (As := [.int (0 : Int32)]) (rest := [.int v14]) (n := 1) hx hb hml hown hts hK hlo hG (m_X9_oneIf l dd cT lo G (0 : Int32) e35) (List.mem_of_getElem? (i := 31) rfl) qT_yX9_oneIf qN_X9 qC_yX9_oneIf (by decide +kernel) ⟨Nat.le_of_ble_eq_true rfl, Nat.le_of_ble_eq_true rfl⟩ rfl hl.1 rfl (Nat.le_of_ble_eq_true rfl) dX5_entriesWith_35 ⟨Nat.le_of_ble_eq_true rfl, Nat.le_of_ble_eq_true rfl⟩ (fun H locs hG => ?_)
      refine lv_iadd hx hb dX5_entriesWith_38 ?_
      obtain rfl := Option.some.inj h
      exact g_iret hx hb hr hlocks hK hlo hG ⟨rfl, rfl⟩ dX5_entriesWith_39
    · rw [if_pos c27] at h
      refine lv_iconst (v := (1 : Int32)) hx hb dX5_entriesWith_30 (by decide) ?_
      refine lv_goto (tgt := 35) hx hb dX5_entriesWith_31 (by decide) ?_
      obtain ⟨v35, e35, h⟩ := Option.bind_eq_some_iff.mp h
      refine g_cNi (As := [.int (1 : Int32)]) (rest := [.int v14]) (n := 1) hx hb hml hown hts hK hlo hG (m_X9_oneIf l dd cT lo G (1 : Int32) e35) (List.mem_of_getElem? (i := 31) rfl) qT_yX9_oneIf qN_X9 qC_yX9_oneIf (by decide +kernel) ⟨Nat.le_of_ble_eq_true rfl, Nat.le_of_ble_eq_true rfl⟩ rfl hl.1 rfl (Nat.le_of_ble_eq_true rfl) dX5_entriesWith_35 ⟨Nat.le_of_ble_eq_true rfl, Nat.le_of_ble_eq_true rfl⟩ (fun H locs hG => ?_)
      refine lv_iadd hx hb dX5_entriesWith_38 ?_
      obtain rfl := Option.some.inj h
      exact g_iret hx hb hr hlocks hK hlo hG ⟨rfl, rfl⟩ dX5_entriesWith_39
  · rw [if_pos c4] at h
    refine lv_iconst (v := (1 : Int32)) hx hb dX5_entriesWith_7 (by decide) ?_
    obtain rfl := Option.some.inj h
    exact g_iret hx hb hr hlocks hK hlo hG ⟨rfl, rfl⟩ dX5_entriesWith_8
def f_X8_markReached_J70 (k10 : gH → Nat → Nat → Int32 → Int32 → Option gH) (G : gH) (ba0 : Nat) (ba1 : Nat) (bx3 : Int32) (bx5 : Int32) (z0 : Int32) : Option gH :=
    (g_r G ba0 8 1).bind fun v72 =>
    (f_X9_mark G v72 bx3 bx5).bind fun G78 =>
    k10 G78 ba0 ba1 z0 (bx3 + (-1 : Int32))
def f_X8_markReached_J34 (k10 : gH → Nat → Nat → Int32 → Int32 → Option gH) (G : gH) (ba0 : Nat) (ba1 : Nat) (bx2 : Int32) (bx3 : Int32) (bx4 : Int32) (z0 : Int32) : Option gH :=
    if bx4 = (1 : Int32) then
    if bx2 = 0 then
    (g_r G ba0 8 1).bind fun v72 =>
    (f_X9_mark G v72 bx3 z0).bind fun G78 =>
    k10 G78 ba0 ba1 bx2 (bx3 + (-1 : Int32))
    else
    (g_ob G ba1 1).bind fun u48 =>
    (f_X1_canReadDirectory G ba1 bx3).bind fun v48 =>
    if v48 = 0 then
    (g_i G ba1 1 5).bind fun v59 =>
    if v59 = 0 then
    f_X8_markReached_J70 k10 G ba0 ba1 bx3 v48 (0 : Int32)
    else
    f_X8_markReached_J70 k10 G ba0 ba1 bx3 v48 (1 : Int32)
    else
    f_X8_markReached_J70 k10 G ba0 ba1 bx3 v48 (1 : Int32)
    else
    (g_r G ba0 8 1).bind fun v72 =>
    (f_X9_mark G v72 bx3 z0).bind fun G78 =>
    k10 G78 ba0 ba1 bx2 (bx3 + (-1 : Int32))
def f_X8_markReached_L10 : Nat → gH → Nat → Nat → Int32 → Int32 → Option gH
  | 0, _, _, _, _, _ => none
  | n + 1, G, ba0, ba1, bx2, bx3 =>
    if bx3 < 0 then
    some G
    else
    (g_r G ba1 1 2).bind fun v15 =>
    (g_ob G v15 5).bind fun u19 =>
    (f_X5_stateOf G v15 bx3).bind fun v19 =>
    if v19 = 0 then
    f_X8_markReached_J34 (f_X8_markReached_L10 n) G ba0 ba1 bx2 bx3 v19 (1 : Int32)
    else
    f_X8_markReached_J34 (f_X8_markReached_L10 n) G ba0 ba1 bx2 bx3 v19 (0 : Int32)
def f_X8_markReached (G : gH) (a0 : Nat) (a1 : Nat) : Option gH :=
    (g_r G a1 1 2).bind fun v3 =>
    (g_ob G v3 5).bind fun u6 =>
    (f_X5_latest G v3).bind fun v6 =>
    f_X8_markReached_L10 g_N G a0 a1 (1 : Int32) v6
set_option maxRecDepth 20000 in
set_option maxHeartbeats 4000000 in
theorem m_X8_markReached (l : Launch) (dd : va_G) (cT : Nat → ClassId) (lo : Nat) (G : gH) (a0 : Nat) (a1 : Nat) {Gz : gH} (h : f_X8_markReached G a0 a1 = some Gz) : Met l yX8_markReached (Cond.code yX8_markReached cX8_markReached 6 none :: wsL_law) (g_rm 4 88 0 0) (va_Pc [.ref a0, .ref a1] (g_Pre lo dd cT G)) (va_Qv (g_iv Gz) (g_Pre lo dd cT) (g_A lo)) 0 0 (g_A lo) := by
  refine g_start RX8 rfl (by decide) (Nat.le_of_ble_eq_true rfl) ?_
  intro p e s m below meth c hx hb hr hlocks hml hown hnm hts hK hG hlo ls hl
  have hl : lv_has ls 6 [(0, .ref a0), (1, .ref a1)] := hl
  have hG : g_S lo dd cT s s.heap [] G := hG
  have h10 : ∀ n : Nat, ∀ (G : gH) (ba0 : Nat) (ba1 : Nat) (bx2 : Int32) (bx3 : Int32), ∀ (H : Heap) (locs : List Loc), g_S lo dd cT s H locs G → ∀ ls : Array Slot, lv_has ls 6 [(0, .ref ba0), (1, .ref ba1), (2, .int bx2), (3, .int bx3)] → f_X8_markReached_L10 n G ba0 ba1 bx2 bx3 = some Gz → W p l e (g_rm 4 88 0 0) s m ([.ref a0, .ref a1] : List Value).toArray below meth c H locs 0 0 (MQ below (va_Qv (g_iv Gz) (g_Pre lo dd cT) (g_A lo)) ([.ref a0, .ref a1] : List Value).toArray s 0 0 (g_A lo)) (F0 m 10 ls []) := by
    intro n
    induction n with
    | zero =>
      intro G ba0 ba1 bx2 bx3 H locs hG ls hl h
      cases (show (none : Option gH) = some Gz from h)
    | succ n ih =>
      intro G ba0 ba1 bx2 bx3 H locs hG ls hl h
      rw [f_X8_markReached_L10] at h
      have h70 : ∀ (G : gH) (ba0 : Nat) (ba1 : Nat) (bx3 : Int32) (bx5 : Int32) (z0 : Int32), ∀ (H : Heap) (locs : List Loc), g_S lo dd cT s H locs G → ∀ ls : Array Slot, lv_has ls 6 [(0, .ref ba0), (1, .ref ba1), (3, .int bx3), (5, .int bx5)] → f_X8_markReached_J70 (f_X8_markReached_L10 n) G ba0 ba1 bx3 bx5 z0 = some Gz → W p l e (g_rm 4 88 0 0) s m ([.ref a0, .ref a1] : List Value).toArray below meth c H locs 0 0 (MQ below (va_Qv (g_iv Gz) (g_Pre lo dd cT) (g_A lo)) ([.ref a0, .ref a1] : List Value).toArray s 0 0 (g_A lo)) (F0 m 70 ls [.int z0]) := by
        intro G ba0 ba1 bx3 bx5 z0 H locs hG ls hl h
        unfold f_X8_markReached_J70 at h
        refine lv_istore_n (lv' := [(2, .int z0), (0, .ref ba0), (1, .ref ba1), (3, .int bx3), (5, .int bx5)]) hx hb dX8_markReached_70 rfl hl (by decide) rfl (fun ls hl => ?_)
        refine lv_aload_n hx hb dX8_markReached_71 rfl (lv_at hl 1 rfl) ?_
        obtain ⟨v72, e72, h⟩ := Option.bind_eq_some_iff.mp h
        refine g_getr hx hb hts inlX8 hown hK hG (by rfl) 1 (by decide) qF_X8_15 e72 dX8_markReached_72 ?_
        refine lv_iload_n hx hb dX8_markReached_75 rfl (lv_at hl 3 rfl) ?_
        refine lv_iload hx hb dX8_markReached_76 (lv_at hl 4 rfl) ?_
        obtain ⟨G78, e78, h⟩ := Option.bind_eq_some_iff.mp h
        refine g_cNv (As := [.ref v72, .int bx3, .int bx5]) (rest := []) (n := 3) hx hb hml hown hts hK hlo hG (m_X9_mark l dd cT lo G v72 bx3 bx5 e78) (List.mem_of_getElem? (i := 42) rfl) qT_yX9_mark qN_X9 qC_yX9_mark (by decide +kernel) ⟨Nat.le_of_ble_eq_true rfl, Nat.le_of_ble_eq_true rfl⟩ rfl hl.1 rfl (Nat.le_of_ble_eq_true rfl) dX8_markReached_78 ⟨Nat.le_of_ble_eq_true rfl, Nat.le_of_ble_eq_true rfl⟩ (fun H locs hG => ?_)
        refine lv_iinc (v := (bx3 + (-1 : Int32))) (lv' := [(3, .int (bx3 + (-1 : Int32))), (2, .int z0), (0, .ref ba0), (1, .ref ba1), (5, .int bx5)]) hx hb dX8_markReached_81 hl (k := 3) rfl rfl (by decide) rfl (fun ls hl => ?_)
        refine lv_goto (tgt := 10) hx hb dX8_markReached_84 (by decide) ?_
        exact ih G78 ba0 ba1 z0 (bx3 + (-1 : Int32)) _ _ hG _ (lv_sub hl [2, 3, 1, 0] rfl) h
      have h34 : ∀ (G : gH) (ba0 : Nat) (ba1 : Nat) (bx2 : Int32) (bx3 : Int32) (bx4 : Int32) (z0 : Int32), ∀ (H : Heap) (locs : List Loc), g_S lo dd cT s H locs G → ∀ ls : Array Slot, lv_has ls 6 [(0, .ref ba0), (1, .ref ba1), (2, .int bx2), (3, .int bx3), (4, .int bx4)] → f_X8_markReached_J34 (f_X8_markReached_L10 n) G ba0 ba1 bx2 bx3 bx4 z0 = some Gz → W p l e (g_rm 4 88 0 0) s m ([.ref a0, .ref a1] : List Value).toArray below meth c H locs 0 0 (MQ below (va_Qv (g_iv Gz) (g_Pre lo dd cT) (g_A lo)) ([.ref a0, .ref a1] : List Value).toArray s 0 0 (g_A lo)) (F0 m 34 ls [.int z0]) := by
        intro G ba0 ba1 bx2 bx3 bx4 z0 H locs hG ls hl h
        unfold f_X8_markReached_J34 at h
        refine lv_istore (lv' := [(5, .int z0), (0, .ref ba0), (1, .ref ba1), (2, .int bx2), (3, .int bx3), (4, .int bx4)]) hx hb dX8_markReached_34 hl (by decide) rfl (fun ls hl => ?_)
        refine lv_iload hx hb dX8_markReached_36 (lv_at hl 5 rfl) ?_
        refine lv_iconst (v := (1 : Int32)) hx hb dX8_markReached_38 (by decide) ?_
        refine lv_icmp_ne (tgt := 71) hx hb dX8_markReached_39 (by decide) (fun c39 => ?_) (fun c39 => ?_)
        · rw [if_neg c39] at h
          refine lv_aload_n hx hb dX8_markReached_71 rfl (lv_at hl 1 rfl) ?_
          obtain ⟨v72, e72, h⟩ := Option.bind_eq_some_iff.mp h
          refine g_getr hx hb hts inlX8 hown hK hG (by rfl) 1 (by decide) qF_X8_15 e72 dX8_markReached_72 ?_
          refine lv_iload_n hx hb dX8_markReached_75 rfl (lv_at hl 4 rfl) ?_
          refine lv_iload hx hb dX8_markReached_76 (lv_at hl 0 rfl) ?_
          obtain ⟨G78, e78, h⟩ := Option.bind_eq_some_iff.mp h
          refine g_cNv (As := [.ref v72, .int bx3, .int z0]) (rest := []) (n := 3) hx hb hml hown hts hK hlo hG (m_X9_mark l dd cT lo G v72 bx3 z0 e78) (List.mem_of_getElem? (i := 42) rfl) qT_yX9_mark qN_X9 qC_yX9_mark (by decide +kernel) ⟨Nat.le_of_ble_eq_true rfl, Nat.le_of_ble_eq_true rfl⟩ rfl hl.1 rfl (Nat.le_of_ble_eq_true rfl) dX8_markReached_78 ⟨Nat.le_of_ble_eq_true rfl, Nat.le_of_ble_eq_true rfl⟩ (fun H locs hG => ?_)
          refine lv_iinc (v := (bx3 + (-1 : Int32))) (lv' := [(3, .int (bx3 + (-1 : Int32))), (5, .int z0), (0, .ref ba0), (1, .ref ba1), (2, .int bx2), (4, .int bx4)]) hx hb dX8_markReached_81 hl (k := 4) rfl rfl (by decide) rfl (fun ls hl => ?_)
          refine lv_goto (tgt := 10) hx hb dX8_markReached_84 (by decide) ?_
          exact ih G78 ba0 ba1 bx2 (bx3 + (-1 : Int32)) _ _ hG _ (lv_sub hl [2, 3, 4, 0] rfl) h
        · rw [if_pos c39] at h
          refine lv_iload_n hx hb dX8_markReached_42 rfl (lv_at hl 3 rfl) ?_
          refine lv_if_eq (tgt := 71) hx hb dX8_markReached_43 (by decide) (fun c43 => ?_) (fun c43 => ?_)
          · rw [if_pos c43] at h
            refine lv_aload_n hx hb dX8_markReached_71 rfl (lv_at hl 1 rfl) ?_
            obtain ⟨v72, e72, h⟩ := Option.bind_eq_some_iff.mp h
            refine g_getr hx hb hts inlX8 hown hK hG (by rfl) 1 (by decide) qF_X8_15 e72 dX8_markReached_72 ?_
            refine lv_iload_n hx hb dX8_markReached_75 rfl (lv_at hl 4 rfl) ?_
            refine lv_iload hx hb dX8_markReached_76 (lv_at hl 0 rfl) ?_
            obtain ⟨G78, e78, h⟩ := Option.bind_eq_some_iff.mp h
            refine g_cNv (As := [.ref v72, .int bx3, .int z0]) (rest := []) (n := 3) hx hb hml hown hts hK hlo hG (m_X9_mark l dd cT lo G v72 bx3 z0 e78) (List.mem_of_getElem? (i := 42) rfl) qT_yX9_mark qN_X9 qC_yX9_mark (by decide +kernel) ⟨Nat.le_of_ble_eq_true rfl, Nat.le_of_ble_eq_true rfl⟩ rfl hl.1 rfl (Nat.le_of_ble_eq_true rfl) dX8_markReached_78 ⟨Nat.le_of_ble_eq_true rfl, Nat.le_of_ble_eq_true rfl⟩ (fun H locs hG => ?_)
            refine lv_iinc (v := (bx3 + (-1 : Int32))) (lv' := [(3, .int (bx3 + (-1 : Int32))), (5, .int z0), (0, .ref ba0), (1, .ref ba1), (2, .int bx2), (4, .int bx4)]) hx hb dX8_markReached_81 hl (k := 4) rfl rfl (by decide) rfl (fun ls hl => ?_)
            refine lv_goto (tgt := 10) hx hb dX8_markReached_84 (by decide) ?_
            exact ih G78 ba0 ba1 bx2 (bx3 + (-1 : Int32)) _ _ hG _ (lv_sub hl [2, 3, 4, 0] rfl) h
          · rw [if_neg c43] at h
            refine lv_aload_n hx hb dX8_markReached_46 rfl (lv_at hl 2 rfl) ?_
            refine lv_iload_n hx hb dX8_markReached_47 rfl (lv_at hl 4 rfl) ?_
            obtain ⟨u48, i48, h⟩ := Option.bind_eq_some_iff.mp h
            obtain ⟨v48, e48, h⟩ := Option.bind_eq_some_iff.mp h
            refine g_cVi (As := [.int bx3]) (rest := []) (n := 1) hx hb hml hown hts hK hlo hG (m_X1_canReadDirectory l dd cT lo G ba1 bx3 e48) qM_X8_75 qI_yX1_canReadDirectory qS_X1_yX1_canReadDirectory qN_X1 qC_yX1_canReadDirectory (by decide +kernel) ⟨Nat.le_of_ble_eq_true rfl, Nat.le_of_ble_eq_true rfl⟩ (by rfl) i48 rfl hl.1 rfl (Nat.le_of_ble_eq_true rfl) dX8_markReached_48 ⟨Nat.le_of_ble_eq_true rfl, Nat.le_of_ble_eq_true rfl⟩ (fun H locs hG => ?_)
            refine lv_istore (lv' := [(5, .int v48), (0, .ref ba0), (1, .ref ba1), (2, .int bx2), (3, .int bx3), (4, .int bx4)]) hx hb dX8_markReached_51 hl (by decide) rfl (fun ls hl => ?_)
            refine lv_iload hx hb dX8_markReached_53 (lv_at hl 0 rfl) ?_
            refine lv_if_ne (tgt := 65) hx hb dX8_markReached_55 (by decide) (fun c55 => ?_) (fun c55 => ?_)
            · rw [if_neg c55] at h
              refine lv_iconst (v := (1 : Int32)) hx hb dX8_markReached_65 (by decide) ?_
              refine lv_goto (tgt := 70) hx hb dX8_markReached_66 (by decide) ?_
              exact h70 G ba0 ba1 bx3 v48 (1 : Int32) _ _ hG _ (lv_sub hl [1, 2, 4, 0] rfl) h
            · rw [if_pos c55] at h
              refine lv_aload_n hx hb dX8_markReached_58 rfl (lv_at hl 2 rfl) ?_
              obtain ⟨v59, e59, h⟩ := Option.bind_eq_some_iff.mp h
              refine g_geti hx hb hts inlX1 hown hK hG (by rfl) 5 (by decide) qF_X8_78 e59 dX8_markReached_59 ?_
              refine lv_if_eq (tgt := 69) hx hb dX8_markReached_62 (by decide) (fun c62 => ?_) (fun c62 => ?_)
              · rw [if_pos c62] at h
                refine lv_iconst (v := (0 : Int32)) hx hb dX8_markReached_69 (by decide) ?_
                exact h70 G ba0 ba1 bx3 v48 (0 : Int32) _ _ hG _ (lv_sub hl [1, 2, 4, 0] rfl) h
              · rw [if_neg c62] at h
                refine lv_iconst (v := (1 : Int32)) hx hb dX8_markReached_65 (by decide) ?_
                refine lv_goto (tgt := 70) hx hb dX8_markReached_66 (by decide) ?_
                exact h70 G ba0 ba1 bx3 v48 (1 : Int32) _ _ hG _ (lv_sub hl [1, 2, 4, 0] rfl) h
      refine lv_iload_n hx hb dX8_markReached_10 rfl (lv_at hl 3 rfl) ?_
      refine lv_if_lt (tgt := 87) hx hb dX8_markReached_11 (by decide) (fun c11 => ?_) (fun c11 => ?_)
      · rw [if_pos c11] at h
        obtain rfl := Option.some.inj h
        exact g_vret hx hb hr hlocks hK hlo hG rfl dX8_markReached_87
      · rw [if_neg c11] at h
        refine lv_aload_n hx hb dX8_markReached_14 rfl (lv_at hl 1 rfl) ?_
        obtain ⟨v15, e15, h⟩ := Option.bind_eq_some_iff.mp h
        refine g_getr hx hb hts inlX1 hown hK hG (by rfl) 2 (by decide) qF_X8_36 e15 dX8_markReached_15 ?_
        refine lv_iload_n hx hb dX8_markReached_18 rfl (lv_at hl 3 rfl) ?_
        obtain ⟨u19, i19, h⟩ := Option.bind_eq_some_iff.mp h
        obtain ⟨v19, e19, h⟩ := Option.bind_eq_some_iff.mp h
        refine g_cVi (As := [.int bx3]) (rest := []) (n := 1) hx hb hml hown hts hK hlo hG (m_X5_stateOf l dd cT lo G v15 bx3 e19) qM_X8_72 qI_yX5_stateOf qS_X5_yX5_stateOf qN_X5 qC_yX5_stateOf (by decide +kernel) ⟨Nat.le_of_ble_eq_true rfl, Nat.le_of_ble_eq_true rfl⟩ (by rfl) i19 rfl hl.1 rfl (Nat.le_of_ble_eq_true rfl) dX8_markReached_19 ⟨Nat.le_of_ble_eq_true rfl, Nat.le_of_ble_eq_true rfl⟩ (fun H locs hG => ?_)
        refine lv_istore (lv' := [(4, .int v19), (0, .ref ba0), (1, .ref ba1), (2, .int bx2), (3, .int bx3)]) hx hb dX8_markReached_22 hl (by decide) rfl (fun ls hl => ?_)
        refine lv_iload hx hb dX8_markReached_24 (lv_at hl 0 rfl) ?_
        refine lv_if_ne (tgt := 33) hx hb dX8_markReached_26 (by decide) (fun c26 => ?_) (fun c26 => ?_)
        · rw [if_neg c26] at h
          refine lv_iconst (v := (0 : Int32)) hx hb dX8_markReached_33 (by decide) ?_
          exact h34 G ba0 ba1 bx2 bx3 v19 (0 : Int32) _ _ hG _ (lv_sub hl [1, 2, 3, 4, 0] rfl) h
        · rw [if_pos c26] at h
          refine lv_iconst (v := (1 : Int32)) hx hb dX8_markReached_29 (by decide) ?_
          refine lv_goto (tgt := 34) hx hb dX8_markReached_30 (by decide) ?_
          exact h34 G ba0 ba1 bx2 bx3 v19 (1 : Int32) _ _ hG _ (lv_sub hl [1, 2, 3, 4, 0] rfl) h
  unfold f_X8_markReached at h
  refine lv_iconst (v := (1 : Int32)) hx hb dX8_markReached_0 (by decide) ?_
  refine lv_istore_n (lv' := [(2, .int (1 : Int32)), (0, .ref a0), (1, .ref a1)]) hx hb dX8_markReached_1 rfl hl (by decide) rfl (fun ls hl => ?_)
  refine lv_aload_n hx hb dX8_markReached_2 rfl (lv_at hl 2 rfl) ?_
  obtain ⟨v3, e3, h⟩ := Option.bind_eq_some_iff.mp h
  refine g_getr hx hb hts inlX1 hown hK hG (by rfl) 2 (by decide) qF_X8_36 e3 dX8_markReached_3 ?_
  obtain ⟨u6, i6, h⟩ := Option.bind_eq_some_iff.mp h
  obtain ⟨v6, e6, h⟩ := Option.bind_eq_some_iff.mp h
  refine g_cVi (As := []) (rest := []) (n := 0) hx hb hml hown hts hK hlo hG (m_X5_latest l dd cT lo G v3 e6) qM_X8_68 qI_yX5_latest qS_X5_yX5_latest qN_X5 qC_yX5_latest (by decide +kernel) ⟨Nat.le_of_ble_eq_true rfl, Nat.le_of_ble_eq_true rfl⟩ (by rfl) i6 rfl hl.1 rfl (Nat.le_of_ble_eq_true rfl) dX8_markReached_6 ⟨Nat.le_of_ble_eq_true rfl, Nat.le_of_ble_eq_true rfl⟩ (fun H locs hG => ?_)
  refine lv_istore_n (lv' := [(3, .int v6), (2, .int (1 : Int32)), (0, .ref a0), (1, .ref a1)]) hx hb dX8_markReached_9 rfl hl (by decide) rfl (fun ls hl => ?_)
  exact h10 g_N G a0 a1 (1 : Int32) v6 _ _ hG _ (lv_sub hl [2, 3, 1, 0] rfl) h
def f_X8_sessionThatCounts_L5 (G : gH) : Nat → Nat → Nat → Int32 → Int32 → Option Int32
  | 0, _, _, _, _ => none
  | n + 1, ba0, ba1, bx2, bx4 =>
    if bx4 < 0 then
    some (-1 : Int32)
    else
    (g_ob G ba0 8).bind fun u13 =>
    (f_X8_isReached G ba0 bx4).bind fun v13 =>
    if v13 = 0 then
    f_X8_sessionThatCounts_L5 G n ba0 ba1 bx2 (bx4 + (-1 : Int32))
    else
    (g_ob G ba1 5).bind fun u23 =>
    (f_X5_slotOfFile G ba1 bx4 bx2).bind fun v23 =>
    if v23 = (-1 : Int32) then
    f_X8_sessionThatCounts_L5 G n ba0 ba1 bx2 (bx4 + (-1 : Int32))
    else
    some bx4
def f_X8_sessionThatCounts (G : gH) (a0 : Nat) (a1 : Nat) (x2 : Int32) (x3 : Int32) : Option Int32 :=
    f_X8_sessionThatCounts_L5 G g_N a0 a1 x2 (x3 - (1 : Int32))
set_option maxRecDepth 20000 in
set_option maxHeartbeats 4000000 in
theorem m_X8_sessionThatCounts (l : Launch) (dd : va_G) (cT : Nat → ClassId) (lo : Nat) (G : gH) (a0 : Nat) (a1 : Nat) (x2 : Int32) (x3 : Int32) {rz : Int32} (h : f_X8_sessionThatCounts G a0 a1 x2 x3 = some rz) : Met l yX8_sessionThatCounts (Cond.code yX8_sessionThatCounts cX8_sessionThatCounts 5 (some .int) :: wsL_law) (g_rm 4 88 0 0) (va_Pc [.ref a0, .ref a1, .int x2, .int x3] (g_Pre lo dd cT G)) (va_Qi (g_is rz G) (g_Pre lo dd cT) (g_A lo)) 0 0 (g_A lo) := by
  refine g_start RX8 rfl (by decide) (Nat.le_of_ble_eq_true rfl) ?_
  intro p e s m below meth c hx hb hr hlocks hml hown hnm hts hK hG hlo ls hl
  have hl : lv_has ls 5 [(0, .ref a0), (1, .ref a1), (2, .int x2), (3, .int x3)] := hl
  have hG : g_S lo dd cT s s.heap [] G := hG
  have h5 : ∀ n : Nat, ∀ (ba0 : Nat) (ba1 : Nat) (bx2 : Int32) (bx4 : Int32), ∀ (H : Heap) (locs : List Loc), g_S lo dd cT s H locs G → ∀ ls : Array Slot, lv_has ls 5 [(0, .ref ba0), (1, .ref ba1), (2, .int bx2), (4, .int bx4)] → f_X8_sessionThatCounts_L5 G n ba0 ba1 bx2 bx4 = some rz → W p l e (g_rm 4 88 0 0) s m ([.ref a0, .ref a1, .int x2, .int x3] : List Value).toArray below meth c H locs 0 0 (MQ below (va_Qi (g_is rz G) (g_Pre lo dd cT) (g_A lo)) ([.ref a0, .ref a1, .int x2, .int x3] : List Value).toArray s 0 0 (g_A lo)) (F0 m 5 ls []) := by
    intro n
    induction n with
    | zero =>
      intro ba0 ba1 bx2 bx4 H locs hG ls hl h
      cases (show (none : Option Int32) = some rz from h)
    | succ n ih =>
      intro ba0 ba1 bx2 bx4 H locs hG ls hl h
      rw [f_X8_sessionThatCounts_L5] at h
      refine lv_iload hx hb dX8_sessionThatCounts_5 (lv_at hl 3 rfl) ?_
      refine lv_if_lt (tgt := 39) hx hb dX8_sessionThatCounts_7 (by decide) (fun c7 => ?_) (fun c7 => ?_)
      · rw [if_pos c7] at h
        refine lv_iconst (v := (-1 : Int32)) hx hb dX8_sessionThatCounts_39 (by decide) ?_
        obtain rfl := Option.some.inj h
        exact g_iret hx hb hr hlocks hK hlo hG ⟨rfl, rfl⟩ dX8_sessionThatCounts_40
      · rw [if_neg c7] at h
        refine lv_aload_n hx hb dX8_sessionThatCounts_10 rfl (lv_at hl 0 rfl) ?_
        refine lv_iload hx hb dX8_sessionThatCounts_11 (lv_at hl 3 rfl) ?_
        obtain ⟨u13, i13, h⟩ := Option.bind_eq_some_iff.mp h
        obtain ⟨v13, e13, h⟩ := Option.bind_eq_some_iff.mp h
        refine g_cVi (As := [.int bx4]) (rest := []) (n := 1) hx hb hml hown hts hK hlo hG (m_X8_isReached l dd cT lo G ba0 bx4 e13) qM_X8_82 qI_yX8_isReached qS_X8_yX8_isReached qN_X8 qC_yX8_isReached (by decide +kernel) ⟨Nat.le_of_ble_eq_true rfl, Nat.le_of_ble_eq_true rfl⟩ (by rfl) i13 rfl hl.1 rfl (Nat.le_of_ble_eq_true rfl) dX8_sessionThatCounts_13 ⟨Nat.le_of_ble_eq_true rfl, Nat.le_of_ble_eq_true rfl⟩ (fun H locs hG => ?_)
        refine lv_if_eq (tgt := 33) hx hb dX8_sessionThatCounts_16 (by decide) (fun c16 => ?_) (fun c16 => ?_)
        · rw [if_pos c16] at h
          refine lv_iinc (v := (bx4 + (-1 : Int32))) (lv' := [(4, .int (bx4 + (-1 : Int32))), (0, .ref ba0), (1, .ref ba1), (2, .int bx2)]) hx hb dX8_sessionThatCounts_33 hl (k := 3) rfl rfl (by decide) rfl (fun ls hl => ?_)
          refine lv_goto (tgt := 5) hx hb dX8_sessionThatCounts_36 (by decide) ?_
          exact ih ba0 ba1 bx2 (bx4 + (-1 : Int32)) _ _ hG _ (lv_sub hl [1, 2, 3, 0] rfl) h
        · rw [if_neg c16] at h
          refine lv_aload_n hx hb dX8_sessionThatCounts_19 rfl (lv_at hl 1 rfl) ?_
          refine lv_iload hx hb dX8_sessionThatCounts_20 (lv_at hl 3 rfl) ?_
          refine lv_iload_n hx hb dX8_sessionThatCounts_22 rfl (lv_at hl 2 rfl) ?_
          obtain ⟨u23, i23, h⟩ := Option.bind_eq_some_iff.mp h
          obtain ⟨v23, e23, h⟩ := Option.bind_eq_some_iff.mp h
          refine g_cVi (As := [.int bx4, .int bx2]) (rest := []) (n := 2) hx hb hml hown hts hK hlo hG (m_X5_slotOfFile l dd cT lo G ba1 bx4 bx2 e23) qM_X8_48 qI_yX5_slotOfFile qS_X5_yX5_slotOfFile qN_X5 qC_yX5_slotOfFile (by decide +kernel) ⟨Nat.le_of_ble_eq_true rfl, Nat.le_of_ble_eq_true rfl⟩ (by rfl) i23 rfl hl.1 rfl (Nat.le_of_ble_eq_true rfl) dX8_sessionThatCounts_23 ⟨Nat.le_of_ble_eq_true rfl, Nat.le_of_ble_eq_true rfl⟩ (fun H locs hG => ?_)
          refine lv_iconst (v := (-1 : Int32)) hx hb dX8_sessionThatCounts_26 (by decide) ?_
          refine lv_icmp_eq (tgt := 33) hx hb dX8_sessionThatCounts_27 (by decide) (fun c27 => ?_) (fun c27 => ?_)
          · rw [if_pos c27] at h
            refine lv_iinc (v := (bx4 + (-1 : Int32))) (lv' := [(4, .int (bx4 + (-1 : Int32))), (0, .ref ba0), (1, .ref ba1), (2, .int bx2)]) hx hb dX8_sessionThatCounts_33 hl (k := 3) rfl rfl (by decide) rfl (fun ls hl => ?_)
            refine lv_goto (tgt := 5) hx hb dX8_sessionThatCounts_36 (by decide) ?_
            exact ih ba0 ba1 bx2 (bx4 + (-1 : Int32)) _ _ hG _ (lv_sub hl [1, 2, 3, 0] rfl) h
          · rw [if_neg c27] at h
            refine lv_iload hx hb dX8_sessionThatCounts_30 (lv_at hl 3 rfl) ?_
            obtain rfl := Option.some.inj h
            exact g_iret hx hb hr hlocks hK hlo hG ⟨rfl, rfl⟩ dX8_sessionThatCounts_32
  unfold f_X8_sessionThatCounts at h
  refine lv_iload_n hx hb dX8_sessionThatCounts_0 rfl (lv_at hl 3 rfl) ?_
  refine lv_iconst (v := (1 : Int32)) hx hb dX8_sessionThatCounts_1 (by decide) ?_
  refine lv_isub hx hb dX8_sessionThatCounts_2 ?_
  refine lv_istore (lv' := [(4, .int (x3 - (1 : Int32))), (0, .ref a0), (1, .ref a1), (2, .int x2), (3, .int x3)]) hx hb dX8_sessionThatCounts_3 hl (by decide) rfl (fun ls hl => ?_)
  exact h5 g_N a0 a1 x2 (x3 - (1 : Int32)) _ _ hG _ (lv_sub hl [1, 2, 3, 0] rfl) h

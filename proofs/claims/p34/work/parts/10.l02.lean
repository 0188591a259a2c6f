/-! Lifted methods, by program (wip/whole/tools/lift.py). -/
set_option maxRecDepth 20000 in
set_option maxHeartbeats 4000000 in
theorem m_X1_begin (l : Launch) (dd : va_G) (cT : Nat → ClassId) (lo : Nat → Prop) (G : gH) (a0 : Nat) (a1 : Nat) {Gz : gH} (h : f_X1_begin G a0 a1 = some Gz) : Met l yX1_begin (Cond.code yX1_begin cX1_begin 2 none :: wsL_law) (g_rm 3 66 0 0) (va_Pc [.ref a0, .ref a1] (g_Pre lo dd cT G)) (va_Qv (g_iv Gz) (g_Pre lo dd cT) (g_A lo)) 0 0 (g_A lo) := by
  refine g_start RX1 rfl (by decide) (Nat.le_of_ble_eq_true rfl) ?_
  intro p e s m below meth c hx hb hr hlocks hml hown hnm hts hK hG hlo ls hl
  have hl : lv_has ls 2 [(0, .ref a0), (1, .ref a1)] := hl
  have hG : g_S lo dd cT s s.heap [] G := hG
  unfold f_X1_begin at h
  refine lv_aload_n hx hb dX1_begin_0 rfl (lv_at hl 0 rfl) ?_
  refine lv_aload_n hx hb dX1_begin_1 rfl (lv_at hl 1 rfl) ?_
  obtain ⟨v2, e2, h⟩ := Option.bind_eq_some_iff.mp h
  refine g_geti hx hb hts inlX4 hown hK hG (by rfl) 2 (by decide) qF_X1_59 e2 dX1_begin_2 ?_
  refine lv_aload_n hx hb dX1_begin_5 rfl (lv_at hl 1 rfl) ?_
  obtain ⟨v6, e6, h⟩ := Option.bind_eq_some_iff.mp h
  refine g_geti hx hb hts inlX4 hown hK hG (by rfl) 3 (by decide) qF_X1_63 e6 dX1_begin_6 ?_
  obtain ⟨u9, i9, h⟩ := Option.bind_eq_some_iff.mp h
  obtain ⟨G9, e9, h⟩ := Option.bind_eq_some_iff.mp h
  refine g_cVv (As := [.int v2, .int v6]) (rest := []) (n := 2) hx hb hml hown hts hK hlo hG (m_X1_format l dd cT lo G a0 v2 v6 e9) qM_X1_66 qI_yX1_format qS_X1_yX1_format qN_X1 qC_yX1_format (by decide +kernel) ⟨Nat.le_of_ble_eq_true rfl, Nat.le_of_ble_eq_true rfl⟩ (by rfl) i9 rfl hl.1 rfl (Nat.le_of_ble_eq_true rfl) dX1_begin_9 ⟨Nat.le_of_ble_eq_true rfl, Nat.le_of_ble_eq_true rfl⟩ (fun H locs hG => ?_)
  refine lv_aload_n hx hb dX1_begin_12 rfl (lv_at hl 0 rfl) ?_
  refine lv_aload_n hx hb dX1_begin_13 rfl (lv_at hl 1 rfl) ?_
  obtain ⟨v14, e14, h⟩ := Option.bind_eq_some_iff.mp h
  refine g_geti hx hb hts inlX4 hown hK hG (by rfl) 4 (by decide) qF_X1_67 e14 dX1_begin_14 ?_
  obtain ⟨G17, i17, h⟩ := Option.bind_eq_some_iff.mp h
  refine g_putv hx hb hts inlX1 tyX1 tyX1_ok nmX1 hown hK hG (by rfl) 3 (by decide) qF_X1_32 rfl rfl rfl rfl i17 dX1_begin_17 (fun H locs hG => ?_)
  refine lv_aload_n hx hb dX1_begin_20 rfl (lv_at hl 1 rfl) ?_
  obtain ⟨v21, e21, h⟩ := Option.bind_eq_some_iff.mp h
  refine g_getr hx hb hts inlX4 hown hK hG (by rfl) 5 (by decide) qF_X1_68 e21 dX1_begin_21 ?_
  refine lv_aload_n hx hb dX1_begin_24 rfl (lv_at hl 0 rfl) ?_
  obtain ⟨v25, e25, h⟩ := Option.bind_eq_some_iff.mp h
  refine g_getr hx hb hts inlX1 hown hK hG (by rfl) 4 (by decide) qF_X1_36 e25 dX1_begin_25 ?_
  obtain ⟨G28, e28, h⟩ := Option.bind_eq_some_iff.mp h
  refine g_cNv (As := [.ref v21, .ref v25]) (rest := []) (n := 2) hx hb hml hown hts hK hlo hG (m_X9_copy__ l dd cT lo G17 v21 v25 e28) (List.mem_of_getElem? (i := 19) rfl) qT_yX9_copy__ qN_X9 qC_yX9_copy__ (by decide +kernel) ⟨Nat.le_of_ble_eq_true rfl, Nat.le_of_ble_eq_true rfl⟩ rfl hl.1 rfl (Nat.le_of_ble_eq_true rfl) dX1_begin_28 ⟨Nat.le_of_ble_eq_true rfl, Nat.le_of_ble_eq_true rfl⟩ (fun H locs hG => ?_)
  obtain rfl := Option.some.inj h
  exact g_vret hx hb hr hlocks hK hlo hG rfl dX1_begin_31
set_option maxRecDepth 20000 in
set_option maxHeartbeats 4000000 in
theorem m_X1_reasonAgainstDirectory (l : Launch) (dd : va_G) (cT : Nat → ClassId) (lo : Nat → Prop) (G : gH) (a0 : Nat) (x1 : Int32) {rz : Int32} (h : f_X1_reasonAgainstDirectory G a0 x1 = some rz) : Met l yX1_reasonAgainstDirectory (Cond.code yX1_reasonAgainstDirectory cX1_reasonAgainstDirectory 3 (some .int) :: wsL_law) (g_rm 3 67 0 0) (va_Pc [.ref a0, .int x1] (g_Pre lo dd cT G)) (va_Qi (g_is rz G) (g_Pre lo dd cT) (g_A lo)) 0 0 (g_A lo) := by
  refine g_start RX1 rfl (by decide) (Nat.le_of_ble_eq_true rfl) ?_
  intro p e s m below meth c hx hb hr hlocks hml hown hnm hts hK hG hlo ls hl
  have hl : lv_has ls 3 [(0, .ref a0), (1, .int x1)] := hl
  have hG : g_S lo dd cT s s.heap [] G := hG
  unfold f_X1_reasonAgainstDirectory at h
  refine lv_iload_n hx hb dX1_reasonAgainstDirectory_0 rfl (lv_at hl 1 rfl) ?_
  obtain ⟨v1, e1, h⟩ := Option.bind_eq_some_iff.mp h
  refine g_cNi (As := [.int x1]) (rest := []) (n := 1) hx hb hml hown hts hK hlo hG (m_X9_directoryLength l dd cT lo G x1 e1) (List.mem_of_getElem? (i := 22) rfl) qT_yX9_directoryLength qN_X9 qC_yX9_directoryLength (by decide +kernel) ⟨Nat.le_of_ble_eq_true rfl, Nat.le_of_ble_eq_true rfl⟩ rfl hl.1 rfl (Nat.le_of_ble_eq_true rfl) dX1_reasonAgainstDirectory_1 ⟨Nat.le_of_ble_eq_true rfl, Nat.le_of_ble_eq_true rfl⟩ (fun H locs hG => ?_)
  refine lv_istore_n (lv' := [(2, .int v1), (0, .ref a0), (1, .int x1)]) hx hb dX1_reasonAgainstDirectory_4 rfl hl (by decide) rfl (fun ls hl => ?_)
  refine lv_aload_n hx hb dX1_reasonAgainstDirectory_5 rfl (lv_at hl 1 rfl) ?_
  obtain ⟨v6, e6, h⟩ := Option.bind_eq_some_iff.mp h
  refine g_getr hx hb hts inlX1 hown hK hG (by rfl) 0 (by decide) qF_X1_12 e6 dX1_reasonAgainstDirectory_6 ?_
  refine lv_iload_n hx hb dX1_reasonAgainstDirectory_9 rfl (lv_at hl 0 rfl) ?_
  obtain ⟨u10, i10, h⟩ := Option.bind_eq_some_iff.mp h
  obtain ⟨v10, e10, h⟩ := Option.bind_eq_some_iff.mp h
  refine g_cVi (As := [.int v1]) (rest := []) (n := 1) hx hb hml hown hts hK hlo hG (m_X0_hasRoomFor l dd cT lo G v6 v1 e10) qM_X1_190 qI_yX0_hasRoomFor qS_X0_yX0_hasRoomFor qN_X0 qC_yX0_hasRoomFor (by decide +kernel) ⟨Nat.le_of_ble_eq_true rfl, Nat.le_of_ble_eq_true rfl⟩ (by rfl) i10 rfl hl.1 rfl (Nat.le_of_ble_eq_true rfl) dX1_reasonAgainstDirectory_10 ⟨Nat.le_of_ble_eq_true rfl, Nat.le_of_ble_eq_true rfl⟩ (fun H locs hG => ?_)
  refine lv_if_ne (tgt := 18) hx hb dX1_reasonAgainstDirectory_13 (by decide) (fun c13 => ?_) (fun c13 => ?_)
  · rw [if_neg c13] at h
    refine lv_aload_n hx hb dX1_reasonAgainstDirectory_18 rfl (lv_at hl 1 rfl) ?_
    obtain ⟨v19, e19, h⟩ := Option.bind_eq_some_iff.mp h
    refine g_getr hx hb hts inlX1 hown hK hG (by rfl) 0 (by decide) qF_X1_12 e19 dX1_reasonAgainstDirectory_19 ?_
    refine lv_iload_n hx hb dX1_reasonAgainstDirectory_22 rfl (lv_at hl 0 rfl) ?_
    obtain ⟨u23, i23, h⟩ := Option.bind_eq_some_iff.mp h
    obtain ⟨v23, e23, h⟩ := Option.bind_eq_some_iff.mp h
    refine g_cVi (As := [.int v1]) (rest := []) (n := 1) hx hb hml hown hts hK hlo hG (m_X0_canRelocate l dd cT lo G v19 v1 e23) qM_X1_193 qI_yX0_canRelocate qS_X0_yX0_canRelocate qN_X0 qC_yX0_canRelocate (by decide +kernel) ⟨Nat.le_of_ble_eq_true rfl, Nat.le_of_ble_eq_true rfl⟩ (by rfl) i23 rfl hl.1 rfl (Nat.le_of_ble_eq_true rfl) dX1_reasonAgainstDirectory_23 ⟨Nat.le_of_ble_eq_true rfl, Nat.le_of_ble_eq_true rfl⟩ (fun H locs hG => ?_)
    refine lv_if_eq (tgt := 33) hx hb dX1_reasonAgainstDirectory_26 (by decide) (fun c26 => ?_) (fun c26 => ?_)
    · rw [if_pos c26] at h
      refine lv_iconst (v := (5 : Int32)) hx hb dX1_reasonAgainstDirectory_33 (by decide) ?_
      obtain rfl := Option.some.inj h
      exact g_iret hx hb hr hlocks hK hlo hG ⟨rfl, rfl⟩ dX1_reasonAgainstDirectory_34
    · rw [if_neg c26] at h
      refine lv_iconst (v := (0 : Int32)) hx hb dX1_reasonAgainstDirectory_29 (by decide) ?_
      refine lv_goto (tgt := 34) hx hb dX1_reasonAgainstDirectory_30 (by decide) ?_
      obtain rfl := Option.some.inj h
      exact g_iret hx hb hr hlocks hK hlo hG ⟨rfl, rfl⟩ dX1_reasonAgainstDirectory_34
  · rw [if_pos c13] at h
    refine lv_iconst (v := (4 : Int32)) hx hb dX1_reasonAgainstDirectory_16 (by decide) ?_
    obtain rfl := Option.some.inj h
    exact g_iret hx hb hr hlocks hK hlo hG ⟨rfl, rfl⟩ dX1_reasonAgainstDirectory_17
set_option maxRecDepth 20000 in
set_option maxHeartbeats 4000000 in
theorem m_X11_kindOf (l : Launch) (dd : va_G) (cT : Nat → ClassId) (lo : Nat → Prop) (G : gH) (a0 : Nat) (x1 : Int32) {rz : Int32} (h : f_X11_kindOf G a0 x1 = some rz) : Met l yX11_kindOf (Cond.code yX11_kindOf cX11_kindOf 2 (some .int) :: wsL_law) (g_rm 1 22 0 0) (va_Pc [.ref a0, .int x1] (g_Pre lo dd cT G)) (va_Qi (g_is rz G) (g_Pre lo dd cT) (g_A lo)) 0 0 (g_A lo) := by
  refine g_start RX11 rfl (by decide) (Nat.le_of_ble_eq_true rfl) ?_
  intro p e s m below meth c hx hb hr hlocks hml hown hnm hts hK hG hlo ls hl
  have hl : lv_has ls 2 [(0, .ref a0), (1, .int x1)] := hl
  have hG : g_S lo dd cT s s.heap [] G := hG
  unfold f_X11_kindOf at h
  refine lv_iload_n hx hb dX11_kindOf_0 rfl (lv_at hl 1 rfl) ?_
  refine lv_aload_n hx hb dX11_kindOf_1 rfl (lv_at hl 0 rfl) ?_
  obtain ⟨v2, e2, h⟩ := Option.bind_eq_some_iff.mp h
  refine g_geti hx hb hts inlX11 hown hK hG (by rfl) 0 (by decide) qF_X11_9 e2 dX11_kindOf_2 ?_
  refine lv_icmp_ge (tgt := 20) hx hb dX11_kindOf_5 (by decide) (fun c5 => ?_) (fun c5 => ?_)
  · rw [if_pos c5] at h
    refine lv_iconst (v := (0 : Int32)) hx hb dX11_kindOf_20 (by decide) ?_
    obtain rfl := Option.some.inj h
    exact g_iret hx hb hr hlocks hK hlo hG ⟨rfl, rfl⟩ dX11_kindOf_21
  · rw [if_neg c5] at h
    refine lv_aload_n hx hb dX11_kindOf_8 rfl (lv_at hl 0 rfl) ?_
    obtain ⟨v9, e9, h⟩ := Option.bind_eq_some_iff.mp h
    refine g_getr hx hb hts inlX11 hown hK hG (by rfl) 2 (by decide) qF_X11_18 e9 dX11_kindOf_9 ?_
    refine lv_iload_n hx hb dX11_kindOf_12 rfl (lv_at hl 1 rfl) ?_
    refine lv_iconst (v := (0 : Int32)) hx hb dX11_kindOf_13 (by decide) ?_
    obtain ⟨v14, e14, h⟩ := Option.bind_eq_some_iff.mp h
    refine g_cNi (As := [.ref v9, .int x1, .int (0 : Int32)]) (rest := []) (n := 3) hx hb hml hown hts hK hlo hG (m_X9_at l dd cT lo G v9 x1 (0 : Int32) e14) (List.mem_of_getElem? (i := 41) rfl) qT_yX9_at qN_X9 qC_yX9_at (by decide +kernel) ⟨Nat.le_of_ble_eq_true rfl, Nat.le_of_ble_eq_true rfl⟩ rfl hl.1 rfl (Nat.le_of_ble_eq_true rfl) dX11_kindOf_14 ⟨Nat.le_of_ble_eq_true rfl, Nat.le_of_ble_eq_true rfl⟩ (fun H locs hG => ?_)
    refine lv_goto (tgt := 21) hx hb dX11_kindOf_17 (by decide) ?_
    obtain rfl := Option.some.inj h
    exact g_iret hx hb hr hlocks hK hlo hG ⟨rfl, rfl⟩ dX11_kindOf_21
set_option maxRecDepth 20000 in
set_option maxHeartbeats 4000000 in
theorem m_X11_startOf (l : Launch) (dd : va_G) (cT : Nat → ClassId) (lo : Nat → Prop) (G : gH) (a0 : Nat) (x1 : Int32) {rz : Int32} (h : f_X11_startOf G a0 x1 = some rz) : Met l yX11_startOf (Cond.code yX11_startOf cX11_startOf 2 (some .int) :: wsL_law) (g_rm 1 22 0 0) (va_Pc [.ref a0, .int x1] (g_Pre lo dd cT G)) (va_Qi (g_is rz G) (g_Pre lo dd cT) (g_A lo)) 0 0 (g_A lo) := by
  refine g_start RX11 rfl (by decide) (Nat.le_of_ble_eq_true rfl) ?_
  intro p e s m below meth c hx hb hr hlocks hml hown hnm hts hK hG hlo ls hl
  have hl : lv_has ls 2 [(0, .ref a0), (1, .int x1)] := hl
  have hG : g_S lo dd cT s s.heap [] G := hG
  unfold f_X11_startOf at h
  refine lv_iload_n hx hb dX11_startOf_0 rfl (lv_at hl 1 rfl) ?_
  refine lv_aload_n hx hb dX11_startOf_1 rfl (lv_at hl 0 rfl) ?_
  obtain ⟨v2, e2, h⟩ := Option.bind_eq_some_iff.mp h
  refine g_geti hx hb hts inlX11 hown hK hG (by rfl) 0 (by decide) qF_X11_9 e2 dX11_startOf_2 ?_
  refine lv_icmp_ge (tgt := 23) hx hb dX11_startOf_5 (by decide) (fun c5 => ?_) (fun c5 => ?_)
  · rw [if_pos c5] at h
    refine lv_aload_n hx hb dX11_startOf_23 rfl (lv_at hl 0 rfl) ?_
    obtain ⟨v24, e24, h⟩ := Option.bind_eq_some_iff.mp h
    refine g_geti hx hb hts inlX11 hown hK hG (by rfl) 1 (by decide) qF_X11_15 e24 dX11_startOf_24 ?_
    obtain rfl := Option.some.inj h
    exact g_iret hx hb hr hlocks hK hlo hG ⟨rfl, rfl⟩ dX11_startOf_27
  · rw [if_neg c5] at h
    refine lv_aload_n hx hb dX11_startOf_8 rfl (lv_at hl 0 rfl) ?_
    obtain ⟨v9, e9, h⟩ := Option.bind_eq_some_iff.mp h
    refine g_getr hx hb hts inlX11 hown hK hG (by rfl) 3 (by decide) qF_X11_22 e9 dX11_startOf_9 ?_
    refine lv_iload_n hx hb dX11_startOf_12 rfl (lv_at hl 1 rfl) ?_
    refine lv_aload_n hx hb dX11_startOf_13 rfl (lv_at hl 0 rfl) ?_
    obtain ⟨v14, e14, h⟩ := Option.bind_eq_some_iff.mp h
    refine g_geti hx hb hts inlX11 hown hK hG (by rfl) 1 (by decide) qF_X11_15 e14 dX11_startOf_14 ?_
    obtain ⟨v17, e17, h⟩ := Option.bind_eq_some_iff.mp h
    refine g_cNi (As := [.ref v9, .int x1, .int v14]) (rest := []) (n := 3) hx hb hml hown hts hK hlo hG (m_X9_at l dd cT lo G v9 x1 v14 e17) (List.mem_of_getElem? (i := 41) rfl) qT_yX9_at qN_X9 qC_yX9_at (by decide +kernel) ⟨Nat.le_of_ble_eq_true rfl, Nat.le_of_ble_eq_true rfl⟩ rfl hl.1 rfl (Nat.le_of_ble_eq_true rfl) dX11_startOf_17 ⟨Nat.le_of_ble_eq_true rfl, Nat.le_of_ble_eq_true rfl⟩ (fun H locs hG => ?_)
    refine lv_goto (tgt := 27) hx hb dX11_startOf_20 (by decide) ?_
    obtain rfl := Option.some.inj h
    exact g_iret hx hb hr hlocks hK hlo hG ⟨rfl, rfl⟩ dX11_startOf_27
set_option maxRecDepth 20000 in
set_option maxHeartbeats 4000000 in
theorem m_X11_numberOf (l : Launch) (dd : va_G) (cT : Nat → ClassId) (lo : Nat → Prop) (G : gH) (a0 : Nat) (x1 : Int32) {rz : Int32} (h : f_X11_numberOf G a0 x1 = some rz) : Met l yX11_numberOf (Cond.code yX11_numberOf cX11_numberOf 2 (some .int) :: wsL_law) (g_rm 1 23 0 0) (va_Pc [.ref a0, .int x1] (g_Pre lo dd cT G)) (va_Qi (g_is rz G) (g_Pre lo dd cT) (g_A lo)) 0 0 (g_A lo) := by
  refine g_start RX11 rfl (by decide) (Nat.le_of_ble_eq_true rfl) ?_
  intro p e s m below meth c hx hb hr hlocks hml hown hnm hts hK hG hlo ls hl
  have hl : lv_has ls 2 [(0, .ref a0), (1, .int x1)] := hl
  have hG : g_S lo dd cT s s.heap [] G := hG
  unfold f_X11_numberOf at h
  refine lv_aload_n hx hb dX11_numberOf_0 rfl (lv_at hl 0 rfl) ?_
  obtain ⟨v1, e1, h⟩ := Option.bind_eq_some_iff.mp h
  refine g_getr hx hb hts inlX11 hown hK hG (by rfl) 4 (by decide) qF_X11_25 e1 dX11_numberOf_1 ?_
  refine lv_iload_n hx hb dX11_numberOf_4 rfl (lv_at hl 1 rfl) ?_
  refine lv_ldc2 hx hb hown (hts _ qJ_X11_52) dX11_numberOf_5 ?_
  obtain ⟨v8, e8, h⟩ := Option.bind_eq_some_iff.mp h
  refine g_cNj (As := [.ref v1, .int x1, .long (-1 : Int64)]) (rest := []) (n := 3) hx hb hml hown hts hK hlo hG (m_X9_at_ l dd cT lo G v1 x1 (-1 : Int64) e8) (List.mem_of_getElem? (i := 42) rfl) qT_yX9_at_ qN_X9 qC_yX9_at_ (by decide +kernel) ⟨Nat.le_of_ble_eq_true rfl, Nat.le_of_ble_eq_true rfl⟩ rfl hl.1 rfl (Nat.le_of_ble_eq_true rfl) dX11_numberOf_8 ⟨Nat.le_of_ble_eq_true rfl, Nat.le_of_ble_eq_true rfl⟩ (fun H locs hG => ?_)
  refine lv_l2i hx hb dX11_numberOf_11 rfl ?_
  obtain rfl := Option.some.inj h
  exact g_iret hx hb hr hlocks hK hlo hG ⟨rfl, rfl⟩ dX11_numberOf_12
set_option maxRecDepth 20000 in
set_option maxHeartbeats 4000000 in
theorem m_X11_valueOf (l : Launch) (dd : va_G) (cT : Nat → ClassId) (lo : Nat → Prop) (G : gH) (a0 : Nat) (x1 : Int32) {rz : Int64} (h : f_X11_valueOf G a0 x1 = some rz) : Met l yX11_valueOf (Cond.code yX11_valueOf cX11_valueOf 2 (some .long) :: wsL_law) (g_rm 1 23 0 0) (va_Pc [.ref a0, .int x1] (g_Pre lo dd cT G)) (va_Ql (g_is rz G) (g_Pre lo dd cT) (g_A lo)) 0 0 (g_A lo) := by
  refine g_start RX11 rfl (by decide) (Nat.le_of_ble_eq_true rfl) ?_
  intro p e s m below meth c hx hb hr hlocks hml hown hnm hts hK hG hlo ls hl
  have hl : lv_has ls 2 [(0, .ref a0), (1, .int x1)] := hl
  have hG : g_S lo dd cT s s.heap [] G := hG
  unfold f_X11_valueOf at h
  refine lv_aload_n hx hb dX11_valueOf_0 rfl (lv_at hl 0 rfl) ?_
  obtain ⟨v1, e1, h⟩ := Option.bind_eq_some_iff.mp h
  refine g_getr hx hb hts inlX11 hown hK hG (by rfl) 4 (by decide) qF_X11_25 e1 dX11_valueOf_1 ?_
  refine lv_iload_n hx hb dX11_valueOf_4 rfl (lv_at hl 1 rfl) ?_
  refine lv_ldc2 hx hb hown (hts _ qJ_X11_52) dX11_valueOf_5 ?_
  obtain ⟨v8, e8, h⟩ := Option.bind_eq_some_iff.mp h
  refine g_cNj (As := [.ref v1, .int x1, .long (-1 : Int64)]) (rest := []) (n := 3) hx hb hml hown hts hK hlo hG (m_X9_at_ l dd cT lo G v1 x1 (-1 : Int64) e8) (List.mem_of_getElem? (i := 42) rfl) qT_yX9_at_ qN_X9 qC_yX9_at_ (by decide +kernel) ⟨Nat.le_of_ble_eq_true rfl, Nat.le_of_ble_eq_true rfl⟩ rfl hl.1 rfl (Nat.le_of_ble_eq_true rfl) dX11_valueOf_8 ⟨Nat.le_of_ble_eq_true rfl, Nat.le_of_ble_eq_true rfl⟩ (fun H locs hG => ?_)
  obtain rfl := Option.some.inj h
  exact g_jret hx hb hr hlocks hK hlo hG ⟨rfl, rfl⟩ dX11_valueOf_11
set_option maxRecDepth 20000 in
set_option maxHeartbeats 4000000 in
theorem m_X11_begin (l : Launch) (dd : va_G) (cT : Nat → ClassId) (lo : Nat → Prop) (G : gH) (a0 : Nat) (x1 : Int32) (x2 : Int32) {Gz : gH} (h : f_X11_begin G a0 x1 x2 = some Gz) : Met l yX11_begin (Cond.code yX11_begin cX11_begin 3 none :: wsL_law) (g_rm 1 23 0 0) (va_Pc [.ref a0, .int x1, .int x2] (g_Pre lo dd cT G)) (va_Qv (g_iv Gz) (g_Pre lo dd cT) (g_A lo)) 0 0 (g_A lo) := by
  refine g_start RX11 rfl (by decide) (Nat.le_of_ble_eq_true rfl) ?_
  intro p e s m below meth c hx hb hr hlocks hml hown hnm hts hK hG hlo ls hl
  have hl : lv_has ls 3 [(0, .ref a0), (1, .int x1), (2, .int x2)] := hl
  have hG : g_S lo dd cT s s.heap [] G := hG
  unfold f_X11_begin at h
  refine lv_aload_n hx hb dX11_begin_0 rfl (lv_at hl 0 rfl) ?_
  obtain ⟨v1, e1, h⟩ := Option.bind_eq_some_iff.mp h
  refine g_getr hx hb hts inlX11 hown hK hG (by rfl) 2 (by decide) qF_X11_18 e1 dX11_begin_1 ?_
  refine lv_aload_n hx hb dX11_begin_4 rfl (lv_at hl 0 rfl) ?_
  obtain ⟨v5, e5, h⟩ := Option.bind_eq_some_iff.mp h
  refine g_geti hx hb hts inlX11 hown hK hG (by rfl) 0 (by decide) qF_X11_9 e5 dX11_begin_5 ?_
  refine lv_iload_n hx hb dX11_begin_8 rfl (lv_at hl 1 rfl) ?_
  obtain ⟨G9, e9, h⟩ := Option.bind_eq_some_iff.mp h
  refine g_cNv (As := [.ref v1, .int v5, .int x1]) (rest := []) (n := 3) hx hb hml hown hts hK hlo hG (m_X9_put l dd cT lo G v1 v5 x1 e9) (List.mem_of_getElem? (i := 43) rfl) qT_yX9_put qN_X9 qC_yX9_put (by decide +kernel) ⟨Nat.le_of_ble_eq_true rfl, Nat.le_of_ble_eq_true rfl⟩ rfl hl.1 rfl (Nat.le_of_ble_eq_true rfl) dX11_begin_9 ⟨Nat.le_of_ble_eq_true rfl, Nat.le_of_ble_eq_true rfl⟩ (fun H locs hG => ?_)
  refine lv_aload_n hx hb dX11_begin_12 rfl (lv_at hl 0 rfl) ?_
  obtain ⟨v13, e13, h⟩ := Option.bind_eq_some_iff.mp h
  refine g_getr hx hb hts inlX11 hown hK hG (by rfl) 3 (by decide) qF_X11_22 e13 dX11_begin_13 ?_
  refine lv_aload_n hx hb dX11_begin_16 rfl (lv_at hl 0 rfl) ?_
  obtain ⟨v17, e17, h⟩ := Option.bind_eq_some_iff.mp h
  refine g_geti hx hb hts inlX11 hown hK hG (by rfl) 0 (by decide) qF_X11_9 e17 dX11_begin_17 ?_
  refine lv_iload_n hx hb dX11_begin_20 rfl (lv_at hl 2 rfl) ?_
  obtain ⟨G21, e21, h⟩ := Option.bind_eq_some_iff.mp h
  refine g_cNv (As := [.ref v13, .int v17, .int x2]) (rest := []) (n := 3) hx hb hml hown hts hK hlo hG (m_X9_put l dd cT lo G9 v13 v17 x2 e21) (List.mem_of_getElem? (i := 43) rfl) qT_yX9_put qN_X9 qC_yX9_put (by decide +kernel) ⟨Nat.le_of_ble_eq_true rfl, Nat.le_of_ble_eq_true rfl⟩ rfl hl.1 rfl (Nat.le_of_ble_eq_true rfl) dX11_begin_21 ⟨Nat.le_of_ble_eq_true rfl, Nat.le_of_ble_eq_true rfl⟩ (fun H locs hG => ?_)
  refine lv_aload_n hx hb dX11_begin_24 rfl (lv_at hl 0 rfl) ?_
  obtain ⟨v25, e25, h⟩ := Option.bind_eq_some_iff.mp h
  refine g_getr hx hb hts inlX11 hown hK hG (by rfl) 4 (by decide) qF_X11_25 e25 dX11_begin_25 ?_
  refine lv_aload_n hx hb dX11_begin_28 rfl (lv_at hl 0 rfl) ?_
  obtain ⟨v29, e29, h⟩ := Option.bind_eq_some_iff.mp h
  refine g_geti hx hb hts inlX11 hown hK hG (by rfl) 0 (by decide) qF_X11_9 e29 dX11_begin_29 ?_
  refine lv_lconst (v := (0 : Int64)) hx hb dX11_begin_32 (by decide) ?_
  obtain ⟨G33, e33, h⟩ := Option.bind_eq_some_iff.mp h
  refine g_cNv (As := [.ref v25, .int v29, .long (0 : Int64)]) (rest := []) (n := 3) hx hb hml hown hts hK hlo hG (m_X9_put_ l dd cT lo G21 v25 v29 (0 : Int64) e33) (List.mem_of_getElem? (i := 44) rfl) qT_yX9_put_ qN_X9 qC_yX9_put_ (by decide +kernel) ⟨Nat.le_of_ble_eq_true rfl, Nat.le_of_ble_eq_true rfl⟩ rfl hl.1 rfl (Nat.le_of_ble_eq_true rfl) dX11_begin_33 ⟨Nat.le_of_ble_eq_true rfl, Nat.le_of_ble_eq_true rfl⟩ (fun H locs hG => ?_)
  refine lv_aload_n hx hb dX11_begin_36 rfl (lv_at hl 0 rfl) ?_
  refine lv_dup hx hb dX11_begin_37 rfl ?_
  obtain ⟨v38, e38, h⟩ := Option.bind_eq_some_iff.mp h
  refine g_geti hx hb hts inlX11 hown hK hG (by rfl) 0 (by decide) qF_X11_9 e38 dX11_begin_38 ?_
  refine lv_iconst (v := (1 : Int32)) hx hb dX11_begin_41 (by decide) ?_
  refine lv_iadd hx hb dX11_begin_42 ?_
  obtain ⟨G43, i43, h⟩ := Option.bind_eq_some_iff.mp h
  refine g_putv hx hb hts inlX11 tyX11 tyX11_ok nmX11 hown hK hG (by rfl) 0 (by decide) qF_X11_9 rfl rfl rfl rfl i43 dX11_begin_43 (fun H locs hG => ?_)
  obtain rfl := Option.some.inj h
  exact g_vret hx hb hr hlocks hK hlo hG rfl dX11_begin_46
set_option maxRecDepth 20000 in
set_option maxHeartbeats 4000000 in
theorem m_X11_takeLetter (l : Launch) (dd : va_G) (cT : Nat → ClassId) (lo : Nat → Prop) (G : gH) (a0 : Nat) (x1 : Int32) (x2 : Int32) {Gz : gH} (h : f_X11_takeLetter G a0 x1 x2 = some Gz) : Met l yX11_takeLetter (Cond.code yX11_takeLetter cX11_takeLetter 4 none :: wsL_law) (g_rm 2 44 0 0) (va_Pc [.ref a0, .int x1, .int x2] (g_Pre lo dd cT G)) (va_Qv (g_iv Gz) (g_Pre lo dd cT) (g_A lo)) 0 0 (g_A lo) := by
  refine g_start RX11 rfl (by decide) (Nat.le_of_ble_eq_true rfl) ?_
  intro p e s m below meth c hx hb hr hlocks hml hown hnm hts hK hG hlo ls hl
  have hl : lv_has ls 4 [(0, .ref a0), (1, .int x1), (2, .int x2)] := hl
  have hG : g_S lo dd cT s s.heap [] G := hG
  unfold f_X11_takeLetter at h
  refine lv_aload_n hx hb dX11_takeLetter_0 rfl (lv_at hl 0 rfl) ?_
  obtain ⟨v1, e1, h⟩ := Option.bind_eq_some_iff.mp h
  refine g_geti hx hb hts inlX11 hown hK hG (by rfl) 0 (by decide) qF_X11_9 e1 dX11_takeLetter_1 ?_
  refine lv_iconst (v := (1 : Int32)) hx hb dX11_takeLetter_4 (by decide) ?_
  refine lv_isub hx hb dX11_takeLetter_5 ?_
  refine lv_istore_n (lv' := [(3, .int (v1 - (1 : Int32))), (0, .ref a0), (1, .int x1), (2, .int x2)]) hx hb dX11_takeLetter_6 rfl hl (by decide) rfl (fun ls hl => ?_)
  refine lv_aload_n hx hb dX11_takeLetter_7 rfl (lv_at hl 1 rfl) ?_
  obtain ⟨v8, e8, h⟩ := Option.bind_eq_some_iff.mp h
  refine g_getr hx hb hts inlX11 hown hK hG (by rfl) 4 (by decide) qF_X11_25 e8 dX11_takeLetter_8 ?_
  refine lv_iload_n hx hb dX11_takeLetter_11 rfl (lv_at hl 0 rfl) ?_
  refine lv_aload_n hx hb dX11_takeLetter_12 rfl (lv_at hl 1 rfl) ?_
  refine lv_iload_n hx hb dX11_takeLetter_13 rfl (lv_at hl 0 rfl) ?_
  obtain ⟨u14, i14, h⟩ := Option.bind_eq_some_iff.mp h
  obtain ⟨v14, e14, h⟩ := Option.bind_eq_some_iff.mp h
  refine g_cVj (As := [.int (v1 - (1 : Int32))]) (rest := [.int (v1 - (1 : Int32)), .ref v8]) (n := 1) hx hb hml hown hts hK hlo hG (m_X11_valueOf l dd cT lo G a0 (v1 - (1 : Int32)) e14) qM_X11_64 qI_yX11_valueOf qS_X11_yX11_valueOf qN_X11 qC_yX11_valueOf (by decide +kernel) ⟨Nat.le_of_ble_eq_true rfl, Nat.le_of_ble_eq_true rfl⟩ (by rfl) i14 rfl hl.1 rfl (Nat.le_of_ble_eq_true rfl) dX11_takeLetter_14 ⟨Nat.le_of_ble_eq_true rfl, Nat.le_of_ble_eq_true rfl⟩ (fun H locs hG => ?_)
  refine lv_iload_n hx hb dX11_takeLetter_17 rfl (lv_at hl 2 rfl) ?_
  obtain ⟨v18, e18, h⟩ := Option.bind_eq_some_iff.mp h
  refine g_cNj (As := [.long v14, .int x1]) (rest := [.int (v1 - (1 : Int32)), .ref v8]) (n := 2) hx hb hml hown hts hK hlo hG (m_X9_withLetter l dd cT lo G v14 x1 e18) (List.mem_of_getElem? (i := 45) rfl) qT_yX9_withLetter qN_X9 qC_yX9_withLetter (by decide +kernel) ⟨Nat.le_of_ble_eq_true rfl, Nat.le_of_ble_eq_true rfl⟩ rfl hl.1 rfl (Nat.le_of_ble_eq_true rfl) dX11_takeLetter_18 ⟨Nat.le_of_ble_eq_true rfl, Nat.le_of_ble_eq_true rfl⟩ (fun H locs hG => ?_)
  obtain ⟨G21, e21, h⟩ := Option.bind_eq_some_iff.mp h
  refine g_cNv (As := [.ref v8, .int (v1 - (1 : Int32)), .long v18]) (rest := []) (n := 3) hx hb hml hown hts hK hlo hG (m_X9_put_ l dd cT lo G v8 (v1 - (1 : Int32)) v18 e21) (List.mem_of_getElem? (i := 44) rfl) qT_yX9_put_ qN_X9 qC_yX9_put_ (by decide +kernel) ⟨Nat.le_of_ble_eq_true rfl, Nat.le_of_ble_eq_true rfl⟩ rfl hl.1 rfl (Nat.le_of_ble_eq_true rfl) dX11_takeLetter_21 ⟨Nat.le_of_ble_eq_true rfl, Nat.le_of_ble_eq_true rfl⟩ (fun H locs hG => ?_)
  refine lv_iload_n hx hb dX11_takeLetter_24 rfl (lv_at hl 3 rfl) ?_
  refine lv_aload_n hx hb dX11_takeLetter_25 rfl (lv_at hl 1 rfl) ?_
  refine lv_iload_n hx hb dX11_takeLetter_26 rfl (lv_at hl 0 rfl) ?_
  obtain ⟨u27, i27, h⟩ := Option.bind_eq_some_iff.mp h
  obtain ⟨v27, e27, h⟩ := Option.bind_eq_some_iff.mp h
  refine g_cVi (As := [.int (v1 - (1 : Int32))]) (rest := [.int x2]) (n := 1) hx hb hml hown hts hK hlo hG (m_X11_startOf l dd cT lo G21 a0 (v1 - (1 : Int32)) e27) qM_X11_72 qI_yX11_startOf qS_X11_yX11_startOf qN_X11 qC_yX11_startOf (by decide +kernel) ⟨Nat.le_of_ble_eq_true rfl, Nat.le_of_ble_eq_true rfl⟩ (by rfl) i27 rfl hl.1 rfl (Nat.le_of_ble_eq_true rfl) dX11_takeLetter_27 ⟨Nat.le_of_ble_eq_true rfl, Nat.le_of_ble_eq_true rfl⟩ (fun H locs hG => ?_)
  refine lv_isub hx hb dX11_takeLetter_30 ?_
  refine lv_bipush (v := (8 : Int32)) hx hb dX11_takeLetter_31 (by decide) ?_
  refine lv_icmp_lt (tgt := 45) hx hb dX11_takeLetter_33 (by decide) (fun c33 => ?_) (fun c33 => ?_)
  · rw [if_pos c33] at h
    obtain rfl := Option.some.inj h
    exact g_vret hx hb hr hlocks hK hlo hG rfl dX11_takeLetter_45
  · rw [if_neg c33] at h
    refine lv_aload_n hx hb dX11_takeLetter_36 rfl (lv_at hl 1 rfl) ?_
    obtain ⟨v37, e37, h⟩ := Option.bind_eq_some_iff.mp h
    refine g_getr hx hb hts inlX11 hown hK hG (by rfl) 2 (by decide) qF_X11_18 e37 dX11_takeLetter_37 ?_
    refine lv_iload_n hx hb dX11_takeLetter_40 rfl (lv_at hl 0 rfl) ?_
    refine lv_iconst (v := (4 : Int32)) hx hb dX11_takeLetter_41 (by decide) ?_
    obtain ⟨G42, e42, h⟩ := Option.bind_eq_some_iff.mp h
    refine g_cNv (As := [.ref v37, .int (v1 - (1 : Int32)), .int (4 : Int32)]) (rest := []) (n := 3) hx hb hml hown hts hK hlo hG (m_X9_put l dd cT lo G21 v37 (v1 - (1 : Int32)) (4 : Int32) e42) (List.mem_of_getElem? (i := 43) rfl) qT_yX9_put qN_X9 qC_yX9_put (by decide +kernel) ⟨Nat.le_of_ble_eq_true rfl, Nat.le_of_ble_eq_true rfl⟩ rfl hl.1 rfl (Nat.le_of_ble_eq_true rfl) dX11_takeLetter_42 ⟨Nat.le_of_ble_eq_true rfl, Nat.le_of_ble_eq_true rfl⟩ (fun H locs hG => ?_)
    obtain rfl := Option.some.inj h
    exact g_vret hx hb hr hlocks hK hlo hG rfl dX11_takeLetter_45
set_option maxRecDepth 20000 in
set_option maxHeartbeats 4000000 in
theorem m_X11_takeDigit (l : Launch) (dd : va_G) (cT : Nat → ClassId) (lo : Nat → Prop) (G : gH) (a0 : Nat) (x1 : Int32) (x2 : Int32) {Gz : gH} (h : f_X11_takeDigit G a0 x1 x2 = some Gz) : Met l yX11_takeDigit (Cond.code yX11_takeDigit cX11_takeDigit 4 none :: wsL_law) (g_rm 2 44 0 0) (va_Pc [.ref a0, .int x1, .int x2] (g_Pre lo dd cT G)) (va_Qv (g_iv Gz) (g_Pre lo dd cT) (g_A lo)) 0 0 (g_A lo) := by
  refine g_start RX11 rfl (by decide) (Nat.le_of_ble_eq_true rfl) ?_
  intro p e s m below meth c hx hb hr hlocks hml hown hnm hts hK hG hlo ls hl
  have hl : lv_has ls 4 [(0, .ref a0), (1, .int x1), (2, .int x2)] := hl
  have hG : g_S lo dd cT s s.heap [] G := hG
  unfold f_X11_takeDigit at h
  refine lv_aload_n hx hb dX11_takeDigit_0 rfl (lv_at hl 0 rfl) ?_
  obtain ⟨v1, e1, h⟩ := Option.bind_eq_some_iff.mp h
  refine g_geti hx hb hts inlX11 hown hK hG (by rfl) 0 (by decide) qF_X11_9 e1 dX11_takeDigit_1 ?_
  refine lv_iconst (v := (1 : Int32)) hx hb dX11_takeDigit_4 (by decide) ?_
  refine lv_isub hx hb dX11_takeDigit_5 ?_
  refine lv_istore_n (lv' := [(3, .int (v1 - (1 : Int32))), (0, .ref a0), (1, .int x1), (2, .int x2)]) hx hb dX11_takeDigit_6 rfl hl (by decide) rfl (fun ls hl => ?_)
  refine lv_aload_n hx hb dX11_takeDigit_7 rfl (lv_at hl 1 rfl) ?_
  obtain ⟨v8, e8, h⟩ := Option.bind_eq_some_iff.mp h
  refine g_getr hx hb hts inlX11 hown hK hG (by rfl) 4 (by decide) qF_X11_25 e8 dX11_takeDigit_8 ?_
  refine lv_iload_n hx hb dX11_takeDigit_11 rfl (lv_at hl 0 rfl) ?_
  refine lv_aload_n hx hb dX11_takeDigit_12 rfl (lv_at hl 1 rfl) ?_
  refine lv_iload_n hx hb dX11_takeDigit_13 rfl (lv_at hl 0 rfl) ?_
  obtain ⟨u14, i14, h⟩ := Option.bind_eq_some_iff.mp h
  obtain ⟨v14, e14, h⟩ := Option.bind_eq_some_iff.mp h
  refine g_cVj (As := [.int (v1 - (1 : Int32))]) (rest := [.int (v1 - (1 : Int32)), .ref v8]) (n := 1) hx hb hml hown hts hK hlo hG (m_X11_valueOf l dd cT lo G a0 (v1 - (1 : Int32)) e14) qM_X11_64 qI_yX11_valueOf qS_X11_yX11_valueOf qN_X11 qC_yX11_valueOf (by decide +kernel) ⟨Nat.le_of_ble_eq_true rfl, Nat.le_of_ble_eq_true rfl⟩ (by rfl) i14 rfl hl.1 rfl (Nat.le_of_ble_eq_true rfl) dX11_takeDigit_14 ⟨Nat.le_of_ble_eq_true rfl, Nat.le_of_ble_eq_true rfl⟩ (fun H locs hG => ?_)
  refine lv_ldc2 hx hb hown (hts _ qJ_X11_75) dX11_takeDigit_17 ?_
  refine lv_lmul hx hb dX11_takeDigit_20 ?_
  refine lv_iload_n hx hb dX11_takeDigit_21 rfl (lv_at hl 2 rfl) ?_
  refine lv_bipush (v := (48 : Int32)) hx hb dX11_takeDigit_22 (by decide) ?_
  refine lv_isub hx hb dX11_takeDigit_24 ?_
  refine lv_i2l hx hb dX11_takeDigit_25 rfl ?_
  refine lv_ladd hx hb dX11_takeDigit_26 ?_
  obtain ⟨G27, e27, h⟩ := Option.bind_eq_some_iff.mp h
  refine g_cNv (As := [.ref v8, .int (v1 - (1 : Int32)), .long ((v14 * (10 : Int64)) + (x1 - (48 : Int32)).toInt64)]) (rest := []) (n := 3) hx hb hml hown hts hK hlo hG (m_X9_put_ l dd cT lo G v8 (v1 - (1 : Int32)) ((v14 * (10 : Int64)) + (x1 - (48 : Int32)).toInt64) e27) (List.mem_of_getElem? (i := 44) rfl) qT_yX9_put_ qN_X9 qC_yX9_put_ (by decide +kernel) ⟨Nat.le_of_ble_eq_true rfl, Nat.le_of_ble_eq_true rfl⟩ rfl hl.1 rfl (Nat.le_of_ble_eq_true rfl) dX11_takeDigit_27 ⟨Nat.le_of_ble_eq_true rfl, Nat.le_of_ble_eq_true rfl⟩ (fun H locs hG => ?_)
  refine lv_iload_n hx hb dX11_takeDigit_30 rfl (lv_at hl 3 rfl) ?_
  refine lv_aload_n hx hb dX11_takeDigit_31 rfl (lv_at hl 1 rfl) ?_
  refine lv_iload_n hx hb dX11_takeDigit_32 rfl (lv_at hl 0 rfl) ?_
  obtain ⟨u33, i33, h⟩ := Option.bind_eq_some_iff.mp h
  obtain ⟨v33, e33, h⟩ := Option.bind_eq_some_iff.mp h
  refine g_cVi (As := [.int (v1 - (1 : Int32))]) (rest := [.int x2]) (n := 1) hx hb hml hown hts hK hlo hG (m_X11_startOf l dd cT lo G27 a0 (v1 - (1 : Int32)) e33) qM_X11_72 qI_yX11_startOf qS_X11_yX11_startOf qN_X11 qC_yX11_startOf (by decide +kernel) ⟨Nat.le_of_ble_eq_true rfl, Nat.le_of_ble_eq_true rfl⟩ (by rfl) i33 rfl hl.1 rfl (Nat.le_of_ble_eq_true rfl) dX11_takeDigit_33 ⟨Nat.le_of_ble_eq_true rfl, Nat.le_of_ble_eq_true rfl⟩ (fun H locs hG => ?_)
  refine lv_isub hx hb dX11_takeDigit_36 ?_
  refine lv_iconst (v := (3 : Int32)) hx hb dX11_takeDigit_37 (by decide) ?_
  refine lv_icmp_lt (tgt := 50) hx hb dX11_takeDigit_38 (by decide) (fun c38 => ?_) (fun c38 => ?_)
  · rw [if_pos c38] at h
    obtain rfl := Option.some.inj h
    exact g_vret hx hb hr hlocks hK hlo hG rfl dX11_takeDigit_50
  · rw [if_neg c38] at h
    refine lv_aload_n hx hb dX11_takeDigit_41 rfl (lv_at hl 1 rfl) ?_
    obtain ⟨v42, e42, h⟩ := Option.bind_eq_some_iff.mp h
    refine g_getr hx hb hts inlX11 hown hK hG (by rfl) 2 (by decide) qF_X11_18 e42 dX11_takeDigit_42 ?_
    refine lv_iload_n hx hb dX11_takeDigit_45 rfl (lv_at hl 0 rfl) ?_
    refine lv_iconst (v := (4 : Int32)) hx hb dX11_takeDigit_46 (by decide) ?_
    obtain ⟨G47, e47, h⟩ := Option.bind_eq_some_iff.mp h
    refine g_cNv (As := [.ref v42, .int (v1 - (1 : Int32)), .int (4 : Int32)]) (rest := []) (n := 3) hx hb hml hown hts hK hlo hG (m_X9_put l dd cT lo G27 v42 (v1 - (1 : Int32)) (4 : Int32) e47) (List.mem_of_getElem? (i := 43) rfl) qT_yX9_put qN_X9 qC_yX9_put (by decide +kernel) ⟨Nat.le_of_ble_eq_true rfl, Nat.le_of_ble_eq_true rfl⟩ rfl hl.1 rfl (Nat.le_of_ble_eq_true rfl) dX11_takeDigit_47 ⟨Nat.le_of_ble_eq_true rfl, Nat.le_of_ble_eq_true rfl⟩ (fun H locs hG => ?_)
    obtain rfl := Option.some.inj h
    exact g_vret hx hb hr hlocks hK hlo hG rfl dX11_takeDigit_50
set_option maxRecDepth 20000 in
set_option maxHeartbeats 4000000 in
theorem m_X3_addByte (l : Launch) (dd : va_G) (cT : Nat → ClassId) (lo : Nat → Prop) (G : gH) (a0 : Nat) (x1 : Int32) {Gz : gH} (h : f_X3_addByte G a0 x1 = some Gz) : Met l yX3_addByte (Cond.code yX3_addByte cX3_addByte 2 none :: wsL_law) (g_rm 1 22 0 0) (va_Pc [.ref a0, .int x1] (g_Pre lo dd cT G)) (va_Qv (g_iv Gz) (g_Pre lo dd cT) (g_A lo)) 0 0 (g_A lo) := by
  refine g_start RX3 rfl (by decide) (Nat.le_of_ble_eq_true rfl) ?_
  intro p e s m below meth c hx hb hr hlocks hml hown hnm hts hK hG hlo ls hl
  have hl : lv_has ls 2 [(0, .ref a0), (1, .int x1)] := hl
  have hG : g_S lo dd cT s s.heap [] G := hG
  unfold f_X3_addByte at h
  refine lv_aload_n hx hb dX3_addByte_0 rfl (lv_at hl 0 rfl) ?_
  obtain ⟨v1, e1, h⟩ := Option.bind_eq_some_iff.mp h
  refine g_getr hx hb hts inlX3 hown hK hG (by rfl) 0 (by decide) qF_X3_9 e1 dX3_addByte_1 ?_
  refine lv_aload_n hx hb dX3_addByte_4 rfl (lv_at hl 0 rfl) ?_
  obtain ⟨v5, e5, h⟩ := Option.bind_eq_some_iff.mp h
  refine g_geti hx hb hts inlX3 hown hK hG (by rfl) 1 (by decide) qF_X3_15 e5 dX3_addByte_5 ?_
  refine lv_iload_n hx hb dX3_addByte_8 rfl (lv_at hl 1 rfl) ?_
  refine lv_sipush (v := (255 : Int32)) hx hb dX3_addByte_9 (by decide) ?_
  refine lv_iand hx hb dX3_addByte_12 ?_
  obtain ⟨G13, e13, h⟩ := Option.bind_eq_some_iff.mp h
  refine g_cNv (As := [.ref v1, .int v5, .int (x1 &&& (255 : Int32))]) (rest := []) (n := 3) hx hb hml hown hts hK hlo hG (m_X9_put l dd cT lo G v1 v5 (x1 &&& (255 : Int32)) e13) (List.mem_of_getElem? (i := 24) rfl) qT_yX9_put qN_X9 qC_yX9_put (by decide +kernel) ⟨Nat.le_of_ble_eq_true rfl, Nat.le_of_ble_eq_true rfl⟩ rfl hl.1 rfl (Nat.le_of_ble_eq_true rfl) dX3_addByte_13 ⟨Nat.le_of_ble_eq_true rfl, Nat.le_of_ble_eq_true rfl⟩ (fun H locs hG => ?_)
  refine lv_aload_n hx hb dX3_addByte_16 rfl (lv_at hl 0 rfl) ?_
  refine lv_dup hx hb dX3_addByte_17 rfl ?_
  obtain ⟨v18, e18, h⟩ := Option.bind_eq_some_iff.mp h
  refine g_geti hx hb hts inlX3 hown hK hG (by rfl) 1 (by decide) qF_X3_15 e18 dX3_addByte_18 ?_
  refine lv_iconst (v := (1 : Int32)) hx hb dX3_addByte_21 (by decide) ?_
  refine lv_iadd hx hb dX3_addByte_22 ?_
  obtain ⟨G23, i23, h⟩ := Option.bind_eq_some_iff.mp h
  refine g_putv hx hb hts inlX3 tyX3 tyX3_ok nmX3 hown hK hG (by rfl) 1 (by decide) qF_X3_15 rfl rfl rfl rfl i23 dX3_addByte_23 (fun H locs hG => ?_)
  obtain rfl := Option.some.inj h
  exact g_vret hx hb hr hlocks hK hlo hG rfl dX3_addByte_26
set_option maxRecDepth 20000 in
set_option maxHeartbeats 4000000 in
theorem m_X3_byteAt (l : Launch) (dd : va_G) (cT : Nat → ClassId) (lo : Nat → Prop) (G : gH) (a0 : Nat) (x1 : Int32) {rz : Int32} (h : f_X3_byteAt G a0 x1 = some rz) : Met l yX3_byteAt (Cond.code yX3_byteAt cX3_byteAt 2 (some .int) :: wsL_law) (g_rm 1 22 0 0) (va_Pc [.ref a0, .int x1] (g_Pre lo dd cT G)) (va_Qi (g_is rz G) (g_Pre lo dd cT) (g_A lo)) 0 0 (g_A lo) := by
  refine g_start RX3 rfl (by decide) (Nat.le_of_ble_eq_true rfl) ?_
  intro p e s m below meth c hx hb hr hlocks hml hown hnm hts hK hG hlo ls hl
  have hl : lv_has ls 2 [(0, .ref a0), (1, .int x1)] := hl
  have hG : g_S lo dd cT s s.heap [] G := hG
  unfold f_X3_byteAt at h
  refine lv_aload_n hx hb dX3_byteAt_0 rfl (lv_at hl 0 rfl) ?_
  obtain ⟨v1, e1, h⟩ := Option.bind_eq_some_iff.mp h
  refine g_getr hx hb hts inlX3 hown hK hG (by rfl) 0 (by decide) qF_X3_9 e1 dX3_byteAt_1 ?_
  refine lv_iload_n hx hb dX3_byteAt_4 rfl (lv_at hl 1 rfl) ?_
  refine lv_iconst (v := (-1 : Int32)) hx hb dX3_byteAt_5 (by decide) ?_
  obtain ⟨v6, e6, h⟩ := Option.bind_eq_some_iff.mp h
  refine g_cNi (As := [.ref v1, .int x1, .int (-1 : Int32)]) (rest := []) (n := 3) hx hb hml hown hts hK hlo hG (m_X9_at l dd cT lo G v1 x1 (-1 : Int32) e6) (List.mem_of_getElem? (i := 25) rfl) qT_yX9_at qN_X9 qC_yX9_at (by decide +kernel) ⟨Nat.le_of_ble_eq_true rfl, Nat.le_of_ble_eq_true rfl⟩ rfl hl.1 rfl (Nat.le_of_ble_eq_true rfl) dX3_byteAt_6 ⟨Nat.le_of_ble_eq_true rfl, Nat.le_of_ble_eq_true rfl⟩ (fun H locs hG => ?_)
  obtain rfl := Option.some.inj h
  exact g_iret hx hb hr hlocks hK hlo hG ⟨rfl, rfl⟩ dX3_byteAt_9
set_option maxRecDepth 20000 in
set_option maxHeartbeats 4000000 in
theorem m_X3_kindAt (l : Launch) (dd : va_G) (cT : Nat → ClassId) (lo : Nat → Prop) (G : gH) (a0 : Nat) (x1 : Int32) {rz : Int32} (h : f_X3_kindAt G a0 x1 = some rz) : Met l yX3_kindAt (Cond.code yX3_kindAt cX3_kindAt 3 (some .int) :: wsL_law) (g_rm 2 43 0 0) (va_Pc [.ref a0, .int x1] (g_Pre lo dd cT G)) (va_Qi (g_is rz G) (g_Pre lo dd cT) (g_A lo)) 0 0 (g_A lo) := by
  refine g_start RX3 rfl (by decide) (Nat.le_of_ble_eq_true rfl) ?_
  intro p e s m below meth c hx hb hr hlocks hml hown hnm hts hK hG hlo ls hl
  have hl : lv_has ls 3 [(0, .ref a0), (1, .int x1)] := hl
  have hG : g_S lo dd cT s s.heap [] G := hG
  have h29 : ∀ (bx2 : Int32), ∀ (H : Heap) (locs : List Loc), g_S lo dd cT s H locs G → ∀ ls : Array Slot, lv_has ls 3 [(2, .int bx2)] → f_X3_kindAt_J29 G bx2 = some rz → W p l e (g_rm 2 43 0 0) s m ([.ref a0, .int x1] : List Value).toArray below meth c H locs 0 0 (MQ below (va_Qi (g_is rz G) (g_Pre lo dd cT) (g_A lo)) ([.ref a0, .int x1] : List Value).toArray s 0 0 (g_A lo)) (F0 m 29 ls []) := by
    intro bx2 H locs hG ls hl h
    unfold f_X3_kindAt_J29 at h
    refine lv_iload_n hx hb dX3_kindAt_29 rfl (lv_at hl 0 rfl) ?_
    refine lv_bipush (v := (32 : Int32)) hx hb dX3_kindAt_30 (by decide) ?_
    refine lv_icmp_eq (tgt := 41) hx hb dX3_kindAt_32 (by decide) (fun c32 => ?_) (fun c32 => ?_)
    · rw [if_pos c32] at h
      refine lv_iconst (v := (0 : Int32)) hx hb dX3_kindAt_41 (by decide) ?_
      obtain rfl := Option.some.inj h
      exact g_iret hx hb hr hlocks hK hlo hG ⟨rfl, rfl⟩ dX3_kindAt_42
    · rw [if_neg c32] at h
      refine lv_iload_n hx hb dX3_kindAt_35 rfl (lv_at hl 0 rfl) ?_
      refine lv_bipush (v := (10 : Int32)) hx hb dX3_kindAt_36 (by decide) ?_
      refine lv_icmp_ne (tgt := 43) hx hb dX3_kindAt_38 (by decide) (fun c38 => ?_) (fun c38 => ?_)
      · rw [if_neg c38] at h
        refine lv_iload_n hx hb dX3_kindAt_43 rfl (lv_at hl 0 rfl) ?_
        refine lv_bipush (v := (59 : Int32)) hx hb dX3_kindAt_44 (by decide) ?_
        refine lv_icmp_ne (tgt := 53) hx hb dX3_kindAt_46 (by decide) (fun c46 => ?_) (fun c46 => ?_)
        · rw [if_neg c46] at h
          refine lv_iconst (v := (4 : Int32)) hx hb dX3_kindAt_53 (by decide) ?_
          obtain rfl := Option.some.inj h
          exact g_iret hx hb hr hlocks hK hlo hG ⟨rfl, rfl⟩ dX3_kindAt_54
        · rw [if_pos c46] at h
          refine lv_iconst (v := (3 : Int32)) hx hb dX3_kindAt_49 (by decide) ?_
          refine lv_goto (tgt := 54) hx hb dX3_kindAt_50 (by decide) ?_
          obtain rfl := Option.some.inj h
          exact g_iret hx hb hr hlocks hK hlo hG ⟨rfl, rfl⟩ dX3_kindAt_54
      · rw [if_pos c38] at h
        refine lv_iconst (v := (0 : Int32)) hx hb dX3_kindAt_41 (by decide) ?_
        obtain rfl := Option.some.inj h
        exact g_iret hx hb hr hlocks hK hlo hG ⟨rfl, rfl⟩ dX3_kindAt_42
  unfold f_X3_kindAt at h
  refine lv_aload_n hx hb dX3_kindAt_0 rfl (lv_at hl 0 rfl) ?_
  refine lv_iload_n hx hb dX3_kindAt_1 rfl (lv_at hl 1 rfl) ?_
  obtain ⟨u2, i2, h⟩ := Option.bind_eq_some_iff.mp h
  obtain ⟨v2, e2, h⟩ := Option.bind_eq_some_iff.mp h
  refine g_cVi (As := [.int x1]) (rest := []) (n := 1) hx hb hml hown hts hK hlo hG (m_X3_byteAt l dd cT lo G a0 x1 e2) qM_X3_31 qI_yX3_byteAt qS_X3_yX3_byteAt qN_X3 qC_yX3_byteAt (by decide +kernel) ⟨Nat.le_of_ble_eq_true rfl, Nat.le_of_ble_eq_true rfl⟩ (by rfl) i2 rfl hl.1 rfl (Nat.le_of_ble_eq_true rfl) dX3_kindAt_2 ⟨Nat.le_of_ble_eq_true rfl, Nat.le_of_ble_eq_true rfl⟩ (fun H locs hG => ?_)
  refine lv_istore_n (lv' := [(2, .int v2), (0, .ref a0), (1, .int x1)]) hx hb dX3_kindAt_5 rfl hl (by decide) rfl (fun ls hl => ?_)
  refine lv_iload_n hx hb dX3_kindAt_6 rfl (lv_at hl 0 rfl) ?_
  obtain ⟨v7, e7, h⟩ := Option.bind_eq_some_iff.mp h
  refine g_cNi (As := [.int v2]) (rest := []) (n := 1) hx hb hml hown hts hK hlo hG (m_X9_isLetter l dd cT lo G v2 e7) (List.mem_of_getElem? (i := 26) rfl) qT_yX9_isLetter qN_X9 qC_yX9_isLetter (by decide +kernel) ⟨Nat.le_of_ble_eq_true rfl, Nat.le_of_ble_eq_true rfl⟩ rfl hl.1 rfl (Nat.le_of_ble_eq_true rfl) dX3_kindAt_7 ⟨Nat.le_of_ble_eq_true rfl, Nat.le_of_ble_eq_true rfl⟩ (fun H locs hG => ?_)
  refine lv_if_eq (tgt := 15) hx hb dX3_kindAt_10 (by decide) (fun c10 => ?_) (fun c10 => ?_)
  · rw [if_pos c10] at h
    refine lv_iload_n hx hb dX3_kindAt_15 rfl (lv_at hl 0 rfl) ?_
    refine lv_bipush (v := (48 : Int32)) hx hb dX3_kindAt_16 (by decide) ?_
    refine lv_icmp_lt (tgt := 29) hx hb dX3_kindAt_18 (by decide) (fun c18 => ?_) (fun c18 => ?_)
    · rw [if_pos c18] at h
      exact h29 v2 _ _ hG _ (lv_sub hl [0] rfl) h
    · rw [if_neg c18] at h
      refine lv_iload_n hx hb dX3_kindAt_21 rfl (lv_at hl 0 rfl) ?_
      refine lv_bipush (v := (57 : Int32)) hx hb dX3_kindAt_22 (by decide) ?_
      refine lv_icmp_gt (tgt := 29) hx hb dX3_kindAt_24 (by decide) (fun c24 => ?_) (fun c24 => ?_)
      · rw [if_pos c24] at h
        exact h29 v2 _ _ hG _ (lv_sub hl [0] rfl) h
      · rw [if_neg c24] at h
        refine lv_iconst (v := (2 : Int32)) hx hb dX3_kindAt_27 (by decide) ?_
        obtain rfl := Option.some.inj h
        exact g_iret hx hb hr hlocks hK hlo hG ⟨rfl, rfl⟩ dX3_kindAt_28
  · rw [if_neg c10] at h
    refine lv_iconst (v := (1 : Int32)) hx hb dX3_kindAt_13 (by decide) ?_
    obtain rfl := Option.some.inj h
    exact g_iret hx hb hr hlocks hK hlo hG ⟨rfl, rfl⟩ dX3_kindAt_14
set_option maxRecDepth 20000 in
set_option maxHeartbeats 4000000 in
theorem m_X4_refuseStatement (l : Launch) (dd : va_G) (cT : Nat → ClassId) (lo : Nat → Prop) (G : gH) (a0 : Nat) (x1 : Int32) {Gz : gH} (h : f_X4_refuseStatement G a0 x1 = some Gz) : Met l yX4_refuseStatement (Cond.code yX4_refuseStatement cX4_refuseStatement 2 none :: wsL_law) (g_rm 1 22 0 0) (va_Pc [.ref a0, .int x1] (g_Pre lo dd cT G)) (va_Qv (g_iv Gz) (g_Pre lo dd cT) (g_A lo)) 0 0 (g_A lo) := by
  refine g_start RX4 rfl (by decide) (Nat.le_of_ble_eq_true rfl) ?_
  intro p e s m below meth c hx hb hr hlocks hml hown hnm hts hK hG hlo ls hl
  have hl : lv_has ls 2 [(0, .ref a0), (1, .int x1)] := hl
  have hG : g_S lo dd cT s s.heap [] G := hG
  unfold f_X4_refuseStatement at h
  refine lv_aload_n hx hb dX4_refuseStatement_0 rfl (lv_at hl 0 rfl) ?_
  refine lv_bipush (v := (6 : Int32)) hx hb dX4_refuseStatement_1 (by decide) ?_
  obtain ⟨G3, i3, h⟩ := Option.bind_eq_some_iff.mp h
  refine g_putv hx hb hts inlX4 tyX4 tyX4_ok nmX4 hown hK hG (by rfl) 0 (by decide) qF_X4_9 rfl rfl rfl rfl i3 dX4_refuseStatement_3 (fun H locs hG => ?_)
  refine lv_aload_n hx hb dX4_refuseStatement_6 rfl (lv_at hl 0 rfl) ?_
  refine lv_aload_n hx hb dX4_refuseStatement_7 rfl (lv_at hl 0 rfl) ?_
  obtain ⟨v8, e8, h⟩ := Option.bind_eq_some_iff.mp h
  refine g_getr hx hb hts inlX4 hown hK hG (by rfl) 8 (by decide) qF_X4_38 e8 dX4_refuseStatement_8 ?_
  refine lv_iload_n hx hb dX4_refuseStatement_11 rfl (lv_at hl 1 rfl) ?_
  refine lv_iconst (v := (-1 : Int32)) hx hb dX4_refuseStatement_12 (by decide) ?_
  obtain ⟨v13, e13, h⟩ := Option.bind_eq_some_iff.mp h
  refine g_cNi (As := [.ref v8, .int x1, .int (-1 : Int32)]) (rest := [.ref a0]) (n := 3) hx hb hml hown hts hK hlo hG (m_X9_at l dd cT lo G3 v8 x1 (-1 : Int32) e13) (List.mem_of_getElem? (i := 34) rfl) qT_yX9_at qN_X9 qC_yX9_at (by decide +kernel) ⟨Nat.le_of_ble_eq_true rfl, Nat.le_of_ble_eq_true rfl⟩ rfl hl.1 rfl (Nat.le_of_ble_eq_true rfl) dX4_refuseStatement_13 ⟨Nat.le_of_ble_eq_true rfl, Nat.le_of_ble_eq_true rfl⟩ (fun H locs hG => ?_)
  obtain ⟨G16, i16, h⟩ := Option.bind_eq_some_iff.mp h
  refine g_putv hx hb hts inlX4 tyX4 tyX4_ok nmX4 hown hK hG (by rfl) 1 (by decide) qF_X4_15 rfl rfl rfl rfl i16 dX4_refuseStatement_16 (fun H locs hG => ?_)
  obtain rfl := Option.some.inj h
  exact g_vret hx hb hr hlocks hK hlo hG rfl dX4_refuseStatement_19
set_option maxRecDepth 20000 in
set_option maxHeartbeats 4000000 in
theorem m_X4_kindOf (l : Launch) (dd : va_G) (cT : Nat → ClassId) (lo : Nat → Prop) (G : gH) (a0 : Nat) (x1 : Int32) {rz : Int32} (h : f_X4_kindOf G a0 x1 = some rz) : Met l yX4_kindOf (Cond.code yX4_kindOf cX4_kindOf 2 (some .int) :: wsL_law) (g_rm 1 22 0 0) (va_Pc [.ref a0, .int x1] (g_Pre lo dd cT G)) (va_Qi (g_is rz G) (g_Pre lo dd cT) (g_A lo)) 0 0 (g_A lo) := by
  refine g_start RX4 rfl (by decide) (Nat.le_of_ble_eq_true rfl) ?_
  intro p e s m below meth c hx hb hr hlocks hml hown hnm hts hK hG hlo ls hl
  have hl : lv_has ls 2 [(0, .ref a0), (1, .int x1)] := hl
  have hG : g_S lo dd cT s s.heap [] G := hG
  unfold f_X4_kindOf at h
  refine lv_aload_n hx hb dX4_kindOf_0 rfl (lv_at hl 0 rfl) ?_
  obtain ⟨v1, e1, h⟩ := Option.bind_eq_some_iff.mp h
  refine g_getr hx hb hts inlX4 hown hK hG (by rfl) 7 (by decide) qF_X4_34 e1 dX4_kindOf_1 ?_
  refine lv_iload_n hx hb dX4_kindOf_4 rfl (lv_at hl 1 rfl) ?_
  refine lv_iconst (v := (-1 : Int32)) hx hb dX4_kindOf_5 (by decide) ?_
  obtain ⟨v6, e6, h⟩ := Option.bind_eq_some_iff.mp h
  refine g_cNi (As := [.ref v1, .int x1, .int (-1 : Int32)]) (rest := []) (n := 3) hx hb hml hown hts hK hlo hG (m_X9_at l dd cT lo G v1 x1 (-1 : Int32) e6) (List.mem_of_getElem? (i := 34) rfl) qT_yX9_at qN_X9 qC_yX9_at (by decide +kernel) ⟨Nat.le_of_ble_eq_true rfl, Nat.le_of_ble_eq_true rfl⟩ rfl hl.1 rfl (Nat.le_of_ble_eq_true rfl) dX4_kindOf_6 ⟨Nat.le_of_ble_eq_true rfl, Nat.le_of_ble_eq_true rfl⟩ (fun H locs hG => ?_)
  obtain rfl := Option.some.inj h
  exact g_iret hx hb hr hlocks hK hlo hG ⟨rfl, rfl⟩ dX4_kindOf_9
set_option maxRecDepth 20000 in
set_option maxHeartbeats 4000000 in
theorem m_X4_targetOf (l : Launch) (dd : va_G) (cT : Nat → ClassId) (lo : Nat → Prop) (G : gH) (a0 : Nat) (x1 : Int32) {rz : Int32} (h : f_X4_targetOf G a0 x1 = some rz) : Met l yX4_targetOf (Cond.code yX4_targetOf cX4_targetOf 2 (some .int) :: wsL_law) (g_rm 1 22 0 0) (va_Pc [.ref a0, .int x1] (g_Pre lo dd cT G)) (va_Qi (g_is rz G) (g_Pre lo dd cT) (g_A lo)) 0 0 (g_A lo) := by
  refine g_start RX4 rfl (by decide) (Nat.le_of_ble_eq_true rfl) ?_
  intro p e s m below meth c hx hb hr hlocks hml hown hnm hts hK hG hlo ls hl
  have hl : lv_has ls 2 [(0, .ref a0), (1, .int x1)] := hl
  have hG : g_S lo dd cT s s.heap [] G := hG
  unfold f_X4_targetOf at h
  refine lv_aload_n hx hb dX4_targetOf_0 rfl (lv_at hl 0 rfl) ?_
  obtain ⟨v1, e1, h⟩ := Option.bind_eq_some_iff.mp h
  refine g_getr hx hb hts inlX4 hown hK hG (by rfl) 9 (by decide) qF_X4_41 e1 dX4_targetOf_1 ?_
  refine lv_iload_n hx hb dX4_targetOf_4 rfl (lv_at hl 1 rfl) ?_
  refine lv_iconst (v := (-1 : Int32)) hx hb dX4_targetOf_5 (by decide) ?_
  obtain ⟨v6, e6, h⟩ := Option.bind_eq_some_iff.mp h
  refine g_cNi (As := [.ref v1, .int x1, .int (-1 : Int32)]) (rest := []) (n := 3) hx hb hml hown hts hK hlo hG (m_X9_at l dd cT lo G v1 x1 (-1 : Int32) e6) (List.mem_of_getElem? (i := 34) rfl) qT_yX9_at qN_X9 qC_yX9_at (by decide +kernel) ⟨Nat.le_of_ble_eq_true rfl, Nat.le_of_ble_eq_true rfl⟩ rfl hl.1 rfl (Nat.le_of_ble_eq_true rfl) dX4_targetOf_6 ⟨Nat.le_of_ble_eq_true rfl, Nat.le_of_ble_eq_true rfl⟩ (fun H locs hG => ?_)
  obtain rfl := Option.some.inj h
  exact g_iret hx hb hr hlocks hK hlo hG ⟨rfl, rfl⟩ dX4_targetOf_9
set_option maxRecDepth 20000 in
set_option maxHeartbeats 4000000 in
theorem m_X4_lengthOf (l : Launch) (dd : va_G) (cT : Nat → ClassId) (lo : Nat → Prop) (G : gH) (a0 : Nat) (x1 : Int32) {rz : Int32} (h : f_X4_lengthOf G a0 x1 = some rz) : Met l yX4_lengthOf (Cond.code yX4_lengthOf cX4_lengthOf 2 (some .int) :: wsL_law) (g_rm 1 22 0 0) (va_Pc [.ref a0, .int x1] (g_Pre lo dd cT G)) (va_Qi (g_is rz G) (g_Pre lo dd cT) (g_A lo)) 0 0 (g_A lo) := by
  refine g_start RX4 rfl (by decide) (Nat.le_of_ble_eq_true rfl) ?_
  intro p e s m below meth c hx hb hr hlocks hml hown hnm hts hK hG hlo ls hl
  have hl : lv_has ls 2 [(0, .ref a0), (1, .int x1)] := hl
  have hG : g_S lo dd cT s s.heap [] G := hG
  unfold f_X4_lengthOf at h
  refine lv_aload_n hx hb dX4_lengthOf_0 rfl (lv_at hl 0 rfl) ?_
  obtain ⟨v1, e1, h⟩ := Option.bind_eq_some_iff.mp h
  refine g_getr hx hb hts inlX4 hown hK hG (by rfl) 10 (by decide) qF_X4_44 e1 dX4_lengthOf_1 ?_
  refine lv_iload_n hx hb dX4_lengthOf_4 rfl (lv_at hl 1 rfl) ?_
  refine lv_iconst (v := (0 : Int32)) hx hb dX4_lengthOf_5 (by decide) ?_
  obtain ⟨v6, e6, h⟩ := Option.bind_eq_some_iff.mp h
  refine g_cNi (As := [.ref v1, .int x1, .int (0 : Int32)]) (rest := []) (n := 3) hx hb hml hown hts hK hlo hG (m_X9_at l dd cT lo G v1 x1 (0 : Int32) e6) (List.mem_of_getElem? (i := 34) rfl) qT_yX9_at qN_X9 qC_yX9_at (by decide +kernel) ⟨Nat.le_of_ble_eq_true rfl, Nat.le_of_ble_eq_true rfl⟩ rfl hl.1 rfl (Nat.le_of_ble_eq_true rfl) dX4_lengthOf_6 ⟨Nat.le_of_ble_eq_true rfl, Nat.le_of_ble_eq_true rfl⟩ (fun H locs hG => ?_)
  obtain rfl := Option.some.inj h
  exact g_iret hx hb hr hlocks hK hlo hG ⟨rfl, rfl⟩ dX4_lengthOf_9
set_option maxRecDepth 20000 in
set_option maxHeartbeats 4000000 in
theorem m_X4_tagOf (l : Launch) (dd : va_G) (cT : Nat → ClassId) (lo : Nat → Prop) (G : gH) (a0 : Nat) (x1 : Int32) {rz : Int32} (h : f_X4_tagOf G a0 x1 = some rz) : Met l yX4_tagOf (Cond.code yX4_tagOf cX4_tagOf 2 (some .int) :: wsL_law) (g_rm 1 22 0 0) (va_Pc [.ref a0, .int x1] (g_Pre lo dd cT G)) (va_Qi (g_is rz G) (g_Pre lo dd cT) (g_A lo)) 0 0 (g_A lo) := by
  refine g_start RX4 rfl (by decide) (Nat.le_of_ble_eq_true rfl) ?_
  intro p e s m below meth c hx hb hr hlocks hml hown hnm hts hK hG hlo ls hl
  have hl : lv_has ls 2 [(0, .ref a0), (1, .int x1)] := hl
  have hG : g_S lo dd cT s s.heap [] G := hG
  unfold f_X4_tagOf at h
  refine lv_aload_n hx hb dX4_tagOf_0 rfl (lv_at hl 0 rfl) ?_
  obtain ⟨v1, e1, h⟩ := Option.bind_eq_some_iff.mp h
  refine g_getr hx hb hts inlX4 hown hK hG (by rfl) 11 (by decide) qF_X4_47 e1 dX4_tagOf_1 ?_
  refine lv_iload_n hx hb dX4_tagOf_4 rfl (lv_at hl 1 rfl) ?_
  refine lv_iconst (v := (0 : Int32)) hx hb dX4_tagOf_5 (by decide) ?_
  obtain ⟨v6, e6, h⟩ := Option.bind_eq_some_iff.mp h
  refine g_cNi (As := [.ref v1, .int x1, .int (0 : Int32)]) (rest := []) (n := 3) hx hb hml hown hts hK hlo hG (m_X9_at l dd cT lo G v1 x1 (0 : Int32) e6) (List.mem_of_getElem? (i := 34) rfl) qT_yX9_at qN_X9 qC_yX9_at (by decide +kernel) ⟨Nat.le_of_ble_eq_true rfl, Nat.le_of_ble_eq_true rfl⟩ rfl hl.1 rfl (Nat.le_of_ble_eq_true rfl) dX4_tagOf_6 ⟨Nat.le_of_ble_eq_true rfl, Nat.le_of_ble_eq_true rfl⟩ (fun H locs hG => ?_)
  obtain rfl := Option.some.inj h
  exact g_iret hx hb hr hlocks hK hlo hG ⟨rfl, rfl⟩ dX4_tagOf_9
set_option maxRecDepth 20000 in
set_option maxHeartbeats 4000000 in
theorem m_X4_readNewFile (l : Launch) (dd : va_G) (cT : Nat → ClassId) (lo : Nat → Prop) (G : gH) (a0 : Nat) {rz : Int32} {Gz : gH} (h : f_X4_readNewFile G a0 = some (Gz, rz)) : Met l yX4_readNewFile (Cond.code yX4_readNewFile cX4_readNewFile 3 (some .boolean) :: wsL_law) (g_rm 2 44 0 0) (va_Pc [.ref a0] (g_Pre lo dd cT G)) (va_Qi (g_is rz Gz) (g_Pre lo dd cT) (g_A lo)) 0 0 (g_A lo) := by
  refine g_start RX4 rfl (by decide) (Nat.le_of_ble_eq_true rfl) ?_
  intro p e s m below meth c hx hb hr hlocks hml hown hnm hts hK hG hlo ls hl
  have hl : lv_has ls 3 [(0, .ref a0)] := hl
  have hG : g_S lo dd cT s s.heap [] G := hG
  unfold f_X4_readNewFile at h
  refine lv_aload_n hx hb dX4_readNewFile_0 rfl (lv_at hl 0 rfl) ?_
  obtain ⟨v1, e1, h⟩ := Option.bind_eq_some_iff.mp h
  refine g_geti hx hb hts inlX4 hown hK hG (by rfl) 4 (by decide) qF_X4_24 e1 dX4_readNewFile_1 ?_
  refine lv_bipush (v := (10 : Int32)) hx hb dX4_readNewFile_4 (by decide) ?_
  refine lv_icmp_lt (tgt := 15) hx hb dX4_readNewFile_6 (by decide) (fun c6 => ?_) (fun c6 => ?_)
  · rw [if_pos c6] at h
    refine lv_aload_n hx hb dX4_readNewFile_15 rfl (lv_at hl 0 rfl) ?_
    refine lv_dup hx hb dX4_readNewFile_16 rfl ?_
    obtain ⟨v17, e17, h⟩ := Option.bind_eq_some_iff.mp h
    refine g_geti hx hb hts inlX4 hown hK hG (by rfl) 14 (by decide) qF_X4_61 e17 dX4_readNewFile_17 ?_
    refine lv_iconst (v := (1 : Int32)) hx hb dX4_readNewFile_20 (by decide) ?_
    refine lv_iadd hx hb dX4_readNewFile_21 ?_
    obtain ⟨G22, i22, h⟩ := Option.bind_eq_some_iff.mp h
    refine g_putv hx hb hts inlX4 tyX4 tyX4_ok nmX4 hown hK hG (by rfl) 14 (by decide) qF_X4_61 rfl rfl rfl rfl i22 dX4_readNewFile_22 (fun H locs hG => ?_)
    refine lv_aload_n hx hb dX4_readNewFile_25 rfl (lv_at hl 0 rfl) ?_
    obtain ⟨v26, e26, h⟩ := Option.bind_eq_some_iff.mp h
    refine g_getr hx hb hts inlX4 hown hK hG (by rfl) 13 (by decide) qF_X4_57 e26 dX4_readNewFile_26 ?_
    refine lv_aload_n hx hb dX4_readNewFile_29 rfl (lv_at hl 0 rfl) ?_
    obtain ⟨v30, e30, h⟩ := Option.bind_eq_some_iff.mp h
    refine g_geti hx hb hts inlX4 hown hK hG (by rfl) 14 (by decide) qF_X4_61 e30 dX4_readNewFile_30 ?_
    obtain ⟨u33, i33, h⟩ := Option.bind_eq_some_iff.mp h
    obtain ⟨v33, e33, h⟩ := Option.bind_eq_some_iff.mp h
    refine g_cVi (As := [.int v30]) (rest := []) (n := 1) hx hb hml hown hts hK hlo hG (m_X11_kindOf l dd cT lo G22 v26 v30 e33) qM_X4_147 qI_yX11_kindOf qS_X11_yX11_kindOf qN_X11 qC_yX11_kindOf (by decide +kernel) ⟨Nat.le_of_ble_eq_true rfl, Nat.le_of_ble_eq_true rfl⟩ (by rfl) i33 rfl hl.1 rfl (Nat.le_of_ble_eq_true rfl) dX4_readNewFile_33 ⟨Nat.le_of_ble_eq_true rfl, Nat.le_of_ble_eq_true rfl⟩ (fun H locs hG => ?_)
    refine lv_iconst (v := (1 : Int32)) hx hb dX4_readNewFile_36 (by decide) ?_
    refine lv_icmp_eq (tgt := 46) hx hb dX4_readNewFile_37 (by decide) (fun c37 => ?_) (fun c37 => ?_)
    · rw [if_pos c37] at h
      refine lv_aload_n hx hb dX4_readNewFile_46 rfl (lv_at hl 0 rfl) ?_
      obtain ⟨v47, e47, h⟩ := Option.bind_eq_some_iff.mp h
      refine g_getr hx hb hts inlX4 hown hK hG (by rfl) 13 (by decide) qF_X4_57 e47 dX4_readNewFile_47 ?_
      refine lv_aload_n hx hb dX4_readNewFile_50 rfl (lv_at hl 0 rfl) ?_
      obtain ⟨v51, e51, h⟩ := Option.bind_eq_some_iff.mp h
      refine g_geti hx hb hts inlX4 hown hK hG (by rfl) 14 (by decide) qF_X4_61 e51 dX4_readNewFile_51 ?_
      obtain ⟨u54, i54, h⟩ := Option.bind_eq_some_iff.mp h
      obtain ⟨v54, e54, h⟩ := Option.bind_eq_some_iff.mp h
      refine g_cVj (As := [.int v51]) (rest := []) (n := 1) hx hb hml hown hts hK hlo hG (m_X11_valueOf l dd cT lo G22 v47 v51 e54) qM_X4_150 qI_yX11_valueOf qS_X11_yX11_valueOf qN_X11 qC_yX11_valueOf (by decide +kernel) ⟨Nat.le_of_ble_eq_true rfl, Nat.le_of_ble_eq_true rfl⟩ (by rfl) i54 rfl hl.1 rfl (Nat.le_of_ble_eq_true rfl) dX4_readNewFile_54 ⟨Nat.le_of_ble_eq_true rfl, Nat.le_of_ble_eq_true rfl⟩ (fun H locs hG => ?_)
      refine lv_lstore_n (lv' := [(1, .long v54), (0, .ref a0)]) hx hb dX4_readNewFile_57 rfl hl (by decide) rfl (fun ls hl => ?_)
      refine lv_aload_n hx hb dX4_readNewFile_58 rfl (lv_at hl 1 rfl) ?_
      obtain ⟨v59, e59, h⟩ := Option.bind_eq_some_iff.mp h
      refine g_getr hx hb hts inlX4 hown hK hG (by rfl) 5 (by decide) qF_X4_27 e59 dX4_readNewFile_59 ?_
      refine lv_aload_n hx hb dX4_readNewFile_62 rfl (lv_at hl 1 rfl) ?_
      obtain ⟨v63, e63, h⟩ := Option.bind_eq_some_iff.mp h
      refine g_geti hx hb hts inlX4 hown hK hG (by rfl) 4 (by decide) qF_X4_24 e63 dX4_readNewFile_63 ?_
      refine lv_lload_n hx hb dX4_readNewFile_66 rfl (lv_at hl 0 rfl) ?_
      obtain ⟨v67, e67, h⟩ := Option.bind_eq_some_iff.mp h
      refine g_cNi (As := [.ref v59, .int v63, .long v54]) (rest := []) (n := 3) hx hb hml hown hts hK hlo hG (m_X9_indexOf l dd cT lo G22 v59 v63 v54 e67) (List.mem_of_getElem? (i := 37) rfl) qT_yX9_indexOf qN_X9 qC_yX9_indexOf (by decide +kernel) ⟨Nat.le_of_ble_eq_true rfl, Nat.le_of_ble_eq_true rfl⟩ rfl hl.1 rfl (Nat.le_of_ble_eq_true rfl) dX4_readNewFile_67 ⟨Nat.le_of_ble_eq_true rfl, Nat.le_of_ble_eq_true rfl⟩ (fun H locs hG => ?_)
      refine lv_iconst (v := (-1 : Int32)) hx hb dX4_readNewFile_70 (by decide) ?_
      refine lv_icmp_eq (tgt := 80) hx hb dX4_readNewFile_71 (by decide) (fun c71 => ?_) (fun c71 => ?_)
      · rw [if_pos c71] at h
        refine lv_aload_n hx hb dX4_readNewFile_80 rfl (lv_at hl 1 rfl) ?_
        obtain ⟨v81, e81, h⟩ := Option.bind_eq_some_iff.mp h
        refine g_getr hx hb hts inlX4 hown hK hG (by rfl) 5 (by decide) qF_X4_27 e81 dX4_readNewFile_81 ?_
        refine lv_aload_n hx hb dX4_readNewFile_84 rfl (lv_at hl 1 rfl) ?_
        obtain ⟨v85, e85, h⟩ := Option.bind_eq_some_iff.mp h
        refine g_geti hx hb hts inlX4 hown hK hG (by rfl) 4 (by decide) qF_X4_24 e85 dX4_readNewFile_85 ?_
        refine lv_lload_n hx hb dX4_readNewFile_88 rfl (lv_at hl 0 rfl) ?_
        obtain ⟨G89, e89, h⟩ := Option.bind_eq_some_iff.mp h
        refine g_cNv (As := [.ref v81, .int v85, .long v54]) (rest := []) (n := 3) hx hb hml hown hts hK hlo hG (m_X9_put_ l dd cT lo G22 v81 v85 v54 e89) (List.mem_of_getElem? (i := 38) rfl) qT_yX9_put_ qN_X9 qC_yX9_put_ (by decide +kernel) ⟨Nat.le_of_ble_eq_true rfl, Nat.le_of_ble_eq_true rfl⟩ rfl hl.1 rfl (Nat.le_of_ble_eq_true rfl) dX4_readNewFile_89 ⟨Nat.le_of_ble_eq_true rfl, Nat.le_of_ble_eq_true rfl⟩ (fun H locs hG => ?_)
        refine lv_aload_n hx hb dX4_readNewFile_92 rfl (lv_at hl 1 rfl) ?_
        refine lv_dup hx hb dX4_readNewFile_93 rfl ?_
        obtain ⟨v94, e94, h⟩ := Option.bind_eq_some_iff.mp h
        refine g_geti hx hb hts inlX4 hown hK hG (by rfl) 4 (by decide) qF_X4_24 e94 dX4_readNewFile_94 ?_
        refine lv_iconst (v := (1 : Int32)) hx hb dX4_readNewFile_97 (by decide) ?_
        refine lv_iadd hx hb dX4_readNewFile_98 ?_
        obtain ⟨G99, i99, h⟩ := Option.bind_eq_some_iff.mp h
        refine g_putv hx hb hts inlX4 tyX4 tyX4_ok nmX4 hown hK hG (by rfl) 4 (by decide) qF_X4_24 rfl rfl rfl rfl i99 dX4_readNewFile_99 (fun H locs hG => ?_)
        refine lv_iconst (v := (1 : Int32)) hx hb dX4_readNewFile_102 (by decide) ?_
        obtain ⟨rfl, rfl⟩ := Prod.mk.inj (Option.some.inj h)
        exact g_zret hx hb hr hlocks hK hlo hG rfl ⟨rfl, rfl⟩ dX4_readNewFile_103
      · rw [if_neg c71] at h
        refine lv_aload_n hx hb dX4_readNewFile_74 rfl (lv_at hl 1 rfl) ?_
        refine lv_iconst (v := (2 : Int32)) hx hb dX4_readNewFile_75 (by decide) ?_
        obtain ⟨u76, i76, h⟩ := Option.bind_eq_some_iff.mp h
        obtain ⟨q76, e76, h⟩ := Option.bind_eq_some_iff.mp h
        refine g_cVi (As := [.int (2 : Int32)]) (rest := []) (n := 1) hx hb hml hown hts hK hlo hG (m_X4_fail l dd cT lo G22 a0 (2 : Int32) e76) qM_X4_97 qI_yX4_fail qS_X4_yX4_fail qN_X4 qC_yX4_fail (by decide +kernel) ⟨Nat.le_of_ble_eq_true rfl, Nat.le_of_ble_eq_true rfl⟩ (by rfl) i76 rfl hl.1 rfl (Nat.le_of_ble_eq_true rfl) dX4_readNewFile_76 ⟨Nat.le_of_ble_eq_true rfl, Nat.le_of_ble_eq_true rfl⟩ (fun H locs hG => ?_)
        obtain ⟨w79, e79, h⟩ := Option.bind_eq_some_iff.mp h
        obtain ⟨n79, rfl⟩ := g_z_nar e79
        obtain ⟨rfl, rfl⟩ := Prod.mk.inj (Option.some.inj h)
        exact g_zret hx hb hr hlocks hK hlo hG n79 ⟨rfl, rfl⟩ dX4_readNewFile_79
    · rw [if_neg c37] at h
      refine lv_aload_n hx hb dX4_readNewFile_40 rfl (lv_at hl 0 rfl) ?_
      refine lv_iconst (v := (1 : Int32)) hx hb dX4_readNewFile_41 (by decide) ?_
      obtain ⟨u42, i42, h⟩ := Option.bind_eq_some_iff.mp h
      obtain ⟨q42, e42, h⟩ := Option.bind_eq_some_iff.mp h
      refine g_cVi (As := [.int (1 : Int32)]) (rest := []) (n := 1) hx hb hml hown hts hK hlo hG (m_X4_fail l dd cT lo G22 a0 (1 : Int32) e42) qM_X4_97 qI_yX4_fail qS_X4_yX4_fail qN_X4 qC_yX4_fail (by decide +kernel) ⟨Nat.le_of_ble_eq_true rfl, Nat.le_of_ble_eq_true rfl⟩ (by rfl) i42 rfl hl.1 rfl (Nat.le_of_ble_eq_true rfl) dX4_readNewFile_42 ⟨Nat.le_of_ble_eq_true rfl, Nat.le_of_ble_eq_true rfl⟩ (fun H locs hG => ?_)
      obtain ⟨w45, e45, h⟩ := Option.bind_eq_some_iff.mp h
      obtain ⟨n45, rfl⟩ := g_z_nar e45
      obtain ⟨rfl, rfl⟩ := Prod.mk.inj (Option.some.inj h)
      exact g_zret hx hb hr hlocks hK hlo hG n45 ⟨rfl, rfl⟩ dX4_readNewFile_45
  · rw [if_neg c6] at h
    refine lv_aload_n hx hb dX4_readNewFile_9 rfl (lv_at hl 0 rfl) ?_
    refine lv_iconst (v := (5 : Int32)) hx hb dX4_readNewFile_10 (by decide) ?_
    obtain ⟨u11, i11, h⟩ := Option.bind_eq_some_iff.mp h
    obtain ⟨q11, e11, h⟩ := Option.bind_eq_some_iff.mp h
    refine g_cVi (As := [.int (5 : Int32)]) (rest := []) (n := 1) hx hb hml hown hts hK hlo hG (m_X4_fail l dd cT lo G a0 (5 : Int32) e11) qM_X4_97 qI_yX4_fail qS_X4_yX4_fail qN_X4 qC_yX4_fail (by decide +kernel) ⟨Nat.le_of_ble_eq_true rfl, Nat.le_of_ble_eq_true rfl⟩ (by rfl) i11 rfl hl.1 rfl (Nat.le_of_ble_eq_true rfl) dX4_readNewFile_11 ⟨Nat.le_of_ble_eq_true rfl, Nat.le_of_ble_eq_true rfl⟩ (fun H locs hG => ?_)
    obtain ⟨w14, e14, h⟩ := Option.bind_eq_some_iff.mp h
    obtain ⟨n14, rfl⟩ := g_z_nar e14
    obtain ⟨rfl, rfl⟩ := Prod.mk.inj (Option.some.inj h)
    exact g_zret hx hb hr hlocks hK hlo hG n14 ⟨rfl, rfl⟩ dX4_readNewFile_14
set_option maxRecDepth 20000 in
set_option maxHeartbeats 4000000 in
theorem m_X4_add (l : Launch) (dd : va_G) (cT : Nat → ClassId) (lo : Nat → Prop) (G : gH) (a0 : Nat) (x1 : Int32) (x2 : Int32) (x3 : Int32) {rz : Int32} {Gz : gH} (h : f_X4_add G a0 x1 x2 x3 = some (Gz, rz)) : Met l yX4_add (Cond.code yX4_add cX4_add 4 (some .boolean) :: wsL_law) (g_rm 1 22 0 0) (va_Pc [.ref a0, .int x1, .int x2, .int x3] (g_Pre lo dd cT G)) (va_Qi (g_is rz Gz) (g_Pre lo dd cT) (g_A lo)) 0 0 (g_A lo) := by
  refine g_start RX4 rfl (by decide) (Nat.le_of_ble_eq_true rfl) ?_
  intro p e s m below meth c hx hb hr hlocks hml hown hnm hts hK hG hlo ls hl
  have hl : lv_has ls 4 [(0, .ref a0), (1, .int x1), (2, .int x2), (3, .int x3)] := hl
  have hG : g_S lo dd cT s s.heap [] G := hG
  unfold f_X4_add at h
  refine lv_aload_n hx hb dX4_add_0 rfl (lv_at hl 0 rfl) ?_
  obtain ⟨v1, e1, h⟩ := Option.bind_eq_some_iff.mp h
  refine g_getr hx hb hts inlX4 hown hK hG (by rfl) 7 (by decide) qF_X4_34 e1 dX4_add_1 ?_
  refine lv_aload_n hx hb dX4_add_4 rfl (lv_at hl 0 rfl) ?_
  obtain ⟨v5, e5, h⟩ := Option.bind_eq_some_iff.mp h
  refine g_geti hx hb hts inlX4 hown hK hG (by rfl) 6 (by decide) qF_X4_31 e5 dX4_add_5 ?_
  refine lv_iload_n hx hb dX4_add_8 rfl (lv_at hl 1 rfl) ?_
  obtain ⟨G9, e9, h⟩ := Option.bind_eq_some_iff.mp h
  refine g_cNv (As := [.ref v1, .int v5, .int x1]) (rest := []) (n := 3) hx hb hml hown hts hK hlo hG (m_X9_put l dd cT lo G v1 v5 x1 e9) (List.mem_of_getElem? (i := 39) rfl) qT_yX9_put qN_X9 qC_yX9_put (by decide +kernel) ⟨Nat.le_of_ble_eq_true rfl, Nat.le_of_ble_eq_true rfl⟩ rfl hl.1 rfl (Nat.le_of_ble_eq_true rfl) dX4_add_9 ⟨Nat.le_of_ble_eq_true rfl, Nat.le_of_ble_eq_true rfl⟩ (fun H locs hG => ?_)
  refine lv_aload_n hx hb dX4_add_12 rfl (lv_at hl 0 rfl) ?_
  obtain ⟨v13, e13, h⟩ := Option.bind_eq_some_iff.mp h
  refine g_getr hx hb hts inlX4 hown hK hG (by rfl) 8 (by decide) qF_X4_38 e13 dX4_add_13 ?_
  refine lv_aload_n hx hb dX4_add_16 rfl (lv_at hl 0 rfl) ?_
  obtain ⟨v17, e17, h⟩ := Option.bind_eq_some_iff.mp h
  refine g_geti hx hb hts inlX4 hown hK hG (by rfl) 6 (by decide) qF_X4_31 e17 dX4_add_17 ?_
  refine lv_iload_n hx hb dX4_add_20 rfl (lv_at hl 2 rfl) ?_
  obtain ⟨G21, e21, h⟩ := Option.bind_eq_some_iff.mp h
  refine g_cNv (As := [.ref v13, .int v17, .int x2]) (rest := []) (n := 3) hx hb hml hown hts hK hlo hG (m_X9_put l dd cT lo G9 v13 v17 x2 e21) (List.mem_of_getElem? (i := 39) rfl) qT_yX9_put qN_X9 qC_yX9_put (by decide +kernel) ⟨Nat.le_of_ble_eq_true rfl, Nat.le_of_ble_eq_true rfl⟩ rfl hl.1 rfl (Nat.le_of_ble_eq_true rfl) dX4_add_21 ⟨Nat.le_of_ble_eq_true rfl, Nat.le_of_ble_eq_true rfl⟩ (fun H locs hG => ?_)
  refine lv_aload_n hx hb dX4_add_24 rfl (lv_at hl 0 rfl) ?_
  obtain ⟨v25, e25, h⟩ := Option.bind_eq_some_iff.mp h
  refine g_getr hx hb hts inlX4 hown hK hG (by rfl) 9 (by decide) qF_X4_41 e25 dX4_add_25 ?_
  refine lv_aload_n hx hb dX4_add_28 rfl (lv_at hl 0 rfl) ?_
  obtain ⟨v29, e29, h⟩ := Option.bind_eq_some_iff.mp h
  refine g_geti hx hb hts inlX4 hown hK hG (by rfl) 6 (by decide) qF_X4_31 e29 dX4_add_29 ?_
  refine lv_iload_n hx hb dX4_add_32 rfl (lv_at hl 3 rfl) ?_
  obtain ⟨G33, e33, h⟩ := Option.bind_eq_some_iff.mp h
  refine g_cNv (As := [.ref v25, .int v29, .int x3]) (rest := []) (n := 3) hx hb hml hown hts hK hlo hG (m_X9_put l dd cT lo G21 v25 v29 x3 e33) (List.mem_of_getElem? (i := 39) rfl) qT_yX9_put qN_X9 qC_yX9_put (by decide +kernel) ⟨Nat.le_of_ble_eq_true rfl, Nat.le_of_ble_eq_true rfl⟩ rfl hl.1 rfl (Nat.le_of_ble_eq_true rfl) dX4_add_33 ⟨Nat.le_of_ble_eq_true rfl, Nat.le_of_ble_eq_true rfl⟩ (fun H locs hG => ?_)
  refine lv_aload_n hx hb dX4_add_36 rfl (lv_at hl 0 rfl) ?_
  refine lv_dup hx hb dX4_add_37 rfl ?_
  obtain ⟨v38, e38, h⟩ := Option.bind_eq_some_iff.mp h
  refine g_geti hx hb hts inlX4 hown hK hG (by rfl) 6 (by decide) qF_X4_31 e38 dX4_add_38 ?_
  refine lv_iconst (v := (1 : Int32)) hx hb dX4_add_41 (by decide) ?_
  refine lv_iadd hx hb dX4_add_42 ?_
  obtain ⟨G43, i43, h⟩ := Option.bind_eq_some_iff.mp h
  refine g_putv hx hb hts inlX4 tyX4 tyX4_ok nmX4 hown hK hG (by rfl) 6 (by decide) qF_X4_31 rfl rfl rfl rfl i43 dX4_add_43 (fun H locs hG => ?_)
  refine lv_iconst (v := (1 : Int32)) hx hb dX4_add_46 (by decide) ?_
  obtain ⟨rfl, rfl⟩ := Prod.mk.inj (Option.some.inj h)
  exact g_zret hx hb hr hlocks hK hlo hG rfl ⟨rfl, rfl⟩ dX4_add_47
set_option maxRecDepth 20000 in
set_option maxHeartbeats 4000000 in
theorem m_X4_isWord (l : Launch) (dd : va_G) (cT : Nat → ClassId) (lo : Nat → Prop) (G : gH) (a0 : Nat) (s1 : Nat) {rz : Int32} (h : f_X4_isWord G a0 s1 = some rz) : Met l yX4_isWord (Cond.code yX4_isWord cX4_isWord 2 (some .boolean) :: wsL_law) (g_rm 6 134 0 0) (va_Pc [.ref a0, .ref (dd.2 100 s1)] (g_Pre lo dd cT G)) (va_Qi (g_is rz G) (g_Pre lo dd cT) (g_A lo)) 0 0 (g_A lo) := by
  refine g_start RX4 rfl (by decide) (Nat.le_of_ble_eq_true rfl) ?_
  intro p e s m below meth c hx hb hr hlocks hml hown hnm hts hK hG hlo ls hl
  have hl : lv_has ls 2 [(0, .ref a0), (1, .ref (dd.2 100 s1))] := hl
  have hG : g_S lo dd cT s s.heap [] G := hG
  unfold f_X4_isWord at h
  refine lv_aload_n hx hb dX4_isWord_0 rfl (lv_at hl 0 rfl) ?_
  obtain ⟨v1, e1, h⟩ := Option.bind_eq_some_iff.mp h
  refine g_getr hx hb hts inlX4 hown hK hG (by rfl) 13 (by decide) qF_X4_57 e1 dX4_isWord_1 ?_
  refine lv_aload_n hx hb dX4_isWord_4 rfl (lv_at hl 0 rfl) ?_
  obtain ⟨v5, e5, h⟩ := Option.bind_eq_some_iff.mp h
  refine g_geti hx hb hts inlX4 hown hK hG (by rfl) 14 (by decide) qF_X4_61 e5 dX4_isWord_5 ?_
  obtain ⟨u8, i8, h⟩ := Option.bind_eq_some_iff.mp h
  obtain ⟨v8, e8, h⟩ := Option.bind_eq_some_iff.mp h
  refine g_cVi (As := [.int v5]) (rest := []) (n := 1) hx hb hml hown hts hK hlo hG (m_X11_kindOf l dd cT lo G v1 v5 e8) qM_X4_147 qI_yX11_kindOf qS_X11_yX11_kindOf qN_X11 qC_yX11_kindOf (by decide +kernel) ⟨Nat.le_of_ble_eq_true rfl, Nat.le_of_ble_eq_true rfl⟩ (by rfl) i8 rfl hl.1 rfl (Nat.le_of_ble_eq_true rfl) dX4_isWord_8 ⟨Nat.le_of_ble_eq_true rfl, Nat.le_of_ble_eq_true rfl⟩ (fun H locs hG => ?_)
  refine lv_iconst (v := (1 : Int32)) hx hb dX4_isWord_11 (by decide) ?_
  refine lv_icmp_ne (tgt := 38) hx hb dX4_isWord_12 (by decide) (fun c12 => ?_) (fun c12 => ?_)
  · rw [if_neg c12] at h
    refine lv_iconst (v := (0 : Int32)) hx hb dX4_isWord_38 (by decide) ?_
    obtain rfl := Option.some.inj h
    exact g_zret hx hb hr hlocks hK hlo hG rfl ⟨rfl, rfl⟩ dX4_isWord_39
  · rw [if_pos c12] at h
    refine lv_aload_n hx hb dX4_isWord_15 rfl (lv_at hl 0 rfl) ?_
    obtain ⟨v16, e16, h⟩ := Option.bind_eq_some_iff.mp h
    refine g_getr hx hb hts inlX4 hown hK hG (by rfl) 13 (by decide) qF_X4_57 e16 dX4_isWord_16 ?_
    refine lv_aload_n hx hb dX4_isWord_19 rfl (lv_at hl 0 rfl) ?_
    obtain ⟨v20, e20, h⟩ := Option.bind_eq_some_iff.mp h
    refine g_geti hx hb hts inlX4 hown hK hG (by rfl) 14 (by decide) qF_X4_61 e20 dX4_isWord_20 ?_
    obtain ⟨u23, i23, h⟩ := Option.bind_eq_some_iff.mp h
    obtain ⟨v23, e23, h⟩ := Option.bind_eq_some_iff.mp h
    refine g_cVj (As := [.int v20]) (rest := []) (n := 1) hx hb hml hown hts hK hlo hG (m_X11_valueOf l dd cT lo G v16 v20 e23) qM_X4_150 qI_yX11_valueOf qS_X11_yX11_valueOf qN_X11 qC_yX11_valueOf (by decide +kernel) ⟨Nat.le_of_ble_eq_true rfl, Nat.le_of_ble_eq_true rfl⟩ (by rfl) i23 rfl hl.1 rfl (Nat.le_of_ble_eq_true rfl) dX4_isWord_23 ⟨Nat.le_of_ble_eq_true rfl, Nat.le_of_ble_eq_true rfl⟩ (fun H locs hG => ?_)
    refine lv_aload_n hx hb dX4_isWord_26 rfl (lv_at hl 1 rfl) ?_
    obtain ⟨v27, e27, h⟩ := Option.bind_eq_some_iff.mp h
    refine g_cNj (As := [.ref (dd.2 100 s1)]) (rest := [.long v23]) (n := 1) hx hb hml hown hts hK hlo hG (m_X9_packed l dd cT lo G s1 e27) (List.mem_of_getElem? (i := 40) rfl) qT_yX9_packed qN_X9 qC_yX9_packed (by decide +kernel) ⟨Nat.le_of_ble_eq_true rfl, Nat.le_of_ble_eq_true rfl⟩ rfl hl.1 rfl (Nat.le_of_ble_eq_true rfl) dX4_isWord_27 ⟨Nat.le_of_ble_eq_true rfl, Nat.le_of_ble_eq_true rfl⟩ (fun H locs hG => ?_)
    refine W.lcmp hx hb dX4_isWord_30 ?_
    refine lv_if_ne (tgt := 38) hx hb dX4_isWord_31 (by decide) (fun c31 => ?_) (fun c31 => ?_)
    · rw [if_neg c31] at h
      refine lv_iconst (v := (0 : Int32)) hx hb dX4_isWord_38 (by decide) ?_
      obtain rfl := Option.some.inj h
      exact g_zret hx hb hr hlocks hK hlo hG rfl ⟨rfl, rfl⟩ dX4_isWord_39
    · rw [if_pos c31] at h
      refine lv_iconst (v := (1 : Int32)) hx hb dX4_isWord_34 (by decide) ?_
      refine lv_goto (tgt := 39) hx hb dX4_isWord_35 (by decide) ?_
      obtain rfl := Option.some.inj h
      exact g_zret hx hb hr hlocks hK hlo hG rfl ⟨rfl, rfl⟩ dX4_isWord_39
set_option maxRecDepth 20000 in
set_option maxHeartbeats 4000000 in
theorem m_X4_readFile (l : Launch) (dd : va_G) (cT : Nat → ClassId) (lo : Nat → Prop) (G : gH) (a0 : Nat) {rz : Int32} {Gz : gH} (h : f_X4_readFile G a0 = some (Gz, rz)) : Met l yX4_readFile (Cond.code yX4_readFile cX4_readFile 2 (some .int) :: wsL_law) (g_rm 2 44 0 0) (va_Pc [.ref a0] (g_Pre lo dd cT G)) (va_Qi (g_is rz Gz) (g_Pre lo dd cT) (g_A lo)) 0 0 (g_A lo) := by
  refine g_start RX4 rfl (by decide) (Nat.le_of_ble_eq_true rfl) ?_
  intro p e s m below meth c hx hb hr hlocks hml hown hnm hts hK hG hlo ls hl
  have hl : lv_has ls 2 [(0, .ref a0)] := hl
  have hG : g_S lo dd cT s s.heap [] G := hG
  unfold f_X4_readFile at h
  refine lv_aload_n hx hb dX4_readFile_0 rfl (lv_at hl 0 rfl) ?_
  refine lv_dup hx hb dX4_readFile_1 rfl ?_
  obtain ⟨v2, e2, h⟩ := Option.bind_eq_some_iff.mp h
  refine g_geti hx hb hts inlX4 hown hK hG (by rfl) 14 (by decide) qF_X4_61 e2 dX4_readFile_2 ?_
  refine lv_iconst (v := (1 : Int32)) hx hb dX4_readFile_5 (by decide) ?_
  refine lv_iadd hx hb dX4_readFile_6 ?_
  obtain ⟨G7, i7, h⟩ := Option.bind_eq_some_iff.mp h
  refine g_putv hx hb hts inlX4 tyX4 tyX4_ok nmX4 hown hK hG (by rfl) 14 (by decide) qF_X4_61 rfl rfl rfl rfl i7 dX4_readFile_7 (fun H locs hG => ?_)
  refine lv_aload_n hx hb dX4_readFile_10 rfl (lv_at hl 0 rfl) ?_
  obtain ⟨v11, e11, h⟩ := Option.bind_eq_some_iff.mp h
  refine g_getr hx hb hts inlX4 hown hK hG (by rfl) 13 (by decide) qF_X4_57 e11 dX4_readFile_11 ?_
  refine lv_aload_n hx hb dX4_readFile_14 rfl (lv_at hl 0 rfl) ?_
  obtain ⟨v15, e15, h⟩ := Option.bind_eq_some_iff.mp h
  refine g_geti hx hb hts inlX4 hown hK hG (by rfl) 14 (by decide) qF_X4_61 e15 dX4_readFile_15 ?_
  obtain ⟨u18, i18, h⟩ := Option.bind_eq_some_iff.mp h
  obtain ⟨v18, e18, h⟩ := Option.bind_eq_some_iff.mp h
  refine g_cVi (As := [.int v15]) (rest := []) (n := 1) hx hb hml hown hts hK hlo hG (m_X11_kindOf l dd cT lo G7 v11 v15 e18) qM_X4_147 qI_yX11_kindOf qS_X11_yX11_kindOf qN_X11 qC_yX11_kindOf (by decide +kernel) ⟨Nat.le_of_ble_eq_true rfl, Nat.le_of_ble_eq_true rfl⟩ (by rfl) i18 rfl hl.1 rfl (Nat.le_of_ble_eq_true rfl) dX4_readFile_18 ⟨Nat.le_of_ble_eq_true rfl, Nat.le_of_ble_eq_true rfl⟩ (fun H locs hG => ?_)
  refine lv_iconst (v := (1 : Int32)) hx hb dX4_readFile_21 (by decide) ?_
  refine lv_icmp_eq (tgt := 33) hx hb dX4_readFile_22 (by decide) (fun c22 => ?_) (fun c22 => ?_)
  · rw [if_pos c22] at h
    refine lv_aload_n hx hb dX4_readFile_33 rfl (lv_at hl 0 rfl) ?_
    obtain ⟨v34, e34, h⟩ := Option.bind_eq_some_iff.mp h
    refine g_getr hx hb hts inlX4 hown hK hG (by rfl) 5 (by decide) qF_X4_27 e34 dX4_readFile_34 ?_
    refine lv_aload_n hx hb dX4_readFile_37 rfl (lv_at hl 0 rfl) ?_
    obtain ⟨v38, e38, h⟩ := Option.bind_eq_some_iff.mp h
    refine g_geti hx hb hts inlX4 hown hK hG (by rfl) 4 (by decide) qF_X4_24 e38 dX4_readFile_38 ?_
    refine lv_aload_n hx hb dX4_readFile_41 rfl (lv_at hl 0 rfl) ?_
    obtain ⟨v42, e42, h⟩ := Option.bind_eq_some_iff.mp h
    refine g_getr hx hb hts inlX4 hown hK hG (by rfl) 13 (by decide) qF_X4_57 e42 dX4_readFile_42 ?_
    refine lv_aload_n hx hb dX4_readFile_45 rfl (lv_at hl 0 rfl) ?_
    obtain ⟨v46, e46, h⟩ := Option.bind_eq_some_iff.mp h
    refine g_geti hx hb hts inlX4 hown hK hG (by rfl) 14 (by decide) qF_X4_61 e46 dX4_readFile_46 ?_
    obtain ⟨u49, i49, h⟩ := Option.bind_eq_some_iff.mp h
    obtain ⟨v49, e49, h⟩ := Option.bind_eq_some_iff.mp h
    refine g_cVj (As := [.int v46]) (rest := [.int v38, .ref v34]) (n := 1) hx hb hml hown hts hK hlo hG (m_X11_valueOf l dd cT lo G7 v42 v46 e49) qM_X4_150 qI_yX11_valueOf qS_X11_yX11_valueOf qN_X11 qC_yX11_valueOf (by decide +kernel) ⟨Nat.le_of_ble_eq_true rfl, Nat.le_of_ble_eq_true rfl⟩ (by rfl) i49 rfl hl.1 rfl (Nat.le_of_ble_eq_true rfl) dX4_readFile_49 ⟨Nat.le_of_ble_eq_true rfl, Nat.le_of_ble_eq_true rfl⟩ (fun H locs hG => ?_)
    obtain ⟨v52, e52, h⟩ := Option.bind_eq_some_iff.mp h
    refine g_cNi (As := [.ref v34, .int v38, .long v49]) (rest := []) (n := 3) hx hb hml hown hts hK hlo hG (m_X9_indexOf l dd cT lo G7 v34 v38 v49 e52) (List.mem_of_getElem? (i := 37) rfl) qT_yX9_indexOf qN_X9 qC_yX9_indexOf (by decide +kernel) ⟨Nat.le_of_ble_eq_true rfl, Nat.le_of_ble_eq_true rfl⟩ rfl hl.1 rfl (Nat.le_of_ble_eq_true rfl) dX4_readFile_52 ⟨Nat.le_of_ble_eq_true rfl, Nat.le_of_ble_eq_true rfl⟩ (fun H locs hG => ?_)
    refine lv_istore_n (lv' := [(1, .int v52), (0, .ref a0)]) hx hb dX4_readFile_55 rfl hl (by decide) rfl (fun ls hl => ?_)
    refine lv_iload_n hx hb dX4_readFile_56 rfl (lv_at hl 0 rfl) ?_
    refine lv_iconst (v := (-1 : Int32)) hx hb dX4_readFile_57 (by decide) ?_
    refine lv_icmp_ne (tgt := 67) hx hb dX4_readFile_58 (by decide) (fun c58 => ?_) (fun c58 => ?_)
    · rw [if_neg c58] at h
      refine lv_iload_n hx hb dX4_readFile_67 rfl (lv_at hl 0 rfl) ?_
      obtain ⟨rfl, rfl⟩ := Prod.mk.inj (Option.some.inj h)
      exact g_iret hx hb hr hlocks hK hlo hG ⟨rfl, rfl⟩ dX4_readFile_68
    · rw [if_pos c58] at h
      refine lv_aload_n hx hb dX4_readFile_61 rfl (lv_at hl 1 rfl) ?_
      refine lv_iconst (v := (4 : Int32)) hx hb dX4_readFile_62 (by decide) ?_
      obtain ⟨u63, i63, h⟩ := Option.bind_eq_some_iff.mp h
      obtain ⟨q63, e63, h⟩ := Option.bind_eq_some_iff.mp h
      refine g_cVi (As := [.int (4 : Int32)]) (rest := []) (n := 1) hx hb hml hown hts hK hlo hG (m_X4_fail l dd cT lo G7 a0 (4 : Int32) e63) qM_X4_97 qI_yX4_fail qS_X4_yX4_fail qN_X4 qC_yX4_fail (by decide +kernel) ⟨Nat.le_of_ble_eq_true rfl, Nat.le_of_ble_eq_true rfl⟩ (by rfl) i63 rfl hl.1 rfl (Nat.le_of_ble_eq_true rfl) dX4_readFile_63 ⟨Nat.le_of_ble_eq_true rfl, Nat.le_of_ble_eq_true rfl⟩ (fun H locs hG => ?_)
      refine lv_pop hx hb dX4_readFile_66 rfl ?_
      refine lv_iload_n hx hb dX4_readFile_67 rfl (lv_at hl 0 rfl) ?_
      obtain ⟨rfl, rfl⟩ := Prod.mk.inj (Option.some.inj h)
      exact g_iret hx hb hr hlocks hK hlo hG ⟨rfl, rfl⟩ dX4_readFile_68
  · rw [if_neg c22] at h
    refine lv_aload_n hx hb dX4_readFile_25 rfl (lv_at hl 0 rfl) ?_
    refine lv_iconst (v := (1 : Int32)) hx hb dX4_readFile_26 (by decide) ?_
    obtain ⟨u27, i27, h⟩ := Option.bind_eq_some_iff.mp h
    obtain ⟨q27, e27, h⟩ := Option.bind_eq_some_iff.mp h
    refine g_cVi (As := [.int (1 : Int32)]) (rest := []) (n := 1) hx hb hml hown hts hK hlo hG (m_X4_fail l dd cT lo G7 a0 (1 : Int32) e27) qM_X4_97 qI_yX4_fail qS_X4_yX4_fail qN_X4 qC_yX4_fail (by decide +kernel) ⟨Nat.le_of_ble_eq_true rfl, Nat.le_of_ble_eq_true rfl⟩ (by rfl) i27 rfl hl.1 rfl (Nat.le_of_ble_eq_true rfl) dX4_readFile_27 ⟨Nat.le_of_ble_eq_true rfl, Nat.le_of_ble_eq_true rfl⟩ (fun H locs hG => ?_)
    refine lv_pop hx hb dX4_readFile_30 rfl ?_
    refine lv_iconst (v := (-1 : Int32)) hx hb dX4_readFile_31 (by decide) ?_
    obtain ⟨rfl, rfl⟩ := Prod.mk.inj (Option.some.inj h)
    exact g_iret hx hb hr hlocks hK hlo hG ⟨rfl, rfl⟩ dX4_readFile_32
set_option maxRecDepth 20000 in
set_option maxHeartbeats 4000000 in
theorem m_X4_readNumber (l : Launch) (dd : va_G) (cT : Nat → ClassId) (lo : Nat → Prop) (G : gH) (a0 : Nat) (x1 : Int32) (x2 : Int32) {rz : Int32} {Gz : gH} (h : f_X4_readNumber G a0 x1 x2 = some (Gz, rz)) : Met l yX4_readNumber (Cond.code yX4_readNumber cX4_readNumber 4 (some .boolean) :: wsL_law) (g_rm 2 44 0 0) (va_Pc [.ref a0, .int x1, .int x2] (g_Pre lo dd cT G)) (va_Qi (g_is rz Gz) (g_Pre lo dd cT) (g_A lo)) 0 0 (g_A lo) := by
  refine g_start RX4 rfl (by decide) (Nat.le_of_ble_eq_true rfl) ?_
  intro p e s m below meth c hx hb hr hlocks hml hown hnm hts hK hG hlo ls hl
  have hl : lv_has ls 4 [(0, .ref a0), (1, .int x1), (2, .int x2)] := hl
  have hG : g_S lo dd cT s s.heap [] G := hG
  have h53 : ∀ (G : gH) (ba0 : Nat), ∀ (H : Heap) (locs : List Loc), g_S lo dd cT s H locs G → ∀ ls : Array Slot, lv_has ls 4 [(0, .ref ba0)] → f_X4_readNumber_J53 G ba0 = some (Gz, rz) → W p l e (g_rm 2 44 0 0) s m ([.ref a0, .int x1, .int x2] : List Value).toArray below meth c H locs 0 0 (MQ below (va_Qi (g_is rz Gz) (g_Pre lo dd cT) (g_A lo)) ([.ref a0, .int x1, .int x2] : List Value).toArray s 0 0 (g_A lo)) (F0 m 53 ls []) := by
    intro G ba0 H locs hG ls hl h
    unfold f_X4_readNumber_J53 at h
    refine lv_aload_n hx hb dX4_readNumber_53 rfl (lv_at hl 0 rfl) ?_
    refine lv_iconst (v := (3 : Int32)) hx hb dX4_readNumber_54 (by decide) ?_
    obtain ⟨u55, i55, h⟩ := Option.bind_eq_some_iff.mp h
    obtain ⟨q55, e55, h⟩ := Option.bind_eq_some_iff.mp h
    refine g_cVi (As := [.int (3 : Int32)]) (rest := []) (n := 1) hx hb hml hown hts hK hlo hG (m_X4_fail l dd cT lo G ba0 (3 : Int32) e55) qM_X4_97 qI_yX4_fail qS_X4_yX4_fail qN_X4 qC_yX4_fail (by decide +kernel) ⟨Nat.le_of_ble_eq_true rfl, Nat.le_of_ble_eq_true rfl⟩ (by rfl) i55 rfl hl.1 rfl (Nat.le_of_ble_eq_true rfl) dX4_readNumber_55 ⟨Nat.le_of_ble_eq_true rfl, Nat.le_of_ble_eq_true rfl⟩ (fun H locs hG => ?_)
    refine lv_if_eq (tgt := 65) hx hb dX4_readNumber_58 (by decide) (fun c58 => ?_) (fun c58 => ?_)
    · rw [if_pos c58] at h
      refine lv_iconst (v := (0 : Int32)) hx hb dX4_readNumber_65 (by decide) ?_
      obtain ⟨rfl, rfl⟩ := Prod.mk.inj (Option.some.inj h)
      exact g_zret hx hb hr hlocks hK hlo hG rfl ⟨rfl, rfl⟩ dX4_readNumber_66
    · rw [if_neg c58] at h
      refine lv_iconst (v := (1 : Int32)) hx hb dX4_readNumber_61 (by decide) ?_
      refine lv_goto (tgt := 66) hx hb dX4_readNumber_62 (by decide) ?_
      obtain ⟨rfl, rfl⟩ := Prod.mk.inj (Option.some.inj h)
      exact g_zret hx hb hr hlocks hK hlo hG rfl ⟨rfl, rfl⟩ dX4_readNumber_66
  unfold f_X4_readNumber at h
  refine lv_aload_n hx hb dX4_readNumber_0 rfl (lv_at hl 0 rfl) ?_
  refine lv_dup hx hb dX4_readNumber_1 rfl ?_
  obtain ⟨v2, e2, h⟩ := Option.bind_eq_some_iff.mp h
  refine g_geti hx hb hts inlX4 hown hK hG (by rfl) 14 (by decide) qF_X4_61 e2 dX4_readNumber_2 ?_
  refine lv_iconst (v := (1 : Int32)) hx hb dX4_readNumber_5 (by decide) ?_
  refine lv_iadd hx hb dX4_readNumber_6 ?_
  obtain ⟨G7, i7, h⟩ := Option.bind_eq_some_iff.mp h
  refine g_putv hx hb hts inlX4 tyX4 tyX4_ok nmX4 hown hK hG (by rfl) 14 (by decide) qF_X4_61 rfl rfl rfl rfl i7 dX4_readNumber_7 (fun H locs hG => ?_)
  refine lv_aload_n hx hb dX4_readNumber_10 rfl (lv_at hl 0 rfl) ?_
  obtain ⟨v11, e11, h⟩ := Option.bind_eq_some_iff.mp h
  refine g_getr hx hb hts inlX4 hown hK hG (by rfl) 13 (by decide) qF_X4_57 e11 dX4_readNumber_11 ?_
  refine lv_aload_n hx hb dX4_readNumber_14 rfl (lv_at hl 0 rfl) ?_
  obtain ⟨v15, e15, h⟩ := Option.bind_eq_some_iff.mp h
  refine g_geti hx hb hts inlX4 hown hK hG (by rfl) 14 (by decide) qF_X4_61 e15 dX4_readNumber_15 ?_
  obtain ⟨u18, i18, h⟩ := Option.bind_eq_some_iff.mp h
  obtain ⟨v18, e18, h⟩ := Option.bind_eq_some_iff.mp h
  refine g_cVi (As := [.int v15]) (rest := []) (n := 1) hx hb hml hown hts hK hlo hG (m_X11_kindOf l dd cT lo G7 v11 v15 e18) qM_X4_147 qI_yX11_kindOf qS_X11_yX11_kindOf qN_X11 qC_yX11_kindOf (by decide +kernel) ⟨Nat.le_of_ble_eq_true rfl, Nat.le_of_ble_eq_true rfl⟩ (by rfl) i18 rfl hl.1 rfl (Nat.le_of_ble_eq_true rfl) dX4_readNumber_18 ⟨Nat.le_of_ble_eq_true rfl, Nat.le_of_ble_eq_true rfl⟩ (fun H locs hG => ?_)
  refine lv_iconst (v := (2 : Int32)) hx hb dX4_readNumber_21 (by decide) ?_
  refine lv_icmp_eq (tgt := 31) hx hb dX4_readNumber_22 (by decide) (fun c22 => ?_) (fun c22 => ?_)
  · rw [if_pos c22] at h
    refine lv_aload_n hx hb dX4_readNumber_31 rfl (lv_at hl 0 rfl) ?_
    obtain ⟨v32, e32, h⟩ := Option.bind_eq_some_iff.mp h
    refine g_getr hx hb hts inlX4 hown hK hG (by rfl) 13 (by decide) qF_X4_57 e32 dX4_readNumber_32 ?_
    refine lv_aload_n hx hb dX4_readNumber_35 rfl (lv_at hl 0 rfl) ?_
    obtain ⟨v36, e36, h⟩ := Option.bind_eq_some_iff.mp h
    refine g_geti hx hb hts inlX4 hown hK hG (by rfl) 14 (by decide) qF_X4_61 e36 dX4_readNumber_36 ?_
    obtain ⟨u39, i39, h⟩ := Option.bind_eq_some_iff.mp h
    obtain ⟨v39, e39, h⟩ := Option.bind_eq_some_iff.mp h
    refine g_cVi (As := [.int v36]) (rest := []) (n := 1) hx hb hml hown hts hK hlo hG (m_X11_numberOf l dd cT lo G7 v32 v36 e39) qM_X4_105 qI_yX11_numberOf qS_X11_yX11_numberOf qN_X11 qC_yX11_numberOf (by decide +kernel) ⟨Nat.le_of_ble_eq_true rfl, Nat.le_of_ble_eq_true rfl⟩ (by rfl) i39 rfl hl.1 rfl (Nat.le_of_ble_eq_true rfl) dX4_readNumber_39 ⟨Nat.le_of_ble_eq_true rfl, Nat.le_of_ble_eq_true rfl⟩ (fun H locs hG => ?_)
    refine lv_istore_n (lv' := [(3, .int v39), (0, .ref a0), (1, .int x1), (2, .int x2)]) hx hb dX4_readNumber_42 rfl hl (by decide) rfl (fun ls hl => ?_)
    refine lv_iload_n hx hb dX4_readNumber_43 rfl (lv_at hl 0 rfl) ?_
    refine lv_iload_n hx hb dX4_readNumber_44 rfl (lv_at hl 2 rfl) ?_
    refine lv_icmp_lt (tgt := 53) hx hb dX4_readNumber_45 (by decide) (fun c45 => ?_) (fun c45 => ?_)
    · rw [if_pos c45] at h
      exact h53 G7 a0 _ _ hG _ (lv_sub hl [1] rfl) h
    · rw [if_neg c45] at h
      refine lv_iload_n hx hb dX4_readNumber_48 rfl (lv_at hl 0 rfl) ?_
      refine lv_iload_n hx hb dX4_readNumber_49 rfl (lv_at hl 3 rfl) ?_
      refine lv_icmp_le (tgt := 61) hx hb dX4_readNumber_50 (by decide) (fun c50 => ?_) (fun c50 => ?_)
      · rw [if_pos c50] at h
        refine lv_iconst (v := (1 : Int32)) hx hb dX4_readNumber_61 (by decide) ?_
        refine lv_goto (tgt := 66) hx hb dX4_readNumber_62 (by decide) ?_
        obtain ⟨rfl, rfl⟩ := Prod.mk.inj (Option.some.inj h)
        exact g_zret hx hb hr hlocks hK hlo hG rfl ⟨rfl, rfl⟩ dX4_readNumber_66
      · rw [if_neg c50] at h
        exact h53 G7 a0 _ _ hG _ (lv_sub hl [1] rfl) h
  · rw [if_neg c22] at h
    refine lv_aload_n hx hb dX4_readNumber_25 rfl (lv_at hl 0 rfl) ?_
    refine lv_iconst (v := (1 : Int32)) hx hb dX4_readNumber_26 (by decide) ?_
    obtain ⟨u27, i27, h⟩ := Option.bind_eq_some_iff.mp h
    obtain ⟨q27, e27, h⟩ := Option.bind_eq_some_iff.mp h
    refine g_cVi (As := [.int (1 : Int32)]) (rest := []) (n := 1) hx hb hml hown hts hK hlo hG (m_X4_fail l dd cT lo G7 a0 (1 : Int32) e27) qM_X4_97 qI_yX4_fail qS_X4_yX4_fail qN_X4 qC_yX4_fail (by decide +kernel) ⟨Nat.le_of_ble_eq_true rfl, Nat.le_of_ble_eq_true rfl⟩ (by rfl) i27 rfl hl.1 rfl (Nat.le_of_ble_eq_true rfl) dX4_readNumber_27 ⟨Nat.le_of_ble_eq_true rfl, Nat.le_of_ble_eq_true rfl⟩ (fun H locs hG => ?_)
    obtain ⟨w30, e30, h⟩ := Option.bind_eq_some_iff.mp h
    obtain ⟨n30, rfl⟩ := g_z_nar e30
    obtain ⟨rfl, rfl⟩ := Prod.mk.inj (Option.some.inj h)
    exact g_zret hx hb hr hlocks hK hlo hG n30 ⟨rfl, rfl⟩ dX4_readNumber_30
set_option maxRecDepth 20000 in
set_option maxHeartbeats 4000000 in
theorem m_X4_readSemicolon (l : Launch) (dd : va_G) (cT : Nat → ClassId) (lo : Nat → Prop) (G : gH) (a0 : Nat) {rz : Int32} {Gz : gH} (h : f_X4_readSemicolon G a0 = some (Gz, rz)) : Met l yX4_readSemicolon (Cond.code yX4_readSemicolon cX4_readSemicolon 1 (some .boolean) :: wsL_law) (g_rm 2 43 0 0) (va_Pc [.ref a0] (g_Pre lo dd cT G)) (va_Qi (g_is rz Gz) (g_Pre lo dd cT) (g_A lo)) 0 0 (g_A lo) := by
  refine g_start RX4 rfl (by decide) (Nat.le_of_ble_eq_true rfl) ?_
  intro p e s m below meth c hx hb hr hlocks hml hown hnm hts hK hG hlo ls hl
  have hl : lv_has ls 1 [(0, .ref a0)] := hl
  have hG : g_S lo dd cT s s.heap [] G := hG
  unfold f_X4_readSemicolon at h
  refine lv_aload_n hx hb dX4_readSemicolon_0 rfl (lv_at hl 0 rfl) ?_
  refine lv_dup hx hb dX4_readSemicolon_1 rfl ?_
  obtain ⟨v2, e2, h⟩ := Option.bind_eq_some_iff.mp h
  refine g_geti hx hb hts inlX4 hown hK hG (by rfl) 14 (by decide) qF_X4_61 e2 dX4_readSemicolon_2 ?_
  refine lv_iconst (v := (1 : Int32)) hx hb dX4_readSemicolon_5 (by decide) ?_
  refine lv_iadd hx hb dX4_readSemicolon_6 ?_
  obtain ⟨G7, i7, h⟩ := Option.bind_eq_some_iff.mp h
  refine g_putv hx hb hts inlX4 tyX4 tyX4_ok nmX4 hown hK hG (by rfl) 14 (by decide) qF_X4_61 rfl rfl rfl rfl i7 dX4_readSemicolon_7 (fun H locs hG => ?_)
  refine lv_aload_n hx hb dX4_readSemicolon_10 rfl (lv_at hl 0 rfl) ?_
  obtain ⟨v11, e11, h⟩ := Option.bind_eq_some_iff.mp h
  refine g_getr hx hb hts inlX4 hown hK hG (by rfl) 13 (by decide) qF_X4_57 e11 dX4_readSemicolon_11 ?_
  refine lv_aload_n hx hb dX4_readSemicolon_14 rfl (lv_at hl 0 rfl) ?_
  obtain ⟨v15, e15, h⟩ := Option.bind_eq_some_iff.mp h
  refine g_geti hx hb hts inlX4 hown hK hG (by rfl) 14 (by decide) qF_X4_61 e15 dX4_readSemicolon_15 ?_
  obtain ⟨u18, i18, h⟩ := Option.bind_eq_some_iff.mp h
  obtain ⟨v18, e18, h⟩ := Option.bind_eq_some_iff.mp h
  refine g_cVi (As := [.int v15]) (rest := []) (n := 1) hx hb hml hown hts hK hlo hG (m_X11_kindOf l dd cT lo G7 v11 v15 e18) qM_X4_147 qI_yX11_kindOf qS_X11_yX11_kindOf qN_X11 qC_yX11_kindOf (by decide +kernel) ⟨Nat.le_of_ble_eq_true rfl, Nat.le_of_ble_eq_true rfl⟩ (by rfl) i18 rfl hl.1 rfl (Nat.le_of_ble_eq_true rfl) dX4_readSemicolon_18 ⟨Nat.le_of_ble_eq_true rfl, Nat.le_of_ble_eq_true rfl⟩ (fun H locs hG => ?_)
  refine lv_iconst (v := (3 : Int32)) hx hb dX4_readSemicolon_21 (by decide) ?_
  refine lv_icmp_eq (tgt := 33) hx hb dX4_readSemicolon_22 (by decide) (fun c22 => ?_) (fun c22 => ?_)
  · rw [if_pos c22] at h
    refine lv_iconst (v := (1 : Int32)) hx hb dX4_readSemicolon_33 (by decide) ?_
    refine lv_goto (tgt := 38) hx hb dX4_readSemicolon_34 (by decide) ?_
    obtain ⟨rfl, rfl⟩ := Prod.mk.inj (Option.some.inj h)
    exact g_zret hx hb hr hlocks hK hlo hG rfl ⟨rfl, rfl⟩ dX4_readSemicolon_38
  · rw [if_neg c22] at h
    refine lv_aload_n hx hb dX4_readSemicolon_25 rfl (lv_at hl 0 rfl) ?_
    refine lv_iconst (v := (1 : Int32)) hx hb dX4_readSemicolon_26 (by decide) ?_
    obtain ⟨u27, i27, h⟩ := Option.bind_eq_some_iff.mp h
    obtain ⟨q27, e27, h⟩ := Option.bind_eq_some_iff.mp h
    refine g_cVi (As := [.int (1 : Int32)]) (rest := []) (n := 1) hx hb hml hown hts hK hlo hG (m_X4_fail l dd cT lo G7 a0 (1 : Int32) e27) qM_X4_97 qI_yX4_fail qS_X4_yX4_fail qN_X4 qC_yX4_fail (by decide +kernel) ⟨Nat.le_of_ble_eq_true rfl, Nat.le_of_ble_eq_true rfl⟩ (by rfl) i27 rfl hl.1 rfl (Nat.le_of_ble_eq_true rfl) dX4_readSemicolon_27 ⟨Nat.le_of_ble_eq_true rfl, Nat.le_of_ble_eq_true rfl⟩ (fun H locs hG => ?_)
    refine lv_if_eq (tgt := 37) hx hb dX4_readSemicolon_30 (by decide) (fun c30 => ?_) (fun c30 => ?_)
    · rw [if_pos c30] at h
      refine lv_iconst (v := (0 : Int32)) hx hb dX4_readSemicolon_37 (by decide) ?_
      obtain ⟨rfl, rfl⟩ := Prod.mk.inj (Option.some.inj h)
      exact g_zret hx hb hr hlocks hK hlo hG rfl ⟨rfl, rfl⟩ dX4_readSemicolon_38
    · rw [if_neg c30] at h
      refine lv_iconst (v := (1 : Int32)) hx hb dX4_readSemicolon_33 (by decide) ?_
      refine lv_goto (tgt := 38) hx hb dX4_readSemicolon_34 (by decide) ?_
      obtain ⟨rfl, rfl⟩ := Prod.mk.inj (Option.some.inj h)
      exact g_zret hx hb hr hlocks hK hlo hG rfl ⟨rfl, rfl⟩ dX4_readSemicolon_38
set_option maxRecDepth 20000 in
set_option maxHeartbeats 4000000 in
theorem m_X5_takeFrom (l : Launch) (dd : va_G) (cT : Nat → ClassId) (lo : Nat → Prop) (G : gH) (a0 : Nat) (a1 : Nat) {Gz : gH} (h : f_X5_takeFrom G a0 a1 = some Gz) : Met l yX5_takeFrom (Cond.code yX5_takeFrom cX5_takeFrom 2 none :: wsL_law) (g_rm 1 22 0 0) (va_Pc [.ref a0, .ref a1] (g_Pre lo dd cT G)) (va_Qv (g_iv Gz) (g_Pre lo dd cT) (g_A lo)) 0 0 (g_A lo) := by
  refine g_start RX5 rfl (by decide) (Nat.le_of_ble_eq_true rfl) ?_
  intro p e s m below meth c hx hb hr hlocks hml hown hnm hts hK hG hlo ls hl
  have hl : lv_has ls 2 [(0, .ref a0), (1, .ref a1)] := hl
  have hG : g_S lo dd cT s s.heap [] G := hG
  unfold f_X5_takeFrom at h
  refine lv_aload_n hx hb dX5_takeFrom_0 rfl (lv_at hl 0 rfl) ?_
  refine lv_aload_n hx hb dX5_takeFrom_1 rfl (lv_at hl 1 rfl) ?_
  obtain ⟨v2, e2, h⟩ := Option.bind_eq_some_iff.mp h
  refine g_geti hx hb hts inlX5 hown hK hG (by rfl) 0 (by decide) qF_X5_9 e2 dX5_takeFrom_2 ?_
  obtain ⟨G5, i5, h⟩ := Option.bind_eq_some_iff.mp h
  refine g_putv hx hb hts inlX5 tyX5 tyX5_ok nmX5 hown hK hG (by rfl) 0 (by decide) qF_X5_9 rfl rfl rfl rfl i5 dX5_takeFrom_5 (fun H locs hG => ?_)
  refine lv_aload_n hx hb dX5_takeFrom_8 rfl (lv_at hl 1 rfl) ?_
  obtain ⟨v9, e9, h⟩ := Option.bind_eq_some_iff.mp h
  refine g_getr hx hb hts inlX5 hown hK hG (by rfl) 1 (by decide) qF_X5_15 e9 dX5_takeFrom_9 ?_
  refine lv_aload_n hx hb dX5_takeFrom_12 rfl (lv_at hl 0 rfl) ?_
  obtain ⟨v13, e13, h⟩ := Option.bind_eq_some_iff.mp h
  refine g_getr hx hb hts inlX5 hown hK hG (by rfl) 1 (by decide) qF_X5_15 e13 dX5_takeFrom_13 ?_
  obtain ⟨G16, e16, h⟩ := Option.bind_eq_some_iff.mp h
  refine g_cNv (As := [.ref v9, .ref v13]) (rest := []) (n := 2) hx hb hml hown hts hK hlo hG (m_X9_copy l dd cT lo G5 v9 v13 e16) (List.mem_of_getElem? (i := 27) rfl) qT_yX9_copy qN_X9 qC_yX9_copy (by decide +kernel) ⟨Nat.le_of_ble_eq_true rfl, Nat.le_of_ble_eq_true rfl⟩ rfl hl.1 rfl (Nat.le_of_ble_eq_true rfl) dX5_takeFrom_16 ⟨Nat.le_of_ble_eq_true rfl, Nat.le_of_ble_eq_true rfl⟩ (fun H locs hG => ?_)
  refine lv_aload_n hx hb dX5_takeFrom_19 rfl (lv_at hl 1 rfl) ?_
  obtain ⟨v20, e20, h⟩ := Option.bind_eq_some_iff.mp h
  refine g_getr hx hb hts inlX5 hown hK hG (by rfl) 2 (by decide) qF_X5_19 e20 dX5_takeFrom_20 ?_
  refine lv_aload_n hx hb dX5_takeFrom_23 rfl (lv_at hl 0 rfl) ?_
  obtain ⟨v24, e24, h⟩ := Option.bind_eq_some_iff.mp h
  refine g_getr hx hb hts inlX5 hown hK hG (by rfl) 2 (by decide) qF_X5_19 e24 dX5_takeFrom_24 ?_
  obtain ⟨G27, e27, h⟩ := Option.bind_eq_some_iff.mp h
  refine g_cNv (As := [.ref v20, .ref v24]) (rest := []) (n := 2) hx hb hml hown hts hK hlo hG (m_X9_copy l dd cT lo G16 v20 v24 e27) (List.mem_of_getElem? (i := 27) rfl) qT_yX9_copy qN_X9 qC_yX9_copy (by decide +kernel) ⟨Nat.le_of_ble_eq_true rfl, Nat.le_of_ble_eq_true rfl⟩ rfl hl.1 rfl (Nat.le_of_ble_eq_true rfl) dX5_takeFrom_27 ⟨Nat.le_of_ble_eq_true rfl, Nat.le_of_ble_eq_true rfl⟩ (fun H locs hG => ?_)
  refine lv_aload_n hx hb dX5_takeFrom_30 rfl (lv_at hl 1 rfl) ?_
  obtain ⟨v31, e31, h⟩ := Option.bind_eq_some_iff.mp h
  refine g_getr hx hb hts inlX5 hown hK hG (by rfl) 3 (by decide) qF_X5_22 e31 dX5_takeFrom_31 ?_
  refine lv_aload_n hx hb dX5_takeFrom_34 rfl (lv_at hl 0 rfl) ?_
  obtain ⟨v35, e35, h⟩ := Option.bind_eq_some_iff.mp h
  refine g_getr hx hb hts inlX5 hown hK hG (by rfl) 3 (by decide) qF_X5_22 e35 dX5_takeFrom_35 ?_
  obtain ⟨G38, e38, h⟩ := Option.bind_eq_some_iff.mp h
  refine g_cNv (As := [.ref v31, .ref v35]) (rest := []) (n := 2) hx hb hml hown hts hK hlo hG (m_X9_copy l dd cT lo G27 v31 v35 e38) (List.mem_of_getElem? (i := 27) rfl) qT_yX9_copy qN_X9 qC_yX9_copy (by decide +kernel) ⟨Nat.le_of_ble_eq_true rfl, Nat.le_of_ble_eq_true rfl⟩ rfl hl.1 rfl (Nat.le_of_ble_eq_true rfl) dX5_takeFrom_38 ⟨Nat.le_of_ble_eq_true rfl, Nat.le_of_ble_eq_true rfl⟩ (fun H locs hG => ?_)
  refine lv_aload_n hx hb dX5_takeFrom_41 rfl (lv_at hl 1 rfl) ?_
  obtain ⟨v42, e42, h⟩ := Option.bind_eq_some_iff.mp h
  refine g_getr hx hb hts inlX5 hown hK hG (by rfl) 4 (by decide) qF_X5_25 e42 dX5_takeFrom_42 ?_
  refine lv_aload_n hx hb dX5_takeFrom_45 rfl (lv_at hl 0 rfl) ?_
  obtain ⟨v46, e46, h⟩ := Option.bind_eq_some_iff.mp h
  refine g_getr hx hb hts inlX5 hown hK hG (by rfl) 4 (by decide) qF_X5_25 e46 dX5_takeFrom_46 ?_
  obtain ⟨G49, e49, h⟩ := Option.bind_eq_some_iff.mp h
  refine g_cNv (As := [.ref v42, .ref v46]) (rest := []) (n := 2) hx hb hml hown hts hK hlo hG (m_X9_copy l dd cT lo G38 v42 v46 e49) (List.mem_of_getElem? (i := 27) rfl) qT_yX9_copy qN_X9 qC_yX9_copy (by decide +kernel) ⟨Nat.le_of_ble_eq_true rfl, Nat.le_of_ble_eq_true rfl⟩ rfl hl.1 rfl (Nat.le_of_ble_eq_true rfl) dX5_takeFrom_49 ⟨Nat.le_of_ble_eq_true rfl, Nat.le_of_ble_eq_true rfl⟩ (fun H locs hG => ?_)
  refine lv_aload_n hx hb dX5_takeFrom_52 rfl (lv_at hl 1 rfl) ?_
  obtain ⟨v53, e53, h⟩ := Option.bind_eq_some_iff.mp h
  refine g_getr hx hb hts inlX5 hown hK hG (by rfl) 5 (by decide) qF_X5_28 e53 dX5_takeFrom_53 ?_
  refine lv_aload_n hx hb dX5_takeFrom_56 rfl (lv_at hl 0 rfl) ?_
  obtain ⟨v57, e57, h⟩ := Option.bind_eq_some_iff.mp h
  refine g_getr hx hb hts inlX5 hown hK hG (by rfl) 5 (by decide) qF_X5_28 e57 dX5_takeFrom_57 ?_
  obtain ⟨G60, e60, h⟩ := Option.bind_eq_some_iff.mp h
  refine g_cNv (As := [.ref v53, .ref v57]) (rest := []) (n := 2) hx hb hml hown hts hK hlo hG (m_X9_copy l dd cT lo G49 v53 v57 e60) (List.mem_of_getElem? (i := 27) rfl) qT_yX9_copy qN_X9 qC_yX9_copy (by decide +kernel) ⟨Nat.le_of_ble_eq_true rfl, Nat.le_of_ble_eq_true rfl⟩ rfl hl.1 rfl (Nat.le_of_ble_eq_true rfl) dX5_takeFrom_60 ⟨Nat.le_of_ble_eq_true rfl, Nat.le_of_ble_eq_true rfl⟩ (fun H locs hG => ?_)
  refine lv_aload_n hx hb dX5_takeFrom_63 rfl (lv_at hl 1 rfl) ?_
  obtain ⟨v64, e64, h⟩ := Option.bind_eq_some_iff.mp h
  refine g_getr hx hb hts inlX5 hown hK hG (by rfl) 6 (by decide) qF_X5_31 e64 dX5_takeFrom_64 ?_
  refine lv_aload_n hx hb dX5_takeFrom_67 rfl (lv_at hl 0 rfl) ?_
  obtain ⟨v68, e68, h⟩ := Option.bind_eq_some_iff.mp h
  refine g_getr hx hb hts inlX5 hown hK hG (by rfl) 6 (by decide) qF_X5_31 e68 dX5_takeFrom_68 ?_
  obtain ⟨G71, e71, h⟩ := Option.bind_eq_some_iff.mp h
  refine g_cNv (As := [.ref v64, .ref v68]) (rest := []) (n := 2) hx hb hml hown hts hK hlo hG (m_X9_copy l dd cT lo G60 v64 v68 e71) (List.mem_of_getElem? (i := 27) rfl) qT_yX9_copy qN_X9 qC_yX9_copy (by decide +kernel) ⟨Nat.le_of_ble_eq_true rfl, Nat.le_of_ble_eq_true rfl⟩ rfl hl.1 rfl (Nat.le_of_ble_eq_true rfl) dX5_takeFrom_71 ⟨Nat.le_of_ble_eq_true rfl, Nat.le_of_ble_eq_true rfl⟩ (fun H locs hG => ?_)
  refine lv_aload_n hx hb dX5_takeFrom_74 rfl (lv_at hl 1 rfl) ?_
  obtain ⟨v75, e75, h⟩ := Option.bind_eq_some_iff.mp h
  refine g_getr hx hb hts inlX5 hown hK hG (by rfl) 7 (by decide) qF_X5_34 e75 dX5_takeFrom_75 ?_
  refine lv_aload_n hx hb dX5_takeFrom_78 rfl (lv_at hl 0 rfl) ?_
  obtain ⟨v79, e79, h⟩ := Option.bind_eq_some_iff.mp h
  refine g_getr hx hb hts inlX5 hown hK hG (by rfl) 7 (by decide) qF_X5_34 e79 dX5_takeFrom_79 ?_
  obtain ⟨G82, e82, h⟩ := Option.bind_eq_some_iff.mp h
  refine g_cNv (As := [.ref v75, .ref v79]) (rest := []) (n := 2) hx hb hml hown hts hK hlo hG (m_X9_copy l dd cT lo G71 v75 v79 e82) (List.mem_of_getElem? (i := 27) rfl) qT_yX9_copy qN_X9 qC_yX9_copy (by decide +kernel) ⟨Nat.le_of_ble_eq_true rfl, Nat.le_of_ble_eq_true rfl⟩ rfl hl.1 rfl (Nat.le_of_ble_eq_true rfl) dX5_takeFrom_82 ⟨Nat.le_of_ble_eq_true rfl, Nat.le_of_ble_eq_true rfl⟩ (fun H locs hG => ?_)
  obtain rfl := Option.some.inj h
  exact g_vret hx hb hr hlocks hK hlo hG rfl dX5_takeFrom_85
set_option maxRecDepth 20000 in
set_option maxHeartbeats 4000000 in
theorem m_X5_stateOf (l : Launch) (dd : va_G) (cT : Nat → ClassId) (lo : Nat → Prop) (G : gH) (a0 : Nat) (x1 : Int32) {rz : Int32} (h : f_X5_stateOf G a0 x1 = some rz) : Met l yX5_stateOf (Cond.code yX5_stateOf cX5_stateOf 2 (some .int) :: wsL_law) (g_rm 1 22 0 0) (va_Pc [.ref a0, .int x1] (g_Pre lo dd cT G)) (va_Qi (g_is rz G) (g_Pre lo dd cT) (g_A lo)) 0 0 (g_A lo) := by
  refine g_start RX5 rfl (by decide) (Nat.le_of_ble_eq_true rfl) ?_
  intro p e s m below meth c hx hb hr hlocks hml hown hnm hts hK hG hlo ls hl
  have hl : lv_has ls 2 [(0, .ref a0), (1, .int x1)] := hl
  have hG : g_S lo dd cT s s.heap [] G := hG
  unfold f_X5_stateOf at h
  refine lv_iload_n hx hb dX5_stateOf_0 rfl (lv_at hl 1 rfl) ?_
  refine lv_aload_n hx hb dX5_stateOf_1 rfl (lv_at hl 0 rfl) ?_
  obtain ⟨v2, e2, h⟩ := Option.bind_eq_some_iff.mp h
  refine g_geti hx hb hts inlX5 hown hK hG (by rfl) 0 (by decide) qF_X5_9 e2 dX5_stateOf_2 ?_
  refine lv_icmp_ge (tgt := 20) hx hb dX5_stateOf_5 (by decide) (fun c5 => ?_) (fun c5 => ?_)
  · rw [if_pos c5] at h
    refine lv_iconst (v := (-1 : Int32)) hx hb dX5_stateOf_20 (by decide) ?_
    obtain rfl := Option.some.inj h
    exact g_iret hx hb hr hlocks hK hlo hG ⟨rfl, rfl⟩ dX5_stateOf_21
  · rw [if_neg c5] at h
    refine lv_aload_n hx hb dX5_stateOf_8 rfl (lv_at hl 0 rfl) ?_
    obtain ⟨v9, e9, h⟩ := Option.bind_eq_some_iff.mp h
    refine g_getr hx hb hts inlX5 hown hK hG (by rfl) 1 (by decide) qF_X5_15 e9 dX5_stateOf_9 ?_
    refine lv_iload_n hx hb dX5_stateOf_12 rfl (lv_at hl 1 rfl) ?_
    refine lv_iconst (v := (-1 : Int32)) hx hb dX5_stateOf_13 (by decide) ?_
    obtain ⟨v14, e14, h⟩ := Option.bind_eq_some_iff.mp h
    refine g_cNi (As := [.ref v9, .int x1, .int (-1 : Int32)]) (rest := []) (n := 3) hx hb hml hown hts hK hlo hG (m_X9_at l dd cT lo G v9 x1 (-1 : Int32) e14) (List.mem_of_getElem? (i := 28) rfl) qT_yX9_at qN_X9 qC_yX9_at (by decide +kernel) ⟨Nat.le_of_ble_eq_true rfl, Nat.le_of_ble_eq_true rfl⟩ rfl hl.1 rfl (Nat.le_of_ble_eq_true rfl) dX5_stateOf_14 ⟨Nat.le_of_ble_eq_true rfl, Nat.le_of_ble_eq_true rfl⟩ (fun H locs hG => ?_)
    refine lv_goto (tgt := 21) hx hb dX5_stateOf_17 (by decide) ?_
    obtain rfl := Option.some.inj h
    exact g_iret hx hb hr hlocks hK hlo hG ⟨rfl, rfl⟩ dX5_stateOf_21
set_option maxRecDepth 20000 in
set_option maxHeartbeats 4000000 in
theorem m_X5_firstOf (l : Launch) (dd : va_G) (cT : Nat → ClassId) (lo : Nat → Prop) (G : gH) (a0 : Nat) (x1 : Int32) {rz : Int32} (h : f_X5_firstOf G a0 x1 = some rz) : Met l yX5_firstOf (Cond.code yX5_firstOf cX5_firstOf 2 (some .int) :: wsL_law) (g_rm 1 22 0 0) (va_Pc [.ref a0, .int x1] (g_Pre lo dd cT G)) (va_Qi (g_is rz G) (g_Pre lo dd cT) (g_A lo)) 0 0 (g_A lo) := by
  refine g_start RX5 rfl (by decide) (Nat.le_of_ble_eq_true rfl) ?_
  intro p e s m below meth c hx hb hr hlocks hml hown hnm hts hK hG hlo ls hl
  have hl : lv_has ls 2 [(0, .ref a0), (1, .int x1)] := hl
  have hG : g_S lo dd cT s s.heap [] G := hG
  unfold f_X5_firstOf at h
  refine lv_aload_n hx hb dX5_firstOf_0 rfl (lv_at hl 0 rfl) ?_
  obtain ⟨v1, e1, h⟩ := Option.bind_eq_some_iff.mp h
  refine g_getr hx hb hts inlX5 hown hK hG (by rfl) 2 (by decide) qF_X5_19 e1 dX5_firstOf_1 ?_
  refine lv_iload_n hx hb dX5_firstOf_4 rfl (lv_at hl 1 rfl) ?_
  refine lv_iconst (v := (-1 : Int32)) hx hb dX5_firstOf_5 (by decide) ?_
  obtain ⟨v6, e6, h⟩ := Option.bind_eq_some_iff.mp h
  refine g_cNi (As := [.ref v1, .int x1, .int (-1 : Int32)]) (rest := []) (n := 3) hx hb hml hown hts hK hlo hG (m_X9_at l dd cT lo G v1 x1 (-1 : Int32) e6) (List.mem_of_getElem? (i := 28) rfl) qT_yX9_at qN_X9 qC_yX9_at (by decide +kernel) ⟨Nat.le_of_ble_eq_true rfl, Nat.le_of_ble_eq_true rfl⟩ rfl hl.1 rfl (Nat.le_of_ble_eq_true rfl) dX5_firstOf_6 ⟨Nat.le_of_ble_eq_true rfl, Nat.le_of_ble_eq_true rfl⟩ (fun H locs hG => ?_)
  obtain rfl := Option.some.inj h
  exact g_iret hx hb hr hlocks hK hlo hG ⟨rfl, rfl⟩ dX5_firstOf_9
set_option maxRecDepth 20000 in
set_option maxHeartbeats 4000000 in
theorem m_X5_directoryOf (l : Launch) (dd : va_G) (cT : Nat → ClassId) (lo : Nat → Prop) (G : gH) (a0 : Nat) (x1 : Int32) {rz : Int32} (h : f_X5_directoryOf G a0 x1 = some rz) : Met l yX5_directoryOf (Cond.code yX5_directoryOf cX5_directoryOf 2 (some .int) :: wsL_law) (g_rm 1 22 0 0) (va_Pc [.ref a0, .int x1] (g_Pre lo dd cT G)) (va_Qi (g_is rz G) (g_Pre lo dd cT) (g_A lo)) 0 0 (g_A lo) := by
  refine g_start RX5 rfl (by decide) (Nat.le_of_ble_eq_true rfl) ?_
  intro p e s m below meth c hx hb hr hlocks hml hown hnm hts hK hG hlo ls hl
  have hl : lv_has ls 2 [(0, .ref a0), (1, .int x1)] := hl
  have hG : g_S lo dd cT s s.heap [] G := hG
  unfold f_X5_directoryOf at h
  refine lv_aload_n hx hb dX5_directoryOf_0 rfl (lv_at hl 0 rfl) ?_
  obtain ⟨v1, e1, h⟩ := Option.bind_eq_some_iff.mp h
  refine g_getr hx hb hts inlX5 hown hK hG (by rfl) 3 (by decide) qF_X5_22 e1 dX5_directoryOf_1 ?_
  refine lv_iload_n hx hb dX5_directoryOf_4 rfl (lv_at hl 1 rfl) ?_
  refine lv_iconst (v := (-1 : Int32)) hx hb dX5_directoryOf_5 (by decide) ?_
  obtain ⟨v6, e6, h⟩ := Option.bind_eq_some_iff.mp h
  refine g_cNi (As := [.ref v1, .int x1, .int (-1 : Int32)]) (rest := []) (n := 3) hx hb hml hown hts hK hlo hG (m_X9_at l dd cT lo G v1 x1 (-1 : Int32) e6) (List.mem_of_getElem? (i := 28) rfl) qT_yX9_at qN_X9 qC_yX9_at (by decide +kernel) ⟨Nat.le_of_ble_eq_true rfl, Nat.le_of_ble_eq_true rfl⟩ rfl hl.1 rfl (Nat.le_of_ble_eq_true rfl) dX5_directoryOf_6 ⟨Nat.le_of_ble_eq_true rfl, Nat.le_of_ble_eq_true rfl⟩ (fun H locs hG => ?_)
  obtain rfl := Option.some.inj h
  exact g_iret hx hb hr hlocks hK hlo hG ⟨rfl, rfl⟩ dX5_directoryOf_9
set_option maxRecDepth 20000 in
set_option maxHeartbeats 4000000 in
theorem m_X5_directoryLengthOf (l : Launch) (dd : va_G) (cT : Nat → ClassId) (lo : Nat → Prop) (G : gH) (a0 : Nat) (x1 : Int32) {rz : Int32} (h : f_X5_directoryLengthOf G a0 x1 = some rz) : Met l yX5_directoryLengthOf (Cond.code yX5_directoryLengthOf cX5_directoryLengthOf 2 (some .int) :: wsL_law) (g_rm 1 22 0 0) (va_Pc [.ref a0, .int x1] (g_Pre lo dd cT G)) (va_Qi (g_is rz G) (g_Pre lo dd cT) (g_A lo)) 0 0 (g_A lo) := by
  refine g_start RX5 rfl (by decide) (Nat.le_of_ble_eq_true rfl) ?_
  intro p e s m below meth c hx hb hr hlocks hml hown hnm hts hK hG hlo ls hl
  have hl : lv_has ls 2 [(0, .ref a0), (1, .int x1)] := hl
  have hG : g_S lo dd cT s s.heap [] G := hG
  unfold f_X5_directoryLengthOf at h
  refine lv_aload_n hx hb dX5_directoryLengthOf_0 rfl (lv_at hl 0 rfl) ?_
  obtain ⟨v1, e1, h⟩ := Option.bind_eq_some_iff.mp h
  refine g_getr hx hb hts inlX5 hown hK hG (by rfl) 4 (by decide) qF_X5_25 e1 dX5_directoryLengthOf_1 ?_
  refine lv_iload_n hx hb dX5_directoryLengthOf_4 rfl (lv_at hl 1 rfl) ?_
  refine lv_iconst (v := (0 : Int32)) hx hb dX5_directoryLengthOf_5 (by decide) ?_
  obtain ⟨v6, e6, h⟩ := Option.bind_eq_some_iff.mp h
  refine g_cNi (As := [.ref v1, .int x1, .int (0 : Int32)]) (rest := []) (n := 3) hx hb hml hown hts hK hlo hG (m_X9_at l dd cT lo G v1 x1 (0 : Int32) e6) (List.mem_of_getElem? (i := 28) rfl) qT_yX9_at qN_X9 qC_yX9_at (by decide +kernel) ⟨Nat.le_of_ble_eq_true rfl, Nat.le_of_ble_eq_true rfl⟩ rfl hl.1 rfl (Nat.le_of_ble_eq_true rfl) dX5_directoryLengthOf_6 ⟨Nat.le_of_ble_eq_true rfl, Nat.le_of_ble_eq_true rfl⟩ (fun H locs hG => ?_)
  obtain rfl := Option.some.inj h
  exact g_iret hx hb hr hlocks hK hlo hG ⟨rfl, rfl⟩ dX5_directoryLengthOf_9
set_option maxRecDepth 20000 in
set_option maxHeartbeats 4000000 in
theorem m_X5_entriesOf (l : Launch) (dd : va_G) (cT : Nat → ClassId) (lo : Nat → Prop) (G : gH) (a0 : Nat) (x1 : Int32) {rz : Int32} (h : f_X5_entriesOf G a0 x1 = some rz) : Met l yX5_entriesOf (Cond.code yX5_entriesOf cX5_entriesOf 2 (some .int) :: wsL_law) (g_rm 1 22 0 0) (va_Pc [.ref a0, .int x1] (g_Pre lo dd cT G)) (va_Qi (g_is rz G) (g_Pre lo dd cT) (g_A lo)) 0 0 (g_A lo) := by
  refine g_start RX5 rfl (by decide) (Nat.le_of_ble_eq_true rfl) ?_
  intro p e s m below meth c hx hb hr hlocks hml hown hnm hts hK hG hlo ls hl
  have hl : lv_has ls 2 [(0, .ref a0), (1, .int x1)] := hl
  have hG : g_S lo dd cT s s.heap [] G := hG
  unfold f_X5_entriesOf at h
  refine lv_aload_n hx hb dX5_entriesOf_0 rfl (lv_at hl 0 rfl) ?_
  obtain ⟨v1, e1, h⟩ := Option.bind_eq_some_iff.mp h
  refine g_getr hx hb hts inlX5 hown hK hG (by rfl) 5 (by decide) qF_X5_28 e1 dX5_entriesOf_1 ?_
  refine lv_iload_n hx hb dX5_entriesOf_4 rfl (lv_at hl 1 rfl) ?_
  refine lv_iconst (v := (0 : Int32)) hx hb dX5_entriesOf_5 (by decide) ?_
  obtain ⟨v6, e6, h⟩ := Option.bind_eq_some_iff.mp h
  refine g_cNi (As := [.ref v1, .int x1, .int (0 : Int32)]) (rest := []) (n := 3) hx hb hml hown hts hK hlo hG (m_X9_at l dd cT lo G v1 x1 (0 : Int32) e6) (List.mem_of_getElem? (i := 28) rfl) qT_yX9_at qN_X9 qC_yX9_at (by decide +kernel) ⟨Nat.le_of_ble_eq_true rfl, Nat.le_of_ble_eq_true rfl⟩ rfl hl.1 rfl (Nat.le_of_ble_eq_true rfl) dX5_entriesOf_6 ⟨Nat.le_of_ble_eq_true rfl, Nat.le_of_ble_eq_true rfl⟩ (fun H locs hG => ?_)
  obtain rfl := Option.some.inj h
  exact g_iret hx hb hr hlocks hK hlo hG ⟨rfl, rfl⟩ dX5_entriesOf_9
set_option maxRecDepth 20000 in
set_option maxHeartbeats 4000000 in
theorem m_X5_fileAt (l : Launch) (dd : va_G) (cT : Nat → ClassId) (lo : Nat → Prop) (G : gH) (a0 : Nat) (x1 : Int32) (x2 : Int32) {rz : Int32} (h : f_X5_fileAt G a0 x1 x2 = some rz) : Met l yX5_fileAt (Cond.code yX5_fileAt cX5_fileAt 3 (some .int) :: wsL_law) (g_rm 2 43 0 0) (va_Pc [.ref a0, .int x1, .int x2] (g_Pre lo dd cT G)) (va_Qi (g_is rz G) (g_Pre lo dd cT) (g_A lo)) 0 0 (g_A lo) := by
  refine g_start RX5 rfl (by decide) (Nat.le_of_ble_eq_true rfl) ?_
  intro p e s m below meth c hx hb hr hlocks hml hown hnm hts hK hG hlo ls hl
  have hl : lv_has ls 3 [(0, .ref a0), (1, .int x1), (2, .int x2)] := hl
  have hG : g_S lo dd cT s s.heap [] G := hG
  unfold f_X5_fileAt at h
  refine lv_iload_n hx hb dX5_fileAt_0 rfl (lv_at hl 2 rfl) ?_
  refine lv_if_lt (tgt := 30) hx hb dX5_fileAt_1 (by decide) (fun c1 => ?_) (fun c1 => ?_)
  · rw [if_pos c1] at h
    refine lv_iconst (v := (-1 : Int32)) hx hb dX5_fileAt_30 (by decide) ?_
    obtain rfl := Option.some.inj h
    exact g_iret hx hb hr hlocks hK hlo hG ⟨rfl, rfl⟩ dX5_fileAt_31
  · rw [if_neg c1] at h
    refine lv_iload_n hx hb dX5_fileAt_4 rfl (lv_at hl 2 rfl) ?_
    refine lv_aload_n hx hb dX5_fileAt_5 rfl (lv_at hl 0 rfl) ?_
    refine lv_iload_n hx hb dX5_fileAt_6 rfl (lv_at hl 1 rfl) ?_
    obtain ⟨u7, i7, h⟩ := Option.bind_eq_some_iff.mp h
    obtain ⟨v7, e7, h⟩ := Option.bind_eq_some_iff.mp h
    refine g_cVi (As := [.int x1]) (rest := [.int x2]) (n := 1) hx hb hml hown hts hK hlo hG (m_X5_entriesOf l dd cT lo G a0 x1 e7) qM_X5_57 qI_yX5_entriesOf qS_X5_yX5_entriesOf qN_X5 qC_yX5_entriesOf (by decide +kernel) ⟨Nat.le_of_ble_eq_true rfl, Nat.le_of_ble_eq_true rfl⟩ (by rfl) i7 rfl hl.1 rfl (Nat.le_of_ble_eq_true rfl) dX5_fileAt_7 ⟨Nat.le_of_ble_eq_true rfl, Nat.le_of_ble_eq_true rfl⟩ (fun H locs hG => ?_)
    refine lv_icmp_ge (tgt := 30) hx hb dX5_fileAt_10 (by decide) (fun c10 => ?_) (fun c10 => ?_)
    · rw [if_pos c10] at h
      refine lv_iconst (v := (-1 : Int32)) hx hb dX5_fileAt_30 (by decide) ?_
      obtain rfl := Option.some.inj h
      exact g_iret hx hb hr hlocks hK hlo hG ⟨rfl, rfl⟩ dX5_fileAt_31
    · rw [if_neg c10] at h
      refine lv_aload_n hx hb dX5_fileAt_13 rfl (lv_at hl 0 rfl) ?_
      obtain ⟨v14, e14, h⟩ := Option.bind_eq_some_iff.mp h
      refine g_getr hx hb hts inlX5 hown hK hG (by rfl) 6 (by decide) qF_X5_31 e14 dX5_fileAt_14 ?_
      refine lv_iload_n hx hb dX5_fileAt_17 rfl (lv_at hl 1 rfl) ?_
      refine lv_bipush (v := (10 : Int32)) hx hb dX5_fileAt_18 (by decide) ?_
      refine lv_imul hx hb dX5_fileAt_20 ?_
      refine lv_iload_n hx hb dX5_fileAt_21 rfl (lv_at hl 2 rfl) ?_
      refine lv_iadd hx hb dX5_fileAt_22 ?_
      refine lv_iconst (v := (-1 : Int32)) hx hb dX5_fileAt_23 (by decide) ?_
      obtain ⟨v24, e24, h⟩ := Option.bind_eq_some_iff.mp h
      refine g_cNi (As := [.ref v14, .int ((x1 * (10 : Int32)) + x2), .int (-1 : Int32)]) (rest := []) (n := 3) hx hb hml hown hts hK hlo hG (m_X9_at l dd cT lo G v14 ((x1 * (10 : Int32)) + x2) (-1 : Int32) e24) (List.mem_of_getElem? (i := 28) rfl) qT_yX9_at qN_X9 qC_yX9_at (by decide +kernel) ⟨Nat.le_of_ble_eq_true rfl, Nat.le_of_ble_eq_true rfl⟩ rfl hl.1 rfl (Nat.le_of_ble_eq_true rfl) dX5_fileAt_24 ⟨Nat.le_of_ble_eq_true rfl, Nat.le_of_ble_eq_true rfl⟩ (fun H locs hG => ?_)
      refine lv_goto (tgt := 31) hx hb dX5_fileAt_27 (by decide) ?_
      obtain rfl := Option.some.inj h
      exact g_iret hx hb hr hlocks hK hlo hG ⟨rfl, rfl⟩ dX5_fileAt_31
set_option maxRecDepth 20000 in
set_option maxHeartbeats 4000000 in
theorem m_X5_hasEntry (l : Launch) (dd : va_G) (cT : Nat → ClassId) (lo : Nat → Prop) (G : gH) (a0 : Nat) (x1 : Int32) (x2 : Int32) {rz : Int32} (h : f_X5_hasEntry G a0 x1 x2 = some rz) : Met l yX5_hasEntry (Cond.code yX5_hasEntry cX5_hasEntry 3 (some .boolean) :: wsL_law) (g_rm 1 22 0 0) (va_Pc [.ref a0, .int x1, .int x2] (g_Pre lo dd cT G)) (va_Qi (g_is rz G) (g_Pre lo dd cT) (g_A lo)) 0 0 (g_A lo) := by
  refine g_start RX5 rfl (by decide) (Nat.le_of_ble_eq_true rfl) ?_
  intro p e s m below meth c hx hb hr hlocks hml hown hnm hts hK hG hlo ls hl
  have hl : lv_has ls 3 [(0, .ref a0), (1, .int x1), (2, .int x2)] := hl
  have hG : g_S lo dd cT s s.heap [] G := hG
  unfold f_X5_hasEntry at h
  refine lv_aload_n hx hb dX5_hasEntry_0 rfl (lv_at hl 0 rfl) ?_
  obtain ⟨v1, e1, h⟩ := Option.bind_eq_some_iff.mp h
  refine g_getr hx hb hts inlX5 hown hK hG (by rfl) 7 (by decide) qF_X5_34 e1 dX5_hasEntry_1 ?_
  refine lv_iload_n hx hb dX5_hasEntry_4 rfl (lv_at hl 1 rfl) ?_
  refine lv_bipush (v := (10 : Int32)) hx hb dX5_hasEntry_5 (by decide) ?_
  refine lv_imul hx hb dX5_hasEntry_7 ?_
  refine lv_iload_n hx hb dX5_hasEntry_8 rfl (lv_at hl 2 rfl) ?_
  refine lv_iadd hx hb dX5_hasEntry_9 ?_
  refine lv_bipush (v := (-2 : Int32)) hx hb dX5_hasEntry_10 (by decide) ?_
  obtain ⟨v12, e12, h⟩ := Option.bind_eq_some_iff.mp h
  refine g_cNi (As := [.ref v1, .int ((x1 * (10 : Int32)) + x2), .int (-2 : Int32)]) (rest := []) (n := 3) hx hb hml hown hts hK hlo hG (m_X9_at l dd cT lo G v1 ((x1 * (10 : Int32)) + x2) (-2 : Int32) e12) (List.mem_of_getElem? (i := 28) rfl) qT_yX9_at qN_X9 qC_yX9_at (by decide +kernel) ⟨Nat.le_of_ble_eq_true rfl, Nat.le_of_ble_eq_true rfl⟩ rfl hl.1 rfl (Nat.le_of_ble_eq_true rfl) dX5_hasEntry_12 ⟨Nat.le_of_ble_eq_true rfl, Nat.le_of_ble_eq_true rfl⟩ (fun H locs hG => ?_)
  refine lv_bipush (v := (-2 : Int32)) hx hb dX5_hasEntry_15 (by decide) ?_
  refine lv_icmp_eq (tgt := 24) hx hb dX5_hasEntry_17 (by decide) (fun c17 => ?_) (fun c17 => ?_)
  · rw [if_pos c17] at h
    refine lv_iconst (v := (0 : Int32)) hx hb dX5_hasEntry_24 (by decide) ?_
    obtain rfl := Option.some.inj h
    exact g_zret hx hb hr hlocks hK hlo hG rfl ⟨rfl, rfl⟩ dX5_hasEntry_25
  · rw [if_neg c17] at h
    refine lv_iconst (v := (1 : Int32)) hx hb dX5_hasEntry_20 (by decide) ?_
    refine lv_goto (tgt := 25) hx hb dX5_hasEntry_21 (by decide) ?_
    obtain rfl := Option.some.inj h
    exact g_zret hx hb hr hlocks hK hlo hG rfl ⟨rfl, rfl⟩ dX5_hasEntry_25
set_option maxRecDepth 20000 in
set_option maxHeartbeats 4000000 in
theorem m_X5_versionFor (l : Launch) (dd : va_G) (cT : Nat → ClassId) (lo : Nat → Prop) (G : gH) (a0 : Nat) (x1 : Int32) (x2 : Int32) {rz : Int32} (h : f_X5_versionFor G a0 x1 x2 = some rz) : Met l yX5_versionFor (Cond.code yX5_versionFor cX5_versionFor 4 (some .int) :: wsL_law) (g_rm 1 22 0 0) (va_Pc [.ref a0, .int x1, .int x2] (g_Pre lo dd cT G)) (va_Qi (g_is rz G) (g_Pre lo dd cT) (g_A lo)) 0 0 (g_A lo) := by
  refine g_start RX5 rfl (by decide) (Nat.le_of_ble_eq_true rfl) ?_
  intro p e s m below meth c hx hb hr hlocks hml hown hnm hts hK hG hlo ls hl
  have hl : lv_has ls 4 [(0, .ref a0), (1, .int x1), (2, .int x2)] := hl
  have hG : g_S lo dd cT s s.heap [] G := hG
  unfold f_X5_versionFor at h
  refine lv_aload_n hx hb dX5_versionFor_0 rfl (lv_at hl 0 rfl) ?_
  obtain ⟨v1, e1, h⟩ := Option.bind_eq_some_iff.mp h
  refine g_getr hx hb hts inlX5 hown hK hG (by rfl) 7 (by decide) qF_X5_34 e1 dX5_versionFor_1 ?_
  refine lv_iload_n hx hb dX5_versionFor_4 rfl (lv_at hl 1 rfl) ?_
  refine lv_bipush (v := (10 : Int32)) hx hb dX5_versionFor_5 (by decide) ?_
  refine lv_imul hx hb dX5_versionFor_7 ?_
  refine lv_iload_n hx hb dX5_versionFor_8 rfl (lv_at hl 2 rfl) ?_
  refine lv_iadd hx hb dX5_versionFor_9 ?_
  refine lv_bipush (v := (-2 : Int32)) hx hb dX5_versionFor_10 (by decide) ?_
  obtain ⟨v12, e12, h⟩ := Option.bind_eq_some_iff.mp h
  refine g_cNi (As := [.ref v1, .int ((x1 * (10 : Int32)) + x2), .int (-2 : Int32)]) (rest := []) (n := 3) hx hb hml hown hts hK hlo hG (m_X9_at l dd cT lo G v1 ((x1 * (10 : Int32)) + x2) (-2 : Int32) e12) (List.mem_of_getElem? (i := 28) rfl) qT_yX9_at qN_X9 qC_yX9_at (by decide +kernel) ⟨Nat.le_of_ble_eq_true rfl, Nat.le_of_ble_eq_true rfl⟩ rfl hl.1 rfl (Nat.le_of_ble_eq_true rfl) dX5_versionFor_12 ⟨Nat.le_of_ble_eq_true rfl, Nat.le_of_ble_eq_true rfl⟩ (fun H locs hG => ?_)
  refine lv_istore_n (lv' := [(3, .int v12), (0, .ref a0), (1, .int x1), (2, .int x2)]) hx hb dX5_versionFor_15 rfl hl (by decide) rfl (fun ls hl => ?_)
  refine lv_iload_n hx hb dX5_versionFor_16 rfl (lv_at hl 0 rfl) ?_
  refine lv_bipush (v := (-2 : Int32)) hx hb dX5_versionFor_17 (by decide) ?_
  refine lv_icmp_ne (tgt := 26) hx hb dX5_versionFor_19 (by decide) (fun c19 => ?_) (fun c19 => ?_)
  · rw [if_neg c19] at h
    refine lv_iload_n hx hb dX5_versionFor_26 rfl (lv_at hl 0 rfl) ?_
    obtain rfl := Option.some.inj h
    exact g_iret hx hb hr hlocks hK hlo hG ⟨rfl, rfl⟩ dX5_versionFor_27
  · rw [if_pos c19] at h
    refine lv_iconst (v := (-1 : Int32)) hx hb dX5_versionFor_22 (by decide) ?_
    refine lv_goto (tgt := 27) hx hb dX5_versionFor_23 (by decide) ?_
    obtain rfl := Option.some.inj h
    exact g_iret hx hb hr hlocks hK hlo hG ⟨rfl, rfl⟩ dX5_versionFor_27
set_option maxRecDepth 20000 in
set_option maxHeartbeats 4000000 in
theorem m_X5_forgetEntries (l : Launch) (dd : va_G) (cT : Nat → ClassId) (lo : Nat → Prop) (G : gH) (a0 : Nat) (x1 : Int32) {Gz : gH} (h : f_X5_forgetEntries G a0 x1 = some Gz) : Met l yX5_forgetEntries (Cond.code yX5_forgetEntries cX5_forgetEntries 3 none :: wsL_law) (g_rm 1 22 0 0) (va_Pc [.ref a0, .int x1] (g_Pre lo dd cT G)) (va_Qv (g_iv Gz) (g_Pre lo dd cT) (g_A lo)) 0 0 (g_A lo) := by
  refine g_start RX5 rfl (by decide) (Nat.le_of_ble_eq_true rfl) ?_
  intro p e s m below meth c hx hb hr hlocks hml hown hnm hts hK hG hlo ls hl
  have hl : lv_has ls 3 [(0, .ref a0), (1, .int x1)] := hl
  have hG : g_S lo dd cT s s.heap [] G := hG
  have h11 : ∀ n : Nat, ∀ (G : gH) (ba0 : Nat) (bx1 : Int32) (bx2 : Int32), ∀ (H : Heap) (locs : List Loc), g_S lo dd cT s H locs G → ∀ ls : Array Slot, lv_has ls 3 [(0, .ref ba0), (1, .int bx1), (2, .int bx2)] → f_X5_forgetEntries_L11 n G ba0 bx1 bx2 = some Gz → W p l e (g_rm 1 22 0 0) s m ([.ref a0, .int x1] : List Value).toArray below meth c H locs 0 0 (MQ below (va_Qv (g_iv Gz) (g_Pre lo dd cT) (g_A lo)) ([.ref a0, .int x1] : List Value).toArray s 0 0 (g_A lo)) (F0 m 11 ls []) := by
    intro n
    induction n with
    | zero =>
      intro G ba0 bx1 bx2 H locs hG ls hl h
      cases (show (none : Option gH) = some Gz from h)
    | succ n ih =>
      intro G ba0 bx1 bx2 H locs hG ls hl h
      rw [f_X5_forgetEntries_L11] at h
      refine lv_iload_n hx hb dX5_forgetEntries_11 rfl (lv_at hl 2 rfl) ?_
      refine lv_bipush (v := (10 : Int32)) hx hb dX5_forgetEntries_12 (by decide) ?_
      refine lv_icmp_ge (tgt := 38) hx hb dX5_forgetEntries_14 (by decide) (fun c14 => ?_) (fun c14 => ?_)
      · rw [if_pos c14] at h
        obtain rfl := Option.some.inj h
        exact g_vret hx hb hr hlocks hK hlo hG rfl dX5_forgetEntries_38
      · rw [if_neg c14] at h
        refine lv_aload_n hx hb dX5_forgetEntries_17 rfl (lv_at hl 0 rfl) ?_
        obtain ⟨v18, e18, h⟩ := Option.bind_eq_some_iff.mp h
        refine g_getr hx hb hts inlX5 hown hK hG (by rfl) 7 (by decide) qF_X5_34 e18 dX5_forgetEntries_18 ?_
        refine lv_iload_n hx hb dX5_forgetEntries_21 rfl (lv_at hl 1 rfl) ?_
        refine lv_bipush (v := (10 : Int32)) hx hb dX5_forgetEntries_22 (by decide) ?_
        refine lv_imul hx hb dX5_forgetEntries_24 ?_
        refine lv_iload_n hx hb dX5_forgetEntries_25 rfl (lv_at hl 2 rfl) ?_
        refine lv_iadd hx hb dX5_forgetEntries_26 ?_
        refine lv_bipush (v := (-2 : Int32)) hx hb dX5_forgetEntries_27 (by decide) ?_
        obtain ⟨G29, e29, h⟩ := Option.bind_eq_some_iff.mp h
        refine g_cNv (As := [.ref v18, .int ((bx1 * (10 : Int32)) + bx2), .int (-2 : Int32)]) (rest := []) (n := 3) hx hb hml hown hts hK hlo hG (m_X9_put l dd cT lo G v18 ((bx1 * (10 : Int32)) + bx2) (-2 : Int32) e29) (List.mem_of_getElem? (i := 29) rfl) qT_yX9_put qN_X9 qC_yX9_put (by decide +kernel) ⟨Nat.le_of_ble_eq_true rfl, Nat.le_of_ble_eq_true rfl⟩ rfl hl.1 rfl (Nat.le_of_ble_eq_true rfl) dX5_forgetEntries_29 ⟨Nat.le_of_ble_eq_true rfl, Nat.le_of_ble_eq_true rfl⟩ (fun H locs hG => ?_)
        refine lv_iinc (v := (bx2 + (1 : Int32))) (lv' := [(2, .int (bx2 + (1 : Int32))), (0, .ref ba0), (1, .int bx1)]) hx hb dX5_forgetEntries_32 hl (k := 2) rfl rfl (by decide) rfl (fun ls hl => ?_)
        refine lv_goto (tgt := 11) hx hb dX5_forgetEntries_35 (by decide) ?_
        exact ih G29 ba0 bx1 (bx2 + (1 : Int32)) _ _ hG _ (lv_sub hl [1, 2, 0] rfl) h
  unfold f_X5_forgetEntries at h
  refine lv_aload_n hx hb dX5_forgetEntries_0 rfl (lv_at hl 0 rfl) ?_
  obtain ⟨v1, e1, h⟩ := Option.bind_eq_some_iff.mp h
  refine g_getr hx hb hts inlX5 hown hK hG (by rfl) 5 (by decide) qF_X5_28 e1 dX5_forgetEntries_1 ?_
  refine lv_iload_n hx hb dX5_forgetEntries_4 rfl (lv_at hl 1 rfl) ?_
  refine lv_iconst (v := (0 : Int32)) hx hb dX5_forgetEntries_5 (by decide) ?_
  obtain ⟨G6, e6, h⟩ := Option.bind_eq_some_iff.mp h
  refine g_cNv (As := [.ref v1, .int x1, .int (0 : Int32)]) (rest := []) (n := 3) hx hb hml hown hts hK hlo hG (m_X9_put l dd cT lo G v1 x1 (0 : Int32) e6) (List.mem_of_getElem? (i := 29) rfl) qT_yX9_put qN_X9 qC_yX9_put (by decide +kernel) ⟨Nat.le_of_ble_eq_true rfl, Nat.le_of_ble_eq_true rfl⟩ rfl hl.1 rfl (Nat.le_of_ble_eq_true rfl) dX5_forgetEntries_6 ⟨Nat.le_of_ble_eq_true rfl, Nat.le_of_ble_eq_true rfl⟩ (fun H locs hG => ?_)
  refine lv_iconst (v := (0 : Int32)) hx hb dX5_forgetEntries_9 (by decide) ?_
  refine lv_istore_n (lv' := [(2, .int (0 : Int32)), (0, .ref a0), (1, .int x1)]) hx hb dX5_forgetEntries_10 rfl hl (by decide) rfl (fun ls hl => ?_)
  exact h11 g_N G6 a0 x1 (0 : Int32) _ _ hG _ (lv_sub hl [1, 2, 0] rfl) h
set_option maxRecDepth 20000 in
set_option maxHeartbeats 4000000 in
theorem m_X5_enter (l : Launch) (dd : va_G) (cT : Nat → ClassId) (lo : Nat → Prop) (G : gH) (a0 : Nat) (x1 : Int32) (x2 : Int32) {Gz : gH} (h : f_X5_enter G a0 x1 x2 = some Gz) : Met l yX5_enter (Cond.code yX5_enter cX5_enter 4 none :: wsL_law) (g_rm 2 44 0 0) (va_Pc [.ref a0, .int x1, .int x2] (g_Pre lo dd cT G)) (va_Qv (g_iv Gz) (g_Pre lo dd cT) (g_A lo)) 0 0 (g_A lo) := by
  refine g_start RX5 rfl (by decide) (Nat.le_of_ble_eq_true rfl) ?_
  intro p e s m below meth c hx hb hr hlocks hml hown hnm hts hK hG hlo ls hl
  have hl : lv_has ls 4 [(0, .ref a0), (1, .int x1), (2, .int x2)] := hl
  have hG : g_S lo dd cT s s.heap [] G := hG
  have h47 : ∀ (G : gH) (ba0 : Nat) (bx1 : Int32) (bx2 : Int32) (bx3 : Int32), ∀ (H : Heap) (locs : List Loc), g_S lo dd cT s H locs G → ∀ ls : Array Slot, lv_has ls 4 [(0, .ref ba0), (1, .int bx1), (2, .int bx2), (3, .int bx3)] → f_X5_enter_J47 G ba0 bx1 bx2 bx3 = some Gz → W p l e (g_rm 2 44 0 0) s m ([.ref a0, .int x1, .int x2] : List Value).toArray below meth c H locs 0 0 (MQ below (va_Qv (g_iv Gz) (g_Pre lo dd cT) (g_A lo)) ([.ref a0, .int x1, .int x2] : List Value).toArray s 0 0 (g_A lo)) (F0 m 47 ls []) := by
    intro G ba0 bx1 bx2 bx3 H locs hG ls hl h
    unfold f_X5_enter_J47 at h
    refine lv_aload_n hx hb dX5_enter_47 rfl (lv_at hl 0 rfl) ?_
    obtain ⟨v48, e48, h⟩ := Option.bind_eq_some_iff.mp h
    refine g_getr hx hb hts inlX5 hown hK hG (by rfl) 7 (by decide) qF_X5_34 e48 dX5_enter_48 ?_
    refine lv_iload_n hx hb dX5_enter_51 rfl (lv_at hl 3 rfl) ?_
    refine lv_bipush (v := (10 : Int32)) hx hb dX5_enter_52 (by decide) ?_
    refine lv_imul hx hb dX5_enter_54 ?_
    refine lv_iload_n hx hb dX5_enter_55 rfl (lv_at hl 1 rfl) ?_
    refine lv_iadd hx hb dX5_enter_56 ?_
    refine lv_iload_n hx hb dX5_enter_57 rfl (lv_at hl 2 rfl) ?_
    obtain ⟨G58, e58, h⟩ := Option.bind_eq_some_iff.mp h
    refine g_cNv (As := [.ref v48, .int ((bx3 * (10 : Int32)) + bx1), .int bx2]) (rest := []) (n := 3) hx hb hml hown hts hK hlo hG (m_X9_put l dd cT lo G v48 ((bx3 * (10 : Int32)) + bx1) bx2 e58) (List.mem_of_getElem? (i := 29) rfl) qT_yX9_put qN_X9 qC_yX9_put (by decide +kernel) ⟨Nat.le_of_ble_eq_true rfl, Nat.le_of_ble_eq_true rfl⟩ rfl hl.1 rfl (Nat.le_of_ble_eq_true rfl) dX5_enter_58 ⟨Nat.le_of_ble_eq_true rfl, Nat.le_of_ble_eq_true rfl⟩ (fun H locs hG => ?_)
    obtain rfl := Option.some.inj h
    exact g_vret hx hb hr hlocks hK hlo hG rfl dX5_enter_61
  unfold f_X5_enter at h
  refine lv_aload_n hx hb dX5_enter_0 rfl (lv_at hl 0 rfl) ?_
  obtain ⟨u1, i1, h⟩ := Option.bind_eq_some_iff.mp h
  obtain ⟨v1, e1, h⟩ := Option.bind_eq_some_iff.mp h
  refine g_cVi (As := []) (rest := []) (n := 0) hx hb hml hown hts hK hlo hG (m_X5_latest l dd cT lo G a0 e1) qM_X5_41 qI_yX5_latest qS_X5_yX5_latest qN_X5 qC_yX5_latest (by decide +kernel) ⟨Nat.le_of_ble_eq_true rfl, Nat.le_of_ble_eq_true rfl⟩ (by rfl) i1 rfl hl.1 rfl (Nat.le_of_ble_eq_true rfl) dX5_enter_1 ⟨Nat.le_of_ble_eq_true rfl, Nat.le_of_ble_eq_true rfl⟩ (fun H locs hG => ?_)
  refine lv_istore_n (lv' := [(3, .int v1), (0, .ref a0), (1, .int x1), (2, .int x2)]) hx hb dX5_enter_4 rfl hl (by decide) rfl (fun ls hl => ?_)
  refine lv_aload_n hx hb dX5_enter_5 rfl (lv_at hl 1 rfl) ?_
  refine lv_iload_n hx hb dX5_enter_6 rfl (lv_at hl 0 rfl) ?_
  refine lv_iload_n hx hb dX5_enter_7 rfl (lv_at hl 2 rfl) ?_
  obtain ⟨u8, i8, h⟩ := Option.bind_eq_some_iff.mp h
  obtain ⟨v8, e8, h⟩ := Option.bind_eq_some_iff.mp h
  refine g_cVi (As := [.int v1, .int x1]) (rest := []) (n := 2) hx hb hml hown hts hK hlo hG (m_X5_hasEntry l dd cT lo G a0 v1 x1 e8) qM_X5_68 qI_yX5_hasEntry qS_X5_yX5_hasEntry qN_X5 qC_yX5_hasEntry (by decide +kernel) ⟨Nat.le_of_ble_eq_true rfl, Nat.le_of_ble_eq_true rfl⟩ (by rfl) i8 rfl hl.1 rfl (Nat.le_of_ble_eq_true rfl) dX5_enter_8 ⟨Nat.le_of_ble_eq_true rfl, Nat.le_of_ble_eq_true rfl⟩ (fun H locs hG => ?_)
  refine lv_if_ne (tgt := 47) hx hb dX5_enter_11 (by decide) (fun c11 => ?_) (fun c11 => ?_)
  · rw [if_neg c11] at h
    exact h47 G a0 x1 x2 v1 _ _ hG _ (lv_sub hl [1, 2, 3, 0] rfl) h
  · rw [if_pos c11] at h
    refine lv_aload_n hx hb dX5_enter_14 rfl (lv_at hl 1 rfl) ?_
    obtain ⟨v15, e15, h⟩ := Option.bind_eq_some_iff.mp h
    refine g_getr hx hb hts inlX5 hown hK hG (by rfl) 6 (by decide) qF_X5_31 e15 dX5_enter_15 ?_
    refine lv_iload_n hx hb dX5_enter_18 rfl (lv_at hl 0 rfl) ?_
    refine lv_bipush (v := (10 : Int32)) hx hb dX5_enter_19 (by decide) ?_
    refine lv_imul hx hb dX5_enter_21 ?_
    refine lv_aload_n hx hb dX5_enter_22 rfl (lv_at hl 1 rfl) ?_
    refine lv_iload_n hx hb dX5_enter_23 rfl (lv_at hl 0 rfl) ?_
    obtain ⟨u24, i24, h⟩ := Option.bind_eq_some_iff.mp h
    obtain ⟨v24, e24, h⟩ := Option.bind_eq_some_iff.mp h
    refine g_cVi (As := [.int v1]) (rest := [.int (v1 * (10 : Int32)), .ref v15]) (n := 1) hx hb hml hown hts hK hlo hG (m_X5_entriesOf l dd cT lo G a0 v1 e24) qM_X5_57 qI_yX5_entriesOf qS_X5_yX5_entriesOf qN_X5 qC_yX5_entriesOf (by decide +kernel) ⟨Nat.le_of_ble_eq_true rfl, Nat.le_of_ble_eq_true rfl⟩ (by rfl) i24 rfl hl.1 rfl (Nat.le_of_ble_eq_true rfl) dX5_enter_24 ⟨Nat.le_of_ble_eq_true rfl, Nat.le_of_ble_eq_true rfl⟩ (fun H locs hG => ?_)
    refine lv_iadd hx hb dX5_enter_27 ?_
    refine lv_iload_n hx hb dX5_enter_28 rfl (lv_at hl 2 rfl) ?_
    obtain ⟨G29, e29, h⟩ := Option.bind_eq_some_iff.mp h
    refine g_cNv (As := [.ref v15, .int ((v1 * (10 : Int32)) + v24), .int x1]) (rest := []) (n := 3) hx hb hml hown hts hK hlo hG (m_X9_put l dd cT lo G v15 ((v1 * (10 : Int32)) + v24) x1 e29) (List.mem_of_getElem? (i := 29) rfl) qT_yX9_put qN_X9 qC_yX9_put (by decide +kernel) ⟨Nat.le_of_ble_eq_true rfl, Nat.le_of_ble_eq_true rfl⟩ rfl hl.1 rfl (Nat.le_of_ble_eq_true rfl) dX5_enter_29 ⟨Nat.le_of_ble_eq_true rfl, Nat.le_of_ble_eq_true rfl⟩ (fun H locs hG => ?_)
    refine lv_aload_n hx hb dX5_enter_32 rfl (lv_at hl 1 rfl) ?_
    obtain ⟨v33, e33, h⟩ := Option.bind_eq_some_iff.mp h
    refine g_getr hx hb hts inlX5 hown hK hG (by rfl) 5 (by decide) qF_X5_28 e33 dX5_enter_33 ?_
    refine lv_iload_n hx hb dX5_enter_36 rfl (lv_at hl 0 rfl) ?_
    refine lv_aload_n hx hb dX5_enter_37 rfl (lv_at hl 1 rfl) ?_
    refine lv_iload_n hx hb dX5_enter_38 rfl (lv_at hl 0 rfl) ?_
    obtain ⟨u39, i39, h⟩ := Option.bind_eq_some_iff.mp h
    obtain ⟨v39, e39, h⟩ := Option.bind_eq_some_iff.mp h
    refine g_cVi (As := [.int v1]) (rest := [.int v1, .ref v33]) (n := 1) hx hb hml hown hts hK hlo hG (m_X5_entriesOf l dd cT lo G29 a0 v1 e39) qM_X5_57 qI_yX5_entriesOf qS_X5_yX5_entriesOf qN_X5 qC_yX5_entriesOf (by decide +kernel) ⟨Nat.le_of_ble_eq_true rfl, Nat.le_of_ble_eq_true rfl⟩ (by rfl) i39 rfl hl.1 rfl (Nat.le_of_ble_eq_true rfl) dX5_enter_39 ⟨Nat.le_of_ble_eq_true rfl, Nat.le_of_ble_eq_true rfl⟩ (fun H locs hG => ?_)
    refine lv_iconst (v := (1 : Int32)) hx hb dX5_enter_42 (by decide) ?_
    refine lv_iadd hx hb dX5_enter_43 ?_
    obtain ⟨G44, e44, h⟩ := Option.bind_eq_some_iff.mp h
    refine g_cNv (As := [.ref v33, .int v1, .int (v39 + (1 : Int32))]) (rest := []) (n := 3) hx hb hml hown hts hK hlo hG (m_X9_put l dd cT lo G29 v33 v1 (v39 + (1 : Int32)) e44) (List.mem_of_getElem? (i := 29) rfl) qT_yX9_put qN_X9 qC_yX9_put (by decide +kernel) ⟨Nat.le_of_ble_eq_true rfl, Nat.le_of_ble_eq_true rfl⟩ rfl hl.1 rfl (Nat.le_of_ble_eq_true rfl) dX5_enter_44 ⟨Nat.le_of_ble_eq_true rfl, Nat.le_of_ble_eq_true rfl⟩ (fun H locs hG => ?_)
    exact h47 G44 a0 x1 x2 v1 _ _ hG _ (lv_sub hl [1, 2, 3, 0] rfl) h
set_option maxRecDepth 20000 in
set_option maxHeartbeats 4000000 in
theorem m_X5_markClosed (l : Launch) (dd : va_G) (cT : Nat → ClassId) (lo : Nat → Prop) (G : gH) (a0 : Nat) (x1 : Int32) (x2 : Int32) {Gz : gH} (h : f_X5_markClosed G a0 x1 x2 = some Gz) : Met l yX5_markClosed (Cond.code yX5_markClosed cX5_markClosed 3 none :: wsL_law) (g_rm 1 22 0 0) (va_Pc [.ref a0, .int x1, .int x2] (g_Pre lo dd cT G)) (va_Qv (g_iv Gz) (g_Pre lo dd cT) (g_A lo)) 0 0 (g_A lo) := by
  refine g_start RX5 rfl (by decide) (Nat.le_of_ble_eq_true rfl) ?_
  intro p e s m below meth c hx hb hr hlocks hml hown hnm hts hK hG hlo ls hl
  have hl : lv_has ls 3 [(0, .ref a0), (1, .int x1), (2, .int x2)] := hl
  have hG : g_S lo dd cT s s.heap [] G := hG
  unfold f_X5_markClosed at h
  refine lv_aload_n hx hb dX5_markClosed_0 rfl (lv_at hl 0 rfl) ?_
  obtain ⟨v1, e1, h⟩ := Option.bind_eq_some_iff.mp h
  refine g_getr hx hb hts inlX5 hown hK hG (by rfl) 1 (by decide) qF_X5_15 e1 dX5_markClosed_1 ?_
  refine lv_aload_n hx hb dX5_markClosed_4 rfl (lv_at hl 0 rfl) ?_
  obtain ⟨u5, i5, h⟩ := Option.bind_eq_some_iff.mp h
  obtain ⟨v5, e5, h⟩ := Option.bind_eq_some_iff.mp h
  refine g_cVi (As := []) (rest := [.ref v1]) (n := 0) hx hb hml hown hts hK hlo hG (m_X5_latest l dd cT lo G a0 e5) qM_X5_41 qI_yX5_latest qS_X5_yX5_latest qN_X5 qC_yX5_latest (by decide +kernel) ⟨Nat.le_of_ble_eq_true rfl, Nat.le_of_ble_eq_true rfl⟩ (by rfl) i5 rfl hl.1 rfl (Nat.le_of_ble_eq_true rfl) dX5_markClosed_5 ⟨Nat.le_of_ble_eq_true rfl, Nat.le_of_ble_eq_true rfl⟩ (fun H locs hG => ?_)
  refine lv_iconst (v := (1 : Int32)) hx hb dX5_markClosed_8 (by decide) ?_
  obtain ⟨G9, e9, h⟩ := Option.bind_eq_some_iff.mp h
  refine g_cNv (As := [.ref v1, .int v5, .int (1 : Int32)]) (rest := []) (n := 3) hx hb hml hown hts hK hlo hG (m_X9_put l dd cT lo G v1 v5 (1 : Int32) e9) (List.mem_of_getElem? (i := 29) rfl) qT_yX9_put qN_X9 qC_yX9_put (by decide +kernel) ⟨Nat.le_of_ble_eq_true rfl, Nat.le_of_ble_eq_true rfl⟩ rfl hl.1 rfl (Nat.le_of_ble_eq_true rfl) dX5_markClosed_9 ⟨Nat.le_of_ble_eq_true rfl, Nat.le_of_ble_eq_true rfl⟩ (fun H locs hG => ?_)
  refine lv_aload_n hx hb dX5_markClosed_12 rfl (lv_at hl 0 rfl) ?_
  obtain ⟨v13, e13, h⟩ := Option.bind_eq_some_iff.mp h
  refine g_getr hx hb hts inlX5 hown hK hG (by rfl) 3 (by decide) qF_X5_22 e13 dX5_markClosed_13 ?_
  refine lv_aload_n hx hb dX5_markClosed_16 rfl (lv_at hl 0 rfl) ?_
  obtain ⟨u17, i17, h⟩ := Option.bind_eq_some_iff.mp h
  obtain ⟨v17, e17, h⟩ := Option.bind_eq_some_iff.mp h
  refine g_cVi (As := []) (rest := [.ref v13]) (n := 0) hx hb hml hown hts hK hlo hG (m_X5_latest l dd cT lo G9 a0 e17) qM_X5_41 qI_yX5_latest qS_X5_yX5_latest qN_X5 qC_yX5_latest (by decide +kernel) ⟨Nat.le_of_ble_eq_true rfl, Nat.le_of_ble_eq_true rfl⟩ (by rfl) i17 rfl hl.1 rfl (Nat.le_of_ble_eq_true rfl) dX5_markClosed_17 ⟨Nat.le_of_ble_eq_true rfl, Nat.le_of_ble_eq_true rfl⟩ (fun H locs hG => ?_)
  refine lv_iload_n hx hb dX5_markClosed_20 rfl (lv_at hl 1 rfl) ?_
  obtain ⟨G21, e21, h⟩ := Option.bind_eq_some_iff.mp h
  refine g_cNv (As := [.ref v13, .int v17, .int x1]) (rest := []) (n := 3) hx hb hml hown hts hK hlo hG (m_X9_put l dd cT lo G9 v13 v17 x1 e21) (List.mem_of_getElem? (i := 29) rfl) qT_yX9_put qN_X9 qC_yX9_put (by decide +kernel) ⟨Nat.le_of_ble_eq_true rfl, Nat.le_of_ble_eq_true rfl⟩ rfl hl.1 rfl (Nat.le_of_ble_eq_true rfl) dX5_markClosed_21 ⟨Nat.le_of_ble_eq_true rfl, Nat.le_of_ble_eq_true rfl⟩ (fun H locs hG => ?_)
  refine lv_aload_n hx hb dX5_markClosed_24 rfl (lv_at hl 0 rfl) ?_
  obtain ⟨v25, e25, h⟩ := Option.bind_eq_some_iff.mp h
  refine g_getr hx hb hts inlX5 hown hK hG (by rfl) 4 (by decide) qF_X5_25 e25 dX5_markClosed_25 ?_
  refine lv_aload_n hx hb dX5_markClosed_28 rfl (lv_at hl 0 rfl) ?_
  obtain ⟨u29, i29, h⟩ := Option.bind_eq_some_iff.mp h
  obtain ⟨v29, e29, h⟩ := Option.bind_eq_some_iff.mp h
  refine g_cVi (As := []) (rest := [.ref v25]) (n := 0) hx hb hml hown hts hK hlo hG (m_X5_latest l dd cT lo G21 a0 e29) qM_X5_41 qI_yX5_latest qS_X5_yX5_latest qN_X5 qC_yX5_latest (by decide +kernel) ⟨Nat.le_of_ble_eq_true rfl, Nat.le_of_ble_eq_true rfl⟩ (by rfl) i29 rfl hl.1 rfl (Nat.le_of_ble_eq_true rfl) dX5_markClosed_29 ⟨Nat.le_of_ble_eq_true rfl, Nat.le_of_ble_eq_true rfl⟩ (fun H locs hG => ?_)
  refine lv_iload_n hx hb dX5_markClosed_32 rfl (lv_at hl 2 rfl) ?_
  obtain ⟨G33, e33, h⟩ := Option.bind_eq_some_iff.mp h
  refine g_cNv (As := [.ref v25, .int v29, .int x2]) (rest := []) (n := 3) hx hb hml hown hts hK hlo hG (m_X9_put l dd cT lo G21 v25 v29 x2 e33) (List.mem_of_getElem? (i := 29) rfl) qT_yX9_put qN_X9 qC_yX9_put (by decide +kernel) ⟨Nat.le_of_ble_eq_true rfl, Nat.le_of_ble_eq_true rfl⟩ rfl hl.1 rfl (Nat.le_of_ble_eq_true rfl) dX5_markClosed_33 ⟨Nat.le_of_ble_eq_true rfl, Nat.le_of_ble_eq_true rfl⟩ (fun H locs hG => ?_)
  obtain rfl := Option.some.inj h
  exact g_vret hx hb hr hlocks hK hlo hG rfl dX5_markClosed_36
set_option maxRecDepth 20000 in
set_option maxHeartbeats 4000000 in
theorem m_X5_markLost (l : Launch) (dd : va_G) (cT : Nat → ClassId) (lo : Nat → Prop) (G : gH) (a0 : Nat) {Gz : gH} (h : f_X5_markLost G a0 = some Gz) : Met l yX5_markLost (Cond.code yX5_markLost cX5_markLost 1 none :: wsL_law) (g_rm 2 44 0 0) (va_Pc [.ref a0] (g_Pre lo dd cT G)) (va_Qv (g_iv Gz) (g_Pre lo dd cT) (g_A lo)) 0 0 (g_A lo) := by
  refine g_start RX5 rfl (by decide) (Nat.le_of_ble_eq_true rfl) ?_
  intro p e s m below meth c hx hb hr hlocks hml hown hnm hts hK hG hlo ls hl
  have hl : lv_has ls 1 [(0, .ref a0)] := hl
  have hG : g_S lo dd cT s s.heap [] G := hG
  unfold f_X5_markLost at h
  refine lv_aload_n hx hb dX5_markLost_0 rfl (lv_at hl 0 rfl) ?_
  obtain ⟨v1, e1, h⟩ := Option.bind_eq_some_iff.mp h
  refine g_getr hx hb hts inlX5 hown hK hG (by rfl) 1 (by decide) qF_X5_15 e1 dX5_markLost_1 ?_
  refine lv_aload_n hx hb dX5_markLost_4 rfl (lv_at hl 0 rfl) ?_
  obtain ⟨u5, i5, h⟩ := Option.bind_eq_some_iff.mp h
  obtain ⟨v5, e5, h⟩ := Option.bind_eq_some_iff.mp h
  refine g_cVi (As := []) (rest := [.ref v1]) (n := 0) hx hb hml hown hts hK hlo hG (m_X5_latest l dd cT lo G a0 e5) qM_X5_41 qI_yX5_latest qS_X5_yX5_latest qN_X5 qC_yX5_latest (by decide +kernel) ⟨Nat.le_of_ble_eq_true rfl, Nat.le_of_ble_eq_true rfl⟩ (by rfl) i5 rfl hl.1 rfl (Nat.le_of_ble_eq_true rfl) dX5_markLost_5 ⟨Nat.le_of_ble_eq_true rfl, Nat.le_of_ble_eq_true rfl⟩ (fun H locs hG => ?_)
  refine lv_iconst (v := (2 : Int32)) hx hb dX5_markLost_8 (by decide) ?_
  obtain ⟨G9, e9, h⟩ := Option.bind_eq_some_iff.mp h
  refine g_cNv (As := [.ref v1, .int v5, .int (2 : Int32)]) (rest := []) (n := 3) hx hb hml hown hts hK hlo hG (m_X9_put l dd cT lo G v1 v5 (2 : Int32) e9) (List.mem_of_getElem? (i := 29) rfl) qT_yX9_put qN_X9 qC_yX9_put (by decide +kernel) ⟨Nat.le_of_ble_eq_true rfl, Nat.le_of_ble_eq_true rfl⟩ rfl hl.1 rfl (Nat.le_of_ble_eq_true rfl) dX5_markLost_9 ⟨Nat.le_of_ble_eq_true rfl, Nat.le_of_ble_eq_true rfl⟩ (fun H locs hG => ?_)
  refine lv_aload_n hx hb dX5_markLost_12 rfl (lv_at hl 0 rfl) ?_
  refine lv_aload_n hx hb dX5_markLost_13 rfl (lv_at hl 0 rfl) ?_
  obtain ⟨u14, i14, h⟩ := Option.bind_eq_some_iff.mp h
  obtain ⟨v14, e14, h⟩ := Option.bind_eq_some_iff.mp h
  refine g_cVi (As := []) (rest := [.ref a0]) (n := 0) hx hb hml hown hts hK hlo hG (m_X5_latest l dd cT lo G9 a0 e14) qM_X5_41 qI_yX5_latest qS_X5_yX5_latest qN_X5 qC_yX5_latest (by decide +kernel) ⟨Nat.le_of_ble_eq_true rfl, Nat.le_of_ble_eq_true rfl⟩ (by rfl) i14 rfl hl.1 rfl (Nat.le_of_ble_eq_true rfl) dX5_markLost_14 ⟨Nat.le_of_ble_eq_true rfl, Nat.le_of_ble_eq_true rfl⟩ (fun H locs hG => ?_)
  obtain ⟨u17, i17, h⟩ := Option.bind_eq_some_iff.mp h
  obtain ⟨G17, e17, h⟩ := Option.bind_eq_some_iff.mp h
  refine g_cVv (As := [.int v14]) (rest := []) (n := 1) hx hb hml hown hts hK hlo hG (m_X5_forgetEntries l dd cT lo G9 a0 v14 e17) qM_X5_64 qI_yX5_forgetEntries qS_X5_yX5_forgetEntries qN_X5 qC_yX5_forgetEntries (by decide +kernel) ⟨Nat.le_of_ble_eq_true rfl, Nat.le_of_ble_eq_true rfl⟩ (by rfl) i17 rfl hl.1 rfl (Nat.le_of_ble_eq_true rfl) dX5_markLost_17 ⟨Nat.le_of_ble_eq_true rfl, Nat.le_of_ble_eq_true rfl⟩ (fun H locs hG => ?_)
  obtain rfl := Option.some.inj h
  exact g_vret hx hb hr hlocks hK hlo hG rfl dX5_markLost_20
set_option maxRecDepth 20000 in
set_option maxHeartbeats 4000000 in
theorem m_X5_markRecovered (l : Launch) (dd : va_G) (cT : Nat → ClassId) (lo : Nat → Prop) (G : gH) (a0 : Nat) {Gz : gH} (h : f_X5_markRecovered G a0 = some Gz) : Met l yX5_markRecovered (Cond.code yX5_markRecovered cX5_markRecovered 1 none :: wsL_law) (g_rm 1 22 0 0) (va_Pc [.ref a0] (g_Pre lo dd cT G)) (va_Qv (g_iv Gz) (g_Pre lo dd cT) (g_A lo)) 0 0 (g_A lo) := by
  refine g_start RX5 rfl (by decide) (Nat.le_of_ble_eq_true rfl) ?_
  intro p e s m below meth c hx hb hr hlocks hml hown hnm hts hK hG hlo ls hl
  have hl : lv_has ls 1 [(0, .ref a0)] := hl
  have hG : g_S lo dd cT s s.heap [] G := hG
  unfold f_X5_markRecovered at h
  refine lv_aload_n hx hb dX5_markRecovered_0 rfl (lv_at hl 0 rfl) ?_
  obtain ⟨v1, e1, h⟩ := Option.bind_eq_some_iff.mp h
  refine g_getr hx hb hts inlX5 hown hK hG (by rfl) 1 (by decide) qF_X5_15 e1 dX5_markRecovered_1 ?_
  refine lv_aload_n hx hb dX5_markRecovered_4 rfl (lv_at hl 0 rfl) ?_
  obtain ⟨u5, i5, h⟩ := Option.bind_eq_some_iff.mp h
  obtain ⟨v5, e5, h⟩ := Option.bind_eq_some_iff.mp h
  refine g_cVi (As := []) (rest := [.ref v1]) (n := 0) hx hb hml hown hts hK hlo hG (m_X5_latest l dd cT lo G a0 e5) qM_X5_41 qI_yX5_latest qS_X5_yX5_latest qN_X5 qC_yX5_latest (by decide +kernel) ⟨Nat.le_of_ble_eq_true rfl, Nat.le_of_ble_eq_true rfl⟩ (by rfl) i5 rfl hl.1 rfl (Nat.le_of_ble_eq_true rfl) dX5_markRecovered_5 ⟨Nat.le_of_ble_eq_true rfl, Nat.le_of_ble_eq_true rfl⟩ (fun H locs hG => ?_)
  refine lv_iconst (v := (3 : Int32)) hx hb dX5_markRecovered_8 (by decide) ?_
  obtain ⟨G9, e9, h⟩ := Option.bind_eq_some_iff.mp h
  refine g_cNv (As := [.ref v1, .int v5, .int (3 : Int32)]) (rest := []) (n := 3) hx hb hml hown hts hK hlo hG (m_X9_put l dd cT lo G v1 v5 (3 : Int32) e9) (List.mem_of_getElem? (i := 29) rfl) qT_yX9_put qN_X9 qC_yX9_put (by decide +kernel) ⟨Nat.le_of_ble_eq_true rfl, Nat.le_of_ble_eq_true rfl⟩ rfl hl.1 rfl (Nat.le_of_ble_eq_true rfl) dX5_markRecovered_9 ⟨Nat.le_of_ble_eq_true rfl, Nat.le_of_ble_eq_true rfl⟩ (fun H locs hG => ?_)
  obtain rfl := Option.some.inj h
  exact g_vret hx hb hr hlocks hK hlo hG rfl dX5_markRecovered_12
set_option maxRecDepth 20000 in
set_option maxHeartbeats 4000000 in
theorem m_X5_linkOf (l : Launch) (dd : va_G) (cT : Nat → ClassId) (lo : Nat → Prop) (G : gH) (a0 : Nat) (x1 : Int32) {rz : Int32} (h : f_X5_linkOf G a0 x1 = some rz) : Met l yX5_linkOf (Cond.code yX5_linkOf cX5_linkOf 3 (some .int) :: wsL_law) (g_rm 2 43 0 0) (va_Pc [.ref a0, .int x1] (g_Pre lo dd cT G)) (va_Qi (g_is rz G) (g_Pre lo dd cT) (g_A lo)) 0 0 (g_A lo) := by
  refine g_start RX5 rfl (by decide) (Nat.le_of_ble_eq_true rfl) ?_
  intro p e s m below meth c hx hb hr hlocks hml hown hnm hts hK hG hlo ls hl
  have hl : lv_has ls 3 [(0, .ref a0), (1, .int x1)] := hl
  have hG : g_S lo dd cT s s.heap [] G := hG
  have h15 : ∀ n : Nat, ∀ (ba0 : Nat) (bx2 : Int32), ∀ (H : Heap) (locs : List Loc), g_S lo dd cT s H locs G → ∀ ls : Array Slot, lv_has ls 3 [(0, .ref ba0), (2, .int bx2)] → f_X5_linkOf_L15 G n ba0 bx2 = some rz → W p l e (g_rm 2 43 0 0) s m ([.ref a0, .int x1] : List Value).toArray below meth c H locs 0 0 (MQ below (va_Qi (g_is rz G) (g_Pre lo dd cT) (g_A lo)) ([.ref a0, .int x1] : List Value).toArray s 0 0 (g_A lo)) (F0 m 15 ls []) := by
    intro n
    induction n with
    | zero =>
      intro ba0 bx2 H locs hG ls hl h
      cases (show (none : Option Int32) = some rz from h)
    | succ n ih =>
      intro ba0 bx2 H locs hG ls hl h
      rw [f_X5_linkOf_L15] at h
      refine lv_iload_n hx hb dX5_linkOf_15 rfl (lv_at hl 1 rfl) ?_
      refine lv_if_lt (tgt := 36) hx hb dX5_linkOf_16 (by decide) (fun c16 => ?_) (fun c16 => ?_)
      · rw [if_pos c16] at h
        refine lv_iconst (v := (-1 : Int32)) hx hb dX5_linkOf_36 (by decide) ?_
        obtain rfl := Option.some.inj h
        exact g_iret hx hb hr hlocks hK hlo hG ⟨rfl, rfl⟩ dX5_linkOf_37
      · rw [if_neg c16] at h
        refine lv_aload_n hx hb dX5_linkOf_19 rfl (lv_at hl 0 rfl) ?_
        refine lv_iload_n hx hb dX5_linkOf_20 rfl (lv_at hl 1 rfl) ?_
        obtain ⟨u21, i21, h⟩ := Option.bind_eq_some_iff.mp h
        obtain ⟨v21, e21, h⟩ := Option.bind_eq_some_iff.mp h
        refine g_cVi (As := [.int bx2]) (rest := []) (n := 1) hx hb hml hown hts hK hlo hG (m_X5_stateOf l dd cT lo G ba0 bx2 e21) qM_X5_45 qI_yX5_stateOf qS_X5_yX5_stateOf qN_X5 qC_yX5_stateOf (by decide +kernel) ⟨Nat.le_of_ble_eq_true rfl, Nat.le_of_ble_eq_true rfl⟩ (by rfl) i21 rfl hl.1 rfl (Nat.le_of_ble_eq_true rfl) dX5_linkOf_21 ⟨Nat.le_of_ble_eq_true rfl, Nat.le_of_ble_eq_true rfl⟩ (fun H locs hG => ?_)
        refine lv_iconst (v := (1 : Int32)) hx hb dX5_linkOf_24 (by decide) ?_
        refine lv_icmp_ne (tgt := 30) hx hb dX5_linkOf_25 (by decide) (fun c25 => ?_) (fun c25 => ?_)
        · rw [if_neg c25] at h
          refine lv_iinc (v := (bx2 + (-1 : Int32))) (lv' := [(2, .int (bx2 + (-1 : Int32))), (0, .ref ba0)]) hx hb dX5_linkOf_30 hl (k := 1) rfl rfl (by decide) rfl (fun ls hl => ?_)
          refine lv_goto (tgt := 15) hx hb dX5_linkOf_33 (by decide) ?_
          exact ih ba0 (bx2 + (-1 : Int32)) _ _ hG _ (lv_sub hl [1, 0] rfl) h
        · rw [if_pos c25] at h
          refine lv_iload_n hx hb dX5_linkOf_28 rfl (lv_at hl 1 rfl) ?_
          obtain rfl := Option.some.inj h
          exact g_iret hx hb hr hlocks hK hlo hG ⟨rfl, rfl⟩ dX5_linkOf_29
  unfold f_X5_linkOf at h
  refine lv_aload_n hx hb dX5_linkOf_0 rfl (lv_at hl 0 rfl) ?_
  refine lv_iload_n hx hb dX5_linkOf_1 rfl (lv_at hl 1 rfl) ?_
  obtain ⟨u2, i2, h⟩ := Option.bind_eq_some_iff.mp h
  obtain ⟨v2, e2, h⟩ := Option.bind_eq_some_iff.mp h
  refine g_cVi (As := [.int x1]) (rest := []) (n := 1) hx hb hml hown hts hK hlo hG (m_X5_directoryOf l dd cT lo G a0 x1 e2) qM_X5_76 qI_yX5_directoryOf qS_X5_yX5_directoryOf qN_X5 qC_yX5_directoryOf (by decide +kernel) ⟨Nat.le_of_ble_eq_true rfl, Nat.le_of_ble_eq_true rfl⟩ (by rfl) i2 rfl hl.1 rfl (Nat.le_of_ble_eq_true rfl) dX5_linkOf_2 ⟨Nat.le_of_ble_eq_true rfl, Nat.le_of_ble_eq_true rfl⟩ (fun H locs hG => ?_)
  refine lv_iconst (v := (-1 : Int32)) hx hb dX5_linkOf_5 (by decide) ?_
  refine lv_icmp_ne (tgt := 11) hx hb dX5_linkOf_6 (by decide) (fun c6 => ?_) (fun c6 => ?_)
  · rw [if_neg c6] at h
    refine lv_iload_n hx hb dX5_linkOf_11 rfl (lv_at hl 1 rfl) ?_
    refine lv_iconst (v := (1 : Int32)) hx hb dX5_linkOf_12 (by decide) ?_
    refine lv_isub hx hb dX5_linkOf_13 ?_
    refine lv_istore_n (lv' := [(2, .int (x1 - (1 : Int32))), (0, .ref a0), (1, .int x1)]) hx hb dX5_linkOf_14 rfl hl (by decide) rfl (fun ls hl => ?_)
    exact h15 g_N a0 (x1 - (1 : Int32)) _ _ hG _ (lv_sub hl [1, 0] rfl) h
  · rw [if_pos c6] at h
    refine lv_iconst (v := (-1 : Int32)) hx hb dX5_linkOf_9 (by decide) ?_
    obtain rfl := Option.some.inj h
    exact g_iret hx hb hr hlocks hK hlo hG ⟨rfl, rfl⟩ dX5_linkOf_10
set_option maxRecDepth 20000 in
set_option maxHeartbeats 4000000 in
theorem m_X6_clear (l : Launch) (dd : va_G) (cT : Nat → ClassId) (lo : Nat → Prop) (G : gH) (a0 : Nat) {Gz : gH} (h : f_X6_clear G a0 = some Gz) : Met l yX6_clear (Cond.code yX6_clear cX6_clear 1 none :: wsL_law) (g_rm 1 22 0 0) (va_Pc [.ref a0] (g_Pre lo dd cT G)) (va_Qv (g_iv Gz) (g_Pre lo dd cT) (g_A lo)) 0 0 (g_A lo) := by
  refine g_start RX6 rfl (by decide) (Nat.le_of_ble_eq_true rfl) ?_
  intro p e s m below meth c hx hb hr hlocks hml hown hnm hts hK hG hlo ls hl
  have hl : lv_has ls 1 [(0, .ref a0)] := hl
  have hG : g_S lo dd cT s s.heap [] G := hG
  unfold f_X6_clear at h
  refine lv_aload_n hx hb dX6_clear_0 rfl (lv_at hl 0 rfl) ?_
  obtain ⟨v1, e1, h⟩ := Option.bind_eq_some_iff.mp h
  refine g_getr hx hb hts inlX6 hown hK hG (by rfl) 0 (by decide) qF_X6_9 e1 dX6_clear_1 ?_
  refine lv_iconst (v := (0 : Int32)) hx hb dX6_clear_4 (by decide) ?_
  obtain ⟨G5, e5, h⟩ := Option.bind_eq_some_iff.mp h
  refine g_cNv (As := [.ref v1, .int (0 : Int32)]) (rest := []) (n := 2) hx hb hml hown hts hK hlo hG (m_X9_fill_ l dd cT lo G v1 (0 : Int32) e5) (List.mem_of_getElem? (i := 31) rfl) qT_yX9_fill_ qN_X9 qC_yX9_fill_ (by decide +kernel) ⟨Nat.le_of_ble_eq_true rfl, Nat.le_of_ble_eq_true rfl⟩ rfl hl.1 rfl (Nat.le_of_ble_eq_true rfl) dX6_clear_5 ⟨Nat.le_of_ble_eq_true rfl, Nat.le_of_ble_eq_true rfl⟩ (fun H locs hG => ?_)
  obtain rfl := Option.some.inj h
  exact g_vret hx hb hr hlocks hK hlo hG rfl dX6_clear_8
set_option maxRecDepth 20000 in
set_option maxHeartbeats 4000000 in
theorem m_X7_takeFrom (l : Launch) (dd : va_G) (cT : Nat → ClassId) (lo : Nat → Prop) (G : gH) (a0 : Nat) (a1 : Nat) {Gz : gH} (h : f_X7_takeFrom G a0 a1 = some Gz) : Met l yX7_takeFrom (Cond.code yX7_takeFrom cX7_takeFrom 2 none :: wsL_law) (g_rm 1 22 0 0) (va_Pc [.ref a0, .ref a1] (g_Pre lo dd cT G)) (va_Qv (g_iv Gz) (g_Pre lo dd cT) (g_A lo)) 0 0 (g_A lo) := by
  refine g_start RX7 rfl (by decide) (Nat.le_of_ble_eq_true rfl) ?_
  intro p e s m below meth c hx hb hr hlocks hml hown hnm hts hK hG hlo ls hl
  have hl : lv_has ls 2 [(0, .ref a0), (1, .ref a1)] := hl
  have hG : g_S lo dd cT s s.heap [] G := hG
  unfold f_X7_takeFrom at h
  refine lv_aload_n hx hb dX7_takeFrom_0 rfl (lv_at hl 0 rfl) ?_
  refine lv_aload_n hx hb dX7_takeFrom_1 rfl (lv_at hl 1 rfl) ?_
  obtain ⟨v2, e2, h⟩ := Option.bind_eq_some_iff.mp h
  refine g_geti hx hb hts inlX7 hown hK hG (by rfl) 0 (by decide) qF_X7_9 e2 dX7_takeFrom_2 ?_
  obtain ⟨G5, i5, h⟩ := Option.bind_eq_some_iff.mp h
  refine g_putv hx hb hts inlX7 tyX7 tyX7_ok nmX7 hown hK hG (by rfl) 0 (by decide) qF_X7_9 rfl rfl rfl rfl i5 dX7_takeFrom_5 (fun H locs hG => ?_)
  refine lv_aload_n hx hb dX7_takeFrom_8 rfl (lv_at hl 1 rfl) ?_
  obtain ⟨v9, e9, h⟩ := Option.bind_eq_some_iff.mp h
  refine g_getr hx hb hts inlX7 hown hK hG (by rfl) 1 (by decide) qF_X7_15 e9 dX7_takeFrom_9 ?_
  refine lv_aload_n hx hb dX7_takeFrom_12 rfl (lv_at hl 0 rfl) ?_
  obtain ⟨v13, e13, h⟩ := Option.bind_eq_some_iff.mp h
  refine g_getr hx hb hts inlX7 hown hK hG (by rfl) 1 (by decide) qF_X7_15 e13 dX7_takeFrom_13 ?_
  obtain ⟨G16, e16, h⟩ := Option.bind_eq_some_iff.mp h
  refine g_cNv (As := [.ref v9, .ref v13]) (rest := []) (n := 2) hx hb hml hown hts hK hlo hG (m_X9_copy l dd cT lo G5 v9 v13 e16) (List.mem_of_getElem? (i := 46) rfl) qT_yX9_copy qN_X9 qC_yX9_copy (by decide +kernel) ⟨Nat.le_of_ble_eq_true rfl, Nat.le_of_ble_eq_true rfl⟩ rfl hl.1 rfl (Nat.le_of_ble_eq_true rfl) dX7_takeFrom_16 ⟨Nat.le_of_ble_eq_true rfl, Nat.le_of_ble_eq_true rfl⟩ (fun H locs hG => ?_)
  refine lv_aload_n hx hb dX7_takeFrom_19 rfl (lv_at hl 1 rfl) ?_
  obtain ⟨v20, e20, h⟩ := Option.bind_eq_some_iff.mp h
  refine g_getr hx hb hts inlX7 hown hK hG (by rfl) 2 (by decide) qF_X7_19 e20 dX7_takeFrom_20 ?_
  refine lv_aload_n hx hb dX7_takeFrom_23 rfl (lv_at hl 0 rfl) ?_
  obtain ⟨v24, e24, h⟩ := Option.bind_eq_some_iff.mp h
  refine g_getr hx hb hts inlX7 hown hK hG (by rfl) 2 (by decide) qF_X7_19 e24 dX7_takeFrom_24 ?_
  obtain ⟨G27, e27, h⟩ := Option.bind_eq_some_iff.mp h
  refine g_cNv (As := [.ref v20, .ref v24]) (rest := []) (n := 2) hx hb hml hown hts hK hlo hG (m_X9_copy l dd cT lo G16 v20 v24 e27) (List.mem_of_getElem? (i := 46) rfl) qT_yX9_copy qN_X9 qC_yX9_copy (by decide +kernel) ⟨Nat.le_of_ble_eq_true rfl, Nat.le_of_ble_eq_true rfl⟩ rfl hl.1 rfl (Nat.le_of_ble_eq_true rfl) dX7_takeFrom_27 ⟨Nat.le_of_ble_eq_true rfl, Nat.le_of_ble_eq_true rfl⟩ (fun H locs hG => ?_)
  refine lv_aload_n hx hb dX7_takeFrom_30 rfl (lv_at hl 1 rfl) ?_
  obtain ⟨v31, e31, h⟩ := Option.bind_eq_some_iff.mp h
  refine g_getr hx hb hts inlX7 hown hK hG (by rfl) 3 (by decide) qF_X7_22 e31 dX7_takeFrom_31 ?_
  refine lv_aload_n hx hb dX7_takeFrom_34 rfl (lv_at hl 0 rfl) ?_
  obtain ⟨v35, e35, h⟩ := Option.bind_eq_some_iff.mp h
  refine g_getr hx hb hts inlX7 hown hK hG (by rfl) 3 (by decide) qF_X7_22 e35 dX7_takeFrom_35 ?_
  obtain ⟨G38, e38, h⟩ := Option.bind_eq_some_iff.mp h
  refine g_cNv (As := [.ref v31, .ref v35]) (rest := []) (n := 2) hx hb hml hown hts hK hlo hG (m_X9_copy l dd cT lo G27 v31 v35 e38) (List.mem_of_getElem? (i := 46) rfl) qT_yX9_copy qN_X9 qC_yX9_copy (by decide +kernel) ⟨Nat.le_of_ble_eq_true rfl, Nat.le_of_ble_eq_true rfl⟩ rfl hl.1 rfl (Nat.le_of_ble_eq_true rfl) dX7_takeFrom_38 ⟨Nat.le_of_ble_eq_true rfl, Nat.le_of_ble_eq_true rfl⟩ (fun H locs hG => ?_)
  refine lv_aload_n hx hb dX7_takeFrom_41 rfl (lv_at hl 1 rfl) ?_
  obtain ⟨v42, e42, h⟩ := Option.bind_eq_some_iff.mp h
  refine g_getr hx hb hts inlX7 hown hK hG (by rfl) 4 (by decide) qF_X7_25 e42 dX7_takeFrom_42 ?_
  refine lv_aload_n hx hb dX7_takeFrom_45 rfl (lv_at hl 0 rfl) ?_
  obtain ⟨v46, e46, h⟩ := Option.bind_eq_some_iff.mp h
  refine g_getr hx hb hts inlX7 hown hK hG (by rfl) 4 (by decide) qF_X7_25 e46 dX7_takeFrom_46 ?_
  obtain ⟨G49, e49, h⟩ := Option.bind_eq_some_iff.mp h
  refine g_cNv (As := [.ref v42, .ref v46]) (rest := []) (n := 2) hx hb hml hown hts hK hlo hG (m_X9_copy l dd cT lo G38 v42 v46 e49) (List.mem_of_getElem? (i := 46) rfl) qT_yX9_copy qN_X9 qC_yX9_copy (by decide +kernel) ⟨Nat.le_of_ble_eq_true rfl, Nat.le_of_ble_eq_true rfl⟩ rfl hl.1 rfl (Nat.le_of_ble_eq_true rfl) dX7_takeFrom_49 ⟨Nat.le_of_ble_eq_true rfl, Nat.le_of_ble_eq_true rfl⟩ (fun H locs hG => ?_)
  refine lv_aload_n hx hb dX7_takeFrom_52 rfl (lv_at hl 1 rfl) ?_
  obtain ⟨v53, e53, h⟩ := Option.bind_eq_some_iff.mp h
  refine g_getr hx hb hts inlX7 hown hK hG (by rfl) 5 (by decide) qF_X7_28 e53 dX7_takeFrom_53 ?_
  refine lv_aload_n hx hb dX7_takeFrom_56 rfl (lv_at hl 0 rfl) ?_
  obtain ⟨v57, e57, h⟩ := Option.bind_eq_some_iff.mp h
  refine g_getr hx hb hts inlX7 hown hK hG (by rfl) 5 (by decide) qF_X7_28 e57 dX7_takeFrom_57 ?_
  obtain ⟨G60, e60, h⟩ := Option.bind_eq_some_iff.mp h
  refine g_cNv (As := [.ref v53, .ref v57]) (rest := []) (n := 2) hx hb hml hown hts hK hlo hG (m_X9_copy l dd cT lo G49 v53 v57 e60) (List.mem_of_getElem? (i := 46) rfl) qT_yX9_copy qN_X9 qC_yX9_copy (by decide +kernel) ⟨Nat.le_of_ble_eq_true rfl, Nat.le_of_ble_eq_true rfl⟩ rfl hl.1 rfl (Nat.le_of_ble_eq_true rfl) dX7_takeFrom_60 ⟨Nat.le_of_ble_eq_true rfl, Nat.le_of_ble_eq_true rfl⟩ (fun H locs hG => ?_)
  obtain rfl := Option.some.inj h
  exact g_vret hx hb hr hlocks hK hlo hG rfl dX7_takeFrom_63

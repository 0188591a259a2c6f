/-! Lifted methods, by program (wip/whole/tools/lift.py). -/
set_option maxRecDepth 20000 in
set_option maxHeartbeats 4000000 in
theorem m_X7_add (l : Launch) (dd : va_G) (cT : Nat → ClassId) (lo : Nat → Prop) (G : gH) (a0 : Nat) (x1 : Int32) (x2 : Int32) (x3 : Int32) (x4 : Int32) (x5 : Int32) {rz : Int32} {Gz : gH} (h : f_X7_add G a0 x1 x2 x3 x4 x5 = some (Gz, rz)) : Met l yX7_add (Cond.code yX7_add cX7_add 7 (some .int) :: wsL_law) (g_rm 1 22 0 0) (va_Pc [.ref a0, .int x1, .int x2, .int x3, .int x4, .int x5] (g_Pre lo dd cT G)) (va_Qi (g_is rz Gz) (g_Pre lo dd cT) (g_A lo)) 0 0 (g_A lo) := by
  refine g_start RX7 rfl (by decide) (Nat.le_of_ble_eq_true rfl) ?_
  intro p e s m below meth c hx hb hr hlocks hml hown hnm hts hK hG hlo ls hl
  have hl : lv_has ls 7 [(0, .ref a0), (1, .int x1), (2, .int x2), (3, .int x3), (4, .int x4), (5, .int x5)] := hl
  have hG : g_S lo dd cT s s.heap [] G := hG
  unfold f_X7_add at h
  refine lv_aload_n hx hb dX7_add_0 rfl (lv_at hl 0 rfl) ?_
  obtain ⟨v1, e1, h⟩ := Option.bind_eq_some_iff.mp h
  refine g_geti hx hb hts inlX7 hown hK hG (by rfl) 0 (by decide) qF_X7_9 e1 dX7_add_1 ?_
  refine lv_istore (lv' := [(6, .int v1), (0, .ref a0), (1, .int x1), (2, .int x2), (3, .int x3), (4, .int x4), (5, .int x5)]) hx hb dX7_add_4 hl (by decide) rfl (fun ls hl => ?_)
  refine lv_aload_n hx hb dX7_add_6 rfl (lv_at hl 1 rfl) ?_
  refine lv_dup hx hb dX7_add_7 rfl ?_
  obtain ⟨v8, e8, h⟩ := Option.bind_eq_some_iff.mp h
  refine g_geti hx hb hts inlX7 hown hK hG (by rfl) 0 (by decide) qF_X7_9 e8 dX7_add_8 ?_
  refine lv_iconst (v := (1 : Int32)) hx hb dX7_add_11 (by decide) ?_
  refine lv_iadd hx hb dX7_add_12 ?_
  obtain ⟨G13, i13, h⟩ := Option.bind_eq_some_iff.mp h
  refine g_putv hx hb hts inlX7 tyX7 tyX7_ok nmX7 hown hK hG (by rfl) 0 (by decide) qF_X7_9 rfl rfl rfl rfl i13 dX7_add_13 (fun H locs hG => ?_)
  refine lv_aload_n hx hb dX7_add_16 rfl (lv_at hl 1 rfl) ?_
  obtain ⟨v17, e17, h⟩ := Option.bind_eq_some_iff.mp h
  refine g_getr hx hb hts inlX7 hown hK hG (by rfl) 1 (by decide) qF_X7_15 e17 dX7_add_17 ?_
  refine lv_iload hx hb dX7_add_20 (lv_at hl 0 rfl) ?_
  refine lv_iload_n hx hb dX7_add_22 rfl (lv_at hl 2 rfl) ?_
  obtain ⟨G23, e23, h⟩ := Option.bind_eq_some_iff.mp h
  refine g_cNv (As := [.ref v17, .int v1, .int x1]) (rest := []) (n := 3) hx hb hml hown hts hK hlo hG (m_X9_put l dd cT lo G13 v17 v1 x1 e23) (List.mem_of_getElem? (i := 47) rfl) qT_yX9_put qN_X9 qC_yX9_put (by decide +kernel) ⟨Nat.le_of_ble_eq_true rfl, Nat.le_of_ble_eq_true rfl⟩ rfl hl.1 rfl (Nat.le_of_ble_eq_true rfl) dX7_add_23 ⟨Nat.le_of_ble_eq_true rfl, Nat.le_of_ble_eq_true rfl⟩ (fun H locs hG => ?_)
  refine lv_aload_n hx hb dX7_add_26 rfl (lv_at hl 1 rfl) ?_
  obtain ⟨v27, e27, h⟩ := Option.bind_eq_some_iff.mp h
  refine g_getr hx hb hts inlX7 hown hK hG (by rfl) 2 (by decide) qF_X7_19 e27 dX7_add_27 ?_
  refine lv_iload hx hb dX7_add_30 (lv_at hl 0 rfl) ?_
  refine lv_iload_n hx hb dX7_add_32 rfl (lv_at hl 3 rfl) ?_
  obtain ⟨G33, e33, h⟩ := Option.bind_eq_some_iff.mp h
  refine g_cNv (As := [.ref v27, .int v1, .int x2]) (rest := []) (n := 3) hx hb hml hown hts hK hlo hG (m_X9_put l dd cT lo G23 v27 v1 x2 e33) (List.mem_of_getElem? (i := 47) rfl) qT_yX9_put qN_X9 qC_yX9_put (by decide +kernel) ⟨Nat.le_of_ble_eq_true rfl, Nat.le_of_ble_eq_true rfl⟩ rfl hl.1 rfl (Nat.le_of_ble_eq_true rfl) dX7_add_33 ⟨Nat.le_of_ble_eq_true rfl, Nat.le_of_ble_eq_true rfl⟩ (fun H locs hG => ?_)
  refine lv_aload_n hx hb dX7_add_36 rfl (lv_at hl 1 rfl) ?_
  obtain ⟨v37, e37, h⟩ := Option.bind_eq_some_iff.mp h
  refine g_getr hx hb hts inlX7 hown hK hG (by rfl) 3 (by decide) qF_X7_22 e37 dX7_add_37 ?_
  refine lv_iload hx hb dX7_add_40 (lv_at hl 0 rfl) ?_
  refine lv_iload_n hx hb dX7_add_42 rfl (lv_at hl 4 rfl) ?_
  obtain ⟨G43, e43, h⟩ := Option.bind_eq_some_iff.mp h
  refine g_cNv (As := [.ref v37, .int v1, .int x3]) (rest := []) (n := 3) hx hb hml hown hts hK hlo hG (m_X9_put l dd cT lo G33 v37 v1 x3 e43) (List.mem_of_getElem? (i := 47) rfl) qT_yX9_put qN_X9 qC_yX9_put (by decide +kernel) ⟨Nat.le_of_ble_eq_true rfl, Nat.le_of_ble_eq_true rfl⟩ rfl hl.1 rfl (Nat.le_of_ble_eq_true rfl) dX7_add_43 ⟨Nat.le_of_ble_eq_true rfl, Nat.le_of_ble_eq_true rfl⟩ (fun H locs hG => ?_)
  refine lv_aload_n hx hb dX7_add_46 rfl (lv_at hl 1 rfl) ?_
  obtain ⟨v47, e47, h⟩ := Option.bind_eq_some_iff.mp h
  refine g_getr hx hb hts inlX7 hown hK hG (by rfl) 4 (by decide) qF_X7_25 e47 dX7_add_47 ?_
  refine lv_iload hx hb dX7_add_50 (lv_at hl 0 rfl) ?_
  refine lv_iload hx hb dX7_add_52 (lv_at hl 5 rfl) ?_
  obtain ⟨G54, e54, h⟩ := Option.bind_eq_some_iff.mp h
  refine g_cNv (As := [.ref v47, .int v1, .int x4]) (rest := []) (n := 3) hx hb hml hown hts hK hlo hG (m_X9_put l dd cT lo G43 v47 v1 x4 e54) (List.mem_of_getElem? (i := 47) rfl) qT_yX9_put qN_X9 qC_yX9_put (by decide +kernel) ⟨Nat.le_of_ble_eq_true rfl, Nat.le_of_ble_eq_true rfl⟩ rfl hl.1 rfl (Nat.le_of_ble_eq_true rfl) dX7_add_54 ⟨Nat.le_of_ble_eq_true rfl, Nat.le_of_ble_eq_true rfl⟩ (fun H locs hG => ?_)
  refine lv_aload_n hx hb dX7_add_57 rfl (lv_at hl 1 rfl) ?_
  obtain ⟨v58, e58, h⟩ := Option.bind_eq_some_iff.mp h
  refine g_getr hx hb hts inlX7 hown hK hG (by rfl) 5 (by decide) qF_X7_28 e58 dX7_add_58 ?_
  refine lv_iload hx hb dX7_add_61 (lv_at hl 0 rfl) ?_
  refine lv_iload hx hb dX7_add_63 (lv_at hl 6 rfl) ?_
  obtain ⟨G65, e65, h⟩ := Option.bind_eq_some_iff.mp h
  refine g_cNv (As := [.ref v58, .int v1, .int x5]) (rest := []) (n := 3) hx hb hml hown hts hK hlo hG (m_X9_put l dd cT lo G54 v58 v1 x5 e65) (List.mem_of_getElem? (i := 47) rfl) qT_yX9_put qN_X9 qC_yX9_put (by decide +kernel) ⟨Nat.le_of_ble_eq_true rfl, Nat.le_of_ble_eq_true rfl⟩ rfl hl.1 rfl (Nat.le_of_ble_eq_true rfl) dX7_add_65 ⟨Nat.le_of_ble_eq_true rfl, Nat.le_of_ble_eq_true rfl⟩ (fun H locs hG => ?_)
  refine lv_iload hx hb dX7_add_68 (lv_at hl 0 rfl) ?_
  obtain ⟨rfl, rfl⟩ := Prod.mk.inj (Option.some.inj h)
  exact g_iret hx hb hr hlocks hK hlo hG ⟨rfl, rfl⟩ dX7_add_70
set_option maxRecDepth 20000 in
set_option maxHeartbeats 4000000 in
theorem m_X7_fileOf (l : Launch) (dd : va_G) (cT : Nat → ClassId) (lo : Nat → Prop) (G : gH) (a0 : Nat) (x1 : Int32) {rz : Int32} (h : f_X7_fileOf G a0 x1 = some rz) : Met l yX7_fileOf (Cond.code yX7_fileOf cX7_fileOf 2 (some .int) :: wsL_law) (g_rm 1 22 0 0) (va_Pc [.ref a0, .int x1] (g_Pre lo dd cT G)) (va_Qi (g_is rz G) (g_Pre lo dd cT) (g_A lo)) 0 0 (g_A lo) := by
  refine g_start RX7 rfl (by decide) (Nat.le_of_ble_eq_true rfl) ?_
  intro p e s m below meth c hx hb hr hlocks hml hown hnm hts hK hG hlo ls hl
  have hl : lv_has ls 2 [(0, .ref a0), (1, .int x1)] := hl
  have hG : g_S lo dd cT s s.heap [] G := hG
  unfold f_X7_fileOf at h
  refine lv_aload_n hx hb dX7_fileOf_0 rfl (lv_at hl 0 rfl) ?_
  obtain ⟨v1, e1, h⟩ := Option.bind_eq_some_iff.mp h
  refine g_getr hx hb hts inlX7 hown hK hG (by rfl) 1 (by decide) qF_X7_15 e1 dX7_fileOf_1 ?_
  refine lv_iload_n hx hb dX7_fileOf_4 rfl (lv_at hl 1 rfl) ?_
  refine lv_iconst (v := (-1 : Int32)) hx hb dX7_fileOf_5 (by decide) ?_
  obtain ⟨v6, e6, h⟩ := Option.bind_eq_some_iff.mp h
  refine g_cNi (As := [.ref v1, .int x1, .int (-1 : Int32)]) (rest := []) (n := 3) hx hb hml hown hts hK hlo hG (m_X9_at l dd cT lo G v1 x1 (-1 : Int32) e6) (List.mem_of_getElem? (i := 48) rfl) qT_yX9_at qN_X9 qC_yX9_at (by decide +kernel) ⟨Nat.le_of_ble_eq_true rfl, Nat.le_of_ble_eq_true rfl⟩ rfl hl.1 rfl (Nat.le_of_ble_eq_true rfl) dX7_fileOf_6 ⟨Nat.le_of_ble_eq_true rfl, Nat.le_of_ble_eq_true rfl⟩ (fun H locs hG => ?_)
  obtain rfl := Option.some.inj h
  exact g_iret hx hb hr hlocks hK hlo hG ⟨rfl, rfl⟩ dX7_fileOf_9
set_option maxRecDepth 20000 in
set_option maxHeartbeats 4000000 in
theorem m_X7_firstOf (l : Launch) (dd : va_G) (cT : Nat → ClassId) (lo : Nat → Prop) (G : gH) (a0 : Nat) (x1 : Int32) {rz : Int32} (h : f_X7_firstOf G a0 x1 = some rz) : Met l yX7_firstOf (Cond.code yX7_firstOf cX7_firstOf 2 (some .int) :: wsL_law) (g_rm 1 22 0 0) (va_Pc [.ref a0, .int x1] (g_Pre lo dd cT G)) (va_Qi (g_is rz G) (g_Pre lo dd cT) (g_A lo)) 0 0 (g_A lo) := by
  refine g_start RX7 rfl (by decide) (Nat.le_of_ble_eq_true rfl) ?_
  intro p e s m below meth c hx hb hr hlocks hml hown hnm hts hK hG hlo ls hl
  have hl : lv_has ls 2 [(0, .ref a0), (1, .int x1)] := hl
  have hG : g_S lo dd cT s s.heap [] G := hG
  unfold f_X7_firstOf at h
  refine lv_aload_n hx hb dX7_firstOf_0 rfl (lv_at hl 0 rfl) ?_
  obtain ⟨v1, e1, h⟩ := Option.bind_eq_some_iff.mp h
  refine g_getr hx hb hts inlX7 hown hK hG (by rfl) 2 (by decide) qF_X7_19 e1 dX7_firstOf_1 ?_
  refine lv_iload_n hx hb dX7_firstOf_4 rfl (lv_at hl 1 rfl) ?_
  refine lv_iconst (v := (-1 : Int32)) hx hb dX7_firstOf_5 (by decide) ?_
  obtain ⟨v6, e6, h⟩ := Option.bind_eq_some_iff.mp h
  refine g_cNi (As := [.ref v1, .int x1, .int (-1 : Int32)]) (rest := []) (n := 3) hx hb hml hown hts hK hlo hG (m_X9_at l dd cT lo G v1 x1 (-1 : Int32) e6) (List.mem_of_getElem? (i := 48) rfl) qT_yX9_at qN_X9 qC_yX9_at (by decide +kernel) ⟨Nat.le_of_ble_eq_true rfl, Nat.le_of_ble_eq_true rfl⟩ rfl hl.1 rfl (Nat.le_of_ble_eq_true rfl) dX7_firstOf_6 ⟨Nat.le_of_ble_eq_true rfl, Nat.le_of_ble_eq_true rfl⟩ (fun H locs hG => ?_)
  obtain rfl := Option.some.inj h
  exact g_iret hx hb hr hlocks hK hlo hG ⟨rfl, rfl⟩ dX7_firstOf_9
set_option maxRecDepth 20000 in
set_option maxHeartbeats 4000000 in
theorem m_X7_lengthOf (l : Launch) (dd : va_G) (cT : Nat → ClassId) (lo : Nat → Prop) (G : gH) (a0 : Nat) (x1 : Int32) {rz : Int32} (h : f_X7_lengthOf G a0 x1 = some rz) : Met l yX7_lengthOf (Cond.code yX7_lengthOf cX7_lengthOf 2 (some .int) :: wsL_law) (g_rm 1 22 0 0) (va_Pc [.ref a0, .int x1] (g_Pre lo dd cT G)) (va_Qi (g_is rz G) (g_Pre lo dd cT) (g_A lo)) 0 0 (g_A lo) := by
  refine g_start RX7 rfl (by decide) (Nat.le_of_ble_eq_true rfl) ?_
  intro p e s m below meth c hx hb hr hlocks hml hown hnm hts hK hG hlo ls hl
  have hl : lv_has ls 2 [(0, .ref a0), (1, .int x1)] := hl
  have hG : g_S lo dd cT s s.heap [] G := hG
  unfold f_X7_lengthOf at h
  refine lv_aload_n hx hb dX7_lengthOf_0 rfl (lv_at hl 0 rfl) ?_
  obtain ⟨v1, e1, h⟩ := Option.bind_eq_some_iff.mp h
  refine g_getr hx hb hts inlX7 hown hK hG (by rfl) 3 (by decide) qF_X7_22 e1 dX7_lengthOf_1 ?_
  refine lv_iload_n hx hb dX7_lengthOf_4 rfl (lv_at hl 1 rfl) ?_
  refine lv_iconst (v := (0 : Int32)) hx hb dX7_lengthOf_5 (by decide) ?_
  obtain ⟨v6, e6, h⟩ := Option.bind_eq_some_iff.mp h
  refine g_cNi (As := [.ref v1, .int x1, .int (0 : Int32)]) (rest := []) (n := 3) hx hb hml hown hts hK hlo hG (m_X9_at l dd cT lo G v1 x1 (0 : Int32) e6) (List.mem_of_getElem? (i := 48) rfl) qT_yX9_at qN_X9 qC_yX9_at (by decide +kernel) ⟨Nat.le_of_ble_eq_true rfl, Nat.le_of_ble_eq_true rfl⟩ rfl hl.1 rfl (Nat.le_of_ble_eq_true rfl) dX7_lengthOf_6 ⟨Nat.le_of_ble_eq_true rfl, Nat.le_of_ble_eq_true rfl⟩ (fun H locs hG => ?_)
  obtain rfl := Option.some.inj h
  exact g_iret hx hb hr hlocks hK hlo hG ⟨rfl, rfl⟩ dX7_lengthOf_9
set_option maxRecDepth 20000 in
set_option maxHeartbeats 4000000 in
theorem m_X7_tagOf (l : Launch) (dd : va_G) (cT : Nat → ClassId) (lo : Nat → Prop) (G : gH) (a0 : Nat) (x1 : Int32) {rz : Int32} (h : f_X7_tagOf G a0 x1 = some rz) : Met l yX7_tagOf (Cond.code yX7_tagOf cX7_tagOf 2 (some .int) :: wsL_law) (g_rm 1 22 0 0) (va_Pc [.ref a0, .int x1] (g_Pre lo dd cT G)) (va_Qi (g_is rz G) (g_Pre lo dd cT) (g_A lo)) 0 0 (g_A lo) := by
  refine g_start RX7 rfl (by decide) (Nat.le_of_ble_eq_true rfl) ?_
  intro p e s m below meth c hx hb hr hlocks hml hown hnm hts hK hG hlo ls hl
  have hl : lv_has ls 2 [(0, .ref a0), (1, .int x1)] := hl
  have hG : g_S lo dd cT s s.heap [] G := hG
  unfold f_X7_tagOf at h
  refine lv_aload_n hx hb dX7_tagOf_0 rfl (lv_at hl 0 rfl) ?_
  obtain ⟨v1, e1, h⟩ := Option.bind_eq_some_iff.mp h
  refine g_getr hx hb hts inlX7 hown hK hG (by rfl) 4 (by decide) qF_X7_25 e1 dX7_tagOf_1 ?_
  refine lv_iload_n hx hb dX7_tagOf_4 rfl (lv_at hl 1 rfl) ?_
  refine lv_iconst (v := (-1 : Int32)) hx hb dX7_tagOf_5 (by decide) ?_
  obtain ⟨v6, e6, h⟩ := Option.bind_eq_some_iff.mp h
  refine g_cNi (As := [.ref v1, .int x1, .int (-1 : Int32)]) (rest := []) (n := 3) hx hb hml hown hts hK hlo hG (m_X9_at l dd cT lo G v1 x1 (-1 : Int32) e6) (List.mem_of_getElem? (i := 48) rfl) qT_yX9_at qN_X9 qC_yX9_at (by decide +kernel) ⟨Nat.le_of_ble_eq_true rfl, Nat.le_of_ble_eq_true rfl⟩ rfl hl.1 rfl (Nat.le_of_ble_eq_true rfl) dX7_tagOf_6 ⟨Nat.le_of_ble_eq_true rfl, Nat.le_of_ble_eq_true rfl⟩ (fun H locs hG => ?_)
  obtain rfl := Option.some.inj h
  exact g_iret hx hb hr hlocks hK hlo hG ⟨rfl, rfl⟩ dX7_tagOf_9
set_option maxRecDepth 20000 in
set_option maxHeartbeats 4000000 in
theorem m_X7_writerOf (l : Launch) (dd : va_G) (cT : Nat → ClassId) (lo : Nat → Prop) (G : gH) (a0 : Nat) (x1 : Int32) {rz : Int32} (h : f_X7_writerOf G a0 x1 = some rz) : Met l yX7_writerOf (Cond.code yX7_writerOf cX7_writerOf 2 (some .int) :: wsL_law) (g_rm 1 22 0 0) (va_Pc [.ref a0, .int x1] (g_Pre lo dd cT G)) (va_Qi (g_is rz G) (g_Pre lo dd cT) (g_A lo)) 0 0 (g_A lo) := by
  refine g_start RX7 rfl (by decide) (Nat.le_of_ble_eq_true rfl) ?_
  intro p e s m below meth c hx hb hr hlocks hml hown hnm hts hK hG hlo ls hl
  have hl : lv_has ls 2 [(0, .ref a0), (1, .int x1)] := hl
  have hG : g_S lo dd cT s s.heap [] G := hG
  unfold f_X7_writerOf at h
  refine lv_aload_n hx hb dX7_writerOf_0 rfl (lv_at hl 0 rfl) ?_
  obtain ⟨v1, e1, h⟩ := Option.bind_eq_some_iff.mp h
  refine g_getr hx hb hts inlX7 hown hK hG (by rfl) 5 (by decide) qF_X7_28 e1 dX7_writerOf_1 ?_
  refine lv_iload_n hx hb dX7_writerOf_4 rfl (lv_at hl 1 rfl) ?_
  refine lv_iconst (v := (-1 : Int32)) hx hb dX7_writerOf_5 (by decide) ?_
  obtain ⟨v6, e6, h⟩ := Option.bind_eq_some_iff.mp h
  refine g_cNi (As := [.ref v1, .int x1, .int (-1 : Int32)]) (rest := []) (n := 3) hx hb hml hown hts hK hlo hG (m_X9_at l dd cT lo G v1 x1 (-1 : Int32) e6) (List.mem_of_getElem? (i := 48) rfl) qT_yX9_at qN_X9 qC_yX9_at (by decide +kernel) ⟨Nat.le_of_ble_eq_true rfl, Nat.le_of_ble_eq_true rfl⟩ rfl hl.1 rfl (Nat.le_of_ble_eq_true rfl) dX7_writerOf_6 ⟨Nat.le_of_ble_eq_true rfl, Nat.le_of_ble_eq_true rfl⟩ (fun H locs hG => ?_)
  obtain rfl := Option.some.inj h
  exact g_iret hx hb hr hlocks hK hlo hG ⟨rfl, rfl⟩ dX7_writerOf_9
set_option maxRecDepth 20000 in
set_option maxHeartbeats 4000000 in
theorem m_X7_countOf (l : Launch) (dd : va_G) (cT : Nat → ClassId) (lo : Nat → Prop) (G : gH) (a0 : Nat) (x1 : Int32) {rz : Int32} (h : f_X7_countOf G a0 x1 = some rz) : Met l yX7_countOf (Cond.code yX7_countOf cX7_countOf 4 (some .int) :: wsL_law) (g_rm 2 43 0 0) (va_Pc [.ref a0, .int x1] (g_Pre lo dd cT G)) (va_Qi (g_is rz G) (g_Pre lo dd cT) (g_A lo)) 0 0 (g_A lo) := by
  refine g_start RX7 rfl (by decide) (Nat.le_of_ble_eq_true rfl) ?_
  intro p e s m below meth c hx hb hr hlocks hml hown hnm hts hK hG hlo ls hl
  have hl : lv_has ls 4 [(0, .ref a0), (1, .int x1)] := hl
  have hG : g_S lo dd cT s s.heap [] G := hG
  have h4 : ∀ n : Nat, ∀ (ba0 : Nat) (bx1 : Int32) (bx2 : Int32) (bx3 : Int32), ∀ (H : Heap) (locs : List Loc), g_S lo dd cT s H locs G → ∀ ls : Array Slot, lv_has ls 4 [(0, .ref ba0), (1, .int bx1), (2, .int bx2), (3, .int bx3)] → f_X7_countOf_L4 G n ba0 bx1 bx2 bx3 = some rz → W p l e (g_rm 2 43 0 0) s m ([.ref a0, .int x1] : List Value).toArray below meth c H locs 0 0 (MQ below (va_Qi (g_is rz G) (g_Pre lo dd cT) (g_A lo)) ([.ref a0, .int x1] : List Value).toArray s 0 0 (g_A lo)) (F0 m 4 ls []) := by
    intro n
    induction n with
    | zero =>
      intro ba0 bx1 bx2 bx3 H locs hG ls hl h
      cases (show (none : Option Int32) = some rz from h)
    | succ n ih =>
      intro ba0 bx1 bx2 bx3 H locs hG ls hl h
      rw [f_X7_countOf_L4] at h
      refine lv_iload_n hx hb dX7_countOf_4 rfl (lv_at hl 3 rfl) ?_
      refine lv_aload_n hx hb dX7_countOf_5 rfl (lv_at hl 0 rfl) ?_
      obtain ⟨v6, e6, h⟩ := Option.bind_eq_some_iff.mp h
      refine g_geti hx hb hts inlX7 hown hK hG (by rfl) 0 (by decide) qF_X7_9 e6 dX7_countOf_6 ?_
      refine lv_icmp_ge (tgt := 38) hx hb dX7_countOf_9 (by decide) (fun c9 => ?_) (fun c9 => ?_)
      · rw [if_pos c9] at h
        refine lv_iload_n hx hb dX7_countOf_38 rfl (lv_at hl 2 rfl) ?_
        obtain rfl := Option.some.inj h
        exact g_iret hx hb hr hlocks hK hlo hG ⟨rfl, rfl⟩ dX7_countOf_39
      · rw [if_neg c9] at h
        refine lv_iload_n hx hb dX7_countOf_12 rfl (lv_at hl 2 rfl) ?_
        refine lv_aload_n hx hb dX7_countOf_13 rfl (lv_at hl 0 rfl) ?_
        refine lv_iload_n hx hb dX7_countOf_14 rfl (lv_at hl 3 rfl) ?_
        obtain ⟨u15, i15, h⟩ := Option.bind_eq_some_iff.mp h
        obtain ⟨v15, e15, h⟩ := Option.bind_eq_some_iff.mp h
        refine g_cVi (As := [.int bx3]) (rest := [.int bx2]) (n := 1) hx hb hml hown hts hK hlo hG (m_X7_fileOf l dd cT lo G ba0 bx3 e15) qM_X7_43 qI_yX7_fileOf qS_X7_yX7_fileOf qN_X7 qC_yX7_fileOf (by decide +kernel) ⟨Nat.le_of_ble_eq_true rfl, Nat.le_of_ble_eq_true rfl⟩ (by rfl) i15 rfl hl.1 rfl (Nat.le_of_ble_eq_true rfl) dX7_countOf_15 ⟨Nat.le_of_ble_eq_true rfl, Nat.le_of_ble_eq_true rfl⟩ (fun H locs hG => ?_)
        refine lv_iload_n hx hb dX7_countOf_18 rfl (lv_at hl 1 rfl) ?_
        refine lv_icmp_ne (tgt := 26) hx hb dX7_countOf_19 (by decide) (fun c19 => ?_) (fun c19 => ?_)
        · rw [if_neg c19] at h
          refine lv_iconst (v := (0 : Int32)) hx hb dX7_countOf_26 (by decide) ?_
          obtain ⟨v27, e27, h⟩ := Option.bind_eq_some_iff.mp h
          refine g_cNi (As := [.int (0 : Int32)]) (rest := [.int bx2]) (n := 1) hx hb hml hown hts hK hlo hG (m_X9_oneIf l dd cT lo G (0 : Int32) e27) (List.mem_of_getElem? (i := 49) rfl) qT_yX9_oneIf qN_X9 qC_yX9_oneIf (by decide +kernel) ⟨Nat.le_of_ble_eq_true rfl, Nat.le_of_ble_eq_true rfl⟩ rfl hl.1 rfl (Nat.le_of_ble_eq_true rfl) dX7_countOf_27 ⟨Nat.le_of_ble_eq_true rfl, Nat.le_of_ble_eq_true rfl⟩ (fun H locs hG => ?_)
          refine lv_iadd hx hb dX7_countOf_30 ?_
          refine lv_istore_n (lv' := [(2, .int (bx2 + v27)), (0, .ref ba0), (1, .int bx1), (3, .int bx3)]) hx hb dX7_countOf_31 rfl hl (by decide) rfl (fun ls hl => ?_)
          refine lv_iinc (v := (bx3 + (1 : Int32))) (lv' := [(3, .int (bx3 + (1 : Int32))), (2, .int (bx2 + v27)), (0, .ref ba0), (1, .int bx1)]) hx hb dX7_countOf_32 hl (k := 3) rfl rfl (by decide) rfl (fun ls hl => ?_)
          refine lv_goto (tgt := 4) hx hb dX7_countOf_35 (by decide) ?_
          exact ih ba0 bx1 (bx2 + v27) (bx3 + (1 : Int32)) _ _ hG _ (lv_sub hl [2, 3, 1, 0] rfl) h
        · rw [if_pos c19] at h
          refine lv_iconst (v := (1 : Int32)) hx hb dX7_countOf_22 (by decide) ?_
          refine lv_goto (tgt := 27) hx hb dX7_countOf_23 (by decide) ?_
          obtain ⟨v27, e27, h⟩ := Option.bind_eq_some_iff.mp h
          refine g_cNi (As := [.int (1 : Int32)]) (rest := [.int bx2]) (n := 1) hx hb hml hown hts hK hlo hG (m_X9_oneIf l dd cT lo G (1 : Int32) e27) (List.mem_of_getElem? (i := 49) rfl) qT_yX9_oneIf qN_X9 qC_yX9_oneIf (by decide +kernel) ⟨Nat.le_of_ble_eq_true rfl, Nat.le_of_ble_eq_true rfl⟩ rfl hl.1 rfl (Nat.le_of_ble_eq_true rfl) dX7_countOf_27 ⟨Nat.le_of_ble_eq_true rfl, Nat.le_of_ble_eq_true rfl⟩ (fun H locs hG => ?_)
          refine lv_iadd hx hb dX7_countOf_30 ?_
          refine lv_istore_n (lv' := [(2, .int (bx2 + v27)), (0, .ref ba0), (1, .int bx1), (3, .int bx3)]) hx hb dX7_countOf_31 rfl hl (by decide) rfl (fun ls hl => ?_)
          refine lv_iinc (v := (bx3 + (1 : Int32))) (lv' := [(3, .int (bx3 + (1 : Int32))), (2, .int (bx2 + v27)), (0, .ref ba0), (1, .int bx1)]) hx hb dX7_countOf_32 hl (k := 3) rfl rfl (by decide) rfl (fun ls hl => ?_)
          refine lv_goto (tgt := 4) hx hb dX7_countOf_35 (by decide) ?_
          exact ih ba0 bx1 (bx2 + v27) (bx3 + (1 : Int32)) _ _ hG _ (lv_sub hl [2, 3, 1, 0] rfl) h
  unfold f_X7_countOf at h
  refine lv_iconst (v := (0 : Int32)) hx hb dX7_countOf_0 (by decide) ?_
  refine lv_istore_n (lv' := [(2, .int (0 : Int32)), (0, .ref a0), (1, .int x1)]) hx hb dX7_countOf_1 rfl hl (by decide) rfl (fun ls hl => ?_)
  refine lv_iconst (v := (0 : Int32)) hx hb dX7_countOf_2 (by decide) ?_
  refine lv_istore_n (lv' := [(3, .int (0 : Int32)), (2, .int (0 : Int32)), (0, .ref a0), (1, .int x1)]) hx hb dX7_countOf_3 rfl hl (by decide) rfl (fun ls hl => ?_)
  exact h4 g_N a0 x1 (0 : Int32) (0 : Int32) _ _ hG _ (lv_sub hl [2, 3, 1, 0] rfl) h
set_option maxRecDepth 20000 in
set_option maxHeartbeats 4000000 in
theorem m_X8_markReached (l : Launch) (dd : va_G) (cT : Nat → ClassId) (lo : Nat → Prop) (G : gH) (a0 : Nat) (a1 : Nat) {Gz : gH} (h : f_X8_markReached G a0 a1 = some Gz) : Met l yX8_markReached (Cond.code yX8_markReached cX8_markReached 7 none :: wsL_law) (g_rm 2 45 0 0) (va_Pc [.ref a0, .ref a1] (g_Pre lo dd cT G)) (va_Qv (g_iv Gz) (g_Pre lo dd cT) (g_A lo)) 0 0 (g_A lo) := by
  refine g_start RX8 rfl (by decide) (Nat.le_of_ble_eq_true rfl) ?_
  intro p e s m below meth c hx hb hr hlocks hml hown hnm hts hK hG hlo ls hl
  have hl : lv_has ls 7 [(0, .ref a0), (1, .ref a1)] := hl
  have hG : g_S lo dd cT s s.heap [] G := hG
  have h13 : ∀ n : Nat, ∀ (G : gH) (ba0 : Nat) (ba1 : Nat) (ba2 : Nat) (bx3 : Int32) (bx4 : Int32), ∀ (H : Heap) (locs : List Loc), g_S lo dd cT s H locs G → ∀ ls : Array Slot, lv_has ls 7 [(0, .ref ba0), (1, .ref ba1), (2, .ref ba2), (3, .int bx3), (4, .int bx4)] → f_X8_markReached_L13 n G ba0 ba1 ba2 bx3 bx4 = some Gz → W p l e (g_rm 2 45 0 0) s m ([.ref a0, .ref a1] : List Value).toArray below meth c H locs 0 0 (MQ below (va_Qv (g_iv Gz) (g_Pre lo dd cT) (g_A lo)) ([.ref a0, .ref a1] : List Value).toArray s 0 0 (g_A lo)) (F0 m 13 ls []) := by
    intro n
    induction n with
    | zero =>
      intro G ba0 ba1 ba2 bx3 bx4 H locs hG ls hl h
      cases (show (none : Option gH) = some Gz from h)
    | succ n ih =>
      intro G ba0 ba1 ba2 bx3 bx4 H locs hG ls hl h
      rw [f_X8_markReached_L13] at h
      have h86 : ∀ (G : gH) (ba0 : Nat) (ba1 : Nat) (ba2 : Nat) (bx4 : Int32) (bx6 : Int32) (z0 : Int32), ∀ (H : Heap) (locs : List Loc), g_S lo dd cT s H locs G → ∀ ls : Array Slot, lv_has ls 7 [(0, .ref ba0), (1, .ref ba1), (2, .ref ba2), (4, .int bx4), (6, .int bx6)] → f_X8_markReached_J86 (f_X8_markReached_L13 n) G ba0 ba1 ba2 bx4 bx6 z0 = some Gz → W p l e (g_rm 2 45 0 0) s m ([.ref a0, .ref a1] : List Value).toArray below meth c H locs 0 0 (MQ below (va_Qv (g_iv Gz) (g_Pre lo dd cT) (g_A lo)) ([.ref a0, .ref a1] : List Value).toArray s 0 0 (g_A lo)) (F0 m 86 ls [.int z0]) := by
        intro G ba0 ba1 ba2 bx4 bx6 z0 H locs hG ls hl h
        unfold f_X8_markReached_J86 at h
        refine lv_istore_n (lv' := [(3, .int z0), (0, .ref ba0), (1, .ref ba1), (2, .ref ba2), (4, .int bx4), (6, .int bx6)]) hx hb dX8_markReached_86 rfl hl (by decide) rfl (fun ls hl => ?_)
        refine lv_aload_n hx hb dX8_markReached_87 rfl (lv_at hl 1 rfl) ?_
        obtain ⟨v88, e88, h⟩ := Option.bind_eq_some_iff.mp h
        refine g_getr hx hb hts inlX8 hown hK hG (by rfl) 1 (by decide) qF_X8_15 e88 dX8_markReached_88 ?_
        refine lv_iload hx hb dX8_markReached_91 (lv_at hl 4 rfl) ?_
        refine lv_iload hx hb dX8_markReached_93 (lv_at hl 5 rfl) ?_
        obtain ⟨G95, e95, h⟩ := Option.bind_eq_some_iff.mp h
        refine g_cNv (As := [.ref v88, .int bx4, .int bx6]) (rest := []) (n := 3) hx hb hml hown hts hK hlo hG (m_X9_mark l dd cT lo G v88 bx4 bx6 e95) (List.mem_of_getElem? (i := 51) rfl) qT_yX9_mark qN_X9 qC_yX9_mark (by decide +kernel) ⟨Nat.le_of_ble_eq_true rfl, Nat.le_of_ble_eq_true rfl⟩ rfl hl.1 rfl (Nat.le_of_ble_eq_true rfl) dX8_markReached_95 ⟨Nat.le_of_ble_eq_true rfl, Nat.le_of_ble_eq_true rfl⟩ (fun H locs hG => ?_)
        refine lv_iinc (v := (bx4 + (-1 : Int32))) (lv' := [(4, .int (bx4 + (-1 : Int32))), (3, .int z0), (0, .ref ba0), (1, .ref ba1), (2, .ref ba2), (6, .int bx6)]) hx hb dX8_markReached_98 hl (k := 4) rfl rfl (by decide) rfl (fun ls hl => ?_)
        refine lv_goto (tgt := 13) hx hb dX8_markReached_101 (by decide) ?_
        exact ih G95 ba0 ba1 ba2 z0 (bx4 + (-1 : Int32)) _ _ hG _ (lv_sub hl [2, 3, 4, 1, 0] rfl) h
      have h36 : ∀ (G : gH) (ba0 : Nat) (ba1 : Nat) (ba2 : Nat) (bx3 : Int32) (bx4 : Int32) (bx5 : Int32) (z0 : Int32), ∀ (H : Heap) (locs : List Loc), g_S lo dd cT s H locs G → ∀ ls : Array Slot, lv_has ls 7 [(0, .ref ba0), (1, .ref ba1), (2, .ref ba2), (3, .int bx3), (4, .int bx4), (5, .int bx5)] → f_X8_markReached_J36 (f_X8_markReached_L13 n) G ba0 ba1 ba2 bx3 bx4 bx5 z0 = some Gz → W p l e (g_rm 2 45 0 0) s m ([.ref a0, .ref a1] : List Value).toArray below meth c H locs 0 0 (MQ below (va_Qv (g_iv Gz) (g_Pre lo dd cT) (g_A lo)) ([.ref a0, .ref a1] : List Value).toArray s 0 0 (g_A lo)) (F0 m 36 ls [.int z0]) := by
        intro G ba0 ba1 ba2 bx3 bx4 bx5 z0 H locs hG ls hl h
        unfold f_X8_markReached_J36 at h
        refine lv_istore (lv' := [(6, .int z0), (0, .ref ba0), (1, .ref ba1), (2, .ref ba2), (3, .int bx3), (4, .int bx4), (5, .int bx5)]) hx hb dX8_markReached_36 hl (by decide) rfl (fun ls hl => ?_)
        refine lv_iload hx hb dX8_markReached_38 (lv_at hl 6 rfl) ?_
        refine lv_iconst (v := (1 : Int32)) hx hb dX8_markReached_40 (by decide) ?_
        refine lv_icmp_ne (tgt := 87) hx hb dX8_markReached_41 (by decide) (fun c41 => ?_) (fun c41 => ?_)
        · rw [if_neg c41] at h
          refine lv_aload_n hx hb dX8_markReached_87 rfl (lv_at hl 1 rfl) ?_
          obtain ⟨v88, e88, h⟩ := Option.bind_eq_some_iff.mp h
          refine g_getr hx hb hts inlX8 hown hK hG (by rfl) 1 (by decide) qF_X8_15 e88 dX8_markReached_88 ?_
          refine lv_iload hx hb dX8_markReached_91 (lv_at hl 5 rfl) ?_
          refine lv_iload hx hb dX8_markReached_93 (lv_at hl 0 rfl) ?_
          obtain ⟨G95, e95, h⟩ := Option.bind_eq_some_iff.mp h
          refine g_cNv (As := [.ref v88, .int bx4, .int z0]) (rest := []) (n := 3) hx hb hml hown hts hK hlo hG (m_X9_mark l dd cT lo G v88 bx4 z0 e95) (List.mem_of_getElem? (i := 51) rfl) qT_yX9_mark qN_X9 qC_yX9_mark (by decide +kernel) ⟨Nat.le_of_ble_eq_true rfl, Nat.le_of_ble_eq_true rfl⟩ rfl hl.1 rfl (Nat.le_of_ble_eq_true rfl) dX8_markReached_95 ⟨Nat.le_of_ble_eq_true rfl, Nat.le_of_ble_eq_true rfl⟩ (fun H locs hG => ?_)
          refine lv_iinc (v := (bx4 + (-1 : Int32))) (lv' := [(4, .int (bx4 + (-1 : Int32))), (6, .int z0), (0, .ref ba0), (1, .ref ba1), (2, .ref ba2), (3, .int bx3), (5, .int bx5)]) hx hb dX8_markReached_98 hl (k := 5) rfl rfl (by decide) rfl (fun ls hl => ?_)
          refine lv_goto (tgt := 13) hx hb dX8_markReached_101 (by decide) ?_
          exact ih G95 ba0 ba1 ba2 bx3 (bx4 + (-1 : Int32)) _ _ hG _ (lv_sub hl [2, 3, 4, 5, 0] rfl) h
        · rw [if_pos c41] at h
          refine lv_iload_n hx hb dX8_markReached_44 rfl (lv_at hl 4 rfl) ?_
          refine lv_if_eq (tgt := 87) hx hb dX8_markReached_45 (by decide) (fun c45 => ?_) (fun c45 => ?_)
          · rw [if_pos c45] at h
            refine lv_aload_n hx hb dX8_markReached_87 rfl (lv_at hl 1 rfl) ?_
            obtain ⟨v88, e88, h⟩ := Option.bind_eq_some_iff.mp h
            refine g_getr hx hb hts inlX8 hown hK hG (by rfl) 1 (by decide) qF_X8_15 e88 dX8_markReached_88 ?_
            refine lv_iload hx hb dX8_markReached_91 (lv_at hl 5 rfl) ?_
            refine lv_iload hx hb dX8_markReached_93 (lv_at hl 0 rfl) ?_
            obtain ⟨G95, e95, h⟩ := Option.bind_eq_some_iff.mp h
            refine g_cNv (As := [.ref v88, .int bx4, .int z0]) (rest := []) (n := 3) hx hb hml hown hts hK hlo hG (m_X9_mark l dd cT lo G v88 bx4 z0 e95) (List.mem_of_getElem? (i := 51) rfl) qT_yX9_mark qN_X9 qC_yX9_mark (by decide +kernel) ⟨Nat.le_of_ble_eq_true rfl, Nat.le_of_ble_eq_true rfl⟩ rfl hl.1 rfl (Nat.le_of_ble_eq_true rfl) dX8_markReached_95 ⟨Nat.le_of_ble_eq_true rfl, Nat.le_of_ble_eq_true rfl⟩ (fun H locs hG => ?_)
            refine lv_iinc (v := (bx4 + (-1 : Int32))) (lv' := [(4, .int (bx4 + (-1 : Int32))), (6, .int z0), (0, .ref ba0), (1, .ref ba1), (2, .ref ba2), (3, .int bx3), (5, .int bx5)]) hx hb dX8_markReached_98 hl (k := 5) rfl rfl (by decide) rfl (fun ls hl => ?_)
            refine lv_goto (tgt := 13) hx hb dX8_markReached_101 (by decide) ?_
            exact ih G95 ba0 ba1 ba2 bx3 (bx4 + (-1 : Int32)) _ _ hG _ (lv_sub hl [2, 3, 4, 5, 0] rfl) h
          · rw [if_neg c45] at h
            refine lv_aload_n hx hb dX8_markReached_48 rfl (lv_at hl 2 rfl) ?_
            obtain ⟨v49, e49, h⟩ := Option.bind_eq_some_iff.mp h
            refine g_getr hx hb hts inlX1 hown hK hG (by rfl) 0 (by decide) qF_X8_72 e49 dX8_markReached_49 ?_
            refine lv_aload_n hx hb dX8_markReached_52 rfl (lv_at hl 3 rfl) ?_
            refine lv_iload hx hb dX8_markReached_53 (lv_at hl 5 rfl) ?_
            obtain ⟨u55, i55, h⟩ := Option.bind_eq_some_iff.mp h
            obtain ⟨v55, e55, h⟩ := Option.bind_eq_some_iff.mp h
            refine g_cVi (As := [.int bx4]) (rest := [.ref v49]) (n := 1) hx hb hml hown hts hK hlo hG (m_X5_directoryOf l dd cT lo G ba2 bx4 e55) qM_X8_76 qI_yX5_directoryOf qS_X5_yX5_directoryOf qN_X5 qC_yX5_directoryOf (by decide +kernel) ⟨Nat.le_of_ble_eq_true rfl, Nat.le_of_ble_eq_true rfl⟩ (by rfl) i55 rfl hl.1 rfl (Nat.le_of_ble_eq_true rfl) dX8_markReached_55 ⟨Nat.le_of_ble_eq_true rfl, Nat.le_of_ble_eq_true rfl⟩ (fun H locs hG => ?_)
            refine lv_aload_n hx hb dX8_markReached_58 rfl (lv_at hl 3 rfl) ?_
            refine lv_iload hx hb dX8_markReached_59 (lv_at hl 5 rfl) ?_
            obtain ⟨u61, i61, h⟩ := Option.bind_eq_some_iff.mp h
            obtain ⟨v61, e61, h⟩ := Option.bind_eq_some_iff.mp h
            refine g_cVi (As := [.int bx4]) (rest := [.int v55, .ref v49]) (n := 1) hx hb hml hown hts hK hlo hG (m_X5_directoryLengthOf l dd cT lo G ba2 bx4 e61) qM_X8_79 qI_yX5_directoryLengthOf qS_X5_yX5_directoryLengthOf qN_X5 qC_yX5_directoryLengthOf (by decide +kernel) ⟨Nat.le_of_ble_eq_true rfl, Nat.le_of_ble_eq_true rfl⟩ (by rfl) i61 rfl hl.1 rfl (Nat.le_of_ble_eq_true rfl) dX8_markReached_61 ⟨Nat.le_of_ble_eq_true rfl, Nat.le_of_ble_eq_true rfl⟩ (fun H locs hG => ?_)
            obtain ⟨u64, i64, h⟩ := Option.bind_eq_some_iff.mp h
            obtain ⟨v64, e64, h⟩ := Option.bind_eq_some_iff.mp h
            refine g_cVi (As := [.int v55, .int v61]) (rest := []) (n := 2) hx hb hml hown hts hK hlo hG (m_X0_canRead l dd cT lo G v49 v55 v61 e64) qM_X8_82 qI_yX0_canRead qS_X0_yX0_canRead qN_X0 qC_yX0_canRead (by decide +kernel) ⟨Nat.le_of_ble_eq_true rfl, Nat.le_of_ble_eq_true rfl⟩ (by rfl) i64 rfl hl.1 rfl (Nat.le_of_ble_eq_true rfl) dX8_markReached_64 ⟨Nat.le_of_ble_eq_true rfl, Nat.le_of_ble_eq_true rfl⟩ (fun H locs hG => ?_)
            refine lv_istore (lv' := [(6, .int v64), (0, .ref ba0), (1, .ref ba1), (2, .ref ba2), (3, .int bx3), (4, .int bx4), (5, .int bx5)]) hx hb dX8_markReached_67 hl (by decide) rfl (fun ls hl => ?_)
            refine lv_iload hx hb dX8_markReached_69 (lv_at hl 0 rfl) ?_
            refine lv_if_ne (tgt := 81) hx hb dX8_markReached_71 (by decide) (fun c71 => ?_) (fun c71 => ?_)
            · rw [if_neg c71] at h
              refine lv_iconst (v := (1 : Int32)) hx hb dX8_markReached_81 (by decide) ?_
              refine lv_goto (tgt := 86) hx hb dX8_markReached_82 (by decide) ?_
              exact h86 G ba0 ba1 ba2 bx4 v64 (1 : Int32) _ _ hG _ (lv_sub hl [1, 2, 3, 5, 0] rfl) h
            · rw [if_pos c71] at h
              refine lv_aload_n hx hb dX8_markReached_74 rfl (lv_at hl 2 rfl) ?_
              obtain ⟨v75, e75, h⟩ := Option.bind_eq_some_iff.mp h
              refine g_geti hx hb hts inlX1 hown hK hG (by rfl) 5 (by decide) qF_X8_88 e75 dX8_markReached_75 ?_
              refine lv_if_eq (tgt := 85) hx hb dX8_markReached_78 (by decide) (fun c78 => ?_) (fun c78 => ?_)
              · rw [if_pos c78] at h
                refine lv_iconst (v := (0 : Int32)) hx hb dX8_markReached_85 (by decide) ?_
                exact h86 G ba0 ba1 ba2 bx4 v64 (0 : Int32) _ _ hG _ (lv_sub hl [1, 2, 3, 5, 0] rfl) h
              · rw [if_neg c78] at h
                refine lv_iconst (v := (1 : Int32)) hx hb dX8_markReached_81 (by decide) ?_
                refine lv_goto (tgt := 86) hx hb dX8_markReached_82 (by decide) ?_
                exact h86 G ba0 ba1 ba2 bx4 v64 (1 : Int32) _ _ hG _ (lv_sub hl [1, 2, 3, 5, 0] rfl) h
      refine lv_iload hx hb dX8_markReached_13 (lv_at hl 4 rfl) ?_
      refine lv_if_lt (tgt := 104) hx hb dX8_markReached_15 (by decide) (fun c15 => ?_) (fun c15 => ?_)
      · rw [if_pos c15] at h
        obtain rfl := Option.some.inj h
        exact g_vret hx hb hr hlocks hK hlo hG rfl dX8_markReached_104
      · rw [if_neg c15] at h
        refine lv_aload_n hx hb dX8_markReached_18 rfl (lv_at hl 2 rfl) ?_
        refine lv_iload hx hb dX8_markReached_19 (lv_at hl 4 rfl) ?_
        obtain ⟨u21, i21, h⟩ := Option.bind_eq_some_iff.mp h
        obtain ⟨v21, e21, h⟩ := Option.bind_eq_some_iff.mp h
        refine g_cVi (As := [.int bx4]) (rest := []) (n := 1) hx hb hml hown hts hK hlo hG (m_X5_stateOf l dd cT lo G ba2 bx4 e21) qM_X8_68 qI_yX5_stateOf qS_X5_yX5_stateOf qN_X5 qC_yX5_stateOf (by decide +kernel) ⟨Nat.le_of_ble_eq_true rfl, Nat.le_of_ble_eq_true rfl⟩ (by rfl) i21 rfl hl.1 rfl (Nat.le_of_ble_eq_true rfl) dX8_markReached_21 ⟨Nat.le_of_ble_eq_true rfl, Nat.le_of_ble_eq_true rfl⟩ (fun H locs hG => ?_)
        refine lv_istore (lv' := [(5, .int v21), (0, .ref ba0), (1, .ref ba1), (2, .ref ba2), (3, .int bx3), (4, .int bx4)]) hx hb dX8_markReached_24 hl (by decide) rfl (fun ls hl => ?_)
        refine lv_iload hx hb dX8_markReached_26 (lv_at hl 0 rfl) ?_
        refine lv_if_ne (tgt := 35) hx hb dX8_markReached_28 (by decide) (fun c28 => ?_) (fun c28 => ?_)
        · rw [if_neg c28] at h
          refine lv_iconst (v := (0 : Int32)) hx hb dX8_markReached_35 (by decide) ?_
          exact h36 G ba0 ba1 ba2 bx3 bx4 v21 (0 : Int32) _ _ hG _ (lv_sub hl [1, 2, 3, 4, 5, 0] rfl) h
        · rw [if_pos c28] at h
          refine lv_iconst (v := (1 : Int32)) hx hb dX8_markReached_31 (by decide) ?_
          refine lv_goto (tgt := 36) hx hb dX8_markReached_32 (by decide) ?_
          exact h36 G ba0 ba1 ba2 bx3 bx4 v21 (1 : Int32) _ _ hG _ (lv_sub hl [1, 2, 3, 4, 5, 0] rfl) h
  unfold f_X8_markReached at h
  refine lv_aload_n hx hb dX8_markReached_0 rfl (lv_at hl 1 rfl) ?_
  obtain ⟨v1, e1, h⟩ := Option.bind_eq_some_iff.mp h
  refine g_getr hx hb hts inlX1 hown hK hG (by rfl) 2 (by decide) qF_X8_36 e1 dX8_markReached_1 ?_
  refine lv_astore_n (lv' := [(2, .ref v1), (0, .ref a0), (1, .ref a1)]) hx hb dX8_markReached_4 rfl hl (by decide) rfl (fun ls hl => ?_)
  refine lv_iconst (v := (1 : Int32)) hx hb dX8_markReached_5 (by decide) ?_
  refine lv_istore_n (lv' := [(3, .int (1 : Int32)), (2, .ref v1), (0, .ref a0), (1, .ref a1)]) hx hb dX8_markReached_6 rfl hl (by decide) rfl (fun ls hl => ?_)
  refine lv_aload_n hx hb dX8_markReached_7 rfl (lv_at hl 1 rfl) ?_
  obtain ⟨u8, i8, h⟩ := Option.bind_eq_some_iff.mp h
  obtain ⟨v8, e8, h⟩ := Option.bind_eq_some_iff.mp h
  refine g_cVi (As := []) (rest := []) (n := 0) hx hb hml hown hts hK hlo hG (m_X5_latest l dd cT lo G v1 e8) qM_X8_64 qI_yX5_latest qS_X5_yX5_latest qN_X5 qC_yX5_latest (by decide +kernel) ⟨Nat.le_of_ble_eq_true rfl, Nat.le_of_ble_eq_true rfl⟩ (by rfl) i8 rfl hl.1 rfl (Nat.le_of_ble_eq_true rfl) dX8_markReached_8 ⟨Nat.le_of_ble_eq_true rfl, Nat.le_of_ble_eq_true rfl⟩ (fun H locs hG => ?_)
  refine lv_istore (lv' := [(4, .int v8), (3, .int (1 : Int32)), (2, .ref v1), (0, .ref a0), (1, .ref a1)]) hx hb dX8_markReached_11 hl (by decide) rfl (fun ls hl => ?_)
  exact h13 g_N G a0 a1 v1 (1 : Int32) v8 _ _ hG _ (lv_sub hl [3, 4, 2, 1, 0] rfl) h
set_option maxRecDepth 20000 in
set_option maxHeartbeats 4000000 in
theorem m_X8_isReached (l : Launch) (dd : va_G) (cT : Nat → ClassId) (lo : Nat → Prop) (G : gH) (a0 : Nat) (x1 : Int32) {rz : Int32} (h : f_X8_isReached G a0 x1 = some rz) : Met l yX8_isReached (Cond.code yX8_isReached cX8_isReached 2 (some .boolean) :: wsL_law) (g_rm 1 21 0 0) (va_Pc [.ref a0, .int x1] (g_Pre lo dd cT G)) (va_Qi (g_is rz G) (g_Pre lo dd cT) (g_A lo)) 0 0 (g_A lo) := by
  refine g_start RX8 rfl (by decide) (Nat.le_of_ble_eq_true rfl) ?_
  intro p e s m below meth c hx hb hr hlocks hml hown hnm hts hK hG hlo ls hl
  have hl : lv_has ls 2 [(0, .ref a0), (1, .int x1)] := hl
  have hG : g_S lo dd cT s s.heap [] G := hG
  unfold f_X8_isReached at h
  refine lv_aload_n hx hb dX8_isReached_0 rfl (lv_at hl 0 rfl) ?_
  obtain ⟨v1, e1, h⟩ := Option.bind_eq_some_iff.mp h
  refine g_getr hx hb hts inlX8 hown hK hG (by rfl) 1 (by decide) qF_X8_15 e1 dX8_isReached_1 ?_
  refine lv_iload_n hx hb dX8_isReached_4 rfl (lv_at hl 1 rfl) ?_
  obtain ⟨v5, e5, h⟩ := Option.bind_eq_some_iff.mp h
  refine g_cNi (As := [.ref v1, .int x1]) (rest := []) (n := 2) hx hb hml hown hts hK hlo hG (m_X9_isSet l dd cT lo G v1 x1 e5) (List.mem_of_getElem? (i := 52) rfl) qT_yX9_isSet qN_X9 qC_yX9_isSet (by decide +kernel) ⟨Nat.le_of_ble_eq_true rfl, Nat.le_of_ble_eq_true rfl⟩ rfl hl.1 rfl (Nat.le_of_ble_eq_true rfl) dX8_isReached_5 ⟨Nat.le_of_ble_eq_true rfl, Nat.le_of_ble_eq_true rfl⟩ (fun H locs hG => ?_)
  obtain ⟨n8, rfl⟩ := g_z_nar h
  exact g_zret hx hb hr hlocks hK hlo hG n8 ⟨rfl, rfl⟩ dX8_isReached_8
set_option maxRecDepth 20000 in
set_option maxHeartbeats 4000000 in
theorem m_X8_sessionOf (l : Launch) (dd : va_G) (cT : Nat → ClassId) (lo : Nat → Prop) (G : gH) (a0 : Nat) (x1 : Int32) {rz : Int32} (h : f_X8_sessionOf G a0 x1 = some rz) : Met l yX8_sessionOf (Cond.code yX8_sessionOf cX8_sessionOf 2 (some .int) :: wsL_law) (g_rm 1 22 0 0) (va_Pc [.ref a0, .int x1] (g_Pre lo dd cT G)) (va_Qi (g_is rz G) (g_Pre lo dd cT) (g_A lo)) 0 0 (g_A lo) := by
  refine g_start RX8 rfl (by decide) (Nat.le_of_ble_eq_true rfl) ?_
  intro p e s m below meth c hx hb hr hlocks hml hown hnm hts hK hG hlo ls hl
  have hl : lv_has ls 2 [(0, .ref a0), (1, .int x1)] := hl
  have hG : g_S lo dd cT s s.heap [] G := hG
  unfold f_X8_sessionOf at h
  refine lv_aload_n hx hb dX8_sessionOf_0 rfl (lv_at hl 0 rfl) ?_
  obtain ⟨v1, e1, h⟩ := Option.bind_eq_some_iff.mp h
  refine g_getr hx hb hts inlX8 hown hK hG (by rfl) 2 (by decide) qF_X8_19 e1 dX8_sessionOf_1 ?_
  refine lv_iload_n hx hb dX8_sessionOf_4 rfl (lv_at hl 1 rfl) ?_
  refine lv_iconst (v := (-1 : Int32)) hx hb dX8_sessionOf_5 (by decide) ?_
  obtain ⟨v6, e6, h⟩ := Option.bind_eq_some_iff.mp h
  refine g_cNi (As := [.ref v1, .int x1, .int (-1 : Int32)]) (rest := []) (n := 3) hx hb hml hown hts hK hlo hG (m_X9_at l dd cT lo G v1 x1 (-1 : Int32) e6) (List.mem_of_getElem? (i := 53) rfl) qT_yX9_at qN_X9 qC_yX9_at (by decide +kernel) ⟨Nat.le_of_ble_eq_true rfl, Nat.le_of_ble_eq_true rfl⟩ rfl hl.1 rfl (Nat.le_of_ble_eq_true rfl) dX8_sessionOf_6 ⟨Nat.le_of_ble_eq_true rfl, Nat.le_of_ble_eq_true rfl⟩ (fun H locs hG => ?_)
  obtain rfl := Option.some.inj h
  exact g_iret hx hb hr hlocks hK hlo hG ⟨rfl, rfl⟩ dX8_sessionOf_9
set_option maxRecDepth 20000 in
set_option maxHeartbeats 4000000 in
theorem m_X8_versionOf (l : Launch) (dd : va_G) (cT : Nat → ClassId) (lo : Nat → Prop) (G : gH) (a0 : Nat) (x1 : Int32) {rz : Int32} (h : f_X8_versionOf G a0 x1 = some rz) : Met l yX8_versionOf (Cond.code yX8_versionOf cX8_versionOf 2 (some .int) :: wsL_law) (g_rm 1 22 0 0) (va_Pc [.ref a0, .int x1] (g_Pre lo dd cT G)) (va_Qi (g_is rz G) (g_Pre lo dd cT) (g_A lo)) 0 0 (g_A lo) := by
  refine g_start RX8 rfl (by decide) (Nat.le_of_ble_eq_true rfl) ?_
  intro p e s m below meth c hx hb hr hlocks hml hown hnm hts hK hG hlo ls hl
  have hl : lv_has ls 2 [(0, .ref a0), (1, .int x1)] := hl
  have hG : g_S lo dd cT s s.heap [] G := hG
  unfold f_X8_versionOf at h
  refine lv_aload_n hx hb dX8_versionOf_0 rfl (lv_at hl 0 rfl) ?_
  obtain ⟨v1, e1, h⟩ := Option.bind_eq_some_iff.mp h
  refine g_getr hx hb hts inlX8 hown hK hG (by rfl) 3 (by decide) qF_X8_23 e1 dX8_versionOf_1 ?_
  refine lv_iload_n hx hb dX8_versionOf_4 rfl (lv_at hl 1 rfl) ?_
  refine lv_iconst (v := (-1 : Int32)) hx hb dX8_versionOf_5 (by decide) ?_
  obtain ⟨v6, e6, h⟩ := Option.bind_eq_some_iff.mp h
  refine g_cNi (As := [.ref v1, .int x1, .int (-1 : Int32)]) (rest := []) (n := 3) hx hb hml hown hts hK hlo hG (m_X9_at l dd cT lo G v1 x1 (-1 : Int32) e6) (List.mem_of_getElem? (i := 53) rfl) qT_yX9_at qN_X9 qC_yX9_at (by decide +kernel) ⟨Nat.le_of_ble_eq_true rfl, Nat.le_of_ble_eq_true rfl⟩ rfl hl.1 rfl (Nat.le_of_ble_eq_true rfl) dX8_versionOf_6 ⟨Nat.le_of_ble_eq_true rfl, Nat.le_of_ble_eq_true rfl⟩ (fun H locs hG => ?_)
  obtain rfl := Option.some.inj h
  exact g_iret hx hb hr hlocks hK hlo hG ⟨rfl, rfl⟩ dX8_versionOf_9
set_option maxRecDepth 20000 in
set_option maxHeartbeats 4000000 in
theorem m_X8_isReadable (l : Launch) (dd : va_G) (cT : Nat → ClassId) (lo : Nat → Prop) (G : gH) (a0 : Nat) (x1 : Int32) {rz : Int32} (h : f_X8_isReadable G a0 x1 = some rz) : Met l yX8_isReadable (Cond.code yX8_isReadable cX8_isReadable 2 (some .boolean) :: wsL_law) (g_rm 1 21 0 0) (va_Pc [.ref a0, .int x1] (g_Pre lo dd cT G)) (va_Qi (g_is rz G) (g_Pre lo dd cT) (g_A lo)) 0 0 (g_A lo) := by
  refine g_start RX8 rfl (by decide) (Nat.le_of_ble_eq_true rfl) ?_
  intro p e s m below meth c hx hb hr hlocks hml hown hnm hts hK hG hlo ls hl
  have hl : lv_has ls 2 [(0, .ref a0), (1, .int x1)] := hl
  have hG : g_S lo dd cT s s.heap [] G := hG
  unfold f_X8_isReadable at h
  refine lv_aload_n hx hb dX8_isReadable_0 rfl (lv_at hl 0 rfl) ?_
  obtain ⟨v1, e1, h⟩ := Option.bind_eq_some_iff.mp h
  refine g_getr hx hb hts inlX8 hown hK hG (by rfl) 4 (by decide) qF_X8_26 e1 dX8_isReadable_1 ?_
  refine lv_iload_n hx hb dX8_isReadable_4 rfl (lv_at hl 1 rfl) ?_
  obtain ⟨v5, e5, h⟩ := Option.bind_eq_some_iff.mp h
  refine g_cNi (As := [.ref v1, .int x1]) (rest := []) (n := 2) hx hb hml hown hts hK hlo hG (m_X9_isSet l dd cT lo G v1 x1 e5) (List.mem_of_getElem? (i := 52) rfl) qT_yX9_isSet qN_X9 qC_yX9_isSet (by decide +kernel) ⟨Nat.le_of_ble_eq_true rfl, Nat.le_of_ble_eq_true rfl⟩ rfl hl.1 rfl (Nat.le_of_ble_eq_true rfl) dX8_isReadable_5 ⟨Nat.le_of_ble_eq_true rfl, Nat.le_of_ble_eq_true rfl⟩ (fun H locs hG => ?_)
  obtain ⟨n8, rfl⟩ := g_z_nar h
  exact g_zret hx hb hr hlocks hK hlo hG n8 ⟨rfl, rfl⟩ dX8_isReadable_8
set_option maxRecDepth 20000 in
set_option maxHeartbeats 4000000 in
theorem m_X8_filesThere (l : Launch) (dd : va_G) (cT : Nat → ClassId) (lo : Nat → Prop) (G : gH) (a0 : Nat) {rz : Int32} (h : f_X8_filesThere G a0 = some rz) : Met l yX8_filesThere (Cond.code yX8_filesThere cX8_filesThere 3 (some .int) :: wsL_law) (g_rm 2 43 0 0) (va_Pc [.ref a0] (g_Pre lo dd cT G)) (va_Qi (g_is rz G) (g_Pre lo dd cT) (g_A lo)) 0 0 (g_A lo) := by
  refine g_start RX8 rfl (by decide) (Nat.le_of_ble_eq_true rfl) ?_
  intro p e s m below meth c hx hb hr hlocks hml hown hnm hts hK hG hlo ls hl
  have hl : lv_has ls 3 [(0, .ref a0)] := hl
  have hG : g_S lo dd cT s s.heap [] G := hG
  have h4 : ∀ n : Nat, ∀ (ba0 : Nat) (bx1 : Int32) (bx2 : Int32), ∀ (H : Heap) (locs : List Loc), g_S lo dd cT s H locs G → ∀ ls : Array Slot, lv_has ls 3 [(0, .ref ba0), (1, .int bx1), (2, .int bx2)] → f_X8_filesThere_L4 G n ba0 bx1 bx2 = some rz → W p l e (g_rm 2 43 0 0) s m ([.ref a0] : List Value).toArray below meth c H locs 0 0 (MQ below (va_Qi (g_is rz G) (g_Pre lo dd cT) (g_A lo)) ([.ref a0] : List Value).toArray s 0 0 (g_A lo)) (F0 m 4 ls []) := by
    intro n
    induction n with
    | zero =>
      intro ba0 bx1 bx2 H locs hG ls hl h
      cases (show (none : Option Int32) = some rz from h)
    | succ n ih =>
      intro ba0 bx1 bx2 H locs hG ls hl h
      rw [f_X8_filesThere_L4] at h
      refine lv_iload_n hx hb dX8_filesThere_4 rfl (lv_at hl 2 rfl) ?_
      refine lv_aload_n hx hb dX8_filesThere_5 rfl (lv_at hl 0 rfl) ?_
      obtain ⟨v6, e6, h⟩ := Option.bind_eq_some_iff.mp h
      refine g_geti hx hb hts inlX8 hown hK hG (by rfl) 0 (by decide) qF_X8_9 e6 dX8_filesThere_6 ?_
      refine lv_icmp_ge (tgt := 38) hx hb dX8_filesThere_9 (by decide) (fun c9 => ?_) (fun c9 => ?_)
      · rw [if_pos c9] at h
        refine lv_iload_n hx hb dX8_filesThere_38 rfl (lv_at hl 1 rfl) ?_
        obtain rfl := Option.some.inj h
        exact g_iret hx hb hr hlocks hK hlo hG ⟨rfl, rfl⟩ dX8_filesThere_39
      · rw [if_neg c9] at h
        refine lv_iload_n hx hb dX8_filesThere_12 rfl (lv_at hl 1 rfl) ?_
        refine lv_aload_n hx hb dX8_filesThere_13 rfl (lv_at hl 0 rfl) ?_
        refine lv_iload_n hx hb dX8_filesThere_14 rfl (lv_at hl 2 rfl) ?_
        obtain ⟨u15, i15, h⟩ := Option.bind_eq_some_iff.mp h
        obtain ⟨v15, e15, h⟩ := Option.bind_eq_some_iff.mp h
        refine g_cVi (As := [.int bx2]) (rest := [.int bx1]) (n := 1) hx hb hml hown hts hK hlo hG (m_X8_versionOf l dd cT lo G ba0 bx2 e15) qM_X8_106 qI_yX8_versionOf qS_X8_yX8_versionOf qN_X8 qC_yX8_versionOf (by decide +kernel) ⟨Nat.le_of_ble_eq_true rfl, Nat.le_of_ble_eq_true rfl⟩ (by rfl) i15 rfl hl.1 rfl (Nat.le_of_ble_eq_true rfl) dX8_filesThere_15 ⟨Nat.le_of_ble_eq_true rfl, Nat.le_of_ble_eq_true rfl⟩ (fun H locs hG => ?_)
        refine lv_iconst (v := (-1 : Int32)) hx hb dX8_filesThere_18 (by decide) ?_
        refine lv_icmp_eq (tgt := 26) hx hb dX8_filesThere_19 (by decide) (fun c19 => ?_) (fun c19 => ?_)
        · rw [if_pos c19] at h
          refine lv_iconst (v := (0 : Int32)) hx hb dX8_filesThere_26 (by decide) ?_
          obtain ⟨v27, e27, h⟩ := Option.bind_eq_some_iff.mp h
          refine g_cNi (As := [.int (0 : Int32)]) (rest := [.int bx1]) (n := 1) hx hb hml hown hts hK hlo hG (m_X9_oneIf l dd cT lo G (0 : Int32) e27) (List.mem_of_getElem? (i := 54) rfl) qT_yX9_oneIf qN_X9 qC_yX9_oneIf (by decide +kernel) ⟨Nat.le_of_ble_eq_true rfl, Nat.le_of_ble_eq_true rfl⟩ rfl hl.1 rfl (Nat.le_of_ble_eq_true rfl) dX8_filesThere_27 ⟨Nat.le_of_ble_eq_true rfl, Nat.le_of_ble_eq_true rfl⟩ (fun H locs hG => ?_)
          refine lv_iadd hx hb dX8_filesThere_30 ?_
          refine lv_istore_n (lv' := [(1, .int (bx1 + v27)), (0, .ref ba0), (2, .int bx2)]) hx hb dX8_filesThere_31 rfl hl (by decide) rfl (fun ls hl => ?_)
          refine lv_iinc (v := (bx2 + (1 : Int32))) (lv' := [(2, .int (bx2 + (1 : Int32))), (1, .int (bx1 + v27)), (0, .ref ba0)]) hx hb dX8_filesThere_32 hl (k := 2) rfl rfl (by decide) rfl (fun ls hl => ?_)
          refine lv_goto (tgt := 4) hx hb dX8_filesThere_35 (by decide) ?_
          exact ih ba0 (bx1 + v27) (bx2 + (1 : Int32)) _ _ hG _ (lv_sub hl [2, 1, 0] rfl) h
        · rw [if_neg c19] at h
          refine lv_iconst (v := (1 : Int32)) hx hb dX8_filesThere_22 (by decide) ?_
          refine lv_goto (tgt := 27) hx hb dX8_filesThere_23 (by decide) ?_
          obtain ⟨v27, e27, h⟩ := Option.bind_eq_some_iff.mp h
          refine g_cNi (As := [.int (1 : Int32)]) (rest := [.int bx1]) (n := 1) hx hb hml hown hts hK hlo hG (m_X9_oneIf l dd cT lo G (1 : Int32) e27) (List.mem_of_getElem? (i := 54) rfl) qT_yX9_oneIf qN_X9 qC_yX9_oneIf (by decide +kernel) ⟨Nat.le_of_ble_eq_true rfl, Nat.le_of_ble_eq_true rfl⟩ rfl hl.1 rfl (Nat.le_of_ble_eq_true rfl) dX8_filesThere_27 ⟨Nat.le_of_ble_eq_true rfl, Nat.le_of_ble_eq_true rfl⟩ (fun H locs hG => ?_)
          refine lv_iadd hx hb dX8_filesThere_30 ?_
          refine lv_istore_n (lv' := [(1, .int (bx1 + v27)), (0, .ref ba0), (2, .int bx2)]) hx hb dX8_filesThere_31 rfl hl (by decide) rfl (fun ls hl => ?_)
          refine lv_iinc (v := (bx2 + (1 : Int32))) (lv' := [(2, .int (bx2 + (1 : Int32))), (1, .int (bx1 + v27)), (0, .ref ba0)]) hx hb dX8_filesThere_32 hl (k := 2) rfl rfl (by decide) rfl (fun ls hl => ?_)
          refine lv_goto (tgt := 4) hx hb dX8_filesThere_35 (by decide) ?_
          exact ih ba0 (bx1 + v27) (bx2 + (1 : Int32)) _ _ hG _ (lv_sub hl [2, 1, 0] rfl) h
  unfold f_X8_filesThere at h
  refine lv_iconst (v := (0 : Int32)) hx hb dX8_filesThere_0 (by decide) ?_
  refine lv_istore_n (lv' := [(1, .int (0 : Int32)), (0, .ref a0)]) hx hb dX8_filesThere_1 rfl hl (by decide) rfl (fun ls hl => ?_)
  refine lv_iconst (v := (0 : Int32)) hx hb dX8_filesThere_2 (by decide) ?_
  refine lv_istore_n (lv' := [(2, .int (0 : Int32)), (1, .int (0 : Int32)), (0, .ref a0)]) hx hb dX8_filesThere_3 rfl hl (by decide) rfl (fun ls hl => ?_)
  exact h4 g_N a0 (0 : Int32) (0 : Int32) _ _ hG _ (lv_sub hl [2, 1, 0] rfl) h
set_option maxRecDepth 20000 in
set_option maxHeartbeats 4000000 in
theorem m_X8_filesReadable (l : Launch) (dd : va_G) (cT : Nat → ClassId) (lo : Nat → Prop) (G : gH) (a0 : Nat) {rz : Int32} (h : f_X8_filesReadable G a0 = some rz) : Met l yX8_filesReadable (Cond.code yX8_filesReadable cX8_filesReadable 3 (some .int) :: wsL_law) (g_rm 2 42 0 0) (va_Pc [.ref a0] (g_Pre lo dd cT G)) (va_Qi (g_is rz G) (g_Pre lo dd cT) (g_A lo)) 0 0 (g_A lo) := by
  refine g_start RX8 rfl (by decide) (Nat.le_of_ble_eq_true rfl) ?_
  intro p e s m below meth c hx hb hr hlocks hml hown hnm hts hK hG hlo ls hl
  have hl : lv_has ls 3 [(0, .ref a0)] := hl
  have hG : g_S lo dd cT s s.heap [] G := hG
  have h4 : ∀ n : Nat, ∀ (ba0 : Nat) (bx1 : Int32) (bx2 : Int32), ∀ (H : Heap) (locs : List Loc), g_S lo dd cT s H locs G → ∀ ls : Array Slot, lv_has ls 3 [(0, .ref ba0), (1, .int bx1), (2, .int bx2)] → f_X8_filesReadable_L4 G n ba0 bx1 bx2 = some rz → W p l e (g_rm 2 42 0 0) s m ([.ref a0] : List Value).toArray below meth c H locs 0 0 (MQ below (va_Qi (g_is rz G) (g_Pre lo dd cT) (g_A lo)) ([.ref a0] : List Value).toArray s 0 0 (g_A lo)) (F0 m 4 ls []) := by
    intro n
    induction n with
    | zero =>
      intro ba0 bx1 bx2 H locs hG ls hl h
      cases (show (none : Option Int32) = some rz from h)
    | succ n ih =>
      intro ba0 bx1 bx2 H locs hG ls hl h
      rw [f_X8_filesReadable_L4] at h
      refine lv_iload_n hx hb dX8_filesReadable_4 rfl (lv_at hl 2 rfl) ?_
      refine lv_aload_n hx hb dX8_filesReadable_5 rfl (lv_at hl 0 rfl) ?_
      obtain ⟨v6, e6, h⟩ := Option.bind_eq_some_iff.mp h
      refine g_geti hx hb hts inlX8 hown hK hG (by rfl) 0 (by decide) qF_X8_9 e6 dX8_filesReadable_6 ?_
      refine lv_icmp_ge (tgt := 29) hx hb dX8_filesReadable_9 (by decide) (fun c9 => ?_) (fun c9 => ?_)
      · rw [if_pos c9] at h
        refine lv_iload_n hx hb dX8_filesReadable_29 rfl (lv_at hl 1 rfl) ?_
        obtain rfl := Option.some.inj h
        exact g_iret hx hb hr hlocks hK hlo hG ⟨rfl, rfl⟩ dX8_filesReadable_30
      · rw [if_neg c9] at h
        refine lv_iload_n hx hb dX8_filesReadable_12 rfl (lv_at hl 1 rfl) ?_
        refine lv_aload_n hx hb dX8_filesReadable_13 rfl (lv_at hl 0 rfl) ?_
        refine lv_iload_n hx hb dX8_filesReadable_14 rfl (lv_at hl 2 rfl) ?_
        obtain ⟨u15, i15, h⟩ := Option.bind_eq_some_iff.mp h
        obtain ⟨v15, e15, h⟩ := Option.bind_eq_some_iff.mp h
        refine g_cVi (As := [.int bx2]) (rest := [.int bx1]) (n := 1) hx hb hml hown hts hK hlo hG (m_X8_isReadable l dd cT lo G ba0 bx2 e15) qM_X8_113 qI_yX8_isReadable qS_X8_yX8_isReadable qN_X8 qC_yX8_isReadable (by decide +kernel) ⟨Nat.le_of_ble_eq_true rfl, Nat.le_of_ble_eq_true rfl⟩ (by rfl) i15 rfl hl.1 rfl (Nat.le_of_ble_eq_true rfl) dX8_filesReadable_15 ⟨Nat.le_of_ble_eq_true rfl, Nat.le_of_ble_eq_true rfl⟩ (fun H locs hG => ?_)
        obtain ⟨v18, e18, h⟩ := Option.bind_eq_some_iff.mp h
        refine g_cNi (As := [.int v15]) (rest := [.int bx1]) (n := 1) hx hb hml hown hts hK hlo hG (m_X9_oneIf l dd cT lo G v15 e18) (List.mem_of_getElem? (i := 54) rfl) qT_yX9_oneIf qN_X9 qC_yX9_oneIf (by decide +kernel) ⟨Nat.le_of_ble_eq_true rfl, Nat.le_of_ble_eq_true rfl⟩ rfl hl.1 rfl (Nat.le_of_ble_eq_true rfl) dX8_filesReadable_18 ⟨Nat.le_of_ble_eq_true rfl, Nat.le_of_ble_eq_true rfl⟩ (fun H locs hG => ?_)
        refine lv_iadd hx hb dX8_filesReadable_21 ?_
        refine lv_istore_n (lv' := [(1, .int (bx1 + v18)), (0, .ref ba0), (2, .int bx2)]) hx hb dX8_filesReadable_22 rfl hl (by decide) rfl (fun ls hl => ?_)
        refine lv_iinc (v := (bx2 + (1 : Int32))) (lv' := [(2, .int (bx2 + (1 : Int32))), (1, .int (bx1 + v18)), (0, .ref ba0)]) hx hb dX8_filesReadable_23 hl (k := 2) rfl rfl (by decide) rfl (fun ls hl => ?_)
        refine lv_goto (tgt := 4) hx hb dX8_filesReadable_26 (by decide) ?_
        exact ih ba0 (bx1 + v18) (bx2 + (1 : Int32)) _ _ hG _ (lv_sub hl [2, 1, 0] rfl) h
  unfold f_X8_filesReadable at h
  refine lv_iconst (v := (0 : Int32)) hx hb dX8_filesReadable_0 (by decide) ?_
  refine lv_istore_n (lv' := [(1, .int (0 : Int32)), (0, .ref a0)]) hx hb dX8_filesReadable_1 rfl hl (by decide) rfl (fun ls hl => ?_)
  refine lv_iconst (v := (0 : Int32)) hx hb dX8_filesReadable_2 (by decide) ?_
  refine lv_istore_n (lv' := [(2, .int (0 : Int32)), (1, .int (0 : Int32)), (0, .ref a0)]) hx hb dX8_filesReadable_3 rfl hl (by decide) rfl (fun ls hl => ?_)
  exact h4 g_N a0 (0 : Int32) (0 : Int32) _ _ hG _ (lv_sub hl [2, 1, 0] rfl) h
set_option maxRecDepth 20000 in
set_option maxHeartbeats 4000000 in
theorem m_X0_mainBlocksOf (l : Launch) (dd : va_G) (cT : Nat → ClassId) (lo : Nat → Prop) (G : gH) (a0 : Nat) (x1 : Int32) {rz : Int32} (h : f_X0_mainBlocksOf G a0 x1 = some rz) : Met l yX0_mainBlocksOf (Cond.code yX0_mainBlocksOf cX0_mainBlocksOf 2 (some .int) :: wsL_law) (g_rm 3 68 0 0) (va_Pc [.ref a0, .int x1] (g_Pre lo dd cT G)) (va_Qi (g_is rz G) (g_Pre lo dd cT) (g_A lo)) 0 0 (g_A lo) := by
  refine g_start RX0 rfl (by decide) (Nat.le_of_ble_eq_true rfl) ?_
  intro p e s m below meth c hx hb hr hlocks hml hown hnm hts hK hG hlo ls hl
  have hl : lv_has ls 2 [(0, .ref a0), (1, .int x1)] := hl
  have hG : g_S lo dd cT s s.heap [] G := hG
  unfold f_X0_mainBlocksOf at h
  refine lv_aload_n hx hb dX0_mainBlocksOf_0 rfl (lv_at hl 0 rfl) ?_
  refine lv_iload_n hx hb dX0_mainBlocksOf_1 rfl (lv_at hl 1 rfl) ?_
  refine lv_iconst (v := (0 : Int32)) hx hb dX0_mainBlocksOf_2 (by decide) ?_
  refine lv_aload_n hx hb dX0_mainBlocksOf_3 rfl (lv_at hl 0 rfl) ?_
  obtain ⟨v4, e4, h⟩ := Option.bind_eq_some_iff.mp h
  refine g_geti hx hb hts inlX0 hown hK hG (by rfl) 1 (by decide) qF_X0_15 e4 dX0_mainBlocksOf_4 ?_
  obtain ⟨u7, i7, h⟩ := Option.bind_eq_some_iff.mp h
  obtain ⟨v7, e7, h⟩ := Option.bind_eq_some_iff.mp h
  refine g_cVi (As := [.int x1, .int (0 : Int32), .int v4]) (rest := []) (n := 3) hx hb hml hown hts hK hlo hG (m_X0_blocksOf l dd cT lo G a0 x1 (0 : Int32) v4 e7) qM_X0_90 qI_yX0_blocksOf qS_X0_yX0_blocksOf qN_X0 qC_yX0_blocksOf (by decide +kernel) ⟨Nat.le_of_ble_eq_true rfl, Nat.le_of_ble_eq_true rfl⟩ (by rfl) i7 rfl hl.1 rfl (Nat.le_of_ble_eq_true rfl) dX0_mainBlocksOf_7 ⟨Nat.le_of_ble_eq_true rfl, Nat.le_of_ble_eq_true rfl⟩ (fun H locs hG => ?_)
  obtain rfl := Option.some.inj h
  exact g_iret hx hb hr hlocks hK hlo hG ⟨rfl, rfl⟩ dX0_mainBlocksOf_10
set_option maxRecDepth 20000 in
set_option maxHeartbeats 4000000 in
theorem m_X0_spareBlocksOf (l : Launch) (dd : va_G) (cT : Nat → ClassId) (lo : Nat → Prop) (G : gH) (a0 : Nat) (x1 : Int32) {rz : Int32} (h : f_X0_spareBlocksOf G a0 x1 = some rz) : Met l yX0_spareBlocksOf (Cond.code yX0_spareBlocksOf cX0_spareBlocksOf 2 (some .int) :: wsL_law) (g_rm 3 68 0 0) (va_Pc [.ref a0, .int x1] (g_Pre lo dd cT G)) (va_Qi (g_is rz G) (g_Pre lo dd cT) (g_A lo)) 0 0 (g_A lo) := by
  refine g_start RX0 rfl (by decide) (Nat.le_of_ble_eq_true rfl) ?_
  intro p e s m below meth c hx hb hr hlocks hml hown hnm hts hK hG hlo ls hl
  have hl : lv_has ls 2 [(0, .ref a0), (1, .int x1)] := hl
  have hG : g_S lo dd cT s s.heap [] G := hG
  unfold f_X0_spareBlocksOf at h
  refine lv_aload_n hx hb dX0_spareBlocksOf_0 rfl (lv_at hl 0 rfl) ?_
  refine lv_iload_n hx hb dX0_spareBlocksOf_1 rfl (lv_at hl 1 rfl) ?_
  refine lv_aload_n hx hb dX0_spareBlocksOf_2 rfl (lv_at hl 0 rfl) ?_
  obtain ⟨v3, e3, h⟩ := Option.bind_eq_some_iff.mp h
  refine g_geti hx hb hts inlX0 hown hK hG (by rfl) 1 (by decide) qF_X0_15 e3 dX0_spareBlocksOf_3 ?_
  refine lv_aload_n hx hb dX0_spareBlocksOf_6 rfl (lv_at hl 0 rfl) ?_
  obtain ⟨v7, e7, h⟩ := Option.bind_eq_some_iff.mp h
  refine g_geti hx hb hts inlX0 hown hK hG (by rfl) 0 (by decide) qF_X0_9 e7 dX0_spareBlocksOf_7 ?_
  obtain ⟨u10, i10, h⟩ := Option.bind_eq_some_iff.mp h
  obtain ⟨v10, e10, h⟩ := Option.bind_eq_some_iff.mp h
  refine g_cVi (As := [.int x1, .int v3, .int v7]) (rest := []) (n := 3) hx hb hml hown hts hK hlo hG (m_X0_blocksOf l dd cT lo G a0 x1 v3 v7 e10) qM_X0_90 qI_yX0_blocksOf qS_X0_yX0_blocksOf qN_X0 qC_yX0_blocksOf (by decide +kernel) ⟨Nat.le_of_ble_eq_true rfl, Nat.le_of_ble_eq_true rfl⟩ (by rfl) i10 rfl hl.1 rfl (Nat.le_of_ble_eq_true rfl) dX0_spareBlocksOf_10 ⟨Nat.le_of_ble_eq_true rfl, Nat.le_of_ble_eq_true rfl⟩ (fun H locs hG => ?_)
  obtain rfl := Option.some.inj h
  exact g_iret hx hb hr hlocks hK hlo hG ⟨rfl, rfl⟩ dX0_spareBlocksOf_13
set_option maxRecDepth 20000 in
set_option maxHeartbeats 4000000 in
theorem m_X0_writeNext (l : Launch) (dd : va_G) (cT : Nat → ClassId) (lo : Nat → Prop) (G : gH) (a0 : Nat) (x1 : Int32) (x2 : Int32) (x3 : Int32) (x4 : Int32) {Gz : gH} (h : f_X0_writeNext G a0 x1 x2 x3 x4 = some Gz) : Met l yX0_writeNext (Cond.code yX0_writeNext cX0_writeNext 7 none :: wsL_law) (g_rm 3 65 0 0) (va_Pc [.ref a0, .int x1, .int x2, .int x3, .int x4] (g_Pre lo dd cT G)) (va_Qv (g_iv Gz) (g_Pre lo dd cT) (g_A lo)) 0 0 (g_A lo) := by
  refine g_start RX0 rfl (by decide) (Nat.le_of_ble_eq_true rfl) ?_
  intro p e s m below meth c hx hb hr hlocks hml hown hnm hts hK hG hlo ls hl
  have hl : lv_has ls 7 [(0, .ref a0), (1, .int x1), (2, .int x2), (3, .int x3), (4, .int x4)] := hl
  have hG : g_S lo dd cT s s.heap [] G := hG
  have h67 : ∀ (G : gH) (ba0 : Nat) (bx1 : Int32) (bx2 : Int32) (bx3 : Int32) (bx4 : Int32) (bx5 : Int32) (bx6 : Int32), ∀ (H : Heap) (locs : List Loc), g_S lo dd cT s H locs G → ∀ ls : Array Slot, lv_has ls 7 [(0, .ref ba0), (1, .int bx1), (2, .int bx2), (3, .int bx3), (4, .int bx4), (5, .int bx5), (6, .int bx6)] → f_X0_writeNext_J67 G ba0 bx1 bx2 bx3 bx4 bx5 bx6 = some Gz → W p l e (g_rm 3 65 0 0) s m ([.ref a0, .int x1, .int x2, .int x3, .int x4] : List Value).toArray below meth c H locs 0 0 (MQ below (va_Qv (g_iv Gz) (g_Pre lo dd cT) (g_A lo)) ([.ref a0, .int x1, .int x2, .int x3, .int x4] : List Value).toArray s 0 0 (g_A lo)) (F0 m 67 ls []) := by
    intro G ba0 bx1 bx2 bx3 bx4 bx5 bx6 H locs hG ls hl h
    unfold f_X0_writeNext_J67 at h
    refine lv_aload_n hx hb dX0_writeNext_67 rfl (lv_at hl 0 rfl) ?_
    obtain ⟨v68, e68, h⟩ := Option.bind_eq_some_iff.mp h
    refine g_getr hx hb hts inlX0 hown hK hG (by rfl) 10 (by decide) qF_X0_44 e68 dX0_writeNext_68 ?_
    refine lv_iload hx hb dX0_writeNext_71 (lv_at hl 5 rfl) ?_
    refine lv_iload hx hb dX0_writeNext_73 (lv_at hl 6 rfl) ?_
    obtain ⟨G75, e75, h⟩ := Option.bind_eq_some_iff.mp h
    refine g_cNv (As := [.ref v68, .int bx5, .int bx6]) (rest := []) (n := 3) hx hb hml hown hts hK hlo hG (m_X9_put l dd cT lo G v68 bx5 bx6 e75) (List.mem_of_getElem? (i := 13) rfl) qT_yX9_put qN_X9 qC_yX9_put (by decide +kernel) ⟨Nat.le_of_ble_eq_true rfl, Nat.le_of_ble_eq_true rfl⟩ rfl hl.1 rfl (Nat.le_of_ble_eq_true rfl) dX0_writeNext_75 ⟨Nat.le_of_ble_eq_true rfl, Nat.le_of_ble_eq_true rfl⟩ (fun H locs hG => ?_)
    refine lv_aload_n hx hb dX0_writeNext_78 rfl (lv_at hl 0 rfl) ?_
    obtain ⟨v79, e79, h⟩ := Option.bind_eq_some_iff.mp h
    refine g_getr hx hb hts inlX0 hown hK hG (by rfl) 3 (by decide) qF_X0_21 e79 dX0_writeNext_79 ?_
    refine lv_iload hx hb dX0_writeNext_82 (lv_at hl 6 rfl) ?_
    refine lv_iload_n hx hb dX0_writeNext_84 rfl (lv_at hl 1 rfl) ?_
    obtain ⟨G85, e85, h⟩ := Option.bind_eq_some_iff.mp h
    refine g_cNv (As := [.ref v79, .int bx6, .int bx1]) (rest := []) (n := 3) hx hb hml hown hts hK hlo hG (m_X9_put l dd cT lo G75 v79 bx6 bx1 e85) (List.mem_of_getElem? (i := 13) rfl) qT_yX9_put qN_X9 qC_yX9_put (by decide +kernel) ⟨Nat.le_of_ble_eq_true rfl, Nat.le_of_ble_eq_true rfl⟩ rfl hl.1 rfl (Nat.le_of_ble_eq_true rfl) dX0_writeNext_85 ⟨Nat.le_of_ble_eq_true rfl, Nat.le_of_ble_eq_true rfl⟩ (fun H locs hG => ?_)
    refine lv_aload_n hx hb dX0_writeNext_88 rfl (lv_at hl 0 rfl) ?_
    obtain ⟨v89, e89, h⟩ := Option.bind_eq_some_iff.mp h
    refine g_getr hx hb hts inlX0 hown hK hG (by rfl) 6 (by decide) qF_X0_32 e89 dX0_writeNext_89 ?_
    refine lv_iload hx hb dX0_writeNext_92 (lv_at hl 6 rfl) ?_
    refine lv_iload_n hx hb dX0_writeNext_94 rfl (lv_at hl 2 rfl) ?_
    obtain ⟨G95, e95, h⟩ := Option.bind_eq_some_iff.mp h
    refine g_cNv (As := [.ref v89, .int bx6, .int bx2]) (rest := []) (n := 3) hx hb hml hown hts hK hlo hG (m_X9_put l dd cT lo G85 v89 bx6 bx2 e95) (List.mem_of_getElem? (i := 13) rfl) qT_yX9_put qN_X9 qC_yX9_put (by decide +kernel) ⟨Nat.le_of_ble_eq_true rfl, Nat.le_of_ble_eq_true rfl⟩ rfl hl.1 rfl (Nat.le_of_ble_eq_true rfl) dX0_writeNext_95 ⟨Nat.le_of_ble_eq_true rfl, Nat.le_of_ble_eq_true rfl⟩ (fun H locs hG => ?_)
    refine lv_aload_n hx hb dX0_writeNext_98 rfl (lv_at hl 0 rfl) ?_
    obtain ⟨v99, e99, h⟩ := Option.bind_eq_some_iff.mp h
    refine g_getr hx hb hts inlX0 hown hK hG (by rfl) 7 (by decide) qF_X0_35 e99 dX0_writeNext_99 ?_
    refine lv_iload hx hb dX0_writeNext_102 (lv_at hl 6 rfl) ?_
    refine lv_iload_n hx hb dX0_writeNext_104 rfl (lv_at hl 3 rfl) ?_
    obtain ⟨G105, e105, h⟩ := Option.bind_eq_some_iff.mp h
    refine g_cNv (As := [.ref v99, .int bx6, .int bx3]) (rest := []) (n := 3) hx hb hml hown hts hK hlo hG (m_X9_put l dd cT lo G95 v99 bx6 bx3 e105) (List.mem_of_getElem? (i := 13) rfl) qT_yX9_put qN_X9 qC_yX9_put (by decide +kernel) ⟨Nat.le_of_ble_eq_true rfl, Nat.le_of_ble_eq_true rfl⟩ rfl hl.1 rfl (Nat.le_of_ble_eq_true rfl) dX0_writeNext_105 ⟨Nat.le_of_ble_eq_true rfl, Nat.le_of_ble_eq_true rfl⟩ (fun H locs hG => ?_)
    refine lv_aload_n hx hb dX0_writeNext_108 rfl (lv_at hl 0 rfl) ?_
    obtain ⟨v109, e109, h⟩ := Option.bind_eq_some_iff.mp h
    refine g_getr hx hb hts inlX0 hown hK hG (by rfl) 8 (by decide) qF_X0_38 e109 dX0_writeNext_109 ?_
    refine lv_iload hx hb dX0_writeNext_112 (lv_at hl 6 rfl) ?_
    refine lv_iload hx hb dX0_writeNext_114 (lv_at hl 4 rfl) ?_
    obtain ⟨G116, e116, h⟩ := Option.bind_eq_some_iff.mp h
    refine g_cNv (As := [.ref v109, .int bx6, .int bx4]) (rest := []) (n := 3) hx hb hml hown hts hK hlo hG (m_X9_put l dd cT lo G105 v109 bx6 bx4 e116) (List.mem_of_getElem? (i := 13) rfl) qT_yX9_put qN_X9 qC_yX9_put (by decide +kernel) ⟨Nat.le_of_ble_eq_true rfl, Nat.le_of_ble_eq_true rfl⟩ rfl hl.1 rfl (Nat.le_of_ble_eq_true rfl) dX0_writeNext_116 ⟨Nat.le_of_ble_eq_true rfl, Nat.le_of_ble_eq_true rfl⟩ (fun H locs hG => ?_)
    obtain rfl := Option.some.inj h
    exact g_vret hx hb hr hlocks hK hlo hG rfl dX0_writeNext_119
  unfold f_X0_writeNext at h
  refine lv_aload_n hx hb dX0_writeNext_0 rfl (lv_at hl 0 rfl) ?_
  obtain ⟨v1, e1, h⟩ := Option.bind_eq_some_iff.mp h
  refine g_geti hx hb hts inlX0 hown hK hG (by rfl) 2 (by decide) qF_X0_18 e1 dX0_writeNext_1 ?_
  refine lv_istore (lv' := [(5, .int v1), (0, .ref a0), (1, .int x1), (2, .int x2), (3, .int x3), (4, .int x4)]) hx hb dX0_writeNext_4 hl (by decide) rfl (fun ls hl => ?_)
  refine lv_aload_n hx hb dX0_writeNext_6 rfl (lv_at hl 1 rfl) ?_
  refine lv_dup hx hb dX0_writeNext_7 rfl ?_
  obtain ⟨v8, e8, h⟩ := Option.bind_eq_some_iff.mp h
  refine g_geti hx hb hts inlX0 hown hK hG (by rfl) 2 (by decide) qF_X0_18 e8 dX0_writeNext_8 ?_
  refine lv_iconst (v := (1 : Int32)) hx hb dX0_writeNext_11 (by decide) ?_
  refine lv_iadd hx hb dX0_writeNext_12 ?_
  obtain ⟨G13, i13, h⟩ := Option.bind_eq_some_iff.mp h
  refine g_putv hx hb hts inlX0 tyX0 tyX0_ok nmX0 hown hK hG (by rfl) 2 (by decide) qF_X0_18 rfl rfl rfl rfl i13 dX0_writeNext_13 (fun H locs hG => ?_)
  refine lv_iload hx hb dX0_writeNext_16 (lv_at hl 0 rfl) ?_
  refine lv_istore (lv' := [(6, .int v1), (5, .int v1), (0, .ref a0), (1, .int x1), (2, .int x2), (3, .int x3), (4, .int x4)]) hx hb dX0_writeNext_18 hl (by decide) rfl (fun ls hl => ?_)
  refine lv_aload_n hx hb dX0_writeNext_20 rfl (lv_at hl 2 rfl) ?_
  refine lv_iload hx hb dX0_writeNext_21 (lv_at hl 1 rfl) ?_
  obtain ⟨u23, i23, h⟩ := Option.bind_eq_some_iff.mp h
  obtain ⟨v23, e23, h⟩ := Option.bind_eq_some_iff.mp h
  refine g_cVi (As := [.int v1]) (rest := []) (n := 1) hx hb hml hown hts hK hlo hG (m_X0_isBad l dd cT lo G13 a0 v1 e23) qM_X0_73 qI_yX0_isBad qS_X0_yX0_isBad qN_X0 qC_yX0_isBad (by decide +kernel) ⟨Nat.le_of_ble_eq_true rfl, Nat.le_of_ble_eq_true rfl⟩ (by rfl) i23 rfl hl.1 rfl (Nat.le_of_ble_eq_true rfl) dX0_writeNext_23 ⟨Nat.le_of_ble_eq_true rfl, Nat.le_of_ble_eq_true rfl⟩ (fun H locs hG => ?_)
  refine lv_if_eq (tgt := 67) hx hb dX0_writeNext_26 (by decide) (fun c26 => ?_) (fun c26 => ?_)
  · rw [if_pos c26] at h
    exact h67 G13 a0 x1 x2 x3 x4 v1 v1 _ _ hG _ (lv_sub hl [2, 3, 4, 5, 6, 1, 0] rfl) h
  · rw [if_neg c26] at h
    refine lv_aload_n hx hb dX0_writeNext_29 rfl (lv_at hl 2 rfl) ?_
    obtain ⟨v30, e30, h⟩ := Option.bind_eq_some_iff.mp h
    refine g_getr hx hb hts inlX0 hown hK hG (by rfl) 3 (by decide) qF_X0_21 e30 dX0_writeNext_30 ?_
    refine lv_iload hx hb dX0_writeNext_33 (lv_at hl 1 rfl) ?_
    refine lv_iconst (v := (3 : Int32)) hx hb dX0_writeNext_35 (by decide) ?_
    obtain ⟨G36, e36, h⟩ := Option.bind_eq_some_iff.mp h
    refine g_cNv (As := [.ref v30, .int v1, .int (3 : Int32)]) (rest := []) (n := 3) hx hb hml hown hts hK hlo hG (m_X9_put l dd cT lo G13 v30 v1 (3 : Int32) e36) (List.mem_of_getElem? (i := 13) rfl) qT_yX9_put qN_X9 qC_yX9_put (by decide +kernel) ⟨Nat.le_of_ble_eq_true rfl, Nat.le_of_ble_eq_true rfl⟩ rfl hl.1 rfl (Nat.le_of_ble_eq_true rfl) dX0_writeNext_36 ⟨Nat.le_of_ble_eq_true rfl, Nat.le_of_ble_eq_true rfl⟩ (fun H locs hG => ?_)
    refine lv_aload_n hx hb dX0_writeNext_39 rfl (lv_at hl 2 rfl) ?_
    obtain ⟨v40, e40, h⟩ := Option.bind_eq_some_iff.mp h
    refine g_getr hx hb hts inlX0 hown hK hG (by rfl) 6 (by decide) qF_X0_32 e40 dX0_writeNext_40 ?_
    refine lv_iload hx hb dX0_writeNext_43 (lv_at hl 1 rfl) ?_
    refine lv_iload_n hx hb dX0_writeNext_45 rfl (lv_at hl 4 rfl) ?_
    obtain ⟨G46, e46, h⟩ := Option.bind_eq_some_iff.mp h
    refine g_cNv (As := [.ref v40, .int v1, .int x2]) (rest := []) (n := 3) hx hb hml hown hts hK hlo hG (m_X9_put l dd cT lo G36 v40 v1 x2 e46) (List.mem_of_getElem? (i := 13) rfl) qT_yX9_put qN_X9 qC_yX9_put (by decide +kernel) ⟨Nat.le_of_ble_eq_true rfl, Nat.le_of_ble_eq_true rfl⟩ rfl hl.1 rfl (Nat.le_of_ble_eq_true rfl) dX0_writeNext_46 ⟨Nat.le_of_ble_eq_true rfl, Nat.le_of_ble_eq_true rfl⟩ (fun H locs hG => ?_)
    refine lv_aload_n hx hb dX0_writeNext_49 rfl (lv_at hl 2 rfl) ?_
    refine lv_iload_n hx hb dX0_writeNext_50 rfl (lv_at hl 4 rfl) ?_
    obtain ⟨u51, i51, h⟩ := Option.bind_eq_some_iff.mp h
    obtain ⟨q51, e51, h⟩ := Option.bind_eq_some_iff.mp h
    refine g_cVi (As := [.int x2]) (rest := []) (n := 1) hx hb hml hown hts hK hlo hG (m_X0_takeSpare l dd cT lo G46 a0 x2 e51) qM_X0_98 qI_yX0_takeSpare qS_X0_yX0_takeSpare qN_X0 qC_yX0_takeSpare (by decide +kernel) ⟨Nat.le_of_ble_eq_true rfl, Nat.le_of_ble_eq_true rfl⟩ (by rfl) i51 rfl hl.1 rfl (Nat.le_of_ble_eq_true rfl) dX0_writeNext_51 ⟨Nat.le_of_ble_eq_true rfl, Nat.le_of_ble_eq_true rfl⟩ (fun H locs hG => ?_)
    refine lv_istore (lv' := [(6, .int q51.2), (5, .int v1), (0, .ref a0), (1, .int x1), (2, .int x2), (3, .int x3), (4, .int x4)]) hx hb dX0_writeNext_54 hl (by decide) rfl (fun ls hl => ?_)
    refine lv_aload_n hx hb dX0_writeNext_56 rfl (lv_at hl 2 rfl) ?_
    obtain ⟨v57, e57, h⟩ := Option.bind_eq_some_iff.mp h
    refine g_getr hx hb hts inlX0 hown hK hG (by rfl) 9 (by decide) qF_X0_41 e57 dX0_writeNext_57 ?_
    refine lv_iload hx hb dX0_writeNext_60 (lv_at hl 0 rfl) ?_
    refine lv_iload hx hb dX0_writeNext_62 (lv_at hl 1 rfl) ?_
    obtain ⟨G64, e64, h⟩ := Option.bind_eq_some_iff.mp h
    refine g_cNv (As := [.ref v57, .int q51.2, .int v1]) (rest := []) (n := 3) hx hb hml hown hts hK hlo hG (m_X9_put l dd cT lo q51.1 v57 q51.2 v1 e64) (List.mem_of_getElem? (i := 13) rfl) qT_yX9_put qN_X9 qC_yX9_put (by decide +kernel) ⟨Nat.le_of_ble_eq_true rfl, Nat.le_of_ble_eq_true rfl⟩ rfl hl.1 rfl (Nat.le_of_ble_eq_true rfl) dX0_writeNext_64 ⟨Nat.le_of_ble_eq_true rfl, Nat.le_of_ble_eq_true rfl⟩ (fun H locs hG => ?_)
    exact h67 G64 a0 x1 x2 x3 x4 v1 q51.2 _ _ hG _ (lv_sub hl [2, 3, 4, 5, 6, 1, 0] rfl) h
set_option maxRecDepth 20000 in
set_option maxHeartbeats 4000000 in
theorem m_X1_takeFrom (l : Launch) (dd : va_G) (cT : Nat → ClassId) (lo : Nat → Prop) (G : gH) (a0 : Nat) (a1 : Nat) {Gz : gH} (h : f_X1_takeFrom G a0 a1 = some Gz) : Met l yX1_takeFrom (Cond.code yX1_takeFrom cX1_takeFrom 2 none :: wsL_law) (g_rm 2 43 0 0) (va_Pc [.ref a0, .ref a1] (g_Pre lo dd cT G)) (va_Qv (g_iv Gz) (g_Pre lo dd cT) (g_A lo)) 0 0 (g_A lo) := by
  refine g_start RX1 rfl (by decide) (Nat.le_of_ble_eq_true rfl) ?_
  intro p e s m below meth c hx hb hr hlocks hml hown hnm hts hK hG hlo ls hl
  have hl : lv_has ls 2 [(0, .ref a0), (1, .ref a1)] := hl
  have hG : g_S lo dd cT s s.heap [] G := hG
  unfold f_X1_takeFrom at h
  refine lv_aload_n hx hb dX1_takeFrom_0 rfl (lv_at hl 0 rfl) ?_
  obtain ⟨v1, e1, h⟩ := Option.bind_eq_some_iff.mp h
  refine g_getr hx hb hts inlX1 hown hK hG (by rfl) 0 (by decide) qF_X1_12 e1 dX1_takeFrom_1 ?_
  refine lv_aload_n hx hb dX1_takeFrom_4 rfl (lv_at hl 1 rfl) ?_
  obtain ⟨v5, e5, h⟩ := Option.bind_eq_some_iff.mp h
  refine g_getr hx hb hts inlX1 hown hK hG (by rfl) 0 (by decide) qF_X1_12 e5 dX1_takeFrom_5 ?_
  obtain ⟨u8, i8, h⟩ := Option.bind_eq_some_iff.mp h
  obtain ⟨G8, e8, h⟩ := Option.bind_eq_some_iff.mp h
  refine g_cVv (As := [.ref v5]) (rest := []) (n := 1) hx hb hml hown hts hK hlo hG (m_X0_takeFrom l dd cT lo G v1 v5 e8) qM_X1_111 qI_yX0_takeFrom qS_X0_yX0_takeFrom qN_X0 qC_yX0_takeFrom (by decide +kernel) ⟨Nat.le_of_ble_eq_true rfl, Nat.le_of_ble_eq_true rfl⟩ (by rfl) i8 rfl hl.1 rfl (Nat.le_of_ble_eq_true rfl) dX1_takeFrom_8 ⟨Nat.le_of_ble_eq_true rfl, Nat.le_of_ble_eq_true rfl⟩ (fun H locs hG => ?_)
  refine lv_aload_n hx hb dX1_takeFrom_11 rfl (lv_at hl 0 rfl) ?_
  obtain ⟨v12, e12, h⟩ := Option.bind_eq_some_iff.mp h
  refine g_getr hx hb hts inlX1 hown hK hG (by rfl) 1 (by decide) qF_X1_21 e12 dX1_takeFrom_12 ?_
  refine lv_aload_n hx hb dX1_takeFrom_15 rfl (lv_at hl 1 rfl) ?_
  obtain ⟨v16, e16, h⟩ := Option.bind_eq_some_iff.mp h
  refine g_getr hx hb hts inlX1 hown hK hG (by rfl) 1 (by decide) qF_X1_21 e16 dX1_takeFrom_16 ?_
  obtain ⟨u19, i19, h⟩ := Option.bind_eq_some_iff.mp h
  obtain ⟨G19, e19, h⟩ := Option.bind_eq_some_iff.mp h
  refine g_cVv (As := [.ref v16]) (rest := []) (n := 1) hx hb hml hown hts hK hlo hG (m_X7_takeFrom l dd cT lo G8 v12 v16 e19) qM_X1_115 qI_yX7_takeFrom qS_X7_yX7_takeFrom qN_X7 qC_yX7_takeFrom (by decide +kernel) ⟨Nat.le_of_ble_eq_true rfl, Nat.le_of_ble_eq_true rfl⟩ (by rfl) i19 rfl hl.1 rfl (Nat.le_of_ble_eq_true rfl) dX1_takeFrom_19 ⟨Nat.le_of_ble_eq_true rfl, Nat.le_of_ble_eq_true rfl⟩ (fun H locs hG => ?_)
  refine lv_aload_n hx hb dX1_takeFrom_22 rfl (lv_at hl 0 rfl) ?_
  obtain ⟨v23, e23, h⟩ := Option.bind_eq_some_iff.mp h
  refine g_getr hx hb hts inlX1 hown hK hG (by rfl) 2 (by decide) qF_X1_28 e23 dX1_takeFrom_23 ?_
  refine lv_aload_n hx hb dX1_takeFrom_26 rfl (lv_at hl 1 rfl) ?_
  obtain ⟨v27, e27, h⟩ := Option.bind_eq_some_iff.mp h
  refine g_getr hx hb hts inlX1 hown hK hG (by rfl) 2 (by decide) qF_X1_28 e27 dX1_takeFrom_27 ?_
  obtain ⟨u30, i30, h⟩ := Option.bind_eq_some_iff.mp h
  obtain ⟨G30, e30, h⟩ := Option.bind_eq_some_iff.mp h
  refine g_cVv (As := [.ref v27]) (rest := []) (n := 1) hx hb hml hown hts hK hlo hG (m_X5_takeFrom l dd cT lo G19 v23 v27 e30) qM_X1_118 qI_yX5_takeFrom qS_X5_yX5_takeFrom qN_X5 qC_yX5_takeFrom (by decide +kernel) ⟨Nat.le_of_ble_eq_true rfl, Nat.le_of_ble_eq_true rfl⟩ (by rfl) i30 rfl hl.1 rfl (Nat.le_of_ble_eq_true rfl) dX1_takeFrom_30 ⟨Nat.le_of_ble_eq_true rfl, Nat.le_of_ble_eq_true rfl⟩ (fun H locs hG => ?_)
  refine lv_aload_n hx hb dX1_takeFrom_33 rfl (lv_at hl 0 rfl) ?_
  refine lv_aload_n hx hb dX1_takeFrom_34 rfl (lv_at hl 1 rfl) ?_
  obtain ⟨v35, e35, h⟩ := Option.bind_eq_some_iff.mp h
  refine g_geti hx hb hts inlX1 hown hK hG (by rfl) 3 (by decide) qF_X1_32 e35 dX1_takeFrom_35 ?_
  obtain ⟨G38, i38, h⟩ := Option.bind_eq_some_iff.mp h
  refine g_putv hx hb hts inlX1 tyX1 tyX1_ok nmX1 hown hK hG (by rfl) 3 (by decide) qF_X1_32 rfl rfl rfl rfl i38 dX1_takeFrom_38 (fun H locs hG => ?_)
  refine lv_aload_n hx hb dX1_takeFrom_41 rfl (lv_at hl 1 rfl) ?_
  obtain ⟨v42, e42, h⟩ := Option.bind_eq_some_iff.mp h
  refine g_getr hx hb hts inlX1 hown hK hG (by rfl) 4 (by decide) qF_X1_36 e42 dX1_takeFrom_42 ?_
  refine lv_aload_n hx hb dX1_takeFrom_45 rfl (lv_at hl 0 rfl) ?_
  obtain ⟨v46, e46, h⟩ := Option.bind_eq_some_iff.mp h
  refine g_getr hx hb hts inlX1 hown hK hG (by rfl) 4 (by decide) qF_X1_36 e46 dX1_takeFrom_46 ?_
  obtain ⟨G49, e49, h⟩ := Option.bind_eq_some_iff.mp h
  refine g_cNv (As := [.ref v42, .ref v46]) (rest := []) (n := 2) hx hb hml hown hts hK hlo hG (m_X9_copy__ l dd cT lo G38 v42 v46 e49) (List.mem_of_getElem? (i := 19) rfl) qT_yX9_copy__ qN_X9 qC_yX9_copy__ (by decide +kernel) ⟨Nat.le_of_ble_eq_true rfl, Nat.le_of_ble_eq_true rfl⟩ rfl hl.1 rfl (Nat.le_of_ble_eq_true rfl) dX1_takeFrom_49 ⟨Nat.le_of_ble_eq_true rfl, Nat.le_of_ble_eq_true rfl⟩ (fun H locs hG => ?_)
  refine lv_aload_n hx hb dX1_takeFrom_52 rfl (lv_at hl 0 rfl) ?_
  refine lv_aload_n hx hb dX1_takeFrom_53 rfl (lv_at hl 1 rfl) ?_
  obtain ⟨v54, e54, h⟩ := Option.bind_eq_some_iff.mp h
  refine g_geti hx hb hts inlX1 hown hK hG (by rfl) 5 (by decide) qF_X1_40 e54 dX1_takeFrom_54 ?_
  obtain ⟨w57, e57, h⟩ := Option.bind_eq_some_iff.mp h
  obtain ⟨n57, rfl⟩ := g_z_nar e57
  obtain ⟨G57, i57, h⟩ := Option.bind_eq_some_iff.mp h
  refine g_putv hx hb hts inlX1 tyX1 tyX1_ok nmX1 hown hK hG (by rfl) 5 (by decide) qF_X1_40 rfl rfl n57 (g_z_fit e57) i57 dX1_takeFrom_57 (fun H locs hG => ?_)
  obtain rfl := Option.some.inj h
  exact g_vret hx hb hr hlocks hK hlo hG rfl dX1_takeFrom_60
set_option maxRecDepth 20000 in
set_option maxHeartbeats 4000000 in
theorem m_X1_canReadVersion (l : Launch) (dd : va_G) (cT : Nat → ClassId) (lo : Nat → Prop) (G : gH) (a0 : Nat) (x1 : Int32) {rz : Int32} (h : f_X1_canReadVersion G a0 x1 = some rz) : Met l yX1_canReadVersion (Cond.code yX1_canReadVersion cX1_canReadVersion 2 (some .boolean) :: wsL_law) (g_rm 2 45 0 0) (va_Pc [.ref a0, .int x1] (g_Pre lo dd cT G)) (va_Qi (g_is rz G) (g_Pre lo dd cT) (g_A lo)) 0 0 (g_A lo) := by
  refine g_start RX1 rfl (by decide) (Nat.le_of_ble_eq_true rfl) ?_
  intro p e s m below meth c hx hb hr hlocks hml hown hnm hts hK hG hlo ls hl
  have hl : lv_has ls 2 [(0, .ref a0), (1, .int x1)] := hl
  have hG : g_S lo dd cT s s.heap [] G := hG
  unfold f_X1_canReadVersion at h
  refine lv_aload_n hx hb dX1_canReadVersion_0 rfl (lv_at hl 0 rfl) ?_
  obtain ⟨v1, e1, h⟩ := Option.bind_eq_some_iff.mp h
  refine g_getr hx hb hts inlX1 hown hK hG (by rfl) 0 (by decide) qF_X1_12 e1 dX1_canReadVersion_1 ?_
  refine lv_aload_n hx hb dX1_canReadVersion_4 rfl (lv_at hl 0 rfl) ?_
  obtain ⟨v5, e5, h⟩ := Option.bind_eq_some_iff.mp h
  refine g_getr hx hb hts inlX1 hown hK hG (by rfl) 1 (by decide) qF_X1_21 e5 dX1_canReadVersion_5 ?_
  refine lv_iload_n hx hb dX1_canReadVersion_8 rfl (lv_at hl 1 rfl) ?_
  obtain ⟨u9, i9, h⟩ := Option.bind_eq_some_iff.mp h
  obtain ⟨v9, e9, h⟩ := Option.bind_eq_some_iff.mp h
  refine g_cVi (As := [.int x1]) (rest := [.ref v1]) (n := 1) hx hb hml hown hts hK hlo hG (m_X7_firstOf l dd cT lo G v5 x1 e9) qM_X1_125 qI_yX7_firstOf qS_X7_yX7_firstOf qN_X7 qC_yX7_firstOf (by decide +kernel) ⟨Nat.le_of_ble_eq_true rfl, Nat.le_of_ble_eq_true rfl⟩ (by rfl) i9 rfl hl.1 rfl (Nat.le_of_ble_eq_true rfl) dX1_canReadVersion_9 ⟨Nat.le_of_ble_eq_true rfl, Nat.le_of_ble_eq_true rfl⟩ (fun H locs hG => ?_)
  refine lv_aload_n hx hb dX1_canReadVersion_12 rfl (lv_at hl 0 rfl) ?_
  obtain ⟨v13, e13, h⟩ := Option.bind_eq_some_iff.mp h
  refine g_getr hx hb hts inlX1 hown hK hG (by rfl) 1 (by decide) qF_X1_21 e13 dX1_canReadVersion_13 ?_
  refine lv_iload_n hx hb dX1_canReadVersion_16 rfl (lv_at hl 1 rfl) ?_
  obtain ⟨u17, i17, h⟩ := Option.bind_eq_some_iff.mp h
  obtain ⟨v17, e17, h⟩ := Option.bind_eq_some_iff.mp h
  refine g_cVi (As := [.int x1]) (rest := [.int v9, .ref v1]) (n := 1) hx hb hml hown hts hK hlo hG (m_X7_lengthOf l dd cT lo G v13 x1 e17) qM_X1_128 qI_yX7_lengthOf qS_X7_yX7_lengthOf qN_X7 qC_yX7_lengthOf (by decide +kernel) ⟨Nat.le_of_ble_eq_true rfl, Nat.le_of_ble_eq_true rfl⟩ (by rfl) i17 rfl hl.1 rfl (Nat.le_of_ble_eq_true rfl) dX1_canReadVersion_17 ⟨Nat.le_of_ble_eq_true rfl, Nat.le_of_ble_eq_true rfl⟩ (fun H locs hG => ?_)
  obtain ⟨u20, i20, h⟩ := Option.bind_eq_some_iff.mp h
  obtain ⟨v20, e20, h⟩ := Option.bind_eq_some_iff.mp h
  refine g_cVi (As := [.int v9, .int v17]) (rest := []) (n := 2) hx hb hml hown hts hK hlo hG (m_X0_canRead l dd cT lo G v1 v9 v17 e20) qM_X1_129 qI_yX0_canRead qS_X0_yX0_canRead qN_X0 qC_yX0_canRead (by decide +kernel) ⟨Nat.le_of_ble_eq_true rfl, Nat.le_of_ble_eq_true rfl⟩ (by rfl) i20 rfl hl.1 rfl (Nat.le_of_ble_eq_true rfl) dX1_canReadVersion_20 ⟨Nat.le_of_ble_eq_true rfl, Nat.le_of_ble_eq_true rfl⟩ (fun H locs hG => ?_)
  obtain ⟨n23, rfl⟩ := g_z_nar h
  exact g_zret hx hb hr hlocks hK hlo hG n23 ⟨rfl, rfl⟩ dX1_canReadVersion_23
set_option maxRecDepth 20000 in
set_option maxHeartbeats 4000000 in
theorem m_X1_relocatedBlock (l : Launch) (dd : va_G) (cT : Nat → ClassId) (lo : Nat → Prop) (G : gH) (a0 : Nat) (x1 : Int32) {rz : Int32} (h : f_X1_relocatedBlock G a0 x1 = some rz) : Met l yX1_relocatedBlock (Cond.code yX1_relocatedBlock cX1_relocatedBlock 4 (some .int) :: wsL_law) (g_rm 2 43 0 0) (va_Pc [.ref a0, .int x1] (g_Pre lo dd cT G)) (va_Qi (g_is rz G) (g_Pre lo dd cT) (g_A lo)) 0 0 (g_A lo) := by
  refine g_start RX1 rfl (by decide) (Nat.le_of_ble_eq_true rfl) ?_
  intro p e s m below meth c hx hb hr hlocks hml hown hnm hts hK hG hlo ls hl
  have hl : lv_has ls 4 [(0, .ref a0), (1, .int x1)] := hl
  have hG : g_S lo dd cT s s.heap [] G := hG
  have h4 : ∀ n : Nat, ∀ (ba0 : Nat) (bx1 : Int32) (bx2 : Int32) (bx3 : Int32), ∀ (H : Heap) (locs : List Loc), g_S lo dd cT s H locs G → ∀ ls : Array Slot, lv_has ls 4 [(0, .ref ba0), (1, .int bx1), (2, .int bx2), (3, .int bx3)] → f_X1_relocatedBlock_L4 G n ba0 bx1 bx2 bx3 = some rz → W p l e (g_rm 2 43 0 0) s m ([.ref a0, .int x1] : List Value).toArray below meth c H locs 0 0 (MQ below (va_Qi (g_is rz G) (g_Pre lo dd cT) (g_A lo)) ([.ref a0, .int x1] : List Value).toArray s 0 0 (g_A lo)) (F0 m 4 ls []) := by
    intro n
    induction n with
    | zero =>
      intro ba0 bx1 bx2 bx3 H locs hG ls hl h
      cases (show (none : Option Int32) = some rz from h)
    | succ n ih =>
      intro ba0 bx1 bx2 bx3 H locs hG ls hl h
      rw [f_X1_relocatedBlock_L4] at h
      refine lv_iload_n hx hb dX1_relocatedBlock_4 rfl (lv_at hl 1 rfl) ?_
      refine lv_if_lt (tgt := 66) hx hb dX1_relocatedBlock_5 (by decide) (fun c5 => ?_) (fun c5 => ?_)
      · rw [if_pos c5] at h
        refine lv_iconst (v := (-1 : Int32)) hx hb dX1_relocatedBlock_66 (by decide) ?_
        obtain rfl := Option.some.inj h
        exact g_iret hx hb hr hlocks hK hlo hG ⟨rfl, rfl⟩ dX1_relocatedBlock_67
      · rw [if_neg c5] at h
        refine lv_iload_n hx hb dX1_relocatedBlock_8 rfl (lv_at hl 3 rfl) ?_
        refine lv_aload_n hx hb dX1_relocatedBlock_9 rfl (lv_at hl 0 rfl) ?_
        obtain ⟨v10, e10, h⟩ := Option.bind_eq_some_iff.mp h
        refine g_getr hx hb hts inlX1 hown hK hG (by rfl) 0 (by decide) qF_X1_12 e10 dX1_relocatedBlock_10 ?_
        obtain ⟨v13, e13, h⟩ := Option.bind_eq_some_iff.mp h
        refine g_geti hx hb hts inlX0 hown hK hG (by rfl) 1 (by decide) qF_X1_133 e13 dX1_relocatedBlock_13 ?_
        refine lv_icmp_ge (tgt := 66) hx hb dX1_relocatedBlock_16 (by decide) (fun c16 => ?_) (fun c16 => ?_)
        · rw [if_pos c16] at h
          refine lv_iconst (v := (-1 : Int32)) hx hb dX1_relocatedBlock_66 (by decide) ?_
          obtain rfl := Option.some.inj h
          exact g_iret hx hb hr hlocks hK hlo hG ⟨rfl, rfl⟩ dX1_relocatedBlock_67
        · rw [if_neg c16] at h
          refine lv_aload_n hx hb dX1_relocatedBlock_19 rfl (lv_at hl 0 rfl) ?_
          obtain ⟨v20, e20, h⟩ := Option.bind_eq_some_iff.mp h
          refine g_getr hx hb hts inlX1 hown hK hG (by rfl) 0 (by decide) qF_X1_12 e20 dX1_relocatedBlock_20 ?_
          refine lv_iload_n hx hb dX1_relocatedBlock_23 rfl (lv_at hl 3 rfl) ?_
          obtain ⟨u24, i24, h⟩ := Option.bind_eq_some_iff.mp h
          obtain ⟨v24, e24, h⟩ := Option.bind_eq_some_iff.mp h
          refine g_cVi (As := [.int bx3]) (rest := []) (n := 1) hx hb hml hown hts hK hlo hG (m_X0_kindOf l dd cT lo G v20 bx3 e24) qM_X1_136 qI_yX0_kindOf qS_X0_yX0_kindOf qN_X0 qC_yX0_kindOf (by decide +kernel) ⟨Nat.le_of_ble_eq_true rfl, Nat.le_of_ble_eq_true rfl⟩ (by rfl) i24 rfl hl.1 rfl (Nat.le_of_ble_eq_true rfl) dX1_relocatedBlock_24 ⟨Nat.le_of_ble_eq_true rfl, Nat.le_of_ble_eq_true rfl⟩ (fun H locs hG => ?_)
          refine lv_iconst (v := (3 : Int32)) hx hb dX1_relocatedBlock_27 (by decide) ?_
          refine lv_icmp_ne (tgt := 60) hx hb dX1_relocatedBlock_28 (by decide) (fun c28 => ?_) (fun c28 => ?_)
          · rw [if_neg c28] at h
            refine lv_iinc (v := (bx3 + (1 : Int32))) (lv' := [(3, .int (bx3 + (1 : Int32))), (0, .ref ba0), (1, .int bx1), (2, .int bx2)]) hx hb dX1_relocatedBlock_60 hl (k := 3) rfl rfl (by decide) rfl (fun ls hl => ?_)
            refine lv_goto (tgt := 4) hx hb dX1_relocatedBlock_63 (by decide) ?_
            exact ih ba0 bx1 bx2 (bx3 + (1 : Int32)) _ _ hG _ (lv_sub hl [1, 2, 3, 0] rfl) h
          · rw [if_pos c28] at h
            refine lv_aload_n hx hb dX1_relocatedBlock_31 rfl (lv_at hl 0 rfl) ?_
            obtain ⟨v32, e32, h⟩ := Option.bind_eq_some_iff.mp h
            refine g_getr hx hb hts inlX1 hown hK hG (by rfl) 2 (by decide) qF_X1_28 e32 dX1_relocatedBlock_32 ?_
            refine lv_aload_n hx hb dX1_relocatedBlock_35 rfl (lv_at hl 0 rfl) ?_
            obtain ⟨v36, e36, h⟩ := Option.bind_eq_some_iff.mp h
            refine g_getr hx hb hts inlX1 hown hK hG (by rfl) 0 (by decide) qF_X1_12 e36 dX1_relocatedBlock_36 ?_
            refine lv_iload_n hx hb dX1_relocatedBlock_39 rfl (lv_at hl 3 rfl) ?_
            obtain ⟨u40, i40, h⟩ := Option.bind_eq_some_iff.mp h
            obtain ⟨v40, e40, h⟩ := Option.bind_eq_some_iff.mp h
            refine g_cVi (As := [.int bx3]) (rest := [.ref v32]) (n := 1) hx hb hml hown hts hK hlo hG (m_X0_writerOf l dd cT lo G v36 bx3 e40) qM_X1_137 qI_yX0_writerOf qS_X0_yX0_writerOf qN_X0 qC_yX0_writerOf (by decide +kernel) ⟨Nat.le_of_ble_eq_true rfl, Nat.le_of_ble_eq_true rfl⟩ (by rfl) i40 rfl hl.1 rfl (Nat.le_of_ble_eq_true rfl) dX1_relocatedBlock_40 ⟨Nat.le_of_ble_eq_true rfl, Nat.le_of_ble_eq_true rfl⟩ (fun H locs hG => ?_)
            obtain ⟨u43, i43, h⟩ := Option.bind_eq_some_iff.mp h
            obtain ⟨v43, e43, h⟩ := Option.bind_eq_some_iff.mp h
            refine g_cVi (As := [.int v40]) (rest := []) (n := 1) hx hb hml hown hts hK hlo hG (m_X5_stateOf l dd cT lo G v32 v40 e43) qM_X1_140 qI_yX5_stateOf qS_X5_yX5_stateOf qN_X5 qC_yX5_stateOf (by decide +kernel) ⟨Nat.le_of_ble_eq_true rfl, Nat.le_of_ble_eq_true rfl⟩ (by rfl) i43 rfl hl.1 rfl (Nat.le_of_ble_eq_true rfl) dX1_relocatedBlock_43 ⟨Nat.le_of_ble_eq_true rfl, Nat.le_of_ble_eq_true rfl⟩ (fun H locs hG => ?_)
            refine lv_iconst (v := (2 : Int32)) hx hb dX1_relocatedBlock_46 (by decide) ?_
            refine lv_icmp_eq (tgt := 60) hx hb dX1_relocatedBlock_47 (by decide) (fun c47 => ?_) (fun c47 => ?_)
            · rw [if_pos c47] at h
              refine lv_iinc (v := (bx3 + (1 : Int32))) (lv' := [(3, .int (bx3 + (1 : Int32))), (0, .ref ba0), (1, .int bx1), (2, .int bx2)]) hx hb dX1_relocatedBlock_60 hl (k := 3) rfl rfl (by decide) rfl (fun ls hl => ?_)
              refine lv_goto (tgt := 4) hx hb dX1_relocatedBlock_63 (by decide) ?_
              exact ih ba0 bx1 bx2 (bx3 + (1 : Int32)) _ _ hG _ (lv_sub hl [1, 2, 3, 0] rfl) h
            · rw [if_neg c47] at h
              refine lv_iload_n hx hb dX1_relocatedBlock_50 rfl (lv_at hl 2 rfl) ?_
              refine lv_iload_n hx hb dX1_relocatedBlock_51 rfl (lv_at hl 1 rfl) ?_
              refine lv_icmp_ne (tgt := 57) hx hb dX1_relocatedBlock_52 (by decide) (fun c52 => ?_) (fun c52 => ?_)
              · rw [if_neg c52] at h
                refine lv_iinc (v := (bx2 + (1 : Int32))) (lv' := [(2, .int (bx2 + (1 : Int32))), (0, .ref ba0), (1, .int bx1), (3, .int bx3)]) hx hb dX1_relocatedBlock_57 hl (k := 2) rfl rfl (by decide) rfl (fun ls hl => ?_)
                refine lv_iinc (v := (bx3 + (1 : Int32))) (lv' := [(3, .int (bx3 + (1 : Int32))), (2, .int (bx2 + (1 : Int32))), (0, .ref ba0), (1, .int bx1)]) hx hb dX1_relocatedBlock_60 hl (k := 3) rfl rfl (by decide) rfl (fun ls hl => ?_)
                refine lv_goto (tgt := 4) hx hb dX1_relocatedBlock_63 (by decide) ?_
                exact ih ba0 bx1 (bx2 + (1 : Int32)) (bx3 + (1 : Int32)) _ _ hG _ (lv_sub hl [2, 3, 1, 0] rfl) h
              · rw [if_pos c52] at h
                refine lv_iload_n hx hb dX1_relocatedBlock_55 rfl (lv_at hl 3 rfl) ?_
                obtain rfl := Option.some.inj h
                exact g_iret hx hb hr hlocks hK hlo hG ⟨rfl, rfl⟩ dX1_relocatedBlock_56
  unfold f_X1_relocatedBlock at h
  refine lv_iconst (v := (0 : Int32)) hx hb dX1_relocatedBlock_0 (by decide) ?_
  refine lv_istore_n (lv' := [(2, .int (0 : Int32)), (0, .ref a0), (1, .int x1)]) hx hb dX1_relocatedBlock_1 rfl hl (by decide) rfl (fun ls hl => ?_)
  refine lv_iconst (v := (0 : Int32)) hx hb dX1_relocatedBlock_2 (by decide) ?_
  refine lv_istore_n (lv' := [(3, .int (0 : Int32)), (2, .int (0 : Int32)), (0, .ref a0), (1, .int x1)]) hx hb dX1_relocatedBlock_3 rfl hl (by decide) rfl (fun ls hl => ?_)
  exact h4 g_N a0 x1 (0 : Int32) (0 : Int32) _ _ hG _ (lv_sub hl [2, 3, 1, 0] rfl) h
set_option maxRecDepth 20000 in
set_option maxHeartbeats 4000000 in
theorem m_X1_useOf (l : Launch) (dd : va_G) (cT : Nat → ClassId) (lo : Nat → Prop) (G : gH) (a0 : Nat) (x1 : Int32) (a2 : Nat) {rz : Int32} (h : f_X1_useOf G a0 x1 a2 = some rz) : Met l yX1_useOf (Cond.code yX1_useOf cX1_useOf 4 (some .int) :: wsL_law) (g_rm 2 43 0 0) (va_Pc [.ref a0, .int x1, .ref a2] (g_Pre lo dd cT G)) (va_Qi (g_is rz G) (g_Pre lo dd cT) (g_A lo)) 0 0 (g_A lo) := by
  refine g_start RX1 rfl (by decide) (Nat.le_of_ble_eq_true rfl) ?_
  intro p e s m below meth c hx hb hr hlocks hml hown hnm hts hK hG hlo ls hl
  have hl : lv_has ls 4 [(0, .ref a0), (1, .int x1), (2, .ref a2)] := hl
  have hG : g_S lo dd cT s s.heap [] G := hG
  have h46 : ∀ (ba0 : Nat) (bx1 : Int32) (ba2 : Nat), ∀ (H : Heap) (locs : List Loc), g_S lo dd cT s H locs G → ∀ ls : Array Slot, lv_has ls 4 [(0, .ref ba0), (1, .int bx1), (2, .ref ba2)] → f_X1_useOf_J46 G ba0 bx1 ba2 = some rz → W p l e (g_rm 2 43 0 0) s m ([.ref a0, .int x1, .ref a2] : List Value).toArray below meth c H locs 0 0 (MQ below (va_Qi (g_is rz G) (g_Pre lo dd cT) (g_A lo)) ([.ref a0, .int x1, .ref a2] : List Value).toArray s 0 0 (g_A lo)) (F0 m 46 ls []) := by
    intro ba0 bx1 ba2 H locs hG ls hl h
    unfold f_X1_useOf_J46 at h
    refine lv_aload_n hx hb dX1_useOf_46 rfl (lv_at hl 0 rfl) ?_
    obtain ⟨v47, e47, h⟩ := Option.bind_eq_some_iff.mp h
    refine g_getr hx hb hts inlX1 hown hK hG (by rfl) 0 (by decide) qF_X1_12 e47 dX1_useOf_47 ?_
    refine lv_iload_n hx hb dX1_useOf_50 rfl (lv_at hl 1 rfl) ?_
    obtain ⟨u51, i51, h⟩ := Option.bind_eq_some_iff.mp h
    obtain ⟨v51, e51, h⟩ := Option.bind_eq_some_iff.mp h
    refine g_cVi (As := [.int bx1]) (rest := []) (n := 1) hx hb hml hown hts hK hlo hG (m_X0_dataVersionOf l dd cT lo G v47 bx1 e51) qM_X1_171 qI_yX0_dataVersionOf qS_X0_yX0_dataVersionOf qN_X0 qC_yX0_dataVersionOf (by decide +kernel) ⟨Nat.le_of_ble_eq_true rfl, Nat.le_of_ble_eq_true rfl⟩ (by rfl) i51 rfl hl.1 rfl (Nat.le_of_ble_eq_true rfl) dX1_useOf_51 ⟨Nat.le_of_ble_eq_true rfl, Nat.le_of_ble_eq_true rfl⟩ (fun H locs hG => ?_)
    refine lv_istore_n (lv' := [(3, .int v51), (0, .ref ba0), (1, .int bx1), (2, .ref ba2)]) hx hb dX1_useOf_54 rfl hl (by decide) rfl (fun ls hl => ?_)
    refine lv_aload_n hx hb dX1_useOf_55 rfl (lv_at hl 3 rfl) ?_
    refine lv_aload_n hx hb dX1_useOf_56 rfl (lv_at hl 1 rfl) ?_
    obtain ⟨v57, e57, h⟩ := Option.bind_eq_some_iff.mp h
    refine g_getr hx hb hts inlX1 hown hK hG (by rfl) 1 (by decide) qF_X1_21 e57 dX1_useOf_57 ?_
    refine lv_iload_n hx hb dX1_useOf_60 rfl (lv_at hl 0 rfl) ?_
    obtain ⟨u61, i61, h⟩ := Option.bind_eq_some_iff.mp h
    obtain ⟨v61, e61, h⟩ := Option.bind_eq_some_iff.mp h
    refine g_cVi (As := [.int v51]) (rest := [.ref ba2]) (n := 1) hx hb hml hown hts hK hlo hG (m_X7_fileOf l dd cT lo G v57 v51 e61) qM_X1_174 qI_yX7_fileOf qS_X7_yX7_fileOf qN_X7 qC_yX7_fileOf (by decide +kernel) ⟨Nat.le_of_ble_eq_true rfl, Nat.le_of_ble_eq_true rfl⟩ (by rfl) i61 rfl hl.1 rfl (Nat.le_of_ble_eq_true rfl) dX1_useOf_61 ⟨Nat.le_of_ble_eq_true rfl, Nat.le_of_ble_eq_true rfl⟩ (fun H locs hG => ?_)
    obtain ⟨u64, i64, h⟩ := Option.bind_eq_some_iff.mp h
    obtain ⟨v64, e64, h⟩ := Option.bind_eq_some_iff.mp h
    refine g_cVi (As := [.int v61]) (rest := []) (n := 1) hx hb hml hown hts hK hlo hG (m_X8_versionOf l dd cT lo G ba2 v61 e64) qM_X1_177 qI_yX8_versionOf qS_X8_yX8_versionOf qN_X8 qC_yX8_versionOf (by decide +kernel) ⟨Nat.le_of_ble_eq_true rfl, Nat.le_of_ble_eq_true rfl⟩ (by rfl) i64 rfl hl.1 rfl (Nat.le_of_ble_eq_true rfl) dX1_useOf_64 ⟨Nat.le_of_ble_eq_true rfl, Nat.le_of_ble_eq_true rfl⟩ (fun H locs hG => ?_)
    refine lv_iload_n hx hb dX1_useOf_67 rfl (lv_at hl 0 rfl) ?_
    refine lv_icmp_ne (tgt := 75) hx hb dX1_useOf_68 (by decide) (fun c68 => ?_) (fun c68 => ?_)
    · rw [if_neg c68] at h
      refine lv_iconst (v := (2 : Int32)) hx hb dX1_useOf_75 (by decide) ?_
      obtain rfl := Option.some.inj h
      exact g_iret hx hb hr hlocks hK hlo hG ⟨rfl, rfl⟩ dX1_useOf_76
    · rw [if_pos c68] at h
      refine lv_iconst (v := (1 : Int32)) hx hb dX1_useOf_71 (by decide) ?_
      refine lv_goto (tgt := 76) hx hb dX1_useOf_72 (by decide) ?_
      obtain rfl := Option.some.inj h
      exact g_iret hx hb hr hlocks hK hlo hG ⟨rfl, rfl⟩ dX1_useOf_76
  unfold f_X1_useOf at h
  refine lv_aload_n hx hb dX1_useOf_0 rfl (lv_at hl 0 rfl) ?_
  obtain ⟨v1, e1, h⟩ := Option.bind_eq_some_iff.mp h
  refine g_getr hx hb hts inlX1 hown hK hG (by rfl) 0 (by decide) qF_X1_12 e1 dX1_useOf_1 ?_
  refine lv_iload_n hx hb dX1_useOf_4 rfl (lv_at hl 1 rfl) ?_
  obtain ⟨u5, i5, h⟩ := Option.bind_eq_some_iff.mp h
  obtain ⟨v5, e5, h⟩ := Option.bind_eq_some_iff.mp h
  refine g_cVi (As := [.int x1]) (rest := []) (n := 1) hx hb hml hown hts hK hlo hG (m_X0_kindOf l dd cT lo G v1 x1 e5) qM_X1_136 qI_yX0_kindOf qS_X0_yX0_kindOf qN_X0 qC_yX0_kindOf (by decide +kernel) ⟨Nat.le_of_ble_eq_true rfl, Nat.le_of_ble_eq_true rfl⟩ (by rfl) i5 rfl hl.1 rfl (Nat.le_of_ble_eq_true rfl) dX1_useOf_5 ⟨Nat.le_of_ble_eq_true rfl, Nat.le_of_ble_eq_true rfl⟩ (fun H locs hG => ?_)
  by_cases c8_0 : v5 = (0 : Int32)
  · rw [if_pos c8_0] at h
    refine g_swIn (tgt := 40) hx hb dX1_useOf_8 (0 : Int32) c8_0 (by decide) (by decide) 32 (by decide) (by decide) ?_
    refine lv_iconst (v := (0 : Int32)) hx hb dX1_useOf_40 (by decide) ?_
    obtain rfl := Option.some.inj h
    exact g_iret hx hb hr hlocks hK hlo hG ⟨rfl, rfl⟩ dX1_useOf_41
  rw [if_neg c8_0] at h
  by_cases c8_1 : v5 = (1 : Int32)
  · rw [if_pos c8_1] at h
    refine g_swIn (tgt := 46) hx hb dX1_useOf_8 (1 : Int32) c8_1 (by decide) (by decide) 38 (by decide) (by decide) ?_
    exact h46 a0 x1 a2 _ _ hG _ (lv_sub hl [0, 1, 2] rfl) h
  rw [if_neg c8_1] at h
  by_cases c8_2 : v5 = (2 : Int32)
  · rw [if_pos c8_2] at h
    refine g_swIn (tgt := 42) hx hb dX1_useOf_8 (2 : Int32) c8_2 (by decide) (by decide) 34 (by decide) (by decide) ?_
    refine lv_iconst (v := (3 : Int32)) hx hb dX1_useOf_42 (by decide) ?_
    obtain rfl := Option.some.inj h
    exact g_iret hx hb hr hlocks hK hlo hG ⟨rfl, rfl⟩ dX1_useOf_43
  rw [if_neg c8_2] at h
  by_cases c8_3 : v5 = (3 : Int32)
  · rw [if_pos c8_3] at h
    refine g_swIn (tgt := 44) hx hb dX1_useOf_8 (3 : Int32) c8_3 (by decide) (by decide) 36 (by decide) (by decide) ?_
    refine lv_iconst (v := (4 : Int32)) hx hb dX1_useOf_44 (by decide) ?_
    obtain rfl := Option.some.inj h
    exact g_iret hx hb hr hlocks hK hlo hG ⟨rfl, rfl⟩ dX1_useOf_45
  rw [if_neg c8_3] at h
  have z8 : v5.toInt < 0 ∨ 3 < v5.toInt := by
    have y0 : ¬ v5.toInt = 0 := fun w => c8_0 (Int32.toInt_inj.mp (by rw [w]; rfl))
    have y1 : ¬ v5.toInt = 1 := fun w => c8_1 (Int32.toInt_inj.mp (by rw [w]; rfl))
    have y2 : ¬ v5.toInt = 2 := fun w => c8_2 (Int32.toInt_inj.mp (by rw [w]; rfl))
    have y3 : ¬ v5.toInt = 3 := fun w => c8_3 (Int32.toInt_inj.mp (by rw [w]; rfl))
    omega
  refine lv_tableOut (tgt := 46) hx hb dX1_useOf_8 z8 (by decide) ?_
  exact h46 a0 x1 a2 _ _ hG _ (lv_sub hl [0, 1, 2] rfl) h
set_option maxRecDepth 20000 in
set_option maxHeartbeats 4000000 in
theorem m_X1_closeSession (l : Launch) (dd : va_G) (cT : Nat → ClassId) (lo : Nat → Prop) (G : gH) (a0 : Nat) {rz : Int32} {Gz : gH} (h : f_X1_closeSession G a0 = some (Gz, rz)) : Met l yX1_closeSession (Cond.code yX1_closeSession cX1_closeSession 5 (some .int) :: wsL_law) (g_rm 4 91 0 0) (va_Pc [.ref a0] (g_Pre lo dd cT G)) (va_Qi (g_is rz Gz) (g_Pre lo dd cT) (g_A lo)) 0 0 (g_A lo) := by
  refine g_start RX1 rfl (by decide) (Nat.le_of_ble_eq_true rfl) ?_
  intro p e s m below meth c hx hb hr hlocks hml hown hnm hts hK hG hlo ls hl
  have hl : lv_has ls 5 [(0, .ref a0)] := hl
  have hG : g_S lo dd cT s s.heap [] G := hG
  have h31 : ∀ n : Nat, ∀ (G : gH) (ba0 : Nat) (bx1 : Int32) (bx2 : Int32) (bx3 : Int32) (bx4 : Int32), ∀ (H : Heap) (locs : List Loc), g_S lo dd cT s H locs G → ∀ ls : Array Slot, lv_has ls 5 [(0, .ref ba0), (1, .int bx1), (2, .int bx2), (3, .int bx3), (4, .int bx4)] → f_X1_closeSession_L31 n G ba0 bx1 bx2 bx3 bx4 = some (Gz, rz) → W p l e (g_rm 4 91 0 0) s m ([.ref a0] : List Value).toArray below meth c H locs 0 0 (MQ below (va_Qi (g_is rz Gz) (g_Pre lo dd cT) (g_A lo)) ([.ref a0] : List Value).toArray s 0 0 (g_A lo)) (F0 m 31 ls []) := by
    intro n
    induction n with
    | zero =>
      intro G ba0 bx1 bx2 bx3 bx4 H locs hG ls hl h
      cases (show (none : Option (gH × Int32)) = some (Gz, rz) from h)
    | succ n ih =>
      intro G ba0 bx1 bx2 bx3 bx4 H locs hG ls hl h
      rw [f_X1_closeSession_L31] at h
      refine lv_iload hx hb dX1_closeSession_31 (lv_at hl 4 rfl) ?_
      refine lv_iload_n hx hb dX1_closeSession_33 rfl (lv_at hl 3 rfl) ?_
      refine lv_icmp_ge (tgt := 55) hx hb dX1_closeSession_34 (by decide) (fun c34 => ?_) (fun c34 => ?_)
      · rw [if_pos c34] at h
        refine lv_aload_n hx hb dX1_closeSession_55 rfl (lv_at hl 0 rfl) ?_
        obtain ⟨v56, e56, h⟩ := Option.bind_eq_some_iff.mp h
        refine g_getr hx hb hts inlX1 hown hK hG (by rfl) 2 (by decide) qF_X1_28 e56 dX1_closeSession_56 ?_
        refine lv_iload_n hx hb dX1_closeSession_59 rfl (lv_at hl 2 rfl) ?_
        refine lv_iload_n hx hb dX1_closeSession_60 rfl (lv_at hl 3 rfl) ?_
        obtain ⟨u61, i61, h⟩ := Option.bind_eq_some_iff.mp h
        obtain ⟨G61, e61, h⟩ := Option.bind_eq_some_iff.mp h
        refine g_cVv (As := [.int bx2, .int bx3]) (rest := []) (n := 2) hx hb hml hown hts hK hlo hG (m_X5_markClosed l dd cT lo G v56 bx2 bx3 e61) qM_X1_231 qI_yX5_markClosed qS_X5_yX5_markClosed qN_X5 qC_yX5_markClosed (by decide +kernel) ⟨Nat.le_of_ble_eq_true rfl, Nat.le_of_ble_eq_true rfl⟩ (by rfl) i61 rfl hl.1 rfl (Nat.le_of_ble_eq_true rfl) dX1_closeSession_61 ⟨Nat.le_of_ble_eq_true rfl, Nat.le_of_ble_eq_true rfl⟩ (fun H locs hG => ?_)
        refine lv_iload_n hx hb dX1_closeSession_64 rfl (lv_at hl 1 rfl) ?_
        obtain ⟨rfl, rfl⟩ := Prod.mk.inj (Option.some.inj h)
        exact g_iret hx hb hr hlocks hK hlo hG ⟨rfl, rfl⟩ dX1_closeSession_65
      · rw [if_neg c34] at h
        refine lv_aload_n hx hb dX1_closeSession_37 rfl (lv_at hl 0 rfl) ?_
        obtain ⟨v38, e38, h⟩ := Option.bind_eq_some_iff.mp h
        refine g_getr hx hb hts inlX1 hown hK hG (by rfl) 0 (by decide) qF_X1_12 e38 dX1_closeSession_38 ?_
        refine lv_iconst (v := (2 : Int32)) hx hb dX1_closeSession_41 (by decide) ?_
        refine lv_iload_n hx hb dX1_closeSession_42 rfl (lv_at hl 1 rfl) ?_
        refine lv_iconst (v := (-1 : Int32)) hx hb dX1_closeSession_43 (by decide) ?_
        refine lv_iload hx hb dX1_closeSession_44 (lv_at hl 4 rfl) ?_
        obtain ⟨u46, i46, h⟩ := Option.bind_eq_some_iff.mp h
        obtain ⟨G46, e46, h⟩ := Option.bind_eq_some_iff.mp h
        refine g_cVv (As := [.int (2 : Int32), .int bx1, .int (-1 : Int32), .int bx4]) (rest := []) (n := 4) hx hb hml hown hts hK hlo hG (m_X0_writeNext l dd cT lo G v38 (2 : Int32) bx1 (-1 : Int32) bx4 e46) qM_X1_221 qI_yX0_writeNext qS_X0_yX0_writeNext qN_X0 qC_yX0_writeNext (by decide +kernel) ⟨Nat.le_of_ble_eq_true rfl, Nat.le_of_ble_eq_true rfl⟩ (by rfl) i46 rfl hl.1 rfl (Nat.le_of_ble_eq_true rfl) dX1_closeSession_46 ⟨Nat.le_of_ble_eq_true rfl, Nat.le_of_ble_eq_true rfl⟩ (fun H locs hG => ?_)
        refine lv_iinc (v := (bx4 + (1 : Int32))) (lv' := [(4, .int (bx4 + (1 : Int32))), (0, .ref ba0), (1, .int bx1), (2, .int bx2), (3, .int bx3)]) hx hb dX1_closeSession_49 hl (k := 4) rfl rfl (by decide) rfl (fun ls hl => ?_)
        refine lv_goto (tgt := 31) hx hb dX1_closeSession_52 (by decide) ?_
        exact ih G46 ba0 bx1 bx2 bx3 (bx4 + (1 : Int32)) _ _ hG _ (lv_sub hl [1, 2, 3, 4, 0] rfl) h
  unfold f_X1_closeSession at h
  refine lv_aload_n hx hb dX1_closeSession_0 rfl (lv_at hl 0 rfl) ?_
  obtain ⟨v1, e1, h⟩ := Option.bind_eq_some_iff.mp h
  refine g_getr hx hb hts inlX1 hown hK hG (by rfl) 2 (by decide) qF_X1_28 e1 dX1_closeSession_1 ?_
  obtain ⟨u4, i4, h⟩ := Option.bind_eq_some_iff.mp h
  obtain ⟨v4, e4, h⟩ := Option.bind_eq_some_iff.mp h
  refine g_cVi (As := []) (rest := []) (n := 0) hx hb hml hown hts hK hlo hG (m_X5_latest l dd cT lo G v1 e4) qM_X1_199 qI_yX5_latest qS_X5_yX5_latest qN_X5 qC_yX5_latest (by decide +kernel) ⟨Nat.le_of_ble_eq_true rfl, Nat.le_of_ble_eq_true rfl⟩ (by rfl) i4 rfl hl.1 rfl (Nat.le_of_ble_eq_true rfl) dX1_closeSession_4 ⟨Nat.le_of_ble_eq_true rfl, Nat.le_of_ble_eq_true rfl⟩ (fun H locs hG => ?_)
  refine lv_istore_n (lv' := [(1, .int v4), (0, .ref a0)]) hx hb dX1_closeSession_7 rfl hl (by decide) rfl (fun ls hl => ?_)
  refine lv_aload_n hx hb dX1_closeSession_8 rfl (lv_at hl 1 rfl) ?_
  obtain ⟨v9, e9, h⟩ := Option.bind_eq_some_iff.mp h
  refine g_getr hx hb hts inlX1 hown hK hG (by rfl) 0 (by decide) qF_X1_12 e9 dX1_closeSession_9 ?_
  obtain ⟨v12, e12, h⟩ := Option.bind_eq_some_iff.mp h
  refine g_geti hx hb hts inlX0 hown hK hG (by rfl) 2 (by decide) qF_X1_214 e12 dX1_closeSession_12 ?_
  refine lv_istore_n (lv' := [(2, .int v12), (1, .int v4), (0, .ref a0)]) hx hb dX1_closeSession_15 rfl hl (by decide) rfl (fun ls hl => ?_)
  refine lv_aload_n hx hb dX1_closeSession_16 rfl (lv_at hl 2 rfl) ?_
  obtain ⟨v17, e17, h⟩ := Option.bind_eq_some_iff.mp h
  refine g_getr hx hb hts inlX1 hown hK hG (by rfl) 2 (by decide) qF_X1_28 e17 dX1_closeSession_17 ?_
  refine lv_iload_n hx hb dX1_closeSession_20 rfl (lv_at hl 1 rfl) ?_
  obtain ⟨u21, i21, h⟩ := Option.bind_eq_some_iff.mp h
  obtain ⟨v21, e21, h⟩ := Option.bind_eq_some_iff.mp h
  refine g_cVi (As := [.int v4]) (rest := []) (n := 1) hx hb hml hown hts hK hlo hG (m_X5_entriesOf l dd cT lo G v17 v4 e21) qM_X1_202 qI_yX5_entriesOf qS_X5_yX5_entriesOf qN_X5 qC_yX5_entriesOf (by decide +kernel) ⟨Nat.le_of_ble_eq_true rfl, Nat.le_of_ble_eq_true rfl⟩ (by rfl) i21 rfl hl.1 rfl (Nat.le_of_ble_eq_true rfl) dX1_closeSession_21 ⟨Nat.le_of_ble_eq_true rfl, Nat.le_of_ble_eq_true rfl⟩ (fun H locs hG => ?_)
  obtain ⟨v24, e24, h⟩ := Option.bind_eq_some_iff.mp h
  refine g_cNi (As := [.int v21]) (rest := []) (n := 1) hx hb hml hown hts hK hlo hG (m_X9_directoryLength l dd cT lo G v21 e24) (List.mem_of_getElem? (i := 22) rfl) qT_yX9_directoryLength qN_X9 qC_yX9_directoryLength (by decide +kernel) ⟨Nat.le_of_ble_eq_true rfl, Nat.le_of_ble_eq_true rfl⟩ rfl hl.1 rfl (Nat.le_of_ble_eq_true rfl) dX1_closeSession_24 ⟨Nat.le_of_ble_eq_true rfl, Nat.le_of_ble_eq_true rfl⟩ (fun H locs hG => ?_)
  refine lv_istore_n (lv' := [(3, .int v24), (2, .int v12), (1, .int v4), (0, .ref a0)]) hx hb dX1_closeSession_27 rfl hl (by decide) rfl (fun ls hl => ?_)
  refine lv_iconst (v := (0 : Int32)) hx hb dX1_closeSession_28 (by decide) ?_
  refine lv_istore (lv' := [(4, .int (0 : Int32)), (3, .int v24), (2, .int v12), (1, .int v4), (0, .ref a0)]) hx hb dX1_closeSession_29 hl (by decide) rfl (fun ls hl => ?_)
  exact h31 g_N G a0 v4 v12 v24 (0 : Int32) _ _ hG _ (lv_sub hl [4, 3, 2, 1, 0] rfl) h
set_option maxRecDepth 20000 in
set_option maxHeartbeats 4000000 in
theorem m_X1_loseSession (l : Launch) (dd : va_G) (cT : Nat → ClassId) (lo : Nat → Prop) (G : gH) (a0 : Nat) {rz : Int32} {Gz : gH} (h : f_X1_loseSession G a0 = some (Gz, rz)) : Met l yX1_loseSession (Cond.code yX1_loseSession cX1_loseSession 1 (some .int) :: wsL_law) (g_rm 4 89 0 0) (va_Pc [.ref a0] (g_Pre lo dd cT G)) (va_Qi (g_is rz Gz) (g_Pre lo dd cT) (g_A lo)) 0 0 (g_A lo) := by
  refine g_start RX1 rfl (by decide) (Nat.le_of_ble_eq_true rfl) ?_
  intro p e s m below meth c hx hb hr hlocks hml hown hnm hts hK hG hlo ls hl
  have hl : lv_has ls 1 [(0, .ref a0)] := hl
  have hG : g_S lo dd cT s s.heap [] G := hG
  unfold f_X1_loseSession at h
  refine lv_aload_n hx hb dX1_loseSession_0 rfl (lv_at hl 0 rfl) ?_
  obtain ⟨v1, e1, h⟩ := Option.bind_eq_some_iff.mp h
  refine g_getr hx hb hts inlX1 hown hK hG (by rfl) 2 (by decide) qF_X1_28 e1 dX1_loseSession_1 ?_
  obtain ⟨u4, i4, h⟩ := Option.bind_eq_some_iff.mp h
  obtain ⟨G4, e4, h⟩ := Option.bind_eq_some_iff.mp h
  refine g_cVv (As := []) (rest := []) (n := 0) hx hb hml hown hts hK hlo hG (m_X5_markLost l dd cT lo G v1 e4) qM_X1_234 qI_yX5_markLost qS_X5_yX5_markLost qN_X5 qC_yX5_markLost (by decide +kernel) ⟨Nat.le_of_ble_eq_true rfl, Nat.le_of_ble_eq_true rfl⟩ (by rfl) i4 rfl hl.1 rfl (Nat.le_of_ble_eq_true rfl) dX1_loseSession_4 ⟨Nat.le_of_ble_eq_true rfl, Nat.le_of_ble_eq_true rfl⟩ (fun H locs hG => ?_)
  refine lv_aload_n hx hb dX1_loseSession_7 rfl (lv_at hl 0 rfl) ?_
  obtain ⟨v8, e8, h⟩ := Option.bind_eq_some_iff.mp h
  refine g_getr hx hb hts inlX1 hown hK hG (by rfl) 0 (by decide) qF_X1_12 e8 dX1_loseSession_8 ?_
  refine lv_aload_n hx hb dX1_loseSession_11 rfl (lv_at hl 0 rfl) ?_
  obtain ⟨v12, e12, h⟩ := Option.bind_eq_some_iff.mp h
  refine g_getr hx hb hts inlX1 hown hK hG (by rfl) 2 (by decide) qF_X1_28 e12 dX1_loseSession_12 ?_
  obtain ⟨u15, i15, h⟩ := Option.bind_eq_some_iff.mp h
  obtain ⟨v15, e15, h⟩ := Option.bind_eq_some_iff.mp h
  refine g_cVi (As := []) (rest := [.ref v8]) (n := 0) hx hb hml hown hts hK hlo hG (m_X5_latest l dd cT lo G4 v12 e15) qM_X1_199 qI_yX5_latest qS_X5_yX5_latest qN_X5 qC_yX5_latest (by decide +kernel) ⟨Nat.le_of_ble_eq_true rfl, Nat.le_of_ble_eq_true rfl⟩ (by rfl) i15 rfl hl.1 rfl (Nat.le_of_ble_eq_true rfl) dX1_loseSession_15 ⟨Nat.le_of_ble_eq_true rfl, Nat.le_of_ble_eq_true rfl⟩ (fun H locs hG => ?_)
  obtain ⟨u18, i18, h⟩ := Option.bind_eq_some_iff.mp h
  obtain ⟨v18, e18, h⟩ := Option.bind_eq_some_iff.mp h
  refine g_cVi (As := [.int v15]) (rest := []) (n := 1) hx hb hml hown hts hK hlo hG (m_X0_mainBlocksOf l dd cT lo G4 v8 v15 e18) qM_X1_237 qI_yX0_mainBlocksOf qS_X0_yX0_mainBlocksOf qN_X0 qC_yX0_mainBlocksOf (by decide +kernel) ⟨Nat.le_of_ble_eq_true rfl, Nat.le_of_ble_eq_true rfl⟩ (by rfl) i18 rfl hl.1 rfl (Nat.le_of_ble_eq_true rfl) dX1_loseSession_18 ⟨Nat.le_of_ble_eq_true rfl, Nat.le_of_ble_eq_true rfl⟩ (fun H locs hG => ?_)
  obtain ⟨rfl, rfl⟩ := Prod.mk.inj (Option.some.inj h)
  exact g_iret hx hb hr hlocks hK hlo hG ⟨rfl, rfl⟩ dX1_loseSession_21
set_option maxRecDepth 20000 in
set_option maxHeartbeats 4000000 in
theorem m_X1_recoverableVersionOf (l : Launch) (dd : va_G) (cT : Nat → ClassId) (lo : Nat → Prop) (G : gH) (a0 : Nat) (x1 : Int32) (x2 : Int32) {rz : Int32} (h : f_X1_recoverableVersionOf G a0 x1 x2 = some rz) : Met l yX1_recoverableVersionOf (Cond.code yX1_recoverableVersionOf cX1_recoverableVersionOf 5 (some .int) :: wsL_law) (g_rm 3 66 0 0) (va_Pc [.ref a0, .int x1, .int x2] (g_Pre lo dd cT G)) (va_Qi (g_is rz G) (g_Pre lo dd cT) (g_A lo)) 0 0 (g_A lo) := by
  refine g_start RX1 rfl (by decide) (Nat.le_of_ble_eq_true rfl) ?_
  intro p e s m below meth c hx hb hr hlocks hml hown hnm hts hK hG hlo ls hl
  have hl : lv_has ls 5 [(0, .ref a0), (1, .int x1), (2, .int x2)] := hl
  have hG : g_S lo dd cT s s.heap [] G := hG
  have h10 : ∀ n : Nat, ∀ (ba0 : Nat) (bx1 : Int32) (bx2 : Int32) (bx3 : Int32), ∀ (H : Heap) (locs : List Loc), g_S lo dd cT s H locs G → ∀ ls : Array Slot, lv_has ls 5 [(0, .ref ba0), (1, .int bx1), (2, .int bx2), (3, .int bx3)] → f_X1_recoverableVersionOf_L10 G n ba0 bx1 bx2 bx3 = some rz → W p l e (g_rm 3 66 0 0) s m ([.ref a0, .int x1, .int x2] : List Value).toArray below meth c H locs 0 0 (MQ below (va_Qi (g_is rz G) (g_Pre lo dd cT) (g_A lo)) ([.ref a0, .int x1, .int x2] : List Value).toArray s 0 0 (g_A lo)) (F0 m 10 ls []) := by
    intro n
    induction n with
    | zero =>
      intro ba0 bx1 bx2 bx3 H locs hG ls hl h
      cases (show (none : Option Int32) = some rz from h)
    | succ n ih =>
      intro ba0 bx1 bx2 bx3 H locs hG ls hl h
      rw [f_X1_recoverableVersionOf_L10] at h
      have h43 : ∀ (ba0 : Nat) (bx1 : Int32) (bx2 : Int32) (bx3 : Int32) (z0 : Int32), ∀ (H : Heap) (locs : List Loc), g_S lo dd cT s H locs G → ∀ ls : Array Slot, lv_has ls 5 [(0, .ref ba0), (1, .int bx1), (2, .int bx2), (3, .int bx3)] → f_X1_recoverableVersionOf_J43 G (f_X1_recoverableVersionOf_L10 G n) ba0 bx1 bx2 bx3 z0 = some rz → W p l e (g_rm 3 66 0 0) s m ([.ref a0, .int x1, .int x2] : List Value).toArray below meth c H locs 0 0 (MQ below (va_Qi (g_is rz G) (g_Pre lo dd cT) (g_A lo)) ([.ref a0, .int x1, .int x2] : List Value).toArray s 0 0 (g_A lo)) (F0 m 43 ls [.int z0]) := by
        intro ba0 bx1 bx2 bx3 z0 H locs hG ls hl h
        unfold f_X1_recoverableVersionOf_J43 at h
        refine lv_istore (lv' := [(4, .int z0), (0, .ref ba0), (1, .int bx1), (2, .int bx2), (3, .int bx3)]) hx hb dX1_recoverableVersionOf_43 hl (by decide) rfl (fun ls hl => ?_)
        refine lv_iload hx hb dX1_recoverableVersionOf_45 (lv_at hl 0 rfl) ?_
        refine lv_if_eq (tgt := 60) hx hb dX1_recoverableVersionOf_47 (by decide) (fun c47 => ?_) (fun c47 => ?_)
        · rw [if_pos c47] at h
          refine lv_iinc (v := (bx3 + (-1 : Int32))) (lv' := [(3, .int (bx3 + (-1 : Int32))), (4, .int z0), (0, .ref ba0), (1, .int bx1), (2, .int bx2)]) hx hb dX1_recoverableVersionOf_60 hl (k := 4) rfl rfl (by decide) rfl (fun ls hl => ?_)
          refine lv_goto (tgt := 10) hx hb dX1_recoverableVersionOf_63 (by decide) ?_
          exact ih ba0 bx1 bx2 (bx3 + (-1 : Int32)) _ _ hG _ (lv_sub hl [2, 3, 4, 0] rfl) h
        · rw [if_neg c47] at h
          refine lv_aload_n hx hb dX1_recoverableVersionOf_50 rfl (lv_at hl 1 rfl) ?_
          refine lv_iload_n hx hb dX1_recoverableVersionOf_51 rfl (lv_at hl 4 rfl) ?_
          obtain ⟨u52, i52, h⟩ := Option.bind_eq_some_iff.mp h
          obtain ⟨v52, e52, h⟩ := Option.bind_eq_some_iff.mp h
          refine g_cVi (As := [.int bx3]) (rest := []) (n := 1) hx hb hml hown hts hK hlo hG (m_X1_canReadVersion l dd cT lo G ba0 bx3 e52) qM_X1_250 qI_yX1_canReadVersion qS_X1_yX1_canReadVersion qN_X1 qC_yX1_canReadVersion (by decide +kernel) ⟨Nat.le_of_ble_eq_true rfl, Nat.le_of_ble_eq_true rfl⟩ (by rfl) i52 rfl hl.1 rfl (Nat.le_of_ble_eq_true rfl) dX1_recoverableVersionOf_52 ⟨Nat.le_of_ble_eq_true rfl, Nat.le_of_ble_eq_true rfl⟩ (fun H locs hG => ?_)
          refine lv_if_eq (tgt := 60) hx hb dX1_recoverableVersionOf_55 (by decide) (fun c55 => ?_) (fun c55 => ?_)
          · rw [if_pos c55] at h
            refine lv_iinc (v := (bx3 + (-1 : Int32))) (lv' := [(3, .int (bx3 + (-1 : Int32))), (4, .int z0), (0, .ref ba0), (1, .int bx1), (2, .int bx2)]) hx hb dX1_recoverableVersionOf_60 hl (k := 4) rfl rfl (by decide) rfl (fun ls hl => ?_)
            refine lv_goto (tgt := 10) hx hb dX1_recoverableVersionOf_63 (by decide) ?_
            exact ih ba0 bx1 bx2 (bx3 + (-1 : Int32)) _ _ hG _ (lv_sub hl [2, 3, 4, 0] rfl) h
          · rw [if_neg c55] at h
            refine lv_iload_n hx hb dX1_recoverableVersionOf_58 rfl (lv_at hl 4 rfl) ?_
            obtain rfl := Option.some.inj h
            exact g_iret hx hb hr hlocks hK hlo hG ⟨rfl, rfl⟩ dX1_recoverableVersionOf_59
      refine lv_iload_n hx hb dX1_recoverableVersionOf_10 rfl (lv_at hl 3 rfl) ?_
      refine lv_if_lt (tgt := 66) hx hb dX1_recoverableVersionOf_11 (by decide) (fun c11 => ?_) (fun c11 => ?_)
      · rw [if_pos c11] at h
        refine lv_iconst (v := (-1 : Int32)) hx hb dX1_recoverableVersionOf_66 (by decide) ?_
        obtain rfl := Option.some.inj h
        exact g_iret hx hb hr hlocks hK hlo hG ⟨rfl, rfl⟩ dX1_recoverableVersionOf_67
      · rw [if_neg c11] at h
        refine lv_aload_n hx hb dX1_recoverableVersionOf_14 rfl (lv_at hl 0 rfl) ?_
        obtain ⟨v15, e15, h⟩ := Option.bind_eq_some_iff.mp h
        refine g_getr hx hb hts inlX1 hown hK hG (by rfl) 1 (by decide) qF_X1_21 e15 dX1_recoverableVersionOf_15 ?_
        refine lv_iload_n hx hb dX1_recoverableVersionOf_18 rfl (lv_at hl 3 rfl) ?_
        obtain ⟨u19, i19, h⟩ := Option.bind_eq_some_iff.mp h
        obtain ⟨v19, e19, h⟩ := Option.bind_eq_some_iff.mp h
        refine g_cVi (As := [.int bx3]) (rest := []) (n := 1) hx hb hml hown hts hK hlo hG (m_X7_fileOf l dd cT lo G v15 bx3 e19) qM_X1_174 qI_yX7_fileOf qS_X7_yX7_fileOf qN_X7 qC_yX7_fileOf (by decide +kernel) ⟨Nat.le_of_ble_eq_true rfl, Nat.le_of_ble_eq_true rfl⟩ (by rfl) i19 rfl hl.1 rfl (Nat.le_of_ble_eq_true rfl) dX1_recoverableVersionOf_19 ⟨Nat.le_of_ble_eq_true rfl, Nat.le_of_ble_eq_true rfl⟩ (fun H locs hG => ?_)
        refine lv_iload_n hx hb dX1_recoverableVersionOf_22 rfl (lv_at hl 1 rfl) ?_
        refine lv_icmp_ne (tgt := 42) hx hb dX1_recoverableVersionOf_23 (by decide) (fun c23 => ?_) (fun c23 => ?_)
        · rw [if_neg c23] at h
          refine lv_iconst (v := (0 : Int32)) hx hb dX1_recoverableVersionOf_42 (by decide) ?_
          exact h43 ba0 bx1 bx2 bx3 (0 : Int32) _ _ hG _ (lv_sub hl [0, 1, 2, 3] rfl) h
        · rw [if_pos c23] at h
          refine lv_aload_n hx hb dX1_recoverableVersionOf_26 rfl (lv_at hl 0 rfl) ?_
          obtain ⟨v27, e27, h⟩ := Option.bind_eq_some_iff.mp h
          refine g_getr hx hb hts inlX1 hown hK hG (by rfl) 1 (by decide) qF_X1_21 e27 dX1_recoverableVersionOf_27 ?_
          refine lv_iload_n hx hb dX1_recoverableVersionOf_30 rfl (lv_at hl 3 rfl) ?_
          obtain ⟨u31, i31, h⟩ := Option.bind_eq_some_iff.mp h
          obtain ⟨v31, e31, h⟩ := Option.bind_eq_some_iff.mp h
          refine g_cVi (As := [.int bx3]) (rest := []) (n := 1) hx hb hml hown hts hK hlo hG (m_X7_writerOf l dd cT lo G v27 bx3 e31) qM_X1_249 qI_yX7_writerOf qS_X7_yX7_writerOf qN_X7 qC_yX7_writerOf (by decide +kernel) ⟨Nat.le_of_ble_eq_true rfl, Nat.le_of_ble_eq_true rfl⟩ (by rfl) i31 rfl hl.1 rfl (Nat.le_of_ble_eq_true rfl) dX1_recoverableVersionOf_31 ⟨Nat.le_of_ble_eq_true rfl, Nat.le_of_ble_eq_true rfl⟩ (fun H locs hG => ?_)
          refine lv_iload_n hx hb dX1_recoverableVersionOf_34 rfl (lv_at hl 2 rfl) ?_
          refine lv_icmp_ne (tgt := 42) hx hb dX1_recoverableVersionOf_35 (by decide) (fun c35 => ?_) (fun c35 => ?_)
          · rw [if_neg c35] at h
            refine lv_iconst (v := (0 : Int32)) hx hb dX1_recoverableVersionOf_42 (by decide) ?_
            exact h43 ba0 bx1 bx2 bx3 (0 : Int32) _ _ hG _ (lv_sub hl [0, 1, 2, 3] rfl) h
          · rw [if_pos c35] at h
            refine lv_iconst (v := (1 : Int32)) hx hb dX1_recoverableVersionOf_38 (by decide) ?_
            refine lv_goto (tgt := 43) hx hb dX1_recoverableVersionOf_39 (by decide) ?_
            exact h43 ba0 bx1 bx2 bx3 (1 : Int32) _ _ hG _ (lv_sub hl [0, 1, 2, 3] rfl) h
  unfold f_X1_recoverableVersionOf at h
  refine lv_aload_n hx hb dX1_recoverableVersionOf_0 rfl (lv_at hl 0 rfl) ?_
  obtain ⟨v1, e1, h⟩ := Option.bind_eq_some_iff.mp h
  refine g_getr hx hb hts inlX1 hown hK hG (by rfl) 1 (by decide) qF_X1_21 e1 dX1_recoverableVersionOf_1 ?_
  obtain ⟨v4, e4, h⟩ := Option.bind_eq_some_iff.mp h
  refine g_geti hx hb hts inlX7 hown hK hG (by rfl) 0 (by decide) qF_X1_55 e4 dX1_recoverableVersionOf_4 ?_
  refine lv_iconst (v := (1 : Int32)) hx hb dX1_recoverableVersionOf_7 (by decide) ?_
  refine lv_isub hx hb dX1_recoverableVersionOf_8 ?_
  refine lv_istore_n (lv' := [(3, .int (v4 - (1 : Int32))), (0, .ref a0), (1, .int x1), (2, .int x2)]) hx hb dX1_recoverableVersionOf_9 rfl hl (by decide) rfl (fun ls hl => ?_)
  exact h10 g_N a0 x1 x2 (v4 - (1 : Int32)) _ _ hG _ (lv_sub hl [1, 2, 3, 0] rfl) h
set_option maxRecDepth 20000 in
set_option maxHeartbeats 4000000 in
theorem m_X11_read (l : Launch) (dd : va_G) (cT : Nat → ClassId) (lo : Nat → Prop) (G : gH) (a0 : Nat) (a1 : Nat) (x2 : Int32) {Gz : gH} (h : f_X11_read G a0 a1 x2 = some Gz) : Met l yX11_read (Cond.code yX11_read cX11_read 7 none :: wsL_law) (g_rm 3 67 0 0) (va_Pc [.ref a0, .ref a1, .int x2] (g_Pre lo dd cT G)) (va_Qv (g_iv Gz) (g_Pre lo dd cT) (g_A lo)) 0 0 (g_A lo) := by
  refine g_start RX11 rfl (by decide) (Nat.le_of_ble_eq_true rfl) ?_
  intro p e s m below meth c hx hb hr hlocks hml hown hnm hts hK hG hlo ls hl
  have hl : lv_has ls 7 [(0, .ref a0), (1, .ref a1), (2, .int x2)] := hl
  have hG : g_S lo dd cT s s.heap [] G := hG
  have h15 : ∀ n : Nat, ∀ (G : gH) (ba0 : Nat) (ba1 : Nat) (bx3 : Int32) (bx4 : Int32), ∀ (H : Heap) (locs : List Loc), g_S lo dd cT s H locs G → ∀ ls : Array Slot, lv_has ls 7 [(0, .ref ba0), (1, .ref ba1), (3, .int bx3), (4, .int bx4)] → f_X11_read_L15 n G ba0 ba1 bx3 bx4 = some Gz → W p l e (g_rm 3 67 0 0) s m ([.ref a0, .ref a1, .int x2] : List Value).toArray below meth c H locs 0 0 (MQ below (va_Qv (g_iv Gz) (g_Pre lo dd cT) (g_A lo)) ([.ref a0, .ref a1, .int x2] : List Value).toArray s 0 0 (g_A lo)) (F0 m 15 ls []) := by
    intro n
    induction n with
    | zero =>
      intro G ba0 ba1 bx3 bx4 H locs hG ls hl h
      cases (show (none : Option gH) = some Gz from h)
    | succ n ih =>
      intro G ba0 ba1 bx3 bx4 H locs hG ls hl h
      rw [f_X11_read_L15] at h
      have h75 : ∀ (G : gH) (ba0 : Nat) (ba1 : Nat) (bx4 : Int32) (bx5 : Int32), ∀ (H : Heap) (locs : List Loc), g_S lo dd cT s H locs G → ∀ ls : Array Slot, lv_has ls 7 [(0, .ref ba0), (1, .ref ba1), (4, .int bx4), (5, .int bx5)] → f_X11_read_J75 (f_X11_read_L15 n) G ba0 ba1 bx4 bx5 = some Gz → W p l e (g_rm 3 67 0 0) s m ([.ref a0, .ref a1, .int x2] : List Value).toArray below meth c H locs 0 0 (MQ below (va_Qv (g_iv Gz) (g_Pre lo dd cT) (g_A lo)) ([.ref a0, .ref a1, .int x2] : List Value).toArray s 0 0 (g_A lo)) (F0 m 75 ls []) := by
        intro G ba0 ba1 bx4 bx5 H locs hG ls hl h
        unfold f_X11_read_J75 at h
        refine lv_iload hx hb dX11_read_75 (lv_at hl 3 rfl) ?_
        refine lv_iconst (v := (1 : Int32)) hx hb dX11_read_77 (by decide) ?_
        refine lv_icmp_ne (tgt := 96) hx hb dX11_read_78 (by decide) (fun c78 => ?_) (fun c78 => ?_)
        · rw [if_neg c78] at h
          refine lv_iload hx hb dX11_read_96 (lv_at hl 3 rfl) ?_
          refine lv_iconst (v := (2 : Int32)) hx hb dX11_read_98 (by decide) ?_
          refine lv_icmp_ne (tgt := 114) hx hb dX11_read_99 (by decide) (fun c99 => ?_) (fun c99 => ?_)
          · rw [if_neg c99] at h
            refine lv_iload hx hb dX11_read_114 (lv_at hl 3 rfl) ?_
            refine lv_istore_n (lv' := [(3, .int bx5), (0, .ref ba0), (1, .ref ba1), (4, .int bx4), (5, .int bx5)]) hx hb dX11_read_116 rfl hl (by decide) rfl (fun ls hl => ?_)
            refine lv_iinc (v := (bx4 + (1 : Int32))) (lv' := [(4, .int (bx4 + (1 : Int32))), (3, .int bx5), (0, .ref ba0), (1, .ref ba1), (5, .int bx5)]) hx hb dX11_read_117 hl (k := 3) rfl rfl (by decide) rfl (fun ls hl => ?_)
            refine lv_goto (tgt := 15) hx hb dX11_read_120 (by decide) ?_
            exact ih G ba0 ba1 bx5 (bx4 + (1 : Int32)) _ _ hG _ (lv_sub hl [2, 3, 1, 0] rfl) h
          · rw [if_pos c99] at h
            refine lv_aload_n hx hb dX11_read_102 rfl (lv_at hl 0 rfl) ?_
            refine lv_aload_n hx hb dX11_read_103 rfl (lv_at hl 1 rfl) ?_
            refine lv_iload hx hb dX11_read_104 (lv_at hl 2 rfl) ?_
            obtain ⟨u106, i106, h⟩ := Option.bind_eq_some_iff.mp h
            obtain ⟨v106, e106, h⟩ := Option.bind_eq_some_iff.mp h
            refine g_cVi (As := [.int bx4]) (rest := [.ref ba0]) (n := 1) hx hb hml hown hts hK hlo hG (m_X3_byteAt l dd cT lo G ba1 bx4 e106) qM_X11_39 qI_yX3_byteAt qS_X3_yX3_byteAt qN_X3 qC_yX3_byteAt (by decide +kernel) ⟨Nat.le_of_ble_eq_true rfl, Nat.le_of_ble_eq_true rfl⟩ (by rfl) i106 rfl hl.1 rfl (Nat.le_of_ble_eq_true rfl) dX11_read_106 ⟨Nat.le_of_ble_eq_true rfl, Nat.le_of_ble_eq_true rfl⟩ (fun H locs hG => ?_)
            refine lv_iload hx hb dX11_read_109 (lv_at hl 2 rfl) ?_
            obtain ⟨u111, i111, h⟩ := Option.bind_eq_some_iff.mp h
            obtain ⟨G111, e111, h⟩ := Option.bind_eq_some_iff.mp h
            refine g_cVv (As := [.int v106, .int bx4]) (rest := []) (n := 2) hx hb hml hown hts hK hlo hG (m_X11_takeDigit l dd cT lo G ba0 v106 bx4 e111) qM_X11_45 qI_yX11_takeDigit qS_X11_yX11_takeDigit qN_X11 qC_yX11_takeDigit (by decide +kernel) ⟨Nat.le_of_ble_eq_true rfl, Nat.le_of_ble_eq_true rfl⟩ (by rfl) i111 rfl hl.1 rfl (Nat.le_of_ble_eq_true rfl) dX11_read_111 ⟨Nat.le_of_ble_eq_true rfl, Nat.le_of_ble_eq_true rfl⟩ (fun H locs hG => ?_)
            refine lv_iload hx hb dX11_read_114 (lv_at hl 3 rfl) ?_
            refine lv_istore_n (lv' := [(3, .int bx5), (0, .ref ba0), (1, .ref ba1), (4, .int bx4), (5, .int bx5)]) hx hb dX11_read_116 rfl hl (by decide) rfl (fun ls hl => ?_)
            refine lv_iinc (v := (bx4 + (1 : Int32))) (lv' := [(4, .int (bx4 + (1 : Int32))), (3, .int bx5), (0, .ref ba0), (1, .ref ba1), (5, .int bx5)]) hx hb dX11_read_117 hl (k := 3) rfl rfl (by decide) rfl (fun ls hl => ?_)
            refine lv_goto (tgt := 15) hx hb dX11_read_120 (by decide) ?_
            exact ih G111 ba0 ba1 bx5 (bx4 + (1 : Int32)) _ _ hG _ (lv_sub hl [2, 3, 1, 0] rfl) h
        · rw [if_pos c78] at h
          refine lv_aload_n hx hb dX11_read_81 rfl (lv_at hl 0 rfl) ?_
          refine lv_aload_n hx hb dX11_read_82 rfl (lv_at hl 1 rfl) ?_
          refine lv_iload hx hb dX11_read_83 (lv_at hl 2 rfl) ?_
          obtain ⟨u85, i85, h⟩ := Option.bind_eq_some_iff.mp h
          obtain ⟨v85, e85, h⟩ := Option.bind_eq_some_iff.mp h
          refine g_cVi (As := [.int bx4]) (rest := [.ref ba0]) (n := 1) hx hb hml hown hts hK hlo hG (m_X3_byteAt l dd cT lo G ba1 bx4 e85) qM_X11_39 qI_yX3_byteAt qS_X3_yX3_byteAt qN_X3 qC_yX3_byteAt (by decide +kernel) ⟨Nat.le_of_ble_eq_true rfl, Nat.le_of_ble_eq_true rfl⟩ (by rfl) i85 rfl hl.1 rfl (Nat.le_of_ble_eq_true rfl) dX11_read_85 ⟨Nat.le_of_ble_eq_true rfl, Nat.le_of_ble_eq_true rfl⟩ (fun H locs hG => ?_)
          refine lv_iload hx hb dX11_read_88 (lv_at hl 2 rfl) ?_
          obtain ⟨u90, i90, h⟩ := Option.bind_eq_some_iff.mp h
          obtain ⟨G90, e90, h⟩ := Option.bind_eq_some_iff.mp h
          refine g_cVv (As := [.int v85, .int bx4]) (rest := []) (n := 2) hx hb hml hown hts hK hlo hG (m_X11_takeLetter l dd cT lo G ba0 v85 bx4 e90) qM_X11_42 qI_yX11_takeLetter qS_X11_yX11_takeLetter qN_X11 qC_yX11_takeLetter (by decide +kernel) ⟨Nat.le_of_ble_eq_true rfl, Nat.le_of_ble_eq_true rfl⟩ (by rfl) i90 rfl hl.1 rfl (Nat.le_of_ble_eq_true rfl) dX11_read_90 ⟨Nat.le_of_ble_eq_true rfl, Nat.le_of_ble_eq_true rfl⟩ (fun H locs hG => ?_)
          refine lv_goto (tgt := 114) hx hb dX11_read_93 (by decide) ?_
          refine lv_iload hx hb dX11_read_114 (lv_at hl 3 rfl) ?_
          refine lv_istore_n (lv' := [(3, .int bx5), (0, .ref ba0), (1, .ref ba1), (4, .int bx4), (5, .int bx5)]) hx hb dX11_read_116 rfl hl (by decide) rfl (fun ls hl => ?_)
          refine lv_iinc (v := (bx4 + (1 : Int32))) (lv' := [(4, .int (bx4 + (1 : Int32))), (3, .int bx5), (0, .ref ba0), (1, .ref ba1), (5, .int bx5)]) hx hb dX11_read_117 hl (k := 3) rfl rfl (by decide) rfl (fun ls hl => ?_)
          refine lv_goto (tgt := 15) hx hb dX11_read_120 (by decide) ?_
          exact ih G90 ba0 ba1 bx5 (bx4 + (1 : Int32)) _ _ hG _ (lv_sub hl [2, 3, 1, 0] rfl) h
      have h55 : ∀ (G : gH) (ba0 : Nat) (ba1 : Nat) (bx4 : Int32) (bx5 : Int32) (z0 : Int32), ∀ (H : Heap) (locs : List Loc), g_S lo dd cT s H locs G → ∀ ls : Array Slot, lv_has ls 7 [(0, .ref ba0), (1, .ref ba1), (4, .int bx4), (5, .int bx5)] → f_X11_read_J55 (f_X11_read_L15 n) G ba0 ba1 bx4 bx5 z0 = some Gz → W p l e (g_rm 3 67 0 0) s m ([.ref a0, .ref a1, .int x2] : List Value).toArray below meth c H locs 0 0 (MQ below (va_Qv (g_iv Gz) (g_Pre lo dd cT) (g_A lo)) ([.ref a0, .ref a1, .int x2] : List Value).toArray s 0 0 (g_A lo)) (F0 m 55 ls [.int z0]) := by
        intro G ba0 ba1 bx4 bx5 z0 H locs hG ls hl h
        unfold f_X11_read_J55 at h
        refine lv_istore (lv' := [(6, .int z0), (0, .ref ba0), (1, .ref ba1), (4, .int bx4), (5, .int bx5)]) hx hb dX11_read_55 hl (by decide) rfl (fun ls hl => ?_)
        refine lv_iload hx hb dX11_read_57 (lv_at hl 4 rfl) ?_
        refine lv_if_eq (tgt := 75) hx hb dX11_read_59 (by decide) (fun c59 => ?_) (fun c59 => ?_)
        · rw [if_pos c59] at h
          exact h75 G ba0 ba1 bx4 bx5 _ _ hG _ (lv_sub hl [1, 2, 3, 4] rfl) h
        · rw [if_neg c59] at h
          refine lv_iload hx hb dX11_read_62 (lv_at hl 0 rfl) ?_
          refine lv_if_ne (tgt := 75) hx hb dX11_read_64 (by decide) (fun c64 => ?_) (fun c64 => ?_)
          · rw [if_neg c64] at h
            exact h75 G ba0 ba1 bx4 bx5 _ _ hG _ (lv_sub hl [1, 2, 3, 4] rfl) h
          · rw [if_pos c64] at h
            refine lv_aload_n hx hb dX11_read_67 rfl (lv_at hl 1 rfl) ?_
            refine lv_iload hx hb dX11_read_68 (lv_at hl 4 rfl) ?_
            refine lv_iload hx hb dX11_read_70 (lv_at hl 3 rfl) ?_
            obtain ⟨u72, i72, h⟩ := Option.bind_eq_some_iff.mp h
            obtain ⟨G72, e72, h⟩ := Option.bind_eq_some_iff.mp h
            refine g_cVv (As := [.int bx5, .int bx4]) (rest := []) (n := 2) hx hb hml hown hts hK hlo hG (m_X11_begin l dd cT lo G ba0 bx5 bx4 e72) qM_X11_35 qI_yX11_begin qS_X11_yX11_begin qN_X11 qC_yX11_begin (by decide +kernel) ⟨Nat.le_of_ble_eq_true rfl, Nat.le_of_ble_eq_true rfl⟩ (by rfl) i72 rfl hl.1 rfl (Nat.le_of_ble_eq_true rfl) dX11_read_72 ⟨Nat.le_of_ble_eq_true rfl, Nat.le_of_ble_eq_true rfl⟩ (fun H locs hG => ?_)
            exact h75 G72 ba0 ba1 bx4 bx5 _ _ hG _ (lv_sub hl [1, 2, 3, 4] rfl) h
      refine lv_iload hx hb dX11_read_15 (lv_at hl 3 rfl) ?_
      refine lv_aload_n hx hb dX11_read_17 rfl (lv_at hl 0 rfl) ?_
      obtain ⟨v18, e18, h⟩ := Option.bind_eq_some_iff.mp h
      refine g_geti hx hb hts inlX11 hown hK hG (by rfl) 1 (by decide) qF_X11_15 e18 dX11_read_18 ?_
      refine lv_icmp_ge (tgt := 123) hx hb dX11_read_21 (by decide) (fun c21 => ?_) (fun c21 => ?_)
      · rw [if_pos c21] at h
        obtain rfl := Option.some.inj h
        exact g_vret hx hb hr hlocks hK hlo hG rfl dX11_read_123
      · rw [if_neg c21] at h
        refine lv_aload_n hx hb dX11_read_24 rfl (lv_at hl 1 rfl) ?_
        refine lv_iload hx hb dX11_read_25 (lv_at hl 3 rfl) ?_
        obtain ⟨u27, i27, h⟩ := Option.bind_eq_some_iff.mp h
        obtain ⟨v27, e27, h⟩ := Option.bind_eq_some_iff.mp h
        refine g_cVi (As := [.int bx4]) (rest := []) (n := 1) hx hb hml hown hts hK hlo hG (m_X3_kindAt l dd cT lo G ba1 bx4 e27) qM_X11_29 qI_yX3_kindAt qS_X3_yX3_kindAt qN_X3 qC_yX3_kindAt (by decide +kernel) ⟨Nat.le_of_ble_eq_true rfl, Nat.le_of_ble_eq_true rfl⟩ (by rfl) i27 rfl hl.1 rfl (Nat.le_of_ble_eq_true rfl) dX11_read_27 ⟨Nat.le_of_ble_eq_true rfl, Nat.le_of_ble_eq_true rfl⟩ (fun H locs hG => ?_)
        refine lv_istore (lv' := [(5, .int v27), (0, .ref ba0), (1, .ref ba1), (3, .int bx3), (4, .int bx4)]) hx hb dX11_read_30 hl (by decide) rfl (fun ls hl => ?_)
        refine lv_iload hx hb dX11_read_32 (lv_at hl 0 rfl) ?_
        refine lv_iload_n hx hb dX11_read_34 rfl (lv_at hl 3 rfl) ?_
        refine lv_icmp_ne (tgt := 54) hx hb dX11_read_35 (by decide) (fun c35 => ?_) (fun c35 => ?_)
        · rw [if_neg c35] at h
          refine lv_iconst (v := (0 : Int32)) hx hb dX11_read_54 (by decide) ?_
          exact h55 G ba0 ba1 bx4 v27 (0 : Int32) _ _ hG _ (lv_sub hl [1, 2, 4, 0] rfl) h
        · rw [if_pos c35] at h
          refine lv_iload hx hb dX11_read_38 (lv_at hl 0 rfl) ?_
          refine lv_iconst (v := (1 : Int32)) hx hb dX11_read_40 (by decide) ?_
          refine lv_icmp_eq (tgt := 50) hx hb dX11_read_41 (by decide) (fun c41 => ?_) (fun c41 => ?_)
          · rw [if_pos c41] at h
            refine lv_iconst (v := (1 : Int32)) hx hb dX11_read_50 (by decide) ?_
            refine lv_goto (tgt := 55) hx hb dX11_read_51 (by decide) ?_
            exact h55 G ba0 ba1 bx4 v27 (1 : Int32) _ _ hG _ (lv_sub hl [1, 2, 4, 0] rfl) h
          · rw [if_neg c41] at h
            refine lv_iload hx hb dX11_read_44 (lv_at hl 0 rfl) ?_
            refine lv_iconst (v := (2 : Int32)) hx hb dX11_read_46 (by decide) ?_
            refine lv_icmp_ne (tgt := 54) hx hb dX11_read_47 (by decide) (fun c47 => ?_) (fun c47 => ?_)
            · rw [if_neg c47] at h
              refine lv_iconst (v := (0 : Int32)) hx hb dX11_read_54 (by decide) ?_
              exact h55 G ba0 ba1 bx4 v27 (0 : Int32) _ _ hG _ (lv_sub hl [1, 2, 4, 0] rfl) h
            · rw [if_pos c47] at h
              refine lv_iconst (v := (1 : Int32)) hx hb dX11_read_50 (by decide) ?_
              refine lv_goto (tgt := 55) hx hb dX11_read_51 (by decide) ?_
              exact h55 G ba0 ba1 bx4 v27 (1 : Int32) _ _ hG _ (lv_sub hl [1, 2, 4, 0] rfl) h
  unfold f_X11_read at h
  refine lv_aload_n hx hb dX11_read_0 rfl (lv_at hl 0 rfl) ?_
  refine lv_iload_n hx hb dX11_read_1 rfl (lv_at hl 2 rfl) ?_
  obtain ⟨G2, i2, h⟩ := Option.bind_eq_some_iff.mp h
  refine g_putv hx hb hts inlX11 tyX11 tyX11_ok nmX11 hown hK hG (by rfl) 1 (by decide) qF_X11_15 rfl rfl rfl rfl i2 dX11_read_2 (fun H locs hG => ?_)
  refine lv_aload_n hx hb dX11_read_5 rfl (lv_at hl 0 rfl) ?_
  refine lv_iconst (v := (0 : Int32)) hx hb dX11_read_6 (by decide) ?_
  obtain ⟨G7, i7, h⟩ := Option.bind_eq_some_iff.mp h
  refine g_putv hx hb hts inlX11 tyX11 tyX11_ok nmX11 hown hK hG (by rfl) 0 (by decide) qF_X11_9 rfl rfl rfl rfl i7 dX11_read_7 (fun H locs hG => ?_)
  refine lv_iconst (v := (0 : Int32)) hx hb dX11_read_10 (by decide) ?_
  refine lv_istore_n (lv' := [(3, .int (0 : Int32)), (0, .ref a0), (1, .ref a1), (2, .int x2)]) hx hb dX11_read_11 rfl hl (by decide) rfl (fun ls hl => ?_)
  refine lv_iconst (v := (0 : Int32)) hx hb dX11_read_12 (by decide) ?_
  refine lv_istore (lv' := [(4, .int (0 : Int32)), (3, .int (0 : Int32)), (0, .ref a0), (1, .ref a1), (2, .int x2)]) hx hb dX11_read_13 hl (by decide) rfl (fun ls hl => ?_)
  exact h15 g_N G7 a0 a1 (0 : Int32) (0 : Int32) _ _ hG _ (lv_sub hl [2, 3, 1, 0] rfl) h
set_option maxRecDepth 20000 in
set_option maxHeartbeats 4000000 in
theorem m_X3_addBytes (l : Launch) (dd : va_G) (cT : Nat → ClassId) (lo : Nat → Prop) (G : gH) (a0 : Nat) (x1 : Int32) {Gz : gH} (h : f_X3_addBytes G a0 x1 = some Gz) : Met l yX3_addBytes (Cond.code yX3_addBytes cX3_addBytes 2 none :: wsL_law) (g_rm 2 43 0 0) (va_Pc [.ref a0, .int x1] (g_Pre lo dd cT G)) (va_Qv (g_iv Gz) (g_Pre lo dd cT) (g_A lo)) 0 0 (g_A lo) := by
  refine g_start RX3 rfl (by decide) (Nat.le_of_ble_eq_true rfl) ?_
  intro p e s m below meth c hx hb hr hlocks hml hown hnm hts hK hG hlo ls hl
  have hl : lv_has ls 2 [(0, .ref a0), (1, .int x1)] := hl
  have hG : g_S lo dd cT s s.heap [] G := hG
  unfold f_X3_addBytes at h
  refine lv_aload_n hx hb dX3_addBytes_0 rfl (lv_at hl 0 rfl) ?_
  refine lv_iload_n hx hb dX3_addBytes_1 rfl (lv_at hl 1 rfl) ?_
  refine lv_bipush (v := (24 : Int32)) hx hb dX3_addBytes_2 (by decide) ?_
  refine lv_iushr hx hb dX3_addBytes_4 rfl ?_
  obtain ⟨u5, i5, h⟩ := Option.bind_eq_some_iff.mp h
  obtain ⟨G5, e5, h⟩ := Option.bind_eq_some_iff.mp h
  refine g_cVv (As := [.int ((x1.toUInt32 >>> ((24 : Int32).toUInt32 &&& Int32.toUInt32 31)).toInt32)]) (rest := []) (n := 1) hx hb hml hown hts hK hlo hG (m_X3_addByte l dd cT lo G a0 ((x1.toUInt32 >>> ((24 : Int32).toUInt32 &&& Int32.toUInt32 31)).toInt32) e5) qM_X3_19 qI_yX3_addByte qS_X3_yX3_addByte qN_X3 qC_yX3_addByte (by decide +kernel) ⟨Nat.le_of_ble_eq_true rfl, Nat.le_of_ble_eq_true rfl⟩ (by rfl) i5 rfl hl.1 rfl (Nat.le_of_ble_eq_true rfl) dX3_addBytes_5 ⟨Nat.le_of_ble_eq_true rfl, Nat.le_of_ble_eq_true rfl⟩ (fun H locs hG => ?_)
  refine lv_aload_n hx hb dX3_addBytes_8 rfl (lv_at hl 0 rfl) ?_
  refine lv_iload_n hx hb dX3_addBytes_9 rfl (lv_at hl 1 rfl) ?_
  refine lv_bipush (v := (16 : Int32)) hx hb dX3_addBytes_10 (by decide) ?_
  refine lv_iushr hx hb dX3_addBytes_12 rfl ?_
  obtain ⟨u13, i13, h⟩ := Option.bind_eq_some_iff.mp h
  obtain ⟨G13, e13, h⟩ := Option.bind_eq_some_iff.mp h
  refine g_cVv (As := [.int ((x1.toUInt32 >>> ((16 : Int32).toUInt32 &&& Int32.toUInt32 31)).toInt32)]) (rest := []) (n := 1) hx hb hml hown hts hK hlo hG (m_X3_addByte l dd cT lo G5 a0 ((x1.toUInt32 >>> ((16 : Int32).toUInt32 &&& Int32.toUInt32 31)).toInt32) e13) qM_X3_19 qI_yX3_addByte qS_X3_yX3_addByte qN_X3 qC_yX3_addByte (by decide +kernel) ⟨Nat.le_of_ble_eq_true rfl, Nat.le_of_ble_eq_true rfl⟩ (by rfl) i13 rfl hl.1 rfl (Nat.le_of_ble_eq_true rfl) dX3_addBytes_13 ⟨Nat.le_of_ble_eq_true rfl, Nat.le_of_ble_eq_true rfl⟩ (fun H locs hG => ?_)
  refine lv_aload_n hx hb dX3_addBytes_16 rfl (lv_at hl 0 rfl) ?_
  refine lv_iload_n hx hb dX3_addBytes_17 rfl (lv_at hl 1 rfl) ?_
  refine lv_bipush (v := (8 : Int32)) hx hb dX3_addBytes_18 (by decide) ?_
  refine lv_iushr hx hb dX3_addBytes_20 rfl ?_
  obtain ⟨u21, i21, h⟩ := Option.bind_eq_some_iff.mp h
  obtain ⟨G21, e21, h⟩ := Option.bind_eq_some_iff.mp h
  refine g_cVv (As := [.int ((x1.toUInt32 >>> ((8 : Int32).toUInt32 &&& Int32.toUInt32 31)).toInt32)]) (rest := []) (n := 1) hx hb hml hown hts hK hlo hG (m_X3_addByte l dd cT lo G13 a0 ((x1.toUInt32 >>> ((8 : Int32).toUInt32 &&& Int32.toUInt32 31)).toInt32) e21) qM_X3_19 qI_yX3_addByte qS_X3_yX3_addByte qN_X3 qC_yX3_addByte (by decide +kernel) ⟨Nat.le_of_ble_eq_true rfl, Nat.le_of_ble_eq_true rfl⟩ (by rfl) i21 rfl hl.1 rfl (Nat.le_of_ble_eq_true rfl) dX3_addBytes_21 ⟨Nat.le_of_ble_eq_true rfl, Nat.le_of_ble_eq_true rfl⟩ (fun H locs hG => ?_)
  refine lv_aload_n hx hb dX3_addBytes_24 rfl (lv_at hl 0 rfl) ?_
  refine lv_iload_n hx hb dX3_addBytes_25 rfl (lv_at hl 1 rfl) ?_
  obtain ⟨u26, i26, h⟩ := Option.bind_eq_some_iff.mp h
  obtain ⟨G26, e26, h⟩ := Option.bind_eq_some_iff.mp h
  refine g_cVv (As := [.int x1]) (rest := []) (n := 1) hx hb hml hown hts hK hlo hG (m_X3_addByte l dd cT lo G21 a0 x1 e26) qM_X3_19 qI_yX3_addByte qS_X3_yX3_addByte qN_X3 qC_yX3_addByte (by decide +kernel) ⟨Nat.le_of_ble_eq_true rfl, Nat.le_of_ble_eq_true rfl⟩ (by rfl) i26 rfl hl.1 rfl (Nat.le_of_ble_eq_true rfl) dX3_addBytes_26 ⟨Nat.le_of_ble_eq_true rfl, Nat.le_of_ble_eq_true rfl⟩ (fun H locs hG => ?_)
  obtain rfl := Option.some.inj h
  exact g_vret hx hb hr hlocks hK hlo hG rfl dX3_addBytes_29
set_option maxRecDepth 20000 in
set_option maxHeartbeats 4000000 in
theorem m_X4_readHead (l : Launch) (dd : va_G) (cT : Nat → ClassId) (lo : Nat → Prop) (G : gH) (a0 : Nat) {rz : Int32} {Gz : gH} (h : f_X4_readHead G a0 = some (Gz, rz)) : Met l yX4_readHead (Cond.code yX4_readHead cX4_readHead 1 (some .boolean) :: wsL_law) (g_rm 7 155 0 0) (va_Pc [.ref a0] (g_Pre lo dd cT G)) (va_Qi (g_is rz Gz) (g_Pre lo dd cT) (g_A lo)) 0 0 (g_A lo) := by
  refine g_start RX4 rfl (by decide) (Nat.le_of_ble_eq_true rfl) ?_
  intro p e s m below meth c hx hb hr hlocks hml hown hnm hts hK hG hlo ls hl
  have hl : lv_has ls 1 [(0, .ref a0)] := hl
  have hG : g_S lo dd cT s s.heap [] G := hG
  unfold f_X4_readHead at h
  refine lv_aload_n hx hb dX4_readHead_0 rfl (lv_at hl 0 rfl) ?_
  refine va_ldcS (q := dd.2 100 0) hx hb hown (hG.2.2.2.1 _ (List.mem_of_getElem? (i := 1) rfl)) dX4_readHead_1 ?_
  obtain ⟨u3, i3, h⟩ := Option.bind_eq_some_iff.mp h
  obtain ⟨v3, e3, h⟩ := Option.bind_eq_some_iff.mp h
  refine g_cVi (As := [.ref (dd.2 100 0)]) (rest := []) (n := 1) hx hb hml hown hts hK hlo hG (m_X4_isWord l dd cT lo G a0 0 e3) qM_X4_93 qI_yX4_isWord qS_X4_yX4_isWord qN_X4 qC_yX4_isWord (by decide +kernel) ⟨Nat.le_of_ble_eq_true rfl, Nat.le_of_ble_eq_true rfl⟩ (by rfl) i3 rfl hl.1 rfl (Nat.le_of_ble_eq_true rfl) dX4_readHead_3 ⟨Nat.le_of_ble_eq_true rfl, Nat.le_of_ble_eq_true rfl⟩ (fun H locs hG => ?_)
  refine lv_if_ne (tgt := 15) hx hb dX4_readHead_6 (by decide) (fun c6 => ?_) (fun c6 => ?_)
  · rw [if_neg c6] at h
    refine lv_aload_n hx hb dX4_readHead_15 rfl (lv_at hl 0 rfl) ?_
    refine lv_bipush (v := (8 : Int32)) hx hb dX4_readHead_16 (by decide) ?_
    refine lv_bipush (v := (96 : Int32)) hx hb dX4_readHead_18 (by decide) ?_
    obtain ⟨u20, i20, h⟩ := Option.bind_eq_some_iff.mp h
    obtain ⟨q20, e20, h⟩ := Option.bind_eq_some_iff.mp h
    refine g_cVi (As := [.int (8 : Int32), .int (96 : Int32)]) (rest := []) (n := 2) hx hb hml hown hts hK hlo hG (m_X4_readNumber l dd cT lo G a0 (8 : Int32) (96 : Int32) e20) qM_X4_101 qI_yX4_readNumber qS_X4_yX4_readNumber qN_X4 qC_yX4_readNumber (by decide +kernel) ⟨Nat.le_of_ble_eq_true rfl, Nat.le_of_ble_eq_true rfl⟩ (by rfl) i20 rfl hl.1 rfl (Nat.le_of_ble_eq_true rfl) dX4_readHead_20 ⟨Nat.le_of_ble_eq_true rfl, Nat.le_of_ble_eq_true rfl⟩ (fun H locs hG => ?_)
    refine lv_if_ne (tgt := 28) hx hb dX4_readHead_23 (by decide) (fun c23 => ?_) (fun c23 => ?_)
    · rw [if_neg c23] at h
      refine lv_aload_n hx hb dX4_readHead_28 rfl (lv_at hl 0 rfl) ?_
      refine lv_aload_n hx hb dX4_readHead_29 rfl (lv_at hl 0 rfl) ?_
      obtain ⟨v30, e30, h⟩ := Option.bind_eq_some_iff.mp h
      refine g_getr hx hb hts inlX4 hown hK hG (by rfl) 13 (by decide) qF_X4_57 e30 dX4_readHead_30 ?_
      refine lv_aload_n hx hb dX4_readHead_33 rfl (lv_at hl 0 rfl) ?_
      obtain ⟨v34, e34, h⟩ := Option.bind_eq_some_iff.mp h
      refine g_geti hx hb hts inlX4 hown hK hG (by rfl) 14 (by decide) qF_X4_61 e34 dX4_readHead_34 ?_
      obtain ⟨u37, i37, h⟩ := Option.bind_eq_some_iff.mp h
      obtain ⟨v37, e37, h⟩ := Option.bind_eq_some_iff.mp h
      refine g_cVi (As := [.int v34]) (rest := [.ref a0]) (n := 1) hx hb hml hown hts hK hlo hG (m_X11_numberOf l dd cT lo q20.1 v30 v34 e37) qM_X4_105 qI_yX11_numberOf qS_X11_yX11_numberOf qN_X11 qC_yX11_numberOf (by decide +kernel) ⟨Nat.le_of_ble_eq_true rfl, Nat.le_of_ble_eq_true rfl⟩ (by rfl) i37 rfl hl.1 rfl (Nat.le_of_ble_eq_true rfl) dX4_readHead_37 ⟨Nat.le_of_ble_eq_true rfl, Nat.le_of_ble_eq_true rfl⟩ (fun H locs hG => ?_)
      obtain ⟨G40, i40, h⟩ := Option.bind_eq_some_iff.mp h
      refine g_putv hx hb hts inlX4 tyX4 tyX4_ok nmX4 hown hK hG (by rfl) 2 (by decide) qF_X4_18 rfl rfl rfl rfl i40 dX4_readHead_40 (fun H locs hG => ?_)
      refine lv_aload_n hx hb dX4_readHead_43 rfl (lv_at hl 0 rfl) ?_
      refine lv_iconst (v := (0 : Int32)) hx hb dX4_readHead_44 (by decide) ?_
      refine lv_bipush (v := (16 : Int32)) hx hb dX4_readHead_45 (by decide) ?_
      refine lv_aload_n hx hb dX4_readHead_47 rfl (lv_at hl 0 rfl) ?_
      obtain ⟨v48, e48, h⟩ := Option.bind_eq_some_iff.mp h
      refine g_geti hx hb hts inlX4 hown hK hG (by rfl) 2 (by decide) qF_X4_18 e48 dX4_readHead_48 ?_
      refine lv_iconst (v := (2 : Int32)) hx hb dX4_readHead_51 (by decide) ?_
      refine lv_idiv hx hb dX4_readHead_52 (by decide) ?_
      refine va_mmin hx hb (hml.trans hl.1.symm) hown (hts _ qM_X4_108) (hts _ qT_Lib_Math_min_name) (hts _ qN_java_lang_Math) (hts _ qC_Lib_Math_min_name) (Nat.le_of_ble_eq_true rfl) (Nat.le_of_ble_eq_true rfl) (Nat.le_of_ble_eq_true rfl) (Nat.le_of_ble_eq_true rfl) dX4_readHead_53 ?_
      obtain ⟨u56, i56, h⟩ := Option.bind_eq_some_iff.mp h
      obtain ⟨q56, e56, h⟩ := Option.bind_eq_some_iff.mp h
      refine g_cVi (As := [.int (0 : Int32), .int (if (v48 / (2 : Int32)) < (16 : Int32) then (v48 / (2 : Int32)) else (16 : Int32))]) (rest := []) (n := 2) hx hb hml hown hts hK hlo hG (m_X4_readNumber l dd cT lo G40 a0 (0 : Int32) (if (v48 / (2 : Int32)) < (16 : Int32) then (v48 / (2 : Int32)) else (16 : Int32)) e56) qM_X4_101 qI_yX4_readNumber qS_X4_yX4_readNumber qN_X4 qC_yX4_readNumber (by decide +kernel) ⟨Nat.le_of_ble_eq_true rfl, Nat.le_of_ble_eq_true rfl⟩ (by rfl) i56 rfl hl.1 rfl (Nat.le_of_ble_eq_true rfl) dX4_readHead_56 ⟨Nat.le_of_ble_eq_true rfl, Nat.le_of_ble_eq_true rfl⟩ (fun H locs hG => ?_)
      refine lv_if_ne (tgt := 64) hx hb dX4_readHead_59 (by decide) (fun c59 => ?_) (fun c59 => ?_)
      · rw [if_neg c59] at h
        refine lv_aload_n hx hb dX4_readHead_64 rfl (lv_at hl 0 rfl) ?_
        refine lv_aload_n hx hb dX4_readHead_65 rfl (lv_at hl 0 rfl) ?_
        obtain ⟨v66, e66, h⟩ := Option.bind_eq_some_iff.mp h
        refine g_getr hx hb hts inlX4 hown hK hG (by rfl) 13 (by decide) qF_X4_57 e66 dX4_readHead_66 ?_
        refine lv_aload_n hx hb dX4_readHead_69 rfl (lv_at hl 0 rfl) ?_
        obtain ⟨v70, e70, h⟩ := Option.bind_eq_some_iff.mp h
        refine g_geti hx hb hts inlX4 hown hK hG (by rfl) 14 (by decide) qF_X4_61 e70 dX4_readHead_70 ?_
        obtain ⟨u73, i73, h⟩ := Option.bind_eq_some_iff.mp h
        obtain ⟨v73, e73, h⟩ := Option.bind_eq_some_iff.mp h
        refine g_cVi (As := [.int v70]) (rest := [.ref a0]) (n := 1) hx hb hml hown hts hK hlo hG (m_X11_numberOf l dd cT lo q56.1 v66 v70 e73) qM_X4_105 qI_yX11_numberOf qS_X11_yX11_numberOf qN_X11 qC_yX11_numberOf (by decide +kernel) ⟨Nat.le_of_ble_eq_true rfl, Nat.le_of_ble_eq_true rfl⟩ (by rfl) i73 rfl hl.1 rfl (Nat.le_of_ble_eq_true rfl) dX4_readHead_73 ⟨Nat.le_of_ble_eq_true rfl, Nat.le_of_ble_eq_true rfl⟩ (fun H locs hG => ?_)
        obtain ⟨G76, i76, h⟩ := Option.bind_eq_some_iff.mp h
        refine g_putv hx hb hts inlX4 tyX4 tyX4_ok nmX4 hown hK hG (by rfl) 3 (by decide) qF_X4_21 rfl rfl rfl rfl i76 dX4_readHead_76 (fun H locs hG => ?_)
        refine lv_aload_n hx hb dX4_readHead_79 rfl (lv_at hl 0 rfl) ?_
        obtain ⟨u80, i80, h⟩ := Option.bind_eq_some_iff.mp h
        obtain ⟨q80, e80, h⟩ := Option.bind_eq_some_iff.mp h
        refine g_cVi (As := []) (rest := []) (n := 0) hx hb hml hown hts hK hlo hG (m_X4_readSemicolon l dd cT lo G76 a0 e80) qM_X4_80 qI_yX4_readSemicolon qS_X4_yX4_readSemicolon qN_X4 qC_yX4_readSemicolon (by decide +kernel) ⟨Nat.le_of_ble_eq_true rfl, Nat.le_of_ble_eq_true rfl⟩ (by rfl) i80 rfl hl.1 rfl (Nat.le_of_ble_eq_true rfl) dX4_readHead_80 ⟨Nat.le_of_ble_eq_true rfl, Nat.le_of_ble_eq_true rfl⟩ (fun H locs hG => ?_)
        obtain ⟨w83, e83, h⟩ := Option.bind_eq_some_iff.mp h
        obtain ⟨n83, rfl⟩ := g_z_nar e83
        obtain ⟨rfl, rfl⟩ := Prod.mk.inj (Option.some.inj h)
        exact g_zret hx hb hr hlocks hK hlo hG n83 ⟨rfl, rfl⟩ dX4_readHead_83
      · rw [if_pos c59] at h
        refine lv_iconst (v := (0 : Int32)) hx hb dX4_readHead_62 (by decide) ?_
        obtain ⟨rfl, rfl⟩ := Prod.mk.inj (Option.some.inj h)
        exact g_zret hx hb hr hlocks hK hlo hG rfl ⟨rfl, rfl⟩ dX4_readHead_63
    · rw [if_pos c23] at h
      refine lv_iconst (v := (0 : Int32)) hx hb dX4_readHead_26 (by decide) ?_
      obtain ⟨rfl, rfl⟩ := Prod.mk.inj (Option.some.inj h)
      exact g_zret hx hb hr hlocks hK hlo hG rfl ⟨rfl, rfl⟩ dX4_readHead_27
  · rw [if_pos c6] at h
    refine lv_aload_n hx hb dX4_readHead_9 rfl (lv_at hl 0 rfl) ?_
    refine lv_iconst (v := (1 : Int32)) hx hb dX4_readHead_10 (by decide) ?_
    obtain ⟨u11, i11, h⟩ := Option.bind_eq_some_iff.mp h
    obtain ⟨q11, e11, h⟩ := Option.bind_eq_some_iff.mp h
    refine g_cVi (As := [.int (1 : Int32)]) (rest := []) (n := 1) hx hb hml hown hts hK hlo hG (m_X4_fail l dd cT lo G a0 (1 : Int32) e11) qM_X4_97 qI_yX4_fail qS_X4_yX4_fail qN_X4 qC_yX4_fail (by decide +kernel) ⟨Nat.le_of_ble_eq_true rfl, Nat.le_of_ble_eq_true rfl⟩ (by rfl) i11 rfl hl.1 rfl (Nat.le_of_ble_eq_true rfl) dX4_readHead_11 ⟨Nat.le_of_ble_eq_true rfl, Nat.le_of_ble_eq_true rfl⟩ (fun H locs hG => ?_)
    obtain ⟨w14, e14, h⟩ := Option.bind_eq_some_iff.mp h
    obtain ⟨n14, rfl⟩ := g_z_nar e14
    obtain ⟨rfl, rfl⟩ := Prod.mk.inj (Option.some.inj h)
    exact g_zret hx hb hr hlocks hK hlo hG n14 ⟨rfl, rfl⟩ dX4_readHead_14
set_option maxRecDepth 20000 in
set_option maxHeartbeats 4000000 in
theorem m_X4_readBad (l : Launch) (dd : va_G) (cT : Nat → ClassId) (lo : Nat → Prop) (G : gH) (a0 : Nat) {rz : Int32} {Gz : gH} (h : f_X4_readBad G a0 = some (Gz, rz)) : Met l yX4_readBad (Cond.code yX4_readBad cX4_readBad 3 (some .boolean) :: wsL_law) (g_rm 3 67 0 0) (va_Pc [.ref a0] (g_Pre lo dd cT G)) (va_Qi (g_is rz Gz) (g_Pre lo dd cT) (g_A lo)) 0 0 (g_A lo) := by
  refine g_start RX4 rfl (by decide) (Nat.le_of_ble_eq_true rfl) ?_
  intro p e s m below meth c hx hb hr hlocks hml hown hnm hts hK hG hlo ls hl
  have hl : lv_has ls 3 [(0, .ref a0)] := hl
  have hG : g_S lo dd cT s s.heap [] G := hG
  unfold f_X4_readBad at h
  refine lv_aload_n hx hb dX4_readBad_0 rfl (lv_at hl 0 rfl) ?_
  obtain ⟨v1, e1, h⟩ := Option.bind_eq_some_iff.mp h
  refine g_getr hx hb hts inlX4 hown hK hG (by rfl) 13 (by decide) qF_X4_57 e1 dX4_readBad_1 ?_
  refine lv_aload_n hx hb dX4_readBad_4 rfl (lv_at hl 0 rfl) ?_
  obtain ⟨v5, e5, h⟩ := Option.bind_eq_some_iff.mp h
  refine g_geti hx hb hts inlX4 hown hK hG (by rfl) 14 (by decide) qF_X4_61 e5 dX4_readBad_5 ?_
  obtain ⟨u8, i8, h⟩ := Option.bind_eq_some_iff.mp h
  obtain ⟨v8, e8, h⟩ := Option.bind_eq_some_iff.mp h
  refine g_cVi (As := [.int v5]) (rest := []) (n := 1) hx hb hml hown hts hK hlo hG (m_X11_startOf l dd cT lo G v1 v5 e8) qM_X4_83 qI_yX11_startOf qS_X11_yX11_startOf qN_X11 qC_yX11_startOf (by decide +kernel) ⟨Nat.le_of_ble_eq_true rfl, Nat.le_of_ble_eq_true rfl⟩ (by rfl) i8 rfl hl.1 rfl (Nat.le_of_ble_eq_true rfl) dX4_readBad_8 ⟨Nat.le_of_ble_eq_true rfl, Nat.le_of_ble_eq_true rfl⟩ (fun H locs hG => ?_)
  refine lv_istore_n (lv' := [(1, .int v8), (0, .ref a0)]) hx hb dX4_readBad_11 rfl hl (by decide) rfl (fun ls hl => ?_)
  refine lv_aload_n hx hb dX4_readBad_12 rfl (lv_at hl 1 rfl) ?_
  refine lv_iconst (v := (0 : Int32)) hx hb dX4_readBad_13 (by decide) ?_
  refine lv_aload_n hx hb dX4_readBad_14 rfl (lv_at hl 1 rfl) ?_
  obtain ⟨v15, e15, h⟩ := Option.bind_eq_some_iff.mp h
  refine g_geti hx hb hts inlX4 hown hK hG (by rfl) 2 (by decide) qF_X4_18 e15 dX4_readBad_15 ?_
  refine lv_iconst (v := (1 : Int32)) hx hb dX4_readBad_18 (by decide) ?_
  refine lv_isub hx hb dX4_readBad_19 ?_
  obtain ⟨u20, i20, h⟩ := Option.bind_eq_some_iff.mp h
  obtain ⟨q20, e20, h⟩ := Option.bind_eq_some_iff.mp h
  refine g_cVi (As := [.int (0 : Int32), .int (v15 - (1 : Int32))]) (rest := []) (n := 2) hx hb hml hown hts hK hlo hG (m_X4_readNumber l dd cT lo G a0 (0 : Int32) (v15 - (1 : Int32)) e20) qM_X4_101 qI_yX4_readNumber qS_X4_yX4_readNumber qN_X4 qC_yX4_readNumber (by decide +kernel) ⟨Nat.le_of_ble_eq_true rfl, Nat.le_of_ble_eq_true rfl⟩ (by rfl) i20 rfl hl.1 rfl (Nat.le_of_ble_eq_true rfl) dX4_readBad_20 ⟨Nat.le_of_ble_eq_true rfl, Nat.le_of_ble_eq_true rfl⟩ (fun H locs hG => ?_)
  refine lv_if_ne (tgt := 28) hx hb dX4_readBad_23 (by decide) (fun c23 => ?_) (fun c23 => ?_)
  · rw [if_neg c23] at h
    refine lv_aload_n hx hb dX4_readBad_28 rfl (lv_at hl 1 rfl) ?_
    obtain ⟨v29, e29, h⟩ := Option.bind_eq_some_iff.mp h
    refine g_getr hx hb hts inlX4 hown hK hG (by rfl) 13 (by decide) qF_X4_57 e29 dX4_readBad_29 ?_
    refine lv_aload_n hx hb dX4_readBad_32 rfl (lv_at hl 1 rfl) ?_
    obtain ⟨v33, e33, h⟩ := Option.bind_eq_some_iff.mp h
    refine g_geti hx hb hts inlX4 hown hK hG (by rfl) 14 (by decide) qF_X4_61 e33 dX4_readBad_33 ?_
    obtain ⟨u36, i36, h⟩ := Option.bind_eq_some_iff.mp h
    obtain ⟨v36, e36, h⟩ := Option.bind_eq_some_iff.mp h
    refine g_cVi (As := [.int v33]) (rest := []) (n := 1) hx hb hml hown hts hK hlo hG (m_X11_numberOf l dd cT lo q20.1 v29 v33 e36) qM_X4_105 qI_yX11_numberOf qS_X11_yX11_numberOf qN_X11 qC_yX11_numberOf (by decide +kernel) ⟨Nat.le_of_ble_eq_true rfl, Nat.le_of_ble_eq_true rfl⟩ (by rfl) i36 rfl hl.1 rfl (Nat.le_of_ble_eq_true rfl) dX4_readBad_36 ⟨Nat.le_of_ble_eq_true rfl, Nat.le_of_ble_eq_true rfl⟩ (fun H locs hG => ?_)
    refine lv_istore_n (lv' := [(2, .int v36), (1, .int v8), (0, .ref a0)]) hx hb dX4_readBad_39 rfl hl (by decide) rfl (fun ls hl => ?_)
    refine lv_aload_n hx hb dX4_readBad_40 rfl (lv_at hl 2 rfl) ?_
    obtain ⟨v41, e41, h⟩ := Option.bind_eq_some_iff.mp h
    refine g_getr hx hb hts inlX4 hown hK hG (by rfl) 12 (by decide) qF_X4_50 e41 dX4_readBad_41 ?_
    refine lv_iload_n hx hb dX4_readBad_44 rfl (lv_at hl 0 rfl) ?_
    obtain ⟨v45, e45, h⟩ := Option.bind_eq_some_iff.mp h
    refine g_cNi (As := [.ref v41, .int v36]) (rest := []) (n := 2) hx hb hml hown hts hK hlo hG (m_X9_isSet l dd cT lo q20.1 v41 v36 e45) (List.mem_of_getElem? (i := 35) rfl) qT_yX9_isSet qN_X9 qC_yX9_isSet (by decide +kernel) ⟨Nat.le_of_ble_eq_true rfl, Nat.le_of_ble_eq_true rfl⟩ rfl hl.1 rfl (Nat.le_of_ble_eq_true rfl) dX4_readBad_45 ⟨Nat.le_of_ble_eq_true rfl, Nat.le_of_ble_eq_true rfl⟩ (fun H locs hG => ?_)
    refine lv_if_eq (tgt := 57) hx hb dX4_readBad_48 (by decide) (fun c48 => ?_) (fun c48 => ?_)
    · rw [if_pos c48] at h
      refine lv_aload_n hx hb dX4_readBad_57 rfl (lv_at hl 2 rfl) ?_
      obtain ⟨v58, e58, h⟩ := Option.bind_eq_some_iff.mp h
      refine g_getr hx hb hts inlX4 hown hK hG (by rfl) 12 (by decide) qF_X4_50 e58 dX4_readBad_58 ?_
      refine lv_iload_n hx hb dX4_readBad_61 rfl (lv_at hl 0 rfl) ?_
      refine lv_iconst (v := (1 : Int32)) hx hb dX4_readBad_62 (by decide) ?_
      obtain ⟨G63, e63, h⟩ := Option.bind_eq_some_iff.mp h
      refine g_cNv (As := [.ref v58, .int v36, .int (1 : Int32)]) (rest := []) (n := 3) hx hb hml hown hts hK hlo hG (m_X9_mark l dd cT lo q20.1 v58 v36 (1 : Int32) e63) (List.mem_of_getElem? (i := 36) rfl) qT_yX9_mark qN_X9 qC_yX9_mark (by decide +kernel) ⟨Nat.le_of_ble_eq_true rfl, Nat.le_of_ble_eq_true rfl⟩ rfl hl.1 rfl (Nat.le_of_ble_eq_true rfl) dX4_readBad_63 ⟨Nat.le_of_ble_eq_true rfl, Nat.le_of_ble_eq_true rfl⟩ (fun H locs hG => ?_)
      refine lv_aload_n hx hb dX4_readBad_66 rfl (lv_at hl 2 rfl) ?_
      refine lv_iconst (v := (0 : Int32)) hx hb dX4_readBad_67 (by decide) ?_
      refine lv_iload_n hx hb dX4_readBad_68 rfl (lv_at hl 1 rfl) ?_
      refine lv_iload_n hx hb dX4_readBad_69 rfl (lv_at hl 0 rfl) ?_
      obtain ⟨u70, i70, h⟩ := Option.bind_eq_some_iff.mp h
      obtain ⟨q70, e70, h⟩ := Option.bind_eq_some_iff.mp h
      refine g_cVi (As := [.int (0 : Int32), .int v8, .int v36]) (rest := []) (n := 3) hx hb hml hown hts hK hlo hG (m_X4_add l dd cT lo G63 a0 (0 : Int32) v8 v36 e70) qM_X4_135 qI_yX4_add qS_X4_yX4_add qN_X4 qC_yX4_add (by decide +kernel) ⟨Nat.le_of_ble_eq_true rfl, Nat.le_of_ble_eq_true rfl⟩ (by rfl) i70 rfl hl.1 rfl (Nat.le_of_ble_eq_true rfl) dX4_readBad_70 ⟨Nat.le_of_ble_eq_true rfl, Nat.le_of_ble_eq_true rfl⟩ (fun H locs hG => ?_)
      obtain ⟨w73, e73, h⟩ := Option.bind_eq_some_iff.mp h
      obtain ⟨n73, rfl⟩ := g_z_nar e73
      obtain ⟨rfl, rfl⟩ := Prod.mk.inj (Option.some.inj h)
      exact g_zret hx hb hr hlocks hK hlo hG n73 ⟨rfl, rfl⟩ dX4_readBad_73
    · rw [if_neg c48] at h
      refine lv_aload_n hx hb dX4_readBad_51 rfl (lv_at hl 2 rfl) ?_
      refine lv_iconst (v := (2 : Int32)) hx hb dX4_readBad_52 (by decide) ?_
      obtain ⟨u53, i53, h⟩ := Option.bind_eq_some_iff.mp h
      obtain ⟨q53, e53, h⟩ := Option.bind_eq_some_iff.mp h
      refine g_cVi (As := [.int (2 : Int32)]) (rest := []) (n := 1) hx hb hml hown hts hK hlo hG (m_X4_fail l dd cT lo q20.1 a0 (2 : Int32) e53) qM_X4_97 qI_yX4_fail qS_X4_yX4_fail qN_X4 qC_yX4_fail (by decide +kernel) ⟨Nat.le_of_ble_eq_true rfl, Nat.le_of_ble_eq_true rfl⟩ (by rfl) i53 rfl hl.1 rfl (Nat.le_of_ble_eq_true rfl) dX4_readBad_53 ⟨Nat.le_of_ble_eq_true rfl, Nat.le_of_ble_eq_true rfl⟩ (fun H locs hG => ?_)
      obtain ⟨w56, e56, h⟩ := Option.bind_eq_some_iff.mp h
      obtain ⟨n56, rfl⟩ := g_z_nar e56
      obtain ⟨rfl, rfl⟩ := Prod.mk.inj (Option.some.inj h)
      exact g_zret hx hb hr hlocks hK hlo hG n56 ⟨rfl, rfl⟩ dX4_readBad_56
  · rw [if_pos c23] at h
    refine lv_iconst (v := (0 : Int32)) hx hb dX4_readBad_26 (by decide) ?_
    obtain ⟨rfl, rfl⟩ := Prod.mk.inj (Option.some.inj h)
    exact g_zret hx hb hr hlocks hK hlo hG rfl ⟨rfl, rfl⟩ dX4_readBad_27
set_option maxRecDepth 20000 in
set_option maxHeartbeats 4000000 in
theorem m_X4_readWrite (l : Launch) (dd : va_G) (cT : Nat → ClassId) (lo : Nat → Prop) (G : gH) (a0 : Nat) {rz : Int32} {Gz : gH} (h : f_X4_readWrite G a0 = some (Gz, rz)) : Met l yX4_readWrite (Cond.code yX4_readWrite cX4_readWrite 4 (some .boolean) :: wsL_law) (g_rm 3 67 0 0) (va_Pc [.ref a0] (g_Pre lo dd cT G)) (va_Qi (g_is rz Gz) (g_Pre lo dd cT) (g_A lo)) 0 0 (g_A lo) := by
  refine g_start RX4 rfl (by decide) (Nat.le_of_ble_eq_true rfl) ?_
  intro p e s m below meth c hx hb hr hlocks hml hown hnm hts hK hG hlo ls hl
  have hl : lv_has ls 4 [(0, .ref a0)] := hl
  have hG : g_S lo dd cT s s.heap [] G := hG
  unfold f_X4_readWrite at h
  refine lv_aload_n hx hb dX4_readWrite_0 rfl (lv_at hl 0 rfl) ?_
  obtain ⟨v1, e1, h⟩ := Option.bind_eq_some_iff.mp h
  refine g_getr hx hb hts inlX4 hown hK hG (by rfl) 13 (by decide) qF_X4_57 e1 dX4_readWrite_1 ?_
  refine lv_aload_n hx hb dX4_readWrite_4 rfl (lv_at hl 0 rfl) ?_
  obtain ⟨v5, e5, h⟩ := Option.bind_eq_some_iff.mp h
  refine g_geti hx hb hts inlX4 hown hK hG (by rfl) 14 (by decide) qF_X4_61 e5 dX4_readWrite_5 ?_
  obtain ⟨u8, i8, h⟩ := Option.bind_eq_some_iff.mp h
  obtain ⟨v8, e8, h⟩ := Option.bind_eq_some_iff.mp h
  refine g_cVi (As := [.int v5]) (rest := []) (n := 1) hx hb hml hown hts hK hlo hG (m_X11_startOf l dd cT lo G v1 v5 e8) qM_X4_83 qI_yX11_startOf qS_X11_yX11_startOf qN_X11 qC_yX11_startOf (by decide +kernel) ⟨Nat.le_of_ble_eq_true rfl, Nat.le_of_ble_eq_true rfl⟩ (by rfl) i8 rfl hl.1 rfl (Nat.le_of_ble_eq_true rfl) dX4_readWrite_8 ⟨Nat.le_of_ble_eq_true rfl, Nat.le_of_ble_eq_true rfl⟩ (fun H locs hG => ?_)
  refine lv_istore_n (lv' := [(1, .int v8), (0, .ref a0)]) hx hb dX4_readWrite_11 rfl hl (by decide) rfl (fun ls hl => ?_)
  refine lv_aload_n hx hb dX4_readWrite_12 rfl (lv_at hl 1 rfl) ?_
  obtain ⟨u13, i13, h⟩ := Option.bind_eq_some_iff.mp h
  obtain ⟨q13, e13, h⟩ := Option.bind_eq_some_iff.mp h
  refine g_cVi (As := []) (rest := []) (n := 0) hx hb hml hown hts hK hlo hG (m_X4_readFile l dd cT lo G a0 e13) qM_X4_162 qI_yX4_readFile qS_X4_yX4_readFile qN_X4 qC_yX4_readFile (by decide +kernel) ⟨Nat.le_of_ble_eq_true rfl, Nat.le_of_ble_eq_true rfl⟩ (by rfl) i13 rfl hl.1 rfl (Nat.le_of_ble_eq_true rfl) dX4_readWrite_13 ⟨Nat.le_of_ble_eq_true rfl, Nat.le_of_ble_eq_true rfl⟩ (fun H locs hG => ?_)
  refine lv_istore_n (lv' := [(2, .int q13.2), (1, .int v8), (0, .ref a0)]) hx hb dX4_readWrite_16 rfl hl (by decide) rfl (fun ls hl => ?_)
  refine lv_iload_n hx hb dX4_readWrite_17 rfl (lv_at hl 0 rfl) ?_
  refine lv_iconst (v := (-1 : Int32)) hx hb dX4_readWrite_18 (by decide) ?_
  refine lv_icmp_eq (tgt := 32) hx hb dX4_readWrite_19 (by decide) (fun c19 => ?_) (fun c19 => ?_)
  · rw [if_pos c19] at h
    refine lv_iconst (v := (0 : Int32)) hx hb dX4_readWrite_32 (by decide) ?_
    obtain ⟨rfl, rfl⟩ := Prod.mk.inj (Option.some.inj h)
    exact g_zret hx hb hr hlocks hK hlo hG rfl ⟨rfl, rfl⟩ dX4_readWrite_33
  · rw [if_neg c19] at h
    refine lv_aload_n hx hb dX4_readWrite_22 rfl (lv_at hl 2 rfl) ?_
    refine lv_iconst (v := (1 : Int32)) hx hb dX4_readWrite_23 (by decide) ?_
    refine lv_bipush (v := (8 : Int32)) hx hb dX4_readWrite_24 (by decide) ?_
    obtain ⟨u26, i26, h⟩ := Option.bind_eq_some_iff.mp h
    obtain ⟨q26, e26, h⟩ := Option.bind_eq_some_iff.mp h
    refine g_cVi (As := [.int (1 : Int32), .int (8 : Int32)]) (rest := []) (n := 2) hx hb hml hown hts hK hlo hG (m_X4_readNumber l dd cT lo q13.1 a0 (1 : Int32) (8 : Int32) e26) qM_X4_101 qI_yX4_readNumber qS_X4_yX4_readNumber qN_X4 qC_yX4_readNumber (by decide +kernel) ⟨Nat.le_of_ble_eq_true rfl, Nat.le_of_ble_eq_true rfl⟩ (by rfl) i26 rfl hl.1 rfl (Nat.le_of_ble_eq_true rfl) dX4_readWrite_26 ⟨Nat.le_of_ble_eq_true rfl, Nat.le_of_ble_eq_true rfl⟩ (fun H locs hG => ?_)
    refine lv_if_ne (tgt := 34) hx hb dX4_readWrite_29 (by decide) (fun c29 => ?_) (fun c29 => ?_)
    · rw [if_neg c29] at h
      refine lv_aload_n hx hb dX4_readWrite_34 rfl (lv_at hl 2 rfl) ?_
      obtain ⟨v35, e35, h⟩ := Option.bind_eq_some_iff.mp h
      refine g_getr hx hb hts inlX4 hown hK hG (by rfl) 13 (by decide) qF_X4_57 e35 dX4_readWrite_35 ?_
      refine lv_aload_n hx hb dX4_readWrite_38 rfl (lv_at hl 2 rfl) ?_
      obtain ⟨v39, e39, h⟩ := Option.bind_eq_some_iff.mp h
      refine g_geti hx hb hts inlX4 hown hK hG (by rfl) 14 (by decide) qF_X4_61 e39 dX4_readWrite_39 ?_
      obtain ⟨u42, i42, h⟩ := Option.bind_eq_some_iff.mp h
      obtain ⟨v42, e42, h⟩ := Option.bind_eq_some_iff.mp h
      refine g_cVi (As := [.int v39]) (rest := []) (n := 1) hx hb hml hown hts hK hlo hG (m_X11_numberOf l dd cT lo q26.1 v35 v39 e42) qM_X4_105 qI_yX11_numberOf qS_X11_yX11_numberOf qN_X11 qC_yX11_numberOf (by decide +kernel) ⟨Nat.le_of_ble_eq_true rfl, Nat.le_of_ble_eq_true rfl⟩ (by rfl) i42 rfl hl.1 rfl (Nat.le_of_ble_eq_true rfl) dX4_readWrite_42 ⟨Nat.le_of_ble_eq_true rfl, Nat.le_of_ble_eq_true rfl⟩ (fun H locs hG => ?_)
      refine lv_istore_n (lv' := [(3, .int v42), (2, .int q13.2), (1, .int v8), (0, .ref a0)]) hx hb dX4_readWrite_45 rfl hl (by decide) rfl (fun ls hl => ?_)
      refine lv_aload_n hx hb dX4_readWrite_46 rfl (lv_at hl 3 rfl) ?_
      refine lv_iconst (v := (0 : Int32)) hx hb dX4_readWrite_47 (by decide) ?_
      refine lv_sipush (v := (999 : Int32)) hx hb dX4_readWrite_48 (by decide) ?_
      obtain ⟨u51, i51, h⟩ := Option.bind_eq_some_iff.mp h
      obtain ⟨q51, e51, h⟩ := Option.bind_eq_some_iff.mp h
      refine g_cVi (As := [.int (0 : Int32), .int (999 : Int32)]) (rest := []) (n := 2) hx hb hml hown hts hK hlo hG (m_X4_readNumber l dd cT lo q26.1 a0 (0 : Int32) (999 : Int32) e51) qM_X4_101 qI_yX4_readNumber qS_X4_yX4_readNumber qN_X4 qC_yX4_readNumber (by decide +kernel) ⟨Nat.le_of_ble_eq_true rfl, Nat.le_of_ble_eq_true rfl⟩ (by rfl) i51 rfl hl.1 rfl (Nat.le_of_ble_eq_true rfl) dX4_readWrite_51 ⟨Nat.le_of_ble_eq_true rfl, Nat.le_of_ble_eq_true rfl⟩ (fun H locs hG => ?_)
      refine lv_if_ne (tgt := 59) hx hb dX4_readWrite_54 (by decide) (fun c54 => ?_) (fun c54 => ?_)
      · rw [if_neg c54] at h
        refine lv_aload_n hx hb dX4_readWrite_59 rfl (lv_at hl 3 rfl) ?_
        obtain ⟨v60, e60, h⟩ := Option.bind_eq_some_iff.mp h
        refine g_getr hx hb hts inlX4 hown hK hG (by rfl) 10 (by decide) qF_X4_44 e60 dX4_readWrite_60 ?_
        refine lv_aload_n hx hb dX4_readWrite_63 rfl (lv_at hl 3 rfl) ?_
        obtain ⟨v64, e64, h⟩ := Option.bind_eq_some_iff.mp h
        refine g_geti hx hb hts inlX4 hown hK hG (by rfl) 6 (by decide) qF_X4_31 e64 dX4_readWrite_64 ?_
        refine lv_iload_n hx hb dX4_readWrite_67 rfl (lv_at hl 0 rfl) ?_
        obtain ⟨G68, e68, h⟩ := Option.bind_eq_some_iff.mp h
        refine g_cNv (As := [.ref v60, .int v64, .int v42]) (rest := []) (n := 3) hx hb hml hown hts hK hlo hG (m_X9_put l dd cT lo q51.1 v60 v64 v42 e68) (List.mem_of_getElem? (i := 39) rfl) qT_yX9_put qN_X9 qC_yX9_put (by decide +kernel) ⟨Nat.le_of_ble_eq_true rfl, Nat.le_of_ble_eq_true rfl⟩ rfl hl.1 rfl (Nat.le_of_ble_eq_true rfl) dX4_readWrite_68 ⟨Nat.le_of_ble_eq_true rfl, Nat.le_of_ble_eq_true rfl⟩ (fun H locs hG => ?_)
        refine lv_aload_n hx hb dX4_readWrite_71 rfl (lv_at hl 3 rfl) ?_
        obtain ⟨v72, e72, h⟩ := Option.bind_eq_some_iff.mp h
        refine g_getr hx hb hts inlX4 hown hK hG (by rfl) 11 (by decide) qF_X4_47 e72 dX4_readWrite_72 ?_
        refine lv_aload_n hx hb dX4_readWrite_75 rfl (lv_at hl 3 rfl) ?_
        obtain ⟨v76, e76, h⟩ := Option.bind_eq_some_iff.mp h
        refine g_geti hx hb hts inlX4 hown hK hG (by rfl) 6 (by decide) qF_X4_31 e76 dX4_readWrite_76 ?_
        refine lv_aload_n hx hb dX4_readWrite_79 rfl (lv_at hl 3 rfl) ?_
        obtain ⟨v80, e80, h⟩ := Option.bind_eq_some_iff.mp h
        refine g_getr hx hb hts inlX4 hown hK hG (by rfl) 13 (by decide) qF_X4_57 e80 dX4_readWrite_80 ?_
        refine lv_aload_n hx hb dX4_readWrite_83 rfl (lv_at hl 3 rfl) ?_
        obtain ⟨v84, e84, h⟩ := Option.bind_eq_some_iff.mp h
        refine g_geti hx hb hts inlX4 hown hK hG (by rfl) 14 (by decide) qF_X4_61 e84 dX4_readWrite_84 ?_
        obtain ⟨u87, i87, h⟩ := Option.bind_eq_some_iff.mp h
        obtain ⟨v87, e87, h⟩ := Option.bind_eq_some_iff.mp h
        refine g_cVi (As := [.int v84]) (rest := [.int v76, .ref v72]) (n := 1) hx hb hml hown hts hK hlo hG (m_X11_numberOf l dd cT lo G68 v80 v84 e87) qM_X4_105 qI_yX11_numberOf qS_X11_yX11_numberOf qN_X11 qC_yX11_numberOf (by decide +kernel) ⟨Nat.le_of_ble_eq_true rfl, Nat.le_of_ble_eq_true rfl⟩ (by rfl) i87 rfl hl.1 rfl (Nat.le_of_ble_eq_true rfl) dX4_readWrite_87 ⟨Nat.le_of_ble_eq_true rfl, Nat.le_of_ble_eq_true rfl⟩ (fun H locs hG => ?_)
        obtain ⟨G90, e90, h⟩ := Option.bind_eq_some_iff.mp h
        refine g_cNv (As := [.ref v72, .int v76, .int v87]) (rest := []) (n := 3) hx hb hml hown hts hK hlo hG (m_X9_put l dd cT lo G68 v72 v76 v87 e90) (List.mem_of_getElem? (i := 39) rfl) qT_yX9_put qN_X9 qC_yX9_put (by decide +kernel) ⟨Nat.le_of_ble_eq_true rfl, Nat.le_of_ble_eq_true rfl⟩ rfl hl.1 rfl (Nat.le_of_ble_eq_true rfl) dX4_readWrite_90 ⟨Nat.le_of_ble_eq_true rfl, Nat.le_of_ble_eq_true rfl⟩ (fun H locs hG => ?_)
        refine lv_aload_n hx hb dX4_readWrite_93 rfl (lv_at hl 3 rfl) ?_
        refine lv_iconst (v := (1 : Int32)) hx hb dX4_readWrite_94 (by decide) ?_
        refine lv_iload_n hx hb dX4_readWrite_95 rfl (lv_at hl 2 rfl) ?_
        refine lv_iload_n hx hb dX4_readWrite_96 rfl (lv_at hl 1 rfl) ?_
        obtain ⟨u97, i97, h⟩ := Option.bind_eq_some_iff.mp h
        obtain ⟨q97, e97, h⟩ := Option.bind_eq_some_iff.mp h
        refine g_cVi (As := [.int (1 : Int32), .int v8, .int q13.2]) (rest := []) (n := 3) hx hb hml hown hts hK hlo hG (m_X4_add l dd cT lo G90 a0 (1 : Int32) v8 q13.2 e97) qM_X4_135 qI_yX4_add qS_X4_yX4_add qN_X4 qC_yX4_add (by decide +kernel) ⟨Nat.le_of_ble_eq_true rfl, Nat.le_of_ble_eq_true rfl⟩ (by rfl) i97 rfl hl.1 rfl (Nat.le_of_ble_eq_true rfl) dX4_readWrite_97 ⟨Nat.le_of_ble_eq_true rfl, Nat.le_of_ble_eq_true rfl⟩ (fun H locs hG => ?_)
        obtain ⟨w100, e100, h⟩ := Option.bind_eq_some_iff.mp h
        obtain ⟨n100, rfl⟩ := g_z_nar e100
        obtain ⟨rfl, rfl⟩ := Prod.mk.inj (Option.some.inj h)
        exact g_zret hx hb hr hlocks hK hlo hG n100 ⟨rfl, rfl⟩ dX4_readWrite_100
      · rw [if_pos c54] at h
        refine lv_iconst (v := (0 : Int32)) hx hb dX4_readWrite_57 (by decide) ?_
        obtain ⟨rfl, rfl⟩ := Prod.mk.inj (Option.some.inj h)
        exact g_zret hx hb hr hlocks hK hlo hG rfl ⟨rfl, rfl⟩ dX4_readWrite_58
    · rw [if_pos c29] at h
      refine lv_iconst (v := (0 : Int32)) hx hb dX4_readWrite_32 (by decide) ?_
      obtain ⟨rfl, rfl⟩ := Prod.mk.inj (Option.some.inj h)
      exact g_zret hx hb hr hlocks hK hlo hG rfl ⟨rfl, rfl⟩ dX4_readWrite_33
set_option maxRecDepth 20000 in
set_option maxHeartbeats 4000000 in
theorem m_X4_readErase (l : Launch) (dd : va_G) (cT : Nat → ClassId) (lo : Nat → Prop) (G : gH) (a0 : Nat) {rz : Int32} {Gz : gH} (h : f_X4_readErase G a0 = some (Gz, rz)) : Met l yX4_readErase (Cond.code yX4_readErase cX4_readErase 3 (some .boolean) :: wsL_law) (g_rm 3 65 0 0) (va_Pc [.ref a0] (g_Pre lo dd cT G)) (va_Qi (g_is rz Gz) (g_Pre lo dd cT) (g_A lo)) 0 0 (g_A lo) := by
  refine g_start RX4 rfl (by decide) (Nat.le_of_ble_eq_true rfl) ?_
  intro p e s m below meth c hx hb hr hlocks hml hown hnm hts hK hG hlo ls hl
  have hl : lv_has ls 3 [(0, .ref a0)] := hl
  have hG : g_S lo dd cT s s.heap [] G := hG
  unfold f_X4_readErase at h
  refine lv_aload_n hx hb dX4_readErase_0 rfl (lv_at hl 0 rfl) ?_
  obtain ⟨v1, e1, h⟩ := Option.bind_eq_some_iff.mp h
  refine g_getr hx hb hts inlX4 hown hK hG (by rfl) 13 (by decide) qF_X4_57 e1 dX4_readErase_1 ?_
  refine lv_aload_n hx hb dX4_readErase_4 rfl (lv_at hl 0 rfl) ?_
  obtain ⟨v5, e5, h⟩ := Option.bind_eq_some_iff.mp h
  refine g_geti hx hb hts inlX4 hown hK hG (by rfl) 14 (by decide) qF_X4_61 e5 dX4_readErase_5 ?_
  obtain ⟨u8, i8, h⟩ := Option.bind_eq_some_iff.mp h
  obtain ⟨v8, e8, h⟩ := Option.bind_eq_some_iff.mp h
  refine g_cVi (As := [.int v5]) (rest := []) (n := 1) hx hb hml hown hts hK hlo hG (m_X11_startOf l dd cT lo G v1 v5 e8) qM_X4_83 qI_yX11_startOf qS_X11_yX11_startOf qN_X11 qC_yX11_startOf (by decide +kernel) ⟨Nat.le_of_ble_eq_true rfl, Nat.le_of_ble_eq_true rfl⟩ (by rfl) i8 rfl hl.1 rfl (Nat.le_of_ble_eq_true rfl) dX4_readErase_8 ⟨Nat.le_of_ble_eq_true rfl, Nat.le_of_ble_eq_true rfl⟩ (fun H locs hG => ?_)
  refine lv_istore_n (lv' := [(1, .int v8), (0, .ref a0)]) hx hb dX4_readErase_11 rfl hl (by decide) rfl (fun ls hl => ?_)
  refine lv_aload_n hx hb dX4_readErase_12 rfl (lv_at hl 1 rfl) ?_
  obtain ⟨u13, i13, h⟩ := Option.bind_eq_some_iff.mp h
  obtain ⟨q13, e13, h⟩ := Option.bind_eq_some_iff.mp h
  refine g_cVi (As := []) (rest := []) (n := 0) hx hb hml hown hts hK hlo hG (m_X4_readFile l dd cT lo G a0 e13) qM_X4_162 qI_yX4_readFile qS_X4_yX4_readFile qN_X4 qC_yX4_readFile (by decide +kernel) ⟨Nat.le_of_ble_eq_true rfl, Nat.le_of_ble_eq_true rfl⟩ (by rfl) i13 rfl hl.1 rfl (Nat.le_of_ble_eq_true rfl) dX4_readErase_13 ⟨Nat.le_of_ble_eq_true rfl, Nat.le_of_ble_eq_true rfl⟩ (fun H locs hG => ?_)
  refine lv_istore_n (lv' := [(2, .int q13.2), (1, .int v8), (0, .ref a0)]) hx hb dX4_readErase_16 rfl hl (by decide) rfl (fun ls hl => ?_)
  refine lv_iload_n hx hb dX4_readErase_17 rfl (lv_at hl 0 rfl) ?_
  refine lv_iconst (v := (-1 : Int32)) hx hb dX4_readErase_18 (by decide) ?_
  refine lv_icmp_eq (tgt := 36) hx hb dX4_readErase_19 (by decide) (fun c19 => ?_) (fun c19 => ?_)
  · rw [if_pos c19] at h
    refine lv_iconst (v := (0 : Int32)) hx hb dX4_readErase_36 (by decide) ?_
    obtain ⟨rfl, rfl⟩ := Prod.mk.inj (Option.some.inj h)
    exact g_zret hx hb hr hlocks hK hlo hG rfl ⟨rfl, rfl⟩ dX4_readErase_37
  · rw [if_neg c19] at h
    refine lv_aload_n hx hb dX4_readErase_22 rfl (lv_at hl 2 rfl) ?_
    refine lv_iconst (v := (2 : Int32)) hx hb dX4_readErase_23 (by decide) ?_
    refine lv_iload_n hx hb dX4_readErase_24 rfl (lv_at hl 1 rfl) ?_
    refine lv_iload_n hx hb dX4_readErase_25 rfl (lv_at hl 0 rfl) ?_
    obtain ⟨u26, i26, h⟩ := Option.bind_eq_some_iff.mp h
    obtain ⟨q26, e26, h⟩ := Option.bind_eq_some_iff.mp h
    refine g_cVi (As := [.int (2 : Int32), .int v8, .int q13.2]) (rest := []) (n := 3) hx hb hml hown hts hK hlo hG (m_X4_add l dd cT lo q13.1 a0 (2 : Int32) v8 q13.2 e26) qM_X4_135 qI_yX4_add qS_X4_yX4_add qN_X4 qC_yX4_add (by decide +kernel) ⟨Nat.le_of_ble_eq_true rfl, Nat.le_of_ble_eq_true rfl⟩ (by rfl) i26 rfl hl.1 rfl (Nat.le_of_ble_eq_true rfl) dX4_readErase_26 ⟨Nat.le_of_ble_eq_true rfl, Nat.le_of_ble_eq_true rfl⟩ (fun H locs hG => ?_)
    refine lv_if_eq (tgt := 36) hx hb dX4_readErase_29 (by decide) (fun c29 => ?_) (fun c29 => ?_)
    · rw [if_pos c29] at h
      refine lv_iconst (v := (0 : Int32)) hx hb dX4_readErase_36 (by decide) ?_
      obtain ⟨rfl, rfl⟩ := Prod.mk.inj (Option.some.inj h)
      exact g_zret hx hb hr hlocks hK hlo hG rfl ⟨rfl, rfl⟩ dX4_readErase_37
    · rw [if_neg c29] at h
      refine lv_iconst (v := (1 : Int32)) hx hb dX4_readErase_32 (by decide) ?_
      refine lv_goto (tgt := 37) hx hb dX4_readErase_33 (by decide) ?_
      obtain ⟨rfl, rfl⟩ := Prod.mk.inj (Option.some.inj h)
      exact g_zret hx hb hr hlocks hK hlo hG rfl ⟨rfl, rfl⟩ dX4_readErase_37
set_option maxRecDepth 20000 in
set_option maxHeartbeats 4000000 in
theorem m_X5_isOpen (l : Launch) (dd : va_G) (cT : Nat → ClassId) (lo : Nat → Prop) (G : gH) (a0 : Nat) {rz : Int32} (h : f_X5_isOpen G a0 = some rz) : Met l yX5_isOpen (Cond.code yX5_isOpen cX5_isOpen 1 (some .boolean) :: wsL_law) (g_rm 2 43 0 0) (va_Pc [.ref a0] (g_Pre lo dd cT G)) (va_Qi (g_is rz G) (g_Pre lo dd cT) (g_A lo)) 0 0 (g_A lo) := by
  refine g_start RX5 rfl (by decide) (Nat.le_of_ble_eq_true rfl) ?_
  intro p e s m below meth c hx hb hr hlocks hml hown hnm hts hK hG hlo ls hl
  have hl : lv_has ls 1 [(0, .ref a0)] := hl
  have hG : g_S lo dd cT s s.heap [] G := hG
  unfold f_X5_isOpen at h
  refine lv_aload_n hx hb dX5_isOpen_0 rfl (lv_at hl 0 rfl) ?_
  refine lv_aload_n hx hb dX5_isOpen_1 rfl (lv_at hl 0 rfl) ?_
  obtain ⟨u2, i2, h⟩ := Option.bind_eq_some_iff.mp h
  obtain ⟨v2, e2, h⟩ := Option.bind_eq_some_iff.mp h
  refine g_cVi (As := []) (rest := [.ref a0]) (n := 0) hx hb hml hown hts hK hlo hG (m_X5_latest l dd cT lo G a0 e2) qM_X5_41 qI_yX5_latest qS_X5_yX5_latest qN_X5 qC_yX5_latest (by decide +kernel) ⟨Nat.le_of_ble_eq_true rfl, Nat.le_of_ble_eq_true rfl⟩ (by rfl) i2 rfl hl.1 rfl (Nat.le_of_ble_eq_true rfl) dX5_isOpen_2 ⟨Nat.le_of_ble_eq_true rfl, Nat.le_of_ble_eq_true rfl⟩ (fun H locs hG => ?_)
  obtain ⟨u5, i5, h⟩ := Option.bind_eq_some_iff.mp h
  obtain ⟨v5, e5, h⟩ := Option.bind_eq_some_iff.mp h
  refine g_cVi (As := [.int v2]) (rest := []) (n := 1) hx hb hml hown hts hK hlo hG (m_X5_stateOf l dd cT lo G a0 v2 e5) qM_X5_45 qI_yX5_stateOf qS_X5_yX5_stateOf qN_X5 qC_yX5_stateOf (by decide +kernel) ⟨Nat.le_of_ble_eq_true rfl, Nat.le_of_ble_eq_true rfl⟩ (by rfl) i5 rfl hl.1 rfl (Nat.le_of_ble_eq_true rfl) dX5_isOpen_5 ⟨Nat.le_of_ble_eq_true rfl, Nat.le_of_ble_eq_true rfl⟩ (fun H locs hG => ?_)
  refine lv_if_ne (tgt := 15) hx hb dX5_isOpen_8 (by decide) (fun c8 => ?_) (fun c8 => ?_)
  · rw [if_neg c8] at h
    refine lv_iconst (v := (0 : Int32)) hx hb dX5_isOpen_15 (by decide) ?_
    obtain rfl := Option.some.inj h
    exact g_zret hx hb hr hlocks hK hlo hG rfl ⟨rfl, rfl⟩ dX5_isOpen_16
  · rw [if_pos c8] at h
    refine lv_iconst (v := (1 : Int32)) hx hb dX5_isOpen_11 (by decide) ?_
    refine lv_goto (tgt := 16) hx hb dX5_isOpen_12 (by decide) ?_
    obtain rfl := Option.some.inj h
    exact g_zret hx hb hr hlocks hK hlo hG rfl ⟨rfl, rfl⟩ dX5_isOpen_16
set_option maxRecDepth 20000 in
set_option maxHeartbeats 4000000 in
theorem m_X5_latestIsLost (l : Launch) (dd : va_G) (cT : Nat → ClassId) (lo : Nat → Prop) (G : gH) (a0 : Nat) {rz : Int32} (h : f_X5_latestIsLost G a0 = some rz) : Met l yX5_latestIsLost (Cond.code yX5_latestIsLost cX5_latestIsLost 1 (some .boolean) :: wsL_law) (g_rm 2 43 0 0) (va_Pc [.ref a0] (g_Pre lo dd cT G)) (va_Qi (g_is rz G) (g_Pre lo dd cT) (g_A lo)) 0 0 (g_A lo) := by
  refine g_start RX5 rfl (by decide) (Nat.le_of_ble_eq_true rfl) ?_
  intro p e s m below meth c hx hb hr hlocks hml hown hnm hts hK hG hlo ls hl
  have hl : lv_has ls 1 [(0, .ref a0)] := hl
  have hG : g_S lo dd cT s s.heap [] G := hG
  unfold f_X5_latestIsLost at h
  refine lv_aload_n hx hb dX5_latestIsLost_0 rfl (lv_at hl 0 rfl) ?_
  refine lv_aload_n hx hb dX5_latestIsLost_1 rfl (lv_at hl 0 rfl) ?_
  obtain ⟨u2, i2, h⟩ := Option.bind_eq_some_iff.mp h
  obtain ⟨v2, e2, h⟩ := Option.bind_eq_some_iff.mp h
  refine g_cVi (As := []) (rest := [.ref a0]) (n := 0) hx hb hml hown hts hK hlo hG (m_X5_latest l dd cT lo G a0 e2) qM_X5_41 qI_yX5_latest qS_X5_yX5_latest qN_X5 qC_yX5_latest (by decide +kernel) ⟨Nat.le_of_ble_eq_true rfl, Nat.le_of_ble_eq_true rfl⟩ (by rfl) i2 rfl hl.1 rfl (Nat.le_of_ble_eq_true rfl) dX5_latestIsLost_2 ⟨Nat.le_of_ble_eq_true rfl, Nat.le_of_ble_eq_true rfl⟩ (fun H locs hG => ?_)
  obtain ⟨u5, i5, h⟩ := Option.bind_eq_some_iff.mp h
  obtain ⟨v5, e5, h⟩ := Option.bind_eq_some_iff.mp h
  refine g_cVi (As := [.int v2]) (rest := []) (n := 1) hx hb hml hown hts hK hlo hG (m_X5_stateOf l dd cT lo G a0 v2 e5) qM_X5_45 qI_yX5_stateOf qS_X5_yX5_stateOf qN_X5 qC_yX5_stateOf (by decide +kernel) ⟨Nat.le_of_ble_eq_true rfl, Nat.le_of_ble_eq_true rfl⟩ (by rfl) i5 rfl hl.1 rfl (Nat.le_of_ble_eq_true rfl) dX5_latestIsLost_5 ⟨Nat.le_of_ble_eq_true rfl, Nat.le_of_ble_eq_true rfl⟩ (fun H locs hG => ?_)
  refine lv_iconst (v := (2 : Int32)) hx hb dX5_latestIsLost_8 (by decide) ?_
  refine lv_icmp_ne (tgt := 16) hx hb dX5_latestIsLost_9 (by decide) (fun c9 => ?_) (fun c9 => ?_)
  · rw [if_neg c9] at h
    refine lv_iconst (v := (0 : Int32)) hx hb dX5_latestIsLost_16 (by decide) ?_
    obtain rfl := Option.some.inj h
    exact g_zret hx hb hr hlocks hK hlo hG rfl ⟨rfl, rfl⟩ dX5_latestIsLost_17
  · rw [if_pos c9] at h
    refine lv_iconst (v := (1 : Int32)) hx hb dX5_latestIsLost_12 (by decide) ?_
    refine lv_goto (tgt := 17) hx hb dX5_latestIsLost_13 (by decide) ?_
    obtain rfl := Option.some.inj h
    exact g_zret hx hb hr hlocks hK hlo hG rfl ⟨rfl, rfl⟩ dX5_latestIsLost_17
set_option maxRecDepth 20000 in
set_option maxHeartbeats 4000000 in
theorem m_X5_oneMoreIsTooMany (l : Launch) (dd : va_G) (cT : Nat → ClassId) (lo : Nat → Prop) (G : gH) (a0 : Nat) {rz : Int32} (h : f_X5_oneMoreIsTooMany G a0 = some rz) : Met l yX5_oneMoreIsTooMany (Cond.code yX5_oneMoreIsTooMany cX5_oneMoreIsTooMany 1 (some .boolean) :: wsL_law) (g_rm 3 63 0 0) (va_Pc [.ref a0] (g_Pre lo dd cT G)) (va_Qi (g_is rz G) (g_Pre lo dd cT) (g_A lo)) 0 0 (g_A lo) := by
  refine g_start RX5 rfl (by decide) (Nat.le_of_ble_eq_true rfl) ?_
  intro p e s m below meth c hx hb hr hlocks hml hown hnm hts hK hG hlo ls hl
  have hl : lv_has ls 1 [(0, .ref a0)] := hl
  have hG : g_S lo dd cT s s.heap [] G := hG
  unfold f_X5_oneMoreIsTooMany at h
  refine lv_aload_n hx hb dX5_oneMoreIsTooMany_0 rfl (lv_at hl 0 rfl) ?_
  obtain ⟨u1, i1, h⟩ := Option.bind_eq_some_iff.mp h
  obtain ⟨v1, e1, h⟩ := Option.bind_eq_some_iff.mp h
  refine g_cVi (As := []) (rest := []) (n := 0) hx hb hml hown hts hK hlo hG (m_X5_isOpen l dd cT lo G a0 e1) qM_X5_49 qI_yX5_isOpen qS_X5_yX5_isOpen qN_X5 qC_yX5_isOpen (by decide +kernel) ⟨Nat.le_of_ble_eq_true rfl, Nat.le_of_ble_eq_true rfl⟩ (by rfl) i1 rfl hl.1 rfl (Nat.le_of_ble_eq_true rfl) dX5_oneMoreIsTooMany_1 ⟨Nat.le_of_ble_eq_true rfl, Nat.le_of_ble_eq_true rfl⟩ (fun H locs hG => ?_)
  refine lv_if_ne (tgt := 20) hx hb dX5_oneMoreIsTooMany_4 (by decide) (fun c4 => ?_) (fun c4 => ?_)
  · rw [if_neg c4] at h
    refine lv_iconst (v := (0 : Int32)) hx hb dX5_oneMoreIsTooMany_20 (by decide) ?_
    obtain rfl := Option.some.inj h
    exact g_zret hx hb hr hlocks hK hlo hG rfl ⟨rfl, rfl⟩ dX5_oneMoreIsTooMany_21
  · rw [if_pos c4] at h
    refine lv_aload_n hx hb dX5_oneMoreIsTooMany_7 rfl (lv_at hl 0 rfl) ?_
    obtain ⟨v8, e8, h⟩ := Option.bind_eq_some_iff.mp h
    refine g_geti hx hb hts inlX5 hown hK hG (by rfl) 0 (by decide) qF_X5_9 e8 dX5_oneMoreIsTooMany_8 ?_
    refine lv_bipush (v := (12 : Int32)) hx hb dX5_oneMoreIsTooMany_11 (by decide) ?_
    refine lv_icmp_lt (tgt := 20) hx hb dX5_oneMoreIsTooMany_13 (by decide) (fun c13 => ?_) (fun c13 => ?_)
    · rw [if_pos c13] at h
      refine lv_iconst (v := (0 : Int32)) hx hb dX5_oneMoreIsTooMany_20 (by decide) ?_
      obtain rfl := Option.some.inj h
      exact g_zret hx hb hr hlocks hK hlo hG rfl ⟨rfl, rfl⟩ dX5_oneMoreIsTooMany_21
    · rw [if_neg c13] at h
      refine lv_iconst (v := (1 : Int32)) hx hb dX5_oneMoreIsTooMany_16 (by decide) ?_
      refine lv_goto (tgt := 21) hx hb dX5_oneMoreIsTooMany_17 (by decide) ?_
      obtain rfl := Option.some.inj h
      exact g_zret hx hb hr hlocks hK hlo hG rfl ⟨rfl, rfl⟩ dX5_oneMoreIsTooMany_21
set_option maxRecDepth 20000 in
set_option maxHeartbeats 4000000 in
theorem m_X5_begin (l : Launch) (dd : va_G) (cT : Nat → ClassId) (lo : Nat → Prop) (G : gH) (a0 : Nat) (x1 : Int32) {Gz : gH} (h : f_X5_begin G a0 x1 = some Gz) : Met l yX5_begin (Cond.code yX5_begin cX5_begin 3 none :: wsL_law) (g_rm 2 44 0 0) (va_Pc [.ref a0, .int x1] (g_Pre lo dd cT G)) (va_Qv (g_iv Gz) (g_Pre lo dd cT) (g_A lo)) 0 0 (g_A lo) := by
  refine g_start RX5 rfl (by decide) (Nat.le_of_ble_eq_true rfl) ?_
  intro p e s m below meth c hx hb hr hlocks hml hown hnm hts hK hG hlo ls hl
  have hl : lv_has ls 3 [(0, .ref a0), (1, .int x1)] := hl
  have hG : g_S lo dd cT s s.heap [] G := hG
  unfold f_X5_begin at h
  refine lv_aload_n hx hb dX5_begin_0 rfl (lv_at hl 0 rfl) ?_
  obtain ⟨v1, e1, h⟩ := Option.bind_eq_some_iff.mp h
  refine g_geti hx hb hts inlX5 hown hK hG (by rfl) 0 (by decide) qF_X5_9 e1 dX5_begin_1 ?_
  refine lv_istore_n (lv' := [(2, .int v1), (0, .ref a0), (1, .int x1)]) hx hb dX5_begin_4 rfl hl (by decide) rfl (fun ls hl => ?_)
  refine lv_aload_n hx hb dX5_begin_5 rfl (lv_at hl 1 rfl) ?_
  refine lv_dup hx hb dX5_begin_6 rfl ?_
  obtain ⟨v7, e7, h⟩ := Option.bind_eq_some_iff.mp h
  refine g_geti hx hb hts inlX5 hown hK hG (by rfl) 0 (by decide) qF_X5_9 e7 dX5_begin_7 ?_
  refine lv_iconst (v := (1 : Int32)) hx hb dX5_begin_10 (by decide) ?_
  refine lv_iadd hx hb dX5_begin_11 ?_
  obtain ⟨G12, i12, h⟩ := Option.bind_eq_some_iff.mp h
  refine g_putv hx hb hts inlX5 tyX5 tyX5_ok nmX5 hown hK hG (by rfl) 0 (by decide) qF_X5_9 rfl rfl rfl rfl i12 dX5_begin_12 (fun H locs hG => ?_)
  refine lv_aload_n hx hb dX5_begin_15 rfl (lv_at hl 1 rfl) ?_
  obtain ⟨v16, e16, h⟩ := Option.bind_eq_some_iff.mp h
  refine g_getr hx hb hts inlX5 hown hK hG (by rfl) 1 (by decide) qF_X5_15 e16 dX5_begin_16 ?_
  refine lv_iload_n hx hb dX5_begin_19 rfl (lv_at hl 0 rfl) ?_
  refine lv_iconst (v := (0 : Int32)) hx hb dX5_begin_20 (by decide) ?_
  obtain ⟨G21, e21, h⟩ := Option.bind_eq_some_iff.mp h
  refine g_cNv (As := [.ref v16, .int v1, .int (0 : Int32)]) (rest := []) (n := 3) hx hb hml hown hts hK hlo hG (m_X9_put l dd cT lo G12 v16 v1 (0 : Int32) e21) (List.mem_of_getElem? (i := 29) rfl) qT_yX9_put qN_X9 qC_yX9_put (by decide +kernel) ⟨Nat.le_of_ble_eq_true rfl, Nat.le_of_ble_eq_true rfl⟩ rfl hl.1 rfl (Nat.le_of_ble_eq_true rfl) dX5_begin_21 ⟨Nat.le_of_ble_eq_true rfl, Nat.le_of_ble_eq_true rfl⟩ (fun H locs hG => ?_)
  refine lv_aload_n hx hb dX5_begin_24 rfl (lv_at hl 1 rfl) ?_
  obtain ⟨v25, e25, h⟩ := Option.bind_eq_some_iff.mp h
  refine g_getr hx hb hts inlX5 hown hK hG (by rfl) 2 (by decide) qF_X5_19 e25 dX5_begin_25 ?_
  refine lv_iload_n hx hb dX5_begin_28 rfl (lv_at hl 0 rfl) ?_
  refine lv_iload_n hx hb dX5_begin_29 rfl (lv_at hl 2 rfl) ?_
  obtain ⟨G30, e30, h⟩ := Option.bind_eq_some_iff.mp h
  refine g_cNv (As := [.ref v25, .int v1, .int x1]) (rest := []) (n := 3) hx hb hml hown hts hK hlo hG (m_X9_put l dd cT lo G21 v25 v1 x1 e30) (List.mem_of_getElem? (i := 29) rfl) qT_yX9_put qN_X9 qC_yX9_put (by decide +kernel) ⟨Nat.le_of_ble_eq_true rfl, Nat.le_of_ble_eq_true rfl⟩ rfl hl.1 rfl (Nat.le_of_ble_eq_true rfl) dX5_begin_30 ⟨Nat.le_of_ble_eq_true rfl, Nat.le_of_ble_eq_true rfl⟩ (fun H locs hG => ?_)
  refine lv_aload_n hx hb dX5_begin_33 rfl (lv_at hl 1 rfl) ?_
  obtain ⟨v34, e34, h⟩ := Option.bind_eq_some_iff.mp h
  refine g_getr hx hb hts inlX5 hown hK hG (by rfl) 3 (by decide) qF_X5_22 e34 dX5_begin_34 ?_
  refine lv_iload_n hx hb dX5_begin_37 rfl (lv_at hl 0 rfl) ?_
  refine lv_iconst (v := (-1 : Int32)) hx hb dX5_begin_38 (by decide) ?_
  obtain ⟨G39, e39, h⟩ := Option.bind_eq_some_iff.mp h
  refine g_cNv (As := [.ref v34, .int v1, .int (-1 : Int32)]) (rest := []) (n := 3) hx hb hml hown hts hK hlo hG (m_X9_put l dd cT lo G30 v34 v1 (-1 : Int32) e39) (List.mem_of_getElem? (i := 29) rfl) qT_yX9_put qN_X9 qC_yX9_put (by decide +kernel) ⟨Nat.le_of_ble_eq_true rfl, Nat.le_of_ble_eq_true rfl⟩ rfl hl.1 rfl (Nat.le_of_ble_eq_true rfl) dX5_begin_39 ⟨Nat.le_of_ble_eq_true rfl, Nat.le_of_ble_eq_true rfl⟩ (fun H locs hG => ?_)
  refine lv_aload_n hx hb dX5_begin_42 rfl (lv_at hl 1 rfl) ?_
  obtain ⟨v43, e43, h⟩ := Option.bind_eq_some_iff.mp h
  refine g_getr hx hb hts inlX5 hown hK hG (by rfl) 4 (by decide) qF_X5_25 e43 dX5_begin_43 ?_
  refine lv_iload_n hx hb dX5_begin_46 rfl (lv_at hl 0 rfl) ?_
  refine lv_iconst (v := (0 : Int32)) hx hb dX5_begin_47 (by decide) ?_
  obtain ⟨G48, e48, h⟩ := Option.bind_eq_some_iff.mp h
  refine g_cNv (As := [.ref v43, .int v1, .int (0 : Int32)]) (rest := []) (n := 3) hx hb hml hown hts hK hlo hG (m_X9_put l dd cT lo G39 v43 v1 (0 : Int32) e48) (List.mem_of_getElem? (i := 29) rfl) qT_yX9_put qN_X9 qC_yX9_put (by decide +kernel) ⟨Nat.le_of_ble_eq_true rfl, Nat.le_of_ble_eq_true rfl⟩ rfl hl.1 rfl (Nat.le_of_ble_eq_true rfl) dX5_begin_48 ⟨Nat.le_of_ble_eq_true rfl, Nat.le_of_ble_eq_true rfl⟩ (fun H locs hG => ?_)
  refine lv_aload_n hx hb dX5_begin_51 rfl (lv_at hl 1 rfl) ?_
  refine lv_iload_n hx hb dX5_begin_52 rfl (lv_at hl 0 rfl) ?_
  obtain ⟨u53, i53, h⟩ := Option.bind_eq_some_iff.mp h
  obtain ⟨G53, e53, h⟩ := Option.bind_eq_some_iff.mp h
  refine g_cVv (As := [.int v1]) (rest := []) (n := 1) hx hb hml hown hts hK hlo hG (m_X5_forgetEntries l dd cT lo G48 a0 v1 e53) qM_X5_64 qI_yX5_forgetEntries qS_X5_yX5_forgetEntries qN_X5 qC_yX5_forgetEntries (by decide +kernel) ⟨Nat.le_of_ble_eq_true rfl, Nat.le_of_ble_eq_true rfl⟩ (by rfl) i53 rfl hl.1 rfl (Nat.le_of_ble_eq_true rfl) dX5_begin_53 ⟨Nat.le_of_ble_eq_true rfl, Nat.le_of_ble_eq_true rfl⟩ (fun H locs hG => ?_)
  obtain rfl := Option.some.inj h
  exact g_vret hx hb hr hlocks hK hlo hG rfl dX5_begin_56
set_option maxRecDepth 20000 in
set_option maxHeartbeats 4000000 in
theorem m_X5_entriesWith (l : Launch) (dd : va_G) (cT : Nat → ClassId) (lo : Nat → Prop) (G : gH) (a0 : Nat) (x1 : Int32) {rz : Int32} (h : f_X5_entriesWith G a0 x1 = some rz) : Met l yX5_entriesWith (Cond.code yX5_entriesWith cX5_entriesWith 2 (some .int) :: wsL_law) (g_rm 3 63 0 0) (va_Pc [.ref a0, .int x1] (g_Pre lo dd cT G)) (va_Qi (g_is rz G) (g_Pre lo dd cT) (g_A lo)) 0 0 (g_A lo) := by
  refine g_start RX5 rfl (by decide) (Nat.le_of_ble_eq_true rfl) ?_
  intro p e s m below meth c hx hb hr hlocks hml hown hnm hts hK hG hlo ls hl
  have hl : lv_has ls 2 [(0, .ref a0), (1, .int x1)] := hl
  have hG : g_S lo dd cT s s.heap [] G := hG
  unfold f_X5_entriesWith at h
  refine lv_aload_n hx hb dX5_entriesWith_0 rfl (lv_at hl 0 rfl) ?_
  obtain ⟨u1, i1, h⟩ := Option.bind_eq_some_iff.mp h
  obtain ⟨v1, e1, h⟩ := Option.bind_eq_some_iff.mp h
  refine g_cVi (As := []) (rest := []) (n := 0) hx hb hml hown hts hK hlo hG (m_X5_isOpen l dd cT lo G a0 e1) qM_X5_49 qI_yX5_isOpen qS_X5_yX5_isOpen qN_X5 qC_yX5_isOpen (by decide +kernel) ⟨Nat.le_of_ble_eq_true rfl, Nat.le_of_ble_eq_true rfl⟩ (by rfl) i1 rfl hl.1 rfl (Nat.le_of_ble_eq_true rfl) dX5_entriesWith_1 ⟨Nat.le_of_ble_eq_true rfl, Nat.le_of_ble_eq_true rfl⟩ (fun H locs hG => ?_)
  refine lv_if_ne (tgt := 9) hx hb dX5_entriesWith_4 (by decide) (fun c4 => ?_) (fun c4 => ?_)
  · rw [if_neg c4] at h
    refine lv_aload_n hx hb dX5_entriesWith_9 rfl (lv_at hl 0 rfl) ?_
    refine lv_aload_n hx hb dX5_entriesWith_10 rfl (lv_at hl 0 rfl) ?_
    obtain ⟨u11, i11, h⟩ := Option.bind_eq_some_iff.mp h
    obtain ⟨v11, e11, h⟩ := Option.bind_eq_some_iff.mp h
    refine g_cVi (As := []) (rest := [.ref a0]) (n := 0) hx hb hml hown hts hK hlo hG (m_X5_latest l dd cT lo G a0 e11) qM_X5_41 qI_yX5_latest qS_X5_yX5_latest qN_X5 qC_yX5_latest (by decide +kernel) ⟨Nat.le_of_ble_eq_true rfl, Nat.le_of_ble_eq_true rfl⟩ (by rfl) i11 rfl hl.1 rfl (Nat.le_of_ble_eq_true rfl) dX5_entriesWith_11 ⟨Nat.le_of_ble_eq_true rfl, Nat.le_of_ble_eq_true rfl⟩ (fun H locs hG => ?_)
    obtain ⟨u14, i14, h⟩ := Option.bind_eq_some_iff.mp h
    obtain ⟨v14, e14, h⟩ := Option.bind_eq_some_iff.mp h
    refine g_cVi (As := [.int v11]) (rest := []) (n := 1) hx hb hml hown hts hK hlo hG (m_X5_entriesOf l dd cT lo G a0 v11 e14) qM_X5_57 qI_yX5_entriesOf qS_X5_yX5_entriesOf qN_X5 qC_yX5_entriesOf (by decide +kernel) ⟨Nat.le_of_ble_eq_true rfl, Nat.le_of_ble_eq_true rfl⟩ (by rfl) i14 rfl hl.1 rfl (Nat.le_of_ble_eq_true rfl) dX5_entriesWith_14 ⟨Nat.le_of_ble_eq_true rfl, Nat.le_of_ble_eq_true rfl⟩ (fun H locs hG => ?_)
    refine lv_aload_n hx hb dX5_entriesWith_17 rfl (lv_at hl 0 rfl) ?_
    refine lv_aload_n hx hb dX5_entriesWith_18 rfl (lv_at hl 0 rfl) ?_
    obtain ⟨u19, i19, h⟩ := Option.bind_eq_some_iff.mp h
    obtain ⟨v19, e19, h⟩ := Option.bind_eq_some_iff.mp h
    refine g_cVi (As := []) (rest := [.ref a0, .int v14]) (n := 0) hx hb hml hown hts hK hlo hG (m_X5_latest l dd cT lo G a0 e19) qM_X5_41 qI_yX5_latest qS_X5_yX5_latest qN_X5 qC_yX5_latest (by decide +kernel) ⟨Nat.le_of_ble_eq_true rfl, Nat.le_of_ble_eq_true rfl⟩ (by rfl) i19 rfl hl.1 rfl (Nat.le_of_ble_eq_true rfl) dX5_entriesWith_19 ⟨Nat.le_of_ble_eq_true rfl, Nat.le_of_ble_eq_true rfl⟩ (fun H locs hG => ?_)
    refine lv_iload_n hx hb dX5_entriesWith_22 rfl (lv_at hl 1 rfl) ?_
    obtain ⟨u23, i23, h⟩ := Option.bind_eq_some_iff.mp h
    obtain ⟨v23, e23, h⟩ := Option.bind_eq_some_iff.mp h
    refine g_cVi (As := [.int v19, .int x1]) (rest := [.int v14]) (n := 2) hx hb hml hown hts hK hlo hG (m_X5_hasEntry l dd cT lo G a0 v19 x1 e23) qM_X5_68 qI_yX5_hasEntry qS_X5_yX5_hasEntry qN_X5 qC_yX5_hasEntry (by decide +kernel) ⟨Nat.le_of_ble_eq_true rfl, Nat.le_of_ble_eq_true rfl⟩ (by rfl) i23 rfl hl.1 rfl (Nat.le_of_ble_eq_true rfl) dX5_entriesWith_23 ⟨Nat.le_of_ble_eq_true rfl, Nat.le_of_ble_eq_true rfl⟩ (fun H locs hG => ?_)
    refine lv_if_ne (tgt := 33) hx hb dX5_entriesWith_26 (by decide) (fun c26 => ?_) (fun c26 => ?_)
    · rw [if_neg c26] at h
      refine lv_iconst (v := (0 : Int32)) hx hb dX5_entriesWith_33 (by decide) ?_
      obtain ⟨v34, e34, h⟩ := Option.bind_eq_some_iff.mp h
      refine g_cNi (As := [.int (0 : Int32)]) (rest := [.int v14]) (n := 1) hx hb hml hown hts hK hlo hG (m_X9_oneIf l dd cT lo G (0 : Int32) e34) (List.mem_of_getElem? (i := 30) rfl) qT_yX9_oneIf qN_X9 qC_yX9_oneIf (by decide +kernel) ⟨Nat.le_of_ble_eq_true rfl, Nat.le_of_ble_eq_true rfl⟩ rfl hl.1 rfl (Nat.le_of_ble_eq_true rfl) dX5_entriesWith_34 ⟨Nat.le_of_ble_eq_true rfl, Nat.le_of_ble_eq_true rfl⟩ (fun H locs hG => ?_)
      refine lv_iadd hx hb dX5_entriesWith_37 ?_
      obtain rfl := Option.some.inj h
      exact g_iret hx hb hr hlocks hK hlo hG ⟨rfl, rfl⟩ dX5_entriesWith_38
    · rw [if_pos c26] at h
      refine lv_iconst (v := (1 : Int32)) hx hb dX5_entriesWith_29 (by decide) ?_
      refine lv_goto (tgt := 34) hx hb dX5_entriesWith_30 (by decide) ?_
      obtain ⟨v34, e34, h⟩ := Option.bind_eq_some_iff.mp h
      refine g_cNi (As := [.int (1 : Int32)]) (rest := [.int v14]) (n := 1) hx hb hml hown hts hK hlo hG (m_X9_oneIf l dd cT lo G (1 : Int32) e34) (List.mem_of_getElem? (i := 30) rfl) qT_yX9_oneIf qN_X9 qC_yX9_oneIf (by decide +kernel) ⟨Nat.le_of_ble_eq_true rfl, Nat.le_of_ble_eq_true rfl⟩ rfl hl.1 rfl (Nat.le_of_ble_eq_true rfl) dX5_entriesWith_34 ⟨Nat.le_of_ble_eq_true rfl, Nat.le_of_ble_eq_true rfl⟩ (fun H locs hG => ?_)
      refine lv_iadd hx hb dX5_entriesWith_37 ?_
      obtain rfl := Option.some.inj h
      exact g_iret hx hb hr hlocks hK hlo hG ⟨rfl, rfl⟩ dX5_entriesWith_38
  · rw [if_pos c4] at h
    refine lv_iconst (v := (1 : Int32)) hx hb dX5_entriesWith_7 (by decide) ?_
    obtain rfl := Option.some.inj h
    exact g_iret hx hb hr hlocks hK hlo hG ⟨rfl, rfl⟩ dX5_entriesWith_8
set_option maxRecDepth 20000 in
set_option maxHeartbeats 4000000 in
theorem m_X8_sessionThatCounts (l : Launch) (dd : va_G) (cT : Nat → ClassId) (lo : Nat → Prop) (G : gH) (a0 : Nat) (a1 : Nat) (x2 : Int32) (x3 : Int32) {rz : Int32} (h : f_X8_sessionThatCounts G a0 a1 x2 x3 = some rz) : Met l yX8_sessionThatCounts (Cond.code yX8_sessionThatCounts cX8_sessionThatCounts 5 (some .int) :: wsL_law) (g_rm 2 44 0 0) (va_Pc [.ref a0, .ref a1, .int x2, .int x3] (g_Pre lo dd cT G)) (va_Qi (g_is rz G) (g_Pre lo dd cT) (g_A lo)) 0 0 (g_A lo) := by
  refine g_start RX8 rfl (by decide) (Nat.le_of_ble_eq_true rfl) ?_
  intro p e s m below meth c hx hb hr hlocks hml hown hnm hts hK hG hlo ls hl
  have hl : lv_has ls 5 [(0, .ref a0), (1, .ref a1), (2, .int x2), (3, .int x3)] := hl
  have hG : g_S lo dd cT s s.heap [] G := hG
  have h5 : ∀ n : Nat, ∀ (ba0 : Nat) (ba1 : Nat) (bx2 : Int32) (bx4 : Int32), ∀ (H : Heap) (locs : List Loc), g_S lo dd cT s H locs G → ∀ ls : Array Slot, lv_has ls 5 [(0, .ref ba0), (1, .ref ba1), (2, .int bx2), (4, .int bx4)] → f_X8_sessionThatCounts_L5 G n ba0 ba1 bx2 bx4 = some rz → W p l e (g_rm 2 44 0 0) s m ([.ref a0, .ref a1, .int x2, .int x3] : List Value).toArray below meth c H locs 0 0 (MQ below (va_Qi (g_is rz G) (g_Pre lo dd cT) (g_A lo)) ([.ref a0, .ref a1, .int x2, .int x3] : List Value).toArray s 0 0 (g_A lo)) (F0 m 5 ls []) := by
    intro n
    induction n with
    | zero =>
      intro ba0 ba1 bx2 bx4 H locs hG ls hl h
      cases (show (none : Option Int32) = some rz from h)
    | succ n ih =>
      intro ba0 ba1 bx2 bx4 H locs hG ls hl h
      rw [f_X8_sessionThatCounts_L5] at h
      refine lv_iload hx hb dX8_sessionThatCounts_5 (lv_at hl 3 rfl) ?_
      refine lv_if_lt (tgt := 38) hx hb dX8_sessionThatCounts_7 (by decide) (fun c7 => ?_) (fun c7 => ?_)
      · rw [if_pos c7] at h
        refine lv_iconst (v := (-1 : Int32)) hx hb dX8_sessionThatCounts_38 (by decide) ?_
        obtain rfl := Option.some.inj h
        exact g_iret hx hb hr hlocks hK hlo hG ⟨rfl, rfl⟩ dX8_sessionThatCounts_39
      · rw [if_neg c7] at h
        refine lv_aload_n hx hb dX8_sessionThatCounts_10 rfl (lv_at hl 0 rfl) ?_
        refine lv_iload hx hb dX8_sessionThatCounts_11 (lv_at hl 3 rfl) ?_
        obtain ⟨u13, i13, h⟩ := Option.bind_eq_some_iff.mp h
        obtain ⟨v13, e13, h⟩ := Option.bind_eq_some_iff.mp h
        refine g_cVi (As := [.int bx4]) (rest := []) (n := 1) hx hb hml hown hts hK hlo hG (m_X8_isReached l dd cT lo G ba0 bx4 e13) qM_X8_92 qI_yX8_isReached qS_X8_yX8_isReached qN_X8 qC_yX8_isReached (by decide +kernel) ⟨Nat.le_of_ble_eq_true rfl, Nat.le_of_ble_eq_true rfl⟩ (by rfl) i13 rfl hl.1 rfl (Nat.le_of_ble_eq_true rfl) dX8_sessionThatCounts_13 ⟨Nat.le_of_ble_eq_true rfl, Nat.le_of_ble_eq_true rfl⟩ (fun H locs hG => ?_)
        refine lv_if_eq (tgt := 32) hx hb dX8_sessionThatCounts_16 (by decide) (fun c16 => ?_) (fun c16 => ?_)
        · rw [if_pos c16] at h
          refine lv_iinc (v := (bx4 + (-1 : Int32))) (lv' := [(4, .int (bx4 + (-1 : Int32))), (0, .ref ba0), (1, .ref ba1), (2, .int bx2)]) hx hb dX8_sessionThatCounts_32 hl (k := 3) rfl rfl (by decide) rfl (fun ls hl => ?_)
          refine lv_goto (tgt := 5) hx hb dX8_sessionThatCounts_35 (by decide) ?_
          exact ih ba0 ba1 bx2 (bx4 + (-1 : Int32)) _ _ hG _ (lv_sub hl [1, 2, 3, 0] rfl) h
        · rw [if_neg c16] at h
          refine lv_aload_n hx hb dX8_sessionThatCounts_19 rfl (lv_at hl 1 rfl) ?_
          refine lv_iload hx hb dX8_sessionThatCounts_20 (lv_at hl 3 rfl) ?_
          refine lv_iload_n hx hb dX8_sessionThatCounts_22 rfl (lv_at hl 2 rfl) ?_
          obtain ⟨u23, i23, h⟩ := Option.bind_eq_some_iff.mp h
          obtain ⟨v23, e23, h⟩ := Option.bind_eq_some_iff.mp h
          refine g_cVi (As := [.int bx4, .int bx2]) (rest := []) (n := 2) hx hb hml hown hts hK hlo hG (m_X5_hasEntry l dd cT lo G ba1 bx4 bx2 e23) qM_X8_95 qI_yX5_hasEntry qS_X5_yX5_hasEntry qN_X5 qC_yX5_hasEntry (by decide +kernel) ⟨Nat.le_of_ble_eq_true rfl, Nat.le_of_ble_eq_true rfl⟩ (by rfl) i23 rfl hl.1 rfl (Nat.le_of_ble_eq_true rfl) dX8_sessionThatCounts_23 ⟨Nat.le_of_ble_eq_true rfl, Nat.le_of_ble_eq_true rfl⟩ (fun H locs hG => ?_)
          refine lv_if_eq (tgt := 32) hx hb dX8_sessionThatCounts_26 (by decide) (fun c26 => ?_) (fun c26 => ?_)
          · rw [if_pos c26] at h
            refine lv_iinc (v := (bx4 + (-1 : Int32))) (lv' := [(4, .int (bx4 + (-1 : Int32))), (0, .ref ba0), (1, .ref ba1), (2, .int bx2)]) hx hb dX8_sessionThatCounts_32 hl (k := 3) rfl rfl (by decide) rfl (fun ls hl => ?_)
            refine lv_goto (tgt := 5) hx hb dX8_sessionThatCounts_35 (by decide) ?_
            exact ih ba0 ba1 bx2 (bx4 + (-1 : Int32)) _ _ hG _ (lv_sub hl [1, 2, 3, 0] rfl) h
          · rw [if_neg c26] at h
            refine lv_iload hx hb dX8_sessionThatCounts_29 (lv_at hl 3 rfl) ?_
            obtain rfl := Option.some.inj h
            exact g_iret hx hb hr hlocks hK hlo hG ⟨rfl, rfl⟩ dX8_sessionThatCounts_31
  unfold f_X8_sessionThatCounts at h
  refine lv_iload_n hx hb dX8_sessionThatCounts_0 rfl (lv_at hl 3 rfl) ?_
  refine lv_iconst (v := (1 : Int32)) hx hb dX8_sessionThatCounts_1 (by decide) ?_
  refine lv_isub hx hb dX8_sessionThatCounts_2 ?_
  refine lv_istore (lv' := [(4, .int (x3 - (1 : Int32))), (0, .ref a0), (1, .ref a1), (2, .int x2), (3, .int x3)]) hx hb dX8_sessionThatCounts_3 hl (by decide) rfl (fun ls hl => ?_)
  exact h5 g_N a0 a1 x2 (x3 - (1 : Int32)) _ _ hG _ (lv_sub hl [1, 2, 3, 0] rfl) h
set_option maxRecDepth 20000 in
set_option maxHeartbeats 4000000 in
theorem m_X8_filesThereBefore (l : Launch) (dd : va_G) (cT : Nat → ClassId) (lo : Nat → Prop) (G : gH) (a0 : Nat) (a1 : Nat) (x2 : Int32) {rz : Int32} (h : f_X8_filesThereBefore G a0 a1 x2 = some rz) : Met l yX8_filesThereBefore (Cond.code yX8_filesThereBefore cX8_filesThereBefore 5 (some .int) :: wsL_law) (g_rm 3 68 0 0) (va_Pc [.ref a0, .ref a1, .int x2] (g_Pre lo dd cT G)) (va_Qi (g_is rz G) (g_Pre lo dd cT) (g_A lo)) 0 0 (g_A lo) := by
  refine g_start RX8 rfl (by decide) (Nat.le_of_ble_eq_true rfl) ?_
  intro p e s m below meth c hx hb hr hlocks hml hown hnm hts hK hG hlo ls hl
  have hl : lv_has ls 5 [(0, .ref a0), (1, .ref a1), (2, .int x2)] := hl
  have hG : g_S lo dd cT s s.heap [] G := hG
  have h5 : ∀ n : Nat, ∀ (ba0 : Nat) (ba1 : Nat) (bx2 : Int32) (bx3 : Int32) (bx4 : Int32), ∀ (H : Heap) (locs : List Loc), g_S lo dd cT s H locs G → ∀ ls : Array Slot, lv_has ls 5 [(0, .ref ba0), (1, .ref ba1), (2, .int bx2), (3, .int bx3), (4, .int bx4)] → f_X8_filesThereBefore_L5 G n ba0 ba1 bx2 bx3 bx4 = some rz → W p l e (g_rm 3 68 0 0) s m ([.ref a0, .ref a1, .int x2] : List Value).toArray below meth c H locs 0 0 (MQ below (va_Qi (g_is rz G) (g_Pre lo dd cT) (g_A lo)) ([.ref a0, .ref a1, .int x2] : List Value).toArray s 0 0 (g_A lo)) (F0 m 5 ls []) := by
    intro n
    induction n with
    | zero =>
      intro ba0 ba1 bx2 bx3 bx4 H locs hG ls hl h
      cases (show (none : Option Int32) = some rz from h)
    | succ n ih =>
      intro ba0 ba1 bx2 bx3 bx4 H locs hG ls hl h
      rw [f_X8_filesThereBefore_L5] at h
      refine lv_iload hx hb dX8_filesThereBefore_5 (lv_at hl 4 rfl) ?_
      refine lv_aload_n hx hb dX8_filesThereBefore_7 rfl (lv_at hl 0 rfl) ?_
      obtain ⟨v8, e8, h⟩ := Option.bind_eq_some_iff.mp h
      refine g_geti hx hb hts inlX8 hown hK hG (by rfl) 0 (by decide) qF_X8_9 e8 dX8_filesThereBefore_8 ?_
      refine lv_icmp_ge (tgt := 49) hx hb dX8_filesThereBefore_11 (by decide) (fun c11 => ?_) (fun c11 => ?_)
      · rw [if_pos c11] at h
        refine lv_iload_n hx hb dX8_filesThereBefore_49 rfl (lv_at hl 3 rfl) ?_
        obtain rfl := Option.some.inj h
        exact g_iret hx hb hr hlocks hK hlo hG ⟨rfl, rfl⟩ dX8_filesThereBefore_50
      · rw [if_neg c11] at h
        refine lv_iload_n hx hb dX8_filesThereBefore_14 rfl (lv_at hl 3 rfl) ?_
        refine lv_aload_n hx hb dX8_filesThereBefore_15 rfl (lv_at hl 1 rfl) ?_
        refine lv_aload_n hx hb dX8_filesThereBefore_16 rfl (lv_at hl 0 rfl) ?_
        refine lv_aload_n hx hb dX8_filesThereBefore_17 rfl (lv_at hl 1 rfl) ?_
        refine lv_iload hx hb dX8_filesThereBefore_18 (lv_at hl 4 rfl) ?_
        refine lv_iload_n hx hb dX8_filesThereBefore_20 rfl (lv_at hl 2 rfl) ?_
        obtain ⟨u21, i21, h⟩ := Option.bind_eq_some_iff.mp h
        obtain ⟨v21, e21, h⟩ := Option.bind_eq_some_iff.mp h
        refine g_cVi (As := [.ref ba1, .int bx4, .int bx2]) (rest := [.ref ba1, .int bx3]) (n := 3) hx hb hml hown hts hK hlo hG (m_X8_sessionThatCounts l dd cT lo G ba0 ba1 bx4 bx2 e21) qM_X8_44 qI_yX8_sessionThatCounts qS_X8_yX8_sessionThatCounts qN_X8 qC_yX8_sessionThatCounts (by decide +kernel) ⟨Nat.le_of_ble_eq_true rfl, Nat.le_of_ble_eq_true rfl⟩ (by rfl) i21 rfl hl.1 rfl (Nat.le_of_ble_eq_true rfl) dX8_filesThereBefore_21 ⟨Nat.le_of_ble_eq_true rfl, Nat.le_of_ble_eq_true rfl⟩ (fun H locs hG => ?_)
        refine lv_iload hx hb dX8_filesThereBefore_24 (lv_at hl 4 rfl) ?_
        obtain ⟨u26, i26, h⟩ := Option.bind_eq_some_iff.mp h
        obtain ⟨v26, e26, h⟩ := Option.bind_eq_some_iff.mp h
        refine g_cVi (As := [.int v21, .int bx4]) (rest := [.int bx3]) (n := 2) hx hb hml hown hts hK hlo hG (m_X5_versionFor l dd cT lo G ba1 v21 bx4 e26) qM_X8_48 qI_yX5_versionFor qS_X5_yX5_versionFor qN_X5 qC_yX5_versionFor (by decide +kernel) ⟨Nat.le_of_ble_eq_true rfl, Nat.le_of_ble_eq_true rfl⟩ (by rfl) i26 rfl hl.1 rfl (Nat.le_of_ble_eq_true rfl) dX8_filesThereBefore_26 ⟨Nat.le_of_ble_eq_true rfl, Nat.le_of_ble_eq_true rfl⟩ (fun H locs hG => ?_)
        refine lv_iconst (v := (-1 : Int32)) hx hb dX8_filesThereBefore_29 (by decide) ?_
        refine lv_icmp_eq (tgt := 37) hx hb dX8_filesThereBefore_30 (by decide) (fun c30 => ?_) (fun c30 => ?_)
        · rw [if_pos c30] at h
          refine lv_iconst (v := (0 : Int32)) hx hb dX8_filesThereBefore_37 (by decide) ?_
          obtain ⟨v38, e38, h⟩ := Option.bind_eq_some_iff.mp h
          refine g_cNi (As := [.int (0 : Int32)]) (rest := [.int bx3]) (n := 1) hx hb hml hown hts hK hlo hG (m_X9_oneIf l dd cT lo G (0 : Int32) e38) (List.mem_of_getElem? (i := 54) rfl) qT_yX9_oneIf qN_X9 qC_yX9_oneIf (by decide +kernel) ⟨Nat.le_of_ble_eq_true rfl, Nat.le_of_ble_eq_true rfl⟩ rfl hl.1 rfl (Nat.le_of_ble_eq_true rfl) dX8_filesThereBefore_38 ⟨Nat.le_of_ble_eq_true rfl, Nat.le_of_ble_eq_true rfl⟩ (fun H locs hG => ?_)
          refine lv_iadd hx hb dX8_filesThereBefore_41 ?_
          refine lv_istore_n (lv' := [(3, .int (bx3 + v38)), (0, .ref ba0), (1, .ref ba1), (2, .int bx2), (4, .int bx4)]) hx hb dX8_filesThereBefore_42 rfl hl (by decide) rfl (fun ls hl => ?_)
          refine lv_iinc (v := (bx4 + (1 : Int32))) (lv' := [(4, .int (bx4 + (1 : Int32))), (3, .int (bx3 + v38)), (0, .ref ba0), (1, .ref ba1), (2, .int bx2)]) hx hb dX8_filesThereBefore_43 hl (k := 4) rfl rfl (by decide) rfl (fun ls hl => ?_)
          refine lv_goto (tgt := 5) hx hb dX8_filesThereBefore_46 (by decide) ?_
          exact ih ba0 ba1 bx2 (bx3 + v38) (bx4 + (1 : Int32)) _ _ hG _ (lv_sub hl [2, 3, 4, 1, 0] rfl) h
        · rw [if_neg c30] at h
          refine lv_iconst (v := (1 : Int32)) hx hb dX8_filesThereBefore_33 (by decide) ?_
          refine lv_goto (tgt := 38) hx hb dX8_filesThereBefore_34 (by decide) ?_
          obtain ⟨v38, e38, h⟩ := Option.bind_eq_some_iff.mp h
          refine g_cNi (As := [.int (1 : Int32)]) (rest := [.int bx3]) (n := 1) hx hb hml hown hts hK hlo hG (m_X9_oneIf l dd cT lo G (1 : Int32) e38) (List.mem_of_getElem? (i := 54) rfl) qT_yX9_oneIf qN_X9 qC_yX9_oneIf (by decide +kernel) ⟨Nat.le_of_ble_eq_true rfl, Nat.le_of_ble_eq_true rfl⟩ rfl hl.1 rfl (Nat.le_of_ble_eq_true rfl) dX8_filesThereBefore_38 ⟨Nat.le_of_ble_eq_true rfl, Nat.le_of_ble_eq_true rfl⟩ (fun H locs hG => ?_)
          refine lv_iadd hx hb dX8_filesThereBefore_41 ?_
          refine lv_istore_n (lv' := [(3, .int (bx3 + v38)), (0, .ref ba0), (1, .ref ba1), (2, .int bx2), (4, .int bx4)]) hx hb dX8_filesThereBefore_42 rfl hl (by decide) rfl (fun ls hl => ?_)
          refine lv_iinc (v := (bx4 + (1 : Int32))) (lv' := [(4, .int (bx4 + (1 : Int32))), (3, .int (bx3 + v38)), (0, .ref ba0), (1, .ref ba1), (2, .int bx2)]) hx hb dX8_filesThereBefore_43 hl (k := 4) rfl rfl (by decide) rfl (fun ls hl => ?_)
          refine lv_goto (tgt := 5) hx hb dX8_filesThereBefore_46 (by decide) ?_
          exact ih ba0 ba1 bx2 (bx3 + v38) (bx4 + (1 : Int32)) _ _ hG _ (lv_sub hl [2, 3, 4, 1, 0] rfl) h
  unfold f_X8_filesThereBefore at h
  refine lv_iconst (v := (0 : Int32)) hx hb dX8_filesThereBefore_0 (by decide) ?_
  refine lv_istore_n (lv' := [(3, .int (0 : Int32)), (0, .ref a0), (1, .ref a1), (2, .int x2)]) hx hb dX8_filesThereBefore_1 rfl hl (by decide) rfl (fun ls hl => ?_)
  refine lv_iconst (v := (0 : Int32)) hx hb dX8_filesThereBefore_2 (by decide) ?_
  refine lv_istore (lv' := [(4, .int (0 : Int32)), (3, .int (0 : Int32)), (0, .ref a0), (1, .ref a1), (2, .int x2)]) hx hb dX8_filesThereBefore_3 hl (by decide) rfl (fun ls hl => ?_)
  exact h5 g_N a0 a1 x2 (0 : Int32) (0 : Int32) _ _ hG _ (lv_sub hl [2, 3, 4, 1, 0] rfl) h
set_option maxRecDepth 20000 in
set_option maxHeartbeats 4000000 in
theorem m_X9_append (l : Launch) (dd : va_G) (cT : Nat → ClassId) (lo : Nat → Prop) (G : gH) (a0 : Nat) (x1 : Int32) (x2 : Int32) (x3 : Int32) (x4 : Int32) (x5 : Int32) {rz : Int32} {Gz : gH} (h : f_X9_append G a0 x1 x2 x3 x4 x5 = some (Gz, rz)) : Met l yX9_append (Cond.code yX9_append cX9_append 6 (some .int) :: wsL_law) (g_rm 3 64 0 0) (va_Pc [.ref a0, .int x1, .int x2, .int x3, .int x4, .int x5] (g_Pre lo dd cT G)) (va_Qi (g_is rz Gz) (g_Pre lo dd cT) (g_A lo)) 0 0 (g_A lo) := by
  refine g_start RX9 rfl (by decide) (Nat.le_of_ble_eq_true rfl) ?_
  intro p e s m below meth c hx hb hr hlocks hml hown hnm hts hK hG hlo ls hl
  have hl : lv_has ls 6 [(0, .ref a0), (1, .int x1), (2, .int x2), (3, .int x3), (4, .int x4), (5, .int x5)] := hl
  have hG : g_S lo dd cT s s.heap [] G := hG
  unfold f_X9_append at h
  refine lv_aload_n hx hb dX9_append_0 rfl (lv_at hl 0 rfl) ?_
  obtain ⟨v1, e1, h⟩ := Option.bind_eq_some_iff.mp h
  refine g_getr hx hb hts inlX9 hown hK hG (by rfl) 0 (by decide) qF_X9_12 e1 dX9_append_1 ?_
  refine lv_bipush (v := (20 : Int32)) hx hb dX9_append_4 (by decide) ?_
  obtain ⟨u6, i6, h⟩ := Option.bind_eq_some_iff.mp h
  obtain ⟨v6, e6, h⟩ := Option.bind_eq_some_iff.mp h
  refine g_cVi (As := [.int (20 : Int32)]) (rest := []) (n := 1) hx hb hml hown hts hK hlo hG (m_X3_hasRoom l dd cT lo G v1 (20 : Int32) e6) qM_X9_58 qI_yX3_hasRoom qS_X3_yX3_hasRoom qN_X3 qC_yX3_hasRoom (by decide +kernel) ⟨Nat.le_of_ble_eq_true rfl, Nat.le_of_ble_eq_true rfl⟩ (by rfl) i6 rfl hl.1 rfl (Nat.le_of_ble_eq_true rfl) dX9_append_6 ⟨Nat.le_of_ble_eq_true rfl, Nat.le_of_ble_eq_true rfl⟩ (fun H locs hG => ?_)
  refine lv_if_ne (tgt := 14) hx hb dX9_append_9 (by decide) (fun c9 => ?_) (fun c9 => ?_)
  · rw [if_neg c9] at h
    refine lv_aload_n hx hb dX9_append_14 rfl (lv_at hl 0 rfl) ?_
    obtain ⟨v15, e15, h⟩ := Option.bind_eq_some_iff.mp h
    refine g_getr hx hb hts inlX9 hown hK hG (by rfl) 0 (by decide) qF_X9_12 e15 dX9_append_15 ?_
    refine lv_iload_n hx hb dX9_append_18 rfl (lv_at hl 1 rfl) ?_
    obtain ⟨u19, i19, h⟩ := Option.bind_eq_some_iff.mp h
    obtain ⟨G19, e19, h⟩ := Option.bind_eq_some_iff.mp h
    refine g_cVv (As := [.int x1]) (rest := []) (n := 1) hx hb hml hown hts hK hlo hG (m_X3_addBytes l dd cT lo G v15 x1 e19) qM_X9_62 qI_yX3_addBytes qS_X3_yX3_addBytes qN_X3 qC_yX3_addBytes (by decide +kernel) ⟨Nat.le_of_ble_eq_true rfl, Nat.le_of_ble_eq_true rfl⟩ (by rfl) i19 rfl hl.1 rfl (Nat.le_of_ble_eq_true rfl) dX9_append_19 ⟨Nat.le_of_ble_eq_true rfl, Nat.le_of_ble_eq_true rfl⟩ (fun H locs hG => ?_)
    refine lv_aload_n hx hb dX9_append_22 rfl (lv_at hl 0 rfl) ?_
    obtain ⟨v23, e23, h⟩ := Option.bind_eq_some_iff.mp h
    refine g_getr hx hb hts inlX9 hown hK hG (by rfl) 0 (by decide) qF_X9_12 e23 dX9_append_23 ?_
    refine lv_iload_n hx hb dX9_append_26 rfl (lv_at hl 2 rfl) ?_
    obtain ⟨u27, i27, h⟩ := Option.bind_eq_some_iff.mp h
    obtain ⟨G27, e27, h⟩ := Option.bind_eq_some_iff.mp h
    refine g_cVv (As := [.int x2]) (rest := []) (n := 1) hx hb hml hown hts hK hlo hG (m_X3_addBytes l dd cT lo G19 v23 x2 e27) qM_X9_62 qI_yX3_addBytes qS_X3_yX3_addBytes qN_X3 qC_yX3_addBytes (by decide +kernel) ⟨Nat.le_of_ble_eq_true rfl, Nat.le_of_ble_eq_true rfl⟩ (by rfl) i27 rfl hl.1 rfl (Nat.le_of_ble_eq_true rfl) dX9_append_27 ⟨Nat.le_of_ble_eq_true rfl, Nat.le_of_ble_eq_true rfl⟩ (fun H locs hG => ?_)
    refine lv_aload_n hx hb dX9_append_30 rfl (lv_at hl 0 rfl) ?_
    obtain ⟨v31, e31, h⟩ := Option.bind_eq_some_iff.mp h
    refine g_getr hx hb hts inlX9 hown hK hG (by rfl) 0 (by decide) qF_X9_12 e31 dX9_append_31 ?_
    refine lv_iload_n hx hb dX9_append_34 rfl (lv_at hl 3 rfl) ?_
    obtain ⟨u35, i35, h⟩ := Option.bind_eq_some_iff.mp h
    obtain ⟨G35, e35, h⟩ := Option.bind_eq_some_iff.mp h
    refine g_cVv (As := [.int x3]) (rest := []) (n := 1) hx hb hml hown hts hK hlo hG (m_X3_addBytes l dd cT lo G27 v31 x3 e35) qM_X9_62 qI_yX3_addBytes qS_X3_yX3_addBytes qN_X3 qC_yX3_addBytes (by decide +kernel) ⟨Nat.le_of_ble_eq_true rfl, Nat.le_of_ble_eq_true rfl⟩ (by rfl) i35 rfl hl.1 rfl (Nat.le_of_ble_eq_true rfl) dX9_append_35 ⟨Nat.le_of_ble_eq_true rfl, Nat.le_of_ble_eq_true rfl⟩ (fun H locs hG => ?_)
    refine lv_aload_n hx hb dX9_append_38 rfl (lv_at hl 0 rfl) ?_
    obtain ⟨v39, e39, h⟩ := Option.bind_eq_some_iff.mp h
    refine g_getr hx hb hts inlX9 hown hK hG (by rfl) 0 (by decide) qF_X9_12 e39 dX9_append_39 ?_
    refine lv_iload hx hb dX9_append_42 (lv_at hl 4 rfl) ?_
    obtain ⟨u44, i44, h⟩ := Option.bind_eq_some_iff.mp h
    obtain ⟨G44, e44, h⟩ := Option.bind_eq_some_iff.mp h
    refine g_cVv (As := [.int x4]) (rest := []) (n := 1) hx hb hml hown hts hK hlo hG (m_X3_addBytes l dd cT lo G35 v39 x4 e44) qM_X9_62 qI_yX3_addBytes qS_X3_yX3_addBytes qN_X3 qC_yX3_addBytes (by decide +kernel) ⟨Nat.le_of_ble_eq_true rfl, Nat.le_of_ble_eq_true rfl⟩ (by rfl) i44 rfl hl.1 rfl (Nat.le_of_ble_eq_true rfl) dX9_append_44 ⟨Nat.le_of_ble_eq_true rfl, Nat.le_of_ble_eq_true rfl⟩ (fun H locs hG => ?_)
    refine lv_aload_n hx hb dX9_append_47 rfl (lv_at hl 0 rfl) ?_
    obtain ⟨v48, e48, h⟩ := Option.bind_eq_some_iff.mp h
    refine g_getr hx hb hts inlX9 hown hK hG (by rfl) 0 (by decide) qF_X9_12 e48 dX9_append_48 ?_
    refine lv_iload hx hb dX9_append_51 (lv_at hl 5 rfl) ?_
    obtain ⟨u53, i53, h⟩ := Option.bind_eq_some_iff.mp h
    obtain ⟨G53, e53, h⟩ := Option.bind_eq_some_iff.mp h
    refine g_cVv (As := [.int x5]) (rest := []) (n := 1) hx hb hml hown hts hK hlo hG (m_X3_addBytes l dd cT lo G44 v48 x5 e53) qM_X9_62 qI_yX3_addBytes qS_X3_yX3_addBytes qN_X3 qC_yX3_addBytes (by decide +kernel) ⟨Nat.le_of_ble_eq_true rfl, Nat.le_of_ble_eq_true rfl⟩ (by rfl) i53 rfl hl.1 rfl (Nat.le_of_ble_eq_true rfl) dX9_append_53 ⟨Nat.le_of_ble_eq_true rfl, Nat.le_of_ble_eq_true rfl⟩ (fun H locs hG => ?_)
    refine lv_aload_n hx hb dX9_append_56 rfl (lv_at hl 0 rfl) ?_
    obtain ⟨v57, e57, h⟩ := Option.bind_eq_some_iff.mp h
    refine g_getr hx hb hts inlX9 hown hK hG (by rfl) 0 (by decide) qF_X9_12 e57 dX9_append_57 ?_
    obtain ⟨v60, e60, h⟩ := Option.bind_eq_some_iff.mp h
    refine g_geti hx hb hts inlX3 hown hK hG (by rfl) 1 (by decide) qF_X9_66 e60 dX9_append_60 ?_
    obtain ⟨rfl, rfl⟩ := Prod.mk.inj (Option.some.inj h)
    exact g_iret hx hb hr hlocks hK hlo hG ⟨rfl, rfl⟩ dX9_append_63
  · rw [if_pos c9] at h
    refine lv_iconst (v := (-1 : Int32)) hx hb dX9_append_12 (by decide) ?_
    obtain ⟨rfl, rfl⟩ := Prod.mk.inj (Option.some.inj h)
    exact g_iret hx hb hr hlocks hK hlo hG ⟨rfl, rfl⟩ dX9_append_13
set_option maxRecDepth 20000 in
set_option maxHeartbeats 4000000 in
theorem m_X9_defect (l : Launch) (dd : va_G) (cT : Nat → ClassId) (lo : Nat → Prop) (G : gH) (a0 : Nat) (x1 : Int32) (x2 : Int32) {rz : Int32} (h : f_X9_defect G a0 x1 x2 = some rz) : Met l yX9_defect (Cond.code yX9_defect cX9_defect 4 (some .int) :: wsL_law) (g_rm 3 66 0 0) (va_Pc [.ref a0, .int x1, .int x2] (g_Pre lo dd cT G)) (va_Qi (g_is rz G) (g_Pre lo dd cT) (g_A lo)) 0 0 (g_A lo) := by
  refine g_start RX9 rfl (by decide) (Nat.le_of_ble_eq_true rfl) ?_
  intro p e s m below meth c hx hb hr hlocks hml hown hnm hts hK hG hlo ls hl
  have hl : lv_has ls 4 [(0, .ref a0), (1, .int x1), (2, .int x2)] := hl
  have hG : g_S lo dd cT s s.heap [] G := hG
  unfold f_X9_defect at h
  refine lv_aload_n hx hb dX9_defect_0 rfl (lv_at hl 0 rfl) ?_
  obtain ⟨v1, e1, h⟩ := Option.bind_eq_some_iff.mp h
  refine g_getr hx hb hts inlX9 hown hK hG (by rfl) 5 (by decide) qF_X9_47 e1 dX9_defect_1 ?_
  refine lv_iload_n hx hb dX9_defect_4 rfl (lv_at hl 1 rfl) ?_
  obtain ⟨u5, i5, h⟩ := Option.bind_eq_some_iff.mp h
  obtain ⟨v5, e5, h⟩ := Option.bind_eq_some_iff.mp h
  refine g_cVi (As := [.int x1]) (rest := []) (n := 1) hx hb hml hown hts hK hlo hG (m_X1_relocatedBlock l dd cT lo G v1 x1 e5) qM_X9_246 qI_yX1_relocatedBlock qS_X1_yX1_relocatedBlock qN_X1 qC_yX1_relocatedBlock (by decide +kernel) ⟨Nat.le_of_ble_eq_true rfl, Nat.le_of_ble_eq_true rfl⟩ (by rfl) i5 rfl hl.1 rfl (Nat.le_of_ble_eq_true rfl) dX9_defect_5 ⟨Nat.le_of_ble_eq_true rfl, Nat.le_of_ble_eq_true rfl⟩ (fun H locs hG => ?_)
  refine lv_istore_n (lv' := [(3, .int v5), (0, .ref a0), (1, .int x1), (2, .int x2)]) hx hb dX9_defect_8 rfl hl (by decide) rfl (fun ls hl => ?_)
  refine lv_iload_n hx hb dX9_defect_9 rfl (lv_at hl 0 rfl) ?_
  refine lv_iconst (v := (-1 : Int32)) hx hb dX9_defect_10 (by decide) ?_
  refine lv_icmp_eq (tgt := 18) hx hb dX9_defect_11 (by decide) (fun c11 => ?_) (fun c11 => ?_)
  · rw [if_pos c11] at h
    refine lv_iload_n hx hb dX9_defect_18 rfl (lv_at hl 0 rfl) ?_
    obtain rfl := Option.some.inj h
    exact g_iret hx hb hr hlocks hK hlo hG ⟨rfl, rfl⟩ dX9_defect_19
  · rw [if_neg c11] at h
    refine lv_iload_n hx hb dX9_defect_14 rfl (lv_at hl 3 rfl) ?_
    refine lv_if_ne (tgt := 20) hx hb dX9_defect_15 (by decide) (fun c15 => ?_) (fun c15 => ?_)
    · rw [if_neg c15] at h
      refine lv_aload_n hx hb dX9_defect_20 rfl (lv_at hl 1 rfl) ?_
      obtain ⟨v21, e21, h⟩ := Option.bind_eq_some_iff.mp h
      refine g_getr hx hb hts inlX9 hown hK hG (by rfl) 5 (by decide) qF_X9_47 e21 dX9_defect_21 ?_
      obtain ⟨v24, e24, h⟩ := Option.bind_eq_some_iff.mp h
      refine g_getr hx hb hts inlX1 hown hK hG (by rfl) 0 (by decide) qF_X9_106 e24 dX9_defect_24 ?_
      refine lv_iload_n hx hb dX9_defect_27 rfl (lv_at hl 0 rfl) ?_
      obtain ⟨u28, i28, h⟩ := Option.bind_eq_some_iff.mp h
      obtain ⟨v28, e28, h⟩ := Option.bind_eq_some_iff.mp h
      refine g_cVi (As := [.int v5]) (rest := []) (n := 1) hx hb hml hown hts hK hlo hG (m_X0_placeOf l dd cT lo G v24 v5 e28) qM_X9_186 qI_yX0_placeOf qS_X0_yX0_placeOf qN_X0 qC_yX0_placeOf (by decide +kernel) ⟨Nat.le_of_ble_eq_true rfl, Nat.le_of_ble_eq_true rfl⟩ (by rfl) i28 rfl hl.1 rfl (Nat.le_of_ble_eq_true rfl) dX9_defect_28 ⟨Nat.le_of_ble_eq_true rfl, Nat.le_of_ble_eq_true rfl⟩ (fun H locs hG => ?_)
      obtain rfl := Option.some.inj h
      exact g_iret hx hb hr hlocks hK hlo hG ⟨rfl, rfl⟩ dX9_defect_31
    · rw [if_pos c15] at h
      refine lv_iload_n hx hb dX9_defect_18 rfl (lv_at hl 0 rfl) ?_
      obtain rfl := Option.some.inj h
      exact g_iret hx hb hr hlocks hK hlo hG ⟨rfl, rfl⟩ dX9_defect_19
set_option maxRecDepth 20000 in
set_option maxHeartbeats 4000000 in
theorem m_X1_reasonAgainstWrite (l : Launch) (dd : va_G) (cT : Nat → ClassId) (lo : Nat → Prop) (G : gH) (a0 : Nat) (x1 : Int32) (x2 : Int32) {rz : Int32} (h : f_X1_reasonAgainstWrite G a0 x1 x2 = some rz) : Met l yX1_reasonAgainstWrite (Cond.code yX1_reasonAgainstWrite cX1_reasonAgainstWrite 3 (some .int) :: wsL_law) (g_rm 4 84 0 0) (va_Pc [.ref a0, .int x1, .int x2] (g_Pre lo dd cT G)) (va_Qi (g_is rz G) (g_Pre lo dd cT) (g_A lo)) 0 0 (g_A lo) := by
  refine g_start RX1 rfl (by decide) (Nat.le_of_ble_eq_true rfl) ?_
  intro p e s m below meth c hx hb hr hlocks hml hown hnm hts hK hG hlo ls hl
  have hl : lv_has ls 3 [(0, .ref a0), (1, .int x1), (2, .int x2)] := hl
  have hG : g_S lo dd cT s s.heap [] G := hG
  unfold f_X1_reasonAgainstWrite at h
  refine lv_aload_n hx hb dX1_reasonAgainstWrite_0 rfl (lv_at hl 0 rfl) ?_
  obtain ⟨v1, e1, h⟩ := Option.bind_eq_some_iff.mp h
  refine g_getr hx hb hts inlX1 hown hK hG (by rfl) 2 (by decide) qF_X1_28 e1 dX1_reasonAgainstWrite_1 ?_
  obtain ⟨u4, i4, h⟩ := Option.bind_eq_some_iff.mp h
  obtain ⟨v4, e4, h⟩ := Option.bind_eq_some_iff.mp h
  refine g_cVi (As := []) (rest := []) (n := 0) hx hb hml hown hts hK hlo hG (m_X5_oneMoreIsTooMany l dd cT lo G v1 e4) qM_X1_180 qI_yX5_oneMoreIsTooMany qS_X5_yX5_oneMoreIsTooMany qN_X5 qC_yX5_oneMoreIsTooMany (by decide +kernel) ⟨Nat.le_of_ble_eq_true rfl, Nat.le_of_ble_eq_true rfl⟩ (by rfl) i4 rfl hl.1 rfl (Nat.le_of_ble_eq_true rfl) dX1_reasonAgainstWrite_4 ⟨Nat.le_of_ble_eq_true rfl, Nat.le_of_ble_eq_true rfl⟩ (fun H locs hG => ?_)
  refine lv_if_eq (tgt := 12) hx hb dX1_reasonAgainstWrite_7 (by decide) (fun c7 => ?_) (fun c7 => ?_)
  · rw [if_pos c7] at h
    refine lv_aload_n hx hb dX1_reasonAgainstWrite_12 rfl (lv_at hl 0 rfl) ?_
    obtain ⟨v13, e13, h⟩ := Option.bind_eq_some_iff.mp h
    refine g_getr hx hb hts inlX1 hown hK hG (by rfl) 0 (by decide) qF_X1_12 e13 dX1_reasonAgainstWrite_13 ?_
    refine lv_iload_n hx hb dX1_reasonAgainstWrite_16 rfl (lv_at hl 2 rfl) ?_
    refine lv_aload_n hx hb dX1_reasonAgainstWrite_17 rfl (lv_at hl 0 rfl) ?_
    obtain ⟨v18, e18, h⟩ := Option.bind_eq_some_iff.mp h
    refine g_getr hx hb hts inlX1 hown hK hG (by rfl) 2 (by decide) qF_X1_28 e18 dX1_reasonAgainstWrite_18 ?_
    refine lv_iload_n hx hb dX1_reasonAgainstWrite_21 rfl (lv_at hl 1 rfl) ?_
    obtain ⟨u22, i22, h⟩ := Option.bind_eq_some_iff.mp h
    obtain ⟨v22, e22, h⟩ := Option.bind_eq_some_iff.mp h
    refine g_cVi (As := [.int x1]) (rest := [.int x2, .ref v13]) (n := 1) hx hb hml hown hts hK hlo hG (m_X5_entriesWith l dd cT lo G v18 x1 e22) qM_X1_184 qI_yX5_entriesWith qS_X5_yX5_entriesWith qN_X5 qC_yX5_entriesWith (by decide +kernel) ⟨Nat.le_of_ble_eq_true rfl, Nat.le_of_ble_eq_true rfl⟩ (by rfl) i22 rfl hl.1 rfl (Nat.le_of_ble_eq_true rfl) dX1_reasonAgainstWrite_22 ⟨Nat.le_of_ble_eq_true rfl, Nat.le_of_ble_eq_true rfl⟩ (fun H locs hG => ?_)
    obtain ⟨v25, e25, h⟩ := Option.bind_eq_some_iff.mp h
    refine g_cNi (As := [.int v22]) (rest := [.int x2, .ref v13]) (n := 1) hx hb hml hown hts hK hlo hG (m_X9_directoryLength l dd cT lo G v22 e25) (List.mem_of_getElem? (i := 22) rfl) qT_yX9_directoryLength qN_X9 qC_yX9_directoryLength (by decide +kernel) ⟨Nat.le_of_ble_eq_true rfl, Nat.le_of_ble_eq_true rfl⟩ rfl hl.1 rfl (Nat.le_of_ble_eq_true rfl) dX1_reasonAgainstWrite_25 ⟨Nat.le_of_ble_eq_true rfl, Nat.le_of_ble_eq_true rfl⟩ (fun H locs hG => ?_)
    refine lv_iadd hx hb dX1_reasonAgainstWrite_28 ?_
    obtain ⟨u29, i29, h⟩ := Option.bind_eq_some_iff.mp h
    obtain ⟨v29, e29, h⟩ := Option.bind_eq_some_iff.mp h
    refine g_cVi (As := [.int (x2 + v25)]) (rest := []) (n := 1) hx hb hml hown hts hK hlo hG (m_X0_hasRoomFor l dd cT lo G v13 (x2 + v25) e29) qM_X1_190 qI_yX0_hasRoomFor qS_X0_yX0_hasRoomFor qN_X0 qC_yX0_hasRoomFor (by decide +kernel) ⟨Nat.le_of_ble_eq_true rfl, Nat.le_of_ble_eq_true rfl⟩ (by rfl) i29 rfl hl.1 rfl (Nat.le_of_ble_eq_true rfl) dX1_reasonAgainstWrite_29 ⟨Nat.le_of_ble_eq_true rfl, Nat.le_of_ble_eq_true rfl⟩ (fun H locs hG => ?_)
    refine lv_if_ne (tgt := 37) hx hb dX1_reasonAgainstWrite_32 (by decide) (fun c32 => ?_) (fun c32 => ?_)
    · rw [if_neg c32] at h
      refine lv_aload_n hx hb dX1_reasonAgainstWrite_37 rfl (lv_at hl 0 rfl) ?_
      obtain ⟨v38, e38, h⟩ := Option.bind_eq_some_iff.mp h
      refine g_getr hx hb hts inlX1 hown hK hG (by rfl) 0 (by decide) qF_X1_12 e38 dX1_reasonAgainstWrite_38 ?_
      refine lv_iload_n hx hb dX1_reasonAgainstWrite_41 rfl (lv_at hl 2 rfl) ?_
      obtain ⟨u42, i42, h⟩ := Option.bind_eq_some_iff.mp h
      obtain ⟨v42, e42, h⟩ := Option.bind_eq_some_iff.mp h
      refine g_cVi (As := [.int x2]) (rest := []) (n := 1) hx hb hml hown hts hK hlo hG (m_X0_canRelocate l dd cT lo G v38 x2 e42) qM_X1_193 qI_yX0_canRelocate qS_X0_yX0_canRelocate qN_X0 qC_yX0_canRelocate (by decide +kernel) ⟨Nat.le_of_ble_eq_true rfl, Nat.le_of_ble_eq_true rfl⟩ (by rfl) i42 rfl hl.1 rfl (Nat.le_of_ble_eq_true rfl) dX1_reasonAgainstWrite_42 ⟨Nat.le_of_ble_eq_true rfl, Nat.le_of_ble_eq_true rfl⟩ (fun H locs hG => ?_)
      refine lv_if_eq (tgt := 52) hx hb dX1_reasonAgainstWrite_45 (by decide) (fun c45 => ?_) (fun c45 => ?_)
      · rw [if_pos c45] at h
        refine lv_iconst (v := (5 : Int32)) hx hb dX1_reasonAgainstWrite_52 (by decide) ?_
        obtain rfl := Option.some.inj h
        exact g_iret hx hb hr hlocks hK hlo hG ⟨rfl, rfl⟩ dX1_reasonAgainstWrite_53
      · rw [if_neg c45] at h
        refine lv_iconst (v := (0 : Int32)) hx hb dX1_reasonAgainstWrite_48 (by decide) ?_
        refine lv_goto (tgt := 53) hx hb dX1_reasonAgainstWrite_49 (by decide) ?_
        obtain rfl := Option.some.inj h
        exact g_iret hx hb hr hlocks hK hlo hG ⟨rfl, rfl⟩ dX1_reasonAgainstWrite_53
    · rw [if_pos c32] at h
      refine lv_iconst (v := (4 : Int32)) hx hb dX1_reasonAgainstWrite_35 (by decide) ?_
      obtain rfl := Option.some.inj h
      exact g_iret hx hb hr hlocks hK hlo hG ⟨rfl, rfl⟩ dX1_reasonAgainstWrite_36
  · rw [if_neg c7] at h
    refine lv_iconst (v := (3 : Int32)) hx hb dX1_reasonAgainstWrite_10 (by decide) ?_
    obtain rfl := Option.some.inj h
    exact g_iret hx hb hr hlocks hK hlo hG ⟨rfl, rfl⟩ dX1_reasonAgainstWrite_11

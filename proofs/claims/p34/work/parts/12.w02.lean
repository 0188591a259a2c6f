/-! What makes cells or throws: by program (wip/whole/tools/wlift.py). -/
set_option maxRecDepth 20000 in
set_option maxHeartbeats 4000000 in
theorem m_X9_session (l : Launch) (hfl : l.stackTraces = false) (dd : va_G) (cT : Nat → ClassId) (lo : Nat → Prop) (G : gH) (a0 : Nat) (x1 : Int32) (x2 : Int32) {KX : String → gH → Prop} {K : Int32 → gH → Prop} (h : w_X9_session G a0 x1 x2 KX K) : vx_Met l yX9_session (Cond.code yX9_session cX9_session 4 (some .int) :: wsL_law) (g_rm 7 104 2 12) (va_Pc [.ref a0, .int x1, .int x2] (g_Pre lo dd cT G)) (va_Qi K (g_Pre lo dd cT) (g_A lo)) (g_XC lo dd cT KX) 2 12 (g_A lo) := by
  refine g_startX RX9 rfl (by decide) (Nat.le_of_ble_eq_true rfl) ?_
  intro p e s m below meth c hx hb hr hlocks hml hnone hown hnm hts hK hG hlo ls hl
  have hl : lv_has ls 4 [(0, .ref a0), (1, .int x1), (2, .int x2)] := hl
  have hG : g_S lo dd cT s s.heap [] G := hG
  unfold w_X9_session at h
  refine lv_iload_n hx hb dX9_session_0 rfl (lv_at hl 1 rfl) ?_
  refine lv_aload_n hx hb dX9_session_1 rfl (lv_at hl 0 rfl) ?_
  obtain ⟨v2, e2, h⟩ := h
  refine g_getr hx hb hts inlX9 hown hK hG (by rfl) 5 (by decide) qF_X9_47 e2 dX9_session_2 ?_
  obtain ⟨v5, e5, h⟩ := h
  refine g_getr hx hb hts inlX1 hown hK hG (by rfl) 2 (by decide) qF_X9_119 e5 dX9_session_5 ?_
  obtain ⟨v8, e8, h⟩ := h
  refine g_geti hx hb hts inlX5 hown hK hG (by rfl) 0 (by decide) qF_X9_123 e8 dX9_session_8 ?_
  refine g_xSv (As := [.int x1, .int v8]) (rest := []) (n := 2) hx hb hml hown hts hK hlo hG (m_X9_checkIndex l hfl dd cT lo G x1 v8 h) qM_X9_179 qT_yX9_checkIndex qN_X9 qC_yX9_checkIndex (by decide +kernel) ⟨Nat.le_of_ble_eq_true rfl, Nat.le_of_ble_eq_true rfl⟩ rfl hl.1 rfl (Nat.le_of_ble_eq_true rfl) dX9_session_11 ⟨Nat.le_of_ble_eq_true rfl, Nat.le_of_ble_eq_true rfl⟩ (fun E ce q9 G1 H locs hKX hG a1 a2 a3 => g_out hlocks hnone hG a1 a2 a3 hKX (Nat.le_of_ble_eq_true rfl) (Nat.le_of_ble_eq_true rfl)) (fun G11 H locs h hG => ?_)
  refine lv_iload_n hx hb dX9_session_14 rfl (lv_at hl 2 rfl) ?_
  refine lv_iconst (v := (0 : Int32)) hx hb dX9_session_15 (by decide) ?_
  refine lv_bipush (v := (8 : Int32)) hx hb dX9_session_16 (by decide) ?_
  refine g_xSv (As := [.int x2, .int (0 : Int32), .int (8 : Int32)]) (rest := []) (n := 3) hx hb hml hown hts hK hlo hG (m_X9_checkRange l hfl dd cT lo G11 x2 (0 : Int32) (8 : Int32) h) qM_X9_70 qT_yX9_checkRange qN_X9 qC_yX9_checkRange (by decide +kernel) ⟨Nat.le_of_ble_eq_true rfl, Nat.le_of_ble_eq_true rfl⟩ rfl hl.1 rfl (Nat.le_of_ble_eq_true rfl) dX9_session_18 ⟨Nat.le_of_ble_eq_true rfl, Nat.le_of_ble_eq_true rfl⟩ (fun E ce q9 G1 H locs hKX hG a1 a2 a3 => g_out hlocks hnone hG a1 a2 a3 hKX (Nat.le_of_ble_eq_true rfl) (Nat.le_of_ble_eq_true rfl)) (fun G18 H locs h hG => ?_)
  refine lv_aload_n hx hb dX9_session_21 rfl (lv_at hl 0 rfl) ?_
  obtain ⟨v22, e22, h⟩ := h
  refine g_getr hx hb hts inlX9 hown hK hG (by rfl) 5 (by decide) qF_X9_47 e22 dX9_session_22 ?_
  obtain ⟨v25, e25, h⟩ := h
  refine g_getr hx hb hts inlX1 hown hK hG (by rfl) 2 (by decide) qF_X9_119 e25 dX9_session_25 ?_
  refine lv_astore_n (lv' := [(3, .ref v25), (0, .ref a0), (1, .int x1), (2, .int x2)]) hx hb dX9_session_28 rfl hl (by decide) rfl (fun ls hl => ?_)
  refine lv_iload_n hx hb dX9_session_29 rfl (lv_at hl 3 rfl) ?_
  by_cases c30_0 : x2 = (0 : Int32)
  · rw [if_pos c30_0] at h
    refine g_swIn (tgt := 76) hx hb dX9_session_30 (0 : Int32) c30_0 (by decide) (by decide) 46 (by decide) (by decide) ?_
    refine lv_aload_n hx hb dX9_session_76 rfl (lv_at hl 0 rfl) ?_
    refine lv_iload_n hx hb dX9_session_77 rfl (lv_at hl 2 rfl) ?_
    obtain ⟨u78, o78, h⟩ := h
    obtain ⟨v78, e78, h⟩ := h
    refine g_cVi (As := [.int x1]) (rest := []) (n := 1) hx hb hml hown hts hK hlo hG (m_X5_stateOf l dd cT lo G18 v25 x1 e78) qM_X9_190 qI_yX5_stateOf qS_X5_yX5_stateOf qN_X5 qC_yX5_stateOf (by decide +kernel) ⟨Nat.le_of_ble_eq_true rfl, Nat.le_of_ble_eq_true rfl⟩ (by rfl) o78 rfl hl.1 rfl (Nat.le_of_ble_eq_true rfl) dX9_session_78 ⟨Nat.le_of_ble_eq_true rfl, Nat.le_of_ble_eq_true rfl⟩ (fun H locs hG => ?_)
    refine W.widen (k := 2) (n := 12) (Nat.le_of_ble_eq_true rfl) (Nat.le_of_ble_eq_true rfl) ?_
    exact vx_ret (g_iret hx hb hr hlocks hK hlo hG h dX9_session_81)
  rw [if_neg c30_0] at h
  by_cases c30_1 : x2 = (1 : Int32)
  · rw [if_pos c30_1] at h
    refine g_swIn (tgt := 82) hx hb dX9_session_30 (1 : Int32) c30_1 (by decide) (by decide) 52 (by decide) (by decide) ?_
    refine lv_aload_n hx hb dX9_session_82 rfl (lv_at hl 0 rfl) ?_
    refine lv_iload_n hx hb dX9_session_83 rfl (lv_at hl 2 rfl) ?_
    obtain ⟨u84, o84, h⟩ := h
    obtain ⟨v84, e84, h⟩ := h
    refine g_cVi (As := [.int x1]) (rest := []) (n := 1) hx hb hml hown hts hK hlo hG (m_X5_firstOf l dd cT lo G18 v25 x1 e84) qM_X9_193 qI_yX5_firstOf qS_X5_yX5_firstOf qN_X5 qC_yX5_firstOf (by decide +kernel) ⟨Nat.le_of_ble_eq_true rfl, Nat.le_of_ble_eq_true rfl⟩ (by rfl) o84 rfl hl.1 rfl (Nat.le_of_ble_eq_true rfl) dX9_session_84 ⟨Nat.le_of_ble_eq_true rfl, Nat.le_of_ble_eq_true rfl⟩ (fun H locs hG => ?_)
    refine W.widen (k := 2) (n := 12) (Nat.le_of_ble_eq_true rfl) (Nat.le_of_ble_eq_true rfl) ?_
    exact vx_ret (g_iret hx hb hr hlocks hK hlo hG h dX9_session_87)
  rw [if_neg c30_1] at h
  by_cases c30_2 : x2 = (2 : Int32)
  · rw [if_pos c30_2] at h
    refine g_swIn (tgt := 88) hx hb dX9_session_30 (2 : Int32) c30_2 (by decide) (by decide) 58 (by decide) (by decide) ?_
    refine lv_aload_n hx hb dX9_session_88 rfl (lv_at hl 1 rfl) ?_
    obtain ⟨v89, e89, h⟩ := h
    refine g_getr hx hb hts inlX9 hown hK hG (by rfl) 5 (by decide) qF_X9_47 e89 dX9_session_89 ?_
    obtain ⟨v92, e92, h⟩ := h
    refine g_getr hx hb hts inlX1 hown hK hG (by rfl) 0 (by decide) qF_X9_106 e92 dX9_session_92 ?_
    refine lv_iload_n hx hb dX9_session_95 rfl (lv_at hl 2 rfl) ?_
    obtain ⟨u96, o96, h⟩ := h
    obtain ⟨v96, e96, h⟩ := h
    refine g_cVi (As := [.int x1]) (rest := []) (n := 1) hx hb hml hown hts hK hlo hG (m_X0_mainBlocksOf l dd cT lo G18 v92 x1 e96) qM_X9_196 qI_yX0_mainBlocksOf qS_X0_yX0_mainBlocksOf qN_X0 qC_yX0_mainBlocksOf (by decide +kernel) ⟨Nat.le_of_ble_eq_true rfl, Nat.le_of_ble_eq_true rfl⟩ (by rfl) o96 rfl hl.1 rfl (Nat.le_of_ble_eq_true rfl) dX9_session_96 ⟨Nat.le_of_ble_eq_true rfl, Nat.le_of_ble_eq_true rfl⟩ (fun H locs hG => ?_)
    refine W.widen (k := 2) (n := 12) (Nat.le_of_ble_eq_true rfl) (Nat.le_of_ble_eq_true rfl) ?_
    exact vx_ret (g_iret hx hb hr hlocks hK hlo hG h dX9_session_99)
  rw [if_neg c30_2] at h
  by_cases c30_3 : x2 = (3 : Int32)
  · rw [if_pos c30_3] at h
    refine g_swIn (tgt := 100) hx hb dX9_session_30 (3 : Int32) c30_3 (by decide) (by decide) 70 (by decide) (by decide) ?_
    refine lv_aload_n hx hb dX9_session_100 rfl (lv_at hl 0 rfl) ?_
    refine lv_iload_n hx hb dX9_session_101 rfl (lv_at hl 2 rfl) ?_
    obtain ⟨u102, o102, h⟩ := h
    obtain ⟨v102, e102, h⟩ := h
    refine g_cVi (As := [.int x1]) (rest := []) (n := 1) hx hb hml hown hts hK hlo hG (m_X5_entriesOf l dd cT lo G18 v25 x1 e102) qM_X9_199 qI_yX5_entriesOf qS_X5_yX5_entriesOf qN_X5 qC_yX5_entriesOf (by decide +kernel) ⟨Nat.le_of_ble_eq_true rfl, Nat.le_of_ble_eq_true rfl⟩ (by rfl) o102 rfl hl.1 rfl (Nat.le_of_ble_eq_true rfl) dX9_session_102 ⟨Nat.le_of_ble_eq_true rfl, Nat.le_of_ble_eq_true rfl⟩ (fun H locs hG => ?_)
    refine W.widen (k := 2) (n := 12) (Nat.le_of_ble_eq_true rfl) (Nat.le_of_ble_eq_true rfl) ?_
    exact vx_ret (g_iret hx hb hr hlocks hK hlo hG h dX9_session_105)
  rw [if_neg c30_3] at h
  by_cases c30_4 : x2 = (4 : Int32)
  · rw [if_pos c30_4] at h
    refine g_swIn (tgt := 106) hx hb dX9_session_30 (4 : Int32) c30_4 (by decide) (by decide) 76 (by decide) (by decide) ?_
    refine lv_aload_n hx hb dX9_session_106 rfl (lv_at hl 0 rfl) ?_
    refine lv_iload_n hx hb dX9_session_107 rfl (lv_at hl 2 rfl) ?_
    obtain ⟨u108, o108, h⟩ := h
    obtain ⟨v108, e108, h⟩ := h
    refine g_cVi (As := [.int x1]) (rest := []) (n := 1) hx hb hml hown hts hK hlo hG (m_X5_directoryOf l dd cT lo G18 v25 x1 e108) qM_X9_202 qI_yX5_directoryOf qS_X5_yX5_directoryOf qN_X5 qC_yX5_directoryOf (by decide +kernel) ⟨Nat.le_of_ble_eq_true rfl, Nat.le_of_ble_eq_true rfl⟩ (by rfl) o108 rfl hl.1 rfl (Nat.le_of_ble_eq_true rfl) dX9_session_108 ⟨Nat.le_of_ble_eq_true rfl, Nat.le_of_ble_eq_true rfl⟩ (fun H locs hG => ?_)
    refine W.widen (k := 2) (n := 12) (Nat.le_of_ble_eq_true rfl) (Nat.le_of_ble_eq_true rfl) ?_
    exact vx_ret (g_iret hx hb hr hlocks hK hlo hG h dX9_session_111)
  rw [if_neg c30_4] at h
  by_cases c30_5 : x2 = (5 : Int32)
  · rw [if_pos c30_5] at h
    refine g_swIn (tgt := 112) hx hb dX9_session_30 (5 : Int32) c30_5 (by decide) (by decide) 82 (by decide) (by decide) ?_
    refine lv_aload_n hx hb dX9_session_112 rfl (lv_at hl 1 rfl) ?_
    obtain ⟨v113, e113, h⟩ := h
    refine g_getr hx hb hts inlX9 hown hK hG (by rfl) 5 (by decide) qF_X9_47 e113 dX9_session_113 ?_
    obtain ⟨v116, e116, h⟩ := h
    refine g_getr hx hb hts inlX1 hown hK hG (by rfl) 0 (by decide) qF_X9_106 e116 dX9_session_116 ?_
    refine lv_aload_n hx hb dX9_session_119 rfl (lv_at hl 0 rfl) ?_
    refine lv_iload_n hx hb dX9_session_120 rfl (lv_at hl 2 rfl) ?_
    obtain ⟨u121, o121, h⟩ := h
    obtain ⟨v121, e121, h⟩ := h
    refine g_cVi (As := [.int x1]) (rest := [.ref v116]) (n := 1) hx hb hml hown hts hK hlo hG (m_X5_directoryOf l dd cT lo G18 v25 x1 e121) qM_X9_202 qI_yX5_directoryOf qS_X5_yX5_directoryOf qN_X5 qC_yX5_directoryOf (by decide +kernel) ⟨Nat.le_of_ble_eq_true rfl, Nat.le_of_ble_eq_true rfl⟩ (by rfl) o121 rfl hl.1 rfl (Nat.le_of_ble_eq_true rfl) dX9_session_121 ⟨Nat.le_of_ble_eq_true rfl, Nat.le_of_ble_eq_true rfl⟩ (fun H locs hG => ?_)
    refine lv_aload_n hx hb dX9_session_124 rfl (lv_at hl 0 rfl) ?_
    refine lv_iload_n hx hb dX9_session_125 rfl (lv_at hl 2 rfl) ?_
    obtain ⟨u126, o126, h⟩ := h
    obtain ⟨v126, e126, h⟩ := h
    refine g_cVi (As := [.int x1]) (rest := [.int v121, .ref v116]) (n := 1) hx hb hml hown hts hK hlo hG (m_X5_directoryLengthOf l dd cT lo G18 v25 x1 e126) qM_X9_205 qI_yX5_directoryLengthOf qS_X5_yX5_directoryLengthOf qN_X5 qC_yX5_directoryLengthOf (by decide +kernel) ⟨Nat.le_of_ble_eq_true rfl, Nat.le_of_ble_eq_true rfl⟩ (by rfl) o126 rfl hl.1 rfl (Nat.le_of_ble_eq_true rfl) dX9_session_126 ⟨Nat.le_of_ble_eq_true rfl, Nat.le_of_ble_eq_true rfl⟩ (fun H locs hG => ?_)
    obtain ⟨u129, o129, h⟩ := h
    obtain ⟨v129, e129, h⟩ := h
    refine g_cVi (As := [.int v121, .int v126]) (rest := []) (n := 2) hx hb hml hown hts hK hlo hG (m_X0_canRead l dd cT lo G18 v116 v121 v126 e129) qM_X9_208 qI_yX0_canRead qS_X0_yX0_canRead qN_X0 qC_yX0_canRead (by decide +kernel) ⟨Nat.le_of_ble_eq_true rfl, Nat.le_of_ble_eq_true rfl⟩ (by rfl) o129 rfl hl.1 rfl (Nat.le_of_ble_eq_true rfl) dX9_session_129 ⟨Nat.le_of_ble_eq_true rfl, Nat.le_of_ble_eq_true rfl⟩ (fun H locs hG => ?_)
    obtain ⟨v132, e132, h⟩ := h
    refine g_cSi (As := [.int v129]) (rest := []) (n := 1) hx hb hml hown hts hK hlo hG (m_X9_oneIf l dd cT lo G18 v129 e132) qM_X9_153 qT_yX9_oneIf qN_X9 qC_yX9_oneIf (by decide +kernel) ⟨Nat.le_of_ble_eq_true rfl, Nat.le_of_ble_eq_true rfl⟩ rfl hl.1 rfl (Nat.le_of_ble_eq_true rfl) dX9_session_132 ⟨Nat.le_of_ble_eq_true rfl, Nat.le_of_ble_eq_true rfl⟩ (fun H locs hG => ?_)
    refine W.widen (k := 2) (n := 12) (Nat.le_of_ble_eq_true rfl) (Nat.le_of_ble_eq_true rfl) ?_
    exact vx_ret (g_iret hx hb hr hlocks hK hlo hG h dX9_session_135)
  rw [if_neg c30_5] at h
  by_cases c30_6 : x2 = (6 : Int32)
  · rw [if_pos c30_6] at h
    refine g_swIn (tgt := 136) hx hb dX9_session_30 (6 : Int32) c30_6 (by decide) (by decide) 106 (by decide) (by decide) ?_
    refine lv_aload_n hx hb dX9_session_136 rfl (lv_at hl 0 rfl) ?_
    refine lv_iload_n hx hb dX9_session_137 rfl (lv_at hl 2 rfl) ?_
    obtain ⟨u138, o138, h⟩ := h
    obtain ⟨v138, e138, h⟩ := h
    refine g_cVi (As := [.int x1]) (rest := []) (n := 1) hx hb hml hown hts hK hlo hG (m_X5_linkOf l dd cT lo G18 v25 x1 e138) qM_X9_212 qI_yX5_linkOf qS_X5_yX5_linkOf qN_X5 qC_yX5_linkOf (by decide +kernel) ⟨Nat.le_of_ble_eq_true rfl, Nat.le_of_ble_eq_true rfl⟩ (by rfl) o138 rfl hl.1 rfl (Nat.le_of_ble_eq_true rfl) dX9_session_138 ⟨Nat.le_of_ble_eq_true rfl, Nat.le_of_ble_eq_true rfl⟩ (fun H locs hG => ?_)
    refine W.widen (k := 2) (n := 12) (Nat.le_of_ble_eq_true rfl) (Nat.le_of_ble_eq_true rfl) ?_
    exact vx_ret (g_iret hx hb hr hlocks hK hlo hG h dX9_session_141)
  rw [if_neg c30_6] at h
  by_cases c30_7 : x2 = (7 : Int32)
  · rw [if_pos c30_7] at h
    refine g_swIn (tgt := 142) hx hb dX9_session_30 (7 : Int32) c30_7 (by decide) (by decide) 112 (by decide) (by decide) ?_
    refine lv_aload_n hx hb dX9_session_142 rfl (lv_at hl 1 rfl) ?_
    obtain ⟨v143, e143, h⟩ := h
    refine g_getr hx hb hts inlX9 hown hK hG (by rfl) 5 (by decide) qF_X9_47 e143 dX9_session_143 ?_
    obtain ⟨v146, e146, h⟩ := h
    refine g_getr hx hb hts inlX1 hown hK hG (by rfl) 6 (by decide) qF_X9_136 e146 dX9_session_146 ?_
    refine lv_aload_n hx hb dX9_session_149 rfl (lv_at hl 1 rfl) ?_
    obtain ⟨v150, e150, h⟩ := h
    refine g_getr hx hb hts inlX9 hown hK hG (by rfl) 5 (by decide) qF_X9_47 e150 dX9_session_150 ?_
    obtain ⟨u153, o153, h⟩ := h
    obtain ⟨q153, e153, h⟩ := h
    refine g_cVr (As := [.ref v150]) (rest := []) (n := 1) hx hb hml hown hts hK hlo hG (m_X8_lookAt l dd cT lo G18 v146 v150 e153) qM_X9_139 qI_yX8_lookAt qS_X8_yX8_lookAt qN_X8 qC_yX8_lookAt (by decide +kernel) ⟨Nat.le_of_ble_eq_true rfl, Nat.le_of_ble_eq_true rfl⟩ (by rfl) o153 rfl hl.1 rfl (Nat.le_of_ble_eq_true rfl) dX9_session_153 ⟨Nat.le_of_ble_eq_true rfl, Nat.le_of_ble_eq_true rfl⟩ (fun H locs hG => ?_)
    refine lv_iload_n hx hb dX9_session_156 rfl (lv_at hl 2 rfl) ?_
    obtain ⟨u157, o157, h⟩ := h
    obtain ⟨v157, e157, h⟩ := h
    refine g_cVi (As := [.int x1]) (rest := []) (n := 1) hx hb hml hown hts hK hlo hG (m_X8_isReached l dd cT lo q153.1 q153.2 x1 e157) qM_X9_215 qI_yX8_isReached qS_X8_yX8_isReached qN_X8 qC_yX8_isReached (by decide +kernel) ⟨Nat.le_of_ble_eq_true rfl, Nat.le_of_ble_eq_true rfl⟩ (by rfl) o157 rfl hl.1 rfl (Nat.le_of_ble_eq_true rfl) dX9_session_157 ⟨Nat.le_of_ble_eq_true rfl, Nat.le_of_ble_eq_true rfl⟩ (fun H locs hG => ?_)
    obtain ⟨v160, e160, h⟩ := h
    refine g_cSi (As := [.int v157]) (rest := []) (n := 1) hx hb hml hown hts hK hlo hG (m_X9_oneIf l dd cT lo q153.1 v157 e160) qM_X9_153 qT_yX9_oneIf qN_X9 qC_yX9_oneIf (by decide +kernel) ⟨Nat.le_of_ble_eq_true rfl, Nat.le_of_ble_eq_true rfl⟩ rfl hl.1 rfl (Nat.le_of_ble_eq_true rfl) dX9_session_160 ⟨Nat.le_of_ble_eq_true rfl, Nat.le_of_ble_eq_true rfl⟩ (fun H locs hG => ?_)
    refine W.widen (k := 2) (n := 12) (Nat.le_of_ble_eq_true rfl) (Nat.le_of_ble_eq_true rfl) ?_
    exact vx_ret (g_iret hx hb hr hlocks hK hlo hG h dX9_session_163)
  rw [if_neg c30_7] at h
  have z30 : x2.toInt < 0 ∨ 7 < x2.toInt := by
    have y0 : ¬ x2.toInt = 0 := fun w => c30_0 (Int32.toInt_inj.mp (by rw [w]; rfl))
    have y1 : ¬ x2.toInt = 1 := fun w => c30_1 (Int32.toInt_inj.mp (by rw [w]; rfl))
    have y2 : ¬ x2.toInt = 2 := fun w => c30_2 (Int32.toInt_inj.mp (by rw [w]; rfl))
    have y3 : ¬ x2.toInt = 3 := fun w => c30_3 (Int32.toInt_inj.mp (by rw [w]; rfl))
    have y4 : ¬ x2.toInt = 4 := fun w => c30_4 (Int32.toInt_inj.mp (by rw [w]; rfl))
    have y5 : ¬ x2.toInt = 5 := fun w => c30_5 (Int32.toInt_inj.mp (by rw [w]; rfl))
    have y6 : ¬ x2.toInt = 6 := fun w => c30_6 (Int32.toInt_inj.mp (by rw [w]; rfl))
    have y7 : ¬ x2.toInt = 7 := fun w => c30_7 (Int32.toInt_inj.mp (by rw [w]; rfl))
    omega
  refine lv_tableOut (tgt := 164) hx hb dX9_session_30 z30 (by decide) ?_
  refine lv_aload_n hx hb dX9_session_164 rfl (lv_at hl 1 rfl) ?_
  obtain ⟨v165, e165, h⟩ := h
  refine g_getr hx hb hts inlX9 hown hK hG (by rfl) 5 (by decide) qF_X9_47 e165 dX9_session_165 ?_
  obtain ⟨v168, e168, h⟩ := h
  refine g_getr hx hb hts inlX1 hown hK hG (by rfl) 0 (by decide) qF_X9_106 e168 dX9_session_168 ?_
  refine lv_iload_n hx hb dX9_session_171 rfl (lv_at hl 2 rfl) ?_
  obtain ⟨u172, o172, h⟩ := h
  obtain ⟨v172, e172, h⟩ := h
  refine g_cVi (As := [.int x1]) (rest := []) (n := 1) hx hb hml hown hts hK hlo hG (m_X0_spareBlocksOf l dd cT lo G18 v168 x1 e172) qM_X9_218 qI_yX0_spareBlocksOf qS_X0_yX0_spareBlocksOf qN_X0 qC_yX0_spareBlocksOf (by decide +kernel) ⟨Nat.le_of_ble_eq_true rfl, Nat.le_of_ble_eq_true rfl⟩ (by rfl) o172 rfl hl.1 rfl (Nat.le_of_ble_eq_true rfl) dX9_session_172 ⟨Nat.le_of_ble_eq_true rfl, Nat.le_of_ble_eq_true rfl⟩ (fun H locs hG => ?_)
  refine W.widen (k := 2) (n := 12) (Nat.le_of_ble_eq_true rfl) (Nat.le_of_ble_eq_true rfl) ?_
  exact vx_ret (g_iret hx hb hr hlocks hK hlo hG h dX9_session_175)
set_option maxRecDepth 20000 in
set_option maxHeartbeats 4000000 in
theorem m_X9_entry (l : Launch) (hfl : l.stackTraces = false) (dd : va_G) (cT : Nat → ClassId) (lo : Nat → Prop) (G : gH) (a0 : Nat) (x1 : Int32) (x2 : Int32) (x3 : Int32) {KX : String → gH → Prop} {K : Int32 → gH → Prop} (h : w_X9_entry G a0 x1 x2 x3 KX K) : vx_Met l yX9_entry (Cond.code yX9_entry cX9_entry 6 (some .int) :: wsL_law) (g_rm 7 104 2 12) (va_Pc [.ref a0, .int x1, .int x2, .int x3] (g_Pre lo dd cT G)) (va_Qi K (g_Pre lo dd cT) (g_A lo)) (g_XC lo dd cT KX) 2 12 (g_A lo) := by
  refine g_startX RX9 rfl (by decide) (Nat.le_of_ble_eq_true rfl) ?_
  intro p e s m below meth c hx hb hr hlocks hml hnone hown hnm hts hK hG hlo ls hl
  have hl : lv_has ls 6 [(0, .ref a0), (1, .int x1), (2, .int x2), (3, .int x3)] := hl
  have hG : g_S lo dd cT s s.heap [] G := hG
  unfold w_X9_entry at h
  refine lv_iload_n hx hb dX9_entry_0 rfl (lv_at hl 1 rfl) ?_
  refine lv_aload_n hx hb dX9_entry_1 rfl (lv_at hl 0 rfl) ?_
  obtain ⟨v2, e2, h⟩ := h
  refine g_getr hx hb hts inlX9 hown hK hG (by rfl) 5 (by decide) qF_X9_47 e2 dX9_entry_2 ?_
  obtain ⟨v5, e5, h⟩ := h
  refine g_getr hx hb hts inlX1 hown hK hG (by rfl) 2 (by decide) qF_X9_119 e5 dX9_entry_5 ?_
  obtain ⟨v8, e8, h⟩ := h
  refine g_geti hx hb hts inlX5 hown hK hG (by rfl) 0 (by decide) qF_X9_123 e8 dX9_entry_8 ?_
  refine g_xSv (As := [.int x1, .int v8]) (rest := []) (n := 2) hx hb hml hown hts hK hlo hG (m_X9_checkIndex l hfl dd cT lo G x1 v8 h) qM_X9_179 qT_yX9_checkIndex qN_X9 qC_yX9_checkIndex (by decide +kernel) ⟨Nat.le_of_ble_eq_true rfl, Nat.le_of_ble_eq_true rfl⟩ rfl hl.1 rfl (Nat.le_of_ble_eq_true rfl) dX9_entry_11 ⟨Nat.le_of_ble_eq_true rfl, Nat.le_of_ble_eq_true rfl⟩ (fun E ce q9 G1 H locs hKX hG a1 a2 a3 => g_out hlocks hnone hG a1 a2 a3 hKX (Nat.le_of_ble_eq_true rfl) (Nat.le_of_ble_eq_true rfl)) (fun G11 H locs h hG => ?_)
  refine lv_iload_n hx hb dX9_entry_14 rfl (lv_at hl 3 rfl) ?_
  refine lv_iconst (v := (0 : Int32)) hx hb dX9_entry_15 (by decide) ?_
  refine lv_iconst (v := (4 : Int32)) hx hb dX9_entry_16 (by decide) ?_
  refine g_xSv (As := [.int x3, .int (0 : Int32), .int (4 : Int32)]) (rest := []) (n := 3) hx hb hml hown hts hK hlo hG (m_X9_checkRange l hfl dd cT lo G11 x3 (0 : Int32) (4 : Int32) h) qM_X9_70 qT_yX9_checkRange qN_X9 qC_yX9_checkRange (by decide +kernel) ⟨Nat.le_of_ble_eq_true rfl, Nat.le_of_ble_eq_true rfl⟩ rfl hl.1 rfl (Nat.le_of_ble_eq_true rfl) dX9_entry_17 ⟨Nat.le_of_ble_eq_true rfl, Nat.le_of_ble_eq_true rfl⟩ (fun E ce q9 G1 H locs hKX hG a1 a2 a3 => g_out hlocks hnone hG a1 a2 a3 hKX (Nat.le_of_ble_eq_true rfl) (Nat.le_of_ble_eq_true rfl)) (fun G17 H locs h hG => ?_)
  refine lv_aload_n hx hb dX9_entry_20 rfl (lv_at hl 0 rfl) ?_
  obtain ⟨v21, e21, h⟩ := h
  refine g_getr hx hb hts inlX9 hown hK hG (by rfl) 5 (by decide) qF_X9_47 e21 dX9_entry_21 ?_
  obtain ⟨v24, e24, h⟩ := h
  refine g_getr hx hb hts inlX1 hown hK hG (by rfl) 2 (by decide) qF_X9_119 e24 dX9_entry_24 ?_
  refine lv_iload_n hx hb dX9_entry_27 rfl (lv_at hl 1 rfl) ?_
  refine lv_iload_n hx hb dX9_entry_28 rfl (lv_at hl 2 rfl) ?_
  obtain ⟨u29, o29, h⟩ := h
  obtain ⟨v29, e29, h⟩ := h
  refine g_cVi (As := [.int x1, .int x2]) (rest := []) (n := 2) hx hb hml hown hts hK hlo hG (m_X5_fileAt l dd cT lo G17 v24 x1 x2 e29) qM_X9_221 qI_yX5_fileAt qS_X5_yX5_fileAt qN_X5 qC_yX5_fileAt (by decide +kernel) ⟨Nat.le_of_ble_eq_true rfl, Nat.le_of_ble_eq_true rfl⟩ (by rfl) o29 rfl hl.1 rfl (Nat.le_of_ble_eq_true rfl) dX9_entry_29 ⟨Nat.le_of_ble_eq_true rfl, Nat.le_of_ble_eq_true rfl⟩ (fun H locs hG => ?_)
  refine lv_istore (lv' := [(4, .int v29), (0, .ref a0), (1, .int x1), (2, .int x2), (3, .int x3)]) hx hb dX9_entry_32 hl (by decide) rfl (fun ls hl => ?_)
  refine lv_iload hx hb dX9_entry_34 (lv_at hl 0 rfl) ?_
  refine lv_iconst (v := (-1 : Int32)) hx hb dX9_entry_36 (by decide) ?_
  refine lv_icmp_ne (tgt := 42) hx hb dX9_entry_37 (by decide) (fun c37 => ?_) (fun c37 => ?_)
  · rw [if_neg c37] at h
    refine lv_aload_n hx hb dX9_entry_42 rfl (lv_at hl 1 rfl) ?_
    obtain ⟨v43, e43, h⟩ := h
    refine g_getr hx hb hts inlX9 hown hK hG (by rfl) 5 (by decide) qF_X9_47 e43 dX9_entry_43 ?_
    obtain ⟨v46, e46, h⟩ := h
    refine g_getr hx hb hts inlX1 hown hK hG (by rfl) 2 (by decide) qF_X9_119 e46 dX9_entry_46 ?_
    refine lv_iload_n hx hb dX9_entry_49 rfl (lv_at hl 2 rfl) ?_
    refine lv_iload hx hb dX9_entry_50 (lv_at hl 0 rfl) ?_
    obtain ⟨u52, o52, h⟩ := h
    obtain ⟨v52, e52, h⟩ := h
    refine g_cVi (As := [.int x1, .int v29]) (rest := []) (n := 2) hx hb hml hown hts hK hlo hG (m_X5_versionFor l dd cT lo G17 v46 x1 v29 e52) qM_X9_224 qI_yX5_versionFor qS_X5_yX5_versionFor qN_X5 qC_yX5_versionFor (by decide +kernel) ⟨Nat.le_of_ble_eq_true rfl, Nat.le_of_ble_eq_true rfl⟩ (by rfl) o52 rfl hl.1 rfl (Nat.le_of_ble_eq_true rfl) dX9_entry_52 ⟨Nat.le_of_ble_eq_true rfl, Nat.le_of_ble_eq_true rfl⟩ (fun H locs hG => ?_)
    refine lv_istore (lv' := [(5, .int v52), (4, .int v29), (0, .ref a0), (1, .int x1), (2, .int x2), (3, .int x3)]) hx hb dX9_entry_55 hl (by decide) rfl (fun ls hl => ?_)
    refine lv_iload_n hx hb dX9_entry_57 rfl (lv_at hl 5 rfl) ?_
    by_cases c58_0 : x3 = (0 : Int32)
    · rw [if_pos c58_0] at h
      refine g_swIn (tgt := 88) hx hb dX9_entry_58 (0 : Int32) c58_0 (by decide) (by decide) 30 (by decide) (by decide) ?_
      refine lv_iload hx hb dX9_entry_88 (lv_at hl 1 rfl) ?_
      refine W.widen (k := 2) (n := 12) (Nat.le_of_ble_eq_true rfl) (Nat.le_of_ble_eq_true rfl) ?_
      exact vx_ret (g_iret hx hb hr hlocks hK hlo hG h dX9_entry_90)
    rw [if_neg c58_0] at h
    by_cases c58_1 : x3 = (1 : Int32)
    · rw [if_pos c58_1] at h
      refine g_swIn (tgt := 91) hx hb dX9_entry_58 (1 : Int32) c58_1 (by decide) (by decide) 33 (by decide) (by decide) ?_
      refine lv_iload hx hb dX9_entry_91 (lv_at hl 0 rfl) ?_
      refine W.widen (k := 2) (n := 12) (Nat.le_of_ble_eq_true rfl) (Nat.le_of_ble_eq_true rfl) ?_
      exact vx_ret (g_iret hx hb hr hlocks hK hlo hG h dX9_entry_93)
    rw [if_neg c58_1] at h
    by_cases c58_2 : x3 = (2 : Int32)
    · rw [if_pos c58_2] at h
      refine g_swIn (tgt := 94) hx hb dX9_entry_58 (2 : Int32) c58_2 (by decide) (by decide) 36 (by decide) (by decide) ?_
      refine lv_aload_n hx hb dX9_entry_94 rfl (lv_at hl 2 rfl) ?_
      obtain ⟨v95, e95, h⟩ := h
      refine g_getr hx hb hts inlX9 hown hK hG (by rfl) 5 (by decide) qF_X9_47 e95 dX9_entry_95 ?_
      obtain ⟨v98, e98, h⟩ := h
      refine g_getr hx hb hts inlX1 hown hK hG (by rfl) 1 (by decide) qF_X9_162 e98 dX9_entry_98 ?_
      refine lv_iload hx hb dX9_entry_101 (lv_at hl 0 rfl) ?_
      obtain ⟨u103, o103, h⟩ := h
      obtain ⟨v103, e103, h⟩ := h
      refine g_cVi (As := [.int v52]) (rest := []) (n := 1) hx hb hml hown hts hK hlo hG (m_X7_firstOf l dd cT lo G17 v98 v52 e103) qM_X9_227 qI_yX7_firstOf qS_X7_yX7_firstOf qN_X7 qC_yX7_firstOf (by decide +kernel) ⟨Nat.le_of_ble_eq_true rfl, Nat.le_of_ble_eq_true rfl⟩ (by rfl) o103 rfl hl.1 rfl (Nat.le_of_ble_eq_true rfl) dX9_entry_103 ⟨Nat.le_of_ble_eq_true rfl, Nat.le_of_ble_eq_true rfl⟩ (fun H locs hG => ?_)
      refine W.widen (k := 2) (n := 12) (Nat.le_of_ble_eq_true rfl) (Nat.le_of_ble_eq_true rfl) ?_
      exact vx_ret (g_iret hx hb hr hlocks hK hlo hG h dX9_entry_106)
    rw [if_neg c58_2] at h
    by_cases c58_3 : x3 = (3 : Int32)
    · rw [if_pos c58_3] at h
      refine g_swIn (tgt := 107) hx hb dX9_entry_58 (3 : Int32) c58_3 (by decide) (by decide) 49 (by decide) (by decide) ?_
      refine lv_aload_n hx hb dX9_entry_107 rfl (lv_at hl 2 rfl) ?_
      obtain ⟨v108, e108, h⟩ := h
      refine g_getr hx hb hts inlX9 hown hK hG (by rfl) 5 (by decide) qF_X9_47 e108 dX9_entry_108 ?_
      obtain ⟨v111, e111, h⟩ := h
      refine g_getr hx hb hts inlX1 hown hK hG (by rfl) 1 (by decide) qF_X9_162 e111 dX9_entry_111 ?_
      refine lv_iload hx hb dX9_entry_114 (lv_at hl 0 rfl) ?_
      obtain ⟨u116, o116, h⟩ := h
      obtain ⟨v116, e116, h⟩ := h
      refine g_cVi (As := [.int v52]) (rest := []) (n := 1) hx hb hml hown hts hK hlo hG (m_X7_lengthOf l dd cT lo G17 v111 v52 e116) qM_X9_228 qI_yX7_lengthOf qS_X7_yX7_lengthOf qN_X7 qC_yX7_lengthOf (by decide +kernel) ⟨Nat.le_of_ble_eq_true rfl, Nat.le_of_ble_eq_true rfl⟩ (by rfl) o116 rfl hl.1 rfl (Nat.le_of_ble_eq_true rfl) dX9_entry_116 ⟨Nat.le_of_ble_eq_true rfl, Nat.le_of_ble_eq_true rfl⟩ (fun H locs hG => ?_)
      refine W.widen (k := 2) (n := 12) (Nat.le_of_ble_eq_true rfl) (Nat.le_of_ble_eq_true rfl) ?_
      exact vx_ret (g_iret hx hb hr hlocks hK hlo hG h dX9_entry_119)
    rw [if_neg c58_3] at h
    have z58 : x3.toInt < 0 ∨ 3 < x3.toInt := by
      have y0 : ¬ x3.toInt = 0 := fun w => c58_0 (Int32.toInt_inj.mp (by rw [w]; rfl))
      have y1 : ¬ x3.toInt = 1 := fun w => c58_1 (Int32.toInt_inj.mp (by rw [w]; rfl))
      have y2 : ¬ x3.toInt = 2 := fun w => c58_2 (Int32.toInt_inj.mp (by rw [w]; rfl))
      have y3 : ¬ x3.toInt = 3 := fun w => c58_3 (Int32.toInt_inj.mp (by rw [w]; rfl))
      omega
    refine lv_tableOut (tgt := 120) hx hb dX9_entry_58 z58 (by decide) ?_
    refine lv_aload_n hx hb dX9_entry_120 rfl (lv_at hl 2 rfl) ?_
    obtain ⟨v121, e121, h⟩ := h
    refine g_getr hx hb hts inlX9 hown hK hG (by rfl) 5 (by decide) qF_X9_47 e121 dX9_entry_121 ?_
    obtain ⟨v124, e124, h⟩ := h
    refine g_getr hx hb hts inlX1 hown hK hG (by rfl) 1 (by decide) qF_X9_162 e124 dX9_entry_124 ?_
    refine lv_iload hx hb dX9_entry_127 (lv_at hl 0 rfl) ?_
    obtain ⟨u129, o129, h⟩ := h
    obtain ⟨v129, e129, h⟩ := h
    refine g_cVi (As := [.int v52]) (rest := []) (n := 1) hx hb hml hown hts hK hlo hG (m_X7_tagOf l dd cT lo G17 v124 v52 e129) qM_X9_231 qI_yX7_tagOf qS_X7_yX7_tagOf qN_X7 qC_yX7_tagOf (by decide +kernel) ⟨Nat.le_of_ble_eq_true rfl, Nat.le_of_ble_eq_true rfl⟩ (by rfl) o129 rfl hl.1 rfl (Nat.le_of_ble_eq_true rfl) dX9_entry_129 ⟨Nat.le_of_ble_eq_true rfl, Nat.le_of_ble_eq_true rfl⟩ (fun H locs hG => ?_)
    refine W.widen (k := 2) (n := 12) (Nat.le_of_ble_eq_true rfl) (Nat.le_of_ble_eq_true rfl) ?_
    exact vx_ret (g_iret hx hb hr hlocks hK hlo hG h dX9_entry_132)
  · rw [if_pos c37] at h
    refine lv_iconst (v := (-1 : Int32)) hx hb dX9_entry_40 (by decide) ?_
    refine W.widen (k := 2) (n := 12) (Nat.le_of_ble_eq_true rfl) (Nat.le_of_ble_eq_true rfl) ?_
    exact vx_ret (g_iret hx hb hr hlocks hK hlo hG h dX9_entry_41)
set_option maxRecDepth 20000 in
set_option maxHeartbeats 4000000 in
theorem m_X9_file (l : Launch) (hfl : l.stackTraces = false) (dd : va_G) (cT : Nat → ClassId) (lo : Nat → Prop) (G : gH) (a0 : Nat) (x1 : Int32) (x2 : Int32) {KX : String → gH → Prop} {K : Int32 → gH → Prop} (h : w_X9_file G a0 x1 x2 KX K) : vx_Met l yX9_file (Cond.code yX9_file cX9_file 5 (some .int) :: wsL_law) (g_rm 7 104 2 12) (va_Pc [.ref a0, .int x1, .int x2] (g_Pre lo dd cT G)) (va_Qi K (g_Pre lo dd cT) (g_A lo)) (g_XC lo dd cT KX) 2 12 (g_A lo) := by
  refine g_startX RX9 rfl (by decide) (Nat.le_of_ble_eq_true rfl) ?_
  intro p e s m below meth c hx hb hr hlocks hml hnone hown hnm hts hK hG hlo ls hl
  have hl : lv_has ls 5 [(0, .ref a0), (1, .int x1), (2, .int x2)] := hl
  have hG : g_S lo dd cT s s.heap [] G := hG
  unfold w_X9_file at h
  refine lv_iload_n hx hb dX9_file_0 rfl (lv_at hl 1 rfl) ?_
  refine lv_aload_n hx hb dX9_file_1 rfl (lv_at hl 0 rfl) ?_
  obtain ⟨v2, e2, h⟩ := h
  refine g_getr hx hb hts inlX9 hown hK hG (by rfl) 5 (by decide) qF_X9_47 e2 dX9_file_2 ?_
  obtain ⟨v5, e5, h⟩ := h
  refine g_geti hx hb hts inlX1 hown hK hG (by rfl) 3 (by decide) qF_X9_116 e5 dX9_file_5 ?_
  refine g_xSv (As := [.int x1, .int v5]) (rest := []) (n := 2) hx hb hml hown hts hK hlo hG (m_X9_checkIndex l hfl dd cT lo G x1 v5 h) qM_X9_179 qT_yX9_checkIndex qN_X9 qC_yX9_checkIndex (by decide +kernel) ⟨Nat.le_of_ble_eq_true rfl, Nat.le_of_ble_eq_true rfl⟩ rfl hl.1 rfl (Nat.le_of_ble_eq_true rfl) dX9_file_8 ⟨Nat.le_of_ble_eq_true rfl, Nat.le_of_ble_eq_true rfl⟩ (fun E ce q9 G1 H locs hKX hG a1 a2 a3 => g_out hlocks hnone hG a1 a2 a3 hKX (Nat.le_of_ble_eq_true rfl) (Nat.le_of_ble_eq_true rfl)) (fun G8 H locs h hG => ?_)
  refine lv_iload_n hx hb dX9_file_11 rfl (lv_at hl 2 rfl) ?_
  refine lv_iconst (v := (0 : Int32)) hx hb dX9_file_12 (by decide) ?_
  refine lv_bipush (v := (6 : Int32)) hx hb dX9_file_13 (by decide) ?_
  refine g_xSv (As := [.int x2, .int (0 : Int32), .int (6 : Int32)]) (rest := []) (n := 3) hx hb hml hown hts hK hlo hG (m_X9_checkRange l hfl dd cT lo G8 x2 (0 : Int32) (6 : Int32) h) qM_X9_70 qT_yX9_checkRange qN_X9 qC_yX9_checkRange (by decide +kernel) ⟨Nat.le_of_ble_eq_true rfl, Nat.le_of_ble_eq_true rfl⟩ rfl hl.1 rfl (Nat.le_of_ble_eq_true rfl) dX9_file_15 ⟨Nat.le_of_ble_eq_true rfl, Nat.le_of_ble_eq_true rfl⟩ (fun E ce q9 G1 H locs hKX hG a1 a2 a3 => g_out hlocks hnone hG a1 a2 a3 hKX (Nat.le_of_ble_eq_true rfl) (Nat.le_of_ble_eq_true rfl)) (fun G15 H locs h hG => ?_)
  refine lv_aload_n hx hb dX9_file_18 rfl (lv_at hl 0 rfl) ?_
  obtain ⟨v19, e19, h⟩ := h
  refine g_getr hx hb hts inlX9 hown hK hG (by rfl) 5 (by decide) qF_X9_47 e19 dX9_file_19 ?_
  obtain ⟨v22, e22, h⟩ := h
  refine g_getr hx hb hts inlX1 hown hK hG (by rfl) 6 (by decide) qF_X9_136 e22 dX9_file_22 ?_
  refine lv_aload_n hx hb dX9_file_25 rfl (lv_at hl 0 rfl) ?_
  obtain ⟨v26, e26, h⟩ := h
  refine g_getr hx hb hts inlX9 hown hK hG (by rfl) 5 (by decide) qF_X9_47 e26 dX9_file_26 ?_
  obtain ⟨u29, o29, h⟩ := h
  obtain ⟨q29, e29, h⟩ := h
  refine g_cVr (As := [.ref v26]) (rest := []) (n := 1) hx hb hml hown hts hK hlo hG (m_X8_lookAt l dd cT lo G15 v22 v26 e29) qM_X9_139 qI_yX8_lookAt qS_X8_yX8_lookAt qN_X8 qC_yX8_lookAt (by decide +kernel) ⟨Nat.le_of_ble_eq_true rfl, Nat.le_of_ble_eq_true rfl⟩ (by rfl) o29 rfl hl.1 rfl (Nat.le_of_ble_eq_true rfl) dX9_file_29 ⟨Nat.le_of_ble_eq_true rfl, Nat.le_of_ble_eq_true rfl⟩ (fun H locs hG => ?_)
  refine lv_astore_n (lv' := [(3, .ref q29.2), (0, .ref a0), (1, .int x1), (2, .int x2)]) hx hb dX9_file_32 rfl hl (by decide) rfl (fun ls hl => ?_)
  refine lv_aload_n hx hb dX9_file_33 rfl (lv_at hl 0 rfl) ?_
  refine lv_iload_n hx hb dX9_file_34 rfl (lv_at hl 2 rfl) ?_
  obtain ⟨u35, o35, h⟩ := h
  obtain ⟨v35, e35, h⟩ := h
  refine g_cVi (As := [.int x1]) (rest := []) (n := 1) hx hb hml hown hts hK hlo hG (m_X8_versionOf l dd cT lo q29.1 q29.2 x1 e35) qM_X9_234 qI_yX8_versionOf qS_X8_yX8_versionOf qN_X8 qC_yX8_versionOf (by decide +kernel) ⟨Nat.le_of_ble_eq_true rfl, Nat.le_of_ble_eq_true rfl⟩ (by rfl) o35 rfl hl.1 rfl (Nat.le_of_ble_eq_true rfl) dX9_file_35 ⟨Nat.le_of_ble_eq_true rfl, Nat.le_of_ble_eq_true rfl⟩ (fun H locs hG => ?_)
  refine lv_istore (lv' := [(4, .int v35), (3, .ref q29.2), (0, .ref a0), (1, .int x1), (2, .int x2)]) hx hb dX9_file_38 hl (by decide) rfl (fun ls hl => ?_)
  refine lv_iload_n hx hb dX9_file_40 rfl (lv_at hl 4 rfl) ?_
  by_cases c41_0 : x2 = (0 : Int32)
  · rw [if_pos c41_0] at h
    refine g_swIn (tgt := 80) hx hb dX9_file_41 (0 : Int32) c41_0 (by decide) (by decide) 39 (by decide) (by decide) ?_
    refine lv_iload hx hb dX9_file_80 (lv_at hl 0 rfl) ?_
    refine lv_iconst (v := (-1 : Int32)) hx hb dX9_file_82 (by decide) ?_
    refine lv_icmp_eq (tgt := 90) hx hb dX9_file_83 (by decide) (fun c83 => ?_) (fun c83 => ?_)
    · rw [if_pos c83] at h
      refine lv_iconst (v := (0 : Int32)) hx hb dX9_file_90 (by decide) ?_
      obtain ⟨v91, e91, h⟩ := h
      refine g_cSi (As := [.int (0 : Int32)]) (rest := []) (n := 1) hx hb hml hown hts hK hlo hG (m_X9_oneIf l dd cT lo q29.1 (0 : Int32) e91) qM_X9_153 qT_yX9_oneIf qN_X9 qC_yX9_oneIf (by decide +kernel) ⟨Nat.le_of_ble_eq_true rfl, Nat.le_of_ble_eq_true rfl⟩ rfl hl.1 rfl (Nat.le_of_ble_eq_true rfl) dX9_file_91 ⟨Nat.le_of_ble_eq_true rfl, Nat.le_of_ble_eq_true rfl⟩ (fun H locs hG => ?_)
      refine W.widen (k := 2) (n := 12) (Nat.le_of_ble_eq_true rfl) (Nat.le_of_ble_eq_true rfl) ?_
      exact vx_ret (g_iret hx hb hr hlocks hK hlo hG h dX9_file_94)
    · rw [if_neg c83] at h
      refine lv_iconst (v := (1 : Int32)) hx hb dX9_file_86 (by decide) ?_
      refine lv_goto (tgt := 91) hx hb dX9_file_87 (by decide) ?_
      obtain ⟨v91, e91, h⟩ := h
      refine g_cSi (As := [.int (1 : Int32)]) (rest := []) (n := 1) hx hb hml hown hts hK hlo hG (m_X9_oneIf l dd cT lo q29.1 (1 : Int32) e91) qM_X9_153 qT_yX9_oneIf qN_X9 qC_yX9_oneIf (by decide +kernel) ⟨Nat.le_of_ble_eq_true rfl, Nat.le_of_ble_eq_true rfl⟩ rfl hl.1 rfl (Nat.le_of_ble_eq_true rfl) dX9_file_91 ⟨Nat.le_of_ble_eq_true rfl, Nat.le_of_ble_eq_true rfl⟩ (fun H locs hG => ?_)
      refine W.widen (k := 2) (n := 12) (Nat.le_of_ble_eq_true rfl) (Nat.le_of_ble_eq_true rfl) ?_
      exact vx_ret (g_iret hx hb hr hlocks hK hlo hG h dX9_file_94)
  rw [if_neg c41_0] at h
  by_cases c41_1 : x2 = (1 : Int32)
  · rw [if_pos c41_1] at h
    refine g_swIn (tgt := 95) hx hb dX9_file_41 (1 : Int32) c41_1 (by decide) (by decide) 54 (by decide) (by decide) ?_
    refine lv_aload_n hx hb dX9_file_95 rfl (lv_at hl 1 rfl) ?_
    refine lv_iload_n hx hb dX9_file_96 rfl (lv_at hl 3 rfl) ?_
    obtain ⟨u97, o97, h⟩ := h
    obtain ⟨v97, e97, h⟩ := h
    refine g_cVi (As := [.int x1]) (rest := []) (n := 1) hx hb hml hown hts hK hlo hG (m_X8_isReadable l dd cT lo q29.1 q29.2 x1 e97) qM_X9_237 qI_yX8_isReadable qS_X8_yX8_isReadable qN_X8 qC_yX8_isReadable (by decide +kernel) ⟨Nat.le_of_ble_eq_true rfl, Nat.le_of_ble_eq_true rfl⟩ (by rfl) o97 rfl hl.1 rfl (Nat.le_of_ble_eq_true rfl) dX9_file_97 ⟨Nat.le_of_ble_eq_true rfl, Nat.le_of_ble_eq_true rfl⟩ (fun H locs hG => ?_)
    obtain ⟨v100, e100, h⟩ := h
    refine g_cSi (As := [.int v97]) (rest := []) (n := 1) hx hb hml hown hts hK hlo hG (m_X9_oneIf l dd cT lo q29.1 v97 e100) qM_X9_153 qT_yX9_oneIf qN_X9 qC_yX9_oneIf (by decide +kernel) ⟨Nat.le_of_ble_eq_true rfl, Nat.le_of_ble_eq_true rfl⟩ rfl hl.1 rfl (Nat.le_of_ble_eq_true rfl) dX9_file_100 ⟨Nat.le_of_ble_eq_true rfl, Nat.le_of_ble_eq_true rfl⟩ (fun H locs hG => ?_)
    refine W.widen (k := 2) (n := 12) (Nat.le_of_ble_eq_true rfl) (Nat.le_of_ble_eq_true rfl) ?_
    exact vx_ret (g_iret hx hb hr hlocks hK hlo hG h dX9_file_103)
  rw [if_neg c41_1] at h
  by_cases c41_2 : x2 = (2 : Int32)
  · rw [if_pos c41_2] at h
    refine g_swIn (tgt := 104) hx hb dX9_file_41 (2 : Int32) c41_2 (by decide) (by decide) 63 (by decide) (by decide) ?_
    refine lv_iload hx hb dX9_file_104 (lv_at hl 0 rfl) ?_
    refine W.widen (k := 2) (n := 12) (Nat.le_of_ble_eq_true rfl) (Nat.le_of_ble_eq_true rfl) ?_
    exact vx_ret (g_iret hx hb hr hlocks hK hlo hG h dX9_file_106)
  rw [if_neg c41_2] at h
  by_cases c41_3 : x2 = (3 : Int32)
  · rw [if_pos c41_3] at h
    refine g_swIn (tgt := 107) hx hb dX9_file_41 (3 : Int32) c41_3 (by decide) (by decide) 66 (by decide) (by decide) ?_
    refine lv_aload_n hx hb dX9_file_107 rfl (lv_at hl 2 rfl) ?_
    obtain ⟨v108, e108, h⟩ := h
    refine g_getr hx hb hts inlX9 hown hK hG (by rfl) 5 (by decide) qF_X9_47 e108 dX9_file_108 ?_
    obtain ⟨v111, e111, h⟩ := h
    refine g_getr hx hb hts inlX1 hown hK hG (by rfl) 1 (by decide) qF_X9_162 e111 dX9_file_111 ?_
    refine lv_iload hx hb dX9_file_114 (lv_at hl 0 rfl) ?_
    obtain ⟨u116, o116, h⟩ := h
    obtain ⟨v116, e116, h⟩ := h
    refine g_cVi (As := [.int v35]) (rest := []) (n := 1) hx hb hml hown hts hK hlo hG (m_X7_lengthOf l dd cT lo q29.1 v111 v35 e116) qM_X9_228 qI_yX7_lengthOf qS_X7_yX7_lengthOf qN_X7 qC_yX7_lengthOf (by decide +kernel) ⟨Nat.le_of_ble_eq_true rfl, Nat.le_of_ble_eq_true rfl⟩ (by rfl) o116 rfl hl.1 rfl (Nat.le_of_ble_eq_true rfl) dX9_file_116 ⟨Nat.le_of_ble_eq_true rfl, Nat.le_of_ble_eq_true rfl⟩ (fun H locs hG => ?_)
    refine W.widen (k := 2) (n := 12) (Nat.le_of_ble_eq_true rfl) (Nat.le_of_ble_eq_true rfl) ?_
    exact vx_ret (g_iret hx hb hr hlocks hK hlo hG h dX9_file_119)
  rw [if_neg c41_3] at h
  by_cases c41_4 : x2 = (4 : Int32)
  · rw [if_pos c41_4] at h
    refine g_swIn (tgt := 120) hx hb dX9_file_41 (4 : Int32) c41_4 (by decide) (by decide) 79 (by decide) (by decide) ?_
    refine lv_aload_n hx hb dX9_file_120 rfl (lv_at hl 2 rfl) ?_
    obtain ⟨v121, e121, h⟩ := h
    refine g_getr hx hb hts inlX9 hown hK hG (by rfl) 5 (by decide) qF_X9_47 e121 dX9_file_121 ?_
    obtain ⟨v124, e124, h⟩ := h
    refine g_getr hx hb hts inlX1 hown hK hG (by rfl) 1 (by decide) qF_X9_162 e124 dX9_file_124 ?_
    refine lv_iload hx hb dX9_file_127 (lv_at hl 0 rfl) ?_
    obtain ⟨u129, o129, h⟩ := h
    obtain ⟨v129, e129, h⟩ := h
    refine g_cVi (As := [.int v35]) (rest := []) (n := 1) hx hb hml hown hts hK hlo hG (m_X7_tagOf l dd cT lo q29.1 v124 v35 e129) qM_X9_231 qI_yX7_tagOf qS_X7_yX7_tagOf qN_X7 qC_yX7_tagOf (by decide +kernel) ⟨Nat.le_of_ble_eq_true rfl, Nat.le_of_ble_eq_true rfl⟩ (by rfl) o129 rfl hl.1 rfl (Nat.le_of_ble_eq_true rfl) dX9_file_129 ⟨Nat.le_of_ble_eq_true rfl, Nat.le_of_ble_eq_true rfl⟩ (fun H locs hG => ?_)
    refine W.widen (k := 2) (n := 12) (Nat.le_of_ble_eq_true rfl) (Nat.le_of_ble_eq_true rfl) ?_
    exact vx_ret (g_iret hx hb hr hlocks hK hlo hG h dX9_file_132)
  rw [if_neg c41_4] at h
  by_cases c41_5 : x2 = (5 : Int32)
  · rw [if_pos c41_5] at h
    refine g_swIn (tgt := 133) hx hb dX9_file_41 (5 : Int32) c41_5 (by decide) (by decide) 92 (by decide) (by decide) ?_
    refine lv_aload_n hx hb dX9_file_133 rfl (lv_at hl 1 rfl) ?_
    refine lv_iload_n hx hb dX9_file_134 rfl (lv_at hl 3 rfl) ?_
    obtain ⟨u135, o135, h⟩ := h
    obtain ⟨v135, e135, h⟩ := h
    refine g_cVi (As := [.int x1]) (rest := []) (n := 1) hx hb hml hown hts hK hlo hG (m_X8_sessionOf l dd cT lo q29.1 q29.2 x1 e135) qM_X9_240 qI_yX8_sessionOf qS_X8_yX8_sessionOf qN_X8 qC_yX8_sessionOf (by decide +kernel) ⟨Nat.le_of_ble_eq_true rfl, Nat.le_of_ble_eq_true rfl⟩ (by rfl) o135 rfl hl.1 rfl (Nat.le_of_ble_eq_true rfl) dX9_file_135 ⟨Nat.le_of_ble_eq_true rfl, Nat.le_of_ble_eq_true rfl⟩ (fun H locs hG => ?_)
    refine W.widen (k := 2) (n := 12) (Nat.le_of_ble_eq_true rfl) (Nat.le_of_ble_eq_true rfl) ?_
    exact vx_ret (g_iret hx hb hr hlocks hK hlo hG h dX9_file_138)
  rw [if_neg c41_5] at h
  have z41 : x2.toInt < 0 ∨ 5 < x2.toInt := by
    have y0 : ¬ x2.toInt = 0 := fun w => c41_0 (Int32.toInt_inj.mp (by rw [w]; rfl))
    have y1 : ¬ x2.toInt = 1 := fun w => c41_1 (Int32.toInt_inj.mp (by rw [w]; rfl))
    have y2 : ¬ x2.toInt = 2 := fun w => c41_2 (Int32.toInt_inj.mp (by rw [w]; rfl))
    have y3 : ¬ x2.toInt = 3 := fun w => c41_3 (Int32.toInt_inj.mp (by rw [w]; rfl))
    have y4 : ¬ x2.toInt = 4 := fun w => c41_4 (Int32.toInt_inj.mp (by rw [w]; rfl))
    have y5 : ¬ x2.toInt = 5 := fun w => c41_5 (Int32.toInt_inj.mp (by rw [w]; rfl))
    omega
  refine lv_tableOut (tgt := 139) hx hb dX9_file_41 z41 (by decide) ?_
  refine lv_aload_n hx hb dX9_file_139 rfl (lv_at hl 2 rfl) ?_
  obtain ⟨v140, e140, h⟩ := h
  refine g_getr hx hb hts inlX9 hown hK hG (by rfl) 5 (by decide) qF_X9_47 e140 dX9_file_140 ?_
  obtain ⟨v143, e143, h⟩ := h
  refine g_getr hx hb hts inlX1 hown hK hG (by rfl) 1 (by decide) qF_X9_162 e143 dX9_file_143 ?_
  refine lv_iload_n hx hb dX9_file_146 rfl (lv_at hl 3 rfl) ?_
  obtain ⟨u147, o147, h⟩ := h
  obtain ⟨v147, e147, h⟩ := h
  refine g_cVi (As := [.int x1]) (rest := []) (n := 1) hx hb hml hown hts hK hlo hG (m_X7_countOf l dd cT lo q29.1 v143 x1 e147) qM_X9_243 qI_yX7_countOf qS_X7_yX7_countOf qN_X7 qC_yX7_countOf (by decide +kernel) ⟨Nat.le_of_ble_eq_true rfl, Nat.le_of_ble_eq_true rfl⟩ (by rfl) o147 rfl hl.1 rfl (Nat.le_of_ble_eq_true rfl) dX9_file_147 ⟨Nat.le_of_ble_eq_true rfl, Nat.le_of_ble_eq_true rfl⟩ (fun H locs hG => ?_)
  refine W.widen (k := 2) (n := 12) (Nat.le_of_ble_eq_true rfl) (Nat.le_of_ble_eq_true rfl) ?_
  exact vx_ret (g_iret hx hb hr hlocks hK hlo hG h dX9_file_150)
set_option maxRecDepth 20000 in
set_option maxHeartbeats 4000000 in
theorem m_X9_where (l : Launch) (hfl : l.stackTraces = false) (dd : va_G) (cT : Nat → ClassId) (lo : Nat → Prop) (G : gH) (a0 : Nat) (x1 : Int32) (x2 : Int32) {KX : String → gH → Prop} {K : Int32 → gH → Prop} (h : w_X9_where G a0 x1 x2 KX K) : vx_Met l yX9_where (Cond.code yX9_where cX9_where 4 (some .int) :: wsL_law) (g_rm 7 103 1 6) (va_Pc [.ref a0, .int x1, .int x2] (g_Pre lo dd cT G)) (va_Qi K (g_Pre lo dd cT) (g_A lo)) (g_XC lo dd cT KX) 1 6 (g_A lo) := by
  refine g_startX RX9 rfl (by decide) (Nat.le_of_ble_eq_true rfl) ?_
  intro p e s m below meth c hx hb hr hlocks hml hnone hown hnm hts hK hG hlo ls hl
  have hl : lv_has ls 4 [(0, .ref a0), (1, .int x1), (2, .int x2)] := hl
  have hG : g_S lo dd cT s s.heap [] G := hG
  unfold w_X9_where at h
  refine lv_iload_n hx hb dX9_where_0 rfl (lv_at hl 1 rfl) ?_
  refine lv_aload_n hx hb dX9_where_1 rfl (lv_at hl 0 rfl) ?_
  obtain ⟨v2, e2, h⟩ := h
  refine g_getr hx hb hts inlX9 hown hK hG (by rfl) 5 (by decide) qF_X9_47 e2 dX9_where_2 ?_
  obtain ⟨v5, e5, h⟩ := h
  refine g_geti hx hb hts inlX1 hown hK hG (by rfl) 3 (by decide) qF_X9_116 e5 dX9_where_5 ?_
  refine g_xSv (As := [.int x1, .int v5]) (rest := []) (n := 2) hx hb hml hown hts hK hlo hG (m_X9_checkIndex l hfl dd cT lo G x1 v5 h) qM_X9_179 qT_yX9_checkIndex qN_X9 qC_yX9_checkIndex (by decide +kernel) ⟨Nat.le_of_ble_eq_true rfl, Nat.le_of_ble_eq_true rfl⟩ rfl hl.1 rfl (Nat.le_of_ble_eq_true rfl) dX9_where_8 ⟨Nat.le_of_ble_eq_true rfl, Nat.le_of_ble_eq_true rfl⟩ (fun E ce q9 G1 H locs hKX hG a1 a2 a3 => g_out hlocks hnone hG a1 a2 a3 hKX (Nat.le_of_ble_eq_true rfl) (Nat.le_of_ble_eq_true rfl)) (fun G8 H locs h hG => ?_)
  refine lv_aload_n hx hb dX9_where_11 rfl (lv_at hl 0 rfl) ?_
  obtain ⟨v12, e12, h⟩ := h
  refine g_getr hx hb hts inlX9 hown hK hG (by rfl) 5 (by decide) qF_X9_47 e12 dX9_where_12 ?_
  obtain ⟨v15, e15, h⟩ := h
  refine g_getr hx hb hts inlX1 hown hK hG (by rfl) 6 (by decide) qF_X9_136 e15 dX9_where_15 ?_
  refine lv_aload_n hx hb dX9_where_18 rfl (lv_at hl 0 rfl) ?_
  obtain ⟨v19, e19, h⟩ := h
  refine g_getr hx hb hts inlX9 hown hK hG (by rfl) 5 (by decide) qF_X9_47 e19 dX9_where_19 ?_
  obtain ⟨u22, o22, h⟩ := h
  obtain ⟨q22, e22, h⟩ := h
  refine g_cVr (As := [.ref v19]) (rest := []) (n := 1) hx hb hml hown hts hK hlo hG (m_X8_lookAt l dd cT lo G8 v15 v19 e22) qM_X9_139 qI_yX8_lookAt qS_X8_yX8_lookAt qN_X8 qC_yX8_lookAt (by decide +kernel) ⟨Nat.le_of_ble_eq_true rfl, Nat.le_of_ble_eq_true rfl⟩ (by rfl) o22 rfl hl.1 rfl (Nat.le_of_ble_eq_true rfl) dX9_where_22 ⟨Nat.le_of_ble_eq_true rfl, Nat.le_of_ble_eq_true rfl⟩ (fun H locs hG => ?_)
  refine lv_iload_n hx hb dX9_where_25 rfl (lv_at hl 1 rfl) ?_
  obtain ⟨u26, o26, h⟩ := h
  obtain ⟨v26, e26, h⟩ := h
  refine g_cVi (As := [.int x1]) (rest := []) (n := 1) hx hb hml hown hts hK hlo hG (m_X8_versionOf l dd cT lo q22.1 q22.2 x1 e26) qM_X9_234 qI_yX8_versionOf qS_X8_yX8_versionOf qN_X8 qC_yX8_versionOf (by decide +kernel) ⟨Nat.le_of_ble_eq_true rfl, Nat.le_of_ble_eq_true rfl⟩ (by rfl) o26 rfl hl.1 rfl (Nat.le_of_ble_eq_true rfl) dX9_where_26 ⟨Nat.le_of_ble_eq_true rfl, Nat.le_of_ble_eq_true rfl⟩ (fun H locs hG => ?_)
  refine lv_istore_n (lv' := [(3, .int v26), (0, .ref a0), (1, .int x1), (2, .int x2)]) hx hb dX9_where_29 rfl hl (by decide) rfl (fun ls hl => ?_)
  refine lv_iload_n hx hb dX9_where_30 rfl (lv_at hl 3 rfl) ?_
  refine lv_if_lt (tgt := 49) hx hb dX9_where_31 (by decide) (fun c31 => ?_) (fun c31 => ?_)
  · rw [if_pos c31] at h
    refine lv_iconst (v := (-1 : Int32)) hx hb dX9_where_49 (by decide) ?_
    refine W.widen (k := 1) (n := 6) (Nat.le_of_ble_eq_true rfl) (Nat.le_of_ble_eq_true rfl) ?_
    exact vx_ret (g_iret hx hb hr hlocks hK hlo hG h dX9_where_50)
  · rw [if_neg c31] at h
    refine lv_iload_n hx hb dX9_where_34 rfl (lv_at hl 3 rfl) ?_
    refine lv_aload_n hx hb dX9_where_35 rfl (lv_at hl 1 rfl) ?_
    obtain ⟨v36, e36, h⟩ := h
    refine g_getr hx hb hts inlX9 hown hK hG (by rfl) 5 (by decide) qF_X9_47 e36 dX9_where_36 ?_
    obtain ⟨v39, e39, h⟩ := h
    refine g_getr hx hb hts inlX1 hown hK hG (by rfl) 1 (by decide) qF_X9_162 e39 dX9_where_39 ?_
    refine lv_iload_n hx hb dX9_where_42 rfl (lv_at hl 0 rfl) ?_
    obtain ⟨u43, o43, h⟩ := h
    obtain ⟨v43, e43, h⟩ := h
    refine g_cVi (As := [.int v26]) (rest := [.int x2]) (n := 1) hx hb hml hown hts hK hlo hG (m_X7_lengthOf l dd cT lo q22.1 v39 v26 e43) qM_X9_228 qI_yX7_lengthOf qS_X7_yX7_lengthOf qN_X7 qC_yX7_lengthOf (by decide +kernel) ⟨Nat.le_of_ble_eq_true rfl, Nat.le_of_ble_eq_true rfl⟩ (by rfl) o43 rfl hl.1 rfl (Nat.le_of_ble_eq_true rfl) dX9_where_43 ⟨Nat.le_of_ble_eq_true rfl, Nat.le_of_ble_eq_true rfl⟩ (fun H locs hG => ?_)
    refine lv_icmp_lt (tgt := 51) hx hb dX9_where_46 (by decide) (fun c46 => ?_) (fun c46 => ?_)
    · rw [if_pos c46] at h
      refine lv_aload_n hx hb dX9_where_51 rfl (lv_at hl 1 rfl) ?_
      obtain ⟨v52, e52, h⟩ := h
      refine g_getr hx hb hts inlX9 hown hK hG (by rfl) 5 (by decide) qF_X9_47 e52 dX9_where_52 ?_
      obtain ⟨v55, e55, h⟩ := h
      refine g_getr hx hb hts inlX1 hown hK hG (by rfl) 0 (by decide) qF_X9_106 e55 dX9_where_55 ?_
      refine lv_aload_n hx hb dX9_where_58 rfl (lv_at hl 1 rfl) ?_
      obtain ⟨v59, e59, h⟩ := h
      refine g_getr hx hb hts inlX9 hown hK hG (by rfl) 5 (by decide) qF_X9_47 e59 dX9_where_59 ?_
      obtain ⟨v62, e62, h⟩ := h
      refine g_getr hx hb hts inlX1 hown hK hG (by rfl) 1 (by decide) qF_X9_162 e62 dX9_where_62 ?_
      refine lv_iload_n hx hb dX9_where_65 rfl (lv_at hl 0 rfl) ?_
      obtain ⟨u66, o66, h⟩ := h
      obtain ⟨v66, e66, h⟩ := h
      refine g_cVi (As := [.int v26]) (rest := [.ref v55]) (n := 1) hx hb hml hown hts hK hlo hG (m_X7_firstOf l dd cT lo q22.1 v62 v26 e66) qM_X9_227 qI_yX7_firstOf qS_X7_yX7_firstOf qN_X7 qC_yX7_firstOf (by decide +kernel) ⟨Nat.le_of_ble_eq_true rfl, Nat.le_of_ble_eq_true rfl⟩ (by rfl) o66 rfl hl.1 rfl (Nat.le_of_ble_eq_true rfl) dX9_where_66 ⟨Nat.le_of_ble_eq_true rfl, Nat.le_of_ble_eq_true rfl⟩ (fun H locs hG => ?_)
      refine lv_iload_n hx hb dX9_where_69 rfl (lv_at hl 3 rfl) ?_
      refine lv_iadd hx hb dX9_where_70 ?_
      obtain ⟨u71, o71, h⟩ := h
      obtain ⟨v71, e71, h⟩ := h
      refine g_cVi (As := [.int (v66 + x2)]) (rest := []) (n := 1) hx hb hml hown hts hK hlo hG (m_X0_placeOf l dd cT lo q22.1 v55 (v66 + x2) e71) qM_X9_186 qI_yX0_placeOf qS_X0_yX0_placeOf qN_X0 qC_yX0_placeOf (by decide +kernel) ⟨Nat.le_of_ble_eq_true rfl, Nat.le_of_ble_eq_true rfl⟩ (by rfl) o71 rfl hl.1 rfl (Nat.le_of_ble_eq_true rfl) dX9_where_71 ⟨Nat.le_of_ble_eq_true rfl, Nat.le_of_ble_eq_true rfl⟩ (fun H locs hG => ?_)
      refine W.widen (k := 1) (n := 6) (Nat.le_of_ble_eq_true rfl) (Nat.le_of_ble_eq_true rfl) ?_
      exact vx_ret (g_iret hx hb hr hlocks hK hlo hG h dX9_where_74)
    · rw [if_neg c46] at h
      refine lv_iconst (v := (-1 : Int32)) hx hb dX9_where_49 (by decide) ?_
      refine W.widen (k := 1) (n := 6) (Nat.le_of_ble_eq_true rfl) (Nat.le_of_ble_eq_true rfl) ?_
      exact vx_ret (g_iret hx hb hr hlocks hK hlo hG h dX9_where_50)
set_option maxRecDepth 20000 in
set_option maxHeartbeats 4000000 in
theorem m_X9_whyNotWrite (l : Launch) (hfl : l.stackTraces = false) (dd : va_G) (cT : Nat → ClassId) (lo : Nat → Prop) (G : gH) (a0 : Nat) (x1 : Int32) (x2 : Int32) {KX : String → gH → Prop} {K : Int32 → gH → Prop} (h : w_X9_whyNotWrite G a0 x1 x2 KX K) : vx_Met l yX9_whyNotWrite (Cond.code yX9_whyNotWrite cX9_whyNotWrite 3 (some .int) :: wsL_law) (g_rm 7 106 2 12) (va_Pc [.ref a0, .int x1, .int x2] (g_Pre lo dd cT G)) (va_Qi K (g_Pre lo dd cT) (g_A lo)) (g_XC lo dd cT KX) 2 12 (g_A lo) := by
  refine g_startX RX9 rfl (by decide) (Nat.le_of_ble_eq_true rfl) ?_
  intro p e s m below meth c hx hb hr hlocks hml hnone hown hnm hts hK hG hlo ls hl
  have hl : lv_has ls 3 [(0, .ref a0), (1, .int x1), (2, .int x2)] := hl
  have hG : g_S lo dd cT s s.heap [] G := hG
  unfold w_X9_whyNotWrite at h
  refine lv_iload_n hx hb dX9_whyNotWrite_0 rfl (lv_at hl 1 rfl) ?_
  refine lv_aload_n hx hb dX9_whyNotWrite_1 rfl (lv_at hl 0 rfl) ?_
  obtain ⟨v2, e2, h⟩ := h
  refine g_getr hx hb hts inlX9 hown hK hG (by rfl) 5 (by decide) qF_X9_47 e2 dX9_whyNotWrite_2 ?_
  obtain ⟨v5, e5, h⟩ := h
  refine g_geti hx hb hts inlX1 hown hK hG (by rfl) 3 (by decide) qF_X9_116 e5 dX9_whyNotWrite_5 ?_
  refine g_xSv (As := [.int x1, .int v5]) (rest := []) (n := 2) hx hb hml hown hts hK hlo hG (m_X9_checkIndex l hfl dd cT lo G x1 v5 h) qM_X9_179 qT_yX9_checkIndex qN_X9 qC_yX9_checkIndex (by decide +kernel) ⟨Nat.le_of_ble_eq_true rfl, Nat.le_of_ble_eq_true rfl⟩ rfl hl.1 rfl (Nat.le_of_ble_eq_true rfl) dX9_whyNotWrite_8 ⟨Nat.le_of_ble_eq_true rfl, Nat.le_of_ble_eq_true rfl⟩ (fun E ce q9 G1 H locs hKX hG a1 a2 a3 => g_out hlocks hnone hG a1 a2 a3 hKX (Nat.le_of_ble_eq_true rfl) (Nat.le_of_ble_eq_true rfl)) (fun G8 H locs h hG => ?_)
  refine lv_iload_n hx hb dX9_whyNotWrite_11 rfl (lv_at hl 2 rfl) ?_
  refine lv_iconst (v := (1 : Int32)) hx hb dX9_whyNotWrite_12 (by decide) ?_
  refine lv_bipush (v := (8 : Int32)) hx hb dX9_whyNotWrite_13 (by decide) ?_
  refine g_xSv (As := [.int x2, .int (1 : Int32), .int (8 : Int32)]) (rest := []) (n := 3) hx hb hml hown hts hK hlo hG (m_X9_checkRange l hfl dd cT lo G8 x2 (1 : Int32) (8 : Int32) h) qM_X9_70 qT_yX9_checkRange qN_X9 qC_yX9_checkRange (by decide +kernel) ⟨Nat.le_of_ble_eq_true rfl, Nat.le_of_ble_eq_true rfl⟩ rfl hl.1 rfl (Nat.le_of_ble_eq_true rfl) dX9_whyNotWrite_15 ⟨Nat.le_of_ble_eq_true rfl, Nat.le_of_ble_eq_true rfl⟩ (fun E ce q9 G1 H locs hKX hG a1 a2 a3 => g_out hlocks hnone hG a1 a2 a3 hKX (Nat.le_of_ble_eq_true rfl) (Nat.le_of_ble_eq_true rfl)) (fun G15 H locs h hG => ?_)
  refine lv_aload_n hx hb dX9_whyNotWrite_18 rfl (lv_at hl 0 rfl) ?_
  obtain ⟨v19, e19, h⟩ := h
  refine g_getr hx hb hts inlX9 hown hK hG (by rfl) 5 (by decide) qF_X9_47 e19 dX9_whyNotWrite_19 ?_
  refine lv_iload_n hx hb dX9_whyNotWrite_22 rfl (lv_at hl 1 rfl) ?_
  refine lv_iload_n hx hb dX9_whyNotWrite_23 rfl (lv_at hl 2 rfl) ?_
  obtain ⟨u24, o24, h⟩ := h
  obtain ⟨v24, e24, h⟩ := h
  refine g_cVi (As := [.int x1, .int x2]) (rest := []) (n := 2) hx hb hml hown hts hK hlo hG (m_X1_reasonAgainstWrite l dd cT lo G15 v19 x1 x2 e24) qM_X9_249 qI_yX1_reasonAgainstWrite qS_X1_yX1_reasonAgainstWrite qN_X1 qC_yX1_reasonAgainstWrite (by decide +kernel) ⟨Nat.le_of_ble_eq_true rfl, Nat.le_of_ble_eq_true rfl⟩ (by rfl) o24 rfl hl.1 rfl (Nat.le_of_ble_eq_true rfl) dX9_whyNotWrite_24 ⟨Nat.le_of_ble_eq_true rfl, Nat.le_of_ble_eq_true rfl⟩ (fun H locs hG => ?_)
  refine W.widen (k := 2) (n := 12) (Nat.le_of_ble_eq_true rfl) (Nat.le_of_ble_eq_true rfl) ?_
  exact vx_ret (g_iret hx hb hr hlocks hK hlo hG h dX9_whyNotWrite_27)
set_option maxRecDepth 20000 in
set_option maxHeartbeats 4000000 in
theorem m_X9_whyNot (l : Launch) (hfl : l.stackTraces = false) (dd : va_G) (cT : Nat → ClassId) (lo : Nat → Prop) (G : gH) (a0 : Nat) (x1 : Int32) {KX : String → gH → Prop} {K : Int32 → gH → Prop} (h : w_X9_whyNot G a0 x1 KX K) : vx_Met l yX9_whyNot (Cond.code yX9_whyNot cX9_whyNot 2 (some .int) :: wsL_law) (g_rm 7 133 1 6) (va_Pc [.ref a0, .int x1] (g_Pre lo dd cT G)) (va_Qi K (g_Pre lo dd cT) (g_A lo)) (g_XC lo dd cT KX) 1 6 (g_A lo) := by
  refine g_startX RX9 rfl (by decide) (Nat.le_of_ble_eq_true rfl) ?_
  intro p e s m below meth c hx hb hr hlocks hml hnone hown hnm hts hK hG hlo ls hl
  have hl : lv_has ls 2 [(0, .ref a0), (1, .int x1)] := hl
  have hG : g_S lo dd cT s s.heap [] G := hG
  unfold w_X9_whyNot at h
  refine lv_iload_n hx hb dX9_whyNot_0 rfl (lv_at hl 1 rfl) ?_
  refine lv_iconst (v := (0 : Int32)) hx hb dX9_whyNot_1 (by decide) ?_
  refine lv_iconst (v := (2 : Int32)) hx hb dX9_whyNot_2 (by decide) ?_
  refine g_xSv (As := [.int x1, .int (0 : Int32), .int (2 : Int32)]) (rest := []) (n := 3) hx hb hml hown hts hK hlo hG (m_X9_checkRange l hfl dd cT lo G x1 (0 : Int32) (2 : Int32) h) qM_X9_70 qT_yX9_checkRange qN_X9 qC_yX9_checkRange (by decide +kernel) ⟨Nat.le_of_ble_eq_true rfl, Nat.le_of_ble_eq_true rfl⟩ rfl hl.1 rfl (Nat.le_of_ble_eq_true rfl) dX9_whyNot_3 ⟨Nat.le_of_ble_eq_true rfl, Nat.le_of_ble_eq_true rfl⟩ (fun E ce q9 G1 H locs hKX hG a1 a2 a3 => g_out hlocks hnone hG a1 a2 a3 hKX (Nat.le_of_ble_eq_true rfl) (Nat.le_of_ble_eq_true rfl)) (fun G3 H locs h hG => ?_)
  refine lv_iload_n hx hb dX9_whyNot_6 rfl (lv_at hl 1 rfl) ?_
  by_cases c7_0 : x1 = (0 : Int32)
  · rw [if_pos c7_0] at h
    refine lv_lookup (off := 25) (tgt := 32) hx hb dX9_whyNot_7 (by decide) (by rw [c7_0]; decide) (by decide) ?_
    refine lv_aload_n hx hb dX9_whyNot_32 rfl (lv_at hl 0 rfl) ?_
    obtain ⟨v33, e33, h⟩ := h
    refine g_getr hx hb hts inlX9 hown hK hG (by rfl) 5 (by decide) qF_X9_47 e33 dX9_whyNot_33 ?_
    obtain ⟨u36, o36, h⟩ := h
    obtain ⟨v36, e36, h⟩ := h
    refine g_cVi (As := []) (rest := []) (n := 0) hx hb hml hown hts hK hlo hG (m_X1_reasonAgainstClose l dd cT lo G3 v33 e36) qM_X9_252 qI_yX1_reasonAgainstClose qS_X1_yX1_reasonAgainstClose qN_X1 qC_yX1_reasonAgainstClose (by decide +kernel) ⟨Nat.le_of_ble_eq_true rfl, Nat.le_of_ble_eq_true rfl⟩ (by rfl) o36 rfl hl.1 rfl (Nat.le_of_ble_eq_true rfl) dX9_whyNot_36 ⟨Nat.le_of_ble_eq_true rfl, Nat.le_of_ble_eq_true rfl⟩ (fun H locs hG => ?_)
    refine W.widen (k := 1) (n := 6) (Nat.le_of_ble_eq_true rfl) (Nat.le_of_ble_eq_true rfl) ?_
    exact vx_ret (g_iret hx hb hr hlocks hK hlo hG h dX9_whyNot_39)
  rw [if_neg c7_0] at h
  by_cases c7_1 : x1 = (1 : Int32)
  · rw [if_pos c7_1] at h
    refine lv_lookup (off := 33) (tgt := 40) hx hb dX9_whyNot_7 (by decide) (by rw [c7_1]; decide) (by decide) ?_
    refine lv_aload_n hx hb dX9_whyNot_40 rfl (lv_at hl 0 rfl) ?_
    obtain ⟨v41, e41, h⟩ := h
    refine g_getr hx hb hts inlX9 hown hK hG (by rfl) 5 (by decide) qF_X9_47 e41 dX9_whyNot_41 ?_
    obtain ⟨u44, o44, h⟩ := h
    obtain ⟨v44, e44, h⟩ := h
    refine g_cVi (As := []) (rest := []) (n := 0) hx hb hml hown hts hK hlo hG (m_X1_reasonAgainstCrash l dd cT lo G3 v41 e44) qM_X9_255 qI_yX1_reasonAgainstCrash qS_X1_yX1_reasonAgainstCrash qN_X1 qC_yX1_reasonAgainstCrash (by decide +kernel) ⟨Nat.le_of_ble_eq_true rfl, Nat.le_of_ble_eq_true rfl⟩ (by rfl) o44 rfl hl.1 rfl (Nat.le_of_ble_eq_true rfl) dX9_whyNot_44 ⟨Nat.le_of_ble_eq_true rfl, Nat.le_of_ble_eq_true rfl⟩ (fun H locs hG => ?_)
    refine W.widen (k := 1) (n := 6) (Nat.le_of_ble_eq_true rfl) (Nat.le_of_ble_eq_true rfl) ?_
    exact vx_ret (g_iret hx hb hr hlocks hK hlo hG h dX9_whyNot_47)
  rw [if_neg c7_1] at h
  have y7_0 : ¬ x1.toInt = 0 := fun w => c7_0 (Int32.toInt_inj.mp (by rw [w]; rfl))
  have y7_1 : ¬ x1.toInt = 1 := fun w => c7_1 (Int32.toInt_inj.mp (by rw [w]; rfl))
  refine lv_lookup (off := 41) (tgt := 48) hx hb dX9_whyNot_7 (by decide) (by simp [Op.lookupswitch.offset, y7_0, Ne.symm y7_0, y7_1, Ne.symm y7_1]) (by decide) ?_
  refine lv_aload_n hx hb dX9_whyNot_48 rfl (lv_at hl 0 rfl) ?_
  obtain ⟨v49, e49, h⟩ := h
  refine g_getr hx hb hts inlX9 hown hK hG (by rfl) 5 (by decide) qF_X9_47 e49 dX9_whyNot_49 ?_
  obtain ⟨u52, o52, h⟩ := h
  obtain ⟨v52, e52, h⟩ := h
  refine g_cVi (As := []) (rest := []) (n := 0) hx hb hml hown hts hK hlo hG (m_X1_reasonAgainstRecover l dd cT lo G3 v49 e52) qM_X9_258 qI_yX1_reasonAgainstRecover qS_X1_yX1_reasonAgainstRecover qN_X1 qC_yX1_reasonAgainstRecover (by decide +kernel) ⟨Nat.le_of_ble_eq_true rfl, Nat.le_of_ble_eq_true rfl⟩ (by rfl) o52 rfl hl.1 rfl (Nat.le_of_ble_eq_true rfl) dX9_whyNot_52 ⟨Nat.le_of_ble_eq_true rfl, Nat.le_of_ble_eq_true rfl⟩ (fun H locs hG => ?_)
  refine W.widen (k := 1) (n := 6) (Nat.le_of_ble_eq_true rfl) (Nat.le_of_ble_eq_true rfl) ?_
  exact vx_ret (g_iret hx hb hr hlocks hK hlo hG h dX9_whyNot_55)
set_option maxRecDepth 20000 in
set_option maxHeartbeats 4000000 in
theorem m_X9_risk (l : Launch) (hfl : l.stackTraces = false) (dd : va_G) (cT : Nat → ClassId) (lo : Nat → Prop) (G : gH) (a0 : Nat) (x1 : Int32) {KX : String → gH → Prop} {K : Int32 → gH → Prop} (h : w_X9_risk G a0 x1 KX K) : vx_Met l yX9_risk (Cond.code yX9_risk cX9_risk 2 (some .int) :: wsL_law) (g_rm 7 120 1 6) (va_Pc [.ref a0, .int x1] (g_Pre lo dd cT G)) (va_Qi K (g_Pre lo dd cT) (g_A lo)) (g_XC lo dd cT KX) 1 6 (g_A lo) := by
  refine g_startX RX9 rfl (by decide) (Nat.le_of_ble_eq_true rfl) ?_
  intro p e s m below meth c hx hb hr hlocks hml hnone hown hnm hts hK hG hlo ls hl
  have hl : lv_has ls 2 [(0, .ref a0), (1, .int x1)] := hl
  have hG : g_S lo dd cT s s.heap [] G := hG
  unfold w_X9_risk at h
  refine lv_iload_n hx hb dX9_risk_0 rfl (lv_at hl 1 rfl) ?_
  refine lv_aload_n hx hb dX9_risk_1 rfl (lv_at hl 0 rfl) ?_
  obtain ⟨v2, e2, h⟩ := h
  refine g_getr hx hb hts inlX9 hown hK hG (by rfl) 5 (by decide) qF_X9_47 e2 dX9_risk_2 ?_
  obtain ⟨v5, e5, h⟩ := h
  refine g_getr hx hb hts inlX1 hown hK hG (by rfl) 0 (by decide) qF_X9_106 e5 dX9_risk_5 ?_
  obtain ⟨v8, e8, h⟩ := h
  refine g_geti hx hb hts inlX0 hown hK hG (by rfl) 0 (by decide) qF_X9_110 e8 dX9_risk_8 ?_
  refine g_xSv (As := [.int x1, .int v8]) (rest := []) (n := 2) hx hb hml hown hts hK hlo hG (m_X9_checkIndex l hfl dd cT lo G x1 v8 h) qM_X9_179 qT_yX9_checkIndex qN_X9 qC_yX9_checkIndex (by decide +kernel) ⟨Nat.le_of_ble_eq_true rfl, Nat.le_of_ble_eq_true rfl⟩ rfl hl.1 rfl (Nat.le_of_ble_eq_true rfl) dX9_risk_11 ⟨Nat.le_of_ble_eq_true rfl, Nat.le_of_ble_eq_true rfl⟩ (fun E ce q9 G1 H locs hKX hG a1 a2 a3 => g_out hlocks hnone hG a1 a2 a3 hKX (Nat.le_of_ble_eq_true rfl) (Nat.le_of_ble_eq_true rfl)) (fun G11 H locs h hG => ?_)
  refine lv_aload_n hx hb dX9_risk_14 rfl (lv_at hl 0 rfl) ?_
  obtain ⟨v15, e15, h⟩ := h
  refine g_getr hx hb hts inlX9 hown hK hG (by rfl) 5 (by decide) qF_X9_47 e15 dX9_risk_15 ?_
  refine lv_iload_n hx hb dX9_risk_18 rfl (lv_at hl 1 rfl) ?_
  refine lv_aload_n hx hb dX9_risk_19 rfl (lv_at hl 0 rfl) ?_
  obtain ⟨v20, e20, h⟩ := h
  refine g_getr hx hb hts inlX9 hown hK hG (by rfl) 5 (by decide) qF_X9_47 e20 dX9_risk_20 ?_
  obtain ⟨v23, e23, h⟩ := h
  refine g_getr hx hb hts inlX1 hown hK hG (by rfl) 6 (by decide) qF_X9_136 e23 dX9_risk_23 ?_
  refine lv_aload_n hx hb dX9_risk_26 rfl (lv_at hl 0 rfl) ?_
  obtain ⟨v27, e27, h⟩ := h
  refine g_getr hx hb hts inlX9 hown hK hG (by rfl) 5 (by decide) qF_X9_47 e27 dX9_risk_27 ?_
  obtain ⟨u30, o30, h⟩ := h
  obtain ⟨q30, e30, h⟩ := h
  refine g_cVr (As := [.ref v27]) (rest := [.int x1, .ref v15]) (n := 1) hx hb hml hown hts hK hlo hG (m_X8_lookAt l dd cT lo G11 v23 v27 e30) qM_X9_139 qI_yX8_lookAt qS_X8_yX8_lookAt qN_X8 qC_yX8_lookAt (by decide +kernel) ⟨Nat.le_of_ble_eq_true rfl, Nat.le_of_ble_eq_true rfl⟩ (by rfl) o30 rfl hl.1 rfl (Nat.le_of_ble_eq_true rfl) dX9_risk_30 ⟨Nat.le_of_ble_eq_true rfl, Nat.le_of_ble_eq_true rfl⟩ (fun H locs hG => ?_)
  refine lv_aload_n hx hb dX9_risk_33 rfl (lv_at hl 0 rfl) ?_
  obtain ⟨v34, e34, h⟩ := h
  refine g_getr hx hb hts inlX9 hown hK hG (by rfl) 4 (by decide) qF_X9_40 e34 dX9_risk_34 ?_
  obtain ⟨u37, o37, h⟩ := h
  obtain ⟨q37, e37, h⟩ := h
  refine g_cVi (As := [.int x1, .ref q30.2, .ref v34]) (rest := []) (n := 3) hx hb hml hown hts hK hlo hG (m_X1_filesLostBy l dd cT lo q30.1 v15 x1 q30.2 v34 e37) qM_X9_264 qI_yX1_filesLostBy qS_X1_yX1_filesLostBy qN_X1 qC_yX1_filesLostBy (by decide +kernel) ⟨Nat.le_of_ble_eq_true rfl, Nat.le_of_ble_eq_true rfl⟩ (by rfl) o37 rfl hl.1 rfl (Nat.le_of_ble_eq_true rfl) dX9_risk_37 ⟨Nat.le_of_ble_eq_true rfl, Nat.le_of_ble_eq_true rfl⟩ (fun H locs hG => ?_)
  refine W.widen (k := 1) (n := 6) (Nat.le_of_ble_eq_true rfl) (Nat.le_of_ble_eq_true rfl) ?_
  exact vx_ret (g_iret hx hb hr hlocks hK hlo hG h dX9_risk_40)
set_option maxRecDepth 20000 in
set_option maxHeartbeats 4000000 in
theorem m_X9_filesBefore (l : Launch) (hfl : l.stackTraces = false) (dd : va_G) (cT : Nat → ClassId) (lo : Nat → Prop) (G : gH) (a0 : Nat) (x1 : Int32) {KX : String → gH → Prop} {K : Int32 → gH → Prop} (h : w_X9_filesBefore G a0 x1 KX K) : vx_Met l yX9_filesBefore (Cond.code yX9_filesBefore cX9_filesBefore 2 (some .int) :: wsL_law) (g_rm 7 103 1 6) (va_Pc [.ref a0, .int x1] (g_Pre lo dd cT G)) (va_Qi K (g_Pre lo dd cT) (g_A lo)) (g_XC lo dd cT KX) 1 6 (g_A lo) := by
  refine g_startX RX9 rfl (by decide) (Nat.le_of_ble_eq_true rfl) ?_
  intro p e s m below meth c hx hb hr hlocks hml hnone hown hnm hts hK hG hlo ls hl
  have hl : lv_has ls 2 [(0, .ref a0), (1, .int x1)] := hl
  have hG : g_S lo dd cT s s.heap [] G := hG
  unfold w_X9_filesBefore at h
  refine lv_iload_n hx hb dX9_filesBefore_0 rfl (lv_at hl 1 rfl) ?_
  refine lv_aload_n hx hb dX9_filesBefore_1 rfl (lv_at hl 0 rfl) ?_
  obtain ⟨v2, e2, h⟩ := h
  refine g_getr hx hb hts inlX9 hown hK hG (by rfl) 5 (by decide) qF_X9_47 e2 dX9_filesBefore_2 ?_
  obtain ⟨v5, e5, h⟩ := h
  refine g_getr hx hb hts inlX1 hown hK hG (by rfl) 2 (by decide) qF_X9_119 e5 dX9_filesBefore_5 ?_
  obtain ⟨v8, e8, h⟩ := h
  refine g_geti hx hb hts inlX5 hown hK hG (by rfl) 0 (by decide) qF_X9_123 e8 dX9_filesBefore_8 ?_
  refine g_xSv (As := [.int x1, .int v8]) (rest := []) (n := 2) hx hb hml hown hts hK hlo hG (m_X9_checkIndex l hfl dd cT lo G x1 v8 h) qM_X9_179 qT_yX9_checkIndex qN_X9 qC_yX9_checkIndex (by decide +kernel) ⟨Nat.le_of_ble_eq_true rfl, Nat.le_of_ble_eq_true rfl⟩ rfl hl.1 rfl (Nat.le_of_ble_eq_true rfl) dX9_filesBefore_11 ⟨Nat.le_of_ble_eq_true rfl, Nat.le_of_ble_eq_true rfl⟩ (fun E ce q9 G1 H locs hKX hG a1 a2 a3 => g_out hlocks hnone hG a1 a2 a3 hKX (Nat.le_of_ble_eq_true rfl) (Nat.le_of_ble_eq_true rfl)) (fun G11 H locs h hG => ?_)
  refine lv_aload_n hx hb dX9_filesBefore_14 rfl (lv_at hl 0 rfl) ?_
  obtain ⟨v15, e15, h⟩ := h
  refine g_getr hx hb hts inlX9 hown hK hG (by rfl) 5 (by decide) qF_X9_47 e15 dX9_filesBefore_15 ?_
  obtain ⟨v18, e18, h⟩ := h
  refine g_getr hx hb hts inlX1 hown hK hG (by rfl) 6 (by decide) qF_X9_136 e18 dX9_filesBefore_18 ?_
  refine lv_aload_n hx hb dX9_filesBefore_21 rfl (lv_at hl 0 rfl) ?_
  obtain ⟨v22, e22, h⟩ := h
  refine g_getr hx hb hts inlX9 hown hK hG (by rfl) 5 (by decide) qF_X9_47 e22 dX9_filesBefore_22 ?_
  obtain ⟨u25, o25, h⟩ := h
  obtain ⟨q25, e25, h⟩ := h
  refine g_cVr (As := [.ref v22]) (rest := []) (n := 1) hx hb hml hown hts hK hlo hG (m_X8_lookAt l dd cT lo G11 v18 v22 e25) qM_X9_139 qI_yX8_lookAt qS_X8_yX8_lookAt qN_X8 qC_yX8_lookAt (by decide +kernel) ⟨Nat.le_of_ble_eq_true rfl, Nat.le_of_ble_eq_true rfl⟩ (by rfl) o25 rfl hl.1 rfl (Nat.le_of_ble_eq_true rfl) dX9_filesBefore_25 ⟨Nat.le_of_ble_eq_true rfl, Nat.le_of_ble_eq_true rfl⟩ (fun H locs hG => ?_)
  refine lv_aload_n hx hb dX9_filesBefore_28 rfl (lv_at hl 0 rfl) ?_
  obtain ⟨v29, e29, h⟩ := h
  refine g_getr hx hb hts inlX9 hown hK hG (by rfl) 5 (by decide) qF_X9_47 e29 dX9_filesBefore_29 ?_
  obtain ⟨v32, e32, h⟩ := h
  refine g_getr hx hb hts inlX1 hown hK hG (by rfl) 2 (by decide) qF_X9_119 e32 dX9_filesBefore_32 ?_
  refine lv_iload_n hx hb dX9_filesBefore_35 rfl (lv_at hl 1 rfl) ?_
  obtain ⟨u36, o36, h⟩ := h
  obtain ⟨v36, e36, h⟩ := h
  refine g_cVi (As := [.ref v32, .int x1]) (rest := []) (n := 2) hx hb hml hown hts hK hlo hG (m_X8_filesThereBefore l dd cT lo q25.1 q25.2 v32 x1 e36) qM_X9_268 qI_yX8_filesThereBefore qS_X8_yX8_filesThereBefore qN_X8 qC_yX8_filesThereBefore (by decide +kernel) ⟨Nat.le_of_ble_eq_true rfl, Nat.le_of_ble_eq_true rfl⟩ (by rfl) o36 rfl hl.1 rfl (Nat.le_of_ble_eq_true rfl) dX9_filesBefore_36 ⟨Nat.le_of_ble_eq_true rfl, Nat.le_of_ble_eq_true rfl⟩ (fun H locs hG => ?_)
  refine W.widen (k := 1) (n := 6) (Nat.le_of_ble_eq_true rfl) (Nat.le_of_ble_eq_true rfl) ?_
  exact vx_ret (g_iret hx hb hr hlocks hK hlo hG h dX9_filesBefore_39)
set_option maxRecDepth 20000 in
set_option maxHeartbeats 4000000 in
theorem m_X9_space (l : Launch) (hfl : l.stackTraces = false) (dd : va_G) (cT : Nat → ClassId) (lo : Nat → Prop) (G : gH) (a0 : Nat) (x1 : Int32) {KX : String → gH → Prop} {K : Int32 → gH → Prop} (h : w_X9_space G a0 x1 KX K) : vx_Met l yX9_space (Cond.code yX9_space cX9_space 2 (some .int) :: wsL_law) (g_rm 7 121 1 6) (va_Pc [.ref a0, .int x1] (g_Pre lo dd cT G)) (va_Qi K (g_Pre lo dd cT) (g_A lo)) (g_XC lo dd cT KX) 1 6 (g_A lo) := by
  refine g_startX RX9 rfl (by decide) (Nat.le_of_ble_eq_true rfl) ?_
  intro p e s m below meth c hx hb hr hlocks hml hnone hown hnm hts hK hG hlo ls hl
  have hl : lv_has ls 2 [(0, .ref a0), (1, .int x1)] := hl
  have hG : g_S lo dd cT s s.heap [] G := hG
  unfold w_X9_space at h
  refine lv_iload_n hx hb dX9_space_0 rfl (lv_at hl 1 rfl) ?_
  refine lv_iconst (v := (0 : Int32)) hx hb dX9_space_1 (by decide) ?_
  refine lv_iconst (v := (4 : Int32)) hx hb dX9_space_2 (by decide) ?_
  refine g_xSv (As := [.int x1, .int (0 : Int32), .int (4 : Int32)]) (rest := []) (n := 3) hx hb hml hown hts hK hlo hG (m_X9_checkRange l hfl dd cT lo G x1 (0 : Int32) (4 : Int32) h) qM_X9_70 qT_yX9_checkRange qN_X9 qC_yX9_checkRange (by decide +kernel) ⟨Nat.le_of_ble_eq_true rfl, Nat.le_of_ble_eq_true rfl⟩ rfl hl.1 rfl (Nat.le_of_ble_eq_true rfl) dX9_space_3 ⟨Nat.le_of_ble_eq_true rfl, Nat.le_of_ble_eq_true rfl⟩ (fun E ce q9 G1 H locs hKX hG a1 a2 a3 => g_out hlocks hnone hG a1 a2 a3 hKX (Nat.le_of_ble_eq_true rfl) (Nat.le_of_ble_eq_true rfl)) (fun G3 H locs h hG => ?_)
  refine lv_aload_n hx hb dX9_space_6 rfl (lv_at hl 0 rfl) ?_
  obtain ⟨v7, e7, h⟩ := h
  refine g_getr hx hb hts inlX9 hown hK hG (by rfl) 5 (by decide) qF_X9_47 e7 dX9_space_7 ?_
  refine lv_iconst (v := (-1 : Int32)) hx hb dX9_space_10 (by decide) ?_
  refine lv_iload_n hx hb dX9_space_11 rfl (lv_at hl 1 rfl) ?_
  obtain ⟨u12, o12, h⟩ := h
  obtain ⟨q12, e12, h⟩ := h
  refine g_cVi (As := [.int (-1 : Int32), .int x1]) (rest := []) (n := 2) hx hb hml hown hts hK hlo hG (m_X1_blocksUsed l dd cT lo G3 v7 (-1 : Int32) x1 e12) qM_X9_272 qI_yX1_blocksUsed qS_X1_yX1_blocksUsed qN_X1 qC_yX1_blocksUsed (by decide +kernel) ⟨Nat.le_of_ble_eq_true rfl, Nat.le_of_ble_eq_true rfl⟩ (by rfl) o12 rfl hl.1 rfl (Nat.le_of_ble_eq_true rfl) dX9_space_12 ⟨Nat.le_of_ble_eq_true rfl, Nat.le_of_ble_eq_true rfl⟩ (fun H locs hG => ?_)
  refine W.widen (k := 1) (n := 6) (Nat.le_of_ble_eq_true rfl) (Nat.le_of_ble_eq_true rfl) ?_
  exact vx_ret (g_iret hx hb hr hlocks hK hlo hG h dX9_space_15)
set_option maxRecDepth 20000 in
set_option maxHeartbeats 4000000 in
theorem m_X9_spaceOf (l : Launch) (hfl : l.stackTraces = false) (dd : va_G) (cT : Nat → ClassId) (lo : Nat → Prop) (G : gH) (a0 : Nat) (x1 : Int32) (x2 : Int32) {KX : String → gH → Prop} {K : Int32 → gH → Prop} (h : w_X9_spaceOf G a0 x1 x2 KX K) : vx_Met l yX9_spaceOf (Cond.code yX9_spaceOf cX9_spaceOf 3 (some .int) :: wsL_law) (g_rm 7 121 2 12) (va_Pc [.ref a0, .int x1, .int x2] (g_Pre lo dd cT G)) (va_Qi K (g_Pre lo dd cT) (g_A lo)) (g_XC lo dd cT KX) 2 12 (g_A lo) := by
  refine g_startX RX9 rfl (by decide) (Nat.le_of_ble_eq_true rfl) ?_
  intro p e s m below meth c hx hb hr hlocks hml hnone hown hnm hts hK hG hlo ls hl
  have hl : lv_has ls 3 [(0, .ref a0), (1, .int x1), (2, .int x2)] := hl
  have hG : g_S lo dd cT s s.heap [] G := hG
  unfold w_X9_spaceOf at h
  refine lv_iload_n hx hb dX9_spaceOf_0 rfl (lv_at hl 1 rfl) ?_
  refine lv_aload_n hx hb dX9_spaceOf_1 rfl (lv_at hl 0 rfl) ?_
  obtain ⟨v2, e2, h⟩ := h
  refine g_getr hx hb hts inlX9 hown hK hG (by rfl) 5 (by decide) qF_X9_47 e2 dX9_spaceOf_2 ?_
  obtain ⟨v5, e5, h⟩ := h
  refine g_getr hx hb hts inlX1 hown hK hG (by rfl) 2 (by decide) qF_X9_119 e5 dX9_spaceOf_5 ?_
  obtain ⟨v8, e8, h⟩ := h
  refine g_geti hx hb hts inlX5 hown hK hG (by rfl) 0 (by decide) qF_X9_123 e8 dX9_spaceOf_8 ?_
  refine g_xSv (As := [.int x1, .int v8]) (rest := []) (n := 2) hx hb hml hown hts hK hlo hG (m_X9_checkIndex l hfl dd cT lo G x1 v8 h) qM_X9_179 qT_yX9_checkIndex qN_X9 qC_yX9_checkIndex (by decide +kernel) ⟨Nat.le_of_ble_eq_true rfl, Nat.le_of_ble_eq_true rfl⟩ rfl hl.1 rfl (Nat.le_of_ble_eq_true rfl) dX9_spaceOf_11 ⟨Nat.le_of_ble_eq_true rfl, Nat.le_of_ble_eq_true rfl⟩ (fun E ce q9 G1 H locs hKX hG a1 a2 a3 => g_out hlocks hnone hG a1 a2 a3 hKX (Nat.le_of_ble_eq_true rfl) (Nat.le_of_ble_eq_true rfl)) (fun G11 H locs h hG => ?_)
  refine lv_iload_n hx hb dX9_spaceOf_14 rfl (lv_at hl 2 rfl) ?_
  refine lv_iconst (v := (1 : Int32)) hx hb dX9_spaceOf_15 (by decide) ?_
  refine lv_iconst (v := (4 : Int32)) hx hb dX9_spaceOf_16 (by decide) ?_
  refine g_xSv (As := [.int x2, .int (1 : Int32), .int (4 : Int32)]) (rest := []) (n := 3) hx hb hml hown hts hK hlo hG (m_X9_checkRange l hfl dd cT lo G11 x2 (1 : Int32) (4 : Int32) h) qM_X9_70 qT_yX9_checkRange qN_X9 qC_yX9_checkRange (by decide +kernel) ⟨Nat.le_of_ble_eq_true rfl, Nat.le_of_ble_eq_true rfl⟩ rfl hl.1 rfl (Nat.le_of_ble_eq_true rfl) dX9_spaceOf_17 ⟨Nat.le_of_ble_eq_true rfl, Nat.le_of_ble_eq_true rfl⟩ (fun E ce q9 G1 H locs hKX hG a1 a2 a3 => g_out hlocks hnone hG a1 a2 a3 hKX (Nat.le_of_ble_eq_true rfl) (Nat.le_of_ble_eq_true rfl)) (fun G17 H locs h hG => ?_)
  refine lv_aload_n hx hb dX9_spaceOf_20 rfl (lv_at hl 0 rfl) ?_
  obtain ⟨v21, e21, h⟩ := h
  refine g_getr hx hb hts inlX9 hown hK hG (by rfl) 5 (by decide) qF_X9_47 e21 dX9_spaceOf_21 ?_
  refine lv_iload_n hx hb dX9_spaceOf_24 rfl (lv_at hl 1 rfl) ?_
  refine lv_iload_n hx hb dX9_spaceOf_25 rfl (lv_at hl 2 rfl) ?_
  obtain ⟨u26, o26, h⟩ := h
  obtain ⟨q26, e26, h⟩ := h
  refine g_cVi (As := [.int x1, .int x2]) (rest := []) (n := 2) hx hb hml hown hts hK hlo hG (m_X1_blocksUsed l dd cT lo G17 v21 x1 x2 e26) qM_X9_272 qI_yX1_blocksUsed qS_X1_yX1_blocksUsed qN_X1 qC_yX1_blocksUsed (by decide +kernel) ⟨Nat.le_of_ble_eq_true rfl, Nat.le_of_ble_eq_true rfl⟩ (by rfl) o26 rfl hl.1 rfl (Nat.le_of_ble_eq_true rfl) dX9_spaceOf_26 ⟨Nat.le_of_ble_eq_true rfl, Nat.le_of_ble_eq_true rfl⟩ (fun H locs hG => ?_)
  refine W.widen (k := 2) (n := 12) (Nat.le_of_ble_eq_true rfl) (Nat.le_of_ble_eq_true rfl) ?_
  exact vx_ret (g_iret hx hb hr hlocks hK hlo hG h dX9_spaceOf_29)
set_option maxRecDepth 20000 in
set_option maxHeartbeats 4000000 in
theorem m_X9_write (l : Launch) (hfl : l.stackTraces = false) (dd : va_G) (cT : Nat → ClassId) (lo : Nat → Prop) (G : gH) (a0 : Nat) (x1 : Int32) (x2 : Int32) (x3 : Int32) {KX : String → gH → Prop} {K : Int32 → gH → Prop} (h : w_X9_write G a0 x1 x2 x3 KX K) : vx_Met l yX9_write (Cond.code yX9_write cX9_write 4 (some .int) :: wsL_law) (g_rm 7 124 34 1661) (va_Pc [.ref a0, .int x1, .int x2, .int x3] (g_Pre lo dd cT G)) (va_Qi K (g_Pre lo dd cT) (g_A lo)) (g_XC lo dd cT KX) 34 1661 (g_A lo) := by
  refine g_startX RX9 rfl (by decide) (Nat.le_of_ble_eq_true rfl) ?_
  intro p e s m below meth c hx hb hr hlocks hml hnone hown hnm hts hK hG hlo ls hl
  have hl : lv_has ls 4 [(0, .ref a0), (1, .int x1), (2, .int x2), (3, .int x3)] := hl
  have hG : g_S lo dd cT s s.heap [] G := hG
  unfold w_X9_write at h
  refine lv_iload_n hx hb dX9_write_0 rfl (lv_at hl 1 rfl) ?_
  refine lv_aload_n hx hb dX9_write_1 rfl (lv_at hl 0 rfl) ?_
  obtain ⟨v2, e2, h⟩ := h
  refine g_getr hx hb hts inlX9 hown hK hG (by rfl) 5 (by decide) qF_X9_47 e2 dX9_write_2 ?_
  obtain ⟨v5, e5, h⟩ := h
  refine g_geti hx hb hts inlX1 hown hK hG (by rfl) 3 (by decide) qF_X9_116 e5 dX9_write_5 ?_
  refine g_xSv (As := [.int x1, .int v5]) (rest := []) (n := 2) hx hb hml hown hts hK hlo hG (m_X9_checkIndex l hfl dd cT lo G x1 v5 h) qM_X9_179 qT_yX9_checkIndex qN_X9 qC_yX9_checkIndex (by decide +kernel) ⟨Nat.le_of_ble_eq_true rfl, Nat.le_of_ble_eq_true rfl⟩ rfl hl.1 rfl (Nat.le_of_ble_eq_true rfl) dX9_write_8 ⟨Nat.le_of_ble_eq_true rfl, Nat.le_of_ble_eq_true rfl⟩ (fun E ce q9 G1 H locs hKX hG a1 a2 a3 => g_out hlocks hnone hG a1 a2 a3 hKX (Nat.le_of_ble_eq_true rfl) (Nat.le_of_ble_eq_true rfl)) (fun G8 H locs h hG => ?_)
  refine lv_iload_n hx hb dX9_write_11 rfl (lv_at hl 2 rfl) ?_
  refine lv_iconst (v := (1 : Int32)) hx hb dX9_write_12 (by decide) ?_
  refine lv_bipush (v := (8 : Int32)) hx hb dX9_write_13 (by decide) ?_
  refine g_xSv (As := [.int x2, .int (1 : Int32), .int (8 : Int32)]) (rest := []) (n := 3) hx hb hml hown hts hK hlo hG (m_X9_checkRange l hfl dd cT lo G8 x2 (1 : Int32) (8 : Int32) h) qM_X9_70 qT_yX9_checkRange qN_X9 qC_yX9_checkRange (by decide +kernel) ⟨Nat.le_of_ble_eq_true rfl, Nat.le_of_ble_eq_true rfl⟩ rfl hl.1 rfl (Nat.le_of_ble_eq_true rfl) dX9_write_15 ⟨Nat.le_of_ble_eq_true rfl, Nat.le_of_ble_eq_true rfl⟩ (fun E ce q9 G1 H locs hKX hG a1 a2 a3 => g_out hlocks hnone hG a1 a2 a3 hKX (Nat.le_of_ble_eq_true rfl) (Nat.le_of_ble_eq_true rfl)) (fun G15 H locs h hG => ?_)
  refine lv_iload_n hx hb dX9_write_18 rfl (lv_at hl 3 rfl) ?_
  refine lv_iconst (v := (0 : Int32)) hx hb dX9_write_19 (by decide) ?_
  refine lv_sipush (v := (999 : Int32)) hx hb dX9_write_20 (by decide) ?_
  refine g_xSv (As := [.int x3, .int (0 : Int32), .int (999 : Int32)]) (rest := []) (n := 3) hx hb hml hown hts hK hlo hG (m_X9_checkRange l hfl dd cT lo G15 x3 (0 : Int32) (999 : Int32) h) qM_X9_70 qT_yX9_checkRange qN_X9 qC_yX9_checkRange (by decide +kernel) ⟨Nat.le_of_ble_eq_true rfl, Nat.le_of_ble_eq_true rfl⟩ rfl hl.1 rfl (Nat.le_of_ble_eq_true rfl) dX9_write_23 ⟨Nat.le_of_ble_eq_true rfl, Nat.le_of_ble_eq_true rfl⟩ (fun E ce q9 G1 H locs hKX hG a1 a2 a3 => g_out hlocks hnone hG a1 a2 a3 hKX (Nat.le_of_ble_eq_true rfl) (Nat.le_of_ble_eq_true rfl)) (fun G23 H locs h hG => ?_)
  refine lv_aload_n hx hb dX9_write_26 rfl (lv_at hl 0 rfl) ?_
  obtain ⟨v27, e27, h⟩ := h
  refine g_getr hx hb hts inlX9 hown hK hG (by rfl) 5 (by decide) qF_X9_47 e27 dX9_write_27 ?_
  refine lv_iload_n hx hb dX9_write_30 rfl (lv_at hl 1 rfl) ?_
  refine lv_iload_n hx hb dX9_write_31 rfl (lv_at hl 2 rfl) ?_
  obtain ⟨u32, o32, h⟩ := h
  obtain ⟨v32, e32, h⟩ := h
  refine g_cVi (As := [.int x1, .int x2]) (rest := []) (n := 2) hx hb hml hown hts hK hlo hG (m_X1_reasonAgainstWrite l dd cT lo G23 v27 x1 x2 e32) qM_X9_249 qI_yX1_reasonAgainstWrite qS_X1_yX1_reasonAgainstWrite qN_X1 qC_yX1_reasonAgainstWrite (by decide +kernel) ⟨Nat.le_of_ble_eq_true rfl, Nat.le_of_ble_eq_true rfl⟩ (by rfl) o32 rfl hl.1 rfl (Nat.le_of_ble_eq_true rfl) dX9_write_32 ⟨Nat.le_of_ble_eq_true rfl, Nat.le_of_ble_eq_true rfl⟩ (fun H locs hG => ?_)
  refine g_xSv (As := [.int v32]) (rest := []) (n := 1) hx hb hml hown hts hK hlo hG (m_X9_checkAllowed l hfl dd cT lo G23 v32 h) qM_X9_275 qT_yX9_checkAllowed qN_X9 qC_yX9_checkAllowed (by decide +kernel) ⟨Nat.le_of_ble_eq_true rfl, Nat.le_of_ble_eq_true rfl⟩ rfl hl.1 rfl (Nat.le_of_ble_eq_true rfl) dX9_write_35 ⟨Nat.le_of_ble_eq_true rfl, Nat.le_of_ble_eq_true rfl⟩ (fun E ce q9 G1 H locs hKX hG a1 a2 a3 => g_out hlocks hnone hG a1 a2 a3 hKX (Nat.le_of_ble_eq_true rfl) (Nat.le_of_ble_eq_true rfl)) (fun G35 H locs h hG => ?_)
  refine lv_aload_n hx hb dX9_write_38 rfl (lv_at hl 0 rfl) ?_
  obtain ⟨v39, e39, h⟩ := h
  refine g_getr hx hb hts inlX9 hown hK hG (by rfl) 2 (by decide) qF_X9_26 e39 dX9_write_39 ?_
  refine lv_aload_n hx hb dX9_write_42 rfl (lv_at hl 0 rfl) ?_
  obtain ⟨v43, e43, h⟩ := h
  refine g_getr hx hb hts inlX9 hown hK hG (by rfl) 5 (by decide) qF_X9_47 e43 dX9_write_43 ?_
  obtain ⟨u46, o46, h⟩ := h
  refine g_wVv (As := [.ref v43]) (rest := []) (n := 1) hx hb hml hown hts hK hlo hG (m_X2_keep l dd cT lo G35 v39 v43 h) qM_X9_278 qI_yX2_keep qS_X2_yX2_keep qN_X2 qC_yX2_keep (by decide +kernel) ⟨Nat.le_of_ble_eq_true rfl, Nat.le_of_ble_eq_true rfl⟩ (by rfl) o46 rfl hl.1 rfl (Nat.le_of_ble_eq_true rfl) dX9_write_46 ⟨Nat.le_of_ble_eq_true rfl, Nat.le_of_ble_eq_true rfl⟩ (fun G46 H locs h hG => ?_)
  refine lv_aload_n hx hb dX9_write_49 rfl (lv_at hl 0 rfl) ?_
  obtain ⟨v50, e50, h⟩ := h
  refine g_getr hx hb hts inlX9 hown hK hG (by rfl) 5 (by decide) qF_X9_47 e50 dX9_write_50 ?_
  refine lv_iload_n hx hb dX9_write_53 rfl (lv_at hl 1 rfl) ?_
  refine lv_iload_n hx hb dX9_write_54 rfl (lv_at hl 2 rfl) ?_
  refine lv_iload_n hx hb dX9_write_55 rfl (lv_at hl 3 rfl) ?_
  obtain ⟨u56, o56, h⟩ := h
  obtain ⟨q56, e56, h⟩ := h
  refine g_cVi (As := [.int x1, .int x2, .int x3]) (rest := []) (n := 3) hx hb hml hown hts hK hlo hG (m_X1_writeVersion l dd cT lo G46 v50 x1 x2 x3 e56) qM_X9_282 qI_yX1_writeVersion qS_X1_yX1_writeVersion qN_X1 qC_yX1_writeVersion (by decide +kernel) ⟨Nat.le_of_ble_eq_true rfl, Nat.le_of_ble_eq_true rfl⟩ (by rfl) o56 rfl hl.1 rfl (Nat.le_of_ble_eq_true rfl) dX9_write_56 ⟨Nat.le_of_ble_eq_true rfl, Nat.le_of_ble_eq_true rfl⟩ (fun H locs hG => ?_)
  refine W.widen (k := 34) (n := 1661) (Nat.le_of_ble_eq_true rfl) (Nat.le_of_ble_eq_true rfl) ?_
  exact vx_ret (g_iret hx hb hr hlocks hK hlo hG h dX9_write_59)
set_option maxRecDepth 20000 in
set_option maxHeartbeats 4000000 in
theorem m_X9_erase (l : Launch) (hfl : l.stackTraces = false) (dd : va_G) (cT : Nat → ClassId) (lo : Nat → Prop) (G : gH) (a0 : Nat) (x1 : Int32) {KX : String → gH → Prop} {K : Int32 → gH → Prop} (h : w_X9_erase G a0 x1 KX K) : vx_Met l yX9_erase (Cond.code yX9_erase cX9_erase 2 (some .int) :: wsL_law) (g_rm 7 124 32 1649) (va_Pc [.ref a0, .int x1] (g_Pre lo dd cT G)) (va_Qi K (g_Pre lo dd cT) (g_A lo)) (g_XC lo dd cT KX) 32 1649 (g_A lo) := by
  refine g_startX RX9 rfl (by decide) (Nat.le_of_ble_eq_true rfl) ?_
  intro p e s m below meth c hx hb hr hlocks hml hnone hown hnm hts hK hG hlo ls hl
  have hl : lv_has ls 2 [(0, .ref a0), (1, .int x1)] := hl
  have hG : g_S lo dd cT s s.heap [] G := hG
  unfold w_X9_erase at h
  refine lv_iload_n hx hb dX9_erase_0 rfl (lv_at hl 1 rfl) ?_
  refine lv_aload_n hx hb dX9_erase_1 rfl (lv_at hl 0 rfl) ?_
  obtain ⟨v2, e2, h⟩ := h
  refine g_getr hx hb hts inlX9 hown hK hG (by rfl) 5 (by decide) qF_X9_47 e2 dX9_erase_2 ?_
  obtain ⟨v5, e5, h⟩ := h
  refine g_geti hx hb hts inlX1 hown hK hG (by rfl) 3 (by decide) qF_X9_116 e5 dX9_erase_5 ?_
  refine g_xSv (As := [.int x1, .int v5]) (rest := []) (n := 2) hx hb hml hown hts hK hlo hG (m_X9_checkIndex l hfl dd cT lo G x1 v5 h) qM_X9_179 qT_yX9_checkIndex qN_X9 qC_yX9_checkIndex (by decide +kernel) ⟨Nat.le_of_ble_eq_true rfl, Nat.le_of_ble_eq_true rfl⟩ rfl hl.1 rfl (Nat.le_of_ble_eq_true rfl) dX9_erase_8 ⟨Nat.le_of_ble_eq_true rfl, Nat.le_of_ble_eq_true rfl⟩ (fun E ce q9 G1 H locs hKX hG a1 a2 a3 => g_out hlocks hnone hG a1 a2 a3 hKX (Nat.le_of_ble_eq_true rfl) (Nat.le_of_ble_eq_true rfl)) (fun G8 H locs h hG => ?_)
  refine lv_aload_n hx hb dX9_erase_11 rfl (lv_at hl 0 rfl) ?_
  obtain ⟨v12, e12, h⟩ := h
  refine g_getr hx hb hts inlX9 hown hK hG (by rfl) 5 (by decide) qF_X9_47 e12 dX9_erase_12 ?_
  refine lv_iload_n hx hb dX9_erase_15 rfl (lv_at hl 1 rfl) ?_
  obtain ⟨u16, o16, h⟩ := h
  obtain ⟨q16, e16, h⟩ := h
  refine g_cVi (As := [.int x1]) (rest := []) (n := 1) hx hb hml hown hts hK hlo hG (m_X1_reasonAgainstErase l dd cT lo G8 v12 x1 e16) qM_X9_286 qI_yX1_reasonAgainstErase qS_X1_yX1_reasonAgainstErase qN_X1 qC_yX1_reasonAgainstErase (by decide +kernel) ⟨Nat.le_of_ble_eq_true rfl, Nat.le_of_ble_eq_true rfl⟩ (by rfl) o16 rfl hl.1 rfl (Nat.le_of_ble_eq_true rfl) dX9_erase_16 ⟨Nat.le_of_ble_eq_true rfl, Nat.le_of_ble_eq_true rfl⟩ (fun H locs hG => ?_)
  refine g_xSv (As := [.int q16.2]) (rest := []) (n := 1) hx hb hml hown hts hK hlo hG (m_X9_checkAllowed l hfl dd cT lo q16.1 q16.2 h) qM_X9_275 qT_yX9_checkAllowed qN_X9 qC_yX9_checkAllowed (by decide +kernel) ⟨Nat.le_of_ble_eq_true rfl, Nat.le_of_ble_eq_true rfl⟩ rfl hl.1 rfl (Nat.le_of_ble_eq_true rfl) dX9_erase_19 ⟨Nat.le_of_ble_eq_true rfl, Nat.le_of_ble_eq_true rfl⟩ (fun E ce q9 G1 H locs hKX hG a1 a2 a3 => g_out hlocks hnone hG a1 a2 a3 hKX (Nat.le_of_ble_eq_true rfl) (Nat.le_of_ble_eq_true rfl)) (fun G19 H locs h hG => ?_)
  refine lv_aload_n hx hb dX9_erase_22 rfl (lv_at hl 0 rfl) ?_
  obtain ⟨v23, e23, h⟩ := h
  refine g_getr hx hb hts inlX9 hown hK hG (by rfl) 2 (by decide) qF_X9_26 e23 dX9_erase_23 ?_
  refine lv_aload_n hx hb dX9_erase_26 rfl (lv_at hl 0 rfl) ?_
  obtain ⟨v27, e27, h⟩ := h
  refine g_getr hx hb hts inlX9 hown hK hG (by rfl) 5 (by decide) qF_X9_47 e27 dX9_erase_27 ?_
  obtain ⟨u30, o30, h⟩ := h
  refine g_wVv (As := [.ref v27]) (rest := []) (n := 1) hx hb hml hown hts hK hlo hG (m_X2_keep l dd cT lo G19 v23 v27 h) qM_X9_278 qI_yX2_keep qS_X2_yX2_keep qN_X2 qC_yX2_keep (by decide +kernel) ⟨Nat.le_of_ble_eq_true rfl, Nat.le_of_ble_eq_true rfl⟩ (by rfl) o30 rfl hl.1 rfl (Nat.le_of_ble_eq_true rfl) dX9_erase_30 ⟨Nat.le_of_ble_eq_true rfl, Nat.le_of_ble_eq_true rfl⟩ (fun G30 H locs h hG => ?_)
  refine lv_aload_n hx hb dX9_erase_33 rfl (lv_at hl 0 rfl) ?_
  obtain ⟨v34, e34, h⟩ := h
  refine g_getr hx hb hts inlX9 hown hK hG (by rfl) 5 (by decide) qF_X9_47 e34 dX9_erase_34 ?_
  refine lv_iload_n hx hb dX9_erase_37 rfl (lv_at hl 1 rfl) ?_
  obtain ⟨u38, o38, h⟩ := h
  obtain ⟨G38, e38, h⟩ := h
  refine g_cVv (As := [.int x1]) (rest := []) (n := 1) hx hb hml hown hts hK hlo hG (m_X1_eraseFile l dd cT lo G30 v34 x1 e38) qM_X9_289 qI_yX1_eraseFile qS_X1_yX1_eraseFile qN_X1 qC_yX1_eraseFile (by decide +kernel) ⟨Nat.le_of_ble_eq_true rfl, Nat.le_of_ble_eq_true rfl⟩ (by rfl) o38 rfl hl.1 rfl (Nat.le_of_ble_eq_true rfl) dX9_erase_38 ⟨Nat.le_of_ble_eq_true rfl, Nat.le_of_ble_eq_true rfl⟩ (fun H locs hG => ?_)
  refine lv_aload_n hx hb dX9_erase_41 rfl (lv_at hl 0 rfl) ?_
  obtain ⟨v42, e42, h⟩ := h
  refine g_getr hx hb hts inlX9 hown hK hG (by rfl) 5 (by decide) qF_X9_47 e42 dX9_erase_42 ?_
  obtain ⟨v45, e45, h⟩ := h
  refine g_getr hx hb hts inlX1 hown hK hG (by rfl) 6 (by decide) qF_X9_136 e45 dX9_erase_45 ?_
  refine lv_aload_n hx hb dX9_erase_48 rfl (lv_at hl 0 rfl) ?_
  obtain ⟨v49, e49, h⟩ := h
  refine g_getr hx hb hts inlX9 hown hK hG (by rfl) 5 (by decide) qF_X9_47 e49 dX9_erase_49 ?_
  obtain ⟨u52, o52, h⟩ := h
  obtain ⟨q52, e52, h⟩ := h
  refine g_cVr (As := [.ref v49]) (rest := []) (n := 1) hx hb hml hown hts hK hlo hG (m_X8_lookAt l dd cT lo G38 v45 v49 e52) qM_X9_139 qI_yX8_lookAt qS_X8_yX8_lookAt qN_X8 qC_yX8_lookAt (by decide +kernel) ⟨Nat.le_of_ble_eq_true rfl, Nat.le_of_ble_eq_true rfl⟩ (by rfl) o52 rfl hl.1 rfl (Nat.le_of_ble_eq_true rfl) dX9_erase_52 ⟨Nat.le_of_ble_eq_true rfl, Nat.le_of_ble_eq_true rfl⟩ (fun H locs hG => ?_)
  obtain ⟨u55, o55, h⟩ := h
  obtain ⟨v55, e55, h⟩ := h
  refine g_cVi (As := []) (rest := []) (n := 0) hx hb hml hown hts hK hlo hG (m_X8_filesThere l dd cT lo q52.1 q52.2 e55) qM_X9_143 qI_yX8_filesThere qS_X8_yX8_filesThere qN_X8 qC_yX8_filesThere (by decide +kernel) ⟨Nat.le_of_ble_eq_true rfl, Nat.le_of_ble_eq_true rfl⟩ (by rfl) o55 rfl hl.1 rfl (Nat.le_of_ble_eq_true rfl) dX9_erase_55 ⟨Nat.le_of_ble_eq_true rfl, Nat.le_of_ble_eq_true rfl⟩ (fun H locs hG => ?_)
  refine W.widen (k := 32) (n := 1649) (Nat.le_of_ble_eq_true rfl) (Nat.le_of_ble_eq_true rfl) ?_
  exact vx_ret (g_iret hx hb hr hlocks hK hlo hG h dX9_erase_58)
set_option maxRecDepth 20000 in
set_option maxHeartbeats 4000000 in
theorem m_X9_close (l : Launch) (hfl : l.stackTraces = false) (dd : va_G) (cT : Nat → ClassId) (lo : Nat → Prop) (G : gH) (a0 : Nat) {KX : String → gH → Prop} {K : Int32 → gH → Prop} (h : w_X9_close G a0 KX K) : vx_Met l yX9_close (Cond.code yX9_close cX9_close 1 (some .int) :: wsL_law) (g_rm 7 124 31 1643) (va_Pc [.ref a0] (g_Pre lo dd cT G)) (va_Qi K (g_Pre lo dd cT) (g_A lo)) (g_XC lo dd cT KX) 31 1643 (g_A lo) := by
  refine g_startX RX9 rfl (by decide) (Nat.le_of_ble_eq_true rfl) ?_
  intro p e s m below meth c hx hb hr hlocks hml hnone hown hnm hts hK hG hlo ls hl
  have hl : lv_has ls 1 [(0, .ref a0)] := hl
  have hG : g_S lo dd cT s s.heap [] G := hG
  unfold w_X9_close at h
  refine lv_aload_n hx hb dX9_close_0 rfl (lv_at hl 0 rfl) ?_
  obtain ⟨v1, e1, h⟩ := h
  refine g_getr hx hb hts inlX9 hown hK hG (by rfl) 5 (by decide) qF_X9_47 e1 dX9_close_1 ?_
  obtain ⟨u4, o4, h⟩ := h
  obtain ⟨v4, e4, h⟩ := h
  refine g_cVi (As := []) (rest := []) (n := 0) hx hb hml hown hts hK hlo hG (m_X1_reasonAgainstClose l dd cT lo G v1 e4) qM_X9_252 qI_yX1_reasonAgainstClose qS_X1_yX1_reasonAgainstClose qN_X1 qC_yX1_reasonAgainstClose (by decide +kernel) ⟨Nat.le_of_ble_eq_true rfl, Nat.le_of_ble_eq_true rfl⟩ (by rfl) o4 rfl hl.1 rfl (Nat.le_of_ble_eq_true rfl) dX9_close_4 ⟨Nat.le_of_ble_eq_true rfl, Nat.le_of_ble_eq_true rfl⟩ (fun H locs hG => ?_)
  refine g_xSv (As := [.int v4]) (rest := []) (n := 1) hx hb hml hown hts hK hlo hG (m_X9_checkAllowed l hfl dd cT lo G v4 h) qM_X9_275 qT_yX9_checkAllowed qN_X9 qC_yX9_checkAllowed (by decide +kernel) ⟨Nat.le_of_ble_eq_true rfl, Nat.le_of_ble_eq_true rfl⟩ rfl hl.1 rfl (Nat.le_of_ble_eq_true rfl) dX9_close_7 ⟨Nat.le_of_ble_eq_true rfl, Nat.le_of_ble_eq_true rfl⟩ (fun E ce q9 G1 H locs hKX hG a1 a2 a3 => g_out hlocks hnone hG a1 a2 a3 hKX (Nat.le_of_ble_eq_true rfl) (Nat.le_of_ble_eq_true rfl)) (fun G7 H locs h hG => ?_)
  refine lv_aload_n hx hb dX9_close_10 rfl (lv_at hl 0 rfl) ?_
  obtain ⟨v11, e11, h⟩ := h
  refine g_getr hx hb hts inlX9 hown hK hG (by rfl) 2 (by decide) qF_X9_26 e11 dX9_close_11 ?_
  refine lv_aload_n hx hb dX9_close_14 rfl (lv_at hl 0 rfl) ?_
  obtain ⟨v15, e15, h⟩ := h
  refine g_getr hx hb hts inlX9 hown hK hG (by rfl) 5 (by decide) qF_X9_47 e15 dX9_close_15 ?_
  obtain ⟨u18, o18, h⟩ := h
  refine g_wVv (As := [.ref v15]) (rest := []) (n := 1) hx hb hml hown hts hK hlo hG (m_X2_keep l dd cT lo G7 v11 v15 h) qM_X9_278 qI_yX2_keep qS_X2_yX2_keep qN_X2 qC_yX2_keep (by decide +kernel) ⟨Nat.le_of_ble_eq_true rfl, Nat.le_of_ble_eq_true rfl⟩ (by rfl) o18 rfl hl.1 rfl (Nat.le_of_ble_eq_true rfl) dX9_close_18 ⟨Nat.le_of_ble_eq_true rfl, Nat.le_of_ble_eq_true rfl⟩ (fun G18 H locs h hG => ?_)
  refine lv_aload_n hx hb dX9_close_21 rfl (lv_at hl 0 rfl) ?_
  obtain ⟨v22, e22, h⟩ := h
  refine g_getr hx hb hts inlX9 hown hK hG (by rfl) 5 (by decide) qF_X9_47 e22 dX9_close_22 ?_
  obtain ⟨u25, o25, h⟩ := h
  obtain ⟨q25, e25, h⟩ := h
  refine g_cVi (As := []) (rest := []) (n := 0) hx hb hml hown hts hK hlo hG (m_X1_closeSession l dd cT lo G18 v22 e25) qM_X9_292 qI_yX1_closeSession qS_X1_yX1_closeSession qN_X1 qC_yX1_closeSession (by decide +kernel) ⟨Nat.le_of_ble_eq_true rfl, Nat.le_of_ble_eq_true rfl⟩ (by rfl) o25 rfl hl.1 rfl (Nat.le_of_ble_eq_true rfl) dX9_close_25 ⟨Nat.le_of_ble_eq_true rfl, Nat.le_of_ble_eq_true rfl⟩ (fun H locs hG => ?_)
  refine W.widen (k := 31) (n := 1643) (Nat.le_of_ble_eq_true rfl) (Nat.le_of_ble_eq_true rfl) ?_
  exact vx_ret (g_iret hx hb hr hlocks hK hlo hG h dX9_close_28)
set_option maxRecDepth 20000 in
set_option maxHeartbeats 4000000 in
theorem m_X9_crash (l : Launch) (hfl : l.stackTraces = false) (dd : va_G) (cT : Nat → ClassId) (lo : Nat → Prop) (G : gH) (a0 : Nat) {KX : String → gH → Prop} {K : Int32 → gH → Prop} (h : w_X9_crash G a0 KX K) : vx_Met l yX9_crash (Cond.code yX9_crash cX9_crash 1 (some .int) :: wsL_law) (g_rm 7 124 31 1643) (va_Pc [.ref a0] (g_Pre lo dd cT G)) (va_Qi K (g_Pre lo dd cT) (g_A lo)) (g_XC lo dd cT KX) 31 1643 (g_A lo) := by
  refine g_startX RX9 rfl (by decide) (Nat.le_of_ble_eq_true rfl) ?_
  intro p e s m below meth c hx hb hr hlocks hml hnone hown hnm hts hK hG hlo ls hl
  have hl : lv_has ls 1 [(0, .ref a0)] := hl
  have hG : g_S lo dd cT s s.heap [] G := hG
  unfold w_X9_crash at h
  refine lv_aload_n hx hb dX9_crash_0 rfl (lv_at hl 0 rfl) ?_
  obtain ⟨v1, e1, h⟩ := h
  refine g_getr hx hb hts inlX9 hown hK hG (by rfl) 5 (by decide) qF_X9_47 e1 dX9_crash_1 ?_
  obtain ⟨u4, o4, h⟩ := h
  obtain ⟨v4, e4, h⟩ := h
  refine g_cVi (As := []) (rest := []) (n := 0) hx hb hml hown hts hK hlo hG (m_X1_reasonAgainstCrash l dd cT lo G v1 e4) qM_X9_255 qI_yX1_reasonAgainstCrash qS_X1_yX1_reasonAgainstCrash qN_X1 qC_yX1_reasonAgainstCrash (by decide +kernel) ⟨Nat.le_of_ble_eq_true rfl, Nat.le_of_ble_eq_true rfl⟩ (by rfl) o4 rfl hl.1 rfl (Nat.le_of_ble_eq_true rfl) dX9_crash_4 ⟨Nat.le_of_ble_eq_true rfl, Nat.le_of_ble_eq_true rfl⟩ (fun H locs hG => ?_)
  refine g_xSv (As := [.int v4]) (rest := []) (n := 1) hx hb hml hown hts hK hlo hG (m_X9_checkAllowed l hfl dd cT lo G v4 h) qM_X9_275 qT_yX9_checkAllowed qN_X9 qC_yX9_checkAllowed (by decide +kernel) ⟨Nat.le_of_ble_eq_true rfl, Nat.le_of_ble_eq_true rfl⟩ rfl hl.1 rfl (Nat.le_of_ble_eq_true rfl) dX9_crash_7 ⟨Nat.le_of_ble_eq_true rfl, Nat.le_of_ble_eq_true rfl⟩ (fun E ce q9 G1 H locs hKX hG a1 a2 a3 => g_out hlocks hnone hG a1 a2 a3 hKX (Nat.le_of_ble_eq_true rfl) (Nat.le_of_ble_eq_true rfl)) (fun G7 H locs h hG => ?_)
  refine lv_aload_n hx hb dX9_crash_10 rfl (lv_at hl 0 rfl) ?_
  obtain ⟨v11, e11, h⟩ := h
  refine g_getr hx hb hts inlX9 hown hK hG (by rfl) 2 (by decide) qF_X9_26 e11 dX9_crash_11 ?_
  refine lv_aload_n hx hb dX9_crash_14 rfl (lv_at hl 0 rfl) ?_
  obtain ⟨v15, e15, h⟩ := h
  refine g_getr hx hb hts inlX9 hown hK hG (by rfl) 5 (by decide) qF_X9_47 e15 dX9_crash_15 ?_
  obtain ⟨u18, o18, h⟩ := h
  refine g_wVv (As := [.ref v15]) (rest := []) (n := 1) hx hb hml hown hts hK hlo hG (m_X2_keep l dd cT lo G7 v11 v15 h) qM_X9_278 qI_yX2_keep qS_X2_yX2_keep qN_X2 qC_yX2_keep (by decide +kernel) ⟨Nat.le_of_ble_eq_true rfl, Nat.le_of_ble_eq_true rfl⟩ (by rfl) o18 rfl hl.1 rfl (Nat.le_of_ble_eq_true rfl) dX9_crash_18 ⟨Nat.le_of_ble_eq_true rfl, Nat.le_of_ble_eq_true rfl⟩ (fun G18 H locs h hG => ?_)
  refine lv_aload_n hx hb dX9_crash_21 rfl (lv_at hl 0 rfl) ?_
  obtain ⟨v22, e22, h⟩ := h
  refine g_getr hx hb hts inlX9 hown hK hG (by rfl) 5 (by decide) qF_X9_47 e22 dX9_crash_22 ?_
  obtain ⟨u25, o25, h⟩ := h
  obtain ⟨q25, e25, h⟩ := h
  refine g_cVi (As := []) (rest := []) (n := 0) hx hb hml hown hts hK hlo hG (m_X1_loseSession l dd cT lo G18 v22 e25) qM_X9_295 qI_yX1_loseSession qS_X1_yX1_loseSession qN_X1 qC_yX1_loseSession (by decide +kernel) ⟨Nat.le_of_ble_eq_true rfl, Nat.le_of_ble_eq_true rfl⟩ (by rfl) o25 rfl hl.1 rfl (Nat.le_of_ble_eq_true rfl) dX9_crash_25 ⟨Nat.le_of_ble_eq_true rfl, Nat.le_of_ble_eq_true rfl⟩ (fun H locs hG => ?_)
  refine W.widen (k := 31) (n := 1643) (Nat.le_of_ble_eq_true rfl) (Nat.le_of_ble_eq_true rfl) ?_
  exact vx_ret (g_iret hx hb hr hlocks hK hlo hG h dX9_crash_28)
set_option maxRecDepth 20000 in
set_option maxHeartbeats 4000000 in
theorem m_X9_recover (l : Launch) (hfl : l.stackTraces = false) (dd : va_G) (cT : Nat → ClassId) (lo : Nat → Prop) (G : gH) (a0 : Nat) {KX : String → gH → Prop} {K : Int32 → gH → Prop} (h : w_X9_recover G a0 KX K) : vx_Met l yX9_recover (Cond.code yX9_recover cX9_recover 1 (some .int) :: wsL_law) (g_rm 7 138 31 1643) (va_Pc [.ref a0] (g_Pre lo dd cT G)) (va_Qi K (g_Pre lo dd cT) (g_A lo)) (g_XC lo dd cT KX) 31 1643 (g_A lo) := by
  refine g_startX RX9 rfl (by decide) (Nat.le_of_ble_eq_true rfl) ?_
  intro p e s m below meth c hx hb hr hlocks hml hnone hown hnm hts hK hG hlo ls hl
  have hl : lv_has ls 1 [(0, .ref a0)] := hl
  have hG : g_S lo dd cT s s.heap [] G := hG
  unfold w_X9_recover at h
  refine lv_aload_n hx hb dX9_recover_0 rfl (lv_at hl 0 rfl) ?_
  obtain ⟨v1, e1, h⟩ := h
  refine g_getr hx hb hts inlX9 hown hK hG (by rfl) 5 (by decide) qF_X9_47 e1 dX9_recover_1 ?_
  obtain ⟨u4, o4, h⟩ := h
  obtain ⟨v4, e4, h⟩ := h
  refine g_cVi (As := []) (rest := []) (n := 0) hx hb hml hown hts hK hlo hG (m_X1_reasonAgainstRecover l dd cT lo G v1 e4) qM_X9_258 qI_yX1_reasonAgainstRecover qS_X1_yX1_reasonAgainstRecover qN_X1 qC_yX1_reasonAgainstRecover (by decide +kernel) ⟨Nat.le_of_ble_eq_true rfl, Nat.le_of_ble_eq_true rfl⟩ (by rfl) o4 rfl hl.1 rfl (Nat.le_of_ble_eq_true rfl) dX9_recover_4 ⟨Nat.le_of_ble_eq_true rfl, Nat.le_of_ble_eq_true rfl⟩ (fun H locs hG => ?_)
  refine g_xSv (As := [.int v4]) (rest := []) (n := 1) hx hb hml hown hts hK hlo hG (m_X9_checkAllowed l hfl dd cT lo G v4 h) qM_X9_275 qT_yX9_checkAllowed qN_X9 qC_yX9_checkAllowed (by decide +kernel) ⟨Nat.le_of_ble_eq_true rfl, Nat.le_of_ble_eq_true rfl⟩ rfl hl.1 rfl (Nat.le_of_ble_eq_true rfl) dX9_recover_7 ⟨Nat.le_of_ble_eq_true rfl, Nat.le_of_ble_eq_true rfl⟩ (fun E ce q9 G1 H locs hKX hG a1 a2 a3 => g_out hlocks hnone hG a1 a2 a3 hKX (Nat.le_of_ble_eq_true rfl) (Nat.le_of_ble_eq_true rfl)) (fun G7 H locs h hG => ?_)
  refine lv_aload_n hx hb dX9_recover_10 rfl (lv_at hl 0 rfl) ?_
  obtain ⟨v11, e11, h⟩ := h
  refine g_getr hx hb hts inlX9 hown hK hG (by rfl) 2 (by decide) qF_X9_26 e11 dX9_recover_11 ?_
  refine lv_aload_n hx hb dX9_recover_14 rfl (lv_at hl 0 rfl) ?_
  obtain ⟨v15, e15, h⟩ := h
  refine g_getr hx hb hts inlX9 hown hK hG (by rfl) 5 (by decide) qF_X9_47 e15 dX9_recover_15 ?_
  obtain ⟨u18, o18, h⟩ := h
  refine g_wVv (As := [.ref v15]) (rest := []) (n := 1) hx hb hml hown hts hK hlo hG (m_X2_keep l dd cT lo G7 v11 v15 h) qM_X9_278 qI_yX2_keep qS_X2_yX2_keep qN_X2 qC_yX2_keep (by decide +kernel) ⟨Nat.le_of_ble_eq_true rfl, Nat.le_of_ble_eq_true rfl⟩ (by rfl) o18 rfl hl.1 rfl (Nat.le_of_ble_eq_true rfl) dX9_recover_18 ⟨Nat.le_of_ble_eq_true rfl, Nat.le_of_ble_eq_true rfl⟩ (fun G18 H locs h hG => ?_)
  refine lv_aload_n hx hb dX9_recover_21 rfl (lv_at hl 0 rfl) ?_
  obtain ⟨v22, e22, h⟩ := h
  refine g_getr hx hb hts inlX9 hown hK hG (by rfl) 5 (by decide) qF_X9_47 e22 dX9_recover_22 ?_
  obtain ⟨u25, o25, h⟩ := h
  obtain ⟨q25, e25, h⟩ := h
  refine g_cVi (As := []) (rest := []) (n := 0) hx hb hml hown hts hK hlo hG (m_X1_recoverSession l dd cT lo G18 v22 e25) qM_X9_298 qI_yX1_recoverSession qS_X1_yX1_recoverSession qN_X1 qC_yX1_recoverSession (by decide +kernel) ⟨Nat.le_of_ble_eq_true rfl, Nat.le_of_ble_eq_true rfl⟩ (by rfl) o25 rfl hl.1 rfl (Nat.le_of_ble_eq_true rfl) dX9_recover_25 ⟨Nat.le_of_ble_eq_true rfl, Nat.le_of_ble_eq_true rfl⟩ (fun H locs hG => ?_)
  refine W.widen (k := 31) (n := 1643) (Nat.le_of_ble_eq_true rfl) (Nat.le_of_ble_eq_true rfl) ?_
  exact vx_ret (g_iret hx hb hr hlocks hK hlo hG h dX9_recover_28)
set_option maxRecDepth 20000 in
set_option maxHeartbeats 4000000 in
theorem m_X9_scratch (l : Launch) (hfl : l.stackTraces = false) (dd : va_G) (cT : Nat → ClassId) (lo : Nat → Prop) (G : gH) (a0 : Nat) (x1 : Int32) {KX : String → gH → Prop} {K : Int32 → gH → Prop} (h : w_X9_scratch G a0 x1 KX K) : vx_Met l yX9_scratch (Cond.code yX9_scratch cX9_scratch 2 (some .boolean) :: wsL_law) (g_rm 7 124 31 1643) (va_Pc [.ref a0, .int x1] (g_Pre lo dd cT G)) (va_Qi K (g_Pre lo dd cT) (g_A lo)) (g_XC lo dd cT KX) 31 1643 (g_A lo) := by
  refine g_startX RX9 rfl (by decide) (Nat.le_of_ble_eq_true rfl) ?_
  intro p e s m below meth c hx hb hr hlocks hml hnone hown hnm hts hK hG hlo ls hl
  have hl : lv_has ls 2 [(0, .ref a0), (1, .int x1)] := hl
  have hG : g_S lo dd cT s s.heap [] G := hG
  unfold w_X9_scratch at h
  refine lv_iload_n hx hb dX9_scratch_0 rfl (lv_at hl 1 rfl) ?_
  refine lv_aload_n hx hb dX9_scratch_1 rfl (lv_at hl 0 rfl) ?_
  obtain ⟨v2, e2, h⟩ := h
  refine g_getr hx hb hts inlX9 hown hK hG (by rfl) 5 (by decide) qF_X9_47 e2 dX9_scratch_2 ?_
  obtain ⟨v5, e5, h⟩ := h
  refine g_getr hx hb hts inlX1 hown hK hG (by rfl) 0 (by decide) qF_X9_106 e5 dX9_scratch_5 ?_
  obtain ⟨v8, e8, h⟩ := h
  refine g_geti hx hb hts inlX0 hown hK hG (by rfl) 0 (by decide) qF_X9_110 e8 dX9_scratch_8 ?_
  refine g_xSv (As := [.int x1, .int v8]) (rest := []) (n := 2) hx hb hml hown hts hK hlo hG (m_X9_checkIndex l hfl dd cT lo G x1 v8 h) qM_X9_179 qT_yX9_checkIndex qN_X9 qC_yX9_checkIndex (by decide +kernel) ⟨Nat.le_of_ble_eq_true rfl, Nat.le_of_ble_eq_true rfl⟩ rfl hl.1 rfl (Nat.le_of_ble_eq_true rfl) dX9_scratch_11 ⟨Nat.le_of_ble_eq_true rfl, Nat.le_of_ble_eq_true rfl⟩ (fun E ce q9 G1 H locs hKX hG a1 a2 a3 => g_out hlocks hnone hG a1 a2 a3 hKX (Nat.le_of_ble_eq_true rfl) (Nat.le_of_ble_eq_true rfl)) (fun G11 H locs h hG => ?_)
  refine lv_aload_n hx hb dX9_scratch_14 rfl (lv_at hl 0 rfl) ?_
  obtain ⟨v15, e15, h⟩ := h
  refine g_getr hx hb hts inlX9 hown hK hG (by rfl) 2 (by decide) qF_X9_26 e15 dX9_scratch_15 ?_
  refine lv_aload_n hx hb dX9_scratch_18 rfl (lv_at hl 0 rfl) ?_
  obtain ⟨v19, e19, h⟩ := h
  refine g_getr hx hb hts inlX9 hown hK hG (by rfl) 5 (by decide) qF_X9_47 e19 dX9_scratch_19 ?_
  obtain ⟨u22, o22, h⟩ := h
  refine g_wVv (As := [.ref v19]) (rest := []) (n := 1) hx hb hml hown hts hK hlo hG (m_X2_keep l dd cT lo G11 v15 v19 h) qM_X9_278 qI_yX2_keep qS_X2_yX2_keep qN_X2 qC_yX2_keep (by decide +kernel) ⟨Nat.le_of_ble_eq_true rfl, Nat.le_of_ble_eq_true rfl⟩ (by rfl) o22 rfl hl.1 rfl (Nat.le_of_ble_eq_true rfl) dX9_scratch_22 ⟨Nat.le_of_ble_eq_true rfl, Nat.le_of_ble_eq_true rfl⟩ (fun G22 H locs h hG => ?_)
  refine lv_aload_n hx hb dX9_scratch_25 rfl (lv_at hl 0 rfl) ?_
  obtain ⟨v26, e26, h⟩ := h
  refine g_getr hx hb hts inlX9 hown hK hG (by rfl) 5 (by decide) qF_X9_47 e26 dX9_scratch_26 ?_
  obtain ⟨v29, e29, h⟩ := h
  refine g_getr hx hb hts inlX1 hown hK hG (by rfl) 0 (by decide) qF_X9_106 e29 dX9_scratch_29 ?_
  refine lv_iload_n hx hb dX9_scratch_32 rfl (lv_at hl 1 rfl) ?_
  obtain ⟨u33, o33, h⟩ := h
  obtain ⟨q33, e33, h⟩ := h
  refine g_cVi (As := [.int x1]) (rest := []) (n := 1) hx hb hml hown hts hK hlo hG (m_X0_damage l dd cT lo G22 v29 x1 e33) qM_X9_301 qI_yX0_damage qS_X0_yX0_damage qN_X0 qC_yX0_damage (by decide +kernel) ⟨Nat.le_of_ble_eq_true rfl, Nat.le_of_ble_eq_true rfl⟩ (by rfl) o33 rfl hl.1 rfl (Nat.le_of_ble_eq_true rfl) dX9_scratch_33 ⟨Nat.le_of_ble_eq_true rfl, Nat.le_of_ble_eq_true rfl⟩ (fun H locs hG => ?_)
  obtain ⟨w36, e36, h⟩ := h
  obtain ⟨n36, rfl⟩ := g_z_nar e36
  refine W.widen (k := 31) (n := 1643) (Nat.le_of_ble_eq_true rfl) (Nat.le_of_ble_eq_true rfl) ?_
  exact vx_ret (g_zret hx hb hr hlocks hK hlo hG n36 h dX9_scratch_36)
set_option maxRecDepth 20000 in
set_option maxHeartbeats 4000000 in
theorem m_X9_setScan (l : Launch) (dd : va_G) (cT : Nat → ClassId) (lo : Nat → Prop) (G : gH) (a0 : Nat) (x1 : Int32) {K : Int32 → gH → Prop} (h : w_X9_setScan G a0 x1 K) : Met l yX9_setScan (Cond.code yX9_setScan cX9_setScan 3 (some .boolean) :: wsL_law) (g_rm 5 124 30 1637) (va_Pc [.ref a0, .int x1] (g_Pre lo dd cT G)) (va_Qi K (g_Pre lo dd cT) (g_A lo)) 30 1637 (g_A lo) := by
  refine g_start RX9 rfl (by decide) (Nat.le_of_ble_eq_true rfl) ?_
  intro p e s m below meth c hx hb hr hlocks hml hown hnm hts hK hG hlo ls hl
  have hl : lv_has ls 3 [(0, .ref a0), (1, .int x1)] := hl
  have hG : g_S lo dd cT s s.heap [] G := hG
  unfold w_X9_setScan at h
  refine lv_aload_n hx hb dX9_setScan_0 rfl (lv_at hl 0 rfl) ?_
  obtain ⟨v1, e1, h⟩ := h
  refine g_getr hx hb hts inlX9 hown hK hG (by rfl) 2 (by decide) qF_X9_26 e1 dX9_setScan_1 ?_
  refine lv_aload_n hx hb dX9_setScan_4 rfl (lv_at hl 0 rfl) ?_
  obtain ⟨v5, e5, h⟩ := h
  refine g_getr hx hb hts inlX9 hown hK hG (by rfl) 5 (by decide) qF_X9_47 e5 dX9_setScan_5 ?_
  obtain ⟨u8, o8, h⟩ := h
  refine g_wVv (As := [.ref v5]) (rest := []) (n := 1) hx hb hml hown hts hK hlo hG (m_X2_keep l dd cT lo G v1 v5 h) qM_X9_278 qI_yX2_keep qS_X2_yX2_keep qN_X2 qC_yX2_keep (by decide +kernel) ⟨Nat.le_of_ble_eq_true rfl, Nat.le_of_ble_eq_true rfl⟩ (by rfl) o8 rfl hl.1 rfl (Nat.le_of_ble_eq_true rfl) dX9_setScan_8 ⟨Nat.le_of_ble_eq_true rfl, Nat.le_of_ble_eq_true rfl⟩ (fun G8 H locs h hG => ?_)
  refine lv_aload_n hx hb dX9_setScan_11 rfl (lv_at hl 0 rfl) ?_
  obtain ⟨v12, e12, h⟩ := h
  refine g_getr hx hb hts inlX9 hown hK hG (by rfl) 5 (by decide) qF_X9_47 e12 dX9_setScan_12 ?_
  obtain ⟨v15, e15, h⟩ := h
  refine g_geti hx hb hts inlX1 hown hK hG (by rfl) 5 (by decide) qF_X9_157 e15 dX9_setScan_15 ?_
  refine lv_istore_n (lv' := [(2, .int v15), (0, .ref a0), (1, .int x1)]) hx hb dX9_setScan_18 rfl hl (by decide) rfl (fun ls hl => ?_)
  refine lv_aload_n hx hb dX9_setScan_19 rfl (lv_at hl 1 rfl) ?_
  obtain ⟨v20, e20, h⟩ := h
  refine g_getr hx hb hts inlX9 hown hK hG (by rfl) 5 (by decide) qF_X9_47 e20 dX9_setScan_20 ?_
  refine lv_iload_n hx hb dX9_setScan_23 rfl (lv_at hl 2 rfl) ?_
  obtain ⟨w24, e24, h⟩ := h
  obtain ⟨n24, rfl⟩ := g_z_nar e24
  obtain ⟨G24, i24, h⟩ := h
  refine g_putv hx hb hts inlX1 tyX1 tyX1_ok nmX1 hown hK hG (by rfl) 5 (by decide) qF_X9_157 rfl rfl n24 (g_z_fit e24) i24 dX9_setScan_24 (fun H locs hG => ?_)
  refine lv_iload_n hx hb dX9_setScan_27 rfl (lv_at hl 0 rfl) ?_
  obtain ⟨w28, e28, h⟩ := h
  obtain ⟨n28, rfl⟩ := g_z_nar e28
  refine W.widen (k := 30) (n := 1637) (Nat.le_of_ble_eq_true rfl) (Nat.le_of_ble_eq_true rfl) ?_
  exact g_zret hx hb hr hlocks hK hlo hG n28 h dX9_setScan_28

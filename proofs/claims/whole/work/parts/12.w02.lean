/-! What makes cells or throws: by program (wip/whole/tools/wlift.py). -/
def w_X9_checkAllowed (G : gH) (x0 : Int32) (KX : String → gH → Prop) (K : gH → Prop) : Prop :=
    if x0 = 0 then
    K G
    else
    KX g_xISE G
set_option maxRecDepth 20000 in
set_option maxHeartbeats 4000000 in
theorem m_X9_checkAllowed (l : Launch) (hfl : l.stackTraces = false) (dd : va_G) (cT : Nat → ClassId) (lo : Nat) (G : gH) (x0 : Int32) {KX : String → gH → Prop} {K : gH → Prop} (h : w_X9_checkAllowed G x0 KX K) : vx_Met l yX9_checkAllowed (Cond.code yX9_checkAllowed cX9_checkAllowed 1 none :: wsL_law) (g_rm 6 82 1 6) (va_Pc [.int x0] (g_Pre lo dd cT G)) (va_Qv K (g_Pre lo dd cT) (g_A lo)) (g_XC lo dd cT KX) 1 6 (g_A lo) := by
  refine g_startX RX9 rfl (by decide) (Nat.le_of_ble_eq_true rfl) ?_
  intro p e s m below meth c hx hb hr hlocks hml hnone hown hnm hts hK hG hlo ls hl
  have hl : lv_has ls 1 [(0, .int x0)] := hl
  have hG : g_S lo dd cT s s.heap [] G := hG
  unfold w_X9_checkAllowed at h
  refine lv_iload_n hx hb dX9_checkAllowed_0 rfl (lv_at hl 0 rfl) ?_
  refine lv_if_eq (tgt := 15) hx hb dX9_checkAllowed_1 (by decide) (fun c1 => ?_) (fun c1 => ?_)
  · rw [if_pos c1] at h
    refine W.widen (k := 1) (n := 6) (Nat.le_of_ble_eq_true rfl) (Nat.le_of_ble_eq_true rfl) ?_
    exact vx_ret (g_vret hx hb hr hlocks hK hlo hG h dX9_checkAllowed_15)
  · rw [if_neg c1] at h
    exact g_throw (text := "this is refused now") hx hb (hml.trans hl.1.symm) hfl hown hts hlocks hnone hG (by decide +kernel) (List.mem_of_getElem? (i := 3) rfl) qL_X9_315 qN_java_lang_IllegalStateException g_inISE (by decide +kernel) (by decide +kernel) rfl dX9_checkAllowed_4 dX9_checkAllowed_7 dX9_checkAllowed_8 dX9_checkAllowed_11 dX9_checkAllowed_14 ⟨Nat.le_of_ble_eq_true rfl, Nat.le_of_ble_eq_true rfl⟩ ⟨Nat.le_of_ble_eq_true rfl, Nat.le_of_ble_eq_true rfl⟩ h (Nat.le_of_ble_eq_true rfl) (Nat.le_of_ble_eq_true rfl)
def w_X9_restoreSnapshot (G : gH) (a0 : Nat) (x1 : Int32) (KX : String → gH → Prop) (K : Int32 → gH → Prop) : Prop :=
    w_X9_checkIndex G x1 (2 : Int32) KX (fun G2 =>
    ∃ v6, g_r G2 a0 9 3 = some v6 ∧
    ∃ u10, g_ob G2 v6 6 = some u10 ∧
    ∃ v10, f_X6_isStored G2 v6 x1 = some v10 ∧
    if v10 = 0 then
    KX g_xISE G2
    else
    ∃ v28, g_r G2 a0 9 3 = some v28 ∧
    ∃ v33, g_r G2 a0 9 5 = some v33 ∧
    ∃ u36, g_ob G2 v28 6 = some u36 ∧
    w_X6_load G2 v28 x1 v33 (fun G36 =>
    ∃ v40, g_r G36 a0 9 2 = some v40 ∧
    ∃ u43, g_ob G36 v40 2 = some u43 ∧
    ∃ G43, f_X2_clear G36 v40 = some G43 ∧
    ∃ v47, g_r G43 a0 9 5 = some v47 ∧
    ∃ v50, g_r G43 v47 1 2 = some v50 ∧
    ∃ v53, g_i G43 v50 5 0 = some v53 ∧
    K v53 G43))
set_option maxRecDepth 20000 in
set_option maxHeartbeats 4000000 in
theorem m_X9_restoreSnapshot (l : Launch) (hfl : l.stackTraces = false) (dd : va_G) (cT : Nat → ClassId) (lo : Nat) (G : gH) (a0 : Nat) (x1 : Int32) {KX : String → gH → Prop} {K : Int32 → gH → Prop} (h : w_X9_restoreSnapshot G a0 x1 KX K) : vx_Met l yX9_restoreSnapshot (Cond.code yX9_restoreSnapshot cX9_restoreSnapshot 2 (some .int) :: wsL_law) (g_rm 7 108 2 12) (va_Pc [.ref a0, .int x1] (g_Pre lo dd cT G)) (va_Qi K (g_Pre lo dd cT) (g_A lo)) (g_XC lo dd cT KX) 2 12 (g_A lo) := by
  refine g_startX RX9 rfl (by decide) (Nat.le_of_ble_eq_true rfl) ?_
  intro p e s m below meth c hx hb hr hlocks hml hnone hown hnm hts hK hG hlo ls hl
  have hl : lv_has ls 2 [(0, .ref a0), (1, .int x1)] := hl
  have hG : g_S lo dd cT s s.heap [] G := hG
  unfold w_X9_restoreSnapshot at h
  refine lv_iload_n hx hb dX9_restoreSnapshot_0 rfl (lv_at hl 1 rfl) ?_
  refine lv_iconst (v := (2 : Int32)) hx hb dX9_restoreSnapshot_1 (by decide) ?_
  refine g_xSv (As := [.int x1, .int (2 : Int32)]) (rest := []) (n := 2) hx hb hml hown hts hK hlo hG (m_X9_checkIndex l hfl dd cT lo G x1 (2 : Int32) h) qM_X9_179 qT_yX9_checkIndex qN_X9 qC_yX9_checkIndex (by decide +kernel) ⟨Nat.le_of_ble_eq_true rfl, Nat.le_of_ble_eq_true rfl⟩ rfl hl.1 rfl (Nat.le_of_ble_eq_true rfl) dX9_restoreSnapshot_2 ⟨Nat.le_of_ble_eq_true rfl, Nat.le_of_ble_eq_true rfl⟩ (fun E ce q9 G1 H locs hKX hG a1 a2 a3 => g_out hlocks hnone hG a1 a2 a3 hKX (Nat.le_of_ble_eq_true rfl) (Nat.le_of_ble_eq_true rfl)) (fun G2 H locs h hG => ?_)
  refine lv_aload_n hx hb dX9_restoreSnapshot_5 rfl (lv_at hl 0 rfl) ?_
  obtain ⟨v6, e6, h⟩ := h
  refine g_getr hx hb hts inlX9 hown hK hG (by rfl) 3 (by decide) qF_X9_33 e6 dX9_restoreSnapshot_6 ?_
  refine lv_iload_n hx hb dX9_restoreSnapshot_9 rfl (lv_at hl 1 rfl) ?_
  obtain ⟨u10, o10, h⟩ := h
  obtain ⟨v10, e10, h⟩ := h
  refine g_cVi (As := [.int x1]) (rest := []) (n := 1) hx hb hml hown hts hK hlo hG (m_X6_isStored l dd cT lo G2 v6 x1 e10) qM_X9_308 qI_yX6_isStored qS_X6_yX6_isStored qN_X6 qC_yX6_isStored (by decide +kernel) ⟨Nat.le_of_ble_eq_true rfl, Nat.le_of_ble_eq_true rfl⟩ (by rfl) o10 rfl hl.1 rfl (Nat.le_of_ble_eq_true rfl) dX9_restoreSnapshot_10 ⟨Nat.le_of_ble_eq_true rfl, Nat.le_of_ble_eq_true rfl⟩ (fun H locs hG => ?_)
  refine lv_if_ne (tgt := 27) hx hb dX9_restoreSnapshot_13 (by decide) (fun c13 => ?_) (fun c13 => ?_)
  · rw [if_neg c13] at h
    refine lv_aload_n hx hb dX9_restoreSnapshot_27 rfl (lv_at hl 0 rfl) ?_
    obtain ⟨v28, e28, h⟩ := h
    refine g_getr hx hb hts inlX9 hown hK hG (by rfl) 3 (by decide) qF_X9_33 e28 dX9_restoreSnapshot_28 ?_
    refine lv_iload_n hx hb dX9_restoreSnapshot_31 rfl (lv_at hl 1 rfl) ?_
    refine lv_aload_n hx hb dX9_restoreSnapshot_32 rfl (lv_at hl 0 rfl) ?_
    obtain ⟨v33, e33, h⟩ := h
    refine g_getr hx hb hts inlX9 hown hK hG (by rfl) 5 (by decide) qF_X9_47 e33 dX9_restoreSnapshot_33 ?_
    obtain ⟨u36, o36, h⟩ := h
    refine g_wVv (As := [.int x1, .ref v33]) (rest := []) (n := 2) hx hb hml hown hts hK hlo hG (m_X6_load l dd cT lo G2 v28 x1 v33 h) qM_X9_322 qI_yX6_load qS_X6_yX6_load qN_X6 qC_yX6_load (by decide +kernel) ⟨Nat.le_of_ble_eq_true rfl, Nat.le_of_ble_eq_true rfl⟩ (by rfl) o36 rfl hl.1 rfl (Nat.le_of_ble_eq_true rfl) dX9_restoreSnapshot_36 ⟨Nat.le_of_ble_eq_true rfl, Nat.le_of_ble_eq_true rfl⟩ (fun G36 H locs h hG => ?_)
    refine lv_aload_n hx hb dX9_restoreSnapshot_39 rfl (lv_at hl 0 rfl) ?_
    obtain ⟨v40, e40, h⟩ := h
    refine g_getr hx hb hts inlX9 hown hK hG (by rfl) 2 (by decide) qF_X9_26 e40 dX9_restoreSnapshot_40 ?_
    obtain ⟨u43, o43, h⟩ := h
    obtain ⟨G43, e43, h⟩ := h
    refine g_cVv (As := []) (rest := []) (n := 0) hx hb hml hown hts hK hlo hG (m_X2_clear l dd cT lo G36 v40 e43) qM_X9_99 qI_yX2_clear qS_X2_yX2_clear qN_X2 qC_yX2_clear (by decide +kernel) ⟨Nat.le_of_ble_eq_true rfl, Nat.le_of_ble_eq_true rfl⟩ (by rfl) o43 rfl hl.1 rfl (Nat.le_of_ble_eq_true rfl) dX9_restoreSnapshot_43 ⟨Nat.le_of_ble_eq_true rfl, Nat.le_of_ble_eq_true rfl⟩ (fun H locs hG => ?_)
    refine lv_aload_n hx hb dX9_restoreSnapshot_46 rfl (lv_at hl 0 rfl) ?_
    obtain ⟨v47, e47, h⟩ := h
    refine g_getr hx hb hts inlX9 hown hK hG (by rfl) 5 (by decide) qF_X9_47 e47 dX9_restoreSnapshot_47 ?_
    obtain ⟨v50, e50, h⟩ := h
    refine g_getr hx hb hts inlX1 hown hK hG (by rfl) 2 (by decide) qF_X9_119 e50 dX9_restoreSnapshot_50 ?_
    obtain ⟨v53, e53, h⟩ := h
    refine g_geti hx hb hts inlX5 hown hK hG (by rfl) 0 (by decide) qF_X9_123 e53 dX9_restoreSnapshot_53 ?_
    refine W.widen (k := 2) (n := 12) (Nat.le_of_ble_eq_true rfl) (Nat.le_of_ble_eq_true rfl) ?_
    exact vx_ret (g_iret hx hb hr hlocks hK hlo hG h dX9_restoreSnapshot_56)
  · rw [if_pos c13] at h
    exact g_throw (text := "the slot is empty") hx hb (hml.trans hl.1.symm) hfl hown hts hlocks hnone hG (by decide +kernel) (List.mem_of_getElem? (i := 0) rfl) qL_X9_315 qN_java_lang_IllegalStateException g_inISE (by decide +kernel) (by decide +kernel) rfl dX9_restoreSnapshot_16 dX9_restoreSnapshot_19 dX9_restoreSnapshot_20 dX9_restoreSnapshot_23 dX9_restoreSnapshot_26 ⟨Nat.le_of_ble_eq_true rfl, Nat.le_of_ble_eq_true rfl⟩ ⟨Nat.le_of_ble_eq_true rfl, Nat.le_of_ble_eq_true rfl⟩ h (Nat.le_of_ble_eq_true rfl) (Nat.le_of_ble_eq_true rfl)
def f_X9_parse_J100 (G : gH) (ba0 : Nat) : Option (gH × Int32) :=
    (g_r G ba0 9 1).bind fun v101 =>
    (g_i G v101 4 0).bind fun v104 =>
    if v104 = 0 then
    (g_r G ba0 9 5).bind fun v111 =>
    (g_r G ba0 9 6).bind fun v117 =>
    (g_put G ba0 9 5 (.ref v117)).bind fun G120 =>
    (g_put G120 ba0 9 6 (.ref v111)).bind fun G125 =>
    (g_r G125 ba0 9 2).bind fun v129 =>
    (g_ob G125 v129 2).bind fun u132 =>
    (f_X2_clear G125 v129).bind fun G132 =>
    (g_r G132 ba0 9 3).bind fun v136 =>
    (g_ob G132 v136 6).bind fun u139 =>
    (f_X6_clear G132 v136).bind fun G139 =>
    (g_r G139 ba0 9 1).bind fun v143 =>
    (g_i G139 v143 4 0).bind fun v146 =>
    some (G139, v146)
    else
    (g_r G ba0 9 1).bind fun v143 =>
    (g_i G v143 4 0).bind fun v146 =>
    some (G, v146)
def f_X9_parse_L45 : Nat → gH → Nat → Int32 → Option (gH × Int32)
  | 0, _, _, _ => none
  | n + 1, G, ba0, bx2 =>
    (g_r G ba0 9 1).bind fun v47 =>
    (g_i G v47 4 6).bind fun v50 =>
    if v50 ≤ bx2 then
    f_X9_parse_J100 G ba0
    else
    (g_r G ba0 9 6).bind fun v57 =>
    (g_r G ba0 9 1).bind fun v61 =>
    (g_ob G v57 1).bind fun u65 =>
    (f_X1_reasonAgainstStatement G v57 v61 bx2).bind fun q65 =>
    if q65.2 = 0 then
    (g_r q65.1 ba0 9 6).bind fun v83 =>
    (g_r q65.1 ba0 9 1).bind fun v87 =>
    (g_ob q65.1 v83 1).bind fun u91 =>
    (f_X1_doStatement q65.1 v83 v87 bx2).bind fun G91 =>
    f_X9_parse_L45 n G91 ba0 (bx2 + (1 : Int32))
    else
    (g_r q65.1 ba0 9 1).bind fun v72 =>
    (g_ob q65.1 v72 4).bind fun u76 =>
    (f_X4_refuseStatement q65.1 v72 bx2).bind fun G76 =>
    f_X9_parse_J100 G76 ba0
def w_X9_parse (G : gH) (a0 : Nat) (x1 : Int32) (KX : String → gH → Prop) (K : Int32 → gH → Prop) : Prop :=
    ∃ v3, g_r G a0 9 0 = some v3 ∧
    ∃ v6, g_i G v3 3 1 = some v6 ∧
    w_X9_checkRange G x1 (0 : Int32) v6 KX (fun G9 =>
    ∃ v13, g_r G9 a0 9 1 = some v13 ∧
    ∃ v17, g_r G9 a0 9 0 = some v17 ∧
    ∃ u21, g_ob G9 v13 4 = some u21 ∧
    ∃ G21, f_X4_read G9 v13 v17 x1 = some G21 ∧
    ∃ v25, g_r G21 a0 9 0 = some v25 ∧
    ∃ G29, g_put G21 v25 3 1 (.int (0 : Int32)) = some G29 ∧
    ∃ v33, g_r G29 a0 9 6 = some v33 ∧
    ∃ v37, g_r G29 a0 9 1 = some v37 ∧
    ∃ u40, g_ob G29 v33 1 = some u40 ∧
    ∃ G40, f_X1_begin G29 v33 v37 = some G40 ∧
    ∃ q45, f_X9_parse_L45 g_N G40 a0 (0 : Int32) = some q45 ∧ K q45.2 q45.1)
set_option maxRecDepth 20000 in
set_option maxHeartbeats 4000000 in
theorem m_X9_parse (l : Launch) (hfl : l.stackTraces = false) (dd : va_G) (cT : Nat → ClassId) (lo : Nat) (G : gH) (a0 : Nat) (x1 : Int32) {KX : String → gH → Prop} {K : Int32 → gH → Prop} (h : w_X9_parse G a0 x1 KX K) : vx_Met l yX9_parse (Cond.code yX9_parse cX9_parse 3 (some .int) :: wsL_law) (g_rm 9 198 1 6) (va_Pc [.ref a0, .int x1] (g_Pre lo dd cT G)) (va_Qi K (g_Pre lo dd cT) (g_A lo)) (g_XC lo dd cT KX) 1 6 (g_A lo) := by
  refine g_startX RX9 rfl (by decide) (Nat.le_of_ble_eq_true rfl) ?_
  intro p e s m below meth c hx hb hr hlocks hml hnone hown hnm hts hK hG hlo ls hl
  have hl : lv_has ls 3 [(0, .ref a0), (1, .int x1)] := hl
  have hG : g_S lo dd cT s s.heap [] G := hG
  unfold w_X9_parse at h
  refine lv_iload_n hx hb dX9_parse_0 rfl (lv_at hl 1 rfl) ?_
  refine lv_iconst (v := (0 : Int32)) hx hb dX9_parse_1 (by decide) ?_
  refine lv_aload_n hx hb dX9_parse_2 rfl (lv_at hl 0 rfl) ?_
  obtain ⟨v3, e3, h⟩ := h
  refine g_getr hx hb hts inlX9 hown hK hG (by rfl) 0 (by decide) qF_X9_12 e3 dX9_parse_3 ?_
  obtain ⟨v6, e6, h⟩ := h
  refine g_geti hx hb hts inlX3 hown hK hG (by rfl) 1 (by decide) qF_X9_66 e6 dX9_parse_6 ?_
  refine g_xSv (As := [.int x1, .int (0 : Int32), .int v6]) (rest := []) (n := 3) hx hb hml hown hts hK hlo hG (m_X9_checkRange l hfl dd cT lo G x1 (0 : Int32) v6 h) qM_X9_70 qT_yX9_checkRange qN_X9 qC_yX9_checkRange (by decide +kernel) ⟨Nat.le_of_ble_eq_true rfl, Nat.le_of_ble_eq_true rfl⟩ rfl hl.1 rfl (Nat.le_of_ble_eq_true rfl) dX9_parse_9 ⟨Nat.le_of_ble_eq_true rfl, Nat.le_of_ble_eq_true rfl⟩ (fun E ce q9 G1 H locs hKX hG a1 a2 a3 => g_out hlocks hnone hG a1 a2 a3 hKX (Nat.le_of_ble_eq_true rfl) (Nat.le_of_ble_eq_true rfl)) (fun G9 H locs h hG => ?_)
  refine lv_aload_n hx hb dX9_parse_12 rfl (lv_at hl 0 rfl) ?_
  obtain ⟨v13, e13, h⟩ := h
  refine g_getr hx hb hts inlX9 hown hK hG (by rfl) 1 (by decide) qF_X9_19 e13 dX9_parse_13 ?_
  refine lv_aload_n hx hb dX9_parse_16 rfl (lv_at hl 0 rfl) ?_
  obtain ⟨v17, e17, h⟩ := h
  refine g_getr hx hb hts inlX9 hown hK hG (by rfl) 0 (by decide) qF_X9_12 e17 dX9_parse_17 ?_
  refine lv_iload_n hx hb dX9_parse_20 rfl (lv_at hl 1 rfl) ?_
  obtain ⟨u21, o21, h⟩ := h
  obtain ⟨G21, e21, h⟩ := h
  refine g_cVv (As := [.ref v17, .int x1]) (rest := []) (n := 2) hx hb hml hown hts hK hlo hG (m_X4_read l dd cT lo G9 v13 v17 x1 e21) qM_X9_74 qI_yX4_read qS_X4_yX4_read qN_X4 qC_yX4_read (by decide +kernel) ⟨Nat.le_of_ble_eq_true rfl, Nat.le_of_ble_eq_true rfl⟩ (by rfl) o21 rfl hl.1 rfl (Nat.le_of_ble_eq_true rfl) dX9_parse_21 ⟨Nat.le_of_ble_eq_true rfl, Nat.le_of_ble_eq_true rfl⟩ (fun H locs hG => ?_)
  refine lv_aload_n hx hb dX9_parse_24 rfl (lv_at hl 0 rfl) ?_
  obtain ⟨v25, e25, h⟩ := h
  refine g_getr hx hb hts inlX9 hown hK hG (by rfl) 0 (by decide) qF_X9_12 e25 dX9_parse_25 ?_
  refine lv_iconst (v := (0 : Int32)) hx hb dX9_parse_28 (by decide) ?_
  obtain ⟨G29, i29, h⟩ := h
  refine g_putv hx hb hts inlX3 tyX3 tyX3_ok nmX3 hown hK hG (by rfl) 1 (by decide) qF_X9_66 rfl rfl rfl rfl i29 dX9_parse_29 (fun H locs hG => ?_)
  refine lv_aload_n hx hb dX9_parse_32 rfl (lv_at hl 0 rfl) ?_
  obtain ⟨v33, e33, h⟩ := h
  refine g_getr hx hb hts inlX9 hown hK hG (by rfl) 6 (by decide) qF_X9_51 e33 dX9_parse_33 ?_
  refine lv_aload_n hx hb dX9_parse_36 rfl (lv_at hl 0 rfl) ?_
  obtain ⟨v37, e37, h⟩ := h
  refine g_getr hx hb hts inlX9 hown hK hG (by rfl) 1 (by decide) qF_X9_19 e37 dX9_parse_37 ?_
  obtain ⟨u40, o40, h⟩ := h
  obtain ⟨G40, e40, h⟩ := h
  refine g_cVv (As := [.ref v37]) (rest := []) (n := 1) hx hb hml hown hts hK hlo hG (m_X1_begin l dd cT lo G29 v33 v37 e40) qM_X9_78 qI_yX1_begin qS_X1_yX1_begin qN_X1 qC_yX1_begin (by decide +kernel) ⟨Nat.le_of_ble_eq_true rfl, Nat.le_of_ble_eq_true rfl⟩ (by rfl) o40 rfl hl.1 rfl (Nat.le_of_ble_eq_true rfl) dX9_parse_40 ⟨Nat.le_of_ble_eq_true rfl, Nat.le_of_ble_eq_true rfl⟩ (fun H locs hG => ?_)
  refine lv_iconst (v := (0 : Int32)) hx hb dX9_parse_43 (by decide) ?_
  refine lv_istore_n (lv' := [(2, .int (0 : Int32)), (0, .ref a0), (1, .int x1)]) hx hb dX9_parse_44 rfl hl (by decide) rfl (fun ls hl => ?_)
  obtain ⟨⟨Gz, rz⟩, h, hk⟩ := h
  have h100 : ∀ (G : gH) (ba0 : Nat), ∀ (H : Heap) (locs : List Loc), g_S lo dd cT s H locs G → ∀ ls : Array Slot, lv_has ls 3 [(0, .ref ba0)] → f_X9_parse_J100 G ba0 = some (Gz, rz) → W p l e (g_rm 9 198 1 6) s m ([.ref a0, .int x1] : List Value).toArray below meth c H locs 1 6 (vx_MQ below (va_Qi K (g_Pre lo dd cT) (g_A lo)) (g_XC lo dd cT KX) ([.ref a0, .int x1] : List Value).toArray s 1 6 (g_A lo)) (F0 m 100 ls []) := by
    intro G ba0 H locs hG ls hl h
    unfold f_X9_parse_J100 at h
    refine lv_aload_n hx hb dX9_parse_100 rfl (lv_at hl 0 rfl) ?_
    obtain ⟨v101, e101, h⟩ := Option.bind_eq_some_iff.mp h
    refine g_getr hx hb hts inlX9 hown hK hG (by rfl) 1 (by decide) qF_X9_19 e101 dX9_parse_101 ?_
    obtain ⟨v104, e104, h⟩ := Option.bind_eq_some_iff.mp h
    refine g_geti hx hb hts inlX4 hown hK hG (by rfl) 0 (by decide) qF_X9_96 e104 dX9_parse_104 ?_
    refine lv_if_ne (tgt := 142) hx hb dX9_parse_107 (by decide) (fun c107 => ?_) (fun c107 => ?_)
    · rw [if_neg c107] at h
      refine lv_aload_n hx hb dX9_parse_142 rfl (lv_at hl 0 rfl) ?_
      obtain ⟨v143, e143, h⟩ := Option.bind_eq_some_iff.mp h
      refine g_getr hx hb hts inlX9 hown hK hG (by rfl) 1 (by decide) qF_X9_19 e143 dX9_parse_143 ?_
      obtain ⟨v146, e146, h⟩ := Option.bind_eq_some_iff.mp h
      refine g_geti hx hb hts inlX4 hown hK hG (by rfl) 0 (by decide) qF_X9_96 e146 dX9_parse_146 ?_
      obtain ⟨rfl, rfl⟩ := Prod.mk.inj (Option.some.inj h)
      exact vx_ret (g_iret hx hb hr hlocks hK hlo hG hk dX9_parse_149)
    · rw [if_pos c107] at h
      refine lv_aload_n hx hb dX9_parse_110 rfl (lv_at hl 0 rfl) ?_
      obtain ⟨v111, e111, h⟩ := Option.bind_eq_some_iff.mp h
      refine g_getr hx hb hts inlX9 hown hK hG (by rfl) 5 (by decide) qF_X9_47 e111 dX9_parse_111 ?_
      refine lv_astore_n (lv' := [(2, .ref v111), (0, .ref ba0)]) hx hb dX9_parse_114 rfl hl (by decide) rfl (fun ls hl => ?_)
      refine lv_aload_n hx hb dX9_parse_115 rfl (lv_at hl 1 rfl) ?_
      refine lv_aload_n hx hb dX9_parse_116 rfl (lv_at hl 1 rfl) ?_
      obtain ⟨v117, e117, h⟩ := Option.bind_eq_some_iff.mp h
      refine g_getr hx hb hts inlX9 hown hK hG (by rfl) 6 (by decide) qF_X9_51 e117 dX9_parse_117 ?_
      obtain ⟨G120, i120, h⟩ := Option.bind_eq_some_iff.mp h
      refine g_putv hx hb hts inlX9 tyX9 tyX9_ok nmX9 hown hK hG (by rfl) 5 (by decide) qF_X9_47 rfl rfl rfl rfl i120 dX9_parse_120 (fun H locs hG => ?_)
      refine lv_aload_n hx hb dX9_parse_123 rfl (lv_at hl 1 rfl) ?_
      refine lv_aload_n hx hb dX9_parse_124 rfl (lv_at hl 0 rfl) ?_
      obtain ⟨G125, i125, h⟩ := Option.bind_eq_some_iff.mp h
      refine g_putv hx hb hts inlX9 tyX9 tyX9_ok nmX9 hown hK hG (by rfl) 6 (by decide) qF_X9_51 rfl rfl rfl rfl i125 dX9_parse_125 (fun H locs hG => ?_)
      refine lv_aload_n hx hb dX9_parse_128 rfl (lv_at hl 1 rfl) ?_
      obtain ⟨v129, e129, h⟩ := Option.bind_eq_some_iff.mp h
      refine g_getr hx hb hts inlX9 hown hK hG (by rfl) 2 (by decide) qF_X9_26 e129 dX9_parse_129 ?_
      obtain ⟨u132, i132, h⟩ := Option.bind_eq_some_iff.mp h
      obtain ⟨G132, e132, h⟩ := Option.bind_eq_some_iff.mp h
      refine g_cVv (As := []) (rest := []) (n := 0) hx hb hml hown hts hK hlo hG (m_X2_clear l dd cT lo G125 v129 e132) qM_X9_99 qI_yX2_clear qS_X2_yX2_clear qN_X2 qC_yX2_clear (by decide +kernel) ⟨Nat.le_of_ble_eq_true rfl, Nat.le_of_ble_eq_true rfl⟩ (by rfl) i132 rfl hl.1 rfl (Nat.le_of_ble_eq_true rfl) dX9_parse_132 ⟨Nat.le_of_ble_eq_true rfl, Nat.le_of_ble_eq_true rfl⟩ (fun H locs hG => ?_)
      refine lv_aload_n hx hb dX9_parse_135 rfl (lv_at hl 1 rfl) ?_
      obtain ⟨v136, e136, h⟩ := Option.bind_eq_some_iff.mp h
      refine g_getr hx hb hts inlX9 hown hK hG (by rfl) 3 (by decide) qF_X9_33 e136 dX9_parse_136 ?_
      obtain ⟨u139, i139, h⟩ := Option.bind_eq_some_iff.mp h
      obtain ⟨G139, e139, h⟩ := Option.bind_eq_some_iff.mp h
      refine g_cVv (As := []) (rest := []) (n := 0) hx hb hml hown hts hK hlo hG (m_X6_clear l dd cT lo G132 v136 e139) qM_X9_102 qI_yX6_clear qS_X6_yX6_clear qN_X6 qC_yX6_clear (by decide +kernel) ⟨Nat.le_of_ble_eq_true rfl, Nat.le_of_ble_eq_true rfl⟩ (by rfl) i139 rfl hl.1 rfl (Nat.le_of_ble_eq_true rfl) dX9_parse_139 ⟨Nat.le_of_ble_eq_true rfl, Nat.le_of_ble_eq_true rfl⟩ (fun H locs hG => ?_)
      refine lv_aload_n hx hb dX9_parse_142 rfl (lv_at hl 1 rfl) ?_
      obtain ⟨v143, e143, h⟩ := Option.bind_eq_some_iff.mp h
      refine g_getr hx hb hts inlX9 hown hK hG (by rfl) 1 (by decide) qF_X9_19 e143 dX9_parse_143 ?_
      obtain ⟨v146, e146, h⟩ := Option.bind_eq_some_iff.mp h
      refine g_geti hx hb hts inlX4 hown hK hG (by rfl) 0 (by decide) qF_X9_96 e146 dX9_parse_146 ?_
      obtain ⟨rfl, rfl⟩ := Prod.mk.inj (Option.some.inj h)
      exact vx_ret (g_iret hx hb hr hlocks hK hlo hG hk dX9_parse_149)
  have h45 : ∀ n : Nat, ∀ (G : gH) (ba0 : Nat) (bx2 : Int32), ∀ (H : Heap) (locs : List Loc), g_S lo dd cT s H locs G → ∀ ls : Array Slot, lv_has ls 3 [(0, .ref ba0), (2, .int bx2)] → f_X9_parse_L45 n G ba0 bx2 = some (Gz, rz) → W p l e (g_rm 9 198 1 6) s m ([.ref a0, .int x1] : List Value).toArray below meth c H locs 1 6 (vx_MQ below (va_Qi K (g_Pre lo dd cT) (g_A lo)) (g_XC lo dd cT KX) ([.ref a0, .int x1] : List Value).toArray s 1 6 (g_A lo)) (F0 m 45 ls []) := by
    intro n
    induction n with
    | zero =>
      intro G ba0 bx2 H locs hG ls hl h
      cases (show (none : Option (gH × Int32)) = some (Gz, rz) from h)
    | succ n ih =>
      intro G ba0 bx2 H locs hG ls hl h
      rw [f_X9_parse_L45] at h
      refine lv_iload_n hx hb dX9_parse_45 rfl (lv_at hl 1 rfl) ?_
      refine lv_aload_n hx hb dX9_parse_46 rfl (lv_at hl 0 rfl) ?_
      obtain ⟨v47, e47, h⟩ := Option.bind_eq_some_iff.mp h
      refine g_getr hx hb hts inlX9 hown hK hG (by rfl) 1 (by decide) qF_X9_19 e47 dX9_parse_47 ?_
      obtain ⟨v50, e50, h⟩ := Option.bind_eq_some_iff.mp h
      refine g_geti hx hb hts inlX4 hown hK hG (by rfl) 6 (by decide) qF_X9_82 e50 dX9_parse_50 ?_
      refine lv_icmp_ge (tgt := 100) hx hb dX9_parse_53 (by decide) (fun c53 => ?_) (fun c53 => ?_)
      · rw [if_pos c53] at h
        exact h100 G ba0 _ _ hG _ (lv_sub hl [0] rfl) h
      · rw [if_neg c53] at h
        refine lv_aload_n hx hb dX9_parse_56 rfl (lv_at hl 0 rfl) ?_
        obtain ⟨v57, e57, h⟩ := Option.bind_eq_some_iff.mp h
        refine g_getr hx hb hts inlX9 hown hK hG (by rfl) 6 (by decide) qF_X9_51 e57 dX9_parse_57 ?_
        refine lv_aload_n hx hb dX9_parse_60 rfl (lv_at hl 0 rfl) ?_
        obtain ⟨v61, e61, h⟩ := Option.bind_eq_some_iff.mp h
        refine g_getr hx hb hts inlX9 hown hK hG (by rfl) 1 (by decide) qF_X9_19 e61 dX9_parse_61 ?_
        refine lv_iload_n hx hb dX9_parse_64 rfl (lv_at hl 1 rfl) ?_
        obtain ⟨u65, i65, h⟩ := Option.bind_eq_some_iff.mp h
        obtain ⟨q65, e65, h⟩ := Option.bind_eq_some_iff.mp h
        refine g_cVi (As := [.ref v61, .int bx2]) (rest := []) (n := 2) hx hb hml hown hts hK hlo hG (m_X1_reasonAgainstStatement l dd cT lo G v57 v61 bx2 e65) qM_X9_85 qI_yX1_reasonAgainstStatement qS_X1_yX1_reasonAgainstStatement qN_X1 qC_yX1_reasonAgainstStatement (by decide +kernel) ⟨Nat.le_of_ble_eq_true rfl, Nat.le_of_ble_eq_true rfl⟩ (by rfl) i65 rfl hl.1 rfl (Nat.le_of_ble_eq_true rfl) dX9_parse_65 ⟨Nat.le_of_ble_eq_true rfl, Nat.le_of_ble_eq_true rfl⟩ (fun H locs hG => ?_)
        refine lv_if_eq (tgt := 82) hx hb dX9_parse_68 (by decide) (fun c68 => ?_) (fun c68 => ?_)
        · rw [if_pos c68] at h
          refine lv_aload_n hx hb dX9_parse_82 rfl (lv_at hl 0 rfl) ?_
          obtain ⟨v83, e83, h⟩ := Option.bind_eq_some_iff.mp h
          refine g_getr hx hb hts inlX9 hown hK hG (by rfl) 6 (by decide) qF_X9_51 e83 dX9_parse_83 ?_
          refine lv_aload_n hx hb dX9_parse_86 rfl (lv_at hl 0 rfl) ?_
          obtain ⟨v87, e87, h⟩ := Option.bind_eq_some_iff.mp h
          refine g_getr hx hb hts inlX9 hown hK hG (by rfl) 1 (by decide) qF_X9_19 e87 dX9_parse_87 ?_
          refine lv_iload_n hx hb dX9_parse_90 rfl (lv_at hl 1 rfl) ?_
          obtain ⟨u91, i91, h⟩ := Option.bind_eq_some_iff.mp h
          obtain ⟨G91, e91, h⟩ := Option.bind_eq_some_iff.mp h
          refine g_cVv (As := [.ref v87, .int bx2]) (rest := []) (n := 2) hx hb hml hown hts hK hlo hG (m_X1_doStatement l dd cT lo q65.1 v83 v87 bx2 e91) qM_X9_92 qI_yX1_doStatement qS_X1_yX1_doStatement qN_X1 qC_yX1_doStatement (by decide +kernel) ⟨Nat.le_of_ble_eq_true rfl, Nat.le_of_ble_eq_true rfl⟩ (by rfl) i91 rfl hl.1 rfl (Nat.le_of_ble_eq_true rfl) dX9_parse_91 ⟨Nat.le_of_ble_eq_true rfl, Nat.le_of_ble_eq_true rfl⟩ (fun H locs hG => ?_)
          refine lv_iinc (v := (bx2 + (1 : Int32))) (lv' := [(2, .int (bx2 + (1 : Int32))), (0, .ref ba0)]) hx hb dX9_parse_94 hl (k := 1) rfl rfl (by decide) rfl (fun ls hl => ?_)
          refine lv_goto (tgt := 45) hx hb dX9_parse_97 (by decide) ?_
          exact ih G91 ba0 (bx2 + (1 : Int32)) _ _ hG _ (lv_sub hl [1, 0] rfl) h
        · rw [if_neg c68] at h
          refine lv_aload_n hx hb dX9_parse_71 rfl (lv_at hl 0 rfl) ?_
          obtain ⟨v72, e72, h⟩ := Option.bind_eq_some_iff.mp h
          refine g_getr hx hb hts inlX9 hown hK hG (by rfl) 1 (by decide) qF_X9_19 e72 dX9_parse_72 ?_
          refine lv_iload_n hx hb dX9_parse_75 rfl (lv_at hl 1 rfl) ?_
          obtain ⟨u76, i76, h⟩ := Option.bind_eq_some_iff.mp h
          obtain ⟨G76, e76, h⟩ := Option.bind_eq_some_iff.mp h
          refine g_cVv (As := [.int bx2]) (rest := []) (n := 1) hx hb hml hown hts hK hlo hG (m_X4_refuseStatement l dd cT lo q65.1 v72 bx2 e76) qM_X9_89 qI_yX4_refuseStatement qS_X4_yX4_refuseStatement qN_X4 qC_yX4_refuseStatement (by decide +kernel) ⟨Nat.le_of_ble_eq_true rfl, Nat.le_of_ble_eq_true rfl⟩ (by rfl) i76 rfl hl.1 rfl (Nat.le_of_ble_eq_true rfl) dX9_parse_76 ⟨Nat.le_of_ble_eq_true rfl, Nat.le_of_ble_eq_true rfl⟩ (fun H locs hG => ?_)
          refine lv_goto (tgt := 100) hx hb dX9_parse_79 (by decide) ?_
          exact h100 G76 ba0 _ _ hG _ (lv_sub hl [0] rfl) h
  refine W.widen (k := 1) (n := 6) (Nat.le_of_ble_eq_true rfl) (Nat.le_of_ble_eq_true rfl) ?_
  exact h45 g_N G40 a0 (0 : Int32) _ _ hG _ (lv_sub hl [1, 0] rfl) h
def w_X9_size (G : gH) (a0 : Nat) (x1 : Int32) (KX : String → gH → Prop) (K : Int32 → gH → Prop) : Prop :=
    w_X9_checkRange G x1 (0 : Int32) (12 : Int32) KX (fun G4 =>
    if x1 = (0 : Int32) then
    ∃ v73, g_r G4 a0 9 5 = some v73 ∧
    ∃ v76, g_r G4 v73 1 0 = some v76 ∧
    ∃ v79, g_i G4 v76 0 0 = some v79 ∧
    K v79 G4
    else
    if x1 = (1 : Int32) then
    ∃ v84, g_r G4 a0 9 5 = some v84 ∧
    ∃ v87, g_r G4 v84 1 0 = some v87 ∧
    ∃ v90, g_i G4 v87 0 0 = some v90 ∧
    ∃ v94, g_r G4 a0 9 5 = some v94 ∧
    ∃ v97, g_r G4 v94 1 0 = some v97 ∧
    ∃ v100, g_i G4 v97 0 1 = some v100 ∧
    K (v90 - v100) G4
    else
    if x1 = (2 : Int32) then
    ∃ v106, g_r G4 a0 9 5 = some v106 ∧
    ∃ v109, g_i G4 v106 1 3 = some v109 ∧
    K v109 G4
    else
    if x1 = (3 : Int32) then
    ∃ v114, g_r G4 a0 9 5 = some v114 ∧
    ∃ v117, g_r G4 v114 1 2 = some v117 ∧
    ∃ v120, g_i G4 v117 5 0 = some v120 ∧
    K v120 G4
    else
    if x1 = (4 : Int32) then
    ∃ v125, g_r G4 a0 9 5 = some v125 ∧
    ∃ v128, g_r G4 v125 1 0 = some v128 ∧
    ∃ v131, g_i G4 v128 0 2 = some v131 ∧
    K v131 G4
    else
    if x1 = (5 : Int32) then
    ∃ v136, g_r G4 a0 9 5 = some v136 ∧
    ∃ v139, g_r G4 v136 1 0 = some v139 ∧
    ∃ u142, g_ob G4 v139 0 = some u142 ∧
    ∃ v142, f_X0_emptySpares G4 v139 = some v142 ∧
    K v142 G4
    else
    if x1 = (6 : Int32) then
    ∃ v147, g_r G4 a0 9 5 = some v147 ∧
    ∃ v150, g_r G4 v147 1 0 = some v150 ∧
    ∃ u153, g_ob G4 v150 0 = some u153 ∧
    ∃ v153, f_X0_badOnes G4 v150 = some v153 ∧
    K v153 G4
    else
    if x1 = (7 : Int32) then
    ∃ v158, g_r G4 a0 9 5 = some v158 ∧
    ∃ v161, g_r G4 v158 1 6 = some v161 ∧
    ∃ v165, g_r G4 a0 9 5 = some v165 ∧
    ∃ u168, g_ob G4 v161 8 = some u168 ∧
    ∃ q168, f_X8_lookAt G4 v161 v165 = some q168 ∧
    ∃ u171, g_ob q168.1 q168.2 8 = some u171 ∧
    ∃ v171, f_X8_filesThere q168.1 q168.2 = some v171 ∧
    K v171 q168.1
    else
    if x1 = (8 : Int32) then
    ∃ v176, g_r G4 a0 9 5 = some v176 ∧
    ∃ v179, g_r G4 v176 1 6 = some v179 ∧
    ∃ v183, g_r G4 a0 9 5 = some v183 ∧
    ∃ u186, g_ob G4 v179 8 = some u186 ∧
    ∃ q186, f_X8_lookAt G4 v179 v183 = some q186 ∧
    ∃ u189, g_ob q186.1 q186.2 8 = some u189 ∧
    ∃ v189, f_X8_filesReadable q186.1 q186.2 = some v189 ∧
    K v189 q186.1
    else
    if x1 = (9 : Int32) then
    ∃ v194, g_r G4 a0 9 5 = some v194 ∧
    ∃ v197, g_r G4 v194 1 2 = some v197 ∧
    ∃ u200, g_ob G4 v197 5 = some u200 ∧
    ∃ v200, f_X5_isOpen G4 v197 = some v200 ∧
    ∃ v203, f_X9_oneIf G4 v200 = some v203 ∧
    K v203 G4
    else
    if x1 = (10 : Int32) then
    ∃ v208, g_r G4 a0 9 5 = some v208 ∧
    ∃ v211, g_i G4 v208 1 5 = some v211 ∧
    ∃ v214, f_X9_oneIf G4 v211 = some v214 ∧
    K v214 G4
    else
    if x1 = (11 : Int32) then
    ∃ v219, g_r G4 a0 9 2 = some v219 ∧
    ∃ v222, g_i G4 v219 2 0 = some v222 ∧
    K v222 G4
    else
    ∃ v227, g_r G4 a0 9 5 = some v227 ∧
    ∃ v230, g_r G4 v227 1 1 = some v230 ∧
    ∃ v233, g_i G4 v230 7 0 = some v233 ∧
    K v233 G4)
set_option maxRecDepth 20000 in
set_option maxHeartbeats 4000000 in
theorem m_X9_size (l : Launch) (hfl : l.stackTraces = false) (dd : va_G) (cT : Nat → ClassId) (lo : Nat) (G : gH) (a0 : Nat) (x1 : Int32) {KX : String → gH → Prop} {K : Int32 → gH → Prop} (h : w_X9_size G a0 x1 KX K) : vx_Met l yX9_size (Cond.code yX9_size cX9_size 2 (some .int) :: wsL_law) (g_rm 7 104 1 6) (va_Pc [.ref a0, .int x1] (g_Pre lo dd cT G)) (va_Qi K (g_Pre lo dd cT) (g_A lo)) (g_XC lo dd cT KX) 1 6 (g_A lo) := by
  refine g_startX RX9 rfl (by decide) (Nat.le_of_ble_eq_true rfl) ?_
  intro p e s m below meth c hx hb hr hlocks hml hnone hown hnm hts hK hG hlo ls hl
  have hl : lv_has ls 2 [(0, .ref a0), (1, .int x1)] := hl
  have hG : g_S lo dd cT s s.heap [] G := hG
  unfold w_X9_size at h
  refine lv_iload_n hx hb dX9_size_0 rfl (lv_at hl 1 rfl) ?_
  refine lv_iconst (v := (0 : Int32)) hx hb dX9_size_1 (by decide) ?_
  refine lv_bipush (v := (12 : Int32)) hx hb dX9_size_2 (by decide) ?_
  refine g_xSv (As := [.int x1, .int (0 : Int32), .int (12 : Int32)]) (rest := []) (n := 3) hx hb hml hown hts hK hlo hG (m_X9_checkRange l hfl dd cT lo G x1 (0 : Int32) (12 : Int32) h) qM_X9_70 qT_yX9_checkRange qN_X9 qC_yX9_checkRange (by decide +kernel) ⟨Nat.le_of_ble_eq_true rfl, Nat.le_of_ble_eq_true rfl⟩ rfl hl.1 rfl (Nat.le_of_ble_eq_true rfl) dX9_size_4 ⟨Nat.le_of_ble_eq_true rfl, Nat.le_of_ble_eq_true rfl⟩ (fun E ce q9 G1 H locs hKX hG a1 a2 a3 => g_out hlocks hnone hG a1 a2 a3 hKX (Nat.le_of_ble_eq_true rfl) (Nat.le_of_ble_eq_true rfl)) (fun G4 H locs h hG => ?_)
  refine lv_iload_n hx hb dX9_size_7 rfl (lv_at hl 1 rfl) ?_
  by_cases c8_0 : x1 = (0 : Int32)
  · rw [if_pos c8_0] at h
    refine g_swIn (tgt := 72) hx hb dX9_size_8 (0 : Int32) c8_0 (by decide) (by decide) 64 (by decide) (by decide) ?_
    refine lv_aload_n hx hb dX9_size_72 rfl (lv_at hl 0 rfl) ?_
    obtain ⟨v73, e73, h⟩ := h
    refine g_getr hx hb hts inlX9 hown hK hG (by rfl) 5 (by decide) qF_X9_47 e73 dX9_size_73 ?_
    obtain ⟨v76, e76, h⟩ := h
    refine g_getr hx hb hts inlX1 hown hK hG (by rfl) 0 (by decide) qF_X9_106 e76 dX9_size_76 ?_
    obtain ⟨v79, e79, h⟩ := h
    refine g_geti hx hb hts inlX0 hown hK hG (by rfl) 0 (by decide) qF_X9_110 e79 dX9_size_79 ?_
    refine W.widen (k := 1) (n := 6) (Nat.le_of_ble_eq_true rfl) (Nat.le_of_ble_eq_true rfl) ?_
    exact vx_ret (g_iret hx hb hr hlocks hK hlo hG h dX9_size_82)
  rw [if_neg c8_0] at h
  by_cases c8_1 : x1 = (1 : Int32)
  · rw [if_pos c8_1] at h
    refine g_swIn (tgt := 83) hx hb dX9_size_8 (1 : Int32) c8_1 (by decide) (by decide) 75 (by decide) (by decide) ?_
    refine lv_aload_n hx hb dX9_size_83 rfl (lv_at hl 0 rfl) ?_
    obtain ⟨v84, e84, h⟩ := h
    refine g_getr hx hb hts inlX9 hown hK hG (by rfl) 5 (by decide) qF_X9_47 e84 dX9_size_84 ?_
    obtain ⟨v87, e87, h⟩ := h
    refine g_getr hx hb hts inlX1 hown hK hG (by rfl) 0 (by decide) qF_X9_106 e87 dX9_size_87 ?_
    obtain ⟨v90, e90, h⟩ := h
    refine g_geti hx hb hts inlX0 hown hK hG (by rfl) 0 (by decide) qF_X9_110 e90 dX9_size_90 ?_
    refine lv_aload_n hx hb dX9_size_93 rfl (lv_at hl 0 rfl) ?_
    obtain ⟨v94, e94, h⟩ := h
    refine g_getr hx hb hts inlX9 hown hK hG (by rfl) 5 (by decide) qF_X9_47 e94 dX9_size_94 ?_
    obtain ⟨v97, e97, h⟩ := h
    refine g_getr hx hb hts inlX1 hown hK hG (by rfl) 0 (by decide) qF_X9_106 e97 dX9_size_97 ?_
    obtain ⟨v100, e100, h⟩ := h
    refine g_geti hx hb hts inlX0 hown hK hG (by rfl) 1 (by decide) qF_X9_113 e100 dX9_size_100 ?_
    refine lv_isub hx hb dX9_size_103 ?_
    refine W.widen (k := 1) (n := 6) (Nat.le_of_ble_eq_true rfl) (Nat.le_of_ble_eq_true rfl) ?_
    exact vx_ret (g_iret hx hb hr hlocks hK hlo hG h dX9_size_104)
  rw [if_neg c8_1] at h
  by_cases c8_2 : x1 = (2 : Int32)
  · rw [if_pos c8_2] at h
    refine g_swIn (tgt := 105) hx hb dX9_size_8 (2 : Int32) c8_2 (by decide) (by decide) 97 (by decide) (by decide) ?_
    refine lv_aload_n hx hb dX9_size_105 rfl (lv_at hl 0 rfl) ?_
    obtain ⟨v106, e106, h⟩ := h
    refine g_getr hx hb hts inlX9 hown hK hG (by rfl) 5 (by decide) qF_X9_47 e106 dX9_size_106 ?_
    obtain ⟨v109, e109, h⟩ := h
    refine g_geti hx hb hts inlX1 hown hK hG (by rfl) 3 (by decide) qF_X9_116 e109 dX9_size_109 ?_
    refine W.widen (k := 1) (n := 6) (Nat.le_of_ble_eq_true rfl) (Nat.le_of_ble_eq_true rfl) ?_
    exact vx_ret (g_iret hx hb hr hlocks hK hlo hG h dX9_size_112)
  rw [if_neg c8_2] at h
  by_cases c8_3 : x1 = (3 : Int32)
  · rw [if_pos c8_3] at h
    refine g_swIn (tgt := 113) hx hb dX9_size_8 (3 : Int32) c8_3 (by decide) (by decide) 105 (by decide) (by decide) ?_
    refine lv_aload_n hx hb dX9_size_113 rfl (lv_at hl 0 rfl) ?_
    obtain ⟨v114, e114, h⟩ := h
    refine g_getr hx hb hts inlX9 hown hK hG (by rfl) 5 (by decide) qF_X9_47 e114 dX9_size_114 ?_
    obtain ⟨v117, e117, h⟩ := h
    refine g_getr hx hb hts inlX1 hown hK hG (by rfl) 2 (by decide) qF_X9_119 e117 dX9_size_117 ?_
    obtain ⟨v120, e120, h⟩ := h
    refine g_geti hx hb hts inlX5 hown hK hG (by rfl) 0 (by decide) qF_X9_123 e120 dX9_size_120 ?_
    refine W.widen (k := 1) (n := 6) (Nat.le_of_ble_eq_true rfl) (Nat.le_of_ble_eq_true rfl) ?_
    exact vx_ret (g_iret hx hb hr hlocks hK hlo hG h dX9_size_123)
  rw [if_neg c8_3] at h
  by_cases c8_4 : x1 = (4 : Int32)
  · rw [if_pos c8_4] at h
    refine g_swIn (tgt := 124) hx hb dX9_size_8 (4 : Int32) c8_4 (by decide) (by decide) 116 (by decide) (by decide) ?_
    refine lv_aload_n hx hb dX9_size_124 rfl (lv_at hl 0 rfl) ?_
    obtain ⟨v125, e125, h⟩ := h
    refine g_getr hx hb hts inlX9 hown hK hG (by rfl) 5 (by decide) qF_X9_47 e125 dX9_size_125 ?_
    obtain ⟨v128, e128, h⟩ := h
    refine g_getr hx hb hts inlX1 hown hK hG (by rfl) 0 (by decide) qF_X9_106 e128 dX9_size_128 ?_
    obtain ⟨v131, e131, h⟩ := h
    refine g_geti hx hb hts inlX0 hown hK hG (by rfl) 2 (by decide) qF_X9_126 e131 dX9_size_131 ?_
    refine W.widen (k := 1) (n := 6) (Nat.le_of_ble_eq_true rfl) (Nat.le_of_ble_eq_true rfl) ?_
    exact vx_ret (g_iret hx hb hr hlocks hK hlo hG h dX9_size_134)
  rw [if_neg c8_4] at h
  by_cases c8_5 : x1 = (5 : Int32)
  · rw [if_pos c8_5] at h
    refine g_swIn (tgt := 135) hx hb dX9_size_8 (5 : Int32) c8_5 (by decide) (by decide) 127 (by decide) (by decide) ?_
    refine lv_aload_n hx hb dX9_size_135 rfl (lv_at hl 0 rfl) ?_
    obtain ⟨v136, e136, h⟩ := h
    refine g_getr hx hb hts inlX9 hown hK hG (by rfl) 5 (by decide) qF_X9_47 e136 dX9_size_136 ?_
    obtain ⟨v139, e139, h⟩ := h
    refine g_getr hx hb hts inlX1 hown hK hG (by rfl) 0 (by decide) qF_X9_106 e139 dX9_size_139 ?_
    obtain ⟨u142, o142, h⟩ := h
    obtain ⟨v142, e142, h⟩ := h
    refine g_cVi (As := []) (rest := []) (n := 0) hx hb hml hown hts hK hlo hG (m_X0_emptySpares l dd cT lo G4 v139 e142) qM_X9_129 qI_yX0_emptySpares qS_X0_yX0_emptySpares qN_X0 qC_yX0_emptySpares (by decide +kernel) ⟨Nat.le_of_ble_eq_true rfl, Nat.le_of_ble_eq_true rfl⟩ (by rfl) o142 rfl hl.1 rfl (Nat.le_of_ble_eq_true rfl) dX9_size_142 ⟨Nat.le_of_ble_eq_true rfl, Nat.le_of_ble_eq_true rfl⟩ (fun H locs hG => ?_)
    refine W.widen (k := 1) (n := 6) (Nat.le_of_ble_eq_true rfl) (Nat.le_of_ble_eq_true rfl) ?_
    exact vx_ret (g_iret hx hb hr hlocks hK hlo hG h dX9_size_145)
  rw [if_neg c8_5] at h
  by_cases c8_6 : x1 = (6 : Int32)
  · rw [if_pos c8_6] at h
    refine g_swIn (tgt := 146) hx hb dX9_size_8 (6 : Int32) c8_6 (by decide) (by decide) 138 (by decide) (by decide) ?_
    refine lv_aload_n hx hb dX9_size_146 rfl (lv_at hl 0 rfl) ?_
    obtain ⟨v147, e147, h⟩ := h
    refine g_getr hx hb hts inlX9 hown hK hG (by rfl) 5 (by decide) qF_X9_47 e147 dX9_size_147 ?_
    obtain ⟨v150, e150, h⟩ := h
    refine g_getr hx hb hts inlX1 hown hK hG (by rfl) 0 (by decide) qF_X9_106 e150 dX9_size_150 ?_
    obtain ⟨u153, o153, h⟩ := h
    obtain ⟨v153, e153, h⟩ := h
    refine g_cVi (As := []) (rest := []) (n := 0) hx hb hml hown hts hK hlo hG (m_X0_badOnes l dd cT lo G4 v150 e153) qM_X9_133 qI_yX0_badOnes qS_X0_yX0_badOnes qN_X0 qC_yX0_badOnes (by decide +kernel) ⟨Nat.le_of_ble_eq_true rfl, Nat.le_of_ble_eq_true rfl⟩ (by rfl) o153 rfl hl.1 rfl (Nat.le_of_ble_eq_true rfl) dX9_size_153 ⟨Nat.le_of_ble_eq_true rfl, Nat.le_of_ble_eq_true rfl⟩ (fun H locs hG => ?_)
    refine W.widen (k := 1) (n := 6) (Nat.le_of_ble_eq_true rfl) (Nat.le_of_ble_eq_true rfl) ?_
    exact vx_ret (g_iret hx hb hr hlocks hK hlo hG h dX9_size_156)
  rw [if_neg c8_6] at h
  by_cases c8_7 : x1 = (7 : Int32)
  · rw [if_pos c8_7] at h
    refine g_swIn (tgt := 157) hx hb dX9_size_8 (7 : Int32) c8_7 (by decide) (by decide) 149 (by decide) (by decide) ?_
    refine lv_aload_n hx hb dX9_size_157 rfl (lv_at hl 0 rfl) ?_
    obtain ⟨v158, e158, h⟩ := h
    refine g_getr hx hb hts inlX9 hown hK hG (by rfl) 5 (by decide) qF_X9_47 e158 dX9_size_158 ?_
    obtain ⟨v161, e161, h⟩ := h
    refine g_getr hx hb hts inlX1 hown hK hG (by rfl) 6 (by decide) qF_X9_136 e161 dX9_size_161 ?_
    refine lv_aload_n hx hb dX9_size_164 rfl (lv_at hl 0 rfl) ?_
    obtain ⟨v165, e165, h⟩ := h
    refine g_getr hx hb hts inlX9 hown hK hG (by rfl) 5 (by decide) qF_X9_47 e165 dX9_size_165 ?_
    obtain ⟨u168, o168, h⟩ := h
    obtain ⟨q168, e168, h⟩ := h
    refine g_cVr (As := [.ref v165]) (rest := []) (n := 1) hx hb hml hown hts hK hlo hG (m_X8_lookAt l dd cT lo G4 v161 v165 e168) qM_X9_139 qI_yX8_lookAt qS_X8_yX8_lookAt qN_X8 qC_yX8_lookAt (by decide +kernel) ⟨Nat.le_of_ble_eq_true rfl, Nat.le_of_ble_eq_true rfl⟩ (by rfl) o168 rfl hl.1 rfl (Nat.le_of_ble_eq_true rfl) dX9_size_168 ⟨Nat.le_of_ble_eq_true rfl, Nat.le_of_ble_eq_true rfl⟩ (fun H locs hG => ?_)
    obtain ⟨u171, o171, h⟩ := h
    obtain ⟨v171, e171, h⟩ := h
    refine g_cVi (As := []) (rest := []) (n := 0) hx hb hml hown hts hK hlo hG (m_X8_filesThere l dd cT lo q168.1 q168.2 e171) qM_X9_143 qI_yX8_filesThere qS_X8_yX8_filesThere qN_X8 qC_yX8_filesThere (by decide +kernel) ⟨Nat.le_of_ble_eq_true rfl, Nat.le_of_ble_eq_true rfl⟩ (by rfl) o171 rfl hl.1 rfl (Nat.le_of_ble_eq_true rfl) dX9_size_171 ⟨Nat.le_of_ble_eq_true rfl, Nat.le_of_ble_eq_true rfl⟩ (fun H locs hG => ?_)
    refine W.widen (k := 1) (n := 6) (Nat.le_of_ble_eq_true rfl) (Nat.le_of_ble_eq_true rfl) ?_
    exact vx_ret (g_iret hx hb hr hlocks hK hlo hG h dX9_size_174)
  rw [if_neg c8_7] at h
  by_cases c8_8 : x1 = (8 : Int32)
  · rw [if_pos c8_8] at h
    refine g_swIn (tgt := 175) hx hb dX9_size_8 (8 : Int32) c8_8 (by decide) (by decide) 167 (by decide) (by decide) ?_
    refine lv_aload_n hx hb dX9_size_175 rfl (lv_at hl 0 rfl) ?_
    obtain ⟨v176, e176, h⟩ := h
    refine g_getr hx hb hts inlX9 hown hK hG (by rfl) 5 (by decide) qF_X9_47 e176 dX9_size_176 ?_
    obtain ⟨v179, e179, h⟩ := h
    refine g_getr hx hb hts inlX1 hown hK hG (by rfl) 6 (by decide) qF_X9_136 e179 dX9_size_179 ?_
    refine lv_aload_n hx hb dX9_size_182 rfl (lv_at hl 0 rfl) ?_
    obtain ⟨v183, e183, h⟩ := h
    refine g_getr hx hb hts inlX9 hown hK hG (by rfl) 5 (by decide) qF_X9_47 e183 dX9_size_183 ?_
    obtain ⟨u186, o186, h⟩ := h
    obtain ⟨q186, e186, h⟩ := h
    refine g_cVr (As := [.ref v183]) (rest := []) (n := 1) hx hb hml hown hts hK hlo hG (m_X8_lookAt l dd cT lo G4 v179 v183 e186) qM_X9_139 qI_yX8_lookAt qS_X8_yX8_lookAt qN_X8 qC_yX8_lookAt (by decide +kernel) ⟨Nat.le_of_ble_eq_true rfl, Nat.le_of_ble_eq_true rfl⟩ (by rfl) o186 rfl hl.1 rfl (Nat.le_of_ble_eq_true rfl) dX9_size_186 ⟨Nat.le_of_ble_eq_true rfl, Nat.le_of_ble_eq_true rfl⟩ (fun H locs hG => ?_)
    obtain ⟨u189, o189, h⟩ := h
    obtain ⟨v189, e189, h⟩ := h
    refine g_cVi (As := []) (rest := []) (n := 0) hx hb hml hown hts hK hlo hG (m_X8_filesReadable l dd cT lo q186.1 q186.2 e189) qM_X9_146 qI_yX8_filesReadable qS_X8_yX8_filesReadable qN_X8 qC_yX8_filesReadable (by decide +kernel) ⟨Nat.le_of_ble_eq_true rfl, Nat.le_of_ble_eq_true rfl⟩ (by rfl) o189 rfl hl.1 rfl (Nat.le_of_ble_eq_true rfl) dX9_size_189 ⟨Nat.le_of_ble_eq_true rfl, Nat.le_of_ble_eq_true rfl⟩ (fun H locs hG => ?_)
    refine W.widen (k := 1) (n := 6) (Nat.le_of_ble_eq_true rfl) (Nat.le_of_ble_eq_true rfl) ?_
    exact vx_ret (g_iret hx hb hr hlocks hK hlo hG h dX9_size_192)
  rw [if_neg c8_8] at h
  by_cases c8_9 : x1 = (9 : Int32)
  · rw [if_pos c8_9] at h
    refine g_swIn (tgt := 193) hx hb dX9_size_8 (9 : Int32) c8_9 (by decide) (by decide) 185 (by decide) (by decide) ?_
    refine lv_aload_n hx hb dX9_size_193 rfl (lv_at hl 0 rfl) ?_
    obtain ⟨v194, e194, h⟩ := h
    refine g_getr hx hb hts inlX9 hown hK hG (by rfl) 5 (by decide) qF_X9_47 e194 dX9_size_194 ?_
    obtain ⟨v197, e197, h⟩ := h
    refine g_getr hx hb hts inlX1 hown hK hG (by rfl) 2 (by decide) qF_X9_119 e197 dX9_size_197 ?_
    obtain ⟨u200, o200, h⟩ := h
    obtain ⟨v200, e200, h⟩ := h
    refine g_cVi (As := []) (rest := []) (n := 0) hx hb hml hown hts hK hlo hG (m_X5_isOpen l dd cT lo G4 v197 e200) qM_X9_149 qI_yX5_isOpen qS_X5_yX5_isOpen qN_X5 qC_yX5_isOpen (by decide +kernel) ⟨Nat.le_of_ble_eq_true rfl, Nat.le_of_ble_eq_true rfl⟩ (by rfl) o200 rfl hl.1 rfl (Nat.le_of_ble_eq_true rfl) dX9_size_200 ⟨Nat.le_of_ble_eq_true rfl, Nat.le_of_ble_eq_true rfl⟩ (fun H locs hG => ?_)
    obtain ⟨v203, e203, h⟩ := h
    refine g_cSi (As := [.int v200]) (rest := []) (n := 1) hx hb hml hown hts hK hlo hG (m_X9_oneIf l dd cT lo G4 v200 e203) qM_X9_153 qT_yX9_oneIf qN_X9 qC_yX9_oneIf (by decide +kernel) ⟨Nat.le_of_ble_eq_true rfl, Nat.le_of_ble_eq_true rfl⟩ rfl hl.1 rfl (Nat.le_of_ble_eq_true rfl) dX9_size_203 ⟨Nat.le_of_ble_eq_true rfl, Nat.le_of_ble_eq_true rfl⟩ (fun H locs hG => ?_)
    refine W.widen (k := 1) (n := 6) (Nat.le_of_ble_eq_true rfl) (Nat.le_of_ble_eq_true rfl) ?_
    exact vx_ret (g_iret hx hb hr hlocks hK hlo hG h dX9_size_206)
  rw [if_neg c8_9] at h
  by_cases c8_10 : x1 = (10 : Int32)
  · rw [if_pos c8_10] at h
    refine g_swIn (tgt := 207) hx hb dX9_size_8 (10 : Int32) c8_10 (by decide) (by decide) 199 (by decide) (by decide) ?_
    refine lv_aload_n hx hb dX9_size_207 rfl (lv_at hl 0 rfl) ?_
    obtain ⟨v208, e208, h⟩ := h
    refine g_getr hx hb hts inlX9 hown hK hG (by rfl) 5 (by decide) qF_X9_47 e208 dX9_size_208 ?_
    obtain ⟨v211, e211, h⟩ := h
    refine g_geti hx hb hts inlX1 hown hK hG (by rfl) 5 (by decide) qF_X9_157 e211 dX9_size_211 ?_
    obtain ⟨v214, e214, h⟩ := h
    refine g_cSi (As := [.int v211]) (rest := []) (n := 1) hx hb hml hown hts hK hlo hG (m_X9_oneIf l dd cT lo G4 v211 e214) qM_X9_153 qT_yX9_oneIf qN_X9 qC_yX9_oneIf (by decide +kernel) ⟨Nat.le_of_ble_eq_true rfl, Nat.le_of_ble_eq_true rfl⟩ rfl hl.1 rfl (Nat.le_of_ble_eq_true rfl) dX9_size_214 ⟨Nat.le_of_ble_eq_true rfl, Nat.le_of_ble_eq_true rfl⟩ (fun H locs hG => ?_)
    refine W.widen (k := 1) (n := 6) (Nat.le_of_ble_eq_true rfl) (Nat.le_of_ble_eq_true rfl) ?_
    exact vx_ret (g_iret hx hb hr hlocks hK hlo hG h dX9_size_217)
  rw [if_neg c8_10] at h
  by_cases c8_11 : x1 = (11 : Int32)
  · rw [if_pos c8_11] at h
    refine g_swIn (tgt := 218) hx hb dX9_size_8 (11 : Int32) c8_11 (by decide) (by decide) 210 (by decide) (by decide) ?_
    refine lv_aload_n hx hb dX9_size_218 rfl (lv_at hl 0 rfl) ?_
    obtain ⟨v219, e219, h⟩ := h
    refine g_getr hx hb hts inlX9 hown hK hG (by rfl) 2 (by decide) qF_X9_26 e219 dX9_size_219 ?_
    obtain ⟨v222, e222, h⟩ := h
    refine g_geti hx hb hts inlX2 hown hK hG (by rfl) 0 (by decide) qF_X9_161 e222 dX9_size_222 ?_
    refine W.widen (k := 1) (n := 6) (Nat.le_of_ble_eq_true rfl) (Nat.le_of_ble_eq_true rfl) ?_
    exact vx_ret (g_iret hx hb hr hlocks hK hlo hG h dX9_size_225)
  rw [if_neg c8_11] at h
  have z8 : x1.toInt < 0 ∨ 11 < x1.toInt := by
    have y0 : ¬ x1.toInt = 0 := fun w => c8_0 (Int32.toInt_inj.mp (by rw [w]; rfl))
    have y1 : ¬ x1.toInt = 1 := fun w => c8_1 (Int32.toInt_inj.mp (by rw [w]; rfl))
    have y2 : ¬ x1.toInt = 2 := fun w => c8_2 (Int32.toInt_inj.mp (by rw [w]; rfl))
    have y3 : ¬ x1.toInt = 3 := fun w => c8_3 (Int32.toInt_inj.mp (by rw [w]; rfl))
    have y4 : ¬ x1.toInt = 4 := fun w => c8_4 (Int32.toInt_inj.mp (by rw [w]; rfl))
    have y5 : ¬ x1.toInt = 5 := fun w => c8_5 (Int32.toInt_inj.mp (by rw [w]; rfl))
    have y6 : ¬ x1.toInt = 6 := fun w => c8_6 (Int32.toInt_inj.mp (by rw [w]; rfl))
    have y7 : ¬ x1.toInt = 7 := fun w => c8_7 (Int32.toInt_inj.mp (by rw [w]; rfl))
    have y8 : ¬ x1.toInt = 8 := fun w => c8_8 (Int32.toInt_inj.mp (by rw [w]; rfl))
    have y9 : ¬ x1.toInt = 9 := fun w => c8_9 (Int32.toInt_inj.mp (by rw [w]; rfl))
    have y10 : ¬ x1.toInt = 10 := fun w => c8_10 (Int32.toInt_inj.mp (by rw [w]; rfl))
    have y11 : ¬ x1.toInt = 11 := fun w => c8_11 (Int32.toInt_inj.mp (by rw [w]; rfl))
    omega
  refine lv_tableOut (tgt := 226) hx hb dX9_size_8 z8 (by decide) ?_
  refine lv_aload_n hx hb dX9_size_226 rfl (lv_at hl 0 rfl) ?_
  obtain ⟨v227, e227, h⟩ := h
  refine g_getr hx hb hts inlX9 hown hK hG (by rfl) 5 (by decide) qF_X9_47 e227 dX9_size_227 ?_
  obtain ⟨v230, e230, h⟩ := h
  refine g_getr hx hb hts inlX1 hown hK hG (by rfl) 1 (by decide) qF_X9_162 e230 dX9_size_230 ?_
  obtain ⟨v233, e233, h⟩ := h
  refine g_geti hx hb hts inlX7 hown hK hG (by rfl) 0 (by decide) qF_X9_166 e233 dX9_size_233 ?_
  refine W.widen (k := 1) (n := 6) (Nat.le_of_ble_eq_true rfl) (Nat.le_of_ble_eq_true rfl) ?_
  exact vx_ret (g_iret hx hb hr hlocks hK hlo hG h dX9_size_236)
def w_X9_block (G : gH) (a0 : Nat) (x1 : Int32) (x2 : Int32) (KX : String → gH → Prop) (K : Int32 → gH → Prop) : Prop :=
    ∃ v2, g_r G a0 9 5 = some v2 ∧
    ∃ v5, g_r G v2 1 0 = some v5 ∧
    ∃ v8, g_i G v5 0 0 = some v8 ∧
    w_X9_checkIndex G x1 v8 KX (fun G11 =>
    w_X9_checkRange G11 x2 (0 : Int32) (6 : Int32) KX (fun G18 =>
    ∃ v22, g_r G18 a0 9 5 = some v22 ∧
    ∃ v25, g_r G18 v22 1 0 = some v25 ∧
    ∃ u30, g_ob G18 v25 0 = some u30 ∧
    ∃ v30, f_X0_property G18 v25 x1 x2 = some v30 ∧
    K v30 G18))
set_option maxRecDepth 20000 in
set_option maxHeartbeats 4000000 in
theorem m_X9_block (l : Launch) (hfl : l.stackTraces = false) (dd : va_G) (cT : Nat → ClassId) (lo : Nat) (G : gH) (a0 : Nat) (x1 : Int32) (x2 : Int32) {KX : String → gH → Prop} {K : Int32 → gH → Prop} (h : w_X9_block G a0 x1 x2 KX K) : vx_Met l yX9_block (Cond.code yX9_block cX9_block 3 (some .int) :: wsL_law) (g_rm 7 104 2 12) (va_Pc [.ref a0, .int x1, .int x2] (g_Pre lo dd cT G)) (va_Qi K (g_Pre lo dd cT) (g_A lo)) (g_XC lo dd cT KX) 2 12 (g_A lo) := by
  refine g_startX RX9 rfl (by decide) (Nat.le_of_ble_eq_true rfl) ?_
  intro p e s m below meth c hx hb hr hlocks hml hnone hown hnm hts hK hG hlo ls hl
  have hl : lv_has ls 3 [(0, .ref a0), (1, .int x1), (2, .int x2)] := hl
  have hG : g_S lo dd cT s s.heap [] G := hG
  unfold w_X9_block at h
  refine lv_iload_n hx hb dX9_block_0 rfl (lv_at hl 1 rfl) ?_
  refine lv_aload_n hx hb dX9_block_1 rfl (lv_at hl 0 rfl) ?_
  obtain ⟨v2, e2, h⟩ := h
  refine g_getr hx hb hts inlX9 hown hK hG (by rfl) 5 (by decide) qF_X9_47 e2 dX9_block_2 ?_
  obtain ⟨v5, e5, h⟩ := h
  refine g_getr hx hb hts inlX1 hown hK hG (by rfl) 0 (by decide) qF_X9_106 e5 dX9_block_5 ?_
  obtain ⟨v8, e8, h⟩ := h
  refine g_geti hx hb hts inlX0 hown hK hG (by rfl) 0 (by decide) qF_X9_110 e8 dX9_block_8 ?_
  refine g_xSv (As := [.int x1, .int v8]) (rest := []) (n := 2) hx hb hml hown hts hK hlo hG (m_X9_checkIndex l hfl dd cT lo G x1 v8 h) qM_X9_179 qT_yX9_checkIndex qN_X9 qC_yX9_checkIndex (by decide +kernel) ⟨Nat.le_of_ble_eq_true rfl, Nat.le_of_ble_eq_true rfl⟩ rfl hl.1 rfl (Nat.le_of_ble_eq_true rfl) dX9_block_11 ⟨Nat.le_of_ble_eq_true rfl, Nat.le_of_ble_eq_true rfl⟩ (fun E ce q9 G1 H locs hKX hG a1 a2 a3 => g_out hlocks hnone hG a1 a2 a3 hKX (Nat.le_of_ble_eq_true rfl) (Nat.le_of_ble_eq_true rfl)) (fun G11 H locs h hG => ?_)
  refine lv_iload_n hx hb dX9_block_14 rfl (lv_at hl 2 rfl) ?_
  refine lv_iconst (v := (0 : Int32)) hx hb dX9_block_15 (by decide) ?_
  refine lv_bipush (v := (6 : Int32)) hx hb dX9_block_16 (by decide) ?_
  refine g_xSv (As := [.int x2, .int (0 : Int32), .int (6 : Int32)]) (rest := []) (n := 3) hx hb hml hown hts hK hlo hG (m_X9_checkRange l hfl dd cT lo G11 x2 (0 : Int32) (6 : Int32) h) qM_X9_70 qT_yX9_checkRange qN_X9 qC_yX9_checkRange (by decide +kernel) ⟨Nat.le_of_ble_eq_true rfl, Nat.le_of_ble_eq_true rfl⟩ rfl hl.1 rfl (Nat.le_of_ble_eq_true rfl) dX9_block_18 ⟨Nat.le_of_ble_eq_true rfl, Nat.le_of_ble_eq_true rfl⟩ (fun E ce q9 G1 H locs hKX hG a1 a2 a3 => g_out hlocks hnone hG a1 a2 a3 hKX (Nat.le_of_ble_eq_true rfl) (Nat.le_of_ble_eq_true rfl)) (fun G18 H locs h hG => ?_)
  refine lv_aload_n hx hb dX9_block_21 rfl (lv_at hl 0 rfl) ?_
  obtain ⟨v22, e22, h⟩ := h
  refine g_getr hx hb hts inlX9 hown hK hG (by rfl) 5 (by decide) qF_X9_47 e22 dX9_block_22 ?_
  obtain ⟨v25, e25, h⟩ := h
  refine g_getr hx hb hts inlX1 hown hK hG (by rfl) 0 (by decide) qF_X9_106 e25 dX9_block_25 ?_
  refine lv_iload_n hx hb dX9_block_28 rfl (lv_at hl 1 rfl) ?_
  refine lv_iload_n hx hb dX9_block_29 rfl (lv_at hl 2 rfl) ?_
  obtain ⟨u30, o30, h⟩ := h
  obtain ⟨v30, e30, h⟩ := h
  refine g_cVi (As := [.int x1, .int x2]) (rest := []) (n := 2) hx hb hml hown hts hK hlo hG (m_X0_property l dd cT lo G18 v25 x1 x2 e30) qM_X9_182 qI_yX0_property qS_X0_yX0_property qN_X0 qC_yX0_property (by decide +kernel) ⟨Nat.le_of_ble_eq_true rfl, Nat.le_of_ble_eq_true rfl⟩ (by rfl) o30 rfl hl.1 rfl (Nat.le_of_ble_eq_true rfl) dX9_block_30 ⟨Nat.le_of_ble_eq_true rfl, Nat.le_of_ble_eq_true rfl⟩ (fun H locs hG => ?_)
  refine W.widen (k := 2) (n := 12) (Nat.le_of_ble_eq_true rfl) (Nat.le_of_ble_eq_true rfl) ?_
  exact vx_ret (g_iret hx hb hr hlocks hK hlo hG h dX9_block_33)
def w_X9_place (G : gH) (a0 : Nat) (x1 : Int32) (KX : String → gH → Prop) (K : Int32 → gH → Prop) : Prop :=
    ∃ v2, g_r G a0 9 5 = some v2 ∧
    ∃ v5, g_r G v2 1 0 = some v5 ∧
    ∃ v8, g_i G v5 0 0 = some v8 ∧
    w_X9_checkIndex G x1 v8 KX (fun G11 =>
    ∃ v15, g_r G11 a0 9 5 = some v15 ∧
    ∃ v18, g_r G11 v15 1 0 = some v18 ∧
    ∃ u22, g_ob G11 v18 0 = some u22 ∧
    ∃ v22, f_X0_placeOf G11 v18 x1 = some v22 ∧
    K v22 G11)
set_option maxRecDepth 20000 in
set_option maxHeartbeats 4000000 in
theorem m_X9_place (l : Launch) (hfl : l.stackTraces = false) (dd : va_G) (cT : Nat → ClassId) (lo : Nat) (G : gH) (a0 : Nat) (x1 : Int32) {KX : String → gH → Prop} {K : Int32 → gH → Prop} (h : w_X9_place G a0 x1 KX K) : vx_Met l yX9_place (Cond.code yX9_place cX9_place 2 (some .int) :: wsL_law) (g_rm 7 103 1 6) (va_Pc [.ref a0, .int x1] (g_Pre lo dd cT G)) (va_Qi K (g_Pre lo dd cT) (g_A lo)) (g_XC lo dd cT KX) 1 6 (g_A lo) := by
  refine g_startX RX9 rfl (by decide) (Nat.le_of_ble_eq_true rfl) ?_
  intro p e s m below meth c hx hb hr hlocks hml hnone hown hnm hts hK hG hlo ls hl
  have hl : lv_has ls 2 [(0, .ref a0), (1, .int x1)] := hl
  have hG : g_S lo dd cT s s.heap [] G := hG
  unfold w_X9_place at h
  refine lv_iload_n hx hb dX9_place_0 rfl (lv_at hl 1 rfl) ?_
  refine lv_aload_n hx hb dX9_place_1 rfl (lv_at hl 0 rfl) ?_
  obtain ⟨v2, e2, h⟩ := h
  refine g_getr hx hb hts inlX9 hown hK hG (by rfl) 5 (by decide) qF_X9_47 e2 dX9_place_2 ?_
  obtain ⟨v5, e5, h⟩ := h
  refine g_getr hx hb hts inlX1 hown hK hG (by rfl) 0 (by decide) qF_X9_106 e5 dX9_place_5 ?_
  obtain ⟨v8, e8, h⟩ := h
  refine g_geti hx hb hts inlX0 hown hK hG (by rfl) 0 (by decide) qF_X9_110 e8 dX9_place_8 ?_
  refine g_xSv (As := [.int x1, .int v8]) (rest := []) (n := 2) hx hb hml hown hts hK hlo hG (m_X9_checkIndex l hfl dd cT lo G x1 v8 h) qM_X9_179 qT_yX9_checkIndex qN_X9 qC_yX9_checkIndex (by decide +kernel) ⟨Nat.le_of_ble_eq_true rfl, Nat.le_of_ble_eq_true rfl⟩ rfl hl.1 rfl (Nat.le_of_ble_eq_true rfl) dX9_place_11 ⟨Nat.le_of_ble_eq_true rfl, Nat.le_of_ble_eq_true rfl⟩ (fun E ce q9 G1 H locs hKX hG a1 a2 a3 => g_out hlocks hnone hG a1 a2 a3 hKX (Nat.le_of_ble_eq_true rfl) (Nat.le_of_ble_eq_true rfl)) (fun G11 H locs h hG => ?_)
  refine lv_aload_n hx hb dX9_place_14 rfl (lv_at hl 0 rfl) ?_
  obtain ⟨v15, e15, h⟩ := h
  refine g_getr hx hb hts inlX9 hown hK hG (by rfl) 5 (by decide) qF_X9_47 e15 dX9_place_15 ?_
  obtain ⟨v18, e18, h⟩ := h
  refine g_getr hx hb hts inlX1 hown hK hG (by rfl) 0 (by decide) qF_X9_106 e18 dX9_place_18 ?_
  refine lv_iload_n hx hb dX9_place_21 rfl (lv_at hl 1 rfl) ?_
  obtain ⟨u22, o22, h⟩ := h
  obtain ⟨v22, e22, h⟩ := h
  refine g_cVi (As := [.int x1]) (rest := []) (n := 1) hx hb hml hown hts hK hlo hG (m_X0_placeOf l dd cT lo G11 v18 x1 e22) qM_X9_186 qI_yX0_placeOf qS_X0_yX0_placeOf qN_X0 qC_yX0_placeOf (by decide +kernel) ⟨Nat.le_of_ble_eq_true rfl, Nat.le_of_ble_eq_true rfl⟩ (by rfl) o22 rfl hl.1 rfl (Nat.le_of_ble_eq_true rfl) dX9_place_22 ⟨Nat.le_of_ble_eq_true rfl, Nat.le_of_ble_eq_true rfl⟩ (fun H locs hG => ?_)
  refine W.widen (k := 1) (n := 6) (Nat.le_of_ble_eq_true rfl) (Nat.le_of_ble_eq_true rfl) ?_
  exact vx_ret (g_iret hx hb hr hlocks hK hlo hG h dX9_place_25)
def w_X9_session (G : gH) (a0 : Nat) (x1 : Int32) (x2 : Int32) (KX : String → gH → Prop) (K : Int32 → gH → Prop) : Prop :=
    ∃ v2, g_r G a0 9 5 = some v2 ∧
    ∃ v5, g_r G v2 1 2 = some v5 ∧
    ∃ v8, g_i G v5 5 0 = some v8 ∧
    w_X9_checkIndex G x1 v8 KX (fun G11 =>
    w_X9_checkRange G11 x2 (0 : Int32) (8 : Int32) KX (fun G18 =>
    ∃ v22, g_r G18 a0 9 5 = some v22 ∧
    ∃ v25, g_r G18 v22 1 2 = some v25 ∧
    if x2 = (0 : Int32) then
    ∃ u78, g_ob G18 v25 5 = some u78 ∧
    ∃ v78, f_X5_stateOf G18 v25 x1 = some v78 ∧
    K v78 G18
    else
    if x2 = (1 : Int32) then
    ∃ u84, g_ob G18 v25 5 = some u84 ∧
    ∃ v84, f_X5_firstOf G18 v25 x1 = some v84 ∧
    K v84 G18
    else
    if x2 = (2 : Int32) then
    ∃ v89, g_r G18 a0 9 5 = some v89 ∧
    ∃ v92, g_r G18 v89 1 0 = some v92 ∧
    ∃ u96, g_ob G18 v92 0 = some u96 ∧
    ∃ v96, f_X0_mainBlocksOf G18 v92 x1 = some v96 ∧
    K v96 G18
    else
    if x2 = (3 : Int32) then
    ∃ u102, g_ob G18 v25 5 = some u102 ∧
    ∃ v102, f_X5_entriesOf G18 v25 x1 = some v102 ∧
    K v102 G18
    else
    if x2 = (4 : Int32) then
    ∃ u108, g_ob G18 v25 5 = some u108 ∧
    ∃ v108, f_X5_directoryOf G18 v25 x1 = some v108 ∧
    K v108 G18
    else
    if x2 = (5 : Int32) then
    ∃ v113, g_r G18 a0 9 5 = some v113 ∧
    ∃ v116, g_r G18 v113 1 0 = some v116 ∧
    ∃ u121, g_ob G18 v25 5 = some u121 ∧
    ∃ v121, f_X5_directoryOf G18 v25 x1 = some v121 ∧
    ∃ u126, g_ob G18 v25 5 = some u126 ∧
    ∃ v126, f_X5_directoryLengthOf G18 v25 x1 = some v126 ∧
    ∃ u129, g_ob G18 v116 0 = some u129 ∧
    ∃ v129, f_X0_canRead G18 v116 v121 v126 = some v129 ∧
    ∃ v132, f_X9_oneIf G18 v129 = some v132 ∧
    K v132 G18
    else
    if x2 = (6 : Int32) then
    ∃ u138, g_ob G18 v25 5 = some u138 ∧
    ∃ v138, f_X5_linkOf G18 v25 x1 = some v138 ∧
    K v138 G18
    else
    if x2 = (7 : Int32) then
    ∃ v143, g_r G18 a0 9 5 = some v143 ∧
    ∃ v146, g_r G18 v143 1 6 = some v146 ∧
    ∃ v150, g_r G18 a0 9 5 = some v150 ∧
    ∃ u153, g_ob G18 v146 8 = some u153 ∧
    ∃ q153, f_X8_lookAt G18 v146 v150 = some q153 ∧
    ∃ u157, g_ob q153.1 q153.2 8 = some u157 ∧
    ∃ v157, f_X8_isReached q153.1 q153.2 x1 = some v157 ∧
    ∃ v160, f_X9_oneIf q153.1 v157 = some v160 ∧
    K v160 q153.1
    else
    ∃ v165, g_r G18 a0 9 5 = some v165 ∧
    ∃ v168, g_r G18 v165 1 0 = some v168 ∧
    ∃ u172, g_ob G18 v168 0 = some u172 ∧
    ∃ v172, f_X0_spareBlocksOf G18 v168 x1 = some v172 ∧
    K v172 G18))
set_option maxRecDepth 20000 in
set_option maxHeartbeats 4000000 in
theorem m_X9_session (l : Launch) (hfl : l.stackTraces = false) (dd : va_G) (cT : Nat → ClassId) (lo : Nat) (G : gH) (a0 : Nat) (x1 : Int32) (x2 : Int32) {KX : String → gH → Prop} {K : Int32 → gH → Prop} (h : w_X9_session G a0 x1 x2 KX K) : vx_Met l yX9_session (Cond.code yX9_session cX9_session 4 (some .int) :: wsL_law) (g_rm 7 104 2 12) (va_Pc [.ref a0, .int x1, .int x2] (g_Pre lo dd cT G)) (va_Qi K (g_Pre lo dd cT) (g_A lo)) (g_XC lo dd cT KX) 2 12 (g_A lo) := by
  refine g_startX RX9 rfl (by decide) (Nat.le_of_ble_eq_true rfl) ?_
  intro p e s m below meth c hx hb hr hlocks hml hnone hown hnm hts hK hG hlo ls hl
  have hl : lv_has ls 4 [(0, .ref a0), (1, .int x1), (2, .int x2)] := hl
  have hG : g_S lo dd cT s s.heap [] G := hG
  unfold w_X9_session at h
  refine lv_iload_n hx hb dX9_session_0 rfl (lv_at hl 1 rfl) ?_
  refine lv_aload_n hx hb dX9_session_1 rfl (lv_at hl 0 rfl) ?_
  obtain ⟨v2, e2, h⟩ := h
  refine g_getr hx hb hts inlX9 hown hK hG (by rfl) 5 (by decide) qF_X9_47 e2 dX9_session_2 ?_
  obtain ⟨v5, e5, h⟩ := h
  refine g_getr hx hb hts inlX1 hown hK hG (by rfl) 2 (by decide) qF_X9_119 e5 dX9_session_5 ?_
  obtain ⟨v8, e8, h⟩ := h
  refine g_geti hx hb hts inlX5 hown hK hG (by rfl) 0 (by decide) qF_X9_123 e8 dX9_session_8 ?_
  refine g_xSv (As := [.int x1, .int v8]) (rest := []) (n := 2) hx hb hml hown hts hK hlo hG (m_X9_checkIndex l hfl dd cT lo G x1 v8 h) qM_X9_179 qT_yX9_checkIndex qN_X9 qC_yX9_checkIndex (by decide +kernel) ⟨Nat.le_of_ble_eq_true rfl, Nat.le_of_ble_eq_true rfl⟩ rfl hl.1 rfl (Nat.le_of_ble_eq_true rfl) dX9_session_11 ⟨Nat.le_of_ble_eq_true rfl, Nat.le_of_ble_eq_true rfl⟩ (fun E ce q9 G1 H locs hKX hG a1 a2 a3 => g_out hlocks hnone hG a1 a2 a3 hKX (Nat.le_of_ble_eq_true rfl) (Nat.le_of_ble_eq_true rfl)) (fun G11 H locs h hG => ?_)
  refine lv_iload_n hx hb dX9_session_14 rfl (lv_at hl 2 rfl) ?_
  refine lv_iconst (v := (0 : Int32)) hx hb dX9_session_15 (by decide) ?_
  refine lv_bipush (v := (8 : Int32)) hx hb dX9_session_16 (by decide) ?_
  refine g_xSv (As := [.int x2, .int (0 : Int32), .int (8 : Int32)]) (rest := []) (n := 3) hx hb hml hown hts hK hlo hG (m_X9_checkRange l hfl dd cT lo G11 x2 (0 : Int32) (8 : Int32) h) qM_X9_70 qT_yX9_checkRange qN_X9 qC_yX9_checkRange (by decide +kernel) ⟨Nat.le_of_ble_eq_true rfl, Nat.le_of_ble_eq_true rfl⟩ rfl hl.1 rfl (Nat.le_of_ble_eq_true rfl) dX9_session_18 ⟨Nat.le_of_ble_eq_true rfl, Nat.le_of_ble_eq_true rfl⟩ (fun E ce q9 G1 H locs hKX hG a1 a2 a3 => g_out hlocks hnone hG a1 a2 a3 hKX (Nat.le_of_ble_eq_true rfl) (Nat.le_of_ble_eq_true rfl)) (fun G18 H locs h hG => ?_)
  refine lv_aload_n hx hb dX9_session_21 rfl (lv_at hl 0 rfl) ?_
  obtain ⟨v22, e22, h⟩ := h
  refine g_getr hx hb hts inlX9 hown hK hG (by rfl) 5 (by decide) qF_X9_47 e22 dX9_session_22 ?_
  obtain ⟨v25, e25, h⟩ := h
  refine g_getr hx hb hts inlX1 hown hK hG (by rfl) 2 (by decide) qF_X9_119 e25 dX9_session_25 ?_
  refine lv_astore_n (lv' := [(3, .ref v25), (0, .ref a0), (1, .int x1), (2, .int x2)]) hx hb dX9_session_28 rfl hl (by decide) rfl (fun ls hl => ?_)
  refine lv_iload_n hx hb dX9_session_29 rfl (lv_at hl 3 rfl) ?_
  by_cases c30_0 : x2 = (0 : Int32)
  · rw [if_pos c30_0] at h
    refine g_swIn (tgt := 76) hx hb dX9_session_30 (0 : Int32) c30_0 (by decide) (by decide) 46 (by decide) (by decide) ?_
    refine lv_aload_n hx hb dX9_session_76 rfl (lv_at hl 0 rfl) ?_
    refine lv_iload_n hx hb dX9_session_77 rfl (lv_at hl 2 rfl) ?_
    obtain ⟨u78, o78, h⟩ := h
    obtain ⟨v78, e78, h⟩ := h
    refine g_cVi (As := [.int x1]) (rest := []) (n := 1) hx hb hml hown hts hK hlo hG (m_X5_stateOf l dd cT lo G18 v25 x1 e78) qM_X9_190 qI_yX5_stateOf qS_X5_yX5_stateOf qN_X5 qC_yX5_stateOf (by decide +kernel) ⟨Nat.le_of_ble_eq_true rfl, Nat.le_of_ble_eq_true rfl⟩ (by rfl) o78 rfl hl.1 rfl (Nat.le_of_ble_eq_true rfl) dX9_session_78 ⟨Nat.le_of_ble_eq_true rfl, Nat.le_of_ble_eq_true rfl⟩ (fun H locs hG => ?_)
    refine W.widen (k := 2) (n := 12) (Nat.le_of_ble_eq_true rfl) (Nat.le_of_ble_eq_true rfl) ?_
    exact vx_ret (g_iret hx hb hr hlocks hK hlo hG h dX9_session_81)
  rw [if_neg c30_0] at h
  by_cases c30_1 : x2 = (1 : Int32)
  · rw [if_pos c30_1] at h
    refine g_swIn (tgt := 82) hx hb dX9_session_30 (1 : Int32) c30_1 (by decide) (by decide) 52 (by decide) (by decide) ?_
    refine lv_aload_n hx hb dX9_session_82 rfl (lv_at hl 0 rfl) ?_
    refine lv_iload_n hx hb dX9_session_83 rfl (lv_at hl 2 rfl) ?_
    obtain ⟨u84, o84, h⟩ := h
    obtain ⟨v84, e84, h⟩ := h
    refine g_cVi (As := [.int x1]) (rest := []) (n := 1) hx hb hml hown hts hK hlo hG (m_X5_firstOf l dd cT lo G18 v25 x1 e84) qM_X9_193 qI_yX5_firstOf qS_X5_yX5_firstOf qN_X5 qC_yX5_firstOf (by decide +kernel) ⟨Nat.le_of_ble_eq_true rfl, Nat.le_of_ble_eq_true rfl⟩ (by rfl) o84 rfl hl.1 rfl (Nat.le_of_ble_eq_true rfl) dX9_session_84 ⟨Nat.le_of_ble_eq_true rfl, Nat.le_of_ble_eq_true rfl⟩ (fun H locs hG => ?_)
    refine W.widen (k := 2) (n := 12) (Nat.le_of_ble_eq_true rfl) (Nat.le_of_ble_eq_true rfl) ?_
    exact vx_ret (g_iret hx hb hr hlocks hK hlo hG h dX9_session_87)
  rw [if_neg c30_1] at h
  by_cases c30_2 : x2 = (2 : Int32)
  · rw [if_pos c30_2] at h
    refine g_swIn (tgt := 88) hx hb dX9_session_30 (2 : Int32) c30_2 (by decide) (by decide) 58 (by decide) (by decide) ?_
    refine lv_aload_n hx hb dX9_session_88 rfl (lv_at hl 1 rfl) ?_
    obtain ⟨v89, e89, h⟩ := h
    refine g_getr hx hb hts inlX9 hown hK hG (by rfl) 5 (by decide) qF_X9_47 e89 dX9_session_89 ?_
    obtain ⟨v92, e92, h⟩ := h
    refine g_getr hx hb hts inlX1 hown hK hG (by rfl) 0 (by decide) qF_X9_106 e92 dX9_session_92 ?_
    refine lv_iload_n hx hb dX9_session_95 rfl (lv_at hl 2 rfl) ?_
    obtain ⟨u96, o96, h⟩ := h
    obtain ⟨v96, e96, h⟩ := h
    refine g_cVi (As := [.int x1]) (rest := []) (n := 1) hx hb hml hown hts hK hlo hG (m_X0_mainBlocksOf l dd cT lo G18 v92 x1 e96) qM_X9_196 qI_yX0_mainBlocksOf qS_X0_yX0_mainBlocksOf qN_X0 qC_yX0_mainBlocksOf (by decide +kernel) ⟨Nat.le_of_ble_eq_true rfl, Nat.le_of_ble_eq_true rfl⟩ (by rfl) o96 rfl hl.1 rfl (Nat.le_of_ble_eq_true rfl) dX9_session_96 ⟨Nat.le_of_ble_eq_true rfl, Nat.le_of_ble_eq_true rfl⟩ (fun H locs hG => ?_)
    refine W.widen (k := 2) (n := 12) (Nat.le_of_ble_eq_true rfl) (Nat.le_of_ble_eq_true rfl) ?_
    exact vx_ret (g_iret hx hb hr hlocks hK hlo hG h dX9_session_99)
  rw [if_neg c30_2] at h
  by_cases c30_3 : x2 = (3 : Int32)
  · rw [if_pos c30_3] at h
    refine g_swIn (tgt := 100) hx hb dX9_session_30 (3 : Int32) c30_3 (by decide) (by decide) 70 (by decide) (by decide) ?_
    refine lv_aload_n hx hb dX9_session_100 rfl (lv_at hl 0 rfl) ?_
    refine lv_iload_n hx hb dX9_session_101 rfl (lv_at hl 2 rfl) ?_
    obtain ⟨u102, o102, h⟩ := h
    obtain ⟨v102, e102, h⟩ := h
    refine g_cVi (As := [.int x1]) (rest := []) (n := 1) hx hb hml hown hts hK hlo hG (m_X5_entriesOf l dd cT lo G18 v25 x1 e102) qM_X9_199 qI_yX5_entriesOf qS_X5_yX5_entriesOf qN_X5 qC_yX5_entriesOf (by decide +kernel) ⟨Nat.le_of_ble_eq_true rfl, Nat.le_of_ble_eq_true rfl⟩ (by rfl) o102 rfl hl.1 rfl (Nat.le_of_ble_eq_true rfl) dX9_session_102 ⟨Nat.le_of_ble_eq_true rfl, Nat.le_of_ble_eq_true rfl⟩ (fun H locs hG => ?_)
    refine W.widen (k := 2) (n := 12) (Nat.le_of_ble_eq_true rfl) (Nat.le_of_ble_eq_true rfl) ?_
    exact vx_ret (g_iret hx hb hr hlocks hK hlo hG h dX9_session_105)
  rw [if_neg c30_3] at h
  by_cases c30_4 : x2 = (4 : Int32)
  · rw [if_pos c30_4] at h
    refine g_swIn (tgt := 106) hx hb dX9_session_30 (4 : Int32) c30_4 (by decide) (by decide) 76 (by decide) (by decide) ?_
    refine lv_aload_n hx hb dX9_session_106 rfl (lv_at hl 0 rfl) ?_
    refine lv_iload_n hx hb dX9_session_107 rfl (lv_at hl 2 rfl) ?_
    obtain ⟨u108, o108, h⟩ := h
    obtain ⟨v108, e108, h⟩ := h
    refine g_cVi (As := [.int x1]) (rest := []) (n := 1) hx hb hml hown hts hK hlo hG (m_X5_directoryOf l dd cT lo G18 v25 x1 e108) qM_X9_202 qI_yX5_directoryOf qS_X5_yX5_directoryOf qN_X5 qC_yX5_directoryOf (by decide +kernel) ⟨Nat.le_of_ble_eq_true rfl, Nat.le_of_ble_eq_true rfl⟩ (by rfl) o108 rfl hl.1 rfl (Nat.le_of_ble_eq_true rfl) dX9_session_108 ⟨Nat.le_of_ble_eq_true rfl, Nat.le_of_ble_eq_true rfl⟩ (fun H locs hG => ?_)
    refine W.widen (k := 2) (n := 12) (Nat.le_of_ble_eq_true rfl) (Nat.le_of_ble_eq_true rfl) ?_
    exact vx_ret (g_iret hx hb hr hlocks hK hlo hG h dX9_session_111)
  rw [if_neg c30_4] at h
  by_cases c30_5 : x2 = (5 : Int32)
  · rw [if_pos c30_5] at h
    refine g_swIn (tgt := 112) hx hb dX9_session_30 (5 : Int32) c30_5 (by decide) (by decide) 82 (by decide) (by decide) ?_
    refine lv_aload_n hx hb dX9_session_112 rfl (lv_at hl 1 rfl) ?_
    obtain ⟨v113, e113, h⟩ := h
    refine g_getr hx hb hts inlX9 hown hK hG (by rfl) 5 (by decide) qF_X9_47 e113 dX9_session_113 ?_
    obtain ⟨v116, e116, h⟩ := h
    refine g_getr hx hb hts inlX1 hown hK hG (by rfl) 0 (by decide) qF_X9_106 e116 dX9_session_116 ?_
    refine lv_aload_n hx hb dX9_session_119 rfl (lv_at hl 0 rfl) ?_
    refine lv_iload_n hx hb dX9_session_120 rfl (lv_at hl 2 rfl) ?_
    obtain ⟨u121, o121, h⟩ := h
    obtain ⟨v121, e121, h⟩ := h
    refine g_cVi (As := [.int x1]) (rest := [.ref v116]) (n := 1) hx hb hml hown hts hK hlo hG (m_X5_directoryOf l dd cT lo G18 v25 x1 e121) qM_X9_202 qI_yX5_directoryOf qS_X5_yX5_directoryOf qN_X5 qC_yX5_directoryOf (by decide +kernel) ⟨Nat.le_of_ble_eq_true rfl, Nat.le_of_ble_eq_true rfl⟩ (by rfl) o121 rfl hl.1 rfl (Nat.le_of_ble_eq_true rfl) dX9_session_121 ⟨Nat.le_of_ble_eq_true rfl, Nat.le_of_ble_eq_true rfl⟩ (fun H locs hG => ?_)
    refine lv_aload_n hx hb dX9_session_124 rfl (lv_at hl 0 rfl) ?_
    refine lv_iload_n hx hb dX9_session_125 rfl (lv_at hl 2 rfl) ?_
    obtain ⟨u126, o126, h⟩ := h
    obtain ⟨v126, e126, h⟩ := h
    refine g_cVi (As := [.int x1]) (rest := [.int v121, .ref v116]) (n := 1) hx hb hml hown hts hK hlo hG (m_X5_directoryLengthOf l dd cT lo G18 v25 x1 e126) qM_X9_205 qI_yX5_directoryLengthOf qS_X5_yX5_directoryLengthOf qN_X5 qC_yX5_directoryLengthOf (by decide +kernel) ⟨Nat.le_of_ble_eq_true rfl, Nat.le_of_ble_eq_true rfl⟩ (by rfl) o126 rfl hl.1 rfl (Nat.le_of_ble_eq_true rfl) dX9_session_126 ⟨Nat.le_of_ble_eq_true rfl, Nat.le_of_ble_eq_true rfl⟩ (fun H locs hG => ?_)
    obtain ⟨u129, o129, h⟩ := h
    obtain ⟨v129, e129, h⟩ := h
    refine g_cVi (As := [.int v121, .int v126]) (rest := []) (n := 2) hx hb hml hown hts hK hlo hG (m_X0_canRead l dd cT lo G18 v116 v121 v126 e129) qM_X9_208 qI_yX0_canRead qS_X0_yX0_canRead qN_X0 qC_yX0_canRead (by decide +kernel) ⟨Nat.le_of_ble_eq_true rfl, Nat.le_of_ble_eq_true rfl⟩ (by rfl) o129 rfl hl.1 rfl (Nat.le_of_ble_eq_true rfl) dX9_session_129 ⟨Nat.le_of_ble_eq_true rfl, Nat.le_of_ble_eq_true rfl⟩ (fun H locs hG => ?_)
    obtain ⟨v132, e132, h⟩ := h
    refine g_cSi (As := [.int v129]) (rest := []) (n := 1) hx hb hml hown hts hK hlo hG (m_X9_oneIf l dd cT lo G18 v129 e132) qM_X9_153 qT_yX9_oneIf qN_X9 qC_yX9_oneIf (by decide +kernel) ⟨Nat.le_of_ble_eq_true rfl, Nat.le_of_ble_eq_true rfl⟩ rfl hl.1 rfl (Nat.le_of_ble_eq_true rfl) dX9_session_132 ⟨Nat.le_of_ble_eq_true rfl, Nat.le_of_ble_eq_true rfl⟩ (fun H locs hG => ?_)
    refine W.widen (k := 2) (n := 12) (Nat.le_of_ble_eq_true rfl) (Nat.le_of_ble_eq_true rfl) ?_
    exact vx_ret (g_iret hx hb hr hlocks hK hlo hG h dX9_session_135)
  rw [if_neg c30_5] at h
  by_cases c30_6 : x2 = (6 : Int32)
  · rw [if_pos c30_6] at h
    refine g_swIn (tgt := 136) hx hb dX9_session_30 (6 : Int32) c30_6 (by decide) (by decide) 106 (by decide) (by decide) ?_
    refine lv_aload_n hx hb dX9_session_136 rfl (lv_at hl 0 rfl) ?_
    refine lv_iload_n hx hb dX9_session_137 rfl (lv_at hl 2 rfl) ?_
    obtain ⟨u138, o138, h⟩ := h
    obtain ⟨v138, e138, h⟩ := h
    refine g_cVi (As := [.int x1]) (rest := []) (n := 1) hx hb hml hown hts hK hlo hG (m_X5_linkOf l dd cT lo G18 v25 x1 e138) qM_X9_212 qI_yX5_linkOf qS_X5_yX5_linkOf qN_X5 qC_yX5_linkOf (by decide +kernel) ⟨Nat.le_of_ble_eq_true rfl, Nat.le_of_ble_eq_true rfl⟩ (by rfl) o138 rfl hl.1 rfl (Nat.le_of_ble_eq_true rfl) dX9_session_138 ⟨Nat.le_of_ble_eq_true rfl, Nat.le_of_ble_eq_true rfl⟩ (fun H locs hG => ?_)
    refine W.widen (k := 2) (n := 12) (Nat.le_of_ble_eq_true rfl) (Nat.le_of_ble_eq_true rfl) ?_
    exact vx_ret (g_iret hx hb hr hlocks hK hlo hG h dX9_session_141)
  rw [if_neg c30_6] at h
  by_cases c30_7 : x2 = (7 : Int32)
  · rw [if_pos c30_7] at h
    refine g_swIn (tgt := 142) hx hb dX9_session_30 (7 : Int32) c30_7 (by decide) (by decide) 112 (by decide) (by decide) ?_
    refine lv_aload_n hx hb dX9_session_142 rfl (lv_at hl 1 rfl) ?_
    obtain ⟨v143, e143, h⟩ := h
    refine g_getr hx hb hts inlX9 hown hK hG (by rfl) 5 (by decide) qF_X9_47 e143 dX9_session_143 ?_
    obtain ⟨v146, e146, h⟩ := h
    refine g_getr hx hb hts inlX1 hown hK hG (by rfl) 6 (by decide) qF_X9_136 e146 dX9_session_146 ?_
    refine lv_aload_n hx hb dX9_session_149 rfl (lv_at hl 1 rfl) ?_
    obtain ⟨v150, e150, h⟩ := h
    refine g_getr hx hb hts inlX9 hown hK hG (by rfl) 5 (by decide) qF_X9_47 e150 dX9_session_150 ?_
    obtain ⟨u153, o153, h⟩ := h
    obtain ⟨q153, e153, h⟩ := h
    refine g_cVr (As := [.ref v150]) (rest := []) (n := 1) hx hb hml hown hts hK hlo hG (m_X8_lookAt l dd cT lo G18 v146 v150 e153) qM_X9_139 qI_yX8_lookAt qS_X8_yX8_lookAt qN_X8 qC_yX8_lookAt (by decide +kernel) ⟨Nat.le_of_ble_eq_true rfl, Nat.le_of_ble_eq_true rfl⟩ (by rfl) o153 rfl hl.1 rfl (Nat.le_of_ble_eq_true rfl) dX9_session_153 ⟨Nat.le_of_ble_eq_true rfl, Nat.le_of_ble_eq_true rfl⟩ (fun H locs hG => ?_)
    refine lv_iload_n hx hb dX9_session_156 rfl (lv_at hl 2 rfl) ?_
    obtain ⟨u157, o157, h⟩ := h
    obtain ⟨v157, e157, h⟩ := h
    refine g_cVi (As := [.int x1]) (rest := []) (n := 1) hx hb hml hown hts hK hlo hG (m_X8_isReached l dd cT lo q153.1 q153.2 x1 e157) qM_X9_215 qI_yX8_isReached qS_X8_yX8_isReached qN_X8 qC_yX8_isReached (by decide +kernel) ⟨Nat.le_of_ble_eq_true rfl, Nat.le_of_ble_eq_true rfl⟩ (by rfl) o157 rfl hl.1 rfl (Nat.le_of_ble_eq_true rfl) dX9_session_157 ⟨Nat.le_of_ble_eq_true rfl, Nat.le_of_ble_eq_true rfl⟩ (fun H locs hG => ?_)
    obtain ⟨v160, e160, h⟩ := h
    refine g_cSi (As := [.int v157]) (rest := []) (n := 1) hx hb hml hown hts hK hlo hG (m_X9_oneIf l dd cT lo q153.1 v157 e160) qM_X9_153 qT_yX9_oneIf qN_X9 qC_yX9_oneIf (by decide +kernel) ⟨Nat.le_of_ble_eq_true rfl, Nat.le_of_ble_eq_true rfl⟩ rfl hl.1 rfl (Nat.le_of_ble_eq_true rfl) dX9_session_160 ⟨Nat.le_of_ble_eq_true rfl, Nat.le_of_ble_eq_true rfl⟩ (fun H locs hG => ?_)
    refine W.widen (k := 2) (n := 12) (Nat.le_of_ble_eq_true rfl) (Nat.le_of_ble_eq_true rfl) ?_
    exact vx_ret (g_iret hx hb hr hlocks hK hlo hG h dX9_session_163)
  rw [if_neg c30_7] at h
  have z30 : x2.toInt < 0 ∨ 7 < x2.toInt := by
    have y0 : ¬ x2.toInt = 0 := fun w => c30_0 (Int32.toInt_inj.mp (by rw [w]; rfl))
    have y1 : ¬ x2.toInt = 1 := fun w => c30_1 (Int32.toInt_inj.mp (by rw [w]; rfl))
    have y2 : ¬ x2.toInt = 2 := fun w => c30_2 (Int32.toInt_inj.mp (by rw [w]; rfl))
    have y3 : ¬ x2.toInt = 3 := fun w => c30_3 (Int32.toInt_inj.mp (by rw [w]; rfl))
    have y4 : ¬ x2.toInt = 4 := fun w => c30_4 (Int32.toInt_inj.mp (by rw [w]; rfl))
    have y5 : ¬ x2.toInt = 5 := fun w => c30_5 (Int32.toInt_inj.mp (by rw [w]; rfl))
    have y6 : ¬ x2.toInt = 6 := fun w => c30_6 (Int32.toInt_inj.mp (by rw [w]; rfl))
    have y7 : ¬ x2.toInt = 7 := fun w => c30_7 (Int32.toInt_inj.mp (by rw [w]; rfl))
    omega
  refine lv_tableOut (tgt := 164) hx hb dX9_session_30 z30 (by decide) ?_
  refine lv_aload_n hx hb dX9_session_164 rfl (lv_at hl 1 rfl) ?_
  obtain ⟨v165, e165, h⟩ := h
  refine g_getr hx hb hts inlX9 hown hK hG (by rfl) 5 (by decide) qF_X9_47 e165 dX9_session_165 ?_
  obtain ⟨v168, e168, h⟩ := h
  refine g_getr hx hb hts inlX1 hown hK hG (by rfl) 0 (by decide) qF_X9_106 e168 dX9_session_168 ?_
  refine lv_iload_n hx hb dX9_session_171 rfl (lv_at hl 2 rfl) ?_
  obtain ⟨u172, o172, h⟩ := h
  obtain ⟨v172, e172, h⟩ := h
  refine g_cVi (As := [.int x1]) (rest := []) (n := 1) hx hb hml hown hts hK hlo hG (m_X0_spareBlocksOf l dd cT lo G18 v168 x1 e172) qM_X9_218 qI_yX0_spareBlocksOf qS_X0_yX0_spareBlocksOf qN_X0 qC_yX0_spareBlocksOf (by decide +kernel) ⟨Nat.le_of_ble_eq_true rfl, Nat.le_of_ble_eq_true rfl⟩ (by rfl) o172 rfl hl.1 rfl (Nat.le_of_ble_eq_true rfl) dX9_session_172 ⟨Nat.le_of_ble_eq_true rfl, Nat.le_of_ble_eq_true rfl⟩ (fun H locs hG => ?_)
  refine W.widen (k := 2) (n := 12) (Nat.le_of_ble_eq_true rfl) (Nat.le_of_ble_eq_true rfl) ?_
  exact vx_ret (g_iret hx hb hr hlocks hK hlo hG h dX9_session_175)
def w_X9_entry (G : gH) (a0 : Nat) (x1 : Int32) (x2 : Int32) (x3 : Int32) (KX : String → gH → Prop) (K : Int32 → gH → Prop) : Prop :=
    ∃ v2, g_r G a0 9 5 = some v2 ∧
    ∃ v5, g_r G v2 1 2 = some v5 ∧
    ∃ v8, g_i G v5 5 0 = some v8 ∧
    w_X9_checkIndex G x1 v8 KX (fun G11 =>
    w_X9_checkRange G11 x3 (0 : Int32) (4 : Int32) KX (fun G17 =>
    ∃ v21, g_r G17 a0 9 5 = some v21 ∧
    ∃ v24, g_r G17 v21 1 2 = some v24 ∧
    ∃ u29, g_ob G17 v24 5 = some u29 ∧
    ∃ v29, f_X5_fileAt G17 v24 x1 x2 = some v29 ∧
    if v29 = (-1 : Int32) then
    K (-1 : Int32) G17
    else
    ∃ v43, g_r G17 a0 9 5 = some v43 ∧
    ∃ v46, g_r G17 v43 1 2 = some v46 ∧
    ∃ u52, g_ob G17 v46 5 = some u52 ∧
    ∃ v52, f_X5_versionFor G17 v46 x1 v29 = some v52 ∧
    if x3 = (0 : Int32) then
    K v29 G17
    else
    if x3 = (1 : Int32) then
    K v52 G17
    else
    if x3 = (2 : Int32) then
    ∃ v95, g_r G17 a0 9 5 = some v95 ∧
    ∃ v98, g_r G17 v95 1 1 = some v98 ∧
    ∃ u103, g_ob G17 v98 7 = some u103 ∧
    ∃ v103, f_X7_firstOf G17 v98 v52 = some v103 ∧
    K v103 G17
    else
    if x3 = (3 : Int32) then
    ∃ v108, g_r G17 a0 9 5 = some v108 ∧
    ∃ v111, g_r G17 v108 1 1 = some v111 ∧
    ∃ u116, g_ob G17 v111 7 = some u116 ∧
    ∃ v116, f_X7_lengthOf G17 v111 v52 = some v116 ∧
    K v116 G17
    else
    ∃ v121, g_r G17 a0 9 5 = some v121 ∧
    ∃ v124, g_r G17 v121 1 1 = some v124 ∧
    ∃ u129, g_ob G17 v124 7 = some u129 ∧
    ∃ v129, f_X7_tagOf G17 v124 v52 = some v129 ∧
    K v129 G17))
set_option maxRecDepth 20000 in
set_option maxHeartbeats 4000000 in
theorem m_X9_entry (l : Launch) (hfl : l.stackTraces = false) (dd : va_G) (cT : Nat → ClassId) (lo : Nat) (G : gH) (a0 : Nat) (x1 : Int32) (x2 : Int32) (x3 : Int32) {KX : String → gH → Prop} {K : Int32 → gH → Prop} (h : w_X9_entry G a0 x1 x2 x3 KX K) : vx_Met l yX9_entry (Cond.code yX9_entry cX9_entry 6 (some .int) :: wsL_law) (g_rm 7 104 2 12) (va_Pc [.ref a0, .int x1, .int x2, .int x3] (g_Pre lo dd cT G)) (va_Qi K (g_Pre lo dd cT) (g_A lo)) (g_XC lo dd cT KX) 2 12 (g_A lo) := by
  refine g_startX RX9 rfl (by decide) (Nat.le_of_ble_eq_true rfl) ?_
  intro p e s m below meth c hx hb hr hlocks hml hnone hown hnm hts hK hG hlo ls hl
  have hl : lv_has ls 6 [(0, .ref a0), (1, .int x1), (2, .int x2), (3, .int x3)] := hl
  have hG : g_S lo dd cT s s.heap [] G := hG
  unfold w_X9_entry at h
  refine lv_iload_n hx hb dX9_entry_0 rfl (lv_at hl 1 rfl) ?_
  refine lv_aload_n hx hb dX9_entry_1 rfl (lv_at hl 0 rfl) ?_
  obtain ⟨v2, e2, h⟩ := h
  refine g_getr hx hb hts inlX9 hown hK hG (by rfl) 5 (by decide) qF_X9_47 e2 dX9_entry_2 ?_
  obtain ⟨v5, e5, h⟩ := h
  refine g_getr hx hb hts inlX1 hown hK hG (by rfl) 2 (by decide) qF_X9_119 e5 dX9_entry_5 ?_
  obtain ⟨v8, e8, h⟩ := h
  refine g_geti hx hb hts inlX5 hown hK hG (by rfl) 0 (by decide) qF_X9_123 e8 dX9_entry_8 ?_
  refine g_xSv (As := [.int x1, .int v8]) (rest := []) (n := 2) hx hb hml hown hts hK hlo hG (m_X9_checkIndex l hfl dd cT lo G x1 v8 h) qM_X9_179 qT_yX9_checkIndex qN_X9 qC_yX9_checkIndex (by decide +kernel) ⟨Nat.le_of_ble_eq_true rfl, Nat.le_of_ble_eq_true rfl⟩ rfl hl.1 rfl (Nat.le_of_ble_eq_true rfl) dX9_entry_11 ⟨Nat.le_of_ble_eq_true rfl, Nat.le_of_ble_eq_true rfl⟩ (fun E ce q9 G1 H locs hKX hG a1 a2 a3 => g_out hlocks hnone hG a1 a2 a3 hKX (Nat.le_of_ble_eq_true rfl) (Nat.le_of_ble_eq_true rfl)) (fun G11 H locs h hG => ?_)
  refine lv_iload_n hx hb dX9_entry_14 rfl (lv_at hl 3 rfl) ?_
  refine lv_iconst (v := (0 : Int32)) hx hb dX9_entry_15 (by decide) ?_
  refine lv_iconst (v := (4 : Int32)) hx hb dX9_entry_16 (by decide) ?_
  refine g_xSv (As := [.int x3, .int (0 : Int32), .int (4 : Int32)]) (rest := []) (n := 3) hx hb hml hown hts hK hlo hG (m_X9_checkRange l hfl dd cT lo G11 x3 (0 : Int32) (4 : Int32) h) qM_X9_70 qT_yX9_checkRange qN_X9 qC_yX9_checkRange (by decide +kernel) ⟨Nat.le_of_ble_eq_true rfl, Nat.le_of_ble_eq_true rfl⟩ rfl hl.1 rfl (Nat.le_of_ble_eq_true rfl) dX9_entry_17 ⟨Nat.le_of_ble_eq_true rfl, Nat.le_of_ble_eq_true rfl⟩ (fun E ce q9 G1 H locs hKX hG a1 a2 a3 => g_out hlocks hnone hG a1 a2 a3 hKX (Nat.le_of_ble_eq_true rfl) (Nat.le_of_ble_eq_true rfl)) (fun G17 H locs h hG => ?_)
  refine lv_aload_n hx hb dX9_entry_20 rfl (lv_at hl 0 rfl) ?_
  obtain ⟨v21, e21, h⟩ := h
  refine g_getr hx hb hts inlX9 hown hK hG (by rfl) 5 (by decide) qF_X9_47 e21 dX9_entry_21 ?_
  obtain ⟨v24, e24, h⟩ := h
  refine g_getr hx hb hts inlX1 hown hK hG (by rfl) 2 (by decide) qF_X9_119 e24 dX9_entry_24 ?_
  refine lv_iload_n hx hb dX9_entry_27 rfl (lv_at hl 1 rfl) ?_
  refine lv_iload_n hx hb dX9_entry_28 rfl (lv_at hl 2 rfl) ?_
  obtain ⟨u29, o29, h⟩ := h
  obtain ⟨v29, e29, h⟩ := h
  refine g_cVi (As := [.int x1, .int x2]) (rest := []) (n := 2) hx hb hml hown hts hK hlo hG (m_X5_fileAt l dd cT lo G17 v24 x1 x2 e29) qM_X9_221 qI_yX5_fileAt qS_X5_yX5_fileAt qN_X5 qC_yX5_fileAt (by decide +kernel) ⟨Nat.le_of_ble_eq_true rfl, Nat.le_of_ble_eq_true rfl⟩ (by rfl) o29 rfl hl.1 rfl (Nat.le_of_ble_eq_true rfl) dX9_entry_29 ⟨Nat.le_of_ble_eq_true rfl, Nat.le_of_ble_eq_true rfl⟩ (fun H locs hG => ?_)
  refine lv_istore (lv' := [(4, .int v29), (0, .ref a0), (1, .int x1), (2, .int x2), (3, .int x3)]) hx hb dX9_entry_32 hl (by decide) rfl (fun ls hl => ?_)
  refine lv_iload hx hb dX9_entry_34 (lv_at hl 0 rfl) ?_
  refine lv_iconst (v := (-1 : Int32)) hx hb dX9_entry_36 (by decide) ?_
  refine lv_icmp_ne (tgt := 42) hx hb dX9_entry_37 (by decide) (fun c37 => ?_) (fun c37 => ?_)
  · rw [if_neg c37] at h
    refine lv_aload_n hx hb dX9_entry_42 rfl (lv_at hl 1 rfl) ?_
    obtain ⟨v43, e43, h⟩ := h
    refine g_getr hx hb hts inlX9 hown hK hG (by rfl) 5 (by decide) qF_X9_47 e43 dX9_entry_43 ?_
    obtain ⟨v46, e46, h⟩ := h
    refine g_getr hx hb hts inlX1 hown hK hG (by rfl) 2 (by decide) qF_X9_119 e46 dX9_entry_46 ?_
    refine lv_iload_n hx hb dX9_entry_49 rfl (lv_at hl 2 rfl) ?_
    refine lv_iload hx hb dX9_entry_50 (lv_at hl 0 rfl) ?_
    obtain ⟨u52, o52, h⟩ := h
    obtain ⟨v52, e52, h⟩ := h
    refine g_cVi (As := [.int x1, .int v29]) (rest := []) (n := 2) hx hb hml hown hts hK hlo hG (m_X5_versionFor l dd cT lo G17 v46 x1 v29 e52) qM_X9_224 qI_yX5_versionFor qS_X5_yX5_versionFor qN_X5 qC_yX5_versionFor (by decide +kernel) ⟨Nat.le_of_ble_eq_true rfl, Nat.le_of_ble_eq_true rfl⟩ (by rfl) o52 rfl hl.1 rfl (Nat.le_of_ble_eq_true rfl) dX9_entry_52 ⟨Nat.le_of_ble_eq_true rfl, Nat.le_of_ble_eq_true rfl⟩ (fun H locs hG => ?_)
    refine lv_istore (lv' := [(5, .int v52), (4, .int v29), (0, .ref a0), (1, .int x1), (2, .int x2), (3, .int x3)]) hx hb dX9_entry_55 hl (by decide) rfl (fun ls hl => ?_)
    refine lv_iload_n hx hb dX9_entry_57 rfl (lv_at hl 5 rfl) ?_
    by_cases c58_0 : x3 = (0 : Int32)
    · rw [if_pos c58_0] at h
      refine g_swIn (tgt := 88) hx hb dX9_entry_58 (0 : Int32) c58_0 (by decide) (by decide) 30 (by decide) (by decide) ?_
      refine lv_iload hx hb dX9_entry_88 (lv_at hl 1 rfl) ?_
      refine W.widen (k := 2) (n := 12) (Nat.le_of_ble_eq_true rfl) (Nat.le_of_ble_eq_true rfl) ?_
      exact vx_ret (g_iret hx hb hr hlocks hK hlo hG h dX9_entry_90)
    rw [if_neg c58_0] at h
    by_cases c58_1 : x3 = (1 : Int32)
    · rw [if_pos c58_1] at h
      refine g_swIn (tgt := 91) hx hb dX9_entry_58 (1 : Int32) c58_1 (by decide) (by decide) 33 (by decide) (by decide) ?_
      refine lv_iload hx hb dX9_entry_91 (lv_at hl 0 rfl) ?_
      refine W.widen (k := 2) (n := 12) (Nat.le_of_ble_eq_true rfl) (Nat.le_of_ble_eq_true rfl) ?_
      exact vx_ret (g_iret hx hb hr hlocks hK hlo hG h dX9_entry_93)
    rw [if_neg c58_1] at h
    by_cases c58_2 : x3 = (2 : Int32)
    · rw [if_pos c58_2] at h
      refine g_swIn (tgt := 94) hx hb dX9_entry_58 (2 : Int32) c58_2 (by decide) (by decide) 36 (by decide) (by decide) ?_
      refine lv_aload_n hx hb dX9_entry_94 rfl (lv_at hl 2 rfl) ?_
      obtain ⟨v95, e95, h⟩ := h
      refine g_getr hx hb hts inlX9 hown hK hG (by rfl) 5 (by decide) qF_X9_47 e95 dX9_entry_95 ?_
      obtain ⟨v98, e98, h⟩ := h
      refine g_getr hx hb hts inlX1 hown hK hG (by rfl) 1 (by decide) qF_X9_162 e98 dX9_entry_98 ?_
      refine lv_iload hx hb dX9_entry_101 (lv_at hl 0 rfl) ?_
      obtain ⟨u103, o103, h⟩ := h
      obtain ⟨v103, e103, h⟩ := h
      refine g_cVi (As := [.int v52]) (rest := []) (n := 1) hx hb hml hown hts hK hlo hG (m_X7_firstOf l dd cT lo G17 v98 v52 e103) qM_X9_227 qI_yX7_firstOf qS_X7_yX7_firstOf qN_X7 qC_yX7_firstOf (by decide +kernel) ⟨Nat.le_of_ble_eq_true rfl, Nat.le_of_ble_eq_true rfl⟩ (by rfl) o103 rfl hl.1 rfl (Nat.le_of_ble_eq_true rfl) dX9_entry_103 ⟨Nat.le_of_ble_eq_true rfl, Nat.le_of_ble_eq_true rfl⟩ (fun H locs hG => ?_)
      refine W.widen (k := 2) (n := 12) (Nat.le_of_ble_eq_true rfl) (Nat.le_of_ble_eq_true rfl) ?_
      exact vx_ret (g_iret hx hb hr hlocks hK hlo hG h dX9_entry_106)
    rw [if_neg c58_2] at h
    by_cases c58_3 : x3 = (3 : Int32)
    · rw [if_pos c58_3] at h
      refine g_swIn (tgt := 107) hx hb dX9_entry_58 (3 : Int32) c58_3 (by decide) (by decide) 49 (by decide) (by decide) ?_
      refine lv_aload_n hx hb dX9_entry_107 rfl (lv_at hl 2 rfl) ?_
      obtain ⟨v108, e108, h⟩ := h
      refine g_getr hx hb hts inlX9 hown hK hG (by rfl) 5 (by decide) qF_X9_47 e108 dX9_entry_108 ?_
      obtain ⟨v111, e111, h⟩ := h
      refine g_getr hx hb hts inlX1 hown hK hG (by rfl) 1 (by decide) qF_X9_162 e111 dX9_entry_111 ?_
      refine lv_iload hx hb dX9_entry_114 (lv_at hl 0 rfl) ?_
      obtain ⟨u116, o116, h⟩ := h
      obtain ⟨v116, e116, h⟩ := h
      refine g_cVi (As := [.int v52]) (rest := []) (n := 1) hx hb hml hown hts hK hlo hG (m_X7_lengthOf l dd cT lo G17 v111 v52 e116) qM_X9_228 qI_yX7_lengthOf qS_X7_yX7_lengthOf qN_X7 qC_yX7_lengthOf (by decide +kernel) ⟨Nat.le_of_ble_eq_true rfl, Nat.le_of_ble_eq_true rfl⟩ (by rfl) o116 rfl hl.1 rfl (Nat.le_of_ble_eq_true rfl) dX9_entry_116 ⟨Nat.le_of_ble_eq_true rfl, Nat.le_of_ble_eq_true rfl⟩ (fun H locs hG => ?_)
      refine W.widen (k := 2) (n := 12) (Nat.le_of_ble_eq_true rfl) (Nat.le_of_ble_eq_true rfl) ?_
      exact vx_ret (g_iret hx hb hr hlocks hK hlo hG h dX9_entry_119)
    rw [if_neg c58_3] at h
    have z58 : x3.toInt < 0 ∨ 3 < x3.toInt := by
      have y0 : ¬ x3.toInt = 0 := fun w => c58_0 (Int32.toInt_inj.mp (by rw [w]; rfl))
      have y1 : ¬ x3.toInt = 1 := fun w => c58_1 (Int32.toInt_inj.mp (by rw [w]; rfl))
      have y2 : ¬ x3.toInt = 2 := fun w => c58_2 (Int32.toInt_inj.mp (by rw [w]; rfl))
      have y3 : ¬ x3.toInt = 3 := fun w => c58_3 (Int32.toInt_inj.mp (by rw [w]; rfl))
      omega
    refine lv_tableOut (tgt := 120) hx hb dX9_entry_58 z58 (by decide) ?_
    refine lv_aload_n hx hb dX9_entry_120 rfl (lv_at hl 2 rfl) ?_
    obtain ⟨v121, e121, h⟩ := h
    refine g_getr hx hb hts inlX9 hown hK hG (by rfl) 5 (by decide) qF_X9_47 e121 dX9_entry_121 ?_
    obtain ⟨v124, e124, h⟩ := h
    refine g_getr hx hb hts inlX1 hown hK hG (by rfl) 1 (by decide) qF_X9_162 e124 dX9_entry_124 ?_
    refine lv_iload hx hb dX9_entry_127 (lv_at hl 0 rfl) ?_
    obtain ⟨u129, o129, h⟩ := h
    obtain ⟨v129, e129, h⟩ := h
    refine g_cVi (As := [.int v52]) (rest := []) (n := 1) hx hb hml hown hts hK hlo hG (m_X7_tagOf l dd cT lo G17 v124 v52 e129) qM_X9_231 qI_yX7_tagOf qS_X7_yX7_tagOf qN_X7 qC_yX7_tagOf (by decide +kernel) ⟨Nat.le_of_ble_eq_true rfl, Nat.le_of_ble_eq_true rfl⟩ (by rfl) o129 rfl hl.1 rfl (Nat.le_of_ble_eq_true rfl) dX9_entry_129 ⟨Nat.le_of_ble_eq_true rfl, Nat.le_of_ble_eq_true rfl⟩ (fun H locs hG => ?_)
    refine W.widen (k := 2) (n := 12) (Nat.le_of_ble_eq_true rfl) (Nat.le_of_ble_eq_true rfl) ?_
    exact vx_ret (g_iret hx hb hr hlocks hK hlo hG h dX9_entry_132)
  · rw [if_pos c37] at h
    refine lv_iconst (v := (-1 : Int32)) hx hb dX9_entry_40 (by decide) ?_
    refine W.widen (k := 2) (n := 12) (Nat.le_of_ble_eq_true rfl) (Nat.le_of_ble_eq_true rfl) ?_
    exact vx_ret (g_iret hx hb hr hlocks hK hlo hG h dX9_entry_41)
def w_X9_file (G : gH) (a0 : Nat) (x1 : Int32) (x2 : Int32) (KX : String → gH → Prop) (K : Int32 → gH → Prop) : Prop :=
    ∃ v2, g_r G a0 9 5 = some v2 ∧
    ∃ v5, g_i G v2 1 3 = some v5 ∧
    w_X9_checkIndex G x1 v5 KX (fun G8 =>
    w_X9_checkRange G8 x2 (0 : Int32) (6 : Int32) KX (fun G15 =>
    ∃ v19, g_r G15 a0 9 5 = some v19 ∧
    ∃ v22, g_r G15 v19 1 6 = some v22 ∧
    ∃ v26, g_r G15 a0 9 5 = some v26 ∧
    ∃ u29, g_ob G15 v22 8 = some u29 ∧
    ∃ q29, f_X8_lookAt G15 v22 v26 = some q29 ∧
    ∃ u35, g_ob q29.1 q29.2 8 = some u35 ∧
    ∃ v35, f_X8_versionOf q29.1 q29.2 x1 = some v35 ∧
    if x2 = (0 : Int32) then
    if v35 = (-1 : Int32) then
    ∃ v91, f_X9_oneIf q29.1 (0 : Int32) = some v91 ∧
    K v91 q29.1
    else
    ∃ v91, f_X9_oneIf q29.1 (1 : Int32) = some v91 ∧
    K v91 q29.1
    else
    if x2 = (1 : Int32) then
    ∃ u97, g_ob q29.1 q29.2 8 = some u97 ∧
    ∃ v97, f_X8_isReadable q29.1 q29.2 x1 = some v97 ∧
    ∃ v100, f_X9_oneIf q29.1 v97 = some v100 ∧
    K v100 q29.1
    else
    if x2 = (2 : Int32) then
    K v35 q29.1
    else
    if x2 = (3 : Int32) then
    ∃ v108, g_r q29.1 a0 9 5 = some v108 ∧
    ∃ v111, g_r q29.1 v108 1 1 = some v111 ∧
    ∃ u116, g_ob q29.1 v111 7 = some u116 ∧
    ∃ v116, f_X7_lengthOf q29.1 v111 v35 = some v116 ∧
    K v116 q29.1
    else
    if x2 = (4 : Int32) then
    ∃ v121, g_r q29.1 a0 9 5 = some v121 ∧
    ∃ v124, g_r q29.1 v121 1 1 = some v124 ∧
    ∃ u129, g_ob q29.1 v124 7 = some u129 ∧
    ∃ v129, f_X7_tagOf q29.1 v124 v35 = some v129 ∧
    K v129 q29.1
    else
    if x2 = (5 : Int32) then
    ∃ u135, g_ob q29.1 q29.2 8 = some u135 ∧
    ∃ v135, f_X8_sessionOf q29.1 q29.2 x1 = some v135 ∧
    K v135 q29.1
    else
    ∃ v140, g_r q29.1 a0 9 5 = some v140 ∧
    ∃ v143, g_r q29.1 v140 1 1 = some v143 ∧
    ∃ u147, g_ob q29.1 v143 7 = some u147 ∧
    ∃ v147, f_X7_countOf q29.1 v143 x1 = some v147 ∧
    K v147 q29.1))
set_option maxRecDepth 20000 in
set_option maxHeartbeats 4000000 in
theorem m_X9_file (l : Launch) (hfl : l.stackTraces = false) (dd : va_G) (cT : Nat → ClassId) (lo : Nat) (G : gH) (a0 : Nat) (x1 : Int32) (x2 : Int32) {KX : String → gH → Prop} {K : Int32 → gH → Prop} (h : w_X9_file G a0 x1 x2 KX K) : vx_Met l yX9_file (Cond.code yX9_file cX9_file 5 (some .int) :: wsL_law) (g_rm 7 104 2 12) (va_Pc [.ref a0, .int x1, .int x2] (g_Pre lo dd cT G)) (va_Qi K (g_Pre lo dd cT) (g_A lo)) (g_XC lo dd cT KX) 2 12 (g_A lo) := by
  refine g_startX RX9 rfl (by decide) (Nat.le_of_ble_eq_true rfl) ?_
  intro p e s m below meth c hx hb hr hlocks hml hnone hown hnm hts hK hG hlo ls hl
  have hl : lv_has ls 5 [(0, .ref a0), (1, .int x1), (2, .int x2)] := hl
  have hG : g_S lo dd cT s s.heap [] G := hG
  unfold w_X9_file at h
  refine lv_iload_n hx hb dX9_file_0 rfl (lv_at hl 1 rfl) ?_
  refine lv_aload_n hx hb dX9_file_1 rfl (lv_at hl 0 rfl) ?_
  obtain ⟨v2, e2, h⟩ := h
  refine g_getr hx hb hts inlX9 hown hK hG (by rfl) 5 (by decide) qF_X9_47 e2 dX9_file_2 ?_
  obtain ⟨v5, e5, h⟩ := h
  refine g_geti hx hb hts inlX1 hown hK hG (by rfl) 3 (by decide) qF_X9_116 e5 dX9_file_5 ?_
  refine g_xSv (As := [.int x1, .int v5]) (rest := []) (n := 2) hx hb hml hown hts hK hlo hG (m_X9_checkIndex l hfl dd cT lo G x1 v5 h) qM_X9_179 qT_yX9_checkIndex qN_X9 qC_yX9_checkIndex (by decide +kernel) ⟨Nat.le_of_ble_eq_true rfl, Nat.le_of_ble_eq_true rfl⟩ rfl hl.1 rfl (Nat.le_of_ble_eq_true rfl) dX9_file_8 ⟨Nat.le_of_ble_eq_true rfl, Nat.le_of_ble_eq_true rfl⟩ (fun E ce q9 G1 H locs hKX hG a1 a2 a3 => g_out hlocks hnone hG a1 a2 a3 hKX (Nat.le_of_ble_eq_true rfl) (Nat.le_of_ble_eq_true rfl)) (fun G8 H locs h hG => ?_)
  refine lv_iload_n hx hb dX9_file_11 rfl (lv_at hl 2 rfl) ?_
  refine lv_iconst (v := (0 : Int32)) hx hb dX9_file_12 (by decide) ?_
  refine lv_bipush (v := (6 : Int32)) hx hb dX9_file_13 (by decide) ?_
  refine g_xSv (As := [.int x2, .int (0 : Int32), .int (6 : Int32)]) (rest := []) (n := 3) hx hb hml hown hts hK hlo hG (m_X9_checkRange l hfl dd cT lo G8 x2 (0 : Int32) (6 : Int32) h) qM_X9_70 qT_yX9_checkRange qN_X9 qC_yX9_checkRange (by decide +kernel) ⟨Nat.le_of_ble_eq_true rfl, Nat.le_of_ble_eq_true rfl⟩ rfl hl.1 rfl (Nat.le_of_ble_eq_true rfl) dX9_file_15 ⟨Nat.le_of_ble_eq_true rfl, Nat.le_of_ble_eq_true rfl⟩ (fun E ce q9 G1 H locs hKX hG a1 a2 a3 => g_out hlocks hnone hG a1 a2 a3 hKX (Nat.le_of_ble_eq_true rfl) (Nat.le_of_ble_eq_true rfl)) (fun G15 H locs h hG => ?_)
  refine lv_aload_n hx hb dX9_file_18 rfl (lv_at hl 0 rfl) ?_
  obtain ⟨v19, e19, h⟩ := h
  refine g_getr hx hb hts inlX9 hown hK hG (by rfl) 5 (by decide) qF_X9_47 e19 dX9_file_19 ?_
  obtain ⟨v22, e22, h⟩ := h
  refine g_getr hx hb hts inlX1 hown hK hG (by rfl) 6 (by decide) qF_X9_136 e22 dX9_file_22 ?_
  refine lv_aload_n hx hb dX9_file_25 rfl (lv_at hl 0 rfl) ?_
  obtain ⟨v26, e26, h⟩ := h
  refine g_getr hx hb hts inlX9 hown hK hG (by rfl) 5 (by decide) qF_X9_47 e26 dX9_file_26 ?_
  obtain ⟨u29, o29, h⟩ := h
  obtain ⟨q29, e29, h⟩ := h
  refine g_cVr (As := [.ref v26]) (rest := []) (n := 1) hx hb hml hown hts hK hlo hG (m_X8_lookAt l dd cT lo G15 v22 v26 e29) qM_X9_139 qI_yX8_lookAt qS_X8_yX8_lookAt qN_X8 qC_yX8_lookAt (by decide +kernel) ⟨Nat.le_of_ble_eq_true rfl, Nat.le_of_ble_eq_true rfl⟩ (by rfl) o29 rfl hl.1 rfl (Nat.le_of_ble_eq_true rfl) dX9_file_29 ⟨Nat.le_of_ble_eq_true rfl, Nat.le_of_ble_eq_true rfl⟩ (fun H locs hG => ?_)
  refine lv_astore_n (lv' := [(3, .ref q29.2), (0, .ref a0), (1, .int x1), (2, .int x2)]) hx hb dX9_file_32 rfl hl (by decide) rfl (fun ls hl => ?_)
  refine lv_aload_n hx hb dX9_file_33 rfl (lv_at hl 0 rfl) ?_
  refine lv_iload_n hx hb dX9_file_34 rfl (lv_at hl 2 rfl) ?_
  obtain ⟨u35, o35, h⟩ := h
  obtain ⟨v35, e35, h⟩ := h
  refine g_cVi (As := [.int x1]) (rest := []) (n := 1) hx hb hml hown hts hK hlo hG (m_X8_versionOf l dd cT lo q29.1 q29.2 x1 e35) qM_X9_234 qI_yX8_versionOf qS_X8_yX8_versionOf qN_X8 qC_yX8_versionOf (by decide +kernel) ⟨Nat.le_of_ble_eq_true rfl, Nat.le_of_ble_eq_true rfl⟩ (by rfl) o35 rfl hl.1 rfl (Nat.le_of_ble_eq_true rfl) dX9_file_35 ⟨Nat.le_of_ble_eq_true rfl, Nat.le_of_ble_eq_true rfl⟩ (fun H locs hG => ?_)
  refine lv_istore (lv' := [(4, .int v35), (3, .ref q29.2), (0, .ref a0), (1, .int x1), (2, .int x2)]) hx hb dX9_file_38 hl (by decide) rfl (fun ls hl => ?_)
  refine lv_iload_n hx hb dX9_file_40 rfl (lv_at hl 4 rfl) ?_
  by_cases c41_0 : x2 = (0 : Int32)
  · rw [if_pos c41_0] at h
    refine g_swIn (tgt := 80) hx hb dX9_file_41 (0 : Int32) c41_0 (by decide) (by decide) 39 (by decide) (by decide) ?_
    refine lv_iload hx hb dX9_file_80 (lv_at hl 0 rfl) ?_
    refine lv_iconst (v := (-1 : Int32)) hx hb dX9_file_82 (by decide) ?_
    refine lv_icmp_eq (tgt := 90) hx hb dX9_file_83 (by decide) (fun c83 => ?_) (fun c83 => ?_)
    · rw [if_pos c83] at h
      refine lv_iconst (v := (0 : Int32)) hx hb dX9_file_90 (by decide) ?_
      obtain ⟨v91, e91, h⟩ := h
      refine g_cSi (As := [.int (0 : Int32)]) (rest := []) (n := 1) hx hb hml hown hts hK hlo hG (m_X9_oneIf l dd cT lo q29.1 (0 : Int32) e91) qM_X9_153 qT_yX9_oneIf qN_X9 qC_yX9_oneIf (by decide +kernel) ⟨Nat.le_of_ble_eq_true rfl, Nat.le_of_ble_eq_true rfl⟩ rfl hl.1 rfl (Nat.le_of_ble_eq_true rfl) dX9_file_91 ⟨Nat.le_of_ble_eq_true rfl, Nat.le_of_ble_eq_true rfl⟩ (fun H locs hG => ?_)
      refine W.widen (k := 2) (n := 12) (Nat.le_of_ble_eq_true rfl) (Nat.le_of_ble_eq_true rfl) ?_
      exact vx_ret (g_iret hx hb hr hlocks hK hlo hG h dX9_file_94)
    · rw [if_neg c83] at h
      refine lv_iconst (v := (1 : Int32)) hx hb dX9_file_86 (by decide) ?_
      refine lv_goto (tgt := 91) hx hb dX9_file_87 (by decide) ?_
      obtain ⟨v91, e91, h⟩ := h
      refine g_cSi (As := [.int (1 : Int32)]) (rest := []) (n := 1) hx hb hml hown hts hK hlo hG (m_X9_oneIf l dd cT lo q29.1 (1 : Int32) e91) qM_X9_153 qT_yX9_oneIf qN_X9 qC_yX9_oneIf (by decide +kernel) ⟨Nat.le_of_ble_eq_true rfl, Nat.le_of_ble_eq_true rfl⟩ rfl hl.1 rfl (Nat.le_of_ble_eq_true rfl) dX9_file_91 ⟨Nat.le_of_ble_eq_true rfl, Nat.le_of_ble_eq_true rfl⟩ (fun H locs hG => ?_)
      refine W.widen (k := 2) (n := 12) (Nat.le_of_ble_eq_true rfl) (Nat.le_of_ble_eq_true rfl) ?_
      exact vx_ret (g_iret hx hb hr hlocks hK hlo hG h dX9_file_94)
  rw [if_neg c41_0] at h
  by_cases c41_1 : x2 = (1 : Int32)
  · rw [if_pos c41_1] at h
    refine g_swIn (tgt := 95) hx hb dX9_file_41 (1 : Int32) c41_1 (by decide) (by decide) 54 (by decide) (by decide) ?_
    refine lv_aload_n hx hb dX9_file_95 rfl (lv_at hl 1 rfl) ?_
    refine lv_iload_n hx hb dX9_file_96 rfl (lv_at hl 3 rfl) ?_
    obtain ⟨u97, o97, h⟩ := h
    obtain ⟨v97, e97, h⟩ := h
    refine g_cVi (As := [.int x1]) (rest := []) (n := 1) hx hb hml hown hts hK hlo hG (m_X8_isReadable l dd cT lo q29.1 q29.2 x1 e97) qM_X9_237 qI_yX8_isReadable qS_X8_yX8_isReadable qN_X8 qC_yX8_isReadable (by decide +kernel) ⟨Nat.le_of_ble_eq_true rfl, Nat.le_of_ble_eq_true rfl⟩ (by rfl) o97 rfl hl.1 rfl (Nat.le_of_ble_eq_true rfl) dX9_file_97 ⟨Nat.le_of_ble_eq_true rfl, Nat.le_of_ble_eq_true rfl⟩ (fun H locs hG => ?_)
    obtain ⟨v100, e100, h⟩ := h
    refine g_cSi (As := [.int v97]) (rest := []) (n := 1) hx hb hml hown hts hK hlo hG (m_X9_oneIf l dd cT lo q29.1 v97 e100) qM_X9_153 qT_yX9_oneIf qN_X9 qC_yX9_oneIf (by decide +kernel) ⟨Nat.le_of_ble_eq_true rfl, Nat.le_of_ble_eq_true rfl⟩ rfl hl.1 rfl (Nat.le_of_ble_eq_true rfl) dX9_file_100 ⟨Nat.le_of_ble_eq_true rfl, Nat.le_of_ble_eq_true rfl⟩ (fun H locs hG => ?_)
    refine W.widen (k := 2) (n := 12) (Nat.le_of_ble_eq_true rfl) (Nat.le_of_ble_eq_true rfl) ?_
    exact vx_ret (g_iret hx hb hr hlocks hK hlo hG h dX9_file_103)
  rw [if_neg c41_1] at h
  by_cases c41_2 : x2 = (2 : Int32)
  · rw [if_pos c41_2] at h
    refine g_swIn (tgt := 104) hx hb dX9_file_41 (2 : Int32) c41_2 (by decide) (by decide) 63 (by decide) (by decide) ?_
    refine lv_iload hx hb dX9_file_104 (lv_at hl 0 rfl) ?_
    refine W.widen (k := 2) (n := 12) (Nat.le_of_ble_eq_true rfl) (Nat.le_of_ble_eq_true rfl) ?_
    exact vx_ret (g_iret hx hb hr hlocks hK hlo hG h dX9_file_106)
  rw [if_neg c41_2] at h
  by_cases c41_3 : x2 = (3 : Int32)
  · rw [if_pos c41_3] at h
    refine g_swIn (tgt := 107) hx hb dX9_file_41 (3 : Int32) c41_3 (by decide) (by decide) 66 (by decide) (by decide) ?_
    refine lv_aload_n hx hb dX9_file_107 rfl (lv_at hl 2 rfl) ?_
    obtain ⟨v108, e108, h⟩ := h
    refine g_getr hx hb hts inlX9 hown hK hG (by rfl) 5 (by decide) qF_X9_47 e108 dX9_file_108 ?_
    obtain ⟨v111, e111, h⟩ := h
    refine g_getr hx hb hts inlX1 hown hK hG (by rfl) 1 (by decide) qF_X9_162 e111 dX9_file_111 ?_
    refine lv_iload hx hb dX9_file_114 (lv_at hl 0 rfl) ?_
    obtain ⟨u116, o116, h⟩ := h
    obtain ⟨v116, e116, h⟩ := h
    refine g_cVi (As := [.int v35]) (rest := []) (n := 1) hx hb hml hown hts hK hlo hG (m_X7_lengthOf l dd cT lo q29.1 v111 v35 e116) qM_X9_228 qI_yX7_lengthOf qS_X7_yX7_lengthOf qN_X7 qC_yX7_lengthOf (by decide +kernel) ⟨Nat.le_of_ble_eq_true rfl, Nat.le_of_ble_eq_true rfl⟩ (by rfl) o116 rfl hl.1 rfl (Nat.le_of_ble_eq_true rfl) dX9_file_116 ⟨Nat.le_of_ble_eq_true rfl, Nat.le_of_ble_eq_true rfl⟩ (fun H locs hG => ?_)
    refine W.widen (k := 2) (n := 12) (Nat.le_of_ble_eq_true rfl) (Nat.le_of_ble_eq_true rfl) ?_
    exact vx_ret (g_iret hx hb hr hlocks hK hlo hG h dX9_file_119)
  rw [if_neg c41_3] at h
  by_cases c41_4 : x2 = (4 : Int32)
  · rw [if_pos c41_4] at h
    refine g_swIn (tgt := 120) hx hb dX9_file_41 (4 : Int32) c41_4 (by decide) (by decide) 79 (by decide) (by decide) ?_
    refine lv_aload_n hx hb dX9_file_120 rfl (lv_at hl 2 rfl) ?_
    obtain ⟨v121, e121, h⟩ := h
    refine g_getr hx hb hts inlX9 hown hK hG (by rfl) 5 (by decide) qF_X9_47 e121 dX9_file_121 ?_
    obtain ⟨v124, e124, h⟩ := h
    refine g_getr hx hb hts inlX1 hown hK hG (by rfl) 1 (by decide) qF_X9_162 e124 dX9_file_124 ?_
    refine lv_iload hx hb dX9_file_127 (lv_at hl 0 rfl) ?_
    obtain ⟨u129, o129, h⟩ := h
    obtain ⟨v129, e129, h⟩ := h
    refine g_cVi (As := [.int v35]) (rest := []) (n := 1) hx hb hml hown hts hK hlo hG (m_X7_tagOf l dd cT lo q29.1 v124 v35 e129) qM_X9_231 qI_yX7_tagOf qS_X7_yX7_tagOf qN_X7 qC_yX7_tagOf (by decide +kernel) ⟨Nat.le_of_ble_eq_true rfl, Nat.le_of_ble_eq_true rfl⟩ (by rfl) o129 rfl hl.1 rfl (Nat.le_of_ble_eq_true rfl) dX9_file_129 ⟨Nat.le_of_ble_eq_true rfl, Nat.le_of_ble_eq_true rfl⟩ (fun H locs hG => ?_)
    refine W.widen (k := 2) (n := 12) (Nat.le_of_ble_eq_true rfl) (Nat.le_of_ble_eq_true rfl) ?_
    exact vx_ret (g_iret hx hb hr hlocks hK hlo hG h dX9_file_132)
  rw [if_neg c41_4] at h
  by_cases c41_5 : x2 = (5 : Int32)
  · rw [if_pos c41_5] at h
    refine g_swIn (tgt := 133) hx hb dX9_file_41 (5 : Int32) c41_5 (by decide) (by decide) 92 (by decide) (by decide) ?_
    refine lv_aload_n hx hb dX9_file_133 rfl (lv_at hl 1 rfl) ?_
    refine lv_iload_n hx hb dX9_file_134 rfl (lv_at hl 3 rfl) ?_
    obtain ⟨u135, o135, h⟩ := h
    obtain ⟨v135, e135, h⟩ := h
    refine g_cVi (As := [.int x1]) (rest := []) (n := 1) hx hb hml hown hts hK hlo hG (m_X8_sessionOf l dd cT lo q29.1 q29.2 x1 e135) qM_X9_240 qI_yX8_sessionOf qS_X8_yX8_sessionOf qN_X8 qC_yX8_sessionOf (by decide +kernel) ⟨Nat.le_of_ble_eq_true rfl, Nat.le_of_ble_eq_true rfl⟩ (by rfl) o135 rfl hl.1 rfl (Nat.le_of_ble_eq_true rfl) dX9_file_135 ⟨Nat.le_of_ble_eq_true rfl, Nat.le_of_ble_eq_true rfl⟩ (fun H locs hG => ?_)
    refine W.widen (k := 2) (n := 12) (Nat.le_of_ble_eq_true rfl) (Nat.le_of_ble_eq_true rfl) ?_
    exact vx_ret (g_iret hx hb hr hlocks hK hlo hG h dX9_file_138)
  rw [if_neg c41_5] at h
  have z41 : x2.toInt < 0 ∨ 5 < x2.toInt := by
    have y0 : ¬ x2.toInt = 0 := fun w => c41_0 (Int32.toInt_inj.mp (by rw [w]; rfl))
    have y1 : ¬ x2.toInt = 1 := fun w => c41_1 (Int32.toInt_inj.mp (by rw [w]; rfl))
    have y2 : ¬ x2.toInt = 2 := fun w => c41_2 (Int32.toInt_inj.mp (by rw [w]; rfl))
    have y3 : ¬ x2.toInt = 3 := fun w => c41_3 (Int32.toInt_inj.mp (by rw [w]; rfl))
    have y4 : ¬ x2.toInt = 4 := fun w => c41_4 (Int32.toInt_inj.mp (by rw [w]; rfl))
    have y5 : ¬ x2.toInt = 5 := fun w => c41_5 (Int32.toInt_inj.mp (by rw [w]; rfl))
    omega
  refine lv_tableOut (tgt := 139) hx hb dX9_file_41 z41 (by decide) ?_
  refine lv_aload_n hx hb dX9_file_139 rfl (lv_at hl 2 rfl) ?_
  obtain ⟨v140, e140, h⟩ := h
  refine g_getr hx hb hts inlX9 hown hK hG (by rfl) 5 (by decide) qF_X9_47 e140 dX9_file_140 ?_
  obtain ⟨v143, e143, h⟩ := h
  refine g_getr hx hb hts inlX1 hown hK hG (by rfl) 1 (by decide) qF_X9_162 e143 dX9_file_143 ?_
  refine lv_iload_n hx hb dX9_file_146 rfl (lv_at hl 3 rfl) ?_
  obtain ⟨u147, o147, h⟩ := h
  obtain ⟨v147, e147, h⟩ := h
  refine g_cVi (As := [.int x1]) (rest := []) (n := 1) hx hb hml hown hts hK hlo hG (m_X7_countOf l dd cT lo q29.1 v143 x1 e147) qM_X9_243 qI_yX7_countOf qS_X7_yX7_countOf qN_X7 qC_yX7_countOf (by decide +kernel) ⟨Nat.le_of_ble_eq_true rfl, Nat.le_of_ble_eq_true rfl⟩ (by rfl) o147 rfl hl.1 rfl (Nat.le_of_ble_eq_true rfl) dX9_file_147 ⟨Nat.le_of_ble_eq_true rfl, Nat.le_of_ble_eq_true rfl⟩ (fun H locs hG => ?_)
  refine W.widen (k := 2) (n := 12) (Nat.le_of_ble_eq_true rfl) (Nat.le_of_ble_eq_true rfl) ?_
  exact vx_ret (g_iret hx hb hr hlocks hK hlo hG h dX9_file_150)
def w_X9_where (G : gH) (a0 : Nat) (x1 : Int32) (x2 : Int32) (KX : String → gH → Prop) (K : Int32 → gH → Prop) : Prop :=
    ∃ v2, g_r G a0 9 5 = some v2 ∧
    ∃ v5, g_i G v2 1 3 = some v5 ∧
    w_X9_checkIndex G x1 v5 KX (fun G8 =>
    ∃ v12, g_r G8 a0 9 5 = some v12 ∧
    ∃ v15, g_r G8 v12 1 6 = some v15 ∧
    ∃ v19, g_r G8 a0 9 5 = some v19 ∧
    ∃ u22, g_ob G8 v15 8 = some u22 ∧
    ∃ q22, f_X8_lookAt G8 v15 v19 = some q22 ∧
    ∃ u26, g_ob q22.1 q22.2 8 = some u26 ∧
    ∃ v26, f_X8_versionOf q22.1 q22.2 x1 = some v26 ∧
    if x2 < 0 then
    K (-1 : Int32) q22.1
    else
    ∃ v36, g_r q22.1 a0 9 5 = some v36 ∧
    ∃ v39, g_r q22.1 v36 1 1 = some v39 ∧
    ∃ u43, g_ob q22.1 v39 7 = some u43 ∧
    ∃ v43, f_X7_lengthOf q22.1 v39 v26 = some v43 ∧
    if x2 < v43 then
    ∃ v52, g_r q22.1 a0 9 5 = some v52 ∧
    ∃ v55, g_r q22.1 v52 1 0 = some v55 ∧
    ∃ v59, g_r q22.1 a0 9 5 = some v59 ∧
    ∃ v62, g_r q22.1 v59 1 1 = some v62 ∧
    ∃ u66, g_ob q22.1 v62 7 = some u66 ∧
    ∃ v66, f_X7_firstOf q22.1 v62 v26 = some v66 ∧
    ∃ u71, g_ob q22.1 v55 0 = some u71 ∧
    ∃ v71, f_X0_placeOf q22.1 v55 (v66 + x2) = some v71 ∧
    K v71 q22.1
    else
    K (-1 : Int32) q22.1)
set_option maxRecDepth 20000 in
set_option maxHeartbeats 4000000 in
theorem m_X9_where (l : Launch) (hfl : l.stackTraces = false) (dd : va_G) (cT : Nat → ClassId) (lo : Nat) (G : gH) (a0 : Nat) (x1 : Int32) (x2 : Int32) {KX : String → gH → Prop} {K : Int32 → gH → Prop} (h : w_X9_where G a0 x1 x2 KX K) : vx_Met l yX9_where (Cond.code yX9_where cX9_where 4 (some .int) :: wsL_law) (g_rm 7 103 1 6) (va_Pc [.ref a0, .int x1, .int x2] (g_Pre lo dd cT G)) (va_Qi K (g_Pre lo dd cT) (g_A lo)) (g_XC lo dd cT KX) 1 6 (g_A lo) := by
  refine g_startX RX9 rfl (by decide) (Nat.le_of_ble_eq_true rfl) ?_
  intro p e s m below meth c hx hb hr hlocks hml hnone hown hnm hts hK hG hlo ls hl
  have hl : lv_has ls 4 [(0, .ref a0), (1, .int x1), (2, .int x2)] := hl
  have hG : g_S lo dd cT s s.heap [] G := hG
  unfold w_X9_where at h
  refine lv_iload_n hx hb dX9_where_0 rfl (lv_at hl 1 rfl) ?_
  refine lv_aload_n hx hb dX9_where_1 rfl (lv_at hl 0 rfl) ?_
  obtain ⟨v2, e2, h⟩ := h
  refine g_getr hx hb hts inlX9 hown hK hG (by rfl) 5 (by decide) qF_X9_47 e2 dX9_where_2 ?_
  obtain ⟨v5, e5, h⟩ := h
  refine g_geti hx hb hts inlX1 hown hK hG (by rfl) 3 (by decide) qF_X9_116 e5 dX9_where_5 ?_
  refine g_xSv (As := [.int x1, .int v5]) (rest := []) (n := 2) hx hb hml hown hts hK hlo hG (m_X9_checkIndex l hfl dd cT lo G x1 v5 h) qM_X9_179 qT_yX9_checkIndex qN_X9 qC_yX9_checkIndex (by decide +kernel) ⟨Nat.le_of_ble_eq_true rfl, Nat.le_of_ble_eq_true rfl⟩ rfl hl.1 rfl (Nat.le_of_ble_eq_true rfl) dX9_where_8 ⟨Nat.le_of_ble_eq_true rfl, Nat.le_of_ble_eq_true rfl⟩ (fun E ce q9 G1 H locs hKX hG a1 a2 a3 => g_out hlocks hnone hG a1 a2 a3 hKX (Nat.le_of_ble_eq_true rfl) (Nat.le_of_ble_eq_true rfl)) (fun G8 H locs h hG => ?_)
  refine lv_aload_n hx hb dX9_where_11 rfl (lv_at hl 0 rfl) ?_
  obtain ⟨v12, e12, h⟩ := h
  refine g_getr hx hb hts inlX9 hown hK hG (by rfl) 5 (by decide) qF_X9_47 e12 dX9_where_12 ?_
  obtain ⟨v15, e15, h⟩ := h
  refine g_getr hx hb hts inlX1 hown hK hG (by rfl) 6 (by decide) qF_X9_136 e15 dX9_where_15 ?_
  refine lv_aload_n hx hb dX9_where_18 rfl (lv_at hl 0 rfl) ?_
  obtain ⟨v19, e19, h⟩ := h
  refine g_getr hx hb hts inlX9 hown hK hG (by rfl) 5 (by decide) qF_X9_47 e19 dX9_where_19 ?_
  obtain ⟨u22, o22, h⟩ := h
  obtain ⟨q22, e22, h⟩ := h
  refine g_cVr (As := [.ref v19]) (rest := []) (n := 1) hx hb hml hown hts hK hlo hG (m_X8_lookAt l dd cT lo G8 v15 v19 e22) qM_X9_139 qI_yX8_lookAt qS_X8_yX8_lookAt qN_X8 qC_yX8_lookAt (by decide +kernel) ⟨Nat.le_of_ble_eq_true rfl, Nat.le_of_ble_eq_true rfl⟩ (by rfl) o22 rfl hl.1 rfl (Nat.le_of_ble_eq_true rfl) dX9_where_22 ⟨Nat.le_of_ble_eq_true rfl, Nat.le_of_ble_eq_true rfl⟩ (fun H locs hG => ?_)
  refine lv_iload_n hx hb dX9_where_25 rfl (lv_at hl 1 rfl) ?_
  obtain ⟨u26, o26, h⟩ := h
  obtain ⟨v26, e26, h⟩ := h
  refine g_cVi (As := [.int x1]) (rest := []) (n := 1) hx hb hml hown hts hK hlo hG (m_X8_versionOf l dd cT lo q22.1 q22.2 x1 e26) qM_X9_234 qI_yX8_versionOf qS_X8_yX8_versionOf qN_X8 qC_yX8_versionOf (by decide +kernel) ⟨Nat.le_of_ble_eq_true rfl, Nat.le_of_ble_eq_true rfl⟩ (by rfl) o26 rfl hl.1 rfl (Nat.le_of_ble_eq_true rfl) dX9_where_26 ⟨Nat.le_of_ble_eq_true rfl, Nat.le_of_ble_eq_true rfl⟩ (fun H locs hG => ?_)
  refine lv_istore_n (lv' := [(3, .int v26), (0, .ref a0), (1, .int x1), (2, .int x2)]) hx hb dX9_where_29 rfl hl (by decide) rfl (fun ls hl => ?_)
  refine lv_iload_n hx hb dX9_where_30 rfl (lv_at hl 3 rfl) ?_
  refine lv_if_lt (tgt := 49) hx hb dX9_where_31 (by decide) (fun c31 => ?_) (fun c31 => ?_)
  · rw [if_pos c31] at h
    refine lv_iconst (v := (-1 : Int32)) hx hb dX9_where_49 (by decide) ?_
    refine W.widen (k := 1) (n := 6) (Nat.le_of_ble_eq_true rfl) (Nat.le_of_ble_eq_true rfl) ?_
    exact vx_ret (g_iret hx hb hr hlocks hK hlo hG h dX9_where_50)
  · rw [if_neg c31] at h
    refine lv_iload_n hx hb dX9_where_34 rfl (lv_at hl 3 rfl) ?_
    refine lv_aload_n hx hb dX9_where_35 rfl (lv_at hl 1 rfl) ?_
    obtain ⟨v36, e36, h⟩ := h
    refine g_getr hx hb hts inlX9 hown hK hG (by rfl) 5 (by decide) qF_X9_47 e36 dX9_where_36 ?_
    obtain ⟨v39, e39, h⟩ := h
    refine g_getr hx hb hts inlX1 hown hK hG (by rfl) 1 (by decide) qF_X9_162 e39 dX9_where_39 ?_
    refine lv_iload_n hx hb dX9_where_42 rfl (lv_at hl 0 rfl) ?_
    obtain ⟨u43, o43, h⟩ := h
    obtain ⟨v43, e43, h⟩ := h
    refine g_cVi (As := [.int v26]) (rest := [.int x2]) (n := 1) hx hb hml hown hts hK hlo hG (m_X7_lengthOf l dd cT lo q22.1 v39 v26 e43) qM_X9_228 qI_yX7_lengthOf qS_X7_yX7_lengthOf qN_X7 qC_yX7_lengthOf (by decide +kernel) ⟨Nat.le_of_ble_eq_true rfl, Nat.le_of_ble_eq_true rfl⟩ (by rfl) o43 rfl hl.1 rfl (Nat.le_of_ble_eq_true rfl) dX9_where_43 ⟨Nat.le_of_ble_eq_true rfl, Nat.le_of_ble_eq_true rfl⟩ (fun H locs hG => ?_)
    refine lv_icmp_lt (tgt := 51) hx hb dX9_where_46 (by decide) (fun c46 => ?_) (fun c46 => ?_)
    · rw [if_pos c46] at h
      refine lv_aload_n hx hb dX9_where_51 rfl (lv_at hl 1 rfl) ?_
      obtain ⟨v52, e52, h⟩ := h
      refine g_getr hx hb hts inlX9 hown hK hG (by rfl) 5 (by decide) qF_X9_47 e52 dX9_where_52 ?_
      obtain ⟨v55, e55, h⟩ := h
      refine g_getr hx hb hts inlX1 hown hK hG (by rfl) 0 (by decide) qF_X9_106 e55 dX9_where_55 ?_
      refine lv_aload_n hx hb dX9_where_58 rfl (lv_at hl 1 rfl) ?_
      obtain ⟨v59, e59, h⟩ := h
      refine g_getr hx hb hts inlX9 hown hK hG (by rfl) 5 (by decide) qF_X9_47 e59 dX9_where_59 ?_
      obtain ⟨v62, e62, h⟩ := h
      refine g_getr hx hb hts inlX1 hown hK hG (by rfl) 1 (by decide) qF_X9_162 e62 dX9_where_62 ?_
      refine lv_iload_n hx hb dX9_where_65 rfl (lv_at hl 0 rfl) ?_
      obtain ⟨u66, o66, h⟩ := h
      obtain ⟨v66, e66, h⟩ := h
      refine g_cVi (As := [.int v26]) (rest := [.ref v55]) (n := 1) hx hb hml hown hts hK hlo hG (m_X7_firstOf l dd cT lo q22.1 v62 v26 e66) qM_X9_227 qI_yX7_firstOf qS_X7_yX7_firstOf qN_X7 qC_yX7_firstOf (by decide +kernel) ⟨Nat.le_of_ble_eq_true rfl, Nat.le_of_ble_eq_true rfl⟩ (by rfl) o66 rfl hl.1 rfl (Nat.le_of_ble_eq_true rfl) dX9_where_66 ⟨Nat.le_of_ble_eq_true rfl, Nat.le_of_ble_eq_true rfl⟩ (fun H locs hG => ?_)
      refine lv_iload_n hx hb dX9_where_69 rfl (lv_at hl 3 rfl) ?_
      refine lv_iadd hx hb dX9_where_70 ?_
      obtain ⟨u71, o71, h⟩ := h
      obtain ⟨v71, e71, h⟩ := h
      refine g_cVi (As := [.int (v66 + x2)]) (rest := []) (n := 1) hx hb hml hown hts hK hlo hG (m_X0_placeOf l dd cT lo q22.1 v55 (v66 + x2) e71) qM_X9_186 qI_yX0_placeOf qS_X0_yX0_placeOf qN_X0 qC_yX0_placeOf (by decide +kernel) ⟨Nat.le_of_ble_eq_true rfl, Nat.le_of_ble_eq_true rfl⟩ (by rfl) o71 rfl hl.1 rfl (Nat.le_of_ble_eq_true rfl) dX9_where_71 ⟨Nat.le_of_ble_eq_true rfl, Nat.le_of_ble_eq_true rfl⟩ (fun H locs hG => ?_)
      refine W.widen (k := 1) (n := 6) (Nat.le_of_ble_eq_true rfl) (Nat.le_of_ble_eq_true rfl) ?_
      exact vx_ret (g_iret hx hb hr hlocks hK hlo hG h dX9_where_74)
    · rw [if_neg c46] at h
      refine lv_iconst (v := (-1 : Int32)) hx hb dX9_where_49 (by decide) ?_
      refine W.widen (k := 1) (n := 6) (Nat.le_of_ble_eq_true rfl) (Nat.le_of_ble_eq_true rfl) ?_
      exact vx_ret (g_iret hx hb hr hlocks hK hlo hG h dX9_where_50)
def w_X9_whyNotWrite (G : gH) (a0 : Nat) (x1 : Int32) (x2 : Int32) (KX : String → gH → Prop) (K : Int32 → gH → Prop) : Prop :=
    ∃ v2, g_r G a0 9 5 = some v2 ∧
    ∃ v5, g_i G v2 1 3 = some v5 ∧
    w_X9_checkIndex G x1 v5 KX (fun G8 =>
    w_X9_checkRange G8 x2 (1 : Int32) (8 : Int32) KX (fun G15 =>
    ∃ v19, g_r G15 a0 9 5 = some v19 ∧
    ∃ u24, g_ob G15 v19 1 = some u24 ∧
    ∃ v24, f_X1_reasonAgainstWrite G15 v19 x1 x2 = some v24 ∧
    K v24 G15))
set_option maxRecDepth 20000 in
set_option maxHeartbeats 4000000 in
theorem m_X9_whyNotWrite (l : Launch) (hfl : l.stackTraces = false) (dd : va_G) (cT : Nat → ClassId) (lo : Nat) (G : gH) (a0 : Nat) (x1 : Int32) (x2 : Int32) {KX : String → gH → Prop} {K : Int32 → gH → Prop} (h : w_X9_whyNotWrite G a0 x1 x2 KX K) : vx_Met l yX9_whyNotWrite (Cond.code yX9_whyNotWrite cX9_whyNotWrite 3 (some .int) :: wsL_law) (g_rm 7 106 2 12) (va_Pc [.ref a0, .int x1, .int x2] (g_Pre lo dd cT G)) (va_Qi K (g_Pre lo dd cT) (g_A lo)) (g_XC lo dd cT KX) 2 12 (g_A lo) := by
  refine g_startX RX9 rfl (by decide) (Nat.le_of_ble_eq_true rfl) ?_
  intro p e s m below meth c hx hb hr hlocks hml hnone hown hnm hts hK hG hlo ls hl
  have hl : lv_has ls 3 [(0, .ref a0), (1, .int x1), (2, .int x2)] := hl
  have hG : g_S lo dd cT s s.heap [] G := hG
  unfold w_X9_whyNotWrite at h
  refine lv_iload_n hx hb dX9_whyNotWrite_0 rfl (lv_at hl 1 rfl) ?_
  refine lv_aload_n hx hb dX9_whyNotWrite_1 rfl (lv_at hl 0 rfl) ?_
  obtain ⟨v2, e2, h⟩ := h
  refine g_getr hx hb hts inlX9 hown hK hG (by rfl) 5 (by decide) qF_X9_47 e2 dX9_whyNotWrite_2 ?_
  obtain ⟨v5, e5, h⟩ := h
  refine g_geti hx hb hts inlX1 hown hK hG (by rfl) 3 (by decide) qF_X9_116 e5 dX9_whyNotWrite_5 ?_
  refine g_xSv (As := [.int x1, .int v5]) (rest := []) (n := 2) hx hb hml hown hts hK hlo hG (m_X9_checkIndex l hfl dd cT lo G x1 v5 h) qM_X9_179 qT_yX9_checkIndex qN_X9 qC_yX9_checkIndex (by decide +kernel) ⟨Nat.le_of_ble_eq_true rfl, Nat.le_of_ble_eq_true rfl⟩ rfl hl.1 rfl (Nat.le_of_ble_eq_true rfl) dX9_whyNotWrite_8 ⟨Nat.le_of_ble_eq_true rfl, Nat.le_of_ble_eq_true rfl⟩ (fun E ce q9 G1 H locs hKX hG a1 a2 a3 => g_out hlocks hnone hG a1 a2 a3 hKX (Nat.le_of_ble_eq_true rfl) (Nat.le_of_ble_eq_true rfl)) (fun G8 H locs h hG => ?_)
  refine lv_iload_n hx hb dX9_whyNotWrite_11 rfl (lv_at hl 2 rfl) ?_
  refine lv_iconst (v := (1 : Int32)) hx hb dX9_whyNotWrite_12 (by decide) ?_
  refine lv_bipush (v := (8 : Int32)) hx hb dX9_whyNotWrite_13 (by decide) ?_
  refine g_xSv (As := [.int x2, .int (1 : Int32), .int (8 : Int32)]) (rest := []) (n := 3) hx hb hml hown hts hK hlo hG (m_X9_checkRange l hfl dd cT lo G8 x2 (1 : Int32) (8 : Int32) h) qM_X9_70 qT_yX9_checkRange qN_X9 qC_yX9_checkRange (by decide +kernel) ⟨Nat.le_of_ble_eq_true rfl, Nat.le_of_ble_eq_true rfl⟩ rfl hl.1 rfl (Nat.le_of_ble_eq_true rfl) dX9_whyNotWrite_15 ⟨Nat.le_of_ble_eq_true rfl, Nat.le_of_ble_eq_true rfl⟩ (fun E ce q9 G1 H locs hKX hG a1 a2 a3 => g_out hlocks hnone hG a1 a2 a3 hKX (Nat.le_of_ble_eq_true rfl) (Nat.le_of_ble_eq_true rfl)) (fun G15 H locs h hG => ?_)
  refine lv_aload_n hx hb dX9_whyNotWrite_18 rfl (lv_at hl 0 rfl) ?_
  obtain ⟨v19, e19, h⟩ := h
  refine g_getr hx hb hts inlX9 hown hK hG (by rfl) 5 (by decide) qF_X9_47 e19 dX9_whyNotWrite_19 ?_
  refine lv_iload_n hx hb dX9_whyNotWrite_22 rfl (lv_at hl 1 rfl) ?_
  refine lv_iload_n hx hb dX9_whyNotWrite_23 rfl (lv_at hl 2 rfl) ?_
  obtain ⟨u24, o24, h⟩ := h
  obtain ⟨v24, e24, h⟩ := h
  refine g_cVi (As := [.int x1, .int x2]) (rest := []) (n := 2) hx hb hml hown hts hK hlo hG (m_X1_reasonAgainstWrite l dd cT lo G15 v19 x1 x2 e24) qM_X9_249 qI_yX1_reasonAgainstWrite qS_X1_yX1_reasonAgainstWrite qN_X1 qC_yX1_reasonAgainstWrite (by decide +kernel) ⟨Nat.le_of_ble_eq_true rfl, Nat.le_of_ble_eq_true rfl⟩ (by rfl) o24 rfl hl.1 rfl (Nat.le_of_ble_eq_true rfl) dX9_whyNotWrite_24 ⟨Nat.le_of_ble_eq_true rfl, Nat.le_of_ble_eq_true rfl⟩ (fun H locs hG => ?_)
  refine W.widen (k := 2) (n := 12) (Nat.le_of_ble_eq_true rfl) (Nat.le_of_ble_eq_true rfl) ?_
  exact vx_ret (g_iret hx hb hr hlocks hK hlo hG h dX9_whyNotWrite_27)
def w_X9_whyNot (G : gH) (a0 : Nat) (x1 : Int32) (KX : String → gH → Prop) (K : Int32 → gH → Prop) : Prop :=
    w_X9_checkRange G x1 (0 : Int32) (2 : Int32) KX (fun G3 =>
    if x1 = (0 : Int32) then
    ∃ v33, g_r G3 a0 9 5 = some v33 ∧
    ∃ u36, g_ob G3 v33 1 = some u36 ∧
    ∃ v36, f_X1_reasonAgainstClose G3 v33 = some v36 ∧
    K v36 G3
    else
    if x1 = (1 : Int32) then
    ∃ v41, g_r G3 a0 9 5 = some v41 ∧
    ∃ u44, g_ob G3 v41 1 = some u44 ∧
    ∃ v44, f_X1_reasonAgainstCrash G3 v41 = some v44 ∧
    K v44 G3
    else
    ∃ v49, g_r G3 a0 9 5 = some v49 ∧
    ∃ u52, g_ob G3 v49 1 = some u52 ∧
    ∃ v52, f_X1_reasonAgainstRecover G3 v49 = some v52 ∧
    K v52 G3)
set_option maxRecDepth 20000 in
set_option maxHeartbeats 4000000 in
theorem m_X9_whyNot (l : Launch) (hfl : l.stackTraces = false) (dd : va_G) (cT : Nat → ClassId) (lo : Nat) (G : gH) (a0 : Nat) (x1 : Int32) {KX : String → gH → Prop} {K : Int32 → gH → Prop} (h : w_X9_whyNot G a0 x1 KX K) : vx_Met l yX9_whyNot (Cond.code yX9_whyNot cX9_whyNot 2 (some .int) :: wsL_law) (g_rm 7 133 1 6) (va_Pc [.ref a0, .int x1] (g_Pre lo dd cT G)) (va_Qi K (g_Pre lo dd cT) (g_A lo)) (g_XC lo dd cT KX) 1 6 (g_A lo) := by
  refine g_startX RX9 rfl (by decide) (Nat.le_of_ble_eq_true rfl) ?_
  intro p e s m below meth c hx hb hr hlocks hml hnone hown hnm hts hK hG hlo ls hl
  have hl : lv_has ls 2 [(0, .ref a0), (1, .int x1)] := hl
  have hG : g_S lo dd cT s s.heap [] G := hG
  unfold w_X9_whyNot at h
  refine lv_iload_n hx hb dX9_whyNot_0 rfl (lv_at hl 1 rfl) ?_
  refine lv_iconst (v := (0 : Int32)) hx hb dX9_whyNot_1 (by decide) ?_
  refine lv_iconst (v := (2 : Int32)) hx hb dX9_whyNot_2 (by decide) ?_
  refine g_xSv (As := [.int x1, .int (0 : Int32), .int (2 : Int32)]) (rest := []) (n := 3) hx hb hml hown hts hK hlo hG (m_X9_checkRange l hfl dd cT lo G x1 (0 : Int32) (2 : Int32) h) qM_X9_70 qT_yX9_checkRange qN_X9 qC_yX9_checkRange (by decide +kernel) ⟨Nat.le_of_ble_eq_true rfl, Nat.le_of_ble_eq_true rfl⟩ rfl hl.1 rfl (Nat.le_of_ble_eq_true rfl) dX9_whyNot_3 ⟨Nat.le_of_ble_eq_true rfl, Nat.le_of_ble_eq_true rfl⟩ (fun E ce q9 G1 H locs hKX hG a1 a2 a3 => g_out hlocks hnone hG a1 a2 a3 hKX (Nat.le_of_ble_eq_true rfl) (Nat.le_of_ble_eq_true rfl)) (fun G3 H locs h hG => ?_)
  refine lv_iload_n hx hb dX9_whyNot_6 rfl (lv_at hl 1 rfl) ?_
  by_cases c7_0 : x1 = (0 : Int32)
  · rw [if_pos c7_0] at h
    refine lv_lookup (off := 25) (tgt := 32) hx hb dX9_whyNot_7 (by decide) (by rw [c7_0]; decide) (by decide) ?_
    refine lv_aload_n hx hb dX9_whyNot_32 rfl (lv_at hl 0 rfl) ?_
    obtain ⟨v33, e33, h⟩ := h
    refine g_getr hx hb hts inlX9 hown hK hG (by rfl) 5 (by decide) qF_X9_47 e33 dX9_whyNot_33 ?_
    obtain ⟨u36, o36, h⟩ := h
    obtain ⟨v36, e36, h⟩ := h
    refine g_cVi (As := []) (rest := []) (n := 0) hx hb hml hown hts hK hlo hG (m_X1_reasonAgainstClose l dd cT lo G3 v33 e36) qM_X9_252 qI_yX1_reasonAgainstClose qS_X1_yX1_reasonAgainstClose qN_X1 qC_yX1_reasonAgainstClose (by decide +kernel) ⟨Nat.le_of_ble_eq_true rfl, Nat.le_of_ble_eq_true rfl⟩ (by rfl) o36 rfl hl.1 rfl (Nat.le_of_ble_eq_true rfl) dX9_whyNot_36 ⟨Nat.le_of_ble_eq_true rfl, Nat.le_of_ble_eq_true rfl⟩ (fun H locs hG => ?_)
    refine W.widen (k := 1) (n := 6) (Nat.le_of_ble_eq_true rfl) (Nat.le_of_ble_eq_true rfl) ?_
    exact vx_ret (g_iret hx hb hr hlocks hK hlo hG h dX9_whyNot_39)
  rw [if_neg c7_0] at h
  by_cases c7_1 : x1 = (1 : Int32)
  · rw [if_pos c7_1] at h
    refine lv_lookup (off := 33) (tgt := 40) hx hb dX9_whyNot_7 (by decide) (by rw [c7_1]; decide) (by decide) ?_
    refine lv_aload_n hx hb dX9_whyNot_40 rfl (lv_at hl 0 rfl) ?_
    obtain ⟨v41, e41, h⟩ := h
    refine g_getr hx hb hts inlX9 hown hK hG (by rfl) 5 (by decide) qF_X9_47 e41 dX9_whyNot_41 ?_
    obtain ⟨u44, o44, h⟩ := h
    obtain ⟨v44, e44, h⟩ := h
    refine g_cVi (As := []) (rest := []) (n := 0) hx hb hml hown hts hK hlo hG (m_X1_reasonAgainstCrash l dd cT lo G3 v41 e44) qM_X9_255 qI_yX1_reasonAgainstCrash qS_X1_yX1_reasonAgainstCrash qN_X1 qC_yX1_reasonAgainstCrash (by decide +kernel) ⟨Nat.le_of_ble_eq_true rfl, Nat.le_of_ble_eq_true rfl⟩ (by rfl) o44 rfl hl.1 rfl (Nat.le_of_ble_eq_true rfl) dX9_whyNot_44 ⟨Nat.le_of_ble_eq_true rfl, Nat.le_of_ble_eq_true rfl⟩ (fun H locs hG => ?_)
    refine W.widen (k := 1) (n := 6) (Nat.le_of_ble_eq_true rfl) (Nat.le_of_ble_eq_true rfl) ?_
    exact vx_ret (g_iret hx hb hr hlocks hK hlo hG h dX9_whyNot_47)
  rw [if_neg c7_1] at h
  have y7_0 : ¬ x1.toInt = 0 := fun w => c7_0 (Int32.toInt_inj.mp (by rw [w]; rfl))
  have y7_1 : ¬ x1.toInt = 1 := fun w => c7_1 (Int32.toInt_inj.mp (by rw [w]; rfl))
  refine lv_lookup (off := 41) (tgt := 48) hx hb dX9_whyNot_7 (by decide) (by simp [Op.lookupswitch.offset, y7_0, Ne.symm y7_0, y7_1, Ne.symm y7_1]) (by decide) ?_
  refine lv_aload_n hx hb dX9_whyNot_48 rfl (lv_at hl 0 rfl) ?_
  obtain ⟨v49, e49, h⟩ := h
  refine g_getr hx hb hts inlX9 hown hK hG (by rfl) 5 (by decide) qF_X9_47 e49 dX9_whyNot_49 ?_
  obtain ⟨u52, o52, h⟩ := h
  obtain ⟨v52, e52, h⟩ := h
  refine g_cVi (As := []) (rest := []) (n := 0) hx hb hml hown hts hK hlo hG (m_X1_reasonAgainstRecover l dd cT lo G3 v49 e52) qM_X9_258 qI_yX1_reasonAgainstRecover qS_X1_yX1_reasonAgainstRecover qN_X1 qC_yX1_reasonAgainstRecover (by decide +kernel) ⟨Nat.le_of_ble_eq_true rfl, Nat.le_of_ble_eq_true rfl⟩ (by rfl) o52 rfl hl.1 rfl (Nat.le_of_ble_eq_true rfl) dX9_whyNot_52 ⟨Nat.le_of_ble_eq_true rfl, Nat.le_of_ble_eq_true rfl⟩ (fun H locs hG => ?_)
  refine W.widen (k := 1) (n := 6) (Nat.le_of_ble_eq_true rfl) (Nat.le_of_ble_eq_true rfl) ?_
  exact vx_ret (g_iret hx hb hr hlocks hK hlo hG h dX9_whyNot_55)
def w_X9_risk (G : gH) (a0 : Nat) (x1 : Int32) (KX : String → gH → Prop) (K : Int32 → gH → Prop) : Prop :=
    ∃ v2, g_r G a0 9 5 = some v2 ∧
    ∃ v5, g_r G v2 1 0 = some v5 ∧
    ∃ v8, g_i G v5 0 0 = some v8 ∧
    w_X9_checkIndex G x1 v8 KX (fun G11 =>
    ∃ v15, g_r G11 a0 9 5 = some v15 ∧
    ∃ v20, g_r G11 a0 9 5 = some v20 ∧
    ∃ v23, g_r G11 v20 1 6 = some v23 ∧
    ∃ v27, g_r G11 a0 9 5 = some v27 ∧
    ∃ u30, g_ob G11 v23 8 = some u30 ∧
    ∃ q30, f_X8_lookAt G11 v23 v27 = some q30 ∧
    ∃ v34, g_r q30.1 a0 9 4 = some v34 ∧
    ∃ u37, g_ob q30.1 v15 1 = some u37 ∧
    ∃ q37, f_X1_filesLostBy q30.1 v15 x1 q30.2 v34 = some q37 ∧
    K q37.2 q37.1)
set_option maxRecDepth 20000 in
set_option maxHeartbeats 4000000 in
theorem m_X9_risk (l : Launch) (hfl : l.stackTraces = false) (dd : va_G) (cT : Nat → ClassId) (lo : Nat) (G : gH) (a0 : Nat) (x1 : Int32) {KX : String → gH → Prop} {K : Int32 → gH → Prop} (h : w_X9_risk G a0 x1 KX K) : vx_Met l yX9_risk (Cond.code yX9_risk cX9_risk 2 (some .int) :: wsL_law) (g_rm 7 120 1 6) (va_Pc [.ref a0, .int x1] (g_Pre lo dd cT G)) (va_Qi K (g_Pre lo dd cT) (g_A lo)) (g_XC lo dd cT KX) 1 6 (g_A lo) := by
  refine g_startX RX9 rfl (by decide) (Nat.le_of_ble_eq_true rfl) ?_
  intro p e s m below meth c hx hb hr hlocks hml hnone hown hnm hts hK hG hlo ls hl
  have hl : lv_has ls 2 [(0, .ref a0), (1, .int x1)] := hl
  have hG : g_S lo dd cT s s.heap [] G := hG
  unfold w_X9_risk at h
  refine lv_iload_n hx hb dX9_risk_0 rfl (lv_at hl 1 rfl) ?_
  refine lv_aload_n hx hb dX9_risk_1 rfl (lv_at hl 0 rfl) ?_
  obtain ⟨v2, e2, h⟩ := h
  refine g_getr hx hb hts inlX9 hown hK hG (by rfl) 5 (by decide) qF_X9_47 e2 dX9_risk_2 ?_
  obtain ⟨v5, e5, h⟩ := h
  refine g_getr hx hb hts inlX1 hown hK hG (by rfl) 0 (by decide) qF_X9_106 e5 dX9_risk_5 ?_
  obtain ⟨v8, e8, h⟩ := h
  refine g_geti hx hb hts inlX0 hown hK hG (by rfl) 0 (by decide) qF_X9_110 e8 dX9_risk_8 ?_
  refine g_xSv (As := [.int x1, .int v8]) (rest := []) (n := 2) hx hb hml hown hts hK hlo hG (m_X9_checkIndex l hfl dd cT lo G x1 v8 h) qM_X9_179 qT_yX9_checkIndex qN_X9 qC_yX9_checkIndex (by decide +kernel) ⟨Nat.le_of_ble_eq_true rfl, Nat.le_of_ble_eq_true rfl⟩ rfl hl.1 rfl (Nat.le_of_ble_eq_true rfl) dX9_risk_11 ⟨Nat.le_of_ble_eq_true rfl, Nat.le_of_ble_eq_true rfl⟩ (fun E ce q9 G1 H locs hKX hG a1 a2 a3 => g_out hlocks hnone hG a1 a2 a3 hKX (Nat.le_of_ble_eq_true rfl) (Nat.le_of_ble_eq_true rfl)) (fun G11 H locs h hG => ?_)
  refine lv_aload_n hx hb dX9_risk_14 rfl (lv_at hl 0 rfl) ?_
  obtain ⟨v15, e15, h⟩ := h
  refine g_getr hx hb hts inlX9 hown hK hG (by rfl) 5 (by decide) qF_X9_47 e15 dX9_risk_15 ?_
  refine lv_iload_n hx hb dX9_risk_18 rfl (lv_at hl 1 rfl) ?_
  refine lv_aload_n hx hb dX9_risk_19 rfl (lv_at hl 0 rfl) ?_
  obtain ⟨v20, e20, h⟩ := h
  refine g_getr hx hb hts inlX9 hown hK hG (by rfl) 5 (by decide) qF_X9_47 e20 dX9_risk_20 ?_
  obtain ⟨v23, e23, h⟩ := h
  refine g_getr hx hb hts inlX1 hown hK hG (by rfl) 6 (by decide) qF_X9_136 e23 dX9_risk_23 ?_
  refine lv_aload_n hx hb dX9_risk_26 rfl (lv_at hl 0 rfl) ?_
  obtain ⟨v27, e27, h⟩ := h
  refine g_getr hx hb hts inlX9 hown hK hG (by rfl) 5 (by decide) qF_X9_47 e27 dX9_risk_27 ?_
  obtain ⟨u30, o30, h⟩ := h
  obtain ⟨q30, e30, h⟩ := h
  refine g_cVr (As := [.ref v27]) (rest := [.int x1, .ref v15]) (n := 1) hx hb hml hown hts hK hlo hG (m_X8_lookAt l dd cT lo G11 v23 v27 e30) qM_X9_139 qI_yX8_lookAt qS_X8_yX8_lookAt qN_X8 qC_yX8_lookAt (by decide +kernel) ⟨Nat.le_of_ble_eq_true rfl, Nat.le_of_ble_eq_true rfl⟩ (by rfl) o30 rfl hl.1 rfl (Nat.le_of_ble_eq_true rfl) dX9_risk_30 ⟨Nat.le_of_ble_eq_true rfl, Nat.le_of_ble_eq_true rfl⟩ (fun H locs hG => ?_)
  refine lv_aload_n hx hb dX9_risk_33 rfl (lv_at hl 0 rfl) ?_
  obtain ⟨v34, e34, h⟩ := h
  refine g_getr hx hb hts inlX9 hown hK hG (by rfl) 4 (by decide) qF_X9_40 e34 dX9_risk_34 ?_
  obtain ⟨u37, o37, h⟩ := h
  obtain ⟨q37, e37, h⟩ := h
  refine g_cVi (As := [.int x1, .ref q30.2, .ref v34]) (rest := []) (n := 3) hx hb hml hown hts hK hlo hG (m_X1_filesLostBy l dd cT lo q30.1 v15 x1 q30.2 v34 e37) qM_X9_264 qI_yX1_filesLostBy qS_X1_yX1_filesLostBy qN_X1 qC_yX1_filesLostBy (by decide +kernel) ⟨Nat.le_of_ble_eq_true rfl, Nat.le_of_ble_eq_true rfl⟩ (by rfl) o37 rfl hl.1 rfl (Nat.le_of_ble_eq_true rfl) dX9_risk_37 ⟨Nat.le_of_ble_eq_true rfl, Nat.le_of_ble_eq_true rfl⟩ (fun H locs hG => ?_)
  refine W.widen (k := 1) (n := 6) (Nat.le_of_ble_eq_true rfl) (Nat.le_of_ble_eq_true rfl) ?_
  exact vx_ret (g_iret hx hb hr hlocks hK hlo hG h dX9_risk_40)
def w_X9_filesBefore (G : gH) (a0 : Nat) (x1 : Int32) (KX : String → gH → Prop) (K : Int32 → gH → Prop) : Prop :=
    ∃ v2, g_r G a0 9 5 = some v2 ∧
    ∃ v5, g_r G v2 1 2 = some v5 ∧
    ∃ v8, g_i G v5 5 0 = some v8 ∧
    w_X9_checkIndex G x1 v8 KX (fun G11 =>
    ∃ v15, g_r G11 a0 9 5 = some v15 ∧
    ∃ v18, g_r G11 v15 1 6 = some v18 ∧
    ∃ v22, g_r G11 a0 9 5 = some v22 ∧
    ∃ u25, g_ob G11 v18 8 = some u25 ∧
    ∃ q25, f_X8_lookAt G11 v18 v22 = some q25 ∧
    ∃ v29, g_r q25.1 a0 9 5 = some v29 ∧
    ∃ v32, g_r q25.1 v29 1 2 = some v32 ∧
    ∃ u36, g_ob q25.1 q25.2 8 = some u36 ∧
    ∃ v36, f_X8_filesThereBefore q25.1 q25.2 v32 x1 = some v36 ∧
    K v36 q25.1)
set_option maxRecDepth 20000 in
set_option maxHeartbeats 4000000 in
theorem m_X9_filesBefore (l : Launch) (hfl : l.stackTraces = false) (dd : va_G) (cT : Nat → ClassId) (lo : Nat) (G : gH) (a0 : Nat) (x1 : Int32) {KX : String → gH → Prop} {K : Int32 → gH → Prop} (h : w_X9_filesBefore G a0 x1 KX K) : vx_Met l yX9_filesBefore (Cond.code yX9_filesBefore cX9_filesBefore 2 (some .int) :: wsL_law) (g_rm 7 103 1 6) (va_Pc [.ref a0, .int x1] (g_Pre lo dd cT G)) (va_Qi K (g_Pre lo dd cT) (g_A lo)) (g_XC lo dd cT KX) 1 6 (g_A lo) := by
  refine g_startX RX9 rfl (by decide) (Nat.le_of_ble_eq_true rfl) ?_
  intro p e s m below meth c hx hb hr hlocks hml hnone hown hnm hts hK hG hlo ls hl
  have hl : lv_has ls 2 [(0, .ref a0), (1, .int x1)] := hl
  have hG : g_S lo dd cT s s.heap [] G := hG
  unfold w_X9_filesBefore at h
  refine lv_iload_n hx hb dX9_filesBefore_0 rfl (lv_at hl 1 rfl) ?_
  refine lv_aload_n hx hb dX9_filesBefore_1 rfl (lv_at hl 0 rfl) ?_
  obtain ⟨v2, e2, h⟩ := h
  refine g_getr hx hb hts inlX9 hown hK hG (by rfl) 5 (by decide) qF_X9_47 e2 dX9_filesBefore_2 ?_
  obtain ⟨v5, e5, h⟩ := h
  refine g_getr hx hb hts inlX1 hown hK hG (by rfl) 2 (by decide) qF_X9_119 e5 dX9_filesBefore_5 ?_
  obtain ⟨v8, e8, h⟩ := h
  refine g_geti hx hb hts inlX5 hown hK hG (by rfl) 0 (by decide) qF_X9_123 e8 dX9_filesBefore_8 ?_
  refine g_xSv (As := [.int x1, .int v8]) (rest := []) (n := 2) hx hb hml hown hts hK hlo hG (m_X9_checkIndex l hfl dd cT lo G x1 v8 h) qM_X9_179 qT_yX9_checkIndex qN_X9 qC_yX9_checkIndex (by decide +kernel) ⟨Nat.le_of_ble_eq_true rfl, Nat.le_of_ble_eq_true rfl⟩ rfl hl.1 rfl (Nat.le_of_ble_eq_true rfl) dX9_filesBefore_11 ⟨Nat.le_of_ble_eq_true rfl, Nat.le_of_ble_eq_true rfl⟩ (fun E ce q9 G1 H locs hKX hG a1 a2 a3 => g_out hlocks hnone hG a1 a2 a3 hKX (Nat.le_of_ble_eq_true rfl) (Nat.le_of_ble_eq_true rfl)) (fun G11 H locs h hG => ?_)
  refine lv_aload_n hx hb dX9_filesBefore_14 rfl (lv_at hl 0 rfl) ?_
  obtain ⟨v15, e15, h⟩ := h
  refine g_getr hx hb hts inlX9 hown hK hG (by rfl) 5 (by decide) qF_X9_47 e15 dX9_filesBefore_15 ?_
  obtain ⟨v18, e18, h⟩ := h
  refine g_getr hx hb hts inlX1 hown hK hG (by rfl) 6 (by decide) qF_X9_136 e18 dX9_filesBefore_18 ?_
  refine lv_aload_n hx hb dX9_filesBefore_21 rfl (lv_at hl 0 rfl) ?_
  obtain ⟨v22, e22, h⟩ := h
  refine g_getr hx hb hts inlX9 hown hK hG (by rfl) 5 (by decide) qF_X9_47 e22 dX9_filesBefore_22 ?_
  obtain ⟨u25, o25, h⟩ := h
  obtain ⟨q25, e25, h⟩ := h
  refine g_cVr (As := [.ref v22]) (rest := []) (n := 1) hx hb hml hown hts hK hlo hG (m_X8_lookAt l dd cT lo G11 v18 v22 e25) qM_X9_139 qI_yX8_lookAt qS_X8_yX8_lookAt qN_X8 qC_yX8_lookAt (by decide +kernel) ⟨Nat.le_of_ble_eq_true rfl, Nat.le_of_ble_eq_true rfl⟩ (by rfl) o25 rfl hl.1 rfl (Nat.le_of_ble_eq_true rfl) dX9_filesBefore_25 ⟨Nat.le_of_ble_eq_true rfl, Nat.le_of_ble_eq_true rfl⟩ (fun H locs hG => ?_)
  refine lv_aload_n hx hb dX9_filesBefore_28 rfl (lv_at hl 0 rfl) ?_
  obtain ⟨v29, e29, h⟩ := h
  refine g_getr hx hb hts inlX9 hown hK hG (by rfl) 5 (by decide) qF_X9_47 e29 dX9_filesBefore_29 ?_
  obtain ⟨v32, e32, h⟩ := h
  refine g_getr hx hb hts inlX1 hown hK hG (by rfl) 2 (by decide) qF_X9_119 e32 dX9_filesBefore_32 ?_
  refine lv_iload_n hx hb dX9_filesBefore_35 rfl (lv_at hl 1 rfl) ?_
  obtain ⟨u36, o36, h⟩ := h
  obtain ⟨v36, e36, h⟩ := h
  refine g_cVi (As := [.ref v32, .int x1]) (rest := []) (n := 2) hx hb hml hown hts hK hlo hG (m_X8_filesThereBefore l dd cT lo q25.1 q25.2 v32 x1 e36) qM_X9_268 qI_yX8_filesThereBefore qS_X8_yX8_filesThereBefore qN_X8 qC_yX8_filesThereBefore (by decide +kernel) ⟨Nat.le_of_ble_eq_true rfl, Nat.le_of_ble_eq_true rfl⟩ (by rfl) o36 rfl hl.1 rfl (Nat.le_of_ble_eq_true rfl) dX9_filesBefore_36 ⟨Nat.le_of_ble_eq_true rfl, Nat.le_of_ble_eq_true rfl⟩ (fun H locs hG => ?_)
  refine W.widen (k := 1) (n := 6) (Nat.le_of_ble_eq_true rfl) (Nat.le_of_ble_eq_true rfl) ?_
  exact vx_ret (g_iret hx hb hr hlocks hK hlo hG h dX9_filesBefore_39)
def w_X9_space (G : gH) (a0 : Nat) (x1 : Int32) (KX : String → gH → Prop) (K : Int32 → gH → Prop) : Prop :=
    w_X9_checkRange G x1 (0 : Int32) (4 : Int32) KX (fun G3 =>
    ∃ v7, g_r G3 a0 9 5 = some v7 ∧
    ∃ u12, g_ob G3 v7 1 = some u12 ∧
    ∃ q12, f_X1_blocksUsed G3 v7 (-1 : Int32) x1 = some q12 ∧
    K q12.2 q12.1)
set_option maxRecDepth 20000 in
set_option maxHeartbeats 4000000 in
theorem m_X9_space (l : Launch) (hfl : l.stackTraces = false) (dd : va_G) (cT : Nat → ClassId) (lo : Nat) (G : gH) (a0 : Nat) (x1 : Int32) {KX : String → gH → Prop} {K : Int32 → gH → Prop} (h : w_X9_space G a0 x1 KX K) : vx_Met l yX9_space (Cond.code yX9_space cX9_space 2 (some .int) :: wsL_law) (g_rm 7 121 1 6) (va_Pc [.ref a0, .int x1] (g_Pre lo dd cT G)) (va_Qi K (g_Pre lo dd cT) (g_A lo)) (g_XC lo dd cT KX) 1 6 (g_A lo) := by
  refine g_startX RX9 rfl (by decide) (Nat.le_of_ble_eq_true rfl) ?_
  intro p e s m below meth c hx hb hr hlocks hml hnone hown hnm hts hK hG hlo ls hl
  have hl : lv_has ls 2 [(0, .ref a0), (1, .int x1)] := hl
  have hG : g_S lo dd cT s s.heap [] G := hG
  unfold w_X9_space at h
  refine lv_iload_n hx hb dX9_space_0 rfl (lv_at hl 1 rfl) ?_
  refine lv_iconst (v := (0 : Int32)) hx hb dX9_space_1 (by decide) ?_
  refine lv_iconst (v := (4 : Int32)) hx hb dX9_space_2 (by decide) ?_
  refine g_xSv (As := [.int x1, .int (0 : Int32), .int (4 : Int32)]) (rest := []) (n := 3) hx hb hml hown hts hK hlo hG (m_X9_checkRange l hfl dd cT lo G x1 (0 : Int32) (4 : Int32) h) qM_X9_70 qT_yX9_checkRange qN_X9 qC_yX9_checkRange (by decide +kernel) ⟨Nat.le_of_ble_eq_true rfl, Nat.le_of_ble_eq_true rfl⟩ rfl hl.1 rfl (Nat.le_of_ble_eq_true rfl) dX9_space_3 ⟨Nat.le_of_ble_eq_true rfl, Nat.le_of_ble_eq_true rfl⟩ (fun E ce q9 G1 H locs hKX hG a1 a2 a3 => g_out hlocks hnone hG a1 a2 a3 hKX (Nat.le_of_ble_eq_true rfl) (Nat.le_of_ble_eq_true rfl)) (fun G3 H locs h hG => ?_)
  refine lv_aload_n hx hb dX9_space_6 rfl (lv_at hl 0 rfl) ?_
  obtain ⟨v7, e7, h⟩ := h
  refine g_getr hx hb hts inlX9 hown hK hG (by rfl) 5 (by decide) qF_X9_47 e7 dX9_space_7 ?_
  refine lv_iconst (v := (-1 : Int32)) hx hb dX9_space_10 (by decide) ?_
  refine lv_iload_n hx hb dX9_space_11 rfl (lv_at hl 1 rfl) ?_
  obtain ⟨u12, o12, h⟩ := h
  obtain ⟨q12, e12, h⟩ := h
  refine g_cVi (As := [.int (-1 : Int32), .int x1]) (rest := []) (n := 2) hx hb hml hown hts hK hlo hG (m_X1_blocksUsed l dd cT lo G3 v7 (-1 : Int32) x1 e12) qM_X9_272 qI_yX1_blocksUsed qS_X1_yX1_blocksUsed qN_X1 qC_yX1_blocksUsed (by decide +kernel) ⟨Nat.le_of_ble_eq_true rfl, Nat.le_of_ble_eq_true rfl⟩ (by rfl) o12 rfl hl.1 rfl (Nat.le_of_ble_eq_true rfl) dX9_space_12 ⟨Nat.le_of_ble_eq_true rfl, Nat.le_of_ble_eq_true rfl⟩ (fun H locs hG => ?_)
  refine W.widen (k := 1) (n := 6) (Nat.le_of_ble_eq_true rfl) (Nat.le_of_ble_eq_true rfl) ?_
  exact vx_ret (g_iret hx hb hr hlocks hK hlo hG h dX9_space_15)
def w_X9_spaceOf (G : gH) (a0 : Nat) (x1 : Int32) (x2 : Int32) (KX : String → gH → Prop) (K : Int32 → gH → Prop) : Prop :=
    ∃ v2, g_r G a0 9 5 = some v2 ∧
    ∃ v5, g_r G v2 1 2 = some v5 ∧
    ∃ v8, g_i G v5 5 0 = some v8 ∧
    w_X9_checkIndex G x1 v8 KX (fun G11 =>
    w_X9_checkRange G11 x2 (1 : Int32) (4 : Int32) KX (fun G17 =>
    ∃ v21, g_r G17 a0 9 5 = some v21 ∧
    ∃ u26, g_ob G17 v21 1 = some u26 ∧
    ∃ q26, f_X1_blocksUsed G17 v21 x1 x2 = some q26 ∧
    K q26.2 q26.1))
set_option maxRecDepth 20000 in
set_option maxHeartbeats 4000000 in
theorem m_X9_spaceOf (l : Launch) (hfl : l.stackTraces = false) (dd : va_G) (cT : Nat → ClassId) (lo : Nat) (G : gH) (a0 : Nat) (x1 : Int32) (x2 : Int32) {KX : String → gH → Prop} {K : Int32 → gH → Prop} (h : w_X9_spaceOf G a0 x1 x2 KX K) : vx_Met l yX9_spaceOf (Cond.code yX9_spaceOf cX9_spaceOf 3 (some .int) :: wsL_law) (g_rm 7 121 2 12) (va_Pc [.ref a0, .int x1, .int x2] (g_Pre lo dd cT G)) (va_Qi K (g_Pre lo dd cT) (g_A lo)) (g_XC lo dd cT KX) 2 12 (g_A lo) := by
  refine g_startX RX9 rfl (by decide) (Nat.le_of_ble_eq_true rfl) ?_
  intro p e s m below meth c hx hb hr hlocks hml hnone hown hnm hts hK hG hlo ls hl
  have hl : lv_has ls 3 [(0, .ref a0), (1, .int x1), (2, .int x2)] := hl
  have hG : g_S lo dd cT s s.heap [] G := hG
  unfold w_X9_spaceOf at h
  refine lv_iload_n hx hb dX9_spaceOf_0 rfl (lv_at hl 1 rfl) ?_
  refine lv_aload_n hx hb dX9_spaceOf_1 rfl (lv_at hl 0 rfl) ?_
  obtain ⟨v2, e2, h⟩ := h
  refine g_getr hx hb hts inlX9 hown hK hG (by rfl) 5 (by decide) qF_X9_47 e2 dX9_spaceOf_2 ?_
  obtain ⟨v5, e5, h⟩ := h
  refine g_getr hx hb hts inlX1 hown hK hG (by rfl) 2 (by decide) qF_X9_119 e5 dX9_spaceOf_5 ?_
  obtain ⟨v8, e8, h⟩ := h
  refine g_geti hx hb hts inlX5 hown hK hG (by rfl) 0 (by decide) qF_X9_123 e8 dX9_spaceOf_8 ?_
  refine g_xSv (As := [.int x1, .int v8]) (rest := []) (n := 2) hx hb hml hown hts hK hlo hG (m_X9_checkIndex l hfl dd cT lo G x1 v8 h) qM_X9_179 qT_yX9_checkIndex qN_X9 qC_yX9_checkIndex (by decide +kernel) ⟨Nat.le_of_ble_eq_true rfl, Nat.le_of_ble_eq_true rfl⟩ rfl hl.1 rfl (Nat.le_of_ble_eq_true rfl) dX9_spaceOf_11 ⟨Nat.le_of_ble_eq_true rfl, Nat.le_of_ble_eq_true rfl⟩ (fun E ce q9 G1 H locs hKX hG a1 a2 a3 => g_out hlocks hnone hG a1 a2 a3 hKX (Nat.le_of_ble_eq_true rfl) (Nat.le_of_ble_eq_true rfl)) (fun G11 H locs h hG => ?_)
  refine lv_iload_n hx hb dX9_spaceOf_14 rfl (lv_at hl 2 rfl) ?_
  refine lv_iconst (v := (1 : Int32)) hx hb dX9_spaceOf_15 (by decide) ?_
  refine lv_iconst (v := (4 : Int32)) hx hb dX9_spaceOf_16 (by decide) ?_
  refine g_xSv (As := [.int x2, .int (1 : Int32), .int (4 : Int32)]) (rest := []) (n := 3) hx hb hml hown hts hK hlo hG (m_X9_checkRange l hfl dd cT lo G11 x2 (1 : Int32) (4 : Int32) h) qM_X9_70 qT_yX9_checkRange qN_X9 qC_yX9_checkRange (by decide +kernel) ⟨Nat.le_of_ble_eq_true rfl, Nat.le_of_ble_eq_true rfl⟩ rfl hl.1 rfl (Nat.le_of_ble_eq_true rfl) dX9_spaceOf_17 ⟨Nat.le_of_ble_eq_true rfl, Nat.le_of_ble_eq_true rfl⟩ (fun E ce q9 G1 H locs hKX hG a1 a2 a3 => g_out hlocks hnone hG a1 a2 a3 hKX (Nat.le_of_ble_eq_true rfl) (Nat.le_of_ble_eq_true rfl)) (fun G17 H locs h hG => ?_)
  refine lv_aload_n hx hb dX9_spaceOf_20 rfl (lv_at hl 0 rfl) ?_
  obtain ⟨v21, e21, h⟩ := h
  refine g_getr hx hb hts inlX9 hown hK hG (by rfl) 5 (by decide) qF_X9_47 e21 dX9_spaceOf_21 ?_
  refine lv_iload_n hx hb dX9_spaceOf_24 rfl (lv_at hl 1 rfl) ?_
  refine lv_iload_n hx hb dX9_spaceOf_25 rfl (lv_at hl 2 rfl) ?_
  obtain ⟨u26, o26, h⟩ := h
  obtain ⟨q26, e26, h⟩ := h
  refine g_cVi (As := [.int x1, .int x2]) (rest := []) (n := 2) hx hb hml hown hts hK hlo hG (m_X1_blocksUsed l dd cT lo G17 v21 x1 x2 e26) qM_X9_272 qI_yX1_blocksUsed qS_X1_yX1_blocksUsed qN_X1 qC_yX1_blocksUsed (by decide +kernel) ⟨Nat.le_of_ble_eq_true rfl, Nat.le_of_ble_eq_true rfl⟩ (by rfl) o26 rfl hl.1 rfl (Nat.le_of_ble_eq_true rfl) dX9_spaceOf_26 ⟨Nat.le_of_ble_eq_true rfl, Nat.le_of_ble_eq_true rfl⟩ (fun H locs hG => ?_)
  refine W.widen (k := 2) (n := 12) (Nat.le_of_ble_eq_true rfl) (Nat.le_of_ble_eq_true rfl) ?_
  exact vx_ret (g_iret hx hb hr hlocks hK hlo hG h dX9_spaceOf_29)
def w_X9_write (G : gH) (a0 : Nat) (x1 : Int32) (x2 : Int32) (x3 : Int32) (KX : String → gH → Prop) (K : Int32 → gH → Prop) : Prop :=
    ∃ v2, g_r G a0 9 5 = some v2 ∧
    ∃ v5, g_i G v2 1 3 = some v5 ∧
    w_X9_checkIndex G x1 v5 KX (fun G8 =>
    w_X9_checkRange G8 x2 (1 : Int32) (8 : Int32) KX (fun G15 =>
    w_X9_checkRange G15 x3 (0 : Int32) (999 : Int32) KX (fun G23 =>
    ∃ v27, g_r G23 a0 9 5 = some v27 ∧
    ∃ u32, g_ob G23 v27 1 = some u32 ∧
    ∃ v32, f_X1_reasonAgainstWrite G23 v27 x1 x2 = some v32 ∧
    w_X9_checkAllowed G23 v32 KX (fun G35 =>
    ∃ v39, g_r G35 a0 9 2 = some v39 ∧
    ∃ v43, g_r G35 a0 9 5 = some v43 ∧
    ∃ u46, g_ob G35 v39 2 = some u46 ∧
    w_X2_keep G35 v39 v43 (fun G46 =>
    ∃ v50, g_r G46 a0 9 5 = some v50 ∧
    ∃ u56, g_ob G46 v50 1 = some u56 ∧
    ∃ q56, f_X1_writeVersion G46 v50 x1 x2 x3 = some q56 ∧
    K q56.2 q56.1)))))
set_option maxRecDepth 20000 in
set_option maxHeartbeats 4000000 in
theorem m_X9_write (l : Launch) (hfl : l.stackTraces = false) (dd : va_G) (cT : Nat → ClassId) (lo : Nat) (G : gH) (a0 : Nat) (x1 : Int32) (x2 : Int32) (x3 : Int32) {KX : String → gH → Prop} {K : Int32 → gH → Prop} (h : w_X9_write G a0 x1 x2 x3 KX K) : vx_Met l yX9_write (Cond.code yX9_write cX9_write 4 (some .int) :: wsL_law) (g_rm 7 124 34 1661) (va_Pc [.ref a0, .int x1, .int x2, .int x3] (g_Pre lo dd cT G)) (va_Qi K (g_Pre lo dd cT) (g_A lo)) (g_XC lo dd cT KX) 34 1661 (g_A lo) := by
  refine g_startX RX9 rfl (by decide) (Nat.le_of_ble_eq_true rfl) ?_
  intro p e s m below meth c hx hb hr hlocks hml hnone hown hnm hts hK hG hlo ls hl
  have hl : lv_has ls 4 [(0, .ref a0), (1, .int x1), (2, .int x2), (3, .int x3)] := hl
  have hG : g_S lo dd cT s s.heap [] G := hG
  unfold w_X9_write at h
  refine lv_iload_n hx hb dX9_write_0 rfl (lv_at hl 1 rfl) ?_
  refine lv_aload_n hx hb dX9_write_1 rfl (lv_at hl 0 rfl) ?_
  obtain ⟨v2, e2, h⟩ := h
  refine g_getr hx hb hts inlX9 hown hK hG (by rfl) 5 (by decide) qF_X9_47 e2 dX9_write_2 ?_
  obtain ⟨v5, e5, h⟩ := h
  refine g_geti hx hb hts inlX1 hown hK hG (by rfl) 3 (by decide) qF_X9_116 e5 dX9_write_5 ?_
  refine g_xSv (As := [.int x1, .int v5]) (rest := []) (n := 2) hx hb hml hown hts hK hlo hG (m_X9_checkIndex l hfl dd cT lo G x1 v5 h) qM_X9_179 qT_yX9_checkIndex qN_X9 qC_yX9_checkIndex (by decide +kernel) ⟨Nat.le_of_ble_eq_true rfl, Nat.le_of_ble_eq_true rfl⟩ rfl hl.1 rfl (Nat.le_of_ble_eq_true rfl) dX9_write_8 ⟨Nat.le_of_ble_eq_true rfl, Nat.le_of_ble_eq_true rfl⟩ (fun E ce q9 G1 H locs hKX hG a1 a2 a3 => g_out hlocks hnone hG a1 a2 a3 hKX (Nat.le_of_ble_eq_true rfl) (Nat.le_of_ble_eq_true rfl)) (fun G8 H locs h hG => ?_)
  refine lv_iload_n hx hb dX9_write_11 rfl (lv_at hl 2 rfl) ?_
  refine lv_iconst (v := (1 : Int32)) hx hb dX9_write_12 (by decide) ?_
  refine lv_bipush (v := (8 : Int32)) hx hb dX9_write_13 (by decide) ?_
  refine g_xSv (As := [.int x2, .int (1 : Int32), .int (8 : Int32)]) (rest := []) (n := 3) hx hb hml hown hts hK hlo hG (m_X9_checkRange l hfl dd cT lo G8 x2 (1 : Int32) (8 : Int32) h) qM_X9_70 qT_yX9_checkRange qN_X9 qC_yX9_checkRange (by decide +kernel) ⟨Nat.le_of_ble_eq_true rfl, Nat.le_of_ble_eq_true rfl⟩ rfl hl.1 rfl (Nat.le_of_ble_eq_true rfl) dX9_write_15 ⟨Nat.le_of_ble_eq_true rfl, Nat.le_of_ble_eq_true rfl⟩ (fun E ce q9 G1 H locs hKX hG a1 a2 a3 => g_out hlocks hnone hG a1 a2 a3 hKX (Nat.le_of_ble_eq_true rfl) (Nat.le_of_ble_eq_true rfl)) (fun G15 H locs h hG => ?_)
  refine lv_iload_n hx hb dX9_write_18 rfl (lv_at hl 3 rfl) ?_
  refine lv_iconst (v := (0 : Int32)) hx hb dX9_write_19 (by decide) ?_
  refine lv_sipush (v := (999 : Int32)) hx hb dX9_write_20 (by decide) ?_
  refine g_xSv (As := [.int x3, .int (0 : Int32), .int (999 : Int32)]) (rest := []) (n := 3) hx hb hml hown hts hK hlo hG (m_X9_checkRange l hfl dd cT lo G15 x3 (0 : Int32) (999 : Int32) h) qM_X9_70 qT_yX9_checkRange qN_X9 qC_yX9_checkRange (by decide +kernel) ⟨Nat.le_of_ble_eq_true rfl, Nat.le_of_ble_eq_true rfl⟩ rfl hl.1 rfl (Nat.le_of_ble_eq_true rfl) dX9_write_23 ⟨Nat.le_of_ble_eq_true rfl, Nat.le_of_ble_eq_true rfl⟩ (fun E ce q9 G1 H locs hKX hG a1 a2 a3 => g_out hlocks hnone hG a1 a2 a3 hKX (Nat.le_of_ble_eq_true rfl) (Nat.le_of_ble_eq_true rfl)) (fun G23 H locs h hG => ?_)
  refine lv_aload_n hx hb dX9_write_26 rfl (lv_at hl 0 rfl) ?_
  obtain ⟨v27, e27, h⟩ := h
  refine g_getr hx hb hts inlX9 hown hK hG (by rfl) 5 (by decide) qF_X9_47 e27 dX9_write_27 ?_
  refine lv_iload_n hx hb dX9_write_30 rfl (lv_at hl 1 rfl) ?_
  refine lv_iload_n hx hb dX9_write_31 rfl (lv_at hl 2 rfl) ?_
  obtain ⟨u32, o32, h⟩ := h
  obtain ⟨v32, e32, h⟩ := h
  refine g_cVi (As := [.int x1, .int x2]) (rest := []) (n := 2) hx hb hml hown hts hK hlo hG (m_X1_reasonAgainstWrite l dd cT lo G23 v27 x1 x2 e32) qM_X9_249 qI_yX1_reasonAgainstWrite qS_X1_yX1_reasonAgainstWrite qN_X1 qC_yX1_reasonAgainstWrite (by decide +kernel) ⟨Nat.le_of_ble_eq_true rfl, Nat.le_of_ble_eq_true rfl⟩ (by rfl) o32 rfl hl.1 rfl (Nat.le_of_ble_eq_true rfl) dX9_write_32 ⟨Nat.le_of_ble_eq_true rfl, Nat.le_of_ble_eq_true rfl⟩ (fun H locs hG => ?_)
  refine g_xSv (As := [.int v32]) (rest := []) (n := 1) hx hb hml hown hts hK hlo hG (m_X9_checkAllowed l hfl dd cT lo G23 v32 h) qM_X9_275 qT_yX9_checkAllowed qN_X9 qC_yX9_checkAllowed (by decide +kernel) ⟨Nat.le_of_ble_eq_true rfl, Nat.le_of_ble_eq_true rfl⟩ rfl hl.1 rfl (Nat.le_of_ble_eq_true rfl) dX9_write_35 ⟨Nat.le_of_ble_eq_true rfl, Nat.le_of_ble_eq_true rfl⟩ (fun E ce q9 G1 H locs hKX hG a1 a2 a3 => g_out hlocks hnone hG a1 a2 a3 hKX (Nat.le_of_ble_eq_true rfl) (Nat.le_of_ble_eq_true rfl)) (fun G35 H locs h hG => ?_)
  refine lv_aload_n hx hb dX9_write_38 rfl (lv_at hl 0 rfl) ?_
  obtain ⟨v39, e39, h⟩ := h
  refine g_getr hx hb hts inlX9 hown hK hG (by rfl) 2 (by decide) qF_X9_26 e39 dX9_write_39 ?_
  refine lv_aload_n hx hb dX9_write_42 rfl (lv_at hl 0 rfl) ?_
  obtain ⟨v43, e43, h⟩ := h
  refine g_getr hx hb hts inlX9 hown hK hG (by rfl) 5 (by decide) qF_X9_47 e43 dX9_write_43 ?_
  obtain ⟨u46, o46, h⟩ := h
  refine g_wVv (As := [.ref v43]) (rest := []) (n := 1) hx hb hml hown hts hK hlo hG (m_X2_keep l dd cT lo G35 v39 v43 h) qM_X9_278 qI_yX2_keep qS_X2_yX2_keep qN_X2 qC_yX2_keep (by decide +kernel) ⟨Nat.le_of_ble_eq_true rfl, Nat.le_of_ble_eq_true rfl⟩ (by rfl) o46 rfl hl.1 rfl (Nat.le_of_ble_eq_true rfl) dX9_write_46 ⟨Nat.le_of_ble_eq_true rfl, Nat.le_of_ble_eq_true rfl⟩ (fun G46 H locs h hG => ?_)
  refine lv_aload_n hx hb dX9_write_49 rfl (lv_at hl 0 rfl) ?_
  obtain ⟨v50, e50, h⟩ := h
  refine g_getr hx hb hts inlX9 hown hK hG (by rfl) 5 (by decide) qF_X9_47 e50 dX9_write_50 ?_
  refine lv_iload_n hx hb dX9_write_53 rfl (lv_at hl 1 rfl) ?_
  refine lv_iload_n hx hb dX9_write_54 rfl (lv_at hl 2 rfl) ?_
  refine lv_iload_n hx hb dX9_write_55 rfl (lv_at hl 3 rfl) ?_
  obtain ⟨u56, o56, h⟩ := h
  obtain ⟨q56, e56, h⟩ := h
  refine g_cVi (As := [.int x1, .int x2, .int x3]) (rest := []) (n := 3) hx hb hml hown hts hK hlo hG (m_X1_writeVersion l dd cT lo G46 v50 x1 x2 x3 e56) qM_X9_282 qI_yX1_writeVersion qS_X1_yX1_writeVersion qN_X1 qC_yX1_writeVersion (by decide +kernel) ⟨Nat.le_of_ble_eq_true rfl, Nat.le_of_ble_eq_true rfl⟩ (by rfl) o56 rfl hl.1 rfl (Nat.le_of_ble_eq_true rfl) dX9_write_56 ⟨Nat.le_of_ble_eq_true rfl, Nat.le_of_ble_eq_true rfl⟩ (fun H locs hG => ?_)
  refine W.widen (k := 34) (n := 1661) (Nat.le_of_ble_eq_true rfl) (Nat.le_of_ble_eq_true rfl) ?_
  exact vx_ret (g_iret hx hb hr hlocks hK hlo hG h dX9_write_59)
def w_X9_erase (G : gH) (a0 : Nat) (x1 : Int32) (KX : String → gH → Prop) (K : Int32 → gH → Prop) : Prop :=
    ∃ v2, g_r G a0 9 5 = some v2 ∧
    ∃ v5, g_i G v2 1 3 = some v5 ∧
    w_X9_checkIndex G x1 v5 KX (fun G8 =>
    ∃ v12, g_r G8 a0 9 5 = some v12 ∧
    ∃ u16, g_ob G8 v12 1 = some u16 ∧
    ∃ q16, f_X1_reasonAgainstErase G8 v12 x1 = some q16 ∧
    w_X9_checkAllowed q16.1 q16.2 KX (fun G19 =>
    ∃ v23, g_r G19 a0 9 2 = some v23 ∧
    ∃ v27, g_r G19 a0 9 5 = some v27 ∧
    ∃ u30, g_ob G19 v23 2 = some u30 ∧
    w_X2_keep G19 v23 v27 (fun G30 =>
    ∃ v34, g_r G30 a0 9 5 = some v34 ∧
    ∃ u38, g_ob G30 v34 1 = some u38 ∧
    ∃ G38, f_X1_eraseFile G30 v34 x1 = some G38 ∧
    ∃ v42, g_r G38 a0 9 5 = some v42 ∧
    ∃ v45, g_r G38 v42 1 6 = some v45 ∧
    ∃ v49, g_r G38 a0 9 5 = some v49 ∧
    ∃ u52, g_ob G38 v45 8 = some u52 ∧
    ∃ q52, f_X8_lookAt G38 v45 v49 = some q52 ∧
    ∃ u55, g_ob q52.1 q52.2 8 = some u55 ∧
    ∃ v55, f_X8_filesThere q52.1 q52.2 = some v55 ∧
    K v55 q52.1)))
set_option maxRecDepth 20000 in
set_option maxHeartbeats 4000000 in
theorem m_X9_erase (l : Launch) (hfl : l.stackTraces = false) (dd : va_G) (cT : Nat → ClassId) (lo : Nat) (G : gH) (a0 : Nat) (x1 : Int32) {KX : String → gH → Prop} {K : Int32 → gH → Prop} (h : w_X9_erase G a0 x1 KX K) : vx_Met l yX9_erase (Cond.code yX9_erase cX9_erase 2 (some .int) :: wsL_law) (g_rm 7 124 32 1649) (va_Pc [.ref a0, .int x1] (g_Pre lo dd cT G)) (va_Qi K (g_Pre lo dd cT) (g_A lo)) (g_XC lo dd cT KX) 32 1649 (g_A lo) := by
  refine g_startX RX9 rfl (by decide) (Nat.le_of_ble_eq_true rfl) ?_
  intro p e s m below meth c hx hb hr hlocks hml hnone hown hnm hts hK hG hlo ls hl
  have hl : lv_has ls 2 [(0, .ref a0), (1, .int x1)] := hl
  have hG : g_S lo dd cT s s.heap [] G := hG
  unfold w_X9_erase at h
  refine lv_iload_n hx hb dX9_erase_0 rfl (lv_at hl 1 rfl) ?_
  refine lv_aload_n hx hb dX9_erase_1 rfl (lv_at hl 0 rfl) ?_
  obtain ⟨v2, e2, h⟩ := h
  refine g_getr hx hb hts inlX9 hown hK hG (by rfl) 5 (by decide) qF_X9_47 e2 dX9_erase_2 ?_
  obtain ⟨v5, e5, h⟩ := h
  refine g_geti hx hb hts inlX1 hown hK hG (by rfl) 3 (by decide) qF_X9_116 e5 dX9_erase_5 ?_
  refine g_xSv (As := [.int x1, .int v5]) (rest := []) (n := 2) hx hb hml hown hts hK hlo hG (m_X9_checkIndex l hfl dd cT lo G x1 v5 h) qM_X9_179 qT_yX9_checkIndex qN_X9 qC_yX9_checkIndex (by decide +kernel) ⟨Nat.le_of_ble_eq_true rfl, Nat.le_of_ble_eq_true rfl⟩ rfl hl.1 rfl (Nat.le_of_ble_eq_true rfl) dX9_erase_8 ⟨Nat.le_of_ble_eq_true rfl, Nat.le_of_ble_eq_true rfl⟩ (fun E ce q9 G1 H locs hKX hG a1 a2 a3 => g_out hlocks hnone hG a1 a2 a3 hKX (Nat.le_of_ble_eq_true rfl) (Nat.le_of_ble_eq_true rfl)) (fun G8 H locs h hG => ?_)
  refine lv_aload_n hx hb dX9_erase_11 rfl (lv_at hl 0 rfl) ?_
  obtain ⟨v12, e12, h⟩ := h
  refine g_getr hx hb hts inlX9 hown hK hG (by rfl) 5 (by decide) qF_X9_47 e12 dX9_erase_12 ?_
  refine lv_iload_n hx hb dX9_erase_15 rfl (lv_at hl 1 rfl) ?_
  obtain ⟨u16, o16, h⟩ := h
  obtain ⟨q16, e16, h⟩ := h
  refine g_cVi (As := [.int x1]) (rest := []) (n := 1) hx hb hml hown hts hK hlo hG (m_X1_reasonAgainstErase l dd cT lo G8 v12 x1 e16) qM_X9_286 qI_yX1_reasonAgainstErase qS_X1_yX1_reasonAgainstErase qN_X1 qC_yX1_reasonAgainstErase (by decide +kernel) ⟨Nat.le_of_ble_eq_true rfl, Nat.le_of_ble_eq_true rfl⟩ (by rfl) o16 rfl hl.1 rfl (Nat.le_of_ble_eq_true rfl) dX9_erase_16 ⟨Nat.le_of_ble_eq_true rfl, Nat.le_of_ble_eq_true rfl⟩ (fun H locs hG => ?_)
  refine g_xSv (As := [.int q16.2]) (rest := []) (n := 1) hx hb hml hown hts hK hlo hG (m_X9_checkAllowed l hfl dd cT lo q16.1 q16.2 h) qM_X9_275 qT_yX9_checkAllowed qN_X9 qC_yX9_checkAllowed (by decide +kernel) ⟨Nat.le_of_ble_eq_true rfl, Nat.le_of_ble_eq_true rfl⟩ rfl hl.1 rfl (Nat.le_of_ble_eq_true rfl) dX9_erase_19 ⟨Nat.le_of_ble_eq_true rfl, Nat.le_of_ble_eq_true rfl⟩ (fun E ce q9 G1 H locs hKX hG a1 a2 a3 => g_out hlocks hnone hG a1 a2 a3 hKX (Nat.le_of_ble_eq_true rfl) (Nat.le_of_ble_eq_true rfl)) (fun G19 H locs h hG => ?_)
  refine lv_aload_n hx hb dX9_erase_22 rfl (lv_at hl 0 rfl) ?_
  obtain ⟨v23, e23, h⟩ := h
  refine g_getr hx hb hts inlX9 hown hK hG (by rfl) 2 (by decide) qF_X9_26 e23 dX9_erase_23 ?_
  refine lv_aload_n hx hb dX9_erase_26 rfl (lv_at hl 0 rfl) ?_
  obtain ⟨v27, e27, h⟩ := h
  refine g_getr hx hb hts inlX9 hown hK hG (by rfl) 5 (by decide) qF_X9_47 e27 dX9_erase_27 ?_
  obtain ⟨u30, o30, h⟩ := h
  refine g_wVv (As := [.ref v27]) (rest := []) (n := 1) hx hb hml hown hts hK hlo hG (m_X2_keep l dd cT lo G19 v23 v27 h) qM_X9_278 qI_yX2_keep qS_X2_yX2_keep qN_X2 qC_yX2_keep (by decide +kernel) ⟨Nat.le_of_ble_eq_true rfl, Nat.le_of_ble_eq_true rfl⟩ (by rfl) o30 rfl hl.1 rfl (Nat.le_of_ble_eq_true rfl) dX9_erase_30 ⟨Nat.le_of_ble_eq_true rfl, Nat.le_of_ble_eq_true rfl⟩ (fun G30 H locs h hG => ?_)
  refine lv_aload_n hx hb dX9_erase_33 rfl (lv_at hl 0 rfl) ?_
  obtain ⟨v34, e34, h⟩ := h
  refine g_getr hx hb hts inlX9 hown hK hG (by rfl) 5 (by decide) qF_X9_47 e34 dX9_erase_34 ?_
  refine lv_iload_n hx hb dX9_erase_37 rfl (lv_at hl 1 rfl) ?_
  obtain ⟨u38, o38, h⟩ := h
  obtain ⟨G38, e38, h⟩ := h
  refine g_cVv (As := [.int x1]) (rest := []) (n := 1) hx hb hml hown hts hK hlo hG (m_X1_eraseFile l dd cT lo G30 v34 x1 e38) qM_X9_289 qI_yX1_eraseFile qS_X1_yX1_eraseFile qN_X1 qC_yX1_eraseFile (by decide +kernel) ⟨Nat.le_of_ble_eq_true rfl, Nat.le_of_ble_eq_true rfl⟩ (by rfl) o38 rfl hl.1 rfl (Nat.le_of_ble_eq_true rfl) dX9_erase_38 ⟨Nat.le_of_ble_eq_true rfl, Nat.le_of_ble_eq_true rfl⟩ (fun H locs hG => ?_)
  refine lv_aload_n hx hb dX9_erase_41 rfl (lv_at hl 0 rfl) ?_
  obtain ⟨v42, e42, h⟩ := h
  refine g_getr hx hb hts inlX9 hown hK hG (by rfl) 5 (by decide) qF_X9_47 e42 dX9_erase_42 ?_
  obtain ⟨v45, e45, h⟩ := h
  refine g_getr hx hb hts inlX1 hown hK hG (by rfl) 6 (by decide) qF_X9_136 e45 dX9_erase_45 ?_
  refine lv_aload_n hx hb dX9_erase_48 rfl (lv_at hl 0 rfl) ?_
  obtain ⟨v49, e49, h⟩ := h
  refine g_getr hx hb hts inlX9 hown hK hG (by rfl) 5 (by decide) qF_X9_47 e49 dX9_erase_49 ?_
  obtain ⟨u52, o52, h⟩ := h
  obtain ⟨q52, e52, h⟩ := h
  refine g_cVr (As := [.ref v49]) (rest := []) (n := 1) hx hb hml hown hts hK hlo hG (m_X8_lookAt l dd cT lo G38 v45 v49 e52) qM_X9_139 qI_yX8_lookAt qS_X8_yX8_lookAt qN_X8 qC_yX8_lookAt (by decide +kernel) ⟨Nat.le_of_ble_eq_true rfl, Nat.le_of_ble_eq_true rfl⟩ (by rfl) o52 rfl hl.1 rfl (Nat.le_of_ble_eq_true rfl) dX9_erase_52 ⟨Nat.le_of_ble_eq_true rfl, Nat.le_of_ble_eq_true rfl⟩ (fun H locs hG => ?_)
  obtain ⟨u55, o55, h⟩ := h
  obtain ⟨v55, e55, h⟩ := h
  refine g_cVi (As := []) (rest := []) (n := 0) hx hb hml hown hts hK hlo hG (m_X8_filesThere l dd cT lo q52.1 q52.2 e55) qM_X9_143 qI_yX8_filesThere qS_X8_yX8_filesThere qN_X8 qC_yX8_filesThere (by decide +kernel) ⟨Nat.le_of_ble_eq_true rfl, Nat.le_of_ble_eq_true rfl⟩ (by rfl) o55 rfl hl.1 rfl (Nat.le_of_ble_eq_true rfl) dX9_erase_55 ⟨Nat.le_of_ble_eq_true rfl, Nat.le_of_ble_eq_true rfl⟩ (fun H locs hG => ?_)
  refine W.widen (k := 32) (n := 1649) (Nat.le_of_ble_eq_true rfl) (Nat.le_of_ble_eq_true rfl) ?_
  exact vx_ret (g_iret hx hb hr hlocks hK hlo hG h dX9_erase_58)
def w_X9_close (G : gH) (a0 : Nat) (KX : String → gH → Prop) (K : Int32 → gH → Prop) : Prop :=
    ∃ v1, g_r G a0 9 5 = some v1 ∧
    ∃ u4, g_ob G v1 1 = some u4 ∧
    ∃ v4, f_X1_reasonAgainstClose G v1 = some v4 ∧
    w_X9_checkAllowed G v4 KX (fun G7 =>
    ∃ v11, g_r G7 a0 9 2 = some v11 ∧
    ∃ v15, g_r G7 a0 9 5 = some v15 ∧
    ∃ u18, g_ob G7 v11 2 = some u18 ∧
    w_X2_keep G7 v11 v15 (fun G18 =>
    ∃ v22, g_r G18 a0 9 5 = some v22 ∧
    ∃ u25, g_ob G18 v22 1 = some u25 ∧
    ∃ q25, f_X1_closeSession G18 v22 = some q25 ∧
    K q25.2 q25.1))
set_option maxRecDepth 20000 in
set_option maxHeartbeats 4000000 in
theorem m_X9_close (l : Launch) (hfl : l.stackTraces = false) (dd : va_G) (cT : Nat → ClassId) (lo : Nat) (G : gH) (a0 : Nat) {KX : String → gH → Prop} {K : Int32 → gH → Prop} (h : w_X9_close G a0 KX K) : vx_Met l yX9_close (Cond.code yX9_close cX9_close 1 (some .int) :: wsL_law) (g_rm 7 124 31 1643) (va_Pc [.ref a0] (g_Pre lo dd cT G)) (va_Qi K (g_Pre lo dd cT) (g_A lo)) (g_XC lo dd cT KX) 31 1643 (g_A lo) := by
  refine g_startX RX9 rfl (by decide) (Nat.le_of_ble_eq_true rfl) ?_
  intro p e s m below meth c hx hb hr hlocks hml hnone hown hnm hts hK hG hlo ls hl
  have hl : lv_has ls 1 [(0, .ref a0)] := hl
  have hG : g_S lo dd cT s s.heap [] G := hG
  unfold w_X9_close at h
  refine lv_aload_n hx hb dX9_close_0 rfl (lv_at hl 0 rfl) ?_
  obtain ⟨v1, e1, h⟩ := h
  refine g_getr hx hb hts inlX9 hown hK hG (by rfl) 5 (by decide) qF_X9_47 e1 dX9_close_1 ?_
  obtain ⟨u4, o4, h⟩ := h
  obtain ⟨v4, e4, h⟩ := h
  refine g_cVi (As := []) (rest := []) (n := 0) hx hb hml hown hts hK hlo hG (m_X1_reasonAgainstClose l dd cT lo G v1 e4) qM_X9_252 qI_yX1_reasonAgainstClose qS_X1_yX1_reasonAgainstClose qN_X1 qC_yX1_reasonAgainstClose (by decide +kernel) ⟨Nat.le_of_ble_eq_true rfl, Nat.le_of_ble_eq_true rfl⟩ (by rfl) o4 rfl hl.1 rfl (Nat.le_of_ble_eq_true rfl) dX9_close_4 ⟨Nat.le_of_ble_eq_true rfl, Nat.le_of_ble_eq_true rfl⟩ (fun H locs hG => ?_)
  refine g_xSv (As := [.int v4]) (rest := []) (n := 1) hx hb hml hown hts hK hlo hG (m_X9_checkAllowed l hfl dd cT lo G v4 h) qM_X9_275 qT_yX9_checkAllowed qN_X9 qC_yX9_checkAllowed (by decide +kernel) ⟨Nat.le_of_ble_eq_true rfl, Nat.le_of_ble_eq_true rfl⟩ rfl hl.1 rfl (Nat.le_of_ble_eq_true rfl) dX9_close_7 ⟨Nat.le_of_ble_eq_true rfl, Nat.le_of_ble_eq_true rfl⟩ (fun E ce q9 G1 H locs hKX hG a1 a2 a3 => g_out hlocks hnone hG a1 a2 a3 hKX (Nat.le_of_ble_eq_true rfl) (Nat.le_of_ble_eq_true rfl)) (fun G7 H locs h hG => ?_)
  refine lv_aload_n hx hb dX9_close_10 rfl (lv_at hl 0 rfl) ?_
  obtain ⟨v11, e11, h⟩ := h
  refine g_getr hx hb hts inlX9 hown hK hG (by rfl) 2 (by decide) qF_X9_26 e11 dX9_close_11 ?_
  refine lv_aload_n hx hb dX9_close_14 rfl (lv_at hl 0 rfl) ?_
  obtain ⟨v15, e15, h⟩ := h
  refine g_getr hx hb hts inlX9 hown hK hG (by rfl) 5 (by decide) qF_X9_47 e15 dX9_close_15 ?_
  obtain ⟨u18, o18, h⟩ := h
  refine g_wVv (As := [.ref v15]) (rest := []) (n := 1) hx hb hml hown hts hK hlo hG (m_X2_keep l dd cT lo G7 v11 v15 h) qM_X9_278 qI_yX2_keep qS_X2_yX2_keep qN_X2 qC_yX2_keep (by decide +kernel) ⟨Nat.le_of_ble_eq_true rfl, Nat.le_of_ble_eq_true rfl⟩ (by rfl) o18 rfl hl.1 rfl (Nat.le_of_ble_eq_true rfl) dX9_close_18 ⟨Nat.le_of_ble_eq_true rfl, Nat.le_of_ble_eq_true rfl⟩ (fun G18 H locs h hG => ?_)
  refine lv_aload_n hx hb dX9_close_21 rfl (lv_at hl 0 rfl) ?_
  obtain ⟨v22, e22, h⟩ := h
  refine g_getr hx hb hts inlX9 hown hK hG (by rfl) 5 (by decide) qF_X9_47 e22 dX9_close_22 ?_
  obtain ⟨u25, o25, h⟩ := h
  obtain ⟨q25, e25, h⟩ := h
  refine g_cVi (As := []) (rest := []) (n := 0) hx hb hml hown hts hK hlo hG (m_X1_closeSession l dd cT lo G18 v22 e25) qM_X9_292 qI_yX1_closeSession qS_X1_yX1_closeSession qN_X1 qC_yX1_closeSession (by decide +kernel) ⟨Nat.le_of_ble_eq_true rfl, Nat.le_of_ble_eq_true rfl⟩ (by rfl) o25 rfl hl.1 rfl (Nat.le_of_ble_eq_true rfl) dX9_close_25 ⟨Nat.le_of_ble_eq_true rfl, Nat.le_of_ble_eq_true rfl⟩ (fun H locs hG => ?_)
  refine W.widen (k := 31) (n := 1643) (Nat.le_of_ble_eq_true rfl) (Nat.le_of_ble_eq_true rfl) ?_
  exact vx_ret (g_iret hx hb hr hlocks hK hlo hG h dX9_close_28)
def w_X9_crash (G : gH) (a0 : Nat) (KX : String → gH → Prop) (K : Int32 → gH → Prop) : Prop :=
    ∃ v1, g_r G a0 9 5 = some v1 ∧
    ∃ u4, g_ob G v1 1 = some u4 ∧
    ∃ v4, f_X1_reasonAgainstCrash G v1 = some v4 ∧
    w_X9_checkAllowed G v4 KX (fun G7 =>
    ∃ v11, g_r G7 a0 9 2 = some v11 ∧
    ∃ v15, g_r G7 a0 9 5 = some v15 ∧
    ∃ u18, g_ob G7 v11 2 = some u18 ∧
    w_X2_keep G7 v11 v15 (fun G18 =>
    ∃ v22, g_r G18 a0 9 5 = some v22 ∧
    ∃ u25, g_ob G18 v22 1 = some u25 ∧
    ∃ q25, f_X1_loseSession G18 v22 = some q25 ∧
    K q25.2 q25.1))
set_option maxRecDepth 20000 in
set_option maxHeartbeats 4000000 in
theorem m_X9_crash (l : Launch) (hfl : l.stackTraces = false) (dd : va_G) (cT : Nat → ClassId) (lo : Nat) (G : gH) (a0 : Nat) {KX : String → gH → Prop} {K : Int32 → gH → Prop} (h : w_X9_crash G a0 KX K) : vx_Met l yX9_crash (Cond.code yX9_crash cX9_crash 1 (some .int) :: wsL_law) (g_rm 7 124 31 1643) (va_Pc [.ref a0] (g_Pre lo dd cT G)) (va_Qi K (g_Pre lo dd cT) (g_A lo)) (g_XC lo dd cT KX) 31 1643 (g_A lo) := by
  refine g_startX RX9 rfl (by decide) (Nat.le_of_ble_eq_true rfl) ?_
  intro p e s m below meth c hx hb hr hlocks hml hnone hown hnm hts hK hG hlo ls hl
  have hl : lv_has ls 1 [(0, .ref a0)] := hl
  have hG : g_S lo dd cT s s.heap [] G := hG
  unfold w_X9_crash at h
  refine lv_aload_n hx hb dX9_crash_0 rfl (lv_at hl 0 rfl) ?_
  obtain ⟨v1, e1, h⟩ := h
  refine g_getr hx hb hts inlX9 hown hK hG (by rfl) 5 (by decide) qF_X9_47 e1 dX9_crash_1 ?_
  obtain ⟨u4, o4, h⟩ := h
  obtain ⟨v4, e4, h⟩ := h
  refine g_cVi (As := []) (rest := []) (n := 0) hx hb hml hown hts hK hlo hG (m_X1_reasonAgainstCrash l dd cT lo G v1 e4) qM_X9_255 qI_yX1_reasonAgainstCrash qS_X1_yX1_reasonAgainstCrash qN_X1 qC_yX1_reasonAgainstCrash (by decide +kernel) ⟨Nat.le_of_ble_eq_true rfl, Nat.le_of_ble_eq_true rfl⟩ (by rfl) o4 rfl hl.1 rfl (Nat.le_of_ble_eq_true rfl) dX9_crash_4 ⟨Nat.le_of_ble_eq_true rfl, Nat.le_of_ble_eq_true rfl⟩ (fun H locs hG => ?_)
  refine g_xSv (As := [.int v4]) (rest := []) (n := 1) hx hb hml hown hts hK hlo hG (m_X9_checkAllowed l hfl dd cT lo G v4 h) qM_X9_275 qT_yX9_checkAllowed qN_X9 qC_yX9_checkAllowed (by decide +kernel) ⟨Nat.le_of_ble_eq_true rfl, Nat.le_of_ble_eq_true rfl⟩ rfl hl.1 rfl (Nat.le_of_ble_eq_true rfl) dX9_crash_7 ⟨Nat.le_of_ble_eq_true rfl, Nat.le_of_ble_eq_true rfl⟩ (fun E ce q9 G1 H locs hKX hG a1 a2 a3 => g_out hlocks hnone hG a1 a2 a3 hKX (Nat.le_of_ble_eq_true rfl) (Nat.le_of_ble_eq_true rfl)) (fun G7 H locs h hG => ?_)
  refine lv_aload_n hx hb dX9_crash_10 rfl (lv_at hl 0 rfl) ?_
  obtain ⟨v11, e11, h⟩ := h
  refine g_getr hx hb hts inlX9 hown hK hG (by rfl) 2 (by decide) qF_X9_26 e11 dX9_crash_11 ?_
  refine lv_aload_n hx hb dX9_crash_14 rfl (lv_at hl 0 rfl) ?_
  obtain ⟨v15, e15, h⟩ := h
  refine g_getr hx hb hts inlX9 hown hK hG (by rfl) 5 (by decide) qF_X9_47 e15 dX9_crash_15 ?_
  obtain ⟨u18, o18, h⟩ := h
  refine g_wVv (As := [.ref v15]) (rest := []) (n := 1) hx hb hml hown hts hK hlo hG (m_X2_keep l dd cT lo G7 v11 v15 h) qM_X9_278 qI_yX2_keep qS_X2_yX2_keep qN_X2 qC_yX2_keep (by decide +kernel) ⟨Nat.le_of_ble_eq_true rfl, Nat.le_of_ble_eq_true rfl⟩ (by rfl) o18 rfl hl.1 rfl (Nat.le_of_ble_eq_true rfl) dX9_crash_18 ⟨Nat.le_of_ble_eq_true rfl, Nat.le_of_ble_eq_true rfl⟩ (fun G18 H locs h hG => ?_)
  refine lv_aload_n hx hb dX9_crash_21 rfl (lv_at hl 0 rfl) ?_
  obtain ⟨v22, e22, h⟩ := h
  refine g_getr hx hb hts inlX9 hown hK hG (by rfl) 5 (by decide) qF_X9_47 e22 dX9_crash_22 ?_
  obtain ⟨u25, o25, h⟩ := h
  obtain ⟨q25, e25, h⟩ := h
  refine g_cVi (As := []) (rest := []) (n := 0) hx hb hml hown hts hK hlo hG (m_X1_loseSession l dd cT lo G18 v22 e25) qM_X9_295 qI_yX1_loseSession qS_X1_yX1_loseSession qN_X1 qC_yX1_loseSession (by decide +kernel) ⟨Nat.le_of_ble_eq_true rfl, Nat.le_of_ble_eq_true rfl⟩ (by rfl) o25 rfl hl.1 rfl (Nat.le_of_ble_eq_true rfl) dX9_crash_25 ⟨Nat.le_of_ble_eq_true rfl, Nat.le_of_ble_eq_true rfl⟩ (fun H locs hG => ?_)
  refine W.widen (k := 31) (n := 1643) (Nat.le_of_ble_eq_true rfl) (Nat.le_of_ble_eq_true rfl) ?_
  exact vx_ret (g_iret hx hb hr hlocks hK hlo hG h dX9_crash_28)

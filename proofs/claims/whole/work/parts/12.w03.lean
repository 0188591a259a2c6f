/-! What makes cells or throws: by program (wip/whole/tools/wlift.py). -/
def w_X9_recover (G : gH) (a0 : Nat) (KX : String → gH → Prop) (K : Int32 → gH → Prop) : Prop :=
    ∃ v1, g_r G a0 9 5 = some v1 ∧
    ∃ u4, g_ob G v1 1 = some u4 ∧
    ∃ v4, f_X1_reasonAgainstRecover G v1 = some v4 ∧
    w_X9_checkAllowed G v4 KX (fun G7 =>
    ∃ v11, g_r G7 a0 9 2 = some v11 ∧
    ∃ v15, g_r G7 a0 9 5 = some v15 ∧
    ∃ u18, g_ob G7 v11 2 = some u18 ∧
    w_X2_keep G7 v11 v15 (fun G18 =>
    ∃ v22, g_r G18 a0 9 5 = some v22 ∧
    ∃ u25, g_ob G18 v22 1 = some u25 ∧
    ∃ q25, f_X1_recoverSession G18 v22 = some q25 ∧
    K q25.2 q25.1))
set_option maxRecDepth 20000 in
set_option maxHeartbeats 4000000 in
theorem m_X9_recover (l : Launch) (hfl : l.stackTraces = false) (dd : va_G) (cT : Nat → ClassId) (lo : Nat) (G : gH) (a0 : Nat) {KX : String → gH → Prop} {K : Int32 → gH → Prop} (h : w_X9_recover G a0 KX K) : vx_Met l yX9_recover (Cond.code yX9_recover cX9_recover 1 (some .int) :: wsL_law) (g_rm 7 138 31 1643) (va_Pc [.ref a0] (g_Pre lo dd cT G)) (va_Qi K (g_Pre lo dd cT) (g_A lo)) (g_XC lo dd cT KX) 31 1643 (g_A lo) := by
  refine g_startX RX9 rfl (by decide) (Nat.le_of_ble_eq_true rfl) ?_
  intro p e s m below meth c hx hb hr hlocks hml hnone hown hnm hts hK hG hlo ls hl
  have hl : lv_has ls 1 [(0, .ref a0)] := hl
  have hG : g_S lo dd cT s s.heap [] G := hG
  unfold w_X9_recover at h
  refine lv_aload_n hx hb dX9_recover_0 rfl (lv_at hl 0 rfl) ?_
  obtain ⟨v1, e1, h⟩ := h
  refine g_getr hx hb hts inlX9 hown hK hG (by rfl) 5 (by decide) qF_X9_47 e1 dX9_recover_1 ?_
  obtain ⟨u4, o4, h⟩ := h
  obtain ⟨v4, e4, h⟩ := h
  refine g_cVi (As := []) (rest := []) (n := 0) hx hb hml hown hts hK hlo hG (m_X1_reasonAgainstRecover l dd cT lo G v1 e4) qM_X9_258 qI_yX1_reasonAgainstRecover qS_X1_yX1_reasonAgainstRecover qN_X1 qC_yX1_reasonAgainstRecover (by decide +kernel) ⟨Nat.le_of_ble_eq_true rfl, Nat.le_of_ble_eq_true rfl⟩ (by rfl) o4 rfl hl.1 rfl (Nat.le_of_ble_eq_true rfl) dX9_recover_4 ⟨Nat.le_of_ble_eq_true rfl, Nat.le_of_ble_eq_true rfl⟩ (fun H locs hG => ?_)
  refine g_xSv (As := [.int v4]) (rest := []) (n := 1) hx hb hml hown hts hK hlo hG (m_X9_checkAllowed l hfl dd cT lo G v4 h) qM_X9_275 qT_yX9_checkAllowed qN_X9 qC_yX9_checkAllowed (by decide +kernel) ⟨Nat.le_of_ble_eq_true rfl, Nat.le_of_ble_eq_true rfl⟩ rfl hl.1 rfl (Nat.le_of_ble_eq_true rfl) dX9_recover_7 ⟨Nat.le_of_ble_eq_true rfl, Nat.le_of_ble_eq_true rfl⟩ (fun E ce q9 G1 H locs hKX hG a1 a2 a3 => g_out hlocks hnone hG a1 a2 a3 hKX (Nat.le_of_ble_eq_true rfl) (Nat.le_of_ble_eq_true rfl)) (fun G7 H locs h hG => ?_)
  refine lv_aload_n hx hb dX9_recover_10 rfl (lv_at hl 0 rfl) ?_
  obtain ⟨v11, e11, h⟩ := h
  refine g_getr hx hb hts inlX9 hown hK hG (by rfl) 2 (by decide) qF_X9_26 e11 dX9_recover_11 ?_
  refine lv_aload_n hx hb dX9_recover_14 rfl (lv_at hl 0 rfl) ?_
  obtain ⟨v15, e15, h⟩ := h
  refine g_getr hx hb hts inlX9 hown hK hG (by rfl) 5 (by decide) qF_X9_47 e15 dX9_recover_15 ?_
  obtain ⟨u18, o18, h⟩ := h
  refine g_wVv (As := [.ref v15]) (rest := []) (n := 1) hx hb hml hown hts hK hlo hG (m_X2_keep l dd cT lo G7 v11 v15 h) qM_X9_278 qI_yX2_keep qS_X2_yX2_keep qN_X2 qC_yX2_keep (by decide +kernel) ⟨Nat.le_of_ble_eq_true rfl, Nat.le_of_ble_eq_true rfl⟩ (by rfl) o18 rfl hl.1 rfl (Nat.le_of_ble_eq_true rfl) dX9_recover_18 ⟨Nat.le_of_ble_eq_true rfl, Nat.le_of_ble_eq_true rfl⟩ (fun G18 H locs h hG => ?_)
  refine lv_aload_n hx hb dX9_recover_21 rfl (lv_at hl 0 rfl) ?_
  obtain ⟨v22, e22, h⟩ := h
  refine g_getr hx hb hts inlX9 hown hK hG (by rfl) 5 (by decide) qF_X9_47 e22 dX9_recover_22 ?_
  obtain ⟨u25, o25, h⟩ := h
  obtain ⟨q25, e25, h⟩ := h
  refine g_cVi (As := []) (rest := []) (n := 0) hx hb hml hown hts hK hlo hG (m_X1_recoverSession l dd cT lo G18 v22 e25) qM_X9_298 qI_yX1_recoverSession qS_X1_yX1_recoverSession qN_X1 qC_yX1_recoverSession (by decide +kernel) ⟨Nat.le_of_ble_eq_true rfl, Nat.le_of_ble_eq_true rfl⟩ (by rfl) o25 rfl hl.1 rfl (Nat.le_of_ble_eq_true rfl) dX9_recover_25 ⟨Nat.le_of_ble_eq_true rfl, Nat.le_of_ble_eq_true rfl⟩ (fun H locs hG => ?_)
  refine W.widen (k := 31) (n := 1643) (Nat.le_of_ble_eq_true rfl) (Nat.le_of_ble_eq_true rfl) ?_
  exact vx_ret (g_iret hx hb hr hlocks hK hlo hG h dX9_recover_28)
def w_X9_scratch (G : gH) (a0 : Nat) (x1 : Int32) (KX : String → gH → Prop) (K : Int32 → gH → Prop) : Prop :=
    ∃ v2, g_r G a0 9 5 = some v2 ∧
    ∃ v5, g_r G v2 1 0 = some v5 ∧
    ∃ v8, g_i G v5 0 0 = some v8 ∧
    w_X9_checkIndex G x1 v8 KX (fun G11 =>
    ∃ v15, g_r G11 a0 9 2 = some v15 ∧
    ∃ v19, g_r G11 a0 9 5 = some v19 ∧
    ∃ u22, g_ob G11 v15 2 = some u22 ∧
    w_X2_keep G11 v15 v19 (fun G22 =>
    ∃ v26, g_r G22 a0 9 5 = some v26 ∧
    ∃ v29, g_r G22 v26 1 0 = some v29 ∧
    ∃ u33, g_ob G22 v29 0 = some u33 ∧
    ∃ q33, f_X0_damage G22 v29 x1 = some q33 ∧
    ∃ w36, g_z q33.2 = some w36 ∧
    K w36 q33.1))
set_option maxRecDepth 20000 in
set_option maxHeartbeats 4000000 in
theorem m_X9_scratch (l : Launch) (hfl : l.stackTraces = false) (dd : va_G) (cT : Nat → ClassId) (lo : Nat) (G : gH) (a0 : Nat) (x1 : Int32) {KX : String → gH → Prop} {K : Int32 → gH → Prop} (h : w_X9_scratch G a0 x1 KX K) : vx_Met l yX9_scratch (Cond.code yX9_scratch cX9_scratch 2 (some .boolean) :: wsL_law) (g_rm 7 124 31 1643) (va_Pc [.ref a0, .int x1] (g_Pre lo dd cT G)) (va_Qi K (g_Pre lo dd cT) (g_A lo)) (g_XC lo dd cT KX) 31 1643 (g_A lo) := by
  refine g_startX RX9 rfl (by decide) (Nat.le_of_ble_eq_true rfl) ?_
  intro p e s m below meth c hx hb hr hlocks hml hnone hown hnm hts hK hG hlo ls hl
  have hl : lv_has ls 2 [(0, .ref a0), (1, .int x1)] := hl
  have hG : g_S lo dd cT s s.heap [] G := hG
  unfold w_X9_scratch at h
  refine lv_iload_n hx hb dX9_scratch_0 rfl (lv_at hl 1 rfl) ?_
  refine lv_aload_n hx hb dX9_scratch_1 rfl (lv_at hl 0 rfl) ?_
  obtain ⟨v2, e2, h⟩ := h
  refine g_getr hx hb hts inlX9 hown hK hG (by rfl) 5 (by decide) qF_X9_47 e2 dX9_scratch_2 ?_
  obtain ⟨v5, e5, h⟩ := h
  refine g_getr hx hb hts inlX1 hown hK hG (by rfl) 0 (by decide) qF_X9_106 e5 dX9_scratch_5 ?_
  obtain ⟨v8, e8, h⟩ := h
  refine g_geti hx hb hts inlX0 hown hK hG (by rfl) 0 (by decide) qF_X9_110 e8 dX9_scratch_8 ?_
  refine g_xSv (As := [.int x1, .int v8]) (rest := []) (n := 2) hx hb hml hown hts hK hlo hG (m_X9_checkIndex l hfl dd cT lo G x1 v8 h) qM_X9_179 qT_yX9_checkIndex qN_X9 qC_yX9_checkIndex (by decide +kernel) ⟨Nat.le_of_ble_eq_true rfl, Nat.le_of_ble_eq_true rfl⟩ rfl hl.1 rfl (Nat.le_of_ble_eq_true rfl) dX9_scratch_11 ⟨Nat.le_of_ble_eq_true rfl, Nat.le_of_ble_eq_true rfl⟩ (fun E ce q9 G1 H locs hKX hG a1 a2 a3 => g_out hlocks hnone hG a1 a2 a3 hKX (Nat.le_of_ble_eq_true rfl) (Nat.le_of_ble_eq_true rfl)) (fun G11 H locs h hG => ?_)
  refine lv_aload_n hx hb dX9_scratch_14 rfl (lv_at hl 0 rfl) ?_
  obtain ⟨v15, e15, h⟩ := h
  refine g_getr hx hb hts inlX9 hown hK hG (by rfl) 2 (by decide) qF_X9_26 e15 dX9_scratch_15 ?_
  refine lv_aload_n hx hb dX9_scratch_18 rfl (lv_at hl 0 rfl) ?_
  obtain ⟨v19, e19, h⟩ := h
  refine g_getr hx hb hts inlX9 hown hK hG (by rfl) 5 (by decide) qF_X9_47 e19 dX9_scratch_19 ?_
  obtain ⟨u22, o22, h⟩ := h
  refine g_wVv (As := [.ref v19]) (rest := []) (n := 1) hx hb hml hown hts hK hlo hG (m_X2_keep l dd cT lo G11 v15 v19 h) qM_X9_278 qI_yX2_keep qS_X2_yX2_keep qN_X2 qC_yX2_keep (by decide +kernel) ⟨Nat.le_of_ble_eq_true rfl, Nat.le_of_ble_eq_true rfl⟩ (by rfl) o22 rfl hl.1 rfl (Nat.le_of_ble_eq_true rfl) dX9_scratch_22 ⟨Nat.le_of_ble_eq_true rfl, Nat.le_of_ble_eq_true rfl⟩ (fun G22 H locs h hG => ?_)
  refine lv_aload_n hx hb dX9_scratch_25 rfl (lv_at hl 0 rfl) ?_
  obtain ⟨v26, e26, h⟩ := h
  refine g_getr hx hb hts inlX9 hown hK hG (by rfl) 5 (by decide) qF_X9_47 e26 dX9_scratch_26 ?_
  obtain ⟨v29, e29, h⟩ := h
  refine g_getr hx hb hts inlX1 hown hK hG (by rfl) 0 (by decide) qF_X9_106 e29 dX9_scratch_29 ?_
  refine lv_iload_n hx hb dX9_scratch_32 rfl (lv_at hl 1 rfl) ?_
  obtain ⟨u33, o33, h⟩ := h
  obtain ⟨q33, e33, h⟩ := h
  refine g_cVi (As := [.int x1]) (rest := []) (n := 1) hx hb hml hown hts hK hlo hG (m_X0_damage l dd cT lo G22 v29 x1 e33) qM_X9_301 qI_yX0_damage qS_X0_yX0_damage qN_X0 qC_yX0_damage (by decide +kernel) ⟨Nat.le_of_ble_eq_true rfl, Nat.le_of_ble_eq_true rfl⟩ (by rfl) o33 rfl hl.1 rfl (Nat.le_of_ble_eq_true rfl) dX9_scratch_33 ⟨Nat.le_of_ble_eq_true rfl, Nat.le_of_ble_eq_true rfl⟩ (fun H locs hG => ?_)
  obtain ⟨w36, e36, h⟩ := h
  obtain ⟨n36, rfl⟩ := g_z_nar e36
  refine W.widen (k := 31) (n := 1643) (Nat.le_of_ble_eq_true rfl) (Nat.le_of_ble_eq_true rfl) ?_
  exact vx_ret (g_zret hx hb hr hlocks hK hlo hG n36 h dX9_scratch_36)
def w_X9_setScan (G : gH) (a0 : Nat) (x1 : Int32) (K : Int32 → gH → Prop) : Prop :=
    ∃ v1, g_r G a0 9 2 = some v1 ∧
    ∃ v5, g_r G a0 9 5 = some v5 ∧
    ∃ u8, g_ob G v1 2 = some u8 ∧
    w_X2_keep G v1 v5 (fun G8 =>
    ∃ v12, g_r G8 a0 9 5 = some v12 ∧
    ∃ v15, g_i G8 v12 1 5 = some v15 ∧
    ∃ v20, g_r G8 a0 9 5 = some v20 ∧
    ∃ w24, g_z x1 = some w24 ∧
    ∃ G24, g_put G8 v20 1 5 (.int w24) = some G24 ∧
    ∃ w28, g_z v15 = some w28 ∧
    K w28 G24)
set_option maxRecDepth 20000 in
set_option maxHeartbeats 4000000 in
theorem m_X9_setScan (l : Launch) (dd : va_G) (cT : Nat → ClassId) (lo : Nat) (G : gH) (a0 : Nat) (x1 : Int32) {K : Int32 → gH → Prop} (h : w_X9_setScan G a0 x1 K) : Met l yX9_setScan (Cond.code yX9_setScan cX9_setScan 3 (some .boolean) :: wsL_law) (g_rm 5 124 30 1637) (va_Pc [.ref a0, .int x1] (g_Pre lo dd cT G)) (va_Qi K (g_Pre lo dd cT) (g_A lo)) 30 1637 (g_A lo) := by
  refine g_start RX9 rfl (by decide) (Nat.le_of_ble_eq_true rfl) ?_
  intro p e s m below meth c hx hb hr hlocks hml hown hnm hts hK hG hlo ls hl
  have hl : lv_has ls 3 [(0, .ref a0), (1, .int x1)] := hl
  have hG : g_S lo dd cT s s.heap [] G := hG
  unfold w_X9_setScan at h
  refine lv_aload_n hx hb dX9_setScan_0 rfl (lv_at hl 0 rfl) ?_
  obtain ⟨v1, e1, h⟩ := h
  refine g_getr hx hb hts inlX9 hown hK hG (by rfl) 2 (by decide) qF_X9_26 e1 dX9_setScan_1 ?_
  refine lv_aload_n hx hb dX9_setScan_4 rfl (lv_at hl 0 rfl) ?_
  obtain ⟨v5, e5, h⟩ := h
  refine g_getr hx hb hts inlX9 hown hK hG (by rfl) 5 (by decide) qF_X9_47 e5 dX9_setScan_5 ?_
  obtain ⟨u8, o8, h⟩ := h
  refine g_wVv (As := [.ref v5]) (rest := []) (n := 1) hx hb hml hown hts hK hlo hG (m_X2_keep l dd cT lo G v1 v5 h) qM_X9_278 qI_yX2_keep qS_X2_yX2_keep qN_X2 qC_yX2_keep (by decide +kernel) ⟨Nat.le_of_ble_eq_true rfl, Nat.le_of_ble_eq_true rfl⟩ (by rfl) o8 rfl hl.1 rfl (Nat.le_of_ble_eq_true rfl) dX9_setScan_8 ⟨Nat.le_of_ble_eq_true rfl, Nat.le_of_ble_eq_true rfl⟩ (fun G8 H locs h hG => ?_)
  refine lv_aload_n hx hb dX9_setScan_11 rfl (lv_at hl 0 rfl) ?_
  obtain ⟨v12, e12, h⟩ := h
  refine g_getr hx hb hts inlX9 hown hK hG (by rfl) 5 (by decide) qF_X9_47 e12 dX9_setScan_12 ?_
  obtain ⟨v15, e15, h⟩ := h
  refine g_geti hx hb hts inlX1 hown hK hG (by rfl) 5 (by decide) qF_X9_157 e15 dX9_setScan_15 ?_
  refine lv_istore_n (lv' := [(2, .int v15), (0, .ref a0), (1, .int x1)]) hx hb dX9_setScan_18 rfl hl (by decide) rfl (fun ls hl => ?_)
  refine lv_aload_n hx hb dX9_setScan_19 rfl (lv_at hl 1 rfl) ?_
  obtain ⟨v20, e20, h⟩ := h
  refine g_getr hx hb hts inlX9 hown hK hG (by rfl) 5 (by decide) qF_X9_47 e20 dX9_setScan_20 ?_
  refine lv_iload_n hx hb dX9_setScan_23 rfl (lv_at hl 2 rfl) ?_
  obtain ⟨w24, e24, h⟩ := h
  obtain ⟨n24, rfl⟩ := g_z_nar e24
  obtain ⟨G24, i24, h⟩ := h
  refine g_putv hx hb hts inlX1 tyX1 tyX1_ok nmX1 hown hK hG (by rfl) 5 (by decide) qF_X9_157 rfl rfl n24 (g_z_fit e24) i24 dX9_setScan_24 (fun H locs hG => ?_)
  refine lv_iload_n hx hb dX9_setScan_27 rfl (lv_at hl 0 rfl) ?_
  obtain ⟨w28, e28, h⟩ := h
  obtain ⟨n28, rfl⟩ := g_z_nar e28
  refine W.widen (k := 30) (n := 1637) (Nat.le_of_ble_eq_true rfl) (Nat.le_of_ble_eq_true rfl) ?_
  exact g_zret hx hb hr hlocks hK hlo hG n28 h dX9_setScan_28
def w_X9_undo (G : gH) (a0 : Nat) (K : Int32 → gH → Prop) : Prop :=
    ∃ v1, g_r G a0 9 2 = some v1 ∧
    ∃ v5, g_r G a0 9 5 = some v5 ∧
    ∃ u8, g_ob G v1 2 = some u8 ∧
    w_X2_bringBack G v1 v5 (fun v8 G8 =>
    if v8 = 0 then
    K (-1 : Int32) G8
    else
    ∃ v15, g_r G8 a0 9 2 = some v15 ∧
    ∃ v18, g_i G8 v15 2 0 = some v18 ∧
    K v18 G8)
set_option maxRecDepth 20000 in
set_option maxHeartbeats 4000000 in
theorem m_X9_undo (l : Launch) (dd : va_G) (cT : Nat → ClassId) (lo : Nat) (G : gH) (a0 : Nat) {K : Int32 → gH → Prop} (h : w_X9_undo G a0 K) : Met l yX9_undo (Cond.code yX9_undo cX9_undo 1 (some .int) :: wsL_law) (g_rm 5 107 0 0) (va_Pc [.ref a0] (g_Pre lo dd cT G)) (va_Qi K (g_Pre lo dd cT) (g_A lo)) 0 0 (g_A lo) := by
  refine g_start RX9 rfl (by decide) (Nat.le_of_ble_eq_true rfl) ?_
  intro p e s m below meth c hx hb hr hlocks hml hown hnm hts hK hG hlo ls hl
  have hl : lv_has ls 1 [(0, .ref a0)] := hl
  have hG : g_S lo dd cT s s.heap [] G := hG
  unfold w_X9_undo at h
  refine lv_aload_n hx hb dX9_undo_0 rfl (lv_at hl 0 rfl) ?_
  obtain ⟨v1, e1, h⟩ := h
  refine g_getr hx hb hts inlX9 hown hK hG (by rfl) 2 (by decide) qF_X9_26 e1 dX9_undo_1 ?_
  refine lv_aload_n hx hb dX9_undo_4 rfl (lv_at hl 0 rfl) ?_
  obtain ⟨v5, e5, h⟩ := h
  refine g_getr hx hb hts inlX9 hown hK hG (by rfl) 5 (by decide) qF_X9_47 e5 dX9_undo_5 ?_
  obtain ⟨u8, o8, h⟩ := h
  refine g_wVi (As := [.ref v5]) (rest := []) (n := 1) hx hb hml hown hts hK hlo hG (m_X2_bringBack l dd cT lo G v1 v5 h) qM_X9_304 qI_yX2_bringBack qS_X2_yX2_bringBack qN_X2 qC_yX2_bringBack (by decide +kernel) ⟨Nat.le_of_ble_eq_true rfl, Nat.le_of_ble_eq_true rfl⟩ (by rfl) o8 rfl hl.1 rfl (Nat.le_of_ble_eq_true rfl) dX9_undo_8 ⟨Nat.le_of_ble_eq_true rfl, Nat.le_of_ble_eq_true rfl⟩ (fun v8 G8 H locs h hG => ?_)
  refine lv_if_eq (tgt := 24) hx hb dX9_undo_11 (by decide) (fun c11 => ?_) (fun c11 => ?_)
  · rw [if_pos c11] at h
    refine lv_iconst (v := (-1 : Int32)) hx hb dX9_undo_24 (by decide) ?_
    refine W.widen (k := 0) (n := 0) (Nat.le_of_ble_eq_true rfl) (Nat.le_of_ble_eq_true rfl) ?_
    exact g_iret hx hb hr hlocks hK hlo hG h dX9_undo_25
  · rw [if_neg c11] at h
    refine lv_aload_n hx hb dX9_undo_14 rfl (lv_at hl 0 rfl) ?_
    obtain ⟨v15, e15, h⟩ := h
    refine g_getr hx hb hts inlX9 hown hK hG (by rfl) 2 (by decide) qF_X9_26 e15 dX9_undo_15 ?_
    obtain ⟨v18, e18, h⟩ := h
    refine g_geti hx hb hts inlX2 hown hK hG (by rfl) 0 (by decide) qF_X9_161 e18 dX9_undo_18 ?_
    refine lv_goto (tgt := 25) hx hb dX9_undo_21 (by decide) ?_
    refine W.widen (k := 0) (n := 0) (Nat.le_of_ble_eq_true rfl) (Nat.le_of_ble_eq_true rfl) ?_
    exact g_iret hx hb hr hlocks hK hlo hG h dX9_undo_25
def w_X9_saveSnapshot (G : gH) (a0 : Nat) (x1 : Int32) (KX : String → gH → Prop) (K : Int32 → gH → Prop) : Prop :=
    w_X9_checkIndex G x1 (2 : Int32) KX (fun G2 =>
    ∃ v6, g_r G2 a0 9 3 = some v6 ∧
    ∃ u10, g_ob G2 v6 6 = some u10 ∧
    ∃ v10, f_X6_isStored G2 v6 x1 = some v10 ∧
    ∃ v15, g_r G2 a0 9 3 = some v15 ∧
    ∃ v20, g_r G2 a0 9 5 = some v20 ∧
    ∃ u23, g_ob G2 v15 6 = some u23 ∧
    w_X6_store G2 v15 x1 v20 (fun G23 =>
    ∃ w27, g_z v10 = some w27 ∧
    K w27 G23))
set_option maxRecDepth 20000 in
set_option maxHeartbeats 4000000 in
theorem m_X9_saveSnapshot (l : Launch) (hfl : l.stackTraces = false) (dd : va_G) (cT : Nat → ClassId) (lo : Nat) (G : gH) (a0 : Nat) (x1 : Int32) {KX : String → gH → Prop} {K : Int32 → gH → Prop} (h : w_X9_saveSnapshot G a0 x1 KX K) : vx_Met l yX9_saveSnapshot (Cond.code yX9_saveSnapshot cX9_saveSnapshot 3 (some .boolean) :: wsL_law) (g_rm 7 124 31 1643) (va_Pc [.ref a0, .int x1] (g_Pre lo dd cT G)) (va_Qi K (g_Pre lo dd cT) (g_A lo)) (g_XC lo dd cT KX) 31 1643 (g_A lo) := by
  refine g_startX RX9 rfl (by decide) (Nat.le_of_ble_eq_true rfl) ?_
  intro p e s m below meth c hx hb hr hlocks hml hnone hown hnm hts hK hG hlo ls hl
  have hl : lv_has ls 3 [(0, .ref a0), (1, .int x1)] := hl
  have hG : g_S lo dd cT s s.heap [] G := hG
  unfold w_X9_saveSnapshot at h
  refine lv_iload_n hx hb dX9_saveSnapshot_0 rfl (lv_at hl 1 rfl) ?_
  refine lv_iconst (v := (2 : Int32)) hx hb dX9_saveSnapshot_1 (by decide) ?_
  refine g_xSv (As := [.int x1, .int (2 : Int32)]) (rest := []) (n := 2) hx hb hml hown hts hK hlo hG (m_X9_checkIndex l hfl dd cT lo G x1 (2 : Int32) h) qM_X9_179 qT_yX9_checkIndex qN_X9 qC_yX9_checkIndex (by decide +kernel) ⟨Nat.le_of_ble_eq_true rfl, Nat.le_of_ble_eq_true rfl⟩ rfl hl.1 rfl (Nat.le_of_ble_eq_true rfl) dX9_saveSnapshot_2 ⟨Nat.le_of_ble_eq_true rfl, Nat.le_of_ble_eq_true rfl⟩ (fun E ce q9 G1 H locs hKX hG a1 a2 a3 => g_out hlocks hnone hG a1 a2 a3 hKX (Nat.le_of_ble_eq_true rfl) (Nat.le_of_ble_eq_true rfl)) (fun G2 H locs h hG => ?_)
  refine lv_aload_n hx hb dX9_saveSnapshot_5 rfl (lv_at hl 0 rfl) ?_
  obtain ⟨v6, e6, h⟩ := h
  refine g_getr hx hb hts inlX9 hown hK hG (by rfl) 3 (by decide) qF_X9_33 e6 dX9_saveSnapshot_6 ?_
  refine lv_iload_n hx hb dX9_saveSnapshot_9 rfl (lv_at hl 1 rfl) ?_
  obtain ⟨u10, o10, h⟩ := h
  obtain ⟨v10, e10, h⟩ := h
  refine g_cVi (As := [.int x1]) (rest := []) (n := 1) hx hb hml hown hts hK hlo hG (m_X6_isStored l dd cT lo G2 v6 x1 e10) qM_X9_308 qI_yX6_isStored qS_X6_yX6_isStored qN_X6 qC_yX6_isStored (by decide +kernel) ⟨Nat.le_of_ble_eq_true rfl, Nat.le_of_ble_eq_true rfl⟩ (by rfl) o10 rfl hl.1 rfl (Nat.le_of_ble_eq_true rfl) dX9_saveSnapshot_10 ⟨Nat.le_of_ble_eq_true rfl, Nat.le_of_ble_eq_true rfl⟩ (fun H locs hG => ?_)
  refine lv_istore_n (lv' := [(2, .int v10), (0, .ref a0), (1, .int x1)]) hx hb dX9_saveSnapshot_13 rfl hl (by decide) rfl (fun ls hl => ?_)
  refine lv_aload_n hx hb dX9_saveSnapshot_14 rfl (lv_at hl 1 rfl) ?_
  obtain ⟨v15, e15, h⟩ := h
  refine g_getr hx hb hts inlX9 hown hK hG (by rfl) 3 (by decide) qF_X9_33 e15 dX9_saveSnapshot_15 ?_
  refine lv_iload_n hx hb dX9_saveSnapshot_18 rfl (lv_at hl 2 rfl) ?_
  refine lv_aload_n hx hb dX9_saveSnapshot_19 rfl (lv_at hl 1 rfl) ?_
  obtain ⟨v20, e20, h⟩ := h
  refine g_getr hx hb hts inlX9 hown hK hG (by rfl) 5 (by decide) qF_X9_47 e20 dX9_saveSnapshot_20 ?_
  obtain ⟨u23, o23, h⟩ := h
  refine g_wVv (As := [.int x1, .ref v20]) (rest := []) (n := 2) hx hb hml hown hts hK hlo hG (m_X6_store l dd cT lo G2 v15 x1 v20 h) qM_X9_311 qI_yX6_store qS_X6_yX6_store qN_X6 qC_yX6_store (by decide +kernel) ⟨Nat.le_of_ble_eq_true rfl, Nat.le_of_ble_eq_true rfl⟩ (by rfl) o23 rfl hl.1 rfl (Nat.le_of_ble_eq_true rfl) dX9_saveSnapshot_23 ⟨Nat.le_of_ble_eq_true rfl, Nat.le_of_ble_eq_true rfl⟩ (fun G23 H locs h hG => ?_)
  refine lv_iload_n hx hb dX9_saveSnapshot_26 rfl (lv_at hl 0 rfl) ?_
  obtain ⟨w27, e27, h⟩ := h
  obtain ⟨n27, rfl⟩ := g_z_nar e27
  refine W.widen (k := 31) (n := 1643) (Nat.le_of_ble_eq_true rfl) (Nat.le_of_ble_eq_true rfl) ?_
  exact vx_ret (g_zret hx hb hr hlocks hK hlo hG n27 h dX9_saveSnapshot_27)

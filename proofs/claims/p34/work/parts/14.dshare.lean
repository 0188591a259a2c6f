/-! share over the machine. -/
set_option maxRecDepth 20000 in
set_option maxHeartbeats 4000000 in
theorem m_X9_share (l : Launch) (dd : va_G) (cT : Nat → ClassId) (lo : Nat → Prop) (G : gH) (a0 : Nat) {K : UInt64 → gH → Prop} (h : w_X9_share G a0 K) : Met l yX9_share (Cond.code yX9_share cX9_share 2 (some .double) :: wsL_law) (g_rm 8 183 0 0) (va_Pc [.ref a0] (g_Pre lo dd cT G)) (va_Qd K (g_Pre lo dd cT) (g_A lo)) 0 0 (g_A lo) := by
  refine g_start RX9 rfl (by decide) (Nat.le_of_ble_eq_true rfl) ?_
  intro p e s m below meth c hx hb hr hlocks hml hown hnm hts hK hG hlo ls hl
  have hl : lv_has ls 2 [(0, .ref a0)] := hl
  have hG : g_S lo dd cT s s.heap [] G := hG
  unfold w_X9_share at h
  obtain ⟨v1, e1, v4, e4, v7, e7, u16, o16, q16, e16, h⟩ := h
  refine lv_aload_n hx hb dX9_share_0 rfl (lv_at hl 0 rfl) ?_
  refine g_getr hx hb hts inlX9 hown hK hG (by rfl) 5 (by decide) qF_X9_47 e1 dX9_share_1 ?_
  refine g_getr hx hb hts inlX1 hown hK hG (by rfl) 0 (by decide) qF_X9_106 e4 dX9_share_4 ?_
  refine g_geti hx hb hts inlX0 hown hK hG (by rfl) 0 (by decide) qF_X9_110 e7 dX9_share_7 ?_
  refine lv_aload_n hx hb dX9_share_10 rfl (lv_at hl 0 rfl) ?_
  refine g_getr hx hb hts inlX9 hown hK hG (by rfl) 5 (by decide) qF_X9_47 e1 dX9_share_11 ?_
  refine lv_iconst (v := (-1 : Int32)) hx hb dX9_share_14 (by decide) ?_
  refine lv_iconst (v := (0 : Int32)) hx hb dX9_share_15 (by decide) ?_
  refine g_cVi (As := [.int (-1 : Int32), .int (0 : Int32)]) (rest := [.int v7]) (n := 2) hx hb hml hown hts hK hlo hG (m_X1_blocksUsed l dd cT lo G v1 (-1 : Int32) (0 : Int32) e16) qM_X9_272 qI_yX1_blocksUsed qS_X1_yX1_blocksUsed qN_X1 qC_yX1_blocksUsed (by decide +kernel) ⟨Nat.le_of_ble_eq_true rfl, Nat.le_of_ble_eq_true rfl⟩ (by rfl) o16 rfl hl.1 rfl (Nat.le_of_ble_eq_true rfl) dX9_share_16 ⟨Nat.le_of_ble_eq_true rfl, Nat.le_of_ble_eq_true rfl⟩ (fun H locs hG => ?_)
  refine lv_isub hx hb dX9_share_19 ?_
  refine lv_istore_n (lv' := [(1, .int (v7 - q16.2)), (0, .ref a0)]) hx hb dX9_share_20 rfl hl (by decide) rfl (fun ls hl => ?_)
  refine lv_iload_n hx hb dX9_share_21 rfl (lv_at hl 0 rfl) ?_
  refine lv_if_gt (tgt := 27) hx hb dX9_share_22 (by decide) (fun c9 => ?_) (fun c9 => ?_)
  · rw [if_pos c9] at h
    obtain ⟨v28, e28, u33, o33, q33, e33, hne, h⟩ := h
    refine lv_aload_n hx hb dX9_share_27 rfl (lv_at hl 1 rfl) ?_
    refine g_getr hx hb hts inlX9 hown hK hG (by rfl) 5 (by decide) qF_X9_47 e28 dX9_share_28 ?_
    refine lv_iconst (v := (-1 : Int32)) hx hb dX9_share_31 (by decide) ?_
    refine lv_iconst (v := (1 : Int32)) hx hb dX9_share_32 (by decide) ?_
    refine g_cVi (As := [.int (-1 : Int32), .int (1 : Int32)]) (rest := []) (n := 2) hx hb hml hown hts hK hlo hG (m_X1_blocksUsed l dd cT lo q16.1 v28 (-1 : Int32) (1 : Int32) e33) qM_X9_272 qI_yX1_blocksUsed qS_X1_yX1_blocksUsed qN_X1 qC_yX1_blocksUsed (by decide +kernel) ⟨Nat.le_of_ble_eq_true rfl, Nat.le_of_ble_eq_true rfl⟩ (by rfl) o33 rfl hl.1 rfl (Nat.le_of_ble_eq_true rfl) dX9_share_33 ⟨Nat.le_of_ble_eq_true rfl, Nat.le_of_ble_eq_true rfl⟩ (fun H locs hG => ?_)
    refine lv_i2d hx hb dX9_share_36 ?_
    refine lv_iload_n hx hb dX9_share_37 rfl (lv_at hl 0 rfl) ?_
    refine lv_i2d hx hb dX9_share_38 ?_
    refine lv_ddiv hx hb dX9_share_39 hne ?_
    exact g_dret hx hb hr hlocks hK hlo hG h dX9_share_40
  · rw [if_neg c9] at h
    refine lv_dconst1 hx hb dX9_share_25 ?_
    exact g_dret hx hb hr hlocks hK hlo hG h dX9_share_26

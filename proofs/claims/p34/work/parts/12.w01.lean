/-! What makes cells or throws: by program (wip/whole/tools/wlift.py). -/
theorem g_inIAE : ∀ w ∈ (vx_atS RX9 334 g_xIAE g_xup).filter goodWord, w ∈ wsL_law := fun w h => List.mem_append_left _ (List.mem_append_left _ (List.mem_append_right _ h))
theorem g_inIOB : ∀ w ∈ (vx_atS RX9 329 g_xIOB g_xup).filter goodWord, w ∈ wsL_law := fun w h => List.mem_append_left _ (List.mem_append_right _ h)
theorem g_inISE : ∀ w ∈ (vx_atS RX9 319 g_xISE g_xup).filter goodWord, w ∈ wsL_law := fun w h => List.mem_append_right _ h
set_option maxRecDepth 20000 in
set_option maxHeartbeats 4000000 in
theorem m_X0_init (l : Launch) (dd : va_G) (cT : Nat → ClassId) (lo : Nat → Prop) (G : gH) (a0 : Nat) {K : gH → Prop} (h : w_X0_init G a0 K) : Met l yX0_init (Cond.code yX0_init cX0_init 1 none :: wsL_law) (g_rm 1 40 8 768) (va_Pc [.ref a0] (g_Pre lo dd cT G)) (va_Qv K (g_Pre lo dd cT) (g_A lo)) 8 768 (g_A lo) := by
  refine g_start RX0 rfl (by decide) (Nat.le_of_ble_eq_true rfl) ?_
  intro p e s m below meth c hx hb hr hlocks hml hown hnm hts hK hG hlo ls hl
  have hl : lv_has ls 1 [(0, .ref a0)] := hl
  have hG : g_S lo dd cT s s.heap [] G := hG
  unfold w_X0_init at h
  refine lv_aload_n hx hb dX0_init_0 rfl (lv_at hl 0 rfl) ?_
  refine W.objInit hx hb hown (hts _ qM_X0_3) (hts _ qI_objectInit) (hts _ qC_objectInit) rfl (hl.1.trans hml.symm) rfl dX0_init_1 (Nat.le_of_ble_eq_true rfl) (Nat.le_of_ble_eq_true rfl) ?_
  refine lv_aload_n hx hb dX0_init_4 rfl (lv_at hl 0 rfl) ?_
  refine lv_iconst (v := (0 : Int32)) hx hb dX0_init_5 (by decide) ?_
  obtain ⟨G6, i6, h⟩ := h
  refine g_putv hx hb hts inlX0 tyX0 tyX0_ok nmX0 hown hK hG (by rfl) 0 (by decide) qF_X0_9 rfl rfl rfl rfl i6 dX0_init_6 (fun H locs hG => ?_)
  refine lv_aload_n hx hb dX0_init_9 rfl (lv_at hl 0 rfl) ?_
  refine lv_iconst (v := (0 : Int32)) hx hb dX0_init_10 (by decide) ?_
  obtain ⟨G11, i11, h⟩ := h
  refine g_putv hx hb hts inlX0 tyX0 tyX0_ok nmX0 hown hK hG (by rfl) 1 (by decide) qF_X0_15 rfl rfl rfl rfl i11 dX0_init_11 (fun H locs hG => ?_)
  refine lv_aload_n hx hb dX0_init_14 rfl (lv_at hl 0 rfl) ?_
  refine lv_iconst (v := (0 : Int32)) hx hb dX0_init_15 (by decide) ?_
  obtain ⟨G16, i16, h⟩ := h
  refine g_putv hx hb hts inlX0 tyX0 tyX0_ok nmX0 hown hK hG (by rfl) 2 (by decide) qF_X0_18 rfl rfl rfl rfl i16 dX0_init_16 (fun H locs hG => ?_)
  refine lv_aload_n hx hb dX0_init_19 rfl (lv_at hl 0 rfl) ?_
  refine lv_bipush (v := (96 : Int32)) hx hb dX0_init_20 (by decide) ?_
  refine g_newai (N := 96) hx hb hts hK hlo hG (by decide) (by decide) (Nat.le_of_ble_eq_true rfl) ⟨Nat.le_of_ble_eq_true rfl, Nat.le_of_ble_eq_true rfl⟩ dX0_init_22 (fun q22 H z22 hG => ?_)
  obtain ⟨G22, i22⟩ : ∃ g : gH, g = va_up G16 q22 (some (.inl (0, 96, fun _ => 0))) := ⟨_, rfl⟩
  rw [← i22] at hG
  replace h := h q22 z22 G22 i22
  obtain ⟨G24, i24, h⟩ := h
  refine g_putvF hx hb hts inlX0 tyX0 tyX0_ok nmX0 hown hK hG (by rfl) 3 (by decide) qF_X0_21 rfl hnm rfl rfl rfl rfl i24 dX0_init_24 (fun H locs hG => ?_)
  refine lv_aload_n hx hb dX0_init_27 rfl (lv_at hl 0 rfl) ?_
  refine lv_bipush (v := (96 : Int32)) hx hb dX0_init_28 (by decide) ?_
  refine g_newaz (N := 96) hx hb hts hK hlo hG (by decide) (by decide) (Nat.le_of_ble_eq_true rfl) ⟨Nat.le_of_ble_eq_true rfl, Nat.le_of_ble_eq_true rfl⟩ dX0_init_30 (fun q30 H z30 hG => ?_)
  obtain ⟨G30, i30⟩ : ∃ g : gH, g = va_up G24 q30 (some (.inl (1, 96, fun _ => 0))) := ⟨_, rfl⟩
  rw [← i30] at hG
  replace h := h q30 z30 G30 i30
  obtain ⟨G32, i32, h⟩ := h
  refine g_putvF hx hb hts inlX0 tyX0 tyX0_ok nmX0 hown hK hG (by rfl) 4 (by decide) qF_X0_25 rfl hnm rfl rfl rfl rfl i32 dX0_init_32 (fun H locs hG => ?_)
  refine lv_aload_n hx hb dX0_init_35 rfl (lv_at hl 0 rfl) ?_
  refine lv_bipush (v := (96 : Int32)) hx hb dX0_init_36 (by decide) ?_
  refine g_newaz (N := 96) hx hb hts hK hlo hG (by decide) (by decide) (Nat.le_of_ble_eq_true rfl) ⟨Nat.le_of_ble_eq_true rfl, Nat.le_of_ble_eq_true rfl⟩ dX0_init_38 (fun q38 H z38 hG => ?_)
  obtain ⟨G38, i38⟩ : ∃ g : gH, g = va_up G32 q38 (some (.inl (1, 96, fun _ => 0))) := ⟨_, rfl⟩
  rw [← i38] at hG
  replace h := h q38 z38 G38 i38
  obtain ⟨G40, i40, h⟩ := h
  refine g_putvF hx hb hts inlX0 tyX0 tyX0_ok nmX0 hown hK hG (by rfl) 5 (by decide) qF_X0_29 rfl hnm rfl rfl rfl rfl i40 dX0_init_40 (fun H locs hG => ?_)
  refine lv_aload_n hx hb dX0_init_43 rfl (lv_at hl 0 rfl) ?_
  refine lv_bipush (v := (96 : Int32)) hx hb dX0_init_44 (by decide) ?_
  refine g_newai (N := 96) hx hb hts hK hlo hG (by decide) (by decide) (Nat.le_of_ble_eq_true rfl) ⟨Nat.le_of_ble_eq_true rfl, Nat.le_of_ble_eq_true rfl⟩ dX0_init_46 (fun q46 H z46 hG => ?_)
  obtain ⟨G46, i46⟩ : ∃ g : gH, g = va_up G40 q46 (some (.inl (0, 96, fun _ => 0))) := ⟨_, rfl⟩
  rw [← i46] at hG
  replace h := h q46 z46 G46 i46
  obtain ⟨G48, i48, h⟩ := h
  refine g_putvF hx hb hts inlX0 tyX0 tyX0_ok nmX0 hown hK hG (by rfl) 6 (by decide) qF_X0_32 rfl hnm rfl rfl rfl rfl i48 dX0_init_48 (fun H locs hG => ?_)
  refine lv_aload_n hx hb dX0_init_51 rfl (lv_at hl 0 rfl) ?_
  refine lv_bipush (v := (96 : Int32)) hx hb dX0_init_52 (by decide) ?_
  refine g_newai (N := 96) hx hb hts hK hlo hG (by decide) (by decide) (Nat.le_of_ble_eq_true rfl) ⟨Nat.le_of_ble_eq_true rfl, Nat.le_of_ble_eq_true rfl⟩ dX0_init_54 (fun q54 H z54 hG => ?_)
  obtain ⟨G54, i54⟩ : ∃ g : gH, g = va_up G48 q54 (some (.inl (0, 96, fun _ => 0))) := ⟨_, rfl⟩
  rw [← i54] at hG
  replace h := h q54 z54 G54 i54
  obtain ⟨G56, i56, h⟩ := h
  refine g_putvF hx hb hts inlX0 tyX0 tyX0_ok nmX0 hown hK hG (by rfl) 7 (by decide) qF_X0_35 rfl hnm rfl rfl rfl rfl i56 dX0_init_56 (fun H locs hG => ?_)
  refine lv_aload_n hx hb dX0_init_59 rfl (lv_at hl 0 rfl) ?_
  refine lv_bipush (v := (96 : Int32)) hx hb dX0_init_60 (by decide) ?_
  refine g_newai (N := 96) hx hb hts hK hlo hG (by decide) (by decide) (Nat.le_of_ble_eq_true rfl) ⟨Nat.le_of_ble_eq_true rfl, Nat.le_of_ble_eq_true rfl⟩ dX0_init_62 (fun q62 H z62 hG => ?_)
  obtain ⟨G62, i62⟩ : ∃ g : gH, g = va_up G56 q62 (some (.inl (0, 96, fun _ => 0))) := ⟨_, rfl⟩
  rw [← i62] at hG
  replace h := h q62 z62 G62 i62
  obtain ⟨G64, i64, h⟩ := h
  refine g_putvF hx hb hts inlX0 tyX0 tyX0_ok nmX0 hown hK hG (by rfl) 8 (by decide) qF_X0_38 rfl hnm rfl rfl rfl rfl i64 dX0_init_64 (fun H locs hG => ?_)
  refine lv_aload_n hx hb dX0_init_67 rfl (lv_at hl 0 rfl) ?_
  refine lv_bipush (v := (96 : Int32)) hx hb dX0_init_68 (by decide) ?_
  refine g_newai (N := 96) hx hb hts hK hlo hG (by decide) (by decide) (Nat.le_of_ble_eq_true rfl) ⟨Nat.le_of_ble_eq_true rfl, Nat.le_of_ble_eq_true rfl⟩ dX0_init_70 (fun q70 H z70 hG => ?_)
  obtain ⟨G70, i70⟩ : ∃ g : gH, g = va_up G64 q70 (some (.inl (0, 96, fun _ => 0))) := ⟨_, rfl⟩
  rw [← i70] at hG
  replace h := h q70 z70 G70 i70
  obtain ⟨G72, i72, h⟩ := h
  refine g_putvF hx hb hts inlX0 tyX0 tyX0_ok nmX0 hown hK hG (by rfl) 9 (by decide) qF_X0_41 rfl hnm rfl rfl rfl rfl i72 dX0_init_72 (fun H locs hG => ?_)
  refine lv_aload_n hx hb dX0_init_75 rfl (lv_at hl 0 rfl) ?_
  refine lv_bipush (v := (96 : Int32)) hx hb dX0_init_76 (by decide) ?_
  refine g_newai (N := 96) hx hb hts hK hlo hG (by decide) (by decide) (Nat.le_of_ble_eq_true rfl) ⟨Nat.le_of_ble_eq_true rfl, Nat.le_of_ble_eq_true rfl⟩ dX0_init_78 (fun q78 H z78 hG => ?_)
  obtain ⟨G78, i78⟩ : ∃ g : gH, g = va_up G72 q78 (some (.inl (0, 96, fun _ => 0))) := ⟨_, rfl⟩
  rw [← i78] at hG
  replace h := h q78 z78 G78 i78
  obtain ⟨G80, i80, h⟩ := h
  refine g_putvF hx hb hts inlX0 tyX0 tyX0_ok nmX0 hown hK hG (by rfl) 10 (by decide) qF_X0_44 rfl hnm rfl rfl rfl rfl i80 dX0_init_80 (fun H locs hG => ?_)
  refine W.widen (k := 8) (n := 768) (Nat.le_of_ble_eq_true rfl) (Nat.le_of_ble_eq_true rfl) ?_
  exact g_vret hx hb hr hlocks hK hlo hG h dX0_init_83
set_option maxRecDepth 20000 in
set_option maxHeartbeats 4000000 in
theorem m_X7_init (l : Launch) (dd : va_G) (cT : Nat → ClassId) (lo : Nat → Prop) (G : gH) (a0 : Nat) {K : gH → Prop} (h : w_X7_init G a0 K) : Met l yX7_init (Cond.code yX7_init cX7_init 1 none :: wsL_law) (g_rm 1 40 5 480) (va_Pc [.ref a0] (g_Pre lo dd cT G)) (va_Qv K (g_Pre lo dd cT) (g_A lo)) 5 480 (g_A lo) := by
  refine g_start RX7 rfl (by decide) (Nat.le_of_ble_eq_true rfl) ?_
  intro p e s m below meth c hx hb hr hlocks hml hown hnm hts hK hG hlo ls hl
  have hl : lv_has ls 1 [(0, .ref a0)] := hl
  have hG : g_S lo dd cT s s.heap [] G := hG
  unfold w_X7_init at h
  refine lv_aload_n hx hb dX7_init_0 rfl (lv_at hl 0 rfl) ?_
  refine W.objInit hx hb hown (hts _ qM_X7_3) (hts _ qI_objectInit) (hts _ qC_objectInit) rfl (hl.1.trans hml.symm) rfl dX7_init_1 (Nat.le_of_ble_eq_true rfl) (Nat.le_of_ble_eq_true rfl) ?_
  refine lv_aload_n hx hb dX7_init_4 rfl (lv_at hl 0 rfl) ?_
  refine lv_iconst (v := (0 : Int32)) hx hb dX7_init_5 (by decide) ?_
  obtain ⟨G6, i6, h⟩ := h
  refine g_putv hx hb hts inlX7 tyX7 tyX7_ok nmX7 hown hK hG (by rfl) 0 (by decide) qF_X7_9 rfl rfl rfl rfl i6 dX7_init_6 (fun H locs hG => ?_)
  refine lv_aload_n hx hb dX7_init_9 rfl (lv_at hl 0 rfl) ?_
  refine lv_bipush (v := (96 : Int32)) hx hb dX7_init_10 (by decide) ?_
  refine g_newai (N := 96) hx hb hts hK hlo hG (by decide) (by decide) (Nat.le_of_ble_eq_true rfl) ⟨Nat.le_of_ble_eq_true rfl, Nat.le_of_ble_eq_true rfl⟩ dX7_init_12 (fun q12 H z12 hG => ?_)
  obtain ⟨G12, i12⟩ : ∃ g : gH, g = va_up G6 q12 (some (.inl (0, 96, fun _ => 0))) := ⟨_, rfl⟩
  rw [← i12] at hG
  replace h := h q12 z12 G12 i12
  obtain ⟨G14, i14, h⟩ := h
  refine g_putvF hx hb hts inlX7 tyX7 tyX7_ok nmX7 hown hK hG (by rfl) 1 (by decide) qF_X7_15 rfl hnm rfl rfl rfl rfl i14 dX7_init_14 (fun H locs hG => ?_)
  refine lv_aload_n hx hb dX7_init_17 rfl (lv_at hl 0 rfl) ?_
  refine lv_bipush (v := (96 : Int32)) hx hb dX7_init_18 (by decide) ?_
  refine g_newai (N := 96) hx hb hts hK hlo hG (by decide) (by decide) (Nat.le_of_ble_eq_true rfl) ⟨Nat.le_of_ble_eq_true rfl, Nat.le_of_ble_eq_true rfl⟩ dX7_init_20 (fun q20 H z20 hG => ?_)
  obtain ⟨G20, i20⟩ : ∃ g : gH, g = va_up G14 q20 (some (.inl (0, 96, fun _ => 0))) := ⟨_, rfl⟩
  rw [← i20] at hG
  replace h := h q20 z20 G20 i20
  obtain ⟨G22, i22, h⟩ := h
  refine g_putvF hx hb hts inlX7 tyX7 tyX7_ok nmX7 hown hK hG (by rfl) 2 (by decide) qF_X7_19 rfl hnm rfl rfl rfl rfl i22 dX7_init_22 (fun H locs hG => ?_)
  refine lv_aload_n hx hb dX7_init_25 rfl (lv_at hl 0 rfl) ?_
  refine lv_bipush (v := (96 : Int32)) hx hb dX7_init_26 (by decide) ?_
  refine g_newai (N := 96) hx hb hts hK hlo hG (by decide) (by decide) (Nat.le_of_ble_eq_true rfl) ⟨Nat.le_of_ble_eq_true rfl, Nat.le_of_ble_eq_true rfl⟩ dX7_init_28 (fun q28 H z28 hG => ?_)
  obtain ⟨G28, i28⟩ : ∃ g : gH, g = va_up G22 q28 (some (.inl (0, 96, fun _ => 0))) := ⟨_, rfl⟩
  rw [← i28] at hG
  replace h := h q28 z28 G28 i28
  obtain ⟨G30, i30, h⟩ := h
  refine g_putvF hx hb hts inlX7 tyX7 tyX7_ok nmX7 hown hK hG (by rfl) 3 (by decide) qF_X7_22 rfl hnm rfl rfl rfl rfl i30 dX7_init_30 (fun H locs hG => ?_)
  refine lv_aload_n hx hb dX7_init_33 rfl (lv_at hl 0 rfl) ?_
  refine lv_bipush (v := (96 : Int32)) hx hb dX7_init_34 (by decide) ?_
  refine g_newai (N := 96) hx hb hts hK hlo hG (by decide) (by decide) (Nat.le_of_ble_eq_true rfl) ⟨Nat.le_of_ble_eq_true rfl, Nat.le_of_ble_eq_true rfl⟩ dX7_init_36 (fun q36 H z36 hG => ?_)
  obtain ⟨G36, i36⟩ : ∃ g : gH, g = va_up G30 q36 (some (.inl (0, 96, fun _ => 0))) := ⟨_, rfl⟩
  rw [← i36] at hG
  replace h := h q36 z36 G36 i36
  obtain ⟨G38, i38, h⟩ := h
  refine g_putvF hx hb hts inlX7 tyX7 tyX7_ok nmX7 hown hK hG (by rfl) 4 (by decide) qF_X7_25 rfl hnm rfl rfl rfl rfl i38 dX7_init_38 (fun H locs hG => ?_)
  refine lv_aload_n hx hb dX7_init_41 rfl (lv_at hl 0 rfl) ?_
  refine lv_bipush (v := (96 : Int32)) hx hb dX7_init_42 (by decide) ?_
  refine g_newai (N := 96) hx hb hts hK hlo hG (by decide) (by decide) (Nat.le_of_ble_eq_true rfl) ⟨Nat.le_of_ble_eq_true rfl, Nat.le_of_ble_eq_true rfl⟩ dX7_init_44 (fun q44 H z44 hG => ?_)
  obtain ⟨G44, i44⟩ : ∃ g : gH, g = va_up G38 q44 (some (.inl (0, 96, fun _ => 0))) := ⟨_, rfl⟩
  rw [← i44] at hG
  replace h := h q44 z44 G44 i44
  obtain ⟨G46, i46, h⟩ := h
  refine g_putvF hx hb hts inlX7 tyX7 tyX7_ok nmX7 hown hK hG (by rfl) 5 (by decide) qF_X7_28 rfl hnm rfl rfl rfl rfl i46 dX7_init_46 (fun H locs hG => ?_)
  refine W.widen (k := 5) (n := 480) (Nat.le_of_ble_eq_true rfl) (Nat.le_of_ble_eq_true rfl) ?_
  exact g_vret hx hb hr hlocks hK hlo hG h dX7_init_49
set_option maxRecDepth 20000 in
set_option maxHeartbeats 4000000 in
theorem m_X5_init (l : Launch) (dd : va_G) (cT : Nat → ClassId) (lo : Nat → Prop) (G : gH) (a0 : Nat) {K : gH → Prop} (h : w_X5_init G a0 K) : Met l yX5_init (Cond.code yX5_init cX5_init 1 none :: wsL_law) (g_rm 1 40 7 300) (va_Pc [.ref a0] (g_Pre lo dd cT G)) (va_Qv K (g_Pre lo dd cT) (g_A lo)) 7 300 (g_A lo) := by
  refine g_start RX5 rfl (by decide) (Nat.le_of_ble_eq_true rfl) ?_
  intro p e s m below meth c hx hb hr hlocks hml hown hnm hts hK hG hlo ls hl
  have hl : lv_has ls 1 [(0, .ref a0)] := hl
  have hG : g_S lo dd cT s s.heap [] G := hG
  unfold w_X5_init at h
  refine lv_aload_n hx hb dX5_init_0 rfl (lv_at hl 0 rfl) ?_
  refine W.objInit hx hb hown (hts _ qM_X5_3) (hts _ qI_objectInit) (hts _ qC_objectInit) rfl (hl.1.trans hml.symm) rfl dX5_init_1 (Nat.le_of_ble_eq_true rfl) (Nat.le_of_ble_eq_true rfl) ?_
  refine lv_aload_n hx hb dX5_init_4 rfl (lv_at hl 0 rfl) ?_
  refine lv_iconst (v := (0 : Int32)) hx hb dX5_init_5 (by decide) ?_
  obtain ⟨G6, i6, h⟩ := h
  refine g_putv hx hb hts inlX5 tyX5 tyX5_ok nmX5 hown hK hG (by rfl) 0 (by decide) qF_X5_9 rfl rfl rfl rfl i6 dX5_init_6 (fun H locs hG => ?_)
  refine lv_aload_n hx hb dX5_init_9 rfl (lv_at hl 0 rfl) ?_
  refine lv_bipush (v := (12 : Int32)) hx hb dX5_init_10 (by decide) ?_
  refine g_newai (N := 12) hx hb hts hK hlo hG (by decide) (by decide) (Nat.le_of_ble_eq_true rfl) ⟨Nat.le_of_ble_eq_true rfl, Nat.le_of_ble_eq_true rfl⟩ dX5_init_12 (fun q12 H z12 hG => ?_)
  obtain ⟨G12, i12⟩ : ∃ g : gH, g = va_up G6 q12 (some (.inl (0, 12, fun _ => 0))) := ⟨_, rfl⟩
  rw [← i12] at hG
  replace h := h q12 z12 G12 i12
  obtain ⟨G14, i14, h⟩ := h
  refine g_putvF hx hb hts inlX5 tyX5 tyX5_ok nmX5 hown hK hG (by rfl) 1 (by decide) qF_X5_15 rfl hnm rfl rfl rfl rfl i14 dX5_init_14 (fun H locs hG => ?_)
  refine lv_aload_n hx hb dX5_init_17 rfl (lv_at hl 0 rfl) ?_
  refine lv_bipush (v := (12 : Int32)) hx hb dX5_init_18 (by decide) ?_
  refine g_newai (N := 12) hx hb hts hK hlo hG (by decide) (by decide) (Nat.le_of_ble_eq_true rfl) ⟨Nat.le_of_ble_eq_true rfl, Nat.le_of_ble_eq_true rfl⟩ dX5_init_20 (fun q20 H z20 hG => ?_)
  obtain ⟨G20, i20⟩ : ∃ g : gH, g = va_up G14 q20 (some (.inl (0, 12, fun _ => 0))) := ⟨_, rfl⟩
  rw [← i20] at hG
  replace h := h q20 z20 G20 i20
  obtain ⟨G22, i22, h⟩ := h
  refine g_putvF hx hb hts inlX5 tyX5 tyX5_ok nmX5 hown hK hG (by rfl) 2 (by decide) qF_X5_19 rfl hnm rfl rfl rfl rfl i22 dX5_init_22 (fun H locs hG => ?_)
  refine lv_aload_n hx hb dX5_init_25 rfl (lv_at hl 0 rfl) ?_
  refine lv_bipush (v := (12 : Int32)) hx hb dX5_init_26 (by decide) ?_
  refine g_newai (N := 12) hx hb hts hK hlo hG (by decide) (by decide) (Nat.le_of_ble_eq_true rfl) ⟨Nat.le_of_ble_eq_true rfl, Nat.le_of_ble_eq_true rfl⟩ dX5_init_28 (fun q28 H z28 hG => ?_)
  obtain ⟨G28, i28⟩ : ∃ g : gH, g = va_up G22 q28 (some (.inl (0, 12, fun _ => 0))) := ⟨_, rfl⟩
  rw [← i28] at hG
  replace h := h q28 z28 G28 i28
  obtain ⟨G30, i30, h⟩ := h
  refine g_putvF hx hb hts inlX5 tyX5 tyX5_ok nmX5 hown hK hG (by rfl) 3 (by decide) qF_X5_22 rfl hnm rfl rfl rfl rfl i30 dX5_init_30 (fun H locs hG => ?_)
  refine lv_aload_n hx hb dX5_init_33 rfl (lv_at hl 0 rfl) ?_
  refine lv_bipush (v := (12 : Int32)) hx hb dX5_init_34 (by decide) ?_
  refine g_newai (N := 12) hx hb hts hK hlo hG (by decide) (by decide) (Nat.le_of_ble_eq_true rfl) ⟨Nat.le_of_ble_eq_true rfl, Nat.le_of_ble_eq_true rfl⟩ dX5_init_36 (fun q36 H z36 hG => ?_)
  obtain ⟨G36, i36⟩ : ∃ g : gH, g = va_up G30 q36 (some (.inl (0, 12, fun _ => 0))) := ⟨_, rfl⟩
  rw [← i36] at hG
  replace h := h q36 z36 G36 i36
  obtain ⟨G38, i38, h⟩ := h
  refine g_putvF hx hb hts inlX5 tyX5 tyX5_ok nmX5 hown hK hG (by rfl) 4 (by decide) qF_X5_25 rfl hnm rfl rfl rfl rfl i38 dX5_init_38 (fun H locs hG => ?_)
  refine lv_aload_n hx hb dX5_init_41 rfl (lv_at hl 0 rfl) ?_
  refine lv_bipush (v := (12 : Int32)) hx hb dX5_init_42 (by decide) ?_
  refine g_newai (N := 12) hx hb hts hK hlo hG (by decide) (by decide) (Nat.le_of_ble_eq_true rfl) ⟨Nat.le_of_ble_eq_true rfl, Nat.le_of_ble_eq_true rfl⟩ dX5_init_44 (fun q44 H z44 hG => ?_)
  obtain ⟨G44, i44⟩ : ∃ g : gH, g = va_up G38 q44 (some (.inl (0, 12, fun _ => 0))) := ⟨_, rfl⟩
  rw [← i44] at hG
  replace h := h q44 z44 G44 i44
  obtain ⟨G46, i46, h⟩ := h
  refine g_putvF hx hb hts inlX5 tyX5 tyX5_ok nmX5 hown hK hG (by rfl) 5 (by decide) qF_X5_28 rfl hnm rfl rfl rfl rfl i46 dX5_init_46 (fun H locs hG => ?_)
  refine lv_aload_n hx hb dX5_init_49 rfl (lv_at hl 0 rfl) ?_
  refine lv_bipush (v := (120 : Int32)) hx hb dX5_init_50 (by decide) ?_
  refine g_newai (N := 120) hx hb hts hK hlo hG (by decide) (by decide) (Nat.le_of_ble_eq_true rfl) ⟨Nat.le_of_ble_eq_true rfl, Nat.le_of_ble_eq_true rfl⟩ dX5_init_52 (fun q52 H z52 hG => ?_)
  obtain ⟨G52, i52⟩ : ∃ g : gH, g = va_up G46 q52 (some (.inl (0, 120, fun _ => 0))) := ⟨_, rfl⟩
  rw [← i52] at hG
  replace h := h q52 z52 G52 i52
  obtain ⟨G54, i54, h⟩ := h
  refine g_putvF hx hb hts inlX5 tyX5 tyX5_ok nmX5 hown hK hG (by rfl) 6 (by decide) qF_X5_31 rfl hnm rfl rfl rfl rfl i54 dX5_init_54 (fun H locs hG => ?_)
  refine lv_aload_n hx hb dX5_init_57 rfl (lv_at hl 0 rfl) ?_
  refine lv_bipush (v := (120 : Int32)) hx hb dX5_init_58 (by decide) ?_
  refine g_newai (N := 120) hx hb hts hK hlo hG (by decide) (by decide) (Nat.le_of_ble_eq_true rfl) ⟨Nat.le_of_ble_eq_true rfl, Nat.le_of_ble_eq_true rfl⟩ dX5_init_60 (fun q60 H z60 hG => ?_)
  obtain ⟨G60, i60⟩ : ∃ g : gH, g = va_up G54 q60 (some (.inl (0, 120, fun _ => 0))) := ⟨_, rfl⟩
  rw [← i60] at hG
  replace h := h q60 z60 G60 i60
  obtain ⟨G62, i62, h⟩ := h
  refine g_putvF hx hb hts inlX5 tyX5 tyX5_ok nmX5 hown hK hG (by rfl) 7 (by decide) qF_X5_34 rfl hnm rfl rfl rfl rfl i62 dX5_init_62 (fun H locs hG => ?_)
  refine W.widen (k := 7) (n := 300) (Nat.le_of_ble_eq_true rfl) (Nat.le_of_ble_eq_true rfl) ?_
  exact g_vret hx hb hr hlocks hK hlo hG h dX5_init_65
set_option maxRecDepth 20000 in
set_option maxHeartbeats 4000000 in
theorem m_X8_init (l : Launch) (dd : va_G) (cT : Nat → ClassId) (lo : Nat → Prop) (G : gH) (a0 : Nat) {K : gH → Prop} (h : w_X8_init G a0 K) : Met l yX8_init (Cond.code yX8_init cX8_init 1 none :: wsL_law) (g_rm 1 40 4 42) (va_Pc [.ref a0] (g_Pre lo dd cT G)) (va_Qv K (g_Pre lo dd cT) (g_A lo)) 4 42 (g_A lo) := by
  refine g_start RX8 rfl (by decide) (Nat.le_of_ble_eq_true rfl) ?_
  intro p e s m below meth c hx hb hr hlocks hml hown hnm hts hK hG hlo ls hl
  have hl : lv_has ls 1 [(0, .ref a0)] := hl
  have hG : g_S lo dd cT s s.heap [] G := hG
  unfold w_X8_init at h
  refine lv_aload_n hx hb dX8_init_0 rfl (lv_at hl 0 rfl) ?_
  refine W.objInit hx hb hown (hts _ qM_X8_3) (hts _ qI_objectInit) (hts _ qC_objectInit) rfl (hl.1.trans hml.symm) rfl dX8_init_1 (Nat.le_of_ble_eq_true rfl) (Nat.le_of_ble_eq_true rfl) ?_
  refine lv_aload_n hx hb dX8_init_4 rfl (lv_at hl 0 rfl) ?_
  refine lv_iconst (v := (0 : Int32)) hx hb dX8_init_5 (by decide) ?_
  obtain ⟨G6, i6, h⟩ := h
  refine g_putv hx hb hts inlX8 tyX8 tyX8_ok nmX8 hown hK hG (by rfl) 0 (by decide) qF_X8_9 rfl rfl rfl rfl i6 dX8_init_6 (fun H locs hG => ?_)
  refine lv_aload_n hx hb dX8_init_9 rfl (lv_at hl 0 rfl) ?_
  refine lv_bipush (v := (12 : Int32)) hx hb dX8_init_10 (by decide) ?_
  refine g_newaz (N := 12) hx hb hts hK hlo hG (by decide) (by decide) (Nat.le_of_ble_eq_true rfl) ⟨Nat.le_of_ble_eq_true rfl, Nat.le_of_ble_eq_true rfl⟩ dX8_init_12 (fun q12 H z12 hG => ?_)
  obtain ⟨G12, i12⟩ : ∃ g : gH, g = va_up G6 q12 (some (.inl (1, 12, fun _ => 0))) := ⟨_, rfl⟩
  rw [← i12] at hG
  replace h := h q12 z12 G12 i12
  obtain ⟨G14, i14, h⟩ := h
  refine g_putvF hx hb hts inlX8 tyX8 tyX8_ok nmX8 hown hK hG (by rfl) 1 (by decide) qF_X8_15 rfl hnm rfl rfl rfl rfl i14 dX8_init_14 (fun H locs hG => ?_)
  refine lv_aload_n hx hb dX8_init_17 rfl (lv_at hl 0 rfl) ?_
  refine lv_bipush (v := (10 : Int32)) hx hb dX8_init_18 (by decide) ?_
  refine g_newai (N := 10) hx hb hts hK hlo hG (by decide) (by decide) (Nat.le_of_ble_eq_true rfl) ⟨Nat.le_of_ble_eq_true rfl, Nat.le_of_ble_eq_true rfl⟩ dX8_init_20 (fun q20 H z20 hG => ?_)
  obtain ⟨G20, i20⟩ : ∃ g : gH, g = va_up G14 q20 (some (.inl (0, 10, fun _ => 0))) := ⟨_, rfl⟩
  rw [← i20] at hG
  replace h := h q20 z20 G20 i20
  obtain ⟨G22, i22, h⟩ := h
  refine g_putvF hx hb hts inlX8 tyX8 tyX8_ok nmX8 hown hK hG (by rfl) 2 (by decide) qF_X8_19 rfl hnm rfl rfl rfl rfl i22 dX8_init_22 (fun H locs hG => ?_)
  refine lv_aload_n hx hb dX8_init_25 rfl (lv_at hl 0 rfl) ?_
  refine lv_bipush (v := (10 : Int32)) hx hb dX8_init_26 (by decide) ?_
  refine g_newai (N := 10) hx hb hts hK hlo hG (by decide) (by decide) (Nat.le_of_ble_eq_true rfl) ⟨Nat.le_of_ble_eq_true rfl, Nat.le_of_ble_eq_true rfl⟩ dX8_init_28 (fun q28 H z28 hG => ?_)
  obtain ⟨G28, i28⟩ : ∃ g : gH, g = va_up G22 q28 (some (.inl (0, 10, fun _ => 0))) := ⟨_, rfl⟩
  rw [← i28] at hG
  replace h := h q28 z28 G28 i28
  obtain ⟨G30, i30, h⟩ := h
  refine g_putvF hx hb hts inlX8 tyX8 tyX8_ok nmX8 hown hK hG (by rfl) 3 (by decide) qF_X8_23 rfl hnm rfl rfl rfl rfl i30 dX8_init_30 (fun H locs hG => ?_)
  refine lv_aload_n hx hb dX8_init_33 rfl (lv_at hl 0 rfl) ?_
  refine lv_bipush (v := (10 : Int32)) hx hb dX8_init_34 (by decide) ?_
  refine g_newaz (N := 10) hx hb hts hK hlo hG (by decide) (by decide) (Nat.le_of_ble_eq_true rfl) ⟨Nat.le_of_ble_eq_true rfl, Nat.le_of_ble_eq_true rfl⟩ dX8_init_36 (fun q36 H z36 hG => ?_)
  obtain ⟨G36, i36⟩ : ∃ g : gH, g = va_up G30 q36 (some (.inl (1, 10, fun _ => 0))) := ⟨_, rfl⟩
  rw [← i36] at hG
  replace h := h q36 z36 G36 i36
  obtain ⟨G38, i38, h⟩ := h
  refine g_putvF hx hb hts inlX8 tyX8 tyX8_ok nmX8 hown hK hG (by rfl) 4 (by decide) qF_X8_26 rfl hnm rfl rfl rfl rfl i38 dX8_init_38 (fun H locs hG => ?_)
  refine W.widen (k := 4) (n := 42) (Nat.le_of_ble_eq_true rfl) (Nat.le_of_ble_eq_true rfl) ?_
  exact g_vret hx hb hr hlocks hK hlo hG h dX8_init_41
set_option maxRecDepth 20000 in
set_option maxHeartbeats 4000000 in
theorem m_X1_init (l : Launch) (dd : va_G) (cT : Nat → ClassId) (lo : Nat → Prop) (G : gH) (a0 : Nat) {K : gH → Prop} (h : w_X1_init G a0 K) : Met l yX1_init (Cond.code yX1_init cX1_init 1 none :: wsL_law) (g_rm 2 60 29 1630) (va_Pc [.ref a0] (g_Pre lo dd cT G)) (va_Qv K (g_Pre lo dd cT) (g_A lo)) 29 1630 (g_A lo) := by
  refine g_start RX1 rfl (by decide) (Nat.le_of_ble_eq_true rfl) ?_
  intro p e s m below meth c hx hb hr hlocks hml hown hnm hts hK hG hlo ls hl
  have hl : lv_has ls 1 [(0, .ref a0)] := hl
  have hG : g_S lo dd cT s s.heap [] G := hG
  unfold w_X1_init at h
  refine lv_aload_n hx hb dX1_init_0 rfl (lv_at hl 0 rfl) ?_
  refine W.objInit hx hb hown (hts _ qM_X1_3) (hts _ qI_objectInit) (hts _ qC_objectInit) rfl (hl.1.trans hml.symm) rfl dX1_init_1 (Nat.le_of_ble_eq_true rfl) (Nat.le_of_ble_eq_true rfl) ?_
  refine lv_aload_n hx hb dX1_init_4 rfl (lv_at hl 0 rfl) ?_
  refine g_new (ci := 0) (fs := [.int 0, .int 0, .int 0, .null, .null, .null, .null, .null, .null, .null, .null]) hx hb hts inlX0 tyX0 tyX0_ok hown hK hlo hG rfl qL_X1_9 qA_X0 qN_X0 (fun j hj => by rcases (show j = 0 ∨ j = 1 ∨ j = 2 ∨ j = 3 ∨ j = 4 ∨ j = 5 ∨ j = 6 ∨ j = 7 ∨ j = 8 ∨ j = 9 ∨ j = 10 by omega) with rfl | rfl | rfl | rfl | rfl | rfl | rfl | rfl | rfl | rfl | rfl <;> rfl) ⟨Nat.le_of_ble_eq_true rfl, Nat.le_of_ble_eq_true rfl⟩ dX1_init_5 (fun q5 H z5 hG => ?_)
  obtain ⟨G5, i5⟩ : ∃ g : gH, g = va_up G q5 (some (.inr (.inr (.inr (0, [.int 0, .int 0, .int 0, .null, .null, .null, .null, .null, .null, .null, .null]))))) := ⟨_, rfl⟩
  rw [← i5] at hG
  replace h := h q5 z5 G5 i5
  refine lv_dup hx hb dX1_init_8 rfl ?_
  refine g_wI (b := q5) (As := []) (rest := [.ref q5, .ref a0]) (n := 0) hx hb hml hown hts hK hlo hG (m_X0_init l dd cT lo G5 q5 h) (List.mem_of_getElem? (i := 15) rfl) qI_yX0_init rfl qN_X0 qC_yX0_init (by decide +kernel) ⟨Nat.le_of_ble_eq_true rfl, Nat.le_of_ble_eq_true rfl⟩ rfl hl.1 rfl (Nat.le_of_ble_eq_true rfl) dX1_init_9 ⟨Nat.le_of_ble_eq_true rfl, Nat.le_of_ble_eq_true rfl⟩ (fun G9 H locs h hG => ?_)
  obtain ⟨G12, i12, h⟩ := h
  refine g_putvF hx hb hts inlX1 tyX1 tyX1_ok nmX1 hown hK hG (by rfl) 0 (by decide) qF_X1_12 rfl hnm rfl rfl rfl rfl i12 dX1_init_12 (fun H locs hG => ?_)
  refine lv_aload_n hx hb dX1_init_15 rfl (lv_at hl 0 rfl) ?_
  refine g_new (ci := 7) (fs := [.int 0, .null, .null, .null, .null, .null]) hx hb hts inlX7 tyX7 tyX7_ok hown hK hlo hG rfl qL_X1_18 qA_X7 qN_X7 (fun j hj => by rcases (show j = 0 ∨ j = 1 ∨ j = 2 ∨ j = 3 ∨ j = 4 ∨ j = 5 by omega) with rfl | rfl | rfl | rfl | rfl | rfl <;> rfl) ⟨Nat.le_of_ble_eq_true rfl, Nat.le_of_ble_eq_true rfl⟩ dX1_init_16 (fun q16 H z16 hG => ?_)
  obtain ⟨G16, i16⟩ : ∃ g : gH, g = va_up G12 q16 (some (.inr (.inr (.inr (7, [.int 0, .null, .null, .null, .null, .null]))))) := ⟨_, rfl⟩
  rw [← i16] at hG
  replace h := h q16 z16 G16 i16
  refine lv_dup hx hb dX1_init_19 rfl ?_
  refine g_wI (b := q16) (As := []) (rest := [.ref q16, .ref a0]) (n := 0) hx hb hml hown hts hK hlo hG (m_X7_init l dd cT lo G16 q16 h) (List.mem_of_getElem? (i := 16) rfl) qI_yX7_init rfl qN_X7 qC_yX7_init (by decide +kernel) ⟨Nat.le_of_ble_eq_true rfl, Nat.le_of_ble_eq_true rfl⟩ rfl hl.1 rfl (Nat.le_of_ble_eq_true rfl) dX1_init_20 ⟨Nat.le_of_ble_eq_true rfl, Nat.le_of_ble_eq_true rfl⟩ (fun G20 H locs h hG => ?_)
  obtain ⟨G23, i23, h⟩ := h
  refine g_putvF hx hb hts inlX1 tyX1 tyX1_ok nmX1 hown hK hG (by rfl) 1 (by decide) qF_X1_21 rfl hnm rfl rfl rfl rfl i23 dX1_init_23 (fun H locs hG => ?_)
  refine lv_aload_n hx hb dX1_init_26 rfl (lv_at hl 0 rfl) ?_
  refine g_new (ci := 5) (fs := [.int 0, .null, .null, .null, .null, .null, .null, .null]) hx hb hts inlX5 tyX5 tyX5_ok hown hK hlo hG rfl qL_X1_25 qA_X5 qN_X5 (fun j hj => by rcases (show j = 0 ∨ j = 1 ∨ j = 2 ∨ j = 3 ∨ j = 4 ∨ j = 5 ∨ j = 6 ∨ j = 7 by omega) with rfl | rfl | rfl | rfl | rfl | rfl | rfl | rfl <;> rfl) ⟨Nat.le_of_ble_eq_true rfl, Nat.le_of_ble_eq_true rfl⟩ dX1_init_27 (fun q27 H z27 hG => ?_)
  obtain ⟨G27, i27⟩ : ∃ g : gH, g = va_up G23 q27 (some (.inr (.inr (.inr (5, [.int 0, .null, .null, .null, .null, .null, .null, .null]))))) := ⟨_, rfl⟩
  rw [← i27] at hG
  replace h := h q27 z27 G27 i27
  refine lv_dup hx hb dX1_init_30 rfl ?_
  refine g_wI (b := q27) (As := []) (rest := [.ref q27, .ref a0]) (n := 0) hx hb hml hown hts hK hlo hG (m_X5_init l dd cT lo G27 q27 h) (List.mem_of_getElem? (i := 17) rfl) qI_yX5_init rfl qN_X5 qC_yX5_init (by decide +kernel) ⟨Nat.le_of_ble_eq_true rfl, Nat.le_of_ble_eq_true rfl⟩ rfl hl.1 rfl (Nat.le_of_ble_eq_true rfl) dX1_init_31 ⟨Nat.le_of_ble_eq_true rfl, Nat.le_of_ble_eq_true rfl⟩ (fun G31 H locs h hG => ?_)
  obtain ⟨G34, i34, h⟩ := h
  refine g_putvF hx hb hts inlX1 tyX1 tyX1_ok nmX1 hown hK hG (by rfl) 2 (by decide) qF_X1_28 rfl hnm rfl rfl rfl rfl i34 dX1_init_34 (fun H locs hG => ?_)
  refine lv_aload_n hx hb dX1_init_37 rfl (lv_at hl 0 rfl) ?_
  refine lv_iconst (v := (0 : Int32)) hx hb dX1_init_38 (by decide) ?_
  obtain ⟨G39, i39, h⟩ := h
  refine g_putv hx hb hts inlX1 tyX1 tyX1_ok nmX1 hown hK hG (by rfl) 3 (by decide) qF_X1_32 rfl rfl rfl rfl i39 dX1_init_39 (fun H locs hG => ?_)
  refine lv_aload_n hx hb dX1_init_42 rfl (lv_at hl 0 rfl) ?_
  refine lv_bipush (v := (10 : Int32)) hx hb dX1_init_43 (by decide) ?_
  refine g_newaj (N := 10) hx hb hts hK hlo hG (by decide) (by decide) (Nat.le_of_ble_eq_true rfl) ⟨Nat.le_of_ble_eq_true rfl, Nat.le_of_ble_eq_true rfl⟩ dX1_init_45 (fun q45 H z45 hG => ?_)
  obtain ⟨G45, i45⟩ : ∃ g : gH, g = va_up G39 q45 (some (.inr (.inl (10, fun _ => 0)))) := ⟨_, rfl⟩
  rw [← i45] at hG
  replace h := h q45 z45 G45 i45
  obtain ⟨G47, i47, h⟩ := h
  refine g_putvF hx hb hts inlX1 tyX1 tyX1_ok nmX1 hown hK hG (by rfl) 4 (by decide) qF_X1_36 rfl hnm rfl rfl rfl rfl i47 dX1_init_47 (fun H locs hG => ?_)
  refine lv_aload_n hx hb dX1_init_50 rfl (lv_at hl 0 rfl) ?_
  refine lv_iconst (v := (0 : Int32)) hx hb dX1_init_51 (by decide) ?_
  obtain ⟨G52, i52, h⟩ := h
  refine g_putv hx hb hts inlX1 tyX1 tyX1_ok nmX1 hown hK hG (by rfl) 5 (by decide) qF_X1_40 rfl rfl rfl rfl i52 dX1_init_52 (fun H locs hG => ?_)
  refine lv_aload_n hx hb dX1_init_55 rfl (lv_at hl 0 rfl) ?_
  refine g_new (ci := 8) (fs := [.int 0, .null, .null, .null, .null]) hx hb hts inlX8 tyX8 tyX8_ok hown hK hlo hG rfl qL_X1_44 qA_X8 qN_X8 (fun j hj => by rcases (show j = 0 ∨ j = 1 ∨ j = 2 ∨ j = 3 ∨ j = 4 by omega) with rfl | rfl | rfl | rfl | rfl <;> rfl) ⟨Nat.le_of_ble_eq_true rfl, Nat.le_of_ble_eq_true rfl⟩ dX1_init_56 (fun q56 H z56 hG => ?_)
  obtain ⟨G56, i56⟩ : ∃ g : gH, g = va_up G52 q56 (some (.inr (.inr (.inr (8, [.int 0, .null, .null, .null, .null]))))) := ⟨_, rfl⟩
  rw [← i56] at hG
  replace h := h q56 z56 G56 i56
  refine lv_dup hx hb dX1_init_59 rfl ?_
  refine g_wI (b := q56) (As := []) (rest := [.ref q56, .ref a0]) (n := 0) hx hb hml hown hts hK hlo hG (m_X8_init l dd cT lo G56 q56 h) (List.mem_of_getElem? (i := 18) rfl) qI_yX8_init rfl qN_X8 qC_yX8_init (by decide +kernel) ⟨Nat.le_of_ble_eq_true rfl, Nat.le_of_ble_eq_true rfl⟩ rfl hl.1 rfl (Nat.le_of_ble_eq_true rfl) dX1_init_60 ⟨Nat.le_of_ble_eq_true rfl, Nat.le_of_ble_eq_true rfl⟩ (fun G60 H locs h hG => ?_)
  obtain ⟨G63, i63, h⟩ := h
  refine g_putvF hx hb hts inlX1 tyX1 tyX1_ok nmX1 hown hK hG (by rfl) 6 (by decide) qF_X1_47 rfl hnm rfl rfl rfl rfl i63 dX1_init_63 (fun H locs hG => ?_)
  refine W.widen (k := 29) (n := 1630) (Nat.le_of_ble_eq_true rfl) (Nat.le_of_ble_eq_true rfl) ?_
  exact g_vret hx hb hr hlocks hK hlo hG h dX1_init_66
set_option maxRecDepth 20000 in
set_option maxHeartbeats 4000000 in
theorem m_X3_init (l : Launch) (dd : va_G) (cT : Nat → ClassId) (lo : Nat → Prop) (G : gH) (a0 : Nat) {K : gH → Prop} (h : w_X3_init G a0 K) : Met l yX3_init (Cond.code yX3_init cX3_init 1 none :: wsL_law) (g_rm 1 40 1 600) (va_Pc [.ref a0] (g_Pre lo dd cT G)) (va_Qv K (g_Pre lo dd cT) (g_A lo)) 1 600 (g_A lo) := by
  refine g_start RX3 rfl (by decide) (Nat.le_of_ble_eq_true rfl) ?_
  intro p e s m below meth c hx hb hr hlocks hml hown hnm hts hK hG hlo ls hl
  have hl : lv_has ls 1 [(0, .ref a0)] := hl
  have hG : g_S lo dd cT s s.heap [] G := hG
  unfold w_X3_init at h
  refine lv_aload_n hx hb dX3_init_0 rfl (lv_at hl 0 rfl) ?_
  refine W.objInit hx hb hown (hts _ qM_X3_3) (hts _ qI_objectInit) (hts _ qC_objectInit) rfl (hl.1.trans hml.symm) rfl dX3_init_1 (Nat.le_of_ble_eq_true rfl) (Nat.le_of_ble_eq_true rfl) ?_
  refine lv_aload_n hx hb dX3_init_4 rfl (lv_at hl 0 rfl) ?_
  refine lv_sipush (v := (600 : Int32)) hx hb dX3_init_5 (by decide) ?_
  refine g_newai (N := 600) hx hb hts hK hlo hG (by decide) (by decide) (Nat.le_of_ble_eq_true rfl) ⟨Nat.le_of_ble_eq_true rfl, Nat.le_of_ble_eq_true rfl⟩ dX3_init_8 (fun q8 H z8 hG => ?_)
  obtain ⟨G8, i8⟩ : ∃ g : gH, g = va_up G q8 (some (.inl (0, 600, fun _ => 0))) := ⟨_, rfl⟩
  rw [← i8] at hG
  replace h := h q8 z8 G8 i8
  obtain ⟨G10, i10, h⟩ := h
  refine g_putvF hx hb hts inlX3 tyX3 tyX3_ok nmX3 hown hK hG (by rfl) 0 (by decide) qF_X3_9 rfl hnm rfl rfl rfl rfl i10 dX3_init_10 (fun H locs hG => ?_)
  refine lv_aload_n hx hb dX3_init_13 rfl (lv_at hl 0 rfl) ?_
  refine lv_iconst (v := (0 : Int32)) hx hb dX3_init_14 (by decide) ?_
  obtain ⟨G15, i15, h⟩ := h
  refine g_putv hx hb hts inlX3 tyX3 tyX3_ok nmX3 hown hK hG (by rfl) 1 (by decide) qF_X3_15 rfl rfl rfl rfl i15 dX3_init_15 (fun H locs hG => ?_)
  refine W.widen (k := 1) (n := 600) (Nat.le_of_ble_eq_true rfl) (Nat.le_of_ble_eq_true rfl) ?_
  exact g_vret hx hb hr hlocks hK hlo hG h dX3_init_18
set_option maxRecDepth 20000 in
set_option maxHeartbeats 4000000 in
theorem m_X11_init (l : Launch) (dd : va_G) (cT : Nat → ClassId) (lo : Nat → Prop) (G : gH) (a0 : Nat) {K : gH → Prop} (h : w_X11_init G a0 K) : Met l yX11_init (Cond.code yX11_init cX11_init 1 none :: wsL_law) (g_rm 1 40 3 1800) (va_Pc [.ref a0] (g_Pre lo dd cT G)) (va_Qv K (g_Pre lo dd cT) (g_A lo)) 3 1800 (g_A lo) := by
  refine g_start RX11 rfl (by decide) (Nat.le_of_ble_eq_true rfl) ?_
  intro p e s m below meth c hx hb hr hlocks hml hown hnm hts hK hG hlo ls hl
  have hl : lv_has ls 1 [(0, .ref a0)] := hl
  have hG : g_S lo dd cT s s.heap [] G := hG
  unfold w_X11_init at h
  refine lv_aload_n hx hb dX11_init_0 rfl (lv_at hl 0 rfl) ?_
  refine W.objInit hx hb hown (hts _ qM_X11_3) (hts _ qI_objectInit) (hts _ qC_objectInit) rfl (hl.1.trans hml.symm) rfl dX11_init_1 (Nat.le_of_ble_eq_true rfl) (Nat.le_of_ble_eq_true rfl) ?_
  refine lv_aload_n hx hb dX11_init_4 rfl (lv_at hl 0 rfl) ?_
  refine lv_iconst (v := (0 : Int32)) hx hb dX11_init_5 (by decide) ?_
  obtain ⟨G6, i6, h⟩ := h
  refine g_putv hx hb hts inlX11 tyX11 tyX11_ok nmX11 hown hK hG (by rfl) 0 (by decide) qF_X11_9 rfl rfl rfl rfl i6 dX11_init_6 (fun H locs hG => ?_)
  refine lv_aload_n hx hb dX11_init_9 rfl (lv_at hl 0 rfl) ?_
  refine lv_iconst (v := (0 : Int32)) hx hb dX11_init_10 (by decide) ?_
  obtain ⟨G11, i11, h⟩ := h
  refine g_putv hx hb hts inlX11 tyX11 tyX11_ok nmX11 hown hK hG (by rfl) 1 (by decide) qF_X11_15 rfl rfl rfl rfl i11 dX11_init_11 (fun H locs hG => ?_)
  refine lv_aload_n hx hb dX11_init_14 rfl (lv_at hl 0 rfl) ?_
  refine lv_sipush (v := (600 : Int32)) hx hb dX11_init_15 (by decide) ?_
  refine g_newai (N := 600) hx hb hts hK hlo hG (by decide) (by decide) (Nat.le_of_ble_eq_true rfl) ⟨Nat.le_of_ble_eq_true rfl, Nat.le_of_ble_eq_true rfl⟩ dX11_init_18 (fun q18 H z18 hG => ?_)
  obtain ⟨G18, i18⟩ : ∃ g : gH, g = va_up G11 q18 (some (.inl (0, 600, fun _ => 0))) := ⟨_, rfl⟩
  rw [← i18] at hG
  replace h := h q18 z18 G18 i18
  obtain ⟨G20, i20, h⟩ := h
  refine g_putvF hx hb hts inlX11 tyX11 tyX11_ok nmX11 hown hK hG (by rfl) 2 (by decide) qF_X11_18 rfl hnm rfl rfl rfl rfl i20 dX11_init_20 (fun H locs hG => ?_)
  refine lv_aload_n hx hb dX11_init_23 rfl (lv_at hl 0 rfl) ?_
  refine lv_sipush (v := (600 : Int32)) hx hb dX11_init_24 (by decide) ?_
  refine g_newai (N := 600) hx hb hts hK hlo hG (by decide) (by decide) (Nat.le_of_ble_eq_true rfl) ⟨Nat.le_of_ble_eq_true rfl, Nat.le_of_ble_eq_true rfl⟩ dX11_init_27 (fun q27 H z27 hG => ?_)
  obtain ⟨G27, i27⟩ : ∃ g : gH, g = va_up G20 q27 (some (.inl (0, 600, fun _ => 0))) := ⟨_, rfl⟩
  rw [← i27] at hG
  replace h := h q27 z27 G27 i27
  obtain ⟨G29, i29, h⟩ := h
  refine g_putvF hx hb hts inlX11 tyX11 tyX11_ok nmX11 hown hK hG (by rfl) 3 (by decide) qF_X11_22 rfl hnm rfl rfl rfl rfl i29 dX11_init_29 (fun H locs hG => ?_)
  refine lv_aload_n hx hb dX11_init_32 rfl (lv_at hl 0 rfl) ?_
  refine lv_sipush (v := (600 : Int32)) hx hb dX11_init_33 (by decide) ?_
  refine g_newaj (N := 600) hx hb hts hK hlo hG (by decide) (by decide) (Nat.le_of_ble_eq_true rfl) ⟨Nat.le_of_ble_eq_true rfl, Nat.le_of_ble_eq_true rfl⟩ dX11_init_36 (fun q36 H z36 hG => ?_)
  obtain ⟨G36, i36⟩ : ∃ g : gH, g = va_up G29 q36 (some (.inr (.inl (600, fun _ => 0)))) := ⟨_, rfl⟩
  rw [← i36] at hG
  replace h := h q36 z36 G36 i36
  obtain ⟨G38, i38, h⟩ := h
  refine g_putvF hx hb hts inlX11 tyX11 tyX11_ok nmX11 hown hK hG (by rfl) 4 (by decide) qF_X11_25 rfl hnm rfl rfl rfl rfl i38 dX11_init_38 (fun H locs hG => ?_)
  refine W.widen (k := 3) (n := 1800) (Nat.le_of_ble_eq_true rfl) (Nat.le_of_ble_eq_true rfl) ?_
  exact g_vret hx hb hr hlocks hK hlo hG h dX11_init_41
set_option maxRecDepth 20000 in
set_option maxHeartbeats 4000000 in
theorem m_X4_init (l : Launch) (dd : va_G) (cT : Nat → ClassId) (lo : Nat → Prop) (G : gH) (a0 : Nat) {K : gH → Prop} (h : w_X4_init G a0 K) : Met l yX4_init (Cond.code yX4_init cX4_init 1 none :: wsL_law) (g_rm 2 60 11 2511) (va_Pc [.ref a0] (g_Pre lo dd cT G)) (va_Qv K (g_Pre lo dd cT) (g_A lo)) 11 2511 (g_A lo) := by
  refine g_start RX4 rfl (by decide) (Nat.le_of_ble_eq_true rfl) ?_
  intro p e s m below meth c hx hb hr hlocks hml hown hnm hts hK hG hlo ls hl
  have hl : lv_has ls 1 [(0, .ref a0)] := hl
  have hG : g_S lo dd cT s s.heap [] G := hG
  unfold w_X4_init at h
  refine lv_aload_n hx hb dX4_init_0 rfl (lv_at hl 0 rfl) ?_
  refine W.objInit hx hb hown (hts _ qM_X4_3) (hts _ qI_objectInit) (hts _ qC_objectInit) rfl (hl.1.trans hml.symm) rfl dX4_init_1 (Nat.le_of_ble_eq_true rfl) (Nat.le_of_ble_eq_true rfl) ?_
  refine lv_aload_n hx hb dX4_init_4 rfl (lv_at hl 0 rfl) ?_
  refine lv_iconst (v := (0 : Int32)) hx hb dX4_init_5 (by decide) ?_
  obtain ⟨G6, i6, h⟩ := h
  refine g_putv hx hb hts inlX4 tyX4 tyX4_ok nmX4 hown hK hG (by rfl) 0 (by decide) qF_X4_9 rfl rfl rfl rfl i6 dX4_init_6 (fun H locs hG => ?_)
  refine lv_aload_n hx hb dX4_init_9 rfl (lv_at hl 0 rfl) ?_
  refine lv_iconst (v := (-1 : Int32)) hx hb dX4_init_10 (by decide) ?_
  obtain ⟨G11, i11, h⟩ := h
  refine g_putv hx hb hts inlX4 tyX4 tyX4_ok nmX4 hown hK hG (by rfl) 1 (by decide) qF_X4_15 rfl rfl rfl rfl i11 dX4_init_11 (fun H locs hG => ?_)
  refine lv_aload_n hx hb dX4_init_14 rfl (lv_at hl 0 rfl) ?_
  refine lv_bipush (v := (8 : Int32)) hx hb dX4_init_15 (by decide) ?_
  obtain ⟨G17, i17, h⟩ := h
  refine g_putv hx hb hts inlX4 tyX4 tyX4_ok nmX4 hown hK hG (by rfl) 2 (by decide) qF_X4_18 rfl rfl rfl rfl i17 dX4_init_17 (fun H locs hG => ?_)
  refine lv_aload_n hx hb dX4_init_20 rfl (lv_at hl 0 rfl) ?_
  refine lv_iconst (v := (0 : Int32)) hx hb dX4_init_21 (by decide) ?_
  obtain ⟨G22, i22, h⟩ := h
  refine g_putv hx hb hts inlX4 tyX4 tyX4_ok nmX4 hown hK hG (by rfl) 3 (by decide) qF_X4_21 rfl rfl rfl rfl i22 dX4_init_22 (fun H locs hG => ?_)
  refine lv_aload_n hx hb dX4_init_25 rfl (lv_at hl 0 rfl) ?_
  refine lv_iconst (v := (0 : Int32)) hx hb dX4_init_26 (by decide) ?_
  obtain ⟨G27, i27, h⟩ := h
  refine g_putv hx hb hts inlX4 tyX4 tyX4_ok nmX4 hown hK hG (by rfl) 4 (by decide) qF_X4_24 rfl rfl rfl rfl i27 dX4_init_27 (fun H locs hG => ?_)
  refine lv_aload_n hx hb dX4_init_30 rfl (lv_at hl 0 rfl) ?_
  refine lv_bipush (v := (10 : Int32)) hx hb dX4_init_31 (by decide) ?_
  refine g_newaj (N := 10) hx hb hts hK hlo hG (by decide) (by decide) (Nat.le_of_ble_eq_true rfl) ⟨Nat.le_of_ble_eq_true rfl, Nat.le_of_ble_eq_true rfl⟩ dX4_init_33 (fun q33 H z33 hG => ?_)
  obtain ⟨G33, i33⟩ : ∃ g : gH, g = va_up G27 q33 (some (.inr (.inl (10, fun _ => 0)))) := ⟨_, rfl⟩
  rw [← i33] at hG
  replace h := h q33 z33 G33 i33
  obtain ⟨G35, i35, h⟩ := h
  refine g_putvF hx hb hts inlX4 tyX4 tyX4_ok nmX4 hown hK hG (by rfl) 5 (by decide) qF_X4_27 rfl hnm rfl rfl rfl rfl i35 dX4_init_35 (fun H locs hG => ?_)
  refine lv_aload_n hx hb dX4_init_38 rfl (lv_at hl 0 rfl) ?_
  refine lv_iconst (v := (0 : Int32)) hx hb dX4_init_39 (by decide) ?_
  obtain ⟨G40, i40, h⟩ := h
  refine g_putv hx hb hts inlX4 tyX4 tyX4_ok nmX4 hown hK hG (by rfl) 6 (by decide) qF_X4_31 rfl rfl rfl rfl i40 dX4_init_40 (fun H locs hG => ?_)
  refine lv_aload_n hx hb dX4_init_43 rfl (lv_at hl 0 rfl) ?_
  refine lv_bipush (v := (120 : Int32)) hx hb dX4_init_44 (by decide) ?_
  refine g_newai (N := 120) hx hb hts hK hlo hG (by decide) (by decide) (Nat.le_of_ble_eq_true rfl) ⟨Nat.le_of_ble_eq_true rfl, Nat.le_of_ble_eq_true rfl⟩ dX4_init_46 (fun q46 H z46 hG => ?_)
  obtain ⟨G46, i46⟩ : ∃ g : gH, g = va_up G40 q46 (some (.inl (0, 120, fun _ => 0))) := ⟨_, rfl⟩
  rw [← i46] at hG
  replace h := h q46 z46 G46 i46
  obtain ⟨G48, i48, h⟩ := h
  refine g_putvF hx hb hts inlX4 tyX4 tyX4_ok nmX4 hown hK hG (by rfl) 7 (by decide) qF_X4_34 rfl hnm rfl rfl rfl rfl i48 dX4_init_48 (fun H locs hG => ?_)
  refine lv_aload_n hx hb dX4_init_51 rfl (lv_at hl 0 rfl) ?_
  refine lv_bipush (v := (120 : Int32)) hx hb dX4_init_52 (by decide) ?_
  refine g_newai (N := 120) hx hb hts hK hlo hG (by decide) (by decide) (Nat.le_of_ble_eq_true rfl) ⟨Nat.le_of_ble_eq_true rfl, Nat.le_of_ble_eq_true rfl⟩ dX4_init_54 (fun q54 H z54 hG => ?_)
  obtain ⟨G54, i54⟩ : ∃ g : gH, g = va_up G48 q54 (some (.inl (0, 120, fun _ => 0))) := ⟨_, rfl⟩
  rw [← i54] at hG
  replace h := h q54 z54 G54 i54
  obtain ⟨G56, i56, h⟩ := h
  refine g_putvF hx hb hts inlX4 tyX4 tyX4_ok nmX4 hown hK hG (by rfl) 8 (by decide) qF_X4_38 rfl hnm rfl rfl rfl rfl i56 dX4_init_56 (fun H locs hG => ?_)
  refine lv_aload_n hx hb dX4_init_59 rfl (lv_at hl 0 rfl) ?_
  refine lv_bipush (v := (120 : Int32)) hx hb dX4_init_60 (by decide) ?_
  refine g_newai (N := 120) hx hb hts hK hlo hG (by decide) (by decide) (Nat.le_of_ble_eq_true rfl) ⟨Nat.le_of_ble_eq_true rfl, Nat.le_of_ble_eq_true rfl⟩ dX4_init_62 (fun q62 H z62 hG => ?_)
  obtain ⟨G62, i62⟩ : ∃ g : gH, g = va_up G56 q62 (some (.inl (0, 120, fun _ => 0))) := ⟨_, rfl⟩
  rw [← i62] at hG
  replace h := h q62 z62 G62 i62
  obtain ⟨G64, i64, h⟩ := h
  refine g_putvF hx hb hts inlX4 tyX4 tyX4_ok nmX4 hown hK hG (by rfl) 9 (by decide) qF_X4_41 rfl hnm rfl rfl rfl rfl i64 dX4_init_64 (fun H locs hG => ?_)
  refine lv_aload_n hx hb dX4_init_67 rfl (lv_at hl 0 rfl) ?_
  refine lv_bipush (v := (120 : Int32)) hx hb dX4_init_68 (by decide) ?_
  refine g_newai (N := 120) hx hb hts hK hlo hG (by decide) (by decide) (Nat.le_of_ble_eq_true rfl) ⟨Nat.le_of_ble_eq_true rfl, Nat.le_of_ble_eq_true rfl⟩ dX4_init_70 (fun q70 H z70 hG => ?_)
  obtain ⟨G70, i70⟩ : ∃ g : gH, g = va_up G64 q70 (some (.inl (0, 120, fun _ => 0))) := ⟨_, rfl⟩
  rw [← i70] at hG
  replace h := h q70 z70 G70 i70
  obtain ⟨G72, i72, h⟩ := h
  refine g_putvF hx hb hts inlX4 tyX4 tyX4_ok nmX4 hown hK hG (by rfl) 10 (by decide) qF_X4_44 rfl hnm rfl rfl rfl rfl i72 dX4_init_72 (fun H locs hG => ?_)
  refine lv_aload_n hx hb dX4_init_75 rfl (lv_at hl 0 rfl) ?_
  refine lv_bipush (v := (120 : Int32)) hx hb dX4_init_76 (by decide) ?_
  refine g_newai (N := 120) hx hb hts hK hlo hG (by decide) (by decide) (Nat.le_of_ble_eq_true rfl) ⟨Nat.le_of_ble_eq_true rfl, Nat.le_of_ble_eq_true rfl⟩ dX4_init_78 (fun q78 H z78 hG => ?_)
  obtain ⟨G78, i78⟩ : ∃ g : gH, g = va_up G72 q78 (some (.inl (0, 120, fun _ => 0))) := ⟨_, rfl⟩
  rw [← i78] at hG
  replace h := h q78 z78 G78 i78
  obtain ⟨G80, i80, h⟩ := h
  refine g_putvF hx hb hts inlX4 tyX4 tyX4_ok nmX4 hown hK hG (by rfl) 11 (by decide) qF_X4_47 rfl hnm rfl rfl rfl rfl i80 dX4_init_80 (fun H locs hG => ?_)
  refine lv_aload_n hx hb dX4_init_83 rfl (lv_at hl 0 rfl) ?_
  refine lv_bipush (v := (96 : Int32)) hx hb dX4_init_84 (by decide) ?_
  refine g_newaz (N := 96) hx hb hts hK hlo hG (by decide) (by decide) (Nat.le_of_ble_eq_true rfl) ⟨Nat.le_of_ble_eq_true rfl, Nat.le_of_ble_eq_true rfl⟩ dX4_init_86 (fun q86 H z86 hG => ?_)
  obtain ⟨G86, i86⟩ : ∃ g : gH, g = va_up G80 q86 (some (.inl (1, 96, fun _ => 0))) := ⟨_, rfl⟩
  rw [← i86] at hG
  replace h := h q86 z86 G86 i86
  obtain ⟨G88, i88, h⟩ := h
  refine g_putvF hx hb hts inlX4 tyX4 tyX4_ok nmX4 hown hK hG (by rfl) 12 (by decide) qF_X4_50 rfl hnm rfl rfl rfl rfl i88 dX4_init_88 (fun H locs hG => ?_)
  refine lv_aload_n hx hb dX4_init_91 rfl (lv_at hl 0 rfl) ?_
  refine g_new (ci := 11) (fs := [.int 0, .int 0, .null, .null, .null]) hx hb hts inlX11 tyX11 tyX11_ok hown hK hlo hG rfl qL_X4_54 qA_X11 qN_X11 (fun j hj => by rcases (show j = 0 ∨ j = 1 ∨ j = 2 ∨ j = 3 ∨ j = 4 by omega) with rfl | rfl | rfl | rfl | rfl <;> rfl) ⟨Nat.le_of_ble_eq_true rfl, Nat.le_of_ble_eq_true rfl⟩ dX4_init_92 (fun q92 H z92 hG => ?_)
  obtain ⟨G92, i92⟩ : ∃ g : gH, g = va_up G88 q92 (some (.inr (.inr (.inr (11, [.int 0, .int 0, .null, .null, .null]))))) := ⟨_, rfl⟩
  rw [← i92] at hG
  replace h := h q92 z92 G92 i92
  refine lv_dup hx hb dX4_init_95 rfl ?_
  refine g_wI (b := q92) (As := []) (rest := [.ref q92, .ref a0]) (n := 0) hx hb hml hown hts hK hlo hG (m_X11_init l dd cT lo G92 q92 h) (List.mem_of_getElem? (i := 32) rfl) qI_yX11_init rfl qN_X11 qC_yX11_init (by decide +kernel) ⟨Nat.le_of_ble_eq_true rfl, Nat.le_of_ble_eq_true rfl⟩ rfl hl.1 rfl (Nat.le_of_ble_eq_true rfl) dX4_init_96 ⟨Nat.le_of_ble_eq_true rfl, Nat.le_of_ble_eq_true rfl⟩ (fun G96 H locs h hG => ?_)
  obtain ⟨G99, i99, h⟩ := h
  refine g_putvF hx hb hts inlX4 tyX4 tyX4_ok nmX4 hown hK hG (by rfl) 13 (by decide) qF_X4_57 rfl hnm rfl rfl rfl rfl i99 dX4_init_99 (fun H locs hG => ?_)
  refine lv_aload_n hx hb dX4_init_102 rfl (lv_at hl 0 rfl) ?_
  refine lv_iconst (v := (0 : Int32)) hx hb dX4_init_103 (by decide) ?_
  obtain ⟨G104, i104, h⟩ := h
  refine g_putv hx hb hts inlX4 tyX4 tyX4_ok nmX4 hown hK hG (by rfl) 14 (by decide) qF_X4_61 rfl rfl rfl rfl i104 dX4_init_104 (fun H locs hG => ?_)
  refine W.widen (k := 11) (n := 2511) (Nat.le_of_ble_eq_true rfl) (Nat.le_of_ble_eq_true rfl) ?_
  exact g_vret hx hb hr hlocks hK hlo hG h dX4_init_107
set_option maxRecDepth 20000 in
set_option maxHeartbeats 4000000 in
theorem m_X2_init (l : Launch) (dd : va_G) (cT : Nat → ClassId) (lo : Nat → Prop) (G : gH) (a0 : Nat) {K : gH → Prop} (h : w_X2_init G a0 K) : Met l yX2_init (Cond.code yX2_init cX2_init 1 none :: wsL_law) (g_rm 1 40 1 10) (va_Pc [.ref a0] (g_Pre lo dd cT G)) (va_Qv K (g_Pre lo dd cT) (g_A lo)) 1 10 (g_A lo) := by
  refine g_start RX2 rfl (by decide) (Nat.le_of_ble_eq_true rfl) ?_
  intro p e s m below meth c hx hb hr hlocks hml hown hnm hts hK hG hlo ls hl
  have hl : lv_has ls 1 [(0, .ref a0)] := hl
  have hG : g_S lo dd cT s s.heap [] G := hG
  unfold w_X2_init at h
  refine lv_aload_n hx hb dX2_init_0 rfl (lv_at hl 0 rfl) ?_
  refine W.objInit hx hb hown (hts _ qM_X2_3) (hts _ qI_objectInit) (hts _ qC_objectInit) rfl (hl.1.trans hml.symm) rfl dX2_init_1 (Nat.le_of_ble_eq_true rfl) (Nat.le_of_ble_eq_true rfl) ?_
  refine lv_aload_n hx hb dX2_init_4 rfl (lv_at hl 0 rfl) ?_
  refine lv_iconst (v := (0 : Int32)) hx hb dX2_init_5 (by decide) ?_
  obtain ⟨G6, i6, h⟩ := h
  refine g_putv hx hb hts inlX2 tyX2 tyX2_ok nmX2 hown hK hG (by rfl) 0 (by decide) qF_X2_9 rfl rfl rfl rfl i6 dX2_init_6 (fun H locs hG => ?_)
  refine lv_aload_n hx hb dX2_init_9 rfl (lv_at hl 0 rfl) ?_
  refine lv_iconst (v := (0 : Int32)) hx hb dX2_init_10 (by decide) ?_
  obtain ⟨G11, i11, h⟩ := h
  refine g_putv hx hb hts inlX2 tyX2 tyX2_ok nmX2 hown hK hG (by rfl) 1 (by decide) qF_X2_15 rfl rfl rfl rfl i11 dX2_init_11 (fun H locs hG => ?_)
  refine lv_aload_n hx hb dX2_init_14 rfl (lv_at hl 0 rfl) ?_
  refine lv_bipush (v := (10 : Int32)) hx hb dX2_init_15 (by decide) ?_
  refine g_newq (N := 10) hx hb hown hts qL_X2_18 hK hlo hG (by decide) (by decide) (Nat.le_of_ble_eq_true rfl) ⟨Nat.le_of_ble_eq_true rfl, Nat.le_of_ble_eq_true rfl⟩ dX2_init_17 (fun q17 H z17 hG => ?_)
  obtain ⟨G17, i17⟩ : ∃ g : gH, g = va_up G11 q17 (some (.inr (.inr (.inl (4, 10, fun _ => none))))) := ⟨_, rfl⟩
  rw [← i17] at hG
  replace h := h q17 z17 G17 i17
  obtain ⟨G20, i20, h⟩ := h
  refine g_putvF hx hb hts inlX2 tyX2 tyX2_ok nmX2 hown hK hG (by rfl) 2 (by decide) qF_X2_20 rfl hnm rfl rfl rfl rfl i20 dX2_init_20 (fun H locs hG => ?_)
  refine W.widen (k := 1) (n := 10) (Nat.le_of_ble_eq_true rfl) (Nat.le_of_ble_eq_true rfl) ?_
  exact g_vret hx hb hr hlocks hK hlo hG h dX2_init_23
set_option maxRecDepth 20000 in
set_option maxHeartbeats 4000000 in
theorem m_X6_init (l : Launch) (dd : va_G) (cT : Nat → ClassId) (lo : Nat → Prop) (G : gH) (a0 : Nat) {K : gH → Prop} (h : w_X6_init G a0 K) : Met l yX6_init (Cond.code yX6_init cX6_init 1 none :: wsL_law) (g_rm 1 40 2 4) (va_Pc [.ref a0] (g_Pre lo dd cT G)) (va_Qv K (g_Pre lo dd cT) (g_A lo)) 2 4 (g_A lo) := by
  refine g_start RX6 rfl (by decide) (Nat.le_of_ble_eq_true rfl) ?_
  intro p e s m below meth c hx hb hr hlocks hml hown hnm hts hK hG hlo ls hl
  have hl : lv_has ls 1 [(0, .ref a0)] := hl
  have hG : g_S lo dd cT s s.heap [] G := hG
  unfold w_X6_init at h
  refine lv_aload_n hx hb dX6_init_0 rfl (lv_at hl 0 rfl) ?_
  refine W.objInit hx hb hown (hts _ qM_X6_3) (hts _ qI_objectInit) (hts _ qC_objectInit) rfl (hl.1.trans hml.symm) rfl dX6_init_1 (Nat.le_of_ble_eq_true rfl) (Nat.le_of_ble_eq_true rfl) ?_
  refine lv_aload_n hx hb dX6_init_4 rfl (lv_at hl 0 rfl) ?_
  refine lv_iconst (v := (2 : Int32)) hx hb dX6_init_5 (by decide) ?_
  refine g_newaz (N := 2) hx hb hts hK hlo hG (by decide) (by decide) (Nat.le_of_ble_eq_true rfl) ⟨Nat.le_of_ble_eq_true rfl, Nat.le_of_ble_eq_true rfl⟩ dX6_init_6 (fun q6 H z6 hG => ?_)
  obtain ⟨G6, i6⟩ : ∃ g : gH, g = va_up G q6 (some (.inl (1, 2, fun _ => 0))) := ⟨_, rfl⟩
  rw [← i6] at hG
  replace h := h q6 z6 G6 i6
  obtain ⟨G8, i8, h⟩ := h
  refine g_putvF hx hb hts inlX6 tyX6 tyX6_ok nmX6 hown hK hG (by rfl) 0 (by decide) qF_X6_9 rfl hnm rfl rfl rfl rfl i8 dX6_init_8 (fun H locs hG => ?_)
  refine lv_aload_n hx hb dX6_init_11 rfl (lv_at hl 0 rfl) ?_
  refine lv_iconst (v := (2 : Int32)) hx hb dX6_init_12 (by decide) ?_
  refine g_newq (N := 2) hx hb hown hts qL_X6_15 hK hlo hG (by decide) (by decide) (Nat.le_of_ble_eq_true rfl) ⟨Nat.le_of_ble_eq_true rfl, Nat.le_of_ble_eq_true rfl⟩ dX6_init_13 (fun q13 H z13 hG => ?_)
  obtain ⟨G13, i13⟩ : ∃ g : gH, g = va_up G8 q13 (some (.inr (.inr (.inl (4, 2, fun _ => none))))) := ⟨_, rfl⟩
  rw [← i13] at hG
  replace h := h q13 z13 G13 i13
  obtain ⟨G16, i16, h⟩ := h
  refine g_putvF hx hb hts inlX6 tyX6 tyX6_ok nmX6 hown hK hG (by rfl) 1 (by decide) qF_X6_17 rfl hnm rfl rfl rfl rfl i16 dX6_init_16 (fun H locs hG => ?_)
  refine W.widen (k := 2) (n := 4) (Nat.le_of_ble_eq_true rfl) (Nat.le_of_ble_eq_true rfl) ?_
  exact g_vret hx hb hr hlocks hK hlo hG h dX6_init_19
set_option maxRecDepth 20000 in
set_option maxHeartbeats 4000000 in
theorem m_X9_init (l : Launch) (dd : va_G) (cT : Nat → ClassId) (lo : Nat → Prop) (G : gH) (a0 : Nat) {K : gH → Prop} (h : w_X9_init G a0 K) : Met l yX9_init (Cond.code yX9_init cX9_init 1 none :: wsL_law) (g_rm 3 80 84 6468) (va_Pc [.ref a0] (g_Pre lo dd cT G)) (va_Qv K (g_Pre lo dd cT) (g_A lo)) 84 6468 (g_A lo) := by
  refine g_start RX9 rfl (by decide) (Nat.le_of_ble_eq_true rfl) ?_
  intro p e s m below meth c hx hb hr hlocks hml hown hnm hts hK hG hlo ls hl
  have hl : lv_has ls 1 [(0, .ref a0)] := hl
  have hG : g_S lo dd cT s s.heap [] G := hG
  unfold w_X9_init at h
  refine lv_aload_n hx hb dX9_init_0 rfl (lv_at hl 0 rfl) ?_
  refine W.objInit hx hb hown (hts _ qM_X9_3) (hts _ qI_objectInit) (hts _ qC_objectInit) rfl (hl.1.trans hml.symm) rfl dX9_init_1 (Nat.le_of_ble_eq_true rfl) (Nat.le_of_ble_eq_true rfl) ?_
  refine lv_aload_n hx hb dX9_init_4 rfl (lv_at hl 0 rfl) ?_
  refine g_new (ci := 3) (fs := [.null, .int 0]) hx hb hts inlX3 tyX3 tyX3_ok hown hK hlo hG rfl qL_X9_9 qA_X3 qN_X3 (fun j hj => by rcases (show j = 0 ∨ j = 1 by omega) with rfl | rfl <;> rfl) ⟨Nat.le_of_ble_eq_true rfl, Nat.le_of_ble_eq_true rfl⟩ dX9_init_5 (fun q5 H z5 hG => ?_)
  obtain ⟨G5, i5⟩ : ∃ g : gH, g = va_up G q5 (some (.inr (.inr (.inr (3, [.null, .int 0]))))) := ⟨_, rfl⟩
  rw [← i5] at hG
  replace h := h q5 z5 G5 i5
  refine lv_dup hx hb dX9_init_8 rfl ?_
  refine g_wI (b := q5) (As := []) (rest := [.ref q5, .ref a0]) (n := 0) hx hb hml hown hts hK hlo hG (m_X3_init l dd cT lo G5 q5 h) (List.mem_of_getElem? (i := 0) rfl) qI_yX3_init rfl qN_X3 qC_yX3_init (by decide +kernel) ⟨Nat.le_of_ble_eq_true rfl, Nat.le_of_ble_eq_true rfl⟩ rfl hl.1 rfl (Nat.le_of_ble_eq_true rfl) dX9_init_9 ⟨Nat.le_of_ble_eq_true rfl, Nat.le_of_ble_eq_true rfl⟩ (fun G9 H locs h hG => ?_)
  obtain ⟨G12, i12, h⟩ := h
  refine g_putvF hx hb hts inlX9 tyX9 tyX9_ok nmX9 hown hK hG (by rfl) 0 (by decide) qF_X9_12 rfl hnm rfl rfl rfl rfl i12 dX9_init_12 (fun H locs hG => ?_)
  refine lv_aload_n hx hb dX9_init_15 rfl (lv_at hl 0 rfl) ?_
  refine g_new (ci := 4) (fs := [.int 0, .int 0, .int 0, .int 0, .int 0, .null, .int 0, .null, .null, .null, .null, .null, .null, .null, .int 0]) hx hb hts inlX4 tyX4 tyX4_ok hown hK hlo hG rfl qL_X9_16 qA_X4 qN_X4 (fun j hj => by rcases (show j = 0 ∨ j = 1 ∨ j = 2 ∨ j = 3 ∨ j = 4 ∨ j = 5 ∨ j = 6 ∨ j = 7 ∨ j = 8 ∨ j = 9 ∨ j = 10 ∨ j = 11 ∨ j = 12 ∨ j = 13 ∨ j = 14 by omega) with rfl | rfl | rfl | rfl | rfl | rfl | rfl | rfl | rfl | rfl | rfl | rfl | rfl | rfl | rfl <;> rfl) ⟨Nat.le_of_ble_eq_true rfl, Nat.le_of_ble_eq_true rfl⟩ dX9_init_16 (fun q16 H z16 hG => ?_)
  obtain ⟨G16, i16⟩ : ∃ g : gH, g = va_up G12 q16 (some (.inr (.inr (.inr (4, [.int 0, .int 0, .int 0, .int 0, .int 0, .null, .int 0, .null, .null, .null, .null, .null, .null, .null, .int 0]))))) := ⟨_, rfl⟩
  rw [← i16] at hG
  replace h := h q16 z16 G16 i16
  refine lv_dup hx hb dX9_init_19 rfl ?_
  refine g_wI (b := q16) (As := []) (rest := [.ref q16, .ref a0]) (n := 0) hx hb hml hown hts hK hlo hG (m_X4_init l dd cT lo G16 q16 h) (List.mem_of_getElem? (i := 1) rfl) qI_yX4_init rfl qN_X4 qC_yX4_init (by decide +kernel) ⟨Nat.le_of_ble_eq_true rfl, Nat.le_of_ble_eq_true rfl⟩ rfl hl.1 rfl (Nat.le_of_ble_eq_true rfl) dX9_init_20 ⟨Nat.le_of_ble_eq_true rfl, Nat.le_of_ble_eq_true rfl⟩ (fun G20 H locs h hG => ?_)
  obtain ⟨G23, i23, h⟩ := h
  refine g_putvF hx hb hts inlX9 tyX9 tyX9_ok nmX9 hown hK hG (by rfl) 1 (by decide) qF_X9_19 rfl hnm rfl rfl rfl rfl i23 dX9_init_23 (fun H locs hG => ?_)
  refine lv_aload_n hx hb dX9_init_26 rfl (lv_at hl 0 rfl) ?_
  refine g_new (ci := 2) (fs := [.int 0, .int 0, .null]) hx hb hts inlX2 tyX2 tyX2_ok hown hK hlo hG rfl qL_X9_23 qA_X2 qN_X2 (fun j hj => by rcases (show j = 0 ∨ j = 1 ∨ j = 2 by omega) with rfl | rfl | rfl <;> rfl) ⟨Nat.le_of_ble_eq_true rfl, Nat.le_of_ble_eq_true rfl⟩ dX9_init_27 (fun q27 H z27 hG => ?_)
  obtain ⟨G27, i27⟩ : ∃ g : gH, g = va_up G23 q27 (some (.inr (.inr (.inr (2, [.int 0, .int 0, .null]))))) := ⟨_, rfl⟩
  rw [← i27] at hG
  replace h := h q27 z27 G27 i27
  refine lv_dup hx hb dX9_init_30 rfl ?_
  refine g_wI (b := q27) (As := []) (rest := [.ref q27, .ref a0]) (n := 0) hx hb hml hown hts hK hlo hG (m_X2_init l dd cT lo G27 q27 h) (List.mem_of_getElem? (i := 2) rfl) qI_yX2_init rfl qN_X2 qC_yX2_init (by decide +kernel) ⟨Nat.le_of_ble_eq_true rfl, Nat.le_of_ble_eq_true rfl⟩ rfl hl.1 rfl (Nat.le_of_ble_eq_true rfl) dX9_init_31 ⟨Nat.le_of_ble_eq_true rfl, Nat.le_of_ble_eq_true rfl⟩ (fun G31 H locs h hG => ?_)
  obtain ⟨G34, i34, h⟩ := h
  refine g_putvF hx hb hts inlX9 tyX9 tyX9_ok nmX9 hown hK hG (by rfl) 2 (by decide) qF_X9_26 rfl hnm rfl rfl rfl rfl i34 dX9_init_34 (fun H locs hG => ?_)
  refine lv_aload_n hx hb dX9_init_37 rfl (lv_at hl 0 rfl) ?_
  refine g_new (ci := 6) (fs := [.null, .null]) hx hb hts inlX6 tyX6 tyX6_ok hown hK hlo hG rfl qL_X9_30 qA_X6 qN_X6 (fun j hj => by rcases (show j = 0 ∨ j = 1 by omega) with rfl | rfl <;> rfl) ⟨Nat.le_of_ble_eq_true rfl, Nat.le_of_ble_eq_true rfl⟩ dX9_init_38 (fun q38 H z38 hG => ?_)
  obtain ⟨G38, i38⟩ : ∃ g : gH, g = va_up G34 q38 (some (.inr (.inr (.inr (6, [.null, .null]))))) := ⟨_, rfl⟩
  rw [← i38] at hG
  replace h := h q38 z38 G38 i38
  refine lv_dup hx hb dX9_init_41 rfl ?_
  refine g_wI (b := q38) (As := []) (rest := [.ref q38, .ref a0]) (n := 0) hx hb hml hown hts hK hlo hG (m_X6_init l dd cT lo G38 q38 h) (List.mem_of_getElem? (i := 3) rfl) qI_yX6_init rfl qN_X6 qC_yX6_init (by decide +kernel) ⟨Nat.le_of_ble_eq_true rfl, Nat.le_of_ble_eq_true rfl⟩ rfl hl.1 rfl (Nat.le_of_ble_eq_true rfl) dX9_init_42 ⟨Nat.le_of_ble_eq_true rfl, Nat.le_of_ble_eq_true rfl⟩ (fun G42 H locs h hG => ?_)
  obtain ⟨G45, i45, h⟩ := h
  refine g_putvF hx hb hts inlX9 tyX9 tyX9_ok nmX9 hown hK hG (by rfl) 3 (by decide) qF_X9_33 rfl hnm rfl rfl rfl rfl i45 dX9_init_45 (fun H locs hG => ?_)
  refine lv_aload_n hx hb dX9_init_48 rfl (lv_at hl 0 rfl) ?_
  refine g_new (ci := 8) (fs := [.int 0, .null, .null, .null, .null]) hx hb hts inlX8 tyX8 tyX8_ok hown hK hlo hG rfl qL_X9_37 qA_X8 qN_X8 (fun j hj => by rcases (show j = 0 ∨ j = 1 ∨ j = 2 ∨ j = 3 ∨ j = 4 by omega) with rfl | rfl | rfl | rfl | rfl <;> rfl) ⟨Nat.le_of_ble_eq_true rfl, Nat.le_of_ble_eq_true rfl⟩ dX9_init_49 (fun q49 H z49 hG => ?_)
  obtain ⟨G49, i49⟩ : ∃ g : gH, g = va_up G45 q49 (some (.inr (.inr (.inr (8, [.int 0, .null, .null, .null, .null]))))) := ⟨_, rfl⟩
  rw [← i49] at hG
  replace h := h q49 z49 G49 i49
  refine lv_dup hx hb dX9_init_52 rfl ?_
  refine g_wI (b := q49) (As := []) (rest := [.ref q49, .ref a0]) (n := 0) hx hb hml hown hts hK hlo hG (m_X8_init l dd cT lo G49 q49 h) (List.mem_of_getElem? (i := 4) rfl) qI_yX8_init rfl qN_X8 qC_yX8_init (by decide +kernel) ⟨Nat.le_of_ble_eq_true rfl, Nat.le_of_ble_eq_true rfl⟩ rfl hl.1 rfl (Nat.le_of_ble_eq_true rfl) dX9_init_53 ⟨Nat.le_of_ble_eq_true rfl, Nat.le_of_ble_eq_true rfl⟩ (fun G53 H locs h hG => ?_)
  obtain ⟨G56, i56, h⟩ := h
  refine g_putvF hx hb hts inlX9 tyX9 tyX9_ok nmX9 hown hK hG (by rfl) 4 (by decide) qF_X9_40 rfl hnm rfl rfl rfl rfl i56 dX9_init_56 (fun H locs hG => ?_)
  refine lv_aload_n hx hb dX9_init_59 rfl (lv_at hl 0 rfl) ?_
  refine g_new (ci := 1) (fs := [.null, .null, .null, .int 0, .null, .int 0, .null]) hx hb hts inlX1 tyX1 tyX1_ok hown hK hlo hG rfl qL_X9_44 qA_X1 qN_X1 (fun j hj => by rcases (show j = 0 ∨ j = 1 ∨ j = 2 ∨ j = 3 ∨ j = 4 ∨ j = 5 ∨ j = 6 by omega) with rfl | rfl | rfl | rfl | rfl | rfl | rfl <;> rfl) ⟨Nat.le_of_ble_eq_true rfl, Nat.le_of_ble_eq_true rfl⟩ dX9_init_60 (fun q60 H z60 hG => ?_)
  obtain ⟨G60, i60⟩ : ∃ g : gH, g = va_up G56 q60 (some (.inr (.inr (.inr (1, [.null, .null, .null, .int 0, .null, .int 0, .null]))))) := ⟨_, rfl⟩
  rw [← i60] at hG
  replace h := h q60 z60 G60 i60
  refine lv_dup hx hb dX9_init_63 rfl ?_
  refine g_wI (b := q60) (As := []) (rest := [.ref q60, .ref a0]) (n := 0) hx hb hml hown hts hK hlo hG (m_X1_init l dd cT lo G60 q60 h) (List.mem_of_getElem? (i := 5) rfl) qI_yX1_init rfl qN_X1 qC_yX1_init (by decide +kernel) ⟨Nat.le_of_ble_eq_true rfl, Nat.le_of_ble_eq_true rfl⟩ rfl hl.1 rfl (Nat.le_of_ble_eq_true rfl) dX9_init_64 ⟨Nat.le_of_ble_eq_true rfl, Nat.le_of_ble_eq_true rfl⟩ (fun G64 H locs h hG => ?_)
  obtain ⟨G67, i67, h⟩ := h
  refine g_putv hx hb hts inlX9 tyX9 tyX9_ok nmX9 hown hK hG (by rfl) 5 (by decide) qF_X9_47 rfl rfl rfl rfl i67 dX9_init_67 (fun H locs hG => ?_)
  refine lv_aload_n hx hb dX9_init_70 rfl (lv_at hl 0 rfl) ?_
  refine g_new (ci := 1) (fs := [.null, .null, .null, .int 0, .null, .int 0, .null]) hx hb hts inlX1 tyX1 tyX1_ok hown hK hlo hG rfl qL_X9_44 qA_X1 qN_X1 (fun j hj => by rcases (show j = 0 ∨ j = 1 ∨ j = 2 ∨ j = 3 ∨ j = 4 ∨ j = 5 ∨ j = 6 by omega) with rfl | rfl | rfl | rfl | rfl | rfl | rfl <;> rfl) ⟨Nat.le_of_ble_eq_true rfl, Nat.le_of_ble_eq_true rfl⟩ dX9_init_71 (fun q71 H z71 hG => ?_)
  obtain ⟨G71, i71⟩ : ∃ g : gH, g = va_up G67 q71 (some (.inr (.inr (.inr (1, [.null, .null, .null, .int 0, .null, .int 0, .null]))))) := ⟨_, rfl⟩
  rw [← i71] at hG
  replace h := h q71 z71 G71 i71
  refine lv_dup hx hb dX9_init_74 rfl ?_
  refine g_wI (b := q71) (As := []) (rest := [.ref q71, .ref a0]) (n := 0) hx hb hml hown hts hK hlo hG (m_X1_init l dd cT lo G71 q71 h) (List.mem_of_getElem? (i := 5) rfl) qI_yX1_init rfl qN_X1 qC_yX1_init (by decide +kernel) ⟨Nat.le_of_ble_eq_true rfl, Nat.le_of_ble_eq_true rfl⟩ rfl hl.1 rfl (Nat.le_of_ble_eq_true rfl) dX9_init_75 ⟨Nat.le_of_ble_eq_true rfl, Nat.le_of_ble_eq_true rfl⟩ (fun G75 H locs h hG => ?_)
  obtain ⟨G78, i78, h⟩ := h
  refine g_putv hx hb hts inlX9 tyX9 tyX9_ok nmX9 hown hK hG (by rfl) 6 (by decide) qF_X9_51 rfl rfl rfl rfl i78 dX9_init_78 (fun H locs hG => ?_)
  refine lv_aload_n hx hb dX9_init_81 rfl (lv_at hl 0 rfl) ?_
  obtain ⟨v82, e82, h⟩ := h
  refine g_getr hx hb hts inlX9 hown hK hG (by rfl) 5 (by decide) qF_X9_47 e82 dX9_init_82 ?_
  refine lv_bipush (v := (8 : Int32)) hx hb dX9_init_85 (by decide) ?_
  refine lv_iconst (v := (0 : Int32)) hx hb dX9_init_87 (by decide) ?_
  obtain ⟨u88, o88, h⟩ := h
  obtain ⟨G88, e88, h⟩ := h
  refine g_cVv (As := [.int (8 : Int32), .int (0 : Int32)]) (rest := []) (n := 2) hx hb hml hown hts hK hlo hG (m_X1_format l dd cT lo G78 v82 (8 : Int32) (0 : Int32) e88) qM_X9_54 qI_yX1_format qS_X1_yX1_format qN_X1 qC_yX1_format (by decide +kernel) ⟨Nat.le_of_ble_eq_true rfl, Nat.le_of_ble_eq_true rfl⟩ (by rfl) o88 rfl hl.1 rfl (Nat.le_of_ble_eq_true rfl) dX9_init_88 ⟨Nat.le_of_ble_eq_true rfl, Nat.le_of_ble_eq_true rfl⟩ (fun H locs hG => ?_)
  refine W.widen (k := 84) (n := 6468) (Nat.le_of_ble_eq_true rfl) (Nat.le_of_ble_eq_true rfl) ?_
  exact g_vret hx hb hr hlocks hK hlo hG h dX9_init_91
set_option maxRecDepth 20000 in
set_option maxHeartbeats 4000000 in
theorem m_X9_storeIn (l : Launch) (dd : va_G) (cT : Nat → ClassId) (lo : Nat → Prop) (G : gH) (a0 : Nat) (x1 : Int32) (a2 : Nat) {K : gH → Prop} (h : w_X9_storeIn G a0 x1 a2 K) : Met l yX9_storeIn (Cond.code yX9_storeIn cX9_storeIn 3 none :: wsL_law) (g_rm 3 80 30 1637) (va_Pc [.ref a0, .int x1, .ref a2] (g_Pre lo dd cT G)) (va_Qv K (g_Pre lo dd cT) (g_A lo)) 30 1637 (g_A lo) := by
  refine g_start RX9 rfl (by decide) (Nat.le_of_ble_eq_true rfl) ?_
  intro p e s m below meth c hx hb hr hlocks hml hown hnm hts hK hG hlo ls hl
  have hl : lv_has ls 3 [(0, .ref a0), (1, .int x1), (2, .ref a2)] := hl
  have hG : g_S lo dd cT s s.heap [] G := hG
  unfold w_X9_storeIn at h
  refine lv_iload_n hx hb dX9_storeIn_0 rfl (lv_at hl 1 rfl) ?_
  refine lv_if_lt (tgt := 33) hx hb dX9_storeIn_1 (by decide) (fun c1 => ?_) (fun c1 => ?_)
  · rw [if_pos c1] at h
    refine W.widen (k := 30) (n := 1637) (Nat.le_of_ble_eq_true rfl) (Nat.le_of_ble_eq_true rfl) ?_
    exact g_vret hx hb hr hlocks hK hlo hG h dX9_storeIn_33
  · rw [if_neg c1] at h
    refine lv_iload_n hx hb dX9_storeIn_4 rfl (lv_at hl 1 rfl) ?_
    refine lv_aload_n hx hb dX9_storeIn_5 rfl (lv_at hl 0 rfl) ?_
    obtain ⟨v6, e6, h⟩ := h
    refine g_alen hx hb hK hG e6 dX9_storeIn_6 ?_
    refine lv_icmp_ge (tgt := 33) hx hb dX9_storeIn_7 (by decide) (fun c7 => ?_) (fun c7 => ?_)
    · rw [if_pos c7] at h
      refine W.widen (k := 30) (n := 1637) (Nat.le_of_ble_eq_true rfl) (Nat.le_of_ble_eq_true rfl) ?_
      exact g_vret hx hb hr hlocks hK hlo hG h dX9_storeIn_33
    · rw [if_neg c7] at h
      refine lv_aload_n hx hb dX9_storeIn_10 rfl (lv_at hl 0 rfl) ?_
      refine lv_iload_n hx hb dX9_storeIn_11 rfl (lv_at hl 1 rfl) ?_
      obtain ⟨v12, e12, h⟩ := h
      refine g_qald_ hx hb hK hG e12 dX9_storeIn_12 ?_
      rcases v12 with _ | r13n
      · replace h := h.1 rfl
        refine lv_ifnonnullN hx hb dX9_storeIn_13 ?_
        refine lv_aload_n hx hb dX9_storeIn_16 rfl (lv_at hl 0 rfl) ?_
        refine lv_iload_n hx hb dX9_storeIn_17 rfl (lv_at hl 1 rfl) ?_
        refine g_new (ci := 1) (fs := [.null, .null, .null, .int 0, .null, .int 0, .null]) hx hb hts inlX1 tyX1 tyX1_ok hown hK hlo hG rfl qL_X9_44 qA_X1 qN_X1 (fun j hj => by rcases (show j = 0 ∨ j = 1 ∨ j = 2 ∨ j = 3 ∨ j = 4 ∨ j = 5 ∨ j = 6 by omega) with rfl | rfl | rfl | rfl | rfl | rfl | rfl <;> rfl) ⟨Nat.le_of_ble_eq_true rfl, Nat.le_of_ble_eq_true rfl⟩ dX9_storeIn_18 (fun q18 H z18 hG => ?_)
        obtain ⟨G18, i18⟩ : ∃ g : gH, g = va_up G q18 (some (.inr (.inr (.inr (1, [.null, .null, .null, .int 0, .null, .int 0, .null]))))) := ⟨_, rfl⟩
        rw [← i18] at hG
        replace h := h q18 z18 G18 i18
        refine lv_dup hx hb dX9_storeIn_21 rfl ?_
        refine g_wI (b := q18) (As := []) (rest := [.ref q18, .int x1, .ref a0]) (n := 0) hx hb hml hown hts hK hlo hG (m_X1_init l dd cT lo G18 q18 h) (List.mem_of_getElem? (i := 5) rfl) qI_yX1_init rfl qN_X1 qC_yX1_init (by decide +kernel) ⟨Nat.le_of_ble_eq_true rfl, Nat.le_of_ble_eq_true rfl⟩ rfl hl.1 rfl (Nat.le_of_ble_eq_true rfl) dX9_storeIn_22 ⟨Nat.le_of_ble_eq_true rfl, Nat.le_of_ble_eq_true rfl⟩ (fun G22 H locs h hG => ?_)
        obtain ⟨u25, o25, h⟩ := h
        obtain ⟨G25, e25, h⟩ := h
        refine g_qast_row hx hb hK hG o25 e25 dX9_storeIn_25 (fun H locs hG => ?_)
        refine lv_aload_n hx hb dX9_storeIn_26 rfl (lv_at hl 0 rfl) ?_
        refine lv_iload_n hx hb dX9_storeIn_27 rfl (lv_at hl 1 rfl) ?_
        obtain ⟨v28, e28, h⟩ := h
        refine g_qald_ hx hb hK hG e28 dX9_storeIn_28 ?_
        refine lv_aload_n hx hb dX9_storeIn_29 rfl (lv_at hl 2 rfl) ?_
        obtain ⟨r30a, e30a, h⟩ := h
        subst e30a
        obtain ⟨u30, o30, h⟩ := h
        obtain ⟨G30, e30, h⟩ := h
        refine g_cVv (As := [.ref a2]) (rest := []) (n := 1) hx hb hml hown hts hK hlo hG (m_X1_takeFrom l dd cT lo G25 r30a a2 e30) qM_X9_352 qI_yX1_takeFrom qS_X1_yX1_takeFrom qN_X1 qC_yX1_takeFrom (by decide +kernel) ⟨Nat.le_of_ble_eq_true rfl, Nat.le_of_ble_eq_true rfl⟩ (by rfl) o30 rfl hl.1 rfl (Nat.le_of_ble_eq_true rfl) dX9_storeIn_30 ⟨Nat.le_of_ble_eq_true rfl, Nat.le_of_ble_eq_true rfl⟩ (fun H locs hG => ?_)
        refine W.widen (k := 30) (n := 1637) (Nat.le_of_ble_eq_true rfl) (Nat.le_of_ble_eq_true rfl) ?_
        exact g_vret hx hb hr hlocks hK hlo hG h dX9_storeIn_33
      · replace h := h.2 (fun z => by cases z)
        refine lv_ifnonnull (tgt := 26) hx hb dX9_storeIn_13 (by decide) ?_
        refine lv_aload_n hx hb dX9_storeIn_26 rfl (lv_at hl 0 rfl) ?_
        refine lv_iload_n hx hb dX9_storeIn_27 rfl (lv_at hl 1 rfl) ?_
        obtain ⟨v28, e28, h⟩ := h
        refine g_qald_ hx hb hK hG e28 dX9_storeIn_28 ?_
        refine lv_aload_n hx hb dX9_storeIn_29 rfl (lv_at hl 2 rfl) ?_
        obtain ⟨r30a, e30a, h⟩ := h
        subst e30a
        obtain ⟨u30, o30, h⟩ := h
        obtain ⟨G30, e30, h⟩ := h
        refine g_cVv (As := [.ref a2]) (rest := []) (n := 1) hx hb hml hown hts hK hlo hG (m_X1_takeFrom l dd cT lo G r30a a2 e30) qM_X9_352 qI_yX1_takeFrom qS_X1_yX1_takeFrom qN_X1 qC_yX1_takeFrom (by decide +kernel) ⟨Nat.le_of_ble_eq_true rfl, Nat.le_of_ble_eq_true rfl⟩ (by rfl) o30 rfl hl.1 rfl (Nat.le_of_ble_eq_true rfl) dX9_storeIn_30 ⟨Nat.le_of_ble_eq_true rfl, Nat.le_of_ble_eq_true rfl⟩ (fun H locs hG => ?_)
        refine W.widen (k := 30) (n := 1637) (Nat.le_of_ble_eq_true rfl) (Nat.le_of_ble_eq_true rfl) ?_
        exact g_vret hx hb hr hlocks hK hlo hG h dX9_storeIn_33
set_option maxRecDepth 20000 in
set_option maxHeartbeats 4000000 in
theorem m_X2_keep (l : Launch) (dd : va_G) (cT : Nat → ClassId) (lo : Nat → Prop) (G : gH) (a0 : Nat) (a1 : Nat) {K : gH → Prop} (h : w_X2_keep G a0 a1 K) : Met l yX2_keep (Cond.code yX2_keep cX2_keep 3 none :: wsL_law) (g_rm 4 102 30 1637) (va_Pc [.ref a0, .ref a1] (g_Pre lo dd cT G)) (va_Qv K (g_Pre lo dd cT) (g_A lo)) 30 1637 (g_A lo) := by
  refine g_start RX2 rfl (by decide) (Nat.le_of_ble_eq_true rfl) ?_
  intro p e s m below meth c hx hb hr hlocks hml hown hnm hts hK hG hlo ls hl
  have hl : lv_has ls 3 [(0, .ref a0), (1, .ref a1)] := hl
  have hG : g_S lo dd cT s s.heap [] G := hG
  unfold w_X2_keep at h
  refine lv_aload_n hx hb dX2_keep_0 rfl (lv_at hl 0 rfl) ?_
  obtain ⟨v1, e1, h⟩ := h
  refine g_geti hx hb hts inlX2 hown hK hG (by rfl) 1 (by decide) qF_X2_15 e1 dX2_keep_1 ?_
  refine lv_aload_n hx hb dX2_keep_4 rfl (lv_at hl 0 rfl) ?_
  obtain ⟨v5, e5, h⟩ := h
  refine g_geti hx hb hts inlX2 hown hK hG (by rfl) 0 (by decide) qF_X2_9 e5 dX2_keep_5 ?_
  refine lv_iadd hx hb dX2_keep_8 ?_
  refine lv_bipush (v := (10 : Int32)) hx hb dX2_keep_9 (by decide) ?_
  refine lv_irem hx hb dX2_keep_11 (by decide) ?_
  refine lv_istore_n (lv' := [(2, .int ((v1 + v5) - (v1 + v5) / (10 : Int32) * (10 : Int32))), (0, .ref a0), (1, .ref a1)]) hx hb dX2_keep_12 rfl hl (by decide) rfl (fun ls hl => ?_)
  refine lv_aload_n hx hb dX2_keep_13 rfl (lv_at hl 1 rfl) ?_
  obtain ⟨v14, e14, h⟩ := h
  refine g_geti hx hb hts inlX2 hown hK hG (by rfl) 0 (by decide) qF_X2_9 e14 dX2_keep_14 ?_
  refine lv_bipush (v := (10 : Int32)) hx hb dX2_keep_17 (by decide) ?_
  refine lv_icmp_ge (tgt := 35) hx hb dX2_keep_19 (by decide) (fun c19 => ?_) (fun c19 => ?_)
  · rw [if_pos c19] at h
    refine lv_aload_n hx hb dX2_keep_35 rfl (lv_at hl 1 rfl) ?_
    refine lv_aload_n hx hb dX2_keep_36 rfl (lv_at hl 1 rfl) ?_
    obtain ⟨v37, e37, h⟩ := h
    refine g_geti hx hb hts inlX2 hown hK hG (by rfl) 1 (by decide) qF_X2_15 e37 dX2_keep_37 ?_
    refine lv_iconst (v := (1 : Int32)) hx hb dX2_keep_40 (by decide) ?_
    refine lv_iadd hx hb dX2_keep_41 ?_
    refine lv_bipush (v := (10 : Int32)) hx hb dX2_keep_42 (by decide) ?_
    refine lv_irem hx hb dX2_keep_44 (by decide) ?_
    obtain ⟨G45, i45, h⟩ := h
    refine g_putv hx hb hts inlX2 tyX2 tyX2_ok nmX2 hown hK hG (by rfl) 1 (by decide) qF_X2_15 rfl rfl rfl rfl i45 dX2_keep_45 (fun H locs hG => ?_)
    refine lv_aload_n hx hb dX2_keep_48 rfl (lv_at hl 1 rfl) ?_
    obtain ⟨v49, e49, h⟩ := h
    refine g_getr hx hb hts inlX2 hown hK hG (by rfl) 2 (by decide) qF_X2_20 e49 dX2_keep_49 ?_
    refine lv_iload_n hx hb dX2_keep_52 rfl (lv_at hl 0 rfl) ?_
    refine lv_aload_n hx hb dX2_keep_53 rfl (lv_at hl 2 rfl) ?_
    refine g_wNv (As := [.ref v49, .int ((v1 + v5) - (v1 + v5) / (10 : Int32) * (10 : Int32)), .ref a1]) (rest := []) (n := 3) hx hb hml hown hts hK hlo hG (m_X9_storeIn l dd cT lo G45 v49 ((v1 + v5) - (v1 + v5) / (10 : Int32) * (10 : Int32)) a1 h) (List.mem_of_getElem? (i := 23) rfl) qT_yX9_storeIn qN_X9 qC_yX9_storeIn (by decide +kernel) ⟨Nat.le_of_ble_eq_true rfl, Nat.le_of_ble_eq_true rfl⟩ rfl hl.1 rfl (Nat.le_of_ble_eq_true rfl) dX2_keep_54 ⟨Nat.le_of_ble_eq_true rfl, Nat.le_of_ble_eq_true rfl⟩ (fun G54 H locs h hG => ?_)
    refine W.widen (k := 30) (n := 1637) (Nat.le_of_ble_eq_true rfl) (Nat.le_of_ble_eq_true rfl) ?_
    exact g_vret hx hb hr hlocks hK hlo hG h dX2_keep_57
  · rw [if_neg c19] at h
    refine lv_aload_n hx hb dX2_keep_22 rfl (lv_at hl 1 rfl) ?_
    refine lv_dup hx hb dX2_keep_23 rfl ?_
    obtain ⟨v24, e24, h⟩ := h
    refine g_geti hx hb hts inlX2 hown hK hG (by rfl) 0 (by decide) qF_X2_9 e24 dX2_keep_24 ?_
    refine lv_iconst (v := (1 : Int32)) hx hb dX2_keep_27 (by decide) ?_
    refine lv_iadd hx hb dX2_keep_28 ?_
    obtain ⟨G29, i29, h⟩ := h
    refine g_putv hx hb hts inlX2 tyX2 tyX2_ok nmX2 hown hK hG (by rfl) 0 (by decide) qF_X2_9 rfl rfl rfl rfl i29 dX2_keep_29 (fun H locs hG => ?_)
    refine lv_goto (tgt := 48) hx hb dX2_keep_32 (by decide) ?_
    refine lv_aload_n hx hb dX2_keep_48 rfl (lv_at hl 1 rfl) ?_
    obtain ⟨v49, e49, h⟩ := h
    refine g_getr hx hb hts inlX2 hown hK hG (by rfl) 2 (by decide) qF_X2_20 e49 dX2_keep_49 ?_
    refine lv_iload_n hx hb dX2_keep_52 rfl (lv_at hl 0 rfl) ?_
    refine lv_aload_n hx hb dX2_keep_53 rfl (lv_at hl 2 rfl) ?_
    refine g_wNv (As := [.ref v49, .int ((v1 + v5) - (v1 + v5) / (10 : Int32) * (10 : Int32)), .ref a1]) (rest := []) (n := 3) hx hb hml hown hts hK hlo hG (m_X9_storeIn l dd cT lo G29 v49 ((v1 + v5) - (v1 + v5) / (10 : Int32) * (10 : Int32)) a1 h) (List.mem_of_getElem? (i := 23) rfl) qT_yX9_storeIn qN_X9 qC_yX9_storeIn (by decide +kernel) ⟨Nat.le_of_ble_eq_true rfl, Nat.le_of_ble_eq_true rfl⟩ rfl hl.1 rfl (Nat.le_of_ble_eq_true rfl) dX2_keep_54 ⟨Nat.le_of_ble_eq_true rfl, Nat.le_of_ble_eq_true rfl⟩ (fun G54 H locs h hG => ?_)
    refine W.widen (k := 30) (n := 1637) (Nat.le_of_ble_eq_true rfl) (Nat.le_of_ble_eq_true rfl) ?_
    exact g_vret hx hb hr hlocks hK hlo hG h dX2_keep_57
set_option maxRecDepth 20000 in
set_option maxHeartbeats 4000000 in
theorem m_X9_checkIndex (l : Launch) (hfl : l.stackTraces = false) (dd : va_G) (cT : Nat → ClassId) (lo : Nat → Prop) (G : gH) (x0 : Int32) (x1 : Int32) {KX : String → gH → Prop} {K : gH → Prop} (h : w_X9_checkIndex G x0 x1 KX K) : vx_Met l yX9_checkIndex (Cond.code yX9_checkIndex cX9_checkIndex 2 none :: wsL_law) (g_rm 6 82 1 6) (va_Pc [.int x0, .int x1] (g_Pre lo dd cT G)) (va_Qv K (g_Pre lo dd cT) (g_A lo)) (g_XC lo dd cT KX) 1 6 (g_A lo) := by
  refine g_startX RX9 rfl (by decide) (Nat.le_of_ble_eq_true rfl) ?_
  intro p e s m below meth c hx hb hr hlocks hml hnone hown hnm hts hK hG hlo ls hl
  have hl : lv_has ls 2 [(0, .int x0), (1, .int x1)] := hl
  have hG : g_S lo dd cT s s.heap [] G := hG
  unfold w_X9_checkIndex at h
  refine lv_iload_n hx hb dX9_checkIndex_0 rfl (lv_at hl 0 rfl) ?_
  refine lv_if_lt (tgt := 9) hx hb dX9_checkIndex_1 (by decide) (fun c1 => ?_) (fun c1 => ?_)
  · rw [if_pos c1] at h
    exact g_throw (text := "there is no such block, file, session or slot") hx hb (hml.trans hl.1.symm) hfl hown hts hlocks hnone hG (by decide +kernel) (List.mem_of_getElem? (i := 0) rfl) qL_X9_325 qN_java_lang_IndexOutOfBoundsException g_inIOB (by decide +kernel) (by decide +kernel) rfl dX9_checkIndex_9 dX9_checkIndex_12 dX9_checkIndex_13 dX9_checkIndex_16 dX9_checkIndex_19 ⟨Nat.le_of_ble_eq_true rfl, Nat.le_of_ble_eq_true rfl⟩ ⟨Nat.le_of_ble_eq_true rfl, Nat.le_of_ble_eq_true rfl⟩ h (Nat.le_of_ble_eq_true rfl) (Nat.le_of_ble_eq_true rfl)
  · rw [if_neg c1] at h
    refine lv_iload_n hx hb dX9_checkIndex_4 rfl (lv_at hl 0 rfl) ?_
    refine lv_iload_n hx hb dX9_checkIndex_5 rfl (lv_at hl 1 rfl) ?_
    refine lv_icmp_lt (tgt := 20) hx hb dX9_checkIndex_6 (by decide) (fun c6 => ?_) (fun c6 => ?_)
    · rw [if_pos c6] at h
      refine W.widen (k := 1) (n := 6) (Nat.le_of_ble_eq_true rfl) (Nat.le_of_ble_eq_true rfl) ?_
      exact vx_ret (g_vret hx hb hr hlocks hK hlo hG h dX9_checkIndex_20)
    · rw [if_neg c6] at h
      exact g_throw (text := "there is no such block, file, session or slot") hx hb (hml.trans hl.1.symm) hfl hown hts hlocks hnone hG (by decide +kernel) (List.mem_of_getElem? (i := 0) rfl) qL_X9_325 qN_java_lang_IndexOutOfBoundsException g_inIOB (by decide +kernel) (by decide +kernel) rfl dX9_checkIndex_9 dX9_checkIndex_12 dX9_checkIndex_13 dX9_checkIndex_16 dX9_checkIndex_19 ⟨Nat.le_of_ble_eq_true rfl, Nat.le_of_ble_eq_true rfl⟩ ⟨Nat.le_of_ble_eq_true rfl, Nat.le_of_ble_eq_true rfl⟩ h (Nat.le_of_ble_eq_true rfl) (Nat.le_of_ble_eq_true rfl)
set_option maxRecDepth 20000 in
set_option maxHeartbeats 4000000 in
theorem m_X9_checkRange (l : Launch) (hfl : l.stackTraces = false) (dd : va_G) (cT : Nat → ClassId) (lo : Nat → Prop) (G : gH) (x0 : Int32) (x1 : Int32) (x2 : Int32) {KX : String → gH → Prop} {K : gH → Prop} (h : w_X9_checkRange G x0 x1 x2 KX K) : vx_Met l yX9_checkRange (Cond.code yX9_checkRange cX9_checkRange 3 none :: wsL_law) (g_rm 6 82 1 6) (va_Pc [.int x0, .int x1, .int x2] (g_Pre lo dd cT G)) (va_Qv K (g_Pre lo dd cT) (g_A lo)) (g_XC lo dd cT KX) 1 6 (g_A lo) := by
  refine g_startX RX9 rfl (by decide) (Nat.le_of_ble_eq_true rfl) ?_
  intro p e s m below meth c hx hb hr hlocks hml hnone hown hnm hts hK hG hlo ls hl
  have hl : lv_has ls 3 [(0, .int x0), (1, .int x1), (2, .int x2)] := hl
  have hG : g_S lo dd cT s s.heap [] G := hG
  unfold w_X9_checkRange at h
  refine lv_iload_n hx hb dX9_checkRange_0 rfl (lv_at hl 0 rfl) ?_
  refine lv_iload_n hx hb dX9_checkRange_1 rfl (lv_at hl 1 rfl) ?_
  refine lv_icmp_lt (tgt := 10) hx hb dX9_checkRange_2 (by decide) (fun c2 => ?_) (fun c2 => ?_)
  · rw [if_pos c2] at h
    exact g_throw (text := "an argument is out of its range") hx hb (hml.trans hl.1.symm) hfl hown hts hlocks hnone hG (by decide +kernel) (List.mem_of_getElem? (i := 1) rfl) qL_X9_330 qN_java_lang_IllegalArgumentException g_inIAE (by decide +kernel) (by decide +kernel) rfl dX9_checkRange_10 dX9_checkRange_13 dX9_checkRange_14 dX9_checkRange_17 dX9_checkRange_20 ⟨Nat.le_of_ble_eq_true rfl, Nat.le_of_ble_eq_true rfl⟩ ⟨Nat.le_of_ble_eq_true rfl, Nat.le_of_ble_eq_true rfl⟩ h (Nat.le_of_ble_eq_true rfl) (Nat.le_of_ble_eq_true rfl)
  · rw [if_neg c2] at h
    refine lv_iload_n hx hb dX9_checkRange_5 rfl (lv_at hl 0 rfl) ?_
    refine lv_iload_n hx hb dX9_checkRange_6 rfl (lv_at hl 2 rfl) ?_
    refine lv_icmp_le (tgt := 21) hx hb dX9_checkRange_7 (by decide) (fun c7 => ?_) (fun c7 => ?_)
    · rw [if_pos c7] at h
      refine W.widen (k := 1) (n := 6) (Nat.le_of_ble_eq_true rfl) (Nat.le_of_ble_eq_true rfl) ?_
      exact vx_ret (g_vret hx hb hr hlocks hK hlo hG h dX9_checkRange_21)
    · rw [if_neg c7] at h
      exact g_throw (text := "an argument is out of its range") hx hb (hml.trans hl.1.symm) hfl hown hts hlocks hnone hG (by decide +kernel) (List.mem_of_getElem? (i := 1) rfl) qL_X9_330 qN_java_lang_IllegalArgumentException g_inIAE (by decide +kernel) (by decide +kernel) rfl dX9_checkRange_10 dX9_checkRange_13 dX9_checkRange_14 dX9_checkRange_17 dX9_checkRange_20 ⟨Nat.le_of_ble_eq_true rfl, Nat.le_of_ble_eq_true rfl⟩ ⟨Nat.le_of_ble_eq_true rfl, Nat.le_of_ble_eq_true rfl⟩ h (Nat.le_of_ble_eq_true rfl) (Nat.le_of_ble_eq_true rfl)
set_option maxRecDepth 20000 in
set_option maxHeartbeats 4000000 in
theorem m_X9_checkAllowed (l : Launch) (hfl : l.stackTraces = false) (dd : va_G) (cT : Nat → ClassId) (lo : Nat → Prop) (G : gH) (x0 : Int32) {KX : String → gH → Prop} {K : gH → Prop} (h : w_X9_checkAllowed G x0 KX K) : vx_Met l yX9_checkAllowed (Cond.code yX9_checkAllowed cX9_checkAllowed 1 none :: wsL_law) (g_rm 6 82 1 6) (va_Pc [.int x0] (g_Pre lo dd cT G)) (va_Qv K (g_Pre lo dd cT) (g_A lo)) (g_XC lo dd cT KX) 1 6 (g_A lo) := by
  refine g_startX RX9 rfl (by decide) (Nat.le_of_ble_eq_true rfl) ?_
  intro p e s m below meth c hx hb hr hlocks hml hnone hown hnm hts hK hG hlo ls hl
  have hl : lv_has ls 1 [(0, .int x0)] := hl
  have hG : g_S lo dd cT s s.heap [] G := hG
  unfold w_X9_checkAllowed at h
  refine lv_iload_n hx hb dX9_checkAllowed_0 rfl (lv_at hl 0 rfl) ?_
  refine lv_if_eq (tgt := 15) hx hb dX9_checkAllowed_1 (by decide) (fun c1 => ?_) (fun c1 => ?_)
  · rw [if_pos c1] at h
    refine W.widen (k := 1) (n := 6) (Nat.le_of_ble_eq_true rfl) (Nat.le_of_ble_eq_true rfl) ?_
    exact vx_ret (g_vret hx hb hr hlocks hK hlo hG h dX9_checkAllowed_15)
  · rw [if_neg c1] at h
    exact g_throw (text := "this is refused now") hx hb (hml.trans hl.1.symm) hfl hown hts hlocks hnone hG (by decide +kernel) (List.mem_of_getElem? (i := 2) rfl) qL_X9_315 qN_java_lang_IllegalStateException g_inISE (by decide +kernel) (by decide +kernel) rfl dX9_checkAllowed_4 dX9_checkAllowed_7 dX9_checkAllowed_8 dX9_checkAllowed_11 dX9_checkAllowed_14 ⟨Nat.le_of_ble_eq_true rfl, Nat.le_of_ble_eq_true rfl⟩ ⟨Nat.le_of_ble_eq_true rfl, Nat.le_of_ble_eq_true rfl⟩ h (Nat.le_of_ble_eq_true rfl) (Nat.le_of_ble_eq_true rfl)
set_option maxRecDepth 20000 in
set_option maxHeartbeats 4000000 in
theorem m_X9_parse (l : Launch) (hfl : l.stackTraces = false) (dd : va_G) (cT : Nat → ClassId) (lo : Nat → Prop) (G : gH) (a0 : Nat) (x1 : Int32) {KX : String → gH → Prop} {K : Int32 → gH → Prop} (h : w_X9_parse G a0 x1 KX K) : vx_Met l yX9_parse (Cond.code yX9_parse cX9_parse 3 (some .int) :: wsL_law) (g_rm 9 198 1 6) (va_Pc [.ref a0, .int x1] (g_Pre lo dd cT G)) (va_Qi K (g_Pre lo dd cT) (g_A lo)) (g_XC lo dd cT KX) 1 6 (g_A lo) := by
  refine g_startX RX9 rfl (by decide) (Nat.le_of_ble_eq_true rfl) ?_
  intro p e s m below meth c hx hb hr hlocks hml hnone hown hnm hts hK hG hlo ls hl
  have hl : lv_has ls 3 [(0, .ref a0), (1, .int x1)] := hl
  have hG : g_S lo dd cT s s.heap [] G := hG
  unfold w_X9_parse at h
  refine lv_iload_n hx hb dX9_parse_0 rfl (lv_at hl 1 rfl) ?_
  refine lv_iconst (v := (0 : Int32)) hx hb dX9_parse_1 (by decide) ?_
  refine lv_aload_n hx hb dX9_parse_2 rfl (lv_at hl 0 rfl) ?_
  obtain ⟨v3, e3, h⟩ := h
  refine g_getr hx hb hts inlX9 hown hK hG (by rfl) 0 (by decide) qF_X9_12 e3 dX9_parse_3 ?_
  obtain ⟨v6, e6, h⟩ := h
  refine g_geti hx hb hts inlX3 hown hK hG (by rfl) 1 (by decide) qF_X9_66 e6 dX9_parse_6 ?_
  refine g_xSv (As := [.int x1, .int (0 : Int32), .int v6]) (rest := []) (n := 3) hx hb hml hown hts hK hlo hG (m_X9_checkRange l hfl dd cT lo G x1 (0 : Int32) v6 h) qM_X9_70 qT_yX9_checkRange qN_X9 qC_yX9_checkRange (by decide +kernel) ⟨Nat.le_of_ble_eq_true rfl, Nat.le_of_ble_eq_true rfl⟩ rfl hl.1 rfl (Nat.le_of_ble_eq_true rfl) dX9_parse_9 ⟨Nat.le_of_ble_eq_true rfl, Nat.le_of_ble_eq_true rfl⟩ (fun E ce q9 G1 H locs hKX hG a1 a2 a3 => g_out hlocks hnone hG a1 a2 a3 hKX (Nat.le_of_ble_eq_true rfl) (Nat.le_of_ble_eq_true rfl)) (fun G9 H locs h hG => ?_)
  refine lv_aload_n hx hb dX9_parse_12 rfl (lv_at hl 0 rfl) ?_
  obtain ⟨v13, e13, h⟩ := h
  refine g_getr hx hb hts inlX9 hown hK hG (by rfl) 1 (by decide) qF_X9_19 e13 dX9_parse_13 ?_
  refine lv_aload_n hx hb dX9_parse_16 rfl (lv_at hl 0 rfl) ?_
  obtain ⟨v17, e17, h⟩ := h
  refine g_getr hx hb hts inlX9 hown hK hG (by rfl) 0 (by decide) qF_X9_12 e17 dX9_parse_17 ?_
  refine lv_iload_n hx hb dX9_parse_20 rfl (lv_at hl 1 rfl) ?_
  obtain ⟨u21, o21, h⟩ := h
  obtain ⟨G21, e21, h⟩ := h
  refine g_cVv (As := [.ref v17, .int x1]) (rest := []) (n := 2) hx hb hml hown hts hK hlo hG (m_X4_read l dd cT lo G9 v13 v17 x1 e21) qM_X9_74 qI_yX4_read qS_X4_yX4_read qN_X4 qC_yX4_read (by decide +kernel) ⟨Nat.le_of_ble_eq_true rfl, Nat.le_of_ble_eq_true rfl⟩ (by rfl) o21 rfl hl.1 rfl (Nat.le_of_ble_eq_true rfl) dX9_parse_21 ⟨Nat.le_of_ble_eq_true rfl, Nat.le_of_ble_eq_true rfl⟩ (fun H locs hG => ?_)
  refine lv_aload_n hx hb dX9_parse_24 rfl (lv_at hl 0 rfl) ?_
  obtain ⟨v25, e25, h⟩ := h
  refine g_getr hx hb hts inlX9 hown hK hG (by rfl) 0 (by decide) qF_X9_12 e25 dX9_parse_25 ?_
  refine lv_iconst (v := (0 : Int32)) hx hb dX9_parse_28 (by decide) ?_
  obtain ⟨G29, i29, h⟩ := h
  refine g_putv hx hb hts inlX3 tyX3 tyX3_ok nmX3 hown hK hG (by rfl) 1 (by decide) qF_X9_66 rfl rfl rfl rfl i29 dX9_parse_29 (fun H locs hG => ?_)
  refine lv_aload_n hx hb dX9_parse_32 rfl (lv_at hl 0 rfl) ?_
  obtain ⟨v33, e33, h⟩ := h
  refine g_getr hx hb hts inlX9 hown hK hG (by rfl) 6 (by decide) qF_X9_51 e33 dX9_parse_33 ?_
  refine lv_aload_n hx hb dX9_parse_36 rfl (lv_at hl 0 rfl) ?_
  obtain ⟨v37, e37, h⟩ := h
  refine g_getr hx hb hts inlX9 hown hK hG (by rfl) 1 (by decide) qF_X9_19 e37 dX9_parse_37 ?_
  obtain ⟨u40, o40, h⟩ := h
  obtain ⟨G40, e40, h⟩ := h
  refine g_cVv (As := [.ref v37]) (rest := []) (n := 1) hx hb hml hown hts hK hlo hG (m_X1_begin l dd cT lo G29 v33 v37 e40) qM_X9_78 qI_yX1_begin qS_X1_yX1_begin qN_X1 qC_yX1_begin (by decide +kernel) ⟨Nat.le_of_ble_eq_true rfl, Nat.le_of_ble_eq_true rfl⟩ (by rfl) o40 rfl hl.1 rfl (Nat.le_of_ble_eq_true rfl) dX9_parse_40 ⟨Nat.le_of_ble_eq_true rfl, Nat.le_of_ble_eq_true rfl⟩ (fun H locs hG => ?_)
  refine lv_iconst (v := (0 : Int32)) hx hb dX9_parse_43 (by decide) ?_
  refine lv_istore_n (lv' := [(2, .int (0 : Int32)), (0, .ref a0), (1, .int x1)]) hx hb dX9_parse_44 rfl hl (by decide) rfl (fun ls hl => ?_)
  obtain ⟨⟨Gz, rz⟩, h, hk⟩ := h
  have h100 : ∀ (G : gH) (ba0 : Nat), ∀ (H : Heap) (locs : List Loc), g_S lo dd cT s H locs G → ∀ ls : Array Slot, lv_has ls 3 [(0, .ref ba0)] → f_X9_parse_J100 G ba0 = some (Gz, rz) → W p l e (g_rm 9 198 1 6) s m ([.ref a0, .int x1] : List Value).toArray below meth c H locs 1 6 (vx_MQ below (va_Qi K (g_Pre lo dd cT) (g_A lo)) (g_XC lo dd cT KX) ([.ref a0, .int x1] : List Value).toArray s 1 6 (g_A lo)) (F0 m 100 ls []) := by
    intro G ba0 H locs hG ls hl h
    unfold f_X9_parse_J100 at h
    refine lv_aload_n hx hb dX9_parse_100 rfl (lv_at hl 0 rfl) ?_
    obtain ⟨v101, e101, h⟩ := Option.bind_eq_some_iff.mp h
    refine g_getr hx hb hts inlX9 hown hK hG (by rfl) 1 (by decide) qF_X9_19 e101 dX9_parse_101 ?_
    obtain ⟨v104, e104, h⟩ := Option.bind_eq_some_iff.mp h
    refine g_geti hx hb hts inlX4 hown hK hG (by rfl) 0 (by decide) qF_X9_96 e104 dX9_parse_104 ?_
    refine lv_if_ne (tgt := 142) hx hb dX9_parse_107 (by decide) (fun c107 => ?_) (fun c107 => ?_)
    · rw [if_neg c107] at h
      refine lv_aload_n hx hb dX9_parse_142 rfl (lv_at hl 0 rfl) ?_
      obtain ⟨v143, e143, h⟩ := Option.bind_eq_some_iff.mp h
      refine g_getr hx hb hts inlX9 hown hK hG (by rfl) 1 (by decide) qF_X9_19 e143 dX9_parse_143 ?_
      obtain ⟨v146, e146, h⟩ := Option.bind_eq_some_iff.mp h
      refine g_geti hx hb hts inlX4 hown hK hG (by rfl) 0 (by decide) qF_X9_96 e146 dX9_parse_146 ?_
      obtain ⟨rfl, rfl⟩ := Prod.mk.inj (Option.some.inj h)
      exact vx_ret (g_iret hx hb hr hlocks hK hlo hG hk dX9_parse_149)
    · rw [if_pos c107] at h
      refine lv_aload_n hx hb dX9_parse_110 rfl (lv_at hl 0 rfl) ?_
      obtain ⟨v111, e111, h⟩ := Option.bind_eq_some_iff.mp h
      refine g_getr hx hb hts inlX9 hown hK hG (by rfl) 5 (by decide) qF_X9_47 e111 dX9_parse_111 ?_
      refine lv_astore_n (lv' := [(2, .ref v111), (0, .ref ba0)]) hx hb dX9_parse_114 rfl hl (by decide) rfl (fun ls hl => ?_)
      refine lv_aload_n hx hb dX9_parse_115 rfl (lv_at hl 1 rfl) ?_
      refine lv_aload_n hx hb dX9_parse_116 rfl (lv_at hl 1 rfl) ?_
      obtain ⟨v117, e117, h⟩ := Option.bind_eq_some_iff.mp h
      refine g_getr hx hb hts inlX9 hown hK hG (by rfl) 6 (by decide) qF_X9_51 e117 dX9_parse_117 ?_
      obtain ⟨G120, i120, h⟩ := Option.bind_eq_some_iff.mp h
      refine g_putv hx hb hts inlX9 tyX9 tyX9_ok nmX9 hown hK hG (by rfl) 5 (by decide) qF_X9_47 rfl rfl rfl rfl i120 dX9_parse_120 (fun H locs hG => ?_)
      refine lv_aload_n hx hb dX9_parse_123 rfl (lv_at hl 1 rfl) ?_
      refine lv_aload_n hx hb dX9_parse_124 rfl (lv_at hl 0 rfl) ?_
      obtain ⟨G125, i125, h⟩ := Option.bind_eq_some_iff.mp h
      refine g_putv hx hb hts inlX9 tyX9 tyX9_ok nmX9 hown hK hG (by rfl) 6 (by decide) qF_X9_51 rfl rfl rfl rfl i125 dX9_parse_125 (fun H locs hG => ?_)
      refine lv_aload_n hx hb dX9_parse_128 rfl (lv_at hl 1 rfl) ?_
      obtain ⟨v129, e129, h⟩ := Option.bind_eq_some_iff.mp h
      refine g_getr hx hb hts inlX9 hown hK hG (by rfl) 2 (by decide) qF_X9_26 e129 dX9_parse_129 ?_
      obtain ⟨u132, i132, h⟩ := Option.bind_eq_some_iff.mp h
      obtain ⟨G132, e132, h⟩ := Option.bind_eq_some_iff.mp h
      refine g_cVv (As := []) (rest := []) (n := 0) hx hb hml hown hts hK hlo hG (m_X2_clear l dd cT lo G125 v129 e132) qM_X9_99 qI_yX2_clear qS_X2_yX2_clear qN_X2 qC_yX2_clear (by decide +kernel) ⟨Nat.le_of_ble_eq_true rfl, Nat.le_of_ble_eq_true rfl⟩ (by rfl) i132 rfl hl.1 rfl (Nat.le_of_ble_eq_true rfl) dX9_parse_132 ⟨Nat.le_of_ble_eq_true rfl, Nat.le_of_ble_eq_true rfl⟩ (fun H locs hG => ?_)
      refine lv_aload_n hx hb dX9_parse_135 rfl (lv_at hl 1 rfl) ?_
      obtain ⟨v136, e136, h⟩ := Option.bind_eq_some_iff.mp h
      refine g_getr hx hb hts inlX9 hown hK hG (by rfl) 3 (by decide) qF_X9_33 e136 dX9_parse_136 ?_
      obtain ⟨u139, i139, h⟩ := Option.bind_eq_some_iff.mp h
      obtain ⟨G139, e139, h⟩ := Option.bind_eq_some_iff.mp h
      refine g_cVv (As := []) (rest := []) (n := 0) hx hb hml hown hts hK hlo hG (m_X6_clear l dd cT lo G132 v136 e139) qM_X9_102 qI_yX6_clear qS_X6_yX6_clear qN_X6 qC_yX6_clear (by decide +kernel) ⟨Nat.le_of_ble_eq_true rfl, Nat.le_of_ble_eq_true rfl⟩ (by rfl) i139 rfl hl.1 rfl (Nat.le_of_ble_eq_true rfl) dX9_parse_139 ⟨Nat.le_of_ble_eq_true rfl, Nat.le_of_ble_eq_true rfl⟩ (fun H locs hG => ?_)
      refine lv_aload_n hx hb dX9_parse_142 rfl (lv_at hl 1 rfl) ?_
      obtain ⟨v143, e143, h⟩ := Option.bind_eq_some_iff.mp h
      refine g_getr hx hb hts inlX9 hown hK hG (by rfl) 1 (by decide) qF_X9_19 e143 dX9_parse_143 ?_
      obtain ⟨v146, e146, h⟩ := Option.bind_eq_some_iff.mp h
      refine g_geti hx hb hts inlX4 hown hK hG (by rfl) 0 (by decide) qF_X9_96 e146 dX9_parse_146 ?_
      obtain ⟨rfl, rfl⟩ := Prod.mk.inj (Option.some.inj h)
      exact vx_ret (g_iret hx hb hr hlocks hK hlo hG hk dX9_parse_149)
  have h45 : ∀ n : Nat, ∀ (G : gH) (ba0 : Nat) (bx2 : Int32), ∀ (H : Heap) (locs : List Loc), g_S lo dd cT s H locs G → ∀ ls : Array Slot, lv_has ls 3 [(0, .ref ba0), (2, .int bx2)] → f_X9_parse_L45 n G ba0 bx2 = some (Gz, rz) → W p l e (g_rm 9 198 1 6) s m ([.ref a0, .int x1] : List Value).toArray below meth c H locs 1 6 (vx_MQ below (va_Qi K (g_Pre lo dd cT) (g_A lo)) (g_XC lo dd cT KX) ([.ref a0, .int x1] : List Value).toArray s 1 6 (g_A lo)) (F0 m 45 ls []) := by
    intro n
    induction n with
    | zero =>
      intro G ba0 bx2 H locs hG ls hl h
      cases (show (none : Option (gH × Int32)) = some (Gz, rz) from h)
    | succ n ih =>
      intro G ba0 bx2 H locs hG ls hl h
      rw [f_X9_parse_L45] at h
      refine lv_iload_n hx hb dX9_parse_45 rfl (lv_at hl 1 rfl) ?_
      refine lv_aload_n hx hb dX9_parse_46 rfl (lv_at hl 0 rfl) ?_
      obtain ⟨v47, e47, h⟩ := Option.bind_eq_some_iff.mp h
      refine g_getr hx hb hts inlX9 hown hK hG (by rfl) 1 (by decide) qF_X9_19 e47 dX9_parse_47 ?_
      obtain ⟨v50, e50, h⟩ := Option.bind_eq_some_iff.mp h
      refine g_geti hx hb hts inlX4 hown hK hG (by rfl) 6 (by decide) qF_X9_82 e50 dX9_parse_50 ?_
      refine lv_icmp_ge (tgt := 100) hx hb dX9_parse_53 (by decide) (fun c53 => ?_) (fun c53 => ?_)
      · rw [if_pos c53] at h
        exact h100 G ba0 _ _ hG _ (lv_sub hl [0] rfl) h
      · rw [if_neg c53] at h
        refine lv_aload_n hx hb dX9_parse_56 rfl (lv_at hl 0 rfl) ?_
        obtain ⟨v57, e57, h⟩ := Option.bind_eq_some_iff.mp h
        refine g_getr hx hb hts inlX9 hown hK hG (by rfl) 6 (by decide) qF_X9_51 e57 dX9_parse_57 ?_
        refine lv_aload_n hx hb dX9_parse_60 rfl (lv_at hl 0 rfl) ?_
        obtain ⟨v61, e61, h⟩ := Option.bind_eq_some_iff.mp h
        refine g_getr hx hb hts inlX9 hown hK hG (by rfl) 1 (by decide) qF_X9_19 e61 dX9_parse_61 ?_
        refine lv_iload_n hx hb dX9_parse_64 rfl (lv_at hl 1 rfl) ?_
        obtain ⟨u65, i65, h⟩ := Option.bind_eq_some_iff.mp h
        obtain ⟨q65, e65, h⟩ := Option.bind_eq_some_iff.mp h
        refine g_cVi (As := [.ref v61, .int bx2]) (rest := []) (n := 2) hx hb hml hown hts hK hlo hG (m_X1_reasonAgainstStatement l dd cT lo G v57 v61 bx2 e65) qM_X9_85 qI_yX1_reasonAgainstStatement qS_X1_yX1_reasonAgainstStatement qN_X1 qC_yX1_reasonAgainstStatement (by decide +kernel) ⟨Nat.le_of_ble_eq_true rfl, Nat.le_of_ble_eq_true rfl⟩ (by rfl) i65 rfl hl.1 rfl (Nat.le_of_ble_eq_true rfl) dX9_parse_65 ⟨Nat.le_of_ble_eq_true rfl, Nat.le_of_ble_eq_true rfl⟩ (fun H locs hG => ?_)
        refine lv_if_eq (tgt := 82) hx hb dX9_parse_68 (by decide) (fun c68 => ?_) (fun c68 => ?_)
        · rw [if_pos c68] at h
          refine lv_aload_n hx hb dX9_parse_82 rfl (lv_at hl 0 rfl) ?_
          obtain ⟨v83, e83, h⟩ := Option.bind_eq_some_iff.mp h
          refine g_getr hx hb hts inlX9 hown hK hG (by rfl) 6 (by decide) qF_X9_51 e83 dX9_parse_83 ?_
          refine lv_aload_n hx hb dX9_parse_86 rfl (lv_at hl 0 rfl) ?_
          obtain ⟨v87, e87, h⟩ := Option.bind_eq_some_iff.mp h
          refine g_getr hx hb hts inlX9 hown hK hG (by rfl) 1 (by decide) qF_X9_19 e87 dX9_parse_87 ?_
          refine lv_iload_n hx hb dX9_parse_90 rfl (lv_at hl 1 rfl) ?_
          obtain ⟨u91, i91, h⟩ := Option.bind_eq_some_iff.mp h
          obtain ⟨G91, e91, h⟩ := Option.bind_eq_some_iff.mp h
          refine g_cVv (As := [.ref v87, .int bx2]) (rest := []) (n := 2) hx hb hml hown hts hK hlo hG (m_X1_doStatement l dd cT lo q65.1 v83 v87 bx2 e91) qM_X9_92 qI_yX1_doStatement qS_X1_yX1_doStatement qN_X1 qC_yX1_doStatement (by decide +kernel) ⟨Nat.le_of_ble_eq_true rfl, Nat.le_of_ble_eq_true rfl⟩ (by rfl) i91 rfl hl.1 rfl (Nat.le_of_ble_eq_true rfl) dX9_parse_91 ⟨Nat.le_of_ble_eq_true rfl, Nat.le_of_ble_eq_true rfl⟩ (fun H locs hG => ?_)
          refine lv_iinc (v := (bx2 + (1 : Int32))) (lv' := [(2, .int (bx2 + (1 : Int32))), (0, .ref ba0)]) hx hb dX9_parse_94 hl (k := 1) rfl rfl (by decide) rfl (fun ls hl => ?_)
          refine lv_goto (tgt := 45) hx hb dX9_parse_97 (by decide) ?_
          exact ih G91 ba0 (bx2 + (1 : Int32)) _ _ hG _ (lv_sub hl [1, 0] rfl) h
        · rw [if_neg c68] at h
          refine lv_aload_n hx hb dX9_parse_71 rfl (lv_at hl 0 rfl) ?_
          obtain ⟨v72, e72, h⟩ := Option.bind_eq_some_iff.mp h
          refine g_getr hx hb hts inlX9 hown hK hG (by rfl) 1 (by decide) qF_X9_19 e72 dX9_parse_72 ?_
          refine lv_iload_n hx hb dX9_parse_75 rfl (lv_at hl 1 rfl) ?_
          obtain ⟨u76, i76, h⟩ := Option.bind_eq_some_iff.mp h
          obtain ⟨G76, e76, h⟩ := Option.bind_eq_some_iff.mp h
          refine g_cVv (As := [.int bx2]) (rest := []) (n := 1) hx hb hml hown hts hK hlo hG (m_X4_refuseStatement l dd cT lo q65.1 v72 bx2 e76) qM_X9_89 qI_yX4_refuseStatement qS_X4_yX4_refuseStatement qN_X4 qC_yX4_refuseStatement (by decide +kernel) ⟨Nat.le_of_ble_eq_true rfl, Nat.le_of_ble_eq_true rfl⟩ (by rfl) i76 rfl hl.1 rfl (Nat.le_of_ble_eq_true rfl) dX9_parse_76 ⟨Nat.le_of_ble_eq_true rfl, Nat.le_of_ble_eq_true rfl⟩ (fun H locs hG => ?_)
          refine lv_goto (tgt := 100) hx hb dX9_parse_79 (by decide) ?_
          exact h100 G76 ba0 _ _ hG _ (lv_sub hl [0] rfl) h
  refine W.widen (k := 1) (n := 6) (Nat.le_of_ble_eq_true rfl) (Nat.le_of_ble_eq_true rfl) ?_
  exact h45 g_N G40 a0 (0 : Int32) _ _ hG _ (lv_sub hl [1, 0] rfl) h
set_option maxRecDepth 20000 in
set_option maxHeartbeats 4000000 in
theorem m_X9_size (l : Launch) (hfl : l.stackTraces = false) (dd : va_G) (cT : Nat → ClassId) (lo : Nat → Prop) (G : gH) (a0 : Nat) (x1 : Int32) {KX : String → gH → Prop} {K : Int32 → gH → Prop} (h : w_X9_size G a0 x1 KX K) : vx_Met l yX9_size (Cond.code yX9_size cX9_size 2 (some .int) :: wsL_law) (g_rm 7 104 1 6) (va_Pc [.ref a0, .int x1] (g_Pre lo dd cT G)) (va_Qi K (g_Pre lo dd cT) (g_A lo)) (g_XC lo dd cT KX) 1 6 (g_A lo) := by
  refine g_startX RX9 rfl (by decide) (Nat.le_of_ble_eq_true rfl) ?_
  intro p e s m below meth c hx hb hr hlocks hml hnone hown hnm hts hK hG hlo ls hl
  have hl : lv_has ls 2 [(0, .ref a0), (1, .int x1)] := hl
  have hG : g_S lo dd cT s s.heap [] G := hG
  unfold w_X9_size at h
  refine lv_iload_n hx hb dX9_size_0 rfl (lv_at hl 1 rfl) ?_
  refine lv_iconst (v := (0 : Int32)) hx hb dX9_size_1 (by decide) ?_
  refine lv_bipush (v := (12 : Int32)) hx hb dX9_size_2 (by decide) ?_
  refine g_xSv (As := [.int x1, .int (0 : Int32), .int (12 : Int32)]) (rest := []) (n := 3) hx hb hml hown hts hK hlo hG (m_X9_checkRange l hfl dd cT lo G x1 (0 : Int32) (12 : Int32) h) qM_X9_70 qT_yX9_checkRange qN_X9 qC_yX9_checkRange (by decide +kernel) ⟨Nat.le_of_ble_eq_true rfl, Nat.le_of_ble_eq_true rfl⟩ rfl hl.1 rfl (Nat.le_of_ble_eq_true rfl) dX9_size_4 ⟨Nat.le_of_ble_eq_true rfl, Nat.le_of_ble_eq_true rfl⟩ (fun E ce q9 G1 H locs hKX hG a1 a2 a3 => g_out hlocks hnone hG a1 a2 a3 hKX (Nat.le_of_ble_eq_true rfl) (Nat.le_of_ble_eq_true rfl)) (fun G4 H locs h hG => ?_)
  refine lv_iload_n hx hb dX9_size_7 rfl (lv_at hl 1 rfl) ?_
  by_cases c8_0 : x1 = (0 : Int32)
  · rw [if_pos c8_0] at h
    refine g_swIn (tgt := 72) hx hb dX9_size_8 (0 : Int32) c8_0 (by decide) (by decide) 64 (by decide) (by decide) ?_
    refine lv_aload_n hx hb dX9_size_72 rfl (lv_at hl 0 rfl) ?_
    obtain ⟨v73, e73, h⟩ := h
    refine g_getr hx hb hts inlX9 hown hK hG (by rfl) 5 (by decide) qF_X9_47 e73 dX9_size_73 ?_
    obtain ⟨v76, e76, h⟩ := h
    refine g_getr hx hb hts inlX1 hown hK hG (by rfl) 0 (by decide) qF_X9_106 e76 dX9_size_76 ?_
    obtain ⟨v79, e79, h⟩ := h
    refine g_geti hx hb hts inlX0 hown hK hG (by rfl) 0 (by decide) qF_X9_110 e79 dX9_size_79 ?_
    refine W.widen (k := 1) (n := 6) (Nat.le_of_ble_eq_true rfl) (Nat.le_of_ble_eq_true rfl) ?_
    exact vx_ret (g_iret hx hb hr hlocks hK hlo hG h dX9_size_82)
  rw [if_neg c8_0] at h
  by_cases c8_1 : x1 = (1 : Int32)
  · rw [if_pos c8_1] at h
    refine g_swIn (tgt := 83) hx hb dX9_size_8 (1 : Int32) c8_1 (by decide) (by decide) 75 (by decide) (by decide) ?_
    refine lv_aload_n hx hb dX9_size_83 rfl (lv_at hl 0 rfl) ?_
    obtain ⟨v84, e84, h⟩ := h
    refine g_getr hx hb hts inlX9 hown hK hG (by rfl) 5 (by decide) qF_X9_47 e84 dX9_size_84 ?_
    obtain ⟨v87, e87, h⟩ := h
    refine g_getr hx hb hts inlX1 hown hK hG (by rfl) 0 (by decide) qF_X9_106 e87 dX9_size_87 ?_
    obtain ⟨v90, e90, h⟩ := h
    refine g_geti hx hb hts inlX0 hown hK hG (by rfl) 0 (by decide) qF_X9_110 e90 dX9_size_90 ?_
    refine lv_aload_n hx hb dX9_size_93 rfl (lv_at hl 0 rfl) ?_
    obtain ⟨v94, e94, h⟩ := h
    refine g_getr hx hb hts inlX9 hown hK hG (by rfl) 5 (by decide) qF_X9_47 e94 dX9_size_94 ?_
    obtain ⟨v97, e97, h⟩ := h
    refine g_getr hx hb hts inlX1 hown hK hG (by rfl) 0 (by decide) qF_X9_106 e97 dX9_size_97 ?_
    obtain ⟨v100, e100, h⟩ := h
    refine g_geti hx hb hts inlX0 hown hK hG (by rfl) 1 (by decide) qF_X9_113 e100 dX9_size_100 ?_
    refine lv_isub hx hb dX9_size_103 ?_
    refine W.widen (k := 1) (n := 6) (Nat.le_of_ble_eq_true rfl) (Nat.le_of_ble_eq_true rfl) ?_
    exact vx_ret (g_iret hx hb hr hlocks hK hlo hG h dX9_size_104)
  rw [if_neg c8_1] at h
  by_cases c8_2 : x1 = (2 : Int32)
  · rw [if_pos c8_2] at h
    refine g_swIn (tgt := 105) hx hb dX9_size_8 (2 : Int32) c8_2 (by decide) (by decide) 97 (by decide) (by decide) ?_
    refine lv_aload_n hx hb dX9_size_105 rfl (lv_at hl 0 rfl) ?_
    obtain ⟨v106, e106, h⟩ := h
    refine g_getr hx hb hts inlX9 hown hK hG (by rfl) 5 (by decide) qF_X9_47 e106 dX9_size_106 ?_
    obtain ⟨v109, e109, h⟩ := h
    refine g_geti hx hb hts inlX1 hown hK hG (by rfl) 3 (by decide) qF_X9_116 e109 dX9_size_109 ?_
    refine W.widen (k := 1) (n := 6) (Nat.le_of_ble_eq_true rfl) (Nat.le_of_ble_eq_true rfl) ?_
    exact vx_ret (g_iret hx hb hr hlocks hK hlo hG h dX9_size_112)
  rw [if_neg c8_2] at h
  by_cases c8_3 : x1 = (3 : Int32)
  · rw [if_pos c8_3] at h
    refine g_swIn (tgt := 113) hx hb dX9_size_8 (3 : Int32) c8_3 (by decide) (by decide) 105 (by decide) (by decide) ?_
    refine lv_aload_n hx hb dX9_size_113 rfl (lv_at hl 0 rfl) ?_
    obtain ⟨v114, e114, h⟩ := h
    refine g_getr hx hb hts inlX9 hown hK hG (by rfl) 5 (by decide) qF_X9_47 e114 dX9_size_114 ?_
    obtain ⟨v117, e117, h⟩ := h
    refine g_getr hx hb hts inlX1 hown hK hG (by rfl) 2 (by decide) qF_X9_119 e117 dX9_size_117 ?_
    obtain ⟨v120, e120, h⟩ := h
    refine g_geti hx hb hts inlX5 hown hK hG (by rfl) 0 (by decide) qF_X9_123 e120 dX9_size_120 ?_
    refine W.widen (k := 1) (n := 6) (Nat.le_of_ble_eq_true rfl) (Nat.le_of_ble_eq_true rfl) ?_
    exact vx_ret (g_iret hx hb hr hlocks hK hlo hG h dX9_size_123)
  rw [if_neg c8_3] at h
  by_cases c8_4 : x1 = (4 : Int32)
  · rw [if_pos c8_4] at h
    refine g_swIn (tgt := 124) hx hb dX9_size_8 (4 : Int32) c8_4 (by decide) (by decide) 116 (by decide) (by decide) ?_
    refine lv_aload_n hx hb dX9_size_124 rfl (lv_at hl 0 rfl) ?_
    obtain ⟨v125, e125, h⟩ := h
    refine g_getr hx hb hts inlX9 hown hK hG (by rfl) 5 (by decide) qF_X9_47 e125 dX9_size_125 ?_
    obtain ⟨v128, e128, h⟩ := h
    refine g_getr hx hb hts inlX1 hown hK hG (by rfl) 0 (by decide) qF_X9_106 e128 dX9_size_128 ?_
    obtain ⟨v131, e131, h⟩ := h
    refine g_geti hx hb hts inlX0 hown hK hG (by rfl) 2 (by decide) qF_X9_126 e131 dX9_size_131 ?_
    refine W.widen (k := 1) (n := 6) (Nat.le_of_ble_eq_true rfl) (Nat.le_of_ble_eq_true rfl) ?_
    exact vx_ret (g_iret hx hb hr hlocks hK hlo hG h dX9_size_134)
  rw [if_neg c8_4] at h
  by_cases c8_5 : x1 = (5 : Int32)
  · rw [if_pos c8_5] at h
    refine g_swIn (tgt := 135) hx hb dX9_size_8 (5 : Int32) c8_5 (by decide) (by decide) 127 (by decide) (by decide) ?_
    refine lv_aload_n hx hb dX9_size_135 rfl (lv_at hl 0 rfl) ?_
    obtain ⟨v136, e136, h⟩ := h
    refine g_getr hx hb hts inlX9 hown hK hG (by rfl) 5 (by decide) qF_X9_47 e136 dX9_size_136 ?_
    obtain ⟨v139, e139, h⟩ := h
    refine g_getr hx hb hts inlX1 hown hK hG (by rfl) 0 (by decide) qF_X9_106 e139 dX9_size_139 ?_
    obtain ⟨u142, o142, h⟩ := h
    obtain ⟨v142, e142, h⟩ := h
    refine g_cVi (As := []) (rest := []) (n := 0) hx hb hml hown hts hK hlo hG (m_X0_emptySpares l dd cT lo G4 v139 e142) qM_X9_129 qI_yX0_emptySpares qS_X0_yX0_emptySpares qN_X0 qC_yX0_emptySpares (by decide +kernel) ⟨Nat.le_of_ble_eq_true rfl, Nat.le_of_ble_eq_true rfl⟩ (by rfl) o142 rfl hl.1 rfl (Nat.le_of_ble_eq_true rfl) dX9_size_142 ⟨Nat.le_of_ble_eq_true rfl, Nat.le_of_ble_eq_true rfl⟩ (fun H locs hG => ?_)
    refine W.widen (k := 1) (n := 6) (Nat.le_of_ble_eq_true rfl) (Nat.le_of_ble_eq_true rfl) ?_
    exact vx_ret (g_iret hx hb hr hlocks hK hlo hG h dX9_size_145)
  rw [if_neg c8_5] at h
  by_cases c8_6 : x1 = (6 : Int32)
  · rw [if_pos c8_6] at h
    refine g_swIn (tgt := 146) hx hb dX9_size_8 (6 : Int32) c8_6 (by decide) (by decide) 138 (by decide) (by decide) ?_
    refine lv_aload_n hx hb dX9_size_146 rfl (lv_at hl 0 rfl) ?_
    obtain ⟨v147, e147, h⟩ := h
    refine g_getr hx hb hts inlX9 hown hK hG (by rfl) 5 (by decide) qF_X9_47 e147 dX9_size_147 ?_
    obtain ⟨v150, e150, h⟩ := h
    refine g_getr hx hb hts inlX1 hown hK hG (by rfl) 0 (by decide) qF_X9_106 e150 dX9_size_150 ?_
    obtain ⟨u153, o153, h⟩ := h
    obtain ⟨v153, e153, h⟩ := h
    refine g_cVi (As := []) (rest := []) (n := 0) hx hb hml hown hts hK hlo hG (m_X0_badOnes l dd cT lo G4 v150 e153) qM_X9_133 qI_yX0_badOnes qS_X0_yX0_badOnes qN_X0 qC_yX0_badOnes (by decide +kernel) ⟨Nat.le_of_ble_eq_true rfl, Nat.le_of_ble_eq_true rfl⟩ (by rfl) o153 rfl hl.1 rfl (Nat.le_of_ble_eq_true rfl) dX9_size_153 ⟨Nat.le_of_ble_eq_true rfl, Nat.le_of_ble_eq_true rfl⟩ (fun H locs hG => ?_)
    refine W.widen (k := 1) (n := 6) (Nat.le_of_ble_eq_true rfl) (Nat.le_of_ble_eq_true rfl) ?_
    exact vx_ret (g_iret hx hb hr hlocks hK hlo hG h dX9_size_156)
  rw [if_neg c8_6] at h
  by_cases c8_7 : x1 = (7 : Int32)
  · rw [if_pos c8_7] at h
    refine g_swIn (tgt := 157) hx hb dX9_size_8 (7 : Int32) c8_7 (by decide) (by decide) 149 (by decide) (by decide) ?_
    refine lv_aload_n hx hb dX9_size_157 rfl (lv_at hl 0 rfl) ?_
    obtain ⟨v158, e158, h⟩ := h
    refine g_getr hx hb hts inlX9 hown hK hG (by rfl) 5 (by decide) qF_X9_47 e158 dX9_size_158 ?_
    obtain ⟨v161, e161, h⟩ := h
    refine g_getr hx hb hts inlX1 hown hK hG (by rfl) 6 (by decide) qF_X9_136 e161 dX9_size_161 ?_
    refine lv_aload_n hx hb dX9_size_164 rfl (lv_at hl 0 rfl) ?_
    obtain ⟨v165, e165, h⟩ := h
    refine g_getr hx hb hts inlX9 hown hK hG (by rfl) 5 (by decide) qF_X9_47 e165 dX9_size_165 ?_
    obtain ⟨u168, o168, h⟩ := h
    obtain ⟨q168, e168, h⟩ := h
    refine g_cVr (As := [.ref v165]) (rest := []) (n := 1) hx hb hml hown hts hK hlo hG (m_X8_lookAt l dd cT lo G4 v161 v165 e168) qM_X9_139 qI_yX8_lookAt qS_X8_yX8_lookAt qN_X8 qC_yX8_lookAt (by decide +kernel) ⟨Nat.le_of_ble_eq_true rfl, Nat.le_of_ble_eq_true rfl⟩ (by rfl) o168 rfl hl.1 rfl (Nat.le_of_ble_eq_true rfl) dX9_size_168 ⟨Nat.le_of_ble_eq_true rfl, Nat.le_of_ble_eq_true rfl⟩ (fun H locs hG => ?_)
    obtain ⟨u171, o171, h⟩ := h
    obtain ⟨v171, e171, h⟩ := h
    refine g_cVi (As := []) (rest := []) (n := 0) hx hb hml hown hts hK hlo hG (m_X8_filesThere l dd cT lo q168.1 q168.2 e171) qM_X9_143 qI_yX8_filesThere qS_X8_yX8_filesThere qN_X8 qC_yX8_filesThere (by decide +kernel) ⟨Nat.le_of_ble_eq_true rfl, Nat.le_of_ble_eq_true rfl⟩ (by rfl) o171 rfl hl.1 rfl (Nat.le_of_ble_eq_true rfl) dX9_size_171 ⟨Nat.le_of_ble_eq_true rfl, Nat.le_of_ble_eq_true rfl⟩ (fun H locs hG => ?_)
    refine W.widen (k := 1) (n := 6) (Nat.le_of_ble_eq_true rfl) (Nat.le_of_ble_eq_true rfl) ?_
    exact vx_ret (g_iret hx hb hr hlocks hK hlo hG h dX9_size_174)
  rw [if_neg c8_7] at h
  by_cases c8_8 : x1 = (8 : Int32)
  · rw [if_pos c8_8] at h
    refine g_swIn (tgt := 175) hx hb dX9_size_8 (8 : Int32) c8_8 (by decide) (by decide) 167 (by decide) (by decide) ?_
    refine lv_aload_n hx hb dX9_size_175 rfl (lv_at hl 0 rfl) ?_
    obtain ⟨v176, e176, h⟩ := h
    refine g_getr hx hb hts inlX9 hown hK hG (by rfl) 5 (by decide) qF_X9_47 e176 dX9_size_176 ?_
    obtain ⟨v179, e179, h⟩ := h
    refine g_getr hx hb hts inlX1 hown hK hG (by rfl) 6 (by decide) qF_X9_136 e179 dX9_size_179 ?_
    refine lv_aload_n hx hb dX9_size_182 rfl (lv_at hl 0 rfl) ?_
    obtain ⟨v183, e183, h⟩ := h
    refine g_getr hx hb hts inlX9 hown hK hG (by rfl) 5 (by decide) qF_X9_47 e183 dX9_size_183 ?_
    obtain ⟨u186, o186, h⟩ := h
    obtain ⟨q186, e186, h⟩ := h
    refine g_cVr (As := [.ref v183]) (rest := []) (n := 1) hx hb hml hown hts hK hlo hG (m_X8_lookAt l dd cT lo G4 v179 v183 e186) qM_X9_139 qI_yX8_lookAt qS_X8_yX8_lookAt qN_X8 qC_yX8_lookAt (by decide +kernel) ⟨Nat.le_of_ble_eq_true rfl, Nat.le_of_ble_eq_true rfl⟩ (by rfl) o186 rfl hl.1 rfl (Nat.le_of_ble_eq_true rfl) dX9_size_186 ⟨Nat.le_of_ble_eq_true rfl, Nat.le_of_ble_eq_true rfl⟩ (fun H locs hG => ?_)
    obtain ⟨u189, o189, h⟩ := h
    obtain ⟨v189, e189, h⟩ := h
    refine g_cVi (As := []) (rest := []) (n := 0) hx hb hml hown hts hK hlo hG (m_X8_filesReadable l dd cT lo q186.1 q186.2 e189) qM_X9_146 qI_yX8_filesReadable qS_X8_yX8_filesReadable qN_X8 qC_yX8_filesReadable (by decide +kernel) ⟨Nat.le_of_ble_eq_true rfl, Nat.le_of_ble_eq_true rfl⟩ (by rfl) o189 rfl hl.1 rfl (Nat.le_of_ble_eq_true rfl) dX9_size_189 ⟨Nat.le_of_ble_eq_true rfl, Nat.le_of_ble_eq_true rfl⟩ (fun H locs hG => ?_)
    refine W.widen (k := 1) (n := 6) (Nat.le_of_ble_eq_true rfl) (Nat.le_of_ble_eq_true rfl) ?_
    exact vx_ret (g_iret hx hb hr hlocks hK hlo hG h dX9_size_192)
  rw [if_neg c8_8] at h
  by_cases c8_9 : x1 = (9 : Int32)
  · rw [if_pos c8_9] at h
    refine g_swIn (tgt := 193) hx hb dX9_size_8 (9 : Int32) c8_9 (by decide) (by decide) 185 (by decide) (by decide) ?_
    refine lv_aload_n hx hb dX9_size_193 rfl (lv_at hl 0 rfl) ?_
    obtain ⟨v194, e194, h⟩ := h
    refine g_getr hx hb hts inlX9 hown hK hG (by rfl) 5 (by decide) qF_X9_47 e194 dX9_size_194 ?_
    obtain ⟨v197, e197, h⟩ := h
    refine g_getr hx hb hts inlX1 hown hK hG (by rfl) 2 (by decide) qF_X9_119 e197 dX9_size_197 ?_
    obtain ⟨u200, o200, h⟩ := h
    obtain ⟨v200, e200, h⟩ := h
    refine g_cVi (As := []) (rest := []) (n := 0) hx hb hml hown hts hK hlo hG (m_X5_isOpen l dd cT lo G4 v197 e200) qM_X9_149 qI_yX5_isOpen qS_X5_yX5_isOpen qN_X5 qC_yX5_isOpen (by decide +kernel) ⟨Nat.le_of_ble_eq_true rfl, Nat.le_of_ble_eq_true rfl⟩ (by rfl) o200 rfl hl.1 rfl (Nat.le_of_ble_eq_true rfl) dX9_size_200 ⟨Nat.le_of_ble_eq_true rfl, Nat.le_of_ble_eq_true rfl⟩ (fun H locs hG => ?_)
    obtain ⟨v203, e203, h⟩ := h
    refine g_cSi (As := [.int v200]) (rest := []) (n := 1) hx hb hml hown hts hK hlo hG (m_X9_oneIf l dd cT lo G4 v200 e203) qM_X9_153 qT_yX9_oneIf qN_X9 qC_yX9_oneIf (by decide +kernel) ⟨Nat.le_of_ble_eq_true rfl, Nat.le_of_ble_eq_true rfl⟩ rfl hl.1 rfl (Nat.le_of_ble_eq_true rfl) dX9_size_203 ⟨Nat.le_of_ble_eq_true rfl, Nat.le_of_ble_eq_true rfl⟩ (fun H locs hG => ?_)
    refine W.widen (k := 1) (n := 6) (Nat.le_of_ble_eq_true rfl) (Nat.le_of_ble_eq_true rfl) ?_
    exact vx_ret (g_iret hx hb hr hlocks hK hlo hG h dX9_size_206)
  rw [if_neg c8_9] at h
  by_cases c8_10 : x1 = (10 : Int32)
  · rw [if_pos c8_10] at h
    refine g_swIn (tgt := 207) hx hb dX9_size_8 (10 : Int32) c8_10 (by decide) (by decide) 199 (by decide) (by decide) ?_
    refine lv_aload_n hx hb dX9_size_207 rfl (lv_at hl 0 rfl) ?_
    obtain ⟨v208, e208, h⟩ := h
    refine g_getr hx hb hts inlX9 hown hK hG (by rfl) 5 (by decide) qF_X9_47 e208 dX9_size_208 ?_
    obtain ⟨v211, e211, h⟩ := h
    refine g_geti hx hb hts inlX1 hown hK hG (by rfl) 5 (by decide) qF_X9_157 e211 dX9_size_211 ?_
    obtain ⟨v214, e214, h⟩ := h
    refine g_cSi (As := [.int v211]) (rest := []) (n := 1) hx hb hml hown hts hK hlo hG (m_X9_oneIf l dd cT lo G4 v211 e214) qM_X9_153 qT_yX9_oneIf qN_X9 qC_yX9_oneIf (by decide +kernel) ⟨Nat.le_of_ble_eq_true rfl, Nat.le_of_ble_eq_true rfl⟩ rfl hl.1 rfl (Nat.le_of_ble_eq_true rfl) dX9_size_214 ⟨Nat.le_of_ble_eq_true rfl, Nat.le_of_ble_eq_true rfl⟩ (fun H locs hG => ?_)
    refine W.widen (k := 1) (n := 6) (Nat.le_of_ble_eq_true rfl) (Nat.le_of_ble_eq_true rfl) ?_
    exact vx_ret (g_iret hx hb hr hlocks hK hlo hG h dX9_size_217)
  rw [if_neg c8_10] at h
  by_cases c8_11 : x1 = (11 : Int32)
  · rw [if_pos c8_11] at h
    refine g_swIn (tgt := 218) hx hb dX9_size_8 (11 : Int32) c8_11 (by decide) (by decide) 210 (by decide) (by decide) ?_
    refine lv_aload_n hx hb dX9_size_218 rfl (lv_at hl 0 rfl) ?_
    obtain ⟨v219, e219, h⟩ := h
    refine g_getr hx hb hts inlX9 hown hK hG (by rfl) 2 (by decide) qF_X9_26 e219 dX9_size_219 ?_
    obtain ⟨v222, e222, h⟩ := h
    refine g_geti hx hb hts inlX2 hown hK hG (by rfl) 0 (by decide) qF_X9_161 e222 dX9_size_222 ?_
    refine W.widen (k := 1) (n := 6) (Nat.le_of_ble_eq_true rfl) (Nat.le_of_ble_eq_true rfl) ?_
    exact vx_ret (g_iret hx hb hr hlocks hK hlo hG h dX9_size_225)
  rw [if_neg c8_11] at h
  have z8 : x1.toInt < 0 ∨ 11 < x1.toInt := by
    have y0 : ¬ x1.toInt = 0 := fun w => c8_0 (Int32.toInt_inj.mp (by rw [w]; rfl))
    have y1 : ¬ x1.toInt = 1 := fun w => c8_1 (Int32.toInt_inj.mp (by rw [w]; rfl))
    have y2 : ¬ x1.toInt = 2 := fun w => c8_2 (Int32.toInt_inj.mp (by rw [w]; rfl))
    have y3 : ¬ x1.toInt = 3 := fun w => c8_3 (Int32.toInt_inj.mp (by rw [w]; rfl))
    have y4 : ¬ x1.toInt = 4 := fun w => c8_4 (Int32.toInt_inj.mp (by rw [w]; rfl))
    have y5 : ¬ x1.toInt = 5 := fun w => c8_5 (Int32.toInt_inj.mp (by rw [w]; rfl))
    have y6 : ¬ x1.toInt = 6 := fun w => c8_6 (Int32.toInt_inj.mp (by rw [w]; rfl))
    have y7 : ¬ x1.toInt = 7 := fun w => c8_7 (Int32.toInt_inj.mp (by rw [w]; rfl))
    have y8 : ¬ x1.toInt = 8 := fun w => c8_8 (Int32.toInt_inj.mp (by rw [w]; rfl))
    have y9 : ¬ x1.toInt = 9 := fun w => c8_9 (Int32.toInt_inj.mp (by rw [w]; rfl))
    have y10 : ¬ x1.toInt = 10 := fun w => c8_10 (Int32.toInt_inj.mp (by rw [w]; rfl))
    have y11 : ¬ x1.toInt = 11 := fun w => c8_11 (Int32.toInt_inj.mp (by rw [w]; rfl))
    omega
  refine lv_tableOut (tgt := 226) hx hb dX9_size_8 z8 (by decide) ?_
  refine lv_aload_n hx hb dX9_size_226 rfl (lv_at hl 0 rfl) ?_
  obtain ⟨v227, e227, h⟩ := h
  refine g_getr hx hb hts inlX9 hown hK hG (by rfl) 5 (by decide) qF_X9_47 e227 dX9_size_227 ?_
  obtain ⟨v230, e230, h⟩ := h
  refine g_getr hx hb hts inlX1 hown hK hG (by rfl) 1 (by decide) qF_X9_162 e230 dX9_size_230 ?_
  obtain ⟨v233, e233, h⟩ := h
  refine g_geti hx hb hts inlX7 hown hK hG (by rfl) 0 (by decide) qF_X9_166 e233 dX9_size_233 ?_
  refine W.widen (k := 1) (n := 6) (Nat.le_of_ble_eq_true rfl) (Nat.le_of_ble_eq_true rfl) ?_
  exact vx_ret (g_iret hx hb hr hlocks hK hlo hG h dX9_size_236)
set_option maxRecDepth 20000 in
set_option maxHeartbeats 4000000 in
theorem m_X9_block (l : Launch) (hfl : l.stackTraces = false) (dd : va_G) (cT : Nat → ClassId) (lo : Nat → Prop) (G : gH) (a0 : Nat) (x1 : Int32) (x2 : Int32) {KX : String → gH → Prop} {K : Int32 → gH → Prop} (h : w_X9_block G a0 x1 x2 KX K) : vx_Met l yX9_block (Cond.code yX9_block cX9_block 3 (some .int) :: wsL_law) (g_rm 7 104 2 12) (va_Pc [.ref a0, .int x1, .int x2] (g_Pre lo dd cT G)) (va_Qi K (g_Pre lo dd cT) (g_A lo)) (g_XC lo dd cT KX) 2 12 (g_A lo) := by
  refine g_startX RX9 rfl (by decide) (Nat.le_of_ble_eq_true rfl) ?_
  intro p e s m below meth c hx hb hr hlocks hml hnone hown hnm hts hK hG hlo ls hl
  have hl : lv_has ls 3 [(0, .ref a0), (1, .int x1), (2, .int x2)] := hl
  have hG : g_S lo dd cT s s.heap [] G := hG
  unfold w_X9_block at h
  refine lv_iload_n hx hb dX9_block_0 rfl (lv_at hl 1 rfl) ?_
  refine lv_aload_n hx hb dX9_block_1 rfl (lv_at hl 0 rfl) ?_
  obtain ⟨v2, e2, h⟩ := h
  refine g_getr hx hb hts inlX9 hown hK hG (by rfl) 5 (by decide) qF_X9_47 e2 dX9_block_2 ?_
  obtain ⟨v5, e5, h⟩ := h
  refine g_getr hx hb hts inlX1 hown hK hG (by rfl) 0 (by decide) qF_X9_106 e5 dX9_block_5 ?_
  obtain ⟨v8, e8, h⟩ := h
  refine g_geti hx hb hts inlX0 hown hK hG (by rfl) 0 (by decide) qF_X9_110 e8 dX9_block_8 ?_
  refine g_xSv (As := [.int x1, .int v8]) (rest := []) (n := 2) hx hb hml hown hts hK hlo hG (m_X9_checkIndex l hfl dd cT lo G x1 v8 h) qM_X9_179 qT_yX9_checkIndex qN_X9 qC_yX9_checkIndex (by decide +kernel) ⟨Nat.le_of_ble_eq_true rfl, Nat.le_of_ble_eq_true rfl⟩ rfl hl.1 rfl (Nat.le_of_ble_eq_true rfl) dX9_block_11 ⟨Nat.le_of_ble_eq_true rfl, Nat.le_of_ble_eq_true rfl⟩ (fun E ce q9 G1 H locs hKX hG a1 a2 a3 => g_out hlocks hnone hG a1 a2 a3 hKX (Nat.le_of_ble_eq_true rfl) (Nat.le_of_ble_eq_true rfl)) (fun G11 H locs h hG => ?_)
  refine lv_iload_n hx hb dX9_block_14 rfl (lv_at hl 2 rfl) ?_
  refine lv_iconst (v := (0 : Int32)) hx hb dX9_block_15 (by decide) ?_
  refine lv_bipush (v := (6 : Int32)) hx hb dX9_block_16 (by decide) ?_
  refine g_xSv (As := [.int x2, .int (0 : Int32), .int (6 : Int32)]) (rest := []) (n := 3) hx hb hml hown hts hK hlo hG (m_X9_checkRange l hfl dd cT lo G11 x2 (0 : Int32) (6 : Int32) h) qM_X9_70 qT_yX9_checkRange qN_X9 qC_yX9_checkRange (by decide +kernel) ⟨Nat.le_of_ble_eq_true rfl, Nat.le_of_ble_eq_true rfl⟩ rfl hl.1 rfl (Nat.le_of_ble_eq_true rfl) dX9_block_18 ⟨Nat.le_of_ble_eq_true rfl, Nat.le_of_ble_eq_true rfl⟩ (fun E ce q9 G1 H locs hKX hG a1 a2 a3 => g_out hlocks hnone hG a1 a2 a3 hKX (Nat.le_of_ble_eq_true rfl) (Nat.le_of_ble_eq_true rfl)) (fun G18 H locs h hG => ?_)
  refine lv_aload_n hx hb dX9_block_21 rfl (lv_at hl 0 rfl) ?_
  obtain ⟨v22, e22, h⟩ := h
  refine g_getr hx hb hts inlX9 hown hK hG (by rfl) 5 (by decide) qF_X9_47 e22 dX9_block_22 ?_
  obtain ⟨v25, e25, h⟩ := h
  refine g_getr hx hb hts inlX1 hown hK hG (by rfl) 0 (by decide) qF_X9_106 e25 dX9_block_25 ?_
  refine lv_iload_n hx hb dX9_block_28 rfl (lv_at hl 1 rfl) ?_
  refine lv_iload_n hx hb dX9_block_29 rfl (lv_at hl 2 rfl) ?_
  obtain ⟨u30, o30, h⟩ := h
  obtain ⟨v30, e30, h⟩ := h
  refine g_cVi (As := [.int x1, .int x2]) (rest := []) (n := 2) hx hb hml hown hts hK hlo hG (m_X0_property l dd cT lo G18 v25 x1 x2 e30) qM_X9_182 qI_yX0_property qS_X0_yX0_property qN_X0 qC_yX0_property (by decide +kernel) ⟨Nat.le_of_ble_eq_true rfl, Nat.le_of_ble_eq_true rfl⟩ (by rfl) o30 rfl hl.1 rfl (Nat.le_of_ble_eq_true rfl) dX9_block_30 ⟨Nat.le_of_ble_eq_true rfl, Nat.le_of_ble_eq_true rfl⟩ (fun H locs hG => ?_)
  refine W.widen (k := 2) (n := 12) (Nat.le_of_ble_eq_true rfl) (Nat.le_of_ble_eq_true rfl) ?_
  exact vx_ret (g_iret hx hb hr hlocks hK hlo hG h dX9_block_33)
set_option maxRecDepth 20000 in
set_option maxHeartbeats 4000000 in
theorem m_X9_place (l : Launch) (hfl : l.stackTraces = false) (dd : va_G) (cT : Nat → ClassId) (lo : Nat → Prop) (G : gH) (a0 : Nat) (x1 : Int32) {KX : String → gH → Prop} {K : Int32 → gH → Prop} (h : w_X9_place G a0 x1 KX K) : vx_Met l yX9_place (Cond.code yX9_place cX9_place 2 (some .int) :: wsL_law) (g_rm 7 103 1 6) (va_Pc [.ref a0, .int x1] (g_Pre lo dd cT G)) (va_Qi K (g_Pre lo dd cT) (g_A lo)) (g_XC lo dd cT KX) 1 6 (g_A lo) := by
  refine g_startX RX9 rfl (by decide) (Nat.le_of_ble_eq_true rfl) ?_
  intro p e s m below meth c hx hb hr hlocks hml hnone hown hnm hts hK hG hlo ls hl
  have hl : lv_has ls 2 [(0, .ref a0), (1, .int x1)] := hl
  have hG : g_S lo dd cT s s.heap [] G := hG
  unfold w_X9_place at h
  refine lv_iload_n hx hb dX9_place_0 rfl (lv_at hl 1 rfl) ?_
  refine lv_aload_n hx hb dX9_place_1 rfl (lv_at hl 0 rfl) ?_
  obtain ⟨v2, e2, h⟩ := h
  refine g_getr hx hb hts inlX9 hown hK hG (by rfl) 5 (by decide) qF_X9_47 e2 dX9_place_2 ?_
  obtain ⟨v5, e5, h⟩ := h
  refine g_getr hx hb hts inlX1 hown hK hG (by rfl) 0 (by decide) qF_X9_106 e5 dX9_place_5 ?_
  obtain ⟨v8, e8, h⟩ := h
  refine g_geti hx hb hts inlX0 hown hK hG (by rfl) 0 (by decide) qF_X9_110 e8 dX9_place_8 ?_
  refine g_xSv (As := [.int x1, .int v8]) (rest := []) (n := 2) hx hb hml hown hts hK hlo hG (m_X9_checkIndex l hfl dd cT lo G x1 v8 h) qM_X9_179 qT_yX9_checkIndex qN_X9 qC_yX9_checkIndex (by decide +kernel) ⟨Nat.le_of_ble_eq_true rfl, Nat.le_of_ble_eq_true rfl⟩ rfl hl.1 rfl (Nat.le_of_ble_eq_true rfl) dX9_place_11 ⟨Nat.le_of_ble_eq_true rfl, Nat.le_of_ble_eq_true rfl⟩ (fun E ce q9 G1 H locs hKX hG a1 a2 a3 => g_out hlocks hnone hG a1 a2 a3 hKX (Nat.le_of_ble_eq_true rfl) (Nat.le_of_ble_eq_true rfl)) (fun G11 H locs h hG => ?_)
  refine lv_aload_n hx hb dX9_place_14 rfl (lv_at hl 0 rfl) ?_
  obtain ⟨v15, e15, h⟩ := h
  refine g_getr hx hb hts inlX9 hown hK hG (by rfl) 5 (by decide) qF_X9_47 e15 dX9_place_15 ?_
  obtain ⟨v18, e18, h⟩ := h
  refine g_getr hx hb hts inlX1 hown hK hG (by rfl) 0 (by decide) qF_X9_106 e18 dX9_place_18 ?_
  refine lv_iload_n hx hb dX9_place_21 rfl (lv_at hl 1 rfl) ?_
  obtain ⟨u22, o22, h⟩ := h
  obtain ⟨v22, e22, h⟩ := h
  refine g_cVi (As := [.int x1]) (rest := []) (n := 1) hx hb hml hown hts hK hlo hG (m_X0_placeOf l dd cT lo G11 v18 x1 e22) qM_X9_186 qI_yX0_placeOf qS_X0_yX0_placeOf qN_X0 qC_yX0_placeOf (by decide +kernel) ⟨Nat.le_of_ble_eq_true rfl, Nat.le_of_ble_eq_true rfl⟩ (by rfl) o22 rfl hl.1 rfl (Nat.le_of_ble_eq_true rfl) dX9_place_22 ⟨Nat.le_of_ble_eq_true rfl, Nat.le_of_ble_eq_true rfl⟩ (fun H locs hG => ?_)
  refine W.widen (k := 1) (n := 6) (Nat.le_of_ble_eq_true rfl) (Nat.le_of_ble_eq_true rfl) ?_
  exact vx_ret (g_iret hx hb hr hlocks hK hlo hG h dX9_place_25)

/-! What makes cells or throws: by program (wip/whole/tools/wlift.py). -/
theorem g_inIAE : ∀ w ∈ (vx_atS RX9 334 g_xIAE g_xup).filter goodWord, w ∈ wsL_law := fun w h => List.mem_append_left _ (List.mem_append_left _ (List.mem_append_right _ h))
theorem g_inIOB : ∀ w ∈ (vx_atS RX9 329 g_xIOB g_xup).filter goodWord, w ∈ wsL_law := fun w h => List.mem_append_left _ (List.mem_append_right _ h)
theorem g_inISE : ∀ w ∈ (vx_atS RX9 319 g_xISE g_xup).filter goodWord, w ∈ wsL_law := fun w h => List.mem_append_right _ h
def w_X0_init (G : gH) (a0 : Nat) (K : gH → Prop) : Prop :=
    ∃ G6, g_put G a0 0 0 (.int (0 : Int32)) = some G6 ∧
    ∃ G11, g_put G6 a0 0 1 (.int (0 : Int32)) = some G11 ∧
    ∃ G16, g_put G11 a0 0 2 (.int (0 : Int32)) = some G16 ∧
    ∀ q22 : Nat, G16 q22 = none → ∀ G22 : gH, G22 = va_up G16 q22 (some (.inl (0, 96, fun _ => 0))) →
    ∃ G24, g_put G22 a0 0 3 (.ref q22) = some G24 ∧
    ∀ q30 : Nat, G24 q30 = none → ∀ G30 : gH, G30 = va_up G24 q30 (some (.inl (1, 96, fun _ => 0))) →
    ∃ G32, g_put G30 a0 0 4 (.ref q30) = some G32 ∧
    ∀ q38 : Nat, G32 q38 = none → ∀ G38 : gH, G38 = va_up G32 q38 (some (.inl (1, 96, fun _ => 0))) →
    ∃ G40, g_put G38 a0 0 5 (.ref q38) = some G40 ∧
    ∀ q46 : Nat, G40 q46 = none → ∀ G46 : gH, G46 = va_up G40 q46 (some (.inl (0, 96, fun _ => 0))) →
    ∃ G48, g_put G46 a0 0 6 (.ref q46) = some G48 ∧
    ∀ q54 : Nat, G48 q54 = none → ∀ G54 : gH, G54 = va_up G48 q54 (some (.inl (0, 96, fun _ => 0))) →
    ∃ G56, g_put G54 a0 0 7 (.ref q54) = some G56 ∧
    ∀ q62 : Nat, G56 q62 = none → ∀ G62 : gH, G62 = va_up G56 q62 (some (.inl (0, 96, fun _ => 0))) →
    ∃ G64, g_put G62 a0 0 8 (.ref q62) = some G64 ∧
    ∀ q70 : Nat, G64 q70 = none → ∀ G70 : gH, G70 = va_up G64 q70 (some (.inl (0, 96, fun _ => 0))) →
    ∃ G72, g_put G70 a0 0 9 (.ref q70) = some G72 ∧
    ∀ q78 : Nat, G72 q78 = none → ∀ G78 : gH, G78 = va_up G72 q78 (some (.inl (0, 96, fun _ => 0))) →
    ∃ G80, g_put G78 a0 0 10 (.ref q78) = some G80 ∧
    K G80
set_option maxRecDepth 20000 in
set_option maxHeartbeats 4000000 in
theorem m_X0_init (l : Launch) (dd : va_G) (cT : Nat → ClassId) (lo : Nat) (G : gH) (a0 : Nat) {K : gH → Prop} (h : w_X0_init G a0 K) : Met l yX0_init (Cond.code yX0_init cX0_init 1 none :: wsL_law) (g_rm 1 40 8 768) (va_Pc [.ref a0] (g_Pre lo dd cT G)) (va_Qv K (g_Pre lo dd cT) (g_A lo)) 8 768 (g_A lo) := by
  refine g_start RX0 rfl (by decide) (Nat.le_of_ble_eq_true rfl) ?_
  intro p e s m below meth c hx hb hr hlocks hml hown hnm hts hK hG hlo ls hl
  have hl : lv_has ls 1 [(0, .ref a0)] := hl
  have hG : g_S lo dd cT s s.heap [] G := hG
  unfold w_X0_init at h
  refine lv_aload_n hx hb dX0_init_0 rfl (lv_at hl 0 rfl) ?_
  refine W.objInit hx hb hown (hts _ qM_X0_3) (hts _ qI_objectInit) (hts _ qC_objectInit) rfl (hl.1.trans hml.symm) rfl dX0_init_1 (Nat.le_of_ble_eq_true rfl) (Nat.le_of_ble_eq_true rfl) ?_
  refine lv_aload_n hx hb dX0_init_4 rfl (lv_at hl 0 rfl) ?_
  refine lv_iconst (v := (0 : Int32)) hx hb dX0_init_5 (by decide) ?_
  obtain ⟨G6, i6, h⟩ := h
  refine g_putv hx hb hts inlX0 tyX0 tyX0_ok nmX0 hown hK hG (by rfl) 0 (by decide) qF_X0_9 rfl rfl rfl rfl i6 dX0_init_6 (fun H locs hG => ?_)
  refine lv_aload_n hx hb dX0_init_9 rfl (lv_at hl 0 rfl) ?_
  refine lv_iconst (v := (0 : Int32)) hx hb dX0_init_10 (by decide) ?_
  obtain ⟨G11, i11, h⟩ := h
  refine g_putv hx hb hts inlX0 tyX0 tyX0_ok nmX0 hown hK hG (by rfl) 1 (by decide) qF_X0_15 rfl rfl rfl rfl i11 dX0_init_11 (fun H locs hG => ?_)
  refine lv_aload_n hx hb dX0_init_14 rfl (lv_at hl 0 rfl) ?_
  refine lv_iconst (v := (0 : Int32)) hx hb dX0_init_15 (by decide) ?_
  obtain ⟨G16, i16, h⟩ := h
  refine g_putv hx hb hts inlX0 tyX0 tyX0_ok nmX0 hown hK hG (by rfl) 2 (by decide) qF_X0_18 rfl rfl rfl rfl i16 dX0_init_16 (fun H locs hG => ?_)
  refine lv_aload_n hx hb dX0_init_19 rfl (lv_at hl 0 rfl) ?_
  refine lv_bipush (v := (96 : Int32)) hx hb dX0_init_20 (by decide) ?_
  refine g_newai (N := 96) hx hb hts hK hlo hG (by decide) (by decide) (Nat.le_of_ble_eq_true rfl) ⟨Nat.le_of_ble_eq_true rfl, Nat.le_of_ble_eq_true rfl⟩ dX0_init_22 (fun q22 H z22 hG => ?_)
  obtain ⟨G22, i22⟩ : ∃ g : gH, g = va_up G16 q22 (some (.inl (0, 96, fun _ => 0))) := ⟨_, rfl⟩
  rw [← i22] at hG
  replace h := h q22 z22 G22 i22
  obtain ⟨G24, i24, h⟩ := h
  refine g_putvF hx hb hts inlX0 tyX0 tyX0_ok nmX0 hown hK hG (by rfl) 3 (by decide) qF_X0_21 rfl hnm rfl rfl rfl rfl i24 dX0_init_24 (fun H locs hG => ?_)
  refine lv_aload_n hx hb dX0_init_27 rfl (lv_at hl 0 rfl) ?_
  refine lv_bipush (v := (96 : Int32)) hx hb dX0_init_28 (by decide) ?_
  refine g_newaz (N := 96) hx hb hts hK hlo hG (by decide) (by decide) (Nat.le_of_ble_eq_true rfl) ⟨Nat.le_of_ble_eq_true rfl, Nat.le_of_ble_eq_true rfl⟩ dX0_init_30 (fun q30 H z30 hG => ?_)
  obtain ⟨G30, i30⟩ : ∃ g : gH, g = va_up G24 q30 (some (.inl (1, 96, fun _ => 0))) := ⟨_, rfl⟩
  rw [← i30] at hG
  replace h := h q30 z30 G30 i30
  obtain ⟨G32, i32, h⟩ := h
  refine g_putvF hx hb hts inlX0 tyX0 tyX0_ok nmX0 hown hK hG (by rfl) 4 (by decide) qF_X0_25 rfl hnm rfl rfl rfl rfl i32 dX0_init_32 (fun H locs hG => ?_)
  refine lv_aload_n hx hb dX0_init_35 rfl (lv_at hl 0 rfl) ?_
  refine lv_bipush (v := (96 : Int32)) hx hb dX0_init_36 (by decide) ?_
  refine g_newaz (N := 96) hx hb hts hK hlo hG (by decide) (by decide) (Nat.le_of_ble_eq_true rfl) ⟨Nat.le_of_ble_eq_true rfl, Nat.le_of_ble_eq_true rfl⟩ dX0_init_38 (fun q38 H z38 hG => ?_)
  obtain ⟨G38, i38⟩ : ∃ g : gH, g = va_up G32 q38 (some (.inl (1, 96, fun _ => 0))) := ⟨_, rfl⟩
  rw [← i38] at hG
  replace h := h q38 z38 G38 i38
  obtain ⟨G40, i40, h⟩ := h
  refine g_putvF hx hb hts inlX0 tyX0 tyX0_ok nmX0 hown hK hG (by rfl) 5 (by decide) qF_X0_29 rfl hnm rfl rfl rfl rfl i40 dX0_init_40 (fun H locs hG => ?_)
  refine lv_aload_n hx hb dX0_init_43 rfl (lv_at hl 0 rfl) ?_
  refine lv_bipush (v := (96 : Int32)) hx hb dX0_init_44 (by decide) ?_
  refine g_newai (N := 96) hx hb hts hK hlo hG (by decide) (by decide) (Nat.le_of_ble_eq_true rfl) ⟨Nat.le_of_ble_eq_true rfl, Nat.le_of_ble_eq_true rfl⟩ dX0_init_46 (fun q46 H z46 hG => ?_)
  obtain ⟨G46, i46⟩ : ∃ g : gH, g = va_up G40 q46 (some (.inl (0, 96, fun _ => 0))) := ⟨_, rfl⟩
  rw [← i46] at hG
  replace h := h q46 z46 G46 i46
  obtain ⟨G48, i48, h⟩ := h
  refine g_putvF hx hb hts inlX0 tyX0 tyX0_ok nmX0 hown hK hG (by rfl) 6 (by decide) qF_X0_32 rfl hnm rfl rfl rfl rfl i48 dX0_init_48 (fun H locs hG => ?_)
  refine lv_aload_n hx hb dX0_init_51 rfl (lv_at hl 0 rfl) ?_
  refine lv_bipush (v := (96 : Int32)) hx hb dX0_init_52 (by decide) ?_
  refine g_newai (N := 96) hx hb hts hK hlo hG (by decide) (by decide) (Nat.le_of_ble_eq_true rfl) ⟨Nat.le_of_ble_eq_true rfl, Nat.le_of_ble_eq_true rfl⟩ dX0_init_54 (fun q54 H z54 hG => ?_)
  obtain ⟨G54, i54⟩ : ∃ g : gH, g = va_up G48 q54 (some (.inl (0, 96, fun _ => 0))) := ⟨_, rfl⟩
  rw [← i54] at hG
  replace h := h q54 z54 G54 i54
  obtain ⟨G56, i56, h⟩ := h
  refine g_putvF hx hb hts inlX0 tyX0 tyX0_ok nmX0 hown hK hG (by rfl) 7 (by decide) qF_X0_35 rfl hnm rfl rfl rfl rfl i56 dX0_init_56 (fun H locs hG => ?_)
  refine lv_aload_n hx hb dX0_init_59 rfl (lv_at hl 0 rfl) ?_
  refine lv_bipush (v := (96 : Int32)) hx hb dX0_init_60 (by decide) ?_
  refine g_newai (N := 96) hx hb hts hK hlo hG (by decide) (by decide) (Nat.le_of_ble_eq_true rfl) ⟨Nat.le_of_ble_eq_true rfl, Nat.le_of_ble_eq_true rfl⟩ dX0_init_62 (fun q62 H z62 hG => ?_)
  obtain ⟨G62, i62⟩ : ∃ g : gH, g = va_up G56 q62 (some (.inl (0, 96, fun _ => 0))) := ⟨_, rfl⟩
  rw [← i62] at hG
  replace h := h q62 z62 G62 i62
  obtain ⟨G64, i64, h⟩ := h
  refine g_putvF hx hb hts inlX0 tyX0 tyX0_ok nmX0 hown hK hG (by rfl) 8 (by decide) qF_X0_38 rfl hnm rfl rfl rfl rfl i64 dX0_init_64 (fun H locs hG => ?_)
  refine lv_aload_n hx hb dX0_init_67 rfl (lv_at hl 0 rfl) ?_
  refine lv_bipush (v := (96 : Int32)) hx hb dX0_init_68 (by decide) ?_
  refine g_newai (N := 96) hx hb hts hK hlo hG (by decide) (by decide) (Nat.le_of_ble_eq_true rfl) ⟨Nat.le_of_ble_eq_true rfl, Nat.le_of_ble_eq_true rfl⟩ dX0_init_70 (fun q70 H z70 hG => ?_)
  obtain ⟨G70, i70⟩ : ∃ g : gH, g = va_up G64 q70 (some (.inl (0, 96, fun _ => 0))) := ⟨_, rfl⟩
  rw [← i70] at hG
  replace h := h q70 z70 G70 i70
  obtain ⟨G72, i72, h⟩ := h
  refine g_putvF hx hb hts inlX0 tyX0 tyX0_ok nmX0 hown hK hG (by rfl) 9 (by decide) qF_X0_41 rfl hnm rfl rfl rfl rfl i72 dX0_init_72 (fun H locs hG => ?_)
  refine lv_aload_n hx hb dX0_init_75 rfl (lv_at hl 0 rfl) ?_
  refine lv_bipush (v := (96 : Int32)) hx hb dX0_init_76 (by decide) ?_
  refine g_newai (N := 96) hx hb hts hK hlo hG (by decide) (by decide) (Nat.le_of_ble_eq_true rfl) ⟨Nat.le_of_ble_eq_true rfl, Nat.le_of_ble_eq_true rfl⟩ dX0_init_78 (fun q78 H z78 hG => ?_)
  obtain ⟨G78, i78⟩ : ∃ g : gH, g = va_up G72 q78 (some (.inl (0, 96, fun _ => 0))) := ⟨_, rfl⟩
  rw [← i78] at hG
  replace h := h q78 z78 G78 i78
  obtain ⟨G80, i80, h⟩ := h
  refine g_putvF hx hb hts inlX0 tyX0 tyX0_ok nmX0 hown hK hG (by rfl) 10 (by decide) qF_X0_44 rfl hnm rfl rfl rfl rfl i80 dX0_init_80 (fun H locs hG => ?_)
  refine W.widen (k := 8) (n := 768) (Nat.le_of_ble_eq_true rfl) (Nat.le_of_ble_eq_true rfl) ?_
  exact g_vret hx hb hr hlocks hK hlo hG h dX0_init_83
def w_X7_init (G : gH) (a0 : Nat) (K : gH → Prop) : Prop :=
    ∃ G6, g_put G a0 7 0 (.int (0 : Int32)) = some G6 ∧
    ∀ q12 : Nat, G6 q12 = none → ∀ G12 : gH, G12 = va_up G6 q12 (some (.inl (0, 96, fun _ => 0))) →
    ∃ G14, g_put G12 a0 7 1 (.ref q12) = some G14 ∧
    ∀ q20 : Nat, G14 q20 = none → ∀ G20 : gH, G20 = va_up G14 q20 (some (.inl (0, 96, fun _ => 0))) →
    ∃ G22, g_put G20 a0 7 2 (.ref q20) = some G22 ∧
    ∀ q28 : Nat, G22 q28 = none → ∀ G28 : gH, G28 = va_up G22 q28 (some (.inl (0, 96, fun _ => 0))) →
    ∃ G30, g_put G28 a0 7 3 (.ref q28) = some G30 ∧
    ∀ q36 : Nat, G30 q36 = none → ∀ G36 : gH, G36 = va_up G30 q36 (some (.inl (0, 96, fun _ => 0))) →
    ∃ G38, g_put G36 a0 7 4 (.ref q36) = some G38 ∧
    ∀ q44 : Nat, G38 q44 = none → ∀ G44 : gH, G44 = va_up G38 q44 (some (.inl (0, 96, fun _ => 0))) →
    ∃ G46, g_put G44 a0 7 5 (.ref q44) = some G46 ∧
    K G46
set_option maxRecDepth 20000 in
set_option maxHeartbeats 4000000 in
theorem m_X7_init (l : Launch) (dd : va_G) (cT : Nat → ClassId) (lo : Nat) (G : gH) (a0 : Nat) {K : gH → Prop} (h : w_X7_init G a0 K) : Met l yX7_init (Cond.code yX7_init cX7_init 1 none :: wsL_law) (g_rm 1 40 5 480) (va_Pc [.ref a0] (g_Pre lo dd cT G)) (va_Qv K (g_Pre lo dd cT) (g_A lo)) 5 480 (g_A lo) := by
  refine g_start RX7 rfl (by decide) (Nat.le_of_ble_eq_true rfl) ?_
  intro p e s m below meth c hx hb hr hlocks hml hown hnm hts hK hG hlo ls hl
  have hl : lv_has ls 1 [(0, .ref a0)] := hl
  have hG : g_S lo dd cT s s.heap [] G := hG
  unfold w_X7_init at h
  refine lv_aload_n hx hb dX7_init_0 rfl (lv_at hl 0 rfl) ?_
  refine W.objInit hx hb hown (hts _ qM_X7_3) (hts _ qI_objectInit) (hts _ qC_objectInit) rfl (hl.1.trans hml.symm) rfl dX7_init_1 (Nat.le_of_ble_eq_true rfl) (Nat.le_of_ble_eq_true rfl) ?_
  refine lv_aload_n hx hb dX7_init_4 rfl (lv_at hl 0 rfl) ?_
  refine lv_iconst (v := (0 : Int32)) hx hb dX7_init_5 (by decide) ?_
  obtain ⟨G6, i6, h⟩ := h
  refine g_putv hx hb hts inlX7 tyX7 tyX7_ok nmX7 hown hK hG (by rfl) 0 (by decide) qF_X7_9 rfl rfl rfl rfl i6 dX7_init_6 (fun H locs hG => ?_)
  refine lv_aload_n hx hb dX7_init_9 rfl (lv_at hl 0 rfl) ?_
  refine lv_bipush (v := (96 : Int32)) hx hb dX7_init_10 (by decide) ?_
  refine g_newai (N := 96) hx hb hts hK hlo hG (by decide) (by decide) (Nat.le_of_ble_eq_true rfl) ⟨Nat.le_of_ble_eq_true rfl, Nat.le_of_ble_eq_true rfl⟩ dX7_init_12 (fun q12 H z12 hG => ?_)
  obtain ⟨G12, i12⟩ : ∃ g : gH, g = va_up G6 q12 (some (.inl (0, 96, fun _ => 0))) := ⟨_, rfl⟩
  rw [← i12] at hG
  replace h := h q12 z12 G12 i12
  obtain ⟨G14, i14, h⟩ := h
  refine g_putvF hx hb hts inlX7 tyX7 tyX7_ok nmX7 hown hK hG (by rfl) 1 (by decide) qF_X7_15 rfl hnm rfl rfl rfl rfl i14 dX7_init_14 (fun H locs hG => ?_)
  refine lv_aload_n hx hb dX7_init_17 rfl (lv_at hl 0 rfl) ?_
  refine lv_bipush (v := (96 : Int32)) hx hb dX7_init_18 (by decide) ?_
  refine g_newai (N := 96) hx hb hts hK hlo hG (by decide) (by decide) (Nat.le_of_ble_eq_true rfl) ⟨Nat.le_of_ble_eq_true rfl, Nat.le_of_ble_eq_true rfl⟩ dX7_init_20 (fun q20 H z20 hG => ?_)
  obtain ⟨G20, i20⟩ : ∃ g : gH, g = va_up G14 q20 (some (.inl (0, 96, fun _ => 0))) := ⟨_, rfl⟩
  rw [← i20] at hG
  replace h := h q20 z20 G20 i20
  obtain ⟨G22, i22, h⟩ := h
  refine g_putvF hx hb hts inlX7 tyX7 tyX7_ok nmX7 hown hK hG (by rfl) 2 (by decide) qF_X7_19 rfl hnm rfl rfl rfl rfl i22 dX7_init_22 (fun H locs hG => ?_)
  refine lv_aload_n hx hb dX7_init_25 rfl (lv_at hl 0 rfl) ?_
  refine lv_bipush (v := (96 : Int32)) hx hb dX7_init_26 (by decide) ?_
  refine g_newai (N := 96) hx hb hts hK hlo hG (by decide) (by decide) (Nat.le_of_ble_eq_true rfl) ⟨Nat.le_of_ble_eq_true rfl, Nat.le_of_ble_eq_true rfl⟩ dX7_init_28 (fun q28 H z28 hG => ?_)
  obtain ⟨G28, i28⟩ : ∃ g : gH, g = va_up G22 q28 (some (.inl (0, 96, fun _ => 0))) := ⟨_, rfl⟩
  rw [← i28] at hG
  replace h := h q28 z28 G28 i28
  obtain ⟨G30, i30, h⟩ := h
  refine g_putvF hx hb hts inlX7 tyX7 tyX7_ok nmX7 hown hK hG (by rfl) 3 (by decide) qF_X7_22 rfl hnm rfl rfl rfl rfl i30 dX7_init_30 (fun H locs hG => ?_)
  refine lv_aload_n hx hb dX7_init_33 rfl (lv_at hl 0 rfl) ?_
  refine lv_bipush (v := (96 : Int32)) hx hb dX7_init_34 (by decide) ?_
  refine g_newai (N := 96) hx hb hts hK hlo hG (by decide) (by decide) (Nat.le_of_ble_eq_true rfl) ⟨Nat.le_of_ble_eq_true rfl, Nat.le_of_ble_eq_true rfl⟩ dX7_init_36 (fun q36 H z36 hG => ?_)
  obtain ⟨G36, i36⟩ : ∃ g : gH, g = va_up G30 q36 (some (.inl (0, 96, fun _ => 0))) := ⟨_, rfl⟩
  rw [← i36] at hG
  replace h := h q36 z36 G36 i36
  obtain ⟨G38, i38, h⟩ := h
  refine g_putvF hx hb hts inlX7 tyX7 tyX7_ok nmX7 hown hK hG (by rfl) 4 (by decide) qF_X7_25 rfl hnm rfl rfl rfl rfl i38 dX7_init_38 (fun H locs hG => ?_)
  refine lv_aload_n hx hb dX7_init_41 rfl (lv_at hl 0 rfl) ?_
  refine lv_bipush (v := (96 : Int32)) hx hb dX7_init_42 (by decide) ?_
  refine g_newai (N := 96) hx hb hts hK hlo hG (by decide) (by decide) (Nat.le_of_ble_eq_true rfl) ⟨Nat.le_of_ble_eq_true rfl, Nat.le_of_ble_eq_true rfl⟩ dX7_init_44 (fun q44 H z44 hG => ?_)
  obtain ⟨G44, i44⟩ : ∃ g : gH, g = va_up G38 q44 (some (.inl (0, 96, fun _ => 0))) := ⟨_, rfl⟩
  rw [← i44] at hG
  replace h := h q44 z44 G44 i44
  obtain ⟨G46, i46, h⟩ := h
  refine g_putvF hx hb hts inlX7 tyX7 tyX7_ok nmX7 hown hK hG (by rfl) 5 (by decide) qF_X7_28 rfl hnm rfl rfl rfl rfl i46 dX7_init_46 (fun H locs hG => ?_)
  refine W.widen (k := 5) (n := 480) (Nat.le_of_ble_eq_true rfl) (Nat.le_of_ble_eq_true rfl) ?_
  exact g_vret hx hb hr hlocks hK hlo hG h dX7_init_49
def w_X5_init (G : gH) (a0 : Nat) (K : gH → Prop) : Prop :=
    ∃ G6, g_put G a0 5 0 (.int (0 : Int32)) = some G6 ∧
    ∀ q12 : Nat, G6 q12 = none → ∀ G12 : gH, G12 = va_up G6 q12 (some (.inl (0, 12, fun _ => 0))) →
    ∃ G14, g_put G12 a0 5 1 (.ref q12) = some G14 ∧
    ∀ q20 : Nat, G14 q20 = none → ∀ G20 : gH, G20 = va_up G14 q20 (some (.inl (0, 12, fun _ => 0))) →
    ∃ G22, g_put G20 a0 5 2 (.ref q20) = some G22 ∧
    ∀ q28 : Nat, G22 q28 = none → ∀ G28 : gH, G28 = va_up G22 q28 (some (.inl (0, 12, fun _ => 0))) →
    ∃ G30, g_put G28 a0 5 3 (.ref q28) = some G30 ∧
    ∀ q36 : Nat, G30 q36 = none → ∀ G36 : gH, G36 = va_up G30 q36 (some (.inl (0, 12, fun _ => 0))) →
    ∃ G38, g_put G36 a0 5 4 (.ref q36) = some G38 ∧
    ∀ q44 : Nat, G38 q44 = none → ∀ G44 : gH, G44 = va_up G38 q44 (some (.inl (0, 12, fun _ => 0))) →
    ∃ G46, g_put G44 a0 5 5 (.ref q44) = some G46 ∧
    ∀ q52 : Nat, G46 q52 = none → ∀ G52 : gH, G52 = va_up G46 q52 (some (.inl (0, 120, fun _ => 0))) →
    ∃ G54, g_put G52 a0 5 6 (.ref q52) = some G54 ∧
    ∀ q60 : Nat, G54 q60 = none → ∀ G60 : gH, G60 = va_up G54 q60 (some (.inl (0, 120, fun _ => 0))) →
    ∃ G62, g_put G60 a0 5 7 (.ref q60) = some G62 ∧
    K G62
set_option maxRecDepth 20000 in
set_option maxHeartbeats 4000000 in
theorem m_X5_init (l : Launch) (dd : va_G) (cT : Nat → ClassId) (lo : Nat) (G : gH) (a0 : Nat) {K : gH → Prop} (h : w_X5_init G a0 K) : Met l yX5_init (Cond.code yX5_init cX5_init 1 none :: wsL_law) (g_rm 1 40 7 300) (va_Pc [.ref a0] (g_Pre lo dd cT G)) (va_Qv K (g_Pre lo dd cT) (g_A lo)) 7 300 (g_A lo) := by
  refine g_start RX5 rfl (by decide) (Nat.le_of_ble_eq_true rfl) ?_
  intro p e s m below meth c hx hb hr hlocks hml hown hnm hts hK hG hlo ls hl
  have hl : lv_has ls 1 [(0, .ref a0)] := hl
  have hG : g_S lo dd cT s s.heap [] G := hG
  unfold w_X5_init at h
  refine lv_aload_n hx hb dX5_init_0 rfl (lv_at hl 0 rfl) ?_
  refine W.objInit hx hb hown (hts _ qM_X5_3) (hts _ qI_objectInit) (hts _ qC_objectInit) rfl (hl.1.trans hml.symm) rfl dX5_init_1 (Nat.le_of_ble_eq_true rfl) (Nat.le_of_ble_eq_true rfl) ?_
  refine lv_aload_n hx hb dX5_init_4 rfl (lv_at hl 0 rfl) ?_
  refine lv_iconst (v := (0 : Int32)) hx hb dX5_init_5 (by decide) ?_
  obtain ⟨G6, i6, h⟩ := h
  refine g_putv hx hb hts inlX5 tyX5 tyX5_ok nmX5 hown hK hG (by rfl) 0 (by decide) qF_X5_9 rfl rfl rfl rfl i6 dX5_init_6 (fun H locs hG => ?_)
  refine lv_aload_n hx hb dX5_init_9 rfl (lv_at hl 0 rfl) ?_
  refine lv_bipush (v := (12 : Int32)) hx hb dX5_init_10 (by decide) ?_
  refine g_newai (N := 12) hx hb hts hK hlo hG (by decide) (by decide) (Nat.le_of_ble_eq_true rfl) ⟨Nat.le_of_ble_eq_true rfl, Nat.le_of_ble_eq_true rfl⟩ dX5_init_12 (fun q12 H z12 hG => ?_)
  obtain ⟨G12, i12⟩ : ∃ g : gH, g = va_up G6 q12 (some (.inl (0, 12, fun _ => 0))) := ⟨_, rfl⟩
  rw [← i12] at hG
  replace h := h q12 z12 G12 i12
  obtain ⟨G14, i14, h⟩ := h
  refine g_putvF hx hb hts inlX5 tyX5 tyX5_ok nmX5 hown hK hG (by rfl) 1 (by decide) qF_X5_15 rfl hnm rfl rfl rfl rfl i14 dX5_init_14 (fun H locs hG => ?_)
  refine lv_aload_n hx hb dX5_init_17 rfl (lv_at hl 0 rfl) ?_
  refine lv_bipush (v := (12 : Int32)) hx hb dX5_init_18 (by decide) ?_
  refine g_newai (N := 12) hx hb hts hK hlo hG (by decide) (by decide) (Nat.le_of_ble_eq_true rfl) ⟨Nat.le_of_ble_eq_true rfl, Nat.le_of_ble_eq_true rfl⟩ dX5_init_20 (fun q20 H z20 hG => ?_)
  obtain ⟨G20, i20⟩ : ∃ g : gH, g = va_up G14 q20 (some (.inl (0, 12, fun _ => 0))) := ⟨_, rfl⟩
  rw [← i20] at hG
  replace h := h q20 z20 G20 i20
  obtain ⟨G22, i22, h⟩ := h
  refine g_putvF hx hb hts inlX5 tyX5 tyX5_ok nmX5 hown hK hG (by rfl) 2 (by decide) qF_X5_19 rfl hnm rfl rfl rfl rfl i22 dX5_init_22 (fun H locs hG => ?_)
  refine lv_aload_n hx hb dX5_init_25 rfl (lv_at hl 0 rfl) ?_
  refine lv_bipush (v := (12 : Int32)) hx hb dX5_init_26 (by decide) ?_
  refine g_newai (N := 12) hx hb hts hK hlo hG (by decide) (by decide) (Nat.le_of_ble_eq_true rfl) ⟨Nat.le_of_ble_eq_true rfl, Nat.le_of_ble_eq_true rfl⟩ dX5_init_28 (fun q28 H z28 hG => ?_)
  obtain ⟨G28, i28⟩ : ∃ g : gH, g = va_up G22 q28 (some (.inl (0, 12, fun _ => 0))) := ⟨_, rfl⟩
  rw [← i28] at hG
  replace h := h q28 z28 G28 i28
  obtain ⟨G30, i30, h⟩ := h
  refine g_putvF hx hb hts inlX5 tyX5 tyX5_ok nmX5 hown hK hG (by rfl) 3 (by decide) qF_X5_22 rfl hnm rfl rfl rfl rfl i30 dX5_init_30 (fun H locs hG => ?_)
  refine lv_aload_n hx hb dX5_init_33 rfl (lv_at hl 0 rfl) ?_
  refine lv_bipush (v := (12 : Int32)) hx hb dX5_init_34 (by decide) ?_
  refine g_newai (N := 12) hx hb hts hK hlo hG (by decide) (by decide) (Nat.le_of_ble_eq_true rfl) ⟨Nat.le_of_ble_eq_true rfl, Nat.le_of_ble_eq_true rfl⟩ dX5_init_36 (fun q36 H z36 hG => ?_)
  obtain ⟨G36, i36⟩ : ∃ g : gH, g = va_up G30 q36 (some (.inl (0, 12, fun _ => 0))) := ⟨_, rfl⟩
  rw [← i36] at hG
  replace h := h q36 z36 G36 i36
  obtain ⟨G38, i38, h⟩ := h
  refine g_putvF hx hb hts inlX5 tyX5 tyX5_ok nmX5 hown hK hG (by rfl) 4 (by decide) qF_X5_25 rfl hnm rfl rfl rfl rfl i38 dX5_init_38 (fun H locs hG => ?_)
  refine lv_aload_n hx hb dX5_init_41 rfl (lv_at hl 0 rfl) ?_
  refine lv_bipush (v := (12 : Int32)) hx hb dX5_init_42 (by decide) ?_
  refine g_newai (N := 12) hx hb hts hK hlo hG (by decide) (by decide) (Nat.le_of_ble_eq_true rfl) ⟨Nat.le_of_ble_eq_true rfl, Nat.le_of_ble_eq_true rfl⟩ dX5_init_44 (fun q44 H z44 hG => ?_)
  obtain ⟨G44, i44⟩ : ∃ g : gH, g = va_up G38 q44 (some (.inl (0, 12, fun _ => 0))) := ⟨_, rfl⟩
  rw [← i44] at hG
  replace h := h q44 z44 G44 i44
  obtain ⟨G46, i46, h⟩ := h
  refine g_putvF hx hb hts inlX5 tyX5 tyX5_ok nmX5 hown hK hG (by rfl) 5 (by decide) qF_X5_28 rfl hnm rfl rfl rfl rfl i46 dX5_init_46 (fun H locs hG => ?_)
  refine lv_aload_n hx hb dX5_init_49 rfl (lv_at hl 0 rfl) ?_
  refine lv_bipush (v := (120 : Int32)) hx hb dX5_init_50 (by decide) ?_
  refine g_newai (N := 120) hx hb hts hK hlo hG (by decide) (by decide) (Nat.le_of_ble_eq_true rfl) ⟨Nat.le_of_ble_eq_true rfl, Nat.le_of_ble_eq_true rfl⟩ dX5_init_52 (fun q52 H z52 hG => ?_)
  obtain ⟨G52, i52⟩ : ∃ g : gH, g = va_up G46 q52 (some (.inl (0, 120, fun _ => 0))) := ⟨_, rfl⟩
  rw [← i52] at hG
  replace h := h q52 z52 G52 i52
  obtain ⟨G54, i54, h⟩ := h
  refine g_putvF hx hb hts inlX5 tyX5 tyX5_ok nmX5 hown hK hG (by rfl) 6 (by decide) qF_X5_31 rfl hnm rfl rfl rfl rfl i54 dX5_init_54 (fun H locs hG => ?_)
  refine lv_aload_n hx hb dX5_init_57 rfl (lv_at hl 0 rfl) ?_
  refine lv_bipush (v := (120 : Int32)) hx hb dX5_init_58 (by decide) ?_
  refine g_newai (N := 120) hx hb hts hK hlo hG (by decide) (by decide) (Nat.le_of_ble_eq_true rfl) ⟨Nat.le_of_ble_eq_true rfl, Nat.le_of_ble_eq_true rfl⟩ dX5_init_60 (fun q60 H z60 hG => ?_)
  obtain ⟨G60, i60⟩ : ∃ g : gH, g = va_up G54 q60 (some (.inl (0, 120, fun _ => 0))) := ⟨_, rfl⟩
  rw [← i60] at hG
  replace h := h q60 z60 G60 i60
  obtain ⟨G62, i62, h⟩ := h
  refine g_putvF hx hb hts inlX5 tyX5 tyX5_ok nmX5 hown hK hG (by rfl) 7 (by decide) qF_X5_34 rfl hnm rfl rfl rfl rfl i62 dX5_init_62 (fun H locs hG => ?_)
  refine W.widen (k := 7) (n := 300) (Nat.le_of_ble_eq_true rfl) (Nat.le_of_ble_eq_true rfl) ?_
  exact g_vret hx hb hr hlocks hK hlo hG h dX5_init_65
def w_X8_init (G : gH) (a0 : Nat) (K : gH → Prop) : Prop :=
    ∃ G6, g_put G a0 8 0 (.int (0 : Int32)) = some G6 ∧
    ∀ q12 : Nat, G6 q12 = none → ∀ G12 : gH, G12 = va_up G6 q12 (some (.inl (1, 12, fun _ => 0))) →
    ∃ G14, g_put G12 a0 8 1 (.ref q12) = some G14 ∧
    ∀ q20 : Nat, G14 q20 = none → ∀ G20 : gH, G20 = va_up G14 q20 (some (.inl (0, 10, fun _ => 0))) →
    ∃ G22, g_put G20 a0 8 2 (.ref q20) = some G22 ∧
    ∀ q28 : Nat, G22 q28 = none → ∀ G28 : gH, G28 = va_up G22 q28 (some (.inl (0, 10, fun _ => 0))) →
    ∃ G30, g_put G28 a0 8 3 (.ref q28) = some G30 ∧
    ∀ q36 : Nat, G30 q36 = none → ∀ G36 : gH, G36 = va_up G30 q36 (some (.inl (1, 10, fun _ => 0))) →
    ∃ G38, g_put G36 a0 8 4 (.ref q36) = some G38 ∧
    K G38
set_option maxRecDepth 20000 in
set_option maxHeartbeats 4000000 in
theorem m_X8_init (l : Launch) (dd : va_G) (cT : Nat → ClassId) (lo : Nat) (G : gH) (a0 : Nat) {K : gH → Prop} (h : w_X8_init G a0 K) : Met l yX8_init (Cond.code yX8_init cX8_init 1 none :: wsL_law) (g_rm 1 40 4 42) (va_Pc [.ref a0] (g_Pre lo dd cT G)) (va_Qv K (g_Pre lo dd cT) (g_A lo)) 4 42 (g_A lo) := by
  refine g_start RX8 rfl (by decide) (Nat.le_of_ble_eq_true rfl) ?_
  intro p e s m below meth c hx hb hr hlocks hml hown hnm hts hK hG hlo ls hl
  have hl : lv_has ls 1 [(0, .ref a0)] := hl
  have hG : g_S lo dd cT s s.heap [] G := hG
  unfold w_X8_init at h
  refine lv_aload_n hx hb dX8_init_0 rfl (lv_at hl 0 rfl) ?_
  refine W.objInit hx hb hown (hts _ qM_X8_3) (hts _ qI_objectInit) (hts _ qC_objectInit) rfl (hl.1.trans hml.symm) rfl dX8_init_1 (Nat.le_of_ble_eq_true rfl) (Nat.le_of_ble_eq_true rfl) ?_
  refine lv_aload_n hx hb dX8_init_4 rfl (lv_at hl 0 rfl) ?_
  refine lv_iconst (v := (0 : Int32)) hx hb dX8_init_5 (by decide) ?_
  obtain ⟨G6, i6, h⟩ := h
  refine g_putv hx hb hts inlX8 tyX8 tyX8_ok nmX8 hown hK hG (by rfl) 0 (by decide) qF_X8_9 rfl rfl rfl rfl i6 dX8_init_6 (fun H locs hG => ?_)
  refine lv_aload_n hx hb dX8_init_9 rfl (lv_at hl 0 rfl) ?_
  refine lv_bipush (v := (12 : Int32)) hx hb dX8_init_10 (by decide) ?_
  refine g_newaz (N := 12) hx hb hts hK hlo hG (by decide) (by decide) (Nat.le_of_ble_eq_true rfl) ⟨Nat.le_of_ble_eq_true rfl, Nat.le_of_ble_eq_true rfl⟩ dX8_init_12 (fun q12 H z12 hG => ?_)
  obtain ⟨G12, i12⟩ : ∃ g : gH, g = va_up G6 q12 (some (.inl (1, 12, fun _ => 0))) := ⟨_, rfl⟩
  rw [← i12] at hG
  replace h := h q12 z12 G12 i12
  obtain ⟨G14, i14, h⟩ := h
  refine g_putvF hx hb hts inlX8 tyX8 tyX8_ok nmX8 hown hK hG (by rfl) 1 (by decide) qF_X8_15 rfl hnm rfl rfl rfl rfl i14 dX8_init_14 (fun H locs hG => ?_)
  refine lv_aload_n hx hb dX8_init_17 rfl (lv_at hl 0 rfl) ?_
  refine lv_bipush (v := (10 : Int32)) hx hb dX8_init_18 (by decide) ?_
  refine g_newai (N := 10) hx hb hts hK hlo hG (by decide) (by decide) (Nat.le_of_ble_eq_true rfl) ⟨Nat.le_of_ble_eq_true rfl, Nat.le_of_ble_eq_true rfl⟩ dX8_init_20 (fun q20 H z20 hG => ?_)
  obtain ⟨G20, i20⟩ : ∃ g : gH, g = va_up G14 q20 (some (.inl (0, 10, fun _ => 0))) := ⟨_, rfl⟩
  rw [← i20] at hG
  replace h := h q20 z20 G20 i20
  obtain ⟨G22, i22, h⟩ := h
  refine g_putvF hx hb hts inlX8 tyX8 tyX8_ok nmX8 hown hK hG (by rfl) 2 (by decide) qF_X8_19 rfl hnm rfl rfl rfl rfl i22 dX8_init_22 (fun H locs hG => ?_)
  refine lv_aload_n hx hb dX8_init_25 rfl (lv_at hl 0 rfl) ?_
  refine lv_bipush (v := (10 : Int32)) hx hb dX8_init_26 (by decide) ?_
  refine g_newai (N := 10) hx hb hts hK hlo hG (by decide) (by decide) (Nat.le_of_ble_eq_true rfl) ⟨Nat.le_of_ble_eq_true rfl, Nat.le_of_ble_eq_true rfl⟩ dX8_init_28 (fun q28 H z28 hG => ?_)
  obtain ⟨G28, i28⟩ : ∃ g : gH, g = va_up G22 q28 (some (.inl (0, 10, fun _ => 0))) := ⟨_, rfl⟩
  rw [← i28] at hG
  replace h := h q28 z28 G28 i28
  obtain ⟨G30, i30, h⟩ := h
  refine g_putvF hx hb hts inlX8 tyX8 tyX8_ok nmX8 hown hK hG (by rfl) 3 (by decide) qF_X8_23 rfl hnm rfl rfl rfl rfl i30 dX8_init_30 (fun H locs hG => ?_)
  refine lv_aload_n hx hb dX8_init_33 rfl (lv_at hl 0 rfl) ?_
  refine lv_bipush (v := (10 : Int32)) hx hb dX8_init_34 (by decide) ?_
  refine g_newaz (N := 10) hx hb hts hK hlo hG (by decide) (by decide) (Nat.le_of_ble_eq_true rfl) ⟨Nat.le_of_ble_eq_true rfl, Nat.le_of_ble_eq_true rfl⟩ dX8_init_36 (fun q36 H z36 hG => ?_)
  obtain ⟨G36, i36⟩ : ∃ g : gH, g = va_up G30 q36 (some (.inl (1, 10, fun _ => 0))) := ⟨_, rfl⟩
  rw [← i36] at hG
  replace h := h q36 z36 G36 i36
  obtain ⟨G38, i38, h⟩ := h
  refine g_putvF hx hb hts inlX8 tyX8 tyX8_ok nmX8 hown hK hG (by rfl) 4 (by decide) qF_X8_26 rfl hnm rfl rfl rfl rfl i38 dX8_init_38 (fun H locs hG => ?_)
  refine W.widen (k := 4) (n := 42) (Nat.le_of_ble_eq_true rfl) (Nat.le_of_ble_eq_true rfl) ?_
  exact g_vret hx hb hr hlocks hK hlo hG h dX8_init_41
def w_X1_init (G : gH) (a0 : Nat) (K : gH → Prop) : Prop :=
    ∀ q5 : Nat, G q5 = none → ∀ G5 : gH, G5 = va_up G q5 (some (.inr (.inr (.inr (0, [.int 0, .int 0, .int 0, .null, .null, .null, .null, .null, .null, .null, .null]))))) →
    w_X0_init G5 q5 (fun G9 =>
    ∃ G12, g_put G9 a0 1 0 (.ref q5) = some G12 ∧
    ∀ q16 : Nat, G12 q16 = none → ∀ G16 : gH, G16 = va_up G12 q16 (some (.inr (.inr (.inr (7, [.int 0, .null, .null, .null, .null, .null]))))) →
    w_X7_init G16 q16 (fun G20 =>
    ∃ G23, g_put G20 a0 1 1 (.ref q16) = some G23 ∧
    ∀ q27 : Nat, G23 q27 = none → ∀ G27 : gH, G27 = va_up G23 q27 (some (.inr (.inr (.inr (5, [.int 0, .null, .null, .null, .null, .null, .null, .null]))))) →
    w_X5_init G27 q27 (fun G31 =>
    ∃ G34, g_put G31 a0 1 2 (.ref q27) = some G34 ∧
    ∃ G39, g_put G34 a0 1 3 (.int (0 : Int32)) = some G39 ∧
    ∀ q45 : Nat, G39 q45 = none → ∀ G45 : gH, G45 = va_up G39 q45 (some (.inr (.inl (10, fun _ => 0)))) →
    ∃ G47, g_put G45 a0 1 4 (.ref q45) = some G47 ∧
    ∃ G52, g_put G47 a0 1 5 (.int (0 : Int32)) = some G52 ∧
    ∀ q56 : Nat, G52 q56 = none → ∀ G56 : gH, G56 = va_up G52 q56 (some (.inr (.inr (.inr (8, [.int 0, .null, .null, .null, .null]))))) →
    w_X8_init G56 q56 (fun G60 =>
    ∃ G63, g_put G60 a0 1 6 (.ref q56) = some G63 ∧
    K G63))))
set_option maxRecDepth 20000 in
set_option maxHeartbeats 4000000 in
theorem m_X1_init (l : Launch) (dd : va_G) (cT : Nat → ClassId) (lo : Nat) (G : gH) (a0 : Nat) {K : gH → Prop} (h : w_X1_init G a0 K) : Met l yX1_init (Cond.code yX1_init cX1_init 1 none :: wsL_law) (g_rm 2 60 29 1630) (va_Pc [.ref a0] (g_Pre lo dd cT G)) (va_Qv K (g_Pre lo dd cT) (g_A lo)) 29 1630 (g_A lo) := by
  refine g_start RX1 rfl (by decide) (Nat.le_of_ble_eq_true rfl) ?_
  intro p e s m below meth c hx hb hr hlocks hml hown hnm hts hK hG hlo ls hl
  have hl : lv_has ls 1 [(0, .ref a0)] := hl
  have hG : g_S lo dd cT s s.heap [] G := hG
  unfold w_X1_init at h
  refine lv_aload_n hx hb dX1_init_0 rfl (lv_at hl 0 rfl) ?_
  refine W.objInit hx hb hown (hts _ qM_X1_3) (hts _ qI_objectInit) (hts _ qC_objectInit) rfl (hl.1.trans hml.symm) rfl dX1_init_1 (Nat.le_of_ble_eq_true rfl) (Nat.le_of_ble_eq_true rfl) ?_
  refine lv_aload_n hx hb dX1_init_4 rfl (lv_at hl 0 rfl) ?_
  refine g_new (ci := 0) (fs := [.int 0, .int 0, .int 0, .null, .null, .null, .null, .null, .null, .null, .null]) hx hb hts inlX0 tyX0 tyX0_ok hown hK hlo hG rfl qL_X1_9 qA_X0 qN_X0 (fun j hj => by rcases (show j = 0 ∨ j = 1 ∨ j = 2 ∨ j = 3 ∨ j = 4 ∨ j = 5 ∨ j = 6 ∨ j = 7 ∨ j = 8 ∨ j = 9 ∨ j = 10 by omega) with rfl | rfl | rfl | rfl | rfl | rfl | rfl | rfl | rfl | rfl | rfl <;> rfl) ⟨Nat.le_of_ble_eq_true rfl, Nat.le_of_ble_eq_true rfl⟩ dX1_init_5 (fun q5 H z5 hG => ?_)
  obtain ⟨G5, i5⟩ : ∃ g : gH, g = va_up G q5 (some (.inr (.inr (.inr (0, [.int 0, .int 0, .int 0, .null, .null, .null, .null, .null, .null, .null, .null]))))) := ⟨_, rfl⟩
  rw [← i5] at hG
  replace h := h q5 z5 G5 i5
  refine lv_dup hx hb dX1_init_8 rfl ?_
  refine g_wI (b := q5) (As := []) (rest := [.ref q5, .ref a0]) (n := 0) hx hb hml hown hts hK hlo hG (m_X0_init l dd cT lo G5 q5 h) (List.mem_of_getElem? (i := 15) rfl) qI_yX0_init rfl qN_X0 qC_yX0_init (by decide +kernel) ⟨Nat.le_of_ble_eq_true rfl, Nat.le_of_ble_eq_true rfl⟩ rfl hl.1 rfl (Nat.le_of_ble_eq_true rfl) dX1_init_9 ⟨Nat.le_of_ble_eq_true rfl, Nat.le_of_ble_eq_true rfl⟩ (fun G9 H locs h hG => ?_)
  obtain ⟨G12, i12, h⟩ := h
  refine g_putvF hx hb hts inlX1 tyX1 tyX1_ok nmX1 hown hK hG (by rfl) 0 (by decide) qF_X1_12 rfl hnm rfl rfl rfl rfl i12 dX1_init_12 (fun H locs hG => ?_)
  refine lv_aload_n hx hb dX1_init_15 rfl (lv_at hl 0 rfl) ?_
  refine g_new (ci := 7) (fs := [.int 0, .null, .null, .null, .null, .null]) hx hb hts inlX7 tyX7 tyX7_ok hown hK hlo hG rfl qL_X1_18 qA_X7 qN_X7 (fun j hj => by rcases (show j = 0 ∨ j = 1 ∨ j = 2 ∨ j = 3 ∨ j = 4 ∨ j = 5 by omega) with rfl | rfl | rfl | rfl | rfl | rfl <;> rfl) ⟨Nat.le_of_ble_eq_true rfl, Nat.le_of_ble_eq_true rfl⟩ dX1_init_16 (fun q16 H z16 hG => ?_)
  obtain ⟨G16, i16⟩ : ∃ g : gH, g = va_up G12 q16 (some (.inr (.inr (.inr (7, [.int 0, .null, .null, .null, .null, .null]))))) := ⟨_, rfl⟩
  rw [← i16] at hG
  replace h := h q16 z16 G16 i16
  refine lv_dup hx hb dX1_init_19 rfl ?_
  refine g_wI (b := q16) (As := []) (rest := [.ref q16, .ref a0]) (n := 0) hx hb hml hown hts hK hlo hG (m_X7_init l dd cT lo G16 q16 h) (List.mem_of_getElem? (i := 16) rfl) qI_yX7_init rfl qN_X7 qC_yX7_init (by decide +kernel) ⟨Nat.le_of_ble_eq_true rfl, Nat.le_of_ble_eq_true rfl⟩ rfl hl.1 rfl (Nat.le_of_ble_eq_true rfl) dX1_init_20 ⟨Nat.le_of_ble_eq_true rfl, Nat.le_of_ble_eq_true rfl⟩ (fun G20 H locs h hG => ?_)
  obtain ⟨G23, i23, h⟩ := h
  refine g_putvF hx hb hts inlX1 tyX1 tyX1_ok nmX1 hown hK hG (by rfl) 1 (by decide) qF_X1_21 rfl hnm rfl rfl rfl rfl i23 dX1_init_23 (fun H locs hG => ?_)
  refine lv_aload_n hx hb dX1_init_26 rfl (lv_at hl 0 rfl) ?_
  refine g_new (ci := 5) (fs := [.int 0, .null, .null, .null, .null, .null, .null, .null]) hx hb hts inlX5 tyX5 tyX5_ok hown hK hlo hG rfl qL_X1_25 qA_X5 qN_X5 (fun j hj => by rcases (show j = 0 ∨ j = 1 ∨ j = 2 ∨ j = 3 ∨ j = 4 ∨ j = 5 ∨ j = 6 ∨ j = 7 by omega) with rfl | rfl | rfl | rfl | rfl | rfl | rfl | rfl <;> rfl) ⟨Nat.le_of_ble_eq_true rfl, Nat.le_of_ble_eq_true rfl⟩ dX1_init_27 (fun q27 H z27 hG => ?_)
  obtain ⟨G27, i27⟩ : ∃ g : gH, g = va_up G23 q27 (some (.inr (.inr (.inr (5, [.int 0, .null, .null, .null, .null, .null, .null, .null]))))) := ⟨_, rfl⟩
  rw [← i27] at hG
  replace h := h q27 z27 G27 i27
  refine lv_dup hx hb dX1_init_30 rfl ?_
  refine g_wI (b := q27) (As := []) (rest := [.ref q27, .ref a0]) (n := 0) hx hb hml hown hts hK hlo hG (m_X5_init l dd cT lo G27 q27 h) (List.mem_of_getElem? (i := 17) rfl) qI_yX5_init rfl qN_X5 qC_yX5_init (by decide +kernel) ⟨Nat.le_of_ble_eq_true rfl, Nat.le_of_ble_eq_true rfl⟩ rfl hl.1 rfl (Nat.le_of_ble_eq_true rfl) dX1_init_31 ⟨Nat.le_of_ble_eq_true rfl, Nat.le_of_ble_eq_true rfl⟩ (fun G31 H locs h hG => ?_)
  obtain ⟨G34, i34, h⟩ := h
  refine g_putvF hx hb hts inlX1 tyX1 tyX1_ok nmX1 hown hK hG (by rfl) 2 (by decide) qF_X1_28 rfl hnm rfl rfl rfl rfl i34 dX1_init_34 (fun H locs hG => ?_)
  refine lv_aload_n hx hb dX1_init_37 rfl (lv_at hl 0 rfl) ?_
  refine lv_iconst (v := (0 : Int32)) hx hb dX1_init_38 (by decide) ?_
  obtain ⟨G39, i39, h⟩ := h
  refine g_putv hx hb hts inlX1 tyX1 tyX1_ok nmX1 hown hK hG (by rfl) 3 (by decide) qF_X1_32 rfl rfl rfl rfl i39 dX1_init_39 (fun H locs hG => ?_)
  refine lv_aload_n hx hb dX1_init_42 rfl (lv_at hl 0 rfl) ?_
  refine lv_bipush (v := (10 : Int32)) hx hb dX1_init_43 (by decide) ?_
  refine g_newaj (N := 10) hx hb hts hK hlo hG (by decide) (by decide) (Nat.le_of_ble_eq_true rfl) ⟨Nat.le_of_ble_eq_true rfl, Nat.le_of_ble_eq_true rfl⟩ dX1_init_45 (fun q45 H z45 hG => ?_)
  obtain ⟨G45, i45⟩ : ∃ g : gH, g = va_up G39 q45 (some (.inr (.inl (10, fun _ => 0)))) := ⟨_, rfl⟩
  rw [← i45] at hG
  replace h := h q45 z45 G45 i45
  obtain ⟨G47, i47, h⟩ := h
  refine g_putvF hx hb hts inlX1 tyX1 tyX1_ok nmX1 hown hK hG (by rfl) 4 (by decide) qF_X1_36 rfl hnm rfl rfl rfl rfl i47 dX1_init_47 (fun H locs hG => ?_)
  refine lv_aload_n hx hb dX1_init_50 rfl (lv_at hl 0 rfl) ?_
  refine lv_iconst (v := (0 : Int32)) hx hb dX1_init_51 (by decide) ?_
  obtain ⟨G52, i52, h⟩ := h
  refine g_putv hx hb hts inlX1 tyX1 tyX1_ok nmX1 hown hK hG (by rfl) 5 (by decide) qF_X1_40 rfl rfl rfl rfl i52 dX1_init_52 (fun H locs hG => ?_)
  refine lv_aload_n hx hb dX1_init_55 rfl (lv_at hl 0 rfl) ?_
  refine g_new (ci := 8) (fs := [.int 0, .null, .null, .null, .null]) hx hb hts inlX8 tyX8 tyX8_ok hown hK hlo hG rfl qL_X1_44 qA_X8 qN_X8 (fun j hj => by rcases (show j = 0 ∨ j = 1 ∨ j = 2 ∨ j = 3 ∨ j = 4 by omega) with rfl | rfl | rfl | rfl | rfl <;> rfl) ⟨Nat.le_of_ble_eq_true rfl, Nat.le_of_ble_eq_true rfl⟩ dX1_init_56 (fun q56 H z56 hG => ?_)
  obtain ⟨G56, i56⟩ : ∃ g : gH, g = va_up G52 q56 (some (.inr (.inr (.inr (8, [.int 0, .null, .null, .null, .null]))))) := ⟨_, rfl⟩
  rw [← i56] at hG
  replace h := h q56 z56 G56 i56
  refine lv_dup hx hb dX1_init_59 rfl ?_
  refine g_wI (b := q56) (As := []) (rest := [.ref q56, .ref a0]) (n := 0) hx hb hml hown hts hK hlo hG (m_X8_init l dd cT lo G56 q56 h) (List.mem_of_getElem? (i := 18) rfl) qI_yX8_init rfl qN_X8 qC_yX8_init (by decide +kernel) ⟨Nat.le_of_ble_eq_true rfl, Nat.le_of_ble_eq_true rfl⟩ rfl hl.1 rfl (Nat.le_of_ble_eq_true rfl) dX1_init_60 ⟨Nat.le_of_ble_eq_true rfl, Nat.le_of_ble_eq_true rfl⟩ (fun G60 H locs h hG => ?_)
  obtain ⟨G63, i63, h⟩ := h
  refine g_putvF hx hb hts inlX1 tyX1 tyX1_ok nmX1 hown hK hG (by rfl) 6 (by decide) qF_X1_47 rfl hnm rfl rfl rfl rfl i63 dX1_init_63 (fun H locs hG => ?_)
  refine W.widen (k := 29) (n := 1630) (Nat.le_of_ble_eq_true rfl) (Nat.le_of_ble_eq_true rfl) ?_
  exact g_vret hx hb hr hlocks hK hlo hG h dX1_init_66
def w_X3_init (G : gH) (a0 : Nat) (K : gH → Prop) : Prop :=
    ∀ q8 : Nat, G q8 = none → ∀ G8 : gH, G8 = va_up G q8 (some (.inl (0, 600, fun _ => 0))) →
    ∃ G10, g_put G8 a0 3 0 (.ref q8) = some G10 ∧
    ∃ G15, g_put G10 a0 3 1 (.int (0 : Int32)) = some G15 ∧
    K G15
set_option maxRecDepth 20000 in
set_option maxHeartbeats 4000000 in
theorem m_X3_init (l : Launch) (dd : va_G) (cT : Nat → ClassId) (lo : Nat) (G : gH) (a0 : Nat) {K : gH → Prop} (h : w_X3_init G a0 K) : Met l yX3_init (Cond.code yX3_init cX3_init 1 none :: wsL_law) (g_rm 1 40 1 600) (va_Pc [.ref a0] (g_Pre lo dd cT G)) (va_Qv K (g_Pre lo dd cT) (g_A lo)) 1 600 (g_A lo) := by
  refine g_start RX3 rfl (by decide) (Nat.le_of_ble_eq_true rfl) ?_
  intro p e s m below meth c hx hb hr hlocks hml hown hnm hts hK hG hlo ls hl
  have hl : lv_has ls 1 [(0, .ref a0)] := hl
  have hG : g_S lo dd cT s s.heap [] G := hG
  unfold w_X3_init at h
  refine lv_aload_n hx hb dX3_init_0 rfl (lv_at hl 0 rfl) ?_
  refine W.objInit hx hb hown (hts _ qM_X3_3) (hts _ qI_objectInit) (hts _ qC_objectInit) rfl (hl.1.trans hml.symm) rfl dX3_init_1 (Nat.le_of_ble_eq_true rfl) (Nat.le_of_ble_eq_true rfl) ?_
  refine lv_aload_n hx hb dX3_init_4 rfl (lv_at hl 0 rfl) ?_
  refine lv_sipush (v := (600 : Int32)) hx hb dX3_init_5 (by decide) ?_
  refine g_newai (N := 600) hx hb hts hK hlo hG (by decide) (by decide) (Nat.le_of_ble_eq_true rfl) ⟨Nat.le_of_ble_eq_true rfl, Nat.le_of_ble_eq_true rfl⟩ dX3_init_8 (fun q8 H z8 hG => ?_)
  obtain ⟨G8, i8⟩ : ∃ g : gH, g = va_up G q8 (some (.inl (0, 600, fun _ => 0))) := ⟨_, rfl⟩
  rw [← i8] at hG
  replace h := h q8 z8 G8 i8
  obtain ⟨G10, i10, h⟩ := h
  refine g_putvF hx hb hts inlX3 tyX3 tyX3_ok nmX3 hown hK hG (by rfl) 0 (by decide) qF_X3_9 rfl hnm rfl rfl rfl rfl i10 dX3_init_10 (fun H locs hG => ?_)
  refine lv_aload_n hx hb dX3_init_13 rfl (lv_at hl 0 rfl) ?_
  refine lv_iconst (v := (0 : Int32)) hx hb dX3_init_14 (by decide) ?_
  obtain ⟨G15, i15, h⟩ := h
  refine g_putv hx hb hts inlX3 tyX3 tyX3_ok nmX3 hown hK hG (by rfl) 1 (by decide) qF_X3_15 rfl rfl rfl rfl i15 dX3_init_15 (fun H locs hG => ?_)
  refine W.widen (k := 1) (n := 600) (Nat.le_of_ble_eq_true rfl) (Nat.le_of_ble_eq_true rfl) ?_
  exact g_vret hx hb hr hlocks hK hlo hG h dX3_init_18
def w_X11_init (G : gH) (a0 : Nat) (K : gH → Prop) : Prop :=
    ∃ G6, g_put G a0 11 0 (.int (0 : Int32)) = some G6 ∧
    ∃ G11, g_put G6 a0 11 1 (.int (0 : Int32)) = some G11 ∧
    ∀ q18 : Nat, G11 q18 = none → ∀ G18 : gH, G18 = va_up G11 q18 (some (.inl (0, 600, fun _ => 0))) →
    ∃ G20, g_put G18 a0 11 2 (.ref q18) = some G20 ∧
    ∀ q27 : Nat, G20 q27 = none → ∀ G27 : gH, G27 = va_up G20 q27 (some (.inl (0, 600, fun _ => 0))) →
    ∃ G29, g_put G27 a0 11 3 (.ref q27) = some G29 ∧
    ∀ q36 : Nat, G29 q36 = none → ∀ G36 : gH, G36 = va_up G29 q36 (some (.inr (.inl (600, fun _ => 0)))) →
    ∃ G38, g_put G36 a0 11 4 (.ref q36) = some G38 ∧
    K G38
set_option maxRecDepth 20000 in
set_option maxHeartbeats 4000000 in
theorem m_X11_init (l : Launch) (dd : va_G) (cT : Nat → ClassId) (lo : Nat) (G : gH) (a0 : Nat) {K : gH → Prop} (h : w_X11_init G a0 K) : Met l yX11_init (Cond.code yX11_init cX11_init 1 none :: wsL_law) (g_rm 1 40 3 1800) (va_Pc [.ref a0] (g_Pre lo dd cT G)) (va_Qv K (g_Pre lo dd cT) (g_A lo)) 3 1800 (g_A lo) := by
  refine g_start RX11 rfl (by decide) (Nat.le_of_ble_eq_true rfl) ?_
  intro p e s m below meth c hx hb hr hlocks hml hown hnm hts hK hG hlo ls hl
  have hl : lv_has ls 1 [(0, .ref a0)] := hl
  have hG : g_S lo dd cT s s.heap [] G := hG
  unfold w_X11_init at h
  refine lv_aload_n hx hb dX11_init_0 rfl (lv_at hl 0 rfl) ?_
  refine W.objInit hx hb hown (hts _ qM_X11_3) (hts _ qI_objectInit) (hts _ qC_objectInit) rfl (hl.1.trans hml.symm) rfl dX11_init_1 (Nat.le_of_ble_eq_true rfl) (Nat.le_of_ble_eq_true rfl) ?_
  refine lv_aload_n hx hb dX11_init_4 rfl (lv_at hl 0 rfl) ?_
  refine lv_iconst (v := (0 : Int32)) hx hb dX11_init_5 (by decide) ?_
  obtain ⟨G6, i6, h⟩ := h
  refine g_putv hx hb hts inlX11 tyX11 tyX11_ok nmX11 hown hK hG (by rfl) 0 (by decide) qF_X11_9 rfl rfl rfl rfl i6 dX11_init_6 (fun H locs hG => ?_)
  refine lv_aload_n hx hb dX11_init_9 rfl (lv_at hl 0 rfl) ?_
  refine lv_iconst (v := (0 : Int32)) hx hb dX11_init_10 (by decide) ?_
  obtain ⟨G11, i11, h⟩ := h
  refine g_putv hx hb hts inlX11 tyX11 tyX11_ok nmX11 hown hK hG (by rfl) 1 (by decide) qF_X11_15 rfl rfl rfl rfl i11 dX11_init_11 (fun H locs hG => ?_)
  refine lv_aload_n hx hb dX11_init_14 rfl (lv_at hl 0 rfl) ?_
  refine lv_sipush (v := (600 : Int32)) hx hb dX11_init_15 (by decide) ?_
  refine g_newai (N := 600) hx hb hts hK hlo hG (by decide) (by decide) (Nat.le_of_ble_eq_true rfl) ⟨Nat.le_of_ble_eq_true rfl, Nat.le_of_ble_eq_true rfl⟩ dX11_init_18 (fun q18 H z18 hG => ?_)
  obtain ⟨G18, i18⟩ : ∃ g : gH, g = va_up G11 q18 (some (.inl (0, 600, fun _ => 0))) := ⟨_, rfl⟩
  rw [← i18] at hG
  replace h := h q18 z18 G18 i18
  obtain ⟨G20, i20, h⟩ := h
  refine g_putvF hx hb hts inlX11 tyX11 tyX11_ok nmX11 hown hK hG (by rfl) 2 (by decide) qF_X11_18 rfl hnm rfl rfl rfl rfl i20 dX11_init_20 (fun H locs hG => ?_)
  refine lv_aload_n hx hb dX11_init_23 rfl (lv_at hl 0 rfl) ?_
  refine lv_sipush (v := (600 : Int32)) hx hb dX11_init_24 (by decide) ?_
  refine g_newai (N := 600) hx hb hts hK hlo hG (by decide) (by decide) (Nat.le_of_ble_eq_true rfl) ⟨Nat.le_of_ble_eq_true rfl, Nat.le_of_ble_eq_true rfl⟩ dX11_init_27 (fun q27 H z27 hG => ?_)
  obtain ⟨G27, i27⟩ : ∃ g : gH, g = va_up G20 q27 (some (.inl (0, 600, fun _ => 0))) := ⟨_, rfl⟩
  rw [← i27] at hG
  replace h := h q27 z27 G27 i27
  obtain ⟨G29, i29, h⟩ := h
  refine g_putvF hx hb hts inlX11 tyX11 tyX11_ok nmX11 hown hK hG (by rfl) 3 (by decide) qF_X11_22 rfl hnm rfl rfl rfl rfl i29 dX11_init_29 (fun H locs hG => ?_)
  refine lv_aload_n hx hb dX11_init_32 rfl (lv_at hl 0 rfl) ?_
  refine lv_sipush (v := (600 : Int32)) hx hb dX11_init_33 (by decide) ?_
  refine g_newaj (N := 600) hx hb hts hK hlo hG (by decide) (by decide) (Nat.le_of_ble_eq_true rfl) ⟨Nat.le_of_ble_eq_true rfl, Nat.le_of_ble_eq_true rfl⟩ dX11_init_36 (fun q36 H z36 hG => ?_)
  obtain ⟨G36, i36⟩ : ∃ g : gH, g = va_up G29 q36 (some (.inr (.inl (600, fun _ => 0)))) := ⟨_, rfl⟩
  rw [← i36] at hG
  replace h := h q36 z36 G36 i36
  obtain ⟨G38, i38, h⟩ := h
  refine g_putvF hx hb hts inlX11 tyX11 tyX11_ok nmX11 hown hK hG (by rfl) 4 (by decide) qF_X11_25 rfl hnm rfl rfl rfl rfl i38 dX11_init_38 (fun H locs hG => ?_)
  refine W.widen (k := 3) (n := 1800) (Nat.le_of_ble_eq_true rfl) (Nat.le_of_ble_eq_true rfl) ?_
  exact g_vret hx hb hr hlocks hK hlo hG h dX11_init_41
def w_X4_init (G : gH) (a0 : Nat) (K : gH → Prop) : Prop :=
    ∃ G6, g_put G a0 4 0 (.int (0 : Int32)) = some G6 ∧
    ∃ G11, g_put G6 a0 4 1 (.int (-1 : Int32)) = some G11 ∧
    ∃ G17, g_put G11 a0 4 2 (.int (8 : Int32)) = some G17 ∧
    ∃ G22, g_put G17 a0 4 3 (.int (0 : Int32)) = some G22 ∧
    ∃ G27, g_put G22 a0 4 4 (.int (0 : Int32)) = some G27 ∧
    ∀ q33 : Nat, G27 q33 = none → ∀ G33 : gH, G33 = va_up G27 q33 (some (.inr (.inl (10, fun _ => 0)))) →
    ∃ G35, g_put G33 a0 4 5 (.ref q33) = some G35 ∧
    ∃ G40, g_put G35 a0 4 6 (.int (0 : Int32)) = some G40 ∧
    ∀ q46 : Nat, G40 q46 = none → ∀ G46 : gH, G46 = va_up G40 q46 (some (.inl (0, 120, fun _ => 0))) →
    ∃ G48, g_put G46 a0 4 7 (.ref q46) = some G48 ∧
    ∀ q54 : Nat, G48 q54 = none → ∀ G54 : gH, G54 = va_up G48 q54 (some (.inl (0, 120, fun _ => 0))) →
    ∃ G56, g_put G54 a0 4 8 (.ref q54) = some G56 ∧
    ∀ q62 : Nat, G56 q62 = none → ∀ G62 : gH, G62 = va_up G56 q62 (some (.inl (0, 120, fun _ => 0))) →
    ∃ G64, g_put G62 a0 4 9 (.ref q62) = some G64 ∧
    ∀ q70 : Nat, G64 q70 = none → ∀ G70 : gH, G70 = va_up G64 q70 (some (.inl (0, 120, fun _ => 0))) →
    ∃ G72, g_put G70 a0 4 10 (.ref q70) = some G72 ∧
    ∀ q78 : Nat, G72 q78 = none → ∀ G78 : gH, G78 = va_up G72 q78 (some (.inl (0, 120, fun _ => 0))) →
    ∃ G80, g_put G78 a0 4 11 (.ref q78) = some G80 ∧
    ∀ q86 : Nat, G80 q86 = none → ∀ G86 : gH, G86 = va_up G80 q86 (some (.inl (1, 96, fun _ => 0))) →
    ∃ G88, g_put G86 a0 4 12 (.ref q86) = some G88 ∧
    ∀ q92 : Nat, G88 q92 = none → ∀ G92 : gH, G92 = va_up G88 q92 (some (.inr (.inr (.inr (11, [.int 0, .int 0, .null, .null, .null]))))) →
    w_X11_init G92 q92 (fun G96 =>
    ∃ G99, g_put G96 a0 4 13 (.ref q92) = some G99 ∧
    ∃ G104, g_put G99 a0 4 14 (.int (0 : Int32)) = some G104 ∧
    K G104)
set_option maxRecDepth 20000 in
set_option maxHeartbeats 4000000 in
theorem m_X4_init (l : Launch) (dd : va_G) (cT : Nat → ClassId) (lo : Nat) (G : gH) (a0 : Nat) {K : gH → Prop} (h : w_X4_init G a0 K) : Met l yX4_init (Cond.code yX4_init cX4_init 1 none :: wsL_law) (g_rm 2 60 11 2511) (va_Pc [.ref a0] (g_Pre lo dd cT G)) (va_Qv K (g_Pre lo dd cT) (g_A lo)) 11 2511 (g_A lo) := by
  refine g_start RX4 rfl (by decide) (Nat.le_of_ble_eq_true rfl) ?_
  intro p e s m below meth c hx hb hr hlocks hml hown hnm hts hK hG hlo ls hl
  have hl : lv_has ls 1 [(0, .ref a0)] := hl
  have hG : g_S lo dd cT s s.heap [] G := hG
  unfold w_X4_init at h
  refine lv_aload_n hx hb dX4_init_0 rfl (lv_at hl 0 rfl) ?_
  refine W.objInit hx hb hown (hts _ qM_X4_3) (hts _ qI_objectInit) (hts _ qC_objectInit) rfl (hl.1.trans hml.symm) rfl dX4_init_1 (Nat.le_of_ble_eq_true rfl) (Nat.le_of_ble_eq_true rfl) ?_
  refine lv_aload_n hx hb dX4_init_4 rfl (lv_at hl 0 rfl) ?_
  refine lv_iconst (v := (0 : Int32)) hx hb dX4_init_5 (by decide) ?_
  obtain ⟨G6, i6, h⟩ := h
  refine g_putv hx hb hts inlX4 tyX4 tyX4_ok nmX4 hown hK hG (by rfl) 0 (by decide) qF_X4_9 rfl rfl rfl rfl i6 dX4_init_6 (fun H locs hG => ?_)
  refine lv_aload_n hx hb dX4_init_9 rfl (lv_at hl 0 rfl) ?_
  refine lv_iconst (v := (-1 : Int32)) hx hb dX4_init_10 (by decide) ?_
  obtain ⟨G11, i11, h⟩ := h
  refine g_putv hx hb hts inlX4 tyX4 tyX4_ok nmX4 hown hK hG (by rfl) 1 (by decide) qF_X4_15 rfl rfl rfl rfl i11 dX4_init_11 (fun H locs hG => ?_)
  refine lv_aload_n hx hb dX4_init_14 rfl (lv_at hl 0 rfl) ?_
  refine lv_bipush (v := (8 : Int32)) hx hb dX4_init_15 (by decide) ?_
  obtain ⟨G17, i17, h⟩ := h
  refine g_putv hx hb hts inlX4 tyX4 tyX4_ok nmX4 hown hK hG (by rfl) 2 (by decide) qF_X4_18 rfl rfl rfl rfl i17 dX4_init_17 (fun H locs hG => ?_)
  refine lv_aload_n hx hb dX4_init_20 rfl (lv_at hl 0 rfl) ?_
  refine lv_iconst (v := (0 : Int32)) hx hb dX4_init_21 (by decide) ?_
  obtain ⟨G22, i22, h⟩ := h
  refine g_putv hx hb hts inlX4 tyX4 tyX4_ok nmX4 hown hK hG (by rfl) 3 (by decide) qF_X4_21 rfl rfl rfl rfl i22 dX4_init_22 (fun H locs hG => ?_)
  refine lv_aload_n hx hb dX4_init_25 rfl (lv_at hl 0 rfl) ?_
  refine lv_iconst (v := (0 : Int32)) hx hb dX4_init_26 (by decide) ?_
  obtain ⟨G27, i27, h⟩ := h
  refine g_putv hx hb hts inlX4 tyX4 tyX4_ok nmX4 hown hK hG (by rfl) 4 (by decide) qF_X4_24 rfl rfl rfl rfl i27 dX4_init_27 (fun H locs hG => ?_)
  refine lv_aload_n hx hb dX4_init_30 rfl (lv_at hl 0 rfl) ?_
  refine lv_bipush (v := (10 : Int32)) hx hb dX4_init_31 (by decide) ?_
  refine g_newaj (N := 10) hx hb hts hK hlo hG (by decide) (by decide) (Nat.le_of_ble_eq_true rfl) ⟨Nat.le_of_ble_eq_true rfl, Nat.le_of_ble_eq_true rfl⟩ dX4_init_33 (fun q33 H z33 hG => ?_)
  obtain ⟨G33, i33⟩ : ∃ g : gH, g = va_up G27 q33 (some (.inr (.inl (10, fun _ => 0)))) := ⟨_, rfl⟩
  rw [← i33] at hG
  replace h := h q33 z33 G33 i33
  obtain ⟨G35, i35, h⟩ := h
  refine g_putvF hx hb hts inlX4 tyX4 tyX4_ok nmX4 hown hK hG (by rfl) 5 (by decide) qF_X4_27 rfl hnm rfl rfl rfl rfl i35 dX4_init_35 (fun H locs hG => ?_)
  refine lv_aload_n hx hb dX4_init_38 rfl (lv_at hl 0 rfl) ?_
  refine lv_iconst (v := (0 : Int32)) hx hb dX4_init_39 (by decide) ?_
  obtain ⟨G40, i40, h⟩ := h
  refine g_putv hx hb hts inlX4 tyX4 tyX4_ok nmX4 hown hK hG (by rfl) 6 (by decide) qF_X4_31 rfl rfl rfl rfl i40 dX4_init_40 (fun H locs hG => ?_)
  refine lv_aload_n hx hb dX4_init_43 rfl (lv_at hl 0 rfl) ?_
  refine lv_bipush (v := (120 : Int32)) hx hb dX4_init_44 (by decide) ?_
  refine g_newai (N := 120) hx hb hts hK hlo hG (by decide) (by decide) (Nat.le_of_ble_eq_true rfl) ⟨Nat.le_of_ble_eq_true rfl, Nat.le_of_ble_eq_true rfl⟩ dX4_init_46 (fun q46 H z46 hG => ?_)
  obtain ⟨G46, i46⟩ : ∃ g : gH, g = va_up G40 q46 (some (.inl (0, 120, fun _ => 0))) := ⟨_, rfl⟩
  rw [← i46] at hG
  replace h := h q46 z46 G46 i46
  obtain ⟨G48, i48, h⟩ := h
  refine g_putvF hx hb hts inlX4 tyX4 tyX4_ok nmX4 hown hK hG (by rfl) 7 (by decide) qF_X4_34 rfl hnm rfl rfl rfl rfl i48 dX4_init_48 (fun H locs hG => ?_)
  refine lv_aload_n hx hb dX4_init_51 rfl (lv_at hl 0 rfl) ?_
  refine lv_bipush (v := (120 : Int32)) hx hb dX4_init_52 (by decide) ?_
  refine g_newai (N := 120) hx hb hts hK hlo hG (by decide) (by decide) (Nat.le_of_ble_eq_true rfl) ⟨Nat.le_of_ble_eq_true rfl, Nat.le_of_ble_eq_true rfl⟩ dX4_init_54 (fun q54 H z54 hG => ?_)
  obtain ⟨G54, i54⟩ : ∃ g : gH, g = va_up G48 q54 (some (.inl (0, 120, fun _ => 0))) := ⟨_, rfl⟩
  rw [← i54] at hG
  replace h := h q54 z54 G54 i54
  obtain ⟨G56, i56, h⟩ := h
  refine g_putvF hx hb hts inlX4 tyX4 tyX4_ok nmX4 hown hK hG (by rfl) 8 (by decide) qF_X4_38 rfl hnm rfl rfl rfl rfl i56 dX4_init_56 (fun H locs hG => ?_)
  refine lv_aload_n hx hb dX4_init_59 rfl (lv_at hl 0 rfl) ?_
  refine lv_bipush (v := (120 : Int32)) hx hb dX4_init_60 (by decide) ?_
  refine g_newai (N := 120) hx hb hts hK hlo hG (by decide) (by decide) (Nat.le_of_ble_eq_true rfl) ⟨Nat.le_of_ble_eq_true rfl, Nat.le_of_ble_eq_true rfl⟩ dX4_init_62 (fun q62 H z62 hG => ?_)
  obtain ⟨G62, i62⟩ : ∃ g : gH, g = va_up G56 q62 (some (.inl (0, 120, fun _ => 0))) := ⟨_, rfl⟩
  rw [← i62] at hG
  replace h := h q62 z62 G62 i62
  obtain ⟨G64, i64, h⟩ := h
  refine g_putvF hx hb hts inlX4 tyX4 tyX4_ok nmX4 hown hK hG (by rfl) 9 (by decide) qF_X4_41 rfl hnm rfl rfl rfl rfl i64 dX4_init_64 (fun H locs hG => ?_)
  refine lv_aload_n hx hb dX4_init_67 rfl (lv_at hl 0 rfl) ?_
  refine lv_bipush (v := (120 : Int32)) hx hb dX4_init_68 (by decide) ?_
  refine g_newai (N := 120) hx hb hts hK hlo hG (by decide) (by decide) (Nat.le_of_ble_eq_true rfl) ⟨Nat.le_of_ble_eq_true rfl, Nat.le_of_ble_eq_true rfl⟩ dX4_init_70 (fun q70 H z70 hG => ?_)
  obtain ⟨G70, i70⟩ : ∃ g : gH, g = va_up G64 q70 (some (.inl (0, 120, fun _ => 0))) := ⟨_, rfl⟩
  rw [← i70] at hG
  replace h := h q70 z70 G70 i70
  obtain ⟨G72, i72, h⟩ := h
  refine g_putvF hx hb hts inlX4 tyX4 tyX4_ok nmX4 hown hK hG (by rfl) 10 (by decide) qF_X4_44 rfl hnm rfl rfl rfl rfl i72 dX4_init_72 (fun H locs hG => ?_)
  refine lv_aload_n hx hb dX4_init_75 rfl (lv_at hl 0 rfl) ?_
  refine lv_bipush (v := (120 : Int32)) hx hb dX4_init_76 (by decide) ?_
  refine g_newai (N := 120) hx hb hts hK hlo hG (by decide) (by decide) (Nat.le_of_ble_eq_true rfl) ⟨Nat.le_of_ble_eq_true rfl, Nat.le_of_ble_eq_true rfl⟩ dX4_init_78 (fun q78 H z78 hG => ?_)
  obtain ⟨G78, i78⟩ : ∃ g : gH, g = va_up G72 q78 (some (.inl (0, 120, fun _ => 0))) := ⟨_, rfl⟩
  rw [← i78] at hG
  replace h := h q78 z78 G78 i78
  obtain ⟨G80, i80, h⟩ := h
  refine g_putvF hx hb hts inlX4 tyX4 tyX4_ok nmX4 hown hK hG (by rfl) 11 (by decide) qF_X4_47 rfl hnm rfl rfl rfl rfl i80 dX4_init_80 (fun H locs hG => ?_)
  refine lv_aload_n hx hb dX4_init_83 rfl (lv_at hl 0 rfl) ?_
  refine lv_bipush (v := (96 : Int32)) hx hb dX4_init_84 (by decide) ?_
  refine g_newaz (N := 96) hx hb hts hK hlo hG (by decide) (by decide) (Nat.le_of_ble_eq_true rfl) ⟨Nat.le_of_ble_eq_true rfl, Nat.le_of_ble_eq_true rfl⟩ dX4_init_86 (fun q86 H z86 hG => ?_)
  obtain ⟨G86, i86⟩ : ∃ g : gH, g = va_up G80 q86 (some (.inl (1, 96, fun _ => 0))) := ⟨_, rfl⟩
  rw [← i86] at hG
  replace h := h q86 z86 G86 i86
  obtain ⟨G88, i88, h⟩ := h
  refine g_putvF hx hb hts inlX4 tyX4 tyX4_ok nmX4 hown hK hG (by rfl) 12 (by decide) qF_X4_50 rfl hnm rfl rfl rfl rfl i88 dX4_init_88 (fun H locs hG => ?_)
  refine lv_aload_n hx hb dX4_init_91 rfl (lv_at hl 0 rfl) ?_
  refine g_new (ci := 11) (fs := [.int 0, .int 0, .null, .null, .null]) hx hb hts inlX11 tyX11 tyX11_ok hown hK hlo hG rfl qL_X4_54 qA_X11 qN_X11 (fun j hj => by rcases (show j = 0 ∨ j = 1 ∨ j = 2 ∨ j = 3 ∨ j = 4 by omega) with rfl | rfl | rfl | rfl | rfl <;> rfl) ⟨Nat.le_of_ble_eq_true rfl, Nat.le_of_ble_eq_true rfl⟩ dX4_init_92 (fun q92 H z92 hG => ?_)
  obtain ⟨G92, i92⟩ : ∃ g : gH, g = va_up G88 q92 (some (.inr (.inr (.inr (11, [.int 0, .int 0, .null, .null, .null]))))) := ⟨_, rfl⟩
  rw [← i92] at hG
  replace h := h q92 z92 G92 i92
  refine lv_dup hx hb dX4_init_95 rfl ?_
  refine g_wI (b := q92) (As := []) (rest := [.ref q92, .ref a0]) (n := 0) hx hb hml hown hts hK hlo hG (m_X11_init l dd cT lo G92 q92 h) (List.mem_of_getElem? (i := 39) rfl) qI_yX11_init rfl qN_X11 qC_yX11_init (by decide +kernel) ⟨Nat.le_of_ble_eq_true rfl, Nat.le_of_ble_eq_true rfl⟩ rfl hl.1 rfl (Nat.le_of_ble_eq_true rfl) dX4_init_96 ⟨Nat.le_of_ble_eq_true rfl, Nat.le_of_ble_eq_true rfl⟩ (fun G96 H locs h hG => ?_)
  obtain ⟨G99, i99, h⟩ := h
  refine g_putvF hx hb hts inlX4 tyX4 tyX4_ok nmX4 hown hK hG (by rfl) 13 (by decide) qF_X4_57 rfl hnm rfl rfl rfl rfl i99 dX4_init_99 (fun H locs hG => ?_)
  refine lv_aload_n hx hb dX4_init_102 rfl (lv_at hl 0 rfl) ?_
  refine lv_iconst (v := (0 : Int32)) hx hb dX4_init_103 (by decide) ?_
  obtain ⟨G104, i104, h⟩ := h
  refine g_putv hx hb hts inlX4 tyX4 tyX4_ok nmX4 hown hK hG (by rfl) 14 (by decide) qF_X4_61 rfl rfl rfl rfl i104 dX4_init_104 (fun H locs hG => ?_)
  refine W.widen (k := 11) (n := 2511) (Nat.le_of_ble_eq_true rfl) (Nat.le_of_ble_eq_true rfl) ?_
  exact g_vret hx hb hr hlocks hK hlo hG h dX4_init_107
def w_X2_init (G : gH) (a0 : Nat) (K : gH → Prop) : Prop :=
    ∃ G6, g_put G a0 2 0 (.int (0 : Int32)) = some G6 ∧
    ∃ G11, g_put G6 a0 2 1 (.int (0 : Int32)) = some G11 ∧
    ∀ q17 : Nat, G11 q17 = none → ∀ G17 : gH, G17 = va_up G11 q17 (some (.inr (.inr (.inl (10, fun _ => none))))) →
    ∃ G20, g_put G17 a0 2 2 (.ref q17) = some G20 ∧
    K G20
set_option maxRecDepth 20000 in
set_option maxHeartbeats 4000000 in
theorem m_X2_init (l : Launch) (dd : va_G) (cT : Nat → ClassId) (lo : Nat) (G : gH) (a0 : Nat) {K : gH → Prop} (h : w_X2_init G a0 K) : Met l yX2_init (Cond.code yX2_init cX2_init 1 none :: wsL_law) (g_rm 1 40 1 10) (va_Pc [.ref a0] (g_Pre lo dd cT G)) (va_Qv K (g_Pre lo dd cT) (g_A lo)) 1 10 (g_A lo) := by
  refine g_start RX2 rfl (by decide) (Nat.le_of_ble_eq_true rfl) ?_
  intro p e s m below meth c hx hb hr hlocks hml hown hnm hts hK hG hlo ls hl
  have hl : lv_has ls 1 [(0, .ref a0)] := hl
  have hG : g_S lo dd cT s s.heap [] G := hG
  unfold w_X2_init at h
  refine lv_aload_n hx hb dX2_init_0 rfl (lv_at hl 0 rfl) ?_
  refine W.objInit hx hb hown (hts _ qM_X2_3) (hts _ qI_objectInit) (hts _ qC_objectInit) rfl (hl.1.trans hml.symm) rfl dX2_init_1 (Nat.le_of_ble_eq_true rfl) (Nat.le_of_ble_eq_true rfl) ?_
  refine lv_aload_n hx hb dX2_init_4 rfl (lv_at hl 0 rfl) ?_
  refine lv_iconst (v := (0 : Int32)) hx hb dX2_init_5 (by decide) ?_
  obtain ⟨G6, i6, h⟩ := h
  refine g_putv hx hb hts inlX2 tyX2 tyX2_ok nmX2 hown hK hG (by rfl) 0 (by decide) qF_X2_9 rfl rfl rfl rfl i6 dX2_init_6 (fun H locs hG => ?_)
  refine lv_aload_n hx hb dX2_init_9 rfl (lv_at hl 0 rfl) ?_
  refine lv_iconst (v := (0 : Int32)) hx hb dX2_init_10 (by decide) ?_
  obtain ⟨G11, i11, h⟩ := h
  refine g_putv hx hb hts inlX2 tyX2 tyX2_ok nmX2 hown hK hG (by rfl) 1 (by decide) qF_X2_15 rfl rfl rfl rfl i11 dX2_init_11 (fun H locs hG => ?_)
  refine lv_aload_n hx hb dX2_init_14 rfl (lv_at hl 0 rfl) ?_
  refine lv_bipush (v := (10 : Int32)) hx hb dX2_init_15 (by decide) ?_
  refine g_newq (N := 10) hx hb hown hts qL_X2_18 hK hlo hG (by decide) (by decide) (Nat.le_of_ble_eq_true rfl) ⟨Nat.le_of_ble_eq_true rfl, Nat.le_of_ble_eq_true rfl⟩ dX2_init_17 (fun q17 H z17 hG => ?_)
  obtain ⟨G17, i17⟩ : ∃ g : gH, g = va_up G11 q17 (some (.inr (.inr (.inl (10, fun _ => none))))) := ⟨_, rfl⟩
  rw [← i17] at hG
  replace h := h q17 z17 G17 i17
  obtain ⟨G20, i20, h⟩ := h
  refine g_putvF hx hb hts inlX2 tyX2 tyX2_ok nmX2 hown hK hG (by rfl) 2 (by decide) qF_X2_20 rfl hnm rfl rfl rfl rfl i20 dX2_init_20 (fun H locs hG => ?_)
  refine W.widen (k := 1) (n := 10) (Nat.le_of_ble_eq_true rfl) (Nat.le_of_ble_eq_true rfl) ?_
  exact g_vret hx hb hr hlocks hK hlo hG h dX2_init_23
def w_X6_init (G : gH) (a0 : Nat) (K : gH → Prop) : Prop :=
    ∀ q6 : Nat, G q6 = none → ∀ G6 : gH, G6 = va_up G q6 (some (.inl (1, 2, fun _ => 0))) →
    ∃ G8, g_put G6 a0 6 0 (.ref q6) = some G8 ∧
    ∀ q13 : Nat, G8 q13 = none → ∀ G13 : gH, G13 = va_up G8 q13 (some (.inr (.inr (.inl (2, fun _ => none))))) →
    ∃ G16, g_put G13 a0 6 1 (.ref q13) = some G16 ∧
    K G16
set_option maxRecDepth 20000 in
set_option maxHeartbeats 4000000 in
theorem m_X6_init (l : Launch) (dd : va_G) (cT : Nat → ClassId) (lo : Nat) (G : gH) (a0 : Nat) {K : gH → Prop} (h : w_X6_init G a0 K) : Met l yX6_init (Cond.code yX6_init cX6_init 1 none :: wsL_law) (g_rm 1 40 2 4) (va_Pc [.ref a0] (g_Pre lo dd cT G)) (va_Qv K (g_Pre lo dd cT) (g_A lo)) 2 4 (g_A lo) := by
  refine g_start RX6 rfl (by decide) (Nat.le_of_ble_eq_true rfl) ?_
  intro p e s m below meth c hx hb hr hlocks hml hown hnm hts hK hG hlo ls hl
  have hl : lv_has ls 1 [(0, .ref a0)] := hl
  have hG : g_S lo dd cT s s.heap [] G := hG
  unfold w_X6_init at h
  refine lv_aload_n hx hb dX6_init_0 rfl (lv_at hl 0 rfl) ?_
  refine W.objInit hx hb hown (hts _ qM_X6_3) (hts _ qI_objectInit) (hts _ qC_objectInit) rfl (hl.1.trans hml.symm) rfl dX6_init_1 (Nat.le_of_ble_eq_true rfl) (Nat.le_of_ble_eq_true rfl) ?_
  refine lv_aload_n hx hb dX6_init_4 rfl (lv_at hl 0 rfl) ?_
  refine lv_iconst (v := (2 : Int32)) hx hb dX6_init_5 (by decide) ?_
  refine g_newaz (N := 2) hx hb hts hK hlo hG (by decide) (by decide) (Nat.le_of_ble_eq_true rfl) ⟨Nat.le_of_ble_eq_true rfl, Nat.le_of_ble_eq_true rfl⟩ dX6_init_6 (fun q6 H z6 hG => ?_)
  obtain ⟨G6, i6⟩ : ∃ g : gH, g = va_up G q6 (some (.inl (1, 2, fun _ => 0))) := ⟨_, rfl⟩
  rw [← i6] at hG
  replace h := h q6 z6 G6 i6
  obtain ⟨G8, i8, h⟩ := h
  refine g_putvF hx hb hts inlX6 tyX6 tyX6_ok nmX6 hown hK hG (by rfl) 0 (by decide) qF_X6_9 rfl hnm rfl rfl rfl rfl i8 dX6_init_8 (fun H locs hG => ?_)
  refine lv_aload_n hx hb dX6_init_11 rfl (lv_at hl 0 rfl) ?_
  refine lv_iconst (v := (2 : Int32)) hx hb dX6_init_12 (by decide) ?_
  refine g_newq (N := 2) hx hb hown hts qL_X6_15 hK hlo hG (by decide) (by decide) (Nat.le_of_ble_eq_true rfl) ⟨Nat.le_of_ble_eq_true rfl, Nat.le_of_ble_eq_true rfl⟩ dX6_init_13 (fun q13 H z13 hG => ?_)
  obtain ⟨G13, i13⟩ : ∃ g : gH, g = va_up G8 q13 (some (.inr (.inr (.inl (2, fun _ => none))))) := ⟨_, rfl⟩
  rw [← i13] at hG
  replace h := h q13 z13 G13 i13
  obtain ⟨G16, i16, h⟩ := h
  refine g_putvF hx hb hts inlX6 tyX6 tyX6_ok nmX6 hown hK hG (by rfl) 1 (by decide) qF_X6_17 rfl hnm rfl rfl rfl rfl i16 dX6_init_16 (fun H locs hG => ?_)
  refine W.widen (k := 2) (n := 4) (Nat.le_of_ble_eq_true rfl) (Nat.le_of_ble_eq_true rfl) ?_
  exact g_vret hx hb hr hlocks hK hlo hG h dX6_init_19
def w_X10_init (G : gH) (a0 : Nat) (K : gH → Prop) : Prop :=
    ∀ q8 : Nat, G q8 = none → ∀ G8 : gH, G8 = va_up G q8 (some (.inl (0, 1555, fun _ => 0))) →
    ∃ G10, g_put G8 a0 10 1 (.ref q8) = some G10 ∧
    ∀ q16 : Nat, G10 q16 = none → ∀ G16 : gH, G16 = va_up G10 q16 (some (.inr (.inl (10, fun _ => 0)))) →
    ∃ G18, g_put G16 a0 10 2 (.ref q16) = some G18 ∧
    ∀ q25 : Nat, G18 q25 = none → ∀ G25 : gH, G25 = va_up G18 q25 (some (.inl (2, 600, fun _ => 0))) →
    ∃ G27, g_put G25 a0 10 3 (.ref q25) = some G27 ∧
    ∃ G32, g_put G27 a0 10 12 (.int (-1 : Int32)) = some G32 ∧
    ∀ q39 : Nat, G32 q39 = none → ∀ G39 : gH, G39 = va_up G32 q39 (some (.inl (0, 1555, fun _ => 0))) →
    ∃ G41, g_put G39 a0 10 14 (.ref q39) = some G41 ∧
    ∀ q47 : Nat, G41 q47 = none → ∀ G47 : gH, G47 = va_up G41 q47 (some (.inr (.inl (10, fun _ => 0)))) →
    ∃ G49, g_put G47 a0 10 15 (.ref q47) = some G49 ∧
    ∀ q55 : Nat, G49 q55 = none → ∀ G55 : gH, G55 = va_up G49 q55 (some (.inl (0, 12, fun _ => 0))) →
    ∃ G57, g_put G55 a0 10 17 (.ref q55) = some G57 ∧
    ∀ q63 : Nat, G57 q63 = none → ∀ G63 : gH, G63 = va_up G57 q63 (some (.inl (0, 10, fun _ => 0))) →
    ∃ G65, g_put G63 a0 10 21 (.ref q63) = some G65 ∧
    ∀ q71 : Nat, G65 q71 = none → ∀ G71 : gH, G71 = va_up G65 q71 (some (.inl (1, 96, fun _ => 0))) →
    ∃ G73, g_put G71 a0 10 23 (.ref q71) = some G73 ∧
    ∀ q80 : Nat, G73 q80 = none → ∀ G80 : gH, G80 = va_up G73 q80 (some (.inl (0, 15550, fun _ => 0))) →
    ∃ G82, g_put G80 a0 10 25 (.ref q80) = some G82 ∧
    ∀ q89 : Nat, G82 q89 = none → ∀ G89 : gH, G89 = va_up G82 q89 (some (.inl (0, 3110, fun _ => 0))) →
    ∃ G91, g_put G89 a0 10 26 (.ref q89) = some G91 ∧
    ∀ q96 : Nat, G91 q96 = none → ∀ G96 : gH, G96 = va_up G91 q96 (some (.inl (1, 2, fun _ => 0))) →
    ∃ G98, g_put G96 a0 10 27 (.ref q96) = some G98 ∧
    ∃ v102, g_r G98 a0 10 1 = some v102 ∧
    ∃ G108, g_ast 0 G98 v102 (0 : Int32) (8 : Int32) = some G108 ∧
    K G108
set_option maxRecDepth 20000 in
set_option maxHeartbeats 4000000 in
theorem m_X10_init (l : Launch) (dd : va_G) (cT : Nat → ClassId) (lo : Nat) (G : gH) (a0 : Nat) {K : gH → Prop} (h : w_X10_init G a0 K) : Met l yX10_init (Cond.code yX10_init cX10_init 1 none :: wsL_law) (g_rm 1 40 11 22510) (va_Pc [.ref a0] (g_Pre lo dd cT G)) (va_Qv K (g_Pre lo dd cT) (g_A lo)) 11 22510 (g_A lo) := by
  refine g_start RX10 rfl (by decide) (Nat.le_of_ble_eq_true rfl) ?_
  intro p e s m below meth c hx hb hr hlocks hml hown hnm hts hK hG hlo ls hl
  have hl : lv_has ls 1 [(0, .ref a0)] := hl
  have hG : g_S lo dd cT s s.heap [] G := hG
  unfold w_X10_init at h
  refine lv_aload_n hx hb dX10_init_0 rfl (lv_at hl 0 rfl) ?_
  refine W.objInit hx hb hown (hts _ qM_X10_1) (hts _ qI_objectInit) (hts _ qC_objectInit) rfl (hl.1.trans hml.symm) rfl dX10_init_1 (Nat.le_of_ble_eq_true rfl) (Nat.le_of_ble_eq_true rfl) ?_
  refine lv_aload_n hx hb dX10_init_4 rfl (lv_at hl 0 rfl) ?_
  refine lv_sipush (v := (1555 : Int32)) hx hb dX10_init_5 (by decide) ?_
  refine g_newai (N := 1555) hx hb hts hK hlo hG (by decide) (by decide) (Nat.le_of_ble_eq_true rfl) ⟨Nat.le_of_ble_eq_true rfl, Nat.le_of_ble_eq_true rfl⟩ dX10_init_8 (fun q8 H z8 hG => ?_)
  obtain ⟨G8, i8⟩ : ∃ g : gH, g = va_up G q8 (some (.inl (0, 1555, fun _ => 0))) := ⟨_, rfl⟩
  rw [← i8] at hG
  replace h := h q8 z8 G8 i8
  obtain ⟨G10, i10, h⟩ := h
  refine g_putvF hx hb hts inlX10 tyX10 tyX10_ok nmX10 hown hK hG (by rfl) 1 (by decide) qF_X10_7 rfl hnm rfl rfl rfl rfl i10 dX10_init_10 (fun H locs hG => ?_)
  refine lv_aload_n hx hb dX10_init_13 rfl (lv_at hl 0 rfl) ?_
  refine lv_bipush (v := (10 : Int32)) hx hb dX10_init_14 (by decide) ?_
  refine g_newaj (N := 10) hx hb hts hK hlo hG (by decide) (by decide) (Nat.le_of_ble_eq_true rfl) ⟨Nat.le_of_ble_eq_true rfl, Nat.le_of_ble_eq_true rfl⟩ dX10_init_16 (fun q16 H z16 hG => ?_)
  obtain ⟨G16, i16⟩ : ∃ g : gH, g = va_up G10 q16 (some (.inr (.inl (10, fun _ => 0)))) := ⟨_, rfl⟩
  rw [← i16] at hG
  replace h := h q16 z16 G16 i16
  obtain ⟨G18, i18, h⟩ := h
  refine g_putvF hx hb hts inlX10 tyX10 tyX10_ok nmX10 hown hK hG (by rfl) 2 (by decide) qF_X10_13 rfl hnm rfl rfl rfl rfl i18 dX10_init_18 (fun H locs hG => ?_)
  refine lv_aload_n hx hb dX10_init_21 rfl (lv_at hl 0 rfl) ?_
  refine lv_sipush (v := (600 : Int32)) hx hb dX10_init_22 (by decide) ?_
  refine g_newab (N := 600) hx hb hts hK hlo hG (by decide) (by decide) (Nat.le_of_ble_eq_true rfl) ⟨Nat.le_of_ble_eq_true rfl, Nat.le_of_ble_eq_true rfl⟩ dX10_init_25 (fun q25 H z25 hG => ?_)
  obtain ⟨G25, i25⟩ : ∃ g : gH, g = va_up G18 q25 (some (.inl (2, 600, fun _ => 0))) := ⟨_, rfl⟩
  rw [← i25] at hG
  replace h := h q25 z25 G25 i25
  obtain ⟨G27, i27, h⟩ := h
  refine g_putvF hx hb hts inlX10 tyX10 tyX10_ok nmX10 hown hK hG (by rfl) 3 (by decide) qF_X10_17 rfl hnm rfl rfl rfl rfl i27 dX10_init_27 (fun H locs hG => ?_)
  refine lv_aload_n hx hb dX10_init_30 rfl (lv_at hl 0 rfl) ?_
  refine lv_iconst (v := (-1 : Int32)) hx hb dX10_init_31 (by decide) ?_
  obtain ⟨G32, i32, h⟩ := h
  refine g_putv hx hb hts inlX10 tyX10 tyX10_ok nmX10 hown hK hG (by rfl) 12 (by decide) qF_X10_21 rfl rfl rfl rfl i32 dX10_init_32 (fun H locs hG => ?_)
  refine lv_aload_n hx hb dX10_init_35 rfl (lv_at hl 0 rfl) ?_
  refine lv_sipush (v := (1555 : Int32)) hx hb dX10_init_36 (by decide) ?_
  refine g_newai (N := 1555) hx hb hts hK hlo hG (by decide) (by decide) (Nat.le_of_ble_eq_true rfl) ⟨Nat.le_of_ble_eq_true rfl, Nat.le_of_ble_eq_true rfl⟩ dX10_init_39 (fun q39 H z39 hG => ?_)
  obtain ⟨G39, i39⟩ : ∃ g : gH, g = va_up G32 q39 (some (.inl (0, 1555, fun _ => 0))) := ⟨_, rfl⟩
  rw [← i39] at hG
  replace h := h q39 z39 G39 i39
  obtain ⟨G41, i41, h⟩ := h
  refine g_putvF hx hb hts inlX10 tyX10 tyX10_ok nmX10 hown hK hG (by rfl) 14 (by decide) qF_X10_25 rfl hnm rfl rfl rfl rfl i41 dX10_init_41 (fun H locs hG => ?_)
  refine lv_aload_n hx hb dX10_init_44 rfl (lv_at hl 0 rfl) ?_
  refine lv_bipush (v := (10 : Int32)) hx hb dX10_init_45 (by decide) ?_
  refine g_newaj (N := 10) hx hb hts hK hlo hG (by decide) (by decide) (Nat.le_of_ble_eq_true rfl) ⟨Nat.le_of_ble_eq_true rfl, Nat.le_of_ble_eq_true rfl⟩ dX10_init_47 (fun q47 H z47 hG => ?_)
  obtain ⟨G47, i47⟩ : ∃ g : gH, g = va_up G41 q47 (some (.inr (.inl (10, fun _ => 0)))) := ⟨_, rfl⟩
  rw [← i47] at hG
  replace h := h q47 z47 G47 i47
  obtain ⟨G49, i49, h⟩ := h
  refine g_putvF hx hb hts inlX10 tyX10 tyX10_ok nmX10 hown hK hG (by rfl) 15 (by decide) qF_X10_28 rfl hnm rfl rfl rfl rfl i49 dX10_init_49 (fun H locs hG => ?_)
  refine lv_aload_n hx hb dX10_init_52 rfl (lv_at hl 0 rfl) ?_
  refine lv_bipush (v := (12 : Int32)) hx hb dX10_init_53 (by decide) ?_
  refine g_newai (N := 12) hx hb hts hK hlo hG (by decide) (by decide) (Nat.le_of_ble_eq_true rfl) ⟨Nat.le_of_ble_eq_true rfl, Nat.le_of_ble_eq_true rfl⟩ dX10_init_55 (fun q55 H z55 hG => ?_)
  obtain ⟨G55, i55⟩ : ∃ g : gH, g = va_up G49 q55 (some (.inl (0, 12, fun _ => 0))) := ⟨_, rfl⟩
  rw [← i55] at hG
  replace h := h q55 z55 G55 i55
  obtain ⟨G57, i57, h⟩ := h
  refine g_putvF hx hb hts inlX10 tyX10 tyX10_ok nmX10 hown hK hG (by rfl) 17 (by decide) qF_X10_31 rfl hnm rfl rfl rfl rfl i57 dX10_init_57 (fun H locs hG => ?_)
  refine lv_aload_n hx hb dX10_init_60 rfl (lv_at hl 0 rfl) ?_
  refine lv_bipush (v := (10 : Int32)) hx hb dX10_init_61 (by decide) ?_
  refine g_newai (N := 10) hx hb hts hK hlo hG (by decide) (by decide) (Nat.le_of_ble_eq_true rfl) ⟨Nat.le_of_ble_eq_true rfl, Nat.le_of_ble_eq_true rfl⟩ dX10_init_63 (fun q63 H z63 hG => ?_)
  obtain ⟨G63, i63⟩ : ∃ g : gH, g = va_up G57 q63 (some (.inl (0, 10, fun _ => 0))) := ⟨_, rfl⟩
  rw [← i63] at hG
  replace h := h q63 z63 G63 i63
  obtain ⟨G65, i65, h⟩ := h
  refine g_putvF hx hb hts inlX10 tyX10 tyX10_ok nmX10 hown hK hG (by rfl) 21 (by decide) qF_X10_34 rfl hnm rfl rfl rfl rfl i65 dX10_init_65 (fun H locs hG => ?_)
  refine lv_aload_n hx hb dX10_init_68 rfl (lv_at hl 0 rfl) ?_
  refine lv_bipush (v := (96 : Int32)) hx hb dX10_init_69 (by decide) ?_
  refine g_newaz (N := 96) hx hb hts hK hlo hG (by decide) (by decide) (Nat.le_of_ble_eq_true rfl) ⟨Nat.le_of_ble_eq_true rfl, Nat.le_of_ble_eq_true rfl⟩ dX10_init_71 (fun q71 H z71 hG => ?_)
  obtain ⟨G71, i71⟩ : ∃ g : gH, g = va_up G65 q71 (some (.inl (1, 96, fun _ => 0))) := ⟨_, rfl⟩
  rw [← i71] at hG
  replace h := h q71 z71 G71 i71
  obtain ⟨G73, i73, h⟩ := h
  refine g_putvF hx hb hts inlX10 tyX10 tyX10_ok nmX10 hown hK hG (by rfl) 23 (by decide) qF_X10_37 rfl hnm rfl rfl rfl rfl i73 dX10_init_73 (fun H locs hG => ?_)
  refine lv_aload_n hx hb dX10_init_76 rfl (lv_at hl 0 rfl) ?_
  refine lv_sipush (v := (15550 : Int32)) hx hb dX10_init_77 (by decide) ?_
  refine g_newai (N := 15550) hx hb hts hK hlo hG (by decide) (by decide) (Nat.le_of_ble_eq_true rfl) ⟨Nat.le_of_ble_eq_true rfl, Nat.le_of_ble_eq_true rfl⟩ dX10_init_80 (fun q80 H z80 hG => ?_)
  obtain ⟨G80, i80⟩ : ∃ g : gH, g = va_up G73 q80 (some (.inl (0, 15550, fun _ => 0))) := ⟨_, rfl⟩
  rw [← i80] at hG
  replace h := h q80 z80 G80 i80
  obtain ⟨G82, i82, h⟩ := h
  refine g_putvF hx hb hts inlX10 tyX10 tyX10_ok nmX10 hown hK hG (by rfl) 25 (by decide) qF_X10_41 rfl hnm rfl rfl rfl rfl i82 dX10_init_82 (fun H locs hG => ?_)
  refine lv_aload_n hx hb dX10_init_85 rfl (lv_at hl 0 rfl) ?_
  refine lv_sipush (v := (3110 : Int32)) hx hb dX10_init_86 (by decide) ?_
  refine g_newai (N := 3110) hx hb hts hK hlo hG (by decide) (by decide) (Nat.le_of_ble_eq_true rfl) ⟨Nat.le_of_ble_eq_true rfl, Nat.le_of_ble_eq_true rfl⟩ dX10_init_89 (fun q89 H z89 hG => ?_)
  obtain ⟨G89, i89⟩ : ∃ g : gH, g = va_up G82 q89 (some (.inl (0, 3110, fun _ => 0))) := ⟨_, rfl⟩
  rw [← i89] at hG
  replace h := h q89 z89 G89 i89
  obtain ⟨G91, i91, h⟩ := h
  refine g_putvF hx hb hts inlX10 tyX10 tyX10_ok nmX10 hown hK hG (by rfl) 26 (by decide) qF_X10_44 rfl hnm rfl rfl rfl rfl i91 dX10_init_91 (fun H locs hG => ?_)
  refine lv_aload_n hx hb dX10_init_94 rfl (lv_at hl 0 rfl) ?_
  refine lv_iconst (v := (2 : Int32)) hx hb dX10_init_95 (by decide) ?_
  refine g_newaz (N := 2) hx hb hts hK hlo hG (by decide) (by decide) (Nat.le_of_ble_eq_true rfl) ⟨Nat.le_of_ble_eq_true rfl, Nat.le_of_ble_eq_true rfl⟩ dX10_init_96 (fun q96 H z96 hG => ?_)
  obtain ⟨G96, i96⟩ : ∃ g : gH, g = va_up G91 q96 (some (.inl (1, 2, fun _ => 0))) := ⟨_, rfl⟩
  rw [← i96] at hG
  replace h := h q96 z96 G96 i96
  obtain ⟨G98, i98, h⟩ := h
  refine g_putvF hx hb hts inlX10 tyX10 tyX10_ok nmX10 hown hK hG (by rfl) 27 (by decide) qF_X10_47 rfl hnm rfl rfl rfl rfl i98 dX10_init_98 (fun H locs hG => ?_)
  refine lv_aload_n hx hb dX10_init_101 rfl (lv_at hl 0 rfl) ?_
  obtain ⟨v102, e102, h⟩ := h
  refine g_getr hx hb hts inlX10 hown hK hG (by rfl) 1 (by decide) qF_X10_7 e102 dX10_init_102 ?_
  refine lv_iconst (v := (0 : Int32)) hx hb dX10_init_105 (by decide) ?_
  refine lv_bipush (v := (8 : Int32)) hx hb dX10_init_106 (by decide) ?_
  obtain ⟨G108, e108, h⟩ := h
  refine g_iast hx hb hK hG e108 dX10_init_108 (fun H locs hG => ?_)
  refine W.widen (k := 11) (n := 22510) (Nat.le_of_ble_eq_true rfl) (Nat.le_of_ble_eq_true rfl) ?_
  exact g_vret hx hb hr hlocks hK hlo hG h dX10_init_109
def w_X9_init (G : gH) (a0 : Nat) (K : gH → Prop) : Prop :=
    ∀ q5 : Nat, G q5 = none → ∀ G5 : gH, G5 = va_up G q5 (some (.inr (.inr (.inr (3, [.null, .int 0]))))) →
    w_X3_init G5 q5 (fun G9 =>
    ∃ G12, g_put G9 a0 9 0 (.ref q5) = some G12 ∧
    ∀ q16 : Nat, G12 q16 = none → ∀ G16 : gH, G16 = va_up G12 q16 (some (.inr (.inr (.inr (4, [.int 0, .int 0, .int 0, .int 0, .int 0, .null, .int 0, .null, .null, .null, .null, .null, .null, .null, .int 0]))))) →
    w_X4_init G16 q16 (fun G20 =>
    ∃ G23, g_put G20 a0 9 1 (.ref q16) = some G23 ∧
    ∀ q27 : Nat, G23 q27 = none → ∀ G27 : gH, G27 = va_up G23 q27 (some (.inr (.inr (.inr (2, [.int 0, .int 0, .null]))))) →
    w_X2_init G27 q27 (fun G31 =>
    ∃ G34, g_put G31 a0 9 2 (.ref q27) = some G34 ∧
    ∀ q38 : Nat, G34 q38 = none → ∀ G38 : gH, G38 = va_up G34 q38 (some (.inr (.inr (.inr (6, [.null, .null]))))) →
    w_X6_init G38 q38 (fun G42 =>
    ∃ G45, g_put G42 a0 9 3 (.ref q38) = some G45 ∧
    ∀ q49 : Nat, G45 q49 = none → ∀ G49 : gH, G49 = va_up G45 q49 (some (.inr (.inr (.inr (8, [.int 0, .null, .null, .null, .null]))))) →
    w_X8_init G49 q49 (fun G53 =>
    ∃ G56, g_put G53 a0 9 4 (.ref q49) = some G56 ∧
    ∀ q60 : Nat, G56 q60 = none → ∀ G60 : gH, G60 = va_up G56 q60 (some (.inr (.inr (.inr (1, [.null, .null, .null, .int 0, .null, .int 0, .null]))))) →
    w_X1_init G60 q60 (fun G64 =>
    ∃ G67, g_put G64 a0 9 5 (.ref q60) = some G67 ∧
    ∀ q71 : Nat, G67 q71 = none → ∀ G71 : gH, G71 = va_up G67 q71 (some (.inr (.inr (.inr (1, [.null, .null, .null, .int 0, .null, .int 0, .null]))))) →
    w_X1_init G71 q71 (fun G75 =>
    ∃ G78, g_put G75 a0 9 6 (.ref q71) = some G78 ∧
    ∃ v82, g_r G78 a0 9 5 = some v82 ∧
    ∃ u88, g_ob G78 v82 1 = some u88 ∧
    ∃ G88, f_X1_format G78 v82 (8 : Int32) (0 : Int32) = some G88 ∧
    K G88)))))))
set_option maxRecDepth 20000 in
set_option maxHeartbeats 4000000 in
theorem m_X9_init (l : Launch) (dd : va_G) (cT : Nat → ClassId) (lo : Nat) (G : gH) (a0 : Nat) {K : gH → Prop} (h : w_X9_init G a0 K) : Met l yX9_init (Cond.code yX9_init cX9_init 1 none :: wsL_law) (g_rm 3 80 84 6468) (va_Pc [.ref a0] (g_Pre lo dd cT G)) (va_Qv K (g_Pre lo dd cT) (g_A lo)) 84 6468 (g_A lo) := by
  refine g_start RX9 rfl (by decide) (Nat.le_of_ble_eq_true rfl) ?_
  intro p e s m below meth c hx hb hr hlocks hml hown hnm hts hK hG hlo ls hl
  have hl : lv_has ls 1 [(0, .ref a0)] := hl
  have hG : g_S lo dd cT s s.heap [] G := hG
  unfold w_X9_init at h
  refine lv_aload_n hx hb dX9_init_0 rfl (lv_at hl 0 rfl) ?_
  refine W.objInit hx hb hown (hts _ qM_X9_3) (hts _ qI_objectInit) (hts _ qC_objectInit) rfl (hl.1.trans hml.symm) rfl dX9_init_1 (Nat.le_of_ble_eq_true rfl) (Nat.le_of_ble_eq_true rfl) ?_
  refine lv_aload_n hx hb dX9_init_4 rfl (lv_at hl 0 rfl) ?_
  refine g_new (ci := 3) (fs := [.null, .int 0]) hx hb hts inlX3 tyX3 tyX3_ok hown hK hlo hG rfl qL_X9_9 qA_X3 qN_X3 (fun j hj => by rcases (show j = 0 ∨ j = 1 by omega) with rfl | rfl <;> rfl) ⟨Nat.le_of_ble_eq_true rfl, Nat.le_of_ble_eq_true rfl⟩ dX9_init_5 (fun q5 H z5 hG => ?_)
  obtain ⟨G5, i5⟩ : ∃ g : gH, g = va_up G q5 (some (.inr (.inr (.inr (3, [.null, .int 0]))))) := ⟨_, rfl⟩
  rw [← i5] at hG
  replace h := h q5 z5 G5 i5
  refine lv_dup hx hb dX9_init_8 rfl ?_
  refine g_wI (b := q5) (As := []) (rest := [.ref q5, .ref a0]) (n := 0) hx hb hml hown hts hK hlo hG (m_X3_init l dd cT lo G5 q5 h) (List.mem_of_getElem? (i := 0) rfl) qI_yX3_init rfl qN_X3 qC_yX3_init (by decide +kernel) ⟨Nat.le_of_ble_eq_true rfl, Nat.le_of_ble_eq_true rfl⟩ rfl hl.1 rfl (Nat.le_of_ble_eq_true rfl) dX9_init_9 ⟨Nat.le_of_ble_eq_true rfl, Nat.le_of_ble_eq_true rfl⟩ (fun G9 H locs h hG => ?_)
  obtain ⟨G12, i12, h⟩ := h
  refine g_putvF hx hb hts inlX9 tyX9 tyX9_ok nmX9 hown hK hG (by rfl) 0 (by decide) qF_X9_12 rfl hnm rfl rfl rfl rfl i12 dX9_init_12 (fun H locs hG => ?_)
  refine lv_aload_n hx hb dX9_init_15 rfl (lv_at hl 0 rfl) ?_
  refine g_new (ci := 4) (fs := [.int 0, .int 0, .int 0, .int 0, .int 0, .null, .int 0, .null, .null, .null, .null, .null, .null, .null, .int 0]) hx hb hts inlX4 tyX4 tyX4_ok hown hK hlo hG rfl qL_X9_16 qA_X4 qN_X4 (fun j hj => by rcases (show j = 0 ∨ j = 1 ∨ j = 2 ∨ j = 3 ∨ j = 4 ∨ j = 5 ∨ j = 6 ∨ j = 7 ∨ j = 8 ∨ j = 9 ∨ j = 10 ∨ j = 11 ∨ j = 12 ∨ j = 13 ∨ j = 14 by omega) with rfl | rfl | rfl | rfl | rfl | rfl | rfl | rfl | rfl | rfl | rfl | rfl | rfl | rfl | rfl <;> rfl) ⟨Nat.le_of_ble_eq_true rfl, Nat.le_of_ble_eq_true rfl⟩ dX9_init_16 (fun q16 H z16 hG => ?_)
  obtain ⟨G16, i16⟩ : ∃ g : gH, g = va_up G12 q16 (some (.inr (.inr (.inr (4, [.int 0, .int 0, .int 0, .int 0, .int 0, .null, .int 0, .null, .null, .null, .null, .null, .null, .null, .int 0]))))) := ⟨_, rfl⟩
  rw [← i16] at hG
  replace h := h q16 z16 G16 i16
  refine lv_dup hx hb dX9_init_19 rfl ?_
  refine g_wI (b := q16) (As := []) (rest := [.ref q16, .ref a0]) (n := 0) hx hb hml hown hts hK hlo hG (m_X4_init l dd cT lo G16 q16 h) (List.mem_of_getElem? (i := 1) rfl) qI_yX4_init rfl qN_X4 qC_yX4_init (by decide +kernel) ⟨Nat.le_of_ble_eq_true rfl, Nat.le_of_ble_eq_true rfl⟩ rfl hl.1 rfl (Nat.le_of_ble_eq_true rfl) dX9_init_20 ⟨Nat.le_of_ble_eq_true rfl, Nat.le_of_ble_eq_true rfl⟩ (fun G20 H locs h hG => ?_)
  obtain ⟨G23, i23, h⟩ := h
  refine g_putvF hx hb hts inlX9 tyX9 tyX9_ok nmX9 hown hK hG (by rfl) 1 (by decide) qF_X9_19 rfl hnm rfl rfl rfl rfl i23 dX9_init_23 (fun H locs hG => ?_)
  refine lv_aload_n hx hb dX9_init_26 rfl (lv_at hl 0 rfl) ?_
  refine g_new (ci := 2) (fs := [.int 0, .int 0, .null]) hx hb hts inlX2 tyX2 tyX2_ok hown hK hlo hG rfl qL_X9_23 qA_X2 qN_X2 (fun j hj => by rcases (show j = 0 ∨ j = 1 ∨ j = 2 by omega) with rfl | rfl | rfl <;> rfl) ⟨Nat.le_of_ble_eq_true rfl, Nat.le_of_ble_eq_true rfl⟩ dX9_init_27 (fun q27 H z27 hG => ?_)
  obtain ⟨G27, i27⟩ : ∃ g : gH, g = va_up G23 q27 (some (.inr (.inr (.inr (2, [.int 0, .int 0, .null]))))) := ⟨_, rfl⟩
  rw [← i27] at hG
  replace h := h q27 z27 G27 i27
  refine lv_dup hx hb dX9_init_30 rfl ?_
  refine g_wI (b := q27) (As := []) (rest := [.ref q27, .ref a0]) (n := 0) hx hb hml hown hts hK hlo hG (m_X2_init l dd cT lo G27 q27 h) (List.mem_of_getElem? (i := 2) rfl) qI_yX2_init rfl qN_X2 qC_yX2_init (by decide +kernel) ⟨Nat.le_of_ble_eq_true rfl, Nat.le_of_ble_eq_true rfl⟩ rfl hl.1 rfl (Nat.le_of_ble_eq_true rfl) dX9_init_31 ⟨Nat.le_of_ble_eq_true rfl, Nat.le_of_ble_eq_true rfl⟩ (fun G31 H locs h hG => ?_)
  obtain ⟨G34, i34, h⟩ := h
  refine g_putvF hx hb hts inlX9 tyX9 tyX9_ok nmX9 hown hK hG (by rfl) 2 (by decide) qF_X9_26 rfl hnm rfl rfl rfl rfl i34 dX9_init_34 (fun H locs hG => ?_)
  refine lv_aload_n hx hb dX9_init_37 rfl (lv_at hl 0 rfl) ?_
  refine g_new (ci := 6) (fs := [.null, .null]) hx hb hts inlX6 tyX6 tyX6_ok hown hK hlo hG rfl qL_X9_30 qA_X6 qN_X6 (fun j hj => by rcases (show j = 0 ∨ j = 1 by omega) with rfl | rfl <;> rfl) ⟨Nat.le_of_ble_eq_true rfl, Nat.le_of_ble_eq_true rfl⟩ dX9_init_38 (fun q38 H z38 hG => ?_)
  obtain ⟨G38, i38⟩ : ∃ g : gH, g = va_up G34 q38 (some (.inr (.inr (.inr (6, [.null, .null]))))) := ⟨_, rfl⟩
  rw [← i38] at hG
  replace h := h q38 z38 G38 i38
  refine lv_dup hx hb dX9_init_41 rfl ?_
  refine g_wI (b := q38) (As := []) (rest := [.ref q38, .ref a0]) (n := 0) hx hb hml hown hts hK hlo hG (m_X6_init l dd cT lo G38 q38 h) (List.mem_of_getElem? (i := 3) rfl) qI_yX6_init rfl qN_X6 qC_yX6_init (by decide +kernel) ⟨Nat.le_of_ble_eq_true rfl, Nat.le_of_ble_eq_true rfl⟩ rfl hl.1 rfl (Nat.le_of_ble_eq_true rfl) dX9_init_42 ⟨Nat.le_of_ble_eq_true rfl, Nat.le_of_ble_eq_true rfl⟩ (fun G42 H locs h hG => ?_)
  obtain ⟨G45, i45, h⟩ := h
  refine g_putvF hx hb hts inlX9 tyX9 tyX9_ok nmX9 hown hK hG (by rfl) 3 (by decide) qF_X9_33 rfl hnm rfl rfl rfl rfl i45 dX9_init_45 (fun H locs hG => ?_)
  refine lv_aload_n hx hb dX9_init_48 rfl (lv_at hl 0 rfl) ?_
  refine g_new (ci := 8) (fs := [.int 0, .null, .null, .null, .null]) hx hb hts inlX8 tyX8 tyX8_ok hown hK hlo hG rfl qL_X9_37 qA_X8 qN_X8 (fun j hj => by rcases (show j = 0 ∨ j = 1 ∨ j = 2 ∨ j = 3 ∨ j = 4 by omega) with rfl | rfl | rfl | rfl | rfl <;> rfl) ⟨Nat.le_of_ble_eq_true rfl, Nat.le_of_ble_eq_true rfl⟩ dX9_init_49 (fun q49 H z49 hG => ?_)
  obtain ⟨G49, i49⟩ : ∃ g : gH, g = va_up G45 q49 (some (.inr (.inr (.inr (8, [.int 0, .null, .null, .null, .null]))))) := ⟨_, rfl⟩
  rw [← i49] at hG
  replace h := h q49 z49 G49 i49
  refine lv_dup hx hb dX9_init_52 rfl ?_
  refine g_wI (b := q49) (As := []) (rest := [.ref q49, .ref a0]) (n := 0) hx hb hml hown hts hK hlo hG (m_X8_init l dd cT lo G49 q49 h) (List.mem_of_getElem? (i := 4) rfl) qI_yX8_init rfl qN_X8 qC_yX8_init (by decide +kernel) ⟨Nat.le_of_ble_eq_true rfl, Nat.le_of_ble_eq_true rfl⟩ rfl hl.1 rfl (Nat.le_of_ble_eq_true rfl) dX9_init_53 ⟨Nat.le_of_ble_eq_true rfl, Nat.le_of_ble_eq_true rfl⟩ (fun G53 H locs h hG => ?_)
  obtain ⟨G56, i56, h⟩ := h
  refine g_putvF hx hb hts inlX9 tyX9 tyX9_ok nmX9 hown hK hG (by rfl) 4 (by decide) qF_X9_40 rfl hnm rfl rfl rfl rfl i56 dX9_init_56 (fun H locs hG => ?_)
  refine lv_aload_n hx hb dX9_init_59 rfl (lv_at hl 0 rfl) ?_
  refine g_new (ci := 1) (fs := [.null, .null, .null, .int 0, .null, .int 0, .null]) hx hb hts inlX1 tyX1 tyX1_ok hown hK hlo hG rfl qL_X9_44 qA_X1 qN_X1 (fun j hj => by rcases (show j = 0 ∨ j = 1 ∨ j = 2 ∨ j = 3 ∨ j = 4 ∨ j = 5 ∨ j = 6 by omega) with rfl | rfl | rfl | rfl | rfl | rfl | rfl <;> rfl) ⟨Nat.le_of_ble_eq_true rfl, Nat.le_of_ble_eq_true rfl⟩ dX9_init_60 (fun q60 H z60 hG => ?_)
  obtain ⟨G60, i60⟩ : ∃ g : gH, g = va_up G56 q60 (some (.inr (.inr (.inr (1, [.null, .null, .null, .int 0, .null, .int 0, .null]))))) := ⟨_, rfl⟩
  rw [← i60] at hG
  replace h := h q60 z60 G60 i60
  refine lv_dup hx hb dX9_init_63 rfl ?_
  refine g_wI (b := q60) (As := []) (rest := [.ref q60, .ref a0]) (n := 0) hx hb hml hown hts hK hlo hG (m_X1_init l dd cT lo G60 q60 h) (List.mem_of_getElem? (i := 5) rfl) qI_yX1_init rfl qN_X1 qC_yX1_init (by decide +kernel) ⟨Nat.le_of_ble_eq_true rfl, Nat.le_of_ble_eq_true rfl⟩ rfl hl.1 rfl (Nat.le_of_ble_eq_true rfl) dX9_init_64 ⟨Nat.le_of_ble_eq_true rfl, Nat.le_of_ble_eq_true rfl⟩ (fun G64 H locs h hG => ?_)
  obtain ⟨G67, i67, h⟩ := h
  refine g_putv hx hb hts inlX9 tyX9 tyX9_ok nmX9 hown hK hG (by rfl) 5 (by decide) qF_X9_47 rfl rfl rfl rfl i67 dX9_init_67 (fun H locs hG => ?_)
  refine lv_aload_n hx hb dX9_init_70 rfl (lv_at hl 0 rfl) ?_
  refine g_new (ci := 1) (fs := [.null, .null, .null, .int 0, .null, .int 0, .null]) hx hb hts inlX1 tyX1 tyX1_ok hown hK hlo hG rfl qL_X9_44 qA_X1 qN_X1 (fun j hj => by rcases (show j = 0 ∨ j = 1 ∨ j = 2 ∨ j = 3 ∨ j = 4 ∨ j = 5 ∨ j = 6 by omega) with rfl | rfl | rfl | rfl | rfl | rfl | rfl <;> rfl) ⟨Nat.le_of_ble_eq_true rfl, Nat.le_of_ble_eq_true rfl⟩ dX9_init_71 (fun q71 H z71 hG => ?_)
  obtain ⟨G71, i71⟩ : ∃ g : gH, g = va_up G67 q71 (some (.inr (.inr (.inr (1, [.null, .null, .null, .int 0, .null, .int 0, .null]))))) := ⟨_, rfl⟩
  rw [← i71] at hG
  replace h := h q71 z71 G71 i71
  refine lv_dup hx hb dX9_init_74 rfl ?_
  refine g_wI (b := q71) (As := []) (rest := [.ref q71, .ref a0]) (n := 0) hx hb hml hown hts hK hlo hG (m_X1_init l dd cT lo G71 q71 h) (List.mem_of_getElem? (i := 5) rfl) qI_yX1_init rfl qN_X1 qC_yX1_init (by decide +kernel) ⟨Nat.le_of_ble_eq_true rfl, Nat.le_of_ble_eq_true rfl⟩ rfl hl.1 rfl (Nat.le_of_ble_eq_true rfl) dX9_init_75 ⟨Nat.le_of_ble_eq_true rfl, Nat.le_of_ble_eq_true rfl⟩ (fun G75 H locs h hG => ?_)
  obtain ⟨G78, i78, h⟩ := h
  refine g_putv hx hb hts inlX9 tyX9 tyX9_ok nmX9 hown hK hG (by rfl) 6 (by decide) qF_X9_51 rfl rfl rfl rfl i78 dX9_init_78 (fun H locs hG => ?_)
  refine lv_aload_n hx hb dX9_init_81 rfl (lv_at hl 0 rfl) ?_
  obtain ⟨v82, e82, h⟩ := h
  refine g_getr hx hb hts inlX9 hown hK hG (by rfl) 5 (by decide) qF_X9_47 e82 dX9_init_82 ?_
  refine lv_bipush (v := (8 : Int32)) hx hb dX9_init_85 (by decide) ?_
  refine lv_iconst (v := (0 : Int32)) hx hb dX9_init_87 (by decide) ?_
  obtain ⟨u88, o88, h⟩ := h
  obtain ⟨G88, e88, h⟩ := h
  refine g_cVv (As := [.int (8 : Int32), .int (0 : Int32)]) (rest := []) (n := 2) hx hb hml hown hts hK hlo hG (m_X1_format l dd cT lo G78 v82 (8 : Int32) (0 : Int32) e88) qM_X9_54 qI_yX1_format qS_X1_yX1_format qN_X1 qC_yX1_format (by decide +kernel) ⟨Nat.le_of_ble_eq_true rfl, Nat.le_of_ble_eq_true rfl⟩ (by rfl) o88 rfl hl.1 rfl (Nat.le_of_ble_eq_true rfl) dX9_init_88 ⟨Nat.le_of_ble_eq_true rfl, Nat.le_of_ble_eq_true rfl⟩ (fun H locs hG => ?_)
  refine W.widen (k := 84) (n := 6468) (Nat.le_of_ble_eq_true rfl) (Nat.le_of_ble_eq_true rfl) ?_
  exact g_vret hx hb hr hlocks hK hlo hG h dX9_init_91
def w_X9_storeIn (G : gH) (a0 : Nat) (x1 : Int32) (a2 : Nat) (K : gH → Prop) : Prop :=
    if x1 < 0 then
    K G
    else
    ∃ v6, g_len G a0 = some v6 ∧
    if v6 ≤ x1 then
    K G
    else
    ∃ v12, g_qald G a0 x1 = some v12 ∧
    ((v12 = none → ∀ q18 : Nat, G q18 = none → ∀ G18 : gH, G18 = va_up G q18 (some (.inr (.inr (.inr (1, [.null, .null, .null, .int 0, .null, .int 0, .null]))))) →
    w_X1_init G18 q18 (fun G22 =>
    ∃ u25, g_ob G22 q18 1 = some u25 ∧
    ∃ G25, g_qast G22 a0 x1 q18 = some G25 ∧
    ∃ v28, g_qald G25 a0 x1 = some v28 ∧
    ∃ r30a : Nat, v28 = some r30a ∧
    ∃ u30, g_ob G25 r30a 1 = some u30 ∧
    ∃ G30, f_X1_takeFrom G25 r30a a2 = some G30 ∧
    K G30)) ∧ (v12 ≠ none →
    ∃ v28, g_qald G a0 x1 = some v28 ∧
    ∃ r30a : Nat, v28 = some r30a ∧
    ∃ u30, g_ob G r30a 1 = some u30 ∧
    ∃ G30, f_X1_takeFrom G r30a a2 = some G30 ∧
    K G30))
set_option maxRecDepth 20000 in
set_option maxHeartbeats 4000000 in
theorem m_X9_storeIn (l : Launch) (dd : va_G) (cT : Nat → ClassId) (lo : Nat) (G : gH) (a0 : Nat) (x1 : Int32) (a2 : Nat) {K : gH → Prop} (h : w_X9_storeIn G a0 x1 a2 K) : Met l yX9_storeIn (Cond.code yX9_storeIn cX9_storeIn 3 none :: wsL_law) (g_rm 3 80 30 1637) (va_Pc [.ref a0, .int x1, .ref a2] (g_Pre lo dd cT G)) (va_Qv K (g_Pre lo dd cT) (g_A lo)) 30 1637 (g_A lo) := by
  refine g_start RX9 rfl (by decide) (Nat.le_of_ble_eq_true rfl) ?_
  intro p e s m below meth c hx hb hr hlocks hml hown hnm hts hK hG hlo ls hl
  have hl : lv_has ls 3 [(0, .ref a0), (1, .int x1), (2, .ref a2)] := hl
  have hG : g_S lo dd cT s s.heap [] G := hG
  unfold w_X9_storeIn at h
  refine lv_iload_n hx hb dX9_storeIn_0 rfl (lv_at hl 1 rfl) ?_
  refine lv_if_lt (tgt := 33) hx hb dX9_storeIn_1 (by decide) (fun c1 => ?_) (fun c1 => ?_)
  · rw [if_pos c1] at h
    refine W.widen (k := 30) (n := 1637) (Nat.le_of_ble_eq_true rfl) (Nat.le_of_ble_eq_true rfl) ?_
    exact g_vret hx hb hr hlocks hK hlo hG h dX9_storeIn_33
  · rw [if_neg c1] at h
    refine lv_iload_n hx hb dX9_storeIn_4 rfl (lv_at hl 1 rfl) ?_
    refine lv_aload_n hx hb dX9_storeIn_5 rfl (lv_at hl 0 rfl) ?_
    obtain ⟨v6, e6, h⟩ := h
    refine g_alen hx hb hK hG e6 dX9_storeIn_6 ?_
    refine lv_icmp_ge (tgt := 33) hx hb dX9_storeIn_7 (by decide) (fun c7 => ?_) (fun c7 => ?_)
    · rw [if_pos c7] at h
      refine W.widen (k := 30) (n := 1637) (Nat.le_of_ble_eq_true rfl) (Nat.le_of_ble_eq_true rfl) ?_
      exact g_vret hx hb hr hlocks hK hlo hG h dX9_storeIn_33
    · rw [if_neg c7] at h
      refine lv_aload_n hx hb dX9_storeIn_10 rfl (lv_at hl 0 rfl) ?_
      refine lv_iload_n hx hb dX9_storeIn_11 rfl (lv_at hl 1 rfl) ?_
      obtain ⟨v12, e12, h⟩ := h
      refine g_qald_ hx hb hK hG e12 dX9_storeIn_12 ?_
      rcases v12 with _ | r13n
      · replace h := h.1 rfl
        refine lv_ifnonnullN hx hb dX9_storeIn_13 ?_
        refine lv_aload_n hx hb dX9_storeIn_16 rfl (lv_at hl 0 rfl) ?_
        refine lv_iload_n hx hb dX9_storeIn_17 rfl (lv_at hl 1 rfl) ?_
        refine g_new (ci := 1) (fs := [.null, .null, .null, .int 0, .null, .int 0, .null]) hx hb hts inlX1 tyX1 tyX1_ok hown hK hlo hG rfl qL_X9_44 qA_X1 qN_X1 (fun j hj => by rcases (show j = 0 ∨ j = 1 ∨ j = 2 ∨ j = 3 ∨ j = 4 ∨ j = 5 ∨ j = 6 by omega) with rfl | rfl | rfl | rfl | rfl | rfl | rfl <;> rfl) ⟨Nat.le_of_ble_eq_true rfl, Nat.le_of_ble_eq_true rfl⟩ dX9_storeIn_18 (fun q18 H z18 hG => ?_)
        obtain ⟨G18, i18⟩ : ∃ g : gH, g = va_up G q18 (some (.inr (.inr (.inr (1, [.null, .null, .null, .int 0, .null, .int 0, .null]))))) := ⟨_, rfl⟩
        rw [← i18] at hG
        replace h := h q18 z18 G18 i18
        refine lv_dup hx hb dX9_storeIn_21 rfl ?_
        refine g_wI (b := q18) (As := []) (rest := [.ref q18, .int x1, .ref a0]) (n := 0) hx hb hml hown hts hK hlo hG (m_X1_init l dd cT lo G18 q18 h) (List.mem_of_getElem? (i := 5) rfl) qI_yX1_init rfl qN_X1 qC_yX1_init (by decide +kernel) ⟨Nat.le_of_ble_eq_true rfl, Nat.le_of_ble_eq_true rfl⟩ rfl hl.1 rfl (Nat.le_of_ble_eq_true rfl) dX9_storeIn_22 ⟨Nat.le_of_ble_eq_true rfl, Nat.le_of_ble_eq_true rfl⟩ (fun G22 H locs h hG => ?_)
        obtain ⟨u25, o25, h⟩ := h
        obtain ⟨G25, e25, h⟩ := h
        refine g_qast_row hx hb hK hG o25 e25 dX9_storeIn_25 (fun H locs hG => ?_)
        refine lv_aload_n hx hb dX9_storeIn_26 rfl (lv_at hl 0 rfl) ?_
        refine lv_iload_n hx hb dX9_storeIn_27 rfl (lv_at hl 1 rfl) ?_
        obtain ⟨v28, e28, h⟩ := h
        refine g_qald_ hx hb hK hG e28 dX9_storeIn_28 ?_
        refine lv_aload_n hx hb dX9_storeIn_29 rfl (lv_at hl 2 rfl) ?_
        obtain ⟨r30a, e30a, h⟩ := h
        subst e30a
        obtain ⟨u30, o30, h⟩ := h
        obtain ⟨G30, e30, h⟩ := h
        refine g_cVv (As := [.ref a2]) (rest := []) (n := 1) hx hb hml hown hts hK hlo hG (m_X1_takeFrom l dd cT lo G25 r30a a2 e30) qM_X9_352 qI_yX1_takeFrom qS_X1_yX1_takeFrom qN_X1 qC_yX1_takeFrom (by decide +kernel) ⟨Nat.le_of_ble_eq_true rfl, Nat.le_of_ble_eq_true rfl⟩ (by rfl) o30 rfl hl.1 rfl (Nat.le_of_ble_eq_true rfl) dX9_storeIn_30 ⟨Nat.le_of_ble_eq_true rfl, Nat.le_of_ble_eq_true rfl⟩ (fun H locs hG => ?_)
        refine W.widen (k := 30) (n := 1637) (Nat.le_of_ble_eq_true rfl) (Nat.le_of_ble_eq_true rfl) ?_
        exact g_vret hx hb hr hlocks hK hlo hG h dX9_storeIn_33
      · replace h := h.2 (fun z => by cases z)
        refine lv_ifnonnull (tgt := 26) hx hb dX9_storeIn_13 (by decide) ?_
        refine lv_aload_n hx hb dX9_storeIn_26 rfl (lv_at hl 0 rfl) ?_
        refine lv_iload_n hx hb dX9_storeIn_27 rfl (lv_at hl 1 rfl) ?_
        obtain ⟨v28, e28, h⟩ := h
        refine g_qald_ hx hb hK hG e28 dX9_storeIn_28 ?_
        refine lv_aload_n hx hb dX9_storeIn_29 rfl (lv_at hl 2 rfl) ?_
        obtain ⟨r30a, e30a, h⟩ := h
        subst e30a
        obtain ⟨u30, o30, h⟩ := h
        obtain ⟨G30, e30, h⟩ := h
        refine g_cVv (As := [.ref a2]) (rest := []) (n := 1) hx hb hml hown hts hK hlo hG (m_X1_takeFrom l dd cT lo G r30a a2 e30) qM_X9_352 qI_yX1_takeFrom qS_X1_yX1_takeFrom qN_X1 qC_yX1_takeFrom (by decide +kernel) ⟨Nat.le_of_ble_eq_true rfl, Nat.le_of_ble_eq_true rfl⟩ (by rfl) o30 rfl hl.1 rfl (Nat.le_of_ble_eq_true rfl) dX9_storeIn_30 ⟨Nat.le_of_ble_eq_true rfl, Nat.le_of_ble_eq_true rfl⟩ (fun H locs hG => ?_)
        refine W.widen (k := 30) (n := 1637) (Nat.le_of_ble_eq_true rfl) (Nat.le_of_ble_eq_true rfl) ?_
        exact g_vret hx hb hr hlocks hK hlo hG h dX9_storeIn_33
def w_X9_loadFrom (G : gH) (a0 : Nat) (x1 : Int32) (a2 : Nat) (K : gH → Prop) : Prop :=
    if x1 < 0 then
    K G
    else
    ∃ v6, g_len G a0 = some v6 ∧
    if v6 ≤ x1 then
    K G
    else
    ∃ v12, g_qald G a0 x1 = some v12 ∧
    ((v12 = none → K G) ∧ (v12 ≠ none →
    ∃ v19, g_qald G a0 x1 = some v19 ∧
    ∃ r20b : Nat, v19 = some r20b ∧
    ∃ u20, g_ob G a2 1 = some u20 ∧
    ∃ G20, f_X1_takeFrom G a2 r20b = some G20 ∧
    K G20))
set_option maxRecDepth 20000 in
set_option maxHeartbeats 4000000 in
theorem m_X9_loadFrom (l : Launch) (dd : va_G) (cT : Nat → ClassId) (lo : Nat) (G : gH) (a0 : Nat) (x1 : Int32) (a2 : Nat) {K : gH → Prop} (h : w_X9_loadFrom G a0 x1 a2 K) : Met l yX9_loadFrom (Cond.code yX9_loadFrom cX9_loadFrom 3 none :: wsL_law) (g_rm 3 64 0 0) (va_Pc [.ref a0, .int x1, .ref a2] (g_Pre lo dd cT G)) (va_Qv K (g_Pre lo dd cT) (g_A lo)) 0 0 (g_A lo) := by
  refine g_start RX9 rfl (by decide) (Nat.le_of_ble_eq_true rfl) ?_
  intro p e s m below meth c hx hb hr hlocks hml hown hnm hts hK hG hlo ls hl
  have hl : lv_has ls 3 [(0, .ref a0), (1, .int x1), (2, .ref a2)] := hl
  have hG : g_S lo dd cT s s.heap [] G := hG
  unfold w_X9_loadFrom at h
  refine lv_iload_n hx hb dX9_loadFrom_0 rfl (lv_at hl 1 rfl) ?_
  refine lv_if_lt (tgt := 23) hx hb dX9_loadFrom_1 (by decide) (fun c1 => ?_) (fun c1 => ?_)
  · rw [if_pos c1] at h
    refine W.widen (k := 0) (n := 0) (Nat.le_of_ble_eq_true rfl) (Nat.le_of_ble_eq_true rfl) ?_
    exact g_vret hx hb hr hlocks hK hlo hG h dX9_loadFrom_23
  · rw [if_neg c1] at h
    refine lv_iload_n hx hb dX9_loadFrom_4 rfl (lv_at hl 1 rfl) ?_
    refine lv_aload_n hx hb dX9_loadFrom_5 rfl (lv_at hl 0 rfl) ?_
    obtain ⟨v6, e6, h⟩ := h
    refine g_alen hx hb hK hG e6 dX9_loadFrom_6 ?_
    refine lv_icmp_ge (tgt := 23) hx hb dX9_loadFrom_7 (by decide) (fun c7 => ?_) (fun c7 => ?_)
    · rw [if_pos c7] at h
      refine W.widen (k := 0) (n := 0) (Nat.le_of_ble_eq_true rfl) (Nat.le_of_ble_eq_true rfl) ?_
      exact g_vret hx hb hr hlocks hK hlo hG h dX9_loadFrom_23
    · rw [if_neg c7] at h
      refine lv_aload_n hx hb dX9_loadFrom_10 rfl (lv_at hl 0 rfl) ?_
      refine lv_iload_n hx hb dX9_loadFrom_11 rfl (lv_at hl 1 rfl) ?_
      obtain ⟨v12, e12, h⟩ := h
      refine g_qald_ hx hb hK hG e12 dX9_loadFrom_12 ?_
      rcases v12 with _ | r13n
      · replace h := h.1 rfl
        refine lv_ifnullN (tgt := 23) hx hb dX9_loadFrom_13 (by decide) ?_
        refine W.widen (k := 0) (n := 0) (Nat.le_of_ble_eq_true rfl) (Nat.le_of_ble_eq_true rfl) ?_
        exact g_vret hx hb hr hlocks hK hlo hG h dX9_loadFrom_23
      · replace h := h.2 (fun z => by cases z)
        refine lv_ifnull hx hb dX9_loadFrom_13 ?_
        refine lv_aload_n hx hb dX9_loadFrom_16 rfl (lv_at hl 2 rfl) ?_
        refine lv_aload_n hx hb dX9_loadFrom_17 rfl (lv_at hl 0 rfl) ?_
        refine lv_iload_n hx hb dX9_loadFrom_18 rfl (lv_at hl 1 rfl) ?_
        obtain ⟨v19, e19, h⟩ := h
        refine g_qald_ hx hb hK hG e19 dX9_loadFrom_19 ?_
        obtain ⟨r20b, e20b, h⟩ := h
        subst e20b
        obtain ⟨u20, o20, h⟩ := h
        obtain ⟨G20, e20, h⟩ := h
        refine g_cVv (As := [.ref r20b]) (rest := []) (n := 1) hx hb hml hown hts hK hlo hG (m_X1_takeFrom l dd cT lo G a2 r20b e20) qM_X9_352 qI_yX1_takeFrom qS_X1_yX1_takeFrom qN_X1 qC_yX1_takeFrom (by decide +kernel) ⟨Nat.le_of_ble_eq_true rfl, Nat.le_of_ble_eq_true rfl⟩ (by rfl) o20 rfl hl.1 rfl (Nat.le_of_ble_eq_true rfl) dX9_loadFrom_20 ⟨Nat.le_of_ble_eq_true rfl, Nat.le_of_ble_eq_true rfl⟩ (fun H locs hG => ?_)
        refine W.widen (k := 0) (n := 0) (Nat.le_of_ble_eq_true rfl) (Nat.le_of_ble_eq_true rfl) ?_
        exact g_vret hx hb hr hlocks hK hlo hG h dX9_loadFrom_23
def w_X2_keep (G : gH) (a0 : Nat) (a1 : Nat) (K : gH → Prop) : Prop :=
    ∃ v1, g_i G a0 2 1 = some v1 ∧
    ∃ v5, g_i G a0 2 0 = some v5 ∧
    ∃ v14, g_i G a0 2 0 = some v14 ∧
    if (10 : Int32) ≤ v14 then
    ∃ v37, g_i G a0 2 1 = some v37 ∧
    ∃ G45, g_put G a0 2 1 (.int ((v37 + (1 : Int32)) - (v37 + (1 : Int32)) / (10 : Int32) * (10 : Int32))) = some G45 ∧
    ∃ v49, g_r G45 a0 2 2 = some v49 ∧
    w_X9_storeIn G45 v49 ((v1 + v5) - (v1 + v5) / (10 : Int32) * (10 : Int32)) a1 (fun G54 =>
    K G54)
    else
    ∃ v24, g_i G a0 2 0 = some v24 ∧
    ∃ G29, g_put G a0 2 0 (.int (v24 + (1 : Int32))) = some G29 ∧
    ∃ v49, g_r G29 a0 2 2 = some v49 ∧
    w_X9_storeIn G29 v49 ((v1 + v5) - (v1 + v5) / (10 : Int32) * (10 : Int32)) a1 (fun G54 =>
    K G54)
set_option maxRecDepth 20000 in
set_option maxHeartbeats 4000000 in
theorem m_X2_keep (l : Launch) (dd : va_G) (cT : Nat → ClassId) (lo : Nat) (G : gH) (a0 : Nat) (a1 : Nat) {K : gH → Prop} (h : w_X2_keep G a0 a1 K) : Met l yX2_keep (Cond.code yX2_keep cX2_keep 3 none :: wsL_law) (g_rm 4 102 30 1637) (va_Pc [.ref a0, .ref a1] (g_Pre lo dd cT G)) (va_Qv K (g_Pre lo dd cT) (g_A lo)) 30 1637 (g_A lo) := by
  refine g_start RX2 rfl (by decide) (Nat.le_of_ble_eq_true rfl) ?_
  intro p e s m below meth c hx hb hr hlocks hml hown hnm hts hK hG hlo ls hl
  have hl : lv_has ls 3 [(0, .ref a0), (1, .ref a1)] := hl
  have hG : g_S lo dd cT s s.heap [] G := hG
  unfold w_X2_keep at h
  refine lv_aload_n hx hb dX2_keep_0 rfl (lv_at hl 0 rfl) ?_
  obtain ⟨v1, e1, h⟩ := h
  refine g_geti hx hb hts inlX2 hown hK hG (by rfl) 1 (by decide) qF_X2_15 e1 dX2_keep_1 ?_
  refine lv_aload_n hx hb dX2_keep_4 rfl (lv_at hl 0 rfl) ?_
  obtain ⟨v5, e5, h⟩ := h
  refine g_geti hx hb hts inlX2 hown hK hG (by rfl) 0 (by decide) qF_X2_9 e5 dX2_keep_5 ?_
  refine lv_iadd hx hb dX2_keep_8 ?_
  refine lv_bipush (v := (10 : Int32)) hx hb dX2_keep_9 (by decide) ?_
  refine lv_irem hx hb dX2_keep_11 (by decide) ?_
  refine lv_istore_n (lv' := [(2, .int ((v1 + v5) - (v1 + v5) / (10 : Int32) * (10 : Int32))), (0, .ref a0), (1, .ref a1)]) hx hb dX2_keep_12 rfl hl (by decide) rfl (fun ls hl => ?_)
  refine lv_aload_n hx hb dX2_keep_13 rfl (lv_at hl 1 rfl) ?_
  obtain ⟨v14, e14, h⟩ := h
  refine g_geti hx hb hts inlX2 hown hK hG (by rfl) 0 (by decide) qF_X2_9 e14 dX2_keep_14 ?_
  refine lv_bipush (v := (10 : Int32)) hx hb dX2_keep_17 (by decide) ?_
  refine lv_icmp_ge (tgt := 35) hx hb dX2_keep_19 (by decide) (fun c19 => ?_) (fun c19 => ?_)
  · rw [if_pos c19] at h
    refine lv_aload_n hx hb dX2_keep_35 rfl (lv_at hl 1 rfl) ?_
    refine lv_aload_n hx hb dX2_keep_36 rfl (lv_at hl 1 rfl) ?_
    obtain ⟨v37, e37, h⟩ := h
    refine g_geti hx hb hts inlX2 hown hK hG (by rfl) 1 (by decide) qF_X2_15 e37 dX2_keep_37 ?_
    refine lv_iconst (v := (1 : Int32)) hx hb dX2_keep_40 (by decide) ?_
    refine lv_iadd hx hb dX2_keep_41 ?_
    refine lv_bipush (v := (10 : Int32)) hx hb dX2_keep_42 (by decide) ?_
    refine lv_irem hx hb dX2_keep_44 (by decide) ?_
    obtain ⟨G45, i45, h⟩ := h
    refine g_putv hx hb hts inlX2 tyX2 tyX2_ok nmX2 hown hK hG (by rfl) 1 (by decide) qF_X2_15 rfl rfl rfl rfl i45 dX2_keep_45 (fun H locs hG => ?_)
    refine lv_aload_n hx hb dX2_keep_48 rfl (lv_at hl 1 rfl) ?_
    obtain ⟨v49, e49, h⟩ := h
    refine g_getr hx hb hts inlX2 hown hK hG (by rfl) 2 (by decide) qF_X2_20 e49 dX2_keep_49 ?_
    refine lv_iload_n hx hb dX2_keep_52 rfl (lv_at hl 0 rfl) ?_
    refine lv_aload_n hx hb dX2_keep_53 rfl (lv_at hl 2 rfl) ?_
    refine g_wNv (As := [.ref v49, .int ((v1 + v5) - (v1 + v5) / (10 : Int32) * (10 : Int32)), .ref a1]) (rest := []) (n := 3) hx hb hml hown hts hK hlo hG (m_X9_storeIn l dd cT lo G45 v49 ((v1 + v5) - (v1 + v5) / (10 : Int32) * (10 : Int32)) a1 h) (List.mem_of_getElem? (i := 24) rfl) qT_yX9_storeIn qN_X9 qC_yX9_storeIn (by decide +kernel) ⟨Nat.le_of_ble_eq_true rfl, Nat.le_of_ble_eq_true rfl⟩ rfl hl.1 rfl (Nat.le_of_ble_eq_true rfl) dX2_keep_54 ⟨Nat.le_of_ble_eq_true rfl, Nat.le_of_ble_eq_true rfl⟩ (fun G54 H locs h hG => ?_)
    refine W.widen (k := 30) (n := 1637) (Nat.le_of_ble_eq_true rfl) (Nat.le_of_ble_eq_true rfl) ?_
    exact g_vret hx hb hr hlocks hK hlo hG h dX2_keep_57
  · rw [if_neg c19] at h
    refine lv_aload_n hx hb dX2_keep_22 rfl (lv_at hl 1 rfl) ?_
    refine lv_dup hx hb dX2_keep_23 rfl ?_
    obtain ⟨v24, e24, h⟩ := h
    refine g_geti hx hb hts inlX2 hown hK hG (by rfl) 0 (by decide) qF_X2_9 e24 dX2_keep_24 ?_
    refine lv_iconst (v := (1 : Int32)) hx hb dX2_keep_27 (by decide) ?_
    refine lv_iadd hx hb dX2_keep_28 ?_
    obtain ⟨G29, i29, h⟩ := h
    refine g_putv hx hb hts inlX2 tyX2 tyX2_ok nmX2 hown hK hG (by rfl) 0 (by decide) qF_X2_9 rfl rfl rfl rfl i29 dX2_keep_29 (fun H locs hG => ?_)
    refine lv_goto (tgt := 48) hx hb dX2_keep_32 (by decide) ?_
    refine lv_aload_n hx hb dX2_keep_48 rfl (lv_at hl 1 rfl) ?_
    obtain ⟨v49, e49, h⟩ := h
    refine g_getr hx hb hts inlX2 hown hK hG (by rfl) 2 (by decide) qF_X2_20 e49 dX2_keep_49 ?_
    refine lv_iload_n hx hb dX2_keep_52 rfl (lv_at hl 0 rfl) ?_
    refine lv_aload_n hx hb dX2_keep_53 rfl (lv_at hl 2 rfl) ?_
    refine g_wNv (As := [.ref v49, .int ((v1 + v5) - (v1 + v5) / (10 : Int32) * (10 : Int32)), .ref a1]) (rest := []) (n := 3) hx hb hml hown hts hK hlo hG (m_X9_storeIn l dd cT lo G29 v49 ((v1 + v5) - (v1 + v5) / (10 : Int32) * (10 : Int32)) a1 h) (List.mem_of_getElem? (i := 24) rfl) qT_yX9_storeIn qN_X9 qC_yX9_storeIn (by decide +kernel) ⟨Nat.le_of_ble_eq_true rfl, Nat.le_of_ble_eq_true rfl⟩ rfl hl.1 rfl (Nat.le_of_ble_eq_true rfl) dX2_keep_54 ⟨Nat.le_of_ble_eq_true rfl, Nat.le_of_ble_eq_true rfl⟩ (fun G54 H locs h hG => ?_)
    refine W.widen (k := 30) (n := 1637) (Nat.le_of_ble_eq_true rfl) (Nat.le_of_ble_eq_true rfl) ?_
    exact g_vret hx hb hr hlocks hK hlo hG h dX2_keep_57
def w_X2_bringBack (G : gH) (a0 : Nat) (a1 : Nat) (K : Int32 → gH → Prop) : Prop :=
    ∃ v1, g_i G a0 2 0 = some v1 ∧
    if v1 = 0 then
    K (0 : Int32) G
    else
    ∃ v11, g_i G a0 2 0 = some v11 ∧
    ∃ G16, g_put G a0 2 0 (.int (v11 - (1 : Int32))) = some G16 ∧
    ∃ v20, g_r G16 a0 2 2 = some v20 ∧
    ∃ v24, g_i G16 a0 2 1 = some v24 ∧
    ∃ v28, g_i G16 a0 2 0 = some v28 ∧
    w_X9_loadFrom G16 v20 ((v24 + v28) - (v24 + v28) / (10 : Int32) * (10 : Int32)) a1 (fun G36 =>
    K (1 : Int32) G36)
set_option maxRecDepth 20000 in
set_option maxHeartbeats 4000000 in
theorem m_X2_bringBack (l : Launch) (dd : va_G) (cT : Nat → ClassId) (lo : Nat) (G : gH) (a0 : Nat) (a1 : Nat) {K : Int32 → gH → Prop} (h : w_X2_bringBack G a0 a1 K) : Met l yX2_bringBack (Cond.code yX2_bringBack cX2_bringBack 2 (some .boolean) :: wsL_law) (g_rm 4 86 0 0) (va_Pc [.ref a0, .ref a1] (g_Pre lo dd cT G)) (va_Qi K (g_Pre lo dd cT) (g_A lo)) 0 0 (g_A lo) := by
  refine g_start RX2 rfl (by decide) (Nat.le_of_ble_eq_true rfl) ?_
  intro p e s m below meth c hx hb hr hlocks hml hown hnm hts hK hG hlo ls hl
  have hl : lv_has ls 2 [(0, .ref a0), (1, .ref a1)] := hl
  have hG : g_S lo dd cT s s.heap [] G := hG
  unfold w_X2_bringBack at h
  refine lv_aload_n hx hb dX2_bringBack_0 rfl (lv_at hl 0 rfl) ?_
  obtain ⟨v1, e1, h⟩ := h
  refine g_geti hx hb hts inlX2 hown hK hG (by rfl) 0 (by decide) qF_X2_9 e1 dX2_bringBack_1 ?_
  refine lv_if_ne (tgt := 9) hx hb dX2_bringBack_4 (by decide) (fun c4 => ?_) (fun c4 => ?_)
  · rw [if_neg c4] at h
    refine lv_aload_n hx hb dX2_bringBack_9 rfl (lv_at hl 0 rfl) ?_
    refine lv_dup hx hb dX2_bringBack_10 rfl ?_
    obtain ⟨v11, e11, h⟩ := h
    refine g_geti hx hb hts inlX2 hown hK hG (by rfl) 0 (by decide) qF_X2_9 e11 dX2_bringBack_11 ?_
    refine lv_iconst (v := (1 : Int32)) hx hb dX2_bringBack_14 (by decide) ?_
    refine lv_isub hx hb dX2_bringBack_15 ?_
    obtain ⟨G16, i16, h⟩ := h
    refine g_putv hx hb hts inlX2 tyX2 tyX2_ok nmX2 hown hK hG (by rfl) 0 (by decide) qF_X2_9 rfl rfl rfl rfl i16 dX2_bringBack_16 (fun H locs hG => ?_)
    refine lv_aload_n hx hb dX2_bringBack_19 rfl (lv_at hl 0 rfl) ?_
    obtain ⟨v20, e20, h⟩ := h
    refine g_getr hx hb hts inlX2 hown hK hG (by rfl) 2 (by decide) qF_X2_20 e20 dX2_bringBack_20 ?_
    refine lv_aload_n hx hb dX2_bringBack_23 rfl (lv_at hl 0 rfl) ?_
    obtain ⟨v24, e24, h⟩ := h
    refine g_geti hx hb hts inlX2 hown hK hG (by rfl) 1 (by decide) qF_X2_15 e24 dX2_bringBack_24 ?_
    refine lv_aload_n hx hb dX2_bringBack_27 rfl (lv_at hl 0 rfl) ?_
    obtain ⟨v28, e28, h⟩ := h
    refine g_geti hx hb hts inlX2 hown hK hG (by rfl) 0 (by decide) qF_X2_9 e28 dX2_bringBack_28 ?_
    refine lv_iadd hx hb dX2_bringBack_31 ?_
    refine lv_bipush (v := (10 : Int32)) hx hb dX2_bringBack_32 (by decide) ?_
    refine lv_irem hx hb dX2_bringBack_34 (by decide) ?_
    refine lv_aload_n hx hb dX2_bringBack_35 rfl (lv_at hl 1 rfl) ?_
    refine g_wNv (As := [.ref v20, .int ((v24 + v28) - (v24 + v28) / (10 : Int32) * (10 : Int32)), .ref a1]) (rest := []) (n := 3) hx hb hml hown hts hK hlo hG (m_X9_loadFrom l dd cT lo G16 v20 ((v24 + v28) - (v24 + v28) / (10 : Int32) * (10 : Int32)) a1 h) (List.mem_of_getElem? (i := 25) rfl) qT_yX9_loadFrom qN_X9 qC_yX9_loadFrom (by decide +kernel) ⟨Nat.le_of_ble_eq_true rfl, Nat.le_of_ble_eq_true rfl⟩ rfl hl.1 rfl (Nat.le_of_ble_eq_true rfl) dX2_bringBack_36 ⟨Nat.le_of_ble_eq_true rfl, Nat.le_of_ble_eq_true rfl⟩ (fun G36 H locs h hG => ?_)
    refine lv_iconst (v := (1 : Int32)) hx hb dX2_bringBack_39 (by decide) ?_
    refine W.widen (k := 0) (n := 0) (Nat.le_of_ble_eq_true rfl) (Nat.le_of_ble_eq_true rfl) ?_
    exact g_zret hx hb hr hlocks hK hlo hG rfl h dX2_bringBack_40
  · rw [if_pos c4] at h
    refine lv_iconst (v := (0 : Int32)) hx hb dX2_bringBack_7 (by decide) ?_
    refine W.widen (k := 0) (n := 0) (Nat.le_of_ble_eq_true rfl) (Nat.le_of_ble_eq_true rfl) ?_
    exact g_zret hx hb hr hlocks hK hlo hG rfl h dX2_bringBack_8
def w_X6_store (G : gH) (a0 : Nat) (x1 : Int32) (a2 : Nat) (K : gH → Prop) : Prop :=
    ∃ v1, g_r G a0 6 0 = some v1 ∧
    ∃ G6, f_X9_mark G v1 x1 (1 : Int32) = some G6 ∧
    ∃ v10, g_r G6 a0 6 1 = some v10 ∧
    w_X9_storeIn G6 v10 x1 a2 (fun G15 =>
    K G15)
set_option maxRecDepth 20000 in
set_option maxHeartbeats 4000000 in
theorem m_X6_store (l : Launch) (dd : va_G) (cT : Nat → ClassId) (lo : Nat) (G : gH) (a0 : Nat) (x1 : Int32) (a2 : Nat) {K : gH → Prop} (h : w_X6_store G a0 x1 a2 K) : Met l yX6_store (Cond.code yX6_store cX6_store 3 none :: wsL_law) (g_rm 4 102 30 1637) (va_Pc [.ref a0, .int x1, .ref a2] (g_Pre lo dd cT G)) (va_Qv K (g_Pre lo dd cT) (g_A lo)) 30 1637 (g_A lo) := by
  refine g_start RX6 rfl (by decide) (Nat.le_of_ble_eq_true rfl) ?_
  intro p e s m below meth c hx hb hr hlocks hml hown hnm hts hK hG hlo ls hl
  have hl : lv_has ls 3 [(0, .ref a0), (1, .int x1), (2, .ref a2)] := hl
  have hG : g_S lo dd cT s s.heap [] G := hG
  unfold w_X6_store at h
  refine lv_aload_n hx hb dX6_store_0 rfl (lv_at hl 0 rfl) ?_
  obtain ⟨v1, e1, h⟩ := h
  refine g_getr hx hb hts inlX6 hown hK hG (by rfl) 0 (by decide) qF_X6_9 e1 dX6_store_1 ?_
  refine lv_iload_n hx hb dX6_store_4 rfl (lv_at hl 1 rfl) ?_
  refine lv_iconst (v := (1 : Int32)) hx hb dX6_store_5 (by decide) ?_
  obtain ⟨G6, e6, h⟩ := h
  refine g_cNv (As := [.ref v1, .int x1, .int (1 : Int32)]) (rest := []) (n := 3) hx hb hml hown hts hK hlo hG (m_X9_mark l dd cT lo G v1 x1 (1 : Int32) e6) (List.mem_of_getElem? (i := 36) rfl) qT_yX9_mark qN_X9 qC_yX9_mark (by decide +kernel) ⟨Nat.le_of_ble_eq_true rfl, Nat.le_of_ble_eq_true rfl⟩ rfl hl.1 rfl (Nat.le_of_ble_eq_true rfl) dX6_store_6 ⟨Nat.le_of_ble_eq_true rfl, Nat.le_of_ble_eq_true rfl⟩ (fun H locs hG => ?_)
  refine lv_aload_n hx hb dX6_store_9 rfl (lv_at hl 0 rfl) ?_
  obtain ⟨v10, e10, h⟩ := h
  refine g_getr hx hb hts inlX6 hown hK hG (by rfl) 1 (by decide) qF_X6_17 e10 dX6_store_10 ?_
  refine lv_iload_n hx hb dX6_store_13 rfl (lv_at hl 1 rfl) ?_
  refine lv_aload_n hx hb dX6_store_14 rfl (lv_at hl 2 rfl) ?_
  refine g_wNv (As := [.ref v10, .int x1, .ref a2]) (rest := []) (n := 3) hx hb hml hown hts hK hlo hG (m_X9_storeIn l dd cT lo G6 v10 x1 a2 h) (List.mem_of_getElem? (i := 37) rfl) qT_yX9_storeIn qN_X9 qC_yX9_storeIn (by decide +kernel) ⟨Nat.le_of_ble_eq_true rfl, Nat.le_of_ble_eq_true rfl⟩ rfl hl.1 rfl (Nat.le_of_ble_eq_true rfl) dX6_store_15 ⟨Nat.le_of_ble_eq_true rfl, Nat.le_of_ble_eq_true rfl⟩ (fun G15 H locs h hG => ?_)
  refine W.widen (k := 30) (n := 1637) (Nat.le_of_ble_eq_true rfl) (Nat.le_of_ble_eq_true rfl) ?_
  exact g_vret hx hb hr hlocks hK hlo hG h dX6_store_18
def w_X6_load (G : gH) (a0 : Nat) (x1 : Int32) (a2 : Nat) (K : gH → Prop) : Prop :=
    ∃ v1, g_r G a0 6 1 = some v1 ∧
    w_X9_loadFrom G v1 x1 a2 (fun G6 =>
    K G6)
set_option maxRecDepth 20000 in
set_option maxHeartbeats 4000000 in
theorem m_X6_load (l : Launch) (dd : va_G) (cT : Nat → ClassId) (lo : Nat) (G : gH) (a0 : Nat) (x1 : Int32) (a2 : Nat) {K : gH → Prop} (h : w_X6_load G a0 x1 a2 K) : Met l yX6_load (Cond.code yX6_load cX6_load 3 none :: wsL_law) (g_rm 4 86 0 0) (va_Pc [.ref a0, .int x1, .ref a2] (g_Pre lo dd cT G)) (va_Qv K (g_Pre lo dd cT) (g_A lo)) 0 0 (g_A lo) := by
  refine g_start RX6 rfl (by decide) (Nat.le_of_ble_eq_true rfl) ?_
  intro p e s m below meth c hx hb hr hlocks hml hown hnm hts hK hG hlo ls hl
  have hl : lv_has ls 3 [(0, .ref a0), (1, .int x1), (2, .ref a2)] := hl
  have hG : g_S lo dd cT s s.heap [] G := hG
  unfold w_X6_load at h
  refine lv_aload_n hx hb dX6_load_0 rfl (lv_at hl 0 rfl) ?_
  obtain ⟨v1, e1, h⟩ := h
  refine g_getr hx hb hts inlX6 hown hK hG (by rfl) 1 (by decide) qF_X6_17 e1 dX6_load_1 ?_
  refine lv_iload_n hx hb dX6_load_4 rfl (lv_at hl 1 rfl) ?_
  refine lv_aload_n hx hb dX6_load_5 rfl (lv_at hl 2 rfl) ?_
  refine g_wNv (As := [.ref v1, .int x1, .ref a2]) (rest := []) (n := 3) hx hb hml hown hts hK hlo hG (m_X9_loadFrom l dd cT lo G v1 x1 a2 h) (List.mem_of_getElem? (i := 38) rfl) qT_yX9_loadFrom qN_X9 qC_yX9_loadFrom (by decide +kernel) ⟨Nat.le_of_ble_eq_true rfl, Nat.le_of_ble_eq_true rfl⟩ rfl hl.1 rfl (Nat.le_of_ble_eq_true rfl) dX6_load_6 ⟨Nat.le_of_ble_eq_true rfl, Nat.le_of_ble_eq_true rfl⟩ (fun G6 H locs h hG => ?_)
  refine W.widen (k := 0) (n := 0) (Nat.le_of_ble_eq_true rfl) (Nat.le_of_ble_eq_true rfl) ?_
  exact g_vret hx hb hr hlocks hK hlo hG h dX6_load_9
def w_X9_checkIndex (G : gH) (x0 : Int32) (x1 : Int32) (KX : String → gH → Prop) (K : gH → Prop) : Prop :=
    if x0 < 0 then
    KX g_xIOB G
    else
    if x0 < x1 then
    K G
    else
    KX g_xIOB G
set_option maxRecDepth 20000 in
set_option maxHeartbeats 4000000 in
theorem m_X9_checkIndex (l : Launch) (hfl : l.stackTraces = false) (dd : va_G) (cT : Nat → ClassId) (lo : Nat) (G : gH) (x0 : Int32) (x1 : Int32) {KX : String → gH → Prop} {K : gH → Prop} (h : w_X9_checkIndex G x0 x1 KX K) : vx_Met l yX9_checkIndex (Cond.code yX9_checkIndex cX9_checkIndex 2 none :: wsL_law) (g_rm 6 82 1 6) (va_Pc [.int x0, .int x1] (g_Pre lo dd cT G)) (va_Qv K (g_Pre lo dd cT) (g_A lo)) (g_XC lo dd cT KX) 1 6 (g_A lo) := by
  refine g_startX RX9 rfl (by decide) (Nat.le_of_ble_eq_true rfl) ?_
  intro p e s m below meth c hx hb hr hlocks hml hnone hown hnm hts hK hG hlo ls hl
  have hl : lv_has ls 2 [(0, .int x0), (1, .int x1)] := hl
  have hG : g_S lo dd cT s s.heap [] G := hG
  unfold w_X9_checkIndex at h
  refine lv_iload_n hx hb dX9_checkIndex_0 rfl (lv_at hl 0 rfl) ?_
  refine lv_if_lt (tgt := 9) hx hb dX9_checkIndex_1 (by decide) (fun c1 => ?_) (fun c1 => ?_)
  · rw [if_pos c1] at h
    exact g_throw (text := "there is no such block, file, session or slot") hx hb (hml.trans hl.1.symm) hfl hown hts hlocks hnone hG (by decide +kernel) (List.mem_of_getElem? (i := 1) rfl) qL_X9_325 qN_java_lang_IndexOutOfBoundsException g_inIOB (by decide +kernel) (by decide +kernel) rfl dX9_checkIndex_9 dX9_checkIndex_12 dX9_checkIndex_13 dX9_checkIndex_16 dX9_checkIndex_19 ⟨Nat.le_of_ble_eq_true rfl, Nat.le_of_ble_eq_true rfl⟩ ⟨Nat.le_of_ble_eq_true rfl, Nat.le_of_ble_eq_true rfl⟩ h (Nat.le_of_ble_eq_true rfl) (Nat.le_of_ble_eq_true rfl)
  · rw [if_neg c1] at h
    refine lv_iload_n hx hb dX9_checkIndex_4 rfl (lv_at hl 0 rfl) ?_
    refine lv_iload_n hx hb dX9_checkIndex_5 rfl (lv_at hl 1 rfl) ?_
    refine lv_icmp_lt (tgt := 20) hx hb dX9_checkIndex_6 (by decide) (fun c6 => ?_) (fun c6 => ?_)
    · rw [if_pos c6] at h
      refine W.widen (k := 1) (n := 6) (Nat.le_of_ble_eq_true rfl) (Nat.le_of_ble_eq_true rfl) ?_
      exact vx_ret (g_vret hx hb hr hlocks hK hlo hG h dX9_checkIndex_20)
    · rw [if_neg c6] at h
      exact g_throw (text := "there is no such block, file, session or slot") hx hb (hml.trans hl.1.symm) hfl hown hts hlocks hnone hG (by decide +kernel) (List.mem_of_getElem? (i := 1) rfl) qL_X9_325 qN_java_lang_IndexOutOfBoundsException g_inIOB (by decide +kernel) (by decide +kernel) rfl dX9_checkIndex_9 dX9_checkIndex_12 dX9_checkIndex_13 dX9_checkIndex_16 dX9_checkIndex_19 ⟨Nat.le_of_ble_eq_true rfl, Nat.le_of_ble_eq_true rfl⟩ ⟨Nat.le_of_ble_eq_true rfl, Nat.le_of_ble_eq_true rfl⟩ h (Nat.le_of_ble_eq_true rfl) (Nat.le_of_ble_eq_true rfl)
def w_X9_checkRange (G : gH) (x0 : Int32) (x1 : Int32) (x2 : Int32) (KX : String → gH → Prop) (K : gH → Prop) : Prop :=
    if x0 < x1 then
    KX g_xIAE G
    else
    if x0 ≤ x2 then
    K G
    else
    KX g_xIAE G
set_option maxRecDepth 20000 in
set_option maxHeartbeats 4000000 in
theorem m_X9_checkRange (l : Launch) (hfl : l.stackTraces = false) (dd : va_G) (cT : Nat → ClassId) (lo : Nat) (G : gH) (x0 : Int32) (x1 : Int32) (x2 : Int32) {KX : String → gH → Prop} {K : gH → Prop} (h : w_X9_checkRange G x0 x1 x2 KX K) : vx_Met l yX9_checkRange (Cond.code yX9_checkRange cX9_checkRange 3 none :: wsL_law) (g_rm 6 82 1 6) (va_Pc [.int x0, .int x1, .int x2] (g_Pre lo dd cT G)) (va_Qv K (g_Pre lo dd cT) (g_A lo)) (g_XC lo dd cT KX) 1 6 (g_A lo) := by
  refine g_startX RX9 rfl (by decide) (Nat.le_of_ble_eq_true rfl) ?_
  intro p e s m below meth c hx hb hr hlocks hml hnone hown hnm hts hK hG hlo ls hl
  have hl : lv_has ls 3 [(0, .int x0), (1, .int x1), (2, .int x2)] := hl
  have hG : g_S lo dd cT s s.heap [] G := hG
  unfold w_X9_checkRange at h
  refine lv_iload_n hx hb dX9_checkRange_0 rfl (lv_at hl 0 rfl) ?_
  refine lv_iload_n hx hb dX9_checkRange_1 rfl (lv_at hl 1 rfl) ?_
  refine lv_icmp_lt (tgt := 10) hx hb dX9_checkRange_2 (by decide) (fun c2 => ?_) (fun c2 => ?_)
  · rw [if_pos c2] at h
    exact g_throw (text := "an argument is out of its range") hx hb (hml.trans hl.1.symm) hfl hown hts hlocks hnone hG (by decide +kernel) (List.mem_of_getElem? (i := 2) rfl) qL_X9_330 qN_java_lang_IllegalArgumentException g_inIAE (by decide +kernel) (by decide +kernel) rfl dX9_checkRange_10 dX9_checkRange_13 dX9_checkRange_14 dX9_checkRange_17 dX9_checkRange_20 ⟨Nat.le_of_ble_eq_true rfl, Nat.le_of_ble_eq_true rfl⟩ ⟨Nat.le_of_ble_eq_true rfl, Nat.le_of_ble_eq_true rfl⟩ h (Nat.le_of_ble_eq_true rfl) (Nat.le_of_ble_eq_true rfl)
  · rw [if_neg c2] at h
    refine lv_iload_n hx hb dX9_checkRange_5 rfl (lv_at hl 0 rfl) ?_
    refine lv_iload_n hx hb dX9_checkRange_6 rfl (lv_at hl 2 rfl) ?_
    refine lv_icmp_le (tgt := 21) hx hb dX9_checkRange_7 (by decide) (fun c7 => ?_) (fun c7 => ?_)
    · rw [if_pos c7] at h
      refine W.widen (k := 1) (n := 6) (Nat.le_of_ble_eq_true rfl) (Nat.le_of_ble_eq_true rfl) ?_
      exact vx_ret (g_vret hx hb hr hlocks hK hlo hG h dX9_checkRange_21)
    · rw [if_neg c7] at h
      exact g_throw (text := "an argument is out of its range") hx hb (hml.trans hl.1.symm) hfl hown hts hlocks hnone hG (by decide +kernel) (List.mem_of_getElem? (i := 2) rfl) qL_X9_330 qN_java_lang_IllegalArgumentException g_inIAE (by decide +kernel) (by decide +kernel) rfl dX9_checkRange_10 dX9_checkRange_13 dX9_checkRange_14 dX9_checkRange_17 dX9_checkRange_20 ⟨Nat.le_of_ble_eq_true rfl, Nat.le_of_ble_eq_true rfl⟩ ⟨Nat.le_of_ble_eq_true rfl, Nat.le_of_ble_eq_true rfl⟩ h (Nat.le_of_ble_eq_true rfl) (Nat.le_of_ble_eq_true rfl)

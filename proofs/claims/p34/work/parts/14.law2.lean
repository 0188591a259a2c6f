/-! The law's methods that make cells: by program (wip/p34/tools/pwlift.py). -/
set_option maxRecDepth 20000 in
set_option maxHeartbeats 4000000 in
theorem m_X12_init (MC MS : Nat) (l : Launch) (hfl : l.stackTraces = false) (dd : va_G) (cT : Nat → ClassId) (lo : Nat → Prop) (G : gH) (a0 : Nat) {K : gH → Prop} (h : w_X12_init MC MS G a0 K) : Met l yX12_init (Cond.code yX12_init cX12_init 1 none :: wsL_law) (g_rm 1 40 MC MS) (va_Pc [.ref a0] (g_Pre lo dd cT G)) (va_Qv K (g_Pre lo dd cT) (g_A lo)) MC MS (g_A lo) := by
  refine g_start RX12 rfl (by decide) (Nat.le_of_ble_eq_true rfl) ?_
  intro p e s m below meth c hx hb hr hlocks hml hown hnm hts hK hG hlo ls hl
  have hl : lv_has ls 1 [(0, .ref a0)] := hl
  have hG : g_S lo dd cT s s.heap [] G := hG
  unfold w_X12_init at h
  refine lv_aload_n hx hb dX12_init_0 rfl (lv_at hl 0 rfl) ?_
  refine W.objInit hx hb hown (hts _ qM_X12_1) (hts _ qI_objectInit) (hts _ qC_objectInit) rfl (hl.1.trans hml.symm) rfl dX12_init_1 (Nat.le_of_ble_eq_true rfl) (Nat.le_of_ble_eq_true rfl) ?_
  refine lv_aload_n hx hb dX12_init_4 rfl (lv_at hl 0 rfl) ?_
  refine lv_iconst (v := (-1 : Int32)) hx hb dX12_init_5 (by decide) ?_
  obtain ⟨G6, i6, h⟩ := h
  refine g_putv hx hb hts inlX12 tyX12 tyX12_ok nmX12 hown hK hG (by rfl) 3 (by decide) qF_X12_7 rfl rfl rfl rfl i6 dX12_init_6 (fun H locs hG => ?_)
  refine lv_aload_n hx hb dX12_init_9 rfl (lv_at hl 0 rfl) ?_
  refine lv_iconst (v := (-1 : Int32)) hx hb dX12_init_10 (by decide) ?_
  obtain ⟨G11, i11, h⟩ := h
  refine g_putv hx hb hts inlX12 tyX12 tyX12_ok nmX12 hown hK hG (by rfl) 4 (by decide) qF_X12_13 rfl rfl rfl rfl i11 dX12_init_11 (fun H locs hG => ?_)
  refine lv_aload_n hx hb dX12_init_14 rfl (lv_at hl 0 rfl) ?_
  refine lv_bipush (v := (10 : Int32)) hx hb dX12_init_15 (by decide) ?_
  obtain ⟨y17, h⟩ := h
  refine g_newai (N := 10) hx hb hts hK hlo hG (by decide) (by decide) (Nat.le_of_ble_eq_true rfl) y17 dX12_init_17 (fun q17 H z17 hG => ?_)
  obtain ⟨G17, i17⟩ : ∃ g : gH, g = va_up G11 q17 (some (.inl (0, 10, fun _ => 0))) := ⟨_, rfl⟩
  rw [← i17] at hG
  replace h := h q17 z17 G17 i17
  obtain ⟨G19, i19, h⟩ := h
  refine g_putvF hx hb hts inlX12 tyX12 tyX12_ok nmX12 hown hK hG (by rfl) 6 (by decide) qF_X12_16 rfl hnm rfl rfl rfl rfl i19 dX12_init_19 (fun H locs hG => ?_)
  refine lv_aload_n hx hb dX12_init_22 rfl (lv_at hl 0 rfl) ?_
  refine lv_iconst (v := (3 : Int32)) hx hb dX12_init_23 (by decide) ?_
  obtain ⟨y24, h⟩ := h
  refine g_newai (N := 3) hx hb hts hK hlo hG (by decide) (by decide) (Nat.le_of_ble_eq_true rfl) y24 dX12_init_24 (fun q24 H z24 hG => ?_)
  obtain ⟨G24, i24⟩ : ∃ g : gH, g = va_up G19 q24 (some (.inl (0, 3, fun _ => 0))) := ⟨_, rfl⟩
  rw [← i24] at hG
  replace h := h q24 z24 G24 i24
  obtain ⟨G26, i26, h⟩ := h
  refine g_putvF hx hb hts inlX12 tyX12 tyX12_ok nmX12 hown hK hG (by rfl) 7 (by decide) qF_X12_20 rfl hnm rfl rfl rfl rfl i26 dX12_init_26 (fun H locs hG => ?_)
  refine lv_aload_n hx hb dX12_init_29 rfl (lv_at hl 0 rfl) ?_
  refine lv_bipush (v := (10 : Int32)) hx hb dX12_init_30 (by decide) ?_
  obtain ⟨y32, h⟩ := h
  refine g_newq6 (N := 10) hx hb hown hts qL_X12_23 hK hlo hG (by decide) (by decide) (Nat.le_of_ble_eq_true rfl) y32 dX12_init_32 (fun q32 H z32 hG => ?_)
  obtain ⟨G32, i32⟩ : ∃ g : gH, g = va_up G26 q32 (some (.inr (.inr (.inl (6, 10, fun _ => none))))) := ⟨_, rfl⟩
  rw [← i32] at hG
  replace h := h q32 z32 G32 i32
  obtain ⟨G35, i35, h⟩ := h
  refine g_putvF hx hb hts inlX12 tyX12 tyX12_ok nmX12 hown hK hG (by rfl) 8 (by decide) qF_X12_25 rfl hnm rfl rfl rfl rfl i35 dX12_init_35 (fun H locs hG => ?_)
  obtain ⟨y1, y2, h⟩ := h
  refine W.widen (k := MC) (n := MS) y1 y2 ?_
  exact g_vret hx hb hr hlocks hK hlo hG h dX12_init_38
set_option maxRecDepth 20000 in
set_option maxHeartbeats 4000000 in
theorem m_X13_init (MC MS : Nat) (l : Launch) (hfl : l.stackTraces = false) (dd : va_G) (cT : Nat → ClassId) (lo : Nat → Prop) (G : gH) (a0 : Nat) {K : gH → Prop} (h : w_X13_init MC MS G a0 K) : Met l yX13_init (Cond.code yX13_init cX13_init 1 none :: wsL_law) (g_rm 1 40 MC MS) (va_Pc [.ref a0] (g_Pre lo dd cT G)) (va_Qv K (g_Pre lo dd cT) (g_A lo)) MC MS (g_A lo) := by
  refine g_start RX13 rfl (by decide) (Nat.le_of_ble_eq_true rfl) ?_
  intro p e s m below meth c hx hb hr hlocks hml hown hnm hts hK hG hlo ls hl
  have hl : lv_has ls 1 [(0, .ref a0)] := hl
  have hG : g_S lo dd cT s s.heap [] G := hG
  unfold w_X13_init at h
  refine lv_aload_n hx hb dX13_init_0 rfl (lv_at hl 0 rfl) ?_
  refine W.objInit hx hb hown (hts _ qM_X13_1) (hts _ qI_objectInit) (hts _ qC_objectInit) rfl (hl.1.trans hml.symm) rfl dX13_init_1 (Nat.le_of_ble_eq_true rfl) (Nat.le_of_ble_eq_true rfl) ?_
  refine lv_aload_n hx hb dX13_init_4 rfl (lv_at hl 0 rfl) ?_
  refine lv_bipush (v := (8 : Int32)) hx hb dX13_init_5 (by decide) ?_
  obtain ⟨y7, h⟩ := h
  refine g_newai (N := 8) hx hb hts hK hlo hG (by decide) (by decide) (Nat.le_of_ble_eq_true rfl) y7 dX13_init_7 (fun q7 H z7 hG => ?_)
  obtain ⟨G7, i7⟩ : ∃ g : gH, g = va_up G q7 (some (.inl (0, 8, fun _ => 0))) := ⟨_, rfl⟩
  rw [← i7] at hG
  replace h := h q7 z7 G7 i7
  obtain ⟨G9, i9, h⟩ := h
  refine g_putvF hx hb hts inlX13 tyX13 tyX13_ok nmX13 hown hK hG (by rfl) 6 (by decide) qF_X13_7 rfl hnm rfl rfl rfl rfl i9 dX13_init_9 (fun H locs hG => ?_)
  obtain ⟨y1, y2, h⟩ := h
  refine W.widen (k := MC) (n := MS) y1 y2 ?_
  exact g_vret hx hb hr hlocks hK hlo hG h dX13_init_12
set_option maxRecDepth 20000 in
set_option maxHeartbeats 4000000 in
theorem m_X10_init (MC MS : Nat) (l : Launch) (hfl : l.stackTraces = false) (dd : va_G) (cT : Nat → ClassId) (lo : Nat → Prop) (G : gH) (a0 : Nat) {K : gH → Prop} (h : w_X10_init MC MS G a0 K) : Met l yX10_init (Cond.code yX10_init cX10_init 2 none :: wsL_law) (g_rm 1 40 MC MS) (va_Pc [.ref a0] (g_Pre lo dd cT G)) (va_Qv K (g_Pre lo dd cT) (g_A lo)) MC MS (g_A lo) := by
  refine g_start RX10 rfl (by decide) (Nat.le_of_ble_eq_true rfl) ?_
  intro p e s m below meth c hx hb hr hlocks hml hown hnm hts hK hG hlo ls hl
  have hl : lv_has ls 2 [(0, .ref a0)] := hl
  have hG : g_S lo dd cT s s.heap [] G := hG
  have h89 : ∀ n89 : Nat, ∀ (G : gH) (kc ks : Nat) (ba0 : Nat) (bx1 : Int32) (H : Heap) (locs : List Loc), g_S lo dd cT s H locs G → ∀ ls : Array Slot, lv_has ls 2 [(0, .ref ba0), (1, .int bx1)] → w_X10_init_L89 MC MS K n89 G kc ks ba0 bx1 → W p l e (g_rm 1 40 MC MS) s m ([.ref a0] : List Value).toArray below meth c H locs kc ks (MQ below (va_Qv K (g_Pre lo dd cT) (g_A lo)) ([.ref a0] : List Value).toArray s MC MS (g_A lo)) (F0 m 89 ls []) := by
    intro n89
    induction n89 with
    | zero =>
      intro G kc ks ba0 bx1 H locs hG ls hl h
      exact (show False from h).elim
    | succ n89 ih89 =>
      intro G kc ks ba0 bx1 H locs hG ls hl h
      rw [w_X10_init_L89] at h
      refine lv_iload_n hx hb dX10_init_89 rfl (lv_at hl 1 rfl) ?_
      refine lv_bipush (v := (96 : Int32)) hx hb dX10_init_90 (by decide) ?_
      refine lv_icmp_ge (tgt := 129) hx hb dX10_init_92 (by decide) (fun c92 => ?_) (fun c92 => ?_)
      · rw [if_pos c92] at h
        obtain ⟨y1, y2, h⟩ := h
        refine W.widen (k := MC) (n := MS) y1 y2 ?_
        exact g_vret hx hb hr hlocks hK hlo hG h dX10_init_129
      · rw [if_neg c92] at h
        refine lv_aload_n hx hb dX10_init_95 rfl (lv_at hl 0 rfl) ?_
        obtain ⟨v96, e96, h⟩ := h
        refine g_getr hx hb hts inlX10 hown hK hG (by rfl) 8 (by decide) qF_X10_13 e96 dX10_init_96 ?_
        refine lv_iload_n hx hb dX10_init_99 rfl (lv_at hl 1 rfl) ?_
        refine lv_iconst (v := (-1 : Int32)) hx hb dX10_init_100 (by decide) ?_
        obtain ⟨G101, e101, h⟩ := h
        refine g_iast hx hb hK hG e101 dX10_init_101 (fun H locs hG => ?_)
        refine lv_aload_n hx hb dX10_init_102 rfl (lv_at hl 0 rfl) ?_
        obtain ⟨v103, e103, h⟩ := h
        refine g_getr hx hb hts inlX10 hown hK hG (by rfl) 9 (by decide) qF_X10_16 e103 dX10_init_103 ?_
        refine lv_iload_n hx hb dX10_init_106 rfl (lv_at hl 1 rfl) ?_
        refine lv_iconst (v := (-1 : Int32)) hx hb dX10_init_107 (by decide) ?_
        obtain ⟨G108, e108, h⟩ := h
        refine g_iast hx hb hK hG e108 dX10_init_108 (fun H locs hG => ?_)
        refine lv_aload_n hx hb dX10_init_109 rfl (lv_at hl 0 rfl) ?_
        obtain ⟨v110, e110, h⟩ := h
        refine g_getr hx hb hts inlX10 hown hK hG (by rfl) 10 (by decide) qF_X10_19 e110 dX10_init_110 ?_
        refine lv_iload_n hx hb dX10_init_113 rfl (lv_at hl 1 rfl) ?_
        refine lv_iconst (v := (-1 : Int32)) hx hb dX10_init_114 (by decide) ?_
        obtain ⟨G115, e115, h⟩ := h
        refine g_iast hx hb hK hG e115 dX10_init_115 (fun H locs hG => ?_)
        refine lv_aload_n hx hb dX10_init_116 rfl (lv_at hl 0 rfl) ?_
        obtain ⟨v117, e117, h⟩ := h
        refine g_getr hx hb hts inlX10 hown hK hG (by rfl) 11 (by decide) qF_X10_22 e117 dX10_init_117 ?_
        refine lv_iload_n hx hb dX10_init_120 rfl (lv_at hl 1 rfl) ?_
        refine lv_iconst (v := (-1 : Int32)) hx hb dX10_init_121 (by decide) ?_
        obtain ⟨G122, e122, h⟩ := h
        refine g_iast hx hb hK hG e122 dX10_init_122 (fun H locs hG => ?_)
        refine lv_iinc (v := (bx1 + (1 : Int32))) (lv' := [(1, .int (bx1 + (1 : Int32))), (0, .ref ba0)]) hx hb dX10_init_123 hl (k := 1) rfl rfl (by decide) rfl (fun ls hl => ?_)
        refine lv_goto (tgt := 89) hx hb dX10_init_126 (by decide) ?_
        exact ih89 G122 kc ks ba0 (bx1 + (1 : Int32)) _ _ hG _ (lv_sub hl [1, 0] rfl) h
  unfold w_X10_init at h
  refine lv_aload_n hx hb dX10_init_0 rfl (lv_at hl 0 rfl) ?_
  refine W.objInit hx hb hown (hts _ qM_X10_1) (hts _ qI_objectInit) (hts _ qC_objectInit) rfl (hl.1.trans hml.symm) rfl dX10_init_1 (Nat.le_of_ble_eq_true rfl) (Nat.le_of_ble_eq_true rfl) ?_
  refine lv_aload_n hx hb dX10_init_4 rfl (lv_at hl 0 rfl) ?_
  refine lv_bipush (v := (96 : Int32)) hx hb dX10_init_5 (by decide) ?_
  obtain ⟨y7, h⟩ := h
  refine g_newai (N := 96) hx hb hts hK hlo hG (by decide) (by decide) (Nat.le_of_ble_eq_true rfl) y7 dX10_init_7 (fun q7 H z7 hG => ?_)
  obtain ⟨G7, i7⟩ : ∃ g : gH, g = va_up G q7 (some (.inl (0, 96, fun _ => 0))) := ⟨_, rfl⟩
  rw [← i7] at hG
  replace h := h q7 z7 G7 i7
  obtain ⟨G9, i9, h⟩ := h
  refine g_putvF hx hb hts inlX10 tyX10 tyX10_ok nmX10 hown hK hG (by rfl) 7 (by decide) qF_X10_7 rfl hnm rfl rfl rfl rfl i9 dX10_init_9 (fun H locs hG => ?_)
  refine lv_aload_n hx hb dX10_init_12 rfl (lv_at hl 0 rfl) ?_
  refine lv_bipush (v := (96 : Int32)) hx hb dX10_init_13 (by decide) ?_
  obtain ⟨y15, h⟩ := h
  refine g_newai (N := 96) hx hb hts hK hlo hG (by decide) (by decide) (Nat.le_of_ble_eq_true rfl) y15 dX10_init_15 (fun q15 H z15 hG => ?_)
  obtain ⟨G15, i15⟩ : ∃ g : gH, g = va_up G9 q15 (some (.inl (0, 96, fun _ => 0))) := ⟨_, rfl⟩
  rw [← i15] at hG
  replace h := h q15 z15 G15 i15
  obtain ⟨G17, i17, h⟩ := h
  refine g_putvF hx hb hts inlX10 tyX10 tyX10_ok nmX10 hown hK hG (by rfl) 8 (by decide) qF_X10_13 rfl hnm rfl rfl rfl rfl i17 dX10_init_17 (fun H locs hG => ?_)
  refine lv_aload_n hx hb dX10_init_20 rfl (lv_at hl 0 rfl) ?_
  refine lv_bipush (v := (96 : Int32)) hx hb dX10_init_21 (by decide) ?_
  obtain ⟨y23, h⟩ := h
  refine g_newai (N := 96) hx hb hts hK hlo hG (by decide) (by decide) (Nat.le_of_ble_eq_true rfl) y23 dX10_init_23 (fun q23 H z23 hG => ?_)
  obtain ⟨G23, i23⟩ : ∃ g : gH, g = va_up G17 q23 (some (.inl (0, 96, fun _ => 0))) := ⟨_, rfl⟩
  rw [← i23] at hG
  replace h := h q23 z23 G23 i23
  obtain ⟨G25, i25, h⟩ := h
  refine g_putvF hx hb hts inlX10 tyX10 tyX10_ok nmX10 hown hK hG (by rfl) 9 (by decide) qF_X10_16 rfl hnm rfl rfl rfl rfl i25 dX10_init_25 (fun H locs hG => ?_)
  refine lv_aload_n hx hb dX10_init_28 rfl (lv_at hl 0 rfl) ?_
  refine lv_bipush (v := (96 : Int32)) hx hb dX10_init_29 (by decide) ?_
  obtain ⟨y31, h⟩ := h
  refine g_newai (N := 96) hx hb hts hK hlo hG (by decide) (by decide) (Nat.le_of_ble_eq_true rfl) y31 dX10_init_31 (fun q31 H z31 hG => ?_)
  obtain ⟨G31, i31⟩ : ∃ g : gH, g = va_up G25 q31 (some (.inl (0, 96, fun _ => 0))) := ⟨_, rfl⟩
  rw [← i31] at hG
  replace h := h q31 z31 G31 i31
  obtain ⟨G33, i33, h⟩ := h
  refine g_putvF hx hb hts inlX10 tyX10 tyX10_ok nmX10 hown hK hG (by rfl) 10 (by decide) qF_X10_19 rfl hnm rfl rfl rfl rfl i33 dX10_init_33 (fun H locs hG => ?_)
  refine lv_aload_n hx hb dX10_init_36 rfl (lv_at hl 0 rfl) ?_
  refine lv_bipush (v := (96 : Int32)) hx hb dX10_init_37 (by decide) ?_
  obtain ⟨y39, h⟩ := h
  refine g_newai (N := 96) hx hb hts hK hlo hG (by decide) (by decide) (Nat.le_of_ble_eq_true rfl) y39 dX10_init_39 (fun q39 H z39 hG => ?_)
  obtain ⟨G39, i39⟩ : ∃ g : gH, g = va_up G33 q39 (some (.inl (0, 96, fun _ => 0))) := ⟨_, rfl⟩
  rw [← i39] at hG
  replace h := h q39 z39 G39 i39
  obtain ⟨G41, i41, h⟩ := h
  refine g_putvF hx hb hts inlX10 tyX10 tyX10_ok nmX10 hown hK hG (by rfl) 11 (by decide) qF_X10_22 rfl hnm rfl rfl rfl rfl i41 dX10_init_41 (fun H locs hG => ?_)
  refine lv_aload_n hx hb dX10_init_44 rfl (lv_at hl 0 rfl) ?_
  refine lv_bipush (v := (96 : Int32)) hx hb dX10_init_45 (by decide) ?_
  obtain ⟨y47, h⟩ := h
  refine g_newaz (N := 96) hx hb hts hK hlo hG (by decide) (by decide) (Nat.le_of_ble_eq_true rfl) y47 dX10_init_47 (fun q47 H z47 hG => ?_)
  obtain ⟨G47, i47⟩ : ∃ g : gH, g = va_up G41 q47 (some (.inl (1, 96, fun _ => 0))) := ⟨_, rfl⟩
  rw [← i47] at hG
  replace h := h q47 z47 G47 i47
  obtain ⟨G49, i49, h⟩ := h
  refine g_putvF hx hb hts inlX10 tyX10 tyX10_ok nmX10 hown hK hG (by rfl) 12 (by decide) qF_X10_25 rfl hnm rfl rfl rfl rfl i49 dX10_init_49 (fun H locs hG => ?_)
  refine lv_aload_n hx hb dX10_init_52 rfl (lv_at hl 0 rfl) ?_
  refine lv_bipush (v := (96 : Int32)) hx hb dX10_init_53 (by decide) ?_
  obtain ⟨y55, h⟩ := h
  refine g_newaz (N := 96) hx hb hts hK hlo hG (by decide) (by decide) (Nat.le_of_ble_eq_true rfl) y55 dX10_init_55 (fun q55 H z55 hG => ?_)
  obtain ⟨G55, i55⟩ : ∃ g : gH, g = va_up G49 q55 (some (.inl (1, 96, fun _ => 0))) := ⟨_, rfl⟩
  rw [← i55] at hG
  replace h := h q55 z55 G55 i55
  obtain ⟨G57, i57, h⟩ := h
  refine g_putvF hx hb hts inlX10 tyX10 tyX10_ok nmX10 hown hK hG (by rfl) 13 (by decide) qF_X10_29 rfl hnm rfl rfl rfl rfl i57 dX10_init_57 (fun H locs hG => ?_)
  refine lv_aload_n hx hb dX10_init_60 rfl (lv_at hl 0 rfl) ?_
  refine lv_bipush (v := (96 : Int32)) hx hb dX10_init_61 (by decide) ?_
  obtain ⟨y63, h⟩ := h
  refine g_newq6 (N := 96) hx hb hown hts qL_X10_32 hK hlo hG (by decide) (by decide) (Nat.le_of_ble_eq_true rfl) y63 dX10_init_63 (fun q63 H z63 hG => ?_)
  obtain ⟨G63, i63⟩ : ∃ g : gH, g = va_up G57 q63 (some (.inr (.inr (.inl (6, 96, fun _ => none))))) := ⟨_, rfl⟩
  rw [← i63] at hG
  replace h := h q63 z63 G63 i63
  obtain ⟨G66, i66, h⟩ := h
  refine g_putvF hx hb hts inlX10 tyX10 tyX10_ok nmX10 hown hK hG (by rfl) 14 (by decide) qF_X10_34 rfl hnm rfl rfl rfl rfl i66 dX10_init_66 (fun H locs hG => ?_)
  refine lv_aload_n hx hb dX10_init_69 rfl (lv_at hl 0 rfl) ?_
  refine lv_bipush (v := (96 : Int32)) hx hb dX10_init_70 (by decide) ?_
  obtain ⟨y72, h⟩ := h
  refine g_newq6 (N := 96) hx hb hown hts qL_X10_32 hK hlo hG (by decide) (by decide) (Nat.le_of_ble_eq_true rfl) y72 dX10_init_72 (fun q72 H z72 hG => ?_)
  obtain ⟨G72, i72⟩ : ∃ g : gH, g = va_up G66 q72 (some (.inr (.inr (.inl (6, 96, fun _ => none))))) := ⟨_, rfl⟩
  rw [← i72] at hG
  replace h := h q72 z72 G72 i72
  obtain ⟨G75, i75, h⟩ := h
  refine g_putvF hx hb hts inlX10 tyX10 tyX10_ok nmX10 hown hK hG (by rfl) 15 (by decide) qF_X10_38 rfl hnm rfl rfl rfl rfl i75 dX10_init_75 (fun H locs hG => ?_)
  refine lv_aload_n hx hb dX10_init_78 rfl (lv_at hl 0 rfl) ?_
  refine lv_bipush (v := (12 : Int32)) hx hb dX10_init_79 (by decide) ?_
  obtain ⟨y81, h⟩ := h
  refine g_newq5 (N := 12) hx hb hown hts qL_X10_41 hK hlo hG (by decide) (by decide) (Nat.le_of_ble_eq_true rfl) y81 dX10_init_81 (fun q81 H z81 hG => ?_)
  obtain ⟨G81, i81⟩ : ∃ g : gH, g = va_up G75 q81 (some (.inr (.inr (.inl (5, 12, fun _ => none))))) := ⟨_, rfl⟩
  rw [← i81] at hG
  replace h := h q81 z81 G81 i81
  obtain ⟨G84, i84, h⟩ := h
  refine g_putvF hx hb hts inlX10 tyX10 tyX10_ok nmX10 hown hK hG (by rfl) 16 (by decide) qF_X10_43 rfl hnm rfl rfl rfl rfl i84 dX10_init_84 (fun H locs hG => ?_)
  refine lv_iconst (v := (0 : Int32)) hx hb dX10_init_87 (by decide) ?_
  refine lv_istore_n (lv' := [(1, .int (0 : Int32)), (0, .ref a0)]) hx hb dX10_init_88 rfl hl (by decide) rfl (fun ls hl => ?_)
  exact h89 g_N G84 ((((((((((0 + 1) + 1) + 1) + 1) + 1) + 1) + 1) + 1) + 1) + 1) ((((((((((0 + 96) + 96) + 96) + 96) + 96) + 96) + 96) + 96) + 96) + 12) a0 (0 : Int32) _ _ hG _ (lv_sub hl [1, 0] rfl) h
set_option maxRecDepth 20000 in
set_option maxHeartbeats 4000000 in
theorem m_X10_begins (MC MS : Nat) (l : Launch) (hfl : l.stackTraces = false) (dd : va_G) (cT : Nat → ClassId) (lo : Nat → Prop) (G : gH) (a0 : Nat) {K : Option Nat → gH → Prop} (h : w_X10_begins MC MS G a0 K) : Met l yX10_begins (Cond.code yX10_begins cX10_begins 2 (some (.object "OnceDiscLaw$Session")) :: wsL_law) (g_rm 2 60 MC MS) (va_Pc [.ref a0] (g_Pre lo dd cT G)) (va_Qq K (g_Pre lo dd cT) (g_A lo)) MC MS (g_A lo) := by
  refine g_start RX10 rfl (by decide) (Nat.le_of_ble_eq_true rfl) ?_
  intro p e s m below meth c hx hb hr hlocks hml hown hnm hts hK hG hlo ls hl
  have hl : lv_has ls 2 [(0, .ref a0)] := hl
  have hG : g_S lo dd cT s s.heap [] G := hG
  unfold w_X10_begins at h
  obtain ⟨y0, h⟩ := h
  refine g_new (ci := 12) (fs := [.int 0, .int 0, .int 0, .int 0, .int 0, .int 0, .null, .null, .null]) hx hb hts inlX12 tyX12 tyX12_ok hown hK hlo hG rfl qL_X10_41 qA_X12 qN_X12 (fun j hj => by rcases (show j = 0 ∨ j = 1 ∨ j = 2 ∨ j = 3 ∨ j = 4 ∨ j = 5 ∨ j = 6 ∨ j = 7 ∨ j = 8 by omega) with rfl | rfl | rfl | rfl | rfl | rfl | rfl | rfl | rfl <;> rfl) y0 dX10_begins_0 (fun q0 H z0 hG => ?_)
  obtain ⟨G0, i0⟩ : ∃ g : gH, g = va_up G q0 (some (.inr (.inr (.inr (12, [.int 0, .int 0, .int 0, .int 0, .int 0, .int 0, .null, .null, .null]))))) := ⟨_, rfl⟩
  rw [← i0] at hG
  replace h := h q0 z0 G0 i0
  refine lv_dup hx hb dX10_begins_3 rfl ?_
  obtain ⟨C4, R4, d4, g4, h⟩ := h
  obtain ⟨y4, h⟩ := h
  rw [g4] at hG
  refine g_wIL (b := q0) (As := []) (rest := [.ref q0]) (n := 0) hx hb hml hown hts hK hlo hG (g_frV d4 (fun lo => m_X12_init 3 23 l hfl dd cT lo C4 q0 h) lo) (List.mem_of_getElem? (i := 1) rfl) qI_yX12_init rfl qN_X12 qC_yX12_init (by decide +kernel) ⟨Nat.le_of_ble_eq_true rfl, Nat.le_of_ble_eq_true rfl⟩ rfl hl.1 rfl (Nat.le_of_ble_eq_true rfl) dX10_begins_4 y4 (fun Gx H locs hKx hG => ?_)
  obtain ⟨D4, h, f4, rfl⟩ := hKx
  obtain ⟨G4, i4⟩ : ∃ g : gH, g = gj D4 R4 := ⟨_, rfl⟩
  rw [← i4] at hG
  replace h := h G4 f4 i4
  refine lv_astore_n (lv' := [(1, .ref q0), (0, .ref a0)]) hx hb dX10_begins_7 rfl hl (by decide) rfl (fun ls hl => ?_)
  refine lv_aload_n hx hb dX10_begins_8 rfl (lv_at hl 0 rfl) ?_
  refine lv_aload_n hx hb dX10_begins_9 rfl (lv_at hl 1 rfl) ?_
  obtain ⟨v10, e10, h⟩ := h
  refine g_geti hx hb hts inlX10 hown hK hG (by rfl) 3 (by decide) qF_X10_60 e10 dX10_begins_10 ?_
  obtain ⟨G13, i13, h⟩ := h
  refine g_putvN hx hb hts inlX12 tyX12 tyX12_ok nmX12 hown hK hG (by rfl) 1 (by decide) (List.mem_of_getElem? (i := 33) rfl) rfl rfl rfl rfl i13 dX10_begins_13 (fun H locs hG => ?_)
  refine lv_aload_n hx hb dX10_begins_16 rfl (lv_at hl 1 rfl) ?_
  obtain ⟨v17, e17, h⟩ := h
  refine g_getr hx hb hts inlX10 hown hK hG (by rfl) 16 (by decide) qF_X10_43 e17 dX10_begins_17 ?_
  refine lv_aload_n hx hb dX10_begins_20 rfl (lv_at hl 1 rfl) ?_
  refine lv_dup hx hb dX10_begins_21 rfl ?_
  obtain ⟨v22, e22, h⟩ := h
  refine g_geti hx hb hts inlX10 hown hK hG (by rfl) 4 (by decide) qF_X10_54 e22 dX10_begins_22 ?_
  refine lv_dup_x1 hx hb dX10_begins_25 rfl rfl ?_
  refine lv_iconst (v := (1 : Int32)) hx hb dX10_begins_26 (by decide) ?_
  refine lv_iadd hx hb dX10_begins_27 ?_
  obtain ⟨G28, i28, h⟩ := h
  refine g_putv hx hb hts inlX10 tyX10 tyX10_ok nmX10 hown hK hG (by rfl) 4 (by decide) qF_X10_54 rfl rfl rfl rfl i28 dX10_begins_28 (fun H locs hG => ?_)
  refine lv_aload_n hx hb dX10_begins_31 rfl (lv_at hl 0 rfl) ?_
  obtain ⟨u32, o32, h⟩ := h
  obtain ⟨G32, e32, h⟩ := h
  refine g_rast_row (t := 5) (ci := 12) hx hb hK hG rfl rfl o32 e32 dX10_begins_32 (fun H locs hG => ?_)
  refine lv_aload_n hx hb dX10_begins_33 rfl (lv_at hl 0 rfl) ?_
  obtain ⟨y1, y2, h⟩ := h
  refine W.widen (k := MC) (n := MS) y1 y2 ?_
  exact g_qret (r := some q0) hx hb hr (Or.inl ⟨_, rfl⟩) hlocks hK hlo hG h dX10_begins_34
set_option maxRecDepth 20000 in
set_option maxHeartbeats 4000000 in
theorem m_X10_write (MC MS : Nat) (l : Launch) (hfl : l.stackTraces = false) (dd : va_G) (cT : Nat → ClassId) (lo : Nat → Prop) (G : gH) (a0 : Nat) (x1 : Int32) (x2 : Int32) (x3 : Int32) {K : Int32 → gH → Prop} (h : w_X10_write MC MS G a0 x1 x2 x3 K) : Met l yX10_write (Cond.code yX10_write cX10_write 7 (some .int) :: wsL_law) (g_rm 3 81 MC MS) (va_Pc [.ref a0, .int x1, .int x2, .int x3] (g_Pre lo dd cT G)) (va_Qi K (g_Pre lo dd cT) (g_A lo)) MC MS (g_A lo) := by
  refine g_start RX10 rfl (by decide) (Nat.le_of_ble_eq_true rfl) ?_
  intro p e s m below meth c hx hb hr hlocks hml hown hnm hts hK hG hlo ls hl
  have hl : lv_has ls 7 [(0, .ref a0), (1, .int x1), (2, .int x2), (3, .int x3)] := hl
  have hG : g_S lo dd cT s s.heap [] G := hG
  have h97 : ∀ n97 : Nat, ∀ (G : gH) (kc ks : Nat) (ba0 : Nat) (bx1 : Int32) (bx2 : Int32) (ba4 : Option Nat) (ba5 : Nat) (bx6 : Int32) (H : Heap) (locs : List Loc), g_S lo dd cT s H locs G → ∀ ls : Array Slot, lv_has ls 7 [(0, .ref ba0), (1, .int bx1), (2, .int bx2), (4, va_rf ba4), (5, .ref ba5), (6, .int bx6)] → w_X10_write_L97 MC MS K n97 G kc ks ba0 bx1 bx2 ba4 ba5 bx6 → W p l e (g_rm 3 81 MC MS) s m ([.ref a0, .int x1, .int x2, .int x3] : List Value).toArray below meth c H locs kc ks (MQ below (va_Qi K (g_Pre lo dd cT) (g_A lo)) ([.ref a0, .int x1, .int x2, .int x3] : List Value).toArray s MC MS (g_A lo)) (F0 m 97 ls []) := by
    intro n97
    induction n97 with
    | zero =>
      intro G kc ks ba0 bx1 bx2 ba4 ba5 bx6 H locs hG ls hl h
      exact (show False from h).elim
    | succ n97 ih97 =>
      intro G kc ks ba0 bx1 bx2 ba4 ba5 bx6 H locs hG ls hl h
      rw [w_X10_write_L97] at h
      rcases ba4 with _ | ba4r
      · replace h := h.1 rfl
        refine lv_iload hx hb dX10_write_97 (lv_at hl 5 rfl) ?_
        refine lv_iload_n hx hb dX10_write_99 rfl (lv_at hl 2 rfl) ?_
        refine lv_icmp_ge (tgt := 126) hx hb dX10_write_100 (by decide) (fun c100 => ?_) (fun c100 => ?_)
        · rw [if_pos c100] at h
          refine lv_aloadN hx hb dX10_write_126 (lv_at hl 3 rfl) ?_
          refine lv_iload_n hx hb dX10_write_128 rfl (lv_at hl 1 rfl) ?_
          refine lv_aload hx hb dX10_write_129 (lv_at hl 4 rfl) ?_
          exact (show False from h).elim
        · rw [if_neg c100] at h
          refine lv_aload hx hb dX10_write_103 (lv_at hl 4 rfl) ?_
          obtain ⟨v105, e105, h⟩ := h
          refine g_getrN hx hb hts inlX13 hown hK hG (by rfl) 6 (by decide) (List.mem_of_getElem? (i := 40) rfl) e105 dX10_write_105 ?_
          refine lv_iload hx hb dX10_write_108 (lv_at hl 5 rfl) ?_
          refine lv_aload_n hx hb dX10_write_110 rfl (lv_at hl 0 rfl) ?_
          refine lv_iconst (v := (1 : Int32)) hx hb dX10_write_111 (by decide) ?_
          refine lv_aload hx hb dX10_write_112 (lv_at hl 4 rfl) ?_
          refine lv_iload hx hb dX10_write_114 (lv_at hl 5 rfl) ?_
          obtain ⟨C116, R116, d116, g116, h⟩ := h
          obtain ⟨u116, o116, h⟩ := h
          obtain ⟨y116, h⟩ := h
          obtain ⟨q116, e116, h⟩ := h
          rw [g116] at hG
          refine g_wVi (As := [.int (1 : Int32), .ref ba5, .int bx6]) (rest := [.int bx6, .ref v105]) (n := 3) hx hb hml hown hts hK hlo hG (g_frI d116 (fun lo => m_X10_burn_r l dd cT lo C116 ba0 (1 : Int32) ba5 bx6 e116) lo) qM_X10_131 qI_yX10_burn qS_X10_yX10_burn qN_X10 qC_yX10_burn (by decide +kernel) ⟨Nat.le_of_ble_eq_true rfl, Nat.le_of_ble_eq_true rfl⟩ (by rfl) (g_ob_gj o116) rfl hl.1 rfl (Nat.le_of_ble_eq_true rfl) dX10_write_116 y116 (fun v116x Gx H locs hKx hG => ?_)
          obtain ⟨D116, ⟨k116a, k116⟩, f116, l116⟩ := hKx
          rw [l116, k116] at hG
          rw [k116] at f116
          rw [k116a]
          obtain ⟨G116, i116⟩ : ∃ g : gH, g = gj q116.1 R116 := ⟨_, rfl⟩
          rw [← i116] at hG
          replace h := h G116 f116 i116
          obtain ⟨G119, e119, h⟩ := h
          refine g_iast hx hb hK hG e119 dX10_write_119 (fun H locs hG => ?_)
          refine lv_iinc (v := (bx6 + (1 : Int32))) (lv' := [(6, .int (bx6 + (1 : Int32))), (0, .ref ba0), (1, .int bx1), (2, .int bx2), (4, .null), (5, .ref ba5)]) hx hb dX10_write_120 hl (k := 5) rfl rfl (by decide) rfl (fun ls hl => ?_)
          refine lv_goto (tgt := 97) hx hb dX10_write_123 (by decide) ?_
          exact ih97 G119 kc ks ba0 bx1 bx2 none ba5 (bx6 + (1 : Int32)) _ _ hG _ (lv_sub hl [1, 2, 3, 4, 5, 0] rfl) h
      · replace h := h.2 ba4r rfl
        refine lv_iload hx hb dX10_write_97 (lv_at hl 5 rfl) ?_
        refine lv_iload_n hx hb dX10_write_99 rfl (lv_at hl 2 rfl) ?_
        refine lv_icmp_ge (tgt := 126) hx hb dX10_write_100 (by decide) (fun c100 => ?_) (fun c100 => ?_)
        · rw [if_pos c100] at h
          refine lv_aload hx hb dX10_write_126 (lv_at hl 3 rfl) ?_
          refine lv_iload_n hx hb dX10_write_128 rfl (lv_at hl 1 rfl) ?_
          refine lv_aload hx hb dX10_write_129 (lv_at hl 4 rfl) ?_
          obtain ⟨C131, R131, d131, g131, h⟩ := h
          obtain ⟨u131, o131, h⟩ := h
          obtain ⟨y131, h⟩ := h
          obtain ⟨q131, e131, h⟩ := h
          rw [g131] at hG
          refine g_wVv (As := [.int bx1, .ref ba5]) (rest := []) (n := 2) hx hb hml hown hts hK hlo hG (g_frV d131 (fun lo => m_X12_enter_r l dd cT lo C131 ba4r bx1 ba5 e131) lo) qM_X10_135 qI_yX12_enter qS_X12_yX12_enter qN_X12 qC_yX12_enter (by decide +kernel) ⟨Nat.le_of_ble_eq_true rfl, Nat.le_of_ble_eq_true rfl⟩ (by rfl) (g_ob_gj o131) rfl hl.1 rfl (Nat.le_of_ble_eq_true rfl) dX10_write_131 y131 (fun Gx H locs hKx hG => ?_)
          obtain ⟨D131, k131, f131, l131⟩ := hKx
          rw [l131, k131] at hG
          rw [k131] at f131
          obtain ⟨G131, i131⟩ : ∃ g : gH, g = gj q131 R131 := ⟨_, rfl⟩
          rw [← i131] at hG
          replace h := h G131 f131 i131
          refine lv_aload hx hb dX10_write_134 (lv_at hl 4 rfl) ?_
          obtain ⟨v136, e136, h⟩ := h
          refine g_getiN hx hb hts inlX13 hown hK hG (by rfl) 1 (by decide) (List.mem_of_getElem? (i := 35) rfl) e136 dX10_write_136 ?_
          obtain ⟨y1, y2, h⟩ := h
          refine W.widen (k := MC) (n := MS) y1 y2 ?_
          exact g_iret hx hb hr hlocks hK hlo hG h dX10_write_139
        · rw [if_neg c100] at h
          refine lv_aload hx hb dX10_write_103 (lv_at hl 4 rfl) ?_
          obtain ⟨v105, e105, h⟩ := h
          refine g_getrN hx hb hts inlX13 hown hK hG (by rfl) 6 (by decide) (List.mem_of_getElem? (i := 40) rfl) e105 dX10_write_105 ?_
          refine lv_iload hx hb dX10_write_108 (lv_at hl 5 rfl) ?_
          refine lv_aload_n hx hb dX10_write_110 rfl (lv_at hl 0 rfl) ?_
          refine lv_iconst (v := (1 : Int32)) hx hb dX10_write_111 (by decide) ?_
          refine lv_aload hx hb dX10_write_112 (lv_at hl 4 rfl) ?_
          refine lv_iload hx hb dX10_write_114 (lv_at hl 5 rfl) ?_
          obtain ⟨C116, R116, d116, g116, h⟩ := h
          obtain ⟨u116, o116, h⟩ := h
          obtain ⟨y116, h⟩ := h
          obtain ⟨q116, e116, h⟩ := h
          rw [g116] at hG
          refine g_wVi (As := [.int (1 : Int32), .ref ba5, .int bx6]) (rest := [.int bx6, .ref v105]) (n := 3) hx hb hml hown hts hK hlo hG (g_frI d116 (fun lo => m_X10_burn_r l dd cT lo C116 ba0 (1 : Int32) ba5 bx6 e116) lo) qM_X10_131 qI_yX10_burn qS_X10_yX10_burn qN_X10 qC_yX10_burn (by decide +kernel) ⟨Nat.le_of_ble_eq_true rfl, Nat.le_of_ble_eq_true rfl⟩ (by rfl) (g_ob_gj o116) rfl hl.1 rfl (Nat.le_of_ble_eq_true rfl) dX10_write_116 y116 (fun v116x Gx H locs hKx hG => ?_)
          obtain ⟨D116, ⟨k116a, k116⟩, f116, l116⟩ := hKx
          rw [l116, k116] at hG
          rw [k116] at f116
          rw [k116a]
          obtain ⟨G116, i116⟩ : ∃ g : gH, g = gj q116.1 R116 := ⟨_, rfl⟩
          rw [← i116] at hG
          replace h := h G116 f116 i116
          obtain ⟨G119, e119, h⟩ := h
          refine g_iast hx hb hK hG e119 dX10_write_119 (fun H locs hG => ?_)
          refine lv_iinc (v := (bx6 + (1 : Int32))) (lv' := [(6, .int (bx6 + (1 : Int32))), (0, .ref ba0), (1, .int bx1), (2, .int bx2), (4, .ref ba4r), (5, .ref ba5)]) hx hb dX10_write_120 hl (k := 5) rfl rfl (by decide) rfl (fun ls hl => ?_)
          refine lv_goto (tgt := 97) hx hb dX10_write_123 (by decide) ?_
          exact ih97 G119 kc ks ba0 bx1 bx2 (some ba4r) ba5 (bx6 + (1 : Int32)) _ _ hG _ (lv_sub hl [1, 2, 3, 4, 5, 0] rfl) h
  have h18 : ∀ (G : gH) (kc ks : Nat) (ba0 : Nat) (bx1 : Int32) (bx2 : Int32) (bx3 : Int32) (z0 : Option Nat) (H : Heap) (locs : List Loc), g_S lo dd cT s H locs G → ∀ ls : Array Slot, lv_has ls 7 [(0, .ref ba0), (1, .int bx1), (2, .int bx2), (3, .int bx3)] → w_X10_write_J18 MC MS K G kc ks ba0 bx1 bx2 bx3 z0 → W p l e (g_rm 3 81 MC MS) s m ([.ref a0, .int x1, .int x2, .int x3] : List Value).toArray below meth c H locs kc ks (MQ below (va_Qi K (g_Pre lo dd cT) (g_A lo)) ([.ref a0, .int x1, .int x2, .int x3] : List Value).toArray s MC MS (g_A lo)) (F0 m 18 ls [va_rf z0]) := by
    intro G kc ks ba0 bx1 bx2 bx3 z0 H locs hG ls hl h
    unfold w_X10_write_J18 at h
    rcases z0 with _ | z0r
    · replace h := h.1 rfl
      refine lv_astoreN (lv' := [(4, .null), (0, .ref ba0), (1, .int bx1), (2, .int bx2), (3, .int bx3)]) hx hb dX10_write_18 hl (by decide) rfl (fun ls hl => ?_)
      obtain ⟨y20, h⟩ := h
      refine g_new (ci := 13) (fs := [.int 0, .int 0, .int 0, .int 0, .int 0, .int 0, .null]) hx hb hts inlX13 tyX13 tyX13_ok hown hK hlo hG rfl qL_X10_32 qA_X13 qN_X13 (fun j hj => by rcases (show j = 0 ∨ j = 1 ∨ j = 2 ∨ j = 3 ∨ j = 4 ∨ j = 5 ∨ j = 6 by omega) with rfl | rfl | rfl | rfl | rfl | rfl | rfl <;> rfl) y20 dX10_write_20 (fun q20 H z20 hG => ?_)
      obtain ⟨G20, i20⟩ : ∃ g : gH, g = va_up G q20 (some (.inr (.inr (.inr (13, [.int 0, .int 0, .int 0, .int 0, .int 0, .int 0, .null]))))) := ⟨_, rfl⟩
      rw [← i20] at hG
      replace h := h q20 z20 G20 i20
      refine lv_dup hx hb dX10_write_23 rfl ?_
      obtain ⟨C24, R24, d24, g24, h⟩ := h
      obtain ⟨y24, h⟩ := h
      rw [g24] at hG
      refine g_wIL (b := q20) (As := []) (rest := [.ref q20]) (n := 0) hx hb hml hown hts hK hlo hG (g_frV d24 (fun lo => m_X13_init 1 8 l hfl dd cT lo C24 q20 h) lo) (List.mem_of_getElem? (i := 2) rfl) qI_yX13_init rfl qN_X13 qC_yX13_init (by decide +kernel) ⟨Nat.le_of_ble_eq_true rfl, Nat.le_of_ble_eq_true rfl⟩ rfl hl.1 rfl (Nat.le_of_ble_eq_true rfl) dX10_write_24 y24 (fun Gx H locs hKx hG => ?_)
      obtain ⟨D24, h, f24, rfl⟩ := hKx
      obtain ⟨G24, i24⟩ : ∃ g : gH, g = gj D24 R24 := ⟨_, rfl⟩
      rw [← i24] at hG
      replace h := h G24 f24 i24
      refine lv_astore (lv' := [(5, .ref q20), (4, .null), (0, .ref ba0), (1, .int bx1), (2, .int bx2), (3, .int bx3)]) hx hb dX10_write_27 hl (by decide) rfl (fun ls hl => ?_)
      refine lv_aload hx hb dX10_write_29 (lv_at hl 0 rfl) ?_
      refine lv_iload_n hx hb dX10_write_31 rfl (lv_at hl 3 rfl) ?_
      obtain ⟨G32, i32, h⟩ := h
      refine g_putvN hx hb hts inlX13 tyX13 tyX13_ok nmX13 hown hK hG (by rfl) 0 (by decide) (List.mem_of_getElem? (i := 34) rfl) rfl rfl rfl rfl i32 dX10_write_32 (fun H locs hG => ?_)
      refine lv_aload hx hb dX10_write_35 (lv_at hl 0 rfl) ?_
      refine lv_aload_n hx hb dX10_write_37 rfl (lv_at hl 2 rfl) ?_
      obtain ⟨v38, e38, h⟩ := h
      refine g_geti hx hb hts inlX10 hown hK hG (by rfl) 5 (by decide) qF_X10_114 e38 dX10_write_38 ?_
      obtain ⟨G41, i41, h⟩ := h
      refine g_putvN hx hb hts inlX13 tyX13 tyX13_ok nmX13 hown hK hG (by rfl) 1 (by decide) (List.mem_of_getElem? (i := 35) rfl) rfl rfl rfl rfl i41 dX10_write_41 (fun H locs hG => ?_)
      refine lv_aload hx hb dX10_write_44 (lv_at hl 0 rfl) ?_
      refine lv_aload_n hx hb dX10_write_46 rfl (lv_at hl 2 rfl) ?_
      obtain ⟨v47, e47, h⟩ := h
      refine g_geti hx hb hts inlX10 hown hK hG (by rfl) 3 (by decide) qF_X10_60 e47 dX10_write_47 ?_
      obtain ⟨G50, i50, h⟩ := h
      refine g_putvN hx hb hts inlX13 tyX13 tyX13_ok nmX13 hown hK hG (by rfl) 2 (by decide) (List.mem_of_getElem? (i := 36) rfl) rfl rfl rfl rfl i50 dX10_write_50 (fun H locs hG => ?_)
      refine lv_aload hx hb dX10_write_53 (lv_at hl 0 rfl) ?_
      refine lv_iload_n hx hb dX10_write_55 rfl (lv_at hl 4 rfl) ?_
      obtain ⟨G56, i56, h⟩ := h
      refine g_putvN hx hb hts inlX13 tyX13 tyX13_ok nmX13 hown hK hG (by rfl) 3 (by decide) (List.mem_of_getElem? (i := 37) rfl) rfl rfl rfl rfl i56 dX10_write_56 (fun H locs hG => ?_)
      refine lv_aload hx hb dX10_write_59 (lv_at hl 0 rfl) ?_
      refine lv_iload_n hx hb dX10_write_61 rfl (lv_at hl 5 rfl) ?_
      obtain ⟨G62, i62, h⟩ := h
      refine g_putvN hx hb hts inlX13 tyX13 tyX13_ok nmX13 hown hK hG (by rfl) 4 (by decide) (List.mem_of_getElem? (i := 38) rfl) rfl rfl rfl rfl i62 dX10_write_62 (fun H locs hG => ?_)
      refine lv_aload hx hb dX10_write_65 (lv_at hl 0 rfl) ?_
      refine lv_aload_n hx hb dX10_write_67 rfl (lv_at hl 2 rfl) ?_
      obtain ⟨v68, e68, h⟩ := h
      refine g_geti hx hb hts inlX10 hown hK hG (by rfl) 4 (by decide) qF_X10_54 e68 dX10_write_68 ?_
      refine lv_iconst (v := (1 : Int32)) hx hb dX10_write_71 (by decide) ?_
      refine lv_isub hx hb dX10_write_72 ?_
      obtain ⟨G73, i73, h⟩ := h
      refine g_putvN hx hb hts inlX13 tyX13 tyX13_ok nmX13 hown hK hG (by rfl) 5 (by decide) (List.mem_of_getElem? (i := 39) rfl) rfl rfl rfl rfl i73 dX10_write_73 (fun H locs hG => ?_)
      refine lv_aload_n hx hb dX10_write_76 rfl (lv_at hl 2 rfl) ?_
      obtain ⟨v77, e77, h⟩ := h
      refine g_getr hx hb hts inlX10 hown hK hG (by rfl) 15 (by decide) qF_X10_38 e77 dX10_write_77 ?_
      refine lv_aload_n hx hb dX10_write_80 rfl (lv_at hl 2 rfl) ?_
      refine lv_dup hx hb dX10_write_81 rfl ?_
      obtain ⟨v82, e82, h⟩ := h
      refine g_geti hx hb hts inlX10 hown hK hG (by rfl) 5 (by decide) qF_X10_114 e82 dX10_write_82 ?_
      refine lv_dup_x1 hx hb dX10_write_85 rfl rfl ?_
      refine lv_iconst (v := (1 : Int32)) hx hb dX10_write_86 (by decide) ?_
      refine lv_iadd hx hb dX10_write_87 ?_
      obtain ⟨G88, i88, h⟩ := h
      refine g_putv hx hb hts inlX10 tyX10 tyX10_ok nmX10 hown hK hG (by rfl) 5 (by decide) qF_X10_114 rfl rfl rfl rfl i88 dX10_write_88 (fun H locs hG => ?_)
      refine lv_aload hx hb dX10_write_91 (lv_at hl 0 rfl) ?_
      obtain ⟨u93, o93, h⟩ := h
      obtain ⟨G93, e93, h⟩ := h
      refine g_rast_row (t := 6) (ci := 13) hx hb hK hG rfl rfl o93 e93 dX10_write_93 (fun H locs hG => ?_)
      refine lv_iconst (v := (0 : Int32)) hx hb dX10_write_94 (by decide) ?_
      refine lv_istore (lv' := [(6, .int (0 : Int32)), (5, .ref q20), (4, .null), (0, .ref ba0), (1, .int bx1), (2, .int bx2), (3, .int bx3)]) hx hb dX10_write_95 hl (by decide) rfl (fun ls hl => ?_)
      exact h97 g_N G93 ((kc + 1) + 1) ((ks + 7) + 8) ba0 bx1 bx2 none q20 (0 : Int32) _ _ hG _ (lv_sub hl [3, 4, 5, 2, 1, 0] rfl) h
    · replace h := h.2 z0r rfl
      refine lv_astore (lv' := [(4, .ref z0r), (0, .ref ba0), (1, .int bx1), (2, .int bx2), (3, .int bx3)]) hx hb dX10_write_18 hl (by decide) rfl (fun ls hl => ?_)
      obtain ⟨y20, h⟩ := h
      refine g_new (ci := 13) (fs := [.int 0, .int 0, .int 0, .int 0, .int 0, .int 0, .null]) hx hb hts inlX13 tyX13 tyX13_ok hown hK hlo hG rfl qL_X10_32 qA_X13 qN_X13 (fun j hj => by rcases (show j = 0 ∨ j = 1 ∨ j = 2 ∨ j = 3 ∨ j = 4 ∨ j = 5 ∨ j = 6 by omega) with rfl | rfl | rfl | rfl | rfl | rfl | rfl <;> rfl) y20 dX10_write_20 (fun q20 H z20 hG => ?_)
      obtain ⟨G20, i20⟩ : ∃ g : gH, g = va_up G q20 (some (.inr (.inr (.inr (13, [.int 0, .int 0, .int 0, .int 0, .int 0, .int 0, .null]))))) := ⟨_, rfl⟩
      rw [← i20] at hG
      replace h := h q20 z20 G20 i20
      refine lv_dup hx hb dX10_write_23 rfl ?_
      obtain ⟨C24, R24, d24, g24, h⟩ := h
      obtain ⟨y24, h⟩ := h
      rw [g24] at hG
      refine g_wIL (b := q20) (As := []) (rest := [.ref q20]) (n := 0) hx hb hml hown hts hK hlo hG (g_frV d24 (fun lo => m_X13_init 1 8 l hfl dd cT lo C24 q20 h) lo) (List.mem_of_getElem? (i := 2) rfl) qI_yX13_init rfl qN_X13 qC_yX13_init (by decide +kernel) ⟨Nat.le_of_ble_eq_true rfl, Nat.le_of_ble_eq_true rfl⟩ rfl hl.1 rfl (Nat.le_of_ble_eq_true rfl) dX10_write_24 y24 (fun Gx H locs hKx hG => ?_)
      obtain ⟨D24, h, f24, rfl⟩ := hKx
      obtain ⟨G24, i24⟩ : ∃ g : gH, g = gj D24 R24 := ⟨_, rfl⟩
      rw [← i24] at hG
      replace h := h G24 f24 i24
      refine lv_astore (lv' := [(5, .ref q20), (4, .ref z0r), (0, .ref ba0), (1, .int bx1), (2, .int bx2), (3, .int bx3)]) hx hb dX10_write_27 hl (by decide) rfl (fun ls hl => ?_)
      refine lv_aload hx hb dX10_write_29 (lv_at hl 0 rfl) ?_
      refine lv_iload_n hx hb dX10_write_31 rfl (lv_at hl 3 rfl) ?_
      obtain ⟨G32, i32, h⟩ := h
      refine g_putvN hx hb hts inlX13 tyX13 tyX13_ok nmX13 hown hK hG (by rfl) 0 (by decide) (List.mem_of_getElem? (i := 34) rfl) rfl rfl rfl rfl i32 dX10_write_32 (fun H locs hG => ?_)
      refine lv_aload hx hb dX10_write_35 (lv_at hl 0 rfl) ?_
      refine lv_aload_n hx hb dX10_write_37 rfl (lv_at hl 2 rfl) ?_
      obtain ⟨v38, e38, h⟩ := h
      refine g_geti hx hb hts inlX10 hown hK hG (by rfl) 5 (by decide) qF_X10_114 e38 dX10_write_38 ?_
      obtain ⟨G41, i41, h⟩ := h
      refine g_putvN hx hb hts inlX13 tyX13 tyX13_ok nmX13 hown hK hG (by rfl) 1 (by decide) (List.mem_of_getElem? (i := 35) rfl) rfl rfl rfl rfl i41 dX10_write_41 (fun H locs hG => ?_)
      refine lv_aload hx hb dX10_write_44 (lv_at hl 0 rfl) ?_
      refine lv_aload_n hx hb dX10_write_46 rfl (lv_at hl 2 rfl) ?_
      obtain ⟨v47, e47, h⟩ := h
      refine g_geti hx hb hts inlX10 hown hK hG (by rfl) 3 (by decide) qF_X10_60 e47 dX10_write_47 ?_
      obtain ⟨G50, i50, h⟩ := h
      refine g_putvN hx hb hts inlX13 tyX13 tyX13_ok nmX13 hown hK hG (by rfl) 2 (by decide) (List.mem_of_getElem? (i := 36) rfl) rfl rfl rfl rfl i50 dX10_write_50 (fun H locs hG => ?_)
      refine lv_aload hx hb dX10_write_53 (lv_at hl 0 rfl) ?_
      refine lv_iload_n hx hb dX10_write_55 rfl (lv_at hl 4 rfl) ?_
      obtain ⟨G56, i56, h⟩ := h
      refine g_putvN hx hb hts inlX13 tyX13 tyX13_ok nmX13 hown hK hG (by rfl) 3 (by decide) (List.mem_of_getElem? (i := 37) rfl) rfl rfl rfl rfl i56 dX10_write_56 (fun H locs hG => ?_)
      refine lv_aload hx hb dX10_write_59 (lv_at hl 0 rfl) ?_
      refine lv_iload_n hx hb dX10_write_61 rfl (lv_at hl 5 rfl) ?_
      obtain ⟨G62, i62, h⟩ := h
      refine g_putvN hx hb hts inlX13 tyX13 tyX13_ok nmX13 hown hK hG (by rfl) 4 (by decide) (List.mem_of_getElem? (i := 38) rfl) rfl rfl rfl rfl i62 dX10_write_62 (fun H locs hG => ?_)
      refine lv_aload hx hb dX10_write_65 (lv_at hl 0 rfl) ?_
      refine lv_aload_n hx hb dX10_write_67 rfl (lv_at hl 2 rfl) ?_
      obtain ⟨v68, e68, h⟩ := h
      refine g_geti hx hb hts inlX10 hown hK hG (by rfl) 4 (by decide) qF_X10_54 e68 dX10_write_68 ?_
      refine lv_iconst (v := (1 : Int32)) hx hb dX10_write_71 (by decide) ?_
      refine lv_isub hx hb dX10_write_72 ?_
      obtain ⟨G73, i73, h⟩ := h
      refine g_putvN hx hb hts inlX13 tyX13 tyX13_ok nmX13 hown hK hG (by rfl) 5 (by decide) (List.mem_of_getElem? (i := 39) rfl) rfl rfl rfl rfl i73 dX10_write_73 (fun H locs hG => ?_)
      refine lv_aload_n hx hb dX10_write_76 rfl (lv_at hl 2 rfl) ?_
      obtain ⟨v77, e77, h⟩ := h
      refine g_getr hx hb hts inlX10 hown hK hG (by rfl) 15 (by decide) qF_X10_38 e77 dX10_write_77 ?_
      refine lv_aload_n hx hb dX10_write_80 rfl (lv_at hl 2 rfl) ?_
      refine lv_dup hx hb dX10_write_81 rfl ?_
      obtain ⟨v82, e82, h⟩ := h
      refine g_geti hx hb hts inlX10 hown hK hG (by rfl) 5 (by decide) qF_X10_114 e82 dX10_write_82 ?_
      refine lv_dup_x1 hx hb dX10_write_85 rfl rfl ?_
      refine lv_iconst (v := (1 : Int32)) hx hb dX10_write_86 (by decide) ?_
      refine lv_iadd hx hb dX10_write_87 ?_
      obtain ⟨G88, i88, h⟩ := h
      refine g_putv hx hb hts inlX10 tyX10 tyX10_ok nmX10 hown hK hG (by rfl) 5 (by decide) qF_X10_114 rfl rfl rfl rfl i88 dX10_write_88 (fun H locs hG => ?_)
      refine lv_aload hx hb dX10_write_91 (lv_at hl 0 rfl) ?_
      obtain ⟨u93, o93, h⟩ := h
      obtain ⟨G93, e93, h⟩ := h
      refine g_rast_row (t := 6) (ci := 13) hx hb hK hG rfl rfl o93 e93 dX10_write_93 (fun H locs hG => ?_)
      refine lv_iconst (v := (0 : Int32)) hx hb dX10_write_94 (by decide) ?_
      refine lv_istore (lv' := [(6, .int (0 : Int32)), (5, .ref q20), (4, .ref z0r), (0, .ref ba0), (1, .int bx1), (2, .int bx2), (3, .int bx3)]) hx hb dX10_write_95 hl (by decide) rfl (fun ls hl => ?_)
      exact h97 g_N G93 ((kc + 1) + 1) ((ks + 7) + 8) ba0 bx1 bx2 (some z0r) q20 (0 : Int32) _ _ hG _ (lv_sub hl [3, 4, 5, 2, 1, 0] rfl) h
  unfold w_X10_write at h
  refine lv_aload_n hx hb dX10_write_0 rfl (lv_at hl 0 rfl) ?_
  obtain ⟨C1, R1, d1, g1, h⟩ := h
  obtain ⟨u1, o1, h⟩ := h
  obtain ⟨y1, h⟩ := h
  obtain ⟨v1, e1, h⟩ := h
  rw [g1] at hG
  refine g_wVq (As := []) (rest := []) (n := 0) hx hb hml hown hts hK hlo hG (g_frQ d1 (fun lo => m_X10_open l dd cT lo C1 a0 e1) lo) qM_X10_75 qI_yX10_open qS_X10_yX10_open qN_X10 qC_yX10_open (by decide +kernel) ⟨Nat.le_of_ble_eq_true rfl, Nat.le_of_ble_eq_true rfl⟩ (by rfl) (g_ob_gj o1) rfl hl.1 rfl (Nat.le_of_ble_eq_true rfl) dX10_write_1 y1 (fun v1x Gx H locs hKx hG => ?_)
  obtain ⟨D1, ⟨k1a, k1⟩, f1, l1⟩ := hKx
  rw [l1, k1] at hG
  rw [k1] at f1
  rw [k1a]
  rw [← g1] at hG
  rcases v1 with _ | r1
  · replace h := h.1 rfl
    refine lv_ifnonnullN hx hb dX10_write_4 ?_
    refine lv_aload_n hx hb dX10_write_7 rfl (lv_at hl 0 rfl) ?_
    obtain ⟨C8, R8, d8, g8, h⟩ := h
    obtain ⟨u8, o8, h⟩ := h
    obtain ⟨y8, h⟩ := h
    rw [g8] at hG
    refine g_wVq (As := []) (rest := []) (n := 0) hx hb hml hown hts hK hlo hG (g_frQ d8 (fun lo => m_X10_begins 4 32 l hfl dd cT lo C8 a0 h) lo) qM_X10_107 qI_yX10_begins qS_X10_yX10_begins qN_X10 qC_yX10_begins (by decide +kernel) ⟨Nat.le_of_ble_eq_true rfl, Nat.le_of_ble_eq_true rfl⟩ (by rfl) (g_ob_gj o8) rfl hl.1 rfl (Nat.le_of_ble_eq_true rfl) dX10_write_8 y8 (fun v8x Gx H locs hKx hG => ?_)
    obtain ⟨D8, h, f8, rfl⟩ := hKx
    obtain ⟨G8, i8⟩ : ∃ g : gH, g = gj D8 R8 := ⟨_, rfl⟩
    rw [← i8] at hG
    replace h := h G8 f8 i8
    revert h
    generalize v8x = v8
    intro h
    rcases v8 with _ | r8
    · replace h := h.1 rfl
      refine lv_goto (tgt := 18) hx hb dX10_write_11 (by decide) ?_
      exact h18 G8 (0 + 4) (0 + 32) a0 x1 x2 x3 none _ _ hG _ (lv_sub hl [0, 1, 2, 3] rfl) h
    · replace h := h.2 r8 rfl
      refine lv_goto (tgt := 18) hx hb dX10_write_11 (by decide) ?_
      exact h18 G8 (0 + 4) (0 + 32) a0 x1 x2 x3 (some r8) _ _ hG _ (lv_sub hl [0, 1, 2, 3] rfl) h
  · replace h := h.2 r1 rfl
    refine lv_ifnonnull (tgt := 14) hx hb dX10_write_4 (by decide) ?_
    refine lv_aload_n hx hb dX10_write_14 rfl (lv_at hl 0 rfl) ?_
    obtain ⟨C15, R15, d15, g15, h⟩ := h
    obtain ⟨u15, o15, h⟩ := h
    obtain ⟨y15, h⟩ := h
    obtain ⟨v15, e15, h⟩ := h
    rw [g15] at hG
    refine g_wVq (As := []) (rest := []) (n := 0) hx hb hml hown hts hK hlo hG (g_frQ d15 (fun lo => m_X10_open l dd cT lo C15 a0 e15) lo) qM_X10_75 qI_yX10_open qS_X10_yX10_open qN_X10 qC_yX10_open (by decide +kernel) ⟨Nat.le_of_ble_eq_true rfl, Nat.le_of_ble_eq_true rfl⟩ (by rfl) (g_ob_gj o15) rfl hl.1 rfl (Nat.le_of_ble_eq_true rfl) dX10_write_15 y15 (fun v15x Gx H locs hKx hG => ?_)
    obtain ⟨D15, ⟨k15a, k15⟩, f15, l15⟩ := hKx
    rw [l15, k15] at hG
    rw [k15] at f15
    rw [k15a]
    rw [← g15] at hG
    rcases v15 with _ | r15
    · replace h := h.1 rfl
      exact h18 G 0 0 a0 x1 x2 x3 none _ _ hG _ (lv_sub hl [0, 1, 2, 3] rfl) h
    · replace h := h.2 r15 rfl
      exact h18 G 0 0 a0 x1 x2 x3 (some r15) _ _ hG _ (lv_sub hl [0, 1, 2, 3] rfl) h
set_option maxRecDepth 20000 in
set_option maxHeartbeats 4000000 in
theorem m_X10_erase (MC MS : Nat) (l : Launch) (hfl : l.stackTraces = false) (dd : va_G) (cT : Nat → ClassId) (lo : Nat → Prop) (G : gH) (a0 : Nat) (x1 : Int32) {K : gH → Prop} (h : w_X10_erase MC MS G a0 x1 K) : Met l yX10_erase (Cond.code yX10_erase cX10_erase 2 none :: wsL_law) (g_rm 3 81 MC MS) (va_Pc [.ref a0, .int x1] (g_Pre lo dd cT G)) (va_Qv K (g_Pre lo dd cT) (g_A lo)) MC MS (g_A lo) := by
  refine g_start RX10 rfl (by decide) (Nat.le_of_ble_eq_true rfl) ?_
  intro p e s m below meth c hx hb hr hlocks hml hown hnm hts hK hG hlo ls hl
  have hl : lv_has ls 2 [(0, .ref a0), (1, .int x1)] := hl
  have hG : g_S lo dd cT s s.heap [] G := hG
  unfold w_X10_erase at h
  refine lv_aload_n hx hb dX10_erase_0 rfl (lv_at hl 0 rfl) ?_
  obtain ⟨C1, R1, d1, g1, h⟩ := h
  obtain ⟨u1, o1, h⟩ := h
  obtain ⟨y1, h⟩ := h
  obtain ⟨v1, e1, h⟩ := h
  rw [g1] at hG
  refine g_wVq (As := []) (rest := []) (n := 0) hx hb hml hown hts hK hlo hG (g_frQ d1 (fun lo => m_X10_open l dd cT lo C1 a0 e1) lo) qM_X10_75 qI_yX10_open qS_X10_yX10_open qN_X10 qC_yX10_open (by decide +kernel) ⟨Nat.le_of_ble_eq_true rfl, Nat.le_of_ble_eq_true rfl⟩ (by rfl) (g_ob_gj o1) rfl hl.1 rfl (Nat.le_of_ble_eq_true rfl) dX10_erase_1 y1 (fun v1x Gx H locs hKx hG => ?_)
  obtain ⟨D1, ⟨k1a, k1⟩, f1, l1⟩ := hKx
  rw [l1, k1] at hG
  rw [k1] at f1
  rw [k1a]
  rw [← g1] at hG
  rcases v1 with _ | r1
  · replace h := h.1 rfl
    refine lv_ifnonnullN hx hb dX10_erase_4 ?_
    refine lv_aload_n hx hb dX10_erase_7 rfl (lv_at hl 0 rfl) ?_
    obtain ⟨C8, R8, d8, g8, h⟩ := h
    obtain ⟨u8, o8, h⟩ := h
    obtain ⟨y8, h⟩ := h
    rw [g8] at hG
    refine g_wVq (As := []) (rest := []) (n := 0) hx hb hml hown hts hK hlo hG (g_frQ d8 (fun lo => m_X10_begins 4 32 l hfl dd cT lo C8 a0 h) lo) qM_X10_107 qI_yX10_begins qS_X10_yX10_begins qN_X10 qC_yX10_begins (by decide +kernel) ⟨Nat.le_of_ble_eq_true rfl, Nat.le_of_ble_eq_true rfl⟩ (by rfl) (g_ob_gj o8) rfl hl.1 rfl (Nat.le_of_ble_eq_true rfl) dX10_erase_8 y8 (fun v8x Gx H locs hKx hG => ?_)
    obtain ⟨D8, h, f8, rfl⟩ := hKx
    obtain ⟨G8, i8⟩ : ∃ g : gH, g = gj D8 R8 := ⟨_, rfl⟩
    rw [← i8] at hG
    replace h := h G8 f8 i8
    revert h
    generalize v8x = v8
    intro h
    rcases v8 with _ | r8
    · replace h := h.1 rfl
      refine lv_goto (tgt := 18) hx hb dX10_erase_11 (by decide) ?_
      refine lv_iload_n hx hb dX10_erase_18 rfl (lv_at hl 1 rfl) ?_
      refine lv_null hx hb dX10_erase_19 ?_
      exact (show False from h).elim
    · replace h := h.2 r8 rfl
      refine lv_goto (tgt := 18) hx hb dX10_erase_11 (by decide) ?_
      refine lv_iload_n hx hb dX10_erase_18 rfl (lv_at hl 1 rfl) ?_
      refine lv_null hx hb dX10_erase_19 ?_
      obtain ⟨C20, R20, d20, g20, h⟩ := h
      obtain ⟨u20, o20, h⟩ := h
      obtain ⟨y20, h⟩ := h
      obtain ⟨q20, e20, h⟩ := h
      rw [g20] at hG
      refine g_wVv (As := [.int x1, .null]) (rest := []) (n := 2) hx hb hml hown hts hK hlo hG (g_frV d20 (fun lo => m_X12_enter_n l dd cT lo C20 r8 x1 e20) lo) qM_X10_135 qI_yX12_enter qS_X12_yX12_enter qN_X12 qC_yX12_enter (by decide +kernel) ⟨Nat.le_of_ble_eq_true rfl, Nat.le_of_ble_eq_true rfl⟩ (by rfl) (g_ob_gj o20) rfl hl.1 rfl (Nat.le_of_ble_eq_true rfl) dX10_erase_20 y20 (fun Gx H locs hKx hG => ?_)
      obtain ⟨D20, k20, f20, l20⟩ := hKx
      rw [l20, k20] at hG
      rw [k20] at f20
      obtain ⟨G20, i20⟩ : ∃ g : gH, g = gj q20 R20 := ⟨_, rfl⟩
      rw [← i20] at hG
      replace h := h G20 f20 i20
      obtain ⟨y1, y2, h⟩ := h
      refine W.widen (k := MC) (n := MS) y1 y2 ?_
      exact g_vret hx hb hr hlocks hK hlo hG h dX10_erase_23
  · replace h := h.2 r1 rfl
    refine lv_ifnonnull (tgt := 14) hx hb dX10_erase_4 (by decide) ?_
    refine lv_aload_n hx hb dX10_erase_14 rfl (lv_at hl 0 rfl) ?_
    obtain ⟨C15, R15, d15, g15, h⟩ := h
    obtain ⟨u15, o15, h⟩ := h
    obtain ⟨y15, h⟩ := h
    obtain ⟨v15, e15, h⟩ := h
    rw [g15] at hG
    refine g_wVq (As := []) (rest := []) (n := 0) hx hb hml hown hts hK hlo hG (g_frQ d15 (fun lo => m_X10_open l dd cT lo C15 a0 e15) lo) qM_X10_75 qI_yX10_open qS_X10_yX10_open qN_X10 qC_yX10_open (by decide +kernel) ⟨Nat.le_of_ble_eq_true rfl, Nat.le_of_ble_eq_true rfl⟩ (by rfl) (g_ob_gj o15) rfl hl.1 rfl (Nat.le_of_ble_eq_true rfl) dX10_erase_15 y15 (fun v15x Gx H locs hKx hG => ?_)
    obtain ⟨D15, ⟨k15a, k15⟩, f15, l15⟩ := hKx
    rw [l15, k15] at hG
    rw [k15] at f15
    rw [k15a]
    rw [← g15] at hG
    rcases v15 with _ | r15
    · replace h := h.1 rfl
      refine lv_iload_n hx hb dX10_erase_18 rfl (lv_at hl 1 rfl) ?_
      refine lv_null hx hb dX10_erase_19 ?_
      exact (show False from h).elim
    · replace h := h.2 r15 rfl
      refine lv_iload_n hx hb dX10_erase_18 rfl (lv_at hl 1 rfl) ?_
      refine lv_null hx hb dX10_erase_19 ?_
      obtain ⟨C20, R20, d20, g20, h⟩ := h
      obtain ⟨u20, o20, h⟩ := h
      obtain ⟨y20, h⟩ := h
      obtain ⟨q20, e20, h⟩ := h
      rw [g20] at hG
      refine g_wVv (As := [.int x1, .null]) (rest := []) (n := 2) hx hb hml hown hts hK hlo hG (g_frV d20 (fun lo => m_X12_enter_n l dd cT lo C20 r15 x1 e20) lo) qM_X10_135 qI_yX12_enter qS_X12_yX12_enter qN_X12 qC_yX12_enter (by decide +kernel) ⟨Nat.le_of_ble_eq_true rfl, Nat.le_of_ble_eq_true rfl⟩ (by rfl) (g_ob_gj o20) rfl hl.1 rfl (Nat.le_of_ble_eq_true rfl) dX10_erase_20 y20 (fun Gx H locs hKx hG => ?_)
      obtain ⟨D20, k20, f20, l20⟩ := hKx
      rw [l20, k20] at hG
      rw [k20] at f20
      obtain ⟨G20, i20⟩ : ∃ g : gH, g = gj q20 R20 := ⟨_, rfl⟩
      rw [← i20] at hG
      replace h := h G20 f20 i20
      obtain ⟨y1, y2, h⟩ := h
      refine W.widen (k := MC) (n := MS) y1 y2 ?_
      exact g_vret hx hb hr hlocks hK hlo hG h dX10_erase_23

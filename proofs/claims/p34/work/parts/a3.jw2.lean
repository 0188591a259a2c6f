/-! By program (wip/p34/tools/jlift.py). -/
set_option maxRecDepth 20000 in
set_option maxHeartbeats 4000000 in
theorem m_J5_append_c97b9 (MC MS : Nat) (l : Launch) (hfl : l.stackTraces = false) (dd : va_G) (cT : Nat → ClassId) (lo : Nat → Prop) (G : gH) (a0 : Nat) (x1 : Int32) {K : Option Nat → gH → Prop} (h : w_J5_append_c97b9 MC MS G a0 x1 K) : Met l yJ5_append_c97b9 (Cond.code yJ5_append_c97b9 cJ5_append_c97b9 4 (some (.object "java/lang/AbstractStringBuilder")) :: wsL_law) (g_rm 4 110 MC MS) (va_Pc [.ref a0, .int x1] (g_Pre lo dd cT G)) (va_Qq K (g_Pre lo dd cT) (g_A lo)) MC MS (g_A lo) := by
  refine g_start RJ5 rfl (by decide) (Nat.le_of_ble_eq_true rfl) ?_
  intro p e s m below meth c hx hb hr hlocks hml hown hnm hts hK hG hlo ls hl
  have hl : lv_has ls 4 [(0, .ref a0), (1, .int x1)] := hl
  have hG : g_S lo dd cT s s.heap [] G := hG
  unfold w_J5_append_c97b9 at h
  refine lv_aload_n hx hb dJ5_append_c97b9_0 rfl (lv_at hl 0 rfl) ?_
  obtain ⟨v1, e1, h⟩ := h
  refine g_geti hx hb hts inlJ4 hown hK hG (by rfl) 3 (by decide) qF_J5_79 e1 dJ5_append_c97b9_1 ?_
  refine lv_istore_n (lv' := [(2, .int v1), (0, .ref a0), (1, .int x1)]) hx hb dJ5_append_c97b9_4 rfl hl (by decide) rfl (fun ls hl => ?_)
  refine lv_iload_n hx hb dJ5_append_c97b9_5 rfl (lv_at hl 0 rfl) ?_
  refine lv_iload_n hx hb dJ5_append_c97b9_6 rfl (lv_at hl 2 rfl) ?_
  obtain ⟨C7, R7, d7, g7, h⟩ := h
  obtain ⟨y7, h⟩ := h
  obtain ⟨v7, e7, h⟩ := h
  rw [g7] at hG
  refine g_wAi (As := [.int x1]) (rest := [.int v1]) (n := 1) hx hb hml hown hts hK hlo hG (g_frI d7 (fun lo => m_J6_stringSize_0f7a4 l dd cT lo C7 x1 e7) lo) qM_J5_245 qT_yJ6_stringSize_0f7a4 qN_J6 qC_yJ6_stringSize_0f7a4 (by decide +kernel) ⟨Nat.le_of_ble_eq_true rfl, Nat.le_of_ble_eq_true rfl⟩ rfl hl.1 rfl (Nat.le_of_ble_eq_true rfl) dJ5_append_c97b9_7 y7 (fun v7x Gx H locs hKx hG => ?_)
  obtain ⟨D7, ⟨k7a, k7⟩, f7, l7⟩ := hKx
  rw [l7, k7] at hG
  rw [k7] at f7
  rw [k7a]
  rw [← g7] at hG
  refine lv_iadd hx hb dJ5_append_c97b9_10 ?_
  refine lv_istore_n (lv' := [(3, .int (v1 + v7)), (2, .int v1), (0, .ref a0), (1, .int x1)]) hx hb dJ5_append_c97b9_11 rfl hl (by decide) rfl (fun ls hl => ?_)
  refine lv_aload_n hx hb dJ5_append_c97b9_12 rfl (lv_at hl 2 rfl) ?_
  refine lv_iload_n hx hb dJ5_append_c97b9_13 rfl (lv_at hl 0 rfl) ?_
  obtain ⟨C14, R14, d14, g14, h⟩ := h
  obtain ⟨u14, o14, h⟩ := h
  obtain ⟨y14, h⟩ := h
  rw [g14] at hG
  refine g_wUv (As := [.int (v1 + v7)]) (rest := []) (n := 1) (owner := RJ5) hx hb hml hown hts hK hlo hG (g_frV d14 (fun lo => m_J5_ensureCapacityInternal_d00df 1 1000 l hfl dd cT lo C14 a0 (v1 + v7) h) lo) qM_J5_100 qW_sameMethod__java_lang_AbstractStringBuilder_java_lang_AbstractStringBuilder_ensureCapacityInternal_I_V_ qS_J4_ensureCapacityInternal__I_V qI_yJ5_ensureCapacityInternal_d00df qN_J5 qC_yJ5_ensureCapacityInternal_d00df rfl (by decide +kernel) ⟨Nat.le_of_ble_eq_true rfl, Nat.le_of_ble_eq_true rfl⟩ (by rfl) (g_ob_gj o14) rfl hl.1 rfl (Nat.le_of_ble_eq_true rfl) dJ5_append_c97b9_14 y14 (fun Gx H locs hKx hG => ?_)
  obtain ⟨D14, h, f14, rfl⟩ := hKx
  obtain ⟨G14, i14⟩ : ∃ g : gH, g = gj D14 R14 := ⟨_, rfl⟩
  rw [← i14] at hG
  replace h := h G14 f14 i14
  refine lv_aload_n hx hb dJ5_append_c97b9_17 rfl (lv_at hl 2 rfl) ?_
  obtain ⟨C18, R18, d18, g18, h⟩ := h
  obtain ⟨u18, o18, h⟩ := h
  obtain ⟨y18, h⟩ := h
  obtain ⟨v18, e18, h⟩ := h
  rw [g18] at hG
  refine g_wUi (As := []) (rest := []) (n := 0) (owner := RJ5) hx hb hml hown hts hK hlo hG (g_frI d18 (fun lo => m_J5_isLatin1_aae02 l dd cT lo C18 a0 e18) lo) qM_J5_83 qW_sameMethod__java_lang_AbstractStringBuilder_java_lang_AbstractStringBuilder_isLatin1_Z_ qS_J4_isLatin1___Z qI_yJ5_isLatin1_aae02 qN_J5 qC_yJ5_isLatin1_aae02 rfl (by decide +kernel) ⟨Nat.le_of_ble_eq_true rfl, Nat.le_of_ble_eq_true rfl⟩ (by rfl) (g_ob_gj o18) rfl hl.1 rfl (Nat.le_of_ble_eq_true rfl) dJ5_append_c97b9_18 y18 (fun v18x Gx H locs hKx hG => ?_)
  obtain ⟨D18, ⟨k18a, k18⟩, f18, l18⟩ := hKx
  rw [l18, k18] at hG
  rw [k18] at f18
  rw [k18a]
  rw [← g18] at hG
  refine lv_if_eq (tgt := 37) hx hb dJ5_append_c97b9_21 (by first | decide | rfl) (fun c21 => ?_) (fun c21 => ?_)
  · rw [if_pos c21] at h
    exact (show False from h).elim
  · rw [if_neg c21] at h
    refine lv_iload_n hx hb dJ5_append_c97b9_24 rfl (lv_at hl 3 rfl) ?_
    refine lv_iload_n hx hb dJ5_append_c97b9_25 rfl (lv_at hl 0 rfl) ?_
    refine lv_aload_n hx hb dJ5_append_c97b9_26 rfl (lv_at hl 2 rfl) ?_
    obtain ⟨v27, e27, h⟩ := h
    refine g_getr hx hb hts inlJ4 hown hK hG (by rfl) 0 (by decide) qF_J5_15 e27 dJ5_append_c97b9_27 ?_
    obtain ⟨C30, R30, d30, g30, h⟩ := h
    obtain ⟨y30, h⟩ := h
    obtain ⟨q30, e30, h⟩ := h
    rw [g30] at hG
    refine g_wAi (As := [.int x1, .int (v1 + v7), .ref v27]) (rest := []) (n := 3) hx hb hml hown hts hK hlo hG (g_frI d30 (fun lo => m_J6_getChars_ba4f3 l dd cT lo C30 x1 (v1 + v7) v27 e30) lo) qM_J5_248 qT_yJ6_getChars_ba4f3 qN_J6 qC_yJ6_getChars_ba4f3 (by decide +kernel) ⟨Nat.le_of_ble_eq_true rfl, Nat.le_of_ble_eq_true rfl⟩ rfl hl.1 rfl (Nat.le_of_ble_eq_true rfl) dJ5_append_c97b9_30 y30 (fun v30x Gx H locs hKx hG => ?_)
    obtain ⟨D30, ⟨k30a, k30⟩, f30, l30⟩ := hKx
    rw [l30, k30] at hG
    rw [k30] at f30
    rw [k30a]
    obtain ⟨G30, i30⟩ : ∃ g : gH, g = gj q30.1 R30 := ⟨_, rfl⟩
    rw [← i30] at hG
    replace h := h G30 f30 i30
    refine lv_pop hx hb dJ5_append_c97b9_33 rfl ?_
    refine lv_goto (tgt := 48) hx hb dJ5_append_c97b9_34 (by first | decide | rfl) ?_
    refine lv_aload_n hx hb dJ5_append_c97b9_48 rfl (lv_at hl 2 rfl) ?_
    refine lv_iload_n hx hb dJ5_append_c97b9_49 rfl (lv_at hl 0 rfl) ?_
    obtain ⟨G50, i50, h⟩ := h
    refine g_putv hx hb hts inlJ4 tyJ4 tyJ4_ok nmJ4 hown hK hG (by rfl) 3 (by decide) qF_J5_79 rfl rfl rfl rfl i50 dJ5_append_c97b9_50 (fun H locs hG => ?_)
    refine lv_aload_n hx hb dJ5_append_c97b9_53 rfl (lv_at hl 2 rfl) ?_
    obtain ⟨y1, y2, h⟩ := h
    refine W.widen (k := MC) (n := MS) y1 y2 ?_
    exact g_qret (r := some a0) hx hb hr (Or.inl ⟨_, rfl⟩) hlocks hK hlo hG h dJ5_append_c97b9_54
set_option maxRecDepth 20000 in
set_option maxHeartbeats 4000000 in
theorem m_J4_append_15ec4_A (MC MS : Nat) (l : Launch) (hfl : l.stackTraces = false) (dd : va_G) (cT : Nat → ClassId) (lo : Nat → Prop) (G : gH) (a0 : Nat) (a1 : Nat) {K : Option Nat → gH → Prop} (h : w_J4_append_15ec4_A MC MS G a0 a1 K) : Met l yJ4_append_15ec4 (Cond.code yJ4_append_15ec4 cJ4_append_15ec4 2 (some (.object "java/lang/StringBuilder")) :: wsL_law) (g_rm 5 132 MC MS) (va_Pc [.ref a0, .ref a1] (g_Pre lo dd cT G)) (va_Qq K (g_Pre lo dd cT) (g_A lo)) MC MS (g_A lo) := by
  refine g_start RJ4 rfl (by decide) (Nat.le_of_ble_eq_true rfl) ?_
  intro p e s m below meth c hx hb hr hlocks hml hown hnm hts hK hG hlo ls hl
  have hl : lv_has ls 2 [(0, .ref a0), (1, .ref a1)] := hl
  have hG : g_S lo dd cT s s.heap [] G := hG
  unfold w_J4_append_15ec4_A at h
  refine lv_aload_n hx hb dJ4_append_15ec4_0 rfl (lv_at hl 0 rfl) ?_
  refine lv_aload_n hx hb dJ4_append_15ec4_1 rfl (lv_at hl 1 rfl) ?_
  obtain ⟨C2, R2, d2, g2, h⟩ := h
  obtain ⟨u2, o2, h⟩ := h
  obtain ⟨y2, h⟩ := h
  rw [g2] at hG
  refine g_wSUq (As := [.ref a1]) (rest := []) (n := 1) hx hb hml hown hts hK hlo hG (g_frQ d2 (fun lo => m_J5_append_cf1ce_A 1 1000 l hfl dd cT lo C2 a0 a1 h) lo) qM_J4_29 qW_sameMethod__java_lang_AbstractStringBuilder_java_lang_AbstractStringBuilder_append_Ljava_lang_String_Ljava_lang_AbstractStringBuilder_ qW_superclass__RJ4_RJ5 qI_yJ5_append_cf1ce qN_J5 qC_yJ5_append_cf1ce (by decide +kernel) ⟨Nat.le_of_ble_eq_true rfl, Nat.le_of_ble_eq_true rfl⟩ (by rfl) (g_ob_gj o2) rfl hl.1 rfl (Nat.le_of_ble_eq_true rfl) dJ4_append_15ec4_2 y2 (fun v2x Gx H locs hKx hG => ?_)
  obtain ⟨D2, h, f2, rfl⟩ := hKx
  obtain ⟨G2, i2⟩ : ∃ g : gH, g = gj D2 R2 := ⟨_, rfl⟩
  rw [← i2] at hG
  replace h := h G2 f2 i2
  revert h
  generalize v2x = v2
  intro h
  obtain ⟨r2, rfl, h⟩ := h
  refine lv_pop hx hb dJ4_append_15ec4_5 rfl ?_
  refine lv_aload_n hx hb dJ4_append_15ec4_6 rfl (lv_at hl 0 rfl) ?_
  obtain ⟨y1, y2, h⟩ := h
  refine W.widen (k := MC) (n := MS) y1 y2 ?_
  exact g_qret (r := some a0) hx hb hr (Or.inl ⟨_, rfl⟩) hlocks hK hlo hG h dJ4_append_15ec4_7
set_option maxRecDepth 20000 in
set_option maxHeartbeats 4000000 in
theorem m_J4_append_15ec4_U (MC MS : Nat) (l : Launch) (hfl : l.stackTraces = false) (dd : va_G) (cT : Nat → ClassId) (lo : Nat → Prop) (G : gH) (a0 : Nat) (x1 : Nat) {K : Option Nat → gH → Prop} (h : w_J4_append_15ec4_U MC MS G a0 x1 K) : Met l yJ4_append_15ec4 (Cond.code yJ4_append_15ec4 cJ4_append_15ec4 2 (some (.object "java/lang/StringBuilder")) :: wsL_law) (g_rm 5 132 MC MS) (va_Pc [.ref a0, .ref (dd.2 102 x1)] (g_Pre lo dd cT G)) (va_Qq K (g_Pre lo dd cT) (g_A lo)) MC MS (g_A lo) := by
  refine g_start RJ4 rfl (by decide) (Nat.le_of_ble_eq_true rfl) ?_
  intro p e s m below meth c hx hb hr hlocks hml hown hnm hts hK hG hlo ls hl
  have hl : lv_has ls 2 [(0, .ref a0), (1, .ref (dd.2 102 x1))] := hl
  have hG : g_S lo dd cT s s.heap [] G := hG
  unfold w_J4_append_15ec4_U at h
  refine lv_aload_n hx hb dJ4_append_15ec4_0 rfl (lv_at hl 0 rfl) ?_
  refine lv_aload_n hx hb dJ4_append_15ec4_1 rfl (lv_at hl 1 rfl) ?_
  obtain ⟨C2, R2, d2, g2, h⟩ := h
  obtain ⟨u2, o2, h⟩ := h
  obtain ⟨y2, h⟩ := h
  rw [g2] at hG
  refine g_wSUq (As := [.ref (dd.2 102 x1)]) (rest := []) (n := 1) hx hb hml hown hts hK hlo hG (g_frQ d2 (fun lo => m_J5_append_cf1ce_U 1 1000 l hfl dd cT lo C2 a0 x1 h) lo) qM_J4_29 qW_sameMethod__java_lang_AbstractStringBuilder_java_lang_AbstractStringBuilder_append_Ljava_lang_String_Ljava_lang_AbstractStringBuilder_ qW_superclass__RJ4_RJ5 qI_yJ5_append_cf1ce qN_J5 qC_yJ5_append_cf1ce (by decide +kernel) ⟨Nat.le_of_ble_eq_true rfl, Nat.le_of_ble_eq_true rfl⟩ (by rfl) (g_ob_gj o2) rfl hl.1 rfl (Nat.le_of_ble_eq_true rfl) dJ4_append_15ec4_2 y2 (fun v2x Gx H locs hKx hG => ?_)
  obtain ⟨D2, h, f2, rfl⟩ := hKx
  obtain ⟨G2, i2⟩ : ∃ g : gH, g = gj D2 R2 := ⟨_, rfl⟩
  rw [← i2] at hG
  replace h := h G2 f2 i2
  revert h
  generalize v2x = v2
  intro h
  obtain ⟨r2, rfl, h⟩ := h
  refine lv_pop hx hb dJ4_append_15ec4_5 rfl ?_
  refine lv_aload_n hx hb dJ4_append_15ec4_6 rfl (lv_at hl 0 rfl) ?_
  obtain ⟨y1, y2, h⟩ := h
  refine W.widen (k := MC) (n := MS) y1 y2 ?_
  exact g_qret (r := some a0) hx hb hr (Or.inl ⟨_, rfl⟩) hlocks hK hlo hG h dJ4_append_15ec4_7
set_option maxRecDepth 20000 in
set_option maxHeartbeats 4000000 in
theorem m_J4_append_cf1ce_A (MC MS : Nat) (l : Launch) (hfl : l.stackTraces = false) (dd : va_G) (cT : Nat → ClassId) (lo : Nat → Prop) (G : gH) (a0 : Nat) (a1 : Nat) {K : Option Nat → gH → Prop} (h : w_J4_append_cf1ce_A MC MS G a0 a1 K) : Met l yJ4_append_cf1ce (Cond.code yJ4_append_cf1ce cJ4_append_cf1ce 2 (some (.object "java/lang/AbstractStringBuilder")) :: wsL_law) (g_rm 6 153 MC MS) (va_Pc [.ref a0, .ref a1] (g_Pre lo dd cT G)) (va_Qq K (g_Pre lo dd cT) (g_A lo)) MC MS (g_A lo) := by
  refine g_start RJ4 rfl (by decide) (Nat.le_of_ble_eq_true rfl) ?_
  intro p e s m below meth c hx hb hr hlocks hml hown hnm hts hK hG hlo ls hl
  have hl : lv_has ls 2 [(0, .ref a0), (1, .ref a1)] := hl
  have hG : g_S lo dd cT s s.heap [] G := hG
  unfold w_J4_append_cf1ce_A at h
  refine lv_aload_n hx hb dJ4_append_cf1ce_0 rfl (lv_at hl 0 rfl) ?_
  refine lv_aload_n hx hb dJ4_append_cf1ce_1 rfl (lv_at hl 1 rfl) ?_
  obtain ⟨C2, R2, d2, g2, h⟩ := h
  obtain ⟨u2, o2, h⟩ := h
  obtain ⟨y2, h⟩ := h
  rw [g2] at hG
  refine g_wVq (As := [.ref a1]) (rest := []) (n := 1) hx hb hml hown hts hK hlo hG (g_frQ d2 (fun lo => m_J4_append_15ec4_A 1 1000 l hfl dd cT lo C2 a0 a1 h) lo) qM_J4_23 qI_yJ4_append_15ec4 qS_J4_yJ4_append_15ec4 qN_J4 qC_yJ4_append_15ec4 (by decide +kernel) ⟨Nat.le_of_ble_eq_true rfl, Nat.le_of_ble_eq_true rfl⟩ (by rfl) (g_ob_gj o2) rfl hl.1 rfl (Nat.le_of_ble_eq_true rfl) dJ4_append_cf1ce_2 y2 (fun v2x Gx H locs hKx hG => ?_)
  obtain ⟨D2, h, f2, rfl⟩ := hKx
  obtain ⟨G2, i2⟩ : ∃ g : gH, g = gj D2 R2 := ⟨_, rfl⟩
  rw [← i2] at hG
  replace h := h G2 f2 i2
  revert h
  generalize v2x = v2
  intro h
  obtain ⟨r2, rfl, h⟩ := h
  obtain ⟨y1, y2, h⟩ := h
  refine W.widen (k := MC) (n := MS) y1 y2 ?_
  exact g_qret (r := some r2) hx hb hr (Or.inl ⟨_, rfl⟩) hlocks hK hlo hG h dJ4_append_cf1ce_5
set_option maxRecDepth 20000 in
set_option maxHeartbeats 4000000 in
theorem m_J4_append_cf468 (MC MS : Nat) (l : Launch) (hfl : l.stackTraces = false) (dd : va_G) (cT : Nat → ClassId) (lo : Nat → Prop) (G : gH) (a0 : Nat) (x1 : Int32) {K : Option Nat → gH → Prop} (h : w_J4_append_cf468 MC MS G a0 x1 K) : Met l yJ4_append_cf468 (Cond.code yJ4_append_cf468 cJ4_append_cf468 2 (some (.object "java/lang/StringBuilder")) :: wsL_law) (g_rm 5 131 MC MS) (va_Pc [.ref a0, .int x1] (g_Pre lo dd cT G)) (va_Qq K (g_Pre lo dd cT) (g_A lo)) MC MS (g_A lo) := by
  refine g_start RJ4 rfl (by decide) (Nat.le_of_ble_eq_true rfl) ?_
  intro p e s m below meth c hx hb hr hlocks hml hown hnm hts hK hG hlo ls hl
  have hl : lv_has ls 2 [(0, .ref a0), (1, .int x1)] := hl
  have hG : g_S lo dd cT s s.heap [] G := hG
  unfold w_J4_append_cf468 at h
  refine lv_aload_n hx hb dJ4_append_cf468_0 rfl (lv_at hl 0 rfl) ?_
  refine lv_iload_n hx hb dJ4_append_cf468_1 rfl (lv_at hl 1 rfl) ?_
  obtain ⟨C2, R2, d2, g2, h⟩ := h
  obtain ⟨u2, o2, h⟩ := h
  obtain ⟨y2, h⟩ := h
  rw [g2] at hG
  refine g_wSUq (As := [.int x1]) (rest := []) (n := 1) hx hb hml hown hts hK hlo hG (g_frQ d2 (fun lo => m_J5_append_3fe6f 1 1000 l hfl dd cT lo C2 a0 x1 h) lo) qM_J4_50 qW_sameMethod__java_lang_AbstractStringBuilder_java_lang_AbstractStringBuilder_append_C_Ljava_lang_AbstractStringBuilder_ qW_superclass__RJ4_RJ5 qI_yJ5_append_3fe6f qN_J5 qC_yJ5_append_3fe6f (by decide +kernel) ⟨Nat.le_of_ble_eq_true rfl, Nat.le_of_ble_eq_true rfl⟩ (by rfl) (g_ob_gj o2) rfl hl.1 rfl (Nat.le_of_ble_eq_true rfl) dJ4_append_cf468_2 y2 (fun v2x Gx H locs hKx hG => ?_)
  obtain ⟨D2, h, f2, rfl⟩ := hKx
  obtain ⟨G2, i2⟩ : ∃ g : gH, g = gj D2 R2 := ⟨_, rfl⟩
  rw [← i2] at hG
  replace h := h G2 f2 i2
  revert h
  generalize v2x = v2
  intro h
  obtain ⟨r2, rfl, h⟩ := h
  refine lv_pop hx hb dJ4_append_cf468_5 rfl ?_
  refine lv_aload_n hx hb dJ4_append_cf468_6 rfl (lv_at hl 0 rfl) ?_
  obtain ⟨y1, y2, h⟩ := h
  refine W.widen (k := MC) (n := MS) y1 y2 ?_
  exact g_qret (r := some a0) hx hb hr (Or.inl ⟨_, rfl⟩) hlocks hK hlo hG h dJ4_append_cf468_7
set_option maxRecDepth 20000 in
set_option maxHeartbeats 4000000 in
theorem m_J4_append_bf812 (MC MS : Nat) (l : Launch) (hfl : l.stackTraces = false) (dd : va_G) (cT : Nat → ClassId) (lo : Nat → Prop) (G : gH) (a0 : Nat) (x1 : Int32) {K : Option Nat → gH → Prop} (h : w_J4_append_bf812 MC MS G a0 x1 K) : Met l yJ4_append_bf812 (Cond.code yJ4_append_bf812 cJ4_append_bf812 2 (some (.object "java/lang/StringBuilder")) :: wsL_law) (g_rm 5 133 MC MS) (va_Pc [.ref a0, .int x1] (g_Pre lo dd cT G)) (va_Qq K (g_Pre lo dd cT) (g_A lo)) MC MS (g_A lo) := by
  refine g_start RJ4 rfl (by decide) (Nat.le_of_ble_eq_true rfl) ?_
  intro p e s m below meth c hx hb hr hlocks hml hown hnm hts hK hG hlo ls hl
  have hl : lv_has ls 2 [(0, .ref a0), (1, .int x1)] := hl
  have hG : g_S lo dd cT s s.heap [] G := hG
  unfold w_J4_append_bf812 at h
  refine lv_aload_n hx hb dJ4_append_bf812_0 rfl (lv_at hl 0 rfl) ?_
  refine lv_iload_n hx hb dJ4_append_bf812_1 rfl (lv_at hl 1 rfl) ?_
  obtain ⟨C2, R2, d2, g2, h⟩ := h
  obtain ⟨u2, o2, h⟩ := h
  obtain ⟨y2, h⟩ := h
  rw [g2] at hG
  refine g_wSUq (As := [.int x1]) (rest := []) (n := 1) hx hb hml hown hts hK hlo hG (g_frQ d2 (fun lo => m_J5_append_c97b9 1 1000 l hfl dd cT lo C2 a0 x1 h) lo) qM_J4_53 qW_sameMethod__java_lang_AbstractStringBuilder_java_lang_AbstractStringBuilder_append_I_Ljava_lang_AbstractStringBuilder_ qW_superclass__RJ4_RJ5 qI_yJ5_append_c97b9 qN_J5 qC_yJ5_append_c97b9 (by decide +kernel) ⟨Nat.le_of_ble_eq_true rfl, Nat.le_of_ble_eq_true rfl⟩ (by rfl) (g_ob_gj o2) rfl hl.1 rfl (Nat.le_of_ble_eq_true rfl) dJ4_append_bf812_2 y2 (fun v2x Gx H locs hKx hG => ?_)
  obtain ⟨D2, h, f2, rfl⟩ := hKx
  obtain ⟨G2, i2⟩ : ∃ g : gH, g = gj D2 R2 := ⟨_, rfl⟩
  rw [← i2] at hG
  replace h := h G2 f2 i2
  revert h
  generalize v2x = v2
  intro h
  obtain ⟨r2, rfl, h⟩ := h
  refine lv_pop hx hb dJ4_append_bf812_5 rfl ?_
  refine lv_aload_n hx hb dJ4_append_bf812_6 rfl (lv_at hl 0 rfl) ?_
  obtain ⟨y1, y2, h⟩ := h
  refine W.widen (k := MC) (n := MS) y1 y2 ?_
  exact g_qret (r := some a0) hx hb hr (Or.inl ⟨_, rfl⟩) hlocks hK hlo hG h dJ4_append_bf812_7
set_option maxRecDepth 20000 in
set_option maxHeartbeats 4000000 in
theorem m_J5_init_d00df (MC MS : Nat) (l : Launch) (hfl : l.stackTraces = false) (dd : va_G) (cT : Nat → ClassId) (lo : Nat → Prop) (G : gH) (a0 : Nat) (x1 : Int32) {K : gH → Prop} (h : w_J5_init_d00df MC MS G a0 x1 K) : Met l yJ5_init_d00df (Cond.code yJ5_init_d00df cJ5_init_d00df 2 none :: wsL_law) (g_rm 1 40 MC MS) (va_Pc [.ref a0, .int x1] (g_Pre lo dd cT G)) (va_Qv K (g_Pre lo dd cT) (g_A lo)) MC MS (g_A lo) := by
  refine g_start RJ5 rfl (by decide) (Nat.le_of_ble_eq_true rfl) ?_
  intro p e s m below meth c hx hb hr hlocks hml hown hnm hts hK hG hlo ls hl
  have hl : lv_has ls 2 [(0, .ref a0), (1, .int x1)] := hl
  have hG : g_S lo dd cT s s.heap [] G := hG
  unfold w_J5_init_d00df at h
  refine lv_aload_n hx hb dJ5_init_d00df_0 rfl (lv_at hl 0 rfl) ?_
  refine W.objInit hx hb hown (hts _ qM_J5_3) (hts _ qI_objectInit) (hts _ qC_objectInit) rfl (hl.1.trans hml.symm) rfl dJ5_init_d00df_1 (Nat.le_of_ble_eq_true rfl) (Nat.le_of_ble_eq_true rfl) ?_
  refine va_gets hx hb hG.2.2.2.2.2.1 hG.2.1 hown (hts _ qF_J5_18) (fun _ h => h) dJ5_init_d00df_4 ?_
  refine lv_if_eq (tgt := 25) hx hb dJ5_init_d00df_7 (by first | decide | rfl) (fun c7 => ?_) (fun c7 => ?_)
  · rw [if_pos c7] at h
    exact (show False from h).elim
  · rw [if_neg c7] at h
    refine lv_aload_n hx hb dJ5_init_d00df_10 rfl (lv_at hl 0 rfl) ?_
    refine lv_iload_n hx hb dJ5_init_d00df_11 rfl (lv_at hl 1 rfl) ?_
    refine g_newbR hx hb hts hK hlo hG h dJ5_init_d00df_12 (fun q12 G12 H h hG => ?_)
    obtain ⟨G14, i14, h⟩ := h
    refine g_putv hx hb hts inlJ4 tyJ4 tyJ4_ok nmJ4 hown hK hG (by rfl) 0 (by decide) qF_J5_15 rfl rfl rfl rfl i14 dJ5_init_d00df_14 (fun H locs hG => ?_)
    refine lv_aload_n hx hb dJ5_init_d00df_17 rfl (lv_at hl 0 rfl) ?_
    refine lv_iconst (v := (0 : Int32)) hx hb dJ5_init_d00df_18 (by decide) ?_
    obtain ⟨G19, i19, h⟩ := h
    refine g_putv hx hb hts inlJ4 tyJ4 tyJ4_ok nmJ4 hown hK hG (by rfl) 1 (by decide) qF_J5_22 rfl rfl rfl rfl i19 dJ5_init_d00df_19 (fun H locs hG => ?_)
    refine lv_goto (tgt := 38) hx hb dJ5_init_d00df_22 (by first | decide | rfl) ?_
    obtain ⟨y1, y2, h⟩ := h
    refine W.widen (k := MC) (n := MS) y1 y2 ?_
    exact g_vret hx hb hr hlocks hK hlo hG h dJ5_init_d00df_38
set_option maxRecDepth 20000 in
set_option maxHeartbeats 4000000 in
theorem m_J4_init_da8c8 (MC MS : Nat) (l : Launch) (hfl : l.stackTraces = false) (dd : va_G) (cT : Nat → ClassId) (lo : Nat → Prop) (G : gH) (a0 : Nat) {K : gH → Prop} (h : w_J4_init_da8c8 MC MS G a0 K) : Met l yJ4_init_da8c8 (Cond.code yJ4_init_da8c8 cJ4_init_da8c8 1 none :: wsL_law) (g_rm 2 61 MC MS) (va_Pc [.ref a0] (g_Pre lo dd cT G)) (va_Qv K (g_Pre lo dd cT) (g_A lo)) MC MS (g_A lo) := by
  refine g_start RJ4 rfl (by decide) (Nat.le_of_ble_eq_true rfl) ?_
  intro p e s m below meth c hx hb hr hlocks hml hown hnm hts hK hG hlo ls hl
  have hl : lv_has ls 1 [(0, .ref a0)] := hl
  have hG : g_S lo dd cT s s.heap [] G := hG
  unfold w_J4_init_da8c8 at h
  refine lv_aload_n hx hb dJ4_init_da8c8_0 rfl (lv_at hl 0 rfl) ?_
  refine lv_bipush (v := (16 : Int32)) hx hb dJ4_init_da8c8_1 (by decide) ?_
  obtain ⟨C3, R3, d3, g3, h⟩ := h
  obtain ⟨y3, h⟩ := h
  rw [g3] at hG
  refine g_wIP (b := a0) (As := [.int (16 : Int32)]) (rest := []) (n := 1) hx hb hml hown hts hK hlo hG (g_frV d3 (fun lo => m_J5_init_d00df 1 16 l hfl dd cT lo C3 a0 (16 : Int32) h) lo) qM_J4_1 qI_yJ5_init_d00df rfl qN_J5 qC_yJ5_init_d00df (by decide +kernel) ⟨Nat.le_of_ble_eq_true rfl, Nat.le_of_ble_eq_true rfl⟩ rfl hl.1 rfl (Nat.le_of_ble_eq_true rfl) dJ4_init_da8c8_3 y3 (fun Gx H locs hKx hG => ?_)
  obtain ⟨D3, h, f3, rfl⟩ := hKx
  obtain ⟨G3, i3⟩ : ∃ g : gH, g = gj D3 R3 := ⟨_, rfl⟩
  rw [← i3] at hG
  replace h := h G3 f3 i3
  obtain ⟨y1, y2, h⟩ := h
  refine W.widen (k := MC) (n := MS) y1 y2 ?_
  exact g_vret hx hb hr hlocks hK hlo hG h dJ4_init_da8c8_6
set_option maxRecDepth 20000 in
set_option maxHeartbeats 4000000 in
theorem m_J5_init_a7421_A (MC MS : Nat) (l : Launch) (hfl : l.stackTraces = false) (dd : va_G) (cT : Nat → ClassId) (lo : Nat → Prop) (G : gH) (a0 : Nat) (a1 : Nat) {K : gH → Prop} (h : w_J5_init_a7421_A MC MS G a0 a1 K) : Met l yJ5_init_a7421 (Cond.code yJ5_init_a7421 cJ5_init_a7421 5 none :: wsL_law) (g_rm 7 174 MC MS) (va_Pc [.ref a0, .ref a1] (g_Pre lo dd cT G)) (va_Qv K (g_Pre lo dd cT) (g_A lo)) MC MS (g_A lo) := by
  refine g_start RJ5 rfl (by decide) (Nat.le_of_ble_eq_true rfl) ?_
  intro p e s m below meth c hx hb hr hlocks hml hown hnm hts hK hG hlo ls hl
  have hl : lv_has ls 5 [(0, .ref a0), (1, .ref a1)] := hl
  have hG : g_S lo dd cT s s.heap [] G := hG
  have h24 : ∀ (G : gH) (kc ks : Nat) (ba0 : Nat) (ba1 : Nat) (z0 : Int32) (H : Heap) (locs : List Loc), g_S lo dd cT s H locs G → ∀ ls : Array Slot, lv_has ls 5 [(0, .ref ba0), (1, .ref ba1)] → w_J5_init_a7421_A_J24 MC MS K G kc ks ba0 ba1 z0 → W p l e (g_rm 7 174 MC MS) s m ([.ref a0, .ref a1] : List Value).toArray below meth c H locs kc ks (MQ below (va_Qv K (g_Pre lo dd cT) (g_A lo)) ([.ref a0, .ref a1] : List Value).toArray s MC MS (g_A lo)) (F0 m 24 ls [.int z0]) := by
    intro G kc ks ba0 ba1 z0 H locs hG ls hl h
    unfold w_J5_init_a7421_A_J24 at h
    refine lv_istore_n (lv' := [(3, .int z0), (0, .ref ba0), (1, .ref ba1)]) hx hb dJ5_init_a7421_24 rfl hl (by decide) rfl (fun ls hl => ?_)
    refine lv_aload_n hx hb dJ5_init_a7421_25 rfl (lv_at hl 2 rfl) ?_
    obtain ⟨C26, R26, d26, g26, h⟩ := h
    obtain ⟨u26, o26, h⟩ := h
    obtain ⟨y26, h⟩ := h
    obtain ⟨v26, e26, h⟩ := h
    rw [g26] at hG
    refine g_wVi (As := []) (rest := []) (n := 0) hx hb hml hown hts hK hlo hG (g_frI d26 (fun lo => m_J0_coder_7d493_A l dd cT lo C26 ba1 e26) lo) qM_J5_40 qI_yJ0_coder_7d493 qS_J0_yJ0_coder_7d493 qN_J0 qC_yJ0_coder_7d493 (by decide +kernel) ⟨Nat.le_of_ble_eq_true rfl, Nat.le_of_ble_eq_true rfl⟩ (by rfl) (g_ob_gj o26) rfl hl.1 rfl (Nat.le_of_ble_eq_true rfl) dJ5_init_a7421_26 y26 (fun v26x Gx H locs hKx hG => ?_)
    obtain ⟨D26, ⟨k26a, k26⟩, f26, l26⟩ := hKx
    rw [l26, k26] at hG
    rw [k26] at f26
    rw [k26a]
    rw [← g26] at hG
    refine lv_istore (lv' := [(4, .int v26), (3, .int z0), (0, .ref ba0), (1, .ref ba1)]) hx hb dJ5_init_a7421_29 hl (by decide) rfl (fun ls hl => ?_)
    refine lv_aload_n hx hb dJ5_init_a7421_31 rfl (lv_at hl 2 rfl) ?_
    refine lv_iload hx hb dJ5_init_a7421_32 (lv_at hl 0 rfl) ?_
    obtain ⟨w34, e34, h⟩ := h
    obtain ⟨n34, rfl⟩ := g_b_nar e34
    obtain ⟨G34, i34, h⟩ := h
    refine g_putv hx hb hts inlJ4 tyJ4 tyJ4_ok nmJ4 hown hK hG (by rfl) 1 (by decide) qF_J5_22 rfl rfl n34 (g_b_fit e34) i34 dJ5_init_a7421_34 (fun H locs hG => ?_)
    refine lv_aload_n hx hb dJ5_init_a7421_37 rfl (lv_at hl 2 rfl) ?_
    refine lv_iload hx hb dJ5_init_a7421_38 (lv_at hl 0 rfl) ?_
    refine lv_if_ne (tgt := 49) hx hb dJ5_init_a7421_40 (by first | decide | rfl) (fun c40 => ?_) (fun c40 => ?_)
    · rw [if_neg c40] at h
      exact (show False from h).elim
    · rw [if_pos c40] at h
      refine lv_iload_n hx hb dJ5_init_a7421_43 rfl (lv_at hl 1 rfl) ?_
      refine g_newbR hx hb hts hK hlo hG h dJ5_init_a7421_44 (fun q44 G44 H h hG => ?_)
      refine lv_goto (tgt := 53) hx hb dJ5_init_a7421_46 (by first | decide | rfl) ?_
      obtain ⟨G53, i53, h⟩ := h
      refine g_putv hx hb hts inlJ4 tyJ4 tyJ4_ok nmJ4 hown hK hG (by rfl) 0 (by decide) qF_J5_15 rfl rfl rfl rfl i53 dJ5_init_a7421_53 (fun H locs hG => ?_)
      refine lv_aload_n hx hb dJ5_init_a7421_56 rfl (lv_at hl 2 rfl) ?_
      refine lv_aload_n hx hb dJ5_init_a7421_57 rfl (lv_at hl 3 rfl) ?_
      obtain ⟨C58, R58, d58, g58, h⟩ := h
      obtain ⟨u58, o58, h⟩ := h
      obtain ⟨y58, h⟩ := h
      rw [g58] at hG
      refine g_wOq (As := [.ref ba1]) (rest := []) (n := 1) (owner := RJ5) hx hb hml hown hts hK hlo hG (g_frQ d58 (fun lo => m_J4_append_cf1ce_A 1 1000 l hfl dd cT lo C58 ba0 ba1 h) lo) qM_J5_43 qW_sameMethod__java_lang_AbstractStringBuilder_java_lang_AbstractStringBuilder_append_Ljava_lang_String_Ljava_lang_AbstractStringBuilder_ qI_yJ5_append_cf1ce qS_J4_append__Ljava_lang_String__Ljava_lang_AbstractStringBuilder_ qI_yJ4_append_cf1ce qN_J4 qC_yJ4_append_cf1ce qC_yJ5_append_cf1ce (by decide +kernel) ⟨Nat.le_of_ble_eq_true rfl, Nat.le_of_ble_eq_true rfl⟩ (by rfl) (g_ob_gj o58) rfl hl.1 rfl (Nat.le_of_ble_eq_true rfl) dJ5_init_a7421_58 y58 (fun v58x Gx H locs hKx hG => ?_)
      obtain ⟨D58, h, f58, rfl⟩ := hKx
      obtain ⟨G58, i58⟩ : ∃ g : gH, g = gj D58 R58 := ⟨_, rfl⟩
      rw [← i58] at hG
      replace h := h G58 f58 i58
      revert h
      generalize v58x = v58
      intro h
      obtain ⟨r58, rfl, h⟩ := h
      refine lv_pop hx hb dJ5_init_a7421_61 rfl ?_
      obtain ⟨y1, y2, h⟩ := h
      refine W.widen (k := MC) (n := MS) y1 y2 ?_
      exact g_vret hx hb hr hlocks hK hlo hG h dJ5_init_a7421_62
  unfold w_J5_init_a7421_A at h
  refine lv_aload_n hx hb dJ5_init_a7421_0 rfl (lv_at hl 0 rfl) ?_
  refine W.objInit hx hb hown (hts _ qM_J5_3) (hts _ qI_objectInit) (hts _ qC_objectInit) rfl (hl.1.trans hml.symm) rfl dJ5_init_a7421_1 (Nat.le_of_ble_eq_true rfl) (Nat.le_of_ble_eq_true rfl) ?_
  refine lv_aload_n hx hb dJ5_init_a7421_4 rfl (lv_at hl 1 rfl) ?_
  obtain ⟨C5, R5, d5, g5, h⟩ := h
  obtain ⟨u5, o5, h⟩ := h
  obtain ⟨y5, h⟩ := h
  obtain ⟨v5, e5, h⟩ := h
  rw [g5] at hG
  refine g_wVi (As := []) (rest := []) (n := 0) hx hb hml hown hts hK hlo hG (g_frI d5 (fun lo => m_J0_length_8abf5_A l dd cT lo C5 a1 e5) lo) qM_J5_32 qI_yJ0_length_8abf5 qS_J0_yJ0_length_8abf5 qN_J0 qC_yJ0_length_8abf5 (by decide +kernel) ⟨Nat.le_of_ble_eq_true rfl, Nat.le_of_ble_eq_true rfl⟩ (by rfl) (g_ob_gj o5) rfl hl.1 rfl (Nat.le_of_ble_eq_true rfl) dJ5_init_a7421_5 y5 (fun v5x Gx H locs hKx hG => ?_)
  obtain ⟨D5, ⟨k5a, k5⟩, f5, l5⟩ := hKx
  rw [l5, k5] at hG
  rw [k5] at f5
  rw [k5a]
  rw [← g5] at hG
  refine lv_istore_n (lv' := [(2, .int v5), (0, .ref a0), (1, .ref a1)]) hx hb dJ5_init_a7421_8 rfl hl (by decide) rfl (fun ls hl => ?_)
  refine lv_iload_n hx hb dJ5_init_a7421_9 rfl (lv_at hl 0 rfl) ?_
  refine lv_ldc hx hb hown (hts _ qK_J5_38) dJ5_init_a7421_10 ?_
  refine lv_icmp_ge (tgt := 22) hx hb dJ5_init_a7421_12 (by first | decide | rfl) (fun c12 => ?_) (fun c12 => ?_)
  · rw [if_pos c12] at h
    refine lv_ldc hx hb hown (hts _ qK_J5_39) dJ5_init_a7421_22 ?_
    exact h24 G 0 0 a0 a1 (2147483647 : Int32) _ _ hG _ (lv_sub hl [1, 2] rfl) h
  · rw [if_neg c12] at h
    refine lv_iload_n hx hb dJ5_init_a7421_15 rfl (lv_at hl 0 rfl) ?_
    refine lv_bipush (v := (16 : Int32)) hx hb dJ5_init_a7421_16 (by decide) ?_
    refine lv_iadd hx hb dJ5_init_a7421_18 ?_
    refine lv_goto (tgt := 24) hx hb dJ5_init_a7421_19 (by first | decide | rfl) ?_
    exact h24 G 0 0 a0 a1 (v5 + (16 : Int32)) _ _ hG _ (lv_sub hl [1, 2] rfl) h
set_option maxRecDepth 20000 in
set_option maxHeartbeats 4000000 in
theorem m_J4_init_a7421_A (MC MS : Nat) (l : Launch) (hfl : l.stackTraces = false) (dd : va_G) (cT : Nat → ClassId) (lo : Nat → Prop) (G : gH) (a0 : Nat) (a1 : Nat) {K : gH → Prop} (h : w_J4_init_a7421_A MC MS G a0 a1 K) : Met l yJ4_init_a7421 (Cond.code yJ4_init_a7421 cJ4_init_a7421 2 none :: wsL_law) (g_rm 8 198 MC MS) (va_Pc [.ref a0, .ref a1] (g_Pre lo dd cT G)) (va_Qv K (g_Pre lo dd cT) (g_A lo)) MC MS (g_A lo) := by
  refine g_start RJ4 rfl (by decide) (Nat.le_of_ble_eq_true rfl) ?_
  intro p e s m below meth c hx hb hr hlocks hml hown hnm hts hK hG hlo ls hl
  have hl : lv_has ls 2 [(0, .ref a0), (1, .ref a1)] := hl
  have hG : g_S lo dd cT s s.heap [] G := hG
  unfold w_J4_init_a7421_A at h
  refine lv_aload_n hx hb dJ4_init_a7421_0 rfl (lv_at hl 0 rfl) ?_
  refine lv_aload_n hx hb dJ4_init_a7421_1 rfl (lv_at hl 1 rfl) ?_
  obtain ⟨C2, R2, d2, g2, h⟩ := h
  obtain ⟨y2, h⟩ := h
  rw [g2] at hG
  refine g_wIP (b := a0) (As := [.ref a1]) (rest := []) (n := 1) hx hb hml hown hts hK hlo hG (g_frV d2 (fun lo => m_J5_init_a7421_A 2 2000 l hfl dd cT lo C2 a0 a1 h) lo) qM_J4_7 qI_yJ5_init_a7421 rfl qN_J5 qC_yJ5_init_a7421 (by decide +kernel) ⟨Nat.le_of_ble_eq_true rfl, Nat.le_of_ble_eq_true rfl⟩ rfl hl.1 rfl (Nat.le_of_ble_eq_true rfl) dJ4_init_a7421_2 y2 (fun Gx H locs hKx hG => ?_)
  obtain ⟨D2, h, f2, rfl⟩ := hKx
  obtain ⟨G2, i2⟩ : ∃ g : gH, g = gj D2 R2 := ⟨_, rfl⟩
  rw [← i2] at hG
  replace h := h G2 f2 i2
  obtain ⟨y1, y2, h⟩ := h
  refine W.widen (k := MC) (n := MS) y1 y2 ?_
  exact g_vret hx hb hr hlocks hK hlo hG h dJ4_init_a7421_5
set_option maxRecDepth 20000 in
set_option maxHeartbeats 4000000 in
theorem m_J4_length_8abf5 (MC MS : Nat) (l : Launch) (hfl : l.stackTraces = false) (dd : va_G) (cT : Nat → ClassId) (lo : Nat → Prop) (G : gH) (a0 : Nat) {K : Int32 → gH → Prop} (h : w_J4_length_8abf5 MC MS G a0 K) : Met l yJ4_length_8abf5 (Cond.code yJ4_length_8abf5 cJ4_length_8abf5 1 (some .int) :: wsL_law) (g_rm 1 40 MC MS) (va_Pc [.ref a0] (g_Pre lo dd cT G)) (va_Qi K (g_Pre lo dd cT) (g_A lo)) MC MS (g_A lo) := by
  refine g_start RJ4 rfl (by decide) (Nat.le_of_ble_eq_true rfl) ?_
  intro p e s m below meth c hx hb hr hlocks hml hown hnm hts hK hG hlo ls hl
  have hl : lv_has ls 1 [(0, .ref a0)] := hl
  have hG : g_S lo dd cT s s.heap [] G := hG
  unfold w_J4_length_8abf5 at h
  refine lv_aload_n hx hb dJ4_length_8abf5_0 rfl (lv_at hl 0 rfl) ?_
  obtain ⟨C1, R1, d1, g1, h⟩ := h
  obtain ⟨u1, o1, h⟩ := h
  obtain ⟨y1, h⟩ := h
  obtain ⟨v1, e1, h⟩ := h
  rw [g1] at hG
  refine g_wSUi (As := []) (rest := []) (n := 0) hx hb hml hown hts hK hlo hG (g_frI d1 (fun lo => m_J5_length_8abf5 l dd cT lo C1 a0 e1) lo) qM_J4_343 qW_sameMethod__java_lang_AbstractStringBuilder_java_lang_AbstractStringBuilder_length_I_ qW_superclass__RJ4_RJ5 qI_yJ5_length_8abf5 qN_J5 qC_yJ5_length_8abf5 (by decide +kernel) ⟨Nat.le_of_ble_eq_true rfl, Nat.le_of_ble_eq_true rfl⟩ (by rfl) (g_ob_gj o1) rfl hl.1 rfl (Nat.le_of_ble_eq_true rfl) dJ4_length_8abf5_1 y1 (fun v1x Gx H locs hKx hG => ?_)
  obtain ⟨D1, ⟨k1a, k1⟩, f1, l1⟩ := hKx
  rw [l1, k1] at hG
  rw [k1] at f1
  rw [k1a]
  rw [← g1] at hG
  obtain ⟨y1, y2, h⟩ := h
  refine W.widen (k := MC) (n := MS) y1 y2 ?_
  exact g_iret hx hb hr hlocks hK hlo hG h dJ4_length_8abf5_4
set_option maxRecDepth 20000 in
set_option maxHeartbeats 4000000 in
theorem m_J0_init_db425_A (MC MS : Nat) (l : Launch) (hfl : l.stackTraces = false) (dd : va_G) (cT : Nat → ClassId) (lo : Nat → Prop) (G : gH) (a0 : Nat) (a1 : Nat) {K : gH → Prop} (h : w_J0_init_db425_A MC MS G a0 a1 K) : Met l yJ0_init_db425 (Cond.code yJ0_init_db425 cJ0_init_db425 5 none :: wsL_law) (g_rm 4 86 MC MS) (va_Pc [.ref a0, .ref a1, .null] (g_Pre lo dd cT G)) (va_Qv K (g_Pre lo dd cT) (g_A lo)) MC MS (g_A lo) := by
  refine g_start RJ0 rfl (by decide) (Nat.le_of_ble_eq_true rfl) ?_
  intro p e s m below meth c hx hb hr hlocks hml hown hnm hts hK hG hlo ls hl
  have hl : lv_has ls 5 [(0, .ref a0), (1, .ref a1), (2, .null)] := hl
  have hG : g_S lo dd cT s s.heap [] G := hG
  unfold w_J0_init_db425_A at h
  refine lv_aload_n hx hb dJ0_init_db425_0 rfl (lv_at hl 0 rfl) ?_
  refine W.objInit hx hb hown (hts _ qM_J0_1) (hts _ qI_objectInit) (hts _ qC_objectInit) rfl (hl.1.trans hml.symm) rfl dJ0_init_db425_1 (Nat.le_of_ble_eq_true rfl) (Nat.le_of_ble_eq_true rfl) ?_
  refine lv_aload_n hx hb dJ0_init_db425_4 rfl (lv_at hl 1 rfl) ?_
  obtain ⟨C5, R5, d5, g5, h⟩ := h
  obtain ⟨u5, o5, h⟩ := h
  obtain ⟨y5, h⟩ := h
  rw [g5] at hG
  refine g_wUq (As := []) (rest := []) (n := 0) (owner := RJ5) hx hb hml hown hts hK hlo hG (g_frQ d5 (fun lo => m_J5_getValue_6d5f1 0 0 l hfl dd cT lo C5 a1 h) lo) qM_J0_552 qW_sameMethod__java_lang_AbstractStringBuilder_java_lang_AbstractStringBuilder_getValue_B_ qS_J4_getValue____B qI_yJ5_getValue_6d5f1 qN_J5 qC_yJ5_getValue_6d5f1 rfl (by decide +kernel) ⟨Nat.le_of_ble_eq_true rfl, Nat.le_of_ble_eq_true rfl⟩ (by rfl) (g_ob_gj o5) rfl hl.1 rfl (Nat.le_of_ble_eq_true rfl) dJ0_init_db425_5 y5 (fun v5x Gx H locs hKx hG => ?_)
  obtain ⟨D5, h, f5, rfl⟩ := hKx
  obtain ⟨G5, i5⟩ : ∃ g : gH, g = gj D5 R5 := ⟨_, rfl⟩
  rw [← i5] at hG
  replace h := h G5 f5 i5
  revert h
  generalize v5x = v5
  intro h
  obtain ⟨r5, rfl, h⟩ := h
  refine lv_astore_n (lv' := [(3, .ref r5), (0, .ref a0), (1, .ref a1), (2, .null)]) hx hb dJ0_init_db425_8 rfl hl (by decide) rfl (fun ls hl => ?_)
  refine lv_aload_n hx hb dJ0_init_db425_9 rfl (lv_at hl 2 rfl) ?_
  obtain ⟨C10, R10, d10, g10, h⟩ := h
  obtain ⟨u10, o10, h⟩ := h
  obtain ⟨y10, h⟩ := h
  rw [g10] at hG
  refine g_wOi (As := []) (rest := []) (n := 0) (owner := RJ5) hx hb hml hown hts hK hlo hG (g_frI d10 (fun lo => m_J4_length_8abf5 0 0 l hfl dd cT lo C10 a1 h) lo) qM_J0_549 qW_sameMethod__java_lang_AbstractStringBuilder_java_lang_AbstractStringBuilder_length_I_ qI_yJ5_length_8abf5 qS_J4_length___I qI_yJ4_length_8abf5 qN_J4 qC_yJ4_length_8abf5 qC_yJ5_length_8abf5 (by decide +kernel) ⟨Nat.le_of_ble_eq_true rfl, Nat.le_of_ble_eq_true rfl⟩ (by rfl) (g_ob_gj o10) rfl hl.1 rfl (Nat.le_of_ble_eq_true rfl) dJ0_init_db425_10 y10 (fun v10x Gx H locs hKx hG => ?_)
  obtain ⟨D10, h, f10, rfl⟩ := hKx
  obtain ⟨G10, i10⟩ : ∃ g : gH, g = gj D10 R10 := ⟨_, rfl⟩
  rw [← i10] at hG
  replace h := h G10 f10 i10
  revert h
  generalize v10x = v10
  intro h
  refine lv_istore (lv' := [(4, .int v10), (3, .ref r5), (0, .ref a0), (1, .ref a1), (2, .null)]) hx hb dJ0_init_db425_13 hl (by decide) rfl (fun ls hl => ?_)
  refine lv_aload_n hx hb dJ0_init_db425_15 rfl (lv_at hl 3 rfl) ?_
  obtain ⟨C16, R16, d16, g16, h⟩ := h
  obtain ⟨u16, o16, h⟩ := h
  obtain ⟨y16, h⟩ := h
  obtain ⟨v16, e16, h⟩ := h
  rw [g16] at hG
  refine g_wUi (As := []) (rest := []) (n := 0) (owner := RJ5) hx hb hml hown hts hK hlo hG (g_frI d16 (fun lo => m_J5_isLatin1_aae02 l dd cT lo C16 a1 e16) lo) qM_J0_1047 qW_sameMethod__java_lang_AbstractStringBuilder_java_lang_AbstractStringBuilder_isLatin1_Z_ qS_J4_isLatin1___Z qI_yJ5_isLatin1_aae02 qN_J5 qC_yJ5_isLatin1_aae02 rfl (by decide +kernel) ⟨Nat.le_of_ble_eq_true rfl, Nat.le_of_ble_eq_true rfl⟩ (by rfl) (g_ob_gj o16) rfl hl.1 rfl (Nat.le_of_ble_eq_true rfl) dJ0_init_db425_16 y16 (fun v16x Gx H locs hKx hG => ?_)
  obtain ⟨D16, ⟨k16a, k16⟩, f16, l16⟩ := hKx
  rw [l16, k16] at hG
  rw [k16] at f16
  rw [k16a]
  rw [← g16] at hG
  refine lv_if_eq (tgt := 41) hx hb dJ0_init_db425_19 (by first | decide | rfl) (fun c19 => ?_) (fun c19 => ?_)
  · rw [if_pos c19] at h
    exact (show False from h).elim
  · rw [if_neg c19] at h
    refine lv_aload_n hx hb dJ0_init_db425_22 rfl (lv_at hl 2 rfl) ?_
    refine lv_iconst (v := (0 : Int32)) hx hb dJ0_init_db425_23 (by decide) ?_
    obtain ⟨G24, i24, h⟩ := h
    refine g_putvF hx hb hts inlJ0 tyJ0 tyJ0_ok nmJ0 hown hK hG (by rfl) 1 (by decide) qF_J0_15 rfl hnm rfl rfl rfl rfl i24 dJ0_init_db425_24 (fun H locs hG => ?_)
    refine lv_aload_n hx hb dJ0_init_db425_27 rfl (lv_at hl 2 rfl) ?_
    refine lv_aload_n hx hb dJ0_init_db425_28 rfl (lv_at hl 1 rfl) ?_
    refine lv_iconst (v := (0 : Int32)) hx hb dJ0_init_db425_29 (by decide) ?_
    refine lv_iload hx hb dJ0_init_db425_30 (lv_at hl 0 rfl) ?_
    obtain ⟨C32, R32, d32, g32, h⟩ := h
    obtain ⟨y32, h⟩ := h
    rw [g32] at hG
    refine g_wAq (As := [.ref r5, .int (0 : Int32), .int v10]) (rest := [.ref a0]) (n := 3) hx hb hml hown hts hK hlo hG (g_frQ d32 (fun lo => m_J7_copyOfRange_39247 1 1000 l hfl dd cT lo C32 r5 (0 : Int32) v10 h) lo) qM_J0_54 qT_yJ7_copyOfRange_39247 qN_J7 qC_yJ7_copyOfRange_39247 (by decide +kernel) ⟨Nat.le_of_ble_eq_true rfl, Nat.le_of_ble_eq_true rfl⟩ rfl hl.1 rfl (Nat.le_of_ble_eq_true rfl) dJ0_init_db425_32 y32 (fun v32x Gx H locs hKx hG => ?_)
    obtain ⟨D32, h, f32, rfl⟩ := hKx
    obtain ⟨G32, i32⟩ : ∃ g : gH, g = gj D32 R32 := ⟨_, rfl⟩
    rw [← i32] at hG
    replace h := h G32 f32 i32
    revert h
    generalize v32x = v32
    intro h
    obtain ⟨r32, rfl, h⟩ := h
    obtain ⟨G35, i35, h⟩ := h
    refine g_putvF hx hb hts inlJ0 tyJ0 tyJ0_ok nmJ0 hown hK hG (by rfl) 0 (by decide) qF_J0_9 rfl hnm rfl rfl rfl rfl i35 dJ0_init_db425_35 (fun H locs hG => ?_)
    refine lv_goto (tgt := 97) hx hb dJ0_init_db425_38 (by first | decide | rfl) ?_
    obtain ⟨y1, y2, h⟩ := h
    refine W.widen (k := MC) (n := MS) y1 y2 ?_
    exact g_vret hx hb hr hlocks hK hlo hG h dJ0_init_db425_97
set_option maxRecDepth 20000 in
set_option maxHeartbeats 4000000 in
theorem m_J0_init_81219_A (MC MS : Nat) (l : Launch) (hfl : l.stackTraces = false) (dd : va_G) (cT : Nat → ClassId) (lo : Nat → Prop) (G : gH) (a0 : Nat) (a1 : Nat) {K : gH → Prop} (h : w_J0_init_81219_A MC MS G a0 a1 K) : Met l yJ0_init_81219 (Cond.code yJ0_init_81219 cJ0_init_81219 2 none :: wsL_law) (g_rm 5 110 MC MS) (va_Pc [.ref a0, .ref a1] (g_Pre lo dd cT G)) (va_Qv K (g_Pre lo dd cT) (g_A lo)) MC MS (g_A lo) := by
  refine g_start RJ0 rfl (by decide) (Nat.le_of_ble_eq_true rfl) ?_
  intro p e s m below meth c hx hb hr hlocks hml hown hnm hts hK hG hlo ls hl
  have hl : lv_has ls 2 [(0, .ref a0), (1, .ref a1)] := hl
  have hG : g_S lo dd cT s s.heap [] G := hG
  unfold w_J0_init_81219_A at h
  refine lv_aload_n hx hb dJ0_init_81219_0 rfl (lv_at hl 0 rfl) ?_
  refine lv_aload_n hx hb dJ0_init_81219_1 rfl (lv_at hl 1 rfl) ?_
  refine lv_null hx hb dJ0_init_81219_2 ?_
  obtain ⟨C3, R3, d3, g3, h⟩ := h
  obtain ⟨y3, h⟩ := h
  rw [g3] at hG
  refine g_wIP (b := a0) (As := [.ref a1, .null]) (rest := []) (n := 2) hx hb hml hown hts hK hlo hG (g_frV d3 (fun lo => m_J0_init_db425_A 1 1000 l hfl dd cT lo C3 a0 a1 h) lo) qM_J0_489 qI_yJ0_init_db425 rfl qN_J0 qC_yJ0_init_db425 (by decide +kernel) ⟨Nat.le_of_ble_eq_true rfl, Nat.le_of_ble_eq_true rfl⟩ rfl hl.1 rfl (Nat.le_of_ble_eq_true rfl) dJ0_init_81219_3 y3 (fun Gx H locs hKx hG => ?_)
  obtain ⟨D3, h, f3, rfl⟩ := hKx
  obtain ⟨G3, i3⟩ : ∃ g : gH, g = gj D3 R3 := ⟨_, rfl⟩
  rw [← i3] at hG
  replace h := h G3 f3 i3
  obtain ⟨y1, y2, h⟩ := h
  refine W.widen (k := MC) (n := MS) y1 y2 ?_
  exact g_vret hx hb hr hlocks hK hlo hG h dJ0_init_81219_6
set_option maxRecDepth 20000 in
set_option maxHeartbeats 4000000 in
theorem m_J4_toString_0e30d (MC MS : Nat) (l : Launch) (hfl : l.stackTraces = false) (dd : va_G) (cT : Nat → ClassId) (lo : Nat → Prop) (G : gH) (a0 : Nat) {K : Option Nat → gH → Prop} (h : w_J4_toString_0e30d MC MS G a0 K) : Met l yJ4_toString_0e30d (Cond.code yJ4_toString_0e30d cJ4_toString_0e30d 1 (some (.object "java/lang/String")) :: wsL_law) (g_rm 6 131 MC MS) (va_Pc [.ref a0] (g_Pre lo dd cT G)) (va_Qq K (g_Pre lo dd cT) (g_A lo)) MC MS (g_A lo) := by
  refine g_start RJ4 rfl (by decide) (Nat.le_of_ble_eq_true rfl) ?_
  intro p e s m below meth c hx hb hr hlocks hml hown hnm hts hK hG hlo ls hl
  have hl : lv_has ls 1 [(0, .ref a0)] := hl
  have hG : g_S lo dd cT s s.heap [] G := hG
  unfold w_J4_toString_0e30d at h
  obtain ⟨y0, h⟩ := h
  refine g_new (ci := 14) (fs := [.null, .int 0, .int 0, .int 0]) hx hb hts inlJ0 tyJ0 tyJ0_ok hown hK hlo hG rfl qL_J4_18 qA_J0 qN_J0 (fun j hj => by rcases (show j = 0 ∨ j = 1 ∨ j = 2 ∨ j = 3 by omega) with rfl | rfl | rfl | rfl <;> rfl) y0 dJ4_toString_0e30d_0 (fun q0 H z0 hG => ?_)
  obtain ⟨G0, i0⟩ : ∃ g : gH, g = va_up G q0 (some (.inr (.inr (.inr (14, [.null, .int 0, .int 0, .int 0]))))) := ⟨_, rfl⟩
  rw [← i0] at hG
  replace h := h q0 z0 G0 i0
  refine lv_dup hx hb dJ4_toString_0e30d_3 rfl ?_
  refine lv_aload_n hx hb dJ4_toString_0e30d_4 rfl (lv_at hl 0 rfl) ?_
  obtain ⟨C5, R5, d5, g5, h⟩ := h
  obtain ⟨y5, h⟩ := h
  rw [g5] at hG
  refine g_wIP (b := q0) (As := [.ref a0]) (rest := [.ref q0]) (n := 1) hx hb hml hown hts hK hlo hG (g_frV d5 (fun lo => m_J0_init_81219_A 1 1000 l hfl dd cT lo C5 q0 a0 h) lo) qM_J4_137 qI_yJ0_init_81219 rfl qN_J0 qC_yJ0_init_81219 (by decide +kernel) ⟨Nat.le_of_ble_eq_true rfl, Nat.le_of_ble_eq_true rfl⟩ rfl hl.1 rfl (Nat.le_of_ble_eq_true rfl) dJ4_toString_0e30d_5 y5 (fun Gx H locs hKx hG => ?_)
  obtain ⟨D5, h, f5, rfl⟩ := hKx
  obtain ⟨G5, i5⟩ : ∃ g : gH, g = gj D5 R5 := ⟨_, rfl⟩
  rw [← i5] at hG
  replace h := h G5 f5 i5
  obtain ⟨y1, y2, h⟩ := h
  refine W.widen (k := MC) (n := MS) y1 y2 ?_
  exact g_qret (r := some q0) hx hb hr (Or.inl ⟨_, rfl⟩) hlocks hK hlo hG h dJ4_toString_0e30d_8

/-! By program (wip/p34/tools/jlift.py). -/
set_option maxRecDepth 20000 in
set_option maxHeartbeats 4000000 in
theorem m_J5_getValue_6d5f1 (MC MS : Nat) (l : Launch) (hfl : l.stackTraces = false) (dd : va_G) (cT : Nat → ClassId) (lo : Nat → Prop) (G : gH) (a0 : Nat) {K : Option Nat → gH → Prop} (h : w_J5_getValue_6d5f1 MC MS G a0 K) : Met l yJ5_getValue_6d5f1 (Cond.code yJ5_getValue_6d5f1 cJ5_getValue_6d5f1 1 (some (.array .byte)) :: wsL_law) (g_rm 1 40 MC MS) (va_Pc [.ref a0] (g_Pre lo dd cT G)) (va_Qq K (g_Pre lo dd cT) (g_A lo)) MC MS (g_A lo) := by
  refine g_start RJ5 rfl (by decide) (Nat.le_of_ble_eq_true rfl) ?_
  intro p e s m below meth c hx hb hr hlocks hml hown hnm hts hK hG hlo ls hl
  have hl : lv_has ls 1 [(0, .ref a0)] := hl
  have hG : g_S lo dd cT s s.heap [] G := hG
  unfold w_J5_getValue_6d5f1 at h
  refine lv_aload_n hx hb dJ5_getValue_6d5f1_0 rfl (lv_at hl 0 rfl) ?_
  obtain ⟨v1, e1, h⟩ := h
  refine g_getr hx hb hts inlJ4 hown hK hG (by rfl) 0 (by decide) qF_J5_15 e1 dJ5_getValue_6d5f1_1 ?_
  obtain ⟨y1, y2, h⟩ := h
  refine W.widen (k := MC) (n := MS) y1 y2 ?_
  exact g_qretB hx hb hr hlocks hK hlo hG h dJ5_getValue_6d5f1_4
set_option maxRecDepth 20000 in
set_option maxHeartbeats 4000000 in
theorem m_J5_inflateIfNeededFor_a7421_A (MC MS : Nat) (l : Launch) (hfl : l.stackTraces = false) (dd : va_G) (cT : Nat → ClassId) (lo : Nat → Prop) (G : gH) (a0 : Nat) (a1 : Nat) {K : gH → Prop} (h : w_J5_inflateIfNeededFor_a7421_A MC MS G a0 a1 K) : Met l yJ5_inflateIfNeededFor_a7421 (Cond.code yJ5_inflateIfNeededFor_a7421 cJ5_inflateIfNeededFor_a7421 2 none :: wsL_law) (g_rm 1 40 MC MS) (va_Pc [.ref a0, .ref a1] (g_Pre lo dd cT G)) (va_Qv K (g_Pre lo dd cT) (g_A lo)) MC MS (g_A lo) := by
  refine g_start RJ5 rfl (by decide) (Nat.le_of_ble_eq_true rfl) ?_
  intro p e s m below meth c hx hb hr hlocks hml hown hnm hts hK hG hlo ls hl
  have hl : lv_has ls 2 [(0, .ref a0), (1, .ref a1)] := hl
  have hG : g_S lo dd cT s s.heap [] G := hG
  unfold w_J5_inflateIfNeededFor_a7421_A at h
  refine va_gets hx hb hG.2.2.2.2.2.1 hG.2.1 hown (hts _ qF_J5_18) (fun _ h => h) dJ5_inflateIfNeededFor_a7421_0 ?_
  refine lv_if_eq (tgt := 21) hx hb dJ5_inflateIfNeededFor_a7421_3 (by decide) (fun c3 => ?_) (fun c3 => ?_)
  · rw [if_pos c3] at h
    obtain ⟨y1, y2, h⟩ := h
    refine W.widen (k := MC) (n := MS) y1 y2 ?_
    exact g_vret hx hb hr hlocks hK hlo hG h dJ5_inflateIfNeededFor_a7421_21
  · rw [if_neg c3] at h
    refine lv_aload_n hx hb dJ5_inflateIfNeededFor_a7421_6 rfl (lv_at hl 0 rfl) ?_
    obtain ⟨v7, e7, h⟩ := h
    refine g_geti hx hb hts inlJ4 hown hK hG (by rfl) 1 (by decide) qF_J5_22 e7 dJ5_inflateIfNeededFor_a7421_7 ?_
    refine lv_aload_n hx hb dJ5_inflateIfNeededFor_a7421_10 rfl (lv_at hl 1 rfl) ?_
    obtain ⟨C11, R11, d11, g11, h⟩ := h
    obtain ⟨u11, o11, h⟩ := h
    obtain ⟨y11, h⟩ := h
    obtain ⟨v11, e11, h⟩ := h
    rw [g11] at hG
    refine g_wVi (As := []) (rest := [.int v7]) (n := 0) hx hb hml hown hts hK hlo hG (g_frI d11 (fun lo => m_J0_coder_7d493_A l dd cT lo C11 a1 e11) lo) qM_J5_40 qI_yJ0_coder_7d493 qS_J0_yJ0_coder_7d493 qN_J0 qC_yJ0_coder_7d493 (by decide +kernel) ⟨Nat.le_of_ble_eq_true rfl, Nat.le_of_ble_eq_true rfl⟩ (by rfl) (g_ob_gj o11) rfl hl.1 rfl (Nat.le_of_ble_eq_true rfl) dJ5_inflateIfNeededFor_a7421_11 y11 (fun v11x Gx H locs hKx hG => ?_)
    obtain ⟨D11, ⟨k11a, k11⟩, f11, l11⟩ := hKx
    rw [l11, k11] at hG
    rw [k11] at f11
    rw [k11a]
    rw [← g11] at hG
    refine lv_icmp_eq (tgt := 21) hx hb dJ5_inflateIfNeededFor_a7421_14 (by decide) (fun c14 => ?_) (fun c14 => ?_)
    · rw [if_pos c14] at h
      obtain ⟨y1, y2, h⟩ := h
      refine W.widen (k := MC) (n := MS) y1 y2 ?_
      exact g_vret hx hb hr hlocks hK hlo hG h dJ5_inflateIfNeededFor_a7421_21
    · rw [if_neg c14] at h
      exact (show False from h).elim
set_option maxRecDepth 20000 in
set_option maxHeartbeats 4000000 in
theorem m_J5_inflateIfNeededFor_a7421_U (MC MS : Nat) (l : Launch) (hfl : l.stackTraces = false) (dd : va_G) (cT : Nat → ClassId) (lo : Nat → Prop) (G : gH) (a0 : Nat) (x1 : Nat) {K : gH → Prop} (h : w_J5_inflateIfNeededFor_a7421_U MC MS G a0 x1 K) : Met l yJ5_inflateIfNeededFor_a7421 (Cond.code yJ5_inflateIfNeededFor_a7421 cJ5_inflateIfNeededFor_a7421 2 none :: wsL_law) (g_rm 1 40 MC MS) (va_Pc [.ref a0, .ref (dd.2 102 x1)] (g_Pre lo dd cT G)) (va_Qv K (g_Pre lo dd cT) (g_A lo)) MC MS (g_A lo) := by
  refine g_start RJ5 rfl (by decide) (Nat.le_of_ble_eq_true rfl) ?_
  intro p e s m below meth c hx hb hr hlocks hml hown hnm hts hK hG hlo ls hl
  have hl : lv_has ls 2 [(0, .ref a0), (1, .ref (dd.2 102 x1))] := hl
  have hG : g_S lo dd cT s s.heap [] G := hG
  unfold w_J5_inflateIfNeededFor_a7421_U at h
  refine va_gets hx hb hG.2.2.2.2.2.1 hG.2.1 hown (hts _ qF_J5_18) (fun _ h => h) dJ5_inflateIfNeededFor_a7421_0 ?_
  refine lv_if_eq (tgt := 21) hx hb dJ5_inflateIfNeededFor_a7421_3 (by decide) (fun c3 => ?_) (fun c3 => ?_)
  · rw [if_pos c3] at h
    obtain ⟨y1, y2, h⟩ := h
    refine W.widen (k := MC) (n := MS) y1 y2 ?_
    exact g_vret hx hb hr hlocks hK hlo hG h dJ5_inflateIfNeededFor_a7421_21
  · rw [if_neg c3] at h
    refine lv_aload_n hx hb dJ5_inflateIfNeededFor_a7421_6 rfl (lv_at hl 0 rfl) ?_
    obtain ⟨v7, e7, h⟩ := h
    refine g_geti hx hb hts inlJ4 hown hK hG (by rfl) 1 (by decide) qF_J5_22 e7 dJ5_inflateIfNeededFor_a7421_7 ?_
    refine lv_aload_n hx hb dJ5_inflateIfNeededFor_a7421_10 rfl (lv_at hl 1 rfl) ?_
    obtain ⟨C11, R11, d11, g11, h⟩ := h
    obtain ⟨u11, o11, h⟩ := h
    obtain ⟨y11, h⟩ := h
    obtain ⟨v11, e11, h⟩ := h
    rw [g11] at hG
    refine g_wTi (As := []) (rest := [.int v7]) (n := 0) (i := x1) hx hb hml hown hts hK hlo hG (g_frI d11 (fun lo => m_J0_coder_7d493_U l dd cT lo C11 x1 e11) lo) qM_J5_40 qI_yJ0_coder_7d493 qS_J0_yJ0_coder_7d493 qN_J0 qC_yJ0_coder_7d493 (by decide +kernel) ⟨Nat.le_of_ble_eq_true rfl, Nat.le_of_ble_eq_true rfl⟩ (g_six_lt o11) rfl hl.1 rfl (Nat.le_of_ble_eq_true rfl) dJ5_inflateIfNeededFor_a7421_11 y11 (fun v11x Gx H locs hKx hG => ?_)
    obtain ⟨D11, ⟨k11a, k11⟩, f11, l11⟩ := hKx
    rw [l11, k11] at hG
    rw [k11] at f11
    rw [k11a]
    rw [← g11] at hG
    refine lv_icmp_eq (tgt := 21) hx hb dJ5_inflateIfNeededFor_a7421_14 (by decide) (fun c14 => ?_) (fun c14 => ?_)
    · rw [if_pos c14] at h
      obtain ⟨y1, y2, h⟩ := h
      refine W.widen (k := MC) (n := MS) y1 y2 ?_
      exact g_vret hx hb hr hlocks hK hlo hG h dJ5_inflateIfNeededFor_a7421_21
    · rw [if_neg c14] at h
      exact (show False from h).elim
set_option maxRecDepth 20000 in
set_option maxHeartbeats 4000000 in
theorem m_J0_getBytes_840e7_A (MC MS : Nat) (l : Launch) (hfl : l.stackTraces = false) (dd : va_G) (cT : Nat → ClassId) (lo : Nat → Prop) (G : gH) (a0 : Nat) (a1 : Nat) (x2 : Int32) (x3 : Int32) {K : gH → Prop} (h : w_J0_getBytes_840e7_A MC MS G a0 a1 x2 x3 K) : Met l yJ0_getBytes_840e7 (Cond.code yJ0_getBytes_840e7 cJ0_getBytes_840e7 4 none :: wsL_law) (g_rm 2 40 MC MS) (va_Pc [.ref a0, .ref a1, .int x2, .int x3] (g_Pre lo dd cT G)) (va_Qv K (g_Pre lo dd cT) (g_A lo)) MC MS (g_A lo) := by
  refine g_start RJ0 rfl (by decide) (Nat.le_of_ble_eq_true rfl) ?_
  intro p e s m below meth c hx hb hr hlocks hml hown hnm hts hK hG hlo ls hl
  have hl : lv_has ls 4 [(0, .ref a0), (1, .ref a1), (2, .int x2), (3, .int x3)] := hl
  have hG : g_S lo dd cT s s.heap [] G := hG
  unfold w_J0_getBytes_840e7_A at h
  refine lv_aload_n hx hb dJ0_getBytes_840e7_0 rfl (lv_at hl 0 rfl) ?_
  obtain ⟨C1, R1, d1, g1, h⟩ := h
  obtain ⟨u1, o1, h⟩ := h
  obtain ⟨y1, h⟩ := h
  obtain ⟨v1, e1, h⟩ := h
  rw [g1] at hG
  refine g_wVi (As := []) (rest := []) (n := 0) hx hb hml hown hts hK hlo hG (g_frI d1 (fun lo => m_J0_coder_7d493_A l dd cT lo C1 a0 e1) lo) qM_J0_335 qI_yJ0_coder_7d493 qS_J0_yJ0_coder_7d493 qN_J0 qC_yJ0_coder_7d493 (by decide +kernel) ⟨Nat.le_of_ble_eq_true rfl, Nat.le_of_ble_eq_true rfl⟩ (by rfl) (g_ob_gj o1) rfl hl.1 rfl (Nat.le_of_ble_eq_true rfl) dJ0_getBytes_840e7_1 y1 (fun v1x Gx H locs hKx hG => ?_)
  obtain ⟨D1, ⟨k1a, k1⟩, f1, l1⟩ := hKx
  rw [l1, k1] at hG
  rw [k1] at f1
  rw [k1a]
  rw [← g1] at hG
  refine lv_iload_n hx hb dJ0_getBytes_840e7_4 rfl (lv_at hl 3 rfl) ?_
  refine lv_icmp_ne (tgt := 28) hx hb dJ0_getBytes_840e7_5 (by decide) (fun c5 => ?_) (fun c5 => ?_)
  · rw [if_neg c5] at h
    exact (show False from h).elim
  · rw [if_pos c5] at h
    refine lv_aload_n hx hb dJ0_getBytes_840e7_8 rfl (lv_at hl 0 rfl) ?_
    obtain ⟨v9, e9, h⟩ := h
    refine g_getr hx hb hts inlJ0 hown hK hG (by rfl) 0 (by decide) qF_J0_9 e9 dJ0_getBytes_840e7_9 ?_
    refine lv_iconst (v := (0 : Int32)) hx hb dJ0_getBytes_840e7_12 (by decide) ?_
    refine lv_aload_n hx hb dJ0_getBytes_840e7_13 rfl (lv_at hl 1 rfl) ?_
    refine lv_iload_n hx hb dJ0_getBytes_840e7_14 rfl (lv_at hl 2 rfl) ?_
    refine lv_iload_n hx hb dJ0_getBytes_840e7_15 rfl (lv_at hl 3 rfl) ?_
    refine lv_ishl hx hb dJ0_getBytes_840e7_16 ?_
    refine lv_aload_n hx hb dJ0_getBytes_840e7_17 rfl (lv_at hl 0 rfl) ?_
    obtain ⟨v18, e18, h⟩ := h
    refine g_getr hx hb hts inlJ0 hown hK hG (by rfl) 0 (by decide) qF_J0_9 e18 dJ0_getBytes_840e7_18 ?_
    obtain ⟨v21, e21, h⟩ := h
    refine g_alen hx hb hK hG e21 dJ0_getBytes_840e7_21 ?_
    refine g_cpyb hx hb hml hl.1 hown hts qM_J0_212 hK hG h (Nat.le_of_ble_eq_true rfl) (Nat.le_of_ble_eq_true rfl) dJ0_getBytes_840e7_22 (fun G22 H locs h hG => ?_)
    refine lv_goto (tgt := 43) hx hb dJ0_getBytes_840e7_25 (by decide) ?_
    obtain ⟨y1, y2, h⟩ := h
    refine W.widen (k := MC) (n := MS) y1 y2 ?_
    exact g_vret hx hb hr hlocks hK hlo hG h dJ0_getBytes_840e7_43
set_option maxRecDepth 20000 in
set_option maxHeartbeats 4000000 in
theorem m_J0_getBytes_840e7_U (MC MS : Nat) (l : Launch) (hfl : l.stackTraces = false) (dd : va_G) (cT : Nat → ClassId) (lo : Nat → Prop) (G : gH) (x0 : Nat) (a1 : Nat) (x2 : Int32) (x3 : Int32) {K : gH → Prop} (h : w_J0_getBytes_840e7_U MC MS G x0 a1 x2 x3 K) : Met l yJ0_getBytes_840e7 (Cond.code yJ0_getBytes_840e7 cJ0_getBytes_840e7 4 none :: wsL_law) (g_rm 2 40 MC MS) (va_Pc [.ref (dd.2 102 x0), .ref a1, .int x2, .int x3] (g_Pre lo dd cT G)) (va_Qv K (g_Pre lo dd cT) (g_A lo)) MC MS (g_A lo) := by
  refine g_start RJ0 rfl (by decide) (Nat.le_of_ble_eq_true rfl) ?_
  intro p e s m below meth c hx hb hr hlocks hml hown hnm hts hK hG hlo ls hl
  have hl : lv_has ls 4 [(0, .ref (dd.2 102 x0)), (1, .ref a1), (2, .int x2), (3, .int x3)] := hl
  have hG : g_S lo dd cT s s.heap [] G := hG
  unfold w_J0_getBytes_840e7_U at h
  refine lv_aload_n hx hb dJ0_getBytes_840e7_0 rfl (lv_at hl 0 rfl) ?_
  obtain ⟨C1, R1, d1, g1, h⟩ := h
  obtain ⟨u1, o1, h⟩ := h
  obtain ⟨y1, h⟩ := h
  obtain ⟨v1, e1, h⟩ := h
  rw [g1] at hG
  refine g_wTi (As := []) (rest := []) (n := 0) (i := x0) hx hb hml hown hts hK hlo hG (g_frI d1 (fun lo => m_J0_coder_7d493_U l dd cT lo C1 x0 e1) lo) qM_J0_335 qI_yJ0_coder_7d493 qS_J0_yJ0_coder_7d493 qN_J0 qC_yJ0_coder_7d493 (by decide +kernel) ⟨Nat.le_of_ble_eq_true rfl, Nat.le_of_ble_eq_true rfl⟩ (g_six_lt o1) rfl hl.1 rfl (Nat.le_of_ble_eq_true rfl) dJ0_getBytes_840e7_1 y1 (fun v1x Gx H locs hKx hG => ?_)
  obtain ⟨D1, ⟨k1a, k1⟩, f1, l1⟩ := hKx
  rw [l1, k1] at hG
  rw [k1] at f1
  rw [k1a]
  rw [← g1] at hG
  refine lv_iload_n hx hb dJ0_getBytes_840e7_4 rfl (lv_at hl 3 rfl) ?_
  refine lv_icmp_ne (tgt := 28) hx hb dJ0_getBytes_840e7_5 (by decide) (fun c5 => ?_) (fun c5 => ?_)
  · rw [if_neg c5] at h
    exact (show False from h).elim
  · rw [if_pos c5] at h
    refine lv_aload_n hx hb dJ0_getBytes_840e7_8 rfl (lv_at hl 0 rfl) ?_
    obtain ⟨u9, o9, h⟩ := h
    refine vk_getf hx hb (hG.xl.1.1 x0 (g_six_lt o9)).2.2.1 hG.2.1 hown (hts _ qF_J0_9) (fun _ h => h) dJ0_getBytes_840e7_9 ?_
    refine lv_iconst (v := (0 : Int32)) hx hb dJ0_getBytes_840e7_12 (by decide) ?_
    refine lv_aload_n hx hb dJ0_getBytes_840e7_13 rfl (lv_at hl 1 rfl) ?_
    refine lv_iload_n hx hb dJ0_getBytes_840e7_14 rfl (lv_at hl 2 rfl) ?_
    refine lv_iload_n hx hb dJ0_getBytes_840e7_15 rfl (lv_at hl 3 rfl) ?_
    refine lv_ishl hx hb dJ0_getBytes_840e7_16 ?_
    refine lv_aload_n hx hb dJ0_getBytes_840e7_17 rfl (lv_at hl 0 rfl) ?_
    obtain ⟨u18, o18, h⟩ := h
    refine vk_getf hx hb (hG.xl.1.1 x0 (g_six_lt o18)).2.2.1 hG.2.1 hown (hts _ qF_J0_9) (fun _ h => h) dJ0_getBytes_840e7_18 ?_
    refine va_tlen hx hb (hG.xl.1.1 x0 (g_six_lt o18)).2.2.2 hG.2.1 rfl dJ0_getBytes_840e7_21 ?_
    refine g_cpyU hx hb hml hl.1 hown hts qM_J0_212 hK hG h (Nat.le_of_ble_eq_true rfl) (Nat.le_of_ble_eq_true rfl) dJ0_getBytes_840e7_22 (fun G22 H locs h hG => ?_)
    refine lv_goto (tgt := 43) hx hb dJ0_getBytes_840e7_25 (by decide) ?_
    obtain ⟨y1, y2, h⟩ := h
    refine W.widen (k := MC) (n := MS) y1 y2 ?_
    exact g_vret hx hb hr hlocks hK hlo hG h dJ0_getBytes_840e7_43
set_option maxRecDepth 20000 in
set_option maxHeartbeats 4000000 in
theorem m_J5_putStringAt_47b60_A (MC MS : Nat) (l : Launch) (hfl : l.stackTraces = false) (dd : va_G) (cT : Nat → ClassId) (lo : Nat → Prop) (G : gH) (a0 : Nat) (x1 : Int32) (a2 : Nat) {K : gH → Prop} (h : w_J5_putStringAt_47b60_A MC MS G a0 x1 a2 K) : Met l yJ5_putStringAt_47b60 (Cond.code yJ5_putStringAt_47b60 cJ5_putStringAt_47b60 3 none :: wsL_law) (g_rm 3 63 MC MS) (va_Pc [.ref a0, .int x1, .ref a2] (g_Pre lo dd cT G)) (va_Qv K (g_Pre lo dd cT) (g_A lo)) MC MS (g_A lo) := by
  refine g_start RJ5 rfl (by decide) (Nat.le_of_ble_eq_true rfl) ?_
  intro p e s m below meth c hx hb hr hlocks hml hown hnm hts hK hG hlo ls hl
  have hl : lv_has ls 3 [(0, .ref a0), (1, .int x1), (2, .ref a2)] := hl
  have hG : g_S lo dd cT s s.heap [] G := hG
  unfold w_J5_putStringAt_47b60_A at h
  refine lv_aload_n hx hb dJ5_putStringAt_47b60_0 rfl (lv_at hl 0 rfl) ?_
  refine lv_aload_n hx hb dJ5_putStringAt_47b60_1 rfl (lv_at hl 2 rfl) ?_
  obtain ⟨C2, R2, d2, g2, h⟩ := h
  obtain ⟨u2, o2, h⟩ := h
  obtain ⟨y2, h⟩ := h
  rw [g2] at hG
  refine g_wUv (As := [.ref a2]) (rest := []) (n := 1) (owner := RJ5) hx hb hml hown hts hK hlo hG (g_frV d2 (fun lo => m_J5_inflateIfNeededFor_a7421_A 0 0 l hfl dd cT lo C2 a0 a2 h) lo) qM_J5_397 qW_sameMethod__java_lang_AbstractStringBuilder_java_lang_AbstractStringBuilder_inflateIfNeededFor_Ljava_lang_String_V_ qS_J4_inflateIfNeededFor__Ljava_lang_String__V qI_yJ5_inflateIfNeededFor_a7421 qN_J5 qC_yJ5_inflateIfNeededFor_a7421 rfl (by decide +kernel) ⟨Nat.le_of_ble_eq_true rfl, Nat.le_of_ble_eq_true rfl⟩ (by rfl) (g_ob_gj o2) rfl hl.1 rfl (Nat.le_of_ble_eq_true rfl) dJ5_putStringAt_47b60_2 y2 (fun Gx H locs hKx hG => ?_)
  obtain ⟨D2, h, f2, rfl⟩ := hKx
  obtain ⟨G2, i2⟩ : ∃ g : gH, g = gj D2 R2 := ⟨_, rfl⟩
  rw [← i2] at hG
  replace h := h G2 f2 i2
  refine lv_aload_n hx hb dJ5_putStringAt_47b60_5 rfl (lv_at hl 2 rfl) ?_
  refine lv_aload_n hx hb dJ5_putStringAt_47b60_6 rfl (lv_at hl 0 rfl) ?_
  obtain ⟨v7, e7, h⟩ := h
  refine g_getr hx hb hts inlJ4 hown hK hG (by rfl) 0 (by decide) qF_J5_15 e7 dJ5_putStringAt_47b60_7 ?_
  refine lv_iload_n hx hb dJ5_putStringAt_47b60_10 rfl (lv_at hl 1 rfl) ?_
  refine lv_aload_n hx hb dJ5_putStringAt_47b60_11 rfl (lv_at hl 0 rfl) ?_
  obtain ⟨v12, e12, h⟩ := h
  refine g_geti hx hb hts inlJ4 hown hK hG (by rfl) 1 (by decide) qF_J5_22 e12 dJ5_putStringAt_47b60_12 ?_
  obtain ⟨C15, R15, d15, g15, h⟩ := h
  obtain ⟨u15, o15, h⟩ := h
  obtain ⟨y15, h⟩ := h
  rw [g15] at hG
  refine g_wVv (As := [.ref v7, .int x1, .int v12]) (rest := []) (n := 3) hx hb hml hown hts hK hlo hG (g_frV d15 (fun lo => m_J0_getBytes_840e7_A 0 0 l hfl dd cT lo C15 a2 v7 x1 v12 h) lo) qM_J5_399 qI_yJ0_getBytes_840e7 qS_J0_yJ0_getBytes_840e7 qN_J0 qC_yJ0_getBytes_840e7 (by decide +kernel) ⟨Nat.le_of_ble_eq_true rfl, Nat.le_of_ble_eq_true rfl⟩ (by rfl) (g_ob_gj o15) rfl hl.1 rfl (Nat.le_of_ble_eq_true rfl) dJ5_putStringAt_47b60_15 y15 (fun Gx H locs hKx hG => ?_)
  obtain ⟨D15, h, f15, rfl⟩ := hKx
  obtain ⟨G15, i15⟩ : ∃ g : gH, g = gj D15 R15 := ⟨_, rfl⟩
  rw [← i15] at hG
  replace h := h G15 f15 i15
  obtain ⟨y1, y2, h⟩ := h
  refine W.widen (k := MC) (n := MS) y1 y2 ?_
  exact g_vret hx hb hr hlocks hK hlo hG h dJ5_putStringAt_47b60_18
set_option maxRecDepth 20000 in
set_option maxHeartbeats 4000000 in
theorem m_J5_putStringAt_47b60_U (MC MS : Nat) (l : Launch) (hfl : l.stackTraces = false) (dd : va_G) (cT : Nat → ClassId) (lo : Nat → Prop) (G : gH) (a0 : Nat) (x1 : Int32) (x2 : Nat) {K : gH → Prop} (h : w_J5_putStringAt_47b60_U MC MS G a0 x1 x2 K) : Met l yJ5_putStringAt_47b60 (Cond.code yJ5_putStringAt_47b60 cJ5_putStringAt_47b60 3 none :: wsL_law) (g_rm 3 63 MC MS) (va_Pc [.ref a0, .int x1, .ref (dd.2 102 x2)] (g_Pre lo dd cT G)) (va_Qv K (g_Pre lo dd cT) (g_A lo)) MC MS (g_A lo) := by
  refine g_start RJ5 rfl (by decide) (Nat.le_of_ble_eq_true rfl) ?_
  intro p e s m below meth c hx hb hr hlocks hml hown hnm hts hK hG hlo ls hl
  have hl : lv_has ls 3 [(0, .ref a0), (1, .int x1), (2, .ref (dd.2 102 x2))] := hl
  have hG : g_S lo dd cT s s.heap [] G := hG
  unfold w_J5_putStringAt_47b60_U at h
  refine lv_aload_n hx hb dJ5_putStringAt_47b60_0 rfl (lv_at hl 0 rfl) ?_
  refine lv_aload_n hx hb dJ5_putStringAt_47b60_1 rfl (lv_at hl 2 rfl) ?_
  obtain ⟨C2, R2, d2, g2, h⟩ := h
  obtain ⟨u2, o2, h⟩ := h
  obtain ⟨y2, h⟩ := h
  rw [g2] at hG
  refine g_wUv (As := [.ref (dd.2 102 x2)]) (rest := []) (n := 1) (owner := RJ5) hx hb hml hown hts hK hlo hG (g_frV d2 (fun lo => m_J5_inflateIfNeededFor_a7421_U 0 0 l hfl dd cT lo C2 a0 x2 h) lo) qM_J5_397 qW_sameMethod__java_lang_AbstractStringBuilder_java_lang_AbstractStringBuilder_inflateIfNeededFor_Ljava_lang_String_V_ qS_J4_inflateIfNeededFor__Ljava_lang_String__V qI_yJ5_inflateIfNeededFor_a7421 qN_J5 qC_yJ5_inflateIfNeededFor_a7421 rfl (by decide +kernel) ⟨Nat.le_of_ble_eq_true rfl, Nat.le_of_ble_eq_true rfl⟩ (by rfl) (g_ob_gj o2) rfl hl.1 rfl (Nat.le_of_ble_eq_true rfl) dJ5_putStringAt_47b60_2 y2 (fun Gx H locs hKx hG => ?_)
  obtain ⟨D2, h, f2, rfl⟩ := hKx
  obtain ⟨G2, i2⟩ : ∃ g : gH, g = gj D2 R2 := ⟨_, rfl⟩
  rw [← i2] at hG
  replace h := h G2 f2 i2
  refine lv_aload_n hx hb dJ5_putStringAt_47b60_5 rfl (lv_at hl 2 rfl) ?_
  refine lv_aload_n hx hb dJ5_putStringAt_47b60_6 rfl (lv_at hl 0 rfl) ?_
  obtain ⟨v7, e7, h⟩ := h
  refine g_getr hx hb hts inlJ4 hown hK hG (by rfl) 0 (by decide) qF_J5_15 e7 dJ5_putStringAt_47b60_7 ?_
  refine lv_iload_n hx hb dJ5_putStringAt_47b60_10 rfl (lv_at hl 1 rfl) ?_
  refine lv_aload_n hx hb dJ5_putStringAt_47b60_11 rfl (lv_at hl 0 rfl) ?_
  obtain ⟨v12, e12, h⟩ := h
  refine g_geti hx hb hts inlJ4 hown hK hG (by rfl) 1 (by decide) qF_J5_22 e12 dJ5_putStringAt_47b60_12 ?_
  obtain ⟨C15, R15, d15, g15, h⟩ := h
  obtain ⟨u15, o15, h⟩ := h
  obtain ⟨y15, h⟩ := h
  rw [g15] at hG
  refine g_wTv (As := [.ref v7, .int x1, .int v12]) (rest := []) (n := 3) (i := x2) hx hb hml hown hts hK hlo hG (g_frV d15 (fun lo => m_J0_getBytes_840e7_U 0 0 l hfl dd cT lo C15 x2 v7 x1 v12 h) lo) qM_J5_399 qI_yJ0_getBytes_840e7 qS_J0_yJ0_getBytes_840e7 qN_J0 qC_yJ0_getBytes_840e7 (by decide +kernel) ⟨Nat.le_of_ble_eq_true rfl, Nat.le_of_ble_eq_true rfl⟩ (g_six_lt o15) rfl hl.1 rfl (Nat.le_of_ble_eq_true rfl) dJ5_putStringAt_47b60_15 y15 (fun Gx H locs hKx hG => ?_)
  obtain ⟨D15, h, f15, rfl⟩ := hKx
  obtain ⟨G15, i15⟩ : ∃ g : gH, g = gj D15 R15 := ⟨_, rfl⟩
  rw [← i15] at hG
  replace h := h G15 f15 i15
  obtain ⟨y1, y2, h⟩ := h
  refine W.widen (k := MC) (n := MS) y1 y2 ?_
  exact g_vret hx hb hr hlocks hK hlo hG h dJ5_putStringAt_47b60_18
set_option maxRecDepth 20000 in
set_option maxHeartbeats 4000000 in
theorem m_J7_copyOf_9075b (MC MS : Nat) (l : Launch) (hfl : l.stackTraces = false) (dd : va_G) (cT : Nat → ClassId) (lo : Nat → Prop) (G : gH) (a0 : Nat) (x1 : Int32) {K : Option Nat → gH → Prop} (h : w_J7_copyOf_9075b MC MS G a0 x1 K) : Met l yJ7_copyOf_9075b (Cond.code yJ7_copyOf_9075b cJ7_copyOf_9075b 3 (some (.array .byte)) :: wsL_law) (g_rm 2 40 MC MS) (va_Pc [.ref a0, .int x1] (g_Pre lo dd cT G)) (va_Qq K (g_Pre lo dd cT) (g_A lo)) MC MS (g_A lo) := by
  refine g_start RJ7 rfl (by decide) (Nat.le_of_ble_eq_true rfl) ?_
  intro p e s m below meth c hx hb hr hlocks hml hown hnm hts hK hG hlo ls hl
  have hl : lv_has ls 3 [(0, .ref a0), (1, .int x1)] := hl
  have hG : g_S lo dd cT s s.heap [] G := hG
  unfold w_J7_copyOf_9075b at h
  refine lv_iload_n hx hb dJ7_copyOf_9075b_0 rfl (lv_at hl 1 rfl) ?_
  refine lv_aload_n hx hb dJ7_copyOf_9075b_1 rfl (lv_at hl 0 rfl) ?_
  obtain ⟨v2, e2, h⟩ := h
  refine g_alen hx hb hK hG e2 dJ7_copyOf_9075b_2 ?_
  refine lv_icmp_ne (tgt := 14) hx hb dJ7_copyOf_9075b_3 (by decide) (fun c3 => ?_) (fun c3 => ?_)
  · rw [if_neg c3] at h
    refine lv_iload_n hx hb dJ7_copyOf_9075b_14 rfl (lv_at hl 1 rfl) ?_
    refine g_newbR hx hb hts hK hlo hG h dJ7_copyOf_9075b_15 (fun q15 G15 H h hG => ?_)
    refine lv_astore_n (lv' := [(2, .ref q15), (0, .ref a0), (1, .int x1)]) hx hb dJ7_copyOf_9075b_17 rfl hl (by decide) rfl (fun ls hl => ?_)
    refine lv_aload_n hx hb dJ7_copyOf_9075b_18 rfl (lv_at hl 1 rfl) ?_
    refine lv_iconst (v := (0 : Int32)) hx hb dJ7_copyOf_9075b_19 (by decide) ?_
    refine lv_aload_n hx hb dJ7_copyOf_9075b_20 rfl (lv_at hl 0 rfl) ?_
    refine lv_iconst (v := (0 : Int32)) hx hb dJ7_copyOf_9075b_21 (by decide) ?_
    refine lv_aload_n hx hb dJ7_copyOf_9075b_22 rfl (lv_at hl 1 rfl) ?_
    obtain ⟨v23, e23, h⟩ := h
    refine g_alen hx hb hK hG e23 dJ7_copyOf_9075b_23 ?_
    refine lv_iload_n hx hb dJ7_copyOf_9075b_24 rfl (lv_at hl 2 rfl) ?_
    obtain ⟨y25, h⟩ := h
    refine va_mmin hx hb (hml.trans hl.1.symm) hown (hts _ qM_J7_304) (hts _ qT_Lib_Math_min_name) (hts _ qN_java_lang_Math) (hts _ qC_Lib_Math_min_name) (Nat.le_of_ble_eq_true rfl) (Nat.le_of_ble_eq_true rfl) y25.1 y25.2 dJ7_copyOf_9075b_25 ?_
    refine g_cpyb hx hb hml hl.1 hown hts qM_J7_150 hK hG h (Nat.le_of_ble_eq_true rfl) (Nat.le_of_ble_eq_true rfl) dJ7_copyOf_9075b_28 (fun G28 H locs h hG => ?_)
    refine lv_aload_n hx hb dJ7_copyOf_9075b_31 rfl (lv_at hl 0 rfl) ?_
    obtain ⟨y1, y2, h⟩ := h
    refine W.widen (k := MC) (n := MS) y1 y2 ?_
    exact g_qretB hx hb hr hlocks hK hlo hG h dJ7_copyOf_9075b_32
  · rw [if_pos c3] at h
    refine lv_aload_n hx hb dJ7_copyOf_9075b_6 rfl (lv_at hl 0 rfl) ?_
    refine g_clnR hx hb hml hl.1 hown hts qM_J7_310 hK hlo hG h (Nat.le_of_ble_eq_true rfl) (Nat.le_of_ble_eq_true rfl) dJ7_copyOf_9075b_7 (fun n7 q7 G7 H h hG => ?_)
    obtain ⟨u10, o10, h⟩ := h
    refine g_castb hx hb hown hts qL_J7_311 hK hG o10 dJ7_copyOf_9075b_10 ?_
    obtain ⟨y1, y2, h⟩ := h
    refine W.widen (k := MC) (n := MS) y1 y2 ?_
    exact g_qretB hx hb hr hlocks hK hlo hG h dJ7_copyOf_9075b_13
set_option maxRecDepth 20000 in
set_option maxHeartbeats 4000000 in
theorem m_J7_copyOfRangeByte_39247 (MC MS : Nat) (l : Launch) (hfl : l.stackTraces = false) (dd : va_G) (cT : Nat → ClassId) (lo : Nat → Prop) (G : gH) (a0 : Nat) (x1 : Int32) (x2 : Int32) {K : Option Nat → gH → Prop} (h : w_J7_copyOfRangeByte_39247 MC MS G a0 x1 x2 K) : Met l yJ7_copyOfRangeByte_39247 (Cond.code yJ7_copyOfRangeByte_39247 cJ7_copyOfRangeByte_39247 5 (some (.array .byte)) :: wsL_law) (g_rm 2 40 MC MS) (va_Pc [.ref a0, .int x1, .int x2] (g_Pre lo dd cT G)) (va_Qq K (g_Pre lo dd cT) (g_A lo)) MC MS (g_A lo) := by
  refine g_start RJ7 rfl (by decide) (Nat.le_of_ble_eq_true rfl) ?_
  intro p e s m below meth c hx hb hr hlocks hml hown hnm hts hK hG hlo ls hl
  have hl : lv_has ls 5 [(0, .ref a0), (1, .int x1), (2, .int x2)] := hl
  have hG : g_S lo dd cT s s.heap [] G := hG
  unfold w_J7_copyOfRangeByte_39247 at h
  refine lv_iload_n hx hb dJ7_copyOfRangeByte_39247_0 rfl (lv_at hl 1 rfl) ?_
  refine lv_iload_n hx hb dJ7_copyOfRangeByte_39247_1 rfl (lv_at hl 2 rfl) ?_
  obtain ⟨C2, R2, d2, g2, h⟩ := h
  obtain ⟨y2, h⟩ := h
  obtain ⟨v2, e2, h⟩ := h
  rw [g2] at hG
  refine g_wAv (As := [.int x1, .int x2]) (rest := []) (n := 2) hx hb hml hown hts hK hlo hG (g_frV d2 (fun lo => m_J7_checkLength_df160 l dd cT lo C2 x1 x2 e2) lo) qM_J7_343 qT_yJ7_checkLength_df160 qN_J7 qC_yJ7_checkLength_df160 (by decide +kernel) ⟨Nat.le_of_ble_eq_true rfl, Nat.le_of_ble_eq_true rfl⟩ rfl hl.1 rfl (Nat.le_of_ble_eq_true rfl) dJ7_copyOfRangeByte_39247_2 y2 (fun Gx H locs hKx hG => ?_)
  obtain ⟨D2, k2, f2, l2⟩ := hKx
  rw [l2, k2] at hG
  rw [k2] at f2
  rw [← g2] at hG
  refine lv_iload_n hx hb dJ7_copyOfRangeByte_39247_5 rfl (lv_at hl 2 rfl) ?_
  refine lv_iload_n hx hb dJ7_copyOfRangeByte_39247_6 rfl (lv_at hl 1 rfl) ?_
  refine lv_isub hx hb dJ7_copyOfRangeByte_39247_7 ?_
  refine lv_istore_n (lv' := [(3, .int (x2 - x1)), (0, .ref a0), (1, .int x1), (2, .int x2)]) hx hb dJ7_copyOfRangeByte_39247_8 rfl hl (by decide) rfl (fun ls hl => ?_)
  refine lv_iload_n hx hb dJ7_copyOfRangeByte_39247_9 rfl (lv_at hl 0 rfl) ?_
  refine g_newbR hx hb hts hK hlo hG h dJ7_copyOfRangeByte_39247_10 (fun q10 G10 H h hG => ?_)
  refine lv_astore (lv' := [(4, .ref q10), (3, .int (x2 - x1)), (0, .ref a0), (1, .int x1), (2, .int x2)]) hx hb dJ7_copyOfRangeByte_39247_12 hl (by decide) rfl (fun ls hl => ?_)
  refine lv_aload_n hx hb dJ7_copyOfRangeByte_39247_14 rfl (lv_at hl 2 rfl) ?_
  refine lv_iload_n hx hb dJ7_copyOfRangeByte_39247_15 rfl (lv_at hl 3 rfl) ?_
  refine lv_aload hx hb dJ7_copyOfRangeByte_39247_16 (lv_at hl 0 rfl) ?_
  refine lv_iconst (v := (0 : Int32)) hx hb dJ7_copyOfRangeByte_39247_18 (by decide) ?_
  refine lv_aload_n hx hb dJ7_copyOfRangeByte_39247_19 rfl (lv_at hl 2 rfl) ?_
  obtain ⟨v20, e20, h⟩ := h
  refine g_alen hx hb hK hG e20 dJ7_copyOfRangeByte_39247_20 ?_
  refine lv_iload_n hx hb dJ7_copyOfRangeByte_39247_21 rfl (lv_at hl 3 rfl) ?_
  refine lv_isub hx hb dJ7_copyOfRangeByte_39247_22 ?_
  refine lv_iload_n hx hb dJ7_copyOfRangeByte_39247_23 rfl (lv_at hl 1 rfl) ?_
  obtain ⟨y24, h⟩ := h
  refine va_mmin hx hb (hml.trans hl.1.symm) hown (hts _ qM_J7_304) (hts _ qT_Lib_Math_min_name) (hts _ qN_java_lang_Math) (hts _ qC_Lib_Math_min_name) (Nat.le_of_ble_eq_true rfl) (Nat.le_of_ble_eq_true rfl) y24.1 y24.2 dJ7_copyOfRangeByte_39247_24 ?_
  refine g_cpyb hx hb hml hl.1 hown hts qM_J7_150 hK hG h (Nat.le_of_ble_eq_true rfl) (Nat.le_of_ble_eq_true rfl) dJ7_copyOfRangeByte_39247_27 (fun G27 H locs h hG => ?_)
  refine lv_aload hx hb dJ7_copyOfRangeByte_39247_30 (lv_at hl 0 rfl) ?_
  obtain ⟨y1, y2, h⟩ := h
  refine W.widen (k := MC) (n := MS) y1 y2 ?_
  exact g_qretB hx hb hr hlocks hK hlo hG h dJ7_copyOfRangeByte_39247_32
set_option maxRecDepth 20000 in
set_option maxHeartbeats 4000000 in
theorem m_J7_copyOfRange_39247 (MC MS : Nat) (l : Launch) (hfl : l.stackTraces = false) (dd : va_G) (cT : Nat → ClassId) (lo : Nat → Prop) (G : gH) (a0 : Nat) (x1 : Int32) (x2 : Int32) {K : Option Nat → gH → Prop} (h : w_J7_copyOfRange_39247 MC MS G a0 x1 x2 K) : Met l yJ7_copyOfRange_39247 (Cond.code yJ7_copyOfRange_39247 cJ7_copyOfRange_39247 3 (some (.array .byte)) :: wsL_law) (g_rm 3 64 MC MS) (va_Pc [.ref a0, .int x1, .int x2] (g_Pre lo dd cT G)) (va_Qq K (g_Pre lo dd cT) (g_A lo)) MC MS (g_A lo) := by
  refine g_start RJ7 rfl (by decide) (Nat.le_of_ble_eq_true rfl) ?_
  intro p e s m below meth c hx hb hr hlocks hml hown hnm hts hK hG hlo ls hl
  have hl : lv_has ls 3 [(0, .ref a0), (1, .int x1), (2, .int x2)] := hl
  have hG : g_S lo dd cT s s.heap [] G := hG
  unfold w_J7_copyOfRange_39247 at h
  refine lv_iload_n hx hb dJ7_copyOfRange_39247_0 rfl (lv_at hl 1 rfl) ?_
  refine lv_if_ne (tgt := 10) hx hb dJ7_copyOfRange_39247_1 (by decide) (fun c1 => ?_) (fun c1 => ?_)
  · rw [if_neg c1] at h
    refine lv_aload_n hx hb dJ7_copyOfRange_39247_10 rfl (lv_at hl 0 rfl) ?_
    refine lv_iload_n hx hb dJ7_copyOfRange_39247_11 rfl (lv_at hl 1 rfl) ?_
    refine lv_iload_n hx hb dJ7_copyOfRange_39247_12 rfl (lv_at hl 2 rfl) ?_
    obtain ⟨C13, R13, d13, g13, h⟩ := h
    obtain ⟨y13, h⟩ := h
    rw [g13] at hG
    refine g_wAq (As := [.ref a0, .int x1, .int x2]) (rest := []) (n := 3) hx hb hml hown hts hK hlo hG (g_frQ d13 (fun lo => m_J7_copyOfRangeByte_39247 1 1000 l hfl dd cT lo C13 a0 x1 x2 h) lo) qM_J7_339 qT_yJ7_copyOfRangeByte_39247 qN_J7 qC_yJ7_copyOfRangeByte_39247 (by decide +kernel) ⟨Nat.le_of_ble_eq_true rfl, Nat.le_of_ble_eq_true rfl⟩ rfl hl.1 rfl (Nat.le_of_ble_eq_true rfl) dJ7_copyOfRange_39247_13 y13 (fun v13x Gx H locs hKx hG => ?_)
    obtain ⟨D13, h, f13, rfl⟩ := hKx
    obtain ⟨G13, i13⟩ : ∃ g : gH, g = gj D13 R13 := ⟨_, rfl⟩
    rw [← i13] at hG
    replace h := h G13 f13 i13
    revert h
    generalize v13x = v13
    intro h
    obtain ⟨r13, rfl, h⟩ := h
    obtain ⟨y1, y2, h⟩ := h
    refine W.widen (k := MC) (n := MS) y1 y2 ?_
    exact g_qretB hx hb hr hlocks hK hlo hG h dJ7_copyOfRange_39247_16
  · rw [if_pos c1] at h
    refine lv_iload_n hx hb dJ7_copyOfRange_39247_4 rfl (lv_at hl 2 rfl) ?_
    refine lv_aload_n hx hb dJ7_copyOfRange_39247_5 rfl (lv_at hl 0 rfl) ?_
    obtain ⟨v6, e6, h⟩ := h
    refine g_alen hx hb hK hG e6 dJ7_copyOfRange_39247_6 ?_
    refine lv_icmp_eq (tgt := 17) hx hb dJ7_copyOfRange_39247_7 (by decide) (fun c7 => ?_) (fun c7 => ?_)
    · rw [if_pos c7] at h
      refine lv_aload_n hx hb dJ7_copyOfRange_39247_17 rfl (lv_at hl 0 rfl) ?_
      refine g_clnR hx hb hml hl.1 hown hts qM_J7_310 hK hlo hG h (Nat.le_of_ble_eq_true rfl) (Nat.le_of_ble_eq_true rfl) dJ7_copyOfRange_39247_18 (fun n18 q18 G18 H h hG => ?_)
      obtain ⟨u21, o21, h⟩ := h
      refine g_castb hx hb hown hts qL_J7_311 hK hG o21 dJ7_copyOfRange_39247_21 ?_
      obtain ⟨y1, y2, h⟩ := h
      refine W.widen (k := MC) (n := MS) y1 y2 ?_
      exact g_qretB hx hb hr hlocks hK hlo hG h dJ7_copyOfRange_39247_24
    · rw [if_neg c7] at h
      refine lv_aload_n hx hb dJ7_copyOfRange_39247_10 rfl (lv_at hl 0 rfl) ?_
      refine lv_iload_n hx hb dJ7_copyOfRange_39247_11 rfl (lv_at hl 1 rfl) ?_
      refine lv_iload_n hx hb dJ7_copyOfRange_39247_12 rfl (lv_at hl 2 rfl) ?_
      obtain ⟨C13, R13, d13, g13, h⟩ := h
      obtain ⟨y13, h⟩ := h
      rw [g13] at hG
      refine g_wAq (As := [.ref a0, .int x1, .int x2]) (rest := []) (n := 3) hx hb hml hown hts hK hlo hG (g_frQ d13 (fun lo => m_J7_copyOfRangeByte_39247 1 1000 l hfl dd cT lo C13 a0 x1 x2 h) lo) qM_J7_339 qT_yJ7_copyOfRangeByte_39247 qN_J7 qC_yJ7_copyOfRangeByte_39247 (by decide +kernel) ⟨Nat.le_of_ble_eq_true rfl, Nat.le_of_ble_eq_true rfl⟩ rfl hl.1 rfl (Nat.le_of_ble_eq_true rfl) dJ7_copyOfRange_39247_13 y13 (fun v13x Gx H locs hKx hG => ?_)
      obtain ⟨D13, h, f13, rfl⟩ := hKx
      obtain ⟨G13, i13⟩ : ∃ g : gH, g = gj D13 R13 := ⟨_, rfl⟩
      rw [← i13] at hG
      replace h := h G13 f13 i13
      revert h
      generalize v13x = v13
      intro h
      obtain ⟨r13, rfl, h⟩ := h
      obtain ⟨y1, y2, h⟩ := h
      refine W.widen (k := MC) (n := MS) y1 y2 ?_
      exact g_qretB hx hb hr hlocks hK hlo hG h dJ7_copyOfRange_39247_16
set_option maxRecDepth 20000 in
set_option maxHeartbeats 4000000 in
theorem m_J5_ensureCapacityInternal_d00df (MC MS : Nat) (l : Launch) (hfl : l.stackTraces = false) (dd : va_G) (cT : Nat → ClassId) (lo : Nat → Prop) (G : gH) (a0 : Nat) (x1 : Int32) {K : gH → Prop} (h : w_J5_ensureCapacityInternal_d00df MC MS G a0 x1 K) : Met l yJ5_ensureCapacityInternal_d00df (Cond.code yJ5_ensureCapacityInternal_d00df cJ5_ensureCapacityInternal_d00df 3 none :: wsL_law) (g_rm 3 88 MC MS) (va_Pc [.ref a0, .int x1] (g_Pre lo dd cT G)) (va_Qv K (g_Pre lo dd cT) (g_A lo)) MC MS (g_A lo) := by
  refine g_start RJ5 rfl (by decide) (Nat.le_of_ble_eq_true rfl) ?_
  intro p e s m below meth c hx hb hr hlocks hml hown hnm hts hK hG hlo ls hl
  have hl : lv_has ls 3 [(0, .ref a0), (1, .int x1)] := hl
  have hG : g_S lo dd cT s s.heap [] G := hG
  unfold w_J5_ensureCapacityInternal_d00df at h
  refine lv_aload_n hx hb dJ5_ensureCapacityInternal_d00df_0 rfl (lv_at hl 0 rfl) ?_
  obtain ⟨v1, e1, h⟩ := h
  refine g_getr hx hb hts inlJ4 hown hK hG (by rfl) 0 (by decide) qF_J5_15 e1 dJ5_ensureCapacityInternal_d00df_1 ?_
  obtain ⟨v4, e4, h⟩ := h
  refine g_alen hx hb hK hG e4 dJ5_ensureCapacityInternal_d00df_4 ?_
  refine lv_aload_n hx hb dJ5_ensureCapacityInternal_d00df_5 rfl (lv_at hl 0 rfl) ?_
  obtain ⟨v6, e6, h⟩ := h
  refine g_geti hx hb hts inlJ4 hown hK hG (by rfl) 1 (by decide) qF_J5_22 e6 dJ5_ensureCapacityInternal_d00df_6 ?_
  refine lv_ishr hx hb dJ5_ensureCapacityInternal_d00df_9 ?_
  refine lv_istore_n (lv' := [(2, .int (v4 >>> (v6 &&& 31))), (0, .ref a0), (1, .int x1)]) hx hb dJ5_ensureCapacityInternal_d00df_10 rfl hl (by decide) rfl (fun ls hl => ?_)
  refine lv_iload_n hx hb dJ5_ensureCapacityInternal_d00df_11 rfl (lv_at hl 2 rfl) ?_
  refine lv_iload_n hx hb dJ5_ensureCapacityInternal_d00df_12 rfl (lv_at hl 0 rfl) ?_
  refine lv_isub hx hb dJ5_ensureCapacityInternal_d00df_13 ?_
  refine lv_if_le (tgt := 38) hx hb dJ5_ensureCapacityInternal_d00df_14 (by decide) (fun c14 => ?_) (fun c14 => ?_)
  · rw [if_pos c14] at h
    obtain ⟨y1, y2, h⟩ := h
    refine W.widen (k := MC) (n := MS) y1 y2 ?_
    exact g_vret hx hb hr hlocks hK hlo hG h dJ5_ensureCapacityInternal_d00df_38
  · rw [if_neg c14] at h
    refine lv_aload_n hx hb dJ5_ensureCapacityInternal_d00df_17 rfl (lv_at hl 1 rfl) ?_
    refine lv_aload_n hx hb dJ5_ensureCapacityInternal_d00df_18 rfl (lv_at hl 1 rfl) ?_
    obtain ⟨v19, e19, h⟩ := h
    refine g_getr hx hb hts inlJ4 hown hK hG (by rfl) 0 (by decide) qF_J5_15 e19 dJ5_ensureCapacityInternal_d00df_19 ?_
    refine lv_aload_n hx hb dJ5_ensureCapacityInternal_d00df_22 rfl (lv_at hl 1 rfl) ?_
    refine lv_iload_n hx hb dJ5_ensureCapacityInternal_d00df_23 rfl (lv_at hl 2 rfl) ?_
    obtain ⟨C24, R24, d24, g24, h⟩ := h
    obtain ⟨u24, o24, h⟩ := h
    obtain ⟨y24, h⟩ := h
    obtain ⟨v24, e24, h⟩ := h
    rw [g24] at hG
    refine g_wUi (As := [.int x1]) (rest := [.ref v19, .ref a0]) (n := 1) (owner := RJ5) hx hb hml hown hts hK hlo hG (g_frI d24 (fun lo => m_J5_newCapacity_0f7a4 l dd cT lo C24 a0 x1 e24) lo) qM_J5_104 qW_sameMethod__java_lang_AbstractStringBuilder_java_lang_AbstractStringBuilder_newCapacity_I_I_ qS_J4_newCapacity__I_I qI_yJ5_newCapacity_0f7a4 qN_J5 qC_yJ5_newCapacity_0f7a4 rfl (by decide +kernel) ⟨Nat.le_of_ble_eq_true rfl, Nat.le_of_ble_eq_true rfl⟩ (by rfl) (g_ob_gj o24) rfl hl.1 rfl (Nat.le_of_ble_eq_true rfl) dJ5_ensureCapacityInternal_d00df_24 y24 (fun v24x Gx H locs hKx hG => ?_)
    obtain ⟨D24, ⟨k24a, k24⟩, f24, l24⟩ := hKx
    rw [l24, k24] at hG
    rw [k24] at f24
    rw [k24a]
    rw [← g24] at hG
    refine lv_aload_n hx hb dJ5_ensureCapacityInternal_d00df_27 rfl (lv_at hl 1 rfl) ?_
    obtain ⟨v28, e28, h⟩ := h
    refine g_geti hx hb hts inlJ4 hown hK hG (by rfl) 1 (by decide) qF_J5_22 e28 dJ5_ensureCapacityInternal_d00df_28 ?_
    refine lv_ishl hx hb dJ5_ensureCapacityInternal_d00df_31 ?_
    obtain ⟨C32, R32, d32, g32, h⟩ := h
    obtain ⟨y32, h⟩ := h
    rw [g32] at hG
    refine g_wAq (As := [.ref v19, .int (v24 <<< (v28 &&& 31))]) (rest := [.ref a0]) (n := 2) hx hb hml hown hts hK hlo hG (g_frQ d32 (fun lo => m_J7_copyOf_9075b 1 1000 l hfl dd cT lo C32 v19 (v24 <<< (v28 &&& 31)) h) lo) qM_J5_108 qT_yJ7_copyOf_9075b qN_J7 qC_yJ7_copyOf_9075b (by decide +kernel) ⟨Nat.le_of_ble_eq_true rfl, Nat.le_of_ble_eq_true rfl⟩ rfl hl.1 rfl (Nat.le_of_ble_eq_true rfl) dJ5_ensureCapacityInternal_d00df_32 y32 (fun v32x Gx H locs hKx hG => ?_)
    obtain ⟨D32, h, f32, rfl⟩ := hKx
    obtain ⟨G32, i32⟩ : ∃ g : gH, g = gj D32 R32 := ⟨_, rfl⟩
    rw [← i32] at hG
    replace h := h G32 f32 i32
    revert h
    generalize v32x = v32
    intro h
    obtain ⟨r32, rfl, h⟩ := h
    obtain ⟨G35, i35, h⟩ := h
    refine g_putv hx hb hts inlJ4 tyJ4 tyJ4_ok nmJ4 hown hK hG (by rfl) 0 (by decide) qF_J5_15 rfl rfl rfl rfl i35 dJ5_ensureCapacityInternal_d00df_35 (fun H locs hG => ?_)
    obtain ⟨y1, y2, h⟩ := h
    refine W.widen (k := MC) (n := MS) y1 y2 ?_
    exact g_vret hx hb hr hlocks hK hlo hG h dJ5_ensureCapacityInternal_d00df_38
set_option maxRecDepth 20000 in
set_option maxHeartbeats 4000000 in
theorem m_J5_append_cf1ce_A (MC MS : Nat) (l : Launch) (hfl : l.stackTraces = false) (dd : va_G) (cT : Nat → ClassId) (lo : Nat → Prop) (G : gH) (a0 : Nat) (a1 : Nat) {K : Option Nat → gH → Prop} (h : w_J5_append_cf1ce_A MC MS G a0 a1 K) : Met l yJ5_append_cf1ce (Cond.code yJ5_append_cf1ce cJ5_append_cf1ce 3 (some (.object "java/lang/AbstractStringBuilder")) :: wsL_law) (g_rm 4 110 MC MS) (va_Pc [.ref a0, .ref a1] (g_Pre lo dd cT G)) (va_Qq K (g_Pre lo dd cT) (g_A lo)) MC MS (g_A lo) := by
  refine g_start RJ5 rfl (by decide) (Nat.le_of_ble_eq_true rfl) ?_
  intro p e s m below meth c hx hb hr hlocks hml hown hnm hts hK hG hlo ls hl
  have hl : lv_has ls 3 [(0, .ref a0), (1, .ref a1)] := hl
  have hG : g_S lo dd cT s s.heap [] G := hG
  unfold w_J5_append_cf1ce_A at h
  refine lv_aload_n hx hb dJ5_append_cf1ce_0 rfl (lv_at hl 1 rfl) ?_
  refine lv_ifnonnull (tgt := 9) hx hb dJ5_append_cf1ce_1 (by decide) ?_
  refine lv_aload_n hx hb dJ5_append_cf1ce_9 rfl (lv_at hl 1 rfl) ?_
  obtain ⟨C10, R10, d10, g10, h⟩ := h
  obtain ⟨u10, o10, h⟩ := h
  obtain ⟨y10, h⟩ := h
  obtain ⟨v10, e10, h⟩ := h
  rw [g10] at hG
  refine g_wVi (As := []) (rest := []) (n := 0) hx hb hml hown hts hK hlo hG (g_frI d10 (fun lo => m_J0_length_8abf5_A l dd cT lo C10 a1 e10) lo) qM_J5_32 qI_yJ0_length_8abf5 qS_J0_yJ0_length_8abf5 qN_J0 qC_yJ0_length_8abf5 (by decide +kernel) ⟨Nat.le_of_ble_eq_true rfl, Nat.le_of_ble_eq_true rfl⟩ (by rfl) (g_ob_gj o10) rfl hl.1 rfl (Nat.le_of_ble_eq_true rfl) dJ5_append_cf1ce_10 y10 (fun v10x Gx H locs hKx hG => ?_)
  obtain ⟨D10, ⟨k10a, k10⟩, f10, l10⟩ := hKx
  rw [l10, k10] at hG
  rw [k10] at f10
  rw [k10a]
  rw [← g10] at hG
  refine lv_istore_n (lv' := [(2, .int v10), (0, .ref a0), (1, .ref a1)]) hx hb dJ5_append_cf1ce_13 rfl hl (by decide) rfl (fun ls hl => ?_)
  refine lv_aload_n hx hb dJ5_append_cf1ce_14 rfl (lv_at hl 1 rfl) ?_
  refine lv_aload_n hx hb dJ5_append_cf1ce_15 rfl (lv_at hl 1 rfl) ?_
  obtain ⟨v16, e16, h⟩ := h
  refine g_geti hx hb hts inlJ4 hown hK hG (by rfl) 3 (by decide) qF_J5_79 e16 dJ5_append_cf1ce_16 ?_
  refine lv_iload_n hx hb dJ5_append_cf1ce_19 rfl (lv_at hl 0 rfl) ?_
  refine lv_iadd hx hb dJ5_append_cf1ce_20 ?_
  obtain ⟨C21, R21, d21, g21, h⟩ := h
  obtain ⟨u21, o21, h⟩ := h
  obtain ⟨y21, h⟩ := h
  rw [g21] at hG
  refine g_wUv (As := [.int (v16 + v10)]) (rest := []) (n := 1) (owner := RJ5) hx hb hml hown hts hK hlo hG (g_frV d21 (fun lo => m_J5_ensureCapacityInternal_d00df 1 1000 l hfl dd cT lo C21 a0 (v16 + v10) h) lo) qM_J5_100 qW_sameMethod__java_lang_AbstractStringBuilder_java_lang_AbstractStringBuilder_ensureCapacityInternal_I_V_ qS_J4_ensureCapacityInternal__I_V qI_yJ5_ensureCapacityInternal_d00df qN_J5 qC_yJ5_ensureCapacityInternal_d00df rfl (by decide +kernel) ⟨Nat.le_of_ble_eq_true rfl, Nat.le_of_ble_eq_true rfl⟩ (by rfl) (g_ob_gj o21) rfl hl.1 rfl (Nat.le_of_ble_eq_true rfl) dJ5_append_cf1ce_21 y21 (fun Gx H locs hKx hG => ?_)
  obtain ⟨D21, h, f21, rfl⟩ := hKx
  obtain ⟨G21, i21⟩ : ∃ g : gH, g = gj D21 R21 := ⟨_, rfl⟩
  rw [← i21] at hG
  replace h := h G21 f21 i21
  refine lv_aload_n hx hb dJ5_append_cf1ce_24 rfl (lv_at hl 1 rfl) ?_
  refine lv_aload_n hx hb dJ5_append_cf1ce_25 rfl (lv_at hl 1 rfl) ?_
  obtain ⟨v26, e26, h⟩ := h
  refine g_geti hx hb hts inlJ4 hown hK hG (by rfl) 3 (by decide) qF_J5_79 e26 dJ5_append_cf1ce_26 ?_
  refine lv_aload_n hx hb dJ5_append_cf1ce_29 rfl (lv_at hl 2 rfl) ?_
  obtain ⟨C30, R30, d30, g30, h⟩ := h
  obtain ⟨u30, o30, h⟩ := h
  obtain ⟨y30, h⟩ := h
  rw [g30] at hG
  refine g_wUv (As := [.int v26, .ref a1]) (rest := []) (n := 2) (owner := RJ5) hx hb hml hown hts hK hlo hG (g_frV d30 (fun lo => m_J5_putStringAt_47b60_A 0 0 l hfl dd cT lo C30 a0 v26 a1 h) lo) qM_J5_208 qW_sameMethod__java_lang_AbstractStringBuilder_java_lang_AbstractStringBuilder_putStringAt_ILjava_lang_String_V_ qS_J4_putStringAt__ILjava_lang_String__V qI_yJ5_putStringAt_47b60 qN_J5 qC_yJ5_putStringAt_47b60 rfl (by decide +kernel) ⟨Nat.le_of_ble_eq_true rfl, Nat.le_of_ble_eq_true rfl⟩ (by rfl) (g_ob_gj o30) rfl hl.1 rfl (Nat.le_of_ble_eq_true rfl) dJ5_append_cf1ce_30 y30 (fun Gx H locs hKx hG => ?_)
  obtain ⟨D30, h, f30, rfl⟩ := hKx
  obtain ⟨G30, i30⟩ : ∃ g : gH, g = gj D30 R30 := ⟨_, rfl⟩
  rw [← i30] at hG
  replace h := h G30 f30 i30
  refine lv_aload_n hx hb dJ5_append_cf1ce_33 rfl (lv_at hl 1 rfl) ?_
  refine lv_dup hx hb dJ5_append_cf1ce_34 rfl ?_
  obtain ⟨v35, e35, h⟩ := h
  refine g_geti hx hb hts inlJ4 hown hK hG (by rfl) 3 (by decide) qF_J5_79 e35 dJ5_append_cf1ce_35 ?_
  refine lv_iload_n hx hb dJ5_append_cf1ce_38 rfl (lv_at hl 0 rfl) ?_
  refine lv_iadd hx hb dJ5_append_cf1ce_39 ?_
  obtain ⟨G40, i40, h⟩ := h
  refine g_putv hx hb hts inlJ4 tyJ4 tyJ4_ok nmJ4 hown hK hG (by rfl) 3 (by decide) qF_J5_79 rfl rfl rfl rfl i40 dJ5_append_cf1ce_40 (fun H locs hG => ?_)
  refine lv_aload_n hx hb dJ5_append_cf1ce_43 rfl (lv_at hl 1 rfl) ?_
  obtain ⟨y1, y2, h⟩ := h
  refine W.widen (k := MC) (n := MS) y1 y2 ?_
  exact g_qret (r := some a0) hx hb hr (Or.inl ⟨_, rfl⟩) hlocks hK hlo hG h dJ5_append_cf1ce_44
set_option maxRecDepth 20000 in
set_option maxHeartbeats 4000000 in
theorem m_J5_append_cf1ce_U (MC MS : Nat) (l : Launch) (hfl : l.stackTraces = false) (dd : va_G) (cT : Nat → ClassId) (lo : Nat → Prop) (G : gH) (a0 : Nat) (x1 : Nat) {K : Option Nat → gH → Prop} (h : w_J5_append_cf1ce_U MC MS G a0 x1 K) : Met l yJ5_append_cf1ce (Cond.code yJ5_append_cf1ce cJ5_append_cf1ce 3 (some (.object "java/lang/AbstractStringBuilder")) :: wsL_law) (g_rm 4 110 MC MS) (va_Pc [.ref a0, .ref (dd.2 102 x1)] (g_Pre lo dd cT G)) (va_Qq K (g_Pre lo dd cT) (g_A lo)) MC MS (g_A lo) := by
  refine g_start RJ5 rfl (by decide) (Nat.le_of_ble_eq_true rfl) ?_
  intro p e s m below meth c hx hb hr hlocks hml hown hnm hts hK hG hlo ls hl
  have hl : lv_has ls 3 [(0, .ref a0), (1, .ref (dd.2 102 x1))] := hl
  have hG : g_S lo dd cT s s.heap [] G := hG
  unfold w_J5_append_cf1ce_U at h
  refine lv_aload_n hx hb dJ5_append_cf1ce_0 rfl (lv_at hl 1 rfl) ?_
  refine lv_ifnonnull (tgt := 9) hx hb dJ5_append_cf1ce_1 (by decide) ?_
  refine lv_aload_n hx hb dJ5_append_cf1ce_9 rfl (lv_at hl 1 rfl) ?_
  obtain ⟨C10, R10, d10, g10, h⟩ := h
  obtain ⟨u10, o10, h⟩ := h
  obtain ⟨y10, h⟩ := h
  obtain ⟨v10, e10, h⟩ := h
  rw [g10] at hG
  refine g_wTi (As := []) (rest := []) (n := 0) (i := x1) hx hb hml hown hts hK hlo hG (g_frI d10 (fun lo => m_J0_length_8abf5_U l dd cT lo C10 x1 e10) lo) qM_J5_32 qI_yJ0_length_8abf5 qS_J0_yJ0_length_8abf5 qN_J0 qC_yJ0_length_8abf5 (by decide +kernel) ⟨Nat.le_of_ble_eq_true rfl, Nat.le_of_ble_eq_true rfl⟩ (g_six_lt o10) rfl hl.1 rfl (Nat.le_of_ble_eq_true rfl) dJ5_append_cf1ce_10 y10 (fun v10x Gx H locs hKx hG => ?_)
  obtain ⟨D10, ⟨k10a, k10⟩, f10, l10⟩ := hKx
  rw [l10, k10] at hG
  rw [k10] at f10
  rw [k10a]
  rw [← g10] at hG
  refine lv_istore_n (lv' := [(2, .int v10), (0, .ref a0), (1, .ref (dd.2 102 x1))]) hx hb dJ5_append_cf1ce_13 rfl hl (by decide) rfl (fun ls hl => ?_)
  refine lv_aload_n hx hb dJ5_append_cf1ce_14 rfl (lv_at hl 1 rfl) ?_
  refine lv_aload_n hx hb dJ5_append_cf1ce_15 rfl (lv_at hl 1 rfl) ?_
  obtain ⟨v16, e16, h⟩ := h
  refine g_geti hx hb hts inlJ4 hown hK hG (by rfl) 3 (by decide) qF_J5_79 e16 dJ5_append_cf1ce_16 ?_
  refine lv_iload_n hx hb dJ5_append_cf1ce_19 rfl (lv_at hl 0 rfl) ?_
  refine lv_iadd hx hb dJ5_append_cf1ce_20 ?_
  obtain ⟨C21, R21, d21, g21, h⟩ := h
  obtain ⟨u21, o21, h⟩ := h
  obtain ⟨y21, h⟩ := h
  rw [g21] at hG
  refine g_wUv (As := [.int (v16 + v10)]) (rest := []) (n := 1) (owner := RJ5) hx hb hml hown hts hK hlo hG (g_frV d21 (fun lo => m_J5_ensureCapacityInternal_d00df 1 1000 l hfl dd cT lo C21 a0 (v16 + v10) h) lo) qM_J5_100 qW_sameMethod__java_lang_AbstractStringBuilder_java_lang_AbstractStringBuilder_ensureCapacityInternal_I_V_ qS_J4_ensureCapacityInternal__I_V qI_yJ5_ensureCapacityInternal_d00df qN_J5 qC_yJ5_ensureCapacityInternal_d00df rfl (by decide +kernel) ⟨Nat.le_of_ble_eq_true rfl, Nat.le_of_ble_eq_true rfl⟩ (by rfl) (g_ob_gj o21) rfl hl.1 rfl (Nat.le_of_ble_eq_true rfl) dJ5_append_cf1ce_21 y21 (fun Gx H locs hKx hG => ?_)
  obtain ⟨D21, h, f21, rfl⟩ := hKx
  obtain ⟨G21, i21⟩ : ∃ g : gH, g = gj D21 R21 := ⟨_, rfl⟩
  rw [← i21] at hG
  replace h := h G21 f21 i21
  refine lv_aload_n hx hb dJ5_append_cf1ce_24 rfl (lv_at hl 1 rfl) ?_
  refine lv_aload_n hx hb dJ5_append_cf1ce_25 rfl (lv_at hl 1 rfl) ?_
  obtain ⟨v26, e26, h⟩ := h
  refine g_geti hx hb hts inlJ4 hown hK hG (by rfl) 3 (by decide) qF_J5_79 e26 dJ5_append_cf1ce_26 ?_
  refine lv_aload_n hx hb dJ5_append_cf1ce_29 rfl (lv_at hl 2 rfl) ?_
  obtain ⟨C30, R30, d30, g30, h⟩ := h
  obtain ⟨u30, o30, h⟩ := h
  obtain ⟨y30, h⟩ := h
  rw [g30] at hG
  refine g_wUv (As := [.int v26, .ref (dd.2 102 x1)]) (rest := []) (n := 2) (owner := RJ5) hx hb hml hown hts hK hlo hG (g_frV d30 (fun lo => m_J5_putStringAt_47b60_U 0 0 l hfl dd cT lo C30 a0 v26 x1 h) lo) qM_J5_208 qW_sameMethod__java_lang_AbstractStringBuilder_java_lang_AbstractStringBuilder_putStringAt_ILjava_lang_String_V_ qS_J4_putStringAt__ILjava_lang_String__V qI_yJ5_putStringAt_47b60 qN_J5 qC_yJ5_putStringAt_47b60 rfl (by decide +kernel) ⟨Nat.le_of_ble_eq_true rfl, Nat.le_of_ble_eq_true rfl⟩ (by rfl) (g_ob_gj o30) rfl hl.1 rfl (Nat.le_of_ble_eq_true rfl) dJ5_append_cf1ce_30 y30 (fun Gx H locs hKx hG => ?_)
  obtain ⟨D30, h, f30, rfl⟩ := hKx
  obtain ⟨G30, i30⟩ : ∃ g : gH, g = gj D30 R30 := ⟨_, rfl⟩
  rw [← i30] at hG
  replace h := h G30 f30 i30
  refine lv_aload_n hx hb dJ5_append_cf1ce_33 rfl (lv_at hl 1 rfl) ?_
  refine lv_dup hx hb dJ5_append_cf1ce_34 rfl ?_
  obtain ⟨v35, e35, h⟩ := h
  refine g_geti hx hb hts inlJ4 hown hK hG (by rfl) 3 (by decide) qF_J5_79 e35 dJ5_append_cf1ce_35 ?_
  refine lv_iload_n hx hb dJ5_append_cf1ce_38 rfl (lv_at hl 0 rfl) ?_
  refine lv_iadd hx hb dJ5_append_cf1ce_39 ?_
  obtain ⟨G40, i40, h⟩ := h
  refine g_putv hx hb hts inlJ4 tyJ4 tyJ4_ok nmJ4 hown hK hG (by rfl) 3 (by decide) qF_J5_79 rfl rfl rfl rfl i40 dJ5_append_cf1ce_40 (fun H locs hG => ?_)
  refine lv_aload_n hx hb dJ5_append_cf1ce_43 rfl (lv_at hl 1 rfl) ?_
  obtain ⟨y1, y2, h⟩ := h
  refine W.widen (k := MC) (n := MS) y1 y2 ?_
  exact g_qret (r := some a0) hx hb hr (Or.inl ⟨_, rfl⟩) hlocks hK hlo hG h dJ5_append_cf1ce_44
set_option maxRecDepth 20000 in
set_option maxHeartbeats 4000000 in
theorem m_J5_append_3fe6f (MC MS : Nat) (l : Launch) (hfl : l.stackTraces = false) (dd : va_G) (cT : Nat → ClassId) (lo : Nat → Prop) (G : gH) (a0 : Nat) (x1 : Int32) {K : Option Nat → gH → Prop} (h : w_J5_append_3fe6f MC MS G a0 x1 K) : Met l yJ5_append_3fe6f (Cond.code yJ5_append_3fe6f cJ5_append_3fe6f 2 (some (.object "java/lang/AbstractStringBuilder")) :: wsL_law) (g_rm 4 110 MC MS) (va_Pc [.ref a0, .int x1] (g_Pre lo dd cT G)) (va_Qq K (g_Pre lo dd cT) (g_A lo)) MC MS (g_A lo) := by
  refine g_start RJ5 rfl (by decide) (Nat.le_of_ble_eq_true rfl) ?_
  intro p e s m below meth c hx hb hr hlocks hml hown hnm hts hK hG hlo ls hl
  have hl : lv_has ls 2 [(0, .ref a0), (1, .int x1)] := hl
  have hG : g_S lo dd cT s s.heap [] G := hG
  have h45 : ∀ (G : gH) (kc ks : Nat) (H : Heap) (locs : List Loc), g_S lo dd cT s H locs G → ∀ ls : Array Slot, lv_has ls 2 [] → w_J5_append_3fe6f_J45 MC MS K G kc ks → W p l e (g_rm 4 110 MC MS) s m ([.ref a0, .int x1] : List Value).toArray below meth c H locs kc ks (MQ below (va_Qq K (g_Pre lo dd cT) (g_A lo)) ([.ref a0, .int x1] : List Value).toArray s MC MS (g_A lo)) (F0 m 45 ls []) := by
    intro G kc ks H locs hG ls hl h
    unfold w_J5_append_3fe6f_J45 at h
    exact (show False from h).elim
  unfold w_J5_append_3fe6f at h
  refine lv_aload_n hx hb dJ5_append_3fe6f_0 rfl (lv_at hl 0 rfl) ?_
  refine lv_aload_n hx hb dJ5_append_3fe6f_1 rfl (lv_at hl 0 rfl) ?_
  obtain ⟨v2, e2, h⟩ := h
  refine g_geti hx hb hts inlJ4 hown hK hG (by rfl) 3 (by decide) qF_J5_79 e2 dJ5_append_3fe6f_2 ?_
  refine lv_iconst (v := (1 : Int32)) hx hb dJ5_append_3fe6f_5 (by decide) ?_
  refine lv_iadd hx hb dJ5_append_3fe6f_6 ?_
  obtain ⟨C7, R7, d7, g7, h⟩ := h
  obtain ⟨u7, o7, h⟩ := h
  obtain ⟨y7, h⟩ := h
  rw [g7] at hG
  refine g_wUv (As := [.int (v2 + (1 : Int32))]) (rest := []) (n := 1) (owner := RJ5) hx hb hml hown hts hK hlo hG (g_frV d7 (fun lo => m_J5_ensureCapacityInternal_d00df 1 1000 l hfl dd cT lo C7 a0 (v2 + (1 : Int32)) h) lo) qM_J5_100 qW_sameMethod__java_lang_AbstractStringBuilder_java_lang_AbstractStringBuilder_ensureCapacityInternal_I_V_ qS_J4_ensureCapacityInternal__I_V qI_yJ5_ensureCapacityInternal_d00df qN_J5 qC_yJ5_ensureCapacityInternal_d00df rfl (by decide +kernel) ⟨Nat.le_of_ble_eq_true rfl, Nat.le_of_ble_eq_true rfl⟩ (by rfl) (g_ob_gj o7) rfl hl.1 rfl (Nat.le_of_ble_eq_true rfl) dJ5_append_3fe6f_7 y7 (fun Gx H locs hKx hG => ?_)
  obtain ⟨D7, h, f7, rfl⟩ := hKx
  obtain ⟨G7, i7⟩ : ∃ g : gH, g = gj D7 R7 := ⟨_, rfl⟩
  rw [← i7] at hG
  replace h := h G7 f7 i7
  refine lv_aload_n hx hb dJ5_append_3fe6f_10 rfl (lv_at hl 0 rfl) ?_
  obtain ⟨C11, R11, d11, g11, h⟩ := h
  obtain ⟨u11, o11, h⟩ := h
  obtain ⟨y11, h⟩ := h
  obtain ⟨v11, e11, h⟩ := h
  rw [g11] at hG
  refine g_wUi (As := []) (rest := []) (n := 0) (owner := RJ5) hx hb hml hown hts hK hlo hG (g_frI d11 (fun lo => m_J5_isLatin1_aae02 l dd cT lo C11 a0 e11) lo) qM_J5_83 qW_sameMethod__java_lang_AbstractStringBuilder_java_lang_AbstractStringBuilder_isLatin1_Z_ qS_J4_isLatin1___Z qI_yJ5_isLatin1_aae02 qN_J5 qC_yJ5_isLatin1_aae02 rfl (by decide +kernel) ⟨Nat.le_of_ble_eq_true rfl, Nat.le_of_ble_eq_true rfl⟩ (by rfl) (g_ob_gj o11) rfl hl.1 rfl (Nat.le_of_ble_eq_true rfl) dJ5_append_3fe6f_11 y11 (fun v11x Gx H locs hKx hG => ?_)
  obtain ⟨D11, ⟨k11a, k11⟩, f11, l11⟩ := hKx
  rw [l11, k11] at hG
  rw [k11] at f11
  rw [k11a]
  rw [← g11] at hG
  refine lv_if_eq (tgt := 45) hx hb dJ5_append_3fe6f_14 (by decide) (fun c14 => ?_) (fun c14 => ?_)
  · rw [if_pos c14] at h
    exact h45 G7 (0 + 1) (0 + 1000) _ _ hG _ (lv_sub hl [] rfl) h
  · rw [if_neg c14] at h
    refine lv_iload_n hx hb dJ5_append_3fe6f_17 rfl (lv_at hl 1 rfl) ?_
    obtain ⟨C18, R18, d18, g18, h⟩ := h
    obtain ⟨y18, h⟩ := h
    obtain ⟨v18, e18, h⟩ := h
    rw [g18] at hG
    refine g_wAi (As := [.int x1]) (rest := []) (n := 1) hx hb hml hown hts hK hlo hG (g_frI d18 (fun lo => m_J1_canEncode_fc78d l dd cT lo C18 x1 e18) lo) qM_J5_191 qT_yJ1_canEncode_fc78d qN_J1 qC_yJ1_canEncode_fc78d (by decide +kernel) ⟨Nat.le_of_ble_eq_true rfl, Nat.le_of_ble_eq_true rfl⟩ rfl hl.1 rfl (Nat.le_of_ble_eq_true rfl) dJ5_append_3fe6f_18 y18 (fun v18x Gx H locs hKx hG => ?_)
    obtain ⟨D18, ⟨k18a, k18⟩, f18, l18⟩ := hKx
    rw [l18, k18] at hG
    rw [k18] at f18
    rw [k18a]
    rw [← g18] at hG
    refine lv_if_eq (tgt := 45) hx hb dJ5_append_3fe6f_21 (by decide) (fun c21 => ?_) (fun c21 => ?_)
    · rw [if_pos c21] at h
      exact h45 G7 (0 + 1) (0 + 1000) _ _ hG _ (lv_sub hl [] rfl) h
    · rw [if_neg c21] at h
      refine lv_aload_n hx hb dJ5_append_3fe6f_24 rfl (lv_at hl 0 rfl) ?_
      obtain ⟨v25, e25, h⟩ := h
      refine g_getr hx hb hts inlJ4 hown hK hG (by rfl) 0 (by decide) qF_J5_15 e25 dJ5_append_3fe6f_25 ?_
      refine lv_aload_n hx hb dJ5_append_3fe6f_28 rfl (lv_at hl 0 rfl) ?_
      refine lv_dup hx hb dJ5_append_3fe6f_29 rfl ?_
      obtain ⟨v30, e30, h⟩ := h
      refine g_geti hx hb hts inlJ4 hown hK hG (by rfl) 3 (by decide) qF_J5_79 e30 dJ5_append_3fe6f_30 ?_
      refine lv_dup_x1 hx hb dJ5_append_3fe6f_33 rfl rfl ?_
      refine lv_iconst (v := (1 : Int32)) hx hb dJ5_append_3fe6f_34 (by decide) ?_
      refine lv_iadd hx hb dJ5_append_3fe6f_35 ?_
      obtain ⟨G36, i36, h⟩ := h
      refine g_putv hx hb hts inlJ4 tyJ4 tyJ4_ok nmJ4 hown hK hG (by rfl) 3 (by decide) qF_J5_79 rfl rfl rfl rfl i36 dJ5_append_3fe6f_36 (fun H locs hG => ?_)
      refine lv_iload_n hx hb dJ5_append_3fe6f_39 rfl (lv_at hl 1 rfl) ?_
      refine lv_i2b hx hb dJ5_append_3fe6f_40 rfl ?_
      obtain ⟨G41, e41, h⟩ := h
      refine g_bast hx hb hK hG e41 dJ5_append_3fe6f_41 (fun H locs hG => ?_)
      refine lv_goto (tgt := 75) hx hb dJ5_append_3fe6f_42 (by decide) ?_
      refine lv_aload_n hx hb dJ5_append_3fe6f_75 rfl (lv_at hl 0 rfl) ?_
      obtain ⟨y1, y2, h⟩ := h
      refine W.widen (k := MC) (n := MS) y1 y2 ?_
      exact g_qret (r := some a0) hx hb hr (Or.inl ⟨_, rfl⟩) hlocks hK hlo hG h dJ5_append_3fe6f_76

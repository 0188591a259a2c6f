/-! Lifted methods, by program (wip/whole/tools/lift.py). -/
set_option maxRecDepth 20000 in
set_option maxHeartbeats 4000000 in
theorem m_X1_reasonAgainstClose (l : Launch) (dd : va_G) (cT : Nat → ClassId) (lo : Nat → Prop) (G : gH) (a0 : Nat) {rz : Int32} (h : f_X1_reasonAgainstClose G a0 = some rz) : Met l yX1_reasonAgainstClose (Cond.code yX1_reasonAgainstClose cX1_reasonAgainstClose 1 (some .int) :: wsL_law) (g_rm 4 89 0 0) (va_Pc [.ref a0] (g_Pre lo dd cT G)) (va_Qi (g_is rz G) (g_Pre lo dd cT) (g_A lo)) 0 0 (g_A lo) := by
  refine g_start RX1 rfl (by decide) (Nat.le_of_ble_eq_true rfl) ?_
  intro p e s m below meth c hx hb hr hlocks hml hown hnm hts hK hG hlo ls hl
  have hl : lv_has ls 1 [(0, .ref a0)] := hl
  have hG : g_S lo dd cT s s.heap [] G := hG
  unfold f_X1_reasonAgainstClose at h
  refine lv_aload_n hx hb dX1_reasonAgainstClose_0 rfl (lv_at hl 0 rfl) ?_
  obtain ⟨v1, e1, h⟩ := Option.bind_eq_some_iff.mp h
  refine g_getr hx hb hts inlX1 hown hK hG (by rfl) 2 (by decide) qF_X1_28 e1 dX1_reasonAgainstClose_1 ?_
  obtain ⟨u4, i4, h⟩ := Option.bind_eq_some_iff.mp h
  obtain ⟨v4, e4, h⟩ := Option.bind_eq_some_iff.mp h
  refine g_cVi (As := []) (rest := []) (n := 0) hx hb hml hown hts hK hlo hG (m_X5_isOpen l dd cT lo G v1 e4) qM_X1_196 qI_yX5_isOpen qS_X5_yX5_isOpen qN_X5 qC_yX5_isOpen (by decide +kernel) ⟨Nat.le_of_ble_eq_true rfl, Nat.le_of_ble_eq_true rfl⟩ (by rfl) i4 rfl hl.1 rfl (Nat.le_of_ble_eq_true rfl) dX1_reasonAgainstClose_4 ⟨Nat.le_of_ble_eq_true rfl, Nat.le_of_ble_eq_true rfl⟩ (fun H locs hG => ?_)
  refine lv_if_ne (tgt := 12) hx hb dX1_reasonAgainstClose_7 (by decide) (fun c7 => ?_) (fun c7 => ?_)
  · rw [if_neg c7] at h
    refine lv_aload_n hx hb dX1_reasonAgainstClose_12 rfl (lv_at hl 0 rfl) ?_
    refine lv_aload_n hx hb dX1_reasonAgainstClose_13 rfl (lv_at hl 0 rfl) ?_
    obtain ⟨v14, e14, h⟩ := Option.bind_eq_some_iff.mp h
    refine g_getr hx hb hts inlX1 hown hK hG (by rfl) 2 (by decide) qF_X1_28 e14 dX1_reasonAgainstClose_14 ?_
    refine lv_aload_n hx hb dX1_reasonAgainstClose_17 rfl (lv_at hl 0 rfl) ?_
    obtain ⟨v18, e18, h⟩ := Option.bind_eq_some_iff.mp h
    refine g_getr hx hb hts inlX1 hown hK hG (by rfl) 2 (by decide) qF_X1_28 e18 dX1_reasonAgainstClose_18 ?_
    obtain ⟨u21, i21, h⟩ := Option.bind_eq_some_iff.mp h
    obtain ⟨v21, e21, h⟩ := Option.bind_eq_some_iff.mp h
    refine g_cVi (As := []) (rest := [.ref v14, .ref a0]) (n := 0) hx hb hml hown hts hK hlo hG (m_X5_latest l dd cT lo G v18 e21) qM_X1_199 qI_yX5_latest qS_X5_yX5_latest qN_X5 qC_yX5_latest (by decide +kernel) ⟨Nat.le_of_ble_eq_true rfl, Nat.le_of_ble_eq_true rfl⟩ (by rfl) i21 rfl hl.1 rfl (Nat.le_of_ble_eq_true rfl) dX1_reasonAgainstClose_21 ⟨Nat.le_of_ble_eq_true rfl, Nat.le_of_ble_eq_true rfl⟩ (fun H locs hG => ?_)
    obtain ⟨u24, i24, h⟩ := Option.bind_eq_some_iff.mp h
    obtain ⟨v24, e24, h⟩ := Option.bind_eq_some_iff.mp h
    refine g_cVi (As := [.int v21]) (rest := [.ref a0]) (n := 1) hx hb hml hown hts hK hlo hG (m_X5_entriesOf l dd cT lo G v14 v21 e24) qM_X1_202 qI_yX5_entriesOf qS_X5_yX5_entriesOf qN_X5 qC_yX5_entriesOf (by decide +kernel) ⟨Nat.le_of_ble_eq_true rfl, Nat.le_of_ble_eq_true rfl⟩ (by rfl) i24 rfl hl.1 rfl (Nat.le_of_ble_eq_true rfl) dX1_reasonAgainstClose_24 ⟨Nat.le_of_ble_eq_true rfl, Nat.le_of_ble_eq_true rfl⟩ (fun H locs hG => ?_)
    obtain ⟨u27, i27, h⟩ := Option.bind_eq_some_iff.mp h
    obtain ⟨v27, e27, h⟩ := Option.bind_eq_some_iff.mp h
    refine g_cVi (As := [.int v24]) (rest := []) (n := 1) hx hb hml hown hts hK hlo hG (m_X1_reasonAgainstDirectory l dd cT lo G a0 v24 e27) qM_X1_205 qI_yX1_reasonAgainstDirectory qS_X1_yX1_reasonAgainstDirectory qN_X1 qC_yX1_reasonAgainstDirectory (by decide +kernel) ⟨Nat.le_of_ble_eq_true rfl, Nat.le_of_ble_eq_true rfl⟩ (by rfl) i27 rfl hl.1 rfl (Nat.le_of_ble_eq_true rfl) dX1_reasonAgainstClose_27 ⟨Nat.le_of_ble_eq_true rfl, Nat.le_of_ble_eq_true rfl⟩ (fun H locs hG => ?_)
    obtain rfl := Option.some.inj h
    exact g_iret hx hb hr hlocks hK hlo hG ⟨rfl, rfl⟩ dX1_reasonAgainstClose_30
  · rw [if_pos c7] at h
    refine lv_iconst (v := (1 : Int32)) hx hb dX1_reasonAgainstClose_10 (by decide) ?_
    obtain rfl := Option.some.inj h
    exact g_iret hx hb hr hlocks hK hlo hG ⟨rfl, rfl⟩ dX1_reasonAgainstClose_11
set_option maxRecDepth 20000 in
set_option maxHeartbeats 4000000 in
theorem m_X1_reasonAgainstCrash (l : Launch) (dd : va_G) (cT : Nat → ClassId) (lo : Nat → Prop) (G : gH) (a0 : Nat) {rz : Int32} (h : f_X1_reasonAgainstCrash G a0 = some rz) : Met l yX1_reasonAgainstCrash (Cond.code yX1_reasonAgainstCrash cX1_reasonAgainstCrash 1 (some .int) :: wsL_law) (g_rm 3 63 0 0) (va_Pc [.ref a0] (g_Pre lo dd cT G)) (va_Qi (g_is rz G) (g_Pre lo dd cT) (g_A lo)) 0 0 (g_A lo) := by
  refine g_start RX1 rfl (by decide) (Nat.le_of_ble_eq_true rfl) ?_
  intro p e s m below meth c hx hb hr hlocks hml hown hnm hts hK hG hlo ls hl
  have hl : lv_has ls 1 [(0, .ref a0)] := hl
  have hG : g_S lo dd cT s s.heap [] G := hG
  unfold f_X1_reasonAgainstCrash at h
  refine lv_aload_n hx hb dX1_reasonAgainstCrash_0 rfl (lv_at hl 0 rfl) ?_
  obtain ⟨v1, e1, h⟩ := Option.bind_eq_some_iff.mp h
  refine g_getr hx hb hts inlX1 hown hK hG (by rfl) 2 (by decide) qF_X1_28 e1 dX1_reasonAgainstCrash_1 ?_
  obtain ⟨u4, i4, h⟩ := Option.bind_eq_some_iff.mp h
  obtain ⟨v4, e4, h⟩ := Option.bind_eq_some_iff.mp h
  refine g_cVi (As := []) (rest := []) (n := 0) hx hb hml hown hts hK hlo hG (m_X5_isOpen l dd cT lo G v1 e4) qM_X1_196 qI_yX5_isOpen qS_X5_yX5_isOpen qN_X5 qC_yX5_isOpen (by decide +kernel) ⟨Nat.le_of_ble_eq_true rfl, Nat.le_of_ble_eq_true rfl⟩ (by rfl) i4 rfl hl.1 rfl (Nat.le_of_ble_eq_true rfl) dX1_reasonAgainstCrash_4 ⟨Nat.le_of_ble_eq_true rfl, Nat.le_of_ble_eq_true rfl⟩ (fun H locs hG => ?_)
  refine lv_if_eq (tgt := 14) hx hb dX1_reasonAgainstCrash_7 (by decide) (fun c7 => ?_) (fun c7 => ?_)
  · rw [if_pos c7] at h
    refine lv_iconst (v := (1 : Int32)) hx hb dX1_reasonAgainstCrash_14 (by decide) ?_
    obtain rfl := Option.some.inj h
    exact g_iret hx hb hr hlocks hK hlo hG ⟨rfl, rfl⟩ dX1_reasonAgainstCrash_15
  · rw [if_neg c7] at h
    refine lv_iconst (v := (0 : Int32)) hx hb dX1_reasonAgainstCrash_10 (by decide) ?_
    refine lv_goto (tgt := 15) hx hb dX1_reasonAgainstCrash_11 (by decide) ?_
    obtain rfl := Option.some.inj h
    exact g_iret hx hb hr hlocks hK hlo hG ⟨rfl, rfl⟩ dX1_reasonAgainstCrash_15
set_option maxRecDepth 20000 in
set_option maxHeartbeats 4000000 in
theorem m_X1_beginIfNeeded (l : Launch) (dd : va_G) (cT : Nat → ClassId) (lo : Nat → Prop) (G : gH) (a0 : Nat) {Gz : gH} (h : f_X1_beginIfNeeded G a0 = some Gz) : Met l yX1_beginIfNeeded (Cond.code yX1_beginIfNeeded cX1_beginIfNeeded 1 none :: wsL_law) (g_rm 3 66 0 0) (va_Pc [.ref a0] (g_Pre lo dd cT G)) (va_Qv (g_iv Gz) (g_Pre lo dd cT) (g_A lo)) 0 0 (g_A lo) := by
  refine g_start RX1 rfl (by decide) (Nat.le_of_ble_eq_true rfl) ?_
  intro p e s m below meth c hx hb hr hlocks hml hown hnm hts hK hG hlo ls hl
  have hl : lv_has ls 1 [(0, .ref a0)] := hl
  have hG : g_S lo dd cT s s.heap [] G := hG
  unfold f_X1_beginIfNeeded at h
  refine lv_aload_n hx hb dX1_beginIfNeeded_0 rfl (lv_at hl 0 rfl) ?_
  obtain ⟨v1, e1, h⟩ := Option.bind_eq_some_iff.mp h
  refine g_getr hx hb hts inlX1 hown hK hG (by rfl) 2 (by decide) qF_X1_28 e1 dX1_beginIfNeeded_1 ?_
  obtain ⟨u4, i4, h⟩ := Option.bind_eq_some_iff.mp h
  obtain ⟨v4, e4, h⟩ := Option.bind_eq_some_iff.mp h
  refine g_cVi (As := []) (rest := []) (n := 0) hx hb hml hown hts hK hlo hG (m_X5_isOpen l dd cT lo G v1 e4) qM_X1_196 qI_yX5_isOpen qS_X5_yX5_isOpen qN_X5 qC_yX5_isOpen (by decide +kernel) ⟨Nat.le_of_ble_eq_true rfl, Nat.le_of_ble_eq_true rfl⟩ (by rfl) i4 rfl hl.1 rfl (Nat.le_of_ble_eq_true rfl) dX1_beginIfNeeded_4 ⟨Nat.le_of_ble_eq_true rfl, Nat.le_of_ble_eq_true rfl⟩ (fun H locs hG => ?_)
  refine lv_if_ne (tgt := 24) hx hb dX1_beginIfNeeded_7 (by decide) (fun c7 => ?_) (fun c7 => ?_)
  · rw [if_neg c7] at h
    obtain rfl := Option.some.inj h
    exact g_vret hx hb hr hlocks hK hlo hG rfl dX1_beginIfNeeded_24
  · rw [if_pos c7] at h
    refine lv_aload_n hx hb dX1_beginIfNeeded_10 rfl (lv_at hl 0 rfl) ?_
    obtain ⟨v11, e11, h⟩ := Option.bind_eq_some_iff.mp h
    refine g_getr hx hb hts inlX1 hown hK hG (by rfl) 2 (by decide) qF_X1_28 e11 dX1_beginIfNeeded_11 ?_
    refine lv_aload_n hx hb dX1_beginIfNeeded_14 rfl (lv_at hl 0 rfl) ?_
    obtain ⟨v15, e15, h⟩ := Option.bind_eq_some_iff.mp h
    refine g_getr hx hb hts inlX1 hown hK hG (by rfl) 0 (by decide) qF_X1_12 e15 dX1_beginIfNeeded_15 ?_
    obtain ⟨v18, e18, h⟩ := Option.bind_eq_some_iff.mp h
    refine g_geti hx hb hts inlX0 hown hK hG (by rfl) 2 (by decide) qF_X1_214 e18 dX1_beginIfNeeded_18 ?_
    obtain ⟨u21, i21, h⟩ := Option.bind_eq_some_iff.mp h
    obtain ⟨G21, e21, h⟩ := Option.bind_eq_some_iff.mp h
    refine g_cVv (As := [.int v18]) (rest := []) (n := 1) hx hb hml hown hts hK hlo hG (m_X5_begin l dd cT lo G v11 v18 e21) qM_X1_228 qI_yX5_begin qS_X5_yX5_begin qN_X5 qC_yX5_begin (by decide +kernel) ⟨Nat.le_of_ble_eq_true rfl, Nat.le_of_ble_eq_true rfl⟩ (by rfl) i21 rfl hl.1 rfl (Nat.le_of_ble_eq_true rfl) dX1_beginIfNeeded_21 ⟨Nat.le_of_ble_eq_true rfl, Nat.le_of_ble_eq_true rfl⟩ (fun H locs hG => ?_)
    obtain rfl := Option.some.inj h
    exact g_vret hx hb hr hlocks hK hlo hG rfl dX1_beginIfNeeded_24
set_option maxRecDepth 20000 in
set_option maxHeartbeats 4000000 in
theorem m_X1_recoverSession (l : Launch) (dd : va_G) (cT : Nat → ClassId) (lo : Nat → Prop) (G : gH) (a0 : Nat) {rz : Int32} {Gz : gH} (h : f_X1_recoverSession G a0 = some (Gz, rz)) : Met l yX1_recoverSession (Cond.code yX1_recoverSession cX1_recoverSession 4 (some .int) :: wsL_law) (g_rm 5 115 0 0) (va_Pc [.ref a0] (g_Pre lo dd cT G)) (va_Qi (g_is rz Gz) (g_Pre lo dd cT) (g_A lo)) 0 0 (g_A lo) := by
  refine g_start RX1 rfl (by decide) (Nat.le_of_ble_eq_true rfl) ?_
  intro p e s m below meth c hx hb hr hlocks hml hown hnm hts hK hG hlo ls hl
  have hl : lv_has ls 4 [(0, .ref a0)] := hl
  have hG : g_S lo dd cT s s.heap [] G := hG
  have h31 : ∀ n : Nat, ∀ (G : gH) (ba0 : Nat) (bx1 : Int32) (bx2 : Int32), ∀ (H : Heap) (locs : List Loc), g_S lo dd cT s H locs G → ∀ ls : Array Slot, lv_has ls 4 [(0, .ref ba0), (1, .int bx1), (2, .int bx2)] → f_X1_recoverSession_L31 n G ba0 bx1 bx2 = some (Gz, rz) → W p l e (g_rm 5 115 0 0) s m ([.ref a0] : List Value).toArray below meth c H locs 0 0 (MQ below (va_Qi (g_is rz Gz) (g_Pre lo dd cT) (g_A lo)) ([.ref a0] : List Value).toArray s 0 0 (g_A lo)) (F0 m 31 ls []) := by
    intro n
    induction n with
    | zero =>
      intro G ba0 bx1 bx2 H locs hG ls hl h
      cases (show (none : Option (gH × Int32)) = some (Gz, rz) from h)
    | succ n ih =>
      intro G ba0 bx1 bx2 H locs hG ls hl h
      rw [f_X1_recoverSession_L31] at h
      refine lv_iload_n hx hb dX1_recoverSession_31 rfl (lv_at hl 2 rfl) ?_
      refine lv_aload_n hx hb dX1_recoverSession_32 rfl (lv_at hl 0 rfl) ?_
      obtain ⟨v33, e33, h⟩ := Option.bind_eq_some_iff.mp h
      refine g_getr hx hb hts inlX1 hown hK hG (by rfl) 1 (by decide) qF_X1_21 e33 dX1_recoverSession_33 ?_
      obtain ⟨v36, e36, h⟩ := Option.bind_eq_some_iff.mp h
      refine g_geti hx hb hts inlX7 hown hK hG (by rfl) 0 (by decide) qF_X1_55 e36 dX1_recoverSession_36 ?_
      refine lv_icmp_ge (tgt := 76) hx hb dX1_recoverSession_39 (by decide) (fun c39 => ?_) (fun c39 => ?_)
      · rw [if_pos c39] at h
        refine lv_aload_n hx hb dX1_recoverSession_76 rfl (lv_at hl 0 rfl) ?_
        obtain ⟨u77, i77, h⟩ := Option.bind_eq_some_iff.mp h
        obtain ⟨q77, e77, h⟩ := Option.bind_eq_some_iff.mp h
        refine g_cVi (As := []) (rest := []) (n := 0) hx hb hml hown hts hK hlo hG (m_X1_closeSession l dd cT lo G ba0 e77) qM_X1_105 qI_yX1_closeSession qS_X1_yX1_closeSession qN_X1 qC_yX1_closeSession (by decide +kernel) ⟨Nat.le_of_ble_eq_true rfl, Nat.le_of_ble_eq_true rfl⟩ (by rfl) i77 rfl hl.1 rfl (Nat.le_of_ble_eq_true rfl) dX1_recoverSession_77 ⟨Nat.le_of_ble_eq_true rfl, Nat.le_of_ble_eq_true rfl⟩ (fun H locs hG => ?_)
        refine lv_pop hx hb dX1_recoverSession_80 rfl ?_
        refine lv_aload_n hx hb dX1_recoverSession_81 rfl (lv_at hl 0 rfl) ?_
        obtain ⟨v82, e82, h⟩ := Option.bind_eq_some_iff.mp h
        refine g_getr hx hb hts inlX1 hown hK hG (by rfl) 2 (by decide) qF_X1_28 e82 dX1_recoverSession_82 ?_
        refine lv_aload_n hx hb dX1_recoverSession_85 rfl (lv_at hl 0 rfl) ?_
        obtain ⟨v86, e86, h⟩ := Option.bind_eq_some_iff.mp h
        refine g_getr hx hb hts inlX1 hown hK hG (by rfl) 2 (by decide) qF_X1_28 e86 dX1_recoverSession_86 ?_
        obtain ⟨u89, i89, h⟩ := Option.bind_eq_some_iff.mp h
        obtain ⟨v89, e89, h⟩ := Option.bind_eq_some_iff.mp h
        refine g_cVi (As := []) (rest := [.ref v82]) (n := 0) hx hb hml hown hts hK hlo hG (m_X5_latest l dd cT lo q77.1 v86 e89) qM_X1_199 qI_yX5_latest qS_X5_yX5_latest qN_X5 qC_yX5_latest (by decide +kernel) ⟨Nat.le_of_ble_eq_true rfl, Nat.le_of_ble_eq_true rfl⟩ (by rfl) i89 rfl hl.1 rfl (Nat.le_of_ble_eq_true rfl) dX1_recoverSession_89 ⟨Nat.le_of_ble_eq_true rfl, Nat.le_of_ble_eq_true rfl⟩ (fun H locs hG => ?_)
        obtain ⟨u92, i92, h⟩ := Option.bind_eq_some_iff.mp h
        obtain ⟨v92, e92, h⟩ := Option.bind_eq_some_iff.mp h
        refine g_cVi (As := [.int v89]) (rest := []) (n := 1) hx hb hml hown hts hK hlo hG (m_X5_entriesOf l dd cT lo q77.1 v82 v89 e92) qM_X1_202 qI_yX5_entriesOf qS_X5_yX5_entriesOf qN_X5 qC_yX5_entriesOf (by decide +kernel) ⟨Nat.le_of_ble_eq_true rfl, Nat.le_of_ble_eq_true rfl⟩ (by rfl) i92 rfl hl.1 rfl (Nat.le_of_ble_eq_true rfl) dX1_recoverSession_92 ⟨Nat.le_of_ble_eq_true rfl, Nat.le_of_ble_eq_true rfl⟩ (fun H locs hG => ?_)
        obtain ⟨rfl, rfl⟩ := Prod.mk.inj (Option.some.inj h)
        exact g_iret hx hb hr hlocks hK hlo hG ⟨rfl, rfl⟩ dX1_recoverSession_95
      · rw [if_neg c39] at h
        refine lv_aload_n hx hb dX1_recoverSession_42 rfl (lv_at hl 0 rfl) ?_
        obtain ⟨v43, e43, h⟩ := Option.bind_eq_some_iff.mp h
        refine g_getr hx hb hts inlX1 hown hK hG (by rfl) 1 (by decide) qF_X1_21 e43 dX1_recoverSession_43 ?_
        refine lv_iload_n hx hb dX1_recoverSession_46 rfl (lv_at hl 2 rfl) ?_
        obtain ⟨u47, i47, h⟩ := Option.bind_eq_some_iff.mp h
        obtain ⟨v47, e47, h⟩ := Option.bind_eq_some_iff.mp h
        refine g_cVi (As := [.int bx2]) (rest := []) (n := 1) hx hb hml hown hts hK hlo hG (m_X7_fileOf l dd cT lo G v43 bx2 e47) qM_X1_174 qI_yX7_fileOf qS_X7_yX7_fileOf qN_X7 qC_yX7_fileOf (by decide +kernel) ⟨Nat.le_of_ble_eq_true rfl, Nat.le_of_ble_eq_true rfl⟩ (by rfl) i47 rfl hl.1 rfl (Nat.le_of_ble_eq_true rfl) dX1_recoverSession_47 ⟨Nat.le_of_ble_eq_true rfl, Nat.le_of_ble_eq_true rfl⟩ (fun H locs hG => ?_)
        refine lv_istore_n (lv' := [(3, .int v47), (0, .ref ba0), (1, .int bx1), (2, .int bx2)]) hx hb dX1_recoverSession_50 rfl hl (by decide) rfl (fun ls hl => ?_)
        refine lv_aload_n hx hb dX1_recoverSession_51 rfl (lv_at hl 1 rfl) ?_
        refine lv_iload_n hx hb dX1_recoverSession_52 rfl (lv_at hl 0 rfl) ?_
        refine lv_iload_n hx hb dX1_recoverSession_53 rfl (lv_at hl 2 rfl) ?_
        obtain ⟨u54, i54, h⟩ := Option.bind_eq_some_iff.mp h
        obtain ⟨v54, e54, h⟩ := Option.bind_eq_some_iff.mp h
        refine g_cVi (As := [.int v47, .int bx1]) (rest := []) (n := 2) hx hb hml hown hts hK hlo hG (m_X1_recoverableVersionOf l dd cT lo G ba0 v47 bx1 e54) qM_X1_243 qI_yX1_recoverableVersionOf qS_X1_yX1_recoverableVersionOf qN_X1 qC_yX1_recoverableVersionOf (by decide +kernel) ⟨Nat.le_of_ble_eq_true rfl, Nat.le_of_ble_eq_true rfl⟩ (by rfl) i54 rfl hl.1 rfl (Nat.le_of_ble_eq_true rfl) dX1_recoverSession_54 ⟨Nat.le_of_ble_eq_true rfl, Nat.le_of_ble_eq_true rfl⟩ (fun H locs hG => ?_)
        refine lv_iload_n hx hb dX1_recoverSession_57 rfl (lv_at hl 3 rfl) ?_
        refine lv_icmp_ne (tgt := 70) hx hb dX1_recoverSession_58 (by decide) (fun c58 => ?_) (fun c58 => ?_)
        · rw [if_neg c58] at h
          refine lv_iinc (v := (bx2 + (1 : Int32))) (lv' := [(2, .int (bx2 + (1 : Int32))), (3, .int v47), (0, .ref ba0), (1, .int bx1)]) hx hb dX1_recoverSession_70 hl (k := 3) rfl rfl (by decide) rfl (fun ls hl => ?_)
          refine lv_goto (tgt := 31) hx hb dX1_recoverSession_73 (by decide) ?_
          exact ih G ba0 bx1 (bx2 + (1 : Int32)) _ _ hG _ (lv_sub hl [2, 3, 0] rfl) h
        · rw [if_pos c58] at h
          refine lv_aload_n hx hb dX1_recoverSession_61 rfl (lv_at hl 1 rfl) ?_
          obtain ⟨v62, e62, h⟩ := Option.bind_eq_some_iff.mp h
          refine g_getr hx hb hts inlX1 hown hK hG (by rfl) 2 (by decide) qF_X1_28 e62 dX1_recoverSession_62 ?_
          refine lv_iload_n hx hb dX1_recoverSession_65 rfl (lv_at hl 0 rfl) ?_
          refine lv_iload_n hx hb dX1_recoverSession_66 rfl (lv_at hl 3 rfl) ?_
          obtain ⟨u67, i67, h⟩ := Option.bind_eq_some_iff.mp h
          obtain ⟨G67, e67, h⟩ := Option.bind_eq_some_iff.mp h
          refine g_cVv (As := [.int v47, .int bx2]) (rest := []) (n := 2) hx hb hml hown hts hK hlo hG (m_X5_enter l dd cT lo G v62 v47 bx2 e67) qM_X1_225 qI_yX5_enter qS_X5_yX5_enter qN_X5 qC_yX5_enter (by decide +kernel) ⟨Nat.le_of_ble_eq_true rfl, Nat.le_of_ble_eq_true rfl⟩ (by rfl) i67 rfl hl.1 rfl (Nat.le_of_ble_eq_true rfl) dX1_recoverSession_67 ⟨Nat.le_of_ble_eq_true rfl, Nat.le_of_ble_eq_true rfl⟩ (fun H locs hG => ?_)
          refine lv_iinc (v := (bx2 + (1 : Int32))) (lv' := [(2, .int (bx2 + (1 : Int32))), (3, .int v47), (0, .ref ba0), (1, .int bx1)]) hx hb dX1_recoverSession_70 hl (k := 3) rfl rfl (by decide) rfl (fun ls hl => ?_)
          refine lv_goto (tgt := 31) hx hb dX1_recoverSession_73 (by decide) ?_
          exact ih G67 ba0 bx1 (bx2 + (1 : Int32)) _ _ hG _ (lv_sub hl [2, 3, 0] rfl) h
  unfold f_X1_recoverSession at h
  refine lv_aload_n hx hb dX1_recoverSession_0 rfl (lv_at hl 0 rfl) ?_
  obtain ⟨v1, e1, h⟩ := Option.bind_eq_some_iff.mp h
  refine g_getr hx hb hts inlX1 hown hK hG (by rfl) 2 (by decide) qF_X1_28 e1 dX1_recoverSession_1 ?_
  obtain ⟨u4, i4, h⟩ := Option.bind_eq_some_iff.mp h
  obtain ⟨v4, e4, h⟩ := Option.bind_eq_some_iff.mp h
  refine g_cVi (As := []) (rest := []) (n := 0) hx hb hml hown hts hK hlo hG (m_X5_latest l dd cT lo G v1 e4) qM_X1_199 qI_yX5_latest qS_X5_yX5_latest qN_X5 qC_yX5_latest (by decide +kernel) ⟨Nat.le_of_ble_eq_true rfl, Nat.le_of_ble_eq_true rfl⟩ (by rfl) i4 rfl hl.1 rfl (Nat.le_of_ble_eq_true rfl) dX1_recoverSession_4 ⟨Nat.le_of_ble_eq_true rfl, Nat.le_of_ble_eq_true rfl⟩ (fun H locs hG => ?_)
  refine lv_istore_n (lv' := [(1, .int v4), (0, .ref a0)]) hx hb dX1_recoverSession_7 rfl hl (by decide) rfl (fun ls hl => ?_)
  refine lv_aload_n hx hb dX1_recoverSession_8 rfl (lv_at hl 1 rfl) ?_
  obtain ⟨v9, e9, h⟩ := Option.bind_eq_some_iff.mp h
  refine g_getr hx hb hts inlX1 hown hK hG (by rfl) 2 (by decide) qF_X1_28 e9 dX1_recoverSession_9 ?_
  obtain ⟨u12, i12, h⟩ := Option.bind_eq_some_iff.mp h
  obtain ⟨G12, e12, h⟩ := Option.bind_eq_some_iff.mp h
  refine g_cVv (As := []) (rest := []) (n := 0) hx hb hml hown hts hK hlo hG (m_X5_markRecovered l dd cT lo G v9 e12) qM_X1_240 qI_yX5_markRecovered qS_X5_yX5_markRecovered qN_X5 qC_yX5_markRecovered (by decide +kernel) ⟨Nat.le_of_ble_eq_true rfl, Nat.le_of_ble_eq_true rfl⟩ (by rfl) i12 rfl hl.1 rfl (Nat.le_of_ble_eq_true rfl) dX1_recoverSession_12 ⟨Nat.le_of_ble_eq_true rfl, Nat.le_of_ble_eq_true rfl⟩ (fun H locs hG => ?_)
  refine lv_aload_n hx hb dX1_recoverSession_15 rfl (lv_at hl 1 rfl) ?_
  obtain ⟨v16, e16, h⟩ := Option.bind_eq_some_iff.mp h
  refine g_getr hx hb hts inlX1 hown hK hG (by rfl) 2 (by decide) qF_X1_28 e16 dX1_recoverSession_16 ?_
  refine lv_aload_n hx hb dX1_recoverSession_19 rfl (lv_at hl 1 rfl) ?_
  obtain ⟨v20, e20, h⟩ := Option.bind_eq_some_iff.mp h
  refine g_getr hx hb hts inlX1 hown hK hG (by rfl) 0 (by decide) qF_X1_12 e20 dX1_recoverSession_20 ?_
  obtain ⟨v23, e23, h⟩ := Option.bind_eq_some_iff.mp h
  refine g_geti hx hb hts inlX0 hown hK hG (by rfl) 2 (by decide) qF_X1_214 e23 dX1_recoverSession_23 ?_
  obtain ⟨u26, i26, h⟩ := Option.bind_eq_some_iff.mp h
  obtain ⟨G26, e26, h⟩ := Option.bind_eq_some_iff.mp h
  refine g_cVv (As := [.int v23]) (rest := []) (n := 1) hx hb hml hown hts hK hlo hG (m_X5_begin l dd cT lo G12 v16 v23 e26) qM_X1_228 qI_yX5_begin qS_X5_yX5_begin qN_X5 qC_yX5_begin (by decide +kernel) ⟨Nat.le_of_ble_eq_true rfl, Nat.le_of_ble_eq_true rfl⟩ (by rfl) i26 rfl hl.1 rfl (Nat.le_of_ble_eq_true rfl) dX1_recoverSession_26 ⟨Nat.le_of_ble_eq_true rfl, Nat.le_of_ble_eq_true rfl⟩ (fun H locs hG => ?_)
  refine lv_iconst (v := (0 : Int32)) hx hb dX1_recoverSession_29 (by decide) ?_
  refine lv_istore_n (lv' := [(2, .int (0 : Int32)), (1, .int v4), (0, .ref a0)]) hx hb dX1_recoverSession_30 rfl hl (by decide) rfl (fun ls hl => ?_)
  exact h31 g_N G26 a0 v4 (0 : Int32) _ _ hG _ (lv_sub hl [2, 1, 0] rfl) h
set_option maxRecDepth 20000 in
set_option maxHeartbeats 4000000 in
theorem m_X1_recoverableVersions (l : Launch) (dd : va_G) (cT : Nat → ClassId) (lo : Nat → Prop) (G : gH) (a0 : Nat) {rz : Int32} (h : f_X1_recoverableVersions G a0 = some rz) : Met l yX1_recoverableVersions (Cond.code yX1_recoverableVersions cX1_recoverableVersions 3 (some .int) :: wsL_law) (g_rm 4 90 0 0) (va_Pc [.ref a0] (g_Pre lo dd cT G)) (va_Qi (g_is rz G) (g_Pre lo dd cT) (g_A lo)) 0 0 (g_A lo) := by
  refine g_start RX1 rfl (by decide) (Nat.le_of_ble_eq_true rfl) ?_
  intro p e s m below meth c hx hb hr hlocks hml hown hnm hts hK hG hlo ls hl
  have hl : lv_has ls 3 [(0, .ref a0)] := hl
  have hG : g_S lo dd cT s s.heap [] G := hG
  have h4 : ∀ n : Nat, ∀ (ba0 : Nat) (bx1 : Int32) (bx2 : Int32), ∀ (H : Heap) (locs : List Loc), g_S lo dd cT s H locs G → ∀ ls : Array Slot, lv_has ls 3 [(0, .ref ba0), (1, .int bx1), (2, .int bx2)] → f_X1_recoverableVersions_L4 G n ba0 bx1 bx2 = some rz → W p l e (g_rm 4 90 0 0) s m ([.ref a0] : List Value).toArray below meth c H locs 0 0 (MQ below (va_Qi (g_is rz G) (g_Pre lo dd cT) (g_A lo)) ([.ref a0] : List Value).toArray s 0 0 (g_A lo)) (F0 m 4 ls []) := by
    intro n
    induction n with
    | zero =>
      intro ba0 bx1 bx2 H locs hG ls hl h
      cases (show (none : Option Int32) = some rz from h)
    | succ n ih =>
      intro ba0 bx1 bx2 H locs hG ls hl h
      rw [f_X1_recoverableVersions_L4] at h
      refine lv_aload_n hx hb dX1_recoverableVersions_4 rfl (lv_at hl 0 rfl) ?_
      obtain ⟨v5, e5, h⟩ := Option.bind_eq_some_iff.mp h
      refine g_getr hx hb hts inlX1 hown hK hG (by rfl) 2 (by decide) qF_X1_28 e5 dX1_recoverableVersions_5 ?_
      obtain ⟨u8, i8, h⟩ := Option.bind_eq_some_iff.mp h
      obtain ⟨v8, e8, h⟩ := Option.bind_eq_some_iff.mp h
      refine g_cVi (As := []) (rest := []) (n := 0) hx hb hml hown hts hK hlo hG (m_X5_latestIsLost l dd cT lo G v5 e8) qM_X1_246 qI_yX5_latestIsLost qS_X5_yX5_latestIsLost qN_X5 qC_yX5_latestIsLost (by decide +kernel) ⟨Nat.le_of_ble_eq_true rfl, Nat.le_of_ble_eq_true rfl⟩ (by rfl) i8 rfl hl.1 rfl (Nat.le_of_ble_eq_true rfl) dX1_recoverableVersions_8 ⟨Nat.le_of_ble_eq_true rfl, Nat.le_of_ble_eq_true rfl⟩ (fun H locs hG => ?_)
      refine lv_if_eq (tgt := 55) hx hb dX1_recoverableVersions_11 (by decide) (fun c11 => ?_) (fun c11 => ?_)
      · rw [if_pos c11] at h
        refine lv_iload_n hx hb dX1_recoverableVersions_55 rfl (lv_at hl 1 rfl) ?_
        obtain rfl := Option.some.inj h
        exact g_iret hx hb hr hlocks hK hlo hG ⟨rfl, rfl⟩ dX1_recoverableVersions_56
      · rw [if_neg c11] at h
        refine lv_iload_n hx hb dX1_recoverableVersions_14 rfl (lv_at hl 2 rfl) ?_
        refine lv_aload_n hx hb dX1_recoverableVersions_15 rfl (lv_at hl 0 rfl) ?_
        obtain ⟨v16, e16, h⟩ := Option.bind_eq_some_iff.mp h
        refine g_geti hx hb hts inlX1 hown hK hG (by rfl) 3 (by decide) qF_X1_32 e16 dX1_recoverableVersions_16 ?_
        refine lv_icmp_ge (tgt := 55) hx hb dX1_recoverableVersions_19 (by decide) (fun c19 => ?_) (fun c19 => ?_)
        · rw [if_pos c19] at h
          refine lv_iload_n hx hb dX1_recoverableVersions_55 rfl (lv_at hl 1 rfl) ?_
          obtain rfl := Option.some.inj h
          exact g_iret hx hb hr hlocks hK hlo hG ⟨rfl, rfl⟩ dX1_recoverableVersions_56
        · rw [if_neg c19] at h
          refine lv_iload_n hx hb dX1_recoverableVersions_22 rfl (lv_at hl 1 rfl) ?_
          refine lv_aload_n hx hb dX1_recoverableVersions_23 rfl (lv_at hl 0 rfl) ?_
          refine lv_iload_n hx hb dX1_recoverableVersions_24 rfl (lv_at hl 2 rfl) ?_
          refine lv_aload_n hx hb dX1_recoverableVersions_25 rfl (lv_at hl 0 rfl) ?_
          obtain ⟨v26, e26, h⟩ := Option.bind_eq_some_iff.mp h
          refine g_getr hx hb hts inlX1 hown hK hG (by rfl) 2 (by decide) qF_X1_28 e26 dX1_recoverableVersions_26 ?_
          obtain ⟨u29, i29, h⟩ := Option.bind_eq_some_iff.mp h
          obtain ⟨v29, e29, h⟩ := Option.bind_eq_some_iff.mp h
          refine g_cVi (As := []) (rest := [.int bx2, .ref ba0, .int bx1]) (n := 0) hx hb hml hown hts hK hlo hG (m_X5_latest l dd cT lo G v26 e29) qM_X1_199 qI_yX5_latest qS_X5_yX5_latest qN_X5 qC_yX5_latest (by decide +kernel) ⟨Nat.le_of_ble_eq_true rfl, Nat.le_of_ble_eq_true rfl⟩ (by rfl) i29 rfl hl.1 rfl (Nat.le_of_ble_eq_true rfl) dX1_recoverableVersions_29 ⟨Nat.le_of_ble_eq_true rfl, Nat.le_of_ble_eq_true rfl⟩ (fun H locs hG => ?_)
          obtain ⟨u32, i32, h⟩ := Option.bind_eq_some_iff.mp h
          obtain ⟨v32, e32, h⟩ := Option.bind_eq_some_iff.mp h
          refine g_cVi (As := [.int bx2, .int v29]) (rest := [.int bx1]) (n := 2) hx hb hml hown hts hK hlo hG (m_X1_recoverableVersionOf l dd cT lo G ba0 bx2 v29 e32) qM_X1_243 qI_yX1_recoverableVersionOf qS_X1_yX1_recoverableVersionOf qN_X1 qC_yX1_recoverableVersionOf (by decide +kernel) ⟨Nat.le_of_ble_eq_true rfl, Nat.le_of_ble_eq_true rfl⟩ (by rfl) i32 rfl hl.1 rfl (Nat.le_of_ble_eq_true rfl) dX1_recoverableVersions_32 ⟨Nat.le_of_ble_eq_true rfl, Nat.le_of_ble_eq_true rfl⟩ (fun H locs hG => ?_)
          refine lv_iconst (v := (-1 : Int32)) hx hb dX1_recoverableVersions_35 (by decide) ?_
          refine lv_icmp_eq (tgt := 43) hx hb dX1_recoverableVersions_36 (by decide) (fun c36 => ?_) (fun c36 => ?_)
          · rw [if_pos c36] at h
            refine lv_iconst (v := (0 : Int32)) hx hb dX1_recoverableVersions_43 (by decide) ?_
            obtain ⟨v44, e44, h⟩ := Option.bind_eq_some_iff.mp h
            refine g_cNi (As := [.int (0 : Int32)]) (rest := [.int bx1]) (n := 1) hx hb hml hown hts hK hlo hG (m_X9_oneIf l dd cT lo G (0 : Int32) e44) (List.mem_of_getElem? (i := 21) rfl) qT_yX9_oneIf qN_X9 qC_yX9_oneIf (by decide +kernel) ⟨Nat.le_of_ble_eq_true rfl, Nat.le_of_ble_eq_true rfl⟩ rfl hl.1 rfl (Nat.le_of_ble_eq_true rfl) dX1_recoverableVersions_44 ⟨Nat.le_of_ble_eq_true rfl, Nat.le_of_ble_eq_true rfl⟩ (fun H locs hG => ?_)
            refine lv_iadd hx hb dX1_recoverableVersions_47 ?_
            refine lv_istore_n (lv' := [(1, .int (bx1 + v44)), (0, .ref ba0), (2, .int bx2)]) hx hb dX1_recoverableVersions_48 rfl hl (by decide) rfl (fun ls hl => ?_)
            refine lv_iinc (v := (bx2 + (1 : Int32))) (lv' := [(2, .int (bx2 + (1 : Int32))), (1, .int (bx1 + v44)), (0, .ref ba0)]) hx hb dX1_recoverableVersions_49 hl (k := 2) rfl rfl (by decide) rfl (fun ls hl => ?_)
            refine lv_goto (tgt := 4) hx hb dX1_recoverableVersions_52 (by decide) ?_
            exact ih ba0 (bx1 + v44) (bx2 + (1 : Int32)) _ _ hG _ (lv_sub hl [2, 1, 0] rfl) h
          · rw [if_neg c36] at h
            refine lv_iconst (v := (1 : Int32)) hx hb dX1_recoverableVersions_39 (by decide) ?_
            refine lv_goto (tgt := 44) hx hb dX1_recoverableVersions_40 (by decide) ?_
            obtain ⟨v44, e44, h⟩ := Option.bind_eq_some_iff.mp h
            refine g_cNi (As := [.int (1 : Int32)]) (rest := [.int bx1]) (n := 1) hx hb hml hown hts hK hlo hG (m_X9_oneIf l dd cT lo G (1 : Int32) e44) (List.mem_of_getElem? (i := 21) rfl) qT_yX9_oneIf qN_X9 qC_yX9_oneIf (by decide +kernel) ⟨Nat.le_of_ble_eq_true rfl, Nat.le_of_ble_eq_true rfl⟩ rfl hl.1 rfl (Nat.le_of_ble_eq_true rfl) dX1_recoverableVersions_44 ⟨Nat.le_of_ble_eq_true rfl, Nat.le_of_ble_eq_true rfl⟩ (fun H locs hG => ?_)
            refine lv_iadd hx hb dX1_recoverableVersions_47 ?_
            refine lv_istore_n (lv' := [(1, .int (bx1 + v44)), (0, .ref ba0), (2, .int bx2)]) hx hb dX1_recoverableVersions_48 rfl hl (by decide) rfl (fun ls hl => ?_)
            refine lv_iinc (v := (bx2 + (1 : Int32))) (lv' := [(2, .int (bx2 + (1 : Int32))), (1, .int (bx1 + v44)), (0, .ref ba0)]) hx hb dX1_recoverableVersions_49 hl (k := 2) rfl rfl (by decide) rfl (fun ls hl => ?_)
            refine lv_goto (tgt := 4) hx hb dX1_recoverableVersions_52 (by decide) ?_
            exact ih ba0 (bx1 + v44) (bx2 + (1 : Int32)) _ _ hG _ (lv_sub hl [2, 1, 0] rfl) h
  unfold f_X1_recoverableVersions at h
  refine lv_iconst (v := (0 : Int32)) hx hb dX1_recoverableVersions_0 (by decide) ?_
  refine lv_istore_n (lv' := [(1, .int (0 : Int32)), (0, .ref a0)]) hx hb dX1_recoverableVersions_1 rfl hl (by decide) rfl (fun ls hl => ?_)
  refine lv_iconst (v := (0 : Int32)) hx hb dX1_recoverableVersions_2 (by decide) ?_
  refine lv_istore_n (lv' := [(2, .int (0 : Int32)), (1, .int (0 : Int32)), (0, .ref a0)]) hx hb dX1_recoverableVersions_3 rfl hl (by decide) rfl (fun ls hl => ?_)
  exact h4 g_N a0 (0 : Int32) (0 : Int32) _ _ hG _ (lv_sub hl [2, 1, 0] rfl) h
set_option maxRecDepth 20000 in
set_option maxHeartbeats 4000000 in
theorem m_X4_readStatement (l : Launch) (dd : va_G) (cT : Nat → ClassId) (lo : Nat → Prop) (G : gH) (a0 : Nat) {rz : Int32} {Gz : gH} (h : f_X4_readStatement G a0 = some (Gz, rz)) : Met l yX4_readStatement (Cond.code yX4_readStatement cX4_readStatement 1 (some .boolean) :: wsL_law) (g_rm 7 155 0 0) (va_Pc [.ref a0] (g_Pre lo dd cT G)) (va_Qi (g_is rz Gz) (g_Pre lo dd cT) (g_A lo)) 0 0 (g_A lo) := by
  refine g_start RX4 rfl (by decide) (Nat.le_of_ble_eq_true rfl) ?_
  intro p e s m below meth c hx hb hr hlocks hml hown hnm hts hK hG hlo ls hl
  have hl : lv_has ls 1 [(0, .ref a0)] := hl
  have hG : g_S lo dd cT s s.heap [] G := hG
  unfold f_X4_readStatement at h
  refine lv_aload_n hx hb dX4_readStatement_0 rfl (lv_at hl 0 rfl) ?_
  refine va_ldcS (q := dd.2 100 1) hx hb hown (hG.2.2.2.1 _ (List.mem_of_getElem? (i := 2) rfl)) dX4_readStatement_1 ?_
  obtain ⟨u3, i3, h⟩ := Option.bind_eq_some_iff.mp h
  obtain ⟨v3, e3, h⟩ := Option.bind_eq_some_iff.mp h
  refine g_cVi (As := [.ref (dd.2 100 1)]) (rest := []) (n := 1) hx hb hml hown hts hK hlo hG (m_X4_isWord l dd cT lo G a0 1 e3) qM_X4_93 qI_yX4_isWord qS_X4_yX4_isWord qN_X4 qC_yX4_isWord (by decide +kernel) ⟨Nat.le_of_ble_eq_true rfl, Nat.le_of_ble_eq_true rfl⟩ (by rfl) i3 rfl hl.1 rfl (Nat.le_of_ble_eq_true rfl) dX4_readStatement_3 ⟨Nat.le_of_ble_eq_true rfl, Nat.le_of_ble_eq_true rfl⟩ (fun H locs hG => ?_)
  refine lv_if_eq (tgt := 14) hx hb dX4_readStatement_6 (by decide) (fun c6 => ?_) (fun c6 => ?_)
  · rw [if_pos c6] at h
    refine lv_aload_n hx hb dX4_readStatement_14 rfl (lv_at hl 0 rfl) ?_
    refine va_ldcS (q := dd.2 100 2) hx hb hown (hG.2.2.2.1 _ (List.mem_of_getElem? (i := 3) rfl)) dX4_readStatement_15 ?_
    obtain ⟨u17, i17, h⟩ := Option.bind_eq_some_iff.mp h
    obtain ⟨v17, e17, h⟩ := Option.bind_eq_some_iff.mp h
    refine g_cVi (As := [.ref (dd.2 100 2)]) (rest := []) (n := 1) hx hb hml hown hts hK hlo hG (m_X4_isWord l dd cT lo G a0 2 e17) qM_X4_93 qI_yX4_isWord qS_X4_yX4_isWord qN_X4 qC_yX4_isWord (by decide +kernel) ⟨Nat.le_of_ble_eq_true rfl, Nat.le_of_ble_eq_true rfl⟩ (by rfl) i17 rfl hl.1 rfl (Nat.le_of_ble_eq_true rfl) dX4_readStatement_17 ⟨Nat.le_of_ble_eq_true rfl, Nat.le_of_ble_eq_true rfl⟩ (fun H locs hG => ?_)
    refine lv_if_eq (tgt := 28) hx hb dX4_readStatement_20 (by decide) (fun c20 => ?_) (fun c20 => ?_)
    · rw [if_pos c20] at h
      refine lv_aload_n hx hb dX4_readStatement_28 rfl (lv_at hl 0 rfl) ?_
      refine va_ldcS (q := dd.2 100 3) hx hb hown (hG.2.2.2.1 _ (List.mem_of_getElem? (i := 4) rfl)) dX4_readStatement_29 ?_
      obtain ⟨u31, i31, h⟩ := Option.bind_eq_some_iff.mp h
      obtain ⟨v31, e31, h⟩ := Option.bind_eq_some_iff.mp h
      refine g_cVi (As := [.ref (dd.2 100 3)]) (rest := []) (n := 1) hx hb hml hown hts hK hlo hG (m_X4_isWord l dd cT lo G a0 3 e31) qM_X4_93 qI_yX4_isWord qS_X4_yX4_isWord qN_X4 qC_yX4_isWord (by decide +kernel) ⟨Nat.le_of_ble_eq_true rfl, Nat.le_of_ble_eq_true rfl⟩ (by rfl) i31 rfl hl.1 rfl (Nat.le_of_ble_eq_true rfl) dX4_readStatement_31 ⟨Nat.le_of_ble_eq_true rfl, Nat.le_of_ble_eq_true rfl⟩ (fun H locs hG => ?_)
      refine lv_if_eq (tgt := 42) hx hb dX4_readStatement_34 (by decide) (fun c34 => ?_) (fun c34 => ?_)
      · rw [if_pos c34] at h
        refine lv_aload_n hx hb dX4_readStatement_42 rfl (lv_at hl 0 rfl) ?_
        refine va_ldcS (q := dd.2 100 4) hx hb hown (hG.2.2.2.1 _ (List.mem_of_getElem? (i := 5) rfl)) dX4_readStatement_43 ?_
        obtain ⟨u45, i45, h⟩ := Option.bind_eq_some_iff.mp h
        obtain ⟨v45, e45, h⟩ := Option.bind_eq_some_iff.mp h
        refine g_cVi (As := [.ref (dd.2 100 4)]) (rest := []) (n := 1) hx hb hml hown hts hK hlo hG (m_X4_isWord l dd cT lo G a0 4 e45) qM_X4_93 qI_yX4_isWord qS_X4_yX4_isWord qN_X4 qC_yX4_isWord (by decide +kernel) ⟨Nat.le_of_ble_eq_true rfl, Nat.le_of_ble_eq_true rfl⟩ (by rfl) i45 rfl hl.1 rfl (Nat.le_of_ble_eq_true rfl) dX4_readStatement_45 ⟨Nat.le_of_ble_eq_true rfl, Nat.le_of_ble_eq_true rfl⟩ (fun H locs hG => ?_)
        refine lv_if_eq (tgt := 56) hx hb dX4_readStatement_48 (by decide) (fun c48 => ?_) (fun c48 => ?_)
        · rw [if_pos c48] at h
          refine lv_aload_n hx hb dX4_readStatement_56 rfl (lv_at hl 0 rfl) ?_
          refine va_ldcS (q := dd.2 100 5) hx hb hown (hG.2.2.2.1 _ (List.mem_of_getElem? (i := 0) rfl)) dX4_readStatement_57 ?_
          obtain ⟨u59, i59, h⟩ := Option.bind_eq_some_iff.mp h
          obtain ⟨v59, e59, h⟩ := Option.bind_eq_some_iff.mp h
          refine g_cVi (As := [.ref (dd.2 100 5)]) (rest := []) (n := 1) hx hb hml hown hts hK hlo hG (m_X4_isWord l dd cT lo G a0 5 e59) qM_X4_93 qI_yX4_isWord qS_X4_yX4_isWord qN_X4 qC_yX4_isWord (by decide +kernel) ⟨Nat.le_of_ble_eq_true rfl, Nat.le_of_ble_eq_true rfl⟩ (by rfl) i59 rfl hl.1 rfl (Nat.le_of_ble_eq_true rfl) dX4_readStatement_59 ⟨Nat.le_of_ble_eq_true rfl, Nat.le_of_ble_eq_true rfl⟩ (fun H locs hG => ?_)
          refine lv_if_eq (tgt := 83) hx hb dX4_readStatement_62 (by decide) (fun c62 => ?_) (fun c62 => ?_)
          · rw [if_pos c62] at h
            refine lv_aload_n hx hb dX4_readStatement_83 rfl (lv_at hl 0 rfl) ?_
            refine lv_iconst (v := (1 : Int32)) hx hb dX4_readStatement_84 (by decide) ?_
            obtain ⟨u85, i85, h⟩ := Option.bind_eq_some_iff.mp h
            obtain ⟨q85, e85, h⟩ := Option.bind_eq_some_iff.mp h
            refine g_cVi (As := [.int (1 : Int32)]) (rest := []) (n := 1) hx hb hml hown hts hK hlo hG (m_X4_fail l dd cT lo G a0 (1 : Int32) e85) qM_X4_97 qI_yX4_fail qS_X4_yX4_fail qN_X4 qC_yX4_fail (by decide +kernel) ⟨Nat.le_of_ble_eq_true rfl, Nat.le_of_ble_eq_true rfl⟩ (by rfl) i85 rfl hl.1 rfl (Nat.le_of_ble_eq_true rfl) dX4_readStatement_85 ⟨Nat.le_of_ble_eq_true rfl, Nat.le_of_ble_eq_true rfl⟩ (fun H locs hG => ?_)
            obtain ⟨w88, e88, h⟩ := Option.bind_eq_some_iff.mp h
            obtain ⟨n88, rfl⟩ := g_z_nar e88
            obtain ⟨rfl, rfl⟩ := Prod.mk.inj (Option.some.inj h)
            exact g_zret hx hb hr hlocks hK hlo hG n88 ⟨rfl, rfl⟩ dX4_readStatement_88
          · rw [if_neg c62] at h
            refine lv_aload_n hx hb dX4_readStatement_65 rfl (lv_at hl 0 rfl) ?_
            refine lv_iconst (v := (3 : Int32)) hx hb dX4_readStatement_66 (by decide) ?_
            refine lv_aload_n hx hb dX4_readStatement_67 rfl (lv_at hl 0 rfl) ?_
            obtain ⟨v68, e68, h⟩ := Option.bind_eq_some_iff.mp h
            refine g_getr hx hb hts inlX4 hown hK hG (by rfl) 13 (by decide) qF_X4_57 e68 dX4_readStatement_68 ?_
            refine lv_aload_n hx hb dX4_readStatement_71 rfl (lv_at hl 0 rfl) ?_
            obtain ⟨v72, e72, h⟩ := Option.bind_eq_some_iff.mp h
            refine g_geti hx hb hts inlX4 hown hK hG (by rfl) 14 (by decide) qF_X4_61 e72 dX4_readStatement_72 ?_
            obtain ⟨u75, i75, h⟩ := Option.bind_eq_some_iff.mp h
            obtain ⟨v75, e75, h⟩ := Option.bind_eq_some_iff.mp h
            refine g_cVi (As := [.int v72]) (rest := [.int (3 : Int32), .ref a0]) (n := 1) hx hb hml hown hts hK hlo hG (m_X11_startOf l dd cT lo G v68 v72 e75) qM_X4_83 qI_yX11_startOf qS_X11_yX11_startOf qN_X11 qC_yX11_startOf (by decide +kernel) ⟨Nat.le_of_ble_eq_true rfl, Nat.le_of_ble_eq_true rfl⟩ (by rfl) i75 rfl hl.1 rfl (Nat.le_of_ble_eq_true rfl) dX4_readStatement_75 ⟨Nat.le_of_ble_eq_true rfl, Nat.le_of_ble_eq_true rfl⟩ (fun H locs hG => ?_)
            refine lv_iconst (v := (-1 : Int32)) hx hb dX4_readStatement_78 (by decide) ?_
            obtain ⟨u79, i79, h⟩ := Option.bind_eq_some_iff.mp h
            obtain ⟨q79, e79, h⟩ := Option.bind_eq_some_iff.mp h
            refine g_cVi (As := [.int (3 : Int32), .int v75, .int (-1 : Int32)]) (rest := []) (n := 3) hx hb hml hown hts hK hlo hG (m_X4_add l dd cT lo G a0 (3 : Int32) v75 (-1 : Int32) e79) qM_X4_135 qI_yX4_add qS_X4_yX4_add qN_X4 qC_yX4_add (by decide +kernel) ⟨Nat.le_of_ble_eq_true rfl, Nat.le_of_ble_eq_true rfl⟩ (by rfl) i79 rfl hl.1 rfl (Nat.le_of_ble_eq_true rfl) dX4_readStatement_79 ⟨Nat.le_of_ble_eq_true rfl, Nat.le_of_ble_eq_true rfl⟩ (fun H locs hG => ?_)
            obtain ⟨w82, e82, h⟩ := Option.bind_eq_some_iff.mp h
            obtain ⟨n82, rfl⟩ := g_z_nar e82
            obtain ⟨rfl, rfl⟩ := Prod.mk.inj (Option.some.inj h)
            exact g_zret hx hb hr hlocks hK hlo hG n82 ⟨rfl, rfl⟩ dX4_readStatement_82
        · rw [if_neg c48] at h
          refine lv_aload_n hx hb dX4_readStatement_51 rfl (lv_at hl 0 rfl) ?_
          obtain ⟨u52, i52, h⟩ := Option.bind_eq_some_iff.mp h
          obtain ⟨q52, e52, h⟩ := Option.bind_eq_some_iff.mp h
          refine g_cVi (As := []) (rest := []) (n := 0) hx hb hml hown hts hK hlo hG (m_X4_readErase l dd cT lo G a0 e52) qM_X4_130 qI_yX4_readErase qS_X4_yX4_readErase qN_X4 qC_yX4_readErase (by decide +kernel) ⟨Nat.le_of_ble_eq_true rfl, Nat.le_of_ble_eq_true rfl⟩ (by rfl) i52 rfl hl.1 rfl (Nat.le_of_ble_eq_true rfl) dX4_readStatement_52 ⟨Nat.le_of_ble_eq_true rfl, Nat.le_of_ble_eq_true rfl⟩ (fun H locs hG => ?_)
          obtain ⟨w55, e55, h⟩ := Option.bind_eq_some_iff.mp h
          obtain ⟨n55, rfl⟩ := g_z_nar e55
          obtain ⟨rfl, rfl⟩ := Prod.mk.inj (Option.some.inj h)
          exact g_zret hx hb hr hlocks hK hlo hG n55 ⟨rfl, rfl⟩ dX4_readStatement_55
      · rw [if_neg c34] at h
        refine lv_aload_n hx hb dX4_readStatement_37 rfl (lv_at hl 0 rfl) ?_
        obtain ⟨u38, i38, h⟩ := Option.bind_eq_some_iff.mp h
        obtain ⟨q38, e38, h⟩ := Option.bind_eq_some_iff.mp h
        refine g_cVi (As := []) (rest := []) (n := 0) hx hb hml hown hts hK hlo hG (m_X4_readWrite l dd cT lo G a0 e38) qM_X4_125 qI_yX4_readWrite qS_X4_yX4_readWrite qN_X4 qC_yX4_readWrite (by decide +kernel) ⟨Nat.le_of_ble_eq_true rfl, Nat.le_of_ble_eq_true rfl⟩ (by rfl) i38 rfl hl.1 rfl (Nat.le_of_ble_eq_true rfl) dX4_readStatement_38 ⟨Nat.le_of_ble_eq_true rfl, Nat.le_of_ble_eq_true rfl⟩ (fun H locs hG => ?_)
        obtain ⟨w41, e41, h⟩ := Option.bind_eq_some_iff.mp h
        obtain ⟨n41, rfl⟩ := g_z_nar e41
        obtain ⟨rfl, rfl⟩ := Prod.mk.inj (Option.some.inj h)
        exact g_zret hx hb hr hlocks hK hlo hG n41 ⟨rfl, rfl⟩ dX4_readStatement_41
    · rw [if_neg c20] at h
      refine lv_aload_n hx hb dX4_readStatement_23 rfl (lv_at hl 0 rfl) ?_
      obtain ⟨u24, i24, h⟩ := Option.bind_eq_some_iff.mp h
      obtain ⟨q24, e24, h⟩ := Option.bind_eq_some_iff.mp h
      refine g_cVi (As := []) (rest := []) (n := 0) hx hb hml hown hts hK hlo hG (m_X4_readNewFile l dd cT lo G a0 e24) qM_X4_120 qI_yX4_readNewFile qS_X4_yX4_readNewFile qN_X4 qC_yX4_readNewFile (by decide +kernel) ⟨Nat.le_of_ble_eq_true rfl, Nat.le_of_ble_eq_true rfl⟩ (by rfl) i24 rfl hl.1 rfl (Nat.le_of_ble_eq_true rfl) dX4_readStatement_24 ⟨Nat.le_of_ble_eq_true rfl, Nat.le_of_ble_eq_true rfl⟩ (fun H locs hG => ?_)
      obtain ⟨w27, e27, h⟩ := Option.bind_eq_some_iff.mp h
      obtain ⟨n27, rfl⟩ := g_z_nar e27
      obtain ⟨rfl, rfl⟩ := Prod.mk.inj (Option.some.inj h)
      exact g_zret hx hb hr hlocks hK hlo hG n27 ⟨rfl, rfl⟩ dX4_readStatement_27
  · rw [if_neg c6] at h
    refine lv_aload_n hx hb dX4_readStatement_9 rfl (lv_at hl 0 rfl) ?_
    obtain ⟨u10, i10, h⟩ := Option.bind_eq_some_iff.mp h
    obtain ⟨q10, e10, h⟩ := Option.bind_eq_some_iff.mp h
    refine g_cVi (As := []) (rest := []) (n := 0) hx hb hml hown hts hK hlo hG (m_X4_readBad l dd cT lo G a0 e10) qM_X4_115 qI_yX4_readBad qS_X4_yX4_readBad qN_X4 qC_yX4_readBad (by decide +kernel) ⟨Nat.le_of_ble_eq_true rfl, Nat.le_of_ble_eq_true rfl⟩ (by rfl) i10 rfl hl.1 rfl (Nat.le_of_ble_eq_true rfl) dX4_readStatement_10 ⟨Nat.le_of_ble_eq_true rfl, Nat.le_of_ble_eq_true rfl⟩ (fun H locs hG => ?_)
    obtain ⟨w13, e13, h⟩ := Option.bind_eq_some_iff.mp h
    obtain ⟨n13, rfl⟩ := g_z_nar e13
    obtain ⟨rfl, rfl⟩ := Prod.mk.inj (Option.some.inj h)
    exact g_zret hx hb hr hlocks hK hlo hG n13 ⟨rfl, rfl⟩ dX4_readStatement_13
set_option maxRecDepth 20000 in
set_option maxHeartbeats 4000000 in
theorem m_X8_lookAt (l : Launch) (dd : va_G) (cT : Nat → ClassId) (lo : Nat → Prop) (G : gH) (a0 : Nat) (a1 : Nat) {rz : Nat} {Gz : gH} (h : f_X8_lookAt G a0 a1 = some (Gz, rz)) : Met l yX8_lookAt (Cond.code yX8_lookAt cX8_lookAt 5 (some (.object "OnceDisc$View")) :: wsL_law) (g_rm 3 71 0 0) (va_Pc [.ref a0, .ref a1] (g_Pre lo dd cT G)) (va_Qr (g_iv Gz) (fun G' a t => a = rz ∧ g_Pre lo dd cT G' t) (g_A lo)) 0 0 (g_A lo) := by
  refine g_start RX8 rfl (by decide) (Nat.le_of_ble_eq_true rfl) ?_
  intro p e s m below meth c hx hb hr hlocks hml hown hnm hts hK hG hlo ls hl
  have hl : lv_has ls 5 [(0, .ref a0), (1, .ref a1)] := hl
  have hG : g_S lo dd cT s s.heap [] G := hG
  have h15 : ∀ n : Nat, ∀ (G : gH) (ba0 : Nat) (ba1 : Nat) (bx2 : Int32), ∀ (H : Heap) (locs : List Loc), g_S lo dd cT s H locs G → ∀ ls : Array Slot, lv_has ls 5 [(0, .ref ba0), (1, .ref ba1), (2, .int bx2)] → f_X8_lookAt_L15 n G ba0 ba1 bx2 = some (Gz, rz) → W p l e (g_rm 3 71 0 0) s m ([.ref a0, .ref a1] : List Value).toArray below meth c H locs 0 0 (MQ below (va_Qr (g_iv Gz) (fun G' a t => a = rz ∧ g_Pre lo dd cT G' t) (g_A lo)) ([.ref a0, .ref a1] : List Value).toArray s 0 0 (g_A lo)) (F0 m 15 ls []) := by
    intro n
    induction n with
    | zero =>
      intro G ba0 ba1 bx2 H locs hG ls hl h
      cases (show (none : Option (gH × Nat)) = some (Gz, rz) from h)
    | succ n ih =>
      intro G ba0 ba1 bx2 H locs hG ls hl h
      rw [f_X8_lookAt_L15] at h
      refine lv_iload_n hx hb dX8_lookAt_15 rfl (lv_at hl 2 rfl) ?_
      refine lv_aload_n hx hb dX8_lookAt_16 rfl (lv_at hl 0 rfl) ?_
      obtain ⟨v17, e17, h⟩ := Option.bind_eq_some_iff.mp h
      refine g_geti hx hb hts inlX8 hown hK hG (by rfl) 0 (by decide) qF_X8_9 e17 dX8_lookAt_17 ?_
      refine lv_icmp_ge (tgt := 90) hx hb dX8_lookAt_20 (by decide) (fun c20 => ?_) (fun c20 => ?_)
      · rw [if_pos c20] at h
        refine lv_aload_n hx hb dX8_lookAt_90 rfl (lv_at hl 0 rfl) ?_
        obtain ⟨rfl, rfl⟩ := Prod.mk.inj (Option.some.inj h)
        exact g_aret hx hb hr hlocks hK hlo hG rfl dX8_lookAt_91
      · rw [if_neg c20] at h
        refine lv_aload_n hx hb dX8_lookAt_23 rfl (lv_at hl 0 rfl) ?_
        refine lv_aload_n hx hb dX8_lookAt_24 rfl (lv_at hl 1 rfl) ?_
        obtain ⟨v25, e25, h⟩ := Option.bind_eq_some_iff.mp h
        refine g_getr hx hb hts inlX1 hown hK hG (by rfl) 2 (by decide) qF_X8_36 e25 dX8_lookAt_25 ?_
        refine lv_iload_n hx hb dX8_lookAt_28 rfl (lv_at hl 2 rfl) ?_
        refine lv_aload_n hx hb dX8_lookAt_29 rfl (lv_at hl 1 rfl) ?_
        obtain ⟨v30, e30, h⟩ := Option.bind_eq_some_iff.mp h
        refine g_getr hx hb hts inlX1 hown hK hG (by rfl) 2 (by decide) qF_X8_36 e30 dX8_lookAt_30 ?_
        obtain ⟨v33, e33, h⟩ := Option.bind_eq_some_iff.mp h
        refine g_geti hx hb hts inlX5 hown hK hG (by rfl) 0 (by decide) qF_X8_39 e33 dX8_lookAt_33 ?_
        obtain ⟨u36, i36, h⟩ := Option.bind_eq_some_iff.mp h
        obtain ⟨v36, e36, h⟩ := Option.bind_eq_some_iff.mp h
        refine g_cVi (As := [.ref v25, .int bx2, .int v33]) (rest := []) (n := 3) hx hb hml hown hts hK hlo hG (m_X8_sessionThatCounts l dd cT lo G ba0 v25 bx2 v33 e36) qM_X8_44 qI_yX8_sessionThatCounts qS_X8_yX8_sessionThatCounts qN_X8 qC_yX8_sessionThatCounts (by decide +kernel) ⟨Nat.le_of_ble_eq_true rfl, Nat.le_of_ble_eq_true rfl⟩ (by rfl) i36 rfl hl.1 rfl (Nat.le_of_ble_eq_true rfl) dX8_lookAt_36 ⟨Nat.le_of_ble_eq_true rfl, Nat.le_of_ble_eq_true rfl⟩ (fun H locs hG => ?_)
        refine lv_istore_n (lv' := [(3, .int v36), (0, .ref ba0), (1, .ref ba1), (2, .int bx2)]) hx hb dX8_lookAt_39 rfl hl (by decide) rfl (fun ls hl => ?_)
        refine lv_aload_n hx hb dX8_lookAt_40 rfl (lv_at hl 2 rfl) ?_
        obtain ⟨v41, e41, h⟩ := Option.bind_eq_some_iff.mp h
        refine g_getr hx hb hts inlX1 hown hK hG (by rfl) 2 (by decide) qF_X8_36 e41 dX8_lookAt_41 ?_
        refine lv_iload_n hx hb dX8_lookAt_44 rfl (lv_at hl 0 rfl) ?_
        refine lv_iload_n hx hb dX8_lookAt_45 rfl (lv_at hl 3 rfl) ?_
        obtain ⟨u46, i46, h⟩ := Option.bind_eq_some_iff.mp h
        obtain ⟨v46, e46, h⟩ := Option.bind_eq_some_iff.mp h
        refine g_cVi (As := [.int v36, .int bx2]) (rest := []) (n := 2) hx hb hml hown hts hK hlo hG (m_X5_versionFor l dd cT lo G v41 v36 bx2 e46) qM_X8_48 qI_yX5_versionFor qS_X5_yX5_versionFor qN_X5 qC_yX5_versionFor (by decide +kernel) ⟨Nat.le_of_ble_eq_true rfl, Nat.le_of_ble_eq_true rfl⟩ (by rfl) i46 rfl hl.1 rfl (Nat.le_of_ble_eq_true rfl) dX8_lookAt_46 ⟨Nat.le_of_ble_eq_true rfl, Nat.le_of_ble_eq_true rfl⟩ (fun H locs hG => ?_)
        refine lv_istore (lv' := [(4, .int v46), (3, .int v36), (0, .ref ba0), (1, .ref ba1), (2, .int bx2)]) hx hb dX8_lookAt_49 hl (by decide) rfl (fun ls hl => ?_)
        refine lv_aload_n hx hb dX8_lookAt_51 rfl (lv_at hl 2 rfl) ?_
        obtain ⟨v52, e52, h⟩ := Option.bind_eq_some_iff.mp h
        refine g_getr hx hb hts inlX8 hown hK hG (by rfl) 2 (by decide) qF_X8_19 e52 dX8_lookAt_52 ?_
        refine lv_iload_n hx hb dX8_lookAt_55 rfl (lv_at hl 4 rfl) ?_
        refine lv_iload_n hx hb dX8_lookAt_56 rfl (lv_at hl 1 rfl) ?_
        obtain ⟨G57, e57, h⟩ := Option.bind_eq_some_iff.mp h
        refine g_cNv (As := [.ref v52, .int bx2, .int v36]) (rest := []) (n := 3) hx hb hml hown hts hK hlo hG (m_X9_put l dd cT lo G v52 bx2 v36 e57) (List.mem_of_getElem? (i := 50) rfl) qT_yX9_put qN_X9 qC_yX9_put (by decide +kernel) ⟨Nat.le_of_ble_eq_true rfl, Nat.le_of_ble_eq_true rfl⟩ rfl hl.1 rfl (Nat.le_of_ble_eq_true rfl) dX8_lookAt_57 ⟨Nat.le_of_ble_eq_true rfl, Nat.le_of_ble_eq_true rfl⟩ (fun H locs hG => ?_)
        refine lv_aload_n hx hb dX8_lookAt_60 rfl (lv_at hl 2 rfl) ?_
        obtain ⟨v61, e61, h⟩ := Option.bind_eq_some_iff.mp h
        refine g_getr hx hb hts inlX8 hown hK hG (by rfl) 3 (by decide) qF_X8_23 e61 dX8_lookAt_61 ?_
        refine lv_iload_n hx hb dX8_lookAt_64 rfl (lv_at hl 4 rfl) ?_
        refine lv_iload hx hb dX8_lookAt_65 (lv_at hl 0 rfl) ?_
        obtain ⟨G67, e67, h⟩ := Option.bind_eq_some_iff.mp h
        refine g_cNv (As := [.ref v61, .int bx2, .int v46]) (rest := []) (n := 3) hx hb hml hown hts hK hlo hG (m_X9_put l dd cT lo G57 v61 bx2 v46 e67) (List.mem_of_getElem? (i := 50) rfl) qT_yX9_put qN_X9 qC_yX9_put (by decide +kernel) ⟨Nat.le_of_ble_eq_true rfl, Nat.le_of_ble_eq_true rfl⟩ rfl hl.1 rfl (Nat.le_of_ble_eq_true rfl) dX8_lookAt_67 ⟨Nat.le_of_ble_eq_true rfl, Nat.le_of_ble_eq_true rfl⟩ (fun H locs hG => ?_)
        refine lv_aload_n hx hb dX8_lookAt_70 rfl (lv_at hl 2 rfl) ?_
        obtain ⟨v71, e71, h⟩ := Option.bind_eq_some_iff.mp h
        refine g_getr hx hb hts inlX8 hown hK hG (by rfl) 4 (by decide) qF_X8_26 e71 dX8_lookAt_71 ?_
        refine lv_iload_n hx hb dX8_lookAt_74 rfl (lv_at hl 4 rfl) ?_
        refine lv_aload_n hx hb dX8_lookAt_75 rfl (lv_at hl 3 rfl) ?_
        refine lv_iload hx hb dX8_lookAt_76 (lv_at hl 0 rfl) ?_
        obtain ⟨u78, i78, h⟩ := Option.bind_eq_some_iff.mp h
        obtain ⟨v78, e78, h⟩ := Option.bind_eq_some_iff.mp h
        refine g_cVi (As := [.int v46]) (rest := [.int bx2, .ref v71]) (n := 1) hx hb hml hown hts hK hlo hG (m_X1_canReadVersion l dd cT lo G67 ba1 v46 e78) qM_X8_56 qI_yX1_canReadVersion qS_X1_yX1_canReadVersion qN_X1 qC_yX1_canReadVersion (by decide +kernel) ⟨Nat.le_of_ble_eq_true rfl, Nat.le_of_ble_eq_true rfl⟩ (by rfl) i78 rfl hl.1 rfl (Nat.le_of_ble_eq_true rfl) dX8_lookAt_78 ⟨Nat.le_of_ble_eq_true rfl, Nat.le_of_ble_eq_true rfl⟩ (fun H locs hG => ?_)
        obtain ⟨G81, e81, h⟩ := Option.bind_eq_some_iff.mp h
        refine g_cNv (As := [.ref v71, .int bx2, .int v78]) (rest := []) (n := 3) hx hb hml hown hts hK hlo hG (m_X9_mark l dd cT lo G67 v71 bx2 v78 e81) (List.mem_of_getElem? (i := 51) rfl) qT_yX9_mark qN_X9 qC_yX9_mark (by decide +kernel) ⟨Nat.le_of_ble_eq_true rfl, Nat.le_of_ble_eq_true rfl⟩ rfl hl.1 rfl (Nat.le_of_ble_eq_true rfl) dX8_lookAt_81 ⟨Nat.le_of_ble_eq_true rfl, Nat.le_of_ble_eq_true rfl⟩ (fun H locs hG => ?_)
        refine lv_iinc (v := (bx2 + (1 : Int32))) (lv' := [(2, .int (bx2 + (1 : Int32))), (4, .int v46), (3, .int v36), (0, .ref ba0), (1, .ref ba1)]) hx hb dX8_lookAt_84 hl (k := 4) rfl rfl (by decide) rfl (fun ls hl => ?_)
        refine lv_goto (tgt := 15) hx hb dX8_lookAt_87 (by decide) ?_
        exact ih G81 ba0 ba1 (bx2 + (1 : Int32)) _ _ hG _ (lv_sub hl [3, 4, 0] rfl) h
  unfold f_X8_lookAt at h
  refine lv_aload_n hx hb dX8_lookAt_0 rfl (lv_at hl 0 rfl) ?_
  refine lv_aload_n hx hb dX8_lookAt_1 rfl (lv_at hl 1 rfl) ?_
  obtain ⟨v2, e2, h⟩ := Option.bind_eq_some_iff.mp h
  refine g_geti hx hb hts inlX1 hown hK hG (by rfl) 3 (by decide) qF_X8_29 e2 dX8_lookAt_2 ?_
  obtain ⟨G5, i5, h⟩ := Option.bind_eq_some_iff.mp h
  refine g_putv hx hb hts inlX8 tyX8 tyX8_ok nmX8 hown hK hG (by rfl) 0 (by decide) qF_X8_9 rfl rfl rfl rfl i5 dX8_lookAt_5 (fun H locs hG => ?_)
  refine lv_aload_n hx hb dX8_lookAt_8 rfl (lv_at hl 0 rfl) ?_
  refine lv_aload_n hx hb dX8_lookAt_9 rfl (lv_at hl 1 rfl) ?_
  obtain ⟨u10, i10, h⟩ := Option.bind_eq_some_iff.mp h
  obtain ⟨G10, e10, h⟩ := Option.bind_eq_some_iff.mp h
  refine g_cVv (As := [.ref a1]) (rest := []) (n := 1) hx hb hml hown hts hK hlo hG (m_X8_markReached l dd cT lo G5 a0 a1 e10) qM_X8_32 qI_yX8_markReached qS_X8_yX8_markReached qN_X8 qC_yX8_markReached (by decide +kernel) ⟨Nat.le_of_ble_eq_true rfl, Nat.le_of_ble_eq_true rfl⟩ (by rfl) i10 rfl hl.1 rfl (Nat.le_of_ble_eq_true rfl) dX8_lookAt_10 ⟨Nat.le_of_ble_eq_true rfl, Nat.le_of_ble_eq_true rfl⟩ (fun H locs hG => ?_)
  refine lv_iconst (v := (0 : Int32)) hx hb dX8_lookAt_13 (by decide) ?_
  refine lv_istore_n (lv' := [(2, .int (0 : Int32)), (0, .ref a0), (1, .ref a1)]) hx hb dX8_lookAt_14 rfl hl (by decide) rfl (fun ls hl => ?_)
  exact h15 g_N G10 a0 a1 (0 : Int32) _ _ hG _ (lv_sub hl [1, 2, 0] rfl) h
set_option maxRecDepth 20000 in
set_option maxHeartbeats 4000000 in
theorem m_X9_couldRecover (l : Launch) (dd : va_G) (cT : Nat → ClassId) (lo : Nat → Prop) (G : gH) (a0 : Nat) {rz : Int32} (h : f_X9_couldRecover G a0 = some rz) : Met l yX9_couldRecover (Cond.code yX9_couldRecover cX9_couldRecover 1 (some .int) :: wsL_law) (g_rm 5 112 0 0) (va_Pc [.ref a0] (g_Pre lo dd cT G)) (va_Qi (g_is rz G) (g_Pre lo dd cT) (g_A lo)) 0 0 (g_A lo) := by
  refine g_start RX9 rfl (by decide) (Nat.le_of_ble_eq_true rfl) ?_
  intro p e s m below meth c hx hb hr hlocks hml hown hnm hts hK hG hlo ls hl
  have hl : lv_has ls 1 [(0, .ref a0)] := hl
  have hG : g_S lo dd cT s s.heap [] G := hG
  unfold f_X9_couldRecover at h
  refine lv_aload_n hx hb dX9_couldRecover_0 rfl (lv_at hl 0 rfl) ?_
  obtain ⟨v1, e1, h⟩ := Option.bind_eq_some_iff.mp h
  refine g_getr hx hb hts inlX9 hown hK hG (by rfl) 5 (by decide) qF_X9_47 e1 dX9_couldRecover_1 ?_
  obtain ⟨u4, i4, h⟩ := Option.bind_eq_some_iff.mp h
  obtain ⟨v4, e4, h⟩ := Option.bind_eq_some_iff.mp h
  refine g_cVi (As := []) (rest := []) (n := 0) hx hb hml hown hts hK hlo hG (m_X1_recoverableVersions l dd cT lo G v1 e4) qM_X9_261 qI_yX1_recoverableVersions qS_X1_yX1_recoverableVersions qN_X1 qC_yX1_recoverableVersions (by decide +kernel) ⟨Nat.le_of_ble_eq_true rfl, Nat.le_of_ble_eq_true rfl⟩ (by rfl) i4 rfl hl.1 rfl (Nat.le_of_ble_eq_true rfl) dX9_couldRecover_4 ⟨Nat.le_of_ble_eq_true rfl, Nat.le_of_ble_eq_true rfl⟩ (fun H locs hG => ?_)
  obtain rfl := Option.some.inj h
  exact g_iret hx hb hr hlocks hK hlo hG ⟨rfl, rfl⟩ dX9_couldRecover_7
set_option maxRecDepth 20000 in
set_option maxHeartbeats 4000000 in
theorem m_X1_filesLostBy (l : Launch) (dd : va_G) (cT : Nat → ClassId) (lo : Nat → Prop) (G : gH) (a0 : Nat) (x1 : Int32) (a2 : Nat) (a3 : Nat) {rz : Int32} {Gz : gH} (h : f_X1_filesLostBy G a0 x1 a2 a3 = some (Gz, rz)) : Met l yX1_filesLostBy (Cond.code yX1_filesLostBy cX1_filesLostBy 6 (some .int) :: wsL_law) (g_rm 4 95 0 0) (va_Pc [.ref a0, .int x1, .ref a2, .ref a3] (g_Pre lo dd cT G)) (va_Qi (g_is rz Gz) (g_Pre lo dd cT) (g_A lo)) 0 0 (g_A lo) := by
  refine g_start RX1 rfl (by decide) (Nat.le_of_ble_eq_true rfl) ?_
  intro p e s m below meth c hx hb hr hlocks hml hown hnm hts hK hG hlo ls hl
  have hl : lv_has ls 6 [(0, .ref a0), (1, .int x1), (2, .ref a2), (3, .ref a3)] := hl
  have hG : g_S lo dd cT s s.heap [] G := hG
  have h60 : ∀ n : Nat, ∀ (G : gH) (ba0 : Nat) (ba2 : Nat) (ba3 : Nat) (bx4 : Int32) (bx5 : Int32), ∀ (H : Heap) (locs : List Loc), g_S lo dd cT s H locs G → ∀ ls : Array Slot, lv_has ls 6 [(0, .ref ba0), (2, .ref ba2), (3, .ref ba3), (4, .int bx4), (5, .int bx5)] → f_X1_filesLostBy_L60 n G ba0 ba2 ba3 bx4 bx5 = some (Gz, rz) → W p l e (g_rm 4 95 0 0) s m ([.ref a0, .int x1, .ref a2, .ref a3] : List Value).toArray below meth c H locs 0 0 (MQ below (va_Qi (g_is rz Gz) (g_Pre lo dd cT) (g_A lo)) ([.ref a0, .int x1, .ref a2, .ref a3] : List Value).toArray s 0 0 (g_A lo)) (F0 m 60 ls []) := by
    intro n
    induction n with
    | zero =>
      intro G ba0 ba2 ba3 bx4 bx5 H locs hG ls hl h
      cases (show (none : Option (gH × Int32)) = some (Gz, rz) from h)
    | succ n ih =>
      intro G ba0 ba2 ba3 bx4 bx5 H locs hG ls hl h
      rw [f_X1_filesLostBy_L60] at h
      refine lv_iload hx hb dX1_filesLostBy_60 (lv_at hl 4 rfl) ?_
      refine lv_aload_n hx hb dX1_filesLostBy_62 rfl (lv_at hl 0 rfl) ?_
      obtain ⟨v63, e63, h⟩ := Option.bind_eq_some_iff.mp h
      refine g_geti hx hb hts inlX1 hown hK hG (by rfl) 3 (by decide) qF_X1_32 e63 dX1_filesLostBy_63 ?_
      refine lv_icmp_ge (tgt := 106) hx hb dX1_filesLostBy_66 (by decide) (fun c66 => ?_) (fun c66 => ?_)
      · rw [if_pos c66] at h
        refine lv_iload hx hb dX1_filesLostBy_106 (lv_at hl 3 rfl) ?_
        obtain ⟨rfl, rfl⟩ := Prod.mk.inj (Option.some.inj h)
        exact g_iret hx hb hr hlocks hK hlo hG ⟨rfl, rfl⟩ dX1_filesLostBy_108
      · rw [if_neg c66] at h
        refine lv_iload hx hb dX1_filesLostBy_69 (lv_at hl 3 rfl) ?_
        refine lv_aload_n hx hb dX1_filesLostBy_71 rfl (lv_at hl 1 rfl) ?_
        refine lv_iload hx hb dX1_filesLostBy_72 (lv_at hl 4 rfl) ?_
        obtain ⟨u74, i74, h⟩ := Option.bind_eq_some_iff.mp h
        obtain ⟨v74, e74, h⟩ := Option.bind_eq_some_iff.mp h
        refine g_cVi (As := [.int bx5]) (rest := [.int bx4]) (n := 1) hx hb hml hown hts hK hlo hG (m_X8_isReadable l dd cT lo G ba2 bx5 e74) qM_X1_159 qI_yX8_isReadable qS_X8_yX8_isReadable qN_X8 qC_yX8_isReadable (by decide +kernel) ⟨Nat.le_of_ble_eq_true rfl, Nat.le_of_ble_eq_true rfl⟩ (by rfl) i74 rfl hl.1 rfl (Nat.le_of_ble_eq_true rfl) dX1_filesLostBy_74 ⟨Nat.le_of_ble_eq_true rfl, Nat.le_of_ble_eq_true rfl⟩ (fun H locs hG => ?_)
        refine lv_if_eq (tgt := 93) hx hb dX1_filesLostBy_77 (by decide) (fun c77 => ?_) (fun c77 => ?_)
        · rw [if_pos c77] at h
          refine lv_iconst (v := (0 : Int32)) hx hb dX1_filesLostBy_93 (by decide) ?_
          obtain ⟨v94, e94, h⟩ := Option.bind_eq_some_iff.mp h
          refine g_cNi (As := [.int (0 : Int32)]) (rest := [.int bx4]) (n := 1) hx hb hml hown hts hK hlo hG (m_X9_oneIf l dd cT lo G (0 : Int32) e94) (List.mem_of_getElem? (i := 21) rfl) qT_yX9_oneIf qN_X9 qC_yX9_oneIf (by decide +kernel) ⟨Nat.le_of_ble_eq_true rfl, Nat.le_of_ble_eq_true rfl⟩ rfl hl.1 rfl (Nat.le_of_ble_eq_true rfl) dX1_filesLostBy_94 ⟨Nat.le_of_ble_eq_true rfl, Nat.le_of_ble_eq_true rfl⟩ (fun H locs hG => ?_)
          refine lv_iadd hx hb dX1_filesLostBy_97 ?_
          refine lv_istore (lv' := [(4, .int (bx4 + v94)), (0, .ref ba0), (2, .ref ba2), (3, .ref ba3), (5, .int bx5)]) hx hb dX1_filesLostBy_98 hl (by decide) rfl (fun ls hl => ?_)
          refine lv_iinc (v := (bx5 + (1 : Int32))) (lv' := [(5, .int (bx5 + (1 : Int32))), (4, .int (bx4 + v94)), (0, .ref ba0), (2, .ref ba2), (3, .ref ba3)]) hx hb dX1_filesLostBy_100 hl (k := 4) rfl rfl (by decide) rfl (fun ls hl => ?_)
          refine lv_goto (tgt := 60) hx hb dX1_filesLostBy_103 (by decide) ?_
          exact ih G ba0 ba2 ba3 (bx4 + v94) (bx5 + (1 : Int32)) _ _ hG _ (lv_sub hl [2, 3, 4, 1, 0] rfl) h
        · rw [if_neg c77] at h
          refine lv_aload_n hx hb dX1_filesLostBy_80 rfl (lv_at hl 2 rfl) ?_
          refine lv_iload hx hb dX1_filesLostBy_81 (lv_at hl 4 rfl) ?_
          obtain ⟨u83, i83, h⟩ := Option.bind_eq_some_iff.mp h
          obtain ⟨v83, e83, h⟩ := Option.bind_eq_some_iff.mp h
          refine g_cVi (As := [.int bx5]) (rest := [.int bx4]) (n := 1) hx hb hml hown hts hK hlo hG (m_X8_isReadable l dd cT lo G ba3 bx5 e83) qM_X1_159 qI_yX8_isReadable qS_X8_yX8_isReadable qN_X8 qC_yX8_isReadable (by decide +kernel) ⟨Nat.le_of_ble_eq_true rfl, Nat.le_of_ble_eq_true rfl⟩ (by rfl) i83 rfl hl.1 rfl (Nat.le_of_ble_eq_true rfl) dX1_filesLostBy_83 ⟨Nat.le_of_ble_eq_true rfl, Nat.le_of_ble_eq_true rfl⟩ (fun H locs hG => ?_)
          refine lv_if_ne (tgt := 93) hx hb dX1_filesLostBy_86 (by decide) (fun c86 => ?_) (fun c86 => ?_)
          · rw [if_neg c86] at h
            refine lv_iconst (v := (0 : Int32)) hx hb dX1_filesLostBy_93 (by decide) ?_
            obtain ⟨v94, e94, h⟩ := Option.bind_eq_some_iff.mp h
            refine g_cNi (As := [.int (0 : Int32)]) (rest := [.int bx4]) (n := 1) hx hb hml hown hts hK hlo hG (m_X9_oneIf l dd cT lo G (0 : Int32) e94) (List.mem_of_getElem? (i := 21) rfl) qT_yX9_oneIf qN_X9 qC_yX9_oneIf (by decide +kernel) ⟨Nat.le_of_ble_eq_true rfl, Nat.le_of_ble_eq_true rfl⟩ rfl hl.1 rfl (Nat.le_of_ble_eq_true rfl) dX1_filesLostBy_94 ⟨Nat.le_of_ble_eq_true rfl, Nat.le_of_ble_eq_true rfl⟩ (fun H locs hG => ?_)
            refine lv_iadd hx hb dX1_filesLostBy_97 ?_
            refine lv_istore (lv' := [(4, .int (bx4 + v94)), (0, .ref ba0), (2, .ref ba2), (3, .ref ba3), (5, .int bx5)]) hx hb dX1_filesLostBy_98 hl (by decide) rfl (fun ls hl => ?_)
            refine lv_iinc (v := (bx5 + (1 : Int32))) (lv' := [(5, .int (bx5 + (1 : Int32))), (4, .int (bx4 + v94)), (0, .ref ba0), (2, .ref ba2), (3, .ref ba3)]) hx hb dX1_filesLostBy_100 hl (k := 4) rfl rfl (by decide) rfl (fun ls hl => ?_)
            refine lv_goto (tgt := 60) hx hb dX1_filesLostBy_103 (by decide) ?_
            exact ih G ba0 ba2 ba3 (bx4 + v94) (bx5 + (1 : Int32)) _ _ hG _ (lv_sub hl [2, 3, 4, 1, 0] rfl) h
          · rw [if_pos c86] at h
            refine lv_iconst (v := (1 : Int32)) hx hb dX1_filesLostBy_89 (by decide) ?_
            refine lv_goto (tgt := 94) hx hb dX1_filesLostBy_90 (by decide) ?_
            obtain ⟨v94, e94, h⟩ := Option.bind_eq_some_iff.mp h
            refine g_cNi (As := [.int (1 : Int32)]) (rest := [.int bx4]) (n := 1) hx hb hml hown hts hK hlo hG (m_X9_oneIf l dd cT lo G (1 : Int32) e94) (List.mem_of_getElem? (i := 21) rfl) qT_yX9_oneIf qN_X9 qC_yX9_oneIf (by decide +kernel) ⟨Nat.le_of_ble_eq_true rfl, Nat.le_of_ble_eq_true rfl⟩ rfl hl.1 rfl (Nat.le_of_ble_eq_true rfl) dX1_filesLostBy_94 ⟨Nat.le_of_ble_eq_true rfl, Nat.le_of_ble_eq_true rfl⟩ (fun H locs hG => ?_)
            refine lv_iadd hx hb dX1_filesLostBy_97 ?_
            refine lv_istore (lv' := [(4, .int (bx4 + v94)), (0, .ref ba0), (2, .ref ba2), (3, .ref ba3), (5, .int bx5)]) hx hb dX1_filesLostBy_98 hl (by decide) rfl (fun ls hl => ?_)
            refine lv_iinc (v := (bx5 + (1 : Int32))) (lv' := [(5, .int (bx5 + (1 : Int32))), (4, .int (bx4 + v94)), (0, .ref ba0), (2, .ref ba2), (3, .ref ba3)]) hx hb dX1_filesLostBy_100 hl (k := 4) rfl rfl (by decide) rfl (fun ls hl => ?_)
            refine lv_goto (tgt := 60) hx hb dX1_filesLostBy_103 (by decide) ?_
            exact ih G ba0 ba2 ba3 (bx4 + v94) (bx5 + (1 : Int32)) _ _ hG _ (lv_sub hl [2, 3, 4, 1, 0] rfl) h
  unfold f_X1_filesLostBy at h
  refine lv_aload_n hx hb dX1_filesLostBy_0 rfl (lv_at hl 0 rfl) ?_
  obtain ⟨v1, e1, h⟩ := Option.bind_eq_some_iff.mp h
  refine g_getr hx hb hts inlX1 hown hK hG (by rfl) 0 (by decide) qF_X1_12 e1 dX1_filesLostBy_1 ?_
  refine lv_iload_n hx hb dX1_filesLostBy_4 rfl (lv_at hl 1 rfl) ?_
  obtain ⟨u5, i5, h⟩ := Option.bind_eq_some_iff.mp h
  obtain ⟨v5, e5, h⟩ := Option.bind_eq_some_iff.mp h
  refine g_cVi (As := [.int x1]) (rest := []) (n := 1) hx hb hml hown hts hK hlo hG (m_X0_kindOf l dd cT lo G v1 x1 e5) qM_X1_136 qI_yX0_kindOf qS_X0_yX0_kindOf qN_X0 qC_yX0_kindOf (by decide +kernel) ⟨Nat.le_of_ble_eq_true rfl, Nat.le_of_ble_eq_true rfl⟩ (by rfl) i5 rfl hl.1 rfl (Nat.le_of_ble_eq_true rfl) dX1_filesLostBy_5 ⟨Nat.le_of_ble_eq_true rfl, Nat.le_of_ble_eq_true rfl⟩ (fun H locs hG => ?_)
  refine lv_if_eq (tgt := 22) hx hb dX1_filesLostBy_8 (by decide) (fun c8 => ?_) (fun c8 => ?_)
  · rw [if_pos c8] at h
    refine lv_iconst (v := (0 : Int32)) hx hb dX1_filesLostBy_22 (by decide) ?_
    obtain ⟨rfl, rfl⟩ := Prod.mk.inj (Option.some.inj h)
    exact g_iret hx hb hr hlocks hK hlo hG ⟨rfl, rfl⟩ dX1_filesLostBy_23
  · rw [if_neg c8] at h
    refine lv_aload_n hx hb dX1_filesLostBy_11 rfl (lv_at hl 0 rfl) ?_
    obtain ⟨v12, e12, h⟩ := Option.bind_eq_some_iff.mp h
    refine g_getr hx hb hts inlX1 hown hK hG (by rfl) 0 (by decide) qF_X1_12 e12 dX1_filesLostBy_12 ?_
    refine lv_iload_n hx hb dX1_filesLostBy_15 rfl (lv_at hl 1 rfl) ?_
    obtain ⟨u16, i16, h⟩ := Option.bind_eq_some_iff.mp h
    obtain ⟨v16, e16, h⟩ := Option.bind_eq_some_iff.mp h
    refine g_cVi (As := [.int x1]) (rest := []) (n := 1) hx hb hml hown hts hK hlo hG (m_X0_isUnreadable l dd cT lo G v12 x1 e16) qM_X1_143 qI_yX0_isUnreadable qS_X0_yX0_isUnreadable qN_X0 qC_yX0_isUnreadable (by decide +kernel) ⟨Nat.le_of_ble_eq_true rfl, Nat.le_of_ble_eq_true rfl⟩ (by rfl) i16 rfl hl.1 rfl (Nat.le_of_ble_eq_true rfl) dX1_filesLostBy_16 ⟨Nat.le_of_ble_eq_true rfl, Nat.le_of_ble_eq_true rfl⟩ (fun H locs hG => ?_)
    refine lv_if_eq (tgt := 24) hx hb dX1_filesLostBy_19 (by decide) (fun c19 => ?_) (fun c19 => ?_)
    · rw [if_pos c19] at h
      refine lv_aload_n hx hb dX1_filesLostBy_24 rfl (lv_at hl 0 rfl) ?_
      obtain ⟨v25, e25, h⟩ := Option.bind_eq_some_iff.mp h
      refine g_getr hx hb hts inlX1 hown hK hG (by rfl) 0 (by decide) qF_X1_12 e25 dX1_filesLostBy_25 ?_
      obtain ⟨v28, e28, h⟩ := Option.bind_eq_some_iff.mp h
      refine g_getr hx hb hts inlX0 hown hK hG (by rfl) 5 (by decide) qF_X1_147 e28 dX1_filesLostBy_28 ?_
      refine lv_iload_n hx hb dX1_filesLostBy_31 rfl (lv_at hl 1 rfl) ?_
      refine lv_iconst (v := (1 : Int32)) hx hb dX1_filesLostBy_32 (by decide) ?_
      obtain ⟨G33, e33, h⟩ := Option.bind_eq_some_iff.mp h
      refine g_cNv (As := [.ref v28, .int x1, .int (1 : Int32)]) (rest := []) (n := 3) hx hb hml hown hts hK hlo hG (m_X9_mark l dd cT lo G v28 x1 (1 : Int32) e33) (List.mem_of_getElem? (i := 20) rfl) qT_yX9_mark qN_X9 qC_yX9_mark (by decide +kernel) ⟨Nat.le_of_ble_eq_true rfl, Nat.le_of_ble_eq_true rfl⟩ rfl hl.1 rfl (Nat.le_of_ble_eq_true rfl) dX1_filesLostBy_33 ⟨Nat.le_of_ble_eq_true rfl, Nat.le_of_ble_eq_true rfl⟩ (fun H locs hG => ?_)
      refine lv_aload_n hx hb dX1_filesLostBy_36 rfl (lv_at hl 3 rfl) ?_
      refine lv_aload_n hx hb dX1_filesLostBy_37 rfl (lv_at hl 0 rfl) ?_
      obtain ⟨u38, i38, h⟩ := Option.bind_eq_some_iff.mp h
      obtain ⟨q38, e38, h⟩ := Option.bind_eq_some_iff.mp h
      refine g_cVr (As := [.ref a0]) (rest := []) (n := 1) hx hb hml hown hts hK hlo hG (m_X8_lookAt l dd cT lo G33 a3 a0 e38) qM_X1_155 qI_yX8_lookAt qS_X8_yX8_lookAt qN_X8 qC_yX8_lookAt (by decide +kernel) ⟨Nat.le_of_ble_eq_true rfl, Nat.le_of_ble_eq_true rfl⟩ (by rfl) i38 rfl hl.1 rfl (Nat.le_of_ble_eq_true rfl) dX1_filesLostBy_38 ⟨Nat.le_of_ble_eq_true rfl, Nat.le_of_ble_eq_true rfl⟩ (fun H locs hG => ?_)
      refine lv_pop hx hb dX1_filesLostBy_41 rfl ?_
      refine lv_aload_n hx hb dX1_filesLostBy_42 rfl (lv_at hl 0 rfl) ?_
      obtain ⟨v43, e43, h⟩ := Option.bind_eq_some_iff.mp h
      refine g_getr hx hb hts inlX1 hown hK hG (by rfl) 0 (by decide) qF_X1_12 e43 dX1_filesLostBy_43 ?_
      obtain ⟨v46, e46, h⟩ := Option.bind_eq_some_iff.mp h
      refine g_getr hx hb hts inlX0 hown hK hG (by rfl) 5 (by decide) qF_X1_147 e46 dX1_filesLostBy_46 ?_
      refine lv_iload_n hx hb dX1_filesLostBy_49 rfl (lv_at hl 1 rfl) ?_
      refine lv_iconst (v := (0 : Int32)) hx hb dX1_filesLostBy_50 (by decide) ?_
      obtain ⟨G51, e51, h⟩ := Option.bind_eq_some_iff.mp h
      refine g_cNv (As := [.ref v46, .int x1, .int (0 : Int32)]) (rest := []) (n := 3) hx hb hml hown hts hK hlo hG (m_X9_mark l dd cT lo q38.1 v46 x1 (0 : Int32) e51) (List.mem_of_getElem? (i := 20) rfl) qT_yX9_mark qN_X9 qC_yX9_mark (by decide +kernel) ⟨Nat.le_of_ble_eq_true rfl, Nat.le_of_ble_eq_true rfl⟩ rfl hl.1 rfl (Nat.le_of_ble_eq_true rfl) dX1_filesLostBy_51 ⟨Nat.le_of_ble_eq_true rfl, Nat.le_of_ble_eq_true rfl⟩ (fun H locs hG => ?_)
      refine lv_iconst (v := (0 : Int32)) hx hb dX1_filesLostBy_54 (by decide) ?_
      refine lv_istore (lv' := [(4, .int (0 : Int32)), (0, .ref a0), (1, .int x1), (2, .ref a2), (3, .ref a3)]) hx hb dX1_filesLostBy_55 hl (by decide) rfl (fun ls hl => ?_)
      refine lv_iconst (v := (0 : Int32)) hx hb dX1_filesLostBy_57 (by decide) ?_
      refine lv_istore (lv' := [(5, .int (0 : Int32)), (4, .int (0 : Int32)), (0, .ref a0), (1, .int x1), (2, .ref a2), (3, .ref a3)]) hx hb dX1_filesLostBy_58 hl (by decide) rfl (fun ls hl => ?_)
      exact h60 g_N G51 a0 a2 a3 (0 : Int32) (0 : Int32) _ _ hG _ (lv_sub hl [2, 4, 5, 1, 0] rfl) h
    · rw [if_neg c19] at h
      refine lv_iconst (v := (0 : Int32)) hx hb dX1_filesLostBy_22 (by decide) ?_
      obtain ⟨rfl, rfl⟩ := Prod.mk.inj (Option.some.inj h)
      exact g_iret hx hb hr hlocks hK hlo hG ⟨rfl, rfl⟩ dX1_filesLostBy_23
set_option maxRecDepth 20000 in
set_option maxHeartbeats 4000000 in
theorem m_X1_blocksUsed (l : Launch) (dd : va_G) (cT : Nat → ClassId) (lo : Nat → Prop) (G : gH) (a0 : Nat) (x1 : Int32) (x2 : Int32) {rz : Int32} {Gz : gH} (h : f_X1_blocksUsed G a0 x1 x2 = some (Gz, rz)) : Met l yX1_blocksUsed (Cond.code yX1_blocksUsed cX1_blocksUsed 7 (some .int) :: wsL_law) (g_rm 4 95 0 0) (va_Pc [.ref a0, .int x1, .int x2] (g_Pre lo dd cT G)) (va_Qi (g_is rz Gz) (g_Pre lo dd cT) (g_A lo)) 0 0 (g_A lo) := by
  refine g_start RX1 rfl (by decide) (Nat.le_of_ble_eq_true rfl) ?_
  intro p e s m below meth c hx hb hr hlocks hml hown hnm hts hK hG hlo ls hl
  have hl : lv_has ls 7 [(0, .ref a0), (1, .int x1), (2, .int x2)] := hl
  have hG : g_S lo dd cT s s.heap [] G := hG
  have h15 : ∀ n : Nat, ∀ (G : gH) (ba0 : Nat) (bx1 : Int32) (bx2 : Int32) (ba3 : Nat) (bx4 : Int32) (bx5 : Int32), ∀ (H : Heap) (locs : List Loc), g_S lo dd cT s H locs G → ∀ ls : Array Slot, lv_has ls 7 [(0, .ref ba0), (1, .int bx1), (2, .int bx2), (3, .ref ba3), (4, .int bx4), (5, .int bx5)] → f_X1_blocksUsed_L15 n G ba0 bx1 bx2 ba3 bx4 bx5 = some (Gz, rz) → W p l e (g_rm 4 95 0 0) s m ([.ref a0, .int x1, .int x2] : List Value).toArray below meth c H locs 0 0 (MQ below (va_Qi (g_is rz Gz) (g_Pre lo dd cT) (g_A lo)) ([.ref a0, .int x1, .int x2] : List Value).toArray s 0 0 (g_A lo)) (F0 m 15 ls []) := by
    intro n
    induction n with
    | zero =>
      intro G ba0 bx1 bx2 ba3 bx4 bx5 H locs hG ls hl h
      cases (show (none : Option (gH × Int32)) = some (Gz, rz) from h)
    | succ n ih =>
      intro G ba0 bx1 bx2 ba3 bx4 bx5 H locs hG ls hl h
      rw [f_X1_blocksUsed_L15] at h
      have h50 : ∀ (G : gH) (ba0 : Nat) (bx1 : Int32) (bx2 : Int32) (ba3 : Nat) (bx4 : Int32) (bx5 : Int32) (z0 : Int32), ∀ (H : Heap) (locs : List Loc), g_S lo dd cT s H locs G → ∀ ls : Array Slot, lv_has ls 7 [(0, .ref ba0), (1, .int bx1), (2, .int bx2), (3, .ref ba3), (4, .int bx4), (5, .int bx5)] → f_X1_blocksUsed_J50 (f_X1_blocksUsed_L15 n) G ba0 bx1 bx2 ba3 bx4 bx5 z0 = some (Gz, rz) → W p l e (g_rm 4 95 0 0) s m ([.ref a0, .int x1, .int x2] : List Value).toArray below meth c H locs 0 0 (MQ below (va_Qi (g_is rz Gz) (g_Pre lo dd cT) (g_A lo)) ([.ref a0, .int x1, .int x2] : List Value).toArray s 0 0 (g_A lo)) (F0 m 50 ls [.int z0]) := by
        intro G ba0 bx1 bx2 ba3 bx4 bx5 z0 H locs hG ls hl h
        unfold f_X1_blocksUsed_J50 at h
        refine lv_istore (lv' := [(6, .int z0), (0, .ref ba0), (1, .int bx1), (2, .int bx2), (3, .ref ba3), (4, .int bx4), (5, .int bx5)]) hx hb dX1_blocksUsed_50 hl (by decide) rfl (fun ls hl => ?_)
        refine lv_iload hx hb dX1_blocksUsed_52 (lv_at hl 5 rfl) ?_
        refine lv_iload hx hb dX1_blocksUsed_54 (lv_at hl 0 rfl) ?_
        refine lv_if_eq (tgt := 74) hx hb dX1_blocksUsed_56 (by decide) (fun c56 => ?_) (fun c56 => ?_)
        · rw [if_pos c56] at h
          refine lv_iconst (v := (0 : Int32)) hx hb dX1_blocksUsed_74 (by decide) ?_
          obtain ⟨v75, e75, h⟩ := Option.bind_eq_some_iff.mp h
          refine g_cNi (As := [.int (0 : Int32)]) (rest := [.int bx4]) (n := 1) hx hb hml hown hts hK hlo hG (m_X9_oneIf l dd cT lo G (0 : Int32) e75) (List.mem_of_getElem? (i := 21) rfl) qT_yX9_oneIf qN_X9 qC_yX9_oneIf (by decide +kernel) ⟨Nat.le_of_ble_eq_true rfl, Nat.le_of_ble_eq_true rfl⟩ rfl hl.1 rfl (Nat.le_of_ble_eq_true rfl) dX1_blocksUsed_75 ⟨Nat.le_of_ble_eq_true rfl, Nat.le_of_ble_eq_true rfl⟩ (fun H locs hG => ?_)
          refine lv_iadd hx hb dX1_blocksUsed_78 ?_
          refine lv_istore (lv' := [(4, .int (bx4 + v75)), (6, .int z0), (0, .ref ba0), (1, .int bx1), (2, .int bx2), (3, .ref ba3), (5, .int bx5)]) hx hb dX1_blocksUsed_79 hl (by decide) rfl (fun ls hl => ?_)
          refine lv_iinc (v := (bx5 + (1 : Int32))) (lv' := [(5, .int (bx5 + (1 : Int32))), (4, .int (bx4 + v75)), (6, .int z0), (0, .ref ba0), (1, .int bx1), (2, .int bx2), (3, .ref ba3)]) hx hb dX1_blocksUsed_81 hl (k := 6) rfl rfl (by decide) rfl (fun ls hl => ?_)
          refine lv_goto (tgt := 15) hx hb dX1_blocksUsed_84 (by decide) ?_
          exact ih G ba0 bx1 bx2 ba3 (bx4 + v75) (bx5 + (1 : Int32)) _ _ hG _ (lv_sub hl [3, 4, 5, 6, 1, 0] rfl) h
        · rw [if_neg c56] at h
          refine lv_aload_n hx hb dX1_blocksUsed_59 rfl (lv_at hl 1 rfl) ?_
          refine lv_iload hx hb dX1_blocksUsed_60 (lv_at hl 6 rfl) ?_
          refine lv_aload_n hx hb dX1_blocksUsed_62 rfl (lv_at hl 4 rfl) ?_
          obtain ⟨u63, i63, h⟩ := Option.bind_eq_some_iff.mp h
          obtain ⟨v63, e63, h⟩ := Option.bind_eq_some_iff.mp h
          refine g_cVi (As := [.int bx5, .ref ba3]) (rest := [.int bx4]) (n := 2) hx hb hml hown hts hK hlo hG (m_X1_useOf l dd cT lo G ba0 bx5 ba3 e63) qM_X1_167 qI_yX1_useOf qS_X1_yX1_useOf qN_X1 qC_yX1_useOf (by decide +kernel) ⟨Nat.le_of_ble_eq_true rfl, Nat.le_of_ble_eq_true rfl⟩ (by rfl) i63 rfl hl.1 rfl (Nat.le_of_ble_eq_true rfl) dX1_blocksUsed_63 ⟨Nat.le_of_ble_eq_true rfl, Nat.le_of_ble_eq_true rfl⟩ (fun H locs hG => ?_)
          refine lv_iload_n hx hb dX1_blocksUsed_66 rfl (lv_at hl 3 rfl) ?_
          refine lv_icmp_ne (tgt := 74) hx hb dX1_blocksUsed_67 (by decide) (fun c67 => ?_) (fun c67 => ?_)
          · rw [if_neg c67] at h
            refine lv_iconst (v := (0 : Int32)) hx hb dX1_blocksUsed_74 (by decide) ?_
            obtain ⟨v75, e75, h⟩ := Option.bind_eq_some_iff.mp h
            refine g_cNi (As := [.int (0 : Int32)]) (rest := [.int bx4]) (n := 1) hx hb hml hown hts hK hlo hG (m_X9_oneIf l dd cT lo G (0 : Int32) e75) (List.mem_of_getElem? (i := 21) rfl) qT_yX9_oneIf qN_X9 qC_yX9_oneIf (by decide +kernel) ⟨Nat.le_of_ble_eq_true rfl, Nat.le_of_ble_eq_true rfl⟩ rfl hl.1 rfl (Nat.le_of_ble_eq_true rfl) dX1_blocksUsed_75 ⟨Nat.le_of_ble_eq_true rfl, Nat.le_of_ble_eq_true rfl⟩ (fun H locs hG => ?_)
            refine lv_iadd hx hb dX1_blocksUsed_78 ?_
            refine lv_istore (lv' := [(4, .int (bx4 + v75)), (6, .int z0), (0, .ref ba0), (1, .int bx1), (2, .int bx2), (3, .ref ba3), (5, .int bx5)]) hx hb dX1_blocksUsed_79 hl (by decide) rfl (fun ls hl => ?_)
            refine lv_iinc (v := (bx5 + (1 : Int32))) (lv' := [(5, .int (bx5 + (1 : Int32))), (4, .int (bx4 + v75)), (6, .int z0), (0, .ref ba0), (1, .int bx1), (2, .int bx2), (3, .ref ba3)]) hx hb dX1_blocksUsed_81 hl (k := 6) rfl rfl (by decide) rfl (fun ls hl => ?_)
            refine lv_goto (tgt := 15) hx hb dX1_blocksUsed_84 (by decide) ?_
            exact ih G ba0 bx1 bx2 ba3 (bx4 + v75) (bx5 + (1 : Int32)) _ _ hG _ (lv_sub hl [3, 4, 5, 6, 1, 0] rfl) h
          · rw [if_pos c67] at h
            refine lv_iconst (v := (1 : Int32)) hx hb dX1_blocksUsed_70 (by decide) ?_
            refine lv_goto (tgt := 75) hx hb dX1_blocksUsed_71 (by decide) ?_
            obtain ⟨v75, e75, h⟩ := Option.bind_eq_some_iff.mp h
            refine g_cNi (As := [.int (1 : Int32)]) (rest := [.int bx4]) (n := 1) hx hb hml hown hts hK hlo hG (m_X9_oneIf l dd cT lo G (1 : Int32) e75) (List.mem_of_getElem? (i := 21) rfl) qT_yX9_oneIf qN_X9 qC_yX9_oneIf (by decide +kernel) ⟨Nat.le_of_ble_eq_true rfl, Nat.le_of_ble_eq_true rfl⟩ rfl hl.1 rfl (Nat.le_of_ble_eq_true rfl) dX1_blocksUsed_75 ⟨Nat.le_of_ble_eq_true rfl, Nat.le_of_ble_eq_true rfl⟩ (fun H locs hG => ?_)
            refine lv_iadd hx hb dX1_blocksUsed_78 ?_
            refine lv_istore (lv' := [(4, .int (bx4 + v75)), (6, .int z0), (0, .ref ba0), (1, .int bx1), (2, .int bx2), (3, .ref ba3), (5, .int bx5)]) hx hb dX1_blocksUsed_79 hl (by decide) rfl (fun ls hl => ?_)
            refine lv_iinc (v := (bx5 + (1 : Int32))) (lv' := [(5, .int (bx5 + (1 : Int32))), (4, .int (bx4 + v75)), (6, .int z0), (0, .ref ba0), (1, .int bx1), (2, .int bx2), (3, .ref ba3)]) hx hb dX1_blocksUsed_81 hl (k := 6) rfl rfl (by decide) rfl (fun ls hl => ?_)
            refine lv_goto (tgt := 15) hx hb dX1_blocksUsed_84 (by decide) ?_
            exact ih G ba0 bx1 bx2 ba3 (bx4 + v75) (bx5 + (1 : Int32)) _ _ hG _ (lv_sub hl [3, 4, 5, 6, 1, 0] rfl) h
      refine lv_iload hx hb dX1_blocksUsed_15 (lv_at hl 5 rfl) ?_
      refine lv_aload_n hx hb dX1_blocksUsed_17 rfl (lv_at hl 0 rfl) ?_
      obtain ⟨v18, e18, h⟩ := Option.bind_eq_some_iff.mp h
      refine g_getr hx hb hts inlX1 hown hK hG (by rfl) 0 (by decide) qF_X1_12 e18 dX1_blocksUsed_18 ?_
      obtain ⟨v21, e21, h⟩ := Option.bind_eq_some_iff.mp h
      refine g_geti hx hb hts inlX0 hown hK hG (by rfl) 0 (by decide) qF_X1_166 e21 dX1_blocksUsed_21 ?_
      refine lv_icmp_ge (tgt := 87) hx hb dX1_blocksUsed_24 (by decide) (fun c24 => ?_) (fun c24 => ?_)
      · rw [if_pos c24] at h
        refine lv_iload hx hb dX1_blocksUsed_87 (lv_at hl 4 rfl) ?_
        obtain ⟨rfl, rfl⟩ := Prod.mk.inj (Option.some.inj h)
        exact g_iret hx hb hr hlocks hK hlo hG ⟨rfl, rfl⟩ dX1_blocksUsed_89
      · rw [if_neg c24] at h
        refine lv_iload_n hx hb dX1_blocksUsed_27 rfl (lv_at hl 1 rfl) ?_
        refine lv_iconst (v := (-1 : Int32)) hx hb dX1_blocksUsed_28 (by decide) ?_
        refine lv_icmp_eq (tgt := 45) hx hb dX1_blocksUsed_29 (by decide) (fun c29 => ?_) (fun c29 => ?_)
        · rw [if_pos c29] at h
          refine lv_iconst (v := (1 : Int32)) hx hb dX1_blocksUsed_45 (by decide) ?_
          refine lv_goto (tgt := 50) hx hb dX1_blocksUsed_46 (by decide) ?_
          exact h50 G ba0 bx1 bx2 ba3 bx4 bx5 (1 : Int32) _ _ hG _ (lv_sub hl [0, 1, 2, 3, 4, 5] rfl) h
        · rw [if_neg c29] at h
          refine lv_aload_n hx hb dX1_blocksUsed_32 rfl (lv_at hl 0 rfl) ?_
          obtain ⟨v33, e33, h⟩ := Option.bind_eq_some_iff.mp h
          refine g_getr hx hb hts inlX1 hown hK hG (by rfl) 0 (by decide) qF_X1_12 e33 dX1_blocksUsed_33 ?_
          refine lv_iload hx hb dX1_blocksUsed_36 (lv_at hl 5 rfl) ?_
          obtain ⟨u38, i38, h⟩ := Option.bind_eq_some_iff.mp h
          obtain ⟨v38, e38, h⟩ := Option.bind_eq_some_iff.mp h
          refine g_cVi (As := [.int bx5]) (rest := []) (n := 1) hx hb hml hown hts hK hlo hG (m_X0_writerOf l dd cT lo G v33 bx5 e38) qM_X1_137 qI_yX0_writerOf qS_X0_yX0_writerOf qN_X0 qC_yX0_writerOf (by decide +kernel) ⟨Nat.le_of_ble_eq_true rfl, Nat.le_of_ble_eq_true rfl⟩ (by rfl) i38 rfl hl.1 rfl (Nat.le_of_ble_eq_true rfl) dX1_blocksUsed_38 ⟨Nat.le_of_ble_eq_true rfl, Nat.le_of_ble_eq_true rfl⟩ (fun H locs hG => ?_)
          refine lv_iload_n hx hb dX1_blocksUsed_41 rfl (lv_at hl 1 rfl) ?_
          refine lv_icmp_ne (tgt := 49) hx hb dX1_blocksUsed_42 (by decide) (fun c42 => ?_) (fun c42 => ?_)
          · rw [if_neg c42] at h
            refine lv_iconst (v := (0 : Int32)) hx hb dX1_blocksUsed_49 (by decide) ?_
            exact h50 G ba0 bx1 bx2 ba3 bx4 bx5 (0 : Int32) _ _ hG _ (lv_sub hl [0, 1, 2, 3, 4, 5] rfl) h
          · rw [if_pos c42] at h
            refine lv_iconst (v := (1 : Int32)) hx hb dX1_blocksUsed_45 (by decide) ?_
            refine lv_goto (tgt := 50) hx hb dX1_blocksUsed_46 (by decide) ?_
            exact h50 G ba0 bx1 bx2 ba3 bx4 bx5 (1 : Int32) _ _ hG _ (lv_sub hl [0, 1, 2, 3, 4, 5] rfl) h
  unfold f_X1_blocksUsed at h
  refine lv_aload_n hx hb dX1_blocksUsed_0 rfl (lv_at hl 0 rfl) ?_
  obtain ⟨v1, e1, h⟩ := Option.bind_eq_some_iff.mp h
  refine g_getr hx hb hts inlX1 hown hK hG (by rfl) 6 (by decide) qF_X1_47 e1 dX1_blocksUsed_1 ?_
  refine lv_aload_n hx hb dX1_blocksUsed_4 rfl (lv_at hl 0 rfl) ?_
  obtain ⟨u5, i5, h⟩ := Option.bind_eq_some_iff.mp h
  obtain ⟨q5, e5, h⟩ := Option.bind_eq_some_iff.mp h
  refine g_cVr (As := [.ref a0]) (rest := []) (n := 1) hx hb hml hown hts hK hlo hG (m_X8_lookAt l dd cT lo G v1 a0 e5) qM_X1_155 qI_yX8_lookAt qS_X8_yX8_lookAt qN_X8 qC_yX8_lookAt (by decide +kernel) ⟨Nat.le_of_ble_eq_true rfl, Nat.le_of_ble_eq_true rfl⟩ (by rfl) i5 rfl hl.1 rfl (Nat.le_of_ble_eq_true rfl) dX1_blocksUsed_5 ⟨Nat.le_of_ble_eq_true rfl, Nat.le_of_ble_eq_true rfl⟩ (fun H locs hG => ?_)
  refine lv_astore_n (lv' := [(3, .ref q5.2), (0, .ref a0), (1, .int x1), (2, .int x2)]) hx hb dX1_blocksUsed_8 rfl hl (by decide) rfl (fun ls hl => ?_)
  refine lv_iconst (v := (0 : Int32)) hx hb dX1_blocksUsed_9 (by decide) ?_
  refine lv_istore (lv' := [(4, .int (0 : Int32)), (3, .ref q5.2), (0, .ref a0), (1, .int x1), (2, .int x2)]) hx hb dX1_blocksUsed_10 hl (by decide) rfl (fun ls hl => ?_)
  refine lv_iconst (v := (0 : Int32)) hx hb dX1_blocksUsed_12 (by decide) ?_
  refine lv_istore (lv' := [(5, .int (0 : Int32)), (4, .int (0 : Int32)), (3, .ref q5.2), (0, .ref a0), (1, .int x1), (2, .int x2)]) hx hb dX1_blocksUsed_13 hl (by decide) rfl (fun ls hl => ?_)
  exact h15 g_N q5.1 a0 x1 x2 q5.2 (0 : Int32) (0 : Int32) _ _ hG _ (lv_sub hl [3, 4, 5, 2, 1, 0] rfl) h
set_option maxRecDepth 20000 in
set_option maxHeartbeats 4000000 in
theorem m_X1_reasonAgainstErase (l : Launch) (dd : va_G) (cT : Nat → ClassId) (lo : Nat → Prop) (G : gH) (a0 : Nat) (x1 : Int32) {rz : Int32} {Gz : gH} (h : f_X1_reasonAgainstErase G a0 x1 = some (Gz, rz)) : Met l yX1_reasonAgainstErase (Cond.code yX1_reasonAgainstErase cX1_reasonAgainstErase 2 (some .int) :: wsL_law) (g_rm 4 95 0 0) (va_Pc [.ref a0, .int x1] (g_Pre lo dd cT G)) (va_Qi (g_is rz Gz) (g_Pre lo dd cT) (g_A lo)) 0 0 (g_A lo) := by
  refine g_start RX1 rfl (by decide) (Nat.le_of_ble_eq_true rfl) ?_
  intro p e s m below meth c hx hb hr hlocks hml hown hnm hts hK hG hlo ls hl
  have hl : lv_has ls 2 [(0, .ref a0), (1, .int x1)] := hl
  have hG : g_S lo dd cT s s.heap [] G := hG
  unfold f_X1_reasonAgainstErase at h
  refine lv_aload_n hx hb dX1_reasonAgainstErase_0 rfl (lv_at hl 0 rfl) ?_
  obtain ⟨v1, e1, h⟩ := Option.bind_eq_some_iff.mp h
  refine g_getr hx hb hts inlX1 hown hK hG (by rfl) 6 (by decide) qF_X1_47 e1 dX1_reasonAgainstErase_1 ?_
  refine lv_aload_n hx hb dX1_reasonAgainstErase_4 rfl (lv_at hl 0 rfl) ?_
  obtain ⟨u5, i5, h⟩ := Option.bind_eq_some_iff.mp h
  obtain ⟨q5, e5, h⟩ := Option.bind_eq_some_iff.mp h
  refine g_cVr (As := [.ref a0]) (rest := []) (n := 1) hx hb hml hown hts hK hlo hG (m_X8_lookAt l dd cT lo G v1 a0 e5) qM_X1_155 qI_yX8_lookAt qS_X8_yX8_lookAt qN_X8 qC_yX8_lookAt (by decide +kernel) ⟨Nat.le_of_ble_eq_true rfl, Nat.le_of_ble_eq_true rfl⟩ (by rfl) i5 rfl hl.1 rfl (Nat.le_of_ble_eq_true rfl) dX1_reasonAgainstErase_5 ⟨Nat.le_of_ble_eq_true rfl, Nat.le_of_ble_eq_true rfl⟩ (fun H locs hG => ?_)
  refine lv_iload_n hx hb dX1_reasonAgainstErase_8 rfl (lv_at hl 1 rfl) ?_
  obtain ⟨u9, i9, h⟩ := Option.bind_eq_some_iff.mp h
  obtain ⟨v9, e9, h⟩ := Option.bind_eq_some_iff.mp h
  refine g_cVi (As := [.int x1]) (rest := []) (n := 1) hx hb hml hown hts hK hlo hG (m_X8_versionOf l dd cT lo q5.1 q5.2 x1 e9) qM_X1_177 qI_yX8_versionOf qS_X8_yX8_versionOf qN_X8 qC_yX8_versionOf (by decide +kernel) ⟨Nat.le_of_ble_eq_true rfl, Nat.le_of_ble_eq_true rfl⟩ (by rfl) i9 rfl hl.1 rfl (Nat.le_of_ble_eq_true rfl) dX1_reasonAgainstErase_9 ⟨Nat.le_of_ble_eq_true rfl, Nat.le_of_ble_eq_true rfl⟩ (fun H locs hG => ?_)
  refine lv_iconst (v := (-1 : Int32)) hx hb dX1_reasonAgainstErase_12 (by decide) ?_
  refine lv_icmp_ne (tgt := 18) hx hb dX1_reasonAgainstErase_13 (by decide) (fun c13 => ?_) (fun c13 => ?_)
  · rw [if_neg c13] at h
    refine lv_aload_n hx hb dX1_reasonAgainstErase_18 rfl (lv_at hl 0 rfl) ?_
    obtain ⟨v19, e19, h⟩ := Option.bind_eq_some_iff.mp h
    refine g_getr hx hb hts inlX1 hown hK hG (by rfl) 2 (by decide) qF_X1_28 e19 dX1_reasonAgainstErase_19 ?_
    obtain ⟨u22, i22, h⟩ := Option.bind_eq_some_iff.mp h
    obtain ⟨v22, e22, h⟩ := Option.bind_eq_some_iff.mp h
    refine g_cVi (As := []) (rest := []) (n := 0) hx hb hml hown hts hK hlo hG (m_X5_oneMoreIsTooMany l dd cT lo q5.1 v19 e22) qM_X1_180 qI_yX5_oneMoreIsTooMany qS_X5_yX5_oneMoreIsTooMany qN_X5 qC_yX5_oneMoreIsTooMany (by decide +kernel) ⟨Nat.le_of_ble_eq_true rfl, Nat.le_of_ble_eq_true rfl⟩ (by rfl) i22 rfl hl.1 rfl (Nat.le_of_ble_eq_true rfl) dX1_reasonAgainstErase_22 ⟨Nat.le_of_ble_eq_true rfl, Nat.le_of_ble_eq_true rfl⟩ (fun H locs hG => ?_)
    refine lv_if_eq (tgt := 30) hx hb dX1_reasonAgainstErase_25 (by decide) (fun c25 => ?_) (fun c25 => ?_)
    · rw [if_pos c25] at h
      refine lv_aload_n hx hb dX1_reasonAgainstErase_30 rfl (lv_at hl 0 rfl) ?_
      obtain ⟨v31, e31, h⟩ := Option.bind_eq_some_iff.mp h
      refine g_getr hx hb hts inlX1 hown hK hG (by rfl) 0 (by decide) qF_X1_12 e31 dX1_reasonAgainstErase_31 ?_
      refine lv_aload_n hx hb dX1_reasonAgainstErase_34 rfl (lv_at hl 0 rfl) ?_
      obtain ⟨v35, e35, h⟩ := Option.bind_eq_some_iff.mp h
      refine g_getr hx hb hts inlX1 hown hK hG (by rfl) 2 (by decide) qF_X1_28 e35 dX1_reasonAgainstErase_35 ?_
      refine lv_iload_n hx hb dX1_reasonAgainstErase_38 rfl (lv_at hl 1 rfl) ?_
      obtain ⟨u39, i39, h⟩ := Option.bind_eq_some_iff.mp h
      obtain ⟨v39, e39, h⟩ := Option.bind_eq_some_iff.mp h
      refine g_cVi (As := [.int x1]) (rest := [.ref v31]) (n := 1) hx hb hml hown hts hK hlo hG (m_X5_entriesWith l dd cT lo q5.1 v35 x1 e39) qM_X1_184 qI_yX5_entriesWith qS_X5_yX5_entriesWith qN_X5 qC_yX5_entriesWith (by decide +kernel) ⟨Nat.le_of_ble_eq_true rfl, Nat.le_of_ble_eq_true rfl⟩ (by rfl) i39 rfl hl.1 rfl (Nat.le_of_ble_eq_true rfl) dX1_reasonAgainstErase_39 ⟨Nat.le_of_ble_eq_true rfl, Nat.le_of_ble_eq_true rfl⟩ (fun H locs hG => ?_)
      obtain ⟨v42, e42, h⟩ := Option.bind_eq_some_iff.mp h
      refine g_cNi (As := [.int v39]) (rest := [.ref v31]) (n := 1) hx hb hml hown hts hK hlo hG (m_X9_directoryLength l dd cT lo q5.1 v39 e42) (List.mem_of_getElem? (i := 22) rfl) qT_yX9_directoryLength qN_X9 qC_yX9_directoryLength (by decide +kernel) ⟨Nat.le_of_ble_eq_true rfl, Nat.le_of_ble_eq_true rfl⟩ rfl hl.1 rfl (Nat.le_of_ble_eq_true rfl) dX1_reasonAgainstErase_42 ⟨Nat.le_of_ble_eq_true rfl, Nat.le_of_ble_eq_true rfl⟩ (fun H locs hG => ?_)
      obtain ⟨u45, i45, h⟩ := Option.bind_eq_some_iff.mp h
      obtain ⟨v45, e45, h⟩ := Option.bind_eq_some_iff.mp h
      refine g_cVi (As := [.int v42]) (rest := []) (n := 1) hx hb hml hown hts hK hlo hG (m_X0_hasRoomFor l dd cT lo q5.1 v31 v42 e45) qM_X1_190 qI_yX0_hasRoomFor qS_X0_yX0_hasRoomFor qN_X0 qC_yX0_hasRoomFor (by decide +kernel) ⟨Nat.le_of_ble_eq_true rfl, Nat.le_of_ble_eq_true rfl⟩ (by rfl) i45 rfl hl.1 rfl (Nat.le_of_ble_eq_true rfl) dX1_reasonAgainstErase_45 ⟨Nat.le_of_ble_eq_true rfl, Nat.le_of_ble_eq_true rfl⟩ (fun H locs hG => ?_)
      refine lv_if_eq (tgt := 55) hx hb dX1_reasonAgainstErase_48 (by decide) (fun c48 => ?_) (fun c48 => ?_)
      · rw [if_pos c48] at h
        refine lv_iconst (v := (4 : Int32)) hx hb dX1_reasonAgainstErase_55 (by decide) ?_
        obtain ⟨rfl, rfl⟩ := Prod.mk.inj (Option.some.inj h)
        exact g_iret hx hb hr hlocks hK hlo hG ⟨rfl, rfl⟩ dX1_reasonAgainstErase_56
      · rw [if_neg c48] at h
        refine lv_iconst (v := (0 : Int32)) hx hb dX1_reasonAgainstErase_51 (by decide) ?_
        refine lv_goto (tgt := 56) hx hb dX1_reasonAgainstErase_52 (by decide) ?_
        obtain ⟨rfl, rfl⟩ := Prod.mk.inj (Option.some.inj h)
        exact g_iret hx hb hr hlocks hK hlo hG ⟨rfl, rfl⟩ dX1_reasonAgainstErase_56
    · rw [if_neg c25] at h
      refine lv_iconst (v := (3 : Int32)) hx hb dX1_reasonAgainstErase_28 (by decide) ?_
      obtain ⟨rfl, rfl⟩ := Prod.mk.inj (Option.some.inj h)
      exact g_iret hx hb hr hlocks hK hlo hG ⟨rfl, rfl⟩ dX1_reasonAgainstErase_29
  · rw [if_pos c13] at h
    refine lv_iconst (v := (2 : Int32)) hx hb dX1_reasonAgainstErase_16 (by decide) ?_
    obtain ⟨rfl, rfl⟩ := Prod.mk.inj (Option.some.inj h)
    exact g_iret hx hb hr hlocks hK hlo hG ⟨rfl, rfl⟩ dX1_reasonAgainstErase_17
set_option maxRecDepth 20000 in
set_option maxHeartbeats 4000000 in
theorem m_X1_reasonAgainstRecover (l : Launch) (dd : va_G) (cT : Nat → ClassId) (lo : Nat → Prop) (G : gH) (a0 : Nat) {rz : Int32} (h : f_X1_reasonAgainstRecover G a0 = some rz) : Met l yX1_reasonAgainstRecover (Cond.code yX1_reasonAgainstRecover cX1_reasonAgainstRecover 2 (some .int) :: wsL_law) (g_rm 5 112 0 0) (va_Pc [.ref a0] (g_Pre lo dd cT G)) (va_Qi (g_is rz G) (g_Pre lo dd cT) (g_A lo)) 0 0 (g_A lo) := by
  refine g_start RX1 rfl (by decide) (Nat.le_of_ble_eq_true rfl) ?_
  intro p e s m below meth c hx hb hr hlocks hml hown hnm hts hK hG hlo ls hl
  have hl : lv_has ls 2 [(0, .ref a0)] := hl
  have hG : g_S lo dd cT s s.heap [] G := hG
  unfold f_X1_reasonAgainstRecover at h
  refine lv_aload_n hx hb dX1_reasonAgainstRecover_0 rfl (lv_at hl 0 rfl) ?_
  obtain ⟨u1, i1, h⟩ := Option.bind_eq_some_iff.mp h
  obtain ⟨v1, e1, h⟩ := Option.bind_eq_some_iff.mp h
  refine g_cVi (As := []) (rest := []) (n := 0) hx hb hml hown hts hK hlo hG (m_X1_recoverableVersions l dd cT lo G a0 e1) qM_X1_208 qI_yX1_recoverableVersions qS_X1_yX1_recoverableVersions qN_X1 qC_yX1_recoverableVersions (by decide +kernel) ⟨Nat.le_of_ble_eq_true rfl, Nat.le_of_ble_eq_true rfl⟩ (by rfl) i1 rfl hl.1 rfl (Nat.le_of_ble_eq_true rfl) dX1_reasonAgainstRecover_1 ⟨Nat.le_of_ble_eq_true rfl, Nat.le_of_ble_eq_true rfl⟩ (fun H locs hG => ?_)
  refine lv_istore_n (lv' := [(1, .int v1), (0, .ref a0)]) hx hb dX1_reasonAgainstRecover_4 rfl hl (by decide) rfl (fun ls hl => ?_)
  refine lv_iload_n hx hb dX1_reasonAgainstRecover_5 rfl (lv_at hl 0 rfl) ?_
  refine lv_if_ne (tgt := 11) hx hb dX1_reasonAgainstRecover_6 (by decide) (fun c6 => ?_) (fun c6 => ?_)
  · rw [if_neg c6] at h
    refine lv_aload_n hx hb dX1_reasonAgainstRecover_11 rfl (lv_at hl 1 rfl) ?_
    obtain ⟨v12, e12, h⟩ := Option.bind_eq_some_iff.mp h
    refine g_getr hx hb hts inlX1 hown hK hG (by rfl) 2 (by decide) qF_X1_28 e12 dX1_reasonAgainstRecover_12 ?_
    obtain ⟨u15, i15, h⟩ := Option.bind_eq_some_iff.mp h
    obtain ⟨v15, e15, h⟩ := Option.bind_eq_some_iff.mp h
    refine g_cVi (As := []) (rest := []) (n := 0) hx hb hml hown hts hK hlo hG (m_X5_oneMoreIsTooMany l dd cT lo G v12 e15) qM_X1_180 qI_yX5_oneMoreIsTooMany qS_X5_yX5_oneMoreIsTooMany qN_X5 qC_yX5_oneMoreIsTooMany (by decide +kernel) ⟨Nat.le_of_ble_eq_true rfl, Nat.le_of_ble_eq_true rfl⟩ (by rfl) i15 rfl hl.1 rfl (Nat.le_of_ble_eq_true rfl) dX1_reasonAgainstRecover_15 ⟨Nat.le_of_ble_eq_true rfl, Nat.le_of_ble_eq_true rfl⟩ (fun H locs hG => ?_)
    refine lv_if_eq (tgt := 25) hx hb dX1_reasonAgainstRecover_18 (by decide) (fun c18 => ?_) (fun c18 => ?_)
    · rw [if_pos c18] at h
      refine lv_aload_n hx hb dX1_reasonAgainstRecover_25 rfl (lv_at hl 1 rfl) ?_
      refine lv_iload_n hx hb dX1_reasonAgainstRecover_26 rfl (lv_at hl 0 rfl) ?_
      obtain ⟨u27, i27, h⟩ := Option.bind_eq_some_iff.mp h
      obtain ⟨v27, e27, h⟩ := Option.bind_eq_some_iff.mp h
      refine g_cVi (As := [.int v1]) (rest := []) (n := 1) hx hb hml hown hts hK hlo hG (m_X1_reasonAgainstDirectory l dd cT lo G a0 v1 e27) qM_X1_205 qI_yX1_reasonAgainstDirectory qS_X1_yX1_reasonAgainstDirectory qN_X1 qC_yX1_reasonAgainstDirectory (by decide +kernel) ⟨Nat.le_of_ble_eq_true rfl, Nat.le_of_ble_eq_true rfl⟩ (by rfl) i27 rfl hl.1 rfl (Nat.le_of_ble_eq_true rfl) dX1_reasonAgainstRecover_27 ⟨Nat.le_of_ble_eq_true rfl, Nat.le_of_ble_eq_true rfl⟩ (fun H locs hG => ?_)
      obtain rfl := Option.some.inj h
      exact g_iret hx hb hr hlocks hK hlo hG ⟨rfl, rfl⟩ dX1_reasonAgainstRecover_30
    · rw [if_neg c18] at h
      refine lv_iconst (v := (3 : Int32)) hx hb dX1_reasonAgainstRecover_21 (by decide) ?_
      refine lv_goto (tgt := 30) hx hb dX1_reasonAgainstRecover_22 (by decide) ?_
      obtain rfl := Option.some.inj h
      exact g_iret hx hb hr hlocks hK hlo hG ⟨rfl, rfl⟩ dX1_reasonAgainstRecover_30
  · rw [if_pos c6] at h
    refine lv_iconst (v := (2 : Int32)) hx hb dX1_reasonAgainstRecover_9 (by decide) ?_
    obtain rfl := Option.some.inj h
    exact g_iret hx hb hr hlocks hK hlo hG ⟨rfl, rfl⟩ dX1_reasonAgainstRecover_10
set_option maxRecDepth 20000 in
set_option maxHeartbeats 4000000 in
theorem m_X1_writeVersion (l : Launch) (dd : va_G) (cT : Nat → ClassId) (lo : Nat → Prop) (G : gH) (a0 : Nat) (x1 : Int32) (x2 : Int32) (x3 : Int32) {rz : Int32} {Gz : gH} (h : f_X1_writeVersion G a0 x1 x2 x3 = some (Gz, rz)) : Met l yX1_writeVersion (Cond.code yX1_writeVersion cX1_writeVersion 7 (some .int) :: wsL_law) (g_rm 4 91 0 0) (va_Pc [.ref a0, .int x1, .int x2, .int x3] (g_Pre lo dd cT G)) (va_Qi (g_is rz Gz) (g_Pre lo dd cT) (g_A lo)) 0 0 (g_A lo) := by
  refine g_start RX1 rfl (by decide) (Nat.le_of_ble_eq_true rfl) ?_
  intro p e s m below meth c hx hb hr hlocks hml hown hnm hts hK hG hlo ls hl
  have hl : lv_has ls 7 [(0, .ref a0), (1, .int x1), (2, .int x2), (3, .int x3)] := hl
  have hG : g_S lo dd cT s s.heap [] G := hG
  have h37 : ∀ n : Nat, ∀ (G : gH) (ba0 : Nat) (bx1 : Int32) (bx2 : Int32) (bx4 : Int32) (bx5 : Int32) (bx6 : Int32), ∀ (H : Heap) (locs : List Loc), g_S lo dd cT s H locs G → ∀ ls : Array Slot, lv_has ls 7 [(0, .ref ba0), (1, .int bx1), (2, .int bx2), (4, .int bx4), (5, .int bx5), (6, .int bx6)] → f_X1_writeVersion_L37 n G ba0 bx1 bx2 bx4 bx5 bx6 = some (Gz, rz) → W p l e (g_rm 4 91 0 0) s m ([.ref a0, .int x1, .int x2, .int x3] : List Value).toArray below meth c H locs 0 0 (MQ below (va_Qi (g_is rz Gz) (g_Pre lo dd cT) (g_A lo)) ([.ref a0, .int x1, .int x2, .int x3] : List Value).toArray s 0 0 (g_A lo)) (F0 m 37 ls []) := by
    intro n
    induction n with
    | zero =>
      intro G ba0 bx1 bx2 bx4 bx5 bx6 H locs hG ls hl h
      cases (show (none : Option (gH × Int32)) = some (Gz, rz) from h)
    | succ n ih =>
      intro G ba0 bx1 bx2 bx4 bx5 bx6 H locs hG ls hl h
      rw [f_X1_writeVersion_L37] at h
      refine lv_iload hx hb dX1_writeVersion_37 (lv_at hl 5 rfl) ?_
      refine lv_iload_n hx hb dX1_writeVersion_39 rfl (lv_at hl 2 rfl) ?_
      refine lv_icmp_ge (tgt := 63) hx hb dX1_writeVersion_40 (by decide) (fun c40 => ?_) (fun c40 => ?_)
      · rw [if_pos c40] at h
        refine lv_aload_n hx hb dX1_writeVersion_63 rfl (lv_at hl 0 rfl) ?_
        obtain ⟨v64, e64, h⟩ := Option.bind_eq_some_iff.mp h
        refine g_getr hx hb hts inlX1 hown hK hG (by rfl) 2 (by decide) qF_X1_28 e64 dX1_writeVersion_64 ?_
        refine lv_iload_n hx hb dX1_writeVersion_67 rfl (lv_at hl 1 rfl) ?_
        refine lv_iload hx hb dX1_writeVersion_68 (lv_at hl 4 rfl) ?_
        obtain ⟨u70, i70, h⟩ := Option.bind_eq_some_iff.mp h
        obtain ⟨G70, e70, h⟩ := Option.bind_eq_some_iff.mp h
        refine g_cVv (As := [.int bx1, .int bx5]) (rest := []) (n := 2) hx hb hml hown hts hK hlo hG (m_X5_enter l dd cT lo G v64 bx1 bx5 e70) qM_X1_225 qI_yX5_enter qS_X5_yX5_enter qN_X5 qC_yX5_enter (by decide +kernel) ⟨Nat.le_of_ble_eq_true rfl, Nat.le_of_ble_eq_true rfl⟩ (by rfl) i70 rfl hl.1 rfl (Nat.le_of_ble_eq_true rfl) dX1_writeVersion_70 ⟨Nat.le_of_ble_eq_true rfl, Nat.le_of_ble_eq_true rfl⟩ (fun H locs hG => ?_)
        refine lv_iload hx hb dX1_writeVersion_73 (lv_at hl 4 rfl) ?_
        obtain ⟨rfl, rfl⟩ := Prod.mk.inj (Option.some.inj h)
        exact g_iret hx hb hr hlocks hK hlo hG ⟨rfl, rfl⟩ dX1_writeVersion_75
      · rw [if_neg c40] at h
        refine lv_aload_n hx hb dX1_writeVersion_43 rfl (lv_at hl 0 rfl) ?_
        obtain ⟨v44, e44, h⟩ := Option.bind_eq_some_iff.mp h
        refine g_getr hx hb hts inlX1 hown hK hG (by rfl) 0 (by decide) qF_X1_12 e44 dX1_writeVersion_44 ?_
        refine lv_iconst (v := (1 : Int32)) hx hb dX1_writeVersion_47 (by decide) ?_
        refine lv_iload hx hb dX1_writeVersion_48 (lv_at hl 3 rfl) ?_
        refine lv_iload hx hb dX1_writeVersion_50 (lv_at hl 4 rfl) ?_
        refine lv_iload hx hb dX1_writeVersion_52 (lv_at hl 5 rfl) ?_
        obtain ⟨u54, i54, h⟩ := Option.bind_eq_some_iff.mp h
        obtain ⟨G54, e54, h⟩ := Option.bind_eq_some_iff.mp h
        refine g_cVv (As := [.int (1 : Int32), .int bx4, .int bx5, .int bx6]) (rest := []) (n := 4) hx hb hml hown hts hK hlo hG (m_X0_writeNext l dd cT lo G v44 (1 : Int32) bx4 bx5 bx6 e54) qM_X1_221 qI_yX0_writeNext qS_X0_yX0_writeNext qN_X0 qC_yX0_writeNext (by decide +kernel) ⟨Nat.le_of_ble_eq_true rfl, Nat.le_of_ble_eq_true rfl⟩ (by rfl) i54 rfl hl.1 rfl (Nat.le_of_ble_eq_true rfl) dX1_writeVersion_54 ⟨Nat.le_of_ble_eq_true rfl, Nat.le_of_ble_eq_true rfl⟩ (fun H locs hG => ?_)
        refine lv_iinc (v := (bx6 + (1 : Int32))) (lv' := [(6, .int (bx6 + (1 : Int32))), (0, .ref ba0), (1, .int bx1), (2, .int bx2), (4, .int bx4), (5, .int bx5)]) hx hb dX1_writeVersion_57 hl (k := 5) rfl rfl (by decide) rfl (fun ls hl => ?_)
        refine lv_goto (tgt := 37) hx hb dX1_writeVersion_60 (by decide) ?_
        exact ih G54 ba0 bx1 bx2 bx4 bx5 (bx6 + (1 : Int32)) _ _ hG _ (lv_sub hl [1, 2, 3, 4, 5, 0] rfl) h
  unfold f_X1_writeVersion at h
  refine lv_aload_n hx hb dX1_writeVersion_0 rfl (lv_at hl 0 rfl) ?_
  obtain ⟨u1, i1, h⟩ := Option.bind_eq_some_iff.mp h
  obtain ⟨G1, e1, h⟩ := Option.bind_eq_some_iff.mp h
  refine g_cVv (As := []) (rest := []) (n := 0) hx hb hml hown hts hK hlo hG (m_X1_beginIfNeeded l dd cT lo G a0 e1) qM_X1_211 qI_yX1_beginIfNeeded qS_X1_yX1_beginIfNeeded qN_X1 qC_yX1_beginIfNeeded (by decide +kernel) ⟨Nat.le_of_ble_eq_true rfl, Nat.le_of_ble_eq_true rfl⟩ (by rfl) i1 rfl hl.1 rfl (Nat.le_of_ble_eq_true rfl) dX1_writeVersion_1 ⟨Nat.le_of_ble_eq_true rfl, Nat.le_of_ble_eq_true rfl⟩ (fun H locs hG => ?_)
  refine lv_aload_n hx hb dX1_writeVersion_4 rfl (lv_at hl 0 rfl) ?_
  obtain ⟨v5, e5, h⟩ := Option.bind_eq_some_iff.mp h
  refine g_getr hx hb hts inlX1 hown hK hG (by rfl) 2 (by decide) qF_X1_28 e5 dX1_writeVersion_5 ?_
  obtain ⟨u8, i8, h⟩ := Option.bind_eq_some_iff.mp h
  obtain ⟨v8, e8, h⟩ := Option.bind_eq_some_iff.mp h
  refine g_cVi (As := []) (rest := []) (n := 0) hx hb hml hown hts hK hlo hG (m_X5_latest l dd cT lo G1 v5 e8) qM_X1_199 qI_yX5_latest qS_X5_yX5_latest qN_X5 qC_yX5_latest (by decide +kernel) ⟨Nat.le_of_ble_eq_true rfl, Nat.le_of_ble_eq_true rfl⟩ (by rfl) i8 rfl hl.1 rfl (Nat.le_of_ble_eq_true rfl) dX1_writeVersion_8 ⟨Nat.le_of_ble_eq_true rfl, Nat.le_of_ble_eq_true rfl⟩ (fun H locs hG => ?_)
  refine lv_istore (lv' := [(4, .int v8), (0, .ref a0), (1, .int x1), (2, .int x2), (3, .int x3)]) hx hb dX1_writeVersion_11 hl (by decide) rfl (fun ls hl => ?_)
  refine lv_aload_n hx hb dX1_writeVersion_13 rfl (lv_at hl 1 rfl) ?_
  obtain ⟨v14, e14, h⟩ := Option.bind_eq_some_iff.mp h
  refine g_getr hx hb hts inlX1 hown hK hG (by rfl) 1 (by decide) qF_X1_21 e14 dX1_writeVersion_14 ?_
  refine lv_iload_n hx hb dX1_writeVersion_17 rfl (lv_at hl 2 rfl) ?_
  refine lv_aload_n hx hb dX1_writeVersion_18 rfl (lv_at hl 1 rfl) ?_
  obtain ⟨v19, e19, h⟩ := Option.bind_eq_some_iff.mp h
  refine g_getr hx hb hts inlX1 hown hK hG (by rfl) 0 (by decide) qF_X1_12 e19 dX1_writeVersion_19 ?_
  obtain ⟨v22, e22, h⟩ := Option.bind_eq_some_iff.mp h
  refine g_geti hx hb hts inlX0 hown hK hG (by rfl) 2 (by decide) qF_X1_214 e22 dX1_writeVersion_22 ?_
  refine lv_iload_n hx hb dX1_writeVersion_25 rfl (lv_at hl 3 rfl) ?_
  refine lv_iload_n hx hb dX1_writeVersion_26 rfl (lv_at hl 4 rfl) ?_
  refine lv_iload hx hb dX1_writeVersion_27 (lv_at hl 0 rfl) ?_
  obtain ⟨u29, i29, h⟩ := Option.bind_eq_some_iff.mp h
  obtain ⟨q29, e29, h⟩ := Option.bind_eq_some_iff.mp h
  refine g_cVi (As := [.int x1, .int v22, .int x2, .int x3, .int v8]) (rest := []) (n := 5) hx hb hml hown hts hK hlo hG (m_X7_add l dd cT lo G1 v14 x1 v22 x2 x3 v8 e29) qM_X1_217 qI_yX7_add qS_X7_yX7_add qN_X7 qC_yX7_add (by decide +kernel) ⟨Nat.le_of_ble_eq_true rfl, Nat.le_of_ble_eq_true rfl⟩ (by rfl) i29 rfl hl.1 rfl (Nat.le_of_ble_eq_true rfl) dX1_writeVersion_29 ⟨Nat.le_of_ble_eq_true rfl, Nat.le_of_ble_eq_true rfl⟩ (fun H locs hG => ?_)
  refine lv_istore (lv' := [(5, .int q29.2), (4, .int v8), (0, .ref a0), (1, .int x1), (2, .int x2), (3, .int x3)]) hx hb dX1_writeVersion_32 hl (by decide) rfl (fun ls hl => ?_)
  refine lv_iconst (v := (0 : Int32)) hx hb dX1_writeVersion_34 (by decide) ?_
  refine lv_istore (lv' := [(6, .int (0 : Int32)), (5, .int q29.2), (4, .int v8), (0, .ref a0), (1, .int x1), (2, .int x2), (3, .int x3)]) hx hb dX1_writeVersion_35 hl (by decide) rfl (fun ls hl => ?_)
  exact h37 g_N q29.1 a0 x1 x2 v8 q29.2 (0 : Int32) _ _ hG _ (lv_sub hl [3, 4, 5, 2, 1, 0] rfl) h
set_option maxRecDepth 20000 in
set_option maxHeartbeats 4000000 in
theorem m_X1_eraseFile (l : Launch) (dd : va_G) (cT : Nat → ClassId) (lo : Nat → Prop) (G : gH) (a0 : Nat) (x1 : Int32) {Gz : gH} (h : f_X1_eraseFile G a0 x1 = some Gz) : Met l yX1_eraseFile (Cond.code yX1_eraseFile cX1_eraseFile 2 none :: wsL_law) (g_rm 4 86 0 0) (va_Pc [.ref a0, .int x1] (g_Pre lo dd cT G)) (va_Qv (g_iv Gz) (g_Pre lo dd cT) (g_A lo)) 0 0 (g_A lo) := by
  refine g_start RX1 rfl (by decide) (Nat.le_of_ble_eq_true rfl) ?_
  intro p e s m below meth c hx hb hr hlocks hml hown hnm hts hK hG hlo ls hl
  have hl : lv_has ls 2 [(0, .ref a0), (1, .int x1)] := hl
  have hG : g_S lo dd cT s s.heap [] G := hG
  unfold f_X1_eraseFile at h
  refine lv_aload_n hx hb dX1_eraseFile_0 rfl (lv_at hl 0 rfl) ?_
  obtain ⟨u1, i1, h⟩ := Option.bind_eq_some_iff.mp h
  obtain ⟨G1, e1, h⟩ := Option.bind_eq_some_iff.mp h
  refine g_cVv (As := []) (rest := []) (n := 0) hx hb hml hown hts hK hlo hG (m_X1_beginIfNeeded l dd cT lo G a0 e1) qM_X1_211 qI_yX1_beginIfNeeded qS_X1_yX1_beginIfNeeded qN_X1 qC_yX1_beginIfNeeded (by decide +kernel) ⟨Nat.le_of_ble_eq_true rfl, Nat.le_of_ble_eq_true rfl⟩ (by rfl) i1 rfl hl.1 rfl (Nat.le_of_ble_eq_true rfl) dX1_eraseFile_1 ⟨Nat.le_of_ble_eq_true rfl, Nat.le_of_ble_eq_true rfl⟩ (fun H locs hG => ?_)
  refine lv_aload_n hx hb dX1_eraseFile_4 rfl (lv_at hl 0 rfl) ?_
  obtain ⟨v5, e5, h⟩ := Option.bind_eq_some_iff.mp h
  refine g_getr hx hb hts inlX1 hown hK hG (by rfl) 2 (by decide) qF_X1_28 e5 dX1_eraseFile_5 ?_
  refine lv_iload_n hx hb dX1_eraseFile_8 rfl (lv_at hl 1 rfl) ?_
  refine lv_iconst (v := (-1 : Int32)) hx hb dX1_eraseFile_9 (by decide) ?_
  obtain ⟨u10, i10, h⟩ := Option.bind_eq_some_iff.mp h
  obtain ⟨G10, e10, h⟩ := Option.bind_eq_some_iff.mp h
  refine g_cVv (As := [.int x1, .int (-1 : Int32)]) (rest := []) (n := 2) hx hb hml hown hts hK hlo hG (m_X5_enter l dd cT lo G1 v5 x1 (-1 : Int32) e10) qM_X1_225 qI_yX5_enter qS_X5_yX5_enter qN_X5 qC_yX5_enter (by decide +kernel) ⟨Nat.le_of_ble_eq_true rfl, Nat.le_of_ble_eq_true rfl⟩ (by rfl) i10 rfl hl.1 rfl (Nat.le_of_ble_eq_true rfl) dX1_eraseFile_10 ⟨Nat.le_of_ble_eq_true rfl, Nat.le_of_ble_eq_true rfl⟩ (fun H locs hG => ?_)
  obtain rfl := Option.some.inj h
  exact g_vret hx hb hr hlocks hK hlo hG rfl dX1_eraseFile_13
set_option maxRecDepth 20000 in
set_option maxHeartbeats 4000000 in
theorem m_X4_read (l : Launch) (dd : va_G) (cT : Nat → ClassId) (lo : Nat → Prop) (G : gH) (a0 : Nat) (a1 : Nat) (x2 : Int32) {Gz : gH} (h : f_X4_read G a0 a1 x2 = some Gz) : Met l yX4_read (Cond.code yX4_read cX4_read 4 none :: wsL_law) (g_rm 8 175 0 0) (va_Pc [.ref a0, .ref a1, .int x2] (g_Pre lo dd cT G)) (va_Qv (g_iv Gz) (g_Pre lo dd cT) (g_A lo)) 0 0 (g_A lo) := by
  refine g_start RX4 rfl (by decide) (Nat.le_of_ble_eq_true rfl) ?_
  intro p e s m below meth c hx hb hr hlocks hml hown hnm hts hK hG hlo ls hl
  have hl : lv_has ls 4 [(0, .ref a0), (1, .ref a1), (2, .int x2)] := hl
  have hG : g_S lo dd cT s s.heap [] G := hG
  have h111 : ∀ (G : gH) (ba0 : Nat) (bx3 : Int32), ∀ (H : Heap) (locs : List Loc), g_S lo dd cT s H locs G → ∀ ls : Array Slot, lv_has ls 4 [(0, .ref ba0), (3, .int bx3)] → f_X4_read_J111 G ba0 bx3 = some Gz → W p l e (g_rm 8 175 0 0) s m ([.ref a0, .ref a1, .int x2] : List Value).toArray below meth c H locs 0 0 (MQ below (va_Qv (g_iv Gz) (g_Pre lo dd cT) (g_A lo)) ([.ref a0, .ref a1, .int x2] : List Value).toArray s 0 0 (g_A lo)) (F0 m 111 ls []) := by
    intro G ba0 bx3 H locs hG ls hl h
    unfold f_X4_read_J111 at h
    refine lv_iload_n hx hb dX4_read_111 rfl (lv_at hl 1 rfl) ?_
    refine lv_if_ne (tgt := 130) hx hb dX4_read_112 (by decide) (fun c112 => ?_) (fun c112 => ?_)
    · rw [if_neg c112] at h
      obtain rfl := Option.some.inj h
      exact g_vret hx hb hr hlocks hK hlo hG rfl dX4_read_130
    · rw [if_pos c112] at h
      refine lv_aload_n hx hb dX4_read_115 rfl (lv_at hl 0 rfl) ?_
      refine lv_aload_n hx hb dX4_read_116 rfl (lv_at hl 0 rfl) ?_
      obtain ⟨v117, e117, h⟩ := Option.bind_eq_some_iff.mp h
      refine g_getr hx hb hts inlX4 hown hK hG (by rfl) 13 (by decide) qF_X4_57 e117 dX4_read_117 ?_
      refine lv_aload_n hx hb dX4_read_120 rfl (lv_at hl 0 rfl) ?_
      obtain ⟨v121, e121, h⟩ := Option.bind_eq_some_iff.mp h
      refine g_geti hx hb hts inlX4 hown hK hG (by rfl) 14 (by decide) qF_X4_61 e121 dX4_read_121 ?_
      obtain ⟨u124, i124, h⟩ := Option.bind_eq_some_iff.mp h
      obtain ⟨v124, e124, h⟩ := Option.bind_eq_some_iff.mp h
      refine g_cVi (As := [.int v121]) (rest := [.ref ba0]) (n := 1) hx hb hml hown hts hK hlo hG (m_X11_startOf l dd cT lo G v117 v121 e124) qM_X4_83 qI_yX11_startOf qS_X11_yX11_startOf qN_X11 qC_yX11_startOf (by decide +kernel) ⟨Nat.le_of_ble_eq_true rfl, Nat.le_of_ble_eq_true rfl⟩ (by rfl) i124 rfl hl.1 rfl (Nat.le_of_ble_eq_true rfl) dX4_read_124 ⟨Nat.le_of_ble_eq_true rfl, Nat.le_of_ble_eq_true rfl⟩ (fun H locs hG => ?_)
      obtain ⟨G127, i127, h⟩ := Option.bind_eq_some_iff.mp h
      refine g_putv hx hb hts inlX4 tyX4 tyX4_ok nmX4 hown hK hG (by rfl) 1 (by decide) qF_X4_15 rfl rfl rfl rfl i127 dX4_read_127 (fun H locs hG => ?_)
      obtain rfl := Option.some.inj h
      exact g_vret hx hb hr hlocks hK hlo hG rfl dX4_read_130
  have h58 : ∀ n : Nat, ∀ (G : gH) (ba0 : Nat) (bx3 : Int32), ∀ (H : Heap) (locs : List Loc), g_S lo dd cT s H locs G → ∀ ls : Array Slot, lv_has ls 4 [(0, .ref ba0), (3, .int bx3)] → f_X4_read_L58 n G ba0 bx3 = some Gz → W p l e (g_rm 8 175 0 0) s m ([.ref a0, .ref a1, .int x2] : List Value).toArray below meth c H locs 0 0 (MQ below (va_Qv (g_iv Gz) (g_Pre lo dd cT) (g_A lo)) ([.ref a0, .ref a1, .int x2] : List Value).toArray s 0 0 (g_A lo)) (F0 m 58 ls []) := by
    intro n
    induction n with
    | zero =>
      intro G ba0 bx3 H locs hG ls hl h
      cases (show (none : Option gH) = some Gz from h)
    | succ n ih =>
      intro G ba0 bx3 H locs hG ls hl h
      rw [f_X4_read_L58] at h
      refine lv_iload_n hx hb dX4_read_58 rfl (lv_at hl 1 rfl) ?_
      refine lv_if_eq (tgt := 111) hx hb dX4_read_59 (by decide) (fun c59 => ?_) (fun c59 => ?_)
      · rw [if_pos c59] at h
        exact h111 G ba0 bx3 _ _ hG _ (lv_sub hl [0, 1] rfl) h
      · rw [if_neg c59] at h
        refine lv_aload_n hx hb dX4_read_62 rfl (lv_at hl 0 rfl) ?_
        obtain ⟨v63, e63, h⟩ := Option.bind_eq_some_iff.mp h
        refine g_geti hx hb hts inlX4 hown hK hG (by rfl) 14 (by decide) qF_X4_61 e63 dX4_read_63 ?_
        refine lv_aload_n hx hb dX4_read_66 rfl (lv_at hl 0 rfl) ?_
        obtain ⟨v67, e67, h⟩ := Option.bind_eq_some_iff.mp h
        refine g_getr hx hb hts inlX4 hown hK hG (by rfl) 13 (by decide) qF_X4_57 e67 dX4_read_67 ?_
        obtain ⟨v70, e70, h⟩ := Option.bind_eq_some_iff.mp h
        refine g_geti hx hb hts inlX11 hown hK hG (by rfl) 0 (by decide) qF_X4_76 e70 dX4_read_70 ?_
        refine lv_iconst (v := (1 : Int32)) hx hb dX4_read_73 (by decide) ?_
        refine lv_isub hx hb dX4_read_74 ?_
        refine lv_icmp_ge (tgt := 111) hx hb dX4_read_75 (by decide) (fun c75 => ?_) (fun c75 => ?_)
        · rw [if_pos c75] at h
          exact h111 G ba0 bx3 _ _ hG _ (lv_sub hl [0, 1] rfl) h
        · rw [if_neg c75] at h
          refine lv_aload_n hx hb dX4_read_78 rfl (lv_at hl 0 rfl) ?_
          refine lv_dup hx hb dX4_read_79 rfl ?_
          obtain ⟨v80, e80, h⟩ := Option.bind_eq_some_iff.mp h
          refine g_geti hx hb hts inlX4 hown hK hG (by rfl) 14 (by decide) qF_X4_61 e80 dX4_read_80 ?_
          refine lv_iconst (v := (1 : Int32)) hx hb dX4_read_83 (by decide) ?_
          refine lv_iadd hx hb dX4_read_84 ?_
          obtain ⟨G85, i85, h⟩ := Option.bind_eq_some_iff.mp h
          refine g_putv hx hb hts inlX4 tyX4 tyX4_ok nmX4 hown hK hG (by rfl) 14 (by decide) qF_X4_61 rfl rfl rfl rfl i85 dX4_read_85 (fun H locs hG => ?_)
          refine lv_aload_n hx hb dX4_read_88 rfl (lv_at hl 0 rfl) ?_
          obtain ⟨u89, i89, h⟩ := Option.bind_eq_some_iff.mp h
          obtain ⟨q89, e89, h⟩ := Option.bind_eq_some_iff.mp h
          refine g_cVi (As := []) (rest := []) (n := 0) hx hb hml hown hts hK hlo hG (m_X4_readStatement l dd cT lo G85 ba0 e89) qM_X4_77 qI_yX4_readStatement qS_X4_yX4_readStatement qN_X4 qC_yX4_readStatement (by decide +kernel) ⟨Nat.le_of_ble_eq_true rfl, Nat.le_of_ble_eq_true rfl⟩ (by rfl) i89 rfl hl.1 rfl (Nat.le_of_ble_eq_true rfl) dX4_read_89 ⟨Nat.le_of_ble_eq_true rfl, Nat.le_of_ble_eq_true rfl⟩ (fun H locs hG => ?_)
          refine lv_if_eq (tgt := 106) hx hb dX4_read_92 (by decide) (fun c92 => ?_) (fun c92 => ?_)
          · rw [if_pos c92] at h
            refine lv_iconst (v := (0 : Int32)) hx hb dX4_read_106 (by decide) ?_
            refine lv_istore_n (lv' := [(3, .int (0 : Int32)), (0, .ref ba0)]) hx hb dX4_read_107 rfl hl (by decide) rfl (fun ls hl => ?_)
            refine lv_goto (tgt := 58) hx hb dX4_read_108 (by decide) ?_
            exact ih q89.1 ba0 (0 : Int32) _ _ hG _ (lv_sub hl [1, 0] rfl) h
          · rw [if_neg c92] at h
            refine lv_aload_n hx hb dX4_read_95 rfl (lv_at hl 0 rfl) ?_
            obtain ⟨u96, i96, h⟩ := Option.bind_eq_some_iff.mp h
            obtain ⟨q96, e96, h⟩ := Option.bind_eq_some_iff.mp h
            refine g_cVi (As := []) (rest := []) (n := 0) hx hb hml hown hts hK hlo hG (m_X4_readSemicolon l dd cT lo q89.1 ba0 e96) qM_X4_80 qI_yX4_readSemicolon qS_X4_yX4_readSemicolon qN_X4 qC_yX4_readSemicolon (by decide +kernel) ⟨Nat.le_of_ble_eq_true rfl, Nat.le_of_ble_eq_true rfl⟩ (by rfl) i96 rfl hl.1 rfl (Nat.le_of_ble_eq_true rfl) dX4_read_96 ⟨Nat.le_of_ble_eq_true rfl, Nat.le_of_ble_eq_true rfl⟩ (fun H locs hG => ?_)
            refine lv_if_eq (tgt := 106) hx hb dX4_read_99 (by decide) (fun c99 => ?_) (fun c99 => ?_)
            · rw [if_pos c99] at h
              refine lv_iconst (v := (0 : Int32)) hx hb dX4_read_106 (by decide) ?_
              refine lv_istore_n (lv' := [(3, .int (0 : Int32)), (0, .ref ba0)]) hx hb dX4_read_107 rfl hl (by decide) rfl (fun ls hl => ?_)
              refine lv_goto (tgt := 58) hx hb dX4_read_108 (by decide) ?_
              exact ih q96.1 ba0 (0 : Int32) _ _ hG _ (lv_sub hl [1, 0] rfl) h
            · rw [if_neg c99] at h
              refine lv_iconst (v := (1 : Int32)) hx hb dX4_read_102 (by decide) ?_
              refine lv_goto (tgt := 107) hx hb dX4_read_103 (by decide) ?_
              refine lv_istore_n (lv' := [(3, .int (1 : Int32)), (0, .ref ba0)]) hx hb dX4_read_107 rfl hl (by decide) rfl (fun ls hl => ?_)
              refine lv_goto (tgt := 58) hx hb dX4_read_108 (by decide) ?_
              exact ih q96.1 ba0 (1 : Int32) _ _ hG _ (lv_sub hl [1, 0] rfl) h
  unfold f_X4_read at h
  refine lv_aload_n hx hb dX4_read_0 rfl (lv_at hl 0 rfl) ?_
  refine lv_iconst (v := (0 : Int32)) hx hb dX4_read_1 (by decide) ?_
  obtain ⟨G2, i2, h⟩ := Option.bind_eq_some_iff.mp h
  refine g_putv hx hb hts inlX4 tyX4 tyX4_ok nmX4 hown hK hG (by rfl) 0 (by decide) qF_X4_9 rfl rfl rfl rfl i2 dX4_read_2 (fun H locs hG => ?_)
  refine lv_aload_n hx hb dX4_read_5 rfl (lv_at hl 0 rfl) ?_
  refine lv_iconst (v := (-1 : Int32)) hx hb dX4_read_6 (by decide) ?_
  obtain ⟨G7, i7, h⟩ := Option.bind_eq_some_iff.mp h
  refine g_putv hx hb hts inlX4 tyX4 tyX4_ok nmX4 hown hK hG (by rfl) 1 (by decide) qF_X4_15 rfl rfl rfl rfl i7 dX4_read_7 (fun H locs hG => ?_)
  refine lv_aload_n hx hb dX4_read_10 rfl (lv_at hl 0 rfl) ?_
  refine lv_bipush (v := (8 : Int32)) hx hb dX4_read_11 (by decide) ?_
  obtain ⟨G13, i13, h⟩ := Option.bind_eq_some_iff.mp h
  refine g_putv hx hb hts inlX4 tyX4 tyX4_ok nmX4 hown hK hG (by rfl) 2 (by decide) qF_X4_18 rfl rfl rfl rfl i13 dX4_read_13 (fun H locs hG => ?_)
  refine lv_aload_n hx hb dX4_read_16 rfl (lv_at hl 0 rfl) ?_
  refine lv_iconst (v := (0 : Int32)) hx hb dX4_read_17 (by decide) ?_
  obtain ⟨G18, i18, h⟩ := Option.bind_eq_some_iff.mp h
  refine g_putv hx hb hts inlX4 tyX4 tyX4_ok nmX4 hown hK hG (by rfl) 3 (by decide) qF_X4_21 rfl rfl rfl rfl i18 dX4_read_18 (fun H locs hG => ?_)
  refine lv_aload_n hx hb dX4_read_21 rfl (lv_at hl 0 rfl) ?_
  refine lv_iconst (v := (0 : Int32)) hx hb dX4_read_22 (by decide) ?_
  obtain ⟨G23, i23, h⟩ := Option.bind_eq_some_iff.mp h
  refine g_putv hx hb hts inlX4 tyX4 tyX4_ok nmX4 hown hK hG (by rfl) 4 (by decide) qF_X4_24 rfl rfl rfl rfl i23 dX4_read_23 (fun H locs hG => ?_)
  refine lv_aload_n hx hb dX4_read_26 rfl (lv_at hl 0 rfl) ?_
  refine lv_iconst (v := (0 : Int32)) hx hb dX4_read_27 (by decide) ?_
  obtain ⟨G28, i28, h⟩ := Option.bind_eq_some_iff.mp h
  refine g_putv hx hb hts inlX4 tyX4 tyX4_ok nmX4 hown hK hG (by rfl) 6 (by decide) qF_X4_31 rfl rfl rfl rfl i28 dX4_read_28 (fun H locs hG => ?_)
  refine lv_aload_n hx hb dX4_read_31 rfl (lv_at hl 0 rfl) ?_
  obtain ⟨v32, e32, h⟩ := Option.bind_eq_some_iff.mp h
  refine g_getr hx hb hts inlX4 hown hK hG (by rfl) 12 (by decide) qF_X4_50 e32 dX4_read_32 ?_
  refine lv_iconst (v := (0 : Int32)) hx hb dX4_read_35 (by decide) ?_
  obtain ⟨G36, e36, h⟩ := Option.bind_eq_some_iff.mp h
  refine g_cNv (As := [.ref v32, .int (0 : Int32)]) (rest := []) (n := 2) hx hb hml hown hts hK hlo hG (m_X9_fill_ l dd cT lo G28 v32 (0 : Int32) e36) (List.mem_of_getElem? (i := 33) rfl) qT_yX9_fill_ qN_X9 qC_yX9_fill_ (by decide +kernel) ⟨Nat.le_of_ble_eq_true rfl, Nat.le_of_ble_eq_true rfl⟩ rfl hl.1 rfl (Nat.le_of_ble_eq_true rfl) dX4_read_36 ⟨Nat.le_of_ble_eq_true rfl, Nat.le_of_ble_eq_true rfl⟩ (fun H locs hG => ?_)
  refine lv_aload_n hx hb dX4_read_39 rfl (lv_at hl 0 rfl) ?_
  obtain ⟨v40, e40, h⟩ := Option.bind_eq_some_iff.mp h
  refine g_getr hx hb hts inlX4 hown hK hG (by rfl) 13 (by decide) qF_X4_57 e40 dX4_read_40 ?_
  refine lv_aload_n hx hb dX4_read_43 rfl (lv_at hl 1 rfl) ?_
  refine lv_iload_n hx hb dX4_read_44 rfl (lv_at hl 2 rfl) ?_
  obtain ⟨u45, i45, h⟩ := Option.bind_eq_some_iff.mp h
  obtain ⟨G45, e45, h⟩ := Option.bind_eq_some_iff.mp h
  refine g_cVv (As := [.ref a1, .int x2]) (rest := []) (n := 2) hx hb hml hown hts hK hlo hG (m_X11_read l dd cT lo G36 v40 a1 x2 e45) qM_X4_68 qI_yX11_read qS_X11_yX11_read qN_X11 qC_yX11_read (by decide +kernel) ⟨Nat.le_of_ble_eq_true rfl, Nat.le_of_ble_eq_true rfl⟩ (by rfl) i45 rfl hl.1 rfl (Nat.le_of_ble_eq_true rfl) dX4_read_45 ⟨Nat.le_of_ble_eq_true rfl, Nat.le_of_ble_eq_true rfl⟩ (fun H locs hG => ?_)
  refine lv_aload_n hx hb dX4_read_48 rfl (lv_at hl 0 rfl) ?_
  refine lv_iconst (v := (0 : Int32)) hx hb dX4_read_49 (by decide) ?_
  obtain ⟨G50, i50, h⟩ := Option.bind_eq_some_iff.mp h
  refine g_putv hx hb hts inlX4 tyX4 tyX4_ok nmX4 hown hK hG (by rfl) 14 (by decide) qF_X4_61 rfl rfl rfl rfl i50 dX4_read_50 (fun H locs hG => ?_)
  refine lv_aload_n hx hb dX4_read_53 rfl (lv_at hl 0 rfl) ?_
  obtain ⟨u54, i54, h⟩ := Option.bind_eq_some_iff.mp h
  obtain ⟨q54, e54, h⟩ := Option.bind_eq_some_iff.mp h
  refine g_cVi (As := []) (rest := []) (n := 0) hx hb hml hown hts hK hlo hG (m_X4_readHead l dd cT lo G50 a0 e54) qM_X4_72 qI_yX4_readHead qS_X4_yX4_readHead qN_X4 qC_yX4_readHead (by decide +kernel) ⟨Nat.le_of_ble_eq_true rfl, Nat.le_of_ble_eq_true rfl⟩ (by rfl) i54 rfl hl.1 rfl (Nat.le_of_ble_eq_true rfl) dX4_read_54 ⟨Nat.le_of_ble_eq_true rfl, Nat.le_of_ble_eq_true rfl⟩ (fun H locs hG => ?_)
  refine lv_istore_n (lv' := [(3, .int q54.2), (0, .ref a0), (1, .ref a1), (2, .int x2)]) hx hb dX4_read_57 rfl hl (by decide) rfl (fun ls hl => ?_)
  exact h58 g_N q54.1 a0 q54.2 _ _ hG _ (lv_sub hl [1, 0] rfl) h
set_option maxRecDepth 20000 in
set_option maxHeartbeats 4000000 in
theorem m_X9_weakest (l : Launch) (dd : va_G) (cT : Nat → ClassId) (lo : Nat → Prop) (G : gH) (a0 : Nat) {rz : Int32} {Gz : gH} (h : f_X9_weakest G a0 = some (Gz, rz)) : Met l yX9_weakest (Cond.code yX9_weakest cX9_weakest 6 (some .int) :: wsL_law) (g_rm 5 120 0 0) (va_Pc [.ref a0] (g_Pre lo dd cT G)) (va_Qi (g_is rz Gz) (g_Pre lo dd cT) (g_A lo)) 0 0 (g_A lo) := by
  refine g_start RX9 rfl (by decide) (Nat.le_of_ble_eq_true rfl) ?_
  intro p e s m below meth c hx hb hr hlocks hml hown hnm hts hK hG hlo ls hl
  have hl : lv_has ls 6 [(0, .ref a0)] := hl
  have hG : g_S lo dd cT s s.heap [] G := hG
  have h22 : ∀ n : Nat, ∀ (G : gH) (ba0 : Nat) (ba1 : Nat) (bx2 : Int32) (bx3 : Int32) (bx4 : Int32), ∀ (H : Heap) (locs : List Loc), g_S lo dd cT s H locs G → ∀ ls : Array Slot, lv_has ls 6 [(0, .ref ba0), (1, .ref ba1), (2, .int bx2), (3, .int bx3), (4, .int bx4)] → f_X9_weakest_L22 n G ba0 ba1 bx2 bx3 bx4 = some (Gz, rz) → W p l e (g_rm 5 120 0 0) s m ([.ref a0] : List Value).toArray below meth c H locs 0 0 (MQ below (va_Qi (g_is rz Gz) (g_Pre lo dd cT) (g_A lo)) ([.ref a0] : List Value).toArray s 0 0 (g_A lo)) (F0 m 22 ls []) := by
    intro n
    induction n with
    | zero =>
      intro G ba0 ba1 bx2 bx3 bx4 H locs hG ls hl h
      cases (show (none : Option (gH × Int32)) = some (Gz, rz) from h)
    | succ n ih =>
      intro G ba0 ba1 bx2 bx3 bx4 H locs hG ls hl h
      rw [f_X9_weakest_L22] at h
      refine lv_iload hx hb dX9_weakest_22 (lv_at hl 4 rfl) ?_
      refine lv_aload_n hx hb dX9_weakest_24 rfl (lv_at hl 0 rfl) ?_
      obtain ⟨v25, e25, h⟩ := Option.bind_eq_some_iff.mp h
      refine g_getr hx hb hts inlX9 hown hK hG (by rfl) 5 (by decide) qF_X9_47 e25 dX9_weakest_25 ?_
      obtain ⟨v28, e28, h⟩ := Option.bind_eq_some_iff.mp h
      refine g_getr hx hb hts inlX1 hown hK hG (by rfl) 0 (by decide) qF_X9_106 e28 dX9_weakest_28 ?_
      obtain ⟨v31, e31, h⟩ := Option.bind_eq_some_iff.mp h
      refine g_geti hx hb hts inlX0 hown hK hG (by rfl) 0 (by decide) qF_X9_110 e31 dX9_weakest_31 ?_
      refine lv_icmp_ge (tgt := 71) hx hb dX9_weakest_34 (by decide) (fun c34 => ?_) (fun c34 => ?_)
      · rw [if_pos c34] at h
        refine lv_iload_n hx hb dX9_weakest_71 rfl (lv_at hl 2 rfl) ?_
        obtain ⟨rfl, rfl⟩ := Prod.mk.inj (Option.some.inj h)
        exact g_iret hx hb hr hlocks hK hlo hG ⟨rfl, rfl⟩ dX9_weakest_72
      · rw [if_neg c34] at h
        refine lv_aload_n hx hb dX9_weakest_37 rfl (lv_at hl 0 rfl) ?_
        obtain ⟨v38, e38, h⟩ := Option.bind_eq_some_iff.mp h
        refine g_getr hx hb hts inlX9 hown hK hG (by rfl) 5 (by decide) qF_X9_47 e38 dX9_weakest_38 ?_
        refine lv_iload hx hb dX9_weakest_41 (lv_at hl 4 rfl) ?_
        refine lv_aload_n hx hb dX9_weakest_43 rfl (lv_at hl 1 rfl) ?_
        refine lv_aload_n hx hb dX9_weakest_44 rfl (lv_at hl 0 rfl) ?_
        obtain ⟨v45, e45, h⟩ := Option.bind_eq_some_iff.mp h
        refine g_getr hx hb hts inlX9 hown hK hG (by rfl) 4 (by decide) qF_X9_40 e45 dX9_weakest_45 ?_
        obtain ⟨u48, i48, h⟩ := Option.bind_eq_some_iff.mp h
        obtain ⟨q48, e48, h⟩ := Option.bind_eq_some_iff.mp h
        refine g_cVi (As := [.int bx4, .ref ba1, .ref v45]) (rest := []) (n := 3) hx hb hml hown hts hK hlo hG (m_X1_filesLostBy l dd cT lo G v38 bx4 ba1 v45 e48) qM_X9_264 qI_yX1_filesLostBy qS_X1_yX1_filesLostBy qN_X1 qC_yX1_filesLostBy (by decide +kernel) ⟨Nat.le_of_ble_eq_true rfl, Nat.le_of_ble_eq_true rfl⟩ (by rfl) i48 rfl hl.1 rfl (Nat.le_of_ble_eq_true rfl) dX9_weakest_48 ⟨Nat.le_of_ble_eq_true rfl, Nat.le_of_ble_eq_true rfl⟩ (fun H locs hG => ?_)
        refine lv_istore (lv' := [(5, .int q48.2), (0, .ref ba0), (1, .ref ba1), (2, .int bx2), (3, .int bx3), (4, .int bx4)]) hx hb dX9_weakest_51 hl (by decide) rfl (fun ls hl => ?_)
        refine lv_iload hx hb dX9_weakest_53 (lv_at hl 0 rfl) ?_
        refine lv_iload_n hx hb dX9_weakest_55 rfl (lv_at hl 4 rfl) ?_
        refine lv_icmp_le (tgt := 65) hx hb dX9_weakest_56 (by decide) (fun c56 => ?_) (fun c56 => ?_)
        · rw [if_pos c56] at h
          refine lv_iinc (v := (bx4 + (1 : Int32))) (lv' := [(4, .int (bx4 + (1 : Int32))), (5, .int q48.2), (0, .ref ba0), (1, .ref ba1), (2, .int bx2), (3, .int bx3)]) hx hb dX9_weakest_65 hl (k := 5) rfl rfl (by decide) rfl (fun ls hl => ?_)
          refine lv_goto (tgt := 22) hx hb dX9_weakest_68 (by decide) ?_
          exact ih q48.1 ba0 ba1 bx2 bx3 (bx4 + (1 : Int32)) _ _ hG _ (lv_sub hl [2, 3, 4, 5, 0] rfl) h
        · rw [if_neg c56] at h
          refine lv_iload hx hb dX9_weakest_59 (lv_at hl 0 rfl) ?_
          refine lv_istore_n (lv' := [(3, .int q48.2), (5, .int q48.2), (0, .ref ba0), (1, .ref ba1), (2, .int bx2), (4, .int bx4)]) hx hb dX9_weakest_61 rfl hl (by decide) rfl (fun ls hl => ?_)
          refine lv_iload hx hb dX9_weakest_62 (lv_at hl 5 rfl) ?_
          refine lv_istore_n (lv' := [(2, .int bx4), (3, .int q48.2), (5, .int q48.2), (0, .ref ba0), (1, .ref ba1), (4, .int bx4)]) hx hb dX9_weakest_64 rfl hl (by decide) rfl (fun ls hl => ?_)
          refine lv_iinc (v := (bx4 + (1 : Int32))) (lv' := [(4, .int (bx4 + (1 : Int32))), (2, .int bx4), (3, .int q48.2), (5, .int q48.2), (0, .ref ba0), (1, .ref ba1)]) hx hb dX9_weakest_65 hl (k := 5) rfl rfl (by decide) rfl (fun ls hl => ?_)
          refine lv_goto (tgt := 22) hx hb dX9_weakest_68 (by decide) ?_
          exact ih q48.1 ba0 ba1 bx4 q48.2 (bx4 + (1 : Int32)) _ _ hG _ (lv_sub hl [4, 5, 1, 2, 0] rfl) h
  unfold f_X9_weakest at h
  refine lv_aload_n hx hb dX9_weakest_0 rfl (lv_at hl 0 rfl) ?_
  obtain ⟨v1, e1, h⟩ := Option.bind_eq_some_iff.mp h
  refine g_getr hx hb hts inlX9 hown hK hG (by rfl) 5 (by decide) qF_X9_47 e1 dX9_weakest_1 ?_
  obtain ⟨v4, e4, h⟩ := Option.bind_eq_some_iff.mp h
  refine g_getr hx hb hts inlX1 hown hK hG (by rfl) 6 (by decide) qF_X9_136 e4 dX9_weakest_4 ?_
  refine lv_aload_n hx hb dX9_weakest_7 rfl (lv_at hl 0 rfl) ?_
  obtain ⟨v8, e8, h⟩ := Option.bind_eq_some_iff.mp h
  refine g_getr hx hb hts inlX9 hown hK hG (by rfl) 5 (by decide) qF_X9_47 e8 dX9_weakest_8 ?_
  obtain ⟨u11, i11, h⟩ := Option.bind_eq_some_iff.mp h
  obtain ⟨q11, e11, h⟩ := Option.bind_eq_some_iff.mp h
  refine g_cVr (As := [.ref v8]) (rest := []) (n := 1) hx hb hml hown hts hK hlo hG (m_X8_lookAt l dd cT lo G v4 v8 e11) qM_X9_139 qI_yX8_lookAt qS_X8_yX8_lookAt qN_X8 qC_yX8_lookAt (by decide +kernel) ⟨Nat.le_of_ble_eq_true rfl, Nat.le_of_ble_eq_true rfl⟩ (by rfl) i11 rfl hl.1 rfl (Nat.le_of_ble_eq_true rfl) dX9_weakest_11 ⟨Nat.le_of_ble_eq_true rfl, Nat.le_of_ble_eq_true rfl⟩ (fun H locs hG => ?_)
  refine lv_astore_n (lv' := [(1, .ref q11.2), (0, .ref a0)]) hx hb dX9_weakest_14 rfl hl (by decide) rfl (fun ls hl => ?_)
  refine lv_iconst (v := (0 : Int32)) hx hb dX9_weakest_15 (by decide) ?_
  refine lv_istore_n (lv' := [(2, .int (0 : Int32)), (1, .ref q11.2), (0, .ref a0)]) hx hb dX9_weakest_16 rfl hl (by decide) rfl (fun ls hl => ?_)
  refine lv_iconst (v := (0 : Int32)) hx hb dX9_weakest_17 (by decide) ?_
  refine lv_istore_n (lv' := [(3, .int (0 : Int32)), (2, .int (0 : Int32)), (1, .ref q11.2), (0, .ref a0)]) hx hb dX9_weakest_18 rfl hl (by decide) rfl (fun ls hl => ?_)
  refine lv_iconst (v := (0 : Int32)) hx hb dX9_weakest_19 (by decide) ?_
  refine lv_istore (lv' := [(4, .int (0 : Int32)), (3, .int (0 : Int32)), (2, .int (0 : Int32)), (1, .ref q11.2), (0, .ref a0)]) hx hb dX9_weakest_20 hl (by decide) rfl (fun ls hl => ?_)
  exact h22 g_N q11.1 a0 q11.2 (0 : Int32) (0 : Int32) (0 : Int32) _ _ hG _ (lv_sub hl [4, 3, 2, 1, 0] rfl) h
set_option maxRecDepth 20000 in
set_option maxHeartbeats 4000000 in
theorem m_X1_reasonAgainstStatement (l : Launch) (dd : va_G) (cT : Nat → ClassId) (lo : Nat → Prop) (G : gH) (a0 : Nat) (a1 : Nat) (x2 : Int32) {rz : Int32} {Gz : gH} (h : f_X1_reasonAgainstStatement G a0 a1 x2 = some (Gz, rz)) : Met l yX1_reasonAgainstStatement (Cond.code yX1_reasonAgainstStatement cX1_reasonAgainstStatement 3 (some .int) :: wsL_law) (g_rm 5 116 0 0) (va_Pc [.ref a0, .ref a1, .int x2] (g_Pre lo dd cT G)) (va_Qi (g_is rz Gz) (g_Pre lo dd cT) (g_A lo)) 0 0 (g_A lo) := by
  refine g_start RX1 rfl (by decide) (Nat.le_of_ble_eq_true rfl) ?_
  intro p e s m below meth c hx hb hr hlocks hml hown hnm hts hK hG hlo ls hl
  have hl : lv_has ls 3 [(0, .ref a0), (1, .ref a1), (2, .int x2)] := hl
  have hG : g_S lo dd cT s s.heap [] G := hG
  unfold f_X1_reasonAgainstStatement at h
  refine lv_aload_n hx hb dX1_reasonAgainstStatement_0 rfl (lv_at hl 1 rfl) ?_
  refine lv_iload_n hx hb dX1_reasonAgainstStatement_1 rfl (lv_at hl 2 rfl) ?_
  obtain ⟨u2, i2, h⟩ := Option.bind_eq_some_iff.mp h
  obtain ⟨v2, e2, h⟩ := Option.bind_eq_some_iff.mp h
  refine g_cVi (As := [.int x2]) (rest := []) (n := 1) hx hb hml hown hts hK hlo hG (m_X4_kindOf l dd cT lo G a1 x2 e2) qM_X1_73 qI_yX4_kindOf qS_X4_yX4_kindOf qN_X4 qC_yX4_kindOf (by decide +kernel) ⟨Nat.le_of_ble_eq_true rfl, Nat.le_of_ble_eq_true rfl⟩ (by rfl) i2 rfl hl.1 rfl (Nat.le_of_ble_eq_true rfl) dX1_reasonAgainstStatement_2 ⟨Nat.le_of_ble_eq_true rfl, Nat.le_of_ble_eq_true rfl⟩ (fun H locs hG => ?_)
  by_cases c5_0 : v2 = (1 : Int32)
  · rw [if_pos c5_0] at h
    refine g_swIn (tgt := 32) hx hb dX1_reasonAgainstStatement_5 (1 : Int32) c5_0 (by decide) (by decide) 27 (by decide) (by decide) ?_
    refine lv_aload_n hx hb dX1_reasonAgainstStatement_32 rfl (lv_at hl 0 rfl) ?_
    refine lv_aload_n hx hb dX1_reasonAgainstStatement_33 rfl (lv_at hl 1 rfl) ?_
    refine lv_iload_n hx hb dX1_reasonAgainstStatement_34 rfl (lv_at hl 2 rfl) ?_
    obtain ⟨u35, i35, h⟩ := Option.bind_eq_some_iff.mp h
    obtain ⟨v35, e35, h⟩ := Option.bind_eq_some_iff.mp h
    refine g_cVi (As := [.int x2]) (rest := [.ref a0]) (n := 1) hx hb hml hown hts hK hlo hG (m_X4_targetOf l dd cT lo G a1 x2 e35) qM_X1_77 qI_yX4_targetOf qS_X4_yX4_targetOf qN_X4 qC_yX4_targetOf (by decide +kernel) ⟨Nat.le_of_ble_eq_true rfl, Nat.le_of_ble_eq_true rfl⟩ (by rfl) i35 rfl hl.1 rfl (Nat.le_of_ble_eq_true rfl) dX1_reasonAgainstStatement_35 ⟨Nat.le_of_ble_eq_true rfl, Nat.le_of_ble_eq_true rfl⟩ (fun H locs hG => ?_)
    refine lv_aload_n hx hb dX1_reasonAgainstStatement_38 rfl (lv_at hl 1 rfl) ?_
    refine lv_iload_n hx hb dX1_reasonAgainstStatement_39 rfl (lv_at hl 2 rfl) ?_
    obtain ⟨u40, i40, h⟩ := Option.bind_eq_some_iff.mp h
    obtain ⟨v40, e40, h⟩ := Option.bind_eq_some_iff.mp h
    refine g_cVi (As := [.int x2]) (rest := [.int v35, .ref a0]) (n := 1) hx hb hml hown hts hK hlo hG (m_X4_lengthOf l dd cT lo G a1 x2 e40) qM_X1_80 qI_yX4_lengthOf qS_X4_yX4_lengthOf qN_X4 qC_yX4_lengthOf (by decide +kernel) ⟨Nat.le_of_ble_eq_true rfl, Nat.le_of_ble_eq_true rfl⟩ (by rfl) i40 rfl hl.1 rfl (Nat.le_of_ble_eq_true rfl) dX1_reasonAgainstStatement_40 ⟨Nat.le_of_ble_eq_true rfl, Nat.le_of_ble_eq_true rfl⟩ (fun H locs hG => ?_)
    obtain ⟨u43, i43, h⟩ := Option.bind_eq_some_iff.mp h
    obtain ⟨v43, e43, h⟩ := Option.bind_eq_some_iff.mp h
    refine g_cVi (As := [.int v35, .int v40]) (rest := []) (n := 2) hx hb hml hown hts hK hlo hG (m_X1_reasonAgainstWrite l dd cT lo G a0 v35 v40 e43) qM_X1_83 qI_yX1_reasonAgainstWrite qS_X1_yX1_reasonAgainstWrite qN_X1 qC_yX1_reasonAgainstWrite (by decide +kernel) ⟨Nat.le_of_ble_eq_true rfl, Nat.le_of_ble_eq_true rfl⟩ (by rfl) i43 rfl hl.1 rfl (Nat.le_of_ble_eq_true rfl) dX1_reasonAgainstStatement_43 ⟨Nat.le_of_ble_eq_true rfl, Nat.le_of_ble_eq_true rfl⟩ (fun H locs hG => ?_)
    obtain ⟨rfl, rfl⟩ := Prod.mk.inj (Option.some.inj h)
    exact g_iret hx hb hr hlocks hK hlo hG ⟨rfl, rfl⟩ dX1_reasonAgainstStatement_46
  rw [if_neg c5_0] at h
  by_cases c5_1 : v2 = (2 : Int32)
  · rw [if_pos c5_1] at h
    refine g_swIn (tgt := 47) hx hb dX1_reasonAgainstStatement_5 (2 : Int32) c5_1 (by decide) (by decide) 42 (by decide) (by decide) ?_
    refine lv_aload_n hx hb dX1_reasonAgainstStatement_47 rfl (lv_at hl 0 rfl) ?_
    refine lv_aload_n hx hb dX1_reasonAgainstStatement_48 rfl (lv_at hl 1 rfl) ?_
    refine lv_iload_n hx hb dX1_reasonAgainstStatement_49 rfl (lv_at hl 2 rfl) ?_
    obtain ⟨u50, i50, h⟩ := Option.bind_eq_some_iff.mp h
    obtain ⟨v50, e50, h⟩ := Option.bind_eq_some_iff.mp h
    refine g_cVi (As := [.int x2]) (rest := [.ref a0]) (n := 1) hx hb hml hown hts hK hlo hG (m_X4_targetOf l dd cT lo G a1 x2 e50) qM_X1_77 qI_yX4_targetOf qS_X4_yX4_targetOf qN_X4 qC_yX4_targetOf (by decide +kernel) ⟨Nat.le_of_ble_eq_true rfl, Nat.le_of_ble_eq_true rfl⟩ (by rfl) i50 rfl hl.1 rfl (Nat.le_of_ble_eq_true rfl) dX1_reasonAgainstStatement_50 ⟨Nat.le_of_ble_eq_true rfl, Nat.le_of_ble_eq_true rfl⟩ (fun H locs hG => ?_)
    obtain ⟨u53, i53, h⟩ := Option.bind_eq_some_iff.mp h
    obtain ⟨q53, e53, h⟩ := Option.bind_eq_some_iff.mp h
    refine g_cVi (As := [.int v50]) (rest := []) (n := 1) hx hb hml hown hts hK hlo hG (m_X1_reasonAgainstErase l dd cT lo G a0 v50 e53) qM_X1_87 qI_yX1_reasonAgainstErase qS_X1_yX1_reasonAgainstErase qN_X1 qC_yX1_reasonAgainstErase (by decide +kernel) ⟨Nat.le_of_ble_eq_true rfl, Nat.le_of_ble_eq_true rfl⟩ (by rfl) i53 rfl hl.1 rfl (Nat.le_of_ble_eq_true rfl) dX1_reasonAgainstStatement_53 ⟨Nat.le_of_ble_eq_true rfl, Nat.le_of_ble_eq_true rfl⟩ (fun H locs hG => ?_)
    obtain ⟨rfl, rfl⟩ := Prod.mk.inj (Option.some.inj h)
    exact g_iret hx hb hr hlocks hK hlo hG ⟨rfl, rfl⟩ dX1_reasonAgainstStatement_56
  rw [if_neg c5_1] at h
  by_cases c5_2 : v2 = (3 : Int32)
  · rw [if_pos c5_2] at h
    refine g_swIn (tgt := 57) hx hb dX1_reasonAgainstStatement_5 (3 : Int32) c5_2 (by decide) (by decide) 52 (by decide) (by decide) ?_
    refine lv_aload_n hx hb dX1_reasonAgainstStatement_57 rfl (lv_at hl 0 rfl) ?_
    obtain ⟨u58, i58, h⟩ := Option.bind_eq_some_iff.mp h
    obtain ⟨v58, e58, h⟩ := Option.bind_eq_some_iff.mp h
    refine g_cVi (As := []) (rest := []) (n := 0) hx hb hml hown hts hK hlo hG (m_X1_reasonAgainstClose l dd cT lo G a0 e58) qM_X1_90 qI_yX1_reasonAgainstClose qS_X1_yX1_reasonAgainstClose qN_X1 qC_yX1_reasonAgainstClose (by decide +kernel) ⟨Nat.le_of_ble_eq_true rfl, Nat.le_of_ble_eq_true rfl⟩ (by rfl) i58 rfl hl.1 rfl (Nat.le_of_ble_eq_true rfl) dX1_reasonAgainstStatement_58 ⟨Nat.le_of_ble_eq_true rfl, Nat.le_of_ble_eq_true rfl⟩ (fun H locs hG => ?_)
    obtain ⟨rfl, rfl⟩ := Prod.mk.inj (Option.some.inj h)
    exact g_iret hx hb hr hlocks hK hlo hG ⟨rfl, rfl⟩ dX1_reasonAgainstStatement_61
  rw [if_neg c5_2] at h
  have z5 : v2.toInt < 1 ∨ 3 < v2.toInt := by
    have y0 : ¬ v2.toInt = 1 := fun w => c5_0 (Int32.toInt_inj.mp (by rw [w]; rfl))
    have y1 : ¬ v2.toInt = 2 := fun w => c5_1 (Int32.toInt_inj.mp (by rw [w]; rfl))
    have y2 : ¬ v2.toInt = 3 := fun w => c5_2 (Int32.toInt_inj.mp (by rw [w]; rfl))
    omega
  refine lv_tableOut (tgt := 62) hx hb dX1_reasonAgainstStatement_5 z5 (by decide) ?_
  refine lv_iconst (v := (0 : Int32)) hx hb dX1_reasonAgainstStatement_62 (by decide) ?_
  obtain ⟨rfl, rfl⟩ := Prod.mk.inj (Option.some.inj h)
  exact g_iret hx hb hr hlocks hK hlo hG ⟨rfl, rfl⟩ dX1_reasonAgainstStatement_63
set_option maxRecDepth 20000 in
set_option maxHeartbeats 4000000 in
theorem m_X1_doStatement (l : Launch) (dd : va_G) (cT : Nat → ClassId) (lo : Nat → Prop) (G : gH) (a0 : Nat) (a1 : Nat) (x2 : Int32) {Gz : gH} (h : f_X1_doStatement G a0 a1 x2 = some Gz) : Met l yX1_doStatement (Cond.code yX1_doStatement cX1_doStatement 3 none :: wsL_law) (g_rm 5 117 0 0) (va_Pc [.ref a0, .ref a1, .int x2] (g_Pre lo dd cT G)) (va_Qv (g_iv Gz) (g_Pre lo dd cT) (g_A lo)) 0 0 (g_A lo) := by
  refine g_start RX1 rfl (by decide) (Nat.le_of_ble_eq_true rfl) ?_
  intro p e s m below meth c hx hb hr hlocks hml hown hnm hts hK hG hlo ls hl
  have hl : lv_has ls 3 [(0, .ref a0), (1, .ref a1), (2, .int x2)] := hl
  have hG : g_S lo dd cT s s.heap [] G := hG
  unfold f_X1_doStatement at h
  refine lv_aload_n hx hb dX1_doStatement_0 rfl (lv_at hl 1 rfl) ?_
  refine lv_iload_n hx hb dX1_doStatement_1 rfl (lv_at hl 2 rfl) ?_
  obtain ⟨u2, i2, h⟩ := Option.bind_eq_some_iff.mp h
  obtain ⟨v2, e2, h⟩ := Option.bind_eq_some_iff.mp h
  refine g_cVi (As := [.int x2]) (rest := []) (n := 1) hx hb hml hown hts hK hlo hG (m_X4_kindOf l dd cT lo G a1 x2 e2) qM_X1_73 qI_yX4_kindOf qS_X4_yX4_kindOf qN_X4 qC_yX4_kindOf (by decide +kernel) ⟨Nat.le_of_ble_eq_true rfl, Nat.le_of_ble_eq_true rfl⟩ (by rfl) i2 rfl hl.1 rfl (Nat.le_of_ble_eq_true rfl) dX1_doStatement_2 ⟨Nat.le_of_ble_eq_true rfl, Nat.le_of_ble_eq_true rfl⟩ (fun H locs hG => ?_)
  by_cases c5_0 : v2 = (1 : Int32)
  · rw [if_pos c5_0] at h
    refine g_swIn (tgt := 32) hx hb dX1_doStatement_5 (1 : Int32) c5_0 (by decide) (by decide) 27 (by decide) (by decide) ?_
    refine lv_aload_n hx hb dX1_doStatement_32 rfl (lv_at hl 0 rfl) ?_
    refine lv_aload_n hx hb dX1_doStatement_33 rfl (lv_at hl 1 rfl) ?_
    refine lv_iload_n hx hb dX1_doStatement_34 rfl (lv_at hl 2 rfl) ?_
    obtain ⟨u35, i35, h⟩ := Option.bind_eq_some_iff.mp h
    obtain ⟨v35, e35, h⟩ := Option.bind_eq_some_iff.mp h
    refine g_cVi (As := [.int x2]) (rest := [.ref a0]) (n := 1) hx hb hml hown hts hK hlo hG (m_X4_targetOf l dd cT lo G a1 x2 e35) qM_X1_77 qI_yX4_targetOf qS_X4_yX4_targetOf qN_X4 qC_yX4_targetOf (by decide +kernel) ⟨Nat.le_of_ble_eq_true rfl, Nat.le_of_ble_eq_true rfl⟩ (by rfl) i35 rfl hl.1 rfl (Nat.le_of_ble_eq_true rfl) dX1_doStatement_35 ⟨Nat.le_of_ble_eq_true rfl, Nat.le_of_ble_eq_true rfl⟩ (fun H locs hG => ?_)
    refine lv_aload_n hx hb dX1_doStatement_38 rfl (lv_at hl 1 rfl) ?_
    refine lv_iload_n hx hb dX1_doStatement_39 rfl (lv_at hl 2 rfl) ?_
    obtain ⟨u40, i40, h⟩ := Option.bind_eq_some_iff.mp h
    obtain ⟨v40, e40, h⟩ := Option.bind_eq_some_iff.mp h
    refine g_cVi (As := [.int x2]) (rest := [.int v35, .ref a0]) (n := 1) hx hb hml hown hts hK hlo hG (m_X4_lengthOf l dd cT lo G a1 x2 e40) qM_X1_80 qI_yX4_lengthOf qS_X4_yX4_lengthOf qN_X4 qC_yX4_lengthOf (by decide +kernel) ⟨Nat.le_of_ble_eq_true rfl, Nat.le_of_ble_eq_true rfl⟩ (by rfl) i40 rfl hl.1 rfl (Nat.le_of_ble_eq_true rfl) dX1_doStatement_40 ⟨Nat.le_of_ble_eq_true rfl, Nat.le_of_ble_eq_true rfl⟩ (fun H locs hG => ?_)
    refine lv_aload_n hx hb dX1_doStatement_43 rfl (lv_at hl 1 rfl) ?_
    refine lv_iload_n hx hb dX1_doStatement_44 rfl (lv_at hl 2 rfl) ?_
    obtain ⟨u45, i45, h⟩ := Option.bind_eq_some_iff.mp h
    obtain ⟨v45, e45, h⟩ := Option.bind_eq_some_iff.mp h
    refine g_cVi (As := [.int x2]) (rest := [.int v40, .int v35, .ref a0]) (n := 1) hx hb hml hown hts hK hlo hG (m_X4_tagOf l dd cT lo G a1 x2 e45) qM_X1_94 qI_yX4_tagOf qS_X4_yX4_tagOf qN_X4 qC_yX4_tagOf (by decide +kernel) ⟨Nat.le_of_ble_eq_true rfl, Nat.le_of_ble_eq_true rfl⟩ (by rfl) i45 rfl hl.1 rfl (Nat.le_of_ble_eq_true rfl) dX1_doStatement_45 ⟨Nat.le_of_ble_eq_true rfl, Nat.le_of_ble_eq_true rfl⟩ (fun H locs hG => ?_)
    obtain ⟨u48, i48, h⟩ := Option.bind_eq_some_iff.mp h
    obtain ⟨q48, e48, h⟩ := Option.bind_eq_some_iff.mp h
    refine g_cVi (As := [.int v35, .int v40, .int v45]) (rest := []) (n := 3) hx hb hml hown hts hK hlo hG (m_X1_writeVersion l dd cT lo G a0 v35 v40 v45 e48) qM_X1_97 qI_yX1_writeVersion qS_X1_yX1_writeVersion qN_X1 qC_yX1_writeVersion (by decide +kernel) ⟨Nat.le_of_ble_eq_true rfl, Nat.le_of_ble_eq_true rfl⟩ (by rfl) i48 rfl hl.1 rfl (Nat.le_of_ble_eq_true rfl) dX1_doStatement_48 ⟨Nat.le_of_ble_eq_true rfl, Nat.le_of_ble_eq_true rfl⟩ (fun H locs hG => ?_)
    refine lv_pop hx hb dX1_doStatement_51 rfl ?_
    refine lv_goto (tgt := 87) hx hb dX1_doStatement_52 (by decide) ?_
    obtain rfl := Option.some.inj h
    exact g_vret hx hb hr hlocks hK hlo hG rfl dX1_doStatement_87
  rw [if_neg c5_0] at h
  by_cases c5_1 : v2 = (2 : Int32)
  · rw [if_pos c5_1] at h
    refine g_swIn (tgt := 55) hx hb dX1_doStatement_5 (2 : Int32) c5_1 (by decide) (by decide) 50 (by decide) (by decide) ?_
    refine lv_aload_n hx hb dX1_doStatement_55 rfl (lv_at hl 0 rfl) ?_
    refine lv_aload_n hx hb dX1_doStatement_56 rfl (lv_at hl 1 rfl) ?_
    refine lv_iload_n hx hb dX1_doStatement_57 rfl (lv_at hl 2 rfl) ?_
    obtain ⟨u58, i58, h⟩ := Option.bind_eq_some_iff.mp h
    obtain ⟨v58, e58, h⟩ := Option.bind_eq_some_iff.mp h
    refine g_cVi (As := [.int x2]) (rest := [.ref a0]) (n := 1) hx hb hml hown hts hK hlo hG (m_X4_targetOf l dd cT lo G a1 x2 e58) qM_X1_77 qI_yX4_targetOf qS_X4_yX4_targetOf qN_X4 qC_yX4_targetOf (by decide +kernel) ⟨Nat.le_of_ble_eq_true rfl, Nat.le_of_ble_eq_true rfl⟩ (by rfl) i58 rfl hl.1 rfl (Nat.le_of_ble_eq_true rfl) dX1_doStatement_58 ⟨Nat.le_of_ble_eq_true rfl, Nat.le_of_ble_eq_true rfl⟩ (fun H locs hG => ?_)
    obtain ⟨u61, i61, h⟩ := Option.bind_eq_some_iff.mp h
    obtain ⟨G61, e61, h⟩ := Option.bind_eq_some_iff.mp h
    refine g_cVv (As := [.int v58]) (rest := []) (n := 1) hx hb hml hown hts hK hlo hG (m_X1_eraseFile l dd cT lo G a0 v58 e61) qM_X1_101 qI_yX1_eraseFile qS_X1_yX1_eraseFile qN_X1 qC_yX1_eraseFile (by decide +kernel) ⟨Nat.le_of_ble_eq_true rfl, Nat.le_of_ble_eq_true rfl⟩ (by rfl) i61 rfl hl.1 rfl (Nat.le_of_ble_eq_true rfl) dX1_doStatement_61 ⟨Nat.le_of_ble_eq_true rfl, Nat.le_of_ble_eq_true rfl⟩ (fun H locs hG => ?_)
    refine lv_goto (tgt := 87) hx hb dX1_doStatement_64 (by decide) ?_
    obtain rfl := Option.some.inj h
    exact g_vret hx hb hr hlocks hK hlo hG rfl dX1_doStatement_87
  rw [if_neg c5_1] at h
  by_cases c5_2 : v2 = (3 : Int32)
  · rw [if_pos c5_2] at h
    refine g_swIn (tgt := 67) hx hb dX1_doStatement_5 (3 : Int32) c5_2 (by decide) (by decide) 62 (by decide) (by decide) ?_
    refine lv_aload_n hx hb dX1_doStatement_67 rfl (lv_at hl 0 rfl) ?_
    obtain ⟨u68, i68, h⟩ := Option.bind_eq_some_iff.mp h
    obtain ⟨q68, e68, h⟩ := Option.bind_eq_some_iff.mp h
    refine g_cVi (As := []) (rest := []) (n := 0) hx hb hml hown hts hK hlo hG (m_X1_closeSession l dd cT lo G a0 e68) qM_X1_105 qI_yX1_closeSession qS_X1_yX1_closeSession qN_X1 qC_yX1_closeSession (by decide +kernel) ⟨Nat.le_of_ble_eq_true rfl, Nat.le_of_ble_eq_true rfl⟩ (by rfl) i68 rfl hl.1 rfl (Nat.le_of_ble_eq_true rfl) dX1_doStatement_68 ⟨Nat.le_of_ble_eq_true rfl, Nat.le_of_ble_eq_true rfl⟩ (fun H locs hG => ?_)
    refine lv_pop hx hb dX1_doStatement_71 rfl ?_
    refine lv_goto (tgt := 87) hx hb dX1_doStatement_72 (by decide) ?_
    obtain rfl := Option.some.inj h
    exact g_vret hx hb hr hlocks hK hlo hG rfl dX1_doStatement_87
  rw [if_neg c5_2] at h
  have z5 : v2.toInt < 1 ∨ 3 < v2.toInt := by
    have y0 : ¬ v2.toInt = 1 := fun w => c5_0 (Int32.toInt_inj.mp (by rw [w]; rfl))
    have y1 : ¬ v2.toInt = 2 := fun w => c5_1 (Int32.toInt_inj.mp (by rw [w]; rfl))
    have y2 : ¬ v2.toInt = 3 := fun w => c5_2 (Int32.toInt_inj.mp (by rw [w]; rfl))
    omega
  refine lv_tableOut (tgt := 75) hx hb dX1_doStatement_5 z5 (by decide) ?_
  refine lv_aload_n hx hb dX1_doStatement_75 rfl (lv_at hl 0 rfl) ?_
  obtain ⟨v76, e76, h⟩ := Option.bind_eq_some_iff.mp h
  refine g_getr hx hb hts inlX1 hown hK hG (by rfl) 0 (by decide) qF_X1_12 e76 dX1_doStatement_76 ?_
  refine lv_aload_n hx hb dX1_doStatement_79 rfl (lv_at hl 1 rfl) ?_
  refine lv_iload_n hx hb dX1_doStatement_80 rfl (lv_at hl 2 rfl) ?_
  obtain ⟨u81, i81, h⟩ := Option.bind_eq_some_iff.mp h
  obtain ⟨v81, e81, h⟩ := Option.bind_eq_some_iff.mp h
  refine g_cVi (As := [.int x2]) (rest := [.ref v76]) (n := 1) hx hb hml hown hts hK hlo hG (m_X4_targetOf l dd cT lo G a1 x2 e81) qM_X1_77 qI_yX4_targetOf qS_X4_yX4_targetOf qN_X4 qC_yX4_targetOf (by decide +kernel) ⟨Nat.le_of_ble_eq_true rfl, Nat.le_of_ble_eq_true rfl⟩ (by rfl) i81 rfl hl.1 rfl (Nat.le_of_ble_eq_true rfl) dX1_doStatement_81 ⟨Nat.le_of_ble_eq_true rfl, Nat.le_of_ble_eq_true rfl⟩ (fun H locs hG => ?_)
  obtain ⟨u84, i84, h⟩ := Option.bind_eq_some_iff.mp h
  obtain ⟨G84, e84, h⟩ := Option.bind_eq_some_iff.mp h
  refine g_cVv (As := [.int v81]) (rest := []) (n := 1) hx hb hml hown hts hK hlo hG (m_X0_makeBad l dd cT lo G v76 v81 e84) qM_X1_108 qI_yX0_makeBad qS_X0_yX0_makeBad qN_X0 qC_yX0_makeBad (by decide +kernel) ⟨Nat.le_of_ble_eq_true rfl, Nat.le_of_ble_eq_true rfl⟩ (by rfl) i84 rfl hl.1 rfl (Nat.le_of_ble_eq_true rfl) dX1_doStatement_84 ⟨Nat.le_of_ble_eq_true rfl, Nat.le_of_ble_eq_true rfl⟩ (fun H locs hG => ?_)
  obtain rfl := Option.some.inj h
  exact g_vret hx hb hr hlocks hK hlo hG rfl dX1_doStatement_87

/-! Lifted methods, by program (wip/whole/tools/lift.py). -/
set_option maxRecDepth 20000 in
set_option maxHeartbeats 4000000 in
theorem m_X0_hasRoomFor (l : Launch) (dd : va_G) (cT : Nat → ClassId) (lo : Nat → Prop) (G : gH) (a0 : Nat) (x1 : Int32) {rz : Int32} (h : f_X0_hasRoomFor G a0 x1 = some rz) : Met l yX0_hasRoomFor (Cond.code yX0_hasRoomFor cX0_hasRoomFor 2 (some .boolean) :: wsL_law) (g_rm 0 0 0 0) (va_Pc [.ref a0, .int x1] (g_Pre lo dd cT G)) (va_Qi (g_is rz G) (g_Pre lo dd cT) (g_A lo)) 0 0 (g_A lo) := by
  refine g_start RX0 rfl (by decide) (Nat.le_of_ble_eq_true rfl) ?_
  intro p e s m below meth c hx hb hr hlocks hml hown hnm hts hK hG hlo ls hl
  have hl : lv_has ls 2 [(0, .ref a0), (1, .int x1)] := hl
  have hG : g_S lo dd cT s s.heap [] G := hG
  unfold f_X0_hasRoomFor at h
  refine lv_aload_n hx hb dX0_hasRoomFor_0 rfl (lv_at hl 0 rfl) ?_
  obtain ⟨v1, e1, h⟩ := Option.bind_eq_some_iff.mp h
  refine g_geti hx hb hts inlX0 hown hK hG (by rfl) 2 (by decide) qF_X0_18 e1 dX0_hasRoomFor_1 ?_
  refine lv_iload_n hx hb dX0_hasRoomFor_4 rfl (lv_at hl 1 rfl) ?_
  refine lv_iadd hx hb dX0_hasRoomFor_5 ?_
  refine lv_aload_n hx hb dX0_hasRoomFor_6 rfl (lv_at hl 0 rfl) ?_
  obtain ⟨v7, e7, h⟩ := Option.bind_eq_some_iff.mp h
  refine g_geti hx hb hts inlX0 hown hK hG (by rfl) 1 (by decide) qF_X0_15 e7 dX0_hasRoomFor_7 ?_
  refine lv_icmp_gt (tgt := 17) hx hb dX0_hasRoomFor_10 (by decide) (fun c10 => ?_) (fun c10 => ?_)
  · rw [if_pos c10] at h
    refine lv_iconst (v := (0 : Int32)) hx hb dX0_hasRoomFor_17 (by decide) ?_
    obtain rfl := Option.some.inj h
    exact g_zret hx hb hr hlocks hK hlo hG rfl ⟨rfl, rfl⟩ dX0_hasRoomFor_18
  · rw [if_neg c10] at h
    refine lv_iconst (v := (1 : Int32)) hx hb dX0_hasRoomFor_13 (by decide) ?_
    refine lv_goto (tgt := 18) hx hb dX0_hasRoomFor_14 (by decide) ?_
    obtain rfl := Option.some.inj h
    exact g_zret hx hb hr hlocks hK hlo hG rfl ⟨rfl, rfl⟩ dX0_hasRoomFor_18
set_option maxRecDepth 20000 in
set_option maxHeartbeats 4000000 in
theorem m_X2_clear (l : Launch) (dd : va_G) (cT : Nat → ClassId) (lo : Nat → Prop) (G : gH) (a0 : Nat) {Gz : gH} (h : f_X2_clear G a0 = some Gz) : Met l yX2_clear (Cond.code yX2_clear cX2_clear 1 none :: wsL_law) (g_rm 0 0 0 0) (va_Pc [.ref a0] (g_Pre lo dd cT G)) (va_Qv (g_iv Gz) (g_Pre lo dd cT) (g_A lo)) 0 0 (g_A lo) := by
  refine g_start RX2 rfl (by decide) (Nat.le_of_ble_eq_true rfl) ?_
  intro p e s m below meth c hx hb hr hlocks hml hown hnm hts hK hG hlo ls hl
  have hl : lv_has ls 1 [(0, .ref a0)] := hl
  have hG : g_S lo dd cT s s.heap [] G := hG
  unfold f_X2_clear at h
  refine lv_aload_n hx hb dX2_clear_0 rfl (lv_at hl 0 rfl) ?_
  refine lv_iconst (v := (0 : Int32)) hx hb dX2_clear_1 (by decide) ?_
  obtain ⟨G2, i2, h⟩ := Option.bind_eq_some_iff.mp h
  refine g_putv hx hb hts inlX2 tyX2 tyX2_ok nmX2 hown hK hG (by rfl) 0 (by decide) qF_X2_9 rfl rfl rfl rfl i2 dX2_clear_2 (fun H locs hG => ?_)
  refine lv_aload_n hx hb dX2_clear_5 rfl (lv_at hl 0 rfl) ?_
  refine lv_iconst (v := (0 : Int32)) hx hb dX2_clear_6 (by decide) ?_
  obtain ⟨G7, i7, h⟩ := Option.bind_eq_some_iff.mp h
  refine g_putv hx hb hts inlX2 tyX2 tyX2_ok nmX2 hown hK hG (by rfl) 1 (by decide) qF_X2_15 rfl rfl rfl rfl i7 dX2_clear_7 (fun H locs hG => ?_)
  obtain rfl := Option.some.inj h
  exact g_vret hx hb hr hlocks hK hlo hG rfl dX2_clear_10
set_option maxRecDepth 20000 in
set_option maxHeartbeats 4000000 in
theorem m_X3_hasRoom (l : Launch) (dd : va_G) (cT : Nat → ClassId) (lo : Nat → Prop) (G : gH) (a0 : Nat) (x1 : Int32) {rz : Int32} (h : f_X3_hasRoom G a0 x1 = some rz) : Met l yX3_hasRoom (Cond.code yX3_hasRoom cX3_hasRoom 2 (some .boolean) :: wsL_law) (g_rm 0 0 0 0) (va_Pc [.ref a0, .int x1] (g_Pre lo dd cT G)) (va_Qi (g_is rz G) (g_Pre lo dd cT) (g_A lo)) 0 0 (g_A lo) := by
  refine g_start RX3 rfl (by decide) (Nat.le_of_ble_eq_true rfl) ?_
  intro p e s m below meth c hx hb hr hlocks hml hown hnm hts hK hG hlo ls hl
  have hl : lv_has ls 2 [(0, .ref a0), (1, .int x1)] := hl
  have hG : g_S lo dd cT s s.heap [] G := hG
  unfold f_X3_hasRoom at h
  refine lv_aload_n hx hb dX3_hasRoom_0 rfl (lv_at hl 0 rfl) ?_
  obtain ⟨v1, e1, h⟩ := Option.bind_eq_some_iff.mp h
  refine g_geti hx hb hts inlX3 hown hK hG (by rfl) 1 (by decide) qF_X3_15 e1 dX3_hasRoom_1 ?_
  refine lv_iload_n hx hb dX3_hasRoom_4 rfl (lv_at hl 1 rfl) ?_
  refine lv_iadd hx hb dX3_hasRoom_5 ?_
  refine lv_sipush (v := (600 : Int32)) hx hb dX3_hasRoom_6 (by decide) ?_
  refine lv_icmp_gt (tgt := 16) hx hb dX3_hasRoom_9 (by decide) (fun c9 => ?_) (fun c9 => ?_)
  · rw [if_pos c9] at h
    refine lv_iconst (v := (0 : Int32)) hx hb dX3_hasRoom_16 (by decide) ?_
    obtain rfl := Option.some.inj h
    exact g_zret hx hb hr hlocks hK hlo hG rfl ⟨rfl, rfl⟩ dX3_hasRoom_17
  · rw [if_neg c9] at h
    refine lv_iconst (v := (1 : Int32)) hx hb dX3_hasRoom_12 (by decide) ?_
    refine lv_goto (tgt := 17) hx hb dX3_hasRoom_13 (by decide) ?_
    obtain rfl := Option.some.inj h
    exact g_zret hx hb hr hlocks hK hlo hG rfl ⟨rfl, rfl⟩ dX3_hasRoom_17
set_option maxRecDepth 20000 in
set_option maxHeartbeats 4000000 in
theorem m_X4_fail (l : Launch) (dd : va_G) (cT : Nat → ClassId) (lo : Nat → Prop) (G : gH) (a0 : Nat) (x1 : Int32) {rz : Int32} {Gz : gH} (h : f_X4_fail G a0 x1 = some (Gz, rz)) : Met l yX4_fail (Cond.code yX4_fail cX4_fail 2 (some .boolean) :: wsL_law) (g_rm 0 0 0 0) (va_Pc [.ref a0, .int x1] (g_Pre lo dd cT G)) (va_Qi (g_is rz Gz) (g_Pre lo dd cT) (g_A lo)) 0 0 (g_A lo) := by
  refine g_start RX4 rfl (by decide) (Nat.le_of_ble_eq_true rfl) ?_
  intro p e s m below meth c hx hb hr hlocks hml hown hnm hts hK hG hlo ls hl
  have hl : lv_has ls 2 [(0, .ref a0), (1, .int x1)] := hl
  have hG : g_S lo dd cT s s.heap [] G := hG
  unfold f_X4_fail at h
  refine lv_aload_n hx hb dX4_fail_0 rfl (lv_at hl 0 rfl) ?_
  refine lv_iload_n hx hb dX4_fail_1 rfl (lv_at hl 1 rfl) ?_
  obtain ⟨G2, i2, h⟩ := Option.bind_eq_some_iff.mp h
  refine g_putv hx hb hts inlX4 tyX4 tyX4_ok nmX4 hown hK hG (by rfl) 0 (by decide) qF_X4_9 rfl rfl rfl rfl i2 dX4_fail_2 (fun H locs hG => ?_)
  refine lv_iconst (v := (0 : Int32)) hx hb dX4_fail_5 (by decide) ?_
  obtain ⟨rfl, rfl⟩ := Prod.mk.inj (Option.some.inj h)
  exact g_zret hx hb hr hlocks hK hlo hG rfl ⟨rfl, rfl⟩ dX4_fail_6
set_option maxRecDepth 20000 in
set_option maxHeartbeats 4000000 in
theorem m_X5_latest (l : Launch) (dd : va_G) (cT : Nat → ClassId) (lo : Nat → Prop) (G : gH) (a0 : Nat) {rz : Int32} (h : f_X5_latest G a0 = some rz) : Met l yX5_latest (Cond.code yX5_latest cX5_latest 1 (some .int) :: wsL_law) (g_rm 0 0 0 0) (va_Pc [.ref a0] (g_Pre lo dd cT G)) (va_Qi (g_is rz G) (g_Pre lo dd cT) (g_A lo)) 0 0 (g_A lo) := by
  refine g_start RX5 rfl (by decide) (Nat.le_of_ble_eq_true rfl) ?_
  intro p e s m below meth c hx hb hr hlocks hml hown hnm hts hK hG hlo ls hl
  have hl : lv_has ls 1 [(0, .ref a0)] := hl
  have hG : g_S lo dd cT s s.heap [] G := hG
  unfold f_X5_latest at h
  refine lv_aload_n hx hb dX5_latest_0 rfl (lv_at hl 0 rfl) ?_
  obtain ⟨v1, e1, h⟩ := Option.bind_eq_some_iff.mp h
  refine g_geti hx hb hts inlX5 hown hK hG (by rfl) 0 (by decide) qF_X5_9 e1 dX5_latest_1 ?_
  refine lv_iconst (v := (1 : Int32)) hx hb dX5_latest_4 (by decide) ?_
  refine lv_isub hx hb dX5_latest_5 ?_
  obtain rfl := Option.some.inj h
  exact g_iret hx hb hr hlocks hK hlo hG ⟨rfl, rfl⟩ dX5_latest_6
set_option maxRecDepth 20000 in
set_option maxHeartbeats 4000000 in
theorem m_X9_oneIf (l : Launch) (dd : va_G) (cT : Nat → ClassId) (lo : Nat → Prop) (G : gH) (x0 : Int32) {rz : Int32} (h : f_X9_oneIf G x0 = some rz) : Met l yX9_oneIf (Cond.code yX9_oneIf cX9_oneIf 1 (some .int) :: wsL_law) (g_rm 0 0 0 0) (va_Pc [.int x0] (g_Pre lo dd cT G)) (va_Qi (g_is rz G) (g_Pre lo dd cT) (g_A lo)) 0 0 (g_A lo) := by
  refine g_start RX9 rfl (by decide) (Nat.le_of_ble_eq_true rfl) ?_
  intro p e s m below meth c hx hb hr hlocks hml hown hnm hts hK hG hlo ls hl
  have hl : lv_has ls 1 [(0, .int x0)] := hl
  have hG : g_S lo dd cT s s.heap [] G := hG
  unfold f_X9_oneIf at h
  refine lv_iload_n hx hb dX9_oneIf_0 rfl (lv_at hl 0 rfl) ?_
  refine lv_if_eq (tgt := 8) hx hb dX9_oneIf_1 (by decide) (fun c1 => ?_) (fun c1 => ?_)
  · rw [if_pos c1] at h
    refine lv_iconst (v := (0 : Int32)) hx hb dX9_oneIf_8 (by decide) ?_
    obtain rfl := Option.some.inj h
    exact g_iret hx hb hr hlocks hK hlo hG ⟨rfl, rfl⟩ dX9_oneIf_9
  · rw [if_neg c1] at h
    refine lv_iconst (v := (1 : Int32)) hx hb dX9_oneIf_4 (by decide) ?_
    refine lv_goto (tgt := 9) hx hb dX9_oneIf_5 (by decide) ?_
    obtain rfl := Option.some.inj h
    exact g_iret hx hb hr hlocks hK hlo hG ⟨rfl, rfl⟩ dX9_oneIf_9
set_option maxRecDepth 20000 in
set_option maxHeartbeats 4000000 in
theorem m_X9_withLetter (l : Launch) (dd : va_G) (cT : Nat → ClassId) (lo : Nat → Prop) (G : gH) (x0 : Int64) (x2 : Int32) {rz : Int64} (h : f_X9_withLetter G x0 x2 = some rz) : Met l yX9_withLetter (Cond.code yX9_withLetter cX9_withLetter 3 (some .long) :: wsL_law) (g_rm 0 0 0 0) (va_Pc [.long x0, .int x2] (g_Pre lo dd cT G)) (va_Ql (g_is rz G) (g_Pre lo dd cT) (g_A lo)) 0 0 (g_A lo) := by
  refine g_start RX9 rfl (by decide) (Nat.le_of_ble_eq_true rfl) ?_
  intro p e s m below meth c hx hb hr hlocks hml hown hnm hts hK hG hlo ls hl
  have hl : lv_has ls 3 [(0, .long x0), (2, .int x2)] := hl
  have hG : g_S lo dd cT s s.heap [] G := hG
  unfold f_X9_withLetter at h
  refine lv_lload_n hx hb dX9_withLetter_0 rfl (lv_at hl 0 rfl) ?_
  refine lv_ldc2 hx hb hown (hts _ qJ_X9_337) dX9_withLetter_1 ?_
  refine lv_lmul hx hb dX9_withLetter_4 ?_
  refine lv_iload_n hx hb dX9_withLetter_5 rfl (lv_at hl 1 rfl) ?_
  refine lv_bipush (v := (97 : Int32)) hx hb dX9_withLetter_6 (by decide) ?_
  refine lv_isub hx hb dX9_withLetter_8 ?_
  refine lv_iconst (v := (1 : Int32)) hx hb dX9_withLetter_9 (by decide) ?_
  refine lv_iadd hx hb dX9_withLetter_10 ?_
  refine lv_i2l hx hb dX9_withLetter_11 rfl ?_
  refine lv_ladd hx hb dX9_withLetter_12 ?_
  obtain rfl := Option.some.inj h
  exact g_jret hx hb hr hlocks hK hlo hG ⟨rfl, rfl⟩ dX9_withLetter_13
set_option maxRecDepth 20000 in
set_option maxHeartbeats 4000000 in
theorem m_X9_isLetter (l : Launch) (dd : va_G) (cT : Nat → ClassId) (lo : Nat → Prop) (G : gH) (x0 : Int32) {rz : Int32} (h : f_X9_isLetter G x0 = some rz) : Met l yX9_isLetter (Cond.code yX9_isLetter cX9_isLetter 1 (some .boolean) :: wsL_law) (g_rm 0 0 0 0) (va_Pc [.int x0] (g_Pre lo dd cT G)) (va_Qi (g_is rz G) (g_Pre lo dd cT) (g_A lo)) 0 0 (g_A lo) := by
  refine g_start RX9 rfl (by decide) (Nat.le_of_ble_eq_true rfl) ?_
  intro p e s m below meth c hx hb hr hlocks hml hown hnm hts hK hG hlo ls hl
  have hl : lv_has ls 1 [(0, .int x0)] := hl
  have hG : g_S lo dd cT s s.heap [] G := hG
  unfold f_X9_isLetter at h
  refine lv_iload_n hx hb dX9_isLetter_0 rfl (lv_at hl 0 rfl) ?_
  refine lv_bipush (v := (97 : Int32)) hx hb dX9_isLetter_1 (by decide) ?_
  refine lv_icmp_lt (tgt := 16) hx hb dX9_isLetter_3 (by decide) (fun c3 => ?_) (fun c3 => ?_)
  · rw [if_pos c3] at h
    refine lv_iconst (v := (0 : Int32)) hx hb dX9_isLetter_16 (by decide) ?_
    obtain rfl := Option.some.inj h
    exact g_zret hx hb hr hlocks hK hlo hG rfl ⟨rfl, rfl⟩ dX9_isLetter_17
  · rw [if_neg c3] at h
    refine lv_iload_n hx hb dX9_isLetter_6 rfl (lv_at hl 0 rfl) ?_
    refine lv_bipush (v := (122 : Int32)) hx hb dX9_isLetter_7 (by decide) ?_
    refine lv_icmp_gt (tgt := 16) hx hb dX9_isLetter_9 (by decide) (fun c9 => ?_) (fun c9 => ?_)
    · rw [if_pos c9] at h
      refine lv_iconst (v := (0 : Int32)) hx hb dX9_isLetter_16 (by decide) ?_
      obtain rfl := Option.some.inj h
      exact g_zret hx hb hr hlocks hK hlo hG rfl ⟨rfl, rfl⟩ dX9_isLetter_17
    · rw [if_neg c9] at h
      refine lv_iconst (v := (1 : Int32)) hx hb dX9_isLetter_12 (by decide) ?_
      refine lv_goto (tgt := 17) hx hb dX9_isLetter_13 (by decide) ?_
      obtain rfl := Option.some.inj h
      exact g_zret hx hb hr hlocks hK hlo hG rfl ⟨rfl, rfl⟩ dX9_isLetter_17
set_option maxRecDepth 20000 in
set_option maxHeartbeats 4000000 in
theorem m_X9_packed (l : Launch) (dd : va_G) (cT : Nat → ClassId) (lo : Nat → Prop) (G : gH) (s0 : Nat) {rz : Int64} (h : f_X9_packed G s0 = some rz) : Met l yX9_packed (Cond.code yX9_packed cX9_packed 4 (some .long) :: wsL_law) (g_rm 5 111 0 0) (va_Pc [.ref (dd.2 100 s0)] (g_Pre lo dd cT G)) (va_Ql (g_is rz G) (g_Pre lo dd cT) (g_A lo)) 0 0 (g_A lo) := by
  refine g_start RX9 rfl (by decide) (Nat.le_of_ble_eq_true rfl) ?_
  intro p e s m below meth c hx hb hr hlocks hml hown hnm hts hK hG hlo ls hl
  have hl : lv_has ls 4 [(0, .ref (dd.2 100 s0))] := hl
  have hG : g_S lo dd cT s s.heap [] G := hG
  have h4 : ∀ n : Nat, ∀ (bs0 : Nat) (bx1 : Int64) (bx3 : Int32), ∀ (H : Heap) (locs : List Loc), g_S lo dd cT s H locs G → ∀ ls : Array Slot, lv_has ls 4 [(0, .ref (dd.2 100 bs0)), (1, .long bx1), (3, .int bx3)] → f_X9_packed_L4 G n bs0 bx1 bx3 = some rz → W p l e (g_rm 5 111 0 0) s m ([.ref (dd.2 100 s0)] : List Value).toArray below meth c H locs 0 0 (MQ below (va_Ql (g_is rz G) (g_Pre lo dd cT) (g_A lo)) ([.ref (dd.2 100 s0)] : List Value).toArray s 0 0 (g_A lo)) (F0 m 4 ls []) := by
    intro n
    induction n with
    | zero =>
      intro bs0 bx1 bx3 H locs hG ls hl h
      cases (show (none : Option Int64) = some rz from h)
    | succ n ih =>
      intro bs0 bx1 bx3 H locs hG ls hl h
      rw [f_X9_packed_L4] at h
      refine lv_iload_n hx hb dX9_packed_4 rfl (lv_at hl 2 rfl) ?_
      refine lv_aload_n hx hb dX9_packed_5 rfl (lv_at hl 0 rfl) ?_
      obtain ⟨v6, e6, h⟩ := Option.bind_eq_some_iff.mp h
      refine g_cTi (As := []) (rest := [.int bx3]) (n := 0) (i := bs0) hx hb hml hown hts hK hlo hG (m_J0_length_8abf5 l dd cT lo G bs0 e6) qM_X9_339 qI_yJ0_length_8abf5 qS_J0_yJ0_length_8abf5 qN_J0 qC_yJ0_length_8abf5 (by decide +kernel) ⟨Nat.le_of_ble_eq_true rfl, Nat.le_of_ble_eq_true rfl⟩ (f_J0_length_8abf5_lt e6) rfl hl.1 rfl (Nat.le_of_ble_eq_true rfl) dX9_packed_6 ⟨Nat.le_of_ble_eq_true rfl, Nat.le_of_ble_eq_true rfl⟩ (fun H locs hG => ?_)
      refine lv_icmp_ge (tgt := 28) hx hb dX9_packed_9 (by decide) (fun c9 => ?_) (fun c9 => ?_)
      · rw [if_pos c9] at h
        refine lv_lload_n hx hb dX9_packed_28 rfl (lv_at hl 1 rfl) ?_
        obtain rfl := Option.some.inj h
        exact g_jret hx hb hr hlocks hK hlo hG ⟨rfl, rfl⟩ dX9_packed_29
      · rw [if_neg c9] at h
        refine lv_lload_n hx hb dX9_packed_12 rfl (lv_at hl 1 rfl) ?_
        refine lv_aload_n hx hb dX9_packed_13 rfl (lv_at hl 0 rfl) ?_
        refine lv_iload_n hx hb dX9_packed_14 rfl (lv_at hl 2 rfl) ?_
        obtain ⟨v15, e15, h⟩ := Option.bind_eq_some_iff.mp h
        refine g_cTi (As := [.int bx3]) (rest := [.long bx1]) (n := 1) (i := bs0) hx hb hml hown hts hK hlo hG (m_J0_charAt_5068e l dd cT lo G bs0 bx3 e15) qM_X9_344 qI_yJ0_charAt_5068e qS_J0_yJ0_charAt_5068e qN_J0 qC_yJ0_charAt_5068e (by decide +kernel) ⟨Nat.le_of_ble_eq_true rfl, Nat.le_of_ble_eq_true rfl⟩ (f_J0_charAt_5068e_lt e15) rfl hl.1 rfl (Nat.le_of_ble_eq_true rfl) dX9_packed_15 ⟨Nat.le_of_ble_eq_true rfl, Nat.le_of_ble_eq_true rfl⟩ (fun H locs hG => ?_)
        obtain ⟨v18, e18, h⟩ := Option.bind_eq_some_iff.mp h
        refine g_cSj (As := [.long bx1, .int v15]) (rest := []) (n := 2) hx hb hml hown hts hK hlo hG (m_X9_withLetter l dd cT lo G bx1 v15 e18) qM_X9_348 qT_yX9_withLetter qN_X9 qC_yX9_withLetter (by decide +kernel) ⟨Nat.le_of_ble_eq_true rfl, Nat.le_of_ble_eq_true rfl⟩ rfl hl.1 rfl (Nat.le_of_ble_eq_true rfl) dX9_packed_18 ⟨Nat.le_of_ble_eq_true rfl, Nat.le_of_ble_eq_true rfl⟩ (fun H locs hG => ?_)
        refine lv_lstore_n (lv' := [(1, .long v18), (0, .ref (dd.2 100 bs0)), (3, .int bx3)]) hx hb dX9_packed_21 rfl hl (by decide) rfl (fun ls hl => ?_)
        refine lv_iinc (v := (bx3 + (1 : Int32))) (lv' := [(3, .int (bx3 + (1 : Int32))), (1, .long v18), (0, .ref (dd.2 100 bs0))]) hx hb dX9_packed_22 hl (k := 2) rfl rfl (by decide) rfl (fun ls hl => ?_)
        refine lv_goto (tgt := 4) hx hb dX9_packed_25 (by decide) ?_
        exact ih bs0 v18 (bx3 + (1 : Int32)) _ _ hG _ (lv_sub hl [2, 1, 0] rfl) h
  unfold f_X9_packed at h
  refine lv_lconst (v := (0 : Int64)) hx hb dX9_packed_0 (by decide) ?_
  refine lv_lstore_n (lv' := [(1, .long (0 : Int64)), (0, .ref (dd.2 100 s0))]) hx hb dX9_packed_1 rfl hl (by decide) rfl (fun ls hl => ?_)
  refine lv_iconst (v := (0 : Int32)) hx hb dX9_packed_2 (by decide) ?_
  refine lv_istore_n (lv' := [(3, .int (0 : Int32)), (1, .long (0 : Int64)), (0, .ref (dd.2 100 s0))]) hx hb dX9_packed_3 rfl hl (by decide) rfl (fun ls hl => ?_)
  exact h4 g_N s0 (0 : Int64) (0 : Int32) _ _ hG _ (lv_sub hl [2, 1, 0] rfl) h
set_option maxRecDepth 20000 in
set_option maxHeartbeats 4000000 in
theorem m_X9_directoryLength (l : Launch) (dd : va_G) (cT : Nat → ClassId) (lo : Nat → Prop) (G : gH) (x0 : Int32) {rz : Int32} (h : f_X9_directoryLength G x0 = some rz) : Met l yX9_directoryLength (Cond.code yX9_directoryLength cX9_directoryLength 1 (some .int) :: wsL_law) (g_rm 0 0 0 0) (va_Pc [.int x0] (g_Pre lo dd cT G)) (va_Qi (g_is rz G) (g_Pre lo dd cT) (g_A lo)) 0 0 (g_A lo) := by
  refine g_start RX9 rfl (by decide) (Nat.le_of_ble_eq_true rfl) ?_
  intro p e s m below meth c hx hb hr hlocks hml hown hnm hts hK hG hlo ls hl
  have hl : lv_has ls 1 [(0, .int x0)] := hl
  have hG : g_S lo dd cT s s.heap [] G := hG
  unfold f_X9_directoryLength at h
  refine lv_iconst (v := (1 : Int32)) hx hb dX9_directoryLength_0 (by decide) ?_
  refine lv_iload_n hx hb dX9_directoryLength_1 rfl (lv_at hl 0 rfl) ?_
  refine lv_iconst (v := (1 : Int32)) hx hb dX9_directoryLength_2 (by decide) ?_
  refine lv_isub hx hb dX9_directoryLength_3 ?_
  refine lv_iconst (v := (4 : Int32)) hx hb dX9_directoryLength_4 (by decide) ?_
  refine lv_idiv hx hb dX9_directoryLength_5 (by decide) ?_
  refine lv_iadd hx hb dX9_directoryLength_6 ?_
  obtain rfl := Option.some.inj h
  exact g_iret hx hb hr hlocks hK hlo hG ⟨rfl, rfl⟩ dX9_directoryLength_7
set_option maxRecDepth 20000 in
set_option maxHeartbeats 4000000 in
theorem m_X9_at (l : Launch) (dd : va_G) (cT : Nat → ClassId) (lo : Nat → Prop) (G : gH) (a0 : Nat) (x1 : Int32) (x2 : Int32) {rz : Int32} (h : f_X9_at G a0 x1 x2 = some rz) : Met l yX9_at (Cond.code yX9_at cX9_at 3 (some .int) :: wsL_law) (g_rm 0 0 0 0) (va_Pc [.ref a0, .int x1, .int x2] (g_Pre lo dd cT G)) (va_Qi (g_is rz G) (g_Pre lo dd cT) (g_A lo)) 0 0 (g_A lo) := by
  refine g_start RX9 rfl (by decide) (Nat.le_of_ble_eq_true rfl) ?_
  intro p e s m below meth c hx hb hr hlocks hml hown hnm hts hK hG hlo ls hl
  have hl : lv_has ls 3 [(0, .ref a0), (1, .int x1), (2, .int x2)] := hl
  have hG : g_S lo dd cT s s.heap [] G := hG
  unfold f_X9_at at h
  refine lv_iload_n hx hb dX9_at_0 rfl (lv_at hl 1 rfl) ?_
  refine lv_if_lt (tgt := 16) hx hb dX9_at_1 (by decide) (fun c1 => ?_) (fun c1 => ?_)
  · rw [if_pos c1] at h
    refine lv_iload_n hx hb dX9_at_16 rfl (lv_at hl 2 rfl) ?_
    obtain rfl := Option.some.inj h
    exact g_iret hx hb hr hlocks hK hlo hG ⟨rfl, rfl⟩ dX9_at_17
  · rw [if_neg c1] at h
    refine lv_iload_n hx hb dX9_at_4 rfl (lv_at hl 1 rfl) ?_
    refine lv_aload_n hx hb dX9_at_5 rfl (lv_at hl 0 rfl) ?_
    obtain ⟨v6, e6, h⟩ := Option.bind_eq_some_iff.mp h
    refine g_alen hx hb hK hG e6 dX9_at_6 ?_
    refine lv_icmp_ge (tgt := 16) hx hb dX9_at_7 (by decide) (fun c7 => ?_) (fun c7 => ?_)
    · rw [if_pos c7] at h
      refine lv_iload_n hx hb dX9_at_16 rfl (lv_at hl 2 rfl) ?_
      obtain rfl := Option.some.inj h
      exact g_iret hx hb hr hlocks hK hlo hG ⟨rfl, rfl⟩ dX9_at_17
    · rw [if_neg c7] at h
      refine lv_aload_n hx hb dX9_at_10 rfl (lv_at hl 0 rfl) ?_
      refine lv_iload_n hx hb dX9_at_11 rfl (lv_at hl 1 rfl) ?_
      obtain ⟨v12, e12, h⟩ := Option.bind_eq_some_iff.mp h
      refine g_iald hx hb hK hG e12 dX9_at_12 ?_
      refine lv_goto (tgt := 17) hx hb dX9_at_13 (by decide) ?_
      obtain rfl := Option.some.inj h
      exact g_iret hx hb hr hlocks hK hlo hG ⟨rfl, rfl⟩ dX9_at_17
set_option maxRecDepth 20000 in
set_option maxHeartbeats 4000000 in
theorem m_X9_at_ (l : Launch) (dd : va_G) (cT : Nat → ClassId) (lo : Nat → Prop) (G : gH) (a0 : Nat) (x1 : Int32) (x2 : Int64) {rz : Int64} (h : f_X9_at_ G a0 x1 x2 = some rz) : Met l yX9_at_ (Cond.code yX9_at_ cX9_at_ 4 (some .long) :: wsL_law) (g_rm 0 0 0 0) (va_Pc [.ref a0, .int x1, .long x2] (g_Pre lo dd cT G)) (va_Ql (g_is rz G) (g_Pre lo dd cT) (g_A lo)) 0 0 (g_A lo) := by
  refine g_start RX9 rfl (by decide) (Nat.le_of_ble_eq_true rfl) ?_
  intro p e s m below meth c hx hb hr hlocks hml hown hnm hts hK hG hlo ls hl
  have hl : lv_has ls 4 [(0, .ref a0), (1, .int x1), (2, .long x2)] := hl
  have hG : g_S lo dd cT s s.heap [] G := hG
  unfold f_X9_at_ at h
  refine lv_iload_n hx hb dX9_at__0 rfl (lv_at hl 1 rfl) ?_
  refine lv_if_lt (tgt := 16) hx hb dX9_at__1 (by decide) (fun c1 => ?_) (fun c1 => ?_)
  · rw [if_pos c1] at h
    refine lv_lload_n hx hb dX9_at__16 rfl (lv_at hl 2 rfl) ?_
    obtain rfl := Option.some.inj h
    exact g_jret hx hb hr hlocks hK hlo hG ⟨rfl, rfl⟩ dX9_at__17
  · rw [if_neg c1] at h
    refine lv_iload_n hx hb dX9_at__4 rfl (lv_at hl 1 rfl) ?_
    refine lv_aload_n hx hb dX9_at__5 rfl (lv_at hl 0 rfl) ?_
    obtain ⟨v6, e6, h⟩ := Option.bind_eq_some_iff.mp h
    refine g_alen hx hb hK hG e6 dX9_at__6 ?_
    refine lv_icmp_ge (tgt := 16) hx hb dX9_at__7 (by decide) (fun c7 => ?_) (fun c7 => ?_)
    · rw [if_pos c7] at h
      refine lv_lload_n hx hb dX9_at__16 rfl (lv_at hl 2 rfl) ?_
      obtain rfl := Option.some.inj h
      exact g_jret hx hb hr hlocks hK hlo hG ⟨rfl, rfl⟩ dX9_at__17
    · rw [if_neg c7] at h
      refine lv_aload_n hx hb dX9_at__10 rfl (lv_at hl 0 rfl) ?_
      refine lv_iload_n hx hb dX9_at__11 rfl (lv_at hl 1 rfl) ?_
      obtain ⟨v12, e12, h⟩ := Option.bind_eq_some_iff.mp h
      refine g_jald hx hb hK hG e12 dX9_at__12 ?_
      refine lv_goto (tgt := 17) hx hb dX9_at__13 (by decide) ?_
      obtain rfl := Option.some.inj h
      exact g_jret hx hb hr hlocks hK hlo hG ⟨rfl, rfl⟩ dX9_at__17
set_option maxRecDepth 20000 in
set_option maxHeartbeats 4000000 in
theorem m_X9_isSet (l : Launch) (dd : va_G) (cT : Nat → ClassId) (lo : Nat → Prop) (G : gH) (a0 : Nat) (x1 : Int32) {rz : Int32} (h : f_X9_isSet G a0 x1 = some rz) : Met l yX9_isSet (Cond.code yX9_isSet cX9_isSet 2 (some .boolean) :: wsL_law) (g_rm 0 0 0 0) (va_Pc [.ref a0, .int x1] (g_Pre lo dd cT G)) (va_Qi (g_is rz G) (g_Pre lo dd cT) (g_A lo)) 0 0 (g_A lo) := by
  refine g_start RX9 rfl (by decide) (Nat.le_of_ble_eq_true rfl) ?_
  intro p e s m below meth c hx hb hr hlocks hml hown hnm hts hK hG hlo ls hl
  have hl : lv_has ls 2 [(0, .ref a0), (1, .int x1)] := hl
  have hG : g_S lo dd cT s s.heap [] G := hG
  unfold f_X9_isSet at h
  refine lv_iload_n hx hb dX9_isSet_0 rfl (lv_at hl 1 rfl) ?_
  refine lv_if_lt (tgt := 20) hx hb dX9_isSet_1 (by decide) (fun c1 => ?_) (fun c1 => ?_)
  · rw [if_pos c1] at h
    refine lv_iconst (v := (0 : Int32)) hx hb dX9_isSet_20 (by decide) ?_
    obtain rfl := Option.some.inj h
    exact g_zret hx hb hr hlocks hK hlo hG rfl ⟨rfl, rfl⟩ dX9_isSet_21
  · rw [if_neg c1] at h
    refine lv_iload_n hx hb dX9_isSet_4 rfl (lv_at hl 1 rfl) ?_
    refine lv_aload_n hx hb dX9_isSet_5 rfl (lv_at hl 0 rfl) ?_
    obtain ⟨v6, e6, h⟩ := Option.bind_eq_some_iff.mp h
    refine g_alen hx hb hK hG e6 dX9_isSet_6 ?_
    refine lv_icmp_ge (tgt := 20) hx hb dX9_isSet_7 (by decide) (fun c7 => ?_) (fun c7 => ?_)
    · rw [if_pos c7] at h
      refine lv_iconst (v := (0 : Int32)) hx hb dX9_isSet_20 (by decide) ?_
      obtain rfl := Option.some.inj h
      exact g_zret hx hb hr hlocks hK hlo hG rfl ⟨rfl, rfl⟩ dX9_isSet_21
    · rw [if_neg c7] at h
      refine lv_aload_n hx hb dX9_isSet_10 rfl (lv_at hl 0 rfl) ?_
      refine lv_iload_n hx hb dX9_isSet_11 rfl (lv_at hl 1 rfl) ?_
      obtain ⟨v12, e12, h⟩ := Option.bind_eq_some_iff.mp h
      refine g_zald hx hb hK hG e12 dX9_isSet_12 ?_
      refine lv_if_eq (tgt := 20) hx hb dX9_isSet_13 (by decide) (fun c13 => ?_) (fun c13 => ?_)
      · rw [if_pos c13] at h
        refine lv_iconst (v := (0 : Int32)) hx hb dX9_isSet_20 (by decide) ?_
        obtain rfl := Option.some.inj h
        exact g_zret hx hb hr hlocks hK hlo hG rfl ⟨rfl, rfl⟩ dX9_isSet_21
      · rw [if_neg c13] at h
        refine lv_iconst (v := (1 : Int32)) hx hb dX9_isSet_16 (by decide) ?_
        refine lv_goto (tgt := 21) hx hb dX9_isSet_17 (by decide) ?_
        obtain rfl := Option.some.inj h
        exact g_zret hx hb hr hlocks hK hlo hG rfl ⟨rfl, rfl⟩ dX9_isSet_21
set_option maxRecDepth 20000 in
set_option maxHeartbeats 4000000 in
theorem m_X9_put (l : Launch) (dd : va_G) (cT : Nat → ClassId) (lo : Nat → Prop) (G : gH) (a0 : Nat) (x1 : Int32) (x2 : Int32) {Gz : gH} (h : f_X9_put G a0 x1 x2 = some Gz) : Met l yX9_put (Cond.code yX9_put cX9_put 3 none :: wsL_law) (g_rm 0 0 0 0) (va_Pc [.ref a0, .int x1, .int x2] (g_Pre lo dd cT G)) (va_Qv (g_iv Gz) (g_Pre lo dd cT) (g_A lo)) 0 0 (g_A lo) := by
  refine g_start RX9 rfl (by decide) (Nat.le_of_ble_eq_true rfl) ?_
  intro p e s m below meth c hx hb hr hlocks hml hown hnm hts hK hG hlo ls hl
  have hl : lv_has ls 3 [(0, .ref a0), (1, .int x1), (2, .int x2)] := hl
  have hG : g_S lo dd cT s s.heap [] G := hG
  unfold f_X9_put at h
  refine lv_iload_n hx hb dX9_put_0 rfl (lv_at hl 1 rfl) ?_
  refine lv_if_lt (tgt := 14) hx hb dX9_put_1 (by decide) (fun c1 => ?_) (fun c1 => ?_)
  · rw [if_pos c1] at h
    obtain rfl := Option.some.inj h
    exact g_vret hx hb hr hlocks hK hlo hG rfl dX9_put_14
  · rw [if_neg c1] at h
    refine lv_iload_n hx hb dX9_put_4 rfl (lv_at hl 1 rfl) ?_
    refine lv_aload_n hx hb dX9_put_5 rfl (lv_at hl 0 rfl) ?_
    obtain ⟨v6, e6, h⟩ := Option.bind_eq_some_iff.mp h
    refine g_alen hx hb hK hG e6 dX9_put_6 ?_
    refine lv_icmp_ge (tgt := 14) hx hb dX9_put_7 (by decide) (fun c7 => ?_) (fun c7 => ?_)
    · rw [if_pos c7] at h
      obtain rfl := Option.some.inj h
      exact g_vret hx hb hr hlocks hK hlo hG rfl dX9_put_14
    · rw [if_neg c7] at h
      refine lv_aload_n hx hb dX9_put_10 rfl (lv_at hl 0 rfl) ?_
      refine lv_iload_n hx hb dX9_put_11 rfl (lv_at hl 1 rfl) ?_
      refine lv_iload_n hx hb dX9_put_12 rfl (lv_at hl 2 rfl) ?_
      obtain ⟨G13, e13, h⟩ := Option.bind_eq_some_iff.mp h
      refine g_iast hx hb hK hG e13 dX9_put_13 (fun H locs hG => ?_)
      obtain rfl := Option.some.inj h
      exact g_vret hx hb hr hlocks hK hlo hG rfl dX9_put_14
set_option maxRecDepth 20000 in
set_option maxHeartbeats 4000000 in
theorem m_X9_put_ (l : Launch) (dd : va_G) (cT : Nat → ClassId) (lo : Nat → Prop) (G : gH) (a0 : Nat) (x1 : Int32) (x2 : Int64) {Gz : gH} (h : f_X9_put_ G a0 x1 x2 = some Gz) : Met l yX9_put_ (Cond.code yX9_put_ cX9_put_ 4 none :: wsL_law) (g_rm 0 0 0 0) (va_Pc [.ref a0, .int x1, .long x2] (g_Pre lo dd cT G)) (va_Qv (g_iv Gz) (g_Pre lo dd cT) (g_A lo)) 0 0 (g_A lo) := by
  refine g_start RX9 rfl (by decide) (Nat.le_of_ble_eq_true rfl) ?_
  intro p e s m below meth c hx hb hr hlocks hml hown hnm hts hK hG hlo ls hl
  have hl : lv_has ls 4 [(0, .ref a0), (1, .int x1), (2, .long x2)] := hl
  have hG : g_S lo dd cT s s.heap [] G := hG
  unfold f_X9_put_ at h
  refine lv_iload_n hx hb dX9_put__0 rfl (lv_at hl 1 rfl) ?_
  refine lv_if_lt (tgt := 14) hx hb dX9_put__1 (by decide) (fun c1 => ?_) (fun c1 => ?_)
  · rw [if_pos c1] at h
    obtain rfl := Option.some.inj h
    exact g_vret hx hb hr hlocks hK hlo hG rfl dX9_put__14
  · rw [if_neg c1] at h
    refine lv_iload_n hx hb dX9_put__4 rfl (lv_at hl 1 rfl) ?_
    refine lv_aload_n hx hb dX9_put__5 rfl (lv_at hl 0 rfl) ?_
    obtain ⟨v6, e6, h⟩ := Option.bind_eq_some_iff.mp h
    refine g_alen hx hb hK hG e6 dX9_put__6 ?_
    refine lv_icmp_ge (tgt := 14) hx hb dX9_put__7 (by decide) (fun c7 => ?_) (fun c7 => ?_)
    · rw [if_pos c7] at h
      obtain rfl := Option.some.inj h
      exact g_vret hx hb hr hlocks hK hlo hG rfl dX9_put__14
    · rw [if_neg c7] at h
      refine lv_aload_n hx hb dX9_put__10 rfl (lv_at hl 0 rfl) ?_
      refine lv_iload_n hx hb dX9_put__11 rfl (lv_at hl 1 rfl) ?_
      refine lv_lload_n hx hb dX9_put__12 rfl (lv_at hl 2 rfl) ?_
      obtain ⟨G13, e13, h⟩ := Option.bind_eq_some_iff.mp h
      refine g_jast hx hb hK hG e13 dX9_put__13 (fun H locs hG => ?_)
      obtain rfl := Option.some.inj h
      exact g_vret hx hb hr hlocks hK hlo hG rfl dX9_put__14
set_option maxRecDepth 20000 in
set_option maxHeartbeats 4000000 in
theorem m_X9_mark (l : Launch) (dd : va_G) (cT : Nat → ClassId) (lo : Nat → Prop) (G : gH) (a0 : Nat) (x1 : Int32) (x2 : Int32) {Gz : gH} (h : f_X9_mark G a0 x1 x2 = some Gz) : Met l yX9_mark (Cond.code yX9_mark cX9_mark 3 none :: wsL_law) (g_rm 0 0 0 0) (va_Pc [.ref a0, .int x1, .int x2] (g_Pre lo dd cT G)) (va_Qv (g_iv Gz) (g_Pre lo dd cT) (g_A lo)) 0 0 (g_A lo) := by
  refine g_start RX9 rfl (by decide) (Nat.le_of_ble_eq_true rfl) ?_
  intro p e s m below meth c hx hb hr hlocks hml hown hnm hts hK hG hlo ls hl
  have hl : lv_has ls 3 [(0, .ref a0), (1, .int x1), (2, .int x2)] := hl
  have hG : g_S lo dd cT s s.heap [] G := hG
  unfold f_X9_mark at h
  refine lv_iload_n hx hb dX9_mark_0 rfl (lv_at hl 1 rfl) ?_
  refine lv_if_lt (tgt := 14) hx hb dX9_mark_1 (by decide) (fun c1 => ?_) (fun c1 => ?_)
  · rw [if_pos c1] at h
    obtain rfl := Option.some.inj h
    exact g_vret hx hb hr hlocks hK hlo hG rfl dX9_mark_14
  · rw [if_neg c1] at h
    refine lv_iload_n hx hb dX9_mark_4 rfl (lv_at hl 1 rfl) ?_
    refine lv_aload_n hx hb dX9_mark_5 rfl (lv_at hl 0 rfl) ?_
    obtain ⟨v6, e6, h⟩ := Option.bind_eq_some_iff.mp h
    refine g_alen hx hb hK hG e6 dX9_mark_6 ?_
    refine lv_icmp_ge (tgt := 14) hx hb dX9_mark_7 (by decide) (fun c7 => ?_) (fun c7 => ?_)
    · rw [if_pos c7] at h
      obtain rfl := Option.some.inj h
      exact g_vret hx hb hr hlocks hK hlo hG rfl dX9_mark_14
    · rw [if_neg c7] at h
      refine lv_aload_n hx hb dX9_mark_10 rfl (lv_at hl 0 rfl) ?_
      refine lv_iload_n hx hb dX9_mark_11 rfl (lv_at hl 1 rfl) ?_
      refine lv_iload_n hx hb dX9_mark_12 rfl (lv_at hl 2 rfl) ?_
      obtain ⟨G13, e13, h⟩ := Option.bind_eq_some_iff.mp h
      refine g_zast hx hb hK hG e13 dX9_mark_13 (fun H locs hG => ?_)
      obtain rfl := Option.some.inj h
      exact g_vret hx hb hr hlocks hK hlo hG rfl dX9_mark_14
set_option maxRecDepth 20000 in
set_option maxHeartbeats 4000000 in
theorem m_X9_fill (l : Launch) (dd : va_G) (cT : Nat → ClassId) (lo : Nat → Prop) (G : gH) (a0 : Nat) (x1 : Int32) {Gz : gH} (h : f_X9_fill G a0 x1 = some Gz) : Met l yX9_fill (Cond.code yX9_fill cX9_fill 3 none :: wsL_law) (g_rm 0 0 0 0) (va_Pc [.ref a0, .int x1] (g_Pre lo dd cT G)) (va_Qv (g_iv Gz) (g_Pre lo dd cT) (g_A lo)) 0 0 (g_A lo) := by
  refine g_start RX9 rfl (by decide) (Nat.le_of_ble_eq_true rfl) ?_
  intro p e s m below meth c hx hb hr hlocks hml hown hnm hts hK hG hlo ls hl
  have hl : lv_has ls 3 [(0, .ref a0), (1, .int x1)] := hl
  have hG : g_S lo dd cT s s.heap [] G := hG
  have h2 : ∀ n : Nat, ∀ (G : gH) (ba0 : Nat) (bx1 : Int32) (bx2 : Int32), ∀ (H : Heap) (locs : List Loc), g_S lo dd cT s H locs G → ∀ ls : Array Slot, lv_has ls 3 [(0, .ref ba0), (1, .int bx1), (2, .int bx2)] → f_X9_fill_L2 n G ba0 bx1 bx2 = some Gz → W p l e (g_rm 0 0 0 0) s m ([.ref a0, .int x1] : List Value).toArray below meth c H locs 0 0 (MQ below (va_Qv (g_iv Gz) (g_Pre lo dd cT) (g_A lo)) ([.ref a0, .int x1] : List Value).toArray s 0 0 (g_A lo)) (F0 m 2 ls []) := by
    intro n
    induction n with
    | zero =>
      intro G ba0 bx1 bx2 H locs hG ls hl h
      cases (show (none : Option gH) = some Gz from h)
    | succ n ih =>
      intro G ba0 bx1 bx2 H locs hG ls hl h
      rw [f_X9_fill_L2] at h
      refine lv_iload_n hx hb dX9_fill_2 rfl (lv_at hl 2 rfl) ?_
      refine lv_aload_n hx hb dX9_fill_3 rfl (lv_at hl 0 rfl) ?_
      obtain ⟨v4, e4, h⟩ := Option.bind_eq_some_iff.mp h
      refine g_alen hx hb hK hG e4 dX9_fill_4 ?_
      refine lv_icmp_ge (tgt := 18) hx hb dX9_fill_5 (by decide) (fun c5 => ?_) (fun c5 => ?_)
      · rw [if_pos c5] at h
        obtain rfl := Option.some.inj h
        exact g_vret hx hb hr hlocks hK hlo hG rfl dX9_fill_18
      · rw [if_neg c5] at h
        refine lv_aload_n hx hb dX9_fill_8 rfl (lv_at hl 0 rfl) ?_
        refine lv_iload_n hx hb dX9_fill_9 rfl (lv_at hl 2 rfl) ?_
        refine lv_iload_n hx hb dX9_fill_10 rfl (lv_at hl 1 rfl) ?_
        obtain ⟨G11, e11, h⟩ := Option.bind_eq_some_iff.mp h
        refine g_iast hx hb hK hG e11 dX9_fill_11 (fun H locs hG => ?_)
        refine lv_iinc (v := (bx2 + (1 : Int32))) (lv' := [(2, .int (bx2 + (1 : Int32))), (0, .ref ba0), (1, .int bx1)]) hx hb dX9_fill_12 hl (k := 2) rfl rfl (by decide) rfl (fun ls hl => ?_)
        refine lv_goto (tgt := 2) hx hb dX9_fill_15 (by decide) ?_
        exact ih G11 ba0 bx1 (bx2 + (1 : Int32)) _ _ hG _ (lv_sub hl [1, 2, 0] rfl) h
  unfold f_X9_fill at h
  refine lv_iconst (v := (0 : Int32)) hx hb dX9_fill_0 (by decide) ?_
  refine lv_istore_n (lv' := [(2, .int (0 : Int32)), (0, .ref a0), (1, .int x1)]) hx hb dX9_fill_1 rfl hl (by decide) rfl (fun ls hl => ?_)
  exact h2 g_N G a0 x1 (0 : Int32) _ _ hG _ (lv_sub hl [1, 2, 0] rfl) h
set_option maxRecDepth 20000 in
set_option maxHeartbeats 4000000 in
theorem m_X9_fill_ (l : Launch) (dd : va_G) (cT : Nat → ClassId) (lo : Nat → Prop) (G : gH) (a0 : Nat) (x1 : Int32) {Gz : gH} (h : f_X9_fill_ G a0 x1 = some Gz) : Met l yX9_fill_ (Cond.code yX9_fill_ cX9_fill_ 3 none :: wsL_law) (g_rm 0 0 0 0) (va_Pc [.ref a0, .int x1] (g_Pre lo dd cT G)) (va_Qv (g_iv Gz) (g_Pre lo dd cT) (g_A lo)) 0 0 (g_A lo) := by
  refine g_start RX9 rfl (by decide) (Nat.le_of_ble_eq_true rfl) ?_
  intro p e s m below meth c hx hb hr hlocks hml hown hnm hts hK hG hlo ls hl
  have hl : lv_has ls 3 [(0, .ref a0), (1, .int x1)] := hl
  have hG : g_S lo dd cT s s.heap [] G := hG
  have h2 : ∀ n : Nat, ∀ (G : gH) (ba0 : Nat) (bx1 : Int32) (bx2 : Int32), ∀ (H : Heap) (locs : List Loc), g_S lo dd cT s H locs G → ∀ ls : Array Slot, lv_has ls 3 [(0, .ref ba0), (1, .int bx1), (2, .int bx2)] → f_X9_fill__L2 n G ba0 bx1 bx2 = some Gz → W p l e (g_rm 0 0 0 0) s m ([.ref a0, .int x1] : List Value).toArray below meth c H locs 0 0 (MQ below (va_Qv (g_iv Gz) (g_Pre lo dd cT) (g_A lo)) ([.ref a0, .int x1] : List Value).toArray s 0 0 (g_A lo)) (F0 m 2 ls []) := by
    intro n
    induction n with
    | zero =>
      intro G ba0 bx1 bx2 H locs hG ls hl h
      cases (show (none : Option gH) = some Gz from h)
    | succ n ih =>
      intro G ba0 bx1 bx2 H locs hG ls hl h
      rw [f_X9_fill__L2] at h
      refine lv_iload_n hx hb dX9_fill__2 rfl (lv_at hl 2 rfl) ?_
      refine lv_aload_n hx hb dX9_fill__3 rfl (lv_at hl 0 rfl) ?_
      obtain ⟨v4, e4, h⟩ := Option.bind_eq_some_iff.mp h
      refine g_alen hx hb hK hG e4 dX9_fill__4 ?_
      refine lv_icmp_ge (tgt := 18) hx hb dX9_fill__5 (by decide) (fun c5 => ?_) (fun c5 => ?_)
      · rw [if_pos c5] at h
        obtain rfl := Option.some.inj h
        exact g_vret hx hb hr hlocks hK hlo hG rfl dX9_fill__18
      · rw [if_neg c5] at h
        refine lv_aload_n hx hb dX9_fill__8 rfl (lv_at hl 0 rfl) ?_
        refine lv_iload_n hx hb dX9_fill__9 rfl (lv_at hl 2 rfl) ?_
        refine lv_iload_n hx hb dX9_fill__10 rfl (lv_at hl 1 rfl) ?_
        obtain ⟨G11, e11, h⟩ := Option.bind_eq_some_iff.mp h
        refine g_zast hx hb hK hG e11 dX9_fill__11 (fun H locs hG => ?_)
        refine lv_iinc (v := (bx2 + (1 : Int32))) (lv' := [(2, .int (bx2 + (1 : Int32))), (0, .ref ba0), (1, .int bx1)]) hx hb dX9_fill__12 hl (k := 2) rfl rfl (by decide) rfl (fun ls hl => ?_)
        refine lv_goto (tgt := 2) hx hb dX9_fill__15 (by decide) ?_
        exact ih G11 ba0 bx1 (bx2 + (1 : Int32)) _ _ hG _ (lv_sub hl [1, 2, 0] rfl) h
  unfold f_X9_fill_ at h
  refine lv_iconst (v := (0 : Int32)) hx hb dX9_fill__0 (by decide) ?_
  refine lv_istore_n (lv' := [(2, .int (0 : Int32)), (0, .ref a0), (1, .int x1)]) hx hb dX9_fill__1 rfl hl (by decide) rfl (fun ls hl => ?_)
  exact h2 g_N G a0 x1 (0 : Int32) _ _ hG _ (lv_sub hl [1, 2, 0] rfl) h
set_option maxRecDepth 20000 in
set_option maxHeartbeats 4000000 in
theorem m_X9_copy (l : Launch) (dd : va_G) (cT : Nat → ClassId) (lo : Nat → Prop) (G : gH) (a0 : Nat) (a1 : Nat) {Gz : gH} (h : f_X9_copy G a0 a1 = some Gz) : Met l yX9_copy (Cond.code yX9_copy cX9_copy 3 none :: wsL_law) (g_rm 0 0 0 0) (va_Pc [.ref a0, .ref a1] (g_Pre lo dd cT G)) (va_Qv (g_iv Gz) (g_Pre lo dd cT) (g_A lo)) 0 0 (g_A lo) := by
  refine g_start RX9 rfl (by decide) (Nat.le_of_ble_eq_true rfl) ?_
  intro p e s m below meth c hx hb hr hlocks hml hown hnm hts hK hG hlo ls hl
  have hl : lv_has ls 3 [(0, .ref a0), (1, .ref a1)] := hl
  have hG : g_S lo dd cT s s.heap [] G := hG
  have h2 : ∀ n : Nat, ∀ (G : gH) (ba0 : Nat) (ba1 : Nat) (bx2 : Int32), ∀ (H : Heap) (locs : List Loc), g_S lo dd cT s H locs G → ∀ ls : Array Slot, lv_has ls 3 [(0, .ref ba0), (1, .ref ba1), (2, .int bx2)] → f_X9_copy_L2 n G ba0 ba1 bx2 = some Gz → W p l e (g_rm 0 0 0 0) s m ([.ref a0, .ref a1] : List Value).toArray below meth c H locs 0 0 (MQ below (va_Qv (g_iv Gz) (g_Pre lo dd cT) (g_A lo)) ([.ref a0, .ref a1] : List Value).toArray s 0 0 (g_A lo)) (F0 m 2 ls []) := by
    intro n
    induction n with
    | zero =>
      intro G ba0 ba1 bx2 H locs hG ls hl h
      cases (show (none : Option gH) = some Gz from h)
    | succ n ih =>
      intro G ba0 ba1 bx2 H locs hG ls hl h
      rw [f_X9_copy_L2] at h
      refine lv_iload_n hx hb dX9_copy_2 rfl (lv_at hl 2 rfl) ?_
      refine lv_aload_n hx hb dX9_copy_3 rfl (lv_at hl 0 rfl) ?_
      obtain ⟨v4, e4, h⟩ := Option.bind_eq_some_iff.mp h
      refine g_alen hx hb hK hG e4 dX9_copy_4 ?_
      refine lv_icmp_ge (tgt := 26) hx hb dX9_copy_5 (by decide) (fun c5 => ?_) (fun c5 => ?_)
      · rw [if_pos c5] at h
        obtain rfl := Option.some.inj h
        exact g_vret hx hb hr hlocks hK hlo hG rfl dX9_copy_26
      · rw [if_neg c5] at h
        refine lv_iload_n hx hb dX9_copy_8 rfl (lv_at hl 2 rfl) ?_
        refine lv_aload_n hx hb dX9_copy_9 rfl (lv_at hl 1 rfl) ?_
        obtain ⟨v10, e10, h⟩ := Option.bind_eq_some_iff.mp h
        refine g_alen hx hb hK hG e10 dX9_copy_10 ?_
        refine lv_icmp_ge (tgt := 26) hx hb dX9_copy_11 (by decide) (fun c11 => ?_) (fun c11 => ?_)
        · rw [if_pos c11] at h
          obtain rfl := Option.some.inj h
          exact g_vret hx hb hr hlocks hK hlo hG rfl dX9_copy_26
        · rw [if_neg c11] at h
          refine lv_aload_n hx hb dX9_copy_14 rfl (lv_at hl 1 rfl) ?_
          refine lv_iload_n hx hb dX9_copy_15 rfl (lv_at hl 2 rfl) ?_
          refine lv_aload_n hx hb dX9_copy_16 rfl (lv_at hl 0 rfl) ?_
          refine lv_iload_n hx hb dX9_copy_17 rfl (lv_at hl 2 rfl) ?_
          obtain ⟨v18, e18, h⟩ := Option.bind_eq_some_iff.mp h
          refine g_iald hx hb hK hG e18 dX9_copy_18 ?_
          obtain ⟨G19, e19, h⟩ := Option.bind_eq_some_iff.mp h
          refine g_iast hx hb hK hG e19 dX9_copy_19 (fun H locs hG => ?_)
          refine lv_iinc (v := (bx2 + (1 : Int32))) (lv' := [(2, .int (bx2 + (1 : Int32))), (0, .ref ba0), (1, .ref ba1)]) hx hb dX9_copy_20 hl (k := 2) rfl rfl (by decide) rfl (fun ls hl => ?_)
          refine lv_goto (tgt := 2) hx hb dX9_copy_23 (by decide) ?_
          exact ih G19 ba0 ba1 (bx2 + (1 : Int32)) _ _ hG _ (lv_sub hl [1, 2, 0] rfl) h
  unfold f_X9_copy at h
  refine lv_iconst (v := (0 : Int32)) hx hb dX9_copy_0 (by decide) ?_
  refine lv_istore_n (lv' := [(2, .int (0 : Int32)), (0, .ref a0), (1, .ref a1)]) hx hb dX9_copy_1 rfl hl (by decide) rfl (fun ls hl => ?_)
  exact h2 g_N G a0 a1 (0 : Int32) _ _ hG _ (lv_sub hl [1, 2, 0] rfl) h
set_option maxRecDepth 20000 in
set_option maxHeartbeats 4000000 in
theorem m_X9_copy_ (l : Launch) (dd : va_G) (cT : Nat → ClassId) (lo : Nat → Prop) (G : gH) (a0 : Nat) (a1 : Nat) {Gz : gH} (h : f_X9_copy_ G a0 a1 = some Gz) : Met l yX9_copy_ (Cond.code yX9_copy_ cX9_copy_ 3 none :: wsL_law) (g_rm 0 0 0 0) (va_Pc [.ref a0, .ref a1] (g_Pre lo dd cT G)) (va_Qv (g_iv Gz) (g_Pre lo dd cT) (g_A lo)) 0 0 (g_A lo) := by
  refine g_start RX9 rfl (by decide) (Nat.le_of_ble_eq_true rfl) ?_
  intro p e s m below meth c hx hb hr hlocks hml hown hnm hts hK hG hlo ls hl
  have hl : lv_has ls 3 [(0, .ref a0), (1, .ref a1)] := hl
  have hG : g_S lo dd cT s s.heap [] G := hG
  have h2 : ∀ n : Nat, ∀ (G : gH) (ba0 : Nat) (ba1 : Nat) (bx2 : Int32), ∀ (H : Heap) (locs : List Loc), g_S lo dd cT s H locs G → ∀ ls : Array Slot, lv_has ls 3 [(0, .ref ba0), (1, .ref ba1), (2, .int bx2)] → f_X9_copy__L2 n G ba0 ba1 bx2 = some Gz → W p l e (g_rm 0 0 0 0) s m ([.ref a0, .ref a1] : List Value).toArray below meth c H locs 0 0 (MQ below (va_Qv (g_iv Gz) (g_Pre lo dd cT) (g_A lo)) ([.ref a0, .ref a1] : List Value).toArray s 0 0 (g_A lo)) (F0 m 2 ls []) := by
    intro n
    induction n with
    | zero =>
      intro G ba0 ba1 bx2 H locs hG ls hl h
      cases (show (none : Option gH) = some Gz from h)
    | succ n ih =>
      intro G ba0 ba1 bx2 H locs hG ls hl h
      rw [f_X9_copy__L2] at h
      refine lv_iload_n hx hb dX9_copy__2 rfl (lv_at hl 2 rfl) ?_
      refine lv_aload_n hx hb dX9_copy__3 rfl (lv_at hl 0 rfl) ?_
      obtain ⟨v4, e4, h⟩ := Option.bind_eq_some_iff.mp h
      refine g_alen hx hb hK hG e4 dX9_copy__4 ?_
      refine lv_icmp_ge (tgt := 26) hx hb dX9_copy__5 (by decide) (fun c5 => ?_) (fun c5 => ?_)
      · rw [if_pos c5] at h
        obtain rfl := Option.some.inj h
        exact g_vret hx hb hr hlocks hK hlo hG rfl dX9_copy__26
      · rw [if_neg c5] at h
        refine lv_iload_n hx hb dX9_copy__8 rfl (lv_at hl 2 rfl) ?_
        refine lv_aload_n hx hb dX9_copy__9 rfl (lv_at hl 1 rfl) ?_
        obtain ⟨v10, e10, h⟩ := Option.bind_eq_some_iff.mp h
        refine g_alen hx hb hK hG e10 dX9_copy__10 ?_
        refine lv_icmp_ge (tgt := 26) hx hb dX9_copy__11 (by decide) (fun c11 => ?_) (fun c11 => ?_)
        · rw [if_pos c11] at h
          obtain rfl := Option.some.inj h
          exact g_vret hx hb hr hlocks hK hlo hG rfl dX9_copy__26
        · rw [if_neg c11] at h
          refine lv_aload_n hx hb dX9_copy__14 rfl (lv_at hl 1 rfl) ?_
          refine lv_iload_n hx hb dX9_copy__15 rfl (lv_at hl 2 rfl) ?_
          refine lv_aload_n hx hb dX9_copy__16 rfl (lv_at hl 0 rfl) ?_
          refine lv_iload_n hx hb dX9_copy__17 rfl (lv_at hl 2 rfl) ?_
          obtain ⟨v18, e18, h⟩ := Option.bind_eq_some_iff.mp h
          refine g_zald hx hb hK hG e18 dX9_copy__18 ?_
          obtain ⟨G19, e19, h⟩ := Option.bind_eq_some_iff.mp h
          refine g_zast hx hb hK hG e19 dX9_copy__19 (fun H locs hG => ?_)
          refine lv_iinc (v := (bx2 + (1 : Int32))) (lv' := [(2, .int (bx2 + (1 : Int32))), (0, .ref ba0), (1, .ref ba1)]) hx hb dX9_copy__20 hl (k := 2) rfl rfl (by decide) rfl (fun ls hl => ?_)
          refine lv_goto (tgt := 2) hx hb dX9_copy__23 (by decide) ?_
          exact ih G19 ba0 ba1 (bx2 + (1 : Int32)) _ _ hG _ (lv_sub hl [1, 2, 0] rfl) h
  unfold f_X9_copy_ at h
  refine lv_iconst (v := (0 : Int32)) hx hb dX9_copy__0 (by decide) ?_
  refine lv_istore_n (lv' := [(2, .int (0 : Int32)), (0, .ref a0), (1, .ref a1)]) hx hb dX9_copy__1 rfl hl (by decide) rfl (fun ls hl => ?_)
  exact h2 g_N G a0 a1 (0 : Int32) _ _ hG _ (lv_sub hl [1, 2, 0] rfl) h
set_option maxRecDepth 20000 in
set_option maxHeartbeats 4000000 in
theorem m_X9_copy__ (l : Launch) (dd : va_G) (cT : Nat → ClassId) (lo : Nat → Prop) (G : gH) (a0 : Nat) (a1 : Nat) {Gz : gH} (h : f_X9_copy__ G a0 a1 = some Gz) : Met l yX9_copy__ (Cond.code yX9_copy__ cX9_copy__ 3 none :: wsL_law) (g_rm 0 0 0 0) (va_Pc [.ref a0, .ref a1] (g_Pre lo dd cT G)) (va_Qv (g_iv Gz) (g_Pre lo dd cT) (g_A lo)) 0 0 (g_A lo) := by
  refine g_start RX9 rfl (by decide) (Nat.le_of_ble_eq_true rfl) ?_
  intro p e s m below meth c hx hb hr hlocks hml hown hnm hts hK hG hlo ls hl
  have hl : lv_has ls 3 [(0, .ref a0), (1, .ref a1)] := hl
  have hG : g_S lo dd cT s s.heap [] G := hG
  have h2 : ∀ n : Nat, ∀ (G : gH) (ba0 : Nat) (ba1 : Nat) (bx2 : Int32), ∀ (H : Heap) (locs : List Loc), g_S lo dd cT s H locs G → ∀ ls : Array Slot, lv_has ls 3 [(0, .ref ba0), (1, .ref ba1), (2, .int bx2)] → f_X9_copy___L2 n G ba0 ba1 bx2 = some Gz → W p l e (g_rm 0 0 0 0) s m ([.ref a0, .ref a1] : List Value).toArray below meth c H locs 0 0 (MQ below (va_Qv (g_iv Gz) (g_Pre lo dd cT) (g_A lo)) ([.ref a0, .ref a1] : List Value).toArray s 0 0 (g_A lo)) (F0 m 2 ls []) := by
    intro n
    induction n with
    | zero =>
      intro G ba0 ba1 bx2 H locs hG ls hl h
      cases (show (none : Option gH) = some Gz from h)
    | succ n ih =>
      intro G ba0 ba1 bx2 H locs hG ls hl h
      rw [f_X9_copy___L2] at h
      refine lv_iload_n hx hb dX9_copy___2 rfl (lv_at hl 2 rfl) ?_
      refine lv_aload_n hx hb dX9_copy___3 rfl (lv_at hl 0 rfl) ?_
      obtain ⟨v4, e4, h⟩ := Option.bind_eq_some_iff.mp h
      refine g_alen hx hb hK hG e4 dX9_copy___4 ?_
      refine lv_icmp_ge (tgt := 26) hx hb dX9_copy___5 (by decide) (fun c5 => ?_) (fun c5 => ?_)
      · rw [if_pos c5] at h
        obtain rfl := Option.some.inj h
        exact g_vret hx hb hr hlocks hK hlo hG rfl dX9_copy___26
      · rw [if_neg c5] at h
        refine lv_iload_n hx hb dX9_copy___8 rfl (lv_at hl 2 rfl) ?_
        refine lv_aload_n hx hb dX9_copy___9 rfl (lv_at hl 1 rfl) ?_
        obtain ⟨v10, e10, h⟩ := Option.bind_eq_some_iff.mp h
        refine g_alen hx hb hK hG e10 dX9_copy___10 ?_
        refine lv_icmp_ge (tgt := 26) hx hb dX9_copy___11 (by decide) (fun c11 => ?_) (fun c11 => ?_)
        · rw [if_pos c11] at h
          obtain rfl := Option.some.inj h
          exact g_vret hx hb hr hlocks hK hlo hG rfl dX9_copy___26
        · rw [if_neg c11] at h
          refine lv_aload_n hx hb dX9_copy___14 rfl (lv_at hl 1 rfl) ?_
          refine lv_iload_n hx hb dX9_copy___15 rfl (lv_at hl 2 rfl) ?_
          refine lv_aload_n hx hb dX9_copy___16 rfl (lv_at hl 0 rfl) ?_
          refine lv_iload_n hx hb dX9_copy___17 rfl (lv_at hl 2 rfl) ?_
          obtain ⟨v18, e18, h⟩ := Option.bind_eq_some_iff.mp h
          refine g_jald hx hb hK hG e18 dX9_copy___18 ?_
          obtain ⟨G19, e19, h⟩ := Option.bind_eq_some_iff.mp h
          refine g_jast hx hb hK hG e19 dX9_copy___19 (fun H locs hG => ?_)
          refine lv_iinc (v := (bx2 + (1 : Int32))) (lv' := [(2, .int (bx2 + (1 : Int32))), (0, .ref ba0), (1, .ref ba1)]) hx hb dX9_copy___20 hl (k := 2) rfl rfl (by decide) rfl (fun ls hl => ?_)
          refine lv_goto (tgt := 2) hx hb dX9_copy___23 (by decide) ?_
          exact ih G19 ba0 ba1 (bx2 + (1 : Int32)) _ _ hG _ (lv_sub hl [1, 2, 0] rfl) h
  unfold f_X9_copy__ at h
  refine lv_iconst (v := (0 : Int32)) hx hb dX9_copy___0 (by decide) ?_
  refine lv_istore_n (lv' := [(2, .int (0 : Int32)), (0, .ref a0), (1, .ref a1)]) hx hb dX9_copy___1 rfl hl (by decide) rfl (fun ls hl => ?_)
  exact h2 g_N G a0 a1 (0 : Int32) _ _ hG _ (lv_sub hl [1, 2, 0] rfl) h
set_option maxRecDepth 20000 in
set_option maxHeartbeats 4000000 in
theorem m_X9_indexOf (l : Launch) (dd : va_G) (cT : Nat → ClassId) (lo : Nat → Prop) (G : gH) (a0 : Nat) (x1 : Int32) (x2 : Int64) {rz : Int32} (h : f_X9_indexOf G a0 x1 x2 = some rz) : Met l yX9_indexOf (Cond.code yX9_indexOf cX9_indexOf 5 (some .int) :: wsL_law) (g_rm 0 0 0 0) (va_Pc [.ref a0, .int x1, .long x2] (g_Pre lo dd cT G)) (va_Qi (g_is rz G) (g_Pre lo dd cT) (g_A lo)) 0 0 (g_A lo) := by
  refine g_start RX9 rfl (by decide) (Nat.le_of_ble_eq_true rfl) ?_
  intro p e s m below meth c hx hb hr hlocks hml hown hnm hts hK hG hlo ls hl
  have hl : lv_has ls 5 [(0, .ref a0), (1, .int x1), (2, .long x2)] := hl
  have hG : g_S lo dd cT s s.heap [] G := hG
  have h3 : ∀ n : Nat, ∀ (ba0 : Nat) (bx1 : Int32) (bx2 : Int64) (bx4 : Int32), ∀ (H : Heap) (locs : List Loc), g_S lo dd cT s H locs G → ∀ ls : Array Slot, lv_has ls 5 [(0, .ref ba0), (1, .int bx1), (2, .long bx2), (4, .int bx4)] → f_X9_indexOf_L3 G n ba0 bx1 bx2 bx4 = some rz → W p l e (g_rm 0 0 0 0) s m ([.ref a0, .int x1, .long x2] : List Value).toArray below meth c H locs 0 0 (MQ below (va_Qi (g_is rz G) (g_Pre lo dd cT) (g_A lo)) ([.ref a0, .int x1, .long x2] : List Value).toArray s 0 0 (g_A lo)) (F0 m 3 ls []) := by
    intro n
    induction n with
    | zero =>
      intro ba0 bx1 bx2 bx4 H locs hG ls hl h
      cases (show (none : Option Int32) = some rz from h)
    | succ n ih =>
      intro ba0 bx1 bx2 bx4 H locs hG ls hl h
      rw [f_X9_indexOf_L3] at h
      refine lv_iload hx hb dX9_indexOf_3 (lv_at hl 3 rfl) ?_
      refine lv_iload_n hx hb dX9_indexOf_5 rfl (lv_at hl 1 rfl) ?_
      refine lv_icmp_ge (tgt := 34) hx hb dX9_indexOf_6 (by decide) (fun c6 => ?_) (fun c6 => ?_)
      · rw [if_pos c6] at h
        refine lv_iconst (v := (-1 : Int32)) hx hb dX9_indexOf_34 (by decide) ?_
        obtain rfl := Option.some.inj h
        exact g_iret hx hb hr hlocks hK hlo hG ⟨rfl, rfl⟩ dX9_indexOf_35
      · rw [if_neg c6] at h
        refine lv_iload hx hb dX9_indexOf_9 (lv_at hl 3 rfl) ?_
        refine lv_aload_n hx hb dX9_indexOf_11 rfl (lv_at hl 0 rfl) ?_
        obtain ⟨v12, e12, h⟩ := Option.bind_eq_some_iff.mp h
        refine g_alen hx hb hK hG e12 dX9_indexOf_12 ?_
        refine lv_icmp_ge (tgt := 34) hx hb dX9_indexOf_13 (by decide) (fun c13 => ?_) (fun c13 => ?_)
        · rw [if_pos c13] at h
          refine lv_iconst (v := (-1 : Int32)) hx hb dX9_indexOf_34 (by decide) ?_
          obtain rfl := Option.some.inj h
          exact g_iret hx hb hr hlocks hK hlo hG ⟨rfl, rfl⟩ dX9_indexOf_35
        · rw [if_neg c13] at h
          refine lv_aload_n hx hb dX9_indexOf_16 rfl (lv_at hl 0 rfl) ?_
          refine lv_iload hx hb dX9_indexOf_17 (lv_at hl 3 rfl) ?_
          obtain ⟨v19, e19, h⟩ := Option.bind_eq_some_iff.mp h
          refine g_jald hx hb hK hG e19 dX9_indexOf_19 ?_
          refine lv_lload_n hx hb dX9_indexOf_20 rfl (lv_at hl 2 rfl) ?_
          refine W.lcmp hx hb dX9_indexOf_21 ?_
          refine lv_if_ne (tgt := 28) hx hb dX9_indexOf_22 (by decide) (fun c22 => ?_) (fun c22 => ?_)
          · rw [if_neg c22] at h
            refine lv_iinc (v := (bx4 + (1 : Int32))) (lv' := [(4, .int (bx4 + (1 : Int32))), (0, .ref ba0), (1, .int bx1), (2, .long bx2)]) hx hb dX9_indexOf_28 hl (k := 3) rfl rfl (by decide) rfl (fun ls hl => ?_)
            refine lv_goto (tgt := 3) hx hb dX9_indexOf_31 (by decide) ?_
            exact ih ba0 bx1 bx2 (bx4 + (1 : Int32)) _ _ hG _ (lv_sub hl [1, 2, 3, 0] rfl) h
          · rw [if_pos c22] at h
            refine lv_iload hx hb dX9_indexOf_25 (lv_at hl 3 rfl) ?_
            obtain rfl := Option.some.inj h
            exact g_iret hx hb hr hlocks hK hlo hG ⟨rfl, rfl⟩ dX9_indexOf_27
  unfold f_X9_indexOf at h
  refine lv_iconst (v := (0 : Int32)) hx hb dX9_indexOf_0 (by decide) ?_
  refine lv_istore (lv' := [(4, .int (0 : Int32)), (0, .ref a0), (1, .int x1), (2, .long x2)]) hx hb dX9_indexOf_1 hl (by decide) rfl (fun ls hl => ?_)
  exact h3 g_N a0 x1 x2 (0 : Int32) _ _ hG _ (lv_sub hl [1, 2, 3, 0] rfl) h
set_option maxRecDepth 20000 in
set_option maxHeartbeats 4000000 in
theorem m_X0_format (l : Launch) (dd : va_G) (cT : Nat → ClassId) (lo : Nat → Prop) (G : gH) (a0 : Nat) (x1 : Int32) (x2 : Int32) {Gz : gH} (h : f_X0_format G a0 x1 x2 = some Gz) : Met l yX0_format (Cond.code yX0_format cX0_format 3 none :: wsL_law) (g_rm 1 22 0 0) (va_Pc [.ref a0, .int x1, .int x2] (g_Pre lo dd cT G)) (va_Qv (g_iv Gz) (g_Pre lo dd cT) (g_A lo)) 0 0 (g_A lo) := by
  refine g_start RX0 rfl (by decide) (Nat.le_of_ble_eq_true rfl) ?_
  intro p e s m below meth c hx hb hr hlocks hml hown hnm hts hK hG hlo ls hl
  have hl : lv_has ls 3 [(0, .ref a0), (1, .int x1), (2, .int x2)] := hl
  have hG : g_S lo dd cT s s.heap [] G := hG
  unfold f_X0_format at h
  refine lv_aload_n hx hb dX0_format_0 rfl (lv_at hl 0 rfl) ?_
  refine lv_iload_n hx hb dX0_format_1 rfl (lv_at hl 1 rfl) ?_
  obtain ⟨G2, i2, h⟩ := Option.bind_eq_some_iff.mp h
  refine g_putv hx hb hts inlX0 tyX0 tyX0_ok nmX0 hown hK hG (by rfl) 0 (by decide) qF_X0_9 rfl rfl rfl rfl i2 dX0_format_2 (fun H locs hG => ?_)
  refine lv_aload_n hx hb dX0_format_5 rfl (lv_at hl 0 rfl) ?_
  refine lv_iload_n hx hb dX0_format_6 rfl (lv_at hl 1 rfl) ?_
  refine lv_iload_n hx hb dX0_format_7 rfl (lv_at hl 2 rfl) ?_
  refine lv_isub hx hb dX0_format_8 ?_
  obtain ⟨G9, i9, h⟩ := Option.bind_eq_some_iff.mp h
  refine g_putv hx hb hts inlX0 tyX0 tyX0_ok nmX0 hown hK hG (by rfl) 1 (by decide) qF_X0_15 rfl rfl rfl rfl i9 dX0_format_9 (fun H locs hG => ?_)
  refine lv_aload_n hx hb dX0_format_12 rfl (lv_at hl 0 rfl) ?_
  refine lv_iconst (v := (0 : Int32)) hx hb dX0_format_13 (by decide) ?_
  obtain ⟨G14, i14, h⟩ := Option.bind_eq_some_iff.mp h
  refine g_putv hx hb hts inlX0 tyX0 tyX0_ok nmX0 hown hK hG (by rfl) 2 (by decide) qF_X0_18 rfl rfl rfl rfl i14 dX0_format_14 (fun H locs hG => ?_)
  refine lv_aload_n hx hb dX0_format_17 rfl (lv_at hl 0 rfl) ?_
  obtain ⟨v18, e18, h⟩ := Option.bind_eq_some_iff.mp h
  refine g_getr hx hb hts inlX0 hown hK hG (by rfl) 3 (by decide) qF_X0_21 e18 dX0_format_18 ?_
  refine lv_iconst (v := (0 : Int32)) hx hb dX0_format_21 (by decide) ?_
  obtain ⟨G22, e22, h⟩ := Option.bind_eq_some_iff.mp h
  refine g_cNv (As := [.ref v18, .int (0 : Int32)]) (rest := []) (n := 2) hx hb hml hown hts hK hlo hG (m_X9_fill l dd cT lo G14 v18 (0 : Int32) e22) (List.mem_of_getElem? (i := 6) rfl) qT_yX9_fill qN_X9 qC_yX9_fill (by decide +kernel) ⟨Nat.le_of_ble_eq_true rfl, Nat.le_of_ble_eq_true rfl⟩ rfl hl.1 rfl (Nat.le_of_ble_eq_true rfl) dX0_format_22 ⟨Nat.le_of_ble_eq_true rfl, Nat.le_of_ble_eq_true rfl⟩ (fun H locs hG => ?_)
  refine lv_aload_n hx hb dX0_format_25 rfl (lv_at hl 0 rfl) ?_
  obtain ⟨v26, e26, h⟩ := Option.bind_eq_some_iff.mp h
  refine g_getr hx hb hts inlX0 hown hK hG (by rfl) 4 (by decide) qF_X0_25 e26 dX0_format_26 ?_
  refine lv_iconst (v := (0 : Int32)) hx hb dX0_format_29 (by decide) ?_
  obtain ⟨G30, e30, h⟩ := Option.bind_eq_some_iff.mp h
  refine g_cNv (As := [.ref v26, .int (0 : Int32)]) (rest := []) (n := 2) hx hb hml hown hts hK hlo hG (m_X9_fill_ l dd cT lo G22 v26 (0 : Int32) e30) (List.mem_of_getElem? (i := 7) rfl) qT_yX9_fill_ qN_X9 qC_yX9_fill_ (by decide +kernel) ⟨Nat.le_of_ble_eq_true rfl, Nat.le_of_ble_eq_true rfl⟩ rfl hl.1 rfl (Nat.le_of_ble_eq_true rfl) dX0_format_30 ⟨Nat.le_of_ble_eq_true rfl, Nat.le_of_ble_eq_true rfl⟩ (fun H locs hG => ?_)
  refine lv_aload_n hx hb dX0_format_33 rfl (lv_at hl 0 rfl) ?_
  obtain ⟨v34, e34, h⟩ := Option.bind_eq_some_iff.mp h
  refine g_getr hx hb hts inlX0 hown hK hG (by rfl) 5 (by decide) qF_X0_29 e34 dX0_format_34 ?_
  refine lv_iconst (v := (0 : Int32)) hx hb dX0_format_37 (by decide) ?_
  obtain ⟨G38, e38, h⟩ := Option.bind_eq_some_iff.mp h
  refine g_cNv (As := [.ref v34, .int (0 : Int32)]) (rest := []) (n := 2) hx hb hml hown hts hK hlo hG (m_X9_fill_ l dd cT lo G30 v34 (0 : Int32) e38) (List.mem_of_getElem? (i := 7) rfl) qT_yX9_fill_ qN_X9 qC_yX9_fill_ (by decide +kernel) ⟨Nat.le_of_ble_eq_true rfl, Nat.le_of_ble_eq_true rfl⟩ rfl hl.1 rfl (Nat.le_of_ble_eq_true rfl) dX0_format_38 ⟨Nat.le_of_ble_eq_true rfl, Nat.le_of_ble_eq_true rfl⟩ (fun H locs hG => ?_)
  refine lv_aload_n hx hb dX0_format_41 rfl (lv_at hl 0 rfl) ?_
  obtain ⟨v42, e42, h⟩ := Option.bind_eq_some_iff.mp h
  refine g_getr hx hb hts inlX0 hown hK hG (by rfl) 6 (by decide) qF_X0_32 e42 dX0_format_42 ?_
  refine lv_iconst (v := (-1 : Int32)) hx hb dX0_format_45 (by decide) ?_
  obtain ⟨G46, e46, h⟩ := Option.bind_eq_some_iff.mp h
  refine g_cNv (As := [.ref v42, .int (-1 : Int32)]) (rest := []) (n := 2) hx hb hml hown hts hK hlo hG (m_X9_fill l dd cT lo G38 v42 (-1 : Int32) e46) (List.mem_of_getElem? (i := 6) rfl) qT_yX9_fill qN_X9 qC_yX9_fill (by decide +kernel) ⟨Nat.le_of_ble_eq_true rfl, Nat.le_of_ble_eq_true rfl⟩ rfl hl.1 rfl (Nat.le_of_ble_eq_true rfl) dX0_format_46 ⟨Nat.le_of_ble_eq_true rfl, Nat.le_of_ble_eq_true rfl⟩ (fun H locs hG => ?_)
  refine lv_aload_n hx hb dX0_format_49 rfl (lv_at hl 0 rfl) ?_
  obtain ⟨v50, e50, h⟩ := Option.bind_eq_some_iff.mp h
  refine g_getr hx hb hts inlX0 hown hK hG (by rfl) 7 (by decide) qF_X0_35 e50 dX0_format_50 ?_
  refine lv_iconst (v := (-1 : Int32)) hx hb dX0_format_53 (by decide) ?_
  obtain ⟨G54, e54, h⟩ := Option.bind_eq_some_iff.mp h
  refine g_cNv (As := [.ref v50, .int (-1 : Int32)]) (rest := []) (n := 2) hx hb hml hown hts hK hlo hG (m_X9_fill l dd cT lo G46 v50 (-1 : Int32) e54) (List.mem_of_getElem? (i := 6) rfl) qT_yX9_fill qN_X9 qC_yX9_fill (by decide +kernel) ⟨Nat.le_of_ble_eq_true rfl, Nat.le_of_ble_eq_true rfl⟩ rfl hl.1 rfl (Nat.le_of_ble_eq_true rfl) dX0_format_54 ⟨Nat.le_of_ble_eq_true rfl, Nat.le_of_ble_eq_true rfl⟩ (fun H locs hG => ?_)
  refine lv_aload_n hx hb dX0_format_57 rfl (lv_at hl 0 rfl) ?_
  obtain ⟨v58, e58, h⟩ := Option.bind_eq_some_iff.mp h
  refine g_getr hx hb hts inlX0 hown hK hG (by rfl) 8 (by decide) qF_X0_38 e58 dX0_format_58 ?_
  refine lv_iconst (v := (-1 : Int32)) hx hb dX0_format_61 (by decide) ?_
  obtain ⟨G62, e62, h⟩ := Option.bind_eq_some_iff.mp h
  refine g_cNv (As := [.ref v58, .int (-1 : Int32)]) (rest := []) (n := 2) hx hb hml hown hts hK hlo hG (m_X9_fill l dd cT lo G54 v58 (-1 : Int32) e62) (List.mem_of_getElem? (i := 6) rfl) qT_yX9_fill qN_X9 qC_yX9_fill (by decide +kernel) ⟨Nat.le_of_ble_eq_true rfl, Nat.le_of_ble_eq_true rfl⟩ rfl hl.1 rfl (Nat.le_of_ble_eq_true rfl) dX0_format_62 ⟨Nat.le_of_ble_eq_true rfl, Nat.le_of_ble_eq_true rfl⟩ (fun H locs hG => ?_)
  refine lv_aload_n hx hb dX0_format_65 rfl (lv_at hl 0 rfl) ?_
  obtain ⟨v66, e66, h⟩ := Option.bind_eq_some_iff.mp h
  refine g_getr hx hb hts inlX0 hown hK hG (by rfl) 9 (by decide) qF_X0_41 e66 dX0_format_66 ?_
  refine lv_iconst (v := (-1 : Int32)) hx hb dX0_format_69 (by decide) ?_
  obtain ⟨G70, e70, h⟩ := Option.bind_eq_some_iff.mp h
  refine g_cNv (As := [.ref v66, .int (-1 : Int32)]) (rest := []) (n := 2) hx hb hml hown hts hK hlo hG (m_X9_fill l dd cT lo G62 v66 (-1 : Int32) e70) (List.mem_of_getElem? (i := 6) rfl) qT_yX9_fill qN_X9 qC_yX9_fill (by decide +kernel) ⟨Nat.le_of_ble_eq_true rfl, Nat.le_of_ble_eq_true rfl⟩ rfl hl.1 rfl (Nat.le_of_ble_eq_true rfl) dX0_format_70 ⟨Nat.le_of_ble_eq_true rfl, Nat.le_of_ble_eq_true rfl⟩ (fun H locs hG => ?_)
  refine lv_aload_n hx hb dX0_format_73 rfl (lv_at hl 0 rfl) ?_
  obtain ⟨v74, e74, h⟩ := Option.bind_eq_some_iff.mp h
  refine g_getr hx hb hts inlX0 hown hK hG (by rfl) 10 (by decide) qF_X0_44 e74 dX0_format_74 ?_
  refine lv_iconst (v := (-1 : Int32)) hx hb dX0_format_77 (by decide) ?_
  obtain ⟨G78, e78, h⟩ := Option.bind_eq_some_iff.mp h
  refine g_cNv (As := [.ref v74, .int (-1 : Int32)]) (rest := []) (n := 2) hx hb hml hown hts hK hlo hG (m_X9_fill l dd cT lo G70 v74 (-1 : Int32) e78) (List.mem_of_getElem? (i := 6) rfl) qT_yX9_fill qN_X9 qC_yX9_fill (by decide +kernel) ⟨Nat.le_of_ble_eq_true rfl, Nat.le_of_ble_eq_true rfl⟩ rfl hl.1 rfl (Nat.le_of_ble_eq_true rfl) dX0_format_78 ⟨Nat.le_of_ble_eq_true rfl, Nat.le_of_ble_eq_true rfl⟩ (fun H locs hG => ?_)
  obtain rfl := Option.some.inj h
  exact g_vret hx hb hr hlocks hK hlo hG rfl dX0_format_81
set_option maxRecDepth 20000 in
set_option maxHeartbeats 4000000 in
theorem m_X0_takeFrom (l : Launch) (dd : va_G) (cT : Nat → ClassId) (lo : Nat → Prop) (G : gH) (a0 : Nat) (a1 : Nat) {Gz : gH} (h : f_X0_takeFrom G a0 a1 = some Gz) : Met l yX0_takeFrom (Cond.code yX0_takeFrom cX0_takeFrom 2 none :: wsL_law) (g_rm 1 22 0 0) (va_Pc [.ref a0, .ref a1] (g_Pre lo dd cT G)) (va_Qv (g_iv Gz) (g_Pre lo dd cT) (g_A lo)) 0 0 (g_A lo) := by
  refine g_start RX0 rfl (by decide) (Nat.le_of_ble_eq_true rfl) ?_
  intro p e s m below meth c hx hb hr hlocks hml hown hnm hts hK hG hlo ls hl
  have hl : lv_has ls 2 [(0, .ref a0), (1, .ref a1)] := hl
  have hG : g_S lo dd cT s s.heap [] G := hG
  unfold f_X0_takeFrom at h
  refine lv_aload_n hx hb dX0_takeFrom_0 rfl (lv_at hl 0 rfl) ?_
  refine lv_aload_n hx hb dX0_takeFrom_1 rfl (lv_at hl 1 rfl) ?_
  obtain ⟨v2, e2, h⟩ := Option.bind_eq_some_iff.mp h
  refine g_geti hx hb hts inlX0 hown hK hG (by rfl) 0 (by decide) qF_X0_9 e2 dX0_takeFrom_2 ?_
  obtain ⟨G5, i5, h⟩ := Option.bind_eq_some_iff.mp h
  refine g_putv hx hb hts inlX0 tyX0 tyX0_ok nmX0 hown hK hG (by rfl) 0 (by decide) qF_X0_9 rfl rfl rfl rfl i5 dX0_takeFrom_5 (fun H locs hG => ?_)
  refine lv_aload_n hx hb dX0_takeFrom_8 rfl (lv_at hl 0 rfl) ?_
  refine lv_aload_n hx hb dX0_takeFrom_9 rfl (lv_at hl 1 rfl) ?_
  obtain ⟨v10, e10, h⟩ := Option.bind_eq_some_iff.mp h
  refine g_geti hx hb hts inlX0 hown hK hG (by rfl) 1 (by decide) qF_X0_15 e10 dX0_takeFrom_10 ?_
  obtain ⟨G13, i13, h⟩ := Option.bind_eq_some_iff.mp h
  refine g_putv hx hb hts inlX0 tyX0 tyX0_ok nmX0 hown hK hG (by rfl) 1 (by decide) qF_X0_15 rfl rfl rfl rfl i13 dX0_takeFrom_13 (fun H locs hG => ?_)
  refine lv_aload_n hx hb dX0_takeFrom_16 rfl (lv_at hl 0 rfl) ?_
  refine lv_aload_n hx hb dX0_takeFrom_17 rfl (lv_at hl 1 rfl) ?_
  obtain ⟨v18, e18, h⟩ := Option.bind_eq_some_iff.mp h
  refine g_geti hx hb hts inlX0 hown hK hG (by rfl) 2 (by decide) qF_X0_18 e18 dX0_takeFrom_18 ?_
  obtain ⟨G21, i21, h⟩ := Option.bind_eq_some_iff.mp h
  refine g_putv hx hb hts inlX0 tyX0 tyX0_ok nmX0 hown hK hG (by rfl) 2 (by decide) qF_X0_18 rfl rfl rfl rfl i21 dX0_takeFrom_21 (fun H locs hG => ?_)
  refine lv_aload_n hx hb dX0_takeFrom_24 rfl (lv_at hl 1 rfl) ?_
  obtain ⟨v25, e25, h⟩ := Option.bind_eq_some_iff.mp h
  refine g_getr hx hb hts inlX0 hown hK hG (by rfl) 3 (by decide) qF_X0_21 e25 dX0_takeFrom_25 ?_
  refine lv_aload_n hx hb dX0_takeFrom_28 rfl (lv_at hl 0 rfl) ?_
  obtain ⟨v29, e29, h⟩ := Option.bind_eq_some_iff.mp h
  refine g_getr hx hb hts inlX0 hown hK hG (by rfl) 3 (by decide) qF_X0_21 e29 dX0_takeFrom_29 ?_
  obtain ⟨G32, e32, h⟩ := Option.bind_eq_some_iff.mp h
  refine g_cNv (As := [.ref v25, .ref v29]) (rest := []) (n := 2) hx hb hml hown hts hK hlo hG (m_X9_copy l dd cT lo G21 v25 v29 e32) (List.mem_of_getElem? (i := 8) rfl) qT_yX9_copy qN_X9 qC_yX9_copy (by decide +kernel) ⟨Nat.le_of_ble_eq_true rfl, Nat.le_of_ble_eq_true rfl⟩ rfl hl.1 rfl (Nat.le_of_ble_eq_true rfl) dX0_takeFrom_32 ⟨Nat.le_of_ble_eq_true rfl, Nat.le_of_ble_eq_true rfl⟩ (fun H locs hG => ?_)
  refine lv_aload_n hx hb dX0_takeFrom_35 rfl (lv_at hl 1 rfl) ?_
  obtain ⟨v36, e36, h⟩ := Option.bind_eq_some_iff.mp h
  refine g_getr hx hb hts inlX0 hown hK hG (by rfl) 4 (by decide) qF_X0_25 e36 dX0_takeFrom_36 ?_
  refine lv_aload_n hx hb dX0_takeFrom_39 rfl (lv_at hl 0 rfl) ?_
  obtain ⟨v40, e40, h⟩ := Option.bind_eq_some_iff.mp h
  refine g_getr hx hb hts inlX0 hown hK hG (by rfl) 4 (by decide) qF_X0_25 e40 dX0_takeFrom_40 ?_
  obtain ⟨G43, e43, h⟩ := Option.bind_eq_some_iff.mp h
  refine g_cNv (As := [.ref v36, .ref v40]) (rest := []) (n := 2) hx hb hml hown hts hK hlo hG (m_X9_copy_ l dd cT lo G32 v36 v40 e43) (List.mem_of_getElem? (i := 9) rfl) qT_yX9_copy_ qN_X9 qC_yX9_copy_ (by decide +kernel) ⟨Nat.le_of_ble_eq_true rfl, Nat.le_of_ble_eq_true rfl⟩ rfl hl.1 rfl (Nat.le_of_ble_eq_true rfl) dX0_takeFrom_43 ⟨Nat.le_of_ble_eq_true rfl, Nat.le_of_ble_eq_true rfl⟩ (fun H locs hG => ?_)
  refine lv_aload_n hx hb dX0_takeFrom_46 rfl (lv_at hl 1 rfl) ?_
  obtain ⟨v47, e47, h⟩ := Option.bind_eq_some_iff.mp h
  refine g_getr hx hb hts inlX0 hown hK hG (by rfl) 5 (by decide) qF_X0_29 e47 dX0_takeFrom_47 ?_
  refine lv_aload_n hx hb dX0_takeFrom_50 rfl (lv_at hl 0 rfl) ?_
  obtain ⟨v51, e51, h⟩ := Option.bind_eq_some_iff.mp h
  refine g_getr hx hb hts inlX0 hown hK hG (by rfl) 5 (by decide) qF_X0_29 e51 dX0_takeFrom_51 ?_
  obtain ⟨G54, e54, h⟩ := Option.bind_eq_some_iff.mp h
  refine g_cNv (As := [.ref v47, .ref v51]) (rest := []) (n := 2) hx hb hml hown hts hK hlo hG (m_X9_copy_ l dd cT lo G43 v47 v51 e54) (List.mem_of_getElem? (i := 9) rfl) qT_yX9_copy_ qN_X9 qC_yX9_copy_ (by decide +kernel) ⟨Nat.le_of_ble_eq_true rfl, Nat.le_of_ble_eq_true rfl⟩ rfl hl.1 rfl (Nat.le_of_ble_eq_true rfl) dX0_takeFrom_54 ⟨Nat.le_of_ble_eq_true rfl, Nat.le_of_ble_eq_true rfl⟩ (fun H locs hG => ?_)
  refine lv_aload_n hx hb dX0_takeFrom_57 rfl (lv_at hl 1 rfl) ?_
  obtain ⟨v58, e58, h⟩ := Option.bind_eq_some_iff.mp h
  refine g_getr hx hb hts inlX0 hown hK hG (by rfl) 6 (by decide) qF_X0_32 e58 dX0_takeFrom_58 ?_
  refine lv_aload_n hx hb dX0_takeFrom_61 rfl (lv_at hl 0 rfl) ?_
  obtain ⟨v62, e62, h⟩ := Option.bind_eq_some_iff.mp h
  refine g_getr hx hb hts inlX0 hown hK hG (by rfl) 6 (by decide) qF_X0_32 e62 dX0_takeFrom_62 ?_
  obtain ⟨G65, e65, h⟩ := Option.bind_eq_some_iff.mp h
  refine g_cNv (As := [.ref v58, .ref v62]) (rest := []) (n := 2) hx hb hml hown hts hK hlo hG (m_X9_copy l dd cT lo G54 v58 v62 e65) (List.mem_of_getElem? (i := 8) rfl) qT_yX9_copy qN_X9 qC_yX9_copy (by decide +kernel) ⟨Nat.le_of_ble_eq_true rfl, Nat.le_of_ble_eq_true rfl⟩ rfl hl.1 rfl (Nat.le_of_ble_eq_true rfl) dX0_takeFrom_65 ⟨Nat.le_of_ble_eq_true rfl, Nat.le_of_ble_eq_true rfl⟩ (fun H locs hG => ?_)
  refine lv_aload_n hx hb dX0_takeFrom_68 rfl (lv_at hl 1 rfl) ?_
  obtain ⟨v69, e69, h⟩ := Option.bind_eq_some_iff.mp h
  refine g_getr hx hb hts inlX0 hown hK hG (by rfl) 7 (by decide) qF_X0_35 e69 dX0_takeFrom_69 ?_
  refine lv_aload_n hx hb dX0_takeFrom_72 rfl (lv_at hl 0 rfl) ?_
  obtain ⟨v73, e73, h⟩ := Option.bind_eq_some_iff.mp h
  refine g_getr hx hb hts inlX0 hown hK hG (by rfl) 7 (by decide) qF_X0_35 e73 dX0_takeFrom_73 ?_
  obtain ⟨G76, e76, h⟩ := Option.bind_eq_some_iff.mp h
  refine g_cNv (As := [.ref v69, .ref v73]) (rest := []) (n := 2) hx hb hml hown hts hK hlo hG (m_X9_copy l dd cT lo G65 v69 v73 e76) (List.mem_of_getElem? (i := 8) rfl) qT_yX9_copy qN_X9 qC_yX9_copy (by decide +kernel) ⟨Nat.le_of_ble_eq_true rfl, Nat.le_of_ble_eq_true rfl⟩ rfl hl.1 rfl (Nat.le_of_ble_eq_true rfl) dX0_takeFrom_76 ⟨Nat.le_of_ble_eq_true rfl, Nat.le_of_ble_eq_true rfl⟩ (fun H locs hG => ?_)
  refine lv_aload_n hx hb dX0_takeFrom_79 rfl (lv_at hl 1 rfl) ?_
  obtain ⟨v80, e80, h⟩ := Option.bind_eq_some_iff.mp h
  refine g_getr hx hb hts inlX0 hown hK hG (by rfl) 8 (by decide) qF_X0_38 e80 dX0_takeFrom_80 ?_
  refine lv_aload_n hx hb dX0_takeFrom_83 rfl (lv_at hl 0 rfl) ?_
  obtain ⟨v84, e84, h⟩ := Option.bind_eq_some_iff.mp h
  refine g_getr hx hb hts inlX0 hown hK hG (by rfl) 8 (by decide) qF_X0_38 e84 dX0_takeFrom_84 ?_
  obtain ⟨G87, e87, h⟩ := Option.bind_eq_some_iff.mp h
  refine g_cNv (As := [.ref v80, .ref v84]) (rest := []) (n := 2) hx hb hml hown hts hK hlo hG (m_X9_copy l dd cT lo G76 v80 v84 e87) (List.mem_of_getElem? (i := 8) rfl) qT_yX9_copy qN_X9 qC_yX9_copy (by decide +kernel) ⟨Nat.le_of_ble_eq_true rfl, Nat.le_of_ble_eq_true rfl⟩ rfl hl.1 rfl (Nat.le_of_ble_eq_true rfl) dX0_takeFrom_87 ⟨Nat.le_of_ble_eq_true rfl, Nat.le_of_ble_eq_true rfl⟩ (fun H locs hG => ?_)
  refine lv_aload_n hx hb dX0_takeFrom_90 rfl (lv_at hl 1 rfl) ?_
  obtain ⟨v91, e91, h⟩ := Option.bind_eq_some_iff.mp h
  refine g_getr hx hb hts inlX0 hown hK hG (by rfl) 9 (by decide) qF_X0_41 e91 dX0_takeFrom_91 ?_
  refine lv_aload_n hx hb dX0_takeFrom_94 rfl (lv_at hl 0 rfl) ?_
  obtain ⟨v95, e95, h⟩ := Option.bind_eq_some_iff.mp h
  refine g_getr hx hb hts inlX0 hown hK hG (by rfl) 9 (by decide) qF_X0_41 e95 dX0_takeFrom_95 ?_
  obtain ⟨G98, e98, h⟩ := Option.bind_eq_some_iff.mp h
  refine g_cNv (As := [.ref v91, .ref v95]) (rest := []) (n := 2) hx hb hml hown hts hK hlo hG (m_X9_copy l dd cT lo G87 v91 v95 e98) (List.mem_of_getElem? (i := 8) rfl) qT_yX9_copy qN_X9 qC_yX9_copy (by decide +kernel) ⟨Nat.le_of_ble_eq_true rfl, Nat.le_of_ble_eq_true rfl⟩ rfl hl.1 rfl (Nat.le_of_ble_eq_true rfl) dX0_takeFrom_98 ⟨Nat.le_of_ble_eq_true rfl, Nat.le_of_ble_eq_true rfl⟩ (fun H locs hG => ?_)
  refine lv_aload_n hx hb dX0_takeFrom_101 rfl (lv_at hl 1 rfl) ?_
  obtain ⟨v102, e102, h⟩ := Option.bind_eq_some_iff.mp h
  refine g_getr hx hb hts inlX0 hown hK hG (by rfl) 10 (by decide) qF_X0_44 e102 dX0_takeFrom_102 ?_
  refine lv_aload_n hx hb dX0_takeFrom_105 rfl (lv_at hl 0 rfl) ?_
  obtain ⟨v106, e106, h⟩ := Option.bind_eq_some_iff.mp h
  refine g_getr hx hb hts inlX0 hown hK hG (by rfl) 10 (by decide) qF_X0_44 e106 dX0_takeFrom_106 ?_
  obtain ⟨G109, e109, h⟩ := Option.bind_eq_some_iff.mp h
  refine g_cNv (As := [.ref v102, .ref v106]) (rest := []) (n := 2) hx hb hml hown hts hK hlo hG (m_X9_copy l dd cT lo G98 v102 v106 e109) (List.mem_of_getElem? (i := 8) rfl) qT_yX9_copy qN_X9 qC_yX9_copy (by decide +kernel) ⟨Nat.le_of_ble_eq_true rfl, Nat.le_of_ble_eq_true rfl⟩ rfl hl.1 rfl (Nat.le_of_ble_eq_true rfl) dX0_takeFrom_109 ⟨Nat.le_of_ble_eq_true rfl, Nat.le_of_ble_eq_true rfl⟩ (fun H locs hG => ?_)
  obtain rfl := Option.some.inj h
  exact g_vret hx hb hr hlocks hK hlo hG rfl dX0_takeFrom_112
set_option maxRecDepth 20000 in
set_option maxHeartbeats 4000000 in
theorem m_X0_kindOf (l : Launch) (dd : va_G) (cT : Nat → ClassId) (lo : Nat → Prop) (G : gH) (a0 : Nat) (x1 : Int32) {rz : Int32} (h : f_X0_kindOf G a0 x1 = some rz) : Met l yX0_kindOf (Cond.code yX0_kindOf cX0_kindOf 2 (some .int) :: wsL_law) (g_rm 1 22 0 0) (va_Pc [.ref a0, .int x1] (g_Pre lo dd cT G)) (va_Qi (g_is rz G) (g_Pre lo dd cT) (g_A lo)) 0 0 (g_A lo) := by
  refine g_start RX0 rfl (by decide) (Nat.le_of_ble_eq_true rfl) ?_
  intro p e s m below meth c hx hb hr hlocks hml hown hnm hts hK hG hlo ls hl
  have hl : lv_has ls 2 [(0, .ref a0), (1, .int x1)] := hl
  have hG : g_S lo dd cT s s.heap [] G := hG
  unfold f_X0_kindOf at h
  refine lv_aload_n hx hb dX0_kindOf_0 rfl (lv_at hl 0 rfl) ?_
  obtain ⟨v1, e1, h⟩ := Option.bind_eq_some_iff.mp h
  refine g_getr hx hb hts inlX0 hown hK hG (by rfl) 3 (by decide) qF_X0_21 e1 dX0_kindOf_1 ?_
  refine lv_iload_n hx hb dX0_kindOf_4 rfl (lv_at hl 1 rfl) ?_
  refine lv_iconst (v := (0 : Int32)) hx hb dX0_kindOf_5 (by decide) ?_
  obtain ⟨v6, e6, h⟩ := Option.bind_eq_some_iff.mp h
  refine g_cNi (As := [.ref v1, .int x1, .int (0 : Int32)]) (rest := []) (n := 3) hx hb hml hown hts hK hlo hG (m_X9_at l dd cT lo G v1 x1 (0 : Int32) e6) (List.mem_of_getElem? (i := 10) rfl) qT_yX9_at qN_X9 qC_yX9_at (by decide +kernel) ⟨Nat.le_of_ble_eq_true rfl, Nat.le_of_ble_eq_true rfl⟩ rfl hl.1 rfl (Nat.le_of_ble_eq_true rfl) dX0_kindOf_6 ⟨Nat.le_of_ble_eq_true rfl, Nat.le_of_ble_eq_true rfl⟩ (fun H locs hG => ?_)
  obtain rfl := Option.some.inj h
  exact g_iret hx hb hr hlocks hK hlo hG ⟨rfl, rfl⟩ dX0_kindOf_9
set_option maxRecDepth 20000 in
set_option maxHeartbeats 4000000 in
theorem m_X0_writerOf (l : Launch) (dd : va_G) (cT : Nat → ClassId) (lo : Nat → Prop) (G : gH) (a0 : Nat) (x1 : Int32) {rz : Int32} (h : f_X0_writerOf G a0 x1 = some rz) : Met l yX0_writerOf (Cond.code yX0_writerOf cX0_writerOf 2 (some .int) :: wsL_law) (g_rm 1 22 0 0) (va_Pc [.ref a0, .int x1] (g_Pre lo dd cT G)) (va_Qi (g_is rz G) (g_Pre lo dd cT) (g_A lo)) 0 0 (g_A lo) := by
  refine g_start RX0 rfl (by decide) (Nat.le_of_ble_eq_true rfl) ?_
  intro p e s m below meth c hx hb hr hlocks hml hown hnm hts hK hG hlo ls hl
  have hl : lv_has ls 2 [(0, .ref a0), (1, .int x1)] := hl
  have hG : g_S lo dd cT s s.heap [] G := hG
  unfold f_X0_writerOf at h
  refine lv_aload_n hx hb dX0_writerOf_0 rfl (lv_at hl 0 rfl) ?_
  obtain ⟨v1, e1, h⟩ := Option.bind_eq_some_iff.mp h
  refine g_getr hx hb hts inlX0 hown hK hG (by rfl) 6 (by decide) qF_X0_32 e1 dX0_writerOf_1 ?_
  refine lv_iload_n hx hb dX0_writerOf_4 rfl (lv_at hl 1 rfl) ?_
  refine lv_iconst (v := (-1 : Int32)) hx hb dX0_writerOf_5 (by decide) ?_
  obtain ⟨v6, e6, h⟩ := Option.bind_eq_some_iff.mp h
  refine g_cNi (As := [.ref v1, .int x1, .int (-1 : Int32)]) (rest := []) (n := 3) hx hb hml hown hts hK hlo hG (m_X9_at l dd cT lo G v1 x1 (-1 : Int32) e6) (List.mem_of_getElem? (i := 10) rfl) qT_yX9_at qN_X9 qC_yX9_at (by decide +kernel) ⟨Nat.le_of_ble_eq_true rfl, Nat.le_of_ble_eq_true rfl⟩ rfl hl.1 rfl (Nat.le_of_ble_eq_true rfl) dX0_writerOf_6 ⟨Nat.le_of_ble_eq_true rfl, Nat.le_of_ble_eq_true rfl⟩ (fun H locs hG => ?_)
  obtain rfl := Option.some.inj h
  exact g_iret hx hb hr hlocks hK hlo hG ⟨rfl, rfl⟩ dX0_writerOf_9
set_option maxRecDepth 20000 in
set_option maxHeartbeats 4000000 in
theorem m_X0_dataVersionOf (l : Launch) (dd : va_G) (cT : Nat → ClassId) (lo : Nat → Prop) (G : gH) (a0 : Nat) (x1 : Int32) {rz : Int32} (h : f_X0_dataVersionOf G a0 x1 = some rz) : Met l yX0_dataVersionOf (Cond.code yX0_dataVersionOf cX0_dataVersionOf 2 (some .int) :: wsL_law) (g_rm 1 22 0 0) (va_Pc [.ref a0, .int x1] (g_Pre lo dd cT G)) (va_Qi (g_is rz G) (g_Pre lo dd cT) (g_A lo)) 0 0 (g_A lo) := by
  refine g_start RX0 rfl (by decide) (Nat.le_of_ble_eq_true rfl) ?_
  intro p e s m below meth c hx hb hr hlocks hml hown hnm hts hK hG hlo ls hl
  have hl : lv_has ls 2 [(0, .ref a0), (1, .int x1)] := hl
  have hG : g_S lo dd cT s s.heap [] G := hG
  unfold f_X0_dataVersionOf at h
  refine lv_aload_n hx hb dX0_dataVersionOf_0 rfl (lv_at hl 0 rfl) ?_
  obtain ⟨v1, e1, h⟩ := Option.bind_eq_some_iff.mp h
  refine g_getr hx hb hts inlX0 hown hK hG (by rfl) 7 (by decide) qF_X0_35 e1 dX0_dataVersionOf_1 ?_
  refine lv_iload_n hx hb dX0_dataVersionOf_4 rfl (lv_at hl 1 rfl) ?_
  refine lv_iconst (v := (-1 : Int32)) hx hb dX0_dataVersionOf_5 (by decide) ?_
  obtain ⟨v6, e6, h⟩ := Option.bind_eq_some_iff.mp h
  refine g_cNi (As := [.ref v1, .int x1, .int (-1 : Int32)]) (rest := []) (n := 3) hx hb hml hown hts hK hlo hG (m_X9_at l dd cT lo G v1 x1 (-1 : Int32) e6) (List.mem_of_getElem? (i := 10) rfl) qT_yX9_at qN_X9 qC_yX9_at (by decide +kernel) ⟨Nat.le_of_ble_eq_true rfl, Nat.le_of_ble_eq_true rfl⟩ rfl hl.1 rfl (Nat.le_of_ble_eq_true rfl) dX0_dataVersionOf_6 ⟨Nat.le_of_ble_eq_true rfl, Nat.le_of_ble_eq_true rfl⟩ (fun H locs hG => ?_)
  obtain rfl := Option.some.inj h
  exact g_iret hx hb hr hlocks hK hlo hG ⟨rfl, rfl⟩ dX0_dataVersionOf_9
set_option maxRecDepth 20000 in
set_option maxHeartbeats 4000000 in
theorem m_X0_placeOf (l : Launch) (dd : va_G) (cT : Nat → ClassId) (lo : Nat → Prop) (G : gH) (a0 : Nat) (x1 : Int32) {rz : Int32} (h : f_X0_placeOf G a0 x1 = some rz) : Met l yX0_placeOf (Cond.code yX0_placeOf cX0_placeOf 2 (some .int) :: wsL_law) (g_rm 1 22 0 0) (va_Pc [.ref a0, .int x1] (g_Pre lo dd cT G)) (va_Qi (g_is rz G) (g_Pre lo dd cT) (g_A lo)) 0 0 (g_A lo) := by
  refine g_start RX0 rfl (by decide) (Nat.le_of_ble_eq_true rfl) ?_
  intro p e s m below meth c hx hb hr hlocks hml hown hnm hts hK hG hlo ls hl
  have hl : lv_has ls 2 [(0, .ref a0), (1, .int x1)] := hl
  have hG : g_S lo dd cT s s.heap [] G := hG
  unfold f_X0_placeOf at h
  refine lv_aload_n hx hb dX0_placeOf_0 rfl (lv_at hl 0 rfl) ?_
  obtain ⟨v1, e1, h⟩ := Option.bind_eq_some_iff.mp h
  refine g_getr hx hb hts inlX0 hown hK hG (by rfl) 10 (by decide) qF_X0_44 e1 dX0_placeOf_1 ?_
  refine lv_iload_n hx hb dX0_placeOf_4 rfl (lv_at hl 1 rfl) ?_
  refine lv_iconst (v := (-1 : Int32)) hx hb dX0_placeOf_5 (by decide) ?_
  obtain ⟨v6, e6, h⟩ := Option.bind_eq_some_iff.mp h
  refine g_cNi (As := [.ref v1, .int x1, .int (-1 : Int32)]) (rest := []) (n := 3) hx hb hml hown hts hK hlo hG (m_X9_at l dd cT lo G v1 x1 (-1 : Int32) e6) (List.mem_of_getElem? (i := 10) rfl) qT_yX9_at qN_X9 qC_yX9_at (by decide +kernel) ⟨Nat.le_of_ble_eq_true rfl, Nat.le_of_ble_eq_true rfl⟩ rfl hl.1 rfl (Nat.le_of_ble_eq_true rfl) dX0_placeOf_6 ⟨Nat.le_of_ble_eq_true rfl, Nat.le_of_ble_eq_true rfl⟩ (fun H locs hG => ?_)
  obtain rfl := Option.some.inj h
  exact g_iret hx hb hr hlocks hK hlo hG ⟨rfl, rfl⟩ dX0_placeOf_9
set_option maxRecDepth 20000 in
set_option maxHeartbeats 4000000 in
theorem m_X0_isBad (l : Launch) (dd : va_G) (cT : Nat → ClassId) (lo : Nat → Prop) (G : gH) (a0 : Nat) (x1 : Int32) {rz : Int32} (h : f_X0_isBad G a0 x1 = some rz) : Met l yX0_isBad (Cond.code yX0_isBad cX0_isBad 2 (some .boolean) :: wsL_law) (g_rm 1 21 0 0) (va_Pc [.ref a0, .int x1] (g_Pre lo dd cT G)) (va_Qi (g_is rz G) (g_Pre lo dd cT) (g_A lo)) 0 0 (g_A lo) := by
  refine g_start RX0 rfl (by decide) (Nat.le_of_ble_eq_true rfl) ?_
  intro p e s m below meth c hx hb hr hlocks hml hown hnm hts hK hG hlo ls hl
  have hl : lv_has ls 2 [(0, .ref a0), (1, .int x1)] := hl
  have hG : g_S lo dd cT s s.heap [] G := hG
  unfold f_X0_isBad at h
  refine lv_aload_n hx hb dX0_isBad_0 rfl (lv_at hl 0 rfl) ?_
  obtain ⟨v1, e1, h⟩ := Option.bind_eq_some_iff.mp h
  refine g_getr hx hb hts inlX0 hown hK hG (by rfl) 4 (by decide) qF_X0_25 e1 dX0_isBad_1 ?_
  refine lv_iload_n hx hb dX0_isBad_4 rfl (lv_at hl 1 rfl) ?_
  obtain ⟨v5, e5, h⟩ := Option.bind_eq_some_iff.mp h
  refine g_cNi (As := [.ref v1, .int x1]) (rest := []) (n := 2) hx hb hml hown hts hK hlo hG (m_X9_isSet l dd cT lo G v1 x1 e5) (List.mem_of_getElem? (i := 11) rfl) qT_yX9_isSet qN_X9 qC_yX9_isSet (by decide +kernel) ⟨Nat.le_of_ble_eq_true rfl, Nat.le_of_ble_eq_true rfl⟩ rfl hl.1 rfl (Nat.le_of_ble_eq_true rfl) dX0_isBad_5 ⟨Nat.le_of_ble_eq_true rfl, Nat.le_of_ble_eq_true rfl⟩ (fun H locs hG => ?_)
  obtain ⟨n8, rfl⟩ := g_z_nar h
  exact g_zret hx hb hr hlocks hK hlo hG n8 ⟨rfl, rfl⟩ dX0_isBad_8
set_option maxRecDepth 20000 in
set_option maxHeartbeats 4000000 in
theorem m_X0_isUnreadable (l : Launch) (dd : va_G) (cT : Nat → ClassId) (lo : Nat → Prop) (G : gH) (a0 : Nat) (x1 : Int32) {rz : Int32} (h : f_X0_isUnreadable G a0 x1 = some rz) : Met l yX0_isUnreadable (Cond.code yX0_isUnreadable cX0_isUnreadable 2 (some .boolean) :: wsL_law) (g_rm 1 21 0 0) (va_Pc [.ref a0, .int x1] (g_Pre lo dd cT G)) (va_Qi (g_is rz G) (g_Pre lo dd cT) (g_A lo)) 0 0 (g_A lo) := by
  refine g_start RX0 rfl (by decide) (Nat.le_of_ble_eq_true rfl) ?_
  intro p e s m below meth c hx hb hr hlocks hml hown hnm hts hK hG hlo ls hl
  have hl : lv_has ls 2 [(0, .ref a0), (1, .int x1)] := hl
  have hG : g_S lo dd cT s s.heap [] G := hG
  unfold f_X0_isUnreadable at h
  refine lv_aload_n hx hb dX0_isUnreadable_0 rfl (lv_at hl 0 rfl) ?_
  obtain ⟨v1, e1, h⟩ := Option.bind_eq_some_iff.mp h
  refine g_getr hx hb hts inlX0 hown hK hG (by rfl) 5 (by decide) qF_X0_29 e1 dX0_isUnreadable_1 ?_
  refine lv_iload_n hx hb dX0_isUnreadable_4 rfl (lv_at hl 1 rfl) ?_
  obtain ⟨v5, e5, h⟩ := Option.bind_eq_some_iff.mp h
  refine g_cNi (As := [.ref v1, .int x1]) (rest := []) (n := 2) hx hb hml hown hts hK hlo hG (m_X9_isSet l dd cT lo G v1 x1 e5) (List.mem_of_getElem? (i := 11) rfl) qT_yX9_isSet qN_X9 qC_yX9_isSet (by decide +kernel) ⟨Nat.le_of_ble_eq_true rfl, Nat.le_of_ble_eq_true rfl⟩ rfl hl.1 rfl (Nat.le_of_ble_eq_true rfl) dX0_isUnreadable_5 ⟨Nat.le_of_ble_eq_true rfl, Nat.le_of_ble_eq_true rfl⟩ (fun H locs hG => ?_)
  obtain ⟨n8, rfl⟩ := g_z_nar h
  exact g_zret hx hb hr hlocks hK hlo hG n8 ⟨rfl, rfl⟩ dX0_isUnreadable_8
set_option maxRecDepth 20000 in
set_option maxHeartbeats 4000000 in
theorem m_X0_property (l : Launch) (dd : va_G) (cT : Nat → ClassId) (lo : Nat → Prop) (G : gH) (a0 : Nat) (x1 : Int32) (x2 : Int32) {rz : Int32} (h : f_X0_property G a0 x1 x2 = some rz) : Met l yX0_property (Cond.code yX0_property cX0_property 3 (some .int) :: wsL_law) (g_rm 2 43 0 0) (va_Pc [.ref a0, .int x1, .int x2] (g_Pre lo dd cT G)) (va_Qi (g_is rz G) (g_Pre lo dd cT) (g_A lo)) 0 0 (g_A lo) := by
  refine g_start RX0 rfl (by decide) (Nat.le_of_ble_eq_true rfl) ?_
  intro p e s m below meth c hx hb hr hlocks hml hown hnm hts hK hG hlo ls hl
  have hl : lv_has ls 3 [(0, .ref a0), (1, .int x1), (2, .int x2)] := hl
  have hG : g_S lo dd cT s s.heap [] G := hG
  unfold f_X0_property at h
  refine lv_iload_n hx hb dX0_property_0 rfl (lv_at hl 2 rfl) ?_
  by_cases c1_0 : x2 = (0 : Int32)
  · rw [if_pos c1_0] at h
    refine g_swIn (tgt := 40) hx hb dX0_property_1 (0 : Int32) c1_0 (by decide) (by decide) 39 (by decide) (by decide) ?_
    refine lv_aload_n hx hb dX0_property_40 rfl (lv_at hl 0 rfl) ?_
    refine lv_iload_n hx hb dX0_property_41 rfl (lv_at hl 1 rfl) ?_
    obtain ⟨u42, i42, h⟩ := Option.bind_eq_some_iff.mp h
    obtain ⟨v42, e42, h⟩ := Option.bind_eq_some_iff.mp h
    refine g_cVi (As := [.int x1]) (rest := []) (n := 1) hx hb hml hown hts hK hlo hG (m_X0_kindOf l dd cT lo G a0 x1 e42) qM_X0_69 qI_yX0_kindOf qS_X0_yX0_kindOf qN_X0 qC_yX0_kindOf (by decide +kernel) ⟨Nat.le_of_ble_eq_true rfl, Nat.le_of_ble_eq_true rfl⟩ (by rfl) i42 rfl hl.1 rfl (Nat.le_of_ble_eq_true rfl) dX0_property_42 ⟨Nat.le_of_ble_eq_true rfl, Nat.le_of_ble_eq_true rfl⟩ (fun H locs hG => ?_)
    obtain rfl := Option.some.inj h
    exact g_iret hx hb hr hlocks hK hlo hG ⟨rfl, rfl⟩ dX0_property_45
  rw [if_neg c1_0] at h
  by_cases c1_1 : x2 = (1 : Int32)
  · rw [if_pos c1_1] at h
    refine g_swIn (tgt := 46) hx hb dX0_property_1 (1 : Int32) c1_1 (by decide) (by decide) 45 (by decide) (by decide) ?_
    refine lv_aload_n hx hb dX0_property_46 rfl (lv_at hl 0 rfl) ?_
    refine lv_iload_n hx hb dX0_property_47 rfl (lv_at hl 1 rfl) ?_
    obtain ⟨u48, i48, h⟩ := Option.bind_eq_some_iff.mp h
    obtain ⟨v48, e48, h⟩ := Option.bind_eq_some_iff.mp h
    refine g_cVi (As := [.int x1]) (rest := []) (n := 1) hx hb hml hown hts hK hlo hG (m_X0_isBad l dd cT lo G a0 x1 e48) qM_X0_73 qI_yX0_isBad qS_X0_yX0_isBad qN_X0 qC_yX0_isBad (by decide +kernel) ⟨Nat.le_of_ble_eq_true rfl, Nat.le_of_ble_eq_true rfl⟩ (by rfl) i48 rfl hl.1 rfl (Nat.le_of_ble_eq_true rfl) dX0_property_48 ⟨Nat.le_of_ble_eq_true rfl, Nat.le_of_ble_eq_true rfl⟩ (fun H locs hG => ?_)
    obtain ⟨v51, e51, h⟩ := Option.bind_eq_some_iff.mp h
    refine g_cNi (As := [.int v48]) (rest := []) (n := 1) hx hb hml hown hts hK hlo hG (m_X9_oneIf l dd cT lo G v48 e51) (List.mem_of_getElem? (i := 12) rfl) qT_yX9_oneIf qN_X9 qC_yX9_oneIf (by decide +kernel) ⟨Nat.le_of_ble_eq_true rfl, Nat.le_of_ble_eq_true rfl⟩ rfl hl.1 rfl (Nat.le_of_ble_eq_true rfl) dX0_property_51 ⟨Nat.le_of_ble_eq_true rfl, Nat.le_of_ble_eq_true rfl⟩ (fun H locs hG => ?_)
    obtain rfl := Option.some.inj h
    exact g_iret hx hb hr hlocks hK hlo hG ⟨rfl, rfl⟩ dX0_property_54
  rw [if_neg c1_1] at h
  by_cases c1_2 : x2 = (2 : Int32)
  · rw [if_pos c1_2] at h
    refine g_swIn (tgt := 55) hx hb dX0_property_1 (2 : Int32) c1_2 (by decide) (by decide) 54 (by decide) (by decide) ?_
    refine lv_aload_n hx hb dX0_property_55 rfl (lv_at hl 0 rfl) ?_
    refine lv_iload_n hx hb dX0_property_56 rfl (lv_at hl 1 rfl) ?_
    obtain ⟨u57, i57, h⟩ := Option.bind_eq_some_iff.mp h
    obtain ⟨v57, e57, h⟩ := Option.bind_eq_some_iff.mp h
    refine g_cVi (As := [.int x1]) (rest := []) (n := 1) hx hb hml hown hts hK hlo hG (m_X0_isUnreadable l dd cT lo G a0 x1 e57) qM_X0_81 qI_yX0_isUnreadable qS_X0_yX0_isUnreadable qN_X0 qC_yX0_isUnreadable (by decide +kernel) ⟨Nat.le_of_ble_eq_true rfl, Nat.le_of_ble_eq_true rfl⟩ (by rfl) i57 rfl hl.1 rfl (Nat.le_of_ble_eq_true rfl) dX0_property_57 ⟨Nat.le_of_ble_eq_true rfl, Nat.le_of_ble_eq_true rfl⟩ (fun H locs hG => ?_)
    obtain ⟨v60, e60, h⟩ := Option.bind_eq_some_iff.mp h
    refine g_cNi (As := [.int v57]) (rest := []) (n := 1) hx hb hml hown hts hK hlo hG (m_X9_oneIf l dd cT lo G v57 e60) (List.mem_of_getElem? (i := 12) rfl) qT_yX9_oneIf qN_X9 qC_yX9_oneIf (by decide +kernel) ⟨Nat.le_of_ble_eq_true rfl, Nat.le_of_ble_eq_true rfl⟩ rfl hl.1 rfl (Nat.le_of_ble_eq_true rfl) dX0_property_60 ⟨Nat.le_of_ble_eq_true rfl, Nat.le_of_ble_eq_true rfl⟩ (fun H locs hG => ?_)
    obtain rfl := Option.some.inj h
    exact g_iret hx hb hr hlocks hK hlo hG ⟨rfl, rfl⟩ dX0_property_63
  rw [if_neg c1_2] at h
  by_cases c1_3 : x2 = (3 : Int32)
  · rw [if_pos c1_3] at h
    refine g_swIn (tgt := 64) hx hb dX0_property_1 (3 : Int32) c1_3 (by decide) (by decide) 63 (by decide) (by decide) ?_
    refine lv_aload_n hx hb dX0_property_64 rfl (lv_at hl 0 rfl) ?_
    refine lv_iload_n hx hb dX0_property_65 rfl (lv_at hl 1 rfl) ?_
    obtain ⟨u66, i66, h⟩ := Option.bind_eq_some_iff.mp h
    obtain ⟨v66, e66, h⟩ := Option.bind_eq_some_iff.mp h
    refine g_cVi (As := [.int x1]) (rest := []) (n := 1) hx hb hml hown hts hK hlo hG (m_X0_writerOf l dd cT lo G a0 x1 e66) qM_X0_84 qI_yX0_writerOf qS_X0_yX0_writerOf qN_X0 qC_yX0_writerOf (by decide +kernel) ⟨Nat.le_of_ble_eq_true rfl, Nat.le_of_ble_eq_true rfl⟩ (by rfl) i66 rfl hl.1 rfl (Nat.le_of_ble_eq_true rfl) dX0_property_66 ⟨Nat.le_of_ble_eq_true rfl, Nat.le_of_ble_eq_true rfl⟩ (fun H locs hG => ?_)
    obtain rfl := Option.some.inj h
    exact g_iret hx hb hr hlocks hK hlo hG ⟨rfl, rfl⟩ dX0_property_69
  rw [if_neg c1_3] at h
  by_cases c1_4 : x2 = (4 : Int32)
  · rw [if_pos c1_4] at h
    refine g_swIn (tgt := 70) hx hb dX0_property_1 (4 : Int32) c1_4 (by decide) (by decide) 69 (by decide) (by decide) ?_
    refine lv_aload_n hx hb dX0_property_70 rfl (lv_at hl 0 rfl) ?_
    refine lv_iload_n hx hb dX0_property_71 rfl (lv_at hl 1 rfl) ?_
    obtain ⟨u72, i72, h⟩ := Option.bind_eq_some_iff.mp h
    obtain ⟨v72, e72, h⟩ := Option.bind_eq_some_iff.mp h
    refine g_cVi (As := [.int x1]) (rest := []) (n := 1) hx hb hml hown hts hK hlo hG (m_X0_dataVersionOf l dd cT lo G a0 x1 e72) qM_X0_87 qI_yX0_dataVersionOf qS_X0_yX0_dataVersionOf qN_X0 qC_yX0_dataVersionOf (by decide +kernel) ⟨Nat.le_of_ble_eq_true rfl, Nat.le_of_ble_eq_true rfl⟩ (by rfl) i72 rfl hl.1 rfl (Nat.le_of_ble_eq_true rfl) dX0_property_72 ⟨Nat.le_of_ble_eq_true rfl, Nat.le_of_ble_eq_true rfl⟩ (fun H locs hG => ?_)
    obtain rfl := Option.some.inj h
    exact g_iret hx hb hr hlocks hK hlo hG ⟨rfl, rfl⟩ dX0_property_75
  rw [if_neg c1_4] at h
  by_cases c1_5 : x2 = (5 : Int32)
  · rw [if_pos c1_5] at h
    refine g_swIn (tgt := 76) hx hb dX0_property_1 (5 : Int32) c1_5 (by decide) (by decide) 75 (by decide) (by decide) ?_
    refine lv_aload_n hx hb dX0_property_76 rfl (lv_at hl 0 rfl) ?_
    obtain ⟨v77, e77, h⟩ := Option.bind_eq_some_iff.mp h
    refine g_getr hx hb hts inlX0 hown hK hG (by rfl) 8 (by decide) qF_X0_38 e77 dX0_property_77 ?_
    refine lv_iload_n hx hb dX0_property_80 rfl (lv_at hl 1 rfl) ?_
    refine lv_iconst (v := (-1 : Int32)) hx hb dX0_property_81 (by decide) ?_
    obtain ⟨v82, e82, h⟩ := Option.bind_eq_some_iff.mp h
    refine g_cNi (As := [.ref v77, .int x1, .int (-1 : Int32)]) (rest := []) (n := 3) hx hb hml hown hts hK hlo hG (m_X9_at l dd cT lo G v77 x1 (-1 : Int32) e82) (List.mem_of_getElem? (i := 10) rfl) qT_yX9_at qN_X9 qC_yX9_at (by decide +kernel) ⟨Nat.le_of_ble_eq_true rfl, Nat.le_of_ble_eq_true rfl⟩ rfl hl.1 rfl (Nat.le_of_ble_eq_true rfl) dX0_property_82 ⟨Nat.le_of_ble_eq_true rfl, Nat.le_of_ble_eq_true rfl⟩ (fun H locs hG => ?_)
    obtain rfl := Option.some.inj h
    exact g_iret hx hb hr hlocks hK hlo hG ⟨rfl, rfl⟩ dX0_property_85
  rw [if_neg c1_5] at h
  have z1 : x2.toInt < 0 ∨ 5 < x2.toInt := by
    have y0 : ¬ x2.toInt = 0 := fun w => c1_0 (Int32.toInt_inj.mp (by rw [w]; rfl))
    have y1 : ¬ x2.toInt = 1 := fun w => c1_1 (Int32.toInt_inj.mp (by rw [w]; rfl))
    have y2 : ¬ x2.toInt = 2 := fun w => c1_2 (Int32.toInt_inj.mp (by rw [w]; rfl))
    have y3 : ¬ x2.toInt = 3 := fun w => c1_3 (Int32.toInt_inj.mp (by rw [w]; rfl))
    have y4 : ¬ x2.toInt = 4 := fun w => c1_4 (Int32.toInt_inj.mp (by rw [w]; rfl))
    have y5 : ¬ x2.toInt = 5 := fun w => c1_5 (Int32.toInt_inj.mp (by rw [w]; rfl))
    omega
  refine lv_tableOut (tgt := 86) hx hb dX0_property_1 z1 (by decide) ?_
  refine lv_aload_n hx hb dX0_property_86 rfl (lv_at hl 0 rfl) ?_
  obtain ⟨v87, e87, h⟩ := Option.bind_eq_some_iff.mp h
  refine g_getr hx hb hts inlX0 hown hK hG (by rfl) 9 (by decide) qF_X0_41 e87 dX0_property_87 ?_
  refine lv_iload_n hx hb dX0_property_90 rfl (lv_at hl 1 rfl) ?_
  refine lv_iconst (v := (-1 : Int32)) hx hb dX0_property_91 (by decide) ?_
  obtain ⟨v92, e92, h⟩ := Option.bind_eq_some_iff.mp h
  refine g_cNi (As := [.ref v87, .int x1, .int (-1 : Int32)]) (rest := []) (n := 3) hx hb hml hown hts hK hlo hG (m_X9_at l dd cT lo G v87 x1 (-1 : Int32) e92) (List.mem_of_getElem? (i := 10) rfl) qT_yX9_at qN_X9 qC_yX9_at (by decide +kernel) ⟨Nat.le_of_ble_eq_true rfl, Nat.le_of_ble_eq_true rfl⟩ rfl hl.1 rfl (Nat.le_of_ble_eq_true rfl) dX0_property_92 ⟨Nat.le_of_ble_eq_true rfl, Nat.le_of_ble_eq_true rfl⟩ (fun H locs hG => ?_)
  obtain rfl := Option.some.inj h
  exact g_iret hx hb hr hlocks hK hlo hG ⟨rfl, rfl⟩ dX0_property_95
set_option maxRecDepth 20000 in
set_option maxHeartbeats 4000000 in
theorem m_X0_emptySpares (l : Launch) (dd : va_G) (cT : Nat → ClassId) (lo : Nat → Prop) (G : gH) (a0 : Nat) {rz : Int32} (h : f_X0_emptySpares G a0 = some rz) : Met l yX0_emptySpares (Cond.code yX0_emptySpares cX0_emptySpares 3 (some .int) :: wsL_law) (g_rm 2 43 0 0) (va_Pc [.ref a0] (g_Pre lo dd cT G)) (va_Qi (g_is rz G) (g_Pre lo dd cT) (g_A lo)) 0 0 (g_A lo) := by
  refine g_start RX0 rfl (by decide) (Nat.le_of_ble_eq_true rfl) ?_
  intro p e s m below meth c hx hb hr hlocks hml hown hnm hts hK hG hlo ls hl
  have hl : lv_has ls 3 [(0, .ref a0)] := hl
  have hG : g_S lo dd cT s s.heap [] G := hG
  have h7 : ∀ n : Nat, ∀ (ba0 : Nat) (bx1 : Int32) (bx2 : Int32), ∀ (H : Heap) (locs : List Loc), g_S lo dd cT s H locs G → ∀ ls : Array Slot, lv_has ls 3 [(0, .ref ba0), (1, .int bx1), (2, .int bx2)] → f_X0_emptySpares_L7 G n ba0 bx1 bx2 = some rz → W p l e (g_rm 2 43 0 0) s m ([.ref a0] : List Value).toArray below meth c H locs 0 0 (MQ below (va_Qi (g_is rz G) (g_Pre lo dd cT) (g_A lo)) ([.ref a0] : List Value).toArray s 0 0 (g_A lo)) (F0 m 7 ls []) := by
    intro n
    induction n with
    | zero =>
      intro ba0 bx1 bx2 H locs hG ls hl h
      cases (show (none : Option Int32) = some rz from h)
    | succ n ih =>
      intro ba0 bx1 bx2 H locs hG ls hl h
      rw [f_X0_emptySpares_L7] at h
      refine lv_iload_n hx hb dX0_emptySpares_7 rfl (lv_at hl 2 rfl) ?_
      refine lv_aload_n hx hb dX0_emptySpares_8 rfl (lv_at hl 0 rfl) ?_
      obtain ⟨v9, e9, h⟩ := Option.bind_eq_some_iff.mp h
      refine g_geti hx hb hts inlX0 hown hK hG (by rfl) 0 (by decide) qF_X0_9 e9 dX0_emptySpares_9 ?_
      refine lv_icmp_ge (tgt := 40) hx hb dX0_emptySpares_12 (by decide) (fun c12 => ?_) (fun c12 => ?_)
      · rw [if_pos c12] at h
        refine lv_iload_n hx hb dX0_emptySpares_40 rfl (lv_at hl 1 rfl) ?_
        obtain rfl := Option.some.inj h
        exact g_iret hx hb hr hlocks hK hlo hG ⟨rfl, rfl⟩ dX0_emptySpares_41
      · rw [if_neg c12] at h
        refine lv_iload_n hx hb dX0_emptySpares_15 rfl (lv_at hl 1 rfl) ?_
        refine lv_aload_n hx hb dX0_emptySpares_16 rfl (lv_at hl 0 rfl) ?_
        refine lv_iload_n hx hb dX0_emptySpares_17 rfl (lv_at hl 2 rfl) ?_
        obtain ⟨u18, i18, h⟩ := Option.bind_eq_some_iff.mp h
        obtain ⟨v18, e18, h⟩ := Option.bind_eq_some_iff.mp h
        refine g_cVi (As := [.int bx2]) (rest := [.int bx1]) (n := 1) hx hb hml hown hts hK hlo hG (m_X0_kindOf l dd cT lo G ba0 bx2 e18) qM_X0_69 qI_yX0_kindOf qS_X0_yX0_kindOf qN_X0 qC_yX0_kindOf (by decide +kernel) ⟨Nat.le_of_ble_eq_true rfl, Nat.le_of_ble_eq_true rfl⟩ (by rfl) i18 rfl hl.1 rfl (Nat.le_of_ble_eq_true rfl) dX0_emptySpares_18 ⟨Nat.le_of_ble_eq_true rfl, Nat.le_of_ble_eq_true rfl⟩ (fun H locs hG => ?_)
        refine lv_if_ne (tgt := 28) hx hb dX0_emptySpares_21 (by decide) (fun c21 => ?_) (fun c21 => ?_)
        · rw [if_neg c21] at h
          refine lv_iconst (v := (0 : Int32)) hx hb dX0_emptySpares_28 (by decide) ?_
          obtain ⟨v29, e29, h⟩ := Option.bind_eq_some_iff.mp h
          refine g_cNi (As := [.int (0 : Int32)]) (rest := [.int bx1]) (n := 1) hx hb hml hown hts hK hlo hG (m_X9_oneIf l dd cT lo G (0 : Int32) e29) (List.mem_of_getElem? (i := 12) rfl) qT_yX9_oneIf qN_X9 qC_yX9_oneIf (by decide +kernel) ⟨Nat.le_of_ble_eq_true rfl, Nat.le_of_ble_eq_true rfl⟩ rfl hl.1 rfl (Nat.le_of_ble_eq_true rfl) dX0_emptySpares_29 ⟨Nat.le_of_ble_eq_true rfl, Nat.le_of_ble_eq_true rfl⟩ (fun H locs hG => ?_)
          refine lv_iadd hx hb dX0_emptySpares_32 ?_
          refine lv_istore_n (lv' := [(1, .int (bx1 + v29)), (0, .ref ba0), (2, .int bx2)]) hx hb dX0_emptySpares_33 rfl hl (by decide) rfl (fun ls hl => ?_)
          refine lv_iinc (v := (bx2 + (1 : Int32))) (lv' := [(2, .int (bx2 + (1 : Int32))), (1, .int (bx1 + v29)), (0, .ref ba0)]) hx hb dX0_emptySpares_34 hl (k := 2) rfl rfl (by decide) rfl (fun ls hl => ?_)
          refine lv_goto (tgt := 7) hx hb dX0_emptySpares_37 (by decide) ?_
          exact ih ba0 (bx1 + v29) (bx2 + (1 : Int32)) _ _ hG _ (lv_sub hl [2, 1, 0] rfl) h
        · rw [if_pos c21] at h
          refine lv_iconst (v := (1 : Int32)) hx hb dX0_emptySpares_24 (by decide) ?_
          refine lv_goto (tgt := 29) hx hb dX0_emptySpares_25 (by decide) ?_
          obtain ⟨v29, e29, h⟩ := Option.bind_eq_some_iff.mp h
          refine g_cNi (As := [.int (1 : Int32)]) (rest := [.int bx1]) (n := 1) hx hb hml hown hts hK hlo hG (m_X9_oneIf l dd cT lo G (1 : Int32) e29) (List.mem_of_getElem? (i := 12) rfl) qT_yX9_oneIf qN_X9 qC_yX9_oneIf (by decide +kernel) ⟨Nat.le_of_ble_eq_true rfl, Nat.le_of_ble_eq_true rfl⟩ rfl hl.1 rfl (Nat.le_of_ble_eq_true rfl) dX0_emptySpares_29 ⟨Nat.le_of_ble_eq_true rfl, Nat.le_of_ble_eq_true rfl⟩ (fun H locs hG => ?_)
          refine lv_iadd hx hb dX0_emptySpares_32 ?_
          refine lv_istore_n (lv' := [(1, .int (bx1 + v29)), (0, .ref ba0), (2, .int bx2)]) hx hb dX0_emptySpares_33 rfl hl (by decide) rfl (fun ls hl => ?_)
          refine lv_iinc (v := (bx2 + (1 : Int32))) (lv' := [(2, .int (bx2 + (1 : Int32))), (1, .int (bx1 + v29)), (0, .ref ba0)]) hx hb dX0_emptySpares_34 hl (k := 2) rfl rfl (by decide) rfl (fun ls hl => ?_)
          refine lv_goto (tgt := 7) hx hb dX0_emptySpares_37 (by decide) ?_
          exact ih ba0 (bx1 + v29) (bx2 + (1 : Int32)) _ _ hG _ (lv_sub hl [2, 1, 0] rfl) h
  unfold f_X0_emptySpares at h
  refine lv_iconst (v := (0 : Int32)) hx hb dX0_emptySpares_0 (by decide) ?_
  refine lv_istore_n (lv' := [(1, .int (0 : Int32)), (0, .ref a0)]) hx hb dX0_emptySpares_1 rfl hl (by decide) rfl (fun ls hl => ?_)
  refine lv_aload_n hx hb dX0_emptySpares_2 rfl (lv_at hl 1 rfl) ?_
  obtain ⟨v3, e3, h⟩ := Option.bind_eq_some_iff.mp h
  refine g_geti hx hb hts inlX0 hown hK hG (by rfl) 1 (by decide) qF_X0_15 e3 dX0_emptySpares_3 ?_
  refine lv_istore_n (lv' := [(2, .int v3), (1, .int (0 : Int32)), (0, .ref a0)]) hx hb dX0_emptySpares_6 rfl hl (by decide) rfl (fun ls hl => ?_)
  exact h7 g_N a0 (0 : Int32) v3 _ _ hG _ (lv_sub hl [2, 1, 0] rfl) h
set_option maxRecDepth 20000 in
set_option maxHeartbeats 4000000 in
theorem m_X0_badOnes (l : Launch) (dd : va_G) (cT : Nat → ClassId) (lo : Nat → Prop) (G : gH) (a0 : Nat) {rz : Int32} (h : f_X0_badOnes G a0 = some rz) : Met l yX0_badOnes (Cond.code yX0_badOnes cX0_badOnes 3 (some .int) :: wsL_law) (g_rm 2 42 0 0) (va_Pc [.ref a0] (g_Pre lo dd cT G)) (va_Qi (g_is rz G) (g_Pre lo dd cT) (g_A lo)) 0 0 (g_A lo) := by
  refine g_start RX0 rfl (by decide) (Nat.le_of_ble_eq_true rfl) ?_
  intro p e s m below meth c hx hb hr hlocks hml hown hnm hts hK hG hlo ls hl
  have hl : lv_has ls 3 [(0, .ref a0)] := hl
  have hG : g_S lo dd cT s s.heap [] G := hG
  have h4 : ∀ n : Nat, ∀ (ba0 : Nat) (bx1 : Int32) (bx2 : Int32), ∀ (H : Heap) (locs : List Loc), g_S lo dd cT s H locs G → ∀ ls : Array Slot, lv_has ls 3 [(0, .ref ba0), (1, .int bx1), (2, .int bx2)] → f_X0_badOnes_L4 G n ba0 bx1 bx2 = some rz → W p l e (g_rm 2 42 0 0) s m ([.ref a0] : List Value).toArray below meth c H locs 0 0 (MQ below (va_Qi (g_is rz G) (g_Pre lo dd cT) (g_A lo)) ([.ref a0] : List Value).toArray s 0 0 (g_A lo)) (F0 m 4 ls []) := by
    intro n
    induction n with
    | zero =>
      intro ba0 bx1 bx2 H locs hG ls hl h
      cases (show (none : Option Int32) = some rz from h)
    | succ n ih =>
      intro ba0 bx1 bx2 H locs hG ls hl h
      rw [f_X0_badOnes_L4] at h
      refine lv_iload_n hx hb dX0_badOnes_4 rfl (lv_at hl 2 rfl) ?_
      refine lv_aload_n hx hb dX0_badOnes_5 rfl (lv_at hl 0 rfl) ?_
      obtain ⟨v6, e6, h⟩ := Option.bind_eq_some_iff.mp h
      refine g_geti hx hb hts inlX0 hown hK hG (by rfl) 0 (by decide) qF_X0_9 e6 dX0_badOnes_6 ?_
      refine lv_icmp_ge (tgt := 29) hx hb dX0_badOnes_9 (by decide) (fun c9 => ?_) (fun c9 => ?_)
      · rw [if_pos c9] at h
        refine lv_iload_n hx hb dX0_badOnes_29 rfl (lv_at hl 1 rfl) ?_
        obtain rfl := Option.some.inj h
        exact g_iret hx hb hr hlocks hK hlo hG ⟨rfl, rfl⟩ dX0_badOnes_30
      · rw [if_neg c9] at h
        refine lv_iload_n hx hb dX0_badOnes_12 rfl (lv_at hl 1 rfl) ?_
        refine lv_aload_n hx hb dX0_badOnes_13 rfl (lv_at hl 0 rfl) ?_
        refine lv_iload_n hx hb dX0_badOnes_14 rfl (lv_at hl 2 rfl) ?_
        obtain ⟨u15, i15, h⟩ := Option.bind_eq_some_iff.mp h
        obtain ⟨v15, e15, h⟩ := Option.bind_eq_some_iff.mp h
        refine g_cVi (As := [.int bx2]) (rest := [.int bx1]) (n := 1) hx hb hml hown hts hK hlo hG (m_X0_isBad l dd cT lo G ba0 bx2 e15) qM_X0_73 qI_yX0_isBad qS_X0_yX0_isBad qN_X0 qC_yX0_isBad (by decide +kernel) ⟨Nat.le_of_ble_eq_true rfl, Nat.le_of_ble_eq_true rfl⟩ (by rfl) i15 rfl hl.1 rfl (Nat.le_of_ble_eq_true rfl) dX0_badOnes_15 ⟨Nat.le_of_ble_eq_true rfl, Nat.le_of_ble_eq_true rfl⟩ (fun H locs hG => ?_)
        obtain ⟨v18, e18, h⟩ := Option.bind_eq_some_iff.mp h
        refine g_cNi (As := [.int v15]) (rest := [.int bx1]) (n := 1) hx hb hml hown hts hK hlo hG (m_X9_oneIf l dd cT lo G v15 e18) (List.mem_of_getElem? (i := 12) rfl) qT_yX9_oneIf qN_X9 qC_yX9_oneIf (by decide +kernel) ⟨Nat.le_of_ble_eq_true rfl, Nat.le_of_ble_eq_true rfl⟩ rfl hl.1 rfl (Nat.le_of_ble_eq_true rfl) dX0_badOnes_18 ⟨Nat.le_of_ble_eq_true rfl, Nat.le_of_ble_eq_true rfl⟩ (fun H locs hG => ?_)
        refine lv_iadd hx hb dX0_badOnes_21 ?_
        refine lv_istore_n (lv' := [(1, .int (bx1 + v18)), (0, .ref ba0), (2, .int bx2)]) hx hb dX0_badOnes_22 rfl hl (by decide) rfl (fun ls hl => ?_)
        refine lv_iinc (v := (bx2 + (1 : Int32))) (lv' := [(2, .int (bx2 + (1 : Int32))), (1, .int (bx1 + v18)), (0, .ref ba0)]) hx hb dX0_badOnes_23 hl (k := 2) rfl rfl (by decide) rfl (fun ls hl => ?_)
        refine lv_goto (tgt := 4) hx hb dX0_badOnes_26 (by decide) ?_
        exact ih ba0 (bx1 + v18) (bx2 + (1 : Int32)) _ _ hG _ (lv_sub hl [2, 1, 0] rfl) h
  unfold f_X0_badOnes at h
  refine lv_iconst (v := (0 : Int32)) hx hb dX0_badOnes_0 (by decide) ?_
  refine lv_istore_n (lv' := [(1, .int (0 : Int32)), (0, .ref a0)]) hx hb dX0_badOnes_1 rfl hl (by decide) rfl (fun ls hl => ?_)
  refine lv_iconst (v := (0 : Int32)) hx hb dX0_badOnes_2 (by decide) ?_
  refine lv_istore_n (lv' := [(2, .int (0 : Int32)), (1, .int (0 : Int32)), (0, .ref a0)]) hx hb dX0_badOnes_3 rfl hl (by decide) rfl (fun ls hl => ?_)
  exact h4 g_N a0 (0 : Int32) (0 : Int32) _ _ hG _ (lv_sub hl [2, 1, 0] rfl) h
set_option maxRecDepth 20000 in
set_option maxHeartbeats 4000000 in
theorem m_X0_blocksOf (l : Launch) (dd : va_G) (cT : Nat → ClassId) (lo : Nat → Prop) (G : gH) (a0 : Nat) (x1 : Int32) (x2 : Int32) (x3 : Int32) {rz : Int32} (h : f_X0_blocksOf G a0 x1 x2 x3 = some rz) : Met l yX0_blocksOf (Cond.code yX0_blocksOf cX0_blocksOf 6 (some .int) :: wsL_law) (g_rm 2 43 0 0) (va_Pc [.ref a0, .int x1, .int x2, .int x3] (g_Pre lo dd cT G)) (va_Qi (g_is rz G) (g_Pre lo dd cT) (g_A lo)) 0 0 (g_A lo) := by
  refine g_start RX0 rfl (by decide) (Nat.le_of_ble_eq_true rfl) ?_
  intro p e s m below meth c hx hb hr hlocks hml hown hnm hts hK hG hlo ls hl
  have hl : lv_has ls 6 [(0, .ref a0), (1, .int x1), (2, .int x2), (3, .int x3)] := hl
  have hG : g_S lo dd cT s s.heap [] G := hG
  have h6 : ∀ n : Nat, ∀ (ba0 : Nat) (bx1 : Int32) (bx3 : Int32) (bx4 : Int32) (bx5 : Int32), ∀ (H : Heap) (locs : List Loc), g_S lo dd cT s H locs G → ∀ ls : Array Slot, lv_has ls 6 [(0, .ref ba0), (1, .int bx1), (3, .int bx3), (4, .int bx4), (5, .int bx5)] → f_X0_blocksOf_L6 G n ba0 bx1 bx3 bx4 bx5 = some rz → W p l e (g_rm 2 43 0 0) s m ([.ref a0, .int x1, .int x2, .int x3] : List Value).toArray below meth c H locs 0 0 (MQ below (va_Qi (g_is rz G) (g_Pre lo dd cT) (g_A lo)) ([.ref a0, .int x1, .int x2, .int x3] : List Value).toArray s 0 0 (g_A lo)) (F0 m 6 ls []) := by
    intro n
    induction n with
    | zero =>
      intro ba0 bx1 bx3 bx4 bx5 H locs hG ls hl h
      cases (show (none : Option Int32) = some rz from h)
    | succ n ih =>
      intro ba0 bx1 bx3 bx4 bx5 H locs hG ls hl h
      rw [f_X0_blocksOf_L6] at h
      refine lv_iload hx hb dX0_blocksOf_6 (lv_at hl 4 rfl) ?_
      refine lv_iload_n hx hb dX0_blocksOf_8 rfl (lv_at hl 2 rfl) ?_
      refine lv_icmp_ge (tgt := 41) hx hb dX0_blocksOf_9 (by decide) (fun c9 => ?_) (fun c9 => ?_)
      · rw [if_pos c9] at h
        refine lv_iload hx hb dX0_blocksOf_41 (lv_at hl 3 rfl) ?_
        obtain rfl := Option.some.inj h
        exact g_iret hx hb hr hlocks hK hlo hG ⟨rfl, rfl⟩ dX0_blocksOf_43
      · rw [if_neg c9] at h
        refine lv_iload hx hb dX0_blocksOf_12 (lv_at hl 3 rfl) ?_
        refine lv_aload_n hx hb dX0_blocksOf_14 rfl (lv_at hl 0 rfl) ?_
        refine lv_iload hx hb dX0_blocksOf_15 (lv_at hl 4 rfl) ?_
        obtain ⟨u17, i17, h⟩ := Option.bind_eq_some_iff.mp h
        obtain ⟨v17, e17, h⟩ := Option.bind_eq_some_iff.mp h
        refine g_cVi (As := [.int bx5]) (rest := [.int bx4]) (n := 1) hx hb hml hown hts hK hlo hG (m_X0_writerOf l dd cT lo G ba0 bx5 e17) qM_X0_84 qI_yX0_writerOf qS_X0_yX0_writerOf qN_X0 qC_yX0_writerOf (by decide +kernel) ⟨Nat.le_of_ble_eq_true rfl, Nat.le_of_ble_eq_true rfl⟩ (by rfl) i17 rfl hl.1 rfl (Nat.le_of_ble_eq_true rfl) dX0_blocksOf_17 ⟨Nat.le_of_ble_eq_true rfl, Nat.le_of_ble_eq_true rfl⟩ (fun H locs hG => ?_)
        refine lv_iload_n hx hb dX0_blocksOf_20 rfl (lv_at hl 1 rfl) ?_
        refine lv_icmp_ne (tgt := 28) hx hb dX0_blocksOf_21 (by decide) (fun c21 => ?_) (fun c21 => ?_)
        · rw [if_neg c21] at h
          refine lv_iconst (v := (0 : Int32)) hx hb dX0_blocksOf_28 (by decide) ?_
          obtain ⟨v29, e29, h⟩ := Option.bind_eq_some_iff.mp h
          refine g_cNi (As := [.int (0 : Int32)]) (rest := [.int bx4]) (n := 1) hx hb hml hown hts hK hlo hG (m_X9_oneIf l dd cT lo G (0 : Int32) e29) (List.mem_of_getElem? (i := 12) rfl) qT_yX9_oneIf qN_X9 qC_yX9_oneIf (by decide +kernel) ⟨Nat.le_of_ble_eq_true rfl, Nat.le_of_ble_eq_true rfl⟩ rfl hl.1 rfl (Nat.le_of_ble_eq_true rfl) dX0_blocksOf_29 ⟨Nat.le_of_ble_eq_true rfl, Nat.le_of_ble_eq_true rfl⟩ (fun H locs hG => ?_)
          refine lv_iadd hx hb dX0_blocksOf_32 ?_
          refine lv_istore (lv' := [(4, .int (bx4 + v29)), (0, .ref ba0), (1, .int bx1), (3, .int bx3), (5, .int bx5)]) hx hb dX0_blocksOf_33 hl (by decide) rfl (fun ls hl => ?_)
          refine lv_iinc (v := (bx5 + (1 : Int32))) (lv' := [(5, .int (bx5 + (1 : Int32))), (4, .int (bx4 + v29)), (0, .ref ba0), (1, .int bx1), (3, .int bx3)]) hx hb dX0_blocksOf_35 hl (k := 4) rfl rfl (by decide) rfl (fun ls hl => ?_)
          refine lv_goto (tgt := 6) hx hb dX0_blocksOf_38 (by decide) ?_
          exact ih ba0 bx1 bx3 (bx4 + v29) (bx5 + (1 : Int32)) _ _ hG _ (lv_sub hl [2, 3, 4, 1, 0] rfl) h
        · rw [if_pos c21] at h
          refine lv_iconst (v := (1 : Int32)) hx hb dX0_blocksOf_24 (by decide) ?_
          refine lv_goto (tgt := 29) hx hb dX0_blocksOf_25 (by decide) ?_
          obtain ⟨v29, e29, h⟩ := Option.bind_eq_some_iff.mp h
          refine g_cNi (As := [.int (1 : Int32)]) (rest := [.int bx4]) (n := 1) hx hb hml hown hts hK hlo hG (m_X9_oneIf l dd cT lo G (1 : Int32) e29) (List.mem_of_getElem? (i := 12) rfl) qT_yX9_oneIf qN_X9 qC_yX9_oneIf (by decide +kernel) ⟨Nat.le_of_ble_eq_true rfl, Nat.le_of_ble_eq_true rfl⟩ rfl hl.1 rfl (Nat.le_of_ble_eq_true rfl) dX0_blocksOf_29 ⟨Nat.le_of_ble_eq_true rfl, Nat.le_of_ble_eq_true rfl⟩ (fun H locs hG => ?_)
          refine lv_iadd hx hb dX0_blocksOf_32 ?_
          refine lv_istore (lv' := [(4, .int (bx4 + v29)), (0, .ref ba0), (1, .int bx1), (3, .int bx3), (5, .int bx5)]) hx hb dX0_blocksOf_33 hl (by decide) rfl (fun ls hl => ?_)
          refine lv_iinc (v := (bx5 + (1 : Int32))) (lv' := [(5, .int (bx5 + (1 : Int32))), (4, .int (bx4 + v29)), (0, .ref ba0), (1, .int bx1), (3, .int bx3)]) hx hb dX0_blocksOf_35 hl (k := 4) rfl rfl (by decide) rfl (fun ls hl => ?_)
          refine lv_goto (tgt := 6) hx hb dX0_blocksOf_38 (by decide) ?_
          exact ih ba0 bx1 bx3 (bx4 + v29) (bx5 + (1 : Int32)) _ _ hG _ (lv_sub hl [2, 3, 4, 1, 0] rfl) h
  unfold f_X0_blocksOf at h
  refine lv_iconst (v := (0 : Int32)) hx hb dX0_blocksOf_0 (by decide) ?_
  refine lv_istore (lv' := [(4, .int (0 : Int32)), (0, .ref a0), (1, .int x1), (2, .int x2), (3, .int x3)]) hx hb dX0_blocksOf_1 hl (by decide) rfl (fun ls hl => ?_)
  refine lv_iload_n hx hb dX0_blocksOf_3 rfl (lv_at hl 3 rfl) ?_
  refine lv_istore (lv' := [(5, .int x2), (4, .int (0 : Int32)), (0, .ref a0), (1, .int x1), (2, .int x2), (3, .int x3)]) hx hb dX0_blocksOf_4 hl (by decide) rfl (fun ls hl => ?_)
  exact h6 g_N a0 x1 x3 (0 : Int32) x2 _ _ hG _ (lv_sub hl [2, 3, 5, 1, 0] rfl) h
set_option maxRecDepth 20000 in
set_option maxHeartbeats 4000000 in
theorem m_X0_canRelocate (l : Launch) (dd : va_G) (cT : Nat → ClassId) (lo : Nat → Prop) (G : gH) (a0 : Nat) (x1 : Int32) {rz : Int32} (h : f_X0_canRelocate G a0 x1 = some rz) : Met l yX0_canRelocate (Cond.code yX0_canRelocate cX0_canRelocate 5 (some .boolean) :: wsL_law) (g_rm 2 43 0 0) (va_Pc [.ref a0, .int x1] (g_Pre lo dd cT G)) (va_Qi (g_is rz G) (g_Pre lo dd cT) (g_A lo)) 0 0 (g_A lo) := by
  refine g_start RX0 rfl (by decide) (Nat.le_of_ble_eq_true rfl) ?_
  intro p e s m below meth c hx hb hr hlocks hml hown hnm hts hK hG hlo ls hl
  have hl : lv_has ls 5 [(0, .ref a0), (1, .int x1)] := hl
  have hG : g_S lo dd cT s s.heap [] G := hG
  have h50 : ∀ n : Nat, ∀ (ba0 : Nat) (bx2 : Int32) (bx3 : Int32) (bx4 : Int32), ∀ (H : Heap) (locs : List Loc), g_S lo dd cT s H locs G → ∀ ls : Array Slot, lv_has ls 5 [(0, .ref ba0), (2, .int bx2), (3, .int bx3), (4, .int bx4)] → f_X0_canRelocate_L50 G n ba0 bx2 bx3 bx4 = some rz → W p l e (g_rm 2 43 0 0) s m ([.ref a0, .int x1] : List Value).toArray below meth c H locs 0 0 (MQ below (va_Qi (g_is rz G) (g_Pre lo dd cT) (g_A lo)) ([.ref a0, .int x1] : List Value).toArray s 0 0 (g_A lo)) (F0 m 50 ls []) := by
    intro n
    induction n with
    | zero =>
      intro ba0 bx2 bx3 bx4 H locs hG ls hl h
      cases (show (none : Option Int32) = some rz from h)
    | succ n ih =>
      intro ba0 bx2 bx3 bx4 H locs hG ls hl h
      rw [f_X0_canRelocate_L50] at h
      refine lv_iload hx hb dX0_canRelocate_50 (lv_at hl 3 rfl) ?_
      refine lv_aload_n hx hb dX0_canRelocate_52 rfl (lv_at hl 0 rfl) ?_
      obtain ⟨v53, e53, h⟩ := Option.bind_eq_some_iff.mp h
      refine g_geti hx hb hts inlX0 hown hK hG (by rfl) 0 (by decide) qF_X0_9 e53 dX0_canRelocate_53 ?_
      refine lv_icmp_ge (tgt := 94) hx hb dX0_canRelocate_56 (by decide) (fun c56 => ?_) (fun c56 => ?_)
      · rw [if_pos c56] at h
        refine lv_iload_n hx hb dX0_canRelocate_94 rfl (lv_at hl 1 rfl) ?_
        refine lv_iload_n hx hb dX0_canRelocate_95 rfl (lv_at hl 2 rfl) ?_
        refine lv_icmp_gt (tgt := 103) hx hb dX0_canRelocate_96 (by decide) (fun c96 => ?_) (fun c96 => ?_)
        · rw [if_pos c96] at h
          refine lv_iconst (v := (0 : Int32)) hx hb dX0_canRelocate_103 (by decide) ?_
          obtain rfl := Option.some.inj h
          exact g_zret hx hb hr hlocks hK hlo hG rfl ⟨rfl, rfl⟩ dX0_canRelocate_104
        · rw [if_neg c96] at h
          refine lv_iconst (v := (1 : Int32)) hx hb dX0_canRelocate_99 (by decide) ?_
          refine lv_goto (tgt := 104) hx hb dX0_canRelocate_100 (by decide) ?_
          obtain rfl := Option.some.inj h
          exact g_zret hx hb hr hlocks hK hlo hG rfl ⟨rfl, rfl⟩ dX0_canRelocate_104
      · rw [if_neg c56] at h
        refine lv_iload_n hx hb dX0_canRelocate_59 rfl (lv_at hl 2 rfl) ?_
        refine lv_aload_n hx hb dX0_canRelocate_60 rfl (lv_at hl 0 rfl) ?_
        refine lv_iload hx hb dX0_canRelocate_61 (lv_at hl 3 rfl) ?_
        obtain ⟨u63, i63, h⟩ := Option.bind_eq_some_iff.mp h
        obtain ⟨v63, e63, h⟩ := Option.bind_eq_some_iff.mp h
        refine g_cVi (As := [.int bx4]) (rest := [.int bx3]) (n := 1) hx hb hml hown hts hK hlo hG (m_X0_kindOf l dd cT lo G ba0 bx4 e63) qM_X0_69 qI_yX0_kindOf qS_X0_yX0_kindOf qN_X0 qC_yX0_kindOf (by decide +kernel) ⟨Nat.le_of_ble_eq_true rfl, Nat.le_of_ble_eq_true rfl⟩ (by rfl) i63 rfl hl.1 rfl (Nat.le_of_ble_eq_true rfl) dX0_canRelocate_63 ⟨Nat.le_of_ble_eq_true rfl, Nat.le_of_ble_eq_true rfl⟩ (fun H locs hG => ?_)
        refine lv_if_ne (tgt := 82) hx hb dX0_canRelocate_66 (by decide) (fun c66 => ?_) (fun c66 => ?_)
        · rw [if_neg c66] at h
          refine lv_iconst (v := (0 : Int32)) hx hb dX0_canRelocate_82 (by decide) ?_
          obtain ⟨v83, e83, h⟩ := Option.bind_eq_some_iff.mp h
          refine g_cNi (As := [.int (0 : Int32)]) (rest := [.int bx3]) (n := 1) hx hb hml hown hts hK hlo hG (m_X9_oneIf l dd cT lo G (0 : Int32) e83) (List.mem_of_getElem? (i := 12) rfl) qT_yX9_oneIf qN_X9 qC_yX9_oneIf (by decide +kernel) ⟨Nat.le_of_ble_eq_true rfl, Nat.le_of_ble_eq_true rfl⟩ rfl hl.1 rfl (Nat.le_of_ble_eq_true rfl) dX0_canRelocate_83 ⟨Nat.le_of_ble_eq_true rfl, Nat.le_of_ble_eq_true rfl⟩ (fun H locs hG => ?_)
          refine lv_iadd hx hb dX0_canRelocate_86 ?_
          refine lv_istore_n (lv' := [(3, .int (bx3 + v83)), (0, .ref ba0), (2, .int bx2), (4, .int bx4)]) hx hb dX0_canRelocate_87 rfl hl (by decide) rfl (fun ls hl => ?_)
          refine lv_iinc (v := (bx4 + (1 : Int32))) (lv' := [(4, .int (bx4 + (1 : Int32))), (3, .int (bx3 + v83)), (0, .ref ba0), (2, .int bx2)]) hx hb dX0_canRelocate_88 hl (k := 3) rfl rfl (by decide) rfl (fun ls hl => ?_)
          refine lv_goto (tgt := 50) hx hb dX0_canRelocate_91 (by decide) ?_
          exact ih ba0 bx2 (bx3 + v83) (bx4 + (1 : Int32)) _ _ hG _ (lv_sub hl [2, 3, 1, 0] rfl) h
        · rw [if_pos c66] at h
          refine lv_aload_n hx hb dX0_canRelocate_69 rfl (lv_at hl 0 rfl) ?_
          refine lv_iload hx hb dX0_canRelocate_70 (lv_at hl 3 rfl) ?_
          obtain ⟨u72, i72, h⟩ := Option.bind_eq_some_iff.mp h
          obtain ⟨v72, e72, h⟩ := Option.bind_eq_some_iff.mp h
          refine g_cVi (As := [.int bx4]) (rest := [.int bx3]) (n := 1) hx hb hml hown hts hK hlo hG (m_X0_isBad l dd cT lo G ba0 bx4 e72) qM_X0_73 qI_yX0_isBad qS_X0_yX0_isBad qN_X0 qC_yX0_isBad (by decide +kernel) ⟨Nat.le_of_ble_eq_true rfl, Nat.le_of_ble_eq_true rfl⟩ (by rfl) i72 rfl hl.1 rfl (Nat.le_of_ble_eq_true rfl) dX0_canRelocate_72 ⟨Nat.le_of_ble_eq_true rfl, Nat.le_of_ble_eq_true rfl⟩ (fun H locs hG => ?_)
          refine lv_if_ne (tgt := 82) hx hb dX0_canRelocate_75 (by decide) (fun c75 => ?_) (fun c75 => ?_)
          · rw [if_neg c75] at h
            refine lv_iconst (v := (0 : Int32)) hx hb dX0_canRelocate_82 (by decide) ?_
            obtain ⟨v83, e83, h⟩ := Option.bind_eq_some_iff.mp h
            refine g_cNi (As := [.int (0 : Int32)]) (rest := [.int bx3]) (n := 1) hx hb hml hown hts hK hlo hG (m_X9_oneIf l dd cT lo G (0 : Int32) e83) (List.mem_of_getElem? (i := 12) rfl) qT_yX9_oneIf qN_X9 qC_yX9_oneIf (by decide +kernel) ⟨Nat.le_of_ble_eq_true rfl, Nat.le_of_ble_eq_true rfl⟩ rfl hl.1 rfl (Nat.le_of_ble_eq_true rfl) dX0_canRelocate_83 ⟨Nat.le_of_ble_eq_true rfl, Nat.le_of_ble_eq_true rfl⟩ (fun H locs hG => ?_)
            refine lv_iadd hx hb dX0_canRelocate_86 ?_
            refine lv_istore_n (lv' := [(3, .int (bx3 + v83)), (0, .ref ba0), (2, .int bx2), (4, .int bx4)]) hx hb dX0_canRelocate_87 rfl hl (by decide) rfl (fun ls hl => ?_)
            refine lv_iinc (v := (bx4 + (1 : Int32))) (lv' := [(4, .int (bx4 + (1 : Int32))), (3, .int (bx3 + v83)), (0, .ref ba0), (2, .int bx2)]) hx hb dX0_canRelocate_88 hl (k := 3) rfl rfl (by decide) rfl (fun ls hl => ?_)
            refine lv_goto (tgt := 50) hx hb dX0_canRelocate_91 (by decide) ?_
            exact ih ba0 bx2 (bx3 + v83) (bx4 + (1 : Int32)) _ _ hG _ (lv_sub hl [2, 3, 1, 0] rfl) h
          · rw [if_pos c75] at h
            refine lv_iconst (v := (1 : Int32)) hx hb dX0_canRelocate_78 (by decide) ?_
            refine lv_goto (tgt := 83) hx hb dX0_canRelocate_79 (by decide) ?_
            obtain ⟨v83, e83, h⟩ := Option.bind_eq_some_iff.mp h
            refine g_cNi (As := [.int (1 : Int32)]) (rest := [.int bx3]) (n := 1) hx hb hml hown hts hK hlo hG (m_X9_oneIf l dd cT lo G (1 : Int32) e83) (List.mem_of_getElem? (i := 12) rfl) qT_yX9_oneIf qN_X9 qC_yX9_oneIf (by decide +kernel) ⟨Nat.le_of_ble_eq_true rfl, Nat.le_of_ble_eq_true rfl⟩ rfl hl.1 rfl (Nat.le_of_ble_eq_true rfl) dX0_canRelocate_83 ⟨Nat.le_of_ble_eq_true rfl, Nat.le_of_ble_eq_true rfl⟩ (fun H locs hG => ?_)
            refine lv_iadd hx hb dX0_canRelocate_86 ?_
            refine lv_istore_n (lv' := [(3, .int (bx3 + v83)), (0, .ref ba0), (2, .int bx2), (4, .int bx4)]) hx hb dX0_canRelocate_87 rfl hl (by decide) rfl (fun ls hl => ?_)
            refine lv_iinc (v := (bx4 + (1 : Int32))) (lv' := [(4, .int (bx4 + (1 : Int32))), (3, .int (bx3 + v83)), (0, .ref ba0), (2, .int bx2)]) hx hb dX0_canRelocate_88 hl (k := 3) rfl rfl (by decide) rfl (fun ls hl => ?_)
            refine lv_goto (tgt := 50) hx hb dX0_canRelocate_91 (by decide) ?_
            exact ih ba0 bx2 (bx3 + v83) (bx4 + (1 : Int32)) _ _ hG _ (lv_sub hl [2, 3, 1, 0] rfl) h
  have h7 : ∀ n : Nat, ∀ (ba0 : Nat) (bx1 : Int32) (bx2 : Int32) (bx3 : Int32), ∀ (H : Heap) (locs : List Loc), g_S lo dd cT s H locs G → ∀ ls : Array Slot, lv_has ls 5 [(0, .ref ba0), (1, .int bx1), (2, .int bx2), (3, .int bx3)] → f_X0_canRelocate_L7 G n ba0 bx1 bx2 bx3 = some rz → W p l e (g_rm 2 43 0 0) s m ([.ref a0, .int x1] : List Value).toArray below meth c H locs 0 0 (MQ below (va_Qi (g_is rz G) (g_Pre lo dd cT) (g_A lo)) ([.ref a0, .int x1] : List Value).toArray s 0 0 (g_A lo)) (F0 m 7 ls []) := by
    intro n
    induction n with
    | zero =>
      intro ba0 bx1 bx2 bx3 H locs hG ls hl h
      cases (show (none : Option Int32) = some rz from h)
    | succ n ih =>
      intro ba0 bx1 bx2 bx3 H locs hG ls hl h
      rw [f_X0_canRelocate_L7] at h
      refine lv_iload_n hx hb dX0_canRelocate_7 rfl (lv_at hl 3 rfl) ?_
      refine lv_aload_n hx hb dX0_canRelocate_8 rfl (lv_at hl 0 rfl) ?_
      obtain ⟨v9, e9, h⟩ := Option.bind_eq_some_iff.mp h
      refine g_geti hx hb hts inlX0 hown hK hG (by rfl) 2 (by decide) qF_X0_18 e9 dX0_canRelocate_9 ?_
      refine lv_iload_n hx hb dX0_canRelocate_12 rfl (lv_at hl 1 rfl) ?_
      refine lv_iadd hx hb dX0_canRelocate_13 ?_
      refine lv_icmp_ge (tgt := 42) hx hb dX0_canRelocate_14 (by decide) (fun c14 => ?_) (fun c14 => ?_)
      · rw [if_pos c14] at h
        refine lv_iconst (v := (0 : Int32)) hx hb dX0_canRelocate_42 (by decide) ?_
        refine lv_istore_n (lv' := [(3, .int (0 : Int32)), (0, .ref ba0), (1, .int bx1), (2, .int bx2)]) hx hb dX0_canRelocate_43 rfl hl (by decide) rfl (fun ls hl => ?_)
        refine lv_aload_n hx hb dX0_canRelocate_44 rfl (lv_at hl 1 rfl) ?_
        obtain ⟨v45, e45, h⟩ := Option.bind_eq_some_iff.mp h
        refine g_geti hx hb hts inlX0 hown hK hG (by rfl) 1 (by decide) qF_X0_15 e45 dX0_canRelocate_45 ?_
        refine lv_istore (lv' := [(4, .int v45), (3, .int (0 : Int32)), (0, .ref ba0), (1, .int bx1), (2, .int bx2)]) hx hb dX0_canRelocate_48 hl (by decide) rfl (fun ls hl => ?_)
        exact h50 g_N ba0 bx2 (0 : Int32) v45 _ _ hG _ (lv_sub hl [2, 4, 1, 0] rfl) h
      · rw [if_neg c14] at h
        refine lv_iload_n hx hb dX0_canRelocate_17 rfl (lv_at hl 3 rfl) ?_
        refine lv_aload_n hx hb dX0_canRelocate_18 rfl (lv_at hl 0 rfl) ?_
        obtain ⟨v19, e19, h⟩ := Option.bind_eq_some_iff.mp h
        refine g_geti hx hb hts inlX0 hown hK hG (by rfl) 1 (by decide) qF_X0_15 e19 dX0_canRelocate_19 ?_
        refine lv_icmp_ge (tgt := 42) hx hb dX0_canRelocate_22 (by decide) (fun c22 => ?_) (fun c22 => ?_)
        · rw [if_pos c22] at h
          refine lv_iconst (v := (0 : Int32)) hx hb dX0_canRelocate_42 (by decide) ?_
          refine lv_istore_n (lv' := [(3, .int (0 : Int32)), (0, .ref ba0), (1, .int bx1), (2, .int bx2)]) hx hb dX0_canRelocate_43 rfl hl (by decide) rfl (fun ls hl => ?_)
          refine lv_aload_n hx hb dX0_canRelocate_44 rfl (lv_at hl 1 rfl) ?_
          obtain ⟨v45, e45, h⟩ := Option.bind_eq_some_iff.mp h
          refine g_geti hx hb hts inlX0 hown hK hG (by rfl) 1 (by decide) qF_X0_15 e45 dX0_canRelocate_45 ?_
          refine lv_istore (lv' := [(4, .int v45), (3, .int (0 : Int32)), (0, .ref ba0), (1, .int bx1), (2, .int bx2)]) hx hb dX0_canRelocate_48 hl (by decide) rfl (fun ls hl => ?_)
          exact h50 g_N ba0 bx2 (0 : Int32) v45 _ _ hG _ (lv_sub hl [2, 4, 1, 0] rfl) h
        · rw [if_neg c22] at h
          refine lv_iload_n hx hb dX0_canRelocate_25 rfl (lv_at hl 2 rfl) ?_
          refine lv_aload_n hx hb dX0_canRelocate_26 rfl (lv_at hl 0 rfl) ?_
          refine lv_iload_n hx hb dX0_canRelocate_27 rfl (lv_at hl 3 rfl) ?_
          obtain ⟨u28, i28, h⟩ := Option.bind_eq_some_iff.mp h
          obtain ⟨v28, e28, h⟩ := Option.bind_eq_some_iff.mp h
          refine g_cVi (As := [.int bx3]) (rest := [.int bx2]) (n := 1) hx hb hml hown hts hK hlo hG (m_X0_isBad l dd cT lo G ba0 bx3 e28) qM_X0_73 qI_yX0_isBad qS_X0_yX0_isBad qN_X0 qC_yX0_isBad (by decide +kernel) ⟨Nat.le_of_ble_eq_true rfl, Nat.le_of_ble_eq_true rfl⟩ (by rfl) i28 rfl hl.1 rfl (Nat.le_of_ble_eq_true rfl) dX0_canRelocate_28 ⟨Nat.le_of_ble_eq_true rfl, Nat.le_of_ble_eq_true rfl⟩ (fun H locs hG => ?_)
          obtain ⟨v31, e31, h⟩ := Option.bind_eq_some_iff.mp h
          refine g_cNi (As := [.int v28]) (rest := [.int bx2]) (n := 1) hx hb hml hown hts hK hlo hG (m_X9_oneIf l dd cT lo G v28 e31) (List.mem_of_getElem? (i := 12) rfl) qT_yX9_oneIf qN_X9 qC_yX9_oneIf (by decide +kernel) ⟨Nat.le_of_ble_eq_true rfl, Nat.le_of_ble_eq_true rfl⟩ rfl hl.1 rfl (Nat.le_of_ble_eq_true rfl) dX0_canRelocate_31 ⟨Nat.le_of_ble_eq_true rfl, Nat.le_of_ble_eq_true rfl⟩ (fun H locs hG => ?_)
          refine lv_iadd hx hb dX0_canRelocate_34 ?_
          refine lv_istore_n (lv' := [(2, .int (bx2 + v31)), (0, .ref ba0), (1, .int bx1), (3, .int bx3)]) hx hb dX0_canRelocate_35 rfl hl (by decide) rfl (fun ls hl => ?_)
          refine lv_iinc (v := (bx3 + (1 : Int32))) (lv' := [(3, .int (bx3 + (1 : Int32))), (2, .int (bx2 + v31)), (0, .ref ba0), (1, .int bx1)]) hx hb dX0_canRelocate_36 hl (k := 3) rfl rfl (by decide) rfl (fun ls hl => ?_)
          refine lv_goto (tgt := 7) hx hb dX0_canRelocate_39 (by decide) ?_
          exact ih ba0 bx1 (bx2 + v31) (bx3 + (1 : Int32)) _ _ hG _ (lv_sub hl [2, 3, 1, 0] rfl) h
  unfold f_X0_canRelocate at h
  refine lv_iconst (v := (0 : Int32)) hx hb dX0_canRelocate_0 (by decide) ?_
  refine lv_istore_n (lv' := [(2, .int (0 : Int32)), (0, .ref a0), (1, .int x1)]) hx hb dX0_canRelocate_1 rfl hl (by decide) rfl (fun ls hl => ?_)
  refine lv_aload_n hx hb dX0_canRelocate_2 rfl (lv_at hl 1 rfl) ?_
  obtain ⟨v3, e3, h⟩ := Option.bind_eq_some_iff.mp h
  refine g_geti hx hb hts inlX0 hown hK hG (by rfl) 2 (by decide) qF_X0_18 e3 dX0_canRelocate_3 ?_
  refine lv_istore_n (lv' := [(3, .int v3), (2, .int (0 : Int32)), (0, .ref a0), (1, .int x1)]) hx hb dX0_canRelocate_6 rfl hl (by decide) rfl (fun ls hl => ?_)
  exact h7 g_N a0 x1 (0 : Int32) v3 _ _ hG _ (lv_sub hl [2, 3, 1, 0] rfl) h
set_option maxRecDepth 20000 in
set_option maxHeartbeats 4000000 in
theorem m_X0_takeSpare (l : Launch) (dd : va_G) (cT : Nat → ClassId) (lo : Nat → Prop) (G : gH) (a0 : Nat) (x1 : Int32) {rz : Int32} {Gz : gH} (h : f_X0_takeSpare G a0 x1 = some (Gz, rz)) : Met l yX0_takeSpare (Cond.code yX0_takeSpare cX0_takeSpare 3 (some .int) :: wsL_law) (g_rm 2 43 0 0) (va_Pc [.ref a0, .int x1] (g_Pre lo dd cT G)) (va_Qi (g_is rz Gz) (g_Pre lo dd cT) (g_A lo)) 0 0 (g_A lo) := by
  refine g_start RX0 rfl (by decide) (Nat.le_of_ble_eq_true rfl) ?_
  intro p e s m below meth c hx hb hr hlocks hml hown hnm hts hK hG hlo ls hl
  have hl : lv_has ls 3 [(0, .ref a0), (1, .int x1)] := hl
  have hG : g_S lo dd cT s s.heap [] G := hG
  have h5 : ∀ n : Nat, ∀ (G : gH) (ba0 : Nat) (bx1 : Int32) (bx2 : Int32), ∀ (H : Heap) (locs : List Loc), g_S lo dd cT s H locs G → ∀ ls : Array Slot, lv_has ls 3 [(0, .ref ba0), (1, .int bx1), (2, .int bx2)] → f_X0_takeSpare_L5 n G ba0 bx1 bx2 = some (Gz, rz) → W p l e (g_rm 2 43 0 0) s m ([.ref a0, .int x1] : List Value).toArray below meth c H locs 0 0 (MQ below (va_Qi (g_is rz Gz) (g_Pre lo dd cT) (g_A lo)) ([.ref a0, .int x1] : List Value).toArray s 0 0 (g_A lo)) (F0 m 5 ls []) := by
    intro n
    induction n with
    | zero =>
      intro G ba0 bx1 bx2 H locs hG ls hl h
      cases (show (none : Option (gH × Int32)) = some (Gz, rz) from h)
    | succ n ih =>
      intro G ba0 bx1 bx2 H locs hG ls hl h
      rw [f_X0_takeSpare_L5] at h
      refine lv_iload_n hx hb dX0_takeSpare_5 rfl (lv_at hl 2 rfl) ?_
      refine lv_aload_n hx hb dX0_takeSpare_6 rfl (lv_at hl 0 rfl) ?_
      obtain ⟨v7, e7, h⟩ := Option.bind_eq_some_iff.mp h
      refine g_geti hx hb hts inlX0 hown hK hG (by rfl) 0 (by decide) qF_X0_9 e7 dX0_takeSpare_7 ?_
      refine lv_icmp_ge (tgt := 55) hx hb dX0_takeSpare_10 (by decide) (fun c10 => ?_) (fun c10 => ?_)
      · rw [if_pos c10] at h
        refine lv_iconst (v := (-1 : Int32)) hx hb dX0_takeSpare_55 (by decide) ?_
        obtain ⟨rfl, rfl⟩ := Prod.mk.inj (Option.some.inj h)
        exact g_iret hx hb hr hlocks hK hlo hG ⟨rfl, rfl⟩ dX0_takeSpare_56
      · rw [if_neg c10] at h
        refine lv_aload_n hx hb dX0_takeSpare_13 rfl (lv_at hl 0 rfl) ?_
        refine lv_iload_n hx hb dX0_takeSpare_14 rfl (lv_at hl 2 rfl) ?_
        obtain ⟨u15, i15, h⟩ := Option.bind_eq_some_iff.mp h
        obtain ⟨v15, e15, h⟩ := Option.bind_eq_some_iff.mp h
        refine g_cVi (As := [.int bx2]) (rest := []) (n := 1) hx hb hml hown hts hK hlo hG (m_X0_kindOf l dd cT lo G ba0 bx2 e15) qM_X0_69 qI_yX0_kindOf qS_X0_yX0_kindOf qN_X0 qC_yX0_kindOf (by decide +kernel) ⟨Nat.le_of_ble_eq_true rfl, Nat.le_of_ble_eq_true rfl⟩ (by rfl) i15 rfl hl.1 rfl (Nat.le_of_ble_eq_true rfl) dX0_takeSpare_15 ⟨Nat.le_of_ble_eq_true rfl, Nat.le_of_ble_eq_true rfl⟩ (fun H locs hG => ?_)
        refine lv_if_ne (tgt := 49) hx hb dX0_takeSpare_18 (by decide) (fun c18 => ?_) (fun c18 => ?_)
        · rw [if_neg c18] at h
          refine lv_iinc (v := (bx2 + (1 : Int32))) (lv' := [(2, .int (bx2 + (1 : Int32))), (0, .ref ba0), (1, .int bx1)]) hx hb dX0_takeSpare_49 hl (k := 2) rfl rfl (by decide) rfl (fun ls hl => ?_)
          refine lv_goto (tgt := 5) hx hb dX0_takeSpare_52 (by decide) ?_
          exact ih G ba0 bx1 (bx2 + (1 : Int32)) _ _ hG _ (lv_sub hl [1, 2, 0] rfl) h
        · rw [if_pos c18] at h
          refine lv_aload_n hx hb dX0_takeSpare_21 rfl (lv_at hl 0 rfl) ?_
          refine lv_iload_n hx hb dX0_takeSpare_22 rfl (lv_at hl 2 rfl) ?_
          obtain ⟨u23, i23, h⟩ := Option.bind_eq_some_iff.mp h
          obtain ⟨v23, e23, h⟩ := Option.bind_eq_some_iff.mp h
          refine g_cVi (As := [.int bx2]) (rest := []) (n := 1) hx hb hml hown hts hK hlo hG (m_X0_isBad l dd cT lo G ba0 bx2 e23) qM_X0_73 qI_yX0_isBad qS_X0_yX0_isBad qN_X0 qC_yX0_isBad (by decide +kernel) ⟨Nat.le_of_ble_eq_true rfl, Nat.le_of_ble_eq_true rfl⟩ (by rfl) i23 rfl hl.1 rfl (Nat.le_of_ble_eq_true rfl) dX0_takeSpare_23 ⟨Nat.le_of_ble_eq_true rfl, Nat.le_of_ble_eq_true rfl⟩ (fun H locs hG => ?_)
          refine lv_if_ne (tgt := 31) hx hb dX0_takeSpare_26 (by decide) (fun c26 => ?_) (fun c26 => ?_)
          · rw [if_neg c26] at h
            refine lv_aload_n hx hb dX0_takeSpare_31 rfl (lv_at hl 0 rfl) ?_
            obtain ⟨v32, e32, h⟩ := Option.bind_eq_some_iff.mp h
            refine g_getr hx hb hts inlX0 hown hK hG (by rfl) 3 (by decide) qF_X0_21 e32 dX0_takeSpare_32 ?_
            refine lv_iload_n hx hb dX0_takeSpare_35 rfl (lv_at hl 2 rfl) ?_
            refine lv_iconst (v := (3 : Int32)) hx hb dX0_takeSpare_36 (by decide) ?_
            obtain ⟨G37, e37, h⟩ := Option.bind_eq_some_iff.mp h
            refine g_cNv (As := [.ref v32, .int bx2, .int (3 : Int32)]) (rest := []) (n := 3) hx hb hml hown hts hK hlo hG (m_X9_put l dd cT lo G v32 bx2 (3 : Int32) e37) (List.mem_of_getElem? (i := 13) rfl) qT_yX9_put qN_X9 qC_yX9_put (by decide +kernel) ⟨Nat.le_of_ble_eq_true rfl, Nat.le_of_ble_eq_true rfl⟩ rfl hl.1 rfl (Nat.le_of_ble_eq_true rfl) dX0_takeSpare_37 ⟨Nat.le_of_ble_eq_true rfl, Nat.le_of_ble_eq_true rfl⟩ (fun H locs hG => ?_)
            refine lv_aload_n hx hb dX0_takeSpare_40 rfl (lv_at hl 0 rfl) ?_
            obtain ⟨v41, e41, h⟩ := Option.bind_eq_some_iff.mp h
            refine g_getr hx hb hts inlX0 hown hK hG (by rfl) 6 (by decide) qF_X0_32 e41 dX0_takeSpare_41 ?_
            refine lv_iload_n hx hb dX0_takeSpare_44 rfl (lv_at hl 2 rfl) ?_
            refine lv_iload_n hx hb dX0_takeSpare_45 rfl (lv_at hl 1 rfl) ?_
            obtain ⟨G46, e46, h⟩ := Option.bind_eq_some_iff.mp h
            refine g_cNv (As := [.ref v41, .int bx2, .int bx1]) (rest := []) (n := 3) hx hb hml hown hts hK hlo hG (m_X9_put l dd cT lo G37 v41 bx2 bx1 e46) (List.mem_of_getElem? (i := 13) rfl) qT_yX9_put qN_X9 qC_yX9_put (by decide +kernel) ⟨Nat.le_of_ble_eq_true rfl, Nat.le_of_ble_eq_true rfl⟩ rfl hl.1 rfl (Nat.le_of_ble_eq_true rfl) dX0_takeSpare_46 ⟨Nat.le_of_ble_eq_true rfl, Nat.le_of_ble_eq_true rfl⟩ (fun H locs hG => ?_)
            refine lv_iinc (v := (bx2 + (1 : Int32))) (lv' := [(2, .int (bx2 + (1 : Int32))), (0, .ref ba0), (1, .int bx1)]) hx hb dX0_takeSpare_49 hl (k := 2) rfl rfl (by decide) rfl (fun ls hl => ?_)
            refine lv_goto (tgt := 5) hx hb dX0_takeSpare_52 (by decide) ?_
            exact ih G46 ba0 bx1 (bx2 + (1 : Int32)) _ _ hG _ (lv_sub hl [1, 2, 0] rfl) h
          · rw [if_pos c26] at h
            refine lv_iload_n hx hb dX0_takeSpare_29 rfl (lv_at hl 2 rfl) ?_
            obtain ⟨rfl, rfl⟩ := Prod.mk.inj (Option.some.inj h)
            exact g_iret hx hb hr hlocks hK hlo hG ⟨rfl, rfl⟩ dX0_takeSpare_30
  unfold f_X0_takeSpare at h
  refine lv_aload_n hx hb dX0_takeSpare_0 rfl (lv_at hl 0 rfl) ?_
  obtain ⟨v1, e1, h⟩ := Option.bind_eq_some_iff.mp h
  refine g_geti hx hb hts inlX0 hown hK hG (by rfl) 1 (by decide) qF_X0_15 e1 dX0_takeSpare_1 ?_
  refine lv_istore_n (lv' := [(2, .int v1), (0, .ref a0), (1, .int x1)]) hx hb dX0_takeSpare_4 rfl hl (by decide) rfl (fun ls hl => ?_)
  exact h5 g_N G a0 x1 v1 _ _ hG _ (lv_sub hl [1, 2, 0] rfl) h
set_option maxRecDepth 20000 in
set_option maxHeartbeats 4000000 in
theorem m_X0_canRead (l : Launch) (dd : va_G) (cT : Nat → ClassId) (lo : Nat → Prop) (G : gH) (a0 : Nat) (x1 : Int32) (x2 : Int32) {rz : Int32} (h : f_X0_canRead G a0 x1 x2 = some rz) : Met l yX0_canRead (Cond.code yX0_canRead cX0_canRead 4 (some .boolean) :: wsL_law) (g_rm 1 22 0 0) (va_Pc [.ref a0, .int x1, .int x2] (g_Pre lo dd cT G)) (va_Qi (g_is rz G) (g_Pre lo dd cT) (g_A lo)) 0 0 (g_A lo) := by
  refine g_start RX0 rfl (by decide) (Nat.le_of_ble_eq_true rfl) ?_
  intro p e s m below meth c hx hb hr hlocks hml hown hnm hts hK hG hlo ls hl
  have hl : lv_has ls 4 [(0, .ref a0), (1, .int x1), (2, .int x2)] := hl
  have hG : g_S lo dd cT s s.heap [] G := hG
  have h48 : ∀ (bx1 : Int32), ∀ (H : Heap) (locs : List Loc), g_S lo dd cT s H locs G → ∀ ls : Array Slot, lv_has ls 4 [(1, .int bx1)] → f_X0_canRead_J48 G bx1 = some rz → W p l e (g_rm 1 22 0 0) s m ([.ref a0, .int x1, .int x2] : List Value).toArray below meth c H locs 0 0 (MQ below (va_Qi (g_is rz G) (g_Pre lo dd cT) (g_A lo)) ([.ref a0, .int x1, .int x2] : List Value).toArray s 0 0 (g_A lo)) (F0 m 48 ls []) := by
    intro bx1 H locs hG ls hl h
    unfold f_X0_canRead_J48 at h
    refine lv_iload_n hx hb dX0_canRead_48 rfl (lv_at hl 0 rfl) ?_
    refine lv_iconst (v := (-1 : Int32)) hx hb dX0_canRead_49 (by decide) ?_
    refine lv_icmp_eq (tgt := 57) hx hb dX0_canRead_50 (by decide) (fun c50 => ?_) (fun c50 => ?_)
    · rw [if_pos c50] at h
      refine lv_iconst (v := (0 : Int32)) hx hb dX0_canRead_57 (by decide) ?_
      obtain rfl := Option.some.inj h
      exact g_zret hx hb hr hlocks hK hlo hG rfl ⟨rfl, rfl⟩ dX0_canRead_58
    · rw [if_neg c50] at h
      refine lv_iconst (v := (1 : Int32)) hx hb dX0_canRead_53 (by decide) ?_
      refine lv_goto (tgt := 58) hx hb dX0_canRead_54 (by decide) ?_
      obtain rfl := Option.some.inj h
      exact g_zret hx hb hr hlocks hK hlo hG rfl ⟨rfl, rfl⟩ dX0_canRead_58
  have h2 : ∀ n : Nat, ∀ (ba0 : Nat) (bx1 : Int32) (bx2 : Int32) (bx3 : Int32), ∀ (H : Heap) (locs : List Loc), g_S lo dd cT s H locs G → ∀ ls : Array Slot, lv_has ls 4 [(0, .ref ba0), (1, .int bx1), (2, .int bx2), (3, .int bx3)] → f_X0_canRead_L2 G n ba0 bx1 bx2 bx3 = some rz → W p l e (g_rm 1 22 0 0) s m ([.ref a0, .int x1, .int x2] : List Value).toArray below meth c H locs 0 0 (MQ below (va_Qi (g_is rz G) (g_Pre lo dd cT) (g_A lo)) ([.ref a0, .int x1, .int x2] : List Value).toArray s 0 0 (g_A lo)) (F0 m 2 ls []) := by
    intro n
    induction n with
    | zero =>
      intro ba0 bx1 bx2 bx3 H locs hG ls hl h
      cases (show (none : Option Int32) = some rz from h)
    | succ n ih =>
      intro ba0 bx1 bx2 bx3 H locs hG ls hl h
      rw [f_X0_canRead_L2] at h
      refine lv_iload_n hx hb dX0_canRead_2 rfl (lv_at hl 3 rfl) ?_
      refine lv_if_lt (tgt := 48) hx hb dX0_canRead_3 (by decide) (fun c3 => ?_) (fun c3 => ?_)
      · rw [if_pos c3] at h
        exact h48 bx1 _ _ hG _ (lv_sub hl [1] rfl) h
      · rw [if_neg c3] at h
        refine lv_iload_n hx hb dX0_canRead_6 rfl (lv_at hl 3 rfl) ?_
        refine lv_iload_n hx hb dX0_canRead_7 rfl (lv_at hl 1 rfl) ?_
        refine lv_iload_n hx hb dX0_canRead_8 rfl (lv_at hl 2 rfl) ?_
        refine lv_iadd hx hb dX0_canRead_9 ?_
        refine lv_icmp_ge (tgt := 48) hx hb dX0_canRead_10 (by decide) (fun c10 => ?_) (fun c10 => ?_)
        · rw [if_pos c10] at h
          exact h48 bx1 _ _ hG _ (lv_sub hl [1] rfl) h
        · rw [if_neg c10] at h
          refine lv_iload_n hx hb dX0_canRead_13 rfl (lv_at hl 3 rfl) ?_
          refine lv_aload_n hx hb dX0_canRead_14 rfl (lv_at hl 0 rfl) ?_
          obtain ⟨v15, e15, h⟩ := Option.bind_eq_some_iff.mp h
          refine g_geti hx hb hts inlX0 hown hK hG (by rfl) 1 (by decide) qF_X0_15 e15 dX0_canRead_15 ?_
          refine lv_icmp_ge (tgt := 48) hx hb dX0_canRead_18 (by decide) (fun c18 => ?_) (fun c18 => ?_)
          · rw [if_pos c18] at h
            exact h48 bx1 _ _ hG _ (lv_sub hl [1] rfl) h
          · rw [if_neg c18] at h
            refine lv_aload_n hx hb dX0_canRead_21 rfl (lv_at hl 0 rfl) ?_
            obtain ⟨v22, e22, h⟩ := Option.bind_eq_some_iff.mp h
            refine g_getr hx hb hts inlX0 hown hK hG (by rfl) 5 (by decide) qF_X0_29 e22 dX0_canRead_22 ?_
            refine lv_aload_n hx hb dX0_canRead_25 rfl (lv_at hl 0 rfl) ?_
            obtain ⟨v26, e26, h⟩ := Option.bind_eq_some_iff.mp h
            refine g_getr hx hb hts inlX0 hown hK hG (by rfl) 10 (by decide) qF_X0_44 e26 dX0_canRead_26 ?_
            refine lv_iload_n hx hb dX0_canRead_29 rfl (lv_at hl 3 rfl) ?_
            refine lv_iconst (v := (-1 : Int32)) hx hb dX0_canRead_30 (by decide) ?_
            obtain ⟨v31, e31, h⟩ := Option.bind_eq_some_iff.mp h
            refine g_cNi (As := [.ref v26, .int bx3, .int (-1 : Int32)]) (rest := [.ref v22]) (n := 3) hx hb hml hown hts hK hlo hG (m_X9_at l dd cT lo G v26 bx3 (-1 : Int32) e31) (List.mem_of_getElem? (i := 10) rfl) qT_yX9_at qN_X9 qC_yX9_at (by decide +kernel) ⟨Nat.le_of_ble_eq_true rfl, Nat.le_of_ble_eq_true rfl⟩ rfl hl.1 rfl (Nat.le_of_ble_eq_true rfl) dX0_canRead_31 ⟨Nat.le_of_ble_eq_true rfl, Nat.le_of_ble_eq_true rfl⟩ (fun H locs hG => ?_)
            obtain ⟨v34, e34, h⟩ := Option.bind_eq_some_iff.mp h
            refine g_cNi (As := [.ref v22, .int v31]) (rest := []) (n := 2) hx hb hml hown hts hK hlo hG (m_X9_isSet l dd cT lo G v22 v31 e34) (List.mem_of_getElem? (i := 11) rfl) qT_yX9_isSet qN_X9 qC_yX9_isSet (by decide +kernel) ⟨Nat.le_of_ble_eq_true rfl, Nat.le_of_ble_eq_true rfl⟩ rfl hl.1 rfl (Nat.le_of_ble_eq_true rfl) dX0_canRead_34 ⟨Nat.le_of_ble_eq_true rfl, Nat.le_of_ble_eq_true rfl⟩ (fun H locs hG => ?_)
            refine lv_if_eq (tgt := 42) hx hb dX0_canRead_37 (by decide) (fun c37 => ?_) (fun c37 => ?_)
            · rw [if_pos c37] at h
              refine lv_iinc (v := (bx3 + (1 : Int32))) (lv' := [(3, .int (bx3 + (1 : Int32))), (0, .ref ba0), (1, .int bx1), (2, .int bx2)]) hx hb dX0_canRead_42 hl (k := 3) rfl rfl (by decide) rfl (fun ls hl => ?_)
              refine lv_goto (tgt := 2) hx hb dX0_canRead_45 (by decide) ?_
              exact ih ba0 bx1 bx2 (bx3 + (1 : Int32)) _ _ hG _ (lv_sub hl [1, 2, 3, 0] rfl) h
            · rw [if_neg c37] at h
              refine lv_iconst (v := (0 : Int32)) hx hb dX0_canRead_40 (by decide) ?_
              obtain rfl := Option.some.inj h
              exact g_zret hx hb hr hlocks hK hlo hG rfl ⟨rfl, rfl⟩ dX0_canRead_41
  unfold f_X0_canRead at h
  refine lv_iload_n hx hb dX0_canRead_0 rfl (lv_at hl 1 rfl) ?_
  refine lv_istore_n (lv' := [(3, .int x1), (0, .ref a0), (1, .int x1), (2, .int x2)]) hx hb dX0_canRead_1 rfl hl (by decide) rfl (fun ls hl => ?_)
  exact h2 g_N a0 x1 x2 x1 _ _ hG _ (lv_sub hl [1, 2, 3, 0] rfl) h
set_option maxRecDepth 20000 in
set_option maxHeartbeats 4000000 in
theorem m_X0_makeBad (l : Launch) (dd : va_G) (cT : Nat → ClassId) (lo : Nat → Prop) (G : gH) (a0 : Nat) (x1 : Int32) {Gz : gH} (h : f_X0_makeBad G a0 x1 = some Gz) : Met l yX0_makeBad (Cond.code yX0_makeBad cX0_makeBad 2 none :: wsL_law) (g_rm 1 22 0 0) (va_Pc [.ref a0, .int x1] (g_Pre lo dd cT G)) (va_Qv (g_iv Gz) (g_Pre lo dd cT) (g_A lo)) 0 0 (g_A lo) := by
  refine g_start RX0 rfl (by decide) (Nat.le_of_ble_eq_true rfl) ?_
  intro p e s m below meth c hx hb hr hlocks hml hown hnm hts hK hG hlo ls hl
  have hl : lv_has ls 2 [(0, .ref a0), (1, .int x1)] := hl
  have hG : g_S lo dd cT s s.heap [] G := hG
  unfold f_X0_makeBad at h
  refine lv_aload_n hx hb dX0_makeBad_0 rfl (lv_at hl 0 rfl) ?_
  obtain ⟨v1, e1, h⟩ := Option.bind_eq_some_iff.mp h
  refine g_getr hx hb hts inlX0 hown hK hG (by rfl) 4 (by decide) qF_X0_25 e1 dX0_makeBad_1 ?_
  refine lv_iload_n hx hb dX0_makeBad_4 rfl (lv_at hl 1 rfl) ?_
  refine lv_iconst (v := (1 : Int32)) hx hb dX0_makeBad_5 (by decide) ?_
  obtain ⟨G6, e6, h⟩ := Option.bind_eq_some_iff.mp h
  refine g_cNv (As := [.ref v1, .int x1, .int (1 : Int32)]) (rest := []) (n := 3) hx hb hml hown hts hK hlo hG (m_X9_mark l dd cT lo G v1 x1 (1 : Int32) e6) (List.mem_of_getElem? (i := 14) rfl) qT_yX9_mark qN_X9 qC_yX9_mark (by decide +kernel) ⟨Nat.le_of_ble_eq_true rfl, Nat.le_of_ble_eq_true rfl⟩ rfl hl.1 rfl (Nat.le_of_ble_eq_true rfl) dX0_makeBad_6 ⟨Nat.le_of_ble_eq_true rfl, Nat.le_of_ble_eq_true rfl⟩ (fun H locs hG => ?_)
  obtain rfl := Option.some.inj h
  exact g_vret hx hb hr hlocks hK hlo hG rfl dX0_makeBad_9
set_option maxRecDepth 20000 in
set_option maxHeartbeats 4000000 in
theorem m_X0_damage (l : Launch) (dd : va_G) (cT : Nat → ClassId) (lo : Nat → Prop) (G : gH) (a0 : Nat) (x1 : Int32) {rz : Int32} {Gz : gH} (h : f_X0_damage G a0 x1 = some (Gz, rz)) : Met l yX0_damage (Cond.code yX0_damage cX0_damage 4 (some .boolean) :: wsL_law) (g_rm 2 43 0 0) (va_Pc [.ref a0, .int x1] (g_Pre lo dd cT G)) (va_Qi (g_is rz Gz) (g_Pre lo dd cT) (g_A lo)) 0 0 (g_A lo) := by
  refine g_start RX0 rfl (by decide) (Nat.le_of_ble_eq_true rfl) ?_
  intro p e s m below meth c hx hb hr hlocks hml hown hnm hts hK hG hlo ls hl
  have hl : lv_has ls 4 [(0, .ref a0), (1, .int x1)] := hl
  have hG : g_S lo dd cT s s.heap [] G := hG
  have h19 : ∀ (G : gH) (bx1 : Int32) (z0 : Nat), ∀ (H : Heap) (locs : List Loc), g_S lo dd cT s H locs G → ∀ ls : Array Slot, lv_has ls 4 [(1, .int bx1)] → f_X0_damage_J19 G bx1 z0 = some (Gz, rz) → W p l e (g_rm 2 43 0 0) s m ([.ref a0, .int x1] : List Value).toArray below meth c H locs 0 0 (MQ below (va_Qi (g_is rz Gz) (g_Pre lo dd cT) (g_A lo)) ([.ref a0, .int x1] : List Value).toArray s 0 0 (g_A lo)) (F0 m 19 ls [.ref z0]) := by
    intro G bx1 z0 H locs hG ls hl h
    unfold f_X0_damage_J19 at h
    refine lv_astore_n (lv' := [(2, .ref z0), (1, .int bx1)]) hx hb dX0_damage_19 rfl hl (by decide) rfl (fun ls hl => ?_)
    refine lv_aload_n hx hb dX0_damage_20 rfl (lv_at hl 0 rfl) ?_
    refine lv_iload_n hx hb dX0_damage_21 rfl (lv_at hl 1 rfl) ?_
    obtain ⟨v22, e22, h⟩ := Option.bind_eq_some_iff.mp h
    refine g_cNi (As := [.ref z0, .int bx1]) (rest := []) (n := 2) hx hb hml hown hts hK hlo hG (m_X9_isSet l dd cT lo G z0 bx1 e22) (List.mem_of_getElem? (i := 11) rfl) qT_yX9_isSet qN_X9 qC_yX9_isSet (by decide +kernel) ⟨Nat.le_of_ble_eq_true rfl, Nat.le_of_ble_eq_true rfl⟩ rfl hl.1 rfl (Nat.le_of_ble_eq_true rfl) dX0_damage_22 ⟨Nat.le_of_ble_eq_true rfl, Nat.le_of_ble_eq_true rfl⟩ (fun H locs hG => ?_)
    refine lv_istore_n (lv' := [(3, .int v22), (2, .ref z0), (1, .int bx1)]) hx hb dX0_damage_25 rfl hl (by decide) rfl (fun ls hl => ?_)
    refine lv_aload_n hx hb dX0_damage_26 rfl (lv_at hl 1 rfl) ?_
    refine lv_iload_n hx hb dX0_damage_27 rfl (lv_at hl 2 rfl) ?_
    refine lv_iconst (v := (1 : Int32)) hx hb dX0_damage_28 (by decide) ?_
    obtain ⟨G29, e29, h⟩ := Option.bind_eq_some_iff.mp h
    refine g_cNv (As := [.ref z0, .int bx1, .int (1 : Int32)]) (rest := []) (n := 3) hx hb hml hown hts hK hlo hG (m_X9_mark l dd cT lo G z0 bx1 (1 : Int32) e29) (List.mem_of_getElem? (i := 14) rfl) qT_yX9_mark qN_X9 qC_yX9_mark (by decide +kernel) ⟨Nat.le_of_ble_eq_true rfl, Nat.le_of_ble_eq_true rfl⟩ rfl hl.1 rfl (Nat.le_of_ble_eq_true rfl) dX0_damage_29 ⟨Nat.le_of_ble_eq_true rfl, Nat.le_of_ble_eq_true rfl⟩ (fun H locs hG => ?_)
    refine lv_iload_n hx hb dX0_damage_32 rfl (lv_at hl 0 rfl) ?_
    refine lv_if_ne (tgt := 40) hx hb dX0_damage_33 (by decide) (fun c33 => ?_) (fun c33 => ?_)
    · rw [if_neg c33] at h
      refine lv_iconst (v := (0 : Int32)) hx hb dX0_damage_40 (by decide) ?_
      obtain ⟨rfl, rfl⟩ := Prod.mk.inj (Option.some.inj h)
      exact g_zret hx hb hr hlocks hK hlo hG rfl ⟨rfl, rfl⟩ dX0_damage_41
    · rw [if_pos c33] at h
      refine lv_iconst (v := (1 : Int32)) hx hb dX0_damage_36 (by decide) ?_
      refine lv_goto (tgt := 41) hx hb dX0_damage_37 (by decide) ?_
      obtain ⟨rfl, rfl⟩ := Prod.mk.inj (Option.some.inj h)
      exact g_zret hx hb hr hlocks hK hlo hG rfl ⟨rfl, rfl⟩ dX0_damage_41
  unfold f_X0_damage at h
  refine lv_aload_n hx hb dX0_damage_0 rfl (lv_at hl 0 rfl) ?_
  refine lv_iload_n hx hb dX0_damage_1 rfl (lv_at hl 1 rfl) ?_
  obtain ⟨u2, i2, h⟩ := Option.bind_eq_some_iff.mp h
  obtain ⟨v2, e2, h⟩ := Option.bind_eq_some_iff.mp h
  refine g_cVi (As := [.int x1]) (rest := []) (n := 1) hx hb hml hown hts hK hlo hG (m_X0_kindOf l dd cT lo G a0 x1 e2) qM_X0_69 qI_yX0_kindOf qS_X0_yX0_kindOf qN_X0 qC_yX0_kindOf (by decide +kernel) ⟨Nat.le_of_ble_eq_true rfl, Nat.le_of_ble_eq_true rfl⟩ (by rfl) i2 rfl hl.1 rfl (Nat.le_of_ble_eq_true rfl) dX0_damage_2 ⟨Nat.le_of_ble_eq_true rfl, Nat.le_of_ble_eq_true rfl⟩ (fun H locs hG => ?_)
  refine lv_if_ne (tgt := 15) hx hb dX0_damage_5 (by decide) (fun c5 => ?_) (fun c5 => ?_)
  · rw [if_neg c5] at h
    refine lv_aload_n hx hb dX0_damage_15 rfl (lv_at hl 0 rfl) ?_
    obtain ⟨v16, e16, h⟩ := Option.bind_eq_some_iff.mp h
    refine g_getr hx hb hts inlX0 hown hK hG (by rfl) 5 (by decide) qF_X0_29 e16 dX0_damage_16 ?_
    exact h19 G x1 v16 _ _ hG _ (lv_sub hl [1] rfl) h
  · rw [if_pos c5] at h
    refine lv_aload_n hx hb dX0_damage_8 rfl (lv_at hl 0 rfl) ?_
    obtain ⟨v9, e9, h⟩ := Option.bind_eq_some_iff.mp h
    refine g_getr hx hb hts inlX0 hown hK hG (by rfl) 4 (by decide) qF_X0_25 e9 dX0_damage_9 ?_
    refine lv_goto (tgt := 19) hx hb dX0_damage_12 (by decide) ?_
    exact h19 G x1 v9 _ _ hG _ (lv_sub hl [1] rfl) h
set_option maxRecDepth 20000 in
set_option maxHeartbeats 4000000 in
theorem m_X1_format (l : Launch) (dd : va_G) (cT : Nat → ClassId) (lo : Nat → Prop) (G : gH) (a0 : Nat) (x1 : Int32) (x2 : Int32) {Gz : gH} (h : f_X1_format G a0 x1 x2 = some Gz) : Met l yX1_format (Cond.code yX1_format cX1_format 3 none :: wsL_law) (g_rm 2 44 0 0) (va_Pc [.ref a0, .int x1, .int x2] (g_Pre lo dd cT G)) (va_Qv (g_iv Gz) (g_Pre lo dd cT) (g_A lo)) 0 0 (g_A lo) := by
  refine g_start RX1 rfl (by decide) (Nat.le_of_ble_eq_true rfl) ?_
  intro p e s m below meth c hx hb hr hlocks hml hown hnm hts hK hG hlo ls hl
  have hl : lv_has ls 3 [(0, .ref a0), (1, .int x1), (2, .int x2)] := hl
  have hG : g_S lo dd cT s s.heap [] G := hG
  unfold f_X1_format at h
  refine lv_aload_n hx hb dX1_format_0 rfl (lv_at hl 0 rfl) ?_
  obtain ⟨v1, e1, h⟩ := Option.bind_eq_some_iff.mp h
  refine g_getr hx hb hts inlX1 hown hK hG (by rfl) 0 (by decide) qF_X1_12 e1 dX1_format_1 ?_
  refine lv_iload_n hx hb dX1_format_4 rfl (lv_at hl 1 rfl) ?_
  refine lv_iload_n hx hb dX1_format_5 rfl (lv_at hl 2 rfl) ?_
  obtain ⟨u6, i6, h⟩ := Option.bind_eq_some_iff.mp h
  obtain ⟨G6, e6, h⟩ := Option.bind_eq_some_iff.mp h
  refine g_cVv (As := [.int x1, .int x2]) (rest := []) (n := 2) hx hb hml hown hts hK hlo hG (m_X0_format l dd cT lo G v1 x1 x2 e6) qM_X1_51 qI_yX0_format qS_X0_yX0_format qN_X0 qC_yX0_format (by decide +kernel) ⟨Nat.le_of_ble_eq_true rfl, Nat.le_of_ble_eq_true rfl⟩ (by rfl) i6 rfl hl.1 rfl (Nat.le_of_ble_eq_true rfl) dX1_format_6 ⟨Nat.le_of_ble_eq_true rfl, Nat.le_of_ble_eq_true rfl⟩ (fun H locs hG => ?_)
  refine lv_aload_n hx hb dX1_format_9 rfl (lv_at hl 0 rfl) ?_
  obtain ⟨v10, e10, h⟩ := Option.bind_eq_some_iff.mp h
  refine g_getr hx hb hts inlX1 hown hK hG (by rfl) 1 (by decide) qF_X1_21 e10 dX1_format_10 ?_
  refine lv_iconst (v := (0 : Int32)) hx hb dX1_format_13 (by decide) ?_
  obtain ⟨G14, i14, h⟩ := Option.bind_eq_some_iff.mp h
  refine g_putv hx hb hts inlX7 tyX7 tyX7_ok nmX7 hown hK hG (by rfl) 0 (by decide) qF_X1_55 rfl rfl rfl rfl i14 dX1_format_14 (fun H locs hG => ?_)
  refine lv_aload_n hx hb dX1_format_17 rfl (lv_at hl 0 rfl) ?_
  obtain ⟨v18, e18, h⟩ := Option.bind_eq_some_iff.mp h
  refine g_getr hx hb hts inlX1 hown hK hG (by rfl) 2 (by decide) qF_X1_28 e18 dX1_format_18 ?_
  refine lv_iconst (v := (0 : Int32)) hx hb dX1_format_21 (by decide) ?_
  obtain ⟨G22, i22, h⟩ := Option.bind_eq_some_iff.mp h
  refine g_putv hx hb hts inlX5 tyX5 tyX5_ok nmX5 hown hK hG (by rfl) 0 (by decide) qF_X1_58 rfl rfl rfl rfl i22 dX1_format_22 (fun H locs hG => ?_)
  refine lv_aload_n hx hb dX1_format_25 rfl (lv_at hl 0 rfl) ?_
  refine lv_iconst (v := (0 : Int32)) hx hb dX1_format_26 (by decide) ?_
  obtain ⟨G27, i27, h⟩ := Option.bind_eq_some_iff.mp h
  refine g_putv hx hb hts inlX1 tyX1 tyX1_ok nmX1 hown hK hG (by rfl) 3 (by decide) qF_X1_32 rfl rfl rfl rfl i27 dX1_format_27 (fun H locs hG => ?_)
  refine lv_aload_n hx hb dX1_format_30 rfl (lv_at hl 0 rfl) ?_
  refine lv_iconst (v := (0 : Int32)) hx hb dX1_format_31 (by decide) ?_
  obtain ⟨G32, i32, h⟩ := Option.bind_eq_some_iff.mp h
  refine g_putv hx hb hts inlX1 tyX1 tyX1_ok nmX1 hown hK hG (by rfl) 5 (by decide) qF_X1_40 rfl rfl rfl rfl i32 dX1_format_32 (fun H locs hG => ?_)
  obtain rfl := Option.some.inj h
  exact g_vret hx hb hr hlocks hK hlo hG rfl dX1_format_35

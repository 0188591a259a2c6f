/-! Lifted methods, by program (wip/whole/tools/lift.py). -/
def f_X0_hasRoomFor (G : gH) (a0 : Nat) (x1 : Int32) : Option Int32 :=
    (g_i G a0 0 2).bind fun v1 =>
    (g_i G a0 0 1).bind fun v7 =>
    if v7 < (v1 + x1) then
    some (0 : Int32)
    else
    some (1 : Int32)
set_option maxRecDepth 20000 in
set_option maxHeartbeats 4000000 in
theorem m_X0_hasRoomFor (l : Launch) (dd : va_G) (cT : Nat → ClassId) (lo : Nat) (G : gH) (a0 : Nat) (x1 : Int32) {rz : Int32} (h : f_X0_hasRoomFor G a0 x1 = some rz) : Met l yX0_hasRoomFor (Cond.code yX0_hasRoomFor cX0_hasRoomFor 2 (some .boolean) :: wsL_law) (g_rm 0 0 0 0) (va_Pc [.ref a0, .int x1] (g_Pre lo dd cT G)) (va_Qi (g_is rz G) (g_Pre lo dd cT) (g_A lo)) 0 0 (g_A lo) := by
  refine g_start RX0 rfl (by decide) (Nat.le_of_ble_eq_true rfl) ?_
  intro p e s m below meth c hx hb hr hlocks hml hown hnm hts hK hG hlo ls hl
  have hl : lv_has ls 2 [(0, .ref a0), (1, .int x1)] := hl
  have hG : g_S lo dd cT s s.heap [] G := hG
  unfold f_X0_hasRoomFor at h
  refine lv_aload_n hx hb dX0_hasRoomFor_0 rfl (lv_at hl 0 rfl) ?_
  obtain ⟨v1, e1, h⟩ := Option.bind_eq_some_iff.mp h
  refine g_geti hx hb hts inlX0 hown hK hG (by rfl) 2 (by decide) qF_X0_18 e1 dX0_hasRoomFor_1 ?_
  refine lv_iload_n hx hb dX0_hasRoomFor_4 rfl (lv_at hl 1 rfl) ?_
  refine lv_iadd hx hb dX0_hasRoomFor_5 ?_
  refine lv_aload_n hx hb dX0_hasRoomFor_6 rfl (lv_at hl 0 rfl) ?_
  obtain ⟨v7, e7, h⟩ := Option.bind_eq_some_iff.mp h
  refine g_geti hx hb hts inlX0 hown hK hG (by rfl) 1 (by decide) qF_X0_15 e7 dX0_hasRoomFor_7 ?_
  refine lv_icmp_gt (tgt := 17) hx hb dX0_hasRoomFor_10 (by decide) (fun c10 => ?_) (fun c10 => ?_)
  · rw [if_pos c10] at h
    refine lv_iconst (v := (0 : Int32)) hx hb dX0_hasRoomFor_17 (by decide) ?_
    obtain rfl := Option.some.inj h
    exact g_zret hx hb hr hlocks hK hlo hG rfl ⟨rfl, rfl⟩ dX0_hasRoomFor_18
  · rw [if_neg c10] at h
    refine lv_iconst (v := (1 : Int32)) hx hb dX0_hasRoomFor_13 (by decide) ?_
    refine lv_goto (tgt := 18) hx hb dX0_hasRoomFor_14 (by decide) ?_
    obtain rfl := Option.some.inj h
    exact g_zret hx hb hr hlocks hK hlo hG rfl ⟨rfl, rfl⟩ dX0_hasRoomFor_18
def f_X10_thrown (G : gH) (a0 : Nat) : Option Int32 :=
    (g_i G a0 10 0).bind fun v1 =>
    some v1
set_option maxRecDepth 20000 in
set_option maxHeartbeats 4000000 in
theorem m_X10_thrown (l : Launch) (dd : va_G) (cT : Nat → ClassId) (lo : Nat) (G : gH) (a0 : Nat) {rz : Int32} (h : f_X10_thrown G a0 = some rz) : Met l yX10_thrown (Cond.code yX10_thrown cX10_thrown 1 (some .int) :: wsL_law) (g_rm 0 0 0 0) (va_Pc [.ref a0] (g_Pre lo dd cT G)) (va_Qi (g_is rz G) (g_Pre lo dd cT) (g_A lo)) 0 0 (g_A lo) := by
  refine g_start RX10 rfl (by decide) (Nat.le_of_ble_eq_true rfl) ?_
  intro p e s m below meth c hx hb hr hlocks hml hown hnm hts hK hG hlo ls hl
  have hl : lv_has ls 1 [(0, .ref a0)] := hl
  have hG : g_S lo dd cT s s.heap [] G := hG
  unfold f_X10_thrown at h
  refine lv_aload_n hx hb dX10_thrown_0 rfl (lv_at hl 0 rfl) ?_
  obtain ⟨v1, e1, h⟩ := Option.bind_eq_some_iff.mp h
  refine g_geti hx hb hts inlX10 hown hK hG (by rfl) 0 (by decide) qF_X10_50 e1 dX10_thrown_1 ?_
  obtain rfl := Option.some.inj h
  exact g_iret hx hb hr hlocks hK hlo hG ⟨rfl, rfl⟩ dX10_thrown_4
def f_X10_within (G : gH) (x0 : Int32) (x1 : Int32) (x2 : Int32) : Option Int32 :=
    if x0 < x1 then
    some (0 : Int32)
    else
    if x2 < x0 then
    some (0 : Int32)
    else
    some (1 : Int32)
set_option maxRecDepth 20000 in
set_option maxHeartbeats 4000000 in
theorem m_X10_within (l : Launch) (dd : va_G) (cT : Nat → ClassId) (lo : Nat) (G : gH) (x0 : Int32) (x1 : Int32) (x2 : Int32) {rz : Int32} (h : f_X10_within G x0 x1 x2 = some rz) : Met l yX10_within (Cond.code yX10_within cX10_within 3 (some .boolean) :: wsL_law) (g_rm 0 0 0 0) (va_Pc [.int x0, .int x1, .int x2] (g_Pre lo dd cT G)) (va_Qi (g_is rz G) (g_Pre lo dd cT) (g_A lo)) 0 0 (g_A lo) := by
  refine g_start RX10 rfl (by decide) (Nat.le_of_ble_eq_true rfl) ?_
  intro p e s m below meth c hx hb hr hlocks hml hown hnm hts hK hG hlo ls hl
  have hl : lv_has ls 3 [(0, .int x0), (1, .int x1), (2, .int x2)] := hl
  have hG : g_S lo dd cT s s.heap [] G := hG
  unfold f_X10_within at h
  refine lv_iload_n hx hb dX10_within_0 rfl (lv_at hl 0 rfl) ?_
  refine lv_iload_n hx hb dX10_within_1 rfl (lv_at hl 1 rfl) ?_
  refine lv_icmp_lt (tgt := 14) hx hb dX10_within_2 (by decide) (fun c2 => ?_) (fun c2 => ?_)
  · rw [if_pos c2] at h
    refine lv_iconst (v := (0 : Int32)) hx hb dX10_within_14 (by decide) ?_
    obtain rfl := Option.some.inj h
    exact g_zret hx hb hr hlocks hK hlo hG rfl ⟨rfl, rfl⟩ dX10_within_15
  · rw [if_neg c2] at h
    refine lv_iload_n hx hb dX10_within_5 rfl (lv_at hl 0 rfl) ?_
    refine lv_iload_n hx hb dX10_within_6 rfl (lv_at hl 2 rfl) ?_
    refine lv_icmp_gt (tgt := 14) hx hb dX10_within_7 (by decide) (fun c7 => ?_) (fun c7 => ?_)
    · rw [if_pos c7] at h
      refine lv_iconst (v := (0 : Int32)) hx hb dX10_within_14 (by decide) ?_
      obtain rfl := Option.some.inj h
      exact g_zret hx hb hr hlocks hK hlo hG rfl ⟨rfl, rfl⟩ dX10_within_15
    · rw [if_neg c7] at h
      refine lv_iconst (v := (1 : Int32)) hx hb dX10_within_10 (by decide) ?_
      refine lv_goto (tgt := 15) hx hb dX10_within_11 (by decide) ?_
      obtain rfl := Option.some.inj h
      exact g_zret hx hb hr hlocks hK hlo hG rfl ⟨rfl, rfl⟩ dX10_within_15
def f_X10_throwsIf_J16 (G : gH) (ba0 : Nat) : Option (gH × Int32) :=
    (g_i G ba0 10 0).bind fun v17 =>
    if v17 ≤ 0 then
    some (G, (0 : Int32))
    else
    some (G, (1 : Int32))
def f_X10_throwsIf (G : gH) (a0 : Nat) (x1 : Int32) (x2 : Int32) : Option (gH × Int32) :=
    (g_i G a0 10 0).bind fun v1 =>
    if v1 = 0 then
    if x1 = 0 then
    f_X10_throwsIf_J16 G a0
    else
    (g_put G a0 10 0 (.int x2)).bind fun G13 =>
    f_X10_throwsIf_J16 G13 a0
    else
    f_X10_throwsIf_J16 G a0
set_option maxRecDepth 20000 in
set_option maxHeartbeats 4000000 in
theorem m_X10_throwsIf (l : Launch) (dd : va_G) (cT : Nat → ClassId) (lo : Nat) (G : gH) (a0 : Nat) (x1 : Int32) (x2 : Int32) {rz : Int32} {Gz : gH} (h : f_X10_throwsIf G a0 x1 x2 = some (Gz, rz)) : Met l yX10_throwsIf (Cond.code yX10_throwsIf cX10_throwsIf 3 (some .boolean) :: wsL_law) (g_rm 0 0 0 0) (va_Pc [.ref a0, .int x1, .int x2] (g_Pre lo dd cT G)) (va_Qi (g_is rz Gz) (g_Pre lo dd cT) (g_A lo)) 0 0 (g_A lo) := by
  refine g_start RX10 rfl (by decide) (Nat.le_of_ble_eq_true rfl) ?_
  intro p e s m below meth c hx hb hr hlocks hml hown hnm hts hK hG hlo ls hl
  have hl : lv_has ls 3 [(0, .ref a0), (1, .int x1), (2, .int x2)] := hl
  have hG : g_S lo dd cT s s.heap [] G := hG
  have h16 : ∀ (G : gH) (ba0 : Nat), ∀ (H : Heap) (locs : List Loc), g_S lo dd cT s H locs G → ∀ ls : Array Slot, lv_has ls 3 [(0, .ref ba0)] → f_X10_throwsIf_J16 G ba0 = some (Gz, rz) → W p l e (g_rm 0 0 0 0) s m ([.ref a0, .int x1, .int x2] : List Value).toArray below meth c H locs 0 0 (MQ below (va_Qi (g_is rz Gz) (g_Pre lo dd cT) (g_A lo)) ([.ref a0, .int x1, .int x2] : List Value).toArray s 0 0 (g_A lo)) (F0 m 16 ls []) := by
    intro G ba0 H locs hG ls hl h
    unfold f_X10_throwsIf_J16 at h
    refine lv_aload_n hx hb dX10_throwsIf_16 rfl (lv_at hl 0 rfl) ?_
    obtain ⟨v17, e17, h⟩ := Option.bind_eq_some_iff.mp h
    refine g_geti hx hb hts inlX10 hown hK hG (by rfl) 0 (by decide) qF_X10_50 e17 dX10_throwsIf_17 ?_
    refine lv_if_le (tgt := 27) hx hb dX10_throwsIf_20 (by decide) (fun c20 => ?_) (fun c20 => ?_)
    · rw [if_pos c20] at h
      refine lv_iconst (v := (0 : Int32)) hx hb dX10_throwsIf_27 (by decide) ?_
      obtain ⟨rfl, rfl⟩ := Prod.mk.inj (Option.some.inj h)
      exact g_zret hx hb hr hlocks hK hlo hG rfl ⟨rfl, rfl⟩ dX10_throwsIf_28
    · rw [if_neg c20] at h
      refine lv_iconst (v := (1 : Int32)) hx hb dX10_throwsIf_23 (by decide) ?_
      refine lv_goto (tgt := 28) hx hb dX10_throwsIf_24 (by decide) ?_
      obtain ⟨rfl, rfl⟩ := Prod.mk.inj (Option.some.inj h)
      exact g_zret hx hb hr hlocks hK hlo hG rfl ⟨rfl, rfl⟩ dX10_throwsIf_28
  unfold f_X10_throwsIf at h
  refine lv_aload_n hx hb dX10_throwsIf_0 rfl (lv_at hl 0 rfl) ?_
  obtain ⟨v1, e1, h⟩ := Option.bind_eq_some_iff.mp h
  refine g_geti hx hb hts inlX10 hown hK hG (by rfl) 0 (by decide) qF_X10_50 e1 dX10_throwsIf_1 ?_
  refine lv_if_ne (tgt := 16) hx hb dX10_throwsIf_4 (by decide) (fun c4 => ?_) (fun c4 => ?_)
  · rw [if_neg c4] at h
    exact h16 G a0 _ _ hG _ (lv_sub hl [0] rfl) h
  · rw [if_pos c4] at h
    refine lv_iload_n hx hb dX10_throwsIf_7 rfl (lv_at hl 1 rfl) ?_
    refine lv_if_eq (tgt := 16) hx hb dX10_throwsIf_8 (by decide) (fun c8 => ?_) (fun c8 => ?_)
    · rw [if_pos c8] at h
      exact h16 G a0 _ _ hG _ (lv_sub hl [0] rfl) h
    · rw [if_neg c8] at h
      refine lv_aload_n hx hb dX10_throwsIf_11 rfl (lv_at hl 0 rfl) ?_
      refine lv_iload_n hx hb dX10_throwsIf_12 rfl (lv_at hl 2 rfl) ?_
      obtain ⟨G13, i13, h⟩ := Option.bind_eq_some_iff.mp h
      refine g_putv hx hb hts inlX10 tyX10 tyX10_ok nmX10 hown hK hG (by rfl) 0 (by decide) qF_X10_50 rfl rfl rfl rfl i13 dX10_throwsIf_13 (fun H locs hG => ?_)
      exact h16 G13 a0 _ _ hG _ (lv_sub hl [0] rfl) h
def f_X10_bytesOf_L3 : Nat → gH → Nat → Int32 → Int32 → Option gH
  | 0, _, _, _, _ => none
  | n + 1, G, ba0, bx1, bx2 =>
    if bx2 < 0 then
    some G
    else
    (g_r G ba0 10 3).bind fun v8 =>
    (g_i G ba0 10 4).bind fun v12 =>
    (g_ast 2 G v8 v12 ((bx1 >>> (bx2 &&& 31)).toInt8.toInt32)).bind fun G19 =>
    (g_i G19 ba0 10 4).bind fun v22 =>
    (g_put G19 ba0 10 4 (.int (v22 + (1 : Int32)))).bind fun G27 =>
    f_X10_bytesOf_L3 n G27 ba0 bx1 (bx2 + (-8 : Int32))
def f_X10_bytesOf (G : gH) (a0 : Nat) (x1 : Int32) : Option gH :=
    f_X10_bytesOf_L3 g_N G a0 x1 (24 : Int32)
set_option maxRecDepth 20000 in
set_option maxHeartbeats 4000000 in
theorem m_X10_bytesOf (l : Launch) (dd : va_G) (cT : Nat → ClassId) (lo : Nat) (G : gH) (a0 : Nat) (x1 : Int32) {Gz : gH} (h : f_X10_bytesOf G a0 x1 = some Gz) : Met l yX10_bytesOf (Cond.code yX10_bytesOf cX10_bytesOf 3 none :: wsL_law) (g_rm 0 0 0 0) (va_Pc [.ref a0, .int x1] (g_Pre lo dd cT G)) (va_Qv (g_iv Gz) (g_Pre lo dd cT) (g_A lo)) 0 0 (g_A lo) := by
  refine g_start RX10 rfl (by decide) (Nat.le_of_ble_eq_true rfl) ?_
  intro p e s m below meth c hx hb hr hlocks hml hown hnm hts hK hG hlo ls hl
  have hl : lv_has ls 3 [(0, .ref a0), (1, .int x1)] := hl
  have hG : g_S lo dd cT s s.heap [] G := hG
  have h3 : ∀ n : Nat, ∀ (G : gH) (ba0 : Nat) (bx1 : Int32) (bx2 : Int32), ∀ (H : Heap) (locs : List Loc), g_S lo dd cT s H locs G → ∀ ls : Array Slot, lv_has ls 3 [(0, .ref ba0), (1, .int bx1), (2, .int bx2)] → f_X10_bytesOf_L3 n G ba0 bx1 bx2 = some Gz → W p l e (g_rm 0 0 0 0) s m ([.ref a0, .int x1] : List Value).toArray below meth c H locs 0 0 (MQ below (va_Qv (g_iv Gz) (g_Pre lo dd cT) (g_A lo)) ([.ref a0, .int x1] : List Value).toArray s 0 0 (g_A lo)) (F0 m 3 ls []) := by
    intro n
    induction n with
    | zero =>
      intro G ba0 bx1 bx2 H locs hG ls hl h
      cases (show (none : Option gH) = some Gz from h)
    | succ n ih =>
      intro G ba0 bx1 bx2 H locs hG ls hl h
      rw [f_X10_bytesOf_L3] at h
      refine lv_iload_n hx hb dX10_bytesOf_3 rfl (lv_at hl 2 rfl) ?_
      refine lv_if_lt (tgt := 36) hx hb dX10_bytesOf_4 (by decide) (fun c4 => ?_) (fun c4 => ?_)
      · rw [if_pos c4] at h
        obtain rfl := Option.some.inj h
        exact g_vret hx hb hr hlocks hK hlo hG rfl dX10_bytesOf_36
      · rw [if_neg c4] at h
        refine lv_aload_n hx hb dX10_bytesOf_7 rfl (lv_at hl 0 rfl) ?_
        obtain ⟨v8, e8, h⟩ := Option.bind_eq_some_iff.mp h
        refine g_getr hx hb hts inlX10 hown hK hG (by rfl) 3 (by decide) qF_X10_17 e8 dX10_bytesOf_8 ?_
        refine lv_aload_n hx hb dX10_bytesOf_11 rfl (lv_at hl 0 rfl) ?_
        obtain ⟨v12, e12, h⟩ := Option.bind_eq_some_iff.mp h
        refine g_geti hx hb hts inlX10 hown hK hG (by rfl) 4 (by decide) qF_X10_53 e12 dX10_bytesOf_12 ?_
        refine lv_iload_n hx hb dX10_bytesOf_15 rfl (lv_at hl 1 rfl) ?_
        refine lv_iload_n hx hb dX10_bytesOf_16 rfl (lv_at hl 2 rfl) ?_
        refine lv_ishr hx hb dX10_bytesOf_17 ?_
        refine lv_i2b hx hb dX10_bytesOf_18 rfl ?_
        obtain ⟨G19, e19, h⟩ := Option.bind_eq_some_iff.mp h
        refine g_bast hx hb hK hG e19 dX10_bytesOf_19 (fun H locs hG => ?_)
        refine lv_aload_n hx hb dX10_bytesOf_20 rfl (lv_at hl 0 rfl) ?_
        refine lv_dup hx hb dX10_bytesOf_21 rfl ?_
        obtain ⟨v22, e22, h⟩ := Option.bind_eq_some_iff.mp h
        refine g_geti hx hb hts inlX10 hown hK hG (by rfl) 4 (by decide) qF_X10_53 e22 dX10_bytesOf_22 ?_
        refine lv_iconst (v := (1 : Int32)) hx hb dX10_bytesOf_25 (by decide) ?_
        refine lv_iadd hx hb dX10_bytesOf_26 ?_
        obtain ⟨G27, i27, h⟩ := Option.bind_eq_some_iff.mp h
        refine g_putv hx hb hts inlX10 tyX10 tyX10_ok nmX10 hown hK hG (by rfl) 4 (by decide) qF_X10_53 rfl rfl rfl rfl i27 dX10_bytesOf_27 (fun H locs hG => ?_)
        refine lv_iinc (v := (bx2 + (-8 : Int32))) (lv' := [(2, .int (bx2 + (-8 : Int32))), (0, .ref ba0), (1, .int bx1)]) hx hb dX10_bytesOf_30 hl (k := 2) rfl rfl (by decide) rfl (fun ls hl => ?_)
        refine lv_goto (tgt := 3) hx hb dX10_bytesOf_33 (by decide) ?_
        exact ih G27 ba0 bx1 (bx2 + (-8 : Int32)) _ _ hG _ (lv_sub hl [1, 2, 0] rfl) h
  unfold f_X10_bytesOf at h
  refine lv_bipush (v := (24 : Int32)) hx hb dX10_bytesOf_0 (by decide) ?_
  refine lv_istore_n (lv' := [(2, .int (24 : Int32)), (0, .ref a0), (1, .int x1)]) hx hb dX10_bytesOf_2 rfl hl (by decide) rfl (fun ls hl => ?_)
  exact h3 g_N G a0 x1 (24 : Int32) _ _ hG _ (lv_sub hl [1, 2, 0] rfl) h
def f_X10_byteAt (G : gH) (a0 : Nat) (x1 : Int32) : Option Int32 :=
    (g_i G a0 10 5).bind fun v2 =>
    if v2 ≤ x1 then
    some (-1 : Int32)
    else
    (g_r G a0 10 3).bind fun v9 =>
    (g_ald 2 G v9 x1).bind fun v13 =>
    some (v13 &&& (255 : Int32))
set_option maxRecDepth 20000 in
set_option maxHeartbeats 4000000 in
theorem m_X10_byteAt (l : Launch) (dd : va_G) (cT : Nat → ClassId) (lo : Nat) (G : gH) (a0 : Nat) (x1 : Int32) {rz : Int32} (h : f_X10_byteAt G a0 x1 = some rz) : Met l yX10_byteAt (Cond.code yX10_byteAt cX10_byteAt 2 (some .int) :: wsL_law) (g_rm 0 0 0 0) (va_Pc [.ref a0, .int x1] (g_Pre lo dd cT G)) (va_Qi (g_is rz G) (g_Pre lo dd cT) (g_A lo)) 0 0 (g_A lo) := by
  refine g_start RX10 rfl (by decide) (Nat.le_of_ble_eq_true rfl) ?_
  intro p e s m below meth c hx hb hr hlocks hml hown hnm hts hK hG hlo ls hl
  have hl : lv_has ls 2 [(0, .ref a0), (1, .int x1)] := hl
  have hG : g_S lo dd cT s s.heap [] G := hG
  unfold f_X10_byteAt at h
  refine lv_iload_n hx hb dX10_byteAt_0 rfl (lv_at hl 1 rfl) ?_
  refine lv_aload_n hx hb dX10_byteAt_1 rfl (lv_at hl 0 rfl) ?_
  obtain ⟨v2, e2, h⟩ := Option.bind_eq_some_iff.mp h
  refine g_geti hx hb hts inlX10 hown hK hG (by rfl) 5 (by decide) qF_X10_60 e2 dX10_byteAt_2 ?_
  refine lv_icmp_ge (tgt := 21) hx hb dX10_byteAt_5 (by decide) (fun c5 => ?_) (fun c5 => ?_)
  · rw [if_pos c5] at h
    refine lv_iconst (v := (-1 : Int32)) hx hb dX10_byteAt_21 (by decide) ?_
    obtain rfl := Option.some.inj h
    exact g_iret hx hb hr hlocks hK hlo hG ⟨rfl, rfl⟩ dX10_byteAt_22
  · rw [if_neg c5] at h
    refine lv_aload_n hx hb dX10_byteAt_8 rfl (lv_at hl 0 rfl) ?_
    obtain ⟨v9, e9, h⟩ := Option.bind_eq_some_iff.mp h
    refine g_getr hx hb hts inlX10 hown hK hG (by rfl) 3 (by decide) qF_X10_17 e9 dX10_byteAt_9 ?_
    refine lv_iload_n hx hb dX10_byteAt_12 rfl (lv_at hl 1 rfl) ?_
    obtain ⟨v13, e13, h⟩ := Option.bind_eq_some_iff.mp h
    refine g_bald hx hb hK hG e13 dX10_byteAt_13 ?_
    refine lv_sipush (v := (255 : Int32)) hx hb dX10_byteAt_14 (by decide) ?_
    refine lv_iand hx hb dX10_byteAt_17 ?_
    refine lv_goto (tgt := 22) hx hb dX10_byteAt_18 (by decide) ?_
    obtain rfl := Option.some.inj h
    exact g_iret hx hb hr hlocks hK hlo hG ⟨rfl, rfl⟩ dX10_byteAt_22
def f_X10_takesLetters_J62 (k5 : gH → Nat → Option gH) (G : gH) (ba0 : Nat) (z0 : Nat) (z1 : Int64) : Option gH :=
    (g_put G z0 10 10 (.long z1)).bind fun G62 =>
    (g_i G62 ba0 10 7).bind fun v67 =>
    (g_put G62 ba0 10 7 (.int (v67 + (1 : Int32)))).bind fun G72 =>
    k5 G72 ba0
def f_X10_takesLetters_L5 : Nat → gH → Nat → Option gH
  | 0, _, _ => none
  | n + 1, G, ba0 =>
    (g_i G ba0 10 7).bind fun v7 =>
    (g_ob G ba0 10).bind fun u10 =>
    (f_X10_byteAt G ba0 v7).bind fun v10 =>
    (f_X10_within G v10 (97 : Int32) (122 : Int32)).bind fun v17 =>
    if v17 = 0 then
    some G
    else
    (g_i G ba0 10 7).bind fun v25 =>
    (g_i G ba0 10 6).bind fun v29 =>
    if (8 : Int32) ≤ (v25 - v29) then
    (g_j G ba0 10 10).bind fun v59 =>
    f_X10_takesLetters_J62 (f_X10_takesLetters_L5 n) G ba0 ba0 v59
    else
    (g_j G ba0 10 10).bind fun v39 =>
    (g_i G ba0 10 7).bind fun v47 =>
    (g_ob G ba0 10).bind fun u50 =>
    (f_X10_byteAt G ba0 v47).bind fun v50 =>
    f_X10_takesLetters_J62 (f_X10_takesLetters_L5 n) G ba0 ba0 ((v39 <<< ((8 : Int32).toInt64 &&& 63)) ||| v50.toInt64)
def f_X10_takesLetters (G : gH) (a0 : Nat) : Option gH :=
    (g_put G a0 10 10 (.long (0 : Int64))).bind fun G2 =>
    f_X10_takesLetters_L5 g_N G2 a0
set_option maxRecDepth 20000 in
set_option maxHeartbeats 4000000 in
theorem m_X10_takesLetters (l : Launch) (dd : va_G) (cT : Nat → ClassId) (lo : Nat) (G : gH) (a0 : Nat) {Gz : gH} (h : f_X10_takesLetters G a0 = some Gz) : Met l yX10_takesLetters (Cond.code yX10_takesLetters cX10_takesLetters 1 none :: wsL_law) (g_rm 1 22 0 0) (va_Pc [.ref a0] (g_Pre lo dd cT G)) (va_Qv (g_iv Gz) (g_Pre lo dd cT) (g_A lo)) 0 0 (g_A lo) := by
  refine g_start RX10 rfl (by decide) (Nat.le_of_ble_eq_true rfl) ?_
  intro p e s m below meth c hx hb hr hlocks hml hown hnm hts hK hG hlo ls hl
  have hl : lv_has ls 1 [(0, .ref a0)] := hl
  have hG : g_S lo dd cT s s.heap [] G := hG
  have h5 : ∀ n : Nat, ∀ (G : gH) (ba0 : Nat), ∀ (H : Heap) (locs : List Loc), g_S lo dd cT s H locs G → ∀ ls : Array Slot, lv_has ls 1 [(0, .ref ba0)] → f_X10_takesLetters_L5 n G ba0 = some Gz → W p l e (g_rm 1 22 0 0) s m ([.ref a0] : List Value).toArray below meth c H locs 0 0 (MQ below (va_Qv (g_iv Gz) (g_Pre lo dd cT) (g_A lo)) ([.ref a0] : List Value).toArray s 0 0 (g_A lo)) (F0 m 5 ls []) := by
    intro n
    induction n with
    | zero =>
      intro G ba0 H locs hG ls hl h
      cases (show (none : Option gH) = some Gz from h)
    | succ n ih =>
      intro G ba0 H locs hG ls hl h
      rw [f_X10_takesLetters_L5] at h
      have h62 : ∀ (G : gH) (ba0 : Nat) (z0 : Nat) (z1 : Int64), ∀ (H : Heap) (locs : List Loc), g_S lo dd cT s H locs G → ∀ ls : Array Slot, lv_has ls 1 [(0, .ref ba0)] → f_X10_takesLetters_J62 (f_X10_takesLetters_L5 n) G ba0 z0 z1 = some Gz → W p l e (g_rm 1 22 0 0) s m ([.ref a0] : List Value).toArray below meth c H locs 0 0 (MQ below (va_Qv (g_iv Gz) (g_Pre lo dd cT) (g_A lo)) ([.ref a0] : List Value).toArray s 0 0 (g_A lo)) (F0 m 62 ls [.long z1, .ref z0]) := by
        intro G ba0 z0 z1 H locs hG ls hl h
        unfold f_X10_takesLetters_J62 at h
        obtain ⟨G62, i62, h⟩ := Option.bind_eq_some_iff.mp h
        refine g_putv hx hb hts inlX10 tyX10 tyX10_ok nmX10 hown hK hG (by rfl) 10 (by decide) qF_X10_63 rfl rfl rfl rfl i62 dX10_takesLetters_62 (fun H locs hG => ?_)
        refine lv_aload_n hx hb dX10_takesLetters_65 rfl (lv_at hl 0 rfl) ?_
        refine lv_dup hx hb dX10_takesLetters_66 rfl ?_
        obtain ⟨v67, e67, h⟩ := Option.bind_eq_some_iff.mp h
        refine g_geti hx hb hts inlX10 hown hK hG (by rfl) 7 (by decide) qF_X10_67 e67 dX10_takesLetters_67 ?_
        refine lv_iconst (v := (1 : Int32)) hx hb dX10_takesLetters_70 (by decide) ?_
        refine lv_iadd hx hb dX10_takesLetters_71 ?_
        obtain ⟨G72, i72, h⟩ := Option.bind_eq_some_iff.mp h
        refine g_putv hx hb hts inlX10 tyX10 tyX10_ok nmX10 hown hK hG (by rfl) 7 (by decide) qF_X10_67 rfl rfl rfl rfl i72 dX10_takesLetters_72 (fun H locs hG => ?_)
        refine lv_goto (tgt := 5) hx hb dX10_takesLetters_75 (by decide) ?_
        exact ih G72 ba0 _ _ hG _ (lv_sub hl [0] rfl) h
      refine lv_aload_n hx hb dX10_takesLetters_5 rfl (lv_at hl 0 rfl) ?_
      refine lv_aload_n hx hb dX10_takesLetters_6 rfl (lv_at hl 0 rfl) ?_
      obtain ⟨v7, e7, h⟩ := Option.bind_eq_some_iff.mp h
      refine g_geti hx hb hts inlX10 hown hK hG (by rfl) 7 (by decide) qF_X10_67 e7 dX10_takesLetters_7 ?_
      obtain ⟨u10, i10, h⟩ := Option.bind_eq_some_iff.mp h
      obtain ⟨v10, e10, h⟩ := Option.bind_eq_some_iff.mp h
      refine g_cVi (As := [.int v7]) (rest := []) (n := 1) hx hb hml hown hts hK hlo hG (m_X10_byteAt l dd cT lo G ba0 v7 e10) qM_X10_70 qI_yX10_byteAt qS_X10_yX10_byteAt qN_X10 qC_yX10_byteAt (by decide +kernel) ⟨Nat.le_of_ble_eq_true rfl, Nat.le_of_ble_eq_true rfl⟩ (by rfl) i10 rfl hl.1 rfl (Nat.le_of_ble_eq_true rfl) dX10_takesLetters_10 ⟨Nat.le_of_ble_eq_true rfl, Nat.le_of_ble_eq_true rfl⟩ (fun H locs hG => ?_)
      refine lv_bipush (v := (97 : Int32)) hx hb dX10_takesLetters_13 (by decide) ?_
      refine lv_bipush (v := (122 : Int32)) hx hb dX10_takesLetters_15 (by decide) ?_
      obtain ⟨v17, e17, h⟩ := Option.bind_eq_some_iff.mp h
      refine g_cSi (As := [.int v10, .int (97 : Int32), .int (122 : Int32)]) (rest := []) (n := 3) hx hb hml hown hts hK hlo hG (m_X10_within l dd cT lo G v10 (97 : Int32) (122 : Int32) e17) qM_X10_74 qT_yX10_within qN_X10 qC_yX10_within (by decide +kernel) ⟨Nat.le_of_ble_eq_true rfl, Nat.le_of_ble_eq_true rfl⟩ rfl hl.1 rfl (Nat.le_of_ble_eq_true rfl) dX10_takesLetters_17 ⟨Nat.le_of_ble_eq_true rfl, Nat.le_of_ble_eq_true rfl⟩ (fun H locs hG => ?_)
      refine lv_if_eq (tgt := 78) hx hb dX10_takesLetters_20 (by decide) (fun c20 => ?_) (fun c20 => ?_)
      · rw [if_pos c20] at h
        obtain rfl := Option.some.inj h
        exact g_vret hx hb hr hlocks hK hlo hG rfl dX10_takesLetters_78
      · rw [if_neg c20] at h
        refine lv_aload_n hx hb dX10_takesLetters_23 rfl (lv_at hl 0 rfl) ?_
        refine lv_aload_n hx hb dX10_takesLetters_24 rfl (lv_at hl 0 rfl) ?_
        obtain ⟨v25, e25, h⟩ := Option.bind_eq_some_iff.mp h
        refine g_geti hx hb hts inlX10 hown hK hG (by rfl) 7 (by decide) qF_X10_67 e25 dX10_takesLetters_25 ?_
        refine lv_aload_n hx hb dX10_takesLetters_28 rfl (lv_at hl 0 rfl) ?_
        obtain ⟨v29, e29, h⟩ := Option.bind_eq_some_iff.mp h
        refine g_geti hx hb hts inlX10 hown hK hG (by rfl) 6 (by decide) qF_X10_78 e29 dX10_takesLetters_29 ?_
        refine lv_isub hx hb dX10_takesLetters_32 ?_
        refine lv_bipush (v := (8 : Int32)) hx hb dX10_takesLetters_33 (by decide) ?_
        refine lv_icmp_ge (tgt := 58) hx hb dX10_takesLetters_35 (by decide) (fun c35 => ?_) (fun c35 => ?_)
        · rw [if_pos c35] at h
          refine lv_aload_n hx hb dX10_takesLetters_58 rfl (lv_at hl 0 rfl) ?_
          obtain ⟨v59, e59, h⟩ := Option.bind_eq_some_iff.mp h
          refine g_getj hx hb hts inlX10 hown hK hG (by rfl) 10 (by decide) qF_X10_63 e59 dX10_takesLetters_59 ?_
          exact h62 G ba0 ba0 v59 _ _ hG _ (lv_sub hl [0] rfl) h
        · rw [if_neg c35] at h
          refine lv_aload_n hx hb dX10_takesLetters_38 rfl (lv_at hl 0 rfl) ?_
          obtain ⟨v39, e39, h⟩ := Option.bind_eq_some_iff.mp h
          refine g_getj hx hb hts inlX10 hown hK hG (by rfl) 10 (by decide) qF_X10_63 e39 dX10_takesLetters_39 ?_
          refine lv_bipush (v := (8 : Int32)) hx hb dX10_takesLetters_42 (by decide) ?_
          refine lv_lshl hx hb dX10_takesLetters_44 rfl ?_
          refine lv_aload_n hx hb dX10_takesLetters_45 rfl (lv_at hl 0 rfl) ?_
          refine lv_aload_n hx hb dX10_takesLetters_46 rfl (lv_at hl 0 rfl) ?_
          obtain ⟨v47, e47, h⟩ := Option.bind_eq_some_iff.mp h
          refine g_geti hx hb hts inlX10 hown hK hG (by rfl) 7 (by decide) qF_X10_67 e47 dX10_takesLetters_47 ?_
          obtain ⟨u50, i50, h⟩ := Option.bind_eq_some_iff.mp h
          obtain ⟨v50, e50, h⟩ := Option.bind_eq_some_iff.mp h
          refine g_cVi (As := [.int v47]) (rest := [.long (v39 <<< ((8 : Int32).toInt64 &&& 63)), .ref ba0]) (n := 1) hx hb hml hown hts hK hlo hG (m_X10_byteAt l dd cT lo G ba0 v47 e50) qM_X10_70 qI_yX10_byteAt qS_X10_yX10_byteAt qN_X10 qC_yX10_byteAt (by decide +kernel) ⟨Nat.le_of_ble_eq_true rfl, Nat.le_of_ble_eq_true rfl⟩ (by rfl) i50 rfl hl.1 rfl (Nat.le_of_ble_eq_true rfl) dX10_takesLetters_50 ⟨Nat.le_of_ble_eq_true rfl, Nat.le_of_ble_eq_true rfl⟩ (fun H locs hG => ?_)
          refine lv_i2l hx hb dX10_takesLetters_53 rfl ?_
          refine lv_lor hx hb dX10_takesLetters_54 ?_
          refine lv_goto (tgt := 62) hx hb dX10_takesLetters_55 (by decide) ?_
          exact h62 G ba0 ba0 ((v39 <<< ((8 : Int32).toInt64 &&& 63)) ||| v50.toInt64) _ _ hG _ (lv_sub hl [0] rfl) h
  unfold f_X10_takesLetters at h
  refine lv_aload_n hx hb dX10_takesLetters_0 rfl (lv_at hl 0 rfl) ?_
  refine lv_lconst (v := (0 : Int64)) hx hb dX10_takesLetters_1 (by decide) ?_
  obtain ⟨G2, i2, h⟩ := Option.bind_eq_some_iff.mp h
  refine g_putv hx hb hts inlX10 tyX10 tyX10_ok nmX10 hown hK hG (by rfl) 10 (by decide) qF_X10_63 rfl rfl rfl rfl i2 dX10_takesLetters_2 (fun H locs hG => ?_)
  exact h5 g_N G2 a0 _ _ hG _ (lv_sub hl [0] rfl) h
def f_X10_advance_J184 (k126 : gH → Nat → Option gH) (G : gH) (ba0 : Nat) (z0 : Nat) (z1 : Int32) : Option gH :=
    (g_put G z0 10 9 (.int z1)).bind fun G184 =>
    (g_i G184 ba0 10 7).bind fun v189 =>
    (g_put G184 ba0 10 7 (.int (v189 + (1 : Int32)))).bind fun G194 =>
    k126 G194 ba0
def f_X10_advance_L126 : Nat → gH → Nat → Option gH
  | 0, _, _ => none
  | n + 1, G, ba0 =>
    (g_i G ba0 10 7).bind fun v128 =>
    (g_ob G ba0 10).bind fun u131 =>
    (f_X10_byteAt G ba0 v128).bind fun v131 =>
    (f_X10_within G v131 (48 : Int32) (57 : Int32)).bind fun v138 =>
    if v138 = 0 then
    (g_i G ba0 10 7).bind fun v202 =>
    (g_i G ba0 10 6).bind fun v206 =>
    if (v202 - v206) ≤ (3 : Int32) then
    (g_put G ba0 10 8 (.int (2 : Int32))).bind fun G219 =>
    some G219
    else
    (g_put G ba0 10 8 (.int (4 : Int32))).bind fun G219 =>
    some G219
    else
    (g_i G ba0 10 7).bind fun v146 =>
    (g_i G ba0 10 6).bind fun v150 =>
    if (3 : Int32) ≤ (v146 - v150) then
    (g_i G ba0 10 9).bind fun v181 =>
    f_X10_advance_J184 (f_X10_advance_L126 n) G ba0 ba0 v181
    else
    (g_i G ba0 10 9).bind fun v161 =>
    (g_i G ba0 10 7).bind fun v167 =>
    (g_ob G ba0 10).bind fun u170 =>
    (f_X10_byteAt G ba0 v167).bind fun v170 =>
    f_X10_advance_J184 (f_X10_advance_L126 n) G ba0 ba0 ((((10 : Int32) * v161) + v170) - (48 : Int32))
def f_X10_advance_L0 : Nat → gH → Nat → Option gH
  | 0, _, _ => none
  | n + 1, G, ba0 =>
    (g_i G ba0 10 7).bind fun v2 =>
    (g_ob G ba0 10).bind fun u5 =>
    (f_X10_byteAt G ba0 v2).bind fun v5 =>
    if v5 = (32 : Int32) then
    (g_i G ba0 10 7).bind fun v28 =>
    (g_put G ba0 10 7 (.int (v28 + (1 : Int32)))).bind fun G33 =>
    f_X10_advance_L0 n G33 ba0
    else
    (g_i G ba0 10 7).bind fun v15 =>
    (g_ob G ba0 10).bind fun u18 =>
    (f_X10_byteAt G ba0 v15).bind fun v18 =>
    if v18 = (10 : Int32) then
    (g_i G ba0 10 7).bind fun v28 =>
    (g_put G ba0 10 7 (.int (v28 + (1 : Int32)))).bind fun G33 =>
    f_X10_advance_L0 n G33 ba0
    else
    (g_i G ba0 10 7).bind fun v41 =>
    (g_put G ba0 10 6 (.int v41)).bind fun G44 =>
    (g_put G44 ba0 10 9 (.int (0 : Int32))).bind fun G49 =>
    (g_i G49 ba0 10 7).bind fun v54 =>
    (g_ob G49 ba0 10).bind fun u57 =>
    (f_X10_byteAt G49 ba0 v54).bind fun v57 =>
    if v57 = (-1 : Int32) then
    (g_put G49 ba0 10 8 (.int (0 : Int32))).bind fun G68 =>
    some G68
    else
    (f_X10_within G49 v57 (97 : Int32) (122 : Int32)).bind fun v79 =>
    if v79 = 0 then
    (f_X10_within G49 v57 (48 : Int32) (57 : Int32)).bind fun v120 =>
    if v120 = 0 then
    (g_i G49 ba0 10 7).bind fun v227 =>
    (g_put G49 ba0 10 7 (.int (v227 + (1 : Int32)))).bind fun G232 =>
    if v57 = (59 : Int32) then
    (g_put G232 ba0 10 8 (.int (3 : Int32))).bind fun G247 =>
    some G247
    else
    (g_put G232 ba0 10 8 (.int (4 : Int32))).bind fun G247 =>
    some G247
    else
    f_X10_advance_L126 g_N G49 ba0
    else
    (g_ob G49 ba0 10).bind fun u86 =>
    (f_X10_takesLetters G49 ba0).bind fun G86 =>
    (g_i G86 ba0 10 7).bind fun v91 =>
    (g_i G86 ba0 10 6).bind fun v95 =>
    if (v91 - v95) ≤ (8 : Int32) then
    (g_put G86 ba0 10 8 (.int (1 : Int32))).bind fun G109 =>
    some G109
    else
    (g_put G86 ba0 10 8 (.int (4 : Int32))).bind fun G109 =>
    some G109
def f_X10_advance (G : gH) (a0 : Nat) : Option gH :=
    f_X10_advance_L0 g_N G a0
set_option maxRecDepth 20000 in
set_option maxHeartbeats 4000000 in
theorem m_X10_advance (l : Launch) (dd : va_G) (cT : Nat → ClassId) (lo : Nat) (G : gH) (a0 : Nat) {Gz : gH} (h : f_X10_advance G a0 = some Gz) : Met l yX10_advance (Cond.code yX10_advance cX10_advance 2 none :: wsL_law) (g_rm 2 42 0 0) (va_Pc [.ref a0] (g_Pre lo dd cT G)) (va_Qv (g_iv Gz) (g_Pre lo dd cT) (g_A lo)) 0 0 (g_A lo) := by
  refine g_start RX10 rfl (by decide) (Nat.le_of_ble_eq_true rfl) ?_
  intro p e s m below meth c hx hb hr hlocks hml hown hnm hts hK hG hlo ls hl
  have hl : lv_has ls 2 [(0, .ref a0)] := hl
  have hG : g_S lo dd cT s s.heap [] G := hG
  have h126 : ∀ n : Nat, ∀ (G : gH) (ba0 : Nat), ∀ (H : Heap) (locs : List Loc), g_S lo dd cT s H locs G → ∀ ls : Array Slot, lv_has ls 2 [(0, .ref ba0)] → f_X10_advance_L126 n G ba0 = some Gz → W p l e (g_rm 2 42 0 0) s m ([.ref a0] : List Value).toArray below meth c H locs 0 0 (MQ below (va_Qv (g_iv Gz) (g_Pre lo dd cT) (g_A lo)) ([.ref a0] : List Value).toArray s 0 0 (g_A lo)) (F0 m 126 ls []) := by
    intro n
    induction n with
    | zero =>
      intro G ba0 H locs hG ls hl h
      cases (show (none : Option gH) = some Gz from h)
    | succ n ih =>
      intro G ba0 H locs hG ls hl h
      rw [f_X10_advance_L126] at h
      have h184 : ∀ (G : gH) (ba0 : Nat) (z0 : Nat) (z1 : Int32), ∀ (H : Heap) (locs : List Loc), g_S lo dd cT s H locs G → ∀ ls : Array Slot, lv_has ls 2 [(0, .ref ba0)] → f_X10_advance_J184 (f_X10_advance_L126 n) G ba0 z0 z1 = some Gz → W p l e (g_rm 2 42 0 0) s m ([.ref a0] : List Value).toArray below meth c H locs 0 0 (MQ below (va_Qv (g_iv Gz) (g_Pre lo dd cT) (g_A lo)) ([.ref a0] : List Value).toArray s 0 0 (g_A lo)) (F0 m 184 ls [.int z1, .ref z0]) := by
        intro G ba0 z0 z1 H locs hG ls hl h
        unfold f_X10_advance_J184 at h
        obtain ⟨G184, i184, h⟩ := Option.bind_eq_some_iff.mp h
        refine g_putv hx hb hts inlX10 tyX10 tyX10_ok nmX10 hown hK hG (by rfl) 9 (by decide) qF_X10_81 rfl rfl rfl rfl i184 dX10_advance_184 (fun H locs hG => ?_)
        refine lv_aload_n hx hb dX10_advance_187 rfl (lv_at hl 0 rfl) ?_
        refine lv_dup hx hb dX10_advance_188 rfl ?_
        obtain ⟨v189, e189, h⟩ := Option.bind_eq_some_iff.mp h
        refine g_geti hx hb hts inlX10 hown hK hG (by rfl) 7 (by decide) qF_X10_67 e189 dX10_advance_189 ?_
        refine lv_iconst (v := (1 : Int32)) hx hb dX10_advance_192 (by decide) ?_
        refine lv_iadd hx hb dX10_advance_193 ?_
        obtain ⟨G194, i194, h⟩ := Option.bind_eq_some_iff.mp h
        refine g_putv hx hb hts inlX10 tyX10 tyX10_ok nmX10 hown hK hG (by rfl) 7 (by decide) qF_X10_67 rfl rfl rfl rfl i194 dX10_advance_194 (fun H locs hG => ?_)
        refine lv_goto (tgt := 126) hx hb dX10_advance_197 (by decide) ?_
        exact ih G194 ba0 _ _ hG _ (lv_sub hl [0] rfl) h
      refine lv_aload_n hx hb dX10_advance_126 rfl (lv_at hl 0 rfl) ?_
      refine lv_aload_n hx hb dX10_advance_127 rfl (lv_at hl 0 rfl) ?_
      obtain ⟨v128, e128, h⟩ := Option.bind_eq_some_iff.mp h
      refine g_geti hx hb hts inlX10 hown hK hG (by rfl) 7 (by decide) qF_X10_67 e128 dX10_advance_128 ?_
      obtain ⟨u131, i131, h⟩ := Option.bind_eq_some_iff.mp h
      obtain ⟨v131, e131, h⟩ := Option.bind_eq_some_iff.mp h
      refine g_cVi (As := [.int v128]) (rest := []) (n := 1) hx hb hml hown hts hK hlo hG (m_X10_byteAt l dd cT lo G ba0 v128 e131) qM_X10_70 qI_yX10_byteAt qS_X10_yX10_byteAt qN_X10 qC_yX10_byteAt (by decide +kernel) ⟨Nat.le_of_ble_eq_true rfl, Nat.le_of_ble_eq_true rfl⟩ (by rfl) i131 rfl hl.1 rfl (Nat.le_of_ble_eq_true rfl) dX10_advance_131 ⟨Nat.le_of_ble_eq_true rfl, Nat.le_of_ble_eq_true rfl⟩ (fun H locs hG => ?_)
      refine lv_bipush (v := (48 : Int32)) hx hb dX10_advance_134 (by decide) ?_
      refine lv_bipush (v := (57 : Int32)) hx hb dX10_advance_136 (by decide) ?_
      obtain ⟨v138, e138, h⟩ := Option.bind_eq_some_iff.mp h
      refine g_cSi (As := [.int v131, .int (48 : Int32), .int (57 : Int32)]) (rest := []) (n := 3) hx hb hml hown hts hK hlo hG (m_X10_within l dd cT lo G v131 (48 : Int32) (57 : Int32) e138) qM_X10_74 qT_yX10_within qN_X10 qC_yX10_within (by decide +kernel) ⟨Nat.le_of_ble_eq_true rfl, Nat.le_of_ble_eq_true rfl⟩ rfl hl.1 rfl (Nat.le_of_ble_eq_true rfl) dX10_advance_138 ⟨Nat.le_of_ble_eq_true rfl, Nat.le_of_ble_eq_true rfl⟩ (fun H locs hG => ?_)
      refine lv_if_eq (tgt := 200) hx hb dX10_advance_141 (by decide) (fun c141 => ?_) (fun c141 => ?_)
      · rw [if_pos c141] at h
        refine lv_aload_n hx hb dX10_advance_200 rfl (lv_at hl 0 rfl) ?_
        refine lv_aload_n hx hb dX10_advance_201 rfl (lv_at hl 0 rfl) ?_
        obtain ⟨v202, e202, h⟩ := Option.bind_eq_some_iff.mp h
        refine g_geti hx hb hts inlX10 hown hK hG (by rfl) 7 (by decide) qF_X10_67 e202 dX10_advance_202 ?_
        refine lv_aload_n hx hb dX10_advance_205 rfl (lv_at hl 0 rfl) ?_
        obtain ⟨v206, e206, h⟩ := Option.bind_eq_some_iff.mp h
        refine g_geti hx hb hts inlX10 hown hK hG (by rfl) 6 (by decide) qF_X10_78 e206 dX10_advance_206 ?_
        refine lv_isub hx hb dX10_advance_209 ?_
        refine lv_iconst (v := (3 : Int32)) hx hb dX10_advance_210 (by decide) ?_
        refine lv_icmp_le (tgt := 218) hx hb dX10_advance_211 (by decide) (fun c211 => ?_) (fun c211 => ?_)
        · rw [if_pos c211] at h
          refine lv_iconst (v := (2 : Int32)) hx hb dX10_advance_218 (by decide) ?_
          obtain ⟨G219, i219, h⟩ := Option.bind_eq_some_iff.mp h
          refine g_putv hx hb hts inlX10 tyX10 tyX10_ok nmX10 hown hK hG (by rfl) 8 (by decide) qF_X10_84 rfl rfl rfl rfl i219 dX10_advance_219 (fun H locs hG => ?_)
          refine lv_goto (tgt := 250) hx hb dX10_advance_222 (by decide) ?_
          obtain rfl := Option.some.inj h
          exact g_vret hx hb hr hlocks hK hlo hG rfl dX10_advance_250
        · rw [if_neg c211] at h
          refine lv_iconst (v := (4 : Int32)) hx hb dX10_advance_214 (by decide) ?_
          refine lv_goto (tgt := 219) hx hb dX10_advance_215 (by decide) ?_
          obtain ⟨G219, i219, h⟩ := Option.bind_eq_some_iff.mp h
          refine g_putv hx hb hts inlX10 tyX10 tyX10_ok nmX10 hown hK hG (by rfl) 8 (by decide) qF_X10_84 rfl rfl rfl rfl i219 dX10_advance_219 (fun H locs hG => ?_)
          refine lv_goto (tgt := 250) hx hb dX10_advance_222 (by decide) ?_
          obtain rfl := Option.some.inj h
          exact g_vret hx hb hr hlocks hK hlo hG rfl dX10_advance_250
      · rw [if_neg c141] at h
        refine lv_aload_n hx hb dX10_advance_144 rfl (lv_at hl 0 rfl) ?_
        refine lv_aload_n hx hb dX10_advance_145 rfl (lv_at hl 0 rfl) ?_
        obtain ⟨v146, e146, h⟩ := Option.bind_eq_some_iff.mp h
        refine g_geti hx hb hts inlX10 hown hK hG (by rfl) 7 (by decide) qF_X10_67 e146 dX10_advance_146 ?_
        refine lv_aload_n hx hb dX10_advance_149 rfl (lv_at hl 0 rfl) ?_
        obtain ⟨v150, e150, h⟩ := Option.bind_eq_some_iff.mp h
        refine g_geti hx hb hts inlX10 hown hK hG (by rfl) 6 (by decide) qF_X10_78 e150 dX10_advance_150 ?_
        refine lv_isub hx hb dX10_advance_153 ?_
        refine lv_iconst (v := (3 : Int32)) hx hb dX10_advance_154 (by decide) ?_
        refine lv_icmp_ge (tgt := 180) hx hb dX10_advance_155 (by decide) (fun c155 => ?_) (fun c155 => ?_)
        · rw [if_pos c155] at h
          refine lv_aload_n hx hb dX10_advance_180 rfl (lv_at hl 0 rfl) ?_
          obtain ⟨v181, e181, h⟩ := Option.bind_eq_some_iff.mp h
          refine g_geti hx hb hts inlX10 hown hK hG (by rfl) 9 (by decide) qF_X10_81 e181 dX10_advance_181 ?_
          exact h184 G ba0 ba0 v181 _ _ hG _ (lv_sub hl [0] rfl) h
        · rw [if_neg c155] at h
          refine lv_bipush (v := (10 : Int32)) hx hb dX10_advance_158 (by decide) ?_
          refine lv_aload_n hx hb dX10_advance_160 rfl (lv_at hl 0 rfl) ?_
          obtain ⟨v161, e161, h⟩ := Option.bind_eq_some_iff.mp h
          refine g_geti hx hb hts inlX10 hown hK hG (by rfl) 9 (by decide) qF_X10_81 e161 dX10_advance_161 ?_
          refine lv_imul hx hb dX10_advance_164 ?_
          refine lv_aload_n hx hb dX10_advance_165 rfl (lv_at hl 0 rfl) ?_
          refine lv_aload_n hx hb dX10_advance_166 rfl (lv_at hl 0 rfl) ?_
          obtain ⟨v167, e167, h⟩ := Option.bind_eq_some_iff.mp h
          refine g_geti hx hb hts inlX10 hown hK hG (by rfl) 7 (by decide) qF_X10_67 e167 dX10_advance_167 ?_
          obtain ⟨u170, i170, h⟩ := Option.bind_eq_some_iff.mp h
          obtain ⟨v170, e170, h⟩ := Option.bind_eq_some_iff.mp h
          refine g_cVi (As := [.int v167]) (rest := [.int ((10 : Int32) * v161), .ref ba0]) (n := 1) hx hb hml hown hts hK hlo hG (m_X10_byteAt l dd cT lo G ba0 v167 e170) qM_X10_70 qI_yX10_byteAt qS_X10_yX10_byteAt qN_X10 qC_yX10_byteAt (by decide +kernel) ⟨Nat.le_of_ble_eq_true rfl, Nat.le_of_ble_eq_true rfl⟩ (by rfl) i170 rfl hl.1 rfl (Nat.le_of_ble_eq_true rfl) dX10_advance_170 ⟨Nat.le_of_ble_eq_true rfl, Nat.le_of_ble_eq_true rfl⟩ (fun H locs hG => ?_)
          refine lv_iadd hx hb dX10_advance_173 ?_
          refine lv_bipush (v := (48 : Int32)) hx hb dX10_advance_174 (by decide) ?_
          refine lv_isub hx hb dX10_advance_176 ?_
          refine lv_goto (tgt := 184) hx hb dX10_advance_177 (by decide) ?_
          exact h184 G ba0 ba0 ((((10 : Int32) * v161) + v170) - (48 : Int32)) _ _ hG _ (lv_sub hl [0] rfl) h
  have h0 : ∀ n : Nat, ∀ (G : gH) (ba0 : Nat), ∀ (H : Heap) (locs : List Loc), g_S lo dd cT s H locs G → ∀ ls : Array Slot, lv_has ls 2 [(0, .ref ba0)] → f_X10_advance_L0 n G ba0 = some Gz → W p l e (g_rm 2 42 0 0) s m ([.ref a0] : List Value).toArray below meth c H locs 0 0 (MQ below (va_Qv (g_iv Gz) (g_Pre lo dd cT) (g_A lo)) ([.ref a0] : List Value).toArray s 0 0 (g_A lo)) (F0 m 0 ls []) := by
    intro n
    induction n with
    | zero =>
      intro G ba0 H locs hG ls hl h
      cases (show (none : Option gH) = some Gz from h)
    | succ n ih =>
      intro G ba0 H locs hG ls hl h
      rw [f_X10_advance_L0] at h
      refine lv_aload_n hx hb dX10_advance_0 rfl (lv_at hl 0 rfl) ?_
      refine lv_aload_n hx hb dX10_advance_1 rfl (lv_at hl 0 rfl) ?_
      obtain ⟨v2, e2, h⟩ := Option.bind_eq_some_iff.mp h
      refine g_geti hx hb hts inlX10 hown hK hG (by rfl) 7 (by decide) qF_X10_67 e2 dX10_advance_2 ?_
      obtain ⟨u5, i5, h⟩ := Option.bind_eq_some_iff.mp h
      obtain ⟨v5, e5, h⟩ := Option.bind_eq_some_iff.mp h
      refine g_cVi (As := [.int v2]) (rest := []) (n := 1) hx hb hml hown hts hK hlo hG (m_X10_byteAt l dd cT lo G ba0 v2 e5) qM_X10_70 qI_yX10_byteAt qS_X10_yX10_byteAt qN_X10 qC_yX10_byteAt (by decide +kernel) ⟨Nat.le_of_ble_eq_true rfl, Nat.le_of_ble_eq_true rfl⟩ (by rfl) i5 rfl hl.1 rfl (Nat.le_of_ble_eq_true rfl) dX10_advance_5 ⟨Nat.le_of_ble_eq_true rfl, Nat.le_of_ble_eq_true rfl⟩ (fun H locs hG => ?_)
      refine lv_bipush (v := (32 : Int32)) hx hb dX10_advance_8 (by decide) ?_
      refine lv_icmp_eq (tgt := 26) hx hb dX10_advance_10 (by decide) (fun c10 => ?_) (fun c10 => ?_)
      · rw [if_pos c10] at h
        refine lv_aload_n hx hb dX10_advance_26 rfl (lv_at hl 0 rfl) ?_
        refine lv_dup hx hb dX10_advance_27 rfl ?_
        obtain ⟨v28, e28, h⟩ := Option.bind_eq_some_iff.mp h
        refine g_geti hx hb hts inlX10 hown hK hG (by rfl) 7 (by decide) qF_X10_67 e28 dX10_advance_28 ?_
        refine lv_iconst (v := (1 : Int32)) hx hb dX10_advance_31 (by decide) ?_
        refine lv_iadd hx hb dX10_advance_32 ?_
        obtain ⟨G33, i33, h⟩ := Option.bind_eq_some_iff.mp h
        refine g_putv hx hb hts inlX10 tyX10 tyX10_ok nmX10 hown hK hG (by rfl) 7 (by decide) qF_X10_67 rfl rfl rfl rfl i33 dX10_advance_33 (fun H locs hG => ?_)
        refine lv_goto (tgt := 0) hx hb dX10_advance_36 (by decide) ?_
        exact ih G33 ba0 _ _ hG _ (lv_sub hl [0] rfl) h
      · rw [if_neg c10] at h
        refine lv_aload_n hx hb dX10_advance_13 rfl (lv_at hl 0 rfl) ?_
        refine lv_aload_n hx hb dX10_advance_14 rfl (lv_at hl 0 rfl) ?_
        obtain ⟨v15, e15, h⟩ := Option.bind_eq_some_iff.mp h
        refine g_geti hx hb hts inlX10 hown hK hG (by rfl) 7 (by decide) qF_X10_67 e15 dX10_advance_15 ?_
        obtain ⟨u18, i18, h⟩ := Option.bind_eq_some_iff.mp h
        obtain ⟨v18, e18, h⟩ := Option.bind_eq_some_iff.mp h
        refine g_cVi (As := [.int v15]) (rest := []) (n := 1) hx hb hml hown hts hK hlo hG (m_X10_byteAt l dd cT lo G ba0 v15 e18) qM_X10_70 qI_yX10_byteAt qS_X10_yX10_byteAt qN_X10 qC_yX10_byteAt (by decide +kernel) ⟨Nat.le_of_ble_eq_true rfl, Nat.le_of_ble_eq_true rfl⟩ (by rfl) i18 rfl hl.1 rfl (Nat.le_of_ble_eq_true rfl) dX10_advance_18 ⟨Nat.le_of_ble_eq_true rfl, Nat.le_of_ble_eq_true rfl⟩ (fun H locs hG => ?_)
        refine lv_bipush (v := (10 : Int32)) hx hb dX10_advance_21 (by decide) ?_
        refine lv_icmp_ne (tgt := 39) hx hb dX10_advance_23 (by decide) (fun c23 => ?_) (fun c23 => ?_)
        · rw [if_neg c23] at h
          refine lv_aload_n hx hb dX10_advance_39 rfl (lv_at hl 0 rfl) ?_
          refine lv_aload_n hx hb dX10_advance_40 rfl (lv_at hl 0 rfl) ?_
          obtain ⟨v41, e41, h⟩ := Option.bind_eq_some_iff.mp h
          refine g_geti hx hb hts inlX10 hown hK hG (by rfl) 7 (by decide) qF_X10_67 e41 dX10_advance_41 ?_
          obtain ⟨G44, i44, h⟩ := Option.bind_eq_some_iff.mp h
          refine g_putv hx hb hts inlX10 tyX10 tyX10_ok nmX10 hown hK hG (by rfl) 6 (by decide) qF_X10_78 rfl rfl rfl rfl i44 dX10_advance_44 (fun H locs hG => ?_)
          refine lv_aload_n hx hb dX10_advance_47 rfl (lv_at hl 0 rfl) ?_
          refine lv_iconst (v := (0 : Int32)) hx hb dX10_advance_48 (by decide) ?_
          obtain ⟨G49, i49, h⟩ := Option.bind_eq_some_iff.mp h
          refine g_putv hx hb hts inlX10 tyX10 tyX10_ok nmX10 hown hK hG (by rfl) 9 (by decide) qF_X10_81 rfl rfl rfl rfl i49 dX10_advance_49 (fun H locs hG => ?_)
          refine lv_aload_n hx hb dX10_advance_52 rfl (lv_at hl 0 rfl) ?_
          refine lv_aload_n hx hb dX10_advance_53 rfl (lv_at hl 0 rfl) ?_
          obtain ⟨v54, e54, h⟩ := Option.bind_eq_some_iff.mp h
          refine g_geti hx hb hts inlX10 hown hK hG (by rfl) 7 (by decide) qF_X10_67 e54 dX10_advance_54 ?_
          obtain ⟨u57, i57, h⟩ := Option.bind_eq_some_iff.mp h
          obtain ⟨v57, e57, h⟩ := Option.bind_eq_some_iff.mp h
          refine g_cVi (As := [.int v54]) (rest := []) (n := 1) hx hb hml hown hts hK hlo hG (m_X10_byteAt l dd cT lo G49 ba0 v54 e57) qM_X10_70 qI_yX10_byteAt qS_X10_yX10_byteAt qN_X10 qC_yX10_byteAt (by decide +kernel) ⟨Nat.le_of_ble_eq_true rfl, Nat.le_of_ble_eq_true rfl⟩ (by rfl) i57 rfl hl.1 rfl (Nat.le_of_ble_eq_true rfl) dX10_advance_57 ⟨Nat.le_of_ble_eq_true rfl, Nat.le_of_ble_eq_true rfl⟩ (fun H locs hG => ?_)
          refine lv_istore_n (lv' := [(1, .int v57), (0, .ref ba0)]) hx hb dX10_advance_60 rfl hl (by decide) rfl (fun ls hl => ?_)
          refine lv_iload_n hx hb dX10_advance_61 rfl (lv_at hl 0 rfl) ?_
          refine lv_iconst (v := (-1 : Int32)) hx hb dX10_advance_62 (by decide) ?_
          refine lv_icmp_ne (tgt := 74) hx hb dX10_advance_63 (by decide) (fun c63 => ?_) (fun c63 => ?_)
          · rw [if_neg c63] at h
            refine lv_iload_n hx hb dX10_advance_74 rfl (lv_at hl 0 rfl) ?_
            refine lv_bipush (v := (97 : Int32)) hx hb dX10_advance_75 (by decide) ?_
            refine lv_bipush (v := (122 : Int32)) hx hb dX10_advance_77 (by decide) ?_
            obtain ⟨v79, e79, h⟩ := Option.bind_eq_some_iff.mp h
            refine g_cSi (As := [.int v57, .int (97 : Int32), .int (122 : Int32)]) (rest := []) (n := 3) hx hb hml hown hts hK hlo hG (m_X10_within l dd cT lo G49 v57 (97 : Int32) (122 : Int32) e79) qM_X10_74 qT_yX10_within qN_X10 qC_yX10_within (by decide +kernel) ⟨Nat.le_of_ble_eq_true rfl, Nat.le_of_ble_eq_true rfl⟩ rfl hl.1 rfl (Nat.le_of_ble_eq_true rfl) dX10_advance_79 ⟨Nat.le_of_ble_eq_true rfl, Nat.le_of_ble_eq_true rfl⟩ (fun H locs hG => ?_)
            refine lv_if_eq (tgt := 115) hx hb dX10_advance_82 (by decide) (fun c82 => ?_) (fun c82 => ?_)
            · rw [if_pos c82] at h
              refine lv_iload_n hx hb dX10_advance_115 rfl (lv_at hl 0 rfl) ?_
              refine lv_bipush (v := (48 : Int32)) hx hb dX10_advance_116 (by decide) ?_
              refine lv_bipush (v := (57 : Int32)) hx hb dX10_advance_118 (by decide) ?_
              obtain ⟨v120, e120, h⟩ := Option.bind_eq_some_iff.mp h
              refine g_cSi (As := [.int v57, .int (48 : Int32), .int (57 : Int32)]) (rest := []) (n := 3) hx hb hml hown hts hK hlo hG (m_X10_within l dd cT lo G49 v57 (48 : Int32) (57 : Int32) e120) qM_X10_74 qT_yX10_within qN_X10 qC_yX10_within (by decide +kernel) ⟨Nat.le_of_ble_eq_true rfl, Nat.le_of_ble_eq_true rfl⟩ rfl hl.1 rfl (Nat.le_of_ble_eq_true rfl) dX10_advance_120 ⟨Nat.le_of_ble_eq_true rfl, Nat.le_of_ble_eq_true rfl⟩ (fun H locs hG => ?_)
              refine lv_if_eq (tgt := 225) hx hb dX10_advance_123 (by decide) (fun c123 => ?_) (fun c123 => ?_)
              · rw [if_pos c123] at h
                refine lv_aload_n hx hb dX10_advance_225 rfl (lv_at hl 1 rfl) ?_
                refine lv_dup hx hb dX10_advance_226 rfl ?_
                obtain ⟨v227, e227, h⟩ := Option.bind_eq_some_iff.mp h
                refine g_geti hx hb hts inlX10 hown hK hG (by rfl) 7 (by decide) qF_X10_67 e227 dX10_advance_227 ?_
                refine lv_iconst (v := (1 : Int32)) hx hb dX10_advance_230 (by decide) ?_
                refine lv_iadd hx hb dX10_advance_231 ?_
                obtain ⟨G232, i232, h⟩ := Option.bind_eq_some_iff.mp h
                refine g_putv hx hb hts inlX10 tyX10 tyX10_ok nmX10 hown hK hG (by rfl) 7 (by decide) qF_X10_67 rfl rfl rfl rfl i232 dX10_advance_232 (fun H locs hG => ?_)
                refine lv_aload_n hx hb dX10_advance_235 rfl (lv_at hl 1 rfl) ?_
                refine lv_iload_n hx hb dX10_advance_236 rfl (lv_at hl 0 rfl) ?_
                refine lv_bipush (v := (59 : Int32)) hx hb dX10_advance_237 (by decide) ?_
                refine lv_icmp_ne (tgt := 246) hx hb dX10_advance_239 (by decide) (fun c239 => ?_) (fun c239 => ?_)
                · rw [if_neg c239] at h
                  refine lv_iconst (v := (4 : Int32)) hx hb dX10_advance_246 (by decide) ?_
                  obtain ⟨G247, i247, h⟩ := Option.bind_eq_some_iff.mp h
                  refine g_putv hx hb hts inlX10 tyX10 tyX10_ok nmX10 hown hK hG (by rfl) 8 (by decide) qF_X10_84 rfl rfl rfl rfl i247 dX10_advance_247 (fun H locs hG => ?_)
                  obtain rfl := Option.some.inj h
                  exact g_vret hx hb hr hlocks hK hlo hG rfl dX10_advance_250
                · rw [if_pos c239] at h
                  refine lv_iconst (v := (3 : Int32)) hx hb dX10_advance_242 (by decide) ?_
                  refine lv_goto (tgt := 247) hx hb dX10_advance_243 (by decide) ?_
                  obtain ⟨G247, i247, h⟩ := Option.bind_eq_some_iff.mp h
                  refine g_putv hx hb hts inlX10 tyX10 tyX10_ok nmX10 hown hK hG (by rfl) 8 (by decide) qF_X10_84 rfl rfl rfl rfl i247 dX10_advance_247 (fun H locs hG => ?_)
                  obtain rfl := Option.some.inj h
                  exact g_vret hx hb hr hlocks hK hlo hG rfl dX10_advance_250
              · rw [if_neg c123] at h
                exact h126 g_N G49 ba0 _ _ hG _ (lv_sub hl [1] rfl) h
            · rw [if_neg c82] at h
              refine lv_aload_n hx hb dX10_advance_85 rfl (lv_at hl 1 rfl) ?_
              obtain ⟨u86, i86, h⟩ := Option.bind_eq_some_iff.mp h
              obtain ⟨G86, e86, h⟩ := Option.bind_eq_some_iff.mp h
              refine g_cVv (As := []) (rest := []) (n := 0) hx hb hml hown hts hK hlo hG (m_X10_takesLetters l dd cT lo G49 ba0 e86) qM_X10_87 qI_yX10_takesLetters qS_X10_yX10_takesLetters qN_X10 qC_yX10_takesLetters (by decide +kernel) ⟨Nat.le_of_ble_eq_true rfl, Nat.le_of_ble_eq_true rfl⟩ (by rfl) i86 rfl hl.1 rfl (Nat.le_of_ble_eq_true rfl) dX10_advance_86 ⟨Nat.le_of_ble_eq_true rfl, Nat.le_of_ble_eq_true rfl⟩ (fun H locs hG => ?_)
              refine lv_aload_n hx hb dX10_advance_89 rfl (lv_at hl 1 rfl) ?_
              refine lv_aload_n hx hb dX10_advance_90 rfl (lv_at hl 1 rfl) ?_
              obtain ⟨v91, e91, h⟩ := Option.bind_eq_some_iff.mp h
              refine g_geti hx hb hts inlX10 hown hK hG (by rfl) 7 (by decide) qF_X10_67 e91 dX10_advance_91 ?_
              refine lv_aload_n hx hb dX10_advance_94 rfl (lv_at hl 1 rfl) ?_
              obtain ⟨v95, e95, h⟩ := Option.bind_eq_some_iff.mp h
              refine g_geti hx hb hts inlX10 hown hK hG (by rfl) 6 (by decide) qF_X10_78 e95 dX10_advance_95 ?_
              refine lv_isub hx hb dX10_advance_98 ?_
              refine lv_bipush (v := (8 : Int32)) hx hb dX10_advance_99 (by decide) ?_
              refine lv_icmp_le (tgt := 108) hx hb dX10_advance_101 (by decide) (fun c101 => ?_) (fun c101 => ?_)
              · rw [if_pos c101] at h
                refine lv_iconst (v := (1 : Int32)) hx hb dX10_advance_108 (by decide) ?_
                obtain ⟨G109, i109, h⟩ := Option.bind_eq_some_iff.mp h
                refine g_putv hx hb hts inlX10 tyX10 tyX10_ok nmX10 hown hK hG (by rfl) 8 (by decide) qF_X10_84 rfl rfl rfl rfl i109 dX10_advance_109 (fun H locs hG => ?_)
                refine lv_goto (tgt := 250) hx hb dX10_advance_112 (by decide) ?_
                obtain rfl := Option.some.inj h
                exact g_vret hx hb hr hlocks hK hlo hG rfl dX10_advance_250
              · rw [if_neg c101] at h
                refine lv_iconst (v := (4 : Int32)) hx hb dX10_advance_104 (by decide) ?_
                refine lv_goto (tgt := 109) hx hb dX10_advance_105 (by decide) ?_
                obtain ⟨G109, i109, h⟩ := Option.bind_eq_some_iff.mp h
                refine g_putv hx hb hts inlX10 tyX10 tyX10_ok nmX10 hown hK hG (by rfl) 8 (by decide) qF_X10_84 rfl rfl rfl rfl i109 dX10_advance_109 (fun H locs hG => ?_)
                refine lv_goto (tgt := 250) hx hb dX10_advance_112 (by decide) ?_
                obtain rfl := Option.some.inj h
                exact g_vret hx hb hr hlocks hK hlo hG rfl dX10_advance_250
          · rw [if_pos c63] at h
            refine lv_aload_n hx hb dX10_advance_66 rfl (lv_at hl 1 rfl) ?_
            refine lv_iconst (v := (0 : Int32)) hx hb dX10_advance_67 (by decide) ?_
            obtain ⟨G68, i68, h⟩ := Option.bind_eq_some_iff.mp h
            refine g_putv hx hb hts inlX10 tyX10 tyX10_ok nmX10 hown hK hG (by rfl) 8 (by decide) qF_X10_84 rfl rfl rfl rfl i68 dX10_advance_68 (fun H locs hG => ?_)
            refine lv_goto (tgt := 250) hx hb dX10_advance_71 (by decide) ?_
            obtain rfl := Option.some.inj h
            exact g_vret hx hb hr hlocks hK hlo hG rfl dX10_advance_250
        · rw [if_pos c23] at h
          refine lv_aload_n hx hb dX10_advance_26 rfl (lv_at hl 0 rfl) ?_
          refine lv_dup hx hb dX10_advance_27 rfl ?_
          obtain ⟨v28, e28, h⟩ := Option.bind_eq_some_iff.mp h
          refine g_geti hx hb hts inlX10 hown hK hG (by rfl) 7 (by decide) qF_X10_67 e28 dX10_advance_28 ?_
          refine lv_iconst (v := (1 : Int32)) hx hb dX10_advance_31 (by decide) ?_
          refine lv_iadd hx hb dX10_advance_32 ?_
          obtain ⟨G33, i33, h⟩ := Option.bind_eq_some_iff.mp h
          refine g_putv hx hb hts inlX10 tyX10 tyX10_ok nmX10 hown hK hG (by rfl) 7 (by decide) qF_X10_67 rfl rfl rfl rfl i33 dX10_advance_33 (fun H locs hG => ?_)
          refine lv_goto (tgt := 0) hx hb dX10_advance_36 (by decide) ?_
          exact ih G33 ba0 _ _ hG _ (lv_sub hl [0] rfl) h
  unfold f_X10_advance at h
  exact h0 g_N G a0 _ _ hG _ (lv_sub hl [0] rfl) h
def f_X10_isWord_L32 (G : gH) : Nat → Nat → Nat → Int32 → Int32 → Option Int32
  | 0, _, _, _, _ => none
  | n + 1, ba0, bs1, bx2, bx3 =>
    (f_J0_length_8abf5 G bs1).bind fun v34 =>
    if v34 ≤ bx3 then
    g_z bx2
    else
    if bx2 = 0 then
    g_z bx2
    else
    (g_r G ba0 10 3).bind fun v45 =>
    (g_i G ba0 10 6).bind fun v49 =>
    (g_ald 2 G v45 (v49 + bx3)).bind fun v54 =>
    (f_J0_charAt_5068e G bs1 bx3).bind fun v57 =>
    if v54 = v57 then
    f_X10_isWord_L32 G n ba0 bs1 (1 : Int32) (bx3 + (1 : Int32))
    else
    f_X10_isWord_L32 G n ba0 bs1 (0 : Int32) (bx3 + (1 : Int32))
def f_X10_isWord (G : gH) (a0 : Nat) (s1 : Nat) : Option Int32 :=
    (g_i G a0 10 8).bind fun v1 =>
    if v1 = (1 : Int32) then
    (g_i G a0 10 7).bind fun v9 =>
    (g_i G a0 10 6).bind fun v13 =>
    (f_J0_length_8abf5 G s1).bind fun v18 =>
    if (v9 - v13) = v18 then
    f_X10_isWord_L32 G g_N a0 s1 (1 : Int32) (0 : Int32)
    else
    f_X10_isWord_L32 G g_N a0 s1 (0 : Int32) (0 : Int32)
    else
    f_X10_isWord_L32 G g_N a0 s1 (0 : Int32) (0 : Int32)
set_option maxRecDepth 20000 in
set_option maxHeartbeats 4000000 in
theorem m_X10_isWord (l : Launch) (dd : va_G) (cT : Nat → ClassId) (lo : Nat) (G : gH) (a0 : Nat) (s1 : Nat) {rz : Int32} (h : f_X10_isWord G a0 s1 = some rz) : Met l yX10_isWord (Cond.code yX10_isWord cX10_isWord 4 (some .boolean) :: wsL_law) (g_rm 5 111 0 0) (va_Pc [.ref a0, .ref (dd.2 100 s1)] (g_Pre lo dd cT G)) (va_Qi (g_is rz G) (g_Pre lo dd cT) (g_A lo)) 0 0 (g_A lo) := by
  refine g_start RX10 rfl (by decide) (Nat.le_of_ble_eq_true rfl) ?_
  intro p e s m below meth c hx hb hr hlocks hml hown hnm hts hK hG hlo ls hl
  have hl : lv_has ls 4 [(0, .ref a0), (1, .ref (dd.2 100 s1))] := hl
  have hG : g_S lo dd cT s s.heap [] G := hG
  have h32 : ∀ n : Nat, ∀ (ba0 : Nat) (bs1 : Nat) (bx2 : Int32) (bx3 : Int32), ∀ (H : Heap) (locs : List Loc), g_S lo dd cT s H locs G → ∀ ls : Array Slot, lv_has ls 4 [(0, .ref ba0), (1, .ref (dd.2 100 bs1)), (2, .int bx2), (3, .int bx3)] → f_X10_isWord_L32 G n ba0 bs1 bx2 bx3 = some rz → W p l e (g_rm 5 111 0 0) s m ([.ref a0, .ref (dd.2 100 s1)] : List Value).toArray below meth c H locs 0 0 (MQ below (va_Qi (g_is rz G) (g_Pre lo dd cT) (g_A lo)) ([.ref a0, .ref (dd.2 100 s1)] : List Value).toArray s 0 0 (g_A lo)) (F0 m 32 ls []) := by
    intro n
    induction n with
    | zero =>
      intro ba0 bs1 bx2 bx3 H locs hG ls hl h
      cases (show (none : Option Int32) = some rz from h)
    | succ n ih =>
      intro ba0 bs1 bx2 bx3 H locs hG ls hl h
      rw [f_X10_isWord_L32] at h
      refine lv_iload_n hx hb dX10_isWord_32 rfl (lv_at hl 3 rfl) ?_
      refine lv_aload_n hx hb dX10_isWord_33 rfl (lv_at hl 1 rfl) ?_
      obtain ⟨v34, e34, h⟩ := Option.bind_eq_some_iff.mp h
      refine g_cTi (As := []) (rest := [.int bx3]) (n := 0) (i := bs1) hx hb hml hown hts hK hlo hG (m_J0_length_8abf5 l dd cT lo G bs1 e34) qM_X10_90 qI_yJ0_length_8abf5 qS_J0_yJ0_length_8abf5 qN_J0 qC_yJ0_length_8abf5 (by decide +kernel) ⟨Nat.le_of_ble_eq_true rfl, Nat.le_of_ble_eq_true rfl⟩ (f_J0_length_8abf5_lt e34) rfl hl.1 rfl (Nat.le_of_ble_eq_true rfl) dX10_isWord_34 ⟨Nat.le_of_ble_eq_true rfl, Nat.le_of_ble_eq_true rfl⟩ (fun H locs hG => ?_)
      refine lv_icmp_ge (tgt := 75) hx hb dX10_isWord_37 (by decide) (fun c37 => ?_) (fun c37 => ?_)
      · rw [if_pos c37] at h
        refine lv_iload_n hx hb dX10_isWord_75 rfl (lv_at hl 2 rfl) ?_
        obtain ⟨n76, rfl⟩ := g_z_nar h
        exact g_zret hx hb hr hlocks hK hlo hG n76 ⟨rfl, rfl⟩ dX10_isWord_76
      · rw [if_neg c37] at h
        refine lv_iload_n hx hb dX10_isWord_40 rfl (lv_at hl 2 rfl) ?_
        refine lv_if_eq (tgt := 75) hx hb dX10_isWord_41 (by decide) (fun c41 => ?_) (fun c41 => ?_)
        · rw [if_pos c41] at h
          refine lv_iload_n hx hb dX10_isWord_75 rfl (lv_at hl 2 rfl) ?_
          obtain ⟨n76, rfl⟩ := g_z_nar h
          exact g_zret hx hb hr hlocks hK hlo hG n76 ⟨rfl, rfl⟩ dX10_isWord_76
        · rw [if_neg c41] at h
          refine lv_aload_n hx hb dX10_isWord_44 rfl (lv_at hl 0 rfl) ?_
          obtain ⟨v45, e45, h⟩ := Option.bind_eq_some_iff.mp h
          refine g_getr hx hb hts inlX10 hown hK hG (by rfl) 3 (by decide) qF_X10_17 e45 dX10_isWord_45 ?_
          refine lv_aload_n hx hb dX10_isWord_48 rfl (lv_at hl 0 rfl) ?_
          obtain ⟨v49, e49, h⟩ := Option.bind_eq_some_iff.mp h
          refine g_geti hx hb hts inlX10 hown hK hG (by rfl) 6 (by decide) qF_X10_78 e49 dX10_isWord_49 ?_
          refine lv_iload_n hx hb dX10_isWord_52 rfl (lv_at hl 3 rfl) ?_
          refine lv_iadd hx hb dX10_isWord_53 ?_
          obtain ⟨v54, e54, h⟩ := Option.bind_eq_some_iff.mp h
          refine g_bald hx hb hK hG e54 dX10_isWord_54 ?_
          refine lv_aload_n hx hb dX10_isWord_55 rfl (lv_at hl 1 rfl) ?_
          refine lv_iload_n hx hb dX10_isWord_56 rfl (lv_at hl 3 rfl) ?_
          obtain ⟨v57, e57, h⟩ := Option.bind_eq_some_iff.mp h
          refine g_cTi (As := [.int bx3]) (rest := [.int v54]) (n := 1) (i := bs1) hx hb hml hown hts hK hlo hG (m_J0_charAt_5068e l dd cT lo G bs1 bx3 e57) qM_X10_95 qI_yJ0_charAt_5068e qS_J0_yJ0_charAt_5068e qN_J0 qC_yJ0_charAt_5068e (by decide +kernel) ⟨Nat.le_of_ble_eq_true rfl, Nat.le_of_ble_eq_true rfl⟩ (f_J0_charAt_5068e_lt e57) rfl hl.1 rfl (Nat.le_of_ble_eq_true rfl) dX10_isWord_57 ⟨Nat.le_of_ble_eq_true rfl, Nat.le_of_ble_eq_true rfl⟩ (fun H locs hG => ?_)
          refine lv_icmp_ne (tgt := 67) hx hb dX10_isWord_60 (by decide) (fun c60 => ?_) (fun c60 => ?_)
          · rw [if_neg c60] at h
            refine lv_iconst (v := (0 : Int32)) hx hb dX10_isWord_67 (by decide) ?_
            refine lv_istore_n (lv' := [(2, .int (0 : Int32)), (0, .ref ba0), (1, .ref (dd.2 100 bs1)), (3, .int bx3)]) hx hb dX10_isWord_68 rfl hl (by decide) rfl (fun ls hl => ?_)
            refine lv_iinc (v := (bx3 + (1 : Int32))) (lv' := [(3, .int (bx3 + (1 : Int32))), (2, .int (0 : Int32)), (0, .ref ba0), (1, .ref (dd.2 100 bs1))]) hx hb dX10_isWord_69 hl (k := 3) rfl rfl (by decide) rfl (fun ls hl => ?_)
            refine lv_goto (tgt := 32) hx hb dX10_isWord_72 (by decide) ?_
            exact ih ba0 bs1 (0 : Int32) (bx3 + (1 : Int32)) _ _ hG _ (lv_sub hl [2, 3, 1, 0] rfl) h
          · rw [if_pos c60] at h
            refine lv_iconst (v := (1 : Int32)) hx hb dX10_isWord_63 (by decide) ?_
            refine lv_goto (tgt := 68) hx hb dX10_isWord_64 (by decide) ?_
            refine lv_istore_n (lv' := [(2, .int (1 : Int32)), (0, .ref ba0), (1, .ref (dd.2 100 bs1)), (3, .int bx3)]) hx hb dX10_isWord_68 rfl hl (by decide) rfl (fun ls hl => ?_)
            refine lv_iinc (v := (bx3 + (1 : Int32))) (lv' := [(3, .int (bx3 + (1 : Int32))), (2, .int (1 : Int32)), (0, .ref ba0), (1, .ref (dd.2 100 bs1))]) hx hb dX10_isWord_69 hl (k := 3) rfl rfl (by decide) rfl (fun ls hl => ?_)
            refine lv_goto (tgt := 32) hx hb dX10_isWord_72 (by decide) ?_
            exact ih ba0 bs1 (1 : Int32) (bx3 + (1 : Int32)) _ _ hG _ (lv_sub hl [2, 3, 1, 0] rfl) h
  unfold f_X10_isWord at h
  refine lv_aload_n hx hb dX10_isWord_0 rfl (lv_at hl 0 rfl) ?_
  obtain ⟨v1, e1, h⟩ := Option.bind_eq_some_iff.mp h
  refine g_geti hx hb hts inlX10 hown hK hG (by rfl) 8 (by decide) qF_X10_84 e1 dX10_isWord_1 ?_
  refine lv_iconst (v := (1 : Int32)) hx hb dX10_isWord_4 (by decide) ?_
  refine lv_icmp_ne (tgt := 28) hx hb dX10_isWord_5 (by decide) (fun c5 => ?_) (fun c5 => ?_)
  · rw [if_neg c5] at h
    refine lv_iconst (v := (0 : Int32)) hx hb dX10_isWord_28 (by decide) ?_
    refine lv_istore_n (lv' := [(2, .int (0 : Int32)), (0, .ref a0), (1, .ref (dd.2 100 s1))]) hx hb dX10_isWord_29 rfl hl (by decide) rfl (fun ls hl => ?_)
    refine lv_iconst (v := (0 : Int32)) hx hb dX10_isWord_30 (by decide) ?_
    refine lv_istore_n (lv' := [(3, .int (0 : Int32)), (2, .int (0 : Int32)), (0, .ref a0), (1, .ref (dd.2 100 s1))]) hx hb dX10_isWord_31 rfl hl (by decide) rfl (fun ls hl => ?_)
    exact h32 g_N a0 s1 (0 : Int32) (0 : Int32) _ _ hG _ (lv_sub hl [2, 3, 1, 0] rfl) h
  · rw [if_pos c5] at h
    refine lv_aload_n hx hb dX10_isWord_8 rfl (lv_at hl 0 rfl) ?_
    obtain ⟨v9, e9, h⟩ := Option.bind_eq_some_iff.mp h
    refine g_geti hx hb hts inlX10 hown hK hG (by rfl) 7 (by decide) qF_X10_67 e9 dX10_isWord_9 ?_
    refine lv_aload_n hx hb dX10_isWord_12 rfl (lv_at hl 0 rfl) ?_
    obtain ⟨v13, e13, h⟩ := Option.bind_eq_some_iff.mp h
    refine g_geti hx hb hts inlX10 hown hK hG (by rfl) 6 (by decide) qF_X10_78 e13 dX10_isWord_13 ?_
    refine lv_isub hx hb dX10_isWord_16 ?_
    refine lv_aload_n hx hb dX10_isWord_17 rfl (lv_at hl 1 rfl) ?_
    obtain ⟨v18, e18, h⟩ := Option.bind_eq_some_iff.mp h
    refine g_cTi (As := []) (rest := [.int (v9 - v13)]) (n := 0) (i := s1) hx hb hml hown hts hK hlo hG (m_J0_length_8abf5 l dd cT lo G s1 e18) qM_X10_90 qI_yJ0_length_8abf5 qS_J0_yJ0_length_8abf5 qN_J0 qC_yJ0_length_8abf5 (by decide +kernel) ⟨Nat.le_of_ble_eq_true rfl, Nat.le_of_ble_eq_true rfl⟩ (f_J0_length_8abf5_lt e18) rfl hl.1 rfl (Nat.le_of_ble_eq_true rfl) dX10_isWord_18 ⟨Nat.le_of_ble_eq_true rfl, Nat.le_of_ble_eq_true rfl⟩ (fun H locs hG => ?_)
    refine lv_icmp_ne (tgt := 28) hx hb dX10_isWord_21 (by decide) (fun c21 => ?_) (fun c21 => ?_)
    · rw [if_neg c21] at h
      refine lv_iconst (v := (0 : Int32)) hx hb dX10_isWord_28 (by decide) ?_
      refine lv_istore_n (lv' := [(2, .int (0 : Int32)), (0, .ref a0), (1, .ref (dd.2 100 s1))]) hx hb dX10_isWord_29 rfl hl (by decide) rfl (fun ls hl => ?_)
      refine lv_iconst (v := (0 : Int32)) hx hb dX10_isWord_30 (by decide) ?_
      refine lv_istore_n (lv' := [(3, .int (0 : Int32)), (2, .int (0 : Int32)), (0, .ref a0), (1, .ref (dd.2 100 s1))]) hx hb dX10_isWord_31 rfl hl (by decide) rfl (fun ls hl => ?_)
      exact h32 g_N a0 s1 (0 : Int32) (0 : Int32) _ _ hG _ (lv_sub hl [2, 3, 1, 0] rfl) h
    · rw [if_pos c21] at h
      refine lv_iconst (v := (1 : Int32)) hx hb dX10_isWord_24 (by decide) ?_
      refine lv_goto (tgt := 29) hx hb dX10_isWord_25 (by decide) ?_
      refine lv_istore_n (lv' := [(2, .int (1 : Int32)), (0, .ref a0), (1, .ref (dd.2 100 s1))]) hx hb dX10_isWord_29 rfl hl (by decide) rfl (fun ls hl => ?_)
      refine lv_iconst (v := (0 : Int32)) hx hb dX10_isWord_30 (by decide) ?_
      refine lv_istore_n (lv' := [(3, .int (0 : Int32)), (2, .int (1 : Int32)), (0, .ref a0), (1, .ref (dd.2 100 s1))]) hx hb dX10_isWord_31 rfl hl (by decide) rfl (fun ls hl => ?_)
      exact h32 g_N a0 s1 (1 : Int32) (0 : Int32) _ _ hG _ (lv_sub hl [2, 3, 1, 0] rfl) h
def f_X10_failsAt (G : gH) (a0 : Nat) (x1 : Int32) (x2 : Int32) : Option (gH × Int32) :=
    (g_i G a0 10 11).bind fun v1 =>
    if v1 = 0 then
    (g_put G a0 10 11 (.int x1)).bind fun G9 =>
    (g_put G9 a0 10 12 (.int x2)).bind fun G14 =>
    some (G14, (0 : Int32))
    else
    some (G, (0 : Int32))
set_option maxRecDepth 20000 in
set_option maxHeartbeats 4000000 in
theorem m_X10_failsAt (l : Launch) (dd : va_G) (cT : Nat → ClassId) (lo : Nat) (G : gH) (a0 : Nat) (x1 : Int32) (x2 : Int32) {rz : Int32} {Gz : gH} (h : f_X10_failsAt G a0 x1 x2 = some (Gz, rz)) : Met l yX10_failsAt (Cond.code yX10_failsAt cX10_failsAt 3 (some .boolean) :: wsL_law) (g_rm 0 0 0 0) (va_Pc [.ref a0, .int x1, .int x2] (g_Pre lo dd cT G)) (va_Qi (g_is rz Gz) (g_Pre lo dd cT) (g_A lo)) 0 0 (g_A lo) := by
  refine g_start RX10 rfl (by decide) (Nat.le_of_ble_eq_true rfl) ?_
  intro p e s m below meth c hx hb hr hlocks hml hown hnm hts hK hG hlo ls hl
  have hl : lv_has ls 3 [(0, .ref a0), (1, .int x1), (2, .int x2)] := hl
  have hG : g_S lo dd cT s s.heap [] G := hG
  unfold f_X10_failsAt at h
  refine lv_aload_n hx hb dX10_failsAt_0 rfl (lv_at hl 0 rfl) ?_
  obtain ⟨v1, e1, h⟩ := Option.bind_eq_some_iff.mp h
  refine g_geti hx hb hts inlX10 hown hK hG (by rfl) 11 (by decide) qF_X10_99 e1 dX10_failsAt_1 ?_
  refine lv_if_ne (tgt := 17) hx hb dX10_failsAt_4 (by decide) (fun c4 => ?_) (fun c4 => ?_)
  · rw [if_neg c4] at h
    refine lv_iconst (v := (0 : Int32)) hx hb dX10_failsAt_17 (by decide) ?_
    obtain ⟨rfl, rfl⟩ := Prod.mk.inj (Option.some.inj h)
    exact g_zret hx hb hr hlocks hK hlo hG rfl ⟨rfl, rfl⟩ dX10_failsAt_18
  · rw [if_pos c4] at h
    refine lv_aload_n hx hb dX10_failsAt_7 rfl (lv_at hl 0 rfl) ?_
    refine lv_iload_n hx hb dX10_failsAt_8 rfl (lv_at hl 1 rfl) ?_
    obtain ⟨G9, i9, h⟩ := Option.bind_eq_some_iff.mp h
    refine g_putv hx hb hts inlX10 tyX10 tyX10_ok nmX10 hown hK hG (by rfl) 11 (by decide) qF_X10_99 rfl rfl rfl rfl i9 dX10_failsAt_9 (fun H locs hG => ?_)
    refine lv_aload_n hx hb dX10_failsAt_12 rfl (lv_at hl 0 rfl) ?_
    refine lv_iload_n hx hb dX10_failsAt_13 rfl (lv_at hl 2 rfl) ?_
    obtain ⟨G14, i14, h⟩ := Option.bind_eq_some_iff.mp h
    refine g_putv hx hb hts inlX10 tyX10 tyX10_ok nmX10 hown hK hG (by rfl) 12 (by decide) qF_X10_21 rfl rfl rfl rfl i14 dX10_failsAt_14 (fun H locs hG => ?_)
    refine lv_iconst (v := (0 : Int32)) hx hb dX10_failsAt_17 (by decide) ?_
    obtain ⟨rfl, rfl⟩ := Prod.mk.inj (Option.some.inj h)
    exact g_zret hx hb hr hlocks hK hlo hG rfl ⟨rfl, rfl⟩ dX10_failsAt_18
def f_X10_fails (G : gH) (a0 : Nat) (x1 : Int32) : Option (gH × Int32) :=
    (g_i G a0 10 6).bind fun v3 =>
    (g_ob G a0 10).bind fun u6 =>
    (f_X10_failsAt G a0 x1 v3).bind fun q6 =>
    (g_z q6.2).bind fun w9 => some (q6.1, w9)
set_option maxRecDepth 20000 in
set_option maxHeartbeats 4000000 in
theorem m_X10_fails (l : Launch) (dd : va_G) (cT : Nat → ClassId) (lo : Nat) (G : gH) (a0 : Nat) (x1 : Int32) {rz : Int32} {Gz : gH} (h : f_X10_fails G a0 x1 = some (Gz, rz)) : Met l yX10_fails (Cond.code yX10_fails cX10_fails 2 (some .boolean) :: wsL_law) (g_rm 1 22 0 0) (va_Pc [.ref a0, .int x1] (g_Pre lo dd cT G)) (va_Qi (g_is rz Gz) (g_Pre lo dd cT) (g_A lo)) 0 0 (g_A lo) := by
  refine g_start RX10 rfl (by decide) (Nat.le_of_ble_eq_true rfl) ?_
  intro p e s m below meth c hx hb hr hlocks hml hown hnm hts hK hG hlo ls hl
  have hl : lv_has ls 2 [(0, .ref a0), (1, .int x1)] := hl
  have hG : g_S lo dd cT s s.heap [] G := hG
  unfold f_X10_fails at h
  refine lv_aload_n hx hb dX10_fails_0 rfl (lv_at hl 0 rfl) ?_
  refine lv_iload_n hx hb dX10_fails_1 rfl (lv_at hl 1 rfl) ?_
  refine lv_aload_n hx hb dX10_fails_2 rfl (lv_at hl 0 rfl) ?_
  obtain ⟨v3, e3, h⟩ := Option.bind_eq_some_iff.mp h
  refine g_geti hx hb hts inlX10 hown hK hG (by rfl) 6 (by decide) qF_X10_78 e3 dX10_fails_3 ?_
  obtain ⟨u6, i6, h⟩ := Option.bind_eq_some_iff.mp h
  obtain ⟨q6, e6, h⟩ := Option.bind_eq_some_iff.mp h
  refine g_cVi (As := [.int x1, .int v3]) (rest := []) (n := 2) hx hb hml hown hts hK hlo hG (m_X10_failsAt l dd cT lo G a0 x1 v3 e6) qM_X10_102 qI_yX10_failsAt qS_X10_yX10_failsAt qN_X10 qC_yX10_failsAt (by decide +kernel) ⟨Nat.le_of_ble_eq_true rfl, Nat.le_of_ble_eq_true rfl⟩ (by rfl) i6 rfl hl.1 rfl (Nat.le_of_ble_eq_true rfl) dX10_fails_6 ⟨Nat.le_of_ble_eq_true rfl, Nat.le_of_ble_eq_true rfl⟩ (fun H locs hG => ?_)
  obtain ⟨w9, e9, h⟩ := Option.bind_eq_some_iff.mp h
  obtain ⟨n9, rfl⟩ := g_z_nar e9
  obtain ⟨rfl, rfl⟩ := Prod.mk.inj (Option.some.inj h)
  exact g_zret hx hb hr hlocks hK hlo hG n9 ⟨rfl, rfl⟩ dX10_fails_9
def f_X10_starts (G : gH) (a0 : Nat) (x1 : Int32) (x2 : Int32) : Option (gH × Int32) :=
    if x2 = 0 then
    (g_ob G a0 10).bind fun u6 =>
    (f_X10_fails G a0 x1).bind fun q6 =>
    (g_z q6.2).bind fun w9 => some (q6.1, w9)
    else
    (g_ob G a0 10).bind fun u11 =>
    (f_X10_advance G a0).bind fun G11 =>
    some (G11, (1 : Int32))
set_option maxRecDepth 20000 in
set_option maxHeartbeats 4000000 in
theorem m_X10_starts (l : Launch) (dd : va_G) (cT : Nat → ClassId) (lo : Nat) (G : gH) (a0 : Nat) (x1 : Int32) (x2 : Int32) {rz : Int32} {Gz : gH} (h : f_X10_starts G a0 x1 x2 = some (Gz, rz)) : Met l yX10_starts (Cond.code yX10_starts cX10_starts 3 (some .boolean) :: wsL_law) (g_rm 3 63 0 0) (va_Pc [.ref a0, .int x1, .int x2] (g_Pre lo dd cT G)) (va_Qi (g_is rz Gz) (g_Pre lo dd cT) (g_A lo)) 0 0 (g_A lo) := by
  refine g_start RX10 rfl (by decide) (Nat.le_of_ble_eq_true rfl) ?_
  intro p e s m below meth c hx hb hr hlocks hml hown hnm hts hK hG hlo ls hl
  have hl : lv_has ls 3 [(0, .ref a0), (1, .int x1), (2, .int x2)] := hl
  have hG : g_S lo dd cT s s.heap [] G := hG
  unfold f_X10_starts at h
  refine lv_iload_n hx hb dX10_starts_0 rfl (lv_at hl 2 rfl) ?_
  refine lv_if_ne (tgt := 10) hx hb dX10_starts_1 (by decide) (fun c1 => ?_) (fun c1 => ?_)
  · rw [if_neg c1] at h
    refine lv_aload_n hx hb dX10_starts_10 rfl (lv_at hl 0 rfl) ?_
    obtain ⟨u11, i11, h⟩ := Option.bind_eq_some_iff.mp h
    obtain ⟨G11, e11, h⟩ := Option.bind_eq_some_iff.mp h
    refine g_cVv (As := []) (rest := []) (n := 0) hx hb hml hown hts hK hlo hG (m_X10_advance l dd cT lo G a0 e11) qM_X10_110 qI_yX10_advance qS_X10_yX10_advance qN_X10 qC_yX10_advance (by decide +kernel) ⟨Nat.le_of_ble_eq_true rfl, Nat.le_of_ble_eq_true rfl⟩ (by rfl) i11 rfl hl.1 rfl (Nat.le_of_ble_eq_true rfl) dX10_starts_11 ⟨Nat.le_of_ble_eq_true rfl, Nat.le_of_ble_eq_true rfl⟩ (fun H locs hG => ?_)
    refine lv_iconst (v := (1 : Int32)) hx hb dX10_starts_14 (by decide) ?_
    obtain ⟨rfl, rfl⟩ := Prod.mk.inj (Option.some.inj h)
    exact g_zret hx hb hr hlocks hK hlo hG rfl ⟨rfl, rfl⟩ dX10_starts_15
  · rw [if_pos c1] at h
    refine lv_aload_n hx hb dX10_starts_4 rfl (lv_at hl 0 rfl) ?_
    refine lv_iload_n hx hb dX10_starts_5 rfl (lv_at hl 1 rfl) ?_
    obtain ⟨u6, i6, h⟩ := Option.bind_eq_some_iff.mp h
    obtain ⟨q6, e6, h⟩ := Option.bind_eq_some_iff.mp h
    refine g_cVi (As := [.int x1]) (rest := []) (n := 1) hx hb hml hown hts hK hlo hG (m_X10_fails l dd cT lo G a0 x1 e6) qM_X10_106 qI_yX10_fails qS_X10_yX10_fails qN_X10 qC_yX10_fails (by decide +kernel) ⟨Nat.le_of_ble_eq_true rfl, Nat.le_of_ble_eq_true rfl⟩ (by rfl) i6 rfl hl.1 rfl (Nat.le_of_ble_eq_true rfl) dX10_starts_6 ⟨Nat.le_of_ble_eq_true rfl, Nat.le_of_ble_eq_true rfl⟩ (fun H locs hG => ?_)
    obtain ⟨w9, e9, h⟩ := Option.bind_eq_some_iff.mp h
    obtain ⟨n9, rfl⟩ := g_z_nar e9
    obtain ⟨rfl, rfl⟩ := Prod.mk.inj (Option.some.inj h)
    exact g_zret hx hb hr hlocks hK hlo hG n9 ⟨rfl, rfl⟩ dX10_starts_9
def f_X10_takes (G : gH) (a0 : Nat) (x1 : Int32) (x2 : Int32) : Option (gH × Int32) :=
    (g_i G a0 10 8).bind fun v1 =>
    if v1 = (2 : Int32) then
    (g_i G a0 10 9).bind fun v15 =>
    (f_X10_within G v15 x1 x2).bind fun v20 =>
    if v20 = 0 then
    (g_ob G a0 10).bind fun u28 =>
    (f_X10_fails G a0 (3 : Int32)).bind fun q28 =>
    (g_z q28.2).bind fun w31 => some (q28.1, w31)
    else
    (g_i G a0 10 9).bind fun v34 =>
    (g_put G a0 10 13 (.int v34)).bind fun G37 =>
    (g_ob G37 a0 10).bind fun u41 =>
    (f_X10_advance G37 a0).bind fun G41 =>
    some (G41, (1 : Int32))
    else
    (g_ob G a0 10).bind fun u10 =>
    (f_X10_fails G a0 (1 : Int32)).bind fun q10 =>
    (g_z q10.2).bind fun w13 => some (q10.1, w13)
set_option maxRecDepth 20000 in
set_option maxHeartbeats 4000000 in
theorem m_X10_takes (l : Launch) (dd : va_G) (cT : Nat → ClassId) (lo : Nat) (G : gH) (a0 : Nat) (x1 : Int32) (x2 : Int32) {rz : Int32} {Gz : gH} (h : f_X10_takes G a0 x1 x2 = some (Gz, rz)) : Met l yX10_takes (Cond.code yX10_takes cX10_takes 3 (some .boolean) :: wsL_law) (g_rm 3 63 0 0) (va_Pc [.ref a0, .int x1, .int x2] (g_Pre lo dd cT G)) (va_Qi (g_is rz Gz) (g_Pre lo dd cT) (g_A lo)) 0 0 (g_A lo) := by
  refine g_start RX10 rfl (by decide) (Nat.le_of_ble_eq_true rfl) ?_
  intro p e s m below meth c hx hb hr hlocks hml hown hnm hts hK hG hlo ls hl
  have hl : lv_has ls 3 [(0, .ref a0), (1, .int x1), (2, .int x2)] := hl
  have hG : g_S lo dd cT s s.heap [] G := hG
  unfold f_X10_takes at h
  refine lv_aload_n hx hb dX10_takes_0 rfl (lv_at hl 0 rfl) ?_
  obtain ⟨v1, e1, h⟩ := Option.bind_eq_some_iff.mp h
  refine g_geti hx hb hts inlX10 hown hK hG (by rfl) 8 (by decide) qF_X10_84 e1 dX10_takes_1 ?_
  refine lv_iconst (v := (2 : Int32)) hx hb dX10_takes_4 (by decide) ?_
  refine lv_icmp_eq (tgt := 14) hx hb dX10_takes_5 (by decide) (fun c5 => ?_) (fun c5 => ?_)
  · rw [if_pos c5] at h
    refine lv_aload_n hx hb dX10_takes_14 rfl (lv_at hl 0 rfl) ?_
    obtain ⟨v15, e15, h⟩ := Option.bind_eq_some_iff.mp h
    refine g_geti hx hb hts inlX10 hown hK hG (by rfl) 9 (by decide) qF_X10_81 e15 dX10_takes_15 ?_
    refine lv_iload_n hx hb dX10_takes_18 rfl (lv_at hl 1 rfl) ?_
    refine lv_iload_n hx hb dX10_takes_19 rfl (lv_at hl 2 rfl) ?_
    obtain ⟨v20, e20, h⟩ := Option.bind_eq_some_iff.mp h
    refine g_cSi (As := [.int v15, .int x1, .int x2]) (rest := []) (n := 3) hx hb hml hown hts hK hlo hG (m_X10_within l dd cT lo G v15 x1 x2 e20) qM_X10_74 qT_yX10_within qN_X10 qC_yX10_within (by decide +kernel) ⟨Nat.le_of_ble_eq_true rfl, Nat.le_of_ble_eq_true rfl⟩ rfl hl.1 rfl (Nat.le_of_ble_eq_true rfl) dX10_takes_20 ⟨Nat.le_of_ble_eq_true rfl, Nat.le_of_ble_eq_true rfl⟩ (fun H locs hG => ?_)
    refine lv_if_ne (tgt := 32) hx hb dX10_takes_23 (by decide) (fun c23 => ?_) (fun c23 => ?_)
    · rw [if_neg c23] at h
      refine lv_aload_n hx hb dX10_takes_32 rfl (lv_at hl 0 rfl) ?_
      refine lv_aload_n hx hb dX10_takes_33 rfl (lv_at hl 0 rfl) ?_
      obtain ⟨v34, e34, h⟩ := Option.bind_eq_some_iff.mp h
      refine g_geti hx hb hts inlX10 hown hK hG (by rfl) 9 (by decide) qF_X10_81 e34 dX10_takes_34 ?_
      obtain ⟨G37, i37, h⟩ := Option.bind_eq_some_iff.mp h
      refine g_putv hx hb hts inlX10 tyX10 tyX10_ok nmX10 hown hK hG (by rfl) 13 (by decide) qF_X10_113 rfl rfl rfl rfl i37 dX10_takes_37 (fun H locs hG => ?_)
      refine lv_aload_n hx hb dX10_takes_40 rfl (lv_at hl 0 rfl) ?_
      obtain ⟨u41, i41, h⟩ := Option.bind_eq_some_iff.mp h
      obtain ⟨G41, e41, h⟩ := Option.bind_eq_some_iff.mp h
      refine g_cVv (As := []) (rest := []) (n := 0) hx hb hml hown hts hK hlo hG (m_X10_advance l dd cT lo G37 a0 e41) qM_X10_110 qI_yX10_advance qS_X10_yX10_advance qN_X10 qC_yX10_advance (by decide +kernel) ⟨Nat.le_of_ble_eq_true rfl, Nat.le_of_ble_eq_true rfl⟩ (by rfl) i41 rfl hl.1 rfl (Nat.le_of_ble_eq_true rfl) dX10_takes_41 ⟨Nat.le_of_ble_eq_true rfl, Nat.le_of_ble_eq_true rfl⟩ (fun H locs hG => ?_)
      refine lv_iconst (v := (1 : Int32)) hx hb dX10_takes_44 (by decide) ?_
      obtain ⟨rfl, rfl⟩ := Prod.mk.inj (Option.some.inj h)
      exact g_zret hx hb hr hlocks hK hlo hG rfl ⟨rfl, rfl⟩ dX10_takes_45
    · rw [if_pos c23] at h
      refine lv_aload_n hx hb dX10_takes_26 rfl (lv_at hl 0 rfl) ?_
      refine lv_iconst (v := (3 : Int32)) hx hb dX10_takes_27 (by decide) ?_
      obtain ⟨u28, i28, h⟩ := Option.bind_eq_some_iff.mp h
      obtain ⟨q28, e28, h⟩ := Option.bind_eq_some_iff.mp h
      refine g_cVi (As := [.int (3 : Int32)]) (rest := []) (n := 1) hx hb hml hown hts hK hlo hG (m_X10_fails l dd cT lo G a0 (3 : Int32) e28) qM_X10_106 qI_yX10_fails qS_X10_yX10_fails qN_X10 qC_yX10_fails (by decide +kernel) ⟨Nat.le_of_ble_eq_true rfl, Nat.le_of_ble_eq_true rfl⟩ (by rfl) i28 rfl hl.1 rfl (Nat.le_of_ble_eq_true rfl) dX10_takes_28 ⟨Nat.le_of_ble_eq_true rfl, Nat.le_of_ble_eq_true rfl⟩ (fun H locs hG => ?_)
      obtain ⟨w31, e31, h⟩ := Option.bind_eq_some_iff.mp h
      obtain ⟨n31, rfl⟩ := g_z_nar e31
      obtain ⟨rfl, rfl⟩ := Prod.mk.inj (Option.some.inj h)
      exact g_zret hx hb hr hlocks hK hlo hG n31 ⟨rfl, rfl⟩ dX10_takes_31
  · rw [if_neg c5] at h
    refine lv_aload_n hx hb dX10_takes_8 rfl (lv_at hl 0 rfl) ?_
    refine lv_iconst (v := (1 : Int32)) hx hb dX10_takes_9 (by decide) ?_
    obtain ⟨u10, i10, h⟩ := Option.bind_eq_some_iff.mp h
    obtain ⟨q10, e10, h⟩ := Option.bind_eq_some_iff.mp h
    refine g_cVi (As := [.int (1 : Int32)]) (rest := []) (n := 1) hx hb hml hown hts hK hlo hG (m_X10_fails l dd cT lo G a0 (1 : Int32) e10) qM_X10_106 qI_yX10_fails qS_X10_yX10_fails qN_X10 qC_yX10_fails (by decide +kernel) ⟨Nat.le_of_ble_eq_true rfl, Nat.le_of_ble_eq_true rfl⟩ (by rfl) i10 rfl hl.1 rfl (Nat.le_of_ble_eq_true rfl) dX10_takes_10 ⟨Nat.le_of_ble_eq_true rfl, Nat.le_of_ble_eq_true rfl⟩ (fun H locs hG => ?_)
    obtain ⟨w13, e13, h⟩ := Option.bind_eq_some_iff.mp h
    obtain ⟨n13, rfl⟩ := g_z_nar e13
    obtain ⟨rfl, rfl⟩ := Prod.mk.inj (Option.some.inj h)
    exact g_zret hx hb hr hlocks hK hlo hG n13 ⟨rfl, rfl⟩ dX10_takes_13
def f_X10_closes (G : gH) (a0 : Nat) : Option (gH × Int32) :=
    (g_i G a0 10 8).bind fun v3 =>
    if v3 = (3 : Int32) then
    (g_ob G a0 10).bind fun u15 =>
    (f_X10_starts G a0 (1 : Int32) (1 : Int32)).bind fun q15 =>
    (g_z q15.2).bind fun w18 => some (q15.1, w18)
    else
    (g_ob G a0 10).bind fun u15 =>
    (f_X10_starts G a0 (1 : Int32) (0 : Int32)).bind fun q15 =>
    (g_z q15.2).bind fun w18 => some (q15.1, w18)
set_option maxRecDepth 20000 in
set_option maxHeartbeats 4000000 in
theorem m_X10_closes (l : Launch) (dd : va_G) (cT : Nat → ClassId) (lo : Nat) (G : gH) (a0 : Nat) {rz : Int32} {Gz : gH} (h : f_X10_closes G a0 = some (Gz, rz)) : Met l yX10_closes (Cond.code yX10_closes cX10_closes 1 (some .boolean) :: wsL_law) (g_rm 4 85 0 0) (va_Pc [.ref a0] (g_Pre lo dd cT G)) (va_Qi (g_is rz Gz) (g_Pre lo dd cT) (g_A lo)) 0 0 (g_A lo) := by
  refine g_start RX10 rfl (by decide) (Nat.le_of_ble_eq_true rfl) ?_
  intro p e s m below meth c hx hb hr hlocks hml hown hnm hts hK hG hlo ls hl
  have hl : lv_has ls 1 [(0, .ref a0)] := hl
  have hG : g_S lo dd cT s s.heap [] G := hG
  unfold f_X10_closes at h
  refine lv_aload_n hx hb dX10_closes_0 rfl (lv_at hl 0 rfl) ?_
  refine lv_iconst (v := (1 : Int32)) hx hb dX10_closes_1 (by decide) ?_
  refine lv_aload_n hx hb dX10_closes_2 rfl (lv_at hl 0 rfl) ?_
  obtain ⟨v3, e3, h⟩ := Option.bind_eq_some_iff.mp h
  refine g_geti hx hb hts inlX10 hown hK hG (by rfl) 8 (by decide) qF_X10_84 e3 dX10_closes_3 ?_
  refine lv_iconst (v := (3 : Int32)) hx hb dX10_closes_6 (by decide) ?_
  refine lv_icmp_ne (tgt := 14) hx hb dX10_closes_7 (by decide) (fun c7 => ?_) (fun c7 => ?_)
  · rw [if_neg c7] at h
    refine lv_iconst (v := (0 : Int32)) hx hb dX10_closes_14 (by decide) ?_
    obtain ⟨u15, i15, h⟩ := Option.bind_eq_some_iff.mp h
    obtain ⟨q15, e15, h⟩ := Option.bind_eq_some_iff.mp h
    refine g_cVi (As := [.int (1 : Int32), .int (0 : Int32)]) (rest := []) (n := 2) hx hb hml hown hts hK hlo hG (m_X10_starts l dd cT lo G a0 (1 : Int32) (0 : Int32) e15) qM_X10_116 qI_yX10_starts qS_X10_yX10_starts qN_X10 qC_yX10_starts (by decide +kernel) ⟨Nat.le_of_ble_eq_true rfl, Nat.le_of_ble_eq_true rfl⟩ (by rfl) i15 rfl hl.1 rfl (Nat.le_of_ble_eq_true rfl) dX10_closes_15 ⟨Nat.le_of_ble_eq_true rfl, Nat.le_of_ble_eq_true rfl⟩ (fun H locs hG => ?_)
    obtain ⟨w18, e18, h⟩ := Option.bind_eq_some_iff.mp h
    obtain ⟨n18, rfl⟩ := g_z_nar e18
    obtain ⟨rfl, rfl⟩ := Prod.mk.inj (Option.some.inj h)
    exact g_zret hx hb hr hlocks hK hlo hG n18 ⟨rfl, rfl⟩ dX10_closes_18
  · rw [if_pos c7] at h
    refine lv_iconst (v := (1 : Int32)) hx hb dX10_closes_10 (by decide) ?_
    refine lv_goto (tgt := 15) hx hb dX10_closes_11 (by decide) ?_
    obtain ⟨u15, i15, h⟩ := Option.bind_eq_some_iff.mp h
    obtain ⟨q15, e15, h⟩ := Option.bind_eq_some_iff.mp h
    refine g_cVi (As := [.int (1 : Int32), .int (1 : Int32)]) (rest := []) (n := 2) hx hb hml hown hts hK hlo hG (m_X10_starts l dd cT lo G a0 (1 : Int32) (1 : Int32) e15) qM_X10_116 qI_yX10_starts qS_X10_yX10_starts qN_X10 qC_yX10_starts (by decide +kernel) ⟨Nat.le_of_ble_eq_true rfl, Nat.le_of_ble_eq_true rfl⟩ (by rfl) i15 rfl hl.1 rfl (Nat.le_of_ble_eq_true rfl) dX10_closes_15 ⟨Nat.le_of_ble_eq_true rfl, Nat.le_of_ble_eq_true rfl⟩ (fun H locs hG => ?_)
    obtain ⟨w18, e18, h⟩ := Option.bind_eq_some_iff.mp h
    obtain ⟨n18, rfl⟩ := g_z_nar e18
    obtain ⟨rfl, rfl⟩ := Prod.mk.inj (Option.some.inj h)
    exact g_zret hx hb hr hlocks hK hlo hG n18 ⟨rfl, rfl⟩ dX10_closes_18
def f_X10_named_L3 (G : gH) : Nat → Nat → Int32 → Int64 → Int32 → Option Int32
  | 0, _, _, _, _ => none
  | n + 1, ba0, bx1, bx2, bx4 =>
    if bx1 ≤ bx4 then
    some (-1 : Int32)
    else
    (g_lald G ba0 bx4).bind fun v12 =>
    if (lg_cmp v12 bx2) = 0 then
    some bx4
    else
    f_X10_named_L3 G n ba0 bx1 bx2 (bx4 + (1 : Int32))
def f_X10_named (G : gH) (a0 : Nat) (x1 : Int32) (x2 : Int64) : Option Int32 :=
    f_X10_named_L3 G g_N a0 x1 x2 (0 : Int32)
set_option maxRecDepth 20000 in
set_option maxHeartbeats 4000000 in
theorem m_X10_named (l : Launch) (dd : va_G) (cT : Nat → ClassId) (lo : Nat) (G : gH) (a0 : Nat) (x1 : Int32) (x2 : Int64) {rz : Int32} (h : f_X10_named G a0 x1 x2 = some rz) : Met l yX10_named (Cond.code yX10_named cX10_named 5 (some .int) :: wsL_law) (g_rm 0 0 0 0) (va_Pc [.ref a0, .int x1, .long x2] (g_Pre lo dd cT G)) (va_Qi (g_is rz G) (g_Pre lo dd cT) (g_A lo)) 0 0 (g_A lo) := by
  refine g_start RX10 rfl (by decide) (Nat.le_of_ble_eq_true rfl) ?_
  intro p e s m below meth c hx hb hr hlocks hml hown hnm hts hK hG hlo ls hl
  have hl : lv_has ls 5 [(0, .ref a0), (1, .int x1), (2, .long x2)] := hl
  have hG : g_S lo dd cT s s.heap [] G := hG
  have h3 : ∀ n : Nat, ∀ (ba0 : Nat) (bx1 : Int32) (bx2 : Int64) (bx4 : Int32), ∀ (H : Heap) (locs : List Loc), g_S lo dd cT s H locs G → ∀ ls : Array Slot, lv_has ls 5 [(0, .ref ba0), (1, .int bx1), (2, .long bx2), (4, .int bx4)] → f_X10_named_L3 G n ba0 bx1 bx2 bx4 = some rz → W p l e (g_rm 0 0 0 0) s m ([.ref a0, .int x1, .long x2] : List Value).toArray below meth c H locs 0 0 (MQ below (va_Qi (g_is rz G) (g_Pre lo dd cT) (g_A lo)) ([.ref a0, .int x1, .long x2] : List Value).toArray s 0 0 (g_A lo)) (F0 m 3 ls []) := by
    intro n
    induction n with
    | zero =>
      intro ba0 bx1 bx2 bx4 H locs hG ls hl h
      cases (show (none : Option Int32) = some rz from h)
    | succ n ih =>
      intro ba0 bx1 bx2 bx4 H locs hG ls hl h
      rw [f_X10_named_L3] at h
      refine lv_iload hx hb dX10_named_3 (lv_at hl 3 rfl) ?_
      refine lv_iload_n hx hb dX10_named_5 rfl (lv_at hl 1 rfl) ?_
      refine lv_icmp_ge (tgt := 27) hx hb dX10_named_6 (by decide) (fun c6 => ?_) (fun c6 => ?_)
      · rw [if_pos c6] at h
        refine lv_iconst (v := (-1 : Int32)) hx hb dX10_named_27 (by decide) ?_
        obtain rfl := Option.some.inj h
        exact g_iret hx hb hr hlocks hK hlo hG ⟨rfl, rfl⟩ dX10_named_28
      · rw [if_neg c6] at h
        refine lv_aload_n hx hb dX10_named_9 rfl (lv_at hl 0 rfl) ?_
        refine lv_iload hx hb dX10_named_10 (lv_at hl 3 rfl) ?_
        obtain ⟨v12, e12, h⟩ := Option.bind_eq_some_iff.mp h
        refine g_jald hx hb hK hG e12 dX10_named_12 ?_
        refine lv_lload_n hx hb dX10_named_13 rfl (lv_at hl 2 rfl) ?_
        refine W.lcmp hx hb dX10_named_14 ?_
        refine lv_if_ne (tgt := 21) hx hb dX10_named_15 (by decide) (fun c15 => ?_) (fun c15 => ?_)
        · rw [if_neg c15] at h
          refine lv_iinc (v := (bx4 + (1 : Int32))) (lv' := [(4, .int (bx4 + (1 : Int32))), (0, .ref ba0), (1, .int bx1), (2, .long bx2)]) hx hb dX10_named_21 hl (k := 3) rfl rfl (by decide) rfl (fun ls hl => ?_)
          refine lv_goto (tgt := 3) hx hb dX10_named_24 (by decide) ?_
          exact ih ba0 bx1 bx2 (bx4 + (1 : Int32)) _ _ hG _ (lv_sub hl [1, 2, 3, 0] rfl) h
        · rw [if_pos c15] at h
          refine lv_iload hx hb dX10_named_18 (lv_at hl 3 rfl) ?_
          obtain rfl := Option.some.inj h
          exact g_iret hx hb hr hlocks hK hlo hG ⟨rfl, rfl⟩ dX10_named_20
  unfold f_X10_named at h
  refine lv_iconst (v := (0 : Int32)) hx hb dX10_named_0 (by decide) ?_
  refine lv_istore (lv' := [(4, .int (0 : Int32)), (0, .ref a0), (1, .int x1), (2, .long x2)]) hx hb dX10_named_1 hl (by decide) rfl (fun ls hl => ?_)
  exact h3 g_N a0 x1 x2 (0 : Int32) _ _ hG _ (lv_sub hl [1, 2, 3, 0] rfl) h
def f_X10_badLine_J47 (G : gH) (ba0 : Nat) : Option (gH × Int32) :=
    (g_r G ba0 10 1).bind fun v50 =>
    (g_ald 0 G v50 (0 : Int32)).bind fun v54 =>
    (g_ob G ba0 10).bind fun u57 =>
    (f_X10_takes G ba0 (0 : Int32) (v54 - (1 : Int32))).bind fun q57 =>
    if q57.2 = 0 then
    some (q57.1, (0 : Int32))
    else
    (g_r q57.1 ba0 10 1).bind fun v66 =>
    (g_i q57.1 ba0 10 13).bind fun v72 =>
    (g_ast 0 q57.1 v66 ((103 : Int32) + v72) (1 : Int32)).bind fun G77 =>
    some (G77, (1 : Int32))
def f_X10_badLine (G : gH) (a0 : Nat) : Option (gH × Int32) :=
    (g_ob G a0 10).bind fun u1 =>
    (f_X10_advance G a0).bind fun G1 =>
    (g_i G1 a0 10 8).bind fun v5 =>
    if v5 = (2 : Int32) then
    (g_i G1 a0 10 9).bind fun v13 =>
    (g_r G1 a0 10 1).bind fun v17 =>
    (g_ald 0 G1 v17 (0 : Int32)).bind fun v21 =>
    if v21 ≤ v13 then
    f_X10_badLine_J47 G1 a0
    else
    (g_r G1 a0 10 1).bind fun v26 =>
    (g_i G1 a0 10 9).bind fun v32 =>
    (g_ald 0 G1 v26 ((103 : Int32) + v32)).bind fun v36 =>
    if v36 = (1 : Int32) then
    (g_ob G1 a0 10).bind fun u43 =>
    (f_X10_fails G1 a0 (2 : Int32)).bind fun q43 =>
    (g_z q43.2).bind fun w46 => some (q43.1, w46)
    else
    f_X10_badLine_J47 G1 a0
    else
    f_X10_badLine_J47 G1 a0
set_option maxRecDepth 20000 in
set_option maxHeartbeats 4000000 in
theorem m_X10_badLine (l : Launch) (dd : va_G) (cT : Nat → ClassId) (lo : Nat) (G : gH) (a0 : Nat) {rz : Int32} {Gz : gH} (h : f_X10_badLine G a0 = some (Gz, rz)) : Met l yX10_badLine (Cond.code yX10_badLine cX10_badLine 1 (some .boolean) :: wsL_law) (g_rm 4 85 0 0) (va_Pc [.ref a0] (g_Pre lo dd cT G)) (va_Qi (g_is rz Gz) (g_Pre lo dd cT) (g_A lo)) 0 0 (g_A lo) := by
  refine g_start RX10 rfl (by decide) (Nat.le_of_ble_eq_true rfl) ?_
  intro p e s m below meth c hx hb hr hlocks hml hown hnm hts hK hG hlo ls hl
  have hl : lv_has ls 1 [(0, .ref a0)] := hl
  have hG : g_S lo dd cT s s.heap [] G := hG
  have h47 : ∀ (G : gH) (ba0 : Nat), ∀ (H : Heap) (locs : List Loc), g_S lo dd cT s H locs G → ∀ ls : Array Slot, lv_has ls 1 [(0, .ref ba0)] → f_X10_badLine_J47 G ba0 = some (Gz, rz) → W p l e (g_rm 4 85 0 0) s m ([.ref a0] : List Value).toArray below meth c H locs 0 0 (MQ below (va_Qi (g_is rz Gz) (g_Pre lo dd cT) (g_A lo)) ([.ref a0] : List Value).toArray s 0 0 (g_A lo)) (F0 m 47 ls []) := by
    intro G ba0 H locs hG ls hl h
    unfold f_X10_badLine_J47 at h
    refine lv_aload_n hx hb dX10_badLine_47 rfl (lv_at hl 0 rfl) ?_
    refine lv_iconst (v := (0 : Int32)) hx hb dX10_badLine_48 (by decide) ?_
    refine lv_aload_n hx hb dX10_badLine_49 rfl (lv_at hl 0 rfl) ?_
    obtain ⟨v50, e50, h⟩ := Option.bind_eq_some_iff.mp h
    refine g_getr hx hb hts inlX10 hown hK hG (by rfl) 1 (by decide) qF_X10_7 e50 dX10_badLine_50 ?_
    refine lv_iconst (v := (0 : Int32)) hx hb dX10_badLine_53 (by decide) ?_
    obtain ⟨v54, e54, h⟩ := Option.bind_eq_some_iff.mp h
    refine g_iald hx hb hK hG e54 dX10_badLine_54 ?_
    refine lv_iconst (v := (1 : Int32)) hx hb dX10_badLine_55 (by decide) ?_
    refine lv_isub hx hb dX10_badLine_56 ?_
    obtain ⟨u57, i57, h⟩ := Option.bind_eq_some_iff.mp h
    obtain ⟨q57, e57, h⟩ := Option.bind_eq_some_iff.mp h
    refine g_cVi (As := [.int (0 : Int32), .int (v54 - (1 : Int32))]) (rest := []) (n := 2) hx hb hml hown hts hK hlo hG (m_X10_takes l dd cT lo G ba0 (0 : Int32) (v54 - (1 : Int32)) e57) qM_X10_120 qI_yX10_takes qS_X10_yX10_takes qN_X10 qC_yX10_takes (by decide +kernel) ⟨Nat.le_of_ble_eq_true rfl, Nat.le_of_ble_eq_true rfl⟩ (by rfl) i57 rfl hl.1 rfl (Nat.le_of_ble_eq_true rfl) dX10_badLine_57 ⟨Nat.le_of_ble_eq_true rfl, Nat.le_of_ble_eq_true rfl⟩ (fun H locs hG => ?_)
    refine lv_if_ne (tgt := 65) hx hb dX10_badLine_60 (by decide) (fun c60 => ?_) (fun c60 => ?_)
    · rw [if_neg c60] at h
      refine lv_aload_n hx hb dX10_badLine_65 rfl (lv_at hl 0 rfl) ?_
      obtain ⟨v66, e66, h⟩ := Option.bind_eq_some_iff.mp h
      refine g_getr hx hb hts inlX10 hown hK hG (by rfl) 1 (by decide) qF_X10_7 e66 dX10_badLine_66 ?_
      refine lv_bipush (v := (103 : Int32)) hx hb dX10_badLine_69 (by decide) ?_
      refine lv_aload_n hx hb dX10_badLine_71 rfl (lv_at hl 0 rfl) ?_
      obtain ⟨v72, e72, h⟩ := Option.bind_eq_some_iff.mp h
      refine g_geti hx hb hts inlX10 hown hK hG (by rfl) 13 (by decide) qF_X10_113 e72 dX10_badLine_72 ?_
      refine lv_iadd hx hb dX10_badLine_75 ?_
      refine lv_iconst (v := (1 : Int32)) hx hb dX10_badLine_76 (by decide) ?_
      obtain ⟨G77, e77, h⟩ := Option.bind_eq_some_iff.mp h
      refine g_iast hx hb hK hG e77 dX10_badLine_77 (fun H locs hG => ?_)
      refine lv_iconst (v := (1 : Int32)) hx hb dX10_badLine_78 (by decide) ?_
      obtain ⟨rfl, rfl⟩ := Prod.mk.inj (Option.some.inj h)
      exact g_zret hx hb hr hlocks hK hlo hG rfl ⟨rfl, rfl⟩ dX10_badLine_79
    · rw [if_pos c60] at h
      refine lv_iconst (v := (0 : Int32)) hx hb dX10_badLine_63 (by decide) ?_
      obtain ⟨rfl, rfl⟩ := Prod.mk.inj (Option.some.inj h)
      exact g_zret hx hb hr hlocks hK hlo hG rfl ⟨rfl, rfl⟩ dX10_badLine_64
  unfold f_X10_badLine at h
  refine lv_aload_n hx hb dX10_badLine_0 rfl (lv_at hl 0 rfl) ?_
  obtain ⟨u1, i1, h⟩ := Option.bind_eq_some_iff.mp h
  obtain ⟨G1, e1, h⟩ := Option.bind_eq_some_iff.mp h
  refine g_cVv (As := []) (rest := []) (n := 0) hx hb hml hown hts hK hlo hG (m_X10_advance l dd cT lo G a0 e1) qM_X10_110 qI_yX10_advance qS_X10_yX10_advance qN_X10 qC_yX10_advance (by decide +kernel) ⟨Nat.le_of_ble_eq_true rfl, Nat.le_of_ble_eq_true rfl⟩ (by rfl) i1 rfl hl.1 rfl (Nat.le_of_ble_eq_true rfl) dX10_badLine_1 ⟨Nat.le_of_ble_eq_true rfl, Nat.le_of_ble_eq_true rfl⟩ (fun H locs hG => ?_)
  refine lv_aload_n hx hb dX10_badLine_4 rfl (lv_at hl 0 rfl) ?_
  obtain ⟨v5, e5, h⟩ := Option.bind_eq_some_iff.mp h
  refine g_geti hx hb hts inlX10 hown hK hG (by rfl) 8 (by decide) qF_X10_84 e5 dX10_badLine_5 ?_
  refine lv_iconst (v := (2 : Int32)) hx hb dX10_badLine_8 (by decide) ?_
  refine lv_icmp_ne (tgt := 47) hx hb dX10_badLine_9 (by decide) (fun c9 => ?_) (fun c9 => ?_)
  · rw [if_neg c9] at h
    exact h47 G1 a0 _ _ hG _ (lv_sub hl [0] rfl) h
  · rw [if_pos c9] at h
    refine lv_aload_n hx hb dX10_badLine_12 rfl (lv_at hl 0 rfl) ?_
    obtain ⟨v13, e13, h⟩ := Option.bind_eq_some_iff.mp h
    refine g_geti hx hb hts inlX10 hown hK hG (by rfl) 9 (by decide) qF_X10_81 e13 dX10_badLine_13 ?_
    refine lv_aload_n hx hb dX10_badLine_16 rfl (lv_at hl 0 rfl) ?_
    obtain ⟨v17, e17, h⟩ := Option.bind_eq_some_iff.mp h
    refine g_getr hx hb hts inlX10 hown hK hG (by rfl) 1 (by decide) qF_X10_7 e17 dX10_badLine_17 ?_
    refine lv_iconst (v := (0 : Int32)) hx hb dX10_badLine_20 (by decide) ?_
    obtain ⟨v21, e21, h⟩ := Option.bind_eq_some_iff.mp h
    refine g_iald hx hb hK hG e21 dX10_badLine_21 ?_
    refine lv_icmp_ge (tgt := 47) hx hb dX10_badLine_22 (by decide) (fun c22 => ?_) (fun c22 => ?_)
    · rw [if_pos c22] at h
      exact h47 G1 a0 _ _ hG _ (lv_sub hl [0] rfl) h
    · rw [if_neg c22] at h
      refine lv_aload_n hx hb dX10_badLine_25 rfl (lv_at hl 0 rfl) ?_
      obtain ⟨v26, e26, h⟩ := Option.bind_eq_some_iff.mp h
      refine g_getr hx hb hts inlX10 hown hK hG (by rfl) 1 (by decide) qF_X10_7 e26 dX10_badLine_26 ?_
      refine lv_bipush (v := (103 : Int32)) hx hb dX10_badLine_29 (by decide) ?_
      refine lv_aload_n hx hb dX10_badLine_31 rfl (lv_at hl 0 rfl) ?_
      obtain ⟨v32, e32, h⟩ := Option.bind_eq_some_iff.mp h
      refine g_geti hx hb hts inlX10 hown hK hG (by rfl) 9 (by decide) qF_X10_81 e32 dX10_badLine_32 ?_
      refine lv_iadd hx hb dX10_badLine_35 ?_
      obtain ⟨v36, e36, h⟩ := Option.bind_eq_some_iff.mp h
      refine g_iald hx hb hK hG e36 dX10_badLine_36 ?_
      refine lv_iconst (v := (1 : Int32)) hx hb dX10_badLine_37 (by decide) ?_
      refine lv_icmp_ne (tgt := 47) hx hb dX10_badLine_38 (by decide) (fun c38 => ?_) (fun c38 => ?_)
      · rw [if_neg c38] at h
        exact h47 G1 a0 _ _ hG _ (lv_sub hl [0] rfl) h
      · rw [if_pos c38] at h
        refine lv_aload_n hx hb dX10_badLine_41 rfl (lv_at hl 0 rfl) ?_
        refine lv_iconst (v := (2 : Int32)) hx hb dX10_badLine_42 (by decide) ?_
        obtain ⟨u43, i43, h⟩ := Option.bind_eq_some_iff.mp h
        obtain ⟨q43, e43, h⟩ := Option.bind_eq_some_iff.mp h
        refine g_cVi (As := [.int (2 : Int32)]) (rest := []) (n := 1) hx hb hml hown hts hK hlo hG (m_X10_fails l dd cT lo G1 a0 (2 : Int32) e43) qM_X10_106 qI_yX10_fails qS_X10_yX10_fails qN_X10 qC_yX10_fails (by decide +kernel) ⟨Nat.le_of_ble_eq_true rfl, Nat.le_of_ble_eq_true rfl⟩ (by rfl) i43 rfl hl.1 rfl (Nat.le_of_ble_eq_true rfl) dX10_badLine_43 ⟨Nat.le_of_ble_eq_true rfl, Nat.le_of_ble_eq_true rfl⟩ (fun H locs hG => ?_)
        obtain ⟨w46, e46, h⟩ := Option.bind_eq_some_iff.mp h
        obtain ⟨n46, rfl⟩ := g_z_nar e46
        obtain ⟨rfl, rfl⟩ := Prod.mk.inj (Option.some.inj h)
        exact g_zret hx hb hr hlocks hK hlo hG n46 ⟨rfl, rfl⟩ dX10_badLine_46
def f_X10_fileLine_J67 (G : gH) (ba0 : Nat) (bx1 : Int32) (bx2 : Int64) (z0 : Nat) (z1 : Int32) (z2 : Int32) : Option (gH × Int32) :=
    (g_ob G z0 10).bind fun u67 =>
    (f_X10_starts G z0 z1 z2).bind fun q67 =>
    if q67.2 = 0 then
    some (q67.1, (0 : Int32))
    else
    (g_r q67.1 ba0 10 15).bind fun v76 =>
    (g_last q67.1 v76 bx1 bx2).bind fun G81 =>
    (g_r G81 ba0 10 1).bind fun v83 =>
    (g_ald 0 G81 v83 (2 : Int32)).bind fun v88 =>
    (g_ast 0 G81 v83 (2 : Int32) (v88 + (1 : Int32))).bind fun G91 =>
    some (G91, (1 : Int32))
def f_X10_fileLine_J20 (G : gH) (ba0 : Nat) (bx1 : Int32) (z0 : Nat) (z1 : Int32) (z2 : Int32) : Option (gH × Int32) :=
    (g_ob G z0 10).bind fun u20 =>
    (f_X10_starts G z0 z1 z2).bind fun q20 =>
    if q20.2 = 0 then
    some (q20.1, (0 : Int32))
    else
    (g_i q20.1 ba0 10 8).bind fun v29 =>
    if v29 = (1 : Int32) then
    (g_j q20.1 ba0 10 10).bind fun v43 =>
    (g_r q20.1 ba0 10 15).bind fun v50 =>
    (f_X10_named q20.1 v50 bx1 v43).bind fun v55 =>
    if v55 = (-1 : Int32) then
    f_X10_fileLine_J67 q20.1 ba0 bx1 v43 ba0 (2 : Int32) (1 : Int32)
    else
    f_X10_fileLine_J67 q20.1 ba0 bx1 v43 ba0 (2 : Int32) (0 : Int32)
    else
    (g_ob q20.1 ba0 10).bind fun u38 =>
    (f_X10_fails q20.1 ba0 (1 : Int32)).bind fun q38 =>
    (g_z q38.2).bind fun w41 => some (q38.1, w41)
def f_X10_fileLine (G : gH) (a0 : Nat) : Option (gH × Int32) :=
    (g_r G a0 10 1).bind fun v1 =>
    (g_ald 0 G v1 (2 : Int32)).bind fun v5 =>
    if (10 : Int32) ≤ v5 then
    f_X10_fileLine_J20 G a0 v5 a0 (5 : Int32) (0 : Int32)
    else
    f_X10_fileLine_J20 G a0 v5 a0 (5 : Int32) (1 : Int32)
set_option maxRecDepth 20000 in
set_option maxHeartbeats 4000000 in
theorem m_X10_fileLine (l : Launch) (dd : va_G) (cT : Nat → ClassId) (lo : Nat) (G : gH) (a0 : Nat) {rz : Int32} {Gz : gH} (h : f_X10_fileLine G a0 = some (Gz, rz)) : Met l yX10_fileLine (Cond.code yX10_fileLine cX10_fileLine 4 (some .boolean) :: wsL_law) (g_rm 4 85 0 0) (va_Pc [.ref a0] (g_Pre lo dd cT G)) (va_Qi (g_is rz Gz) (g_Pre lo dd cT) (g_A lo)) 0 0 (g_A lo) := by
  refine g_start RX10 rfl (by decide) (Nat.le_of_ble_eq_true rfl) ?_
  intro p e s m below meth c hx hb hr hlocks hml hown hnm hts hK hG hlo ls hl
  have hl : lv_has ls 4 [(0, .ref a0)] := hl
  have hG : g_S lo dd cT s s.heap [] G := hG
  have h67 : ∀ (G : gH) (ba0 : Nat) (bx1 : Int32) (bx2 : Int64) (z0 : Nat) (z1 : Int32) (z2 : Int32), ∀ (H : Heap) (locs : List Loc), g_S lo dd cT s H locs G → ∀ ls : Array Slot, lv_has ls 4 [(0, .ref ba0), (1, .int bx1), (2, .long bx2)] → f_X10_fileLine_J67 G ba0 bx1 bx2 z0 z1 z2 = some (Gz, rz) → W p l e (g_rm 4 85 0 0) s m ([.ref a0] : List Value).toArray below meth c H locs 0 0 (MQ below (va_Qi (g_is rz Gz) (g_Pre lo dd cT) (g_A lo)) ([.ref a0] : List Value).toArray s 0 0 (g_A lo)) (F0 m 67 ls [.int z2, .int z1, .ref z0]) := by
    intro G ba0 bx1 bx2 z0 z1 z2 H locs hG ls hl h
    unfold f_X10_fileLine_J67 at h
    obtain ⟨u67, i67, h⟩ := Option.bind_eq_some_iff.mp h
    obtain ⟨q67, e67, h⟩ := Option.bind_eq_some_iff.mp h
    refine g_cVi (As := [.int z1, .int z2]) (rest := []) (n := 2) hx hb hml hown hts hK hlo hG (m_X10_starts l dd cT lo G z0 z1 z2 e67) qM_X10_116 qI_yX10_starts qS_X10_yX10_starts qN_X10 qC_yX10_starts (by decide +kernel) ⟨Nat.le_of_ble_eq_true rfl, Nat.le_of_ble_eq_true rfl⟩ (by rfl) i67 rfl hl.1 rfl (Nat.le_of_ble_eq_true rfl) dX10_fileLine_67 ⟨Nat.le_of_ble_eq_true rfl, Nat.le_of_ble_eq_true rfl⟩ (fun H locs hG => ?_)
    refine lv_if_ne (tgt := 75) hx hb dX10_fileLine_70 (by decide) (fun c70 => ?_) (fun c70 => ?_)
    · rw [if_neg c70] at h
      refine lv_aload_n hx hb dX10_fileLine_75 rfl (lv_at hl 0 rfl) ?_
      obtain ⟨v76, e76, h⟩ := Option.bind_eq_some_iff.mp h
      refine g_getr hx hb hts inlX10 hown hK hG (by rfl) 15 (by decide) qF_X10_28 e76 dX10_fileLine_76 ?_
      refine lv_iload_n hx hb dX10_fileLine_79 rfl (lv_at hl 1 rfl) ?_
      refine lv_lload_n hx hb dX10_fileLine_80 rfl (lv_at hl 2 rfl) ?_
      obtain ⟨G81, e81, h⟩ := Option.bind_eq_some_iff.mp h
      refine g_jast hx hb hK hG e81 dX10_fileLine_81 (fun H locs hG => ?_)
      refine lv_aload_n hx hb dX10_fileLine_82 rfl (lv_at hl 0 rfl) ?_
      obtain ⟨v83, e83, h⟩ := Option.bind_eq_some_iff.mp h
      refine g_getr hx hb hts inlX10 hown hK hG (by rfl) 1 (by decide) qF_X10_7 e83 dX10_fileLine_83 ?_
      refine lv_iconst (v := (2 : Int32)) hx hb dX10_fileLine_86 (by decide) ?_
      refine lv_dup2_11 hx hb dX10_fileLine_87 rfl rfl ?_
      obtain ⟨v88, e88, h⟩ := Option.bind_eq_some_iff.mp h
      refine g_iald hx hb hK hG e88 dX10_fileLine_88 ?_
      refine lv_iconst (v := (1 : Int32)) hx hb dX10_fileLine_89 (by decide) ?_
      refine lv_iadd hx hb dX10_fileLine_90 ?_
      obtain ⟨G91, e91, h⟩ := Option.bind_eq_some_iff.mp h
      refine g_iast hx hb hK hG e91 dX10_fileLine_91 (fun H locs hG => ?_)
      refine lv_iconst (v := (1 : Int32)) hx hb dX10_fileLine_92 (by decide) ?_
      obtain ⟨rfl, rfl⟩ := Prod.mk.inj (Option.some.inj h)
      exact g_zret hx hb hr hlocks hK hlo hG rfl ⟨rfl, rfl⟩ dX10_fileLine_93
    · rw [if_pos c70] at h
      refine lv_iconst (v := (0 : Int32)) hx hb dX10_fileLine_73 (by decide) ?_
      obtain ⟨rfl, rfl⟩ := Prod.mk.inj (Option.some.inj h)
      exact g_zret hx hb hr hlocks hK hlo hG rfl ⟨rfl, rfl⟩ dX10_fileLine_74
  have h20 : ∀ (G : gH) (ba0 : Nat) (bx1 : Int32) (z0 : Nat) (z1 : Int32) (z2 : Int32), ∀ (H : Heap) (locs : List Loc), g_S lo dd cT s H locs G → ∀ ls : Array Slot, lv_has ls 4 [(0, .ref ba0), (1, .int bx1)] → f_X10_fileLine_J20 G ba0 bx1 z0 z1 z2 = some (Gz, rz) → W p l e (g_rm 4 85 0 0) s m ([.ref a0] : List Value).toArray below meth c H locs 0 0 (MQ below (va_Qi (g_is rz Gz) (g_Pre lo dd cT) (g_A lo)) ([.ref a0] : List Value).toArray s 0 0 (g_A lo)) (F0 m 20 ls [.int z2, .int z1, .ref z0]) := by
    intro G ba0 bx1 z0 z1 z2 H locs hG ls hl h
    unfold f_X10_fileLine_J20 at h
    obtain ⟨u20, i20, h⟩ := Option.bind_eq_some_iff.mp h
    obtain ⟨q20, e20, h⟩ := Option.bind_eq_some_iff.mp h
    refine g_cVi (As := [.int z1, .int z2]) (rest := []) (n := 2) hx hb hml hown hts hK hlo hG (m_X10_starts l dd cT lo G z0 z1 z2 e20) qM_X10_116 qI_yX10_starts qS_X10_yX10_starts qN_X10 qC_yX10_starts (by decide +kernel) ⟨Nat.le_of_ble_eq_true rfl, Nat.le_of_ble_eq_true rfl⟩ (by rfl) i20 rfl hl.1 rfl (Nat.le_of_ble_eq_true rfl) dX10_fileLine_20 ⟨Nat.le_of_ble_eq_true rfl, Nat.le_of_ble_eq_true rfl⟩ (fun H locs hG => ?_)
    refine lv_if_ne (tgt := 28) hx hb dX10_fileLine_23 (by decide) (fun c23 => ?_) (fun c23 => ?_)
    · rw [if_neg c23] at h
      refine lv_aload_n hx hb dX10_fileLine_28 rfl (lv_at hl 0 rfl) ?_
      obtain ⟨v29, e29, h⟩ := Option.bind_eq_some_iff.mp h
      refine g_geti hx hb hts inlX10 hown hK hG (by rfl) 8 (by decide) qF_X10_84 e29 dX10_fileLine_29 ?_
      refine lv_iconst (v := (1 : Int32)) hx hb dX10_fileLine_32 (by decide) ?_
      refine lv_icmp_eq (tgt := 42) hx hb dX10_fileLine_33 (by decide) (fun c33 => ?_) (fun c33 => ?_)
      · rw [if_pos c33] at h
        refine lv_aload_n hx hb dX10_fileLine_42 rfl (lv_at hl 0 rfl) ?_
        obtain ⟨v43, e43, h⟩ := Option.bind_eq_some_iff.mp h
        refine g_getj hx hb hts inlX10 hown hK hG (by rfl) 10 (by decide) qF_X10_63 e43 dX10_fileLine_43 ?_
        refine lv_lstore_n (lv' := [(2, .long v43), (0, .ref ba0), (1, .int bx1)]) hx hb dX10_fileLine_46 rfl hl (by decide) rfl (fun ls hl => ?_)
        refine lv_aload_n hx hb dX10_fileLine_47 rfl (lv_at hl 1 rfl) ?_
        refine lv_iconst (v := (2 : Int32)) hx hb dX10_fileLine_48 (by decide) ?_
        refine lv_aload_n hx hb dX10_fileLine_49 rfl (lv_at hl 1 rfl) ?_
        obtain ⟨v50, e50, h⟩ := Option.bind_eq_some_iff.mp h
        refine g_getr hx hb hts inlX10 hown hK hG (by rfl) 15 (by decide) qF_X10_28 e50 dX10_fileLine_50 ?_
        refine lv_iload_n hx hb dX10_fileLine_53 rfl (lv_at hl 2 rfl) ?_
        refine lv_lload_n hx hb dX10_fileLine_54 rfl (lv_at hl 0 rfl) ?_
        obtain ⟨v55, e55, h⟩ := Option.bind_eq_some_iff.mp h
        refine g_cSi (As := [.ref v50, .int bx1, .long v43]) (rest := [.int (2 : Int32), .ref ba0]) (n := 3) hx hb hml hown hts hK hlo hG (m_X10_named l dd cT lo q20.1 v50 bx1 v43 e55) qM_X10_123 qT_yX10_named qN_X10 qC_yX10_named (by decide +kernel) ⟨Nat.le_of_ble_eq_true rfl, Nat.le_of_ble_eq_true rfl⟩ rfl hl.1 rfl (Nat.le_of_ble_eq_true rfl) dX10_fileLine_55 ⟨Nat.le_of_ble_eq_true rfl, Nat.le_of_ble_eq_true rfl⟩ (fun H locs hG => ?_)
        refine lv_iconst (v := (-1 : Int32)) hx hb dX10_fileLine_58 (by decide) ?_
        refine lv_icmp_ne (tgt := 66) hx hb dX10_fileLine_59 (by decide) (fun c59 => ?_) (fun c59 => ?_)
        · rw [if_neg c59] at h
          refine lv_iconst (v := (0 : Int32)) hx hb dX10_fileLine_66 (by decide) ?_
          exact h67 q20.1 ba0 bx1 v43 ba0 (2 : Int32) (0 : Int32) _ _ hG _ (lv_sub hl [1, 2, 0] rfl) h
        · rw [if_pos c59] at h
          refine lv_iconst (v := (1 : Int32)) hx hb dX10_fileLine_62 (by decide) ?_
          refine lv_goto (tgt := 67) hx hb dX10_fileLine_63 (by decide) ?_
          exact h67 q20.1 ba0 bx1 v43 ba0 (2 : Int32) (1 : Int32) _ _ hG _ (lv_sub hl [1, 2, 0] rfl) h
      · rw [if_neg c33] at h
        refine lv_aload_n hx hb dX10_fileLine_36 rfl (lv_at hl 0 rfl) ?_
        refine lv_iconst (v := (1 : Int32)) hx hb dX10_fileLine_37 (by decide) ?_
        obtain ⟨u38, i38, h⟩ := Option.bind_eq_some_iff.mp h
        obtain ⟨q38, e38, h⟩ := Option.bind_eq_some_iff.mp h
        refine g_cVi (As := [.int (1 : Int32)]) (rest := []) (n := 1) hx hb hml hown hts hK hlo hG (m_X10_fails l dd cT lo q20.1 ba0 (1 : Int32) e38) qM_X10_106 qI_yX10_fails qS_X10_yX10_fails qN_X10 qC_yX10_fails (by decide +kernel) ⟨Nat.le_of_ble_eq_true rfl, Nat.le_of_ble_eq_true rfl⟩ (by rfl) i38 rfl hl.1 rfl (Nat.le_of_ble_eq_true rfl) dX10_fileLine_38 ⟨Nat.le_of_ble_eq_true rfl, Nat.le_of_ble_eq_true rfl⟩ (fun H locs hG => ?_)
        obtain ⟨w41, e41, h⟩ := Option.bind_eq_some_iff.mp h
        obtain ⟨n41, rfl⟩ := g_z_nar e41
        obtain ⟨rfl, rfl⟩ := Prod.mk.inj (Option.some.inj h)
        exact g_zret hx hb hr hlocks hK hlo hG n41 ⟨rfl, rfl⟩ dX10_fileLine_41
    · rw [if_pos c23] at h
      refine lv_iconst (v := (0 : Int32)) hx hb dX10_fileLine_26 (by decide) ?_
      obtain ⟨rfl, rfl⟩ := Prod.mk.inj (Option.some.inj h)
      exact g_zret hx hb hr hlocks hK hlo hG rfl ⟨rfl, rfl⟩ dX10_fileLine_27
  unfold f_X10_fileLine at h
  refine lv_aload_n hx hb dX10_fileLine_0 rfl (lv_at hl 0 rfl) ?_
  obtain ⟨v1, e1, h⟩ := Option.bind_eq_some_iff.mp h
  refine g_getr hx hb hts inlX10 hown hK hG (by rfl) 1 (by decide) qF_X10_7 e1 dX10_fileLine_1 ?_
  refine lv_iconst (v := (2 : Int32)) hx hb dX10_fileLine_4 (by decide) ?_
  obtain ⟨v5, e5, h⟩ := Option.bind_eq_some_iff.mp h
  refine g_iald hx hb hK hG e5 dX10_fileLine_5 ?_
  refine lv_istore_n (lv' := [(1, .int v5), (0, .ref a0)]) hx hb dX10_fileLine_6 rfl hl (by decide) rfl (fun ls hl => ?_)
  refine lv_aload_n hx hb dX10_fileLine_7 rfl (lv_at hl 1 rfl) ?_
  refine lv_iconst (v := (5 : Int32)) hx hb dX10_fileLine_8 (by decide) ?_
  refine lv_iload_n hx hb dX10_fileLine_9 rfl (lv_at hl 0 rfl) ?_
  refine lv_bipush (v := (10 : Int32)) hx hb dX10_fileLine_10 (by decide) ?_
  refine lv_icmp_ge (tgt := 19) hx hb dX10_fileLine_12 (by decide) (fun c12 => ?_) (fun c12 => ?_)
  · rw [if_pos c12] at h
    refine lv_iconst (v := (0 : Int32)) hx hb dX10_fileLine_19 (by decide) ?_
    exact h20 G a0 v5 a0 (5 : Int32) (0 : Int32) _ _ hG _ (lv_sub hl [1, 0] rfl) h
  · rw [if_neg c12] at h
    refine lv_iconst (v := (1 : Int32)) hx hb dX10_fileLine_15 (by decide) ?_
    refine lv_goto (tgt := 20) hx hb dX10_fileLine_16 (by decide) ?_
    exact h20 G a0 v5 a0 (5 : Int32) (1 : Int32) _ _ hG _ (lv_sub hl [1, 0] rfl) h
def f_X10_takesFile (G : gH) (a0 : Nat) : Option (gH × Int32) :=
    (g_i G a0 10 8).bind fun v1 =>
    if v1 = (1 : Int32) then
    (g_r G a0 10 15).bind fun v16 =>
    (g_r G a0 10 1).bind fun v20 =>
    (g_ald 0 G v20 (2 : Int32)).bind fun v24 =>
    (g_j G a0 10 10).bind fun v26 =>
    (f_X10_named G v16 v24 v26).bind fun v29 =>
    (g_put G a0 10 16 (.int v29)).bind fun G32 =>
    (g_i G32 a0 10 16).bind fun v38 =>
    if v38 = (-1 : Int32) then
    (g_ob G32 a0 10).bind fun u50 =>
    (f_X10_starts G32 a0 (4 : Int32) (0 : Int32)).bind fun q50 =>
    (g_z q50.2).bind fun w53 => some (q50.1, w53)
    else
    (g_ob G32 a0 10).bind fun u50 =>
    (f_X10_starts G32 a0 (4 : Int32) (1 : Int32)).bind fun q50 =>
    (g_z q50.2).bind fun w53 => some (q50.1, w53)
    else
    (g_ob G a0 10).bind fun u10 =>
    (f_X10_fails G a0 (1 : Int32)).bind fun q10 =>
    (g_z q10.2).bind fun w13 => some (q10.1, w13)
set_option maxRecDepth 20000 in
set_option maxHeartbeats 4000000 in
theorem m_X10_takesFile (l : Launch) (dd : va_G) (cT : Nat → ClassId) (lo : Nat) (G : gH) (a0 : Nat) {rz : Int32} {Gz : gH} (h : f_X10_takesFile G a0 = some (Gz, rz)) : Met l yX10_takesFile (Cond.code yX10_takesFile cX10_takesFile 1 (some .boolean) :: wsL_law) (g_rm 4 85 0 0) (va_Pc [.ref a0] (g_Pre lo dd cT G)) (va_Qi (g_is rz Gz) (g_Pre lo dd cT) (g_A lo)) 0 0 (g_A lo) := by
  refine g_start RX10 rfl (by decide) (Nat.le_of_ble_eq_true rfl) ?_
  intro p e s m below meth c hx hb hr hlocks hml hown hnm hts hK hG hlo ls hl
  have hl : lv_has ls 1 [(0, .ref a0)] := hl
  have hG : g_S lo dd cT s s.heap [] G := hG
  unfold f_X10_takesFile at h
  refine lv_aload_n hx hb dX10_takesFile_0 rfl (lv_at hl 0 rfl) ?_
  obtain ⟨v1, e1, h⟩ := Option.bind_eq_some_iff.mp h
  refine g_geti hx hb hts inlX10 hown hK hG (by rfl) 8 (by decide) qF_X10_84 e1 dX10_takesFile_1 ?_
  refine lv_iconst (v := (1 : Int32)) hx hb dX10_takesFile_4 (by decide) ?_
  refine lv_icmp_eq (tgt := 14) hx hb dX10_takesFile_5 (by decide) (fun c5 => ?_) (fun c5 => ?_)
  · rw [if_pos c5] at h
    refine lv_aload_n hx hb dX10_takesFile_14 rfl (lv_at hl 0 rfl) ?_
    refine lv_aload_n hx hb dX10_takesFile_15 rfl (lv_at hl 0 rfl) ?_
    obtain ⟨v16, e16, h⟩ := Option.bind_eq_some_iff.mp h
    refine g_getr hx hb hts inlX10 hown hK hG (by rfl) 15 (by decide) qF_X10_28 e16 dX10_takesFile_16 ?_
    refine lv_aload_n hx hb dX10_takesFile_19 rfl (lv_at hl 0 rfl) ?_
    obtain ⟨v20, e20, h⟩ := Option.bind_eq_some_iff.mp h
    refine g_getr hx hb hts inlX10 hown hK hG (by rfl) 1 (by decide) qF_X10_7 e20 dX10_takesFile_20 ?_
    refine lv_iconst (v := (2 : Int32)) hx hb dX10_takesFile_23 (by decide) ?_
    obtain ⟨v24, e24, h⟩ := Option.bind_eq_some_iff.mp h
    refine g_iald hx hb hK hG e24 dX10_takesFile_24 ?_
    refine lv_aload_n hx hb dX10_takesFile_25 rfl (lv_at hl 0 rfl) ?_
    obtain ⟨v26, e26, h⟩ := Option.bind_eq_some_iff.mp h
    refine g_getj hx hb hts inlX10 hown hK hG (by rfl) 10 (by decide) qF_X10_63 e26 dX10_takesFile_26 ?_
    obtain ⟨v29, e29, h⟩ := Option.bind_eq_some_iff.mp h
    refine g_cSi (As := [.ref v16, .int v24, .long v26]) (rest := [.ref a0]) (n := 3) hx hb hml hown hts hK hlo hG (m_X10_named l dd cT lo G v16 v24 v26 e29) qM_X10_123 qT_yX10_named qN_X10 qC_yX10_named (by decide +kernel) ⟨Nat.le_of_ble_eq_true rfl, Nat.le_of_ble_eq_true rfl⟩ rfl hl.1 rfl (Nat.le_of_ble_eq_true rfl) dX10_takesFile_29 ⟨Nat.le_of_ble_eq_true rfl, Nat.le_of_ble_eq_true rfl⟩ (fun H locs hG => ?_)
    obtain ⟨G32, i32, h⟩ := Option.bind_eq_some_iff.mp h
    refine g_putv hx hb hts inlX10 tyX10 tyX10_ok nmX10 hown hK hG (by rfl) 16 (by decide) qF_X10_127 rfl rfl rfl rfl i32 dX10_takesFile_32 (fun H locs hG => ?_)
    refine lv_aload_n hx hb dX10_takesFile_35 rfl (lv_at hl 0 rfl) ?_
    refine lv_iconst (v := (4 : Int32)) hx hb dX10_takesFile_36 (by decide) ?_
    refine lv_aload_n hx hb dX10_takesFile_37 rfl (lv_at hl 0 rfl) ?_
    obtain ⟨v38, e38, h⟩ := Option.bind_eq_some_iff.mp h
    refine g_geti hx hb hts inlX10 hown hK hG (by rfl) 16 (by decide) qF_X10_127 e38 dX10_takesFile_38 ?_
    refine lv_iconst (v := (-1 : Int32)) hx hb dX10_takesFile_41 (by decide) ?_
    refine lv_icmp_eq (tgt := 49) hx hb dX10_takesFile_42 (by decide) (fun c42 => ?_) (fun c42 => ?_)
    · rw [if_pos c42] at h
      refine lv_iconst (v := (0 : Int32)) hx hb dX10_takesFile_49 (by decide) ?_
      obtain ⟨u50, i50, h⟩ := Option.bind_eq_some_iff.mp h
      obtain ⟨q50, e50, h⟩ := Option.bind_eq_some_iff.mp h
      refine g_cVi (As := [.int (4 : Int32), .int (0 : Int32)]) (rest := []) (n := 2) hx hb hml hown hts hK hlo hG (m_X10_starts l dd cT lo G32 a0 (4 : Int32) (0 : Int32) e50) qM_X10_116 qI_yX10_starts qS_X10_yX10_starts qN_X10 qC_yX10_starts (by decide +kernel) ⟨Nat.le_of_ble_eq_true rfl, Nat.le_of_ble_eq_true rfl⟩ (by rfl) i50 rfl hl.1 rfl (Nat.le_of_ble_eq_true rfl) dX10_takesFile_50 ⟨Nat.le_of_ble_eq_true rfl, Nat.le_of_ble_eq_true rfl⟩ (fun H locs hG => ?_)
      obtain ⟨w53, e53, h⟩ := Option.bind_eq_some_iff.mp h
      obtain ⟨n53, rfl⟩ := g_z_nar e53
      obtain ⟨rfl, rfl⟩ := Prod.mk.inj (Option.some.inj h)
      exact g_zret hx hb hr hlocks hK hlo hG n53 ⟨rfl, rfl⟩ dX10_takesFile_53
    · rw [if_neg c42] at h
      refine lv_iconst (v := (1 : Int32)) hx hb dX10_takesFile_45 (by decide) ?_
      refine lv_goto (tgt := 50) hx hb dX10_takesFile_46 (by decide) ?_
      obtain ⟨u50, i50, h⟩ := Option.bind_eq_some_iff.mp h
      obtain ⟨q50, e50, h⟩ := Option.bind_eq_some_iff.mp h
      refine g_cVi (As := [.int (4 : Int32), .int (1 : Int32)]) (rest := []) (n := 2) hx hb hml hown hts hK hlo hG (m_X10_starts l dd cT lo G32 a0 (4 : Int32) (1 : Int32) e50) qM_X10_116 qI_yX10_starts qS_X10_yX10_starts qN_X10 qC_yX10_starts (by decide +kernel) ⟨Nat.le_of_ble_eq_true rfl, Nat.le_of_ble_eq_true rfl⟩ (by rfl) i50 rfl hl.1 rfl (Nat.le_of_ble_eq_true rfl) dX10_takesFile_50 ⟨Nat.le_of_ble_eq_true rfl, Nat.le_of_ble_eq_true rfl⟩ (fun H locs hG => ?_)
      obtain ⟨w53, e53, h⟩ := Option.bind_eq_some_iff.mp h
      obtain ⟨n53, rfl⟩ := g_z_nar e53
      obtain ⟨rfl, rfl⟩ := Prod.mk.inj (Option.some.inj h)
      exact g_zret hx hb hr hlocks hK hlo hG n53 ⟨rfl, rfl⟩ dX10_takesFile_53
  · rw [if_neg c5] at h
    refine lv_aload_n hx hb dX10_takesFile_8 rfl (lv_at hl 0 rfl) ?_
    refine lv_iconst (v := (1 : Int32)) hx hb dX10_takesFile_9 (by decide) ?_
    obtain ⟨u10, i10, h⟩ := Option.bind_eq_some_iff.mp h
    obtain ⟨q10, e10, h⟩ := Option.bind_eq_some_iff.mp h
    refine g_cVi (As := [.int (1 : Int32)]) (rest := []) (n := 1) hx hb hml hown hts hK hlo hG (m_X10_fails l dd cT lo G a0 (1 : Int32) e10) qM_X10_106 qI_yX10_fails qS_X10_yX10_fails qN_X10 qC_yX10_fails (by decide +kernel) ⟨Nat.le_of_ble_eq_true rfl, Nat.le_of_ble_eq_true rfl⟩ (by rfl) i10 rfl hl.1 rfl (Nat.le_of_ble_eq_true rfl) dX10_takesFile_10 ⟨Nat.le_of_ble_eq_true rfl, Nat.le_of_ble_eq_true rfl⟩ (fun H locs hG => ?_)
    obtain ⟨w13, e13, h⟩ := Option.bind_eq_some_iff.mp h
    obtain ⟨n13, rfl⟩ := g_z_nar e13
    obtain ⟨rfl, rfl⟩ := Prod.mk.inj (Option.some.inj h)
    exact g_zret hx hb hr hlocks hK hlo hG n13 ⟨rfl, rfl⟩ dX10_takesFile_13
def f_X10_head_J49 (G : gH) (ba0 : Nat) (z0 : Int32) : Option (gH × Int32) :=
    (g_r G ba0 10 1).bind fun v51 =>
    (g_i G ba0 10 13).bind fun v56 =>
    (g_ast 0 G v51 (0 : Int32) v56).bind fun G59 =>
    (g_ob G59 ba0 10).bind fun u63 =>
    (f_X10_takes G59 ba0 (0 : Int32) z0).bind fun q63 =>
    if q63.2 = 0 then
    some (q63.1, (0 : Int32))
    else
    (g_r q63.1 ba0 10 1).bind fun v72 =>
    (g_i q63.1 ba0 10 13).bind fun v77 =>
    (g_ast 0 q63.1 v72 (1 : Int32) v77).bind fun G80 =>
    (g_ob G80 ba0 10).bind fun u82 =>
    (f_X10_closes G80 ba0).bind fun q82 =>
    (g_z q82.2).bind fun w85 => some (q82.1, w85)
def f_X10_head (G : gH) (a0 : Nat) : Option (gH × Int32) :=
    (g_ob G a0 10).bind fun u5 =>
    (f_X10_isWord G a0 0).bind fun v5 =>
    (g_ob G a0 10).bind fun u8 =>
    (f_X10_starts G a0 (1 : Int32) v5).bind fun q8 =>
    if q8.2 = 0 then
    some (q8.1, (0 : Int32))
    else
    (g_ob q8.1 a0 10).bind fun u19 =>
    (f_X10_takes q8.1 a0 (8 : Int32) (96 : Int32)).bind fun q19 =>
    if q19.2 = 0 then
    some (q19.1, (0 : Int32))
    else
    (g_i q19.1 a0 10 13).bind fun v28 =>
    if (16 : Int32) ≤ (v28 / (2 : Int32)) then
    f_X10_head_J49 q19.1 a0 (16 : Int32)
    else
    (g_i q19.1 a0 10 13).bind fun v39 =>
    f_X10_head_J49 q19.1 a0 (v39 / (2 : Int32))
set_option maxRecDepth 20000 in
set_option maxHeartbeats 4000000 in
theorem m_X10_head (l : Launch) (dd : va_G) (cT : Nat → ClassId) (lo : Nat) (G : gH) (a0 : Nat) {rz : Int32} {Gz : gH} (h : f_X10_head G a0 = some (Gz, rz)) : Met l yX10_head (Cond.code yX10_head cX10_head 2 (some .boolean) :: wsL_law) (g_rm 6 134 0 0) (va_Pc [.ref a0] (g_Pre lo dd cT G)) (va_Qi (g_is rz Gz) (g_Pre lo dd cT) (g_A lo)) 0 0 (g_A lo) := by
  refine g_start RX10 rfl (by decide) (Nat.le_of_ble_eq_true rfl) ?_
  intro p e s m below meth c hx hb hr hlocks hml hown hnm hts hK hG hlo ls hl
  have hl : lv_has ls 2 [(0, .ref a0)] := hl
  have hG : g_S lo dd cT s s.heap [] G := hG
  have h49 : ∀ (G : gH) (ba0 : Nat) (z0 : Int32), ∀ (H : Heap) (locs : List Loc), g_S lo dd cT s H locs G → ∀ ls : Array Slot, lv_has ls 2 [(0, .ref ba0)] → f_X10_head_J49 G ba0 z0 = some (Gz, rz) → W p l e (g_rm 6 134 0 0) s m ([.ref a0] : List Value).toArray below meth c H locs 0 0 (MQ below (va_Qi (g_is rz Gz) (g_Pre lo dd cT) (g_A lo)) ([.ref a0] : List Value).toArray s 0 0 (g_A lo)) (F0 m 49 ls [.int z0]) := by
    intro G ba0 z0 H locs hG ls hl h
    unfold f_X10_head_J49 at h
    refine lv_istore_n (lv' := [(1, .int z0), (0, .ref ba0)]) hx hb dX10_head_49 rfl hl (by decide) rfl (fun ls hl => ?_)
    refine lv_aload_n hx hb dX10_head_50 rfl (lv_at hl 1 rfl) ?_
    obtain ⟨v51, e51, h⟩ := Option.bind_eq_some_iff.mp h
    refine g_getr hx hb hts inlX10 hown hK hG (by rfl) 1 (by decide) qF_X10_7 e51 dX10_head_51 ?_
    refine lv_iconst (v := (0 : Int32)) hx hb dX10_head_54 (by decide) ?_
    refine lv_aload_n hx hb dX10_head_55 rfl (lv_at hl 1 rfl) ?_
    obtain ⟨v56, e56, h⟩ := Option.bind_eq_some_iff.mp h
    refine g_geti hx hb hts inlX10 hown hK hG (by rfl) 13 (by decide) qF_X10_113 e56 dX10_head_56 ?_
    obtain ⟨G59, e59, h⟩ := Option.bind_eq_some_iff.mp h
    refine g_iast hx hb hK hG e59 dX10_head_59 (fun H locs hG => ?_)
    refine lv_aload_n hx hb dX10_head_60 rfl (lv_at hl 1 rfl) ?_
    refine lv_iconst (v := (0 : Int32)) hx hb dX10_head_61 (by decide) ?_
    refine lv_iload_n hx hb dX10_head_62 rfl (lv_at hl 0 rfl) ?_
    obtain ⟨u63, i63, h⟩ := Option.bind_eq_some_iff.mp h
    obtain ⟨q63, e63, h⟩ := Option.bind_eq_some_iff.mp h
    refine g_cVi (As := [.int (0 : Int32), .int z0]) (rest := []) (n := 2) hx hb hml hown hts hK hlo hG (m_X10_takes l dd cT lo G59 ba0 (0 : Int32) z0 e63) qM_X10_120 qI_yX10_takes qS_X10_yX10_takes qN_X10 qC_yX10_takes (by decide +kernel) ⟨Nat.le_of_ble_eq_true rfl, Nat.le_of_ble_eq_true rfl⟩ (by rfl) i63 rfl hl.1 rfl (Nat.le_of_ble_eq_true rfl) dX10_head_63 ⟨Nat.le_of_ble_eq_true rfl, Nat.le_of_ble_eq_true rfl⟩ (fun H locs hG => ?_)
    refine lv_if_ne (tgt := 71) hx hb dX10_head_66 (by decide) (fun c66 => ?_) (fun c66 => ?_)
    · rw [if_neg c66] at h
      refine lv_aload_n hx hb dX10_head_71 rfl (lv_at hl 1 rfl) ?_
      obtain ⟨v72, e72, h⟩ := Option.bind_eq_some_iff.mp h
      refine g_getr hx hb hts inlX10 hown hK hG (by rfl) 1 (by decide) qF_X10_7 e72 dX10_head_72 ?_
      refine lv_iconst (v := (1 : Int32)) hx hb dX10_head_75 (by decide) ?_
      refine lv_aload_n hx hb dX10_head_76 rfl (lv_at hl 1 rfl) ?_
      obtain ⟨v77, e77, h⟩ := Option.bind_eq_some_iff.mp h
      refine g_geti hx hb hts inlX10 hown hK hG (by rfl) 13 (by decide) qF_X10_113 e77 dX10_head_77 ?_
      obtain ⟨G80, e80, h⟩ := Option.bind_eq_some_iff.mp h
      refine g_iast hx hb hK hG e80 dX10_head_80 (fun H locs hG => ?_)
      refine lv_aload_n hx hb dX10_head_81 rfl (lv_at hl 1 rfl) ?_
      obtain ⟨u82, i82, h⟩ := Option.bind_eq_some_iff.mp h
      obtain ⟨q82, e82, h⟩ := Option.bind_eq_some_iff.mp h
      refine g_cVi (As := []) (rest := []) (n := 0) hx hb hml hown hts hK hlo hG (m_X10_closes l dd cT lo G80 ba0 e82) qM_X10_185 qI_yX10_closes qS_X10_yX10_closes qN_X10 qC_yX10_closes (by decide +kernel) ⟨Nat.le_of_ble_eq_true rfl, Nat.le_of_ble_eq_true rfl⟩ (by rfl) i82 rfl hl.1 rfl (Nat.le_of_ble_eq_true rfl) dX10_head_82 ⟨Nat.le_of_ble_eq_true rfl, Nat.le_of_ble_eq_true rfl⟩ (fun H locs hG => ?_)
      obtain ⟨w85, e85, h⟩ := Option.bind_eq_some_iff.mp h
      obtain ⟨n85, rfl⟩ := g_z_nar e85
      obtain ⟨rfl, rfl⟩ := Prod.mk.inj (Option.some.inj h)
      exact g_zret hx hb hr hlocks hK hlo hG n85 ⟨rfl, rfl⟩ dX10_head_85
    · rw [if_pos c66] at h
      refine lv_iconst (v := (0 : Int32)) hx hb dX10_head_69 (by decide) ?_
      obtain ⟨rfl, rfl⟩ := Prod.mk.inj (Option.some.inj h)
      exact g_zret hx hb hr hlocks hK hlo hG rfl ⟨rfl, rfl⟩ dX10_head_70
  unfold f_X10_head at h
  refine lv_aload_n hx hb dX10_head_0 rfl (lv_at hl 0 rfl) ?_
  refine lv_iconst (v := (1 : Int32)) hx hb dX10_head_1 (by decide) ?_
  refine lv_aload_n hx hb dX10_head_2 rfl (lv_at hl 0 rfl) ?_
  refine va_ldcS (q := dd.2 100 0) hx hb hown (hG.2.2.2.1 _ (List.mem_of_getElem? (i := 11) rfl)) dX10_head_3 ?_
  obtain ⟨u5, i5, h⟩ := Option.bind_eq_some_iff.mp h
  obtain ⟨v5, e5, h⟩ := Option.bind_eq_some_iff.mp h
  refine g_cVi (As := [.ref (dd.2 100 0)]) (rest := [.int (1 : Int32), .ref a0]) (n := 1) hx hb hml hown hts hK hlo hG (m_X10_isWord l dd cT lo G a0 0 e5) qM_X10_156 qI_yX10_isWord qS_X10_yX10_isWord qN_X10 qC_yX10_isWord (by decide +kernel) ⟨Nat.le_of_ble_eq_true rfl, Nat.le_of_ble_eq_true rfl⟩ (by rfl) i5 rfl hl.1 rfl (Nat.le_of_ble_eq_true rfl) dX10_head_5 ⟨Nat.le_of_ble_eq_true rfl, Nat.le_of_ble_eq_true rfl⟩ (fun H locs hG => ?_)
  obtain ⟨u8, i8, h⟩ := Option.bind_eq_some_iff.mp h
  obtain ⟨q8, e8, h⟩ := Option.bind_eq_some_iff.mp h
  refine g_cVi (As := [.int (1 : Int32), .int v5]) (rest := []) (n := 2) hx hb hml hown hts hK hlo hG (m_X10_starts l dd cT lo G a0 (1 : Int32) v5 e8) qM_X10_116 qI_yX10_starts qS_X10_yX10_starts qN_X10 qC_yX10_starts (by decide +kernel) ⟨Nat.le_of_ble_eq_true rfl, Nat.le_of_ble_eq_true rfl⟩ (by rfl) i8 rfl hl.1 rfl (Nat.le_of_ble_eq_true rfl) dX10_head_8 ⟨Nat.le_of_ble_eq_true rfl, Nat.le_of_ble_eq_true rfl⟩ (fun H locs hG => ?_)
  refine lv_if_eq (tgt := 25) hx hb dX10_head_11 (by decide) (fun c11 => ?_) (fun c11 => ?_)
  · rw [if_pos c11] at h
    refine lv_iconst (v := (0 : Int32)) hx hb dX10_head_25 (by decide) ?_
    obtain ⟨rfl, rfl⟩ := Prod.mk.inj (Option.some.inj h)
    exact g_zret hx hb hr hlocks hK hlo hG rfl ⟨rfl, rfl⟩ dX10_head_26
  · rw [if_neg c11] at h
    refine lv_aload_n hx hb dX10_head_14 rfl (lv_at hl 0 rfl) ?_
    refine lv_bipush (v := (8 : Int32)) hx hb dX10_head_15 (by decide) ?_
    refine lv_bipush (v := (96 : Int32)) hx hb dX10_head_17 (by decide) ?_
    obtain ⟨u19, i19, h⟩ := Option.bind_eq_some_iff.mp h
    obtain ⟨q19, e19, h⟩ := Option.bind_eq_some_iff.mp h
    refine g_cVi (As := [.int (8 : Int32), .int (96 : Int32)]) (rest := []) (n := 2) hx hb hml hown hts hK hlo hG (m_X10_takes l dd cT lo q8.1 a0 (8 : Int32) (96 : Int32) e19) qM_X10_120 qI_yX10_takes qS_X10_yX10_takes qN_X10 qC_yX10_takes (by decide +kernel) ⟨Nat.le_of_ble_eq_true rfl, Nat.le_of_ble_eq_true rfl⟩ (by rfl) i19 rfl hl.1 rfl (Nat.le_of_ble_eq_true rfl) dX10_head_19 ⟨Nat.le_of_ble_eq_true rfl, Nat.le_of_ble_eq_true rfl⟩ (fun H locs hG => ?_)
    refine lv_if_ne (tgt := 27) hx hb dX10_head_22 (by decide) (fun c22 => ?_) (fun c22 => ?_)
    · rw [if_neg c22] at h
      refine lv_aload_n hx hb dX10_head_27 rfl (lv_at hl 0 rfl) ?_
      obtain ⟨v28, e28, h⟩ := Option.bind_eq_some_iff.mp h
      refine g_geti hx hb hts inlX10 hown hK hG (by rfl) 13 (by decide) qF_X10_113 e28 dX10_head_28 ?_
      refine lv_iconst (v := (2 : Int32)) hx hb dX10_head_31 (by decide) ?_
      refine lv_idiv hx hb dX10_head_32 (by decide) ?_
      refine lv_bipush (v := (16 : Int32)) hx hb dX10_head_33 (by decide) ?_
      refine lv_icmp_ge (tgt := 47) hx hb dX10_head_35 (by decide) (fun c35 => ?_) (fun c35 => ?_)
      · rw [if_pos c35] at h
        refine lv_bipush (v := (16 : Int32)) hx hb dX10_head_47 (by decide) ?_
        exact h49 q19.1 a0 (16 : Int32) _ _ hG _ (lv_sub hl [0] rfl) h
      · rw [if_neg c35] at h
        refine lv_aload_n hx hb dX10_head_38 rfl (lv_at hl 0 rfl) ?_
        obtain ⟨v39, e39, h⟩ := Option.bind_eq_some_iff.mp h
        refine g_geti hx hb hts inlX10 hown hK hG (by rfl) 13 (by decide) qF_X10_113 e39 dX10_head_39 ?_
        refine lv_iconst (v := (2 : Int32)) hx hb dX10_head_42 (by decide) ?_
        refine lv_idiv hx hb dX10_head_43 (by decide) ?_
        refine lv_goto (tgt := 49) hx hb dX10_head_44 (by decide) ?_
        exact h49 q19.1 a0 (v39 / (2 : Int32)) _ _ hG _ (lv_sub hl [0] rfl) h
    · rw [if_pos c22] at h
      refine lv_iconst (v := (0 : Int32)) hx hb dX10_head_25 (by decide) ?_
      obtain ⟨rfl, rfl⟩ := Prod.mk.inj (Option.some.inj h)
      exact g_zret hx hb hr hlocks hK hlo hG rfl ⟨rfl, rfl⟩ dX10_head_26
def f_X10_errorPosition (G : gH) (a0 : Nat) : Option (gH × Int32) :=
    (g_put G a0 10 0 (.int (0 : Int32))).bind fun G2 =>
    (g_i G2 a0 10 12).bind fun v6 =>
    some (G2, v6)
set_option maxRecDepth 20000 in
set_option maxHeartbeats 4000000 in
theorem m_X10_errorPosition (l : Launch) (dd : va_G) (cT : Nat → ClassId) (lo : Nat) (G : gH) (a0 : Nat) {rz : Int32} {Gz : gH} (h : f_X10_errorPosition G a0 = some (Gz, rz)) : Met l yX10_errorPosition (Cond.code yX10_errorPosition cX10_errorPosition 1 (some .int) :: wsL_law) (g_rm 0 0 0 0) (va_Pc [.ref a0] (g_Pre lo dd cT G)) (va_Qi (g_is rz Gz) (g_Pre lo dd cT) (g_A lo)) 0 0 (g_A lo) := by
  refine g_start RX10 rfl (by decide) (Nat.le_of_ble_eq_true rfl) ?_
  intro p e s m below meth c hx hb hr hlocks hml hown hnm hts hK hG hlo ls hl
  have hl : lv_has ls 1 [(0, .ref a0)] := hl
  have hG : g_S lo dd cT s s.heap [] G := hG
  unfold f_X10_errorPosition at h
  refine lv_aload_n hx hb dX10_errorPosition_0 rfl (lv_at hl 0 rfl) ?_
  refine lv_iconst (v := (0 : Int32)) hx hb dX10_errorPosition_1 (by decide) ?_
  obtain ⟨G2, i2, h⟩ := Option.bind_eq_some_iff.mp h
  refine g_putv hx hb hts inlX10 tyX10 tyX10_ok nmX10 hown hK hG (by rfl) 0 (by decide) qF_X10_50 rfl rfl rfl rfl i2 dX10_errorPosition_2 (fun H locs hG => ?_)
  refine lv_aload_n hx hb dX10_errorPosition_5 rfl (lv_at hl 0 rfl) ?_
  obtain ⟨v6, e6, h⟩ := Option.bind_eq_some_iff.mp h
  refine g_geti hx hb hts inlX10 hown hK hG (by rfl) 12 (by decide) qF_X10_21 e6 dX10_errorPosition_6 ?_
  obtain ⟨rfl, rfl⟩ := Prod.mk.inj (Option.some.inj h)
  exact g_iret hx hb hr hlocks hK hlo hG ⟨rfl, rfl⟩ dX10_errorPosition_9
def f_X10_find_L37 : Nat → gH → Nat → Int32 → Option (gH × Int32)
  | 0, _, _, _ => none
  | n + 1, G, ba0, bx1 =>
    (g_i G ba0 10 7).bind fun v39 =>
    (g_ob G ba0 10).bind fun u42 =>
    (f_X10_byteAt G ba0 v39).bind fun v42 =>
    if v42 = (32 : Int32) then
    (g_i G ba0 10 7).bind fun v52 =>
    (g_put G ba0 10 7 (.int (v52 + (1 : Int32)))).bind fun G57 =>
    f_X10_find_L37 n G57 ba0 bx1
    else
    if bx1 = 0 then
    some (G, (-1 : Int32))
    else
    if (8 : Int32) < bx1 then
    some (G, (-1 : Int32))
    else
    (g_i G ba0 10 7).bind fun v74 =>
    (g_i G ba0 10 5).bind fun v78 =>
    if v78 ≤ v74 then
    (g_r G ba0 10 2).bind fun v89 =>
    (g_r G ba0 10 1).bind fun v93 =>
    (g_ald 0 G v93 (2 : Int32)).bind fun v97 =>
    (g_j G ba0 10 10).bind fun v99 =>
    (f_X10_named G v89 v97 v99).bind fun v102 =>
    some (G, v102)
    else
    some (G, (-1 : Int32))
def f_X10_find (G : gH) (a0 : Nat) : Option (gH × Int32) :=
    (g_put G a0 10 0 (.int (0 : Int32))).bind fun G2 =>
    (g_i G2 a0 10 4).bind fun v7 =>
    (g_put G2 a0 10 5 (.int v7)).bind fun G10 =>
    (g_put G10 a0 10 4 (.int (0 : Int32))).bind fun G15 =>
    (g_put G15 a0 10 6 (.int (0 : Int32))).bind fun G20 =>
    (g_put G20 a0 10 7 (.int (0 : Int32))).bind fun G25 =>
    (g_ob G25 a0 10).bind fun u29 =>
    (f_X10_takesLetters G25 a0).bind fun G29 =>
    (g_i G29 a0 10 7).bind fun v33 =>
    f_X10_find_L37 g_N G29 a0 v33
set_option maxRecDepth 20000 in
set_option maxHeartbeats 4000000 in
theorem m_X10_find (l : Launch) (dd : va_G) (cT : Nat → ClassId) (lo : Nat) (G : gH) (a0 : Nat) {rz : Int32} {Gz : gH} (h : f_X10_find G a0 = some (Gz, rz)) : Met l yX10_find (Cond.code yX10_find cX10_find 2 (some .int) :: wsL_law) (g_rm 2 42 0 0) (va_Pc [.ref a0] (g_Pre lo dd cT G)) (va_Qi (g_is rz Gz) (g_Pre lo dd cT) (g_A lo)) 0 0 (g_A lo) := by
  refine g_start RX10 rfl (by decide) (Nat.le_of_ble_eq_true rfl) ?_
  intro p e s m below meth c hx hb hr hlocks hml hown hnm hts hK hG hlo ls hl
  have hl : lv_has ls 2 [(0, .ref a0)] := hl
  have hG : g_S lo dd cT s s.heap [] G := hG
  have h37 : ∀ n : Nat, ∀ (G : gH) (ba0 : Nat) (bx1 : Int32), ∀ (H : Heap) (locs : List Loc), g_S lo dd cT s H locs G → ∀ ls : Array Slot, lv_has ls 2 [(0, .ref ba0), (1, .int bx1)] → f_X10_find_L37 n G ba0 bx1 = some (Gz, rz) → W p l e (g_rm 2 42 0 0) s m ([.ref a0] : List Value).toArray below meth c H locs 0 0 (MQ below (va_Qi (g_is rz Gz) (g_Pre lo dd cT) (g_A lo)) ([.ref a0] : List Value).toArray s 0 0 (g_A lo)) (F0 m 37 ls []) := by
    intro n
    induction n with
    | zero =>
      intro G ba0 bx1 H locs hG ls hl h
      cases (show (none : Option (gH × Int32)) = some (Gz, rz) from h)
    | succ n ih =>
      intro G ba0 bx1 H locs hG ls hl h
      rw [f_X10_find_L37] at h
      refine lv_aload_n hx hb dX10_find_37 rfl (lv_at hl 0 rfl) ?_
      refine lv_aload_n hx hb dX10_find_38 rfl (lv_at hl 0 rfl) ?_
      obtain ⟨v39, e39, h⟩ := Option.bind_eq_some_iff.mp h
      refine g_geti hx hb hts inlX10 hown hK hG (by rfl) 7 (by decide) qF_X10_67 e39 dX10_find_39 ?_
      obtain ⟨u42, i42, h⟩ := Option.bind_eq_some_iff.mp h
      obtain ⟨v42, e42, h⟩ := Option.bind_eq_some_iff.mp h
      refine g_cVi (As := [.int v39]) (rest := []) (n := 1) hx hb hml hown hts hK hlo hG (m_X10_byteAt l dd cT lo G ba0 v39 e42) qM_X10_70 qI_yX10_byteAt qS_X10_yX10_byteAt qN_X10 qC_yX10_byteAt (by decide +kernel) ⟨Nat.le_of_ble_eq_true rfl, Nat.le_of_ble_eq_true rfl⟩ (by rfl) i42 rfl hl.1 rfl (Nat.le_of_ble_eq_true rfl) dX10_find_42 ⟨Nat.le_of_ble_eq_true rfl, Nat.le_of_ble_eq_true rfl⟩ (fun H locs hG => ?_)
      refine lv_bipush (v := (32 : Int32)) hx hb dX10_find_45 (by decide) ?_
      refine lv_icmp_ne (tgt := 63) hx hb dX10_find_47 (by decide) (fun c47 => ?_) (fun c47 => ?_)
      · rw [if_neg c47] at h
        refine lv_iload_n hx hb dX10_find_63 rfl (lv_at hl 1 rfl) ?_
        refine lv_if_eq (tgt := 84) hx hb dX10_find_64 (by decide) (fun c64 => ?_) (fun c64 => ?_)
        · rw [if_pos c64] at h
          refine lv_iconst (v := (-1 : Int32)) hx hb dX10_find_84 (by decide) ?_
          refine lv_goto (tgt := 105) hx hb dX10_find_85 (by decide) ?_
          obtain ⟨rfl, rfl⟩ := Prod.mk.inj (Option.some.inj h)
          exact g_iret hx hb hr hlocks hK hlo hG ⟨rfl, rfl⟩ dX10_find_105
        · rw [if_neg c64] at h
          refine lv_iload_n hx hb dX10_find_67 rfl (lv_at hl 1 rfl) ?_
          refine lv_bipush (v := (8 : Int32)) hx hb dX10_find_68 (by decide) ?_
          refine lv_icmp_gt (tgt := 84) hx hb dX10_find_70 (by decide) (fun c70 => ?_) (fun c70 => ?_)
          · rw [if_pos c70] at h
            refine lv_iconst (v := (-1 : Int32)) hx hb dX10_find_84 (by decide) ?_
            refine lv_goto (tgt := 105) hx hb dX10_find_85 (by decide) ?_
            obtain ⟨rfl, rfl⟩ := Prod.mk.inj (Option.some.inj h)
            exact g_iret hx hb hr hlocks hK hlo hG ⟨rfl, rfl⟩ dX10_find_105
          · rw [if_neg c70] at h
            refine lv_aload_n hx hb dX10_find_73 rfl (lv_at hl 0 rfl) ?_
            obtain ⟨v74, e74, h⟩ := Option.bind_eq_some_iff.mp h
            refine g_geti hx hb hts inlX10 hown hK hG (by rfl) 7 (by decide) qF_X10_67 e74 dX10_find_74 ?_
            refine lv_aload_n hx hb dX10_find_77 rfl (lv_at hl 0 rfl) ?_
            obtain ⟨v78, e78, h⟩ := Option.bind_eq_some_iff.mp h
            refine g_geti hx hb hts inlX10 hown hK hG (by rfl) 5 (by decide) qF_X10_60 e78 dX10_find_78 ?_
            refine lv_icmp_ge (tgt := 88) hx hb dX10_find_81 (by decide) (fun c81 => ?_) (fun c81 => ?_)
            · rw [if_pos c81] at h
              refine lv_aload_n hx hb dX10_find_88 rfl (lv_at hl 0 rfl) ?_
              obtain ⟨v89, e89, h⟩ := Option.bind_eq_some_iff.mp h
              refine g_getr hx hb hts inlX10 hown hK hG (by rfl) 2 (by decide) qF_X10_13 e89 dX10_find_89 ?_
              refine lv_aload_n hx hb dX10_find_92 rfl (lv_at hl 0 rfl) ?_
              obtain ⟨v93, e93, h⟩ := Option.bind_eq_some_iff.mp h
              refine g_getr hx hb hts inlX10 hown hK hG (by rfl) 1 (by decide) qF_X10_7 e93 dX10_find_93 ?_
              refine lv_iconst (v := (2 : Int32)) hx hb dX10_find_96 (by decide) ?_
              obtain ⟨v97, e97, h⟩ := Option.bind_eq_some_iff.mp h
              refine g_iald hx hb hK hG e97 dX10_find_97 ?_
              refine lv_aload_n hx hb dX10_find_98 rfl (lv_at hl 0 rfl) ?_
              obtain ⟨v99, e99, h⟩ := Option.bind_eq_some_iff.mp h
              refine g_getj hx hb hts inlX10 hown hK hG (by rfl) 10 (by decide) qF_X10_63 e99 dX10_find_99 ?_
              obtain ⟨v102, e102, h⟩ := Option.bind_eq_some_iff.mp h
              refine g_cSi (As := [.ref v89, .int v97, .long v99]) (rest := []) (n := 3) hx hb hml hown hts hK hlo hG (m_X10_named l dd cT lo G v89 v97 v99 e102) qM_X10_123 qT_yX10_named qN_X10 qC_yX10_named (by decide +kernel) ⟨Nat.le_of_ble_eq_true rfl, Nat.le_of_ble_eq_true rfl⟩ rfl hl.1 rfl (Nat.le_of_ble_eq_true rfl) dX10_find_102 ⟨Nat.le_of_ble_eq_true rfl, Nat.le_of_ble_eq_true rfl⟩ (fun H locs hG => ?_)
              obtain ⟨rfl, rfl⟩ := Prod.mk.inj (Option.some.inj h)
              exact g_iret hx hb hr hlocks hK hlo hG ⟨rfl, rfl⟩ dX10_find_105
            · rw [if_neg c81] at h
              refine lv_iconst (v := (-1 : Int32)) hx hb dX10_find_84 (by decide) ?_
              refine lv_goto (tgt := 105) hx hb dX10_find_85 (by decide) ?_
              obtain ⟨rfl, rfl⟩ := Prod.mk.inj (Option.some.inj h)
              exact g_iret hx hb hr hlocks hK hlo hG ⟨rfl, rfl⟩ dX10_find_105
      · rw [if_pos c47] at h
        refine lv_aload_n hx hb dX10_find_50 rfl (lv_at hl 0 rfl) ?_
        refine lv_dup hx hb dX10_find_51 rfl ?_
        obtain ⟨v52, e52, h⟩ := Option.bind_eq_some_iff.mp h
        refine g_geti hx hb hts inlX10 hown hK hG (by rfl) 7 (by decide) qF_X10_67 e52 dX10_find_52 ?_
        refine lv_iconst (v := (1 : Int32)) hx hb dX10_find_55 (by decide) ?_
        refine lv_iadd hx hb dX10_find_56 ?_
        obtain ⟨G57, i57, h⟩ := Option.bind_eq_some_iff.mp h
        refine g_putv hx hb hts inlX10 tyX10 tyX10_ok nmX10 hown hK hG (by rfl) 7 (by decide) qF_X10_67 rfl rfl rfl rfl i57 dX10_find_57 (fun H locs hG => ?_)
        refine lv_goto (tgt := 37) hx hb dX10_find_60 (by decide) ?_
        exact ih G57 ba0 bx1 _ _ hG _ (lv_sub hl [0, 1] rfl) h
  unfold f_X10_find at h
  refine lv_aload_n hx hb dX10_find_0 rfl (lv_at hl 0 rfl) ?_
  refine lv_iconst (v := (0 : Int32)) hx hb dX10_find_1 (by decide) ?_
  obtain ⟨G2, i2, h⟩ := Option.bind_eq_some_iff.mp h
  refine g_putv hx hb hts inlX10 tyX10 tyX10_ok nmX10 hown hK hG (by rfl) 0 (by decide) qF_X10_50 rfl rfl rfl rfl i2 dX10_find_2 (fun H locs hG => ?_)
  refine lv_aload_n hx hb dX10_find_5 rfl (lv_at hl 0 rfl) ?_
  refine lv_aload_n hx hb dX10_find_6 rfl (lv_at hl 0 rfl) ?_
  obtain ⟨v7, e7, h⟩ := Option.bind_eq_some_iff.mp h
  refine g_geti hx hb hts inlX10 hown hK hG (by rfl) 4 (by decide) qF_X10_53 e7 dX10_find_7 ?_
  obtain ⟨G10, i10, h⟩ := Option.bind_eq_some_iff.mp h
  refine g_putv hx hb hts inlX10 tyX10 tyX10_ok nmX10 hown hK hG (by rfl) 5 (by decide) qF_X10_60 rfl rfl rfl rfl i10 dX10_find_10 (fun H locs hG => ?_)
  refine lv_aload_n hx hb dX10_find_13 rfl (lv_at hl 0 rfl) ?_
  refine lv_iconst (v := (0 : Int32)) hx hb dX10_find_14 (by decide) ?_
  obtain ⟨G15, i15, h⟩ := Option.bind_eq_some_iff.mp h
  refine g_putv hx hb hts inlX10 tyX10 tyX10_ok nmX10 hown hK hG (by rfl) 4 (by decide) qF_X10_53 rfl rfl rfl rfl i15 dX10_find_15 (fun H locs hG => ?_)
  refine lv_aload_n hx hb dX10_find_18 rfl (lv_at hl 0 rfl) ?_
  refine lv_iconst (v := (0 : Int32)) hx hb dX10_find_19 (by decide) ?_
  obtain ⟨G20, i20, h⟩ := Option.bind_eq_some_iff.mp h
  refine g_putv hx hb hts inlX10 tyX10 tyX10_ok nmX10 hown hK hG (by rfl) 6 (by decide) qF_X10_78 rfl rfl rfl rfl i20 dX10_find_20 (fun H locs hG => ?_)
  refine lv_aload_n hx hb dX10_find_23 rfl (lv_at hl 0 rfl) ?_
  refine lv_iconst (v := (0 : Int32)) hx hb dX10_find_24 (by decide) ?_
  obtain ⟨G25, i25, h⟩ := Option.bind_eq_some_iff.mp h
  refine g_putv hx hb hts inlX10 tyX10 tyX10_ok nmX10 hown hK hG (by rfl) 7 (by decide) qF_X10_67 rfl rfl rfl rfl i25 dX10_find_25 (fun H locs hG => ?_)
  refine lv_aload_n hx hb dX10_find_28 rfl (lv_at hl 0 rfl) ?_
  obtain ⟨u29, i29, h⟩ := Option.bind_eq_some_iff.mp h
  obtain ⟨G29, e29, h⟩ := Option.bind_eq_some_iff.mp h
  refine g_cVv (As := []) (rest := []) (n := 0) hx hb hml hown hts hK hlo hG (m_X10_takesLetters l dd cT lo G25 a0 e29) qM_X10_87 qI_yX10_takesLetters qS_X10_yX10_takesLetters qN_X10 qC_yX10_takesLetters (by decide +kernel) ⟨Nat.le_of_ble_eq_true rfl, Nat.le_of_ble_eq_true rfl⟩ (by rfl) i29 rfl hl.1 rfl (Nat.le_of_ble_eq_true rfl) dX10_find_29 ⟨Nat.le_of_ble_eq_true rfl, Nat.le_of_ble_eq_true rfl⟩ (fun H locs hG => ?_)
  refine lv_aload_n hx hb dX10_find_32 rfl (lv_at hl 0 rfl) ?_
  obtain ⟨v33, e33, h⟩ := Option.bind_eq_some_iff.mp h
  refine g_geti hx hb hts inlX10 hown hK hG (by rfl) 7 (by decide) qF_X10_67 e33 dX10_find_33 ?_
  refine lv_istore_n (lv' := [(1, .int v33), (0, .ref a0)]) hx hb dX10_find_36 rfl hl (by decide) rfl (fun ls hl => ?_)
  exact h37 g_N G29 a0 v33 _ _ hG _ (lv_sub hl [1, 0] rfl) h
def f_X10_mainMany (G : gH) (a0 : Nat) : Option Int32 :=
    (g_r G a0 10 1).bind fun v1 =>
    (g_ald 0 G v1 (0 : Int32)).bind fun v5 =>
    (g_r G a0 10 1).bind fun v7 =>
    (g_ald 0 G v7 (1 : Int32)).bind fun v11 =>
    some (v5 - v11)
set_option maxRecDepth 20000 in
set_option maxHeartbeats 4000000 in
theorem m_X10_mainMany (l : Launch) (dd : va_G) (cT : Nat → ClassId) (lo : Nat) (G : gH) (a0 : Nat) {rz : Int32} (h : f_X10_mainMany G a0 = some rz) : Met l yX10_mainMany (Cond.code yX10_mainMany cX10_mainMany 1 (some .int) :: wsL_law) (g_rm 0 0 0 0) (va_Pc [.ref a0] (g_Pre lo dd cT G)) (va_Qi (g_is rz G) (g_Pre lo dd cT) (g_A lo)) 0 0 (g_A lo) := by
  refine g_start RX10 rfl (by decide) (Nat.le_of_ble_eq_true rfl) ?_
  intro p e s m below meth c hx hb hr hlocks hml hown hnm hts hK hG hlo ls hl
  have hl : lv_has ls 1 [(0, .ref a0)] := hl
  have hG : g_S lo dd cT s s.heap [] G := hG
  unfold f_X10_mainMany at h
  refine lv_aload_n hx hb dX10_mainMany_0 rfl (lv_at hl 0 rfl) ?_
  obtain ⟨v1, e1, h⟩ := Option.bind_eq_some_iff.mp h
  refine g_getr hx hb hts inlX10 hown hK hG (by rfl) 1 (by decide) qF_X10_7 e1 dX10_mainMany_1 ?_
  refine lv_iconst (v := (0 : Int32)) hx hb dX10_mainMany_4 (by decide) ?_
  obtain ⟨v5, e5, h⟩ := Option.bind_eq_some_iff.mp h
  refine g_iald hx hb hK hG e5 dX10_mainMany_5 ?_
  refine lv_aload_n hx hb dX10_mainMany_6 rfl (lv_at hl 0 rfl) ?_
  obtain ⟨v7, e7, h⟩ := Option.bind_eq_some_iff.mp h
  refine g_getr hx hb hts inlX10 hown hK hG (by rfl) 1 (by decide) qF_X10_7 e7 dX10_mainMany_7 ?_
  refine lv_iconst (v := (1 : Int32)) hx hb dX10_mainMany_10 (by decide) ?_
  obtain ⟨v11, e11, h⟩ := Option.bind_eq_some_iff.mp h
  refine g_iald hx hb hK hG e11 dX10_mainMany_11 ?_
  refine lv_isub hx hb dX10_mainMany_12 ?_
  obtain rfl := Option.some.inj h
  exact g_iret hx hb hr hlocks hK hlo hG ⟨rfl, rfl⟩ dX10_mainMany_13
def f_X10_isMain (G : gH) (a0 : Nat) (x1 : Int32) : Option Int32 :=
    (g_ob G a0 10).bind fun u2 =>
    (f_X10_mainMany G a0).bind fun v2 =>
    if v2 ≤ x1 then
    some (0 : Int32)
    else
    some (1 : Int32)
set_option maxRecDepth 20000 in
set_option maxHeartbeats 4000000 in
theorem m_X10_isMain (l : Launch) (dd : va_G) (cT : Nat → ClassId) (lo : Nat) (G : gH) (a0 : Nat) (x1 : Int32) {rz : Int32} (h : f_X10_isMain G a0 x1 = some rz) : Met l yX10_isMain (Cond.code yX10_isMain cX10_isMain 2 (some .boolean) :: wsL_law) (g_rm 1 20 0 0) (va_Pc [.ref a0, .int x1] (g_Pre lo dd cT G)) (va_Qi (g_is rz G) (g_Pre lo dd cT) (g_A lo)) 0 0 (g_A lo) := by
  refine g_start RX10 rfl (by decide) (Nat.le_of_ble_eq_true rfl) ?_
  intro p e s m below meth c hx hb hr hlocks hml hown hnm hts hK hG hlo ls hl
  have hl : lv_has ls 2 [(0, .ref a0), (1, .int x1)] := hl
  have hG : g_S lo dd cT s s.heap [] G := hG
  unfold f_X10_isMain at h
  refine lv_iload_n hx hb dX10_isMain_0 rfl (lv_at hl 1 rfl) ?_
  refine lv_aload_n hx hb dX10_isMain_1 rfl (lv_at hl 0 rfl) ?_
  obtain ⟨u2, i2, h⟩ := Option.bind_eq_some_iff.mp h
  obtain ⟨v2, e2, h⟩ := Option.bind_eq_some_iff.mp h
  refine g_cVi (As := []) (rest := [.int x1]) (n := 0) hx hb hml hown hts hK hlo hG (m_X10_mainMany l dd cT lo G a0 e2) qM_X10_205 qI_yX10_mainMany qS_X10_yX10_mainMany qN_X10 qC_yX10_mainMany (by decide +kernel) ⟨Nat.le_of_ble_eq_true rfl, Nat.le_of_ble_eq_true rfl⟩ (by rfl) i2 rfl hl.1 rfl (Nat.le_of_ble_eq_true rfl) dX10_isMain_2 ⟨Nat.le_of_ble_eq_true rfl, Nat.le_of_ble_eq_true rfl⟩ (fun H locs hG => ?_)
  refine lv_icmp_ge (tgt := 12) hx hb dX10_isMain_5 (by decide) (fun c5 => ?_) (fun c5 => ?_)
  · rw [if_pos c5] at h
    refine lv_iconst (v := (0 : Int32)) hx hb dX10_isMain_12 (by decide) ?_
    obtain rfl := Option.some.inj h
    exact g_zret hx hb hr hlocks hK hlo hG rfl ⟨rfl, rfl⟩ dX10_isMain_13
  · rw [if_neg c5] at h
    refine lv_iconst (v := (1 : Int32)) hx hb dX10_isMain_8 (by decide) ?_
    refine lv_goto (tgt := 13) hx hb dX10_isMain_9 (by decide) ?_
    obtain rfl := Option.some.inj h
    exact g_zret hx hb hr hlocks hK hlo hG rfl ⟨rfl, rfl⟩ dX10_isMain_13
def f_X10_placeOf (G : gH) (a0 : Nat) (x1 : Int32) : Option Int32 :=
    (g_r G a0 10 1).bind fun v1 =>
    (g_ald 0 G v1 ((679 : Int32) + x1)).bind fun v9 =>
    if v9 ≤ 0 then
    some x1
    else
    (g_r G a0 10 1).bind fun v14 =>
    (g_ald 0 G v14 ((679 : Int32) + x1)).bind fun v22 =>
    some (v22 - (1 : Int32))
set_option maxRecDepth 20000 in
set_option maxHeartbeats 4000000 in
theorem m_X10_placeOf (l : Launch) (dd : va_G) (cT : Nat → ClassId) (lo : Nat) (G : gH) (a0 : Nat) (x1 : Int32) {rz : Int32} (h : f_X10_placeOf G a0 x1 = some rz) : Met l yX10_placeOf (Cond.code yX10_placeOf cX10_placeOf 2 (some .int) :: wsL_law) (g_rm 0 0 0 0) (va_Pc [.ref a0, .int x1] (g_Pre lo dd cT G)) (va_Qi (g_is rz G) (g_Pre lo dd cT) (g_A lo)) 0 0 (g_A lo) := by
  refine g_start RX10 rfl (by decide) (Nat.le_of_ble_eq_true rfl) ?_
  intro p e s m below meth c hx hb hr hlocks hml hown hnm hts hK hG hlo ls hl
  have hl : lv_has ls 2 [(0, .ref a0), (1, .int x1)] := hl
  have hG : g_S lo dd cT s s.heap [] G := hG
  unfold f_X10_placeOf at h
  refine lv_aload_n hx hb dX10_placeOf_0 rfl (lv_at hl 0 rfl) ?_
  obtain ⟨v1, e1, h⟩ := Option.bind_eq_some_iff.mp h
  refine g_getr hx hb hts inlX10 hown hK hG (by rfl) 1 (by decide) qF_X10_7 e1 dX10_placeOf_1 ?_
  refine lv_sipush (v := (679 : Int32)) hx hb dX10_placeOf_4 (by decide) ?_
  refine lv_iload_n hx hb dX10_placeOf_7 rfl (lv_at hl 1 rfl) ?_
  refine lv_iadd hx hb dX10_placeOf_8 ?_
  obtain ⟨v9, e9, h⟩ := Option.bind_eq_some_iff.mp h
  refine g_iald hx hb hK hG e9 dX10_placeOf_9 ?_
  refine lv_if_le (tgt := 28) hx hb dX10_placeOf_10 (by decide) (fun c10 => ?_) (fun c10 => ?_)
  · rw [if_pos c10] at h
    refine lv_iload_n hx hb dX10_placeOf_28 rfl (lv_at hl 1 rfl) ?_
    obtain rfl := Option.some.inj h
    exact g_iret hx hb hr hlocks hK hlo hG ⟨rfl, rfl⟩ dX10_placeOf_29
  · rw [if_neg c10] at h
    refine lv_aload_n hx hb dX10_placeOf_13 rfl (lv_at hl 0 rfl) ?_
    obtain ⟨v14, e14, h⟩ := Option.bind_eq_some_iff.mp h
    refine g_getr hx hb hts inlX10 hown hK hG (by rfl) 1 (by decide) qF_X10_7 e14 dX10_placeOf_14 ?_
    refine lv_sipush (v := (679 : Int32)) hx hb dX10_placeOf_17 (by decide) ?_
    refine lv_iload_n hx hb dX10_placeOf_20 rfl (lv_at hl 1 rfl) ?_
    refine lv_iadd hx hb dX10_placeOf_21 ?_
    obtain ⟨v22, e22, h⟩ := Option.bind_eq_some_iff.mp h
    refine g_iald hx hb hK hG e22 dX10_placeOf_22 ?_
    refine lv_iconst (v := (1 : Int32)) hx hb dX10_placeOf_23 (by decide) ?_
    refine lv_isub hx hb dX10_placeOf_24 ?_
    refine lv_goto (tgt := 29) hx hb dX10_placeOf_25 (by decide) ?_
    obtain rfl := Option.some.inj h
    exact g_iret hx hb hr hlocks hK hlo hG ⟨rfl, rfl⟩ dX10_placeOf_29
def f_X10_canRead_L5 (G : gH) : Nat → Nat → Int32 → Int32 → Int32 → Int32 → Option Int32
  | 0, _, _, _, _, _ => none
  | n + 1, ba0, bx1, bx2, bx3, bx4 =>
    if (bx1 + bx2) ≤ bx4 then
    g_z bx3
    else
    if bx3 = 0 then
    f_X10_canRead_L5 G n ba0 bx1 bx2 (0 : Int32) (bx4 + (1 : Int32))
    else
    (g_r G ba0 10 1).bind fun v18 =>
    (g_ob G ba0 10).bind fun u27 =>
    (f_X10_placeOf G ba0 bx4).bind fun v27 =>
    (g_ald 0 G v18 ((199 : Int32) + v27)).bind fun v31 =>
    if v31 = 0 then
    f_X10_canRead_L5 G n ba0 bx1 bx2 (1 : Int32) (bx4 + (1 : Int32))
    else
    f_X10_canRead_L5 G n ba0 bx1 bx2 (0 : Int32) (bx4 + (1 : Int32))
def f_X10_canRead (G : gH) (a0 : Nat) (x1 : Int32) (x2 : Int32) : Option Int32 :=
    f_X10_canRead_L5 G g_N a0 x1 x2 (1 : Int32) x1
set_option maxRecDepth 20000 in
set_option maxHeartbeats 4000000 in
theorem m_X10_canRead (l : Launch) (dd : va_G) (cT : Nat → ClassId) (lo : Nat) (G : gH) (a0 : Nat) (x1 : Int32) (x2 : Int32) {rz : Int32} (h : f_X10_canRead G a0 x1 x2 = some rz) : Met l yX10_canRead (Cond.code yX10_canRead cX10_canRead 5 (some .boolean) :: wsL_law) (g_rm 1 21 0 0) (va_Pc [.ref a0, .int x1, .int x2] (g_Pre lo dd cT G)) (va_Qi (g_is rz G) (g_Pre lo dd cT) (g_A lo)) 0 0 (g_A lo) := by
  refine g_start RX10 rfl (by decide) (Nat.le_of_ble_eq_true rfl) ?_
  intro p e s m below meth c hx hb hr hlocks hml hown hnm hts hK hG hlo ls hl
  have hl : lv_has ls 5 [(0, .ref a0), (1, .int x1), (2, .int x2)] := hl
  have hG : g_S lo dd cT s s.heap [] G := hG
  have h5 : ∀ n : Nat, ∀ (ba0 : Nat) (bx1 : Int32) (bx2 : Int32) (bx3 : Int32) (bx4 : Int32), ∀ (H : Heap) (locs : List Loc), g_S lo dd cT s H locs G → ∀ ls : Array Slot, lv_has ls 5 [(0, .ref ba0), (1, .int bx1), (2, .int bx2), (3, .int bx3), (4, .int bx4)] → f_X10_canRead_L5 G n ba0 bx1 bx2 bx3 bx4 = some rz → W p l e (g_rm 1 21 0 0) s m ([.ref a0, .int x1, .int x2] : List Value).toArray below meth c H locs 0 0 (MQ below (va_Qi (g_is rz G) (g_Pre lo dd cT) (g_A lo)) ([.ref a0, .int x1, .int x2] : List Value).toArray s 0 0 (g_A lo)) (F0 m 5 ls []) := by
    intro n
    induction n with
    | zero =>
      intro ba0 bx1 bx2 bx3 bx4 H locs hG ls hl h
      cases (show (none : Option Int32) = some rz from h)
    | succ n ih =>
      intro ba0 bx1 bx2 bx3 bx4 H locs hG ls hl h
      rw [f_X10_canRead_L5] at h
      refine lv_iload hx hb dX10_canRead_5 (lv_at hl 4 rfl) ?_
      refine lv_iload_n hx hb dX10_canRead_7 rfl (lv_at hl 1 rfl) ?_
      refine lv_iload_n hx hb dX10_canRead_8 rfl (lv_at hl 2 rfl) ?_
      refine lv_iadd hx hb dX10_canRead_9 ?_
      refine lv_icmp_ge (tgt := 47) hx hb dX10_canRead_10 (by decide) (fun c10 => ?_) (fun c10 => ?_)
      · rw [if_pos c10] at h
        refine lv_iload_n hx hb dX10_canRead_47 rfl (lv_at hl 3 rfl) ?_
        obtain ⟨n48, rfl⟩ := g_z_nar h
        exact g_zret hx hb hr hlocks hK hlo hG n48 ⟨rfl, rfl⟩ dX10_canRead_48
      · rw [if_neg c10] at h
        refine lv_iload_n hx hb dX10_canRead_13 rfl (lv_at hl 3 rfl) ?_
        refine lv_if_eq (tgt := 39) hx hb dX10_canRead_14 (by decide) (fun c14 => ?_) (fun c14 => ?_)
        · rw [if_pos c14] at h
          refine lv_iconst (v := (0 : Int32)) hx hb dX10_canRead_39 (by decide) ?_
          refine lv_istore_n (lv' := [(3, .int (0 : Int32)), (0, .ref ba0), (1, .int bx1), (2, .int bx2), (4, .int bx4)]) hx hb dX10_canRead_40 rfl hl (by decide) rfl (fun ls hl => ?_)
          refine lv_iinc (v := (bx4 + (1 : Int32))) (lv' := [(4, .int (bx4 + (1 : Int32))), (3, .int (0 : Int32)), (0, .ref ba0), (1, .int bx1), (2, .int bx2)]) hx hb dX10_canRead_41 hl (k := 4) rfl rfl (by decide) rfl (fun ls hl => ?_)
          refine lv_goto (tgt := 5) hx hb dX10_canRead_44 (by decide) ?_
          exact ih ba0 bx1 bx2 (0 : Int32) (bx4 + (1 : Int32)) _ _ hG _ (lv_sub hl [2, 3, 4, 1, 0] rfl) h
        · rw [if_neg c14] at h
          refine lv_aload_n hx hb dX10_canRead_17 rfl (lv_at hl 0 rfl) ?_
          obtain ⟨v18, e18, h⟩ := Option.bind_eq_some_iff.mp h
          refine g_getr hx hb hts inlX10 hown hK hG (by rfl) 1 (by decide) qF_X10_7 e18 dX10_canRead_18 ?_
          refine lv_sipush (v := (199 : Int32)) hx hb dX10_canRead_21 (by decide) ?_
          refine lv_aload_n hx hb dX10_canRead_24 rfl (lv_at hl 0 rfl) ?_
          refine lv_iload hx hb dX10_canRead_25 (lv_at hl 4 rfl) ?_
          obtain ⟨u27, i27, h⟩ := Option.bind_eq_some_iff.mp h
          obtain ⟨v27, e27, h⟩ := Option.bind_eq_some_iff.mp h
          refine g_cVi (As := [.int bx4]) (rest := [.int (199 : Int32), .ref v18]) (n := 1) hx hb hml hown hts hK hlo hG (m_X10_placeOf l dd cT lo G ba0 bx4 e27) qM_X10_208 qI_yX10_placeOf qS_X10_yX10_placeOf qN_X10 qC_yX10_placeOf (by decide +kernel) ⟨Nat.le_of_ble_eq_true rfl, Nat.le_of_ble_eq_true rfl⟩ (by rfl) i27 rfl hl.1 rfl (Nat.le_of_ble_eq_true rfl) dX10_canRead_27 ⟨Nat.le_of_ble_eq_true rfl, Nat.le_of_ble_eq_true rfl⟩ (fun H locs hG => ?_)
          refine lv_iadd hx hb dX10_canRead_30 ?_
          obtain ⟨v31, e31, h⟩ := Option.bind_eq_some_iff.mp h
          refine g_iald hx hb hK hG e31 dX10_canRead_31 ?_
          refine lv_if_ne (tgt := 39) hx hb dX10_canRead_32 (by decide) (fun c32 => ?_) (fun c32 => ?_)
          · rw [if_neg c32] at h
            refine lv_iconst (v := (0 : Int32)) hx hb dX10_canRead_39 (by decide) ?_
            refine lv_istore_n (lv' := [(3, .int (0 : Int32)), (0, .ref ba0), (1, .int bx1), (2, .int bx2), (4, .int bx4)]) hx hb dX10_canRead_40 rfl hl (by decide) rfl (fun ls hl => ?_)
            refine lv_iinc (v := (bx4 + (1 : Int32))) (lv' := [(4, .int (bx4 + (1 : Int32))), (3, .int (0 : Int32)), (0, .ref ba0), (1, .int bx1), (2, .int bx2)]) hx hb dX10_canRead_41 hl (k := 4) rfl rfl (by decide) rfl (fun ls hl => ?_)
            refine lv_goto (tgt := 5) hx hb dX10_canRead_44 (by decide) ?_
            exact ih ba0 bx1 bx2 (0 : Int32) (bx4 + (1 : Int32)) _ _ hG _ (lv_sub hl [2, 3, 4, 1, 0] rfl) h
          · rw [if_pos c32] at h
            refine lv_iconst (v := (1 : Int32)) hx hb dX10_canRead_35 (by decide) ?_
            refine lv_goto (tgt := 40) hx hb dX10_canRead_36 (by decide) ?_
            refine lv_istore_n (lv' := [(3, .int (1 : Int32)), (0, .ref ba0), (1, .int bx1), (2, .int bx2), (4, .int bx4)]) hx hb dX10_canRead_40 rfl hl (by decide) rfl (fun ls hl => ?_)
            refine lv_iinc (v := (bx4 + (1 : Int32))) (lv' := [(4, .int (bx4 + (1 : Int32))), (3, .int (1 : Int32)), (0, .ref ba0), (1, .int bx1), (2, .int bx2)]) hx hb dX10_canRead_41 hl (k := 4) rfl rfl (by decide) rfl (fun ls hl => ?_)
            refine lv_goto (tgt := 5) hx hb dX10_canRead_44 (by decide) ?_
            exact ih ba0 bx1 bx2 (1 : Int32) (bx4 + (1 : Int32)) _ _ hG _ (lv_sub hl [2, 3, 4, 1, 0] rfl) h
  unfold f_X10_canRead at h
  refine lv_iconst (v := (1 : Int32)) hx hb dX10_canRead_0 (by decide) ?_
  refine lv_istore_n (lv' := [(3, .int (1 : Int32)), (0, .ref a0), (1, .int x1), (2, .int x2)]) hx hb dX10_canRead_1 rfl hl (by decide) rfl (fun ls hl => ?_)
  refine lv_iload_n hx hb dX10_canRead_2 rfl (lv_at hl 2 rfl) ?_
  refine lv_istore (lv' := [(4, .int x1), (3, .int (1 : Int32)), (0, .ref a0), (1, .int x1), (2, .int x2)]) hx hb dX10_canRead_3 hl (by decide) rfl (fun ls hl => ?_)
  exact h5 g_N a0 x1 x2 (1 : Int32) x1 _ _ hG _ (lv_sub hl [2, 3, 4, 1, 0] rfl) h
def f_X10_lays (G : gH) (a0 : Nat) (x1 : Int32) (x2 : Int32) (x3 : Int32) (x4 : Int32) (x5 : Int32) : Option gH :=
    (g_r G a0 10 1).bind fun v1 =>
    (g_ast 0 G v1 ((7 : Int32) + x1) x2).bind fun G9 =>
    (g_r G9 a0 10 1).bind fun v11 =>
    (g_ast 0 G9 v11 ((295 : Int32) + x1) (x3 + (1 : Int32))).bind fun G22 =>
    (g_r G22 a0 10 1).bind fun v24 =>
    (g_ast 0 G22 v24 ((391 : Int32) + x1) (x4 + (1 : Int32))).bind fun G36 =>
    (g_r G36 a0 10 1).bind fun v38 =>
    (g_ast 0 G36 v38 ((487 : Int32) + x1) (x5 + (1 : Int32))).bind fun G50 =>
    some G50
set_option maxRecDepth 20000 in
set_option maxHeartbeats 4000000 in
theorem m_X10_lays (l : Launch) (dd : va_G) (cT : Nat → ClassId) (lo : Nat) (G : gH) (a0 : Nat) (x1 : Int32) (x2 : Int32) (x3 : Int32) (x4 : Int32) (x5 : Int32) {Gz : gH} (h : f_X10_lays G a0 x1 x2 x3 x4 x5 = some Gz) : Met l yX10_lays (Cond.code yX10_lays cX10_lays 6 none :: wsL_law) (g_rm 0 0 0 0) (va_Pc [.ref a0, .int x1, .int x2, .int x3, .int x4, .int x5] (g_Pre lo dd cT G)) (va_Qv (g_iv Gz) (g_Pre lo dd cT) (g_A lo)) 0 0 (g_A lo) := by
  refine g_start RX10 rfl (by decide) (Nat.le_of_ble_eq_true rfl) ?_
  intro p e s m below meth c hx hb hr hlocks hml hown hnm hts hK hG hlo ls hl
  have hl : lv_has ls 6 [(0, .ref a0), (1, .int x1), (2, .int x2), (3, .int x3), (4, .int x4), (5, .int x5)] := hl
  have hG : g_S lo dd cT s s.heap [] G := hG
  unfold f_X10_lays at h
  refine lv_aload_n hx hb dX10_lays_0 rfl (lv_at hl 0 rfl) ?_
  obtain ⟨v1, e1, h⟩ := Option.bind_eq_some_iff.mp h
  refine g_getr hx hb hts inlX10 hown hK hG (by rfl) 1 (by decide) qF_X10_7 e1 dX10_lays_1 ?_
  refine lv_bipush (v := (7 : Int32)) hx hb dX10_lays_4 (by decide) ?_
  refine lv_iload_n hx hb dX10_lays_6 rfl (lv_at hl 1 rfl) ?_
  refine lv_iadd hx hb dX10_lays_7 ?_
  refine lv_iload_n hx hb dX10_lays_8 rfl (lv_at hl 2 rfl) ?_
  obtain ⟨G9, e9, h⟩ := Option.bind_eq_some_iff.mp h
  refine g_iast hx hb hK hG e9 dX10_lays_9 (fun H locs hG => ?_)
  refine lv_aload_n hx hb dX10_lays_10 rfl (lv_at hl 0 rfl) ?_
  obtain ⟨v11, e11, h⟩ := Option.bind_eq_some_iff.mp h
  refine g_getr hx hb hts inlX10 hown hK hG (by rfl) 1 (by decide) qF_X10_7 e11 dX10_lays_11 ?_
  refine lv_sipush (v := (295 : Int32)) hx hb dX10_lays_14 (by decide) ?_
  refine lv_iload_n hx hb dX10_lays_17 rfl (lv_at hl 1 rfl) ?_
  refine lv_iadd hx hb dX10_lays_18 ?_
  refine lv_iload_n hx hb dX10_lays_19 rfl (lv_at hl 3 rfl) ?_
  refine lv_iconst (v := (1 : Int32)) hx hb dX10_lays_20 (by decide) ?_
  refine lv_iadd hx hb dX10_lays_21 ?_
  obtain ⟨G22, e22, h⟩ := Option.bind_eq_some_iff.mp h
  refine g_iast hx hb hK hG e22 dX10_lays_22 (fun H locs hG => ?_)
  refine lv_aload_n hx hb dX10_lays_23 rfl (lv_at hl 0 rfl) ?_
  obtain ⟨v24, e24, h⟩ := Option.bind_eq_some_iff.mp h
  refine g_getr hx hb hts inlX10 hown hK hG (by rfl) 1 (by decide) qF_X10_7 e24 dX10_lays_24 ?_
  refine lv_sipush (v := (391 : Int32)) hx hb dX10_lays_27 (by decide) ?_
  refine lv_iload_n hx hb dX10_lays_30 rfl (lv_at hl 1 rfl) ?_
  refine lv_iadd hx hb dX10_lays_31 ?_
  refine lv_iload hx hb dX10_lays_32 (lv_at hl 4 rfl) ?_
  refine lv_iconst (v := (1 : Int32)) hx hb dX10_lays_34 (by decide) ?_
  refine lv_iadd hx hb dX10_lays_35 ?_
  obtain ⟨G36, e36, h⟩ := Option.bind_eq_some_iff.mp h
  refine g_iast hx hb hK hG e36 dX10_lays_36 (fun H locs hG => ?_)
  refine lv_aload_n hx hb dX10_lays_37 rfl (lv_at hl 0 rfl) ?_
  obtain ⟨v38, e38, h⟩ := Option.bind_eq_some_iff.mp h
  refine g_getr hx hb hts inlX10 hown hK hG (by rfl) 1 (by decide) qF_X10_7 e38 dX10_lays_38 ?_
  refine lv_sipush (v := (487 : Int32)) hx hb dX10_lays_41 (by decide) ?_
  refine lv_iload_n hx hb dX10_lays_44 rfl (lv_at hl 1 rfl) ?_
  refine lv_iadd hx hb dX10_lays_45 ?_
  refine lv_iload hx hb dX10_lays_46 (lv_at hl 5 rfl) ?_
  refine lv_iconst (v := (1 : Int32)) hx hb dX10_lays_48 (by decide) ?_
  refine lv_iadd hx hb dX10_lays_49 ?_
  obtain ⟨G50, e50, h⟩ := Option.bind_eq_some_iff.mp h
  refine g_iast hx hb hK hG e50 dX10_lays_50 (fun H locs hG => ?_)
  obtain rfl := Option.some.inj h
  exact g_vret hx hb hr hlocks hK hlo hG rfl dX10_lays_51
def f_X10_writesBlock_J86 (k59 : gH → Nat → Int32 → Int32 → Int32 → Int32 → Int32 → Int32 → Option gH) (G : gH) (ba0 : Nat) (bx1 : Int32) (bx2 : Int32) (bx3 : Int32) (bx4 : Int32) (bx5 : Int32) (bx6 : Int32) : Option gH :=
    (g_r G ba0 10 1).bind fun v87 =>
    (g_ald 0 G v87 ((7 : Int32) + bx6)).bind fun v95 =>
    if v95 = 0 then
    (g_ob G ba0 10).bind fun u106 =>
    (f_X10_lays G ba0 bx6 (3 : Int32) bx2 (-1 : Int32) (-1 : Int32)).bind fun G106 =>
    k59 G106 ba0 bx1 bx2 bx3 bx4 bx5 (bx6 + (1 : Int32))
    else
    k59 G ba0 bx1 bx2 bx3 bx4 bx5 (bx6 + (1 : Int32))
def f_X10_writesBlock_L59 : Nat → gH → Nat → Int32 → Int32 → Int32 → Int32 → Int32 → Int32 → Option gH
  | 0, _, _, _, _, _, _, _, _ => none
  | n + 1, G, ba0, bx1, bx2, bx3, bx4, bx5, bx6 =>
    (g_r G ba0 10 1).bind fun v60 =>
    (g_ald 0 G v60 ((7 : Int32) + bx6)).bind fun v68 =>
    if v68 = 0 then
    (g_r G ba0 10 1).bind fun v73 =>
    (g_ald 0 G v73 ((103 : Int32) + bx6)).bind fun v81 =>
    if v81 = (1 : Int32) then
    f_X10_writesBlock_J86 (f_X10_writesBlock_L59 n) G ba0 bx1 bx2 bx3 bx4 bx5 bx6
    else
    (g_ob G ba0 10).bind fun u123 =>
    (f_X10_lays G ba0 bx6 bx1 bx2 bx3 bx4).bind fun G123 =>
    (g_r G123 ba0 10 1).bind fun v127 =>
    (g_ast 0 G123 v127 ((583 : Int32) + bx6) (bx5 + (1 : Int32))).bind fun G140 =>
    (g_r G140 ba0 10 1).bind fun v142 =>
    (g_ast 0 G140 v142 ((679 : Int32) + bx5) (bx6 + (1 : Int32))).bind fun G155 =>
    some G155
    else
    f_X10_writesBlock_J86 (f_X10_writesBlock_L59 n) G ba0 bx1 bx2 bx3 bx4 bx5 bx6
def f_X10_writesBlock (G : gH) (a0 : Nat) (x1 : Int32) (x2 : Int32) (x3 : Int32) (x4 : Int32) : Option gH :=
    (g_r G a0 10 1).bind fun v1 =>
    (g_ald 0 G v1 (4 : Int32)).bind fun v5 =>
    (g_r G a0 10 1).bind fun v9 =>
    (g_ald 0 G v9 (4 : Int32)).bind fun v14 =>
    (g_ast 0 G v9 (4 : Int32) (v14 + (1 : Int32))).bind fun G17 =>
    (g_r G17 a0 10 1).bind fun v19 =>
    (g_ald 0 G17 v19 ((103 : Int32) + v5)).bind fun v27 =>
    if v27 = 0 then
    (g_ob G17 a0 10).bind fun u39 =>
    (f_X10_lays G17 a0 v5 x1 x2 x3 x4).bind fun G39 =>
    some G39
    else
    (g_ob G17 a0 10).bind fun u50 =>
    (f_X10_lays G17 a0 v5 (3 : Int32) x2 (-1 : Int32) (-1 : Int32)).bind fun G50 =>
    (g_ob G50 a0 10).bind fun u54 =>
    (f_X10_mainMany G50 a0).bind fun v54 =>
    f_X10_writesBlock_L59 g_N G50 a0 x1 x2 x3 x4 v5 v54
set_option maxRecDepth 20000 in
set_option maxHeartbeats 4000000 in
theorem m_X10_writesBlock (l : Launch) (dd : va_G) (cT : Nat → ClassId) (lo : Nat) (G : gH) (a0 : Nat) (x1 : Int32) (x2 : Int32) (x3 : Int32) (x4 : Int32) {Gz : gH} (h : f_X10_writesBlock G a0 x1 x2 x3 x4 = some Gz) : Met l yX10_writesBlock (Cond.code yX10_writesBlock cX10_writesBlock 7 none :: wsL_law) (g_rm 1 25 0 0) (va_Pc [.ref a0, .int x1, .int x2, .int x3, .int x4] (g_Pre lo dd cT G)) (va_Qv (g_iv Gz) (g_Pre lo dd cT) (g_A lo)) 0 0 (g_A lo) := by
  refine g_start RX10 rfl (by decide) (Nat.le_of_ble_eq_true rfl) ?_
  intro p e s m below meth c hx hb hr hlocks hml hown hnm hts hK hG hlo ls hl
  have hl : lv_has ls 7 [(0, .ref a0), (1, .int x1), (2, .int x2), (3, .int x3), (4, .int x4)] := hl
  have hG : g_S lo dd cT s s.heap [] G := hG
  have h59 : ∀ n : Nat, ∀ (G : gH) (ba0 : Nat) (bx1 : Int32) (bx2 : Int32) (bx3 : Int32) (bx4 : Int32) (bx5 : Int32) (bx6 : Int32), ∀ (H : Heap) (locs : List Loc), g_S lo dd cT s H locs G → ∀ ls : Array Slot, lv_has ls 7 [(0, .ref ba0), (1, .int bx1), (2, .int bx2), (3, .int bx3), (4, .int bx4), (5, .int bx5), (6, .int bx6)] → f_X10_writesBlock_L59 n G ba0 bx1 bx2 bx3 bx4 bx5 bx6 = some Gz → W p l e (g_rm 1 25 0 0) s m ([.ref a0, .int x1, .int x2, .int x3, .int x4] : List Value).toArray below meth c H locs 0 0 (MQ below (va_Qv (g_iv Gz) (g_Pre lo dd cT) (g_A lo)) ([.ref a0, .int x1, .int x2, .int x3, .int x4] : List Value).toArray s 0 0 (g_A lo)) (F0 m 59 ls []) := by
    intro n
    induction n with
    | zero =>
      intro G ba0 bx1 bx2 bx3 bx4 bx5 bx6 H locs hG ls hl h
      cases (show (none : Option gH) = some Gz from h)
    | succ n ih =>
      intro G ba0 bx1 bx2 bx3 bx4 bx5 bx6 H locs hG ls hl h
      rw [f_X10_writesBlock_L59] at h
      have h86 : ∀ (G : gH) (ba0 : Nat) (bx1 : Int32) (bx2 : Int32) (bx3 : Int32) (bx4 : Int32) (bx5 : Int32) (bx6 : Int32), ∀ (H : Heap) (locs : List Loc), g_S lo dd cT s H locs G → ∀ ls : Array Slot, lv_has ls 7 [(0, .ref ba0), (1, .int bx1), (2, .int bx2), (3, .int bx3), (4, .int bx4), (5, .int bx5), (6, .int bx6)] → f_X10_writesBlock_J86 (f_X10_writesBlock_L59 n) G ba0 bx1 bx2 bx3 bx4 bx5 bx6 = some Gz → W p l e (g_rm 1 25 0 0) s m ([.ref a0, .int x1, .int x2, .int x3, .int x4] : List Value).toArray below meth c H locs 0 0 (MQ below (va_Qv (g_iv Gz) (g_Pre lo dd cT) (g_A lo)) ([.ref a0, .int x1, .int x2, .int x3, .int x4] : List Value).toArray s 0 0 (g_A lo)) (F0 m 86 ls []) := by
        intro G ba0 bx1 bx2 bx3 bx4 bx5 bx6 H locs hG ls hl h
        unfold f_X10_writesBlock_J86 at h
        refine lv_aload_n hx hb dX10_writesBlock_86 rfl (lv_at hl 0 rfl) ?_
        obtain ⟨v87, e87, h⟩ := Option.bind_eq_some_iff.mp h
        refine g_getr hx hb hts inlX10 hown hK hG (by rfl) 1 (by decide) qF_X10_7 e87 dX10_writesBlock_87 ?_
        refine lv_bipush (v := (7 : Int32)) hx hb dX10_writesBlock_90 (by decide) ?_
        refine lv_iload hx hb dX10_writesBlock_92 (lv_at hl 6 rfl) ?_
        refine lv_iadd hx hb dX10_writesBlock_94 ?_
        obtain ⟨v95, e95, h⟩ := Option.bind_eq_some_iff.mp h
        refine g_iald hx hb hK hG e95 dX10_writesBlock_95 ?_
        refine lv_if_ne (tgt := 109) hx hb dX10_writesBlock_96 (by decide) (fun c96 => ?_) (fun c96 => ?_)
        · rw [if_neg c96] at h
          refine lv_iinc (v := (bx6 + (1 : Int32))) (lv' := [(6, .int (bx6 + (1 : Int32))), (0, .ref ba0), (1, .int bx1), (2, .int bx2), (3, .int bx3), (4, .int bx4), (5, .int bx5)]) hx hb dX10_writesBlock_109 hl (k := 6) rfl rfl (by decide) rfl (fun ls hl => ?_)
          refine lv_goto (tgt := 59) hx hb dX10_writesBlock_112 (by decide) ?_
          exact ih G ba0 bx1 bx2 bx3 bx4 bx5 (bx6 + (1 : Int32)) _ _ hG _ (lv_sub hl [1, 2, 3, 4, 5, 6, 0] rfl) h
        · rw [if_pos c96] at h
          refine lv_aload_n hx hb dX10_writesBlock_99 rfl (lv_at hl 0 rfl) ?_
          refine lv_iload hx hb dX10_writesBlock_100 (lv_at hl 6 rfl) ?_
          refine lv_iconst (v := (3 : Int32)) hx hb dX10_writesBlock_102 (by decide) ?_
          refine lv_iload_n hx hb dX10_writesBlock_103 rfl (lv_at hl 2 rfl) ?_
          refine lv_iconst (v := (-1 : Int32)) hx hb dX10_writesBlock_104 (by decide) ?_
          refine lv_iconst (v := (-1 : Int32)) hx hb dX10_writesBlock_105 (by decide) ?_
          obtain ⟨u106, i106, h⟩ := Option.bind_eq_some_iff.mp h
          obtain ⟨G106, e106, h⟩ := Option.bind_eq_some_iff.mp h
          refine g_cVv (As := [.int bx6, .int (3 : Int32), .int bx2, .int (-1 : Int32), .int (-1 : Int32)]) (rest := []) (n := 5) hx hb hml hown hts hK hlo hG (m_X10_lays l dd cT lo G ba0 bx6 (3 : Int32) bx2 (-1 : Int32) (-1 : Int32) e106) qM_X10_211 qI_yX10_lays qS_X10_yX10_lays qN_X10 qC_yX10_lays (by decide +kernel) ⟨Nat.le_of_ble_eq_true rfl, Nat.le_of_ble_eq_true rfl⟩ (by rfl) i106 rfl hl.1 rfl (Nat.le_of_ble_eq_true rfl) dX10_writesBlock_106 ⟨Nat.le_of_ble_eq_true rfl, Nat.le_of_ble_eq_true rfl⟩ (fun H locs hG => ?_)
          refine lv_iinc (v := (bx6 + (1 : Int32))) (lv' := [(6, .int (bx6 + (1 : Int32))), (0, .ref ba0), (1, .int bx1), (2, .int bx2), (3, .int bx3), (4, .int bx4), (5, .int bx5)]) hx hb dX10_writesBlock_109 hl (k := 6) rfl rfl (by decide) rfl (fun ls hl => ?_)
          refine lv_goto (tgt := 59) hx hb dX10_writesBlock_112 (by decide) ?_
          exact ih G106 ba0 bx1 bx2 bx3 bx4 bx5 (bx6 + (1 : Int32)) _ _ hG _ (lv_sub hl [1, 2, 3, 4, 5, 6, 0] rfl) h
      refine lv_aload_n hx hb dX10_writesBlock_59 rfl (lv_at hl 0 rfl) ?_
      obtain ⟨v60, e60, h⟩ := Option.bind_eq_some_iff.mp h
      refine g_getr hx hb hts inlX10 hown hK hG (by rfl) 1 (by decide) qF_X10_7 e60 dX10_writesBlock_60 ?_
      refine lv_bipush (v := (7 : Int32)) hx hb dX10_writesBlock_63 (by decide) ?_
      refine lv_iload hx hb dX10_writesBlock_65 (lv_at hl 6 rfl) ?_
      refine lv_iadd hx hb dX10_writesBlock_67 ?_
      obtain ⟨v68, e68, h⟩ := Option.bind_eq_some_iff.mp h
      refine g_iald hx hb hK hG e68 dX10_writesBlock_68 ?_
      refine lv_if_ne (tgt := 86) hx hb dX10_writesBlock_69 (by decide) (fun c69 => ?_) (fun c69 => ?_)
      · rw [if_neg c69] at h
        exact h86 G ba0 bx1 bx2 bx3 bx4 bx5 bx6 _ _ hG _ (lv_sub hl [0, 1, 2, 3, 4, 5, 6] rfl) h
      · rw [if_pos c69] at h
        refine lv_aload_n hx hb dX10_writesBlock_72 rfl (lv_at hl 0 rfl) ?_
        obtain ⟨v73, e73, h⟩ := Option.bind_eq_some_iff.mp h
        refine g_getr hx hb hts inlX10 hown hK hG (by rfl) 1 (by decide) qF_X10_7 e73 dX10_writesBlock_73 ?_
        refine lv_bipush (v := (103 : Int32)) hx hb dX10_writesBlock_76 (by decide) ?_
        refine lv_iload hx hb dX10_writesBlock_78 (lv_at hl 6 rfl) ?_
        refine lv_iadd hx hb dX10_writesBlock_80 ?_
        obtain ⟨v81, e81, h⟩ := Option.bind_eq_some_iff.mp h
        refine g_iald hx hb hK hG e81 dX10_writesBlock_81 ?_
        refine lv_iconst (v := (1 : Int32)) hx hb dX10_writesBlock_82 (by decide) ?_
        refine lv_icmp_ne (tgt := 115) hx hb dX10_writesBlock_83 (by decide) (fun c83 => ?_) (fun c83 => ?_)
        · rw [if_neg c83] at h
          refine lv_aload_n hx hb dX10_writesBlock_115 rfl (lv_at hl 0 rfl) ?_
          refine lv_iload hx hb dX10_writesBlock_116 (lv_at hl 6 rfl) ?_
          refine lv_iload_n hx hb dX10_writesBlock_118 rfl (lv_at hl 1 rfl) ?_
          refine lv_iload_n hx hb dX10_writesBlock_119 rfl (lv_at hl 2 rfl) ?_
          refine lv_iload_n hx hb dX10_writesBlock_120 rfl (lv_at hl 3 rfl) ?_
          refine lv_iload hx hb dX10_writesBlock_121 (lv_at hl 4 rfl) ?_
          obtain ⟨u123, i123, h⟩ := Option.bind_eq_some_iff.mp h
          obtain ⟨G123, e123, h⟩ := Option.bind_eq_some_iff.mp h
          refine g_cVv (As := [.int bx6, .int bx1, .int bx2, .int bx3, .int bx4]) (rest := []) (n := 5) hx hb hml hown hts hK hlo hG (m_X10_lays l dd cT lo G ba0 bx6 bx1 bx2 bx3 bx4 e123) qM_X10_211 qI_yX10_lays qS_X10_yX10_lays qN_X10 qC_yX10_lays (by decide +kernel) ⟨Nat.le_of_ble_eq_true rfl, Nat.le_of_ble_eq_true rfl⟩ (by rfl) i123 rfl hl.1 rfl (Nat.le_of_ble_eq_true rfl) dX10_writesBlock_123 ⟨Nat.le_of_ble_eq_true rfl, Nat.le_of_ble_eq_true rfl⟩ (fun H locs hG => ?_)
          refine lv_aload_n hx hb dX10_writesBlock_126 rfl (lv_at hl 0 rfl) ?_
          obtain ⟨v127, e127, h⟩ := Option.bind_eq_some_iff.mp h
          refine g_getr hx hb hts inlX10 hown hK hG (by rfl) 1 (by decide) qF_X10_7 e127 dX10_writesBlock_127 ?_
          refine lv_sipush (v := (583 : Int32)) hx hb dX10_writesBlock_130 (by decide) ?_
          refine lv_iload hx hb dX10_writesBlock_133 (lv_at hl 6 rfl) ?_
          refine lv_iadd hx hb dX10_writesBlock_135 ?_
          refine lv_iload hx hb dX10_writesBlock_136 (lv_at hl 5 rfl) ?_
          refine lv_iconst (v := (1 : Int32)) hx hb dX10_writesBlock_138 (by decide) ?_
          refine lv_iadd hx hb dX10_writesBlock_139 ?_
          obtain ⟨G140, e140, h⟩ := Option.bind_eq_some_iff.mp h
          refine g_iast hx hb hK hG e140 dX10_writesBlock_140 (fun H locs hG => ?_)
          refine lv_aload_n hx hb dX10_writesBlock_141 rfl (lv_at hl 0 rfl) ?_
          obtain ⟨v142, e142, h⟩ := Option.bind_eq_some_iff.mp h
          refine g_getr hx hb hts inlX10 hown hK hG (by rfl) 1 (by decide) qF_X10_7 e142 dX10_writesBlock_142 ?_
          refine lv_sipush (v := (679 : Int32)) hx hb dX10_writesBlock_145 (by decide) ?_
          refine lv_iload hx hb dX10_writesBlock_148 (lv_at hl 5 rfl) ?_
          refine lv_iadd hx hb dX10_writesBlock_150 ?_
          refine lv_iload hx hb dX10_writesBlock_151 (lv_at hl 6 rfl) ?_
          refine lv_iconst (v := (1 : Int32)) hx hb dX10_writesBlock_153 (by decide) ?_
          refine lv_iadd hx hb dX10_writesBlock_154 ?_
          obtain ⟨G155, e155, h⟩ := Option.bind_eq_some_iff.mp h
          refine g_iast hx hb hK hG e155 dX10_writesBlock_155 (fun H locs hG => ?_)
          obtain rfl := Option.some.inj h
          exact g_vret hx hb hr hlocks hK hlo hG rfl dX10_writesBlock_156
        · rw [if_pos c83] at h
          exact h86 G ba0 bx1 bx2 bx3 bx4 bx5 bx6 _ _ hG _ (lv_sub hl [0, 1, 2, 3, 4, 5, 6] rfl) h
  unfold f_X10_writesBlock at h
  refine lv_aload_n hx hb dX10_writesBlock_0 rfl (lv_at hl 0 rfl) ?_
  obtain ⟨v1, e1, h⟩ := Option.bind_eq_some_iff.mp h
  refine g_getr hx hb hts inlX10 hown hK hG (by rfl) 1 (by decide) qF_X10_7 e1 dX10_writesBlock_1 ?_
  refine lv_iconst (v := (4 : Int32)) hx hb dX10_writesBlock_4 (by decide) ?_
  obtain ⟨v5, e5, h⟩ := Option.bind_eq_some_iff.mp h
  refine g_iald hx hb hK hG e5 dX10_writesBlock_5 ?_
  refine lv_istore (lv' := [(5, .int v5), (0, .ref a0), (1, .int x1), (2, .int x2), (3, .int x3), (4, .int x4)]) hx hb dX10_writesBlock_6 hl (by decide) rfl (fun ls hl => ?_)
  refine lv_aload_n hx hb dX10_writesBlock_8 rfl (lv_at hl 1 rfl) ?_
  obtain ⟨v9, e9, h⟩ := Option.bind_eq_some_iff.mp h
  refine g_getr hx hb hts inlX10 hown hK hG (by rfl) 1 (by decide) qF_X10_7 e9 dX10_writesBlock_9 ?_
  refine lv_iconst (v := (4 : Int32)) hx hb dX10_writesBlock_12 (by decide) ?_
  refine lv_dup2_11 hx hb dX10_writesBlock_13 rfl rfl ?_
  obtain ⟨v14, e14, h⟩ := Option.bind_eq_some_iff.mp h
  refine g_iald hx hb hK hG e14 dX10_writesBlock_14 ?_
  refine lv_iconst (v := (1 : Int32)) hx hb dX10_writesBlock_15 (by decide) ?_
  refine lv_iadd hx hb dX10_writesBlock_16 ?_
  obtain ⟨G17, e17, h⟩ := Option.bind_eq_some_iff.mp h
  refine g_iast hx hb hK hG e17 dX10_writesBlock_17 (fun H locs hG => ?_)
  refine lv_aload_n hx hb dX10_writesBlock_18 rfl (lv_at hl 1 rfl) ?_
  obtain ⟨v19, e19, h⟩ := Option.bind_eq_some_iff.mp h
  refine g_getr hx hb hts inlX10 hown hK hG (by rfl) 1 (by decide) qF_X10_7 e19 dX10_writesBlock_19 ?_
  refine lv_bipush (v := (103 : Int32)) hx hb dX10_writesBlock_22 (by decide) ?_
  refine lv_iload hx hb dX10_writesBlock_24 (lv_at hl 0 rfl) ?_
  refine lv_iadd hx hb dX10_writesBlock_26 ?_
  obtain ⟨v27, e27, h⟩ := Option.bind_eq_some_iff.mp h
  refine g_iald hx hb hK hG e27 dX10_writesBlock_27 ?_
  refine lv_if_ne (tgt := 43) hx hb dX10_writesBlock_28 (by decide) (fun c28 => ?_) (fun c28 => ?_)
  · rw [if_neg c28] at h
    refine lv_aload_n hx hb dX10_writesBlock_43 rfl (lv_at hl 1 rfl) ?_
    refine lv_iload hx hb dX10_writesBlock_44 (lv_at hl 0 rfl) ?_
    refine lv_iconst (v := (3 : Int32)) hx hb dX10_writesBlock_46 (by decide) ?_
    refine lv_iload_n hx hb dX10_writesBlock_47 rfl (lv_at hl 3 rfl) ?_
    refine lv_iconst (v := (-1 : Int32)) hx hb dX10_writesBlock_48 (by decide) ?_
    refine lv_iconst (v := (-1 : Int32)) hx hb dX10_writesBlock_49 (by decide) ?_
    obtain ⟨u50, i50, h⟩ := Option.bind_eq_some_iff.mp h
    obtain ⟨G50, e50, h⟩ := Option.bind_eq_some_iff.mp h
    refine g_cVv (As := [.int v5, .int (3 : Int32), .int x2, .int (-1 : Int32), .int (-1 : Int32)]) (rest := []) (n := 5) hx hb hml hown hts hK hlo hG (m_X10_lays l dd cT lo G17 a0 v5 (3 : Int32) x2 (-1 : Int32) (-1 : Int32) e50) qM_X10_211 qI_yX10_lays qS_X10_yX10_lays qN_X10 qC_yX10_lays (by decide +kernel) ⟨Nat.le_of_ble_eq_true rfl, Nat.le_of_ble_eq_true rfl⟩ (by rfl) i50 rfl hl.1 rfl (Nat.le_of_ble_eq_true rfl) dX10_writesBlock_50 ⟨Nat.le_of_ble_eq_true rfl, Nat.le_of_ble_eq_true rfl⟩ (fun H locs hG => ?_)
    refine lv_aload_n hx hb dX10_writesBlock_53 rfl (lv_at hl 1 rfl) ?_
    obtain ⟨u54, i54, h⟩ := Option.bind_eq_some_iff.mp h
    obtain ⟨v54, e54, h⟩ := Option.bind_eq_some_iff.mp h
    refine g_cVi (As := []) (rest := []) (n := 0) hx hb hml hown hts hK hlo hG (m_X10_mainMany l dd cT lo G50 a0 e54) qM_X10_205 qI_yX10_mainMany qS_X10_yX10_mainMany qN_X10 qC_yX10_mainMany (by decide +kernel) ⟨Nat.le_of_ble_eq_true rfl, Nat.le_of_ble_eq_true rfl⟩ (by rfl) i54 rfl hl.1 rfl (Nat.le_of_ble_eq_true rfl) dX10_writesBlock_54 ⟨Nat.le_of_ble_eq_true rfl, Nat.le_of_ble_eq_true rfl⟩ (fun H locs hG => ?_)
    refine lv_istore (lv' := [(6, .int v54), (5, .int v5), (0, .ref a0), (1, .int x1), (2, .int x2), (3, .int x3), (4, .int x4)]) hx hb dX10_writesBlock_57 hl (by decide) rfl (fun ls hl => ?_)
    exact h59 g_N G50 a0 x1 x2 x3 x4 v5 v54 _ _ hG _ (lv_sub hl [2, 3, 4, 5, 6, 1, 0] rfl) h
  · rw [if_pos c28] at h
    refine lv_aload_n hx hb dX10_writesBlock_31 rfl (lv_at hl 1 rfl) ?_
    refine lv_iload hx hb dX10_writesBlock_32 (lv_at hl 0 rfl) ?_
    refine lv_iload_n hx hb dX10_writesBlock_34 rfl (lv_at hl 2 rfl) ?_
    refine lv_iload_n hx hb dX10_writesBlock_35 rfl (lv_at hl 3 rfl) ?_
    refine lv_iload_n hx hb dX10_writesBlock_36 rfl (lv_at hl 4 rfl) ?_
    refine lv_iload hx hb dX10_writesBlock_37 (lv_at hl 5 rfl) ?_
    obtain ⟨u39, i39, h⟩ := Option.bind_eq_some_iff.mp h
    obtain ⟨G39, e39, h⟩ := Option.bind_eq_some_iff.mp h
    refine g_cVv (As := [.int v5, .int x1, .int x2, .int x3, .int x4]) (rest := []) (n := 5) hx hb hml hown hts hK hlo hG (m_X10_lays l dd cT lo G17 a0 v5 x1 x2 x3 x4 e39) qM_X10_211 qI_yX10_lays qS_X10_yX10_lays qN_X10 qC_yX10_lays (by decide +kernel) ⟨Nat.le_of_ble_eq_true rfl, Nat.le_of_ble_eq_true rfl⟩ (by rfl) i39 rfl hl.1 rfl (Nat.le_of_ble_eq_true rfl) dX10_writesBlock_39 ⟨Nat.le_of_ble_eq_true rfl, Nat.le_of_ble_eq_true rfl⟩ (fun H locs hG => ?_)
    obtain rfl := Option.some.inj h
    exact g_vret hx hb hr hlocks hK hlo hG rfl dX10_writesBlock_42
def f_X10_hasSpare_L62 (G : gH) : Nat → Nat → Int32 → Int32 → Int32 → Option Int32
  | 0, _, _, _, _ => none
  | n + 1, ba0, bx1, bx2, bx3 =>
    (g_r G ba0 10 1).bind fun v64 =>
    (g_ald 0 G v64 (4 : Int32)).bind fun v68 =>
    if (v68 + bx1) ≤ bx3 then
    if bx2 < 0 then
    some (0 : Int32)
    else
    some (1 : Int32)
    else
    (g_r G ba0 10 1).bind fun v76 =>
    (g_ald 0 G v76 ((103 : Int32) + bx3)).bind fun v83 =>
    f_X10_hasSpare_L62 G n ba0 bx1 (bx2 - v83) (bx3 + (1 : Int32))
def f_X10_hasSpare_L7 (G : gH) : Nat → Nat → Int32 → Int32 → Int32 → Option Int32
  | 0, _, _, _, _ => none
  | n + 1, ba0, bx1, bx2, bx3 =>
    (g_r G ba0 10 1).bind fun v9 =>
    (g_ald 0 G v9 (0 : Int32)).bind fun v13 =>
    if v13 ≤ bx3 then
    (g_r G ba0 10 1).bind fun v56 =>
    (g_ald 0 G v56 (4 : Int32)).bind fun v60 =>
    f_X10_hasSpare_L62 G g_N ba0 bx1 bx2 v60
    else
    (g_r G ba0 10 1).bind fun v19 =>
    (g_ald 0 G v19 ((7 : Int32) + bx3)).bind fun v26 =>
    if v26 = 0 then
    (g_r G ba0 10 1).bind fun v31 =>
    (g_ald 0 G v31 ((103 : Int32) + bx3)).bind fun v38 =>
    if v38 = 0 then
    f_X10_hasSpare_L7 G n ba0 bx1 (bx2 + (1 : Int32)) (bx3 + (1 : Int32))
    else
    f_X10_hasSpare_L7 G n ba0 bx1 (bx2 + (0 : Int32)) (bx3 + (1 : Int32))
    else
    f_X10_hasSpare_L7 G n ba0 bx1 (bx2 + (0 : Int32)) (bx3 + (1 : Int32))
def f_X10_hasSpare (G : gH) (a0 : Nat) (x1 : Int32) : Option Int32 :=
    (g_ob G a0 10).bind fun u3 =>
    (f_X10_mainMany G a0).bind fun v3 =>
    f_X10_hasSpare_L7 G g_N a0 x1 (0 : Int32) v3
set_option maxRecDepth 20000 in
set_option maxHeartbeats 4000000 in
theorem m_X10_hasSpare (l : Launch) (dd : va_G) (cT : Nat → ClassId) (lo : Nat) (G : gH) (a0 : Nat) (x1 : Int32) {rz : Int32} (h : f_X10_hasSpare G a0 x1 = some rz) : Met l yX10_hasSpare (Cond.code yX10_hasSpare cX10_hasSpare 4 (some .boolean) :: wsL_law) (g_rm 1 20 0 0) (va_Pc [.ref a0, .int x1] (g_Pre lo dd cT G)) (va_Qi (g_is rz G) (g_Pre lo dd cT) (g_A lo)) 0 0 (g_A lo) := by
  refine g_start RX10 rfl (by decide) (Nat.le_of_ble_eq_true rfl) ?_
  intro p e s m below meth c hx hb hr hlocks hml hown hnm hts hK hG hlo ls hl
  have hl : lv_has ls 4 [(0, .ref a0), (1, .int x1)] := hl
  have hG : g_S lo dd cT s s.heap [] G := hG
  have h62 : ∀ n : Nat, ∀ (ba0 : Nat) (bx1 : Int32) (bx2 : Int32) (bx3 : Int32), ∀ (H : Heap) (locs : List Loc), g_S lo dd cT s H locs G → ∀ ls : Array Slot, lv_has ls 4 [(0, .ref ba0), (1, .int bx1), (2, .int bx2), (3, .int bx3)] → f_X10_hasSpare_L62 G n ba0 bx1 bx2 bx3 = some rz → W p l e (g_rm 1 20 0 0) s m ([.ref a0, .int x1] : List Value).toArray below meth c H locs 0 0 (MQ below (va_Qi (g_is rz G) (g_Pre lo dd cT) (g_A lo)) ([.ref a0, .int x1] : List Value).toArray s 0 0 (g_A lo)) (F0 m 62 ls []) := by
    intro n
    induction n with
    | zero =>
      intro ba0 bx1 bx2 bx3 H locs hG ls hl h
      cases (show (none : Option Int32) = some rz from h)
    | succ n ih =>
      intro ba0 bx1 bx2 bx3 H locs hG ls hl h
      rw [f_X10_hasSpare_L62] at h
      refine lv_iload_n hx hb dX10_hasSpare_62 rfl (lv_at hl 3 rfl) ?_
      refine lv_aload_n hx hb dX10_hasSpare_63 rfl (lv_at hl 0 rfl) ?_
      obtain ⟨v64, e64, h⟩ := Option.bind_eq_some_iff.mp h
      refine g_getr hx hb hts inlX10 hown hK hG (by rfl) 1 (by decide) qF_X10_7 e64 dX10_hasSpare_64 ?_
      refine lv_iconst (v := (4 : Int32)) hx hb dX10_hasSpare_67 (by decide) ?_
      obtain ⟨v68, e68, h⟩ := Option.bind_eq_some_iff.mp h
      refine g_iald hx hb hK hG e68 dX10_hasSpare_68 ?_
      refine lv_iload_n hx hb dX10_hasSpare_69 rfl (lv_at hl 1 rfl) ?_
      refine lv_iadd hx hb dX10_hasSpare_70 ?_
      refine lv_icmp_ge (tgt := 92) hx hb dX10_hasSpare_71 (by decide) (fun c71 => ?_) (fun c71 => ?_)
      · rw [if_pos c71] at h
        refine lv_iload_n hx hb dX10_hasSpare_92 rfl (lv_at hl 2 rfl) ?_
        refine lv_if_lt (tgt := 100) hx hb dX10_hasSpare_93 (by decide) (fun c93 => ?_) (fun c93 => ?_)
        · rw [if_pos c93] at h
          refine lv_iconst (v := (0 : Int32)) hx hb dX10_hasSpare_100 (by decide) ?_
          obtain rfl := Option.some.inj h
          exact g_zret hx hb hr hlocks hK hlo hG rfl ⟨rfl, rfl⟩ dX10_hasSpare_101
        · rw [if_neg c93] at h
          refine lv_iconst (v := (1 : Int32)) hx hb dX10_hasSpare_96 (by decide) ?_
          refine lv_goto (tgt := 101) hx hb dX10_hasSpare_97 (by decide) ?_
          obtain rfl := Option.some.inj h
          exact g_zret hx hb hr hlocks hK hlo hG rfl ⟨rfl, rfl⟩ dX10_hasSpare_101
      · rw [if_neg c71] at h
        refine lv_iload_n hx hb dX10_hasSpare_74 rfl (lv_at hl 2 rfl) ?_
        refine lv_aload_n hx hb dX10_hasSpare_75 rfl (lv_at hl 0 rfl) ?_
        obtain ⟨v76, e76, h⟩ := Option.bind_eq_some_iff.mp h
        refine g_getr hx hb hts inlX10 hown hK hG (by rfl) 1 (by decide) qF_X10_7 e76 dX10_hasSpare_76 ?_
        refine lv_bipush (v := (103 : Int32)) hx hb dX10_hasSpare_79 (by decide) ?_
        refine lv_iload_n hx hb dX10_hasSpare_81 rfl (lv_at hl 3 rfl) ?_
        refine lv_iadd hx hb dX10_hasSpare_82 ?_
        obtain ⟨v83, e83, h⟩ := Option.bind_eq_some_iff.mp h
        refine g_iald hx hb hK hG e83 dX10_hasSpare_83 ?_
        refine lv_isub hx hb dX10_hasSpare_84 ?_
        refine lv_istore_n (lv' := [(2, .int (bx2 - v83)), (0, .ref ba0), (1, .int bx1), (3, .int bx3)]) hx hb dX10_hasSpare_85 rfl hl (by decide) rfl (fun ls hl => ?_)
        refine lv_iinc (v := (bx3 + (1 : Int32))) (lv' := [(3, .int (bx3 + (1 : Int32))), (2, .int (bx2 - v83)), (0, .ref ba0), (1, .int bx1)]) hx hb dX10_hasSpare_86 hl (k := 3) rfl rfl (by decide) rfl (fun ls hl => ?_)
        refine lv_goto (tgt := 62) hx hb dX10_hasSpare_89 (by decide) ?_
        exact ih ba0 bx1 (bx2 - v83) (bx3 + (1 : Int32)) _ _ hG _ (lv_sub hl [2, 3, 1, 0] rfl) h
  have h7 : ∀ n : Nat, ∀ (ba0 : Nat) (bx1 : Int32) (bx2 : Int32) (bx3 : Int32), ∀ (H : Heap) (locs : List Loc), g_S lo dd cT s H locs G → ∀ ls : Array Slot, lv_has ls 4 [(0, .ref ba0), (1, .int bx1), (2, .int bx2), (3, .int bx3)] → f_X10_hasSpare_L7 G n ba0 bx1 bx2 bx3 = some rz → W p l e (g_rm 1 20 0 0) s m ([.ref a0, .int x1] : List Value).toArray below meth c H locs 0 0 (MQ below (va_Qi (g_is rz G) (g_Pre lo dd cT) (g_A lo)) ([.ref a0, .int x1] : List Value).toArray s 0 0 (g_A lo)) (F0 m 7 ls []) := by
    intro n
    induction n with
    | zero =>
      intro ba0 bx1 bx2 bx3 H locs hG ls hl h
      cases (show (none : Option Int32) = some rz from h)
    | succ n ih =>
      intro ba0 bx1 bx2 bx3 H locs hG ls hl h
      rw [f_X10_hasSpare_L7] at h
      refine lv_iload_n hx hb dX10_hasSpare_7 rfl (lv_at hl 3 rfl) ?_
      refine lv_aload_n hx hb dX10_hasSpare_8 rfl (lv_at hl 0 rfl) ?_
      obtain ⟨v9, e9, h⟩ := Option.bind_eq_some_iff.mp h
      refine g_getr hx hb hts inlX10 hown hK hG (by rfl) 1 (by decide) qF_X10_7 e9 dX10_hasSpare_9 ?_
      refine lv_iconst (v := (0 : Int32)) hx hb dX10_hasSpare_12 (by decide) ?_
      obtain ⟨v13, e13, h⟩ := Option.bind_eq_some_iff.mp h
      refine g_iald hx hb hK hG e13 dX10_hasSpare_13 ?_
      refine lv_icmp_ge (tgt := 55) hx hb dX10_hasSpare_14 (by decide) (fun c14 => ?_) (fun c14 => ?_)
      · rw [if_pos c14] at h
        refine lv_aload_n hx hb dX10_hasSpare_55 rfl (lv_at hl 0 rfl) ?_
        obtain ⟨v56, e56, h⟩ := Option.bind_eq_some_iff.mp h
        refine g_getr hx hb hts inlX10 hown hK hG (by rfl) 1 (by decide) qF_X10_7 e56 dX10_hasSpare_56 ?_
        refine lv_iconst (v := (4 : Int32)) hx hb dX10_hasSpare_59 (by decide) ?_
        obtain ⟨v60, e60, h⟩ := Option.bind_eq_some_iff.mp h
        refine g_iald hx hb hK hG e60 dX10_hasSpare_60 ?_
        refine lv_istore_n (lv' := [(3, .int v60), (0, .ref ba0), (1, .int bx1), (2, .int bx2)]) hx hb dX10_hasSpare_61 rfl hl (by decide) rfl (fun ls hl => ?_)
        exact h62 g_N ba0 bx1 bx2 v60 _ _ hG _ (lv_sub hl [1, 2, 3, 0] rfl) h
      · rw [if_neg c14] at h
        refine lv_iload_n hx hb dX10_hasSpare_17 rfl (lv_at hl 2 rfl) ?_
        refine lv_aload_n hx hb dX10_hasSpare_18 rfl (lv_at hl 0 rfl) ?_
        obtain ⟨v19, e19, h⟩ := Option.bind_eq_some_iff.mp h
        refine g_getr hx hb hts inlX10 hown hK hG (by rfl) 1 (by decide) qF_X10_7 e19 dX10_hasSpare_19 ?_
        refine lv_bipush (v := (7 : Int32)) hx hb dX10_hasSpare_22 (by decide) ?_
        refine lv_iload_n hx hb dX10_hasSpare_24 rfl (lv_at hl 3 rfl) ?_
        refine lv_iadd hx hb dX10_hasSpare_25 ?_
        obtain ⟨v26, e26, h⟩ := Option.bind_eq_some_iff.mp h
        refine g_iald hx hb hK hG e26 dX10_hasSpare_26 ?_
        refine lv_if_ne (tgt := 46) hx hb dX10_hasSpare_27 (by decide) (fun c27 => ?_) (fun c27 => ?_)
        · rw [if_neg c27] at h
          refine lv_iconst (v := (0 : Int32)) hx hb dX10_hasSpare_46 (by decide) ?_
          refine lv_iadd hx hb dX10_hasSpare_47 ?_
          refine lv_istore_n (lv' := [(2, .int (bx2 + (0 : Int32))), (0, .ref ba0), (1, .int bx1), (3, .int bx3)]) hx hb dX10_hasSpare_48 rfl hl (by decide) rfl (fun ls hl => ?_)
          refine lv_iinc (v := (bx3 + (1 : Int32))) (lv' := [(3, .int (bx3 + (1 : Int32))), (2, .int (bx2 + (0 : Int32))), (0, .ref ba0), (1, .int bx1)]) hx hb dX10_hasSpare_49 hl (k := 3) rfl rfl (by decide) rfl (fun ls hl => ?_)
          refine lv_goto (tgt := 7) hx hb dX10_hasSpare_52 (by decide) ?_
          exact ih ba0 bx1 (bx2 + (0 : Int32)) (bx3 + (1 : Int32)) _ _ hG _ (lv_sub hl [2, 3, 1, 0] rfl) h
        · rw [if_pos c27] at h
          refine lv_aload_n hx hb dX10_hasSpare_30 rfl (lv_at hl 0 rfl) ?_
          obtain ⟨v31, e31, h⟩ := Option.bind_eq_some_iff.mp h
          refine g_getr hx hb hts inlX10 hown hK hG (by rfl) 1 (by decide) qF_X10_7 e31 dX10_hasSpare_31 ?_
          refine lv_bipush (v := (103 : Int32)) hx hb dX10_hasSpare_34 (by decide) ?_
          refine lv_iload_n hx hb dX10_hasSpare_36 rfl (lv_at hl 3 rfl) ?_
          refine lv_iadd hx hb dX10_hasSpare_37 ?_
          obtain ⟨v38, e38, h⟩ := Option.bind_eq_some_iff.mp h
          refine g_iald hx hb hK hG e38 dX10_hasSpare_38 ?_
          refine lv_if_ne (tgt := 46) hx hb dX10_hasSpare_39 (by decide) (fun c39 => ?_) (fun c39 => ?_)
          · rw [if_neg c39] at h
            refine lv_iconst (v := (0 : Int32)) hx hb dX10_hasSpare_46 (by decide) ?_
            refine lv_iadd hx hb dX10_hasSpare_47 ?_
            refine lv_istore_n (lv' := [(2, .int (bx2 + (0 : Int32))), (0, .ref ba0), (1, .int bx1), (3, .int bx3)]) hx hb dX10_hasSpare_48 rfl hl (by decide) rfl (fun ls hl => ?_)
            refine lv_iinc (v := (bx3 + (1 : Int32))) (lv' := [(3, .int (bx3 + (1 : Int32))), (2, .int (bx2 + (0 : Int32))), (0, .ref ba0), (1, .int bx1)]) hx hb dX10_hasSpare_49 hl (k := 3) rfl rfl (by decide) rfl (fun ls hl => ?_)
            refine lv_goto (tgt := 7) hx hb dX10_hasSpare_52 (by decide) ?_
            exact ih ba0 bx1 (bx2 + (0 : Int32)) (bx3 + (1 : Int32)) _ _ hG _ (lv_sub hl [2, 3, 1, 0] rfl) h
          · rw [if_pos c39] at h
            refine lv_iconst (v := (1 : Int32)) hx hb dX10_hasSpare_42 (by decide) ?_
            refine lv_goto (tgt := 47) hx hb dX10_hasSpare_43 (by decide) ?_
            refine lv_iadd hx hb dX10_hasSpare_47 ?_
            refine lv_istore_n (lv' := [(2, .int (bx2 + (1 : Int32))), (0, .ref ba0), (1, .int bx1), (3, .int bx3)]) hx hb dX10_hasSpare_48 rfl hl (by decide) rfl (fun ls hl => ?_)
            refine lv_iinc (v := (bx3 + (1 : Int32))) (lv' := [(3, .int (bx3 + (1 : Int32))), (2, .int (bx2 + (1 : Int32))), (0, .ref ba0), (1, .int bx1)]) hx hb dX10_hasSpare_49 hl (k := 3) rfl rfl (by decide) rfl (fun ls hl => ?_)
            refine lv_goto (tgt := 7) hx hb dX10_hasSpare_52 (by decide) ?_
            exact ih ba0 bx1 (bx2 + (1 : Int32)) (bx3 + (1 : Int32)) _ _ hG _ (lv_sub hl [2, 3, 1, 0] rfl) h
  unfold f_X10_hasSpare at h
  refine lv_iconst (v := (0 : Int32)) hx hb dX10_hasSpare_0 (by decide) ?_
  refine lv_istore_n (lv' := [(2, .int (0 : Int32)), (0, .ref a0), (1, .int x1)]) hx hb dX10_hasSpare_1 rfl hl (by decide) rfl (fun ls hl => ?_)
  refine lv_aload_n hx hb dX10_hasSpare_2 rfl (lv_at hl 1 rfl) ?_
  obtain ⟨u3, i3, h⟩ := Option.bind_eq_some_iff.mp h
  obtain ⟨v3, e3, h⟩ := Option.bind_eq_some_iff.mp h
  refine g_cVi (As := []) (rest := []) (n := 0) hx hb hml hown hts hK hlo hG (m_X10_mainMany l dd cT lo G a0 e3) qM_X10_205 qI_yX10_mainMany qS_X10_yX10_mainMany qN_X10 qC_yX10_mainMany (by decide +kernel) ⟨Nat.le_of_ble_eq_true rfl, Nat.le_of_ble_eq_true rfl⟩ (by rfl) i3 rfl hl.1 rfl (Nat.le_of_ble_eq_true rfl) dX10_hasSpare_3 ⟨Nat.le_of_ble_eq_true rfl, Nat.le_of_ble_eq_true rfl⟩ (fun H locs hG => ?_)
  refine lv_istore_n (lv' := [(3, .int v3), (2, .int (0 : Int32)), (0, .ref a0), (1, .int x1)]) hx hb dX10_hasSpare_6 rfl hl (by decide) rfl (fun ls hl => ?_)
  exact h7 g_N a0 x1 (0 : Int32) v3 _ _ hG _ (lv_sub hl [2, 3, 1, 0] rfl) h
def f_X10_hasRoom (G : gH) (a0 : Nat) (x1 : Int32) : Option Int32 :=
    (g_r G a0 10 1).bind fun v1 =>
    (g_ald 0 G v1 (4 : Int32)).bind fun v5 =>
    (g_ob G a0 10).bind fun u9 =>
    (f_X10_mainMany G a0).bind fun v9 =>
    if v9 < (v5 + x1) then
    some (0 : Int32)
    else
    some (1 : Int32)
set_option maxRecDepth 20000 in
set_option maxHeartbeats 4000000 in
theorem m_X10_hasRoom (l : Launch) (dd : va_G) (cT : Nat → ClassId) (lo : Nat) (G : gH) (a0 : Nat) (x1 : Int32) {rz : Int32} (h : f_X10_hasRoom G a0 x1 = some rz) : Met l yX10_hasRoom (Cond.code yX10_hasRoom cX10_hasRoom 2 (some .boolean) :: wsL_law) (g_rm 1 20 0 0) (va_Pc [.ref a0, .int x1] (g_Pre lo dd cT G)) (va_Qi (g_is rz G) (g_Pre lo dd cT) (g_A lo)) 0 0 (g_A lo) := by
  refine g_start RX10 rfl (by decide) (Nat.le_of_ble_eq_true rfl) ?_
  intro p e s m below meth c hx hb hr hlocks hml hown hnm hts hK hG hlo ls hl
  have hl : lv_has ls 2 [(0, .ref a0), (1, .int x1)] := hl
  have hG : g_S lo dd cT s s.heap [] G := hG
  unfold f_X10_hasRoom at h
  refine lv_aload_n hx hb dX10_hasRoom_0 rfl (lv_at hl 0 rfl) ?_
  obtain ⟨v1, e1, h⟩ := Option.bind_eq_some_iff.mp h
  refine g_getr hx hb hts inlX10 hown hK hG (by rfl) 1 (by decide) qF_X10_7 e1 dX10_hasRoom_1 ?_
  refine lv_iconst (v := (4 : Int32)) hx hb dX10_hasRoom_4 (by decide) ?_
  obtain ⟨v5, e5, h⟩ := Option.bind_eq_some_iff.mp h
  refine g_iald hx hb hK hG e5 dX10_hasRoom_5 ?_
  refine lv_iload_n hx hb dX10_hasRoom_6 rfl (lv_at hl 1 rfl) ?_
  refine lv_iadd hx hb dX10_hasRoom_7 ?_
  refine lv_aload_n hx hb dX10_hasRoom_8 rfl (lv_at hl 0 rfl) ?_
  obtain ⟨u9, i9, h⟩ := Option.bind_eq_some_iff.mp h
  obtain ⟨v9, e9, h⟩ := Option.bind_eq_some_iff.mp h
  refine g_cVi (As := []) (rest := [.int (v5 + x1)]) (n := 0) hx hb hml hown hts hK hlo hG (m_X10_mainMany l dd cT lo G a0 e9) qM_X10_205 qI_yX10_mainMany qS_X10_yX10_mainMany qN_X10 qC_yX10_mainMany (by decide +kernel) ⟨Nat.le_of_ble_eq_true rfl, Nat.le_of_ble_eq_true rfl⟩ (by rfl) i9 rfl hl.1 rfl (Nat.le_of_ble_eq_true rfl) dX10_hasRoom_9 ⟨Nat.le_of_ble_eq_true rfl, Nat.le_of_ble_eq_true rfl⟩ (fun H locs hG => ?_)
  refine lv_icmp_gt (tgt := 19) hx hb dX10_hasRoom_12 (by decide) (fun c12 => ?_) (fun c12 => ?_)
  · rw [if_pos c12] at h
    refine lv_iconst (v := (0 : Int32)) hx hb dX10_hasRoom_19 (by decide) ?_
    obtain rfl := Option.some.inj h
    exact g_zret hx hb hr hlocks hK hlo hG rfl ⟨rfl, rfl⟩ dX10_hasRoom_20
  · rw [if_neg c12] at h
    refine lv_iconst (v := (1 : Int32)) hx hb dX10_hasRoom_15 (by decide) ?_
    refine lv_goto (tgt := 20) hx hb dX10_hasRoom_16 (by decide) ?_
    obtain rfl := Option.some.inj h
    exact g_zret hx hb hr hlocks hK hlo hG rfl ⟨rfl, rfl⟩ dX10_hasRoom_20
def f_X10_directoryLong (G : gH) (x0 : Int32) : Option Int32 :=
    some ((1 : Int32) + ((x0 - (1 : Int32)) / (4 : Int32)))
set_option maxRecDepth 20000 in
set_option maxHeartbeats 4000000 in
theorem m_X10_directoryLong (l : Launch) (dd : va_G) (cT : Nat → ClassId) (lo : Nat) (G : gH) (x0 : Int32) {rz : Int32} (h : f_X10_directoryLong G x0 = some rz) : Met l yX10_directoryLong (Cond.code yX10_directoryLong cX10_directoryLong 1 (some .int) :: wsL_law) (g_rm 0 0 0 0) (va_Pc [.int x0] (g_Pre lo dd cT G)) (va_Qi (g_is rz G) (g_Pre lo dd cT) (g_A lo)) 0 0 (g_A lo) := by
  refine g_start RX10 rfl (by decide) (Nat.le_of_ble_eq_true rfl) ?_
  intro p e s m below meth c hx hb hr hlocks hml hown hnm hts hK hG hlo ls hl
  have hl : lv_has ls 1 [(0, .int x0)] := hl
  have hG : g_S lo dd cT s s.heap [] G := hG
  unfold f_X10_directoryLong at h
  refine lv_iconst (v := (1 : Int32)) hx hb dX10_directoryLong_0 (by decide) ?_
  refine lv_iload_n hx hb dX10_directoryLong_1 rfl (lv_at hl 0 rfl) ?_
  refine lv_iconst (v := (1 : Int32)) hx hb dX10_directoryLong_2 (by decide) ?_
  refine lv_isub hx hb dX10_directoryLong_3 ?_
  refine lv_iconst (v := (4 : Int32)) hx hb dX10_directoryLong_4 (by decide) ?_
  refine lv_idiv hx hb dX10_directoryLong_5 (by decide) ?_
  refine lv_iadd hx hb dX10_directoryLong_6 ?_
  obtain rfl := Option.some.inj h
  exact g_iret hx hb hr hlocks hK hlo hG ⟨rfl, rfl⟩ dX10_directoryLong_7
def f_X10_of (G : gH) (a0 : Nat) (x1 : Int32) (x2 : Int32) : Option Int32 :=
    (g_r G a0 10 1).bind fun v1 =>
    (g_ald 0 G v1 (((1255 : Int32) + ((25 : Int32) * x1)) + x2)).bind fun v14 =>
    some v14
set_option maxRecDepth 20000 in
set_option maxHeartbeats 4000000 in
theorem m_X10_of (l : Launch) (dd : va_G) (cT : Nat → ClassId) (lo : Nat) (G : gH) (a0 : Nat) (x1 : Int32) (x2 : Int32) {rz : Int32} (h : f_X10_of G a0 x1 x2 = some rz) : Met l yX10_of (Cond.code yX10_of cX10_of 3 (some .int) :: wsL_law) (g_rm 0 0 0 0) (va_Pc [.ref a0, .int x1, .int x2] (g_Pre lo dd cT G)) (va_Qi (g_is rz G) (g_Pre lo dd cT) (g_A lo)) 0 0 (g_A lo) := by
  refine g_start RX10 rfl (by decide) (Nat.le_of_ble_eq_true rfl) ?_
  intro p e s m below meth c hx hb hr hlocks hml hown hnm hts hK hG hlo ls hl
  have hl : lv_has ls 3 [(0, .ref a0), (1, .int x1), (2, .int x2)] := hl
  have hG : g_S lo dd cT s s.heap [] G := hG
  unfold f_X10_of at h
  refine lv_aload_n hx hb dX10_of_0 rfl (lv_at hl 0 rfl) ?_
  obtain ⟨v1, e1, h⟩ := Option.bind_eq_some_iff.mp h
  refine g_getr hx hb hts inlX10 hown hK hG (by rfl) 1 (by decide) qF_X10_7 e1 dX10_of_1 ?_
  refine lv_sipush (v := (1255 : Int32)) hx hb dX10_of_4 (by decide) ?_
  refine lv_bipush (v := (25 : Int32)) hx hb dX10_of_7 (by decide) ?_
  refine lv_iload_n hx hb dX10_of_9 rfl (lv_at hl 1 rfl) ?_
  refine lv_imul hx hb dX10_of_10 ?_
  refine lv_iadd hx hb dX10_of_11 ?_
  refine lv_iload_n hx hb dX10_of_12 rfl (lv_at hl 2 rfl) ?_
  refine lv_iadd hx hb dX10_of_13 ?_
  obtain ⟨v14, e14, h⟩ := Option.bind_eq_some_iff.mp h
  refine g_iald hx hb hK hG e14 dX10_of_14 ?_
  obtain rfl := Option.some.inj h
  exact g_iret hx hb hr hlocks hK hlo hG ⟨rfl, rfl⟩ dX10_of_15
def f_X10_sets (G : gH) (a0 : Nat) (x1 : Int32) (x2 : Int32) (x3 : Int32) : Option gH :=
    (g_r G a0 10 1).bind fun v1 =>
    (g_ast 0 G v1 (((1255 : Int32) + ((25 : Int32) * x1)) + x2) x3).bind fun G15 =>
    some G15
set_option maxRecDepth 20000 in
set_option maxHeartbeats 4000000 in
theorem m_X10_sets (l : Launch) (dd : va_G) (cT : Nat → ClassId) (lo : Nat) (G : gH) (a0 : Nat) (x1 : Int32) (x2 : Int32) (x3 : Int32) {Gz : gH} (h : f_X10_sets G a0 x1 x2 x3 = some Gz) : Met l yX10_sets (Cond.code yX10_sets cX10_sets 4 none :: wsL_law) (g_rm 0 0 0 0) (va_Pc [.ref a0, .int x1, .int x2, .int x3] (g_Pre lo dd cT G)) (va_Qv (g_iv Gz) (g_Pre lo dd cT) (g_A lo)) 0 0 (g_A lo) := by
  refine g_start RX10 rfl (by decide) (Nat.le_of_ble_eq_true rfl) ?_
  intro p e s m below meth c hx hb hr hlocks hml hown hnm hts hK hG hlo ls hl
  have hl : lv_has ls 4 [(0, .ref a0), (1, .int x1), (2, .int x2), (3, .int x3)] := hl
  have hG : g_S lo dd cT s s.heap [] G := hG
  unfold f_X10_sets at h
  refine lv_aload_n hx hb dX10_sets_0 rfl (lv_at hl 0 rfl) ?_
  obtain ⟨v1, e1, h⟩ := Option.bind_eq_some_iff.mp h
  refine g_getr hx hb hts inlX10 hown hK hG (by rfl) 1 (by decide) qF_X10_7 e1 dX10_sets_1 ?_
  refine lv_sipush (v := (1255 : Int32)) hx hb dX10_sets_4 (by decide) ?_
  refine lv_bipush (v := (25 : Int32)) hx hb dX10_sets_7 (by decide) ?_
  refine lv_iload_n hx hb dX10_sets_9 rfl (lv_at hl 1 rfl) ?_
  refine lv_imul hx hb dX10_sets_10 ?_
  refine lv_iadd hx hb dX10_sets_11 ?_
  refine lv_iload_n hx hb dX10_sets_12 rfl (lv_at hl 2 rfl) ?_
  refine lv_iadd hx hb dX10_sets_13 ?_
  refine lv_iload_n hx hb dX10_sets_14 rfl (lv_at hl 3 rfl) ?_
  obtain ⟨G15, e15, h⟩ := Option.bind_eq_some_iff.mp h
  refine g_iast hx hb hK hG e15 dX10_sets_15 (fun H locs hG => ?_)
  obtain rfl := Option.some.inj h
  exact g_vret hx hb hr hlocks hK hlo hG rfl dX10_sets_16
def f_X10_ofVersion (G : gH) (a0 : Nat) (x1 : Int32) (x2 : Int32) : Option Int32 :=
    (g_r G a0 10 1).bind fun v1 =>
    (g_ald 0 G v1 (((775 : Int32) + ((5 : Int32) * x1)) + x2)).bind fun v13 =>
    some v13
set_option maxRecDepth 20000 in
set_option maxHeartbeats 4000000 in
theorem m_X10_ofVersion (l : Launch) (dd : va_G) (cT : Nat → ClassId) (lo : Nat) (G : gH) (a0 : Nat) (x1 : Int32) (x2 : Int32) {rz : Int32} (h : f_X10_ofVersion G a0 x1 x2 = some rz) : Met l yX10_ofVersion (Cond.code yX10_ofVersion cX10_ofVersion 3 (some .int) :: wsL_law) (g_rm 0 0 0 0) (va_Pc [.ref a0, .int x1, .int x2] (g_Pre lo dd cT G)) (va_Qi (g_is rz G) (g_Pre lo dd cT) (g_A lo)) 0 0 (g_A lo) := by
  refine g_start RX10 rfl (by decide) (Nat.le_of_ble_eq_true rfl) ?_
  intro p e s m below meth c hx hb hr hlocks hml hown hnm hts hK hG hlo ls hl
  have hl : lv_has ls 3 [(0, .ref a0), (1, .int x1), (2, .int x2)] := hl
  have hG : g_S lo dd cT s s.heap [] G := hG
  unfold f_X10_ofVersion at h
  refine lv_aload_n hx hb dX10_ofVersion_0 rfl (lv_at hl 0 rfl) ?_
  obtain ⟨v1, e1, h⟩ := Option.bind_eq_some_iff.mp h
  refine g_getr hx hb hts inlX10 hown hK hG (by rfl) 1 (by decide) qF_X10_7 e1 dX10_ofVersion_1 ?_
  refine lv_sipush (v := (775 : Int32)) hx hb dX10_ofVersion_4 (by decide) ?_
  refine lv_iconst (v := (5 : Int32)) hx hb dX10_ofVersion_7 (by decide) ?_
  refine lv_iload_n hx hb dX10_ofVersion_8 rfl (lv_at hl 1 rfl) ?_
  refine lv_imul hx hb dX10_ofVersion_9 ?_
  refine lv_iadd hx hb dX10_ofVersion_10 ?_
  refine lv_iload_n hx hb dX10_ofVersion_11 rfl (lv_at hl 2 rfl) ?_
  refine lv_iadd hx hb dX10_ofVersion_12 ?_
  obtain ⟨v13, e13, h⟩ := Option.bind_eq_some_iff.mp h
  refine g_iald hx hb hK hG e13 dX10_ofVersion_13 ?_
  obtain rfl := Option.some.inj h
  exact g_iret hx hb hr hlocks hK hlo hG ⟨rfl, rfl⟩ dX10_ofVersion_14
def f_X10_latest (G : gH) (a0 : Nat) : Option Int32 :=
    (g_r G a0 10 1).bind fun v1 =>
    (g_ald 0 G v1 (3 : Int32)).bind fun v5 =>
    some (v5 - (1 : Int32))
set_option maxRecDepth 20000 in
set_option maxHeartbeats 4000000 in
theorem m_X10_latest (l : Launch) (dd : va_G) (cT : Nat → ClassId) (lo : Nat) (G : gH) (a0 : Nat) {rz : Int32} (h : f_X10_latest G a0 = some rz) : Met l yX10_latest (Cond.code yX10_latest cX10_latest 1 (some .int) :: wsL_law) (g_rm 0 0 0 0) (va_Pc [.ref a0] (g_Pre lo dd cT G)) (va_Qi (g_is rz G) (g_Pre lo dd cT) (g_A lo)) 0 0 (g_A lo) := by
  refine g_start RX10 rfl (by decide) (Nat.le_of_ble_eq_true rfl) ?_
  intro p e s m below meth c hx hb hr hlocks hml hown hnm hts hK hG hlo ls hl
  have hl : lv_has ls 1 [(0, .ref a0)] := hl
  have hG : g_S lo dd cT s s.heap [] G := hG
  unfold f_X10_latest at h
  refine lv_aload_n hx hb dX10_latest_0 rfl (lv_at hl 0 rfl) ?_
  obtain ⟨v1, e1, h⟩ := Option.bind_eq_some_iff.mp h
  refine g_getr hx hb hts inlX10 hown hK hG (by rfl) 1 (by decide) qF_X10_7 e1 dX10_latest_1 ?_
  refine lv_iconst (v := (3 : Int32)) hx hb dX10_latest_4 (by decide) ?_
  obtain ⟨v5, e5, h⟩ := Option.bind_eq_some_iff.mp h
  refine g_iald hx hb hK hG e5 dX10_latest_5 ?_
  refine lv_iconst (v := (1 : Int32)) hx hb dX10_latest_6 (by decide) ?_
  refine lv_isub hx hb dX10_latest_7 ?_
  obtain rfl := Option.some.inj h
  exact g_iret hx hb hr hlocks hK hlo hG ⟨rfl, rfl⟩ dX10_latest_8
def f_X10_isOpen (G : gH) (a0 : Nat) : Option Int32 :=
    (g_ob G a0 10).bind fun u1 =>
    (f_X10_latest G a0).bind fun v1 =>
    if v1 < 0 then
    some (0 : Int32)
    else
    (g_ob G a0 10).bind fun u9 =>
    (f_X10_latest G a0).bind fun v9 =>
    (g_ob G a0 10).bind fun u13 =>
    (f_X10_of G a0 v9 (0 : Int32)).bind fun v13 =>
    if v13 = 0 then
    some (1 : Int32)
    else
    some (0 : Int32)
set_option maxRecDepth 20000 in
set_option maxHeartbeats 4000000 in
theorem m_X10_isOpen (l : Launch) (dd : va_G) (cT : Nat → ClassId) (lo : Nat) (G : gH) (a0 : Nat) {rz : Int32} (h : f_X10_isOpen G a0 = some rz) : Met l yX10_isOpen (Cond.code yX10_isOpen cX10_isOpen 1 (some .boolean) :: wsL_law) (g_rm 1 22 0 0) (va_Pc [.ref a0] (g_Pre lo dd cT G)) (va_Qi (g_is rz G) (g_Pre lo dd cT) (g_A lo)) 0 0 (g_A lo) := by
  refine g_start RX10 rfl (by decide) (Nat.le_of_ble_eq_true rfl) ?_
  intro p e s m below meth c hx hb hr hlocks hml hown hnm hts hK hG hlo ls hl
  have hl : lv_has ls 1 [(0, .ref a0)] := hl
  have hG : g_S lo dd cT s s.heap [] G := hG
  unfold f_X10_isOpen at h
  refine lv_aload_n hx hb dX10_isOpen_0 rfl (lv_at hl 0 rfl) ?_
  obtain ⟨u1, i1, h⟩ := Option.bind_eq_some_iff.mp h
  obtain ⟨v1, e1, h⟩ := Option.bind_eq_some_iff.mp h
  refine g_cVi (As := []) (rest := []) (n := 0) hx hb hml hown hts hK hlo hG (m_X10_latest l dd cT lo G a0 e1) qM_X10_215 qI_yX10_latest qS_X10_yX10_latest qN_X10 qC_yX10_latest (by decide +kernel) ⟨Nat.le_of_ble_eq_true rfl, Nat.le_of_ble_eq_true rfl⟩ (by rfl) i1 rfl hl.1 rfl (Nat.le_of_ble_eq_true rfl) dX10_isOpen_1 ⟨Nat.le_of_ble_eq_true rfl, Nat.le_of_ble_eq_true rfl⟩ (fun H locs hG => ?_)
  refine lv_if_lt (tgt := 23) hx hb dX10_isOpen_4 (by decide) (fun c4 => ?_) (fun c4 => ?_)
  · rw [if_pos c4] at h
    refine lv_iconst (v := (0 : Int32)) hx hb dX10_isOpen_23 (by decide) ?_
    obtain rfl := Option.some.inj h
    exact g_zret hx hb hr hlocks hK hlo hG rfl ⟨rfl, rfl⟩ dX10_isOpen_24
  · rw [if_neg c4] at h
    refine lv_aload_n hx hb dX10_isOpen_7 rfl (lv_at hl 0 rfl) ?_
    refine lv_aload_n hx hb dX10_isOpen_8 rfl (lv_at hl 0 rfl) ?_
    obtain ⟨u9, i9, h⟩ := Option.bind_eq_some_iff.mp h
    obtain ⟨v9, e9, h⟩ := Option.bind_eq_some_iff.mp h
    refine g_cVi (As := []) (rest := [.ref a0]) (n := 0) hx hb hml hown hts hK hlo hG (m_X10_latest l dd cT lo G a0 e9) qM_X10_215 qI_yX10_latest qS_X10_yX10_latest qN_X10 qC_yX10_latest (by decide +kernel) ⟨Nat.le_of_ble_eq_true rfl, Nat.le_of_ble_eq_true rfl⟩ (by rfl) i9 rfl hl.1 rfl (Nat.le_of_ble_eq_true rfl) dX10_isOpen_9 ⟨Nat.le_of_ble_eq_true rfl, Nat.le_of_ble_eq_true rfl⟩ (fun H locs hG => ?_)
    refine lv_iconst (v := (0 : Int32)) hx hb dX10_isOpen_12 (by decide) ?_
    obtain ⟨u13, i13, h⟩ := Option.bind_eq_some_iff.mp h
    obtain ⟨v13, e13, h⟩ := Option.bind_eq_some_iff.mp h
    refine g_cVi (As := [.int v9, .int (0 : Int32)]) (rest := []) (n := 2) hx hb hml hown hts hK hlo hG (m_X10_of l dd cT lo G a0 v9 (0 : Int32) e13) qM_X10_218 qI_yX10_of qS_X10_yX10_of qN_X10 qC_yX10_of (by decide +kernel) ⟨Nat.le_of_ble_eq_true rfl, Nat.le_of_ble_eq_true rfl⟩ (by rfl) i13 rfl hl.1 rfl (Nat.le_of_ble_eq_true rfl) dX10_isOpen_13 ⟨Nat.le_of_ble_eq_true rfl, Nat.le_of_ble_eq_true rfl⟩ (fun H locs hG => ?_)
    refine lv_if_ne (tgt := 23) hx hb dX10_isOpen_16 (by decide) (fun c16 => ?_) (fun c16 => ?_)
    · rw [if_neg c16] at h
      refine lv_iconst (v := (0 : Int32)) hx hb dX10_isOpen_23 (by decide) ?_
      obtain rfl := Option.some.inj h
      exact g_zret hx hb hr hlocks hK hlo hG rfl ⟨rfl, rfl⟩ dX10_isOpen_24
    · rw [if_pos c16] at h
      refine lv_iconst (v := (1 : Int32)) hx hb dX10_isOpen_19 (by decide) ?_
      refine lv_goto (tgt := 24) hx hb dX10_isOpen_20 (by decide) ?_
      obtain rfl := Option.some.inj h
      exact g_zret hx hb hr hlocks hK hlo hG rfl ⟨rfl, rfl⟩ dX10_isOpen_24
def f_X10_entryOf_L2 (G : gH) : Nat → Nat → Int32 → Int32 → Int32 → Option Int32
  | 0, _, _, _, _ => none
  | n + 1, ba0, bx1, bx2, bx3 =>
    (g_ob G ba0 10).bind fun u6 =>
    (f_X10_of G ba0 bx1 (2 : Int32)).bind fun v6 =>
    if v6 ≤ bx3 then
    some (-1 : Int32)
    else
    (g_ob G ba0 10).bind fun u19 =>
    (f_X10_of G ba0 bx1 ((5 : Int32) + ((2 : Int32) * bx3))).bind fun v19 =>
    if v19 = bx2 then
    some bx3
    else
    f_X10_entryOf_L2 G n ba0 bx1 bx2 (bx3 + (1 : Int32))
def f_X10_entryOf (G : gH) (a0 : Nat) (x1 : Int32) (x2 : Int32) : Option Int32 :=
    f_X10_entryOf_L2 G g_N a0 x1 x2 (0 : Int32)
set_option maxRecDepth 20000 in
set_option maxHeartbeats 4000000 in
theorem m_X10_entryOf (l : Launch) (dd : va_G) (cT : Nat → ClassId) (lo : Nat) (G : gH) (a0 : Nat) (x1 : Int32) (x2 : Int32) {rz : Int32} (h : f_X10_entryOf G a0 x1 x2 = some rz) : Met l yX10_entryOf (Cond.code yX10_entryOf cX10_entryOf 4 (some .int) :: wsL_law) (g_rm 1 22 0 0) (va_Pc [.ref a0, .int x1, .int x2] (g_Pre lo dd cT G)) (va_Qi (g_is rz G) (g_Pre lo dd cT) (g_A lo)) 0 0 (g_A lo) := by
  refine g_start RX10 rfl (by decide) (Nat.le_of_ble_eq_true rfl) ?_
  intro p e s m below meth c hx hb hr hlocks hml hown hnm hts hK hG hlo ls hl
  have hl : lv_has ls 4 [(0, .ref a0), (1, .int x1), (2, .int x2)] := hl
  have hG : g_S lo dd cT s s.heap [] G := hG
  have h2 : ∀ n : Nat, ∀ (ba0 : Nat) (bx1 : Int32) (bx2 : Int32) (bx3 : Int32), ∀ (H : Heap) (locs : List Loc), g_S lo dd cT s H locs G → ∀ ls : Array Slot, lv_has ls 4 [(0, .ref ba0), (1, .int bx1), (2, .int bx2), (3, .int bx3)] → f_X10_entryOf_L2 G n ba0 bx1 bx2 bx3 = some rz → W p l e (g_rm 1 22 0 0) s m ([.ref a0, .int x1, .int x2] : List Value).toArray below meth c H locs 0 0 (MQ below (va_Qi (g_is rz G) (g_Pre lo dd cT) (g_A lo)) ([.ref a0, .int x1, .int x2] : List Value).toArray s 0 0 (g_A lo)) (F0 m 2 ls []) := by
    intro n
    induction n with
    | zero =>
      intro ba0 bx1 bx2 bx3 H locs hG ls hl h
      cases (show (none : Option Int32) = some rz from h)
    | succ n ih =>
      intro ba0 bx1 bx2 bx3 H locs hG ls hl h
      rw [f_X10_entryOf_L2] at h
      refine lv_iload_n hx hb dX10_entryOf_2 rfl (lv_at hl 3 rfl) ?_
      refine lv_aload_n hx hb dX10_entryOf_3 rfl (lv_at hl 0 rfl) ?_
      refine lv_iload_n hx hb dX10_entryOf_4 rfl (lv_at hl 1 rfl) ?_
      refine lv_iconst (v := (2 : Int32)) hx hb dX10_entryOf_5 (by decide) ?_
      obtain ⟨u6, i6, h⟩ := Option.bind_eq_some_iff.mp h
      obtain ⟨v6, e6, h⟩ := Option.bind_eq_some_iff.mp h
      refine g_cVi (As := [.int bx1, .int (2 : Int32)]) (rest := [.int bx3]) (n := 2) hx hb hml hown hts hK hlo hG (m_X10_of l dd cT lo G ba0 bx1 (2 : Int32) e6) qM_X10_218 qI_yX10_of qS_X10_yX10_of qN_X10 qC_yX10_of (by decide +kernel) ⟨Nat.le_of_ble_eq_true rfl, Nat.le_of_ble_eq_true rfl⟩ (by rfl) i6 rfl hl.1 rfl (Nat.le_of_ble_eq_true rfl) dX10_entryOf_6 ⟨Nat.le_of_ble_eq_true rfl, Nat.le_of_ble_eq_true rfl⟩ (fun H locs hG => ?_)
      refine lv_icmp_ge (tgt := 34) hx hb dX10_entryOf_9 (by decide) (fun c9 => ?_) (fun c9 => ?_)
      · rw [if_pos c9] at h
        refine lv_iconst (v := (-1 : Int32)) hx hb dX10_entryOf_34 (by decide) ?_
        obtain rfl := Option.some.inj h
        exact g_iret hx hb hr hlocks hK hlo hG ⟨rfl, rfl⟩ dX10_entryOf_35
      · rw [if_neg c9] at h
        refine lv_aload_n hx hb dX10_entryOf_12 rfl (lv_at hl 0 rfl) ?_
        refine lv_iload_n hx hb dX10_entryOf_13 rfl (lv_at hl 1 rfl) ?_
        refine lv_iconst (v := (5 : Int32)) hx hb dX10_entryOf_14 (by decide) ?_
        refine lv_iconst (v := (2 : Int32)) hx hb dX10_entryOf_15 (by decide) ?_
        refine lv_iload_n hx hb dX10_entryOf_16 rfl (lv_at hl 3 rfl) ?_
        refine lv_imul hx hb dX10_entryOf_17 ?_
        refine lv_iadd hx hb dX10_entryOf_18 ?_
        obtain ⟨u19, i19, h⟩ := Option.bind_eq_some_iff.mp h
        obtain ⟨v19, e19, h⟩ := Option.bind_eq_some_iff.mp h
        refine g_cVi (As := [.int bx1, .int ((5 : Int32) + ((2 : Int32) * bx3))]) (rest := []) (n := 2) hx hb hml hown hts hK hlo hG (m_X10_of l dd cT lo G ba0 bx1 ((5 : Int32) + ((2 : Int32) * bx3)) e19) qM_X10_218 qI_yX10_of qS_X10_yX10_of qN_X10 qC_yX10_of (by decide +kernel) ⟨Nat.le_of_ble_eq_true rfl, Nat.le_of_ble_eq_true rfl⟩ (by rfl) i19 rfl hl.1 rfl (Nat.le_of_ble_eq_true rfl) dX10_entryOf_19 ⟨Nat.le_of_ble_eq_true rfl, Nat.le_of_ble_eq_true rfl⟩ (fun H locs hG => ?_)
        refine lv_iload_n hx hb dX10_entryOf_22 rfl (lv_at hl 2 rfl) ?_
        refine lv_icmp_ne (tgt := 28) hx hb dX10_entryOf_23 (by decide) (fun c23 => ?_) (fun c23 => ?_)
        · rw [if_neg c23] at h
          refine lv_iinc (v := (bx3 + (1 : Int32))) (lv' := [(3, .int (bx3 + (1 : Int32))), (0, .ref ba0), (1, .int bx1), (2, .int bx2)]) hx hb dX10_entryOf_28 hl (k := 3) rfl rfl (by decide) rfl (fun ls hl => ?_)
          refine lv_goto (tgt := 2) hx hb dX10_entryOf_31 (by decide) ?_
          exact ih ba0 bx1 bx2 (bx3 + (1 : Int32)) _ _ hG _ (lv_sub hl [1, 2, 3, 0] rfl) h
        · rw [if_pos c23] at h
          refine lv_iload_n hx hb dX10_entryOf_26 rfl (lv_at hl 3 rfl) ?_
          obtain rfl := Option.some.inj h
          exact g_iret hx hb hr hlocks hK hlo hG ⟨rfl, rfl⟩ dX10_entryOf_27
  unfold f_X10_entryOf at h
  refine lv_iconst (v := (0 : Int32)) hx hb dX10_entryOf_0 (by decide) ?_
  refine lv_istore_n (lv' := [(3, .int (0 : Int32)), (0, .ref a0), (1, .int x1), (2, .int x2)]) hx hb dX10_entryOf_1 rfl hl (by decide) rfl (fun ls hl => ?_)
  exact h2 g_N a0 x1 x2 (0 : Int32) _ _ hG _ (lv_sub hl [1, 2, 3, 0] rfl) h
def f_X10_canReadDirectory (G : gH) (a0 : Nat) (x1 : Int32) : Option Int32 :=
    (g_ob G a0 10).bind fun u3 =>
    (f_X10_of G a0 x1 (3 : Int32)).bind fun v3 =>
    if v3 ≤ 0 then
    some (0 : Int32)
    else
    (g_ob G a0 10).bind fun u13 =>
    (f_X10_of G a0 x1 (3 : Int32)).bind fun v13 =>
    (g_ob G a0 10).bind fun u21 =>
    (f_X10_of G a0 x1 (2 : Int32)).bind fun v21 =>
    (f_X10_directoryLong G v21).bind fun v24 =>
    (g_ob G a0 10).bind fun u27 =>
    (f_X10_canRead G a0 (v13 - (1 : Int32)) v24).bind fun v27 =>
    if v27 = 0 then
    some (0 : Int32)
    else
    some (1 : Int32)
set_option maxRecDepth 20000 in
set_option maxHeartbeats 4000000 in
theorem m_X10_canReadDirectory (l : Launch) (dd : va_G) (cT : Nat → ClassId) (lo : Nat) (G : gH) (a0 : Nat) (x1 : Int32) {rz : Int32} (h : f_X10_canReadDirectory G a0 x1 = some rz) : Met l yX10_canReadDirectory (Cond.code yX10_canReadDirectory cX10_canReadDirectory 2 (some .boolean) :: wsL_law) (g_rm 2 45 0 0) (va_Pc [.ref a0, .int x1] (g_Pre lo dd cT G)) (va_Qi (g_is rz G) (g_Pre lo dd cT) (g_A lo)) 0 0 (g_A lo) := by
  refine g_start RX10 rfl (by decide) (Nat.le_of_ble_eq_true rfl) ?_
  intro p e s m below meth c hx hb hr hlocks hml hown hnm hts hK hG hlo ls hl
  have hl : lv_has ls 2 [(0, .ref a0), (1, .int x1)] := hl
  have hG : g_S lo dd cT s s.heap [] G := hG
  unfold f_X10_canReadDirectory at h
  refine lv_aload_n hx hb dX10_canReadDirectory_0 rfl (lv_at hl 0 rfl) ?_
  refine lv_iload_n hx hb dX10_canReadDirectory_1 rfl (lv_at hl 1 rfl) ?_
  refine lv_iconst (v := (3 : Int32)) hx hb dX10_canReadDirectory_2 (by decide) ?_
  obtain ⟨u3, i3, h⟩ := Option.bind_eq_some_iff.mp h
  obtain ⟨v3, e3, h⟩ := Option.bind_eq_some_iff.mp h
  refine g_cVi (As := [.int x1, .int (3 : Int32)]) (rest := []) (n := 2) hx hb hml hown hts hK hlo hG (m_X10_of l dd cT lo G a0 x1 (3 : Int32) e3) qM_X10_218 qI_yX10_of qS_X10_yX10_of qN_X10 qC_yX10_of (by decide +kernel) ⟨Nat.le_of_ble_eq_true rfl, Nat.le_of_ble_eq_true rfl⟩ (by rfl) i3 rfl hl.1 rfl (Nat.le_of_ble_eq_true rfl) dX10_canReadDirectory_3 ⟨Nat.le_of_ble_eq_true rfl, Nat.le_of_ble_eq_true rfl⟩ (fun H locs hG => ?_)
  refine lv_if_le (tgt := 37) hx hb dX10_canReadDirectory_6 (by decide) (fun c6 => ?_) (fun c6 => ?_)
  · rw [if_pos c6] at h
    refine lv_iconst (v := (0 : Int32)) hx hb dX10_canReadDirectory_37 (by decide) ?_
    obtain rfl := Option.some.inj h
    exact g_zret hx hb hr hlocks hK hlo hG rfl ⟨rfl, rfl⟩ dX10_canReadDirectory_38
  · rw [if_neg c6] at h
    refine lv_aload_n hx hb dX10_canReadDirectory_9 rfl (lv_at hl 0 rfl) ?_
    refine lv_aload_n hx hb dX10_canReadDirectory_10 rfl (lv_at hl 0 rfl) ?_
    refine lv_iload_n hx hb dX10_canReadDirectory_11 rfl (lv_at hl 1 rfl) ?_
    refine lv_iconst (v := (3 : Int32)) hx hb dX10_canReadDirectory_12 (by decide) ?_
    obtain ⟨u13, i13, h⟩ := Option.bind_eq_some_iff.mp h
    obtain ⟨v13, e13, h⟩ := Option.bind_eq_some_iff.mp h
    refine g_cVi (As := [.int x1, .int (3 : Int32)]) (rest := [.ref a0]) (n := 2) hx hb hml hown hts hK hlo hG (m_X10_of l dd cT lo G a0 x1 (3 : Int32) e13) qM_X10_218 qI_yX10_of qS_X10_yX10_of qN_X10 qC_yX10_of (by decide +kernel) ⟨Nat.le_of_ble_eq_true rfl, Nat.le_of_ble_eq_true rfl⟩ (by rfl) i13 rfl hl.1 rfl (Nat.le_of_ble_eq_true rfl) dX10_canReadDirectory_13 ⟨Nat.le_of_ble_eq_true rfl, Nat.le_of_ble_eq_true rfl⟩ (fun H locs hG => ?_)
    refine lv_iconst (v := (1 : Int32)) hx hb dX10_canReadDirectory_16 (by decide) ?_
    refine lv_isub hx hb dX10_canReadDirectory_17 ?_
    refine lv_aload_n hx hb dX10_canReadDirectory_18 rfl (lv_at hl 0 rfl) ?_
    refine lv_iload_n hx hb dX10_canReadDirectory_19 rfl (lv_at hl 1 rfl) ?_
    refine lv_iconst (v := (2 : Int32)) hx hb dX10_canReadDirectory_20 (by decide) ?_
    obtain ⟨u21, i21, h⟩ := Option.bind_eq_some_iff.mp h
    obtain ⟨v21, e21, h⟩ := Option.bind_eq_some_iff.mp h
    refine g_cVi (As := [.int x1, .int (2 : Int32)]) (rest := [.int (v13 - (1 : Int32)), .ref a0]) (n := 2) hx hb hml hown hts hK hlo hG (m_X10_of l dd cT lo G a0 x1 (2 : Int32) e21) qM_X10_218 qI_yX10_of qS_X10_yX10_of qN_X10 qC_yX10_of (by decide +kernel) ⟨Nat.le_of_ble_eq_true rfl, Nat.le_of_ble_eq_true rfl⟩ (by rfl) i21 rfl hl.1 rfl (Nat.le_of_ble_eq_true rfl) dX10_canReadDirectory_21 ⟨Nat.le_of_ble_eq_true rfl, Nat.le_of_ble_eq_true rfl⟩ (fun H locs hG => ?_)
    obtain ⟨v24, e24, h⟩ := Option.bind_eq_some_iff.mp h
    refine g_cSi (As := [.int v21]) (rest := [.int (v13 - (1 : Int32)), .ref a0]) (n := 1) hx hb hml hown hts hK hlo hG (m_X10_directoryLong l dd cT lo G v21 e24) qM_X10_221 qT_yX10_directoryLong qN_X10 qC_yX10_directoryLong (by decide +kernel) ⟨Nat.le_of_ble_eq_true rfl, Nat.le_of_ble_eq_true rfl⟩ rfl hl.1 rfl (Nat.le_of_ble_eq_true rfl) dX10_canReadDirectory_24 ⟨Nat.le_of_ble_eq_true rfl, Nat.le_of_ble_eq_true rfl⟩ (fun H locs hG => ?_)
    obtain ⟨u27, i27, h⟩ := Option.bind_eq_some_iff.mp h
    obtain ⟨v27, e27, h⟩ := Option.bind_eq_some_iff.mp h
    refine g_cVi (As := [.int (v13 - (1 : Int32)), .int v24]) (rest := []) (n := 2) hx hb hml hown hts hK hlo hG (m_X10_canRead l dd cT lo G a0 (v13 - (1 : Int32)) v24 e27) qM_X10_224 qI_yX10_canRead qS_X10_yX10_canRead qN_X10 qC_yX10_canRead (by decide +kernel) ⟨Nat.le_of_ble_eq_true rfl, Nat.le_of_ble_eq_true rfl⟩ (by rfl) i27 rfl hl.1 rfl (Nat.le_of_ble_eq_true rfl) dX10_canReadDirectory_27 ⟨Nat.le_of_ble_eq_true rfl, Nat.le_of_ble_eq_true rfl⟩ (fun H locs hG => ?_)
    refine lv_if_eq (tgt := 37) hx hb dX10_canReadDirectory_30 (by decide) (fun c30 => ?_) (fun c30 => ?_)
    · rw [if_pos c30] at h
      refine lv_iconst (v := (0 : Int32)) hx hb dX10_canReadDirectory_37 (by decide) ?_
      obtain rfl := Option.some.inj h
      exact g_zret hx hb hr hlocks hK hlo hG rfl ⟨rfl, rfl⟩ dX10_canReadDirectory_38
    · rw [if_neg c30] at h
      refine lv_iconst (v := (1 : Int32)) hx hb dX10_canReadDirectory_33 (by decide) ?_
      refine lv_goto (tgt := 38) hx hb dX10_canReadDirectory_34 (by decide) ?_
      obtain rfl := Option.some.inj h
      exact g_zret hx hb hr hlocks hK hlo hG rfl ⟨rfl, rfl⟩ dX10_canReadDirectory_38
def f_X10_searches_J82 (k12 : gH → Nat → Int32 → Int32 → Option gH) (G : gH) (ba0 : Nat) (bx2 : Int32) (bx3 : Int32) (z0 : Int32) : Option gH :=
    if bx3 = 0 then
    k12 G ba0 z0 (bx2 + (-1 : Int32))
    else
    (g_r G ba0 10 17).bind fun v88 =>
    (g_i G ba0 10 18).bind fun v92 =>
    (g_ast 0 G v88 v92 bx2).bind fun G96 =>
    (g_i G96 ba0 10 18).bind fun v99 =>
    (g_put G96 ba0 10 18 (.int (v99 + (1 : Int32)))).bind fun G104 =>
    k12 G104 ba0 z0 (bx2 + (-1 : Int32))
def f_X10_searches_J52 (k12 : gH → Nat → Int32 → Int32 → Option gH) (G : gH) (ba0 : Nat) (bx2 : Int32) (z0 : Int32) : Option gH :=
    if z0 = 0 then
    (g_ob G ba0 10).bind fun u60 =>
    (f_X10_of G ba0 bx2 (0 : Int32)).bind fun v60 =>
    if v60 = (1 : Int32) then
    (g_r G ba0 10 1).bind fun v68 =>
    (g_ald 0 G v68 (5 : Int32)).bind fun v72 =>
    if v72 = (1 : Int32) then
    f_X10_searches_J82 k12 G ba0 bx2 z0 (1 : Int32)
    else
    f_X10_searches_J82 k12 G ba0 bx2 z0 (0 : Int32)
    else
    f_X10_searches_J82 k12 G ba0 bx2 z0 (1 : Int32)
    else
    f_X10_searches_J82 k12 G ba0 bx2 z0 (1 : Int32)
def f_X10_searches_L12 : Nat → gH → Nat → Int32 → Int32 → Option gH
  | 0, _, _, _, _ => none
  | n + 1, G, ba0, bx1, bx2 =>
    if bx2 < 0 then
    some G
    else
    if bx1 = 0 then
    some G
    else
    (g_ob G ba0 10).bind fun u23 =>
    (f_X10_of G ba0 bx2 (0 : Int32)).bind fun v23 =>
    if v23 = 0 then
    f_X10_searches_J52 (f_X10_searches_L12 n) G ba0 bx2 (1 : Int32)
    else
    (g_ob G ba0 10).bind fun u32 =>
    (f_X10_of G ba0 bx2 (0 : Int32)).bind fun v32 =>
    if v32 = (1 : Int32) then
    (g_ob G ba0 10).bind fun u41 =>
    (f_X10_canReadDirectory G ba0 bx2).bind fun v41 =>
    if v41 = 0 then
    f_X10_searches_J52 (f_X10_searches_L12 n) G ba0 bx2 (0 : Int32)
    else
    f_X10_searches_J52 (f_X10_searches_L12 n) G ba0 bx2 (1 : Int32)
    else
    f_X10_searches_J52 (f_X10_searches_L12 n) G ba0 bx2 (0 : Int32)
def f_X10_searches (G : gH) (a0 : Nat) : Option gH :=
    (g_put G a0 10 18 (.int (0 : Int32))).bind fun G2 =>
    (g_ob G2 a0 10).bind fun u8 =>
    (f_X10_latest G2 a0).bind fun v8 =>
    f_X10_searches_L12 g_N G2 a0 (1 : Int32) v8
set_option maxRecDepth 20000 in
set_option maxHeartbeats 4000000 in
theorem m_X10_searches (l : Launch) (dd : va_G) (cT : Nat → ClassId) (lo : Nat) (G : gH) (a0 : Nat) {Gz : gH} (h : f_X10_searches G a0 = some Gz) : Met l yX10_searches (Cond.code yX10_searches cX10_searches 4 none :: wsL_law) (g_rm 3 66 0 0) (va_Pc [.ref a0] (g_Pre lo dd cT G)) (va_Qv (g_iv Gz) (g_Pre lo dd cT) (g_A lo)) 0 0 (g_A lo) := by
  refine g_start RX10 rfl (by decide) (Nat.le_of_ble_eq_true rfl) ?_
  intro p e s m below meth c hx hb hr hlocks hml hown hnm hts hK hG hlo ls hl
  have hl : lv_has ls 4 [(0, .ref a0)] := hl
  have hG : g_S lo dd cT s s.heap [] G := hG
  have h12 : ∀ n : Nat, ∀ (G : gH) (ba0 : Nat) (bx1 : Int32) (bx2 : Int32), ∀ (H : Heap) (locs : List Loc), g_S lo dd cT s H locs G → ∀ ls : Array Slot, lv_has ls 4 [(0, .ref ba0), (1, .int bx1), (2, .int bx2)] → f_X10_searches_L12 n G ba0 bx1 bx2 = some Gz → W p l e (g_rm 3 66 0 0) s m ([.ref a0] : List Value).toArray below meth c H locs 0 0 (MQ below (va_Qv (g_iv Gz) (g_Pre lo dd cT) (g_A lo)) ([.ref a0] : List Value).toArray s 0 0 (g_A lo)) (F0 m 12 ls []) := by
    intro n
    induction n with
    | zero =>
      intro G ba0 bx1 bx2 H locs hG ls hl h
      cases (show (none : Option gH) = some Gz from h)
    | succ n ih =>
      intro G ba0 bx1 bx2 H locs hG ls hl h
      rw [f_X10_searches_L12] at h
      have h82 : ∀ (G : gH) (ba0 : Nat) (bx2 : Int32) (bx3 : Int32) (z0 : Int32), ∀ (H : Heap) (locs : List Loc), g_S lo dd cT s H locs G → ∀ ls : Array Slot, lv_has ls 4 [(0, .ref ba0), (2, .int bx2), (3, .int bx3)] → f_X10_searches_J82 (f_X10_searches_L12 n) G ba0 bx2 bx3 z0 = some Gz → W p l e (g_rm 3 66 0 0) s m ([.ref a0] : List Value).toArray below meth c H locs 0 0 (MQ below (va_Qv (g_iv Gz) (g_Pre lo dd cT) (g_A lo)) ([.ref a0] : List Value).toArray s 0 0 (g_A lo)) (F0 m 82 ls [.int z0]) := by
        intro G ba0 bx2 bx3 z0 H locs hG ls hl h
        unfold f_X10_searches_J82 at h
        refine lv_istore_n (lv' := [(1, .int z0), (0, .ref ba0), (2, .int bx2), (3, .int bx3)]) hx hb dX10_searches_82 rfl hl (by decide) rfl (fun ls hl => ?_)
        refine lv_iload_n hx hb dX10_searches_83 rfl (lv_at hl 3 rfl) ?_
        refine lv_if_eq (tgt := 107) hx hb dX10_searches_84 (by decide) (fun c84 => ?_) (fun c84 => ?_)
        · rw [if_pos c84] at h
          refine lv_iinc (v := (bx2 + (-1 : Int32))) (lv' := [(2, .int (bx2 + (-1 : Int32))), (1, .int z0), (0, .ref ba0), (3, .int bx3)]) hx hb dX10_searches_107 hl (k := 2) rfl rfl (by decide) rfl (fun ls hl => ?_)
          refine lv_goto (tgt := 12) hx hb dX10_searches_110 (by decide) ?_
          exact ih G ba0 z0 (bx2 + (-1 : Int32)) _ _ hG _ (lv_sub hl [2, 1, 0] rfl) h
        · rw [if_neg c84] at h
          refine lv_aload_n hx hb dX10_searches_87 rfl (lv_at hl 1 rfl) ?_
          obtain ⟨v88, e88, h⟩ := Option.bind_eq_some_iff.mp h
          refine g_getr hx hb hts inlX10 hown hK hG (by rfl) 17 (by decide) qF_X10_31 e88 dX10_searches_88 ?_
          refine lv_aload_n hx hb dX10_searches_91 rfl (lv_at hl 1 rfl) ?_
          obtain ⟨v92, e92, h⟩ := Option.bind_eq_some_iff.mp h
          refine g_geti hx hb hts inlX10 hown hK hG (by rfl) 18 (by decide) qF_X10_227 e92 dX10_searches_92 ?_
          refine lv_iload_n hx hb dX10_searches_95 rfl (lv_at hl 2 rfl) ?_
          obtain ⟨G96, e96, h⟩ := Option.bind_eq_some_iff.mp h
          refine g_iast hx hb hK hG e96 dX10_searches_96 (fun H locs hG => ?_)
          refine lv_aload_n hx hb dX10_searches_97 rfl (lv_at hl 1 rfl) ?_
          refine lv_dup hx hb dX10_searches_98 rfl ?_
          obtain ⟨v99, e99, h⟩ := Option.bind_eq_some_iff.mp h
          refine g_geti hx hb hts inlX10 hown hK hG (by rfl) 18 (by decide) qF_X10_227 e99 dX10_searches_99 ?_
          refine lv_iconst (v := (1 : Int32)) hx hb dX10_searches_102 (by decide) ?_
          refine lv_iadd hx hb dX10_searches_103 ?_
          obtain ⟨G104, i104, h⟩ := Option.bind_eq_some_iff.mp h
          refine g_putv hx hb hts inlX10 tyX10 tyX10_ok nmX10 hown hK hG (by rfl) 18 (by decide) qF_X10_227 rfl rfl rfl rfl i104 dX10_searches_104 (fun H locs hG => ?_)
          refine lv_iinc (v := (bx2 + (-1 : Int32))) (lv' := [(2, .int (bx2 + (-1 : Int32))), (1, .int z0), (0, .ref ba0), (3, .int bx3)]) hx hb dX10_searches_107 hl (k := 2) rfl rfl (by decide) rfl (fun ls hl => ?_)
          refine lv_goto (tgt := 12) hx hb dX10_searches_110 (by decide) ?_
          exact ih G104 ba0 z0 (bx2 + (-1 : Int32)) _ _ hG _ (lv_sub hl [2, 1, 0] rfl) h
      have h52 : ∀ (G : gH) (ba0 : Nat) (bx2 : Int32) (z0 : Int32), ∀ (H : Heap) (locs : List Loc), g_S lo dd cT s H locs G → ∀ ls : Array Slot, lv_has ls 4 [(0, .ref ba0), (2, .int bx2)] → f_X10_searches_J52 (f_X10_searches_L12 n) G ba0 bx2 z0 = some Gz → W p l e (g_rm 3 66 0 0) s m ([.ref a0] : List Value).toArray below meth c H locs 0 0 (MQ below (va_Qv (g_iv Gz) (g_Pre lo dd cT) (g_A lo)) ([.ref a0] : List Value).toArray s 0 0 (g_A lo)) (F0 m 52 ls [.int z0]) := by
        intro G ba0 bx2 z0 H locs hG ls hl h
        unfold f_X10_searches_J52 at h
        refine lv_istore_n (lv' := [(3, .int z0), (0, .ref ba0), (2, .int bx2)]) hx hb dX10_searches_52 rfl hl (by decide) rfl (fun ls hl => ?_)
        refine lv_iload_n hx hb dX10_searches_53 rfl (lv_at hl 0 rfl) ?_
        refine lv_if_ne (tgt := 77) hx hb dX10_searches_54 (by decide) (fun c54 => ?_) (fun c54 => ?_)
        · rw [if_neg c54] at h
          refine lv_iconst (v := (1 : Int32)) hx hb dX10_searches_77 (by decide) ?_
          refine lv_goto (tgt := 82) hx hb dX10_searches_78 (by decide) ?_
          exact h82 G ba0 bx2 z0 (1 : Int32) _ _ hG _ (lv_sub hl [1, 2, 0] rfl) h
        · rw [if_pos c54] at h
          refine lv_aload_n hx hb dX10_searches_57 rfl (lv_at hl 1 rfl) ?_
          refine lv_iload_n hx hb dX10_searches_58 rfl (lv_at hl 2 rfl) ?_
          refine lv_iconst (v := (0 : Int32)) hx hb dX10_searches_59 (by decide) ?_
          obtain ⟨u60, i60, h⟩ := Option.bind_eq_some_iff.mp h
          obtain ⟨v60, e60, h⟩ := Option.bind_eq_some_iff.mp h
          refine g_cVi (As := [.int bx2, .int (0 : Int32)]) (rest := []) (n := 2) hx hb hml hown hts hK hlo hG (m_X10_of l dd cT lo G ba0 bx2 (0 : Int32) e60) qM_X10_218 qI_yX10_of qS_X10_yX10_of qN_X10 qC_yX10_of (by decide +kernel) ⟨Nat.le_of_ble_eq_true rfl, Nat.le_of_ble_eq_true rfl⟩ (by rfl) i60 rfl hl.1 rfl (Nat.le_of_ble_eq_true rfl) dX10_searches_60 ⟨Nat.le_of_ble_eq_true rfl, Nat.le_of_ble_eq_true rfl⟩ (fun H locs hG => ?_)
          refine lv_iconst (v := (1 : Int32)) hx hb dX10_searches_63 (by decide) ?_
          refine lv_icmp_ne (tgt := 77) hx hb dX10_searches_64 (by decide) (fun c64 => ?_) (fun c64 => ?_)
          · rw [if_neg c64] at h
            refine lv_iconst (v := (1 : Int32)) hx hb dX10_searches_77 (by decide) ?_
            refine lv_goto (tgt := 82) hx hb dX10_searches_78 (by decide) ?_
            exact h82 G ba0 bx2 z0 (1 : Int32) _ _ hG _ (lv_sub hl [1, 2, 0] rfl) h
          · rw [if_pos c64] at h
            refine lv_aload_n hx hb dX10_searches_67 rfl (lv_at hl 1 rfl) ?_
            obtain ⟨v68, e68, h⟩ := Option.bind_eq_some_iff.mp h
            refine g_getr hx hb hts inlX10 hown hK hG (by rfl) 1 (by decide) qF_X10_7 e68 dX10_searches_68 ?_
            refine lv_iconst (v := (5 : Int32)) hx hb dX10_searches_71 (by decide) ?_
            obtain ⟨v72, e72, h⟩ := Option.bind_eq_some_iff.mp h
            refine g_iald hx hb hK hG e72 dX10_searches_72 ?_
            refine lv_iconst (v := (1 : Int32)) hx hb dX10_searches_73 (by decide) ?_
            refine lv_icmp_ne (tgt := 81) hx hb dX10_searches_74 (by decide) (fun c74 => ?_) (fun c74 => ?_)
            · rw [if_neg c74] at h
              refine lv_iconst (v := (0 : Int32)) hx hb dX10_searches_81 (by decide) ?_
              exact h82 G ba0 bx2 z0 (0 : Int32) _ _ hG _ (lv_sub hl [1, 2, 0] rfl) h
            · rw [if_pos c74] at h
              refine lv_iconst (v := (1 : Int32)) hx hb dX10_searches_77 (by decide) ?_
              refine lv_goto (tgt := 82) hx hb dX10_searches_78 (by decide) ?_
              exact h82 G ba0 bx2 z0 (1 : Int32) _ _ hG _ (lv_sub hl [1, 2, 0] rfl) h
      refine lv_iload_n hx hb dX10_searches_12 rfl (lv_at hl 2 rfl) ?_
      refine lv_if_lt (tgt := 113) hx hb dX10_searches_13 (by decide) (fun c13 => ?_) (fun c13 => ?_)
      · rw [if_pos c13] at h
        obtain rfl := Option.some.inj h
        exact g_vret hx hb hr hlocks hK hlo hG rfl dX10_searches_113
      · rw [if_neg c13] at h
        refine lv_iload_n hx hb dX10_searches_16 rfl (lv_at hl 1 rfl) ?_
        refine lv_if_eq (tgt := 113) hx hb dX10_searches_17 (by decide) (fun c17 => ?_) (fun c17 => ?_)
        · rw [if_pos c17] at h
          obtain rfl := Option.some.inj h
          exact g_vret hx hb hr hlocks hK hlo hG rfl dX10_searches_113
        · rw [if_neg c17] at h
          refine lv_aload_n hx hb dX10_searches_20 rfl (lv_at hl 0 rfl) ?_
          refine lv_iload_n hx hb dX10_searches_21 rfl (lv_at hl 2 rfl) ?_
          refine lv_iconst (v := (0 : Int32)) hx hb dX10_searches_22 (by decide) ?_
          obtain ⟨u23, i23, h⟩ := Option.bind_eq_some_iff.mp h
          obtain ⟨v23, e23, h⟩ := Option.bind_eq_some_iff.mp h
          refine g_cVi (As := [.int bx2, .int (0 : Int32)]) (rest := []) (n := 2) hx hb hml hown hts hK hlo hG (m_X10_of l dd cT lo G ba0 bx2 (0 : Int32) e23) qM_X10_218 qI_yX10_of qS_X10_yX10_of qN_X10 qC_yX10_of (by decide +kernel) ⟨Nat.le_of_ble_eq_true rfl, Nat.le_of_ble_eq_true rfl⟩ (by rfl) i23 rfl hl.1 rfl (Nat.le_of_ble_eq_true rfl) dX10_searches_23 ⟨Nat.le_of_ble_eq_true rfl, Nat.le_of_ble_eq_true rfl⟩ (fun H locs hG => ?_)
          refine lv_if_eq (tgt := 47) hx hb dX10_searches_26 (by decide) (fun c26 => ?_) (fun c26 => ?_)
          · rw [if_pos c26] at h
            refine lv_iconst (v := (1 : Int32)) hx hb dX10_searches_47 (by decide) ?_
            refine lv_goto (tgt := 52) hx hb dX10_searches_48 (by decide) ?_
            exact h52 G ba0 bx2 (1 : Int32) _ _ hG _ (lv_sub hl [0, 2] rfl) h
          · rw [if_neg c26] at h
            refine lv_aload_n hx hb dX10_searches_29 rfl (lv_at hl 0 rfl) ?_
            refine lv_iload_n hx hb dX10_searches_30 rfl (lv_at hl 2 rfl) ?_
            refine lv_iconst (v := (0 : Int32)) hx hb dX10_searches_31 (by decide) ?_
            obtain ⟨u32, i32, h⟩ := Option.bind_eq_some_iff.mp h
            obtain ⟨v32, e32, h⟩ := Option.bind_eq_some_iff.mp h
            refine g_cVi (As := [.int bx2, .int (0 : Int32)]) (rest := []) (n := 2) hx hb hml hown hts hK hlo hG (m_X10_of l dd cT lo G ba0 bx2 (0 : Int32) e32) qM_X10_218 qI_yX10_of qS_X10_yX10_of qN_X10 qC_yX10_of (by decide +kernel) ⟨Nat.le_of_ble_eq_true rfl, Nat.le_of_ble_eq_true rfl⟩ (by rfl) i32 rfl hl.1 rfl (Nat.le_of_ble_eq_true rfl) dX10_searches_32 ⟨Nat.le_of_ble_eq_true rfl, Nat.le_of_ble_eq_true rfl⟩ (fun H locs hG => ?_)
            refine lv_iconst (v := (1 : Int32)) hx hb dX10_searches_35 (by decide) ?_
            refine lv_icmp_ne (tgt := 51) hx hb dX10_searches_36 (by decide) (fun c36 => ?_) (fun c36 => ?_)
            · rw [if_neg c36] at h
              refine lv_iconst (v := (0 : Int32)) hx hb dX10_searches_51 (by decide) ?_
              exact h52 G ba0 bx2 (0 : Int32) _ _ hG _ (lv_sub hl [0, 2] rfl) h
            · rw [if_pos c36] at h
              refine lv_aload_n hx hb dX10_searches_39 rfl (lv_at hl 0 rfl) ?_
              refine lv_iload_n hx hb dX10_searches_40 rfl (lv_at hl 2 rfl) ?_
              obtain ⟨u41, i41, h⟩ := Option.bind_eq_some_iff.mp h
              obtain ⟨v41, e41, h⟩ := Option.bind_eq_some_iff.mp h
              refine g_cVi (As := [.int bx2]) (rest := []) (n := 1) hx hb hml hown hts hK hlo hG (m_X10_canReadDirectory l dd cT lo G ba0 bx2 e41) qM_X10_230 qI_yX10_canReadDirectory qS_X10_yX10_canReadDirectory qN_X10 qC_yX10_canReadDirectory (by decide +kernel) ⟨Nat.le_of_ble_eq_true rfl, Nat.le_of_ble_eq_true rfl⟩ (by rfl) i41 rfl hl.1 rfl (Nat.le_of_ble_eq_true rfl) dX10_searches_41 ⟨Nat.le_of_ble_eq_true rfl, Nat.le_of_ble_eq_true rfl⟩ (fun H locs hG => ?_)
              refine lv_if_eq (tgt := 51) hx hb dX10_searches_44 (by decide) (fun c44 => ?_) (fun c44 => ?_)
              · rw [if_pos c44] at h
                refine lv_iconst (v := (0 : Int32)) hx hb dX10_searches_51 (by decide) ?_
                exact h52 G ba0 bx2 (0 : Int32) _ _ hG _ (lv_sub hl [0, 2] rfl) h
              · rw [if_neg c44] at h
                refine lv_iconst (v := (1 : Int32)) hx hb dX10_searches_47 (by decide) ?_
                refine lv_goto (tgt := 52) hx hb dX10_searches_48 (by decide) ?_
                exact h52 G ba0 bx2 (1 : Int32) _ _ hG _ (lv_sub hl [0, 2] rfl) h
  unfold f_X10_searches at h
  refine lv_aload_n hx hb dX10_searches_0 rfl (lv_at hl 0 rfl) ?_
  refine lv_iconst (v := (0 : Int32)) hx hb dX10_searches_1 (by decide) ?_
  obtain ⟨G2, i2, h⟩ := Option.bind_eq_some_iff.mp h
  refine g_putv hx hb hts inlX10 tyX10 tyX10_ok nmX10 hown hK hG (by rfl) 18 (by decide) qF_X10_227 rfl rfl rfl rfl i2 dX10_searches_2 (fun H locs hG => ?_)
  refine lv_iconst (v := (1 : Int32)) hx hb dX10_searches_5 (by decide) ?_
  refine lv_istore_n (lv' := [(1, .int (1 : Int32)), (0, .ref a0)]) hx hb dX10_searches_6 rfl hl (by decide) rfl (fun ls hl => ?_)
  refine lv_aload_n hx hb dX10_searches_7 rfl (lv_at hl 1 rfl) ?_
  obtain ⟨u8, i8, h⟩ := Option.bind_eq_some_iff.mp h
  obtain ⟨v8, e8, h⟩ := Option.bind_eq_some_iff.mp h
  refine g_cVi (As := []) (rest := []) (n := 0) hx hb hml hown hts hK hlo hG (m_X10_latest l dd cT lo G2 a0 e8) qM_X10_215 qI_yX10_latest qS_X10_yX10_latest qN_X10 qC_yX10_latest (by decide +kernel) ⟨Nat.le_of_ble_eq_true rfl, Nat.le_of_ble_eq_true rfl⟩ (by rfl) i8 rfl hl.1 rfl (Nat.le_of_ble_eq_true rfl) dX10_searches_8 ⟨Nat.le_of_ble_eq_true rfl, Nat.le_of_ble_eq_true rfl⟩ (fun H locs hG => ?_)
  refine lv_istore_n (lv' := [(2, .int v8), (1, .int (1 : Int32)), (0, .ref a0)]) hx hb dX10_searches_11 rfl hl (by decide) rfl (fun ls hl => ?_)
  exact h12 g_N G2 a0 (1 : Int32) v8 _ _ hG _ (lv_sub hl [2, 1, 0] rfl) h
def f_X10_isReached_L4 (G : gH) : Nat → Nat → Int32 → Int32 → Int32 → Option Int32
  | 0, _, _, _, _ => none
  | n + 1, ba0, bx1, bx2, bx3 =>
    (g_i G ba0 10 18).bind fun v6 =>
    if v6 ≤ bx3 then
    g_z bx2
    else
    if bx2 = 0 then
    (g_r G ba0 10 17).bind fun v17 =>
    (g_ald 0 G v17 bx3).bind fun v21 =>
    if v21 = bx1 then
    f_X10_isReached_L4 G n ba0 bx1 (1 : Int32) (bx3 + (1 : Int32))
    else
    f_X10_isReached_L4 G n ba0 bx1 (0 : Int32) (bx3 + (1 : Int32))
    else
    f_X10_isReached_L4 G n ba0 bx1 (1 : Int32) (bx3 + (1 : Int32))
def f_X10_isReached (G : gH) (a0 : Nat) (x1 : Int32) : Option Int32 :=
    f_X10_isReached_L4 G g_N a0 x1 (0 : Int32) (0 : Int32)
set_option maxRecDepth 20000 in
set_option maxHeartbeats 4000000 in
theorem m_X10_isReached (l : Launch) (dd : va_G) (cT : Nat → ClassId) (lo : Nat) (G : gH) (a0 : Nat) (x1 : Int32) {rz : Int32} (h : f_X10_isReached G a0 x1 = some rz) : Met l yX10_isReached (Cond.code yX10_isReached cX10_isReached 4 (some .boolean) :: wsL_law) (g_rm 0 0 0 0) (va_Pc [.ref a0, .int x1] (g_Pre lo dd cT G)) (va_Qi (g_is rz G) (g_Pre lo dd cT) (g_A lo)) 0 0 (g_A lo) := by
  refine g_start RX10 rfl (by decide) (Nat.le_of_ble_eq_true rfl) ?_
  intro p e s m below meth c hx hb hr hlocks hml hown hnm hts hK hG hlo ls hl
  have hl : lv_has ls 4 [(0, .ref a0), (1, .int x1)] := hl
  have hG : g_S lo dd cT s s.heap [] G := hG
  have h4 : ∀ n : Nat, ∀ (ba0 : Nat) (bx1 : Int32) (bx2 : Int32) (bx3 : Int32), ∀ (H : Heap) (locs : List Loc), g_S lo dd cT s H locs G → ∀ ls : Array Slot, lv_has ls 4 [(0, .ref ba0), (1, .int bx1), (2, .int bx2), (3, .int bx3)] → f_X10_isReached_L4 G n ba0 bx1 bx2 bx3 = some rz → W p l e (g_rm 0 0 0 0) s m ([.ref a0, .int x1] : List Value).toArray below meth c H locs 0 0 (MQ below (va_Qi (g_is rz G) (g_Pre lo dd cT) (g_A lo)) ([.ref a0, .int x1] : List Value).toArray s 0 0 (g_A lo)) (F0 m 4 ls []) := by
    intro n
    induction n with
    | zero =>
      intro ba0 bx1 bx2 bx3 H locs hG ls hl h
      cases (show (none : Option Int32) = some rz from h)
    | succ n ih =>
      intro ba0 bx1 bx2 bx3 H locs hG ls hl h
      rw [f_X10_isReached_L4] at h
      refine lv_iload_n hx hb dX10_isReached_4 rfl (lv_at hl 3 rfl) ?_
      refine lv_aload_n hx hb dX10_isReached_5 rfl (lv_at hl 0 rfl) ?_
      obtain ⟨v6, e6, h⟩ := Option.bind_eq_some_iff.mp h
      refine g_geti hx hb hts inlX10 hown hK hG (by rfl) 18 (by decide) qF_X10_227 e6 dX10_isReached_6 ?_
      refine lv_icmp_ge (tgt := 38) hx hb dX10_isReached_9 (by decide) (fun c9 => ?_) (fun c9 => ?_)
      · rw [if_pos c9] at h
        refine lv_iload_n hx hb dX10_isReached_38 rfl (lv_at hl 2 rfl) ?_
        obtain ⟨n39, rfl⟩ := g_z_nar h
        exact g_zret hx hb hr hlocks hK hlo hG n39 ⟨rfl, rfl⟩ dX10_isReached_39
      · rw [if_neg c9] at h
        refine lv_iload_n hx hb dX10_isReached_12 rfl (lv_at hl 2 rfl) ?_
        refine lv_if_ne (tgt := 26) hx hb dX10_isReached_13 (by decide) (fun c13 => ?_) (fun c13 => ?_)
        · rw [if_neg c13] at h
          refine lv_iconst (v := (1 : Int32)) hx hb dX10_isReached_26 (by decide) ?_
          refine lv_goto (tgt := 31) hx hb dX10_isReached_27 (by decide) ?_
          refine lv_istore_n (lv' := [(2, .int (1 : Int32)), (0, .ref ba0), (1, .int bx1), (3, .int bx3)]) hx hb dX10_isReached_31 rfl hl (by decide) rfl (fun ls hl => ?_)
          refine lv_iinc (v := (bx3 + (1 : Int32))) (lv' := [(3, .int (bx3 + (1 : Int32))), (2, .int (1 : Int32)), (0, .ref ba0), (1, .int bx1)]) hx hb dX10_isReached_32 hl (k := 3) rfl rfl (by decide) rfl (fun ls hl => ?_)
          refine lv_goto (tgt := 4) hx hb dX10_isReached_35 (by decide) ?_
          exact ih ba0 bx1 (1 : Int32) (bx3 + (1 : Int32)) _ _ hG _ (lv_sub hl [2, 3, 1, 0] rfl) h
        · rw [if_pos c13] at h
          refine lv_aload_n hx hb dX10_isReached_16 rfl (lv_at hl 0 rfl) ?_
          obtain ⟨v17, e17, h⟩ := Option.bind_eq_some_iff.mp h
          refine g_getr hx hb hts inlX10 hown hK hG (by rfl) 17 (by decide) qF_X10_31 e17 dX10_isReached_17 ?_
          refine lv_iload_n hx hb dX10_isReached_20 rfl (lv_at hl 3 rfl) ?_
          obtain ⟨v21, e21, h⟩ := Option.bind_eq_some_iff.mp h
          refine g_iald hx hb hK hG e21 dX10_isReached_21 ?_
          refine lv_iload_n hx hb dX10_isReached_22 rfl (lv_at hl 1 rfl) ?_
          refine lv_icmp_ne (tgt := 30) hx hb dX10_isReached_23 (by decide) (fun c23 => ?_) (fun c23 => ?_)
          · rw [if_neg c23] at h
            refine lv_iconst (v := (0 : Int32)) hx hb dX10_isReached_30 (by decide) ?_
            refine lv_istore_n (lv' := [(2, .int (0 : Int32)), (0, .ref ba0), (1, .int bx1), (3, .int bx3)]) hx hb dX10_isReached_31 rfl hl (by decide) rfl (fun ls hl => ?_)
            refine lv_iinc (v := (bx3 + (1 : Int32))) (lv' := [(3, .int (bx3 + (1 : Int32))), (2, .int (0 : Int32)), (0, .ref ba0), (1, .int bx1)]) hx hb dX10_isReached_32 hl (k := 3) rfl rfl (by decide) rfl (fun ls hl => ?_)
            refine lv_goto (tgt := 4) hx hb dX10_isReached_35 (by decide) ?_
            exact ih ba0 bx1 (0 : Int32) (bx3 + (1 : Int32)) _ _ hG _ (lv_sub hl [2, 3, 1, 0] rfl) h
          · rw [if_pos c23] at h
            refine lv_iconst (v := (1 : Int32)) hx hb dX10_isReached_26 (by decide) ?_
            refine lv_goto (tgt := 31) hx hb dX10_isReached_27 (by decide) ?_
            refine lv_istore_n (lv' := [(2, .int (1 : Int32)), (0, .ref ba0), (1, .int bx1), (3, .int bx3)]) hx hb dX10_isReached_31 rfl hl (by decide) rfl (fun ls hl => ?_)
            refine lv_iinc (v := (bx3 + (1 : Int32))) (lv' := [(3, .int (bx3 + (1 : Int32))), (2, .int (1 : Int32)), (0, .ref ba0), (1, .int bx1)]) hx hb dX10_isReached_32 hl (k := 3) rfl rfl (by decide) rfl (fun ls hl => ?_)
            refine lv_goto (tgt := 4) hx hb dX10_isReached_35 (by decide) ?_
            exact ih ba0 bx1 (1 : Int32) (bx3 + (1 : Int32)) _ _ hG _ (lv_sub hl [2, 3, 1, 0] rfl) h
  unfold f_X10_isReached at h
  refine lv_iconst (v := (0 : Int32)) hx hb dX10_isReached_0 (by decide) ?_
  refine lv_istore_n (lv' := [(2, .int (0 : Int32)), (0, .ref a0), (1, .int x1)]) hx hb dX10_isReached_1 rfl hl (by decide) rfl (fun ls hl => ?_)
  refine lv_iconst (v := (0 : Int32)) hx hb dX10_isReached_2 (by decide) ?_
  refine lv_istore_n (lv' := [(3, .int (0 : Int32)), (2, .int (0 : Int32)), (0, .ref a0), (1, .int x1)]) hx hb dX10_isReached_3 rfl hl (by decide) rfl (fun ls hl => ?_)
  exact h4 g_N a0 x1 (0 : Int32) (0 : Int32) _ _ hG _ (lv_sub hl [2, 3, 1, 0] rfl) h
def f_X10_seeks_J53 (k12 : gH → Nat → Int32 → Int32 → Int32 → Option gH) (G : gH) (ba0 : Nat) (bx1 : Int32) (bx2 : Int32) (bx3 : Int32) (bx4 : Int32) (z0 : Int32) : Option gH :=
    if z0 = (-1 : Int32) then
    k12 G ba0 bx1 bx2 (bx3 + (1 : Int32))
    else
    (g_put G ba0 10 19 (.int bx4)).bind fun G64 =>
    (g_ob G64 ba0 10).bind fun u79 =>
    (f_X10_of G64 ba0 bx4 (((5 : Int32) + ((2 : Int32) * z0)) + (1 : Int32))).bind fun v79 =>
    (g_put G64 ba0 10 20 (.int v79)).bind fun G82 =>
    k12 G82 ba0 bx1 bx2 (bx3 + (1 : Int32))
def f_X10_seeks_L12 : Nat → gH → Nat → Int32 → Int32 → Int32 → Option gH
  | 0, _, _, _, _, _ => none
  | n + 1, G, ba0, bx1, bx2, bx3 =>
    (g_i G ba0 10 18).bind fun v14 =>
    if v14 ≤ bx3 then
    some G
    else
    (g_i G ba0 10 19).bind fun v21 =>
    if v21 = (-1 : Int32) then
    (g_r G ba0 10 17).bind fun v29 =>
    (g_ald 0 G v29 bx3).bind fun v33 =>
    if bx2 ≤ v33 then
    f_X10_seeks_J53 (f_X10_seeks_L12 n) G ba0 bx1 bx2 bx3 v33 (-1 : Int32)
    else
    (g_ob G ba0 10).bind fun u46 =>
    (f_X10_entryOf G ba0 v33 bx1).bind fun v46 =>
    f_X10_seeks_J53 (f_X10_seeks_L12 n) G ba0 bx1 bx2 bx3 v33 v46
    else
    some G
def f_X10_seeks (G : gH) (a0 : Nat) (x1 : Int32) (x2 : Int32) : Option gH :=
    (g_put G a0 10 19 (.int (-1 : Int32))).bind fun G2 =>
    (g_put G2 a0 10 20 (.int (-1 : Int32))).bind fun G7 =>
    f_X10_seeks_L12 g_N G7 a0 x1 x2 (0 : Int32)
set_option maxRecDepth 20000 in
set_option maxHeartbeats 4000000 in
theorem m_X10_seeks (l : Launch) (dd : va_G) (cT : Nat → ClassId) (lo : Nat) (G : gH) (a0 : Nat) (x1 : Int32) (x2 : Int32) {Gz : gH} (h : f_X10_seeks G a0 x1 x2 = some Gz) : Met l yX10_seeks (Cond.code yX10_seeks cX10_seeks 6 none :: wsL_law) (g_rm 2 45 0 0) (va_Pc [.ref a0, .int x1, .int x2] (g_Pre lo dd cT G)) (va_Qv (g_iv Gz) (g_Pre lo dd cT) (g_A lo)) 0 0 (g_A lo) := by
  refine g_start RX10 rfl (by decide) (Nat.le_of_ble_eq_true rfl) ?_
  intro p e s m below meth c hx hb hr hlocks hml hown hnm hts hK hG hlo ls hl
  have hl : lv_has ls 6 [(0, .ref a0), (1, .int x1), (2, .int x2)] := hl
  have hG : g_S lo dd cT s s.heap [] G := hG
  have h12 : ∀ n : Nat, ∀ (G : gH) (ba0 : Nat) (bx1 : Int32) (bx2 : Int32) (bx3 : Int32), ∀ (H : Heap) (locs : List Loc), g_S lo dd cT s H locs G → ∀ ls : Array Slot, lv_has ls 6 [(0, .ref ba0), (1, .int bx1), (2, .int bx2), (3, .int bx3)] → f_X10_seeks_L12 n G ba0 bx1 bx2 bx3 = some Gz → W p l e (g_rm 2 45 0 0) s m ([.ref a0, .int x1, .int x2] : List Value).toArray below meth c H locs 0 0 (MQ below (va_Qv (g_iv Gz) (g_Pre lo dd cT) (g_A lo)) ([.ref a0, .int x1, .int x2] : List Value).toArray s 0 0 (g_A lo)) (F0 m 12 ls []) := by
    intro n
    induction n with
    | zero =>
      intro G ba0 bx1 bx2 bx3 H locs hG ls hl h
      cases (show (none : Option gH) = some Gz from h)
    | succ n ih =>
      intro G ba0 bx1 bx2 bx3 H locs hG ls hl h
      rw [f_X10_seeks_L12] at h
      have h53 : ∀ (G : gH) (ba0 : Nat) (bx1 : Int32) (bx2 : Int32) (bx3 : Int32) (bx4 : Int32) (z0 : Int32), ∀ (H : Heap) (locs : List Loc), g_S lo dd cT s H locs G → ∀ ls : Array Slot, lv_has ls 6 [(0, .ref ba0), (1, .int bx1), (2, .int bx2), (3, .int bx3), (4, .int bx4)] → f_X10_seeks_J53 (f_X10_seeks_L12 n) G ba0 bx1 bx2 bx3 bx4 z0 = some Gz → W p l e (g_rm 2 45 0 0) s m ([.ref a0, .int x1, .int x2] : List Value).toArray below meth c H locs 0 0 (MQ below (va_Qv (g_iv Gz) (g_Pre lo dd cT) (g_A lo)) ([.ref a0, .int x1, .int x2] : List Value).toArray s 0 0 (g_A lo)) (F0 m 53 ls [.int z0]) := by
        intro G ba0 bx1 bx2 bx3 bx4 z0 H locs hG ls hl h
        unfold f_X10_seeks_J53 at h
        refine lv_istore (lv' := [(5, .int z0), (0, .ref ba0), (1, .int bx1), (2, .int bx2), (3, .int bx3), (4, .int bx4)]) hx hb dX10_seeks_53 hl (by decide) rfl (fun ls hl => ?_)
        refine lv_iload hx hb dX10_seeks_55 (lv_at hl 0 rfl) ?_
        refine lv_iconst (v := (-1 : Int32)) hx hb dX10_seeks_57 (by decide) ?_
        refine lv_icmp_eq (tgt := 85) hx hb dX10_seeks_58 (by decide) (fun c58 => ?_) (fun c58 => ?_)
        · rw [if_pos c58] at h
          refine lv_iinc (v := (bx3 + (1 : Int32))) (lv' := [(3, .int (bx3 + (1 : Int32))), (5, .int z0), (0, .ref ba0), (1, .int bx1), (2, .int bx2), (4, .int bx4)]) hx hb dX10_seeks_85 hl (k := 4) rfl rfl (by decide) rfl (fun ls hl => ?_)
          refine lv_goto (tgt := 12) hx hb dX10_seeks_88 (by decide) ?_
          exact ih G ba0 bx1 bx2 (bx3 + (1 : Int32)) _ _ hG _ (lv_sub hl [2, 3, 4, 0] rfl) h
        · rw [if_neg c58] at h
          refine lv_aload_n hx hb dX10_seeks_61 rfl (lv_at hl 1 rfl) ?_
          refine lv_iload hx hb dX10_seeks_62 (lv_at hl 5 rfl) ?_
          obtain ⟨G64, i64, h⟩ := Option.bind_eq_some_iff.mp h
          refine g_putv hx hb hts inlX10 tyX10 tyX10_ok nmX10 hown hK hG (by rfl) 19 (by decide) qF_X10_233 rfl rfl rfl rfl i64 dX10_seeks_64 (fun H locs hG => ?_)
          refine lv_aload_n hx hb dX10_seeks_67 rfl (lv_at hl 1 rfl) ?_
          refine lv_aload_n hx hb dX10_seeks_68 rfl (lv_at hl 1 rfl) ?_
          refine lv_iload hx hb dX10_seeks_69 (lv_at hl 5 rfl) ?_
          refine lv_iconst (v := (5 : Int32)) hx hb dX10_seeks_71 (by decide) ?_
          refine lv_iconst (v := (2 : Int32)) hx hb dX10_seeks_72 (by decide) ?_
          refine lv_iload hx hb dX10_seeks_73 (lv_at hl 0 rfl) ?_
          refine lv_imul hx hb dX10_seeks_75 ?_
          refine lv_iadd hx hb dX10_seeks_76 ?_
          refine lv_iconst (v := (1 : Int32)) hx hb dX10_seeks_77 (by decide) ?_
          refine lv_iadd hx hb dX10_seeks_78 ?_
          obtain ⟨u79, i79, h⟩ := Option.bind_eq_some_iff.mp h
          obtain ⟨v79, e79, h⟩ := Option.bind_eq_some_iff.mp h
          refine g_cVi (As := [.int bx4, .int (((5 : Int32) + ((2 : Int32) * z0)) + (1 : Int32))]) (rest := [.ref ba0]) (n := 2) hx hb hml hown hts hK hlo hG (m_X10_of l dd cT lo G64 ba0 bx4 (((5 : Int32) + ((2 : Int32) * z0)) + (1 : Int32)) e79) qM_X10_218 qI_yX10_of qS_X10_yX10_of qN_X10 qC_yX10_of (by decide +kernel) ⟨Nat.le_of_ble_eq_true rfl, Nat.le_of_ble_eq_true rfl⟩ (by rfl) i79 rfl hl.1 rfl (Nat.le_of_ble_eq_true rfl) dX10_seeks_79 ⟨Nat.le_of_ble_eq_true rfl, Nat.le_of_ble_eq_true rfl⟩ (fun H locs hG => ?_)
          obtain ⟨G82, i82, h⟩ := Option.bind_eq_some_iff.mp h
          refine g_putv hx hb hts inlX10 tyX10 tyX10_ok nmX10 hown hK hG (by rfl) 20 (by decide) qF_X10_236 rfl rfl rfl rfl i82 dX10_seeks_82 (fun H locs hG => ?_)
          refine lv_iinc (v := (bx3 + (1 : Int32))) (lv' := [(3, .int (bx3 + (1 : Int32))), (5, .int z0), (0, .ref ba0), (1, .int bx1), (2, .int bx2), (4, .int bx4)]) hx hb dX10_seeks_85 hl (k := 4) rfl rfl (by decide) rfl (fun ls hl => ?_)
          refine lv_goto (tgt := 12) hx hb dX10_seeks_88 (by decide) ?_
          exact ih G82 ba0 bx1 bx2 (bx3 + (1 : Int32)) _ _ hG _ (lv_sub hl [2, 3, 4, 0] rfl) h
      refine lv_iload_n hx hb dX10_seeks_12 rfl (lv_at hl 3 rfl) ?_
      refine lv_aload_n hx hb dX10_seeks_13 rfl (lv_at hl 0 rfl) ?_
      obtain ⟨v14, e14, h⟩ := Option.bind_eq_some_iff.mp h
      refine g_geti hx hb hts inlX10 hown hK hG (by rfl) 18 (by decide) qF_X10_227 e14 dX10_seeks_14 ?_
      refine lv_icmp_ge (tgt := 91) hx hb dX10_seeks_17 (by decide) (fun c17 => ?_) (fun c17 => ?_)
      · rw [if_pos c17] at h
        obtain rfl := Option.some.inj h
        exact g_vret hx hb hr hlocks hK hlo hG rfl dX10_seeks_91
      · rw [if_neg c17] at h
        refine lv_aload_n hx hb dX10_seeks_20 rfl (lv_at hl 0 rfl) ?_
        obtain ⟨v21, e21, h⟩ := Option.bind_eq_some_iff.mp h
        refine g_geti hx hb hts inlX10 hown hK hG (by rfl) 19 (by decide) qF_X10_233 e21 dX10_seeks_21 ?_
        refine lv_iconst (v := (-1 : Int32)) hx hb dX10_seeks_24 (by decide) ?_
        refine lv_icmp_ne (tgt := 91) hx hb dX10_seeks_25 (by decide) (fun c25 => ?_) (fun c25 => ?_)
        · rw [if_neg c25] at h
          obtain rfl := Option.some.inj h
          exact g_vret hx hb hr hlocks hK hlo hG rfl dX10_seeks_91
        · rw [if_pos c25] at h
          refine lv_aload_n hx hb dX10_seeks_28 rfl (lv_at hl 0 rfl) ?_
          obtain ⟨v29, e29, h⟩ := Option.bind_eq_some_iff.mp h
          refine g_getr hx hb hts inlX10 hown hK hG (by rfl) 17 (by decide) qF_X10_31 e29 dX10_seeks_29 ?_
          refine lv_iload_n hx hb dX10_seeks_32 rfl (lv_at hl 3 rfl) ?_
          obtain ⟨v33, e33, h⟩ := Option.bind_eq_some_iff.mp h
          refine g_iald hx hb hK hG e33 dX10_seeks_33 ?_
          refine lv_istore (lv' := [(4, .int v33), (0, .ref ba0), (1, .int bx1), (2, .int bx2), (3, .int bx3)]) hx hb dX10_seeks_34 hl (by decide) rfl (fun ls hl => ?_)
          refine lv_iload hx hb dX10_seeks_36 (lv_at hl 0 rfl) ?_
          refine lv_iload_n hx hb dX10_seeks_38 rfl (lv_at hl 3 rfl) ?_
          refine lv_icmp_ge (tgt := 52) hx hb dX10_seeks_39 (by decide) (fun c39 => ?_) (fun c39 => ?_)
          · rw [if_pos c39] at h
            refine lv_iconst (v := (-1 : Int32)) hx hb dX10_seeks_52 (by decide) ?_
            exact h53 G ba0 bx1 bx2 bx3 v33 (-1 : Int32) _ _ hG _ (lv_sub hl [1, 2, 3, 4, 0] rfl) h
          · rw [if_neg c39] at h
            refine lv_aload_n hx hb dX10_seeks_42 rfl (lv_at hl 1 rfl) ?_
            refine lv_iload hx hb dX10_seeks_43 (lv_at hl 0 rfl) ?_
            refine lv_iload_n hx hb dX10_seeks_45 rfl (lv_at hl 2 rfl) ?_
            obtain ⟨u46, i46, h⟩ := Option.bind_eq_some_iff.mp h
            obtain ⟨v46, e46, h⟩ := Option.bind_eq_some_iff.mp h
            refine g_cVi (As := [.int v33, .int bx1]) (rest := []) (n := 2) hx hb hml hown hts hK hlo hG (m_X10_entryOf l dd cT lo G ba0 v33 bx1 e46) qM_X10_239 qI_yX10_entryOf qS_X10_yX10_entryOf qN_X10 qC_yX10_entryOf (by decide +kernel) ⟨Nat.le_of_ble_eq_true rfl, Nat.le_of_ble_eq_true rfl⟩ (by rfl) i46 rfl hl.1 rfl (Nat.le_of_ble_eq_true rfl) dX10_seeks_46 ⟨Nat.le_of_ble_eq_true rfl, Nat.le_of_ble_eq_true rfl⟩ (fun H locs hG => ?_)
            refine lv_goto (tgt := 53) hx hb dX10_seeks_49 (by decide) ?_
            exact h53 G ba0 bx1 bx2 bx3 v33 v46 _ _ hG _ (lv_sub hl [1, 2, 3, 4, 0] rfl) h
  unfold f_X10_seeks at h
  refine lv_aload_n hx hb dX10_seeks_0 rfl (lv_at hl 0 rfl) ?_
  refine lv_iconst (v := (-1 : Int32)) hx hb dX10_seeks_1 (by decide) ?_
  obtain ⟨G2, i2, h⟩ := Option.bind_eq_some_iff.mp h
  refine g_putv hx hb hts inlX10 tyX10 tyX10_ok nmX10 hown hK hG (by rfl) 19 (by decide) qF_X10_233 rfl rfl rfl rfl i2 dX10_seeks_2 (fun H locs hG => ?_)
  refine lv_aload_n hx hb dX10_seeks_5 rfl (lv_at hl 0 rfl) ?_
  refine lv_iconst (v := (-1 : Int32)) hx hb dX10_seeks_6 (by decide) ?_
  obtain ⟨G7, i7, h⟩ := Option.bind_eq_some_iff.mp h
  refine g_putv hx hb hts inlX10 tyX10 tyX10_ok nmX10 hown hK hG (by rfl) 20 (by decide) qF_X10_236 rfl rfl rfl rfl i7 dX10_seeks_7 (fun H locs hG => ?_)
  refine lv_iconst (v := (0 : Int32)) hx hb dX10_seeks_10 (by decide) ?_
  refine lv_istore_n (lv' := [(3, .int (0 : Int32)), (0, .ref a0), (1, .int x1), (2, .int x2)]) hx hb dX10_seeks_11 rfl hl (by decide) rfl (fun ls hl => ?_)
  exact h12 g_N G7 a0 x1 x2 (0 : Int32) _ _ hG _ (lv_sub hl [1, 2, 3, 0] rfl) h

/-! Lifted methods, by program (wip/whole/tools/lift.py). -/
def f_X10_space_J20 (G : gH) (ba0 : Nat) (bx1 : Int32) (z0 : Nat) (z1 : Int32) : Option (gH × Int32) :=
    (g_ob G z0 10).bind fun u21 =>
    (f_X10_throwsIf G z0 z1 (1 : Int32)).bind fun q21 =>
    if q21.2 = 0 then
    (g_ob q21.1 ba0 10).bind fun u34 =>
    (f_X10_spaceBy q21.1 ba0 (-1 : Int32) bx1).bind fun q34 =>
    some (q34.1, q34.2)
    else
    some (q21.1, (0 : Int32))
def f_X10_space (G : gH) (a0 : Nat) (x1 : Int32) : Option (gH × Int32) :=
    (g_put G a0 10 0 (.int (0 : Int32))).bind fun G2 =>
    (f_X10_within G2 x1 (0 : Int32) (4 : Int32)).bind fun v9 =>
    if v9 = 0 then
    f_X10_space_J20 G2 a0 x1 a0 (1 : Int32)
    else
    f_X10_space_J20 G2 a0 x1 a0 (0 : Int32)
set_option maxRecDepth 20000 in
set_option maxHeartbeats 4000000 in
theorem m_X10_space (l : Launch) (dd : va_G) (cT : Nat → ClassId) (lo : Nat) (G : gH) (a0 : Nat) (x1 : Int32) {rz : Int32} {Gz : gH} (h : f_X10_space G a0 x1 = some (Gz, rz)) : Met l yX10_space (Cond.code yX10_space cX10_space 2 (some .int) :: wsL_law) (g_rm 6 134 0 0) (va_Pc [.ref a0, .int x1] (g_Pre lo dd cT G)) (va_Qi (g_is rz Gz) (g_Pre lo dd cT) (g_A lo)) 0 0 (g_A lo) := by
  refine g_start RX10 rfl (by decide) (Nat.le_of_ble_eq_true rfl) ?_
  intro p e s m below meth c hx hb hr hlocks hml hown hnm hts hK hG hlo ls hl
  have hl : lv_has ls 2 [(0, .ref a0), (1, .int x1)] := hl
  have hG : g_S lo dd cT s s.heap [] G := hG
  have h20 : ∀ (G : gH) (ba0 : Nat) (bx1 : Int32) (z0 : Nat) (z1 : Int32), ∀ (H : Heap) (locs : List Loc), g_S lo dd cT s H locs G → ∀ ls : Array Slot, lv_has ls 2 [(0, .ref ba0), (1, .int bx1)] → f_X10_space_J20 G ba0 bx1 z0 z1 = some (Gz, rz) → W p l e (g_rm 6 134 0 0) s m ([.ref a0, .int x1] : List Value).toArray below meth c H locs 0 0 (MQ below (va_Qi (g_is rz Gz) (g_Pre lo dd cT) (g_A lo)) ([.ref a0, .int x1] : List Value).toArray s 0 0 (g_A lo)) (F0 m 20 ls [.int z1, .ref z0]) := by
    intro G ba0 bx1 z0 z1 H locs hG ls hl h
    unfold f_X10_space_J20 at h
    refine lv_iconst (v := (1 : Int32)) hx hb dX10_space_20 (by decide) ?_
    obtain ⟨u21, i21, h⟩ := Option.bind_eq_some_iff.mp h
    obtain ⟨q21, e21, h⟩ := Option.bind_eq_some_iff.mp h
    refine g_cVi (As := [.int z1, .int (1 : Int32)]) (rest := []) (n := 2) hx hb hml hown hts hK hlo hG (m_X10_throwsIf l dd cT lo G z0 z1 (1 : Int32) e21) qM_X10_188 qI_yX10_throwsIf qS_X10_yX10_throwsIf qN_X10 qC_yX10_throwsIf (by decide +kernel) ⟨Nat.le_of_ble_eq_true rfl, Nat.le_of_ble_eq_true rfl⟩ (by rfl) i21 rfl hl.1 rfl (Nat.le_of_ble_eq_true rfl) dX10_space_21 ⟨Nat.le_of_ble_eq_true rfl, Nat.le_of_ble_eq_true rfl⟩ (fun H locs hG => ?_)
    refine lv_if_eq (tgt := 31) hx hb dX10_space_24 (by decide) (fun c24 => ?_) (fun c24 => ?_)
    · rw [if_pos c24] at h
      refine lv_aload_n hx hb dX10_space_31 rfl (lv_at hl 0 rfl) ?_
      refine lv_iconst (v := (-1 : Int32)) hx hb dX10_space_32 (by decide) ?_
      refine lv_iload_n hx hb dX10_space_33 rfl (lv_at hl 1 rfl) ?_
      obtain ⟨u34, i34, h⟩ := Option.bind_eq_some_iff.mp h
      obtain ⟨q34, e34, h⟩ := Option.bind_eq_some_iff.mp h
      refine g_cVi (As := [.int (-1 : Int32), .int bx1]) (rest := []) (n := 2) hx hb hml hown hts hK hlo hG (m_X10_spaceBy l dd cT lo q21.1 ba0 (-1 : Int32) bx1 e34) qM_X10_348 qI_yX10_spaceBy qS_X10_yX10_spaceBy qN_X10 qC_yX10_spaceBy (by decide +kernel) ⟨Nat.le_of_ble_eq_true rfl, Nat.le_of_ble_eq_true rfl⟩ (by rfl) i34 rfl hl.1 rfl (Nat.le_of_ble_eq_true rfl) dX10_space_34 ⟨Nat.le_of_ble_eq_true rfl, Nat.le_of_ble_eq_true rfl⟩ (fun H locs hG => ?_)
      obtain ⟨rfl, rfl⟩ := Prod.mk.inj (Option.some.inj h)
      exact g_iret hx hb hr hlocks hK hlo hG ⟨rfl, rfl⟩ dX10_space_37
    · rw [if_neg c24] at h
      refine lv_iconst (v := (0 : Int32)) hx hb dX10_space_27 (by decide) ?_
      refine lv_goto (tgt := 37) hx hb dX10_space_28 (by decide) ?_
      obtain ⟨rfl, rfl⟩ := Prod.mk.inj (Option.some.inj h)
      exact g_iret hx hb hr hlocks hK hlo hG ⟨rfl, rfl⟩ dX10_space_37
  unfold f_X10_space at h
  refine lv_aload_n hx hb dX10_space_0 rfl (lv_at hl 0 rfl) ?_
  refine lv_iconst (v := (0 : Int32)) hx hb dX10_space_1 (by decide) ?_
  obtain ⟨G2, i2, h⟩ := Option.bind_eq_some_iff.mp h
  refine g_putv hx hb hts inlX10 tyX10 tyX10_ok nmX10 hown hK hG (by rfl) 0 (by decide) qF_X10_50 rfl rfl rfl rfl i2 dX10_space_2 (fun H locs hG => ?_)
  refine lv_aload_n hx hb dX10_space_5 rfl (lv_at hl 0 rfl) ?_
  refine lv_iload_n hx hb dX10_space_6 rfl (lv_at hl 1 rfl) ?_
  refine lv_iconst (v := (0 : Int32)) hx hb dX10_space_7 (by decide) ?_
  refine lv_iconst (v := (4 : Int32)) hx hb dX10_space_8 (by decide) ?_
  obtain ⟨v9, e9, h⟩ := Option.bind_eq_some_iff.mp h
  refine g_cSi (As := [.int x1, .int (0 : Int32), .int (4 : Int32)]) (rest := [.ref a0]) (n := 3) hx hb hml hown hts hK hlo hG (m_X10_within l dd cT lo G2 x1 (0 : Int32) (4 : Int32) e9) qM_X10_74 qT_yX10_within qN_X10 qC_yX10_within (by decide +kernel) ⟨Nat.le_of_ble_eq_true rfl, Nat.le_of_ble_eq_true rfl⟩ rfl hl.1 rfl (Nat.le_of_ble_eq_true rfl) dX10_space_9 ⟨Nat.le_of_ble_eq_true rfl, Nat.le_of_ble_eq_true rfl⟩ (fun H locs hG => ?_)
  refine lv_if_ne (tgt := 19) hx hb dX10_space_12 (by decide) (fun c12 => ?_) (fun c12 => ?_)
  · rw [if_neg c12] at h
    refine lv_iconst (v := (0 : Int32)) hx hb dX10_space_19 (by decide) ?_
    exact h20 G2 a0 x1 a0 (0 : Int32) _ _ hG _ (lv_sub hl [0, 1] rfl) h
  · rw [if_pos c12] at h
    refine lv_iconst (v := (1 : Int32)) hx hb dX10_space_15 (by decide) ?_
    refine lv_goto (tgt := 20) hx hb dX10_space_16 (by decide) ?_
    exact h20 G2 a0 x1 a0 (1 : Int32) _ _ hG _ (lv_sub hl [0, 1] rfl) h
def f_X10_spaceOf_J23 (G : gH) (ba0 : Nat) (bx1 : Int32) (bx2 : Int32) (z0 : Nat) (z1 : Int32) : Option (gH × Int32) :=
    (g_ob G z0 10).bind fun u24 =>
    (f_X10_throwsIf G z0 z1 (2 : Int32)).bind fun q24 =>
    if q24.2 = 0 then
    (g_ob q24.1 ba0 10).bind fun u37 =>
    (f_X10_spaceBy q24.1 ba0 bx1 bx2).bind fun q37 =>
    some (q37.1, q37.2)
    else
    some (q24.1, (0 : Int32))
def f_X10_spaceOf (G : gH) (a0 : Nat) (x1 : Int32) (x2 : Int32) : Option (gH × Int32) :=
    (g_ob G a0 10).bind fun u2 =>
    (f_X10_noSession G a0 x1).bind fun q2 =>
    if q2.2 = 0 then
    (f_X10_within q2.1 x2 (1 : Int32) (4 : Int32)).bind fun v12 =>
    if v12 = 0 then
    f_X10_spaceOf_J23 q2.1 a0 x1 x2 a0 (1 : Int32)
    else
    f_X10_spaceOf_J23 q2.1 a0 x1 x2 a0 (0 : Int32)
    else
    some (q2.1, (0 : Int32))
set_option maxRecDepth 20000 in
set_option maxHeartbeats 4000000 in
theorem m_X10_spaceOf (l : Launch) (dd : va_G) (cT : Nat → ClassId) (lo : Nat) (G : gH) (a0 : Nat) (x1 : Int32) (x2 : Int32) {rz : Int32} {Gz : gH} (h : f_X10_spaceOf G a0 x1 x2 = some (Gz, rz)) : Met l yX10_spaceOf (Cond.code yX10_spaceOf cX10_spaceOf 3 (some .int) :: wsL_law) (g_rm 6 134 0 0) (va_Pc [.ref a0, .int x1, .int x2] (g_Pre lo dd cT G)) (va_Qi (g_is rz Gz) (g_Pre lo dd cT) (g_A lo)) 0 0 (g_A lo) := by
  refine g_start RX10 rfl (by decide) (Nat.le_of_ble_eq_true rfl) ?_
  intro p e s m below meth c hx hb hr hlocks hml hown hnm hts hK hG hlo ls hl
  have hl : lv_has ls 3 [(0, .ref a0), (1, .int x1), (2, .int x2)] := hl
  have hG : g_S lo dd cT s s.heap [] G := hG
  have h23 : ∀ (G : gH) (ba0 : Nat) (bx1 : Int32) (bx2 : Int32) (z0 : Nat) (z1 : Int32), ∀ (H : Heap) (locs : List Loc), g_S lo dd cT s H locs G → ∀ ls : Array Slot, lv_has ls 3 [(0, .ref ba0), (1, .int bx1), (2, .int bx2)] → f_X10_spaceOf_J23 G ba0 bx1 bx2 z0 z1 = some (Gz, rz) → W p l e (g_rm 6 134 0 0) s m ([.ref a0, .int x1, .int x2] : List Value).toArray below meth c H locs 0 0 (MQ below (va_Qi (g_is rz Gz) (g_Pre lo dd cT) (g_A lo)) ([.ref a0, .int x1, .int x2] : List Value).toArray s 0 0 (g_A lo)) (F0 m 23 ls [.int z1, .ref z0]) := by
    intro G ba0 bx1 bx2 z0 z1 H locs hG ls hl h
    unfold f_X10_spaceOf_J23 at h
    refine lv_iconst (v := (2 : Int32)) hx hb dX10_spaceOf_23 (by decide) ?_
    obtain ⟨u24, i24, h⟩ := Option.bind_eq_some_iff.mp h
    obtain ⟨q24, e24, h⟩ := Option.bind_eq_some_iff.mp h
    refine g_cVi (As := [.int z1, .int (2 : Int32)]) (rest := []) (n := 2) hx hb hml hown hts hK hlo hG (m_X10_throwsIf l dd cT lo G z0 z1 (2 : Int32) e24) qM_X10_188 qI_yX10_throwsIf qS_X10_yX10_throwsIf qN_X10 qC_yX10_throwsIf (by decide +kernel) ⟨Nat.le_of_ble_eq_true rfl, Nat.le_of_ble_eq_true rfl⟩ (by rfl) i24 rfl hl.1 rfl (Nat.le_of_ble_eq_true rfl) dX10_spaceOf_24 ⟨Nat.le_of_ble_eq_true rfl, Nat.le_of_ble_eq_true rfl⟩ (fun H locs hG => ?_)
    refine lv_if_eq (tgt := 34) hx hb dX10_spaceOf_27 (by decide) (fun c27 => ?_) (fun c27 => ?_)
    · rw [if_pos c27] at h
      refine lv_aload_n hx hb dX10_spaceOf_34 rfl (lv_at hl 0 rfl) ?_
      refine lv_iload_n hx hb dX10_spaceOf_35 rfl (lv_at hl 1 rfl) ?_
      refine lv_iload_n hx hb dX10_spaceOf_36 rfl (lv_at hl 2 rfl) ?_
      obtain ⟨u37, i37, h⟩ := Option.bind_eq_some_iff.mp h
      obtain ⟨q37, e37, h⟩ := Option.bind_eq_some_iff.mp h
      refine g_cVi (As := [.int bx1, .int bx2]) (rest := []) (n := 2) hx hb hml hown hts hK hlo hG (m_X10_spaceBy l dd cT lo q24.1 ba0 bx1 bx2 e37) qM_X10_348 qI_yX10_spaceBy qS_X10_yX10_spaceBy qN_X10 qC_yX10_spaceBy (by decide +kernel) ⟨Nat.le_of_ble_eq_true rfl, Nat.le_of_ble_eq_true rfl⟩ (by rfl) i37 rfl hl.1 rfl (Nat.le_of_ble_eq_true rfl) dX10_spaceOf_37 ⟨Nat.le_of_ble_eq_true rfl, Nat.le_of_ble_eq_true rfl⟩ (fun H locs hG => ?_)
      obtain ⟨rfl, rfl⟩ := Prod.mk.inj (Option.some.inj h)
      exact g_iret hx hb hr hlocks hK hlo hG ⟨rfl, rfl⟩ dX10_spaceOf_40
    · rw [if_neg c27] at h
      refine lv_iconst (v := (0 : Int32)) hx hb dX10_spaceOf_30 (by decide) ?_
      refine lv_goto (tgt := 40) hx hb dX10_spaceOf_31 (by decide) ?_
      obtain ⟨rfl, rfl⟩ := Prod.mk.inj (Option.some.inj h)
      exact g_iret hx hb hr hlocks hK hlo hG ⟨rfl, rfl⟩ dX10_spaceOf_40
  unfold f_X10_spaceOf at h
  refine lv_aload_n hx hb dX10_spaceOf_0 rfl (lv_at hl 0 rfl) ?_
  refine lv_iload_n hx hb dX10_spaceOf_1 rfl (lv_at hl 1 rfl) ?_
  obtain ⟨u2, i2, h⟩ := Option.bind_eq_some_iff.mp h
  obtain ⟨q2, e2, h⟩ := Option.bind_eq_some_iff.mp h
  refine g_cVi (As := [.int x1]) (rest := []) (n := 1) hx hb hml hown hts hK hlo hG (m_X10_noSession l dd cT lo G a0 x1 e2) qM_X10_320 qI_yX10_noSession qS_X10_yX10_noSession qN_X10 qC_yX10_noSession (by decide +kernel) ⟨Nat.le_of_ble_eq_true rfl, Nat.le_of_ble_eq_true rfl⟩ (by rfl) i2 rfl hl.1 rfl (Nat.le_of_ble_eq_true rfl) dX10_spaceOf_2 ⟨Nat.le_of_ble_eq_true rfl, Nat.le_of_ble_eq_true rfl⟩ (fun H locs hG => ?_)
  refine lv_if_ne (tgt := 30) hx hb dX10_spaceOf_5 (by decide) (fun c5 => ?_) (fun c5 => ?_)
  · rw [if_neg c5] at h
    refine lv_iconst (v := (0 : Int32)) hx hb dX10_spaceOf_30 (by decide) ?_
    refine lv_goto (tgt := 40) hx hb dX10_spaceOf_31 (by decide) ?_
    obtain ⟨rfl, rfl⟩ := Prod.mk.inj (Option.some.inj h)
    exact g_iret hx hb hr hlocks hK hlo hG ⟨rfl, rfl⟩ dX10_spaceOf_40
  · rw [if_pos c5] at h
    refine lv_aload_n hx hb dX10_spaceOf_8 rfl (lv_at hl 0 rfl) ?_
    refine lv_iload_n hx hb dX10_spaceOf_9 rfl (lv_at hl 2 rfl) ?_
    refine lv_iconst (v := (1 : Int32)) hx hb dX10_spaceOf_10 (by decide) ?_
    refine lv_iconst (v := (4 : Int32)) hx hb dX10_spaceOf_11 (by decide) ?_
    obtain ⟨v12, e12, h⟩ := Option.bind_eq_some_iff.mp h
    refine g_cSi (As := [.int x2, .int (1 : Int32), .int (4 : Int32)]) (rest := [.ref a0]) (n := 3) hx hb hml hown hts hK hlo hG (m_X10_within l dd cT lo q2.1 x2 (1 : Int32) (4 : Int32) e12) qM_X10_74 qT_yX10_within qN_X10 qC_yX10_within (by decide +kernel) ⟨Nat.le_of_ble_eq_true rfl, Nat.le_of_ble_eq_true rfl⟩ rfl hl.1 rfl (Nat.le_of_ble_eq_true rfl) dX10_spaceOf_12 ⟨Nat.le_of_ble_eq_true rfl, Nat.le_of_ble_eq_true rfl⟩ (fun H locs hG => ?_)
    refine lv_if_ne (tgt := 22) hx hb dX10_spaceOf_15 (by decide) (fun c15 => ?_) (fun c15 => ?_)
    · rw [if_neg c15] at h
      refine lv_iconst (v := (0 : Int32)) hx hb dX10_spaceOf_22 (by decide) ?_
      exact h23 q2.1 a0 x1 x2 a0 (0 : Int32) _ _ hG _ (lv_sub hl [0, 1, 2] rfl) h
    · rw [if_pos c15] at h
      refine lv_iconst (v := (1 : Int32)) hx hb dX10_spaceOf_18 (by decide) ?_
      refine lv_goto (tgt := 23) hx hb dX10_spaceOf_19 (by decide) ?_
      exact h23 q2.1 a0 x1 x2 a0 (1 : Int32) _ _ hG _ (lv_sub hl [0, 1, 2] rfl) h
def f_X10_copies_L3 : Nat → gH → Nat → Int32 → Nat → Int32 → Int32 → Option gH
  | 0, _, _, _, _, _, _ => none
  | n + 1, G, ba0, bx1, ba2, bx3, bx4 =>
    if (1555 : Int32) ≤ bx4 then
    some G
    else
    (g_ald 0 G ba0 (bx1 + bx4)).bind fun v21 =>
    (g_ast 0 G ba2 (bx3 + bx4) v21).bind fun G22 =>
    f_X10_copies_L3 n G22 ba0 bx1 ba2 bx3 (bx4 + (1 : Int32))
def f_X10_copies (G : gH) (a0 : Nat) (x1 : Int32) (a2 : Nat) (x3 : Int32) : Option gH :=
    f_X10_copies_L3 g_N G a0 x1 a2 x3 (0 : Int32)
set_option maxRecDepth 20000 in
set_option maxHeartbeats 4000000 in
theorem m_X10_copies (l : Launch) (dd : va_G) (cT : Nat → ClassId) (lo : Nat) (G : gH) (a0 : Nat) (x1 : Int32) (a2 : Nat) (x3 : Int32) {Gz : gH} (h : f_X10_copies G a0 x1 a2 x3 = some Gz) : Met l yX10_copies (Cond.code yX10_copies cX10_copies 5 none :: wsL_law) (g_rm 0 0 0 0) (va_Pc [.ref a0, .int x1, .ref a2, .int x3] (g_Pre lo dd cT G)) (va_Qv (g_iv Gz) (g_Pre lo dd cT) (g_A lo)) 0 0 (g_A lo) := by
  refine g_start RX10 rfl (by decide) (Nat.le_of_ble_eq_true rfl) ?_
  intro p e s m below meth c hx hb hr hlocks hml hown hnm hts hK hG hlo ls hl
  have hl : lv_has ls 5 [(0, .ref a0), (1, .int x1), (2, .ref a2), (3, .int x3)] := hl
  have hG : g_S lo dd cT s s.heap [] G := hG
  have h3 : ∀ n : Nat, ∀ (G : gH) (ba0 : Nat) (bx1 : Int32) (ba2 : Nat) (bx3 : Int32) (bx4 : Int32), ∀ (H : Heap) (locs : List Loc), g_S lo dd cT s H locs G → ∀ ls : Array Slot, lv_has ls 5 [(0, .ref ba0), (1, .int bx1), (2, .ref ba2), (3, .int bx3), (4, .int bx4)] → f_X10_copies_L3 n G ba0 bx1 ba2 bx3 bx4 = some Gz → W p l e (g_rm 0 0 0 0) s m ([.ref a0, .int x1, .ref a2, .int x3] : List Value).toArray below meth c H locs 0 0 (MQ below (va_Qv (g_iv Gz) (g_Pre lo dd cT) (g_A lo)) ([.ref a0, .int x1, .ref a2, .int x3] : List Value).toArray s 0 0 (g_A lo)) (F0 m 3 ls []) := by
    intro n
    induction n with
    | zero =>
      intro G ba0 bx1 ba2 bx3 bx4 H locs hG ls hl h
      cases (show (none : Option gH) = some Gz from h)
    | succ n ih =>
      intro G ba0 bx1 ba2 bx3 bx4 H locs hG ls hl h
      rw [f_X10_copies_L3] at h
      refine lv_iload hx hb dX10_copies_3 (lv_at hl 4 rfl) ?_
      refine lv_sipush (v := (1555 : Int32)) hx hb dX10_copies_5 (by decide) ?_
      refine lv_icmp_ge (tgt := 29) hx hb dX10_copies_8 (by decide) (fun c8 => ?_) (fun c8 => ?_)
      · rw [if_pos c8] at h
        obtain rfl := Option.some.inj h
        exact g_vret hx hb hr hlocks hK hlo hG rfl dX10_copies_29
      · rw [if_neg c8] at h
        refine lv_aload_n hx hb dX10_copies_11 rfl (lv_at hl 2 rfl) ?_
        refine lv_iload_n hx hb dX10_copies_12 rfl (lv_at hl 3 rfl) ?_
        refine lv_iload hx hb dX10_copies_13 (lv_at hl 4 rfl) ?_
        refine lv_iadd hx hb dX10_copies_15 ?_
        refine lv_aload_n hx hb dX10_copies_16 rfl (lv_at hl 0 rfl) ?_
        refine lv_iload_n hx hb dX10_copies_17 rfl (lv_at hl 1 rfl) ?_
        refine lv_iload hx hb dX10_copies_18 (lv_at hl 4 rfl) ?_
        refine lv_iadd hx hb dX10_copies_20 ?_
        obtain ⟨v21, e21, h⟩ := Option.bind_eq_some_iff.mp h
        refine g_iald hx hb hK hG e21 dX10_copies_21 ?_
        obtain ⟨G22, e22, h⟩ := Option.bind_eq_some_iff.mp h
        refine g_iast hx hb hK hG e22 dX10_copies_22 (fun H locs hG => ?_)
        refine lv_iinc (v := (bx4 + (1 : Int32))) (lv' := [(4, .int (bx4 + (1 : Int32))), (0, .ref ba0), (1, .int bx1), (2, .ref ba2), (3, .int bx3)]) hx hb dX10_copies_23 hl (k := 4) rfl rfl (by decide) rfl (fun ls hl => ?_)
        refine lv_goto (tgt := 3) hx hb dX10_copies_26 (by decide) ?_
        exact ih G22 ba0 bx1 ba2 bx3 (bx4 + (1 : Int32)) _ _ hG _ (lv_sub hl [1, 2, 3, 4, 0] rfl) h
  unfold f_X10_copies at h
  refine lv_iconst (v := (0 : Int32)) hx hb dX10_copies_0 (by decide) ?_
  refine lv_istore (lv' := [(4, .int (0 : Int32)), (0, .ref a0), (1, .int x1), (2, .ref a2), (3, .int x3)]) hx hb dX10_copies_1 hl (by decide) rfl (fun ls hl => ?_)
  exact h3 g_N G a0 x1 a2 x3 (0 : Int32) _ _ hG _ (lv_sub hl [1, 2, 3, 4, 0] rfl) h
def f_X10_keeps_J58 (G : gH) (ba0 : Nat) : Option gH :=
    (g_r G ba0 10 1).bind fun v59 =>
    (g_r G ba0 10 25).bind fun v64 =>
    (g_i G ba0 10 24).bind fun v71 =>
    (f_X10_copies G v59 (0 : Int32) v64 ((1555 : Int32) * v71)).bind fun G75 =>
    (g_i G75 ba0 10 24).bind fun v80 =>
    (g_put G75 ba0 10 24 (.int (v80 + (1 : Int32)))).bind fun G85 =>
    some G85
def f_X10_keeps_L21 : Nat → gH → Nat → Int32 → Option gH
  | 0, _, _, _ => none
  | n + 1, G, ba0, bx1 =>
    (g_i G ba0 10 24).bind fun v23 =>
    if v23 ≤ bx1 then
    f_X10_keeps_J58 G ba0
    else
    (g_r G ba0 10 25).bind fun v30 =>
    (g_r G ba0 10 25).bind fun v41 =>
    (f_X10_copies G v30 ((1555 : Int32) * (bx1 + (1 : Int32))) v41 ((1555 : Int32) * bx1)).bind fun G49 =>
    f_X10_keeps_L21 n G49 ba0 (bx1 + (1 : Int32))
def f_X10_keeps (G : gH) (a0 : Nat) : Option gH :=
    (g_i G a0 10 24).bind fun v1 =>
    if v1 = (10 : Int32) then
    (g_i G a0 10 24).bind fun v11 =>
    (g_put G a0 10 24 (.int (v11 - (1 : Int32)))).bind fun G16 =>
    f_X10_keeps_L21 g_N G16 a0 (0 : Int32)
    else
    f_X10_keeps_J58 G a0
set_option maxRecDepth 20000 in
set_option maxHeartbeats 4000000 in
theorem m_X10_keeps (l : Launch) (dd : va_G) (cT : Nat → ClassId) (lo : Nat) (G : gH) (a0 : Nat) {Gz : gH} (h : f_X10_keeps G a0 = some Gz) : Met l yX10_keeps (Cond.code yX10_keeps cX10_keeps 2 none :: wsL_law) (g_rm 1 24 0 0) (va_Pc [.ref a0] (g_Pre lo dd cT G)) (va_Qv (g_iv Gz) (g_Pre lo dd cT) (g_A lo)) 0 0 (g_A lo) := by
  refine g_start RX10 rfl (by decide) (Nat.le_of_ble_eq_true rfl) ?_
  intro p e s m below meth c hx hb hr hlocks hml hown hnm hts hK hG hlo ls hl
  have hl : lv_has ls 2 [(0, .ref a0)] := hl
  have hG : g_S lo dd cT s s.heap [] G := hG
  have h58 : ∀ (G : gH) (ba0 : Nat), ∀ (H : Heap) (locs : List Loc), g_S lo dd cT s H locs G → ∀ ls : Array Slot, lv_has ls 2 [(0, .ref ba0)] → f_X10_keeps_J58 G ba0 = some Gz → W p l e (g_rm 1 24 0 0) s m ([.ref a0] : List Value).toArray below meth c H locs 0 0 (MQ below (va_Qv (g_iv Gz) (g_Pre lo dd cT) (g_A lo)) ([.ref a0] : List Value).toArray s 0 0 (g_A lo)) (F0 m 58 ls []) := by
    intro G ba0 H locs hG ls hl h
    unfold f_X10_keeps_J58 at h
    refine lv_aload_n hx hb dX10_keeps_58 rfl (lv_at hl 0 rfl) ?_
    obtain ⟨v59, e59, h⟩ := Option.bind_eq_some_iff.mp h
    refine g_getr hx hb hts inlX10 hown hK hG (by rfl) 1 (by decide) qF_X10_7 e59 dX10_keeps_59 ?_
    refine lv_iconst (v := (0 : Int32)) hx hb dX10_keeps_62 (by decide) ?_
    refine lv_aload_n hx hb dX10_keeps_63 rfl (lv_at hl 0 rfl) ?_
    obtain ⟨v64, e64, h⟩ := Option.bind_eq_some_iff.mp h
    refine g_getr hx hb hts inlX10 hown hK hG (by rfl) 25 (by decide) qF_X10_41 e64 dX10_keeps_64 ?_
    refine lv_sipush (v := (1555 : Int32)) hx hb dX10_keeps_67 (by decide) ?_
    refine lv_aload_n hx hb dX10_keeps_70 rfl (lv_at hl 0 rfl) ?_
    obtain ⟨v71, e71, h⟩ := Option.bind_eq_some_iff.mp h
    refine g_geti hx hb hts inlX10 hown hK hG (by rfl) 24 (by decide) qF_X10_202 e71 dX10_keeps_71 ?_
    refine lv_imul hx hb dX10_keeps_74 ?_
    obtain ⟨G75, e75, h⟩ := Option.bind_eq_some_iff.mp h
    refine g_cSv (As := [.ref v59, .int (0 : Int32), .ref v64, .int ((1555 : Int32) * v71)]) (rest := []) (n := 4) hx hb hml hown hts hK hlo hG (m_X10_copies l dd cT lo G v59 (0 : Int32) v64 ((1555 : Int32) * v71) e75) qM_X10_192 qT_yX10_copies qN_X10 qC_yX10_copies (by decide +kernel) ⟨Nat.le_of_ble_eq_true rfl, Nat.le_of_ble_eq_true rfl⟩ rfl hl.1 rfl (Nat.le_of_ble_eq_true rfl) dX10_keeps_75 ⟨Nat.le_of_ble_eq_true rfl, Nat.le_of_ble_eq_true rfl⟩ (fun H locs hG => ?_)
    refine lv_aload_n hx hb dX10_keeps_78 rfl (lv_at hl 0 rfl) ?_
    refine lv_dup hx hb dX10_keeps_79 rfl ?_
    obtain ⟨v80, e80, h⟩ := Option.bind_eq_some_iff.mp h
    refine g_geti hx hb hts inlX10 hown hK hG (by rfl) 24 (by decide) qF_X10_202 e80 dX10_keeps_80 ?_
    refine lv_iconst (v := (1 : Int32)) hx hb dX10_keeps_83 (by decide) ?_
    refine lv_iadd hx hb dX10_keeps_84 ?_
    obtain ⟨G85, i85, h⟩ := Option.bind_eq_some_iff.mp h
    refine g_putv hx hb hts inlX10 tyX10 tyX10_ok nmX10 hown hK hG (by rfl) 24 (by decide) qF_X10_202 rfl rfl rfl rfl i85 dX10_keeps_85 (fun H locs hG => ?_)
    obtain rfl := Option.some.inj h
    exact g_vret hx hb hr hlocks hK hlo hG rfl dX10_keeps_88
  have h21 : ∀ n : Nat, ∀ (G : gH) (ba0 : Nat) (bx1 : Int32), ∀ (H : Heap) (locs : List Loc), g_S lo dd cT s H locs G → ∀ ls : Array Slot, lv_has ls 2 [(0, .ref ba0), (1, .int bx1)] → f_X10_keeps_L21 n G ba0 bx1 = some Gz → W p l e (g_rm 1 24 0 0) s m ([.ref a0] : List Value).toArray below meth c H locs 0 0 (MQ below (va_Qv (g_iv Gz) (g_Pre lo dd cT) (g_A lo)) ([.ref a0] : List Value).toArray s 0 0 (g_A lo)) (F0 m 21 ls []) := by
    intro n
    induction n with
    | zero =>
      intro G ba0 bx1 H locs hG ls hl h
      cases (show (none : Option gH) = some Gz from h)
    | succ n ih =>
      intro G ba0 bx1 H locs hG ls hl h
      rw [f_X10_keeps_L21] at h
      refine lv_iload_n hx hb dX10_keeps_21 rfl (lv_at hl 1 rfl) ?_
      refine lv_aload_n hx hb dX10_keeps_22 rfl (lv_at hl 0 rfl) ?_
      obtain ⟨v23, e23, h⟩ := Option.bind_eq_some_iff.mp h
      refine g_geti hx hb hts inlX10 hown hK hG (by rfl) 24 (by decide) qF_X10_202 e23 dX10_keeps_23 ?_
      refine lv_icmp_ge (tgt := 58) hx hb dX10_keeps_26 (by decide) (fun c26 => ?_) (fun c26 => ?_)
      · rw [if_pos c26] at h
        exact h58 G ba0 _ _ hG _ (lv_sub hl [0] rfl) h
      · rw [if_neg c26] at h
        refine lv_aload_n hx hb dX10_keeps_29 rfl (lv_at hl 0 rfl) ?_
        obtain ⟨v30, e30, h⟩ := Option.bind_eq_some_iff.mp h
        refine g_getr hx hb hts inlX10 hown hK hG (by rfl) 25 (by decide) qF_X10_41 e30 dX10_keeps_30 ?_
        refine lv_sipush (v := (1555 : Int32)) hx hb dX10_keeps_33 (by decide) ?_
        refine lv_iload_n hx hb dX10_keeps_36 rfl (lv_at hl 1 rfl) ?_
        refine lv_iconst (v := (1 : Int32)) hx hb dX10_keeps_37 (by decide) ?_
        refine lv_iadd hx hb dX10_keeps_38 ?_
        refine lv_imul hx hb dX10_keeps_39 ?_
        refine lv_aload_n hx hb dX10_keeps_40 rfl (lv_at hl 0 rfl) ?_
        obtain ⟨v41, e41, h⟩ := Option.bind_eq_some_iff.mp h
        refine g_getr hx hb hts inlX10 hown hK hG (by rfl) 25 (by decide) qF_X10_41 e41 dX10_keeps_41 ?_
        refine lv_sipush (v := (1555 : Int32)) hx hb dX10_keeps_44 (by decide) ?_
        refine lv_iload_n hx hb dX10_keeps_47 rfl (lv_at hl 1 rfl) ?_
        refine lv_imul hx hb dX10_keeps_48 ?_
        obtain ⟨G49, e49, h⟩ := Option.bind_eq_some_iff.mp h
        refine g_cSv (As := [.ref v30, .int ((1555 : Int32) * (bx1 + (1 : Int32))), .ref v41, .int ((1555 : Int32) * bx1)]) (rest := []) (n := 4) hx hb hml hown hts hK hlo hG (m_X10_copies l dd cT lo G v30 ((1555 : Int32) * (bx1 + (1 : Int32))) v41 ((1555 : Int32) * bx1) e49) qM_X10_192 qT_yX10_copies qN_X10 qC_yX10_copies (by decide +kernel) ⟨Nat.le_of_ble_eq_true rfl, Nat.le_of_ble_eq_true rfl⟩ rfl hl.1 rfl (Nat.le_of_ble_eq_true rfl) dX10_keeps_49 ⟨Nat.le_of_ble_eq_true rfl, Nat.le_of_ble_eq_true rfl⟩ (fun H locs hG => ?_)
        refine lv_iinc (v := (bx1 + (1 : Int32))) (lv' := [(1, .int (bx1 + (1 : Int32))), (0, .ref ba0)]) hx hb dX10_keeps_52 hl (k := 1) rfl rfl (by decide) rfl (fun ls hl => ?_)
        refine lv_goto (tgt := 21) hx hb dX10_keeps_55 (by decide) ?_
        exact ih G49 ba0 (bx1 + (1 : Int32)) _ _ hG _ (lv_sub hl [1, 0] rfl) h
  unfold f_X10_keeps at h
  refine lv_aload_n hx hb dX10_keeps_0 rfl (lv_at hl 0 rfl) ?_
  obtain ⟨v1, e1, h⟩ := Option.bind_eq_some_iff.mp h
  refine g_geti hx hb hts inlX10 hown hK hG (by rfl) 24 (by decide) qF_X10_202 e1 dX10_keeps_1 ?_
  refine lv_bipush (v := (10 : Int32)) hx hb dX10_keeps_4 (by decide) ?_
  refine lv_icmp_ne (tgt := 58) hx hb dX10_keeps_6 (by decide) (fun c6 => ?_) (fun c6 => ?_)
  · rw [if_neg c6] at h
    exact h58 G a0 _ _ hG _ (lv_sub hl [0] rfl) h
  · rw [if_pos c6] at h
    refine lv_aload_n hx hb dX10_keeps_9 rfl (lv_at hl 0 rfl) ?_
    refine lv_dup hx hb dX10_keeps_10 rfl ?_
    obtain ⟨v11, e11, h⟩ := Option.bind_eq_some_iff.mp h
    refine g_geti hx hb hts inlX10 hown hK hG (by rfl) 24 (by decide) qF_X10_202 e11 dX10_keeps_11 ?_
    refine lv_iconst (v := (1 : Int32)) hx hb dX10_keeps_14 (by decide) ?_
    refine lv_isub hx hb dX10_keeps_15 ?_
    obtain ⟨G16, i16, h⟩ := Option.bind_eq_some_iff.mp h
    refine g_putv hx hb hts inlX10 tyX10 tyX10_ok nmX10 hown hK hG (by rfl) 24 (by decide) qF_X10_202 rfl rfl rfl rfl i16 dX10_keeps_16 (fun H locs hG => ?_)
    refine lv_iconst (v := (0 : Int32)) hx hb dX10_keeps_19 (by decide) ?_
    refine lv_istore_n (lv' := [(1, .int (0 : Int32)), (0, .ref a0)]) hx hb dX10_keeps_20 rfl hl (by decide) rfl (fun ls hl => ?_)
    exact h21 g_N G16 a0 (0 : Int32) _ _ hG _ (lv_sub hl [1, 0] rfl) h
def f_X10_undo (G : gH) (a0 : Nat) : Option (gH × Int32) :=
    (g_put G a0 10 0 (.int (0 : Int32))).bind fun G2 =>
    (g_i G2 a0 10 24).bind fun v6 =>
    if v6 = 0 then
    some (G2, (-1 : Int32))
    else
    (g_i G2 a0 10 24).bind fun v16 =>
    (g_put G2 a0 10 24 (.int (v16 - (1 : Int32)))).bind fun G21 =>
    (g_r G21 a0 10 25).bind fun v25 =>
    (g_i G21 a0 10 24).bind fun v32 =>
    (g_r G21 a0 10 1).bind fun v37 =>
    (f_X10_copies G21 v25 ((1555 : Int32) * v32) v37 (0 : Int32)).bind fun G41 =>
    (g_i G41 a0 10 24).bind fun v45 =>
    some (G41, v45)
set_option maxRecDepth 20000 in
set_option maxHeartbeats 4000000 in
theorem m_X10_undo (l : Launch) (dd : va_G) (cT : Nat → ClassId) (lo : Nat) (G : gH) (a0 : Nat) {rz : Int32} {Gz : gH} (h : f_X10_undo G a0 = some (Gz, rz)) : Met l yX10_undo (Cond.code yX10_undo cX10_undo 1 (some .int) :: wsL_law) (g_rm 1 24 0 0) (va_Pc [.ref a0] (g_Pre lo dd cT G)) (va_Qi (g_is rz Gz) (g_Pre lo dd cT) (g_A lo)) 0 0 (g_A lo) := by
  refine g_start RX10 rfl (by decide) (Nat.le_of_ble_eq_true rfl) ?_
  intro p e s m below meth c hx hb hr hlocks hml hown hnm hts hK hG hlo ls hl
  have hl : lv_has ls 1 [(0, .ref a0)] := hl
  have hG : g_S lo dd cT s s.heap [] G := hG
  unfold f_X10_undo at h
  refine lv_aload_n hx hb dX10_undo_0 rfl (lv_at hl 0 rfl) ?_
  refine lv_iconst (v := (0 : Int32)) hx hb dX10_undo_1 (by decide) ?_
  obtain ⟨G2, i2, h⟩ := Option.bind_eq_some_iff.mp h
  refine g_putv hx hb hts inlX10 tyX10 tyX10_ok nmX10 hown hK hG (by rfl) 0 (by decide) qF_X10_50 rfl rfl rfl rfl i2 dX10_undo_2 (fun H locs hG => ?_)
  refine lv_aload_n hx hb dX10_undo_5 rfl (lv_at hl 0 rfl) ?_
  obtain ⟨v6, e6, h⟩ := Option.bind_eq_some_iff.mp h
  refine g_geti hx hb hts inlX10 hown hK hG (by rfl) 24 (by decide) qF_X10_202 e6 dX10_undo_6 ?_
  refine lv_if_ne (tgt := 14) hx hb dX10_undo_9 (by decide) (fun c9 => ?_) (fun c9 => ?_)
  · rw [if_neg c9] at h
    refine lv_aload_n hx hb dX10_undo_14 rfl (lv_at hl 0 rfl) ?_
    refine lv_dup hx hb dX10_undo_15 rfl ?_
    obtain ⟨v16, e16, h⟩ := Option.bind_eq_some_iff.mp h
    refine g_geti hx hb hts inlX10 hown hK hG (by rfl) 24 (by decide) qF_X10_202 e16 dX10_undo_16 ?_
    refine lv_iconst (v := (1 : Int32)) hx hb dX10_undo_19 (by decide) ?_
    refine lv_isub hx hb dX10_undo_20 ?_
    obtain ⟨G21, i21, h⟩ := Option.bind_eq_some_iff.mp h
    refine g_putv hx hb hts inlX10 tyX10 tyX10_ok nmX10 hown hK hG (by rfl) 24 (by decide) qF_X10_202 rfl rfl rfl rfl i21 dX10_undo_21 (fun H locs hG => ?_)
    refine lv_aload_n hx hb dX10_undo_24 rfl (lv_at hl 0 rfl) ?_
    obtain ⟨v25, e25, h⟩ := Option.bind_eq_some_iff.mp h
    refine g_getr hx hb hts inlX10 hown hK hG (by rfl) 25 (by decide) qF_X10_41 e25 dX10_undo_25 ?_
    refine lv_sipush (v := (1555 : Int32)) hx hb dX10_undo_28 (by decide) ?_
    refine lv_aload_n hx hb dX10_undo_31 rfl (lv_at hl 0 rfl) ?_
    obtain ⟨v32, e32, h⟩ := Option.bind_eq_some_iff.mp h
    refine g_geti hx hb hts inlX10 hown hK hG (by rfl) 24 (by decide) qF_X10_202 e32 dX10_undo_32 ?_
    refine lv_imul hx hb dX10_undo_35 ?_
    refine lv_aload_n hx hb dX10_undo_36 rfl (lv_at hl 0 rfl) ?_
    obtain ⟨v37, e37, h⟩ := Option.bind_eq_some_iff.mp h
    refine g_getr hx hb hts inlX10 hown hK hG (by rfl) 1 (by decide) qF_X10_7 e37 dX10_undo_37 ?_
    refine lv_iconst (v := (0 : Int32)) hx hb dX10_undo_40 (by decide) ?_
    obtain ⟨G41, e41, h⟩ := Option.bind_eq_some_iff.mp h
    refine g_cSv (As := [.ref v25, .int ((1555 : Int32) * v32), .ref v37, .int (0 : Int32)]) (rest := []) (n := 4) hx hb hml hown hts hK hlo hG (m_X10_copies l dd cT lo G21 v25 ((1555 : Int32) * v32) v37 (0 : Int32) e41) qM_X10_192 qT_yX10_copies qN_X10 qC_yX10_copies (by decide +kernel) ⟨Nat.le_of_ble_eq_true rfl, Nat.le_of_ble_eq_true rfl⟩ rfl hl.1 rfl (Nat.le_of_ble_eq_true rfl) dX10_undo_41 ⟨Nat.le_of_ble_eq_true rfl, Nat.le_of_ble_eq_true rfl⟩ (fun H locs hG => ?_)
    refine lv_aload_n hx hb dX10_undo_44 rfl (lv_at hl 0 rfl) ?_
    obtain ⟨v45, e45, h⟩ := Option.bind_eq_some_iff.mp h
    refine g_geti hx hb hts inlX10 hown hK hG (by rfl) 24 (by decide) qF_X10_202 e45 dX10_undo_45 ?_
    obtain ⟨rfl, rfl⟩ := Prod.mk.inj (Option.some.inj h)
    exact g_iret hx hb hr hlocks hK hlo hG ⟨rfl, rfl⟩ dX10_undo_48
  · rw [if_pos c9] at h
    refine lv_iconst (v := (-1 : Int32)) hx hb dX10_undo_12 (by decide) ?_
    obtain ⟨rfl, rfl⟩ := Prod.mk.inj (Option.some.inj h)
    exact g_iret hx hb hr hlocks hK hlo hG ⟨rfl, rfl⟩ dX10_undo_13
def f_X10_saveSnapshot (G : gH) (a0 : Nat) (x1 : Int32) : Option (gH × Int32) :=
    (g_ob G a0 10).bind fun u3 =>
    (f_X10_no G a0 x1 (2 : Int32)).bind fun q3 =>
    if q3.2 = 0 then
    (g_r q3.1 a0 10 27).bind fun v12 =>
    (g_ald 1 q3.1 v12 x1).bind fun v16 =>
    (g_r q3.1 a0 10 1).bind fun v19 =>
    (g_r q3.1 a0 10 26).bind fun v24 =>
    (f_X10_copies q3.1 v19 (0 : Int32) v24 ((1555 : Int32) * x1)).bind fun G32 =>
    (g_r G32 a0 10 27).bind fun v36 =>
    (g_ast 1 G32 v36 x1 (1 : Int32)).bind fun G41 =>
    (g_z v16).bind fun w43 => some (G41, w43)
    else
    some (q3.1, (0 : Int32))
set_option maxRecDepth 20000 in
set_option maxHeartbeats 4000000 in
theorem m_X10_saveSnapshot (l : Launch) (dd : va_G) (cT : Nat → ClassId) (lo : Nat) (G : gH) (a0 : Nat) (x1 : Int32) {rz : Int32} {Gz : gH} (h : f_X10_saveSnapshot G a0 x1 = some (Gz, rz)) : Met l yX10_saveSnapshot (Cond.code yX10_saveSnapshot cX10_saveSnapshot 3 (some .boolean) :: wsL_law) (g_rm 2 44 0 0) (va_Pc [.ref a0, .int x1] (g_Pre lo dd cT G)) (va_Qi (g_is rz Gz) (g_Pre lo dd cT) (g_A lo)) 0 0 (g_A lo) := by
  refine g_start RX10 rfl (by decide) (Nat.le_of_ble_eq_true rfl) ?_
  intro p e s m below meth c hx hb hr hlocks hml hown hnm hts hK hG hlo ls hl
  have hl : lv_has ls 3 [(0, .ref a0), (1, .int x1)] := hl
  have hG : g_S lo dd cT s s.heap [] G := hG
  unfold f_X10_saveSnapshot at h
  refine lv_aload_n hx hb dX10_saveSnapshot_0 rfl (lv_at hl 0 rfl) ?_
  refine lv_iload_n hx hb dX10_saveSnapshot_1 rfl (lv_at hl 1 rfl) ?_
  refine lv_iconst (v := (2 : Int32)) hx hb dX10_saveSnapshot_2 (by decide) ?_
  obtain ⟨u3, i3, h⟩ := Option.bind_eq_some_iff.mp h
  obtain ⟨q3, e3, h⟩ := Option.bind_eq_some_iff.mp h
  refine g_cVi (As := [.int x1, .int (2 : Int32)]) (rest := []) (n := 2) hx hb hml hown hts hK hlo hG (m_X10_no l dd cT lo G a0 x1 (2 : Int32) e3) qM_X10_311 qI_yX10_no qS_X10_yX10_no qN_X10 qC_yX10_no (by decide +kernel) ⟨Nat.le_of_ble_eq_true rfl, Nat.le_of_ble_eq_true rfl⟩ (by rfl) i3 rfl hl.1 rfl (Nat.le_of_ble_eq_true rfl) dX10_saveSnapshot_3 ⟨Nat.le_of_ble_eq_true rfl, Nat.le_of_ble_eq_true rfl⟩ (fun H locs hG => ?_)
  refine lv_if_eq (tgt := 11) hx hb dX10_saveSnapshot_6 (by decide) (fun c6 => ?_) (fun c6 => ?_)
  · rw [if_pos c6] at h
    refine lv_aload_n hx hb dX10_saveSnapshot_11 rfl (lv_at hl 0 rfl) ?_
    obtain ⟨v12, e12, h⟩ := Option.bind_eq_some_iff.mp h
    refine g_getr hx hb hts inlX10 hown hK hG (by rfl) 27 (by decide) qF_X10_47 e12 dX10_saveSnapshot_12 ?_
    refine lv_iload_n hx hb dX10_saveSnapshot_15 rfl (lv_at hl 1 rfl) ?_
    obtain ⟨v16, e16, h⟩ := Option.bind_eq_some_iff.mp h
    refine g_zald hx hb hK hG e16 dX10_saveSnapshot_16 ?_
    refine lv_istore_n (lv' := [(2, .int v16), (0, .ref a0), (1, .int x1)]) hx hb dX10_saveSnapshot_17 rfl hl (by decide) rfl (fun ls hl => ?_)
    refine lv_aload_n hx hb dX10_saveSnapshot_18 rfl (lv_at hl 1 rfl) ?_
    obtain ⟨v19, e19, h⟩ := Option.bind_eq_some_iff.mp h
    refine g_getr hx hb hts inlX10 hown hK hG (by rfl) 1 (by decide) qF_X10_7 e19 dX10_saveSnapshot_19 ?_
    refine lv_iconst (v := (0 : Int32)) hx hb dX10_saveSnapshot_22 (by decide) ?_
    refine lv_aload_n hx hb dX10_saveSnapshot_23 rfl (lv_at hl 1 rfl) ?_
    obtain ⟨v24, e24, h⟩ := Option.bind_eq_some_iff.mp h
    refine g_getr hx hb hts inlX10 hown hK hG (by rfl) 26 (by decide) qF_X10_44 e24 dX10_saveSnapshot_24 ?_
    refine lv_sipush (v := (1555 : Int32)) hx hb dX10_saveSnapshot_27 (by decide) ?_
    refine lv_iload_n hx hb dX10_saveSnapshot_30 rfl (lv_at hl 2 rfl) ?_
    refine lv_imul hx hb dX10_saveSnapshot_31 ?_
    obtain ⟨G32, e32, h⟩ := Option.bind_eq_some_iff.mp h
    refine g_cSv (As := [.ref v19, .int (0 : Int32), .ref v24, .int ((1555 : Int32) * x1)]) (rest := []) (n := 4) hx hb hml hown hts hK hlo hG (m_X10_copies l dd cT lo q3.1 v19 (0 : Int32) v24 ((1555 : Int32) * x1) e32) qM_X10_192 qT_yX10_copies qN_X10 qC_yX10_copies (by decide +kernel) ⟨Nat.le_of_ble_eq_true rfl, Nat.le_of_ble_eq_true rfl⟩ rfl hl.1 rfl (Nat.le_of_ble_eq_true rfl) dX10_saveSnapshot_32 ⟨Nat.le_of_ble_eq_true rfl, Nat.le_of_ble_eq_true rfl⟩ (fun H locs hG => ?_)
    refine lv_aload_n hx hb dX10_saveSnapshot_35 rfl (lv_at hl 1 rfl) ?_
    obtain ⟨v36, e36, h⟩ := Option.bind_eq_some_iff.mp h
    refine g_getr hx hb hts inlX10 hown hK hG (by rfl) 27 (by decide) qF_X10_47 e36 dX10_saveSnapshot_36 ?_
    refine lv_iload_n hx hb dX10_saveSnapshot_39 rfl (lv_at hl 2 rfl) ?_
    refine lv_iconst (v := (1 : Int32)) hx hb dX10_saveSnapshot_40 (by decide) ?_
    obtain ⟨G41, e41, h⟩ := Option.bind_eq_some_iff.mp h
    refine g_zast hx hb hK hG e41 dX10_saveSnapshot_41 (fun H locs hG => ?_)
    refine lv_iload_n hx hb dX10_saveSnapshot_42 rfl (lv_at hl 0 rfl) ?_
    obtain ⟨w43, e43, h⟩ := Option.bind_eq_some_iff.mp h
    obtain ⟨n43, rfl⟩ := g_z_nar e43
    obtain ⟨rfl, rfl⟩ := Prod.mk.inj (Option.some.inj h)
    exact g_zret hx hb hr hlocks hK hlo hG n43 ⟨rfl, rfl⟩ dX10_saveSnapshot_43
  · rw [if_neg c6] at h
    refine lv_iconst (v := (0 : Int32)) hx hb dX10_saveSnapshot_9 (by decide) ?_
    obtain ⟨rfl, rfl⟩ := Prod.mk.inj (Option.some.inj h)
    exact g_zret hx hb hr hlocks hK hlo hG rfl ⟨rfl, rfl⟩ dX10_saveSnapshot_10
def f_X10_restoreSnapshot_J24 (G : gH) (ba0 : Nat) (bx1 : Int32) (z0 : Nat) (z1 : Int32) : Option (gH × Int32) :=
    (g_ob G z0 10).bind fun u25 =>
    (f_X10_throwsIf G z0 z1 (2 : Int32)).bind fun q25 =>
    if q25.2 = 0 then
    (g_r q25.1 ba0 10 26).bind fun v34 =>
    (g_r q25.1 ba0 10 1).bind fun v43 =>
    (f_X10_copies q25.1 v34 ((1555 : Int32) * bx1) v43 (0 : Int32)).bind fun G47 =>
    (g_put G47 ba0 10 24 (.int (0 : Int32))).bind fun G52 =>
    (g_r G52 ba0 10 1).bind fun v56 =>
    (g_ald 0 G52 v56 (3 : Int32)).bind fun v60 =>
    some (G52, v60)
    else
    some (q25.1, (0 : Int32))
def f_X10_restoreSnapshot (G : gH) (a0 : Nat) (x1 : Int32) : Option (gH × Int32) :=
    (g_ob G a0 10).bind fun u3 =>
    (f_X10_no G a0 x1 (2 : Int32)).bind fun q3 =>
    if q3.2 = 0 then
    (g_r q3.1 a0 10 27).bind fun v11 =>
    (g_ald 1 q3.1 v11 x1).bind fun v15 =>
    if v15 = 0 then
    f_X10_restoreSnapshot_J24 q3.1 a0 x1 a0 (1 : Int32)
    else
    f_X10_restoreSnapshot_J24 q3.1 a0 x1 a0 (0 : Int32)
    else
    some (q3.1, (0 : Int32))
set_option maxRecDepth 20000 in
set_option maxHeartbeats 4000000 in
theorem m_X10_restoreSnapshot (l : Launch) (dd : va_G) (cT : Nat → ClassId) (lo : Nat) (G : gH) (a0 : Nat) (x1 : Int32) {rz : Int32} {Gz : gH} (h : f_X10_restoreSnapshot G a0 x1 = some (Gz, rz)) : Met l yX10_restoreSnapshot (Cond.code yX10_restoreSnapshot cX10_restoreSnapshot 2 (some .int) :: wsL_law) (g_rm 2 44 0 0) (va_Pc [.ref a0, .int x1] (g_Pre lo dd cT G)) (va_Qi (g_is rz Gz) (g_Pre lo dd cT) (g_A lo)) 0 0 (g_A lo) := by
  refine g_start RX10 rfl (by decide) (Nat.le_of_ble_eq_true rfl) ?_
  intro p e s m below meth c hx hb hr hlocks hml hown hnm hts hK hG hlo ls hl
  have hl : lv_has ls 2 [(0, .ref a0), (1, .int x1)] := hl
  have hG : g_S lo dd cT s s.heap [] G := hG
  have h24 : ∀ (G : gH) (ba0 : Nat) (bx1 : Int32) (z0 : Nat) (z1 : Int32), ∀ (H : Heap) (locs : List Loc), g_S lo dd cT s H locs G → ∀ ls : Array Slot, lv_has ls 2 [(0, .ref ba0), (1, .int bx1)] → f_X10_restoreSnapshot_J24 G ba0 bx1 z0 z1 = some (Gz, rz) → W p l e (g_rm 2 44 0 0) s m ([.ref a0, .int x1] : List Value).toArray below meth c H locs 0 0 (MQ below (va_Qi (g_is rz Gz) (g_Pre lo dd cT) (g_A lo)) ([.ref a0, .int x1] : List Value).toArray s 0 0 (g_A lo)) (F0 m 24 ls [.int z1, .ref z0]) := by
    intro G ba0 bx1 z0 z1 H locs hG ls hl h
    unfold f_X10_restoreSnapshot_J24 at h
    refine lv_iconst (v := (2 : Int32)) hx hb dX10_restoreSnapshot_24 (by decide) ?_
    obtain ⟨u25, i25, h⟩ := Option.bind_eq_some_iff.mp h
    obtain ⟨q25, e25, h⟩ := Option.bind_eq_some_iff.mp h
    refine g_cVi (As := [.int z1, .int (2 : Int32)]) (rest := []) (n := 2) hx hb hml hown hts hK hlo hG (m_X10_throwsIf l dd cT lo G z0 z1 (2 : Int32) e25) qM_X10_188 qI_yX10_throwsIf qS_X10_yX10_throwsIf qN_X10 qC_yX10_throwsIf (by decide +kernel) ⟨Nat.le_of_ble_eq_true rfl, Nat.le_of_ble_eq_true rfl⟩ (by rfl) i25 rfl hl.1 rfl (Nat.le_of_ble_eq_true rfl) dX10_restoreSnapshot_25 ⟨Nat.le_of_ble_eq_true rfl, Nat.le_of_ble_eq_true rfl⟩ (fun H locs hG => ?_)
    refine lv_if_eq (tgt := 33) hx hb dX10_restoreSnapshot_28 (by decide) (fun c28 => ?_) (fun c28 => ?_)
    · rw [if_pos c28] at h
      refine lv_aload_n hx hb dX10_restoreSnapshot_33 rfl (lv_at hl 0 rfl) ?_
      obtain ⟨v34, e34, h⟩ := Option.bind_eq_some_iff.mp h
      refine g_getr hx hb hts inlX10 hown hK hG (by rfl) 26 (by decide) qF_X10_44 e34 dX10_restoreSnapshot_34 ?_
      refine lv_sipush (v := (1555 : Int32)) hx hb dX10_restoreSnapshot_37 (by decide) ?_
      refine lv_iload_n hx hb dX10_restoreSnapshot_40 rfl (lv_at hl 1 rfl) ?_
      refine lv_imul hx hb dX10_restoreSnapshot_41 ?_
      refine lv_aload_n hx hb dX10_restoreSnapshot_42 rfl (lv_at hl 0 rfl) ?_
      obtain ⟨v43, e43, h⟩ := Option.bind_eq_some_iff.mp h
      refine g_getr hx hb hts inlX10 hown hK hG (by rfl) 1 (by decide) qF_X10_7 e43 dX10_restoreSnapshot_43 ?_
      refine lv_iconst (v := (0 : Int32)) hx hb dX10_restoreSnapshot_46 (by decide) ?_
      obtain ⟨G47, e47, h⟩ := Option.bind_eq_some_iff.mp h
      refine g_cSv (As := [.ref v34, .int ((1555 : Int32) * bx1), .ref v43, .int (0 : Int32)]) (rest := []) (n := 4) hx hb hml hown hts hK hlo hG (m_X10_copies l dd cT lo q25.1 v34 ((1555 : Int32) * bx1) v43 (0 : Int32) e47) qM_X10_192 qT_yX10_copies qN_X10 qC_yX10_copies (by decide +kernel) ⟨Nat.le_of_ble_eq_true rfl, Nat.le_of_ble_eq_true rfl⟩ rfl hl.1 rfl (Nat.le_of_ble_eq_true rfl) dX10_restoreSnapshot_47 ⟨Nat.le_of_ble_eq_true rfl, Nat.le_of_ble_eq_true rfl⟩ (fun H locs hG => ?_)
      refine lv_aload_n hx hb dX10_restoreSnapshot_50 rfl (lv_at hl 0 rfl) ?_
      refine lv_iconst (v := (0 : Int32)) hx hb dX10_restoreSnapshot_51 (by decide) ?_
      obtain ⟨G52, i52, h⟩ := Option.bind_eq_some_iff.mp h
      refine g_putv hx hb hts inlX10 tyX10 tyX10_ok nmX10 hown hK hG (by rfl) 24 (by decide) qF_X10_202 rfl rfl rfl rfl i52 dX10_restoreSnapshot_52 (fun H locs hG => ?_)
      refine lv_aload_n hx hb dX10_restoreSnapshot_55 rfl (lv_at hl 0 rfl) ?_
      obtain ⟨v56, e56, h⟩ := Option.bind_eq_some_iff.mp h
      refine g_getr hx hb hts inlX10 hown hK hG (by rfl) 1 (by decide) qF_X10_7 e56 dX10_restoreSnapshot_56 ?_
      refine lv_iconst (v := (3 : Int32)) hx hb dX10_restoreSnapshot_59 (by decide) ?_
      obtain ⟨v60, e60, h⟩ := Option.bind_eq_some_iff.mp h
      refine g_iald hx hb hK hG e60 dX10_restoreSnapshot_60 ?_
      obtain ⟨rfl, rfl⟩ := Prod.mk.inj (Option.some.inj h)
      exact g_iret hx hb hr hlocks hK hlo hG ⟨rfl, rfl⟩ dX10_restoreSnapshot_61
    · rw [if_neg c28] at h
      refine lv_iconst (v := (0 : Int32)) hx hb dX10_restoreSnapshot_31 (by decide) ?_
      obtain ⟨rfl, rfl⟩ := Prod.mk.inj (Option.some.inj h)
      exact g_iret hx hb hr hlocks hK hlo hG ⟨rfl, rfl⟩ dX10_restoreSnapshot_32
  unfold f_X10_restoreSnapshot at h
  refine lv_aload_n hx hb dX10_restoreSnapshot_0 rfl (lv_at hl 0 rfl) ?_
  refine lv_iload_n hx hb dX10_restoreSnapshot_1 rfl (lv_at hl 1 rfl) ?_
  refine lv_iconst (v := (2 : Int32)) hx hb dX10_restoreSnapshot_2 (by decide) ?_
  obtain ⟨u3, i3, h⟩ := Option.bind_eq_some_iff.mp h
  obtain ⟨q3, e3, h⟩ := Option.bind_eq_some_iff.mp h
  refine g_cVi (As := [.int x1, .int (2 : Int32)]) (rest := []) (n := 2) hx hb hml hown hts hK hlo hG (m_X10_no l dd cT lo G a0 x1 (2 : Int32) e3) qM_X10_311 qI_yX10_no qS_X10_yX10_no qN_X10 qC_yX10_no (by decide +kernel) ⟨Nat.le_of_ble_eq_true rfl, Nat.le_of_ble_eq_true rfl⟩ (by rfl) i3 rfl hl.1 rfl (Nat.le_of_ble_eq_true rfl) dX10_restoreSnapshot_3 ⟨Nat.le_of_ble_eq_true rfl, Nat.le_of_ble_eq_true rfl⟩ (fun H locs hG => ?_)
  refine lv_if_ne (tgt := 31) hx hb dX10_restoreSnapshot_6 (by decide) (fun c6 => ?_) (fun c6 => ?_)
  · rw [if_neg c6] at h
    refine lv_iconst (v := (0 : Int32)) hx hb dX10_restoreSnapshot_31 (by decide) ?_
    obtain ⟨rfl, rfl⟩ := Prod.mk.inj (Option.some.inj h)
    exact g_iret hx hb hr hlocks hK hlo hG ⟨rfl, rfl⟩ dX10_restoreSnapshot_32
  · rw [if_pos c6] at h
    refine lv_aload_n hx hb dX10_restoreSnapshot_9 rfl (lv_at hl 0 rfl) ?_
    refine lv_aload_n hx hb dX10_restoreSnapshot_10 rfl (lv_at hl 0 rfl) ?_
    obtain ⟨v11, e11, h⟩ := Option.bind_eq_some_iff.mp h
    refine g_getr hx hb hts inlX10 hown hK hG (by rfl) 27 (by decide) qF_X10_47 e11 dX10_restoreSnapshot_11 ?_
    refine lv_iload_n hx hb dX10_restoreSnapshot_14 rfl (lv_at hl 1 rfl) ?_
    obtain ⟨v15, e15, h⟩ := Option.bind_eq_some_iff.mp h
    refine g_zald hx hb hK hG e15 dX10_restoreSnapshot_15 ?_
    refine lv_if_ne (tgt := 23) hx hb dX10_restoreSnapshot_16 (by decide) (fun c16 => ?_) (fun c16 => ?_)
    · rw [if_neg c16] at h
      refine lv_iconst (v := (0 : Int32)) hx hb dX10_restoreSnapshot_23 (by decide) ?_
      exact h24 q3.1 a0 x1 a0 (0 : Int32) _ _ hG _ (lv_sub hl [0, 1] rfl) h
    · rw [if_pos c16] at h
      refine lv_iconst (v := (1 : Int32)) hx hb dX10_restoreSnapshot_19 (by decide) ?_
      refine lv_goto (tgt := 24) hx hb dX10_restoreSnapshot_20 (by decide) ?_
      exact h24 q3.1 a0 x1 a0 (1 : Int32) _ _ hG _ (lv_sub hl [0, 1] rfl) h
def f_X2_clear (G : gH) (a0 : Nat) : Option gH :=
    (g_put G a0 2 0 (.int (0 : Int32))).bind fun G2 =>
    (g_put G2 a0 2 1 (.int (0 : Int32))).bind fun G7 =>
    some G7
set_option maxRecDepth 20000 in
set_option maxHeartbeats 4000000 in
theorem m_X2_clear (l : Launch) (dd : va_G) (cT : Nat → ClassId) (lo : Nat) (G : gH) (a0 : Nat) {Gz : gH} (h : f_X2_clear G a0 = some Gz) : Met l yX2_clear (Cond.code yX2_clear cX2_clear 1 none :: wsL_law) (g_rm 0 0 0 0) (va_Pc [.ref a0] (g_Pre lo dd cT G)) (va_Qv (g_iv Gz) (g_Pre lo dd cT) (g_A lo)) 0 0 (g_A lo) := by
  refine g_start RX2 rfl (by decide) (Nat.le_of_ble_eq_true rfl) ?_
  intro p e s m below meth c hx hb hr hlocks hml hown hnm hts hK hG hlo ls hl
  have hl : lv_has ls 1 [(0, .ref a0)] := hl
  have hG : g_S lo dd cT s s.heap [] G := hG
  unfold f_X2_clear at h
  refine lv_aload_n hx hb dX2_clear_0 rfl (lv_at hl 0 rfl) ?_
  refine lv_iconst (v := (0 : Int32)) hx hb dX2_clear_1 (by decide) ?_
  obtain ⟨G2, i2, h⟩ := Option.bind_eq_some_iff.mp h
  refine g_putv hx hb hts inlX2 tyX2 tyX2_ok nmX2 hown hK hG (by rfl) 0 (by decide) qF_X2_9 rfl rfl rfl rfl i2 dX2_clear_2 (fun H locs hG => ?_)
  refine lv_aload_n hx hb dX2_clear_5 rfl (lv_at hl 0 rfl) ?_
  refine lv_iconst (v := (0 : Int32)) hx hb dX2_clear_6 (by decide) ?_
  obtain ⟨G7, i7, h⟩ := Option.bind_eq_some_iff.mp h
  refine g_putv hx hb hts inlX2 tyX2 tyX2_ok nmX2 hown hK hG (by rfl) 1 (by decide) qF_X2_15 rfl rfl rfl rfl i7 dX2_clear_7 (fun H locs hG => ?_)
  obtain rfl := Option.some.inj h
  exact g_vret hx hb hr hlocks hK hlo hG rfl dX2_clear_10
def f_X3_hasRoom (G : gH) (a0 : Nat) (x1 : Int32) : Option Int32 :=
    (g_i G a0 3 1).bind fun v1 =>
    if (600 : Int32) < (v1 + x1) then
    some (0 : Int32)
    else
    some (1 : Int32)
set_option maxRecDepth 20000 in
set_option maxHeartbeats 4000000 in
theorem m_X3_hasRoom (l : Launch) (dd : va_G) (cT : Nat → ClassId) (lo : Nat) (G : gH) (a0 : Nat) (x1 : Int32) {rz : Int32} (h : f_X3_hasRoom G a0 x1 = some rz) : Met l yX3_hasRoom (Cond.code yX3_hasRoom cX3_hasRoom 2 (some .boolean) :: wsL_law) (g_rm 0 0 0 0) (va_Pc [.ref a0, .int x1] (g_Pre lo dd cT G)) (va_Qi (g_is rz G) (g_Pre lo dd cT) (g_A lo)) 0 0 (g_A lo) := by
  refine g_start RX3 rfl (by decide) (Nat.le_of_ble_eq_true rfl) ?_
  intro p e s m below meth c hx hb hr hlocks hml hown hnm hts hK hG hlo ls hl
  have hl : lv_has ls 2 [(0, .ref a0), (1, .int x1)] := hl
  have hG : g_S lo dd cT s s.heap [] G := hG
  unfold f_X3_hasRoom at h
  refine lv_aload_n hx hb dX3_hasRoom_0 rfl (lv_at hl 0 rfl) ?_
  obtain ⟨v1, e1, h⟩ := Option.bind_eq_some_iff.mp h
  refine g_geti hx hb hts inlX3 hown hK hG (by rfl) 1 (by decide) qF_X3_15 e1 dX3_hasRoom_1 ?_
  refine lv_iload_n hx hb dX3_hasRoom_4 rfl (lv_at hl 1 rfl) ?_
  refine lv_iadd hx hb dX3_hasRoom_5 ?_
  refine lv_sipush (v := (600 : Int32)) hx hb dX3_hasRoom_6 (by decide) ?_
  refine lv_icmp_gt (tgt := 16) hx hb dX3_hasRoom_9 (by decide) (fun c9 => ?_) (fun c9 => ?_)
  · rw [if_pos c9] at h
    refine lv_iconst (v := (0 : Int32)) hx hb dX3_hasRoom_16 (by decide) ?_
    obtain rfl := Option.some.inj h
    exact g_zret hx hb hr hlocks hK hlo hG rfl ⟨rfl, rfl⟩ dX3_hasRoom_17
  · rw [if_neg c9] at h
    refine lv_iconst (v := (1 : Int32)) hx hb dX3_hasRoom_12 (by decide) ?_
    refine lv_goto (tgt := 17) hx hb dX3_hasRoom_13 (by decide) ?_
    obtain rfl := Option.some.inj h
    exact g_zret hx hb hr hlocks hK hlo hG rfl ⟨rfl, rfl⟩ dX3_hasRoom_17
def f_X4_fail (G : gH) (a0 : Nat) (x1 : Int32) : Option (gH × Int32) :=
    (g_put G a0 4 0 (.int x1)).bind fun G2 =>
    some (G2, (0 : Int32))
set_option maxRecDepth 20000 in
set_option maxHeartbeats 4000000 in
theorem m_X4_fail (l : Launch) (dd : va_G) (cT : Nat → ClassId) (lo : Nat) (G : gH) (a0 : Nat) (x1 : Int32) {rz : Int32} {Gz : gH} (h : f_X4_fail G a0 x1 = some (Gz, rz)) : Met l yX4_fail (Cond.code yX4_fail cX4_fail 2 (some .boolean) :: wsL_law) (g_rm 0 0 0 0) (va_Pc [.ref a0, .int x1] (g_Pre lo dd cT G)) (va_Qi (g_is rz Gz) (g_Pre lo dd cT) (g_A lo)) 0 0 (g_A lo) := by
  refine g_start RX4 rfl (by decide) (Nat.le_of_ble_eq_true rfl) ?_
  intro p e s m below meth c hx hb hr hlocks hml hown hnm hts hK hG hlo ls hl
  have hl : lv_has ls 2 [(0, .ref a0), (1, .int x1)] := hl
  have hG : g_S lo dd cT s s.heap [] G := hG
  unfold f_X4_fail at h
  refine lv_aload_n hx hb dX4_fail_0 rfl (lv_at hl 0 rfl) ?_
  refine lv_iload_n hx hb dX4_fail_1 rfl (lv_at hl 1 rfl) ?_
  obtain ⟨G2, i2, h⟩ := Option.bind_eq_some_iff.mp h
  refine g_putv hx hb hts inlX4 tyX4 tyX4_ok nmX4 hown hK hG (by rfl) 0 (by decide) qF_X4_9 rfl rfl rfl rfl i2 dX4_fail_2 (fun H locs hG => ?_)
  refine lv_iconst (v := (0 : Int32)) hx hb dX4_fail_5 (by decide) ?_
  obtain ⟨rfl, rfl⟩ := Prod.mk.inj (Option.some.inj h)
  exact g_zret hx hb hr hlocks hK hlo hG rfl ⟨rfl, rfl⟩ dX4_fail_6
def f_X5_latest (G : gH) (a0 : Nat) : Option Int32 :=
    (g_i G a0 5 0).bind fun v1 =>
    some (v1 - (1 : Int32))
set_option maxRecDepth 20000 in
set_option maxHeartbeats 4000000 in
theorem m_X5_latest (l : Launch) (dd : va_G) (cT : Nat → ClassId) (lo : Nat) (G : gH) (a0 : Nat) {rz : Int32} (h : f_X5_latest G a0 = some rz) : Met l yX5_latest (Cond.code yX5_latest cX5_latest 1 (some .int) :: wsL_law) (g_rm 0 0 0 0) (va_Pc [.ref a0] (g_Pre lo dd cT G)) (va_Qi (g_is rz G) (g_Pre lo dd cT) (g_A lo)) 0 0 (g_A lo) := by
  refine g_start RX5 rfl (by decide) (Nat.le_of_ble_eq_true rfl) ?_
  intro p e s m below meth c hx hb hr hlocks hml hown hnm hts hK hG hlo ls hl
  have hl : lv_has ls 1 [(0, .ref a0)] := hl
  have hG : g_S lo dd cT s s.heap [] G := hG
  unfold f_X5_latest at h
  refine lv_aload_n hx hb dX5_latest_0 rfl (lv_at hl 0 rfl) ?_
  obtain ⟨v1, e1, h⟩ := Option.bind_eq_some_iff.mp h
  refine g_geti hx hb hts inlX5 hown hK hG (by rfl) 0 (by decide) qF_X5_9 e1 dX5_latest_1 ?_
  refine lv_iconst (v := (1 : Int32)) hx hb dX5_latest_4 (by decide) ?_
  refine lv_isub hx hb dX5_latest_5 ?_
  obtain rfl := Option.some.inj h
  exact g_iret hx hb hr hlocks hK hlo hG ⟨rfl, rfl⟩ dX5_latest_6
def f_X9_errorPosition (G : gH) (a0 : Nat) : Option Int32 :=
    (g_r G a0 9 1).bind fun v1 =>
    (g_i G v1 4 1).bind fun v4 =>
    some v4
set_option maxRecDepth 20000 in
set_option maxHeartbeats 4000000 in
theorem m_X9_errorPosition (l : Launch) (dd : va_G) (cT : Nat → ClassId) (lo : Nat) (G : gH) (a0 : Nat) {rz : Int32} (h : f_X9_errorPosition G a0 = some rz) : Met l yX9_errorPosition (Cond.code yX9_errorPosition cX9_errorPosition 1 (some .int) :: wsL_law) (g_rm 0 0 0 0) (va_Pc [.ref a0] (g_Pre lo dd cT G)) (va_Qi (g_is rz G) (g_Pre lo dd cT) (g_A lo)) 0 0 (g_A lo) := by
  refine g_start RX9 rfl (by decide) (Nat.le_of_ble_eq_true rfl) ?_
  intro p e s m below meth c hx hb hr hlocks hml hown hnm hts hK hG hlo ls hl
  have hl : lv_has ls 1 [(0, .ref a0)] := hl
  have hG : g_S lo dd cT s s.heap [] G := hG
  unfold f_X9_errorPosition at h
  refine lv_aload_n hx hb dX9_errorPosition_0 rfl (lv_at hl 0 rfl) ?_
  obtain ⟨v1, e1, h⟩ := Option.bind_eq_some_iff.mp h
  refine g_getr hx hb hts inlX9 hown hK hG (by rfl) 1 (by decide) qF_X9_19 e1 dX9_errorPosition_1 ?_
  obtain ⟨v4, e4, h⟩ := Option.bind_eq_some_iff.mp h
  refine g_geti hx hb hts inlX4 hown hK hG (by rfl) 1 (by decide) qF_X9_103 e4 dX9_errorPosition_4 ?_
  obtain rfl := Option.some.inj h
  exact g_iret hx hb hr hlocks hK hlo hG ⟨rfl, rfl⟩ dX9_errorPosition_7
def f_X9_oneIf (G : gH) (x0 : Int32) : Option Int32 :=
    if x0 = 0 then
    some (0 : Int32)
    else
    some (1 : Int32)
set_option maxRecDepth 20000 in
set_option maxHeartbeats 4000000 in
theorem m_X9_oneIf (l : Launch) (dd : va_G) (cT : Nat → ClassId) (lo : Nat) (G : gH) (x0 : Int32) {rz : Int32} (h : f_X9_oneIf G x0 = some rz) : Met l yX9_oneIf (Cond.code yX9_oneIf cX9_oneIf 1 (some .int) :: wsL_law) (g_rm 0 0 0 0) (va_Pc [.int x0] (g_Pre lo dd cT G)) (va_Qi (g_is rz G) (g_Pre lo dd cT) (g_A lo)) 0 0 (g_A lo) := by
  refine g_start RX9 rfl (by decide) (Nat.le_of_ble_eq_true rfl) ?_
  intro p e s m below meth c hx hb hr hlocks hml hown hnm hts hK hG hlo ls hl
  have hl : lv_has ls 1 [(0, .int x0)] := hl
  have hG : g_S lo dd cT s s.heap [] G := hG
  unfold f_X9_oneIf at h
  refine lv_iload_n hx hb dX9_oneIf_0 rfl (lv_at hl 0 rfl) ?_
  refine lv_if_eq (tgt := 8) hx hb dX9_oneIf_1 (by decide) (fun c1 => ?_) (fun c1 => ?_)
  · rw [if_pos c1] at h
    refine lv_iconst (v := (0 : Int32)) hx hb dX9_oneIf_8 (by decide) ?_
    obtain rfl := Option.some.inj h
    exact g_iret hx hb hr hlocks hK hlo hG ⟨rfl, rfl⟩ dX9_oneIf_9
  · rw [if_neg c1] at h
    refine lv_iconst (v := (1 : Int32)) hx hb dX9_oneIf_4 (by decide) ?_
    refine lv_goto (tgt := 9) hx hb dX9_oneIf_5 (by decide) ?_
    obtain rfl := Option.some.inj h
    exact g_iret hx hb hr hlocks hK hlo hG ⟨rfl, rfl⟩ dX9_oneIf_9
def f_X9_withLetter (G : gH) (x0 : Int64) (x2 : Int32) : Option Int64 :=
    some ((x0 * (27 : Int64)) + ((x2 - (97 : Int32)) + (1 : Int32)).toInt64)
set_option maxRecDepth 20000 in
set_option maxHeartbeats 4000000 in
theorem m_X9_withLetter (l : Launch) (dd : va_G) (cT : Nat → ClassId) (lo : Nat) (G : gH) (x0 : Int64) (x2 : Int32) {rz : Int64} (h : f_X9_withLetter G x0 x2 = some rz) : Met l yX9_withLetter (Cond.code yX9_withLetter cX9_withLetter 3 (some .long) :: wsL_law) (g_rm 0 0 0 0) (va_Pc [.long x0, .int x2] (g_Pre lo dd cT G)) (va_Ql (g_is rz G) (g_Pre lo dd cT) (g_A lo)) 0 0 (g_A lo) := by
  refine g_start RX9 rfl (by decide) (Nat.le_of_ble_eq_true rfl) ?_
  intro p e s m below meth c hx hb hr hlocks hml hown hnm hts hK hG hlo ls hl
  have hl : lv_has ls 3 [(0, .long x0), (2, .int x2)] := hl
  have hG : g_S lo dd cT s s.heap [] G := hG
  unfold f_X9_withLetter at h
  refine lv_lload_n hx hb dX9_withLetter_0 rfl (lv_at hl 0 rfl) ?_
  refine lv_ldc2 hx hb hown (hts _ qJ_X9_337) dX9_withLetter_1 ?_
  refine lv_lmul hx hb dX9_withLetter_4 ?_
  refine lv_iload_n hx hb dX9_withLetter_5 rfl (lv_at hl 1 rfl) ?_
  refine lv_bipush (v := (97 : Int32)) hx hb dX9_withLetter_6 (by decide) ?_
  refine lv_isub hx hb dX9_withLetter_8 ?_
  refine lv_iconst (v := (1 : Int32)) hx hb dX9_withLetter_9 (by decide) ?_
  refine lv_iadd hx hb dX9_withLetter_10 ?_
  refine lv_i2l hx hb dX9_withLetter_11 rfl ?_
  refine lv_ladd hx hb dX9_withLetter_12 ?_
  obtain rfl := Option.some.inj h
  exact g_jret hx hb hr hlocks hK hlo hG ⟨rfl, rfl⟩ dX9_withLetter_13
def f_X9_isLetter (G : gH) (x0 : Int32) : Option Int32 :=
    if x0 < (97 : Int32) then
    some (0 : Int32)
    else
    if (122 : Int32) < x0 then
    some (0 : Int32)
    else
    some (1 : Int32)
set_option maxRecDepth 20000 in
set_option maxHeartbeats 4000000 in
theorem m_X9_isLetter (l : Launch) (dd : va_G) (cT : Nat → ClassId) (lo : Nat) (G : gH) (x0 : Int32) {rz : Int32} (h : f_X9_isLetter G x0 = some rz) : Met l yX9_isLetter (Cond.code yX9_isLetter cX9_isLetter 1 (some .boolean) :: wsL_law) (g_rm 0 0 0 0) (va_Pc [.int x0] (g_Pre lo dd cT G)) (va_Qi (g_is rz G) (g_Pre lo dd cT) (g_A lo)) 0 0 (g_A lo) := by
  refine g_start RX9 rfl (by decide) (Nat.le_of_ble_eq_true rfl) ?_
  intro p e s m below meth c hx hb hr hlocks hml hown hnm hts hK hG hlo ls hl
  have hl : lv_has ls 1 [(0, .int x0)] := hl
  have hG : g_S lo dd cT s s.heap [] G := hG
  unfold f_X9_isLetter at h
  refine lv_iload_n hx hb dX9_isLetter_0 rfl (lv_at hl 0 rfl) ?_
  refine lv_bipush (v := (97 : Int32)) hx hb dX9_isLetter_1 (by decide) ?_
  refine lv_icmp_lt (tgt := 16) hx hb dX9_isLetter_3 (by decide) (fun c3 => ?_) (fun c3 => ?_)
  · rw [if_pos c3] at h
    refine lv_iconst (v := (0 : Int32)) hx hb dX9_isLetter_16 (by decide) ?_
    obtain rfl := Option.some.inj h
    exact g_zret hx hb hr hlocks hK hlo hG rfl ⟨rfl, rfl⟩ dX9_isLetter_17
  · rw [if_neg c3] at h
    refine lv_iload_n hx hb dX9_isLetter_6 rfl (lv_at hl 0 rfl) ?_
    refine lv_bipush (v := (122 : Int32)) hx hb dX9_isLetter_7 (by decide) ?_
    refine lv_icmp_gt (tgt := 16) hx hb dX9_isLetter_9 (by decide) (fun c9 => ?_) (fun c9 => ?_)
    · rw [if_pos c9] at h
      refine lv_iconst (v := (0 : Int32)) hx hb dX9_isLetter_16 (by decide) ?_
      obtain rfl := Option.some.inj h
      exact g_zret hx hb hr hlocks hK hlo hG rfl ⟨rfl, rfl⟩ dX9_isLetter_17
    · rw [if_neg c9] at h
      refine lv_iconst (v := (1 : Int32)) hx hb dX9_isLetter_12 (by decide) ?_
      refine lv_goto (tgt := 17) hx hb dX9_isLetter_13 (by decide) ?_
      obtain rfl := Option.some.inj h
      exact g_zret hx hb hr hlocks hK hlo hG rfl ⟨rfl, rfl⟩ dX9_isLetter_17
def f_X9_packed_L4 (G : gH) : Nat → Nat → Int64 → Int32 → Option Int64
  | 0, _, _, _ => none
  | n + 1, bs0, bx1, bx3 =>
    (f_J0_length_8abf5 G bs0).bind fun v6 =>
    if v6 ≤ bx3 then
    some bx1
    else
    (f_J0_charAt_5068e G bs0 bx3).bind fun v15 =>
    (f_X9_withLetter G bx1 v15).bind fun v18 =>
    f_X9_packed_L4 G n bs0 v18 (bx3 + (1 : Int32))
def f_X9_packed (G : gH) (s0 : Nat) : Option Int64 :=
    f_X9_packed_L4 G g_N s0 (0 : Int64) (0 : Int32)
set_option maxRecDepth 20000 in
set_option maxHeartbeats 4000000 in
theorem m_X9_packed (l : Launch) (dd : va_G) (cT : Nat → ClassId) (lo : Nat) (G : gH) (s0 : Nat) {rz : Int64} (h : f_X9_packed G s0 = some rz) : Met l yX9_packed (Cond.code yX9_packed cX9_packed 4 (some .long) :: wsL_law) (g_rm 5 111 0 0) (va_Pc [.ref (dd.2 100 s0)] (g_Pre lo dd cT G)) (va_Ql (g_is rz G) (g_Pre lo dd cT) (g_A lo)) 0 0 (g_A lo) := by
  refine g_start RX9 rfl (by decide) (Nat.le_of_ble_eq_true rfl) ?_
  intro p e s m below meth c hx hb hr hlocks hml hown hnm hts hK hG hlo ls hl
  have hl : lv_has ls 4 [(0, .ref (dd.2 100 s0))] := hl
  have hG : g_S lo dd cT s s.heap [] G := hG
  have h4 : ∀ n : Nat, ∀ (bs0 : Nat) (bx1 : Int64) (bx3 : Int32), ∀ (H : Heap) (locs : List Loc), g_S lo dd cT s H locs G → ∀ ls : Array Slot, lv_has ls 4 [(0, .ref (dd.2 100 bs0)), (1, .long bx1), (3, .int bx3)] → f_X9_packed_L4 G n bs0 bx1 bx3 = some rz → W p l e (g_rm 5 111 0 0) s m ([.ref (dd.2 100 s0)] : List Value).toArray below meth c H locs 0 0 (MQ below (va_Ql (g_is rz G) (g_Pre lo dd cT) (g_A lo)) ([.ref (dd.2 100 s0)] : List Value).toArray s 0 0 (g_A lo)) (F0 m 4 ls []) := by
    intro n
    induction n with
    | zero =>
      intro bs0 bx1 bx3 H locs hG ls hl h
      cases (show (none : Option Int64) = some rz from h)
    | succ n ih =>
      intro bs0 bx1 bx3 H locs hG ls hl h
      rw [f_X9_packed_L4] at h
      refine lv_iload_n hx hb dX9_packed_4 rfl (lv_at hl 2 rfl) ?_
      refine lv_aload_n hx hb dX9_packed_5 rfl (lv_at hl 0 rfl) ?_
      obtain ⟨v6, e6, h⟩ := Option.bind_eq_some_iff.mp h
      refine g_cTi (As := []) (rest := [.int bx3]) (n := 0) (i := bs0) hx hb hml hown hts hK hlo hG (m_J0_length_8abf5 l dd cT lo G bs0 e6) qM_X9_339 qI_yJ0_length_8abf5 qS_J0_yJ0_length_8abf5 qN_J0 qC_yJ0_length_8abf5 (by decide +kernel) ⟨Nat.le_of_ble_eq_true rfl, Nat.le_of_ble_eq_true rfl⟩ (f_J0_length_8abf5_lt e6) rfl hl.1 rfl (Nat.le_of_ble_eq_true rfl) dX9_packed_6 ⟨Nat.le_of_ble_eq_true rfl, Nat.le_of_ble_eq_true rfl⟩ (fun H locs hG => ?_)
      refine lv_icmp_ge (tgt := 28) hx hb dX9_packed_9 (by decide) (fun c9 => ?_) (fun c9 => ?_)
      · rw [if_pos c9] at h
        refine lv_lload_n hx hb dX9_packed_28 rfl (lv_at hl 1 rfl) ?_
        obtain rfl := Option.some.inj h
        exact g_jret hx hb hr hlocks hK hlo hG ⟨rfl, rfl⟩ dX9_packed_29
      · rw [if_neg c9] at h
        refine lv_lload_n hx hb dX9_packed_12 rfl (lv_at hl 1 rfl) ?_
        refine lv_aload_n hx hb dX9_packed_13 rfl (lv_at hl 0 rfl) ?_
        refine lv_iload_n hx hb dX9_packed_14 rfl (lv_at hl 2 rfl) ?_
        obtain ⟨v15, e15, h⟩ := Option.bind_eq_some_iff.mp h
        refine g_cTi (As := [.int bx3]) (rest := [.long bx1]) (n := 1) (i := bs0) hx hb hml hown hts hK hlo hG (m_J0_charAt_5068e l dd cT lo G bs0 bx3 e15) qM_X9_344 qI_yJ0_charAt_5068e qS_J0_yJ0_charAt_5068e qN_J0 qC_yJ0_charAt_5068e (by decide +kernel) ⟨Nat.le_of_ble_eq_true rfl, Nat.le_of_ble_eq_true rfl⟩ (f_J0_charAt_5068e_lt e15) rfl hl.1 rfl (Nat.le_of_ble_eq_true rfl) dX9_packed_15 ⟨Nat.le_of_ble_eq_true rfl, Nat.le_of_ble_eq_true rfl⟩ (fun H locs hG => ?_)
        obtain ⟨v18, e18, h⟩ := Option.bind_eq_some_iff.mp h
        refine g_cSj (As := [.long bx1, .int v15]) (rest := []) (n := 2) hx hb hml hown hts hK hlo hG (m_X9_withLetter l dd cT lo G bx1 v15 e18) qM_X9_348 qT_yX9_withLetter qN_X9 qC_yX9_withLetter (by decide +kernel) ⟨Nat.le_of_ble_eq_true rfl, Nat.le_of_ble_eq_true rfl⟩ rfl hl.1 rfl (Nat.le_of_ble_eq_true rfl) dX9_packed_18 ⟨Nat.le_of_ble_eq_true rfl, Nat.le_of_ble_eq_true rfl⟩ (fun H locs hG => ?_)
        refine lv_lstore_n (lv' := [(1, .long v18), (0, .ref (dd.2 100 bs0)), (3, .int bx3)]) hx hb dX9_packed_21 rfl hl (by decide) rfl (fun ls hl => ?_)
        refine lv_iinc (v := (bx3 + (1 : Int32))) (lv' := [(3, .int (bx3 + (1 : Int32))), (1, .long v18), (0, .ref (dd.2 100 bs0))]) hx hb dX9_packed_22 hl (k := 2) rfl rfl (by decide) rfl (fun ls hl => ?_)
        refine lv_goto (tgt := 4) hx hb dX9_packed_25 (by decide) ?_
        exact ih bs0 v18 (bx3 + (1 : Int32)) _ _ hG _ (lv_sub hl [2, 1, 0] rfl) h
  unfold f_X9_packed at h
  refine lv_lconst (v := (0 : Int64)) hx hb dX9_packed_0 (by decide) ?_
  refine lv_lstore_n (lv' := [(1, .long (0 : Int64)), (0, .ref (dd.2 100 s0))]) hx hb dX9_packed_1 rfl hl (by decide) rfl (fun ls hl => ?_)
  refine lv_iconst (v := (0 : Int32)) hx hb dX9_packed_2 (by decide) ?_
  refine lv_istore_n (lv' := [(3, .int (0 : Int32)), (1, .long (0 : Int64)), (0, .ref (dd.2 100 s0))]) hx hb dX9_packed_3 rfl hl (by decide) rfl (fun ls hl => ?_)
  exact h4 g_N s0 (0 : Int64) (0 : Int32) _ _ hG _ (lv_sub hl [2, 1, 0] rfl) h
def f_X9_directoryLength (G : gH) (x0 : Int32) : Option Int32 :=
    some ((1 : Int32) + ((x0 - (1 : Int32)) / (4 : Int32)))
set_option maxRecDepth 20000 in
set_option maxHeartbeats 4000000 in
theorem m_X9_directoryLength (l : Launch) (dd : va_G) (cT : Nat → ClassId) (lo : Nat) (G : gH) (x0 : Int32) {rz : Int32} (h : f_X9_directoryLength G x0 = some rz) : Met l yX9_directoryLength (Cond.code yX9_directoryLength cX9_directoryLength 1 (some .int) :: wsL_law) (g_rm 0 0 0 0) (va_Pc [.int x0] (g_Pre lo dd cT G)) (va_Qi (g_is rz G) (g_Pre lo dd cT) (g_A lo)) 0 0 (g_A lo) := by
  refine g_start RX9 rfl (by decide) (Nat.le_of_ble_eq_true rfl) ?_
  intro p e s m below meth c hx hb hr hlocks hml hown hnm hts hK hG hlo ls hl
  have hl : lv_has ls 1 [(0, .int x0)] := hl
  have hG : g_S lo dd cT s s.heap [] G := hG
  unfold f_X9_directoryLength at h
  refine lv_iconst (v := (1 : Int32)) hx hb dX9_directoryLength_0 (by decide) ?_
  refine lv_iload_n hx hb dX9_directoryLength_1 rfl (lv_at hl 0 rfl) ?_
  refine lv_iconst (v := (1 : Int32)) hx hb dX9_directoryLength_2 (by decide) ?_
  refine lv_isub hx hb dX9_directoryLength_3 ?_
  refine lv_iconst (v := (4 : Int32)) hx hb dX9_directoryLength_4 (by decide) ?_
  refine lv_idiv hx hb dX9_directoryLength_5 (by decide) ?_
  refine lv_iadd hx hb dX9_directoryLength_6 ?_
  obtain rfl := Option.some.inj h
  exact g_iret hx hb hr hlocks hK hlo hG ⟨rfl, rfl⟩ dX9_directoryLength_7
def f_X9_at (G : gH) (a0 : Nat) (x1 : Int32) (x2 : Int32) : Option Int32 :=
    if x1 < 0 then
    some x2
    else
    (g_len G a0).bind fun v6 =>
    if v6 ≤ x1 then
    some x2
    else
    (g_ald 0 G a0 x1).bind fun v12 =>
    some v12
set_option maxRecDepth 20000 in
set_option maxHeartbeats 4000000 in
theorem m_X9_at (l : Launch) (dd : va_G) (cT : Nat → ClassId) (lo : Nat) (G : gH) (a0 : Nat) (x1 : Int32) (x2 : Int32) {rz : Int32} (h : f_X9_at G a0 x1 x2 = some rz) : Met l yX9_at (Cond.code yX9_at cX9_at 3 (some .int) :: wsL_law) (g_rm 0 0 0 0) (va_Pc [.ref a0, .int x1, .int x2] (g_Pre lo dd cT G)) (va_Qi (g_is rz G) (g_Pre lo dd cT) (g_A lo)) 0 0 (g_A lo) := by
  refine g_start RX9 rfl (by decide) (Nat.le_of_ble_eq_true rfl) ?_
  intro p e s m below meth c hx hb hr hlocks hml hown hnm hts hK hG hlo ls hl
  have hl : lv_has ls 3 [(0, .ref a0), (1, .int x1), (2, .int x2)] := hl
  have hG : g_S lo dd cT s s.heap [] G := hG
  unfold f_X9_at at h
  refine lv_iload_n hx hb dX9_at_0 rfl (lv_at hl 1 rfl) ?_
  refine lv_if_lt (tgt := 16) hx hb dX9_at_1 (by decide) (fun c1 => ?_) (fun c1 => ?_)
  · rw [if_pos c1] at h
    refine lv_iload_n hx hb dX9_at_16 rfl (lv_at hl 2 rfl) ?_
    obtain rfl := Option.some.inj h
    exact g_iret hx hb hr hlocks hK hlo hG ⟨rfl, rfl⟩ dX9_at_17
  · rw [if_neg c1] at h
    refine lv_iload_n hx hb dX9_at_4 rfl (lv_at hl 1 rfl) ?_
    refine lv_aload_n hx hb dX9_at_5 rfl (lv_at hl 0 rfl) ?_
    obtain ⟨v6, e6, h⟩ := Option.bind_eq_some_iff.mp h
    refine g_alen hx hb hK hG e6 dX9_at_6 ?_
    refine lv_icmp_ge (tgt := 16) hx hb dX9_at_7 (by decide) (fun c7 => ?_) (fun c7 => ?_)
    · rw [if_pos c7] at h
      refine lv_iload_n hx hb dX9_at_16 rfl (lv_at hl 2 rfl) ?_
      obtain rfl := Option.some.inj h
      exact g_iret hx hb hr hlocks hK hlo hG ⟨rfl, rfl⟩ dX9_at_17
    · rw [if_neg c7] at h
      refine lv_aload_n hx hb dX9_at_10 rfl (lv_at hl 0 rfl) ?_
      refine lv_iload_n hx hb dX9_at_11 rfl (lv_at hl 1 rfl) ?_
      obtain ⟨v12, e12, h⟩ := Option.bind_eq_some_iff.mp h
      refine g_iald hx hb hK hG e12 dX9_at_12 ?_
      refine lv_goto (tgt := 17) hx hb dX9_at_13 (by decide) ?_
      obtain rfl := Option.some.inj h
      exact g_iret hx hb hr hlocks hK hlo hG ⟨rfl, rfl⟩ dX9_at_17
def f_X9_at_ (G : gH) (a0 : Nat) (x1 : Int32) (x2 : Int64) : Option Int64 :=
    if x1 < 0 then
    some x2
    else
    (g_len G a0).bind fun v6 =>
    if v6 ≤ x1 then
    some x2
    else
    (g_lald G a0 x1).bind fun v12 =>
    some v12
set_option maxRecDepth 20000 in
set_option maxHeartbeats 4000000 in
theorem m_X9_at_ (l : Launch) (dd : va_G) (cT : Nat → ClassId) (lo : Nat) (G : gH) (a0 : Nat) (x1 : Int32) (x2 : Int64) {rz : Int64} (h : f_X9_at_ G a0 x1 x2 = some rz) : Met l yX9_at_ (Cond.code yX9_at_ cX9_at_ 4 (some .long) :: wsL_law) (g_rm 0 0 0 0) (va_Pc [.ref a0, .int x1, .long x2] (g_Pre lo dd cT G)) (va_Ql (g_is rz G) (g_Pre lo dd cT) (g_A lo)) 0 0 (g_A lo) := by
  refine g_start RX9 rfl (by decide) (Nat.le_of_ble_eq_true rfl) ?_
  intro p e s m below meth c hx hb hr hlocks hml hown hnm hts hK hG hlo ls hl
  have hl : lv_has ls 4 [(0, .ref a0), (1, .int x1), (2, .long x2)] := hl
  have hG : g_S lo dd cT s s.heap [] G := hG
  unfold f_X9_at_ at h
  refine lv_iload_n hx hb dX9_at__0 rfl (lv_at hl 1 rfl) ?_
  refine lv_if_lt (tgt := 16) hx hb dX9_at__1 (by decide) (fun c1 => ?_) (fun c1 => ?_)
  · rw [if_pos c1] at h
    refine lv_lload_n hx hb dX9_at__16 rfl (lv_at hl 2 rfl) ?_
    obtain rfl := Option.some.inj h
    exact g_jret hx hb hr hlocks hK hlo hG ⟨rfl, rfl⟩ dX9_at__17
  · rw [if_neg c1] at h
    refine lv_iload_n hx hb dX9_at__4 rfl (lv_at hl 1 rfl) ?_
    refine lv_aload_n hx hb dX9_at__5 rfl (lv_at hl 0 rfl) ?_
    obtain ⟨v6, e6, h⟩ := Option.bind_eq_some_iff.mp h
    refine g_alen hx hb hK hG e6 dX9_at__6 ?_
    refine lv_icmp_ge (tgt := 16) hx hb dX9_at__7 (by decide) (fun c7 => ?_) (fun c7 => ?_)
    · rw [if_pos c7] at h
      refine lv_lload_n hx hb dX9_at__16 rfl (lv_at hl 2 rfl) ?_
      obtain rfl := Option.some.inj h
      exact g_jret hx hb hr hlocks hK hlo hG ⟨rfl, rfl⟩ dX9_at__17
    · rw [if_neg c7] at h
      refine lv_aload_n hx hb dX9_at__10 rfl (lv_at hl 0 rfl) ?_
      refine lv_iload_n hx hb dX9_at__11 rfl (lv_at hl 1 rfl) ?_
      obtain ⟨v12, e12, h⟩ := Option.bind_eq_some_iff.mp h
      refine g_jald hx hb hK hG e12 dX9_at__12 ?_
      refine lv_goto (tgt := 17) hx hb dX9_at__13 (by decide) ?_
      obtain rfl := Option.some.inj h
      exact g_jret hx hb hr hlocks hK hlo hG ⟨rfl, rfl⟩ dX9_at__17
def f_X9_isSet (G : gH) (a0 : Nat) (x1 : Int32) : Option Int32 :=
    if x1 < 0 then
    some (0 : Int32)
    else
    (g_len G a0).bind fun v6 =>
    if v6 ≤ x1 then
    some (0 : Int32)
    else
    (g_ald 1 G a0 x1).bind fun v12 =>
    if v12 = 0 then
    some (0 : Int32)
    else
    some (1 : Int32)
set_option maxRecDepth 20000 in
set_option maxHeartbeats 4000000 in
theorem m_X9_isSet (l : Launch) (dd : va_G) (cT : Nat → ClassId) (lo : Nat) (G : gH) (a0 : Nat) (x1 : Int32) {rz : Int32} (h : f_X9_isSet G a0 x1 = some rz) : Met l yX9_isSet (Cond.code yX9_isSet cX9_isSet 2 (some .boolean) :: wsL_law) (g_rm 0 0 0 0) (va_Pc [.ref a0, .int x1] (g_Pre lo dd cT G)) (va_Qi (g_is rz G) (g_Pre lo dd cT) (g_A lo)) 0 0 (g_A lo) := by
  refine g_start RX9 rfl (by decide) (Nat.le_of_ble_eq_true rfl) ?_
  intro p e s m below meth c hx hb hr hlocks hml hown hnm hts hK hG hlo ls hl
  have hl : lv_has ls 2 [(0, .ref a0), (1, .int x1)] := hl
  have hG : g_S lo dd cT s s.heap [] G := hG
  unfold f_X9_isSet at h
  refine lv_iload_n hx hb dX9_isSet_0 rfl (lv_at hl 1 rfl) ?_
  refine lv_if_lt (tgt := 20) hx hb dX9_isSet_1 (by decide) (fun c1 => ?_) (fun c1 => ?_)
  · rw [if_pos c1] at h
    refine lv_iconst (v := (0 : Int32)) hx hb dX9_isSet_20 (by decide) ?_
    obtain rfl := Option.some.inj h
    exact g_zret hx hb hr hlocks hK hlo hG rfl ⟨rfl, rfl⟩ dX9_isSet_21
  · rw [if_neg c1] at h
    refine lv_iload_n hx hb dX9_isSet_4 rfl (lv_at hl 1 rfl) ?_
    refine lv_aload_n hx hb dX9_isSet_5 rfl (lv_at hl 0 rfl) ?_
    obtain ⟨v6, e6, h⟩ := Option.bind_eq_some_iff.mp h
    refine g_alen hx hb hK hG e6 dX9_isSet_6 ?_
    refine lv_icmp_ge (tgt := 20) hx hb dX9_isSet_7 (by decide) (fun c7 => ?_) (fun c7 => ?_)
    · rw [if_pos c7] at h
      refine lv_iconst (v := (0 : Int32)) hx hb dX9_isSet_20 (by decide) ?_
      obtain rfl := Option.some.inj h
      exact g_zret hx hb hr hlocks hK hlo hG rfl ⟨rfl, rfl⟩ dX9_isSet_21
    · rw [if_neg c7] at h
      refine lv_aload_n hx hb dX9_isSet_10 rfl (lv_at hl 0 rfl) ?_
      refine lv_iload_n hx hb dX9_isSet_11 rfl (lv_at hl 1 rfl) ?_
      obtain ⟨v12, e12, h⟩ := Option.bind_eq_some_iff.mp h
      refine g_zald hx hb hK hG e12 dX9_isSet_12 ?_
      refine lv_if_eq (tgt := 20) hx hb dX9_isSet_13 (by decide) (fun c13 => ?_) (fun c13 => ?_)
      · rw [if_pos c13] at h
        refine lv_iconst (v := (0 : Int32)) hx hb dX9_isSet_20 (by decide) ?_
        obtain rfl := Option.some.inj h
        exact g_zret hx hb hr hlocks hK hlo hG rfl ⟨rfl, rfl⟩ dX9_isSet_21
      · rw [if_neg c13] at h
        refine lv_iconst (v := (1 : Int32)) hx hb dX9_isSet_16 (by decide) ?_
        refine lv_goto (tgt := 21) hx hb dX9_isSet_17 (by decide) ?_
        obtain rfl := Option.some.inj h
        exact g_zret hx hb hr hlocks hK hlo hG rfl ⟨rfl, rfl⟩ dX9_isSet_21
def f_X9_put (G : gH) (a0 : Nat) (x1 : Int32) (x2 : Int32) : Option gH :=
    if x1 < 0 then
    some G
    else
    (g_len G a0).bind fun v6 =>
    if v6 ≤ x1 then
    some G
    else
    (g_ast 0 G a0 x1 x2).bind fun G13 =>
    some G13
set_option maxRecDepth 20000 in
set_option maxHeartbeats 4000000 in
theorem m_X9_put (l : Launch) (dd : va_G) (cT : Nat → ClassId) (lo : Nat) (G : gH) (a0 : Nat) (x1 : Int32) (x2 : Int32) {Gz : gH} (h : f_X9_put G a0 x1 x2 = some Gz) : Met l yX9_put (Cond.code yX9_put cX9_put 3 none :: wsL_law) (g_rm 0 0 0 0) (va_Pc [.ref a0, .int x1, .int x2] (g_Pre lo dd cT G)) (va_Qv (g_iv Gz) (g_Pre lo dd cT) (g_A lo)) 0 0 (g_A lo) := by
  refine g_start RX9 rfl (by decide) (Nat.le_of_ble_eq_true rfl) ?_
  intro p e s m below meth c hx hb hr hlocks hml hown hnm hts hK hG hlo ls hl
  have hl : lv_has ls 3 [(0, .ref a0), (1, .int x1), (2, .int x2)] := hl
  have hG : g_S lo dd cT s s.heap [] G := hG
  unfold f_X9_put at h
  refine lv_iload_n hx hb dX9_put_0 rfl (lv_at hl 1 rfl) ?_
  refine lv_if_lt (tgt := 14) hx hb dX9_put_1 (by decide) (fun c1 => ?_) (fun c1 => ?_)
  · rw [if_pos c1] at h
    obtain rfl := Option.some.inj h
    exact g_vret hx hb hr hlocks hK hlo hG rfl dX9_put_14
  · rw [if_neg c1] at h
    refine lv_iload_n hx hb dX9_put_4 rfl (lv_at hl 1 rfl) ?_
    refine lv_aload_n hx hb dX9_put_5 rfl (lv_at hl 0 rfl) ?_
    obtain ⟨v6, e6, h⟩ := Option.bind_eq_some_iff.mp h
    refine g_alen hx hb hK hG e6 dX9_put_6 ?_
    refine lv_icmp_ge (tgt := 14) hx hb dX9_put_7 (by decide) (fun c7 => ?_) (fun c7 => ?_)
    · rw [if_pos c7] at h
      obtain rfl := Option.some.inj h
      exact g_vret hx hb hr hlocks hK hlo hG rfl dX9_put_14
    · rw [if_neg c7] at h
      refine lv_aload_n hx hb dX9_put_10 rfl (lv_at hl 0 rfl) ?_
      refine lv_iload_n hx hb dX9_put_11 rfl (lv_at hl 1 rfl) ?_
      refine lv_iload_n hx hb dX9_put_12 rfl (lv_at hl 2 rfl) ?_
      obtain ⟨G13, e13, h⟩ := Option.bind_eq_some_iff.mp h
      refine g_iast hx hb hK hG e13 dX9_put_13 (fun H locs hG => ?_)
      obtain rfl := Option.some.inj h
      exact g_vret hx hb hr hlocks hK hlo hG rfl dX9_put_14
def f_X9_put_ (G : gH) (a0 : Nat) (x1 : Int32) (x2 : Int64) : Option gH :=
    if x1 < 0 then
    some G
    else
    (g_len G a0).bind fun v6 =>
    if v6 ≤ x1 then
    some G
    else
    (g_last G a0 x1 x2).bind fun G13 =>
    some G13
set_option maxRecDepth 20000 in
set_option maxHeartbeats 4000000 in
theorem m_X9_put_ (l : Launch) (dd : va_G) (cT : Nat → ClassId) (lo : Nat) (G : gH) (a0 : Nat) (x1 : Int32) (x2 : Int64) {Gz : gH} (h : f_X9_put_ G a0 x1 x2 = some Gz) : Met l yX9_put_ (Cond.code yX9_put_ cX9_put_ 4 none :: wsL_law) (g_rm 0 0 0 0) (va_Pc [.ref a0, .int x1, .long x2] (g_Pre lo dd cT G)) (va_Qv (g_iv Gz) (g_Pre lo dd cT) (g_A lo)) 0 0 (g_A lo) := by
  refine g_start RX9 rfl (by decide) (Nat.le_of_ble_eq_true rfl) ?_
  intro p e s m below meth c hx hb hr hlocks hml hown hnm hts hK hG hlo ls hl
  have hl : lv_has ls 4 [(0, .ref a0), (1, .int x1), (2, .long x2)] := hl
  have hG : g_S lo dd cT s s.heap [] G := hG
  unfold f_X9_put_ at h
  refine lv_iload_n hx hb dX9_put__0 rfl (lv_at hl 1 rfl) ?_
  refine lv_if_lt (tgt := 14) hx hb dX9_put__1 (by decide) (fun c1 => ?_) (fun c1 => ?_)
  · rw [if_pos c1] at h
    obtain rfl := Option.some.inj h
    exact g_vret hx hb hr hlocks hK hlo hG rfl dX9_put__14
  · rw [if_neg c1] at h
    refine lv_iload_n hx hb dX9_put__4 rfl (lv_at hl 1 rfl) ?_
    refine lv_aload_n hx hb dX9_put__5 rfl (lv_at hl 0 rfl) ?_
    obtain ⟨v6, e6, h⟩ := Option.bind_eq_some_iff.mp h
    refine g_alen hx hb hK hG e6 dX9_put__6 ?_
    refine lv_icmp_ge (tgt := 14) hx hb dX9_put__7 (by decide) (fun c7 => ?_) (fun c7 => ?_)
    · rw [if_pos c7] at h
      obtain rfl := Option.some.inj h
      exact g_vret hx hb hr hlocks hK hlo hG rfl dX9_put__14
    · rw [if_neg c7] at h
      refine lv_aload_n hx hb dX9_put__10 rfl (lv_at hl 0 rfl) ?_
      refine lv_iload_n hx hb dX9_put__11 rfl (lv_at hl 1 rfl) ?_
      refine lv_lload_n hx hb dX9_put__12 rfl (lv_at hl 2 rfl) ?_
      obtain ⟨G13, e13, h⟩ := Option.bind_eq_some_iff.mp h
      refine g_jast hx hb hK hG e13 dX9_put__13 (fun H locs hG => ?_)
      obtain rfl := Option.some.inj h
      exact g_vret hx hb hr hlocks hK hlo hG rfl dX9_put__14
def f_X9_mark (G : gH) (a0 : Nat) (x1 : Int32) (x2 : Int32) : Option gH :=
    if x1 < 0 then
    some G
    else
    (g_len G a0).bind fun v6 =>
    if v6 ≤ x1 then
    some G
    else
    (g_ast 1 G a0 x1 x2).bind fun G13 =>
    some G13
set_option maxRecDepth 20000 in
set_option maxHeartbeats 4000000 in
theorem m_X9_mark (l : Launch) (dd : va_G) (cT : Nat → ClassId) (lo : Nat) (G : gH) (a0 : Nat) (x1 : Int32) (x2 : Int32) {Gz : gH} (h : f_X9_mark G a0 x1 x2 = some Gz) : Met l yX9_mark (Cond.code yX9_mark cX9_mark 3 none :: wsL_law) (g_rm 0 0 0 0) (va_Pc [.ref a0, .int x1, .int x2] (g_Pre lo dd cT G)) (va_Qv (g_iv Gz) (g_Pre lo dd cT) (g_A lo)) 0 0 (g_A lo) := by
  refine g_start RX9 rfl (by decide) (Nat.le_of_ble_eq_true rfl) ?_
  intro p e s m below meth c hx hb hr hlocks hml hown hnm hts hK hG hlo ls hl
  have hl : lv_has ls 3 [(0, .ref a0), (1, .int x1), (2, .int x2)] := hl
  have hG : g_S lo dd cT s s.heap [] G := hG
  unfold f_X9_mark at h
  refine lv_iload_n hx hb dX9_mark_0 rfl (lv_at hl 1 rfl) ?_
  refine lv_if_lt (tgt := 14) hx hb dX9_mark_1 (by decide) (fun c1 => ?_) (fun c1 => ?_)
  · rw [if_pos c1] at h
    obtain rfl := Option.some.inj h
    exact g_vret hx hb hr hlocks hK hlo hG rfl dX9_mark_14
  · rw [if_neg c1] at h
    refine lv_iload_n hx hb dX9_mark_4 rfl (lv_at hl 1 rfl) ?_
    refine lv_aload_n hx hb dX9_mark_5 rfl (lv_at hl 0 rfl) ?_
    obtain ⟨v6, e6, h⟩ := Option.bind_eq_some_iff.mp h
    refine g_alen hx hb hK hG e6 dX9_mark_6 ?_
    refine lv_icmp_ge (tgt := 14) hx hb dX9_mark_7 (by decide) (fun c7 => ?_) (fun c7 => ?_)
    · rw [if_pos c7] at h
      obtain rfl := Option.some.inj h
      exact g_vret hx hb hr hlocks hK hlo hG rfl dX9_mark_14
    · rw [if_neg c7] at h
      refine lv_aload_n hx hb dX9_mark_10 rfl (lv_at hl 0 rfl) ?_
      refine lv_iload_n hx hb dX9_mark_11 rfl (lv_at hl 1 rfl) ?_
      refine lv_iload_n hx hb dX9_mark_12 rfl (lv_at hl 2 rfl) ?_
      obtain ⟨G13, e13, h⟩ := Option.bind_eq_some_iff.mp h
      refine g_zast hx hb hK hG e13 dX9_mark_13 (fun H locs hG => ?_)
      obtain rfl := Option.some.inj h
      exact g_vret hx hb hr hlocks hK hlo hG rfl dX9_mark_14
def f_X9_fill_L2 : Nat → gH → Nat → Int32 → Int32 → Option gH
  | 0, _, _, _, _ => none
  | n + 1, G, ba0, bx1, bx2 =>
    (g_len G ba0).bind fun v4 =>
    if v4 ≤ bx2 then
    some G
    else
    (g_ast 0 G ba0 bx2 bx1).bind fun G11 =>
    f_X9_fill_L2 n G11 ba0 bx1 (bx2 + (1 : Int32))
def f_X9_fill (G : gH) (a0 : Nat) (x1 : Int32) : Option gH :=
    f_X9_fill_L2 g_N G a0 x1 (0 : Int32)
set_option maxRecDepth 20000 in
set_option maxHeartbeats 4000000 in
theorem m_X9_fill (l : Launch) (dd : va_G) (cT : Nat → ClassId) (lo : Nat) (G : gH) (a0 : Nat) (x1 : Int32) {Gz : gH} (h : f_X9_fill G a0 x1 = some Gz) : Met l yX9_fill (Cond.code yX9_fill cX9_fill 3 none :: wsL_law) (g_rm 0 0 0 0) (va_Pc [.ref a0, .int x1] (g_Pre lo dd cT G)) (va_Qv (g_iv Gz) (g_Pre lo dd cT) (g_A lo)) 0 0 (g_A lo) := by
  refine g_start RX9 rfl (by decide) (Nat.le_of_ble_eq_true rfl) ?_
  intro p e s m below meth c hx hb hr hlocks hml hown hnm hts hK hG hlo ls hl
  have hl : lv_has ls 3 [(0, .ref a0), (1, .int x1)] := hl
  have hG : g_S lo dd cT s s.heap [] G := hG
  have h2 : ∀ n : Nat, ∀ (G : gH) (ba0 : Nat) (bx1 : Int32) (bx2 : Int32), ∀ (H : Heap) (locs : List Loc), g_S lo dd cT s H locs G → ∀ ls : Array Slot, lv_has ls 3 [(0, .ref ba0), (1, .int bx1), (2, .int bx2)] → f_X9_fill_L2 n G ba0 bx1 bx2 = some Gz → W p l e (g_rm 0 0 0 0) s m ([.ref a0, .int x1] : List Value).toArray below meth c H locs 0 0 (MQ below (va_Qv (g_iv Gz) (g_Pre lo dd cT) (g_A lo)) ([.ref a0, .int x1] : List Value).toArray s 0 0 (g_A lo)) (F0 m 2 ls []) := by
    intro n
    induction n with
    | zero =>
      intro G ba0 bx1 bx2 H locs hG ls hl h
      cases (show (none : Option gH) = some Gz from h)
    | succ n ih =>
      intro G ba0 bx1 bx2 H locs hG ls hl h
      rw [f_X9_fill_L2] at h
      refine lv_iload_n hx hb dX9_fill_2 rfl (lv_at hl 2 rfl) ?_
      refine lv_aload_n hx hb dX9_fill_3 rfl (lv_at hl 0 rfl) ?_
      obtain ⟨v4, e4, h⟩ := Option.bind_eq_some_iff.mp h
      refine g_alen hx hb hK hG e4 dX9_fill_4 ?_
      refine lv_icmp_ge (tgt := 18) hx hb dX9_fill_5 (by decide) (fun c5 => ?_) (fun c5 => ?_)
      · rw [if_pos c5] at h
        obtain rfl := Option.some.inj h
        exact g_vret hx hb hr hlocks hK hlo hG rfl dX9_fill_18
      · rw [if_neg c5] at h
        refine lv_aload_n hx hb dX9_fill_8 rfl (lv_at hl 0 rfl) ?_
        refine lv_iload_n hx hb dX9_fill_9 rfl (lv_at hl 2 rfl) ?_
        refine lv_iload_n hx hb dX9_fill_10 rfl (lv_at hl 1 rfl) ?_
        obtain ⟨G11, e11, h⟩ := Option.bind_eq_some_iff.mp h
        refine g_iast hx hb hK hG e11 dX9_fill_11 (fun H locs hG => ?_)
        refine lv_iinc (v := (bx2 + (1 : Int32))) (lv' := [(2, .int (bx2 + (1 : Int32))), (0, .ref ba0), (1, .int bx1)]) hx hb dX9_fill_12 hl (k := 2) rfl rfl (by decide) rfl (fun ls hl => ?_)
        refine lv_goto (tgt := 2) hx hb dX9_fill_15 (by decide) ?_
        exact ih G11 ba0 bx1 (bx2 + (1 : Int32)) _ _ hG _ (lv_sub hl [1, 2, 0] rfl) h
  unfold f_X9_fill at h
  refine lv_iconst (v := (0 : Int32)) hx hb dX9_fill_0 (by decide) ?_
  refine lv_istore_n (lv' := [(2, .int (0 : Int32)), (0, .ref a0), (1, .int x1)]) hx hb dX9_fill_1 rfl hl (by decide) rfl (fun ls hl => ?_)
  exact h2 g_N G a0 x1 (0 : Int32) _ _ hG _ (lv_sub hl [1, 2, 0] rfl) h
def f_X9_fill__L2 : Nat → gH → Nat → Int32 → Int32 → Option gH
  | 0, _, _, _, _ => none
  | n + 1, G, ba0, bx1, bx2 =>
    (g_len G ba0).bind fun v4 =>
    if v4 ≤ bx2 then
    some G
    else
    (g_ast 1 G ba0 bx2 bx1).bind fun G11 =>
    f_X9_fill__L2 n G11 ba0 bx1 (bx2 + (1 : Int32))
def f_X9_fill_ (G : gH) (a0 : Nat) (x1 : Int32) : Option gH :=
    f_X9_fill__L2 g_N G a0 x1 (0 : Int32)
set_option maxRecDepth 20000 in
set_option maxHeartbeats 4000000 in
theorem m_X9_fill_ (l : Launch) (dd : va_G) (cT : Nat → ClassId) (lo : Nat) (G : gH) (a0 : Nat) (x1 : Int32) {Gz : gH} (h : f_X9_fill_ G a0 x1 = some Gz) : Met l yX9_fill_ (Cond.code yX9_fill_ cX9_fill_ 3 none :: wsL_law) (g_rm 0 0 0 0) (va_Pc [.ref a0, .int x1] (g_Pre lo dd cT G)) (va_Qv (g_iv Gz) (g_Pre lo dd cT) (g_A lo)) 0 0 (g_A lo) := by
  refine g_start RX9 rfl (by decide) (Nat.le_of_ble_eq_true rfl) ?_
  intro p e s m below meth c hx hb hr hlocks hml hown hnm hts hK hG hlo ls hl
  have hl : lv_has ls 3 [(0, .ref a0), (1, .int x1)] := hl
  have hG : g_S lo dd cT s s.heap [] G := hG
  have h2 : ∀ n : Nat, ∀ (G : gH) (ba0 : Nat) (bx1 : Int32) (bx2 : Int32), ∀ (H : Heap) (locs : List Loc), g_S lo dd cT s H locs G → ∀ ls : Array Slot, lv_has ls 3 [(0, .ref ba0), (1, .int bx1), (2, .int bx2)] → f_X9_fill__L2 n G ba0 bx1 bx2 = some Gz → W p l e (g_rm 0 0 0 0) s m ([.ref a0, .int x1] : List Value).toArray below meth c H locs 0 0 (MQ below (va_Qv (g_iv Gz) (g_Pre lo dd cT) (g_A lo)) ([.ref a0, .int x1] : List Value).toArray s 0 0 (g_A lo)) (F0 m 2 ls []) := by
    intro n
    induction n with
    | zero =>
      intro G ba0 bx1 bx2 H locs hG ls hl h
      cases (show (none : Option gH) = some Gz from h)
    | succ n ih =>
      intro G ba0 bx1 bx2 H locs hG ls hl h
      rw [f_X9_fill__L2] at h
      refine lv_iload_n hx hb dX9_fill__2 rfl (lv_at hl 2 rfl) ?_
      refine lv_aload_n hx hb dX9_fill__3 rfl (lv_at hl 0 rfl) ?_
      obtain ⟨v4, e4, h⟩ := Option.bind_eq_some_iff.mp h
      refine g_alen hx hb hK hG e4 dX9_fill__4 ?_
      refine lv_icmp_ge (tgt := 18) hx hb dX9_fill__5 (by decide) (fun c5 => ?_) (fun c5 => ?_)
      · rw [if_pos c5] at h
        obtain rfl := Option.some.inj h
        exact g_vret hx hb hr hlocks hK hlo hG rfl dX9_fill__18
      · rw [if_neg c5] at h
        refine lv_aload_n hx hb dX9_fill__8 rfl (lv_at hl 0 rfl) ?_
        refine lv_iload_n hx hb dX9_fill__9 rfl (lv_at hl 2 rfl) ?_
        refine lv_iload_n hx hb dX9_fill__10 rfl (lv_at hl 1 rfl) ?_
        obtain ⟨G11, e11, h⟩ := Option.bind_eq_some_iff.mp h
        refine g_zast hx hb hK hG e11 dX9_fill__11 (fun H locs hG => ?_)
        refine lv_iinc (v := (bx2 + (1 : Int32))) (lv' := [(2, .int (bx2 + (1 : Int32))), (0, .ref ba0), (1, .int bx1)]) hx hb dX9_fill__12 hl (k := 2) rfl rfl (by decide) rfl (fun ls hl => ?_)
        refine lv_goto (tgt := 2) hx hb dX9_fill__15 (by decide) ?_
        exact ih G11 ba0 bx1 (bx2 + (1 : Int32)) _ _ hG _ (lv_sub hl [1, 2, 0] rfl) h
  unfold f_X9_fill_ at h
  refine lv_iconst (v := (0 : Int32)) hx hb dX9_fill__0 (by decide) ?_
  refine lv_istore_n (lv' := [(2, .int (0 : Int32)), (0, .ref a0), (1, .int x1)]) hx hb dX9_fill__1 rfl hl (by decide) rfl (fun ls hl => ?_)
  exact h2 g_N G a0 x1 (0 : Int32) _ _ hG _ (lv_sub hl [1, 2, 0] rfl) h
def f_X9_copy_L2 : Nat → gH → Nat → Nat → Int32 → Option gH
  | 0, _, _, _, _ => none
  | n + 1, G, ba0, ba1, bx2 =>
    (g_len G ba0).bind fun v4 =>
    if v4 ≤ bx2 then
    some G
    else
    (g_len G ba1).bind fun v10 =>
    if v10 ≤ bx2 then
    some G
    else
    (g_ald 0 G ba0 bx2).bind fun v18 =>
    (g_ast 0 G ba1 bx2 v18).bind fun G19 =>
    f_X9_copy_L2 n G19 ba0 ba1 (bx2 + (1 : Int32))
def f_X9_copy (G : gH) (a0 : Nat) (a1 : Nat) : Option gH :=
    f_X9_copy_L2 g_N G a0 a1 (0 : Int32)
set_option maxRecDepth 20000 in
set_option maxHeartbeats 4000000 in
theorem m_X9_copy (l : Launch) (dd : va_G) (cT : Nat → ClassId) (lo : Nat) (G : gH) (a0 : Nat) (a1 : Nat) {Gz : gH} (h : f_X9_copy G a0 a1 = some Gz) : Met l yX9_copy (Cond.code yX9_copy cX9_copy 3 none :: wsL_law) (g_rm 0 0 0 0) (va_Pc [.ref a0, .ref a1] (g_Pre lo dd cT G)) (va_Qv (g_iv Gz) (g_Pre lo dd cT) (g_A lo)) 0 0 (g_A lo) := by
  refine g_start RX9 rfl (by decide) (Nat.le_of_ble_eq_true rfl) ?_
  intro p e s m below meth c hx hb hr hlocks hml hown hnm hts hK hG hlo ls hl
  have hl : lv_has ls 3 [(0, .ref a0), (1, .ref a1)] := hl
  have hG : g_S lo dd cT s s.heap [] G := hG
  have h2 : ∀ n : Nat, ∀ (G : gH) (ba0 : Nat) (ba1 : Nat) (bx2 : Int32), ∀ (H : Heap) (locs : List Loc), g_S lo dd cT s H locs G → ∀ ls : Array Slot, lv_has ls 3 [(0, .ref ba0), (1, .ref ba1), (2, .int bx2)] → f_X9_copy_L2 n G ba0 ba1 bx2 = some Gz → W p l e (g_rm 0 0 0 0) s m ([.ref a0, .ref a1] : List Value).toArray below meth c H locs 0 0 (MQ below (va_Qv (g_iv Gz) (g_Pre lo dd cT) (g_A lo)) ([.ref a0, .ref a1] : List Value).toArray s 0 0 (g_A lo)) (F0 m 2 ls []) := by
    intro n
    induction n with
    | zero =>
      intro G ba0 ba1 bx2 H locs hG ls hl h
      cases (show (none : Option gH) = some Gz from h)
    | succ n ih =>
      intro G ba0 ba1 bx2 H locs hG ls hl h
      rw [f_X9_copy_L2] at h
      refine lv_iload_n hx hb dX9_copy_2 rfl (lv_at hl 2 rfl) ?_
      refine lv_aload_n hx hb dX9_copy_3 rfl (lv_at hl 0 rfl) ?_
      obtain ⟨v4, e4, h⟩ := Option.bind_eq_some_iff.mp h
      refine g_alen hx hb hK hG e4 dX9_copy_4 ?_
      refine lv_icmp_ge (tgt := 26) hx hb dX9_copy_5 (by decide) (fun c5 => ?_) (fun c5 => ?_)
      · rw [if_pos c5] at h
        obtain rfl := Option.some.inj h
        exact g_vret hx hb hr hlocks hK hlo hG rfl dX9_copy_26
      · rw [if_neg c5] at h
        refine lv_iload_n hx hb dX9_copy_8 rfl (lv_at hl 2 rfl) ?_
        refine lv_aload_n hx hb dX9_copy_9 rfl (lv_at hl 1 rfl) ?_
        obtain ⟨v10, e10, h⟩ := Option.bind_eq_some_iff.mp h
        refine g_alen hx hb hK hG e10 dX9_copy_10 ?_
        refine lv_icmp_ge (tgt := 26) hx hb dX9_copy_11 (by decide) (fun c11 => ?_) (fun c11 => ?_)
        · rw [if_pos c11] at h
          obtain rfl := Option.some.inj h
          exact g_vret hx hb hr hlocks hK hlo hG rfl dX9_copy_26
        · rw [if_neg c11] at h
          refine lv_aload_n hx hb dX9_copy_14 rfl (lv_at hl 1 rfl) ?_
          refine lv_iload_n hx hb dX9_copy_15 rfl (lv_at hl 2 rfl) ?_
          refine lv_aload_n hx hb dX9_copy_16 rfl (lv_at hl 0 rfl) ?_
          refine lv_iload_n hx hb dX9_copy_17 rfl (lv_at hl 2 rfl) ?_
          obtain ⟨v18, e18, h⟩ := Option.bind_eq_some_iff.mp h
          refine g_iald hx hb hK hG e18 dX9_copy_18 ?_
          obtain ⟨G19, e19, h⟩ := Option.bind_eq_some_iff.mp h
          refine g_iast hx hb hK hG e19 dX9_copy_19 (fun H locs hG => ?_)
          refine lv_iinc (v := (bx2 + (1 : Int32))) (lv' := [(2, .int (bx2 + (1 : Int32))), (0, .ref ba0), (1, .ref ba1)]) hx hb dX9_copy_20 hl (k := 2) rfl rfl (by decide) rfl (fun ls hl => ?_)
          refine lv_goto (tgt := 2) hx hb dX9_copy_23 (by decide) ?_
          exact ih G19 ba0 ba1 (bx2 + (1 : Int32)) _ _ hG _ (lv_sub hl [1, 2, 0] rfl) h
  unfold f_X9_copy at h
  refine lv_iconst (v := (0 : Int32)) hx hb dX9_copy_0 (by decide) ?_
  refine lv_istore_n (lv' := [(2, .int (0 : Int32)), (0, .ref a0), (1, .ref a1)]) hx hb dX9_copy_1 rfl hl (by decide) rfl (fun ls hl => ?_)
  exact h2 g_N G a0 a1 (0 : Int32) _ _ hG _ (lv_sub hl [1, 2, 0] rfl) h
def f_X9_copy__L2 : Nat → gH → Nat → Nat → Int32 → Option gH
  | 0, _, _, _, _ => none
  | n + 1, G, ba0, ba1, bx2 =>
    (g_len G ba0).bind fun v4 =>
    if v4 ≤ bx2 then
    some G
    else
    (g_len G ba1).bind fun v10 =>
    if v10 ≤ bx2 then
    some G
    else
    (g_ald 1 G ba0 bx2).bind fun v18 =>
    (g_ast 1 G ba1 bx2 v18).bind fun G19 =>
    f_X9_copy__L2 n G19 ba0 ba1 (bx2 + (1 : Int32))
def f_X9_copy_ (G : gH) (a0 : Nat) (a1 : Nat) : Option gH :=
    f_X9_copy__L2 g_N G a0 a1 (0 : Int32)
set_option maxRecDepth 20000 in
set_option maxHeartbeats 4000000 in
theorem m_X9_copy_ (l : Launch) (dd : va_G) (cT : Nat → ClassId) (lo : Nat) (G : gH) (a0 : Nat) (a1 : Nat) {Gz : gH} (h : f_X9_copy_ G a0 a1 = some Gz) : Met l yX9_copy_ (Cond.code yX9_copy_ cX9_copy_ 3 none :: wsL_law) (g_rm 0 0 0 0) (va_Pc [.ref a0, .ref a1] (g_Pre lo dd cT G)) (va_Qv (g_iv Gz) (g_Pre lo dd cT) (g_A lo)) 0 0 (g_A lo) := by
  refine g_start RX9 rfl (by decide) (Nat.le_of_ble_eq_true rfl) ?_
  intro p e s m below meth c hx hb hr hlocks hml hown hnm hts hK hG hlo ls hl
  have hl : lv_has ls 3 [(0, .ref a0), (1, .ref a1)] := hl
  have hG : g_S lo dd cT s s.heap [] G := hG
  have h2 : ∀ n : Nat, ∀ (G : gH) (ba0 : Nat) (ba1 : Nat) (bx2 : Int32), ∀ (H : Heap) (locs : List Loc), g_S lo dd cT s H locs G → ∀ ls : Array Slot, lv_has ls 3 [(0, .ref ba0), (1, .ref ba1), (2, .int bx2)] → f_X9_copy__L2 n G ba0 ba1 bx2 = some Gz → W p l e (g_rm 0 0 0 0) s m ([.ref a0, .ref a1] : List Value).toArray below meth c H locs 0 0 (MQ below (va_Qv (g_iv Gz) (g_Pre lo dd cT) (g_A lo)) ([.ref a0, .ref a1] : List Value).toArray s 0 0 (g_A lo)) (F0 m 2 ls []) := by
    intro n
    induction n with
    | zero =>
      intro G ba0 ba1 bx2 H locs hG ls hl h
      cases (show (none : Option gH) = some Gz from h)
    | succ n ih =>
      intro G ba0 ba1 bx2 H locs hG ls hl h
      rw [f_X9_copy__L2] at h
      refine lv_iload_n hx hb dX9_copy__2 rfl (lv_at hl 2 rfl) ?_
      refine lv_aload_n hx hb dX9_copy__3 rfl (lv_at hl 0 rfl) ?_
      obtain ⟨v4, e4, h⟩ := Option.bind_eq_some_iff.mp h
      refine g_alen hx hb hK hG e4 dX9_copy__4 ?_
      refine lv_icmp_ge (tgt := 26) hx hb dX9_copy__5 (by decide) (fun c5 => ?_) (fun c5 => ?_)
      · rw [if_pos c5] at h
        obtain rfl := Option.some.inj h
        exact g_vret hx hb hr hlocks hK hlo hG rfl dX9_copy__26
      · rw [if_neg c5] at h
        refine lv_iload_n hx hb dX9_copy__8 rfl (lv_at hl 2 rfl) ?_
        refine lv_aload_n hx hb dX9_copy__9 rfl (lv_at hl 1 rfl) ?_
        obtain ⟨v10, e10, h⟩ := Option.bind_eq_some_iff.mp h
        refine g_alen hx hb hK hG e10 dX9_copy__10 ?_
        refine lv_icmp_ge (tgt := 26) hx hb dX9_copy__11 (by decide) (fun c11 => ?_) (fun c11 => ?_)
        · rw [if_pos c11] at h
          obtain rfl := Option.some.inj h
          exact g_vret hx hb hr hlocks hK hlo hG rfl dX9_copy__26
        · rw [if_neg c11] at h
          refine lv_aload_n hx hb dX9_copy__14 rfl (lv_at hl 1 rfl) ?_
          refine lv_iload_n hx hb dX9_copy__15 rfl (lv_at hl 2 rfl) ?_
          refine lv_aload_n hx hb dX9_copy__16 rfl (lv_at hl 0 rfl) ?_
          refine lv_iload_n hx hb dX9_copy__17 rfl (lv_at hl 2 rfl) ?_
          obtain ⟨v18, e18, h⟩ := Option.bind_eq_some_iff.mp h
          refine g_zald hx hb hK hG e18 dX9_copy__18 ?_
          obtain ⟨G19, e19, h⟩ := Option.bind_eq_some_iff.mp h
          refine g_zast hx hb hK hG e19 dX9_copy__19 (fun H locs hG => ?_)
          refine lv_iinc (v := (bx2 + (1 : Int32))) (lv' := [(2, .int (bx2 + (1 : Int32))), (0, .ref ba0), (1, .ref ba1)]) hx hb dX9_copy__20 hl (k := 2) rfl rfl (by decide) rfl (fun ls hl => ?_)
          refine lv_goto (tgt := 2) hx hb dX9_copy__23 (by decide) ?_
          exact ih G19 ba0 ba1 (bx2 + (1 : Int32)) _ _ hG _ (lv_sub hl [1, 2, 0] rfl) h
  unfold f_X9_copy_ at h
  refine lv_iconst (v := (0 : Int32)) hx hb dX9_copy__0 (by decide) ?_
  refine lv_istore_n (lv' := [(2, .int (0 : Int32)), (0, .ref a0), (1, .ref a1)]) hx hb dX9_copy__1 rfl hl (by decide) rfl (fun ls hl => ?_)
  exact h2 g_N G a0 a1 (0 : Int32) _ _ hG _ (lv_sub hl [1, 2, 0] rfl) h
def f_X9_copy___L2 : Nat → gH → Nat → Nat → Int32 → Option gH
  | 0, _, _, _, _ => none
  | n + 1, G, ba0, ba1, bx2 =>
    (g_len G ba0).bind fun v4 =>
    if v4 ≤ bx2 then
    some G
    else
    (g_len G ba1).bind fun v10 =>
    if v10 ≤ bx2 then
    some G
    else
    (g_lald G ba0 bx2).bind fun v18 =>
    (g_last G ba1 bx2 v18).bind fun G19 =>
    f_X9_copy___L2 n G19 ba0 ba1 (bx2 + (1 : Int32))
def f_X9_copy__ (G : gH) (a0 : Nat) (a1 : Nat) : Option gH :=
    f_X9_copy___L2 g_N G a0 a1 (0 : Int32)
set_option maxRecDepth 20000 in
set_option maxHeartbeats 4000000 in
theorem m_X9_copy__ (l : Launch) (dd : va_G) (cT : Nat → ClassId) (lo : Nat) (G : gH) (a0 : Nat) (a1 : Nat) {Gz : gH} (h : f_X9_copy__ G a0 a1 = some Gz) : Met l yX9_copy__ (Cond.code yX9_copy__ cX9_copy__ 3 none :: wsL_law) (g_rm 0 0 0 0) (va_Pc [.ref a0, .ref a1] (g_Pre lo dd cT G)) (va_Qv (g_iv Gz) (g_Pre lo dd cT) (g_A lo)) 0 0 (g_A lo) := by
  refine g_start RX9 rfl (by decide) (Nat.le_of_ble_eq_true rfl) ?_
  intro p e s m below meth c hx hb hr hlocks hml hown hnm hts hK hG hlo ls hl
  have hl : lv_has ls 3 [(0, .ref a0), (1, .ref a1)] := hl
  have hG : g_S lo dd cT s s.heap [] G := hG
  have h2 : ∀ n : Nat, ∀ (G : gH) (ba0 : Nat) (ba1 : Nat) (bx2 : Int32), ∀ (H : Heap) (locs : List Loc), g_S lo dd cT s H locs G → ∀ ls : Array Slot, lv_has ls 3 [(0, .ref ba0), (1, .ref ba1), (2, .int bx2)] → f_X9_copy___L2 n G ba0 ba1 bx2 = some Gz → W p l e (g_rm 0 0 0 0) s m ([.ref a0, .ref a1] : List Value).toArray below meth c H locs 0 0 (MQ below (va_Qv (g_iv Gz) (g_Pre lo dd cT) (g_A lo)) ([.ref a0, .ref a1] : List Value).toArray s 0 0 (g_A lo)) (F0 m 2 ls []) := by
    intro n
    induction n with
    | zero =>
      intro G ba0 ba1 bx2 H locs hG ls hl h
      cases (show (none : Option gH) = some Gz from h)
    | succ n ih =>
      intro G ba0 ba1 bx2 H locs hG ls hl h
      rw [f_X9_copy___L2] at h
      refine lv_iload_n hx hb dX9_copy___2 rfl (lv_at hl 2 rfl) ?_
      refine lv_aload_n hx hb dX9_copy___3 rfl (lv_at hl 0 rfl) ?_
      obtain ⟨v4, e4, h⟩ := Option.bind_eq_some_iff.mp h
      refine g_alen hx hb hK hG e4 dX9_copy___4 ?_
      refine lv_icmp_ge (tgt := 26) hx hb dX9_copy___5 (by decide) (fun c5 => ?_) (fun c5 => ?_)
      · rw [if_pos c5] at h
        obtain rfl := Option.some.inj h
        exact g_vret hx hb hr hlocks hK hlo hG rfl dX9_copy___26
      · rw [if_neg c5] at h
        refine lv_iload_n hx hb dX9_copy___8 rfl (lv_at hl 2 rfl) ?_
        refine lv_aload_n hx hb dX9_copy___9 rfl (lv_at hl 1 rfl) ?_
        obtain ⟨v10, e10, h⟩ := Option.bind_eq_some_iff.mp h
        refine g_alen hx hb hK hG e10 dX9_copy___10 ?_
        refine lv_icmp_ge (tgt := 26) hx hb dX9_copy___11 (by decide) (fun c11 => ?_) (fun c11 => ?_)
        · rw [if_pos c11] at h
          obtain rfl := Option.some.inj h
          exact g_vret hx hb hr hlocks hK hlo hG rfl dX9_copy___26
        · rw [if_neg c11] at h
          refine lv_aload_n hx hb dX9_copy___14 rfl (lv_at hl 1 rfl) ?_
          refine lv_iload_n hx hb dX9_copy___15 rfl (lv_at hl 2 rfl) ?_
          refine lv_aload_n hx hb dX9_copy___16 rfl (lv_at hl 0 rfl) ?_
          refine lv_iload_n hx hb dX9_copy___17 rfl (lv_at hl 2 rfl) ?_
          obtain ⟨v18, e18, h⟩ := Option.bind_eq_some_iff.mp h
          refine g_jald hx hb hK hG e18 dX9_copy___18 ?_
          obtain ⟨G19, e19, h⟩ := Option.bind_eq_some_iff.mp h
          refine g_jast hx hb hK hG e19 dX9_copy___19 (fun H locs hG => ?_)
          refine lv_iinc (v := (bx2 + (1 : Int32))) (lv' := [(2, .int (bx2 + (1 : Int32))), (0, .ref ba0), (1, .ref ba1)]) hx hb dX9_copy___20 hl (k := 2) rfl rfl (by decide) rfl (fun ls hl => ?_)
          refine lv_goto (tgt := 2) hx hb dX9_copy___23 (by decide) ?_
          exact ih G19 ba0 ba1 (bx2 + (1 : Int32)) _ _ hG _ (lv_sub hl [1, 2, 0] rfl) h
  unfold f_X9_copy__ at h
  refine lv_iconst (v := (0 : Int32)) hx hb dX9_copy___0 (by decide) ?_
  refine lv_istore_n (lv' := [(2, .int (0 : Int32)), (0, .ref a0), (1, .ref a1)]) hx hb dX9_copy___1 rfl hl (by decide) rfl (fun ls hl => ?_)
  exact h2 g_N G a0 a1 (0 : Int32) _ _ hG _ (lv_sub hl [1, 2, 0] rfl) h
def f_X9_indexOf_L3 (G : gH) : Nat → Nat → Int32 → Int64 → Int32 → Option Int32
  | 0, _, _, _, _ => none
  | n + 1, ba0, bx1, bx2, bx4 =>
    if bx1 ≤ bx4 then
    some (-1 : Int32)
    else
    (g_len G ba0).bind fun v12 =>
    if v12 ≤ bx4 then
    some (-1 : Int32)
    else
    (g_lald G ba0 bx4).bind fun v19 =>
    if (lg_cmp v19 bx2) = 0 then
    some bx4
    else
    f_X9_indexOf_L3 G n ba0 bx1 bx2 (bx4 + (1 : Int32))
def f_X9_indexOf (G : gH) (a0 : Nat) (x1 : Int32) (x2 : Int64) : Option Int32 :=
    f_X9_indexOf_L3 G g_N a0 x1 x2 (0 : Int32)
set_option maxRecDepth 20000 in
set_option maxHeartbeats 4000000 in
theorem m_X9_indexOf (l : Launch) (dd : va_G) (cT : Nat → ClassId) (lo : Nat) (G : gH) (a0 : Nat) (x1 : Int32) (x2 : Int64) {rz : Int32} (h : f_X9_indexOf G a0 x1 x2 = some rz) : Met l yX9_indexOf (Cond.code yX9_indexOf cX9_indexOf 5 (some .int) :: wsL_law) (g_rm 0 0 0 0) (va_Pc [.ref a0, .int x1, .long x2] (g_Pre lo dd cT G)) (va_Qi (g_is rz G) (g_Pre lo dd cT) (g_A lo)) 0 0 (g_A lo) := by
  refine g_start RX9 rfl (by decide) (Nat.le_of_ble_eq_true rfl) ?_
  intro p e s m below meth c hx hb hr hlocks hml hown hnm hts hK hG hlo ls hl
  have hl : lv_has ls 5 [(0, .ref a0), (1, .int x1), (2, .long x2)] := hl
  have hG : g_S lo dd cT s s.heap [] G := hG
  have h3 : ∀ n : Nat, ∀ (ba0 : Nat) (bx1 : Int32) (bx2 : Int64) (bx4 : Int32), ∀ (H : Heap) (locs : List Loc), g_S lo dd cT s H locs G → ∀ ls : Array Slot, lv_has ls 5 [(0, .ref ba0), (1, .int bx1), (2, .long bx2), (4, .int bx4)] → f_X9_indexOf_L3 G n ba0 bx1 bx2 bx4 = some rz → W p l e (g_rm 0 0 0 0) s m ([.ref a0, .int x1, .long x2] : List Value).toArray below meth c H locs 0 0 (MQ below (va_Qi (g_is rz G) (g_Pre lo dd cT) (g_A lo)) ([.ref a0, .int x1, .long x2] : List Value).toArray s 0 0 (g_A lo)) (F0 m 3 ls []) := by
    intro n
    induction n with
    | zero =>
      intro ba0 bx1 bx2 bx4 H locs hG ls hl h
      cases (show (none : Option Int32) = some rz from h)
    | succ n ih =>
      intro ba0 bx1 bx2 bx4 H locs hG ls hl h
      rw [f_X9_indexOf_L3] at h
      refine lv_iload hx hb dX9_indexOf_3 (lv_at hl 3 rfl) ?_
      refine lv_iload_n hx hb dX9_indexOf_5 rfl (lv_at hl 1 rfl) ?_
      refine lv_icmp_ge (tgt := 34) hx hb dX9_indexOf_6 (by decide) (fun c6 => ?_) (fun c6 => ?_)
      · rw [if_pos c6] at h
        refine lv_iconst (v := (-1 : Int32)) hx hb dX9_indexOf_34 (by decide) ?_
        obtain rfl := Option.some.inj h
        exact g_iret hx hb hr hlocks hK hlo hG ⟨rfl, rfl⟩ dX9_indexOf_35
      · rw [if_neg c6] at h
        refine lv_iload hx hb dX9_indexOf_9 (lv_at hl 3 rfl) ?_
        refine lv_aload_n hx hb dX9_indexOf_11 rfl (lv_at hl 0 rfl) ?_
        obtain ⟨v12, e12, h⟩ := Option.bind_eq_some_iff.mp h
        refine g_alen hx hb hK hG e12 dX9_indexOf_12 ?_
        refine lv_icmp_ge (tgt := 34) hx hb dX9_indexOf_13 (by decide) (fun c13 => ?_) (fun c13 => ?_)
        · rw [if_pos c13] at h
          refine lv_iconst (v := (-1 : Int32)) hx hb dX9_indexOf_34 (by decide) ?_
          obtain rfl := Option.some.inj h
          exact g_iret hx hb hr hlocks hK hlo hG ⟨rfl, rfl⟩ dX9_indexOf_35
        · rw [if_neg c13] at h
          refine lv_aload_n hx hb dX9_indexOf_16 rfl (lv_at hl 0 rfl) ?_
          refine lv_iload hx hb dX9_indexOf_17 (lv_at hl 3 rfl) ?_
          obtain ⟨v19, e19, h⟩ := Option.bind_eq_some_iff.mp h
          refine g_jald hx hb hK hG e19 dX9_indexOf_19 ?_
          refine lv_lload_n hx hb dX9_indexOf_20 rfl (lv_at hl 2 rfl) ?_
          refine W.lcmp hx hb dX9_indexOf_21 ?_
          refine lv_if_ne (tgt := 28) hx hb dX9_indexOf_22 (by decide) (fun c22 => ?_) (fun c22 => ?_)
          · rw [if_neg c22] at h
            refine lv_iinc (v := (bx4 + (1 : Int32))) (lv' := [(4, .int (bx4 + (1 : Int32))), (0, .ref ba0), (1, .int bx1), (2, .long bx2)]) hx hb dX9_indexOf_28 hl (k := 3) rfl rfl (by decide) rfl (fun ls hl => ?_)
            refine lv_goto (tgt := 3) hx hb dX9_indexOf_31 (by decide) ?_
            exact ih ba0 bx1 bx2 (bx4 + (1 : Int32)) _ _ hG _ (lv_sub hl [1, 2, 3, 0] rfl) h
          · rw [if_pos c22] at h
            refine lv_iload hx hb dX9_indexOf_25 (lv_at hl 3 rfl) ?_
            obtain rfl := Option.some.inj h
            exact g_iret hx hb hr hlocks hK hlo hG ⟨rfl, rfl⟩ dX9_indexOf_27
  unfold f_X9_indexOf at h
  refine lv_iconst (v := (0 : Int32)) hx hb dX9_indexOf_0 (by decide) ?_
  refine lv_istore (lv' := [(4, .int (0 : Int32)), (0, .ref a0), (1, .int x1), (2, .long x2)]) hx hb dX9_indexOf_1 hl (by decide) rfl (fun ls hl => ?_)
  exact h3 g_N a0 x1 x2 (0 : Int32) _ _ hG _ (lv_sub hl [1, 2, 3, 0] rfl) h
def f_X0_format (G : gH) (a0 : Nat) (x1 : Int32) (x2 : Int32) : Option gH :=
    (g_put G a0 0 0 (.int x1)).bind fun G2 =>
    (g_put G2 a0 0 1 (.int (x1 - x2))).bind fun G9 =>
    (g_put G9 a0 0 2 (.int (0 : Int32))).bind fun G14 =>
    (g_r G14 a0 0 3).bind fun v18 =>
    (f_X9_fill G14 v18 (0 : Int32)).bind fun G22 =>
    (g_r G22 a0 0 4).bind fun v26 =>
    (f_X9_fill_ G22 v26 (0 : Int32)).bind fun G30 =>
    (g_r G30 a0 0 5).bind fun v34 =>
    (f_X9_fill_ G30 v34 (0 : Int32)).bind fun G38 =>
    (g_r G38 a0 0 6).bind fun v42 =>
    (f_X9_fill G38 v42 (-1 : Int32)).bind fun G46 =>
    (g_r G46 a0 0 7).bind fun v50 =>
    (f_X9_fill G46 v50 (-1 : Int32)).bind fun G54 =>
    (g_r G54 a0 0 8).bind fun v58 =>
    (f_X9_fill G54 v58 (-1 : Int32)).bind fun G62 =>
    (g_r G62 a0 0 9).bind fun v66 =>
    (f_X9_fill G62 v66 (-1 : Int32)).bind fun G70 =>
    (g_r G70 a0 0 10).bind fun v74 =>
    (f_X9_fill G70 v74 (-1 : Int32)).bind fun G78 =>
    some G78
set_option maxRecDepth 20000 in
set_option maxHeartbeats 4000000 in
theorem m_X0_format (l : Launch) (dd : va_G) (cT : Nat → ClassId) (lo : Nat) (G : gH) (a0 : Nat) (x1 : Int32) (x2 : Int32) {Gz : gH} (h : f_X0_format G a0 x1 x2 = some Gz) : Met l yX0_format (Cond.code yX0_format cX0_format 3 none :: wsL_law) (g_rm 1 22 0 0) (va_Pc [.ref a0, .int x1, .int x2] (g_Pre lo dd cT G)) (va_Qv (g_iv Gz) (g_Pre lo dd cT) (g_A lo)) 0 0 (g_A lo) := by
  refine g_start RX0 rfl (by decide) (Nat.le_of_ble_eq_true rfl) ?_
  intro p e s m below meth c hx hb hr hlocks hml hown hnm hts hK hG hlo ls hl
  have hl : lv_has ls 3 [(0, .ref a0), (1, .int x1), (2, .int x2)] := hl
  have hG : g_S lo dd cT s s.heap [] G := hG
  unfold f_X0_format at h
  refine lv_aload_n hx hb dX0_format_0 rfl (lv_at hl 0 rfl) ?_
  refine lv_iload_n hx hb dX0_format_1 rfl (lv_at hl 1 rfl) ?_
  obtain ⟨G2, i2, h⟩ := Option.bind_eq_some_iff.mp h
  refine g_putv hx hb hts inlX0 tyX0 tyX0_ok nmX0 hown hK hG (by rfl) 0 (by decide) qF_X0_9 rfl rfl rfl rfl i2 dX0_format_2 (fun H locs hG => ?_)
  refine lv_aload_n hx hb dX0_format_5 rfl (lv_at hl 0 rfl) ?_
  refine lv_iload_n hx hb dX0_format_6 rfl (lv_at hl 1 rfl) ?_
  refine lv_iload_n hx hb dX0_format_7 rfl (lv_at hl 2 rfl) ?_
  refine lv_isub hx hb dX0_format_8 ?_
  obtain ⟨G9, i9, h⟩ := Option.bind_eq_some_iff.mp h
  refine g_putv hx hb hts inlX0 tyX0 tyX0_ok nmX0 hown hK hG (by rfl) 1 (by decide) qF_X0_15 rfl rfl rfl rfl i9 dX0_format_9 (fun H locs hG => ?_)
  refine lv_aload_n hx hb dX0_format_12 rfl (lv_at hl 0 rfl) ?_
  refine lv_iconst (v := (0 : Int32)) hx hb dX0_format_13 (by decide) ?_
  obtain ⟨G14, i14, h⟩ := Option.bind_eq_some_iff.mp h
  refine g_putv hx hb hts inlX0 tyX0 tyX0_ok nmX0 hown hK hG (by rfl) 2 (by decide) qF_X0_18 rfl rfl rfl rfl i14 dX0_format_14 (fun H locs hG => ?_)
  refine lv_aload_n hx hb dX0_format_17 rfl (lv_at hl 0 rfl) ?_
  obtain ⟨v18, e18, h⟩ := Option.bind_eq_some_iff.mp h
  refine g_getr hx hb hts inlX0 hown hK hG (by rfl) 3 (by decide) qF_X0_21 e18 dX0_format_18 ?_
  refine lv_iconst (v := (0 : Int32)) hx hb dX0_format_21 (by decide) ?_
  obtain ⟨G22, e22, h⟩ := Option.bind_eq_some_iff.mp h
  refine g_cNv (As := [.ref v18, .int (0 : Int32)]) (rest := []) (n := 2) hx hb hml hown hts hK hlo hG (m_X9_fill l dd cT lo G14 v18 (0 : Int32) e22) (List.mem_of_getElem? (i := 6) rfl) qT_yX9_fill qN_X9 qC_yX9_fill (by decide +kernel) ⟨Nat.le_of_ble_eq_true rfl, Nat.le_of_ble_eq_true rfl⟩ rfl hl.1 rfl (Nat.le_of_ble_eq_true rfl) dX0_format_22 ⟨Nat.le_of_ble_eq_true rfl, Nat.le_of_ble_eq_true rfl⟩ (fun H locs hG => ?_)
  refine lv_aload_n hx hb dX0_format_25 rfl (lv_at hl 0 rfl) ?_
  obtain ⟨v26, e26, h⟩ := Option.bind_eq_some_iff.mp h
  refine g_getr hx hb hts inlX0 hown hK hG (by rfl) 4 (by decide) qF_X0_25 e26 dX0_format_26 ?_
  refine lv_iconst (v := (0 : Int32)) hx hb dX0_format_29 (by decide) ?_
  obtain ⟨G30, e30, h⟩ := Option.bind_eq_some_iff.mp h
  refine g_cNv (As := [.ref v26, .int (0 : Int32)]) (rest := []) (n := 2) hx hb hml hown hts hK hlo hG (m_X9_fill_ l dd cT lo G22 v26 (0 : Int32) e30) (List.mem_of_getElem? (i := 7) rfl) qT_yX9_fill_ qN_X9 qC_yX9_fill_ (by decide +kernel) ⟨Nat.le_of_ble_eq_true rfl, Nat.le_of_ble_eq_true rfl⟩ rfl hl.1 rfl (Nat.le_of_ble_eq_true rfl) dX0_format_30 ⟨Nat.le_of_ble_eq_true rfl, Nat.le_of_ble_eq_true rfl⟩ (fun H locs hG => ?_)
  refine lv_aload_n hx hb dX0_format_33 rfl (lv_at hl 0 rfl) ?_
  obtain ⟨v34, e34, h⟩ := Option.bind_eq_some_iff.mp h
  refine g_getr hx hb hts inlX0 hown hK hG (by rfl) 5 (by decide) qF_X0_29 e34 dX0_format_34 ?_
  refine lv_iconst (v := (0 : Int32)) hx hb dX0_format_37 (by decide) ?_
  obtain ⟨G38, e38, h⟩ := Option.bind_eq_some_iff.mp h
  refine g_cNv (As := [.ref v34, .int (0 : Int32)]) (rest := []) (n := 2) hx hb hml hown hts hK hlo hG (m_X9_fill_ l dd cT lo G30 v34 (0 : Int32) e38) (List.mem_of_getElem? (i := 7) rfl) qT_yX9_fill_ qN_X9 qC_yX9_fill_ (by decide +kernel) ⟨Nat.le_of_ble_eq_true rfl, Nat.le_of_ble_eq_true rfl⟩ rfl hl.1 rfl (Nat.le_of_ble_eq_true rfl) dX0_format_38 ⟨Nat.le_of_ble_eq_true rfl, Nat.le_of_ble_eq_true rfl⟩ (fun H locs hG => ?_)
  refine lv_aload_n hx hb dX0_format_41 rfl (lv_at hl 0 rfl) ?_
  obtain ⟨v42, e42, h⟩ := Option.bind_eq_some_iff.mp h
  refine g_getr hx hb hts inlX0 hown hK hG (by rfl) 6 (by decide) qF_X0_32 e42 dX0_format_42 ?_
  refine lv_iconst (v := (-1 : Int32)) hx hb dX0_format_45 (by decide) ?_
  obtain ⟨G46, e46, h⟩ := Option.bind_eq_some_iff.mp h
  refine g_cNv (As := [.ref v42, .int (-1 : Int32)]) (rest := []) (n := 2) hx hb hml hown hts hK hlo hG (m_X9_fill l dd cT lo G38 v42 (-1 : Int32) e46) (List.mem_of_getElem? (i := 6) rfl) qT_yX9_fill qN_X9 qC_yX9_fill (by decide +kernel) ⟨Nat.le_of_ble_eq_true rfl, Nat.le_of_ble_eq_true rfl⟩ rfl hl.1 rfl (Nat.le_of_ble_eq_true rfl) dX0_format_46 ⟨Nat.le_of_ble_eq_true rfl, Nat.le_of_ble_eq_true rfl⟩ (fun H locs hG => ?_)
  refine lv_aload_n hx hb dX0_format_49 rfl (lv_at hl 0 rfl) ?_
  obtain ⟨v50, e50, h⟩ := Option.bind_eq_some_iff.mp h
  refine g_getr hx hb hts inlX0 hown hK hG (by rfl) 7 (by decide) qF_X0_35 e50 dX0_format_50 ?_
  refine lv_iconst (v := (-1 : Int32)) hx hb dX0_format_53 (by decide) ?_
  obtain ⟨G54, e54, h⟩ := Option.bind_eq_some_iff.mp h
  refine g_cNv (As := [.ref v50, .int (-1 : Int32)]) (rest := []) (n := 2) hx hb hml hown hts hK hlo hG (m_X9_fill l dd cT lo G46 v50 (-1 : Int32) e54) (List.mem_of_getElem? (i := 6) rfl) qT_yX9_fill qN_X9 qC_yX9_fill (by decide +kernel) ⟨Nat.le_of_ble_eq_true rfl, Nat.le_of_ble_eq_true rfl⟩ rfl hl.1 rfl (Nat.le_of_ble_eq_true rfl) dX0_format_54 ⟨Nat.le_of_ble_eq_true rfl, Nat.le_of_ble_eq_true rfl⟩ (fun H locs hG => ?_)
  refine lv_aload_n hx hb dX0_format_57 rfl (lv_at hl 0 rfl) ?_
  obtain ⟨v58, e58, h⟩ := Option.bind_eq_some_iff.mp h
  refine g_getr hx hb hts inlX0 hown hK hG (by rfl) 8 (by decide) qF_X0_38 e58 dX0_format_58 ?_
  refine lv_iconst (v := (-1 : Int32)) hx hb dX0_format_61 (by decide) ?_
  obtain ⟨G62, e62, h⟩ := Option.bind_eq_some_iff.mp h
  refine g_cNv (As := [.ref v58, .int (-1 : Int32)]) (rest := []) (n := 2) hx hb hml hown hts hK hlo hG (m_X9_fill l dd cT lo G54 v58 (-1 : Int32) e62) (List.mem_of_getElem? (i := 6) rfl) qT_yX9_fill qN_X9 qC_yX9_fill (by decide +kernel) ⟨Nat.le_of_ble_eq_true rfl, Nat.le_of_ble_eq_true rfl⟩ rfl hl.1 rfl (Nat.le_of_ble_eq_true rfl) dX0_format_62 ⟨Nat.le_of_ble_eq_true rfl, Nat.le_of_ble_eq_true rfl⟩ (fun H locs hG => ?_)
  refine lv_aload_n hx hb dX0_format_65 rfl (lv_at hl 0 rfl) ?_
  obtain ⟨v66, e66, h⟩ := Option.bind_eq_some_iff.mp h
  refine g_getr hx hb hts inlX0 hown hK hG (by rfl) 9 (by decide) qF_X0_41 e66 dX0_format_66 ?_
  refine lv_iconst (v := (-1 : Int32)) hx hb dX0_format_69 (by decide) ?_
  obtain ⟨G70, e70, h⟩ := Option.bind_eq_some_iff.mp h
  refine g_cNv (As := [.ref v66, .int (-1 : Int32)]) (rest := []) (n := 2) hx hb hml hown hts hK hlo hG (m_X9_fill l dd cT lo G62 v66 (-1 : Int32) e70) (List.mem_of_getElem? (i := 6) rfl) qT_yX9_fill qN_X9 qC_yX9_fill (by decide +kernel) ⟨Nat.le_of_ble_eq_true rfl, Nat.le_of_ble_eq_true rfl⟩ rfl hl.1 rfl (Nat.le_of_ble_eq_true rfl) dX0_format_70 ⟨Nat.le_of_ble_eq_true rfl, Nat.le_of_ble_eq_true rfl⟩ (fun H locs hG => ?_)
  refine lv_aload_n hx hb dX0_format_73 rfl (lv_at hl 0 rfl) ?_
  obtain ⟨v74, e74, h⟩ := Option.bind_eq_some_iff.mp h
  refine g_getr hx hb hts inlX0 hown hK hG (by rfl) 10 (by decide) qF_X0_44 e74 dX0_format_74 ?_
  refine lv_iconst (v := (-1 : Int32)) hx hb dX0_format_77 (by decide) ?_
  obtain ⟨G78, e78, h⟩ := Option.bind_eq_some_iff.mp h
  refine g_cNv (As := [.ref v74, .int (-1 : Int32)]) (rest := []) (n := 2) hx hb hml hown hts hK hlo hG (m_X9_fill l dd cT lo G70 v74 (-1 : Int32) e78) (List.mem_of_getElem? (i := 6) rfl) qT_yX9_fill qN_X9 qC_yX9_fill (by decide +kernel) ⟨Nat.le_of_ble_eq_true rfl, Nat.le_of_ble_eq_true rfl⟩ rfl hl.1 rfl (Nat.le_of_ble_eq_true rfl) dX0_format_78 ⟨Nat.le_of_ble_eq_true rfl, Nat.le_of_ble_eq_true rfl⟩ (fun H locs hG => ?_)
  obtain rfl := Option.some.inj h
  exact g_vret hx hb hr hlocks hK hlo hG rfl dX0_format_81
def f_X0_takeFrom (G : gH) (a0 : Nat) (a1 : Nat) : Option gH :=
    (g_i G a1 0 0).bind fun v2 =>
    (g_put G a0 0 0 (.int v2)).bind fun G5 =>
    (g_i G5 a1 0 1).bind fun v10 =>
    (g_put G5 a0 0 1 (.int v10)).bind fun G13 =>
    (g_i G13 a1 0 2).bind fun v18 =>
    (g_put G13 a0 0 2 (.int v18)).bind fun G21 =>
    (g_r G21 a1 0 3).bind fun v25 =>
    (g_r G21 a0 0 3).bind fun v29 =>
    (f_X9_copy G21 v25 v29).bind fun G32 =>
    (g_r G32 a1 0 4).bind fun v36 =>
    (g_r G32 a0 0 4).bind fun v40 =>
    (f_X9_copy_ G32 v36 v40).bind fun G43 =>
    (g_r G43 a1 0 5).bind fun v47 =>
    (g_r G43 a0 0 5).bind fun v51 =>
    (f_X9_copy_ G43 v47 v51).bind fun G54 =>
    (g_r G54 a1 0 6).bind fun v58 =>
    (g_r G54 a0 0 6).bind fun v62 =>
    (f_X9_copy G54 v58 v62).bind fun G65 =>
    (g_r G65 a1 0 7).bind fun v69 =>
    (g_r G65 a0 0 7).bind fun v73 =>
    (f_X9_copy G65 v69 v73).bind fun G76 =>
    (g_r G76 a1 0 8).bind fun v80 =>
    (g_r G76 a0 0 8).bind fun v84 =>
    (f_X9_copy G76 v80 v84).bind fun G87 =>
    (g_r G87 a1 0 9).bind fun v91 =>
    (g_r G87 a0 0 9).bind fun v95 =>
    (f_X9_copy G87 v91 v95).bind fun G98 =>
    (g_r G98 a1 0 10).bind fun v102 =>
    (g_r G98 a0 0 10).bind fun v106 =>
    (f_X9_copy G98 v102 v106).bind fun G109 =>
    some G109
set_option maxRecDepth 20000 in
set_option maxHeartbeats 4000000 in
theorem m_X0_takeFrom (l : Launch) (dd : va_G) (cT : Nat → ClassId) (lo : Nat) (G : gH) (a0 : Nat) (a1 : Nat) {Gz : gH} (h : f_X0_takeFrom G a0 a1 = some Gz) : Met l yX0_takeFrom (Cond.code yX0_takeFrom cX0_takeFrom 2 none :: wsL_law) (g_rm 1 22 0 0) (va_Pc [.ref a0, .ref a1] (g_Pre lo dd cT G)) (va_Qv (g_iv Gz) (g_Pre lo dd cT) (g_A lo)) 0 0 (g_A lo) := by
  refine g_start RX0 rfl (by decide) (Nat.le_of_ble_eq_true rfl) ?_
  intro p e s m below meth c hx hb hr hlocks hml hown hnm hts hK hG hlo ls hl
  have hl : lv_has ls 2 [(0, .ref a0), (1, .ref a1)] := hl
  have hG : g_S lo dd cT s s.heap [] G := hG
  unfold f_X0_takeFrom at h
  refine lv_aload_n hx hb dX0_takeFrom_0 rfl (lv_at hl 0 rfl) ?_
  refine lv_aload_n hx hb dX0_takeFrom_1 rfl (lv_at hl 1 rfl) ?_
  obtain ⟨v2, e2, h⟩ := Option.bind_eq_some_iff.mp h
  refine g_geti hx hb hts inlX0 hown hK hG (by rfl) 0 (by decide) qF_X0_9 e2 dX0_takeFrom_2 ?_
  obtain ⟨G5, i5, h⟩ := Option.bind_eq_some_iff.mp h
  refine g_putv hx hb hts inlX0 tyX0 tyX0_ok nmX0 hown hK hG (by rfl) 0 (by decide) qF_X0_9 rfl rfl rfl rfl i5 dX0_takeFrom_5 (fun H locs hG => ?_)
  refine lv_aload_n hx hb dX0_takeFrom_8 rfl (lv_at hl 0 rfl) ?_
  refine lv_aload_n hx hb dX0_takeFrom_9 rfl (lv_at hl 1 rfl) ?_
  obtain ⟨v10, e10, h⟩ := Option.bind_eq_some_iff.mp h
  refine g_geti hx hb hts inlX0 hown hK hG (by rfl) 1 (by decide) qF_X0_15 e10 dX0_takeFrom_10 ?_
  obtain ⟨G13, i13, h⟩ := Option.bind_eq_some_iff.mp h
  refine g_putv hx hb hts inlX0 tyX0 tyX0_ok nmX0 hown hK hG (by rfl) 1 (by decide) qF_X0_15 rfl rfl rfl rfl i13 dX0_takeFrom_13 (fun H locs hG => ?_)
  refine lv_aload_n hx hb dX0_takeFrom_16 rfl (lv_at hl 0 rfl) ?_
  refine lv_aload_n hx hb dX0_takeFrom_17 rfl (lv_at hl 1 rfl) ?_
  obtain ⟨v18, e18, h⟩ := Option.bind_eq_some_iff.mp h
  refine g_geti hx hb hts inlX0 hown hK hG (by rfl) 2 (by decide) qF_X0_18 e18 dX0_takeFrom_18 ?_
  obtain ⟨G21, i21, h⟩ := Option.bind_eq_some_iff.mp h
  refine g_putv hx hb hts inlX0 tyX0 tyX0_ok nmX0 hown hK hG (by rfl) 2 (by decide) qF_X0_18 rfl rfl rfl rfl i21 dX0_takeFrom_21 (fun H locs hG => ?_)
  refine lv_aload_n hx hb dX0_takeFrom_24 rfl (lv_at hl 1 rfl) ?_
  obtain ⟨v25, e25, h⟩ := Option.bind_eq_some_iff.mp h
  refine g_getr hx hb hts inlX0 hown hK hG (by rfl) 3 (by decide) qF_X0_21 e25 dX0_takeFrom_25 ?_
  refine lv_aload_n hx hb dX0_takeFrom_28 rfl (lv_at hl 0 rfl) ?_
  obtain ⟨v29, e29, h⟩ := Option.bind_eq_some_iff.mp h
  refine g_getr hx hb hts inlX0 hown hK hG (by rfl) 3 (by decide) qF_X0_21 e29 dX0_takeFrom_29 ?_
  obtain ⟨G32, e32, h⟩ := Option.bind_eq_some_iff.mp h
  refine g_cNv (As := [.ref v25, .ref v29]) (rest := []) (n := 2) hx hb hml hown hts hK hlo hG (m_X9_copy l dd cT lo G21 v25 v29 e32) (List.mem_of_getElem? (i := 8) rfl) qT_yX9_copy qN_X9 qC_yX9_copy (by decide +kernel) ⟨Nat.le_of_ble_eq_true rfl, Nat.le_of_ble_eq_true rfl⟩ rfl hl.1 rfl (Nat.le_of_ble_eq_true rfl) dX0_takeFrom_32 ⟨Nat.le_of_ble_eq_true rfl, Nat.le_of_ble_eq_true rfl⟩ (fun H locs hG => ?_)
  refine lv_aload_n hx hb dX0_takeFrom_35 rfl (lv_at hl 1 rfl) ?_
  obtain ⟨v36, e36, h⟩ := Option.bind_eq_some_iff.mp h
  refine g_getr hx hb hts inlX0 hown hK hG (by rfl) 4 (by decide) qF_X0_25 e36 dX0_takeFrom_36 ?_
  refine lv_aload_n hx hb dX0_takeFrom_39 rfl (lv_at hl 0 rfl) ?_
  obtain ⟨v40, e40, h⟩ := Option.bind_eq_some_iff.mp h
  refine g_getr hx hb hts inlX0 hown hK hG (by rfl) 4 (by decide) qF_X0_25 e40 dX0_takeFrom_40 ?_
  obtain ⟨G43, e43, h⟩ := Option.bind_eq_some_iff.mp h
  refine g_cNv (As := [.ref v36, .ref v40]) (rest := []) (n := 2) hx hb hml hown hts hK hlo hG (m_X9_copy_ l dd cT lo G32 v36 v40 e43) (List.mem_of_getElem? (i := 9) rfl) qT_yX9_copy_ qN_X9 qC_yX9_copy_ (by decide +kernel) ⟨Nat.le_of_ble_eq_true rfl, Nat.le_of_ble_eq_true rfl⟩ rfl hl.1 rfl (Nat.le_of_ble_eq_true rfl) dX0_takeFrom_43 ⟨Nat.le_of_ble_eq_true rfl, Nat.le_of_ble_eq_true rfl⟩ (fun H locs hG => ?_)
  refine lv_aload_n hx hb dX0_takeFrom_46 rfl (lv_at hl 1 rfl) ?_
  obtain ⟨v47, e47, h⟩ := Option.bind_eq_some_iff.mp h
  refine g_getr hx hb hts inlX0 hown hK hG (by rfl) 5 (by decide) qF_X0_29 e47 dX0_takeFrom_47 ?_
  refine lv_aload_n hx hb dX0_takeFrom_50 rfl (lv_at hl 0 rfl) ?_
  obtain ⟨v51, e51, h⟩ := Option.bind_eq_some_iff.mp h
  refine g_getr hx hb hts inlX0 hown hK hG (by rfl) 5 (by decide) qF_X0_29 e51 dX0_takeFrom_51 ?_
  obtain ⟨G54, e54, h⟩ := Option.bind_eq_some_iff.mp h
  refine g_cNv (As := [.ref v47, .ref v51]) (rest := []) (n := 2) hx hb hml hown hts hK hlo hG (m_X9_copy_ l dd cT lo G43 v47 v51 e54) (List.mem_of_getElem? (i := 9) rfl) qT_yX9_copy_ qN_X9 qC_yX9_copy_ (by decide +kernel) ⟨Nat.le_of_ble_eq_true rfl, Nat.le_of_ble_eq_true rfl⟩ rfl hl.1 rfl (Nat.le_of_ble_eq_true rfl) dX0_takeFrom_54 ⟨Nat.le_of_ble_eq_true rfl, Nat.le_of_ble_eq_true rfl⟩ (fun H locs hG => ?_)
  refine lv_aload_n hx hb dX0_takeFrom_57 rfl (lv_at hl 1 rfl) ?_
  obtain ⟨v58, e58, h⟩ := Option.bind_eq_some_iff.mp h
  refine g_getr hx hb hts inlX0 hown hK hG (by rfl) 6 (by decide) qF_X0_32 e58 dX0_takeFrom_58 ?_
  refine lv_aload_n hx hb dX0_takeFrom_61 rfl (lv_at hl 0 rfl) ?_
  obtain ⟨v62, e62, h⟩ := Option.bind_eq_some_iff.mp h
  refine g_getr hx hb hts inlX0 hown hK hG (by rfl) 6 (by decide) qF_X0_32 e62 dX0_takeFrom_62 ?_
  obtain ⟨G65, e65, h⟩ := Option.bind_eq_some_iff.mp h
  refine g_cNv (As := [.ref v58, .ref v62]) (rest := []) (n := 2) hx hb hml hown hts hK hlo hG (m_X9_copy l dd cT lo G54 v58 v62 e65) (List.mem_of_getElem? (i := 8) rfl) qT_yX9_copy qN_X9 qC_yX9_copy (by decide +kernel) ⟨Nat.le_of_ble_eq_true rfl, Nat.le_of_ble_eq_true rfl⟩ rfl hl.1 rfl (Nat.le_of_ble_eq_true rfl) dX0_takeFrom_65 ⟨Nat.le_of_ble_eq_true rfl, Nat.le_of_ble_eq_true rfl⟩ (fun H locs hG => ?_)
  refine lv_aload_n hx hb dX0_takeFrom_68 rfl (lv_at hl 1 rfl) ?_
  obtain ⟨v69, e69, h⟩ := Option.bind_eq_some_iff.mp h
  refine g_getr hx hb hts inlX0 hown hK hG (by rfl) 7 (by decide) qF_X0_35 e69 dX0_takeFrom_69 ?_
  refine lv_aload_n hx hb dX0_takeFrom_72 rfl (lv_at hl 0 rfl) ?_
  obtain ⟨v73, e73, h⟩ := Option.bind_eq_some_iff.mp h
  refine g_getr hx hb hts inlX0 hown hK hG (by rfl) 7 (by decide) qF_X0_35 e73 dX0_takeFrom_73 ?_
  obtain ⟨G76, e76, h⟩ := Option.bind_eq_some_iff.mp h
  refine g_cNv (As := [.ref v69, .ref v73]) (rest := []) (n := 2) hx hb hml hown hts hK hlo hG (m_X9_copy l dd cT lo G65 v69 v73 e76) (List.mem_of_getElem? (i := 8) rfl) qT_yX9_copy qN_X9 qC_yX9_copy (by decide +kernel) ⟨Nat.le_of_ble_eq_true rfl, Nat.le_of_ble_eq_true rfl⟩ rfl hl.1 rfl (Nat.le_of_ble_eq_true rfl) dX0_takeFrom_76 ⟨Nat.le_of_ble_eq_true rfl, Nat.le_of_ble_eq_true rfl⟩ (fun H locs hG => ?_)
  refine lv_aload_n hx hb dX0_takeFrom_79 rfl (lv_at hl 1 rfl) ?_
  obtain ⟨v80, e80, h⟩ := Option.bind_eq_some_iff.mp h
  refine g_getr hx hb hts inlX0 hown hK hG (by rfl) 8 (by decide) qF_X0_38 e80 dX0_takeFrom_80 ?_
  refine lv_aload_n hx hb dX0_takeFrom_83 rfl (lv_at hl 0 rfl) ?_
  obtain ⟨v84, e84, h⟩ := Option.bind_eq_some_iff.mp h
  refine g_getr hx hb hts inlX0 hown hK hG (by rfl) 8 (by decide) qF_X0_38 e84 dX0_takeFrom_84 ?_
  obtain ⟨G87, e87, h⟩ := Option.bind_eq_some_iff.mp h
  refine g_cNv (As := [.ref v80, .ref v84]) (rest := []) (n := 2) hx hb hml hown hts hK hlo hG (m_X9_copy l dd cT lo G76 v80 v84 e87) (List.mem_of_getElem? (i := 8) rfl) qT_yX9_copy qN_X9 qC_yX9_copy (by decide +kernel) ⟨Nat.le_of_ble_eq_true rfl, Nat.le_of_ble_eq_true rfl⟩ rfl hl.1 rfl (Nat.le_of_ble_eq_true rfl) dX0_takeFrom_87 ⟨Nat.le_of_ble_eq_true rfl, Nat.le_of_ble_eq_true rfl⟩ (fun H locs hG => ?_)
  refine lv_aload_n hx hb dX0_takeFrom_90 rfl (lv_at hl 1 rfl) ?_
  obtain ⟨v91, e91, h⟩ := Option.bind_eq_some_iff.mp h
  refine g_getr hx hb hts inlX0 hown hK hG (by rfl) 9 (by decide) qF_X0_41 e91 dX0_takeFrom_91 ?_
  refine lv_aload_n hx hb dX0_takeFrom_94 rfl (lv_at hl 0 rfl) ?_
  obtain ⟨v95, e95, h⟩ := Option.bind_eq_some_iff.mp h
  refine g_getr hx hb hts inlX0 hown hK hG (by rfl) 9 (by decide) qF_X0_41 e95 dX0_takeFrom_95 ?_
  obtain ⟨G98, e98, h⟩ := Option.bind_eq_some_iff.mp h
  refine g_cNv (As := [.ref v91, .ref v95]) (rest := []) (n := 2) hx hb hml hown hts hK hlo hG (m_X9_copy l dd cT lo G87 v91 v95 e98) (List.mem_of_getElem? (i := 8) rfl) qT_yX9_copy qN_X9 qC_yX9_copy (by decide +kernel) ⟨Nat.le_of_ble_eq_true rfl, Nat.le_of_ble_eq_true rfl⟩ rfl hl.1 rfl (Nat.le_of_ble_eq_true rfl) dX0_takeFrom_98 ⟨Nat.le_of_ble_eq_true rfl, Nat.le_of_ble_eq_true rfl⟩ (fun H locs hG => ?_)
  refine lv_aload_n hx hb dX0_takeFrom_101 rfl (lv_at hl 1 rfl) ?_
  obtain ⟨v102, e102, h⟩ := Option.bind_eq_some_iff.mp h
  refine g_getr hx hb hts inlX0 hown hK hG (by rfl) 10 (by decide) qF_X0_44 e102 dX0_takeFrom_102 ?_
  refine lv_aload_n hx hb dX0_takeFrom_105 rfl (lv_at hl 0 rfl) ?_
  obtain ⟨v106, e106, h⟩ := Option.bind_eq_some_iff.mp h
  refine g_getr hx hb hts inlX0 hown hK hG (by rfl) 10 (by decide) qF_X0_44 e106 dX0_takeFrom_106 ?_
  obtain ⟨G109, e109, h⟩ := Option.bind_eq_some_iff.mp h
  refine g_cNv (As := [.ref v102, .ref v106]) (rest := []) (n := 2) hx hb hml hown hts hK hlo hG (m_X9_copy l dd cT lo G98 v102 v106 e109) (List.mem_of_getElem? (i := 8) rfl) qT_yX9_copy qN_X9 qC_yX9_copy (by decide +kernel) ⟨Nat.le_of_ble_eq_true rfl, Nat.le_of_ble_eq_true rfl⟩ rfl hl.1 rfl (Nat.le_of_ble_eq_true rfl) dX0_takeFrom_109 ⟨Nat.le_of_ble_eq_true rfl, Nat.le_of_ble_eq_true rfl⟩ (fun H locs hG => ?_)
  obtain rfl := Option.some.inj h
  exact g_vret hx hb hr hlocks hK hlo hG rfl dX0_takeFrom_112
def f_X0_kindOf (G : gH) (a0 : Nat) (x1 : Int32) : Option Int32 :=
    (g_r G a0 0 3).bind fun v1 =>
    (f_X9_at G v1 x1 (0 : Int32)).bind fun v6 =>
    some v6
set_option maxRecDepth 20000 in
set_option maxHeartbeats 4000000 in
theorem m_X0_kindOf (l : Launch) (dd : va_G) (cT : Nat → ClassId) (lo : Nat) (G : gH) (a0 : Nat) (x1 : Int32) {rz : Int32} (h : f_X0_kindOf G a0 x1 = some rz) : Met l yX0_kindOf (Cond.code yX0_kindOf cX0_kindOf 2 (some .int) :: wsL_law) (g_rm 1 22 0 0) (va_Pc [.ref a0, .int x1] (g_Pre lo dd cT G)) (va_Qi (g_is rz G) (g_Pre lo dd cT) (g_A lo)) 0 0 (g_A lo) := by
  refine g_start RX0 rfl (by decide) (Nat.le_of_ble_eq_true rfl) ?_
  intro p e s m below meth c hx hb hr hlocks hml hown hnm hts hK hG hlo ls hl
  have hl : lv_has ls 2 [(0, .ref a0), (1, .int x1)] := hl
  have hG : g_S lo dd cT s s.heap [] G := hG
  unfold f_X0_kindOf at h
  refine lv_aload_n hx hb dX0_kindOf_0 rfl (lv_at hl 0 rfl) ?_
  obtain ⟨v1, e1, h⟩ := Option.bind_eq_some_iff.mp h
  refine g_getr hx hb hts inlX0 hown hK hG (by rfl) 3 (by decide) qF_X0_21 e1 dX0_kindOf_1 ?_
  refine lv_iload_n hx hb dX0_kindOf_4 rfl (lv_at hl 1 rfl) ?_
  refine lv_iconst (v := (0 : Int32)) hx hb dX0_kindOf_5 (by decide) ?_
  obtain ⟨v6, e6, h⟩ := Option.bind_eq_some_iff.mp h
  refine g_cNi (As := [.ref v1, .int x1, .int (0 : Int32)]) (rest := []) (n := 3) hx hb hml hown hts hK hlo hG (m_X9_at l dd cT lo G v1 x1 (0 : Int32) e6) (List.mem_of_getElem? (i := 10) rfl) qT_yX9_at qN_X9 qC_yX9_at (by decide +kernel) ⟨Nat.le_of_ble_eq_true rfl, Nat.le_of_ble_eq_true rfl⟩ rfl hl.1 rfl (Nat.le_of_ble_eq_true rfl) dX0_kindOf_6 ⟨Nat.le_of_ble_eq_true rfl, Nat.le_of_ble_eq_true rfl⟩ (fun H locs hG => ?_)
  obtain rfl := Option.some.inj h
  exact g_iret hx hb hr hlocks hK hlo hG ⟨rfl, rfl⟩ dX0_kindOf_9
def f_X0_writerOf (G : gH) (a0 : Nat) (x1 : Int32) : Option Int32 :=
    (g_r G a0 0 6).bind fun v1 =>
    (f_X9_at G v1 x1 (-1 : Int32)).bind fun v6 =>
    some v6
set_option maxRecDepth 20000 in
set_option maxHeartbeats 4000000 in
theorem m_X0_writerOf (l : Launch) (dd : va_G) (cT : Nat → ClassId) (lo : Nat) (G : gH) (a0 : Nat) (x1 : Int32) {rz : Int32} (h : f_X0_writerOf G a0 x1 = some rz) : Met l yX0_writerOf (Cond.code yX0_writerOf cX0_writerOf 2 (some .int) :: wsL_law) (g_rm 1 22 0 0) (va_Pc [.ref a0, .int x1] (g_Pre lo dd cT G)) (va_Qi (g_is rz G) (g_Pre lo dd cT) (g_A lo)) 0 0 (g_A lo) := by
  refine g_start RX0 rfl (by decide) (Nat.le_of_ble_eq_true rfl) ?_
  intro p e s m below meth c hx hb hr hlocks hml hown hnm hts hK hG hlo ls hl
  have hl : lv_has ls 2 [(0, .ref a0), (1, .int x1)] := hl
  have hG : g_S lo dd cT s s.heap [] G := hG
  unfold f_X0_writerOf at h
  refine lv_aload_n hx hb dX0_writerOf_0 rfl (lv_at hl 0 rfl) ?_
  obtain ⟨v1, e1, h⟩ := Option.bind_eq_some_iff.mp h
  refine g_getr hx hb hts inlX0 hown hK hG (by rfl) 6 (by decide) qF_X0_32 e1 dX0_writerOf_1 ?_
  refine lv_iload_n hx hb dX0_writerOf_4 rfl (lv_at hl 1 rfl) ?_
  refine lv_iconst (v := (-1 : Int32)) hx hb dX0_writerOf_5 (by decide) ?_
  obtain ⟨v6, e6, h⟩ := Option.bind_eq_some_iff.mp h
  refine g_cNi (As := [.ref v1, .int x1, .int (-1 : Int32)]) (rest := []) (n := 3) hx hb hml hown hts hK hlo hG (m_X9_at l dd cT lo G v1 x1 (-1 : Int32) e6) (List.mem_of_getElem? (i := 10) rfl) qT_yX9_at qN_X9 qC_yX9_at (by decide +kernel) ⟨Nat.le_of_ble_eq_true rfl, Nat.le_of_ble_eq_true rfl⟩ rfl hl.1 rfl (Nat.le_of_ble_eq_true rfl) dX0_writerOf_6 ⟨Nat.le_of_ble_eq_true rfl, Nat.le_of_ble_eq_true rfl⟩ (fun H locs hG => ?_)
  obtain rfl := Option.some.inj h
  exact g_iret hx hb hr hlocks hK hlo hG ⟨rfl, rfl⟩ dX0_writerOf_9
def f_X0_dataVersionOf (G : gH) (a0 : Nat) (x1 : Int32) : Option Int32 :=
    (g_r G a0 0 7).bind fun v1 =>
    (f_X9_at G v1 x1 (-1 : Int32)).bind fun v6 =>
    some v6
set_option maxRecDepth 20000 in
set_option maxHeartbeats 4000000 in
theorem m_X0_dataVersionOf (l : Launch) (dd : va_G) (cT : Nat → ClassId) (lo : Nat) (G : gH) (a0 : Nat) (x1 : Int32) {rz : Int32} (h : f_X0_dataVersionOf G a0 x1 = some rz) : Met l yX0_dataVersionOf (Cond.code yX0_dataVersionOf cX0_dataVersionOf 2 (some .int) :: wsL_law) (g_rm 1 22 0 0) (va_Pc [.ref a0, .int x1] (g_Pre lo dd cT G)) (va_Qi (g_is rz G) (g_Pre lo dd cT) (g_A lo)) 0 0 (g_A lo) := by
  refine g_start RX0 rfl (by decide) (Nat.le_of_ble_eq_true rfl) ?_
  intro p e s m below meth c hx hb hr hlocks hml hown hnm hts hK hG hlo ls hl
  have hl : lv_has ls 2 [(0, .ref a0), (1, .int x1)] := hl
  have hG : g_S lo dd cT s s.heap [] G := hG
  unfold f_X0_dataVersionOf at h
  refine lv_aload_n hx hb dX0_dataVersionOf_0 rfl (lv_at hl 0 rfl) ?_
  obtain ⟨v1, e1, h⟩ := Option.bind_eq_some_iff.mp h
  refine g_getr hx hb hts inlX0 hown hK hG (by rfl) 7 (by decide) qF_X0_35 e1 dX0_dataVersionOf_1 ?_
  refine lv_iload_n hx hb dX0_dataVersionOf_4 rfl (lv_at hl 1 rfl) ?_
  refine lv_iconst (v := (-1 : Int32)) hx hb dX0_dataVersionOf_5 (by decide) ?_
  obtain ⟨v6, e6, h⟩ := Option.bind_eq_some_iff.mp h
  refine g_cNi (As := [.ref v1, .int x1, .int (-1 : Int32)]) (rest := []) (n := 3) hx hb hml hown hts hK hlo hG (m_X9_at l dd cT lo G v1 x1 (-1 : Int32) e6) (List.mem_of_getElem? (i := 10) rfl) qT_yX9_at qN_X9 qC_yX9_at (by decide +kernel) ⟨Nat.le_of_ble_eq_true rfl, Nat.le_of_ble_eq_true rfl⟩ rfl hl.1 rfl (Nat.le_of_ble_eq_true rfl) dX0_dataVersionOf_6 ⟨Nat.le_of_ble_eq_true rfl, Nat.le_of_ble_eq_true rfl⟩ (fun H locs hG => ?_)
  obtain rfl := Option.some.inj h
  exact g_iret hx hb hr hlocks hK hlo hG ⟨rfl, rfl⟩ dX0_dataVersionOf_9
def f_X0_placeOf (G : gH) (a0 : Nat) (x1 : Int32) : Option Int32 :=
    (g_r G a0 0 10).bind fun v1 =>
    (f_X9_at G v1 x1 (-1 : Int32)).bind fun v6 =>
    some v6
set_option maxRecDepth 20000 in
set_option maxHeartbeats 4000000 in
theorem m_X0_placeOf (l : Launch) (dd : va_G) (cT : Nat → ClassId) (lo : Nat) (G : gH) (a0 : Nat) (x1 : Int32) {rz : Int32} (h : f_X0_placeOf G a0 x1 = some rz) : Met l yX0_placeOf (Cond.code yX0_placeOf cX0_placeOf 2 (some .int) :: wsL_law) (g_rm 1 22 0 0) (va_Pc [.ref a0, .int x1] (g_Pre lo dd cT G)) (va_Qi (g_is rz G) (g_Pre lo dd cT) (g_A lo)) 0 0 (g_A lo) := by
  refine g_start RX0 rfl (by decide) (Nat.le_of_ble_eq_true rfl) ?_
  intro p e s m below meth c hx hb hr hlocks hml hown hnm hts hK hG hlo ls hl
  have hl : lv_has ls 2 [(0, .ref a0), (1, .int x1)] := hl
  have hG : g_S lo dd cT s s.heap [] G := hG
  unfold f_X0_placeOf at h
  refine lv_aload_n hx hb dX0_placeOf_0 rfl (lv_at hl 0 rfl) ?_
  obtain ⟨v1, e1, h⟩ := Option.bind_eq_some_iff.mp h
  refine g_getr hx hb hts inlX0 hown hK hG (by rfl) 10 (by decide) qF_X0_44 e1 dX0_placeOf_1 ?_
  refine lv_iload_n hx hb dX0_placeOf_4 rfl (lv_at hl 1 rfl) ?_
  refine lv_iconst (v := (-1 : Int32)) hx hb dX0_placeOf_5 (by decide) ?_
  obtain ⟨v6, e6, h⟩ := Option.bind_eq_some_iff.mp h
  refine g_cNi (As := [.ref v1, .int x1, .int (-1 : Int32)]) (rest := []) (n := 3) hx hb hml hown hts hK hlo hG (m_X9_at l dd cT lo G v1 x1 (-1 : Int32) e6) (List.mem_of_getElem? (i := 10) rfl) qT_yX9_at qN_X9 qC_yX9_at (by decide +kernel) ⟨Nat.le_of_ble_eq_true rfl, Nat.le_of_ble_eq_true rfl⟩ rfl hl.1 rfl (Nat.le_of_ble_eq_true rfl) dX0_placeOf_6 ⟨Nat.le_of_ble_eq_true rfl, Nat.le_of_ble_eq_true rfl⟩ (fun H locs hG => ?_)
  obtain rfl := Option.some.inj h
  exact g_iret hx hb hr hlocks hK hlo hG ⟨rfl, rfl⟩ dX0_placeOf_9
def f_X0_isBad (G : gH) (a0 : Nat) (x1 : Int32) : Option Int32 :=
    (g_r G a0 0 4).bind fun v1 =>
    (f_X9_isSet G v1 x1).bind fun v5 =>
    g_z v5
set_option maxRecDepth 20000 in
set_option maxHeartbeats 4000000 in
theorem m_X0_isBad (l : Launch) (dd : va_G) (cT : Nat → ClassId) (lo : Nat) (G : gH) (a0 : Nat) (x1 : Int32) {rz : Int32} (h : f_X0_isBad G a0 x1 = some rz) : Met l yX0_isBad (Cond.code yX0_isBad cX0_isBad 2 (some .boolean) :: wsL_law) (g_rm 1 21 0 0) (va_Pc [.ref a0, .int x1] (g_Pre lo dd cT G)) (va_Qi (g_is rz G) (g_Pre lo dd cT) (g_A lo)) 0 0 (g_A lo) := by
  refine g_start RX0 rfl (by decide) (Nat.le_of_ble_eq_true rfl) ?_
  intro p e s m below meth c hx hb hr hlocks hml hown hnm hts hK hG hlo ls hl
  have hl : lv_has ls 2 [(0, .ref a0), (1, .int x1)] := hl
  have hG : g_S lo dd cT s s.heap [] G := hG
  unfold f_X0_isBad at h
  refine lv_aload_n hx hb dX0_isBad_0 rfl (lv_at hl 0 rfl) ?_
  obtain ⟨v1, e1, h⟩ := Option.bind_eq_some_iff.mp h
  refine g_getr hx hb hts inlX0 hown hK hG (by rfl) 4 (by decide) qF_X0_25 e1 dX0_isBad_1 ?_
  refine lv_iload_n hx hb dX0_isBad_4 rfl (lv_at hl 1 rfl) ?_
  obtain ⟨v5, e5, h⟩ := Option.bind_eq_some_iff.mp h
  refine g_cNi (As := [.ref v1, .int x1]) (rest := []) (n := 2) hx hb hml hown hts hK hlo hG (m_X9_isSet l dd cT lo G v1 x1 e5) (List.mem_of_getElem? (i := 11) rfl) qT_yX9_isSet qN_X9 qC_yX9_isSet (by decide +kernel) ⟨Nat.le_of_ble_eq_true rfl, Nat.le_of_ble_eq_true rfl⟩ rfl hl.1 rfl (Nat.le_of_ble_eq_true rfl) dX0_isBad_5 ⟨Nat.le_of_ble_eq_true rfl, Nat.le_of_ble_eq_true rfl⟩ (fun H locs hG => ?_)
  obtain ⟨n8, rfl⟩ := g_z_nar h
  exact g_zret hx hb hr hlocks hK hlo hG n8 ⟨rfl, rfl⟩ dX0_isBad_8
def f_X0_isUnreadable (G : gH) (a0 : Nat) (x1 : Int32) : Option Int32 :=
    (g_r G a0 0 5).bind fun v1 =>
    (f_X9_isSet G v1 x1).bind fun v5 =>
    g_z v5
set_option maxRecDepth 20000 in
set_option maxHeartbeats 4000000 in
theorem m_X0_isUnreadable (l : Launch) (dd : va_G) (cT : Nat → ClassId) (lo : Nat) (G : gH) (a0 : Nat) (x1 : Int32) {rz : Int32} (h : f_X0_isUnreadable G a0 x1 = some rz) : Met l yX0_isUnreadable (Cond.code yX0_isUnreadable cX0_isUnreadable 2 (some .boolean) :: wsL_law) (g_rm 1 21 0 0) (va_Pc [.ref a0, .int x1] (g_Pre lo dd cT G)) (va_Qi (g_is rz G) (g_Pre lo dd cT) (g_A lo)) 0 0 (g_A lo) := by
  refine g_start RX0 rfl (by decide) (Nat.le_of_ble_eq_true rfl) ?_
  intro p e s m below meth c hx hb hr hlocks hml hown hnm hts hK hG hlo ls hl
  have hl : lv_has ls 2 [(0, .ref a0), (1, .int x1)] := hl
  have hG : g_S lo dd cT s s.heap [] G := hG
  unfold f_X0_isUnreadable at h
  refine lv_aload_n hx hb dX0_isUnreadable_0 rfl (lv_at hl 0 rfl) ?_
  obtain ⟨v1, e1, h⟩ := Option.bind_eq_some_iff.mp h
  refine g_getr hx hb hts inlX0 hown hK hG (by rfl) 5 (by decide) qF_X0_29 e1 dX0_isUnreadable_1 ?_
  refine lv_iload_n hx hb dX0_isUnreadable_4 rfl (lv_at hl 1 rfl) ?_
  obtain ⟨v5, e5, h⟩ := Option.bind_eq_some_iff.mp h
  refine g_cNi (As := [.ref v1, .int x1]) (rest := []) (n := 2) hx hb hml hown hts hK hlo hG (m_X9_isSet l dd cT lo G v1 x1 e5) (List.mem_of_getElem? (i := 11) rfl) qT_yX9_isSet qN_X9 qC_yX9_isSet (by decide +kernel) ⟨Nat.le_of_ble_eq_true rfl, Nat.le_of_ble_eq_true rfl⟩ rfl hl.1 rfl (Nat.le_of_ble_eq_true rfl) dX0_isUnreadable_5 ⟨Nat.le_of_ble_eq_true rfl, Nat.le_of_ble_eq_true rfl⟩ (fun H locs hG => ?_)
  obtain ⟨n8, rfl⟩ := g_z_nar h
  exact g_zret hx hb hr hlocks hK hlo hG n8 ⟨rfl, rfl⟩ dX0_isUnreadable_8
def f_X0_property (G : gH) (a0 : Nat) (x1 : Int32) (x2 : Int32) : Option Int32 :=
    if x2 = (0 : Int32) then
    (g_ob G a0 0).bind fun u42 =>
    (f_X0_kindOf G a0 x1).bind fun v42 =>
    some v42
    else
    if x2 = (1 : Int32) then
    (g_ob G a0 0).bind fun u48 =>
    (f_X0_isBad G a0 x1).bind fun v48 =>
    (f_X9_oneIf G v48).bind fun v51 =>
    some v51
    else
    if x2 = (2 : Int32) then
    (g_ob G a0 0).bind fun u57 =>
    (f_X0_isUnreadable G a0 x1).bind fun v57 =>
    (f_X9_oneIf G v57).bind fun v60 =>
    some v60
    else
    if x2 = (3 : Int32) then
    (g_ob G a0 0).bind fun u66 =>
    (f_X0_writerOf G a0 x1).bind fun v66 =>
    some v66
    else
    if x2 = (4 : Int32) then
    (g_ob G a0 0).bind fun u72 =>
    (f_X0_dataVersionOf G a0 x1).bind fun v72 =>
    some v72
    else
    if x2 = (5 : Int32) then
    (g_r G a0 0 8).bind fun v77 =>
    (f_X9_at G v77 x1 (-1 : Int32)).bind fun v82 =>
    some v82
    else
    (g_r G a0 0 9).bind fun v87 =>
    (f_X9_at G v87 x1 (-1 : Int32)).bind fun v92 =>
    some v92
set_option maxRecDepth 20000 in
set_option maxHeartbeats 4000000 in
theorem m_X0_property (l : Launch) (dd : va_G) (cT : Nat → ClassId) (lo : Nat) (G : gH) (a0 : Nat) (x1 : Int32) (x2 : Int32) {rz : Int32} (h : f_X0_property G a0 x1 x2 = some rz) : Met l yX0_property (Cond.code yX0_property cX0_property 3 (some .int) :: wsL_law) (g_rm 2 43 0 0) (va_Pc [.ref a0, .int x1, .int x2] (g_Pre lo dd cT G)) (va_Qi (g_is rz G) (g_Pre lo dd cT) (g_A lo)) 0 0 (g_A lo) := by
  refine g_start RX0 rfl (by decide) (Nat.le_of_ble_eq_true rfl) ?_
  intro p e s m below meth c hx hb hr hlocks hml hown hnm hts hK hG hlo ls hl
  have hl : lv_has ls 3 [(0, .ref a0), (1, .int x1), (2, .int x2)] := hl
  have hG : g_S lo dd cT s s.heap [] G := hG
  unfold f_X0_property at h
  refine lv_iload_n hx hb dX0_property_0 rfl (lv_at hl 2 rfl) ?_
  by_cases c1_0 : x2 = (0 : Int32)
  · rw [if_pos c1_0] at h
    refine g_swIn (tgt := 40) hx hb dX0_property_1 (0 : Int32) c1_0 (by decide) (by decide) 39 (by decide) (by decide) ?_
    refine lv_aload_n hx hb dX0_property_40 rfl (lv_at hl 0 rfl) ?_
    refine lv_iload_n hx hb dX0_property_41 rfl (lv_at hl 1 rfl) ?_
    obtain ⟨u42, i42, h⟩ := Option.bind_eq_some_iff.mp h
    obtain ⟨v42, e42, h⟩ := Option.bind_eq_some_iff.mp h
    refine g_cVi (As := [.int x1]) (rest := []) (n := 1) hx hb hml hown hts hK hlo hG (m_X0_kindOf l dd cT lo G a0 x1 e42) qM_X0_69 qI_yX0_kindOf qS_X0_yX0_kindOf qN_X0 qC_yX0_kindOf (by decide +kernel) ⟨Nat.le_of_ble_eq_true rfl, Nat.le_of_ble_eq_true rfl⟩ (by rfl) i42 rfl hl.1 rfl (Nat.le_of_ble_eq_true rfl) dX0_property_42 ⟨Nat.le_of_ble_eq_true rfl, Nat.le_of_ble_eq_true rfl⟩ (fun H locs hG => ?_)
    obtain rfl := Option.some.inj h
    exact g_iret hx hb hr hlocks hK hlo hG ⟨rfl, rfl⟩ dX0_property_45
  rw [if_neg c1_0] at h
  by_cases c1_1 : x2 = (1 : Int32)
  · rw [if_pos c1_1] at h
    refine g_swIn (tgt := 46) hx hb dX0_property_1 (1 : Int32) c1_1 (by decide) (by decide) 45 (by decide) (by decide) ?_
    refine lv_aload_n hx hb dX0_property_46 rfl (lv_at hl 0 rfl) ?_
    refine lv_iload_n hx hb dX0_property_47 rfl (lv_at hl 1 rfl) ?_
    obtain ⟨u48, i48, h⟩ := Option.bind_eq_some_iff.mp h
    obtain ⟨v48, e48, h⟩ := Option.bind_eq_some_iff.mp h
    refine g_cVi (As := [.int x1]) (rest := []) (n := 1) hx hb hml hown hts hK hlo hG (m_X0_isBad l dd cT lo G a0 x1 e48) qM_X0_73 qI_yX0_isBad qS_X0_yX0_isBad qN_X0 qC_yX0_isBad (by decide +kernel) ⟨Nat.le_of_ble_eq_true rfl, Nat.le_of_ble_eq_true rfl⟩ (by rfl) i48 rfl hl.1 rfl (Nat.le_of_ble_eq_true rfl) dX0_property_48 ⟨Nat.le_of_ble_eq_true rfl, Nat.le_of_ble_eq_true rfl⟩ (fun H locs hG => ?_)
    obtain ⟨v51, e51, h⟩ := Option.bind_eq_some_iff.mp h
    refine g_cNi (As := [.int v48]) (rest := []) (n := 1) hx hb hml hown hts hK hlo hG (m_X9_oneIf l dd cT lo G v48 e51) (List.mem_of_getElem? (i := 12) rfl) qT_yX9_oneIf qN_X9 qC_yX9_oneIf (by decide +kernel) ⟨Nat.le_of_ble_eq_true rfl, Nat.le_of_ble_eq_true rfl⟩ rfl hl.1 rfl (Nat.le_of_ble_eq_true rfl) dX0_property_51 ⟨Nat.le_of_ble_eq_true rfl, Nat.le_of_ble_eq_true rfl⟩ (fun H locs hG => ?_)
    obtain rfl := Option.some.inj h
    exact g_iret hx hb hr hlocks hK hlo hG ⟨rfl, rfl⟩ dX0_property_54
  rw [if_neg c1_1] at h
  by_cases c1_2 : x2 = (2 : Int32)
  · rw [if_pos c1_2] at h
    refine g_swIn (tgt := 55) hx hb dX0_property_1 (2 : Int32) c1_2 (by decide) (by decide) 54 (by decide) (by decide) ?_
    refine lv_aload_n hx hb dX0_property_55 rfl (lv_at hl 0 rfl) ?_
    refine lv_iload_n hx hb dX0_property_56 rfl (lv_at hl 1 rfl) ?_
    obtain ⟨u57, i57, h⟩ := Option.bind_eq_some_iff.mp h
    obtain ⟨v57, e57, h⟩ := Option.bind_eq_some_iff.mp h
    refine g_cVi (As := [.int x1]) (rest := []) (n := 1) hx hb hml hown hts hK hlo hG (m_X0_isUnreadable l dd cT lo G a0 x1 e57) qM_X0_81 qI_yX0_isUnreadable qS_X0_yX0_isUnreadable qN_X0 qC_yX0_isUnreadable (by decide +kernel) ⟨Nat.le_of_ble_eq_true rfl, Nat.le_of_ble_eq_true rfl⟩ (by rfl) i57 rfl hl.1 rfl (Nat.le_of_ble_eq_true rfl) dX0_property_57 ⟨Nat.le_of_ble_eq_true rfl, Nat.le_of_ble_eq_true rfl⟩ (fun H locs hG => ?_)
    obtain ⟨v60, e60, h⟩ := Option.bind_eq_some_iff.mp h
    refine g_cNi (As := [.int v57]) (rest := []) (n := 1) hx hb hml hown hts hK hlo hG (m_X9_oneIf l dd cT lo G v57 e60) (List.mem_of_getElem? (i := 12) rfl) qT_yX9_oneIf qN_X9 qC_yX9_oneIf (by decide +kernel) ⟨Nat.le_of_ble_eq_true rfl, Nat.le_of_ble_eq_true rfl⟩ rfl hl.1 rfl (Nat.le_of_ble_eq_true rfl) dX0_property_60 ⟨Nat.le_of_ble_eq_true rfl, Nat.le_of_ble_eq_true rfl⟩ (fun H locs hG => ?_)
    obtain rfl := Option.some.inj h
    exact g_iret hx hb hr hlocks hK hlo hG ⟨rfl, rfl⟩ dX0_property_63
  rw [if_neg c1_2] at h
  by_cases c1_3 : x2 = (3 : Int32)
  · rw [if_pos c1_3] at h
    refine g_swIn (tgt := 64) hx hb dX0_property_1 (3 : Int32) c1_3 (by decide) (by decide) 63 (by decide) (by decide) ?_
    refine lv_aload_n hx hb dX0_property_64 rfl (lv_at hl 0 rfl) ?_
    refine lv_iload_n hx hb dX0_property_65 rfl (lv_at hl 1 rfl) ?_
    obtain ⟨u66, i66, h⟩ := Option.bind_eq_some_iff.mp h
    obtain ⟨v66, e66, h⟩ := Option.bind_eq_some_iff.mp h
    refine g_cVi (As := [.int x1]) (rest := []) (n := 1) hx hb hml hown hts hK hlo hG (m_X0_writerOf l dd cT lo G a0 x1 e66) qM_X0_84 qI_yX0_writerOf qS_X0_yX0_writerOf qN_X0 qC_yX0_writerOf (by decide +kernel) ⟨Nat.le_of_ble_eq_true rfl, Nat.le_of_ble_eq_true rfl⟩ (by rfl) i66 rfl hl.1 rfl (Nat.le_of_ble_eq_true rfl) dX0_property_66 ⟨Nat.le_of_ble_eq_true rfl, Nat.le_of_ble_eq_true rfl⟩ (fun H locs hG => ?_)
    obtain rfl := Option.some.inj h
    exact g_iret hx hb hr hlocks hK hlo hG ⟨rfl, rfl⟩ dX0_property_69
  rw [if_neg c1_3] at h
  by_cases c1_4 : x2 = (4 : Int32)
  · rw [if_pos c1_4] at h
    refine g_swIn (tgt := 70) hx hb dX0_property_1 (4 : Int32) c1_4 (by decide) (by decide) 69 (by decide) (by decide) ?_
    refine lv_aload_n hx hb dX0_property_70 rfl (lv_at hl 0 rfl) ?_
    refine lv_iload_n hx hb dX0_property_71 rfl (lv_at hl 1 rfl) ?_
    obtain ⟨u72, i72, h⟩ := Option.bind_eq_some_iff.mp h
    obtain ⟨v72, e72, h⟩ := Option.bind_eq_some_iff.mp h
    refine g_cVi (As := [.int x1]) (rest := []) (n := 1) hx hb hml hown hts hK hlo hG (m_X0_dataVersionOf l dd cT lo G a0 x1 e72) qM_X0_87 qI_yX0_dataVersionOf qS_X0_yX0_dataVersionOf qN_X0 qC_yX0_dataVersionOf (by decide +kernel) ⟨Nat.le_of_ble_eq_true rfl, Nat.le_of_ble_eq_true rfl⟩ (by rfl) i72 rfl hl.1 rfl (Nat.le_of_ble_eq_true rfl) dX0_property_72 ⟨Nat.le_of_ble_eq_true rfl, Nat.le_of_ble_eq_true rfl⟩ (fun H locs hG => ?_)
    obtain rfl := Option.some.inj h
    exact g_iret hx hb hr hlocks hK hlo hG ⟨rfl, rfl⟩ dX0_property_75
  rw [if_neg c1_4] at h
  by_cases c1_5 : x2 = (5 : Int32)
  · rw [if_pos c1_5] at h
    refine g_swIn (tgt := 76) hx hb dX0_property_1 (5 : Int32) c1_5 (by decide) (by decide) 75 (by decide) (by decide) ?_
    refine lv_aload_n hx hb dX0_property_76 rfl (lv_at hl 0 rfl) ?_
    obtain ⟨v77, e77, h⟩ := Option.bind_eq_some_iff.mp h
    refine g_getr hx hb hts inlX0 hown hK hG (by rfl) 8 (by decide) qF_X0_38 e77 dX0_property_77 ?_
    refine lv_iload_n hx hb dX0_property_80 rfl (lv_at hl 1 rfl) ?_
    refine lv_iconst (v := (-1 : Int32)) hx hb dX0_property_81 (by decide) ?_
    obtain ⟨v82, e82, h⟩ := Option.bind_eq_some_iff.mp h
    refine g_cNi (As := [.ref v77, .int x1, .int (-1 : Int32)]) (rest := []) (n := 3) hx hb hml hown hts hK hlo hG (m_X9_at l dd cT lo G v77 x1 (-1 : Int32) e82) (List.mem_of_getElem? (i := 10) rfl) qT_yX9_at qN_X9 qC_yX9_at (by decide +kernel) ⟨Nat.le_of_ble_eq_true rfl, Nat.le_of_ble_eq_true rfl⟩ rfl hl.1 rfl (Nat.le_of_ble_eq_true rfl) dX0_property_82 ⟨Nat.le_of_ble_eq_true rfl, Nat.le_of_ble_eq_true rfl⟩ (fun H locs hG => ?_)
    obtain rfl := Option.some.inj h
    exact g_iret hx hb hr hlocks hK hlo hG ⟨rfl, rfl⟩ dX0_property_85
  rw [if_neg c1_5] at h
  have z1 : x2.toInt < 0 ∨ 5 < x2.toInt := by
    have y0 : ¬ x2.toInt = 0 := fun w => c1_0 (Int32.toInt_inj.mp (by rw [w]; rfl))
    have y1 : ¬ x2.toInt = 1 := fun w => c1_1 (Int32.toInt_inj.mp (by rw [w]; rfl))
    have y2 : ¬ x2.toInt = 2 := fun w => c1_2 (Int32.toInt_inj.mp (by rw [w]; rfl))
    have y3 : ¬ x2.toInt = 3 := fun w => c1_3 (Int32.toInt_inj.mp (by rw [w]; rfl))
    have y4 : ¬ x2.toInt = 4 := fun w => c1_4 (Int32.toInt_inj.mp (by rw [w]; rfl))
    have y5 : ¬ x2.toInt = 5 := fun w => c1_5 (Int32.toInt_inj.mp (by rw [w]; rfl))
    omega
  refine lv_tableOut (tgt := 86) hx hb dX0_property_1 z1 (by decide) ?_
  refine lv_aload_n hx hb dX0_property_86 rfl (lv_at hl 0 rfl) ?_
  obtain ⟨v87, e87, h⟩ := Option.bind_eq_some_iff.mp h
  refine g_getr hx hb hts inlX0 hown hK hG (by rfl) 9 (by decide) qF_X0_41 e87 dX0_property_87 ?_
  refine lv_iload_n hx hb dX0_property_90 rfl (lv_at hl 1 rfl) ?_
  refine lv_iconst (v := (-1 : Int32)) hx hb dX0_property_91 (by decide) ?_
  obtain ⟨v92, e92, h⟩ := Option.bind_eq_some_iff.mp h
  refine g_cNi (As := [.ref v87, .int x1, .int (-1 : Int32)]) (rest := []) (n := 3) hx hb hml hown hts hK hlo hG (m_X9_at l dd cT lo G v87 x1 (-1 : Int32) e92) (List.mem_of_getElem? (i := 10) rfl) qT_yX9_at qN_X9 qC_yX9_at (by decide +kernel) ⟨Nat.le_of_ble_eq_true rfl, Nat.le_of_ble_eq_true rfl⟩ rfl hl.1 rfl (Nat.le_of_ble_eq_true rfl) dX0_property_92 ⟨Nat.le_of_ble_eq_true rfl, Nat.le_of_ble_eq_true rfl⟩ (fun H locs hG => ?_)
  obtain rfl := Option.some.inj h
  exact g_iret hx hb hr hlocks hK hlo hG ⟨rfl, rfl⟩ dX0_property_95
def f_X0_emptySpares_L7 (G : gH) : Nat → Nat → Int32 → Int32 → Option Int32
  | 0, _, _, _ => none
  | n + 1, ba0, bx1, bx2 =>
    (g_i G ba0 0 0).bind fun v9 =>
    if v9 ≤ bx2 then
    some bx1
    else
    (g_ob G ba0 0).bind fun u18 =>
    (f_X0_kindOf G ba0 bx2).bind fun v18 =>
    if v18 = 0 then
    (f_X9_oneIf G (1 : Int32)).bind fun v29 =>
    f_X0_emptySpares_L7 G n ba0 (bx1 + v29) (bx2 + (1 : Int32))
    else
    (f_X9_oneIf G (0 : Int32)).bind fun v29 =>
    f_X0_emptySpares_L7 G n ba0 (bx1 + v29) (bx2 + (1 : Int32))
def f_X0_emptySpares (G : gH) (a0 : Nat) : Option Int32 :=
    (g_i G a0 0 1).bind fun v3 =>
    f_X0_emptySpares_L7 G g_N a0 (0 : Int32) v3
set_option maxRecDepth 20000 in
set_option maxHeartbeats 4000000 in
theorem m_X0_emptySpares (l : Launch) (dd : va_G) (cT : Nat → ClassId) (lo : Nat) (G : gH) (a0 : Nat) {rz : Int32} (h : f_X0_emptySpares G a0 = some rz) : Met l yX0_emptySpares (Cond.code yX0_emptySpares cX0_emptySpares 3 (some .int) :: wsL_law) (g_rm 2 43 0 0) (va_Pc [.ref a0] (g_Pre lo dd cT G)) (va_Qi (g_is rz G) (g_Pre lo dd cT) (g_A lo)) 0 0 (g_A lo) := by
  refine g_start RX0 rfl (by decide) (Nat.le_of_ble_eq_true rfl) ?_
  intro p e s m below meth c hx hb hr hlocks hml hown hnm hts hK hG hlo ls hl
  have hl : lv_has ls 3 [(0, .ref a0)] := hl
  have hG : g_S lo dd cT s s.heap [] G := hG
  have h7 : ∀ n : Nat, ∀ (ba0 : Nat) (bx1 : Int32) (bx2 : Int32), ∀ (H : Heap) (locs : List Loc), g_S lo dd cT s H locs G → ∀ ls : Array Slot, lv_has ls 3 [(0, .ref ba0), (1, .int bx1), (2, .int bx2)] → f_X0_emptySpares_L7 G n ba0 bx1 bx2 = some rz → W p l e (g_rm 2 43 0 0) s m ([.ref a0] : List Value).toArray below meth c H locs 0 0 (MQ below (va_Qi (g_is rz G) (g_Pre lo dd cT) (g_A lo)) ([.ref a0] : List Value).toArray s 0 0 (g_A lo)) (F0 m 7 ls []) := by
    intro n
    induction n with
    | zero =>
      intro ba0 bx1 bx2 H locs hG ls hl h
      cases (show (none : Option Int32) = some rz from h)
    | succ n ih =>
      intro ba0 bx1 bx2 H locs hG ls hl h
      rw [f_X0_emptySpares_L7] at h
      refine lv_iload_n hx hb dX0_emptySpares_7 rfl (lv_at hl 2 rfl) ?_
      refine lv_aload_n hx hb dX0_emptySpares_8 rfl (lv_at hl 0 rfl) ?_
      obtain ⟨v9, e9, h⟩ := Option.bind_eq_some_iff.mp h
      refine g_geti hx hb hts inlX0 hown hK hG (by rfl) 0 (by decide) qF_X0_9 e9 dX0_emptySpares_9 ?_
      refine lv_icmp_ge (tgt := 40) hx hb dX0_emptySpares_12 (by decide) (fun c12 => ?_) (fun c12 => ?_)
      · rw [if_pos c12] at h
        refine lv_iload_n hx hb dX0_emptySpares_40 rfl (lv_at hl 1 rfl) ?_
        obtain rfl := Option.some.inj h
        exact g_iret hx hb hr hlocks hK hlo hG ⟨rfl, rfl⟩ dX0_emptySpares_41
      · rw [if_neg c12] at h
        refine lv_iload_n hx hb dX0_emptySpares_15 rfl (lv_at hl 1 rfl) ?_
        refine lv_aload_n hx hb dX0_emptySpares_16 rfl (lv_at hl 0 rfl) ?_
        refine lv_iload_n hx hb dX0_emptySpares_17 rfl (lv_at hl 2 rfl) ?_
        obtain ⟨u18, i18, h⟩ := Option.bind_eq_some_iff.mp h
        obtain ⟨v18, e18, h⟩ := Option.bind_eq_some_iff.mp h
        refine g_cVi (As := [.int bx2]) (rest := [.int bx1]) (n := 1) hx hb hml hown hts hK hlo hG (m_X0_kindOf l dd cT lo G ba0 bx2 e18) qM_X0_69 qI_yX0_kindOf qS_X0_yX0_kindOf qN_X0 qC_yX0_kindOf (by decide +kernel) ⟨Nat.le_of_ble_eq_true rfl, Nat.le_of_ble_eq_true rfl⟩ (by rfl) i18 rfl hl.1 rfl (Nat.le_of_ble_eq_true rfl) dX0_emptySpares_18 ⟨Nat.le_of_ble_eq_true rfl, Nat.le_of_ble_eq_true rfl⟩ (fun H locs hG => ?_)
        refine lv_if_ne (tgt := 28) hx hb dX0_emptySpares_21 (by decide) (fun c21 => ?_) (fun c21 => ?_)
        · rw [if_neg c21] at h
          refine lv_iconst (v := (0 : Int32)) hx hb dX0_emptySpares_28 (by decide) ?_
          obtain ⟨v29, e29, h⟩ := Option.bind_eq_some_iff.mp h
          refine g_cNi (As := [.int (0 : Int32)]) (rest := [.int bx1]) (n := 1) hx hb hml hown hts hK hlo hG (m_X9_oneIf l dd cT lo G (0 : Int32) e29) (List.mem_of_getElem? (i := 12) rfl) qT_yX9_oneIf qN_X9 qC_yX9_oneIf (by decide +kernel) ⟨Nat.le_of_ble_eq_true rfl, Nat.le_of_ble_eq_true rfl⟩ rfl hl.1 rfl (Nat.le_of_ble_eq_true rfl) dX0_emptySpares_29 ⟨Nat.le_of_ble_eq_true rfl, Nat.le_of_ble_eq_true rfl⟩ (fun H locs hG => ?_)
          refine lv_iadd hx hb dX0_emptySpares_32 ?_
          refine lv_istore_n (lv' := [(1, .int (bx1 + v29)), (0, .ref ba0), (2, .int bx2)]) hx hb dX0_emptySpares_33 rfl hl (by decide) rfl (fun ls hl => ?_)
          refine lv_iinc (v := (bx2 + (1 : Int32))) (lv' := [(2, .int (bx2 + (1 : Int32))), (1, .int (bx1 + v29)), (0, .ref ba0)]) hx hb dX0_emptySpares_34 hl (k := 2) rfl rfl (by decide) rfl (fun ls hl => ?_)
          refine lv_goto (tgt := 7) hx hb dX0_emptySpares_37 (by decide) ?_
          exact ih ba0 (bx1 + v29) (bx2 + (1 : Int32)) _ _ hG _ (lv_sub hl [2, 1, 0] rfl) h
        · rw [if_pos c21] at h
          refine lv_iconst (v := (1 : Int32)) hx hb dX0_emptySpares_24 (by decide) ?_
          refine lv_goto (tgt := 29) hx hb dX0_emptySpares_25 (by decide) ?_
          obtain ⟨v29, e29, h⟩ := Option.bind_eq_some_iff.mp h
          refine g_cNi (As := [.int (1 : Int32)]) (rest := [.int bx1]) (n := 1) hx hb hml hown hts hK hlo hG (m_X9_oneIf l dd cT lo G (1 : Int32) e29) (List.mem_of_getElem? (i := 12) rfl) qT_yX9_oneIf qN_X9 qC_yX9_oneIf (by decide +kernel) ⟨Nat.le_of_ble_eq_true rfl, Nat.le_of_ble_eq_true rfl⟩ rfl hl.1 rfl (Nat.le_of_ble_eq_true rfl) dX0_emptySpares_29 ⟨Nat.le_of_ble_eq_true rfl, Nat.le_of_ble_eq_true rfl⟩ (fun H locs hG => ?_)
          refine lv_iadd hx hb dX0_emptySpares_32 ?_
          refine lv_istore_n (lv' := [(1, .int (bx1 + v29)), (0, .ref ba0), (2, .int bx2)]) hx hb dX0_emptySpares_33 rfl hl (by decide) rfl (fun ls hl => ?_)
          refine lv_iinc (v := (bx2 + (1 : Int32))) (lv' := [(2, .int (bx2 + (1 : Int32))), (1, .int (bx1 + v29)), (0, .ref ba0)]) hx hb dX0_emptySpares_34 hl (k := 2) rfl rfl (by decide) rfl (fun ls hl => ?_)
          refine lv_goto (tgt := 7) hx hb dX0_emptySpares_37 (by decide) ?_
          exact ih ba0 (bx1 + v29) (bx2 + (1 : Int32)) _ _ hG _ (lv_sub hl [2, 1, 0] rfl) h
  unfold f_X0_emptySpares at h
  refine lv_iconst (v := (0 : Int32)) hx hb dX0_emptySpares_0 (by decide) ?_
  refine lv_istore_n (lv' := [(1, .int (0 : Int32)), (0, .ref a0)]) hx hb dX0_emptySpares_1 rfl hl (by decide) rfl (fun ls hl => ?_)
  refine lv_aload_n hx hb dX0_emptySpares_2 rfl (lv_at hl 1 rfl) ?_
  obtain ⟨v3, e3, h⟩ := Option.bind_eq_some_iff.mp h
  refine g_geti hx hb hts inlX0 hown hK hG (by rfl) 1 (by decide) qF_X0_15 e3 dX0_emptySpares_3 ?_
  refine lv_istore_n (lv' := [(2, .int v3), (1, .int (0 : Int32)), (0, .ref a0)]) hx hb dX0_emptySpares_6 rfl hl (by decide) rfl (fun ls hl => ?_)
  exact h7 g_N a0 (0 : Int32) v3 _ _ hG _ (lv_sub hl [2, 1, 0] rfl) h
def f_X0_badOnes_L4 (G : gH) : Nat → Nat → Int32 → Int32 → Option Int32
  | 0, _, _, _ => none
  | n + 1, ba0, bx1, bx2 =>
    (g_i G ba0 0 0).bind fun v6 =>
    if v6 ≤ bx2 then
    some bx1
    else
    (g_ob G ba0 0).bind fun u15 =>
    (f_X0_isBad G ba0 bx2).bind fun v15 =>
    (f_X9_oneIf G v15).bind fun v18 =>
    f_X0_badOnes_L4 G n ba0 (bx1 + v18) (bx2 + (1 : Int32))
def f_X0_badOnes (G : gH) (a0 : Nat) : Option Int32 :=
    f_X0_badOnes_L4 G g_N a0 (0 : Int32) (0 : Int32)
set_option maxRecDepth 20000 in
set_option maxHeartbeats 4000000 in
theorem m_X0_badOnes (l : Launch) (dd : va_G) (cT : Nat → ClassId) (lo : Nat) (G : gH) (a0 : Nat) {rz : Int32} (h : f_X0_badOnes G a0 = some rz) : Met l yX0_badOnes (Cond.code yX0_badOnes cX0_badOnes 3 (some .int) :: wsL_law) (g_rm 2 42 0 0) (va_Pc [.ref a0] (g_Pre lo dd cT G)) (va_Qi (g_is rz G) (g_Pre lo dd cT) (g_A lo)) 0 0 (g_A lo) := by
  refine g_start RX0 rfl (by decide) (Nat.le_of_ble_eq_true rfl) ?_
  intro p e s m below meth c hx hb hr hlocks hml hown hnm hts hK hG hlo ls hl
  have hl : lv_has ls 3 [(0, .ref a0)] := hl
  have hG : g_S lo dd cT s s.heap [] G := hG
  have h4 : ∀ n : Nat, ∀ (ba0 : Nat) (bx1 : Int32) (bx2 : Int32), ∀ (H : Heap) (locs : List Loc), g_S lo dd cT s H locs G → ∀ ls : Array Slot, lv_has ls 3 [(0, .ref ba0), (1, .int bx1), (2, .int bx2)] → f_X0_badOnes_L4 G n ba0 bx1 bx2 = some rz → W p l e (g_rm 2 42 0 0) s m ([.ref a0] : List Value).toArray below meth c H locs 0 0 (MQ below (va_Qi (g_is rz G) (g_Pre lo dd cT) (g_A lo)) ([.ref a0] : List Value).toArray s 0 0 (g_A lo)) (F0 m 4 ls []) := by
    intro n
    induction n with
    | zero =>
      intro ba0 bx1 bx2 H locs hG ls hl h
      cases (show (none : Option Int32) = some rz from h)
    | succ n ih =>
      intro ba0 bx1 bx2 H locs hG ls hl h
      rw [f_X0_badOnes_L4] at h
      refine lv_iload_n hx hb dX0_badOnes_4 rfl (lv_at hl 2 rfl) ?_
      refine lv_aload_n hx hb dX0_badOnes_5 rfl (lv_at hl 0 rfl) ?_
      obtain ⟨v6, e6, h⟩ := Option.bind_eq_some_iff.mp h
      refine g_geti hx hb hts inlX0 hown hK hG (by rfl) 0 (by decide) qF_X0_9 e6 dX0_badOnes_6 ?_
      refine lv_icmp_ge (tgt := 29) hx hb dX0_badOnes_9 (by decide) (fun c9 => ?_) (fun c9 => ?_)
      · rw [if_pos c9] at h
        refine lv_iload_n hx hb dX0_badOnes_29 rfl (lv_at hl 1 rfl) ?_
        obtain rfl := Option.some.inj h
        exact g_iret hx hb hr hlocks hK hlo hG ⟨rfl, rfl⟩ dX0_badOnes_30
      · rw [if_neg c9] at h
        refine lv_iload_n hx hb dX0_badOnes_12 rfl (lv_at hl 1 rfl) ?_
        refine lv_aload_n hx hb dX0_badOnes_13 rfl (lv_at hl 0 rfl) ?_
        refine lv_iload_n hx hb dX0_badOnes_14 rfl (lv_at hl 2 rfl) ?_
        obtain ⟨u15, i15, h⟩ := Option.bind_eq_some_iff.mp h
        obtain ⟨v15, e15, h⟩ := Option.bind_eq_some_iff.mp h
        refine g_cVi (As := [.int bx2]) (rest := [.int bx1]) (n := 1) hx hb hml hown hts hK hlo hG (m_X0_isBad l dd cT lo G ba0 bx2 e15) qM_X0_73 qI_yX0_isBad qS_X0_yX0_isBad qN_X0 qC_yX0_isBad (by decide +kernel) ⟨Nat.le_of_ble_eq_true rfl, Nat.le_of_ble_eq_true rfl⟩ (by rfl) i15 rfl hl.1 rfl (Nat.le_of_ble_eq_true rfl) dX0_badOnes_15 ⟨Nat.le_of_ble_eq_true rfl, Nat.le_of_ble_eq_true rfl⟩ (fun H locs hG => ?_)
        obtain ⟨v18, e18, h⟩ := Option.bind_eq_some_iff.mp h
        refine g_cNi (As := [.int v15]) (rest := [.int bx1]) (n := 1) hx hb hml hown hts hK hlo hG (m_X9_oneIf l dd cT lo G v15 e18) (List.mem_of_getElem? (i := 12) rfl) qT_yX9_oneIf qN_X9 qC_yX9_oneIf (by decide +kernel) ⟨Nat.le_of_ble_eq_true rfl, Nat.le_of_ble_eq_true rfl⟩ rfl hl.1 rfl (Nat.le_of_ble_eq_true rfl) dX0_badOnes_18 ⟨Nat.le_of_ble_eq_true rfl, Nat.le_of_ble_eq_true rfl⟩ (fun H locs hG => ?_)
        refine lv_iadd hx hb dX0_badOnes_21 ?_
        refine lv_istore_n (lv' := [(1, .int (bx1 + v18)), (0, .ref ba0), (2, .int bx2)]) hx hb dX0_badOnes_22 rfl hl (by decide) rfl (fun ls hl => ?_)
        refine lv_iinc (v := (bx2 + (1 : Int32))) (lv' := [(2, .int (bx2 + (1 : Int32))), (1, .int (bx1 + v18)), (0, .ref ba0)]) hx hb dX0_badOnes_23 hl (k := 2) rfl rfl (by decide) rfl (fun ls hl => ?_)
        refine lv_goto (tgt := 4) hx hb dX0_badOnes_26 (by decide) ?_
        exact ih ba0 (bx1 + v18) (bx2 + (1 : Int32)) _ _ hG _ (lv_sub hl [2, 1, 0] rfl) h
  unfold f_X0_badOnes at h
  refine lv_iconst (v := (0 : Int32)) hx hb dX0_badOnes_0 (by decide) ?_
  refine lv_istore_n (lv' := [(1, .int (0 : Int32)), (0, .ref a0)]) hx hb dX0_badOnes_1 rfl hl (by decide) rfl (fun ls hl => ?_)
  refine lv_iconst (v := (0 : Int32)) hx hb dX0_badOnes_2 (by decide) ?_
  refine lv_istore_n (lv' := [(2, .int (0 : Int32)), (1, .int (0 : Int32)), (0, .ref a0)]) hx hb dX0_badOnes_3 rfl hl (by decide) rfl (fun ls hl => ?_)
  exact h4 g_N a0 (0 : Int32) (0 : Int32) _ _ hG _ (lv_sub hl [2, 1, 0] rfl) h

/-! Lifted methods, by program (wip/whole/tools/lift.py). -/
def f_X0_blocksOf_L6 (G : gH) : Nat → Nat → Int32 → Int32 → Int32 → Int32 → Option Int32
  | 0, _, _, _, _, _ => none
  | n + 1, ba0, bx1, bx3, bx4, bx5 =>
    if bx3 ≤ bx5 then
    some bx4
    else
    (g_ob G ba0 0).bind fun u17 =>
    (f_X0_writerOf G ba0 bx5).bind fun v17 =>
    if v17 = bx1 then
    (f_X9_oneIf G (1 : Int32)).bind fun v29 =>
    f_X0_blocksOf_L6 G n ba0 bx1 bx3 (bx4 + v29) (bx5 + (1 : Int32))
    else
    (f_X9_oneIf G (0 : Int32)).bind fun v29 =>
    f_X0_blocksOf_L6 G n ba0 bx1 bx3 (bx4 + v29) (bx5 + (1 : Int32))
def f_X0_blocksOf (G : gH) (a0 : Nat) (x1 : Int32) (x2 : Int32) (x3 : Int32) : Option Int32 :=
    f_X0_blocksOf_L6 G g_N a0 x1 x3 (0 : Int32) x2
set_option maxRecDepth 20000 in
set_option maxHeartbeats 4000000 in
theorem m_X0_blocksOf (l : Launch) (dd : va_G) (cT : Nat → ClassId) (lo : Nat) (G : gH) (a0 : Nat) (x1 : Int32) (x2 : Int32) (x3 : Int32) {rz : Int32} (h : f_X0_blocksOf G a0 x1 x2 x3 = some rz) : Met l yX0_blocksOf (Cond.code yX0_blocksOf cX0_blocksOf 6 (some .int) :: wsL_law) (g_rm 2 43 0 0) (va_Pc [.ref a0, .int x1, .int x2, .int x3] (g_Pre lo dd cT G)) (va_Qi (g_is rz G) (g_Pre lo dd cT) (g_A lo)) 0 0 (g_A lo) := by
  refine g_start RX0 rfl (by decide) (Nat.le_of_ble_eq_true rfl) ?_
  intro p e s m below meth c hx hb hr hlocks hml hown hnm hts hK hG hlo ls hl
  have hl : lv_has ls 6 [(0, .ref a0), (1, .int x1), (2, .int x2), (3, .int x3)] := hl
  have hG : g_S lo dd cT s s.heap [] G := hG
  have h6 : ∀ n : Nat, ∀ (ba0 : Nat) (bx1 : Int32) (bx3 : Int32) (bx4 : Int32) (bx5 : Int32), ∀ (H : Heap) (locs : List Loc), g_S lo dd cT s H locs G → ∀ ls : Array Slot, lv_has ls 6 [(0, .ref ba0), (1, .int bx1), (3, .int bx3), (4, .int bx4), (5, .int bx5)] → f_X0_blocksOf_L6 G n ba0 bx1 bx3 bx4 bx5 = some rz → W p l e (g_rm 2 43 0 0) s m ([.ref a0, .int x1, .int x2, .int x3] : List Value).toArray below meth c H locs 0 0 (MQ below (va_Qi (g_is rz G) (g_Pre lo dd cT) (g_A lo)) ([.ref a0, .int x1, .int x2, .int x3] : List Value).toArray s 0 0 (g_A lo)) (F0 m 6 ls []) := by
    intro n
    induction n with
    | zero =>
      intro ba0 bx1 bx3 bx4 bx5 H locs hG ls hl h
      cases (show (none : Option Int32) = some rz from h)
    | succ n ih =>
      intro ba0 bx1 bx3 bx4 bx5 H locs hG ls hl h
      rw [f_X0_blocksOf_L6] at h
      refine lv_iload hx hb dX0_blocksOf_6 (lv_at hl 4 rfl) ?_
      refine lv_iload_n hx hb dX0_blocksOf_8 rfl (lv_at hl 2 rfl) ?_
      refine lv_icmp_ge (tgt := 41) hx hb dX0_blocksOf_9 (by decide) (fun c9 => ?_) (fun c9 => ?_)
      · rw [if_pos c9] at h
        refine lv_iload hx hb dX0_blocksOf_41 (lv_at hl 3 rfl) ?_
        obtain rfl := Option.some.inj h
        exact g_iret hx hb hr hlocks hK hlo hG ⟨rfl, rfl⟩ dX0_blocksOf_43
      · rw [if_neg c9] at h
        refine lv_iload hx hb dX0_blocksOf_12 (lv_at hl 3 rfl) ?_
        refine lv_aload_n hx hb dX0_blocksOf_14 rfl (lv_at hl 0 rfl) ?_
        refine lv_iload hx hb dX0_blocksOf_15 (lv_at hl 4 rfl) ?_
        obtain ⟨u17, i17, h⟩ := Option.bind_eq_some_iff.mp h
        obtain ⟨v17, e17, h⟩ := Option.bind_eq_some_iff.mp h
        refine g_cVi (As := [.int bx5]) (rest := [.int bx4]) (n := 1) hx hb hml hown hts hK hlo hG (m_X0_writerOf l dd cT lo G ba0 bx5 e17) qM_X0_84 qI_yX0_writerOf qS_X0_yX0_writerOf qN_X0 qC_yX0_writerOf (by decide +kernel) ⟨Nat.le_of_ble_eq_true rfl, Nat.le_of_ble_eq_true rfl⟩ (by rfl) i17 rfl hl.1 rfl (Nat.le_of_ble_eq_true rfl) dX0_blocksOf_17 ⟨Nat.le_of_ble_eq_true rfl, Nat.le_of_ble_eq_true rfl⟩ (fun H locs hG => ?_)
        refine lv_iload_n hx hb dX0_blocksOf_20 rfl (lv_at hl 1 rfl) ?_
        refine lv_icmp_ne (tgt := 28) hx hb dX0_blocksOf_21 (by decide) (fun c21 => ?_) (fun c21 => ?_)
        · rw [if_neg c21] at h
          refine lv_iconst (v := (0 : Int32)) hx hb dX0_blocksOf_28 (by decide) ?_
          obtain ⟨v29, e29, h⟩ := Option.bind_eq_some_iff.mp h
          refine g_cNi (As := [.int (0 : Int32)]) (rest := [.int bx4]) (n := 1) hx hb hml hown hts hK hlo hG (m_X9_oneIf l dd cT lo G (0 : Int32) e29) (List.mem_of_getElem? (i := 12) rfl) qT_yX9_oneIf qN_X9 qC_yX9_oneIf (by decide +kernel) ⟨Nat.le_of_ble_eq_true rfl, Nat.le_of_ble_eq_true rfl⟩ rfl hl.1 rfl (Nat.le_of_ble_eq_true rfl) dX0_blocksOf_29 ⟨Nat.le_of_ble_eq_true rfl, Nat.le_of_ble_eq_true rfl⟩ (fun H locs hG => ?_)
          refine lv_iadd hx hb dX0_blocksOf_32 ?_
          refine lv_istore (lv' := [(4, .int (bx4 + v29)), (0, .ref ba0), (1, .int bx1), (3, .int bx3), (5, .int bx5)]) hx hb dX0_blocksOf_33 hl (by decide) rfl (fun ls hl => ?_)
          refine lv_iinc (v := (bx5 + (1 : Int32))) (lv' := [(5, .int (bx5 + (1 : Int32))), (4, .int (bx4 + v29)), (0, .ref ba0), (1, .int bx1), (3, .int bx3)]) hx hb dX0_blocksOf_35 hl (k := 4) rfl rfl (by decide) rfl (fun ls hl => ?_)
          refine lv_goto (tgt := 6) hx hb dX0_blocksOf_38 (by decide) ?_
          exact ih ba0 bx1 bx3 (bx4 + v29) (bx5 + (1 : Int32)) _ _ hG _ (lv_sub hl [2, 3, 4, 1, 0] rfl) h
        · rw [if_pos c21] at h
          refine lv_iconst (v := (1 : Int32)) hx hb dX0_blocksOf_24 (by decide) ?_
          refine lv_goto (tgt := 29) hx hb dX0_blocksOf_25 (by decide) ?_
          obtain ⟨v29, e29, h⟩ := Option.bind_eq_some_iff.mp h
          refine g_cNi (As := [.int (1 : Int32)]) (rest := [.int bx4]) (n := 1) hx hb hml hown hts hK hlo hG (m_X9_oneIf l dd cT lo G (1 : Int32) e29) (List.mem_of_getElem? (i := 12) rfl) qT_yX9_oneIf qN_X9 qC_yX9_oneIf (by decide +kernel) ⟨Nat.le_of_ble_eq_true rfl, Nat.le_of_ble_eq_true rfl⟩ rfl hl.1 rfl (Nat.le_of_ble_eq_true rfl) dX0_blocksOf_29 ⟨Nat.le_of_ble_eq_true rfl, Nat.le_of_ble_eq_true rfl⟩ (fun H locs hG => ?_)
          refine lv_iadd hx hb dX0_blocksOf_32 ?_
          refine lv_istore (lv' := [(4, .int (bx4 + v29)), (0, .ref ba0), (1, .int bx1), (3, .int bx3), (5, .int bx5)]) hx hb dX0_blocksOf_33 hl (by decide) rfl (fun ls hl => ?_)
          refine lv_iinc (v := (bx5 + (1 : Int32))) (lv' := [(5, .int (bx5 + (1 : Int32))), (4, .int (bx4 + v29)), (0, .ref ba0), (1, .int bx1), (3, .int bx3)]) hx hb dX0_blocksOf_35 hl (k := 4) rfl rfl (by decide) rfl (fun ls hl => ?_)
          refine lv_goto (tgt := 6) hx hb dX0_blocksOf_38 (by decide) ?_
          exact ih ba0 bx1 bx3 (bx4 + v29) (bx5 + (1 : Int32)) _ _ hG _ (lv_sub hl [2, 3, 4, 1, 0] rfl) h
  unfold f_X0_blocksOf at h
  refine lv_iconst (v := (0 : Int32)) hx hb dX0_blocksOf_0 (by decide) ?_
  refine lv_istore (lv' := [(4, .int (0 : Int32)), (0, .ref a0), (1, .int x1), (2, .int x2), (3, .int x3)]) hx hb dX0_blocksOf_1 hl (by decide) rfl (fun ls hl => ?_)
  refine lv_iload_n hx hb dX0_blocksOf_3 rfl (lv_at hl 3 rfl) ?_
  refine lv_istore (lv' := [(5, .int x2), (4, .int (0 : Int32)), (0, .ref a0), (1, .int x1), (2, .int x2), (3, .int x3)]) hx hb dX0_blocksOf_4 hl (by decide) rfl (fun ls hl => ?_)
  exact h6 g_N a0 x1 x3 (0 : Int32) x2 _ _ hG _ (lv_sub hl [2, 3, 5, 1, 0] rfl) h
def f_X0_canRelocate_L50 (G : gH) : Nat → Nat → Int32 → Int32 → Int32 → Option Int32
  | 0, _, _, _, _ => none
  | n + 1, ba0, bx2, bx3, bx4 =>
    (g_i G ba0 0 0).bind fun v53 =>
    if v53 ≤ bx4 then
    if bx3 < bx2 then
    some (0 : Int32)
    else
    some (1 : Int32)
    else
    (g_ob G ba0 0).bind fun u63 =>
    (f_X0_kindOf G ba0 bx4).bind fun v63 =>
    if v63 = 0 then
    (g_ob G ba0 0).bind fun u72 =>
    (f_X0_isBad G ba0 bx4).bind fun v72 =>
    if v72 = 0 then
    (f_X9_oneIf G (1 : Int32)).bind fun v83 =>
    f_X0_canRelocate_L50 G n ba0 bx2 (bx3 + v83) (bx4 + (1 : Int32))
    else
    (f_X9_oneIf G (0 : Int32)).bind fun v83 =>
    f_X0_canRelocate_L50 G n ba0 bx2 (bx3 + v83) (bx4 + (1 : Int32))
    else
    (f_X9_oneIf G (0 : Int32)).bind fun v83 =>
    f_X0_canRelocate_L50 G n ba0 bx2 (bx3 + v83) (bx4 + (1 : Int32))
def f_X0_canRelocate_L7 (G : gH) : Nat → Nat → Int32 → Int32 → Int32 → Option Int32
  | 0, _, _, _, _ => none
  | n + 1, ba0, bx1, bx2, bx3 =>
    (g_i G ba0 0 2).bind fun v9 =>
    if (v9 + bx1) ≤ bx3 then
    (g_i G ba0 0 1).bind fun v45 =>
    f_X0_canRelocate_L50 G g_N ba0 bx2 (0 : Int32) v45
    else
    (g_i G ba0 0 1).bind fun v19 =>
    if v19 ≤ bx3 then
    (g_i G ba0 0 1).bind fun v45 =>
    f_X0_canRelocate_L50 G g_N ba0 bx2 (0 : Int32) v45
    else
    (g_ob G ba0 0).bind fun u28 =>
    (f_X0_isBad G ba0 bx3).bind fun v28 =>
    (f_X9_oneIf G v28).bind fun v31 =>
    f_X0_canRelocate_L7 G n ba0 bx1 (bx2 + v31) (bx3 + (1 : Int32))
def f_X0_canRelocate (G : gH) (a0 : Nat) (x1 : Int32) : Option Int32 :=
    (g_i G a0 0 2).bind fun v3 =>
    f_X0_canRelocate_L7 G g_N a0 x1 (0 : Int32) v3
set_option maxRecDepth 20000 in
set_option maxHeartbeats 4000000 in
theorem m_X0_canRelocate (l : Launch) (dd : va_G) (cT : Nat → ClassId) (lo : Nat) (G : gH) (a0 : Nat) (x1 : Int32) {rz : Int32} (h : f_X0_canRelocate G a0 x1 = some rz) : Met l yX0_canRelocate (Cond.code yX0_canRelocate cX0_canRelocate 5 (some .boolean) :: wsL_law) (g_rm 2 43 0 0) (va_Pc [.ref a0, .int x1] (g_Pre lo dd cT G)) (va_Qi (g_is rz G) (g_Pre lo dd cT) (g_A lo)) 0 0 (g_A lo) := by
  refine g_start RX0 rfl (by decide) (Nat.le_of_ble_eq_true rfl) ?_
  intro p e s m below meth c hx hb hr hlocks hml hown hnm hts hK hG hlo ls hl
  have hl : lv_has ls 5 [(0, .ref a0), (1, .int x1)] := hl
  have hG : g_S lo dd cT s s.heap [] G := hG
  have h50 : ∀ n : Nat, ∀ (ba0 : Nat) (bx2 : Int32) (bx3 : Int32) (bx4 : Int32), ∀ (H : Heap) (locs : List Loc), g_S lo dd cT s H locs G → ∀ ls : Array Slot, lv_has ls 5 [(0, .ref ba0), (2, .int bx2), (3, .int bx3), (4, .int bx4)] → f_X0_canRelocate_L50 G n ba0 bx2 bx3 bx4 = some rz → W p l e (g_rm 2 43 0 0) s m ([.ref a0, .int x1] : List Value).toArray below meth c H locs 0 0 (MQ below (va_Qi (g_is rz G) (g_Pre lo dd cT) (g_A lo)) ([.ref a0, .int x1] : List Value).toArray s 0 0 (g_A lo)) (F0 m 50 ls []) := by
    intro n
    induction n with
    | zero =>
      intro ba0 bx2 bx3 bx4 H locs hG ls hl h
      cases (show (none : Option Int32) = some rz from h)
    | succ n ih =>
      intro ba0 bx2 bx3 bx4 H locs hG ls hl h
      rw [f_X0_canRelocate_L50] at h
      refine lv_iload hx hb dX0_canRelocate_50 (lv_at hl 3 rfl) ?_
      refine lv_aload_n hx hb dX0_canRelocate_52 rfl (lv_at hl 0 rfl) ?_
      obtain ⟨v53, e53, h⟩ := Option.bind_eq_some_iff.mp h
      refine g_geti hx hb hts inlX0 hown hK hG (by rfl) 0 (by decide) qF_X0_9 e53 dX0_canRelocate_53 ?_
      refine lv_icmp_ge (tgt := 94) hx hb dX0_canRelocate_56 (by decide) (fun c56 => ?_) (fun c56 => ?_)
      · rw [if_pos c56] at h
        refine lv_iload_n hx hb dX0_canRelocate_94 rfl (lv_at hl 1 rfl) ?_
        refine lv_iload_n hx hb dX0_canRelocate_95 rfl (lv_at hl 2 rfl) ?_
        refine lv_icmp_gt (tgt := 103) hx hb dX0_canRelocate_96 (by decide) (fun c96 => ?_) (fun c96 => ?_)
        · rw [if_pos c96] at h
          refine lv_iconst (v := (0 : Int32)) hx hb dX0_canRelocate_103 (by decide) ?_
          obtain rfl := Option.some.inj h
          exact g_zret hx hb hr hlocks hK hlo hG rfl ⟨rfl, rfl⟩ dX0_canRelocate_104
        · rw [if_neg c96] at h
          refine lv_iconst (v := (1 : Int32)) hx hb dX0_canRelocate_99 (by decide) ?_
          refine lv_goto (tgt := 104) hx hb dX0_canRelocate_100 (by decide) ?_
          obtain rfl := Option.some.inj h
          exact g_zret hx hb hr hlocks hK hlo hG rfl ⟨rfl, rfl⟩ dX0_canRelocate_104
      · rw [if_neg c56] at h
        refine lv_iload_n hx hb dX0_canRelocate_59 rfl (lv_at hl 2 rfl) ?_
        refine lv_aload_n hx hb dX0_canRelocate_60 rfl (lv_at hl 0 rfl) ?_
        refine lv_iload hx hb dX0_canRelocate_61 (lv_at hl 3 rfl) ?_
        obtain ⟨u63, i63, h⟩ := Option.bind_eq_some_iff.mp h
        obtain ⟨v63, e63, h⟩ := Option.bind_eq_some_iff.mp h
        refine g_cVi (As := [.int bx4]) (rest := [.int bx3]) (n := 1) hx hb hml hown hts hK hlo hG (m_X0_kindOf l dd cT lo G ba0 bx4 e63) qM_X0_69 qI_yX0_kindOf qS_X0_yX0_kindOf qN_X0 qC_yX0_kindOf (by decide +kernel) ⟨Nat.le_of_ble_eq_true rfl, Nat.le_of_ble_eq_true rfl⟩ (by rfl) i63 rfl hl.1 rfl (Nat.le_of_ble_eq_true rfl) dX0_canRelocate_63 ⟨Nat.le_of_ble_eq_true rfl, Nat.le_of_ble_eq_true rfl⟩ (fun H locs hG => ?_)
        refine lv_if_ne (tgt := 82) hx hb dX0_canRelocate_66 (by decide) (fun c66 => ?_) (fun c66 => ?_)
        · rw [if_neg c66] at h
          refine lv_iconst (v := (0 : Int32)) hx hb dX0_canRelocate_82 (by decide) ?_
          obtain ⟨v83, e83, h⟩ := Option.bind_eq_some_iff.mp h
          refine g_cNi (As := [.int (0 : Int32)]) (rest := [.int bx3]) (n := 1) hx hb hml hown hts hK hlo hG (m_X9_oneIf l dd cT lo G (0 : Int32) e83) (List.mem_of_getElem? (i := 12) rfl) qT_yX9_oneIf qN_X9 qC_yX9_oneIf (by decide +kernel) ⟨Nat.le_of_ble_eq_true rfl, Nat.le_of_ble_eq_true rfl⟩ rfl hl.1 rfl (Nat.le_of_ble_eq_true rfl) dX0_canRelocate_83 ⟨Nat.le_of_ble_eq_true rfl, Nat.le_of_ble_eq_true rfl⟩ (fun H locs hG => ?_)
          refine lv_iadd hx hb dX0_canRelocate_86 ?_
          refine lv_istore_n (lv' := [(3, .int (bx3 + v83)), (0, .ref ba0), (2, .int bx2), (4, .int bx4)]) hx hb dX0_canRelocate_87 rfl hl (by decide) rfl (fun ls hl => ?_)
          refine lv_iinc (v := (bx4 + (1 : Int32))) (lv' := [(4, .int (bx4 + (1 : Int32))), (3, .int (bx3 + v83)), (0, .ref ba0), (2, .int bx2)]) hx hb dX0_canRelocate_88 hl (k := 3) rfl rfl (by decide) rfl (fun ls hl => ?_)
          refine lv_goto (tgt := 50) hx hb dX0_canRelocate_91 (by decide) ?_
          exact ih ba0 bx2 (bx3 + v83) (bx4 + (1 : Int32)) _ _ hG _ (lv_sub hl [2, 3, 1, 0] rfl) h
        · rw [if_pos c66] at h
          refine lv_aload_n hx hb dX0_canRelocate_69 rfl (lv_at hl 0 rfl) ?_
          refine lv_iload hx hb dX0_canRelocate_70 (lv_at hl 3 rfl) ?_
          obtain ⟨u72, i72, h⟩ := Option.bind_eq_some_iff.mp h
          obtain ⟨v72, e72, h⟩ := Option.bind_eq_some_iff.mp h
          refine g_cVi (As := [.int bx4]) (rest := [.int bx3]) (n := 1) hx hb hml hown hts hK hlo hG (m_X0_isBad l dd cT lo G ba0 bx4 e72) qM_X0_73 qI_yX0_isBad qS_X0_yX0_isBad qN_X0 qC_yX0_isBad (by decide +kernel) ⟨Nat.le_of_ble_eq_true rfl, Nat.le_of_ble_eq_true rfl⟩ (by rfl) i72 rfl hl.1 rfl (Nat.le_of_ble_eq_true rfl) dX0_canRelocate_72 ⟨Nat.le_of_ble_eq_true rfl, Nat.le_of_ble_eq_true rfl⟩ (fun H locs hG => ?_)
          refine lv_if_ne (tgt := 82) hx hb dX0_canRelocate_75 (by decide) (fun c75 => ?_) (fun c75 => ?_)
          · rw [if_neg c75] at h
            refine lv_iconst (v := (0 : Int32)) hx hb dX0_canRelocate_82 (by decide) ?_
            obtain ⟨v83, e83, h⟩ := Option.bind_eq_some_iff.mp h
            refine g_cNi (As := [.int (0 : Int32)]) (rest := [.int bx3]) (n := 1) hx hb hml hown hts hK hlo hG (m_X9_oneIf l dd cT lo G (0 : Int32) e83) (List.mem_of_getElem? (i := 12) rfl) qT_yX9_oneIf qN_X9 qC_yX9_oneIf (by decide +kernel) ⟨Nat.le_of_ble_eq_true rfl, Nat.le_of_ble_eq_true rfl⟩ rfl hl.1 rfl (Nat.le_of_ble_eq_true rfl) dX0_canRelocate_83 ⟨Nat.le_of_ble_eq_true rfl, Nat.le_of_ble_eq_true rfl⟩ (fun H locs hG => ?_)
            refine lv_iadd hx hb dX0_canRelocate_86 ?_
            refine lv_istore_n (lv' := [(3, .int (bx3 + v83)), (0, .ref ba0), (2, .int bx2), (4, .int bx4)]) hx hb dX0_canRelocate_87 rfl hl (by decide) rfl (fun ls hl => ?_)
            refine lv_iinc (v := (bx4 + (1 : Int32))) (lv' := [(4, .int (bx4 + (1 : Int32))), (3, .int (bx3 + v83)), (0, .ref ba0), (2, .int bx2)]) hx hb dX0_canRelocate_88 hl (k := 3) rfl rfl (by decide) rfl (fun ls hl => ?_)
            refine lv_goto (tgt := 50) hx hb dX0_canRelocate_91 (by decide) ?_
            exact ih ba0 bx2 (bx3 + v83) (bx4 + (1 : Int32)) _ _ hG _ (lv_sub hl [2, 3, 1, 0] rfl) h
          · rw [if_pos c75] at h
            refine lv_iconst (v := (1 : Int32)) hx hb dX0_canRelocate_78 (by decide) ?_
            refine lv_goto (tgt := 83) hx hb dX0_canRelocate_79 (by decide) ?_
            obtain ⟨v83, e83, h⟩ := Option.bind_eq_some_iff.mp h
            refine g_cNi (As := [.int (1 : Int32)]) (rest := [.int bx3]) (n := 1) hx hb hml hown hts hK hlo hG (m_X9_oneIf l dd cT lo G (1 : Int32) e83) (List.mem_of_getElem? (i := 12) rfl) qT_yX9_oneIf qN_X9 qC_yX9_oneIf (by decide +kernel) ⟨Nat.le_of_ble_eq_true rfl, Nat.le_of_ble_eq_true rfl⟩ rfl hl.1 rfl (Nat.le_of_ble_eq_true rfl) dX0_canRelocate_83 ⟨Nat.le_of_ble_eq_true rfl, Nat.le_of_ble_eq_true rfl⟩ (fun H locs hG => ?_)
            refine lv_iadd hx hb dX0_canRelocate_86 ?_
            refine lv_istore_n (lv' := [(3, .int (bx3 + v83)), (0, .ref ba0), (2, .int bx2), (4, .int bx4)]) hx hb dX0_canRelocate_87 rfl hl (by decide) rfl (fun ls hl => ?_)
            refine lv_iinc (v := (bx4 + (1 : Int32))) (lv' := [(4, .int (bx4 + (1 : Int32))), (3, .int (bx3 + v83)), (0, .ref ba0), (2, .int bx2)]) hx hb dX0_canRelocate_88 hl (k := 3) rfl rfl (by decide) rfl (fun ls hl => ?_)
            refine lv_goto (tgt := 50) hx hb dX0_canRelocate_91 (by decide) ?_
            exact ih ba0 bx2 (bx3 + v83) (bx4 + (1 : Int32)) _ _ hG _ (lv_sub hl [2, 3, 1, 0] rfl) h
  have h7 : ∀ n : Nat, ∀ (ba0 : Nat) (bx1 : Int32) (bx2 : Int32) (bx3 : Int32), ∀ (H : Heap) (locs : List Loc), g_S lo dd cT s H locs G → ∀ ls : Array Slot, lv_has ls 5 [(0, .ref ba0), (1, .int bx1), (2, .int bx2), (3, .int bx3)] → f_X0_canRelocate_L7 G n ba0 bx1 bx2 bx3 = some rz → W p l e (g_rm 2 43 0 0) s m ([.ref a0, .int x1] : List Value).toArray below meth c H locs 0 0 (MQ below (va_Qi (g_is rz G) (g_Pre lo dd cT) (g_A lo)) ([.ref a0, .int x1] : List Value).toArray s 0 0 (g_A lo)) (F0 m 7 ls []) := by
    intro n
    induction n with
    | zero =>
      intro ba0 bx1 bx2 bx3 H locs hG ls hl h
      cases (show (none : Option Int32) = some rz from h)
    | succ n ih =>
      intro ba0 bx1 bx2 bx3 H locs hG ls hl h
      rw [f_X0_canRelocate_L7] at h
      refine lv_iload_n hx hb dX0_canRelocate_7 rfl (lv_at hl 3 rfl) ?_
      refine lv_aload_n hx hb dX0_canRelocate_8 rfl (lv_at hl 0 rfl) ?_
      obtain ⟨v9, e9, h⟩ := Option.bind_eq_some_iff.mp h
      refine g_geti hx hb hts inlX0 hown hK hG (by rfl) 2 (by decide) qF_X0_18 e9 dX0_canRelocate_9 ?_
      refine lv_iload_n hx hb dX0_canRelocate_12 rfl (lv_at hl 1 rfl) ?_
      refine lv_iadd hx hb dX0_canRelocate_13 ?_
      refine lv_icmp_ge (tgt := 42) hx hb dX0_canRelocate_14 (by decide) (fun c14 => ?_) (fun c14 => ?_)
      · rw [if_pos c14] at h
        refine lv_iconst (v := (0 : Int32)) hx hb dX0_canRelocate_42 (by decide) ?_
        refine lv_istore_n (lv' := [(3, .int (0 : Int32)), (0, .ref ba0), (1, .int bx1), (2, .int bx2)]) hx hb dX0_canRelocate_43 rfl hl (by decide) rfl (fun ls hl => ?_)
        refine lv_aload_n hx hb dX0_canRelocate_44 rfl (lv_at hl 1 rfl) ?_
        obtain ⟨v45, e45, h⟩ := Option.bind_eq_some_iff.mp h
        refine g_geti hx hb hts inlX0 hown hK hG (by rfl) 1 (by decide) qF_X0_15 e45 dX0_canRelocate_45 ?_
        refine lv_istore (lv' := [(4, .int v45), (3, .int (0 : Int32)), (0, .ref ba0), (1, .int bx1), (2, .int bx2)]) hx hb dX0_canRelocate_48 hl (by decide) rfl (fun ls hl => ?_)
        exact h50 g_N ba0 bx2 (0 : Int32) v45 _ _ hG _ (lv_sub hl [2, 4, 1, 0] rfl) h
      · rw [if_neg c14] at h
        refine lv_iload_n hx hb dX0_canRelocate_17 rfl (lv_at hl 3 rfl) ?_
        refine lv_aload_n hx hb dX0_canRelocate_18 rfl (lv_at hl 0 rfl) ?_
        obtain ⟨v19, e19, h⟩ := Option.bind_eq_some_iff.mp h
        refine g_geti hx hb hts inlX0 hown hK hG (by rfl) 1 (by decide) qF_X0_15 e19 dX0_canRelocate_19 ?_
        refine lv_icmp_ge (tgt := 42) hx hb dX0_canRelocate_22 (by decide) (fun c22 => ?_) (fun c22 => ?_)
        · rw [if_pos c22] at h
          refine lv_iconst (v := (0 : Int32)) hx hb dX0_canRelocate_42 (by decide) ?_
          refine lv_istore_n (lv' := [(3, .int (0 : Int32)), (0, .ref ba0), (1, .int bx1), (2, .int bx2)]) hx hb dX0_canRelocate_43 rfl hl (by decide) rfl (fun ls hl => ?_)
          refine lv_aload_n hx hb dX0_canRelocate_44 rfl (lv_at hl 1 rfl) ?_
          obtain ⟨v45, e45, h⟩ := Option.bind_eq_some_iff.mp h
          refine g_geti hx hb hts inlX0 hown hK hG (by rfl) 1 (by decide) qF_X0_15 e45 dX0_canRelocate_45 ?_
          refine lv_istore (lv' := [(4, .int v45), (3, .int (0 : Int32)), (0, .ref ba0), (1, .int bx1), (2, .int bx2)]) hx hb dX0_canRelocate_48 hl (by decide) rfl (fun ls hl => ?_)
          exact h50 g_N ba0 bx2 (0 : Int32) v45 _ _ hG _ (lv_sub hl [2, 4, 1, 0] rfl) h
        · rw [if_neg c22] at h
          refine lv_iload_n hx hb dX0_canRelocate_25 rfl (lv_at hl 2 rfl) ?_
          refine lv_aload_n hx hb dX0_canRelocate_26 rfl (lv_at hl 0 rfl) ?_
          refine lv_iload_n hx hb dX0_canRelocate_27 rfl (lv_at hl 3 rfl) ?_
          obtain ⟨u28, i28, h⟩ := Option.bind_eq_some_iff.mp h
          obtain ⟨v28, e28, h⟩ := Option.bind_eq_some_iff.mp h
          refine g_cVi (As := [.int bx3]) (rest := [.int bx2]) (n := 1) hx hb hml hown hts hK hlo hG (m_X0_isBad l dd cT lo G ba0 bx3 e28) qM_X0_73 qI_yX0_isBad qS_X0_yX0_isBad qN_X0 qC_yX0_isBad (by decide +kernel) ⟨Nat.le_of_ble_eq_true rfl, Nat.le_of_ble_eq_true rfl⟩ (by rfl) i28 rfl hl.1 rfl (Nat.le_of_ble_eq_true rfl) dX0_canRelocate_28 ⟨Nat.le_of_ble_eq_true rfl, Nat.le_of_ble_eq_true rfl⟩ (fun H locs hG => ?_)
          obtain ⟨v31, e31, h⟩ := Option.bind_eq_some_iff.mp h
          refine g_cNi (As := [.int v28]) (rest := [.int bx2]) (n := 1) hx hb hml hown hts hK hlo hG (m_X9_oneIf l dd cT lo G v28 e31) (List.mem_of_getElem? (i := 12) rfl) qT_yX9_oneIf qN_X9 qC_yX9_oneIf (by decide +kernel) ⟨Nat.le_of_ble_eq_true rfl, Nat.le_of_ble_eq_true rfl⟩ rfl hl.1 rfl (Nat.le_of_ble_eq_true rfl) dX0_canRelocate_31 ⟨Nat.le_of_ble_eq_true rfl, Nat.le_of_ble_eq_true rfl⟩ (fun H locs hG => ?_)
          refine lv_iadd hx hb dX0_canRelocate_34 ?_
          refine lv_istore_n (lv' := [(2, .int (bx2 + v31)), (0, .ref ba0), (1, .int bx1), (3, .int bx3)]) hx hb dX0_canRelocate_35 rfl hl (by decide) rfl (fun ls hl => ?_)
          refine lv_iinc (v := (bx3 + (1 : Int32))) (lv' := [(3, .int (bx3 + (1 : Int32))), (2, .int (bx2 + v31)), (0, .ref ba0), (1, .int bx1)]) hx hb dX0_canRelocate_36 hl (k := 3) rfl rfl (by decide) rfl (fun ls hl => ?_)
          refine lv_goto (tgt := 7) hx hb dX0_canRelocate_39 (by decide) ?_
          exact ih ba0 bx1 (bx2 + v31) (bx3 + (1 : Int32)) _ _ hG _ (lv_sub hl [2, 3, 1, 0] rfl) h
  unfold f_X0_canRelocate at h
  refine lv_iconst (v := (0 : Int32)) hx hb dX0_canRelocate_0 (by decide) ?_
  refine lv_istore_n (lv' := [(2, .int (0 : Int32)), (0, .ref a0), (1, .int x1)]) hx hb dX0_canRelocate_1 rfl hl (by decide) rfl (fun ls hl => ?_)
  refine lv_aload_n hx hb dX0_canRelocate_2 rfl (lv_at hl 1 rfl) ?_
  obtain ⟨v3, e3, h⟩ := Option.bind_eq_some_iff.mp h
  refine g_geti hx hb hts inlX0 hown hK hG (by rfl) 2 (by decide) qF_X0_18 e3 dX0_canRelocate_3 ?_
  refine lv_istore_n (lv' := [(3, .int v3), (2, .int (0 : Int32)), (0, .ref a0), (1, .int x1)]) hx hb dX0_canRelocate_6 rfl hl (by decide) rfl (fun ls hl => ?_)
  exact h7 g_N a0 x1 (0 : Int32) v3 _ _ hG _ (lv_sub hl [2, 3, 1, 0] rfl) h
def f_X0_takeSpare_L5 : Nat → gH → Nat → Int32 → Int32 → Option (gH × Int32)
  | 0, _, _, _, _ => none
  | n + 1, G, ba0, bx1, bx2 =>
    (g_i G ba0 0 0).bind fun v7 =>
    if v7 ≤ bx2 then
    some (G, (-1 : Int32))
    else
    (g_ob G ba0 0).bind fun u15 =>
    (f_X0_kindOf G ba0 bx2).bind fun v15 =>
    if v15 = 0 then
    (g_ob G ba0 0).bind fun u23 =>
    (f_X0_isBad G ba0 bx2).bind fun v23 =>
    if v23 = 0 then
    some (G, bx2)
    else
    (g_r G ba0 0 3).bind fun v32 =>
    (f_X9_put G v32 bx2 (3 : Int32)).bind fun G37 =>
    (g_r G37 ba0 0 6).bind fun v41 =>
    (f_X9_put G37 v41 bx2 bx1).bind fun G46 =>
    f_X0_takeSpare_L5 n G46 ba0 bx1 (bx2 + (1 : Int32))
    else
    f_X0_takeSpare_L5 n G ba0 bx1 (bx2 + (1 : Int32))
def f_X0_takeSpare (G : gH) (a0 : Nat) (x1 : Int32) : Option (gH × Int32) :=
    (g_i G a0 0 1).bind fun v1 =>
    f_X0_takeSpare_L5 g_N G a0 x1 v1
set_option maxRecDepth 20000 in
set_option maxHeartbeats 4000000 in
theorem m_X0_takeSpare (l : Launch) (dd : va_G) (cT : Nat → ClassId) (lo : Nat) (G : gH) (a0 : Nat) (x1 : Int32) {rz : Int32} {Gz : gH} (h : f_X0_takeSpare G a0 x1 = some (Gz, rz)) : Met l yX0_takeSpare (Cond.code yX0_takeSpare cX0_takeSpare 3 (some .int) :: wsL_law) (g_rm 2 43 0 0) (va_Pc [.ref a0, .int x1] (g_Pre lo dd cT G)) (va_Qi (g_is rz Gz) (g_Pre lo dd cT) (g_A lo)) 0 0 (g_A lo) := by
  refine g_start RX0 rfl (by decide) (Nat.le_of_ble_eq_true rfl) ?_
  intro p e s m below meth c hx hb hr hlocks hml hown hnm hts hK hG hlo ls hl
  have hl : lv_has ls 3 [(0, .ref a0), (1, .int x1)] := hl
  have hG : g_S lo dd cT s s.heap [] G := hG
  have h5 : ∀ n : Nat, ∀ (G : gH) (ba0 : Nat) (bx1 : Int32) (bx2 : Int32), ∀ (H : Heap) (locs : List Loc), g_S lo dd cT s H locs G → ∀ ls : Array Slot, lv_has ls 3 [(0, .ref ba0), (1, .int bx1), (2, .int bx2)] → f_X0_takeSpare_L5 n G ba0 bx1 bx2 = some (Gz, rz) → W p l e (g_rm 2 43 0 0) s m ([.ref a0, .int x1] : List Value).toArray below meth c H locs 0 0 (MQ below (va_Qi (g_is rz Gz) (g_Pre lo dd cT) (g_A lo)) ([.ref a0, .int x1] : List Value).toArray s 0 0 (g_A lo)) (F0 m 5 ls []) := by
    intro n
    induction n with
    | zero =>
      intro G ba0 bx1 bx2 H locs hG ls hl h
      cases (show (none : Option (gH × Int32)) = some (Gz, rz) from h)
    | succ n ih =>
      intro G ba0 bx1 bx2 H locs hG ls hl h
      rw [f_X0_takeSpare_L5] at h
      refine lv_iload_n hx hb dX0_takeSpare_5 rfl (lv_at hl 2 rfl) ?_
      refine lv_aload_n hx hb dX0_takeSpare_6 rfl (lv_at hl 0 rfl) ?_
      obtain ⟨v7, e7, h⟩ := Option.bind_eq_some_iff.mp h
      refine g_geti hx hb hts inlX0 hown hK hG (by rfl) 0 (by decide) qF_X0_9 e7 dX0_takeSpare_7 ?_
      refine lv_icmp_ge (tgt := 55) hx hb dX0_takeSpare_10 (by decide) (fun c10 => ?_) (fun c10 => ?_)
      · rw [if_pos c10] at h
        refine lv_iconst (v := (-1 : Int32)) hx hb dX0_takeSpare_55 (by decide) ?_
        obtain ⟨rfl, rfl⟩ := Prod.mk.inj (Option.some.inj h)
        exact g_iret hx hb hr hlocks hK hlo hG ⟨rfl, rfl⟩ dX0_takeSpare_56
      · rw [if_neg c10] at h
        refine lv_aload_n hx hb dX0_takeSpare_13 rfl (lv_at hl 0 rfl) ?_
        refine lv_iload_n hx hb dX0_takeSpare_14 rfl (lv_at hl 2 rfl) ?_
        obtain ⟨u15, i15, h⟩ := Option.bind_eq_some_iff.mp h
        obtain ⟨v15, e15, h⟩ := Option.bind_eq_some_iff.mp h
        refine g_cVi (As := [.int bx2]) (rest := []) (n := 1) hx hb hml hown hts hK hlo hG (m_X0_kindOf l dd cT lo G ba0 bx2 e15) qM_X0_69 qI_yX0_kindOf qS_X0_yX0_kindOf qN_X0 qC_yX0_kindOf (by decide +kernel) ⟨Nat.le_of_ble_eq_true rfl, Nat.le_of_ble_eq_true rfl⟩ (by rfl) i15 rfl hl.1 rfl (Nat.le_of_ble_eq_true rfl) dX0_takeSpare_15 ⟨Nat.le_of_ble_eq_true rfl, Nat.le_of_ble_eq_true rfl⟩ (fun H locs hG => ?_)
        refine lv_if_ne (tgt := 49) hx hb dX0_takeSpare_18 (by decide) (fun c18 => ?_) (fun c18 => ?_)
        · rw [if_neg c18] at h
          refine lv_iinc (v := (bx2 + (1 : Int32))) (lv' := [(2, .int (bx2 + (1 : Int32))), (0, .ref ba0), (1, .int bx1)]) hx hb dX0_takeSpare_49 hl (k := 2) rfl rfl (by decide) rfl (fun ls hl => ?_)
          refine lv_goto (tgt := 5) hx hb dX0_takeSpare_52 (by decide) ?_
          exact ih G ba0 bx1 (bx2 + (1 : Int32)) _ _ hG _ (lv_sub hl [1, 2, 0] rfl) h
        · rw [if_pos c18] at h
          refine lv_aload_n hx hb dX0_takeSpare_21 rfl (lv_at hl 0 rfl) ?_
          refine lv_iload_n hx hb dX0_takeSpare_22 rfl (lv_at hl 2 rfl) ?_
          obtain ⟨u23, i23, h⟩ := Option.bind_eq_some_iff.mp h
          obtain ⟨v23, e23, h⟩ := Option.bind_eq_some_iff.mp h
          refine g_cVi (As := [.int bx2]) (rest := []) (n := 1) hx hb hml hown hts hK hlo hG (m_X0_isBad l dd cT lo G ba0 bx2 e23) qM_X0_73 qI_yX0_isBad qS_X0_yX0_isBad qN_X0 qC_yX0_isBad (by decide +kernel) ⟨Nat.le_of_ble_eq_true rfl, Nat.le_of_ble_eq_true rfl⟩ (by rfl) i23 rfl hl.1 rfl (Nat.le_of_ble_eq_true rfl) dX0_takeSpare_23 ⟨Nat.le_of_ble_eq_true rfl, Nat.le_of_ble_eq_true rfl⟩ (fun H locs hG => ?_)
          refine lv_if_ne (tgt := 31) hx hb dX0_takeSpare_26 (by decide) (fun c26 => ?_) (fun c26 => ?_)
          · rw [if_neg c26] at h
            refine lv_aload_n hx hb dX0_takeSpare_31 rfl (lv_at hl 0 rfl) ?_
            obtain ⟨v32, e32, h⟩ := Option.bind_eq_some_iff.mp h
            refine g_getr hx hb hts inlX0 hown hK hG (by rfl) 3 (by decide) qF_X0_21 e32 dX0_takeSpare_32 ?_
            refine lv_iload_n hx hb dX0_takeSpare_35 rfl (lv_at hl 2 rfl) ?_
            refine lv_iconst (v := (3 : Int32)) hx hb dX0_takeSpare_36 (by decide) ?_
            obtain ⟨G37, e37, h⟩ := Option.bind_eq_some_iff.mp h
            refine g_cNv (As := [.ref v32, .int bx2, .int (3 : Int32)]) (rest := []) (n := 3) hx hb hml hown hts hK hlo hG (m_X9_put l dd cT lo G v32 bx2 (3 : Int32) e37) (List.mem_of_getElem? (i := 13) rfl) qT_yX9_put qN_X9 qC_yX9_put (by decide +kernel) ⟨Nat.le_of_ble_eq_true rfl, Nat.le_of_ble_eq_true rfl⟩ rfl hl.1 rfl (Nat.le_of_ble_eq_true rfl) dX0_takeSpare_37 ⟨Nat.le_of_ble_eq_true rfl, Nat.le_of_ble_eq_true rfl⟩ (fun H locs hG => ?_)
            refine lv_aload_n hx hb dX0_takeSpare_40 rfl (lv_at hl 0 rfl) ?_
            obtain ⟨v41, e41, h⟩ := Option.bind_eq_some_iff.mp h
            refine g_getr hx hb hts inlX0 hown hK hG (by rfl) 6 (by decide) qF_X0_32 e41 dX0_takeSpare_41 ?_
            refine lv_iload_n hx hb dX0_takeSpare_44 rfl (lv_at hl 2 rfl) ?_
            refine lv_iload_n hx hb dX0_takeSpare_45 rfl (lv_at hl 1 rfl) ?_
            obtain ⟨G46, e46, h⟩ := Option.bind_eq_some_iff.mp h
            refine g_cNv (As := [.ref v41, .int bx2, .int bx1]) (rest := []) (n := 3) hx hb hml hown hts hK hlo hG (m_X9_put l dd cT lo G37 v41 bx2 bx1 e46) (List.mem_of_getElem? (i := 13) rfl) qT_yX9_put qN_X9 qC_yX9_put (by decide +kernel) ⟨Nat.le_of_ble_eq_true rfl, Nat.le_of_ble_eq_true rfl⟩ rfl hl.1 rfl (Nat.le_of_ble_eq_true rfl) dX0_takeSpare_46 ⟨Nat.le_of_ble_eq_true rfl, Nat.le_of_ble_eq_true rfl⟩ (fun H locs hG => ?_)
            refine lv_iinc (v := (bx2 + (1 : Int32))) (lv' := [(2, .int (bx2 + (1 : Int32))), (0, .ref ba0), (1, .int bx1)]) hx hb dX0_takeSpare_49 hl (k := 2) rfl rfl (by decide) rfl (fun ls hl => ?_)
            refine lv_goto (tgt := 5) hx hb dX0_takeSpare_52 (by decide) ?_
            exact ih G46 ba0 bx1 (bx2 + (1 : Int32)) _ _ hG _ (lv_sub hl [1, 2, 0] rfl) h
          · rw [if_pos c26] at h
            refine lv_iload_n hx hb dX0_takeSpare_29 rfl (lv_at hl 2 rfl) ?_
            obtain ⟨rfl, rfl⟩ := Prod.mk.inj (Option.some.inj h)
            exact g_iret hx hb hr hlocks hK hlo hG ⟨rfl, rfl⟩ dX0_takeSpare_30
  unfold f_X0_takeSpare at h
  refine lv_aload_n hx hb dX0_takeSpare_0 rfl (lv_at hl 0 rfl) ?_
  obtain ⟨v1, e1, h⟩ := Option.bind_eq_some_iff.mp h
  refine g_geti hx hb hts inlX0 hown hK hG (by rfl) 1 (by decide) qF_X0_15 e1 dX0_takeSpare_1 ?_
  refine lv_istore_n (lv' := [(2, .int v1), (0, .ref a0), (1, .int x1)]) hx hb dX0_takeSpare_4 rfl hl (by decide) rfl (fun ls hl => ?_)
  exact h5 g_N G a0 x1 v1 _ _ hG _ (lv_sub hl [1, 2, 0] rfl) h
def f_X0_canRead_J48 (G : gH) (bx1 : Int32) : Option Int32 :=
    if bx1 = (-1 : Int32) then
    some (0 : Int32)
    else
    some (1 : Int32)
def f_X0_canRead_L2 (G : gH) : Nat → Nat → Int32 → Int32 → Int32 → Option Int32
  | 0, _, _, _, _ => none
  | n + 1, ba0, bx1, bx2, bx3 =>
    if bx3 < 0 then
    f_X0_canRead_J48 G bx1
    else
    if (bx1 + bx2) ≤ bx3 then
    f_X0_canRead_J48 G bx1
    else
    (g_i G ba0 0 1).bind fun v15 =>
    if v15 ≤ bx3 then
    f_X0_canRead_J48 G bx1
    else
    (g_r G ba0 0 5).bind fun v22 =>
    (g_r G ba0 0 10).bind fun v26 =>
    (f_X9_at G v26 bx3 (-1 : Int32)).bind fun v31 =>
    (f_X9_isSet G v22 v31).bind fun v34 =>
    if v34 = 0 then
    f_X0_canRead_L2 G n ba0 bx1 bx2 (bx3 + (1 : Int32))
    else
    some (0 : Int32)
def f_X0_canRead (G : gH) (a0 : Nat) (x1 : Int32) (x2 : Int32) : Option Int32 :=
    f_X0_canRead_L2 G g_N a0 x1 x2 x1
set_option maxRecDepth 20000 in
set_option maxHeartbeats 4000000 in
theorem m_X0_canRead (l : Launch) (dd : va_G) (cT : Nat → ClassId) (lo : Nat) (G : gH) (a0 : Nat) (x1 : Int32) (x2 : Int32) {rz : Int32} (h : f_X0_canRead G a0 x1 x2 = some rz) : Met l yX0_canRead (Cond.code yX0_canRead cX0_canRead 4 (some .boolean) :: wsL_law) (g_rm 1 22 0 0) (va_Pc [.ref a0, .int x1, .int x2] (g_Pre lo dd cT G)) (va_Qi (g_is rz G) (g_Pre lo dd cT) (g_A lo)) 0 0 (g_A lo) := by
  refine g_start RX0 rfl (by decide) (Nat.le_of_ble_eq_true rfl) ?_
  intro p e s m below meth c hx hb hr hlocks hml hown hnm hts hK hG hlo ls hl
  have hl : lv_has ls 4 [(0, .ref a0), (1, .int x1), (2, .int x2)] := hl
  have hG : g_S lo dd cT s s.heap [] G := hG
  have h48 : ∀ (bx1 : Int32), ∀ (H : Heap) (locs : List Loc), g_S lo dd cT s H locs G → ∀ ls : Array Slot, lv_has ls 4 [(1, .int bx1)] → f_X0_canRead_J48 G bx1 = some rz → W p l e (g_rm 1 22 0 0) s m ([.ref a0, .int x1, .int x2] : List Value).toArray below meth c H locs 0 0 (MQ below (va_Qi (g_is rz G) (g_Pre lo dd cT) (g_A lo)) ([.ref a0, .int x1, .int x2] : List Value).toArray s 0 0 (g_A lo)) (F0 m 48 ls []) := by
    intro bx1 H locs hG ls hl h
    unfold f_X0_canRead_J48 at h
    refine lv_iload_n hx hb dX0_canRead_48 rfl (lv_at hl 0 rfl) ?_
    refine lv_iconst (v := (-1 : Int32)) hx hb dX0_canRead_49 (by decide) ?_
    refine lv_icmp_eq (tgt := 57) hx hb dX0_canRead_50 (by decide) (fun c50 => ?_) (fun c50 => ?_)
    · rw [if_pos c50] at h
      refine lv_iconst (v := (0 : Int32)) hx hb dX0_canRead_57 (by decide) ?_
      obtain rfl := Option.some.inj h
      exact g_zret hx hb hr hlocks hK hlo hG rfl ⟨rfl, rfl⟩ dX0_canRead_58
    · rw [if_neg c50] at h
      refine lv_iconst (v := (1 : Int32)) hx hb dX0_canRead_53 (by decide) ?_
      refine lv_goto (tgt := 58) hx hb dX0_canRead_54 (by decide) ?_
      obtain rfl := Option.some.inj h
      exact g_zret hx hb hr hlocks hK hlo hG rfl ⟨rfl, rfl⟩ dX0_canRead_58
  have h2 : ∀ n : Nat, ∀ (ba0 : Nat) (bx1 : Int32) (bx2 : Int32) (bx3 : Int32), ∀ (H : Heap) (locs : List Loc), g_S lo dd cT s H locs G → ∀ ls : Array Slot, lv_has ls 4 [(0, .ref ba0), (1, .int bx1), (2, .int bx2), (3, .int bx3)] → f_X0_canRead_L2 G n ba0 bx1 bx2 bx3 = some rz → W p l e (g_rm 1 22 0 0) s m ([.ref a0, .int x1, .int x2] : List Value).toArray below meth c H locs 0 0 (MQ below (va_Qi (g_is rz G) (g_Pre lo dd cT) (g_A lo)) ([.ref a0, .int x1, .int x2] : List Value).toArray s 0 0 (g_A lo)) (F0 m 2 ls []) := by
    intro n
    induction n with
    | zero =>
      intro ba0 bx1 bx2 bx3 H locs hG ls hl h
      cases (show (none : Option Int32) = some rz from h)
    | succ n ih =>
      intro ba0 bx1 bx2 bx3 H locs hG ls hl h
      rw [f_X0_canRead_L2] at h
      refine lv_iload_n hx hb dX0_canRead_2 rfl (lv_at hl 3 rfl) ?_
      refine lv_if_lt (tgt := 48) hx hb dX0_canRead_3 (by decide) (fun c3 => ?_) (fun c3 => ?_)
      · rw [if_pos c3] at h
        exact h48 bx1 _ _ hG _ (lv_sub hl [1] rfl) h
      · rw [if_neg c3] at h
        refine lv_iload_n hx hb dX0_canRead_6 rfl (lv_at hl 3 rfl) ?_
        refine lv_iload_n hx hb dX0_canRead_7 rfl (lv_at hl 1 rfl) ?_
        refine lv_iload_n hx hb dX0_canRead_8 rfl (lv_at hl 2 rfl) ?_
        refine lv_iadd hx hb dX0_canRead_9 ?_
        refine lv_icmp_ge (tgt := 48) hx hb dX0_canRead_10 (by decide) (fun c10 => ?_) (fun c10 => ?_)
        · rw [if_pos c10] at h
          exact h48 bx1 _ _ hG _ (lv_sub hl [1] rfl) h
        · rw [if_neg c10] at h
          refine lv_iload_n hx hb dX0_canRead_13 rfl (lv_at hl 3 rfl) ?_
          refine lv_aload_n hx hb dX0_canRead_14 rfl (lv_at hl 0 rfl) ?_
          obtain ⟨v15, e15, h⟩ := Option.bind_eq_some_iff.mp h
          refine g_geti hx hb hts inlX0 hown hK hG (by rfl) 1 (by decide) qF_X0_15 e15 dX0_canRead_15 ?_
          refine lv_icmp_ge (tgt := 48) hx hb dX0_canRead_18 (by decide) (fun c18 => ?_) (fun c18 => ?_)
          · rw [if_pos c18] at h
            exact h48 bx1 _ _ hG _ (lv_sub hl [1] rfl) h
          · rw [if_neg c18] at h
            refine lv_aload_n hx hb dX0_canRead_21 rfl (lv_at hl 0 rfl) ?_
            obtain ⟨v22, e22, h⟩ := Option.bind_eq_some_iff.mp h
            refine g_getr hx hb hts inlX0 hown hK hG (by rfl) 5 (by decide) qF_X0_29 e22 dX0_canRead_22 ?_
            refine lv_aload_n hx hb dX0_canRead_25 rfl (lv_at hl 0 rfl) ?_
            obtain ⟨v26, e26, h⟩ := Option.bind_eq_some_iff.mp h
            refine g_getr hx hb hts inlX0 hown hK hG (by rfl) 10 (by decide) qF_X0_44 e26 dX0_canRead_26 ?_
            refine lv_iload_n hx hb dX0_canRead_29 rfl (lv_at hl 3 rfl) ?_
            refine lv_iconst (v := (-1 : Int32)) hx hb dX0_canRead_30 (by decide) ?_
            obtain ⟨v31, e31, h⟩ := Option.bind_eq_some_iff.mp h
            refine g_cNi (As := [.ref v26, .int bx3, .int (-1 : Int32)]) (rest := [.ref v22]) (n := 3) hx hb hml hown hts hK hlo hG (m_X9_at l dd cT lo G v26 bx3 (-1 : Int32) e31) (List.mem_of_getElem? (i := 10) rfl) qT_yX9_at qN_X9 qC_yX9_at (by decide +kernel) ⟨Nat.le_of_ble_eq_true rfl, Nat.le_of_ble_eq_true rfl⟩ rfl hl.1 rfl (Nat.le_of_ble_eq_true rfl) dX0_canRead_31 ⟨Nat.le_of_ble_eq_true rfl, Nat.le_of_ble_eq_true rfl⟩ (fun H locs hG => ?_)
            obtain ⟨v34, e34, h⟩ := Option.bind_eq_some_iff.mp h
            refine g_cNi (As := [.ref v22, .int v31]) (rest := []) (n := 2) hx hb hml hown hts hK hlo hG (m_X9_isSet l dd cT lo G v22 v31 e34) (List.mem_of_getElem? (i := 11) rfl) qT_yX9_isSet qN_X9 qC_yX9_isSet (by decide +kernel) ⟨Nat.le_of_ble_eq_true rfl, Nat.le_of_ble_eq_true rfl⟩ rfl hl.1 rfl (Nat.le_of_ble_eq_true rfl) dX0_canRead_34 ⟨Nat.le_of_ble_eq_true rfl, Nat.le_of_ble_eq_true rfl⟩ (fun H locs hG => ?_)
            refine lv_if_eq (tgt := 42) hx hb dX0_canRead_37 (by decide) (fun c37 => ?_) (fun c37 => ?_)
            · rw [if_pos c37] at h
              refine lv_iinc (v := (bx3 + (1 : Int32))) (lv' := [(3, .int (bx3 + (1 : Int32))), (0, .ref ba0), (1, .int bx1), (2, .int bx2)]) hx hb dX0_canRead_42 hl (k := 3) rfl rfl (by decide) rfl (fun ls hl => ?_)
              refine lv_goto (tgt := 2) hx hb dX0_canRead_45 (by decide) ?_
              exact ih ba0 bx1 bx2 (bx3 + (1 : Int32)) _ _ hG _ (lv_sub hl [1, 2, 3, 0] rfl) h
            · rw [if_neg c37] at h
              refine lv_iconst (v := (0 : Int32)) hx hb dX0_canRead_40 (by decide) ?_
              obtain rfl := Option.some.inj h
              exact g_zret hx hb hr hlocks hK hlo hG rfl ⟨rfl, rfl⟩ dX0_canRead_41
  unfold f_X0_canRead at h
  refine lv_iload_n hx hb dX0_canRead_0 rfl (lv_at hl 1 rfl) ?_
  refine lv_istore_n (lv' := [(3, .int x1), (0, .ref a0), (1, .int x1), (2, .int x2)]) hx hb dX0_canRead_1 rfl hl (by decide) rfl (fun ls hl => ?_)
  exact h2 g_N a0 x1 x2 x1 _ _ hG _ (lv_sub hl [1, 2, 3, 0] rfl) h
def f_X0_makeBad (G : gH) (a0 : Nat) (x1 : Int32) : Option gH :=
    (g_r G a0 0 4).bind fun v1 =>
    (f_X9_mark G v1 x1 (1 : Int32)).bind fun G6 =>
    some G6
set_option maxRecDepth 20000 in
set_option maxHeartbeats 4000000 in
theorem m_X0_makeBad (l : Launch) (dd : va_G) (cT : Nat → ClassId) (lo : Nat) (G : gH) (a0 : Nat) (x1 : Int32) {Gz : gH} (h : f_X0_makeBad G a0 x1 = some Gz) : Met l yX0_makeBad (Cond.code yX0_makeBad cX0_makeBad 2 none :: wsL_law) (g_rm 1 22 0 0) (va_Pc [.ref a0, .int x1] (g_Pre lo dd cT G)) (va_Qv (g_iv Gz) (g_Pre lo dd cT) (g_A lo)) 0 0 (g_A lo) := by
  refine g_start RX0 rfl (by decide) (Nat.le_of_ble_eq_true rfl) ?_
  intro p e s m below meth c hx hb hr hlocks hml hown hnm hts hK hG hlo ls hl
  have hl : lv_has ls 2 [(0, .ref a0), (1, .int x1)] := hl
  have hG : g_S lo dd cT s s.heap [] G := hG
  unfold f_X0_makeBad at h
  refine lv_aload_n hx hb dX0_makeBad_0 rfl (lv_at hl 0 rfl) ?_
  obtain ⟨v1, e1, h⟩ := Option.bind_eq_some_iff.mp h
  refine g_getr hx hb hts inlX0 hown hK hG (by rfl) 4 (by decide) qF_X0_25 e1 dX0_makeBad_1 ?_
  refine lv_iload_n hx hb dX0_makeBad_4 rfl (lv_at hl 1 rfl) ?_
  refine lv_iconst (v := (1 : Int32)) hx hb dX0_makeBad_5 (by decide) ?_
  obtain ⟨G6, e6, h⟩ := Option.bind_eq_some_iff.mp h
  refine g_cNv (As := [.ref v1, .int x1, .int (1 : Int32)]) (rest := []) (n := 3) hx hb hml hown hts hK hlo hG (m_X9_mark l dd cT lo G v1 x1 (1 : Int32) e6) (List.mem_of_getElem? (i := 14) rfl) qT_yX9_mark qN_X9 qC_yX9_mark (by decide +kernel) ⟨Nat.le_of_ble_eq_true rfl, Nat.le_of_ble_eq_true rfl⟩ rfl hl.1 rfl (Nat.le_of_ble_eq_true rfl) dX0_makeBad_6 ⟨Nat.le_of_ble_eq_true rfl, Nat.le_of_ble_eq_true rfl⟩ (fun H locs hG => ?_)
  obtain rfl := Option.some.inj h
  exact g_vret hx hb hr hlocks hK hlo hG rfl dX0_makeBad_9
def f_X0_damage_J19 (G : gH) (bx1 : Int32) (z0 : Nat) : Option (gH × Int32) :=
    (f_X9_isSet G z0 bx1).bind fun v22 =>
    (f_X9_mark G z0 bx1 (1 : Int32)).bind fun G29 =>
    if v22 = 0 then
    some (G29, (1 : Int32))
    else
    some (G29, (0 : Int32))
def f_X0_damage (G : gH) (a0 : Nat) (x1 : Int32) : Option (gH × Int32) :=
    (g_ob G a0 0).bind fun u2 =>
    (f_X0_kindOf G a0 x1).bind fun v2 =>
    if v2 = 0 then
    (g_r G a0 0 4).bind fun v9 =>
    f_X0_damage_J19 G x1 v9
    else
    (g_r G a0 0 5).bind fun v16 =>
    f_X0_damage_J19 G x1 v16
set_option maxRecDepth 20000 in
set_option maxHeartbeats 4000000 in
theorem m_X0_damage (l : Launch) (dd : va_G) (cT : Nat → ClassId) (lo : Nat) (G : gH) (a0 : Nat) (x1 : Int32) {rz : Int32} {Gz : gH} (h : f_X0_damage G a0 x1 = some (Gz, rz)) : Met l yX0_damage (Cond.code yX0_damage cX0_damage 4 (some .boolean) :: wsL_law) (g_rm 2 43 0 0) (va_Pc [.ref a0, .int x1] (g_Pre lo dd cT G)) (va_Qi (g_is rz Gz) (g_Pre lo dd cT) (g_A lo)) 0 0 (g_A lo) := by
  refine g_start RX0 rfl (by decide) (Nat.le_of_ble_eq_true rfl) ?_
  intro p e s m below meth c hx hb hr hlocks hml hown hnm hts hK hG hlo ls hl
  have hl : lv_has ls 4 [(0, .ref a0), (1, .int x1)] := hl
  have hG : g_S lo dd cT s s.heap [] G := hG
  have h19 : ∀ (G : gH) (bx1 : Int32) (z0 : Nat), ∀ (H : Heap) (locs : List Loc), g_S lo dd cT s H locs G → ∀ ls : Array Slot, lv_has ls 4 [(1, .int bx1)] → f_X0_damage_J19 G bx1 z0 = some (Gz, rz) → W p l e (g_rm 2 43 0 0) s m ([.ref a0, .int x1] : List Value).toArray below meth c H locs 0 0 (MQ below (va_Qi (g_is rz Gz) (g_Pre lo dd cT) (g_A lo)) ([.ref a0, .int x1] : List Value).toArray s 0 0 (g_A lo)) (F0 m 19 ls [.ref z0]) := by
    intro G bx1 z0 H locs hG ls hl h
    unfold f_X0_damage_J19 at h
    refine lv_astore_n (lv' := [(2, .ref z0), (1, .int bx1)]) hx hb dX0_damage_19 rfl hl (by decide) rfl (fun ls hl => ?_)
    refine lv_aload_n hx hb dX0_damage_20 rfl (lv_at hl 0 rfl) ?_
    refine lv_iload_n hx hb dX0_damage_21 rfl (lv_at hl 1 rfl) ?_
    obtain ⟨v22, e22, h⟩ := Option.bind_eq_some_iff.mp h
    refine g_cNi (As := [.ref z0, .int bx1]) (rest := []) (n := 2) hx hb hml hown hts hK hlo hG (m_X9_isSet l dd cT lo G z0 bx1 e22) (List.mem_of_getElem? (i := 11) rfl) qT_yX9_isSet qN_X9 qC_yX9_isSet (by decide +kernel) ⟨Nat.le_of_ble_eq_true rfl, Nat.le_of_ble_eq_true rfl⟩ rfl hl.1 rfl (Nat.le_of_ble_eq_true rfl) dX0_damage_22 ⟨Nat.le_of_ble_eq_true rfl, Nat.le_of_ble_eq_true rfl⟩ (fun H locs hG => ?_)
    refine lv_istore_n (lv' := [(3, .int v22), (2, .ref z0), (1, .int bx1)]) hx hb dX0_damage_25 rfl hl (by decide) rfl (fun ls hl => ?_)
    refine lv_aload_n hx hb dX0_damage_26 rfl (lv_at hl 1 rfl) ?_
    refine lv_iload_n hx hb dX0_damage_27 rfl (lv_at hl 2 rfl) ?_
    refine lv_iconst (v := (1 : Int32)) hx hb dX0_damage_28 (by decide) ?_
    obtain ⟨G29, e29, h⟩ := Option.bind_eq_some_iff.mp h
    refine g_cNv (As := [.ref z0, .int bx1, .int (1 : Int32)]) (rest := []) (n := 3) hx hb hml hown hts hK hlo hG (m_X9_mark l dd cT lo G z0 bx1 (1 : Int32) e29) (List.mem_of_getElem? (i := 14) rfl) qT_yX9_mark qN_X9 qC_yX9_mark (by decide +kernel) ⟨Nat.le_of_ble_eq_true rfl, Nat.le_of_ble_eq_true rfl⟩ rfl hl.1 rfl (Nat.le_of_ble_eq_true rfl) dX0_damage_29 ⟨Nat.le_of_ble_eq_true rfl, Nat.le_of_ble_eq_true rfl⟩ (fun H locs hG => ?_)
    refine lv_iload_n hx hb dX0_damage_32 rfl (lv_at hl 0 rfl) ?_
    refine lv_if_ne (tgt := 40) hx hb dX0_damage_33 (by decide) (fun c33 => ?_) (fun c33 => ?_)
    · rw [if_neg c33] at h
      refine lv_iconst (v := (0 : Int32)) hx hb dX0_damage_40 (by decide) ?_
      obtain ⟨rfl, rfl⟩ := Prod.mk.inj (Option.some.inj h)
      exact g_zret hx hb hr hlocks hK hlo hG rfl ⟨rfl, rfl⟩ dX0_damage_41
    · rw [if_pos c33] at h
      refine lv_iconst (v := (1 : Int32)) hx hb dX0_damage_36 (by decide) ?_
      refine lv_goto (tgt := 41) hx hb dX0_damage_37 (by decide) ?_
      obtain ⟨rfl, rfl⟩ := Prod.mk.inj (Option.some.inj h)
      exact g_zret hx hb hr hlocks hK hlo hG rfl ⟨rfl, rfl⟩ dX0_damage_41
  unfold f_X0_damage at h
  refine lv_aload_n hx hb dX0_damage_0 rfl (lv_at hl 0 rfl) ?_
  refine lv_iload_n hx hb dX0_damage_1 rfl (lv_at hl 1 rfl) ?_
  obtain ⟨u2, i2, h⟩ := Option.bind_eq_some_iff.mp h
  obtain ⟨v2, e2, h⟩ := Option.bind_eq_some_iff.mp h
  refine g_cVi (As := [.int x1]) (rest := []) (n := 1) hx hb hml hown hts hK hlo hG (m_X0_kindOf l dd cT lo G a0 x1 e2) qM_X0_69 qI_yX0_kindOf qS_X0_yX0_kindOf qN_X0 qC_yX0_kindOf (by decide +kernel) ⟨Nat.le_of_ble_eq_true rfl, Nat.le_of_ble_eq_true rfl⟩ (by rfl) i2 rfl hl.1 rfl (Nat.le_of_ble_eq_true rfl) dX0_damage_2 ⟨Nat.le_of_ble_eq_true rfl, Nat.le_of_ble_eq_true rfl⟩ (fun H locs hG => ?_)
  refine lv_if_ne (tgt := 15) hx hb dX0_damage_5 (by decide) (fun c5 => ?_) (fun c5 => ?_)
  · rw [if_neg c5] at h
    refine lv_aload_n hx hb dX0_damage_15 rfl (lv_at hl 0 rfl) ?_
    obtain ⟨v16, e16, h⟩ := Option.bind_eq_some_iff.mp h
    refine g_getr hx hb hts inlX0 hown hK hG (by rfl) 5 (by decide) qF_X0_29 e16 dX0_damage_16 ?_
    exact h19 G x1 v16 _ _ hG _ (lv_sub hl [1] rfl) h
  · rw [if_pos c5] at h
    refine lv_aload_n hx hb dX0_damage_8 rfl (lv_at hl 0 rfl) ?_
    obtain ⟨v9, e9, h⟩ := Option.bind_eq_some_iff.mp h
    refine g_getr hx hb hts inlX0 hown hK hG (by rfl) 4 (by decide) qF_X0_25 e9 dX0_damage_9 ?_
    refine lv_goto (tgt := 19) hx hb dX0_damage_12 (by decide) ?_
    exact h19 G x1 v9 _ _ hG _ (lv_sub hl [1] rfl) h
def f_X1_format (G : gH) (a0 : Nat) (x1 : Int32) (x2 : Int32) : Option gH :=
    (g_r G a0 1 0).bind fun v1 =>
    (g_ob G v1 0).bind fun u6 =>
    (f_X0_format G v1 x1 x2).bind fun G6 =>
    (g_r G6 a0 1 1).bind fun v10 =>
    (g_put G6 v10 7 0 (.int (0 : Int32))).bind fun G14 =>
    (g_r G14 a0 1 2).bind fun v18 =>
    (g_put G14 v18 5 0 (.int (0 : Int32))).bind fun G22 =>
    (g_put G22 a0 1 3 (.int (0 : Int32))).bind fun G27 =>
    (g_put G27 a0 1 5 (.int (0 : Int32))).bind fun G32 =>
    some G32
set_option maxRecDepth 20000 in
set_option maxHeartbeats 4000000 in
theorem m_X1_format (l : Launch) (dd : va_G) (cT : Nat → ClassId) (lo : Nat) (G : gH) (a0 : Nat) (x1 : Int32) (x2 : Int32) {Gz : gH} (h : f_X1_format G a0 x1 x2 = some Gz) : Met l yX1_format (Cond.code yX1_format cX1_format 3 none :: wsL_law) (g_rm 2 44 0 0) (va_Pc [.ref a0, .int x1, .int x2] (g_Pre lo dd cT G)) (va_Qv (g_iv Gz) (g_Pre lo dd cT) (g_A lo)) 0 0 (g_A lo) := by
  refine g_start RX1 rfl (by decide) (Nat.le_of_ble_eq_true rfl) ?_
  intro p e s m below meth c hx hb hr hlocks hml hown hnm hts hK hG hlo ls hl
  have hl : lv_has ls 3 [(0, .ref a0), (1, .int x1), (2, .int x2)] := hl
  have hG : g_S lo dd cT s s.heap [] G := hG
  unfold f_X1_format at h
  refine lv_aload_n hx hb dX1_format_0 rfl (lv_at hl 0 rfl) ?_
  obtain ⟨v1, e1, h⟩ := Option.bind_eq_some_iff.mp h
  refine g_getr hx hb hts inlX1 hown hK hG (by rfl) 0 (by decide) qF_X1_12 e1 dX1_format_1 ?_
  refine lv_iload_n hx hb dX1_format_4 rfl (lv_at hl 1 rfl) ?_
  refine lv_iload_n hx hb dX1_format_5 rfl (lv_at hl 2 rfl) ?_
  obtain ⟨u6, i6, h⟩ := Option.bind_eq_some_iff.mp h
  obtain ⟨G6, e6, h⟩ := Option.bind_eq_some_iff.mp h
  refine g_cVv (As := [.int x1, .int x2]) (rest := []) (n := 2) hx hb hml hown hts hK hlo hG (m_X0_format l dd cT lo G v1 x1 x2 e6) qM_X1_51 qI_yX0_format qS_X0_yX0_format qN_X0 qC_yX0_format (by decide +kernel) ⟨Nat.le_of_ble_eq_true rfl, Nat.le_of_ble_eq_true rfl⟩ (by rfl) i6 rfl hl.1 rfl (Nat.le_of_ble_eq_true rfl) dX1_format_6 ⟨Nat.le_of_ble_eq_true rfl, Nat.le_of_ble_eq_true rfl⟩ (fun H locs hG => ?_)
  refine lv_aload_n hx hb dX1_format_9 rfl (lv_at hl 0 rfl) ?_
  obtain ⟨v10, e10, h⟩ := Option.bind_eq_some_iff.mp h
  refine g_getr hx hb hts inlX1 hown hK hG (by rfl) 1 (by decide) qF_X1_21 e10 dX1_format_10 ?_
  refine lv_iconst (v := (0 : Int32)) hx hb dX1_format_13 (by decide) ?_
  obtain ⟨G14, i14, h⟩ := Option.bind_eq_some_iff.mp h
  refine g_putv hx hb hts inlX7 tyX7 tyX7_ok nmX7 hown hK hG (by rfl) 0 (by decide) qF_X1_55 rfl rfl rfl rfl i14 dX1_format_14 (fun H locs hG => ?_)
  refine lv_aload_n hx hb dX1_format_17 rfl (lv_at hl 0 rfl) ?_
  obtain ⟨v18, e18, h⟩ := Option.bind_eq_some_iff.mp h
  refine g_getr hx hb hts inlX1 hown hK hG (by rfl) 2 (by decide) qF_X1_28 e18 dX1_format_18 ?_
  refine lv_iconst (v := (0 : Int32)) hx hb dX1_format_21 (by decide) ?_
  obtain ⟨G22, i22, h⟩ := Option.bind_eq_some_iff.mp h
  refine g_putv hx hb hts inlX5 tyX5 tyX5_ok nmX5 hown hK hG (by rfl) 0 (by decide) qF_X1_58 rfl rfl rfl rfl i22 dX1_format_22 (fun H locs hG => ?_)
  refine lv_aload_n hx hb dX1_format_25 rfl (lv_at hl 0 rfl) ?_
  refine lv_iconst (v := (0 : Int32)) hx hb dX1_format_26 (by decide) ?_
  obtain ⟨G27, i27, h⟩ := Option.bind_eq_some_iff.mp h
  refine g_putv hx hb hts inlX1 tyX1 tyX1_ok nmX1 hown hK hG (by rfl) 3 (by decide) qF_X1_32 rfl rfl rfl rfl i27 dX1_format_27 (fun H locs hG => ?_)
  refine lv_aload_n hx hb dX1_format_30 rfl (lv_at hl 0 rfl) ?_
  refine lv_iconst (v := (0 : Int32)) hx hb dX1_format_31 (by decide) ?_
  obtain ⟨G32, i32, h⟩ := Option.bind_eq_some_iff.mp h
  refine g_putv hx hb hts inlX1 tyX1 tyX1_ok nmX1 hown hK hG (by rfl) 5 (by decide) qF_X1_40 rfl rfl rfl rfl i32 dX1_format_32 (fun H locs hG => ?_)
  obtain rfl := Option.some.inj h
  exact g_vret hx hb hr hlocks hK hlo hG rfl dX1_format_35
def f_X1_begin (G : gH) (a0 : Nat) (a1 : Nat) : Option gH :=
    (g_i G a1 4 2).bind fun v2 =>
    (g_i G a1 4 3).bind fun v6 =>
    (g_ob G a0 1).bind fun u9 =>
    (f_X1_format G a0 v2 v6).bind fun G9 =>
    (g_i G9 a1 4 4).bind fun v14 =>
    (g_put G9 a0 1 3 (.int v14)).bind fun G17 =>
    (g_r G17 a1 4 5).bind fun v21 =>
    (g_r G17 a0 1 4).bind fun v25 =>
    (f_X9_copy__ G17 v21 v25).bind fun G28 =>
    some G28
set_option maxRecDepth 20000 in
set_option maxHeartbeats 4000000 in
theorem m_X1_begin (l : Launch) (dd : va_G) (cT : Nat → ClassId) (lo : Nat) (G : gH) (a0 : Nat) (a1 : Nat) {Gz : gH} (h : f_X1_begin G a0 a1 = some Gz) : Met l yX1_begin (Cond.code yX1_begin cX1_begin 2 none :: wsL_law) (g_rm 3 66 0 0) (va_Pc [.ref a0, .ref a1] (g_Pre lo dd cT G)) (va_Qv (g_iv Gz) (g_Pre lo dd cT) (g_A lo)) 0 0 (g_A lo) := by
  refine g_start RX1 rfl (by decide) (Nat.le_of_ble_eq_true rfl) ?_
  intro p e s m below meth c hx hb hr hlocks hml hown hnm hts hK hG hlo ls hl
  have hl : lv_has ls 2 [(0, .ref a0), (1, .ref a1)] := hl
  have hG : g_S lo dd cT s s.heap [] G := hG
  unfold f_X1_begin at h
  refine lv_aload_n hx hb dX1_begin_0 rfl (lv_at hl 0 rfl) ?_
  refine lv_aload_n hx hb dX1_begin_1 rfl (lv_at hl 1 rfl) ?_
  obtain ⟨v2, e2, h⟩ := Option.bind_eq_some_iff.mp h
  refine g_geti hx hb hts inlX4 hown hK hG (by rfl) 2 (by decide) qF_X1_59 e2 dX1_begin_2 ?_
  refine lv_aload_n hx hb dX1_begin_5 rfl (lv_at hl 1 rfl) ?_
  obtain ⟨v6, e6, h⟩ := Option.bind_eq_some_iff.mp h
  refine g_geti hx hb hts inlX4 hown hK hG (by rfl) 3 (by decide) qF_X1_63 e6 dX1_begin_6 ?_
  obtain ⟨u9, i9, h⟩ := Option.bind_eq_some_iff.mp h
  obtain ⟨G9, e9, h⟩ := Option.bind_eq_some_iff.mp h
  refine g_cVv (As := [.int v2, .int v6]) (rest := []) (n := 2) hx hb hml hown hts hK hlo hG (m_X1_format l dd cT lo G a0 v2 v6 e9) qM_X1_66 qI_yX1_format qS_X1_yX1_format qN_X1 qC_yX1_format (by decide +kernel) ⟨Nat.le_of_ble_eq_true rfl, Nat.le_of_ble_eq_true rfl⟩ (by rfl) i9 rfl hl.1 rfl (Nat.le_of_ble_eq_true rfl) dX1_begin_9 ⟨Nat.le_of_ble_eq_true rfl, Nat.le_of_ble_eq_true rfl⟩ (fun H locs hG => ?_)
  refine lv_aload_n hx hb dX1_begin_12 rfl (lv_at hl 0 rfl) ?_
  refine lv_aload_n hx hb dX1_begin_13 rfl (lv_at hl 1 rfl) ?_
  obtain ⟨v14, e14, h⟩ := Option.bind_eq_some_iff.mp h
  refine g_geti hx hb hts inlX4 hown hK hG (by rfl) 4 (by decide) qF_X1_67 e14 dX1_begin_14 ?_
  obtain ⟨G17, i17, h⟩ := Option.bind_eq_some_iff.mp h
  refine g_putv hx hb hts inlX1 tyX1 tyX1_ok nmX1 hown hK hG (by rfl) 3 (by decide) qF_X1_32 rfl rfl rfl rfl i17 dX1_begin_17 (fun H locs hG => ?_)
  refine lv_aload_n hx hb dX1_begin_20 rfl (lv_at hl 1 rfl) ?_
  obtain ⟨v21, e21, h⟩ := Option.bind_eq_some_iff.mp h
  refine g_getr hx hb hts inlX4 hown hK hG (by rfl) 5 (by decide) qF_X1_68 e21 dX1_begin_21 ?_
  refine lv_aload_n hx hb dX1_begin_24 rfl (lv_at hl 0 rfl) ?_
  obtain ⟨v25, e25, h⟩ := Option.bind_eq_some_iff.mp h
  refine g_getr hx hb hts inlX1 hown hK hG (by rfl) 4 (by decide) qF_X1_36 e25 dX1_begin_25 ?_
  obtain ⟨G28, e28, h⟩ := Option.bind_eq_some_iff.mp h
  refine g_cNv (As := [.ref v21, .ref v25]) (rest := []) (n := 2) hx hb hml hown hts hK hlo hG (m_X9_copy__ l dd cT lo G17 v21 v25 e28) (List.mem_of_getElem? (i := 19) rfl) qT_yX9_copy__ qN_X9 qC_yX9_copy__ (by decide +kernel) ⟨Nat.le_of_ble_eq_true rfl, Nat.le_of_ble_eq_true rfl⟩ rfl hl.1 rfl (Nat.le_of_ble_eq_true rfl) dX1_begin_28 ⟨Nat.le_of_ble_eq_true rfl, Nat.le_of_ble_eq_true rfl⟩ (fun H locs hG => ?_)
  obtain rfl := Option.some.inj h
  exact g_vret hx hb hr hlocks hK hlo hG rfl dX1_begin_31
def f_X1_fileNamed (G : gH) (a0 : Nat) (x1 : Int64) : Option Int32 :=
    (g_r G a0 1 4).bind fun v1 =>
    (g_i G a0 1 3).bind fun v5 =>
    (f_X9_indexOf G v1 v5 x1).bind fun v9 =>
    some v9
set_option maxRecDepth 20000 in
set_option maxHeartbeats 4000000 in
theorem m_X1_fileNamed (l : Launch) (dd : va_G) (cT : Nat → ClassId) (lo : Nat) (G : gH) (a0 : Nat) (x1 : Int64) {rz : Int32} (h : f_X1_fileNamed G a0 x1 = some rz) : Met l yX1_fileNamed (Cond.code yX1_fileNamed cX1_fileNamed 3 (some .int) :: wsL_law) (g_rm 1 24 0 0) (va_Pc [.ref a0, .long x1] (g_Pre lo dd cT G)) (va_Qi (g_is rz G) (g_Pre lo dd cT) (g_A lo)) 0 0 (g_A lo) := by
  refine g_start RX1 rfl (by decide) (Nat.le_of_ble_eq_true rfl) ?_
  intro p e s m below meth c hx hb hr hlocks hml hown hnm hts hK hG hlo ls hl
  have hl : lv_has ls 3 [(0, .ref a0), (1, .long x1)] := hl
  have hG : g_S lo dd cT s s.heap [] G := hG
  unfold f_X1_fileNamed at h
  refine lv_aload_n hx hb dX1_fileNamed_0 rfl (lv_at hl 0 rfl) ?_
  obtain ⟨v1, e1, h⟩ := Option.bind_eq_some_iff.mp h
  refine g_getr hx hb hts inlX1 hown hK hG (by rfl) 4 (by decide) qF_X1_36 e1 dX1_fileNamed_1 ?_
  refine lv_aload_n hx hb dX1_fileNamed_4 rfl (lv_at hl 0 rfl) ?_
  obtain ⟨v5, e5, h⟩ := Option.bind_eq_some_iff.mp h
  refine g_geti hx hb hts inlX1 hown hK hG (by rfl) 3 (by decide) qF_X1_32 e5 dX1_fileNamed_5 ?_
  refine lv_lload_n hx hb dX1_fileNamed_8 rfl (lv_at hl 1 rfl) ?_
  obtain ⟨v9, e9, h⟩ := Option.bind_eq_some_iff.mp h
  refine g_cNi (As := [.ref v1, .int v5, .long x1]) (rest := []) (n := 3) hx hb hml hown hts hK hlo hG (m_X9_indexOf l dd cT lo G v1 v5 x1 e9) (List.mem_of_getElem? (i := 20) rfl) qT_yX9_indexOf qN_X9 qC_yX9_indexOf (by decide +kernel) ⟨Nat.le_of_ble_eq_true rfl, Nat.le_of_ble_eq_true rfl⟩ rfl hl.1 rfl (Nat.le_of_ble_eq_true rfl) dX1_fileNamed_9 ⟨Nat.le_of_ble_eq_true rfl, Nat.le_of_ble_eq_true rfl⟩ (fun H locs hG => ?_)
  obtain rfl := Option.some.inj h
  exact g_iret hx hb hr hlocks hK hlo hG ⟨rfl, rfl⟩ dX1_fileNamed_12
def f_X1_reasonAgainstDirectory (G : gH) (a0 : Nat) (x1 : Int32) : Option Int32 :=
    (f_X9_directoryLength G x1).bind fun v1 =>
    (g_r G a0 1 0).bind fun v6 =>
    (g_ob G v6 0).bind fun u10 =>
    (f_X0_hasRoomFor G v6 v1).bind fun v10 =>
    if v10 = 0 then
    some (4 : Int32)
    else
    (g_r G a0 1 0).bind fun v19 =>
    (g_ob G v19 0).bind fun u23 =>
    (f_X0_canRelocate G v19 v1).bind fun v23 =>
    if v23 = 0 then
    some (5 : Int32)
    else
    some (0 : Int32)
set_option maxRecDepth 20000 in
set_option maxHeartbeats 4000000 in
theorem m_X1_reasonAgainstDirectory (l : Launch) (dd : va_G) (cT : Nat → ClassId) (lo : Nat) (G : gH) (a0 : Nat) (x1 : Int32) {rz : Int32} (h : f_X1_reasonAgainstDirectory G a0 x1 = some rz) : Met l yX1_reasonAgainstDirectory (Cond.code yX1_reasonAgainstDirectory cX1_reasonAgainstDirectory 3 (some .int) :: wsL_law) (g_rm 3 67 0 0) (va_Pc [.ref a0, .int x1] (g_Pre lo dd cT G)) (va_Qi (g_is rz G) (g_Pre lo dd cT) (g_A lo)) 0 0 (g_A lo) := by
  refine g_start RX1 rfl (by decide) (Nat.le_of_ble_eq_true rfl) ?_
  intro p e s m below meth c hx hb hr hlocks hml hown hnm hts hK hG hlo ls hl
  have hl : lv_has ls 3 [(0, .ref a0), (1, .int x1)] := hl
  have hG : g_S lo dd cT s s.heap [] G := hG
  unfold f_X1_reasonAgainstDirectory at h
  refine lv_iload_n hx hb dX1_reasonAgainstDirectory_0 rfl (lv_at hl 1 rfl) ?_
  obtain ⟨v1, e1, h⟩ := Option.bind_eq_some_iff.mp h
  refine g_cNi (As := [.int x1]) (rest := []) (n := 1) hx hb hml hown hts hK hlo hG (m_X9_directoryLength l dd cT lo G x1 e1) (List.mem_of_getElem? (i := 23) rfl) qT_yX9_directoryLength qN_X9 qC_yX9_directoryLength (by decide +kernel) ⟨Nat.le_of_ble_eq_true rfl, Nat.le_of_ble_eq_true rfl⟩ rfl hl.1 rfl (Nat.le_of_ble_eq_true rfl) dX1_reasonAgainstDirectory_1 ⟨Nat.le_of_ble_eq_true rfl, Nat.le_of_ble_eq_true rfl⟩ (fun H locs hG => ?_)
  refine lv_istore_n (lv' := [(2, .int v1), (0, .ref a0), (1, .int x1)]) hx hb dX1_reasonAgainstDirectory_4 rfl hl (by decide) rfl (fun ls hl => ?_)
  refine lv_aload_n hx hb dX1_reasonAgainstDirectory_5 rfl (lv_at hl 1 rfl) ?_
  obtain ⟨v6, e6, h⟩ := Option.bind_eq_some_iff.mp h
  refine g_getr hx hb hts inlX1 hown hK hG (by rfl) 0 (by decide) qF_X1_12 e6 dX1_reasonAgainstDirectory_6 ?_
  refine lv_iload_n hx hb dX1_reasonAgainstDirectory_9 rfl (lv_at hl 0 rfl) ?_
  obtain ⟨u10, i10, h⟩ := Option.bind_eq_some_iff.mp h
  obtain ⟨v10, e10, h⟩ := Option.bind_eq_some_iff.mp h
  refine g_cVi (As := [.int v1]) (rest := []) (n := 1) hx hb hml hown hts hK hlo hG (m_X0_hasRoomFor l dd cT lo G v6 v1 e10) qM_X1_190 qI_yX0_hasRoomFor qS_X0_yX0_hasRoomFor qN_X0 qC_yX0_hasRoomFor (by decide +kernel) ⟨Nat.le_of_ble_eq_true rfl, Nat.le_of_ble_eq_true rfl⟩ (by rfl) i10 rfl hl.1 rfl (Nat.le_of_ble_eq_true rfl) dX1_reasonAgainstDirectory_10 ⟨Nat.le_of_ble_eq_true rfl, Nat.le_of_ble_eq_true rfl⟩ (fun H locs hG => ?_)
  refine lv_if_ne (tgt := 18) hx hb dX1_reasonAgainstDirectory_13 (by decide) (fun c13 => ?_) (fun c13 => ?_)
  · rw [if_neg c13] at h
    refine lv_aload_n hx hb dX1_reasonAgainstDirectory_18 rfl (lv_at hl 1 rfl) ?_
    obtain ⟨v19, e19, h⟩ := Option.bind_eq_some_iff.mp h
    refine g_getr hx hb hts inlX1 hown hK hG (by rfl) 0 (by decide) qF_X1_12 e19 dX1_reasonAgainstDirectory_19 ?_
    refine lv_iload_n hx hb dX1_reasonAgainstDirectory_22 rfl (lv_at hl 0 rfl) ?_
    obtain ⟨u23, i23, h⟩ := Option.bind_eq_some_iff.mp h
    obtain ⟨v23, e23, h⟩ := Option.bind_eq_some_iff.mp h
    refine g_cVi (As := [.int v1]) (rest := []) (n := 1) hx hb hml hown hts hK hlo hG (m_X0_canRelocate l dd cT lo G v19 v1 e23) qM_X1_193 qI_yX0_canRelocate qS_X0_yX0_canRelocate qN_X0 qC_yX0_canRelocate (by decide +kernel) ⟨Nat.le_of_ble_eq_true rfl, Nat.le_of_ble_eq_true rfl⟩ (by rfl) i23 rfl hl.1 rfl (Nat.le_of_ble_eq_true rfl) dX1_reasonAgainstDirectory_23 ⟨Nat.le_of_ble_eq_true rfl, Nat.le_of_ble_eq_true rfl⟩ (fun H locs hG => ?_)
    refine lv_if_eq (tgt := 33) hx hb dX1_reasonAgainstDirectory_26 (by decide) (fun c26 => ?_) (fun c26 => ?_)
    · rw [if_pos c26] at h
      refine lv_iconst (v := (5 : Int32)) hx hb dX1_reasonAgainstDirectory_33 (by decide) ?_
      obtain rfl := Option.some.inj h
      exact g_iret hx hb hr hlocks hK hlo hG ⟨rfl, rfl⟩ dX1_reasonAgainstDirectory_34
    · rw [if_neg c26] at h
      refine lv_iconst (v := (0 : Int32)) hx hb dX1_reasonAgainstDirectory_29 (by decide) ?_
      refine lv_goto (tgt := 34) hx hb dX1_reasonAgainstDirectory_30 (by decide) ?_
      obtain rfl := Option.some.inj h
      exact g_iret hx hb hr hlocks hK hlo hG ⟨rfl, rfl⟩ dX1_reasonAgainstDirectory_34
  · rw [if_pos c13] at h
    refine lv_iconst (v := (4 : Int32)) hx hb dX1_reasonAgainstDirectory_16 (by decide) ?_
    obtain rfl := Option.some.inj h
    exact g_iret hx hb hr hlocks hK hlo hG ⟨rfl, rfl⟩ dX1_reasonAgainstDirectory_17
def f_X10_append (G : gH) (a0 : Nat) (x1 : Int32) (x2 : Int32) (x3 : Int32) (x4 : Int32) (x5 : Int32) : Option (gH × Int32) :=
    (g_put G a0 10 0 (.int (0 : Int32))).bind fun G2 =>
    (g_i G2 a0 10 4).bind fun v6 =>
    if (v6 + (20 : Int32)) ≤ (600 : Int32) then
    (g_ob G2 a0 10).bind fun u22 =>
    (f_X10_bytesOf G2 a0 x1).bind fun G22 =>
    (g_ob G22 a0 10).bind fun u27 =>
    (f_X10_bytesOf G22 a0 x2).bind fun G27 =>
    (g_ob G27 a0 10).bind fun u32 =>
    (f_X10_bytesOf G27 a0 x3).bind fun G32 =>
    (g_ob G32 a0 10).bind fun u38 =>
    (f_X10_bytesOf G32 a0 x4).bind fun G38 =>
    (g_ob G38 a0 10).bind fun u44 =>
    (f_X10_bytesOf G38 a0 x5).bind fun G44 =>
    (g_i G44 a0 10 4).bind fun v48 =>
    some (G44, v48)
    else
    some (G2, (-1 : Int32))
set_option maxRecDepth 20000 in
set_option maxHeartbeats 4000000 in
theorem m_X10_append (l : Launch) (dd : va_G) (cT : Nat → ClassId) (lo : Nat) (G : gH) (a0 : Nat) (x1 : Int32) (x2 : Int32) (x3 : Int32) (x4 : Int32) (x5 : Int32) {rz : Int32} {Gz : gH} (h : f_X10_append G a0 x1 x2 x3 x4 x5 = some (Gz, rz)) : Met l yX10_append (Cond.code yX10_append cX10_append 6 (some .int) :: wsL_law) (g_rm 1 22 0 0) (va_Pc [.ref a0, .int x1, .int x2, .int x3, .int x4, .int x5] (g_Pre lo dd cT G)) (va_Qi (g_is rz Gz) (g_Pre lo dd cT) (g_A lo)) 0 0 (g_A lo) := by
  refine g_start RX10 rfl (by decide) (Nat.le_of_ble_eq_true rfl) ?_
  intro p e s m below meth c hx hb hr hlocks hml hown hnm hts hK hG hlo ls hl
  have hl : lv_has ls 6 [(0, .ref a0), (1, .int x1), (2, .int x2), (3, .int x3), (4, .int x4), (5, .int x5)] := hl
  have hG : g_S lo dd cT s s.heap [] G := hG
  unfold f_X10_append at h
  refine lv_aload_n hx hb dX10_append_0 rfl (lv_at hl 0 rfl) ?_
  refine lv_iconst (v := (0 : Int32)) hx hb dX10_append_1 (by decide) ?_
  obtain ⟨G2, i2, h⟩ := Option.bind_eq_some_iff.mp h
  refine g_putv hx hb hts inlX10 tyX10 tyX10_ok nmX10 hown hK hG (by rfl) 0 (by decide) qF_X10_50 rfl rfl rfl rfl i2 dX10_append_2 (fun H locs hG => ?_)
  refine lv_aload_n hx hb dX10_append_5 rfl (lv_at hl 0 rfl) ?_
  obtain ⟨v6, e6, h⟩ := Option.bind_eq_some_iff.mp h
  refine g_geti hx hb hts inlX10 hown hK hG (by rfl) 4 (by decide) qF_X10_53 e6 dX10_append_6 ?_
  refine lv_bipush (v := (20 : Int32)) hx hb dX10_append_9 (by decide) ?_
  refine lv_iadd hx hb dX10_append_11 ?_
  refine lv_sipush (v := (600 : Int32)) hx hb dX10_append_12 (by decide) ?_
  refine lv_icmp_le (tgt := 20) hx hb dX10_append_15 (by decide) (fun c15 => ?_) (fun c15 => ?_)
  · rw [if_pos c15] at h
    refine lv_aload_n hx hb dX10_append_20 rfl (lv_at hl 0 rfl) ?_
    refine lv_iload_n hx hb dX10_append_21 rfl (lv_at hl 1 rfl) ?_
    obtain ⟨u22, i22, h⟩ := Option.bind_eq_some_iff.mp h
    obtain ⟨G22, e22, h⟩ := Option.bind_eq_some_iff.mp h
    refine g_cVv (As := [.int x1]) (rest := []) (n := 1) hx hb hml hown hts hK hlo hG (m_X10_bytesOf l dd cT lo G2 a0 x1 e22) qM_X10_56 qI_yX10_bytesOf qS_X10_yX10_bytesOf qN_X10 qC_yX10_bytesOf (by decide +kernel) ⟨Nat.le_of_ble_eq_true rfl, Nat.le_of_ble_eq_true rfl⟩ (by rfl) i22 rfl hl.1 rfl (Nat.le_of_ble_eq_true rfl) dX10_append_22 ⟨Nat.le_of_ble_eq_true rfl, Nat.le_of_ble_eq_true rfl⟩ (fun H locs hG => ?_)
    refine lv_aload_n hx hb dX10_append_25 rfl (lv_at hl 0 rfl) ?_
    refine lv_iload_n hx hb dX10_append_26 rfl (lv_at hl 2 rfl) ?_
    obtain ⟨u27, i27, h⟩ := Option.bind_eq_some_iff.mp h
    obtain ⟨G27, e27, h⟩ := Option.bind_eq_some_iff.mp h
    refine g_cVv (As := [.int x2]) (rest := []) (n := 1) hx hb hml hown hts hK hlo hG (m_X10_bytesOf l dd cT lo G22 a0 x2 e27) qM_X10_56 qI_yX10_bytesOf qS_X10_yX10_bytesOf qN_X10 qC_yX10_bytesOf (by decide +kernel) ⟨Nat.le_of_ble_eq_true rfl, Nat.le_of_ble_eq_true rfl⟩ (by rfl) i27 rfl hl.1 rfl (Nat.le_of_ble_eq_true rfl) dX10_append_27 ⟨Nat.le_of_ble_eq_true rfl, Nat.le_of_ble_eq_true rfl⟩ (fun H locs hG => ?_)
    refine lv_aload_n hx hb dX10_append_30 rfl (lv_at hl 0 rfl) ?_
    refine lv_iload_n hx hb dX10_append_31 rfl (lv_at hl 3 rfl) ?_
    obtain ⟨u32, i32, h⟩ := Option.bind_eq_some_iff.mp h
    obtain ⟨G32, e32, h⟩ := Option.bind_eq_some_iff.mp h
    refine g_cVv (As := [.int x3]) (rest := []) (n := 1) hx hb hml hown hts hK hlo hG (m_X10_bytesOf l dd cT lo G27 a0 x3 e32) qM_X10_56 qI_yX10_bytesOf qS_X10_yX10_bytesOf qN_X10 qC_yX10_bytesOf (by decide +kernel) ⟨Nat.le_of_ble_eq_true rfl, Nat.le_of_ble_eq_true rfl⟩ (by rfl) i32 rfl hl.1 rfl (Nat.le_of_ble_eq_true rfl) dX10_append_32 ⟨Nat.le_of_ble_eq_true rfl, Nat.le_of_ble_eq_true rfl⟩ (fun H locs hG => ?_)
    refine lv_aload_n hx hb dX10_append_35 rfl (lv_at hl 0 rfl) ?_
    refine lv_iload hx hb dX10_append_36 (lv_at hl 4 rfl) ?_
    obtain ⟨u38, i38, h⟩ := Option.bind_eq_some_iff.mp h
    obtain ⟨G38, e38, h⟩ := Option.bind_eq_some_iff.mp h
    refine g_cVv (As := [.int x4]) (rest := []) (n := 1) hx hb hml hown hts hK hlo hG (m_X10_bytesOf l dd cT lo G32 a0 x4 e38) qM_X10_56 qI_yX10_bytesOf qS_X10_yX10_bytesOf qN_X10 qC_yX10_bytesOf (by decide +kernel) ⟨Nat.le_of_ble_eq_true rfl, Nat.le_of_ble_eq_true rfl⟩ (by rfl) i38 rfl hl.1 rfl (Nat.le_of_ble_eq_true rfl) dX10_append_38 ⟨Nat.le_of_ble_eq_true rfl, Nat.le_of_ble_eq_true rfl⟩ (fun H locs hG => ?_)
    refine lv_aload_n hx hb dX10_append_41 rfl (lv_at hl 0 rfl) ?_
    refine lv_iload hx hb dX10_append_42 (lv_at hl 5 rfl) ?_
    obtain ⟨u44, i44, h⟩ := Option.bind_eq_some_iff.mp h
    obtain ⟨G44, e44, h⟩ := Option.bind_eq_some_iff.mp h
    refine g_cVv (As := [.int x5]) (rest := []) (n := 1) hx hb hml hown hts hK hlo hG (m_X10_bytesOf l dd cT lo G38 a0 x5 e44) qM_X10_56 qI_yX10_bytesOf qS_X10_yX10_bytesOf qN_X10 qC_yX10_bytesOf (by decide +kernel) ⟨Nat.le_of_ble_eq_true rfl, Nat.le_of_ble_eq_true rfl⟩ (by rfl) i44 rfl hl.1 rfl (Nat.le_of_ble_eq_true rfl) dX10_append_44 ⟨Nat.le_of_ble_eq_true rfl, Nat.le_of_ble_eq_true rfl⟩ (fun H locs hG => ?_)
    refine lv_aload_n hx hb dX10_append_47 rfl (lv_at hl 0 rfl) ?_
    obtain ⟨v48, e48, h⟩ := Option.bind_eq_some_iff.mp h
    refine g_geti hx hb hts inlX10 hown hK hG (by rfl) 4 (by decide) qF_X10_53 e48 dX10_append_48 ?_
    obtain ⟨rfl, rfl⟩ := Prod.mk.inj (Option.some.inj h)
    exact g_iret hx hb hr hlocks hK hlo hG ⟨rfl, rfl⟩ dX10_append_51
  · rw [if_neg c15] at h
    refine lv_iconst (v := (-1 : Int32)) hx hb dX10_append_18 (by decide) ?_
    obtain ⟨rfl, rfl⟩ := Prod.mk.inj (Option.some.inj h)
    exact g_iret hx hb hr hlocks hK hlo hG ⟨rfl, rfl⟩ dX10_append_19
def f_X10_writeLine (G : gH) (a0 : Nat) (x1 : Int32) : Option (gH × Int32) :=
    (g_ob G a0 10).bind fun u1 =>
    (f_X10_advance G a0).bind fun G1 =>
    (g_ob G1 a0 10).bind fun u5 =>
    (f_X10_takesFile G1 a0).bind fun q5 =>
    if q5.2 = 0 then
    some (q5.1, (0 : Int32))
    else
    (g_ob q5.1 a0 10).bind fun u15 =>
    (f_X10_takes q5.1 a0 (1 : Int32) (8 : Int32)).bind fun q15 =>
    if q15.2 = 0 then
    some (q15.1, (0 : Int32))
    else
    (g_i q15.1 a0 10 13).bind fun v24 =>
    (g_ob q15.1 a0 10).bind fun u33 =>
    (f_X10_takes q15.1 a0 (0 : Int32) (999 : Int32)).bind fun q33 =>
    if q33.2 = 0 then
    some (q33.1, (0 : Int32))
    else
    (g_i q33.1 a0 10 16).bind fun v43 =>
    (g_ob q33.1 a0 10).bind fun u47 =>
    (f_X10_whyWrite q33.1 a0 v43 v24).bind fun v47 =>
    if v47 ≤ 0 then
    (g_i q33.1 a0 10 16).bind fun v63 =>
    (g_i q33.1 a0 10 13).bind fun v68 =>
    (g_ob q33.1 a0 10).bind fun u71 =>
    (f_X10_writes q33.1 a0 v63 v24 v68).bind fun q71 =>
    some (q71.1, (1 : Int32))
    else
    (g_ob q33.1 a0 10).bind fun u57 =>
    (f_X10_failsAt q33.1 a0 (6 : Int32) x1).bind fun q57 =>
    (g_z q57.2).bind fun w60 => some (q57.1, w60)
set_option maxRecDepth 20000 in
set_option maxHeartbeats 4000000 in
theorem m_X10_writeLine (l : Launch) (dd : va_G) (cT : Nat → ClassId) (lo : Nat) (G : gH) (a0 : Nat) (x1 : Int32) {rz : Int32} {Gz : gH} (h : f_X10_writeLine G a0 x1 = some (Gz, rz)) : Met l yX10_writeLine (Cond.code yX10_writeLine cX10_writeLine 4 (some .boolean) :: wsL_law) (g_rm 5 105 0 0) (va_Pc [.ref a0, .int x1] (g_Pre lo dd cT G)) (va_Qi (g_is rz Gz) (g_Pre lo dd cT) (g_A lo)) 0 0 (g_A lo) := by
  refine g_start RX10 rfl (by decide) (Nat.le_of_ble_eq_true rfl) ?_
  intro p e s m below meth c hx hb hr hlocks hml hown hnm hts hK hG hlo ls hl
  have hl : lv_has ls 4 [(0, .ref a0), (1, .int x1)] := hl
  have hG : g_S lo dd cT s s.heap [] G := hG
  unfold f_X10_writeLine at h
  refine lv_aload_n hx hb dX10_writeLine_0 rfl (lv_at hl 0 rfl) ?_
  obtain ⟨u1, i1, h⟩ := Option.bind_eq_some_iff.mp h
  obtain ⟨G1, e1, h⟩ := Option.bind_eq_some_iff.mp h
  refine g_cVv (As := []) (rest := []) (n := 0) hx hb hml hown hts hK hlo hG (m_X10_advance l dd cT lo G a0 e1) qM_X10_110 qI_yX10_advance qS_X10_yX10_advance qN_X10 qC_yX10_advance (by decide +kernel) ⟨Nat.le_of_ble_eq_true rfl, Nat.le_of_ble_eq_true rfl⟩ (by rfl) i1 rfl hl.1 rfl (Nat.le_of_ble_eq_true rfl) dX10_writeLine_1 ⟨Nat.le_of_ble_eq_true rfl, Nat.le_of_ble_eq_true rfl⟩ (fun H locs hG => ?_)
  refine lv_aload_n hx hb dX10_writeLine_4 rfl (lv_at hl 0 rfl) ?_
  obtain ⟨u5, i5, h⟩ := Option.bind_eq_some_iff.mp h
  obtain ⟨q5, e5, h⟩ := Option.bind_eq_some_iff.mp h
  refine g_cVi (As := []) (rest := []) (n := 0) hx hb hml hown hts hK hlo hG (m_X10_takesFile l dd cT lo G1 a0 e5) qM_X10_130 qI_yX10_takesFile qS_X10_yX10_takesFile qN_X10 qC_yX10_takesFile (by decide +kernel) ⟨Nat.le_of_ble_eq_true rfl, Nat.le_of_ble_eq_true rfl⟩ (by rfl) i5 rfl hl.1 rfl (Nat.le_of_ble_eq_true rfl) dX10_writeLine_5 ⟨Nat.le_of_ble_eq_true rfl, Nat.le_of_ble_eq_true rfl⟩ (fun H locs hG => ?_)
  refine lv_if_eq (tgt := 21) hx hb dX10_writeLine_8 (by decide) (fun c8 => ?_) (fun c8 => ?_)
  · rw [if_pos c8] at h
    refine lv_iconst (v := (0 : Int32)) hx hb dX10_writeLine_21 (by decide) ?_
    obtain ⟨rfl, rfl⟩ := Prod.mk.inj (Option.some.inj h)
    exact g_zret hx hb hr hlocks hK hlo hG rfl ⟨rfl, rfl⟩ dX10_writeLine_22
  · rw [if_neg c8] at h
    refine lv_aload_n hx hb dX10_writeLine_11 rfl (lv_at hl 0 rfl) ?_
    refine lv_iconst (v := (1 : Int32)) hx hb dX10_writeLine_12 (by decide) ?_
    refine lv_bipush (v := (8 : Int32)) hx hb dX10_writeLine_13 (by decide) ?_
    obtain ⟨u15, i15, h⟩ := Option.bind_eq_some_iff.mp h
    obtain ⟨q15, e15, h⟩ := Option.bind_eq_some_iff.mp h
    refine g_cVi (As := [.int (1 : Int32), .int (8 : Int32)]) (rest := []) (n := 2) hx hb hml hown hts hK hlo hG (m_X10_takes l dd cT lo q5.1 a0 (1 : Int32) (8 : Int32) e15) qM_X10_120 qI_yX10_takes qS_X10_yX10_takes qN_X10 qC_yX10_takes (by decide +kernel) ⟨Nat.le_of_ble_eq_true rfl, Nat.le_of_ble_eq_true rfl⟩ (by rfl) i15 rfl hl.1 rfl (Nat.le_of_ble_eq_true rfl) dX10_writeLine_15 ⟨Nat.le_of_ble_eq_true rfl, Nat.le_of_ble_eq_true rfl⟩ (fun H locs hG => ?_)
    refine lv_if_ne (tgt := 23) hx hb dX10_writeLine_18 (by decide) (fun c18 => ?_) (fun c18 => ?_)
    · rw [if_neg c18] at h
      refine lv_aload_n hx hb dX10_writeLine_23 rfl (lv_at hl 0 rfl) ?_
      obtain ⟨v24, e24, h⟩ := Option.bind_eq_some_iff.mp h
      refine g_geti hx hb hts inlX10 hown hK hG (by rfl) 13 (by decide) qF_X10_113 e24 dX10_writeLine_24 ?_
      refine lv_istore_n (lv' := [(2, .int v24), (0, .ref a0), (1, .int x1)]) hx hb dX10_writeLine_27 rfl hl (by decide) rfl (fun ls hl => ?_)
      refine lv_aload_n hx hb dX10_writeLine_28 rfl (lv_at hl 1 rfl) ?_
      refine lv_iconst (v := (0 : Int32)) hx hb dX10_writeLine_29 (by decide) ?_
      refine lv_sipush (v := (999 : Int32)) hx hb dX10_writeLine_30 (by decide) ?_
      obtain ⟨u33, i33, h⟩ := Option.bind_eq_some_iff.mp h
      obtain ⟨q33, e33, h⟩ := Option.bind_eq_some_iff.mp h
      refine g_cVi (As := [.int (0 : Int32), .int (999 : Int32)]) (rest := []) (n := 2) hx hb hml hown hts hK hlo hG (m_X10_takes l dd cT lo q15.1 a0 (0 : Int32) (999 : Int32) e33) qM_X10_120 qI_yX10_takes qS_X10_yX10_takes qN_X10 qC_yX10_takes (by decide +kernel) ⟨Nat.le_of_ble_eq_true rfl, Nat.le_of_ble_eq_true rfl⟩ (by rfl) i33 rfl hl.1 rfl (Nat.le_of_ble_eq_true rfl) dX10_writeLine_33 ⟨Nat.le_of_ble_eq_true rfl, Nat.le_of_ble_eq_true rfl⟩ (fun H locs hG => ?_)
      refine lv_if_ne (tgt := 41) hx hb dX10_writeLine_36 (by decide) (fun c36 => ?_) (fun c36 => ?_)
      · rw [if_neg c36] at h
        refine lv_aload_n hx hb dX10_writeLine_41 rfl (lv_at hl 1 rfl) ?_
        refine lv_aload_n hx hb dX10_writeLine_42 rfl (lv_at hl 1 rfl) ?_
        obtain ⟨v43, e43, h⟩ := Option.bind_eq_some_iff.mp h
        refine g_geti hx hb hts inlX10 hown hK hG (by rfl) 16 (by decide) qF_X10_127 e43 dX10_writeLine_43 ?_
        refine lv_iload_n hx hb dX10_writeLine_46 rfl (lv_at hl 0 rfl) ?_
        obtain ⟨u47, i47, h⟩ := Option.bind_eq_some_iff.mp h
        obtain ⟨v47, e47, h⟩ := Option.bind_eq_some_iff.mp h
        refine g_cVi (As := [.int v43, .int v24]) (rest := []) (n := 2) hx hb hml hown hts hK hlo hG (m_X10_whyWrite l dd cT lo q33.1 a0 v43 v24 e47) qM_X10_134 qI_yX10_whyWrite qS_X10_yX10_whyWrite qN_X10 qC_yX10_whyWrite (by decide +kernel) ⟨Nat.le_of_ble_eq_true rfl, Nat.le_of_ble_eq_true rfl⟩ (by rfl) i47 rfl hl.1 rfl (Nat.le_of_ble_eq_true rfl) dX10_writeLine_47 ⟨Nat.le_of_ble_eq_true rfl, Nat.le_of_ble_eq_true rfl⟩ (fun H locs hG => ?_)
        refine lv_if_le (tgt := 61) hx hb dX10_writeLine_50 (by decide) (fun c50 => ?_) (fun c50 => ?_)
        · rw [if_pos c50] at h
          refine lv_aload_n hx hb dX10_writeLine_61 rfl (lv_at hl 1 rfl) ?_
          refine lv_aload_n hx hb dX10_writeLine_62 rfl (lv_at hl 1 rfl) ?_
          obtain ⟨v63, e63, h⟩ := Option.bind_eq_some_iff.mp h
          refine g_geti hx hb hts inlX10 hown hK hG (by rfl) 16 (by decide) qF_X10_127 e63 dX10_writeLine_63 ?_
          refine lv_iload_n hx hb dX10_writeLine_66 rfl (lv_at hl 0 rfl) ?_
          refine lv_aload_n hx hb dX10_writeLine_67 rfl (lv_at hl 1 rfl) ?_
          obtain ⟨v68, e68, h⟩ := Option.bind_eq_some_iff.mp h
          refine g_geti hx hb hts inlX10 hown hK hG (by rfl) 13 (by decide) qF_X10_113 e68 dX10_writeLine_68 ?_
          obtain ⟨u71, i71, h⟩ := Option.bind_eq_some_iff.mp h
          obtain ⟨q71, e71, h⟩ := Option.bind_eq_some_iff.mp h
          refine g_cVi (As := [.int v63, .int v24, .int v68]) (rest := []) (n := 3) hx hb hml hown hts hK hlo hG (m_X10_writes l dd cT lo q33.1 a0 v63 v24 v68 e71) qM_X10_138 qI_yX10_writes qS_X10_yX10_writes qN_X10 qC_yX10_writes (by decide +kernel) ⟨Nat.le_of_ble_eq_true rfl, Nat.le_of_ble_eq_true rfl⟩ (by rfl) i71 rfl hl.1 rfl (Nat.le_of_ble_eq_true rfl) dX10_writeLine_71 ⟨Nat.le_of_ble_eq_true rfl, Nat.le_of_ble_eq_true rfl⟩ (fun H locs hG => ?_)
          refine lv_istore_n (lv' := [(3, .int q71.2), (2, .int v24), (0, .ref a0), (1, .int x1)]) hx hb dX10_writeLine_74 rfl hl (by decide) rfl (fun ls hl => ?_)
          refine lv_iconst (v := (1 : Int32)) hx hb dX10_writeLine_75 (by decide) ?_
          obtain ⟨rfl, rfl⟩ := Prod.mk.inj (Option.some.inj h)
          exact g_zret hx hb hr hlocks hK hlo hG rfl ⟨rfl, rfl⟩ dX10_writeLine_76
        · rw [if_neg c50] at h
          refine lv_aload_n hx hb dX10_writeLine_53 rfl (lv_at hl 1 rfl) ?_
          refine lv_bipush (v := (6 : Int32)) hx hb dX10_writeLine_54 (by decide) ?_
          refine lv_iload_n hx hb dX10_writeLine_56 rfl (lv_at hl 2 rfl) ?_
          obtain ⟨u57, i57, h⟩ := Option.bind_eq_some_iff.mp h
          obtain ⟨q57, e57, h⟩ := Option.bind_eq_some_iff.mp h
          refine g_cVi (As := [.int (6 : Int32), .int x1]) (rest := []) (n := 2) hx hb hml hown hts hK hlo hG (m_X10_failsAt l dd cT lo q33.1 a0 (6 : Int32) x1 e57) qM_X10_102 qI_yX10_failsAt qS_X10_yX10_failsAt qN_X10 qC_yX10_failsAt (by decide +kernel) ⟨Nat.le_of_ble_eq_true rfl, Nat.le_of_ble_eq_true rfl⟩ (by rfl) i57 rfl hl.1 rfl (Nat.le_of_ble_eq_true rfl) dX10_writeLine_57 ⟨Nat.le_of_ble_eq_true rfl, Nat.le_of_ble_eq_true rfl⟩ (fun H locs hG => ?_)
          obtain ⟨w60, e60, h⟩ := Option.bind_eq_some_iff.mp h
          obtain ⟨n60, rfl⟩ := g_z_nar e60
          obtain ⟨rfl, rfl⟩ := Prod.mk.inj (Option.some.inj h)
          exact g_zret hx hb hr hlocks hK hlo hG n60 ⟨rfl, rfl⟩ dX10_writeLine_60
      · rw [if_pos c36] at h
        refine lv_iconst (v := (0 : Int32)) hx hb dX10_writeLine_39 (by decide) ?_
        obtain ⟨rfl, rfl⟩ := Prod.mk.inj (Option.some.inj h)
        exact g_zret hx hb hr hlocks hK hlo hG rfl ⟨rfl, rfl⟩ dX10_writeLine_40
    · rw [if_pos c18] at h
      refine lv_iconst (v := (0 : Int32)) hx hb dX10_writeLine_21 (by decide) ?_
      obtain ⟨rfl, rfl⟩ := Prod.mk.inj (Option.some.inj h)
      exact g_zret hx hb hr hlocks hK hlo hG rfl ⟨rfl, rfl⟩ dX10_writeLine_22
def f_X10_eraseLine (G : gH) (a0 : Nat) (x1 : Int32) : Option (gH × Int32) :=
    (g_ob G a0 10).bind fun u1 =>
    (f_X10_advance G a0).bind fun G1 =>
    (g_ob G1 a0 10).bind fun u5 =>
    (f_X10_takesFile G1 a0).bind fun q5 =>
    if q5.2 = 0 then
    some (q5.1, (0 : Int32))
    else
    (g_i q5.1 a0 10 16).bind fun v15 =>
    (g_ob q5.1 a0 10).bind fun u18 =>
    (f_X10_whyErase q5.1 a0 v15).bind fun q18 =>
    if q18.2 ≤ 0 then
    (g_i q18.1 a0 10 16).bind fun v34 =>
    (g_ob q18.1 a0 10).bind fun u37 =>
    (f_X10_erases q18.1 a0 v34).bind fun G37 =>
    some (G37, (1 : Int32))
    else
    (g_ob q18.1 a0 10).bind fun u28 =>
    (f_X10_failsAt q18.1 a0 (6 : Int32) x1).bind fun q28 =>
    (g_z q28.2).bind fun w31 => some (q28.1, w31)
set_option maxRecDepth 20000 in
set_option maxHeartbeats 4000000 in
theorem m_X10_eraseLine (l : Launch) (dd : va_G) (cT : Nat → ClassId) (lo : Nat) (G : gH) (a0 : Nat) (x1 : Int32) {rz : Int32} {Gz : gH} (h : f_X10_eraseLine G a0 x1 = some (Gz, rz)) : Met l yX10_eraseLine (Cond.code yX10_eraseLine cX10_eraseLine 2 (some .boolean) :: wsL_law) (g_rm 6 131 0 0) (va_Pc [.ref a0, .int x1] (g_Pre lo dd cT G)) (va_Qi (g_is rz Gz) (g_Pre lo dd cT) (g_A lo)) 0 0 (g_A lo) := by
  refine g_start RX10 rfl (by decide) (Nat.le_of_ble_eq_true rfl) ?_
  intro p e s m below meth c hx hb hr hlocks hml hown hnm hts hK hG hlo ls hl
  have hl : lv_has ls 2 [(0, .ref a0), (1, .int x1)] := hl
  have hG : g_S lo dd cT s s.heap [] G := hG
  unfold f_X10_eraseLine at h
  refine lv_aload_n hx hb dX10_eraseLine_0 rfl (lv_at hl 0 rfl) ?_
  obtain ⟨u1, i1, h⟩ := Option.bind_eq_some_iff.mp h
  obtain ⟨G1, e1, h⟩ := Option.bind_eq_some_iff.mp h
  refine g_cVv (As := []) (rest := []) (n := 0) hx hb hml hown hts hK hlo hG (m_X10_advance l dd cT lo G a0 e1) qM_X10_110 qI_yX10_advance qS_X10_yX10_advance qN_X10 qC_yX10_advance (by decide +kernel) ⟨Nat.le_of_ble_eq_true rfl, Nat.le_of_ble_eq_true rfl⟩ (by rfl) i1 rfl hl.1 rfl (Nat.le_of_ble_eq_true rfl) dX10_eraseLine_1 ⟨Nat.le_of_ble_eq_true rfl, Nat.le_of_ble_eq_true rfl⟩ (fun H locs hG => ?_)
  refine lv_aload_n hx hb dX10_eraseLine_4 rfl (lv_at hl 0 rfl) ?_
  obtain ⟨u5, i5, h⟩ := Option.bind_eq_some_iff.mp h
  obtain ⟨q5, e5, h⟩ := Option.bind_eq_some_iff.mp h
  refine g_cVi (As := []) (rest := []) (n := 0) hx hb hml hown hts hK hlo hG (m_X10_takesFile l dd cT lo G1 a0 e5) qM_X10_130 qI_yX10_takesFile qS_X10_yX10_takesFile qN_X10 qC_yX10_takesFile (by decide +kernel) ⟨Nat.le_of_ble_eq_true rfl, Nat.le_of_ble_eq_true rfl⟩ (by rfl) i5 rfl hl.1 rfl (Nat.le_of_ble_eq_true rfl) dX10_eraseLine_5 ⟨Nat.le_of_ble_eq_true rfl, Nat.le_of_ble_eq_true rfl⟩ (fun H locs hG => ?_)
  refine lv_if_ne (tgt := 13) hx hb dX10_eraseLine_8 (by decide) (fun c8 => ?_) (fun c8 => ?_)
  · rw [if_neg c8] at h
    refine lv_aload_n hx hb dX10_eraseLine_13 rfl (lv_at hl 0 rfl) ?_
    refine lv_aload_n hx hb dX10_eraseLine_14 rfl (lv_at hl 0 rfl) ?_
    obtain ⟨v15, e15, h⟩ := Option.bind_eq_some_iff.mp h
    refine g_geti hx hb hts inlX10 hown hK hG (by rfl) 16 (by decide) qF_X10_127 e15 dX10_eraseLine_15 ?_
    obtain ⟨u18, i18, h⟩ := Option.bind_eq_some_iff.mp h
    obtain ⟨q18, e18, h⟩ := Option.bind_eq_some_iff.mp h
    refine g_cVi (As := [.int v15]) (rest := []) (n := 1) hx hb hml hown hts hK hlo hG (m_X10_whyErase l dd cT lo q5.1 a0 v15 e18) qM_X10_142 qI_yX10_whyErase qS_X10_yX10_whyErase qN_X10 qC_yX10_whyErase (by decide +kernel) ⟨Nat.le_of_ble_eq_true rfl, Nat.le_of_ble_eq_true rfl⟩ (by rfl) i18 rfl hl.1 rfl (Nat.le_of_ble_eq_true rfl) dX10_eraseLine_18 ⟨Nat.le_of_ble_eq_true rfl, Nat.le_of_ble_eq_true rfl⟩ (fun H locs hG => ?_)
    refine lv_if_le (tgt := 32) hx hb dX10_eraseLine_21 (by decide) (fun c21 => ?_) (fun c21 => ?_)
    · rw [if_pos c21] at h
      refine lv_aload_n hx hb dX10_eraseLine_32 rfl (lv_at hl 0 rfl) ?_
      refine lv_aload_n hx hb dX10_eraseLine_33 rfl (lv_at hl 0 rfl) ?_
      obtain ⟨v34, e34, h⟩ := Option.bind_eq_some_iff.mp h
      refine g_geti hx hb hts inlX10 hown hK hG (by rfl) 16 (by decide) qF_X10_127 e34 dX10_eraseLine_34 ?_
      obtain ⟨u37, i37, h⟩ := Option.bind_eq_some_iff.mp h
      obtain ⟨G37, e37, h⟩ := Option.bind_eq_some_iff.mp h
      refine g_cVv (As := [.int v34]) (rest := []) (n := 1) hx hb hml hown hts hK hlo hG (m_X10_erases l dd cT lo q18.1 a0 v34 e37) qM_X10_145 qI_yX10_erases qS_X10_yX10_erases qN_X10 qC_yX10_erases (by decide +kernel) ⟨Nat.le_of_ble_eq_true rfl, Nat.le_of_ble_eq_true rfl⟩ (by rfl) i37 rfl hl.1 rfl (Nat.le_of_ble_eq_true rfl) dX10_eraseLine_37 ⟨Nat.le_of_ble_eq_true rfl, Nat.le_of_ble_eq_true rfl⟩ (fun H locs hG => ?_)
      refine lv_iconst (v := (1 : Int32)) hx hb dX10_eraseLine_40 (by decide) ?_
      obtain ⟨rfl, rfl⟩ := Prod.mk.inj (Option.some.inj h)
      exact g_zret hx hb hr hlocks hK hlo hG rfl ⟨rfl, rfl⟩ dX10_eraseLine_41
    · rw [if_neg c21] at h
      refine lv_aload_n hx hb dX10_eraseLine_24 rfl (lv_at hl 0 rfl) ?_
      refine lv_bipush (v := (6 : Int32)) hx hb dX10_eraseLine_25 (by decide) ?_
      refine lv_iload_n hx hb dX10_eraseLine_27 rfl (lv_at hl 1 rfl) ?_
      obtain ⟨u28, i28, h⟩ := Option.bind_eq_some_iff.mp h
      obtain ⟨q28, e28, h⟩ := Option.bind_eq_some_iff.mp h
      refine g_cVi (As := [.int (6 : Int32), .int x1]) (rest := []) (n := 2) hx hb hml hown hts hK hlo hG (m_X10_failsAt l dd cT lo q18.1 a0 (6 : Int32) x1 e28) qM_X10_102 qI_yX10_failsAt qS_X10_yX10_failsAt qN_X10 qC_yX10_failsAt (by decide +kernel) ⟨Nat.le_of_ble_eq_true rfl, Nat.le_of_ble_eq_true rfl⟩ (by rfl) i28 rfl hl.1 rfl (Nat.le_of_ble_eq_true rfl) dX10_eraseLine_28 ⟨Nat.le_of_ble_eq_true rfl, Nat.le_of_ble_eq_true rfl⟩ (fun H locs hG => ?_)
      obtain ⟨w31, e31, h⟩ := Option.bind_eq_some_iff.mp h
      obtain ⟨n31, rfl⟩ := g_z_nar e31
      obtain ⟨rfl, rfl⟩ := Prod.mk.inj (Option.some.inj h)
      exact g_zret hx hb hr hlocks hK hlo hG n31 ⟨rfl, rfl⟩ dX10_eraseLine_31
  · rw [if_pos c8] at h
    refine lv_iconst (v := (0 : Int32)) hx hb dX10_eraseLine_11 (by decide) ?_
    obtain ⟨rfl, rfl⟩ := Prod.mk.inj (Option.some.inj h)
    exact g_zret hx hb hr hlocks hK hlo hG rfl ⟨rfl, rfl⟩ dX10_eraseLine_12
def f_X10_closeLine (G : gH) (a0 : Nat) (x1 : Int32) : Option (gH × Int32) :=
    (g_ob G a0 10).bind fun u1 =>
    (f_X10_advance G a0).bind fun G1 =>
    (g_ob G1 a0 10).bind fun u5 =>
    (f_X10_whyClose G1 a0).bind fun v5 =>
    if v5 ≤ 0 then
    (g_ob G1 a0 10).bind fun u20 =>
    (f_X10_closesOpen G1 a0).bind fun G20 =>
    some (G20, (1 : Int32))
    else
    (g_ob G1 a0 10).bind fun u15 =>
    (f_X10_failsAt G1 a0 (6 : Int32) x1).bind fun q15 =>
    (g_z q15.2).bind fun w18 => some (q15.1, w18)
set_option maxRecDepth 20000 in
set_option maxHeartbeats 4000000 in
theorem m_X10_closeLine (l : Launch) (dd : va_G) (cT : Nat → ClassId) (lo : Nat) (G : gH) (a0 : Nat) (x1 : Int32) {rz : Int32} {Gz : gH} (h : f_X10_closeLine G a0 x1 = some (Gz, rz)) : Met l yX10_closeLine (Cond.code yX10_closeLine cX10_closeLine 2 (some .boolean) :: wsL_law) (g_rm 3 74 0 0) (va_Pc [.ref a0, .int x1] (g_Pre lo dd cT G)) (va_Qi (g_is rz Gz) (g_Pre lo dd cT) (g_A lo)) 0 0 (g_A lo) := by
  refine g_start RX10 rfl (by decide) (Nat.le_of_ble_eq_true rfl) ?_
  intro p e s m below meth c hx hb hr hlocks hml hown hnm hts hK hG hlo ls hl
  have hl : lv_has ls 2 [(0, .ref a0), (1, .int x1)] := hl
  have hG : g_S lo dd cT s s.heap [] G := hG
  unfold f_X10_closeLine at h
  refine lv_aload_n hx hb dX10_closeLine_0 rfl (lv_at hl 0 rfl) ?_
  obtain ⟨u1, i1, h⟩ := Option.bind_eq_some_iff.mp h
  obtain ⟨G1, e1, h⟩ := Option.bind_eq_some_iff.mp h
  refine g_cVv (As := []) (rest := []) (n := 0) hx hb hml hown hts hK hlo hG (m_X10_advance l dd cT lo G a0 e1) qM_X10_110 qI_yX10_advance qS_X10_yX10_advance qN_X10 qC_yX10_advance (by decide +kernel) ⟨Nat.le_of_ble_eq_true rfl, Nat.le_of_ble_eq_true rfl⟩ (by rfl) i1 rfl hl.1 rfl (Nat.le_of_ble_eq_true rfl) dX10_closeLine_1 ⟨Nat.le_of_ble_eq_true rfl, Nat.le_of_ble_eq_true rfl⟩ (fun H locs hG => ?_)
  refine lv_aload_n hx hb dX10_closeLine_4 rfl (lv_at hl 0 rfl) ?_
  obtain ⟨u5, i5, h⟩ := Option.bind_eq_some_iff.mp h
  obtain ⟨v5, e5, h⟩ := Option.bind_eq_some_iff.mp h
  refine g_cVi (As := []) (rest := []) (n := 0) hx hb hml hown hts hK hlo hG (m_X10_whyClose l dd cT lo G1 a0 e5) qM_X10_148 qI_yX10_whyClose qS_X10_yX10_whyClose qN_X10 qC_yX10_whyClose (by decide +kernel) ⟨Nat.le_of_ble_eq_true rfl, Nat.le_of_ble_eq_true rfl⟩ (by rfl) i5 rfl hl.1 rfl (Nat.le_of_ble_eq_true rfl) dX10_closeLine_5 ⟨Nat.le_of_ble_eq_true rfl, Nat.le_of_ble_eq_true rfl⟩ (fun H locs hG => ?_)
  refine lv_if_le (tgt := 19) hx hb dX10_closeLine_8 (by decide) (fun c8 => ?_) (fun c8 => ?_)
  · rw [if_pos c8] at h
    refine lv_aload_n hx hb dX10_closeLine_19 rfl (lv_at hl 0 rfl) ?_
    obtain ⟨u20, i20, h⟩ := Option.bind_eq_some_iff.mp h
    obtain ⟨G20, e20, h⟩ := Option.bind_eq_some_iff.mp h
    refine g_cVv (As := []) (rest := []) (n := 0) hx hb hml hown hts hK hlo hG (m_X10_closesOpen l dd cT lo G1 a0 e20) qM_X10_151 qI_yX10_closesOpen qS_X10_yX10_closesOpen qN_X10 qC_yX10_closesOpen (by decide +kernel) ⟨Nat.le_of_ble_eq_true rfl, Nat.le_of_ble_eq_true rfl⟩ (by rfl) i20 rfl hl.1 rfl (Nat.le_of_ble_eq_true rfl) dX10_closeLine_20 ⟨Nat.le_of_ble_eq_true rfl, Nat.le_of_ble_eq_true rfl⟩ (fun H locs hG => ?_)
    refine lv_iconst (v := (1 : Int32)) hx hb dX10_closeLine_23 (by decide) ?_
    obtain ⟨rfl, rfl⟩ := Prod.mk.inj (Option.some.inj h)
    exact g_zret hx hb hr hlocks hK hlo hG rfl ⟨rfl, rfl⟩ dX10_closeLine_24
  · rw [if_neg c8] at h
    refine lv_aload_n hx hb dX10_closeLine_11 rfl (lv_at hl 0 rfl) ?_
    refine lv_bipush (v := (6 : Int32)) hx hb dX10_closeLine_12 (by decide) ?_
    refine lv_iload_n hx hb dX10_closeLine_14 rfl (lv_at hl 1 rfl) ?_
    obtain ⟨u15, i15, h⟩ := Option.bind_eq_some_iff.mp h
    obtain ⟨q15, e15, h⟩ := Option.bind_eq_some_iff.mp h
    refine g_cVi (As := [.int (6 : Int32), .int x1]) (rest := []) (n := 2) hx hb hml hown hts hK hlo hG (m_X10_failsAt l dd cT lo G1 a0 (6 : Int32) x1 e15) qM_X10_102 qI_yX10_failsAt qS_X10_yX10_failsAt qN_X10 qC_yX10_failsAt (by decide +kernel) ⟨Nat.le_of_ble_eq_true rfl, Nat.le_of_ble_eq_true rfl⟩ (by rfl) i15 rfl hl.1 rfl (Nat.le_of_ble_eq_true rfl) dX10_closeLine_15 ⟨Nat.le_of_ble_eq_true rfl, Nat.le_of_ble_eq_true rfl⟩ (fun H locs hG => ?_)
    obtain ⟨w18, e18, h⟩ := Option.bind_eq_some_iff.mp h
    obtain ⟨n18, rfl⟩ := g_z_nar e18
    obtain ⟨rfl, rfl⟩ := Prod.mk.inj (Option.some.inj h)
    exact g_zret hx hb hr hlocks hK hlo hG n18 ⟨rfl, rfl⟩ dX10_closeLine_18
def f_X10_statement (G : gH) (a0 : Nat) : Option (gH × Int32) :=
    (g_i G a0 10 6).bind fun v1 =>
    (g_ob G a0 10).bind fun u8 =>
    (f_X10_isWord G a0 1).bind fun v8 =>
    if v8 = 0 then
    (g_ob G a0 10).bind fun u22 =>
    (f_X10_isWord G a0 2).bind fun v22 =>
    if v22 = 0 then
    (g_ob G a0 10).bind fun u36 =>
    (f_X10_isWord G a0 3).bind fun v36 =>
    if v36 = 0 then
    (g_ob G a0 10).bind fun u53 =>
    (f_X10_isWord G a0 4).bind fun v53 =>
    if v53 = 0 then
    (g_ob G a0 10).bind fun u70 =>
    (f_X10_isWord G a0 5).bind fun v70 =>
    if v70 = 0 then
    (g_ob G a0 10).bind fun u86 =>
    (f_X10_fails G a0 (1 : Int32)).bind fun q86 =>
    (g_z q86.2).bind fun w89 => some (q86.1, w89)
    else
    (g_ob G a0 10).bind fun u78 =>
    (f_X10_closeLine G a0 v1).bind fun q78 =>
    (g_z q78.2).bind fun w89 => some (q78.1, w89)
    else
    (g_ob G a0 10).bind fun u61 =>
    (f_X10_eraseLine G a0 v1).bind fun q61 =>
    (g_z q61.2).bind fun w89 => some (q61.1, w89)
    else
    (g_ob G a0 10).bind fun u44 =>
    (f_X10_writeLine G a0 v1).bind fun q44 =>
    (g_z q44.2).bind fun w89 => some (q44.1, w89)
    else
    (g_ob G a0 10).bind fun u29 =>
    (f_X10_fileLine G a0).bind fun q29 =>
    (g_z q29.2).bind fun w32 => some (q29.1, w32)
    else
    (g_ob G a0 10).bind fun u15 =>
    (f_X10_badLine G a0).bind fun q15 =>
    (g_z q15.2).bind fun w18 => some (q15.1, w18)
set_option maxRecDepth 20000 in
set_option maxHeartbeats 4000000 in
theorem m_X10_statement (l : Launch) (dd : va_G) (cT : Nat → ClassId) (lo : Nat) (G : gH) (a0 : Nat) {rz : Int32} {Gz : gH} (h : f_X10_statement G a0 = some (Gz, rz)) : Met l yX10_statement (Cond.code yX10_statement cX10_statement 2 (some .boolean) :: wsL_law) (g_rm 7 152 0 0) (va_Pc [.ref a0] (g_Pre lo dd cT G)) (va_Qi (g_is rz Gz) (g_Pre lo dd cT) (g_A lo)) 0 0 (g_A lo) := by
  refine g_start RX10 rfl (by decide) (Nat.le_of_ble_eq_true rfl) ?_
  intro p e s m below meth c hx hb hr hlocks hml hown hnm hts hK hG hlo ls hl
  have hl : lv_has ls 2 [(0, .ref a0)] := hl
  have hG : g_S lo dd cT s s.heap [] G := hG
  unfold f_X10_statement at h
  refine lv_aload_n hx hb dX10_statement_0 rfl (lv_at hl 0 rfl) ?_
  obtain ⟨v1, e1, h⟩ := Option.bind_eq_some_iff.mp h
  refine g_geti hx hb hts inlX10 hown hK hG (by rfl) 6 (by decide) qF_X10_78 e1 dX10_statement_1 ?_
  refine lv_istore_n (lv' := [(1, .int v1), (0, .ref a0)]) hx hb dX10_statement_4 rfl hl (by decide) rfl (fun ls hl => ?_)
  refine lv_aload_n hx hb dX10_statement_5 rfl (lv_at hl 1 rfl) ?_
  refine va_ldcS (q := dd.2 100 1) hx hb hown (hG.2.2.2.1 _ (List.mem_of_getElem? (i := 6) rfl)) dX10_statement_6 ?_
  obtain ⟨u8, i8, h⟩ := Option.bind_eq_some_iff.mp h
  obtain ⟨v8, e8, h⟩ := Option.bind_eq_some_iff.mp h
  refine g_cVi (As := [.ref (dd.2 100 1)]) (rest := []) (n := 1) hx hb hml hown hts hK hlo hG (m_X10_isWord l dd cT lo G a0 1 e8) qM_X10_156 qI_yX10_isWord qS_X10_yX10_isWord qN_X10 qC_yX10_isWord (by decide +kernel) ⟨Nat.le_of_ble_eq_true rfl, Nat.le_of_ble_eq_true rfl⟩ (by rfl) i8 rfl hl.1 rfl (Nat.le_of_ble_eq_true rfl) dX10_statement_8 ⟨Nat.le_of_ble_eq_true rfl, Nat.le_of_ble_eq_true rfl⟩ (fun H locs hG => ?_)
  refine lv_if_eq (tgt := 19) hx hb dX10_statement_11 (by decide) (fun c11 => ?_) (fun c11 => ?_)
  · rw [if_pos c11] at h
    refine lv_aload_n hx hb dX10_statement_19 rfl (lv_at hl 1 rfl) ?_
    refine va_ldcS (q := dd.2 100 2) hx hb hown (hG.2.2.2.1 _ (List.mem_of_getElem? (i := 7) rfl)) dX10_statement_20 ?_
    obtain ⟨u22, i22, h⟩ := Option.bind_eq_some_iff.mp h
    obtain ⟨v22, e22, h⟩ := Option.bind_eq_some_iff.mp h
    refine g_cVi (As := [.ref (dd.2 100 2)]) (rest := []) (n := 1) hx hb hml hown hts hK hlo hG (m_X10_isWord l dd cT lo G a0 2 e22) qM_X10_156 qI_yX10_isWord qS_X10_yX10_isWord qN_X10 qC_yX10_isWord (by decide +kernel) ⟨Nat.le_of_ble_eq_true rfl, Nat.le_of_ble_eq_true rfl⟩ (by rfl) i22 rfl hl.1 rfl (Nat.le_of_ble_eq_true rfl) dX10_statement_22 ⟨Nat.le_of_ble_eq_true rfl, Nat.le_of_ble_eq_true rfl⟩ (fun H locs hG => ?_)
    refine lv_if_eq (tgt := 33) hx hb dX10_statement_25 (by decide) (fun c25 => ?_) (fun c25 => ?_)
    · rw [if_pos c25] at h
      refine lv_aload_n hx hb dX10_statement_33 rfl (lv_at hl 1 rfl) ?_
      refine va_ldcS (q := dd.2 100 3) hx hb hown (hG.2.2.2.1 _ (List.mem_of_getElem? (i := 8) rfl)) dX10_statement_34 ?_
      obtain ⟨u36, i36, h⟩ := Option.bind_eq_some_iff.mp h
      obtain ⟨v36, e36, h⟩ := Option.bind_eq_some_iff.mp h
      refine g_cVi (As := [.ref (dd.2 100 3)]) (rest := []) (n := 1) hx hb hml hown hts hK hlo hG (m_X10_isWord l dd cT lo G a0 3 e36) qM_X10_156 qI_yX10_isWord qS_X10_yX10_isWord qN_X10 qC_yX10_isWord (by decide +kernel) ⟨Nat.le_of_ble_eq_true rfl, Nat.le_of_ble_eq_true rfl⟩ (by rfl) i36 rfl hl.1 rfl (Nat.le_of_ble_eq_true rfl) dX10_statement_36 ⟨Nat.le_of_ble_eq_true rfl, Nat.le_of_ble_eq_true rfl⟩ (fun H locs hG => ?_)
      refine lv_if_eq (tgt := 50) hx hb dX10_statement_39 (by decide) (fun c39 => ?_) (fun c39 => ?_)
      · rw [if_pos c39] at h
        refine lv_aload_n hx hb dX10_statement_50 rfl (lv_at hl 1 rfl) ?_
        refine va_ldcS (q := dd.2 100 4) hx hb hown (hG.2.2.2.1 _ (List.mem_of_getElem? (i := 9) rfl)) dX10_statement_51 ?_
        obtain ⟨u53, i53, h⟩ := Option.bind_eq_some_iff.mp h
        obtain ⟨v53, e53, h⟩ := Option.bind_eq_some_iff.mp h
        refine g_cVi (As := [.ref (dd.2 100 4)]) (rest := []) (n := 1) hx hb hml hown hts hK hlo hG (m_X10_isWord l dd cT lo G a0 4 e53) qM_X10_156 qI_yX10_isWord qS_X10_yX10_isWord qN_X10 qC_yX10_isWord (by decide +kernel) ⟨Nat.le_of_ble_eq_true rfl, Nat.le_of_ble_eq_true rfl⟩ (by rfl) i53 rfl hl.1 rfl (Nat.le_of_ble_eq_true rfl) dX10_statement_53 ⟨Nat.le_of_ble_eq_true rfl, Nat.le_of_ble_eq_true rfl⟩ (fun H locs hG => ?_)
        refine lv_if_eq (tgt := 67) hx hb dX10_statement_56 (by decide) (fun c56 => ?_) (fun c56 => ?_)
        · rw [if_pos c56] at h
          refine lv_aload_n hx hb dX10_statement_67 rfl (lv_at hl 1 rfl) ?_
          refine va_ldcS (q := dd.2 100 5) hx hb hown (hG.2.2.2.1 _ (List.mem_of_getElem? (i := 10) rfl)) dX10_statement_68 ?_
          obtain ⟨u70, i70, h⟩ := Option.bind_eq_some_iff.mp h
          obtain ⟨v70, e70, h⟩ := Option.bind_eq_some_iff.mp h
          refine g_cVi (As := [.ref (dd.2 100 5)]) (rest := []) (n := 1) hx hb hml hown hts hK hlo hG (m_X10_isWord l dd cT lo G a0 5 e70) qM_X10_156 qI_yX10_isWord qS_X10_yX10_isWord qN_X10 qC_yX10_isWord (by decide +kernel) ⟨Nat.le_of_ble_eq_true rfl, Nat.le_of_ble_eq_true rfl⟩ (by rfl) i70 rfl hl.1 rfl (Nat.le_of_ble_eq_true rfl) dX10_statement_70 ⟨Nat.le_of_ble_eq_true rfl, Nat.le_of_ble_eq_true rfl⟩ (fun H locs hG => ?_)
          refine lv_if_eq (tgt := 84) hx hb dX10_statement_73 (by decide) (fun c73 => ?_) (fun c73 => ?_)
          · rw [if_pos c73] at h
            refine lv_aload_n hx hb dX10_statement_84 rfl (lv_at hl 1 rfl) ?_
            refine lv_iconst (v := (1 : Int32)) hx hb dX10_statement_85 (by decide) ?_
            obtain ⟨u86, i86, h⟩ := Option.bind_eq_some_iff.mp h
            obtain ⟨q86, e86, h⟩ := Option.bind_eq_some_iff.mp h
            refine g_cVi (As := [.int (1 : Int32)]) (rest := []) (n := 1) hx hb hml hown hts hK hlo hG (m_X10_fails l dd cT lo G a0 (1 : Int32) e86) qM_X10_106 qI_yX10_fails qS_X10_yX10_fails qN_X10 qC_yX10_fails (by decide +kernel) ⟨Nat.le_of_ble_eq_true rfl, Nat.le_of_ble_eq_true rfl⟩ (by rfl) i86 rfl hl.1 rfl (Nat.le_of_ble_eq_true rfl) dX10_statement_86 ⟨Nat.le_of_ble_eq_true rfl, Nat.le_of_ble_eq_true rfl⟩ (fun H locs hG => ?_)
            obtain ⟨w89, e89, h⟩ := Option.bind_eq_some_iff.mp h
            obtain ⟨n89, rfl⟩ := g_z_nar e89
            obtain ⟨rfl, rfl⟩ := Prod.mk.inj (Option.some.inj h)
            exact g_zret hx hb hr hlocks hK hlo hG n89 ⟨rfl, rfl⟩ dX10_statement_89
          · rw [if_neg c73] at h
            refine lv_aload_n hx hb dX10_statement_76 rfl (lv_at hl 1 rfl) ?_
            refine lv_iload_n hx hb dX10_statement_77 rfl (lv_at hl 0 rfl) ?_
            obtain ⟨u78, i78, h⟩ := Option.bind_eq_some_iff.mp h
            obtain ⟨q78, e78, h⟩ := Option.bind_eq_some_iff.mp h
            refine g_cVi (As := [.int v1]) (rest := []) (n := 1) hx hb hml hown hts hK hlo hG (m_X10_closeLine l dd cT lo G a0 v1 e78) qM_X10_180 qI_yX10_closeLine qS_X10_yX10_closeLine qN_X10 qC_yX10_closeLine (by decide +kernel) ⟨Nat.le_of_ble_eq_true rfl, Nat.le_of_ble_eq_true rfl⟩ (by rfl) i78 rfl hl.1 rfl (Nat.le_of_ble_eq_true rfl) dX10_statement_78 ⟨Nat.le_of_ble_eq_true rfl, Nat.le_of_ble_eq_true rfl⟩ (fun H locs hG => ?_)
            refine lv_goto (tgt := 89) hx hb dX10_statement_81 (by decide) ?_
            obtain ⟨w89, e89, h⟩ := Option.bind_eq_some_iff.mp h
            obtain ⟨n89, rfl⟩ := g_z_nar e89
            obtain ⟨rfl, rfl⟩ := Prod.mk.inj (Option.some.inj h)
            exact g_zret hx hb hr hlocks hK hlo hG n89 ⟨rfl, rfl⟩ dX10_statement_89
        · rw [if_neg c56] at h
          refine lv_aload_n hx hb dX10_statement_59 rfl (lv_at hl 1 rfl) ?_
          refine lv_iload_n hx hb dX10_statement_60 rfl (lv_at hl 0 rfl) ?_
          obtain ⟨u61, i61, h⟩ := Option.bind_eq_some_iff.mp h
          obtain ⟨q61, e61, h⟩ := Option.bind_eq_some_iff.mp h
          refine g_cVi (As := [.int v1]) (rest := []) (n := 1) hx hb hml hown hts hK hlo hG (m_X10_eraseLine l dd cT lo G a0 v1 e61) qM_X10_175 qI_yX10_eraseLine qS_X10_yX10_eraseLine qN_X10 qC_yX10_eraseLine (by decide +kernel) ⟨Nat.le_of_ble_eq_true rfl, Nat.le_of_ble_eq_true rfl⟩ (by rfl) i61 rfl hl.1 rfl (Nat.le_of_ble_eq_true rfl) dX10_statement_61 ⟨Nat.le_of_ble_eq_true rfl, Nat.le_of_ble_eq_true rfl⟩ (fun H locs hG => ?_)
          refine lv_goto (tgt := 89) hx hb dX10_statement_64 (by decide) ?_
          obtain ⟨w89, e89, h⟩ := Option.bind_eq_some_iff.mp h
          obtain ⟨n89, rfl⟩ := g_z_nar e89
          obtain ⟨rfl, rfl⟩ := Prod.mk.inj (Option.some.inj h)
          exact g_zret hx hb hr hlocks hK hlo hG n89 ⟨rfl, rfl⟩ dX10_statement_89
      · rw [if_neg c39] at h
        refine lv_aload_n hx hb dX10_statement_42 rfl (lv_at hl 1 rfl) ?_
        refine lv_iload_n hx hb dX10_statement_43 rfl (lv_at hl 0 rfl) ?_
        obtain ⟨u44, i44, h⟩ := Option.bind_eq_some_iff.mp h
        obtain ⟨q44, e44, h⟩ := Option.bind_eq_some_iff.mp h
        refine g_cVi (As := [.int v1]) (rest := []) (n := 1) hx hb hml hown hts hK hlo hG (m_X10_writeLine l dd cT lo G a0 v1 e44) qM_X10_170 qI_yX10_writeLine qS_X10_yX10_writeLine qN_X10 qC_yX10_writeLine (by decide +kernel) ⟨Nat.le_of_ble_eq_true rfl, Nat.le_of_ble_eq_true rfl⟩ (by rfl) i44 rfl hl.1 rfl (Nat.le_of_ble_eq_true rfl) dX10_statement_44 ⟨Nat.le_of_ble_eq_true rfl, Nat.le_of_ble_eq_true rfl⟩ (fun H locs hG => ?_)
        refine lv_goto (tgt := 89) hx hb dX10_statement_47 (by decide) ?_
        obtain ⟨w89, e89, h⟩ := Option.bind_eq_some_iff.mp h
        obtain ⟨n89, rfl⟩ := g_z_nar e89
        obtain ⟨rfl, rfl⟩ := Prod.mk.inj (Option.some.inj h)
        exact g_zret hx hb hr hlocks hK hlo hG n89 ⟨rfl, rfl⟩ dX10_statement_89
    · rw [if_neg c25] at h
      refine lv_aload_n hx hb dX10_statement_28 rfl (lv_at hl 1 rfl) ?_
      obtain ⟨u29, i29, h⟩ := Option.bind_eq_some_iff.mp h
      obtain ⟨q29, e29, h⟩ := Option.bind_eq_some_iff.mp h
      refine g_cVi (As := []) (rest := []) (n := 0) hx hb hml hown hts hK hlo hG (m_X10_fileLine l dd cT lo G a0 e29) qM_X10_165 qI_yX10_fileLine qS_X10_yX10_fileLine qN_X10 qC_yX10_fileLine (by decide +kernel) ⟨Nat.le_of_ble_eq_true rfl, Nat.le_of_ble_eq_true rfl⟩ (by rfl) i29 rfl hl.1 rfl (Nat.le_of_ble_eq_true rfl) dX10_statement_29 ⟨Nat.le_of_ble_eq_true rfl, Nat.le_of_ble_eq_true rfl⟩ (fun H locs hG => ?_)
      obtain ⟨w32, e32, h⟩ := Option.bind_eq_some_iff.mp h
      obtain ⟨n32, rfl⟩ := g_z_nar e32
      obtain ⟨rfl, rfl⟩ := Prod.mk.inj (Option.some.inj h)
      exact g_zret hx hb hr hlocks hK hlo hG n32 ⟨rfl, rfl⟩ dX10_statement_32
  · rw [if_neg c11] at h
    refine lv_aload_n hx hb dX10_statement_14 rfl (lv_at hl 1 rfl) ?_
    obtain ⟨u15, i15, h⟩ := Option.bind_eq_some_iff.mp h
    obtain ⟨q15, e15, h⟩ := Option.bind_eq_some_iff.mp h
    refine g_cVi (As := []) (rest := []) (n := 0) hx hb hml hown hts hK hlo hG (m_X10_badLine l dd cT lo G a0 e15) qM_X10_160 qI_yX10_badLine qS_X10_yX10_badLine qN_X10 qC_yX10_badLine (by decide +kernel) ⟨Nat.le_of_ble_eq_true rfl, Nat.le_of_ble_eq_true rfl⟩ (by rfl) i15 rfl hl.1 rfl (Nat.le_of_ble_eq_true rfl) dX10_statement_15 ⟨Nat.le_of_ble_eq_true rfl, Nat.le_of_ble_eq_true rfl⟩ (fun H locs hG => ?_)
    obtain ⟨w18, e18, h⟩ := Option.bind_eq_some_iff.mp h
    obtain ⟨n18, rfl⟩ := g_z_nar e18
    obtain ⟨rfl, rfl⟩ := Prod.mk.inj (Option.some.inj h)
    exact g_zret hx hb hr hlocks hK hlo hG n18 ⟨rfl, rfl⟩ dX10_statement_18
def f_X10_parse_L159 : Nat → gH → Nat → Int32 → Option (gH × Int32)
  | 0, _, _, _ => none
  | n + 1, G, ba0, bx3 =>
    if (10 : Int32) ≤ bx3 then
    (g_put G ba0 10 24 (.int (0 : Int32))).bind fun G185 =>
    (g_r G185 ba0 10 27).bind fun v189 =>
    (g_ast 1 G185 v189 (0 : Int32) (0 : Int32)).bind fun G194 =>
    (g_r G194 ba0 10 27).bind fun v196 =>
    (g_ast 1 G194 v196 (1 : Int32) (0 : Int32)).bind fun G201 =>
    some (G201, (0 : Int32))
    else
    (g_r G ba0 10 2).bind fun v166 =>
    (g_r G ba0 10 15).bind fun v171 =>
    (g_lald G v171 bx3).bind fun v175 =>
    (g_last G v166 bx3 v175).bind fun G176 =>
    f_X10_parse_L159 n G176 ba0 (bx3 + (1 : Int32))
def f_X10_parse_J135 (G : gH) (ba0 : Nat) (bx2 : Int32) : Option (gH × Int32) :=
    if bx2 = 0 then
    (g_r G ba0 10 14).bind fun v140 =>
    (g_r G ba0 10 1).bind fun v145 =>
    (f_X10_copies G v140 (0 : Int32) v145 (0 : Int32)).bind fun G149 =>
    (g_i G149 ba0 10 11).bind fun v153 =>
    some (G149, v153)
    else
    f_X10_parse_L159 g_N G ba0 (0 : Int32)
def f_X10_parse_L101 : Nat → gH → Nat → Int32 → Option (gH × Int32)
  | 0, _, _, _ => none
  | n + 1, G, ba0, bx2 =>
    if bx2 = 0 then
    f_X10_parse_J135 G ba0 bx2
    else
    (g_i G ba0 10 8).bind fun v106 =>
    if v106 = 0 then
    f_X10_parse_J135 G ba0 bx2
    else
    (g_ob G ba0 10).bind fun u113 =>
    (f_X10_statement G ba0).bind fun q113 =>
    if q113.2 = 0 then
    f_X10_parse_L101 n q113.1 ba0 (0 : Int32)
    else
    (g_ob q113.1 ba0 10).bind fun u120 =>
    (f_X10_closes q113.1 ba0).bind fun q120 =>
    if q120.2 = 0 then
    f_X10_parse_L101 n q120.1 ba0 (0 : Int32)
    else
    f_X10_parse_L101 n q120.1 ba0 (1 : Int32)
def f_X10_parse_L72 : Nat → gH → Nat → Int32 → Option (gH × Int32)
  | 0, _, _, _ => none
  | n + 1, G, ba0, bx2 =>
    if (1555 : Int32) ≤ bx2 then
    (g_ob G ba0 10).bind fun u93 =>
    (f_X10_advance G ba0).bind fun G93 =>
    (g_ob G93 ba0 10).bind fun u97 =>
    (f_X10_head G93 ba0).bind fun q97 =>
    f_X10_parse_L101 g_N q97.1 ba0 q97.2
    else
    (g_r G ba0 10 1).bind fun v80 =>
    (g_ast 0 G v80 bx2 (0 : Int32)).bind fun G85 =>
    f_X10_parse_L72 n G85 ba0 (bx2 + (1 : Int32))
def f_X10_parse_J23 (G : gH) (ba0 : Nat) (bx1 : Int32) (z0 : Nat) (z1 : Int32) : Option (gH × Int32) :=
    (g_ob G z0 10).bind fun u24 =>
    (f_X10_throwsIf G z0 z1 (1 : Int32)).bind fun q24 =>
    if q24.2 = 0 then
    (g_put q24.1 ba0 10 5 (.int bx1)).bind fun G34 =>
    (g_put G34 ba0 10 4 (.int (0 : Int32))).bind fun G39 =>
    (g_put G39 ba0 10 7 (.int (0 : Int32))).bind fun G44 =>
    (g_put G44 ba0 10 11 (.int (0 : Int32))).bind fun G49 =>
    (g_put G49 ba0 10 12 (.int (-1 : Int32))).bind fun G54 =>
    (g_r G54 ba0 10 1).bind fun v58 =>
    (g_r G54 ba0 10 14).bind fun v63 =>
    (f_X10_copies G54 v58 (0 : Int32) v63 (0 : Int32)).bind fun G67 =>
    f_X10_parse_L72 g_N G67 ba0 (0 : Int32)
    else
    some (q24.1, (0 : Int32))
def f_X10_parse (G : gH) (a0 : Nat) (x1 : Int32) : Option (gH × Int32) :=
    (g_put G a0 10 0 (.int (0 : Int32))).bind fun G2 =>
    (g_i G2 a0 10 4).bind fun v9 =>
    (f_X10_within G2 x1 (0 : Int32) v9).bind fun v12 =>
    if v12 = 0 then
    f_X10_parse_J23 G2 a0 x1 a0 (1 : Int32)
    else
    f_X10_parse_J23 G2 a0 x1 a0 (0 : Int32)
set_option maxRecDepth 20000 in
set_option maxHeartbeats 4000000 in
theorem m_X10_parse (l : Launch) (dd : va_G) (cT : Nat → ClassId) (lo : Nat) (G : gH) (a0 : Nat) (x1 : Int32) {rz : Int32} {Gz : gH} (h : f_X10_parse G a0 x1 = some (Gz, rz)) : Met l yX10_parse (Cond.code yX10_parse cX10_parse 4 (some .int) :: wsL_law) (g_rm 8 173 0 0) (va_Pc [.ref a0, .int x1] (g_Pre lo dd cT G)) (va_Qi (g_is rz Gz) (g_Pre lo dd cT) (g_A lo)) 0 0 (g_A lo) := by
  refine g_start RX10 rfl (by decide) (Nat.le_of_ble_eq_true rfl) ?_
  intro p e s m below meth c hx hb hr hlocks hml hown hnm hts hK hG hlo ls hl
  have hl : lv_has ls 4 [(0, .ref a0), (1, .int x1)] := hl
  have hG : g_S lo dd cT s s.heap [] G := hG
  have h159 : ∀ n : Nat, ∀ (G : gH) (ba0 : Nat) (bx3 : Int32), ∀ (H : Heap) (locs : List Loc), g_S lo dd cT s H locs G → ∀ ls : Array Slot, lv_has ls 4 [(0, .ref ba0), (3, .int bx3)] → f_X10_parse_L159 n G ba0 bx3 = some (Gz, rz) → W p l e (g_rm 8 173 0 0) s m ([.ref a0, .int x1] : List Value).toArray below meth c H locs 0 0 (MQ below (va_Qi (g_is rz Gz) (g_Pre lo dd cT) (g_A lo)) ([.ref a0, .int x1] : List Value).toArray s 0 0 (g_A lo)) (F0 m 159 ls []) := by
    intro n
    induction n with
    | zero =>
      intro G ba0 bx3 H locs hG ls hl h
      cases (show (none : Option (gH × Int32)) = some (Gz, rz) from h)
    | succ n ih =>
      intro G ba0 bx3 H locs hG ls hl h
      rw [f_X10_parse_L159] at h
      refine lv_iload_n hx hb dX10_parse_159 rfl (lv_at hl 1 rfl) ?_
      refine lv_bipush (v := (10 : Int32)) hx hb dX10_parse_160 (by decide) ?_
      refine lv_icmp_ge (tgt := 183) hx hb dX10_parse_162 (by decide) (fun c162 => ?_) (fun c162 => ?_)
      · rw [if_pos c162] at h
        refine lv_aload_n hx hb dX10_parse_183 rfl (lv_at hl 0 rfl) ?_
        refine lv_iconst (v := (0 : Int32)) hx hb dX10_parse_184 (by decide) ?_
        obtain ⟨G185, i185, h⟩ := Option.bind_eq_some_iff.mp h
        refine g_putv hx hb hts inlX10 tyX10 tyX10_ok nmX10 hown hK hG (by rfl) 24 (by decide) qF_X10_202 rfl rfl rfl rfl i185 dX10_parse_185 (fun H locs hG => ?_)
        refine lv_aload_n hx hb dX10_parse_188 rfl (lv_at hl 0 rfl) ?_
        obtain ⟨v189, e189, h⟩ := Option.bind_eq_some_iff.mp h
        refine g_getr hx hb hts inlX10 hown hK hG (by rfl) 27 (by decide) qF_X10_47 e189 dX10_parse_189 ?_
        refine lv_iconst (v := (0 : Int32)) hx hb dX10_parse_192 (by decide) ?_
        refine lv_iconst (v := (0 : Int32)) hx hb dX10_parse_193 (by decide) ?_
        obtain ⟨G194, e194, h⟩ := Option.bind_eq_some_iff.mp h
        refine g_zast hx hb hK hG e194 dX10_parse_194 (fun H locs hG => ?_)
        refine lv_aload_n hx hb dX10_parse_195 rfl (lv_at hl 0 rfl) ?_
        obtain ⟨v196, e196, h⟩ := Option.bind_eq_some_iff.mp h
        refine g_getr hx hb hts inlX10 hown hK hG (by rfl) 27 (by decide) qF_X10_47 e196 dX10_parse_196 ?_
        refine lv_iconst (v := (1 : Int32)) hx hb dX10_parse_199 (by decide) ?_
        refine lv_iconst (v := (0 : Int32)) hx hb dX10_parse_200 (by decide) ?_
        obtain ⟨G201, e201, h⟩ := Option.bind_eq_some_iff.mp h
        refine g_zast hx hb hK hG e201 dX10_parse_201 (fun H locs hG => ?_)
        refine lv_iconst (v := (0 : Int32)) hx hb dX10_parse_202 (by decide) ?_
        obtain ⟨rfl, rfl⟩ := Prod.mk.inj (Option.some.inj h)
        exact g_iret hx hb hr hlocks hK hlo hG ⟨rfl, rfl⟩ dX10_parse_203
      · rw [if_neg c162] at h
        refine lv_aload_n hx hb dX10_parse_165 rfl (lv_at hl 0 rfl) ?_
        obtain ⟨v166, e166, h⟩ := Option.bind_eq_some_iff.mp h
        refine g_getr hx hb hts inlX10 hown hK hG (by rfl) 2 (by decide) qF_X10_13 e166 dX10_parse_166 ?_
        refine lv_iload_n hx hb dX10_parse_169 rfl (lv_at hl 1 rfl) ?_
        refine lv_aload_n hx hb dX10_parse_170 rfl (lv_at hl 0 rfl) ?_
        obtain ⟨v171, e171, h⟩ := Option.bind_eq_some_iff.mp h
        refine g_getr hx hb hts inlX10 hown hK hG (by rfl) 15 (by decide) qF_X10_28 e171 dX10_parse_171 ?_
        refine lv_iload_n hx hb dX10_parse_174 rfl (lv_at hl 1 rfl) ?_
        obtain ⟨v175, e175, h⟩ := Option.bind_eq_some_iff.mp h
        refine g_jald hx hb hK hG e175 dX10_parse_175 ?_
        obtain ⟨G176, e176, h⟩ := Option.bind_eq_some_iff.mp h
        refine g_jast hx hb hK hG e176 dX10_parse_176 (fun H locs hG => ?_)
        refine lv_iinc (v := (bx3 + (1 : Int32))) (lv' := [(3, .int (bx3 + (1 : Int32))), (0, .ref ba0)]) hx hb dX10_parse_177 hl (k := 1) rfl rfl (by decide) rfl (fun ls hl => ?_)
        refine lv_goto (tgt := 159) hx hb dX10_parse_180 (by decide) ?_
        exact ih G176 ba0 (bx3 + (1 : Int32)) _ _ hG _ (lv_sub hl [1, 0] rfl) h
  have h135 : ∀ (G : gH) (ba0 : Nat) (bx2 : Int32), ∀ (H : Heap) (locs : List Loc), g_S lo dd cT s H locs G → ∀ ls : Array Slot, lv_has ls 4 [(0, .ref ba0), (2, .int bx2)] → f_X10_parse_J135 G ba0 bx2 = some (Gz, rz) → W p l e (g_rm 8 173 0 0) s m ([.ref a0, .int x1] : List Value).toArray below meth c H locs 0 0 (MQ below (va_Qi (g_is rz Gz) (g_Pre lo dd cT) (g_A lo)) ([.ref a0, .int x1] : List Value).toArray s 0 0 (g_A lo)) (F0 m 135 ls []) := by
    intro G ba0 bx2 H locs hG ls hl h
    unfold f_X10_parse_J135 at h
    refine lv_iload_n hx hb dX10_parse_135 rfl (lv_at hl 1 rfl) ?_
    refine lv_if_ne (tgt := 157) hx hb dX10_parse_136 (by decide) (fun c136 => ?_) (fun c136 => ?_)
    · rw [if_neg c136] at h
      refine lv_iconst (v := (0 : Int32)) hx hb dX10_parse_157 (by decide) ?_
      refine lv_istore_n (lv' := [(3, .int (0 : Int32)), (0, .ref ba0), (2, .int bx2)]) hx hb dX10_parse_158 rfl hl (by decide) rfl (fun ls hl => ?_)
      exact h159 g_N G ba0 (0 : Int32) _ _ hG _ (lv_sub hl [1, 0] rfl) h
    · rw [if_pos c136] at h
      refine lv_aload_n hx hb dX10_parse_139 rfl (lv_at hl 0 rfl) ?_
      obtain ⟨v140, e140, h⟩ := Option.bind_eq_some_iff.mp h
      refine g_getr hx hb hts inlX10 hown hK hG (by rfl) 14 (by decide) qF_X10_25 e140 dX10_parse_140 ?_
      refine lv_iconst (v := (0 : Int32)) hx hb dX10_parse_143 (by decide) ?_
      refine lv_aload_n hx hb dX10_parse_144 rfl (lv_at hl 0 rfl) ?_
      obtain ⟨v145, e145, h⟩ := Option.bind_eq_some_iff.mp h
      refine g_getr hx hb hts inlX10 hown hK hG (by rfl) 1 (by decide) qF_X10_7 e145 dX10_parse_145 ?_
      refine lv_iconst (v := (0 : Int32)) hx hb dX10_parse_148 (by decide) ?_
      obtain ⟨G149, e149, h⟩ := Option.bind_eq_some_iff.mp h
      refine g_cSv (As := [.ref v140, .int (0 : Int32), .ref v145, .int (0 : Int32)]) (rest := []) (n := 4) hx hb hml hown hts hK hlo hG (m_X10_copies l dd cT lo G v140 (0 : Int32) v145 (0 : Int32) e149) qM_X10_192 qT_yX10_copies qN_X10 qC_yX10_copies (by decide +kernel) ⟨Nat.le_of_ble_eq_true rfl, Nat.le_of_ble_eq_true rfl⟩ rfl hl.1 rfl (Nat.le_of_ble_eq_true rfl) dX10_parse_149 ⟨Nat.le_of_ble_eq_true rfl, Nat.le_of_ble_eq_true rfl⟩ (fun H locs hG => ?_)
      refine lv_aload_n hx hb dX10_parse_152 rfl (lv_at hl 0 rfl) ?_
      obtain ⟨v153, e153, h⟩ := Option.bind_eq_some_iff.mp h
      refine g_geti hx hb hts inlX10 hown hK hG (by rfl) 11 (by decide) qF_X10_99 e153 dX10_parse_153 ?_
      obtain ⟨rfl, rfl⟩ := Prod.mk.inj (Option.some.inj h)
      exact g_iret hx hb hr hlocks hK hlo hG ⟨rfl, rfl⟩ dX10_parse_156
  have h101 : ∀ n : Nat, ∀ (G : gH) (ba0 : Nat) (bx2 : Int32), ∀ (H : Heap) (locs : List Loc), g_S lo dd cT s H locs G → ∀ ls : Array Slot, lv_has ls 4 [(0, .ref ba0), (2, .int bx2)] → f_X10_parse_L101 n G ba0 bx2 = some (Gz, rz) → W p l e (g_rm 8 173 0 0) s m ([.ref a0, .int x1] : List Value).toArray below meth c H locs 0 0 (MQ below (va_Qi (g_is rz Gz) (g_Pre lo dd cT) (g_A lo)) ([.ref a0, .int x1] : List Value).toArray s 0 0 (g_A lo)) (F0 m 101 ls []) := by
    intro n
    induction n with
    | zero =>
      intro G ba0 bx2 H locs hG ls hl h
      cases (show (none : Option (gH × Int32)) = some (Gz, rz) from h)
    | succ n ih =>
      intro G ba0 bx2 H locs hG ls hl h
      rw [f_X10_parse_L101] at h
      refine lv_iload_n hx hb dX10_parse_101 rfl (lv_at hl 1 rfl) ?_
      refine lv_if_eq (tgt := 135) hx hb dX10_parse_102 (by decide) (fun c102 => ?_) (fun c102 => ?_)
      · rw [if_pos c102] at h
        exact h135 G ba0 bx2 _ _ hG _ (lv_sub hl [0, 1] rfl) h
      · rw [if_neg c102] at h
        refine lv_aload_n hx hb dX10_parse_105 rfl (lv_at hl 0 rfl) ?_
        obtain ⟨v106, e106, h⟩ := Option.bind_eq_some_iff.mp h
        refine g_geti hx hb hts inlX10 hown hK hG (by rfl) 8 (by decide) qF_X10_84 e106 dX10_parse_106 ?_
        refine lv_if_eq (tgt := 135) hx hb dX10_parse_109 (by decide) (fun c109 => ?_) (fun c109 => ?_)
        · rw [if_pos c109] at h
          exact h135 G ba0 bx2 _ _ hG _ (lv_sub hl [0, 1] rfl) h
        · rw [if_neg c109] at h
          refine lv_aload_n hx hb dX10_parse_112 rfl (lv_at hl 0 rfl) ?_
          obtain ⟨u113, i113, h⟩ := Option.bind_eq_some_iff.mp h
          obtain ⟨q113, e113, h⟩ := Option.bind_eq_some_iff.mp h
          refine g_cVi (As := []) (rest := []) (n := 0) hx hb hml hown hts hK hlo hG (m_X10_statement l dd cT lo G ba0 e113) qM_X10_199 qI_yX10_statement qS_X10_yX10_statement qN_X10 qC_yX10_statement (by decide +kernel) ⟨Nat.le_of_ble_eq_true rfl, Nat.le_of_ble_eq_true rfl⟩ (by rfl) i113 rfl hl.1 rfl (Nat.le_of_ble_eq_true rfl) dX10_parse_113 ⟨Nat.le_of_ble_eq_true rfl, Nat.le_of_ble_eq_true rfl⟩ (fun H locs hG => ?_)
          refine lv_if_eq (tgt := 130) hx hb dX10_parse_116 (by decide) (fun c116 => ?_) (fun c116 => ?_)
          · rw [if_pos c116] at h
            refine lv_iconst (v := (0 : Int32)) hx hb dX10_parse_130 (by decide) ?_
            refine lv_istore_n (lv' := [(2, .int (0 : Int32)), (0, .ref ba0)]) hx hb dX10_parse_131 rfl hl (by decide) rfl (fun ls hl => ?_)
            refine lv_goto (tgt := 101) hx hb dX10_parse_132 (by decide) ?_
            exact ih q113.1 ba0 (0 : Int32) _ _ hG _ (lv_sub hl [1, 0] rfl) h
          · rw [if_neg c116] at h
            refine lv_aload_n hx hb dX10_parse_119 rfl (lv_at hl 0 rfl) ?_
            obtain ⟨u120, i120, h⟩ := Option.bind_eq_some_iff.mp h
            obtain ⟨q120, e120, h⟩ := Option.bind_eq_some_iff.mp h
            refine g_cVi (As := []) (rest := []) (n := 0) hx hb hml hown hts hK hlo hG (m_X10_closes l dd cT lo q113.1 ba0 e120) qM_X10_185 qI_yX10_closes qS_X10_yX10_closes qN_X10 qC_yX10_closes (by decide +kernel) ⟨Nat.le_of_ble_eq_true rfl, Nat.le_of_ble_eq_true rfl⟩ (by rfl) i120 rfl hl.1 rfl (Nat.le_of_ble_eq_true rfl) dX10_parse_120 ⟨Nat.le_of_ble_eq_true rfl, Nat.le_of_ble_eq_true rfl⟩ (fun H locs hG => ?_)
            refine lv_if_eq (tgt := 130) hx hb dX10_parse_123 (by decide) (fun c123 => ?_) (fun c123 => ?_)
            · rw [if_pos c123] at h
              refine lv_iconst (v := (0 : Int32)) hx hb dX10_parse_130 (by decide) ?_
              refine lv_istore_n (lv' := [(2, .int (0 : Int32)), (0, .ref ba0)]) hx hb dX10_parse_131 rfl hl (by decide) rfl (fun ls hl => ?_)
              refine lv_goto (tgt := 101) hx hb dX10_parse_132 (by decide) ?_
              exact ih q120.1 ba0 (0 : Int32) _ _ hG _ (lv_sub hl [1, 0] rfl) h
            · rw [if_neg c123] at h
              refine lv_iconst (v := (1 : Int32)) hx hb dX10_parse_126 (by decide) ?_
              refine lv_goto (tgt := 131) hx hb dX10_parse_127 (by decide) ?_
              refine lv_istore_n (lv' := [(2, .int (1 : Int32)), (0, .ref ba0)]) hx hb dX10_parse_131 rfl hl (by decide) rfl (fun ls hl => ?_)
              refine lv_goto (tgt := 101) hx hb dX10_parse_132 (by decide) ?_
              exact ih q120.1 ba0 (1 : Int32) _ _ hG _ (lv_sub hl [1, 0] rfl) h
  have h72 : ∀ n : Nat, ∀ (G : gH) (ba0 : Nat) (bx2 : Int32), ∀ (H : Heap) (locs : List Loc), g_S lo dd cT s H locs G → ∀ ls : Array Slot, lv_has ls 4 [(0, .ref ba0), (2, .int bx2)] → f_X10_parse_L72 n G ba0 bx2 = some (Gz, rz) → W p l e (g_rm 8 173 0 0) s m ([.ref a0, .int x1] : List Value).toArray below meth c H locs 0 0 (MQ below (va_Qi (g_is rz Gz) (g_Pre lo dd cT) (g_A lo)) ([.ref a0, .int x1] : List Value).toArray s 0 0 (g_A lo)) (F0 m 72 ls []) := by
    intro n
    induction n with
    | zero =>
      intro G ba0 bx2 H locs hG ls hl h
      cases (show (none : Option (gH × Int32)) = some (Gz, rz) from h)
    | succ n ih =>
      intro G ba0 bx2 H locs hG ls hl h
      rw [f_X10_parse_L72] at h
      refine lv_iload_n hx hb dX10_parse_72 rfl (lv_at hl 1 rfl) ?_
      refine lv_sipush (v := (1555 : Int32)) hx hb dX10_parse_73 (by decide) ?_
      refine lv_icmp_ge (tgt := 92) hx hb dX10_parse_76 (by decide) (fun c76 => ?_) (fun c76 => ?_)
      · rw [if_pos c76] at h
        refine lv_aload_n hx hb dX10_parse_92 rfl (lv_at hl 0 rfl) ?_
        obtain ⟨u93, i93, h⟩ := Option.bind_eq_some_iff.mp h
        obtain ⟨G93, e93, h⟩ := Option.bind_eq_some_iff.mp h
        refine g_cVv (As := []) (rest := []) (n := 0) hx hb hml hown hts hK hlo hG (m_X10_advance l dd cT lo G ba0 e93) qM_X10_110 qI_yX10_advance qS_X10_yX10_advance qN_X10 qC_yX10_advance (by decide +kernel) ⟨Nat.le_of_ble_eq_true rfl, Nat.le_of_ble_eq_true rfl⟩ (by rfl) i93 rfl hl.1 rfl (Nat.le_of_ble_eq_true rfl) dX10_parse_93 ⟨Nat.le_of_ble_eq_true rfl, Nat.le_of_ble_eq_true rfl⟩ (fun H locs hG => ?_)
        refine lv_aload_n hx hb dX10_parse_96 rfl (lv_at hl 0 rfl) ?_
        obtain ⟨u97, i97, h⟩ := Option.bind_eq_some_iff.mp h
        obtain ⟨q97, e97, h⟩ := Option.bind_eq_some_iff.mp h
        refine g_cVi (As := []) (rest := []) (n := 0) hx hb hml hown hts hK hlo hG (m_X10_head l dd cT lo G93 ba0 e97) qM_X10_196 qI_yX10_head qS_X10_yX10_head qN_X10 qC_yX10_head (by decide +kernel) ⟨Nat.le_of_ble_eq_true rfl, Nat.le_of_ble_eq_true rfl⟩ (by rfl) i97 rfl hl.1 rfl (Nat.le_of_ble_eq_true rfl) dX10_parse_97 ⟨Nat.le_of_ble_eq_true rfl, Nat.le_of_ble_eq_true rfl⟩ (fun H locs hG => ?_)
        refine lv_istore_n (lv' := [(2, .int q97.2), (0, .ref ba0)]) hx hb dX10_parse_100 rfl hl (by decide) rfl (fun ls hl => ?_)
        exact h101 g_N q97.1 ba0 q97.2 _ _ hG _ (lv_sub hl [1, 0] rfl) h
      · rw [if_neg c76] at h
        refine lv_aload_n hx hb dX10_parse_79 rfl (lv_at hl 0 rfl) ?_
        obtain ⟨v80, e80, h⟩ := Option.bind_eq_some_iff.mp h
        refine g_getr hx hb hts inlX10 hown hK hG (by rfl) 1 (by decide) qF_X10_7 e80 dX10_parse_80 ?_
        refine lv_iload_n hx hb dX10_parse_83 rfl (lv_at hl 1 rfl) ?_
        refine lv_iconst (v := (0 : Int32)) hx hb dX10_parse_84 (by decide) ?_
        obtain ⟨G85, e85, h⟩ := Option.bind_eq_some_iff.mp h
        refine g_iast hx hb hK hG e85 dX10_parse_85 (fun H locs hG => ?_)
        refine lv_iinc (v := (bx2 + (1 : Int32))) (lv' := [(2, .int (bx2 + (1 : Int32))), (0, .ref ba0)]) hx hb dX10_parse_86 hl (k := 1) rfl rfl (by decide) rfl (fun ls hl => ?_)
        refine lv_goto (tgt := 72) hx hb dX10_parse_89 (by decide) ?_
        exact ih G85 ba0 (bx2 + (1 : Int32)) _ _ hG _ (lv_sub hl [1, 0] rfl) h
  have h23 : ∀ (G : gH) (ba0 : Nat) (bx1 : Int32) (z0 : Nat) (z1 : Int32), ∀ (H : Heap) (locs : List Loc), g_S lo dd cT s H locs G → ∀ ls : Array Slot, lv_has ls 4 [(0, .ref ba0), (1, .int bx1)] → f_X10_parse_J23 G ba0 bx1 z0 z1 = some (Gz, rz) → W p l e (g_rm 8 173 0 0) s m ([.ref a0, .int x1] : List Value).toArray below meth c H locs 0 0 (MQ below (va_Qi (g_is rz Gz) (g_Pre lo dd cT) (g_A lo)) ([.ref a0, .int x1] : List Value).toArray s 0 0 (g_A lo)) (F0 m 23 ls [.int z1, .ref z0]) := by
    intro G ba0 bx1 z0 z1 H locs hG ls hl h
    unfold f_X10_parse_J23 at h
    refine lv_iconst (v := (1 : Int32)) hx hb dX10_parse_23 (by decide) ?_
    obtain ⟨u24, i24, h⟩ := Option.bind_eq_some_iff.mp h
    obtain ⟨q24, e24, h⟩ := Option.bind_eq_some_iff.mp h
    refine g_cVi (As := [.int z1, .int (1 : Int32)]) (rest := []) (n := 2) hx hb hml hown hts hK hlo hG (m_X10_throwsIf l dd cT lo G z0 z1 (1 : Int32) e24) qM_X10_188 qI_yX10_throwsIf qS_X10_yX10_throwsIf qN_X10 qC_yX10_throwsIf (by decide +kernel) ⟨Nat.le_of_ble_eq_true rfl, Nat.le_of_ble_eq_true rfl⟩ (by rfl) i24 rfl hl.1 rfl (Nat.le_of_ble_eq_true rfl) dX10_parse_24 ⟨Nat.le_of_ble_eq_true rfl, Nat.le_of_ble_eq_true rfl⟩ (fun H locs hG => ?_)
    refine lv_if_eq (tgt := 32) hx hb dX10_parse_27 (by decide) (fun c27 => ?_) (fun c27 => ?_)
    · rw [if_pos c27] at h
      refine lv_aload_n hx hb dX10_parse_32 rfl (lv_at hl 0 rfl) ?_
      refine lv_iload_n hx hb dX10_parse_33 rfl (lv_at hl 1 rfl) ?_
      obtain ⟨G34, i34, h⟩ := Option.bind_eq_some_iff.mp h
      refine g_putv hx hb hts inlX10 tyX10 tyX10_ok nmX10 hown hK hG (by rfl) 5 (by decide) qF_X10_60 rfl rfl rfl rfl i34 dX10_parse_34 (fun H locs hG => ?_)
      refine lv_aload_n hx hb dX10_parse_37 rfl (lv_at hl 0 rfl) ?_
      refine lv_iconst (v := (0 : Int32)) hx hb dX10_parse_38 (by decide) ?_
      obtain ⟨G39, i39, h⟩ := Option.bind_eq_some_iff.mp h
      refine g_putv hx hb hts inlX10 tyX10 tyX10_ok nmX10 hown hK hG (by rfl) 4 (by decide) qF_X10_53 rfl rfl rfl rfl i39 dX10_parse_39 (fun H locs hG => ?_)
      refine lv_aload_n hx hb dX10_parse_42 rfl (lv_at hl 0 rfl) ?_
      refine lv_iconst (v := (0 : Int32)) hx hb dX10_parse_43 (by decide) ?_
      obtain ⟨G44, i44, h⟩ := Option.bind_eq_some_iff.mp h
      refine g_putv hx hb hts inlX10 tyX10 tyX10_ok nmX10 hown hK hG (by rfl) 7 (by decide) qF_X10_67 rfl rfl rfl rfl i44 dX10_parse_44 (fun H locs hG => ?_)
      refine lv_aload_n hx hb dX10_parse_47 rfl (lv_at hl 0 rfl) ?_
      refine lv_iconst (v := (0 : Int32)) hx hb dX10_parse_48 (by decide) ?_
      obtain ⟨G49, i49, h⟩ := Option.bind_eq_some_iff.mp h
      refine g_putv hx hb hts inlX10 tyX10 tyX10_ok nmX10 hown hK hG (by rfl) 11 (by decide) qF_X10_99 rfl rfl rfl rfl i49 dX10_parse_49 (fun H locs hG => ?_)
      refine lv_aload_n hx hb dX10_parse_52 rfl (lv_at hl 0 rfl) ?_
      refine lv_iconst (v := (-1 : Int32)) hx hb dX10_parse_53 (by decide) ?_
      obtain ⟨G54, i54, h⟩ := Option.bind_eq_some_iff.mp h
      refine g_putv hx hb hts inlX10 tyX10 tyX10_ok nmX10 hown hK hG (by rfl) 12 (by decide) qF_X10_21 rfl rfl rfl rfl i54 dX10_parse_54 (fun H locs hG => ?_)
      refine lv_aload_n hx hb dX10_parse_57 rfl (lv_at hl 0 rfl) ?_
      obtain ⟨v58, e58, h⟩ := Option.bind_eq_some_iff.mp h
      refine g_getr hx hb hts inlX10 hown hK hG (by rfl) 1 (by decide) qF_X10_7 e58 dX10_parse_58 ?_
      refine lv_iconst (v := (0 : Int32)) hx hb dX10_parse_61 (by decide) ?_
      refine lv_aload_n hx hb dX10_parse_62 rfl (lv_at hl 0 rfl) ?_
      obtain ⟨v63, e63, h⟩ := Option.bind_eq_some_iff.mp h
      refine g_getr hx hb hts inlX10 hown hK hG (by rfl) 14 (by decide) qF_X10_25 e63 dX10_parse_63 ?_
      refine lv_iconst (v := (0 : Int32)) hx hb dX10_parse_66 (by decide) ?_
      obtain ⟨G67, e67, h⟩ := Option.bind_eq_some_iff.mp h
      refine g_cSv (As := [.ref v58, .int (0 : Int32), .ref v63, .int (0 : Int32)]) (rest := []) (n := 4) hx hb hml hown hts hK hlo hG (m_X10_copies l dd cT lo G54 v58 (0 : Int32) v63 (0 : Int32) e67) qM_X10_192 qT_yX10_copies qN_X10 qC_yX10_copies (by decide +kernel) ⟨Nat.le_of_ble_eq_true rfl, Nat.le_of_ble_eq_true rfl⟩ rfl hl.1 rfl (Nat.le_of_ble_eq_true rfl) dX10_parse_67 ⟨Nat.le_of_ble_eq_true rfl, Nat.le_of_ble_eq_true rfl⟩ (fun H locs hG => ?_)
      refine lv_iconst (v := (0 : Int32)) hx hb dX10_parse_70 (by decide) ?_
      refine lv_istore_n (lv' := [(2, .int (0 : Int32)), (0, .ref ba0), (1, .int bx1)]) hx hb dX10_parse_71 rfl hl (by decide) rfl (fun ls hl => ?_)
      exact h72 g_N G67 ba0 (0 : Int32) _ _ hG _ (lv_sub hl [1, 0] rfl) h
    · rw [if_neg c27] at h
      refine lv_iconst (v := (0 : Int32)) hx hb dX10_parse_30 (by decide) ?_
      obtain ⟨rfl, rfl⟩ := Prod.mk.inj (Option.some.inj h)
      exact g_iret hx hb hr hlocks hK hlo hG ⟨rfl, rfl⟩ dX10_parse_31
  unfold f_X10_parse at h
  refine lv_aload_n hx hb dX10_parse_0 rfl (lv_at hl 0 rfl) ?_
  refine lv_iconst (v := (0 : Int32)) hx hb dX10_parse_1 (by decide) ?_
  obtain ⟨G2, i2, h⟩ := Option.bind_eq_some_iff.mp h
  refine g_putv hx hb hts inlX10 tyX10 tyX10_ok nmX10 hown hK hG (by rfl) 0 (by decide) qF_X10_50 rfl rfl rfl rfl i2 dX10_parse_2 (fun H locs hG => ?_)
  refine lv_aload_n hx hb dX10_parse_5 rfl (lv_at hl 0 rfl) ?_
  refine lv_iload_n hx hb dX10_parse_6 rfl (lv_at hl 1 rfl) ?_
  refine lv_iconst (v := (0 : Int32)) hx hb dX10_parse_7 (by decide) ?_
  refine lv_aload_n hx hb dX10_parse_8 rfl (lv_at hl 0 rfl) ?_
  obtain ⟨v9, e9, h⟩ := Option.bind_eq_some_iff.mp h
  refine g_geti hx hb hts inlX10 hown hK hG (by rfl) 4 (by decide) qF_X10_53 e9 dX10_parse_9 ?_
  obtain ⟨v12, e12, h⟩ := Option.bind_eq_some_iff.mp h
  refine g_cSi (As := [.int x1, .int (0 : Int32), .int v9]) (rest := [.ref a0]) (n := 3) hx hb hml hown hts hK hlo hG (m_X10_within l dd cT lo G2 x1 (0 : Int32) v9 e12) qM_X10_74 qT_yX10_within qN_X10 qC_yX10_within (by decide +kernel) ⟨Nat.le_of_ble_eq_true rfl, Nat.le_of_ble_eq_true rfl⟩ rfl hl.1 rfl (Nat.le_of_ble_eq_true rfl) dX10_parse_12 ⟨Nat.le_of_ble_eq_true rfl, Nat.le_of_ble_eq_true rfl⟩ (fun H locs hG => ?_)
  refine lv_if_ne (tgt := 22) hx hb dX10_parse_15 (by decide) (fun c15 => ?_) (fun c15 => ?_)
  · rw [if_neg c15] at h
    refine lv_iconst (v := (0 : Int32)) hx hb dX10_parse_22 (by decide) ?_
    exact h23 G2 a0 x1 a0 (0 : Int32) _ _ hG _ (lv_sub hl [0, 1] rfl) h
  · rw [if_pos c15] at h
    refine lv_iconst (v := (1 : Int32)) hx hb dX10_parse_18 (by decide) ?_
    refine lv_goto (tgt := 23) hx hb dX10_parse_19 (by decide) ?_
    exact h23 G2 a0 x1 a0 (1 : Int32) _ _ hG _ (lv_sub hl [0, 1] rfl) h
def f_X10_findsLost_L28 : Nat → gH → Nat → Int32 → Option gH
  | 0, _, _, _ => none
  | n + 1, G, ba0, bx1 =>
    (g_r G ba0 10 1).bind fun v30 =>
    (g_ald 0 G v30 (6 : Int32)).bind fun v35 =>
    if v35 ≤ bx1 then
    some G
    else
    (g_ob G ba0 10).bind fun u42 =>
    (f_X10_ofVersion G ba0 bx1 (4 : Int32)).bind fun v42 =>
    (g_ob G ba0 10).bind fun u46 =>
    (f_X10_latest G ba0).bind fun v46 =>
    if v42 = v46 then
    (g_ob G ba0 10).bind fun u54 =>
    (f_X10_isReadable G ba0 bx1).bind fun v54 =>
    if v54 = 0 then
    f_X10_findsLost_L28 n G ba0 (bx1 + (1 : Int32))
    else
    (g_ob G ba0 10).bind fun u62 =>
    (f_X10_isOutdone G ba0 bx1).bind fun v62 =>
    if v62 = 0 then
    (g_r G ba0 10 21).bind fun v69 =>
    (g_i G ba0 10 22).bind fun v73 =>
    (g_ast 0 G v69 v73 bx1).bind fun G77 =>
    (g_i G77 ba0 10 22).bind fun v80 =>
    (g_put G77 ba0 10 22 (.int (v80 + (1 : Int32)))).bind fun G85 =>
    f_X10_findsLost_L28 n G85 ba0 (bx1 + (1 : Int32))
    else
    f_X10_findsLost_L28 n G ba0 (bx1 + (1 : Int32))
    else
    f_X10_findsLost_L28 n G ba0 (bx1 + (1 : Int32))
def f_X10_findsLost (G : gH) (a0 : Nat) : Option gH :=
    (g_put G a0 10 22 (.int (0 : Int32))).bind fun G2 =>
    (g_ob G2 a0 10).bind fun u6 =>
    (f_X10_latest G2 a0).bind fun v6 =>
    if v6 < 0 then
    some G2
    else
    (g_ob G2 a0 10).bind fun u14 =>
    (f_X10_latest G2 a0).bind fun v14 =>
    (g_ob G2 a0 10).bind fun u18 =>
    (f_X10_of G2 a0 v14 (0 : Int32)).bind fun v18 =>
    if v18 = (2 : Int32) then
    f_X10_findsLost_L28 g_N G2 a0 (0 : Int32)
    else
    some G2
set_option maxRecDepth 20000 in
set_option maxHeartbeats 4000000 in
theorem m_X10_findsLost (l : Launch) (dd : va_G) (cT : Nat → ClassId) (lo : Nat) (G : gH) (a0 : Nat) {Gz : gH} (h : f_X10_findsLost G a0 = some Gz) : Met l yX10_findsLost (Cond.code yX10_findsLost cX10_findsLost 2 none :: wsL_law) (g_rm 4 89 0 0) (va_Pc [.ref a0] (g_Pre lo dd cT G)) (va_Qv (g_iv Gz) (g_Pre lo dd cT) (g_A lo)) 0 0 (g_A lo) := by
  refine g_start RX10 rfl (by decide) (Nat.le_of_ble_eq_true rfl) ?_
  intro p e s m below meth c hx hb hr hlocks hml hown hnm hts hK hG hlo ls hl
  have hl : lv_has ls 2 [(0, .ref a0)] := hl
  have hG : g_S lo dd cT s s.heap [] G := hG
  have h28 : ∀ n : Nat, ∀ (G : gH) (ba0 : Nat) (bx1 : Int32), ∀ (H : Heap) (locs : List Loc), g_S lo dd cT s H locs G → ∀ ls : Array Slot, lv_has ls 2 [(0, .ref ba0), (1, .int bx1)] → f_X10_findsLost_L28 n G ba0 bx1 = some Gz → W p l e (g_rm 4 89 0 0) s m ([.ref a0] : List Value).toArray below meth c H locs 0 0 (MQ below (va_Qv (g_iv Gz) (g_Pre lo dd cT) (g_A lo)) ([.ref a0] : List Value).toArray s 0 0 (g_A lo)) (F0 m 28 ls []) := by
    intro n
    induction n with
    | zero =>
      intro G ba0 bx1 H locs hG ls hl h
      cases (show (none : Option gH) = some Gz from h)
    | succ n ih =>
      intro G ba0 bx1 H locs hG ls hl h
      rw [f_X10_findsLost_L28] at h
      refine lv_iload_n hx hb dX10_findsLost_28 rfl (lv_at hl 1 rfl) ?_
      refine lv_aload_n hx hb dX10_findsLost_29 rfl (lv_at hl 0 rfl) ?_
      obtain ⟨v30, e30, h⟩ := Option.bind_eq_some_iff.mp h
      refine g_getr hx hb hts inlX10 hown hK hG (by rfl) 1 (by decide) qF_X10_7 e30 dX10_findsLost_30 ?_
      refine lv_bipush (v := (6 : Int32)) hx hb dX10_findsLost_33 (by decide) ?_
      obtain ⟨v35, e35, h⟩ := Option.bind_eq_some_iff.mp h
      refine g_iald hx hb hK hG e35 dX10_findsLost_35 ?_
      refine lv_icmp_ge (tgt := 94) hx hb dX10_findsLost_36 (by decide) (fun c36 => ?_) (fun c36 => ?_)
      · rw [if_pos c36] at h
        obtain rfl := Option.some.inj h
        exact g_vret hx hb hr hlocks hK hlo hG rfl dX10_findsLost_94
      · rw [if_neg c36] at h
        refine lv_aload_n hx hb dX10_findsLost_39 rfl (lv_at hl 0 rfl) ?_
        refine lv_iload_n hx hb dX10_findsLost_40 rfl (lv_at hl 1 rfl) ?_
        refine lv_iconst (v := (4 : Int32)) hx hb dX10_findsLost_41 (by decide) ?_
        obtain ⟨u42, i42, h⟩ := Option.bind_eq_some_iff.mp h
        obtain ⟨v42, e42, h⟩ := Option.bind_eq_some_iff.mp h
        refine g_cVi (As := [.int bx1, .int (4 : Int32)]) (rest := []) (n := 2) hx hb hml hown hts hK hlo hG (m_X10_ofVersion l dd cT lo G ba0 bx1 (4 : Int32) e42) qM_X10_249 qI_yX10_ofVersion qS_X10_yX10_ofVersion qN_X10 qC_yX10_ofVersion (by decide +kernel) ⟨Nat.le_of_ble_eq_true rfl, Nat.le_of_ble_eq_true rfl⟩ (by rfl) i42 rfl hl.1 rfl (Nat.le_of_ble_eq_true rfl) dX10_findsLost_42 ⟨Nat.le_of_ble_eq_true rfl, Nat.le_of_ble_eq_true rfl⟩ (fun H locs hG => ?_)
        refine lv_aload_n hx hb dX10_findsLost_45 rfl (lv_at hl 0 rfl) ?_
        obtain ⟨u46, i46, h⟩ := Option.bind_eq_some_iff.mp h
        obtain ⟨v46, e46, h⟩ := Option.bind_eq_some_iff.mp h
        refine g_cVi (As := []) (rest := [.int v42]) (n := 0) hx hb hml hown hts hK hlo hG (m_X10_latest l dd cT lo G ba0 e46) qM_X10_215 qI_yX10_latest qS_X10_yX10_latest qN_X10 qC_yX10_latest (by decide +kernel) ⟨Nat.le_of_ble_eq_true rfl, Nat.le_of_ble_eq_true rfl⟩ (by rfl) i46 rfl hl.1 rfl (Nat.le_of_ble_eq_true rfl) dX10_findsLost_46 ⟨Nat.le_of_ble_eq_true rfl, Nat.le_of_ble_eq_true rfl⟩ (fun H locs hG => ?_)
        refine lv_icmp_ne (tgt := 88) hx hb dX10_findsLost_49 (by decide) (fun c49 => ?_) (fun c49 => ?_)
        · rw [if_neg c49] at h
          refine lv_iinc (v := (bx1 + (1 : Int32))) (lv' := [(1, .int (bx1 + (1 : Int32))), (0, .ref ba0)]) hx hb dX10_findsLost_88 hl (k := 1) rfl rfl (by decide) rfl (fun ls hl => ?_)
          refine lv_goto (tgt := 28) hx hb dX10_findsLost_91 (by decide) ?_
          exact ih G ba0 (bx1 + (1 : Int32)) _ _ hG _ (lv_sub hl [1, 0] rfl) h
        · rw [if_pos c49] at h
          refine lv_aload_n hx hb dX10_findsLost_52 rfl (lv_at hl 0 rfl) ?_
          refine lv_iload_n hx hb dX10_findsLost_53 rfl (lv_at hl 1 rfl) ?_
          obtain ⟨u54, i54, h⟩ := Option.bind_eq_some_iff.mp h
          obtain ⟨v54, e54, h⟩ := Option.bind_eq_some_iff.mp h
          refine g_cVi (As := [.int bx1]) (rest := []) (n := 1) hx hb hml hown hts hK hlo hG (m_X10_isReadable l dd cT lo G ba0 bx1 e54) qM_X10_252 qI_yX10_isReadable qS_X10_yX10_isReadable qN_X10 qC_yX10_isReadable (by decide +kernel) ⟨Nat.le_of_ble_eq_true rfl, Nat.le_of_ble_eq_true rfl⟩ (by rfl) i54 rfl hl.1 rfl (Nat.le_of_ble_eq_true rfl) dX10_findsLost_54 ⟨Nat.le_of_ble_eq_true rfl, Nat.le_of_ble_eq_true rfl⟩ (fun H locs hG => ?_)
          refine lv_if_eq (tgt := 88) hx hb dX10_findsLost_57 (by decide) (fun c57 => ?_) (fun c57 => ?_)
          · rw [if_pos c57] at h
            refine lv_iinc (v := (bx1 + (1 : Int32))) (lv' := [(1, .int (bx1 + (1 : Int32))), (0, .ref ba0)]) hx hb dX10_findsLost_88 hl (k := 1) rfl rfl (by decide) rfl (fun ls hl => ?_)
            refine lv_goto (tgt := 28) hx hb dX10_findsLost_91 (by decide) ?_
            exact ih G ba0 (bx1 + (1 : Int32)) _ _ hG _ (lv_sub hl [1, 0] rfl) h
          · rw [if_neg c57] at h
            refine lv_aload_n hx hb dX10_findsLost_60 rfl (lv_at hl 0 rfl) ?_
            refine lv_iload_n hx hb dX10_findsLost_61 rfl (lv_at hl 1 rfl) ?_
            obtain ⟨u62, i62, h⟩ := Option.bind_eq_some_iff.mp h
            obtain ⟨v62, e62, h⟩ := Option.bind_eq_some_iff.mp h
            refine g_cVi (As := [.int bx1]) (rest := []) (n := 1) hx hb hml hown hts hK hlo hG (m_X10_isOutdone l dd cT lo G ba0 bx1 e62) qM_X10_290 qI_yX10_isOutdone qS_X10_yX10_isOutdone qN_X10 qC_yX10_isOutdone (by decide +kernel) ⟨Nat.le_of_ble_eq_true rfl, Nat.le_of_ble_eq_true rfl⟩ (by rfl) i62 rfl hl.1 rfl (Nat.le_of_ble_eq_true rfl) dX10_findsLost_62 ⟨Nat.le_of_ble_eq_true rfl, Nat.le_of_ble_eq_true rfl⟩ (fun H locs hG => ?_)
            refine lv_if_ne (tgt := 88) hx hb dX10_findsLost_65 (by decide) (fun c65 => ?_) (fun c65 => ?_)
            · rw [if_neg c65] at h
              refine lv_iinc (v := (bx1 + (1 : Int32))) (lv' := [(1, .int (bx1 + (1 : Int32))), (0, .ref ba0)]) hx hb dX10_findsLost_88 hl (k := 1) rfl rfl (by decide) rfl (fun ls hl => ?_)
              refine lv_goto (tgt := 28) hx hb dX10_findsLost_91 (by decide) ?_
              exact ih G ba0 (bx1 + (1 : Int32)) _ _ hG _ (lv_sub hl [1, 0] rfl) h
            · rw [if_pos c65] at h
              refine lv_aload_n hx hb dX10_findsLost_68 rfl (lv_at hl 0 rfl) ?_
              obtain ⟨v69, e69, h⟩ := Option.bind_eq_some_iff.mp h
              refine g_getr hx hb hts inlX10 hown hK hG (by rfl) 21 (by decide) qF_X10_34 e69 dX10_findsLost_69 ?_
              refine lv_aload_n hx hb dX10_findsLost_72 rfl (lv_at hl 0 rfl) ?_
              obtain ⟨v73, e73, h⟩ := Option.bind_eq_some_iff.mp h
              refine g_geti hx hb hts inlX10 hown hK hG (by rfl) 22 (by decide) qF_X10_287 e73 dX10_findsLost_73 ?_
              refine lv_iload_n hx hb dX10_findsLost_76 rfl (lv_at hl 1 rfl) ?_
              obtain ⟨G77, e77, h⟩ := Option.bind_eq_some_iff.mp h
              refine g_iast hx hb hK hG e77 dX10_findsLost_77 (fun H locs hG => ?_)
              refine lv_aload_n hx hb dX10_findsLost_78 rfl (lv_at hl 0 rfl) ?_
              refine lv_dup hx hb dX10_findsLost_79 rfl ?_
              obtain ⟨v80, e80, h⟩ := Option.bind_eq_some_iff.mp h
              refine g_geti hx hb hts inlX10 hown hK hG (by rfl) 22 (by decide) qF_X10_287 e80 dX10_findsLost_80 ?_
              refine lv_iconst (v := (1 : Int32)) hx hb dX10_findsLost_83 (by decide) ?_
              refine lv_iadd hx hb dX10_findsLost_84 ?_
              obtain ⟨G85, i85, h⟩ := Option.bind_eq_some_iff.mp h
              refine g_putv hx hb hts inlX10 tyX10 tyX10_ok nmX10 hown hK hG (by rfl) 22 (by decide) qF_X10_287 rfl rfl rfl rfl i85 dX10_findsLost_85 (fun H locs hG => ?_)
              refine lv_iinc (v := (bx1 + (1 : Int32))) (lv' := [(1, .int (bx1 + (1 : Int32))), (0, .ref ba0)]) hx hb dX10_findsLost_88 hl (k := 1) rfl rfl (by decide) rfl (fun ls hl => ?_)
              refine lv_goto (tgt := 28) hx hb dX10_findsLost_91 (by decide) ?_
              exact ih G85 ba0 (bx1 + (1 : Int32)) _ _ hG _ (lv_sub hl [1, 0] rfl) h
  unfold f_X10_findsLost at h
  refine lv_aload_n hx hb dX10_findsLost_0 rfl (lv_at hl 0 rfl) ?_
  refine lv_iconst (v := (0 : Int32)) hx hb dX10_findsLost_1 (by decide) ?_
  obtain ⟨G2, i2, h⟩ := Option.bind_eq_some_iff.mp h
  refine g_putv hx hb hts inlX10 tyX10 tyX10_ok nmX10 hown hK hG (by rfl) 22 (by decide) qF_X10_287 rfl rfl rfl rfl i2 dX10_findsLost_2 (fun H locs hG => ?_)
  refine lv_aload_n hx hb dX10_findsLost_5 rfl (lv_at hl 0 rfl) ?_
  obtain ⟨u6, i6, h⟩ := Option.bind_eq_some_iff.mp h
  obtain ⟨v6, e6, h⟩ := Option.bind_eq_some_iff.mp h
  refine g_cVi (As := []) (rest := []) (n := 0) hx hb hml hown hts hK hlo hG (m_X10_latest l dd cT lo G2 a0 e6) qM_X10_215 qI_yX10_latest qS_X10_yX10_latest qN_X10 qC_yX10_latest (by decide +kernel) ⟨Nat.le_of_ble_eq_true rfl, Nat.le_of_ble_eq_true rfl⟩ (by rfl) i6 rfl hl.1 rfl (Nat.le_of_ble_eq_true rfl) dX10_findsLost_6 ⟨Nat.le_of_ble_eq_true rfl, Nat.le_of_ble_eq_true rfl⟩ (fun H locs hG => ?_)
  refine lv_if_lt (tgt := 25) hx hb dX10_findsLost_9 (by decide) (fun c9 => ?_) (fun c9 => ?_)
  · rw [if_pos c9] at h
    obtain rfl := Option.some.inj h
    exact g_vret hx hb hr hlocks hK hlo hG rfl dX10_findsLost_25
  · rw [if_neg c9] at h
    refine lv_aload_n hx hb dX10_findsLost_12 rfl (lv_at hl 0 rfl) ?_
    refine lv_aload_n hx hb dX10_findsLost_13 rfl (lv_at hl 0 rfl) ?_
    obtain ⟨u14, i14, h⟩ := Option.bind_eq_some_iff.mp h
    obtain ⟨v14, e14, h⟩ := Option.bind_eq_some_iff.mp h
    refine g_cVi (As := []) (rest := [.ref a0]) (n := 0) hx hb hml hown hts hK hlo hG (m_X10_latest l dd cT lo G2 a0 e14) qM_X10_215 qI_yX10_latest qS_X10_yX10_latest qN_X10 qC_yX10_latest (by decide +kernel) ⟨Nat.le_of_ble_eq_true rfl, Nat.le_of_ble_eq_true rfl⟩ (by rfl) i14 rfl hl.1 rfl (Nat.le_of_ble_eq_true rfl) dX10_findsLost_14 ⟨Nat.le_of_ble_eq_true rfl, Nat.le_of_ble_eq_true rfl⟩ (fun H locs hG => ?_)
    refine lv_iconst (v := (0 : Int32)) hx hb dX10_findsLost_17 (by decide) ?_
    obtain ⟨u18, i18, h⟩ := Option.bind_eq_some_iff.mp h
    obtain ⟨v18, e18, h⟩ := Option.bind_eq_some_iff.mp h
    refine g_cVi (As := [.int v14, .int (0 : Int32)]) (rest := []) (n := 2) hx hb hml hown hts hK hlo hG (m_X10_of l dd cT lo G2 a0 v14 (0 : Int32) e18) qM_X10_218 qI_yX10_of qS_X10_yX10_of qN_X10 qC_yX10_of (by decide +kernel) ⟨Nat.le_of_ble_eq_true rfl, Nat.le_of_ble_eq_true rfl⟩ (by rfl) i18 rfl hl.1 rfl (Nat.le_of_ble_eq_true rfl) dX10_findsLost_18 ⟨Nat.le_of_ble_eq_true rfl, Nat.le_of_ble_eq_true rfl⟩ (fun H locs hG => ?_)
    refine lv_iconst (v := (2 : Int32)) hx hb dX10_findsLost_21 (by decide) ?_
    refine lv_icmp_eq (tgt := 26) hx hb dX10_findsLost_22 (by decide) (fun c22 => ?_) (fun c22 => ?_)
    · rw [if_pos c22] at h
      refine lv_iconst (v := (0 : Int32)) hx hb dX10_findsLost_26 (by decide) ?_
      refine lv_istore_n (lv' := [(1, .int (0 : Int32)), (0, .ref a0)]) hx hb dX10_findsLost_27 rfl hl (by decide) rfl (fun ls hl => ?_)
      exact h28 g_N G2 a0 (0 : Int32) _ _ hG _ (lv_sub hl [1, 0] rfl) h
    · rw [if_neg c22] at h
      obtain rfl := Option.some.inj h
      exact g_vret hx hb hr hlocks hK hlo hG rfl dX10_findsLost_25
def f_X10_whyRecover (G : gH) (a0 : Nat) : Option (gH × Int32) :=
    (g_ob G a0 10).bind fun u1 =>
    (f_X10_findsLost G a0).bind fun G1 =>
    (g_i G1 a0 10 22).bind fun v5 =>
    if v5 = 0 then
    some (G1, (2 : Int32))
    else
    (g_r G1 a0 10 1).bind fun v14 =>
    (g_ald 0 G1 v14 (3 : Int32)).bind fun v18 =>
    if v18 = (12 : Int32) then
    some (G1, (3 : Int32))
    else
    (g_i G1 a0 10 22).bind fun v27 =>
    (f_X10_directoryLong G1 v27).bind fun v30 =>
    (g_ob G1 a0 10).bind fun u36 =>
    (f_X10_hasRoom G1 a0 v30).bind fun v36 =>
    if v36 = 0 then
    some (G1, (4 : Int32))
    else
    (g_ob G1 a0 10).bind fun u48 =>
    (f_X10_hasSpare G1 a0 v30).bind fun v48 =>
    if v48 = 0 then
    some (G1, (5 : Int32))
    else
    some (G1, (0 : Int32))
set_option maxRecDepth 20000 in
set_option maxHeartbeats 4000000 in
theorem m_X10_whyRecover (l : Launch) (dd : va_G) (cT : Nat → ClassId) (lo : Nat) (G : gH) (a0 : Nat) {rz : Int32} {Gz : gH} (h : f_X10_whyRecover G a0 = some (Gz, rz)) : Met l yX10_whyRecover (Cond.code yX10_whyRecover cX10_whyRecover 2 (some .int) :: wsL_law) (g_rm 5 110 0 0) (va_Pc [.ref a0] (g_Pre lo dd cT G)) (va_Qi (g_is rz Gz) (g_Pre lo dd cT) (g_A lo)) 0 0 (g_A lo) := by
  refine g_start RX10 rfl (by decide) (Nat.le_of_ble_eq_true rfl) ?_
  intro p e s m below meth c hx hb hr hlocks hml hown hnm hts hK hG hlo ls hl
  have hl : lv_has ls 2 [(0, .ref a0)] := hl
  have hG : g_S lo dd cT s s.heap [] G := hG
  unfold f_X10_whyRecover at h
  refine lv_aload_n hx hb dX10_whyRecover_0 rfl (lv_at hl 0 rfl) ?_
  obtain ⟨u1, i1, h⟩ := Option.bind_eq_some_iff.mp h
  obtain ⟨G1, e1, h⟩ := Option.bind_eq_some_iff.mp h
  refine g_cVv (As := []) (rest := []) (n := 0) hx hb hml hown hts hK hlo hG (m_X10_findsLost l dd cT lo G a0 e1) qM_X10_293 qI_yX10_findsLost qS_X10_yX10_findsLost qN_X10 qC_yX10_findsLost (by decide +kernel) ⟨Nat.le_of_ble_eq_true rfl, Nat.le_of_ble_eq_true rfl⟩ (by rfl) i1 rfl hl.1 rfl (Nat.le_of_ble_eq_true rfl) dX10_whyRecover_1 ⟨Nat.le_of_ble_eq_true rfl, Nat.le_of_ble_eq_true rfl⟩ (fun H locs hG => ?_)
  refine lv_aload_n hx hb dX10_whyRecover_4 rfl (lv_at hl 0 rfl) ?_
  obtain ⟨v5, e5, h⟩ := Option.bind_eq_some_iff.mp h
  refine g_geti hx hb hts inlX10 hown hK hG (by rfl) 22 (by decide) qF_X10_287 e5 dX10_whyRecover_5 ?_
  refine lv_if_ne (tgt := 13) hx hb dX10_whyRecover_8 (by decide) (fun c8 => ?_) (fun c8 => ?_)
  · rw [if_neg c8] at h
    refine lv_aload_n hx hb dX10_whyRecover_13 rfl (lv_at hl 0 rfl) ?_
    obtain ⟨v14, e14, h⟩ := Option.bind_eq_some_iff.mp h
    refine g_getr hx hb hts inlX10 hown hK hG (by rfl) 1 (by decide) qF_X10_7 e14 dX10_whyRecover_14 ?_
    refine lv_iconst (v := (3 : Int32)) hx hb dX10_whyRecover_17 (by decide) ?_
    obtain ⟨v18, e18, h⟩ := Option.bind_eq_some_iff.mp h
    refine g_iald hx hb hK hG e18 dX10_whyRecover_18 ?_
    refine lv_bipush (v := (12 : Int32)) hx hb dX10_whyRecover_19 (by decide) ?_
    refine lv_icmp_ne (tgt := 26) hx hb dX10_whyRecover_21 (by decide) (fun c21 => ?_) (fun c21 => ?_)
    · rw [if_neg c21] at h
      refine lv_aload_n hx hb dX10_whyRecover_26 rfl (lv_at hl 0 rfl) ?_
      obtain ⟨v27, e27, h⟩ := Option.bind_eq_some_iff.mp h
      refine g_geti hx hb hts inlX10 hown hK hG (by rfl) 22 (by decide) qF_X10_287 e27 dX10_whyRecover_27 ?_
      obtain ⟨v30, e30, h⟩ := Option.bind_eq_some_iff.mp h
      refine g_cSi (As := [.int v27]) (rest := []) (n := 1) hx hb hml hown hts hK hlo hG (m_X10_directoryLong l dd cT lo G1 v27 e30) qM_X10_221 qT_yX10_directoryLong qN_X10 qC_yX10_directoryLong (by decide +kernel) ⟨Nat.le_of_ble_eq_true rfl, Nat.le_of_ble_eq_true rfl⟩ rfl hl.1 rfl (Nat.le_of_ble_eq_true rfl) dX10_whyRecover_30 ⟨Nat.le_of_ble_eq_true rfl, Nat.le_of_ble_eq_true rfl⟩ (fun H locs hG => ?_)
      refine lv_istore_n (lv' := [(1, .int v30), (0, .ref a0)]) hx hb dX10_whyRecover_33 rfl hl (by decide) rfl (fun ls hl => ?_)
      refine lv_aload_n hx hb dX10_whyRecover_34 rfl (lv_at hl 1 rfl) ?_
      refine lv_iload_n hx hb dX10_whyRecover_35 rfl (lv_at hl 0 rfl) ?_
      obtain ⟨u36, i36, h⟩ := Option.bind_eq_some_iff.mp h
      obtain ⟨v36, e36, h⟩ := Option.bind_eq_some_iff.mp h
      refine g_cVi (As := [.int v30]) (rest := []) (n := 1) hx hb hml hown hts hK hlo hG (m_X10_hasRoom l dd cT lo G1 a0 v30 e36) qM_X10_261 qI_yX10_hasRoom qS_X10_yX10_hasRoom qN_X10 qC_yX10_hasRoom (by decide +kernel) ⟨Nat.le_of_ble_eq_true rfl, Nat.le_of_ble_eq_true rfl⟩ (by rfl) i36 rfl hl.1 rfl (Nat.le_of_ble_eq_true rfl) dX10_whyRecover_36 ⟨Nat.le_of_ble_eq_true rfl, Nat.le_of_ble_eq_true rfl⟩ (fun H locs hG => ?_)
      refine lv_if_ne (tgt := 46) hx hb dX10_whyRecover_39 (by decide) (fun c39 => ?_) (fun c39 => ?_)
      · rw [if_neg c39] at h
        refine lv_aload_n hx hb dX10_whyRecover_46 rfl (lv_at hl 1 rfl) ?_
        refine lv_iload_n hx hb dX10_whyRecover_47 rfl (lv_at hl 0 rfl) ?_
        obtain ⟨u48, i48, h⟩ := Option.bind_eq_some_iff.mp h
        obtain ⟨v48, e48, h⟩ := Option.bind_eq_some_iff.mp h
        refine g_cVi (As := [.int v30]) (rest := []) (n := 1) hx hb hml hown hts hK hlo hG (m_X10_hasSpare l dd cT lo G1 a0 v30 e48) qM_X10_264 qI_yX10_hasSpare qS_X10_yX10_hasSpare qN_X10 qC_yX10_hasSpare (by decide +kernel) ⟨Nat.le_of_ble_eq_true rfl, Nat.le_of_ble_eq_true rfl⟩ (by rfl) i48 rfl hl.1 rfl (Nat.le_of_ble_eq_true rfl) dX10_whyRecover_48 ⟨Nat.le_of_ble_eq_true rfl, Nat.le_of_ble_eq_true rfl⟩ (fun H locs hG => ?_)
        refine lv_if_eq (tgt := 58) hx hb dX10_whyRecover_51 (by decide) (fun c51 => ?_) (fun c51 => ?_)
        · rw [if_pos c51] at h
          refine lv_iconst (v := (5 : Int32)) hx hb dX10_whyRecover_58 (by decide) ?_
          obtain ⟨rfl, rfl⟩ := Prod.mk.inj (Option.some.inj h)
          exact g_iret hx hb hr hlocks hK hlo hG ⟨rfl, rfl⟩ dX10_whyRecover_59
        · rw [if_neg c51] at h
          refine lv_iconst (v := (0 : Int32)) hx hb dX10_whyRecover_54 (by decide) ?_
          refine lv_goto (tgt := 59) hx hb dX10_whyRecover_55 (by decide) ?_
          obtain ⟨rfl, rfl⟩ := Prod.mk.inj (Option.some.inj h)
          exact g_iret hx hb hr hlocks hK hlo hG ⟨rfl, rfl⟩ dX10_whyRecover_59
      · rw [if_pos c39] at h
        refine lv_iconst (v := (4 : Int32)) hx hb dX10_whyRecover_42 (by decide) ?_
        refine lv_goto (tgt := 59) hx hb dX10_whyRecover_43 (by decide) ?_
        obtain ⟨rfl, rfl⟩ := Prod.mk.inj (Option.some.inj h)
        exact g_iret hx hb hr hlocks hK hlo hG ⟨rfl, rfl⟩ dX10_whyRecover_59
    · rw [if_pos c21] at h
      refine lv_iconst (v := (3 : Int32)) hx hb dX10_whyRecover_24 (by decide) ?_
      obtain ⟨rfl, rfl⟩ := Prod.mk.inj (Option.some.inj h)
      exact g_iret hx hb hr hlocks hK hlo hG ⟨rfl, rfl⟩ dX10_whyRecover_25
  · rw [if_pos c8] at h
    refine lv_iconst (v := (2 : Int32)) hx hb dX10_whyRecover_11 (by decide) ?_
    obtain ⟨rfl, rfl⟩ := Prod.mk.inj (Option.some.inj h)
    exact g_iret hx hb hr hlocks hK hlo hG ⟨rfl, rfl⟩ dX10_whyRecover_12
def f_X10_whyNot_J20 (G : gH) (ba0 : Nat) (bx1 : Int32) (z0 : Nat) (z1 : Int32) : Option (gH × Int32) :=
    (g_ob G z0 10).bind fun u21 =>
    (f_X10_throwsIf G z0 z1 (1 : Int32)).bind fun q21 =>
    if q21.2 = 0 then
    if bx1 = 0 then
    (g_ob q21.1 ba0 10).bind fun u34 =>
    (f_X10_whyClose q21.1 ba0).bind fun v34 =>
    some (q21.1, v34)
    else
    if bx1 = (1 : Int32) then
    (g_ob q21.1 ba0 10).bind fun u46 =>
    (f_X10_isOpen q21.1 ba0).bind fun v46 =>
    if v46 = 0 then
    some (q21.1, (1 : Int32))
    else
    some (q21.1, (0 : Int32))
    else
    (g_ob q21.1 ba0 10).bind fun u61 =>
    (f_X10_whyRecover q21.1 ba0).bind fun q61 =>
    some (q61.1, q61.2)
    else
    some (q21.1, (0 : Int32))
def f_X10_whyNot (G : gH) (a0 : Nat) (x1 : Int32) : Option (gH × Int32) :=
    (g_put G a0 10 0 (.int (0 : Int32))).bind fun G2 =>
    (f_X10_within G2 x1 (0 : Int32) (2 : Int32)).bind fun v9 =>
    if v9 = 0 then
    f_X10_whyNot_J20 G2 a0 x1 a0 (1 : Int32)
    else
    f_X10_whyNot_J20 G2 a0 x1 a0 (0 : Int32)
set_option maxRecDepth 20000 in
set_option maxHeartbeats 4000000 in
theorem m_X10_whyNot (l : Launch) (dd : va_G) (cT : Nat → ClassId) (lo : Nat) (G : gH) (a0 : Nat) (x1 : Int32) {rz : Int32} {Gz : gH} (h : f_X10_whyNot G a0 x1 = some (Gz, rz)) : Met l yX10_whyNot (Cond.code yX10_whyNot cX10_whyNot 2 (some .int) :: wsL_law) (g_rm 6 131 0 0) (va_Pc [.ref a0, .int x1] (g_Pre lo dd cT G)) (va_Qi (g_is rz Gz) (g_Pre lo dd cT) (g_A lo)) 0 0 (g_A lo) := by
  refine g_start RX10 rfl (by decide) (Nat.le_of_ble_eq_true rfl) ?_
  intro p e s m below meth c hx hb hr hlocks hml hown hnm hts hK hG hlo ls hl
  have hl : lv_has ls 2 [(0, .ref a0), (1, .int x1)] := hl
  have hG : g_S lo dd cT s s.heap [] G := hG
  have h20 : ∀ (G : gH) (ba0 : Nat) (bx1 : Int32) (z0 : Nat) (z1 : Int32), ∀ (H : Heap) (locs : List Loc), g_S lo dd cT s H locs G → ∀ ls : Array Slot, lv_has ls 2 [(0, .ref ba0), (1, .int bx1)] → f_X10_whyNot_J20 G ba0 bx1 z0 z1 = some (Gz, rz) → W p l e (g_rm 6 131 0 0) s m ([.ref a0, .int x1] : List Value).toArray below meth c H locs 0 0 (MQ below (va_Qi (g_is rz Gz) (g_Pre lo dd cT) (g_A lo)) ([.ref a0, .int x1] : List Value).toArray s 0 0 (g_A lo)) (F0 m 20 ls [.int z1, .ref z0]) := by
    intro G ba0 bx1 z0 z1 H locs hG ls hl h
    unfold f_X10_whyNot_J20 at h
    refine lv_iconst (v := (1 : Int32)) hx hb dX10_whyNot_20 (by decide) ?_
    obtain ⟨u21, i21, h⟩ := Option.bind_eq_some_iff.mp h
    obtain ⟨q21, e21, h⟩ := Option.bind_eq_some_iff.mp h
    refine g_cVi (As := [.int z1, .int (1 : Int32)]) (rest := []) (n := 2) hx hb hml hown hts hK hlo hG (m_X10_throwsIf l dd cT lo G z0 z1 (1 : Int32) e21) qM_X10_188 qI_yX10_throwsIf qS_X10_yX10_throwsIf qN_X10 qC_yX10_throwsIf (by decide +kernel) ⟨Nat.le_of_ble_eq_true rfl, Nat.le_of_ble_eq_true rfl⟩ (by rfl) i21 rfl hl.1 rfl (Nat.le_of_ble_eq_true rfl) dX10_whyNot_21 ⟨Nat.le_of_ble_eq_true rfl, Nat.le_of_ble_eq_true rfl⟩ (fun H locs hG => ?_)
    refine lv_if_eq (tgt := 29) hx hb dX10_whyNot_24 (by decide) (fun c24 => ?_) (fun c24 => ?_)
    · rw [if_pos c24] at h
      refine lv_iload_n hx hb dX10_whyNot_29 rfl (lv_at hl 1 rfl) ?_
      refine lv_if_ne (tgt := 40) hx hb dX10_whyNot_30 (by decide) (fun c30 => ?_) (fun c30 => ?_)
      · rw [if_neg c30] at h
        refine lv_iload_n hx hb dX10_whyNot_40 rfl (lv_at hl 1 rfl) ?_
        refine lv_iconst (v := (1 : Int32)) hx hb dX10_whyNot_41 (by decide) ?_
        refine lv_icmp_ne (tgt := 60) hx hb dX10_whyNot_42 (by decide) (fun c42 => ?_) (fun c42 => ?_)
        · rw [if_neg c42] at h
          refine lv_aload_n hx hb dX10_whyNot_60 rfl (lv_at hl 0 rfl) ?_
          obtain ⟨u61, i61, h⟩ := Option.bind_eq_some_iff.mp h
          obtain ⟨q61, e61, h⟩ := Option.bind_eq_some_iff.mp h
          refine g_cVi (As := []) (rest := []) (n := 0) hx hb hml hown hts hK hlo hG (m_X10_whyRecover l dd cT lo q21.1 ba0 e61) qM_X10_336 qI_yX10_whyRecover qS_X10_yX10_whyRecover qN_X10 qC_yX10_whyRecover (by decide +kernel) ⟨Nat.le_of_ble_eq_true rfl, Nat.le_of_ble_eq_true rfl⟩ (by rfl) i61 rfl hl.1 rfl (Nat.le_of_ble_eq_true rfl) dX10_whyNot_61 ⟨Nat.le_of_ble_eq_true rfl, Nat.le_of_ble_eq_true rfl⟩ (fun H locs hG => ?_)
          obtain ⟨rfl, rfl⟩ := Prod.mk.inj (Option.some.inj h)
          exact g_iret hx hb hr hlocks hK hlo hG ⟨rfl, rfl⟩ dX10_whyNot_64
        · rw [if_pos c42] at h
          refine lv_aload_n hx hb dX10_whyNot_45 rfl (lv_at hl 0 rfl) ?_
          obtain ⟨u46, i46, h⟩ := Option.bind_eq_some_iff.mp h
          obtain ⟨v46, e46, h⟩ := Option.bind_eq_some_iff.mp h
          refine g_cVi (As := []) (rest := []) (n := 0) hx hb hml hown hts hK hlo hG (m_X10_isOpen l dd cT lo q21.1 ba0 e46) qM_X10_255 qI_yX10_isOpen qS_X10_yX10_isOpen qN_X10 qC_yX10_isOpen (by decide +kernel) ⟨Nat.le_of_ble_eq_true rfl, Nat.le_of_ble_eq_true rfl⟩ (by rfl) i46 rfl hl.1 rfl (Nat.le_of_ble_eq_true rfl) dX10_whyNot_46 ⟨Nat.le_of_ble_eq_true rfl, Nat.le_of_ble_eq_true rfl⟩ (fun H locs hG => ?_)
          refine lv_if_eq (tgt := 56) hx hb dX10_whyNot_49 (by decide) (fun c49 => ?_) (fun c49 => ?_)
          · rw [if_pos c49] at h
            refine lv_iconst (v := (1 : Int32)) hx hb dX10_whyNot_56 (by decide) ?_
            refine lv_goto (tgt := 64) hx hb dX10_whyNot_57 (by decide) ?_
            obtain ⟨rfl, rfl⟩ := Prod.mk.inj (Option.some.inj h)
            exact g_iret hx hb hr hlocks hK hlo hG ⟨rfl, rfl⟩ dX10_whyNot_64
          · rw [if_neg c49] at h
            refine lv_iconst (v := (0 : Int32)) hx hb dX10_whyNot_52 (by decide) ?_
            refine lv_goto (tgt := 64) hx hb dX10_whyNot_53 (by decide) ?_
            obtain ⟨rfl, rfl⟩ := Prod.mk.inj (Option.some.inj h)
            exact g_iret hx hb hr hlocks hK hlo hG ⟨rfl, rfl⟩ dX10_whyNot_64
      · rw [if_pos c30] at h
        refine lv_aload_n hx hb dX10_whyNot_33 rfl (lv_at hl 0 rfl) ?_
        obtain ⟨u34, i34, h⟩ := Option.bind_eq_some_iff.mp h
        obtain ⟨v34, e34, h⟩ := Option.bind_eq_some_iff.mp h
        refine g_cVi (As := []) (rest := []) (n := 0) hx hb hml hown hts hK hlo hG (m_X10_whyClose l dd cT lo q21.1 ba0 e34) qM_X10_148 qI_yX10_whyClose qS_X10_yX10_whyClose qN_X10 qC_yX10_whyClose (by decide +kernel) ⟨Nat.le_of_ble_eq_true rfl, Nat.le_of_ble_eq_true rfl⟩ (by rfl) i34 rfl hl.1 rfl (Nat.le_of_ble_eq_true rfl) dX10_whyNot_34 ⟨Nat.le_of_ble_eq_true rfl, Nat.le_of_ble_eq_true rfl⟩ (fun H locs hG => ?_)
        refine lv_goto (tgt := 64) hx hb dX10_whyNot_37 (by decide) ?_
        obtain ⟨rfl, rfl⟩ := Prod.mk.inj (Option.some.inj h)
        exact g_iret hx hb hr hlocks hK hlo hG ⟨rfl, rfl⟩ dX10_whyNot_64
    · rw [if_neg c24] at h
      refine lv_iconst (v := (0 : Int32)) hx hb dX10_whyNot_27 (by decide) ?_
      obtain ⟨rfl, rfl⟩ := Prod.mk.inj (Option.some.inj h)
      exact g_iret hx hb hr hlocks hK hlo hG ⟨rfl, rfl⟩ dX10_whyNot_28
  unfold f_X10_whyNot at h
  refine lv_aload_n hx hb dX10_whyNot_0 rfl (lv_at hl 0 rfl) ?_
  refine lv_iconst (v := (0 : Int32)) hx hb dX10_whyNot_1 (by decide) ?_
  obtain ⟨G2, i2, h⟩ := Option.bind_eq_some_iff.mp h
  refine g_putv hx hb hts inlX10 tyX10 tyX10_ok nmX10 hown hK hG (by rfl) 0 (by decide) qF_X10_50 rfl rfl rfl rfl i2 dX10_whyNot_2 (fun H locs hG => ?_)
  refine lv_aload_n hx hb dX10_whyNot_5 rfl (lv_at hl 0 rfl) ?_
  refine lv_iload_n hx hb dX10_whyNot_6 rfl (lv_at hl 1 rfl) ?_
  refine lv_iconst (v := (0 : Int32)) hx hb dX10_whyNot_7 (by decide) ?_
  refine lv_iconst (v := (2 : Int32)) hx hb dX10_whyNot_8 (by decide) ?_
  obtain ⟨v9, e9, h⟩ := Option.bind_eq_some_iff.mp h
  refine g_cSi (As := [.int x1, .int (0 : Int32), .int (2 : Int32)]) (rest := [.ref a0]) (n := 3) hx hb hml hown hts hK hlo hG (m_X10_within l dd cT lo G2 x1 (0 : Int32) (2 : Int32) e9) qM_X10_74 qT_yX10_within qN_X10 qC_yX10_within (by decide +kernel) ⟨Nat.le_of_ble_eq_true rfl, Nat.le_of_ble_eq_true rfl⟩ rfl hl.1 rfl (Nat.le_of_ble_eq_true rfl) dX10_whyNot_9 ⟨Nat.le_of_ble_eq_true rfl, Nat.le_of_ble_eq_true rfl⟩ (fun H locs hG => ?_)
  refine lv_if_ne (tgt := 19) hx hb dX10_whyNot_12 (by decide) (fun c12 => ?_) (fun c12 => ?_)
  · rw [if_neg c12] at h
    refine lv_iconst (v := (0 : Int32)) hx hb dX10_whyNot_19 (by decide) ?_
    exact h20 G2 a0 x1 a0 (0 : Int32) _ _ hG _ (lv_sub hl [0, 1] rfl) h
  · rw [if_pos c12] at h
    refine lv_iconst (v := (1 : Int32)) hx hb dX10_whyNot_15 (by decide) ?_
    refine lv_goto (tgt := 20) hx hb dX10_whyNot_16 (by decide) ?_
    exact h20 G2 a0 x1 a0 (1 : Int32) _ _ hG _ (lv_sub hl [0, 1] rfl) h
def f_X10_couldRecover (G : gH) (a0 : Nat) : Option (gH × Int32) :=
    (g_put G a0 10 0 (.int (0 : Int32))).bind fun G2 =>
    (g_ob G2 a0 10).bind fun u6 =>
    (f_X10_findsLost G2 a0).bind fun G6 =>
    (g_i G6 a0 10 22).bind fun v10 =>
    some (G6, v10)
set_option maxRecDepth 20000 in
set_option maxHeartbeats 4000000 in
theorem m_X10_couldRecover (l : Launch) (dd : va_G) (cT : Nat → ClassId) (lo : Nat) (G : gH) (a0 : Nat) {rz : Int32} {Gz : gH} (h : f_X10_couldRecover G a0 = some (Gz, rz)) : Met l yX10_couldRecover (Cond.code yX10_couldRecover cX10_couldRecover 1 (some .int) :: wsL_law) (g_rm 5 110 0 0) (va_Pc [.ref a0] (g_Pre lo dd cT G)) (va_Qi (g_is rz Gz) (g_Pre lo dd cT) (g_A lo)) 0 0 (g_A lo) := by
  refine g_start RX10 rfl (by decide) (Nat.le_of_ble_eq_true rfl) ?_
  intro p e s m below meth c hx hb hr hlocks hml hown hnm hts hK hG hlo ls hl
  have hl : lv_has ls 1 [(0, .ref a0)] := hl
  have hG : g_S lo dd cT s s.heap [] G := hG
  unfold f_X10_couldRecover at h
  refine lv_aload_n hx hb dX10_couldRecover_0 rfl (lv_at hl 0 rfl) ?_
  refine lv_iconst (v := (0 : Int32)) hx hb dX10_couldRecover_1 (by decide) ?_
  obtain ⟨G2, i2, h⟩ := Option.bind_eq_some_iff.mp h
  refine g_putv hx hb hts inlX10 tyX10 tyX10_ok nmX10 hown hK hG (by rfl) 0 (by decide) qF_X10_50 rfl rfl rfl rfl i2 dX10_couldRecover_2 (fun H locs hG => ?_)
  refine lv_aload_n hx hb dX10_couldRecover_5 rfl (lv_at hl 0 rfl) ?_
  obtain ⟨u6, i6, h⟩ := Option.bind_eq_some_iff.mp h
  obtain ⟨G6, e6, h⟩ := Option.bind_eq_some_iff.mp h
  refine g_cVv (As := []) (rest := []) (n := 0) hx hb hml hown hts hK hlo hG (m_X10_findsLost l dd cT lo G2 a0 e6) qM_X10_293 qI_yX10_findsLost qS_X10_yX10_findsLost qN_X10 qC_yX10_findsLost (by decide +kernel) ⟨Nat.le_of_ble_eq_true rfl, Nat.le_of_ble_eq_true rfl⟩ (by rfl) i6 rfl hl.1 rfl (Nat.le_of_ble_eq_true rfl) dX10_couldRecover_6 ⟨Nat.le_of_ble_eq_true rfl, Nat.le_of_ble_eq_true rfl⟩ (fun H locs hG => ?_)
  refine lv_aload_n hx hb dX10_couldRecover_9 rfl (lv_at hl 0 rfl) ?_
  obtain ⟨v10, e10, h⟩ := Option.bind_eq_some_iff.mp h
  refine g_geti hx hb hts inlX10 hown hK hG (by rfl) 22 (by decide) qF_X10_287 e10 dX10_couldRecover_10 ?_
  obtain ⟨rfl, rfl⟩ := Prod.mk.inj (Option.some.inj h)
  exact g_iret hx hb hr hlocks hK hlo hG ⟨rfl, rfl⟩ dX10_couldRecover_13
def f_X10_write_J57 (G : gH) (ba0 : Nat) (bx1 : Int32) (bx2 : Int32) (bx3 : Int32) (z0 : Nat) (z1 : Int32) : Option (gH × Int32) :=
    (g_ob G z0 10).bind fun u58 =>
    (f_X10_throwsIf G z0 z1 (3 : Int32)).bind fun q58 =>
    if q58.2 = 0 then
    (g_ob q58.1 ba0 10).bind fun u67 =>
    (f_X10_keeps q58.1 ba0).bind fun G67 =>
    (g_ob G67 ba0 10).bind fun u74 =>
    (f_X10_writes G67 ba0 bx1 bx2 bx3).bind fun q74 =>
    some (q74.1, q74.2)
    else
    some (q58.1, (0 : Int32))
def f_X10_write_J35 (G : gH) (ba0 : Nat) (bx1 : Int32) (bx2 : Int32) (bx3 : Int32) (z0 : Nat) (z1 : Int32) : Option (gH × Int32) :=
    (g_ob G z0 10).bind fun u36 =>
    (f_X10_throwsIf G z0 z1 (2 : Int32)).bind fun q36 =>
    if q36.2 = 0 then
    (g_ob q36.1 ba0 10).bind fun u46 =>
    (f_X10_whyWrite q36.1 ba0 bx1 bx2).bind fun v46 =>
    if v46 ≤ 0 then
    f_X10_write_J57 q36.1 ba0 bx1 bx2 bx3 ba0 (0 : Int32)
    else
    f_X10_write_J57 q36.1 ba0 bx1 bx2 bx3 ba0 (1 : Int32)
    else
    some (q36.1, (0 : Int32))
def f_X10_write (G : gH) (a0 : Nat) (x1 : Int32) (x2 : Int32) (x3 : Int32) : Option (gH × Int32) :=
    (g_ob G a0 10).bind fun u2 =>
    (f_X10_noFile G a0 x1).bind fun q2 =>
    if q2.2 = 0 then
    (f_X10_within q2.1 x2 (1 : Int32) (8 : Int32)).bind fun v13 =>
    if v13 = 0 then
    f_X10_write_J35 q2.1 a0 x1 x2 x3 a0 (1 : Int32)
    else
    (f_X10_within q2.1 x3 (0 : Int32) (999 : Int32)).bind fun v24 =>
    if v24 = 0 then
    f_X10_write_J35 q2.1 a0 x1 x2 x3 a0 (1 : Int32)
    else
    f_X10_write_J35 q2.1 a0 x1 x2 x3 a0 (0 : Int32)
    else
    some (q2.1, (0 : Int32))
set_option maxRecDepth 20000 in
set_option maxHeartbeats 4000000 in
theorem m_X10_write (l : Launch) (dd : va_G) (cT : Nat → ClassId) (lo : Nat) (G : gH) (a0 : Nat) (x1 : Int32) (x2 : Int32) (x3 : Int32) {rz : Int32} {Gz : gH} (h : f_X10_write G a0 x1 x2 x3 = some (Gz, rz)) : Met l yX10_write (Cond.code yX10_write cX10_write 4 (some .int) :: wsL_law) (g_rm 4 95 0 0) (va_Pc [.ref a0, .int x1, .int x2, .int x3] (g_Pre lo dd cT G)) (va_Qi (g_is rz Gz) (g_Pre lo dd cT) (g_A lo)) 0 0 (g_A lo) := by
  refine g_start RX10 rfl (by decide) (Nat.le_of_ble_eq_true rfl) ?_
  intro p e s m below meth c hx hb hr hlocks hml hown hnm hts hK hG hlo ls hl
  have hl : lv_has ls 4 [(0, .ref a0), (1, .int x1), (2, .int x2), (3, .int x3)] := hl
  have hG : g_S lo dd cT s s.heap [] G := hG
  have h57 : ∀ (G : gH) (ba0 : Nat) (bx1 : Int32) (bx2 : Int32) (bx3 : Int32) (z0 : Nat) (z1 : Int32), ∀ (H : Heap) (locs : List Loc), g_S lo dd cT s H locs G → ∀ ls : Array Slot, lv_has ls 4 [(0, .ref ba0), (1, .int bx1), (2, .int bx2), (3, .int bx3)] → f_X10_write_J57 G ba0 bx1 bx2 bx3 z0 z1 = some (Gz, rz) → W p l e (g_rm 4 95 0 0) s m ([.ref a0, .int x1, .int x2, .int x3] : List Value).toArray below meth c H locs 0 0 (MQ below (va_Qi (g_is rz Gz) (g_Pre lo dd cT) (g_A lo)) ([.ref a0, .int x1, .int x2, .int x3] : List Value).toArray s 0 0 (g_A lo)) (F0 m 57 ls [.int z1, .ref z0]) := by
    intro G ba0 bx1 bx2 bx3 z0 z1 H locs hG ls hl h
    unfold f_X10_write_J57 at h
    refine lv_iconst (v := (3 : Int32)) hx hb dX10_write_57 (by decide) ?_
    obtain ⟨u58, i58, h⟩ := Option.bind_eq_some_iff.mp h
    obtain ⟨q58, e58, h⟩ := Option.bind_eq_some_iff.mp h
    refine g_cVi (As := [.int z1, .int (3 : Int32)]) (rest := []) (n := 2) hx hb hml hown hts hK hlo hG (m_X10_throwsIf l dd cT lo G z0 z1 (3 : Int32) e58) qM_X10_188 qI_yX10_throwsIf qS_X10_yX10_throwsIf qN_X10 qC_yX10_throwsIf (by decide +kernel) ⟨Nat.le_of_ble_eq_true rfl, Nat.le_of_ble_eq_true rfl⟩ (by rfl) i58 rfl hl.1 rfl (Nat.le_of_ble_eq_true rfl) dX10_write_58 ⟨Nat.le_of_ble_eq_true rfl, Nat.le_of_ble_eq_true rfl⟩ (fun H locs hG => ?_)
    refine lv_if_eq (tgt := 66) hx hb dX10_write_61 (by decide) (fun c61 => ?_) (fun c61 => ?_)
    · rw [if_pos c61] at h
      refine lv_aload_n hx hb dX10_write_66 rfl (lv_at hl 0 rfl) ?_
      obtain ⟨u67, i67, h⟩ := Option.bind_eq_some_iff.mp h
      obtain ⟨G67, e67, h⟩ := Option.bind_eq_some_iff.mp h
      refine g_cVv (As := []) (rest := []) (n := 0) hx hb hml hown hts hK hlo hG (m_X10_keeps l dd cT lo q58.1 ba0 e67) qM_X10_351 qI_yX10_keeps qS_X10_yX10_keeps qN_X10 qC_yX10_keeps (by decide +kernel) ⟨Nat.le_of_ble_eq_true rfl, Nat.le_of_ble_eq_true rfl⟩ (by rfl) i67 rfl hl.1 rfl (Nat.le_of_ble_eq_true rfl) dX10_write_67 ⟨Nat.le_of_ble_eq_true rfl, Nat.le_of_ble_eq_true rfl⟩ (fun H locs hG => ?_)
      refine lv_aload_n hx hb dX10_write_70 rfl (lv_at hl 0 rfl) ?_
      refine lv_iload_n hx hb dX10_write_71 rfl (lv_at hl 1 rfl) ?_
      refine lv_iload_n hx hb dX10_write_72 rfl (lv_at hl 2 rfl) ?_
      refine lv_iload_n hx hb dX10_write_73 rfl (lv_at hl 3 rfl) ?_
      obtain ⟨u74, i74, h⟩ := Option.bind_eq_some_iff.mp h
      obtain ⟨q74, e74, h⟩ := Option.bind_eq_some_iff.mp h
      refine g_cVi (As := [.int bx1, .int bx2, .int bx3]) (rest := []) (n := 3) hx hb hml hown hts hK hlo hG (m_X10_writes l dd cT lo G67 ba0 bx1 bx2 bx3 e74) qM_X10_138 qI_yX10_writes qS_X10_yX10_writes qN_X10 qC_yX10_writes (by decide +kernel) ⟨Nat.le_of_ble_eq_true rfl, Nat.le_of_ble_eq_true rfl⟩ (by rfl) i74 rfl hl.1 rfl (Nat.le_of_ble_eq_true rfl) dX10_write_74 ⟨Nat.le_of_ble_eq_true rfl, Nat.le_of_ble_eq_true rfl⟩ (fun H locs hG => ?_)
      obtain ⟨rfl, rfl⟩ := Prod.mk.inj (Option.some.inj h)
      exact g_iret hx hb hr hlocks hK hlo hG ⟨rfl, rfl⟩ dX10_write_77
    · rw [if_neg c61] at h
      refine lv_iconst (v := (0 : Int32)) hx hb dX10_write_64 (by decide) ?_
      obtain ⟨rfl, rfl⟩ := Prod.mk.inj (Option.some.inj h)
      exact g_iret hx hb hr hlocks hK hlo hG ⟨rfl, rfl⟩ dX10_write_65
  have h35 : ∀ (G : gH) (ba0 : Nat) (bx1 : Int32) (bx2 : Int32) (bx3 : Int32) (z0 : Nat) (z1 : Int32), ∀ (H : Heap) (locs : List Loc), g_S lo dd cT s H locs G → ∀ ls : Array Slot, lv_has ls 4 [(0, .ref ba0), (1, .int bx1), (2, .int bx2), (3, .int bx3)] → f_X10_write_J35 G ba0 bx1 bx2 bx3 z0 z1 = some (Gz, rz) → W p l e (g_rm 4 95 0 0) s m ([.ref a0, .int x1, .int x2, .int x3] : List Value).toArray below meth c H locs 0 0 (MQ below (va_Qi (g_is rz Gz) (g_Pre lo dd cT) (g_A lo)) ([.ref a0, .int x1, .int x2, .int x3] : List Value).toArray s 0 0 (g_A lo)) (F0 m 35 ls [.int z1, .ref z0]) := by
    intro G ba0 bx1 bx2 bx3 z0 z1 H locs hG ls hl h
    unfold f_X10_write_J35 at h
    refine lv_iconst (v := (2 : Int32)) hx hb dX10_write_35 (by decide) ?_
    obtain ⟨u36, i36, h⟩ := Option.bind_eq_some_iff.mp h
    obtain ⟨q36, e36, h⟩ := Option.bind_eq_some_iff.mp h
    refine g_cVi (As := [.int z1, .int (2 : Int32)]) (rest := []) (n := 2) hx hb hml hown hts hK hlo hG (m_X10_throwsIf l dd cT lo G z0 z1 (2 : Int32) e36) qM_X10_188 qI_yX10_throwsIf qS_X10_yX10_throwsIf qN_X10 qC_yX10_throwsIf (by decide +kernel) ⟨Nat.le_of_ble_eq_true rfl, Nat.le_of_ble_eq_true rfl⟩ (by rfl) i36 rfl hl.1 rfl (Nat.le_of_ble_eq_true rfl) dX10_write_36 ⟨Nat.le_of_ble_eq_true rfl, Nat.le_of_ble_eq_true rfl⟩ (fun H locs hG => ?_)
    refine lv_if_ne (tgt := 64) hx hb dX10_write_39 (by decide) (fun c39 => ?_) (fun c39 => ?_)
    · rw [if_neg c39] at h
      refine lv_iconst (v := (0 : Int32)) hx hb dX10_write_64 (by decide) ?_
      obtain ⟨rfl, rfl⟩ := Prod.mk.inj (Option.some.inj h)
      exact g_iret hx hb hr hlocks hK hlo hG ⟨rfl, rfl⟩ dX10_write_65
    · rw [if_pos c39] at h
      refine lv_aload_n hx hb dX10_write_42 rfl (lv_at hl 0 rfl) ?_
      refine lv_aload_n hx hb dX10_write_43 rfl (lv_at hl 0 rfl) ?_
      refine lv_iload_n hx hb dX10_write_44 rfl (lv_at hl 1 rfl) ?_
      refine lv_iload_n hx hb dX10_write_45 rfl (lv_at hl 2 rfl) ?_
      obtain ⟨u46, i46, h⟩ := Option.bind_eq_some_iff.mp h
      obtain ⟨v46, e46, h⟩ := Option.bind_eq_some_iff.mp h
      refine g_cVi (As := [.int bx1, .int bx2]) (rest := [.ref ba0]) (n := 2) hx hb hml hown hts hK hlo hG (m_X10_whyWrite l dd cT lo q36.1 ba0 bx1 bx2 e46) qM_X10_134 qI_yX10_whyWrite qS_X10_yX10_whyWrite qN_X10 qC_yX10_whyWrite (by decide +kernel) ⟨Nat.le_of_ble_eq_true rfl, Nat.le_of_ble_eq_true rfl⟩ (by rfl) i46 rfl hl.1 rfl (Nat.le_of_ble_eq_true rfl) dX10_write_46 ⟨Nat.le_of_ble_eq_true rfl, Nat.le_of_ble_eq_true rfl⟩ (fun H locs hG => ?_)
      refine lv_if_le (tgt := 56) hx hb dX10_write_49 (by decide) (fun c49 => ?_) (fun c49 => ?_)
      · rw [if_pos c49] at h
        refine lv_iconst (v := (0 : Int32)) hx hb dX10_write_56 (by decide) ?_
        exact h57 q36.1 ba0 bx1 bx2 bx3 ba0 (0 : Int32) _ _ hG _ (lv_sub hl [0, 1, 2, 3] rfl) h
      · rw [if_neg c49] at h
        refine lv_iconst (v := (1 : Int32)) hx hb dX10_write_52 (by decide) ?_
        refine lv_goto (tgt := 57) hx hb dX10_write_53 (by decide) ?_
        exact h57 q36.1 ba0 bx1 bx2 bx3 ba0 (1 : Int32) _ _ hG _ (lv_sub hl [0, 1, 2, 3] rfl) h
  unfold f_X10_write at h
  refine lv_aload_n hx hb dX10_write_0 rfl (lv_at hl 0 rfl) ?_
  refine lv_iload_n hx hb dX10_write_1 rfl (lv_at hl 1 rfl) ?_
  obtain ⟨u2, i2, h⟩ := Option.bind_eq_some_iff.mp h
  obtain ⟨q2, e2, h⟩ := Option.bind_eq_some_iff.mp h
  refine g_cVi (As := [.int x1]) (rest := []) (n := 1) hx hb hml hown hts hK hlo hG (m_X10_noFile l dd cT lo G a0 x1 e2) qM_X10_330 qI_yX10_noFile qS_X10_yX10_noFile qN_X10 qC_yX10_noFile (by decide +kernel) ⟨Nat.le_of_ble_eq_true rfl, Nat.le_of_ble_eq_true rfl⟩ (by rfl) i2 rfl hl.1 rfl (Nat.le_of_ble_eq_true rfl) dX10_write_2 ⟨Nat.le_of_ble_eq_true rfl, Nat.le_of_ble_eq_true rfl⟩ (fun H locs hG => ?_)
  refine lv_if_ne (tgt := 64) hx hb dX10_write_5 (by decide) (fun c5 => ?_) (fun c5 => ?_)
  · rw [if_neg c5] at h
    refine lv_iconst (v := (0 : Int32)) hx hb dX10_write_64 (by decide) ?_
    obtain ⟨rfl, rfl⟩ := Prod.mk.inj (Option.some.inj h)
    exact g_iret hx hb hr hlocks hK hlo hG ⟨rfl, rfl⟩ dX10_write_65
  · rw [if_pos c5] at h
    refine lv_aload_n hx hb dX10_write_8 rfl (lv_at hl 0 rfl) ?_
    refine lv_iload_n hx hb dX10_write_9 rfl (lv_at hl 2 rfl) ?_
    refine lv_iconst (v := (1 : Int32)) hx hb dX10_write_10 (by decide) ?_
    refine lv_bipush (v := (8 : Int32)) hx hb dX10_write_11 (by decide) ?_
    obtain ⟨v13, e13, h⟩ := Option.bind_eq_some_iff.mp h
    refine g_cSi (As := [.int x2, .int (1 : Int32), .int (8 : Int32)]) (rest := [.ref a0]) (n := 3) hx hb hml hown hts hK hlo hG (m_X10_within l dd cT lo q2.1 x2 (1 : Int32) (8 : Int32) e13) qM_X10_74 qT_yX10_within qN_X10 qC_yX10_within (by decide +kernel) ⟨Nat.le_of_ble_eq_true rfl, Nat.le_of_ble_eq_true rfl⟩ rfl hl.1 rfl (Nat.le_of_ble_eq_true rfl) dX10_write_13 ⟨Nat.le_of_ble_eq_true rfl, Nat.le_of_ble_eq_true rfl⟩ (fun H locs hG => ?_)
    refine lv_if_eq (tgt := 30) hx hb dX10_write_16 (by decide) (fun c16 => ?_) (fun c16 => ?_)
    · rw [if_pos c16] at h
      refine lv_iconst (v := (1 : Int32)) hx hb dX10_write_30 (by decide) ?_
      refine lv_goto (tgt := 35) hx hb dX10_write_31 (by decide) ?_
      exact h35 q2.1 a0 x1 x2 x3 a0 (1 : Int32) _ _ hG _ (lv_sub hl [0, 1, 2, 3] rfl) h
    · rw [if_neg c16] at h
      refine lv_iload_n hx hb dX10_write_19 rfl (lv_at hl 3 rfl) ?_
      refine lv_iconst (v := (0 : Int32)) hx hb dX10_write_20 (by decide) ?_
      refine lv_sipush (v := (999 : Int32)) hx hb dX10_write_21 (by decide) ?_
      obtain ⟨v24, e24, h⟩ := Option.bind_eq_some_iff.mp h
      refine g_cSi (As := [.int x3, .int (0 : Int32), .int (999 : Int32)]) (rest := [.ref a0]) (n := 3) hx hb hml hown hts hK hlo hG (m_X10_within l dd cT lo q2.1 x3 (0 : Int32) (999 : Int32) e24) qM_X10_74 qT_yX10_within qN_X10 qC_yX10_within (by decide +kernel) ⟨Nat.le_of_ble_eq_true rfl, Nat.le_of_ble_eq_true rfl⟩ rfl hl.1 rfl (Nat.le_of_ble_eq_true rfl) dX10_write_24 ⟨Nat.le_of_ble_eq_true rfl, Nat.le_of_ble_eq_true rfl⟩ (fun H locs hG => ?_)
      refine lv_if_ne (tgt := 34) hx hb dX10_write_27 (by decide) (fun c27 => ?_) (fun c27 => ?_)
      · rw [if_neg c27] at h
        refine lv_iconst (v := (0 : Int32)) hx hb dX10_write_34 (by decide) ?_
        exact h35 q2.1 a0 x1 x2 x3 a0 (0 : Int32) _ _ hG _ (lv_sub hl [0, 1, 2, 3] rfl) h
      · rw [if_pos c27] at h
        refine lv_iconst (v := (1 : Int32)) hx hb dX10_write_30 (by decide) ?_
        refine lv_goto (tgt := 35) hx hb dX10_write_31 (by decide) ?_
        exact h35 q2.1 a0 x1 x2 x3 a0 (1 : Int32) _ _ hG _ (lv_sub hl [0, 1, 2, 3] rfl) h
def f_X10_erase_J22 (G : gH) (ba0 : Nat) (bx1 : Int32) (z0 : Nat) (z1 : Int32) : Option (gH × Int32) :=
    (g_ob G z0 10).bind fun u23 =>
    (f_X10_throwsIf G z0 z1 (2 : Int32)).bind fun q23 =>
    if q23.2 = 0 then
    (g_ob q23.1 ba0 10).bind fun u32 =>
    (f_X10_keeps q23.1 ba0).bind fun G32 =>
    (g_ob G32 ba0 10).bind fun u37 =>
    (f_X10_erases G32 ba0 bx1).bind fun G37 =>
    (g_ob G37 ba0 10).bind fun u43 =>
    (f_X10_filesThere G37 ba0 (12 : Int32)).bind fun q43 =>
    some (q43.1, q43.2)
    else
    some (q23.1, (0 : Int32))
def f_X10_erase (G : gH) (a0 : Nat) (x1 : Int32) : Option (gH × Int32) :=
    (g_ob G a0 10).bind fun u2 =>
    (f_X10_noFile G a0 x1).bind fun q2 =>
    if q2.2 = 0 then
    (g_ob q2.1 a0 10).bind fun u11 =>
    (f_X10_whyErase q2.1 a0 x1).bind fun q11 =>
    if q11.2 ≤ 0 then
    f_X10_erase_J22 q11.1 a0 x1 a0 (0 : Int32)
    else
    f_X10_erase_J22 q11.1 a0 x1 a0 (1 : Int32)
    else
    some (q2.1, (0 : Int32))
set_option maxRecDepth 20000 in
set_option maxHeartbeats 4000000 in
theorem m_X10_erase (l : Launch) (dd : va_G) (cT : Nat → ClassId) (lo : Nat) (G : gH) (a0 : Nat) (x1 : Int32) {rz : Int32} {Gz : gH} (h : f_X10_erase G a0 x1 = some (Gz, rz)) : Met l yX10_erase (Cond.code yX10_erase cX10_erase 2 (some .int) :: wsL_law) (g_rm 6 131 0 0) (va_Pc [.ref a0, .int x1] (g_Pre lo dd cT G)) (va_Qi (g_is rz Gz) (g_Pre lo dd cT) (g_A lo)) 0 0 (g_A lo) := by
  refine g_start RX10 rfl (by decide) (Nat.le_of_ble_eq_true rfl) ?_
  intro p e s m below meth c hx hb hr hlocks hml hown hnm hts hK hG hlo ls hl
  have hl : lv_has ls 2 [(0, .ref a0), (1, .int x1)] := hl
  have hG : g_S lo dd cT s s.heap [] G := hG
  have h22 : ∀ (G : gH) (ba0 : Nat) (bx1 : Int32) (z0 : Nat) (z1 : Int32), ∀ (H : Heap) (locs : List Loc), g_S lo dd cT s H locs G → ∀ ls : Array Slot, lv_has ls 2 [(0, .ref ba0), (1, .int bx1)] → f_X10_erase_J22 G ba0 bx1 z0 z1 = some (Gz, rz) → W p l e (g_rm 6 131 0 0) s m ([.ref a0, .int x1] : List Value).toArray below meth c H locs 0 0 (MQ below (va_Qi (g_is rz Gz) (g_Pre lo dd cT) (g_A lo)) ([.ref a0, .int x1] : List Value).toArray s 0 0 (g_A lo)) (F0 m 22 ls [.int z1, .ref z0]) := by
    intro G ba0 bx1 z0 z1 H locs hG ls hl h
    unfold f_X10_erase_J22 at h
    refine lv_iconst (v := (2 : Int32)) hx hb dX10_erase_22 (by decide) ?_
    obtain ⟨u23, i23, h⟩ := Option.bind_eq_some_iff.mp h
    obtain ⟨q23, e23, h⟩ := Option.bind_eq_some_iff.mp h
    refine g_cVi (As := [.int z1, .int (2 : Int32)]) (rest := []) (n := 2) hx hb hml hown hts hK hlo hG (m_X10_throwsIf l dd cT lo G z0 z1 (2 : Int32) e23) qM_X10_188 qI_yX10_throwsIf qS_X10_yX10_throwsIf qN_X10 qC_yX10_throwsIf (by decide +kernel) ⟨Nat.le_of_ble_eq_true rfl, Nat.le_of_ble_eq_true rfl⟩ (by rfl) i23 rfl hl.1 rfl (Nat.le_of_ble_eq_true rfl) dX10_erase_23 ⟨Nat.le_of_ble_eq_true rfl, Nat.le_of_ble_eq_true rfl⟩ (fun H locs hG => ?_)
    refine lv_if_eq (tgt := 31) hx hb dX10_erase_26 (by decide) (fun c26 => ?_) (fun c26 => ?_)
    · rw [if_pos c26] at h
      refine lv_aload_n hx hb dX10_erase_31 rfl (lv_at hl 0 rfl) ?_
      obtain ⟨u32, i32, h⟩ := Option.bind_eq_some_iff.mp h
      obtain ⟨G32, e32, h⟩ := Option.bind_eq_some_iff.mp h
      refine g_cVv (As := []) (rest := []) (n := 0) hx hb hml hown hts hK hlo hG (m_X10_keeps l dd cT lo q23.1 ba0 e32) qM_X10_351 qI_yX10_keeps qS_X10_yX10_keeps qN_X10 qC_yX10_keeps (by decide +kernel) ⟨Nat.le_of_ble_eq_true rfl, Nat.le_of_ble_eq_true rfl⟩ (by rfl) i32 rfl hl.1 rfl (Nat.le_of_ble_eq_true rfl) dX10_erase_32 ⟨Nat.le_of_ble_eq_true rfl, Nat.le_of_ble_eq_true rfl⟩ (fun H locs hG => ?_)
      refine lv_aload_n hx hb dX10_erase_35 rfl (lv_at hl 0 rfl) ?_
      refine lv_iload_n hx hb dX10_erase_36 rfl (lv_at hl 1 rfl) ?_
      obtain ⟨u37, i37, h⟩ := Option.bind_eq_some_iff.mp h
      obtain ⟨G37, e37, h⟩ := Option.bind_eq_some_iff.mp h
      refine g_cVv (As := [.int bx1]) (rest := []) (n := 1) hx hb hml hown hts hK hlo hG (m_X10_erases l dd cT lo G32 ba0 bx1 e37) qM_X10_145 qI_yX10_erases qS_X10_yX10_erases qN_X10 qC_yX10_erases (by decide +kernel) ⟨Nat.le_of_ble_eq_true rfl, Nat.le_of_ble_eq_true rfl⟩ (by rfl) i37 rfl hl.1 rfl (Nat.le_of_ble_eq_true rfl) dX10_erase_37 ⟨Nat.le_of_ble_eq_true rfl, Nat.le_of_ble_eq_true rfl⟩ (fun H locs hG => ?_)
      refine lv_aload_n hx hb dX10_erase_40 rfl (lv_at hl 0 rfl) ?_
      refine lv_bipush (v := (12 : Int32)) hx hb dX10_erase_41 (by decide) ?_
      obtain ⟨u43, i43, h⟩ := Option.bind_eq_some_iff.mp h
      obtain ⟨q43, e43, h⟩ := Option.bind_eq_some_iff.mp h
      refine g_cVi (As := [.int (12 : Int32)]) (rest := []) (n := 1) hx hb hml hown hts hK hlo hG (m_X10_filesThere l dd cT lo G37 ba0 (12 : Int32) e43) qM_X10_302 qI_yX10_filesThere qS_X10_yX10_filesThere qN_X10 qC_yX10_filesThere (by decide +kernel) ⟨Nat.le_of_ble_eq_true rfl, Nat.le_of_ble_eq_true rfl⟩ (by rfl) i43 rfl hl.1 rfl (Nat.le_of_ble_eq_true rfl) dX10_erase_43 ⟨Nat.le_of_ble_eq_true rfl, Nat.le_of_ble_eq_true rfl⟩ (fun H locs hG => ?_)
      obtain ⟨rfl, rfl⟩ := Prod.mk.inj (Option.some.inj h)
      exact g_iret hx hb hr hlocks hK hlo hG ⟨rfl, rfl⟩ dX10_erase_46
    · rw [if_neg c26] at h
      refine lv_iconst (v := (0 : Int32)) hx hb dX10_erase_29 (by decide) ?_
      obtain ⟨rfl, rfl⟩ := Prod.mk.inj (Option.some.inj h)
      exact g_iret hx hb hr hlocks hK hlo hG ⟨rfl, rfl⟩ dX10_erase_30
  unfold f_X10_erase at h
  refine lv_aload_n hx hb dX10_erase_0 rfl (lv_at hl 0 rfl) ?_
  refine lv_iload_n hx hb dX10_erase_1 rfl (lv_at hl 1 rfl) ?_
  obtain ⟨u2, i2, h⟩ := Option.bind_eq_some_iff.mp h
  obtain ⟨q2, e2, h⟩ := Option.bind_eq_some_iff.mp h
  refine g_cVi (As := [.int x1]) (rest := []) (n := 1) hx hb hml hown hts hK hlo hG (m_X10_noFile l dd cT lo G a0 x1 e2) qM_X10_330 qI_yX10_noFile qS_X10_yX10_noFile qN_X10 qC_yX10_noFile (by decide +kernel) ⟨Nat.le_of_ble_eq_true rfl, Nat.le_of_ble_eq_true rfl⟩ (by rfl) i2 rfl hl.1 rfl (Nat.le_of_ble_eq_true rfl) dX10_erase_2 ⟨Nat.le_of_ble_eq_true rfl, Nat.le_of_ble_eq_true rfl⟩ (fun H locs hG => ?_)
  refine lv_if_ne (tgt := 29) hx hb dX10_erase_5 (by decide) (fun c5 => ?_) (fun c5 => ?_)
  · rw [if_neg c5] at h
    refine lv_iconst (v := (0 : Int32)) hx hb dX10_erase_29 (by decide) ?_
    obtain ⟨rfl, rfl⟩ := Prod.mk.inj (Option.some.inj h)
    exact g_iret hx hb hr hlocks hK hlo hG ⟨rfl, rfl⟩ dX10_erase_30
  · rw [if_pos c5] at h
    refine lv_aload_n hx hb dX10_erase_8 rfl (lv_at hl 0 rfl) ?_
    refine lv_aload_n hx hb dX10_erase_9 rfl (lv_at hl 0 rfl) ?_
    refine lv_iload_n hx hb dX10_erase_10 rfl (lv_at hl 1 rfl) ?_
    obtain ⟨u11, i11, h⟩ := Option.bind_eq_some_iff.mp h
    obtain ⟨q11, e11, h⟩ := Option.bind_eq_some_iff.mp h
    refine g_cVi (As := [.int x1]) (rest := [.ref a0]) (n := 1) hx hb hml hown hts hK hlo hG (m_X10_whyErase l dd cT lo q2.1 a0 x1 e11) qM_X10_142 qI_yX10_whyErase qS_X10_yX10_whyErase qN_X10 qC_yX10_whyErase (by decide +kernel) ⟨Nat.le_of_ble_eq_true rfl, Nat.le_of_ble_eq_true rfl⟩ (by rfl) i11 rfl hl.1 rfl (Nat.le_of_ble_eq_true rfl) dX10_erase_11 ⟨Nat.le_of_ble_eq_true rfl, Nat.le_of_ble_eq_true rfl⟩ (fun H locs hG => ?_)
    refine lv_if_le (tgt := 21) hx hb dX10_erase_14 (by decide) (fun c14 => ?_) (fun c14 => ?_)
    · rw [if_pos c14] at h
      refine lv_iconst (v := (0 : Int32)) hx hb dX10_erase_21 (by decide) ?_
      exact h22 q11.1 a0 x1 a0 (0 : Int32) _ _ hG _ (lv_sub hl [0, 1] rfl) h
    · rw [if_neg c14] at h
      refine lv_iconst (v := (1 : Int32)) hx hb dX10_erase_17 (by decide) ?_
      refine lv_goto (tgt := 22) hx hb dX10_erase_18 (by decide) ?_
      exact h22 q11.1 a0 x1 a0 (1 : Int32) _ _ hG _ (lv_sub hl [0, 1] rfl) h
def f_X10_close_J18 (G : gH) (ba0 : Nat) (z0 : Nat) (z1 : Int32) : Option (gH × Int32) :=
    (g_ob G z0 10).bind fun u19 =>
    (f_X10_throwsIf G z0 z1 (1 : Int32)).bind fun q19 =>
    if q19.2 = 0 then
    (g_ob q19.1 ba0 10).bind fun u28 =>
    (f_X10_keeps q19.1 ba0).bind fun G28 =>
    (g_ob G28 ba0 10).bind fun u32 =>
    (f_X10_closesOpen G28 ba0).bind fun G32 =>
    (g_ob G32 ba0 10).bind fun u36 =>
    (f_X10_latest G32 ba0).bind fun v36 =>
    some (G32, v36)
    else
    some (q19.1, (0 : Int32))
def f_X10_close (G : gH) (a0 : Nat) : Option (gH × Int32) :=
    (g_put G a0 10 0 (.int (0 : Int32))).bind fun G2 =>
    (g_ob G2 a0 10).bind fun u7 =>
    (f_X10_whyClose G2 a0).bind fun v7 =>
    if v7 ≤ 0 then
    f_X10_close_J18 G2 a0 a0 (0 : Int32)
    else
    f_X10_close_J18 G2 a0 a0 (1 : Int32)
set_option maxRecDepth 20000 in
set_option maxHeartbeats 4000000 in
theorem m_X10_close (l : Launch) (dd : va_G) (cT : Nat → ClassId) (lo : Nat) (G : gH) (a0 : Nat) {rz : Int32} {Gz : gH} (h : f_X10_close G a0 = some (Gz, rz)) : Met l yX10_close (Cond.code yX10_close cX10_close 1 (some .int) :: wsL_law) (g_rm 3 74 0 0) (va_Pc [.ref a0] (g_Pre lo dd cT G)) (va_Qi (g_is rz Gz) (g_Pre lo dd cT) (g_A lo)) 0 0 (g_A lo) := by
  refine g_start RX10 rfl (by decide) (Nat.le_of_ble_eq_true rfl) ?_
  intro p e s m below meth c hx hb hr hlocks hml hown hnm hts hK hG hlo ls hl
  have hl : lv_has ls 1 [(0, .ref a0)] := hl
  have hG : g_S lo dd cT s s.heap [] G := hG
  have h18 : ∀ (G : gH) (ba0 : Nat) (z0 : Nat) (z1 : Int32), ∀ (H : Heap) (locs : List Loc), g_S lo dd cT s H locs G → ∀ ls : Array Slot, lv_has ls 1 [(0, .ref ba0)] → f_X10_close_J18 G ba0 z0 z1 = some (Gz, rz) → W p l e (g_rm 3 74 0 0) s m ([.ref a0] : List Value).toArray below meth c H locs 0 0 (MQ below (va_Qi (g_is rz Gz) (g_Pre lo dd cT) (g_A lo)) ([.ref a0] : List Value).toArray s 0 0 (g_A lo)) (F0 m 18 ls [.int z1, .ref z0]) := by
    intro G ba0 z0 z1 H locs hG ls hl h
    unfold f_X10_close_J18 at h
    refine lv_iconst (v := (1 : Int32)) hx hb dX10_close_18 (by decide) ?_
    obtain ⟨u19, i19, h⟩ := Option.bind_eq_some_iff.mp h
    obtain ⟨q19, e19, h⟩ := Option.bind_eq_some_iff.mp h
    refine g_cVi (As := [.int z1, .int (1 : Int32)]) (rest := []) (n := 2) hx hb hml hown hts hK hlo hG (m_X10_throwsIf l dd cT lo G z0 z1 (1 : Int32) e19) qM_X10_188 qI_yX10_throwsIf qS_X10_yX10_throwsIf qN_X10 qC_yX10_throwsIf (by decide +kernel) ⟨Nat.le_of_ble_eq_true rfl, Nat.le_of_ble_eq_true rfl⟩ (by rfl) i19 rfl hl.1 rfl (Nat.le_of_ble_eq_true rfl) dX10_close_19 ⟨Nat.le_of_ble_eq_true rfl, Nat.le_of_ble_eq_true rfl⟩ (fun H locs hG => ?_)
    refine lv_if_eq (tgt := 27) hx hb dX10_close_22 (by decide) (fun c22 => ?_) (fun c22 => ?_)
    · rw [if_pos c22] at h
      refine lv_aload_n hx hb dX10_close_27 rfl (lv_at hl 0 rfl) ?_
      obtain ⟨u28, i28, h⟩ := Option.bind_eq_some_iff.mp h
      obtain ⟨G28, e28, h⟩ := Option.bind_eq_some_iff.mp h
      refine g_cVv (As := []) (rest := []) (n := 0) hx hb hml hown hts hK hlo hG (m_X10_keeps l dd cT lo q19.1 ba0 e28) qM_X10_351 qI_yX10_keeps qS_X10_yX10_keeps qN_X10 qC_yX10_keeps (by decide +kernel) ⟨Nat.le_of_ble_eq_true rfl, Nat.le_of_ble_eq_true rfl⟩ (by rfl) i28 rfl hl.1 rfl (Nat.le_of_ble_eq_true rfl) dX10_close_28 ⟨Nat.le_of_ble_eq_true rfl, Nat.le_of_ble_eq_true rfl⟩ (fun H locs hG => ?_)
      refine lv_aload_n hx hb dX10_close_31 rfl (lv_at hl 0 rfl) ?_
      obtain ⟨u32, i32, h⟩ := Option.bind_eq_some_iff.mp h
      obtain ⟨G32, e32, h⟩ := Option.bind_eq_some_iff.mp h
      refine g_cVv (As := []) (rest := []) (n := 0) hx hb hml hown hts hK hlo hG (m_X10_closesOpen l dd cT lo G28 ba0 e32) qM_X10_151 qI_yX10_closesOpen qS_X10_yX10_closesOpen qN_X10 qC_yX10_closesOpen (by decide +kernel) ⟨Nat.le_of_ble_eq_true rfl, Nat.le_of_ble_eq_true rfl⟩ (by rfl) i32 rfl hl.1 rfl (Nat.le_of_ble_eq_true rfl) dX10_close_32 ⟨Nat.le_of_ble_eq_true rfl, Nat.le_of_ble_eq_true rfl⟩ (fun H locs hG => ?_)
      refine lv_aload_n hx hb dX10_close_35 rfl (lv_at hl 0 rfl) ?_
      obtain ⟨u36, i36, h⟩ := Option.bind_eq_some_iff.mp h
      obtain ⟨v36, e36, h⟩ := Option.bind_eq_some_iff.mp h
      refine g_cVi (As := []) (rest := []) (n := 0) hx hb hml hown hts hK hlo hG (m_X10_latest l dd cT lo G32 ba0 e36) qM_X10_215 qI_yX10_latest qS_X10_yX10_latest qN_X10 qC_yX10_latest (by decide +kernel) ⟨Nat.le_of_ble_eq_true rfl, Nat.le_of_ble_eq_true rfl⟩ (by rfl) i36 rfl hl.1 rfl (Nat.le_of_ble_eq_true rfl) dX10_close_36 ⟨Nat.le_of_ble_eq_true rfl, Nat.le_of_ble_eq_true rfl⟩ (fun H locs hG => ?_)
      obtain ⟨rfl, rfl⟩ := Prod.mk.inj (Option.some.inj h)
      exact g_iret hx hb hr hlocks hK hlo hG ⟨rfl, rfl⟩ dX10_close_39
    · rw [if_neg c22] at h
      refine lv_iconst (v := (0 : Int32)) hx hb dX10_close_25 (by decide) ?_
      obtain ⟨rfl, rfl⟩ := Prod.mk.inj (Option.some.inj h)
      exact g_iret hx hb hr hlocks hK hlo hG ⟨rfl, rfl⟩ dX10_close_26
  unfold f_X10_close at h
  refine lv_aload_n hx hb dX10_close_0 rfl (lv_at hl 0 rfl) ?_
  refine lv_iconst (v := (0 : Int32)) hx hb dX10_close_1 (by decide) ?_
  obtain ⟨G2, i2, h⟩ := Option.bind_eq_some_iff.mp h
  refine g_putv hx hb hts inlX10 tyX10 tyX10_ok nmX10 hown hK hG (by rfl) 0 (by decide) qF_X10_50 rfl rfl rfl rfl i2 dX10_close_2 (fun H locs hG => ?_)
  refine lv_aload_n hx hb dX10_close_5 rfl (lv_at hl 0 rfl) ?_
  refine lv_aload_n hx hb dX10_close_6 rfl (lv_at hl 0 rfl) ?_
  obtain ⟨u7, i7, h⟩ := Option.bind_eq_some_iff.mp h
  obtain ⟨v7, e7, h⟩ := Option.bind_eq_some_iff.mp h
  refine g_cVi (As := []) (rest := [.ref a0]) (n := 0) hx hb hml hown hts hK hlo hG (m_X10_whyClose l dd cT lo G2 a0 e7) qM_X10_148 qI_yX10_whyClose qS_X10_yX10_whyClose qN_X10 qC_yX10_whyClose (by decide +kernel) ⟨Nat.le_of_ble_eq_true rfl, Nat.le_of_ble_eq_true rfl⟩ (by rfl) i7 rfl hl.1 rfl (Nat.le_of_ble_eq_true rfl) dX10_close_7 ⟨Nat.le_of_ble_eq_true rfl, Nat.le_of_ble_eq_true rfl⟩ (fun H locs hG => ?_)
  refine lv_if_le (tgt := 17) hx hb dX10_close_10 (by decide) (fun c10 => ?_) (fun c10 => ?_)
  · rw [if_pos c10] at h
    refine lv_iconst (v := (0 : Int32)) hx hb dX10_close_17 (by decide) ?_
    exact h18 G2 a0 a0 (0 : Int32) _ _ hG _ (lv_sub hl [0] rfl) h
  · rw [if_neg c10] at h
    refine lv_iconst (v := (1 : Int32)) hx hb dX10_close_13 (by decide) ?_
    refine lv_goto (tgt := 18) hx hb dX10_close_14 (by decide) ?_
    exact h18 G2 a0 a0 (1 : Int32) _ _ hG _ (lv_sub hl [0] rfl) h
def f_X10_crash_J18 (G : gH) (ba0 : Nat) (z0 : Nat) (z1 : Int32) : Option (gH × Int32) :=
    (g_ob G z0 10).bind fun u19 =>
    (f_X10_throwsIf G z0 z1 (1 : Int32)).bind fun q19 =>
    if q19.2 = 0 then
    (g_ob q19.1 ba0 10).bind fun u28 =>
    (f_X10_keeps q19.1 ba0).bind fun G28 =>
    (g_ob G28 ba0 10).bind fun u33 =>
    (f_X10_latest G28 ba0).bind fun v33 =>
    (g_ob G28 ba0 10).bind fun u38 =>
    (f_X10_sets G28 ba0 v33 (0 : Int32) (2 : Int32)).bind fun G38 =>
    (g_ob G38 ba0 10).bind fun u43 =>
    (f_X10_latest G38 ba0).bind fun v43 =>
    (g_ob G38 ba0 10).bind fun u48 =>
    (f_X10_sets G38 ba0 v43 (2 : Int32) (0 : Int32)).bind fun G48 =>
    (g_ob G48 ba0 10).bind fun u53 =>
    (f_X10_latest G48 ba0).bind fun v53 =>
    (g_ob G48 ba0 10).bind fun u57 =>
    (f_X10_writtenBy G48 ba0 v53 (1 : Int32)).bind fun v57 =>
    some (G48, v57)
    else
    some (q19.1, (0 : Int32))
def f_X10_crash (G : gH) (a0 : Nat) : Option (gH × Int32) :=
    (g_put G a0 10 0 (.int (0 : Int32))).bind fun G2 =>
    (g_ob G2 a0 10).bind fun u7 =>
    (f_X10_isOpen G2 a0).bind fun v7 =>
    if v7 = 0 then
    f_X10_crash_J18 G2 a0 a0 (1 : Int32)
    else
    f_X10_crash_J18 G2 a0 a0 (0 : Int32)
set_option maxRecDepth 20000 in
set_option maxHeartbeats 4000000 in
theorem m_X10_crash (l : Launch) (dd : va_G) (cT : Nat → ClassId) (lo : Nat) (G : gH) (a0 : Nat) {rz : Int32} {Gz : gH} (h : f_X10_crash G a0 = some (Gz, rz)) : Met l yX10_crash (Cond.code yX10_crash cX10_crash 1 (some .int) :: wsL_law) (g_rm 3 65 0 0) (va_Pc [.ref a0] (g_Pre lo dd cT G)) (va_Qi (g_is rz Gz) (g_Pre lo dd cT) (g_A lo)) 0 0 (g_A lo) := by
  refine g_start RX10 rfl (by decide) (Nat.le_of_ble_eq_true rfl) ?_
  intro p e s m below meth c hx hb hr hlocks hml hown hnm hts hK hG hlo ls hl
  have hl : lv_has ls 1 [(0, .ref a0)] := hl
  have hG : g_S lo dd cT s s.heap [] G := hG
  have h18 : ∀ (G : gH) (ba0 : Nat) (z0 : Nat) (z1 : Int32), ∀ (H : Heap) (locs : List Loc), g_S lo dd cT s H locs G → ∀ ls : Array Slot, lv_has ls 1 [(0, .ref ba0)] → f_X10_crash_J18 G ba0 z0 z1 = some (Gz, rz) → W p l e (g_rm 3 65 0 0) s m ([.ref a0] : List Value).toArray below meth c H locs 0 0 (MQ below (va_Qi (g_is rz Gz) (g_Pre lo dd cT) (g_A lo)) ([.ref a0] : List Value).toArray s 0 0 (g_A lo)) (F0 m 18 ls [.int z1, .ref z0]) := by
    intro G ba0 z0 z1 H locs hG ls hl h
    unfold f_X10_crash_J18 at h
    refine lv_iconst (v := (1 : Int32)) hx hb dX10_crash_18 (by decide) ?_
    obtain ⟨u19, i19, h⟩ := Option.bind_eq_some_iff.mp h
    obtain ⟨q19, e19, h⟩ := Option.bind_eq_some_iff.mp h
    refine g_cVi (As := [.int z1, .int (1 : Int32)]) (rest := []) (n := 2) hx hb hml hown hts hK hlo hG (m_X10_throwsIf l dd cT lo G z0 z1 (1 : Int32) e19) qM_X10_188 qI_yX10_throwsIf qS_X10_yX10_throwsIf qN_X10 qC_yX10_throwsIf (by decide +kernel) ⟨Nat.le_of_ble_eq_true rfl, Nat.le_of_ble_eq_true rfl⟩ (by rfl) i19 rfl hl.1 rfl (Nat.le_of_ble_eq_true rfl) dX10_crash_19 ⟨Nat.le_of_ble_eq_true rfl, Nat.le_of_ble_eq_true rfl⟩ (fun H locs hG => ?_)
    refine lv_if_eq (tgt := 27) hx hb dX10_crash_22 (by decide) (fun c22 => ?_) (fun c22 => ?_)
    · rw [if_pos c22] at h
      refine lv_aload_n hx hb dX10_crash_27 rfl (lv_at hl 0 rfl) ?_
      obtain ⟨u28, i28, h⟩ := Option.bind_eq_some_iff.mp h
      obtain ⟨G28, e28, h⟩ := Option.bind_eq_some_iff.mp h
      refine g_cVv (As := []) (rest := []) (n := 0) hx hb hml hown hts hK hlo hG (m_X10_keeps l dd cT lo q19.1 ba0 e28) qM_X10_351 qI_yX10_keeps qS_X10_yX10_keeps qN_X10 qC_yX10_keeps (by decide +kernel) ⟨Nat.le_of_ble_eq_true rfl, Nat.le_of_ble_eq_true rfl⟩ (by rfl) i28 rfl hl.1 rfl (Nat.le_of_ble_eq_true rfl) dX10_crash_28 ⟨Nat.le_of_ble_eq_true rfl, Nat.le_of_ble_eq_true rfl⟩ (fun H locs hG => ?_)
      refine lv_aload_n hx hb dX10_crash_31 rfl (lv_at hl 0 rfl) ?_
      refine lv_aload_n hx hb dX10_crash_32 rfl (lv_at hl 0 rfl) ?_
      obtain ⟨u33, i33, h⟩ := Option.bind_eq_some_iff.mp h
      obtain ⟨v33, e33, h⟩ := Option.bind_eq_some_iff.mp h
      refine g_cVi (As := []) (rest := [.ref ba0]) (n := 0) hx hb hml hown hts hK hlo hG (m_X10_latest l dd cT lo G28 ba0 e33) qM_X10_215 qI_yX10_latest qS_X10_yX10_latest qN_X10 qC_yX10_latest (by decide +kernel) ⟨Nat.le_of_ble_eq_true rfl, Nat.le_of_ble_eq_true rfl⟩ (by rfl) i33 rfl hl.1 rfl (Nat.le_of_ble_eq_true rfl) dX10_crash_33 ⟨Nat.le_of_ble_eq_true rfl, Nat.le_of_ble_eq_true rfl⟩ (fun H locs hG => ?_)
      refine lv_iconst (v := (0 : Int32)) hx hb dX10_crash_36 (by decide) ?_
      refine lv_iconst (v := (2 : Int32)) hx hb dX10_crash_37 (by decide) ?_
      obtain ⟨u38, i38, h⟩ := Option.bind_eq_some_iff.mp h
      obtain ⟨G38, e38, h⟩ := Option.bind_eq_some_iff.mp h
      refine g_cVv (As := [.int v33, .int (0 : Int32), .int (2 : Int32)]) (rest := []) (n := 3) hx hb hml hown hts hK hlo hG (m_X10_sets l dd cT lo G28 ba0 v33 (0 : Int32) (2 : Int32) e38) qM_X10_270 qI_yX10_sets qS_X10_yX10_sets qN_X10 qC_yX10_sets (by decide +kernel) ⟨Nat.le_of_ble_eq_true rfl, Nat.le_of_ble_eq_true rfl⟩ (by rfl) i38 rfl hl.1 rfl (Nat.le_of_ble_eq_true rfl) dX10_crash_38 ⟨Nat.le_of_ble_eq_true rfl, Nat.le_of_ble_eq_true rfl⟩ (fun H locs hG => ?_)
      refine lv_aload_n hx hb dX10_crash_41 rfl (lv_at hl 0 rfl) ?_
      refine lv_aload_n hx hb dX10_crash_42 rfl (lv_at hl 0 rfl) ?_
      obtain ⟨u43, i43, h⟩ := Option.bind_eq_some_iff.mp h
      obtain ⟨v43, e43, h⟩ := Option.bind_eq_some_iff.mp h
      refine g_cVi (As := []) (rest := [.ref ba0]) (n := 0) hx hb hml hown hts hK hlo hG (m_X10_latest l dd cT lo G38 ba0 e43) qM_X10_215 qI_yX10_latest qS_X10_yX10_latest qN_X10 qC_yX10_latest (by decide +kernel) ⟨Nat.le_of_ble_eq_true rfl, Nat.le_of_ble_eq_true rfl⟩ (by rfl) i43 rfl hl.1 rfl (Nat.le_of_ble_eq_true rfl) dX10_crash_43 ⟨Nat.le_of_ble_eq_true rfl, Nat.le_of_ble_eq_true rfl⟩ (fun H locs hG => ?_)
      refine lv_iconst (v := (2 : Int32)) hx hb dX10_crash_46 (by decide) ?_
      refine lv_iconst (v := (0 : Int32)) hx hb dX10_crash_47 (by decide) ?_
      obtain ⟨u48, i48, h⟩ := Option.bind_eq_some_iff.mp h
      obtain ⟨G48, e48, h⟩ := Option.bind_eq_some_iff.mp h
      refine g_cVv (As := [.int v43, .int (2 : Int32), .int (0 : Int32)]) (rest := []) (n := 3) hx hb hml hown hts hK hlo hG (m_X10_sets l dd cT lo G38 ba0 v43 (2 : Int32) (0 : Int32) e48) qM_X10_270 qI_yX10_sets qS_X10_yX10_sets qN_X10 qC_yX10_sets (by decide +kernel) ⟨Nat.le_of_ble_eq_true rfl, Nat.le_of_ble_eq_true rfl⟩ (by rfl) i48 rfl hl.1 rfl (Nat.le_of_ble_eq_true rfl) dX10_crash_48 ⟨Nat.le_of_ble_eq_true rfl, Nat.le_of_ble_eq_true rfl⟩ (fun H locs hG => ?_)
      refine lv_aload_n hx hb dX10_crash_51 rfl (lv_at hl 0 rfl) ?_
      refine lv_aload_n hx hb dX10_crash_52 rfl (lv_at hl 0 rfl) ?_
      obtain ⟨u53, i53, h⟩ := Option.bind_eq_some_iff.mp h
      obtain ⟨v53, e53, h⟩ := Option.bind_eq_some_iff.mp h
      refine g_cVi (As := []) (rest := [.ref ba0]) (n := 0) hx hb hml hown hts hK hlo hG (m_X10_latest l dd cT lo G48 ba0 e53) qM_X10_215 qI_yX10_latest qS_X10_yX10_latest qN_X10 qC_yX10_latest (by decide +kernel) ⟨Nat.le_of_ble_eq_true rfl, Nat.le_of_ble_eq_true rfl⟩ (by rfl) i53 rfl hl.1 rfl (Nat.le_of_ble_eq_true rfl) dX10_crash_53 ⟨Nat.le_of_ble_eq_true rfl, Nat.le_of_ble_eq_true rfl⟩ (fun H locs hG => ?_)
      refine lv_iconst (v := (1 : Int32)) hx hb dX10_crash_56 (by decide) ?_
      obtain ⟨u57, i57, h⟩ := Option.bind_eq_some_iff.mp h
      obtain ⟨v57, e57, h⟩ := Option.bind_eq_some_iff.mp h
      refine g_cVi (As := [.int v53, .int (1 : Int32)]) (rest := []) (n := 2) hx hb hml hown hts hK hlo hG (m_X10_writtenBy l dd cT lo G48 ba0 v53 (1 : Int32) e57) qM_X10_323 qI_yX10_writtenBy qS_X10_yX10_writtenBy qN_X10 qC_yX10_writtenBy (by decide +kernel) ⟨Nat.le_of_ble_eq_true rfl, Nat.le_of_ble_eq_true rfl⟩ (by rfl) i57 rfl hl.1 rfl (Nat.le_of_ble_eq_true rfl) dX10_crash_57 ⟨Nat.le_of_ble_eq_true rfl, Nat.le_of_ble_eq_true rfl⟩ (fun H locs hG => ?_)
      obtain ⟨rfl, rfl⟩ := Prod.mk.inj (Option.some.inj h)
      exact g_iret hx hb hr hlocks hK hlo hG ⟨rfl, rfl⟩ dX10_crash_60
    · rw [if_neg c22] at h
      refine lv_iconst (v := (0 : Int32)) hx hb dX10_crash_25 (by decide) ?_
      obtain ⟨rfl, rfl⟩ := Prod.mk.inj (Option.some.inj h)
      exact g_iret hx hb hr hlocks hK hlo hG ⟨rfl, rfl⟩ dX10_crash_26
  unfold f_X10_crash at h
  refine lv_aload_n hx hb dX10_crash_0 rfl (lv_at hl 0 rfl) ?_
  refine lv_iconst (v := (0 : Int32)) hx hb dX10_crash_1 (by decide) ?_
  obtain ⟨G2, i2, h⟩ := Option.bind_eq_some_iff.mp h
  refine g_putv hx hb hts inlX10 tyX10 tyX10_ok nmX10 hown hK hG (by rfl) 0 (by decide) qF_X10_50 rfl rfl rfl rfl i2 dX10_crash_2 (fun H locs hG => ?_)
  refine lv_aload_n hx hb dX10_crash_5 rfl (lv_at hl 0 rfl) ?_
  refine lv_aload_n hx hb dX10_crash_6 rfl (lv_at hl 0 rfl) ?_
  obtain ⟨u7, i7, h⟩ := Option.bind_eq_some_iff.mp h
  obtain ⟨v7, e7, h⟩ := Option.bind_eq_some_iff.mp h
  refine g_cVi (As := []) (rest := [.ref a0]) (n := 0) hx hb hml hown hts hK hlo hG (m_X10_isOpen l dd cT lo G2 a0 e7) qM_X10_255 qI_yX10_isOpen qS_X10_yX10_isOpen qN_X10 qC_yX10_isOpen (by decide +kernel) ⟨Nat.le_of_ble_eq_true rfl, Nat.le_of_ble_eq_true rfl⟩ (by rfl) i7 rfl hl.1 rfl (Nat.le_of_ble_eq_true rfl) dX10_crash_7 ⟨Nat.le_of_ble_eq_true rfl, Nat.le_of_ble_eq_true rfl⟩ (fun H locs hG => ?_)
  refine lv_if_ne (tgt := 17) hx hb dX10_crash_10 (by decide) (fun c10 => ?_) (fun c10 => ?_)
  · rw [if_neg c10] at h
    refine lv_iconst (v := (0 : Int32)) hx hb dX10_crash_17 (by decide) ?_
    exact h18 G2 a0 a0 (0 : Int32) _ _ hG _ (lv_sub hl [0] rfl) h
  · rw [if_pos c10] at h
    refine lv_iconst (v := (1 : Int32)) hx hb dX10_crash_13 (by decide) ?_
    refine lv_goto (tgt := 18) hx hb dX10_crash_14 (by decide) ?_
    exact h18 G2 a0 a0 (1 : Int32) _ _ hG _ (lv_sub hl [0] rfl) h
def f_X10_recover_L43 : Nat → gH → Nat → Int32 → Option (gH × Int32)
  | 0, _, _, _ => none
  | n + 1, G, ba0, bx1 =>
    (g_i G ba0 10 22).bind fun v45 =>
    if v45 ≤ bx1 then
    (g_ob G ba0 10).bind fun u79 =>
    (f_X10_closesOpen G ba0).bind fun G79 =>
    (g_i G79 ba0 10 22).bind fun v83 =>
    some (G79, v83)
    else
    (g_r G ba0 10 21).bind fun v54 =>
    (g_ald 0 G v54 bx1).bind fun v58 =>
    (g_ob G ba0 10).bind fun u60 =>
    (f_X10_ofVersion G ba0 v58 (0 : Int32)).bind fun v60 =>
    (g_r G ba0 10 21).bind fun v64 =>
    (g_ald 0 G v64 bx1).bind fun v68 =>
    (g_ob G ba0 10).bind fun u69 =>
    (f_X10_enters G ba0 v60 v68).bind fun G69 =>
    f_X10_recover_L43 n G69 ba0 (bx1 + (1 : Int32))
def f_X10_recover_J18 (G : gH) (ba0 : Nat) (z0 : Nat) (z1 : Int32) : Option (gH × Int32) :=
    (g_ob G z0 10).bind fun u19 =>
    (f_X10_throwsIf G z0 z1 (1 : Int32)).bind fun q19 =>
    if q19.2 = 0 then
    (g_ob q19.1 ba0 10).bind fun u28 =>
    (f_X10_keeps q19.1 ba0).bind fun G28 =>
    (g_ob G28 ba0 10).bind fun u33 =>
    (f_X10_latest G28 ba0).bind fun v33 =>
    (g_ob G28 ba0 10).bind fun u38 =>
    (f_X10_sets G28 ba0 v33 (0 : Int32) (3 : Int32)).bind fun G38 =>
    f_X10_recover_L43 g_N G38 ba0 (0 : Int32)
    else
    some (q19.1, (0 : Int32))
def f_X10_recover (G : gH) (a0 : Nat) : Option (gH × Int32) :=
    (g_put G a0 10 0 (.int (0 : Int32))).bind fun G2 =>
    (g_ob G2 a0 10).bind fun u7 =>
    (f_X10_whyRecover G2 a0).bind fun q7 =>
    if q7.2 ≤ 0 then
    f_X10_recover_J18 q7.1 a0 a0 (0 : Int32)
    else
    f_X10_recover_J18 q7.1 a0 a0 (1 : Int32)
set_option maxRecDepth 20000 in
set_option maxHeartbeats 4000000 in
theorem m_X10_recover (l : Launch) (dd : va_G) (cT : Nat → ClassId) (lo : Nat) (G : gH) (a0 : Nat) {rz : Int32} {Gz : gH} (h : f_X10_recover G a0 = some (Gz, rz)) : Met l yX10_recover (Cond.code yX10_recover cX10_recover 2 (some .int) :: wsL_law) (g_rm 6 131 0 0) (va_Pc [.ref a0] (g_Pre lo dd cT G)) (va_Qi (g_is rz Gz) (g_Pre lo dd cT) (g_A lo)) 0 0 (g_A lo) := by
  refine g_start RX10 rfl (by decide) (Nat.le_of_ble_eq_true rfl) ?_
  intro p e s m below meth c hx hb hr hlocks hml hown hnm hts hK hG hlo ls hl
  have hl : lv_has ls 2 [(0, .ref a0)] := hl
  have hG : g_S lo dd cT s s.heap [] G := hG
  have h43 : ∀ n : Nat, ∀ (G : gH) (ba0 : Nat) (bx1 : Int32), ∀ (H : Heap) (locs : List Loc), g_S lo dd cT s H locs G → ∀ ls : Array Slot, lv_has ls 2 [(0, .ref ba0), (1, .int bx1)] → f_X10_recover_L43 n G ba0 bx1 = some (Gz, rz) → W p l e (g_rm 6 131 0 0) s m ([.ref a0] : List Value).toArray below meth c H locs 0 0 (MQ below (va_Qi (g_is rz Gz) (g_Pre lo dd cT) (g_A lo)) ([.ref a0] : List Value).toArray s 0 0 (g_A lo)) (F0 m 43 ls []) := by
    intro n
    induction n with
    | zero =>
      intro G ba0 bx1 H locs hG ls hl h
      cases (show (none : Option (gH × Int32)) = some (Gz, rz) from h)
    | succ n ih =>
      intro G ba0 bx1 H locs hG ls hl h
      rw [f_X10_recover_L43] at h
      refine lv_iload_n hx hb dX10_recover_43 rfl (lv_at hl 1 rfl) ?_
      refine lv_aload_n hx hb dX10_recover_44 rfl (lv_at hl 0 rfl) ?_
      obtain ⟨v45, e45, h⟩ := Option.bind_eq_some_iff.mp h
      refine g_geti hx hb hts inlX10 hown hK hG (by rfl) 22 (by decide) qF_X10_287 e45 dX10_recover_45 ?_
      refine lv_icmp_ge (tgt := 78) hx hb dX10_recover_48 (by decide) (fun c48 => ?_) (fun c48 => ?_)
      · rw [if_pos c48] at h
        refine lv_aload_n hx hb dX10_recover_78 rfl (lv_at hl 0 rfl) ?_
        obtain ⟨u79, i79, h⟩ := Option.bind_eq_some_iff.mp h
        obtain ⟨G79, e79, h⟩ := Option.bind_eq_some_iff.mp h
        refine g_cVv (As := []) (rest := []) (n := 0) hx hb hml hown hts hK hlo hG (m_X10_closesOpen l dd cT lo G ba0 e79) qM_X10_151 qI_yX10_closesOpen qS_X10_yX10_closesOpen qN_X10 qC_yX10_closesOpen (by decide +kernel) ⟨Nat.le_of_ble_eq_true rfl, Nat.le_of_ble_eq_true rfl⟩ (by rfl) i79 rfl hl.1 rfl (Nat.le_of_ble_eq_true rfl) dX10_recover_79 ⟨Nat.le_of_ble_eq_true rfl, Nat.le_of_ble_eq_true rfl⟩ (fun H locs hG => ?_)
        refine lv_aload_n hx hb dX10_recover_82 rfl (lv_at hl 0 rfl) ?_
        obtain ⟨v83, e83, h⟩ := Option.bind_eq_some_iff.mp h
        refine g_geti hx hb hts inlX10 hown hK hG (by rfl) 22 (by decide) qF_X10_287 e83 dX10_recover_83 ?_
        obtain ⟨rfl, rfl⟩ := Prod.mk.inj (Option.some.inj h)
        exact g_iret hx hb hr hlocks hK hlo hG ⟨rfl, rfl⟩ dX10_recover_86
      · rw [if_neg c48] at h
        refine lv_aload_n hx hb dX10_recover_51 rfl (lv_at hl 0 rfl) ?_
        refine lv_aload_n hx hb dX10_recover_52 rfl (lv_at hl 0 rfl) ?_
        refine lv_aload_n hx hb dX10_recover_53 rfl (lv_at hl 0 rfl) ?_
        obtain ⟨v54, e54, h⟩ := Option.bind_eq_some_iff.mp h
        refine g_getr hx hb hts inlX10 hown hK hG (by rfl) 21 (by decide) qF_X10_34 e54 dX10_recover_54 ?_
        refine lv_iload_n hx hb dX10_recover_57 rfl (lv_at hl 1 rfl) ?_
        obtain ⟨v58, e58, h⟩ := Option.bind_eq_some_iff.mp h
        refine g_iald hx hb hK hG e58 dX10_recover_58 ?_
        refine lv_iconst (v := (0 : Int32)) hx hb dX10_recover_59 (by decide) ?_
        obtain ⟨u60, i60, h⟩ := Option.bind_eq_some_iff.mp h
        obtain ⟨v60, e60, h⟩ := Option.bind_eq_some_iff.mp h
        refine g_cVi (As := [.int v58, .int (0 : Int32)]) (rest := [.ref ba0]) (n := 2) hx hb hml hown hts hK hlo hG (m_X10_ofVersion l dd cT lo G ba0 v58 (0 : Int32) e60) qM_X10_249 qI_yX10_ofVersion qS_X10_yX10_ofVersion qN_X10 qC_yX10_ofVersion (by decide +kernel) ⟨Nat.le_of_ble_eq_true rfl, Nat.le_of_ble_eq_true rfl⟩ (by rfl) i60 rfl hl.1 rfl (Nat.le_of_ble_eq_true rfl) dX10_recover_60 ⟨Nat.le_of_ble_eq_true rfl, Nat.le_of_ble_eq_true rfl⟩ (fun H locs hG => ?_)
        refine lv_aload_n hx hb dX10_recover_63 rfl (lv_at hl 0 rfl) ?_
        obtain ⟨v64, e64, h⟩ := Option.bind_eq_some_iff.mp h
        refine g_getr hx hb hts inlX10 hown hK hG (by rfl) 21 (by decide) qF_X10_34 e64 dX10_recover_64 ?_
        refine lv_iload_n hx hb dX10_recover_67 rfl (lv_at hl 1 rfl) ?_
        obtain ⟨v68, e68, h⟩ := Option.bind_eq_some_iff.mp h
        refine g_iald hx hb hK hG e68 dX10_recover_68 ?_
        obtain ⟨u69, i69, h⟩ := Option.bind_eq_some_iff.mp h
        obtain ⟨G69, e69, h⟩ := Option.bind_eq_some_iff.mp h
        refine g_cVv (As := [.int v60, .int v68]) (rest := []) (n := 2) hx hb hml hown hts hK hlo hG (m_X10_enters l dd cT lo G ba0 v60 v68 e69) qM_X10_277 qI_yX10_enters qS_X10_yX10_enters qN_X10 qC_yX10_enters (by decide +kernel) ⟨Nat.le_of_ble_eq_true rfl, Nat.le_of_ble_eq_true rfl⟩ (by rfl) i69 rfl hl.1 rfl (Nat.le_of_ble_eq_true rfl) dX10_recover_69 ⟨Nat.le_of_ble_eq_true rfl, Nat.le_of_ble_eq_true rfl⟩ (fun H locs hG => ?_)
        refine lv_iinc (v := (bx1 + (1 : Int32))) (lv' := [(1, .int (bx1 + (1 : Int32))), (0, .ref ba0)]) hx hb dX10_recover_72 hl (k := 1) rfl rfl (by decide) rfl (fun ls hl => ?_)
        refine lv_goto (tgt := 43) hx hb dX10_recover_75 (by decide) ?_
        exact ih G69 ba0 (bx1 + (1 : Int32)) _ _ hG _ (lv_sub hl [1, 0] rfl) h
  have h18 : ∀ (G : gH) (ba0 : Nat) (z0 : Nat) (z1 : Int32), ∀ (H : Heap) (locs : List Loc), g_S lo dd cT s H locs G → ∀ ls : Array Slot, lv_has ls 2 [(0, .ref ba0)] → f_X10_recover_J18 G ba0 z0 z1 = some (Gz, rz) → W p l e (g_rm 6 131 0 0) s m ([.ref a0] : List Value).toArray below meth c H locs 0 0 (MQ below (va_Qi (g_is rz Gz) (g_Pre lo dd cT) (g_A lo)) ([.ref a0] : List Value).toArray s 0 0 (g_A lo)) (F0 m 18 ls [.int z1, .ref z0]) := by
    intro G ba0 z0 z1 H locs hG ls hl h
    unfold f_X10_recover_J18 at h
    refine lv_iconst (v := (1 : Int32)) hx hb dX10_recover_18 (by decide) ?_
    obtain ⟨u19, i19, h⟩ := Option.bind_eq_some_iff.mp h
    obtain ⟨q19, e19, h⟩ := Option.bind_eq_some_iff.mp h
    refine g_cVi (As := [.int z1, .int (1 : Int32)]) (rest := []) (n := 2) hx hb hml hown hts hK hlo hG (m_X10_throwsIf l dd cT lo G z0 z1 (1 : Int32) e19) qM_X10_188 qI_yX10_throwsIf qS_X10_yX10_throwsIf qN_X10 qC_yX10_throwsIf (by decide +kernel) ⟨Nat.le_of_ble_eq_true rfl, Nat.le_of_ble_eq_true rfl⟩ (by rfl) i19 rfl hl.1 rfl (Nat.le_of_ble_eq_true rfl) dX10_recover_19 ⟨Nat.le_of_ble_eq_true rfl, Nat.le_of_ble_eq_true rfl⟩ (fun H locs hG => ?_)
    refine lv_if_eq (tgt := 27) hx hb dX10_recover_22 (by decide) (fun c22 => ?_) (fun c22 => ?_)
    · rw [if_pos c22] at h
      refine lv_aload_n hx hb dX10_recover_27 rfl (lv_at hl 0 rfl) ?_
      obtain ⟨u28, i28, h⟩ := Option.bind_eq_some_iff.mp h
      obtain ⟨G28, e28, h⟩ := Option.bind_eq_some_iff.mp h
      refine g_cVv (As := []) (rest := []) (n := 0) hx hb hml hown hts hK hlo hG (m_X10_keeps l dd cT lo q19.1 ba0 e28) qM_X10_351 qI_yX10_keeps qS_X10_yX10_keeps qN_X10 qC_yX10_keeps (by decide +kernel) ⟨Nat.le_of_ble_eq_true rfl, Nat.le_of_ble_eq_true rfl⟩ (by rfl) i28 rfl hl.1 rfl (Nat.le_of_ble_eq_true rfl) dX10_recover_28 ⟨Nat.le_of_ble_eq_true rfl, Nat.le_of_ble_eq_true rfl⟩ (fun H locs hG => ?_)
      refine lv_aload_n hx hb dX10_recover_31 rfl (lv_at hl 0 rfl) ?_
      refine lv_aload_n hx hb dX10_recover_32 rfl (lv_at hl 0 rfl) ?_
      obtain ⟨u33, i33, h⟩ := Option.bind_eq_some_iff.mp h
      obtain ⟨v33, e33, h⟩ := Option.bind_eq_some_iff.mp h
      refine g_cVi (As := []) (rest := [.ref ba0]) (n := 0) hx hb hml hown hts hK hlo hG (m_X10_latest l dd cT lo G28 ba0 e33) qM_X10_215 qI_yX10_latest qS_X10_yX10_latest qN_X10 qC_yX10_latest (by decide +kernel) ⟨Nat.le_of_ble_eq_true rfl, Nat.le_of_ble_eq_true rfl⟩ (by rfl) i33 rfl hl.1 rfl (Nat.le_of_ble_eq_true rfl) dX10_recover_33 ⟨Nat.le_of_ble_eq_true rfl, Nat.le_of_ble_eq_true rfl⟩ (fun H locs hG => ?_)
      refine lv_iconst (v := (0 : Int32)) hx hb dX10_recover_36 (by decide) ?_
      refine lv_iconst (v := (3 : Int32)) hx hb dX10_recover_37 (by decide) ?_
      obtain ⟨u38, i38, h⟩ := Option.bind_eq_some_iff.mp h
      obtain ⟨G38, e38, h⟩ := Option.bind_eq_some_iff.mp h
      refine g_cVv (As := [.int v33, .int (0 : Int32), .int (3 : Int32)]) (rest := []) (n := 3) hx hb hml hown hts hK hlo hG (m_X10_sets l dd cT lo G28 ba0 v33 (0 : Int32) (3 : Int32) e38) qM_X10_270 qI_yX10_sets qS_X10_yX10_sets qN_X10 qC_yX10_sets (by decide +kernel) ⟨Nat.le_of_ble_eq_true rfl, Nat.le_of_ble_eq_true rfl⟩ (by rfl) i38 rfl hl.1 rfl (Nat.le_of_ble_eq_true rfl) dX10_recover_38 ⟨Nat.le_of_ble_eq_true rfl, Nat.le_of_ble_eq_true rfl⟩ (fun H locs hG => ?_)
      refine lv_iconst (v := (0 : Int32)) hx hb dX10_recover_41 (by decide) ?_
      refine lv_istore_n (lv' := [(1, .int (0 : Int32)), (0, .ref ba0)]) hx hb dX10_recover_42 rfl hl (by decide) rfl (fun ls hl => ?_)
      exact h43 g_N G38 ba0 (0 : Int32) _ _ hG _ (lv_sub hl [1, 0] rfl) h
    · rw [if_neg c22] at h
      refine lv_iconst (v := (0 : Int32)) hx hb dX10_recover_25 (by decide) ?_
      obtain ⟨rfl, rfl⟩ := Prod.mk.inj (Option.some.inj h)
      exact g_iret hx hb hr hlocks hK hlo hG ⟨rfl, rfl⟩ dX10_recover_26
  unfold f_X10_recover at h
  refine lv_aload_n hx hb dX10_recover_0 rfl (lv_at hl 0 rfl) ?_
  refine lv_iconst (v := (0 : Int32)) hx hb dX10_recover_1 (by decide) ?_
  obtain ⟨G2, i2, h⟩ := Option.bind_eq_some_iff.mp h
  refine g_putv hx hb hts inlX10 tyX10 tyX10_ok nmX10 hown hK hG (by rfl) 0 (by decide) qF_X10_50 rfl rfl rfl rfl i2 dX10_recover_2 (fun H locs hG => ?_)
  refine lv_aload_n hx hb dX10_recover_5 rfl (lv_at hl 0 rfl) ?_
  refine lv_aload_n hx hb dX10_recover_6 rfl (lv_at hl 0 rfl) ?_
  obtain ⟨u7, i7, h⟩ := Option.bind_eq_some_iff.mp h
  obtain ⟨q7, e7, h⟩ := Option.bind_eq_some_iff.mp h
  refine g_cVi (As := []) (rest := [.ref a0]) (n := 0) hx hb hml hown hts hK hlo hG (m_X10_whyRecover l dd cT lo G2 a0 e7) qM_X10_336 qI_yX10_whyRecover qS_X10_yX10_whyRecover qN_X10 qC_yX10_whyRecover (by decide +kernel) ⟨Nat.le_of_ble_eq_true rfl, Nat.le_of_ble_eq_true rfl⟩ (by rfl) i7 rfl hl.1 rfl (Nat.le_of_ble_eq_true rfl) dX10_recover_7 ⟨Nat.le_of_ble_eq_true rfl, Nat.le_of_ble_eq_true rfl⟩ (fun H locs hG => ?_)
  refine lv_if_le (tgt := 17) hx hb dX10_recover_10 (by decide) (fun c10 => ?_) (fun c10 => ?_)
  · rw [if_pos c10] at h
    refine lv_iconst (v := (0 : Int32)) hx hb dX10_recover_17 (by decide) ?_
    exact h18 q7.1 a0 a0 (0 : Int32) _ _ hG _ (lv_sub hl [0] rfl) h
  · rw [if_neg c10] at h
    refine lv_iconst (v := (1 : Int32)) hx hb dX10_recover_13 (by decide) ?_
    refine lv_goto (tgt := 18) hx hb dX10_recover_14 (by decide) ?_
    exact h18 q7.1 a0 a0 (1 : Int32) _ _ hG _ (lv_sub hl [0] rfl) h
def f_X10_scratch_J54 (G : gH) (ba0 : Nat) (bx2 : Int32) (z0 : Int32) : Option (gH × Int32) :=
    (g_r G ba0 10 1).bind fun v56 =>
    (g_ast 0 G v56 bx2 (1 : Int32)).bind fun G61 =>
    if z0 = 0 then
    some (G61, (1 : Int32))
    else
    some (G61, (0 : Int32))
def f_X10_scratch_J38 (G : gH) (ba0 : Nat) (z0 : Int32) : Option (gH × Int32) :=
    (g_r G ba0 10 1).bind fun v40 =>
    (g_ald 0 G v40 z0).bind fun v44 =>
    if v44 = (1 : Int32) then
    f_X10_scratch_J54 G ba0 z0 (1 : Int32)
    else
    f_X10_scratch_J54 G ba0 z0 (0 : Int32)
def f_X10_scratch (G : gH) (a0 : Nat) (x1 : Int32) : Option (gH × Int32) :=
    (g_ob G a0 10).bind fun u2 =>
    (f_X10_noBlock G a0 x1).bind fun q2 =>
    if q2.2 = 0 then
    (g_ob q2.1 a0 10).bind fun u11 =>
    (f_X10_keeps q2.1 a0).bind fun G11 =>
    (g_r G11 a0 10 1).bind fun v15 =>
    (g_ald 0 G11 v15 ((7 : Int32) + x1)).bind fun v22 =>
    if v22 = 0 then
    f_X10_scratch_J38 G11 a0 ((103 : Int32) + x1)
    else
    f_X10_scratch_J38 G11 a0 ((199 : Int32) + x1)
    else
    some (q2.1, (0 : Int32))
set_option maxRecDepth 20000 in
set_option maxHeartbeats 4000000 in
theorem m_X10_scratch (l : Launch) (dd : va_G) (cT : Nat → ClassId) (lo : Nat) (G : gH) (a0 : Nat) (x1 : Int32) {rz : Int32} {Gz : gH} (h : f_X10_scratch G a0 x1 = some (Gz, rz)) : Met l yX10_scratch (Cond.code yX10_scratch cX10_scratch 4 (some .boolean) :: wsL_law) (g_rm 3 65 0 0) (va_Pc [.ref a0, .int x1] (g_Pre lo dd cT G)) (va_Qi (g_is rz Gz) (g_Pre lo dd cT) (g_A lo)) 0 0 (g_A lo) := by
  refine g_start RX10 rfl (by decide) (Nat.le_of_ble_eq_true rfl) ?_
  intro p e s m below meth c hx hb hr hlocks hml hown hnm hts hK hG hlo ls hl
  have hl : lv_has ls 4 [(0, .ref a0), (1, .int x1)] := hl
  have hG : g_S lo dd cT s s.heap [] G := hG
  have h54 : ∀ (G : gH) (ba0 : Nat) (bx2 : Int32) (z0 : Int32), ∀ (H : Heap) (locs : List Loc), g_S lo dd cT s H locs G → ∀ ls : Array Slot, lv_has ls 4 [(0, .ref ba0), (2, .int bx2)] → f_X10_scratch_J54 G ba0 bx2 z0 = some (Gz, rz) → W p l e (g_rm 3 65 0 0) s m ([.ref a0, .int x1] : List Value).toArray below meth c H locs 0 0 (MQ below (va_Qi (g_is rz Gz) (g_Pre lo dd cT) (g_A lo)) ([.ref a0, .int x1] : List Value).toArray s 0 0 (g_A lo)) (F0 m 54 ls [.int z0]) := by
    intro G ba0 bx2 z0 H locs hG ls hl h
    unfold f_X10_scratch_J54 at h
    refine lv_istore_n (lv' := [(3, .int z0), (0, .ref ba0), (2, .int bx2)]) hx hb dX10_scratch_54 rfl hl (by decide) rfl (fun ls hl => ?_)
    refine lv_aload_n hx hb dX10_scratch_55 rfl (lv_at hl 1 rfl) ?_
    obtain ⟨v56, e56, h⟩ := Option.bind_eq_some_iff.mp h
    refine g_getr hx hb hts inlX10 hown hK hG (by rfl) 1 (by decide) qF_X10_7 e56 dX10_scratch_56 ?_
    refine lv_iload_n hx hb dX10_scratch_59 rfl (lv_at hl 2 rfl) ?_
    refine lv_iconst (v := (1 : Int32)) hx hb dX10_scratch_60 (by decide) ?_
    obtain ⟨G61, e61, h⟩ := Option.bind_eq_some_iff.mp h
    refine g_iast hx hb hK hG e61 dX10_scratch_61 (fun H locs hG => ?_)
    refine lv_iload_n hx hb dX10_scratch_62 rfl (lv_at hl 0 rfl) ?_
    refine lv_if_ne (tgt := 70) hx hb dX10_scratch_63 (by decide) (fun c63 => ?_) (fun c63 => ?_)
    · rw [if_neg c63] at h
      refine lv_iconst (v := (0 : Int32)) hx hb dX10_scratch_70 (by decide) ?_
      obtain ⟨rfl, rfl⟩ := Prod.mk.inj (Option.some.inj h)
      exact g_zret hx hb hr hlocks hK hlo hG rfl ⟨rfl, rfl⟩ dX10_scratch_71
    · rw [if_pos c63] at h
      refine lv_iconst (v := (1 : Int32)) hx hb dX10_scratch_66 (by decide) ?_
      refine lv_goto (tgt := 71) hx hb dX10_scratch_67 (by decide) ?_
      obtain ⟨rfl, rfl⟩ := Prod.mk.inj (Option.some.inj h)
      exact g_zret hx hb hr hlocks hK hlo hG rfl ⟨rfl, rfl⟩ dX10_scratch_71
  have h38 : ∀ (G : gH) (ba0 : Nat) (z0 : Int32), ∀ (H : Heap) (locs : List Loc), g_S lo dd cT s H locs G → ∀ ls : Array Slot, lv_has ls 4 [(0, .ref ba0)] → f_X10_scratch_J38 G ba0 z0 = some (Gz, rz) → W p l e (g_rm 3 65 0 0) s m ([.ref a0, .int x1] : List Value).toArray below meth c H locs 0 0 (MQ below (va_Qi (g_is rz Gz) (g_Pre lo dd cT) (g_A lo)) ([.ref a0, .int x1] : List Value).toArray s 0 0 (g_A lo)) (F0 m 38 ls [.int z0]) := by
    intro G ba0 z0 H locs hG ls hl h
    unfold f_X10_scratch_J38 at h
    refine lv_istore_n (lv' := [(2, .int z0), (0, .ref ba0)]) hx hb dX10_scratch_38 rfl hl (by decide) rfl (fun ls hl => ?_)
    refine lv_aload_n hx hb dX10_scratch_39 rfl (lv_at hl 1 rfl) ?_
    obtain ⟨v40, e40, h⟩ := Option.bind_eq_some_iff.mp h
    refine g_getr hx hb hts inlX10 hown hK hG (by rfl) 1 (by decide) qF_X10_7 e40 dX10_scratch_40 ?_
    refine lv_iload_n hx hb dX10_scratch_43 rfl (lv_at hl 0 rfl) ?_
    obtain ⟨v44, e44, h⟩ := Option.bind_eq_some_iff.mp h
    refine g_iald hx hb hK hG e44 dX10_scratch_44 ?_
    refine lv_iconst (v := (1 : Int32)) hx hb dX10_scratch_45 (by decide) ?_
    refine lv_icmp_ne (tgt := 53) hx hb dX10_scratch_46 (by decide) (fun c46 => ?_) (fun c46 => ?_)
    · rw [if_neg c46] at h
      refine lv_iconst (v := (0 : Int32)) hx hb dX10_scratch_53 (by decide) ?_
      exact h54 G ba0 z0 (0 : Int32) _ _ hG _ (lv_sub hl [1, 0] rfl) h
    · rw [if_pos c46] at h
      refine lv_iconst (v := (1 : Int32)) hx hb dX10_scratch_49 (by decide) ?_
      refine lv_goto (tgt := 54) hx hb dX10_scratch_50 (by decide) ?_
      exact h54 G ba0 z0 (1 : Int32) _ _ hG _ (lv_sub hl [1, 0] rfl) h
  unfold f_X10_scratch at h
  refine lv_aload_n hx hb dX10_scratch_0 rfl (lv_at hl 0 rfl) ?_
  refine lv_iload_n hx hb dX10_scratch_1 rfl (lv_at hl 1 rfl) ?_
  obtain ⟨u2, i2, h⟩ := Option.bind_eq_some_iff.mp h
  obtain ⟨q2, e2, h⟩ := Option.bind_eq_some_iff.mp h
  refine g_cVi (As := [.int x1]) (rest := []) (n := 1) hx hb hml hown hts hK hlo hG (m_X10_noBlock l dd cT lo G a0 x1 e2) qM_X10_314 qI_yX10_noBlock qS_X10_yX10_noBlock qN_X10 qC_yX10_noBlock (by decide +kernel) ⟨Nat.le_of_ble_eq_true rfl, Nat.le_of_ble_eq_true rfl⟩ (by rfl) i2 rfl hl.1 rfl (Nat.le_of_ble_eq_true rfl) dX10_scratch_2 ⟨Nat.le_of_ble_eq_true rfl, Nat.le_of_ble_eq_true rfl⟩ (fun H locs hG => ?_)
  refine lv_if_eq (tgt := 10) hx hb dX10_scratch_5 (by decide) (fun c5 => ?_) (fun c5 => ?_)
  · rw [if_pos c5] at h
    refine lv_aload_n hx hb dX10_scratch_10 rfl (lv_at hl 0 rfl) ?_
    obtain ⟨u11, i11, h⟩ := Option.bind_eq_some_iff.mp h
    obtain ⟨G11, e11, h⟩ := Option.bind_eq_some_iff.mp h
    refine g_cVv (As := []) (rest := []) (n := 0) hx hb hml hown hts hK hlo hG (m_X10_keeps l dd cT lo q2.1 a0 e11) qM_X10_351 qI_yX10_keeps qS_X10_yX10_keeps qN_X10 qC_yX10_keeps (by decide +kernel) ⟨Nat.le_of_ble_eq_true rfl, Nat.le_of_ble_eq_true rfl⟩ (by rfl) i11 rfl hl.1 rfl (Nat.le_of_ble_eq_true rfl) dX10_scratch_11 ⟨Nat.le_of_ble_eq_true rfl, Nat.le_of_ble_eq_true rfl⟩ (fun H locs hG => ?_)
    refine lv_aload_n hx hb dX10_scratch_14 rfl (lv_at hl 0 rfl) ?_
    obtain ⟨v15, e15, h⟩ := Option.bind_eq_some_iff.mp h
    refine g_getr hx hb hts inlX10 hown hK hG (by rfl) 1 (by decide) qF_X10_7 e15 dX10_scratch_15 ?_
    refine lv_bipush (v := (7 : Int32)) hx hb dX10_scratch_18 (by decide) ?_
    refine lv_iload_n hx hb dX10_scratch_20 rfl (lv_at hl 1 rfl) ?_
    refine lv_iadd hx hb dX10_scratch_21 ?_
    obtain ⟨v22, e22, h⟩ := Option.bind_eq_some_iff.mp h
    refine g_iald hx hb hK hG e22 dX10_scratch_22 ?_
    refine lv_if_ne (tgt := 33) hx hb dX10_scratch_23 (by decide) (fun c23 => ?_) (fun c23 => ?_)
    · rw [if_neg c23] at h
      refine lv_sipush (v := (199 : Int32)) hx hb dX10_scratch_33 (by decide) ?_
      refine lv_iload_n hx hb dX10_scratch_36 rfl (lv_at hl 1 rfl) ?_
      refine lv_iadd hx hb dX10_scratch_37 ?_
      exact h38 G11 a0 ((199 : Int32) + x1) _ _ hG _ (lv_sub hl [0] rfl) h
    · rw [if_pos c23] at h
      refine lv_bipush (v := (103 : Int32)) hx hb dX10_scratch_26 (by decide) ?_
      refine lv_iload_n hx hb dX10_scratch_28 rfl (lv_at hl 1 rfl) ?_
      refine lv_iadd hx hb dX10_scratch_29 ?_
      refine lv_goto (tgt := 38) hx hb dX10_scratch_30 (by decide) ?_
      exact h38 G11 a0 ((103 : Int32) + x1) _ _ hG _ (lv_sub hl [0] rfl) h
  · rw [if_neg c5] at h
    refine lv_iconst (v := (0 : Int32)) hx hb dX10_scratch_8 (by decide) ?_
    obtain ⟨rfl, rfl⟩ := Prod.mk.inj (Option.some.inj h)
    exact g_zret hx hb hr hlocks hK hlo hG rfl ⟨rfl, rfl⟩ dX10_scratch_9
def f_X10_setScan_J24 (G : gH) (ba0 : Nat) (bx1 : Int32) (z0 : Int32) : Option (gH × Int32) :=
    (g_r G ba0 10 1).bind fun v26 =>
    if bx1 = 0 then
    (g_ast 0 G v26 (5 : Int32) (0 : Int32)).bind fun G39 =>
    (g_z z0).bind fun w41 => some (G39, w41)
    else
    (g_ast 0 G v26 (5 : Int32) (1 : Int32)).bind fun G39 =>
    (g_z z0).bind fun w41 => some (G39, w41)
def f_X10_setScan (G : gH) (a0 : Nat) (x1 : Int32) : Option (gH × Int32) :=
    (g_put G a0 10 0 (.int (0 : Int32))).bind fun G2 =>
    (g_ob G2 a0 10).bind fun u6 =>
    (f_X10_keeps G2 a0).bind fun G6 =>
    (g_r G6 a0 10 1).bind fun v10 =>
    (g_ald 0 G6 v10 (5 : Int32)).bind fun v14 =>
    if v14 = (1 : Int32) then
    f_X10_setScan_J24 G6 a0 x1 (1 : Int32)
    else
    f_X10_setScan_J24 G6 a0 x1 (0 : Int32)
set_option maxRecDepth 20000 in
set_option maxHeartbeats 4000000 in
theorem m_X10_setScan (l : Launch) (dd : va_G) (cT : Nat → ClassId) (lo : Nat) (G : gH) (a0 : Nat) (x1 : Int32) {rz : Int32} {Gz : gH} (h : f_X10_setScan G a0 x1 = some (Gz, rz)) : Met l yX10_setScan (Cond.code yX10_setScan cX10_setScan 3 (some .boolean) :: wsL_law) (g_rm 2 45 0 0) (va_Pc [.ref a0, .int x1] (g_Pre lo dd cT G)) (va_Qi (g_is rz Gz) (g_Pre lo dd cT) (g_A lo)) 0 0 (g_A lo) := by
  refine g_start RX10 rfl (by decide) (Nat.le_of_ble_eq_true rfl) ?_
  intro p e s m below meth c hx hb hr hlocks hml hown hnm hts hK hG hlo ls hl
  have hl : lv_has ls 3 [(0, .ref a0), (1, .int x1)] := hl
  have hG : g_S lo dd cT s s.heap [] G := hG
  have h24 : ∀ (G : gH) (ba0 : Nat) (bx1 : Int32) (z0 : Int32), ∀ (H : Heap) (locs : List Loc), g_S lo dd cT s H locs G → ∀ ls : Array Slot, lv_has ls 3 [(0, .ref ba0), (1, .int bx1)] → f_X10_setScan_J24 G ba0 bx1 z0 = some (Gz, rz) → W p l e (g_rm 2 45 0 0) s m ([.ref a0, .int x1] : List Value).toArray below meth c H locs 0 0 (MQ below (va_Qi (g_is rz Gz) (g_Pre lo dd cT) (g_A lo)) ([.ref a0, .int x1] : List Value).toArray s 0 0 (g_A lo)) (F0 m 24 ls [.int z0]) := by
    intro G ba0 bx1 z0 H locs hG ls hl h
    unfold f_X10_setScan_J24 at h
    refine lv_istore_n (lv' := [(2, .int z0), (0, .ref ba0), (1, .int bx1)]) hx hb dX10_setScan_24 rfl hl (by decide) rfl (fun ls hl => ?_)
    refine lv_aload_n hx hb dX10_setScan_25 rfl (lv_at hl 1 rfl) ?_
    obtain ⟨v26, e26, h⟩ := Option.bind_eq_some_iff.mp h
    refine g_getr hx hb hts inlX10 hown hK hG (by rfl) 1 (by decide) qF_X10_7 e26 dX10_setScan_26 ?_
    refine lv_iconst (v := (5 : Int32)) hx hb dX10_setScan_29 (by decide) ?_
    refine lv_iload_n hx hb dX10_setScan_30 rfl (lv_at hl 2 rfl) ?_
    refine lv_if_eq (tgt := 38) hx hb dX10_setScan_31 (by decide) (fun c31 => ?_) (fun c31 => ?_)
    · rw [if_pos c31] at h
      refine lv_iconst (v := (0 : Int32)) hx hb dX10_setScan_38 (by decide) ?_
      obtain ⟨G39, e39, h⟩ := Option.bind_eq_some_iff.mp h
      refine g_iast hx hb hK hG e39 dX10_setScan_39 (fun H locs hG => ?_)
      refine lv_iload_n hx hb dX10_setScan_40 rfl (lv_at hl 0 rfl) ?_
      obtain ⟨w41, e41, h⟩ := Option.bind_eq_some_iff.mp h
      obtain ⟨n41, rfl⟩ := g_z_nar e41
      obtain ⟨rfl, rfl⟩ := Prod.mk.inj (Option.some.inj h)
      exact g_zret hx hb hr hlocks hK hlo hG n41 ⟨rfl, rfl⟩ dX10_setScan_41
    · rw [if_neg c31] at h
      refine lv_iconst (v := (1 : Int32)) hx hb dX10_setScan_34 (by decide) ?_
      refine lv_goto (tgt := 39) hx hb dX10_setScan_35 (by decide) ?_
      obtain ⟨G39, e39, h⟩ := Option.bind_eq_some_iff.mp h
      refine g_iast hx hb hK hG e39 dX10_setScan_39 (fun H locs hG => ?_)
      refine lv_iload_n hx hb dX10_setScan_40 rfl (lv_at hl 0 rfl) ?_
      obtain ⟨w41, e41, h⟩ := Option.bind_eq_some_iff.mp h
      obtain ⟨n41, rfl⟩ := g_z_nar e41
      obtain ⟨rfl, rfl⟩ := Prod.mk.inj (Option.some.inj h)
      exact g_zret hx hb hr hlocks hK hlo hG n41 ⟨rfl, rfl⟩ dX10_setScan_41
  unfold f_X10_setScan at h
  refine lv_aload_n hx hb dX10_setScan_0 rfl (lv_at hl 0 rfl) ?_
  refine lv_iconst (v := (0 : Int32)) hx hb dX10_setScan_1 (by decide) ?_
  obtain ⟨G2, i2, h⟩ := Option.bind_eq_some_iff.mp h
  refine g_putv hx hb hts inlX10 tyX10 tyX10_ok nmX10 hown hK hG (by rfl) 0 (by decide) qF_X10_50 rfl rfl rfl rfl i2 dX10_setScan_2 (fun H locs hG => ?_)
  refine lv_aload_n hx hb dX10_setScan_5 rfl (lv_at hl 0 rfl) ?_
  obtain ⟨u6, i6, h⟩ := Option.bind_eq_some_iff.mp h
  obtain ⟨G6, e6, h⟩ := Option.bind_eq_some_iff.mp h
  refine g_cVv (As := []) (rest := []) (n := 0) hx hb hml hown hts hK hlo hG (m_X10_keeps l dd cT lo G2 a0 e6) qM_X10_351 qI_yX10_keeps qS_X10_yX10_keeps qN_X10 qC_yX10_keeps (by decide +kernel) ⟨Nat.le_of_ble_eq_true rfl, Nat.le_of_ble_eq_true rfl⟩ (by rfl) i6 rfl hl.1 rfl (Nat.le_of_ble_eq_true rfl) dX10_setScan_6 ⟨Nat.le_of_ble_eq_true rfl, Nat.le_of_ble_eq_true rfl⟩ (fun H locs hG => ?_)
  refine lv_aload_n hx hb dX10_setScan_9 rfl (lv_at hl 0 rfl) ?_
  obtain ⟨v10, e10, h⟩ := Option.bind_eq_some_iff.mp h
  refine g_getr hx hb hts inlX10 hown hK hG (by rfl) 1 (by decide) qF_X10_7 e10 dX10_setScan_10 ?_
  refine lv_iconst (v := (5 : Int32)) hx hb dX10_setScan_13 (by decide) ?_
  obtain ⟨v14, e14, h⟩ := Option.bind_eq_some_iff.mp h
  refine g_iald hx hb hK hG e14 dX10_setScan_14 ?_
  refine lv_iconst (v := (1 : Int32)) hx hb dX10_setScan_15 (by decide) ?_
  refine lv_icmp_ne (tgt := 23) hx hb dX10_setScan_16 (by decide) (fun c16 => ?_) (fun c16 => ?_)
  · rw [if_neg c16] at h
    refine lv_iconst (v := (0 : Int32)) hx hb dX10_setScan_23 (by decide) ?_
    exact h24 G6 a0 x1 (0 : Int32) _ _ hG _ (lv_sub hl [0, 1] rfl) h
  · rw [if_pos c16] at h
    refine lv_iconst (v := (1 : Int32)) hx hb dX10_setScan_19 (by decide) ?_
    refine lv_goto (tgt := 24) hx hb dX10_setScan_20 (by decide) ?_
    exact h24 G6 a0 x1 (1 : Int32) _ _ hG _ (lv_sub hl [0, 1] rfl) h
def f_X11_kindOf (G : gH) (a0 : Nat) (x1 : Int32) : Option Int32 :=
    (g_i G a0 11 0).bind fun v2 =>
    if v2 ≤ x1 then
    some (0 : Int32)
    else
    (g_r G a0 11 2).bind fun v9 =>
    (f_X9_at G v9 x1 (0 : Int32)).bind fun v14 =>
    some v14
set_option maxRecDepth 20000 in
set_option maxHeartbeats 4000000 in
theorem m_X11_kindOf (l : Launch) (dd : va_G) (cT : Nat → ClassId) (lo : Nat) (G : gH) (a0 : Nat) (x1 : Int32) {rz : Int32} (h : f_X11_kindOf G a0 x1 = some rz) : Met l yX11_kindOf (Cond.code yX11_kindOf cX11_kindOf 2 (some .int) :: wsL_law) (g_rm 1 22 0 0) (va_Pc [.ref a0, .int x1] (g_Pre lo dd cT G)) (va_Qi (g_is rz G) (g_Pre lo dd cT) (g_A lo)) 0 0 (g_A lo) := by
  refine g_start RX11 rfl (by decide) (Nat.le_of_ble_eq_true rfl) ?_
  intro p e s m below meth c hx hb hr hlocks hml hown hnm hts hK hG hlo ls hl
  have hl : lv_has ls 2 [(0, .ref a0), (1, .int x1)] := hl
  have hG : g_S lo dd cT s s.heap [] G := hG
  unfold f_X11_kindOf at h
  refine lv_iload_n hx hb dX11_kindOf_0 rfl (lv_at hl 1 rfl) ?_
  refine lv_aload_n hx hb dX11_kindOf_1 rfl (lv_at hl 0 rfl) ?_
  obtain ⟨v2, e2, h⟩ := Option.bind_eq_some_iff.mp h
  refine g_geti hx hb hts inlX11 hown hK hG (by rfl) 0 (by decide) qF_X11_9 e2 dX11_kindOf_2 ?_
  refine lv_icmp_ge (tgt := 20) hx hb dX11_kindOf_5 (by decide) (fun c5 => ?_) (fun c5 => ?_)
  · rw [if_pos c5] at h
    refine lv_iconst (v := (0 : Int32)) hx hb dX11_kindOf_20 (by decide) ?_
    obtain rfl := Option.some.inj h
    exact g_iret hx hb hr hlocks hK hlo hG ⟨rfl, rfl⟩ dX11_kindOf_21
  · rw [if_neg c5] at h
    refine lv_aload_n hx hb dX11_kindOf_8 rfl (lv_at hl 0 rfl) ?_
    obtain ⟨v9, e9, h⟩ := Option.bind_eq_some_iff.mp h
    refine g_getr hx hb hts inlX11 hown hK hG (by rfl) 2 (by decide) qF_X11_18 e9 dX11_kindOf_9 ?_
    refine lv_iload_n hx hb dX11_kindOf_12 rfl (lv_at hl 1 rfl) ?_
    refine lv_iconst (v := (0 : Int32)) hx hb dX11_kindOf_13 (by decide) ?_
    obtain ⟨v14, e14, h⟩ := Option.bind_eq_some_iff.mp h
    refine g_cNi (As := [.ref v9, .int x1, .int (0 : Int32)]) (rest := []) (n := 3) hx hb hml hown hts hK hlo hG (m_X9_at l dd cT lo G v9 x1 (0 : Int32) e14) (List.mem_of_getElem? (i := 48) rfl) qT_yX9_at qN_X9 qC_yX9_at (by decide +kernel) ⟨Nat.le_of_ble_eq_true rfl, Nat.le_of_ble_eq_true rfl⟩ rfl hl.1 rfl (Nat.le_of_ble_eq_true rfl) dX11_kindOf_14 ⟨Nat.le_of_ble_eq_true rfl, Nat.le_of_ble_eq_true rfl⟩ (fun H locs hG => ?_)
    refine lv_goto (tgt := 21) hx hb dX11_kindOf_17 (by decide) ?_
    obtain rfl := Option.some.inj h
    exact g_iret hx hb hr hlocks hK hlo hG ⟨rfl, rfl⟩ dX11_kindOf_21
def f_X11_startOf (G : gH) (a0 : Nat) (x1 : Int32) : Option Int32 :=
    (g_i G a0 11 0).bind fun v2 =>
    if v2 ≤ x1 then
    (g_i G a0 11 1).bind fun v24 =>
    some v24
    else
    (g_r G a0 11 3).bind fun v9 =>
    (g_i G a0 11 1).bind fun v14 =>
    (f_X9_at G v9 x1 v14).bind fun v17 =>
    some v17
set_option maxRecDepth 20000 in
set_option maxHeartbeats 4000000 in
theorem m_X11_startOf (l : Launch) (dd : va_G) (cT : Nat → ClassId) (lo : Nat) (G : gH) (a0 : Nat) (x1 : Int32) {rz : Int32} (h : f_X11_startOf G a0 x1 = some rz) : Met l yX11_startOf (Cond.code yX11_startOf cX11_startOf 2 (some .int) :: wsL_law) (g_rm 1 22 0 0) (va_Pc [.ref a0, .int x1] (g_Pre lo dd cT G)) (va_Qi (g_is rz G) (g_Pre lo dd cT) (g_A lo)) 0 0 (g_A lo) := by
  refine g_start RX11 rfl (by decide) (Nat.le_of_ble_eq_true rfl) ?_
  intro p e s m below meth c hx hb hr hlocks hml hown hnm hts hK hG hlo ls hl
  have hl : lv_has ls 2 [(0, .ref a0), (1, .int x1)] := hl
  have hG : g_S lo dd cT s s.heap [] G := hG
  unfold f_X11_startOf at h
  refine lv_iload_n hx hb dX11_startOf_0 rfl (lv_at hl 1 rfl) ?_
  refine lv_aload_n hx hb dX11_startOf_1 rfl (lv_at hl 0 rfl) ?_
  obtain ⟨v2, e2, h⟩ := Option.bind_eq_some_iff.mp h
  refine g_geti hx hb hts inlX11 hown hK hG (by rfl) 0 (by decide) qF_X11_9 e2 dX11_startOf_2 ?_
  refine lv_icmp_ge (tgt := 23) hx hb dX11_startOf_5 (by decide) (fun c5 => ?_) (fun c5 => ?_)
  · rw [if_pos c5] at h
    refine lv_aload_n hx hb dX11_startOf_23 rfl (lv_at hl 0 rfl) ?_
    obtain ⟨v24, e24, h⟩ := Option.bind_eq_some_iff.mp h
    refine g_geti hx hb hts inlX11 hown hK hG (by rfl) 1 (by decide) qF_X11_15 e24 dX11_startOf_24 ?_
    obtain rfl := Option.some.inj h
    exact g_iret hx hb hr hlocks hK hlo hG ⟨rfl, rfl⟩ dX11_startOf_27
  · rw [if_neg c5] at h
    refine lv_aload_n hx hb dX11_startOf_8 rfl (lv_at hl 0 rfl) ?_
    obtain ⟨v9, e9, h⟩ := Option.bind_eq_some_iff.mp h
    refine g_getr hx hb hts inlX11 hown hK hG (by rfl) 3 (by decide) qF_X11_22 e9 dX11_startOf_9 ?_
    refine lv_iload_n hx hb dX11_startOf_12 rfl (lv_at hl 1 rfl) ?_
    refine lv_aload_n hx hb dX11_startOf_13 rfl (lv_at hl 0 rfl) ?_
    obtain ⟨v14, e14, h⟩ := Option.bind_eq_some_iff.mp h
    refine g_geti hx hb hts inlX11 hown hK hG (by rfl) 1 (by decide) qF_X11_15 e14 dX11_startOf_14 ?_
    obtain ⟨v17, e17, h⟩ := Option.bind_eq_some_iff.mp h
    refine g_cNi (As := [.ref v9, .int x1, .int v14]) (rest := []) (n := 3) hx hb hml hown hts hK hlo hG (m_X9_at l dd cT lo G v9 x1 v14 e17) (List.mem_of_getElem? (i := 48) rfl) qT_yX9_at qN_X9 qC_yX9_at (by decide +kernel) ⟨Nat.le_of_ble_eq_true rfl, Nat.le_of_ble_eq_true rfl⟩ rfl hl.1 rfl (Nat.le_of_ble_eq_true rfl) dX11_startOf_17 ⟨Nat.le_of_ble_eq_true rfl, Nat.le_of_ble_eq_true rfl⟩ (fun H locs hG => ?_)
    refine lv_goto (tgt := 27) hx hb dX11_startOf_20 (by decide) ?_
    obtain rfl := Option.some.inj h
    exact g_iret hx hb hr hlocks hK hlo hG ⟨rfl, rfl⟩ dX11_startOf_27
def f_X11_numberOf (G : gH) (a0 : Nat) (x1 : Int32) : Option Int32 :=
    (g_r G a0 11 4).bind fun v1 =>
    (f_X9_at_ G v1 x1 (-1 : Int64)).bind fun v8 =>
    some v8.toInt32
set_option maxRecDepth 20000 in
set_option maxHeartbeats 4000000 in
theorem m_X11_numberOf (l : Launch) (dd : va_G) (cT : Nat → ClassId) (lo : Nat) (G : gH) (a0 : Nat) (x1 : Int32) {rz : Int32} (h : f_X11_numberOf G a0 x1 = some rz) : Met l yX11_numberOf (Cond.code yX11_numberOf cX11_numberOf 2 (some .int) :: wsL_law) (g_rm 1 23 0 0) (va_Pc [.ref a0, .int x1] (g_Pre lo dd cT G)) (va_Qi (g_is rz G) (g_Pre lo dd cT) (g_A lo)) 0 0 (g_A lo) := by
  refine g_start RX11 rfl (by decide) (Nat.le_of_ble_eq_true rfl) ?_
  intro p e s m below meth c hx hb hr hlocks hml hown hnm hts hK hG hlo ls hl
  have hl : lv_has ls 2 [(0, .ref a0), (1, .int x1)] := hl
  have hG : g_S lo dd cT s s.heap [] G := hG
  unfold f_X11_numberOf at h
  refine lv_aload_n hx hb dX11_numberOf_0 rfl (lv_at hl 0 rfl) ?_
  obtain ⟨v1, e1, h⟩ := Option.bind_eq_some_iff.mp h
  refine g_getr hx hb hts inlX11 hown hK hG (by rfl) 4 (by decide) qF_X11_25 e1 dX11_numberOf_1 ?_
  refine lv_iload_n hx hb dX11_numberOf_4 rfl (lv_at hl 1 rfl) ?_
  refine lv_ldc2 hx hb hown (hts _ qJ_X11_52) dX11_numberOf_5 ?_
  obtain ⟨v8, e8, h⟩ := Option.bind_eq_some_iff.mp h
  refine g_cNj (As := [.ref v1, .int x1, .long (-1 : Int64)]) (rest := []) (n := 3) hx hb hml hown hts hK hlo hG (m_X9_at_ l dd cT lo G v1 x1 (-1 : Int64) e8) (List.mem_of_getElem? (i := 49) rfl) qT_yX9_at_ qN_X9 qC_yX9_at_ (by decide +kernel) ⟨Nat.le_of_ble_eq_true rfl, Nat.le_of_ble_eq_true rfl⟩ rfl hl.1 rfl (Nat.le_of_ble_eq_true rfl) dX11_numberOf_8 ⟨Nat.le_of_ble_eq_true rfl, Nat.le_of_ble_eq_true rfl⟩ (fun H locs hG => ?_)
  refine lv_l2i hx hb dX11_numberOf_11 rfl ?_
  obtain rfl := Option.some.inj h
  exact g_iret hx hb hr hlocks hK hlo hG ⟨rfl, rfl⟩ dX11_numberOf_12
def f_X11_valueOf (G : gH) (a0 : Nat) (x1 : Int32) : Option Int64 :=
    (g_r G a0 11 4).bind fun v1 =>
    (f_X9_at_ G v1 x1 (-1 : Int64)).bind fun v8 =>
    some v8
set_option maxRecDepth 20000 in
set_option maxHeartbeats 4000000 in
theorem m_X11_valueOf (l : Launch) (dd : va_G) (cT : Nat → ClassId) (lo : Nat) (G : gH) (a0 : Nat) (x1 : Int32) {rz : Int64} (h : f_X11_valueOf G a0 x1 = some rz) : Met l yX11_valueOf (Cond.code yX11_valueOf cX11_valueOf 2 (some .long) :: wsL_law) (g_rm 1 23 0 0) (va_Pc [.ref a0, .int x1] (g_Pre lo dd cT G)) (va_Ql (g_is rz G) (g_Pre lo dd cT) (g_A lo)) 0 0 (g_A lo) := by
  refine g_start RX11 rfl (by decide) (Nat.le_of_ble_eq_true rfl) ?_
  intro p e s m below meth c hx hb hr hlocks hml hown hnm hts hK hG hlo ls hl
  have hl : lv_has ls 2 [(0, .ref a0), (1, .int x1)] := hl
  have hG : g_S lo dd cT s s.heap [] G := hG
  unfold f_X11_valueOf at h
  refine lv_aload_n hx hb dX11_valueOf_0 rfl (lv_at hl 0 rfl) ?_
  obtain ⟨v1, e1, h⟩ := Option.bind_eq_some_iff.mp h
  refine g_getr hx hb hts inlX11 hown hK hG (by rfl) 4 (by decide) qF_X11_25 e1 dX11_valueOf_1 ?_
  refine lv_iload_n hx hb dX11_valueOf_4 rfl (lv_at hl 1 rfl) ?_
  refine lv_ldc2 hx hb hown (hts _ qJ_X11_52) dX11_valueOf_5 ?_
  obtain ⟨v8, e8, h⟩ := Option.bind_eq_some_iff.mp h
  refine g_cNj (As := [.ref v1, .int x1, .long (-1 : Int64)]) (rest := []) (n := 3) hx hb hml hown hts hK hlo hG (m_X9_at_ l dd cT lo G v1 x1 (-1 : Int64) e8) (List.mem_of_getElem? (i := 49) rfl) qT_yX9_at_ qN_X9 qC_yX9_at_ (by decide +kernel) ⟨Nat.le_of_ble_eq_true rfl, Nat.le_of_ble_eq_true rfl⟩ rfl hl.1 rfl (Nat.le_of_ble_eq_true rfl) dX11_valueOf_8 ⟨Nat.le_of_ble_eq_true rfl, Nat.le_of_ble_eq_true rfl⟩ (fun H locs hG => ?_)
  obtain rfl := Option.some.inj h
  exact g_jret hx hb hr hlocks hK hlo hG ⟨rfl, rfl⟩ dX11_valueOf_11
def f_X11_begin (G : gH) (a0 : Nat) (x1 : Int32) (x2 : Int32) : Option gH :=
    (g_r G a0 11 2).bind fun v1 =>
    (g_i G a0 11 0).bind fun v5 =>
    (f_X9_put G v1 v5 x1).bind fun G9 =>
    (g_r G9 a0 11 3).bind fun v13 =>
    (g_i G9 a0 11 0).bind fun v17 =>
    (f_X9_put G9 v13 v17 x2).bind fun G21 =>
    (g_r G21 a0 11 4).bind fun v25 =>
    (g_i G21 a0 11 0).bind fun v29 =>
    (f_X9_put_ G21 v25 v29 (0 : Int64)).bind fun G33 =>
    (g_i G33 a0 11 0).bind fun v38 =>
    (g_put G33 a0 11 0 (.int (v38 + (1 : Int32)))).bind fun G43 =>
    some G43
set_option maxRecDepth 20000 in
set_option maxHeartbeats 4000000 in
theorem m_X11_begin (l : Launch) (dd : va_G) (cT : Nat → ClassId) (lo : Nat) (G : gH) (a0 : Nat) (x1 : Int32) (x2 : Int32) {Gz : gH} (h : f_X11_begin G a0 x1 x2 = some Gz) : Met l yX11_begin (Cond.code yX11_begin cX11_begin 3 none :: wsL_law) (g_rm 1 23 0 0) (va_Pc [.ref a0, .int x1, .int x2] (g_Pre lo dd cT G)) (va_Qv (g_iv Gz) (g_Pre lo dd cT) (g_A lo)) 0 0 (g_A lo) := by
  refine g_start RX11 rfl (by decide) (Nat.le_of_ble_eq_true rfl) ?_
  intro p e s m below meth c hx hb hr hlocks hml hown hnm hts hK hG hlo ls hl
  have hl : lv_has ls 3 [(0, .ref a0), (1, .int x1), (2, .int x2)] := hl
  have hG : g_S lo dd cT s s.heap [] G := hG
  unfold f_X11_begin at h
  refine lv_aload_n hx hb dX11_begin_0 rfl (lv_at hl 0 rfl) ?_
  obtain ⟨v1, e1, h⟩ := Option.bind_eq_some_iff.mp h
  refine g_getr hx hb hts inlX11 hown hK hG (by rfl) 2 (by decide) qF_X11_18 e1 dX11_begin_1 ?_
  refine lv_aload_n hx hb dX11_begin_4 rfl (lv_at hl 0 rfl) ?_
  obtain ⟨v5, e5, h⟩ := Option.bind_eq_some_iff.mp h
  refine g_geti hx hb hts inlX11 hown hK hG (by rfl) 0 (by decide) qF_X11_9 e5 dX11_begin_5 ?_
  refine lv_iload_n hx hb dX11_begin_8 rfl (lv_at hl 1 rfl) ?_
  obtain ⟨G9, e9, h⟩ := Option.bind_eq_some_iff.mp h
  refine g_cNv (As := [.ref v1, .int v5, .int x1]) (rest := []) (n := 3) hx hb hml hown hts hK hlo hG (m_X9_put l dd cT lo G v1 v5 x1 e9) (List.mem_of_getElem? (i := 50) rfl) qT_yX9_put qN_X9 qC_yX9_put (by decide +kernel) ⟨Nat.le_of_ble_eq_true rfl, Nat.le_of_ble_eq_true rfl⟩ rfl hl.1 rfl (Nat.le_of_ble_eq_true rfl) dX11_begin_9 ⟨Nat.le_of_ble_eq_true rfl, Nat.le_of_ble_eq_true rfl⟩ (fun H locs hG => ?_)
  refine lv_aload_n hx hb dX11_begin_12 rfl (lv_at hl 0 rfl) ?_
  obtain ⟨v13, e13, h⟩ := Option.bind_eq_some_iff.mp h
  refine g_getr hx hb hts inlX11 hown hK hG (by rfl) 3 (by decide) qF_X11_22 e13 dX11_begin_13 ?_
  refine lv_aload_n hx hb dX11_begin_16 rfl (lv_at hl 0 rfl) ?_
  obtain ⟨v17, e17, h⟩ := Option.bind_eq_some_iff.mp h
  refine g_geti hx hb hts inlX11 hown hK hG (by rfl) 0 (by decide) qF_X11_9 e17 dX11_begin_17 ?_
  refine lv_iload_n hx hb dX11_begin_20 rfl (lv_at hl 2 rfl) ?_
  obtain ⟨G21, e21, h⟩ := Option.bind_eq_some_iff.mp h
  refine g_cNv (As := [.ref v13, .int v17, .int x2]) (rest := []) (n := 3) hx hb hml hown hts hK hlo hG (m_X9_put l dd cT lo G9 v13 v17 x2 e21) (List.mem_of_getElem? (i := 50) rfl) qT_yX9_put qN_X9 qC_yX9_put (by decide +kernel) ⟨Nat.le_of_ble_eq_true rfl, Nat.le_of_ble_eq_true rfl⟩ rfl hl.1 rfl (Nat.le_of_ble_eq_true rfl) dX11_begin_21 ⟨Nat.le_of_ble_eq_true rfl, Nat.le_of_ble_eq_true rfl⟩ (fun H locs hG => ?_)
  refine lv_aload_n hx hb dX11_begin_24 rfl (lv_at hl 0 rfl) ?_
  obtain ⟨v25, e25, h⟩ := Option.bind_eq_some_iff.mp h
  refine g_getr hx hb hts inlX11 hown hK hG (by rfl) 4 (by decide) qF_X11_25 e25 dX11_begin_25 ?_
  refine lv_aload_n hx hb dX11_begin_28 rfl (lv_at hl 0 rfl) ?_
  obtain ⟨v29, e29, h⟩ := Option.bind_eq_some_iff.mp h
  refine g_geti hx hb hts inlX11 hown hK hG (by rfl) 0 (by decide) qF_X11_9 e29 dX11_begin_29 ?_
  refine lv_lconst (v := (0 : Int64)) hx hb dX11_begin_32 (by decide) ?_
  obtain ⟨G33, e33, h⟩ := Option.bind_eq_some_iff.mp h
  refine g_cNv (As := [.ref v25, .int v29, .long (0 : Int64)]) (rest := []) (n := 3) hx hb hml hown hts hK hlo hG (m_X9_put_ l dd cT lo G21 v25 v29 (0 : Int64) e33) (List.mem_of_getElem? (i := 51) rfl) qT_yX9_put_ qN_X9 qC_yX9_put_ (by decide +kernel) ⟨Nat.le_of_ble_eq_true rfl, Nat.le_of_ble_eq_true rfl⟩ rfl hl.1 rfl (Nat.le_of_ble_eq_true rfl) dX11_begin_33 ⟨Nat.le_of_ble_eq_true rfl, Nat.le_of_ble_eq_true rfl⟩ (fun H locs hG => ?_)
  refine lv_aload_n hx hb dX11_begin_36 rfl (lv_at hl 0 rfl) ?_
  refine lv_dup hx hb dX11_begin_37 rfl ?_
  obtain ⟨v38, e38, h⟩ := Option.bind_eq_some_iff.mp h
  refine g_geti hx hb hts inlX11 hown hK hG (by rfl) 0 (by decide) qF_X11_9 e38 dX11_begin_38 ?_
  refine lv_iconst (v := (1 : Int32)) hx hb dX11_begin_41 (by decide) ?_
  refine lv_iadd hx hb dX11_begin_42 ?_
  obtain ⟨G43, i43, h⟩ := Option.bind_eq_some_iff.mp h
  refine g_putv hx hb hts inlX11 tyX11 tyX11_ok nmX11 hown hK hG (by rfl) 0 (by decide) qF_X11_9 rfl rfl rfl rfl i43 dX11_begin_43 (fun H locs hG => ?_)
  obtain rfl := Option.some.inj h
  exact g_vret hx hb hr hlocks hK hlo hG rfl dX11_begin_46
def f_X11_takeLetter (G : gH) (a0 : Nat) (x1 : Int32) (x2 : Int32) : Option gH :=
    (g_i G a0 11 0).bind fun v1 =>
    (g_r G a0 11 4).bind fun v8 =>
    (g_ob G a0 11).bind fun u14 =>
    (f_X11_valueOf G a0 (v1 - (1 : Int32))).bind fun v14 =>
    (f_X9_withLetter G v14 x1).bind fun v18 =>
    (f_X9_put_ G v8 (v1 - (1 : Int32)) v18).bind fun G21 =>
    (g_ob G21 a0 11).bind fun u27 =>
    (f_X11_startOf G21 a0 (v1 - (1 : Int32))).bind fun v27 =>
    if (x2 - v27) < (8 : Int32) then
    some G21
    else
    (g_r G21 a0 11 2).bind fun v37 =>
    (f_X9_put G21 v37 (v1 - (1 : Int32)) (4 : Int32)).bind fun G42 =>
    some G42
set_option maxRecDepth 20000 in
set_option maxHeartbeats 4000000 in
theorem m_X11_takeLetter (l : Launch) (dd : va_G) (cT : Nat → ClassId) (lo : Nat) (G : gH) (a0 : Nat) (x1 : Int32) (x2 : Int32) {Gz : gH} (h : f_X11_takeLetter G a0 x1 x2 = some Gz) : Met l yX11_takeLetter (Cond.code yX11_takeLetter cX11_takeLetter 4 none :: wsL_law) (g_rm 2 44 0 0) (va_Pc [.ref a0, .int x1, .int x2] (g_Pre lo dd cT G)) (va_Qv (g_iv Gz) (g_Pre lo dd cT) (g_A lo)) 0 0 (g_A lo) := by
  refine g_start RX11 rfl (by decide) (Nat.le_of_ble_eq_true rfl) ?_
  intro p e s m below meth c hx hb hr hlocks hml hown hnm hts hK hG hlo ls hl
  have hl : lv_has ls 4 [(0, .ref a0), (1, .int x1), (2, .int x2)] := hl
  have hG : g_S lo dd cT s s.heap [] G := hG
  unfold f_X11_takeLetter at h
  refine lv_aload_n hx hb dX11_takeLetter_0 rfl (lv_at hl 0 rfl) ?_
  obtain ⟨v1, e1, h⟩ := Option.bind_eq_some_iff.mp h
  refine g_geti hx hb hts inlX11 hown hK hG (by rfl) 0 (by decide) qF_X11_9 e1 dX11_takeLetter_1 ?_
  refine lv_iconst (v := (1 : Int32)) hx hb dX11_takeLetter_4 (by decide) ?_
  refine lv_isub hx hb dX11_takeLetter_5 ?_
  refine lv_istore_n (lv' := [(3, .int (v1 - (1 : Int32))), (0, .ref a0), (1, .int x1), (2, .int x2)]) hx hb dX11_takeLetter_6 rfl hl (by decide) rfl (fun ls hl => ?_)
  refine lv_aload_n hx hb dX11_takeLetter_7 rfl (lv_at hl 1 rfl) ?_
  obtain ⟨v8, e8, h⟩ := Option.bind_eq_some_iff.mp h
  refine g_getr hx hb hts inlX11 hown hK hG (by rfl) 4 (by decide) qF_X11_25 e8 dX11_takeLetter_8 ?_
  refine lv_iload_n hx hb dX11_takeLetter_11 rfl (lv_at hl 0 rfl) ?_
  refine lv_aload_n hx hb dX11_takeLetter_12 rfl (lv_at hl 1 rfl) ?_
  refine lv_iload_n hx hb dX11_takeLetter_13 rfl (lv_at hl 0 rfl) ?_
  obtain ⟨u14, i14, h⟩ := Option.bind_eq_some_iff.mp h
  obtain ⟨v14, e14, h⟩ := Option.bind_eq_some_iff.mp h
  refine g_cVj (As := [.int (v1 - (1 : Int32))]) (rest := [.int (v1 - (1 : Int32)), .ref v8]) (n := 1) hx hb hml hown hts hK hlo hG (m_X11_valueOf l dd cT lo G a0 (v1 - (1 : Int32)) e14) qM_X11_64 qI_yX11_valueOf qS_X11_yX11_valueOf qN_X11 qC_yX11_valueOf (by decide +kernel) ⟨Nat.le_of_ble_eq_true rfl, Nat.le_of_ble_eq_true rfl⟩ (by rfl) i14 rfl hl.1 rfl (Nat.le_of_ble_eq_true rfl) dX11_takeLetter_14 ⟨Nat.le_of_ble_eq_true rfl, Nat.le_of_ble_eq_true rfl⟩ (fun H locs hG => ?_)
  refine lv_iload_n hx hb dX11_takeLetter_17 rfl (lv_at hl 2 rfl) ?_
  obtain ⟨v18, e18, h⟩ := Option.bind_eq_some_iff.mp h
  refine g_cNj (As := [.long v14, .int x1]) (rest := [.int (v1 - (1 : Int32)), .ref v8]) (n := 2) hx hb hml hown hts hK hlo hG (m_X9_withLetter l dd cT lo G v14 x1 e18) (List.mem_of_getElem? (i := 52) rfl) qT_yX9_withLetter qN_X9 qC_yX9_withLetter (by decide +kernel) ⟨Nat.le_of_ble_eq_true rfl, Nat.le_of_ble_eq_true rfl⟩ rfl hl.1 rfl (Nat.le_of_ble_eq_true rfl) dX11_takeLetter_18 ⟨Nat.le_of_ble_eq_true rfl, Nat.le_of_ble_eq_true rfl⟩ (fun H locs hG => ?_)
  obtain ⟨G21, e21, h⟩ := Option.bind_eq_some_iff.mp h
  refine g_cNv (As := [.ref v8, .int (v1 - (1 : Int32)), .long v18]) (rest := []) (n := 3) hx hb hml hown hts hK hlo hG (m_X9_put_ l dd cT lo G v8 (v1 - (1 : Int32)) v18 e21) (List.mem_of_getElem? (i := 51) rfl) qT_yX9_put_ qN_X9 qC_yX9_put_ (by decide +kernel) ⟨Nat.le_of_ble_eq_true rfl, Nat.le_of_ble_eq_true rfl⟩ rfl hl.1 rfl (Nat.le_of_ble_eq_true rfl) dX11_takeLetter_21 ⟨Nat.le_of_ble_eq_true rfl, Nat.le_of_ble_eq_true rfl⟩ (fun H locs hG => ?_)
  refine lv_iload_n hx hb dX11_takeLetter_24 rfl (lv_at hl 3 rfl) ?_
  refine lv_aload_n hx hb dX11_takeLetter_25 rfl (lv_at hl 1 rfl) ?_
  refine lv_iload_n hx hb dX11_takeLetter_26 rfl (lv_at hl 0 rfl) ?_
  obtain ⟨u27, i27, h⟩ := Option.bind_eq_some_iff.mp h
  obtain ⟨v27, e27, h⟩ := Option.bind_eq_some_iff.mp h
  refine g_cVi (As := [.int (v1 - (1 : Int32))]) (rest := [.int x2]) (n := 1) hx hb hml hown hts hK hlo hG (m_X11_startOf l dd cT lo G21 a0 (v1 - (1 : Int32)) e27) qM_X11_72 qI_yX11_startOf qS_X11_yX11_startOf qN_X11 qC_yX11_startOf (by decide +kernel) ⟨Nat.le_of_ble_eq_true rfl, Nat.le_of_ble_eq_true rfl⟩ (by rfl) i27 rfl hl.1 rfl (Nat.le_of_ble_eq_true rfl) dX11_takeLetter_27 ⟨Nat.le_of_ble_eq_true rfl, Nat.le_of_ble_eq_true rfl⟩ (fun H locs hG => ?_)
  refine lv_isub hx hb dX11_takeLetter_30 ?_
  refine lv_bipush (v := (8 : Int32)) hx hb dX11_takeLetter_31 (by decide) ?_
  refine lv_icmp_lt (tgt := 45) hx hb dX11_takeLetter_33 (by decide) (fun c33 => ?_) (fun c33 => ?_)
  · rw [if_pos c33] at h
    obtain rfl := Option.some.inj h
    exact g_vret hx hb hr hlocks hK hlo hG rfl dX11_takeLetter_45
  · rw [if_neg c33] at h
    refine lv_aload_n hx hb dX11_takeLetter_36 rfl (lv_at hl 1 rfl) ?_
    obtain ⟨v37, e37, h⟩ := Option.bind_eq_some_iff.mp h
    refine g_getr hx hb hts inlX11 hown hK hG (by rfl) 2 (by decide) qF_X11_18 e37 dX11_takeLetter_37 ?_
    refine lv_iload_n hx hb dX11_takeLetter_40 rfl (lv_at hl 0 rfl) ?_
    refine lv_iconst (v := (4 : Int32)) hx hb dX11_takeLetter_41 (by decide) ?_
    obtain ⟨G42, e42, h⟩ := Option.bind_eq_some_iff.mp h
    refine g_cNv (As := [.ref v37, .int (v1 - (1 : Int32)), .int (4 : Int32)]) (rest := []) (n := 3) hx hb hml hown hts hK hlo hG (m_X9_put l dd cT lo G21 v37 (v1 - (1 : Int32)) (4 : Int32) e42) (List.mem_of_getElem? (i := 50) rfl) qT_yX9_put qN_X9 qC_yX9_put (by decide +kernel) ⟨Nat.le_of_ble_eq_true rfl, Nat.le_of_ble_eq_true rfl⟩ rfl hl.1 rfl (Nat.le_of_ble_eq_true rfl) dX11_takeLetter_42 ⟨Nat.le_of_ble_eq_true rfl, Nat.le_of_ble_eq_true rfl⟩ (fun H locs hG => ?_)
    obtain rfl := Option.some.inj h
    exact g_vret hx hb hr hlocks hK hlo hG rfl dX11_takeLetter_45
def f_X11_takeDigit (G : gH) (a0 : Nat) (x1 : Int32) (x2 : Int32) : Option gH :=
    (g_i G a0 11 0).bind fun v1 =>
    (g_r G a0 11 4).bind fun v8 =>
    (g_ob G a0 11).bind fun u14 =>
    (f_X11_valueOf G a0 (v1 - (1 : Int32))).bind fun v14 =>
    (f_X9_put_ G v8 (v1 - (1 : Int32)) ((v14 * (10 : Int64)) + (x1 - (48 : Int32)).toInt64)).bind fun G27 =>
    (g_ob G27 a0 11).bind fun u33 =>
    (f_X11_startOf G27 a0 (v1 - (1 : Int32))).bind fun v33 =>
    if (x2 - v33) < (3 : Int32) then
    some G27
    else
    (g_r G27 a0 11 2).bind fun v42 =>
    (f_X9_put G27 v42 (v1 - (1 : Int32)) (4 : Int32)).bind fun G47 =>
    some G47
set_option maxRecDepth 20000 in
set_option maxHeartbeats 4000000 in
theorem m_X11_takeDigit (l : Launch) (dd : va_G) (cT : Nat → ClassId) (lo : Nat) (G : gH) (a0 : Nat) (x1 : Int32) (x2 : Int32) {Gz : gH} (h : f_X11_takeDigit G a0 x1 x2 = some Gz) : Met l yX11_takeDigit (Cond.code yX11_takeDigit cX11_takeDigit 4 none :: wsL_law) (g_rm 2 44 0 0) (va_Pc [.ref a0, .int x1, .int x2] (g_Pre lo dd cT G)) (va_Qv (g_iv Gz) (g_Pre lo dd cT) (g_A lo)) 0 0 (g_A lo) := by
  refine g_start RX11 rfl (by decide) (Nat.le_of_ble_eq_true rfl) ?_
  intro p e s m below meth c hx hb hr hlocks hml hown hnm hts hK hG hlo ls hl
  have hl : lv_has ls 4 [(0, .ref a0), (1, .int x1), (2, .int x2)] := hl
  have hG : g_S lo dd cT s s.heap [] G := hG
  unfold f_X11_takeDigit at h
  refine lv_aload_n hx hb dX11_takeDigit_0 rfl (lv_at hl 0 rfl) ?_
  obtain ⟨v1, e1, h⟩ := Option.bind_eq_some_iff.mp h
  refine g_geti hx hb hts inlX11 hown hK hG (by rfl) 0 (by decide) qF_X11_9 e1 dX11_takeDigit_1 ?_
  refine lv_iconst (v := (1 : Int32)) hx hb dX11_takeDigit_4 (by decide) ?_
  refine lv_isub hx hb dX11_takeDigit_5 ?_
  refine lv_istore_n (lv' := [(3, .int (v1 - (1 : Int32))), (0, .ref a0), (1, .int x1), (2, .int x2)]) hx hb dX11_takeDigit_6 rfl hl (by decide) rfl (fun ls hl => ?_)
  refine lv_aload_n hx hb dX11_takeDigit_7 rfl (lv_at hl 1 rfl) ?_
  obtain ⟨v8, e8, h⟩ := Option.bind_eq_some_iff.mp h
  refine g_getr hx hb hts inlX11 hown hK hG (by rfl) 4 (by decide) qF_X11_25 e8 dX11_takeDigit_8 ?_
  refine lv_iload_n hx hb dX11_takeDigit_11 rfl (lv_at hl 0 rfl) ?_
  refine lv_aload_n hx hb dX11_takeDigit_12 rfl (lv_at hl 1 rfl) ?_
  refine lv_iload_n hx hb dX11_takeDigit_13 rfl (lv_at hl 0 rfl) ?_
  obtain ⟨u14, i14, h⟩ := Option.bind_eq_some_iff.mp h
  obtain ⟨v14, e14, h⟩ := Option.bind_eq_some_iff.mp h
  refine g_cVj (As := [.int (v1 - (1 : Int32))]) (rest := [.int (v1 - (1 : Int32)), .ref v8]) (n := 1) hx hb hml hown hts hK hlo hG (m_X11_valueOf l dd cT lo G a0 (v1 - (1 : Int32)) e14) qM_X11_64 qI_yX11_valueOf qS_X11_yX11_valueOf qN_X11 qC_yX11_valueOf (by decide +kernel) ⟨Nat.le_of_ble_eq_true rfl, Nat.le_of_ble_eq_true rfl⟩ (by rfl) i14 rfl hl.1 rfl (Nat.le_of_ble_eq_true rfl) dX11_takeDigit_14 ⟨Nat.le_of_ble_eq_true rfl, Nat.le_of_ble_eq_true rfl⟩ (fun H locs hG => ?_)
  refine lv_ldc2 hx hb hown (hts _ qJ_X11_75) dX11_takeDigit_17 ?_
  refine lv_lmul hx hb dX11_takeDigit_20 ?_
  refine lv_iload_n hx hb dX11_takeDigit_21 rfl (lv_at hl 2 rfl) ?_
  refine lv_bipush (v := (48 : Int32)) hx hb dX11_takeDigit_22 (by decide) ?_
  refine lv_isub hx hb dX11_takeDigit_24 ?_
  refine lv_i2l hx hb dX11_takeDigit_25 rfl ?_
  refine lv_ladd hx hb dX11_takeDigit_26 ?_
  obtain ⟨G27, e27, h⟩ := Option.bind_eq_some_iff.mp h
  refine g_cNv (As := [.ref v8, .int (v1 - (1 : Int32)), .long ((v14 * (10 : Int64)) + (x1 - (48 : Int32)).toInt64)]) (rest := []) (n := 3) hx hb hml hown hts hK hlo hG (m_X9_put_ l dd cT lo G v8 (v1 - (1 : Int32)) ((v14 * (10 : Int64)) + (x1 - (48 : Int32)).toInt64) e27) (List.mem_of_getElem? (i := 51) rfl) qT_yX9_put_ qN_X9 qC_yX9_put_ (by decide +kernel) ⟨Nat.le_of_ble_eq_true rfl, Nat.le_of_ble_eq_true rfl⟩ rfl hl.1 rfl (Nat.le_of_ble_eq_true rfl) dX11_takeDigit_27 ⟨Nat.le_of_ble_eq_true rfl, Nat.le_of_ble_eq_true rfl⟩ (fun H locs hG => ?_)
  refine lv_iload_n hx hb dX11_takeDigit_30 rfl (lv_at hl 3 rfl) ?_
  refine lv_aload_n hx hb dX11_takeDigit_31 rfl (lv_at hl 1 rfl) ?_
  refine lv_iload_n hx hb dX11_takeDigit_32 rfl (lv_at hl 0 rfl) ?_
  obtain ⟨u33, i33, h⟩ := Option.bind_eq_some_iff.mp h
  obtain ⟨v33, e33, h⟩ := Option.bind_eq_some_iff.mp h
  refine g_cVi (As := [.int (v1 - (1 : Int32))]) (rest := [.int x2]) (n := 1) hx hb hml hown hts hK hlo hG (m_X11_startOf l dd cT lo G27 a0 (v1 - (1 : Int32)) e33) qM_X11_72 qI_yX11_startOf qS_X11_yX11_startOf qN_X11 qC_yX11_startOf (by decide +kernel) ⟨Nat.le_of_ble_eq_true rfl, Nat.le_of_ble_eq_true rfl⟩ (by rfl) i33 rfl hl.1 rfl (Nat.le_of_ble_eq_true rfl) dX11_takeDigit_33 ⟨Nat.le_of_ble_eq_true rfl, Nat.le_of_ble_eq_true rfl⟩ (fun H locs hG => ?_)
  refine lv_isub hx hb dX11_takeDigit_36 ?_
  refine lv_iconst (v := (3 : Int32)) hx hb dX11_takeDigit_37 (by decide) ?_
  refine lv_icmp_lt (tgt := 50) hx hb dX11_takeDigit_38 (by decide) (fun c38 => ?_) (fun c38 => ?_)
  · rw [if_pos c38] at h
    obtain rfl := Option.some.inj h
    exact g_vret hx hb hr hlocks hK hlo hG rfl dX11_takeDigit_50
  · rw [if_neg c38] at h
    refine lv_aload_n hx hb dX11_takeDigit_41 rfl (lv_at hl 1 rfl) ?_
    obtain ⟨v42, e42, h⟩ := Option.bind_eq_some_iff.mp h
    refine g_getr hx hb hts inlX11 hown hK hG (by rfl) 2 (by decide) qF_X11_18 e42 dX11_takeDigit_42 ?_
    refine lv_iload_n hx hb dX11_takeDigit_45 rfl (lv_at hl 0 rfl) ?_
    refine lv_iconst (v := (4 : Int32)) hx hb dX11_takeDigit_46 (by decide) ?_
    obtain ⟨G47, e47, h⟩ := Option.bind_eq_some_iff.mp h
    refine g_cNv (As := [.ref v42, .int (v1 - (1 : Int32)), .int (4 : Int32)]) (rest := []) (n := 3) hx hb hml hown hts hK hlo hG (m_X9_put l dd cT lo G27 v42 (v1 - (1 : Int32)) (4 : Int32) e47) (List.mem_of_getElem? (i := 50) rfl) qT_yX9_put qN_X9 qC_yX9_put (by decide +kernel) ⟨Nat.le_of_ble_eq_true rfl, Nat.le_of_ble_eq_true rfl⟩ rfl hl.1 rfl (Nat.le_of_ble_eq_true rfl) dX11_takeDigit_47 ⟨Nat.le_of_ble_eq_true rfl, Nat.le_of_ble_eq_true rfl⟩ (fun H locs hG => ?_)
    obtain rfl := Option.some.inj h
    exact g_vret hx hb hr hlocks hK hlo hG rfl dX11_takeDigit_50
def f_X3_addByte (G : gH) (a0 : Nat) (x1 : Int32) : Option gH :=
    (g_r G a0 3 0).bind fun v1 =>
    (g_i G a0 3 1).bind fun v5 =>
    (f_X9_put G v1 v5 (x1 &&& (255 : Int32))).bind fun G13 =>
    (g_i G13 a0 3 1).bind fun v18 =>
    (g_put G13 a0 3 1 (.int (v18 + (1 : Int32)))).bind fun G23 =>
    some G23
set_option maxRecDepth 20000 in
set_option maxHeartbeats 4000000 in
theorem m_X3_addByte (l : Launch) (dd : va_G) (cT : Nat → ClassId) (lo : Nat) (G : gH) (a0 : Nat) (x1 : Int32) {Gz : gH} (h : f_X3_addByte G a0 x1 = some Gz) : Met l yX3_addByte (Cond.code yX3_addByte cX3_addByte 2 none :: wsL_law) (g_rm 1 22 0 0) (va_Pc [.ref a0, .int x1] (g_Pre lo dd cT G)) (va_Qv (g_iv Gz) (g_Pre lo dd cT) (g_A lo)) 0 0 (g_A lo) := by
  refine g_start RX3 rfl (by decide) (Nat.le_of_ble_eq_true rfl) ?_
  intro p e s m below meth c hx hb hr hlocks hml hown hnm hts hK hG hlo ls hl
  have hl : lv_has ls 2 [(0, .ref a0), (1, .int x1)] := hl
  have hG : g_S lo dd cT s s.heap [] G := hG
  unfold f_X3_addByte at h
  refine lv_aload_n hx hb dX3_addByte_0 rfl (lv_at hl 0 rfl) ?_
  obtain ⟨v1, e1, h⟩ := Option.bind_eq_some_iff.mp h
  refine g_getr hx hb hts inlX3 hown hK hG (by rfl) 0 (by decide) qF_X3_9 e1 dX3_addByte_1 ?_
  refine lv_aload_n hx hb dX3_addByte_4 rfl (lv_at hl 0 rfl) ?_
  obtain ⟨v5, e5, h⟩ := Option.bind_eq_some_iff.mp h
  refine g_geti hx hb hts inlX3 hown hK hG (by rfl) 1 (by decide) qF_X3_15 e5 dX3_addByte_5 ?_
  refine lv_iload_n hx hb dX3_addByte_8 rfl (lv_at hl 1 rfl) ?_
  refine lv_sipush (v := (255 : Int32)) hx hb dX3_addByte_9 (by decide) ?_
  refine lv_iand hx hb dX3_addByte_12 ?_
  obtain ⟨G13, e13, h⟩ := Option.bind_eq_some_iff.mp h
  refine g_cNv (As := [.ref v1, .int v5, .int (x1 &&& (255 : Int32))]) (rest := []) (n := 3) hx hb hml hown hts hK hlo hG (m_X9_put l dd cT lo G v1 v5 (x1 &&& (255 : Int32)) e13) (List.mem_of_getElem? (i := 26) rfl) qT_yX9_put qN_X9 qC_yX9_put (by decide +kernel) ⟨Nat.le_of_ble_eq_true rfl, Nat.le_of_ble_eq_true rfl⟩ rfl hl.1 rfl (Nat.le_of_ble_eq_true rfl) dX3_addByte_13 ⟨Nat.le_of_ble_eq_true rfl, Nat.le_of_ble_eq_true rfl⟩ (fun H locs hG => ?_)
  refine lv_aload_n hx hb dX3_addByte_16 rfl (lv_at hl 0 rfl) ?_
  refine lv_dup hx hb dX3_addByte_17 rfl ?_
  obtain ⟨v18, e18, h⟩ := Option.bind_eq_some_iff.mp h
  refine g_geti hx hb hts inlX3 hown hK hG (by rfl) 1 (by decide) qF_X3_15 e18 dX3_addByte_18 ?_
  refine lv_iconst (v := (1 : Int32)) hx hb dX3_addByte_21 (by decide) ?_
  refine lv_iadd hx hb dX3_addByte_22 ?_
  obtain ⟨G23, i23, h⟩ := Option.bind_eq_some_iff.mp h
  refine g_putv hx hb hts inlX3 tyX3 tyX3_ok nmX3 hown hK hG (by rfl) 1 (by decide) qF_X3_15 rfl rfl rfl rfl i23 dX3_addByte_23 (fun H locs hG => ?_)
  obtain rfl := Option.some.inj h
  exact g_vret hx hb hr hlocks hK hlo hG rfl dX3_addByte_26
def f_X3_byteAt (G : gH) (a0 : Nat) (x1 : Int32) : Option Int32 :=
    (g_r G a0 3 0).bind fun v1 =>
    (f_X9_at G v1 x1 (-1 : Int32)).bind fun v6 =>
    some v6
set_option maxRecDepth 20000 in
set_option maxHeartbeats 4000000 in
theorem m_X3_byteAt (l : Launch) (dd : va_G) (cT : Nat → ClassId) (lo : Nat) (G : gH) (a0 : Nat) (x1 : Int32) {rz : Int32} (h : f_X3_byteAt G a0 x1 = some rz) : Met l yX3_byteAt (Cond.code yX3_byteAt cX3_byteAt 2 (some .int) :: wsL_law) (g_rm 1 22 0 0) (va_Pc [.ref a0, .int x1] (g_Pre lo dd cT G)) (va_Qi (g_is rz G) (g_Pre lo dd cT) (g_A lo)) 0 0 (g_A lo) := by
  refine g_start RX3 rfl (by decide) (Nat.le_of_ble_eq_true rfl) ?_
  intro p e s m below meth c hx hb hr hlocks hml hown hnm hts hK hG hlo ls hl
  have hl : lv_has ls 2 [(0, .ref a0), (1, .int x1)] := hl
  have hG : g_S lo dd cT s s.heap [] G := hG
  unfold f_X3_byteAt at h
  refine lv_aload_n hx hb dX3_byteAt_0 rfl (lv_at hl 0 rfl) ?_
  obtain ⟨v1, e1, h⟩ := Option.bind_eq_some_iff.mp h
  refine g_getr hx hb hts inlX3 hown hK hG (by rfl) 0 (by decide) qF_X3_9 e1 dX3_byteAt_1 ?_
  refine lv_iload_n hx hb dX3_byteAt_4 rfl (lv_at hl 1 rfl) ?_
  refine lv_iconst (v := (-1 : Int32)) hx hb dX3_byteAt_5 (by decide) ?_
  obtain ⟨v6, e6, h⟩ := Option.bind_eq_some_iff.mp h
  refine g_cNi (As := [.ref v1, .int x1, .int (-1 : Int32)]) (rest := []) (n := 3) hx hb hml hown hts hK hlo hG (m_X9_at l dd cT lo G v1 x1 (-1 : Int32) e6) (List.mem_of_getElem? (i := 27) rfl) qT_yX9_at qN_X9 qC_yX9_at (by decide +kernel) ⟨Nat.le_of_ble_eq_true rfl, Nat.le_of_ble_eq_true rfl⟩ rfl hl.1 rfl (Nat.le_of_ble_eq_true rfl) dX3_byteAt_6 ⟨Nat.le_of_ble_eq_true rfl, Nat.le_of_ble_eq_true rfl⟩ (fun H locs hG => ?_)
  obtain rfl := Option.some.inj h
  exact g_iret hx hb hr hlocks hK hlo hG ⟨rfl, rfl⟩ dX3_byteAt_9
def f_X3_kindAt_J29 (G : gH) (bx2 : Int32) : Option Int32 :=
    if bx2 = (32 : Int32) then
    some (0 : Int32)
    else
    if bx2 = (10 : Int32) then
    some (0 : Int32)
    else
    if bx2 = (59 : Int32) then
    some (3 : Int32)
    else
    some (4 : Int32)
def f_X3_kindAt (G : gH) (a0 : Nat) (x1 : Int32) : Option Int32 :=
    (g_ob G a0 3).bind fun u2 =>
    (f_X3_byteAt G a0 x1).bind fun v2 =>
    (f_X9_isLetter G v2).bind fun v7 =>
    if v7 = 0 then
    if v2 < (48 : Int32) then
    f_X3_kindAt_J29 G v2
    else
    if (57 : Int32) < v2 then
    f_X3_kindAt_J29 G v2
    else
    some (2 : Int32)
    else
    some (1 : Int32)
set_option maxRecDepth 20000 in
set_option maxHeartbeats 4000000 in
theorem m_X3_kindAt (l : Launch) (dd : va_G) (cT : Nat → ClassId) (lo : Nat) (G : gH) (a0 : Nat) (x1 : Int32) {rz : Int32} (h : f_X3_kindAt G a0 x1 = some rz) : Met l yX3_kindAt (Cond.code yX3_kindAt cX3_kindAt 3 (some .int) :: wsL_law) (g_rm 2 43 0 0) (va_Pc [.ref a0, .int x1] (g_Pre lo dd cT G)) (va_Qi (g_is rz G) (g_Pre lo dd cT) (g_A lo)) 0 0 (g_A lo) := by
  refine g_start RX3 rfl (by decide) (Nat.le_of_ble_eq_true rfl) ?_
  intro p e s m below meth c hx hb hr hlocks hml hown hnm hts hK hG hlo ls hl
  have hl : lv_has ls 3 [(0, .ref a0), (1, .int x1)] := hl
  have hG : g_S lo dd cT s s.heap [] G := hG
  have h29 : ∀ (bx2 : Int32), ∀ (H : Heap) (locs : List Loc), g_S lo dd cT s H locs G → ∀ ls : Array Slot, lv_has ls 3 [(2, .int bx2)] → f_X3_kindAt_J29 G bx2 = some rz → W p l e (g_rm 2 43 0 0) s m ([.ref a0, .int x1] : List Value).toArray below meth c H locs 0 0 (MQ below (va_Qi (g_is rz G) (g_Pre lo dd cT) (g_A lo)) ([.ref a0, .int x1] : List Value).toArray s 0 0 (g_A lo)) (F0 m 29 ls []) := by
    intro bx2 H locs hG ls hl h
    unfold f_X3_kindAt_J29 at h
    refine lv_iload_n hx hb dX3_kindAt_29 rfl (lv_at hl 0 rfl) ?_
    refine lv_bipush (v := (32 : Int32)) hx hb dX3_kindAt_30 (by decide) ?_
    refine lv_icmp_eq (tgt := 41) hx hb dX3_kindAt_32 (by decide) (fun c32 => ?_) (fun c32 => ?_)
    · rw [if_pos c32] at h
      refine lv_iconst (v := (0 : Int32)) hx hb dX3_kindAt_41 (by decide) ?_
      obtain rfl := Option.some.inj h
      exact g_iret hx hb hr hlocks hK hlo hG ⟨rfl, rfl⟩ dX3_kindAt_42
    · rw [if_neg c32] at h
      refine lv_iload_n hx hb dX3_kindAt_35 rfl (lv_at hl 0 rfl) ?_
      refine lv_bipush (v := (10 : Int32)) hx hb dX3_kindAt_36 (by decide) ?_
      refine lv_icmp_ne (tgt := 43) hx hb dX3_kindAt_38 (by decide) (fun c38 => ?_) (fun c38 => ?_)
      · rw [if_neg c38] at h
        refine lv_iload_n hx hb dX3_kindAt_43 rfl (lv_at hl 0 rfl) ?_
        refine lv_bipush (v := (59 : Int32)) hx hb dX3_kindAt_44 (by decide) ?_
        refine lv_icmp_ne (tgt := 53) hx hb dX3_kindAt_46 (by decide) (fun c46 => ?_) (fun c46 => ?_)
        · rw [if_neg c46] at h
          refine lv_iconst (v := (4 : Int32)) hx hb dX3_kindAt_53 (by decide) ?_
          obtain rfl := Option.some.inj h
          exact g_iret hx hb hr hlocks hK hlo hG ⟨rfl, rfl⟩ dX3_kindAt_54
        · rw [if_pos c46] at h
          refine lv_iconst (v := (3 : Int32)) hx hb dX3_kindAt_49 (by decide) ?_
          refine lv_goto (tgt := 54) hx hb dX3_kindAt_50 (by decide) ?_
          obtain rfl := Option.some.inj h
          exact g_iret hx hb hr hlocks hK hlo hG ⟨rfl, rfl⟩ dX3_kindAt_54
      · rw [if_pos c38] at h
        refine lv_iconst (v := (0 : Int32)) hx hb dX3_kindAt_41 (by decide) ?_
        obtain rfl := Option.some.inj h
        exact g_iret hx hb hr hlocks hK hlo hG ⟨rfl, rfl⟩ dX3_kindAt_42
  unfold f_X3_kindAt at h
  refine lv_aload_n hx hb dX3_kindAt_0 rfl (lv_at hl 0 rfl) ?_
  refine lv_iload_n hx hb dX3_kindAt_1 rfl (lv_at hl 1 rfl) ?_
  obtain ⟨u2, i2, h⟩ := Option.bind_eq_some_iff.mp h
  obtain ⟨v2, e2, h⟩ := Option.bind_eq_some_iff.mp h
  refine g_cVi (As := [.int x1]) (rest := []) (n := 1) hx hb hml hown hts hK hlo hG (m_X3_byteAt l dd cT lo G a0 x1 e2) qM_X3_31 qI_yX3_byteAt qS_X3_yX3_byteAt qN_X3 qC_yX3_byteAt (by decide +kernel) ⟨Nat.le_of_ble_eq_true rfl, Nat.le_of_ble_eq_true rfl⟩ (by rfl) i2 rfl hl.1 rfl (Nat.le_of_ble_eq_true rfl) dX3_kindAt_2 ⟨Nat.le_of_ble_eq_true rfl, Nat.le_of_ble_eq_true rfl⟩ (fun H locs hG => ?_)
  refine lv_istore_n (lv' := [(2, .int v2), (0, .ref a0), (1, .int x1)]) hx hb dX3_kindAt_5 rfl hl (by decide) rfl (fun ls hl => ?_)
  refine lv_iload_n hx hb dX3_kindAt_6 rfl (lv_at hl 0 rfl) ?_
  obtain ⟨v7, e7, h⟩ := Option.bind_eq_some_iff.mp h
  refine g_cNi (As := [.int v2]) (rest := []) (n := 1) hx hb hml hown hts hK hlo hG (m_X9_isLetter l dd cT lo G v2 e7) (List.mem_of_getElem? (i := 28) rfl) qT_yX9_isLetter qN_X9 qC_yX9_isLetter (by decide +kernel) ⟨Nat.le_of_ble_eq_true rfl, Nat.le_of_ble_eq_true rfl⟩ rfl hl.1 rfl (Nat.le_of_ble_eq_true rfl) dX3_kindAt_7 ⟨Nat.le_of_ble_eq_true rfl, Nat.le_of_ble_eq_true rfl⟩ (fun H locs hG => ?_)
  refine lv_if_eq (tgt := 15) hx hb dX3_kindAt_10 (by decide) (fun c10 => ?_) (fun c10 => ?_)
  · rw [if_pos c10] at h
    refine lv_iload_n hx hb dX3_kindAt_15 rfl (lv_at hl 0 rfl) ?_
    refine lv_bipush (v := (48 : Int32)) hx hb dX3_kindAt_16 (by decide) ?_
    refine lv_icmp_lt (tgt := 29) hx hb dX3_kindAt_18 (by decide) (fun c18 => ?_) (fun c18 => ?_)
    · rw [if_pos c18] at h
      exact h29 v2 _ _ hG _ (lv_sub hl [0] rfl) h
    · rw [if_neg c18] at h
      refine lv_iload_n hx hb dX3_kindAt_21 rfl (lv_at hl 0 rfl) ?_
      refine lv_bipush (v := (57 : Int32)) hx hb dX3_kindAt_22 (by decide) ?_
      refine lv_icmp_gt (tgt := 29) hx hb dX3_kindAt_24 (by decide) (fun c24 => ?_) (fun c24 => ?_)
      · rw [if_pos c24] at h
        exact h29 v2 _ _ hG _ (lv_sub hl [0] rfl) h
      · rw [if_neg c24] at h
        refine lv_iconst (v := (2 : Int32)) hx hb dX3_kindAt_27 (by decide) ?_
        obtain rfl := Option.some.inj h
        exact g_iret hx hb hr hlocks hK hlo hG ⟨rfl, rfl⟩ dX3_kindAt_28
  · rw [if_neg c10] at h
    refine lv_iconst (v := (1 : Int32)) hx hb dX3_kindAt_13 (by decide) ?_
    obtain rfl := Option.some.inj h
    exact g_iret hx hb hr hlocks hK hlo hG ⟨rfl, rfl⟩ dX3_kindAt_14
def f_X3_nameAlone_J51 (G : gH) (k7 : Nat → Int32 → Int64 → Int32 → Option Int64) (ba0 : Nat) (bx1 : Int32) (bx2 : Int64) (bx4 : Int32) (bx5 : Int32) : Option Int64 :=
    if bx5 = (32 : Int32) then
    k7 ba0 bx1 bx2 (bx4 + (1 : Int32))
    else
    some (-1 : Int64)
def f_X3_nameAlone_L7 (G : gH) : Nat → Nat → Int32 → Int64 → Int32 → Option Int64
  | 0, _, _, _, _ => none
  | n + 1, ba0, bx1, bx2, bx4 =>
    (g_i G ba0 3 1).bind fun v10 =>
    if v10 ≤ bx4 then
    if bx1 < (1 : Int32) then
    some (-1 : Int64)
    else
    if (8 : Int32) < bx1 then
    some (-1 : Int64)
    else
    some bx2
    else
    (g_ob G ba0 3).bind fun u19 =>
    (f_X3_byteAt G ba0 bx4).bind fun v19 =>
    (f_X9_isLetter G v19).bind fun v26 =>
    if v26 = 0 then
    f_X3_nameAlone_J51 G (f_X3_nameAlone_L7 G n) ba0 bx1 bx2 bx4 v19
    else
    if bx1 = bx4 then
    (f_X9_withLetter G bx2 v19).bind fun v44 =>
    f_X3_nameAlone_L7 G n ba0 (bx1 + (1 : Int32)) v44 (bx4 + (1 : Int32))
    else
    f_X3_nameAlone_J51 G (f_X3_nameAlone_L7 G n) ba0 bx1 bx2 bx4 v19
def f_X3_nameAlone (G : gH) (a0 : Nat) : Option Int64 :=
    f_X3_nameAlone_L7 G g_N a0 (0 : Int32) (0 : Int64) (0 : Int32)
set_option maxRecDepth 20000 in
set_option maxHeartbeats 4000000 in
theorem m_X3_nameAlone (l : Launch) (dd : va_G) (cT : Nat → ClassId) (lo : Nat) (G : gH) (a0 : Nat) {rz : Int64} (h : f_X3_nameAlone G a0 = some rz) : Met l yX3_nameAlone (Cond.code yX3_nameAlone cX3_nameAlone 6 (some .long) :: wsL_law) (g_rm 2 43 0 0) (va_Pc [.ref a0] (g_Pre lo dd cT G)) (va_Ql (g_is rz G) (g_Pre lo dd cT) (g_A lo)) 0 0 (g_A lo) := by
  refine g_start RX3 rfl (by decide) (Nat.le_of_ble_eq_true rfl) ?_
  intro p e s m below meth c hx hb hr hlocks hml hown hnm hts hK hG hlo ls hl
  have hl : lv_has ls 6 [(0, .ref a0)] := hl
  have hG : g_S lo dd cT s s.heap [] G := hG
  have h7 : ∀ n : Nat, ∀ (ba0 : Nat) (bx1 : Int32) (bx2 : Int64) (bx4 : Int32), ∀ (H : Heap) (locs : List Loc), g_S lo dd cT s H locs G → ∀ ls : Array Slot, lv_has ls 6 [(0, .ref ba0), (1, .int bx1), (2, .long bx2), (4, .int bx4)] → f_X3_nameAlone_L7 G n ba0 bx1 bx2 bx4 = some rz → W p l e (g_rm 2 43 0 0) s m ([.ref a0] : List Value).toArray below meth c H locs 0 0 (MQ below (va_Ql (g_is rz G) (g_Pre lo dd cT) (g_A lo)) ([.ref a0] : List Value).toArray s 0 0 (g_A lo)) (F0 m 7 ls []) := by
    intro n
    induction n with
    | zero =>
      intro ba0 bx1 bx2 bx4 H locs hG ls hl h
      cases (show (none : Option Int64) = some rz from h)
    | succ n ih =>
      intro ba0 bx1 bx2 bx4 H locs hG ls hl h
      rw [f_X3_nameAlone_L7] at h
      have h51 : ∀ (ba0 : Nat) (bx1 : Int32) (bx2 : Int64) (bx4 : Int32) (bx5 : Int32), ∀ (H : Heap) (locs : List Loc), g_S lo dd cT s H locs G → ∀ ls : Array Slot, lv_has ls 6 [(0, .ref ba0), (1, .int bx1), (2, .long bx2), (4, .int bx4), (5, .int bx5)] → f_X3_nameAlone_J51 G (f_X3_nameAlone_L7 G n) ba0 bx1 bx2 bx4 bx5 = some rz → W p l e (g_rm 2 43 0 0) s m ([.ref a0] : List Value).toArray below meth c H locs 0 0 (MQ below (va_Ql (g_is rz G) (g_Pre lo dd cT) (g_A lo)) ([.ref a0] : List Value).toArray s 0 0 (g_A lo)) (F0 m 51 ls []) := by
        intro ba0 bx1 bx2 bx4 bx5 H locs hG ls hl h
        unfold f_X3_nameAlone_J51 at h
        refine lv_iload hx hb dX3_nameAlone_51 (lv_at hl 4 rfl) ?_
        refine lv_bipush (v := (32 : Int32)) hx hb dX3_nameAlone_53 (by decide) ?_
        refine lv_icmp_eq (tgt := 62) hx hb dX3_nameAlone_55 (by decide) (fun c55 => ?_) (fun c55 => ?_)
        · rw [if_pos c55] at h
          refine lv_iinc (v := (bx4 + (1 : Int32))) (lv' := [(4, .int (bx4 + (1 : Int32))), (0, .ref ba0), (1, .int bx1), (2, .long bx2), (5, .int bx5)]) hx hb dX3_nameAlone_62 hl (k := 3) rfl rfl (by decide) rfl (fun ls hl => ?_)
          refine lv_goto (tgt := 7) hx hb dX3_nameAlone_65 (by decide) ?_
          exact ih ba0 bx1 bx2 (bx4 + (1 : Int32)) _ _ hG _ (lv_sub hl [1, 2, 3, 0] rfl) h
        · rw [if_neg c55] at h
          refine lv_ldc2 hx hb hown (hts _ qJ_X3_43) dX3_nameAlone_58 ?_
          obtain rfl := Option.some.inj h
          exact g_jret hx hb hr hlocks hK hlo hG ⟨rfl, rfl⟩ dX3_nameAlone_61
      refine lv_iload hx hb dX3_nameAlone_7 (lv_at hl 3 rfl) ?_
      refine lv_aload_n hx hb dX3_nameAlone_9 rfl (lv_at hl 0 rfl) ?_
      obtain ⟨v10, e10, h⟩ := Option.bind_eq_some_iff.mp h
      refine g_geti hx hb hts inlX3 hown hK hG (by rfl) 1 (by decide) qF_X3_15 e10 dX3_nameAlone_10 ?_
      refine lv_icmp_ge (tgt := 68) hx hb dX3_nameAlone_13 (by decide) (fun c13 => ?_) (fun c13 => ?_)
      · rw [if_pos c13] at h
        refine lv_iload_n hx hb dX3_nameAlone_68 rfl (lv_at hl 1 rfl) ?_
        refine lv_iconst (v := (1 : Int32)) hx hb dX3_nameAlone_69 (by decide) ?_
        refine lv_icmp_lt (tgt := 83) hx hb dX3_nameAlone_70 (by decide) (fun c70 => ?_) (fun c70 => ?_)
        · rw [if_pos c70] at h
          refine lv_ldc2 hx hb hown (hts _ qJ_X3_43) dX3_nameAlone_83 ?_
          obtain rfl := Option.some.inj h
          exact g_jret hx hb hr hlocks hK hlo hG ⟨rfl, rfl⟩ dX3_nameAlone_86
        · rw [if_neg c70] at h
          refine lv_iload_n hx hb dX3_nameAlone_73 rfl (lv_at hl 1 rfl) ?_
          refine lv_bipush (v := (8 : Int32)) hx hb dX3_nameAlone_74 (by decide) ?_
          refine lv_icmp_gt (tgt := 83) hx hb dX3_nameAlone_76 (by decide) (fun c76 => ?_) (fun c76 => ?_)
          · rw [if_pos c76] at h
            refine lv_ldc2 hx hb hown (hts _ qJ_X3_43) dX3_nameAlone_83 ?_
            obtain rfl := Option.some.inj h
            exact g_jret hx hb hr hlocks hK hlo hG ⟨rfl, rfl⟩ dX3_nameAlone_86
          · rw [if_neg c76] at h
            refine lv_lload_n hx hb dX3_nameAlone_79 rfl (lv_at hl 2 rfl) ?_
            refine lv_goto (tgt := 86) hx hb dX3_nameAlone_80 (by decide) ?_
            obtain rfl := Option.some.inj h
            exact g_jret hx hb hr hlocks hK hlo hG ⟨rfl, rfl⟩ dX3_nameAlone_86
      · rw [if_neg c13] at h
        refine lv_aload_n hx hb dX3_nameAlone_16 rfl (lv_at hl 0 rfl) ?_
        refine lv_iload hx hb dX3_nameAlone_17 (lv_at hl 3 rfl) ?_
        obtain ⟨u19, i19, h⟩ := Option.bind_eq_some_iff.mp h
        obtain ⟨v19, e19, h⟩ := Option.bind_eq_some_iff.mp h
        refine g_cVi (As := [.int bx4]) (rest := []) (n := 1) hx hb hml hown hts hK hlo hG (m_X3_byteAt l dd cT lo G ba0 bx4 e19) qM_X3_31 qI_yX3_byteAt qS_X3_yX3_byteAt qN_X3 qC_yX3_byteAt (by decide +kernel) ⟨Nat.le_of_ble_eq_true rfl, Nat.le_of_ble_eq_true rfl⟩ (by rfl) i19 rfl hl.1 rfl (Nat.le_of_ble_eq_true rfl) dX3_nameAlone_19 ⟨Nat.le_of_ble_eq_true rfl, Nat.le_of_ble_eq_true rfl⟩ (fun H locs hG => ?_)
        refine lv_istore (lv' := [(5, .int v19), (0, .ref ba0), (1, .int bx1), (2, .long bx2), (4, .int bx4)]) hx hb dX3_nameAlone_22 hl (by decide) rfl (fun ls hl => ?_)
        refine lv_iload hx hb dX3_nameAlone_24 (lv_at hl 0 rfl) ?_
        obtain ⟨v26, e26, h⟩ := Option.bind_eq_some_iff.mp h
        refine g_cNi (As := [.int v19]) (rest := []) (n := 1) hx hb hml hown hts hK hlo hG (m_X9_isLetter l dd cT lo G v19 e26) (List.mem_of_getElem? (i := 28) rfl) qT_yX9_isLetter qN_X9 qC_yX9_isLetter (by decide +kernel) ⟨Nat.le_of_ble_eq_true rfl, Nat.le_of_ble_eq_true rfl⟩ rfl hl.1 rfl (Nat.le_of_ble_eq_true rfl) dX3_nameAlone_26 ⟨Nat.le_of_ble_eq_true rfl, Nat.le_of_ble_eq_true rfl⟩ (fun H locs hG => ?_)
        refine lv_if_eq (tgt := 51) hx hb dX3_nameAlone_29 (by decide) (fun c29 => ?_) (fun c29 => ?_)
        · rw [if_pos c29] at h
          exact h51 ba0 bx1 bx2 bx4 v19 _ _ hG _ (lv_sub hl [1, 2, 3, 4, 0] rfl) h
        · rw [if_neg c29] at h
          refine lv_iload_n hx hb dX3_nameAlone_32 rfl (lv_at hl 2 rfl) ?_
          refine lv_iload hx hb dX3_nameAlone_33 (lv_at hl 4 rfl) ?_
          refine lv_icmp_ne (tgt := 51) hx hb dX3_nameAlone_35 (by decide) (fun c35 => ?_) (fun c35 => ?_)
          · rw [if_neg c35] at h
            exact h51 ba0 bx1 bx2 bx4 v19 _ _ hG _ (lv_sub hl [1, 2, 3, 4, 0] rfl) h
          · rw [if_pos c35] at h
            refine lv_iinc (v := (bx1 + (1 : Int32))) (lv' := [(1, .int (bx1 + (1 : Int32))), (5, .int v19), (0, .ref ba0), (2, .long bx2), (4, .int bx4)]) hx hb dX3_nameAlone_38 hl (k := 2) rfl rfl (by decide) rfl (fun ls hl => ?_)
            refine lv_lload_n hx hb dX3_nameAlone_41 rfl (lv_at hl 3 rfl) ?_
            refine lv_iload hx hb dX3_nameAlone_42 (lv_at hl 1 rfl) ?_
            obtain ⟨v44, e44, h⟩ := Option.bind_eq_some_iff.mp h
            refine g_cNj (As := [.long bx2, .int v19]) (rest := []) (n := 2) hx hb hml hown hts hK hlo hG (m_X9_withLetter l dd cT lo G bx2 v19 e44) (List.mem_of_getElem? (i := 29) rfl) qT_yX9_withLetter qN_X9 qC_yX9_withLetter (by decide +kernel) ⟨Nat.le_of_ble_eq_true rfl, Nat.le_of_ble_eq_true rfl⟩ rfl hl.1 rfl (Nat.le_of_ble_eq_true rfl) dX3_nameAlone_44 ⟨Nat.le_of_ble_eq_true rfl, Nat.le_of_ble_eq_true rfl⟩ (fun H locs hG => ?_)
            refine lv_lstore_n (lv' := [(2, .long v44), (1, .int (bx1 + (1 : Int32))), (5, .int v19), (0, .ref ba0), (4, .int bx4)]) hx hb dX3_nameAlone_47 rfl hl (by decide) rfl (fun ls hl => ?_)
            refine lv_goto (tgt := 62) hx hb dX3_nameAlone_48 (by decide) ?_
            refine lv_iinc (v := (bx4 + (1 : Int32))) (lv' := [(4, .int (bx4 + (1 : Int32))), (2, .long v44), (1, .int (bx1 + (1 : Int32))), (5, .int v19), (0, .ref ba0)]) hx hb dX3_nameAlone_62 hl (k := 4) rfl rfl (by decide) rfl (fun ls hl => ?_)
            refine lv_goto (tgt := 7) hx hb dX3_nameAlone_65 (by decide) ?_
            exact ih ba0 (bx1 + (1 : Int32)) v44 (bx4 + (1 : Int32)) _ _ hG _ (lv_sub hl [4, 2, 1, 0] rfl) h
  unfold f_X3_nameAlone at h
  refine lv_iconst (v := (0 : Int32)) hx hb dX3_nameAlone_0 (by decide) ?_
  refine lv_istore_n (lv' := [(1, .int (0 : Int32)), (0, .ref a0)]) hx hb dX3_nameAlone_1 rfl hl (by decide) rfl (fun ls hl => ?_)
  refine lv_lconst (v := (0 : Int64)) hx hb dX3_nameAlone_2 (by decide) ?_
  refine lv_lstore_n (lv' := [(2, .long (0 : Int64)), (1, .int (0 : Int32)), (0, .ref a0)]) hx hb dX3_nameAlone_3 rfl hl (by decide) rfl (fun ls hl => ?_)
  refine lv_iconst (v := (0 : Int32)) hx hb dX3_nameAlone_4 (by decide) ?_
  refine lv_istore (lv' := [(4, .int (0 : Int32)), (2, .long (0 : Int64)), (1, .int (0 : Int32)), (0, .ref a0)]) hx hb dX3_nameAlone_5 hl (by decide) rfl (fun ls hl => ?_)
  exact h7 g_N a0 (0 : Int32) (0 : Int64) (0 : Int32) _ _ hG _ (lv_sub hl [3, 2, 1, 0] rfl) h
def f_X4_refuseStatement (G : gH) (a0 : Nat) (x1 : Int32) : Option gH :=
    (g_put G a0 4 0 (.int (6 : Int32))).bind fun G3 =>
    (g_r G3 a0 4 8).bind fun v8 =>
    (f_X9_at G3 v8 x1 (-1 : Int32)).bind fun v13 =>
    (g_put G3 a0 4 1 (.int v13)).bind fun G16 =>
    some G16
set_option maxRecDepth 20000 in
set_option maxHeartbeats 4000000 in
theorem m_X4_refuseStatement (l : Launch) (dd : va_G) (cT : Nat → ClassId) (lo : Nat) (G : gH) (a0 : Nat) (x1 : Int32) {Gz : gH} (h : f_X4_refuseStatement G a0 x1 = some Gz) : Met l yX4_refuseStatement (Cond.code yX4_refuseStatement cX4_refuseStatement 2 none :: wsL_law) (g_rm 1 22 0 0) (va_Pc [.ref a0, .int x1] (g_Pre lo dd cT G)) (va_Qv (g_iv Gz) (g_Pre lo dd cT) (g_A lo)) 0 0 (g_A lo) := by
  refine g_start RX4 rfl (by decide) (Nat.le_of_ble_eq_true rfl) ?_
  intro p e s m below meth c hx hb hr hlocks hml hown hnm hts hK hG hlo ls hl
  have hl : lv_has ls 2 [(0, .ref a0), (1, .int x1)] := hl
  have hG : g_S lo dd cT s s.heap [] G := hG
  unfold f_X4_refuseStatement at h
  refine lv_aload_n hx hb dX4_refuseStatement_0 rfl (lv_at hl 0 rfl) ?_
  refine lv_bipush (v := (6 : Int32)) hx hb dX4_refuseStatement_1 (by decide) ?_
  obtain ⟨G3, i3, h⟩ := Option.bind_eq_some_iff.mp h
  refine g_putv hx hb hts inlX4 tyX4 tyX4_ok nmX4 hown hK hG (by rfl) 0 (by decide) qF_X4_9 rfl rfl rfl rfl i3 dX4_refuseStatement_3 (fun H locs hG => ?_)
  refine lv_aload_n hx hb dX4_refuseStatement_6 rfl (lv_at hl 0 rfl) ?_
  refine lv_aload_n hx hb dX4_refuseStatement_7 rfl (lv_at hl 0 rfl) ?_
  obtain ⟨v8, e8, h⟩ := Option.bind_eq_some_iff.mp h
  refine g_getr hx hb hts inlX4 hown hK hG (by rfl) 8 (by decide) qF_X4_38 e8 dX4_refuseStatement_8 ?_
  refine lv_iload_n hx hb dX4_refuseStatement_11 rfl (lv_at hl 1 rfl) ?_
  refine lv_iconst (v := (-1 : Int32)) hx hb dX4_refuseStatement_12 (by decide) ?_
  obtain ⟨v13, e13, h⟩ := Option.bind_eq_some_iff.mp h
  refine g_cNi (As := [.ref v8, .int x1, .int (-1 : Int32)]) (rest := [.ref a0]) (n := 3) hx hb hml hown hts hK hlo hG (m_X9_at l dd cT lo G3 v8 x1 (-1 : Int32) e13) (List.mem_of_getElem? (i := 41) rfl) qT_yX9_at qN_X9 qC_yX9_at (by decide +kernel) ⟨Nat.le_of_ble_eq_true rfl, Nat.le_of_ble_eq_true rfl⟩ rfl hl.1 rfl (Nat.le_of_ble_eq_true rfl) dX4_refuseStatement_13 ⟨Nat.le_of_ble_eq_true rfl, Nat.le_of_ble_eq_true rfl⟩ (fun H locs hG => ?_)
  obtain ⟨G16, i16, h⟩ := Option.bind_eq_some_iff.mp h
  refine g_putv hx hb hts inlX4 tyX4 tyX4_ok nmX4 hown hK hG (by rfl) 1 (by decide) qF_X4_15 rfl rfl rfl rfl i16 dX4_refuseStatement_16 (fun H locs hG => ?_)
  obtain rfl := Option.some.inj h
  exact g_vret hx hb hr hlocks hK hlo hG rfl dX4_refuseStatement_19
def f_X4_kindOf (G : gH) (a0 : Nat) (x1 : Int32) : Option Int32 :=
    (g_r G a0 4 7).bind fun v1 =>
    (f_X9_at G v1 x1 (-1 : Int32)).bind fun v6 =>
    some v6
set_option maxRecDepth 20000 in
set_option maxHeartbeats 4000000 in
theorem m_X4_kindOf (l : Launch) (dd : va_G) (cT : Nat → ClassId) (lo : Nat) (G : gH) (a0 : Nat) (x1 : Int32) {rz : Int32} (h : f_X4_kindOf G a0 x1 = some rz) : Met l yX4_kindOf (Cond.code yX4_kindOf cX4_kindOf 2 (some .int) :: wsL_law) (g_rm 1 22 0 0) (va_Pc [.ref a0, .int x1] (g_Pre lo dd cT G)) (va_Qi (g_is rz G) (g_Pre lo dd cT) (g_A lo)) 0 0 (g_A lo) := by
  refine g_start RX4 rfl (by decide) (Nat.le_of_ble_eq_true rfl) ?_
  intro p e s m below meth c hx hb hr hlocks hml hown hnm hts hK hG hlo ls hl
  have hl : lv_has ls 2 [(0, .ref a0), (1, .int x1)] := hl
  have hG : g_S lo dd cT s s.heap [] G := hG
  unfold f_X4_kindOf at h
  refine lv_aload_n hx hb dX4_kindOf_0 rfl (lv_at hl 0 rfl) ?_
  obtain ⟨v1, e1, h⟩ := Option.bind_eq_some_iff.mp h
  refine g_getr hx hb hts inlX4 hown hK hG (by rfl) 7 (by decide) qF_X4_34 e1 dX4_kindOf_1 ?_
  refine lv_iload_n hx hb dX4_kindOf_4 rfl (lv_at hl 1 rfl) ?_
  refine lv_iconst (v := (-1 : Int32)) hx hb dX4_kindOf_5 (by decide) ?_
  obtain ⟨v6, e6, h⟩ := Option.bind_eq_some_iff.mp h
  refine g_cNi (As := [.ref v1, .int x1, .int (-1 : Int32)]) (rest := []) (n := 3) hx hb hml hown hts hK hlo hG (m_X9_at l dd cT lo G v1 x1 (-1 : Int32) e6) (List.mem_of_getElem? (i := 41) rfl) qT_yX9_at qN_X9 qC_yX9_at (by decide +kernel) ⟨Nat.le_of_ble_eq_true rfl, Nat.le_of_ble_eq_true rfl⟩ rfl hl.1 rfl (Nat.le_of_ble_eq_true rfl) dX4_kindOf_6 ⟨Nat.le_of_ble_eq_true rfl, Nat.le_of_ble_eq_true rfl⟩ (fun H locs hG => ?_)
  obtain rfl := Option.some.inj h
  exact g_iret hx hb hr hlocks hK hlo hG ⟨rfl, rfl⟩ dX4_kindOf_9

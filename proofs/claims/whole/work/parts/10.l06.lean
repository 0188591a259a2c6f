/-! Lifted methods, by program (wip/whole/tools/lift.py). -/
def f_X8_filesThereBefore_L5 (G : gH) : Nat → Nat → Nat → Int32 → Int32 → Int32 → Option Int32
  | 0, _, _, _, _, _ => none
  | n + 1, ba0, ba1, bx2, bx3, bx4 =>
    (g_i G ba0 8 0).bind fun v8 =>
    if v8 ≤ bx4 then
    some bx3
    else
    (g_r G ba1 1 2).bind fun v16 =>
    (g_ob G ba0 8).bind fun u22 =>
    (f_X8_sessionThatCounts G ba0 v16 bx4 bx2).bind fun v22 =>
    (g_r G ba1 1 2).bind fun v28 =>
    (g_ob G v28 5).bind fun u35 =>
    (f_X5_slotOfFile G v28 v22 bx4).bind fun v35 =>
    (g_r G ba1 1 2).bind fun v42 =>
    (g_ob G v42 5).bind fun u47 =>
    (f_X5_versionIn G v42 v35).bind fun v47 =>
    if v47 = (-1 : Int32) then
    (f_X9_oneIf G (0 : Int32)).bind fun v59 =>
    f_X8_filesThereBefore_L5 G n ba0 ba1 bx2 (bx3 + v59) (bx4 + (1 : Int32))
    else
    (f_X9_oneIf G (1 : Int32)).bind fun v59 =>
    f_X8_filesThereBefore_L5 G n ba0 ba1 bx2 (bx3 + v59) (bx4 + (1 : Int32))
def f_X8_filesThereBefore (G : gH) (a0 : Nat) (a1 : Nat) (x2 : Int32) : Option Int32 :=
    f_X8_filesThereBefore_L5 G g_N a0 a1 x2 (0 : Int32) (0 : Int32)
set_option maxRecDepth 20000 in
set_option maxHeartbeats 4000000 in
theorem m_X8_filesThereBefore (l : Launch) (dd : va_G) (cT : Nat → ClassId) (lo : Nat) (G : gH) (a0 : Nat) (a1 : Nat) (x2 : Int32) {rz : Int32} (h : f_X8_filesThereBefore G a0 a1 x2 = some rz) : Met l yX8_filesThereBefore (Cond.code yX8_filesThereBefore cX8_filesThereBefore 7 (some .int) :: wsL_law) (g_rm 5 112 0 0) (va_Pc [.ref a0, .ref a1, .int x2] (g_Pre lo dd cT G)) (va_Qi (g_is rz G) (g_Pre lo dd cT) (g_A lo)) 0 0 (g_A lo) := by
  refine g_start RX8 rfl (by decide) (Nat.le_of_ble_eq_true rfl) ?_
  intro p e s m below meth c hx hb hr hlocks hml hown hnm hts hK hG hlo ls hl
  have hl : lv_has ls 7 [(0, .ref a0), (1, .ref a1), (2, .int x2)] := hl
  have hG : g_S lo dd cT s s.heap [] G := hG
  have h5 : ∀ n : Nat, ∀ (ba0 : Nat) (ba1 : Nat) (bx2 : Int32) (bx3 : Int32) (bx4 : Int32), ∀ (H : Heap) (locs : List Loc), g_S lo dd cT s H locs G → ∀ ls : Array Slot, lv_has ls 7 [(0, .ref ba0), (1, .ref ba1), (2, .int bx2), (3, .int bx3), (4, .int bx4)] → f_X8_filesThereBefore_L5 G n ba0 ba1 bx2 bx3 bx4 = some rz → W p l e (g_rm 5 112 0 0) s m ([.ref a0, .ref a1, .int x2] : List Value).toArray below meth c H locs 0 0 (MQ below (va_Qi (g_is rz G) (g_Pre lo dd cT) (g_A lo)) ([.ref a0, .ref a1, .int x2] : List Value).toArray s 0 0 (g_A lo)) (F0 m 5 ls []) := by
    intro n
    induction n with
    | zero =>
      intro ba0 ba1 bx2 bx3 bx4 H locs hG ls hl h
      cases (show (none : Option Int32) = some rz from h)
    | succ n ih =>
      intro ba0 ba1 bx2 bx3 bx4 H locs hG ls hl h
      rw [f_X8_filesThereBefore_L5] at h
      refine lv_iload hx hb dX8_filesThereBefore_5 (lv_at hl 4 rfl) ?_
      refine lv_aload_n hx hb dX8_filesThereBefore_7 rfl (lv_at hl 0 rfl) ?_
      obtain ⟨v8, e8, h⟩ := Option.bind_eq_some_iff.mp h
      refine g_geti hx hb hts inlX8 hown hK hG (by rfl) 0 (by decide) qF_X8_9 e8 dX8_filesThereBefore_8 ?_
      refine lv_icmp_ge (tgt := 70) hx hb dX8_filesThereBefore_11 (by decide) (fun c11 => ?_) (fun c11 => ?_)
      · rw [if_pos c11] at h
        refine lv_iload_n hx hb dX8_filesThereBefore_70 rfl (lv_at hl 3 rfl) ?_
        obtain rfl := Option.some.inj h
        exact g_iret hx hb hr hlocks hK hlo hG ⟨rfl, rfl⟩ dX8_filesThereBefore_71
      · rw [if_neg c11] at h
        refine lv_aload_n hx hb dX8_filesThereBefore_14 rfl (lv_at hl 0 rfl) ?_
        refine lv_aload_n hx hb dX8_filesThereBefore_15 rfl (lv_at hl 1 rfl) ?_
        obtain ⟨v16, e16, h⟩ := Option.bind_eq_some_iff.mp h
        refine g_getr hx hb hts inlX1 hown hK hG (by rfl) 2 (by decide) qF_X8_36 e16 dX8_filesThereBefore_16 ?_
        refine lv_iload hx hb dX8_filesThereBefore_19 (lv_at hl 4 rfl) ?_
        refine lv_iload_n hx hb dX8_filesThereBefore_21 rfl (lv_at hl 2 rfl) ?_
        obtain ⟨u22, i22, h⟩ := Option.bind_eq_some_iff.mp h
        obtain ⟨v22, e22, h⟩ := Option.bind_eq_some_iff.mp h
        refine g_cVi (As := [.ref v16, .int bx4, .int bx2]) (rest := []) (n := 3) hx hb hml hown hts hK hlo hG (m_X8_sessionThatCounts l dd cT lo G ba0 v16 bx4 bx2 e22) qM_X8_44 qI_yX8_sessionThatCounts qS_X8_yX8_sessionThatCounts qN_X8 qC_yX8_sessionThatCounts (by decide +kernel) ⟨Nat.le_of_ble_eq_true rfl, Nat.le_of_ble_eq_true rfl⟩ (by rfl) i22 rfl hl.1 rfl (Nat.le_of_ble_eq_true rfl) dX8_filesThereBefore_22 ⟨Nat.le_of_ble_eq_true rfl, Nat.le_of_ble_eq_true rfl⟩ (fun H locs hG => ?_)
        refine lv_istore (lv' := [(5, .int v22), (0, .ref ba0), (1, .ref ba1), (2, .int bx2), (3, .int bx3), (4, .int bx4)]) hx hb dX8_filesThereBefore_25 hl (by decide) rfl (fun ls hl => ?_)
        refine lv_aload_n hx hb dX8_filesThereBefore_27 rfl (lv_at hl 2 rfl) ?_
        obtain ⟨v28, e28, h⟩ := Option.bind_eq_some_iff.mp h
        refine g_getr hx hb hts inlX1 hown hK hG (by rfl) 2 (by decide) qF_X8_36 e28 dX8_filesThereBefore_28 ?_
        refine lv_iload hx hb dX8_filesThereBefore_31 (lv_at hl 0 rfl) ?_
        refine lv_iload hx hb dX8_filesThereBefore_33 (lv_at hl 5 rfl) ?_
        obtain ⟨u35, i35, h⟩ := Option.bind_eq_some_iff.mp h
        obtain ⟨v35, e35, h⟩ := Option.bind_eq_some_iff.mp h
        refine g_cVi (As := [.int v22, .int bx4]) (rest := []) (n := 2) hx hb hml hown hts hK hlo hG (m_X5_slotOfFile l dd cT lo G v28 v22 bx4 e35) qM_X8_48 qI_yX5_slotOfFile qS_X5_yX5_slotOfFile qN_X5 qC_yX5_slotOfFile (by decide +kernel) ⟨Nat.le_of_ble_eq_true rfl, Nat.le_of_ble_eq_true rfl⟩ (by rfl) i35 rfl hl.1 rfl (Nat.le_of_ble_eq_true rfl) dX8_filesThereBefore_35 ⟨Nat.le_of_ble_eq_true rfl, Nat.le_of_ble_eq_true rfl⟩ (fun H locs hG => ?_)
        refine lv_istore (lv' := [(6, .int v35), (5, .int v22), (0, .ref ba0), (1, .ref ba1), (2, .int bx2), (3, .int bx3), (4, .int bx4)]) hx hb dX8_filesThereBefore_38 hl (by decide) rfl (fun ls hl => ?_)
        refine lv_iload_n hx hb dX8_filesThereBefore_40 rfl (lv_at hl 5 rfl) ?_
        refine lv_aload_n hx hb dX8_filesThereBefore_41 rfl (lv_at hl 3 rfl) ?_
        obtain ⟨v42, e42, h⟩ := Option.bind_eq_some_iff.mp h
        refine g_getr hx hb hts inlX1 hown hK hG (by rfl) 2 (by decide) qF_X8_36 e42 dX8_filesThereBefore_42 ?_
        refine lv_iload hx hb dX8_filesThereBefore_45 (lv_at hl 0 rfl) ?_
        obtain ⟨u47, i47, h⟩ := Option.bind_eq_some_iff.mp h
        obtain ⟨v47, e47, h⟩ := Option.bind_eq_some_iff.mp h
        refine g_cVi (As := [.int v35]) (rest := [.int bx3]) (n := 1) hx hb hml hown hts hK hlo hG (m_X5_versionIn l dd cT lo G v42 v35 e47) qM_X8_52 qI_yX5_versionIn qS_X5_yX5_versionIn qN_X5 qC_yX5_versionIn (by decide +kernel) ⟨Nat.le_of_ble_eq_true rfl, Nat.le_of_ble_eq_true rfl⟩ (by rfl) i47 rfl hl.1 rfl (Nat.le_of_ble_eq_true rfl) dX8_filesThereBefore_47 ⟨Nat.le_of_ble_eq_true rfl, Nat.le_of_ble_eq_true rfl⟩ (fun H locs hG => ?_)
        refine lv_iconst (v := (-1 : Int32)) hx hb dX8_filesThereBefore_50 (by decide) ?_
        refine lv_icmp_eq (tgt := 58) hx hb dX8_filesThereBefore_51 (by decide) (fun c51 => ?_) (fun c51 => ?_)
        · rw [if_pos c51] at h
          refine lv_iconst (v := (0 : Int32)) hx hb dX8_filesThereBefore_58 (by decide) ?_
          obtain ⟨v59, e59, h⟩ := Option.bind_eq_some_iff.mp h
          refine g_cNi (As := [.int (0 : Int32)]) (rest := [.int bx3]) (n := 1) hx hb hml hown hts hK hlo hG (m_X9_oneIf l dd cT lo G (0 : Int32) e59) (List.mem_of_getElem? (i := 45) rfl) qT_yX9_oneIf qN_X9 qC_yX9_oneIf (by decide +kernel) ⟨Nat.le_of_ble_eq_true rfl, Nat.le_of_ble_eq_true rfl⟩ rfl hl.1 rfl (Nat.le_of_ble_eq_true rfl) dX8_filesThereBefore_59 ⟨Nat.le_of_ble_eq_true rfl, Nat.le_of_ble_eq_true rfl⟩ (fun H locs hG => ?_)
          refine lv_iadd hx hb dX8_filesThereBefore_62 ?_
          refine lv_istore_n (lv' := [(3, .int (bx3 + v59)), (6, .int v35), (5, .int v22), (0, .ref ba0), (1, .ref ba1), (2, .int bx2), (4, .int bx4)]) hx hb dX8_filesThereBefore_63 rfl hl (by decide) rfl (fun ls hl => ?_)
          refine lv_iinc (v := (bx4 + (1 : Int32))) (lv' := [(4, .int (bx4 + (1 : Int32))), (3, .int (bx3 + v59)), (6, .int v35), (5, .int v22), (0, .ref ba0), (1, .ref ba1), (2, .int bx2)]) hx hb dX8_filesThereBefore_64 hl (k := 6) rfl rfl (by decide) rfl (fun ls hl => ?_)
          refine lv_goto (tgt := 5) hx hb dX8_filesThereBefore_67 (by decide) ?_
          exact ih ba0 ba1 bx2 (bx3 + v59) (bx4 + (1 : Int32)) _ _ hG _ (lv_sub hl [4, 5, 6, 1, 0] rfl) h
        · rw [if_neg c51] at h
          refine lv_iconst (v := (1 : Int32)) hx hb dX8_filesThereBefore_54 (by decide) ?_
          refine lv_goto (tgt := 59) hx hb dX8_filesThereBefore_55 (by decide) ?_
          obtain ⟨v59, e59, h⟩ := Option.bind_eq_some_iff.mp h
          refine g_cNi (As := [.int (1 : Int32)]) (rest := [.int bx3]) (n := 1) hx hb hml hown hts hK hlo hG (m_X9_oneIf l dd cT lo G (1 : Int32) e59) (List.mem_of_getElem? (i := 45) rfl) qT_yX9_oneIf qN_X9 qC_yX9_oneIf (by decide +kernel) ⟨Nat.le_of_ble_eq_true rfl, Nat.le_of_ble_eq_true rfl⟩ rfl hl.1 rfl (Nat.le_of_ble_eq_true rfl) dX8_filesThereBefore_59 ⟨Nat.le_of_ble_eq_true rfl, Nat.le_of_ble_eq_true rfl⟩ (fun H locs hG => ?_)
          refine lv_iadd hx hb dX8_filesThereBefore_62 ?_
          refine lv_istore_n (lv' := [(3, .int (bx3 + v59)), (6, .int v35), (5, .int v22), (0, .ref ba0), (1, .ref ba1), (2, .int bx2), (4, .int bx4)]) hx hb dX8_filesThereBefore_63 rfl hl (by decide) rfl (fun ls hl => ?_)
          refine lv_iinc (v := (bx4 + (1 : Int32))) (lv' := [(4, .int (bx4 + (1 : Int32))), (3, .int (bx3 + v59)), (6, .int v35), (5, .int v22), (0, .ref ba0), (1, .ref ba1), (2, .int bx2)]) hx hb dX8_filesThereBefore_64 hl (k := 6) rfl rfl (by decide) rfl (fun ls hl => ?_)
          refine lv_goto (tgt := 5) hx hb dX8_filesThereBefore_67 (by decide) ?_
          exact ih ba0 ba1 bx2 (bx3 + v59) (bx4 + (1 : Int32)) _ _ hG _ (lv_sub hl [4, 5, 6, 1, 0] rfl) h
  unfold f_X8_filesThereBefore at h
  refine lv_iconst (v := (0 : Int32)) hx hb dX8_filesThereBefore_0 (by decide) ?_
  refine lv_istore_n (lv' := [(3, .int (0 : Int32)), (0, .ref a0), (1, .ref a1), (2, .int x2)]) hx hb dX8_filesThereBefore_1 rfl hl (by decide) rfl (fun ls hl => ?_)
  refine lv_iconst (v := (0 : Int32)) hx hb dX8_filesThereBefore_2 (by decide) ?_
  refine lv_istore (lv' := [(4, .int (0 : Int32)), (3, .int (0 : Int32)), (0, .ref a0), (1, .ref a1), (2, .int x2)]) hx hb dX8_filesThereBefore_3 hl (by decide) rfl (fun ls hl => ?_)
  exact h5 g_N a0 a1 x2 (0 : Int32) (0 : Int32) _ _ hG _ (lv_sub hl [2, 3, 4, 1, 0] rfl) h
def f_X9_append (G : gH) (a0 : Nat) (x1 : Int32) (x2 : Int32) (x3 : Int32) (x4 : Int32) (x5 : Int32) : Option (gH × Int32) :=
    (g_r G a0 9 0).bind fun v1 =>
    (g_ob G v1 3).bind fun u6 =>
    (f_X3_hasRoom G v1 (20 : Int32)).bind fun v6 =>
    if v6 = 0 then
    some (G, (-1 : Int32))
    else
    (g_r G a0 9 0).bind fun v15 =>
    (g_ob G v15 3).bind fun u19 =>
    (f_X3_addBytes G v15 x1).bind fun G19 =>
    (g_r G19 a0 9 0).bind fun v23 =>
    (g_ob G19 v23 3).bind fun u27 =>
    (f_X3_addBytes G19 v23 x2).bind fun G27 =>
    (g_r G27 a0 9 0).bind fun v31 =>
    (g_ob G27 v31 3).bind fun u35 =>
    (f_X3_addBytes G27 v31 x3).bind fun G35 =>
    (g_r G35 a0 9 0).bind fun v39 =>
    (g_ob G35 v39 3).bind fun u44 =>
    (f_X3_addBytes G35 v39 x4).bind fun G44 =>
    (g_r G44 a0 9 0).bind fun v48 =>
    (g_ob G44 v48 3).bind fun u53 =>
    (f_X3_addBytes G44 v48 x5).bind fun G53 =>
    (g_r G53 a0 9 0).bind fun v57 =>
    (g_i G53 v57 3 1).bind fun v60 =>
    some (G53, v60)
set_option maxRecDepth 20000 in
set_option maxHeartbeats 4000000 in
theorem m_X9_append (l : Launch) (dd : va_G) (cT : Nat → ClassId) (lo : Nat) (G : gH) (a0 : Nat) (x1 : Int32) (x2 : Int32) (x3 : Int32) (x4 : Int32) (x5 : Int32) {rz : Int32} {Gz : gH} (h : f_X9_append G a0 x1 x2 x3 x4 x5 = some (Gz, rz)) : Met l yX9_append (Cond.code yX9_append cX9_append 6 (some .int) :: wsL_law) (g_rm 3 64 0 0) (va_Pc [.ref a0, .int x1, .int x2, .int x3, .int x4, .int x5] (g_Pre lo dd cT G)) (va_Qi (g_is rz Gz) (g_Pre lo dd cT) (g_A lo)) 0 0 (g_A lo) := by
  refine g_start RX9 rfl (by decide) (Nat.le_of_ble_eq_true rfl) ?_
  intro p e s m below meth c hx hb hr hlocks hml hown hnm hts hK hG hlo ls hl
  have hl : lv_has ls 6 [(0, .ref a0), (1, .int x1), (2, .int x2), (3, .int x3), (4, .int x4), (5, .int x5)] := hl
  have hG : g_S lo dd cT s s.heap [] G := hG
  unfold f_X9_append at h
  refine lv_aload_n hx hb dX9_append_0 rfl (lv_at hl 0 rfl) ?_
  obtain ⟨v1, e1, h⟩ := Option.bind_eq_some_iff.mp h
  refine g_getr hx hb hts inlX9 hown hK hG (by rfl) 0 (by decide) qF_X9_10 e1 dX9_append_1 ?_
  refine lv_bipush (v := (20 : Int32)) hx hb dX9_append_4 (by decide) ?_
  obtain ⟨u6, i6, h⟩ := Option.bind_eq_some_iff.mp h
  obtain ⟨v6, e6, h⟩ := Option.bind_eq_some_iff.mp h
  refine g_cVi (As := [.int (20 : Int32)]) (rest := []) (n := 1) hx hb hml hown hts hK hlo hG (m_X3_hasRoom l dd cT lo G v1 (20 : Int32) e6) qM_X9_58 qI_yX3_hasRoom qS_X3_yX3_hasRoom qN_X3 qC_yX3_hasRoom (by decide +kernel) ⟨Nat.le_of_ble_eq_true rfl, Nat.le_of_ble_eq_true rfl⟩ (by rfl) i6 rfl hl.1 rfl (Nat.le_of_ble_eq_true rfl) dX9_append_6 ⟨Nat.le_of_ble_eq_true rfl, Nat.le_of_ble_eq_true rfl⟩ (fun H locs hG => ?_)
  refine lv_if_ne (tgt := 14) hx hb dX9_append_9 (by decide) (fun c9 => ?_) (fun c9 => ?_)
  · rw [if_neg c9] at h
    refine lv_aload_n hx hb dX9_append_14 rfl (lv_at hl 0 rfl) ?_
    obtain ⟨v15, e15, h⟩ := Option.bind_eq_some_iff.mp h
    refine g_getr hx hb hts inlX9 hown hK hG (by rfl) 0 (by decide) qF_X9_10 e15 dX9_append_15 ?_
    refine lv_iload_n hx hb dX9_append_18 rfl (lv_at hl 1 rfl) ?_
    obtain ⟨u19, i19, h⟩ := Option.bind_eq_some_iff.mp h
    obtain ⟨G19, e19, h⟩ := Option.bind_eq_some_iff.mp h
    refine g_cVv (As := [.int x1]) (rest := []) (n := 1) hx hb hml hown hts hK hlo hG (m_X3_addBytes l dd cT lo G v15 x1 e19) qM_X9_62 qI_yX3_addBytes qS_X3_yX3_addBytes qN_X3 qC_yX3_addBytes (by decide +kernel) ⟨Nat.le_of_ble_eq_true rfl, Nat.le_of_ble_eq_true rfl⟩ (by rfl) i19 rfl hl.1 rfl (Nat.le_of_ble_eq_true rfl) dX9_append_19 ⟨Nat.le_of_ble_eq_true rfl, Nat.le_of_ble_eq_true rfl⟩ (fun H locs hG => ?_)
    refine lv_aload_n hx hb dX9_append_22 rfl (lv_at hl 0 rfl) ?_
    obtain ⟨v23, e23, h⟩ := Option.bind_eq_some_iff.mp h
    refine g_getr hx hb hts inlX9 hown hK hG (by rfl) 0 (by decide) qF_X9_10 e23 dX9_append_23 ?_
    refine lv_iload_n hx hb dX9_append_26 rfl (lv_at hl 2 rfl) ?_
    obtain ⟨u27, i27, h⟩ := Option.bind_eq_some_iff.mp h
    obtain ⟨G27, e27, h⟩ := Option.bind_eq_some_iff.mp h
    refine g_cVv (As := [.int x2]) (rest := []) (n := 1) hx hb hml hown hts hK hlo hG (m_X3_addBytes l dd cT lo G19 v23 x2 e27) qM_X9_62 qI_yX3_addBytes qS_X3_yX3_addBytes qN_X3 qC_yX3_addBytes (by decide +kernel) ⟨Nat.le_of_ble_eq_true rfl, Nat.le_of_ble_eq_true rfl⟩ (by rfl) i27 rfl hl.1 rfl (Nat.le_of_ble_eq_true rfl) dX9_append_27 ⟨Nat.le_of_ble_eq_true rfl, Nat.le_of_ble_eq_true rfl⟩ (fun H locs hG => ?_)
    refine lv_aload_n hx hb dX9_append_30 rfl (lv_at hl 0 rfl) ?_
    obtain ⟨v31, e31, h⟩ := Option.bind_eq_some_iff.mp h
    refine g_getr hx hb hts inlX9 hown hK hG (by rfl) 0 (by decide) qF_X9_10 e31 dX9_append_31 ?_
    refine lv_iload_n hx hb dX9_append_34 rfl (lv_at hl 3 rfl) ?_
    obtain ⟨u35, i35, h⟩ := Option.bind_eq_some_iff.mp h
    obtain ⟨G35, e35, h⟩ := Option.bind_eq_some_iff.mp h
    refine g_cVv (As := [.int x3]) (rest := []) (n := 1) hx hb hml hown hts hK hlo hG (m_X3_addBytes l dd cT lo G27 v31 x3 e35) qM_X9_62 qI_yX3_addBytes qS_X3_yX3_addBytes qN_X3 qC_yX3_addBytes (by decide +kernel) ⟨Nat.le_of_ble_eq_true rfl, Nat.le_of_ble_eq_true rfl⟩ (by rfl) i35 rfl hl.1 rfl (Nat.le_of_ble_eq_true rfl) dX9_append_35 ⟨Nat.le_of_ble_eq_true rfl, Nat.le_of_ble_eq_true rfl⟩ (fun H locs hG => ?_)
    refine lv_aload_n hx hb dX9_append_38 rfl (lv_at hl 0 rfl) ?_
    obtain ⟨v39, e39, h⟩ := Option.bind_eq_some_iff.mp h
    refine g_getr hx hb hts inlX9 hown hK hG (by rfl) 0 (by decide) qF_X9_10 e39 dX9_append_39 ?_
    refine lv_iload hx hb dX9_append_42 (lv_at hl 4 rfl) ?_
    obtain ⟨u44, i44, h⟩ := Option.bind_eq_some_iff.mp h
    obtain ⟨G44, e44, h⟩ := Option.bind_eq_some_iff.mp h
    refine g_cVv (As := [.int x4]) (rest := []) (n := 1) hx hb hml hown hts hK hlo hG (m_X3_addBytes l dd cT lo G35 v39 x4 e44) qM_X9_62 qI_yX3_addBytes qS_X3_yX3_addBytes qN_X3 qC_yX3_addBytes (by decide +kernel) ⟨Nat.le_of_ble_eq_true rfl, Nat.le_of_ble_eq_true rfl⟩ (by rfl) i44 rfl hl.1 rfl (Nat.le_of_ble_eq_true rfl) dX9_append_44 ⟨Nat.le_of_ble_eq_true rfl, Nat.le_of_ble_eq_true rfl⟩ (fun H locs hG => ?_)
    refine lv_aload_n hx hb dX9_append_47 rfl (lv_at hl 0 rfl) ?_
    obtain ⟨v48, e48, h⟩ := Option.bind_eq_some_iff.mp h
    refine g_getr hx hb hts inlX9 hown hK hG (by rfl) 0 (by decide) qF_X9_10 e48 dX9_append_48 ?_
    refine lv_iload hx hb dX9_append_51 (lv_at hl 5 rfl) ?_
    obtain ⟨u53, i53, h⟩ := Option.bind_eq_some_iff.mp h
    obtain ⟨G53, e53, h⟩ := Option.bind_eq_some_iff.mp h
    refine g_cVv (As := [.int x5]) (rest := []) (n := 1) hx hb hml hown hts hK hlo hG (m_X3_addBytes l dd cT lo G44 v48 x5 e53) qM_X9_62 qI_yX3_addBytes qS_X3_yX3_addBytes qN_X3 qC_yX3_addBytes (by decide +kernel) ⟨Nat.le_of_ble_eq_true rfl, Nat.le_of_ble_eq_true rfl⟩ (by rfl) i53 rfl hl.1 rfl (Nat.le_of_ble_eq_true rfl) dX9_append_53 ⟨Nat.le_of_ble_eq_true rfl, Nat.le_of_ble_eq_true rfl⟩ (fun H locs hG => ?_)
    refine lv_aload_n hx hb dX9_append_56 rfl (lv_at hl 0 rfl) ?_
    obtain ⟨v57, e57, h⟩ := Option.bind_eq_some_iff.mp h
    refine g_getr hx hb hts inlX9 hown hK hG (by rfl) 0 (by decide) qF_X9_10 e57 dX9_append_57 ?_
    obtain ⟨v60, e60, h⟩ := Option.bind_eq_some_iff.mp h
    refine g_geti hx hb hts inlX3 hown hK hG (by rfl) 1 (by decide) qF_X9_66 e60 dX9_append_60 ?_
    obtain ⟨rfl, rfl⟩ := Prod.mk.inj (Option.some.inj h)
    exact g_iret hx hb hr hlocks hK hlo hG ⟨rfl, rfl⟩ dX9_append_63
  · rw [if_pos c9] at h
    refine lv_iconst (v := (-1 : Int32)) hx hb dX9_append_12 (by decide) ?_
    obtain ⟨rfl, rfl⟩ := Prod.mk.inj (Option.some.inj h)
    exact g_iret hx hb hr hlocks hK hlo hG ⟨rfl, rfl⟩ dX9_append_13
def f_X9_defect (G : gH) (a0 : Nat) (x1 : Int32) (x2 : Int32) : Option Int32 :=
    (g_r G a0 9 5).bind fun v1 =>
    (g_ob G v1 1).bind fun u5 =>
    (f_X1_relocatedBlock G v1 x1).bind fun v5 =>
    if v5 = (-1 : Int32) then
    some v5
    else
    if x2 = 0 then
    some v5
    else
    (g_r G a0 9 5).bind fun v21 =>
    (g_r G v21 1 0).bind fun v24 =>
    (g_ob G v24 0).bind fun u28 =>
    (f_X0_placeOf G v24 v5).bind fun v28 =>
    some v28
set_option maxRecDepth 20000 in
set_option maxHeartbeats 4000000 in
theorem m_X9_defect (l : Launch) (dd : va_G) (cT : Nat → ClassId) (lo : Nat) (G : gH) (a0 : Nat) (x1 : Int32) (x2 : Int32) {rz : Int32} (h : f_X9_defect G a0 x1 x2 = some rz) : Met l yX9_defect (Cond.code yX9_defect cX9_defect 4 (some .int) :: wsL_law) (g_rm 3 66 0 0) (va_Pc [.ref a0, .int x1, .int x2] (g_Pre lo dd cT G)) (va_Qi (g_is rz G) (g_Pre lo dd cT) (g_A lo)) 0 0 (g_A lo) := by
  refine g_start RX9 rfl (by decide) (Nat.le_of_ble_eq_true rfl) ?_
  intro p e s m below meth c hx hb hr hlocks hml hown hnm hts hK hG hlo ls hl
  have hl : lv_has ls 4 [(0, .ref a0), (1, .int x1), (2, .int x2)] := hl
  have hG : g_S lo dd cT s s.heap [] G := hG
  unfold f_X9_defect at h
  refine lv_aload_n hx hb dX9_defect_0 rfl (lv_at hl 0 rfl) ?_
  obtain ⟨v1, e1, h⟩ := Option.bind_eq_some_iff.mp h
  refine g_getr hx hb hts inlX9 hown hK hG (by rfl) 5 (by decide) qF_X9_47 e1 dX9_defect_1 ?_
  refine lv_iload_n hx hb dX9_defect_4 rfl (lv_at hl 1 rfl) ?_
  obtain ⟨u5, i5, h⟩ := Option.bind_eq_some_iff.mp h
  obtain ⟨v5, e5, h⟩ := Option.bind_eq_some_iff.mp h
  refine g_cVi (As := [.int x1]) (rest := []) (n := 1) hx hb hml hown hts hK hlo hG (m_X1_relocatedBlock l dd cT lo G v1 x1 e5) qM_X9_223 qI_yX1_relocatedBlock qS_X1_yX1_relocatedBlock qN_X1 qC_yX1_relocatedBlock (by decide +kernel) ⟨Nat.le_of_ble_eq_true rfl, Nat.le_of_ble_eq_true rfl⟩ (by rfl) i5 rfl hl.1 rfl (Nat.le_of_ble_eq_true rfl) dX9_defect_5 ⟨Nat.le_of_ble_eq_true rfl, Nat.le_of_ble_eq_true rfl⟩ (fun H locs hG => ?_)
  refine lv_istore_n (lv' := [(3, .int v5), (0, .ref a0), (1, .int x1), (2, .int x2)]) hx hb dX9_defect_8 rfl hl (by decide) rfl (fun ls hl => ?_)
  refine lv_iload_n hx hb dX9_defect_9 rfl (lv_at hl 0 rfl) ?_
  refine lv_iconst (v := (-1 : Int32)) hx hb dX9_defect_10 (by decide) ?_
  refine lv_icmp_eq (tgt := 18) hx hb dX9_defect_11 (by decide) (fun c11 => ?_) (fun c11 => ?_)
  · rw [if_pos c11] at h
    refine lv_iload_n hx hb dX9_defect_18 rfl (lv_at hl 0 rfl) ?_
    obtain rfl := Option.some.inj h
    exact g_iret hx hb hr hlocks hK hlo hG ⟨rfl, rfl⟩ dX9_defect_19
  · rw [if_neg c11] at h
    refine lv_iload_n hx hb dX9_defect_14 rfl (lv_at hl 3 rfl) ?_
    refine lv_if_ne (tgt := 20) hx hb dX9_defect_15 (by decide) (fun c15 => ?_) (fun c15 => ?_)
    · rw [if_neg c15] at h
      refine lv_aload_n hx hb dX9_defect_20 rfl (lv_at hl 1 rfl) ?_
      obtain ⟨v21, e21, h⟩ := Option.bind_eq_some_iff.mp h
      refine g_getr hx hb hts inlX9 hown hK hG (by rfl) 5 (by decide) qF_X9_47 e21 dX9_defect_21 ?_
      obtain ⟨v24, e24, h⟩ := Option.bind_eq_some_iff.mp h
      refine g_getr hx hb hts inlX1 hown hK hG (by rfl) 0 (by decide) qF_X9_85 e24 dX9_defect_24 ?_
      refine lv_iload_n hx hb dX9_defect_27 rfl (lv_at hl 0 rfl) ?_
      obtain ⟨u28, i28, h⟩ := Option.bind_eq_some_iff.mp h
      obtain ⟨v28, e28, h⟩ := Option.bind_eq_some_iff.mp h
      refine g_cVi (As := [.int v5]) (rest := []) (n := 1) hx hb hml hown hts hK hlo hG (m_X0_placeOf l dd cT lo G v24 v5 e28) qM_X9_164 qI_yX0_placeOf qS_X0_yX0_placeOf qN_X0 qC_yX0_placeOf (by decide +kernel) ⟨Nat.le_of_ble_eq_true rfl, Nat.le_of_ble_eq_true rfl⟩ (by rfl) i28 rfl hl.1 rfl (Nat.le_of_ble_eq_true rfl) dX9_defect_28 ⟨Nat.le_of_ble_eq_true rfl, Nat.le_of_ble_eq_true rfl⟩ (fun H locs hG => ?_)
      obtain rfl := Option.some.inj h
      exact g_iret hx hb hr hlocks hK hlo hG ⟨rfl, rfl⟩ dX9_defect_31
    · rw [if_pos c15] at h
      refine lv_iload_n hx hb dX9_defect_18 rfl (lv_at hl 0 rfl) ?_
      obtain rfl := Option.some.inj h
      exact g_iret hx hb hr hlocks hK hlo hG ⟨rfl, rfl⟩ dX9_defect_19
def f_X1_reasonAgainstWrite (G : gH) (a0 : Nat) (x1 : Int32) (x2 : Int32) : Option Int32 :=
    (g_r G a0 1 2).bind fun v1 =>
    (g_ob G v1 5).bind fun u4 =>
    (f_X5_oneMoreIsTooMany G v1).bind fun v4 =>
    if v4 = 0 then
    (g_r G a0 1 0).bind fun v13 =>
    (g_r G a0 1 2).bind fun v18 =>
    (g_ob G v18 5).bind fun u22 =>
    (f_X5_entriesWith G v18 x1).bind fun v22 =>
    (f_X1_directoryLength G v22).bind fun v25 =>
    (g_ob G v13 0).bind fun u29 =>
    (f_X0_hasRoomFor G v13 (x2 + v25)).bind fun v29 =>
    if v29 = 0 then
    some (4 : Int32)
    else
    (g_r G a0 1 0).bind fun v38 =>
    (g_ob G v38 0).bind fun u42 =>
    (f_X0_canRelocate G v38 x2).bind fun v42 =>
    if v42 = 0 then
    some (5 : Int32)
    else
    some (0 : Int32)
    else
    some (3 : Int32)
set_option maxRecDepth 20000 in
set_option maxHeartbeats 4000000 in
theorem m_X1_reasonAgainstWrite (l : Launch) (dd : va_G) (cT : Nat → ClassId) (lo : Nat) (G : gH) (a0 : Nat) (x1 : Int32) (x2 : Int32) {rz : Int32} (h : f_X1_reasonAgainstWrite G a0 x1 x2 = some rz) : Met l yX1_reasonAgainstWrite (Cond.code yX1_reasonAgainstWrite cX1_reasonAgainstWrite 3 (some .int) :: wsL_law) (g_rm 5 109 0 0) (va_Pc [.ref a0, .int x1, .int x2] (g_Pre lo dd cT G)) (va_Qi (g_is rz G) (g_Pre lo dd cT) (g_A lo)) 0 0 (g_A lo) := by
  refine g_start RX1 rfl (by decide) (Nat.le_of_ble_eq_true rfl) ?_
  intro p e s m below meth c hx hb hr hlocks hml hown hnm hts hK hG hlo ls hl
  have hl : lv_has ls 3 [(0, .ref a0), (1, .int x1), (2, .int x2)] := hl
  have hG : g_S lo dd cT s s.heap [] G := hG
  unfold f_X1_reasonAgainstWrite at h
  refine lv_aload_n hx hb dX1_reasonAgainstWrite_0 rfl (lv_at hl 0 rfl) ?_
  obtain ⟨v1, e1, h⟩ := Option.bind_eq_some_iff.mp h
  refine g_getr hx hb hts inlX1 hown hK hG (by rfl) 2 (by decide) qF_X1_28 e1 dX1_reasonAgainstWrite_1 ?_
  obtain ⟨u4, i4, h⟩ := Option.bind_eq_some_iff.mp h
  obtain ⟨v4, e4, h⟩ := Option.bind_eq_some_iff.mp h
  refine g_cVi (As := []) (rest := []) (n := 0) hx hb hml hown hts hK hlo hG (m_X5_oneMoreIsTooMany l dd cT lo G v1 e4) qM_X1_146 qI_yX5_oneMoreIsTooMany qS_X5_yX5_oneMoreIsTooMany qN_X5 qC_yX5_oneMoreIsTooMany (by decide +kernel) ⟨Nat.le_of_ble_eq_true rfl, Nat.le_of_ble_eq_true rfl⟩ (by rfl) i4 rfl hl.1 rfl (Nat.le_of_ble_eq_true rfl) dX1_reasonAgainstWrite_4 ⟨Nat.le_of_ble_eq_true rfl, Nat.le_of_ble_eq_true rfl⟩ (fun H locs hG => ?_)
  refine lv_if_eq (tgt := 12) hx hb dX1_reasonAgainstWrite_7 (by decide) (fun c7 => ?_) (fun c7 => ?_)
  · rw [if_pos c7] at h
    refine lv_aload_n hx hb dX1_reasonAgainstWrite_12 rfl (lv_at hl 0 rfl) ?_
    obtain ⟨v13, e13, h⟩ := Option.bind_eq_some_iff.mp h
    refine g_getr hx hb hts inlX1 hown hK hG (by rfl) 0 (by decide) qF_X1_12 e13 dX1_reasonAgainstWrite_13 ?_
    refine lv_iload_n hx hb dX1_reasonAgainstWrite_16 rfl (lv_at hl 2 rfl) ?_
    refine lv_aload_n hx hb dX1_reasonAgainstWrite_17 rfl (lv_at hl 0 rfl) ?_
    obtain ⟨v18, e18, h⟩ := Option.bind_eq_some_iff.mp h
    refine g_getr hx hb hts inlX1 hown hK hG (by rfl) 2 (by decide) qF_X1_28 e18 dX1_reasonAgainstWrite_18 ?_
    refine lv_iload_n hx hb dX1_reasonAgainstWrite_21 rfl (lv_at hl 1 rfl) ?_
    obtain ⟨u22, i22, h⟩ := Option.bind_eq_some_iff.mp h
    obtain ⟨v22, e22, h⟩ := Option.bind_eq_some_iff.mp h
    refine g_cVi (As := [.int x1]) (rest := [.int x2, .ref v13]) (n := 1) hx hb hml hown hts hK hlo hG (m_X5_entriesWith l dd cT lo G v18 x1 e22) qM_X1_150 qI_yX5_entriesWith qS_X5_yX5_entriesWith qN_X5 qC_yX5_entriesWith (by decide +kernel) ⟨Nat.le_of_ble_eq_true rfl, Nat.le_of_ble_eq_true rfl⟩ (by rfl) i22 rfl hl.1 rfl (Nat.le_of_ble_eq_true rfl) dX1_reasonAgainstWrite_22 ⟨Nat.le_of_ble_eq_true rfl, Nat.le_of_ble_eq_true rfl⟩ (fun H locs hG => ?_)
    obtain ⟨v25, e25, h⟩ := Option.bind_eq_some_iff.mp h
    refine g_cSi (As := [.int v22]) (rest := [.int x2, .ref v13]) (n := 1) hx hb hml hown hts hK hlo hG (m_X1_directoryLength l dd cT lo G v22 e25) qM_X1_94 qT_yX1_directoryLength qN_X1 qC_yX1_directoryLength (by decide +kernel) ⟨Nat.le_of_ble_eq_true rfl, Nat.le_of_ble_eq_true rfl⟩ rfl hl.1 rfl (Nat.le_of_ble_eq_true rfl) dX1_reasonAgainstWrite_25 ⟨Nat.le_of_ble_eq_true rfl, Nat.le_of_ble_eq_true rfl⟩ (fun H locs hG => ?_)
    refine lv_iadd hx hb dX1_reasonAgainstWrite_28 ?_
    obtain ⟨u29, i29, h⟩ := Option.bind_eq_some_iff.mp h
    obtain ⟨v29, e29, h⟩ := Option.bind_eq_some_iff.mp h
    refine g_cVi (As := [.int (x2 + v25)]) (rest := []) (n := 1) hx hb hml hown hts hK hlo hG (m_X0_hasRoomFor l dd cT lo G v13 (x2 + v25) e29) qM_X1_153 qI_yX0_hasRoomFor qS_X0_yX0_hasRoomFor qN_X0 qC_yX0_hasRoomFor (by decide +kernel) ⟨Nat.le_of_ble_eq_true rfl, Nat.le_of_ble_eq_true rfl⟩ (by rfl) i29 rfl hl.1 rfl (Nat.le_of_ble_eq_true rfl) dX1_reasonAgainstWrite_29 ⟨Nat.le_of_ble_eq_true rfl, Nat.le_of_ble_eq_true rfl⟩ (fun H locs hG => ?_)
    refine lv_if_ne (tgt := 37) hx hb dX1_reasonAgainstWrite_32 (by decide) (fun c32 => ?_) (fun c32 => ?_)
    · rw [if_neg c32] at h
      refine lv_aload_n hx hb dX1_reasonAgainstWrite_37 rfl (lv_at hl 0 rfl) ?_
      obtain ⟨v38, e38, h⟩ := Option.bind_eq_some_iff.mp h
      refine g_getr hx hb hts inlX1 hown hK hG (by rfl) 0 (by decide) qF_X1_12 e38 dX1_reasonAgainstWrite_38 ?_
      refine lv_iload_n hx hb dX1_reasonAgainstWrite_41 rfl (lv_at hl 2 rfl) ?_
      obtain ⟨u42, i42, h⟩ := Option.bind_eq_some_iff.mp h
      obtain ⟨v42, e42, h⟩ := Option.bind_eq_some_iff.mp h
      refine g_cVi (As := [.int x2]) (rest := []) (n := 1) hx hb hml hown hts hK hlo hG (m_X0_canRelocate l dd cT lo G v38 x2 e42) qM_X1_156 qI_yX0_canRelocate qS_X0_yX0_canRelocate qN_X0 qC_yX0_canRelocate (by decide +kernel) ⟨Nat.le_of_ble_eq_true rfl, Nat.le_of_ble_eq_true rfl⟩ (by rfl) i42 rfl hl.1 rfl (Nat.le_of_ble_eq_true rfl) dX1_reasonAgainstWrite_42 ⟨Nat.le_of_ble_eq_true rfl, Nat.le_of_ble_eq_true rfl⟩ (fun H locs hG => ?_)
      refine lv_if_eq (tgt := 52) hx hb dX1_reasonAgainstWrite_45 (by decide) (fun c45 => ?_) (fun c45 => ?_)
      · rw [if_pos c45] at h
        refine lv_iconst (v := (5 : Int32)) hx hb dX1_reasonAgainstWrite_52 (by decide) ?_
        obtain rfl := Option.some.inj h
        exact g_iret hx hb hr hlocks hK hlo hG ⟨rfl, rfl⟩ dX1_reasonAgainstWrite_53
      · rw [if_neg c45] at h
        refine lv_iconst (v := (0 : Int32)) hx hb dX1_reasonAgainstWrite_48 (by decide) ?_
        refine lv_goto (tgt := 53) hx hb dX1_reasonAgainstWrite_49 (by decide) ?_
        obtain rfl := Option.some.inj h
        exact g_iret hx hb hr hlocks hK hlo hG ⟨rfl, rfl⟩ dX1_reasonAgainstWrite_53
    · rw [if_pos c32] at h
      refine lv_iconst (v := (4 : Int32)) hx hb dX1_reasonAgainstWrite_35 (by decide) ?_
      obtain rfl := Option.some.inj h
      exact g_iret hx hb hr hlocks hK hlo hG ⟨rfl, rfl⟩ dX1_reasonAgainstWrite_36
  · rw [if_neg c7] at h
    refine lv_iconst (v := (3 : Int32)) hx hb dX1_reasonAgainstWrite_10 (by decide) ?_
    obtain rfl := Option.some.inj h
    exact g_iret hx hb hr hlocks hK hlo hG ⟨rfl, rfl⟩ dX1_reasonAgainstWrite_11
def f_X1_reasonAgainstClose (G : gH) (a0 : Nat) : Option Int32 :=
    (g_r G a0 1 2).bind fun v1 =>
    (g_ob G v1 5).bind fun u4 =>
    (f_X5_isOpen G v1).bind fun v4 =>
    if v4 = 0 then
    some (1 : Int32)
    else
    (g_r G a0 1 2).bind fun v14 =>
    (g_r G a0 1 2).bind fun v18 =>
    (g_ob G v18 5).bind fun u21 =>
    (f_X5_latest G v18).bind fun v21 =>
    (g_ob G v14 5).bind fun u24 =>
    (f_X5_entriesOf G v14 v21).bind fun v24 =>
    (g_ob G a0 1).bind fun u27 =>
    (f_X1_reasonAgainstDirectory G a0 v24).bind fun v27 =>
    some v27
set_option maxRecDepth 20000 in
set_option maxHeartbeats 4000000 in
theorem m_X1_reasonAgainstClose (l : Launch) (dd : va_G) (cT : Nat → ClassId) (lo : Nat) (G : gH) (a0 : Nat) {rz : Int32} (h : f_X1_reasonAgainstClose G a0 = some rz) : Met l yX1_reasonAgainstClose (Cond.code yX1_reasonAgainstClose cX1_reasonAgainstClose 1 (some .int) :: wsL_law) (g_rm 4 89 0 0) (va_Pc [.ref a0] (g_Pre lo dd cT G)) (va_Qi (g_is rz G) (g_Pre lo dd cT) (g_A lo)) 0 0 (g_A lo) := by
  refine g_start RX1 rfl (by decide) (Nat.le_of_ble_eq_true rfl) ?_
  intro p e s m below meth c hx hb hr hlocks hml hown hnm hts hK hG hlo ls hl
  have hl : lv_has ls 1 [(0, .ref a0)] := hl
  have hG : g_S lo dd cT s s.heap [] G := hG
  unfold f_X1_reasonAgainstClose at h
  refine lv_aload_n hx hb dX1_reasonAgainstClose_0 rfl (lv_at hl 0 rfl) ?_
  obtain ⟨v1, e1, h⟩ := Option.bind_eq_some_iff.mp h
  refine g_getr hx hb hts inlX1 hown hK hG (by rfl) 2 (by decide) qF_X1_28 e1 dX1_reasonAgainstClose_1 ?_
  obtain ⟨u4, i4, h⟩ := Option.bind_eq_some_iff.mp h
  obtain ⟨v4, e4, h⟩ := Option.bind_eq_some_iff.mp h
  refine g_cVi (As := []) (rest := []) (n := 0) hx hb hml hown hts hK hlo hG (m_X5_isOpen l dd cT lo G v1 e4) qM_X1_159 qI_yX5_isOpen qS_X5_yX5_isOpen qN_X5 qC_yX5_isOpen (by decide +kernel) ⟨Nat.le_of_ble_eq_true rfl, Nat.le_of_ble_eq_true rfl⟩ (by rfl) i4 rfl hl.1 rfl (Nat.le_of_ble_eq_true rfl) dX1_reasonAgainstClose_4 ⟨Nat.le_of_ble_eq_true rfl, Nat.le_of_ble_eq_true rfl⟩ (fun H locs hG => ?_)
  refine lv_if_ne (tgt := 12) hx hb dX1_reasonAgainstClose_7 (by decide) (fun c7 => ?_) (fun c7 => ?_)
  · rw [if_neg c7] at h
    refine lv_aload_n hx hb dX1_reasonAgainstClose_12 rfl (lv_at hl 0 rfl) ?_
    refine lv_aload_n hx hb dX1_reasonAgainstClose_13 rfl (lv_at hl 0 rfl) ?_
    obtain ⟨v14, e14, h⟩ := Option.bind_eq_some_iff.mp h
    refine g_getr hx hb hts inlX1 hown hK hG (by rfl) 2 (by decide) qF_X1_28 e14 dX1_reasonAgainstClose_14 ?_
    refine lv_aload_n hx hb dX1_reasonAgainstClose_17 rfl (lv_at hl 0 rfl) ?_
    obtain ⟨v18, e18, h⟩ := Option.bind_eq_some_iff.mp h
    refine g_getr hx hb hts inlX1 hown hK hG (by rfl) 2 (by decide) qF_X1_28 e18 dX1_reasonAgainstClose_18 ?_
    obtain ⟨u21, i21, h⟩ := Option.bind_eq_some_iff.mp h
    obtain ⟨v21, e21, h⟩ := Option.bind_eq_some_iff.mp h
    refine g_cVi (As := []) (rest := [.ref v14, .ref a0]) (n := 0) hx hb hml hown hts hK hlo hG (m_X5_latest l dd cT lo G v18 e21) qM_X1_162 qI_yX5_latest qS_X5_yX5_latest qN_X5 qC_yX5_latest (by decide +kernel) ⟨Nat.le_of_ble_eq_true rfl, Nat.le_of_ble_eq_true rfl⟩ (by rfl) i21 rfl hl.1 rfl (Nat.le_of_ble_eq_true rfl) dX1_reasonAgainstClose_21 ⟨Nat.le_of_ble_eq_true rfl, Nat.le_of_ble_eq_true rfl⟩ (fun H locs hG => ?_)
    obtain ⟨u24, i24, h⟩ := Option.bind_eq_some_iff.mp h
    obtain ⟨v24, e24, h⟩ := Option.bind_eq_some_iff.mp h
    refine g_cVi (As := [.int v21]) (rest := [.ref a0]) (n := 1) hx hb hml hown hts hK hlo hG (m_X5_entriesOf l dd cT lo G v14 v21 e24) qM_X1_91 qI_yX5_entriesOf qS_X5_yX5_entriesOf qN_X5 qC_yX5_entriesOf (by decide +kernel) ⟨Nat.le_of_ble_eq_true rfl, Nat.le_of_ble_eq_true rfl⟩ (by rfl) i24 rfl hl.1 rfl (Nat.le_of_ble_eq_true rfl) dX1_reasonAgainstClose_24 ⟨Nat.le_of_ble_eq_true rfl, Nat.le_of_ble_eq_true rfl⟩ (fun H locs hG => ?_)
    obtain ⟨u27, i27, h⟩ := Option.bind_eq_some_iff.mp h
    obtain ⟨v27, e27, h⟩ := Option.bind_eq_some_iff.mp h
    refine g_cVi (As := [.int v24]) (rest := []) (n := 1) hx hb hml hown hts hK hlo hG (m_X1_reasonAgainstDirectory l dd cT lo G a0 v24 e27) qM_X1_166 qI_yX1_reasonAgainstDirectory qS_X1_yX1_reasonAgainstDirectory qN_X1 qC_yX1_reasonAgainstDirectory (by decide +kernel) ⟨Nat.le_of_ble_eq_true rfl, Nat.le_of_ble_eq_true rfl⟩ (by rfl) i27 rfl hl.1 rfl (Nat.le_of_ble_eq_true rfl) dX1_reasonAgainstClose_27 ⟨Nat.le_of_ble_eq_true rfl, Nat.le_of_ble_eq_true rfl⟩ (fun H locs hG => ?_)
    obtain rfl := Option.some.inj h
    exact g_iret hx hb hr hlocks hK hlo hG ⟨rfl, rfl⟩ dX1_reasonAgainstClose_30
  · rw [if_pos c7] at h
    refine lv_iconst (v := (1 : Int32)) hx hb dX1_reasonAgainstClose_10 (by decide) ?_
    obtain rfl := Option.some.inj h
    exact g_iret hx hb hr hlocks hK hlo hG ⟨rfl, rfl⟩ dX1_reasonAgainstClose_11
def f_X1_reasonAgainstCrash (G : gH) (a0 : Nat) : Option Int32 :=
    (g_r G a0 1 2).bind fun v1 =>
    (g_ob G v1 5).bind fun u4 =>
    (f_X5_isOpen G v1).bind fun v4 =>
    if v4 = 0 then
    some (1 : Int32)
    else
    some (0 : Int32)
set_option maxRecDepth 20000 in
set_option maxHeartbeats 4000000 in
theorem m_X1_reasonAgainstCrash (l : Launch) (dd : va_G) (cT : Nat → ClassId) (lo : Nat) (G : gH) (a0 : Nat) {rz : Int32} (h : f_X1_reasonAgainstCrash G a0 = some rz) : Met l yX1_reasonAgainstCrash (Cond.code yX1_reasonAgainstCrash cX1_reasonAgainstCrash 1 (some .int) :: wsL_law) (g_rm 3 63 0 0) (va_Pc [.ref a0] (g_Pre lo dd cT G)) (va_Qi (g_is rz G) (g_Pre lo dd cT) (g_A lo)) 0 0 (g_A lo) := by
  refine g_start RX1 rfl (by decide) (Nat.le_of_ble_eq_true rfl) ?_
  intro p e s m below meth c hx hb hr hlocks hml hown hnm hts hK hG hlo ls hl
  have hl : lv_has ls 1 [(0, .ref a0)] := hl
  have hG : g_S lo dd cT s s.heap [] G := hG
  unfold f_X1_reasonAgainstCrash at h
  refine lv_aload_n hx hb dX1_reasonAgainstCrash_0 rfl (lv_at hl 0 rfl) ?_
  obtain ⟨v1, e1, h⟩ := Option.bind_eq_some_iff.mp h
  refine g_getr hx hb hts inlX1 hown hK hG (by rfl) 2 (by decide) qF_X1_28 e1 dX1_reasonAgainstCrash_1 ?_
  obtain ⟨u4, i4, h⟩ := Option.bind_eq_some_iff.mp h
  obtain ⟨v4, e4, h⟩ := Option.bind_eq_some_iff.mp h
  refine g_cVi (As := []) (rest := []) (n := 0) hx hb hml hown hts hK hlo hG (m_X5_isOpen l dd cT lo G v1 e4) qM_X1_159 qI_yX5_isOpen qS_X5_yX5_isOpen qN_X5 qC_yX5_isOpen (by decide +kernel) ⟨Nat.le_of_ble_eq_true rfl, Nat.le_of_ble_eq_true rfl⟩ (by rfl) i4 rfl hl.1 rfl (Nat.le_of_ble_eq_true rfl) dX1_reasonAgainstCrash_4 ⟨Nat.le_of_ble_eq_true rfl, Nat.le_of_ble_eq_true rfl⟩ (fun H locs hG => ?_)
  refine lv_if_eq (tgt := 14) hx hb dX1_reasonAgainstCrash_7 (by decide) (fun c7 => ?_) (fun c7 => ?_)
  · rw [if_pos c7] at h
    refine lv_iconst (v := (1 : Int32)) hx hb dX1_reasonAgainstCrash_14 (by decide) ?_
    obtain rfl := Option.some.inj h
    exact g_iret hx hb hr hlocks hK hlo hG ⟨rfl, rfl⟩ dX1_reasonAgainstCrash_15
  · rw [if_neg c7] at h
    refine lv_iconst (v := (0 : Int32)) hx hb dX1_reasonAgainstCrash_10 (by decide) ?_
    refine lv_goto (tgt := 15) hx hb dX1_reasonAgainstCrash_11 (by decide) ?_
    obtain rfl := Option.some.inj h
    exact g_iret hx hb hr hlocks hK hlo hG ⟨rfl, rfl⟩ dX1_reasonAgainstCrash_15
def f_X1_beginIfNeeded (G : gH) (a0 : Nat) : Option gH :=
    (g_r G a0 1 2).bind fun v1 =>
    (g_ob G v1 5).bind fun u4 =>
    (f_X5_isOpen G v1).bind fun v4 =>
    if v4 = 0 then
    (g_r G a0 1 2).bind fun v11 =>
    (g_r G a0 1 0).bind fun v15 =>
    (g_i G v15 0 2).bind fun v18 =>
    (g_ob G v11 5).bind fun u21 =>
    (f_X5_begin G v11 v18).bind fun G21 =>
    some G21
    else
    some G
set_option maxRecDepth 20000 in
set_option maxHeartbeats 4000000 in
theorem m_X1_beginIfNeeded (l : Launch) (dd : va_G) (cT : Nat → ClassId) (lo : Nat) (G : gH) (a0 : Nat) {Gz : gH} (h : f_X1_beginIfNeeded G a0 = some Gz) : Met l yX1_beginIfNeeded (Cond.code yX1_beginIfNeeded cX1_beginIfNeeded 1 none :: wsL_law) (g_rm 3 63 0 0) (va_Pc [.ref a0] (g_Pre lo dd cT G)) (va_Qv (g_iv Gz) (g_Pre lo dd cT) (g_A lo)) 0 0 (g_A lo) := by
  refine g_start RX1 rfl (by decide) (Nat.le_of_ble_eq_true rfl) ?_
  intro p e s m below meth c hx hb hr hlocks hml hown hnm hts hK hG hlo ls hl
  have hl : lv_has ls 1 [(0, .ref a0)] := hl
  have hG : g_S lo dd cT s s.heap [] G := hG
  unfold f_X1_beginIfNeeded at h
  refine lv_aload_n hx hb dX1_beginIfNeeded_0 rfl (lv_at hl 0 rfl) ?_
  obtain ⟨v1, e1, h⟩ := Option.bind_eq_some_iff.mp h
  refine g_getr hx hb hts inlX1 hown hK hG (by rfl) 2 (by decide) qF_X1_28 e1 dX1_beginIfNeeded_1 ?_
  obtain ⟨u4, i4, h⟩ := Option.bind_eq_some_iff.mp h
  obtain ⟨v4, e4, h⟩ := Option.bind_eq_some_iff.mp h
  refine g_cVi (As := []) (rest := []) (n := 0) hx hb hml hown hts hK hlo hG (m_X5_isOpen l dd cT lo G v1 e4) qM_X1_159 qI_yX5_isOpen qS_X5_yX5_isOpen qN_X5 qC_yX5_isOpen (by decide +kernel) ⟨Nat.le_of_ble_eq_true rfl, Nat.le_of_ble_eq_true rfl⟩ (by rfl) i4 rfl hl.1 rfl (Nat.le_of_ble_eq_true rfl) dX1_beginIfNeeded_4 ⟨Nat.le_of_ble_eq_true rfl, Nat.le_of_ble_eq_true rfl⟩ (fun H locs hG => ?_)
  refine lv_if_ne (tgt := 24) hx hb dX1_beginIfNeeded_7 (by decide) (fun c7 => ?_) (fun c7 => ?_)
  · rw [if_neg c7] at h
    obtain rfl := Option.some.inj h
    exact g_vret hx hb hr hlocks hK hlo hG rfl dX1_beginIfNeeded_24
  · rw [if_pos c7] at h
    refine lv_aload_n hx hb dX1_beginIfNeeded_10 rfl (lv_at hl 0 rfl) ?_
    obtain ⟨v11, e11, h⟩ := Option.bind_eq_some_iff.mp h
    refine g_getr hx hb hts inlX1 hown hK hG (by rfl) 2 (by decide) qF_X1_28 e11 dX1_beginIfNeeded_11 ?_
    refine lv_aload_n hx hb dX1_beginIfNeeded_14 rfl (lv_at hl 0 rfl) ?_
    obtain ⟨v15, e15, h⟩ := Option.bind_eq_some_iff.mp h
    refine g_getr hx hb hts inlX1 hown hK hG (by rfl) 0 (by decide) qF_X1_12 e15 dX1_beginIfNeeded_15 ?_
    obtain ⟨v18, e18, h⟩ := Option.bind_eq_some_iff.mp h
    refine g_geti hx hb hts inlX0 hown hK hG (by rfl) 2 (by decide) qF_X1_175 e18 dX1_beginIfNeeded_18 ?_
    obtain ⟨u21, i21, h⟩ := Option.bind_eq_some_iff.mp h
    obtain ⟨G21, e21, h⟩ := Option.bind_eq_some_iff.mp h
    refine g_cVv (As := [.int v18]) (rest := []) (n := 1) hx hb hml hown hts hK hlo hG (m_X5_begin l dd cT lo G v11 v18 e21) qM_X1_189 qI_yX5_begin qS_X5_yX5_begin qN_X5 qC_yX5_begin (by decide +kernel) ⟨Nat.le_of_ble_eq_true rfl, Nat.le_of_ble_eq_true rfl⟩ (by rfl) i21 rfl hl.1 rfl (Nat.le_of_ble_eq_true rfl) dX1_beginIfNeeded_21 ⟨Nat.le_of_ble_eq_true rfl, Nat.le_of_ble_eq_true rfl⟩ (fun H locs hG => ?_)
    obtain rfl := Option.some.inj h
    exact g_vret hx hb hr hlocks hK hlo hG rfl dX1_beginIfNeeded_24
def f_X1_isRecoverable_L15 (G : gH) : Nat → Nat → Int32 → Int32 → Int32 → Option Int32
  | 0, _, _, _, _ => none
  | n + 1, ba0, bx1, bx2, bx3 =>
    (g_r G ba0 1 1).bind fun v17 =>
    (g_i G v17 7 0).bind fun v20 =>
    if v20 ≤ bx3 then
    some (1 : Int32)
    else
    (g_r G ba0 1 1).bind fun v27 =>
    (g_ob G v27 7).bind fun u31 =>
    (f_X7_fileOf G v27 bx3).bind fun v31 =>
    (g_r G ba0 1 1).bind fun v35 =>
    (g_ob G v35 7).bind fun u39 =>
    (f_X7_fileOf G v35 bx1).bind fun v39 =>
    if v31 = v39 then
    (g_ob G ba0 1).bind fun u48 =>
    (f_X1_isReadableOf G ba0 bx3 bx2).bind fun v48 =>
    if v48 = 0 then
    f_X1_isRecoverable_L15 G n ba0 bx1 bx2 (bx3 + (1 : Int32))
    else
    some (0 : Int32)
    else
    f_X1_isRecoverable_L15 G n ba0 bx1 bx2 (bx3 + (1 : Int32))
def f_X1_isRecoverable (G : gH) (a0 : Nat) (x1 : Int32) (x2 : Int32) : Option Int32 :=
    (g_ob G a0 1).bind fun u3 =>
    (f_X1_isReadableOf G a0 x1 x2).bind fun v3 =>
    if v3 = 0 then
    some (0 : Int32)
    else
    f_X1_isRecoverable_L15 G g_N a0 x1 x2 (x1 + (1 : Int32))
set_option maxRecDepth 20000 in
set_option maxHeartbeats 4000000 in
theorem m_X1_isRecoverable (l : Launch) (dd : va_G) (cT : Nat → ClassId) (lo : Nat) (G : gH) (a0 : Nat) (x1 : Int32) (x2 : Int32) {rz : Int32} (h : f_X1_isRecoverable G a0 x1 x2 = some rz) : Met l yX1_isRecoverable (Cond.code yX1_isRecoverable cX1_isRecoverable 4 (some .boolean) :: wsL_law) (g_rm 5 109 0 0) (va_Pc [.ref a0, .int x1, .int x2] (g_Pre lo dd cT G)) (va_Qi (g_is rz G) (g_Pre lo dd cT) (g_A lo)) 0 0 (g_A lo) := by
  refine g_start RX1 rfl (by decide) (Nat.le_of_ble_eq_true rfl) ?_
  intro p e s m below meth c hx hb hr hlocks hml hown hnm hts hK hG hlo ls hl
  have hl : lv_has ls 4 [(0, .ref a0), (1, .int x1), (2, .int x2)] := hl
  have hG : g_S lo dd cT s s.heap [] G := hG
  have h15 : ∀ n : Nat, ∀ (ba0 : Nat) (bx1 : Int32) (bx2 : Int32) (bx3 : Int32), ∀ (H : Heap) (locs : List Loc), g_S lo dd cT s H locs G → ∀ ls : Array Slot, lv_has ls 4 [(0, .ref ba0), (1, .int bx1), (2, .int bx2), (3, .int bx3)] → f_X1_isRecoverable_L15 G n ba0 bx1 bx2 bx3 = some rz → W p l e (g_rm 5 109 0 0) s m ([.ref a0, .int x1, .int x2] : List Value).toArray below meth c H locs 0 0 (MQ below (va_Qi (g_is rz G) (g_Pre lo dd cT) (g_A lo)) ([.ref a0, .int x1, .int x2] : List Value).toArray s 0 0 (g_A lo)) (F0 m 15 ls []) := by
    intro n
    induction n with
    | zero =>
      intro ba0 bx1 bx2 bx3 H locs hG ls hl h
      cases (show (none : Option Int32) = some rz from h)
    | succ n ih =>
      intro ba0 bx1 bx2 bx3 H locs hG ls hl h
      rw [f_X1_isRecoverable_L15] at h
      refine lv_iload_n hx hb dX1_isRecoverable_15 rfl (lv_at hl 3 rfl) ?_
      refine lv_aload_n hx hb dX1_isRecoverable_16 rfl (lv_at hl 0 rfl) ?_
      obtain ⟨v17, e17, h⟩ := Option.bind_eq_some_iff.mp h
      refine g_getr hx hb hts inlX1 hown hK hG (by rfl) 1 (by decide) qF_X1_21 e17 dX1_isRecoverable_17 ?_
      obtain ⟨v20, e20, h⟩ := Option.bind_eq_some_iff.mp h
      refine g_geti hx hb hts inlX7 hown hK hG (by rfl) 0 (by decide) qF_X1_55 e20 dX1_isRecoverable_20 ?_
      refine lv_icmp_ge (tgt := 62) hx hb dX1_isRecoverable_23 (by decide) (fun c23 => ?_) (fun c23 => ?_)
      · rw [if_pos c23] at h
        refine lv_iconst (v := (1 : Int32)) hx hb dX1_isRecoverable_62 (by decide) ?_
        obtain rfl := Option.some.inj h
        exact g_zret hx hb hr hlocks hK hlo hG rfl ⟨rfl, rfl⟩ dX1_isRecoverable_63
      · rw [if_neg c23] at h
        refine lv_aload_n hx hb dX1_isRecoverable_26 rfl (lv_at hl 0 rfl) ?_
        obtain ⟨v27, e27, h⟩ := Option.bind_eq_some_iff.mp h
        refine g_getr hx hb hts inlX1 hown hK hG (by rfl) 1 (by decide) qF_X1_21 e27 dX1_isRecoverable_27 ?_
        refine lv_iload_n hx hb dX1_isRecoverable_30 rfl (lv_at hl 3 rfl) ?_
        obtain ⟨u31, i31, h⟩ := Option.bind_eq_some_iff.mp h
        obtain ⟨v31, e31, h⟩ := Option.bind_eq_some_iff.mp h
        refine g_cVi (As := [.int bx3]) (rest := []) (n := 1) hx hb hml hown hts hK hlo hG (m_X7_fileOf l dd cT lo G v27 bx3 e31) qM_X1_140 qI_yX7_fileOf qS_X7_yX7_fileOf qN_X7 qC_yX7_fileOf (by decide +kernel) ⟨Nat.le_of_ble_eq_true rfl, Nat.le_of_ble_eq_true rfl⟩ (by rfl) i31 rfl hl.1 rfl (Nat.le_of_ble_eq_true rfl) dX1_isRecoverable_31 ⟨Nat.le_of_ble_eq_true rfl, Nat.le_of_ble_eq_true rfl⟩ (fun H locs hG => ?_)
        refine lv_aload_n hx hb dX1_isRecoverable_34 rfl (lv_at hl 0 rfl) ?_
        obtain ⟨v35, e35, h⟩ := Option.bind_eq_some_iff.mp h
        refine g_getr hx hb hts inlX1 hown hK hG (by rfl) 1 (by decide) qF_X1_21 e35 dX1_isRecoverable_35 ?_
        refine lv_iload_n hx hb dX1_isRecoverable_38 rfl (lv_at hl 1 rfl) ?_
        obtain ⟨u39, i39, h⟩ := Option.bind_eq_some_iff.mp h
        obtain ⟨v39, e39, h⟩ := Option.bind_eq_some_iff.mp h
        refine g_cVi (As := [.int bx1]) (rest := [.int v31]) (n := 1) hx hb hml hown hts hK hlo hG (m_X7_fileOf l dd cT lo G v35 bx1 e39) qM_X1_140 qI_yX7_fileOf qS_X7_yX7_fileOf qN_X7 qC_yX7_fileOf (by decide +kernel) ⟨Nat.le_of_ble_eq_true rfl, Nat.le_of_ble_eq_true rfl⟩ (by rfl) i39 rfl hl.1 rfl (Nat.le_of_ble_eq_true rfl) dX1_isRecoverable_39 ⟨Nat.le_of_ble_eq_true rfl, Nat.le_of_ble_eq_true rfl⟩ (fun H locs hG => ?_)
        refine lv_icmp_ne (tgt := 56) hx hb dX1_isRecoverable_42 (by decide) (fun c42 => ?_) (fun c42 => ?_)
        · rw [if_neg c42] at h
          refine lv_iinc (v := (bx3 + (1 : Int32))) (lv' := [(3, .int (bx3 + (1 : Int32))), (0, .ref ba0), (1, .int bx1), (2, .int bx2)]) hx hb dX1_isRecoverable_56 hl (k := 3) rfl rfl (by decide) rfl (fun ls hl => ?_)
          refine lv_goto (tgt := 15) hx hb dX1_isRecoverable_59 (by decide) ?_
          exact ih ba0 bx1 bx2 (bx3 + (1 : Int32)) _ _ hG _ (lv_sub hl [1, 2, 3, 0] rfl) h
        · rw [if_pos c42] at h
          refine lv_aload_n hx hb dX1_isRecoverable_45 rfl (lv_at hl 0 rfl) ?_
          refine lv_iload_n hx hb dX1_isRecoverable_46 rfl (lv_at hl 3 rfl) ?_
          refine lv_iload_n hx hb dX1_isRecoverable_47 rfl (lv_at hl 2 rfl) ?_
          obtain ⟨u48, i48, h⟩ := Option.bind_eq_some_iff.mp h
          obtain ⟨v48, e48, h⟩ := Option.bind_eq_some_iff.mp h
          refine g_cVi (As := [.int bx3, .int bx2]) (rest := []) (n := 2) hx hb hml hown hts hK hlo hG (m_X1_isReadableOf l dd cT lo G ba0 bx3 bx2 e48) qM_X1_219 qI_yX1_isReadableOf qS_X1_yX1_isReadableOf qN_X1 qC_yX1_isReadableOf (by decide +kernel) ⟨Nat.le_of_ble_eq_true rfl, Nat.le_of_ble_eq_true rfl⟩ (by rfl) i48 rfl hl.1 rfl (Nat.le_of_ble_eq_true rfl) dX1_isRecoverable_48 ⟨Nat.le_of_ble_eq_true rfl, Nat.le_of_ble_eq_true rfl⟩ (fun H locs hG => ?_)
          refine lv_if_eq (tgt := 56) hx hb dX1_isRecoverable_51 (by decide) (fun c51 => ?_) (fun c51 => ?_)
          · rw [if_pos c51] at h
            refine lv_iinc (v := (bx3 + (1 : Int32))) (lv' := [(3, .int (bx3 + (1 : Int32))), (0, .ref ba0), (1, .int bx1), (2, .int bx2)]) hx hb dX1_isRecoverable_56 hl (k := 3) rfl rfl (by decide) rfl (fun ls hl => ?_)
            refine lv_goto (tgt := 15) hx hb dX1_isRecoverable_59 (by decide) ?_
            exact ih ba0 bx1 bx2 (bx3 + (1 : Int32)) _ _ hG _ (lv_sub hl [1, 2, 3, 0] rfl) h
          · rw [if_neg c51] at h
            refine lv_iconst (v := (0 : Int32)) hx hb dX1_isRecoverable_54 (by decide) ?_
            obtain rfl := Option.some.inj h
            exact g_zret hx hb hr hlocks hK hlo hG rfl ⟨rfl, rfl⟩ dX1_isRecoverable_55
  unfold f_X1_isRecoverable at h
  refine lv_aload_n hx hb dX1_isRecoverable_0 rfl (lv_at hl 0 rfl) ?_
  refine lv_iload_n hx hb dX1_isRecoverable_1 rfl (lv_at hl 1 rfl) ?_
  refine lv_iload_n hx hb dX1_isRecoverable_2 rfl (lv_at hl 2 rfl) ?_
  obtain ⟨u3, i3, h⟩ := Option.bind_eq_some_iff.mp h
  obtain ⟨v3, e3, h⟩ := Option.bind_eq_some_iff.mp h
  refine g_cVi (As := [.int x1, .int x2]) (rest := []) (n := 2) hx hb hml hown hts hK hlo hG (m_X1_isReadableOf l dd cT lo G a0 x1 x2 e3) qM_X1_219 qI_yX1_isReadableOf qS_X1_yX1_isReadableOf qN_X1 qC_yX1_isReadableOf (by decide +kernel) ⟨Nat.le_of_ble_eq_true rfl, Nat.le_of_ble_eq_true rfl⟩ (by rfl) i3 rfl hl.1 rfl (Nat.le_of_ble_eq_true rfl) dX1_isRecoverable_3 ⟨Nat.le_of_ble_eq_true rfl, Nat.le_of_ble_eq_true rfl⟩ (fun H locs hG => ?_)
  refine lv_if_ne (tgt := 11) hx hb dX1_isRecoverable_6 (by decide) (fun c6 => ?_) (fun c6 => ?_)
  · rw [if_neg c6] at h
    refine lv_iload_n hx hb dX1_isRecoverable_11 rfl (lv_at hl 1 rfl) ?_
    refine lv_iconst (v := (1 : Int32)) hx hb dX1_isRecoverable_12 (by decide) ?_
    refine lv_iadd hx hb dX1_isRecoverable_13 ?_
    refine lv_istore_n (lv' := [(3, .int (x1 + (1 : Int32))), (0, .ref a0), (1, .int x1), (2, .int x2)]) hx hb dX1_isRecoverable_14 rfl hl (by decide) rfl (fun ls hl => ?_)
    exact h15 g_N a0 x1 x2 (x1 + (1 : Int32)) _ _ hG _ (lv_sub hl [1, 2, 3, 0] rfl) h
  · rw [if_pos c6] at h
    refine lv_iconst (v := (0 : Int32)) hx hb dX1_isRecoverable_9 (by decide) ?_
    obtain rfl := Option.some.inj h
    exact g_zret hx hb hr hlocks hK hlo hG rfl ⟨rfl, rfl⟩ dX1_isRecoverable_10
def f_X4_readNewFile (G : gH) (a0 : Nat) (a1 : Nat) (a2 : Nat) : Option (gH × Int32) :=
    (g_ob G a2 1).bind fun u1 =>
    (f_X1_hasAllFiles G a2).bind fun v1 =>
    if v1 = 0 then
    (g_ob G a0 4).bind fun u19 =>
    (f_X4_advance G a0 a1).bind fun G19 =>
    (g_i G19 a0 4 3).bind fun v23 =>
    if v23 = (1 : Int32) then
    (g_j G19 a0 4 7).bind fun v42 =>
    (g_ob G19 a2 1).bind fun u45 =>
    (f_X1_fileNamed G19 a2 v42).bind fun v45 =>
    if v45 = (-1 : Int32) then
    (g_j G19 a0 4 7).bind fun v64 =>
    (g_ob G19 a2 1).bind fun u67 =>
    (f_X1_addFile G19 a2 v64).bind fun G67 =>
    some (G67, (1 : Int32))
    else
    (g_i G19 a0 4 4).bind fun v55 =>
    (g_ob G19 a0 4).bind fun u58 =>
    (f_X4_fail G19 a0 (2 : Int32) v55).bind fun q58 =>
    (g_z q58.2).bind fun w61 => some (q58.1, w61)
    else
    (g_i G19 a0 4 4).bind fun v33 =>
    (g_ob G19 a0 4).bind fun u36 =>
    (f_X4_fail G19 a0 (1 : Int32) v33).bind fun q36 =>
    (g_z q36.2).bind fun w39 => some (q36.1, w39)
    else
    (g_i G a0 4 4).bind fun v10 =>
    (g_ob G a0 4).bind fun u13 =>
    (f_X4_fail G a0 (5 : Int32) v10).bind fun q13 =>
    (g_z q13.2).bind fun w16 => some (q13.1, w16)
set_option maxRecDepth 20000 in
set_option maxHeartbeats 4000000 in
theorem m_X4_readNewFile (l : Launch) (dd : va_G) (cT : Nat → ClassId) (lo : Nat) (G : gH) (a0 : Nat) (a1 : Nat) (a2 : Nat) {rz : Int32} {Gz : gH} (h : f_X4_readNewFile G a0 a1 a2 = some (Gz, rz)) : Met l yX4_readNewFile (Cond.code yX4_readNewFile cX4_readNewFile 3 (some .boolean) :: wsL_law) (g_rm 5 110 0 0) (va_Pc [.ref a0, .ref a1, .ref a2] (g_Pre lo dd cT G)) (va_Qi (g_is rz Gz) (g_Pre lo dd cT) (g_A lo)) 0 0 (g_A lo) := by
  refine g_start RX4 rfl (by decide) (Nat.le_of_ble_eq_true rfl) ?_
  intro p e s m below meth c hx hb hr hlocks hml hown hnm hts hK hG hlo ls hl
  have hl : lv_has ls 3 [(0, .ref a0), (1, .ref a1), (2, .ref a2)] := hl
  have hG : g_S lo dd cT s s.heap [] G := hG
  unfold f_X4_readNewFile at h
  refine lv_aload_n hx hb dX4_readNewFile_0 rfl (lv_at hl 2 rfl) ?_
  obtain ⟨u1, i1, h⟩ := Option.bind_eq_some_iff.mp h
  obtain ⟨v1, e1, h⟩ := Option.bind_eq_some_iff.mp h
  refine g_cVi (As := []) (rest := []) (n := 0) hx hb hml hown hts hK hlo hG (m_X1_hasAllFiles l dd cT lo G a2 e1) qM_X4_128 qI_yX1_hasAllFiles qS_X1_yX1_hasAllFiles qN_X1 qC_yX1_hasAllFiles (by decide +kernel) ⟨Nat.le_of_ble_eq_true rfl, Nat.le_of_ble_eq_true rfl⟩ (by rfl) i1 rfl hl.1 rfl (Nat.le_of_ble_eq_true rfl) dX4_readNewFile_1 ⟨Nat.le_of_ble_eq_true rfl, Nat.le_of_ble_eq_true rfl⟩ (fun H locs hG => ?_)
  refine lv_if_eq (tgt := 17) hx hb dX4_readNewFile_4 (by decide) (fun c4 => ?_) (fun c4 => ?_)
  · rw [if_pos c4] at h
    refine lv_aload_n hx hb dX4_readNewFile_17 rfl (lv_at hl 0 rfl) ?_
    refine lv_aload_n hx hb dX4_readNewFile_18 rfl (lv_at hl 1 rfl) ?_
    obtain ⟨u19, i19, h⟩ := Option.bind_eq_some_iff.mp h
    obtain ⟨G19, e19, h⟩ := Option.bind_eq_some_iff.mp h
    refine g_cVv (As := [.ref a1]) (rest := []) (n := 1) hx hb hml hown hts hK hlo hG (m_X4_advance l dd cT lo G a0 a1 e19) qM_X4_45 qI_yX4_advance qS_X4_yX4_advance qN_X4 qC_yX4_advance (by decide +kernel) ⟨Nat.le_of_ble_eq_true rfl, Nat.le_of_ble_eq_true rfl⟩ (by rfl) i19 rfl hl.1 rfl (Nat.le_of_ble_eq_true rfl) dX4_readNewFile_19 ⟨Nat.le_of_ble_eq_true rfl, Nat.le_of_ble_eq_true rfl⟩ (fun H locs hG => ?_)
    refine lv_aload_n hx hb dX4_readNewFile_22 rfl (lv_at hl 0 rfl) ?_
    obtain ⟨v23, e23, h⟩ := Option.bind_eq_some_iff.mp h
    refine g_geti hx hb hts inlX4 hown hK hG (by rfl) 3 (by decide) qF_X4_21 e23 dX4_readNewFile_23 ?_
    refine lv_iconst (v := (1 : Int32)) hx hb dX4_readNewFile_26 (by decide) ?_
    refine lv_icmp_eq (tgt := 40) hx hb dX4_readNewFile_27 (by decide) (fun c27 => ?_) (fun c27 => ?_)
    · rw [if_pos c27] at h
      refine lv_aload_n hx hb dX4_readNewFile_40 rfl (lv_at hl 2 rfl) ?_
      refine lv_aload_n hx hb dX4_readNewFile_41 rfl (lv_at hl 0 rfl) ?_
      obtain ⟨v42, e42, h⟩ := Option.bind_eq_some_iff.mp h
      refine g_getj hx hb hts inlX4 hown hK hG (by rfl) 7 (by decide) qF_X4_33 e42 dX4_readNewFile_42 ?_
      obtain ⟨u45, i45, h⟩ := Option.bind_eq_some_iff.mp h
      obtain ⟨v45, e45, h⟩ := Option.bind_eq_some_iff.mp h
      refine g_cVi (As := [.long v42]) (rest := []) (n := 1) hx hb hml hown hts hK hlo hG (m_X1_fileNamed l dd cT lo G19 a2 v42 e45) qM_X4_132 qI_yX1_fileNamed qS_X1_yX1_fileNamed qN_X1 qC_yX1_fileNamed (by decide +kernel) ⟨Nat.le_of_ble_eq_true rfl, Nat.le_of_ble_eq_true rfl⟩ (by rfl) i45 rfl hl.1 rfl (Nat.le_of_ble_eq_true rfl) dX4_readNewFile_45 ⟨Nat.le_of_ble_eq_true rfl, Nat.le_of_ble_eq_true rfl⟩ (fun H locs hG => ?_)
      refine lv_iconst (v := (-1 : Int32)) hx hb dX4_readNewFile_48 (by decide) ?_
      refine lv_icmp_eq (tgt := 62) hx hb dX4_readNewFile_49 (by decide) (fun c49 => ?_) (fun c49 => ?_)
      · rw [if_pos c49] at h
        refine lv_aload_n hx hb dX4_readNewFile_62 rfl (lv_at hl 2 rfl) ?_
        refine lv_aload_n hx hb dX4_readNewFile_63 rfl (lv_at hl 0 rfl) ?_
        obtain ⟨v64, e64, h⟩ := Option.bind_eq_some_iff.mp h
        refine g_getj hx hb hts inlX4 hown hK hG (by rfl) 7 (by decide) qF_X4_33 e64 dX4_readNewFile_64 ?_
        obtain ⟨u67, i67, h⟩ := Option.bind_eq_some_iff.mp h
        obtain ⟨G67, e67, h⟩ := Option.bind_eq_some_iff.mp h
        refine g_cVv (As := [.long v64]) (rest := []) (n := 1) hx hb hml hown hts hK hlo hG (m_X1_addFile l dd cT lo G19 a2 v64 e67) qM_X4_136 qI_yX1_addFile qS_X1_yX1_addFile qN_X1 qC_yX1_addFile (by decide +kernel) ⟨Nat.le_of_ble_eq_true rfl, Nat.le_of_ble_eq_true rfl⟩ (by rfl) i67 rfl hl.1 rfl (Nat.le_of_ble_eq_true rfl) dX4_readNewFile_67 ⟨Nat.le_of_ble_eq_true rfl, Nat.le_of_ble_eq_true rfl⟩ (fun H locs hG => ?_)
        refine lv_iconst (v := (1 : Int32)) hx hb dX4_readNewFile_70 (by decide) ?_
        obtain ⟨rfl, rfl⟩ := Prod.mk.inj (Option.some.inj h)
        exact g_zret hx hb hr hlocks hK hlo hG rfl ⟨rfl, rfl⟩ dX4_readNewFile_71
      · rw [if_neg c49] at h
        refine lv_aload_n hx hb dX4_readNewFile_52 rfl (lv_at hl 0 rfl) ?_
        refine lv_iconst (v := (2 : Int32)) hx hb dX4_readNewFile_53 (by decide) ?_
        refine lv_aload_n hx hb dX4_readNewFile_54 rfl (lv_at hl 0 rfl) ?_
        obtain ⟨v55, e55, h⟩ := Option.bind_eq_some_iff.mp h
        refine g_geti hx hb hts inlX4 hown hK hG (by rfl) 4 (by decide) qF_X4_24 e55 dX4_readNewFile_55 ?_
        obtain ⟨u58, i58, h⟩ := Option.bind_eq_some_iff.mp h
        obtain ⟨q58, e58, h⟩ := Option.bind_eq_some_iff.mp h
        refine g_cVi (As := [.int (2 : Int32), .int v55]) (rest := []) (n := 2) hx hb hml hown hts hK hlo hG (m_X4_fail l dd cT lo G19 a0 (2 : Int32) v55 e58) qM_X4_55 qI_yX4_fail qS_X4_yX4_fail qN_X4 qC_yX4_fail (by decide +kernel) ⟨Nat.le_of_ble_eq_true rfl, Nat.le_of_ble_eq_true rfl⟩ (by rfl) i58 rfl hl.1 rfl (Nat.le_of_ble_eq_true rfl) dX4_readNewFile_58 ⟨Nat.le_of_ble_eq_true rfl, Nat.le_of_ble_eq_true rfl⟩ (fun H locs hG => ?_)
        obtain ⟨w61, e61, h⟩ := Option.bind_eq_some_iff.mp h
        obtain ⟨n61, rfl⟩ := g_z_nar e61
        obtain ⟨rfl, rfl⟩ := Prod.mk.inj (Option.some.inj h)
        exact g_zret hx hb hr hlocks hK hlo hG n61 ⟨rfl, rfl⟩ dX4_readNewFile_61
    · rw [if_neg c27] at h
      refine lv_aload_n hx hb dX4_readNewFile_30 rfl (lv_at hl 0 rfl) ?_
      refine lv_iconst (v := (1 : Int32)) hx hb dX4_readNewFile_31 (by decide) ?_
      refine lv_aload_n hx hb dX4_readNewFile_32 rfl (lv_at hl 0 rfl) ?_
      obtain ⟨v33, e33, h⟩ := Option.bind_eq_some_iff.mp h
      refine g_geti hx hb hts inlX4 hown hK hG (by rfl) 4 (by decide) qF_X4_24 e33 dX4_readNewFile_33 ?_
      obtain ⟨u36, i36, h⟩ := Option.bind_eq_some_iff.mp h
      obtain ⟨q36, e36, h⟩ := Option.bind_eq_some_iff.mp h
      refine g_cVi (As := [.int (1 : Int32), .int v33]) (rest := []) (n := 2) hx hb hml hown hts hK hlo hG (m_X4_fail l dd cT lo G19 a0 (1 : Int32) v33 e36) qM_X4_55 qI_yX4_fail qS_X4_yX4_fail qN_X4 qC_yX4_fail (by decide +kernel) ⟨Nat.le_of_ble_eq_true rfl, Nat.le_of_ble_eq_true rfl⟩ (by rfl) i36 rfl hl.1 rfl (Nat.le_of_ble_eq_true rfl) dX4_readNewFile_36 ⟨Nat.le_of_ble_eq_true rfl, Nat.le_of_ble_eq_true rfl⟩ (fun H locs hG => ?_)
      obtain ⟨w39, e39, h⟩ := Option.bind_eq_some_iff.mp h
      obtain ⟨n39, rfl⟩ := g_z_nar e39
      obtain ⟨rfl, rfl⟩ := Prod.mk.inj (Option.some.inj h)
      exact g_zret hx hb hr hlocks hK hlo hG n39 ⟨rfl, rfl⟩ dX4_readNewFile_39
  · rw [if_neg c4] at h
    refine lv_aload_n hx hb dX4_readNewFile_7 rfl (lv_at hl 0 rfl) ?_
    refine lv_iconst (v := (5 : Int32)) hx hb dX4_readNewFile_8 (by decide) ?_
    refine lv_aload_n hx hb dX4_readNewFile_9 rfl (lv_at hl 0 rfl) ?_
    obtain ⟨v10, e10, h⟩ := Option.bind_eq_some_iff.mp h
    refine g_geti hx hb hts inlX4 hown hK hG (by rfl) 4 (by decide) qF_X4_24 e10 dX4_readNewFile_10 ?_
    obtain ⟨u13, i13, h⟩ := Option.bind_eq_some_iff.mp h
    obtain ⟨q13, e13, h⟩ := Option.bind_eq_some_iff.mp h
    refine g_cVi (As := [.int (5 : Int32), .int v10]) (rest := []) (n := 2) hx hb hml hown hts hK hlo hG (m_X4_fail l dd cT lo G a0 (5 : Int32) v10 e13) qM_X4_55 qI_yX4_fail qS_X4_yX4_fail qN_X4 qC_yX4_fail (by decide +kernel) ⟨Nat.le_of_ble_eq_true rfl, Nat.le_of_ble_eq_true rfl⟩ (by rfl) i13 rfl hl.1 rfl (Nat.le_of_ble_eq_true rfl) dX4_readNewFile_13 ⟨Nat.le_of_ble_eq_true rfl, Nat.le_of_ble_eq_true rfl⟩ (fun H locs hG => ?_)
    obtain ⟨w16, e16, h⟩ := Option.bind_eq_some_iff.mp h
    obtain ⟨n16, rfl⟩ := g_z_nar e16
    obtain ⟨rfl, rfl⟩ := Prod.mk.inj (Option.some.inj h)
    exact g_zret hx hb hr hlocks hK hlo hG n16 ⟨rfl, rfl⟩ dX4_readNewFile_16
def f_X4_doClose (G : gH) (a0 : Nat) (a1 : Nat) : Option (gH × Int32) :=
    (g_ob G a1 1).bind fun u1 =>
    (f_X1_reasonAgainstClose G a1).bind fun v1 =>
    if v1 = 0 then
    (g_ob G a1 1).bind fun u19 =>
    (f_X1_closeSession G a1).bind fun q19 =>
    some (q19.1, (1 : Int32))
    else
    (g_i G a0 4 4).bind fun v11 =>
    (g_ob G a0 4).bind fun u14 =>
    (f_X4_fail G a0 (6 : Int32) v11).bind fun q14 =>
    (g_z q14.2).bind fun w17 => some (q14.1, w17)
set_option maxRecDepth 20000 in
set_option maxHeartbeats 4000000 in
theorem m_X4_doClose (l : Launch) (dd : va_G) (cT : Nat → ClassId) (lo : Nat) (G : gH) (a0 : Nat) (a1 : Nat) {rz : Int32} {Gz : gH} (h : f_X4_doClose G a0 a1 = some (Gz, rz)) : Met l yX4_doClose (Cond.code yX4_doClose cX4_doClose 2 (some .boolean) :: wsL_law) (g_rm 5 115 0 0) (va_Pc [.ref a0, .ref a1] (g_Pre lo dd cT G)) (va_Qi (g_is rz Gz) (g_Pre lo dd cT) (g_A lo)) 0 0 (g_A lo) := by
  refine g_start RX4 rfl (by decide) (Nat.le_of_ble_eq_true rfl) ?_
  intro p e s m below meth c hx hb hr hlocks hml hown hnm hts hK hG hlo ls hl
  have hl : lv_has ls 2 [(0, .ref a0), (1, .ref a1)] := hl
  have hG : g_S lo dd cT s s.heap [] G := hG
  unfold f_X4_doClose at h
  refine lv_aload_n hx hb dX4_doClose_0 rfl (lv_at hl 1 rfl) ?_
  obtain ⟨u1, i1, h⟩ := Option.bind_eq_some_iff.mp h
  obtain ⟨v1, e1, h⟩ := Option.bind_eq_some_iff.mp h
  refine g_cVi (As := []) (rest := []) (n := 0) hx hb hml hown hts hK hlo hG (m_X1_reasonAgainstClose l dd cT lo G a1 e1) qM_X4_158 qI_yX1_reasonAgainstClose qS_X1_yX1_reasonAgainstClose qN_X1 qC_yX1_reasonAgainstClose (by decide +kernel) ⟨Nat.le_of_ble_eq_true rfl, Nat.le_of_ble_eq_true rfl⟩ (by rfl) i1 rfl hl.1 rfl (Nat.le_of_ble_eq_true rfl) dX4_doClose_1 ⟨Nat.le_of_ble_eq_true rfl, Nat.le_of_ble_eq_true rfl⟩ (fun H locs hG => ?_)
  refine lv_if_eq (tgt := 18) hx hb dX4_doClose_4 (by decide) (fun c4 => ?_) (fun c4 => ?_)
  · rw [if_pos c4] at h
    refine lv_aload_n hx hb dX4_doClose_18 rfl (lv_at hl 1 rfl) ?_
    obtain ⟨u19, i19, h⟩ := Option.bind_eq_some_iff.mp h
    obtain ⟨q19, e19, h⟩ := Option.bind_eq_some_iff.mp h
    refine g_cVi (As := []) (rest := []) (n := 0) hx hb hml hown hts hK hlo hG (m_X1_closeSession l dd cT lo G a1 e19) qM_X4_162 qI_yX1_closeSession qS_X1_yX1_closeSession qN_X1 qC_yX1_closeSession (by decide +kernel) ⟨Nat.le_of_ble_eq_true rfl, Nat.le_of_ble_eq_true rfl⟩ (by rfl) i19 rfl hl.1 rfl (Nat.le_of_ble_eq_true rfl) dX4_doClose_19 ⟨Nat.le_of_ble_eq_true rfl, Nat.le_of_ble_eq_true rfl⟩ (fun H locs hG => ?_)
    refine lv_pop hx hb dX4_doClose_22 rfl ?_
    refine lv_iconst (v := (1 : Int32)) hx hb dX4_doClose_23 (by decide) ?_
    obtain ⟨rfl, rfl⟩ := Prod.mk.inj (Option.some.inj h)
    exact g_zret hx hb hr hlocks hK hlo hG rfl ⟨rfl, rfl⟩ dX4_doClose_24
  · rw [if_neg c4] at h
    refine lv_aload_n hx hb dX4_doClose_7 rfl (lv_at hl 0 rfl) ?_
    refine lv_bipush (v := (6 : Int32)) hx hb dX4_doClose_8 (by decide) ?_
    refine lv_aload_n hx hb dX4_doClose_10 rfl (lv_at hl 0 rfl) ?_
    obtain ⟨v11, e11, h⟩ := Option.bind_eq_some_iff.mp h
    refine g_geti hx hb hts inlX4 hown hK hG (by rfl) 4 (by decide) qF_X4_24 e11 dX4_doClose_11 ?_
    obtain ⟨u14, i14, h⟩ := Option.bind_eq_some_iff.mp h
    obtain ⟨q14, e14, h⟩ := Option.bind_eq_some_iff.mp h
    refine g_cVi (As := [.int (6 : Int32), .int v11]) (rest := []) (n := 2) hx hb hml hown hts hK hlo hG (m_X4_fail l dd cT lo G a0 (6 : Int32) v11 e14) qM_X4_55 qI_yX4_fail qS_X4_yX4_fail qN_X4 qC_yX4_fail (by decide +kernel) ⟨Nat.le_of_ble_eq_true rfl, Nat.le_of_ble_eq_true rfl⟩ (by rfl) i14 rfl hl.1 rfl (Nat.le_of_ble_eq_true rfl) dX4_doClose_14 ⟨Nat.le_of_ble_eq_true rfl, Nat.le_of_ble_eq_true rfl⟩ (fun H locs hG => ?_)
    obtain ⟨w17, e17, h⟩ := Option.bind_eq_some_iff.mp h
    obtain ⟨n17, rfl⟩ := g_z_nar e17
    obtain ⟨rfl, rfl⟩ := Prod.mk.inj (Option.some.inj h)
    exact g_zret hx hb hr hlocks hK hlo hG n17 ⟨rfl, rfl⟩ dX4_doClose_17
def f_X4_readFile (G : gH) (a0 : Nat) (a1 : Nat) (a2 : Nat) : Option (gH × Int32) :=
    (g_ob G a0 4).bind fun u2 =>
    (f_X4_advance G a0 a1).bind fun G2 =>
    (g_i G2 a0 4 3).bind fun v6 =>
    if v6 = (1 : Int32) then
    (g_j G2 a0 4 7).bind fun v25 =>
    (g_ob G2 a2 1).bind fun u28 =>
    (f_X1_fileNamed G2 a2 v25).bind fun v28 =>
    if v28 = (-1 : Int32) then
    (g_i G2 a0 4 4).bind fun v38 =>
    (g_ob G2 a0 4).bind fun u41 =>
    (f_X4_fail G2 a0 (4 : Int32) v38).bind fun q41 =>
    if q41.2 = 0 then
    some (q41.1, (0 : Int32))
    else
    some (q41.1, (1 : Int32))
    else
    some (G2, (1 : Int32))
    else
    (g_i G2 a0 4 4).bind fun v16 =>
    (g_ob G2 a0 4).bind fun u19 =>
    (f_X4_fail G2 a0 (1 : Int32) v16).bind fun q19 =>
    (g_z q19.2).bind fun w22 => some (q19.1, w22)
set_option maxRecDepth 20000 in
set_option maxHeartbeats 4000000 in
theorem m_X4_readFile (l : Launch) (dd : va_G) (cT : Nat → ClassId) (lo : Nat) (G : gH) (a0 : Nat) (a1 : Nat) (a2 : Nat) {rz : Int32} {Gz : gH} (h : f_X4_readFile G a0 a1 a2 = some (Gz, rz)) : Met l yX4_readFile (Cond.code yX4_readFile cX4_readFile 3 (some .boolean) :: wsL_law) (g_rm 5 110 0 0) (va_Pc [.ref a0, .ref a1, .ref a2] (g_Pre lo dd cT G)) (va_Qi (g_is rz Gz) (g_Pre lo dd cT) (g_A lo)) 0 0 (g_A lo) := by
  refine g_start RX4 rfl (by decide) (Nat.le_of_ble_eq_true rfl) ?_
  intro p e s m below meth c hx hb hr hlocks hml hown hnm hts hK hG hlo ls hl
  have hl : lv_has ls 3 [(0, .ref a0), (1, .ref a1), (2, .ref a2)] := hl
  have hG : g_S lo dd cT s s.heap [] G := hG
  unfold f_X4_readFile at h
  refine lv_aload_n hx hb dX4_readFile_0 rfl (lv_at hl 0 rfl) ?_
  refine lv_aload_n hx hb dX4_readFile_1 rfl (lv_at hl 1 rfl) ?_
  obtain ⟨u2, i2, h⟩ := Option.bind_eq_some_iff.mp h
  obtain ⟨G2, e2, h⟩ := Option.bind_eq_some_iff.mp h
  refine g_cVv (As := [.ref a1]) (rest := []) (n := 1) hx hb hml hown hts hK hlo hG (m_X4_advance l dd cT lo G a0 a1 e2) qM_X4_45 qI_yX4_advance qS_X4_yX4_advance qN_X4 qC_yX4_advance (by decide +kernel) ⟨Nat.le_of_ble_eq_true rfl, Nat.le_of_ble_eq_true rfl⟩ (by rfl) i2 rfl hl.1 rfl (Nat.le_of_ble_eq_true rfl) dX4_readFile_2 ⟨Nat.le_of_ble_eq_true rfl, Nat.le_of_ble_eq_true rfl⟩ (fun H locs hG => ?_)
  refine lv_aload_n hx hb dX4_readFile_5 rfl (lv_at hl 0 rfl) ?_
  obtain ⟨v6, e6, h⟩ := Option.bind_eq_some_iff.mp h
  refine g_geti hx hb hts inlX4 hown hK hG (by rfl) 3 (by decide) qF_X4_21 e6 dX4_readFile_6 ?_
  refine lv_iconst (v := (1 : Int32)) hx hb dX4_readFile_9 (by decide) ?_
  refine lv_icmp_eq (tgt := 23) hx hb dX4_readFile_10 (by decide) (fun c10 => ?_) (fun c10 => ?_)
  · rw [if_pos c10] at h
    refine lv_aload_n hx hb dX4_readFile_23 rfl (lv_at hl 2 rfl) ?_
    refine lv_aload_n hx hb dX4_readFile_24 rfl (lv_at hl 0 rfl) ?_
    obtain ⟨v25, e25, h⟩ := Option.bind_eq_some_iff.mp h
    refine g_getj hx hb hts inlX4 hown hK hG (by rfl) 7 (by decide) qF_X4_33 e25 dX4_readFile_25 ?_
    obtain ⟨u28, i28, h⟩ := Option.bind_eq_some_iff.mp h
    obtain ⟨v28, e28, h⟩ := Option.bind_eq_some_iff.mp h
    refine g_cVi (As := [.long v25]) (rest := []) (n := 1) hx hb hml hown hts hK hlo hG (m_X1_fileNamed l dd cT lo G2 a2 v25 e28) qM_X4_132 qI_yX1_fileNamed qS_X1_yX1_fileNamed qN_X1 qC_yX1_fileNamed (by decide +kernel) ⟨Nat.le_of_ble_eq_true rfl, Nat.le_of_ble_eq_true rfl⟩ (by rfl) i28 rfl hl.1 rfl (Nat.le_of_ble_eq_true rfl) dX4_readFile_28 ⟨Nat.le_of_ble_eq_true rfl, Nat.le_of_ble_eq_true rfl⟩ (fun H locs hG => ?_)
    refine lv_iconst (v := (-1 : Int32)) hx hb dX4_readFile_31 (by decide) ?_
    refine lv_icmp_ne (tgt := 47) hx hb dX4_readFile_32 (by decide) (fun c32 => ?_) (fun c32 => ?_)
    · rw [if_neg c32] at h
      refine lv_iconst (v := (1 : Int32)) hx hb dX4_readFile_47 (by decide) ?_
      refine lv_goto (tgt := 52) hx hb dX4_readFile_48 (by decide) ?_
      obtain ⟨rfl, rfl⟩ := Prod.mk.inj (Option.some.inj h)
      exact g_zret hx hb hr hlocks hK hlo hG rfl ⟨rfl, rfl⟩ dX4_readFile_52
    · rw [if_pos c32] at h
      refine lv_aload_n hx hb dX4_readFile_35 rfl (lv_at hl 0 rfl) ?_
      refine lv_iconst (v := (4 : Int32)) hx hb dX4_readFile_36 (by decide) ?_
      refine lv_aload_n hx hb dX4_readFile_37 rfl (lv_at hl 0 rfl) ?_
      obtain ⟨v38, e38, h⟩ := Option.bind_eq_some_iff.mp h
      refine g_geti hx hb hts inlX4 hown hK hG (by rfl) 4 (by decide) qF_X4_24 e38 dX4_readFile_38 ?_
      obtain ⟨u41, i41, h⟩ := Option.bind_eq_some_iff.mp h
      obtain ⟨q41, e41, h⟩ := Option.bind_eq_some_iff.mp h
      refine g_cVi (As := [.int (4 : Int32), .int v38]) (rest := []) (n := 2) hx hb hml hown hts hK hlo hG (m_X4_fail l dd cT lo G2 a0 (4 : Int32) v38 e41) qM_X4_55 qI_yX4_fail qS_X4_yX4_fail qN_X4 qC_yX4_fail (by decide +kernel) ⟨Nat.le_of_ble_eq_true rfl, Nat.le_of_ble_eq_true rfl⟩ (by rfl) i41 rfl hl.1 rfl (Nat.le_of_ble_eq_true rfl) dX4_readFile_41 ⟨Nat.le_of_ble_eq_true rfl, Nat.le_of_ble_eq_true rfl⟩ (fun H locs hG => ?_)
      refine lv_if_eq (tgt := 51) hx hb dX4_readFile_44 (by decide) (fun c44 => ?_) (fun c44 => ?_)
      · rw [if_pos c44] at h
        refine lv_iconst (v := (0 : Int32)) hx hb dX4_readFile_51 (by decide) ?_
        obtain ⟨rfl, rfl⟩ := Prod.mk.inj (Option.some.inj h)
        exact g_zret hx hb hr hlocks hK hlo hG rfl ⟨rfl, rfl⟩ dX4_readFile_52
      · rw [if_neg c44] at h
        refine lv_iconst (v := (1 : Int32)) hx hb dX4_readFile_47 (by decide) ?_
        refine lv_goto (tgt := 52) hx hb dX4_readFile_48 (by decide) ?_
        obtain ⟨rfl, rfl⟩ := Prod.mk.inj (Option.some.inj h)
        exact g_zret hx hb hr hlocks hK hlo hG rfl ⟨rfl, rfl⟩ dX4_readFile_52
  · rw [if_neg c10] at h
    refine lv_aload_n hx hb dX4_readFile_13 rfl (lv_at hl 0 rfl) ?_
    refine lv_iconst (v := (1 : Int32)) hx hb dX4_readFile_14 (by decide) ?_
    refine lv_aload_n hx hb dX4_readFile_15 rfl (lv_at hl 0 rfl) ?_
    obtain ⟨v16, e16, h⟩ := Option.bind_eq_some_iff.mp h
    refine g_geti hx hb hts inlX4 hown hK hG (by rfl) 4 (by decide) qF_X4_24 e16 dX4_readFile_16 ?_
    obtain ⟨u19, i19, h⟩ := Option.bind_eq_some_iff.mp h
    obtain ⟨q19, e19, h⟩ := Option.bind_eq_some_iff.mp h
    refine g_cVi (As := [.int (1 : Int32), .int v16]) (rest := []) (n := 2) hx hb hml hown hts hK hlo hG (m_X4_fail l dd cT lo G2 a0 (1 : Int32) v16 e19) qM_X4_55 qI_yX4_fail qS_X4_yX4_fail qN_X4 qC_yX4_fail (by decide +kernel) ⟨Nat.le_of_ble_eq_true rfl, Nat.le_of_ble_eq_true rfl⟩ (by rfl) i19 rfl hl.1 rfl (Nat.le_of_ble_eq_true rfl) dX4_readFile_19 ⟨Nat.le_of_ble_eq_true rfl, Nat.le_of_ble_eq_true rfl⟩ (fun H locs hG => ?_)
    obtain ⟨w22, e22, h⟩ := Option.bind_eq_some_iff.mp h
    obtain ⟨n22, rfl⟩ := g_z_nar e22
    obtain ⟨rfl, rfl⟩ := Prod.mk.inj (Option.some.inj h)
    exact g_zret hx hb hr hlocks hK hlo hG n22 ⟨rfl, rfl⟩ dX4_readFile_22
def f_X4_readNumber_J39 (G : gH) (ba0 : Nat) : Option (gH × Int32) :=
    (g_i G ba0 4 4).bind fun v42 =>
    (g_ob G ba0 4).bind fun u45 =>
    (f_X4_fail G ba0 (3 : Int32) v42).bind fun q45 =>
    if q45.2 = 0 then
    some (q45.1, (0 : Int32))
    else
    some (q45.1, (1 : Int32))
def f_X4_readNumber (G : gH) (a0 : Nat) (a1 : Nat) (x2 : Int32) (x3 : Int32) : Option (gH × Int32) :=
    (g_ob G a0 4).bind fun u2 =>
    (f_X4_advance G a0 a1).bind fun G2 =>
    (g_i G2 a0 4 3).bind fun v6 =>
    if v6 = (2 : Int32) then
    (g_i G2 a0 4 6).bind fun v24 =>
    if v24 < x2 then
    f_X4_readNumber_J39 G2 a0
    else
    (g_i G2 a0 4 6).bind fun v32 =>
    if v32 ≤ x3 then
    some (G2, (1 : Int32))
    else
    f_X4_readNumber_J39 G2 a0
    else
    (g_i G2 a0 4 4).bind fun v16 =>
    (g_ob G2 a0 4).bind fun u19 =>
    (f_X4_fail G2 a0 (1 : Int32) v16).bind fun q19 =>
    (g_z q19.2).bind fun w22 => some (q19.1, w22)
set_option maxRecDepth 20000 in
set_option maxHeartbeats 4000000 in
theorem m_X4_readNumber (l : Launch) (dd : va_G) (cT : Nat → ClassId) (lo : Nat) (G : gH) (a0 : Nat) (a1 : Nat) (x2 : Int32) (x3 : Int32) {rz : Int32} {Gz : gH} (h : f_X4_readNumber G a0 a1 x2 x3 = some (Gz, rz)) : Met l yX4_readNumber (Cond.code yX4_readNumber cX4_readNumber 4 (some .boolean) :: wsL_law) (g_rm 5 110 0 0) (va_Pc [.ref a0, .ref a1, .int x2, .int x3] (g_Pre lo dd cT G)) (va_Qi (g_is rz Gz) (g_Pre lo dd cT) (g_A lo)) 0 0 (g_A lo) := by
  refine g_start RX4 rfl (by decide) (Nat.le_of_ble_eq_true rfl) ?_
  intro p e s m below meth c hx hb hr hlocks hml hown hnm hts hK hG hlo ls hl
  have hl : lv_has ls 4 [(0, .ref a0), (1, .ref a1), (2, .int x2), (3, .int x3)] := hl
  have hG : g_S lo dd cT s s.heap [] G := hG
  have h39 : ∀ (G : gH) (ba0 : Nat), ∀ (H : Heap) (locs : List Loc), g_S lo dd cT s H locs G → ∀ ls : Array Slot, lv_has ls 4 [(0, .ref ba0)] → f_X4_readNumber_J39 G ba0 = some (Gz, rz) → W p l e (g_rm 5 110 0 0) s m ([.ref a0, .ref a1, .int x2, .int x3] : List Value).toArray below meth c H locs 0 0 (MQ below (va_Qi (g_is rz Gz) (g_Pre lo dd cT) (g_A lo)) ([.ref a0, .ref a1, .int x2, .int x3] : List Value).toArray s 0 0 (g_A lo)) (F0 m 39 ls []) := by
    intro G ba0 H locs hG ls hl h
    unfold f_X4_readNumber_J39 at h
    refine lv_aload_n hx hb dX4_readNumber_39 rfl (lv_at hl 0 rfl) ?_
    refine lv_iconst (v := (3 : Int32)) hx hb dX4_readNumber_40 (by decide) ?_
    refine lv_aload_n hx hb dX4_readNumber_41 rfl (lv_at hl 0 rfl) ?_
    obtain ⟨v42, e42, h⟩ := Option.bind_eq_some_iff.mp h
    refine g_geti hx hb hts inlX4 hown hK hG (by rfl) 4 (by decide) qF_X4_24 e42 dX4_readNumber_42 ?_
    obtain ⟨u45, i45, h⟩ := Option.bind_eq_some_iff.mp h
    obtain ⟨q45, e45, h⟩ := Option.bind_eq_some_iff.mp h
    refine g_cVi (As := [.int (3 : Int32), .int v42]) (rest := []) (n := 2) hx hb hml hown hts hK hlo hG (m_X4_fail l dd cT lo G ba0 (3 : Int32) v42 e45) qM_X4_55 qI_yX4_fail qS_X4_yX4_fail qN_X4 qC_yX4_fail (by decide +kernel) ⟨Nat.le_of_ble_eq_true rfl, Nat.le_of_ble_eq_true rfl⟩ (by rfl) i45 rfl hl.1 rfl (Nat.le_of_ble_eq_true rfl) dX4_readNumber_45 ⟨Nat.le_of_ble_eq_true rfl, Nat.le_of_ble_eq_true rfl⟩ (fun H locs hG => ?_)
    refine lv_if_eq (tgt := 55) hx hb dX4_readNumber_48 (by decide) (fun c48 => ?_) (fun c48 => ?_)
    · rw [if_pos c48] at h
      refine lv_iconst (v := (0 : Int32)) hx hb dX4_readNumber_55 (by decide) ?_
      obtain ⟨rfl, rfl⟩ := Prod.mk.inj (Option.some.inj h)
      exact g_zret hx hb hr hlocks hK hlo hG rfl ⟨rfl, rfl⟩ dX4_readNumber_56
    · rw [if_neg c48] at h
      refine lv_iconst (v := (1 : Int32)) hx hb dX4_readNumber_51 (by decide) ?_
      refine lv_goto (tgt := 56) hx hb dX4_readNumber_52 (by decide) ?_
      obtain ⟨rfl, rfl⟩ := Prod.mk.inj (Option.some.inj h)
      exact g_zret hx hb hr hlocks hK hlo hG rfl ⟨rfl, rfl⟩ dX4_readNumber_56
  unfold f_X4_readNumber at h
  refine lv_aload_n hx hb dX4_readNumber_0 rfl (lv_at hl 0 rfl) ?_
  refine lv_aload_n hx hb dX4_readNumber_1 rfl (lv_at hl 1 rfl) ?_
  obtain ⟨u2, i2, h⟩ := Option.bind_eq_some_iff.mp h
  obtain ⟨G2, e2, h⟩ := Option.bind_eq_some_iff.mp h
  refine g_cVv (As := [.ref a1]) (rest := []) (n := 1) hx hb hml hown hts hK hlo hG (m_X4_advance l dd cT lo G a0 a1 e2) qM_X4_45 qI_yX4_advance qS_X4_yX4_advance qN_X4 qC_yX4_advance (by decide +kernel) ⟨Nat.le_of_ble_eq_true rfl, Nat.le_of_ble_eq_true rfl⟩ (by rfl) i2 rfl hl.1 rfl (Nat.le_of_ble_eq_true rfl) dX4_readNumber_2 ⟨Nat.le_of_ble_eq_true rfl, Nat.le_of_ble_eq_true rfl⟩ (fun H locs hG => ?_)
  refine lv_aload_n hx hb dX4_readNumber_5 rfl (lv_at hl 0 rfl) ?_
  obtain ⟨v6, e6, h⟩ := Option.bind_eq_some_iff.mp h
  refine g_geti hx hb hts inlX4 hown hK hG (by rfl) 3 (by decide) qF_X4_21 e6 dX4_readNumber_6 ?_
  refine lv_iconst (v := (2 : Int32)) hx hb dX4_readNumber_9 (by decide) ?_
  refine lv_icmp_eq (tgt := 23) hx hb dX4_readNumber_10 (by decide) (fun c10 => ?_) (fun c10 => ?_)
  · rw [if_pos c10] at h
    refine lv_aload_n hx hb dX4_readNumber_23 rfl (lv_at hl 0 rfl) ?_
    obtain ⟨v24, e24, h⟩ := Option.bind_eq_some_iff.mp h
    refine g_geti hx hb hts inlX4 hown hK hG (by rfl) 6 (by decide) qF_X4_30 e24 dX4_readNumber_24 ?_
    refine lv_iload_n hx hb dX4_readNumber_27 rfl (lv_at hl 2 rfl) ?_
    refine lv_icmp_lt (tgt := 39) hx hb dX4_readNumber_28 (by decide) (fun c28 => ?_) (fun c28 => ?_)
    · rw [if_pos c28] at h
      exact h39 G2 a0 _ _ hG _ (lv_sub hl [0] rfl) h
    · rw [if_neg c28] at h
      refine lv_aload_n hx hb dX4_readNumber_31 rfl (lv_at hl 0 rfl) ?_
      obtain ⟨v32, e32, h⟩ := Option.bind_eq_some_iff.mp h
      refine g_geti hx hb hts inlX4 hown hK hG (by rfl) 6 (by decide) qF_X4_30 e32 dX4_readNumber_32 ?_
      refine lv_iload_n hx hb dX4_readNumber_35 rfl (lv_at hl 3 rfl) ?_
      refine lv_icmp_le (tgt := 51) hx hb dX4_readNumber_36 (by decide) (fun c36 => ?_) (fun c36 => ?_)
      · rw [if_pos c36] at h
        refine lv_iconst (v := (1 : Int32)) hx hb dX4_readNumber_51 (by decide) ?_
        refine lv_goto (tgt := 56) hx hb dX4_readNumber_52 (by decide) ?_
        obtain ⟨rfl, rfl⟩ := Prod.mk.inj (Option.some.inj h)
        exact g_zret hx hb hr hlocks hK hlo hG rfl ⟨rfl, rfl⟩ dX4_readNumber_56
      · rw [if_neg c36] at h
        exact h39 G2 a0 _ _ hG _ (lv_sub hl [0] rfl) h
  · rw [if_neg c10] at h
    refine lv_aload_n hx hb dX4_readNumber_13 rfl (lv_at hl 0 rfl) ?_
    refine lv_iconst (v := (1 : Int32)) hx hb dX4_readNumber_14 (by decide) ?_
    refine lv_aload_n hx hb dX4_readNumber_15 rfl (lv_at hl 0 rfl) ?_
    obtain ⟨v16, e16, h⟩ := Option.bind_eq_some_iff.mp h
    refine g_geti hx hb hts inlX4 hown hK hG (by rfl) 4 (by decide) qF_X4_24 e16 dX4_readNumber_16 ?_
    obtain ⟨u19, i19, h⟩ := Option.bind_eq_some_iff.mp h
    obtain ⟨q19, e19, h⟩ := Option.bind_eq_some_iff.mp h
    refine g_cVi (As := [.int (1 : Int32), .int v16]) (rest := []) (n := 2) hx hb hml hown hts hK hlo hG (m_X4_fail l dd cT lo G2 a0 (1 : Int32) v16 e19) qM_X4_55 qI_yX4_fail qS_X4_yX4_fail qN_X4 qC_yX4_fail (by decide +kernel) ⟨Nat.le_of_ble_eq_true rfl, Nat.le_of_ble_eq_true rfl⟩ (by rfl) i19 rfl hl.1 rfl (Nat.le_of_ble_eq_true rfl) dX4_readNumber_19 ⟨Nat.le_of_ble_eq_true rfl, Nat.le_of_ble_eq_true rfl⟩ (fun H locs hG => ?_)
    obtain ⟨w22, e22, h⟩ := Option.bind_eq_some_iff.mp h
    obtain ⟨n22, rfl⟩ := g_z_nar e22
    obtain ⟨rfl, rfl⟩ := Prod.mk.inj (Option.some.inj h)
    exact g_zret hx hb hr hlocks hK hlo hG n22 ⟨rfl, rfl⟩ dX4_readNumber_22
def f_X4_readSemicolon (G : gH) (a0 : Nat) (a1 : Nat) : Option (gH × Int32) :=
    (g_ob G a0 4).bind fun u2 =>
    (f_X4_advance G a0 a1).bind fun G2 =>
    (g_i G2 a0 4 3).bind fun v6 =>
    if v6 = (3 : Int32) then
    some (G2, (1 : Int32))
    else
    (g_i G2 a0 4 4).bind fun v16 =>
    (g_ob G2 a0 4).bind fun u19 =>
    (f_X4_fail G2 a0 (1 : Int32) v16).bind fun q19 =>
    if q19.2 = 0 then
    some (q19.1, (0 : Int32))
    else
    some (q19.1, (1 : Int32))
set_option maxRecDepth 20000 in
set_option maxHeartbeats 4000000 in
theorem m_X4_readSemicolon (l : Launch) (dd : va_G) (cT : Nat → ClassId) (lo : Nat) (G : gH) (a0 : Nat) (a1 : Nat) {rz : Int32} {Gz : gH} (h : f_X4_readSemicolon G a0 a1 = some (Gz, rz)) : Met l yX4_readSemicolon (Cond.code yX4_readSemicolon cX4_readSemicolon 2 (some .boolean) :: wsL_law) (g_rm 5 110 0 0) (va_Pc [.ref a0, .ref a1] (g_Pre lo dd cT G)) (va_Qi (g_is rz Gz) (g_Pre lo dd cT) (g_A lo)) 0 0 (g_A lo) := by
  refine g_start RX4 rfl (by decide) (Nat.le_of_ble_eq_true rfl) ?_
  intro p e s m below meth c hx hb hr hlocks hml hown hnm hts hK hG hlo ls hl
  have hl : lv_has ls 2 [(0, .ref a0), (1, .ref a1)] := hl
  have hG : g_S lo dd cT s s.heap [] G := hG
  unfold f_X4_readSemicolon at h
  refine lv_aload_n hx hb dX4_readSemicolon_0 rfl (lv_at hl 0 rfl) ?_
  refine lv_aload_n hx hb dX4_readSemicolon_1 rfl (lv_at hl 1 rfl) ?_
  obtain ⟨u2, i2, h⟩ := Option.bind_eq_some_iff.mp h
  obtain ⟨G2, e2, h⟩ := Option.bind_eq_some_iff.mp h
  refine g_cVv (As := [.ref a1]) (rest := []) (n := 1) hx hb hml hown hts hK hlo hG (m_X4_advance l dd cT lo G a0 a1 e2) qM_X4_45 qI_yX4_advance qS_X4_yX4_advance qN_X4 qC_yX4_advance (by decide +kernel) ⟨Nat.le_of_ble_eq_true rfl, Nat.le_of_ble_eq_true rfl⟩ (by rfl) i2 rfl hl.1 rfl (Nat.le_of_ble_eq_true rfl) dX4_readSemicolon_2 ⟨Nat.le_of_ble_eq_true rfl, Nat.le_of_ble_eq_true rfl⟩ (fun H locs hG => ?_)
  refine lv_aload_n hx hb dX4_readSemicolon_5 rfl (lv_at hl 0 rfl) ?_
  obtain ⟨v6, e6, h⟩ := Option.bind_eq_some_iff.mp h
  refine g_geti hx hb hts inlX4 hown hK hG (by rfl) 3 (by decide) qF_X4_21 e6 dX4_readSemicolon_6 ?_
  refine lv_iconst (v := (3 : Int32)) hx hb dX4_readSemicolon_9 (by decide) ?_
  refine lv_icmp_eq (tgt := 25) hx hb dX4_readSemicolon_10 (by decide) (fun c10 => ?_) (fun c10 => ?_)
  · rw [if_pos c10] at h
    refine lv_iconst (v := (1 : Int32)) hx hb dX4_readSemicolon_25 (by decide) ?_
    refine lv_goto (tgt := 30) hx hb dX4_readSemicolon_26 (by decide) ?_
    obtain ⟨rfl, rfl⟩ := Prod.mk.inj (Option.some.inj h)
    exact g_zret hx hb hr hlocks hK hlo hG rfl ⟨rfl, rfl⟩ dX4_readSemicolon_30
  · rw [if_neg c10] at h
    refine lv_aload_n hx hb dX4_readSemicolon_13 rfl (lv_at hl 0 rfl) ?_
    refine lv_iconst (v := (1 : Int32)) hx hb dX4_readSemicolon_14 (by decide) ?_
    refine lv_aload_n hx hb dX4_readSemicolon_15 rfl (lv_at hl 0 rfl) ?_
    obtain ⟨v16, e16, h⟩ := Option.bind_eq_some_iff.mp h
    refine g_geti hx hb hts inlX4 hown hK hG (by rfl) 4 (by decide) qF_X4_24 e16 dX4_readSemicolon_16 ?_
    obtain ⟨u19, i19, h⟩ := Option.bind_eq_some_iff.mp h
    obtain ⟨q19, e19, h⟩ := Option.bind_eq_some_iff.mp h
    refine g_cVi (As := [.int (1 : Int32), .int v16]) (rest := []) (n := 2) hx hb hml hown hts hK hlo hG (m_X4_fail l dd cT lo G2 a0 (1 : Int32) v16 e19) qM_X4_55 qI_yX4_fail qS_X4_yX4_fail qN_X4 qC_yX4_fail (by decide +kernel) ⟨Nat.le_of_ble_eq_true rfl, Nat.le_of_ble_eq_true rfl⟩ (by rfl) i19 rfl hl.1 rfl (Nat.le_of_ble_eq_true rfl) dX4_readSemicolon_19 ⟨Nat.le_of_ble_eq_true rfl, Nat.le_of_ble_eq_true rfl⟩ (fun H locs hG => ?_)
    refine lv_if_eq (tgt := 29) hx hb dX4_readSemicolon_22 (by decide) (fun c22 => ?_) (fun c22 => ?_)
    · rw [if_pos c22] at h
      refine lv_iconst (v := (0 : Int32)) hx hb dX4_readSemicolon_29 (by decide) ?_
      obtain ⟨rfl, rfl⟩ := Prod.mk.inj (Option.some.inj h)
      exact g_zret hx hb hr hlocks hK hlo hG rfl ⟨rfl, rfl⟩ dX4_readSemicolon_30
    · rw [if_neg c22] at h
      refine lv_iconst (v := (1 : Int32)) hx hb dX4_readSemicolon_25 (by decide) ?_
      refine lv_goto (tgt := 30) hx hb dX4_readSemicolon_26 (by decide) ?_
      obtain ⟨rfl, rfl⟩ := Prod.mk.inj (Option.some.inj h)
      exact g_zret hx hb hr hlocks hK hlo hG rfl ⟨rfl, rfl⟩ dX4_readSemicolon_30
def f_X8_update_L15 : Nat → gH → Nat → Nat → Int32 → Option gH
  | 0, _, _, _, _ => none
  | n + 1, G, ba0, ba1, bx2 =>
    (g_i G ba0 8 0).bind fun v17 =>
    if v17 ≤ bx2 then
    some G
    else
    (g_r G ba1 1 2).bind fun v25 =>
    (g_r G ba1 1 2).bind fun v30 =>
    (g_i G v30 5 0).bind fun v33 =>
    (g_ob G ba0 8).bind fun u36 =>
    (f_X8_sessionThatCounts G ba0 v25 bx2 v33).bind fun v36 =>
    (g_r G ba1 1 2).bind fun v41 =>
    (g_r G ba1 1 2).bind fun v45 =>
    (g_ob G v45 5).bind fun u50 =>
    (f_X5_slotOfFile G v45 v36 bx2).bind fun v50 =>
    (g_ob G v41 5).bind fun u53 =>
    (f_X5_versionIn G v41 v50).bind fun v53 =>
    (g_r G ba0 8 2).bind fun v59 =>
    (f_X9_put G v59 bx2 v36).bind fun G64 =>
    (g_r G64 ba0 8 3).bind fun v68 =>
    (f_X9_put G64 v68 bx2 v53).bind fun G74 =>
    (g_r G74 ba0 8 4).bind fun v78 =>
    if v53 = (-1 : Int32) then
    (f_X9_mark G74 v78 bx2 (0 : Int32)).bind fun G102 =>
    f_X8_update_L15 n G102 ba0 ba1 (bx2 + (1 : Int32))
    else
    (g_ob G74 ba1 1).bind fun u91 =>
    (f_X1_canReadVersion G74 ba1 v53).bind fun v91 =>
    if v91 = 0 then
    (f_X9_mark G74 v78 bx2 (0 : Int32)).bind fun G102 =>
    f_X8_update_L15 n G102 ba0 ba1 (bx2 + (1 : Int32))
    else
    (f_X9_mark G74 v78 bx2 (1 : Int32)).bind fun G102 =>
    f_X8_update_L15 n G102 ba0 ba1 (bx2 + (1 : Int32))
def f_X8_update (G : gH) (a0 : Nat) (a1 : Nat) : Option gH :=
    (g_i G a1 1 3).bind fun v2 =>
    (g_put G a0 8 0 (.int v2)).bind fun G5 =>
    (g_ob G5 a0 8).bind fun u10 =>
    (f_X8_markReached G5 a0 a1).bind fun G10 =>
    f_X8_update_L15 g_N G10 a0 a1 (0 : Int32)
set_option maxRecDepth 20000 in
set_option maxHeartbeats 4000000 in
theorem m_X8_update (l : Launch) (dd : va_G) (cT : Nat → ClassId) (lo : Nat) (G : gH) (a0 : Nat) (a1 : Nat) {Gz : gH} (h : f_X8_update G a0 a1 = some Gz) : Met l yX8_update (Cond.code yX8_update cX8_update 5 none :: wsL_law) (g_rm 5 113 0 0) (va_Pc [.ref a0, .ref a1] (g_Pre lo dd cT G)) (va_Qv (g_iv Gz) (g_Pre lo dd cT) (g_A lo)) 0 0 (g_A lo) := by
  refine g_start RX8 rfl (by decide) (Nat.le_of_ble_eq_true rfl) ?_
  intro p e s m below meth c hx hb hr hlocks hml hown hnm hts hK hG hlo ls hl
  have hl : lv_has ls 5 [(0, .ref a0), (1, .ref a1)] := hl
  have hG : g_S lo dd cT s s.heap [] G := hG
  have h15 : ∀ n : Nat, ∀ (G : gH) (ba0 : Nat) (ba1 : Nat) (bx2 : Int32), ∀ (H : Heap) (locs : List Loc), g_S lo dd cT s H locs G → ∀ ls : Array Slot, lv_has ls 5 [(0, .ref ba0), (1, .ref ba1), (2, .int bx2)] → f_X8_update_L15 n G ba0 ba1 bx2 = some Gz → W p l e (g_rm 5 113 0 0) s m ([.ref a0, .ref a1] : List Value).toArray below meth c H locs 0 0 (MQ below (va_Qv (g_iv Gz) (g_Pre lo dd cT) (g_A lo)) ([.ref a0, .ref a1] : List Value).toArray s 0 0 (g_A lo)) (F0 m 15 ls []) := by
    intro n
    induction n with
    | zero =>
      intro G ba0 ba1 bx2 H locs hG ls hl h
      cases (show (none : Option gH) = some Gz from h)
    | succ n ih =>
      intro G ba0 ba1 bx2 H locs hG ls hl h
      rw [f_X8_update_L15] at h
      refine lv_iload_n hx hb dX8_update_15 rfl (lv_at hl 2 rfl) ?_
      refine lv_aload_n hx hb dX8_update_16 rfl (lv_at hl 0 rfl) ?_
      obtain ⟨v17, e17, h⟩ := Option.bind_eq_some_iff.mp h
      refine g_geti hx hb hts inlX8 hown hK hG (by rfl) 0 (by decide) qF_X8_9 e17 dX8_update_17 ?_
      refine lv_icmp_ge (tgt := 111) hx hb dX8_update_20 (by decide) (fun c20 => ?_) (fun c20 => ?_)
      · rw [if_pos c20] at h
        obtain rfl := Option.some.inj h
        exact g_vret hx hb hr hlocks hK hlo hG rfl dX8_update_111
      · rw [if_neg c20] at h
        refine lv_aload_n hx hb dX8_update_23 rfl (lv_at hl 0 rfl) ?_
        refine lv_aload_n hx hb dX8_update_24 rfl (lv_at hl 1 rfl) ?_
        obtain ⟨v25, e25, h⟩ := Option.bind_eq_some_iff.mp h
        refine g_getr hx hb hts inlX1 hown hK hG (by rfl) 2 (by decide) qF_X8_36 e25 dX8_update_25 ?_
        refine lv_iload_n hx hb dX8_update_28 rfl (lv_at hl 2 rfl) ?_
        refine lv_aload_n hx hb dX8_update_29 rfl (lv_at hl 1 rfl) ?_
        obtain ⟨v30, e30, h⟩ := Option.bind_eq_some_iff.mp h
        refine g_getr hx hb hts inlX1 hown hK hG (by rfl) 2 (by decide) qF_X8_36 e30 dX8_update_30 ?_
        obtain ⟨v33, e33, h⟩ := Option.bind_eq_some_iff.mp h
        refine g_geti hx hb hts inlX5 hown hK hG (by rfl) 0 (by decide) qF_X8_39 e33 dX8_update_33 ?_
        obtain ⟨u36, i36, h⟩ := Option.bind_eq_some_iff.mp h
        obtain ⟨v36, e36, h⟩ := Option.bind_eq_some_iff.mp h
        refine g_cVi (As := [.ref v25, .int bx2, .int v33]) (rest := []) (n := 3) hx hb hml hown hts hK hlo hG (m_X8_sessionThatCounts l dd cT lo G ba0 v25 bx2 v33 e36) qM_X8_44 qI_yX8_sessionThatCounts qS_X8_yX8_sessionThatCounts qN_X8 qC_yX8_sessionThatCounts (by decide +kernel) ⟨Nat.le_of_ble_eq_true rfl, Nat.le_of_ble_eq_true rfl⟩ (by rfl) i36 rfl hl.1 rfl (Nat.le_of_ble_eq_true rfl) dX8_update_36 ⟨Nat.le_of_ble_eq_true rfl, Nat.le_of_ble_eq_true rfl⟩ (fun H locs hG => ?_)
        refine lv_istore_n (lv' := [(3, .int v36), (0, .ref ba0), (1, .ref ba1), (2, .int bx2)]) hx hb dX8_update_39 rfl hl (by decide) rfl (fun ls hl => ?_)
        refine lv_aload_n hx hb dX8_update_40 rfl (lv_at hl 2 rfl) ?_
        obtain ⟨v41, e41, h⟩ := Option.bind_eq_some_iff.mp h
        refine g_getr hx hb hts inlX1 hown hK hG (by rfl) 2 (by decide) qF_X8_36 e41 dX8_update_41 ?_
        refine lv_aload_n hx hb dX8_update_44 rfl (lv_at hl 2 rfl) ?_
        obtain ⟨v45, e45, h⟩ := Option.bind_eq_some_iff.mp h
        refine g_getr hx hb hts inlX1 hown hK hG (by rfl) 2 (by decide) qF_X8_36 e45 dX8_update_45 ?_
        refine lv_iload_n hx hb dX8_update_48 rfl (lv_at hl 0 rfl) ?_
        refine lv_iload_n hx hb dX8_update_49 rfl (lv_at hl 3 rfl) ?_
        obtain ⟨u50, i50, h⟩ := Option.bind_eq_some_iff.mp h
        obtain ⟨v50, e50, h⟩ := Option.bind_eq_some_iff.mp h
        refine g_cVi (As := [.int v36, .int bx2]) (rest := [.ref v41]) (n := 2) hx hb hml hown hts hK hlo hG (m_X5_slotOfFile l dd cT lo G v45 v36 bx2 e50) qM_X8_48 qI_yX5_slotOfFile qS_X5_yX5_slotOfFile qN_X5 qC_yX5_slotOfFile (by decide +kernel) ⟨Nat.le_of_ble_eq_true rfl, Nat.le_of_ble_eq_true rfl⟩ (by rfl) i50 rfl hl.1 rfl (Nat.le_of_ble_eq_true rfl) dX8_update_50 ⟨Nat.le_of_ble_eq_true rfl, Nat.le_of_ble_eq_true rfl⟩ (fun H locs hG => ?_)
        obtain ⟨u53, i53, h⟩ := Option.bind_eq_some_iff.mp h
        obtain ⟨v53, e53, h⟩ := Option.bind_eq_some_iff.mp h
        refine g_cVi (As := [.int v50]) (rest := []) (n := 1) hx hb hml hown hts hK hlo hG (m_X5_versionIn l dd cT lo G v41 v50 e53) qM_X8_52 qI_yX5_versionIn qS_X5_yX5_versionIn qN_X5 qC_yX5_versionIn (by decide +kernel) ⟨Nat.le_of_ble_eq_true rfl, Nat.le_of_ble_eq_true rfl⟩ (by rfl) i53 rfl hl.1 rfl (Nat.le_of_ble_eq_true rfl) dX8_update_53 ⟨Nat.le_of_ble_eq_true rfl, Nat.le_of_ble_eq_true rfl⟩ (fun H locs hG => ?_)
        refine lv_istore (lv' := [(4, .int v53), (3, .int v36), (0, .ref ba0), (1, .ref ba1), (2, .int bx2)]) hx hb dX8_update_56 hl (by decide) rfl (fun ls hl => ?_)
        refine lv_aload_n hx hb dX8_update_58 rfl (lv_at hl 2 rfl) ?_
        obtain ⟨v59, e59, h⟩ := Option.bind_eq_some_iff.mp h
        refine g_getr hx hb hts inlX8 hown hK hG (by rfl) 2 (by decide) qF_X8_19 e59 dX8_update_59 ?_
        refine lv_iload_n hx hb dX8_update_62 rfl (lv_at hl 4 rfl) ?_
        refine lv_iload_n hx hb dX8_update_63 rfl (lv_at hl 1 rfl) ?_
        obtain ⟨G64, e64, h⟩ := Option.bind_eq_some_iff.mp h
        refine g_cNv (As := [.ref v59, .int bx2, .int v36]) (rest := []) (n := 3) hx hb hml hown hts hK hlo hG (m_X9_put l dd cT lo G v59 bx2 v36 e64) (List.mem_of_getElem? (i := 41) rfl) qT_yX9_put qN_X9 qC_yX9_put (by decide +kernel) ⟨Nat.le_of_ble_eq_true rfl, Nat.le_of_ble_eq_true rfl⟩ rfl hl.1 rfl (Nat.le_of_ble_eq_true rfl) dX8_update_64 ⟨Nat.le_of_ble_eq_true rfl, Nat.le_of_ble_eq_true rfl⟩ (fun H locs hG => ?_)
        refine lv_aload_n hx hb dX8_update_67 rfl (lv_at hl 2 rfl) ?_
        obtain ⟨v68, e68, h⟩ := Option.bind_eq_some_iff.mp h
        refine g_getr hx hb hts inlX8 hown hK hG (by rfl) 3 (by decide) qF_X8_23 e68 dX8_update_68 ?_
        refine lv_iload_n hx hb dX8_update_71 rfl (lv_at hl 4 rfl) ?_
        refine lv_iload hx hb dX8_update_72 (lv_at hl 0 rfl) ?_
        obtain ⟨G74, e74, h⟩ := Option.bind_eq_some_iff.mp h
        refine g_cNv (As := [.ref v68, .int bx2, .int v53]) (rest := []) (n := 3) hx hb hml hown hts hK hlo hG (m_X9_put l dd cT lo G64 v68 bx2 v53 e74) (List.mem_of_getElem? (i := 41) rfl) qT_yX9_put qN_X9 qC_yX9_put (by decide +kernel) ⟨Nat.le_of_ble_eq_true rfl, Nat.le_of_ble_eq_true rfl⟩ rfl hl.1 rfl (Nat.le_of_ble_eq_true rfl) dX8_update_74 ⟨Nat.le_of_ble_eq_true rfl, Nat.le_of_ble_eq_true rfl⟩ (fun H locs hG => ?_)
        refine lv_aload_n hx hb dX8_update_77 rfl (lv_at hl 2 rfl) ?_
        obtain ⟨v78, e78, h⟩ := Option.bind_eq_some_iff.mp h
        refine g_getr hx hb hts inlX8 hown hK hG (by rfl) 4 (by decide) qF_X8_26 e78 dX8_update_78 ?_
        refine lv_iload_n hx hb dX8_update_81 rfl (lv_at hl 4 rfl) ?_
        refine lv_iload hx hb dX8_update_82 (lv_at hl 0 rfl) ?_
        refine lv_iconst (v := (-1 : Int32)) hx hb dX8_update_84 (by decide) ?_
        refine lv_icmp_eq (tgt := 101) hx hb dX8_update_85 (by decide) (fun c85 => ?_) (fun c85 => ?_)
        · rw [if_pos c85] at h
          refine lv_iconst (v := (0 : Int32)) hx hb dX8_update_101 (by decide) ?_
          obtain ⟨G102, e102, h⟩ := Option.bind_eq_some_iff.mp h
          refine g_cNv (As := [.ref v78, .int bx2, .int (0 : Int32)]) (rest := []) (n := 3) hx hb hml hown hts hK hlo hG (m_X9_mark l dd cT lo G74 v78 bx2 (0 : Int32) e102) (List.mem_of_getElem? (i := 42) rfl) qT_yX9_mark qN_X9 qC_yX9_mark (by decide +kernel) ⟨Nat.le_of_ble_eq_true rfl, Nat.le_of_ble_eq_true rfl⟩ rfl hl.1 rfl (Nat.le_of_ble_eq_true rfl) dX8_update_102 ⟨Nat.le_of_ble_eq_true rfl, Nat.le_of_ble_eq_true rfl⟩ (fun H locs hG => ?_)
          refine lv_iinc (v := (bx2 + (1 : Int32))) (lv' := [(2, .int (bx2 + (1 : Int32))), (4, .int v53), (3, .int v36), (0, .ref ba0), (1, .ref ba1)]) hx hb dX8_update_105 hl (k := 4) rfl rfl (by decide) rfl (fun ls hl => ?_)
          refine lv_goto (tgt := 15) hx hb dX8_update_108 (by decide) ?_
          exact ih G102 ba0 ba1 (bx2 + (1 : Int32)) _ _ hG _ (lv_sub hl [3, 4, 0] rfl) h
        · rw [if_neg c85] at h
          refine lv_aload_n hx hb dX8_update_88 rfl (lv_at hl 3 rfl) ?_
          refine lv_iload hx hb dX8_update_89 (lv_at hl 0 rfl) ?_
          obtain ⟨u91, i91, h⟩ := Option.bind_eq_some_iff.mp h
          obtain ⟨v91, e91, h⟩ := Option.bind_eq_some_iff.mp h
          refine g_cVi (As := [.int v53]) (rest := [.int bx2, .ref v78]) (n := 1) hx hb hml hown hts hK hlo hG (m_X1_canReadVersion l dd cT lo G74 ba1 v53 e91) qM_X8_60 qI_yX1_canReadVersion qS_X1_yX1_canReadVersion qN_X1 qC_yX1_canReadVersion (by decide +kernel) ⟨Nat.le_of_ble_eq_true rfl, Nat.le_of_ble_eq_true rfl⟩ (by rfl) i91 rfl hl.1 rfl (Nat.le_of_ble_eq_true rfl) dX8_update_91 ⟨Nat.le_of_ble_eq_true rfl, Nat.le_of_ble_eq_true rfl⟩ (fun H locs hG => ?_)
          refine lv_if_eq (tgt := 101) hx hb dX8_update_94 (by decide) (fun c94 => ?_) (fun c94 => ?_)
          · rw [if_pos c94] at h
            refine lv_iconst (v := (0 : Int32)) hx hb dX8_update_101 (by decide) ?_
            obtain ⟨G102, e102, h⟩ := Option.bind_eq_some_iff.mp h
            refine g_cNv (As := [.ref v78, .int bx2, .int (0 : Int32)]) (rest := []) (n := 3) hx hb hml hown hts hK hlo hG (m_X9_mark l dd cT lo G74 v78 bx2 (0 : Int32) e102) (List.mem_of_getElem? (i := 42) rfl) qT_yX9_mark qN_X9 qC_yX9_mark (by decide +kernel) ⟨Nat.le_of_ble_eq_true rfl, Nat.le_of_ble_eq_true rfl⟩ rfl hl.1 rfl (Nat.le_of_ble_eq_true rfl) dX8_update_102 ⟨Nat.le_of_ble_eq_true rfl, Nat.le_of_ble_eq_true rfl⟩ (fun H locs hG => ?_)
            refine lv_iinc (v := (bx2 + (1 : Int32))) (lv' := [(2, .int (bx2 + (1 : Int32))), (4, .int v53), (3, .int v36), (0, .ref ba0), (1, .ref ba1)]) hx hb dX8_update_105 hl (k := 4) rfl rfl (by decide) rfl (fun ls hl => ?_)
            refine lv_goto (tgt := 15) hx hb dX8_update_108 (by decide) ?_
            exact ih G102 ba0 ba1 (bx2 + (1 : Int32)) _ _ hG _ (lv_sub hl [3, 4, 0] rfl) h
          · rw [if_neg c94] at h
            refine lv_iconst (v := (1 : Int32)) hx hb dX8_update_97 (by decide) ?_
            refine lv_goto (tgt := 102) hx hb dX8_update_98 (by decide) ?_
            obtain ⟨G102, e102, h⟩ := Option.bind_eq_some_iff.mp h
            refine g_cNv (As := [.ref v78, .int bx2, .int (1 : Int32)]) (rest := []) (n := 3) hx hb hml hown hts hK hlo hG (m_X9_mark l dd cT lo G74 v78 bx2 (1 : Int32) e102) (List.mem_of_getElem? (i := 42) rfl) qT_yX9_mark qN_X9 qC_yX9_mark (by decide +kernel) ⟨Nat.le_of_ble_eq_true rfl, Nat.le_of_ble_eq_true rfl⟩ rfl hl.1 rfl (Nat.le_of_ble_eq_true rfl) dX8_update_102 ⟨Nat.le_of_ble_eq_true rfl, Nat.le_of_ble_eq_true rfl⟩ (fun H locs hG => ?_)
            refine lv_iinc (v := (bx2 + (1 : Int32))) (lv' := [(2, .int (bx2 + (1 : Int32))), (4, .int v53), (3, .int v36), (0, .ref ba0), (1, .ref ba1)]) hx hb dX8_update_105 hl (k := 4) rfl rfl (by decide) rfl (fun ls hl => ?_)
            refine lv_goto (tgt := 15) hx hb dX8_update_108 (by decide) ?_
            exact ih G102 ba0 ba1 (bx2 + (1 : Int32)) _ _ hG _ (lv_sub hl [3, 4, 0] rfl) h
  unfold f_X8_update at h
  refine lv_aload_n hx hb dX8_update_0 rfl (lv_at hl 0 rfl) ?_
  refine lv_aload_n hx hb dX8_update_1 rfl (lv_at hl 1 rfl) ?_
  obtain ⟨v2, e2, h⟩ := Option.bind_eq_some_iff.mp h
  refine g_geti hx hb hts inlX1 hown hK hG (by rfl) 3 (by decide) qF_X8_29 e2 dX8_update_2 ?_
  obtain ⟨G5, i5, h⟩ := Option.bind_eq_some_iff.mp h
  refine g_putv hx hb hts inlX8 tyX8 tyX8_ok nmX8 hown hK hG (by rfl) 0 (by decide) qF_X8_9 rfl rfl rfl rfl i5 dX8_update_5 (fun H locs hG => ?_)
  refine lv_aload_n hx hb dX8_update_8 rfl (lv_at hl 0 rfl) ?_
  refine lv_aload_n hx hb dX8_update_9 rfl (lv_at hl 1 rfl) ?_
  obtain ⟨u10, i10, h⟩ := Option.bind_eq_some_iff.mp h
  obtain ⟨G10, e10, h⟩ := Option.bind_eq_some_iff.mp h
  refine g_cVv (As := [.ref a1]) (rest := []) (n := 1) hx hb hml hown hts hK hlo hG (m_X8_markReached l dd cT lo G5 a0 a1 e10) qM_X8_32 qI_yX8_markReached qS_X8_yX8_markReached qN_X8 qC_yX8_markReached (by decide +kernel) ⟨Nat.le_of_ble_eq_true rfl, Nat.le_of_ble_eq_true rfl⟩ (by rfl) i10 rfl hl.1 rfl (Nat.le_of_ble_eq_true rfl) dX8_update_10 ⟨Nat.le_of_ble_eq_true rfl, Nat.le_of_ble_eq_true rfl⟩ (fun H locs hG => ?_)
  refine lv_iconst (v := (0 : Int32)) hx hb dX8_update_13 (by decide) ?_
  refine lv_istore_n (lv' := [(2, .int (0 : Int32)), (0, .ref a0), (1, .ref a1)]) hx hb dX8_update_14 rfl hl (by decide) rfl (fun ls hl => ?_)
  exact h15 g_N G10 a0 a1 (0 : Int32) _ _ hG _ (lv_sub hl [1, 2, 0] rfl) h
def f_X1_look (G : gH) (a0 : Nat) : Option (gH × Nat) :=
    (g_r G a0 1 6).bind fun v1 =>
    (g_ob G v1 8).bind fun u5 =>
    (f_X8_update G v1 a0).bind fun G5 =>
    (g_r G5 a0 1 6).bind fun v9 =>
    some (G5, v9)
set_option maxRecDepth 20000 in
set_option maxHeartbeats 4000000 in
theorem m_X1_look (l : Launch) (dd : va_G) (cT : Nat → ClassId) (lo : Nat) (G : gH) (a0 : Nat) {rz : Nat} {Gz : gH} (h : f_X1_look G a0 = some (Gz, rz)) : Met l yX1_look (Cond.code yX1_look cX1_look 1 (some (.object "OnceDisc$View")) :: wsL_law) (g_rm 6 137 0 0) (va_Pc [.ref a0] (g_Pre lo dd cT G)) (va_Qr (g_iv Gz) (fun G' a t => a = rz ∧ g_Pre lo dd cT G' t) (g_A lo)) 0 0 (g_A lo) := by
  refine g_start RX1 rfl (by decide) (Nat.le_of_ble_eq_true rfl) ?_
  intro p e s m below meth c hx hb hr hlocks hml hown hnm hts hK hG hlo ls hl
  have hl : lv_has ls 1 [(0, .ref a0)] := hl
  have hG : g_S lo dd cT s s.heap [] G := hG
  unfold f_X1_look at h
  refine lv_aload_n hx hb dX1_look_0 rfl (lv_at hl 0 rfl) ?_
  obtain ⟨v1, e1, h⟩ := Option.bind_eq_some_iff.mp h
  refine g_getr hx hb hts inlX1 hown hK hG (by rfl) 6 (by decide) qF_X1_47 e1 dX1_look_1 ?_
  refine lv_aload_n hx hb dX1_look_4 rfl (lv_at hl 0 rfl) ?_
  obtain ⟨u5, i5, h⟩ := Option.bind_eq_some_iff.mp h
  obtain ⟨G5, e5, h⟩ := Option.bind_eq_some_iff.mp h
  refine g_cVv (As := [.ref a0]) (rest := []) (n := 1) hx hb hml hown hts hK hlo hG (m_X8_update l dd cT lo G v1 a0 e5) qM_X1_73 qI_yX8_update qS_X8_yX8_update qN_X8 qC_yX8_update (by decide +kernel) ⟨Nat.le_of_ble_eq_true rfl, Nat.le_of_ble_eq_true rfl⟩ (by rfl) i5 rfl hl.1 rfl (Nat.le_of_ble_eq_true rfl) dX1_look_5 ⟨Nat.le_of_ble_eq_true rfl, Nat.le_of_ble_eq_true rfl⟩ (fun H locs hG => ?_)
  refine lv_aload_n hx hb dX1_look_8 rfl (lv_at hl 0 rfl) ?_
  obtain ⟨v9, e9, h⟩ := Option.bind_eq_some_iff.mp h
  refine g_getr hx hb hts inlX1 hown hK hG (by rfl) 6 (by decide) qF_X1_47 e9 dX1_look_9 ?_
  obtain ⟨rfl, rfl⟩ := Prod.mk.inj (Option.some.inj h)
  exact g_aret hx hb hr hlocks hK hlo hG rfl dX1_look_12
def f_X1_filesLostBy_L59 : Nat → gH → Nat → Nat → Nat → Int32 → Int32 → Option (gH × Int32)
  | 0, _, _, _, _, _, _ => none
  | n + 1, G, ba0, ba2, ba3, bx4, bx5 =>
    (g_i G ba0 1 3).bind fun v62 =>
    if v62 ≤ bx5 then
    some (G, bx4)
    else
    (g_ob G ba2 8).bind fun u73 =>
    (f_X8_isReadable G ba2 bx5).bind fun v73 =>
    if v73 = 0 then
    (f_X9_oneIf G (0 : Int32)).bind fun v93 =>
    f_X1_filesLostBy_L59 n G ba0 ba2 ba3 (bx4 + v93) (bx5 + (1 : Int32))
    else
    (g_ob G ba3 8).bind fun u82 =>
    (f_X8_isReadable G ba3 bx5).bind fun v82 =>
    if v82 = 0 then
    (f_X9_oneIf G (1 : Int32)).bind fun v93 =>
    f_X1_filesLostBy_L59 n G ba0 ba2 ba3 (bx4 + v93) (bx5 + (1 : Int32))
    else
    (f_X9_oneIf G (0 : Int32)).bind fun v93 =>
    f_X1_filesLostBy_L59 n G ba0 ba2 ba3 (bx4 + v93) (bx5 + (1 : Int32))
def f_X1_filesLostBy (G : gH) (a0 : Nat) (x1 : Int32) (a2 : Nat) (a3 : Nat) : Option (gH × Int32) :=
    (g_r G a0 1 0).bind fun v1 =>
    (g_ob G v1 0).bind fun u5 =>
    (f_X0_kindOf G v1 x1).bind fun v5 =>
    if v5 = 0 then
    some (G, (0 : Int32))
    else
    (g_r G a0 1 0).bind fun v12 =>
    (g_ob G v12 0).bind fun u16 =>
    (f_X0_isUnreadable G v12 x1).bind fun v16 =>
    if v16 = 0 then
    (g_r G a0 1 0).bind fun v25 =>
    (g_r G v25 0 5).bind fun v28 =>
    (f_X9_mark G v28 x1 (1 : Int32)).bind fun G33 =>
    (g_ob G33 a3 8).bind fun u38 =>
    (f_X8_update G33 a3 a0).bind fun G38 =>
    (g_r G38 a0 1 0).bind fun v42 =>
    (g_r G38 v42 0 5).bind fun v45 =>
    (f_X9_mark G38 v45 x1 (0 : Int32)).bind fun G50 =>
    f_X1_filesLostBy_L59 g_N G50 a0 a2 a3 (0 : Int32) (0 : Int32)
    else
    some (G, (0 : Int32))
set_option maxRecDepth 20000 in
set_option maxHeartbeats 4000000 in
theorem m_X1_filesLostBy (l : Launch) (dd : va_G) (cT : Nat → ClassId) (lo : Nat) (G : gH) (a0 : Nat) (x1 : Int32) (a2 : Nat) (a3 : Nat) {rz : Int32} {Gz : gH} (h : f_X1_filesLostBy G a0 x1 a2 a3 = some (Gz, rz)) : Met l yX1_filesLostBy (Cond.code yX1_filesLostBy cX1_filesLostBy 6 (some .int) :: wsL_law) (g_rm 6 137 0 0) (va_Pc [.ref a0, .int x1, .ref a2, .ref a3] (g_Pre lo dd cT G)) (va_Qi (g_is rz Gz) (g_Pre lo dd cT) (g_A lo)) 0 0 (g_A lo) := by
  refine g_start RX1 rfl (by decide) (Nat.le_of_ble_eq_true rfl) ?_
  intro p e s m below meth c hx hb hr hlocks hml hown hnm hts hK hG hlo ls hl
  have hl : lv_has ls 6 [(0, .ref a0), (1, .int x1), (2, .ref a2), (3, .ref a3)] := hl
  have hG : g_S lo dd cT s s.heap [] G := hG
  have h59 : ∀ n : Nat, ∀ (G : gH) (ba0 : Nat) (ba2 : Nat) (ba3 : Nat) (bx4 : Int32) (bx5 : Int32), ∀ (H : Heap) (locs : List Loc), g_S lo dd cT s H locs G → ∀ ls : Array Slot, lv_has ls 6 [(0, .ref ba0), (2, .ref ba2), (3, .ref ba3), (4, .int bx4), (5, .int bx5)] → f_X1_filesLostBy_L59 n G ba0 ba2 ba3 bx4 bx5 = some (Gz, rz) → W p l e (g_rm 6 137 0 0) s m ([.ref a0, .int x1, .ref a2, .ref a3] : List Value).toArray below meth c H locs 0 0 (MQ below (va_Qi (g_is rz Gz) (g_Pre lo dd cT) (g_A lo)) ([.ref a0, .int x1, .ref a2, .ref a3] : List Value).toArray s 0 0 (g_A lo)) (F0 m 59 ls []) := by
    intro n
    induction n with
    | zero =>
      intro G ba0 ba2 ba3 bx4 bx5 H locs hG ls hl h
      cases (show (none : Option (gH × Int32)) = some (Gz, rz) from h)
    | succ n ih =>
      intro G ba0 ba2 ba3 bx4 bx5 H locs hG ls hl h
      rw [f_X1_filesLostBy_L59] at h
      refine lv_iload hx hb dX1_filesLostBy_59 (lv_at hl 4 rfl) ?_
      refine lv_aload_n hx hb dX1_filesLostBy_61 rfl (lv_at hl 0 rfl) ?_
      obtain ⟨v62, e62, h⟩ := Option.bind_eq_some_iff.mp h
      refine g_geti hx hb hts inlX1 hown hK hG (by rfl) 3 (by decide) qF_X1_32 e62 dX1_filesLostBy_62 ?_
      refine lv_icmp_ge (tgt := 105) hx hb dX1_filesLostBy_65 (by decide) (fun c65 => ?_) (fun c65 => ?_)
      · rw [if_pos c65] at h
        refine lv_iload hx hb dX1_filesLostBy_105 (lv_at hl 3 rfl) ?_
        obtain ⟨rfl, rfl⟩ := Prod.mk.inj (Option.some.inj h)
        exact g_iret hx hb hr hlocks hK hlo hG ⟨rfl, rfl⟩ dX1_filesLostBy_107
      · rw [if_neg c65] at h
        refine lv_iload hx hb dX1_filesLostBy_68 (lv_at hl 3 rfl) ?_
        refine lv_aload_n hx hb dX1_filesLostBy_70 rfl (lv_at hl 1 rfl) ?_
        refine lv_iload hx hb dX1_filesLostBy_71 (lv_at hl 4 rfl) ?_
        obtain ⟨u73, i73, h⟩ := Option.bind_eq_some_iff.mp h
        obtain ⟨v73, e73, h⟩ := Option.bind_eq_some_iff.mp h
        refine g_cVi (As := [.int bx5]) (rest := [.int bx4]) (n := 1) hx hb hml hown hts hK hlo hG (m_X8_isReadable l dd cT lo G ba2 bx5 e73) qM_X1_121 qI_yX8_isReadable qS_X8_yX8_isReadable qN_X8 qC_yX8_isReadable (by decide +kernel) ⟨Nat.le_of_ble_eq_true rfl, Nat.le_of_ble_eq_true rfl⟩ (by rfl) i73 rfl hl.1 rfl (Nat.le_of_ble_eq_true rfl) dX1_filesLostBy_73 ⟨Nat.le_of_ble_eq_true rfl, Nat.le_of_ble_eq_true rfl⟩ (fun H locs hG => ?_)
        refine lv_if_eq (tgt := 92) hx hb dX1_filesLostBy_76 (by decide) (fun c76 => ?_) (fun c76 => ?_)
        · rw [if_pos c76] at h
          refine lv_iconst (v := (0 : Int32)) hx hb dX1_filesLostBy_92 (by decide) ?_
          obtain ⟨v93, e93, h⟩ := Option.bind_eq_some_iff.mp h
          refine g_cNi (As := [.int (0 : Int32)]) (rest := [.int bx4]) (n := 1) hx hb hml hown hts hK hlo hG (m_X9_oneIf l dd cT lo G (0 : Int32) e93) (List.mem_of_getElem? (i := 21) rfl) qT_yX9_oneIf qN_X9 qC_yX9_oneIf (by decide +kernel) ⟨Nat.le_of_ble_eq_true rfl, Nat.le_of_ble_eq_true rfl⟩ rfl hl.1 rfl (Nat.le_of_ble_eq_true rfl) dX1_filesLostBy_93 ⟨Nat.le_of_ble_eq_true rfl, Nat.le_of_ble_eq_true rfl⟩ (fun H locs hG => ?_)
          refine lv_iadd hx hb dX1_filesLostBy_96 ?_
          refine lv_istore (lv' := [(4, .int (bx4 + v93)), (0, .ref ba0), (2, .ref ba2), (3, .ref ba3), (5, .int bx5)]) hx hb dX1_filesLostBy_97 hl (by decide) rfl (fun ls hl => ?_)
          refine lv_iinc (v := (bx5 + (1 : Int32))) (lv' := [(5, .int (bx5 + (1 : Int32))), (4, .int (bx4 + v93)), (0, .ref ba0), (2, .ref ba2), (3, .ref ba3)]) hx hb dX1_filesLostBy_99 hl (k := 4) rfl rfl (by decide) rfl (fun ls hl => ?_)
          refine lv_goto (tgt := 59) hx hb dX1_filesLostBy_102 (by decide) ?_
          exact ih G ba0 ba2 ba3 (bx4 + v93) (bx5 + (1 : Int32)) _ _ hG _ (lv_sub hl [2, 3, 4, 1, 0] rfl) h
        · rw [if_neg c76] at h
          refine lv_aload_n hx hb dX1_filesLostBy_79 rfl (lv_at hl 2 rfl) ?_
          refine lv_iload hx hb dX1_filesLostBy_80 (lv_at hl 4 rfl) ?_
          obtain ⟨u82, i82, h⟩ := Option.bind_eq_some_iff.mp h
          obtain ⟨v82, e82, h⟩ := Option.bind_eq_some_iff.mp h
          refine g_cVi (As := [.int bx5]) (rest := [.int bx4]) (n := 1) hx hb hml hown hts hK hlo hG (m_X8_isReadable l dd cT lo G ba3 bx5 e82) qM_X1_121 qI_yX8_isReadable qS_X8_yX8_isReadable qN_X8 qC_yX8_isReadable (by decide +kernel) ⟨Nat.le_of_ble_eq_true rfl, Nat.le_of_ble_eq_true rfl⟩ (by rfl) i82 rfl hl.1 rfl (Nat.le_of_ble_eq_true rfl) dX1_filesLostBy_82 ⟨Nat.le_of_ble_eq_true rfl, Nat.le_of_ble_eq_true rfl⟩ (fun H locs hG => ?_)
          refine lv_if_ne (tgt := 92) hx hb dX1_filesLostBy_85 (by decide) (fun c85 => ?_) (fun c85 => ?_)
          · rw [if_neg c85] at h
            refine lv_iconst (v := (0 : Int32)) hx hb dX1_filesLostBy_92 (by decide) ?_
            obtain ⟨v93, e93, h⟩ := Option.bind_eq_some_iff.mp h
            refine g_cNi (As := [.int (0 : Int32)]) (rest := [.int bx4]) (n := 1) hx hb hml hown hts hK hlo hG (m_X9_oneIf l dd cT lo G (0 : Int32) e93) (List.mem_of_getElem? (i := 21) rfl) qT_yX9_oneIf qN_X9 qC_yX9_oneIf (by decide +kernel) ⟨Nat.le_of_ble_eq_true rfl, Nat.le_of_ble_eq_true rfl⟩ rfl hl.1 rfl (Nat.le_of_ble_eq_true rfl) dX1_filesLostBy_93 ⟨Nat.le_of_ble_eq_true rfl, Nat.le_of_ble_eq_true rfl⟩ (fun H locs hG => ?_)
            refine lv_iadd hx hb dX1_filesLostBy_96 ?_
            refine lv_istore (lv' := [(4, .int (bx4 + v93)), (0, .ref ba0), (2, .ref ba2), (3, .ref ba3), (5, .int bx5)]) hx hb dX1_filesLostBy_97 hl (by decide) rfl (fun ls hl => ?_)
            refine lv_iinc (v := (bx5 + (1 : Int32))) (lv' := [(5, .int (bx5 + (1 : Int32))), (4, .int (bx4 + v93)), (0, .ref ba0), (2, .ref ba2), (3, .ref ba3)]) hx hb dX1_filesLostBy_99 hl (k := 4) rfl rfl (by decide) rfl (fun ls hl => ?_)
            refine lv_goto (tgt := 59) hx hb dX1_filesLostBy_102 (by decide) ?_
            exact ih G ba0 ba2 ba3 (bx4 + v93) (bx5 + (1 : Int32)) _ _ hG _ (lv_sub hl [2, 3, 4, 1, 0] rfl) h
          · rw [if_pos c85] at h
            refine lv_iconst (v := (1 : Int32)) hx hb dX1_filesLostBy_88 (by decide) ?_
            refine lv_goto (tgt := 93) hx hb dX1_filesLostBy_89 (by decide) ?_
            obtain ⟨v93, e93, h⟩ := Option.bind_eq_some_iff.mp h
            refine g_cNi (As := [.int (1 : Int32)]) (rest := [.int bx4]) (n := 1) hx hb hml hown hts hK hlo hG (m_X9_oneIf l dd cT lo G (1 : Int32) e93) (List.mem_of_getElem? (i := 21) rfl) qT_yX9_oneIf qN_X9 qC_yX9_oneIf (by decide +kernel) ⟨Nat.le_of_ble_eq_true rfl, Nat.le_of_ble_eq_true rfl⟩ rfl hl.1 rfl (Nat.le_of_ble_eq_true rfl) dX1_filesLostBy_93 ⟨Nat.le_of_ble_eq_true rfl, Nat.le_of_ble_eq_true rfl⟩ (fun H locs hG => ?_)
            refine lv_iadd hx hb dX1_filesLostBy_96 ?_
            refine lv_istore (lv' := [(4, .int (bx4 + v93)), (0, .ref ba0), (2, .ref ba2), (3, .ref ba3), (5, .int bx5)]) hx hb dX1_filesLostBy_97 hl (by decide) rfl (fun ls hl => ?_)
            refine lv_iinc (v := (bx5 + (1 : Int32))) (lv' := [(5, .int (bx5 + (1 : Int32))), (4, .int (bx4 + v93)), (0, .ref ba0), (2, .ref ba2), (3, .ref ba3)]) hx hb dX1_filesLostBy_99 hl (k := 4) rfl rfl (by decide) rfl (fun ls hl => ?_)
            refine lv_goto (tgt := 59) hx hb dX1_filesLostBy_102 (by decide) ?_
            exact ih G ba0 ba2 ba3 (bx4 + v93) (bx5 + (1 : Int32)) _ _ hG _ (lv_sub hl [2, 3, 4, 1, 0] rfl) h
  unfold f_X1_filesLostBy at h
  refine lv_aload_n hx hb dX1_filesLostBy_0 rfl (lv_at hl 0 rfl) ?_
  obtain ⟨v1, e1, h⟩ := Option.bind_eq_some_iff.mp h
  refine g_getr hx hb hts inlX1 hown hK hG (by rfl) 0 (by decide) qF_X1_12 e1 dX1_filesLostBy_1 ?_
  refine lv_iload_n hx hb dX1_filesLostBy_4 rfl (lv_at hl 1 rfl) ?_
  obtain ⟨u5, i5, h⟩ := Option.bind_eq_some_iff.mp h
  obtain ⟨v5, e5, h⟩ := Option.bind_eq_some_iff.mp h
  refine g_cVi (As := [.int x1]) (rest := []) (n := 1) hx hb hml hown hts hK hlo hG (m_X0_kindOf l dd cT lo G v1 x1 e5) qM_X1_100 qI_yX0_kindOf qS_X0_yX0_kindOf qN_X0 qC_yX0_kindOf (by decide +kernel) ⟨Nat.le_of_ble_eq_true rfl, Nat.le_of_ble_eq_true rfl⟩ (by rfl) i5 rfl hl.1 rfl (Nat.le_of_ble_eq_true rfl) dX1_filesLostBy_5 ⟨Nat.le_of_ble_eq_true rfl, Nat.le_of_ble_eq_true rfl⟩ (fun H locs hG => ?_)
  refine lv_if_eq (tgt := 22) hx hb dX1_filesLostBy_8 (by decide) (fun c8 => ?_) (fun c8 => ?_)
  · rw [if_pos c8] at h
    refine lv_iconst (v := (0 : Int32)) hx hb dX1_filesLostBy_22 (by decide) ?_
    obtain ⟨rfl, rfl⟩ := Prod.mk.inj (Option.some.inj h)
    exact g_iret hx hb hr hlocks hK hlo hG ⟨rfl, rfl⟩ dX1_filesLostBy_23
  · rw [if_neg c8] at h
    refine lv_aload_n hx hb dX1_filesLostBy_11 rfl (lv_at hl 0 rfl) ?_
    obtain ⟨v12, e12, h⟩ := Option.bind_eq_some_iff.mp h
    refine g_getr hx hb hts inlX1 hown hK hG (by rfl) 0 (by decide) qF_X1_12 e12 dX1_filesLostBy_12 ?_
    refine lv_iload_n hx hb dX1_filesLostBy_15 rfl (lv_at hl 1 rfl) ?_
    obtain ⟨u16, i16, h⟩ := Option.bind_eq_some_iff.mp h
    obtain ⟨v16, e16, h⟩ := Option.bind_eq_some_iff.mp h
    refine g_cVi (As := [.int x1]) (rest := []) (n := 1) hx hb hml hown hts hK hlo hG (m_X0_isUnreadable l dd cT lo G v12 x1 e16) qM_X1_109 qI_yX0_isUnreadable qS_X0_yX0_isUnreadable qN_X0 qC_yX0_isUnreadable (by decide +kernel) ⟨Nat.le_of_ble_eq_true rfl, Nat.le_of_ble_eq_true rfl⟩ (by rfl) i16 rfl hl.1 rfl (Nat.le_of_ble_eq_true rfl) dX1_filesLostBy_16 ⟨Nat.le_of_ble_eq_true rfl, Nat.le_of_ble_eq_true rfl⟩ (fun H locs hG => ?_)
    refine lv_if_eq (tgt := 24) hx hb dX1_filesLostBy_19 (by decide) (fun c19 => ?_) (fun c19 => ?_)
    · rw [if_pos c19] at h
      refine lv_aload_n hx hb dX1_filesLostBy_24 rfl (lv_at hl 0 rfl) ?_
      obtain ⟨v25, e25, h⟩ := Option.bind_eq_some_iff.mp h
      refine g_getr hx hb hts inlX1 hown hK hG (by rfl) 0 (by decide) qF_X1_12 e25 dX1_filesLostBy_25 ?_
      obtain ⟨v28, e28, h⟩ := Option.bind_eq_some_iff.mp h
      refine g_getr hx hb hts inlX0 hown hK hG (by rfl) 5 (by decide) qF_X1_113 e28 dX1_filesLostBy_28 ?_
      refine lv_iload_n hx hb dX1_filesLostBy_31 rfl (lv_at hl 1 rfl) ?_
      refine lv_iconst (v := (1 : Int32)) hx hb dX1_filesLostBy_32 (by decide) ?_
      obtain ⟨G33, e33, h⟩ := Option.bind_eq_some_iff.mp h
      refine g_cNv (As := [.ref v28, .int x1, .int (1 : Int32)]) (rest := []) (n := 3) hx hb hml hown hts hK hlo hG (m_X9_mark l dd cT lo G v28 x1 (1 : Int32) e33) (List.mem_of_getElem? (i := 20) rfl) qT_yX9_mark qN_X9 qC_yX9_mark (by decide +kernel) ⟨Nat.le_of_ble_eq_true rfl, Nat.le_of_ble_eq_true rfl⟩ rfl hl.1 rfl (Nat.le_of_ble_eq_true rfl) dX1_filesLostBy_33 ⟨Nat.le_of_ble_eq_true rfl, Nat.le_of_ble_eq_true rfl⟩ (fun H locs hG => ?_)
      refine lv_aload_n hx hb dX1_filesLostBy_36 rfl (lv_at hl 3 rfl) ?_
      refine lv_aload_n hx hb dX1_filesLostBy_37 rfl (lv_at hl 0 rfl) ?_
      obtain ⟨u38, i38, h⟩ := Option.bind_eq_some_iff.mp h
      obtain ⟨G38, e38, h⟩ := Option.bind_eq_some_iff.mp h
      refine g_cVv (As := [.ref a0]) (rest := []) (n := 1) hx hb hml hown hts hK hlo hG (m_X8_update l dd cT lo G33 a3 a0 e38) qM_X1_73 qI_yX8_update qS_X8_yX8_update qN_X8 qC_yX8_update (by decide +kernel) ⟨Nat.le_of_ble_eq_true rfl, Nat.le_of_ble_eq_true rfl⟩ (by rfl) i38 rfl hl.1 rfl (Nat.le_of_ble_eq_true rfl) dX1_filesLostBy_38 ⟨Nat.le_of_ble_eq_true rfl, Nat.le_of_ble_eq_true rfl⟩ (fun H locs hG => ?_)
      refine lv_aload_n hx hb dX1_filesLostBy_41 rfl (lv_at hl 0 rfl) ?_
      obtain ⟨v42, e42, h⟩ := Option.bind_eq_some_iff.mp h
      refine g_getr hx hb hts inlX1 hown hK hG (by rfl) 0 (by decide) qF_X1_12 e42 dX1_filesLostBy_42 ?_
      obtain ⟨v45, e45, h⟩ := Option.bind_eq_some_iff.mp h
      refine g_getr hx hb hts inlX0 hown hK hG (by rfl) 5 (by decide) qF_X1_113 e45 dX1_filesLostBy_45 ?_
      refine lv_iload_n hx hb dX1_filesLostBy_48 rfl (lv_at hl 1 rfl) ?_
      refine lv_iconst (v := (0 : Int32)) hx hb dX1_filesLostBy_49 (by decide) ?_
      obtain ⟨G50, e50, h⟩ := Option.bind_eq_some_iff.mp h
      refine g_cNv (As := [.ref v45, .int x1, .int (0 : Int32)]) (rest := []) (n := 3) hx hb hml hown hts hK hlo hG (m_X9_mark l dd cT lo G38 v45 x1 (0 : Int32) e50) (List.mem_of_getElem? (i := 20) rfl) qT_yX9_mark qN_X9 qC_yX9_mark (by decide +kernel) ⟨Nat.le_of_ble_eq_true rfl, Nat.le_of_ble_eq_true rfl⟩ rfl hl.1 rfl (Nat.le_of_ble_eq_true rfl) dX1_filesLostBy_50 ⟨Nat.le_of_ble_eq_true rfl, Nat.le_of_ble_eq_true rfl⟩ (fun H locs hG => ?_)
      refine lv_iconst (v := (0 : Int32)) hx hb dX1_filesLostBy_53 (by decide) ?_
      refine lv_istore (lv' := [(4, .int (0 : Int32)), (0, .ref a0), (1, .int x1), (2, .ref a2), (3, .ref a3)]) hx hb dX1_filesLostBy_54 hl (by decide) rfl (fun ls hl => ?_)
      refine lv_iconst (v := (0 : Int32)) hx hb dX1_filesLostBy_56 (by decide) ?_
      refine lv_istore (lv' := [(5, .int (0 : Int32)), (4, .int (0 : Int32)), (0, .ref a0), (1, .int x1), (2, .ref a2), (3, .ref a3)]) hx hb dX1_filesLostBy_57 hl (by decide) rfl (fun ls hl => ?_)
      exact h59 g_N G50 a0 a2 a3 (0 : Int32) (0 : Int32) _ _ hG _ (lv_sub hl [2, 4, 5, 1, 0] rfl) h
    · rw [if_neg c19] at h
      refine lv_iconst (v := (0 : Int32)) hx hb dX1_filesLostBy_22 (by decide) ?_
      obtain ⟨rfl, rfl⟩ := Prod.mk.inj (Option.some.inj h)
      exact g_iret hx hb hr hlocks hK hlo hG ⟨rfl, rfl⟩ dX1_filesLostBy_23
def f_X1_blocksUsed_J46 (k11 : gH → Nat → Int32 → Int32 → Nat → Int32 → Int32 → Option (gH × Int32)) (G : gH) (ba0 : Nat) (bx1 : Int32) (bx2 : Int32) (ba3 : Nat) (bx4 : Int32) (bx5 : Int32) (z0 : Int32) : Option (gH × Int32) :=
    if z0 = 0 then
    (f_X9_oneIf G (0 : Int32)).bind fun v71 =>
    k11 G ba0 bx1 bx2 ba3 (bx4 + v71) (bx5 + (1 : Int32))
    else
    (g_ob G ba0 1).bind fun u59 =>
    (f_X1_useOf G ba0 bx5 ba3).bind fun v59 =>
    if v59 = bx2 then
    (f_X9_oneIf G (1 : Int32)).bind fun v71 =>
    k11 G ba0 bx1 bx2 ba3 (bx4 + v71) (bx5 + (1 : Int32))
    else
    (f_X9_oneIf G (0 : Int32)).bind fun v71 =>
    k11 G ba0 bx1 bx2 ba3 (bx4 + v71) (bx5 + (1 : Int32))
def f_X1_blocksUsed_L11 : Nat → gH → Nat → Int32 → Int32 → Nat → Int32 → Int32 → Option (gH × Int32)
  | 0, _, _, _, _, _, _, _ => none
  | n + 1, G, ba0, bx1, bx2, ba3, bx4, bx5 =>
    (g_r G ba0 1 0).bind fun v14 =>
    (g_i G v14 0 0).bind fun v17 =>
    if v17 ≤ bx5 then
    some (G, bx4)
    else
    if bx1 = (-1 : Int32) then
    f_X1_blocksUsed_J46 (f_X1_blocksUsed_L11 n) G ba0 bx1 bx2 ba3 bx4 bx5 (1 : Int32)
    else
    (g_r G ba0 1 0).bind fun v29 =>
    (g_ob G v29 0).bind fun u34 =>
    (f_X0_writerOf G v29 bx5).bind fun v34 =>
    if v34 = bx1 then
    f_X1_blocksUsed_J46 (f_X1_blocksUsed_L11 n) G ba0 bx1 bx2 ba3 bx4 bx5 (1 : Int32)
    else
    f_X1_blocksUsed_J46 (f_X1_blocksUsed_L11 n) G ba0 bx1 bx2 ba3 bx4 bx5 (0 : Int32)
def f_X1_blocksUsed (G : gH) (a0 : Nat) (x1 : Int32) (x2 : Int32) : Option (gH × Int32) :=
    (g_ob G a0 1).bind fun u1 =>
    (f_X1_look G a0).bind fun q1 =>
    f_X1_blocksUsed_L11 g_N q1.1 a0 x1 x2 q1.2 (0 : Int32) (0 : Int32)
set_option maxRecDepth 20000 in
set_option maxHeartbeats 4000000 in
theorem m_X1_blocksUsed (l : Launch) (dd : va_G) (cT : Nat → ClassId) (lo : Nat) (G : gH) (a0 : Nat) (x1 : Int32) (x2 : Int32) {rz : Int32} {Gz : gH} (h : f_X1_blocksUsed G a0 x1 x2 = some (Gz, rz)) : Met l yX1_blocksUsed (Cond.code yX1_blocksUsed cX1_blocksUsed 7 (some .int) :: wsL_law) (g_rm 7 157 0 0) (va_Pc [.ref a0, .int x1, .int x2] (g_Pre lo dd cT G)) (va_Qi (g_is rz Gz) (g_Pre lo dd cT) (g_A lo)) 0 0 (g_A lo) := by
  refine g_start RX1 rfl (by decide) (Nat.le_of_ble_eq_true rfl) ?_
  intro p e s m below meth c hx hb hr hlocks hml hown hnm hts hK hG hlo ls hl
  have hl : lv_has ls 7 [(0, .ref a0), (1, .int x1), (2, .int x2)] := hl
  have hG : g_S lo dd cT s s.heap [] G := hG
  have h11 : ∀ n : Nat, ∀ (G : gH) (ba0 : Nat) (bx1 : Int32) (bx2 : Int32) (ba3 : Nat) (bx4 : Int32) (bx5 : Int32), ∀ (H : Heap) (locs : List Loc), g_S lo dd cT s H locs G → ∀ ls : Array Slot, lv_has ls 7 [(0, .ref ba0), (1, .int bx1), (2, .int bx2), (3, .ref ba3), (4, .int bx4), (5, .int bx5)] → f_X1_blocksUsed_L11 n G ba0 bx1 bx2 ba3 bx4 bx5 = some (Gz, rz) → W p l e (g_rm 7 157 0 0) s m ([.ref a0, .int x1, .int x2] : List Value).toArray below meth c H locs 0 0 (MQ below (va_Qi (g_is rz Gz) (g_Pre lo dd cT) (g_A lo)) ([.ref a0, .int x1, .int x2] : List Value).toArray s 0 0 (g_A lo)) (F0 m 11 ls []) := by
    intro n
    induction n with
    | zero =>
      intro G ba0 bx1 bx2 ba3 bx4 bx5 H locs hG ls hl h
      cases (show (none : Option (gH × Int32)) = some (Gz, rz) from h)
    | succ n ih =>
      intro G ba0 bx1 bx2 ba3 bx4 bx5 H locs hG ls hl h
      rw [f_X1_blocksUsed_L11] at h
      have h46 : ∀ (G : gH) (ba0 : Nat) (bx1 : Int32) (bx2 : Int32) (ba3 : Nat) (bx4 : Int32) (bx5 : Int32) (z0 : Int32), ∀ (H : Heap) (locs : List Loc), g_S lo dd cT s H locs G → ∀ ls : Array Slot, lv_has ls 7 [(0, .ref ba0), (1, .int bx1), (2, .int bx2), (3, .ref ba3), (4, .int bx4), (5, .int bx5)] → f_X1_blocksUsed_J46 (f_X1_blocksUsed_L11 n) G ba0 bx1 bx2 ba3 bx4 bx5 z0 = some (Gz, rz) → W p l e (g_rm 7 157 0 0) s m ([.ref a0, .int x1, .int x2] : List Value).toArray below meth c H locs 0 0 (MQ below (va_Qi (g_is rz Gz) (g_Pre lo dd cT) (g_A lo)) ([.ref a0, .int x1, .int x2] : List Value).toArray s 0 0 (g_A lo)) (F0 m 46 ls [.int z0]) := by
        intro G ba0 bx1 bx2 ba3 bx4 bx5 z0 H locs hG ls hl h
        unfold f_X1_blocksUsed_J46 at h
        refine lv_istore (lv' := [(6, .int z0), (0, .ref ba0), (1, .int bx1), (2, .int bx2), (3, .ref ba3), (4, .int bx4), (5, .int bx5)]) hx hb dX1_blocksUsed_46 hl (by decide) rfl (fun ls hl => ?_)
        refine lv_iload hx hb dX1_blocksUsed_48 (lv_at hl 5 rfl) ?_
        refine lv_iload hx hb dX1_blocksUsed_50 (lv_at hl 0 rfl) ?_
        refine lv_if_eq (tgt := 70) hx hb dX1_blocksUsed_52 (by decide) (fun c52 => ?_) (fun c52 => ?_)
        · rw [if_pos c52] at h
          refine lv_iconst (v := (0 : Int32)) hx hb dX1_blocksUsed_70 (by decide) ?_
          obtain ⟨v71, e71, h⟩ := Option.bind_eq_some_iff.mp h
          refine g_cNi (As := [.int (0 : Int32)]) (rest := [.int bx4]) (n := 1) hx hb hml hown hts hK hlo hG (m_X9_oneIf l dd cT lo G (0 : Int32) e71) (List.mem_of_getElem? (i := 21) rfl) qT_yX9_oneIf qN_X9 qC_yX9_oneIf (by decide +kernel) ⟨Nat.le_of_ble_eq_true rfl, Nat.le_of_ble_eq_true rfl⟩ rfl hl.1 rfl (Nat.le_of_ble_eq_true rfl) dX1_blocksUsed_71 ⟨Nat.le_of_ble_eq_true rfl, Nat.le_of_ble_eq_true rfl⟩ (fun H locs hG => ?_)
          refine lv_iadd hx hb dX1_blocksUsed_74 ?_
          refine lv_istore (lv' := [(4, .int (bx4 + v71)), (6, .int z0), (0, .ref ba0), (1, .int bx1), (2, .int bx2), (3, .ref ba3), (5, .int bx5)]) hx hb dX1_blocksUsed_75 hl (by decide) rfl (fun ls hl => ?_)
          refine lv_iinc (v := (bx5 + (1 : Int32))) (lv' := [(5, .int (bx5 + (1 : Int32))), (4, .int (bx4 + v71)), (6, .int z0), (0, .ref ba0), (1, .int bx1), (2, .int bx2), (3, .ref ba3)]) hx hb dX1_blocksUsed_77 hl (k := 6) rfl rfl (by decide) rfl (fun ls hl => ?_)
          refine lv_goto (tgt := 11) hx hb dX1_blocksUsed_80 (by decide) ?_
          exact ih G ba0 bx1 bx2 ba3 (bx4 + v71) (bx5 + (1 : Int32)) _ _ hG _ (lv_sub hl [3, 4, 5, 6, 1, 0] rfl) h
        · rw [if_neg c52] at h
          refine lv_aload_n hx hb dX1_blocksUsed_55 rfl (lv_at hl 1 rfl) ?_
          refine lv_iload hx hb dX1_blocksUsed_56 (lv_at hl 6 rfl) ?_
          refine lv_aload_n hx hb dX1_blocksUsed_58 rfl (lv_at hl 4 rfl) ?_
          obtain ⟨u59, i59, h⟩ := Option.bind_eq_some_iff.mp h
          obtain ⟨v59, e59, h⟩ := Option.bind_eq_some_iff.mp h
          refine g_cVi (As := [.int bx5, .ref ba3]) (rest := [.int bx4]) (n := 2) hx hb hml hown hts hK hlo hG (m_X1_useOf l dd cT lo G ba0 bx5 ba3 e59) qM_X1_133 qI_yX1_useOf qS_X1_yX1_useOf qN_X1 qC_yX1_useOf (by decide +kernel) ⟨Nat.le_of_ble_eq_true rfl, Nat.le_of_ble_eq_true rfl⟩ (by rfl) i59 rfl hl.1 rfl (Nat.le_of_ble_eq_true rfl) dX1_blocksUsed_59 ⟨Nat.le_of_ble_eq_true rfl, Nat.le_of_ble_eq_true rfl⟩ (fun H locs hG => ?_)
          refine lv_iload_n hx hb dX1_blocksUsed_62 rfl (lv_at hl 3 rfl) ?_
          refine lv_icmp_ne (tgt := 70) hx hb dX1_blocksUsed_63 (by decide) (fun c63 => ?_) (fun c63 => ?_)
          · rw [if_neg c63] at h
            refine lv_iconst (v := (0 : Int32)) hx hb dX1_blocksUsed_70 (by decide) ?_
            obtain ⟨v71, e71, h⟩ := Option.bind_eq_some_iff.mp h
            refine g_cNi (As := [.int (0 : Int32)]) (rest := [.int bx4]) (n := 1) hx hb hml hown hts hK hlo hG (m_X9_oneIf l dd cT lo G (0 : Int32) e71) (List.mem_of_getElem? (i := 21) rfl) qT_yX9_oneIf qN_X9 qC_yX9_oneIf (by decide +kernel) ⟨Nat.le_of_ble_eq_true rfl, Nat.le_of_ble_eq_true rfl⟩ rfl hl.1 rfl (Nat.le_of_ble_eq_true rfl) dX1_blocksUsed_71 ⟨Nat.le_of_ble_eq_true rfl, Nat.le_of_ble_eq_true rfl⟩ (fun H locs hG => ?_)
            refine lv_iadd hx hb dX1_blocksUsed_74 ?_
            refine lv_istore (lv' := [(4, .int (bx4 + v71)), (6, .int z0), (0, .ref ba0), (1, .int bx1), (2, .int bx2), (3, .ref ba3), (5, .int bx5)]) hx hb dX1_blocksUsed_75 hl (by decide) rfl (fun ls hl => ?_)
            refine lv_iinc (v := (bx5 + (1 : Int32))) (lv' := [(5, .int (bx5 + (1 : Int32))), (4, .int (bx4 + v71)), (6, .int z0), (0, .ref ba0), (1, .int bx1), (2, .int bx2), (3, .ref ba3)]) hx hb dX1_blocksUsed_77 hl (k := 6) rfl rfl (by decide) rfl (fun ls hl => ?_)
            refine lv_goto (tgt := 11) hx hb dX1_blocksUsed_80 (by decide) ?_
            exact ih G ba0 bx1 bx2 ba3 (bx4 + v71) (bx5 + (1 : Int32)) _ _ hG _ (lv_sub hl [3, 4, 5, 6, 1, 0] rfl) h
          · rw [if_pos c63] at h
            refine lv_iconst (v := (1 : Int32)) hx hb dX1_blocksUsed_66 (by decide) ?_
            refine lv_goto (tgt := 71) hx hb dX1_blocksUsed_67 (by decide) ?_
            obtain ⟨v71, e71, h⟩ := Option.bind_eq_some_iff.mp h
            refine g_cNi (As := [.int (1 : Int32)]) (rest := [.int bx4]) (n := 1) hx hb hml hown hts hK hlo hG (m_X9_oneIf l dd cT lo G (1 : Int32) e71) (List.mem_of_getElem? (i := 21) rfl) qT_yX9_oneIf qN_X9 qC_yX9_oneIf (by decide +kernel) ⟨Nat.le_of_ble_eq_true rfl, Nat.le_of_ble_eq_true rfl⟩ rfl hl.1 rfl (Nat.le_of_ble_eq_true rfl) dX1_blocksUsed_71 ⟨Nat.le_of_ble_eq_true rfl, Nat.le_of_ble_eq_true rfl⟩ (fun H locs hG => ?_)
            refine lv_iadd hx hb dX1_blocksUsed_74 ?_
            refine lv_istore (lv' := [(4, .int (bx4 + v71)), (6, .int z0), (0, .ref ba0), (1, .int bx1), (2, .int bx2), (3, .ref ba3), (5, .int bx5)]) hx hb dX1_blocksUsed_75 hl (by decide) rfl (fun ls hl => ?_)
            refine lv_iinc (v := (bx5 + (1 : Int32))) (lv' := [(5, .int (bx5 + (1 : Int32))), (4, .int (bx4 + v71)), (6, .int z0), (0, .ref ba0), (1, .int bx1), (2, .int bx2), (3, .ref ba3)]) hx hb dX1_blocksUsed_77 hl (k := 6) rfl rfl (by decide) rfl (fun ls hl => ?_)
            refine lv_goto (tgt := 11) hx hb dX1_blocksUsed_80 (by decide) ?_
            exact ih G ba0 bx1 bx2 ba3 (bx4 + v71) (bx5 + (1 : Int32)) _ _ hG _ (lv_sub hl [3, 4, 5, 6, 1, 0] rfl) h
      refine lv_iload hx hb dX1_blocksUsed_11 (lv_at hl 5 rfl) ?_
      refine lv_aload_n hx hb dX1_blocksUsed_13 rfl (lv_at hl 0 rfl) ?_
      obtain ⟨v14, e14, h⟩ := Option.bind_eq_some_iff.mp h
      refine g_getr hx hb hts inlX1 hown hK hG (by rfl) 0 (by decide) qF_X1_12 e14 dX1_blocksUsed_14 ?_
      obtain ⟨v17, e17, h⟩ := Option.bind_eq_some_iff.mp h
      refine g_geti hx hb hts inlX0 hown hK hG (by rfl) 0 (by decide) qF_X1_132 e17 dX1_blocksUsed_17 ?_
      refine lv_icmp_ge (tgt := 83) hx hb dX1_blocksUsed_20 (by decide) (fun c20 => ?_) (fun c20 => ?_)
      · rw [if_pos c20] at h
        refine lv_iload hx hb dX1_blocksUsed_83 (lv_at hl 4 rfl) ?_
        obtain ⟨rfl, rfl⟩ := Prod.mk.inj (Option.some.inj h)
        exact g_iret hx hb hr hlocks hK hlo hG ⟨rfl, rfl⟩ dX1_blocksUsed_85
      · rw [if_neg c20] at h
        refine lv_iload_n hx hb dX1_blocksUsed_23 rfl (lv_at hl 1 rfl) ?_
        refine lv_iconst (v := (-1 : Int32)) hx hb dX1_blocksUsed_24 (by decide) ?_
        refine lv_icmp_eq (tgt := 41) hx hb dX1_blocksUsed_25 (by decide) (fun c25 => ?_) (fun c25 => ?_)
        · rw [if_pos c25] at h
          refine lv_iconst (v := (1 : Int32)) hx hb dX1_blocksUsed_41 (by decide) ?_
          refine lv_goto (tgt := 46) hx hb dX1_blocksUsed_42 (by decide) ?_
          exact h46 G ba0 bx1 bx2 ba3 bx4 bx5 (1 : Int32) _ _ hG _ (lv_sub hl [0, 1, 2, 3, 4, 5] rfl) h
        · rw [if_neg c25] at h
          refine lv_aload_n hx hb dX1_blocksUsed_28 rfl (lv_at hl 0 rfl) ?_
          obtain ⟨v29, e29, h⟩ := Option.bind_eq_some_iff.mp h
          refine g_getr hx hb hts inlX1 hown hK hG (by rfl) 0 (by decide) qF_X1_12 e29 dX1_blocksUsed_29 ?_
          refine lv_iload hx hb dX1_blocksUsed_32 (lv_at hl 5 rfl) ?_
          obtain ⟨u34, i34, h⟩ := Option.bind_eq_some_iff.mp h
          obtain ⟨v34, e34, h⟩ := Option.bind_eq_some_iff.mp h
          refine g_cVi (As := [.int bx5]) (rest := []) (n := 1) hx hb hml hown hts hK hlo hG (m_X0_writerOf l dd cT lo G v29 bx5 e34) qM_X1_103 qI_yX0_writerOf qS_X0_yX0_writerOf qN_X0 qC_yX0_writerOf (by decide +kernel) ⟨Nat.le_of_ble_eq_true rfl, Nat.le_of_ble_eq_true rfl⟩ (by rfl) i34 rfl hl.1 rfl (Nat.le_of_ble_eq_true rfl) dX1_blocksUsed_34 ⟨Nat.le_of_ble_eq_true rfl, Nat.le_of_ble_eq_true rfl⟩ (fun H locs hG => ?_)
          refine lv_iload_n hx hb dX1_blocksUsed_37 rfl (lv_at hl 1 rfl) ?_
          refine lv_icmp_ne (tgt := 45) hx hb dX1_blocksUsed_38 (by decide) (fun c38 => ?_) (fun c38 => ?_)
          · rw [if_neg c38] at h
            refine lv_iconst (v := (0 : Int32)) hx hb dX1_blocksUsed_45 (by decide) ?_
            exact h46 G ba0 bx1 bx2 ba3 bx4 bx5 (0 : Int32) _ _ hG _ (lv_sub hl [0, 1, 2, 3, 4, 5] rfl) h
          · rw [if_pos c38] at h
            refine lv_iconst (v := (1 : Int32)) hx hb dX1_blocksUsed_41 (by decide) ?_
            refine lv_goto (tgt := 46) hx hb dX1_blocksUsed_42 (by decide) ?_
            exact h46 G ba0 bx1 bx2 ba3 bx4 bx5 (1 : Int32) _ _ hG _ (lv_sub hl [0, 1, 2, 3, 4, 5] rfl) h
  unfold f_X1_blocksUsed at h
  refine lv_aload_n hx hb dX1_blocksUsed_0 rfl (lv_at hl 0 rfl) ?_
  obtain ⟨u1, i1, h⟩ := Option.bind_eq_some_iff.mp h
  obtain ⟨q1, e1, h⟩ := Option.bind_eq_some_iff.mp h
  refine g_cVr (As := []) (rest := []) (n := 0) hx hb hml hown hts hK hlo hG (m_X1_look l dd cT lo G a0 e1) qM_X1_128 qI_yX1_look qS_X1_yX1_look qN_X1 qC_yX1_look (by decide +kernel) ⟨Nat.le_of_ble_eq_true rfl, Nat.le_of_ble_eq_true rfl⟩ (by rfl) i1 rfl hl.1 rfl (Nat.le_of_ble_eq_true rfl) dX1_blocksUsed_1 ⟨Nat.le_of_ble_eq_true rfl, Nat.le_of_ble_eq_true rfl⟩ (fun H locs hG => ?_)
  refine lv_astore_n (lv' := [(3, .ref q1.2), (0, .ref a0), (1, .int x1), (2, .int x2)]) hx hb dX1_blocksUsed_4 rfl hl (by decide) rfl (fun ls hl => ?_)
  refine lv_iconst (v := (0 : Int32)) hx hb dX1_blocksUsed_5 (by decide) ?_
  refine lv_istore (lv' := [(4, .int (0 : Int32)), (3, .ref q1.2), (0, .ref a0), (1, .int x1), (2, .int x2)]) hx hb dX1_blocksUsed_6 hl (by decide) rfl (fun ls hl => ?_)
  refine lv_iconst (v := (0 : Int32)) hx hb dX1_blocksUsed_8 (by decide) ?_
  refine lv_istore (lv' := [(5, .int (0 : Int32)), (4, .int (0 : Int32)), (3, .ref q1.2), (0, .ref a0), (1, .int x1), (2, .int x2)]) hx hb dX1_blocksUsed_9 hl (by decide) rfl (fun ls hl => ?_)
  exact h11 g_N q1.1 a0 x1 x2 q1.2 (0 : Int32) (0 : Int32) _ _ hG _ (lv_sub hl [3, 4, 5, 2, 1, 0] rfl) h
def f_X1_reasonAgainstErase (G : gH) (a0 : Nat) (x1 : Int32) : Option (gH × Int32) :=
    (g_ob G a0 1).bind fun u1 =>
    (f_X1_look G a0).bind fun q1 =>
    (g_ob q1.1 q1.2 8).bind fun u5 =>
    (f_X8_versionOf q1.1 q1.2 x1).bind fun v5 =>
    if v5 = (-1 : Int32) then
    some (q1.1, (2 : Int32))
    else
    (g_r q1.1 a0 1 2).bind fun v15 =>
    (g_ob q1.1 v15 5).bind fun u18 =>
    (f_X5_oneMoreIsTooMany q1.1 v15).bind fun v18 =>
    if v18 = 0 then
    (g_r q1.1 a0 1 0).bind fun v27 =>
    (g_r q1.1 a0 1 2).bind fun v31 =>
    (g_ob q1.1 v31 5).bind fun u35 =>
    (f_X5_entriesWith q1.1 v31 x1).bind fun v35 =>
    (f_X1_directoryLength q1.1 v35).bind fun v38 =>
    (g_ob q1.1 v27 0).bind fun u41 =>
    (f_X0_hasRoomFor q1.1 v27 v38).bind fun v41 =>
    if v41 = 0 then
    some (q1.1, (4 : Int32))
    else
    some (q1.1, (0 : Int32))
    else
    some (q1.1, (3 : Int32))
set_option maxRecDepth 20000 in
set_option maxHeartbeats 4000000 in
theorem m_X1_reasonAgainstErase (l : Launch) (dd : va_G) (cT : Nat → ClassId) (lo : Nat) (G : gH) (a0 : Nat) (x1 : Int32) {rz : Int32} {Gz : gH} (h : f_X1_reasonAgainstErase G a0 x1 = some (Gz, rz)) : Met l yX1_reasonAgainstErase (Cond.code yX1_reasonAgainstErase cX1_reasonAgainstErase 2 (some .int) :: wsL_law) (g_rm 7 157 0 0) (va_Pc [.ref a0, .int x1] (g_Pre lo dd cT G)) (va_Qi (g_is rz Gz) (g_Pre lo dd cT) (g_A lo)) 0 0 (g_A lo) := by
  refine g_start RX1 rfl (by decide) (Nat.le_of_ble_eq_true rfl) ?_
  intro p e s m below meth c hx hb hr hlocks hml hown hnm hts hK hG hlo ls hl
  have hl : lv_has ls 2 [(0, .ref a0), (1, .int x1)] := hl
  have hG : g_S lo dd cT s s.heap [] G := hG
  unfold f_X1_reasonAgainstErase at h
  refine lv_aload_n hx hb dX1_reasonAgainstErase_0 rfl (lv_at hl 0 rfl) ?_
  obtain ⟨u1, i1, h⟩ := Option.bind_eq_some_iff.mp h
  obtain ⟨q1, e1, h⟩ := Option.bind_eq_some_iff.mp h
  refine g_cVr (As := []) (rest := []) (n := 0) hx hb hml hown hts hK hlo hG (m_X1_look l dd cT lo G a0 e1) qM_X1_128 qI_yX1_look qS_X1_yX1_look qN_X1 qC_yX1_look (by decide +kernel) ⟨Nat.le_of_ble_eq_true rfl, Nat.le_of_ble_eq_true rfl⟩ (by rfl) i1 rfl hl.1 rfl (Nat.le_of_ble_eq_true rfl) dX1_reasonAgainstErase_1 ⟨Nat.le_of_ble_eq_true rfl, Nat.le_of_ble_eq_true rfl⟩ (fun H locs hG => ?_)
  refine lv_iload_n hx hb dX1_reasonAgainstErase_4 rfl (lv_at hl 1 rfl) ?_
  obtain ⟨u5, i5, h⟩ := Option.bind_eq_some_iff.mp h
  obtain ⟨v5, e5, h⟩ := Option.bind_eq_some_iff.mp h
  refine g_cVi (As := [.int x1]) (rest := []) (n := 1) hx hb hml hown hts hK hlo hG (m_X8_versionOf l dd cT lo q1.1 q1.2 x1 e5) qM_X1_143 qI_yX8_versionOf qS_X8_yX8_versionOf qN_X8 qC_yX8_versionOf (by decide +kernel) ⟨Nat.le_of_ble_eq_true rfl, Nat.le_of_ble_eq_true rfl⟩ (by rfl) i5 rfl hl.1 rfl (Nat.le_of_ble_eq_true rfl) dX1_reasonAgainstErase_5 ⟨Nat.le_of_ble_eq_true rfl, Nat.le_of_ble_eq_true rfl⟩ (fun H locs hG => ?_)
  refine lv_iconst (v := (-1 : Int32)) hx hb dX1_reasonAgainstErase_8 (by decide) ?_
  refine lv_icmp_ne (tgt := 14) hx hb dX1_reasonAgainstErase_9 (by decide) (fun c9 => ?_) (fun c9 => ?_)
  · rw [if_neg c9] at h
    refine lv_aload_n hx hb dX1_reasonAgainstErase_14 rfl (lv_at hl 0 rfl) ?_
    obtain ⟨v15, e15, h⟩ := Option.bind_eq_some_iff.mp h
    refine g_getr hx hb hts inlX1 hown hK hG (by rfl) 2 (by decide) qF_X1_28 e15 dX1_reasonAgainstErase_15 ?_
    obtain ⟨u18, i18, h⟩ := Option.bind_eq_some_iff.mp h
    obtain ⟨v18, e18, h⟩ := Option.bind_eq_some_iff.mp h
    refine g_cVi (As := []) (rest := []) (n := 0) hx hb hml hown hts hK hlo hG (m_X5_oneMoreIsTooMany l dd cT lo q1.1 v15 e18) qM_X1_146 qI_yX5_oneMoreIsTooMany qS_X5_yX5_oneMoreIsTooMany qN_X5 qC_yX5_oneMoreIsTooMany (by decide +kernel) ⟨Nat.le_of_ble_eq_true rfl, Nat.le_of_ble_eq_true rfl⟩ (by rfl) i18 rfl hl.1 rfl (Nat.le_of_ble_eq_true rfl) dX1_reasonAgainstErase_18 ⟨Nat.le_of_ble_eq_true rfl, Nat.le_of_ble_eq_true rfl⟩ (fun H locs hG => ?_)
    refine lv_if_eq (tgt := 26) hx hb dX1_reasonAgainstErase_21 (by decide) (fun c21 => ?_) (fun c21 => ?_)
    · rw [if_pos c21] at h
      refine lv_aload_n hx hb dX1_reasonAgainstErase_26 rfl (lv_at hl 0 rfl) ?_
      obtain ⟨v27, e27, h⟩ := Option.bind_eq_some_iff.mp h
      refine g_getr hx hb hts inlX1 hown hK hG (by rfl) 0 (by decide) qF_X1_12 e27 dX1_reasonAgainstErase_27 ?_
      refine lv_aload_n hx hb dX1_reasonAgainstErase_30 rfl (lv_at hl 0 rfl) ?_
      obtain ⟨v31, e31, h⟩ := Option.bind_eq_some_iff.mp h
      refine g_getr hx hb hts inlX1 hown hK hG (by rfl) 2 (by decide) qF_X1_28 e31 dX1_reasonAgainstErase_31 ?_
      refine lv_iload_n hx hb dX1_reasonAgainstErase_34 rfl (lv_at hl 1 rfl) ?_
      obtain ⟨u35, i35, h⟩ := Option.bind_eq_some_iff.mp h
      obtain ⟨v35, e35, h⟩ := Option.bind_eq_some_iff.mp h
      refine g_cVi (As := [.int x1]) (rest := [.ref v27]) (n := 1) hx hb hml hown hts hK hlo hG (m_X5_entriesWith l dd cT lo q1.1 v31 x1 e35) qM_X1_150 qI_yX5_entriesWith qS_X5_yX5_entriesWith qN_X5 qC_yX5_entriesWith (by decide +kernel) ⟨Nat.le_of_ble_eq_true rfl, Nat.le_of_ble_eq_true rfl⟩ (by rfl) i35 rfl hl.1 rfl (Nat.le_of_ble_eq_true rfl) dX1_reasonAgainstErase_35 ⟨Nat.le_of_ble_eq_true rfl, Nat.le_of_ble_eq_true rfl⟩ (fun H locs hG => ?_)
      obtain ⟨v38, e38, h⟩ := Option.bind_eq_some_iff.mp h
      refine g_cSi (As := [.int v35]) (rest := [.ref v27]) (n := 1) hx hb hml hown hts hK hlo hG (m_X1_directoryLength l dd cT lo q1.1 v35 e38) qM_X1_94 qT_yX1_directoryLength qN_X1 qC_yX1_directoryLength (by decide +kernel) ⟨Nat.le_of_ble_eq_true rfl, Nat.le_of_ble_eq_true rfl⟩ rfl hl.1 rfl (Nat.le_of_ble_eq_true rfl) dX1_reasonAgainstErase_38 ⟨Nat.le_of_ble_eq_true rfl, Nat.le_of_ble_eq_true rfl⟩ (fun H locs hG => ?_)
      obtain ⟨u41, i41, h⟩ := Option.bind_eq_some_iff.mp h
      obtain ⟨v41, e41, h⟩ := Option.bind_eq_some_iff.mp h
      refine g_cVi (As := [.int v38]) (rest := []) (n := 1) hx hb hml hown hts hK hlo hG (m_X0_hasRoomFor l dd cT lo q1.1 v27 v38 e41) qM_X1_153 qI_yX0_hasRoomFor qS_X0_yX0_hasRoomFor qN_X0 qC_yX0_hasRoomFor (by decide +kernel) ⟨Nat.le_of_ble_eq_true rfl, Nat.le_of_ble_eq_true rfl⟩ (by rfl) i41 rfl hl.1 rfl (Nat.le_of_ble_eq_true rfl) dX1_reasonAgainstErase_41 ⟨Nat.le_of_ble_eq_true rfl, Nat.le_of_ble_eq_true rfl⟩ (fun H locs hG => ?_)
      refine lv_if_eq (tgt := 51) hx hb dX1_reasonAgainstErase_44 (by decide) (fun c44 => ?_) (fun c44 => ?_)
      · rw [if_pos c44] at h
        refine lv_iconst (v := (4 : Int32)) hx hb dX1_reasonAgainstErase_51 (by decide) ?_
        obtain ⟨rfl, rfl⟩ := Prod.mk.inj (Option.some.inj h)
        exact g_iret hx hb hr hlocks hK hlo hG ⟨rfl, rfl⟩ dX1_reasonAgainstErase_52
      · rw [if_neg c44] at h
        refine lv_iconst (v := (0 : Int32)) hx hb dX1_reasonAgainstErase_47 (by decide) ?_
        refine lv_goto (tgt := 52) hx hb dX1_reasonAgainstErase_48 (by decide) ?_
        obtain ⟨rfl, rfl⟩ := Prod.mk.inj (Option.some.inj h)
        exact g_iret hx hb hr hlocks hK hlo hG ⟨rfl, rfl⟩ dX1_reasonAgainstErase_52
    · rw [if_neg c21] at h
      refine lv_iconst (v := (3 : Int32)) hx hb dX1_reasonAgainstErase_24 (by decide) ?_
      obtain ⟨rfl, rfl⟩ := Prod.mk.inj (Option.some.inj h)
      exact g_iret hx hb hr hlocks hK hlo hG ⟨rfl, rfl⟩ dX1_reasonAgainstErase_25
  · rw [if_pos c9] at h
    refine lv_iconst (v := (2 : Int32)) hx hb dX1_reasonAgainstErase_12 (by decide) ?_
    obtain ⟨rfl, rfl⟩ := Prod.mk.inj (Option.some.inj h)
    exact g_iret hx hb hr hlocks hK hlo hG ⟨rfl, rfl⟩ dX1_reasonAgainstErase_13
def f_X1_writeVersion_L37 : Nat → gH → Nat → Int32 → Int32 → Int32 → Int32 → Int32 → Option (gH × Int32)
  | 0, _, _, _, _, _, _, _ => none
  | n + 1, G, ba0, bx1, bx2, bx4, bx5, bx6 =>
    if bx2 ≤ bx6 then
    (g_r G ba0 1 2).bind fun v64 =>
    (g_ob G v64 5).bind fun u70 =>
    (f_X5_enter G v64 bx1 bx5).bind fun G70 =>
    some (G70, bx5)
    else
    (g_r G ba0 1 0).bind fun v44 =>
    (g_ob G v44 0).bind fun u54 =>
    (f_X0_writeNext G v44 (1 : Int32) bx4 bx5 bx6).bind fun G54 =>
    f_X1_writeVersion_L37 n G54 ba0 bx1 bx2 bx4 bx5 (bx6 + (1 : Int32))
def f_X1_writeVersion (G : gH) (a0 : Nat) (x1 : Int32) (x2 : Int32) (x3 : Int32) : Option (gH × Int32) :=
    (g_ob G a0 1).bind fun u1 =>
    (f_X1_beginIfNeeded G a0).bind fun G1 =>
    (g_r G1 a0 1 2).bind fun v5 =>
    (g_ob G1 v5 5).bind fun u8 =>
    (f_X5_latest G1 v5).bind fun v8 =>
    (g_r G1 a0 1 1).bind fun v14 =>
    (g_r G1 a0 1 0).bind fun v19 =>
    (g_i G1 v19 0 2).bind fun v22 =>
    (g_ob G1 v14 7).bind fun u29 =>
    (f_X7_add G1 v14 x1 v22 x2 x3 v8).bind fun q29 =>
    f_X1_writeVersion_L37 g_N q29.1 a0 x1 x2 v8 q29.2 (0 : Int32)
set_option maxRecDepth 20000 in
set_option maxHeartbeats 4000000 in
theorem m_X1_writeVersion (l : Launch) (dd : va_G) (cT : Nat → ClassId) (lo : Nat) (G : gH) (a0 : Nat) (x1 : Int32) (x2 : Int32) (x3 : Int32) {rz : Int32} {Gz : gH} (h : f_X1_writeVersion G a0 x1 x2 x3 = some (Gz, rz)) : Met l yX1_writeVersion (Cond.code yX1_writeVersion cX1_writeVersion 7 (some .int) :: wsL_law) (g_rm 5 111 0 0) (va_Pc [.ref a0, .int x1, .int x2, .int x3] (g_Pre lo dd cT G)) (va_Qi (g_is rz Gz) (g_Pre lo dd cT) (g_A lo)) 0 0 (g_A lo) := by
  refine g_start RX1 rfl (by decide) (Nat.le_of_ble_eq_true rfl) ?_
  intro p e s m below meth c hx hb hr hlocks hml hown hnm hts hK hG hlo ls hl
  have hl : lv_has ls 7 [(0, .ref a0), (1, .int x1), (2, .int x2), (3, .int x3)] := hl
  have hG : g_S lo dd cT s s.heap [] G := hG
  have h37 : ∀ n : Nat, ∀ (G : gH) (ba0 : Nat) (bx1 : Int32) (bx2 : Int32) (bx4 : Int32) (bx5 : Int32) (bx6 : Int32), ∀ (H : Heap) (locs : List Loc), g_S lo dd cT s H locs G → ∀ ls : Array Slot, lv_has ls 7 [(0, .ref ba0), (1, .int bx1), (2, .int bx2), (4, .int bx4), (5, .int bx5), (6, .int bx6)] → f_X1_writeVersion_L37 n G ba0 bx1 bx2 bx4 bx5 bx6 = some (Gz, rz) → W p l e (g_rm 5 111 0 0) s m ([.ref a0, .int x1, .int x2, .int x3] : List Value).toArray below meth c H locs 0 0 (MQ below (va_Qi (g_is rz Gz) (g_Pre lo dd cT) (g_A lo)) ([.ref a0, .int x1, .int x2, .int x3] : List Value).toArray s 0 0 (g_A lo)) (F0 m 37 ls []) := by
    intro n
    induction n with
    | zero =>
      intro G ba0 bx1 bx2 bx4 bx5 bx6 H locs hG ls hl h
      cases (show (none : Option (gH × Int32)) = some (Gz, rz) from h)
    | succ n ih =>
      intro G ba0 bx1 bx2 bx4 bx5 bx6 H locs hG ls hl h
      rw [f_X1_writeVersion_L37] at h
      refine lv_iload hx hb dX1_writeVersion_37 (lv_at hl 5 rfl) ?_
      refine lv_iload_n hx hb dX1_writeVersion_39 rfl (lv_at hl 2 rfl) ?_
      refine lv_icmp_ge (tgt := 63) hx hb dX1_writeVersion_40 (by decide) (fun c40 => ?_) (fun c40 => ?_)
      · rw [if_pos c40] at h
        refine lv_aload_n hx hb dX1_writeVersion_63 rfl (lv_at hl 0 rfl) ?_
        obtain ⟨v64, e64, h⟩ := Option.bind_eq_some_iff.mp h
        refine g_getr hx hb hts inlX1 hown hK hG (by rfl) 2 (by decide) qF_X1_28 e64 dX1_writeVersion_64 ?_
        refine lv_iload_n hx hb dX1_writeVersion_67 rfl (lv_at hl 1 rfl) ?_
        refine lv_iload hx hb dX1_writeVersion_68 (lv_at hl 4 rfl) ?_
        obtain ⟨u70, i70, h⟩ := Option.bind_eq_some_iff.mp h
        obtain ⟨G70, e70, h⟩ := Option.bind_eq_some_iff.mp h
        refine g_cVv (As := [.int bx1, .int bx5]) (rest := []) (n := 2) hx hb hml hown hts hK hlo hG (m_X5_enter l dd cT lo G v64 bx1 bx5 e70) qM_X1_186 qI_yX5_enter qS_X5_yX5_enter qN_X5 qC_yX5_enter (by decide +kernel) ⟨Nat.le_of_ble_eq_true rfl, Nat.le_of_ble_eq_true rfl⟩ (by rfl) i70 rfl hl.1 rfl (Nat.le_of_ble_eq_true rfl) dX1_writeVersion_70 ⟨Nat.le_of_ble_eq_true rfl, Nat.le_of_ble_eq_true rfl⟩ (fun H locs hG => ?_)
        refine lv_iload hx hb dX1_writeVersion_73 (lv_at hl 4 rfl) ?_
        obtain ⟨rfl, rfl⟩ := Prod.mk.inj (Option.some.inj h)
        exact g_iret hx hb hr hlocks hK hlo hG ⟨rfl, rfl⟩ dX1_writeVersion_75
      · rw [if_neg c40] at h
        refine lv_aload_n hx hb dX1_writeVersion_43 rfl (lv_at hl 0 rfl) ?_
        obtain ⟨v44, e44, h⟩ := Option.bind_eq_some_iff.mp h
        refine g_getr hx hb hts inlX1 hown hK hG (by rfl) 0 (by decide) qF_X1_12 e44 dX1_writeVersion_44 ?_
        refine lv_iconst (v := (1 : Int32)) hx hb dX1_writeVersion_47 (by decide) ?_
        refine lv_iload hx hb dX1_writeVersion_48 (lv_at hl 3 rfl) ?_
        refine lv_iload hx hb dX1_writeVersion_50 (lv_at hl 4 rfl) ?_
        refine lv_iload hx hb dX1_writeVersion_52 (lv_at hl 5 rfl) ?_
        obtain ⟨u54, i54, h⟩ := Option.bind_eq_some_iff.mp h
        obtain ⟨G54, e54, h⟩ := Option.bind_eq_some_iff.mp h
        refine g_cVv (As := [.int (1 : Int32), .int bx4, .int bx5, .int bx6]) (rest := []) (n := 4) hx hb hml hown hts hK hlo hG (m_X0_writeNext l dd cT lo G v44 (1 : Int32) bx4 bx5 bx6 e54) qM_X1_182 qI_yX0_writeNext qS_X0_yX0_writeNext qN_X0 qC_yX0_writeNext (by decide +kernel) ⟨Nat.le_of_ble_eq_true rfl, Nat.le_of_ble_eq_true rfl⟩ (by rfl) i54 rfl hl.1 rfl (Nat.le_of_ble_eq_true rfl) dX1_writeVersion_54 ⟨Nat.le_of_ble_eq_true rfl, Nat.le_of_ble_eq_true rfl⟩ (fun H locs hG => ?_)
        refine lv_iinc (v := (bx6 + (1 : Int32))) (lv' := [(6, .int (bx6 + (1 : Int32))), (0, .ref ba0), (1, .int bx1), (2, .int bx2), (4, .int bx4), (5, .int bx5)]) hx hb dX1_writeVersion_57 hl (k := 5) rfl rfl (by decide) rfl (fun ls hl => ?_)
        refine lv_goto (tgt := 37) hx hb dX1_writeVersion_60 (by decide) ?_
        exact ih G54 ba0 bx1 bx2 bx4 bx5 (bx6 + (1 : Int32)) _ _ hG _ (lv_sub hl [1, 2, 3, 4, 5, 0] rfl) h
  unfold f_X1_writeVersion at h
  refine lv_aload_n hx hb dX1_writeVersion_0 rfl (lv_at hl 0 rfl) ?_
  obtain ⟨u1, i1, h⟩ := Option.bind_eq_some_iff.mp h
  obtain ⟨G1, e1, h⟩ := Option.bind_eq_some_iff.mp h
  refine g_cVv (As := []) (rest := []) (n := 0) hx hb hml hown hts hK hlo hG (m_X1_beginIfNeeded l dd cT lo G a0 e1) qM_X1_172 qI_yX1_beginIfNeeded qS_X1_yX1_beginIfNeeded qN_X1 qC_yX1_beginIfNeeded (by decide +kernel) ⟨Nat.le_of_ble_eq_true rfl, Nat.le_of_ble_eq_true rfl⟩ (by rfl) i1 rfl hl.1 rfl (Nat.le_of_ble_eq_true rfl) dX1_writeVersion_1 ⟨Nat.le_of_ble_eq_true rfl, Nat.le_of_ble_eq_true rfl⟩ (fun H locs hG => ?_)
  refine lv_aload_n hx hb dX1_writeVersion_4 rfl (lv_at hl 0 rfl) ?_
  obtain ⟨v5, e5, h⟩ := Option.bind_eq_some_iff.mp h
  refine g_getr hx hb hts inlX1 hown hK hG (by rfl) 2 (by decide) qF_X1_28 e5 dX1_writeVersion_5 ?_
  obtain ⟨u8, i8, h⟩ := Option.bind_eq_some_iff.mp h
  obtain ⟨v8, e8, h⟩ := Option.bind_eq_some_iff.mp h
  refine g_cVi (As := []) (rest := []) (n := 0) hx hb hml hown hts hK hlo hG (m_X5_latest l dd cT lo G1 v5 e8) qM_X1_162 qI_yX5_latest qS_X5_yX5_latest qN_X5 qC_yX5_latest (by decide +kernel) ⟨Nat.le_of_ble_eq_true rfl, Nat.le_of_ble_eq_true rfl⟩ (by rfl) i8 rfl hl.1 rfl (Nat.le_of_ble_eq_true rfl) dX1_writeVersion_8 ⟨Nat.le_of_ble_eq_true rfl, Nat.le_of_ble_eq_true rfl⟩ (fun H locs hG => ?_)
  refine lv_istore (lv' := [(4, .int v8), (0, .ref a0), (1, .int x1), (2, .int x2), (3, .int x3)]) hx hb dX1_writeVersion_11 hl (by decide) rfl (fun ls hl => ?_)
  refine lv_aload_n hx hb dX1_writeVersion_13 rfl (lv_at hl 1 rfl) ?_
  obtain ⟨v14, e14, h⟩ := Option.bind_eq_some_iff.mp h
  refine g_getr hx hb hts inlX1 hown hK hG (by rfl) 1 (by decide) qF_X1_21 e14 dX1_writeVersion_14 ?_
  refine lv_iload_n hx hb dX1_writeVersion_17 rfl (lv_at hl 2 rfl) ?_
  refine lv_aload_n hx hb dX1_writeVersion_18 rfl (lv_at hl 1 rfl) ?_
  obtain ⟨v19, e19, h⟩ := Option.bind_eq_some_iff.mp h
  refine g_getr hx hb hts inlX1 hown hK hG (by rfl) 0 (by decide) qF_X1_12 e19 dX1_writeVersion_19 ?_
  obtain ⟨v22, e22, h⟩ := Option.bind_eq_some_iff.mp h
  refine g_geti hx hb hts inlX0 hown hK hG (by rfl) 2 (by decide) qF_X1_175 e22 dX1_writeVersion_22 ?_
  refine lv_iload_n hx hb dX1_writeVersion_25 rfl (lv_at hl 3 rfl) ?_
  refine lv_iload_n hx hb dX1_writeVersion_26 rfl (lv_at hl 4 rfl) ?_
  refine lv_iload hx hb dX1_writeVersion_27 (lv_at hl 0 rfl) ?_
  obtain ⟨u29, i29, h⟩ := Option.bind_eq_some_iff.mp h
  obtain ⟨q29, e29, h⟩ := Option.bind_eq_some_iff.mp h
  refine g_cVi (As := [.int x1, .int v22, .int x2, .int x3, .int v8]) (rest := []) (n := 5) hx hb hml hown hts hK hlo hG (m_X7_add l dd cT lo G1 v14 x1 v22 x2 x3 v8 e29) qM_X1_178 qI_yX7_add qS_X7_yX7_add qN_X7 qC_yX7_add (by decide +kernel) ⟨Nat.le_of_ble_eq_true rfl, Nat.le_of_ble_eq_true rfl⟩ (by rfl) i29 rfl hl.1 rfl (Nat.le_of_ble_eq_true rfl) dX1_writeVersion_29 ⟨Nat.le_of_ble_eq_true rfl, Nat.le_of_ble_eq_true rfl⟩ (fun H locs hG => ?_)
  refine lv_istore (lv' := [(5, .int q29.2), (4, .int v8), (0, .ref a0), (1, .int x1), (2, .int x2), (3, .int x3)]) hx hb dX1_writeVersion_32 hl (by decide) rfl (fun ls hl => ?_)
  refine lv_iconst (v := (0 : Int32)) hx hb dX1_writeVersion_34 (by decide) ?_
  refine lv_istore (lv' := [(6, .int (0 : Int32)), (5, .int q29.2), (4, .int v8), (0, .ref a0), (1, .int x1), (2, .int x2), (3, .int x3)]) hx hb dX1_writeVersion_35 hl (by decide) rfl (fun ls hl => ?_)
  exact h37 g_N q29.1 a0 x1 x2 v8 q29.2 (0 : Int32) _ _ hG _ (lv_sub hl [3, 4, 5, 2, 1, 0] rfl) h
def f_X1_eraseFile (G : gH) (a0 : Nat) (x1 : Int32) : Option gH :=
    (g_ob G a0 1).bind fun u1 =>
    (f_X1_beginIfNeeded G a0).bind fun G1 =>
    (g_r G1 a0 1 2).bind fun v5 =>
    (g_ob G1 v5 5).bind fun u10 =>
    (f_X5_enter G1 v5 x1 (-1 : Int32)).bind fun G10 =>
    some G10
set_option maxRecDepth 20000 in
set_option maxHeartbeats 4000000 in
theorem m_X1_eraseFile (l : Launch) (dd : va_G) (cT : Nat → ClassId) (lo : Nat) (G : gH) (a0 : Nat) (x1 : Int32) {Gz : gH} (h : f_X1_eraseFile G a0 x1 = some Gz) : Met l yX1_eraseFile (Cond.code yX1_eraseFile cX1_eraseFile 2 none :: wsL_law) (g_rm 5 111 0 0) (va_Pc [.ref a0, .int x1] (g_Pre lo dd cT G)) (va_Qv (g_iv Gz) (g_Pre lo dd cT) (g_A lo)) 0 0 (g_A lo) := by
  refine g_start RX1 rfl (by decide) (Nat.le_of_ble_eq_true rfl) ?_
  intro p e s m below meth c hx hb hr hlocks hml hown hnm hts hK hG hlo ls hl
  have hl : lv_has ls 2 [(0, .ref a0), (1, .int x1)] := hl
  have hG : g_S lo dd cT s s.heap [] G := hG
  unfold f_X1_eraseFile at h
  refine lv_aload_n hx hb dX1_eraseFile_0 rfl (lv_at hl 0 rfl) ?_
  obtain ⟨u1, i1, h⟩ := Option.bind_eq_some_iff.mp h
  obtain ⟨G1, e1, h⟩ := Option.bind_eq_some_iff.mp h
  refine g_cVv (As := []) (rest := []) (n := 0) hx hb hml hown hts hK hlo hG (m_X1_beginIfNeeded l dd cT lo G a0 e1) qM_X1_172 qI_yX1_beginIfNeeded qS_X1_yX1_beginIfNeeded qN_X1 qC_yX1_beginIfNeeded (by decide +kernel) ⟨Nat.le_of_ble_eq_true rfl, Nat.le_of_ble_eq_true rfl⟩ (by rfl) i1 rfl hl.1 rfl (Nat.le_of_ble_eq_true rfl) dX1_eraseFile_1 ⟨Nat.le_of_ble_eq_true rfl, Nat.le_of_ble_eq_true rfl⟩ (fun H locs hG => ?_)
  refine lv_aload_n hx hb dX1_eraseFile_4 rfl (lv_at hl 0 rfl) ?_
  obtain ⟨v5, e5, h⟩ := Option.bind_eq_some_iff.mp h
  refine g_getr hx hb hts inlX1 hown hK hG (by rfl) 2 (by decide) qF_X1_28 e5 dX1_eraseFile_5 ?_
  refine lv_iload_n hx hb dX1_eraseFile_8 rfl (lv_at hl 1 rfl) ?_
  refine lv_iconst (v := (-1 : Int32)) hx hb dX1_eraseFile_9 (by decide) ?_
  obtain ⟨u10, i10, h⟩ := Option.bind_eq_some_iff.mp h
  obtain ⟨G10, e10, h⟩ := Option.bind_eq_some_iff.mp h
  refine g_cVv (As := [.int x1, .int (-1 : Int32)]) (rest := []) (n := 2) hx hb hml hown hts hK hlo hG (m_X5_enter l dd cT lo G1 v5 x1 (-1 : Int32) e10) qM_X1_186 qI_yX5_enter qS_X5_yX5_enter qN_X5 qC_yX5_enter (by decide +kernel) ⟨Nat.le_of_ble_eq_true rfl, Nat.le_of_ble_eq_true rfl⟩ (by rfl) i10 rfl hl.1 rfl (Nat.le_of_ble_eq_true rfl) dX1_eraseFile_10 ⟨Nat.le_of_ble_eq_true rfl, Nat.le_of_ble_eq_true rfl⟩ (fun H locs hG => ?_)
  obtain rfl := Option.some.inj h
  exact g_vret hx hb hr hlocks hK hlo hG rfl dX1_eraseFile_13
def f_X1_recoverSession_L36 : Nat → gH → Nat → Int32 → Int32 → Option (gH × Int32)
  | 0, _, _, _, _ => none
  | n + 1, G, ba0, bx1, bx2 =>
    (g_r G ba0 1 1).bind fun v38 =>
    (g_i G v38 7 0).bind fun v41 =>
    if v41 ≤ bx2 then
    (g_ob G ba0 1).bind fun u79 =>
    (f_X1_closeSession G ba0).bind fun q79 =>
    (g_r q79.1 ba0 1 2).bind fun v84 =>
    (g_r q79.1 ba0 1 2).bind fun v88 =>
    (g_ob q79.1 v88 5).bind fun u91 =>
    (f_X5_latest q79.1 v88).bind fun v91 =>
    (g_ob q79.1 v84 5).bind fun u94 =>
    (f_X5_entriesOf q79.1 v84 v91).bind fun v94 =>
    some (q79.1, v94)
    else
    (g_ob G ba0 1).bind fun u50 =>
    (f_X1_isRecoverable G ba0 bx2 bx1).bind fun v50 =>
    if v50 = 0 then
    f_X1_recoverSession_L36 n G ba0 bx1 (bx2 + (1 : Int32))
    else
    (g_r G ba0 1 2).bind fun v57 =>
    (g_r G ba0 1 1).bind fun v61 =>
    (g_ob G v61 7).bind fun u65 =>
    (f_X7_fileOf G v61 bx2).bind fun v65 =>
    (g_ob G v57 5).bind fun u69 =>
    (f_X5_enter G v57 v65 bx2).bind fun G69 =>
    f_X1_recoverSession_L36 n G69 ba0 bx1 (bx2 + (1 : Int32))
def f_X1_recoverSession (G : gH) (a0 : Nat) : Option (gH × Int32) :=
    (g_r G a0 1 2).bind fun v1 =>
    (g_ob G v1 5).bind fun u4 =>
    (f_X5_latest G v1).bind fun v4 =>
    (g_r G a0 1 2).bind fun v9 =>
    (g_r G v9 5 1).bind fun v12 =>
    (f_X9_put G v12 v4 (3 : Int32)).bind fun G17 =>
    (g_r G17 a0 1 2).bind fun v21 =>
    (g_r G17 a0 1 0).bind fun v25 =>
    (g_i G17 v25 0 2).bind fun v28 =>
    (g_ob G17 v21 5).bind fun u31 =>
    (f_X5_begin G17 v21 v28).bind fun G31 =>
    f_X1_recoverSession_L36 g_N G31 a0 v4 (0 : Int32)
set_option maxRecDepth 20000 in
set_option maxHeartbeats 4000000 in
theorem m_X1_recoverSession (l : Launch) (dd : va_G) (cT : Nat → ClassId) (lo : Nat) (G : gH) (a0 : Nat) {rz : Int32} {Gz : gH} (h : f_X1_recoverSession G a0 = some (Gz, rz)) : Met l yX1_recoverSession (Cond.code yX1_recoverSession cX1_recoverSession 3 (some .int) :: wsL_law) (g_rm 6 132 0 0) (va_Pc [.ref a0] (g_Pre lo dd cT G)) (va_Qi (g_is rz Gz) (g_Pre lo dd cT) (g_A lo)) 0 0 (g_A lo) := by
  refine g_start RX1 rfl (by decide) (Nat.le_of_ble_eq_true rfl) ?_
  intro p e s m below meth c hx hb hr hlocks hml hown hnm hts hK hG hlo ls hl
  have hl : lv_has ls 3 [(0, .ref a0)] := hl
  have hG : g_S lo dd cT s s.heap [] G := hG
  have h36 : ∀ n : Nat, ∀ (G : gH) (ba0 : Nat) (bx1 : Int32) (bx2 : Int32), ∀ (H : Heap) (locs : List Loc), g_S lo dd cT s H locs G → ∀ ls : Array Slot, lv_has ls 3 [(0, .ref ba0), (1, .int bx1), (2, .int bx2)] → f_X1_recoverSession_L36 n G ba0 bx1 bx2 = some (Gz, rz) → W p l e (g_rm 6 132 0 0) s m ([.ref a0] : List Value).toArray below meth c H locs 0 0 (MQ below (va_Qi (g_is rz Gz) (g_Pre lo dd cT) (g_A lo)) ([.ref a0] : List Value).toArray s 0 0 (g_A lo)) (F0 m 36 ls []) := by
    intro n
    induction n with
    | zero =>
      intro G ba0 bx1 bx2 H locs hG ls hl h
      cases (show (none : Option (gH × Int32)) = some (Gz, rz) from h)
    | succ n ih =>
      intro G ba0 bx1 bx2 H locs hG ls hl h
      rw [f_X1_recoverSession_L36] at h
      refine lv_iload_n hx hb dX1_recoverSession_36 rfl (lv_at hl 2 rfl) ?_
      refine lv_aload_n hx hb dX1_recoverSession_37 rfl (lv_at hl 0 rfl) ?_
      obtain ⟨v38, e38, h⟩ := Option.bind_eq_some_iff.mp h
      refine g_getr hx hb hts inlX1 hown hK hG (by rfl) 1 (by decide) qF_X1_21 e38 dX1_recoverSession_38 ?_
      obtain ⟨v41, e41, h⟩ := Option.bind_eq_some_iff.mp h
      refine g_geti hx hb hts inlX7 hown hK hG (by rfl) 0 (by decide) qF_X1_55 e41 dX1_recoverSession_41 ?_
      refine lv_icmp_ge (tgt := 78) hx hb dX1_recoverSession_44 (by decide) (fun c44 => ?_) (fun c44 => ?_)
      · rw [if_pos c44] at h
        refine lv_aload_n hx hb dX1_recoverSession_78 rfl (lv_at hl 0 rfl) ?_
        obtain ⟨u79, i79, h⟩ := Option.bind_eq_some_iff.mp h
        obtain ⟨q79, e79, h⟩ := Option.bind_eq_some_iff.mp h
        refine g_cVi (As := []) (rest := []) (n := 0) hx hb hml hown hts hK hlo hG (m_X1_closeSession l dd cT lo G ba0 e79) qM_X1_213 qI_yX1_closeSession qS_X1_yX1_closeSession qN_X1 qC_yX1_closeSession (by decide +kernel) ⟨Nat.le_of_ble_eq_true rfl, Nat.le_of_ble_eq_true rfl⟩ (by rfl) i79 rfl hl.1 rfl (Nat.le_of_ble_eq_true rfl) dX1_recoverSession_79 ⟨Nat.le_of_ble_eq_true rfl, Nat.le_of_ble_eq_true rfl⟩ (fun H locs hG => ?_)
        refine lv_pop hx hb dX1_recoverSession_82 rfl ?_
        refine lv_aload_n hx hb dX1_recoverSession_83 rfl (lv_at hl 0 rfl) ?_
        obtain ⟨v84, e84, h⟩ := Option.bind_eq_some_iff.mp h
        refine g_getr hx hb hts inlX1 hown hK hG (by rfl) 2 (by decide) qF_X1_28 e84 dX1_recoverSession_84 ?_
        refine lv_aload_n hx hb dX1_recoverSession_87 rfl (lv_at hl 0 rfl) ?_
        obtain ⟨v88, e88, h⟩ := Option.bind_eq_some_iff.mp h
        refine g_getr hx hb hts inlX1 hown hK hG (by rfl) 2 (by decide) qF_X1_28 e88 dX1_recoverSession_88 ?_
        obtain ⟨u91, i91, h⟩ := Option.bind_eq_some_iff.mp h
        obtain ⟨v91, e91, h⟩ := Option.bind_eq_some_iff.mp h
        refine g_cVi (As := []) (rest := [.ref v84]) (n := 0) hx hb hml hown hts hK hlo hG (m_X5_latest l dd cT lo q79.1 v88 e91) qM_X1_162 qI_yX5_latest qS_X5_yX5_latest qN_X5 qC_yX5_latest (by decide +kernel) ⟨Nat.le_of_ble_eq_true rfl, Nat.le_of_ble_eq_true rfl⟩ (by rfl) i91 rfl hl.1 rfl (Nat.le_of_ble_eq_true rfl) dX1_recoverSession_91 ⟨Nat.le_of_ble_eq_true rfl, Nat.le_of_ble_eq_true rfl⟩ (fun H locs hG => ?_)
        obtain ⟨u94, i94, h⟩ := Option.bind_eq_some_iff.mp h
        obtain ⟨v94, e94, h⟩ := Option.bind_eq_some_iff.mp h
        refine g_cVi (As := [.int v91]) (rest := []) (n := 1) hx hb hml hown hts hK hlo hG (m_X5_entriesOf l dd cT lo q79.1 v84 v91 e94) qM_X1_91 qI_yX5_entriesOf qS_X5_yX5_entriesOf qN_X5 qC_yX5_entriesOf (by decide +kernel) ⟨Nat.le_of_ble_eq_true rfl, Nat.le_of_ble_eq_true rfl⟩ (by rfl) i94 rfl hl.1 rfl (Nat.le_of_ble_eq_true rfl) dX1_recoverSession_94 ⟨Nat.le_of_ble_eq_true rfl, Nat.le_of_ble_eq_true rfl⟩ (fun H locs hG => ?_)
        obtain ⟨rfl, rfl⟩ := Prod.mk.inj (Option.some.inj h)
        exact g_iret hx hb hr hlocks hK hlo hG ⟨rfl, rfl⟩ dX1_recoverSession_97
      · rw [if_neg c44] at h
        refine lv_aload_n hx hb dX1_recoverSession_47 rfl (lv_at hl 0 rfl) ?_
        refine lv_iload_n hx hb dX1_recoverSession_48 rfl (lv_at hl 2 rfl) ?_
        refine lv_iload_n hx hb dX1_recoverSession_49 rfl (lv_at hl 1 rfl) ?_
        obtain ⟨u50, i50, h⟩ := Option.bind_eq_some_iff.mp h
        obtain ⟨v50, e50, h⟩ := Option.bind_eq_some_iff.mp h
        refine g_cVi (As := [.int bx2, .int bx1]) (rest := []) (n := 2) hx hb hml hown hts hK hlo hG (m_X1_isRecoverable l dd cT lo G ba0 bx2 bx1 e50) qM_X1_210 qI_yX1_isRecoverable qS_X1_yX1_isRecoverable qN_X1 qC_yX1_isRecoverable (by decide +kernel) ⟨Nat.le_of_ble_eq_true rfl, Nat.le_of_ble_eq_true rfl⟩ (by rfl) i50 rfl hl.1 rfl (Nat.le_of_ble_eq_true rfl) dX1_recoverSession_50 ⟨Nat.le_of_ble_eq_true rfl, Nat.le_of_ble_eq_true rfl⟩ (fun H locs hG => ?_)
        refine lv_if_eq (tgt := 72) hx hb dX1_recoverSession_53 (by decide) (fun c53 => ?_) (fun c53 => ?_)
        · rw [if_pos c53] at h
          refine lv_iinc (v := (bx2 + (1 : Int32))) (lv' := [(2, .int (bx2 + (1 : Int32))), (0, .ref ba0), (1, .int bx1)]) hx hb dX1_recoverSession_72 hl (k := 2) rfl rfl (by decide) rfl (fun ls hl => ?_)
          refine lv_goto (tgt := 36) hx hb dX1_recoverSession_75 (by decide) ?_
          exact ih G ba0 bx1 (bx2 + (1 : Int32)) _ _ hG _ (lv_sub hl [1, 2, 0] rfl) h
        · rw [if_neg c53] at h
          refine lv_aload_n hx hb dX1_recoverSession_56 rfl (lv_at hl 0 rfl) ?_
          obtain ⟨v57, e57, h⟩ := Option.bind_eq_some_iff.mp h
          refine g_getr hx hb hts inlX1 hown hK hG (by rfl) 2 (by decide) qF_X1_28 e57 dX1_recoverSession_57 ?_
          refine lv_aload_n hx hb dX1_recoverSession_60 rfl (lv_at hl 0 rfl) ?_
          obtain ⟨v61, e61, h⟩ := Option.bind_eq_some_iff.mp h
          refine g_getr hx hb hts inlX1 hown hK hG (by rfl) 1 (by decide) qF_X1_21 e61 dX1_recoverSession_61 ?_
          refine lv_iload_n hx hb dX1_recoverSession_64 rfl (lv_at hl 2 rfl) ?_
          obtain ⟨u65, i65, h⟩ := Option.bind_eq_some_iff.mp h
          obtain ⟨v65, e65, h⟩ := Option.bind_eq_some_iff.mp h
          refine g_cVi (As := [.int bx2]) (rest := [.ref v57]) (n := 1) hx hb hml hown hts hK hlo hG (m_X7_fileOf l dd cT lo G v61 bx2 e65) qM_X1_140 qI_yX7_fileOf qS_X7_yX7_fileOf qN_X7 qC_yX7_fileOf (by decide +kernel) ⟨Nat.le_of_ble_eq_true rfl, Nat.le_of_ble_eq_true rfl⟩ (by rfl) i65 rfl hl.1 rfl (Nat.le_of_ble_eq_true rfl) dX1_recoverSession_65 ⟨Nat.le_of_ble_eq_true rfl, Nat.le_of_ble_eq_true rfl⟩ (fun H locs hG => ?_)
          refine lv_iload_n hx hb dX1_recoverSession_68 rfl (lv_at hl 2 rfl) ?_
          obtain ⟨u69, i69, h⟩ := Option.bind_eq_some_iff.mp h
          obtain ⟨G69, e69, h⟩ := Option.bind_eq_some_iff.mp h
          refine g_cVv (As := [.int v65, .int bx2]) (rest := []) (n := 2) hx hb hml hown hts hK hlo hG (m_X5_enter l dd cT lo G v57 v65 bx2 e69) qM_X1_186 qI_yX5_enter qS_X5_yX5_enter qN_X5 qC_yX5_enter (by decide +kernel) ⟨Nat.le_of_ble_eq_true rfl, Nat.le_of_ble_eq_true rfl⟩ (by rfl) i69 rfl hl.1 rfl (Nat.le_of_ble_eq_true rfl) dX1_recoverSession_69 ⟨Nat.le_of_ble_eq_true rfl, Nat.le_of_ble_eq_true rfl⟩ (fun H locs hG => ?_)
          refine lv_iinc (v := (bx2 + (1 : Int32))) (lv' := [(2, .int (bx2 + (1 : Int32))), (0, .ref ba0), (1, .int bx1)]) hx hb dX1_recoverSession_72 hl (k := 2) rfl rfl (by decide) rfl (fun ls hl => ?_)
          refine lv_goto (tgt := 36) hx hb dX1_recoverSession_75 (by decide) ?_
          exact ih G69 ba0 bx1 (bx2 + (1 : Int32)) _ _ hG _ (lv_sub hl [1, 2, 0] rfl) h
  unfold f_X1_recoverSession at h
  refine lv_aload_n hx hb dX1_recoverSession_0 rfl (lv_at hl 0 rfl) ?_
  obtain ⟨v1, e1, h⟩ := Option.bind_eq_some_iff.mp h
  refine g_getr hx hb hts inlX1 hown hK hG (by rfl) 2 (by decide) qF_X1_28 e1 dX1_recoverSession_1 ?_
  obtain ⟨u4, i4, h⟩ := Option.bind_eq_some_iff.mp h
  obtain ⟨v4, e4, h⟩ := Option.bind_eq_some_iff.mp h
  refine g_cVi (As := []) (rest := []) (n := 0) hx hb hml hown hts hK hlo hG (m_X5_latest l dd cT lo G v1 e4) qM_X1_162 qI_yX5_latest qS_X5_yX5_latest qN_X5 qC_yX5_latest (by decide +kernel) ⟨Nat.le_of_ble_eq_true rfl, Nat.le_of_ble_eq_true rfl⟩ (by rfl) i4 rfl hl.1 rfl (Nat.le_of_ble_eq_true rfl) dX1_recoverSession_4 ⟨Nat.le_of_ble_eq_true rfl, Nat.le_of_ble_eq_true rfl⟩ (fun H locs hG => ?_)
  refine lv_istore_n (lv' := [(1, .int v4), (0, .ref a0)]) hx hb dX1_recoverSession_7 rfl hl (by decide) rfl (fun ls hl => ?_)
  refine lv_aload_n hx hb dX1_recoverSession_8 rfl (lv_at hl 1 rfl) ?_
  obtain ⟨v9, e9, h⟩ := Option.bind_eq_some_iff.mp h
  refine g_getr hx hb hts inlX1 hown hK hG (by rfl) 2 (by decide) qF_X1_28 e9 dX1_recoverSession_9 ?_
  obtain ⟨v12, e12, h⟩ := Option.bind_eq_some_iff.mp h
  refine g_getr hx hb hts inlX5 hown hK hG (by rfl) 1 (by decide) qF_X1_202 e12 dX1_recoverSession_12 ?_
  refine lv_iload_n hx hb dX1_recoverSession_15 rfl (lv_at hl 0 rfl) ?_
  refine lv_iconst (v := (3 : Int32)) hx hb dX1_recoverSession_16 (by decide) ?_
  obtain ⟨G17, e17, h⟩ := Option.bind_eq_some_iff.mp h
  refine g_cNv (As := [.ref v12, .int v4, .int (3 : Int32)]) (rest := []) (n := 3) hx hb hml hown hts hK hlo hG (m_X9_put l dd cT lo G v12 v4 (3 : Int32) e17) (List.mem_of_getElem? (i := 22) rfl) qT_yX9_put qN_X9 qC_yX9_put (by decide +kernel) ⟨Nat.le_of_ble_eq_true rfl, Nat.le_of_ble_eq_true rfl⟩ rfl hl.1 rfl (Nat.le_of_ble_eq_true rfl) dX1_recoverSession_17 ⟨Nat.le_of_ble_eq_true rfl, Nat.le_of_ble_eq_true rfl⟩ (fun H locs hG => ?_)
  refine lv_aload_n hx hb dX1_recoverSession_20 rfl (lv_at hl 1 rfl) ?_
  obtain ⟨v21, e21, h⟩ := Option.bind_eq_some_iff.mp h
  refine g_getr hx hb hts inlX1 hown hK hG (by rfl) 2 (by decide) qF_X1_28 e21 dX1_recoverSession_21 ?_
  refine lv_aload_n hx hb dX1_recoverSession_24 rfl (lv_at hl 1 rfl) ?_
  obtain ⟨v25, e25, h⟩ := Option.bind_eq_some_iff.mp h
  refine g_getr hx hb hts inlX1 hown hK hG (by rfl) 0 (by decide) qF_X1_12 e25 dX1_recoverSession_25 ?_
  obtain ⟨v28, e28, h⟩ := Option.bind_eq_some_iff.mp h
  refine g_geti hx hb hts inlX0 hown hK hG (by rfl) 2 (by decide) qF_X1_175 e28 dX1_recoverSession_28 ?_
  obtain ⟨u31, i31, h⟩ := Option.bind_eq_some_iff.mp h
  obtain ⟨G31, e31, h⟩ := Option.bind_eq_some_iff.mp h
  refine g_cVv (As := [.int v28]) (rest := []) (n := 1) hx hb hml hown hts hK hlo hG (m_X5_begin l dd cT lo G17 v21 v28 e31) qM_X1_189 qI_yX5_begin qS_X5_yX5_begin qN_X5 qC_yX5_begin (by decide +kernel) ⟨Nat.le_of_ble_eq_true rfl, Nat.le_of_ble_eq_true rfl⟩ (by rfl) i31 rfl hl.1 rfl (Nat.le_of_ble_eq_true rfl) dX1_recoverSession_31 ⟨Nat.le_of_ble_eq_true rfl, Nat.le_of_ble_eq_true rfl⟩ (fun H locs hG => ?_)
  refine lv_iconst (v := (0 : Int32)) hx hb dX1_recoverSession_34 (by decide) ?_
  refine lv_istore_n (lv' := [(2, .int (0 : Int32)), (1, .int v4), (0, .ref a0)]) hx hb dX1_recoverSession_35 rfl hl (by decide) rfl (fun ls hl => ?_)
  exact h36 g_N G31 a0 v4 (0 : Int32) _ _ hG _ (lv_sub hl [2, 1, 0] rfl) h
def f_X1_recoverableVersions_L4 (G : gH) : Nat → Nat → Int32 → Int32 → Option Int32
  | 0, _, _, _ => none
  | n + 1, ba0, bx1, bx2 =>
    (g_r G ba0 1 2).bind fun v5 =>
    (g_ob G v5 5).bind fun u8 =>
    (f_X5_latestIsLost G v5).bind fun v8 =>
    if v8 = 0 then
    some bx1
    else
    (g_r G ba0 1 1).bind fun v16 =>
    (g_i G v16 7 0).bind fun v19 =>
    if v19 ≤ bx2 then
    some bx1
    else
    (g_r G ba0 1 2).bind fun v29 =>
    (g_ob G v29 5).bind fun u32 =>
    (f_X5_latest G v29).bind fun v32 =>
    (g_ob G ba0 1).bind fun u35 =>
    (f_X1_isRecoverable G ba0 bx2 v32).bind fun v35 =>
    (f_X9_oneIf G v35).bind fun v38 =>
    f_X1_recoverableVersions_L4 G n ba0 (bx1 + v38) (bx2 + (1 : Int32))
def f_X1_recoverableVersions (G : gH) (a0 : Nat) : Option Int32 :=
    f_X1_recoverableVersions_L4 G g_N a0 (0 : Int32) (0 : Int32)
set_option maxRecDepth 20000 in
set_option maxHeartbeats 4000000 in
theorem m_X1_recoverableVersions (l : Launch) (dd : va_G) (cT : Nat → ClassId) (lo : Nat) (G : gH) (a0 : Nat) {rz : Int32} (h : f_X1_recoverableVersions G a0 = some rz) : Met l yX1_recoverableVersions (Cond.code yX1_recoverableVersions cX1_recoverableVersions 3 (some .int) :: wsL_law) (g_rm 6 132 0 0) (va_Pc [.ref a0] (g_Pre lo dd cT G)) (va_Qi (g_is rz G) (g_Pre lo dd cT) (g_A lo)) 0 0 (g_A lo) := by
  refine g_start RX1 rfl (by decide) (Nat.le_of_ble_eq_true rfl) ?_
  intro p e s m below meth c hx hb hr hlocks hml hown hnm hts hK hG hlo ls hl
  have hl : lv_has ls 3 [(0, .ref a0)] := hl
  have hG : g_S lo dd cT s s.heap [] G := hG
  have h4 : ∀ n : Nat, ∀ (ba0 : Nat) (bx1 : Int32) (bx2 : Int32), ∀ (H : Heap) (locs : List Loc), g_S lo dd cT s H locs G → ∀ ls : Array Slot, lv_has ls 3 [(0, .ref ba0), (1, .int bx1), (2, .int bx2)] → f_X1_recoverableVersions_L4 G n ba0 bx1 bx2 = some rz → W p l e (g_rm 6 132 0 0) s m ([.ref a0] : List Value).toArray below meth c H locs 0 0 (MQ below (va_Qi (g_is rz G) (g_Pre lo dd cT) (g_A lo)) ([.ref a0] : List Value).toArray s 0 0 (g_A lo)) (F0 m 4 ls []) := by
    intro n
    induction n with
    | zero =>
      intro ba0 bx1 bx2 H locs hG ls hl h
      cases (show (none : Option Int32) = some rz from h)
    | succ n ih =>
      intro ba0 bx1 bx2 H locs hG ls hl h
      rw [f_X1_recoverableVersions_L4] at h
      refine lv_aload_n hx hb dX1_recoverableVersions_4 rfl (lv_at hl 0 rfl) ?_
      obtain ⟨v5, e5, h⟩ := Option.bind_eq_some_iff.mp h
      refine g_getr hx hb hts inlX1 hown hK hG (by rfl) 2 (by decide) qF_X1_28 e5 dX1_recoverableVersions_5 ?_
      obtain ⟨u8, i8, h⟩ := Option.bind_eq_some_iff.mp h
      obtain ⟨v8, e8, h⟩ := Option.bind_eq_some_iff.mp h
      refine g_cVi (As := []) (rest := []) (n := 0) hx hb hml hown hts hK hlo hG (m_X5_latestIsLost l dd cT lo G v5 e8) qM_X1_216 qI_yX5_latestIsLost qS_X5_yX5_latestIsLost qN_X5 qC_yX5_latestIsLost (by decide +kernel) ⟨Nat.le_of_ble_eq_true rfl, Nat.le_of_ble_eq_true rfl⟩ (by rfl) i8 rfl hl.1 rfl (Nat.le_of_ble_eq_true rfl) dX1_recoverableVersions_8 ⟨Nat.le_of_ble_eq_true rfl, Nat.le_of_ble_eq_true rfl⟩ (fun H locs hG => ?_)
      refine lv_if_eq (tgt := 49) hx hb dX1_recoverableVersions_11 (by decide) (fun c11 => ?_) (fun c11 => ?_)
      · rw [if_pos c11] at h
        refine lv_iload_n hx hb dX1_recoverableVersions_49 rfl (lv_at hl 1 rfl) ?_
        obtain rfl := Option.some.inj h
        exact g_iret hx hb hr hlocks hK hlo hG ⟨rfl, rfl⟩ dX1_recoverableVersions_50
      · rw [if_neg c11] at h
        refine lv_iload_n hx hb dX1_recoverableVersions_14 rfl (lv_at hl 2 rfl) ?_
        refine lv_aload_n hx hb dX1_recoverableVersions_15 rfl (lv_at hl 0 rfl) ?_
        obtain ⟨v16, e16, h⟩ := Option.bind_eq_some_iff.mp h
        refine g_getr hx hb hts inlX1 hown hK hG (by rfl) 1 (by decide) qF_X1_21 e16 dX1_recoverableVersions_16 ?_
        obtain ⟨v19, e19, h⟩ := Option.bind_eq_some_iff.mp h
        refine g_geti hx hb hts inlX7 hown hK hG (by rfl) 0 (by decide) qF_X1_55 e19 dX1_recoverableVersions_19 ?_
        refine lv_icmp_ge (tgt := 49) hx hb dX1_recoverableVersions_22 (by decide) (fun c22 => ?_) (fun c22 => ?_)
        · rw [if_pos c22] at h
          refine lv_iload_n hx hb dX1_recoverableVersions_49 rfl (lv_at hl 1 rfl) ?_
          obtain rfl := Option.some.inj h
          exact g_iret hx hb hr hlocks hK hlo hG ⟨rfl, rfl⟩ dX1_recoverableVersions_50
        · rw [if_neg c22] at h
          refine lv_iload_n hx hb dX1_recoverableVersions_25 rfl (lv_at hl 1 rfl) ?_
          refine lv_aload_n hx hb dX1_recoverableVersions_26 rfl (lv_at hl 0 rfl) ?_
          refine lv_iload_n hx hb dX1_recoverableVersions_27 rfl (lv_at hl 2 rfl) ?_
          refine lv_aload_n hx hb dX1_recoverableVersions_28 rfl (lv_at hl 0 rfl) ?_
          obtain ⟨v29, e29, h⟩ := Option.bind_eq_some_iff.mp h
          refine g_getr hx hb hts inlX1 hown hK hG (by rfl) 2 (by decide) qF_X1_28 e29 dX1_recoverableVersions_29 ?_
          obtain ⟨u32, i32, h⟩ := Option.bind_eq_some_iff.mp h
          obtain ⟨v32, e32, h⟩ := Option.bind_eq_some_iff.mp h
          refine g_cVi (As := []) (rest := [.int bx2, .ref ba0, .int bx1]) (n := 0) hx hb hml hown hts hK hlo hG (m_X5_latest l dd cT lo G v29 e32) qM_X1_162 qI_yX5_latest qS_X5_yX5_latest qN_X5 qC_yX5_latest (by decide +kernel) ⟨Nat.le_of_ble_eq_true rfl, Nat.le_of_ble_eq_true rfl⟩ (by rfl) i32 rfl hl.1 rfl (Nat.le_of_ble_eq_true rfl) dX1_recoverableVersions_32 ⟨Nat.le_of_ble_eq_true rfl, Nat.le_of_ble_eq_true rfl⟩ (fun H locs hG => ?_)
          obtain ⟨u35, i35, h⟩ := Option.bind_eq_some_iff.mp h
          obtain ⟨v35, e35, h⟩ := Option.bind_eq_some_iff.mp h
          refine g_cVi (As := [.int bx2, .int v32]) (rest := [.int bx1]) (n := 2) hx hb hml hown hts hK hlo hG (m_X1_isRecoverable l dd cT lo G ba0 bx2 v32 e35) qM_X1_210 qI_yX1_isRecoverable qS_X1_yX1_isRecoverable qN_X1 qC_yX1_isRecoverable (by decide +kernel) ⟨Nat.le_of_ble_eq_true rfl, Nat.le_of_ble_eq_true rfl⟩ (by rfl) i35 rfl hl.1 rfl (Nat.le_of_ble_eq_true rfl) dX1_recoverableVersions_35 ⟨Nat.le_of_ble_eq_true rfl, Nat.le_of_ble_eq_true rfl⟩ (fun H locs hG => ?_)
          obtain ⟨v38, e38, h⟩ := Option.bind_eq_some_iff.mp h
          refine g_cNi (As := [.int v35]) (rest := [.int bx1]) (n := 1) hx hb hml hown hts hK hlo hG (m_X9_oneIf l dd cT lo G v35 e38) (List.mem_of_getElem? (i := 21) rfl) qT_yX9_oneIf qN_X9 qC_yX9_oneIf (by decide +kernel) ⟨Nat.le_of_ble_eq_true rfl, Nat.le_of_ble_eq_true rfl⟩ rfl hl.1 rfl (Nat.le_of_ble_eq_true rfl) dX1_recoverableVersions_38 ⟨Nat.le_of_ble_eq_true rfl, Nat.le_of_ble_eq_true rfl⟩ (fun H locs hG => ?_)
          refine lv_iadd hx hb dX1_recoverableVersions_41 ?_
          refine lv_istore_n (lv' := [(1, .int (bx1 + v38)), (0, .ref ba0), (2, .int bx2)]) hx hb dX1_recoverableVersions_42 rfl hl (by decide) rfl (fun ls hl => ?_)
          refine lv_iinc (v := (bx2 + (1 : Int32))) (lv' := [(2, .int (bx2 + (1 : Int32))), (1, .int (bx1 + v38)), (0, .ref ba0)]) hx hb dX1_recoverableVersions_43 hl (k := 2) rfl rfl (by decide) rfl (fun ls hl => ?_)
          refine lv_goto (tgt := 4) hx hb dX1_recoverableVersions_46 (by decide) ?_
          exact ih ba0 (bx1 + v38) (bx2 + (1 : Int32)) _ _ hG _ (lv_sub hl [2, 1, 0] rfl) h
  unfold f_X1_recoverableVersions at h
  refine lv_iconst (v := (0 : Int32)) hx hb dX1_recoverableVersions_0 (by decide) ?_
  refine lv_istore_n (lv' := [(1, .int (0 : Int32)), (0, .ref a0)]) hx hb dX1_recoverableVersions_1 rfl hl (by decide) rfl (fun ls hl => ?_)
  refine lv_iconst (v := (0 : Int32)) hx hb dX1_recoverableVersions_2 (by decide) ?_
  refine lv_istore_n (lv' := [(2, .int (0 : Int32)), (1, .int (0 : Int32)), (0, .ref a0)]) hx hb dX1_recoverableVersions_3 rfl hl (by decide) rfl (fun ls hl => ?_)
  exact h4 g_N a0 (0 : Int32) (0 : Int32) _ _ hG _ (lv_sub hl [2, 1, 0] rfl) h
def f_X4_readHead (G : gH) (a0 : Nat) (a1 : Nat) (a2 : Nat) : Option (gH × Int32) :=
    (g_ob G a0 4).bind fun u2 =>
    (f_X4_advance G a0 a1).bind fun G2 =>
    (g_ob G2 a0 4).bind fun u9 =>
    (f_X4_isWord G2 a0 a1 0).bind fun v9 =>
    if v9 = 0 then
    (g_i G2 a0 4 4).bind fun v18 =>
    (g_ob G2 a0 4).bind fun u21 =>
    (f_X4_fail G2 a0 (1 : Int32) v18).bind fun q21 =>
    (g_z q21.2).bind fun w24 => some (q21.1, w24)
    else
    (g_ob G2 a0 4).bind fun u31 =>
    (f_X4_readNumber G2 a0 a1 (8 : Int32) (96 : Int32)).bind fun q31 =>
    if q31.2 = 0 then
    some (q31.1, (0 : Int32))
    else
    (g_i q31.1 a0 4 6).bind fun v40 =>
    (g_ob q31.1 a0 4).bind fun u55 =>
    (f_X4_readNumber q31.1 a0 a1 (0 : Int32) (if (v40 / (2 : Int32)) < (16 : Int32) then (v40 / (2 : Int32)) else (16 : Int32))).bind fun q55 =>
    if q55.2 = 0 then
    some (q55.1, (0 : Int32))
    else
    (g_i q55.1 a0 4 6).bind fun v66 =>
    (g_ob q55.1 a2 1).bind fun u69 =>
    (f_X1_format q55.1 a2 v40 v66).bind fun G69 =>
    (g_ob G69 a0 4).bind fun u74 =>
    (f_X4_readSemicolon G69 a0 a1).bind fun q74 =>
    (g_z q74.2).bind fun w77 => some (q74.1, w77)
set_option maxRecDepth 20000 in
set_option maxHeartbeats 4000000 in
theorem m_X4_readHead (l : Launch) (dd : va_G) (cT : Nat → ClassId) (lo : Nat) (G : gH) (a0 : Nat) (a1 : Nat) (a2 : Nat) {rz : Int32} {Gz : gH} (h : f_X4_readHead G a0 a1 a2 = some (Gz, rz)) : Met l yX4_readHead (Cond.code yX4_readHead cX4_readHead 4 (some .boolean) :: wsL_law) (g_rm 6 134 0 0) (va_Pc [.ref a0, .ref a1, .ref a2] (g_Pre lo dd cT G)) (va_Qi (g_is rz Gz) (g_Pre lo dd cT) (g_A lo)) 0 0 (g_A lo) := by
  refine g_start RX4 rfl (by decide) (Nat.le_of_ble_eq_true rfl) ?_
  intro p e s m below meth c hx hb hr hlocks hml hown hnm hts hK hG hlo ls hl
  have hl : lv_has ls 4 [(0, .ref a0), (1, .ref a1), (2, .ref a2)] := hl
  have hG : g_S lo dd cT s s.heap [] G := hG
  unfold f_X4_readHead at h
  refine lv_aload_n hx hb dX4_readHead_0 rfl (lv_at hl 0 rfl) ?_
  refine lv_aload_n hx hb dX4_readHead_1 rfl (lv_at hl 1 rfl) ?_
  obtain ⟨u2, i2, h⟩ := Option.bind_eq_some_iff.mp h
  obtain ⟨G2, e2, h⟩ := Option.bind_eq_some_iff.mp h
  refine g_cVv (As := [.ref a1]) (rest := []) (n := 1) hx hb hml hown hts hK hlo hG (m_X4_advance l dd cT lo G a0 a1 e2) qM_X4_45 qI_yX4_advance qS_X4_yX4_advance qN_X4 qC_yX4_advance (by decide +kernel) ⟨Nat.le_of_ble_eq_true rfl, Nat.le_of_ble_eq_true rfl⟩ (by rfl) i2 rfl hl.1 rfl (Nat.le_of_ble_eq_true rfl) dX4_readHead_2 ⟨Nat.le_of_ble_eq_true rfl, Nat.le_of_ble_eq_true rfl⟩ (fun H locs hG => ?_)
  refine lv_aload_n hx hb dX4_readHead_5 rfl (lv_at hl 0 rfl) ?_
  refine lv_aload_n hx hb dX4_readHead_6 rfl (lv_at hl 1 rfl) ?_
  refine va_ldcS (q := dd.2 100 0) hx hb hown (hG.2.2.2.1 _ (List.mem_of_getElem? (i := 1) rfl)) dX4_readHead_7 ?_
  obtain ⟨u9, i9, h⟩ := Option.bind_eq_some_iff.mp h
  obtain ⟨v9, e9, h⟩ := Option.bind_eq_some_iff.mp h
  refine g_cVi (As := [.ref a1, .ref (dd.2 100 0)]) (rest := []) (n := 2) hx hb hml hown hts hK hlo hG (m_X4_isWord l dd cT lo G2 a0 a1 0 e9) qM_X4_51 qI_yX4_isWord qS_X4_yX4_isWord qN_X4 qC_yX4_isWord (by decide +kernel) ⟨Nat.le_of_ble_eq_true rfl, Nat.le_of_ble_eq_true rfl⟩ (by rfl) i9 rfl hl.1 rfl (Nat.le_of_ble_eq_true rfl) dX4_readHead_9 ⟨Nat.le_of_ble_eq_true rfl, Nat.le_of_ble_eq_true rfl⟩ (fun H locs hG => ?_)
  refine lv_if_ne (tgt := 25) hx hb dX4_readHead_12 (by decide) (fun c12 => ?_) (fun c12 => ?_)
  · rw [if_neg c12] at h
    refine lv_aload_n hx hb dX4_readHead_25 rfl (lv_at hl 0 rfl) ?_
    refine lv_aload_n hx hb dX4_readHead_26 rfl (lv_at hl 1 rfl) ?_
    refine lv_bipush (v := (8 : Int32)) hx hb dX4_readHead_27 (by decide) ?_
    refine lv_bipush (v := (96 : Int32)) hx hb dX4_readHead_29 (by decide) ?_
    obtain ⟨u31, i31, h⟩ := Option.bind_eq_some_iff.mp h
    obtain ⟨q31, e31, h⟩ := Option.bind_eq_some_iff.mp h
    refine g_cVi (As := [.ref a1, .int (8 : Int32), .int (96 : Int32)]) (rest := []) (n := 3) hx hb hml hown hts hK hlo hG (m_X4_readNumber l dd cT lo G2 a0 a1 (8 : Int32) (96 : Int32) e31) qM_X4_59 qI_yX4_readNumber qS_X4_yX4_readNumber qN_X4 qC_yX4_readNumber (by decide +kernel) ⟨Nat.le_of_ble_eq_true rfl, Nat.le_of_ble_eq_true rfl⟩ (by rfl) i31 rfl hl.1 rfl (Nat.le_of_ble_eq_true rfl) dX4_readHead_31 ⟨Nat.le_of_ble_eq_true rfl, Nat.le_of_ble_eq_true rfl⟩ (fun H locs hG => ?_)
    refine lv_if_ne (tgt := 39) hx hb dX4_readHead_34 (by decide) (fun c34 => ?_) (fun c34 => ?_)
    · rw [if_neg c34] at h
      refine lv_aload_n hx hb dX4_readHead_39 rfl (lv_at hl 0 rfl) ?_
      obtain ⟨v40, e40, h⟩ := Option.bind_eq_some_iff.mp h
      refine g_geti hx hb hts inlX4 hown hK hG (by rfl) 6 (by decide) qF_X4_30 e40 dX4_readHead_40 ?_
      refine lv_istore_n (lv' := [(3, .int v40), (0, .ref a0), (1, .ref a1), (2, .ref a2)]) hx hb dX4_readHead_43 rfl hl (by decide) rfl (fun ls hl => ?_)
      refine lv_aload_n hx hb dX4_readHead_44 rfl (lv_at hl 1 rfl) ?_
      refine lv_aload_n hx hb dX4_readHead_45 rfl (lv_at hl 2 rfl) ?_
      refine lv_iconst (v := (0 : Int32)) hx hb dX4_readHead_46 (by decide) ?_
      refine lv_bipush (v := (16 : Int32)) hx hb dX4_readHead_47 (by decide) ?_
      refine lv_iload_n hx hb dX4_readHead_49 rfl (lv_at hl 0 rfl) ?_
      refine lv_iconst (v := (2 : Int32)) hx hb dX4_readHead_50 (by decide) ?_
      refine lv_idiv hx hb dX4_readHead_51 (by decide) ?_
      refine va_mmin hx hb (hml.trans hl.1.symm) hown (hts _ qM_X4_63) (hts _ qT_Lib_Math_min_name) (hts _ qN_java_lang_Math) (hts _ qC_Lib_Math_min_name) (Nat.le_of_ble_eq_true rfl) (Nat.le_of_ble_eq_true rfl) (Nat.le_of_ble_eq_true rfl) (Nat.le_of_ble_eq_true rfl) dX4_readHead_52 ?_
      obtain ⟨u55, i55, h⟩ := Option.bind_eq_some_iff.mp h
      obtain ⟨q55, e55, h⟩ := Option.bind_eq_some_iff.mp h
      refine g_cVi (As := [.ref a1, .int (0 : Int32), .int (if (v40 / (2 : Int32)) < (16 : Int32) then (v40 / (2 : Int32)) else (16 : Int32))]) (rest := []) (n := 3) hx hb hml hown hts hK hlo hG (m_X4_readNumber l dd cT lo q31.1 a0 a1 (0 : Int32) (if (v40 / (2 : Int32)) < (16 : Int32) then (v40 / (2 : Int32)) else (16 : Int32)) e55) qM_X4_59 qI_yX4_readNumber qS_X4_yX4_readNumber qN_X4 qC_yX4_readNumber (by decide +kernel) ⟨Nat.le_of_ble_eq_true rfl, Nat.le_of_ble_eq_true rfl⟩ (by rfl) i55 rfl hl.1 rfl (Nat.le_of_ble_eq_true rfl) dX4_readHead_55 ⟨Nat.le_of_ble_eq_true rfl, Nat.le_of_ble_eq_true rfl⟩ (fun H locs hG => ?_)
      refine lv_if_ne (tgt := 63) hx hb dX4_readHead_58 (by decide) (fun c58 => ?_) (fun c58 => ?_)
      · rw [if_neg c58] at h
        refine lv_aload_n hx hb dX4_readHead_63 rfl (lv_at hl 3 rfl) ?_
        refine lv_iload_n hx hb dX4_readHead_64 rfl (lv_at hl 0 rfl) ?_
        refine lv_aload_n hx hb dX4_readHead_65 rfl (lv_at hl 1 rfl) ?_
        obtain ⟨v66, e66, h⟩ := Option.bind_eq_some_iff.mp h
        refine g_geti hx hb hts inlX4 hown hK hG (by rfl) 6 (by decide) qF_X4_30 e66 dX4_readHead_66 ?_
        obtain ⟨u69, i69, h⟩ := Option.bind_eq_some_iff.mp h
        obtain ⟨G69, e69, h⟩ := Option.bind_eq_some_iff.mp h
        refine g_cVv (As := [.int v40, .int v66]) (rest := []) (n := 2) hx hb hml hown hts hK hlo hG (m_X1_format l dd cT lo q55.1 a2 v40 v66 e69) qM_X4_69 qI_yX1_format qS_X1_yX1_format qN_X1 qC_yX1_format (by decide +kernel) ⟨Nat.le_of_ble_eq_true rfl, Nat.le_of_ble_eq_true rfl⟩ (by rfl) i69 rfl hl.1 rfl (Nat.le_of_ble_eq_true rfl) dX4_readHead_69 ⟨Nat.le_of_ble_eq_true rfl, Nat.le_of_ble_eq_true rfl⟩ (fun H locs hG => ?_)
        refine lv_aload_n hx hb dX4_readHead_72 rfl (lv_at hl 1 rfl) ?_
        refine lv_aload_n hx hb dX4_readHead_73 rfl (lv_at hl 2 rfl) ?_
        obtain ⟨u74, i74, h⟩ := Option.bind_eq_some_iff.mp h
        obtain ⟨q74, e74, h⟩ := Option.bind_eq_some_iff.mp h
        refine g_cVi (As := [.ref a1]) (rest := []) (n := 1) hx hb hml hown hts hK hlo hG (m_X4_readSemicolon l dd cT lo G69 a0 a1 e74) qM_X4_75 qI_yX4_readSemicolon qS_X4_yX4_readSemicolon qN_X4 qC_yX4_readSemicolon (by decide +kernel) ⟨Nat.le_of_ble_eq_true rfl, Nat.le_of_ble_eq_true rfl⟩ (by rfl) i74 rfl hl.1 rfl (Nat.le_of_ble_eq_true rfl) dX4_readHead_74 ⟨Nat.le_of_ble_eq_true rfl, Nat.le_of_ble_eq_true rfl⟩ (fun H locs hG => ?_)
        obtain ⟨w77, e77, h⟩ := Option.bind_eq_some_iff.mp h
        obtain ⟨n77, rfl⟩ := g_z_nar e77
        obtain ⟨rfl, rfl⟩ := Prod.mk.inj (Option.some.inj h)
        exact g_zret hx hb hr hlocks hK hlo hG n77 ⟨rfl, rfl⟩ dX4_readHead_77
      · rw [if_pos c58] at h
        refine lv_iconst (v := (0 : Int32)) hx hb dX4_readHead_61 (by decide) ?_
        obtain ⟨rfl, rfl⟩ := Prod.mk.inj (Option.some.inj h)
        exact g_zret hx hb hr hlocks hK hlo hG rfl ⟨rfl, rfl⟩ dX4_readHead_62
    · rw [if_pos c34] at h
      refine lv_iconst (v := (0 : Int32)) hx hb dX4_readHead_37 (by decide) ?_
      obtain ⟨rfl, rfl⟩ := Prod.mk.inj (Option.some.inj h)
      exact g_zret hx hb hr hlocks hK hlo hG rfl ⟨rfl, rfl⟩ dX4_readHead_38
  · rw [if_pos c12] at h
    refine lv_aload_n hx hb dX4_readHead_15 rfl (lv_at hl 0 rfl) ?_
    refine lv_iconst (v := (1 : Int32)) hx hb dX4_readHead_16 (by decide) ?_
    refine lv_aload_n hx hb dX4_readHead_17 rfl (lv_at hl 0 rfl) ?_
    obtain ⟨v18, e18, h⟩ := Option.bind_eq_some_iff.mp h
    refine g_geti hx hb hts inlX4 hown hK hG (by rfl) 4 (by decide) qF_X4_24 e18 dX4_readHead_18 ?_
    obtain ⟨u21, i21, h⟩ := Option.bind_eq_some_iff.mp h
    obtain ⟨q21, e21, h⟩ := Option.bind_eq_some_iff.mp h
    refine g_cVi (As := [.int (1 : Int32), .int v18]) (rest := []) (n := 2) hx hb hml hown hts hK hlo hG (m_X4_fail l dd cT lo G2 a0 (1 : Int32) v18 e21) qM_X4_55 qI_yX4_fail qS_X4_yX4_fail qN_X4 qC_yX4_fail (by decide +kernel) ⟨Nat.le_of_ble_eq_true rfl, Nat.le_of_ble_eq_true rfl⟩ (by rfl) i21 rfl hl.1 rfl (Nat.le_of_ble_eq_true rfl) dX4_readHead_21 ⟨Nat.le_of_ble_eq_true rfl, Nat.le_of_ble_eq_true rfl⟩ (fun H locs hG => ?_)
    obtain ⟨w24, e24, h⟩ := Option.bind_eq_some_iff.mp h
    obtain ⟨n24, rfl⟩ := g_z_nar e24
    obtain ⟨rfl, rfl⟩ := Prod.mk.inj (Option.some.inj h)
    exact g_zret hx hb hr hlocks hK hlo hG n24 ⟨rfl, rfl⟩ dX4_readHead_24
def f_X4_readBad (G : gH) (a0 : Nat) (a1 : Nat) (a2 : Nat) : Option (gH × Int32) :=
    (g_r G a2 1 0).bind fun v4 =>
    (g_i G v4 0 0).bind fun v7 =>
    (g_ob G a0 4).bind fun u12 =>
    (f_X4_readNumber G a0 a1 (0 : Int32) (v7 - (1 : Int32))).bind fun q12 =>
    if q12.2 = 0 then
    some (q12.1, (0 : Int32))
    else
    (g_r q12.1 a2 1 0).bind fun v21 =>
    (g_i q12.1 a0 4 6).bind fun v25 =>
    (g_ob q12.1 v21 0).bind fun u28 =>
    (f_X0_isBad q12.1 v21 v25).bind fun v28 =>
    if v28 = 0 then
    (g_r q12.1 a2 1 0).bind fun v45 =>
    (g_r q12.1 v45 0 4).bind fun v48 =>
    (g_i q12.1 a0 4 6).bind fun v52 =>
    (f_X9_mark q12.1 v48 v52 (1 : Int32)).bind fun G56 =>
    some (G56, (1 : Int32))
    else
    (g_i q12.1 a0 4 4).bind fun v37 =>
    (g_ob q12.1 a0 4).bind fun u40 =>
    (f_X4_fail q12.1 a0 (2 : Int32) v37).bind fun q40 =>
    (g_z q40.2).bind fun w43 => some (q40.1, w43)
set_option maxRecDepth 20000 in
set_option maxHeartbeats 4000000 in
theorem m_X4_readBad (l : Launch) (dd : va_G) (cT : Nat → ClassId) (lo : Nat) (G : gH) (a0 : Nat) (a1 : Nat) (a2 : Nat) {rz : Int32} {Gz : gH} (h : f_X4_readBad G a0 a1 a2 = some (Gz, rz)) : Met l yX4_readBad (Cond.code yX4_readBad cX4_readBad 3 (some .boolean) :: wsL_law) (g_rm 6 133 0 0) (va_Pc [.ref a0, .ref a1, .ref a2] (g_Pre lo dd cT G)) (va_Qi (g_is rz Gz) (g_Pre lo dd cT) (g_A lo)) 0 0 (g_A lo) := by
  refine g_start RX4 rfl (by decide) (Nat.le_of_ble_eq_true rfl) ?_
  intro p e s m below meth c hx hb hr hlocks hml hown hnm hts hK hG hlo ls hl
  have hl : lv_has ls 3 [(0, .ref a0), (1, .ref a1), (2, .ref a2)] := hl
  have hG : g_S lo dd cT s s.heap [] G := hG
  unfold f_X4_readBad at h
  refine lv_aload_n hx hb dX4_readBad_0 rfl (lv_at hl 0 rfl) ?_
  refine lv_aload_n hx hb dX4_readBad_1 rfl (lv_at hl 1 rfl) ?_
  refine lv_iconst (v := (0 : Int32)) hx hb dX4_readBad_2 (by decide) ?_
  refine lv_aload_n hx hb dX4_readBad_3 rfl (lv_at hl 2 rfl) ?_
  obtain ⟨v4, e4, h⟩ := Option.bind_eq_some_iff.mp h
  refine g_getr hx hb hts inlX1 hown hK hG (by rfl) 0 (by decide) qF_X4_108 e4 dX4_readBad_4 ?_
  obtain ⟨v7, e7, h⟩ := Option.bind_eq_some_iff.mp h
  refine g_geti hx hb hts inlX0 hown hK hG (by rfl) 0 (by decide) qF_X4_112 e7 dX4_readBad_7 ?_
  refine lv_iconst (v := (1 : Int32)) hx hb dX4_readBad_10 (by decide) ?_
  refine lv_isub hx hb dX4_readBad_11 ?_
  obtain ⟨u12, i12, h⟩ := Option.bind_eq_some_iff.mp h
  obtain ⟨q12, e12, h⟩ := Option.bind_eq_some_iff.mp h
  refine g_cVi (As := [.ref a1, .int (0 : Int32), .int (v7 - (1 : Int32))]) (rest := []) (n := 3) hx hb hml hown hts hK hlo hG (m_X4_readNumber l dd cT lo G a0 a1 (0 : Int32) (v7 - (1 : Int32)) e12) qM_X4_59 qI_yX4_readNumber qS_X4_yX4_readNumber qN_X4 qC_yX4_readNumber (by decide +kernel) ⟨Nat.le_of_ble_eq_true rfl, Nat.le_of_ble_eq_true rfl⟩ (by rfl) i12 rfl hl.1 rfl (Nat.le_of_ble_eq_true rfl) dX4_readBad_12 ⟨Nat.le_of_ble_eq_true rfl, Nat.le_of_ble_eq_true rfl⟩ (fun H locs hG => ?_)
  refine lv_if_ne (tgt := 20) hx hb dX4_readBad_15 (by decide) (fun c15 => ?_) (fun c15 => ?_)
  · rw [if_neg c15] at h
    refine lv_aload_n hx hb dX4_readBad_20 rfl (lv_at hl 2 rfl) ?_
    obtain ⟨v21, e21, h⟩ := Option.bind_eq_some_iff.mp h
    refine g_getr hx hb hts inlX1 hown hK hG (by rfl) 0 (by decide) qF_X4_108 e21 dX4_readBad_21 ?_
    refine lv_aload_n hx hb dX4_readBad_24 rfl (lv_at hl 0 rfl) ?_
    obtain ⟨v25, e25, h⟩ := Option.bind_eq_some_iff.mp h
    refine g_geti hx hb hts inlX4 hown hK hG (by rfl) 6 (by decide) qF_X4_30 e25 dX4_readBad_25 ?_
    obtain ⟨u28, i28, h⟩ := Option.bind_eq_some_iff.mp h
    obtain ⟨v28, e28, h⟩ := Option.bind_eq_some_iff.mp h
    refine g_cVi (As := [.int v25]) (rest := []) (n := 1) hx hb hml hown hts hK hlo hG (m_X0_isBad l dd cT lo q12.1 v21 v25 e28) qM_X4_117 qI_yX0_isBad qS_X0_yX0_isBad qN_X0 qC_yX0_isBad (by decide +kernel) ⟨Nat.le_of_ble_eq_true rfl, Nat.le_of_ble_eq_true rfl⟩ (by rfl) i28 rfl hl.1 rfl (Nat.le_of_ble_eq_true rfl) dX4_readBad_28 ⟨Nat.le_of_ble_eq_true rfl, Nat.le_of_ble_eq_true rfl⟩ (fun H locs hG => ?_)
    refine lv_if_eq (tgt := 44) hx hb dX4_readBad_31 (by decide) (fun c31 => ?_) (fun c31 => ?_)
    · rw [if_pos c31] at h
      refine lv_aload_n hx hb dX4_readBad_44 rfl (lv_at hl 2 rfl) ?_
      obtain ⟨v45, e45, h⟩ := Option.bind_eq_some_iff.mp h
      refine g_getr hx hb hts inlX1 hown hK hG (by rfl) 0 (by decide) qF_X4_108 e45 dX4_readBad_45 ?_
      obtain ⟨v48, e48, h⟩ := Option.bind_eq_some_iff.mp h
      refine g_getr hx hb hts inlX0 hown hK hG (by rfl) 4 (by decide) qF_X4_121 e48 dX4_readBad_48 ?_
      refine lv_aload_n hx hb dX4_readBad_51 rfl (lv_at hl 0 rfl) ?_
      obtain ⟨v52, e52, h⟩ := Option.bind_eq_some_iff.mp h
      refine g_geti hx hb hts inlX4 hown hK hG (by rfl) 6 (by decide) qF_X4_30 e52 dX4_readBad_52 ?_
      refine lv_iconst (v := (1 : Int32)) hx hb dX4_readBad_55 (by decide) ?_
      obtain ⟨G56, e56, h⟩ := Option.bind_eq_some_iff.mp h
      refine g_cNv (As := [.ref v48, .int v52, .int (1 : Int32)]) (rest := []) (n := 3) hx hb hml hown hts hK hlo hG (m_X9_mark l dd cT lo q12.1 v48 v52 (1 : Int32) e56) (List.mem_of_getElem? (i := 27) rfl) qT_yX9_mark qN_X9 qC_yX9_mark (by decide +kernel) ⟨Nat.le_of_ble_eq_true rfl, Nat.le_of_ble_eq_true rfl⟩ rfl hl.1 rfl (Nat.le_of_ble_eq_true rfl) dX4_readBad_56 ⟨Nat.le_of_ble_eq_true rfl, Nat.le_of_ble_eq_true rfl⟩ (fun H locs hG => ?_)
      refine lv_iconst (v := (1 : Int32)) hx hb dX4_readBad_59 (by decide) ?_
      obtain ⟨rfl, rfl⟩ := Prod.mk.inj (Option.some.inj h)
      exact g_zret hx hb hr hlocks hK hlo hG rfl ⟨rfl, rfl⟩ dX4_readBad_60
    · rw [if_neg c31] at h
      refine lv_aload_n hx hb dX4_readBad_34 rfl (lv_at hl 0 rfl) ?_
      refine lv_iconst (v := (2 : Int32)) hx hb dX4_readBad_35 (by decide) ?_
      refine lv_aload_n hx hb dX4_readBad_36 rfl (lv_at hl 0 rfl) ?_
      obtain ⟨v37, e37, h⟩ := Option.bind_eq_some_iff.mp h
      refine g_geti hx hb hts inlX4 hown hK hG (by rfl) 4 (by decide) qF_X4_24 e37 dX4_readBad_37 ?_
      obtain ⟨u40, i40, h⟩ := Option.bind_eq_some_iff.mp h
      obtain ⟨q40, e40, h⟩ := Option.bind_eq_some_iff.mp h
      refine g_cVi (As := [.int (2 : Int32), .int v37]) (rest := []) (n := 2) hx hb hml hown hts hK hlo hG (m_X4_fail l dd cT lo q12.1 a0 (2 : Int32) v37 e40) qM_X4_55 qI_yX4_fail qS_X4_yX4_fail qN_X4 qC_yX4_fail (by decide +kernel) ⟨Nat.le_of_ble_eq_true rfl, Nat.le_of_ble_eq_true rfl⟩ (by rfl) i40 rfl hl.1 rfl (Nat.le_of_ble_eq_true rfl) dX4_readBad_40 ⟨Nat.le_of_ble_eq_true rfl, Nat.le_of_ble_eq_true rfl⟩ (fun H locs hG => ?_)
      obtain ⟨w43, e43, h⟩ := Option.bind_eq_some_iff.mp h
      obtain ⟨n43, rfl⟩ := g_z_nar e43
      obtain ⟨rfl, rfl⟩ := Prod.mk.inj (Option.some.inj h)
      exact g_zret hx hb hr hlocks hK hlo hG n43 ⟨rfl, rfl⟩ dX4_readBad_43
  · rw [if_pos c15] at h
    refine lv_iconst (v := (0 : Int32)) hx hb dX4_readBad_18 (by decide) ?_
    obtain ⟨rfl, rfl⟩ := Prod.mk.inj (Option.some.inj h)
    exact g_zret hx hb hr hlocks hK hlo hG rfl ⟨rfl, rfl⟩ dX4_readBad_19
def f_X4_readWrite (G : gH) (a0 : Nat) (a1 : Nat) (a2 : Nat) : Option (gH × Int32) :=
    (g_i G a0 4 4).bind fun v1 =>
    (g_ob G a0 4).bind fun u8 =>
    (f_X4_readFile G a0 a1 a2).bind fun q8 =>
    if q8.2 = 0 then
    some (q8.1, (0 : Int32))
    else
    (g_j q8.1 a0 4 7).bind fun v18 =>
    (g_ob q8.1 a2 1).bind fun u21 =>
    (f_X1_fileNamed q8.1 a2 v18).bind fun v21 =>
    (g_ob q8.1 a0 4).bind fun u31 =>
    (f_X4_readNumber q8.1 a0 a1 (1 : Int32) (8 : Int32)).bind fun q31 =>
    if q31.2 = 0 then
    some (q31.1, (0 : Int32))
    else
    (g_i q31.1 a0 4 6).bind fun v40 =>
    (g_ob q31.1 a0 4).bind fun u51 =>
    (f_X4_readNumber q31.1 a0 a1 (0 : Int32) (999 : Int32)).bind fun q51 =>
    if q51.2 = 0 then
    some (q51.1, (0 : Int32))
    else
    (g_ob q51.1 a2 1).bind fun u64 =>
    (f_X1_reasonAgainstWrite q51.1 a2 v21 v40).bind fun v64 =>
    if v64 = 0 then
    (g_i q51.1 a0 4 6).bind fun v84 =>
    (g_ob q51.1 a2 1).bind fun u87 =>
    (f_X1_writeVersion q51.1 a2 v21 v40 v84).bind fun q87 =>
    some (q87.1, (1 : Int32))
    else
    (g_ob q51.1 a0 4).bind fun u74 =>
    (f_X4_fail q51.1 a0 (6 : Int32) v1).bind fun q74 =>
    (g_z q74.2).bind fun w77 => some (q74.1, w77)
set_option maxRecDepth 20000 in
set_option maxHeartbeats 4000000 in
theorem m_X4_readWrite (l : Launch) (dd : va_G) (cT : Nat → ClassId) (lo : Nat) (G : gH) (a0 : Nat) (a1 : Nat) (a2 : Nat) {rz : Int32} {Gz : gH} (h : f_X4_readWrite G a0 a1 a2 = some (Gz, rz)) : Met l yX4_readWrite (Cond.code yX4_readWrite cX4_readWrite 6 (some .boolean) :: wsL_law) (g_rm 6 137 0 0) (va_Pc [.ref a0, .ref a1, .ref a2] (g_Pre lo dd cT G)) (va_Qi (g_is rz Gz) (g_Pre lo dd cT) (g_A lo)) 0 0 (g_A lo) := by
  refine g_start RX4 rfl (by decide) (Nat.le_of_ble_eq_true rfl) ?_
  intro p e s m below meth c hx hb hr hlocks hml hown hnm hts hK hG hlo ls hl
  have hl : lv_has ls 6 [(0, .ref a0), (1, .ref a1), (2, .ref a2)] := hl
  have hG : g_S lo dd cT s s.heap [] G := hG
  unfold f_X4_readWrite at h
  refine lv_aload_n hx hb dX4_readWrite_0 rfl (lv_at hl 0 rfl) ?_
  obtain ⟨v1, e1, h⟩ := Option.bind_eq_some_iff.mp h
  refine g_geti hx hb hts inlX4 hown hK hG (by rfl) 4 (by decide) qF_X4_24 e1 dX4_readWrite_1 ?_
  refine lv_istore_n (lv' := [(3, .int v1), (0, .ref a0), (1, .ref a1), (2, .ref a2)]) hx hb dX4_readWrite_4 rfl hl (by decide) rfl (fun ls hl => ?_)
  refine lv_aload_n hx hb dX4_readWrite_5 rfl (lv_at hl 1 rfl) ?_
  refine lv_aload_n hx hb dX4_readWrite_6 rfl (lv_at hl 2 rfl) ?_
  refine lv_aload_n hx hb dX4_readWrite_7 rfl (lv_at hl 3 rfl) ?_
  obtain ⟨u8, i8, h⟩ := Option.bind_eq_some_iff.mp h
  obtain ⟨q8, e8, h⟩ := Option.bind_eq_some_iff.mp h
  refine g_cVi (As := [.ref a1, .ref a2]) (rest := []) (n := 2) hx hb hml hown hts hK hlo hG (m_X4_readFile l dd cT lo G a0 a1 a2 e8) qM_X4_140 qI_yX4_readFile qS_X4_yX4_readFile qN_X4 qC_yX4_readFile (by decide +kernel) ⟨Nat.le_of_ble_eq_true rfl, Nat.le_of_ble_eq_true rfl⟩ (by rfl) i8 rfl hl.1 rfl (Nat.le_of_ble_eq_true rfl) dX4_readWrite_8 ⟨Nat.le_of_ble_eq_true rfl, Nat.le_of_ble_eq_true rfl⟩ (fun H locs hG => ?_)
  refine lv_if_ne (tgt := 16) hx hb dX4_readWrite_11 (by decide) (fun c11 => ?_) (fun c11 => ?_)
  · rw [if_neg c11] at h
    refine lv_aload_n hx hb dX4_readWrite_16 rfl (lv_at hl 3 rfl) ?_
    refine lv_aload_n hx hb dX4_readWrite_17 rfl (lv_at hl 1 rfl) ?_
    obtain ⟨v18, e18, h⟩ := Option.bind_eq_some_iff.mp h
    refine g_getj hx hb hts inlX4 hown hK hG (by rfl) 7 (by decide) qF_X4_33 e18 dX4_readWrite_18 ?_
    obtain ⟨u21, i21, h⟩ := Option.bind_eq_some_iff.mp h
    obtain ⟨v21, e21, h⟩ := Option.bind_eq_some_iff.mp h
    refine g_cVi (As := [.long v18]) (rest := []) (n := 1) hx hb hml hown hts hK hlo hG (m_X1_fileNamed l dd cT lo q8.1 a2 v18 e21) qM_X4_132 qI_yX1_fileNamed qS_X1_yX1_fileNamed qN_X1 qC_yX1_fileNamed (by decide +kernel) ⟨Nat.le_of_ble_eq_true rfl, Nat.le_of_ble_eq_true rfl⟩ (by rfl) i21 rfl hl.1 rfl (Nat.le_of_ble_eq_true rfl) dX4_readWrite_21 ⟨Nat.le_of_ble_eq_true rfl, Nat.le_of_ble_eq_true rfl⟩ (fun H locs hG => ?_)
    refine lv_istore (lv' := [(4, .int v21), (3, .int v1), (0, .ref a0), (1, .ref a1), (2, .ref a2)]) hx hb dX4_readWrite_24 hl (by decide) rfl (fun ls hl => ?_)
    refine lv_aload_n hx hb dX4_readWrite_26 rfl (lv_at hl 2 rfl) ?_
    refine lv_aload_n hx hb dX4_readWrite_27 rfl (lv_at hl 3 rfl) ?_
    refine lv_iconst (v := (1 : Int32)) hx hb dX4_readWrite_28 (by decide) ?_
    refine lv_bipush (v := (8 : Int32)) hx hb dX4_readWrite_29 (by decide) ?_
    obtain ⟨u31, i31, h⟩ := Option.bind_eq_some_iff.mp h
    obtain ⟨q31, e31, h⟩ := Option.bind_eq_some_iff.mp h
    refine g_cVi (As := [.ref a1, .int (1 : Int32), .int (8 : Int32)]) (rest := []) (n := 3) hx hb hml hown hts hK hlo hG (m_X4_readNumber l dd cT lo q8.1 a0 a1 (1 : Int32) (8 : Int32) e31) qM_X4_59 qI_yX4_readNumber qS_X4_yX4_readNumber qN_X4 qC_yX4_readNumber (by decide +kernel) ⟨Nat.le_of_ble_eq_true rfl, Nat.le_of_ble_eq_true rfl⟩ (by rfl) i31 rfl hl.1 rfl (Nat.le_of_ble_eq_true rfl) dX4_readWrite_31 ⟨Nat.le_of_ble_eq_true rfl, Nat.le_of_ble_eq_true rfl⟩ (fun H locs hG => ?_)
    refine lv_if_ne (tgt := 39) hx hb dX4_readWrite_34 (by decide) (fun c34 => ?_) (fun c34 => ?_)
    · rw [if_neg c34] at h
      refine lv_aload_n hx hb dX4_readWrite_39 rfl (lv_at hl 2 rfl) ?_
      obtain ⟨v40, e40, h⟩ := Option.bind_eq_some_iff.mp h
      refine g_geti hx hb hts inlX4 hown hK hG (by rfl) 6 (by decide) qF_X4_30 e40 dX4_readWrite_40 ?_
      refine lv_istore (lv' := [(5, .int v40), (4, .int v21), (3, .int v1), (0, .ref a0), (1, .ref a1), (2, .ref a2)]) hx hb dX4_readWrite_43 hl (by decide) rfl (fun ls hl => ?_)
      refine lv_aload_n hx hb dX4_readWrite_45 rfl (lv_at hl 3 rfl) ?_
      refine lv_aload_n hx hb dX4_readWrite_46 rfl (lv_at hl 4 rfl) ?_
      refine lv_iconst (v := (0 : Int32)) hx hb dX4_readWrite_47 (by decide) ?_
      refine lv_sipush (v := (999 : Int32)) hx hb dX4_readWrite_48 (by decide) ?_
      obtain ⟨u51, i51, h⟩ := Option.bind_eq_some_iff.mp h
      obtain ⟨q51, e51, h⟩ := Option.bind_eq_some_iff.mp h
      refine g_cVi (As := [.ref a1, .int (0 : Int32), .int (999 : Int32)]) (rest := []) (n := 3) hx hb hml hown hts hK hlo hG (m_X4_readNumber l dd cT lo q31.1 a0 a1 (0 : Int32) (999 : Int32) e51) qM_X4_59 qI_yX4_readNumber qS_X4_yX4_readNumber qN_X4 qC_yX4_readNumber (by decide +kernel) ⟨Nat.le_of_ble_eq_true rfl, Nat.le_of_ble_eq_true rfl⟩ (by rfl) i51 rfl hl.1 rfl (Nat.le_of_ble_eq_true rfl) dX4_readWrite_51 ⟨Nat.le_of_ble_eq_true rfl, Nat.le_of_ble_eq_true rfl⟩ (fun H locs hG => ?_)
      refine lv_if_ne (tgt := 59) hx hb dX4_readWrite_54 (by decide) (fun c54 => ?_) (fun c54 => ?_)
      · rw [if_neg c54] at h
        refine lv_aload_n hx hb dX4_readWrite_59 rfl (lv_at hl 5 rfl) ?_
        refine lv_iload hx hb dX4_readWrite_60 (lv_at hl 1 rfl) ?_
        refine lv_iload hx hb dX4_readWrite_62 (lv_at hl 0 rfl) ?_
        obtain ⟨u64, i64, h⟩ := Option.bind_eq_some_iff.mp h
        obtain ⟨v64, e64, h⟩ := Option.bind_eq_some_iff.mp h
        refine g_cVi (As := [.int v21, .int v40]) (rest := []) (n := 2) hx hb hml hown hts hK hlo hG (m_X1_reasonAgainstWrite l dd cT lo q51.1 a2 v21 v40 e64) qM_X4_143 qI_yX1_reasonAgainstWrite qS_X1_yX1_reasonAgainstWrite qN_X1 qC_yX1_reasonAgainstWrite (by decide +kernel) ⟨Nat.le_of_ble_eq_true rfl, Nat.le_of_ble_eq_true rfl⟩ (by rfl) i64 rfl hl.1 rfl (Nat.le_of_ble_eq_true rfl) dX4_readWrite_64 ⟨Nat.le_of_ble_eq_true rfl, Nat.le_of_ble_eq_true rfl⟩ (fun H locs hG => ?_)
        refine lv_if_eq (tgt := 78) hx hb dX4_readWrite_67 (by decide) (fun c67 => ?_) (fun c67 => ?_)
        · rw [if_pos c67] at h
          refine lv_aload_n hx hb dX4_readWrite_78 rfl (lv_at hl 5 rfl) ?_
          refine lv_iload hx hb dX4_readWrite_79 (lv_at hl 1 rfl) ?_
          refine lv_iload hx hb dX4_readWrite_81 (lv_at hl 0 rfl) ?_
          refine lv_aload_n hx hb dX4_readWrite_83 rfl (lv_at hl 3 rfl) ?_
          obtain ⟨v84, e84, h⟩ := Option.bind_eq_some_iff.mp h
          refine g_geti hx hb hts inlX4 hown hK hG (by rfl) 6 (by decide) qF_X4_30 e84 dX4_readWrite_84 ?_
          obtain ⟨u87, i87, h⟩ := Option.bind_eq_some_iff.mp h
          obtain ⟨q87, e87, h⟩ := Option.bind_eq_some_iff.mp h
          refine g_cVi (As := [.int v21, .int v40, .int v84]) (rest := []) (n := 3) hx hb hml hown hts hK hlo hG (m_X1_writeVersion l dd cT lo q51.1 a2 v21 v40 v84 e87) qM_X4_146 qI_yX1_writeVersion qS_X1_yX1_writeVersion qN_X1 qC_yX1_writeVersion (by decide +kernel) ⟨Nat.le_of_ble_eq_true rfl, Nat.le_of_ble_eq_true rfl⟩ (by rfl) i87 rfl hl.1 rfl (Nat.le_of_ble_eq_true rfl) dX4_readWrite_87 ⟨Nat.le_of_ble_eq_true rfl, Nat.le_of_ble_eq_true rfl⟩ (fun H locs hG => ?_)
          refine lv_pop hx hb dX4_readWrite_90 rfl ?_
          refine lv_iconst (v := (1 : Int32)) hx hb dX4_readWrite_91 (by decide) ?_
          obtain ⟨rfl, rfl⟩ := Prod.mk.inj (Option.some.inj h)
          exact g_zret hx hb hr hlocks hK hlo hG rfl ⟨rfl, rfl⟩ dX4_readWrite_92
        · rw [if_neg c67] at h
          refine lv_aload_n hx hb dX4_readWrite_70 rfl (lv_at hl 3 rfl) ?_
          refine lv_bipush (v := (6 : Int32)) hx hb dX4_readWrite_71 (by decide) ?_
          refine lv_iload_n hx hb dX4_readWrite_73 rfl (lv_at hl 2 rfl) ?_
          obtain ⟨u74, i74, h⟩ := Option.bind_eq_some_iff.mp h
          obtain ⟨q74, e74, h⟩ := Option.bind_eq_some_iff.mp h
          refine g_cVi (As := [.int (6 : Int32), .int v1]) (rest := []) (n := 2) hx hb hml hown hts hK hlo hG (m_X4_fail l dd cT lo q51.1 a0 (6 : Int32) v1 e74) qM_X4_55 qI_yX4_fail qS_X4_yX4_fail qN_X4 qC_yX4_fail (by decide +kernel) ⟨Nat.le_of_ble_eq_true rfl, Nat.le_of_ble_eq_true rfl⟩ (by rfl) i74 rfl hl.1 rfl (Nat.le_of_ble_eq_true rfl) dX4_readWrite_74 ⟨Nat.le_of_ble_eq_true rfl, Nat.le_of_ble_eq_true rfl⟩ (fun H locs hG => ?_)
          obtain ⟨w77, e77, h⟩ := Option.bind_eq_some_iff.mp h
          obtain ⟨n77, rfl⟩ := g_z_nar e77
          obtain ⟨rfl, rfl⟩ := Prod.mk.inj (Option.some.inj h)
          exact g_zret hx hb hr hlocks hK hlo hG n77 ⟨rfl, rfl⟩ dX4_readWrite_77
      · rw [if_pos c54] at h
        refine lv_iconst (v := (0 : Int32)) hx hb dX4_readWrite_57 (by decide) ?_
        obtain ⟨rfl, rfl⟩ := Prod.mk.inj (Option.some.inj h)
        exact g_zret hx hb hr hlocks hK hlo hG rfl ⟨rfl, rfl⟩ dX4_readWrite_58
    · rw [if_pos c34] at h
      refine lv_iconst (v := (0 : Int32)) hx hb dX4_readWrite_37 (by decide) ?_
      obtain ⟨rfl, rfl⟩ := Prod.mk.inj (Option.some.inj h)
      exact g_zret hx hb hr hlocks hK hlo hG rfl ⟨rfl, rfl⟩ dX4_readWrite_38
  · rw [if_pos c11] at h
    refine lv_iconst (v := (0 : Int32)) hx hb dX4_readWrite_14 (by decide) ?_
    obtain ⟨rfl, rfl⟩ := Prod.mk.inj (Option.some.inj h)
    exact g_zret hx hb hr hlocks hK hlo hG rfl ⟨rfl, rfl⟩ dX4_readWrite_15
def f_X4_readErase (G : gH) (a0 : Nat) (a1 : Nat) (a2 : Nat) : Option (gH × Int32) :=
    (g_i G a0 4 4).bind fun v1 =>
    (g_ob G a0 4).bind fun u8 =>
    (f_X4_readFile G a0 a1 a2).bind fun q8 =>
    if q8.2 = 0 then
    some (q8.1, (0 : Int32))
    else
    (g_j q8.1 a0 4 7).bind fun v18 =>
    (g_ob q8.1 a2 1).bind fun u21 =>
    (f_X1_fileNamed q8.1 a2 v18).bind fun v21 =>
    (g_ob q8.1 a2 1).bind fun u29 =>
    (f_X1_reasonAgainstErase q8.1 a2 v21).bind fun q29 =>
    if q29.2 = 0 then
    (g_ob q29.1 a2 1).bind fun u46 =>
    (f_X1_eraseFile q29.1 a2 v21).bind fun G46 =>
    some (G46, (1 : Int32))
    else
    (g_ob q29.1 a0 4).bind fun u39 =>
    (f_X4_fail q29.1 a0 (6 : Int32) v1).bind fun q39 =>
    (g_z q39.2).bind fun w42 => some (q39.1, w42)
set_option maxRecDepth 20000 in
set_option maxHeartbeats 4000000 in
theorem m_X4_readErase (l : Launch) (dd : va_G) (cT : Nat → ClassId) (lo : Nat) (G : gH) (a0 : Nat) (a1 : Nat) (a2 : Nat) {rz : Int32} {Gz : gH} (h : f_X4_readErase G a0 a1 a2 = some (Gz, rz)) : Met l yX4_readErase (Cond.code yX4_readErase cX4_readErase 5 (some .boolean) :: wsL_law) (g_rm 8 178 0 0) (va_Pc [.ref a0, .ref a1, .ref a2] (g_Pre lo dd cT G)) (va_Qi (g_is rz Gz) (g_Pre lo dd cT) (g_A lo)) 0 0 (g_A lo) := by
  refine g_start RX4 rfl (by decide) (Nat.le_of_ble_eq_true rfl) ?_
  intro p e s m below meth c hx hb hr hlocks hml hown hnm hts hK hG hlo ls hl
  have hl : lv_has ls 5 [(0, .ref a0), (1, .ref a1), (2, .ref a2)] := hl
  have hG : g_S lo dd cT s s.heap [] G := hG
  unfold f_X4_readErase at h
  refine lv_aload_n hx hb dX4_readErase_0 rfl (lv_at hl 0 rfl) ?_
  obtain ⟨v1, e1, h⟩ := Option.bind_eq_some_iff.mp h
  refine g_geti hx hb hts inlX4 hown hK hG (by rfl) 4 (by decide) qF_X4_24 e1 dX4_readErase_1 ?_
  refine lv_istore_n (lv' := [(3, .int v1), (0, .ref a0), (1, .ref a1), (2, .ref a2)]) hx hb dX4_readErase_4 rfl hl (by decide) rfl (fun ls hl => ?_)
  refine lv_aload_n hx hb dX4_readErase_5 rfl (lv_at hl 1 rfl) ?_
  refine lv_aload_n hx hb dX4_readErase_6 rfl (lv_at hl 2 rfl) ?_
  refine lv_aload_n hx hb dX4_readErase_7 rfl (lv_at hl 3 rfl) ?_
  obtain ⟨u8, i8, h⟩ := Option.bind_eq_some_iff.mp h
  obtain ⟨q8, e8, h⟩ := Option.bind_eq_some_iff.mp h
  refine g_cVi (As := [.ref a1, .ref a2]) (rest := []) (n := 2) hx hb hml hown hts hK hlo hG (m_X4_readFile l dd cT lo G a0 a1 a2 e8) qM_X4_140 qI_yX4_readFile qS_X4_yX4_readFile qN_X4 qC_yX4_readFile (by decide +kernel) ⟨Nat.le_of_ble_eq_true rfl, Nat.le_of_ble_eq_true rfl⟩ (by rfl) i8 rfl hl.1 rfl (Nat.le_of_ble_eq_true rfl) dX4_readErase_8 ⟨Nat.le_of_ble_eq_true rfl, Nat.le_of_ble_eq_true rfl⟩ (fun H locs hG => ?_)
  refine lv_if_ne (tgt := 16) hx hb dX4_readErase_11 (by decide) (fun c11 => ?_) (fun c11 => ?_)
  · rw [if_neg c11] at h
    refine lv_aload_n hx hb dX4_readErase_16 rfl (lv_at hl 3 rfl) ?_
    refine lv_aload_n hx hb dX4_readErase_17 rfl (lv_at hl 1 rfl) ?_
    obtain ⟨v18, e18, h⟩ := Option.bind_eq_some_iff.mp h
    refine g_getj hx hb hts inlX4 hown hK hG (by rfl) 7 (by decide) qF_X4_33 e18 dX4_readErase_18 ?_
    obtain ⟨u21, i21, h⟩ := Option.bind_eq_some_iff.mp h
    obtain ⟨v21, e21, h⟩ := Option.bind_eq_some_iff.mp h
    refine g_cVi (As := [.long v18]) (rest := []) (n := 1) hx hb hml hown hts hK hlo hG (m_X1_fileNamed l dd cT lo q8.1 a2 v18 e21) qM_X4_132 qI_yX1_fileNamed qS_X1_yX1_fileNamed qN_X1 qC_yX1_fileNamed (by decide +kernel) ⟨Nat.le_of_ble_eq_true rfl, Nat.le_of_ble_eq_true rfl⟩ (by rfl) i21 rfl hl.1 rfl (Nat.le_of_ble_eq_true rfl) dX4_readErase_21 ⟨Nat.le_of_ble_eq_true rfl, Nat.le_of_ble_eq_true rfl⟩ (fun H locs hG => ?_)
    refine lv_istore (lv' := [(4, .int v21), (3, .int v1), (0, .ref a0), (1, .ref a1), (2, .ref a2)]) hx hb dX4_readErase_24 hl (by decide) rfl (fun ls hl => ?_)
    refine lv_aload_n hx hb dX4_readErase_26 rfl (lv_at hl 4 rfl) ?_
    refine lv_iload hx hb dX4_readErase_27 (lv_at hl 0 rfl) ?_
    obtain ⟨u29, i29, h⟩ := Option.bind_eq_some_iff.mp h
    obtain ⟨q29, e29, h⟩ := Option.bind_eq_some_iff.mp h
    refine g_cVi (As := [.int v21]) (rest := []) (n := 1) hx hb hml hown hts hK hlo hG (m_X1_reasonAgainstErase l dd cT lo q8.1 a2 v21 e29) qM_X4_150 qI_yX1_reasonAgainstErase qS_X1_yX1_reasonAgainstErase qN_X1 qC_yX1_reasonAgainstErase (by decide +kernel) ⟨Nat.le_of_ble_eq_true rfl, Nat.le_of_ble_eq_true rfl⟩ (by rfl) i29 rfl hl.1 rfl (Nat.le_of_ble_eq_true rfl) dX4_readErase_29 ⟨Nat.le_of_ble_eq_true rfl, Nat.le_of_ble_eq_true rfl⟩ (fun H locs hG => ?_)
    refine lv_if_eq (tgt := 43) hx hb dX4_readErase_32 (by decide) (fun c32 => ?_) (fun c32 => ?_)
    · rw [if_pos c32] at h
      refine lv_aload_n hx hb dX4_readErase_43 rfl (lv_at hl 4 rfl) ?_
      refine lv_iload hx hb dX4_readErase_44 (lv_at hl 0 rfl) ?_
      obtain ⟨u46, i46, h⟩ := Option.bind_eq_some_iff.mp h
      obtain ⟨G46, e46, h⟩ := Option.bind_eq_some_iff.mp h
      refine g_cVv (As := [.int v21]) (rest := []) (n := 1) hx hb hml hown hts hK hlo hG (m_X1_eraseFile l dd cT lo q29.1 a2 v21 e46) qM_X4_154 qI_yX1_eraseFile qS_X1_yX1_eraseFile qN_X1 qC_yX1_eraseFile (by decide +kernel) ⟨Nat.le_of_ble_eq_true rfl, Nat.le_of_ble_eq_true rfl⟩ (by rfl) i46 rfl hl.1 rfl (Nat.le_of_ble_eq_true rfl) dX4_readErase_46 ⟨Nat.le_of_ble_eq_true rfl, Nat.le_of_ble_eq_true rfl⟩ (fun H locs hG => ?_)
      refine lv_iconst (v := (1 : Int32)) hx hb dX4_readErase_49 (by decide) ?_
      obtain ⟨rfl, rfl⟩ := Prod.mk.inj (Option.some.inj h)
      exact g_zret hx hb hr hlocks hK hlo hG rfl ⟨rfl, rfl⟩ dX4_readErase_50
    · rw [if_neg c32] at h
      refine lv_aload_n hx hb dX4_readErase_35 rfl (lv_at hl 2 rfl) ?_
      refine lv_bipush (v := (6 : Int32)) hx hb dX4_readErase_36 (by decide) ?_
      refine lv_iload_n hx hb dX4_readErase_38 rfl (lv_at hl 1 rfl) ?_
      obtain ⟨u39, i39, h⟩ := Option.bind_eq_some_iff.mp h
      obtain ⟨q39, e39, h⟩ := Option.bind_eq_some_iff.mp h
      refine g_cVi (As := [.int (6 : Int32), .int v1]) (rest := []) (n := 2) hx hb hml hown hts hK hlo hG (m_X4_fail l dd cT lo q29.1 a0 (6 : Int32) v1 e39) qM_X4_55 qI_yX4_fail qS_X4_yX4_fail qN_X4 qC_yX4_fail (by decide +kernel) ⟨Nat.le_of_ble_eq_true rfl, Nat.le_of_ble_eq_true rfl⟩ (by rfl) i39 rfl hl.1 rfl (Nat.le_of_ble_eq_true rfl) dX4_readErase_39 ⟨Nat.le_of_ble_eq_true rfl, Nat.le_of_ble_eq_true rfl⟩ (fun H locs hG => ?_)
      obtain ⟨w42, e42, h⟩ := Option.bind_eq_some_iff.mp h
      obtain ⟨n42, rfl⟩ := g_z_nar e42
      obtain ⟨rfl, rfl⟩ := Prod.mk.inj (Option.some.inj h)
      exact g_zret hx hb hr hlocks hK hlo hG n42 ⟨rfl, rfl⟩ dX4_readErase_42
  · rw [if_pos c11] at h
    refine lv_iconst (v := (0 : Int32)) hx hb dX4_readErase_14 (by decide) ?_
    obtain ⟨rfl, rfl⟩ := Prod.mk.inj (Option.some.inj h)
    exact g_zret hx hb hr hlocks hK hlo hG rfl ⟨rfl, rfl⟩ dX4_readErase_15
def f_X9_couldRecover (G : gH) (a0 : Nat) : Option Int32 :=
    (g_r G a0 9 5).bind fun v1 =>
    (g_ob G v1 1).bind fun u4 =>
    (f_X1_recoverableVersions G v1).bind fun v4 =>
    some v4
set_option maxRecDepth 20000 in
set_option maxHeartbeats 4000000 in
theorem m_X9_couldRecover (l : Launch) (dd : va_G) (cT : Nat → ClassId) (lo : Nat) (G : gH) (a0 : Nat) {rz : Int32} (h : f_X9_couldRecover G a0 = some rz) : Met l yX9_couldRecover (Cond.code yX9_couldRecover cX9_couldRecover 1 (some .int) :: wsL_law) (g_rm 7 154 0 0) (va_Pc [.ref a0] (g_Pre lo dd cT G)) (va_Qi (g_is rz G) (g_Pre lo dd cT) (g_A lo)) 0 0 (g_A lo) := by
  refine g_start RX9 rfl (by decide) (Nat.le_of_ble_eq_true rfl) ?_
  intro p e s m below meth c hx hb hr hlocks hml hown hnm hts hK hG hlo ls hl
  have hl : lv_has ls 1 [(0, .ref a0)] := hl
  have hG : g_S lo dd cT s s.heap [] G := hG
  unfold f_X9_couldRecover at h
  refine lv_aload_n hx hb dX9_couldRecover_0 rfl (lv_at hl 0 rfl) ?_
  obtain ⟨v1, e1, h⟩ := Option.bind_eq_some_iff.mp h
  refine g_getr hx hb hts inlX9 hown hK hG (by rfl) 5 (by decide) qF_X9_47 e1 dX9_couldRecover_1 ?_
  obtain ⟨u4, i4, h⟩ := Option.bind_eq_some_iff.mp h
  obtain ⟨v4, e4, h⟩ := Option.bind_eq_some_iff.mp h
  refine g_cVi (As := []) (rest := []) (n := 0) hx hb hml hown hts hK hlo hG (m_X1_recoverableVersions l dd cT lo G v1 e4) qM_X9_238 qI_yX1_recoverableVersions qS_X1_yX1_recoverableVersions qN_X1 qC_yX1_recoverableVersions (by decide +kernel) ⟨Nat.le_of_ble_eq_true rfl, Nat.le_of_ble_eq_true rfl⟩ (by rfl) i4 rfl hl.1 rfl (Nat.le_of_ble_eq_true rfl) dX9_couldRecover_4 ⟨Nat.le_of_ble_eq_true rfl, Nat.le_of_ble_eq_true rfl⟩ (fun H locs hG => ?_)
  obtain rfl := Option.some.inj h
  exact g_iret hx hb hr hlocks hK hlo hG ⟨rfl, rfl⟩ dX9_couldRecover_7
def f_X9_weakest_L15 : Nat → gH → Nat → Nat → Int32 → Int32 → Int32 → Option (gH × Int32)
  | 0, _, _, _, _, _, _ => none
  | n + 1, G, ba0, ba1, bx2, bx3, bx4 =>
    (g_r G ba0 9 5).bind fun v18 =>
    (g_r G v18 1 0).bind fun v21 =>
    (g_i G v21 0 0).bind fun v24 =>
    if v24 ≤ bx4 then
    some (G, bx2)
    else
    (g_r G ba0 9 5).bind fun v31 =>
    (g_r G ba0 9 4).bind fun v38 =>
    (g_ob G v31 1).bind fun u41 =>
    (f_X1_filesLostBy G v31 bx4 ba1 v38).bind fun q41 =>
    if q41.2 ≤ bx3 then
    f_X9_weakest_L15 n q41.1 ba0 ba1 bx2 bx3 (bx4 + (1 : Int32))
    else
    f_X9_weakest_L15 n q41.1 ba0 ba1 bx4 q41.2 (bx4 + (1 : Int32))
def f_X9_weakest (G : gH) (a0 : Nat) : Option (gH × Int32) :=
    (g_r G a0 9 5).bind fun v1 =>
    (g_ob G v1 1).bind fun u4 =>
    (f_X1_look G v1).bind fun q4 =>
    f_X9_weakest_L15 g_N q4.1 a0 q4.2 (0 : Int32) (0 : Int32) (0 : Int32)
set_option maxRecDepth 20000 in
set_option maxHeartbeats 4000000 in
theorem m_X9_weakest (l : Launch) (dd : va_G) (cT : Nat → ClassId) (lo : Nat) (G : gH) (a0 : Nat) {rz : Int32} {Gz : gH} (h : f_X9_weakest G a0 = some (Gz, rz)) : Met l yX9_weakest (Cond.code yX9_weakest cX9_weakest 6 (some .int) :: wsL_law) (g_rm 7 162 0 0) (va_Pc [.ref a0] (g_Pre lo dd cT G)) (va_Qi (g_is rz Gz) (g_Pre lo dd cT) (g_A lo)) 0 0 (g_A lo) := by
  refine g_start RX9 rfl (by decide) (Nat.le_of_ble_eq_true rfl) ?_
  intro p e s m below meth c hx hb hr hlocks hml hown hnm hts hK hG hlo ls hl
  have hl : lv_has ls 6 [(0, .ref a0)] := hl
  have hG : g_S lo dd cT s s.heap [] G := hG
  have h15 : ∀ n : Nat, ∀ (G : gH) (ba0 : Nat) (ba1 : Nat) (bx2 : Int32) (bx3 : Int32) (bx4 : Int32), ∀ (H : Heap) (locs : List Loc), g_S lo dd cT s H locs G → ∀ ls : Array Slot, lv_has ls 6 [(0, .ref ba0), (1, .ref ba1), (2, .int bx2), (3, .int bx3), (4, .int bx4)] → f_X9_weakest_L15 n G ba0 ba1 bx2 bx3 bx4 = some (Gz, rz) → W p l e (g_rm 7 162 0 0) s m ([.ref a0] : List Value).toArray below meth c H locs 0 0 (MQ below (va_Qi (g_is rz Gz) (g_Pre lo dd cT) (g_A lo)) ([.ref a0] : List Value).toArray s 0 0 (g_A lo)) (F0 m 15 ls []) := by
    intro n
    induction n with
    | zero =>
      intro G ba0 ba1 bx2 bx3 bx4 H locs hG ls hl h
      cases (show (none : Option (gH × Int32)) = some (Gz, rz) from h)
    | succ n ih =>
      intro G ba0 ba1 bx2 bx3 bx4 H locs hG ls hl h
      rw [f_X9_weakest_L15] at h
      refine lv_iload hx hb dX9_weakest_15 (lv_at hl 4 rfl) ?_
      refine lv_aload_n hx hb dX9_weakest_17 rfl (lv_at hl 0 rfl) ?_
      obtain ⟨v18, e18, h⟩ := Option.bind_eq_some_iff.mp h
      refine g_getr hx hb hts inlX9 hown hK hG (by rfl) 5 (by decide) qF_X9_47 e18 dX9_weakest_18 ?_
      obtain ⟨v21, e21, h⟩ := Option.bind_eq_some_iff.mp h
      refine g_getr hx hb hts inlX1 hown hK hG (by rfl) 0 (by decide) qF_X9_85 e21 dX9_weakest_21 ?_
      obtain ⟨v24, e24, h⟩ := Option.bind_eq_some_iff.mp h
      refine g_geti hx hb hts inlX0 hown hK hG (by rfl) 0 (by decide) qF_X9_89 e24 dX9_weakest_24 ?_
      refine lv_icmp_ge (tgt := 64) hx hb dX9_weakest_27 (by decide) (fun c27 => ?_) (fun c27 => ?_)
      · rw [if_pos c27] at h
        refine lv_iload_n hx hb dX9_weakest_64 rfl (lv_at hl 2 rfl) ?_
        obtain ⟨rfl, rfl⟩ := Prod.mk.inj (Option.some.inj h)
        exact g_iret hx hb hr hlocks hK hlo hG ⟨rfl, rfl⟩ dX9_weakest_65
      · rw [if_neg c27] at h
        refine lv_aload_n hx hb dX9_weakest_30 rfl (lv_at hl 0 rfl) ?_
        obtain ⟨v31, e31, h⟩ := Option.bind_eq_some_iff.mp h
        refine g_getr hx hb hts inlX9 hown hK hG (by rfl) 5 (by decide) qF_X9_47 e31 dX9_weakest_31 ?_
        refine lv_iload hx hb dX9_weakest_34 (lv_at hl 4 rfl) ?_
        refine lv_aload_n hx hb dX9_weakest_36 rfl (lv_at hl 1 rfl) ?_
        refine lv_aload_n hx hb dX9_weakest_37 rfl (lv_at hl 0 rfl) ?_
        obtain ⟨v38, e38, h⟩ := Option.bind_eq_some_iff.mp h
        refine g_getr hx hb hts inlX9 hown hK hG (by rfl) 4 (by decide) qF_X9_40 e38 dX9_weakest_38 ?_
        obtain ⟨u41, i41, h⟩ := Option.bind_eq_some_iff.mp h
        obtain ⟨q41, e41, h⟩ := Option.bind_eq_some_iff.mp h
        refine g_cVi (As := [.int bx4, .ref ba1, .ref v38]) (rest := []) (n := 3) hx hb hml hown hts hK hlo hG (m_X1_filesLostBy l dd cT lo G v31 bx4 ba1 v38 e41) qM_X9_241 qI_yX1_filesLostBy qS_X1_yX1_filesLostBy qN_X1 qC_yX1_filesLostBy (by decide +kernel) ⟨Nat.le_of_ble_eq_true rfl, Nat.le_of_ble_eq_true rfl⟩ (by rfl) i41 rfl hl.1 rfl (Nat.le_of_ble_eq_true rfl) dX9_weakest_41 ⟨Nat.le_of_ble_eq_true rfl, Nat.le_of_ble_eq_true rfl⟩ (fun H locs hG => ?_)
        refine lv_istore (lv' := [(5, .int q41.2), (0, .ref ba0), (1, .ref ba1), (2, .int bx2), (3, .int bx3), (4, .int bx4)]) hx hb dX9_weakest_44 hl (by decide) rfl (fun ls hl => ?_)
        refine lv_iload hx hb dX9_weakest_46 (lv_at hl 0 rfl) ?_
        refine lv_iload_n hx hb dX9_weakest_48 rfl (lv_at hl 4 rfl) ?_
        refine lv_icmp_le (tgt := 58) hx hb dX9_weakest_49 (by decide) (fun c49 => ?_) (fun c49 => ?_)
        · rw [if_pos c49] at h
          refine lv_iinc (v := (bx4 + (1 : Int32))) (lv' := [(4, .int (bx4 + (1 : Int32))), (5, .int q41.2), (0, .ref ba0), (1, .ref ba1), (2, .int bx2), (3, .int bx3)]) hx hb dX9_weakest_58 hl (k := 5) rfl rfl (by decide) rfl (fun ls hl => ?_)
          refine lv_goto (tgt := 15) hx hb dX9_weakest_61 (by decide) ?_
          exact ih q41.1 ba0 ba1 bx2 bx3 (bx4 + (1 : Int32)) _ _ hG _ (lv_sub hl [2, 3, 4, 5, 0] rfl) h
        · rw [if_neg c49] at h
          refine lv_iload hx hb dX9_weakest_52 (lv_at hl 0 rfl) ?_
          refine lv_istore_n (lv' := [(3, .int q41.2), (5, .int q41.2), (0, .ref ba0), (1, .ref ba1), (2, .int bx2), (4, .int bx4)]) hx hb dX9_weakest_54 rfl hl (by decide) rfl (fun ls hl => ?_)
          refine lv_iload hx hb dX9_weakest_55 (lv_at hl 5 rfl) ?_
          refine lv_istore_n (lv' := [(2, .int bx4), (3, .int q41.2), (5, .int q41.2), (0, .ref ba0), (1, .ref ba1), (4, .int bx4)]) hx hb dX9_weakest_57 rfl hl (by decide) rfl (fun ls hl => ?_)
          refine lv_iinc (v := (bx4 + (1 : Int32))) (lv' := [(4, .int (bx4 + (1 : Int32))), (2, .int bx4), (3, .int q41.2), (5, .int q41.2), (0, .ref ba0), (1, .ref ba1)]) hx hb dX9_weakest_58 hl (k := 5) rfl rfl (by decide) rfl (fun ls hl => ?_)
          refine lv_goto (tgt := 15) hx hb dX9_weakest_61 (by decide) ?_
          exact ih q41.1 ba0 ba1 bx4 q41.2 (bx4 + (1 : Int32)) _ _ hG _ (lv_sub hl [4, 5, 1, 2, 0] rfl) h
  unfold f_X9_weakest at h
  refine lv_aload_n hx hb dX9_weakest_0 rfl (lv_at hl 0 rfl) ?_
  obtain ⟨v1, e1, h⟩ := Option.bind_eq_some_iff.mp h
  refine g_getr hx hb hts inlX9 hown hK hG (by rfl) 5 (by decide) qF_X9_47 e1 dX9_weakest_1 ?_
  obtain ⟨u4, i4, h⟩ := Option.bind_eq_some_iff.mp h
  obtain ⟨q4, e4, h⟩ := Option.bind_eq_some_iff.mp h
  refine g_cVr (As := []) (rest := []) (n := 0) hx hb hml hown hts hK hlo hG (m_X1_look l dd cT lo G v1 e4) qM_X9_117 qI_yX1_look qS_X1_yX1_look qN_X1 qC_yX1_look (by decide +kernel) ⟨Nat.le_of_ble_eq_true rfl, Nat.le_of_ble_eq_true rfl⟩ (by rfl) i4 rfl hl.1 rfl (Nat.le_of_ble_eq_true rfl) dX9_weakest_4 ⟨Nat.le_of_ble_eq_true rfl, Nat.le_of_ble_eq_true rfl⟩ (fun H locs hG => ?_)
  refine lv_astore_n (lv' := [(1, .ref q4.2), (0, .ref a0)]) hx hb dX9_weakest_7 rfl hl (by decide) rfl (fun ls hl => ?_)
  refine lv_iconst (v := (0 : Int32)) hx hb dX9_weakest_8 (by decide) ?_
  refine lv_istore_n (lv' := [(2, .int (0 : Int32)), (1, .ref q4.2), (0, .ref a0)]) hx hb dX9_weakest_9 rfl hl (by decide) rfl (fun ls hl => ?_)
  refine lv_iconst (v := (0 : Int32)) hx hb dX9_weakest_10 (by decide) ?_
  refine lv_istore_n (lv' := [(3, .int (0 : Int32)), (2, .int (0 : Int32)), (1, .ref q4.2), (0, .ref a0)]) hx hb dX9_weakest_11 rfl hl (by decide) rfl (fun ls hl => ?_)
  refine lv_iconst (v := (0 : Int32)) hx hb dX9_weakest_12 (by decide) ?_
  refine lv_istore (lv' := [(4, .int (0 : Int32)), (3, .int (0 : Int32)), (2, .int (0 : Int32)), (1, .ref q4.2), (0, .ref a0)]) hx hb dX9_weakest_13 hl (by decide) rfl (fun ls hl => ?_)
  exact h15 g_N q4.1 a0 q4.2 (0 : Int32) (0 : Int32) (0 : Int32) _ _ hG _ (lv_sub hl [4, 3, 2, 1, 0] rfl) h
def f_X1_reasonAgainstRecover (G : gH) (a0 : Nat) : Option Int32 :=
    (g_ob G a0 1).bind fun u1 =>
    (f_X1_recoverableVersions G a0).bind fun v1 =>
    if v1 = 0 then
    some (2 : Int32)
    else
    (g_r G a0 1 2).bind fun v12 =>
    (g_ob G v12 5).bind fun u15 =>
    (f_X5_oneMoreIsTooMany G v12).bind fun v15 =>
    if v15 = 0 then
    (g_ob G a0 1).bind fun u27 =>
    (f_X1_reasonAgainstDirectory G a0 v1).bind fun v27 =>
    some v27
    else
    some (3 : Int32)
set_option maxRecDepth 20000 in
set_option maxHeartbeats 4000000 in
theorem m_X1_reasonAgainstRecover (l : Launch) (dd : va_G) (cT : Nat → ClassId) (lo : Nat) (G : gH) (a0 : Nat) {rz : Int32} (h : f_X1_reasonAgainstRecover G a0 = some rz) : Met l yX1_reasonAgainstRecover (Cond.code yX1_reasonAgainstRecover cX1_reasonAgainstRecover 2 (some .int) :: wsL_law) (g_rm 7 154 0 0) (va_Pc [.ref a0] (g_Pre lo dd cT G)) (va_Qi (g_is rz G) (g_Pre lo dd cT) (g_A lo)) 0 0 (g_A lo) := by
  refine g_start RX1 rfl (by decide) (Nat.le_of_ble_eq_true rfl) ?_
  intro p e s m below meth c hx hb hr hlocks hml hown hnm hts hK hG hlo ls hl
  have hl : lv_has ls 2 [(0, .ref a0)] := hl
  have hG : g_S lo dd cT s s.heap [] G := hG
  unfold f_X1_reasonAgainstRecover at h
  refine lv_aload_n hx hb dX1_reasonAgainstRecover_0 rfl (lv_at hl 0 rfl) ?_
  obtain ⟨u1, i1, h⟩ := Option.bind_eq_some_iff.mp h
  obtain ⟨v1, e1, h⟩ := Option.bind_eq_some_iff.mp h
  refine g_cVi (As := []) (rest := []) (n := 0) hx hb hml hown hts hK hlo hG (m_X1_recoverableVersions l dd cT lo G a0 e1) qM_X1_169 qI_yX1_recoverableVersions qS_X1_yX1_recoverableVersions qN_X1 qC_yX1_recoverableVersions (by decide +kernel) ⟨Nat.le_of_ble_eq_true rfl, Nat.le_of_ble_eq_true rfl⟩ (by rfl) i1 rfl hl.1 rfl (Nat.le_of_ble_eq_true rfl) dX1_reasonAgainstRecover_1 ⟨Nat.le_of_ble_eq_true rfl, Nat.le_of_ble_eq_true rfl⟩ (fun H locs hG => ?_)
  refine lv_istore_n (lv' := [(1, .int v1), (0, .ref a0)]) hx hb dX1_reasonAgainstRecover_4 rfl hl (by decide) rfl (fun ls hl => ?_)
  refine lv_iload_n hx hb dX1_reasonAgainstRecover_5 rfl (lv_at hl 0 rfl) ?_
  refine lv_if_ne (tgt := 11) hx hb dX1_reasonAgainstRecover_6 (by decide) (fun c6 => ?_) (fun c6 => ?_)
  · rw [if_neg c6] at h
    refine lv_aload_n hx hb dX1_reasonAgainstRecover_11 rfl (lv_at hl 1 rfl) ?_
    obtain ⟨v12, e12, h⟩ := Option.bind_eq_some_iff.mp h
    refine g_getr hx hb hts inlX1 hown hK hG (by rfl) 2 (by decide) qF_X1_28 e12 dX1_reasonAgainstRecover_12 ?_
    obtain ⟨u15, i15, h⟩ := Option.bind_eq_some_iff.mp h
    obtain ⟨v15, e15, h⟩ := Option.bind_eq_some_iff.mp h
    refine g_cVi (As := []) (rest := []) (n := 0) hx hb hml hown hts hK hlo hG (m_X5_oneMoreIsTooMany l dd cT lo G v12 e15) qM_X1_146 qI_yX5_oneMoreIsTooMany qS_X5_yX5_oneMoreIsTooMany qN_X5 qC_yX5_oneMoreIsTooMany (by decide +kernel) ⟨Nat.le_of_ble_eq_true rfl, Nat.le_of_ble_eq_true rfl⟩ (by rfl) i15 rfl hl.1 rfl (Nat.le_of_ble_eq_true rfl) dX1_reasonAgainstRecover_15 ⟨Nat.le_of_ble_eq_true rfl, Nat.le_of_ble_eq_true rfl⟩ (fun H locs hG => ?_)
    refine lv_if_eq (tgt := 25) hx hb dX1_reasonAgainstRecover_18 (by decide) (fun c18 => ?_) (fun c18 => ?_)
    · rw [if_pos c18] at h
      refine lv_aload_n hx hb dX1_reasonAgainstRecover_25 rfl (lv_at hl 1 rfl) ?_
      refine lv_iload_n hx hb dX1_reasonAgainstRecover_26 rfl (lv_at hl 0 rfl) ?_
      obtain ⟨u27, i27, h⟩ := Option.bind_eq_some_iff.mp h
      obtain ⟨v27, e27, h⟩ := Option.bind_eq_some_iff.mp h
      refine g_cVi (As := [.int v1]) (rest := []) (n := 1) hx hb hml hown hts hK hlo hG (m_X1_reasonAgainstDirectory l dd cT lo G a0 v1 e27) qM_X1_166 qI_yX1_reasonAgainstDirectory qS_X1_yX1_reasonAgainstDirectory qN_X1 qC_yX1_reasonAgainstDirectory (by decide +kernel) ⟨Nat.le_of_ble_eq_true rfl, Nat.le_of_ble_eq_true rfl⟩ (by rfl) i27 rfl hl.1 rfl (Nat.le_of_ble_eq_true rfl) dX1_reasonAgainstRecover_27 ⟨Nat.le_of_ble_eq_true rfl, Nat.le_of_ble_eq_true rfl⟩ (fun H locs hG => ?_)
      obtain rfl := Option.some.inj h
      exact g_iret hx hb hr hlocks hK hlo hG ⟨rfl, rfl⟩ dX1_reasonAgainstRecover_30
    · rw [if_neg c18] at h
      refine lv_iconst (v := (3 : Int32)) hx hb dX1_reasonAgainstRecover_21 (by decide) ?_
      refine lv_goto (tgt := 30) hx hb dX1_reasonAgainstRecover_22 (by decide) ?_
      obtain rfl := Option.some.inj h
      exact g_iret hx hb hr hlocks hK hlo hG ⟨rfl, rfl⟩ dX1_reasonAgainstRecover_30
  · rw [if_pos c6] at h
    refine lv_iconst (v := (2 : Int32)) hx hb dX1_reasonAgainstRecover_9 (by decide) ?_
    obtain rfl := Option.some.inj h
    exact g_iret hx hb hr hlocks hK hlo hG ⟨rfl, rfl⟩ dX1_reasonAgainstRecover_10
def f_X4_readStatement (G : gH) (a0 : Nat) (a1 : Nat) (a2 : Nat) : Option (gH × Int32) :=
    (g_ob G a0 4).bind fun u4 =>
    (f_X4_isWord G a0 a1 1).bind fun v4 =>
    if v4 = 0 then
    (g_ob G a0 4).bind fun u21 =>
    (f_X4_isWord G a0 a1 2).bind fun v21 =>
    if v21 = 0 then
    (g_ob G a0 4).bind fun u38 =>
    (f_X4_isWord G a0 a1 3).bind fun v38 =>
    if v38 = 0 then
    (g_ob G a0 4).bind fun u55 =>
    (f_X4_isWord G a0 a1 4).bind fun v55 =>
    if v55 = 0 then
    (g_ob G a0 4).bind fun u72 =>
    (f_X4_isWord G a0 a1 5).bind fun v72 =>
    if v72 = 0 then
    (g_i G a0 4 4).bind fun v87 =>
    (g_ob G a0 4).bind fun u90 =>
    (f_X4_fail G a0 (1 : Int32) v87).bind fun q90 =>
    (g_z q90.2).bind fun w93 => some (q90.1, w93)
    else
    (g_ob G a0 4).bind fun u80 =>
    (f_X4_doClose G a0 a2).bind fun q80 =>
    (g_z q80.2).bind fun w83 => some (q80.1, w83)
    else
    (g_ob G a0 4).bind fun u64 =>
    (f_X4_readErase G a0 a1 a2).bind fun q64 =>
    (g_z q64.2).bind fun w67 => some (q64.1, w67)
    else
    (g_ob G a0 4).bind fun u47 =>
    (f_X4_readWrite G a0 a1 a2).bind fun q47 =>
    (g_z q47.2).bind fun w50 => some (q47.1, w50)
    else
    (g_ob G a0 4).bind fun u30 =>
    (f_X4_readNewFile G a0 a1 a2).bind fun q30 =>
    (g_z q30.2).bind fun w33 => some (q30.1, w33)
    else
    (g_ob G a0 4).bind fun u13 =>
    (f_X4_readBad G a0 a1 a2).bind fun q13 =>
    (g_z q13.2).bind fun w16 => some (q13.1, w16)
set_option maxRecDepth 20000 in
set_option maxHeartbeats 4000000 in
theorem m_X4_readStatement (l : Launch) (dd : va_G) (cT : Nat → ClassId) (lo : Nat) (G : gH) (a0 : Nat) (a1 : Nat) (a2 : Nat) {rz : Int32} {Gz : gH} (h : f_X4_readStatement G a0 a1 a2 = some (Gz, rz)) : Met l yX4_readStatement (Cond.code yX4_readStatement cX4_readStatement 3 (some .boolean) :: wsL_law) (g_rm 9 202 0 0) (va_Pc [.ref a0, .ref a1, .ref a2] (g_Pre lo dd cT G)) (va_Qi (g_is rz Gz) (g_Pre lo dd cT) (g_A lo)) 0 0 (g_A lo) := by
  refine g_start RX4 rfl (by decide) (Nat.le_of_ble_eq_true rfl) ?_
  intro p e s m below meth c hx hb hr hlocks hml hown hnm hts hK hG hlo ls hl
  have hl : lv_has ls 3 [(0, .ref a0), (1, .ref a1), (2, .ref a2)] := hl
  have hG : g_S lo dd cT s s.heap [] G := hG
  unfold f_X4_readStatement at h
  refine lv_aload_n hx hb dX4_readStatement_0 rfl (lv_at hl 0 rfl) ?_
  refine lv_aload_n hx hb dX4_readStatement_1 rfl (lv_at hl 1 rfl) ?_
  refine va_ldcS (q := dd.2 100 1) hx hb hown (hG.2.2.2.1 _ (List.mem_of_getElem? (i := 2) rfl)) dX4_readStatement_2 ?_
  obtain ⟨u4, i4, h⟩ := Option.bind_eq_some_iff.mp h
  obtain ⟨v4, e4, h⟩ := Option.bind_eq_some_iff.mp h
  refine g_cVi (As := [.ref a1, .ref (dd.2 100 1)]) (rest := []) (n := 2) hx hb hml hown hts hK hlo hG (m_X4_isWord l dd cT lo G a0 a1 1 e4) qM_X4_51 qI_yX4_isWord qS_X4_yX4_isWord qN_X4 qC_yX4_isWord (by decide +kernel) ⟨Nat.le_of_ble_eq_true rfl, Nat.le_of_ble_eq_true rfl⟩ (by rfl) i4 rfl hl.1 rfl (Nat.le_of_ble_eq_true rfl) dX4_readStatement_4 ⟨Nat.le_of_ble_eq_true rfl, Nat.le_of_ble_eq_true rfl⟩ (fun H locs hG => ?_)
  refine lv_if_eq (tgt := 17) hx hb dX4_readStatement_7 (by decide) (fun c7 => ?_) (fun c7 => ?_)
  · rw [if_pos c7] at h
    refine lv_aload_n hx hb dX4_readStatement_17 rfl (lv_at hl 0 rfl) ?_
    refine lv_aload_n hx hb dX4_readStatement_18 rfl (lv_at hl 1 rfl) ?_
    refine va_ldcS (q := dd.2 100 2) hx hb hown (hG.2.2.2.1 _ (List.mem_of_getElem? (i := 3) rfl)) dX4_readStatement_19 ?_
    obtain ⟨u21, i21, h⟩ := Option.bind_eq_some_iff.mp h
    obtain ⟨v21, e21, h⟩ := Option.bind_eq_some_iff.mp h
    refine g_cVi (As := [.ref a1, .ref (dd.2 100 2)]) (rest := []) (n := 2) hx hb hml hown hts hK hlo hG (m_X4_isWord l dd cT lo G a0 a1 2 e21) qM_X4_51 qI_yX4_isWord qS_X4_yX4_isWord qN_X4 qC_yX4_isWord (by decide +kernel) ⟨Nat.le_of_ble_eq_true rfl, Nat.le_of_ble_eq_true rfl⟩ (by rfl) i21 rfl hl.1 rfl (Nat.le_of_ble_eq_true rfl) dX4_readStatement_21 ⟨Nat.le_of_ble_eq_true rfl, Nat.le_of_ble_eq_true rfl⟩ (fun H locs hG => ?_)
    refine lv_if_eq (tgt := 34) hx hb dX4_readStatement_24 (by decide) (fun c24 => ?_) (fun c24 => ?_)
    · rw [if_pos c24] at h
      refine lv_aload_n hx hb dX4_readStatement_34 rfl (lv_at hl 0 rfl) ?_
      refine lv_aload_n hx hb dX4_readStatement_35 rfl (lv_at hl 1 rfl) ?_
      refine va_ldcS (q := dd.2 100 3) hx hb hown (hG.2.2.2.1 _ (List.mem_of_getElem? (i := 4) rfl)) dX4_readStatement_36 ?_
      obtain ⟨u38, i38, h⟩ := Option.bind_eq_some_iff.mp h
      obtain ⟨v38, e38, h⟩ := Option.bind_eq_some_iff.mp h
      refine g_cVi (As := [.ref a1, .ref (dd.2 100 3)]) (rest := []) (n := 2) hx hb hml hown hts hK hlo hG (m_X4_isWord l dd cT lo G a0 a1 3 e38) qM_X4_51 qI_yX4_isWord qS_X4_yX4_isWord qN_X4 qC_yX4_isWord (by decide +kernel) ⟨Nat.le_of_ble_eq_true rfl, Nat.le_of_ble_eq_true rfl⟩ (by rfl) i38 rfl hl.1 rfl (Nat.le_of_ble_eq_true rfl) dX4_readStatement_38 ⟨Nat.le_of_ble_eq_true rfl, Nat.le_of_ble_eq_true rfl⟩ (fun H locs hG => ?_)
      refine lv_if_eq (tgt := 51) hx hb dX4_readStatement_41 (by decide) (fun c41 => ?_) (fun c41 => ?_)
      · rw [if_pos c41] at h
        refine lv_aload_n hx hb dX4_readStatement_51 rfl (lv_at hl 0 rfl) ?_
        refine lv_aload_n hx hb dX4_readStatement_52 rfl (lv_at hl 1 rfl) ?_
        refine va_ldcS (q := dd.2 100 4) hx hb hown (hG.2.2.2.1 _ (List.mem_of_getElem? (i := 5) rfl)) dX4_readStatement_53 ?_
        obtain ⟨u55, i55, h⟩ := Option.bind_eq_some_iff.mp h
        obtain ⟨v55, e55, h⟩ := Option.bind_eq_some_iff.mp h
        refine g_cVi (As := [.ref a1, .ref (dd.2 100 4)]) (rest := []) (n := 2) hx hb hml hown hts hK hlo hG (m_X4_isWord l dd cT lo G a0 a1 4 e55) qM_X4_51 qI_yX4_isWord qS_X4_yX4_isWord qN_X4 qC_yX4_isWord (by decide +kernel) ⟨Nat.le_of_ble_eq_true rfl, Nat.le_of_ble_eq_true rfl⟩ (by rfl) i55 rfl hl.1 rfl (Nat.le_of_ble_eq_true rfl) dX4_readStatement_55 ⟨Nat.le_of_ble_eq_true rfl, Nat.le_of_ble_eq_true rfl⟩ (fun H locs hG => ?_)
        refine lv_if_eq (tgt := 68) hx hb dX4_readStatement_58 (by decide) (fun c58 => ?_) (fun c58 => ?_)
        · rw [if_pos c58] at h
          refine lv_aload_n hx hb dX4_readStatement_68 rfl (lv_at hl 0 rfl) ?_
          refine lv_aload_n hx hb dX4_readStatement_69 rfl (lv_at hl 1 rfl) ?_
          refine va_ldcS (q := dd.2 100 5) hx hb hown (hG.2.2.2.1 _ (List.mem_of_getElem? (i := 0) rfl)) dX4_readStatement_70 ?_
          obtain ⟨u72, i72, h⟩ := Option.bind_eq_some_iff.mp h
          obtain ⟨v72, e72, h⟩ := Option.bind_eq_some_iff.mp h
          refine g_cVi (As := [.ref a1, .ref (dd.2 100 5)]) (rest := []) (n := 2) hx hb hml hown hts hK hlo hG (m_X4_isWord l dd cT lo G a0 a1 5 e72) qM_X4_51 qI_yX4_isWord qS_X4_yX4_isWord qN_X4 qC_yX4_isWord (by decide +kernel) ⟨Nat.le_of_ble_eq_true rfl, Nat.le_of_ble_eq_true rfl⟩ (by rfl) i72 rfl hl.1 rfl (Nat.le_of_ble_eq_true rfl) dX4_readStatement_72 ⟨Nat.le_of_ble_eq_true rfl, Nat.le_of_ble_eq_true rfl⟩ (fun H locs hG => ?_)
          refine lv_if_eq (tgt := 84) hx hb dX4_readStatement_75 (by decide) (fun c75 => ?_) (fun c75 => ?_)
          · rw [if_pos c75] at h
            refine lv_aload_n hx hb dX4_readStatement_84 rfl (lv_at hl 0 rfl) ?_
            refine lv_iconst (v := (1 : Int32)) hx hb dX4_readStatement_85 (by decide) ?_
            refine lv_aload_n hx hb dX4_readStatement_86 rfl (lv_at hl 0 rfl) ?_
            obtain ⟨v87, e87, h⟩ := Option.bind_eq_some_iff.mp h
            refine g_geti hx hb hts inlX4 hown hK hG (by rfl) 4 (by decide) qF_X4_24 e87 dX4_readStatement_87 ?_
            obtain ⟨u90, i90, h⟩ := Option.bind_eq_some_iff.mp h
            obtain ⟨q90, e90, h⟩ := Option.bind_eq_some_iff.mp h
            refine g_cVi (As := [.int (1 : Int32), .int v87]) (rest := []) (n := 2) hx hb hml hown hts hK hlo hG (m_X4_fail l dd cT lo G a0 (1 : Int32) v87 e90) qM_X4_55 qI_yX4_fail qS_X4_yX4_fail qN_X4 qC_yX4_fail (by decide +kernel) ⟨Nat.le_of_ble_eq_true rfl, Nat.le_of_ble_eq_true rfl⟩ (by rfl) i90 rfl hl.1 rfl (Nat.le_of_ble_eq_true rfl) dX4_readStatement_90 ⟨Nat.le_of_ble_eq_true rfl, Nat.le_of_ble_eq_true rfl⟩ (fun H locs hG => ?_)
            obtain ⟨w93, e93, h⟩ := Option.bind_eq_some_iff.mp h
            obtain ⟨n93, rfl⟩ := g_z_nar e93
            obtain ⟨rfl, rfl⟩ := Prod.mk.inj (Option.some.inj h)
            exact g_zret hx hb hr hlocks hK hlo hG n93 ⟨rfl, rfl⟩ dX4_readStatement_93
          · rw [if_neg c75] at h
            refine lv_aload_n hx hb dX4_readStatement_78 rfl (lv_at hl 0 rfl) ?_
            refine lv_aload_n hx hb dX4_readStatement_79 rfl (lv_at hl 2 rfl) ?_
            obtain ⟨u80, i80, h⟩ := Option.bind_eq_some_iff.mp h
            obtain ⟨q80, e80, h⟩ := Option.bind_eq_some_iff.mp h
            refine g_cVi (As := [.ref a2]) (rest := []) (n := 1) hx hb hml hown hts hK hlo hG (m_X4_doClose l dd cT lo G a0 a2 e80) qM_X4_104 qI_yX4_doClose qS_X4_yX4_doClose qN_X4 qC_yX4_doClose (by decide +kernel) ⟨Nat.le_of_ble_eq_true rfl, Nat.le_of_ble_eq_true rfl⟩ (by rfl) i80 rfl hl.1 rfl (Nat.le_of_ble_eq_true rfl) dX4_readStatement_80 ⟨Nat.le_of_ble_eq_true rfl, Nat.le_of_ble_eq_true rfl⟩ (fun H locs hG => ?_)
            obtain ⟨w83, e83, h⟩ := Option.bind_eq_some_iff.mp h
            obtain ⟨n83, rfl⟩ := g_z_nar e83
            obtain ⟨rfl, rfl⟩ := Prod.mk.inj (Option.some.inj h)
            exact g_zret hx hb hr hlocks hK hlo hG n83 ⟨rfl, rfl⟩ dX4_readStatement_83
        · rw [if_neg c58] at h
          refine lv_aload_n hx hb dX4_readStatement_61 rfl (lv_at hl 0 rfl) ?_
          refine lv_aload_n hx hb dX4_readStatement_62 rfl (lv_at hl 1 rfl) ?_
          refine lv_aload_n hx hb dX4_readStatement_63 rfl (lv_at hl 2 rfl) ?_
          obtain ⟨u64, i64, h⟩ := Option.bind_eq_some_iff.mp h
          obtain ⟨q64, e64, h⟩ := Option.bind_eq_some_iff.mp h
          refine g_cVi (As := [.ref a1, .ref a2]) (rest := []) (n := 2) hx hb hml hown hts hK hlo hG (m_X4_readErase l dd cT lo G a0 a1 a2 e64) qM_X4_99 qI_yX4_readErase qS_X4_yX4_readErase qN_X4 qC_yX4_readErase (by decide +kernel) ⟨Nat.le_of_ble_eq_true rfl, Nat.le_of_ble_eq_true rfl⟩ (by rfl) i64 rfl hl.1 rfl (Nat.le_of_ble_eq_true rfl) dX4_readStatement_64 ⟨Nat.le_of_ble_eq_true rfl, Nat.le_of_ble_eq_true rfl⟩ (fun H locs hG => ?_)
          obtain ⟨w67, e67, h⟩ := Option.bind_eq_some_iff.mp h
          obtain ⟨n67, rfl⟩ := g_z_nar e67
          obtain ⟨rfl, rfl⟩ := Prod.mk.inj (Option.some.inj h)
          exact g_zret hx hb hr hlocks hK hlo hG n67 ⟨rfl, rfl⟩ dX4_readStatement_67
      · rw [if_neg c41] at h
        refine lv_aload_n hx hb dX4_readStatement_44 rfl (lv_at hl 0 rfl) ?_
        refine lv_aload_n hx hb dX4_readStatement_45 rfl (lv_at hl 1 rfl) ?_
        refine lv_aload_n hx hb dX4_readStatement_46 rfl (lv_at hl 2 rfl) ?_
        obtain ⟨u47, i47, h⟩ := Option.bind_eq_some_iff.mp h
        obtain ⟨q47, e47, h⟩ := Option.bind_eq_some_iff.mp h
        refine g_cVi (As := [.ref a1, .ref a2]) (rest := []) (n := 2) hx hb hml hown hts hK hlo hG (m_X4_readWrite l dd cT lo G a0 a1 a2 e47) qM_X4_94 qI_yX4_readWrite qS_X4_yX4_readWrite qN_X4 qC_yX4_readWrite (by decide +kernel) ⟨Nat.le_of_ble_eq_true rfl, Nat.le_of_ble_eq_true rfl⟩ (by rfl) i47 rfl hl.1 rfl (Nat.le_of_ble_eq_true rfl) dX4_readStatement_47 ⟨Nat.le_of_ble_eq_true rfl, Nat.le_of_ble_eq_true rfl⟩ (fun H locs hG => ?_)
        obtain ⟨w50, e50, h⟩ := Option.bind_eq_some_iff.mp h
        obtain ⟨n50, rfl⟩ := g_z_nar e50
        obtain ⟨rfl, rfl⟩ := Prod.mk.inj (Option.some.inj h)
        exact g_zret hx hb hr hlocks hK hlo hG n50 ⟨rfl, rfl⟩ dX4_readStatement_50
    · rw [if_neg c24] at h
      refine lv_aload_n hx hb dX4_readStatement_27 rfl (lv_at hl 0 rfl) ?_
      refine lv_aload_n hx hb dX4_readStatement_28 rfl (lv_at hl 1 rfl) ?_
      refine lv_aload_n hx hb dX4_readStatement_29 rfl (lv_at hl 2 rfl) ?_
      obtain ⟨u30, i30, h⟩ := Option.bind_eq_some_iff.mp h
      obtain ⟨q30, e30, h⟩ := Option.bind_eq_some_iff.mp h
      refine g_cVi (As := [.ref a1, .ref a2]) (rest := []) (n := 2) hx hb hml hown hts hK hlo hG (m_X4_readNewFile l dd cT lo G a0 a1 a2 e30) qM_X4_89 qI_yX4_readNewFile qS_X4_yX4_readNewFile qN_X4 qC_yX4_readNewFile (by decide +kernel) ⟨Nat.le_of_ble_eq_true rfl, Nat.le_of_ble_eq_true rfl⟩ (by rfl) i30 rfl hl.1 rfl (Nat.le_of_ble_eq_true rfl) dX4_readStatement_30 ⟨Nat.le_of_ble_eq_true rfl, Nat.le_of_ble_eq_true rfl⟩ (fun H locs hG => ?_)
      obtain ⟨w33, e33, h⟩ := Option.bind_eq_some_iff.mp h
      obtain ⟨n33, rfl⟩ := g_z_nar e33
      obtain ⟨rfl, rfl⟩ := Prod.mk.inj (Option.some.inj h)
      exact g_zret hx hb hr hlocks hK hlo hG n33 ⟨rfl, rfl⟩ dX4_readStatement_33
  · rw [if_neg c7] at h
    refine lv_aload_n hx hb dX4_readStatement_10 rfl (lv_at hl 0 rfl) ?_
    refine lv_aload_n hx hb dX4_readStatement_11 rfl (lv_at hl 1 rfl) ?_
    refine lv_aload_n hx hb dX4_readStatement_12 rfl (lv_at hl 2 rfl) ?_
    obtain ⟨u13, i13, h⟩ := Option.bind_eq_some_iff.mp h
    obtain ⟨q13, e13, h⟩ := Option.bind_eq_some_iff.mp h
    refine g_cVi (As := [.ref a1, .ref a2]) (rest := []) (n := 2) hx hb hml hown hts hK hlo hG (m_X4_readBad l dd cT lo G a0 a1 a2 e13) qM_X4_84 qI_yX4_readBad qS_X4_yX4_readBad qN_X4 qC_yX4_readBad (by decide +kernel) ⟨Nat.le_of_ble_eq_true rfl, Nat.le_of_ble_eq_true rfl⟩ (by rfl) i13 rfl hl.1 rfl (Nat.le_of_ble_eq_true rfl) dX4_readStatement_13 ⟨Nat.le_of_ble_eq_true rfl, Nat.le_of_ble_eq_true rfl⟩ (fun H locs hG => ?_)
    obtain ⟨w16, e16, h⟩ := Option.bind_eq_some_iff.mp h
    obtain ⟨n16, rfl⟩ := g_z_nar e16
    obtain ⟨rfl, rfl⟩ := Prod.mk.inj (Option.some.inj h)
    exact g_zret hx hb hr hlocks hK hlo hG n16 ⟨rfl, rfl⟩ dX4_readStatement_16
def f_X4_readStatements_J51 (k10 : gH → Nat → Nat → Nat → Int32 → Int32 → Option gH) (G : gH) (ba0 : Nat) (ba1 : Nat) (ba2 : Nat) (bx4 : Int32) (z0 : Int32) : Option gH :=
    if z0 = 0 then
    k10 G ba0 ba1 ba2 z0 (bx4 + (1 : Int32))
    else
    (g_ob G ba0 4).bind fun u58 =>
    (f_X4_advance G ba0 ba1).bind fun G58 =>
    k10 G58 ba0 ba1 ba2 z0 (bx4 + (1 : Int32))
def f_X4_readStatements_L10 : Nat → gH → Nat → Nat → Nat → Int32 → Int32 → Option gH
  | 0, _, _, _, _, _, _ => none
  | n + 1, G, ba0, ba1, ba2, bx3, bx4 =>
    if (600 : Int32) ≤ bx4 then
    some G
    else
    if bx3 = 0 then
    some G
    else
    (g_i G ba0 4 3).bind fun v23 =>
    if v23 = 0 then
    some G
    else
    (g_ob G ba0 4).bind fun u32 =>
    (f_X4_readStatement G ba0 ba1 ba2).bind fun q32 =>
    if q32.2 = 0 then
    f_X4_readStatements_J51 (f_X4_readStatements_L10 n) q32.1 ba0 ba1 ba2 bx4 (0 : Int32)
    else
    (g_ob q32.1 ba0 4).bind fun u40 =>
    (f_X4_readSemicolon q32.1 ba0 ba1).bind fun q40 =>
    if q40.2 = 0 then
    f_X4_readStatements_J51 (f_X4_readStatements_L10 n) q40.1 ba0 ba1 ba2 bx4 (0 : Int32)
    else
    f_X4_readStatements_J51 (f_X4_readStatements_L10 n) q40.1 ba0 ba1 ba2 bx4 (1 : Int32)
def f_X4_readStatements (G : gH) (a0 : Nat) (a1 : Nat) (a2 : Nat) : Option gH :=
    (g_ob G a0 4).bind fun u4 =>
    (f_X4_advance G a0 a1).bind fun G4 =>
    f_X4_readStatements_L10 g_N G4 a0 a1 a2 (1 : Int32) (0 : Int32)
set_option maxRecDepth 20000 in
set_option maxHeartbeats 4000000 in
theorem m_X4_readStatements (l : Launch) (dd : va_G) (cT : Nat → ClassId) (lo : Nat) (G : gH) (a0 : Nat) (a1 : Nat) (a2 : Nat) {Gz : gH} (h : f_X4_readStatements G a0 a1 a2 = some Gz) : Met l yX4_readStatements (Cond.code yX4_readStatements cX4_readStatements 5 none :: wsL_law) (g_rm 10 224 0 0) (va_Pc [.ref a0, .ref a1, .ref a2] (g_Pre lo dd cT G)) (va_Qv (g_iv Gz) (g_Pre lo dd cT) (g_A lo)) 0 0 (g_A lo) := by
  refine g_start RX4 rfl (by decide) (Nat.le_of_ble_eq_true rfl) ?_
  intro p e s m below meth c hx hb hr hlocks hml hown hnm hts hK hG hlo ls hl
  have hl : lv_has ls 5 [(0, .ref a0), (1, .ref a1), (2, .ref a2)] := hl
  have hG : g_S lo dd cT s s.heap [] G := hG
  have h10 : ∀ n : Nat, ∀ (G : gH) (ba0 : Nat) (ba1 : Nat) (ba2 : Nat) (bx3 : Int32) (bx4 : Int32), ∀ (H : Heap) (locs : List Loc), g_S lo dd cT s H locs G → ∀ ls : Array Slot, lv_has ls 5 [(0, .ref ba0), (1, .ref ba1), (2, .ref ba2), (3, .int bx3), (4, .int bx4)] → f_X4_readStatements_L10 n G ba0 ba1 ba2 bx3 bx4 = some Gz → W p l e (g_rm 10 224 0 0) s m ([.ref a0, .ref a1, .ref a2] : List Value).toArray below meth c H locs 0 0 (MQ below (va_Qv (g_iv Gz) (g_Pre lo dd cT) (g_A lo)) ([.ref a0, .ref a1, .ref a2] : List Value).toArray s 0 0 (g_A lo)) (F0 m 10 ls []) := by
    intro n
    induction n with
    | zero =>
      intro G ba0 ba1 ba2 bx3 bx4 H locs hG ls hl h
      cases (show (none : Option gH) = some Gz from h)
    | succ n ih =>
      intro G ba0 ba1 ba2 bx3 bx4 H locs hG ls hl h
      rw [f_X4_readStatements_L10] at h
      have h51 : ∀ (G : gH) (ba0 : Nat) (ba1 : Nat) (ba2 : Nat) (bx4 : Int32) (z0 : Int32), ∀ (H : Heap) (locs : List Loc), g_S lo dd cT s H locs G → ∀ ls : Array Slot, lv_has ls 5 [(0, .ref ba0), (1, .ref ba1), (2, .ref ba2), (4, .int bx4)] → f_X4_readStatements_J51 (f_X4_readStatements_L10 n) G ba0 ba1 ba2 bx4 z0 = some Gz → W p l e (g_rm 10 224 0 0) s m ([.ref a0, .ref a1, .ref a2] : List Value).toArray below meth c H locs 0 0 (MQ below (va_Qv (g_iv Gz) (g_Pre lo dd cT) (g_A lo)) ([.ref a0, .ref a1, .ref a2] : List Value).toArray s 0 0 (g_A lo)) (F0 m 51 ls [.int z0]) := by
        intro G ba0 ba1 ba2 bx4 z0 H locs hG ls hl h
        unfold f_X4_readStatements_J51 at h
        refine lv_istore_n (lv' := [(3, .int z0), (0, .ref ba0), (1, .ref ba1), (2, .ref ba2), (4, .int bx4)]) hx hb dX4_readStatements_51 rfl hl (by decide) rfl (fun ls hl => ?_)
        refine lv_iload_n hx hb dX4_readStatements_52 rfl (lv_at hl 0 rfl) ?_
        refine lv_if_eq (tgt := 61) hx hb dX4_readStatements_53 (by decide) (fun c53 => ?_) (fun c53 => ?_)
        · rw [if_pos c53] at h
          refine lv_iinc (v := (bx4 + (1 : Int32))) (lv' := [(4, .int (bx4 + (1 : Int32))), (3, .int z0), (0, .ref ba0), (1, .ref ba1), (2, .ref ba2)]) hx hb dX4_readStatements_61 hl (k := 4) rfl rfl (by decide) rfl (fun ls hl => ?_)
          refine lv_goto (tgt := 10) hx hb dX4_readStatements_64 (by decide) ?_
          exact ih G ba0 ba1 ba2 z0 (bx4 + (1 : Int32)) _ _ hG _ (lv_sub hl [2, 3, 4, 1, 0] rfl) h
        · rw [if_neg c53] at h
          refine lv_aload_n hx hb dX4_readStatements_56 rfl (lv_at hl 1 rfl) ?_
          refine lv_aload_n hx hb dX4_readStatements_57 rfl (lv_at hl 2 rfl) ?_
          obtain ⟨u58, i58, h⟩ := Option.bind_eq_some_iff.mp h
          obtain ⟨G58, e58, h⟩ := Option.bind_eq_some_iff.mp h
          refine g_cVv (As := [.ref ba1]) (rest := []) (n := 1) hx hb hml hown hts hK hlo hG (m_X4_advance l dd cT lo G ba0 ba1 e58) qM_X4_45 qI_yX4_advance qS_X4_yX4_advance qN_X4 qC_yX4_advance (by decide +kernel) ⟨Nat.le_of_ble_eq_true rfl, Nat.le_of_ble_eq_true rfl⟩ (by rfl) i58 rfl hl.1 rfl (Nat.le_of_ble_eq_true rfl) dX4_readStatements_58 ⟨Nat.le_of_ble_eq_true rfl, Nat.le_of_ble_eq_true rfl⟩ (fun H locs hG => ?_)
          refine lv_iinc (v := (bx4 + (1 : Int32))) (lv' := [(4, .int (bx4 + (1 : Int32))), (3, .int z0), (0, .ref ba0), (1, .ref ba1), (2, .ref ba2)]) hx hb dX4_readStatements_61 hl (k := 4) rfl rfl (by decide) rfl (fun ls hl => ?_)
          refine lv_goto (tgt := 10) hx hb dX4_readStatements_64 (by decide) ?_
          exact ih G58 ba0 ba1 ba2 z0 (bx4 + (1 : Int32)) _ _ hG _ (lv_sub hl [2, 3, 4, 1, 0] rfl) h
      refine lv_iload hx hb dX4_readStatements_10 (lv_at hl 4 rfl) ?_
      refine lv_sipush (v := (600 : Int32)) hx hb dX4_readStatements_12 (by decide) ?_
      refine lv_icmp_ge (tgt := 67) hx hb dX4_readStatements_15 (by decide) (fun c15 => ?_) (fun c15 => ?_)
      · rw [if_pos c15] at h
        obtain rfl := Option.some.inj h
        exact g_vret hx hb hr hlocks hK hlo hG rfl dX4_readStatements_67
      · rw [if_neg c15] at h
        refine lv_iload_n hx hb dX4_readStatements_18 rfl (lv_at hl 3 rfl) ?_
        refine lv_if_eq (tgt := 67) hx hb dX4_readStatements_19 (by decide) (fun c19 => ?_) (fun c19 => ?_)
        · rw [if_pos c19] at h
          obtain rfl := Option.some.inj h
          exact g_vret hx hb hr hlocks hK hlo hG rfl dX4_readStatements_67
        · rw [if_neg c19] at h
          refine lv_aload_n hx hb dX4_readStatements_22 rfl (lv_at hl 0 rfl) ?_
          obtain ⟨v23, e23, h⟩ := Option.bind_eq_some_iff.mp h
          refine g_geti hx hb hts inlX4 hown hK hG (by rfl) 3 (by decide) qF_X4_21 e23 dX4_readStatements_23 ?_
          refine lv_if_eq (tgt := 67) hx hb dX4_readStatements_26 (by decide) (fun c26 => ?_) (fun c26 => ?_)
          · rw [if_pos c26] at h
            obtain rfl := Option.some.inj h
            exact g_vret hx hb hr hlocks hK hlo hG rfl dX4_readStatements_67
          · rw [if_neg c26] at h
            refine lv_aload_n hx hb dX4_readStatements_29 rfl (lv_at hl 0 rfl) ?_
            refine lv_aload_n hx hb dX4_readStatements_30 rfl (lv_at hl 1 rfl) ?_
            refine lv_aload_n hx hb dX4_readStatements_31 rfl (lv_at hl 2 rfl) ?_
            obtain ⟨u32, i32, h⟩ := Option.bind_eq_some_iff.mp h
            obtain ⟨q32, e32, h⟩ := Option.bind_eq_some_iff.mp h
            refine g_cVi (As := [.ref ba1, .ref ba2]) (rest := []) (n := 2) hx hb hml hown hts hK hlo hG (m_X4_readStatement l dd cT lo G ba0 ba1 ba2 e32) qM_X4_79 qI_yX4_readStatement qS_X4_yX4_readStatement qN_X4 qC_yX4_readStatement (by decide +kernel) ⟨Nat.le_of_ble_eq_true rfl, Nat.le_of_ble_eq_true rfl⟩ (by rfl) i32 rfl hl.1 rfl (Nat.le_of_ble_eq_true rfl) dX4_readStatements_32 ⟨Nat.le_of_ble_eq_true rfl, Nat.le_of_ble_eq_true rfl⟩ (fun H locs hG => ?_)
            refine lv_if_eq (tgt := 50) hx hb dX4_readStatements_35 (by decide) (fun c35 => ?_) (fun c35 => ?_)
            · rw [if_pos c35] at h
              refine lv_iconst (v := (0 : Int32)) hx hb dX4_readStatements_50 (by decide) ?_
              exact h51 q32.1 ba0 ba1 ba2 bx4 (0 : Int32) _ _ hG _ (lv_sub hl [0, 1, 2, 4] rfl) h
            · rw [if_neg c35] at h
              refine lv_aload_n hx hb dX4_readStatements_38 rfl (lv_at hl 0 rfl) ?_
              refine lv_aload_n hx hb dX4_readStatements_39 rfl (lv_at hl 1 rfl) ?_
              obtain ⟨u40, i40, h⟩ := Option.bind_eq_some_iff.mp h
              obtain ⟨q40, e40, h⟩ := Option.bind_eq_some_iff.mp h
              refine g_cVi (As := [.ref ba1]) (rest := []) (n := 1) hx hb hml hown hts hK hlo hG (m_X4_readSemicolon l dd cT lo q32.1 ba0 ba1 e40) qM_X4_75 qI_yX4_readSemicolon qS_X4_yX4_readSemicolon qN_X4 qC_yX4_readSemicolon (by decide +kernel) ⟨Nat.le_of_ble_eq_true rfl, Nat.le_of_ble_eq_true rfl⟩ (by rfl) i40 rfl hl.1 rfl (Nat.le_of_ble_eq_true rfl) dX4_readStatements_40 ⟨Nat.le_of_ble_eq_true rfl, Nat.le_of_ble_eq_true rfl⟩ (fun H locs hG => ?_)
              refine lv_if_eq (tgt := 50) hx hb dX4_readStatements_43 (by decide) (fun c43 => ?_) (fun c43 => ?_)
              · rw [if_pos c43] at h
                refine lv_iconst (v := (0 : Int32)) hx hb dX4_readStatements_50 (by decide) ?_
                exact h51 q40.1 ba0 ba1 ba2 bx4 (0 : Int32) _ _ hG _ (lv_sub hl [0, 1, 2, 4] rfl) h
              · rw [if_neg c43] at h
                refine lv_iconst (v := (1 : Int32)) hx hb dX4_readStatements_46 (by decide) ?_
                refine lv_goto (tgt := 51) hx hb dX4_readStatements_47 (by decide) ?_
                exact h51 q40.1 ba0 ba1 ba2 bx4 (1 : Int32) _ _ hG _ (lv_sub hl [0, 1, 2, 4] rfl) h
  unfold f_X4_readStatements at h
  refine lv_iconst (v := (1 : Int32)) hx hb dX4_readStatements_0 (by decide) ?_
  refine lv_istore_n (lv' := [(3, .int (1 : Int32)), (0, .ref a0), (1, .ref a1), (2, .ref a2)]) hx hb dX4_readStatements_1 rfl hl (by decide) rfl (fun ls hl => ?_)
  refine lv_aload_n hx hb dX4_readStatements_2 rfl (lv_at hl 1 rfl) ?_
  refine lv_aload_n hx hb dX4_readStatements_3 rfl (lv_at hl 2 rfl) ?_
  obtain ⟨u4, i4, h⟩ := Option.bind_eq_some_iff.mp h
  obtain ⟨G4, e4, h⟩ := Option.bind_eq_some_iff.mp h
  refine g_cVv (As := [.ref a1]) (rest := []) (n := 1) hx hb hml hown hts hK hlo hG (m_X4_advance l dd cT lo G a0 a1 e4) qM_X4_45 qI_yX4_advance qS_X4_yX4_advance qN_X4 qC_yX4_advance (by decide +kernel) ⟨Nat.le_of_ble_eq_true rfl, Nat.le_of_ble_eq_true rfl⟩ (by rfl) i4 rfl hl.1 rfl (Nat.le_of_ble_eq_true rfl) dX4_readStatements_4 ⟨Nat.le_of_ble_eq_true rfl, Nat.le_of_ble_eq_true rfl⟩ (fun H locs hG => ?_)
  refine lv_iconst (v := (0 : Int32)) hx hb dX4_readStatements_7 (by decide) ?_
  refine lv_istore (lv' := [(4, .int (0 : Int32)), (3, .int (1 : Int32)), (0, .ref a0), (1, .ref a1), (2, .ref a2)]) hx hb dX4_readStatements_8 hl (by decide) rfl (fun ls hl => ?_)
  exact h10 g_N G4 a0 a1 a2 (1 : Int32) (0 : Int32) _ _ hG _ (lv_sub hl [2, 3, 4, 1, 0] rfl) h
def f_X4_readText (G : gH) (a0 : Nat) (a1 : Nat) (x2 : Int32) (a3 : Nat) : Option (gH × Int32) :=
    (g_put G a0 4 0 (.int (-1 : Int32))).bind fun G2 =>
    (g_put G2 a0 4 1 (.int (0 : Int32))).bind fun G7 =>
    (g_put G7 a0 4 2 (.int x2)).bind fun G12 =>
    (g_put G12 a0 4 5 (.int (0 : Int32))).bind fun G17 =>
    (g_ob G17 a0 4).bind fun u23 =>
    (f_X4_readHead G17 a0 a1 a3).bind fun q23 =>
    if q23.2 = 0 then
    (g_i q23.1 a0 4 1).bind fun v36 =>
    some (q23.1, v36)
    else
    (g_ob q23.1 a0 4).bind fun u32 =>
    (f_X4_readStatements q23.1 a0 a1 a3).bind fun G32 =>
    (g_i G32 a0 4 1).bind fun v36 =>
    some (G32, v36)
set_option maxRecDepth 20000 in
set_option maxHeartbeats 4000000 in
theorem m_X4_readText (l : Launch) (dd : va_G) (cT : Nat → ClassId) (lo : Nat) (G : gH) (a0 : Nat) (a1 : Nat) (x2 : Int32) (a3 : Nat) {rz : Int32} {Gz : gH} (h : f_X4_readText G a0 a1 x2 a3 = some (Gz, rz)) : Met l yX4_readText (Cond.code yX4_readText cX4_readText 4 (some .int) :: wsL_law) (g_rm 11 248 0 0) (va_Pc [.ref a0, .ref a1, .int x2, .ref a3] (g_Pre lo dd cT G)) (va_Qi (g_is rz Gz) (g_Pre lo dd cT) (g_A lo)) 0 0 (g_A lo) := by
  refine g_start RX4 rfl (by decide) (Nat.le_of_ble_eq_true rfl) ?_
  intro p e s m below meth c hx hb hr hlocks hml hown hnm hts hK hG hlo ls hl
  have hl : lv_has ls 4 [(0, .ref a0), (1, .ref a1), (2, .int x2), (3, .ref a3)] := hl
  have hG : g_S lo dd cT s s.heap [] G := hG
  unfold f_X4_readText at h
  refine lv_aload_n hx hb dX4_readText_0 rfl (lv_at hl 0 rfl) ?_
  refine lv_iconst (v := (-1 : Int32)) hx hb dX4_readText_1 (by decide) ?_
  obtain ⟨G2, i2, h⟩ := Option.bind_eq_some_iff.mp h
  refine g_putv hx hb hts inlX4 tyX4 tyX4_ok nmX4 hown hK hG (by rfl) 0 (by decide) qF_X4_9 rfl rfl rfl rfl i2 dX4_readText_2 (fun H locs hG => ?_)
  refine lv_aload_n hx hb dX4_readText_5 rfl (lv_at hl 0 rfl) ?_
  refine lv_iconst (v := (0 : Int32)) hx hb dX4_readText_6 (by decide) ?_
  obtain ⟨G7, i7, h⟩ := Option.bind_eq_some_iff.mp h
  refine g_putv hx hb hts inlX4 tyX4 tyX4_ok nmX4 hown hK hG (by rfl) 1 (by decide) qF_X4_15 rfl rfl rfl rfl i7 dX4_readText_7 (fun H locs hG => ?_)
  refine lv_aload_n hx hb dX4_readText_10 rfl (lv_at hl 0 rfl) ?_
  refine lv_iload_n hx hb dX4_readText_11 rfl (lv_at hl 2 rfl) ?_
  obtain ⟨G12, i12, h⟩ := Option.bind_eq_some_iff.mp h
  refine g_putv hx hb hts inlX4 tyX4 tyX4_ok nmX4 hown hK hG (by rfl) 2 (by decide) qF_X4_18 rfl rfl rfl rfl i12 dX4_readText_12 (fun H locs hG => ?_)
  refine lv_aload_n hx hb dX4_readText_15 rfl (lv_at hl 0 rfl) ?_
  refine lv_iconst (v := (0 : Int32)) hx hb dX4_readText_16 (by decide) ?_
  obtain ⟨G17, i17, h⟩ := Option.bind_eq_some_iff.mp h
  refine g_putv hx hb hts inlX4 tyX4 tyX4_ok nmX4 hown hK hG (by rfl) 5 (by decide) qF_X4_27 rfl rfl rfl rfl i17 dX4_readText_17 (fun H locs hG => ?_)
  refine lv_aload_n hx hb dX4_readText_20 rfl (lv_at hl 0 rfl) ?_
  refine lv_aload_n hx hb dX4_readText_21 rfl (lv_at hl 1 rfl) ?_
  refine lv_aload_n hx hb dX4_readText_22 rfl (lv_at hl 3 rfl) ?_
  obtain ⟨u23, i23, h⟩ := Option.bind_eq_some_iff.mp h
  obtain ⟨q23, e23, h⟩ := Option.bind_eq_some_iff.mp h
  refine g_cVi (As := [.ref a1, .ref a3]) (rest := []) (n := 2) hx hb hml hown hts hK hlo hG (m_X4_readHead l dd cT lo G17 a0 a1 a3 e23) qM_X4_37 qI_yX4_readHead qS_X4_yX4_readHead qN_X4 qC_yX4_readHead (by decide +kernel) ⟨Nat.le_of_ble_eq_true rfl, Nat.le_of_ble_eq_true rfl⟩ (by rfl) i23 rfl hl.1 rfl (Nat.le_of_ble_eq_true rfl) dX4_readText_23 ⟨Nat.le_of_ble_eq_true rfl, Nat.le_of_ble_eq_true rfl⟩ (fun H locs hG => ?_)
  refine lv_if_eq (tgt := 35) hx hb dX4_readText_26 (by decide) (fun c26 => ?_) (fun c26 => ?_)
  · rw [if_pos c26] at h
    refine lv_aload_n hx hb dX4_readText_35 rfl (lv_at hl 0 rfl) ?_
    obtain ⟨v36, e36, h⟩ := Option.bind_eq_some_iff.mp h
    refine g_geti hx hb hts inlX4 hown hK hG (by rfl) 1 (by decide) qF_X4_15 e36 dX4_readText_36 ?_
    obtain ⟨rfl, rfl⟩ := Prod.mk.inj (Option.some.inj h)
    exact g_iret hx hb hr hlocks hK hlo hG ⟨rfl, rfl⟩ dX4_readText_39
  · rw [if_neg c26] at h
    refine lv_aload_n hx hb dX4_readText_29 rfl (lv_at hl 0 rfl) ?_
    refine lv_aload_n hx hb dX4_readText_30 rfl (lv_at hl 1 rfl) ?_
    refine lv_aload_n hx hb dX4_readText_31 rfl (lv_at hl 3 rfl) ?_
    obtain ⟨u32, i32, h⟩ := Option.bind_eq_some_iff.mp h
    obtain ⟨G32, e32, h⟩ := Option.bind_eq_some_iff.mp h
    refine g_cVv (As := [.ref a1, .ref a3]) (rest := []) (n := 2) hx hb hml hown hts hK hlo hG (m_X4_readStatements l dd cT lo q23.1 a0 a1 a3 e32) qM_X4_41 qI_yX4_readStatements qS_X4_yX4_readStatements qN_X4 qC_yX4_readStatements (by decide +kernel) ⟨Nat.le_of_ble_eq_true rfl, Nat.le_of_ble_eq_true rfl⟩ (by rfl) i32 rfl hl.1 rfl (Nat.le_of_ble_eq_true rfl) dX4_readText_32 ⟨Nat.le_of_ble_eq_true rfl, Nat.le_of_ble_eq_true rfl⟩ (fun H locs hG => ?_)
    refine lv_aload_n hx hb dX4_readText_35 rfl (lv_at hl 0 rfl) ?_
    obtain ⟨v36, e36, h⟩ := Option.bind_eq_some_iff.mp h
    refine g_geti hx hb hts inlX4 hown hK hG (by rfl) 1 (by decide) qF_X4_15 e36 dX4_readText_36 ?_
    obtain ⟨rfl, rfl⟩ := Prod.mk.inj (Option.some.inj h)
    exact g_iret hx hb hr hlocks hK hlo hG ⟨rfl, rfl⟩ dX4_readText_39

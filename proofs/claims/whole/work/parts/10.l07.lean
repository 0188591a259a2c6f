/-! Lifted methods, by program (wip/whole/tools/lift.py). -/
def f_X1_writeVersion_L37 : Nat → gH → Nat → Int32 → Int32 → Int32 → Int32 → Int32 → Option (gH × Int32)
  | 0, _, _, _, _, _, _, _ => none
  | n + 1, G, ba0, bx1, bx2, bx4, bx5, bx6 =>
    if bx2 ≤ bx6 then
    (g_r G ba0 1 2).bind fun v64 =>
    (g_ob G v64 5).bind fun u70 =>
    (f_X5_enter G v64 bx1 bx5).bind fun G70 =>
    some (G70, bx5)
    else
    (g_r G ba0 1 0).bind fun v44 =>
    (g_ob G v44 0).bind fun u54 =>
    (f_X0_writeNext G v44 (1 : Int32) bx4 bx5 bx6).bind fun G54 =>
    f_X1_writeVersion_L37 n G54 ba0 bx1 bx2 bx4 bx5 (bx6 + (1 : Int32))
def f_X1_writeVersion (G : gH) (a0 : Nat) (x1 : Int32) (x2 : Int32) (x3 : Int32) : Option (gH × Int32) :=
    (g_ob G a0 1).bind fun u1 =>
    (f_X1_beginIfNeeded G a0).bind fun G1 =>
    (g_r G1 a0 1 2).bind fun v5 =>
    (g_ob G1 v5 5).bind fun u8 =>
    (f_X5_latest G1 v5).bind fun v8 =>
    (g_r G1 a0 1 1).bind fun v14 =>
    (g_r G1 a0 1 0).bind fun v19 =>
    (g_i G1 v19 0 2).bind fun v22 =>
    (g_ob G1 v14 7).bind fun u29 =>
    (f_X7_add G1 v14 x1 v22 x2 x3 v8).bind fun q29 =>
    f_X1_writeVersion_L37 g_N q29.1 a0 x1 x2 v8 q29.2 (0 : Int32)
set_option maxRecDepth 20000 in
set_option maxHeartbeats 4000000 in
theorem m_X1_writeVersion (l : Launch) (dd : va_G) (cT : Nat → ClassId) (lo : Nat) (G : gH) (a0 : Nat) (x1 : Int32) (x2 : Int32) (x3 : Int32) {rz : Int32} {Gz : gH} (h : f_X1_writeVersion G a0 x1 x2 x3 = some (Gz, rz)) : Met l yX1_writeVersion (Cond.code yX1_writeVersion cX1_writeVersion 7 (some .int) :: wsL_law) (g_rm 4 91 0 0) (va_Pc [.ref a0, .int x1, .int x2, .int x3] (g_Pre lo dd cT G)) (va_Qi (g_is rz Gz) (g_Pre lo dd cT) (g_A lo)) 0 0 (g_A lo) := by
  refine g_start RX1 rfl (by decide) (Nat.le_of_ble_eq_true rfl) ?_
  intro p e s m below meth c hx hb hr hlocks hml hown hnm hts hK hG hlo ls hl
  have hl : lv_has ls 7 [(0, .ref a0), (1, .int x1), (2, .int x2), (3, .int x3)] := hl
  have hG : g_S lo dd cT s s.heap [] G := hG
  have h37 : ∀ n : Nat, ∀ (G : gH) (ba0 : Nat) (bx1 : Int32) (bx2 : Int32) (bx4 : Int32) (bx5 : Int32) (bx6 : Int32), ∀ (H : Heap) (locs : List Loc), g_S lo dd cT s H locs G → ∀ ls : Array Slot, lv_has ls 7 [(0, .ref ba0), (1, .int bx1), (2, .int bx2), (4, .int bx4), (5, .int bx5), (6, .int bx6)] → f_X1_writeVersion_L37 n G ba0 bx1 bx2 bx4 bx5 bx6 = some (Gz, rz) → W p l e (g_rm 4 91 0 0) s m ([.ref a0, .int x1, .int x2, .int x3] : List Value).toArray below meth c H locs 0 0 (MQ below (va_Qi (g_is rz Gz) (g_Pre lo dd cT) (g_A lo)) ([.ref a0, .int x1, .int x2, .int x3] : List Value).toArray s 0 0 (g_A lo)) (F0 m 37 ls []) := by
    intro n
    induction n with
    | zero =>
      intro G ba0 bx1 bx2 bx4 bx5 bx6 H locs hG ls hl h
      cases (show (none : Option (gH × Int32)) = some (Gz, rz) from h)
    | succ n ih =>
      intro G ba0 bx1 bx2 bx4 bx5 bx6 H locs hG ls hl h
      rw [f_X1_writeVersion_L37] at h
      refine lv_iload hx hb dX1_writeVersion_37 (lv_at hl 5 rfl) ?_
      refine lv_iload_n hx hb dX1_writeVersion_39 rfl (lv_at hl 2 rfl) ?_
      refine lv_icmp_ge (tgt := 63) hx hb dX1_writeVersion_40 (by decide) (fun c40 => ?_) (fun c40 => ?_)
      · rw [if_pos c40] at h
        refine lv_aload_n hx hb dX1_writeVersion_63 rfl (lv_at hl 0 rfl) ?_
        obtain ⟨v64, e64, h⟩ := Option.bind_eq_some_iff.mp h
        refine g_getr hx hb hts inlX1 hown hK hG (by rfl) 2 (by decide) qF_X1_28 e64 dX1_writeVersion_64 ?_
        refine lv_iload_n hx hb dX1_writeVersion_67 rfl (lv_at hl 1 rfl) ?_
        refine lv_iload hx hb dX1_writeVersion_68 (lv_at hl 4 rfl) ?_
        obtain ⟨u70, i70, h⟩ := Option.bind_eq_some_iff.mp h
        obtain ⟨G70, e70, h⟩ := Option.bind_eq_some_iff.mp h
        refine g_cVv (As := [.int bx1, .int bx5]) (rest := []) (n := 2) hx hb hml hown hts hK hlo hG (m_X5_enter l dd cT lo G v64 bx1 bx5 e70) qM_X1_225 qI_yX5_enter qS_X5_yX5_enter qN_X5 qC_yX5_enter (by decide +kernel) ⟨Nat.le_of_ble_eq_true rfl, Nat.le_of_ble_eq_true rfl⟩ (by rfl) i70 rfl hl.1 rfl (Nat.le_of_ble_eq_true rfl) dX1_writeVersion_70 ⟨Nat.le_of_ble_eq_true rfl, Nat.le_of_ble_eq_true rfl⟩ (fun H locs hG => ?_)
        refine lv_iload hx hb dX1_writeVersion_73 (lv_at hl 4 rfl) ?_
        obtain ⟨rfl, rfl⟩ := Prod.mk.inj (Option.some.inj h)
        exact g_iret hx hb hr hlocks hK hlo hG ⟨rfl, rfl⟩ dX1_writeVersion_75
      · rw [if_neg c40] at h
        refine lv_aload_n hx hb dX1_writeVersion_43 rfl (lv_at hl 0 rfl) ?_
        obtain ⟨v44, e44, h⟩ := Option.bind_eq_some_iff.mp h
        refine g_getr hx hb hts inlX1 hown hK hG (by rfl) 0 (by decide) qF_X1_12 e44 dX1_writeVersion_44 ?_
        refine lv_iconst (v := (1 : Int32)) hx hb dX1_writeVersion_47 (by decide) ?_
        refine lv_iload hx hb dX1_writeVersion_48 (lv_at hl 3 rfl) ?_
        refine lv_iload hx hb dX1_writeVersion_50 (lv_at hl 4 rfl) ?_
        refine lv_iload hx hb dX1_writeVersion_52 (lv_at hl 5 rfl) ?_
        obtain ⟨u54, i54, h⟩ := Option.bind_eq_some_iff.mp h
        obtain ⟨G54, e54, h⟩ := Option.bind_eq_some_iff.mp h
        refine g_cVv (As := [.int (1 : Int32), .int bx4, .int bx5, .int bx6]) (rest := []) (n := 4) hx hb hml hown hts hK hlo hG (m_X0_writeNext l dd cT lo G v44 (1 : Int32) bx4 bx5 bx6 e54) qM_X1_221 qI_yX0_writeNext qS_X0_yX0_writeNext qN_X0 qC_yX0_writeNext (by decide +kernel) ⟨Nat.le_of_ble_eq_true rfl, Nat.le_of_ble_eq_true rfl⟩ (by rfl) i54 rfl hl.1 rfl (Nat.le_of_ble_eq_true rfl) dX1_writeVersion_54 ⟨Nat.le_of_ble_eq_true rfl, Nat.le_of_ble_eq_true rfl⟩ (fun H locs hG => ?_)
        refine lv_iinc (v := (bx6 + (1 : Int32))) (lv' := [(6, .int (bx6 + (1 : Int32))), (0, .ref ba0), (1, .int bx1), (2, .int bx2), (4, .int bx4), (5, .int bx5)]) hx hb dX1_writeVersion_57 hl (k := 5) rfl rfl (by decide) rfl (fun ls hl => ?_)
        refine lv_goto (tgt := 37) hx hb dX1_writeVersion_60 (by decide) ?_
        exact ih G54 ba0 bx1 bx2 bx4 bx5 (bx6 + (1 : Int32)) _ _ hG _ (lv_sub hl [1, 2, 3, 4, 5, 0] rfl) h
  unfold f_X1_writeVersion at h
  refine lv_aload_n hx hb dX1_writeVersion_0 rfl (lv_at hl 0 rfl) ?_
  obtain ⟨u1, i1, h⟩ := Option.bind_eq_some_iff.mp h
  obtain ⟨G1, e1, h⟩ := Option.bind_eq_some_iff.mp h
  refine g_cVv (As := []) (rest := []) (n := 0) hx hb hml hown hts hK hlo hG (m_X1_beginIfNeeded l dd cT lo G a0 e1) qM_X1_211 qI_yX1_beginIfNeeded qS_X1_yX1_beginIfNeeded qN_X1 qC_yX1_beginIfNeeded (by decide +kernel) ⟨Nat.le_of_ble_eq_true rfl, Nat.le_of_ble_eq_true rfl⟩ (by rfl) i1 rfl hl.1 rfl (Nat.le_of_ble_eq_true rfl) dX1_writeVersion_1 ⟨Nat.le_of_ble_eq_true rfl, Nat.le_of_ble_eq_true rfl⟩ (fun H locs hG => ?_)
  refine lv_aload_n hx hb dX1_writeVersion_4 rfl (lv_at hl 0 rfl) ?_
  obtain ⟨v5, e5, h⟩ := Option.bind_eq_some_iff.mp h
  refine g_getr hx hb hts inlX1 hown hK hG (by rfl) 2 (by decide) qF_X1_28 e5 dX1_writeVersion_5 ?_
  obtain ⟨u8, i8, h⟩ := Option.bind_eq_some_iff.mp h
  obtain ⟨v8, e8, h⟩ := Option.bind_eq_some_iff.mp h
  refine g_cVi (As := []) (rest := []) (n := 0) hx hb hml hown hts hK hlo hG (m_X5_latest l dd cT lo G1 v5 e8) qM_X1_199 qI_yX5_latest qS_X5_yX5_latest qN_X5 qC_yX5_latest (by decide +kernel) ⟨Nat.le_of_ble_eq_true rfl, Nat.le_of_ble_eq_true rfl⟩ (by rfl) i8 rfl hl.1 rfl (Nat.le_of_ble_eq_true rfl) dX1_writeVersion_8 ⟨Nat.le_of_ble_eq_true rfl, Nat.le_of_ble_eq_true rfl⟩ (fun H locs hG => ?_)
  refine lv_istore (lv' := [(4, .int v8), (0, .ref a0), (1, .int x1), (2, .int x2), (3, .int x3)]) hx hb dX1_writeVersion_11 hl (by decide) rfl (fun ls hl => ?_)
  refine lv_aload_n hx hb dX1_writeVersion_13 rfl (lv_at hl 1 rfl) ?_
  obtain ⟨v14, e14, h⟩ := Option.bind_eq_some_iff.mp h
  refine g_getr hx hb hts inlX1 hown hK hG (by rfl) 1 (by decide) qF_X1_21 e14 dX1_writeVersion_14 ?_
  refine lv_iload_n hx hb dX1_writeVersion_17 rfl (lv_at hl 2 rfl) ?_
  refine lv_aload_n hx hb dX1_writeVersion_18 rfl (lv_at hl 1 rfl) ?_
  obtain ⟨v19, e19, h⟩ := Option.bind_eq_some_iff.mp h
  refine g_getr hx hb hts inlX1 hown hK hG (by rfl) 0 (by decide) qF_X1_12 e19 dX1_writeVersion_19 ?_
  obtain ⟨v22, e22, h⟩ := Option.bind_eq_some_iff.mp h
  refine g_geti hx hb hts inlX0 hown hK hG (by rfl) 2 (by decide) qF_X1_214 e22 dX1_writeVersion_22 ?_
  refine lv_iload_n hx hb dX1_writeVersion_25 rfl (lv_at hl 3 rfl) ?_
  refine lv_iload_n hx hb dX1_writeVersion_26 rfl (lv_at hl 4 rfl) ?_
  refine lv_iload hx hb dX1_writeVersion_27 (lv_at hl 0 rfl) ?_
  obtain ⟨u29, i29, h⟩ := Option.bind_eq_some_iff.mp h
  obtain ⟨q29, e29, h⟩ := Option.bind_eq_some_iff.mp h
  refine g_cVi (As := [.int x1, .int v22, .int x2, .int x3, .int v8]) (rest := []) (n := 5) hx hb hml hown hts hK hlo hG (m_X7_add l dd cT lo G1 v14 x1 v22 x2 x3 v8 e29) qM_X1_217 qI_yX7_add qS_X7_yX7_add qN_X7 qC_yX7_add (by decide +kernel) ⟨Nat.le_of_ble_eq_true rfl, Nat.le_of_ble_eq_true rfl⟩ (by rfl) i29 rfl hl.1 rfl (Nat.le_of_ble_eq_true rfl) dX1_writeVersion_29 ⟨Nat.le_of_ble_eq_true rfl, Nat.le_of_ble_eq_true rfl⟩ (fun H locs hG => ?_)
  refine lv_istore (lv' := [(5, .int q29.2), (4, .int v8), (0, .ref a0), (1, .int x1), (2, .int x2), (3, .int x3)]) hx hb dX1_writeVersion_32 hl (by decide) rfl (fun ls hl => ?_)
  refine lv_iconst (v := (0 : Int32)) hx hb dX1_writeVersion_34 (by decide) ?_
  refine lv_istore (lv' := [(6, .int (0 : Int32)), (5, .int q29.2), (4, .int v8), (0, .ref a0), (1, .int x1), (2, .int x2), (3, .int x3)]) hx hb dX1_writeVersion_35 hl (by decide) rfl (fun ls hl => ?_)
  exact h37 g_N q29.1 a0 x1 x2 v8 q29.2 (0 : Int32) _ _ hG _ (lv_sub hl [3, 4, 5, 2, 1, 0] rfl) h
def f_X1_eraseFile (G : gH) (a0 : Nat) (x1 : Int32) : Option gH :=
    (g_ob G a0 1).bind fun u1 =>
    (f_X1_beginIfNeeded G a0).bind fun G1 =>
    (g_r G1 a0 1 2).bind fun v5 =>
    (g_ob G1 v5 5).bind fun u10 =>
    (f_X5_enter G1 v5 x1 (-1 : Int32)).bind fun G10 =>
    some G10
set_option maxRecDepth 20000 in
set_option maxHeartbeats 4000000 in
theorem m_X1_eraseFile (l : Launch) (dd : va_G) (cT : Nat → ClassId) (lo : Nat) (G : gH) (a0 : Nat) (x1 : Int32) {Gz : gH} (h : f_X1_eraseFile G a0 x1 = some Gz) : Met l yX1_eraseFile (Cond.code yX1_eraseFile cX1_eraseFile 2 none :: wsL_law) (g_rm 4 86 0 0) (va_Pc [.ref a0, .int x1] (g_Pre lo dd cT G)) (va_Qv (g_iv Gz) (g_Pre lo dd cT) (g_A lo)) 0 0 (g_A lo) := by
  refine g_start RX1 rfl (by decide) (Nat.le_of_ble_eq_true rfl) ?_
  intro p e s m below meth c hx hb hr hlocks hml hown hnm hts hK hG hlo ls hl
  have hl : lv_has ls 2 [(0, .ref a0), (1, .int x1)] := hl
  have hG : g_S lo dd cT s s.heap [] G := hG
  unfold f_X1_eraseFile at h
  refine lv_aload_n hx hb dX1_eraseFile_0 rfl (lv_at hl 0 rfl) ?_
  obtain ⟨u1, i1, h⟩ := Option.bind_eq_some_iff.mp h
  obtain ⟨G1, e1, h⟩ := Option.bind_eq_some_iff.mp h
  refine g_cVv (As := []) (rest := []) (n := 0) hx hb hml hown hts hK hlo hG (m_X1_beginIfNeeded l dd cT lo G a0 e1) qM_X1_211 qI_yX1_beginIfNeeded qS_X1_yX1_beginIfNeeded qN_X1 qC_yX1_beginIfNeeded (by decide +kernel) ⟨Nat.le_of_ble_eq_true rfl, Nat.le_of_ble_eq_true rfl⟩ (by rfl) i1 rfl hl.1 rfl (Nat.le_of_ble_eq_true rfl) dX1_eraseFile_1 ⟨Nat.le_of_ble_eq_true rfl, Nat.le_of_ble_eq_true rfl⟩ (fun H locs hG => ?_)
  refine lv_aload_n hx hb dX1_eraseFile_4 rfl (lv_at hl 0 rfl) ?_
  obtain ⟨v5, e5, h⟩ := Option.bind_eq_some_iff.mp h
  refine g_getr hx hb hts inlX1 hown hK hG (by rfl) 2 (by decide) qF_X1_28 e5 dX1_eraseFile_5 ?_
  refine lv_iload_n hx hb dX1_eraseFile_8 rfl (lv_at hl 1 rfl) ?_
  refine lv_iconst (v := (-1 : Int32)) hx hb dX1_eraseFile_9 (by decide) ?_
  obtain ⟨u10, i10, h⟩ := Option.bind_eq_some_iff.mp h
  obtain ⟨G10, e10, h⟩ := Option.bind_eq_some_iff.mp h
  refine g_cVv (As := [.int x1, .int (-1 : Int32)]) (rest := []) (n := 2) hx hb hml hown hts hK hlo hG (m_X5_enter l dd cT lo G1 v5 x1 (-1 : Int32) e10) qM_X1_225 qI_yX5_enter qS_X5_yX5_enter qN_X5 qC_yX5_enter (by decide +kernel) ⟨Nat.le_of_ble_eq_true rfl, Nat.le_of_ble_eq_true rfl⟩ (by rfl) i10 rfl hl.1 rfl (Nat.le_of_ble_eq_true rfl) dX1_eraseFile_10 ⟨Nat.le_of_ble_eq_true rfl, Nat.le_of_ble_eq_true rfl⟩ (fun H locs hG => ?_)
  obtain rfl := Option.some.inj h
  exact g_vret hx hb hr hlocks hK hlo hG rfl dX1_eraseFile_13
def f_X4_read_J111 (G : gH) (ba0 : Nat) (bx3 : Int32) : Option gH :=
    if bx3 = 0 then
    (g_r G ba0 4 13).bind fun v117 =>
    (g_i G ba0 4 14).bind fun v121 =>
    (g_ob G v117 11).bind fun u124 =>
    (f_X11_startOf G v117 v121).bind fun v124 =>
    (g_put G ba0 4 1 (.int v124)).bind fun G127 =>
    some G127
    else
    some G
def f_X4_read_L58 : Nat → gH → Nat → Int32 → Option gH
  | 0, _, _, _ => none
  | n + 1, G, ba0, bx3 =>
    if bx3 = 0 then
    f_X4_read_J111 G ba0 bx3
    else
    (g_i G ba0 4 14).bind fun v63 =>
    (g_r G ba0 4 13).bind fun v67 =>
    (g_i G v67 11 0).bind fun v70 =>
    if (v70 - (1 : Int32)) ≤ v63 then
    f_X4_read_J111 G ba0 bx3
    else
    (g_i G ba0 4 14).bind fun v80 =>
    (g_put G ba0 4 14 (.int (v80 + (1 : Int32)))).bind fun G85 =>
    (g_ob G85 ba0 4).bind fun u89 =>
    (f_X4_readStatement G85 ba0).bind fun q89 =>
    if q89.2 = 0 then
    f_X4_read_L58 n q89.1 ba0 (0 : Int32)
    else
    (g_ob q89.1 ba0 4).bind fun u96 =>
    (f_X4_readSemicolon q89.1 ba0).bind fun q96 =>
    if q96.2 = 0 then
    f_X4_read_L58 n q96.1 ba0 (0 : Int32)
    else
    f_X4_read_L58 n q96.1 ba0 (1 : Int32)
def f_X4_read (G : gH) (a0 : Nat) (a1 : Nat) (x2 : Int32) : Option gH :=
    (g_put G a0 4 0 (.int (0 : Int32))).bind fun G2 =>
    (g_put G2 a0 4 1 (.int (-1 : Int32))).bind fun G7 =>
    (g_put G7 a0 4 2 (.int (8 : Int32))).bind fun G13 =>
    (g_put G13 a0 4 3 (.int (0 : Int32))).bind fun G18 =>
    (g_put G18 a0 4 4 (.int (0 : Int32))).bind fun G23 =>
    (g_put G23 a0 4 6 (.int (0 : Int32))).bind fun G28 =>
    (g_r G28 a0 4 12).bind fun v32 =>
    (f_X9_fill_ G28 v32 (0 : Int32)).bind fun G36 =>
    (g_r G36 a0 4 13).bind fun v40 =>
    (g_ob G36 v40 11).bind fun u45 =>
    (f_X11_read G36 v40 a1 x2).bind fun G45 =>
    (g_put G45 a0 4 14 (.int (0 : Int32))).bind fun G50 =>
    (g_ob G50 a0 4).bind fun u54 =>
    (f_X4_readHead G50 a0).bind fun q54 =>
    f_X4_read_L58 g_N q54.1 a0 q54.2
set_option maxRecDepth 20000 in
set_option maxHeartbeats 4000000 in
theorem m_X4_read (l : Launch) (dd : va_G) (cT : Nat → ClassId) (lo : Nat) (G : gH) (a0 : Nat) (a1 : Nat) (x2 : Int32) {Gz : gH} (h : f_X4_read G a0 a1 x2 = some Gz) : Met l yX4_read (Cond.code yX4_read cX4_read 4 none :: wsL_law) (g_rm 8 175 0 0) (va_Pc [.ref a0, .ref a1, .int x2] (g_Pre lo dd cT G)) (va_Qv (g_iv Gz) (g_Pre lo dd cT) (g_A lo)) 0 0 (g_A lo) := by
  refine g_start RX4 rfl (by decide) (Nat.le_of_ble_eq_true rfl) ?_
  intro p e s m below meth c hx hb hr hlocks hml hown hnm hts hK hG hlo ls hl
  have hl : lv_has ls 4 [(0, .ref a0), (1, .ref a1), (2, .int x2)] := hl
  have hG : g_S lo dd cT s s.heap [] G := hG
  have h111 : ∀ (G : gH) (ba0 : Nat) (bx3 : Int32), ∀ (H : Heap) (locs : List Loc), g_S lo dd cT s H locs G → ∀ ls : Array Slot, lv_has ls 4 [(0, .ref ba0), (3, .int bx3)] → f_X4_read_J111 G ba0 bx3 = some Gz → W p l e (g_rm 8 175 0 0) s m ([.ref a0, .ref a1, .int x2] : List Value).toArray below meth c H locs 0 0 (MQ below (va_Qv (g_iv Gz) (g_Pre lo dd cT) (g_A lo)) ([.ref a0, .ref a1, .int x2] : List Value).toArray s 0 0 (g_A lo)) (F0 m 111 ls []) := by
    intro G ba0 bx3 H locs hG ls hl h
    unfold f_X4_read_J111 at h
    refine lv_iload_n hx hb dX4_read_111 rfl (lv_at hl 1 rfl) ?_
    refine lv_if_ne (tgt := 130) hx hb dX4_read_112 (by decide) (fun c112 => ?_) (fun c112 => ?_)
    · rw [if_neg c112] at h
      obtain rfl := Option.some.inj h
      exact g_vret hx hb hr hlocks hK hlo hG rfl dX4_read_130
    · rw [if_pos c112] at h
      refine lv_aload_n hx hb dX4_read_115 rfl (lv_at hl 0 rfl) ?_
      refine lv_aload_n hx hb dX4_read_116 rfl (lv_at hl 0 rfl) ?_
      obtain ⟨v117, e117, h⟩ := Option.bind_eq_some_iff.mp h
      refine g_getr hx hb hts inlX4 hown hK hG (by rfl) 13 (by decide) qF_X4_57 e117 dX4_read_117 ?_
      refine lv_aload_n hx hb dX4_read_120 rfl (lv_at hl 0 rfl) ?_
      obtain ⟨v121, e121, h⟩ := Option.bind_eq_some_iff.mp h
      refine g_geti hx hb hts inlX4 hown hK hG (by rfl) 14 (by decide) qF_X4_61 e121 dX4_read_121 ?_
      obtain ⟨u124, i124, h⟩ := Option.bind_eq_some_iff.mp h
      obtain ⟨v124, e124, h⟩ := Option.bind_eq_some_iff.mp h
      refine g_cVi (As := [.int v121]) (rest := [.ref ba0]) (n := 1) hx hb hml hown hts hK hlo hG (m_X11_startOf l dd cT lo G v117 v121 e124) qM_X4_83 qI_yX11_startOf qS_X11_yX11_startOf qN_X11 qC_yX11_startOf (by decide +kernel) ⟨Nat.le_of_ble_eq_true rfl, Nat.le_of_ble_eq_true rfl⟩ (by rfl) i124 rfl hl.1 rfl (Nat.le_of_ble_eq_true rfl) dX4_read_124 ⟨Nat.le_of_ble_eq_true rfl, Nat.le_of_ble_eq_true rfl⟩ (fun H locs hG => ?_)
      obtain ⟨G127, i127, h⟩ := Option.bind_eq_some_iff.mp h
      refine g_putv hx hb hts inlX4 tyX4 tyX4_ok nmX4 hown hK hG (by rfl) 1 (by decide) qF_X4_15 rfl rfl rfl rfl i127 dX4_read_127 (fun H locs hG => ?_)
      obtain rfl := Option.some.inj h
      exact g_vret hx hb hr hlocks hK hlo hG rfl dX4_read_130
  have h58 : ∀ n : Nat, ∀ (G : gH) (ba0 : Nat) (bx3 : Int32), ∀ (H : Heap) (locs : List Loc), g_S lo dd cT s H locs G → ∀ ls : Array Slot, lv_has ls 4 [(0, .ref ba0), (3, .int bx3)] → f_X4_read_L58 n G ba0 bx3 = some Gz → W p l e (g_rm 8 175 0 0) s m ([.ref a0, .ref a1, .int x2] : List Value).toArray below meth c H locs 0 0 (MQ below (va_Qv (g_iv Gz) (g_Pre lo dd cT) (g_A lo)) ([.ref a0, .ref a1, .int x2] : List Value).toArray s 0 0 (g_A lo)) (F0 m 58 ls []) := by
    intro n
    induction n with
    | zero =>
      intro G ba0 bx3 H locs hG ls hl h
      cases (show (none : Option gH) = some Gz from h)
    | succ n ih =>
      intro G ba0 bx3 H locs hG ls hl h
      rw [f_X4_read_L58] at h
      refine lv_iload_n hx hb dX4_read_58 rfl (lv_at hl 1 rfl) ?_
      refine lv_if_eq (tgt := 111) hx hb dX4_read_59 (by decide) (fun c59 => ?_) (fun c59 => ?_)
      · rw [if_pos c59] at h
        exact h111 G ba0 bx3 _ _ hG _ (lv_sub hl [0, 1] rfl) h
      · rw [if_neg c59] at h
        refine lv_aload_n hx hb dX4_read_62 rfl (lv_at hl 0 rfl) ?_
        obtain ⟨v63, e63, h⟩ := Option.bind_eq_some_iff.mp h
        refine g_geti hx hb hts inlX4 hown hK hG (by rfl) 14 (by decide) qF_X4_61 e63 dX4_read_63 ?_
        refine lv_aload_n hx hb dX4_read_66 rfl (lv_at hl 0 rfl) ?_
        obtain ⟨v67, e67, h⟩ := Option.bind_eq_some_iff.mp h
        refine g_getr hx hb hts inlX4 hown hK hG (by rfl) 13 (by decide) qF_X4_57 e67 dX4_read_67 ?_
        obtain ⟨v70, e70, h⟩ := Option.bind_eq_some_iff.mp h
        refine g_geti hx hb hts inlX11 hown hK hG (by rfl) 0 (by decide) qF_X4_76 e70 dX4_read_70 ?_
        refine lv_iconst (v := (1 : Int32)) hx hb dX4_read_73 (by decide) ?_
        refine lv_isub hx hb dX4_read_74 ?_
        refine lv_icmp_ge (tgt := 111) hx hb dX4_read_75 (by decide) (fun c75 => ?_) (fun c75 => ?_)
        · rw [if_pos c75] at h
          exact h111 G ba0 bx3 _ _ hG _ (lv_sub hl [0, 1] rfl) h
        · rw [if_neg c75] at h
          refine lv_aload_n hx hb dX4_read_78 rfl (lv_at hl 0 rfl) ?_
          refine lv_dup hx hb dX4_read_79 rfl ?_
          obtain ⟨v80, e80, h⟩ := Option.bind_eq_some_iff.mp h
          refine g_geti hx hb hts inlX4 hown hK hG (by rfl) 14 (by decide) qF_X4_61 e80 dX4_read_80 ?_
          refine lv_iconst (v := (1 : Int32)) hx hb dX4_read_83 (by decide) ?_
          refine lv_iadd hx hb dX4_read_84 ?_
          obtain ⟨G85, i85, h⟩ := Option.bind_eq_some_iff.mp h
          refine g_putv hx hb hts inlX4 tyX4 tyX4_ok nmX4 hown hK hG (by rfl) 14 (by decide) qF_X4_61 rfl rfl rfl rfl i85 dX4_read_85 (fun H locs hG => ?_)
          refine lv_aload_n hx hb dX4_read_88 rfl (lv_at hl 0 rfl) ?_
          obtain ⟨u89, i89, h⟩ := Option.bind_eq_some_iff.mp h
          obtain ⟨q89, e89, h⟩ := Option.bind_eq_some_iff.mp h
          refine g_cVi (As := []) (rest := []) (n := 0) hx hb hml hown hts hK hlo hG (m_X4_readStatement l dd cT lo G85 ba0 e89) qM_X4_77 qI_yX4_readStatement qS_X4_yX4_readStatement qN_X4 qC_yX4_readStatement (by decide +kernel) ⟨Nat.le_of_ble_eq_true rfl, Nat.le_of_ble_eq_true rfl⟩ (by rfl) i89 rfl hl.1 rfl (Nat.le_of_ble_eq_true rfl) dX4_read_89 ⟨Nat.le_of_ble_eq_true rfl, Nat.le_of_ble_eq_true rfl⟩ (fun H locs hG => ?_)
          refine lv_if_eq (tgt := 106) hx hb dX4_read_92 (by decide) (fun c92 => ?_) (fun c92 => ?_)
          · rw [if_pos c92] at h
            refine lv_iconst (v := (0 : Int32)) hx hb dX4_read_106 (by decide) ?_
            refine lv_istore_n (lv' := [(3, .int (0 : Int32)), (0, .ref ba0)]) hx hb dX4_read_107 rfl hl (by decide) rfl (fun ls hl => ?_)
            refine lv_goto (tgt := 58) hx hb dX4_read_108 (by decide) ?_
            exact ih q89.1 ba0 (0 : Int32) _ _ hG _ (lv_sub hl [1, 0] rfl) h
          · rw [if_neg c92] at h
            refine lv_aload_n hx hb dX4_read_95 rfl (lv_at hl 0 rfl) ?_
            obtain ⟨u96, i96, h⟩ := Option.bind_eq_some_iff.mp h
            obtain ⟨q96, e96, h⟩ := Option.bind_eq_some_iff.mp h
            refine g_cVi (As := []) (rest := []) (n := 0) hx hb hml hown hts hK hlo hG (m_X4_readSemicolon l dd cT lo q89.1 ba0 e96) qM_X4_80 qI_yX4_readSemicolon qS_X4_yX4_readSemicolon qN_X4 qC_yX4_readSemicolon (by decide +kernel) ⟨Nat.le_of_ble_eq_true rfl, Nat.le_of_ble_eq_true rfl⟩ (by rfl) i96 rfl hl.1 rfl (Nat.le_of_ble_eq_true rfl) dX4_read_96 ⟨Nat.le_of_ble_eq_true rfl, Nat.le_of_ble_eq_true rfl⟩ (fun H locs hG => ?_)
            refine lv_if_eq (tgt := 106) hx hb dX4_read_99 (by decide) (fun c99 => ?_) (fun c99 => ?_)
            · rw [if_pos c99] at h
              refine lv_iconst (v := (0 : Int32)) hx hb dX4_read_106 (by decide) ?_
              refine lv_istore_n (lv' := [(3, .int (0 : Int32)), (0, .ref ba0)]) hx hb dX4_read_107 rfl hl (by decide) rfl (fun ls hl => ?_)
              refine lv_goto (tgt := 58) hx hb dX4_read_108 (by decide) ?_
              exact ih q96.1 ba0 (0 : Int32) _ _ hG _ (lv_sub hl [1, 0] rfl) h
            · rw [if_neg c99] at h
              refine lv_iconst (v := (1 : Int32)) hx hb dX4_read_102 (by decide) ?_
              refine lv_goto (tgt := 107) hx hb dX4_read_103 (by decide) ?_
              refine lv_istore_n (lv' := [(3, .int (1 : Int32)), (0, .ref ba0)]) hx hb dX4_read_107 rfl hl (by decide) rfl (fun ls hl => ?_)
              refine lv_goto (tgt := 58) hx hb dX4_read_108 (by decide) ?_
              exact ih q96.1 ba0 (1 : Int32) _ _ hG _ (lv_sub hl [1, 0] rfl) h
  unfold f_X4_read at h
  refine lv_aload_n hx hb dX4_read_0 rfl (lv_at hl 0 rfl) ?_
  refine lv_iconst (v := (0 : Int32)) hx hb dX4_read_1 (by decide) ?_
  obtain ⟨G2, i2, h⟩ := Option.bind_eq_some_iff.mp h
  refine g_putv hx hb hts inlX4 tyX4 tyX4_ok nmX4 hown hK hG (by rfl) 0 (by decide) qF_X4_9 rfl rfl rfl rfl i2 dX4_read_2 (fun H locs hG => ?_)
  refine lv_aload_n hx hb dX4_read_5 rfl (lv_at hl 0 rfl) ?_
  refine lv_iconst (v := (-1 : Int32)) hx hb dX4_read_6 (by decide) ?_
  obtain ⟨G7, i7, h⟩ := Option.bind_eq_some_iff.mp h
  refine g_putv hx hb hts inlX4 tyX4 tyX4_ok nmX4 hown hK hG (by rfl) 1 (by decide) qF_X4_15 rfl rfl rfl rfl i7 dX4_read_7 (fun H locs hG => ?_)
  refine lv_aload_n hx hb dX4_read_10 rfl (lv_at hl 0 rfl) ?_
  refine lv_bipush (v := (8 : Int32)) hx hb dX4_read_11 (by decide) ?_
  obtain ⟨G13, i13, h⟩ := Option.bind_eq_some_iff.mp h
  refine g_putv hx hb hts inlX4 tyX4 tyX4_ok nmX4 hown hK hG (by rfl) 2 (by decide) qF_X4_18 rfl rfl rfl rfl i13 dX4_read_13 (fun H locs hG => ?_)
  refine lv_aload_n hx hb dX4_read_16 rfl (lv_at hl 0 rfl) ?_
  refine lv_iconst (v := (0 : Int32)) hx hb dX4_read_17 (by decide) ?_
  obtain ⟨G18, i18, h⟩ := Option.bind_eq_some_iff.mp h
  refine g_putv hx hb hts inlX4 tyX4 tyX4_ok nmX4 hown hK hG (by rfl) 3 (by decide) qF_X4_21 rfl rfl rfl rfl i18 dX4_read_18 (fun H locs hG => ?_)
  refine lv_aload_n hx hb dX4_read_21 rfl (lv_at hl 0 rfl) ?_
  refine lv_iconst (v := (0 : Int32)) hx hb dX4_read_22 (by decide) ?_
  obtain ⟨G23, i23, h⟩ := Option.bind_eq_some_iff.mp h
  refine g_putv hx hb hts inlX4 tyX4 tyX4_ok nmX4 hown hK hG (by rfl) 4 (by decide) qF_X4_24 rfl rfl rfl rfl i23 dX4_read_23 (fun H locs hG => ?_)
  refine lv_aload_n hx hb dX4_read_26 rfl (lv_at hl 0 rfl) ?_
  refine lv_iconst (v := (0 : Int32)) hx hb dX4_read_27 (by decide) ?_
  obtain ⟨G28, i28, h⟩ := Option.bind_eq_some_iff.mp h
  refine g_putv hx hb hts inlX4 tyX4 tyX4_ok nmX4 hown hK hG (by rfl) 6 (by decide) qF_X4_31 rfl rfl rfl rfl i28 dX4_read_28 (fun H locs hG => ?_)
  refine lv_aload_n hx hb dX4_read_31 rfl (lv_at hl 0 rfl) ?_
  obtain ⟨v32, e32, h⟩ := Option.bind_eq_some_iff.mp h
  refine g_getr hx hb hts inlX4 hown hK hG (by rfl) 12 (by decide) qF_X4_50 e32 dX4_read_32 ?_
  refine lv_iconst (v := (0 : Int32)) hx hb dX4_read_35 (by decide) ?_
  obtain ⟨G36, e36, h⟩ := Option.bind_eq_some_iff.mp h
  refine g_cNv (As := [.ref v32, .int (0 : Int32)]) (rest := []) (n := 2) hx hb hml hown hts hK hlo hG (m_X9_fill_ l dd cT lo G28 v32 (0 : Int32) e36) (List.mem_of_getElem? (i := 40) rfl) qT_yX9_fill_ qN_X9 qC_yX9_fill_ (by decide +kernel) ⟨Nat.le_of_ble_eq_true rfl, Nat.le_of_ble_eq_true rfl⟩ rfl hl.1 rfl (Nat.le_of_ble_eq_true rfl) dX4_read_36 ⟨Nat.le_of_ble_eq_true rfl, Nat.le_of_ble_eq_true rfl⟩ (fun H locs hG => ?_)
  refine lv_aload_n hx hb dX4_read_39 rfl (lv_at hl 0 rfl) ?_
  obtain ⟨v40, e40, h⟩ := Option.bind_eq_some_iff.mp h
  refine g_getr hx hb hts inlX4 hown hK hG (by rfl) 13 (by decide) qF_X4_57 e40 dX4_read_40 ?_
  refine lv_aload_n hx hb dX4_read_43 rfl (lv_at hl 1 rfl) ?_
  refine lv_iload_n hx hb dX4_read_44 rfl (lv_at hl 2 rfl) ?_
  obtain ⟨u45, i45, h⟩ := Option.bind_eq_some_iff.mp h
  obtain ⟨G45, e45, h⟩ := Option.bind_eq_some_iff.mp h
  refine g_cVv (As := [.ref a1, .int x2]) (rest := []) (n := 2) hx hb hml hown hts hK hlo hG (m_X11_read l dd cT lo G36 v40 a1 x2 e45) qM_X4_68 qI_yX11_read qS_X11_yX11_read qN_X11 qC_yX11_read (by decide +kernel) ⟨Nat.le_of_ble_eq_true rfl, Nat.le_of_ble_eq_true rfl⟩ (by rfl) i45 rfl hl.1 rfl (Nat.le_of_ble_eq_true rfl) dX4_read_45 ⟨Nat.le_of_ble_eq_true rfl, Nat.le_of_ble_eq_true rfl⟩ (fun H locs hG => ?_)
  refine lv_aload_n hx hb dX4_read_48 rfl (lv_at hl 0 rfl) ?_
  refine lv_iconst (v := (0 : Int32)) hx hb dX4_read_49 (by decide) ?_
  obtain ⟨G50, i50, h⟩ := Option.bind_eq_some_iff.mp h
  refine g_putv hx hb hts inlX4 tyX4 tyX4_ok nmX4 hown hK hG (by rfl) 14 (by decide) qF_X4_61 rfl rfl rfl rfl i50 dX4_read_50 (fun H locs hG => ?_)
  refine lv_aload_n hx hb dX4_read_53 rfl (lv_at hl 0 rfl) ?_
  obtain ⟨u54, i54, h⟩ := Option.bind_eq_some_iff.mp h
  obtain ⟨q54, e54, h⟩ := Option.bind_eq_some_iff.mp h
  refine g_cVi (As := []) (rest := []) (n := 0) hx hb hml hown hts hK hlo hG (m_X4_readHead l dd cT lo G50 a0 e54) qM_X4_72 qI_yX4_readHead qS_X4_yX4_readHead qN_X4 qC_yX4_readHead (by decide +kernel) ⟨Nat.le_of_ble_eq_true rfl, Nat.le_of_ble_eq_true rfl⟩ (by rfl) i54 rfl hl.1 rfl (Nat.le_of_ble_eq_true rfl) dX4_read_54 ⟨Nat.le_of_ble_eq_true rfl, Nat.le_of_ble_eq_true rfl⟩ (fun H locs hG => ?_)
  refine lv_istore_n (lv' := [(3, .int q54.2), (0, .ref a0), (1, .ref a1), (2, .int x2)]) hx hb dX4_read_57 rfl hl (by decide) rfl (fun ls hl => ?_)
  exact h58 g_N q54.1 a0 q54.2 _ _ hG _ (lv_sub hl [1, 0] rfl) h
def f_X9_weakest_L22 : Nat → gH → Nat → Nat → Int32 → Int32 → Int32 → Option (gH × Int32)
  | 0, _, _, _, _, _, _ => none
  | n + 1, G, ba0, ba1, bx2, bx3, bx4 =>
    (g_r G ba0 9 5).bind fun v25 =>
    (g_r G v25 1 0).bind fun v28 =>
    (g_i G v28 0 0).bind fun v31 =>
    if v31 ≤ bx4 then
    some (G, bx2)
    else
    (g_r G ba0 9 5).bind fun v38 =>
    (g_r G ba0 9 4).bind fun v45 =>
    (g_ob G v38 1).bind fun u48 =>
    (f_X1_filesLostBy G v38 bx4 ba1 v45).bind fun q48 =>
    if q48.2 ≤ bx3 then
    f_X9_weakest_L22 n q48.1 ba0 ba1 bx2 bx3 (bx4 + (1 : Int32))
    else
    f_X9_weakest_L22 n q48.1 ba0 ba1 bx4 q48.2 (bx4 + (1 : Int32))
def f_X9_weakest (G : gH) (a0 : Nat) : Option (gH × Int32) :=
    (g_r G a0 9 5).bind fun v1 =>
    (g_r G v1 1 6).bind fun v4 =>
    (g_r G a0 9 5).bind fun v8 =>
    (g_ob G v4 8).bind fun u11 =>
    (f_X8_lookAt G v4 v8).bind fun q11 =>
    f_X9_weakest_L22 g_N q11.1 a0 q11.2 (0 : Int32) (0 : Int32) (0 : Int32)
set_option maxRecDepth 20000 in
set_option maxHeartbeats 4000000 in
theorem m_X9_weakest (l : Launch) (dd : va_G) (cT : Nat → ClassId) (lo : Nat) (G : gH) (a0 : Nat) {rz : Int32} {Gz : gH} (h : f_X9_weakest G a0 = some (Gz, rz)) : Met l yX9_weakest (Cond.code yX9_weakest cX9_weakest 6 (some .int) :: wsL_law) (g_rm 5 120 0 0) (va_Pc [.ref a0] (g_Pre lo dd cT G)) (va_Qi (g_is rz Gz) (g_Pre lo dd cT) (g_A lo)) 0 0 (g_A lo) := by
  refine g_start RX9 rfl (by decide) (Nat.le_of_ble_eq_true rfl) ?_
  intro p e s m below meth c hx hb hr hlocks hml hown hnm hts hK hG hlo ls hl
  have hl : lv_has ls 6 [(0, .ref a0)] := hl
  have hG : g_S lo dd cT s s.heap [] G := hG
  have h22 : ∀ n : Nat, ∀ (G : gH) (ba0 : Nat) (ba1 : Nat) (bx2 : Int32) (bx3 : Int32) (bx4 : Int32), ∀ (H : Heap) (locs : List Loc), g_S lo dd cT s H locs G → ∀ ls : Array Slot, lv_has ls 6 [(0, .ref ba0), (1, .ref ba1), (2, .int bx2), (3, .int bx3), (4, .int bx4)] → f_X9_weakest_L22 n G ba0 ba1 bx2 bx3 bx4 = some (Gz, rz) → W p l e (g_rm 5 120 0 0) s m ([.ref a0] : List Value).toArray below meth c H locs 0 0 (MQ below (va_Qi (g_is rz Gz) (g_Pre lo dd cT) (g_A lo)) ([.ref a0] : List Value).toArray s 0 0 (g_A lo)) (F0 m 22 ls []) := by
    intro n
    induction n with
    | zero =>
      intro G ba0 ba1 bx2 bx3 bx4 H locs hG ls hl h
      cases (show (none : Option (gH × Int32)) = some (Gz, rz) from h)
    | succ n ih =>
      intro G ba0 ba1 bx2 bx3 bx4 H locs hG ls hl h
      rw [f_X9_weakest_L22] at h
      refine lv_iload hx hb dX9_weakest_22 (lv_at hl 4 rfl) ?_
      refine lv_aload_n hx hb dX9_weakest_24 rfl (lv_at hl 0 rfl) ?_
      obtain ⟨v25, e25, h⟩ := Option.bind_eq_some_iff.mp h
      refine g_getr hx hb hts inlX9 hown hK hG (by rfl) 5 (by decide) qF_X9_47 e25 dX9_weakest_25 ?_
      obtain ⟨v28, e28, h⟩ := Option.bind_eq_some_iff.mp h
      refine g_getr hx hb hts inlX1 hown hK hG (by rfl) 0 (by decide) qF_X9_106 e28 dX9_weakest_28 ?_
      obtain ⟨v31, e31, h⟩ := Option.bind_eq_some_iff.mp h
      refine g_geti hx hb hts inlX0 hown hK hG (by rfl) 0 (by decide) qF_X9_110 e31 dX9_weakest_31 ?_
      refine lv_icmp_ge (tgt := 71) hx hb dX9_weakest_34 (by decide) (fun c34 => ?_) (fun c34 => ?_)
      · rw [if_pos c34] at h
        refine lv_iload_n hx hb dX9_weakest_71 rfl (lv_at hl 2 rfl) ?_
        obtain ⟨rfl, rfl⟩ := Prod.mk.inj (Option.some.inj h)
        exact g_iret hx hb hr hlocks hK hlo hG ⟨rfl, rfl⟩ dX9_weakest_72
      · rw [if_neg c34] at h
        refine lv_aload_n hx hb dX9_weakest_37 rfl (lv_at hl 0 rfl) ?_
        obtain ⟨v38, e38, h⟩ := Option.bind_eq_some_iff.mp h
        refine g_getr hx hb hts inlX9 hown hK hG (by rfl) 5 (by decide) qF_X9_47 e38 dX9_weakest_38 ?_
        refine lv_iload hx hb dX9_weakest_41 (lv_at hl 4 rfl) ?_
        refine lv_aload_n hx hb dX9_weakest_43 rfl (lv_at hl 1 rfl) ?_
        refine lv_aload_n hx hb dX9_weakest_44 rfl (lv_at hl 0 rfl) ?_
        obtain ⟨v45, e45, h⟩ := Option.bind_eq_some_iff.mp h
        refine g_getr hx hb hts inlX9 hown hK hG (by rfl) 4 (by decide) qF_X9_40 e45 dX9_weakest_45 ?_
        obtain ⟨u48, i48, h⟩ := Option.bind_eq_some_iff.mp h
        obtain ⟨q48, e48, h⟩ := Option.bind_eq_some_iff.mp h
        refine g_cVi (As := [.int bx4, .ref ba1, .ref v45]) (rest := []) (n := 3) hx hb hml hown hts hK hlo hG (m_X1_filesLostBy l dd cT lo G v38 bx4 ba1 v45 e48) qM_X9_264 qI_yX1_filesLostBy qS_X1_yX1_filesLostBy qN_X1 qC_yX1_filesLostBy (by decide +kernel) ⟨Nat.le_of_ble_eq_true rfl, Nat.le_of_ble_eq_true rfl⟩ (by rfl) i48 rfl hl.1 rfl (Nat.le_of_ble_eq_true rfl) dX9_weakest_48 ⟨Nat.le_of_ble_eq_true rfl, Nat.le_of_ble_eq_true rfl⟩ (fun H locs hG => ?_)
        refine lv_istore (lv' := [(5, .int q48.2), (0, .ref ba0), (1, .ref ba1), (2, .int bx2), (3, .int bx3), (4, .int bx4)]) hx hb dX9_weakest_51 hl (by decide) rfl (fun ls hl => ?_)
        refine lv_iload hx hb dX9_weakest_53 (lv_at hl 0 rfl) ?_
        refine lv_iload_n hx hb dX9_weakest_55 rfl (lv_at hl 4 rfl) ?_
        refine lv_icmp_le (tgt := 65) hx hb dX9_weakest_56 (by decide) (fun c56 => ?_) (fun c56 => ?_)
        · rw [if_pos c56] at h
          refine lv_iinc (v := (bx4 + (1 : Int32))) (lv' := [(4, .int (bx4 + (1 : Int32))), (5, .int q48.2), (0, .ref ba0), (1, .ref ba1), (2, .int bx2), (3, .int bx3)]) hx hb dX9_weakest_65 hl (k := 5) rfl rfl (by decide) rfl (fun ls hl => ?_)
          refine lv_goto (tgt := 22) hx hb dX9_weakest_68 (by decide) ?_
          exact ih q48.1 ba0 ba1 bx2 bx3 (bx4 + (1 : Int32)) _ _ hG _ (lv_sub hl [2, 3, 4, 5, 0] rfl) h
        · rw [if_neg c56] at h
          refine lv_iload hx hb dX9_weakest_59 (lv_at hl 0 rfl) ?_
          refine lv_istore_n (lv' := [(3, .int q48.2), (5, .int q48.2), (0, .ref ba0), (1, .ref ba1), (2, .int bx2), (4, .int bx4)]) hx hb dX9_weakest_61 rfl hl (by decide) rfl (fun ls hl => ?_)
          refine lv_iload hx hb dX9_weakest_62 (lv_at hl 5 rfl) ?_
          refine lv_istore_n (lv' := [(2, .int bx4), (3, .int q48.2), (5, .int q48.2), (0, .ref ba0), (1, .ref ba1), (4, .int bx4)]) hx hb dX9_weakest_64 rfl hl (by decide) rfl (fun ls hl => ?_)
          refine lv_iinc (v := (bx4 + (1 : Int32))) (lv' := [(4, .int (bx4 + (1 : Int32))), (2, .int bx4), (3, .int q48.2), (5, .int q48.2), (0, .ref ba0), (1, .ref ba1)]) hx hb dX9_weakest_65 hl (k := 5) rfl rfl (by decide) rfl (fun ls hl => ?_)
          refine lv_goto (tgt := 22) hx hb dX9_weakest_68 (by decide) ?_
          exact ih q48.1 ba0 ba1 bx4 q48.2 (bx4 + (1 : Int32)) _ _ hG _ (lv_sub hl [4, 5, 1, 2, 0] rfl) h
  unfold f_X9_weakest at h
  refine lv_aload_n hx hb dX9_weakest_0 rfl (lv_at hl 0 rfl) ?_
  obtain ⟨v1, e1, h⟩ := Option.bind_eq_some_iff.mp h
  refine g_getr hx hb hts inlX9 hown hK hG (by rfl) 5 (by decide) qF_X9_47 e1 dX9_weakest_1 ?_
  obtain ⟨v4, e4, h⟩ := Option.bind_eq_some_iff.mp h
  refine g_getr hx hb hts inlX1 hown hK hG (by rfl) 6 (by decide) qF_X9_136 e4 dX9_weakest_4 ?_
  refine lv_aload_n hx hb dX9_weakest_7 rfl (lv_at hl 0 rfl) ?_
  obtain ⟨v8, e8, h⟩ := Option.bind_eq_some_iff.mp h
  refine g_getr hx hb hts inlX9 hown hK hG (by rfl) 5 (by decide) qF_X9_47 e8 dX9_weakest_8 ?_
  obtain ⟨u11, i11, h⟩ := Option.bind_eq_some_iff.mp h
  obtain ⟨q11, e11, h⟩ := Option.bind_eq_some_iff.mp h
  refine g_cVr (As := [.ref v8]) (rest := []) (n := 1) hx hb hml hown hts hK hlo hG (m_X8_lookAt l dd cT lo G v4 v8 e11) qM_X9_139 qI_yX8_lookAt qS_X8_yX8_lookAt qN_X8 qC_yX8_lookAt (by decide +kernel) ⟨Nat.le_of_ble_eq_true rfl, Nat.le_of_ble_eq_true rfl⟩ (by rfl) i11 rfl hl.1 rfl (Nat.le_of_ble_eq_true rfl) dX9_weakest_11 ⟨Nat.le_of_ble_eq_true rfl, Nat.le_of_ble_eq_true rfl⟩ (fun H locs hG => ?_)
  refine lv_astore_n (lv' := [(1, .ref q11.2), (0, .ref a0)]) hx hb dX9_weakest_14 rfl hl (by decide) rfl (fun ls hl => ?_)
  refine lv_iconst (v := (0 : Int32)) hx hb dX9_weakest_15 (by decide) ?_
  refine lv_istore_n (lv' := [(2, .int (0 : Int32)), (1, .ref q11.2), (0, .ref a0)]) hx hb dX9_weakest_16 rfl hl (by decide) rfl (fun ls hl => ?_)
  refine lv_iconst (v := (0 : Int32)) hx hb dX9_weakest_17 (by decide) ?_
  refine lv_istore_n (lv' := [(3, .int (0 : Int32)), (2, .int (0 : Int32)), (1, .ref q11.2), (0, .ref a0)]) hx hb dX9_weakest_18 rfl hl (by decide) rfl (fun ls hl => ?_)
  refine lv_iconst (v := (0 : Int32)) hx hb dX9_weakest_19 (by decide) ?_
  refine lv_istore (lv' := [(4, .int (0 : Int32)), (3, .int (0 : Int32)), (2, .int (0 : Int32)), (1, .ref q11.2), (0, .ref a0)]) hx hb dX9_weakest_20 hl (by decide) rfl (fun ls hl => ?_)
  exact h22 g_N q11.1 a0 q11.2 (0 : Int32) (0 : Int32) (0 : Int32) _ _ hG _ (lv_sub hl [4, 3, 2, 1, 0] rfl) h
def f_X1_reasonAgainstStatement (G : gH) (a0 : Nat) (a1 : Nat) (x2 : Int32) : Option (gH × Int32) :=
    (g_ob G a1 4).bind fun u2 =>
    (f_X4_kindOf G a1 x2).bind fun v2 =>
    if v2 = (1 : Int32) then
    (g_ob G a1 4).bind fun u35 =>
    (f_X4_targetOf G a1 x2).bind fun v35 =>
    (g_ob G a1 4).bind fun u40 =>
    (f_X4_lengthOf G a1 x2).bind fun v40 =>
    (g_ob G a0 1).bind fun u43 =>
    (f_X1_reasonAgainstWrite G a0 v35 v40).bind fun v43 =>
    some (G, v43)
    else
    if v2 = (2 : Int32) then
    (g_ob G a1 4).bind fun u50 =>
    (f_X4_targetOf G a1 x2).bind fun v50 =>
    (g_ob G a0 1).bind fun u53 =>
    (f_X1_reasonAgainstErase G a0 v50).bind fun q53 =>
    some (q53.1, q53.2)
    else
    if v2 = (3 : Int32) then
    (g_ob G a0 1).bind fun u58 =>
    (f_X1_reasonAgainstClose G a0).bind fun v58 =>
    some (G, v58)
    else
    some (G, (0 : Int32))
set_option maxRecDepth 20000 in
set_option maxHeartbeats 4000000 in
theorem m_X1_reasonAgainstStatement (l : Launch) (dd : va_G) (cT : Nat → ClassId) (lo : Nat) (G : gH) (a0 : Nat) (a1 : Nat) (x2 : Int32) {rz : Int32} {Gz : gH} (h : f_X1_reasonAgainstStatement G a0 a1 x2 = some (Gz, rz)) : Met l yX1_reasonAgainstStatement (Cond.code yX1_reasonAgainstStatement cX1_reasonAgainstStatement 3 (some .int) :: wsL_law) (g_rm 5 116 0 0) (va_Pc [.ref a0, .ref a1, .int x2] (g_Pre lo dd cT G)) (va_Qi (g_is rz Gz) (g_Pre lo dd cT) (g_A lo)) 0 0 (g_A lo) := by
  refine g_start RX1 rfl (by decide) (Nat.le_of_ble_eq_true rfl) ?_
  intro p e s m below meth c hx hb hr hlocks hml hown hnm hts hK hG hlo ls hl
  have hl : lv_has ls 3 [(0, .ref a0), (1, .ref a1), (2, .int x2)] := hl
  have hG : g_S lo dd cT s s.heap [] G := hG
  unfold f_X1_reasonAgainstStatement at h
  refine lv_aload_n hx hb dX1_reasonAgainstStatement_0 rfl (lv_at hl 1 rfl) ?_
  refine lv_iload_n hx hb dX1_reasonAgainstStatement_1 rfl (lv_at hl 2 rfl) ?_
  obtain ⟨u2, i2, h⟩ := Option.bind_eq_some_iff.mp h
  obtain ⟨v2, e2, h⟩ := Option.bind_eq_some_iff.mp h
  refine g_cVi (As := [.int x2]) (rest := []) (n := 1) hx hb hml hown hts hK hlo hG (m_X4_kindOf l dd cT lo G a1 x2 e2) qM_X1_73 qI_yX4_kindOf qS_X4_yX4_kindOf qN_X4 qC_yX4_kindOf (by decide +kernel) ⟨Nat.le_of_ble_eq_true rfl, Nat.le_of_ble_eq_true rfl⟩ (by rfl) i2 rfl hl.1 rfl (Nat.le_of_ble_eq_true rfl) dX1_reasonAgainstStatement_2 ⟨Nat.le_of_ble_eq_true rfl, Nat.le_of_ble_eq_true rfl⟩ (fun H locs hG => ?_)
  by_cases c5_0 : v2 = (1 : Int32)
  · rw [if_pos c5_0] at h
    refine g_swIn (tgt := 32) hx hb dX1_reasonAgainstStatement_5 (1 : Int32) c5_0 (by decide) (by decide) 27 (by decide) (by decide) ?_
    refine lv_aload_n hx hb dX1_reasonAgainstStatement_32 rfl (lv_at hl 0 rfl) ?_
    refine lv_aload_n hx hb dX1_reasonAgainstStatement_33 rfl (lv_at hl 1 rfl) ?_
    refine lv_iload_n hx hb dX1_reasonAgainstStatement_34 rfl (lv_at hl 2 rfl) ?_
    obtain ⟨u35, i35, h⟩ := Option.bind_eq_some_iff.mp h
    obtain ⟨v35, e35, h⟩ := Option.bind_eq_some_iff.mp h
    refine g_cVi (As := [.int x2]) (rest := [.ref a0]) (n := 1) hx hb hml hown hts hK hlo hG (m_X4_targetOf l dd cT lo G a1 x2 e35) qM_X1_77 qI_yX4_targetOf qS_X4_yX4_targetOf qN_X4 qC_yX4_targetOf (by decide +kernel) ⟨Nat.le_of_ble_eq_true rfl, Nat.le_of_ble_eq_true rfl⟩ (by rfl) i35 rfl hl.1 rfl (Nat.le_of_ble_eq_true rfl) dX1_reasonAgainstStatement_35 ⟨Nat.le_of_ble_eq_true rfl, Nat.le_of_ble_eq_true rfl⟩ (fun H locs hG => ?_)
    refine lv_aload_n hx hb dX1_reasonAgainstStatement_38 rfl (lv_at hl 1 rfl) ?_
    refine lv_iload_n hx hb dX1_reasonAgainstStatement_39 rfl (lv_at hl 2 rfl) ?_
    obtain ⟨u40, i40, h⟩ := Option.bind_eq_some_iff.mp h
    obtain ⟨v40, e40, h⟩ := Option.bind_eq_some_iff.mp h
    refine g_cVi (As := [.int x2]) (rest := [.int v35, .ref a0]) (n := 1) hx hb hml hown hts hK hlo hG (m_X4_lengthOf l dd cT lo G a1 x2 e40) qM_X1_80 qI_yX4_lengthOf qS_X4_yX4_lengthOf qN_X4 qC_yX4_lengthOf (by decide +kernel) ⟨Nat.le_of_ble_eq_true rfl, Nat.le_of_ble_eq_true rfl⟩ (by rfl) i40 rfl hl.1 rfl (Nat.le_of_ble_eq_true rfl) dX1_reasonAgainstStatement_40 ⟨Nat.le_of_ble_eq_true rfl, Nat.le_of_ble_eq_true rfl⟩ (fun H locs hG => ?_)
    obtain ⟨u43, i43, h⟩ := Option.bind_eq_some_iff.mp h
    obtain ⟨v43, e43, h⟩ := Option.bind_eq_some_iff.mp h
    refine g_cVi (As := [.int v35, .int v40]) (rest := []) (n := 2) hx hb hml hown hts hK hlo hG (m_X1_reasonAgainstWrite l dd cT lo G a0 v35 v40 e43) qM_X1_83 qI_yX1_reasonAgainstWrite qS_X1_yX1_reasonAgainstWrite qN_X1 qC_yX1_reasonAgainstWrite (by decide +kernel) ⟨Nat.le_of_ble_eq_true rfl, Nat.le_of_ble_eq_true rfl⟩ (by rfl) i43 rfl hl.1 rfl (Nat.le_of_ble_eq_true rfl) dX1_reasonAgainstStatement_43 ⟨Nat.le_of_ble_eq_true rfl, Nat.le_of_ble_eq_true rfl⟩ (fun H locs hG => ?_)
    obtain ⟨rfl, rfl⟩ := Prod.mk.inj (Option.some.inj h)
    exact g_iret hx hb hr hlocks hK hlo hG ⟨rfl, rfl⟩ dX1_reasonAgainstStatement_46
  rw [if_neg c5_0] at h
  by_cases c5_1 : v2 = (2 : Int32)
  · rw [if_pos c5_1] at h
    refine g_swIn (tgt := 47) hx hb dX1_reasonAgainstStatement_5 (2 : Int32) c5_1 (by decide) (by decide) 42 (by decide) (by decide) ?_
    refine lv_aload_n hx hb dX1_reasonAgainstStatement_47 rfl (lv_at hl 0 rfl) ?_
    refine lv_aload_n hx hb dX1_reasonAgainstStatement_48 rfl (lv_at hl 1 rfl) ?_
    refine lv_iload_n hx hb dX1_reasonAgainstStatement_49 rfl (lv_at hl 2 rfl) ?_
    obtain ⟨u50, i50, h⟩ := Option.bind_eq_some_iff.mp h
    obtain ⟨v50, e50, h⟩ := Option.bind_eq_some_iff.mp h
    refine g_cVi (As := [.int x2]) (rest := [.ref a0]) (n := 1) hx hb hml hown hts hK hlo hG (m_X4_targetOf l dd cT lo G a1 x2 e50) qM_X1_77 qI_yX4_targetOf qS_X4_yX4_targetOf qN_X4 qC_yX4_targetOf (by decide +kernel) ⟨Nat.le_of_ble_eq_true rfl, Nat.le_of_ble_eq_true rfl⟩ (by rfl) i50 rfl hl.1 rfl (Nat.le_of_ble_eq_true rfl) dX1_reasonAgainstStatement_50 ⟨Nat.le_of_ble_eq_true rfl, Nat.le_of_ble_eq_true rfl⟩ (fun H locs hG => ?_)
    obtain ⟨u53, i53, h⟩ := Option.bind_eq_some_iff.mp h
    obtain ⟨q53, e53, h⟩ := Option.bind_eq_some_iff.mp h
    refine g_cVi (As := [.int v50]) (rest := []) (n := 1) hx hb hml hown hts hK hlo hG (m_X1_reasonAgainstErase l dd cT lo G a0 v50 e53) qM_X1_87 qI_yX1_reasonAgainstErase qS_X1_yX1_reasonAgainstErase qN_X1 qC_yX1_reasonAgainstErase (by decide +kernel) ⟨Nat.le_of_ble_eq_true rfl, Nat.le_of_ble_eq_true rfl⟩ (by rfl) i53 rfl hl.1 rfl (Nat.le_of_ble_eq_true rfl) dX1_reasonAgainstStatement_53 ⟨Nat.le_of_ble_eq_true rfl, Nat.le_of_ble_eq_true rfl⟩ (fun H locs hG => ?_)
    obtain ⟨rfl, rfl⟩ := Prod.mk.inj (Option.some.inj h)
    exact g_iret hx hb hr hlocks hK hlo hG ⟨rfl, rfl⟩ dX1_reasonAgainstStatement_56
  rw [if_neg c5_1] at h
  by_cases c5_2 : v2 = (3 : Int32)
  · rw [if_pos c5_2] at h
    refine g_swIn (tgt := 57) hx hb dX1_reasonAgainstStatement_5 (3 : Int32) c5_2 (by decide) (by decide) 52 (by decide) (by decide) ?_
    refine lv_aload_n hx hb dX1_reasonAgainstStatement_57 rfl (lv_at hl 0 rfl) ?_
    obtain ⟨u58, i58, h⟩ := Option.bind_eq_some_iff.mp h
    obtain ⟨v58, e58, h⟩ := Option.bind_eq_some_iff.mp h
    refine g_cVi (As := []) (rest := []) (n := 0) hx hb hml hown hts hK hlo hG (m_X1_reasonAgainstClose l dd cT lo G a0 e58) qM_X1_90 qI_yX1_reasonAgainstClose qS_X1_yX1_reasonAgainstClose qN_X1 qC_yX1_reasonAgainstClose (by decide +kernel) ⟨Nat.le_of_ble_eq_true rfl, Nat.le_of_ble_eq_true rfl⟩ (by rfl) i58 rfl hl.1 rfl (Nat.le_of_ble_eq_true rfl) dX1_reasonAgainstStatement_58 ⟨Nat.le_of_ble_eq_true rfl, Nat.le_of_ble_eq_true rfl⟩ (fun H locs hG => ?_)
    obtain ⟨rfl, rfl⟩ := Prod.mk.inj (Option.some.inj h)
    exact g_iret hx hb hr hlocks hK hlo hG ⟨rfl, rfl⟩ dX1_reasonAgainstStatement_61
  rw [if_neg c5_2] at h
  have z5 : v2.toInt < 1 ∨ 3 < v2.toInt := by
    have y0 : ¬ v2.toInt = 1 := fun w => c5_0 (Int32.toInt_inj.mp (by rw [w]; rfl))
    have y1 : ¬ v2.toInt = 2 := fun w => c5_1 (Int32.toInt_inj.mp (by rw [w]; rfl))
    have y2 : ¬ v2.toInt = 3 := fun w => c5_2 (Int32.toInt_inj.mp (by rw [w]; rfl))
    omega
  refine lv_tableOut (tgt := 62) hx hb dX1_reasonAgainstStatement_5 z5 (by decide) ?_
  refine lv_iconst (v := (0 : Int32)) hx hb dX1_reasonAgainstStatement_62 (by decide) ?_
  obtain ⟨rfl, rfl⟩ := Prod.mk.inj (Option.some.inj h)
  exact g_iret hx hb hr hlocks hK hlo hG ⟨rfl, rfl⟩ dX1_reasonAgainstStatement_63
def f_X1_doStatement (G : gH) (a0 : Nat) (a1 : Nat) (x2 : Int32) : Option gH :=
    (g_ob G a1 4).bind fun u2 =>
    (f_X4_kindOf G a1 x2).bind fun v2 =>
    if v2 = (1 : Int32) then
    (g_ob G a1 4).bind fun u35 =>
    (f_X4_targetOf G a1 x2).bind fun v35 =>
    (g_ob G a1 4).bind fun u40 =>
    (f_X4_lengthOf G a1 x2).bind fun v40 =>
    (g_ob G a1 4).bind fun u45 =>
    (f_X4_tagOf G a1 x2).bind fun v45 =>
    (g_ob G a0 1).bind fun u48 =>
    (f_X1_writeVersion G a0 v35 v40 v45).bind fun q48 =>
    some q48.1
    else
    if v2 = (2 : Int32) then
    (g_ob G a1 4).bind fun u58 =>
    (f_X4_targetOf G a1 x2).bind fun v58 =>
    (g_ob G a0 1).bind fun u61 =>
    (f_X1_eraseFile G a0 v58).bind fun G61 =>
    some G61
    else
    if v2 = (3 : Int32) then
    (g_ob G a0 1).bind fun u68 =>
    (f_X1_closeSession G a0).bind fun q68 =>
    some q68.1
    else
    (g_r G a0 1 0).bind fun v76 =>
    (g_ob G a1 4).bind fun u81 =>
    (f_X4_targetOf G a1 x2).bind fun v81 =>
    (g_ob G v76 0).bind fun u84 =>
    (f_X0_makeBad G v76 v81).bind fun G84 =>
    some G84
set_option maxRecDepth 20000 in
set_option maxHeartbeats 4000000 in
theorem m_X1_doStatement (l : Launch) (dd : va_G) (cT : Nat → ClassId) (lo : Nat) (G : gH) (a0 : Nat) (a1 : Nat) (x2 : Int32) {Gz : gH} (h : f_X1_doStatement G a0 a1 x2 = some Gz) : Met l yX1_doStatement (Cond.code yX1_doStatement cX1_doStatement 3 none :: wsL_law) (g_rm 5 117 0 0) (va_Pc [.ref a0, .ref a1, .int x2] (g_Pre lo dd cT G)) (va_Qv (g_iv Gz) (g_Pre lo dd cT) (g_A lo)) 0 0 (g_A lo) := by
  refine g_start RX1 rfl (by decide) (Nat.le_of_ble_eq_true rfl) ?_
  intro p e s m below meth c hx hb hr hlocks hml hown hnm hts hK hG hlo ls hl
  have hl : lv_has ls 3 [(0, .ref a0), (1, .ref a1), (2, .int x2)] := hl
  have hG : g_S lo dd cT s s.heap [] G := hG
  unfold f_X1_doStatement at h
  refine lv_aload_n hx hb dX1_doStatement_0 rfl (lv_at hl 1 rfl) ?_
  refine lv_iload_n hx hb dX1_doStatement_1 rfl (lv_at hl 2 rfl) ?_
  obtain ⟨u2, i2, h⟩ := Option.bind_eq_some_iff.mp h
  obtain ⟨v2, e2, h⟩ := Option.bind_eq_some_iff.mp h
  refine g_cVi (As := [.int x2]) (rest := []) (n := 1) hx hb hml hown hts hK hlo hG (m_X4_kindOf l dd cT lo G a1 x2 e2) qM_X1_73 qI_yX4_kindOf qS_X4_yX4_kindOf qN_X4 qC_yX4_kindOf (by decide +kernel) ⟨Nat.le_of_ble_eq_true rfl, Nat.le_of_ble_eq_true rfl⟩ (by rfl) i2 rfl hl.1 rfl (Nat.le_of_ble_eq_true rfl) dX1_doStatement_2 ⟨Nat.le_of_ble_eq_true rfl, Nat.le_of_ble_eq_true rfl⟩ (fun H locs hG => ?_)
  by_cases c5_0 : v2 = (1 : Int32)
  · rw [if_pos c5_0] at h
    refine g_swIn (tgt := 32) hx hb dX1_doStatement_5 (1 : Int32) c5_0 (by decide) (by decide) 27 (by decide) (by decide) ?_
    refine lv_aload_n hx hb dX1_doStatement_32 rfl (lv_at hl 0 rfl) ?_
    refine lv_aload_n hx hb dX1_doStatement_33 rfl (lv_at hl 1 rfl) ?_
    refine lv_iload_n hx hb dX1_doStatement_34 rfl (lv_at hl 2 rfl) ?_
    obtain ⟨u35, i35, h⟩ := Option.bind_eq_some_iff.mp h
    obtain ⟨v35, e35, h⟩ := Option.bind_eq_some_iff.mp h
    refine g_cVi (As := [.int x2]) (rest := [.ref a0]) (n := 1) hx hb hml hown hts hK hlo hG (m_X4_targetOf l dd cT lo G a1 x2 e35) qM_X1_77 qI_yX4_targetOf qS_X4_yX4_targetOf qN_X4 qC_yX4_targetOf (by decide +kernel) ⟨Nat.le_of_ble_eq_true rfl, Nat.le_of_ble_eq_true rfl⟩ (by rfl) i35 rfl hl.1 rfl (Nat.le_of_ble_eq_true rfl) dX1_doStatement_35 ⟨Nat.le_of_ble_eq_true rfl, Nat.le_of_ble_eq_true rfl⟩ (fun H locs hG => ?_)
    refine lv_aload_n hx hb dX1_doStatement_38 rfl (lv_at hl 1 rfl) ?_
    refine lv_iload_n hx hb dX1_doStatement_39 rfl (lv_at hl 2 rfl) ?_
    obtain ⟨u40, i40, h⟩ := Option.bind_eq_some_iff.mp h
    obtain ⟨v40, e40, h⟩ := Option.bind_eq_some_iff.mp h
    refine g_cVi (As := [.int x2]) (rest := [.int v35, .ref a0]) (n := 1) hx hb hml hown hts hK hlo hG (m_X4_lengthOf l dd cT lo G a1 x2 e40) qM_X1_80 qI_yX4_lengthOf qS_X4_yX4_lengthOf qN_X4 qC_yX4_lengthOf (by decide +kernel) ⟨Nat.le_of_ble_eq_true rfl, Nat.le_of_ble_eq_true rfl⟩ (by rfl) i40 rfl hl.1 rfl (Nat.le_of_ble_eq_true rfl) dX1_doStatement_40 ⟨Nat.le_of_ble_eq_true rfl, Nat.le_of_ble_eq_true rfl⟩ (fun H locs hG => ?_)
    refine lv_aload_n hx hb dX1_doStatement_43 rfl (lv_at hl 1 rfl) ?_
    refine lv_iload_n hx hb dX1_doStatement_44 rfl (lv_at hl 2 rfl) ?_
    obtain ⟨u45, i45, h⟩ := Option.bind_eq_some_iff.mp h
    obtain ⟨v45, e45, h⟩ := Option.bind_eq_some_iff.mp h
    refine g_cVi (As := [.int x2]) (rest := [.int v40, .int v35, .ref a0]) (n := 1) hx hb hml hown hts hK hlo hG (m_X4_tagOf l dd cT lo G a1 x2 e45) qM_X1_94 qI_yX4_tagOf qS_X4_yX4_tagOf qN_X4 qC_yX4_tagOf (by decide +kernel) ⟨Nat.le_of_ble_eq_true rfl, Nat.le_of_ble_eq_true rfl⟩ (by rfl) i45 rfl hl.1 rfl (Nat.le_of_ble_eq_true rfl) dX1_doStatement_45 ⟨Nat.le_of_ble_eq_true rfl, Nat.le_of_ble_eq_true rfl⟩ (fun H locs hG => ?_)
    obtain ⟨u48, i48, h⟩ := Option.bind_eq_some_iff.mp h
    obtain ⟨q48, e48, h⟩ := Option.bind_eq_some_iff.mp h
    refine g_cVi (As := [.int v35, .int v40, .int v45]) (rest := []) (n := 3) hx hb hml hown hts hK hlo hG (m_X1_writeVersion l dd cT lo G a0 v35 v40 v45 e48) qM_X1_97 qI_yX1_writeVersion qS_X1_yX1_writeVersion qN_X1 qC_yX1_writeVersion (by decide +kernel) ⟨Nat.le_of_ble_eq_true rfl, Nat.le_of_ble_eq_true rfl⟩ (by rfl) i48 rfl hl.1 rfl (Nat.le_of_ble_eq_true rfl) dX1_doStatement_48 ⟨Nat.le_of_ble_eq_true rfl, Nat.le_of_ble_eq_true rfl⟩ (fun H locs hG => ?_)
    refine lv_pop hx hb dX1_doStatement_51 rfl ?_
    refine lv_goto (tgt := 87) hx hb dX1_doStatement_52 (by decide) ?_
    obtain rfl := Option.some.inj h
    exact g_vret hx hb hr hlocks hK hlo hG rfl dX1_doStatement_87
  rw [if_neg c5_0] at h
  by_cases c5_1 : v2 = (2 : Int32)
  · rw [if_pos c5_1] at h
    refine g_swIn (tgt := 55) hx hb dX1_doStatement_5 (2 : Int32) c5_1 (by decide) (by decide) 50 (by decide) (by decide) ?_
    refine lv_aload_n hx hb dX1_doStatement_55 rfl (lv_at hl 0 rfl) ?_
    refine lv_aload_n hx hb dX1_doStatement_56 rfl (lv_at hl 1 rfl) ?_
    refine lv_iload_n hx hb dX1_doStatement_57 rfl (lv_at hl 2 rfl) ?_
    obtain ⟨u58, i58, h⟩ := Option.bind_eq_some_iff.mp h
    obtain ⟨v58, e58, h⟩ := Option.bind_eq_some_iff.mp h
    refine g_cVi (As := [.int x2]) (rest := [.ref a0]) (n := 1) hx hb hml hown hts hK hlo hG (m_X4_targetOf l dd cT lo G a1 x2 e58) qM_X1_77 qI_yX4_targetOf qS_X4_yX4_targetOf qN_X4 qC_yX4_targetOf (by decide +kernel) ⟨Nat.le_of_ble_eq_true rfl, Nat.le_of_ble_eq_true rfl⟩ (by rfl) i58 rfl hl.1 rfl (Nat.le_of_ble_eq_true rfl) dX1_doStatement_58 ⟨Nat.le_of_ble_eq_true rfl, Nat.le_of_ble_eq_true rfl⟩ (fun H locs hG => ?_)
    obtain ⟨u61, i61, h⟩ := Option.bind_eq_some_iff.mp h
    obtain ⟨G61, e61, h⟩ := Option.bind_eq_some_iff.mp h
    refine g_cVv (As := [.int v58]) (rest := []) (n := 1) hx hb hml hown hts hK hlo hG (m_X1_eraseFile l dd cT lo G a0 v58 e61) qM_X1_101 qI_yX1_eraseFile qS_X1_yX1_eraseFile qN_X1 qC_yX1_eraseFile (by decide +kernel) ⟨Nat.le_of_ble_eq_true rfl, Nat.le_of_ble_eq_true rfl⟩ (by rfl) i61 rfl hl.1 rfl (Nat.le_of_ble_eq_true rfl) dX1_doStatement_61 ⟨Nat.le_of_ble_eq_true rfl, Nat.le_of_ble_eq_true rfl⟩ (fun H locs hG => ?_)
    refine lv_goto (tgt := 87) hx hb dX1_doStatement_64 (by decide) ?_
    obtain rfl := Option.some.inj h
    exact g_vret hx hb hr hlocks hK hlo hG rfl dX1_doStatement_87
  rw [if_neg c5_1] at h
  by_cases c5_2 : v2 = (3 : Int32)
  · rw [if_pos c5_2] at h
    refine g_swIn (tgt := 67) hx hb dX1_doStatement_5 (3 : Int32) c5_2 (by decide) (by decide) 62 (by decide) (by decide) ?_
    refine lv_aload_n hx hb dX1_doStatement_67 rfl (lv_at hl 0 rfl) ?_
    obtain ⟨u68, i68, h⟩ := Option.bind_eq_some_iff.mp h
    obtain ⟨q68, e68, h⟩ := Option.bind_eq_some_iff.mp h
    refine g_cVi (As := []) (rest := []) (n := 0) hx hb hml hown hts hK hlo hG (m_X1_closeSession l dd cT lo G a0 e68) qM_X1_105 qI_yX1_closeSession qS_X1_yX1_closeSession qN_X1 qC_yX1_closeSession (by decide +kernel) ⟨Nat.le_of_ble_eq_true rfl, Nat.le_of_ble_eq_true rfl⟩ (by rfl) i68 rfl hl.1 rfl (Nat.le_of_ble_eq_true rfl) dX1_doStatement_68 ⟨Nat.le_of_ble_eq_true rfl, Nat.le_of_ble_eq_true rfl⟩ (fun H locs hG => ?_)
    refine lv_pop hx hb dX1_doStatement_71 rfl ?_
    refine lv_goto (tgt := 87) hx hb dX1_doStatement_72 (by decide) ?_
    obtain rfl := Option.some.inj h
    exact g_vret hx hb hr hlocks hK hlo hG rfl dX1_doStatement_87
  rw [if_neg c5_2] at h
  have z5 : v2.toInt < 1 ∨ 3 < v2.toInt := by
    have y0 : ¬ v2.toInt = 1 := fun w => c5_0 (Int32.toInt_inj.mp (by rw [w]; rfl))
    have y1 : ¬ v2.toInt = 2 := fun w => c5_1 (Int32.toInt_inj.mp (by rw [w]; rfl))
    have y2 : ¬ v2.toInt = 3 := fun w => c5_2 (Int32.toInt_inj.mp (by rw [w]; rfl))
    omega
  refine lv_tableOut (tgt := 75) hx hb dX1_doStatement_5 z5 (by decide) ?_
  refine lv_aload_n hx hb dX1_doStatement_75 rfl (lv_at hl 0 rfl) ?_
  obtain ⟨v76, e76, h⟩ := Option.bind_eq_some_iff.mp h
  refine g_getr hx hb hts inlX1 hown hK hG (by rfl) 0 (by decide) qF_X1_12 e76 dX1_doStatement_76 ?_
  refine lv_aload_n hx hb dX1_doStatement_79 rfl (lv_at hl 1 rfl) ?_
  refine lv_iload_n hx hb dX1_doStatement_80 rfl (lv_at hl 2 rfl) ?_
  obtain ⟨u81, i81, h⟩ := Option.bind_eq_some_iff.mp h
  obtain ⟨v81, e81, h⟩ := Option.bind_eq_some_iff.mp h
  refine g_cVi (As := [.int x2]) (rest := [.ref v76]) (n := 1) hx hb hml hown hts hK hlo hG (m_X4_targetOf l dd cT lo G a1 x2 e81) qM_X1_77 qI_yX4_targetOf qS_X4_yX4_targetOf qN_X4 qC_yX4_targetOf (by decide +kernel) ⟨Nat.le_of_ble_eq_true rfl, Nat.le_of_ble_eq_true rfl⟩ (by rfl) i81 rfl hl.1 rfl (Nat.le_of_ble_eq_true rfl) dX1_doStatement_81 ⟨Nat.le_of_ble_eq_true rfl, Nat.le_of_ble_eq_true rfl⟩ (fun H locs hG => ?_)
  obtain ⟨u84, i84, h⟩ := Option.bind_eq_some_iff.mp h
  obtain ⟨G84, e84, h⟩ := Option.bind_eq_some_iff.mp h
  refine g_cVv (As := [.int v81]) (rest := []) (n := 1) hx hb hml hown hts hK hlo hG (m_X0_makeBad l dd cT lo G v76 v81 e84) qM_X1_108 qI_yX0_makeBad qS_X0_yX0_makeBad qN_X0 qC_yX0_makeBad (by decide +kernel) ⟨Nat.le_of_ble_eq_true rfl, Nat.le_of_ble_eq_true rfl⟩ (by rfl) i84 rfl hl.1 rfl (Nat.le_of_ble_eq_true rfl) dX1_doStatement_84 ⟨Nat.le_of_ble_eq_true rfl, Nat.le_of_ble_eq_true rfl⟩ (fun H locs hG => ?_)
  obtain rfl := Option.some.inj h
  exact g_vret hx hb hr hlocks hK hlo hG rfl dX1_doStatement_87

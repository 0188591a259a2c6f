/-! Lifted methods, by program (wip/whole/tools/lift.py). -/
def f_X10_finds (G : gH) (a0 : Nat) (x1 : Int32) : Option gH :=
    (g_ob G a0 10).bind fun u1 =>
    (f_X10_searches G a0).bind fun G1 =>
    (g_ob G1 a0 10).bind fun u8 =>
    (f_X10_seeks G1 a0 x1 (12 : Int32)).bind fun G8 =>
    some G8
set_option maxRecDepth 20000 in
set_option maxHeartbeats 4000000 in
theorem m_X10_finds (l : Launch) (dd : va_G) (cT : Nat → ClassId) (lo : Nat) (G : gH) (a0 : Nat) (x1 : Int32) {Gz : gH} (h : f_X10_finds G a0 x1 = some Gz) : Met l yX10_finds (Cond.code yX10_finds cX10_finds 2 none :: wsL_law) (g_rm 4 89 0 0) (va_Pc [.ref a0, .int x1] (g_Pre lo dd cT G)) (va_Qv (g_iv Gz) (g_Pre lo dd cT) (g_A lo)) 0 0 (g_A lo) := by
  refine g_start RX10 rfl (by decide) (Nat.le_of_ble_eq_true rfl) ?_
  intro p e s m below meth c hx hb hr hlocks hml hown hnm hts hK hG hlo ls hl
  have hl : lv_has ls 2 [(0, .ref a0), (1, .int x1)] := hl
  have hG : g_S lo dd cT s s.heap [] G := hG
  unfold f_X10_finds at h
  refine lv_aload_n hx hb dX10_finds_0 rfl (lv_at hl 0 rfl) ?_
  obtain ⟨u1, i1, h⟩ := Option.bind_eq_some_iff.mp h
  obtain ⟨G1, e1, h⟩ := Option.bind_eq_some_iff.mp h
  refine g_cVv (As := []) (rest := []) (n := 0) hx hb hml hown hts hK hlo hG (m_X10_searches l dd cT lo G a0 e1) qM_X10_242 qI_yX10_searches qS_X10_yX10_searches qN_X10 qC_yX10_searches (by decide +kernel) ⟨Nat.le_of_ble_eq_true rfl, Nat.le_of_ble_eq_true rfl⟩ (by rfl) i1 rfl hl.1 rfl (Nat.le_of_ble_eq_true rfl) dX10_finds_1 ⟨Nat.le_of_ble_eq_true rfl, Nat.le_of_ble_eq_true rfl⟩ (fun H locs hG => ?_)
  refine lv_aload_n hx hb dX10_finds_4 rfl (lv_at hl 0 rfl) ?_
  refine lv_iload_n hx hb dX10_finds_5 rfl (lv_at hl 1 rfl) ?_
  refine lv_bipush (v := (12 : Int32)) hx hb dX10_finds_6 (by decide) ?_
  obtain ⟨u8, i8, h⟩ := Option.bind_eq_some_iff.mp h
  obtain ⟨G8, e8, h⟩ := Option.bind_eq_some_iff.mp h
  refine g_cVv (As := [.int x1, .int (12 : Int32)]) (rest := []) (n := 2) hx hb hml hown hts hK hlo hG (m_X10_seeks l dd cT lo G1 a0 x1 (12 : Int32) e8) qM_X10_245 qI_yX10_seeks qS_X10_yX10_seeks qN_X10 qC_yX10_seeks (by decide +kernel) ⟨Nat.le_of_ble_eq_true rfl, Nat.le_of_ble_eq_true rfl⟩ (by rfl) i8 rfl hl.1 rfl (Nat.le_of_ble_eq_true rfl) dX10_finds_8 ⟨Nat.le_of_ble_eq_true rfl, Nat.le_of_ble_eq_true rfl⟩ (fun H locs hG => ?_)
  obtain rfl := Option.some.inj h
  exact g_vret hx hb hr hlocks hK hlo hG rfl dX10_finds_11
def f_X10_isReadable (G : gH) (a0 : Nat) (x1 : Int32) : Option Int32 :=
    (g_ob G a0 10).bind fun u4 =>
    (f_X10_ofVersion G a0 x1 (1 : Int32)).bind fun v4 =>
    (g_ob G a0 10).bind fun u10 =>
    (f_X10_ofVersion G a0 x1 (2 : Int32)).bind fun v10 =>
    (g_ob G a0 10).bind fun u13 =>
    (f_X10_canRead G a0 v4 v10).bind fun v13 =>
    g_z v13
set_option maxRecDepth 20000 in
set_option maxHeartbeats 4000000 in
theorem m_X10_isReadable (l : Launch) (dd : va_G) (cT : Nat → ClassId) (lo : Nat) (G : gH) (a0 : Nat) (x1 : Int32) {rz : Int32} (h : f_X10_isReadable G a0 x1 = some rz) : Met l yX10_isReadable (Cond.code yX10_isReadable cX10_isReadable 2 (some .boolean) :: wsL_law) (g_rm 2 45 0 0) (va_Pc [.ref a0, .int x1] (g_Pre lo dd cT G)) (va_Qi (g_is rz G) (g_Pre lo dd cT) (g_A lo)) 0 0 (g_A lo) := by
  refine g_start RX10 rfl (by decide) (Nat.le_of_ble_eq_true rfl) ?_
  intro p e s m below meth c hx hb hr hlocks hml hown hnm hts hK hG hlo ls hl
  have hl : lv_has ls 2 [(0, .ref a0), (1, .int x1)] := hl
  have hG : g_S lo dd cT s s.heap [] G := hG
  unfold f_X10_isReadable at h
  refine lv_aload_n hx hb dX10_isReadable_0 rfl (lv_at hl 0 rfl) ?_
  refine lv_aload_n hx hb dX10_isReadable_1 rfl (lv_at hl 0 rfl) ?_
  refine lv_iload_n hx hb dX10_isReadable_2 rfl (lv_at hl 1 rfl) ?_
  refine lv_iconst (v := (1 : Int32)) hx hb dX10_isReadable_3 (by decide) ?_
  obtain ⟨u4, i4, h⟩ := Option.bind_eq_some_iff.mp h
  obtain ⟨v4, e4, h⟩ := Option.bind_eq_some_iff.mp h
  refine g_cVi (As := [.int x1, .int (1 : Int32)]) (rest := [.ref a0]) (n := 2) hx hb hml hown hts hK hlo hG (m_X10_ofVersion l dd cT lo G a0 x1 (1 : Int32) e4) qM_X10_249 qI_yX10_ofVersion qS_X10_yX10_ofVersion qN_X10 qC_yX10_ofVersion (by decide +kernel) ⟨Nat.le_of_ble_eq_true rfl, Nat.le_of_ble_eq_true rfl⟩ (by rfl) i4 rfl hl.1 rfl (Nat.le_of_ble_eq_true rfl) dX10_isReadable_4 ⟨Nat.le_of_ble_eq_true rfl, Nat.le_of_ble_eq_true rfl⟩ (fun H locs hG => ?_)
  refine lv_aload_n hx hb dX10_isReadable_7 rfl (lv_at hl 0 rfl) ?_
  refine lv_iload_n hx hb dX10_isReadable_8 rfl (lv_at hl 1 rfl) ?_
  refine lv_iconst (v := (2 : Int32)) hx hb dX10_isReadable_9 (by decide) ?_
  obtain ⟨u10, i10, h⟩ := Option.bind_eq_some_iff.mp h
  obtain ⟨v10, e10, h⟩ := Option.bind_eq_some_iff.mp h
  refine g_cVi (As := [.int x1, .int (2 : Int32)]) (rest := [.int v4, .ref a0]) (n := 2) hx hb hml hown hts hK hlo hG (m_X10_ofVersion l dd cT lo G a0 x1 (2 : Int32) e10) qM_X10_249 qI_yX10_ofVersion qS_X10_yX10_ofVersion qN_X10 qC_yX10_ofVersion (by decide +kernel) ⟨Nat.le_of_ble_eq_true rfl, Nat.le_of_ble_eq_true rfl⟩ (by rfl) i10 rfl hl.1 rfl (Nat.le_of_ble_eq_true rfl) dX10_isReadable_10 ⟨Nat.le_of_ble_eq_true rfl, Nat.le_of_ble_eq_true rfl⟩ (fun H locs hG => ?_)
  obtain ⟨u13, i13, h⟩ := Option.bind_eq_some_iff.mp h
  obtain ⟨v13, e13, h⟩ := Option.bind_eq_some_iff.mp h
  refine g_cVi (As := [.int v4, .int v10]) (rest := []) (n := 2) hx hb hml hown hts hK hlo hG (m_X10_canRead l dd cT lo G a0 v4 v10 e13) qM_X10_224 qI_yX10_canRead qS_X10_yX10_canRead qN_X10 qC_yX10_canRead (by decide +kernel) ⟨Nat.le_of_ble_eq_true rfl, Nat.le_of_ble_eq_true rfl⟩ (by rfl) i13 rfl hl.1 rfl (Nat.le_of_ble_eq_true rfl) dX10_isReadable_13 ⟨Nat.le_of_ble_eq_true rfl, Nat.le_of_ble_eq_true rfl⟩ (fun H locs hG => ?_)
  obtain ⟨n16, rfl⟩ := g_z_nar h
  exact g_zret hx hb hr hlocks hK hlo hG n16 ⟨rfl, rfl⟩ dX10_isReadable_16
def f_X10_filesThere_L8 : Nat → gH → Nat → Int32 → Int32 → Int32 → Option (gH × Int32)
  | 0, _, _, _, _, _ => none
  | n + 1, G, ba0, bx1, bx2, bx3 =>
    (g_r G ba0 10 1).bind fun v10 =>
    (g_ald 0 G v10 (2 : Int32)).bind fun v14 =>
    if v14 ≤ bx3 then
    some (G, bx2)
    else
    (g_ob G ba0 10).bind fun u21 =>
    (f_X10_seeks G ba0 bx3 bx1).bind fun G21 =>
    (g_i G21 ba0 10 20).bind fun v26 =>
    if v26 = (-1 : Int32) then
    f_X10_filesThere_L8 n G21 ba0 bx1 (bx2 + (0 : Int32)) (bx3 + (1 : Int32))
    else
    f_X10_filesThere_L8 n G21 ba0 bx1 (bx2 + (1 : Int32)) (bx3 + (1 : Int32))
def f_X10_filesThere (G : gH) (a0 : Nat) (x1 : Int32) : Option (gH × Int32) :=
    (g_ob G a0 10).bind fun u1 =>
    (f_X10_searches G a0).bind fun G1 =>
    f_X10_filesThere_L8 g_N G1 a0 x1 (0 : Int32) (0 : Int32)
set_option maxRecDepth 20000 in
set_option maxHeartbeats 4000000 in
theorem m_X10_filesThere (l : Launch) (dd : va_G) (cT : Nat → ClassId) (lo : Nat) (G : gH) (a0 : Nat) (x1 : Int32) {rz : Int32} {Gz : gH} (h : f_X10_filesThere G a0 x1 = some (Gz, rz)) : Met l yX10_filesThere (Cond.code yX10_filesThere cX10_filesThere 4 (some .int) :: wsL_law) (g_rm 4 89 0 0) (va_Pc [.ref a0, .int x1] (g_Pre lo dd cT G)) (va_Qi (g_is rz Gz) (g_Pre lo dd cT) (g_A lo)) 0 0 (g_A lo) := by
  refine g_start RX10 rfl (by decide) (Nat.le_of_ble_eq_true rfl) ?_
  intro p e s m below meth c hx hb hr hlocks hml hown hnm hts hK hG hlo ls hl
  have hl : lv_has ls 4 [(0, .ref a0), (1, .int x1)] := hl
  have hG : g_S lo dd cT s s.heap [] G := hG
  have h8 : ∀ n : Nat, ∀ (G : gH) (ba0 : Nat) (bx1 : Int32) (bx2 : Int32) (bx3 : Int32), ∀ (H : Heap) (locs : List Loc), g_S lo dd cT s H locs G → ∀ ls : Array Slot, lv_has ls 4 [(0, .ref ba0), (1, .int bx1), (2, .int bx2), (3, .int bx3)] → f_X10_filesThere_L8 n G ba0 bx1 bx2 bx3 = some (Gz, rz) → W p l e (g_rm 4 89 0 0) s m ([.ref a0, .int x1] : List Value).toArray below meth c H locs 0 0 (MQ below (va_Qi (g_is rz Gz) (g_Pre lo dd cT) (g_A lo)) ([.ref a0, .int x1] : List Value).toArray s 0 0 (g_A lo)) (F0 m 8 ls []) := by
    intro n
    induction n with
    | zero =>
      intro G ba0 bx1 bx2 bx3 H locs hG ls hl h
      cases (show (none : Option (gH × Int32)) = some (Gz, rz) from h)
    | succ n ih =>
      intro G ba0 bx1 bx2 bx3 H locs hG ls hl h
      rw [f_X10_filesThere_L8] at h
      refine lv_iload_n hx hb dX10_filesThere_8 rfl (lv_at hl 3 rfl) ?_
      refine lv_aload_n hx hb dX10_filesThere_9 rfl (lv_at hl 0 rfl) ?_
      obtain ⟨v10, e10, h⟩ := Option.bind_eq_some_iff.mp h
      refine g_getr hx hb hts inlX10 hown hK hG (by rfl) 1 (by decide) qF_X10_7 e10 dX10_filesThere_10 ?_
      refine lv_iconst (v := (2 : Int32)) hx hb dX10_filesThere_13 (by decide) ?_
      obtain ⟨v14, e14, h⟩ := Option.bind_eq_some_iff.mp h
      refine g_iald hx hb hK hG e14 dX10_filesThere_14 ?_
      refine lv_icmp_ge (tgt := 46) hx hb dX10_filesThere_15 (by decide) (fun c15 => ?_) (fun c15 => ?_)
      · rw [if_pos c15] at h
        refine lv_iload_n hx hb dX10_filesThere_46 rfl (lv_at hl 2 rfl) ?_
        obtain ⟨rfl, rfl⟩ := Prod.mk.inj (Option.some.inj h)
        exact g_iret hx hb hr hlocks hK hlo hG ⟨rfl, rfl⟩ dX10_filesThere_47
      · rw [if_neg c15] at h
        refine lv_aload_n hx hb dX10_filesThere_18 rfl (lv_at hl 0 rfl) ?_
        refine lv_iload_n hx hb dX10_filesThere_19 rfl (lv_at hl 3 rfl) ?_
        refine lv_iload_n hx hb dX10_filesThere_20 rfl (lv_at hl 1 rfl) ?_
        obtain ⟨u21, i21, h⟩ := Option.bind_eq_some_iff.mp h
        obtain ⟨G21, e21, h⟩ := Option.bind_eq_some_iff.mp h
        refine g_cVv (As := [.int bx3, .int bx1]) (rest := []) (n := 2) hx hb hml hown hts hK hlo hG (m_X10_seeks l dd cT lo G ba0 bx3 bx1 e21) qM_X10_245 qI_yX10_seeks qS_X10_yX10_seeks qN_X10 qC_yX10_seeks (by decide +kernel) ⟨Nat.le_of_ble_eq_true rfl, Nat.le_of_ble_eq_true rfl⟩ (by rfl) i21 rfl hl.1 rfl (Nat.le_of_ble_eq_true rfl) dX10_filesThere_21 ⟨Nat.le_of_ble_eq_true rfl, Nat.le_of_ble_eq_true rfl⟩ (fun H locs hG => ?_)
        refine lv_iload_n hx hb dX10_filesThere_24 rfl (lv_at hl 2 rfl) ?_
        refine lv_aload_n hx hb dX10_filesThere_25 rfl (lv_at hl 0 rfl) ?_
        obtain ⟨v26, e26, h⟩ := Option.bind_eq_some_iff.mp h
        refine g_geti hx hb hts inlX10 hown hK hG (by rfl) 20 (by decide) qF_X10_236 e26 dX10_filesThere_26 ?_
        refine lv_iconst (v := (-1 : Int32)) hx hb dX10_filesThere_29 (by decide) ?_
        refine lv_icmp_eq (tgt := 37) hx hb dX10_filesThere_30 (by decide) (fun c30 => ?_) (fun c30 => ?_)
        · rw [if_pos c30] at h
          refine lv_iconst (v := (0 : Int32)) hx hb dX10_filesThere_37 (by decide) ?_
          refine lv_iadd hx hb dX10_filesThere_38 ?_
          refine lv_istore_n (lv' := [(2, .int (bx2 + (0 : Int32))), (0, .ref ba0), (1, .int bx1), (3, .int bx3)]) hx hb dX10_filesThere_39 rfl hl (by decide) rfl (fun ls hl => ?_)
          refine lv_iinc (v := (bx3 + (1 : Int32))) (lv' := [(3, .int (bx3 + (1 : Int32))), (2, .int (bx2 + (0 : Int32))), (0, .ref ba0), (1, .int bx1)]) hx hb dX10_filesThere_40 hl (k := 3) rfl rfl (by decide) rfl (fun ls hl => ?_)
          refine lv_goto (tgt := 8) hx hb dX10_filesThere_43 (by decide) ?_
          exact ih G21 ba0 bx1 (bx2 + (0 : Int32)) (bx3 + (1 : Int32)) _ _ hG _ (lv_sub hl [2, 3, 1, 0] rfl) h
        · rw [if_neg c30] at h
          refine lv_iconst (v := (1 : Int32)) hx hb dX10_filesThere_33 (by decide) ?_
          refine lv_goto (tgt := 38) hx hb dX10_filesThere_34 (by decide) ?_
          refine lv_iadd hx hb dX10_filesThere_38 ?_
          refine lv_istore_n (lv' := [(2, .int (bx2 + (1 : Int32))), (0, .ref ba0), (1, .int bx1), (3, .int bx3)]) hx hb dX10_filesThere_39 rfl hl (by decide) rfl (fun ls hl => ?_)
          refine lv_iinc (v := (bx3 + (1 : Int32))) (lv' := [(3, .int (bx3 + (1 : Int32))), (2, .int (bx2 + (1 : Int32))), (0, .ref ba0), (1, .int bx1)]) hx hb dX10_filesThere_40 hl (k := 3) rfl rfl (by decide) rfl (fun ls hl => ?_)
          refine lv_goto (tgt := 8) hx hb dX10_filesThere_43 (by decide) ?_
          exact ih G21 ba0 bx1 (bx2 + (1 : Int32)) (bx3 + (1 : Int32)) _ _ hG _ (lv_sub hl [2, 3, 1, 0] rfl) h
  unfold f_X10_filesThere at h
  refine lv_aload_n hx hb dX10_filesThere_0 rfl (lv_at hl 0 rfl) ?_
  obtain ⟨u1, i1, h⟩ := Option.bind_eq_some_iff.mp h
  obtain ⟨G1, e1, h⟩ := Option.bind_eq_some_iff.mp h
  refine g_cVv (As := []) (rest := []) (n := 0) hx hb hml hown hts hK hlo hG (m_X10_searches l dd cT lo G a0 e1) qM_X10_242 qI_yX10_searches qS_X10_yX10_searches qN_X10 qC_yX10_searches (by decide +kernel) ⟨Nat.le_of_ble_eq_true rfl, Nat.le_of_ble_eq_true rfl⟩ (by rfl) i1 rfl hl.1 rfl (Nat.le_of_ble_eq_true rfl) dX10_filesThere_1 ⟨Nat.le_of_ble_eq_true rfl, Nat.le_of_ble_eq_true rfl⟩ (fun H locs hG => ?_)
  refine lv_iconst (v := (0 : Int32)) hx hb dX10_filesThere_4 (by decide) ?_
  refine lv_istore_n (lv' := [(2, .int (0 : Int32)), (0, .ref a0), (1, .int x1)]) hx hb dX10_filesThere_5 rfl hl (by decide) rfl (fun ls hl => ?_)
  refine lv_iconst (v := (0 : Int32)) hx hb dX10_filesThere_6 (by decide) ?_
  refine lv_istore_n (lv' := [(3, .int (0 : Int32)), (2, .int (0 : Int32)), (0, .ref a0), (1, .int x1)]) hx hb dX10_filesThere_7 rfl hl (by decide) rfl (fun ls hl => ?_)
  exact h8 g_N G1 a0 x1 (0 : Int32) (0 : Int32) _ _ hG _ (lv_sub hl [2, 3, 1, 0] rfl) h
def f_X10_goodFiles_L8 : Nat → gH → Nat → Int32 → Int32 → Option (gH × Int32)
  | 0, _, _, _, _ => none
  | n + 1, G, ba0, bx1, bx2 =>
    (g_r G ba0 10 1).bind fun v10 =>
    (g_ald 0 G v10 (2 : Int32)).bind fun v14 =>
    if v14 ≤ bx2 then
    some (G, bx1)
    else
    (g_ob G ba0 10).bind fun u22 =>
    (f_X10_seeks G ba0 bx2 (12 : Int32)).bind fun G22 =>
    (g_i G22 ba0 10 20).bind fun v27 =>
    if v27 = (-1 : Int32) then
    f_X10_goodFiles_L8 n G22 ba0 (bx1 ||| (0 : Int32)) (bx2 + (1 : Int32))
    else
    (g_i G22 ba0 10 20).bind fun v36 =>
    (g_ob G22 ba0 10).bind fun u39 =>
    (f_X10_isReadable G22 ba0 v36).bind fun v39 =>
    if v39 = 0 then
    f_X10_goodFiles_L8 n G22 ba0 (bx1 ||| (0 : Int32)) (bx2 + (1 : Int32))
    else
    f_X10_goodFiles_L8 n G22 ba0 (bx1 ||| ((1 : Int32) <<< (bx2 &&& 31))) (bx2 + (1 : Int32))
def f_X10_goodFiles (G : gH) (a0 : Nat) : Option (gH × Int32) :=
    (g_ob G a0 10).bind fun u1 =>
    (f_X10_searches G a0).bind fun G1 =>
    f_X10_goodFiles_L8 g_N G1 a0 (0 : Int32) (0 : Int32)
set_option maxRecDepth 20000 in
set_option maxHeartbeats 4000000 in
theorem m_X10_goodFiles (l : Launch) (dd : va_G) (cT : Nat → ClassId) (lo : Nat) (G : gH) (a0 : Nat) {rz : Int32} {Gz : gH} (h : f_X10_goodFiles G a0 = some (Gz, rz)) : Met l yX10_goodFiles (Cond.code yX10_goodFiles cX10_goodFiles 3 (some .int) :: wsL_law) (g_rm 4 89 0 0) (va_Pc [.ref a0] (g_Pre lo dd cT G)) (va_Qi (g_is rz Gz) (g_Pre lo dd cT) (g_A lo)) 0 0 (g_A lo) := by
  refine g_start RX10 rfl (by decide) (Nat.le_of_ble_eq_true rfl) ?_
  intro p e s m below meth c hx hb hr hlocks hml hown hnm hts hK hG hlo ls hl
  have hl : lv_has ls 3 [(0, .ref a0)] := hl
  have hG : g_S lo dd cT s s.heap [] G := hG
  have h8 : ∀ n : Nat, ∀ (G : gH) (ba0 : Nat) (bx1 : Int32) (bx2 : Int32), ∀ (H : Heap) (locs : List Loc), g_S lo dd cT s H locs G → ∀ ls : Array Slot, lv_has ls 3 [(0, .ref ba0), (1, .int bx1), (2, .int bx2)] → f_X10_goodFiles_L8 n G ba0 bx1 bx2 = some (Gz, rz) → W p l e (g_rm 4 89 0 0) s m ([.ref a0] : List Value).toArray below meth c H locs 0 0 (MQ below (va_Qi (g_is rz Gz) (g_Pre lo dd cT) (g_A lo)) ([.ref a0] : List Value).toArray s 0 0 (g_A lo)) (F0 m 8 ls []) := by
    intro n
    induction n with
    | zero =>
      intro G ba0 bx1 bx2 H locs hG ls hl h
      cases (show (none : Option (gH × Int32)) = some (Gz, rz) from h)
    | succ n ih =>
      intro G ba0 bx1 bx2 H locs hG ls hl h
      rw [f_X10_goodFiles_L8] at h
      refine lv_iload_n hx hb dX10_goodFiles_8 rfl (lv_at hl 2 rfl) ?_
      refine lv_aload_n hx hb dX10_goodFiles_9 rfl (lv_at hl 0 rfl) ?_
      obtain ⟨v10, e10, h⟩ := Option.bind_eq_some_iff.mp h
      refine g_getr hx hb hts inlX10 hown hK hG (by rfl) 1 (by decide) qF_X10_7 e10 dX10_goodFiles_10 ?_
      refine lv_iconst (v := (2 : Int32)) hx hb dX10_goodFiles_13 (by decide) ?_
      obtain ⟨v14, e14, h⟩ := Option.bind_eq_some_iff.mp h
      refine g_iald hx hb hK hG e14 dX10_goodFiles_14 ?_
      refine lv_icmp_ge (tgt := 60) hx hb dX10_goodFiles_15 (by decide) (fun c15 => ?_) (fun c15 => ?_)
      · rw [if_pos c15] at h
        refine lv_iload_n hx hb dX10_goodFiles_60 rfl (lv_at hl 1 rfl) ?_
        obtain ⟨rfl, rfl⟩ := Prod.mk.inj (Option.some.inj h)
        exact g_iret hx hb hr hlocks hK hlo hG ⟨rfl, rfl⟩ dX10_goodFiles_61
      · rw [if_neg c15] at h
        refine lv_aload_n hx hb dX10_goodFiles_18 rfl (lv_at hl 0 rfl) ?_
        refine lv_iload_n hx hb dX10_goodFiles_19 rfl (lv_at hl 2 rfl) ?_
        refine lv_bipush (v := (12 : Int32)) hx hb dX10_goodFiles_20 (by decide) ?_
        obtain ⟨u22, i22, h⟩ := Option.bind_eq_some_iff.mp h
        obtain ⟨G22, e22, h⟩ := Option.bind_eq_some_iff.mp h
        refine g_cVv (As := [.int bx2, .int (12 : Int32)]) (rest := []) (n := 2) hx hb hml hown hts hK hlo hG (m_X10_seeks l dd cT lo G ba0 bx2 (12 : Int32) e22) qM_X10_245 qI_yX10_seeks qS_X10_yX10_seeks qN_X10 qC_yX10_seeks (by decide +kernel) ⟨Nat.le_of_ble_eq_true rfl, Nat.le_of_ble_eq_true rfl⟩ (by rfl) i22 rfl hl.1 rfl (Nat.le_of_ble_eq_true rfl) dX10_goodFiles_22 ⟨Nat.le_of_ble_eq_true rfl, Nat.le_of_ble_eq_true rfl⟩ (fun H locs hG => ?_)
        refine lv_iload_n hx hb dX10_goodFiles_25 rfl (lv_at hl 1 rfl) ?_
        refine lv_aload_n hx hb dX10_goodFiles_26 rfl (lv_at hl 0 rfl) ?_
        obtain ⟨v27, e27, h⟩ := Option.bind_eq_some_iff.mp h
        refine g_geti hx hb hts inlX10 hown hK hG (by rfl) 20 (by decide) qF_X10_236 e27 dX10_goodFiles_27 ?_
        refine lv_iconst (v := (-1 : Int32)) hx hb dX10_goodFiles_30 (by decide) ?_
        refine lv_icmp_eq (tgt := 51) hx hb dX10_goodFiles_31 (by decide) (fun c31 => ?_) (fun c31 => ?_)
        · rw [if_pos c31] at h
          refine lv_iconst (v := (0 : Int32)) hx hb dX10_goodFiles_51 (by decide) ?_
          refine lv_ior hx hb dX10_goodFiles_52 ?_
          refine lv_istore_n (lv' := [(1, .int (bx1 ||| (0 : Int32))), (0, .ref ba0), (2, .int bx2)]) hx hb dX10_goodFiles_53 rfl hl (by decide) rfl (fun ls hl => ?_)
          refine lv_iinc (v := (bx2 + (1 : Int32))) (lv' := [(2, .int (bx2 + (1 : Int32))), (1, .int (bx1 ||| (0 : Int32))), (0, .ref ba0)]) hx hb dX10_goodFiles_54 hl (k := 2) rfl rfl (by decide) rfl (fun ls hl => ?_)
          refine lv_goto (tgt := 8) hx hb dX10_goodFiles_57 (by decide) ?_
          exact ih G22 ba0 (bx1 ||| (0 : Int32)) (bx2 + (1 : Int32)) _ _ hG _ (lv_sub hl [2, 1, 0] rfl) h
        · rw [if_neg c31] at h
          refine lv_aload_n hx hb dX10_goodFiles_34 rfl (lv_at hl 0 rfl) ?_
          refine lv_aload_n hx hb dX10_goodFiles_35 rfl (lv_at hl 0 rfl) ?_
          obtain ⟨v36, e36, h⟩ := Option.bind_eq_some_iff.mp h
          refine g_geti hx hb hts inlX10 hown hK hG (by rfl) 20 (by decide) qF_X10_236 e36 dX10_goodFiles_36 ?_
          obtain ⟨u39, i39, h⟩ := Option.bind_eq_some_iff.mp h
          obtain ⟨v39, e39, h⟩ := Option.bind_eq_some_iff.mp h
          refine g_cVi (As := [.int v36]) (rest := [.int bx1]) (n := 1) hx hb hml hown hts hK hlo hG (m_X10_isReadable l dd cT lo G22 ba0 v36 e39) qM_X10_252 qI_yX10_isReadable qS_X10_yX10_isReadable qN_X10 qC_yX10_isReadable (by decide +kernel) ⟨Nat.le_of_ble_eq_true rfl, Nat.le_of_ble_eq_true rfl⟩ (by rfl) i39 rfl hl.1 rfl (Nat.le_of_ble_eq_true rfl) dX10_goodFiles_39 ⟨Nat.le_of_ble_eq_true rfl, Nat.le_of_ble_eq_true rfl⟩ (fun H locs hG => ?_)
          refine lv_if_eq (tgt := 51) hx hb dX10_goodFiles_42 (by decide) (fun c42 => ?_) (fun c42 => ?_)
          · rw [if_pos c42] at h
            refine lv_iconst (v := (0 : Int32)) hx hb dX10_goodFiles_51 (by decide) ?_
            refine lv_ior hx hb dX10_goodFiles_52 ?_
            refine lv_istore_n (lv' := [(1, .int (bx1 ||| (0 : Int32))), (0, .ref ba0), (2, .int bx2)]) hx hb dX10_goodFiles_53 rfl hl (by decide) rfl (fun ls hl => ?_)
            refine lv_iinc (v := (bx2 + (1 : Int32))) (lv' := [(2, .int (bx2 + (1 : Int32))), (1, .int (bx1 ||| (0 : Int32))), (0, .ref ba0)]) hx hb dX10_goodFiles_54 hl (k := 2) rfl rfl (by decide) rfl (fun ls hl => ?_)
            refine lv_goto (tgt := 8) hx hb dX10_goodFiles_57 (by decide) ?_
            exact ih G22 ba0 (bx1 ||| (0 : Int32)) (bx2 + (1 : Int32)) _ _ hG _ (lv_sub hl [2, 1, 0] rfl) h
          · rw [if_neg c42] at h
            refine lv_iconst (v := (1 : Int32)) hx hb dX10_goodFiles_45 (by decide) ?_
            refine lv_iload_n hx hb dX10_goodFiles_46 rfl (lv_at hl 2 rfl) ?_
            refine lv_ishl hx hb dX10_goodFiles_47 ?_
            refine lv_goto (tgt := 52) hx hb dX10_goodFiles_48 (by decide) ?_
            refine lv_ior hx hb dX10_goodFiles_52 ?_
            refine lv_istore_n (lv' := [(1, .int (bx1 ||| ((1 : Int32) <<< (bx2 &&& 31)))), (0, .ref ba0), (2, .int bx2)]) hx hb dX10_goodFiles_53 rfl hl (by decide) rfl (fun ls hl => ?_)
            refine lv_iinc (v := (bx2 + (1 : Int32))) (lv' := [(2, .int (bx2 + (1 : Int32))), (1, .int (bx1 ||| ((1 : Int32) <<< (bx2 &&& 31)))), (0, .ref ba0)]) hx hb dX10_goodFiles_54 hl (k := 2) rfl rfl (by decide) rfl (fun ls hl => ?_)
            refine lv_goto (tgt := 8) hx hb dX10_goodFiles_57 (by decide) ?_
            exact ih G22 ba0 (bx1 ||| ((1 : Int32) <<< (bx2 &&& 31))) (bx2 + (1 : Int32)) _ _ hG _ (lv_sub hl [2, 1, 0] rfl) h
  unfold f_X10_goodFiles at h
  refine lv_aload_n hx hb dX10_goodFiles_0 rfl (lv_at hl 0 rfl) ?_
  obtain ⟨u1, i1, h⟩ := Option.bind_eq_some_iff.mp h
  obtain ⟨G1, e1, h⟩ := Option.bind_eq_some_iff.mp h
  refine g_cVv (As := []) (rest := []) (n := 0) hx hb hml hown hts hK hlo hG (m_X10_searches l dd cT lo G a0 e1) qM_X10_242 qI_yX10_searches qS_X10_yX10_searches qN_X10 qC_yX10_searches (by decide +kernel) ⟨Nat.le_of_ble_eq_true rfl, Nat.le_of_ble_eq_true rfl⟩ (by rfl) i1 rfl hl.1 rfl (Nat.le_of_ble_eq_true rfl) dX10_goodFiles_1 ⟨Nat.le_of_ble_eq_true rfl, Nat.le_of_ble_eq_true rfl⟩ (fun H locs hG => ?_)
  refine lv_iconst (v := (0 : Int32)) hx hb dX10_goodFiles_4 (by decide) ?_
  refine lv_istore_n (lv' := [(1, .int (0 : Int32)), (0, .ref a0)]) hx hb dX10_goodFiles_5 rfl hl (by decide) rfl (fun ls hl => ?_)
  refine lv_iconst (v := (0 : Int32)) hx hb dX10_goodFiles_6 (by decide) ?_
  refine lv_istore_n (lv' := [(2, .int (0 : Int32)), (1, .int (0 : Int32)), (0, .ref a0)]) hx hb dX10_goodFiles_7 rfl hl (by decide) rfl (fun ls hl => ?_)
  exact h8 g_N G1 a0 (0 : Int32) (0 : Int32) _ _ hG _ (lv_sub hl [2, 1, 0] rfl) h
def f_X10_ones_L4 (G : gH) : Nat → Int32 → Int32 → Option Int32
  | 0, _, _ => none
  | n + 1, bx1, bx2 =>
    if bx2 = 0 then
    some bx1
    else
    f_X10_ones_L4 G n (bx1 + (1 : Int32)) (bx2 &&& (bx2 - (1 : Int32)))
def f_X10_ones (G : gH) (x0 : Int32) : Option Int32 :=
    f_X10_ones_L4 G g_N (0 : Int32) x0
set_option maxRecDepth 20000 in
set_option maxHeartbeats 4000000 in
theorem m_X10_ones (l : Launch) (dd : va_G) (cT : Nat → ClassId) (lo : Nat) (G : gH) (x0 : Int32) {rz : Int32} (h : f_X10_ones G x0 = some rz) : Met l yX10_ones (Cond.code yX10_ones cX10_ones 3 (some .int) :: wsL_law) (g_rm 0 0 0 0) (va_Pc [.int x0] (g_Pre lo dd cT G)) (va_Qi (g_is rz G) (g_Pre lo dd cT) (g_A lo)) 0 0 (g_A lo) := by
  refine g_start RX10 rfl (by decide) (Nat.le_of_ble_eq_true rfl) ?_
  intro p e s m below meth c hx hb hr hlocks hml hown hnm hts hK hG hlo ls hl
  have hl : lv_has ls 3 [(0, .int x0)] := hl
  have hG : g_S lo dd cT s s.heap [] G := hG
  have h4 : ∀ n : Nat, ∀ (bx1 : Int32) (bx2 : Int32), ∀ (H : Heap) (locs : List Loc), g_S lo dd cT s H locs G → ∀ ls : Array Slot, lv_has ls 3 [(1, .int bx1), (2, .int bx2)] → f_X10_ones_L4 G n bx1 bx2 = some rz → W p l e (g_rm 0 0 0 0) s m ([.int x0] : List Value).toArray below meth c H locs 0 0 (MQ below (va_Qi (g_is rz G) (g_Pre lo dd cT) (g_A lo)) ([.int x0] : List Value).toArray s 0 0 (g_A lo)) (F0 m 4 ls []) := by
    intro n
    induction n with
    | zero =>
      intro bx1 bx2 H locs hG ls hl h
      cases (show (none : Option Int32) = some rz from h)
    | succ n ih =>
      intro bx1 bx2 H locs hG ls hl h
      rw [f_X10_ones_L4] at h
      refine lv_iload_n hx hb dX10_ones_4 rfl (lv_at hl 1 rfl) ?_
      refine lv_if_eq (tgt := 20) hx hb dX10_ones_5 (by decide) (fun c5 => ?_) (fun c5 => ?_)
      · rw [if_pos c5] at h
        refine lv_iload_n hx hb dX10_ones_20 rfl (lv_at hl 0 rfl) ?_
        obtain rfl := Option.some.inj h
        exact g_iret hx hb hr hlocks hK hlo hG ⟨rfl, rfl⟩ dX10_ones_21
      · rw [if_neg c5] at h
        refine lv_iinc (v := (bx1 + (1 : Int32))) (lv' := [(1, .int (bx1 + (1 : Int32))), (2, .int bx2)]) hx hb dX10_ones_8 hl (k := 0) rfl rfl (by decide) rfl (fun ls hl => ?_)
        refine lv_iload_n hx hb dX10_ones_11 rfl (lv_at hl 1 rfl) ?_
        refine lv_iload_n hx hb dX10_ones_12 rfl (lv_at hl 1 rfl) ?_
        refine lv_iconst (v := (1 : Int32)) hx hb dX10_ones_13 (by decide) ?_
        refine lv_isub hx hb dX10_ones_14 ?_
        refine lv_iand hx hb dX10_ones_15 ?_
        refine lv_istore_n (lv' := [(2, .int (bx2 &&& (bx2 - (1 : Int32)))), (1, .int (bx1 + (1 : Int32)))]) hx hb dX10_ones_16 rfl hl (by decide) rfl (fun ls hl => ?_)
        refine lv_goto (tgt := 4) hx hb dX10_ones_17 (by decide) ?_
        exact ih (bx1 + (1 : Int32)) (bx2 &&& (bx2 - (1 : Int32))) _ _ hG _ (lv_sub hl [1, 0] rfl) h
  unfold f_X10_ones at h
  refine lv_iconst (v := (0 : Int32)) hx hb dX10_ones_0 (by decide) ?_
  refine lv_istore_n (lv' := [(1, .int (0 : Int32)), (0, .int x0)]) hx hb dX10_ones_1 rfl hl (by decide) rfl (fun ls hl => ?_)
  refine lv_iload_n hx hb dX10_ones_2 rfl (lv_at hl 1 rfl) ?_
  refine lv_istore_n (lv' := [(2, .int x0), (1, .int (0 : Int32)), (0, .int x0)]) hx hb dX10_ones_3 rfl hl (by decide) rfl (fun ls hl => ?_)
  exact h4 g_N (0 : Int32) x0 _ _ hG _ (lv_sub hl [1, 0] rfl) h
def f_X10_entriesWith (G : gH) (a0 : Nat) (x1 : Int32) : Option Int32 :=
    (g_ob G a0 10).bind fun u1 =>
    (f_X10_isOpen G a0).bind fun v1 =>
    if v1 = 0 then
    some (1 : Int32)
    else
    (g_ob G a0 10).bind fun u11 =>
    (f_X10_latest G a0).bind fun v11 =>
    (g_ob G a0 10).bind fun u15 =>
    (f_X10_of G a0 v11 (2 : Int32)).bind fun v15 =>
    (g_ob G a0 10).bind fun u20 =>
    (f_X10_latest G a0).bind fun v20 =>
    (g_ob G a0 10).bind fun u24 =>
    (f_X10_entryOf G a0 v20 x1).bind fun v24 =>
    if v24 = (-1 : Int32) then
    some (v15 + (1 : Int32))
    else
    some (v15 + (0 : Int32))
set_option maxRecDepth 20000 in
set_option maxHeartbeats 4000000 in
theorem m_X10_entriesWith (l : Launch) (dd : va_G) (cT : Nat → ClassId) (lo : Nat) (G : gH) (a0 : Nat) (x1 : Int32) {rz : Int32} (h : f_X10_entriesWith G a0 x1 = some rz) : Met l yX10_entriesWith (Cond.code yX10_entriesWith cX10_entriesWith 2 (some .int) :: wsL_law) (g_rm 2 45 0 0) (va_Pc [.ref a0, .int x1] (g_Pre lo dd cT G)) (va_Qi (g_is rz G) (g_Pre lo dd cT) (g_A lo)) 0 0 (g_A lo) := by
  refine g_start RX10 rfl (by decide) (Nat.le_of_ble_eq_true rfl) ?_
  intro p e s m below meth c hx hb hr hlocks hml hown hnm hts hK hG hlo ls hl
  have hl : lv_has ls 2 [(0, .ref a0), (1, .int x1)] := hl
  have hG : g_S lo dd cT s s.heap [] G := hG
  unfold f_X10_entriesWith at h
  refine lv_aload_n hx hb dX10_entriesWith_0 rfl (lv_at hl 0 rfl) ?_
  obtain ⟨u1, i1, h⟩ := Option.bind_eq_some_iff.mp h
  obtain ⟨v1, e1, h⟩ := Option.bind_eq_some_iff.mp h
  refine g_cVi (As := []) (rest := []) (n := 0) hx hb hml hown hts hK hlo hG (m_X10_isOpen l dd cT lo G a0 e1) qM_X10_255 qI_yX10_isOpen qS_X10_yX10_isOpen qN_X10 qC_yX10_isOpen (by decide +kernel) ⟨Nat.le_of_ble_eq_true rfl, Nat.le_of_ble_eq_true rfl⟩ (by rfl) i1 rfl hl.1 rfl (Nat.le_of_ble_eq_true rfl) dX10_entriesWith_1 ⟨Nat.le_of_ble_eq_true rfl, Nat.le_of_ble_eq_true rfl⟩ (fun H locs hG => ?_)
  refine lv_if_ne (tgt := 9) hx hb dX10_entriesWith_4 (by decide) (fun c4 => ?_) (fun c4 => ?_)
  · rw [if_neg c4] at h
    refine lv_aload_n hx hb dX10_entriesWith_9 rfl (lv_at hl 0 rfl) ?_
    refine lv_aload_n hx hb dX10_entriesWith_10 rfl (lv_at hl 0 rfl) ?_
    obtain ⟨u11, i11, h⟩ := Option.bind_eq_some_iff.mp h
    obtain ⟨v11, e11, h⟩ := Option.bind_eq_some_iff.mp h
    refine g_cVi (As := []) (rest := [.ref a0]) (n := 0) hx hb hml hown hts hK hlo hG (m_X10_latest l dd cT lo G a0 e11) qM_X10_215 qI_yX10_latest qS_X10_yX10_latest qN_X10 qC_yX10_latest (by decide +kernel) ⟨Nat.le_of_ble_eq_true rfl, Nat.le_of_ble_eq_true rfl⟩ (by rfl) i11 rfl hl.1 rfl (Nat.le_of_ble_eq_true rfl) dX10_entriesWith_11 ⟨Nat.le_of_ble_eq_true rfl, Nat.le_of_ble_eq_true rfl⟩ (fun H locs hG => ?_)
    refine lv_iconst (v := (2 : Int32)) hx hb dX10_entriesWith_14 (by decide) ?_
    obtain ⟨u15, i15, h⟩ := Option.bind_eq_some_iff.mp h
    obtain ⟨v15, e15, h⟩ := Option.bind_eq_some_iff.mp h
    refine g_cVi (As := [.int v11, .int (2 : Int32)]) (rest := []) (n := 2) hx hb hml hown hts hK hlo hG (m_X10_of l dd cT lo G a0 v11 (2 : Int32) e15) qM_X10_218 qI_yX10_of qS_X10_yX10_of qN_X10 qC_yX10_of (by decide +kernel) ⟨Nat.le_of_ble_eq_true rfl, Nat.le_of_ble_eq_true rfl⟩ (by rfl) i15 rfl hl.1 rfl (Nat.le_of_ble_eq_true rfl) dX10_entriesWith_15 ⟨Nat.le_of_ble_eq_true rfl, Nat.le_of_ble_eq_true rfl⟩ (fun H locs hG => ?_)
    refine lv_aload_n hx hb dX10_entriesWith_18 rfl (lv_at hl 0 rfl) ?_
    refine lv_aload_n hx hb dX10_entriesWith_19 rfl (lv_at hl 0 rfl) ?_
    obtain ⟨u20, i20, h⟩ := Option.bind_eq_some_iff.mp h
    obtain ⟨v20, e20, h⟩ := Option.bind_eq_some_iff.mp h
    refine g_cVi (As := []) (rest := [.ref a0, .int v15]) (n := 0) hx hb hml hown hts hK hlo hG (m_X10_latest l dd cT lo G a0 e20) qM_X10_215 qI_yX10_latest qS_X10_yX10_latest qN_X10 qC_yX10_latest (by decide +kernel) ⟨Nat.le_of_ble_eq_true rfl, Nat.le_of_ble_eq_true rfl⟩ (by rfl) i20 rfl hl.1 rfl (Nat.le_of_ble_eq_true rfl) dX10_entriesWith_20 ⟨Nat.le_of_ble_eq_true rfl, Nat.le_of_ble_eq_true rfl⟩ (fun H locs hG => ?_)
    refine lv_iload_n hx hb dX10_entriesWith_23 rfl (lv_at hl 1 rfl) ?_
    obtain ⟨u24, i24, h⟩ := Option.bind_eq_some_iff.mp h
    obtain ⟨v24, e24, h⟩ := Option.bind_eq_some_iff.mp h
    refine g_cVi (As := [.int v20, .int x1]) (rest := [.int v15]) (n := 2) hx hb hml hown hts hK hlo hG (m_X10_entryOf l dd cT lo G a0 v20 x1 e24) qM_X10_239 qI_yX10_entryOf qS_X10_yX10_entryOf qN_X10 qC_yX10_entryOf (by decide +kernel) ⟨Nat.le_of_ble_eq_true rfl, Nat.le_of_ble_eq_true rfl⟩ (by rfl) i24 rfl hl.1 rfl (Nat.le_of_ble_eq_true rfl) dX10_entriesWith_24 ⟨Nat.le_of_ble_eq_true rfl, Nat.le_of_ble_eq_true rfl⟩ (fun H locs hG => ?_)
    refine lv_iconst (v := (-1 : Int32)) hx hb dX10_entriesWith_27 (by decide) ?_
    refine lv_icmp_ne (tgt := 35) hx hb dX10_entriesWith_28 (by decide) (fun c28 => ?_) (fun c28 => ?_)
    · rw [if_neg c28] at h
      refine lv_iconst (v := (0 : Int32)) hx hb dX10_entriesWith_35 (by decide) ?_
      refine lv_iadd hx hb dX10_entriesWith_36 ?_
      obtain rfl := Option.some.inj h
      exact g_iret hx hb hr hlocks hK hlo hG ⟨rfl, rfl⟩ dX10_entriesWith_37
    · rw [if_pos c28] at h
      refine lv_iconst (v := (1 : Int32)) hx hb dX10_entriesWith_31 (by decide) ?_
      refine lv_goto (tgt := 36) hx hb dX10_entriesWith_32 (by decide) ?_
      refine lv_iadd hx hb dX10_entriesWith_36 ?_
      obtain rfl := Option.some.inj h
      exact g_iret hx hb hr hlocks hK hlo hG ⟨rfl, rfl⟩ dX10_entriesWith_37
  · rw [if_pos c4] at h
    refine lv_iconst (v := (1 : Int32)) hx hb dX10_entriesWith_7 (by decide) ?_
    obtain rfl := Option.some.inj h
    exact g_iret hx hb hr hlocks hK hlo hG ⟨rfl, rfl⟩ dX10_entriesWith_8
def f_X10_whyWrite_J20 (G : gH) (ba0 : Nat) (bx1 : Int32) (bx2 : Int32) : Option Int32 :=
    (g_ob G ba0 10).bind fun u24 =>
    (f_X10_entriesWith G ba0 bx1).bind fun v24 =>
    (f_X10_directoryLong G v24).bind fun v27 =>
    (g_ob G ba0 10).bind fun u31 =>
    (f_X10_hasRoom G ba0 (bx2 + v27)).bind fun v31 =>
    if v31 = 0 then
    some (4 : Int32)
    else
    (g_ob G ba0 10).bind fun u43 =>
    (f_X10_hasSpare G ba0 bx2).bind fun v43 =>
    if v43 = 0 then
    some (5 : Int32)
    else
    some (0 : Int32)
def f_X10_whyWrite (G : gH) (a0 : Nat) (x1 : Int32) (x2 : Int32) : Option Int32 :=
    (g_ob G a0 10).bind fun u1 =>
    (f_X10_isOpen G a0).bind fun v1 =>
    if v1 = 0 then
    (g_r G a0 10 1).bind fun v8 =>
    (g_ald 0 G v8 (3 : Int32)).bind fun v12 =>
    if v12 = (12 : Int32) then
    some (3 : Int32)
    else
    f_X10_whyWrite_J20 G a0 x1 x2
    else
    f_X10_whyWrite_J20 G a0 x1 x2
set_option maxRecDepth 20000 in
set_option maxHeartbeats 4000000 in
theorem m_X10_whyWrite (l : Launch) (dd : va_G) (cT : Nat → ClassId) (lo : Nat) (G : gH) (a0 : Nat) (x1 : Int32) (x2 : Int32) {rz : Int32} (h : f_X10_whyWrite G a0 x1 x2 = some rz) : Met l yX10_whyWrite (Cond.code yX10_whyWrite cX10_whyWrite 3 (some .int) :: wsL_law) (g_rm 3 66 0 0) (va_Pc [.ref a0, .int x1, .int x2] (g_Pre lo dd cT G)) (va_Qi (g_is rz G) (g_Pre lo dd cT) (g_A lo)) 0 0 (g_A lo) := by
  refine g_start RX10 rfl (by decide) (Nat.le_of_ble_eq_true rfl) ?_
  intro p e s m below meth c hx hb hr hlocks hml hown hnm hts hK hG hlo ls hl
  have hl : lv_has ls 3 [(0, .ref a0), (1, .int x1), (2, .int x2)] := hl
  have hG : g_S lo dd cT s s.heap [] G := hG
  have h20 : ∀ (ba0 : Nat) (bx1 : Int32) (bx2 : Int32), ∀ (H : Heap) (locs : List Loc), g_S lo dd cT s H locs G → ∀ ls : Array Slot, lv_has ls 3 [(0, .ref ba0), (1, .int bx1), (2, .int bx2)] → f_X10_whyWrite_J20 G ba0 bx1 bx2 = some rz → W p l e (g_rm 3 66 0 0) s m ([.ref a0, .int x1, .int x2] : List Value).toArray below meth c H locs 0 0 (MQ below (va_Qi (g_is rz G) (g_Pre lo dd cT) (g_A lo)) ([.ref a0, .int x1, .int x2] : List Value).toArray s 0 0 (g_A lo)) (F0 m 20 ls []) := by
    intro ba0 bx1 bx2 H locs hG ls hl h
    unfold f_X10_whyWrite_J20 at h
    refine lv_aload_n hx hb dX10_whyWrite_20 rfl (lv_at hl 0 rfl) ?_
    refine lv_iload_n hx hb dX10_whyWrite_21 rfl (lv_at hl 2 rfl) ?_
    refine lv_aload_n hx hb dX10_whyWrite_22 rfl (lv_at hl 0 rfl) ?_
    refine lv_iload_n hx hb dX10_whyWrite_23 rfl (lv_at hl 1 rfl) ?_
    obtain ⟨u24, i24, h⟩ := Option.bind_eq_some_iff.mp h
    obtain ⟨v24, e24, h⟩ := Option.bind_eq_some_iff.mp h
    refine g_cVi (As := [.int bx1]) (rest := [.int bx2, .ref ba0]) (n := 1) hx hb hml hown hts hK hlo hG (m_X10_entriesWith l dd cT lo G ba0 bx1 e24) qM_X10_258 qI_yX10_entriesWith qS_X10_yX10_entriesWith qN_X10 qC_yX10_entriesWith (by decide +kernel) ⟨Nat.le_of_ble_eq_true rfl, Nat.le_of_ble_eq_true rfl⟩ (by rfl) i24 rfl hl.1 rfl (Nat.le_of_ble_eq_true rfl) dX10_whyWrite_24 ⟨Nat.le_of_ble_eq_true rfl, Nat.le_of_ble_eq_true rfl⟩ (fun H locs hG => ?_)
    obtain ⟨v27, e27, h⟩ := Option.bind_eq_some_iff.mp h
    refine g_cSi (As := [.int v24]) (rest := [.int bx2, .ref ba0]) (n := 1) hx hb hml hown hts hK hlo hG (m_X10_directoryLong l dd cT lo G v24 e27) qM_X10_221 qT_yX10_directoryLong qN_X10 qC_yX10_directoryLong (by decide +kernel) ⟨Nat.le_of_ble_eq_true rfl, Nat.le_of_ble_eq_true rfl⟩ rfl hl.1 rfl (Nat.le_of_ble_eq_true rfl) dX10_whyWrite_27 ⟨Nat.le_of_ble_eq_true rfl, Nat.le_of_ble_eq_true rfl⟩ (fun H locs hG => ?_)
    refine lv_iadd hx hb dX10_whyWrite_30 ?_
    obtain ⟨u31, i31, h⟩ := Option.bind_eq_some_iff.mp h
    obtain ⟨v31, e31, h⟩ := Option.bind_eq_some_iff.mp h
    refine g_cVi (As := [.int (bx2 + v27)]) (rest := []) (n := 1) hx hb hml hown hts hK hlo hG (m_X10_hasRoom l dd cT lo G ba0 (bx2 + v27) e31) qM_X10_261 qI_yX10_hasRoom qS_X10_yX10_hasRoom qN_X10 qC_yX10_hasRoom (by decide +kernel) ⟨Nat.le_of_ble_eq_true rfl, Nat.le_of_ble_eq_true rfl⟩ (by rfl) i31 rfl hl.1 rfl (Nat.le_of_ble_eq_true rfl) dX10_whyWrite_31 ⟨Nat.le_of_ble_eq_true rfl, Nat.le_of_ble_eq_true rfl⟩ (fun H locs hG => ?_)
    refine lv_if_ne (tgt := 41) hx hb dX10_whyWrite_34 (by decide) (fun c34 => ?_) (fun c34 => ?_)
    · rw [if_neg c34] at h
      refine lv_aload_n hx hb dX10_whyWrite_41 rfl (lv_at hl 0 rfl) ?_
      refine lv_iload_n hx hb dX10_whyWrite_42 rfl (lv_at hl 2 rfl) ?_
      obtain ⟨u43, i43, h⟩ := Option.bind_eq_some_iff.mp h
      obtain ⟨v43, e43, h⟩ := Option.bind_eq_some_iff.mp h
      refine g_cVi (As := [.int bx2]) (rest := []) (n := 1) hx hb hml hown hts hK hlo hG (m_X10_hasSpare l dd cT lo G ba0 bx2 e43) qM_X10_264 qI_yX10_hasSpare qS_X10_yX10_hasSpare qN_X10 qC_yX10_hasSpare (by decide +kernel) ⟨Nat.le_of_ble_eq_true rfl, Nat.le_of_ble_eq_true rfl⟩ (by rfl) i43 rfl hl.1 rfl (Nat.le_of_ble_eq_true rfl) dX10_whyWrite_43 ⟨Nat.le_of_ble_eq_true rfl, Nat.le_of_ble_eq_true rfl⟩ (fun H locs hG => ?_)
      refine lv_if_eq (tgt := 53) hx hb dX10_whyWrite_46 (by decide) (fun c46 => ?_) (fun c46 => ?_)
      · rw [if_pos c46] at h
        refine lv_iconst (v := (5 : Int32)) hx hb dX10_whyWrite_53 (by decide) ?_
        obtain rfl := Option.some.inj h
        exact g_iret hx hb hr hlocks hK hlo hG ⟨rfl, rfl⟩ dX10_whyWrite_54
      · rw [if_neg c46] at h
        refine lv_iconst (v := (0 : Int32)) hx hb dX10_whyWrite_49 (by decide) ?_
        refine lv_goto (tgt := 54) hx hb dX10_whyWrite_50 (by decide) ?_
        obtain rfl := Option.some.inj h
        exact g_iret hx hb hr hlocks hK hlo hG ⟨rfl, rfl⟩ dX10_whyWrite_54
    · rw [if_pos c34] at h
      refine lv_iconst (v := (4 : Int32)) hx hb dX10_whyWrite_37 (by decide) ?_
      refine lv_goto (tgt := 54) hx hb dX10_whyWrite_38 (by decide) ?_
      obtain rfl := Option.some.inj h
      exact g_iret hx hb hr hlocks hK hlo hG ⟨rfl, rfl⟩ dX10_whyWrite_54
  unfold f_X10_whyWrite at h
  refine lv_aload_n hx hb dX10_whyWrite_0 rfl (lv_at hl 0 rfl) ?_
  obtain ⟨u1, i1, h⟩ := Option.bind_eq_some_iff.mp h
  obtain ⟨v1, e1, h⟩ := Option.bind_eq_some_iff.mp h
  refine g_cVi (As := []) (rest := []) (n := 0) hx hb hml hown hts hK hlo hG (m_X10_isOpen l dd cT lo G a0 e1) qM_X10_255 qI_yX10_isOpen qS_X10_yX10_isOpen qN_X10 qC_yX10_isOpen (by decide +kernel) ⟨Nat.le_of_ble_eq_true rfl, Nat.le_of_ble_eq_true rfl⟩ (by rfl) i1 rfl hl.1 rfl (Nat.le_of_ble_eq_true rfl) dX10_whyWrite_1 ⟨Nat.le_of_ble_eq_true rfl, Nat.le_of_ble_eq_true rfl⟩ (fun H locs hG => ?_)
  refine lv_if_ne (tgt := 20) hx hb dX10_whyWrite_4 (by decide) (fun c4 => ?_) (fun c4 => ?_)
  · rw [if_neg c4] at h
    exact h20 a0 x1 x2 _ _ hG _ (lv_sub hl [0, 1, 2] rfl) h
  · rw [if_pos c4] at h
    refine lv_aload_n hx hb dX10_whyWrite_7 rfl (lv_at hl 0 rfl) ?_
    obtain ⟨v8, e8, h⟩ := Option.bind_eq_some_iff.mp h
    refine g_getr hx hb hts inlX10 hown hK hG (by rfl) 1 (by decide) qF_X10_7 e8 dX10_whyWrite_8 ?_
    refine lv_iconst (v := (3 : Int32)) hx hb dX10_whyWrite_11 (by decide) ?_
    obtain ⟨v12, e12, h⟩ := Option.bind_eq_some_iff.mp h
    refine g_iald hx hb hK hG e12 dX10_whyWrite_12 ?_
    refine lv_bipush (v := (12 : Int32)) hx hb dX10_whyWrite_13 (by decide) ?_
    refine lv_icmp_ne (tgt := 20) hx hb dX10_whyWrite_15 (by decide) (fun c15 => ?_) (fun c15 => ?_)
    · rw [if_neg c15] at h
      exact h20 a0 x1 x2 _ _ hG _ (lv_sub hl [0, 1, 2] rfl) h
    · rw [if_pos c15] at h
      refine lv_iconst (v := (3 : Int32)) hx hb dX10_whyWrite_18 (by decide) ?_
      obtain rfl := Option.some.inj h
      exact g_iret hx hb hr hlocks hK hlo hG ⟨rfl, rfl⟩ dX10_whyWrite_19
def f_X10_whyErase_J35 (G : gH) (ba0 : Nat) (bx1 : Int32) : Option (gH × Int32) :=
    (g_ob G ba0 10).bind fun u38 =>
    (f_X10_entriesWith G ba0 bx1).bind fun v38 =>
    (f_X10_directoryLong G v38).bind fun v41 =>
    (g_ob G ba0 10).bind fun u44 =>
    (f_X10_hasRoom G ba0 v41).bind fun v44 =>
    if v44 = 0 then
    some (G, (4 : Int32))
    else
    some (G, (0 : Int32))
def f_X10_whyErase (G : gH) (a0 : Nat) (x1 : Int32) : Option (gH × Int32) :=
    (g_ob G a0 10).bind fun u2 =>
    (f_X10_finds G a0 x1).bind fun G2 =>
    (g_i G2 a0 10 20).bind fun v6 =>
    if v6 = (-1 : Int32) then
    some (G2, (2 : Int32))
    else
    (g_ob G2 a0 10).bind fun u16 =>
    (f_X10_isOpen G2 a0).bind fun v16 =>
    if v16 = 0 then
    (g_r G2 a0 10 1).bind fun v23 =>
    (g_ald 0 G2 v23 (3 : Int32)).bind fun v27 =>
    if v27 = (12 : Int32) then
    some (G2, (3 : Int32))
    else
    f_X10_whyErase_J35 G2 a0 x1
    else
    f_X10_whyErase_J35 G2 a0 x1
set_option maxRecDepth 20000 in
set_option maxHeartbeats 4000000 in
theorem m_X10_whyErase (l : Launch) (dd : va_G) (cT : Nat → ClassId) (lo : Nat) (G : gH) (a0 : Nat) (x1 : Int32) {rz : Int32} {Gz : gH} (h : f_X10_whyErase G a0 x1 = some (Gz, rz)) : Met l yX10_whyErase (Cond.code yX10_whyErase cX10_whyErase 2 (some .int) :: wsL_law) (g_rm 5 110 0 0) (va_Pc [.ref a0, .int x1] (g_Pre lo dd cT G)) (va_Qi (g_is rz Gz) (g_Pre lo dd cT) (g_A lo)) 0 0 (g_A lo) := by
  refine g_start RX10 rfl (by decide) (Nat.le_of_ble_eq_true rfl) ?_
  intro p e s m below meth c hx hb hr hlocks hml hown hnm hts hK hG hlo ls hl
  have hl : lv_has ls 2 [(0, .ref a0), (1, .int x1)] := hl
  have hG : g_S lo dd cT s s.heap [] G := hG
  have h35 : ∀ (G : gH) (ba0 : Nat) (bx1 : Int32), ∀ (H : Heap) (locs : List Loc), g_S lo dd cT s H locs G → ∀ ls : Array Slot, lv_has ls 2 [(0, .ref ba0), (1, .int bx1)] → f_X10_whyErase_J35 G ba0 bx1 = some (Gz, rz) → W p l e (g_rm 5 110 0 0) s m ([.ref a0, .int x1] : List Value).toArray below meth c H locs 0 0 (MQ below (va_Qi (g_is rz Gz) (g_Pre lo dd cT) (g_A lo)) ([.ref a0, .int x1] : List Value).toArray s 0 0 (g_A lo)) (F0 m 35 ls []) := by
    intro G ba0 bx1 H locs hG ls hl h
    unfold f_X10_whyErase_J35 at h
    refine lv_aload_n hx hb dX10_whyErase_35 rfl (lv_at hl 0 rfl) ?_
    refine lv_aload_n hx hb dX10_whyErase_36 rfl (lv_at hl 0 rfl) ?_
    refine lv_iload_n hx hb dX10_whyErase_37 rfl (lv_at hl 1 rfl) ?_
    obtain ⟨u38, i38, h⟩ := Option.bind_eq_some_iff.mp h
    obtain ⟨v38, e38, h⟩ := Option.bind_eq_some_iff.mp h
    refine g_cVi (As := [.int bx1]) (rest := [.ref ba0]) (n := 1) hx hb hml hown hts hK hlo hG (m_X10_entriesWith l dd cT lo G ba0 bx1 e38) qM_X10_258 qI_yX10_entriesWith qS_X10_yX10_entriesWith qN_X10 qC_yX10_entriesWith (by decide +kernel) ⟨Nat.le_of_ble_eq_true rfl, Nat.le_of_ble_eq_true rfl⟩ (by rfl) i38 rfl hl.1 rfl (Nat.le_of_ble_eq_true rfl) dX10_whyErase_38 ⟨Nat.le_of_ble_eq_true rfl, Nat.le_of_ble_eq_true rfl⟩ (fun H locs hG => ?_)
    obtain ⟨v41, e41, h⟩ := Option.bind_eq_some_iff.mp h
    refine g_cSi (As := [.int v38]) (rest := [.ref ba0]) (n := 1) hx hb hml hown hts hK hlo hG (m_X10_directoryLong l dd cT lo G v38 e41) qM_X10_221 qT_yX10_directoryLong qN_X10 qC_yX10_directoryLong (by decide +kernel) ⟨Nat.le_of_ble_eq_true rfl, Nat.le_of_ble_eq_true rfl⟩ rfl hl.1 rfl (Nat.le_of_ble_eq_true rfl) dX10_whyErase_41 ⟨Nat.le_of_ble_eq_true rfl, Nat.le_of_ble_eq_true rfl⟩ (fun H locs hG => ?_)
    obtain ⟨u44, i44, h⟩ := Option.bind_eq_some_iff.mp h
    obtain ⟨v44, e44, h⟩ := Option.bind_eq_some_iff.mp h
    refine g_cVi (As := [.int v41]) (rest := []) (n := 1) hx hb hml hown hts hK hlo hG (m_X10_hasRoom l dd cT lo G ba0 v41 e44) qM_X10_261 qI_yX10_hasRoom qS_X10_yX10_hasRoom qN_X10 qC_yX10_hasRoom (by decide +kernel) ⟨Nat.le_of_ble_eq_true rfl, Nat.le_of_ble_eq_true rfl⟩ (by rfl) i44 rfl hl.1 rfl (Nat.le_of_ble_eq_true rfl) dX10_whyErase_44 ⟨Nat.le_of_ble_eq_true rfl, Nat.le_of_ble_eq_true rfl⟩ (fun H locs hG => ?_)
    refine lv_if_eq (tgt := 54) hx hb dX10_whyErase_47 (by decide) (fun c47 => ?_) (fun c47 => ?_)
    · rw [if_pos c47] at h
      refine lv_iconst (v := (4 : Int32)) hx hb dX10_whyErase_54 (by decide) ?_
      obtain ⟨rfl, rfl⟩ := Prod.mk.inj (Option.some.inj h)
      exact g_iret hx hb hr hlocks hK hlo hG ⟨rfl, rfl⟩ dX10_whyErase_55
    · rw [if_neg c47] at h
      refine lv_iconst (v := (0 : Int32)) hx hb dX10_whyErase_50 (by decide) ?_
      refine lv_goto (tgt := 55) hx hb dX10_whyErase_51 (by decide) ?_
      obtain ⟨rfl, rfl⟩ := Prod.mk.inj (Option.some.inj h)
      exact g_iret hx hb hr hlocks hK hlo hG ⟨rfl, rfl⟩ dX10_whyErase_55
  unfold f_X10_whyErase at h
  refine lv_aload_n hx hb dX10_whyErase_0 rfl (lv_at hl 0 rfl) ?_
  refine lv_iload_n hx hb dX10_whyErase_1 rfl (lv_at hl 1 rfl) ?_
  obtain ⟨u2, i2, h⟩ := Option.bind_eq_some_iff.mp h
  obtain ⟨G2, e2, h⟩ := Option.bind_eq_some_iff.mp h
  refine g_cVv (As := [.int x1]) (rest := []) (n := 1) hx hb hml hown hts hK hlo hG (m_X10_finds l dd cT lo G a0 x1 e2) qM_X10_267 qI_yX10_finds qS_X10_yX10_finds qN_X10 qC_yX10_finds (by decide +kernel) ⟨Nat.le_of_ble_eq_true rfl, Nat.le_of_ble_eq_true rfl⟩ (by rfl) i2 rfl hl.1 rfl (Nat.le_of_ble_eq_true rfl) dX10_whyErase_2 ⟨Nat.le_of_ble_eq_true rfl, Nat.le_of_ble_eq_true rfl⟩ (fun H locs hG => ?_)
  refine lv_aload_n hx hb dX10_whyErase_5 rfl (lv_at hl 0 rfl) ?_
  obtain ⟨v6, e6, h⟩ := Option.bind_eq_some_iff.mp h
  refine g_geti hx hb hts inlX10 hown hK hG (by rfl) 20 (by decide) qF_X10_236 e6 dX10_whyErase_6 ?_
  refine lv_iconst (v := (-1 : Int32)) hx hb dX10_whyErase_9 (by decide) ?_
  refine lv_icmp_ne (tgt := 15) hx hb dX10_whyErase_10 (by decide) (fun c10 => ?_) (fun c10 => ?_)
  · rw [if_neg c10] at h
    refine lv_aload_n hx hb dX10_whyErase_15 rfl (lv_at hl 0 rfl) ?_
    obtain ⟨u16, i16, h⟩ := Option.bind_eq_some_iff.mp h
    obtain ⟨v16, e16, h⟩ := Option.bind_eq_some_iff.mp h
    refine g_cVi (As := []) (rest := []) (n := 0) hx hb hml hown hts hK hlo hG (m_X10_isOpen l dd cT lo G2 a0 e16) qM_X10_255 qI_yX10_isOpen qS_X10_yX10_isOpen qN_X10 qC_yX10_isOpen (by decide +kernel) ⟨Nat.le_of_ble_eq_true rfl, Nat.le_of_ble_eq_true rfl⟩ (by rfl) i16 rfl hl.1 rfl (Nat.le_of_ble_eq_true rfl) dX10_whyErase_16 ⟨Nat.le_of_ble_eq_true rfl, Nat.le_of_ble_eq_true rfl⟩ (fun H locs hG => ?_)
    refine lv_if_ne (tgt := 35) hx hb dX10_whyErase_19 (by decide) (fun c19 => ?_) (fun c19 => ?_)
    · rw [if_neg c19] at h
      exact h35 G2 a0 x1 _ _ hG _ (lv_sub hl [0, 1] rfl) h
    · rw [if_pos c19] at h
      refine lv_aload_n hx hb dX10_whyErase_22 rfl (lv_at hl 0 rfl) ?_
      obtain ⟨v23, e23, h⟩ := Option.bind_eq_some_iff.mp h
      refine g_getr hx hb hts inlX10 hown hK hG (by rfl) 1 (by decide) qF_X10_7 e23 dX10_whyErase_23 ?_
      refine lv_iconst (v := (3 : Int32)) hx hb dX10_whyErase_26 (by decide) ?_
      obtain ⟨v27, e27, h⟩ := Option.bind_eq_some_iff.mp h
      refine g_iald hx hb hK hG e27 dX10_whyErase_27 ?_
      refine lv_bipush (v := (12 : Int32)) hx hb dX10_whyErase_28 (by decide) ?_
      refine lv_icmp_ne (tgt := 35) hx hb dX10_whyErase_30 (by decide) (fun c30 => ?_) (fun c30 => ?_)
      · rw [if_neg c30] at h
        exact h35 G2 a0 x1 _ _ hG _ (lv_sub hl [0, 1] rfl) h
      · rw [if_pos c30] at h
        refine lv_iconst (v := (3 : Int32)) hx hb dX10_whyErase_33 (by decide) ?_
        obtain ⟨rfl, rfl⟩ := Prod.mk.inj (Option.some.inj h)
        exact g_iret hx hb hr hlocks hK hlo hG ⟨rfl, rfl⟩ dX10_whyErase_34
  · rw [if_pos c10] at h
    refine lv_iconst (v := (2 : Int32)) hx hb dX10_whyErase_13 (by decide) ?_
    obtain ⟨rfl, rfl⟩ := Prod.mk.inj (Option.some.inj h)
    exact g_iret hx hb hr hlocks hK hlo hG ⟨rfl, rfl⟩ dX10_whyErase_14
def f_X10_whyClose (G : gH) (a0 : Nat) : Option Int32 :=
    (g_ob G a0 10).bind fun u1 =>
    (f_X10_isOpen G a0).bind fun v1 =>
    if v1 = 0 then
    some (1 : Int32)
    else
    (g_ob G a0 10).bind fun u11 =>
    (f_X10_latest G a0).bind fun v11 =>
    (g_ob G a0 10).bind fun u15 =>
    (f_X10_of G a0 v11 (2 : Int32)).bind fun v15 =>
    (f_X10_directoryLong G v15).bind fun v18 =>
    (g_ob G a0 10).bind fun u24 =>
    (f_X10_hasRoom G a0 v18).bind fun v24 =>
    if v24 = 0 then
    some (4 : Int32)
    else
    (g_ob G a0 10).bind fun u36 =>
    (f_X10_hasSpare G a0 v18).bind fun v36 =>
    if v36 = 0 then
    some (5 : Int32)
    else
    some (0 : Int32)
set_option maxRecDepth 20000 in
set_option maxHeartbeats 4000000 in
theorem m_X10_whyClose (l : Launch) (dd : va_G) (cT : Nat → ClassId) (lo : Nat) (G : gH) (a0 : Nat) {rz : Int32} (h : f_X10_whyClose G a0 = some rz) : Met l yX10_whyClose (Cond.code yX10_whyClose cX10_whyClose 2 (some .int) :: wsL_law) (g_rm 2 43 0 0) (va_Pc [.ref a0] (g_Pre lo dd cT G)) (va_Qi (g_is rz G) (g_Pre lo dd cT) (g_A lo)) 0 0 (g_A lo) := by
  refine g_start RX10 rfl (by decide) (Nat.le_of_ble_eq_true rfl) ?_
  intro p e s m below meth c hx hb hr hlocks hml hown hnm hts hK hG hlo ls hl
  have hl : lv_has ls 2 [(0, .ref a0)] := hl
  have hG : g_S lo dd cT s s.heap [] G := hG
  unfold f_X10_whyClose at h
  refine lv_aload_n hx hb dX10_whyClose_0 rfl (lv_at hl 0 rfl) ?_
  obtain ⟨u1, i1, h⟩ := Option.bind_eq_some_iff.mp h
  obtain ⟨v1, e1, h⟩ := Option.bind_eq_some_iff.mp h
  refine g_cVi (As := []) (rest := []) (n := 0) hx hb hml hown hts hK hlo hG (m_X10_isOpen l dd cT lo G a0 e1) qM_X10_255 qI_yX10_isOpen qS_X10_yX10_isOpen qN_X10 qC_yX10_isOpen (by decide +kernel) ⟨Nat.le_of_ble_eq_true rfl, Nat.le_of_ble_eq_true rfl⟩ (by rfl) i1 rfl hl.1 rfl (Nat.le_of_ble_eq_true rfl) dX10_whyClose_1 ⟨Nat.le_of_ble_eq_true rfl, Nat.le_of_ble_eq_true rfl⟩ (fun H locs hG => ?_)
  refine lv_if_ne (tgt := 9) hx hb dX10_whyClose_4 (by decide) (fun c4 => ?_) (fun c4 => ?_)
  · rw [if_neg c4] at h
    refine lv_aload_n hx hb dX10_whyClose_9 rfl (lv_at hl 0 rfl) ?_
    refine lv_aload_n hx hb dX10_whyClose_10 rfl (lv_at hl 0 rfl) ?_
    obtain ⟨u11, i11, h⟩ := Option.bind_eq_some_iff.mp h
    obtain ⟨v11, e11, h⟩ := Option.bind_eq_some_iff.mp h
    refine g_cVi (As := []) (rest := [.ref a0]) (n := 0) hx hb hml hown hts hK hlo hG (m_X10_latest l dd cT lo G a0 e11) qM_X10_215 qI_yX10_latest qS_X10_yX10_latest qN_X10 qC_yX10_latest (by decide +kernel) ⟨Nat.le_of_ble_eq_true rfl, Nat.le_of_ble_eq_true rfl⟩ (by rfl) i11 rfl hl.1 rfl (Nat.le_of_ble_eq_true rfl) dX10_whyClose_11 ⟨Nat.le_of_ble_eq_true rfl, Nat.le_of_ble_eq_true rfl⟩ (fun H locs hG => ?_)
    refine lv_iconst (v := (2 : Int32)) hx hb dX10_whyClose_14 (by decide) ?_
    obtain ⟨u15, i15, h⟩ := Option.bind_eq_some_iff.mp h
    obtain ⟨v15, e15, h⟩ := Option.bind_eq_some_iff.mp h
    refine g_cVi (As := [.int v11, .int (2 : Int32)]) (rest := []) (n := 2) hx hb hml hown hts hK hlo hG (m_X10_of l dd cT lo G a0 v11 (2 : Int32) e15) qM_X10_218 qI_yX10_of qS_X10_yX10_of qN_X10 qC_yX10_of (by decide +kernel) ⟨Nat.le_of_ble_eq_true rfl, Nat.le_of_ble_eq_true rfl⟩ (by rfl) i15 rfl hl.1 rfl (Nat.le_of_ble_eq_true rfl) dX10_whyClose_15 ⟨Nat.le_of_ble_eq_true rfl, Nat.le_of_ble_eq_true rfl⟩ (fun H locs hG => ?_)
    obtain ⟨v18, e18, h⟩ := Option.bind_eq_some_iff.mp h
    refine g_cSi (As := [.int v15]) (rest := []) (n := 1) hx hb hml hown hts hK hlo hG (m_X10_directoryLong l dd cT lo G v15 e18) qM_X10_221 qT_yX10_directoryLong qN_X10 qC_yX10_directoryLong (by decide +kernel) ⟨Nat.le_of_ble_eq_true rfl, Nat.le_of_ble_eq_true rfl⟩ rfl hl.1 rfl (Nat.le_of_ble_eq_true rfl) dX10_whyClose_18 ⟨Nat.le_of_ble_eq_true rfl, Nat.le_of_ble_eq_true rfl⟩ (fun H locs hG => ?_)
    refine lv_istore_n (lv' := [(1, .int v18), (0, .ref a0)]) hx hb dX10_whyClose_21 rfl hl (by decide) rfl (fun ls hl => ?_)
    refine lv_aload_n hx hb dX10_whyClose_22 rfl (lv_at hl 1 rfl) ?_
    refine lv_iload_n hx hb dX10_whyClose_23 rfl (lv_at hl 0 rfl) ?_
    obtain ⟨u24, i24, h⟩ := Option.bind_eq_some_iff.mp h
    obtain ⟨v24, e24, h⟩ := Option.bind_eq_some_iff.mp h
    refine g_cVi (As := [.int v18]) (rest := []) (n := 1) hx hb hml hown hts hK hlo hG (m_X10_hasRoom l dd cT lo G a0 v18 e24) qM_X10_261 qI_yX10_hasRoom qS_X10_yX10_hasRoom qN_X10 qC_yX10_hasRoom (by decide +kernel) ⟨Nat.le_of_ble_eq_true rfl, Nat.le_of_ble_eq_true rfl⟩ (by rfl) i24 rfl hl.1 rfl (Nat.le_of_ble_eq_true rfl) dX10_whyClose_24 ⟨Nat.le_of_ble_eq_true rfl, Nat.le_of_ble_eq_true rfl⟩ (fun H locs hG => ?_)
    refine lv_if_ne (tgt := 34) hx hb dX10_whyClose_27 (by decide) (fun c27 => ?_) (fun c27 => ?_)
    · rw [if_neg c27] at h
      refine lv_aload_n hx hb dX10_whyClose_34 rfl (lv_at hl 1 rfl) ?_
      refine lv_iload_n hx hb dX10_whyClose_35 rfl (lv_at hl 0 rfl) ?_
      obtain ⟨u36, i36, h⟩ := Option.bind_eq_some_iff.mp h
      obtain ⟨v36, e36, h⟩ := Option.bind_eq_some_iff.mp h
      refine g_cVi (As := [.int v18]) (rest := []) (n := 1) hx hb hml hown hts hK hlo hG (m_X10_hasSpare l dd cT lo G a0 v18 e36) qM_X10_264 qI_yX10_hasSpare qS_X10_yX10_hasSpare qN_X10 qC_yX10_hasSpare (by decide +kernel) ⟨Nat.le_of_ble_eq_true rfl, Nat.le_of_ble_eq_true rfl⟩ (by rfl) i36 rfl hl.1 rfl (Nat.le_of_ble_eq_true rfl) dX10_whyClose_36 ⟨Nat.le_of_ble_eq_true rfl, Nat.le_of_ble_eq_true rfl⟩ (fun H locs hG => ?_)
      refine lv_if_eq (tgt := 46) hx hb dX10_whyClose_39 (by decide) (fun c39 => ?_) (fun c39 => ?_)
      · rw [if_pos c39] at h
        refine lv_iconst (v := (5 : Int32)) hx hb dX10_whyClose_46 (by decide) ?_
        obtain rfl := Option.some.inj h
        exact g_iret hx hb hr hlocks hK hlo hG ⟨rfl, rfl⟩ dX10_whyClose_47
      · rw [if_neg c39] at h
        refine lv_iconst (v := (0 : Int32)) hx hb dX10_whyClose_42 (by decide) ?_
        refine lv_goto (tgt := 47) hx hb dX10_whyClose_43 (by decide) ?_
        obtain rfl := Option.some.inj h
        exact g_iret hx hb hr hlocks hK hlo hG ⟨rfl, rfl⟩ dX10_whyClose_47
    · rw [if_pos c27] at h
      refine lv_iconst (v := (4 : Int32)) hx hb dX10_whyClose_30 (by decide) ?_
      refine lv_goto (tgt := 47) hx hb dX10_whyClose_31 (by decide) ?_
      obtain rfl := Option.some.inj h
      exact g_iret hx hb hr hlocks hK hlo hG ⟨rfl, rfl⟩ dX10_whyClose_47
  · rw [if_pos c4] at h
    refine lv_iconst (v := (1 : Int32)) hx hb dX10_whyClose_7 (by decide) ?_
    obtain rfl := Option.some.inj h
    exact g_iret hx hb hr hlocks hK hlo hG ⟨rfl, rfl⟩ dX10_whyClose_8
def f_X10_begins_L19 : Nat → gH → Nat → Int32 → Int32 → Option (gH × Int32)
  | 0, _, _, _, _ => none
  | n + 1, G, ba0, bx1, bx2 =>
    if (25 : Int32) ≤ bx2 then
    (g_r G ba0 10 1).bind fun v42 =>
    (g_ald 0 G v42 (4 : Int32)).bind fun v46 =>
    (g_ob G ba0 10).bind fun u47 =>
    (f_X10_sets G ba0 bx1 (1 : Int32) v46).bind fun G47 =>
    some (G47, bx1)
    else
    (g_ob G ba0 10).bind fun u29 =>
    (f_X10_sets G ba0 bx1 bx2 (0 : Int32)).bind fun G29 =>
    f_X10_begins_L19 n G29 ba0 bx1 (bx2 + (1 : Int32))
def f_X10_begins (G : gH) (a0 : Nat) : Option (gH × Int32) :=
    (g_r G a0 10 1).bind fun v1 =>
    (g_ald 0 G v1 (3 : Int32)).bind fun v5 =>
    (g_r G a0 10 1).bind fun v8 =>
    (g_ald 0 G v8 (3 : Int32)).bind fun v13 =>
    (g_ast 0 G v8 (3 : Int32) (v13 + (1 : Int32))).bind fun G16 =>
    f_X10_begins_L19 g_N G16 a0 v5 (0 : Int32)
set_option maxRecDepth 20000 in
set_option maxHeartbeats 4000000 in
theorem m_X10_begins (l : Launch) (dd : va_G) (cT : Nat → ClassId) (lo : Nat) (G : gH) (a0 : Nat) {rz : Int32} {Gz : gH} (h : f_X10_begins G a0 = some (Gz, rz)) : Met l yX10_begins (Cond.code yX10_begins cX10_begins 3 (some .int) :: wsL_law) (g_rm 1 23 0 0) (va_Pc [.ref a0] (g_Pre lo dd cT G)) (va_Qi (g_is rz Gz) (g_Pre lo dd cT) (g_A lo)) 0 0 (g_A lo) := by
  refine g_start RX10 rfl (by decide) (Nat.le_of_ble_eq_true rfl) ?_
  intro p e s m below meth c hx hb hr hlocks hml hown hnm hts hK hG hlo ls hl
  have hl : lv_has ls 3 [(0, .ref a0)] := hl
  have hG : g_S lo dd cT s s.heap [] G := hG
  have h19 : ∀ n : Nat, ∀ (G : gH) (ba0 : Nat) (bx1 : Int32) (bx2 : Int32), ∀ (H : Heap) (locs : List Loc), g_S lo dd cT s H locs G → ∀ ls : Array Slot, lv_has ls 3 [(0, .ref ba0), (1, .int bx1), (2, .int bx2)] → f_X10_begins_L19 n G ba0 bx1 bx2 = some (Gz, rz) → W p l e (g_rm 1 23 0 0) s m ([.ref a0] : List Value).toArray below meth c H locs 0 0 (MQ below (va_Qi (g_is rz Gz) (g_Pre lo dd cT) (g_A lo)) ([.ref a0] : List Value).toArray s 0 0 (g_A lo)) (F0 m 19 ls []) := by
    intro n
    induction n with
    | zero =>
      intro G ba0 bx1 bx2 H locs hG ls hl h
      cases (show (none : Option (gH × Int32)) = some (Gz, rz) from h)
    | succ n ih =>
      intro G ba0 bx1 bx2 H locs hG ls hl h
      rw [f_X10_begins_L19] at h
      refine lv_iload_n hx hb dX10_begins_19 rfl (lv_at hl 2 rfl) ?_
      refine lv_bipush (v := (25 : Int32)) hx hb dX10_begins_20 (by decide) ?_
      refine lv_icmp_ge (tgt := 38) hx hb dX10_begins_22 (by decide) (fun c22 => ?_) (fun c22 => ?_)
      · rw [if_pos c22] at h
        refine lv_aload_n hx hb dX10_begins_38 rfl (lv_at hl 0 rfl) ?_
        refine lv_iload_n hx hb dX10_begins_39 rfl (lv_at hl 1 rfl) ?_
        refine lv_iconst (v := (1 : Int32)) hx hb dX10_begins_40 (by decide) ?_
        refine lv_aload_n hx hb dX10_begins_41 rfl (lv_at hl 0 rfl) ?_
        obtain ⟨v42, e42, h⟩ := Option.bind_eq_some_iff.mp h
        refine g_getr hx hb hts inlX10 hown hK hG (by rfl) 1 (by decide) qF_X10_7 e42 dX10_begins_42 ?_
        refine lv_iconst (v := (4 : Int32)) hx hb dX10_begins_45 (by decide) ?_
        obtain ⟨v46, e46, h⟩ := Option.bind_eq_some_iff.mp h
        refine g_iald hx hb hK hG e46 dX10_begins_46 ?_
        obtain ⟨u47, i47, h⟩ := Option.bind_eq_some_iff.mp h
        obtain ⟨G47, e47, h⟩ := Option.bind_eq_some_iff.mp h
        refine g_cVv (As := [.int bx1, .int (1 : Int32), .int v46]) (rest := []) (n := 3) hx hb hml hown hts hK hlo hG (m_X10_sets l dd cT lo G ba0 bx1 (1 : Int32) v46 e47) qM_X10_270 qI_yX10_sets qS_X10_yX10_sets qN_X10 qC_yX10_sets (by decide +kernel) ⟨Nat.le_of_ble_eq_true rfl, Nat.le_of_ble_eq_true rfl⟩ (by rfl) i47 rfl hl.1 rfl (Nat.le_of_ble_eq_true rfl) dX10_begins_47 ⟨Nat.le_of_ble_eq_true rfl, Nat.le_of_ble_eq_true rfl⟩ (fun H locs hG => ?_)
        refine lv_iload_n hx hb dX10_begins_50 rfl (lv_at hl 1 rfl) ?_
        obtain ⟨rfl, rfl⟩ := Prod.mk.inj (Option.some.inj h)
        exact g_iret hx hb hr hlocks hK hlo hG ⟨rfl, rfl⟩ dX10_begins_51
      · rw [if_neg c22] at h
        refine lv_aload_n hx hb dX10_begins_25 rfl (lv_at hl 0 rfl) ?_
        refine lv_iload_n hx hb dX10_begins_26 rfl (lv_at hl 1 rfl) ?_
        refine lv_iload_n hx hb dX10_begins_27 rfl (lv_at hl 2 rfl) ?_
        refine lv_iconst (v := (0 : Int32)) hx hb dX10_begins_28 (by decide) ?_
        obtain ⟨u29, i29, h⟩ := Option.bind_eq_some_iff.mp h
        obtain ⟨G29, e29, h⟩ := Option.bind_eq_some_iff.mp h
        refine g_cVv (As := [.int bx1, .int bx2, .int (0 : Int32)]) (rest := []) (n := 3) hx hb hml hown hts hK hlo hG (m_X10_sets l dd cT lo G ba0 bx1 bx2 (0 : Int32) e29) qM_X10_270 qI_yX10_sets qS_X10_yX10_sets qN_X10 qC_yX10_sets (by decide +kernel) ⟨Nat.le_of_ble_eq_true rfl, Nat.le_of_ble_eq_true rfl⟩ (by rfl) i29 rfl hl.1 rfl (Nat.le_of_ble_eq_true rfl) dX10_begins_29 ⟨Nat.le_of_ble_eq_true rfl, Nat.le_of_ble_eq_true rfl⟩ (fun H locs hG => ?_)
        refine lv_iinc (v := (bx2 + (1 : Int32))) (lv' := [(2, .int (bx2 + (1 : Int32))), (0, .ref ba0), (1, .int bx1)]) hx hb dX10_begins_32 hl (k := 2) rfl rfl (by decide) rfl (fun ls hl => ?_)
        refine lv_goto (tgt := 19) hx hb dX10_begins_35 (by decide) ?_
        exact ih G29 ba0 bx1 (bx2 + (1 : Int32)) _ _ hG _ (lv_sub hl [1, 2, 0] rfl) h
  unfold f_X10_begins at h
  refine lv_aload_n hx hb dX10_begins_0 rfl (lv_at hl 0 rfl) ?_
  obtain ⟨v1, e1, h⟩ := Option.bind_eq_some_iff.mp h
  refine g_getr hx hb hts inlX10 hown hK hG (by rfl) 1 (by decide) qF_X10_7 e1 dX10_begins_1 ?_
  refine lv_iconst (v := (3 : Int32)) hx hb dX10_begins_4 (by decide) ?_
  obtain ⟨v5, e5, h⟩ := Option.bind_eq_some_iff.mp h
  refine g_iald hx hb hK hG e5 dX10_begins_5 ?_
  refine lv_istore_n (lv' := [(1, .int v5), (0, .ref a0)]) hx hb dX10_begins_6 rfl hl (by decide) rfl (fun ls hl => ?_)
  refine lv_aload_n hx hb dX10_begins_7 rfl (lv_at hl 1 rfl) ?_
  obtain ⟨v8, e8, h⟩ := Option.bind_eq_some_iff.mp h
  refine g_getr hx hb hts inlX10 hown hK hG (by rfl) 1 (by decide) qF_X10_7 e8 dX10_begins_8 ?_
  refine lv_iconst (v := (3 : Int32)) hx hb dX10_begins_11 (by decide) ?_
  refine lv_dup2_11 hx hb dX10_begins_12 rfl rfl ?_
  obtain ⟨v13, e13, h⟩ := Option.bind_eq_some_iff.mp h
  refine g_iald hx hb hK hG e13 dX10_begins_13 ?_
  refine lv_iconst (v := (1 : Int32)) hx hb dX10_begins_14 (by decide) ?_
  refine lv_iadd hx hb dX10_begins_15 ?_
  obtain ⟨G16, e16, h⟩ := Option.bind_eq_some_iff.mp h
  refine g_iast hx hb hK hG e16 dX10_begins_16 (fun H locs hG => ?_)
  refine lv_iconst (v := (0 : Int32)) hx hb dX10_begins_17 (by decide) ?_
  refine lv_istore_n (lv' := [(2, .int (0 : Int32)), (1, .int v5), (0, .ref a0)]) hx hb dX10_begins_18 rfl hl (by decide) rfl (fun ls hl => ?_)
  exact h19 g_N G16 a0 v5 (0 : Int32) _ _ hG _ (lv_sub hl [2, 1, 0] rfl) h
def f_X10_enters_J51 (G : gH) (ba0 : Nat) (bx1 : Int32) (bx2 : Int32) (bx3 : Int32) (bx4 : Int32) : Option gH :=
    (g_ob G ba0 10).bind fun u60 =>
    (f_X10_sets G ba0 bx3 ((5 : Int32) + ((2 : Int32) * bx4)) bx1).bind fun G60 =>
    (g_ob G60 ba0 10).bind fun u74 =>
    (f_X10_sets G60 ba0 bx3 (((5 : Int32) + ((2 : Int32) * bx4)) + (1 : Int32)) bx2).bind fun G74 =>
    some G74
def f_X10_enters_J18 (G : gH) (ba0 : Nat) (bx1 : Int32) (bx2 : Int32) (z0 : Int32) : Option gH :=
    (g_ob G ba0 10).bind fun u22 =>
    (f_X10_entryOf G ba0 z0 bx1).bind fun v22 =>
    if v22 = (-1 : Int32) then
    (g_ob G ba0 10).bind fun u36 =>
    (f_X10_of G ba0 z0 (2 : Int32)).bind fun v36 =>
    (g_ob G ba0 10).bind fun u48 =>
    (f_X10_sets G ba0 z0 (2 : Int32) (v36 + (1 : Int32))).bind fun G48 =>
    f_X10_enters_J51 G48 ba0 bx1 bx2 z0 v36
    else
    f_X10_enters_J51 G ba0 bx1 bx2 z0 v22
def f_X10_enters (G : gH) (a0 : Nat) (x1 : Int32) (x2 : Int32) : Option gH :=
    (g_ob G a0 10).bind fun u1 =>
    (f_X10_isOpen G a0).bind fun v1 =>
    if v1 = 0 then
    (g_ob G a0 10).bind fun u15 =>
    (f_X10_begins G a0).bind fun q15 =>
    f_X10_enters_J18 q15.1 a0 x1 x2 q15.2
    else
    (g_ob G a0 10).bind fun u8 =>
    (f_X10_latest G a0).bind fun v8 =>
    f_X10_enters_J18 G a0 x1 x2 v8
set_option maxRecDepth 20000 in
set_option maxHeartbeats 4000000 in
theorem m_X10_enters (l : Launch) (dd : va_G) (cT : Nat → ClassId) (lo : Nat) (G : gH) (a0 : Nat) (x1 : Int32) (x2 : Int32) {Gz : gH} (h : f_X10_enters G a0 x1 x2 = some Gz) : Met l yX10_enters (Cond.code yX10_enters cX10_enters 5 none :: wsL_law) (g_rm 2 45 0 0) (va_Pc [.ref a0, .int x1, .int x2] (g_Pre lo dd cT G)) (va_Qv (g_iv Gz) (g_Pre lo dd cT) (g_A lo)) 0 0 (g_A lo) := by
  refine g_start RX10 rfl (by decide) (Nat.le_of_ble_eq_true rfl) ?_
  intro p e s m below meth c hx hb hr hlocks hml hown hnm hts hK hG hlo ls hl
  have hl : lv_has ls 5 [(0, .ref a0), (1, .int x1), (2, .int x2)] := hl
  have hG : g_S lo dd cT s s.heap [] G := hG
  have h51 : ∀ (G : gH) (ba0 : Nat) (bx1 : Int32) (bx2 : Int32) (bx3 : Int32) (bx4 : Int32), ∀ (H : Heap) (locs : List Loc), g_S lo dd cT s H locs G → ∀ ls : Array Slot, lv_has ls 5 [(0, .ref ba0), (1, .int bx1), (2, .int bx2), (3, .int bx3), (4, .int bx4)] → f_X10_enters_J51 G ba0 bx1 bx2 bx3 bx4 = some Gz → W p l e (g_rm 2 45 0 0) s m ([.ref a0, .int x1, .int x2] : List Value).toArray below meth c H locs 0 0 (MQ below (va_Qv (g_iv Gz) (g_Pre lo dd cT) (g_A lo)) ([.ref a0, .int x1, .int x2] : List Value).toArray s 0 0 (g_A lo)) (F0 m 51 ls []) := by
    intro G ba0 bx1 bx2 bx3 bx4 H locs hG ls hl h
    unfold f_X10_enters_J51 at h
    refine lv_aload_n hx hb dX10_enters_51 rfl (lv_at hl 0 rfl) ?_
    refine lv_iload_n hx hb dX10_enters_52 rfl (lv_at hl 3 rfl) ?_
    refine lv_iconst (v := (5 : Int32)) hx hb dX10_enters_53 (by decide) ?_
    refine lv_iconst (v := (2 : Int32)) hx hb dX10_enters_54 (by decide) ?_
    refine lv_iload hx hb dX10_enters_55 (lv_at hl 4 rfl) ?_
    refine lv_imul hx hb dX10_enters_57 ?_
    refine lv_iadd hx hb dX10_enters_58 ?_
    refine lv_iload_n hx hb dX10_enters_59 rfl (lv_at hl 1 rfl) ?_
    obtain ⟨u60, i60, h⟩ := Option.bind_eq_some_iff.mp h
    obtain ⟨G60, e60, h⟩ := Option.bind_eq_some_iff.mp h
    refine g_cVv (As := [.int bx3, .int ((5 : Int32) + ((2 : Int32) * bx4)), .int bx1]) (rest := []) (n := 3) hx hb hml hown hts hK hlo hG (m_X10_sets l dd cT lo G ba0 bx3 ((5 : Int32) + ((2 : Int32) * bx4)) bx1 e60) qM_X10_270 qI_yX10_sets qS_X10_yX10_sets qN_X10 qC_yX10_sets (by decide +kernel) ⟨Nat.le_of_ble_eq_true rfl, Nat.le_of_ble_eq_true rfl⟩ (by rfl) i60 rfl hl.1 rfl (Nat.le_of_ble_eq_true rfl) dX10_enters_60 ⟨Nat.le_of_ble_eq_true rfl, Nat.le_of_ble_eq_true rfl⟩ (fun H locs hG => ?_)
    refine lv_aload_n hx hb dX10_enters_63 rfl (lv_at hl 0 rfl) ?_
    refine lv_iload_n hx hb dX10_enters_64 rfl (lv_at hl 3 rfl) ?_
    refine lv_iconst (v := (5 : Int32)) hx hb dX10_enters_65 (by decide) ?_
    refine lv_iconst (v := (2 : Int32)) hx hb dX10_enters_66 (by decide) ?_
    refine lv_iload hx hb dX10_enters_67 (lv_at hl 4 rfl) ?_
    refine lv_imul hx hb dX10_enters_69 ?_
    refine lv_iadd hx hb dX10_enters_70 ?_
    refine lv_iconst (v := (1 : Int32)) hx hb dX10_enters_71 (by decide) ?_
    refine lv_iadd hx hb dX10_enters_72 ?_
    refine lv_iload_n hx hb dX10_enters_73 rfl (lv_at hl 2 rfl) ?_
    obtain ⟨u74, i74, h⟩ := Option.bind_eq_some_iff.mp h
    obtain ⟨G74, e74, h⟩ := Option.bind_eq_some_iff.mp h
    refine g_cVv (As := [.int bx3, .int (((5 : Int32) + ((2 : Int32) * bx4)) + (1 : Int32)), .int bx2]) (rest := []) (n := 3) hx hb hml hown hts hK hlo hG (m_X10_sets l dd cT lo G60 ba0 bx3 (((5 : Int32) + ((2 : Int32) * bx4)) + (1 : Int32)) bx2 e74) qM_X10_270 qI_yX10_sets qS_X10_yX10_sets qN_X10 qC_yX10_sets (by decide +kernel) ⟨Nat.le_of_ble_eq_true rfl, Nat.le_of_ble_eq_true rfl⟩ (by rfl) i74 rfl hl.1 rfl (Nat.le_of_ble_eq_true rfl) dX10_enters_74 ⟨Nat.le_of_ble_eq_true rfl, Nat.le_of_ble_eq_true rfl⟩ (fun H locs hG => ?_)
    obtain rfl := Option.some.inj h
    exact g_vret hx hb hr hlocks hK hlo hG rfl dX10_enters_77
  have h18 : ∀ (G : gH) (ba0 : Nat) (bx1 : Int32) (bx2 : Int32) (z0 : Int32), ∀ (H : Heap) (locs : List Loc), g_S lo dd cT s H locs G → ∀ ls : Array Slot, lv_has ls 5 [(0, .ref ba0), (1, .int bx1), (2, .int bx2)] → f_X10_enters_J18 G ba0 bx1 bx2 z0 = some Gz → W p l e (g_rm 2 45 0 0) s m ([.ref a0, .int x1, .int x2] : List Value).toArray below meth c H locs 0 0 (MQ below (va_Qv (g_iv Gz) (g_Pre lo dd cT) (g_A lo)) ([.ref a0, .int x1, .int x2] : List Value).toArray s 0 0 (g_A lo)) (F0 m 18 ls [.int z0]) := by
    intro G ba0 bx1 bx2 z0 H locs hG ls hl h
    unfold f_X10_enters_J18 at h
    refine lv_istore_n (lv' := [(3, .int z0), (0, .ref ba0), (1, .int bx1), (2, .int bx2)]) hx hb dX10_enters_18 rfl hl (by decide) rfl (fun ls hl => ?_)
    refine lv_aload_n hx hb dX10_enters_19 rfl (lv_at hl 1 rfl) ?_
    refine lv_iload_n hx hb dX10_enters_20 rfl (lv_at hl 0 rfl) ?_
    refine lv_iload_n hx hb dX10_enters_21 rfl (lv_at hl 2 rfl) ?_
    obtain ⟨u22, i22, h⟩ := Option.bind_eq_some_iff.mp h
    obtain ⟨v22, e22, h⟩ := Option.bind_eq_some_iff.mp h
    refine g_cVi (As := [.int z0, .int bx1]) (rest := []) (n := 2) hx hb hml hown hts hK hlo hG (m_X10_entryOf l dd cT lo G ba0 z0 bx1 e22) qM_X10_239 qI_yX10_entryOf qS_X10_yX10_entryOf qN_X10 qC_yX10_entryOf (by decide +kernel) ⟨Nat.le_of_ble_eq_true rfl, Nat.le_of_ble_eq_true rfl⟩ (by rfl) i22 rfl hl.1 rfl (Nat.le_of_ble_eq_true rfl) dX10_enters_22 ⟨Nat.le_of_ble_eq_true rfl, Nat.le_of_ble_eq_true rfl⟩ (fun H locs hG => ?_)
    refine lv_istore (lv' := [(4, .int v22), (3, .int z0), (0, .ref ba0), (1, .int bx1), (2, .int bx2)]) hx hb dX10_enters_25 hl (by decide) rfl (fun ls hl => ?_)
    refine lv_iload hx hb dX10_enters_27 (lv_at hl 0 rfl) ?_
    refine lv_iconst (v := (-1 : Int32)) hx hb dX10_enters_29 (by decide) ?_
    refine lv_icmp_ne (tgt := 51) hx hb dX10_enters_30 (by decide) (fun c30 => ?_) (fun c30 => ?_)
    · rw [if_neg c30] at h
      exact h51 G ba0 bx1 bx2 z0 v22 _ _ hG _ (lv_sub hl [2, 3, 4, 1, 0] rfl) h
    · rw [if_pos c30] at h
      refine lv_aload_n hx hb dX10_enters_33 rfl (lv_at hl 2 rfl) ?_
      refine lv_iload_n hx hb dX10_enters_34 rfl (lv_at hl 1 rfl) ?_
      refine lv_iconst (v := (2 : Int32)) hx hb dX10_enters_35 (by decide) ?_
      obtain ⟨u36, i36, h⟩ := Option.bind_eq_some_iff.mp h
      obtain ⟨v36, e36, h⟩ := Option.bind_eq_some_iff.mp h
      refine g_cVi (As := [.int z0, .int (2 : Int32)]) (rest := []) (n := 2) hx hb hml hown hts hK hlo hG (m_X10_of l dd cT lo G ba0 z0 (2 : Int32) e36) qM_X10_218 qI_yX10_of qS_X10_yX10_of qN_X10 qC_yX10_of (by decide +kernel) ⟨Nat.le_of_ble_eq_true rfl, Nat.le_of_ble_eq_true rfl⟩ (by rfl) i36 rfl hl.1 rfl (Nat.le_of_ble_eq_true rfl) dX10_enters_36 ⟨Nat.le_of_ble_eq_true rfl, Nat.le_of_ble_eq_true rfl⟩ (fun H locs hG => ?_)
      refine lv_istore (lv' := [(4, .int v36), (3, .int z0), (0, .ref ba0), (1, .int bx1), (2, .int bx2)]) hx hb dX10_enters_39 hl (by decide) rfl (fun ls hl => ?_)
      refine lv_aload_n hx hb dX10_enters_41 rfl (lv_at hl 2 rfl) ?_
      refine lv_iload_n hx hb dX10_enters_42 rfl (lv_at hl 1 rfl) ?_
      refine lv_iconst (v := (2 : Int32)) hx hb dX10_enters_43 (by decide) ?_
      refine lv_iload hx hb dX10_enters_44 (lv_at hl 0 rfl) ?_
      refine lv_iconst (v := (1 : Int32)) hx hb dX10_enters_46 (by decide) ?_
      refine lv_iadd hx hb dX10_enters_47 ?_
      obtain ⟨u48, i48, h⟩ := Option.bind_eq_some_iff.mp h
      obtain ⟨G48, e48, h⟩ := Option.bind_eq_some_iff.mp h
      refine g_cVv (As := [.int z0, .int (2 : Int32), .int (v36 + (1 : Int32))]) (rest := []) (n := 3) hx hb hml hown hts hK hlo hG (m_X10_sets l dd cT lo G ba0 z0 (2 : Int32) (v36 + (1 : Int32)) e48) qM_X10_270 qI_yX10_sets qS_X10_yX10_sets qN_X10 qC_yX10_sets (by decide +kernel) ⟨Nat.le_of_ble_eq_true rfl, Nat.le_of_ble_eq_true rfl⟩ (by rfl) i48 rfl hl.1 rfl (Nat.le_of_ble_eq_true rfl) dX10_enters_48 ⟨Nat.le_of_ble_eq_true rfl, Nat.le_of_ble_eq_true rfl⟩ (fun H locs hG => ?_)
      exact h51 G48 ba0 bx1 bx2 z0 v36 _ _ hG _ (lv_sub hl [2, 3, 4, 1, 0] rfl) h
  unfold f_X10_enters at h
  refine lv_aload_n hx hb dX10_enters_0 rfl (lv_at hl 0 rfl) ?_
  obtain ⟨u1, i1, h⟩ := Option.bind_eq_some_iff.mp h
  obtain ⟨v1, e1, h⟩ := Option.bind_eq_some_iff.mp h
  refine g_cVi (As := []) (rest := []) (n := 0) hx hb hml hown hts hK hlo hG (m_X10_isOpen l dd cT lo G a0 e1) qM_X10_255 qI_yX10_isOpen qS_X10_yX10_isOpen qN_X10 qC_yX10_isOpen (by decide +kernel) ⟨Nat.le_of_ble_eq_true rfl, Nat.le_of_ble_eq_true rfl⟩ (by rfl) i1 rfl hl.1 rfl (Nat.le_of_ble_eq_true rfl) dX10_enters_1 ⟨Nat.le_of_ble_eq_true rfl, Nat.le_of_ble_eq_true rfl⟩ (fun H locs hG => ?_)
  refine lv_if_eq (tgt := 14) hx hb dX10_enters_4 (by decide) (fun c4 => ?_) (fun c4 => ?_)
  · rw [if_pos c4] at h
    refine lv_aload_n hx hb dX10_enters_14 rfl (lv_at hl 0 rfl) ?_
    obtain ⟨u15, i15, h⟩ := Option.bind_eq_some_iff.mp h
    obtain ⟨q15, e15, h⟩ := Option.bind_eq_some_iff.mp h
    refine g_cVi (As := []) (rest := []) (n := 0) hx hb hml hown hts hK hlo hG (m_X10_begins l dd cT lo G a0 e15) qM_X10_274 qI_yX10_begins qS_X10_yX10_begins qN_X10 qC_yX10_begins (by decide +kernel) ⟨Nat.le_of_ble_eq_true rfl, Nat.le_of_ble_eq_true rfl⟩ (by rfl) i15 rfl hl.1 rfl (Nat.le_of_ble_eq_true rfl) dX10_enters_15 ⟨Nat.le_of_ble_eq_true rfl, Nat.le_of_ble_eq_true rfl⟩ (fun H locs hG => ?_)
    exact h18 q15.1 a0 x1 x2 q15.2 _ _ hG _ (lv_sub hl [0, 1, 2] rfl) h
  · rw [if_neg c4] at h
    refine lv_aload_n hx hb dX10_enters_7 rfl (lv_at hl 0 rfl) ?_
    obtain ⟨u8, i8, h⟩ := Option.bind_eq_some_iff.mp h
    obtain ⟨v8, e8, h⟩ := Option.bind_eq_some_iff.mp h
    refine g_cVi (As := []) (rest := []) (n := 0) hx hb hml hown hts hK hlo hG (m_X10_latest l dd cT lo G a0 e8) qM_X10_215 qI_yX10_latest qS_X10_yX10_latest qN_X10 qC_yX10_latest (by decide +kernel) ⟨Nat.le_of_ble_eq_true rfl, Nat.le_of_ble_eq_true rfl⟩ (by rfl) i8 rfl hl.1 rfl (Nat.le_of_ble_eq_true rfl) dX10_enters_8 ⟨Nat.le_of_ble_eq_true rfl, Nat.le_of_ble_eq_true rfl⟩ (fun H locs hG => ?_)
    refine lv_goto (tgt := 18) hx hb dX10_enters_11 (by decide) ?_
    exact h18 G a0 x1 x2 v8 _ _ hG _ (lv_sub hl [0, 1, 2] rfl) h
def f_X10_writes_L96 : Nat → gH → Nat → Int32 → Int32 → Int32 → Option (gH × Int32)
  | 0, _, _, _, _, _ => none
  | n + 1, G, ba0, bx2, bx4, bx6 =>
    if bx2 ≤ bx6 then
    some (G, bx4)
    else
    (g_ob G ba0 10).bind fun u105 =>
    (f_X10_latest G ba0).bind fun v105 =>
    (g_ob G ba0 10).bind fun u112 =>
    (f_X10_writesBlock G ba0 (1 : Int32) v105 bx4 bx6).bind fun G112 =>
    f_X10_writes_L96 n G112 ba0 bx2 bx4 (bx6 + (1 : Int32))
def f_X10_writes (G : gH) (a0 : Nat) (x1 : Int32) (x2 : Int32) (x3 : Int32) : Option (gH × Int32) :=
    (g_r G a0 10 1).bind fun v1 =>
    (g_ald 0 G v1 (6 : Int32)).bind fun v6 =>
    (g_r G a0 10 1).bind fun v10 =>
    (g_ald 0 G v10 (6 : Int32)).bind fun v16 =>
    (g_ast 0 G v10 (6 : Int32) (v16 + (1 : Int32))).bind fun G19 =>
    (g_ob G19 a0 10).bind fun u24 =>
    (f_X10_enters G19 a0 x1 v6).bind fun G24 =>
    (g_r G24 a0 10 1).bind fun v38 =>
    (g_ast 0 G24 v38 ((775 : Int32) + ((5 : Int32) * v6)) x1).bind fun G44 =>
    (g_r G44 a0 10 1).bind fun v46 =>
    (g_r G44 a0 10 1).bind fun v54 =>
    (g_ald 0 G44 v54 (4 : Int32)).bind fun v58 =>
    (g_ast 0 G44 v46 (((775 : Int32) + ((5 : Int32) * v6)) + (1 : Int32)) v58).bind fun G59 =>
    (g_r G59 a0 10 1).bind fun v61 =>
    (g_ast 0 G59 v61 (((775 : Int32) + ((5 : Int32) * v6)) + (2 : Int32)) x2).bind fun G69 =>
    (g_r G69 a0 10 1).bind fun v71 =>
    (g_ast 0 G69 v71 (((775 : Int32) + ((5 : Int32) * v6)) + (3 : Int32)) x3).bind fun G79 =>
    (g_r G79 a0 10 1).bind fun v81 =>
    (g_ob G79 a0 10).bind fun u89 =>
    (f_X10_latest G79 a0).bind fun v89 =>
    (g_ast 0 G79 v81 (((775 : Int32) + ((5 : Int32) * v6)) + (4 : Int32)) v89).bind fun G92 =>
    f_X10_writes_L96 g_N G92 a0 x2 v6 (0 : Int32)
set_option maxRecDepth 20000 in
set_option maxHeartbeats 4000000 in
theorem m_X10_writes (l : Launch) (dd : va_G) (cT : Nat → ClassId) (lo : Nat) (G : gH) (a0 : Nat) (x1 : Int32) (x2 : Int32) (x3 : Int32) {rz : Int32} {Gz : gH} (h : f_X10_writes G a0 x1 x2 x3 = some (Gz, rz)) : Met l yX10_writes (Cond.code yX10_writes cX10_writes 7 (some .int) :: wsL_law) (g_rm 3 69 0 0) (va_Pc [.ref a0, .int x1, .int x2, .int x3] (g_Pre lo dd cT G)) (va_Qi (g_is rz Gz) (g_Pre lo dd cT) (g_A lo)) 0 0 (g_A lo) := by
  refine g_start RX10 rfl (by decide) (Nat.le_of_ble_eq_true rfl) ?_
  intro p e s m below meth c hx hb hr hlocks hml hown hnm hts hK hG hlo ls hl
  have hl : lv_has ls 7 [(0, .ref a0), (1, .int x1), (2, .int x2), (3, .int x3)] := hl
  have hG : g_S lo dd cT s s.heap [] G := hG
  have h96 : ∀ n : Nat, ∀ (G : gH) (ba0 : Nat) (bx2 : Int32) (bx4 : Int32) (bx6 : Int32), ∀ (H : Heap) (locs : List Loc), g_S lo dd cT s H locs G → ∀ ls : Array Slot, lv_has ls 7 [(0, .ref ba0), (2, .int bx2), (4, .int bx4), (6, .int bx6)] → f_X10_writes_L96 n G ba0 bx2 bx4 bx6 = some (Gz, rz) → W p l e (g_rm 3 69 0 0) s m ([.ref a0, .int x1, .int x2, .int x3] : List Value).toArray below meth c H locs 0 0 (MQ below (va_Qi (g_is rz Gz) (g_Pre lo dd cT) (g_A lo)) ([.ref a0, .int x1, .int x2, .int x3] : List Value).toArray s 0 0 (g_A lo)) (F0 m 96 ls []) := by
    intro n
    induction n with
    | zero =>
      intro G ba0 bx2 bx4 bx6 H locs hG ls hl h
      cases (show (none : Option (gH × Int32)) = some (Gz, rz) from h)
    | succ n ih =>
      intro G ba0 bx2 bx4 bx6 H locs hG ls hl h
      rw [f_X10_writes_L96] at h
      refine lv_iload hx hb dX10_writes_96 (lv_at hl 3 rfl) ?_
      refine lv_iload_n hx hb dX10_writes_98 rfl (lv_at hl 1 rfl) ?_
      refine lv_icmp_ge (tgt := 121) hx hb dX10_writes_99 (by decide) (fun c99 => ?_) (fun c99 => ?_)
      · rw [if_pos c99] at h
        refine lv_iload hx hb dX10_writes_121 (lv_at hl 2 rfl) ?_
        obtain ⟨rfl, rfl⟩ := Prod.mk.inj (Option.some.inj h)
        exact g_iret hx hb hr hlocks hK hlo hG ⟨rfl, rfl⟩ dX10_writes_123
      · rw [if_neg c99] at h
        refine lv_aload_n hx hb dX10_writes_102 rfl (lv_at hl 0 rfl) ?_
        refine lv_iconst (v := (1 : Int32)) hx hb dX10_writes_103 (by decide) ?_
        refine lv_aload_n hx hb dX10_writes_104 rfl (lv_at hl 0 rfl) ?_
        obtain ⟨u105, i105, h⟩ := Option.bind_eq_some_iff.mp h
        obtain ⟨v105, e105, h⟩ := Option.bind_eq_some_iff.mp h
        refine g_cVi (As := []) (rest := [.int (1 : Int32), .ref ba0]) (n := 0) hx hb hml hown hts hK hlo hG (m_X10_latest l dd cT lo G ba0 e105) qM_X10_215 qI_yX10_latest qS_X10_yX10_latest qN_X10 qC_yX10_latest (by decide +kernel) ⟨Nat.le_of_ble_eq_true rfl, Nat.le_of_ble_eq_true rfl⟩ (by rfl) i105 rfl hl.1 rfl (Nat.le_of_ble_eq_true rfl) dX10_writes_105 ⟨Nat.le_of_ble_eq_true rfl, Nat.le_of_ble_eq_true rfl⟩ (fun H locs hG => ?_)
        refine lv_iload hx hb dX10_writes_108 (lv_at hl 2 rfl) ?_
        refine lv_iload hx hb dX10_writes_110 (lv_at hl 3 rfl) ?_
        obtain ⟨u112, i112, h⟩ := Option.bind_eq_some_iff.mp h
        obtain ⟨G112, e112, h⟩ := Option.bind_eq_some_iff.mp h
        refine g_cVv (As := [.int (1 : Int32), .int v105, .int bx4, .int bx6]) (rest := []) (n := 4) hx hb hml hown hts hK hlo hG (m_X10_writesBlock l dd cT lo G ba0 (1 : Int32) v105 bx4 bx6 e112) qM_X10_280 qI_yX10_writesBlock qS_X10_yX10_writesBlock qN_X10 qC_yX10_writesBlock (by decide +kernel) ⟨Nat.le_of_ble_eq_true rfl, Nat.le_of_ble_eq_true rfl⟩ (by rfl) i112 rfl hl.1 rfl (Nat.le_of_ble_eq_true rfl) dX10_writes_112 ⟨Nat.le_of_ble_eq_true rfl, Nat.le_of_ble_eq_true rfl⟩ (fun H locs hG => ?_)
        refine lv_iinc (v := (bx6 + (1 : Int32))) (lv' := [(6, .int (bx6 + (1 : Int32))), (0, .ref ba0), (2, .int bx2), (4, .int bx4)]) hx hb dX10_writes_115 hl (k := 3) rfl rfl (by decide) rfl (fun ls hl => ?_)
        refine lv_goto (tgt := 96) hx hb dX10_writes_118 (by decide) ?_
        exact ih G112 ba0 bx2 bx4 (bx6 + (1 : Int32)) _ _ hG _ (lv_sub hl [1, 2, 3, 0] rfl) h
  unfold f_X10_writes at h
  refine lv_aload_n hx hb dX10_writes_0 rfl (lv_at hl 0 rfl) ?_
  obtain ⟨v1, e1, h⟩ := Option.bind_eq_some_iff.mp h
  refine g_getr hx hb hts inlX10 hown hK hG (by rfl) 1 (by decide) qF_X10_7 e1 dX10_writes_1 ?_
  refine lv_bipush (v := (6 : Int32)) hx hb dX10_writes_4 (by decide) ?_
  obtain ⟨v6, e6, h⟩ := Option.bind_eq_some_iff.mp h
  refine g_iald hx hb hK hG e6 dX10_writes_6 ?_
  refine lv_istore (lv' := [(4, .int v6), (0, .ref a0), (1, .int x1), (2, .int x2), (3, .int x3)]) hx hb dX10_writes_7 hl (by decide) rfl (fun ls hl => ?_)
  refine lv_aload_n hx hb dX10_writes_9 rfl (lv_at hl 1 rfl) ?_
  obtain ⟨v10, e10, h⟩ := Option.bind_eq_some_iff.mp h
  refine g_getr hx hb hts inlX10 hown hK hG (by rfl) 1 (by decide) qF_X10_7 e10 dX10_writes_10 ?_
  refine lv_bipush (v := (6 : Int32)) hx hb dX10_writes_13 (by decide) ?_
  refine lv_dup2_11 hx hb dX10_writes_15 rfl rfl ?_
  obtain ⟨v16, e16, h⟩ := Option.bind_eq_some_iff.mp h
  refine g_iald hx hb hK hG e16 dX10_writes_16 ?_
  refine lv_iconst (v := (1 : Int32)) hx hb dX10_writes_17 (by decide) ?_
  refine lv_iadd hx hb dX10_writes_18 ?_
  obtain ⟨G19, e19, h⟩ := Option.bind_eq_some_iff.mp h
  refine g_iast hx hb hK hG e19 dX10_writes_19 (fun H locs hG => ?_)
  refine lv_aload_n hx hb dX10_writes_20 rfl (lv_at hl 1 rfl) ?_
  refine lv_iload_n hx hb dX10_writes_21 rfl (lv_at hl 2 rfl) ?_
  refine lv_iload hx hb dX10_writes_22 (lv_at hl 0 rfl) ?_
  obtain ⟨u24, i24, h⟩ := Option.bind_eq_some_iff.mp h
  obtain ⟨G24, e24, h⟩ := Option.bind_eq_some_iff.mp h
  refine g_cVv (As := [.int x1, .int v6]) (rest := []) (n := 2) hx hb hml hown hts hK hlo hG (m_X10_enters l dd cT lo G19 a0 x1 v6 e24) qM_X10_277 qI_yX10_enters qS_X10_yX10_enters qN_X10 qC_yX10_enters (by decide +kernel) ⟨Nat.le_of_ble_eq_true rfl, Nat.le_of_ble_eq_true rfl⟩ (by rfl) i24 rfl hl.1 rfl (Nat.le_of_ble_eq_true rfl) dX10_writes_24 ⟨Nat.le_of_ble_eq_true rfl, Nat.le_of_ble_eq_true rfl⟩ (fun H locs hG => ?_)
  refine lv_sipush (v := (775 : Int32)) hx hb dX10_writes_27 (by decide) ?_
  refine lv_iconst (v := (5 : Int32)) hx hb dX10_writes_30 (by decide) ?_
  refine lv_iload hx hb dX10_writes_31 (lv_at hl 0 rfl) ?_
  refine lv_imul hx hb dX10_writes_33 ?_
  refine lv_iadd hx hb dX10_writes_34 ?_
  refine lv_istore (lv' := [(5, .int ((775 : Int32) + ((5 : Int32) * v6))), (4, .int v6), (0, .ref a0), (1, .int x1), (2, .int x2), (3, .int x3)]) hx hb dX10_writes_35 hl (by decide) rfl (fun ls hl => ?_)
  refine lv_aload_n hx hb dX10_writes_37 rfl (lv_at hl 2 rfl) ?_
  obtain ⟨v38, e38, h⟩ := Option.bind_eq_some_iff.mp h
  refine g_getr hx hb hts inlX10 hown hK hG (by rfl) 1 (by decide) qF_X10_7 e38 dX10_writes_38 ?_
  refine lv_iload hx hb dX10_writes_41 (lv_at hl 0 rfl) ?_
  refine lv_iload_n hx hb dX10_writes_43 rfl (lv_at hl 3 rfl) ?_
  obtain ⟨G44, e44, h⟩ := Option.bind_eq_some_iff.mp h
  refine g_iast hx hb hK hG e44 dX10_writes_44 (fun H locs hG => ?_)
  refine lv_aload_n hx hb dX10_writes_45 rfl (lv_at hl 2 rfl) ?_
  obtain ⟨v46, e46, h⟩ := Option.bind_eq_some_iff.mp h
  refine g_getr hx hb hts inlX10 hown hK hG (by rfl) 1 (by decide) qF_X10_7 e46 dX10_writes_46 ?_
  refine lv_iload hx hb dX10_writes_49 (lv_at hl 0 rfl) ?_
  refine lv_iconst (v := (1 : Int32)) hx hb dX10_writes_51 (by decide) ?_
  refine lv_iadd hx hb dX10_writes_52 ?_
  refine lv_aload_n hx hb dX10_writes_53 rfl (lv_at hl 2 rfl) ?_
  obtain ⟨v54, e54, h⟩ := Option.bind_eq_some_iff.mp h
  refine g_getr hx hb hts inlX10 hown hK hG (by rfl) 1 (by decide) qF_X10_7 e54 dX10_writes_54 ?_
  refine lv_iconst (v := (4 : Int32)) hx hb dX10_writes_57 (by decide) ?_
  obtain ⟨v58, e58, h⟩ := Option.bind_eq_some_iff.mp h
  refine g_iald hx hb hK hG e58 dX10_writes_58 ?_
  obtain ⟨G59, e59, h⟩ := Option.bind_eq_some_iff.mp h
  refine g_iast hx hb hK hG e59 dX10_writes_59 (fun H locs hG => ?_)
  refine lv_aload_n hx hb dX10_writes_60 rfl (lv_at hl 2 rfl) ?_
  obtain ⟨v61, e61, h⟩ := Option.bind_eq_some_iff.mp h
  refine g_getr hx hb hts inlX10 hown hK hG (by rfl) 1 (by decide) qF_X10_7 e61 dX10_writes_61 ?_
  refine lv_iload hx hb dX10_writes_64 (lv_at hl 0 rfl) ?_
  refine lv_iconst (v := (2 : Int32)) hx hb dX10_writes_66 (by decide) ?_
  refine lv_iadd hx hb dX10_writes_67 ?_
  refine lv_iload_n hx hb dX10_writes_68 rfl (lv_at hl 4 rfl) ?_
  obtain ⟨G69, e69, h⟩ := Option.bind_eq_some_iff.mp h
  refine g_iast hx hb hK hG e69 dX10_writes_69 (fun H locs hG => ?_)
  refine lv_aload_n hx hb dX10_writes_70 rfl (lv_at hl 2 rfl) ?_
  obtain ⟨v71, e71, h⟩ := Option.bind_eq_some_iff.mp h
  refine g_getr hx hb hts inlX10 hown hK hG (by rfl) 1 (by decide) qF_X10_7 e71 dX10_writes_71 ?_
  refine lv_iload hx hb dX10_writes_74 (lv_at hl 0 rfl) ?_
  refine lv_iconst (v := (3 : Int32)) hx hb dX10_writes_76 (by decide) ?_
  refine lv_iadd hx hb dX10_writes_77 ?_
  refine lv_iload_n hx hb dX10_writes_78 rfl (lv_at hl 5 rfl) ?_
  obtain ⟨G79, e79, h⟩ := Option.bind_eq_some_iff.mp h
  refine g_iast hx hb hK hG e79 dX10_writes_79 (fun H locs hG => ?_)
  refine lv_aload_n hx hb dX10_writes_80 rfl (lv_at hl 2 rfl) ?_
  obtain ⟨v81, e81, h⟩ := Option.bind_eq_some_iff.mp h
  refine g_getr hx hb hts inlX10 hown hK hG (by rfl) 1 (by decide) qF_X10_7 e81 dX10_writes_81 ?_
  refine lv_iload hx hb dX10_writes_84 (lv_at hl 0 rfl) ?_
  refine lv_iconst (v := (4 : Int32)) hx hb dX10_writes_86 (by decide) ?_
  refine lv_iadd hx hb dX10_writes_87 ?_
  refine lv_aload_n hx hb dX10_writes_88 rfl (lv_at hl 2 rfl) ?_
  obtain ⟨u89, i89, h⟩ := Option.bind_eq_some_iff.mp h
  obtain ⟨v89, e89, h⟩ := Option.bind_eq_some_iff.mp h
  refine g_cVi (As := []) (rest := [.int (((775 : Int32) + ((5 : Int32) * v6)) + (4 : Int32)), .ref v81]) (n := 0) hx hb hml hown hts hK hlo hG (m_X10_latest l dd cT lo G79 a0 e89) qM_X10_215 qI_yX10_latest qS_X10_yX10_latest qN_X10 qC_yX10_latest (by decide +kernel) ⟨Nat.le_of_ble_eq_true rfl, Nat.le_of_ble_eq_true rfl⟩ (by rfl) i89 rfl hl.1 rfl (Nat.le_of_ble_eq_true rfl) dX10_writes_89 ⟨Nat.le_of_ble_eq_true rfl, Nat.le_of_ble_eq_true rfl⟩ (fun H locs hG => ?_)
  obtain ⟨G92, e92, h⟩ := Option.bind_eq_some_iff.mp h
  refine g_iast hx hb hK hG e92 dX10_writes_92 (fun H locs hG => ?_)
  refine lv_iconst (v := (0 : Int32)) hx hb dX10_writes_93 (by decide) ?_
  refine lv_istore (lv' := [(6, .int (0 : Int32)), (5, .int ((775 : Int32) + ((5 : Int32) * v6))), (4, .int v6), (0, .ref a0), (1, .int x1), (2, .int x2), (3, .int x3)]) hx hb dX10_writes_94 hl (by decide) rfl (fun ls hl => ?_)
  exact h96 g_N G92 a0 x2 v6 (0 : Int32) _ _ hG _ (lv_sub hl [3, 5, 2, 0] rfl) h
def f_X10_erases (G : gH) (a0 : Nat) (x1 : Int32) : Option gH :=
    (g_ob G a0 10).bind fun u3 =>
    (f_X10_enters G a0 x1 (-1 : Int32)).bind fun G3 =>
    some G3
set_option maxRecDepth 20000 in
set_option maxHeartbeats 4000000 in
theorem m_X10_erases (l : Launch) (dd : va_G) (cT : Nat → ClassId) (lo : Nat) (G : gH) (a0 : Nat) (x1 : Int32) {Gz : gH} (h : f_X10_erases G a0 x1 = some Gz) : Met l yX10_erases (Cond.code yX10_erases cX10_erases 2 none :: wsL_law) (g_rm 3 69 0 0) (va_Pc [.ref a0, .int x1] (g_Pre lo dd cT G)) (va_Qv (g_iv Gz) (g_Pre lo dd cT) (g_A lo)) 0 0 (g_A lo) := by
  refine g_start RX10 rfl (by decide) (Nat.le_of_ble_eq_true rfl) ?_
  intro p e s m below meth c hx hb hr hlocks hml hown hnm hts hK hG hlo ls hl
  have hl : lv_has ls 2 [(0, .ref a0), (1, .int x1)] := hl
  have hG : g_S lo dd cT s s.heap [] G := hG
  unfold f_X10_erases at h
  refine lv_aload_n hx hb dX10_erases_0 rfl (lv_at hl 0 rfl) ?_
  refine lv_iload_n hx hb dX10_erases_1 rfl (lv_at hl 1 rfl) ?_
  refine lv_iconst (v := (-1 : Int32)) hx hb dX10_erases_2 (by decide) ?_
  obtain ⟨u3, i3, h⟩ := Option.bind_eq_some_iff.mp h
  obtain ⟨G3, e3, h⟩ := Option.bind_eq_some_iff.mp h
  refine g_cVv (As := [.int x1, .int (-1 : Int32)]) (rest := []) (n := 2) hx hb hml hown hts hK hlo hG (m_X10_enters l dd cT lo G a0 x1 (-1 : Int32) e3) qM_X10_277 qI_yX10_enters qS_X10_yX10_enters qN_X10 qC_yX10_enters (by decide +kernel) ⟨Nat.le_of_ble_eq_true rfl, Nat.le_of_ble_eq_true rfl⟩ (by rfl) i3 rfl hl.1 rfl (Nat.le_of_ble_eq_true rfl) dX10_erases_3 ⟨Nat.le_of_ble_eq_true rfl, Nat.le_of_ble_eq_true rfl⟩ (fun H locs hG => ?_)
  obtain rfl := Option.some.inj h
  exact g_vret hx hb hr hlocks hK hlo hG rfl dX10_erases_6
def f_X10_closedBefore_L4 (G : gH) : Nat → Nat → Int32 → Option Int32
  | 0, _, _ => none
  | n + 1, ba0, bx2 =>
    if bx2 < 0 then
    some bx2
    else
    (g_ob G ba0 10).bind fun u11 =>
    (f_X10_of G ba0 bx2 (0 : Int32)).bind fun v11 =>
    if v11 = (1 : Int32) then
    some bx2
    else
    f_X10_closedBefore_L4 G n ba0 (bx2 + (-1 : Int32))
def f_X10_closedBefore (G : gH) (a0 : Nat) (x1 : Int32) : Option Int32 :=
    f_X10_closedBefore_L4 G g_N a0 (x1 - (1 : Int32))
set_option maxRecDepth 20000 in
set_option maxHeartbeats 4000000 in
theorem m_X10_closedBefore (l : Launch) (dd : va_G) (cT : Nat → ClassId) (lo : Nat) (G : gH) (a0 : Nat) (x1 : Int32) {rz : Int32} (h : f_X10_closedBefore G a0 x1 = some rz) : Met l yX10_closedBefore (Cond.code yX10_closedBefore cX10_closedBefore 3 (some .int) :: wsL_law) (g_rm 1 22 0 0) (va_Pc [.ref a0, .int x1] (g_Pre lo dd cT G)) (va_Qi (g_is rz G) (g_Pre lo dd cT) (g_A lo)) 0 0 (g_A lo) := by
  refine g_start RX10 rfl (by decide) (Nat.le_of_ble_eq_true rfl) ?_
  intro p e s m below meth c hx hb hr hlocks hml hown hnm hts hK hG hlo ls hl
  have hl : lv_has ls 3 [(0, .ref a0), (1, .int x1)] := hl
  have hG : g_S lo dd cT s s.heap [] G := hG
  have h4 : ∀ n : Nat, ∀ (ba0 : Nat) (bx2 : Int32), ∀ (H : Heap) (locs : List Loc), g_S lo dd cT s H locs G → ∀ ls : Array Slot, lv_has ls 3 [(0, .ref ba0), (2, .int bx2)] → f_X10_closedBefore_L4 G n ba0 bx2 = some rz → W p l e (g_rm 1 22 0 0) s m ([.ref a0, .int x1] : List Value).toArray below meth c H locs 0 0 (MQ below (va_Qi (g_is rz G) (g_Pre lo dd cT) (g_A lo)) ([.ref a0, .int x1] : List Value).toArray s 0 0 (g_A lo)) (F0 m 4 ls []) := by
    intro n
    induction n with
    | zero =>
      intro ba0 bx2 H locs hG ls hl h
      cases (show (none : Option Int32) = some rz from h)
    | succ n ih =>
      intro ba0 bx2 H locs hG ls hl h
      rw [f_X10_closedBefore_L4] at h
      refine lv_iload_n hx hb dX10_closedBefore_4 rfl (lv_at hl 1 rfl) ?_
      refine lv_if_lt (tgt := 24) hx hb dX10_closedBefore_5 (by decide) (fun c5 => ?_) (fun c5 => ?_)
      · rw [if_pos c5] at h
        refine lv_iload_n hx hb dX10_closedBefore_24 rfl (lv_at hl 1 rfl) ?_
        obtain rfl := Option.some.inj h
        exact g_iret hx hb hr hlocks hK hlo hG ⟨rfl, rfl⟩ dX10_closedBefore_25
      · rw [if_neg c5] at h
        refine lv_aload_n hx hb dX10_closedBefore_8 rfl (lv_at hl 0 rfl) ?_
        refine lv_iload_n hx hb dX10_closedBefore_9 rfl (lv_at hl 1 rfl) ?_
        refine lv_iconst (v := (0 : Int32)) hx hb dX10_closedBefore_10 (by decide) ?_
        obtain ⟨u11, i11, h⟩ := Option.bind_eq_some_iff.mp h
        obtain ⟨v11, e11, h⟩ := Option.bind_eq_some_iff.mp h
        refine g_cVi (As := [.int bx2, .int (0 : Int32)]) (rest := []) (n := 2) hx hb hml hown hts hK hlo hG (m_X10_of l dd cT lo G ba0 bx2 (0 : Int32) e11) qM_X10_218 qI_yX10_of qS_X10_yX10_of qN_X10 qC_yX10_of (by decide +kernel) ⟨Nat.le_of_ble_eq_true rfl, Nat.le_of_ble_eq_true rfl⟩ (by rfl) i11 rfl hl.1 rfl (Nat.le_of_ble_eq_true rfl) dX10_closedBefore_11 ⟨Nat.le_of_ble_eq_true rfl, Nat.le_of_ble_eq_true rfl⟩ (fun H locs hG => ?_)
        refine lv_iconst (v := (1 : Int32)) hx hb dX10_closedBefore_14 (by decide) ?_
        refine lv_icmp_eq (tgt := 24) hx hb dX10_closedBefore_15 (by decide) (fun c15 => ?_) (fun c15 => ?_)
        · rw [if_pos c15] at h
          refine lv_iload_n hx hb dX10_closedBefore_24 rfl (lv_at hl 1 rfl) ?_
          obtain rfl := Option.some.inj h
          exact g_iret hx hb hr hlocks hK hlo hG ⟨rfl, rfl⟩ dX10_closedBefore_25
        · rw [if_neg c15] at h
          refine lv_iinc (v := (bx2 + (-1 : Int32))) (lv' := [(2, .int (bx2 + (-1 : Int32))), (0, .ref ba0)]) hx hb dX10_closedBefore_18 hl (k := 1) rfl rfl (by decide) rfl (fun ls hl => ?_)
          refine lv_goto (tgt := 4) hx hb dX10_closedBefore_21 (by decide) ?_
          exact ih ba0 (bx2 + (-1 : Int32)) _ _ hG _ (lv_sub hl [1, 0] rfl) h
  unfold f_X10_closedBefore at h
  refine lv_iload_n hx hb dX10_closedBefore_0 rfl (lv_at hl 1 rfl) ?_
  refine lv_iconst (v := (1 : Int32)) hx hb dX10_closedBefore_1 (by decide) ?_
  refine lv_isub hx hb dX10_closedBefore_2 ?_
  refine lv_istore_n (lv' := [(2, .int (x1 - (1 : Int32))), (0, .ref a0), (1, .int x1)]) hx hb dX10_closedBefore_3 rfl hl (by decide) rfl (fun ls hl => ?_)
  exact h4 g_N a0 (x1 - (1 : Int32)) _ _ hG _ (lv_sub hl [1, 0] rfl) h
def f_X10_closesOpen_L44 : Nat → gH → Nat → Int32 → Int32 → Int32 → Option gH
  | 0, _, _, _, _, _ => none
  | n + 1, G, ba0, bx1, bx2, bx3 =>
    if bx2 ≤ bx3 then
    (g_ob G ba0 10).bind fun u67 =>
    (f_X10_sets G ba0 bx1 (0 : Int32) (1 : Int32)).bind fun G67 =>
    some G67
    else
    (g_ob G ba0 10).bind fun u54 =>
    (f_X10_writesBlock G ba0 (2 : Int32) bx1 (-1 : Int32) bx3).bind fun G54 =>
    f_X10_closesOpen_L44 n G54 ba0 bx1 bx2 (bx3 + (1 : Int32))
def f_X10_closesOpen (G : gH) (a0 : Nat) : Option gH :=
    (g_ob G a0 10).bind fun u1 =>
    (f_X10_latest G a0).bind fun v1 =>
    (g_ob G a0 10).bind fun u8 =>
    (f_X10_of G a0 v1 (2 : Int32)).bind fun v8 =>
    (f_X10_directoryLong G v8).bind fun v11 =>
    (g_r G a0 10 1).bind fun v19 =>
    (g_ald 0 G v19 (4 : Int32)).bind fun v23 =>
    (g_ob G a0 10).bind fun u26 =>
    (f_X10_sets G a0 v1 (3 : Int32) (v23 + (1 : Int32))).bind fun G26 =>
    (g_ob G26 a0 10).bind fun u34 =>
    (f_X10_closedBefore G26 a0 v1).bind fun v34 =>
    (g_ob G26 a0 10).bind fun u39 =>
    (f_X10_sets G26 a0 v1 (4 : Int32) (v34 + (1 : Int32))).bind fun G39 =>
    f_X10_closesOpen_L44 g_N G39 a0 v1 v11 (0 : Int32)
set_option maxRecDepth 20000 in
set_option maxHeartbeats 4000000 in
theorem m_X10_closesOpen (l : Launch) (dd : va_G) (cT : Nat → ClassId) (lo : Nat) (G : gH) (a0 : Nat) {Gz : gH} (h : f_X10_closesOpen G a0 = some Gz) : Met l yX10_closesOpen (Cond.code yX10_closesOpen cX10_closesOpen 4 none :: wsL_law) (g_rm 2 51 0 0) (va_Pc [.ref a0] (g_Pre lo dd cT G)) (va_Qv (g_iv Gz) (g_Pre lo dd cT) (g_A lo)) 0 0 (g_A lo) := by
  refine g_start RX10 rfl (by decide) (Nat.le_of_ble_eq_true rfl) ?_
  intro p e s m below meth c hx hb hr hlocks hml hown hnm hts hK hG hlo ls hl
  have hl : lv_has ls 4 [(0, .ref a0)] := hl
  have hG : g_S lo dd cT s s.heap [] G := hG
  have h44 : ∀ n : Nat, ∀ (G : gH) (ba0 : Nat) (bx1 : Int32) (bx2 : Int32) (bx3 : Int32), ∀ (H : Heap) (locs : List Loc), g_S lo dd cT s H locs G → ∀ ls : Array Slot, lv_has ls 4 [(0, .ref ba0), (1, .int bx1), (2, .int bx2), (3, .int bx3)] → f_X10_closesOpen_L44 n G ba0 bx1 bx2 bx3 = some Gz → W p l e (g_rm 2 51 0 0) s m ([.ref a0] : List Value).toArray below meth c H locs 0 0 (MQ below (va_Qv (g_iv Gz) (g_Pre lo dd cT) (g_A lo)) ([.ref a0] : List Value).toArray s 0 0 (g_A lo)) (F0 m 44 ls []) := by
    intro n
    induction n with
    | zero =>
      intro G ba0 bx1 bx2 bx3 H locs hG ls hl h
      cases (show (none : Option gH) = some Gz from h)
    | succ n ih =>
      intro G ba0 bx1 bx2 bx3 H locs hG ls hl h
      rw [f_X10_closesOpen_L44] at h
      refine lv_iload_n hx hb dX10_closesOpen_44 rfl (lv_at hl 3 rfl) ?_
      refine lv_iload_n hx hb dX10_closesOpen_45 rfl (lv_at hl 2 rfl) ?_
      refine lv_icmp_ge (tgt := 63) hx hb dX10_closesOpen_46 (by decide) (fun c46 => ?_) (fun c46 => ?_)
      · rw [if_pos c46] at h
        refine lv_aload_n hx hb dX10_closesOpen_63 rfl (lv_at hl 0 rfl) ?_
        refine lv_iload_n hx hb dX10_closesOpen_64 rfl (lv_at hl 1 rfl) ?_
        refine lv_iconst (v := (0 : Int32)) hx hb dX10_closesOpen_65 (by decide) ?_
        refine lv_iconst (v := (1 : Int32)) hx hb dX10_closesOpen_66 (by decide) ?_
        obtain ⟨u67, i67, h⟩ := Option.bind_eq_some_iff.mp h
        obtain ⟨G67, e67, h⟩ := Option.bind_eq_some_iff.mp h
        refine g_cVv (As := [.int bx1, .int (0 : Int32), .int (1 : Int32)]) (rest := []) (n := 3) hx hb hml hown hts hK hlo hG (m_X10_sets l dd cT lo G ba0 bx1 (0 : Int32) (1 : Int32) e67) qM_X10_270 qI_yX10_sets qS_X10_yX10_sets qN_X10 qC_yX10_sets (by decide +kernel) ⟨Nat.le_of_ble_eq_true rfl, Nat.le_of_ble_eq_true rfl⟩ (by rfl) i67 rfl hl.1 rfl (Nat.le_of_ble_eq_true rfl) dX10_closesOpen_67 ⟨Nat.le_of_ble_eq_true rfl, Nat.le_of_ble_eq_true rfl⟩ (fun H locs hG => ?_)
        obtain rfl := Option.some.inj h
        exact g_vret hx hb hr hlocks hK hlo hG rfl dX10_closesOpen_70
      · rw [if_neg c46] at h
        refine lv_aload_n hx hb dX10_closesOpen_49 rfl (lv_at hl 0 rfl) ?_
        refine lv_iconst (v := (2 : Int32)) hx hb dX10_closesOpen_50 (by decide) ?_
        refine lv_iload_n hx hb dX10_closesOpen_51 rfl (lv_at hl 1 rfl) ?_
        refine lv_iconst (v := (-1 : Int32)) hx hb dX10_closesOpen_52 (by decide) ?_
        refine lv_iload_n hx hb dX10_closesOpen_53 rfl (lv_at hl 3 rfl) ?_
        obtain ⟨u54, i54, h⟩ := Option.bind_eq_some_iff.mp h
        obtain ⟨G54, e54, h⟩ := Option.bind_eq_some_iff.mp h
        refine g_cVv (As := [.int (2 : Int32), .int bx1, .int (-1 : Int32), .int bx3]) (rest := []) (n := 4) hx hb hml hown hts hK hlo hG (m_X10_writesBlock l dd cT lo G ba0 (2 : Int32) bx1 (-1 : Int32) bx3 e54) qM_X10_280 qI_yX10_writesBlock qS_X10_yX10_writesBlock qN_X10 qC_yX10_writesBlock (by decide +kernel) ⟨Nat.le_of_ble_eq_true rfl, Nat.le_of_ble_eq_true rfl⟩ (by rfl) i54 rfl hl.1 rfl (Nat.le_of_ble_eq_true rfl) dX10_closesOpen_54 ⟨Nat.le_of_ble_eq_true rfl, Nat.le_of_ble_eq_true rfl⟩ (fun H locs hG => ?_)
        refine lv_iinc (v := (bx3 + (1 : Int32))) (lv' := [(3, .int (bx3 + (1 : Int32))), (0, .ref ba0), (1, .int bx1), (2, .int bx2)]) hx hb dX10_closesOpen_57 hl (k := 3) rfl rfl (by decide) rfl (fun ls hl => ?_)
        refine lv_goto (tgt := 44) hx hb dX10_closesOpen_60 (by decide) ?_
        exact ih G54 ba0 bx1 bx2 (bx3 + (1 : Int32)) _ _ hG _ (lv_sub hl [1, 2, 3, 0] rfl) h
  unfold f_X10_closesOpen at h
  refine lv_aload_n hx hb dX10_closesOpen_0 rfl (lv_at hl 0 rfl) ?_
  obtain ⟨u1, i1, h⟩ := Option.bind_eq_some_iff.mp h
  obtain ⟨v1, e1, h⟩ := Option.bind_eq_some_iff.mp h
  refine g_cVi (As := []) (rest := []) (n := 0) hx hb hml hown hts hK hlo hG (m_X10_latest l dd cT lo G a0 e1) qM_X10_215 qI_yX10_latest qS_X10_yX10_latest qN_X10 qC_yX10_latest (by decide +kernel) ⟨Nat.le_of_ble_eq_true rfl, Nat.le_of_ble_eq_true rfl⟩ (by rfl) i1 rfl hl.1 rfl (Nat.le_of_ble_eq_true rfl) dX10_closesOpen_1 ⟨Nat.le_of_ble_eq_true rfl, Nat.le_of_ble_eq_true rfl⟩ (fun H locs hG => ?_)
  refine lv_istore_n (lv' := [(1, .int v1), (0, .ref a0)]) hx hb dX10_closesOpen_4 rfl hl (by decide) rfl (fun ls hl => ?_)
  refine lv_aload_n hx hb dX10_closesOpen_5 rfl (lv_at hl 1 rfl) ?_
  refine lv_iload_n hx hb dX10_closesOpen_6 rfl (lv_at hl 0 rfl) ?_
  refine lv_iconst (v := (2 : Int32)) hx hb dX10_closesOpen_7 (by decide) ?_
  obtain ⟨u8, i8, h⟩ := Option.bind_eq_some_iff.mp h
  obtain ⟨v8, e8, h⟩ := Option.bind_eq_some_iff.mp h
  refine g_cVi (As := [.int v1, .int (2 : Int32)]) (rest := []) (n := 2) hx hb hml hown hts hK hlo hG (m_X10_of l dd cT lo G a0 v1 (2 : Int32) e8) qM_X10_218 qI_yX10_of qS_X10_yX10_of qN_X10 qC_yX10_of (by decide +kernel) ⟨Nat.le_of_ble_eq_true rfl, Nat.le_of_ble_eq_true rfl⟩ (by rfl) i8 rfl hl.1 rfl (Nat.le_of_ble_eq_true rfl) dX10_closesOpen_8 ⟨Nat.le_of_ble_eq_true rfl, Nat.le_of_ble_eq_true rfl⟩ (fun H locs hG => ?_)
  obtain ⟨v11, e11, h⟩ := Option.bind_eq_some_iff.mp h
  refine g_cSi (As := [.int v8]) (rest := []) (n := 1) hx hb hml hown hts hK hlo hG (m_X10_directoryLong l dd cT lo G v8 e11) qM_X10_221 qT_yX10_directoryLong qN_X10 qC_yX10_directoryLong (by decide +kernel) ⟨Nat.le_of_ble_eq_true rfl, Nat.le_of_ble_eq_true rfl⟩ rfl hl.1 rfl (Nat.le_of_ble_eq_true rfl) dX10_closesOpen_11 ⟨Nat.le_of_ble_eq_true rfl, Nat.le_of_ble_eq_true rfl⟩ (fun H locs hG => ?_)
  refine lv_istore_n (lv' := [(2, .int v11), (1, .int v1), (0, .ref a0)]) hx hb dX10_closesOpen_14 rfl hl (by decide) rfl (fun ls hl => ?_)
  refine lv_aload_n hx hb dX10_closesOpen_15 rfl (lv_at hl 2 rfl) ?_
  refine lv_iload_n hx hb dX10_closesOpen_16 rfl (lv_at hl 1 rfl) ?_
  refine lv_iconst (v := (3 : Int32)) hx hb dX10_closesOpen_17 (by decide) ?_
  refine lv_aload_n hx hb dX10_closesOpen_18 rfl (lv_at hl 2 rfl) ?_
  obtain ⟨v19, e19, h⟩ := Option.bind_eq_some_iff.mp h
  refine g_getr hx hb hts inlX10 hown hK hG (by rfl) 1 (by decide) qF_X10_7 e19 dX10_closesOpen_19 ?_
  refine lv_iconst (v := (4 : Int32)) hx hb dX10_closesOpen_22 (by decide) ?_
  obtain ⟨v23, e23, h⟩ := Option.bind_eq_some_iff.mp h
  refine g_iald hx hb hK hG e23 dX10_closesOpen_23 ?_
  refine lv_iconst (v := (1 : Int32)) hx hb dX10_closesOpen_24 (by decide) ?_
  refine lv_iadd hx hb dX10_closesOpen_25 ?_
  obtain ⟨u26, i26, h⟩ := Option.bind_eq_some_iff.mp h
  obtain ⟨G26, e26, h⟩ := Option.bind_eq_some_iff.mp h
  refine g_cVv (As := [.int v1, .int (3 : Int32), .int (v23 + (1 : Int32))]) (rest := []) (n := 3) hx hb hml hown hts hK hlo hG (m_X10_sets l dd cT lo G a0 v1 (3 : Int32) (v23 + (1 : Int32)) e26) qM_X10_270 qI_yX10_sets qS_X10_yX10_sets qN_X10 qC_yX10_sets (by decide +kernel) ⟨Nat.le_of_ble_eq_true rfl, Nat.le_of_ble_eq_true rfl⟩ (by rfl) i26 rfl hl.1 rfl (Nat.le_of_ble_eq_true rfl) dX10_closesOpen_26 ⟨Nat.le_of_ble_eq_true rfl, Nat.le_of_ble_eq_true rfl⟩ (fun H locs hG => ?_)
  refine lv_aload_n hx hb dX10_closesOpen_29 rfl (lv_at hl 2 rfl) ?_
  refine lv_iload_n hx hb dX10_closesOpen_30 rfl (lv_at hl 1 rfl) ?_
  refine lv_iconst (v := (4 : Int32)) hx hb dX10_closesOpen_31 (by decide) ?_
  refine lv_aload_n hx hb dX10_closesOpen_32 rfl (lv_at hl 2 rfl) ?_
  refine lv_iload_n hx hb dX10_closesOpen_33 rfl (lv_at hl 1 rfl) ?_
  obtain ⟨u34, i34, h⟩ := Option.bind_eq_some_iff.mp h
  obtain ⟨v34, e34, h⟩ := Option.bind_eq_some_iff.mp h
  refine g_cVi (As := [.int v1]) (rest := [.int (4 : Int32), .int v1, .ref a0]) (n := 1) hx hb hml hown hts hK hlo hG (m_X10_closedBefore l dd cT lo G26 a0 v1 e34) qM_X10_284 qI_yX10_closedBefore qS_X10_yX10_closedBefore qN_X10 qC_yX10_closedBefore (by decide +kernel) ⟨Nat.le_of_ble_eq_true rfl, Nat.le_of_ble_eq_true rfl⟩ (by rfl) i34 rfl hl.1 rfl (Nat.le_of_ble_eq_true rfl) dX10_closesOpen_34 ⟨Nat.le_of_ble_eq_true rfl, Nat.le_of_ble_eq_true rfl⟩ (fun H locs hG => ?_)
  refine lv_iconst (v := (1 : Int32)) hx hb dX10_closesOpen_37 (by decide) ?_
  refine lv_iadd hx hb dX10_closesOpen_38 ?_
  obtain ⟨u39, i39, h⟩ := Option.bind_eq_some_iff.mp h
  obtain ⟨G39, e39, h⟩ := Option.bind_eq_some_iff.mp h
  refine g_cVv (As := [.int v1, .int (4 : Int32), .int (v34 + (1 : Int32))]) (rest := []) (n := 3) hx hb hml hown hts hK hlo hG (m_X10_sets l dd cT lo G26 a0 v1 (4 : Int32) (v34 + (1 : Int32)) e39) qM_X10_270 qI_yX10_sets qS_X10_yX10_sets qN_X10 qC_yX10_sets (by decide +kernel) ⟨Nat.le_of_ble_eq_true rfl, Nat.le_of_ble_eq_true rfl⟩ (by rfl) i39 rfl hl.1 rfl (Nat.le_of_ble_eq_true rfl) dX10_closesOpen_39 ⟨Nat.le_of_ble_eq_true rfl, Nat.le_of_ble_eq_true rfl⟩ (fun H locs hG => ?_)
  refine lv_iconst (v := (0 : Int32)) hx hb dX10_closesOpen_42 (by decide) ?_
  refine lv_istore_n (lv' := [(3, .int (0 : Int32)), (2, .int v11), (1, .int v1), (0, .ref a0)]) hx hb dX10_closesOpen_43 rfl hl (by decide) rfl (fun ls hl => ?_)
  exact h44 g_N G39 a0 v1 v11 (0 : Int32) _ _ hG _ (lv_sub hl [3, 2, 1, 0] rfl) h
def f_X10_isOutdone_L6 (G : gH) : Nat → Nat → Int32 → Int32 → Int32 → Option Int32
  | 0, _, _, _, _ => none
  | n + 1, ba0, bx1, bx2, bx3 =>
    (g_r G ba0 10 1).bind fun v8 =>
    (g_ald 0 G v8 (6 : Int32)).bind fun v13 =>
    if v13 ≤ bx3 then
    g_z bx2
    else
    if bx2 = 0 then
    (g_ob G ba0 10).bind fun u24 =>
    (f_X10_ofVersion G ba0 bx3 (4 : Int32)).bind fun v24 =>
    (g_ob G ba0 10).bind fun u28 =>
    (f_X10_latest G ba0).bind fun v28 =>
    if v24 = v28 then
    (g_ob G ba0 10).bind fun u37 =>
    (f_X10_ofVersion G ba0 bx3 (0 : Int32)).bind fun v37 =>
    (g_ob G ba0 10).bind fun u43 =>
    (f_X10_ofVersion G ba0 bx1 (0 : Int32)).bind fun v43 =>
    if v37 = v43 then
    (g_ob G ba0 10).bind fun u51 =>
    (f_X10_isReadable G ba0 bx3).bind fun v51 =>
    if v51 = 0 then
    f_X10_isOutdone_L6 G n ba0 bx1 (0 : Int32) (bx3 + (1 : Int32))
    else
    f_X10_isOutdone_L6 G n ba0 bx1 (1 : Int32) (bx3 + (1 : Int32))
    else
    f_X10_isOutdone_L6 G n ba0 bx1 (0 : Int32) (bx3 + (1 : Int32))
    else
    f_X10_isOutdone_L6 G n ba0 bx1 (0 : Int32) (bx3 + (1 : Int32))
    else
    f_X10_isOutdone_L6 G n ba0 bx1 (1 : Int32) (bx3 + (1 : Int32))
def f_X10_isOutdone (G : gH) (a0 : Nat) (x1 : Int32) : Option Int32 :=
    f_X10_isOutdone_L6 G g_N a0 x1 (0 : Int32) (x1 + (1 : Int32))
set_option maxRecDepth 20000 in
set_option maxHeartbeats 4000000 in
theorem m_X10_isOutdone (l : Launch) (dd : va_G) (cT : Nat → ClassId) (lo : Nat) (G : gH) (a0 : Nat) (x1 : Int32) {rz : Int32} (h : f_X10_isOutdone G a0 x1 = some rz) : Met l yX10_isOutdone (Cond.code yX10_isOutdone cX10_isOutdone 4 (some .boolean) :: wsL_law) (g_rm 3 66 0 0) (va_Pc [.ref a0, .int x1] (g_Pre lo dd cT G)) (va_Qi (g_is rz G) (g_Pre lo dd cT) (g_A lo)) 0 0 (g_A lo) := by
  refine g_start RX10 rfl (by decide) (Nat.le_of_ble_eq_true rfl) ?_
  intro p e s m below meth c hx hb hr hlocks hml hown hnm hts hK hG hlo ls hl
  have hl : lv_has ls 4 [(0, .ref a0), (1, .int x1)] := hl
  have hG : g_S lo dd cT s s.heap [] G := hG
  have h6 : ∀ n : Nat, ∀ (ba0 : Nat) (bx1 : Int32) (bx2 : Int32) (bx3 : Int32), ∀ (H : Heap) (locs : List Loc), g_S lo dd cT s H locs G → ∀ ls : Array Slot, lv_has ls 4 [(0, .ref ba0), (1, .int bx1), (2, .int bx2), (3, .int bx3)] → f_X10_isOutdone_L6 G n ba0 bx1 bx2 bx3 = some rz → W p l e (g_rm 3 66 0 0) s m ([.ref a0, .int x1] : List Value).toArray below meth c H locs 0 0 (MQ below (va_Qi (g_is rz G) (g_Pre lo dd cT) (g_A lo)) ([.ref a0, .int x1] : List Value).toArray s 0 0 (g_A lo)) (F0 m 6 ls []) := by
    intro n
    induction n with
    | zero =>
      intro ba0 bx1 bx2 bx3 H locs hG ls hl h
      cases (show (none : Option Int32) = some rz from h)
    | succ n ih =>
      intro ba0 bx1 bx2 bx3 H locs hG ls hl h
      rw [f_X10_isOutdone_L6] at h
      refine lv_iload_n hx hb dX10_isOutdone_6 rfl (lv_at hl 3 rfl) ?_
      refine lv_aload_n hx hb dX10_isOutdone_7 rfl (lv_at hl 0 rfl) ?_
      obtain ⟨v8, e8, h⟩ := Option.bind_eq_some_iff.mp h
      refine g_getr hx hb hts inlX10 hown hK hG (by rfl) 1 (by decide) qF_X10_7 e8 dX10_isOutdone_8 ?_
      refine lv_bipush (v := (6 : Int32)) hx hb dX10_isOutdone_11 (by decide) ?_
      obtain ⟨v13, e13, h⟩ := Option.bind_eq_some_iff.mp h
      refine g_iald hx hb hK hG e13 dX10_isOutdone_13 ?_
      refine lv_icmp_ge (tgt := 69) hx hb dX10_isOutdone_14 (by decide) (fun c14 => ?_) (fun c14 => ?_)
      · rw [if_pos c14] at h
        refine lv_iload_n hx hb dX10_isOutdone_69 rfl (lv_at hl 2 rfl) ?_
        obtain ⟨n70, rfl⟩ := g_z_nar h
        exact g_zret hx hb hr hlocks hK hlo hG n70 ⟨rfl, rfl⟩ dX10_isOutdone_70
      · rw [if_neg c14] at h
        refine lv_iload_n hx hb dX10_isOutdone_17 rfl (lv_at hl 2 rfl) ?_
        refine lv_if_ne (tgt := 57) hx hb dX10_isOutdone_18 (by decide) (fun c18 => ?_) (fun c18 => ?_)
        · rw [if_neg c18] at h
          refine lv_iconst (v := (1 : Int32)) hx hb dX10_isOutdone_57 (by decide) ?_
          refine lv_goto (tgt := 62) hx hb dX10_isOutdone_58 (by decide) ?_
          refine lv_istore_n (lv' := [(2, .int (1 : Int32)), (0, .ref ba0), (1, .int bx1), (3, .int bx3)]) hx hb dX10_isOutdone_62 rfl hl (by decide) rfl (fun ls hl => ?_)
          refine lv_iinc (v := (bx3 + (1 : Int32))) (lv' := [(3, .int (bx3 + (1 : Int32))), (2, .int (1 : Int32)), (0, .ref ba0), (1, .int bx1)]) hx hb dX10_isOutdone_63 hl (k := 3) rfl rfl (by decide) rfl (fun ls hl => ?_)
          refine lv_goto (tgt := 6) hx hb dX10_isOutdone_66 (by decide) ?_
          exact ih ba0 bx1 (1 : Int32) (bx3 + (1 : Int32)) _ _ hG _ (lv_sub hl [2, 3, 1, 0] rfl) h
        · rw [if_pos c18] at h
          refine lv_aload_n hx hb dX10_isOutdone_21 rfl (lv_at hl 0 rfl) ?_
          refine lv_iload_n hx hb dX10_isOutdone_22 rfl (lv_at hl 3 rfl) ?_
          refine lv_iconst (v := (4 : Int32)) hx hb dX10_isOutdone_23 (by decide) ?_
          obtain ⟨u24, i24, h⟩ := Option.bind_eq_some_iff.mp h
          obtain ⟨v24, e24, h⟩ := Option.bind_eq_some_iff.mp h
          refine g_cVi (As := [.int bx3, .int (4 : Int32)]) (rest := []) (n := 2) hx hb hml hown hts hK hlo hG (m_X10_ofVersion l dd cT lo G ba0 bx3 (4 : Int32) e24) qM_X10_249 qI_yX10_ofVersion qS_X10_yX10_ofVersion qN_X10 qC_yX10_ofVersion (by decide +kernel) ⟨Nat.le_of_ble_eq_true rfl, Nat.le_of_ble_eq_true rfl⟩ (by rfl) i24 rfl hl.1 rfl (Nat.le_of_ble_eq_true rfl) dX10_isOutdone_24 ⟨Nat.le_of_ble_eq_true rfl, Nat.le_of_ble_eq_true rfl⟩ (fun H locs hG => ?_)
          refine lv_aload_n hx hb dX10_isOutdone_27 rfl (lv_at hl 0 rfl) ?_
          obtain ⟨u28, i28, h⟩ := Option.bind_eq_some_iff.mp h
          obtain ⟨v28, e28, h⟩ := Option.bind_eq_some_iff.mp h
          refine g_cVi (As := []) (rest := [.int v24]) (n := 0) hx hb hml hown hts hK hlo hG (m_X10_latest l dd cT lo G ba0 e28) qM_X10_215 qI_yX10_latest qS_X10_yX10_latest qN_X10 qC_yX10_latest (by decide +kernel) ⟨Nat.le_of_ble_eq_true rfl, Nat.le_of_ble_eq_true rfl⟩ (by rfl) i28 rfl hl.1 rfl (Nat.le_of_ble_eq_true rfl) dX10_isOutdone_28 ⟨Nat.le_of_ble_eq_true rfl, Nat.le_of_ble_eq_true rfl⟩ (fun H locs hG => ?_)
          refine lv_icmp_ne (tgt := 61) hx hb dX10_isOutdone_31 (by decide) (fun c31 => ?_) (fun c31 => ?_)
          · rw [if_neg c31] at h
            refine lv_iconst (v := (0 : Int32)) hx hb dX10_isOutdone_61 (by decide) ?_
            refine lv_istore_n (lv' := [(2, .int (0 : Int32)), (0, .ref ba0), (1, .int bx1), (3, .int bx3)]) hx hb dX10_isOutdone_62 rfl hl (by decide) rfl (fun ls hl => ?_)
            refine lv_iinc (v := (bx3 + (1 : Int32))) (lv' := [(3, .int (bx3 + (1 : Int32))), (2, .int (0 : Int32)), (0, .ref ba0), (1, .int bx1)]) hx hb dX10_isOutdone_63 hl (k := 3) rfl rfl (by decide) rfl (fun ls hl => ?_)
            refine lv_goto (tgt := 6) hx hb dX10_isOutdone_66 (by decide) ?_
            exact ih ba0 bx1 (0 : Int32) (bx3 + (1 : Int32)) _ _ hG _ (lv_sub hl [2, 3, 1, 0] rfl) h
          · rw [if_pos c31] at h
            refine lv_aload_n hx hb dX10_isOutdone_34 rfl (lv_at hl 0 rfl) ?_
            refine lv_iload_n hx hb dX10_isOutdone_35 rfl (lv_at hl 3 rfl) ?_
            refine lv_iconst (v := (0 : Int32)) hx hb dX10_isOutdone_36 (by decide) ?_
            obtain ⟨u37, i37, h⟩ := Option.bind_eq_some_iff.mp h
            obtain ⟨v37, e37, h⟩ := Option.bind_eq_some_iff.mp h
            refine g_cVi (As := [.int bx3, .int (0 : Int32)]) (rest := []) (n := 2) hx hb hml hown hts hK hlo hG (m_X10_ofVersion l dd cT lo G ba0 bx3 (0 : Int32) e37) qM_X10_249 qI_yX10_ofVersion qS_X10_yX10_ofVersion qN_X10 qC_yX10_ofVersion (by decide +kernel) ⟨Nat.le_of_ble_eq_true rfl, Nat.le_of_ble_eq_true rfl⟩ (by rfl) i37 rfl hl.1 rfl (Nat.le_of_ble_eq_true rfl) dX10_isOutdone_37 ⟨Nat.le_of_ble_eq_true rfl, Nat.le_of_ble_eq_true rfl⟩ (fun H locs hG => ?_)
            refine lv_aload_n hx hb dX10_isOutdone_40 rfl (lv_at hl 0 rfl) ?_
            refine lv_iload_n hx hb dX10_isOutdone_41 rfl (lv_at hl 1 rfl) ?_
            refine lv_iconst (v := (0 : Int32)) hx hb dX10_isOutdone_42 (by decide) ?_
            obtain ⟨u43, i43, h⟩ := Option.bind_eq_some_iff.mp h
            obtain ⟨v43, e43, h⟩ := Option.bind_eq_some_iff.mp h
            refine g_cVi (As := [.int bx1, .int (0 : Int32)]) (rest := [.int v37]) (n := 2) hx hb hml hown hts hK hlo hG (m_X10_ofVersion l dd cT lo G ba0 bx1 (0 : Int32) e43) qM_X10_249 qI_yX10_ofVersion qS_X10_yX10_ofVersion qN_X10 qC_yX10_ofVersion (by decide +kernel) ⟨Nat.le_of_ble_eq_true rfl, Nat.le_of_ble_eq_true rfl⟩ (by rfl) i43 rfl hl.1 rfl (Nat.le_of_ble_eq_true rfl) dX10_isOutdone_43 ⟨Nat.le_of_ble_eq_true rfl, Nat.le_of_ble_eq_true rfl⟩ (fun H locs hG => ?_)
            refine lv_icmp_ne (tgt := 61) hx hb dX10_isOutdone_46 (by decide) (fun c46 => ?_) (fun c46 => ?_)
            · rw [if_neg c46] at h
              refine lv_iconst (v := (0 : Int32)) hx hb dX10_isOutdone_61 (by decide) ?_
              refine lv_istore_n (lv' := [(2, .int (0 : Int32)), (0, .ref ba0), (1, .int bx1), (3, .int bx3)]) hx hb dX10_isOutdone_62 rfl hl (by decide) rfl (fun ls hl => ?_)
              refine lv_iinc (v := (bx3 + (1 : Int32))) (lv' := [(3, .int (bx3 + (1 : Int32))), (2, .int (0 : Int32)), (0, .ref ba0), (1, .int bx1)]) hx hb dX10_isOutdone_63 hl (k := 3) rfl rfl (by decide) rfl (fun ls hl => ?_)
              refine lv_goto (tgt := 6) hx hb dX10_isOutdone_66 (by decide) ?_
              exact ih ba0 bx1 (0 : Int32) (bx3 + (1 : Int32)) _ _ hG _ (lv_sub hl [2, 3, 1, 0] rfl) h
            · rw [if_pos c46] at h
              refine lv_aload_n hx hb dX10_isOutdone_49 rfl (lv_at hl 0 rfl) ?_
              refine lv_iload_n hx hb dX10_isOutdone_50 rfl (lv_at hl 3 rfl) ?_
              obtain ⟨u51, i51, h⟩ := Option.bind_eq_some_iff.mp h
              obtain ⟨v51, e51, h⟩ := Option.bind_eq_some_iff.mp h
              refine g_cVi (As := [.int bx3]) (rest := []) (n := 1) hx hb hml hown hts hK hlo hG (m_X10_isReadable l dd cT lo G ba0 bx3 e51) qM_X10_252 qI_yX10_isReadable qS_X10_yX10_isReadable qN_X10 qC_yX10_isReadable (by decide +kernel) ⟨Nat.le_of_ble_eq_true rfl, Nat.le_of_ble_eq_true rfl⟩ (by rfl) i51 rfl hl.1 rfl (Nat.le_of_ble_eq_true rfl) dX10_isOutdone_51 ⟨Nat.le_of_ble_eq_true rfl, Nat.le_of_ble_eq_true rfl⟩ (fun H locs hG => ?_)
              refine lv_if_eq (tgt := 61) hx hb dX10_isOutdone_54 (by decide) (fun c54 => ?_) (fun c54 => ?_)
              · rw [if_pos c54] at h
                refine lv_iconst (v := (0 : Int32)) hx hb dX10_isOutdone_61 (by decide) ?_
                refine lv_istore_n (lv' := [(2, .int (0 : Int32)), (0, .ref ba0), (1, .int bx1), (3, .int bx3)]) hx hb dX10_isOutdone_62 rfl hl (by decide) rfl (fun ls hl => ?_)
                refine lv_iinc (v := (bx3 + (1 : Int32))) (lv' := [(3, .int (bx3 + (1 : Int32))), (2, .int (0 : Int32)), (0, .ref ba0), (1, .int bx1)]) hx hb dX10_isOutdone_63 hl (k := 3) rfl rfl (by decide) rfl (fun ls hl => ?_)
                refine lv_goto (tgt := 6) hx hb dX10_isOutdone_66 (by decide) ?_
                exact ih ba0 bx1 (0 : Int32) (bx3 + (1 : Int32)) _ _ hG _ (lv_sub hl [2, 3, 1, 0] rfl) h
              · rw [if_neg c54] at h
                refine lv_iconst (v := (1 : Int32)) hx hb dX10_isOutdone_57 (by decide) ?_
                refine lv_goto (tgt := 62) hx hb dX10_isOutdone_58 (by decide) ?_
                refine lv_istore_n (lv' := [(2, .int (1 : Int32)), (0, .ref ba0), (1, .int bx1), (3, .int bx3)]) hx hb dX10_isOutdone_62 rfl hl (by decide) rfl (fun ls hl => ?_)
                refine lv_iinc (v := (bx3 + (1 : Int32))) (lv' := [(3, .int (bx3 + (1 : Int32))), (2, .int (1 : Int32)), (0, .ref ba0), (1, .int bx1)]) hx hb dX10_isOutdone_63 hl (k := 3) rfl rfl (by decide) rfl (fun ls hl => ?_)
                refine lv_goto (tgt := 6) hx hb dX10_isOutdone_66 (by decide) ?_
                exact ih ba0 bx1 (1 : Int32) (bx3 + (1 : Int32)) _ _ hG _ (lv_sub hl [2, 3, 1, 0] rfl) h
  unfold f_X10_isOutdone at h
  refine lv_iconst (v := (0 : Int32)) hx hb dX10_isOutdone_0 (by decide) ?_
  refine lv_istore_n (lv' := [(2, .int (0 : Int32)), (0, .ref a0), (1, .int x1)]) hx hb dX10_isOutdone_1 rfl hl (by decide) rfl (fun ls hl => ?_)
  refine lv_iload_n hx hb dX10_isOutdone_2 rfl (lv_at hl 2 rfl) ?_
  refine lv_iconst (v := (1 : Int32)) hx hb dX10_isOutdone_3 (by decide) ?_
  refine lv_iadd hx hb dX10_isOutdone_4 ?_
  refine lv_istore_n (lv' := [(3, .int (x1 + (1 : Int32))), (2, .int (0 : Int32)), (0, .ref a0), (1, .int x1)]) hx hb dX10_isOutdone_5 rfl hl (by decide) rfl (fun ls hl => ?_)
  exact h6 g_N a0 x1 (0 : Int32) (x1 + (1 : Int32)) _ _ hG _ (lv_sub hl [2, 3, 1, 0] rfl) h
def f_X10_badMany_L4 (G : gH) : Nat → Nat → Int32 → Int32 → Option Int32
  | 0, _, _, _ => none
  | n + 1, ba0, bx1, bx2 =>
    (g_r G ba0 10 1).bind fun v6 =>
    (g_ald 0 G v6 (0 : Int32)).bind fun v10 =>
    if v10 ≤ bx2 then
    some bx1
    else
    (g_r G ba0 10 1).bind fun v16 =>
    (g_ald 0 G v16 ((103 : Int32) + bx2)).bind fun v23 =>
    f_X10_badMany_L4 G n ba0 (bx1 + v23) (bx2 + (1 : Int32))
def f_X10_badMany (G : gH) (a0 : Nat) : Option Int32 :=
    f_X10_badMany_L4 G g_N a0 (0 : Int32) (0 : Int32)
set_option maxRecDepth 20000 in
set_option maxHeartbeats 4000000 in
theorem m_X10_badMany (l : Launch) (dd : va_G) (cT : Nat → ClassId) (lo : Nat) (G : gH) (a0 : Nat) {rz : Int32} (h : f_X10_badMany G a0 = some rz) : Met l yX10_badMany (Cond.code yX10_badMany cX10_badMany 3 (some .int) :: wsL_law) (g_rm 0 0 0 0) (va_Pc [.ref a0] (g_Pre lo dd cT G)) (va_Qi (g_is rz G) (g_Pre lo dd cT) (g_A lo)) 0 0 (g_A lo) := by
  refine g_start RX10 rfl (by decide) (Nat.le_of_ble_eq_true rfl) ?_
  intro p e s m below meth c hx hb hr hlocks hml hown hnm hts hK hG hlo ls hl
  have hl : lv_has ls 3 [(0, .ref a0)] := hl
  have hG : g_S lo dd cT s s.heap [] G := hG
  have h4 : ∀ n : Nat, ∀ (ba0 : Nat) (bx1 : Int32) (bx2 : Int32), ∀ (H : Heap) (locs : List Loc), g_S lo dd cT s H locs G → ∀ ls : Array Slot, lv_has ls 3 [(0, .ref ba0), (1, .int bx1), (2, .int bx2)] → f_X10_badMany_L4 G n ba0 bx1 bx2 = some rz → W p l e (g_rm 0 0 0 0) s m ([.ref a0] : List Value).toArray below meth c H locs 0 0 (MQ below (va_Qi (g_is rz G) (g_Pre lo dd cT) (g_A lo)) ([.ref a0] : List Value).toArray s 0 0 (g_A lo)) (F0 m 4 ls []) := by
    intro n
    induction n with
    | zero =>
      intro ba0 bx1 bx2 H locs hG ls hl h
      cases (show (none : Option Int32) = some rz from h)
    | succ n ih =>
      intro ba0 bx1 bx2 H locs hG ls hl h
      rw [f_X10_badMany_L4] at h
      refine lv_iload_n hx hb dX10_badMany_4 rfl (lv_at hl 2 rfl) ?_
      refine lv_aload_n hx hb dX10_badMany_5 rfl (lv_at hl 0 rfl) ?_
      obtain ⟨v6, e6, h⟩ := Option.bind_eq_some_iff.mp h
      refine g_getr hx hb hts inlX10 hown hK hG (by rfl) 1 (by decide) qF_X10_7 e6 dX10_badMany_6 ?_
      refine lv_iconst (v := (0 : Int32)) hx hb dX10_badMany_9 (by decide) ?_
      obtain ⟨v10, e10, h⟩ := Option.bind_eq_some_iff.mp h
      refine g_iald hx hb hK hG e10 dX10_badMany_10 ?_
      refine lv_icmp_ge (tgt := 32) hx hb dX10_badMany_11 (by decide) (fun c11 => ?_) (fun c11 => ?_)
      · rw [if_pos c11] at h
        refine lv_iload_n hx hb dX10_badMany_32 rfl (lv_at hl 1 rfl) ?_
        obtain rfl := Option.some.inj h
        exact g_iret hx hb hr hlocks hK hlo hG ⟨rfl, rfl⟩ dX10_badMany_33
      · rw [if_neg c11] at h
        refine lv_iload_n hx hb dX10_badMany_14 rfl (lv_at hl 1 rfl) ?_
        refine lv_aload_n hx hb dX10_badMany_15 rfl (lv_at hl 0 rfl) ?_
        obtain ⟨v16, e16, h⟩ := Option.bind_eq_some_iff.mp h
        refine g_getr hx hb hts inlX10 hown hK hG (by rfl) 1 (by decide) qF_X10_7 e16 dX10_badMany_16 ?_
        refine lv_bipush (v := (103 : Int32)) hx hb dX10_badMany_19 (by decide) ?_
        refine lv_iload_n hx hb dX10_badMany_21 rfl (lv_at hl 2 rfl) ?_
        refine lv_iadd hx hb dX10_badMany_22 ?_
        obtain ⟨v23, e23, h⟩ := Option.bind_eq_some_iff.mp h
        refine g_iald hx hb hK hG e23 dX10_badMany_23 ?_
        refine lv_iadd hx hb dX10_badMany_24 ?_
        refine lv_istore_n (lv' := [(1, .int (bx1 + v23)), (0, .ref ba0), (2, .int bx2)]) hx hb dX10_badMany_25 rfl hl (by decide) rfl (fun ls hl => ?_)
        refine lv_iinc (v := (bx2 + (1 : Int32))) (lv' := [(2, .int (bx2 + (1 : Int32))), (1, .int (bx1 + v23)), (0, .ref ba0)]) hx hb dX10_badMany_26 hl (k := 2) rfl rfl (by decide) rfl (fun ls hl => ?_)
        refine lv_goto (tgt := 4) hx hb dX10_badMany_29 (by decide) ?_
        exact ih ba0 (bx1 + v23) (bx2 + (1 : Int32)) _ _ hG _ (lv_sub hl [2, 1, 0] rfl) h
  unfold f_X10_badMany at h
  refine lv_iconst (v := (0 : Int32)) hx hb dX10_badMany_0 (by decide) ?_
  refine lv_istore_n (lv' := [(1, .int (0 : Int32)), (0, .ref a0)]) hx hb dX10_badMany_1 rfl hl (by decide) rfl (fun ls hl => ?_)
  refine lv_iconst (v := (0 : Int32)) hx hb dX10_badMany_2 (by decide) ?_
  refine lv_istore_n (lv' := [(2, .int (0 : Int32)), (1, .int (0 : Int32)), (0, .ref a0)]) hx hb dX10_badMany_3 rfl hl (by decide) rfl (fun ls hl => ?_)
  exact h4 g_N a0 (0 : Int32) (0 : Int32) _ _ hG _ (lv_sub hl [2, 1, 0] rfl) h
def f_X10_emptySpares_L7 (G : gH) : Nat → Nat → Int32 → Int32 → Option Int32
  | 0, _, _, _ => none
  | n + 1, ba0, bx1, bx2 =>
    (g_r G ba0 10 1).bind fun v9 =>
    (g_ald 0 G v9 (0 : Int32)).bind fun v13 =>
    if v13 ≤ bx2 then
    some bx1
    else
    (g_r G ba0 10 1).bind fun v19 =>
    (g_ald 0 G v19 ((7 : Int32) + bx2)).bind fun v26 =>
    if v26 = 0 then
    f_X10_emptySpares_L7 G n ba0 (bx1 + (1 : Int32)) (bx2 + (1 : Int32))
    else
    f_X10_emptySpares_L7 G n ba0 (bx1 + (0 : Int32)) (bx2 + (1 : Int32))
def f_X10_emptySpares (G : gH) (a0 : Nat) : Option Int32 :=
    (g_ob G a0 10).bind fun u3 =>
    (f_X10_mainMany G a0).bind fun v3 =>
    f_X10_emptySpares_L7 G g_N a0 (0 : Int32) v3
set_option maxRecDepth 20000 in
set_option maxHeartbeats 4000000 in
theorem m_X10_emptySpares (l : Launch) (dd : va_G) (cT : Nat → ClassId) (lo : Nat) (G : gH) (a0 : Nat) {rz : Int32} (h : f_X10_emptySpares G a0 = some rz) : Met l yX10_emptySpares (Cond.code yX10_emptySpares cX10_emptySpares 3 (some .int) :: wsL_law) (g_rm 1 20 0 0) (va_Pc [.ref a0] (g_Pre lo dd cT G)) (va_Qi (g_is rz G) (g_Pre lo dd cT) (g_A lo)) 0 0 (g_A lo) := by
  refine g_start RX10 rfl (by decide) (Nat.le_of_ble_eq_true rfl) ?_
  intro p e s m below meth c hx hb hr hlocks hml hown hnm hts hK hG hlo ls hl
  have hl : lv_has ls 3 [(0, .ref a0)] := hl
  have hG : g_S lo dd cT s s.heap [] G := hG
  have h7 : ∀ n : Nat, ∀ (ba0 : Nat) (bx1 : Int32) (bx2 : Int32), ∀ (H : Heap) (locs : List Loc), g_S lo dd cT s H locs G → ∀ ls : Array Slot, lv_has ls 3 [(0, .ref ba0), (1, .int bx1), (2, .int bx2)] → f_X10_emptySpares_L7 G n ba0 bx1 bx2 = some rz → W p l e (g_rm 1 20 0 0) s m ([.ref a0] : List Value).toArray below meth c H locs 0 0 (MQ below (va_Qi (g_is rz G) (g_Pre lo dd cT) (g_A lo)) ([.ref a0] : List Value).toArray s 0 0 (g_A lo)) (F0 m 7 ls []) := by
    intro n
    induction n with
    | zero =>
      intro ba0 bx1 bx2 H locs hG ls hl h
      cases (show (none : Option Int32) = some rz from h)
    | succ n ih =>
      intro ba0 bx1 bx2 H locs hG ls hl h
      rw [f_X10_emptySpares_L7] at h
      refine lv_iload_n hx hb dX10_emptySpares_7 rfl (lv_at hl 2 rfl) ?_
      refine lv_aload_n hx hb dX10_emptySpares_8 rfl (lv_at hl 0 rfl) ?_
      obtain ⟨v9, e9, h⟩ := Option.bind_eq_some_iff.mp h
      refine g_getr hx hb hts inlX10 hown hK hG (by rfl) 1 (by decide) qF_X10_7 e9 dX10_emptySpares_9 ?_
      refine lv_iconst (v := (0 : Int32)) hx hb dX10_emptySpares_12 (by decide) ?_
      obtain ⟨v13, e13, h⟩ := Option.bind_eq_some_iff.mp h
      refine g_iald hx hb hK hG e13 dX10_emptySpares_13 ?_
      refine lv_icmp_ge (tgt := 43) hx hb dX10_emptySpares_14 (by decide) (fun c14 => ?_) (fun c14 => ?_)
      · rw [if_pos c14] at h
        refine lv_iload_n hx hb dX10_emptySpares_43 rfl (lv_at hl 1 rfl) ?_
        obtain rfl := Option.some.inj h
        exact g_iret hx hb hr hlocks hK hlo hG ⟨rfl, rfl⟩ dX10_emptySpares_44
      · rw [if_neg c14] at h
        refine lv_iload_n hx hb dX10_emptySpares_17 rfl (lv_at hl 1 rfl) ?_
        refine lv_aload_n hx hb dX10_emptySpares_18 rfl (lv_at hl 0 rfl) ?_
        obtain ⟨v19, e19, h⟩ := Option.bind_eq_some_iff.mp h
        refine g_getr hx hb hts inlX10 hown hK hG (by rfl) 1 (by decide) qF_X10_7 e19 dX10_emptySpares_19 ?_
        refine lv_bipush (v := (7 : Int32)) hx hb dX10_emptySpares_22 (by decide) ?_
        refine lv_iload_n hx hb dX10_emptySpares_24 rfl (lv_at hl 2 rfl) ?_
        refine lv_iadd hx hb dX10_emptySpares_25 ?_
        obtain ⟨v26, e26, h⟩ := Option.bind_eq_some_iff.mp h
        refine g_iald hx hb hK hG e26 dX10_emptySpares_26 ?_
        refine lv_if_ne (tgt := 34) hx hb dX10_emptySpares_27 (by decide) (fun c27 => ?_) (fun c27 => ?_)
        · rw [if_neg c27] at h
          refine lv_iconst (v := (0 : Int32)) hx hb dX10_emptySpares_34 (by decide) ?_
          refine lv_iadd hx hb dX10_emptySpares_35 ?_
          refine lv_istore_n (lv' := [(1, .int (bx1 + (0 : Int32))), (0, .ref ba0), (2, .int bx2)]) hx hb dX10_emptySpares_36 rfl hl (by decide) rfl (fun ls hl => ?_)
          refine lv_iinc (v := (bx2 + (1 : Int32))) (lv' := [(2, .int (bx2 + (1 : Int32))), (1, .int (bx1 + (0 : Int32))), (0, .ref ba0)]) hx hb dX10_emptySpares_37 hl (k := 2) rfl rfl (by decide) rfl (fun ls hl => ?_)
          refine lv_goto (tgt := 7) hx hb dX10_emptySpares_40 (by decide) ?_
          exact ih ba0 (bx1 + (0 : Int32)) (bx2 + (1 : Int32)) _ _ hG _ (lv_sub hl [2, 1, 0] rfl) h
        · rw [if_pos c27] at h
          refine lv_iconst (v := (1 : Int32)) hx hb dX10_emptySpares_30 (by decide) ?_
          refine lv_goto (tgt := 35) hx hb dX10_emptySpares_31 (by decide) ?_
          refine lv_iadd hx hb dX10_emptySpares_35 ?_
          refine lv_istore_n (lv' := [(1, .int (bx1 + (1 : Int32))), (0, .ref ba0), (2, .int bx2)]) hx hb dX10_emptySpares_36 rfl hl (by decide) rfl (fun ls hl => ?_)
          refine lv_iinc (v := (bx2 + (1 : Int32))) (lv' := [(2, .int (bx2 + (1 : Int32))), (1, .int (bx1 + (1 : Int32))), (0, .ref ba0)]) hx hb dX10_emptySpares_37 hl (k := 2) rfl rfl (by decide) rfl (fun ls hl => ?_)
          refine lv_goto (tgt := 7) hx hb dX10_emptySpares_40 (by decide) ?_
          exact ih ba0 (bx1 + (1 : Int32)) (bx2 + (1 : Int32)) _ _ hG _ (lv_sub hl [2, 1, 0] rfl) h
  unfold f_X10_emptySpares at h
  refine lv_iconst (v := (0 : Int32)) hx hb dX10_emptySpares_0 (by decide) ?_
  refine lv_istore_n (lv' := [(1, .int (0 : Int32)), (0, .ref a0)]) hx hb dX10_emptySpares_1 rfl hl (by decide) rfl (fun ls hl => ?_)
  refine lv_aload_n hx hb dX10_emptySpares_2 rfl (lv_at hl 1 rfl) ?_
  obtain ⟨u3, i3, h⟩ := Option.bind_eq_some_iff.mp h
  obtain ⟨v3, e3, h⟩ := Option.bind_eq_some_iff.mp h
  refine g_cVi (As := []) (rest := []) (n := 0) hx hb hml hown hts hK hlo hG (m_X10_mainMany l dd cT lo G a0 e3) qM_X10_205 qI_yX10_mainMany qS_X10_yX10_mainMany qN_X10 qC_yX10_mainMany (by decide +kernel) ⟨Nat.le_of_ble_eq_true rfl, Nat.le_of_ble_eq_true rfl⟩ (by rfl) i3 rfl hl.1 rfl (Nat.le_of_ble_eq_true rfl) dX10_emptySpares_3 ⟨Nat.le_of_ble_eq_true rfl, Nat.le_of_ble_eq_true rfl⟩ (fun H locs hG => ?_)
  refine lv_istore_n (lv' := [(2, .int v3), (1, .int (0 : Int32)), (0, .ref a0)]) hx hb dX10_emptySpares_6 rfl hl (by decide) rfl (fun ls hl => ?_)
  exact h7 g_N a0 (0 : Int32) v3 _ _ hG _ (lv_sub hl [2, 1, 0] rfl) h
def f_X10_size_J21 (G : gH) (ba0 : Nat) (bx1 : Int32) (z0 : Nat) (z1 : Int32) : Option (gH × Int32) :=
    (g_ob G z0 10).bind fun u22 =>
    (f_X10_throwsIf G z0 z1 (1 : Int32)).bind fun q22 =>
    if q22.2 = 0 then
    if bx1 = (5 : Int32) then
    (g_ob q22.1 ba0 10).bind fun u77 =>
    (f_X10_emptySpares q22.1 ba0).bind fun v77 =>
    some (q22.1, v77)
    else
    if bx1 = (6 : Int32) then
    (g_ob q22.1 ba0 10).bind fun u82 =>
    (f_X10_badMany q22.1 ba0).bind fun v82 =>
    some (q22.1, v82)
    else
    if bx1 = (7 : Int32) then
    (g_ob q22.1 ba0 10).bind fun u89 =>
    (f_X10_filesThere q22.1 ba0 (12 : Int32)).bind fun q89 =>
    some (q89.1, q89.2)
    else
    if bx1 = (8 : Int32) then
    (g_ob q22.1 ba0 10).bind fun u94 =>
    (f_X10_goodFiles q22.1 ba0).bind fun q94 =>
    (f_X10_ones q94.1 q94.2).bind fun v97 =>
    some (q94.1, v97)
    else
    if bx1 = (9 : Int32) then
    (g_ob q22.1 ba0 10).bind fun u102 =>
    (f_X10_isOpen q22.1 ba0).bind fun v102 =>
    if v102 = 0 then
    some (q22.1, (0 : Int32))
    else
    some (q22.1, (1 : Int32))
    else
    if bx1 = (10 : Int32) then
    (g_r q22.1 ba0 10 1).bind fun v115 =>
    (g_ald 0 q22.1 v115 (5 : Int32)).bind fun v119 =>
    some (q22.1, v119)
    else
    if bx1 = (11 : Int32) then
    (g_i q22.1 ba0 10 24).bind fun v122 =>
    some (q22.1, v122)
    else
    if bx1 = (12 : Int32) then
    (g_r q22.1 ba0 10 1).bind fun v127 =>
    (g_ald 0 q22.1 v127 (6 : Int32)).bind fun v132 =>
    some (q22.1, v132)
    else
    (g_r q22.1 ba0 10 1).bind fun v135 =>
    (g_ald 0 q22.1 v135 bx1).bind fun v139 =>
    some (q22.1, v139)
    else
    some (q22.1, (0 : Int32))
def f_X10_size (G : gH) (a0 : Nat) (x1 : Int32) : Option (gH × Int32) :=
    (g_put G a0 10 0 (.int (0 : Int32))).bind fun G2 =>
    (f_X10_within G2 x1 (0 : Int32) (12 : Int32)).bind fun v10 =>
    if v10 = 0 then
    f_X10_size_J21 G2 a0 x1 a0 (1 : Int32)
    else
    f_X10_size_J21 G2 a0 x1 a0 (0 : Int32)
set_option maxRecDepth 20000 in
set_option maxHeartbeats 4000000 in
theorem m_X10_size (l : Launch) (dd : va_G) (cT : Nat → ClassId) (lo : Nat) (G : gH) (a0 : Nat) (x1 : Int32) {rz : Int32} {Gz : gH} (h : f_X10_size G a0 x1 = some (Gz, rz)) : Met l yX10_size (Cond.code yX10_size cX10_size 2 (some .int) :: wsL_law) (g_rm 5 112 0 0) (va_Pc [.ref a0, .int x1] (g_Pre lo dd cT G)) (va_Qi (g_is rz Gz) (g_Pre lo dd cT) (g_A lo)) 0 0 (g_A lo) := by
  refine g_start RX10 rfl (by decide) (Nat.le_of_ble_eq_true rfl) ?_
  intro p e s m below meth c hx hb hr hlocks hml hown hnm hts hK hG hlo ls hl
  have hl : lv_has ls 2 [(0, .ref a0), (1, .int x1)] := hl
  have hG : g_S lo dd cT s s.heap [] G := hG
  have h21 : ∀ (G : gH) (ba0 : Nat) (bx1 : Int32) (z0 : Nat) (z1 : Int32), ∀ (H : Heap) (locs : List Loc), g_S lo dd cT s H locs G → ∀ ls : Array Slot, lv_has ls 2 [(0, .ref ba0), (1, .int bx1)] → f_X10_size_J21 G ba0 bx1 z0 z1 = some (Gz, rz) → W p l e (g_rm 5 112 0 0) s m ([.ref a0, .int x1] : List Value).toArray below meth c H locs 0 0 (MQ below (va_Qi (g_is rz Gz) (g_Pre lo dd cT) (g_A lo)) ([.ref a0, .int x1] : List Value).toArray s 0 0 (g_A lo)) (F0 m 21 ls [.int z1, .ref z0]) := by
    intro G ba0 bx1 z0 z1 H locs hG ls hl h
    unfold f_X10_size_J21 at h
    refine lv_iconst (v := (1 : Int32)) hx hb dX10_size_21 (by decide) ?_
    obtain ⟨u22, i22, h⟩ := Option.bind_eq_some_iff.mp h
    obtain ⟨q22, e22, h⟩ := Option.bind_eq_some_iff.mp h
    refine g_cVi (As := [.int z1, .int (1 : Int32)]) (rest := []) (n := 2) hx hb hml hown hts hK hlo hG (m_X10_throwsIf l dd cT lo G z0 z1 (1 : Int32) e22) qM_X10_188 qI_yX10_throwsIf qS_X10_yX10_throwsIf qN_X10 qC_yX10_throwsIf (by decide +kernel) ⟨Nat.le_of_ble_eq_true rfl, Nat.le_of_ble_eq_true rfl⟩ (by rfl) i22 rfl hl.1 rfl (Nat.le_of_ble_eq_true rfl) dX10_size_22 ⟨Nat.le_of_ble_eq_true rfl, Nat.le_of_ble_eq_true rfl⟩ (fun H locs hG => ?_)
    refine lv_if_eq (tgt := 30) hx hb dX10_size_25 (by decide) (fun c25 => ?_) (fun c25 => ?_)
    · rw [if_pos c25] at h
      refine lv_iload_n hx hb dX10_size_30 rfl (lv_at hl 1 rfl) ?_
      by_cases c31_0 : bx1 = (5 : Int32)
      · rw [if_pos c31_0] at h
        refine g_swIn (tgt := 76) hx hb dX10_size_31 (5 : Int32) c31_0 (by decide) (by decide) 45 (by decide) (by decide) ?_
        refine lv_aload_n hx hb dX10_size_76 rfl (lv_at hl 0 rfl) ?_
        obtain ⟨u77, i77, h⟩ := Option.bind_eq_some_iff.mp h
        obtain ⟨v77, e77, h⟩ := Option.bind_eq_some_iff.mp h
        refine g_cVi (As := []) (rest := []) (n := 0) hx hb hml hown hts hK hlo hG (m_X10_emptySpares l dd cT lo q22.1 ba0 e77) qM_X10_296 qI_yX10_emptySpares qS_X10_yX10_emptySpares qN_X10 qC_yX10_emptySpares (by decide +kernel) ⟨Nat.le_of_ble_eq_true rfl, Nat.le_of_ble_eq_true rfl⟩ (by rfl) i77 rfl hl.1 rfl (Nat.le_of_ble_eq_true rfl) dX10_size_77 ⟨Nat.le_of_ble_eq_true rfl, Nat.le_of_ble_eq_true rfl⟩ (fun H locs hG => ?_)
        obtain ⟨rfl, rfl⟩ := Prod.mk.inj (Option.some.inj h)
        exact g_iret hx hb hr hlocks hK hlo hG ⟨rfl, rfl⟩ dX10_size_80
      rw [if_neg c31_0] at h
      by_cases c31_1 : bx1 = (6 : Int32)
      · rw [if_pos c31_1] at h
        refine g_swIn (tgt := 81) hx hb dX10_size_31 (6 : Int32) c31_1 (by decide) (by decide) 50 (by decide) (by decide) ?_
        refine lv_aload_n hx hb dX10_size_81 rfl (lv_at hl 0 rfl) ?_
        obtain ⟨u82, i82, h⟩ := Option.bind_eq_some_iff.mp h
        obtain ⟨v82, e82, h⟩ := Option.bind_eq_some_iff.mp h
        refine g_cVi (As := []) (rest := []) (n := 0) hx hb hml hown hts hK hlo hG (m_X10_badMany l dd cT lo q22.1 ba0 e82) qM_X10_299 qI_yX10_badMany qS_X10_yX10_badMany qN_X10 qC_yX10_badMany (by decide +kernel) ⟨Nat.le_of_ble_eq_true rfl, Nat.le_of_ble_eq_true rfl⟩ (by rfl) i82 rfl hl.1 rfl (Nat.le_of_ble_eq_true rfl) dX10_size_82 ⟨Nat.le_of_ble_eq_true rfl, Nat.le_of_ble_eq_true rfl⟩ (fun H locs hG => ?_)
        obtain ⟨rfl, rfl⟩ := Prod.mk.inj (Option.some.inj h)
        exact g_iret hx hb hr hlocks hK hlo hG ⟨rfl, rfl⟩ dX10_size_85
      rw [if_neg c31_1] at h
      by_cases c31_2 : bx1 = (7 : Int32)
      · rw [if_pos c31_2] at h
        refine g_swIn (tgt := 86) hx hb dX10_size_31 (7 : Int32) c31_2 (by decide) (by decide) 55 (by decide) (by decide) ?_
        refine lv_aload_n hx hb dX10_size_86 rfl (lv_at hl 0 rfl) ?_
        refine lv_bipush (v := (12 : Int32)) hx hb dX10_size_87 (by decide) ?_
        obtain ⟨u89, i89, h⟩ := Option.bind_eq_some_iff.mp h
        obtain ⟨q89, e89, h⟩ := Option.bind_eq_some_iff.mp h
        refine g_cVi (As := [.int (12 : Int32)]) (rest := []) (n := 1) hx hb hml hown hts hK hlo hG (m_X10_filesThere l dd cT lo q22.1 ba0 (12 : Int32) e89) qM_X10_302 qI_yX10_filesThere qS_X10_yX10_filesThere qN_X10 qC_yX10_filesThere (by decide +kernel) ⟨Nat.le_of_ble_eq_true rfl, Nat.le_of_ble_eq_true rfl⟩ (by rfl) i89 rfl hl.1 rfl (Nat.le_of_ble_eq_true rfl) dX10_size_89 ⟨Nat.le_of_ble_eq_true rfl, Nat.le_of_ble_eq_true rfl⟩ (fun H locs hG => ?_)
        obtain ⟨rfl, rfl⟩ := Prod.mk.inj (Option.some.inj h)
        exact g_iret hx hb hr hlocks hK hlo hG ⟨rfl, rfl⟩ dX10_size_92
      rw [if_neg c31_2] at h
      by_cases c31_3 : bx1 = (8 : Int32)
      · rw [if_pos c31_3] at h
        refine g_swIn (tgt := 93) hx hb dX10_size_31 (8 : Int32) c31_3 (by decide) (by decide) 62 (by decide) (by decide) ?_
        refine lv_aload_n hx hb dX10_size_93 rfl (lv_at hl 0 rfl) ?_
        obtain ⟨u94, i94, h⟩ := Option.bind_eq_some_iff.mp h
        obtain ⟨q94, e94, h⟩ := Option.bind_eq_some_iff.mp h
        refine g_cVi (As := []) (rest := []) (n := 0) hx hb hml hown hts hK hlo hG (m_X10_goodFiles l dd cT lo q22.1 ba0 e94) qM_X10_305 qI_yX10_goodFiles qS_X10_yX10_goodFiles qN_X10 qC_yX10_goodFiles (by decide +kernel) ⟨Nat.le_of_ble_eq_true rfl, Nat.le_of_ble_eq_true rfl⟩ (by rfl) i94 rfl hl.1 rfl (Nat.le_of_ble_eq_true rfl) dX10_size_94 ⟨Nat.le_of_ble_eq_true rfl, Nat.le_of_ble_eq_true rfl⟩ (fun H locs hG => ?_)
        obtain ⟨v97, e97, h⟩ := Option.bind_eq_some_iff.mp h
        refine g_cSi (As := [.int q94.2]) (rest := []) (n := 1) hx hb hml hown hts hK hlo hG (m_X10_ones l dd cT lo q94.1 q94.2 e97) qM_X10_308 qT_yX10_ones qN_X10 qC_yX10_ones (by decide +kernel) ⟨Nat.le_of_ble_eq_true rfl, Nat.le_of_ble_eq_true rfl⟩ rfl hl.1 rfl (Nat.le_of_ble_eq_true rfl) dX10_size_97 ⟨Nat.le_of_ble_eq_true rfl, Nat.le_of_ble_eq_true rfl⟩ (fun H locs hG => ?_)
        obtain ⟨rfl, rfl⟩ := Prod.mk.inj (Option.some.inj h)
        exact g_iret hx hb hr hlocks hK hlo hG ⟨rfl, rfl⟩ dX10_size_100
      rw [if_neg c31_3] at h
      by_cases c31_4 : bx1 = (9 : Int32)
      · rw [if_pos c31_4] at h
        refine g_swIn (tgt := 101) hx hb dX10_size_31 (9 : Int32) c31_4 (by decide) (by decide) 70 (by decide) (by decide) ?_
        refine lv_aload_n hx hb dX10_size_101 rfl (lv_at hl 0 rfl) ?_
        obtain ⟨u102, i102, h⟩ := Option.bind_eq_some_iff.mp h
        obtain ⟨v102, e102, h⟩ := Option.bind_eq_some_iff.mp h
        refine g_cVi (As := []) (rest := []) (n := 0) hx hb hml hown hts hK hlo hG (m_X10_isOpen l dd cT lo q22.1 ba0 e102) qM_X10_255 qI_yX10_isOpen qS_X10_yX10_isOpen qN_X10 qC_yX10_isOpen (by decide +kernel) ⟨Nat.le_of_ble_eq_true rfl, Nat.le_of_ble_eq_true rfl⟩ (by rfl) i102 rfl hl.1 rfl (Nat.le_of_ble_eq_true rfl) dX10_size_102 ⟨Nat.le_of_ble_eq_true rfl, Nat.le_of_ble_eq_true rfl⟩ (fun H locs hG => ?_)
        refine lv_if_eq (tgt := 112) hx hb dX10_size_105 (by decide) (fun c105 => ?_) (fun c105 => ?_)
        · rw [if_pos c105] at h
          refine lv_iconst (v := (0 : Int32)) hx hb dX10_size_112 (by decide) ?_
          obtain ⟨rfl, rfl⟩ := Prod.mk.inj (Option.some.inj h)
          exact g_iret hx hb hr hlocks hK hlo hG ⟨rfl, rfl⟩ dX10_size_113
        · rw [if_neg c105] at h
          refine lv_iconst (v := (1 : Int32)) hx hb dX10_size_108 (by decide) ?_
          refine lv_goto (tgt := 113) hx hb dX10_size_109 (by decide) ?_
          obtain ⟨rfl, rfl⟩ := Prod.mk.inj (Option.some.inj h)
          exact g_iret hx hb hr hlocks hK hlo hG ⟨rfl, rfl⟩ dX10_size_113
      rw [if_neg c31_4] at h
      by_cases c31_5 : bx1 = (10 : Int32)
      · rw [if_pos c31_5] at h
        refine g_swIn (tgt := 114) hx hb dX10_size_31 (10 : Int32) c31_5 (by decide) (by decide) 83 (by decide) (by decide) ?_
        refine lv_aload_n hx hb dX10_size_114 rfl (lv_at hl 0 rfl) ?_
        obtain ⟨v115, e115, h⟩ := Option.bind_eq_some_iff.mp h
        refine g_getr hx hb hts inlX10 hown hK hG (by rfl) 1 (by decide) qF_X10_7 e115 dX10_size_115 ?_
        refine lv_iconst (v := (5 : Int32)) hx hb dX10_size_118 (by decide) ?_
        obtain ⟨v119, e119, h⟩ := Option.bind_eq_some_iff.mp h
        refine g_iald hx hb hK hG e119 dX10_size_119 ?_
        obtain ⟨rfl, rfl⟩ := Prod.mk.inj (Option.some.inj h)
        exact g_iret hx hb hr hlocks hK hlo hG ⟨rfl, rfl⟩ dX10_size_120
      rw [if_neg c31_5] at h
      by_cases c31_6 : bx1 = (11 : Int32)
      · rw [if_pos c31_6] at h
        refine g_swIn (tgt := 121) hx hb dX10_size_31 (11 : Int32) c31_6 (by decide) (by decide) 90 (by decide) (by decide) ?_
        refine lv_aload_n hx hb dX10_size_121 rfl (lv_at hl 0 rfl) ?_
        obtain ⟨v122, e122, h⟩ := Option.bind_eq_some_iff.mp h
        refine g_geti hx hb hts inlX10 hown hK hG (by rfl) 24 (by decide) qF_X10_202 e122 dX10_size_122 ?_
        obtain ⟨rfl, rfl⟩ := Prod.mk.inj (Option.some.inj h)
        exact g_iret hx hb hr hlocks hK hlo hG ⟨rfl, rfl⟩ dX10_size_125
      rw [if_neg c31_6] at h
      by_cases c31_7 : bx1 = (12 : Int32)
      · rw [if_pos c31_7] at h
        refine g_swIn (tgt := 126) hx hb dX10_size_31 (12 : Int32) c31_7 (by decide) (by decide) 95 (by decide) (by decide) ?_
        refine lv_aload_n hx hb dX10_size_126 rfl (lv_at hl 0 rfl) ?_
        obtain ⟨v127, e127, h⟩ := Option.bind_eq_some_iff.mp h
        refine g_getr hx hb hts inlX10 hown hK hG (by rfl) 1 (by decide) qF_X10_7 e127 dX10_size_127 ?_
        refine lv_bipush (v := (6 : Int32)) hx hb dX10_size_130 (by decide) ?_
        obtain ⟨v132, e132, h⟩ := Option.bind_eq_some_iff.mp h
        refine g_iald hx hb hK hG e132 dX10_size_132 ?_
        obtain ⟨rfl, rfl⟩ := Prod.mk.inj (Option.some.inj h)
        exact g_iret hx hb hr hlocks hK hlo hG ⟨rfl, rfl⟩ dX10_size_133
      rw [if_neg c31_7] at h
      have z31 : bx1.toInt < 5 ∨ 12 < bx1.toInt := by
        have y0 : ¬ bx1.toInt = 5 := fun w => c31_0 (Int32.toInt_inj.mp (by rw [w]; rfl))
        have y1 : ¬ bx1.toInt = 6 := fun w => c31_1 (Int32.toInt_inj.mp (by rw [w]; rfl))
        have y2 : ¬ bx1.toInt = 7 := fun w => c31_2 (Int32.toInt_inj.mp (by rw [w]; rfl))
        have y3 : ¬ bx1.toInt = 8 := fun w => c31_3 (Int32.toInt_inj.mp (by rw [w]; rfl))
        have y4 : ¬ bx1.toInt = 9 := fun w => c31_4 (Int32.toInt_inj.mp (by rw [w]; rfl))
        have y5 : ¬ bx1.toInt = 10 := fun w => c31_5 (Int32.toInt_inj.mp (by rw [w]; rfl))
        have y6 : ¬ bx1.toInt = 11 := fun w => c31_6 (Int32.toInt_inj.mp (by rw [w]; rfl))
        have y7 : ¬ bx1.toInt = 12 := fun w => c31_7 (Int32.toInt_inj.mp (by rw [w]; rfl))
        omega
      refine lv_tableOut (tgt := 134) hx hb dX10_size_31 z31 (by decide) ?_
      refine lv_aload_n hx hb dX10_size_134 rfl (lv_at hl 0 rfl) ?_
      obtain ⟨v135, e135, h⟩ := Option.bind_eq_some_iff.mp h
      refine g_getr hx hb hts inlX10 hown hK hG (by rfl) 1 (by decide) qF_X10_7 e135 dX10_size_135 ?_
      refine lv_iload_n hx hb dX10_size_138 rfl (lv_at hl 1 rfl) ?_
      obtain ⟨v139, e139, h⟩ := Option.bind_eq_some_iff.mp h
      refine g_iald hx hb hK hG e139 dX10_size_139 ?_
      obtain ⟨rfl, rfl⟩ := Prod.mk.inj (Option.some.inj h)
      exact g_iret hx hb hr hlocks hK hlo hG ⟨rfl, rfl⟩ dX10_size_140
    · rw [if_neg c25] at h
      refine lv_iconst (v := (0 : Int32)) hx hb dX10_size_28 (by decide) ?_
      obtain ⟨rfl, rfl⟩ := Prod.mk.inj (Option.some.inj h)
      exact g_iret hx hb hr hlocks hK hlo hG ⟨rfl, rfl⟩ dX10_size_29
  unfold f_X10_size at h
  refine lv_aload_n hx hb dX10_size_0 rfl (lv_at hl 0 rfl) ?_
  refine lv_iconst (v := (0 : Int32)) hx hb dX10_size_1 (by decide) ?_
  obtain ⟨G2, i2, h⟩ := Option.bind_eq_some_iff.mp h
  refine g_putv hx hb hts inlX10 tyX10 tyX10_ok nmX10 hown hK hG (by rfl) 0 (by decide) qF_X10_50 rfl rfl rfl rfl i2 dX10_size_2 (fun H locs hG => ?_)
  refine lv_aload_n hx hb dX10_size_5 rfl (lv_at hl 0 rfl) ?_
  refine lv_iload_n hx hb dX10_size_6 rfl (lv_at hl 1 rfl) ?_
  refine lv_iconst (v := (0 : Int32)) hx hb dX10_size_7 (by decide) ?_
  refine lv_bipush (v := (12 : Int32)) hx hb dX10_size_8 (by decide) ?_
  obtain ⟨v10, e10, h⟩ := Option.bind_eq_some_iff.mp h
  refine g_cSi (As := [.int x1, .int (0 : Int32), .int (12 : Int32)]) (rest := [.ref a0]) (n := 3) hx hb hml hown hts hK hlo hG (m_X10_within l dd cT lo G2 x1 (0 : Int32) (12 : Int32) e10) qM_X10_74 qT_yX10_within qN_X10 qC_yX10_within (by decide +kernel) ⟨Nat.le_of_ble_eq_true rfl, Nat.le_of_ble_eq_true rfl⟩ rfl hl.1 rfl (Nat.le_of_ble_eq_true rfl) dX10_size_10 ⟨Nat.le_of_ble_eq_true rfl, Nat.le_of_ble_eq_true rfl⟩ (fun H locs hG => ?_)
  refine lv_if_ne (tgt := 20) hx hb dX10_size_13 (by decide) (fun c13 => ?_) (fun c13 => ?_)
  · rw [if_neg c13] at h
    refine lv_iconst (v := (0 : Int32)) hx hb dX10_size_20 (by decide) ?_
    exact h21 G2 a0 x1 a0 (0 : Int32) _ _ hG _ (lv_sub hl [0, 1] rfl) h
  · rw [if_pos c13] at h
    refine lv_iconst (v := (1 : Int32)) hx hb dX10_size_16 (by decide) ?_
    refine lv_goto (tgt := 21) hx hb dX10_size_17 (by decide) ?_
    exact h21 G2 a0 x1 a0 (1 : Int32) _ _ hG _ (lv_sub hl [0, 1] rfl) h
def f_X10_no (G : gH) (a0 : Nat) (x1 : Int32) (x2 : Int32) : Option (gH × Int32) :=
    (g_put G a0 10 0 (.int (0 : Int32))).bind fun G2 =>
    (f_X10_within G2 x1 (0 : Int32) (x2 - (1 : Int32))).bind fun v11 =>
    if v11 = 0 then
    (g_ob G2 a0 10).bind fun u23 =>
    (f_X10_throwsIf G2 a0 (1 : Int32) (1 : Int32)).bind fun q23 =>
    (g_z q23.2).bind fun w26 => some (q23.1, w26)
    else
    (g_ob G2 a0 10).bind fun u23 =>
    (f_X10_throwsIf G2 a0 (0 : Int32) (1 : Int32)).bind fun q23 =>
    (g_z q23.2).bind fun w26 => some (q23.1, w26)
set_option maxRecDepth 20000 in
set_option maxHeartbeats 4000000 in
theorem m_X10_no (l : Launch) (dd : va_G) (cT : Nat → ClassId) (lo : Nat) (G : gH) (a0 : Nat) (x1 : Int32) (x2 : Int32) {rz : Int32} {Gz : gH} (h : f_X10_no G a0 x1 x2 = some (Gz, rz)) : Met l yX10_no (Cond.code yX10_no cX10_no 3 (some .boolean) :: wsL_law) (g_rm 1 22 0 0) (va_Pc [.ref a0, .int x1, .int x2] (g_Pre lo dd cT G)) (va_Qi (g_is rz Gz) (g_Pre lo dd cT) (g_A lo)) 0 0 (g_A lo) := by
  refine g_start RX10 rfl (by decide) (Nat.le_of_ble_eq_true rfl) ?_
  intro p e s m below meth c hx hb hr hlocks hml hown hnm hts hK hG hlo ls hl
  have hl : lv_has ls 3 [(0, .ref a0), (1, .int x1), (2, .int x2)] := hl
  have hG : g_S lo dd cT s s.heap [] G := hG
  unfold f_X10_no at h
  refine lv_aload_n hx hb dX10_no_0 rfl (lv_at hl 0 rfl) ?_
  refine lv_iconst (v := (0 : Int32)) hx hb dX10_no_1 (by decide) ?_
  obtain ⟨G2, i2, h⟩ := Option.bind_eq_some_iff.mp h
  refine g_putv hx hb hts inlX10 tyX10 tyX10_ok nmX10 hown hK hG (by rfl) 0 (by decide) qF_X10_50 rfl rfl rfl rfl i2 dX10_no_2 (fun H locs hG => ?_)
  refine lv_aload_n hx hb dX10_no_5 rfl (lv_at hl 0 rfl) ?_
  refine lv_iload_n hx hb dX10_no_6 rfl (lv_at hl 1 rfl) ?_
  refine lv_iconst (v := (0 : Int32)) hx hb dX10_no_7 (by decide) ?_
  refine lv_iload_n hx hb dX10_no_8 rfl (lv_at hl 2 rfl) ?_
  refine lv_iconst (v := (1 : Int32)) hx hb dX10_no_9 (by decide) ?_
  refine lv_isub hx hb dX10_no_10 ?_
  obtain ⟨v11, e11, h⟩ := Option.bind_eq_some_iff.mp h
  refine g_cSi (As := [.int x1, .int (0 : Int32), .int (x2 - (1 : Int32))]) (rest := [.ref a0]) (n := 3) hx hb hml hown hts hK hlo hG (m_X10_within l dd cT lo G2 x1 (0 : Int32) (x2 - (1 : Int32)) e11) qM_X10_74 qT_yX10_within qN_X10 qC_yX10_within (by decide +kernel) ⟨Nat.le_of_ble_eq_true rfl, Nat.le_of_ble_eq_true rfl⟩ rfl hl.1 rfl (Nat.le_of_ble_eq_true rfl) dX10_no_11 ⟨Nat.le_of_ble_eq_true rfl, Nat.le_of_ble_eq_true rfl⟩ (fun H locs hG => ?_)
  refine lv_if_ne (tgt := 21) hx hb dX10_no_14 (by decide) (fun c14 => ?_) (fun c14 => ?_)
  · rw [if_neg c14] at h
    refine lv_iconst (v := (0 : Int32)) hx hb dX10_no_21 (by decide) ?_
    refine lv_iconst (v := (1 : Int32)) hx hb dX10_no_22 (by decide) ?_
    obtain ⟨u23, i23, h⟩ := Option.bind_eq_some_iff.mp h
    obtain ⟨q23, e23, h⟩ := Option.bind_eq_some_iff.mp h
    refine g_cVi (As := [.int (0 : Int32), .int (1 : Int32)]) (rest := []) (n := 2) hx hb hml hown hts hK hlo hG (m_X10_throwsIf l dd cT lo G2 a0 (0 : Int32) (1 : Int32) e23) qM_X10_188 qI_yX10_throwsIf qS_X10_yX10_throwsIf qN_X10 qC_yX10_throwsIf (by decide +kernel) ⟨Nat.le_of_ble_eq_true rfl, Nat.le_of_ble_eq_true rfl⟩ (by rfl) i23 rfl hl.1 rfl (Nat.le_of_ble_eq_true rfl) dX10_no_23 ⟨Nat.le_of_ble_eq_true rfl, Nat.le_of_ble_eq_true rfl⟩ (fun H locs hG => ?_)
    obtain ⟨w26, e26, h⟩ := Option.bind_eq_some_iff.mp h
    obtain ⟨n26, rfl⟩ := g_z_nar e26
    obtain ⟨rfl, rfl⟩ := Prod.mk.inj (Option.some.inj h)
    exact g_zret hx hb hr hlocks hK hlo hG n26 ⟨rfl, rfl⟩ dX10_no_26
  · rw [if_pos c14] at h
    refine lv_iconst (v := (1 : Int32)) hx hb dX10_no_17 (by decide) ?_
    refine lv_goto (tgt := 22) hx hb dX10_no_18 (by decide) ?_
    refine lv_iconst (v := (1 : Int32)) hx hb dX10_no_22 (by decide) ?_
    obtain ⟨u23, i23, h⟩ := Option.bind_eq_some_iff.mp h
    obtain ⟨q23, e23, h⟩ := Option.bind_eq_some_iff.mp h
    refine g_cVi (As := [.int (1 : Int32), .int (1 : Int32)]) (rest := []) (n := 2) hx hb hml hown hts hK hlo hG (m_X10_throwsIf l dd cT lo G2 a0 (1 : Int32) (1 : Int32) e23) qM_X10_188 qI_yX10_throwsIf qS_X10_yX10_throwsIf qN_X10 qC_yX10_throwsIf (by decide +kernel) ⟨Nat.le_of_ble_eq_true rfl, Nat.le_of_ble_eq_true rfl⟩ (by rfl) i23 rfl hl.1 rfl (Nat.le_of_ble_eq_true rfl) dX10_no_23 ⟨Nat.le_of_ble_eq_true rfl, Nat.le_of_ble_eq_true rfl⟩ (fun H locs hG => ?_)
    obtain ⟨w26, e26, h⟩ := Option.bind_eq_some_iff.mp h
    obtain ⟨n26, rfl⟩ := g_z_nar e26
    obtain ⟨rfl, rfl⟩ := Prod.mk.inj (Option.some.inj h)
    exact g_zret hx hb hr hlocks hK hlo hG n26 ⟨rfl, rfl⟩ dX10_no_26
def f_X10_noBlock (G : gH) (a0 : Nat) (x1 : Int32) : Option (gH × Int32) :=
    (g_r G a0 10 1).bind fun v3 =>
    (g_ald 0 G v3 (0 : Int32)).bind fun v7 =>
    (g_ob G a0 10).bind fun u8 =>
    (f_X10_no G a0 x1 v7).bind fun q8 =>
    (g_z q8.2).bind fun w11 => some (q8.1, w11)
set_option maxRecDepth 20000 in
set_option maxHeartbeats 4000000 in
theorem m_X10_noBlock (l : Launch) (dd : va_G) (cT : Nat → ClassId) (lo : Nat) (G : gH) (a0 : Nat) (x1 : Int32) {rz : Int32} {Gz : gH} (h : f_X10_noBlock G a0 x1 = some (Gz, rz)) : Met l yX10_noBlock (Cond.code yX10_noBlock cX10_noBlock 2 (some .boolean) :: wsL_law) (g_rm 2 44 0 0) (va_Pc [.ref a0, .int x1] (g_Pre lo dd cT G)) (va_Qi (g_is rz Gz) (g_Pre lo dd cT) (g_A lo)) 0 0 (g_A lo) := by
  refine g_start RX10 rfl (by decide) (Nat.le_of_ble_eq_true rfl) ?_
  intro p e s m below meth c hx hb hr hlocks hml hown hnm hts hK hG hlo ls hl
  have hl : lv_has ls 2 [(0, .ref a0), (1, .int x1)] := hl
  have hG : g_S lo dd cT s s.heap [] G := hG
  unfold f_X10_noBlock at h
  refine lv_aload_n hx hb dX10_noBlock_0 rfl (lv_at hl 0 rfl) ?_
  refine lv_iload_n hx hb dX10_noBlock_1 rfl (lv_at hl 1 rfl) ?_
  refine lv_aload_n hx hb dX10_noBlock_2 rfl (lv_at hl 0 rfl) ?_
  obtain ⟨v3, e3, h⟩ := Option.bind_eq_some_iff.mp h
  refine g_getr hx hb hts inlX10 hown hK hG (by rfl) 1 (by decide) qF_X10_7 e3 dX10_noBlock_3 ?_
  refine lv_iconst (v := (0 : Int32)) hx hb dX10_noBlock_6 (by decide) ?_
  obtain ⟨v7, e7, h⟩ := Option.bind_eq_some_iff.mp h
  refine g_iald hx hb hK hG e7 dX10_noBlock_7 ?_
  obtain ⟨u8, i8, h⟩ := Option.bind_eq_some_iff.mp h
  obtain ⟨q8, e8, h⟩ := Option.bind_eq_some_iff.mp h
  refine g_cVi (As := [.int x1, .int v7]) (rest := []) (n := 2) hx hb hml hown hts hK hlo hG (m_X10_no l dd cT lo G a0 x1 v7 e8) qM_X10_311 qI_yX10_no qS_X10_yX10_no qN_X10 qC_yX10_no (by decide +kernel) ⟨Nat.le_of_ble_eq_true rfl, Nat.le_of_ble_eq_true rfl⟩ (by rfl) i8 rfl hl.1 rfl (Nat.le_of_ble_eq_true rfl) dX10_noBlock_8 ⟨Nat.le_of_ble_eq_true rfl, Nat.le_of_ble_eq_true rfl⟩ (fun H locs hG => ?_)
  obtain ⟨w11, e11, h⟩ := Option.bind_eq_some_iff.mp h
  obtain ⟨n11, rfl⟩ := g_z_nar e11
  obtain ⟨rfl, rfl⟩ := Prod.mk.inj (Option.some.inj h)
  exact g_zret hx hb hr hlocks hK hlo hG n11 ⟨rfl, rfl⟩ dX10_noBlock_11
def f_X10_noSession (G : gH) (a0 : Nat) (x1 : Int32) : Option (gH × Int32) :=
    (g_r G a0 10 1).bind fun v3 =>
    (g_ald 0 G v3 (3 : Int32)).bind fun v7 =>
    (g_ob G a0 10).bind fun u8 =>
    (f_X10_no G a0 x1 v7).bind fun q8 =>
    (g_z q8.2).bind fun w11 => some (q8.1, w11)
set_option maxRecDepth 20000 in
set_option maxHeartbeats 4000000 in
theorem m_X10_noSession (l : Launch) (dd : va_G) (cT : Nat → ClassId) (lo : Nat) (G : gH) (a0 : Nat) (x1 : Int32) {rz : Int32} {Gz : gH} (h : f_X10_noSession G a0 x1 = some (Gz, rz)) : Met l yX10_noSession (Cond.code yX10_noSession cX10_noSession 2 (some .boolean) :: wsL_law) (g_rm 2 44 0 0) (va_Pc [.ref a0, .int x1] (g_Pre lo dd cT G)) (va_Qi (g_is rz Gz) (g_Pre lo dd cT) (g_A lo)) 0 0 (g_A lo) := by
  refine g_start RX10 rfl (by decide) (Nat.le_of_ble_eq_true rfl) ?_
  intro p e s m below meth c hx hb hr hlocks hml hown hnm hts hK hG hlo ls hl
  have hl : lv_has ls 2 [(0, .ref a0), (1, .int x1)] := hl
  have hG : g_S lo dd cT s s.heap [] G := hG
  unfold f_X10_noSession at h
  refine lv_aload_n hx hb dX10_noSession_0 rfl (lv_at hl 0 rfl) ?_
  refine lv_iload_n hx hb dX10_noSession_1 rfl (lv_at hl 1 rfl) ?_
  refine lv_aload_n hx hb dX10_noSession_2 rfl (lv_at hl 0 rfl) ?_
  obtain ⟨v3, e3, h⟩ := Option.bind_eq_some_iff.mp h
  refine g_getr hx hb hts inlX10 hown hK hG (by rfl) 1 (by decide) qF_X10_7 e3 dX10_noSession_3 ?_
  refine lv_iconst (v := (3 : Int32)) hx hb dX10_noSession_6 (by decide) ?_
  obtain ⟨v7, e7, h⟩ := Option.bind_eq_some_iff.mp h
  refine g_iald hx hb hK hG e7 dX10_noSession_7 ?_
  obtain ⟨u8, i8, h⟩ := Option.bind_eq_some_iff.mp h
  obtain ⟨q8, e8, h⟩ := Option.bind_eq_some_iff.mp h
  refine g_cVi (As := [.int x1, .int v7]) (rest := []) (n := 2) hx hb hml hown hts hK hlo hG (m_X10_no l dd cT lo G a0 x1 v7 e8) qM_X10_311 qI_yX10_no qS_X10_yX10_no qN_X10 qC_yX10_no (by decide +kernel) ⟨Nat.le_of_ble_eq_true rfl, Nat.le_of_ble_eq_true rfl⟩ (by rfl) i8 rfl hl.1 rfl (Nat.le_of_ble_eq_true rfl) dX10_noSession_8 ⟨Nat.le_of_ble_eq_true rfl, Nat.le_of_ble_eq_true rfl⟩ (fun H locs hG => ?_)
  obtain ⟨w11, e11, h⟩ := Option.bind_eq_some_iff.mp h
  obtain ⟨n11, rfl⟩ := g_z_nar e11
  obtain ⟨rfl, rfl⟩ := Prod.mk.inj (Option.some.inj h)
  exact g_zret hx hb hr hlocks hK hlo hG n11 ⟨rfl, rfl⟩ dX10_noSession_11
def f_X10_noFile (G : gH) (a0 : Nat) (x1 : Int32) : Option (gH × Int32) :=
    (g_r G a0 10 1).bind fun v3 =>
    (g_ald 0 G v3 (2 : Int32)).bind fun v7 =>
    (g_ob G a0 10).bind fun u8 =>
    (f_X10_no G a0 x1 v7).bind fun q8 =>
    (g_z q8.2).bind fun w11 => some (q8.1, w11)
set_option maxRecDepth 20000 in
set_option maxHeartbeats 4000000 in
theorem m_X10_noFile (l : Launch) (dd : va_G) (cT : Nat → ClassId) (lo : Nat) (G : gH) (a0 : Nat) (x1 : Int32) {rz : Int32} {Gz : gH} (h : f_X10_noFile G a0 x1 = some (Gz, rz)) : Met l yX10_noFile (Cond.code yX10_noFile cX10_noFile 2 (some .boolean) :: wsL_law) (g_rm 2 44 0 0) (va_Pc [.ref a0, .int x1] (g_Pre lo dd cT G)) (va_Qi (g_is rz Gz) (g_Pre lo dd cT) (g_A lo)) 0 0 (g_A lo) := by
  refine g_start RX10 rfl (by decide) (Nat.le_of_ble_eq_true rfl) ?_
  intro p e s m below meth c hx hb hr hlocks hml hown hnm hts hK hG hlo ls hl
  have hl : lv_has ls 2 [(0, .ref a0), (1, .int x1)] := hl
  have hG : g_S lo dd cT s s.heap [] G := hG
  unfold f_X10_noFile at h
  refine lv_aload_n hx hb dX10_noFile_0 rfl (lv_at hl 0 rfl) ?_
  refine lv_iload_n hx hb dX10_noFile_1 rfl (lv_at hl 1 rfl) ?_
  refine lv_aload_n hx hb dX10_noFile_2 rfl (lv_at hl 0 rfl) ?_
  obtain ⟨v3, e3, h⟩ := Option.bind_eq_some_iff.mp h
  refine g_getr hx hb hts inlX10 hown hK hG (by rfl) 1 (by decide) qF_X10_7 e3 dX10_noFile_3 ?_
  refine lv_iconst (v := (2 : Int32)) hx hb dX10_noFile_6 (by decide) ?_
  obtain ⟨v7, e7, h⟩ := Option.bind_eq_some_iff.mp h
  refine g_iald hx hb hK hG e7 dX10_noFile_7 ?_
  obtain ⟨u8, i8, h⟩ := Option.bind_eq_some_iff.mp h
  obtain ⟨q8, e8, h⟩ := Option.bind_eq_some_iff.mp h
  refine g_cVi (As := [.int x1, .int v7]) (rest := []) (n := 2) hx hb hml hown hts hK hlo hG (m_X10_no l dd cT lo G a0 x1 v7 e8) qM_X10_311 qI_yX10_no qS_X10_yX10_no qN_X10 qC_yX10_no (by decide +kernel) ⟨Nat.le_of_ble_eq_true rfl, Nat.le_of_ble_eq_true rfl⟩ (by rfl) i8 rfl hl.1 rfl (Nat.le_of_ble_eq_true rfl) dX10_noFile_8 ⟨Nat.le_of_ble_eq_true rfl, Nat.le_of_ble_eq_true rfl⟩ (fun H locs hG => ?_)
  obtain ⟨w11, e11, h⟩ := Option.bind_eq_some_iff.mp h
  obtain ⟨n11, rfl⟩ := g_z_nar e11
  obtain ⟨rfl, rfl⟩ := Prod.mk.inj (Option.some.inj h)
  exact g_zret hx hb hr hlocks hK hlo hG n11 ⟨rfl, rfl⟩ dX10_noFile_11
def f_X10_block_J24 (G : gH) (ba0 : Nat) (bx1 : Int32) (bx2 : Int32) (z0 : Nat) (z1 : Int32) : Option (gH × Int32) :=
    (g_ob G z0 10).bind fun u25 =>
    (f_X10_throwsIf G z0 z1 (2 : Int32)).bind fun q25 =>
    if q25.2 = 0 then
    if bx2 = (0 : Int32) then
    (g_r q25.1 ba0 10 1).bind fun v73 =>
    (g_ald 0 q25.1 v73 ((7 : Int32) + bx1)).bind fun v80 =>
    some (q25.1, v80)
    else
    if bx2 = (1 : Int32) then
    (g_r q25.1 ba0 10 1).bind fun v83 =>
    (g_ald 0 q25.1 v83 ((103 : Int32) + bx1)).bind fun v90 =>
    some (q25.1, v90)
    else
    if bx2 = (2 : Int32) then
    (g_r q25.1 ba0 10 1).bind fun v93 =>
    (g_ald 0 q25.1 v93 ((199 : Int32) + bx1)).bind fun v101 =>
    some (q25.1, v101)
    else
    if bx2 = (3 : Int32) then
    (g_r q25.1 ba0 10 1).bind fun v104 =>
    (g_ald 0 q25.1 v104 ((295 : Int32) + bx1)).bind fun v112 =>
    some (q25.1, (v112 - (1 : Int32)))
    else
    if bx2 = (4 : Int32) then
    (g_r q25.1 ba0 10 1).bind fun v117 =>
    (g_ald 0 q25.1 v117 ((391 : Int32) + bx1)).bind fun v125 =>
    some (q25.1, (v125 - (1 : Int32)))
    else
    if bx2 = (5 : Int32) then
    (g_r q25.1 ba0 10 1).bind fun v130 =>
    (g_ald 0 q25.1 v130 ((487 : Int32) + bx1)).bind fun v138 =>
    some (q25.1, (v138 - (1 : Int32)))
    else
    (g_r q25.1 ba0 10 1).bind fun v143 =>
    (g_ald 0 q25.1 v143 ((583 : Int32) + bx1)).bind fun v151 =>
    some (q25.1, (v151 - (1 : Int32)))
    else
    some (q25.1, (0 : Int32))
def f_X10_block (G : gH) (a0 : Nat) (x1 : Int32) (x2 : Int32) : Option (gH × Int32) :=
    (g_ob G a0 10).bind fun u2 =>
    (f_X10_noBlock G a0 x1).bind fun q2 =>
    if q2.2 = 0 then
    (f_X10_within q2.1 x2 (0 : Int32) (6 : Int32)).bind fun v13 =>
    if v13 = 0 then
    f_X10_block_J24 q2.1 a0 x1 x2 a0 (1 : Int32)
    else
    f_X10_block_J24 q2.1 a0 x1 x2 a0 (0 : Int32)
    else
    some (q2.1, (0 : Int32))
set_option maxRecDepth 20000 in
set_option maxHeartbeats 4000000 in
theorem m_X10_block (l : Launch) (dd : va_G) (cT : Nat → ClassId) (lo : Nat) (G : gH) (a0 : Nat) (x1 : Int32) (x2 : Int32) {rz : Int32} {Gz : gH} (h : f_X10_block G a0 x1 x2 = some (Gz, rz)) : Met l yX10_block (Cond.code yX10_block cX10_block 3 (some .int) :: wsL_law) (g_rm 3 65 0 0) (va_Pc [.ref a0, .int x1, .int x2] (g_Pre lo dd cT G)) (va_Qi (g_is rz Gz) (g_Pre lo dd cT) (g_A lo)) 0 0 (g_A lo) := by
  refine g_start RX10 rfl (by decide) (Nat.le_of_ble_eq_true rfl) ?_
  intro p e s m below meth c hx hb hr hlocks hml hown hnm hts hK hG hlo ls hl
  have hl : lv_has ls 3 [(0, .ref a0), (1, .int x1), (2, .int x2)] := hl
  have hG : g_S lo dd cT s s.heap [] G := hG
  have h24 : ∀ (G : gH) (ba0 : Nat) (bx1 : Int32) (bx2 : Int32) (z0 : Nat) (z1 : Int32), ∀ (H : Heap) (locs : List Loc), g_S lo dd cT s H locs G → ∀ ls : Array Slot, lv_has ls 3 [(0, .ref ba0), (1, .int bx1), (2, .int bx2)] → f_X10_block_J24 G ba0 bx1 bx2 z0 z1 = some (Gz, rz) → W p l e (g_rm 3 65 0 0) s m ([.ref a0, .int x1, .int x2] : List Value).toArray below meth c H locs 0 0 (MQ below (va_Qi (g_is rz Gz) (g_Pre lo dd cT) (g_A lo)) ([.ref a0, .int x1, .int x2] : List Value).toArray s 0 0 (g_A lo)) (F0 m 24 ls [.int z1, .ref z0]) := by
    intro G ba0 bx1 bx2 z0 z1 H locs hG ls hl h
    unfold f_X10_block_J24 at h
    refine lv_iconst (v := (2 : Int32)) hx hb dX10_block_24 (by decide) ?_
    obtain ⟨u25, i25, h⟩ := Option.bind_eq_some_iff.mp h
    obtain ⟨q25, e25, h⟩ := Option.bind_eq_some_iff.mp h
    refine g_cVi (As := [.int z1, .int (2 : Int32)]) (rest := []) (n := 2) hx hb hml hown hts hK hlo hG (m_X10_throwsIf l dd cT lo G z0 z1 (2 : Int32) e25) qM_X10_188 qI_yX10_throwsIf qS_X10_yX10_throwsIf qN_X10 qC_yX10_throwsIf (by decide +kernel) ⟨Nat.le_of_ble_eq_true rfl, Nat.le_of_ble_eq_true rfl⟩ (by rfl) i25 rfl hl.1 rfl (Nat.le_of_ble_eq_true rfl) dX10_block_25 ⟨Nat.le_of_ble_eq_true rfl, Nat.le_of_ble_eq_true rfl⟩ (fun H locs hG => ?_)
    refine lv_if_eq (tgt := 33) hx hb dX10_block_28 (by decide) (fun c28 => ?_) (fun c28 => ?_)
    · rw [if_pos c28] at h
      refine lv_iload_n hx hb dX10_block_33 rfl (lv_at hl 2 rfl) ?_
      by_cases c34_0 : bx2 = (0 : Int32)
      · rw [if_pos c34_0] at h
        refine g_swIn (tgt := 72) hx hb dX10_block_34 (0 : Int32) c34_0 (by decide) (by decide) 38 (by decide) (by decide) ?_
        refine lv_aload_n hx hb dX10_block_72 rfl (lv_at hl 0 rfl) ?_
        obtain ⟨v73, e73, h⟩ := Option.bind_eq_some_iff.mp h
        refine g_getr hx hb hts inlX10 hown hK hG (by rfl) 1 (by decide) qF_X10_7 e73 dX10_block_73 ?_
        refine lv_bipush (v := (7 : Int32)) hx hb dX10_block_76 (by decide) ?_
        refine lv_iload_n hx hb dX10_block_78 rfl (lv_at hl 1 rfl) ?_
        refine lv_iadd hx hb dX10_block_79 ?_
        obtain ⟨v80, e80, h⟩ := Option.bind_eq_some_iff.mp h
        refine g_iald hx hb hK hG e80 dX10_block_80 ?_
        obtain ⟨rfl, rfl⟩ := Prod.mk.inj (Option.some.inj h)
        exact g_iret hx hb hr hlocks hK hlo hG ⟨rfl, rfl⟩ dX10_block_81
      rw [if_neg c34_0] at h
      by_cases c34_1 : bx2 = (1 : Int32)
      · rw [if_pos c34_1] at h
        refine g_swIn (tgt := 82) hx hb dX10_block_34 (1 : Int32) c34_1 (by decide) (by decide) 48 (by decide) (by decide) ?_
        refine lv_aload_n hx hb dX10_block_82 rfl (lv_at hl 0 rfl) ?_
        obtain ⟨v83, e83, h⟩ := Option.bind_eq_some_iff.mp h
        refine g_getr hx hb hts inlX10 hown hK hG (by rfl) 1 (by decide) qF_X10_7 e83 dX10_block_83 ?_
        refine lv_bipush (v := (103 : Int32)) hx hb dX10_block_86 (by decide) ?_
        refine lv_iload_n hx hb dX10_block_88 rfl (lv_at hl 1 rfl) ?_
        refine lv_iadd hx hb dX10_block_89 ?_
        obtain ⟨v90, e90, h⟩ := Option.bind_eq_some_iff.mp h
        refine g_iald hx hb hK hG e90 dX10_block_90 ?_
        obtain ⟨rfl, rfl⟩ := Prod.mk.inj (Option.some.inj h)
        exact g_iret hx hb hr hlocks hK hlo hG ⟨rfl, rfl⟩ dX10_block_91
      rw [if_neg c34_1] at h
      by_cases c34_2 : bx2 = (2 : Int32)
      · rw [if_pos c34_2] at h
        refine g_swIn (tgt := 92) hx hb dX10_block_34 (2 : Int32) c34_2 (by decide) (by decide) 58 (by decide) (by decide) ?_
        refine lv_aload_n hx hb dX10_block_92 rfl (lv_at hl 0 rfl) ?_
        obtain ⟨v93, e93, h⟩ := Option.bind_eq_some_iff.mp h
        refine g_getr hx hb hts inlX10 hown hK hG (by rfl) 1 (by decide) qF_X10_7 e93 dX10_block_93 ?_
        refine lv_sipush (v := (199 : Int32)) hx hb dX10_block_96 (by decide) ?_
        refine lv_iload_n hx hb dX10_block_99 rfl (lv_at hl 1 rfl) ?_
        refine lv_iadd hx hb dX10_block_100 ?_
        obtain ⟨v101, e101, h⟩ := Option.bind_eq_some_iff.mp h
        refine g_iald hx hb hK hG e101 dX10_block_101 ?_
        obtain ⟨rfl, rfl⟩ := Prod.mk.inj (Option.some.inj h)
        exact g_iret hx hb hr hlocks hK hlo hG ⟨rfl, rfl⟩ dX10_block_102
      rw [if_neg c34_2] at h
      by_cases c34_3 : bx2 = (3 : Int32)
      · rw [if_pos c34_3] at h
        refine g_swIn (tgt := 103) hx hb dX10_block_34 (3 : Int32) c34_3 (by decide) (by decide) 69 (by decide) (by decide) ?_
        refine lv_aload_n hx hb dX10_block_103 rfl (lv_at hl 0 rfl) ?_
        obtain ⟨v104, e104, h⟩ := Option.bind_eq_some_iff.mp h
        refine g_getr hx hb hts inlX10 hown hK hG (by rfl) 1 (by decide) qF_X10_7 e104 dX10_block_104 ?_
        refine lv_sipush (v := (295 : Int32)) hx hb dX10_block_107 (by decide) ?_
        refine lv_iload_n hx hb dX10_block_110 rfl (lv_at hl 1 rfl) ?_
        refine lv_iadd hx hb dX10_block_111 ?_
        obtain ⟨v112, e112, h⟩ := Option.bind_eq_some_iff.mp h
        refine g_iald hx hb hK hG e112 dX10_block_112 ?_
        refine lv_iconst (v := (1 : Int32)) hx hb dX10_block_113 (by decide) ?_
        refine lv_isub hx hb dX10_block_114 ?_
        obtain ⟨rfl, rfl⟩ := Prod.mk.inj (Option.some.inj h)
        exact g_iret hx hb hr hlocks hK hlo hG ⟨rfl, rfl⟩ dX10_block_115
      rw [if_neg c34_3] at h
      by_cases c34_4 : bx2 = (4 : Int32)
      · rw [if_pos c34_4] at h
        refine g_swIn (tgt := 116) hx hb dX10_block_34 (4 : Int32) c34_4 (by decide) (by decide) 82 (by decide) (by decide) ?_
        refine lv_aload_n hx hb dX10_block_116 rfl (lv_at hl 0 rfl) ?_
        obtain ⟨v117, e117, h⟩ := Option.bind_eq_some_iff.mp h
        refine g_getr hx hb hts inlX10 hown hK hG (by rfl) 1 (by decide) qF_X10_7 e117 dX10_block_117 ?_
        refine lv_sipush (v := (391 : Int32)) hx hb dX10_block_120 (by decide) ?_
        refine lv_iload_n hx hb dX10_block_123 rfl (lv_at hl 1 rfl) ?_
        refine lv_iadd hx hb dX10_block_124 ?_
        obtain ⟨v125, e125, h⟩ := Option.bind_eq_some_iff.mp h
        refine g_iald hx hb hK hG e125 dX10_block_125 ?_
        refine lv_iconst (v := (1 : Int32)) hx hb dX10_block_126 (by decide) ?_
        refine lv_isub hx hb dX10_block_127 ?_
        obtain ⟨rfl, rfl⟩ := Prod.mk.inj (Option.some.inj h)
        exact g_iret hx hb hr hlocks hK hlo hG ⟨rfl, rfl⟩ dX10_block_128
      rw [if_neg c34_4] at h
      by_cases c34_5 : bx2 = (5 : Int32)
      · rw [if_pos c34_5] at h
        refine g_swIn (tgt := 129) hx hb dX10_block_34 (5 : Int32) c34_5 (by decide) (by decide) 95 (by decide) (by decide) ?_
        refine lv_aload_n hx hb dX10_block_129 rfl (lv_at hl 0 rfl) ?_
        obtain ⟨v130, e130, h⟩ := Option.bind_eq_some_iff.mp h
        refine g_getr hx hb hts inlX10 hown hK hG (by rfl) 1 (by decide) qF_X10_7 e130 dX10_block_130 ?_
        refine lv_sipush (v := (487 : Int32)) hx hb dX10_block_133 (by decide) ?_
        refine lv_iload_n hx hb dX10_block_136 rfl (lv_at hl 1 rfl) ?_
        refine lv_iadd hx hb dX10_block_137 ?_
        obtain ⟨v138, e138, h⟩ := Option.bind_eq_some_iff.mp h
        refine g_iald hx hb hK hG e138 dX10_block_138 ?_
        refine lv_iconst (v := (1 : Int32)) hx hb dX10_block_139 (by decide) ?_
        refine lv_isub hx hb dX10_block_140 ?_
        obtain ⟨rfl, rfl⟩ := Prod.mk.inj (Option.some.inj h)
        exact g_iret hx hb hr hlocks hK hlo hG ⟨rfl, rfl⟩ dX10_block_141
      rw [if_neg c34_5] at h
      have z34 : bx2.toInt < 0 ∨ 5 < bx2.toInt := by
        have y0 : ¬ bx2.toInt = 0 := fun w => c34_0 (Int32.toInt_inj.mp (by rw [w]; rfl))
        have y1 : ¬ bx2.toInt = 1 := fun w => c34_1 (Int32.toInt_inj.mp (by rw [w]; rfl))
        have y2 : ¬ bx2.toInt = 2 := fun w => c34_2 (Int32.toInt_inj.mp (by rw [w]; rfl))
        have y3 : ¬ bx2.toInt = 3 := fun w => c34_3 (Int32.toInt_inj.mp (by rw [w]; rfl))
        have y4 : ¬ bx2.toInt = 4 := fun w => c34_4 (Int32.toInt_inj.mp (by rw [w]; rfl))
        have y5 : ¬ bx2.toInt = 5 := fun w => c34_5 (Int32.toInt_inj.mp (by rw [w]; rfl))
        omega
      refine lv_tableOut (tgt := 142) hx hb dX10_block_34 z34 (by decide) ?_
      refine lv_aload_n hx hb dX10_block_142 rfl (lv_at hl 0 rfl) ?_
      obtain ⟨v143, e143, h⟩ := Option.bind_eq_some_iff.mp h
      refine g_getr hx hb hts inlX10 hown hK hG (by rfl) 1 (by decide) qF_X10_7 e143 dX10_block_143 ?_
      refine lv_sipush (v := (583 : Int32)) hx hb dX10_block_146 (by decide) ?_
      refine lv_iload_n hx hb dX10_block_149 rfl (lv_at hl 1 rfl) ?_
      refine lv_iadd hx hb dX10_block_150 ?_
      obtain ⟨v151, e151, h⟩ := Option.bind_eq_some_iff.mp h
      refine g_iald hx hb hK hG e151 dX10_block_151 ?_
      refine lv_iconst (v := (1 : Int32)) hx hb dX10_block_152 (by decide) ?_
      refine lv_isub hx hb dX10_block_153 ?_
      obtain ⟨rfl, rfl⟩ := Prod.mk.inj (Option.some.inj h)
      exact g_iret hx hb hr hlocks hK hlo hG ⟨rfl, rfl⟩ dX10_block_154
    · rw [if_neg c28] at h
      refine lv_iconst (v := (0 : Int32)) hx hb dX10_block_31 (by decide) ?_
      obtain ⟨rfl, rfl⟩ := Prod.mk.inj (Option.some.inj h)
      exact g_iret hx hb hr hlocks hK hlo hG ⟨rfl, rfl⟩ dX10_block_32
  unfold f_X10_block at h
  refine lv_aload_n hx hb dX10_block_0 rfl (lv_at hl 0 rfl) ?_
  refine lv_iload_n hx hb dX10_block_1 rfl (lv_at hl 1 rfl) ?_
  obtain ⟨u2, i2, h⟩ := Option.bind_eq_some_iff.mp h
  obtain ⟨q2, e2, h⟩ := Option.bind_eq_some_iff.mp h
  refine g_cVi (As := [.int x1]) (rest := []) (n := 1) hx hb hml hown hts hK hlo hG (m_X10_noBlock l dd cT lo G a0 x1 e2) qM_X10_314 qI_yX10_noBlock qS_X10_yX10_noBlock qN_X10 qC_yX10_noBlock (by decide +kernel) ⟨Nat.le_of_ble_eq_true rfl, Nat.le_of_ble_eq_true rfl⟩ (by rfl) i2 rfl hl.1 rfl (Nat.le_of_ble_eq_true rfl) dX10_block_2 ⟨Nat.le_of_ble_eq_true rfl, Nat.le_of_ble_eq_true rfl⟩ (fun H locs hG => ?_)
  refine lv_if_ne (tgt := 31) hx hb dX10_block_5 (by decide) (fun c5 => ?_) (fun c5 => ?_)
  · rw [if_neg c5] at h
    refine lv_iconst (v := (0 : Int32)) hx hb dX10_block_31 (by decide) ?_
    obtain ⟨rfl, rfl⟩ := Prod.mk.inj (Option.some.inj h)
    exact g_iret hx hb hr hlocks hK hlo hG ⟨rfl, rfl⟩ dX10_block_32
  · rw [if_pos c5] at h
    refine lv_aload_n hx hb dX10_block_8 rfl (lv_at hl 0 rfl) ?_
    refine lv_iload_n hx hb dX10_block_9 rfl (lv_at hl 2 rfl) ?_
    refine lv_iconst (v := (0 : Int32)) hx hb dX10_block_10 (by decide) ?_
    refine lv_bipush (v := (6 : Int32)) hx hb dX10_block_11 (by decide) ?_
    obtain ⟨v13, e13, h⟩ := Option.bind_eq_some_iff.mp h
    refine g_cSi (As := [.int x2, .int (0 : Int32), .int (6 : Int32)]) (rest := [.ref a0]) (n := 3) hx hb hml hown hts hK hlo hG (m_X10_within l dd cT lo q2.1 x2 (0 : Int32) (6 : Int32) e13) qM_X10_74 qT_yX10_within qN_X10 qC_yX10_within (by decide +kernel) ⟨Nat.le_of_ble_eq_true rfl, Nat.le_of_ble_eq_true rfl⟩ rfl hl.1 rfl (Nat.le_of_ble_eq_true rfl) dX10_block_13 ⟨Nat.le_of_ble_eq_true rfl, Nat.le_of_ble_eq_true rfl⟩ (fun H locs hG => ?_)
    refine lv_if_ne (tgt := 23) hx hb dX10_block_16 (by decide) (fun c16 => ?_) (fun c16 => ?_)
    · rw [if_neg c16] at h
      refine lv_iconst (v := (0 : Int32)) hx hb dX10_block_23 (by decide) ?_
      exact h24 q2.1 a0 x1 x2 a0 (0 : Int32) _ _ hG _ (lv_sub hl [0, 1, 2] rfl) h
    · rw [if_pos c16] at h
      refine lv_iconst (v := (1 : Int32)) hx hb dX10_block_19 (by decide) ?_
      refine lv_goto (tgt := 24) hx hb dX10_block_20 (by decide) ?_
      exact h24 q2.1 a0 x1 x2 a0 (1 : Int32) _ _ hG _ (lv_sub hl [0, 1, 2] rfl) h
def f_X10_place (G : gH) (a0 : Nat) (x1 : Int32) : Option (gH × Int32) :=
    (g_ob G a0 10).bind fun u2 =>
    (f_X10_noBlock G a0 x1).bind fun q2 =>
    if q2.2 = 0 then
    (g_ob q2.1 a0 10).bind fun u12 =>
    (f_X10_isMain q2.1 a0 x1).bind fun v12 =>
    if v12 = 0 then
    some (q2.1, (-1 : Int32))
    else
    (g_r q2.1 a0 10 1).bind fun v19 =>
    (g_ald 0 q2.1 v19 ((7 : Int32) + x1)).bind fun v26 =>
    if v26 = 0 then
    some (q2.1, (-1 : Int32))
    else
    (g_ob q2.1 a0 10).bind fun u36 =>
    (f_X10_placeOf q2.1 a0 x1).bind fun v36 =>
    some (q2.1, v36)
    else
    some (q2.1, (0 : Int32))
set_option maxRecDepth 20000 in
set_option maxHeartbeats 4000000 in
theorem m_X10_place (l : Launch) (dd : va_G) (cT : Nat → ClassId) (lo : Nat) (G : gH) (a0 : Nat) (x1 : Int32) {rz : Int32} {Gz : gH} (h : f_X10_place G a0 x1 = some (Gz, rz)) : Met l yX10_place (Cond.code yX10_place cX10_place 2 (some .int) :: wsL_law) (g_rm 3 65 0 0) (va_Pc [.ref a0, .int x1] (g_Pre lo dd cT G)) (va_Qi (g_is rz Gz) (g_Pre lo dd cT) (g_A lo)) 0 0 (g_A lo) := by
  refine g_start RX10 rfl (by decide) (Nat.le_of_ble_eq_true rfl) ?_
  intro p e s m below meth c hx hb hr hlocks hml hown hnm hts hK hG hlo ls hl
  have hl : lv_has ls 2 [(0, .ref a0), (1, .int x1)] := hl
  have hG : g_S lo dd cT s s.heap [] G := hG
  unfold f_X10_place at h
  refine lv_aload_n hx hb dX10_place_0 rfl (lv_at hl 0 rfl) ?_
  refine lv_iload_n hx hb dX10_place_1 rfl (lv_at hl 1 rfl) ?_
  obtain ⟨u2, i2, h⟩ := Option.bind_eq_some_iff.mp h
  obtain ⟨q2, e2, h⟩ := Option.bind_eq_some_iff.mp h
  refine g_cVi (As := [.int x1]) (rest := []) (n := 1) hx hb hml hown hts hK hlo hG (m_X10_noBlock l dd cT lo G a0 x1 e2) qM_X10_314 qI_yX10_noBlock qS_X10_yX10_noBlock qN_X10 qC_yX10_noBlock (by decide +kernel) ⟨Nat.le_of_ble_eq_true rfl, Nat.le_of_ble_eq_true rfl⟩ (by rfl) i2 rfl hl.1 rfl (Nat.le_of_ble_eq_true rfl) dX10_place_2 ⟨Nat.le_of_ble_eq_true rfl, Nat.le_of_ble_eq_true rfl⟩ (fun H locs hG => ?_)
  refine lv_if_eq (tgt := 10) hx hb dX10_place_5 (by decide) (fun c5 => ?_) (fun c5 => ?_)
  · rw [if_pos c5] at h
    refine lv_aload_n hx hb dX10_place_10 rfl (lv_at hl 0 rfl) ?_
    refine lv_iload_n hx hb dX10_place_11 rfl (lv_at hl 1 rfl) ?_
    obtain ⟨u12, i12, h⟩ := Option.bind_eq_some_iff.mp h
    obtain ⟨v12, e12, h⟩ := Option.bind_eq_some_iff.mp h
    refine g_cVi (As := [.int x1]) (rest := []) (n := 1) hx hb hml hown hts hK hlo hG (m_X10_isMain l dd cT lo q2.1 a0 x1 e12) qM_X10_317 qI_yX10_isMain qS_X10_yX10_isMain qN_X10 qC_yX10_isMain (by decide +kernel) ⟨Nat.le_of_ble_eq_true rfl, Nat.le_of_ble_eq_true rfl⟩ (by rfl) i12 rfl hl.1 rfl (Nat.le_of_ble_eq_true rfl) dX10_place_12 ⟨Nat.le_of_ble_eq_true rfl, Nat.le_of_ble_eq_true rfl⟩ (fun H locs hG => ?_)
    refine lv_if_eq (tgt := 30) hx hb dX10_place_15 (by decide) (fun c15 => ?_) (fun c15 => ?_)
    · rw [if_pos c15] at h
      refine lv_iconst (v := (-1 : Int32)) hx hb dX10_place_30 (by decide) ?_
      refine lv_goto (tgt := 39) hx hb dX10_place_31 (by decide) ?_
      obtain ⟨rfl, rfl⟩ := Prod.mk.inj (Option.some.inj h)
      exact g_iret hx hb hr hlocks hK hlo hG ⟨rfl, rfl⟩ dX10_place_39
    · rw [if_neg c15] at h
      refine lv_aload_n hx hb dX10_place_18 rfl (lv_at hl 0 rfl) ?_
      obtain ⟨v19, e19, h⟩ := Option.bind_eq_some_iff.mp h
      refine g_getr hx hb hts inlX10 hown hK hG (by rfl) 1 (by decide) qF_X10_7 e19 dX10_place_19 ?_
      refine lv_bipush (v := (7 : Int32)) hx hb dX10_place_22 (by decide) ?_
      refine lv_iload_n hx hb dX10_place_24 rfl (lv_at hl 1 rfl) ?_
      refine lv_iadd hx hb dX10_place_25 ?_
      obtain ⟨v26, e26, h⟩ := Option.bind_eq_some_iff.mp h
      refine g_iald hx hb hK hG e26 dX10_place_26 ?_
      refine lv_if_ne (tgt := 34) hx hb dX10_place_27 (by decide) (fun c27 => ?_) (fun c27 => ?_)
      · rw [if_neg c27] at h
        refine lv_aload_n hx hb dX10_place_34 rfl (lv_at hl 0 rfl) ?_
        refine lv_iload_n hx hb dX10_place_35 rfl (lv_at hl 1 rfl) ?_
        obtain ⟨u36, i36, h⟩ := Option.bind_eq_some_iff.mp h
        obtain ⟨v36, e36, h⟩ := Option.bind_eq_some_iff.mp h
        refine g_cVi (As := [.int x1]) (rest := []) (n := 1) hx hb hml hown hts hK hlo hG (m_X10_placeOf l dd cT lo q2.1 a0 x1 e36) qM_X10_208 qI_yX10_placeOf qS_X10_yX10_placeOf qN_X10 qC_yX10_placeOf (by decide +kernel) ⟨Nat.le_of_ble_eq_true rfl, Nat.le_of_ble_eq_true rfl⟩ (by rfl) i36 rfl hl.1 rfl (Nat.le_of_ble_eq_true rfl) dX10_place_36 ⟨Nat.le_of_ble_eq_true rfl, Nat.le_of_ble_eq_true rfl⟩ (fun H locs hG => ?_)
        obtain ⟨rfl, rfl⟩ := Prod.mk.inj (Option.some.inj h)
        exact g_iret hx hb hr hlocks hK hlo hG ⟨rfl, rfl⟩ dX10_place_39
      · rw [if_pos c27] at h
        refine lv_iconst (v := (-1 : Int32)) hx hb dX10_place_30 (by decide) ?_
        refine lv_goto (tgt := 39) hx hb dX10_place_31 (by decide) ?_
        obtain ⟨rfl, rfl⟩ := Prod.mk.inj (Option.some.inj h)
        exact g_iret hx hb hr hlocks hK hlo hG ⟨rfl, rfl⟩ dX10_place_39
  · rw [if_neg c5] at h
    refine lv_iconst (v := (0 : Int32)) hx hb dX10_place_8 (by decide) ?_
    obtain ⟨rfl, rfl⟩ := Prod.mk.inj (Option.some.inj h)
    exact g_iret hx hb hr hlocks hK hlo hG ⟨rfl, rfl⟩ dX10_place_9
def f_X10_writtenBy_L5 (G : gH) : Nat → Nat → Int32 → Int32 → Int32 → Int32 → Option Int32
  | 0, _, _, _, _, _ => none
  | n + 1, ba0, bx1, bx2, bx3, bx4 =>
    (g_r G ba0 10 1).bind fun v8 =>
    (g_ald 0 G v8 (0 : Int32)).bind fun v12 =>
    if v12 ≤ bx4 then
    some bx3
    else
    (g_ob G ba0 10).bind fun u20 =>
    (f_X10_isMain G ba0 bx4).bind fun v20 =>
    if v20 = bx2 then
    (g_r G ba0 10 1).bind fun v28 =>
    (g_ald 0 G v28 ((295 : Int32) + bx4)).bind fun v37 =>
    if v37 = (bx1 + (1 : Int32)) then
    f_X10_writtenBy_L5 G n ba0 bx1 bx2 (bx3 + (1 : Int32)) (bx4 + (1 : Int32))
    else
    f_X10_writtenBy_L5 G n ba0 bx1 bx2 (bx3 + (0 : Int32)) (bx4 + (1 : Int32))
    else
    f_X10_writtenBy_L5 G n ba0 bx1 bx2 (bx3 + (0 : Int32)) (bx4 + (1 : Int32))
def f_X10_writtenBy (G : gH) (a0 : Nat) (x1 : Int32) (x2 : Int32) : Option Int32 :=
    f_X10_writtenBy_L5 G g_N a0 x1 x2 (0 : Int32) (0 : Int32)
set_option maxRecDepth 20000 in
set_option maxHeartbeats 4000000 in
theorem m_X10_writtenBy (l : Launch) (dd : va_G) (cT : Nat → ClassId) (lo : Nat) (G : gH) (a0 : Nat) (x1 : Int32) (x2 : Int32) {rz : Int32} (h : f_X10_writtenBy G a0 x1 x2 = some rz) : Met l yX10_writtenBy (Cond.code yX10_writtenBy cX10_writtenBy 5 (some .int) :: wsL_law) (g_rm 2 41 0 0) (va_Pc [.ref a0, .int x1, .int x2] (g_Pre lo dd cT G)) (va_Qi (g_is rz G) (g_Pre lo dd cT) (g_A lo)) 0 0 (g_A lo) := by
  refine g_start RX10 rfl (by decide) (Nat.le_of_ble_eq_true rfl) ?_
  intro p e s m below meth c hx hb hr hlocks hml hown hnm hts hK hG hlo ls hl
  have hl : lv_has ls 5 [(0, .ref a0), (1, .int x1), (2, .int x2)] := hl
  have hG : g_S lo dd cT s s.heap [] G := hG
  have h5 : ∀ n : Nat, ∀ (ba0 : Nat) (bx1 : Int32) (bx2 : Int32) (bx3 : Int32) (bx4 : Int32), ∀ (H : Heap) (locs : List Loc), g_S lo dd cT s H locs G → ∀ ls : Array Slot, lv_has ls 5 [(0, .ref ba0), (1, .int bx1), (2, .int bx2), (3, .int bx3), (4, .int bx4)] → f_X10_writtenBy_L5 G n ba0 bx1 bx2 bx3 bx4 = some rz → W p l e (g_rm 2 41 0 0) s m ([.ref a0, .int x1, .int x2] : List Value).toArray below meth c H locs 0 0 (MQ below (va_Qi (g_is rz G) (g_Pre lo dd cT) (g_A lo)) ([.ref a0, .int x1, .int x2] : List Value).toArray s 0 0 (g_A lo)) (F0 m 5 ls []) := by
    intro n
    induction n with
    | zero =>
      intro ba0 bx1 bx2 bx3 bx4 H locs hG ls hl h
      cases (show (none : Option Int32) = some rz from h)
    | succ n ih =>
      intro ba0 bx1 bx2 bx3 bx4 H locs hG ls hl h
      rw [f_X10_writtenBy_L5] at h
      refine lv_iload hx hb dX10_writtenBy_5 (lv_at hl 4 rfl) ?_
      refine lv_aload_n hx hb dX10_writtenBy_7 rfl (lv_at hl 0 rfl) ?_
      obtain ⟨v8, e8, h⟩ := Option.bind_eq_some_iff.mp h
      refine g_getr hx hb hts inlX10 hown hK hG (by rfl) 1 (by decide) qF_X10_7 e8 dX10_writtenBy_8 ?_
      refine lv_iconst (v := (0 : Int32)) hx hb dX10_writtenBy_11 (by decide) ?_
      obtain ⟨v12, e12, h⟩ := Option.bind_eq_some_iff.mp h
      refine g_iald hx hb hK hG e12 dX10_writtenBy_12 ?_
      refine lv_icmp_ge (tgt := 57) hx hb dX10_writtenBy_13 (by decide) (fun c13 => ?_) (fun c13 => ?_)
      · rw [if_pos c13] at h
        refine lv_iload_n hx hb dX10_writtenBy_57 rfl (lv_at hl 3 rfl) ?_
        obtain rfl := Option.some.inj h
        exact g_iret hx hb hr hlocks hK hlo hG ⟨rfl, rfl⟩ dX10_writtenBy_58
      · rw [if_neg c13] at h
        refine lv_iload_n hx hb dX10_writtenBy_16 rfl (lv_at hl 3 rfl) ?_
        refine lv_aload_n hx hb dX10_writtenBy_17 rfl (lv_at hl 0 rfl) ?_
        refine lv_iload hx hb dX10_writtenBy_18 (lv_at hl 4 rfl) ?_
        obtain ⟨u20, i20, h⟩ := Option.bind_eq_some_iff.mp h
        obtain ⟨v20, e20, h⟩ := Option.bind_eq_some_iff.mp h
        refine g_cVi (As := [.int bx4]) (rest := [.int bx3]) (n := 1) hx hb hml hown hts hK hlo hG (m_X10_isMain l dd cT lo G ba0 bx4 e20) qM_X10_317 qI_yX10_isMain qS_X10_yX10_isMain qN_X10 qC_yX10_isMain (by decide +kernel) ⟨Nat.le_of_ble_eq_true rfl, Nat.le_of_ble_eq_true rfl⟩ (by rfl) i20 rfl hl.1 rfl (Nat.le_of_ble_eq_true rfl) dX10_writtenBy_20 ⟨Nat.le_of_ble_eq_true rfl, Nat.le_of_ble_eq_true rfl⟩ (fun H locs hG => ?_)
        refine lv_iload_n hx hb dX10_writtenBy_23 rfl (lv_at hl 2 rfl) ?_
        refine lv_icmp_ne (tgt := 48) hx hb dX10_writtenBy_24 (by decide) (fun c24 => ?_) (fun c24 => ?_)
        · rw [if_neg c24] at h
          refine lv_iconst (v := (0 : Int32)) hx hb dX10_writtenBy_48 (by decide) ?_
          refine lv_iadd hx hb dX10_writtenBy_49 ?_
          refine lv_istore_n (lv' := [(3, .int (bx3 + (0 : Int32))), (0, .ref ba0), (1, .int bx1), (2, .int bx2), (4, .int bx4)]) hx hb dX10_writtenBy_50 rfl hl (by decide) rfl (fun ls hl => ?_)
          refine lv_iinc (v := (bx4 + (1 : Int32))) (lv' := [(4, .int (bx4 + (1 : Int32))), (3, .int (bx3 + (0 : Int32))), (0, .ref ba0), (1, .int bx1), (2, .int bx2)]) hx hb dX10_writtenBy_51 hl (k := 4) rfl rfl (by decide) rfl (fun ls hl => ?_)
          refine lv_goto (tgt := 5) hx hb dX10_writtenBy_54 (by decide) ?_
          exact ih ba0 bx1 bx2 (bx3 + (0 : Int32)) (bx4 + (1 : Int32)) _ _ hG _ (lv_sub hl [2, 3, 4, 1, 0] rfl) h
        · rw [if_pos c24] at h
          refine lv_aload_n hx hb dX10_writtenBy_27 rfl (lv_at hl 0 rfl) ?_
          obtain ⟨v28, e28, h⟩ := Option.bind_eq_some_iff.mp h
          refine g_getr hx hb hts inlX10 hown hK hG (by rfl) 1 (by decide) qF_X10_7 e28 dX10_writtenBy_28 ?_
          refine lv_sipush (v := (295 : Int32)) hx hb dX10_writtenBy_31 (by decide) ?_
          refine lv_iload hx hb dX10_writtenBy_34 (lv_at hl 4 rfl) ?_
          refine lv_iadd hx hb dX10_writtenBy_36 ?_
          obtain ⟨v37, e37, h⟩ := Option.bind_eq_some_iff.mp h
          refine g_iald hx hb hK hG e37 dX10_writtenBy_37 ?_
          refine lv_iload_n hx hb dX10_writtenBy_38 rfl (lv_at hl 1 rfl) ?_
          refine lv_iconst (v := (1 : Int32)) hx hb dX10_writtenBy_39 (by decide) ?_
          refine lv_iadd hx hb dX10_writtenBy_40 ?_
          refine lv_icmp_ne (tgt := 48) hx hb dX10_writtenBy_41 (by decide) (fun c41 => ?_) (fun c41 => ?_)
          · rw [if_neg c41] at h
            refine lv_iconst (v := (0 : Int32)) hx hb dX10_writtenBy_48 (by decide) ?_
            refine lv_iadd hx hb dX10_writtenBy_49 ?_
            refine lv_istore_n (lv' := [(3, .int (bx3 + (0 : Int32))), (0, .ref ba0), (1, .int bx1), (2, .int bx2), (4, .int bx4)]) hx hb dX10_writtenBy_50 rfl hl (by decide) rfl (fun ls hl => ?_)
            refine lv_iinc (v := (bx4 + (1 : Int32))) (lv' := [(4, .int (bx4 + (1 : Int32))), (3, .int (bx3 + (0 : Int32))), (0, .ref ba0), (1, .int bx1), (2, .int bx2)]) hx hb dX10_writtenBy_51 hl (k := 4) rfl rfl (by decide) rfl (fun ls hl => ?_)
            refine lv_goto (tgt := 5) hx hb dX10_writtenBy_54 (by decide) ?_
            exact ih ba0 bx1 bx2 (bx3 + (0 : Int32)) (bx4 + (1 : Int32)) _ _ hG _ (lv_sub hl [2, 3, 4, 1, 0] rfl) h
          · rw [if_pos c41] at h
            refine lv_iconst (v := (1 : Int32)) hx hb dX10_writtenBy_44 (by decide) ?_
            refine lv_goto (tgt := 49) hx hb dX10_writtenBy_45 (by decide) ?_
            refine lv_iadd hx hb dX10_writtenBy_49 ?_
            refine lv_istore_n (lv' := [(3, .int (bx3 + (1 : Int32))), (0, .ref ba0), (1, .int bx1), (2, .int bx2), (4, .int bx4)]) hx hb dX10_writtenBy_50 rfl hl (by decide) rfl (fun ls hl => ?_)
            refine lv_iinc (v := (bx4 + (1 : Int32))) (lv' := [(4, .int (bx4 + (1 : Int32))), (3, .int (bx3 + (1 : Int32))), (0, .ref ba0), (1, .int bx1), (2, .int bx2)]) hx hb dX10_writtenBy_51 hl (k := 4) rfl rfl (by decide) rfl (fun ls hl => ?_)
            refine lv_goto (tgt := 5) hx hb dX10_writtenBy_54 (by decide) ?_
            exact ih ba0 bx1 bx2 (bx3 + (1 : Int32)) (bx4 + (1 : Int32)) _ _ hG _ (lv_sub hl [2, 3, 4, 1, 0] rfl) h
  unfold f_X10_writtenBy at h
  refine lv_iconst (v := (0 : Int32)) hx hb dX10_writtenBy_0 (by decide) ?_
  refine lv_istore_n (lv' := [(3, .int (0 : Int32)), (0, .ref a0), (1, .int x1), (2, .int x2)]) hx hb dX10_writtenBy_1 rfl hl (by decide) rfl (fun ls hl => ?_)
  refine lv_iconst (v := (0 : Int32)) hx hb dX10_writtenBy_2 (by decide) ?_
  refine lv_istore (lv' := [(4, .int (0 : Int32)), (3, .int (0 : Int32)), (0, .ref a0), (1, .int x1), (2, .int x2)]) hx hb dX10_writtenBy_3 hl (by decide) rfl (fun ls hl => ?_)
  exact h5 g_N a0 x1 x2 (0 : Int32) (0 : Int32) _ _ hG _ (lv_sub hl [2, 3, 4, 1, 0] rfl) h
def f_X10_session_J24 (G : gH) (ba0 : Nat) (bx1 : Int32) (bx2 : Int32) (z0 : Nat) (z1 : Int32) : Option (gH × Int32) :=
    (g_ob G z0 10).bind fun u25 =>
    (f_X10_throwsIf G z0 z1 (2 : Int32)).bind fun q25 =>
    if q25.2 = 0 then
    (g_ob q25.1 ba0 10).bind fun u34 =>
    (f_X10_searches q25.1 ba0).bind fun G34 =>
    if bx2 = (0 : Int32) then
    (g_ob G34 ba0 10).bind fun u87 =>
    (f_X10_of G34 ba0 bx1 (0 : Int32)).bind fun v87 =>
    some (G34, v87)
    else
    if bx2 = (1 : Int32) then
    (g_ob G34 ba0 10).bind fun u94 =>
    (f_X10_of G34 ba0 bx1 (1 : Int32)).bind fun v94 =>
    some (G34, v94)
    else
    if bx2 = (2 : Int32) then
    (g_ob G34 ba0 10).bind fun u101 =>
    (f_X10_writtenBy G34 ba0 bx1 (1 : Int32)).bind fun v101 =>
    some (G34, v101)
    else
    if bx2 = (3 : Int32) then
    (g_ob G34 ba0 10).bind fun u108 =>
    (f_X10_of G34 ba0 bx1 (2 : Int32)).bind fun v108 =>
    some (G34, v108)
    else
    if bx2 = (4 : Int32) then
    (g_ob G34 ba0 10).bind fun u115 =>
    (f_X10_of G34 ba0 bx1 (3 : Int32)).bind fun v115 =>
    some (G34, (v115 - (1 : Int32)))
    else
    if bx2 = (5 : Int32) then
    (g_ob G34 ba0 10).bind fun u123 =>
    (f_X10_canReadDirectory G34 ba0 bx1).bind fun v123 =>
    if v123 = 0 then
    some (G34, (0 : Int32))
    else
    some (G34, (1 : Int32))
    else
    if bx2 = (6 : Int32) then
    (g_ob G34 ba0 10).bind fun u138 =>
    (f_X10_of G34 ba0 bx1 (4 : Int32)).bind fun v138 =>
    some (G34, (v138 - (1 : Int32)))
    else
    if bx2 = (7 : Int32) then
    (g_ob G34 ba0 10).bind fun u146 =>
    (f_X10_isReached G34 ba0 bx1).bind fun v146 =>
    if v146 = 0 then
    some (G34, (0 : Int32))
    else
    some (G34, (1 : Int32))
    else
    (g_ob G34 ba0 10).bind fun u161 =>
    (f_X10_writtenBy G34 ba0 bx1 (0 : Int32)).bind fun v161 =>
    some (G34, v161)
    else
    some (q25.1, (0 : Int32))
def f_X10_session (G : gH) (a0 : Nat) (x1 : Int32) (x2 : Int32) : Option (gH × Int32) :=
    (g_ob G a0 10).bind fun u2 =>
    (f_X10_noSession G a0 x1).bind fun q2 =>
    if q2.2 = 0 then
    (f_X10_within q2.1 x2 (0 : Int32) (8 : Int32)).bind fun v13 =>
    if v13 = 0 then
    f_X10_session_J24 q2.1 a0 x1 x2 a0 (1 : Int32)
    else
    f_X10_session_J24 q2.1 a0 x1 x2 a0 (0 : Int32)
    else
    some (q2.1, (0 : Int32))
set_option maxRecDepth 20000 in
set_option maxHeartbeats 4000000 in
theorem m_X10_session (l : Launch) (dd : va_G) (cT : Nat → ClassId) (lo : Nat) (G : gH) (a0 : Nat) (x1 : Int32) (x2 : Int32) {rz : Int32} {Gz : gH} (h : f_X10_session G a0 x1 x2 = some (Gz, rz)) : Met l yX10_session (Cond.code yX10_session cX10_session 3 (some .int) :: wsL_law) (g_rm 4 89 0 0) (va_Pc [.ref a0, .int x1, .int x2] (g_Pre lo dd cT G)) (va_Qi (g_is rz Gz) (g_Pre lo dd cT) (g_A lo)) 0 0 (g_A lo) := by
  refine g_start RX10 rfl (by decide) (Nat.le_of_ble_eq_true rfl) ?_
  intro p e s m below meth c hx hb hr hlocks hml hown hnm hts hK hG hlo ls hl
  have hl : lv_has ls 3 [(0, .ref a0), (1, .int x1), (2, .int x2)] := hl
  have hG : g_S lo dd cT s s.heap [] G := hG
  have h24 : ∀ (G : gH) (ba0 : Nat) (bx1 : Int32) (bx2 : Int32) (z0 : Nat) (z1 : Int32), ∀ (H : Heap) (locs : List Loc), g_S lo dd cT s H locs G → ∀ ls : Array Slot, lv_has ls 3 [(0, .ref ba0), (1, .int bx1), (2, .int bx2)] → f_X10_session_J24 G ba0 bx1 bx2 z0 z1 = some (Gz, rz) → W p l e (g_rm 4 89 0 0) s m ([.ref a0, .int x1, .int x2] : List Value).toArray below meth c H locs 0 0 (MQ below (va_Qi (g_is rz Gz) (g_Pre lo dd cT) (g_A lo)) ([.ref a0, .int x1, .int x2] : List Value).toArray s 0 0 (g_A lo)) (F0 m 24 ls [.int z1, .ref z0]) := by
    intro G ba0 bx1 bx2 z0 z1 H locs hG ls hl h
    unfold f_X10_session_J24 at h
    refine lv_iconst (v := (2 : Int32)) hx hb dX10_session_24 (by decide) ?_
    obtain ⟨u25, i25, h⟩ := Option.bind_eq_some_iff.mp h
    obtain ⟨q25, e25, h⟩ := Option.bind_eq_some_iff.mp h
    refine g_cVi (As := [.int z1, .int (2 : Int32)]) (rest := []) (n := 2) hx hb hml hown hts hK hlo hG (m_X10_throwsIf l dd cT lo G z0 z1 (2 : Int32) e25) qM_X10_188 qI_yX10_throwsIf qS_X10_yX10_throwsIf qN_X10 qC_yX10_throwsIf (by decide +kernel) ⟨Nat.le_of_ble_eq_true rfl, Nat.le_of_ble_eq_true rfl⟩ (by rfl) i25 rfl hl.1 rfl (Nat.le_of_ble_eq_true rfl) dX10_session_25 ⟨Nat.le_of_ble_eq_true rfl, Nat.le_of_ble_eq_true rfl⟩ (fun H locs hG => ?_)
    refine lv_if_eq (tgt := 33) hx hb dX10_session_28 (by decide) (fun c28 => ?_) (fun c28 => ?_)
    · rw [if_pos c28] at h
      refine lv_aload_n hx hb dX10_session_33 rfl (lv_at hl 0 rfl) ?_
      obtain ⟨u34, i34, h⟩ := Option.bind_eq_some_iff.mp h
      obtain ⟨G34, e34, h⟩ := Option.bind_eq_some_iff.mp h
      refine g_cVv (As := []) (rest := []) (n := 0) hx hb hml hown hts hK hlo hG (m_X10_searches l dd cT lo q25.1 ba0 e34) qM_X10_242 qI_yX10_searches qS_X10_yX10_searches qN_X10 qC_yX10_searches (by decide +kernel) ⟨Nat.le_of_ble_eq_true rfl, Nat.le_of_ble_eq_true rfl⟩ (by rfl) i34 rfl hl.1 rfl (Nat.le_of_ble_eq_true rfl) dX10_session_34 ⟨Nat.le_of_ble_eq_true rfl, Nat.le_of_ble_eq_true rfl⟩ (fun H locs hG => ?_)
      refine lv_iload_n hx hb dX10_session_37 rfl (lv_at hl 2 rfl) ?_
      by_cases c38_0 : bx2 = (0 : Int32)
      · rw [if_pos c38_0] at h
        refine g_swIn (tgt := 84) hx hb dX10_session_38 (0 : Int32) c38_0 (by decide) (by decide) 46 (by decide) (by decide) ?_
        refine lv_aload_n hx hb dX10_session_84 rfl (lv_at hl 0 rfl) ?_
        refine lv_iload_n hx hb dX10_session_85 rfl (lv_at hl 1 rfl) ?_
        refine lv_iconst (v := (0 : Int32)) hx hb dX10_session_86 (by decide) ?_
        obtain ⟨u87, i87, h⟩ := Option.bind_eq_some_iff.mp h
        obtain ⟨v87, e87, h⟩ := Option.bind_eq_some_iff.mp h
        refine g_cVi (As := [.int bx1, .int (0 : Int32)]) (rest := []) (n := 2) hx hb hml hown hts hK hlo hG (m_X10_of l dd cT lo G34 ba0 bx1 (0 : Int32) e87) qM_X10_218 qI_yX10_of qS_X10_yX10_of qN_X10 qC_yX10_of (by decide +kernel) ⟨Nat.le_of_ble_eq_true rfl, Nat.le_of_ble_eq_true rfl⟩ (by rfl) i87 rfl hl.1 rfl (Nat.le_of_ble_eq_true rfl) dX10_session_87 ⟨Nat.le_of_ble_eq_true rfl, Nat.le_of_ble_eq_true rfl⟩ (fun H locs hG => ?_)
        obtain ⟨rfl, rfl⟩ := Prod.mk.inj (Option.some.inj h)
        exact g_iret hx hb hr hlocks hK hlo hG ⟨rfl, rfl⟩ dX10_session_90
      rw [if_neg c38_0] at h
      by_cases c38_1 : bx2 = (1 : Int32)
      · rw [if_pos c38_1] at h
        refine g_swIn (tgt := 91) hx hb dX10_session_38 (1 : Int32) c38_1 (by decide) (by decide) 53 (by decide) (by decide) ?_
        refine lv_aload_n hx hb dX10_session_91 rfl (lv_at hl 0 rfl) ?_
        refine lv_iload_n hx hb dX10_session_92 rfl (lv_at hl 1 rfl) ?_
        refine lv_iconst (v := (1 : Int32)) hx hb dX10_session_93 (by decide) ?_
        obtain ⟨u94, i94, h⟩ := Option.bind_eq_some_iff.mp h
        obtain ⟨v94, e94, h⟩ := Option.bind_eq_some_iff.mp h
        refine g_cVi (As := [.int bx1, .int (1 : Int32)]) (rest := []) (n := 2) hx hb hml hown hts hK hlo hG (m_X10_of l dd cT lo G34 ba0 bx1 (1 : Int32) e94) qM_X10_218 qI_yX10_of qS_X10_yX10_of qN_X10 qC_yX10_of (by decide +kernel) ⟨Nat.le_of_ble_eq_true rfl, Nat.le_of_ble_eq_true rfl⟩ (by rfl) i94 rfl hl.1 rfl (Nat.le_of_ble_eq_true rfl) dX10_session_94 ⟨Nat.le_of_ble_eq_true rfl, Nat.le_of_ble_eq_true rfl⟩ (fun H locs hG => ?_)
        obtain ⟨rfl, rfl⟩ := Prod.mk.inj (Option.some.inj h)
        exact g_iret hx hb hr hlocks hK hlo hG ⟨rfl, rfl⟩ dX10_session_97
      rw [if_neg c38_1] at h
      by_cases c38_2 : bx2 = (2 : Int32)
      · rw [if_pos c38_2] at h
        refine g_swIn (tgt := 98) hx hb dX10_session_38 (2 : Int32) c38_2 (by decide) (by decide) 60 (by decide) (by decide) ?_
        refine lv_aload_n hx hb dX10_session_98 rfl (lv_at hl 0 rfl) ?_
        refine lv_iload_n hx hb dX10_session_99 rfl (lv_at hl 1 rfl) ?_
        refine lv_iconst (v := (1 : Int32)) hx hb dX10_session_100 (by decide) ?_
        obtain ⟨u101, i101, h⟩ := Option.bind_eq_some_iff.mp h
        obtain ⟨v101, e101, h⟩ := Option.bind_eq_some_iff.mp h
        refine g_cVi (As := [.int bx1, .int (1 : Int32)]) (rest := []) (n := 2) hx hb hml hown hts hK hlo hG (m_X10_writtenBy l dd cT lo G34 ba0 bx1 (1 : Int32) e101) qM_X10_323 qI_yX10_writtenBy qS_X10_yX10_writtenBy qN_X10 qC_yX10_writtenBy (by decide +kernel) ⟨Nat.le_of_ble_eq_true rfl, Nat.le_of_ble_eq_true rfl⟩ (by rfl) i101 rfl hl.1 rfl (Nat.le_of_ble_eq_true rfl) dX10_session_101 ⟨Nat.le_of_ble_eq_true rfl, Nat.le_of_ble_eq_true rfl⟩ (fun H locs hG => ?_)
        obtain ⟨rfl, rfl⟩ := Prod.mk.inj (Option.some.inj h)
        exact g_iret hx hb hr hlocks hK hlo hG ⟨rfl, rfl⟩ dX10_session_104
      rw [if_neg c38_2] at h
      by_cases c38_3 : bx2 = (3 : Int32)
      · rw [if_pos c38_3] at h
        refine g_swIn (tgt := 105) hx hb dX10_session_38 (3 : Int32) c38_3 (by decide) (by decide) 67 (by decide) (by decide) ?_
        refine lv_aload_n hx hb dX10_session_105 rfl (lv_at hl 0 rfl) ?_
        refine lv_iload_n hx hb dX10_session_106 rfl (lv_at hl 1 rfl) ?_
        refine lv_iconst (v := (2 : Int32)) hx hb dX10_session_107 (by decide) ?_
        obtain ⟨u108, i108, h⟩ := Option.bind_eq_some_iff.mp h
        obtain ⟨v108, e108, h⟩ := Option.bind_eq_some_iff.mp h
        refine g_cVi (As := [.int bx1, .int (2 : Int32)]) (rest := []) (n := 2) hx hb hml hown hts hK hlo hG (m_X10_of l dd cT lo G34 ba0 bx1 (2 : Int32) e108) qM_X10_218 qI_yX10_of qS_X10_yX10_of qN_X10 qC_yX10_of (by decide +kernel) ⟨Nat.le_of_ble_eq_true rfl, Nat.le_of_ble_eq_true rfl⟩ (by rfl) i108 rfl hl.1 rfl (Nat.le_of_ble_eq_true rfl) dX10_session_108 ⟨Nat.le_of_ble_eq_true rfl, Nat.le_of_ble_eq_true rfl⟩ (fun H locs hG => ?_)
        obtain ⟨rfl, rfl⟩ := Prod.mk.inj (Option.some.inj h)
        exact g_iret hx hb hr hlocks hK hlo hG ⟨rfl, rfl⟩ dX10_session_111
      rw [if_neg c38_3] at h
      by_cases c38_4 : bx2 = (4 : Int32)
      · rw [if_pos c38_4] at h
        refine g_swIn (tgt := 112) hx hb dX10_session_38 (4 : Int32) c38_4 (by decide) (by decide) 74 (by decide) (by decide) ?_
        refine lv_aload_n hx hb dX10_session_112 rfl (lv_at hl 0 rfl) ?_
        refine lv_iload_n hx hb dX10_session_113 rfl (lv_at hl 1 rfl) ?_
        refine lv_iconst (v := (3 : Int32)) hx hb dX10_session_114 (by decide) ?_
        obtain ⟨u115, i115, h⟩ := Option.bind_eq_some_iff.mp h
        obtain ⟨v115, e115, h⟩ := Option.bind_eq_some_iff.mp h
        refine g_cVi (As := [.int bx1, .int (3 : Int32)]) (rest := []) (n := 2) hx hb hml hown hts hK hlo hG (m_X10_of l dd cT lo G34 ba0 bx1 (3 : Int32) e115) qM_X10_218 qI_yX10_of qS_X10_yX10_of qN_X10 qC_yX10_of (by decide +kernel) ⟨Nat.le_of_ble_eq_true rfl, Nat.le_of_ble_eq_true rfl⟩ (by rfl) i115 rfl hl.1 rfl (Nat.le_of_ble_eq_true rfl) dX10_session_115 ⟨Nat.le_of_ble_eq_true rfl, Nat.le_of_ble_eq_true rfl⟩ (fun H locs hG => ?_)
        refine lv_iconst (v := (1 : Int32)) hx hb dX10_session_118 (by decide) ?_
        refine lv_isub hx hb dX10_session_119 ?_
        obtain ⟨rfl, rfl⟩ := Prod.mk.inj (Option.some.inj h)
        exact g_iret hx hb hr hlocks hK hlo hG ⟨rfl, rfl⟩ dX10_session_120
      rw [if_neg c38_4] at h
      by_cases c38_5 : bx2 = (5 : Int32)
      · rw [if_pos c38_5] at h
        refine g_swIn (tgt := 121) hx hb dX10_session_38 (5 : Int32) c38_5 (by decide) (by decide) 83 (by decide) (by decide) ?_
        refine lv_aload_n hx hb dX10_session_121 rfl (lv_at hl 0 rfl) ?_
        refine lv_iload_n hx hb dX10_session_122 rfl (lv_at hl 1 rfl) ?_
        obtain ⟨u123, i123, h⟩ := Option.bind_eq_some_iff.mp h
        obtain ⟨v123, e123, h⟩ := Option.bind_eq_some_iff.mp h
        refine g_cVi (As := [.int bx1]) (rest := []) (n := 1) hx hb hml hown hts hK hlo hG (m_X10_canReadDirectory l dd cT lo G34 ba0 bx1 e123) qM_X10_230 qI_yX10_canReadDirectory qS_X10_yX10_canReadDirectory qN_X10 qC_yX10_canReadDirectory (by decide +kernel) ⟨Nat.le_of_ble_eq_true rfl, Nat.le_of_ble_eq_true rfl⟩ (by rfl) i123 rfl hl.1 rfl (Nat.le_of_ble_eq_true rfl) dX10_session_123 ⟨Nat.le_of_ble_eq_true rfl, Nat.le_of_ble_eq_true rfl⟩ (fun H locs hG => ?_)
        refine lv_if_eq (tgt := 133) hx hb dX10_session_126 (by decide) (fun c126 => ?_) (fun c126 => ?_)
        · rw [if_pos c126] at h
          refine lv_iconst (v := (0 : Int32)) hx hb dX10_session_133 (by decide) ?_
          obtain ⟨rfl, rfl⟩ := Prod.mk.inj (Option.some.inj h)
          exact g_iret hx hb hr hlocks hK hlo hG ⟨rfl, rfl⟩ dX10_session_134
        · rw [if_neg c126] at h
          refine lv_iconst (v := (1 : Int32)) hx hb dX10_session_129 (by decide) ?_
          refine lv_goto (tgt := 134) hx hb dX10_session_130 (by decide) ?_
          obtain ⟨rfl, rfl⟩ := Prod.mk.inj (Option.some.inj h)
          exact g_iret hx hb hr hlocks hK hlo hG ⟨rfl, rfl⟩ dX10_session_134
      rw [if_neg c38_5] at h
      by_cases c38_6 : bx2 = (6 : Int32)
      · rw [if_pos c38_6] at h
        refine g_swIn (tgt := 135) hx hb dX10_session_38 (6 : Int32) c38_6 (by decide) (by decide) 97 (by decide) (by decide) ?_
        refine lv_aload_n hx hb dX10_session_135 rfl (lv_at hl 0 rfl) ?_
        refine lv_iload_n hx hb dX10_session_136 rfl (lv_at hl 1 rfl) ?_
        refine lv_iconst (v := (4 : Int32)) hx hb dX10_session_137 (by decide) ?_
        obtain ⟨u138, i138, h⟩ := Option.bind_eq_some_iff.mp h
        obtain ⟨v138, e138, h⟩ := Option.bind_eq_some_iff.mp h
        refine g_cVi (As := [.int bx1, .int (4 : Int32)]) (rest := []) (n := 2) hx hb hml hown hts hK hlo hG (m_X10_of l dd cT lo G34 ba0 bx1 (4 : Int32) e138) qM_X10_218 qI_yX10_of qS_X10_yX10_of qN_X10 qC_yX10_of (by decide +kernel) ⟨Nat.le_of_ble_eq_true rfl, Nat.le_of_ble_eq_true rfl⟩ (by rfl) i138 rfl hl.1 rfl (Nat.le_of_ble_eq_true rfl) dX10_session_138 ⟨Nat.le_of_ble_eq_true rfl, Nat.le_of_ble_eq_true rfl⟩ (fun H locs hG => ?_)
        refine lv_iconst (v := (1 : Int32)) hx hb dX10_session_141 (by decide) ?_
        refine lv_isub hx hb dX10_session_142 ?_
        obtain ⟨rfl, rfl⟩ := Prod.mk.inj (Option.some.inj h)
        exact g_iret hx hb hr hlocks hK hlo hG ⟨rfl, rfl⟩ dX10_session_143
      rw [if_neg c38_6] at h
      by_cases c38_7 : bx2 = (7 : Int32)
      · rw [if_pos c38_7] at h
        refine g_swIn (tgt := 144) hx hb dX10_session_38 (7 : Int32) c38_7 (by decide) (by decide) 106 (by decide) (by decide) ?_
        refine lv_aload_n hx hb dX10_session_144 rfl (lv_at hl 0 rfl) ?_
        refine lv_iload_n hx hb dX10_session_145 rfl (lv_at hl 1 rfl) ?_
        obtain ⟨u146, i146, h⟩ := Option.bind_eq_some_iff.mp h
        obtain ⟨v146, e146, h⟩ := Option.bind_eq_some_iff.mp h
        refine g_cVi (As := [.int bx1]) (rest := []) (n := 1) hx hb hml hown hts hK hlo hG (m_X10_isReached l dd cT lo G34 ba0 bx1 e146) qM_X10_327 qI_yX10_isReached qS_X10_yX10_isReached qN_X10 qC_yX10_isReached (by decide +kernel) ⟨Nat.le_of_ble_eq_true rfl, Nat.le_of_ble_eq_true rfl⟩ (by rfl) i146 rfl hl.1 rfl (Nat.le_of_ble_eq_true rfl) dX10_session_146 ⟨Nat.le_of_ble_eq_true rfl, Nat.le_of_ble_eq_true rfl⟩ (fun H locs hG => ?_)
        refine lv_if_eq (tgt := 156) hx hb dX10_session_149 (by decide) (fun c149 => ?_) (fun c149 => ?_)
        · rw [if_pos c149] at h
          refine lv_iconst (v := (0 : Int32)) hx hb dX10_session_156 (by decide) ?_
          obtain ⟨rfl, rfl⟩ := Prod.mk.inj (Option.some.inj h)
          exact g_iret hx hb hr hlocks hK hlo hG ⟨rfl, rfl⟩ dX10_session_157
        · rw [if_neg c149] at h
          refine lv_iconst (v := (1 : Int32)) hx hb dX10_session_152 (by decide) ?_
          refine lv_goto (tgt := 157) hx hb dX10_session_153 (by decide) ?_
          obtain ⟨rfl, rfl⟩ := Prod.mk.inj (Option.some.inj h)
          exact g_iret hx hb hr hlocks hK hlo hG ⟨rfl, rfl⟩ dX10_session_157
      rw [if_neg c38_7] at h
      have z38 : bx2.toInt < 0 ∨ 7 < bx2.toInt := by
        have y0 : ¬ bx2.toInt = 0 := fun w => c38_0 (Int32.toInt_inj.mp (by rw [w]; rfl))
        have y1 : ¬ bx2.toInt = 1 := fun w => c38_1 (Int32.toInt_inj.mp (by rw [w]; rfl))
        have y2 : ¬ bx2.toInt = 2 := fun w => c38_2 (Int32.toInt_inj.mp (by rw [w]; rfl))
        have y3 : ¬ bx2.toInt = 3 := fun w => c38_3 (Int32.toInt_inj.mp (by rw [w]; rfl))
        have y4 : ¬ bx2.toInt = 4 := fun w => c38_4 (Int32.toInt_inj.mp (by rw [w]; rfl))
        have y5 : ¬ bx2.toInt = 5 := fun w => c38_5 (Int32.toInt_inj.mp (by rw [w]; rfl))
        have y6 : ¬ bx2.toInt = 6 := fun w => c38_6 (Int32.toInt_inj.mp (by rw [w]; rfl))
        have y7 : ¬ bx2.toInt = 7 := fun w => c38_7 (Int32.toInt_inj.mp (by rw [w]; rfl))
        omega
      refine lv_tableOut (tgt := 158) hx hb dX10_session_38 z38 (by decide) ?_
      refine lv_aload_n hx hb dX10_session_158 rfl (lv_at hl 0 rfl) ?_
      refine lv_iload_n hx hb dX10_session_159 rfl (lv_at hl 1 rfl) ?_
      refine lv_iconst (v := (0 : Int32)) hx hb dX10_session_160 (by decide) ?_
      obtain ⟨u161, i161, h⟩ := Option.bind_eq_some_iff.mp h
      obtain ⟨v161, e161, h⟩ := Option.bind_eq_some_iff.mp h
      refine g_cVi (As := [.int bx1, .int (0 : Int32)]) (rest := []) (n := 2) hx hb hml hown hts hK hlo hG (m_X10_writtenBy l dd cT lo G34 ba0 bx1 (0 : Int32) e161) qM_X10_323 qI_yX10_writtenBy qS_X10_yX10_writtenBy qN_X10 qC_yX10_writtenBy (by decide +kernel) ⟨Nat.le_of_ble_eq_true rfl, Nat.le_of_ble_eq_true rfl⟩ (by rfl) i161 rfl hl.1 rfl (Nat.le_of_ble_eq_true rfl) dX10_session_161 ⟨Nat.le_of_ble_eq_true rfl, Nat.le_of_ble_eq_true rfl⟩ (fun H locs hG => ?_)
      obtain ⟨rfl, rfl⟩ := Prod.mk.inj (Option.some.inj h)
      exact g_iret hx hb hr hlocks hK hlo hG ⟨rfl, rfl⟩ dX10_session_164
    · rw [if_neg c28] at h
      refine lv_iconst (v := (0 : Int32)) hx hb dX10_session_31 (by decide) ?_
      obtain ⟨rfl, rfl⟩ := Prod.mk.inj (Option.some.inj h)
      exact g_iret hx hb hr hlocks hK hlo hG ⟨rfl, rfl⟩ dX10_session_32
  unfold f_X10_session at h
  refine lv_aload_n hx hb dX10_session_0 rfl (lv_at hl 0 rfl) ?_
  refine lv_iload_n hx hb dX10_session_1 rfl (lv_at hl 1 rfl) ?_
  obtain ⟨u2, i2, h⟩ := Option.bind_eq_some_iff.mp h
  obtain ⟨q2, e2, h⟩ := Option.bind_eq_some_iff.mp h
  refine g_cVi (As := [.int x1]) (rest := []) (n := 1) hx hb hml hown hts hK hlo hG (m_X10_noSession l dd cT lo G a0 x1 e2) qM_X10_320 qI_yX10_noSession qS_X10_yX10_noSession qN_X10 qC_yX10_noSession (by decide +kernel) ⟨Nat.le_of_ble_eq_true rfl, Nat.le_of_ble_eq_true rfl⟩ (by rfl) i2 rfl hl.1 rfl (Nat.le_of_ble_eq_true rfl) dX10_session_2 ⟨Nat.le_of_ble_eq_true rfl, Nat.le_of_ble_eq_true rfl⟩ (fun H locs hG => ?_)
  refine lv_if_ne (tgt := 31) hx hb dX10_session_5 (by decide) (fun c5 => ?_) (fun c5 => ?_)
  · rw [if_neg c5] at h
    refine lv_iconst (v := (0 : Int32)) hx hb dX10_session_31 (by decide) ?_
    obtain ⟨rfl, rfl⟩ := Prod.mk.inj (Option.some.inj h)
    exact g_iret hx hb hr hlocks hK hlo hG ⟨rfl, rfl⟩ dX10_session_32
  · rw [if_pos c5] at h
    refine lv_aload_n hx hb dX10_session_8 rfl (lv_at hl 0 rfl) ?_
    refine lv_iload_n hx hb dX10_session_9 rfl (lv_at hl 2 rfl) ?_
    refine lv_iconst (v := (0 : Int32)) hx hb dX10_session_10 (by decide) ?_
    refine lv_bipush (v := (8 : Int32)) hx hb dX10_session_11 (by decide) ?_
    obtain ⟨v13, e13, h⟩ := Option.bind_eq_some_iff.mp h
    refine g_cSi (As := [.int x2, .int (0 : Int32), .int (8 : Int32)]) (rest := [.ref a0]) (n := 3) hx hb hml hown hts hK hlo hG (m_X10_within l dd cT lo q2.1 x2 (0 : Int32) (8 : Int32) e13) qM_X10_74 qT_yX10_within qN_X10 qC_yX10_within (by decide +kernel) ⟨Nat.le_of_ble_eq_true rfl, Nat.le_of_ble_eq_true rfl⟩ rfl hl.1 rfl (Nat.le_of_ble_eq_true rfl) dX10_session_13 ⟨Nat.le_of_ble_eq_true rfl, Nat.le_of_ble_eq_true rfl⟩ (fun H locs hG => ?_)
    refine lv_if_ne (tgt := 23) hx hb dX10_session_16 (by decide) (fun c16 => ?_) (fun c16 => ?_)
    · rw [if_neg c16] at h
      refine lv_iconst (v := (0 : Int32)) hx hb dX10_session_23 (by decide) ?_
      exact h24 q2.1 a0 x1 x2 a0 (0 : Int32) _ _ hG _ (lv_sub hl [0, 1, 2] rfl) h
    · rw [if_pos c16] at h
      refine lv_iconst (v := (1 : Int32)) hx hb dX10_session_19 (by decide) ?_
      refine lv_goto (tgt := 24) hx hb dX10_session_20 (by decide) ?_
      exact h24 q2.1 a0 x1 x2 a0 (1 : Int32) _ _ hG _ (lv_sub hl [0, 1, 2] rfl) h
def f_X10_entry_J23 (G : gH) (ba0 : Nat) (bx1 : Int32) (bx2 : Int32) (bx3 : Int32) (z0 : Nat) (z1 : Int32) : Option (gH × Int32) :=
    (g_ob G z0 10).bind fun u24 =>
    (f_X10_throwsIf G z0 z1 (2 : Int32)).bind fun q24 =>
    if q24.2 = 0 then
    (g_ob q24.1 ba0 10).bind fun u37 =>
    (f_X10_of q24.1 ba0 bx1 (2 : Int32)).bind fun v37 =>
    (f_X10_within q24.1 bx2 (0 : Int32) (v37 - (1 : Int32))).bind fun v42 =>
    if v42 = 0 then
    some (q24.1, (-1 : Int32))
    else
    (g_ob q24.1 ba0 10).bind fun u59 =>
    (f_X10_of q24.1 ba0 bx1 (((5 : Int32) + ((2 : Int32) * bx2)) + (1 : Int32))).bind fun v59 =>
    if (2 : Int32) ≤ bx3 then
    if v59 = (-1 : Int32) then
    if bx3 = (3 : Int32) then
    some (q24.1, (0 : Int32))
    else
    some (q24.1, (-1 : Int32))
    else
    (g_ob q24.1 ba0 10).bind fun u114 =>
    (f_X10_ofVersion q24.1 ba0 v59 (bx3 - (1 : Int32))).bind fun v114 =>
    some (q24.1, v114)
    else
    if bx3 = 0 then
    (g_ob q24.1 ba0 10).bind fun u80 =>
    (f_X10_of q24.1 ba0 bx1 ((5 : Int32) + ((2 : Int32) * bx2))).bind fun v80 =>
    some (q24.1, v80)
    else
    some (q24.1, v59)
    else
    some (q24.1, (0 : Int32))
def f_X10_entry (G : gH) (a0 : Nat) (x1 : Int32) (x2 : Int32) (x3 : Int32) : Option (gH × Int32) :=
    (g_ob G a0 10).bind fun u2 =>
    (f_X10_noSession G a0 x1).bind fun q2 =>
    if q2.2 = 0 then
    (f_X10_within q2.1 x3 (0 : Int32) (4 : Int32)).bind fun v12 =>
    if v12 = 0 then
    f_X10_entry_J23 q2.1 a0 x1 x2 x3 a0 (1 : Int32)
    else
    f_X10_entry_J23 q2.1 a0 x1 x2 x3 a0 (0 : Int32)
    else
    some (q2.1, (0 : Int32))
set_option maxRecDepth 20000 in
set_option maxHeartbeats 4000000 in
theorem m_X10_entry (l : Launch) (dd : va_G) (cT : Nat → ClassId) (lo : Nat) (G : gH) (a0 : Nat) (x1 : Int32) (x2 : Int32) (x3 : Int32) {rz : Int32} {Gz : gH} (h : f_X10_entry G a0 x1 x2 x3 = some (Gz, rz)) : Met l yX10_entry (Cond.code yX10_entry cX10_entry 5 (some .int) :: wsL_law) (g_rm 3 65 0 0) (va_Pc [.ref a0, .int x1, .int x2, .int x3] (g_Pre lo dd cT G)) (va_Qi (g_is rz Gz) (g_Pre lo dd cT) (g_A lo)) 0 0 (g_A lo) := by
  refine g_start RX10 rfl (by decide) (Nat.le_of_ble_eq_true rfl) ?_
  intro p e s m below meth c hx hb hr hlocks hml hown hnm hts hK hG hlo ls hl
  have hl : lv_has ls 5 [(0, .ref a0), (1, .int x1), (2, .int x2), (3, .int x3)] := hl
  have hG : g_S lo dd cT s s.heap [] G := hG
  have h23 : ∀ (G : gH) (ba0 : Nat) (bx1 : Int32) (bx2 : Int32) (bx3 : Int32) (z0 : Nat) (z1 : Int32), ∀ (H : Heap) (locs : List Loc), g_S lo dd cT s H locs G → ∀ ls : Array Slot, lv_has ls 5 [(0, .ref ba0), (1, .int bx1), (2, .int bx2), (3, .int bx3)] → f_X10_entry_J23 G ba0 bx1 bx2 bx3 z0 z1 = some (Gz, rz) → W p l e (g_rm 3 65 0 0) s m ([.ref a0, .int x1, .int x2, .int x3] : List Value).toArray below meth c H locs 0 0 (MQ below (va_Qi (g_is rz Gz) (g_Pre lo dd cT) (g_A lo)) ([.ref a0, .int x1, .int x2, .int x3] : List Value).toArray s 0 0 (g_A lo)) (F0 m 23 ls [.int z1, .ref z0]) := by
    intro G ba0 bx1 bx2 bx3 z0 z1 H locs hG ls hl h
    unfold f_X10_entry_J23 at h
    refine lv_iconst (v := (2 : Int32)) hx hb dX10_entry_23 (by decide) ?_
    obtain ⟨u24, i24, h⟩ := Option.bind_eq_some_iff.mp h
    obtain ⟨q24, e24, h⟩ := Option.bind_eq_some_iff.mp h
    refine g_cVi (As := [.int z1, .int (2 : Int32)]) (rest := []) (n := 2) hx hb hml hown hts hK hlo hG (m_X10_throwsIf l dd cT lo G z0 z1 (2 : Int32) e24) qM_X10_188 qI_yX10_throwsIf qS_X10_yX10_throwsIf qN_X10 qC_yX10_throwsIf (by decide +kernel) ⟨Nat.le_of_ble_eq_true rfl, Nat.le_of_ble_eq_true rfl⟩ (by rfl) i24 rfl hl.1 rfl (Nat.le_of_ble_eq_true rfl) dX10_entry_24 ⟨Nat.le_of_ble_eq_true rfl, Nat.le_of_ble_eq_true rfl⟩ (fun H locs hG => ?_)
    refine lv_if_eq (tgt := 32) hx hb dX10_entry_27 (by decide) (fun c27 => ?_) (fun c27 => ?_)
    · rw [if_pos c27] at h
      refine lv_iload_n hx hb dX10_entry_32 rfl (lv_at hl 2 rfl) ?_
      refine lv_iconst (v := (0 : Int32)) hx hb dX10_entry_33 (by decide) ?_
      refine lv_aload_n hx hb dX10_entry_34 rfl (lv_at hl 0 rfl) ?_
      refine lv_iload_n hx hb dX10_entry_35 rfl (lv_at hl 1 rfl) ?_
      refine lv_iconst (v := (2 : Int32)) hx hb dX10_entry_36 (by decide) ?_
      obtain ⟨u37, i37, h⟩ := Option.bind_eq_some_iff.mp h
      obtain ⟨v37, e37, h⟩ := Option.bind_eq_some_iff.mp h
      refine g_cVi (As := [.int bx1, .int (2 : Int32)]) (rest := [.int (0 : Int32), .int bx2]) (n := 2) hx hb hml hown hts hK hlo hG (m_X10_of l dd cT lo q24.1 ba0 bx1 (2 : Int32) e37) qM_X10_218 qI_yX10_of qS_X10_yX10_of qN_X10 qC_yX10_of (by decide +kernel) ⟨Nat.le_of_ble_eq_true rfl, Nat.le_of_ble_eq_true rfl⟩ (by rfl) i37 rfl hl.1 rfl (Nat.le_of_ble_eq_true rfl) dX10_entry_37 ⟨Nat.le_of_ble_eq_true rfl, Nat.le_of_ble_eq_true rfl⟩ (fun H locs hG => ?_)
      refine lv_iconst (v := (1 : Int32)) hx hb dX10_entry_40 (by decide) ?_
      refine lv_isub hx hb dX10_entry_41 ?_
      obtain ⟨v42, e42, h⟩ := Option.bind_eq_some_iff.mp h
      refine g_cSi (As := [.int bx2, .int (0 : Int32), .int (v37 - (1 : Int32))]) (rest := []) (n := 3) hx hb hml hown hts hK hlo hG (m_X10_within l dd cT lo q24.1 bx2 (0 : Int32) (v37 - (1 : Int32)) e42) qM_X10_74 qT_yX10_within qN_X10 qC_yX10_within (by decide +kernel) ⟨Nat.le_of_ble_eq_true rfl, Nat.le_of_ble_eq_true rfl⟩ rfl hl.1 rfl (Nat.le_of_ble_eq_true rfl) dX10_entry_42 ⟨Nat.le_of_ble_eq_true rfl, Nat.le_of_ble_eq_true rfl⟩ (fun H locs hG => ?_)
      refine lv_if_ne (tgt := 50) hx hb dX10_entry_45 (by decide) (fun c45 => ?_) (fun c45 => ?_)
      · rw [if_neg c45] at h
        refine lv_aload_n hx hb dX10_entry_50 rfl (lv_at hl 0 rfl) ?_
        refine lv_iload_n hx hb dX10_entry_51 rfl (lv_at hl 1 rfl) ?_
        refine lv_iconst (v := (5 : Int32)) hx hb dX10_entry_52 (by decide) ?_
        refine lv_iconst (v := (2 : Int32)) hx hb dX10_entry_53 (by decide) ?_
        refine lv_iload_n hx hb dX10_entry_54 rfl (lv_at hl 2 rfl) ?_
        refine lv_imul hx hb dX10_entry_55 ?_
        refine lv_iadd hx hb dX10_entry_56 ?_
        refine lv_iconst (v := (1 : Int32)) hx hb dX10_entry_57 (by decide) ?_
        refine lv_iadd hx hb dX10_entry_58 ?_
        obtain ⟨u59, i59, h⟩ := Option.bind_eq_some_iff.mp h
        obtain ⟨v59, e59, h⟩ := Option.bind_eq_some_iff.mp h
        refine g_cVi (As := [.int bx1, .int (((5 : Int32) + ((2 : Int32) * bx2)) + (1 : Int32))]) (rest := []) (n := 2) hx hb hml hown hts hK hlo hG (m_X10_of l dd cT lo q24.1 ba0 bx1 (((5 : Int32) + ((2 : Int32) * bx2)) + (1 : Int32)) e59) qM_X10_218 qI_yX10_of qS_X10_yX10_of qN_X10 qC_yX10_of (by decide +kernel) ⟨Nat.le_of_ble_eq_true rfl, Nat.le_of_ble_eq_true rfl⟩ (by rfl) i59 rfl hl.1 rfl (Nat.le_of_ble_eq_true rfl) dX10_entry_59 ⟨Nat.le_of_ble_eq_true rfl, Nat.le_of_ble_eq_true rfl⟩ (fun H locs hG => ?_)
        refine lv_istore (lv' := [(4, .int v59), (0, .ref ba0), (1, .int bx1), (2, .int bx2), (3, .int bx3)]) hx hb dX10_entry_62 hl (by decide) rfl (fun ls hl => ?_)
        refine lv_iload_n hx hb dX10_entry_64 rfl (lv_at hl 4 rfl) ?_
        refine lv_iconst (v := (2 : Int32)) hx hb dX10_entry_65 (by decide) ?_
        refine lv_icmp_ge (tgt := 89) hx hb dX10_entry_66 (by decide) (fun c66 => ?_) (fun c66 => ?_)
        · rw [if_pos c66] at h
          refine lv_iload hx hb dX10_entry_89 (lv_at hl 0 rfl) ?_
          refine lv_iconst (v := (-1 : Int32)) hx hb dX10_entry_91 (by decide) ?_
          refine lv_icmp_ne (tgt := 108) hx hb dX10_entry_92 (by decide) (fun c92 => ?_) (fun c92 => ?_)
          · rw [if_neg c92] at h
            refine lv_aload_n hx hb dX10_entry_108 rfl (lv_at hl 1 rfl) ?_
            refine lv_iload hx hb dX10_entry_109 (lv_at hl 0 rfl) ?_
            refine lv_iload_n hx hb dX10_entry_111 rfl (lv_at hl 4 rfl) ?_
            refine lv_iconst (v := (1 : Int32)) hx hb dX10_entry_112 (by decide) ?_
            refine lv_isub hx hb dX10_entry_113 ?_
            obtain ⟨u114, i114, h⟩ := Option.bind_eq_some_iff.mp h
            obtain ⟨v114, e114, h⟩ := Option.bind_eq_some_iff.mp h
            refine g_cVi (As := [.int v59, .int (bx3 - (1 : Int32))]) (rest := []) (n := 2) hx hb hml hown hts hK hlo hG (m_X10_ofVersion l dd cT lo q24.1 ba0 v59 (bx3 - (1 : Int32)) e114) qM_X10_249 qI_yX10_ofVersion qS_X10_yX10_ofVersion qN_X10 qC_yX10_ofVersion (by decide +kernel) ⟨Nat.le_of_ble_eq_true rfl, Nat.le_of_ble_eq_true rfl⟩ (by rfl) i114 rfl hl.1 rfl (Nat.le_of_ble_eq_true rfl) dX10_entry_114 ⟨Nat.le_of_ble_eq_true rfl, Nat.le_of_ble_eq_true rfl⟩ (fun H locs hG => ?_)
            obtain ⟨rfl, rfl⟩ := Prod.mk.inj (Option.some.inj h)
            exact g_iret hx hb hr hlocks hK hlo hG ⟨rfl, rfl⟩ dX10_entry_117
          · rw [if_pos c92] at h
            refine lv_iload_n hx hb dX10_entry_95 rfl (lv_at hl 4 rfl) ?_
            refine lv_iconst (v := (3 : Int32)) hx hb dX10_entry_96 (by decide) ?_
            refine lv_icmp_ne (tgt := 104) hx hb dX10_entry_97 (by decide) (fun c97 => ?_) (fun c97 => ?_)
            · rw [if_neg c97] at h
              refine lv_iconst (v := (-1 : Int32)) hx hb dX10_entry_104 (by decide) ?_
              refine lv_goto (tgt := 117) hx hb dX10_entry_105 (by decide) ?_
              obtain ⟨rfl, rfl⟩ := Prod.mk.inj (Option.some.inj h)
              exact g_iret hx hb hr hlocks hK hlo hG ⟨rfl, rfl⟩ dX10_entry_117
            · rw [if_pos c97] at h
              refine lv_iconst (v := (0 : Int32)) hx hb dX10_entry_100 (by decide) ?_
              refine lv_goto (tgt := 117) hx hb dX10_entry_101 (by decide) ?_
              obtain ⟨rfl, rfl⟩ := Prod.mk.inj (Option.some.inj h)
              exact g_iret hx hb hr hlocks hK hlo hG ⟨rfl, rfl⟩ dX10_entry_117
        · rw [if_neg c66] at h
          refine lv_iload_n hx hb dX10_entry_69 rfl (lv_at hl 4 rfl) ?_
          refine lv_if_ne (tgt := 86) hx hb dX10_entry_70 (by decide) (fun c70 => ?_) (fun c70 => ?_)
          · rw [if_neg c70] at h
            refine lv_iload hx hb dX10_entry_86 (lv_at hl 0 rfl) ?_
            obtain ⟨rfl, rfl⟩ := Prod.mk.inj (Option.some.inj h)
            exact g_iret hx hb hr hlocks hK hlo hG ⟨rfl, rfl⟩ dX10_entry_88
          · rw [if_pos c70] at h
            refine lv_aload_n hx hb dX10_entry_73 rfl (lv_at hl 1 rfl) ?_
            refine lv_iload_n hx hb dX10_entry_74 rfl (lv_at hl 2 rfl) ?_
            refine lv_iconst (v := (5 : Int32)) hx hb dX10_entry_75 (by decide) ?_
            refine lv_iconst (v := (2 : Int32)) hx hb dX10_entry_76 (by decide) ?_
            refine lv_iload_n hx hb dX10_entry_77 rfl (lv_at hl 3 rfl) ?_
            refine lv_imul hx hb dX10_entry_78 ?_
            refine lv_iadd hx hb dX10_entry_79 ?_
            obtain ⟨u80, i80, h⟩ := Option.bind_eq_some_iff.mp h
            obtain ⟨v80, e80, h⟩ := Option.bind_eq_some_iff.mp h
            refine g_cVi (As := [.int bx1, .int ((5 : Int32) + ((2 : Int32) * bx2))]) (rest := []) (n := 2) hx hb hml hown hts hK hlo hG (m_X10_of l dd cT lo q24.1 ba0 bx1 ((5 : Int32) + ((2 : Int32) * bx2)) e80) qM_X10_218 qI_yX10_of qS_X10_yX10_of qN_X10 qC_yX10_of (by decide +kernel) ⟨Nat.le_of_ble_eq_true rfl, Nat.le_of_ble_eq_true rfl⟩ (by rfl) i80 rfl hl.1 rfl (Nat.le_of_ble_eq_true rfl) dX10_entry_80 ⟨Nat.le_of_ble_eq_true rfl, Nat.le_of_ble_eq_true rfl⟩ (fun H locs hG => ?_)
            refine lv_goto (tgt := 88) hx hb dX10_entry_83 (by decide) ?_
            obtain ⟨rfl, rfl⟩ := Prod.mk.inj (Option.some.inj h)
            exact g_iret hx hb hr hlocks hK hlo hG ⟨rfl, rfl⟩ dX10_entry_88
      · rw [if_pos c45] at h
        refine lv_iconst (v := (-1 : Int32)) hx hb dX10_entry_48 (by decide) ?_
        obtain ⟨rfl, rfl⟩ := Prod.mk.inj (Option.some.inj h)
        exact g_iret hx hb hr hlocks hK hlo hG ⟨rfl, rfl⟩ dX10_entry_49
    · rw [if_neg c27] at h
      refine lv_iconst (v := (0 : Int32)) hx hb dX10_entry_30 (by decide) ?_
      obtain ⟨rfl, rfl⟩ := Prod.mk.inj (Option.some.inj h)
      exact g_iret hx hb hr hlocks hK hlo hG ⟨rfl, rfl⟩ dX10_entry_31
  unfold f_X10_entry at h
  refine lv_aload_n hx hb dX10_entry_0 rfl (lv_at hl 0 rfl) ?_
  refine lv_iload_n hx hb dX10_entry_1 rfl (lv_at hl 1 rfl) ?_
  obtain ⟨u2, i2, h⟩ := Option.bind_eq_some_iff.mp h
  obtain ⟨q2, e2, h⟩ := Option.bind_eq_some_iff.mp h
  refine g_cVi (As := [.int x1]) (rest := []) (n := 1) hx hb hml hown hts hK hlo hG (m_X10_noSession l dd cT lo G a0 x1 e2) qM_X10_320 qI_yX10_noSession qS_X10_yX10_noSession qN_X10 qC_yX10_noSession (by decide +kernel) ⟨Nat.le_of_ble_eq_true rfl, Nat.le_of_ble_eq_true rfl⟩ (by rfl) i2 rfl hl.1 rfl (Nat.le_of_ble_eq_true rfl) dX10_entry_2 ⟨Nat.le_of_ble_eq_true rfl, Nat.le_of_ble_eq_true rfl⟩ (fun H locs hG => ?_)
  refine lv_if_ne (tgt := 30) hx hb dX10_entry_5 (by decide) (fun c5 => ?_) (fun c5 => ?_)
  · rw [if_neg c5] at h
    refine lv_iconst (v := (0 : Int32)) hx hb dX10_entry_30 (by decide) ?_
    obtain ⟨rfl, rfl⟩ := Prod.mk.inj (Option.some.inj h)
    exact g_iret hx hb hr hlocks hK hlo hG ⟨rfl, rfl⟩ dX10_entry_31
  · rw [if_pos c5] at h
    refine lv_aload_n hx hb dX10_entry_8 rfl (lv_at hl 0 rfl) ?_
    refine lv_iload_n hx hb dX10_entry_9 rfl (lv_at hl 3 rfl) ?_
    refine lv_iconst (v := (0 : Int32)) hx hb dX10_entry_10 (by decide) ?_
    refine lv_iconst (v := (4 : Int32)) hx hb dX10_entry_11 (by decide) ?_
    obtain ⟨v12, e12, h⟩ := Option.bind_eq_some_iff.mp h
    refine g_cSi (As := [.int x3, .int (0 : Int32), .int (4 : Int32)]) (rest := [.ref a0]) (n := 3) hx hb hml hown hts hK hlo hG (m_X10_within l dd cT lo q2.1 x3 (0 : Int32) (4 : Int32) e12) qM_X10_74 qT_yX10_within qN_X10 qC_yX10_within (by decide +kernel) ⟨Nat.le_of_ble_eq_true rfl, Nat.le_of_ble_eq_true rfl⟩ rfl hl.1 rfl (Nat.le_of_ble_eq_true rfl) dX10_entry_12 ⟨Nat.le_of_ble_eq_true rfl, Nat.le_of_ble_eq_true rfl⟩ (fun H locs hG => ?_)
    refine lv_if_ne (tgt := 22) hx hb dX10_entry_15 (by decide) (fun c15 => ?_) (fun c15 => ?_)
    · rw [if_neg c15] at h
      refine lv_iconst (v := (0 : Int32)) hx hb dX10_entry_22 (by decide) ?_
      exact h23 q2.1 a0 x1 x2 x3 a0 (0 : Int32) _ _ hG _ (lv_sub hl [0, 1, 2, 3] rfl) h
    · rw [if_pos c15] at h
      refine lv_iconst (v := (1 : Int32)) hx hb dX10_entry_18 (by decide) ?_
      refine lv_goto (tgt := 23) hx hb dX10_entry_19 (by decide) ?_
      exact h23 q2.1 a0 x1 x2 x3 a0 (1 : Int32) _ _ hG _ (lv_sub hl [0, 1, 2, 3] rfl) h
def f_X10_versionsOf_L4 (G : gH) : Nat → Nat → Int32 → Int32 → Int32 → Option Int32
  | 0, _, _, _, _ => none
  | n + 1, ba0, bx1, bx2, bx3 =>
    (g_r G ba0 10 1).bind fun v6 =>
    (g_ald 0 G v6 (6 : Int32)).bind fun v11 =>
    if v11 ≤ bx3 then
    some bx2
    else
    (g_ob G ba0 10).bind fun u19 =>
    (f_X10_ofVersion G ba0 bx3 (0 : Int32)).bind fun v19 =>
    if v19 = bx1 then
    f_X10_versionsOf_L4 G n ba0 bx1 (bx2 + (1 : Int32)) (bx3 + (1 : Int32))
    else
    f_X10_versionsOf_L4 G n ba0 bx1 (bx2 + (0 : Int32)) (bx3 + (1 : Int32))
def f_X10_versionsOf (G : gH) (a0 : Nat) (x1 : Int32) : Option Int32 :=
    f_X10_versionsOf_L4 G g_N a0 x1 (0 : Int32) (0 : Int32)
set_option maxRecDepth 20000 in
set_option maxHeartbeats 4000000 in
theorem m_X10_versionsOf (l : Launch) (dd : va_G) (cT : Nat → ClassId) (lo : Nat) (G : gH) (a0 : Nat) (x1 : Int32) {rz : Int32} (h : f_X10_versionsOf G a0 x1 = some rz) : Met l yX10_versionsOf (Cond.code yX10_versionsOf cX10_versionsOf 4 (some .int) :: wsL_law) (g_rm 1 22 0 0) (va_Pc [.ref a0, .int x1] (g_Pre lo dd cT G)) (va_Qi (g_is rz G) (g_Pre lo dd cT) (g_A lo)) 0 0 (g_A lo) := by
  refine g_start RX10 rfl (by decide) (Nat.le_of_ble_eq_true rfl) ?_
  intro p e s m below meth c hx hb hr hlocks hml hown hnm hts hK hG hlo ls hl
  have hl : lv_has ls 4 [(0, .ref a0), (1, .int x1)] := hl
  have hG : g_S lo dd cT s s.heap [] G := hG
  have h4 : ∀ n : Nat, ∀ (ba0 : Nat) (bx1 : Int32) (bx2 : Int32) (bx3 : Int32), ∀ (H : Heap) (locs : List Loc), g_S lo dd cT s H locs G → ∀ ls : Array Slot, lv_has ls 4 [(0, .ref ba0), (1, .int bx1), (2, .int bx2), (3, .int bx3)] → f_X10_versionsOf_L4 G n ba0 bx1 bx2 bx3 = some rz → W p l e (g_rm 1 22 0 0) s m ([.ref a0, .int x1] : List Value).toArray below meth c H locs 0 0 (MQ below (va_Qi (g_is rz G) (g_Pre lo dd cT) (g_A lo)) ([.ref a0, .int x1] : List Value).toArray s 0 0 (g_A lo)) (F0 m 4 ls []) := by
    intro n
    induction n with
    | zero =>
      intro ba0 bx1 bx2 bx3 H locs hG ls hl h
      cases (show (none : Option Int32) = some rz from h)
    | succ n ih =>
      intro ba0 bx1 bx2 bx3 H locs hG ls hl h
      rw [f_X10_versionsOf_L4] at h
      refine lv_iload_n hx hb dX10_versionsOf_4 rfl (lv_at hl 3 rfl) ?_
      refine lv_aload_n hx hb dX10_versionsOf_5 rfl (lv_at hl 0 rfl) ?_
      obtain ⟨v6, e6, h⟩ := Option.bind_eq_some_iff.mp h
      refine g_getr hx hb hts inlX10 hown hK hG (by rfl) 1 (by decide) qF_X10_7 e6 dX10_versionsOf_6 ?_
      refine lv_bipush (v := (6 : Int32)) hx hb dX10_versionsOf_9 (by decide) ?_
      obtain ⟨v11, e11, h⟩ := Option.bind_eq_some_iff.mp h
      refine g_iald hx hb hK hG e11 dX10_versionsOf_11 ?_
      refine lv_icmp_ge (tgt := 39) hx hb dX10_versionsOf_12 (by decide) (fun c12 => ?_) (fun c12 => ?_)
      · rw [if_pos c12] at h
        refine lv_iload_n hx hb dX10_versionsOf_39 rfl (lv_at hl 2 rfl) ?_
        obtain rfl := Option.some.inj h
        exact g_iret hx hb hr hlocks hK hlo hG ⟨rfl, rfl⟩ dX10_versionsOf_40
      · rw [if_neg c12] at h
        refine lv_iload_n hx hb dX10_versionsOf_15 rfl (lv_at hl 2 rfl) ?_
        refine lv_aload_n hx hb dX10_versionsOf_16 rfl (lv_at hl 0 rfl) ?_
        refine lv_iload_n hx hb dX10_versionsOf_17 rfl (lv_at hl 3 rfl) ?_
        refine lv_iconst (v := (0 : Int32)) hx hb dX10_versionsOf_18 (by decide) ?_
        obtain ⟨u19, i19, h⟩ := Option.bind_eq_some_iff.mp h
        obtain ⟨v19, e19, h⟩ := Option.bind_eq_some_iff.mp h
        refine g_cVi (As := [.int bx3, .int (0 : Int32)]) (rest := [.int bx2]) (n := 2) hx hb hml hown hts hK hlo hG (m_X10_ofVersion l dd cT lo G ba0 bx3 (0 : Int32) e19) qM_X10_249 qI_yX10_ofVersion qS_X10_yX10_ofVersion qN_X10 qC_yX10_ofVersion (by decide +kernel) ⟨Nat.le_of_ble_eq_true rfl, Nat.le_of_ble_eq_true rfl⟩ (by rfl) i19 rfl hl.1 rfl (Nat.le_of_ble_eq_true rfl) dX10_versionsOf_19 ⟨Nat.le_of_ble_eq_true rfl, Nat.le_of_ble_eq_true rfl⟩ (fun H locs hG => ?_)
        refine lv_iload_n hx hb dX10_versionsOf_22 rfl (lv_at hl 1 rfl) ?_
        refine lv_icmp_ne (tgt := 30) hx hb dX10_versionsOf_23 (by decide) (fun c23 => ?_) (fun c23 => ?_)
        · rw [if_neg c23] at h
          refine lv_iconst (v := (0 : Int32)) hx hb dX10_versionsOf_30 (by decide) ?_
          refine lv_iadd hx hb dX10_versionsOf_31 ?_
          refine lv_istore_n (lv' := [(2, .int (bx2 + (0 : Int32))), (0, .ref ba0), (1, .int bx1), (3, .int bx3)]) hx hb dX10_versionsOf_32 rfl hl (by decide) rfl (fun ls hl => ?_)
          refine lv_iinc (v := (bx3 + (1 : Int32))) (lv' := [(3, .int (bx3 + (1 : Int32))), (2, .int (bx2 + (0 : Int32))), (0, .ref ba0), (1, .int bx1)]) hx hb dX10_versionsOf_33 hl (k := 3) rfl rfl (by decide) rfl (fun ls hl => ?_)
          refine lv_goto (tgt := 4) hx hb dX10_versionsOf_36 (by decide) ?_
          exact ih ba0 bx1 (bx2 + (0 : Int32)) (bx3 + (1 : Int32)) _ _ hG _ (lv_sub hl [2, 3, 1, 0] rfl) h
        · rw [if_pos c23] at h
          refine lv_iconst (v := (1 : Int32)) hx hb dX10_versionsOf_26 (by decide) ?_
          refine lv_goto (tgt := 31) hx hb dX10_versionsOf_27 (by decide) ?_
          refine lv_iadd hx hb dX10_versionsOf_31 ?_
          refine lv_istore_n (lv' := [(2, .int (bx2 + (1 : Int32))), (0, .ref ba0), (1, .int bx1), (3, .int bx3)]) hx hb dX10_versionsOf_32 rfl hl (by decide) rfl (fun ls hl => ?_)
          refine lv_iinc (v := (bx3 + (1 : Int32))) (lv' := [(3, .int (bx3 + (1 : Int32))), (2, .int (bx2 + (1 : Int32))), (0, .ref ba0), (1, .int bx1)]) hx hb dX10_versionsOf_33 hl (k := 3) rfl rfl (by decide) rfl (fun ls hl => ?_)
          refine lv_goto (tgt := 4) hx hb dX10_versionsOf_36 (by decide) ?_
          exact ih ba0 bx1 (bx2 + (1 : Int32)) (bx3 + (1 : Int32)) _ _ hG _ (lv_sub hl [2, 3, 1, 0] rfl) h
  unfold f_X10_versionsOf at h
  refine lv_iconst (v := (0 : Int32)) hx hb dX10_versionsOf_0 (by decide) ?_
  refine lv_istore_n (lv' := [(2, .int (0 : Int32)), (0, .ref a0), (1, .int x1)]) hx hb dX10_versionsOf_1 rfl hl (by decide) rfl (fun ls hl => ?_)
  refine lv_iconst (v := (0 : Int32)) hx hb dX10_versionsOf_2 (by decide) ?_
  refine lv_istore_n (lv' := [(3, .int (0 : Int32)), (2, .int (0 : Int32)), (0, .ref a0), (1, .int x1)]) hx hb dX10_versionsOf_3 rfl hl (by decide) rfl (fun ls hl => ?_)
  exact h4 g_N a0 x1 (0 : Int32) (0 : Int32) _ _ hG _ (lv_sub hl [2, 3, 1, 0] rfl) h
def f_X10_file_J51 (G : gH) (ba0 : Nat) (bx1 : Int32) (bx2 : Int32) (z0 : Int32) : Option (gH × Int32) :=
    if bx2 = (0 : Int32) then
    if z0 = 0 then
    some (G, (0 : Int32))
    else
    some (G, (1 : Int32))
    else
    if bx2 = (1 : Int32) then
    if z0 = 0 then
    some (G, (0 : Int32))
    else
    (g_i G ba0 10 20).bind fun v108 =>
    (g_ob G ba0 10).bind fun u111 =>
    (f_X10_isReadable G ba0 v108).bind fun v111 =>
    if v111 = 0 then
    some (G, (0 : Int32))
    else
    some (G, (1 : Int32))
    else
    if bx2 = (2 : Int32) then
    (g_i G ba0 10 20).bind fun v124 =>
    some (G, v124)
    else
    if bx2 = (3 : Int32) then
    if z0 = 0 then
    some (G, (0 : Int32))
    else
    (g_i G ba0 10 20).bind fun v134 =>
    (g_ob G ba0 10).bind fun u138 =>
    (f_X10_ofVersion G ba0 v134 (2 : Int32)).bind fun v138 =>
    some (G, v138)
    else
    if bx2 = (4 : Int32) then
    if z0 = 0 then
    some (G, (-1 : Int32))
    else
    (g_i G ba0 10 20).bind fun v152 =>
    (g_ob G ba0 10).bind fun u156 =>
    (f_X10_ofVersion G ba0 v152 (3 : Int32)).bind fun v156 =>
    some (G, v156)
    else
    if bx2 = (5 : Int32) then
    (g_i G ba0 10 19).bind fun v165 =>
    some (G, v165)
    else
    (g_ob G ba0 10).bind fun u171 =>
    (f_X10_versionsOf G ba0 bx1).bind fun v171 =>
    some (G, v171)
def f_X10_file_J24 (G : gH) (ba0 : Nat) (bx1 : Int32) (bx2 : Int32) (z0 : Nat) (z1 : Int32) : Option (gH × Int32) :=
    (g_ob G z0 10).bind fun u25 =>
    (f_X10_throwsIf G z0 z1 (2 : Int32)).bind fun q25 =>
    if q25.2 = 0 then
    (g_ob q25.1 ba0 10).bind fun u35 =>
    (f_X10_finds q25.1 ba0 bx1).bind fun G35 =>
    (g_i G35 ba0 10 20).bind fun v39 =>
    if v39 = (-1 : Int32) then
    f_X10_file_J51 G35 ba0 bx1 bx2 (0 : Int32)
    else
    f_X10_file_J51 G35 ba0 bx1 bx2 (1 : Int32)
    else
    some (q25.1, (0 : Int32))
def f_X10_file (G : gH) (a0 : Nat) (x1 : Int32) (x2 : Int32) : Option (gH × Int32) :=
    (g_ob G a0 10).bind fun u2 =>
    (f_X10_noFile G a0 x1).bind fun q2 =>
    if q2.2 = 0 then
    (f_X10_within q2.1 x2 (0 : Int32) (6 : Int32)).bind fun v13 =>
    if v13 = 0 then
    f_X10_file_J24 q2.1 a0 x1 x2 a0 (1 : Int32)
    else
    f_X10_file_J24 q2.1 a0 x1 x2 a0 (0 : Int32)
    else
    some (q2.1, (0 : Int32))
set_option maxRecDepth 20000 in
set_option maxHeartbeats 4000000 in
theorem m_X10_file (l : Launch) (dd : va_G) (cT : Nat → ClassId) (lo : Nat) (G : gH) (a0 : Nat) (x1 : Int32) (x2 : Int32) {rz : Int32} {Gz : gH} (h : f_X10_file G a0 x1 x2 = some (Gz, rz)) : Met l yX10_file (Cond.code yX10_file cX10_file 4 (some .int) :: wsL_law) (g_rm 5 110 0 0) (va_Pc [.ref a0, .int x1, .int x2] (g_Pre lo dd cT G)) (va_Qi (g_is rz Gz) (g_Pre lo dd cT) (g_A lo)) 0 0 (g_A lo) := by
  refine g_start RX10 rfl (by decide) (Nat.le_of_ble_eq_true rfl) ?_
  intro p e s m below meth c hx hb hr hlocks hml hown hnm hts hK hG hlo ls hl
  have hl : lv_has ls 4 [(0, .ref a0), (1, .int x1), (2, .int x2)] := hl
  have hG : g_S lo dd cT s s.heap [] G := hG
  have h51 : ∀ (G : gH) (ba0 : Nat) (bx1 : Int32) (bx2 : Int32) (z0 : Int32), ∀ (H : Heap) (locs : List Loc), g_S lo dd cT s H locs G → ∀ ls : Array Slot, lv_has ls 4 [(0, .ref ba0), (1, .int bx1), (2, .int bx2)] → f_X10_file_J51 G ba0 bx1 bx2 z0 = some (Gz, rz) → W p l e (g_rm 5 110 0 0) s m ([.ref a0, .int x1, .int x2] : List Value).toArray below meth c H locs 0 0 (MQ below (va_Qi (g_is rz Gz) (g_Pre lo dd cT) (g_A lo)) ([.ref a0, .int x1, .int x2] : List Value).toArray s 0 0 (g_A lo)) (F0 m 51 ls [.int z0]) := by
    intro G ba0 bx1 bx2 z0 H locs hG ls hl h
    unfold f_X10_file_J51 at h
    refine lv_istore_n (lv' := [(3, .int z0), (0, .ref ba0), (1, .int bx1), (2, .int bx2)]) hx hb dX10_file_51 rfl hl (by decide) rfl (fun ls hl => ?_)
    refine lv_iload_n hx hb dX10_file_52 rfl (lv_at hl 3 rfl) ?_
    by_cases c53_0 : bx2 = (0 : Int32)
    · rw [if_pos c53_0] at h
      refine g_swIn (tgt := 92) hx hb dX10_file_53 (0 : Int32) c53_0 (by decide) (by decide) 39 (by decide) (by decide) ?_
      refine lv_iload_n hx hb dX10_file_92 rfl (lv_at hl 0 rfl) ?_
      refine lv_if_eq (tgt := 100) hx hb dX10_file_93 (by decide) (fun c93 => ?_) (fun c93 => ?_)
      · rw [if_pos c93] at h
        refine lv_iconst (v := (0 : Int32)) hx hb dX10_file_100 (by decide) ?_
        obtain ⟨rfl, rfl⟩ := Prod.mk.inj (Option.some.inj h)
        exact g_iret hx hb hr hlocks hK hlo hG ⟨rfl, rfl⟩ dX10_file_101
      · rw [if_neg c93] at h
        refine lv_iconst (v := (1 : Int32)) hx hb dX10_file_96 (by decide) ?_
        refine lv_goto (tgt := 101) hx hb dX10_file_97 (by decide) ?_
        obtain ⟨rfl, rfl⟩ := Prod.mk.inj (Option.some.inj h)
        exact g_iret hx hb hr hlocks hK hlo hG ⟨rfl, rfl⟩ dX10_file_101
    rw [if_neg c53_0] at h
    by_cases c53_1 : bx2 = (1 : Int32)
    · rw [if_pos c53_1] at h
      refine g_swIn (tgt := 102) hx hb dX10_file_53 (1 : Int32) c53_1 (by decide) (by decide) 49 (by decide) (by decide) ?_
      refine lv_iload_n hx hb dX10_file_102 rfl (lv_at hl 0 rfl) ?_
      refine lv_if_eq (tgt := 121) hx hb dX10_file_103 (by decide) (fun c103 => ?_) (fun c103 => ?_)
      · rw [if_pos c103] at h
        refine lv_iconst (v := (0 : Int32)) hx hb dX10_file_121 (by decide) ?_
        obtain ⟨rfl, rfl⟩ := Prod.mk.inj (Option.some.inj h)
        exact g_iret hx hb hr hlocks hK hlo hG ⟨rfl, rfl⟩ dX10_file_122
      · rw [if_neg c103] at h
        refine lv_aload_n hx hb dX10_file_106 rfl (lv_at hl 1 rfl) ?_
        refine lv_aload_n hx hb dX10_file_107 rfl (lv_at hl 1 rfl) ?_
        obtain ⟨v108, e108, h⟩ := Option.bind_eq_some_iff.mp h
        refine g_geti hx hb hts inlX10 hown hK hG (by rfl) 20 (by decide) qF_X10_236 e108 dX10_file_108 ?_
        obtain ⟨u111, i111, h⟩ := Option.bind_eq_some_iff.mp h
        obtain ⟨v111, e111, h⟩ := Option.bind_eq_some_iff.mp h
        refine g_cVi (As := [.int v108]) (rest := []) (n := 1) hx hb hml hown hts hK hlo hG (m_X10_isReadable l dd cT lo G ba0 v108 e111) qM_X10_252 qI_yX10_isReadable qS_X10_yX10_isReadable qN_X10 qC_yX10_isReadable (by decide +kernel) ⟨Nat.le_of_ble_eq_true rfl, Nat.le_of_ble_eq_true rfl⟩ (by rfl) i111 rfl hl.1 rfl (Nat.le_of_ble_eq_true rfl) dX10_file_111 ⟨Nat.le_of_ble_eq_true rfl, Nat.le_of_ble_eq_true rfl⟩ (fun H locs hG => ?_)
        refine lv_if_eq (tgt := 121) hx hb dX10_file_114 (by decide) (fun c114 => ?_) (fun c114 => ?_)
        · rw [if_pos c114] at h
          refine lv_iconst (v := (0 : Int32)) hx hb dX10_file_121 (by decide) ?_
          obtain ⟨rfl, rfl⟩ := Prod.mk.inj (Option.some.inj h)
          exact g_iret hx hb hr hlocks hK hlo hG ⟨rfl, rfl⟩ dX10_file_122
        · rw [if_neg c114] at h
          refine lv_iconst (v := (1 : Int32)) hx hb dX10_file_117 (by decide) ?_
          refine lv_goto (tgt := 122) hx hb dX10_file_118 (by decide) ?_
          obtain ⟨rfl, rfl⟩ := Prod.mk.inj (Option.some.inj h)
          exact g_iret hx hb hr hlocks hK hlo hG ⟨rfl, rfl⟩ dX10_file_122
    rw [if_neg c53_1] at h
    by_cases c53_2 : bx2 = (2 : Int32)
    · rw [if_pos c53_2] at h
      refine g_swIn (tgt := 123) hx hb dX10_file_53 (2 : Int32) c53_2 (by decide) (by decide) 70 (by decide) (by decide) ?_
      refine lv_aload_n hx hb dX10_file_123 rfl (lv_at hl 1 rfl) ?_
      obtain ⟨v124, e124, h⟩ := Option.bind_eq_some_iff.mp h
      refine g_geti hx hb hts inlX10 hown hK hG (by rfl) 20 (by decide) qF_X10_236 e124 dX10_file_124 ?_
      obtain ⟨rfl, rfl⟩ := Prod.mk.inj (Option.some.inj h)
      exact g_iret hx hb hr hlocks hK hlo hG ⟨rfl, rfl⟩ dX10_file_127
    rw [if_neg c53_2] at h
    by_cases c53_3 : bx2 = (3 : Int32)
    · rw [if_pos c53_3] at h
      refine g_swIn (tgt := 128) hx hb dX10_file_53 (3 : Int32) c53_3 (by decide) (by decide) 75 (by decide) (by decide) ?_
      refine lv_iload_n hx hb dX10_file_128 rfl (lv_at hl 0 rfl) ?_
      refine lv_if_eq (tgt := 144) hx hb dX10_file_129 (by decide) (fun c129 => ?_) (fun c129 => ?_)
      · rw [if_pos c129] at h
        refine lv_iconst (v := (0 : Int32)) hx hb dX10_file_144 (by decide) ?_
        obtain ⟨rfl, rfl⟩ := Prod.mk.inj (Option.some.inj h)
        exact g_iret hx hb hr hlocks hK hlo hG ⟨rfl, rfl⟩ dX10_file_145
      · rw [if_neg c129] at h
        refine lv_aload_n hx hb dX10_file_132 rfl (lv_at hl 1 rfl) ?_
        refine lv_aload_n hx hb dX10_file_133 rfl (lv_at hl 1 rfl) ?_
        obtain ⟨v134, e134, h⟩ := Option.bind_eq_some_iff.mp h
        refine g_geti hx hb hts inlX10 hown hK hG (by rfl) 20 (by decide) qF_X10_236 e134 dX10_file_134 ?_
        refine lv_iconst (v := (2 : Int32)) hx hb dX10_file_137 (by decide) ?_
        obtain ⟨u138, i138, h⟩ := Option.bind_eq_some_iff.mp h
        obtain ⟨v138, e138, h⟩ := Option.bind_eq_some_iff.mp h
        refine g_cVi (As := [.int v134, .int (2 : Int32)]) (rest := []) (n := 2) hx hb hml hown hts hK hlo hG (m_X10_ofVersion l dd cT lo G ba0 v134 (2 : Int32) e138) qM_X10_249 qI_yX10_ofVersion qS_X10_yX10_ofVersion qN_X10 qC_yX10_ofVersion (by decide +kernel) ⟨Nat.le_of_ble_eq_true rfl, Nat.le_of_ble_eq_true rfl⟩ (by rfl) i138 rfl hl.1 rfl (Nat.le_of_ble_eq_true rfl) dX10_file_138 ⟨Nat.le_of_ble_eq_true rfl, Nat.le_of_ble_eq_true rfl⟩ (fun H locs hG => ?_)
        refine lv_goto (tgt := 145) hx hb dX10_file_141 (by decide) ?_
        obtain ⟨rfl, rfl⟩ := Prod.mk.inj (Option.some.inj h)
        exact g_iret hx hb hr hlocks hK hlo hG ⟨rfl, rfl⟩ dX10_file_145
    rw [if_neg c53_3] at h
    by_cases c53_4 : bx2 = (4 : Int32)
    · rw [if_pos c53_4] at h
      refine g_swIn (tgt := 146) hx hb dX10_file_53 (4 : Int32) c53_4 (by decide) (by decide) 93 (by decide) (by decide) ?_
      refine lv_iload_n hx hb dX10_file_146 rfl (lv_at hl 0 rfl) ?_
      refine lv_if_eq (tgt := 162) hx hb dX10_file_147 (by decide) (fun c147 => ?_) (fun c147 => ?_)
      · rw [if_pos c147] at h
        refine lv_iconst (v := (-1 : Int32)) hx hb dX10_file_162 (by decide) ?_
        obtain ⟨rfl, rfl⟩ := Prod.mk.inj (Option.some.inj h)
        exact g_iret hx hb hr hlocks hK hlo hG ⟨rfl, rfl⟩ dX10_file_163
      · rw [if_neg c147] at h
        refine lv_aload_n hx hb dX10_file_150 rfl (lv_at hl 1 rfl) ?_
        refine lv_aload_n hx hb dX10_file_151 rfl (lv_at hl 1 rfl) ?_
        obtain ⟨v152, e152, h⟩ := Option.bind_eq_some_iff.mp h
        refine g_geti hx hb hts inlX10 hown hK hG (by rfl) 20 (by decide) qF_X10_236 e152 dX10_file_152 ?_
        refine lv_iconst (v := (3 : Int32)) hx hb dX10_file_155 (by decide) ?_
        obtain ⟨u156, i156, h⟩ := Option.bind_eq_some_iff.mp h
        obtain ⟨v156, e156, h⟩ := Option.bind_eq_some_iff.mp h
        refine g_cVi (As := [.int v152, .int (3 : Int32)]) (rest := []) (n := 2) hx hb hml hown hts hK hlo hG (m_X10_ofVersion l dd cT lo G ba0 v152 (3 : Int32) e156) qM_X10_249 qI_yX10_ofVersion qS_X10_yX10_ofVersion qN_X10 qC_yX10_ofVersion (by decide +kernel) ⟨Nat.le_of_ble_eq_true rfl, Nat.le_of_ble_eq_true rfl⟩ (by rfl) i156 rfl hl.1 rfl (Nat.le_of_ble_eq_true rfl) dX10_file_156 ⟨Nat.le_of_ble_eq_true rfl, Nat.le_of_ble_eq_true rfl⟩ (fun H locs hG => ?_)
        refine lv_goto (tgt := 163) hx hb dX10_file_159 (by decide) ?_
        obtain ⟨rfl, rfl⟩ := Prod.mk.inj (Option.some.inj h)
        exact g_iret hx hb hr hlocks hK hlo hG ⟨rfl, rfl⟩ dX10_file_163
    rw [if_neg c53_4] at h
    by_cases c53_5 : bx2 = (5 : Int32)
    · rw [if_pos c53_5] at h
      refine g_swIn (tgt := 164) hx hb dX10_file_53 (5 : Int32) c53_5 (by decide) (by decide) 111 (by decide) (by decide) ?_
      refine lv_aload_n hx hb dX10_file_164 rfl (lv_at hl 1 rfl) ?_
      obtain ⟨v165, e165, h⟩ := Option.bind_eq_some_iff.mp h
      refine g_geti hx hb hts inlX10 hown hK hG (by rfl) 19 (by decide) qF_X10_233 e165 dX10_file_165 ?_
      obtain ⟨rfl, rfl⟩ := Prod.mk.inj (Option.some.inj h)
      exact g_iret hx hb hr hlocks hK hlo hG ⟨rfl, rfl⟩ dX10_file_168
    rw [if_neg c53_5] at h
    have z53 : bx2.toInt < 0 ∨ 5 < bx2.toInt := by
      have y0 : ¬ bx2.toInt = 0 := fun w => c53_0 (Int32.toInt_inj.mp (by rw [w]; rfl))
      have y1 : ¬ bx2.toInt = 1 := fun w => c53_1 (Int32.toInt_inj.mp (by rw [w]; rfl))
      have y2 : ¬ bx2.toInt = 2 := fun w => c53_2 (Int32.toInt_inj.mp (by rw [w]; rfl))
      have y3 : ¬ bx2.toInt = 3 := fun w => c53_3 (Int32.toInt_inj.mp (by rw [w]; rfl))
      have y4 : ¬ bx2.toInt = 4 := fun w => c53_4 (Int32.toInt_inj.mp (by rw [w]; rfl))
      have y5 : ¬ bx2.toInt = 5 := fun w => c53_5 (Int32.toInt_inj.mp (by rw [w]; rfl))
      omega
    refine lv_tableOut (tgt := 169) hx hb dX10_file_53 z53 (by decide) ?_
    refine lv_aload_n hx hb dX10_file_169 rfl (lv_at hl 1 rfl) ?_
    refine lv_iload_n hx hb dX10_file_170 rfl (lv_at hl 2 rfl) ?_
    obtain ⟨u171, i171, h⟩ := Option.bind_eq_some_iff.mp h
    obtain ⟨v171, e171, h⟩ := Option.bind_eq_some_iff.mp h
    refine g_cVi (As := [.int bx1]) (rest := []) (n := 1) hx hb hml hown hts hK hlo hG (m_X10_versionsOf l dd cT lo G ba0 bx1 e171) qM_X10_333 qI_yX10_versionsOf qS_X10_yX10_versionsOf qN_X10 qC_yX10_versionsOf (by decide +kernel) ⟨Nat.le_of_ble_eq_true rfl, Nat.le_of_ble_eq_true rfl⟩ (by rfl) i171 rfl hl.1 rfl (Nat.le_of_ble_eq_true rfl) dX10_file_171 ⟨Nat.le_of_ble_eq_true rfl, Nat.le_of_ble_eq_true rfl⟩ (fun H locs hG => ?_)
    obtain ⟨rfl, rfl⟩ := Prod.mk.inj (Option.some.inj h)
    exact g_iret hx hb hr hlocks hK hlo hG ⟨rfl, rfl⟩ dX10_file_174
  have h24 : ∀ (G : gH) (ba0 : Nat) (bx1 : Int32) (bx2 : Int32) (z0 : Nat) (z1 : Int32), ∀ (H : Heap) (locs : List Loc), g_S lo dd cT s H locs G → ∀ ls : Array Slot, lv_has ls 4 [(0, .ref ba0), (1, .int bx1), (2, .int bx2)] → f_X10_file_J24 G ba0 bx1 bx2 z0 z1 = some (Gz, rz) → W p l e (g_rm 5 110 0 0) s m ([.ref a0, .int x1, .int x2] : List Value).toArray below meth c H locs 0 0 (MQ below (va_Qi (g_is rz Gz) (g_Pre lo dd cT) (g_A lo)) ([.ref a0, .int x1, .int x2] : List Value).toArray s 0 0 (g_A lo)) (F0 m 24 ls [.int z1, .ref z0]) := by
    intro G ba0 bx1 bx2 z0 z1 H locs hG ls hl h
    unfold f_X10_file_J24 at h
    refine lv_iconst (v := (2 : Int32)) hx hb dX10_file_24 (by decide) ?_
    obtain ⟨u25, i25, h⟩ := Option.bind_eq_some_iff.mp h
    obtain ⟨q25, e25, h⟩ := Option.bind_eq_some_iff.mp h
    refine g_cVi (As := [.int z1, .int (2 : Int32)]) (rest := []) (n := 2) hx hb hml hown hts hK hlo hG (m_X10_throwsIf l dd cT lo G z0 z1 (2 : Int32) e25) qM_X10_188 qI_yX10_throwsIf qS_X10_yX10_throwsIf qN_X10 qC_yX10_throwsIf (by decide +kernel) ⟨Nat.le_of_ble_eq_true rfl, Nat.le_of_ble_eq_true rfl⟩ (by rfl) i25 rfl hl.1 rfl (Nat.le_of_ble_eq_true rfl) dX10_file_25 ⟨Nat.le_of_ble_eq_true rfl, Nat.le_of_ble_eq_true rfl⟩ (fun H locs hG => ?_)
    refine lv_if_eq (tgt := 33) hx hb dX10_file_28 (by decide) (fun c28 => ?_) (fun c28 => ?_)
    · rw [if_pos c28] at h
      refine lv_aload_n hx hb dX10_file_33 rfl (lv_at hl 0 rfl) ?_
      refine lv_iload_n hx hb dX10_file_34 rfl (lv_at hl 1 rfl) ?_
      obtain ⟨u35, i35, h⟩ := Option.bind_eq_some_iff.mp h
      obtain ⟨G35, e35, h⟩ := Option.bind_eq_some_iff.mp h
      refine g_cVv (As := [.int bx1]) (rest := []) (n := 1) hx hb hml hown hts hK hlo hG (m_X10_finds l dd cT lo q25.1 ba0 bx1 e35) qM_X10_267 qI_yX10_finds qS_X10_yX10_finds qN_X10 qC_yX10_finds (by decide +kernel) ⟨Nat.le_of_ble_eq_true rfl, Nat.le_of_ble_eq_true rfl⟩ (by rfl) i35 rfl hl.1 rfl (Nat.le_of_ble_eq_true rfl) dX10_file_35 ⟨Nat.le_of_ble_eq_true rfl, Nat.le_of_ble_eq_true rfl⟩ (fun H locs hG => ?_)
      refine lv_aload_n hx hb dX10_file_38 rfl (lv_at hl 0 rfl) ?_
      obtain ⟨v39, e39, h⟩ := Option.bind_eq_some_iff.mp h
      refine g_geti hx hb hts inlX10 hown hK hG (by rfl) 20 (by decide) qF_X10_236 e39 dX10_file_39 ?_
      refine lv_iconst (v := (-1 : Int32)) hx hb dX10_file_42 (by decide) ?_
      refine lv_icmp_eq (tgt := 50) hx hb dX10_file_43 (by decide) (fun c43 => ?_) (fun c43 => ?_)
      · rw [if_pos c43] at h
        refine lv_iconst (v := (0 : Int32)) hx hb dX10_file_50 (by decide) ?_
        exact h51 G35 ba0 bx1 bx2 (0 : Int32) _ _ hG _ (lv_sub hl [0, 1, 2] rfl) h
      · rw [if_neg c43] at h
        refine lv_iconst (v := (1 : Int32)) hx hb dX10_file_46 (by decide) ?_
        refine lv_goto (tgt := 51) hx hb dX10_file_47 (by decide) ?_
        exact h51 G35 ba0 bx1 bx2 (1 : Int32) _ _ hG _ (lv_sub hl [0, 1, 2] rfl) h
    · rw [if_neg c28] at h
      refine lv_iconst (v := (0 : Int32)) hx hb dX10_file_31 (by decide) ?_
      obtain ⟨rfl, rfl⟩ := Prod.mk.inj (Option.some.inj h)
      exact g_iret hx hb hr hlocks hK hlo hG ⟨rfl, rfl⟩ dX10_file_32
  unfold f_X10_file at h
  refine lv_aload_n hx hb dX10_file_0 rfl (lv_at hl 0 rfl) ?_
  refine lv_iload_n hx hb dX10_file_1 rfl (lv_at hl 1 rfl) ?_
  obtain ⟨u2, i2, h⟩ := Option.bind_eq_some_iff.mp h
  obtain ⟨q2, e2, h⟩ := Option.bind_eq_some_iff.mp h
  refine g_cVi (As := [.int x1]) (rest := []) (n := 1) hx hb hml hown hts hK hlo hG (m_X10_noFile l dd cT lo G a0 x1 e2) qM_X10_330 qI_yX10_noFile qS_X10_yX10_noFile qN_X10 qC_yX10_noFile (by decide +kernel) ⟨Nat.le_of_ble_eq_true rfl, Nat.le_of_ble_eq_true rfl⟩ (by rfl) i2 rfl hl.1 rfl (Nat.le_of_ble_eq_true rfl) dX10_file_2 ⟨Nat.le_of_ble_eq_true rfl, Nat.le_of_ble_eq_true rfl⟩ (fun H locs hG => ?_)
  refine lv_if_ne (tgt := 31) hx hb dX10_file_5 (by decide) (fun c5 => ?_) (fun c5 => ?_)
  · rw [if_neg c5] at h
    refine lv_iconst (v := (0 : Int32)) hx hb dX10_file_31 (by decide) ?_
    obtain ⟨rfl, rfl⟩ := Prod.mk.inj (Option.some.inj h)
    exact g_iret hx hb hr hlocks hK hlo hG ⟨rfl, rfl⟩ dX10_file_32
  · rw [if_pos c5] at h
    refine lv_aload_n hx hb dX10_file_8 rfl (lv_at hl 0 rfl) ?_
    refine lv_iload_n hx hb dX10_file_9 rfl (lv_at hl 2 rfl) ?_
    refine lv_iconst (v := (0 : Int32)) hx hb dX10_file_10 (by decide) ?_
    refine lv_bipush (v := (6 : Int32)) hx hb dX10_file_11 (by decide) ?_
    obtain ⟨v13, e13, h⟩ := Option.bind_eq_some_iff.mp h
    refine g_cSi (As := [.int x2, .int (0 : Int32), .int (6 : Int32)]) (rest := [.ref a0]) (n := 3) hx hb hml hown hts hK hlo hG (m_X10_within l dd cT lo q2.1 x2 (0 : Int32) (6 : Int32) e13) qM_X10_74 qT_yX10_within qN_X10 qC_yX10_within (by decide +kernel) ⟨Nat.le_of_ble_eq_true rfl, Nat.le_of_ble_eq_true rfl⟩ rfl hl.1 rfl (Nat.le_of_ble_eq_true rfl) dX10_file_13 ⟨Nat.le_of_ble_eq_true rfl, Nat.le_of_ble_eq_true rfl⟩ (fun H locs hG => ?_)
    refine lv_if_ne (tgt := 23) hx hb dX10_file_16 (by decide) (fun c16 => ?_) (fun c16 => ?_)
    · rw [if_neg c16] at h
      refine lv_iconst (v := (0 : Int32)) hx hb dX10_file_23 (by decide) ?_
      exact h24 q2.1 a0 x1 x2 a0 (0 : Int32) _ _ hG _ (lv_sub hl [0, 1, 2] rfl) h
    · rw [if_pos c16] at h
      refine lv_iconst (v := (1 : Int32)) hx hb dX10_file_19 (by decide) ?_
      refine lv_goto (tgt := 24) hx hb dX10_file_20 (by decide) ?_
      exact h24 q2.1 a0 x1 x2 a0 (1 : Int32) _ _ hG _ (lv_sub hl [0, 1, 2] rfl) h
def f_X10_where_J47 (G : gH) (ba0 : Nat) (bx2 : Int32) (z0 : Int32) : Option (gH × Int32) :=
    if z0 = 0 then
    some (G, (-1 : Int32))
    else
    (g_i G ba0 10 20).bind fun v55 =>
    (g_ob G ba0 10).bind fun u59 =>
    (f_X10_ofVersion G ba0 v55 (1 : Int32)).bind fun v59 =>
    (g_ob G ba0 10).bind fun u64 =>
    (f_X10_placeOf G ba0 (v59 + bx2)).bind fun v64 =>
    some (G, v64)
def f_X10_where (G : gH) (a0 : Nat) (x1 : Int32) (x2 : Int32) : Option (gH × Int32) :=
    (g_ob G a0 10).bind fun u2 =>
    (f_X10_noFile G a0 x1).bind fun q2 =>
    if q2.2 = 0 then
    (g_ob q2.1 a0 10).bind fun u12 =>
    (f_X10_finds q2.1 a0 x1).bind fun G12 =>
    (g_i G12 a0 10 20).bind fun v16 =>
    if v16 = (-1 : Int32) then
    f_X10_where_J47 G12 a0 x2 (0 : Int32)
    else
    (g_i G12 a0 10 20).bind fun v27 =>
    (g_ob G12 a0 10).bind fun u31 =>
    (f_X10_ofVersion G12 a0 v27 (2 : Int32)).bind fun v31 =>
    (f_X10_within G12 x2 (0 : Int32) (v31 - (1 : Int32))).bind fun v36 =>
    if v36 = 0 then
    f_X10_where_J47 G12 a0 x2 (0 : Int32)
    else
    f_X10_where_J47 G12 a0 x2 (1 : Int32)
    else
    some (q2.1, (0 : Int32))
set_option maxRecDepth 20000 in
set_option maxHeartbeats 4000000 in
theorem m_X10_where (l : Launch) (dd : va_G) (cT : Nat → ClassId) (lo : Nat) (G : gH) (a0 : Nat) (x1 : Int32) (x2 : Int32) {rz : Int32} {Gz : gH} (h : f_X10_where G a0 x1 x2 = some (Gz, rz)) : Met l yX10_where (Cond.code yX10_where cX10_where 4 (some .int) :: wsL_law) (g_rm 5 110 0 0) (va_Pc [.ref a0, .int x1, .int x2] (g_Pre lo dd cT G)) (va_Qi (g_is rz Gz) (g_Pre lo dd cT) (g_A lo)) 0 0 (g_A lo) := by
  refine g_start RX10 rfl (by decide) (Nat.le_of_ble_eq_true rfl) ?_
  intro p e s m below meth c hx hb hr hlocks hml hown hnm hts hK hG hlo ls hl
  have hl : lv_has ls 4 [(0, .ref a0), (1, .int x1), (2, .int x2)] := hl
  have hG : g_S lo dd cT s s.heap [] G := hG
  have h47 : ∀ (G : gH) (ba0 : Nat) (bx2 : Int32) (z0 : Int32), ∀ (H : Heap) (locs : List Loc), g_S lo dd cT s H locs G → ∀ ls : Array Slot, lv_has ls 4 [(0, .ref ba0), (2, .int bx2)] → f_X10_where_J47 G ba0 bx2 z0 = some (Gz, rz) → W p l e (g_rm 5 110 0 0) s m ([.ref a0, .int x1, .int x2] : List Value).toArray below meth c H locs 0 0 (MQ below (va_Qi (g_is rz Gz) (g_Pre lo dd cT) (g_A lo)) ([.ref a0, .int x1, .int x2] : List Value).toArray s 0 0 (g_A lo)) (F0 m 47 ls [.int z0]) := by
    intro G ba0 bx2 z0 H locs hG ls hl h
    unfold f_X10_where_J47 at h
    refine lv_istore_n (lv' := [(3, .int z0), (0, .ref ba0), (2, .int bx2)]) hx hb dX10_where_47 rfl hl (by decide) rfl (fun ls hl => ?_)
    refine lv_iload_n hx hb dX10_where_48 rfl (lv_at hl 0 rfl) ?_
    refine lv_if_eq (tgt := 70) hx hb dX10_where_49 (by decide) (fun c49 => ?_) (fun c49 => ?_)
    · rw [if_pos c49] at h
      refine lv_iconst (v := (-1 : Int32)) hx hb dX10_where_70 (by decide) ?_
      obtain ⟨rfl, rfl⟩ := Prod.mk.inj (Option.some.inj h)
      exact g_iret hx hb hr hlocks hK hlo hG ⟨rfl, rfl⟩ dX10_where_71
    · rw [if_neg c49] at h
      refine lv_aload_n hx hb dX10_where_52 rfl (lv_at hl 1 rfl) ?_
      refine lv_aload_n hx hb dX10_where_53 rfl (lv_at hl 1 rfl) ?_
      refine lv_aload_n hx hb dX10_where_54 rfl (lv_at hl 1 rfl) ?_
      obtain ⟨v55, e55, h⟩ := Option.bind_eq_some_iff.mp h
      refine g_geti hx hb hts inlX10 hown hK hG (by rfl) 20 (by decide) qF_X10_236 e55 dX10_where_55 ?_
      refine lv_iconst (v := (1 : Int32)) hx hb dX10_where_58 (by decide) ?_
      obtain ⟨u59, i59, h⟩ := Option.bind_eq_some_iff.mp h
      obtain ⟨v59, e59, h⟩ := Option.bind_eq_some_iff.mp h
      refine g_cVi (As := [.int v55, .int (1 : Int32)]) (rest := [.ref ba0]) (n := 2) hx hb hml hown hts hK hlo hG (m_X10_ofVersion l dd cT lo G ba0 v55 (1 : Int32) e59) qM_X10_249 qI_yX10_ofVersion qS_X10_yX10_ofVersion qN_X10 qC_yX10_ofVersion (by decide +kernel) ⟨Nat.le_of_ble_eq_true rfl, Nat.le_of_ble_eq_true rfl⟩ (by rfl) i59 rfl hl.1 rfl (Nat.le_of_ble_eq_true rfl) dX10_where_59 ⟨Nat.le_of_ble_eq_true rfl, Nat.le_of_ble_eq_true rfl⟩ (fun H locs hG => ?_)
      refine lv_iload_n hx hb dX10_where_62 rfl (lv_at hl 2 rfl) ?_
      refine lv_iadd hx hb dX10_where_63 ?_
      obtain ⟨u64, i64, h⟩ := Option.bind_eq_some_iff.mp h
      obtain ⟨v64, e64, h⟩ := Option.bind_eq_some_iff.mp h
      refine g_cVi (As := [.int (v59 + bx2)]) (rest := []) (n := 1) hx hb hml hown hts hK hlo hG (m_X10_placeOf l dd cT lo G ba0 (v59 + bx2) e64) qM_X10_208 qI_yX10_placeOf qS_X10_yX10_placeOf qN_X10 qC_yX10_placeOf (by decide +kernel) ⟨Nat.le_of_ble_eq_true rfl, Nat.le_of_ble_eq_true rfl⟩ (by rfl) i64 rfl hl.1 rfl (Nat.le_of_ble_eq_true rfl) dX10_where_64 ⟨Nat.le_of_ble_eq_true rfl, Nat.le_of_ble_eq_true rfl⟩ (fun H locs hG => ?_)
      refine lv_goto (tgt := 71) hx hb dX10_where_67 (by decide) ?_
      obtain ⟨rfl, rfl⟩ := Prod.mk.inj (Option.some.inj h)
      exact g_iret hx hb hr hlocks hK hlo hG ⟨rfl, rfl⟩ dX10_where_71
  unfold f_X10_where at h
  refine lv_aload_n hx hb dX10_where_0 rfl (lv_at hl 0 rfl) ?_
  refine lv_iload_n hx hb dX10_where_1 rfl (lv_at hl 1 rfl) ?_
  obtain ⟨u2, i2, h⟩ := Option.bind_eq_some_iff.mp h
  obtain ⟨q2, e2, h⟩ := Option.bind_eq_some_iff.mp h
  refine g_cVi (As := [.int x1]) (rest := []) (n := 1) hx hb hml hown hts hK hlo hG (m_X10_noFile l dd cT lo G a0 x1 e2) qM_X10_330 qI_yX10_noFile qS_X10_yX10_noFile qN_X10 qC_yX10_noFile (by decide +kernel) ⟨Nat.le_of_ble_eq_true rfl, Nat.le_of_ble_eq_true rfl⟩ (by rfl) i2 rfl hl.1 rfl (Nat.le_of_ble_eq_true rfl) dX10_where_2 ⟨Nat.le_of_ble_eq_true rfl, Nat.le_of_ble_eq_true rfl⟩ (fun H locs hG => ?_)
  refine lv_if_eq (tgt := 10) hx hb dX10_where_5 (by decide) (fun c5 => ?_) (fun c5 => ?_)
  · rw [if_pos c5] at h
    refine lv_aload_n hx hb dX10_where_10 rfl (lv_at hl 0 rfl) ?_
    refine lv_iload_n hx hb dX10_where_11 rfl (lv_at hl 1 rfl) ?_
    obtain ⟨u12, i12, h⟩ := Option.bind_eq_some_iff.mp h
    obtain ⟨G12, e12, h⟩ := Option.bind_eq_some_iff.mp h
    refine g_cVv (As := [.int x1]) (rest := []) (n := 1) hx hb hml hown hts hK hlo hG (m_X10_finds l dd cT lo q2.1 a0 x1 e12) qM_X10_267 qI_yX10_finds qS_X10_yX10_finds qN_X10 qC_yX10_finds (by decide +kernel) ⟨Nat.le_of_ble_eq_true rfl, Nat.le_of_ble_eq_true rfl⟩ (by rfl) i12 rfl hl.1 rfl (Nat.le_of_ble_eq_true rfl) dX10_where_12 ⟨Nat.le_of_ble_eq_true rfl, Nat.le_of_ble_eq_true rfl⟩ (fun H locs hG => ?_)
    refine lv_aload_n hx hb dX10_where_15 rfl (lv_at hl 0 rfl) ?_
    obtain ⟨v16, e16, h⟩ := Option.bind_eq_some_iff.mp h
    refine g_geti hx hb hts inlX10 hown hK hG (by rfl) 20 (by decide) qF_X10_236 e16 dX10_where_16 ?_
    refine lv_iconst (v := (-1 : Int32)) hx hb dX10_where_19 (by decide) ?_
    refine lv_icmp_eq (tgt := 46) hx hb dX10_where_20 (by decide) (fun c20 => ?_) (fun c20 => ?_)
    · rw [if_pos c20] at h
      refine lv_iconst (v := (0 : Int32)) hx hb dX10_where_46 (by decide) ?_
      exact h47 G12 a0 x2 (0 : Int32) _ _ hG _ (lv_sub hl [0, 2] rfl) h
    · rw [if_neg c20] at h
      refine lv_iload_n hx hb dX10_where_23 rfl (lv_at hl 2 rfl) ?_
      refine lv_iconst (v := (0 : Int32)) hx hb dX10_where_24 (by decide) ?_
      refine lv_aload_n hx hb dX10_where_25 rfl (lv_at hl 0 rfl) ?_
      refine lv_aload_n hx hb dX10_where_26 rfl (lv_at hl 0 rfl) ?_
      obtain ⟨v27, e27, h⟩ := Option.bind_eq_some_iff.mp h
      refine g_geti hx hb hts inlX10 hown hK hG (by rfl) 20 (by decide) qF_X10_236 e27 dX10_where_27 ?_
      refine lv_iconst (v := (2 : Int32)) hx hb dX10_where_30 (by decide) ?_
      obtain ⟨u31, i31, h⟩ := Option.bind_eq_some_iff.mp h
      obtain ⟨v31, e31, h⟩ := Option.bind_eq_some_iff.mp h
      refine g_cVi (As := [.int v27, .int (2 : Int32)]) (rest := [.int (0 : Int32), .int x2]) (n := 2) hx hb hml hown hts hK hlo hG (m_X10_ofVersion l dd cT lo G12 a0 v27 (2 : Int32) e31) qM_X10_249 qI_yX10_ofVersion qS_X10_yX10_ofVersion qN_X10 qC_yX10_ofVersion (by decide +kernel) ⟨Nat.le_of_ble_eq_true rfl, Nat.le_of_ble_eq_true rfl⟩ (by rfl) i31 rfl hl.1 rfl (Nat.le_of_ble_eq_true rfl) dX10_where_31 ⟨Nat.le_of_ble_eq_true rfl, Nat.le_of_ble_eq_true rfl⟩ (fun H locs hG => ?_)
      refine lv_iconst (v := (1 : Int32)) hx hb dX10_where_34 (by decide) ?_
      refine lv_isub hx hb dX10_where_35 ?_
      obtain ⟨v36, e36, h⟩ := Option.bind_eq_some_iff.mp h
      refine g_cSi (As := [.int x2, .int (0 : Int32), .int (v31 - (1 : Int32))]) (rest := []) (n := 3) hx hb hml hown hts hK hlo hG (m_X10_within l dd cT lo G12 x2 (0 : Int32) (v31 - (1 : Int32)) e36) qM_X10_74 qT_yX10_within qN_X10 qC_yX10_within (by decide +kernel) ⟨Nat.le_of_ble_eq_true rfl, Nat.le_of_ble_eq_true rfl⟩ rfl hl.1 rfl (Nat.le_of_ble_eq_true rfl) dX10_where_36 ⟨Nat.le_of_ble_eq_true rfl, Nat.le_of_ble_eq_true rfl⟩ (fun H locs hG => ?_)
      refine lv_if_eq (tgt := 46) hx hb dX10_where_39 (by decide) (fun c39 => ?_) (fun c39 => ?_)
      · rw [if_pos c39] at h
        refine lv_iconst (v := (0 : Int32)) hx hb dX10_where_46 (by decide) ?_
        exact h47 G12 a0 x2 (0 : Int32) _ _ hG _ (lv_sub hl [0, 2] rfl) h
      · rw [if_neg c39] at h
        refine lv_iconst (v := (1 : Int32)) hx hb dX10_where_42 (by decide) ?_
        refine lv_goto (tgt := 47) hx hb dX10_where_43 (by decide) ?_
        exact h47 G12 a0 x2 (1 : Int32) _ _ hG _ (lv_sub hl [0, 2] rfl) h
  · rw [if_neg c5] at h
    refine lv_iconst (v := (0 : Int32)) hx hb dX10_where_8 (by decide) ?_
    obtain ⟨rfl, rfl⟩ := Prod.mk.inj (Option.some.inj h)
    exact g_iret hx hb hr hlocks hK hlo hG ⟨rfl, rfl⟩ dX10_where_9
def f_X10_defect_L10 : Nat → gH → Nat → Int32 → Int32 → Int32 → Option (gH × Int32)
  | 0, _, _, _, _, _ => none
  | n + 1, G, ba0, bx2, bx3, bx4 =>
    (g_ob G ba0 10).bind fun u13 =>
    (f_X10_mainMany G ba0).bind fun v13 =>
    if v13 ≤ bx4 then
    some (G, (-1 : Int32))
    else
    if bx3 < 0 then
    some (G, (-1 : Int32))
    else
    (g_r G ba0 10 1).bind fun v24 =>
    (g_ald 0 G v24 ((679 : Int32) + bx4)).bind fun v33 =>
    if v33 = 0 then
    f_X10_defect_L10 n G ba0 bx2 bx3 (bx4 + (1 : Int32))
    else
    (g_r G ba0 10 1).bind fun v39 =>
    (g_ald 0 G v39 ((295 : Int32) + bx4)).bind fun v48 =>
    (g_ob G ba0 10).bind fun u52 =>
    (f_X10_of G ba0 (v48 - (1 : Int32)) (0 : Int32)).bind fun v52 =>
    if v52 = (2 : Int32) then
    f_X10_defect_L10 n G ba0 bx2 bx3 (bx4 + (1 : Int32))
    else
    if bx3 = 0 then
    if bx2 = 0 then
    some (G, bx4)
    else
    (g_ob G ba0 10).bind fun u73 =>
    (f_X10_placeOf G ba0 bx4).bind fun v73 =>
    some (G, v73)
    else
    f_X10_defect_L10 n G ba0 bx2 (bx3 + (-1 : Int32)) (bx4 + (1 : Int32))
def f_X10_defect (G : gH) (a0 : Nat) (x1 : Int32) (x2 : Int32) : Option (gH × Int32) :=
    (g_put G a0 10 0 (.int (0 : Int32))).bind fun G2 =>
    f_X10_defect_L10 g_N G2 a0 x2 x1 (0 : Int32)
set_option maxRecDepth 20000 in
set_option maxHeartbeats 4000000 in
theorem m_X10_defect (l : Launch) (dd : va_G) (cT : Nat → ClassId) (lo : Nat) (G : gH) (a0 : Nat) (x1 : Int32) (x2 : Int32) {rz : Int32} {Gz : gH} (h : f_X10_defect G a0 x1 x2 = some (Gz, rz)) : Met l yX10_defect (Cond.code yX10_defect cX10_defect 5 (some .int) :: wsL_law) (g_rm 1 22 0 0) (va_Pc [.ref a0, .int x1, .int x2] (g_Pre lo dd cT G)) (va_Qi (g_is rz Gz) (g_Pre lo dd cT) (g_A lo)) 0 0 (g_A lo) := by
  refine g_start RX10 rfl (by decide) (Nat.le_of_ble_eq_true rfl) ?_
  intro p e s m below meth c hx hb hr hlocks hml hown hnm hts hK hG hlo ls hl
  have hl : lv_has ls 5 [(0, .ref a0), (1, .int x1), (2, .int x2)] := hl
  have hG : g_S lo dd cT s s.heap [] G := hG
  have h10 : ∀ n : Nat, ∀ (G : gH) (ba0 : Nat) (bx2 : Int32) (bx3 : Int32) (bx4 : Int32), ∀ (H : Heap) (locs : List Loc), g_S lo dd cT s H locs G → ∀ ls : Array Slot, lv_has ls 5 [(0, .ref ba0), (2, .int bx2), (3, .int bx3), (4, .int bx4)] → f_X10_defect_L10 n G ba0 bx2 bx3 bx4 = some (Gz, rz) → W p l e (g_rm 1 22 0 0) s m ([.ref a0, .int x1, .int x2] : List Value).toArray below meth c H locs 0 0 (MQ below (va_Qi (g_is rz Gz) (g_Pre lo dd cT) (g_A lo)) ([.ref a0, .int x1, .int x2] : List Value).toArray s 0 0 (g_A lo)) (F0 m 10 ls []) := by
    intro n
    induction n with
    | zero =>
      intro G ba0 bx2 bx3 bx4 H locs hG ls hl h
      cases (show (none : Option (gH × Int32)) = some (Gz, rz) from h)
    | succ n ih =>
      intro G ba0 bx2 bx3 bx4 H locs hG ls hl h
      rw [f_X10_defect_L10] at h
      refine lv_iload hx hb dX10_defect_10 (lv_at hl 3 rfl) ?_
      refine lv_aload_n hx hb dX10_defect_12 rfl (lv_at hl 0 rfl) ?_
      obtain ⟨u13, i13, h⟩ := Option.bind_eq_some_iff.mp h
      obtain ⟨v13, e13, h⟩ := Option.bind_eq_some_iff.mp h
      refine g_cVi (As := []) (rest := [.int bx4]) (n := 0) hx hb hml hown hts hK hlo hG (m_X10_mainMany l dd cT lo G ba0 e13) qM_X10_205 qI_yX10_mainMany qS_X10_yX10_mainMany qN_X10 qC_yX10_mainMany (by decide +kernel) ⟨Nat.le_of_ble_eq_true rfl, Nat.le_of_ble_eq_true rfl⟩ (by rfl) i13 rfl hl.1 rfl (Nat.le_of_ble_eq_true rfl) dX10_defect_13 ⟨Nat.le_of_ble_eq_true rfl, Nat.le_of_ble_eq_true rfl⟩ (fun H locs hG => ?_)
      refine lv_icmp_ge (tgt := 91) hx hb dX10_defect_16 (by decide) (fun c16 => ?_) (fun c16 => ?_)
      · rw [if_pos c16] at h
        refine lv_iconst (v := (-1 : Int32)) hx hb dX10_defect_91 (by decide) ?_
        obtain ⟨rfl, rfl⟩ := Prod.mk.inj (Option.some.inj h)
        exact g_iret hx hb hr hlocks hK hlo hG ⟨rfl, rfl⟩ dX10_defect_92
      · rw [if_neg c16] at h
        refine lv_iload_n hx hb dX10_defect_19 rfl (lv_at hl 2 rfl) ?_
        refine lv_if_lt (tgt := 91) hx hb dX10_defect_20 (by decide) (fun c20 => ?_) (fun c20 => ?_)
        · rw [if_pos c20] at h
          refine lv_iconst (v := (-1 : Int32)) hx hb dX10_defect_91 (by decide) ?_
          obtain ⟨rfl, rfl⟩ := Prod.mk.inj (Option.some.inj h)
          exact g_iret hx hb hr hlocks hK hlo hG ⟨rfl, rfl⟩ dX10_defect_92
        · rw [if_neg c20] at h
          refine lv_aload_n hx hb dX10_defect_23 rfl (lv_at hl 0 rfl) ?_
          obtain ⟨v24, e24, h⟩ := Option.bind_eq_some_iff.mp h
          refine g_getr hx hb hts inlX10 hown hK hG (by rfl) 1 (by decide) qF_X10_7 e24 dX10_defect_24 ?_
          refine lv_sipush (v := (679 : Int32)) hx hb dX10_defect_27 (by decide) ?_
          refine lv_iload hx hb dX10_defect_30 (lv_at hl 3 rfl) ?_
          refine lv_iadd hx hb dX10_defect_32 ?_
          obtain ⟨v33, e33, h⟩ := Option.bind_eq_some_iff.mp h
          refine g_iald hx hb hK hG e33 dX10_defect_33 ?_
          refine lv_if_eq (tgt := 85) hx hb dX10_defect_34 (by decide) (fun c34 => ?_) (fun c34 => ?_)
          · rw [if_pos c34] at h
            refine lv_iinc (v := (bx4 + (1 : Int32))) (lv' := [(4, .int (bx4 + (1 : Int32))), (0, .ref ba0), (2, .int bx2), (3, .int bx3)]) hx hb dX10_defect_85 hl (k := 3) rfl rfl (by decide) rfl (fun ls hl => ?_)
            refine lv_goto (tgt := 10) hx hb dX10_defect_88 (by decide) ?_
            exact ih G ba0 bx2 bx3 (bx4 + (1 : Int32)) _ _ hG _ (lv_sub hl [1, 2, 3, 0] rfl) h
          · rw [if_neg c34] at h
            refine lv_aload_n hx hb dX10_defect_37 rfl (lv_at hl 0 rfl) ?_
            refine lv_aload_n hx hb dX10_defect_38 rfl (lv_at hl 0 rfl) ?_
            obtain ⟨v39, e39, h⟩ := Option.bind_eq_some_iff.mp h
            refine g_getr hx hb hts inlX10 hown hK hG (by rfl) 1 (by decide) qF_X10_7 e39 dX10_defect_39 ?_
            refine lv_sipush (v := (295 : Int32)) hx hb dX10_defect_42 (by decide) ?_
            refine lv_iload hx hb dX10_defect_45 (lv_at hl 3 rfl) ?_
            refine lv_iadd hx hb dX10_defect_47 ?_
            obtain ⟨v48, e48, h⟩ := Option.bind_eq_some_iff.mp h
            refine g_iald hx hb hK hG e48 dX10_defect_48 ?_
            refine lv_iconst (v := (1 : Int32)) hx hb dX10_defect_49 (by decide) ?_
            refine lv_isub hx hb dX10_defect_50 ?_
            refine lv_iconst (v := (0 : Int32)) hx hb dX10_defect_51 (by decide) ?_
            obtain ⟨u52, i52, h⟩ := Option.bind_eq_some_iff.mp h
            obtain ⟨v52, e52, h⟩ := Option.bind_eq_some_iff.mp h
            refine g_cVi (As := [.int (v48 - (1 : Int32)), .int (0 : Int32)]) (rest := []) (n := 2) hx hb hml hown hts hK hlo hG (m_X10_of l dd cT lo G ba0 (v48 - (1 : Int32)) (0 : Int32) e52) qM_X10_218 qI_yX10_of qS_X10_yX10_of qN_X10 qC_yX10_of (by decide +kernel) ⟨Nat.le_of_ble_eq_true rfl, Nat.le_of_ble_eq_true rfl⟩ (by rfl) i52 rfl hl.1 rfl (Nat.le_of_ble_eq_true rfl) dX10_defect_52 ⟨Nat.le_of_ble_eq_true rfl, Nat.le_of_ble_eq_true rfl⟩ (fun H locs hG => ?_)
            refine lv_iconst (v := (2 : Int32)) hx hb dX10_defect_55 (by decide) ?_
            refine lv_icmp_ne (tgt := 62) hx hb dX10_defect_56 (by decide) (fun c56 => ?_) (fun c56 => ?_)
            · rw [if_neg c56] at h
              refine lv_iload_n hx hb dX10_defect_62 rfl (lv_at hl 2 rfl) ?_
              refine lv_if_ne (tgt := 82) hx hb dX10_defect_63 (by decide) (fun c63 => ?_) (fun c63 => ?_)
              · rw [if_neg c63] at h
                refine lv_iinc (v := (bx3 + (-1 : Int32))) (lv' := [(3, .int (bx3 + (-1 : Int32))), (0, .ref ba0), (2, .int bx2), (4, .int bx4)]) hx hb dX10_defect_82 hl (k := 2) rfl rfl (by decide) rfl (fun ls hl => ?_)
                refine lv_iinc (v := (bx4 + (1 : Int32))) (lv' := [(4, .int (bx4 + (1 : Int32))), (3, .int (bx3 + (-1 : Int32))), (0, .ref ba0), (2, .int bx2)]) hx hb dX10_defect_85 hl (k := 3) rfl rfl (by decide) rfl (fun ls hl => ?_)
                refine lv_goto (tgt := 10) hx hb dX10_defect_88 (by decide) ?_
                exact ih G ba0 bx2 (bx3 + (-1 : Int32)) (bx4 + (1 : Int32)) _ _ hG _ (lv_sub hl [2, 3, 1, 0] rfl) h
              · rw [if_pos c63] at h
                refine lv_iload_n hx hb dX10_defect_66 rfl (lv_at hl 1 rfl) ?_
                refine lv_if_eq (tgt := 79) hx hb dX10_defect_67 (by decide) (fun c67 => ?_) (fun c67 => ?_)
                · rw [if_pos c67] at h
                  refine lv_iload hx hb dX10_defect_79 (lv_at hl 3 rfl) ?_
                  obtain ⟨rfl, rfl⟩ := Prod.mk.inj (Option.some.inj h)
                  exact g_iret hx hb hr hlocks hK hlo hG ⟨rfl, rfl⟩ dX10_defect_81
                · rw [if_neg c67] at h
                  refine lv_aload_n hx hb dX10_defect_70 rfl (lv_at hl 0 rfl) ?_
                  refine lv_iload hx hb dX10_defect_71 (lv_at hl 3 rfl) ?_
                  obtain ⟨u73, i73, h⟩ := Option.bind_eq_some_iff.mp h
                  obtain ⟨v73, e73, h⟩ := Option.bind_eq_some_iff.mp h
                  refine g_cVi (As := [.int bx4]) (rest := []) (n := 1) hx hb hml hown hts hK hlo hG (m_X10_placeOf l dd cT lo G ba0 bx4 e73) qM_X10_208 qI_yX10_placeOf qS_X10_yX10_placeOf qN_X10 qC_yX10_placeOf (by decide +kernel) ⟨Nat.le_of_ble_eq_true rfl, Nat.le_of_ble_eq_true rfl⟩ (by rfl) i73 rfl hl.1 rfl (Nat.le_of_ble_eq_true rfl) dX10_defect_73 ⟨Nat.le_of_ble_eq_true rfl, Nat.le_of_ble_eq_true rfl⟩ (fun H locs hG => ?_)
                  refine lv_goto (tgt := 81) hx hb dX10_defect_76 (by decide) ?_
                  obtain ⟨rfl, rfl⟩ := Prod.mk.inj (Option.some.inj h)
                  exact g_iret hx hb hr hlocks hK hlo hG ⟨rfl, rfl⟩ dX10_defect_81
            · rw [if_pos c56] at h
              refine lv_goto (tgt := 85) hx hb dX10_defect_59 (by decide) ?_
              refine lv_iinc (v := (bx4 + (1 : Int32))) (lv' := [(4, .int (bx4 + (1 : Int32))), (0, .ref ba0), (2, .int bx2), (3, .int bx3)]) hx hb dX10_defect_85 hl (k := 3) rfl rfl (by decide) rfl (fun ls hl => ?_)
              refine lv_goto (tgt := 10) hx hb dX10_defect_88 (by decide) ?_
              exact ih G ba0 bx2 bx3 (bx4 + (1 : Int32)) _ _ hG _ (lv_sub hl [1, 2, 3, 0] rfl) h
  unfold f_X10_defect at h
  refine lv_aload_n hx hb dX10_defect_0 rfl (lv_at hl 0 rfl) ?_
  refine lv_iconst (v := (0 : Int32)) hx hb dX10_defect_1 (by decide) ?_
  obtain ⟨G2, i2, h⟩ := Option.bind_eq_some_iff.mp h
  refine g_putv hx hb hts inlX10 tyX10 tyX10_ok nmX10 hown hK hG (by rfl) 0 (by decide) qF_X10_50 rfl rfl rfl rfl i2 dX10_defect_2 (fun H locs hG => ?_)
  refine lv_iload_n hx hb dX10_defect_5 rfl (lv_at hl 1 rfl) ?_
  refine lv_istore_n (lv' := [(3, .int x1), (0, .ref a0), (1, .int x1), (2, .int x2)]) hx hb dX10_defect_6 rfl hl (by decide) rfl (fun ls hl => ?_)
  refine lv_iconst (v := (0 : Int32)) hx hb dX10_defect_7 (by decide) ?_
  refine lv_istore (lv' := [(4, .int (0 : Int32)), (3, .int x1), (0, .ref a0), (1, .int x1), (2, .int x2)]) hx hb dX10_defect_8 hl (by decide) rfl (fun ls hl => ?_)
  exact h10 g_N G2 a0 x2 x1 (0 : Int32) _ _ hG _ (lv_sub hl [2, 4, 1, 0] rfl) h
def f_X10_whyNotWrite_J24 (G : gH) (ba0 : Nat) (bx1 : Int32) (bx2 : Int32) (z0 : Nat) (z1 : Int32) : Option (gH × Int32) :=
    (g_ob G z0 10).bind fun u25 =>
    (f_X10_throwsIf G z0 z1 (2 : Int32)).bind fun q25 =>
    if q25.2 = 0 then
    (g_ob q25.1 ba0 10).bind fun u36 =>
    (f_X10_whyWrite q25.1 ba0 bx1 bx2).bind fun v36 =>
    some (q25.1, v36)
    else
    some (q25.1, (0 : Int32))
def f_X10_whyNotWrite (G : gH) (a0 : Nat) (x1 : Int32) (x2 : Int32) : Option (gH × Int32) :=
    (g_ob G a0 10).bind fun u2 =>
    (f_X10_noFile G a0 x1).bind fun q2 =>
    if q2.2 = 0 then
    (f_X10_within q2.1 x2 (1 : Int32) (8 : Int32)).bind fun v13 =>
    if v13 = 0 then
    f_X10_whyNotWrite_J24 q2.1 a0 x1 x2 a0 (1 : Int32)
    else
    f_X10_whyNotWrite_J24 q2.1 a0 x1 x2 a0 (0 : Int32)
    else
    some (q2.1, (0 : Int32))
set_option maxRecDepth 20000 in
set_option maxHeartbeats 4000000 in
theorem m_X10_whyNotWrite (l : Launch) (dd : va_G) (cT : Nat → ClassId) (lo : Nat) (G : gH) (a0 : Nat) (x1 : Int32) (x2 : Int32) {rz : Int32} {Gz : gH} (h : f_X10_whyNotWrite G a0 x1 x2 = some (Gz, rz)) : Met l yX10_whyNotWrite (Cond.code yX10_whyNotWrite cX10_whyNotWrite 3 (some .int) :: wsL_law) (g_rm 4 88 0 0) (va_Pc [.ref a0, .int x1, .int x2] (g_Pre lo dd cT G)) (va_Qi (g_is rz Gz) (g_Pre lo dd cT) (g_A lo)) 0 0 (g_A lo) := by
  refine g_start RX10 rfl (by decide) (Nat.le_of_ble_eq_true rfl) ?_
  intro p e s m below meth c hx hb hr hlocks hml hown hnm hts hK hG hlo ls hl
  have hl : lv_has ls 3 [(0, .ref a0), (1, .int x1), (2, .int x2)] := hl
  have hG : g_S lo dd cT s s.heap [] G := hG
  have h24 : ∀ (G : gH) (ba0 : Nat) (bx1 : Int32) (bx2 : Int32) (z0 : Nat) (z1 : Int32), ∀ (H : Heap) (locs : List Loc), g_S lo dd cT s H locs G → ∀ ls : Array Slot, lv_has ls 3 [(0, .ref ba0), (1, .int bx1), (2, .int bx2)] → f_X10_whyNotWrite_J24 G ba0 bx1 bx2 z0 z1 = some (Gz, rz) → W p l e (g_rm 4 88 0 0) s m ([.ref a0, .int x1, .int x2] : List Value).toArray below meth c H locs 0 0 (MQ below (va_Qi (g_is rz Gz) (g_Pre lo dd cT) (g_A lo)) ([.ref a0, .int x1, .int x2] : List Value).toArray s 0 0 (g_A lo)) (F0 m 24 ls [.int z1, .ref z0]) := by
    intro G ba0 bx1 bx2 z0 z1 H locs hG ls hl h
    unfold f_X10_whyNotWrite_J24 at h
    refine lv_iconst (v := (2 : Int32)) hx hb dX10_whyNotWrite_24 (by decide) ?_
    obtain ⟨u25, i25, h⟩ := Option.bind_eq_some_iff.mp h
    obtain ⟨q25, e25, h⟩ := Option.bind_eq_some_iff.mp h
    refine g_cVi (As := [.int z1, .int (2 : Int32)]) (rest := []) (n := 2) hx hb hml hown hts hK hlo hG (m_X10_throwsIf l dd cT lo G z0 z1 (2 : Int32) e25) qM_X10_188 qI_yX10_throwsIf qS_X10_yX10_throwsIf qN_X10 qC_yX10_throwsIf (by decide +kernel) ⟨Nat.le_of_ble_eq_true rfl, Nat.le_of_ble_eq_true rfl⟩ (by rfl) i25 rfl hl.1 rfl (Nat.le_of_ble_eq_true rfl) dX10_whyNotWrite_25 ⟨Nat.le_of_ble_eq_true rfl, Nat.le_of_ble_eq_true rfl⟩ (fun H locs hG => ?_)
    refine lv_if_eq (tgt := 33) hx hb dX10_whyNotWrite_28 (by decide) (fun c28 => ?_) (fun c28 => ?_)
    · rw [if_pos c28] at h
      refine lv_aload_n hx hb dX10_whyNotWrite_33 rfl (lv_at hl 0 rfl) ?_
      refine lv_iload_n hx hb dX10_whyNotWrite_34 rfl (lv_at hl 1 rfl) ?_
      refine lv_iload_n hx hb dX10_whyNotWrite_35 rfl (lv_at hl 2 rfl) ?_
      obtain ⟨u36, i36, h⟩ := Option.bind_eq_some_iff.mp h
      obtain ⟨v36, e36, h⟩ := Option.bind_eq_some_iff.mp h
      refine g_cVi (As := [.int bx1, .int bx2]) (rest := []) (n := 2) hx hb hml hown hts hK hlo hG (m_X10_whyWrite l dd cT lo q25.1 ba0 bx1 bx2 e36) qM_X10_134 qI_yX10_whyWrite qS_X10_yX10_whyWrite qN_X10 qC_yX10_whyWrite (by decide +kernel) ⟨Nat.le_of_ble_eq_true rfl, Nat.le_of_ble_eq_true rfl⟩ (by rfl) i36 rfl hl.1 rfl (Nat.le_of_ble_eq_true rfl) dX10_whyNotWrite_36 ⟨Nat.le_of_ble_eq_true rfl, Nat.le_of_ble_eq_true rfl⟩ (fun H locs hG => ?_)
      obtain ⟨rfl, rfl⟩ := Prod.mk.inj (Option.some.inj h)
      exact g_iret hx hb hr hlocks hK hlo hG ⟨rfl, rfl⟩ dX10_whyNotWrite_39
    · rw [if_neg c28] at h
      refine lv_iconst (v := (0 : Int32)) hx hb dX10_whyNotWrite_31 (by decide) ?_
      obtain ⟨rfl, rfl⟩ := Prod.mk.inj (Option.some.inj h)
      exact g_iret hx hb hr hlocks hK hlo hG ⟨rfl, rfl⟩ dX10_whyNotWrite_32
  unfold f_X10_whyNotWrite at h
  refine lv_aload_n hx hb dX10_whyNotWrite_0 rfl (lv_at hl 0 rfl) ?_
  refine lv_iload_n hx hb dX10_whyNotWrite_1 rfl (lv_at hl 1 rfl) ?_
  obtain ⟨u2, i2, h⟩ := Option.bind_eq_some_iff.mp h
  obtain ⟨q2, e2, h⟩ := Option.bind_eq_some_iff.mp h
  refine g_cVi (As := [.int x1]) (rest := []) (n := 1) hx hb hml hown hts hK hlo hG (m_X10_noFile l dd cT lo G a0 x1 e2) qM_X10_330 qI_yX10_noFile qS_X10_yX10_noFile qN_X10 qC_yX10_noFile (by decide +kernel) ⟨Nat.le_of_ble_eq_true rfl, Nat.le_of_ble_eq_true rfl⟩ (by rfl) i2 rfl hl.1 rfl (Nat.le_of_ble_eq_true rfl) dX10_whyNotWrite_2 ⟨Nat.le_of_ble_eq_true rfl, Nat.le_of_ble_eq_true rfl⟩ (fun H locs hG => ?_)
  refine lv_if_ne (tgt := 31) hx hb dX10_whyNotWrite_5 (by decide) (fun c5 => ?_) (fun c5 => ?_)
  · rw [if_neg c5] at h
    refine lv_iconst (v := (0 : Int32)) hx hb dX10_whyNotWrite_31 (by decide) ?_
    obtain ⟨rfl, rfl⟩ := Prod.mk.inj (Option.some.inj h)
    exact g_iret hx hb hr hlocks hK hlo hG ⟨rfl, rfl⟩ dX10_whyNotWrite_32
  · rw [if_pos c5] at h
    refine lv_aload_n hx hb dX10_whyNotWrite_8 rfl (lv_at hl 0 rfl) ?_
    refine lv_iload_n hx hb dX10_whyNotWrite_9 rfl (lv_at hl 2 rfl) ?_
    refine lv_iconst (v := (1 : Int32)) hx hb dX10_whyNotWrite_10 (by decide) ?_
    refine lv_bipush (v := (8 : Int32)) hx hb dX10_whyNotWrite_11 (by decide) ?_
    obtain ⟨v13, e13, h⟩ := Option.bind_eq_some_iff.mp h
    refine g_cSi (As := [.int x2, .int (1 : Int32), .int (8 : Int32)]) (rest := [.ref a0]) (n := 3) hx hb hml hown hts hK hlo hG (m_X10_within l dd cT lo q2.1 x2 (1 : Int32) (8 : Int32) e13) qM_X10_74 qT_yX10_within qN_X10 qC_yX10_within (by decide +kernel) ⟨Nat.le_of_ble_eq_true rfl, Nat.le_of_ble_eq_true rfl⟩ rfl hl.1 rfl (Nat.le_of_ble_eq_true rfl) dX10_whyNotWrite_13 ⟨Nat.le_of_ble_eq_true rfl, Nat.le_of_ble_eq_true rfl⟩ (fun H locs hG => ?_)
    refine lv_if_ne (tgt := 23) hx hb dX10_whyNotWrite_16 (by decide) (fun c16 => ?_) (fun c16 => ?_)
    · rw [if_neg c16] at h
      refine lv_iconst (v := (0 : Int32)) hx hb dX10_whyNotWrite_23 (by decide) ?_
      exact h24 q2.1 a0 x1 x2 a0 (0 : Int32) _ _ hG _ (lv_sub hl [0, 1, 2] rfl) h
    · rw [if_pos c16] at h
      refine lv_iconst (v := (1 : Int32)) hx hb dX10_whyNotWrite_19 (by decide) ?_
      refine lv_goto (tgt := 24) hx hb dX10_whyNotWrite_20 (by decide) ?_
      exact h24 q2.1 a0 x1 x2 a0 (1 : Int32) _ _ hG _ (lv_sub hl [0, 1, 2] rfl) h
def f_X10_riskOf (G : gH) (a0 : Nat) (x1 : Int32) : Option (gH × Int32) :=
    (g_r G a0 10 1).bind fun v1 =>
    (g_ald 0 G v1 ((7 : Int32) + x1)).bind fun v8 =>
    if v8 = 0 then
    some (G, (0 : Int32))
    else
    (g_r G a0 10 1).bind fun v13 =>
    (g_ald 0 G v13 ((199 : Int32) + x1)).bind fun v21 =>
    if v21 = (1 : Int32) then
    some (G, (0 : Int32))
    else
    (g_ob G a0 10).bind fun u29 =>
    (f_X10_goodFiles G a0).bind fun q29 =>
    (g_r q29.1 a0 10 1).bind fun v34 =>
    (g_ast 0 q29.1 v34 ((199 : Int32) + x1) (1 : Int32)).bind fun G43 =>
    (g_ob G43 a0 10).bind fun u45 =>
    (f_X10_goodFiles G43 a0).bind fun q45 =>
    (g_r q45.1 a0 10 1).bind fun v50 =>
    (g_ast 0 q45.1 v50 ((199 : Int32) + x1) (0 : Int32)).bind fun G59 =>
    (f_X10_ones G59 (q29.2 &&& (q45.2 ^^^ (-1 : Int32)))).bind fun v65 =>
    some (G59, v65)
set_option maxRecDepth 20000 in
set_option maxHeartbeats 4000000 in
theorem m_X10_riskOf (l : Launch) (dd : va_G) (cT : Nat → ClassId) (lo : Nat) (G : gH) (a0 : Nat) (x1 : Int32) {rz : Int32} {Gz : gH} (h : f_X10_riskOf G a0 x1 = some (Gz, rz)) : Met l yX10_riskOf (Cond.code yX10_riskOf cX10_riskOf 4 (some .int) :: wsL_law) (g_rm 5 111 0 0) (va_Pc [.ref a0, .int x1] (g_Pre lo dd cT G)) (va_Qi (g_is rz Gz) (g_Pre lo dd cT) (g_A lo)) 0 0 (g_A lo) := by
  refine g_start RX10 rfl (by decide) (Nat.le_of_ble_eq_true rfl) ?_
  intro p e s m below meth c hx hb hr hlocks hml hown hnm hts hK hG hlo ls hl
  have hl : lv_has ls 4 [(0, .ref a0), (1, .int x1)] := hl
  have hG : g_S lo dd cT s s.heap [] G := hG
  unfold f_X10_riskOf at h
  refine lv_aload_n hx hb dX10_riskOf_0 rfl (lv_at hl 0 rfl) ?_
  obtain ⟨v1, e1, h⟩ := Option.bind_eq_some_iff.mp h
  refine g_getr hx hb hts inlX10 hown hK hG (by rfl) 1 (by decide) qF_X10_7 e1 dX10_riskOf_1 ?_
  refine lv_bipush (v := (7 : Int32)) hx hb dX10_riskOf_4 (by decide) ?_
  refine lv_iload_n hx hb dX10_riskOf_6 rfl (lv_at hl 1 rfl) ?_
  refine lv_iadd hx hb dX10_riskOf_7 ?_
  obtain ⟨v8, e8, h⟩ := Option.bind_eq_some_iff.mp h
  refine g_iald hx hb hK hG e8 dX10_riskOf_8 ?_
  refine lv_if_eq (tgt := 26) hx hb dX10_riskOf_9 (by decide) (fun c9 => ?_) (fun c9 => ?_)
  · rw [if_pos c9] at h
    refine lv_iconst (v := (0 : Int32)) hx hb dX10_riskOf_26 (by decide) ?_
    obtain ⟨rfl, rfl⟩ := Prod.mk.inj (Option.some.inj h)
    exact g_iret hx hb hr hlocks hK hlo hG ⟨rfl, rfl⟩ dX10_riskOf_27
  · rw [if_neg c9] at h
    refine lv_aload_n hx hb dX10_riskOf_12 rfl (lv_at hl 0 rfl) ?_
    obtain ⟨v13, e13, h⟩ := Option.bind_eq_some_iff.mp h
    refine g_getr hx hb hts inlX10 hown hK hG (by rfl) 1 (by decide) qF_X10_7 e13 dX10_riskOf_13 ?_
    refine lv_sipush (v := (199 : Int32)) hx hb dX10_riskOf_16 (by decide) ?_
    refine lv_iload_n hx hb dX10_riskOf_19 rfl (lv_at hl 1 rfl) ?_
    refine lv_iadd hx hb dX10_riskOf_20 ?_
    obtain ⟨v21, e21, h⟩ := Option.bind_eq_some_iff.mp h
    refine g_iald hx hb hK hG e21 dX10_riskOf_21 ?_
    refine lv_iconst (v := (1 : Int32)) hx hb dX10_riskOf_22 (by decide) ?_
    refine lv_icmp_ne (tgt := 28) hx hb dX10_riskOf_23 (by decide) (fun c23 => ?_) (fun c23 => ?_)
    · rw [if_neg c23] at h
      refine lv_aload_n hx hb dX10_riskOf_28 rfl (lv_at hl 0 rfl) ?_
      obtain ⟨u29, i29, h⟩ := Option.bind_eq_some_iff.mp h
      obtain ⟨q29, e29, h⟩ := Option.bind_eq_some_iff.mp h
      refine g_cVi (As := []) (rest := []) (n := 0) hx hb hml hown hts hK hlo hG (m_X10_goodFiles l dd cT lo G a0 e29) qM_X10_305 qI_yX10_goodFiles qS_X10_yX10_goodFiles qN_X10 qC_yX10_goodFiles (by decide +kernel) ⟨Nat.le_of_ble_eq_true rfl, Nat.le_of_ble_eq_true rfl⟩ (by rfl) i29 rfl hl.1 rfl (Nat.le_of_ble_eq_true rfl) dX10_riskOf_29 ⟨Nat.le_of_ble_eq_true rfl, Nat.le_of_ble_eq_true rfl⟩ (fun H locs hG => ?_)
      refine lv_istore_n (lv' := [(2, .int q29.2), (0, .ref a0), (1, .int x1)]) hx hb dX10_riskOf_32 rfl hl (by decide) rfl (fun ls hl => ?_)
      refine lv_aload_n hx hb dX10_riskOf_33 rfl (lv_at hl 1 rfl) ?_
      obtain ⟨v34, e34, h⟩ := Option.bind_eq_some_iff.mp h
      refine g_getr hx hb hts inlX10 hown hK hG (by rfl) 1 (by decide) qF_X10_7 e34 dX10_riskOf_34 ?_
      refine lv_sipush (v := (199 : Int32)) hx hb dX10_riskOf_37 (by decide) ?_
      refine lv_iload_n hx hb dX10_riskOf_40 rfl (lv_at hl 2 rfl) ?_
      refine lv_iadd hx hb dX10_riskOf_41 ?_
      refine lv_iconst (v := (1 : Int32)) hx hb dX10_riskOf_42 (by decide) ?_
      obtain ⟨G43, e43, h⟩ := Option.bind_eq_some_iff.mp h
      refine g_iast hx hb hK hG e43 dX10_riskOf_43 (fun H locs hG => ?_)
      refine lv_aload_n hx hb dX10_riskOf_44 rfl (lv_at hl 1 rfl) ?_
      obtain ⟨u45, i45, h⟩ := Option.bind_eq_some_iff.mp h
      obtain ⟨q45, e45, h⟩ := Option.bind_eq_some_iff.mp h
      refine g_cVi (As := []) (rest := []) (n := 0) hx hb hml hown hts hK hlo hG (m_X10_goodFiles l dd cT lo G43 a0 e45) qM_X10_305 qI_yX10_goodFiles qS_X10_yX10_goodFiles qN_X10 qC_yX10_goodFiles (by decide +kernel) ⟨Nat.le_of_ble_eq_true rfl, Nat.le_of_ble_eq_true rfl⟩ (by rfl) i45 rfl hl.1 rfl (Nat.le_of_ble_eq_true rfl) dX10_riskOf_45 ⟨Nat.le_of_ble_eq_true rfl, Nat.le_of_ble_eq_true rfl⟩ (fun H locs hG => ?_)
      refine lv_istore_n (lv' := [(3, .int q45.2), (2, .int q29.2), (0, .ref a0), (1, .int x1)]) hx hb dX10_riskOf_48 rfl hl (by decide) rfl (fun ls hl => ?_)
      refine lv_aload_n hx hb dX10_riskOf_49 rfl (lv_at hl 2 rfl) ?_
      obtain ⟨v50, e50, h⟩ := Option.bind_eq_some_iff.mp h
      refine g_getr hx hb hts inlX10 hown hK hG (by rfl) 1 (by decide) qF_X10_7 e50 dX10_riskOf_50 ?_
      refine lv_sipush (v := (199 : Int32)) hx hb dX10_riskOf_53 (by decide) ?_
      refine lv_iload_n hx hb dX10_riskOf_56 rfl (lv_at hl 3 rfl) ?_
      refine lv_iadd hx hb dX10_riskOf_57 ?_
      refine lv_iconst (v := (0 : Int32)) hx hb dX10_riskOf_58 (by decide) ?_
      obtain ⟨G59, e59, h⟩ := Option.bind_eq_some_iff.mp h
      refine g_iast hx hb hK hG e59 dX10_riskOf_59 (fun H locs hG => ?_)
      refine lv_iload_n hx hb dX10_riskOf_60 rfl (lv_at hl 1 rfl) ?_
      refine lv_iload_n hx hb dX10_riskOf_61 rfl (lv_at hl 0 rfl) ?_
      refine lv_iconst (v := (-1 : Int32)) hx hb dX10_riskOf_62 (by decide) ?_
      refine lv_ixor hx hb dX10_riskOf_63 ?_
      refine lv_iand hx hb dX10_riskOf_64 ?_
      obtain ⟨v65, e65, h⟩ := Option.bind_eq_some_iff.mp h
      refine g_cSi (As := [.int (q29.2 &&& (q45.2 ^^^ (-1 : Int32)))]) (rest := []) (n := 1) hx hb hml hown hts hK hlo hG (m_X10_ones l dd cT lo G59 (q29.2 &&& (q45.2 ^^^ (-1 : Int32))) e65) qM_X10_308 qT_yX10_ones qN_X10 qC_yX10_ones (by decide +kernel) ⟨Nat.le_of_ble_eq_true rfl, Nat.le_of_ble_eq_true rfl⟩ rfl hl.1 rfl (Nat.le_of_ble_eq_true rfl) dX10_riskOf_65 ⟨Nat.le_of_ble_eq_true rfl, Nat.le_of_ble_eq_true rfl⟩ (fun H locs hG => ?_)
      obtain ⟨rfl, rfl⟩ := Prod.mk.inj (Option.some.inj h)
      exact g_iret hx hb hr hlocks hK hlo hG ⟨rfl, rfl⟩ dX10_riskOf_68
    · rw [if_pos c23] at h
      refine lv_iconst (v := (0 : Int32)) hx hb dX10_riskOf_26 (by decide) ?_
      obtain ⟨rfl, rfl⟩ := Prod.mk.inj (Option.some.inj h)
      exact g_iret hx hb hr hlocks hK hlo hG ⟨rfl, rfl⟩ dX10_riskOf_27
def f_X10_risk (G : gH) (a0 : Nat) (x1 : Int32) : Option (gH × Int32) :=
    (g_ob G a0 10).bind fun u2 =>
    (f_X10_noBlock G a0 x1).bind fun q2 =>
    if q2.2 = 0 then
    (g_ob q2.1 a0 10).bind fun u14 =>
    (f_X10_riskOf q2.1 a0 x1).bind fun q14 =>
    some (q14.1, q14.2)
    else
    some (q2.1, (0 : Int32))
set_option maxRecDepth 20000 in
set_option maxHeartbeats 4000000 in
theorem m_X10_risk (l : Launch) (dd : va_G) (cT : Nat → ClassId) (lo : Nat) (G : gH) (a0 : Nat) (x1 : Int32) {rz : Int32} {Gz : gH} (h : f_X10_risk G a0 x1 = some (Gz, rz)) : Met l yX10_risk (Cond.code yX10_risk cX10_risk 2 (some .int) :: wsL_law) (g_rm 6 134 0 0) (va_Pc [.ref a0, .int x1] (g_Pre lo dd cT G)) (va_Qi (g_is rz Gz) (g_Pre lo dd cT) (g_A lo)) 0 0 (g_A lo) := by
  refine g_start RX10 rfl (by decide) (Nat.le_of_ble_eq_true rfl) ?_
  intro p e s m below meth c hx hb hr hlocks hml hown hnm hts hK hG hlo ls hl
  have hl : lv_has ls 2 [(0, .ref a0), (1, .int x1)] := hl
  have hG : g_S lo dd cT s s.heap [] G := hG
  unfold f_X10_risk at h
  refine lv_aload_n hx hb dX10_risk_0 rfl (lv_at hl 0 rfl) ?_
  refine lv_iload_n hx hb dX10_risk_1 rfl (lv_at hl 1 rfl) ?_
  obtain ⟨u2, i2, h⟩ := Option.bind_eq_some_iff.mp h
  obtain ⟨q2, e2, h⟩ := Option.bind_eq_some_iff.mp h
  refine g_cVi (As := [.int x1]) (rest := []) (n := 1) hx hb hml hown hts hK hlo hG (m_X10_noBlock l dd cT lo G a0 x1 e2) qM_X10_314 qI_yX10_noBlock qS_X10_yX10_noBlock qN_X10 qC_yX10_noBlock (by decide +kernel) ⟨Nat.le_of_ble_eq_true rfl, Nat.le_of_ble_eq_true rfl⟩ (by rfl) i2 rfl hl.1 rfl (Nat.le_of_ble_eq_true rfl) dX10_risk_2 ⟨Nat.le_of_ble_eq_true rfl, Nat.le_of_ble_eq_true rfl⟩ (fun H locs hG => ?_)
  refine lv_if_eq (tgt := 12) hx hb dX10_risk_5 (by decide) (fun c5 => ?_) (fun c5 => ?_)
  · rw [if_pos c5] at h
    refine lv_aload_n hx hb dX10_risk_12 rfl (lv_at hl 0 rfl) ?_
    refine lv_iload_n hx hb dX10_risk_13 rfl (lv_at hl 1 rfl) ?_
    obtain ⟨u14, i14, h⟩ := Option.bind_eq_some_iff.mp h
    obtain ⟨q14, e14, h⟩ := Option.bind_eq_some_iff.mp h
    refine g_cVi (As := [.int x1]) (rest := []) (n := 1) hx hb hml hown hts hK hlo hG (m_X10_riskOf l dd cT lo q2.1 a0 x1 e14) qM_X10_339 qI_yX10_riskOf qS_X10_yX10_riskOf qN_X10 qC_yX10_riskOf (by decide +kernel) ⟨Nat.le_of_ble_eq_true rfl, Nat.le_of_ble_eq_true rfl⟩ (by rfl) i14 rfl hl.1 rfl (Nat.le_of_ble_eq_true rfl) dX10_risk_14 ⟨Nat.le_of_ble_eq_true rfl, Nat.le_of_ble_eq_true rfl⟩ (fun H locs hG => ?_)
    obtain ⟨rfl, rfl⟩ := Prod.mk.inj (Option.some.inj h)
    exact g_iret hx hb hr hlocks hK hlo hG ⟨rfl, rfl⟩ dX10_risk_17
  · rw [if_neg c5] at h
    refine lv_iconst (v := (0 : Int32)) hx hb dX10_risk_8 (by decide) ?_
    refine lv_goto (tgt := 17) hx hb dX10_risk_9 (by decide) ?_
    obtain ⟨rfl, rfl⟩ := Prod.mk.inj (Option.some.inj h)
    exact g_iret hx hb hr hlocks hK hlo hG ⟨rfl, rfl⟩ dX10_risk_17
def f_X10_weakest_J39 (k11 : gH → Nat → Int32 → Int32 → Int32 → Option (gH × Int32)) (G : gH) (ba0 : Nat) (bx2 : Int32) (bx3 : Int32) (bx4 : Int32) (z0 : Int32) : Option (gH × Int32) :=
    if bx4 ≤ bx2 then
    k11 G ba0 z0 bx2 (bx3 + (1 : Int32))
    else
    k11 G ba0 z0 bx4 (bx3 + (1 : Int32))
def f_X10_weakest_L11 : Nat → gH → Nat → Int32 → Int32 → Int32 → Option (gH × Int32)
  | 0, _, _, _, _, _ => none
  | n + 1, G, ba0, bx1, bx2, bx3 =>
    (g_r G ba0 10 1).bind fun v13 =>
    (g_ald 0 G v13 (0 : Int32)).bind fun v17 =>
    if v17 ≤ bx3 then
    some (G, bx1)
    else
    (g_ob G ba0 10).bind fun u23 =>
    (f_X10_riskOf G ba0 bx3).bind fun q23 =>
    if q23.2 ≤ bx2 then
    f_X10_weakest_J39 (f_X10_weakest_L11 n) q23.1 ba0 bx2 bx3 q23.2 bx1
    else
    f_X10_weakest_J39 (f_X10_weakest_L11 n) q23.1 ba0 bx2 bx3 q23.2 bx3
def f_X10_weakest (G : gH) (a0 : Nat) : Option (gH × Int32) :=
    (g_put G a0 10 0 (.int (0 : Int32))).bind fun G2 =>
    f_X10_weakest_L11 g_N G2 a0 (0 : Int32) (0 : Int32) (0 : Int32)
set_option maxRecDepth 20000 in
set_option maxHeartbeats 4000000 in
theorem m_X10_weakest (l : Launch) (dd : va_G) (cT : Nat → ClassId) (lo : Nat) (G : gH) (a0 : Nat) {rz : Int32} {Gz : gH} (h : f_X10_weakest G a0 = some (Gz, rz)) : Met l yX10_weakest (Cond.code yX10_weakest cX10_weakest 5 (some .int) :: wsL_law) (g_rm 6 134 0 0) (va_Pc [.ref a0] (g_Pre lo dd cT G)) (va_Qi (g_is rz Gz) (g_Pre lo dd cT) (g_A lo)) 0 0 (g_A lo) := by
  refine g_start RX10 rfl (by decide) (Nat.le_of_ble_eq_true rfl) ?_
  intro p e s m below meth c hx hb hr hlocks hml hown hnm hts hK hG hlo ls hl
  have hl : lv_has ls 5 [(0, .ref a0)] := hl
  have hG : g_S lo dd cT s s.heap [] G := hG
  have h11 : ∀ n : Nat, ∀ (G : gH) (ba0 : Nat) (bx1 : Int32) (bx2 : Int32) (bx3 : Int32), ∀ (H : Heap) (locs : List Loc), g_S lo dd cT s H locs G → ∀ ls : Array Slot, lv_has ls 5 [(0, .ref ba0), (1, .int bx1), (2, .int bx2), (3, .int bx3)] → f_X10_weakest_L11 n G ba0 bx1 bx2 bx3 = some (Gz, rz) → W p l e (g_rm 6 134 0 0) s m ([.ref a0] : List Value).toArray below meth c H locs 0 0 (MQ below (va_Qi (g_is rz Gz) (g_Pre lo dd cT) (g_A lo)) ([.ref a0] : List Value).toArray s 0 0 (g_A lo)) (F0 m 11 ls []) := by
    intro n
    induction n with
    | zero =>
      intro G ba0 bx1 bx2 bx3 H locs hG ls hl h
      cases (show (none : Option (gH × Int32)) = some (Gz, rz) from h)
    | succ n ih =>
      intro G ba0 bx1 bx2 bx3 H locs hG ls hl h
      rw [f_X10_weakest_L11] at h
      have h39 : ∀ (G : gH) (ba0 : Nat) (bx2 : Int32) (bx3 : Int32) (bx4 : Int32) (z0 : Int32), ∀ (H : Heap) (locs : List Loc), g_S lo dd cT s H locs G → ∀ ls : Array Slot, lv_has ls 5 [(0, .ref ba0), (2, .int bx2), (3, .int bx3), (4, .int bx4)] → f_X10_weakest_J39 (f_X10_weakest_L11 n) G ba0 bx2 bx3 bx4 z0 = some (Gz, rz) → W p l e (g_rm 6 134 0 0) s m ([.ref a0] : List Value).toArray below meth c H locs 0 0 (MQ below (va_Qi (g_is rz Gz) (g_Pre lo dd cT) (g_A lo)) ([.ref a0] : List Value).toArray s 0 0 (g_A lo)) (F0 m 39 ls [.int z0]) := by
        intro G ba0 bx2 bx3 bx4 z0 H locs hG ls hl h
        unfold f_X10_weakest_J39 at h
        refine lv_istore_n (lv' := [(1, .int z0), (0, .ref ba0), (2, .int bx2), (3, .int bx3), (4, .int bx4)]) hx hb dX10_weakest_39 rfl hl (by decide) rfl (fun ls hl => ?_)
        refine lv_iload hx hb dX10_weakest_40 (lv_at hl 4 rfl) ?_
        refine lv_iload_n hx hb dX10_weakest_42 rfl (lv_at hl 2 rfl) ?_
        refine lv_icmp_le (tgt := 51) hx hb dX10_weakest_43 (by decide) (fun c43 => ?_) (fun c43 => ?_)
        · rw [if_pos c43] at h
          refine lv_iload_n hx hb dX10_weakest_51 rfl (lv_at hl 2 rfl) ?_
          refine lv_istore_n (lv' := [(2, .int bx2), (1, .int z0), (0, .ref ba0), (3, .int bx3), (4, .int bx4)]) hx hb dX10_weakest_52 rfl hl (by decide) rfl (fun ls hl => ?_)
          refine lv_iinc (v := (bx3 + (1 : Int32))) (lv' := [(3, .int (bx3 + (1 : Int32))), (2, .int bx2), (1, .int z0), (0, .ref ba0), (4, .int bx4)]) hx hb dX10_weakest_53 hl (k := 3) rfl rfl (by decide) rfl (fun ls hl => ?_)
          refine lv_goto (tgt := 11) hx hb dX10_weakest_56 (by decide) ?_
          exact ih G ba0 z0 bx2 (bx3 + (1 : Int32)) _ _ hG _ (lv_sub hl [3, 2, 1, 0] rfl) h
        · rw [if_neg c43] at h
          refine lv_iload hx hb dX10_weakest_46 (lv_at hl 4 rfl) ?_
          refine lv_goto (tgt := 52) hx hb dX10_weakest_48 (by decide) ?_
          refine lv_istore_n (lv' := [(2, .int bx4), (1, .int z0), (0, .ref ba0), (3, .int bx3), (4, .int bx4)]) hx hb dX10_weakest_52 rfl hl (by decide) rfl (fun ls hl => ?_)
          refine lv_iinc (v := (bx3 + (1 : Int32))) (lv' := [(3, .int (bx3 + (1 : Int32))), (2, .int bx4), (1, .int z0), (0, .ref ba0), (4, .int bx4)]) hx hb dX10_weakest_53 hl (k := 3) rfl rfl (by decide) rfl (fun ls hl => ?_)
          refine lv_goto (tgt := 11) hx hb dX10_weakest_56 (by decide) ?_
          exact ih G ba0 z0 bx4 (bx3 + (1 : Int32)) _ _ hG _ (lv_sub hl [3, 2, 1, 0] rfl) h
      refine lv_iload_n hx hb dX10_weakest_11 rfl (lv_at hl 3 rfl) ?_
      refine lv_aload_n hx hb dX10_weakest_12 rfl (lv_at hl 0 rfl) ?_
      obtain ⟨v13, e13, h⟩ := Option.bind_eq_some_iff.mp h
      refine g_getr hx hb hts inlX10 hown hK hG (by rfl) 1 (by decide) qF_X10_7 e13 dX10_weakest_13 ?_
      refine lv_iconst (v := (0 : Int32)) hx hb dX10_weakest_16 (by decide) ?_
      obtain ⟨v17, e17, h⟩ := Option.bind_eq_some_iff.mp h
      refine g_iald hx hb hK hG e17 dX10_weakest_17 ?_
      refine lv_icmp_ge (tgt := 59) hx hb dX10_weakest_18 (by decide) (fun c18 => ?_) (fun c18 => ?_)
      · rw [if_pos c18] at h
        refine lv_iload_n hx hb dX10_weakest_59 rfl (lv_at hl 1 rfl) ?_
        obtain ⟨rfl, rfl⟩ := Prod.mk.inj (Option.some.inj h)
        exact g_iret hx hb hr hlocks hK hlo hG ⟨rfl, rfl⟩ dX10_weakest_60
      · rw [if_neg c18] at h
        refine lv_aload_n hx hb dX10_weakest_21 rfl (lv_at hl 0 rfl) ?_
        refine lv_iload_n hx hb dX10_weakest_22 rfl (lv_at hl 3 rfl) ?_
        obtain ⟨u23, i23, h⟩ := Option.bind_eq_some_iff.mp h
        obtain ⟨q23, e23, h⟩ := Option.bind_eq_some_iff.mp h
        refine g_cVi (As := [.int bx3]) (rest := []) (n := 1) hx hb hml hown hts hK hlo hG (m_X10_riskOf l dd cT lo G ba0 bx3 e23) qM_X10_339 qI_yX10_riskOf qS_X10_yX10_riskOf qN_X10 qC_yX10_riskOf (by decide +kernel) ⟨Nat.le_of_ble_eq_true rfl, Nat.le_of_ble_eq_true rfl⟩ (by rfl) i23 rfl hl.1 rfl (Nat.le_of_ble_eq_true rfl) dX10_weakest_23 ⟨Nat.le_of_ble_eq_true rfl, Nat.le_of_ble_eq_true rfl⟩ (fun H locs hG => ?_)
        refine lv_istore (lv' := [(4, .int q23.2), (0, .ref ba0), (1, .int bx1), (2, .int bx2), (3, .int bx3)]) hx hb dX10_weakest_26 hl (by decide) rfl (fun ls hl => ?_)
        refine lv_iload hx hb dX10_weakest_28 (lv_at hl 0 rfl) ?_
        refine lv_iload_n hx hb dX10_weakest_30 rfl (lv_at hl 3 rfl) ?_
        refine lv_icmp_le (tgt := 38) hx hb dX10_weakest_31 (by decide) (fun c31 => ?_) (fun c31 => ?_)
        · rw [if_pos c31] at h
          refine lv_iload_n hx hb dX10_weakest_38 rfl (lv_at hl 2 rfl) ?_
          exact h39 q23.1 ba0 bx2 bx3 q23.2 bx1 _ _ hG _ (lv_sub hl [1, 3, 4, 0] rfl) h
        · rw [if_neg c31] at h
          refine lv_iload_n hx hb dX10_weakest_34 rfl (lv_at hl 4 rfl) ?_
          refine lv_goto (tgt := 39) hx hb dX10_weakest_35 (by decide) ?_
          exact h39 q23.1 ba0 bx2 bx3 q23.2 bx3 _ _ hG _ (lv_sub hl [1, 3, 4, 0] rfl) h
  unfold f_X10_weakest at h
  refine lv_aload_n hx hb dX10_weakest_0 rfl (lv_at hl 0 rfl) ?_
  refine lv_iconst (v := (0 : Int32)) hx hb dX10_weakest_1 (by decide) ?_
  obtain ⟨G2, i2, h⟩ := Option.bind_eq_some_iff.mp h
  refine g_putv hx hb hts inlX10 tyX10 tyX10_ok nmX10 hown hK hG (by rfl) 0 (by decide) qF_X10_50 rfl rfl rfl rfl i2 dX10_weakest_2 (fun H locs hG => ?_)
  refine lv_iconst (v := (0 : Int32)) hx hb dX10_weakest_5 (by decide) ?_
  refine lv_istore_n (lv' := [(1, .int (0 : Int32)), (0, .ref a0)]) hx hb dX10_weakest_6 rfl hl (by decide) rfl (fun ls hl => ?_)
  refine lv_iconst (v := (0 : Int32)) hx hb dX10_weakest_7 (by decide) ?_
  refine lv_istore_n (lv' := [(2, .int (0 : Int32)), (1, .int (0 : Int32)), (0, .ref a0)]) hx hb dX10_weakest_8 rfl hl (by decide) rfl (fun ls hl => ?_)
  refine lv_iconst (v := (0 : Int32)) hx hb dX10_weakest_9 (by decide) ?_
  refine lv_istore_n (lv' := [(3, .int (0 : Int32)), (2, .int (0 : Int32)), (1, .int (0 : Int32)), (0, .ref a0)]) hx hb dX10_weakest_10 rfl hl (by decide) rfl (fun ls hl => ?_)
  exact h11 g_N G2 a0 (0 : Int32) (0 : Int32) (0 : Int32) _ _ hG _ (lv_sub hl [3, 2, 1, 0] rfl) h
def f_X10_filesBefore (G : gH) (a0 : Nat) (x1 : Int32) : Option (gH × Int32) :=
    (g_ob G a0 10).bind fun u2 =>
    (f_X10_noSession G a0 x1).bind fun q2 =>
    if q2.2 = 0 then
    (g_ob q2.1 a0 10).bind fun u14 =>
    (f_X10_filesThere q2.1 a0 x1).bind fun q14 =>
    some (q14.1, q14.2)
    else
    some (q2.1, (0 : Int32))
set_option maxRecDepth 20000 in
set_option maxHeartbeats 4000000 in
theorem m_X10_filesBefore (l : Launch) (dd : va_G) (cT : Nat → ClassId) (lo : Nat) (G : gH) (a0 : Nat) (x1 : Int32) {rz : Int32} {Gz : gH} (h : f_X10_filesBefore G a0 x1 = some (Gz, rz)) : Met l yX10_filesBefore (Cond.code yX10_filesBefore cX10_filesBefore 2 (some .int) :: wsL_law) (g_rm 5 112 0 0) (va_Pc [.ref a0, .int x1] (g_Pre lo dd cT G)) (va_Qi (g_is rz Gz) (g_Pre lo dd cT) (g_A lo)) 0 0 (g_A lo) := by
  refine g_start RX10 rfl (by decide) (Nat.le_of_ble_eq_true rfl) ?_
  intro p e s m below meth c hx hb hr hlocks hml hown hnm hts hK hG hlo ls hl
  have hl : lv_has ls 2 [(0, .ref a0), (1, .int x1)] := hl
  have hG : g_S lo dd cT s s.heap [] G := hG
  unfold f_X10_filesBefore at h
  refine lv_aload_n hx hb dX10_filesBefore_0 rfl (lv_at hl 0 rfl) ?_
  refine lv_iload_n hx hb dX10_filesBefore_1 rfl (lv_at hl 1 rfl) ?_
  obtain ⟨u2, i2, h⟩ := Option.bind_eq_some_iff.mp h
  obtain ⟨q2, e2, h⟩ := Option.bind_eq_some_iff.mp h
  refine g_cVi (As := [.int x1]) (rest := []) (n := 1) hx hb hml hown hts hK hlo hG (m_X10_noSession l dd cT lo G a0 x1 e2) qM_X10_320 qI_yX10_noSession qS_X10_yX10_noSession qN_X10 qC_yX10_noSession (by decide +kernel) ⟨Nat.le_of_ble_eq_true rfl, Nat.le_of_ble_eq_true rfl⟩ (by rfl) i2 rfl hl.1 rfl (Nat.le_of_ble_eq_true rfl) dX10_filesBefore_2 ⟨Nat.le_of_ble_eq_true rfl, Nat.le_of_ble_eq_true rfl⟩ (fun H locs hG => ?_)
  refine lv_if_eq (tgt := 12) hx hb dX10_filesBefore_5 (by decide) (fun c5 => ?_) (fun c5 => ?_)
  · rw [if_pos c5] at h
    refine lv_aload_n hx hb dX10_filesBefore_12 rfl (lv_at hl 0 rfl) ?_
    refine lv_iload_n hx hb dX10_filesBefore_13 rfl (lv_at hl 1 rfl) ?_
    obtain ⟨u14, i14, h⟩ := Option.bind_eq_some_iff.mp h
    obtain ⟨q14, e14, h⟩ := Option.bind_eq_some_iff.mp h
    refine g_cVi (As := [.int x1]) (rest := []) (n := 1) hx hb hml hown hts hK hlo hG (m_X10_filesThere l dd cT lo q2.1 a0 x1 e14) qM_X10_302 qI_yX10_filesThere qS_X10_yX10_filesThere qN_X10 qC_yX10_filesThere (by decide +kernel) ⟨Nat.le_of_ble_eq_true rfl, Nat.le_of_ble_eq_true rfl⟩ (by rfl) i14 rfl hl.1 rfl (Nat.le_of_ble_eq_true rfl) dX10_filesBefore_14 ⟨Nat.le_of_ble_eq_true rfl, Nat.le_of_ble_eq_true rfl⟩ (fun H locs hG => ?_)
    obtain ⟨rfl, rfl⟩ := Prod.mk.inj (Option.some.inj h)
    exact g_iret hx hb hr hlocks hK hlo hG ⟨rfl, rfl⟩ dX10_filesBefore_17
  · rw [if_neg c5] at h
    refine lv_iconst (v := (0 : Int32)) hx hb dX10_filesBefore_8 (by decide) ?_
    refine lv_goto (tgt := 17) hx hb dX10_filesBefore_9 (by decide) ?_
    obtain ⟨rfl, rfl⟩ := Prod.mk.inj (Option.some.inj h)
    exact g_iret hx hb hr hlocks hK hlo hG ⟨rfl, rfl⟩ dX10_filesBefore_17
def f_X10_findsCounting_L32 : Nat → gH → Nat → Int32 → Option gH
  | 0, _, _, _ => none
  | n + 1, G, ba0, bx1 =>
    (g_r G ba0 10 1).bind fun v34 =>
    (g_ald 0 G v34 (2 : Int32)).bind fun v38 =>
    if v38 ≤ bx1 then
    some G
    else
    (g_ob G ba0 10).bind fun u46 =>
    (f_X10_seeks G ba0 bx1 (12 : Int32)).bind fun G46 =>
    (g_i G46 ba0 10 20).bind fun v50 =>
    if v50 = (-1 : Int32) then
    f_X10_findsCounting_L32 n G46 ba0 (bx1 + (1 : Int32))
    else
    (g_r G46 ba0 10 23).bind fun v58 =>
    (g_i G46 ba0 10 20).bind fun v62 =>
    (g_ast 1 G46 v58 v62 (1 : Int32)).bind fun G66 =>
    f_X10_findsCounting_L32 n G66 ba0 (bx1 + (1 : Int32))
def f_X10_findsCounting_L2 : Nat → gH → Nat → Int32 → Option gH
  | 0, _, _, _ => none
  | n + 1, G, ba0, bx1 =>
    (g_r G ba0 10 1).bind fun v4 =>
    (g_ald 0 G v4 (6 : Int32)).bind fun v9 =>
    if v9 ≤ bx1 then
    (g_ob G ba0 10).bind fun u27 =>
    (f_X10_searches G ba0).bind fun G27 =>
    f_X10_findsCounting_L32 g_N G27 ba0 (0 : Int32)
    else
    (g_r G ba0 10 23).bind fun v14 =>
    (g_ast 1 G v14 bx1 (0 : Int32)).bind fun G19 =>
    f_X10_findsCounting_L2 n G19 ba0 (bx1 + (1 : Int32))
def f_X10_findsCounting (G : gH) (a0 : Nat) : Option gH :=
    f_X10_findsCounting_L2 g_N G a0 (0 : Int32)
set_option maxRecDepth 20000 in
set_option maxHeartbeats 4000000 in
theorem m_X10_findsCounting (l : Launch) (dd : va_G) (cT : Nat → ClassId) (lo : Nat) (G : gH) (a0 : Nat) {Gz : gH} (h : f_X10_findsCounting G a0 = some Gz) : Met l yX10_findsCounting (Cond.code yX10_findsCounting cX10_findsCounting 2 none :: wsL_law) (g_rm 4 89 0 0) (va_Pc [.ref a0] (g_Pre lo dd cT G)) (va_Qv (g_iv Gz) (g_Pre lo dd cT) (g_A lo)) 0 0 (g_A lo) := by
  refine g_start RX10 rfl (by decide) (Nat.le_of_ble_eq_true rfl) ?_
  intro p e s m below meth c hx hb hr hlocks hml hown hnm hts hK hG hlo ls hl
  have hl : lv_has ls 2 [(0, .ref a0)] := hl
  have hG : g_S lo dd cT s s.heap [] G := hG
  have h32 : ∀ n : Nat, ∀ (G : gH) (ba0 : Nat) (bx1 : Int32), ∀ (H : Heap) (locs : List Loc), g_S lo dd cT s H locs G → ∀ ls : Array Slot, lv_has ls 2 [(0, .ref ba0), (1, .int bx1)] → f_X10_findsCounting_L32 n G ba0 bx1 = some Gz → W p l e (g_rm 4 89 0 0) s m ([.ref a0] : List Value).toArray below meth c H locs 0 0 (MQ below (va_Qv (g_iv Gz) (g_Pre lo dd cT) (g_A lo)) ([.ref a0] : List Value).toArray s 0 0 (g_A lo)) (F0 m 32 ls []) := by
    intro n
    induction n with
    | zero =>
      intro G ba0 bx1 H locs hG ls hl h
      cases (show (none : Option gH) = some Gz from h)
    | succ n ih =>
      intro G ba0 bx1 H locs hG ls hl h
      rw [f_X10_findsCounting_L32] at h
      refine lv_iload_n hx hb dX10_findsCounting_32 rfl (lv_at hl 1 rfl) ?_
      refine lv_aload_n hx hb dX10_findsCounting_33 rfl (lv_at hl 0 rfl) ?_
      obtain ⟨v34, e34, h⟩ := Option.bind_eq_some_iff.mp h
      refine g_getr hx hb hts inlX10 hown hK hG (by rfl) 1 (by decide) qF_X10_7 e34 dX10_findsCounting_34 ?_
      refine lv_iconst (v := (2 : Int32)) hx hb dX10_findsCounting_37 (by decide) ?_
      obtain ⟨v38, e38, h⟩ := Option.bind_eq_some_iff.mp h
      refine g_iald hx hb hK hG e38 dX10_findsCounting_38 ?_
      refine lv_icmp_ge (tgt := 73) hx hb dX10_findsCounting_39 (by decide) (fun c39 => ?_) (fun c39 => ?_)
      · rw [if_pos c39] at h
        obtain rfl := Option.some.inj h
        exact g_vret hx hb hr hlocks hK hlo hG rfl dX10_findsCounting_73
      · rw [if_neg c39] at h
        refine lv_aload_n hx hb dX10_findsCounting_42 rfl (lv_at hl 0 rfl) ?_
        refine lv_iload_n hx hb dX10_findsCounting_43 rfl (lv_at hl 1 rfl) ?_
        refine lv_bipush (v := (12 : Int32)) hx hb dX10_findsCounting_44 (by decide) ?_
        obtain ⟨u46, i46, h⟩ := Option.bind_eq_some_iff.mp h
        obtain ⟨G46, e46, h⟩ := Option.bind_eq_some_iff.mp h
        refine g_cVv (As := [.int bx1, .int (12 : Int32)]) (rest := []) (n := 2) hx hb hml hown hts hK hlo hG (m_X10_seeks l dd cT lo G ba0 bx1 (12 : Int32) e46) qM_X10_245 qI_yX10_seeks qS_X10_yX10_seeks qN_X10 qC_yX10_seeks (by decide +kernel) ⟨Nat.le_of_ble_eq_true rfl, Nat.le_of_ble_eq_true rfl⟩ (by rfl) i46 rfl hl.1 rfl (Nat.le_of_ble_eq_true rfl) dX10_findsCounting_46 ⟨Nat.le_of_ble_eq_true rfl, Nat.le_of_ble_eq_true rfl⟩ (fun H locs hG => ?_)
        refine lv_aload_n hx hb dX10_findsCounting_49 rfl (lv_at hl 0 rfl) ?_
        obtain ⟨v50, e50, h⟩ := Option.bind_eq_some_iff.mp h
        refine g_geti hx hb hts inlX10 hown hK hG (by rfl) 20 (by decide) qF_X10_236 e50 dX10_findsCounting_50 ?_
        refine lv_iconst (v := (-1 : Int32)) hx hb dX10_findsCounting_53 (by decide) ?_
        refine lv_icmp_eq (tgt := 67) hx hb dX10_findsCounting_54 (by decide) (fun c54 => ?_) (fun c54 => ?_)
        · rw [if_pos c54] at h
          refine lv_iinc (v := (bx1 + (1 : Int32))) (lv' := [(1, .int (bx1 + (1 : Int32))), (0, .ref ba0)]) hx hb dX10_findsCounting_67 hl (k := 1) rfl rfl (by decide) rfl (fun ls hl => ?_)
          refine lv_goto (tgt := 32) hx hb dX10_findsCounting_70 (by decide) ?_
          exact ih G46 ba0 (bx1 + (1 : Int32)) _ _ hG _ (lv_sub hl [1, 0] rfl) h
        · rw [if_neg c54] at h
          refine lv_aload_n hx hb dX10_findsCounting_57 rfl (lv_at hl 0 rfl) ?_
          obtain ⟨v58, e58, h⟩ := Option.bind_eq_some_iff.mp h
          refine g_getr hx hb hts inlX10 hown hK hG (by rfl) 23 (by decide) qF_X10_37 e58 dX10_findsCounting_58 ?_
          refine lv_aload_n hx hb dX10_findsCounting_61 rfl (lv_at hl 0 rfl) ?_
          obtain ⟨v62, e62, h⟩ := Option.bind_eq_some_iff.mp h
          refine g_geti hx hb hts inlX10 hown hK hG (by rfl) 20 (by decide) qF_X10_236 e62 dX10_findsCounting_62 ?_
          refine lv_iconst (v := (1 : Int32)) hx hb dX10_findsCounting_65 (by decide) ?_
          obtain ⟨G66, e66, h⟩ := Option.bind_eq_some_iff.mp h
          refine g_zast hx hb hK hG e66 dX10_findsCounting_66 (fun H locs hG => ?_)
          refine lv_iinc (v := (bx1 + (1 : Int32))) (lv' := [(1, .int (bx1 + (1 : Int32))), (0, .ref ba0)]) hx hb dX10_findsCounting_67 hl (k := 1) rfl rfl (by decide) rfl (fun ls hl => ?_)
          refine lv_goto (tgt := 32) hx hb dX10_findsCounting_70 (by decide) ?_
          exact ih G66 ba0 (bx1 + (1 : Int32)) _ _ hG _ (lv_sub hl [1, 0] rfl) h
  have h2 : ∀ n : Nat, ∀ (G : gH) (ba0 : Nat) (bx1 : Int32), ∀ (H : Heap) (locs : List Loc), g_S lo dd cT s H locs G → ∀ ls : Array Slot, lv_has ls 2 [(0, .ref ba0), (1, .int bx1)] → f_X10_findsCounting_L2 n G ba0 bx1 = some Gz → W p l e (g_rm 4 89 0 0) s m ([.ref a0] : List Value).toArray below meth c H locs 0 0 (MQ below (va_Qv (g_iv Gz) (g_Pre lo dd cT) (g_A lo)) ([.ref a0] : List Value).toArray s 0 0 (g_A lo)) (F0 m 2 ls []) := by
    intro n
    induction n with
    | zero =>
      intro G ba0 bx1 H locs hG ls hl h
      cases (show (none : Option gH) = some Gz from h)
    | succ n ih =>
      intro G ba0 bx1 H locs hG ls hl h
      rw [f_X10_findsCounting_L2] at h
      refine lv_iload_n hx hb dX10_findsCounting_2 rfl (lv_at hl 1 rfl) ?_
      refine lv_aload_n hx hb dX10_findsCounting_3 rfl (lv_at hl 0 rfl) ?_
      obtain ⟨v4, e4, h⟩ := Option.bind_eq_some_iff.mp h
      refine g_getr hx hb hts inlX10 hown hK hG (by rfl) 1 (by decide) qF_X10_7 e4 dX10_findsCounting_4 ?_
      refine lv_bipush (v := (6 : Int32)) hx hb dX10_findsCounting_7 (by decide) ?_
      obtain ⟨v9, e9, h⟩ := Option.bind_eq_some_iff.mp h
      refine g_iald hx hb hK hG e9 dX10_findsCounting_9 ?_
      refine lv_icmp_ge (tgt := 26) hx hb dX10_findsCounting_10 (by decide) (fun c10 => ?_) (fun c10 => ?_)
      · rw [if_pos c10] at h
        refine lv_aload_n hx hb dX10_findsCounting_26 rfl (lv_at hl 0 rfl) ?_
        obtain ⟨u27, i27, h⟩ := Option.bind_eq_some_iff.mp h
        obtain ⟨G27, e27, h⟩ := Option.bind_eq_some_iff.mp h
        refine g_cVv (As := []) (rest := []) (n := 0) hx hb hml hown hts hK hlo hG (m_X10_searches l dd cT lo G ba0 e27) qM_X10_242 qI_yX10_searches qS_X10_yX10_searches qN_X10 qC_yX10_searches (by decide +kernel) ⟨Nat.le_of_ble_eq_true rfl, Nat.le_of_ble_eq_true rfl⟩ (by rfl) i27 rfl hl.1 rfl (Nat.le_of_ble_eq_true rfl) dX10_findsCounting_27 ⟨Nat.le_of_ble_eq_true rfl, Nat.le_of_ble_eq_true rfl⟩ (fun H locs hG => ?_)
        refine lv_iconst (v := (0 : Int32)) hx hb dX10_findsCounting_30 (by decide) ?_
        refine lv_istore_n (lv' := [(1, .int (0 : Int32)), (0, .ref ba0)]) hx hb dX10_findsCounting_31 rfl hl (by decide) rfl (fun ls hl => ?_)
        exact h32 g_N G27 ba0 (0 : Int32) _ _ hG _ (lv_sub hl [1, 0] rfl) h
      · rw [if_neg c10] at h
        refine lv_aload_n hx hb dX10_findsCounting_13 rfl (lv_at hl 0 rfl) ?_
        obtain ⟨v14, e14, h⟩ := Option.bind_eq_some_iff.mp h
        refine g_getr hx hb hts inlX10 hown hK hG (by rfl) 23 (by decide) qF_X10_37 e14 dX10_findsCounting_14 ?_
        refine lv_iload_n hx hb dX10_findsCounting_17 rfl (lv_at hl 1 rfl) ?_
        refine lv_iconst (v := (0 : Int32)) hx hb dX10_findsCounting_18 (by decide) ?_
        obtain ⟨G19, e19, h⟩ := Option.bind_eq_some_iff.mp h
        refine g_zast hx hb hK hG e19 dX10_findsCounting_19 (fun H locs hG => ?_)
        refine lv_iinc (v := (bx1 + (1 : Int32))) (lv' := [(1, .int (bx1 + (1 : Int32))), (0, .ref ba0)]) hx hb dX10_findsCounting_20 hl (k := 1) rfl rfl (by decide) rfl (fun ls hl => ?_)
        refine lv_goto (tgt := 2) hx hb dX10_findsCounting_23 (by decide) ?_
        exact ih G19 ba0 (bx1 + (1 : Int32)) _ _ hG _ (lv_sub hl [1, 0] rfl) h
  unfold f_X10_findsCounting at h
  refine lv_iconst (v := (0 : Int32)) hx hb dX10_findsCounting_0 (by decide) ?_
  refine lv_istore_n (lv' := [(1, .int (0 : Int32)), (0, .ref a0)]) hx hb dX10_findsCounting_1 rfl hl (by decide) rfl (fun ls hl => ?_)
  exact h2 g_N G a0 (0 : Int32) _ _ hG _ (lv_sub hl [1, 0] rfl) h
def f_X10_useOf (G : gH) (a0 : Nat) (x1 : Int32) : Option Int32 :=
    (g_r G a0 10 1).bind fun v1 =>
    (g_ald 0 G v1 ((7 : Int32) + x1)).bind fun v8 =>
    if v8 = (0 : Int32) then
    some (0 : Int32)
    else
    if v8 = (1 : Int32) then
    (g_r G a0 10 23).bind fun v39 =>
    (g_r G a0 10 1).bind fun v43 =>
    (g_ald 0 G v43 ((391 : Int32) + x1)).bind fun v51 =>
    (g_ald 1 G v39 (v51 - (1 : Int32))).bind fun v54 =>
    if v54 = 0 then
    some (2 : Int32)
    else
    some (1 : Int32)
    else
    if v8 = (2 : Int32) then
    some (3 : Int32)
    else
    some (4 : Int32)
set_option maxRecDepth 20000 in
set_option maxHeartbeats 4000000 in
theorem m_X10_useOf (l : Launch) (dd : va_G) (cT : Nat → ClassId) (lo : Nat) (G : gH) (a0 : Nat) (x1 : Int32) {rz : Int32} (h : f_X10_useOf G a0 x1 = some rz) : Met l yX10_useOf (Cond.code yX10_useOf cX10_useOf 2 (some .int) :: wsL_law) (g_rm 0 0 0 0) (va_Pc [.ref a0, .int x1] (g_Pre lo dd cT G)) (va_Qi (g_is rz G) (g_Pre lo dd cT) (g_A lo)) 0 0 (g_A lo) := by
  refine g_start RX10 rfl (by decide) (Nat.le_of_ble_eq_true rfl) ?_
  intro p e s m below meth c hx hb hr hlocks hml hown hnm hts hK hG hlo ls hl
  have hl : lv_has ls 2 [(0, .ref a0), (1, .int x1)] := hl
  have hG : g_S lo dd cT s s.heap [] G := hG
  unfold f_X10_useOf at h
  refine lv_aload_n hx hb dX10_useOf_0 rfl (lv_at hl 0 rfl) ?_
  obtain ⟨v1, e1, h⟩ := Option.bind_eq_some_iff.mp h
  refine g_getr hx hb hts inlX10 hown hK hG (by rfl) 1 (by decide) qF_X10_7 e1 dX10_useOf_1 ?_
  refine lv_bipush (v := (7 : Int32)) hx hb dX10_useOf_4 (by decide) ?_
  refine lv_iload_n hx hb dX10_useOf_6 rfl (lv_at hl 1 rfl) ?_
  refine lv_iadd hx hb dX10_useOf_7 ?_
  obtain ⟨v8, e8, h⟩ := Option.bind_eq_some_iff.mp h
  refine g_iald hx hb hK hG e8 dX10_useOf_8 ?_
  by_cases c9_0 : v8 = (0 : Int32)
  · rw [if_pos c9_0] at h
    refine g_swIn (tgt := 36) hx hb dX10_useOf_9 (0 : Int32) c9_0 (by decide) (by decide) 27 (by decide) (by decide) ?_
    refine lv_iconst (v := (0 : Int32)) hx hb dX10_useOf_36 (by decide) ?_
    obtain rfl := Option.some.inj h
    exact g_iret hx hb hr hlocks hK hlo hG ⟨rfl, rfl⟩ dX10_useOf_37
  rw [if_neg c9_0] at h
  by_cases c9_1 : v8 = (1 : Int32)
  · rw [if_pos c9_1] at h
    refine g_swIn (tgt := 38) hx hb dX10_useOf_9 (1 : Int32) c9_1 (by decide) (by decide) 29 (by decide) (by decide) ?_
    refine lv_aload_n hx hb dX10_useOf_38 rfl (lv_at hl 0 rfl) ?_
    obtain ⟨v39, e39, h⟩ := Option.bind_eq_some_iff.mp h
    refine g_getr hx hb hts inlX10 hown hK hG (by rfl) 23 (by decide) qF_X10_37 e39 dX10_useOf_39 ?_
    refine lv_aload_n hx hb dX10_useOf_42 rfl (lv_at hl 0 rfl) ?_
    obtain ⟨v43, e43, h⟩ := Option.bind_eq_some_iff.mp h
    refine g_getr hx hb hts inlX10 hown hK hG (by rfl) 1 (by decide) qF_X10_7 e43 dX10_useOf_43 ?_
    refine lv_sipush (v := (391 : Int32)) hx hb dX10_useOf_46 (by decide) ?_
    refine lv_iload_n hx hb dX10_useOf_49 rfl (lv_at hl 1 rfl) ?_
    refine lv_iadd hx hb dX10_useOf_50 ?_
    obtain ⟨v51, e51, h⟩ := Option.bind_eq_some_iff.mp h
    refine g_iald hx hb hK hG e51 dX10_useOf_51 ?_
    refine lv_iconst (v := (1 : Int32)) hx hb dX10_useOf_52 (by decide) ?_
    refine lv_isub hx hb dX10_useOf_53 ?_
    obtain ⟨v54, e54, h⟩ := Option.bind_eq_some_iff.mp h
    refine g_zald hx hb hK hG e54 dX10_useOf_54 ?_
    refine lv_if_eq (tgt := 62) hx hb dX10_useOf_55 (by decide) (fun c55 => ?_) (fun c55 => ?_)
    · rw [if_pos c55] at h
      refine lv_iconst (v := (2 : Int32)) hx hb dX10_useOf_62 (by decide) ?_
      obtain rfl := Option.some.inj h
      exact g_iret hx hb hr hlocks hK hlo hG ⟨rfl, rfl⟩ dX10_useOf_63
    · rw [if_neg c55] at h
      refine lv_iconst (v := (1 : Int32)) hx hb dX10_useOf_58 (by decide) ?_
      refine lv_goto (tgt := 63) hx hb dX10_useOf_59 (by decide) ?_
      obtain rfl := Option.some.inj h
      exact g_iret hx hb hr hlocks hK hlo hG ⟨rfl, rfl⟩ dX10_useOf_63
  rw [if_neg c9_1] at h
  by_cases c9_2 : v8 = (2 : Int32)
  · rw [if_pos c9_2] at h
    refine g_swIn (tgt := 64) hx hb dX10_useOf_9 (2 : Int32) c9_2 (by decide) (by decide) 55 (by decide) (by decide) ?_
    refine lv_iconst (v := (3 : Int32)) hx hb dX10_useOf_64 (by decide) ?_
    obtain rfl := Option.some.inj h
    exact g_iret hx hb hr hlocks hK hlo hG ⟨rfl, rfl⟩ dX10_useOf_65
  rw [if_neg c9_2] at h
  have z9 : v8.toInt < 0 ∨ 2 < v8.toInt := by
    have y0 : ¬ v8.toInt = 0 := fun w => c9_0 (Int32.toInt_inj.mp (by rw [w]; rfl))
    have y1 : ¬ v8.toInt = 1 := fun w => c9_1 (Int32.toInt_inj.mp (by rw [w]; rfl))
    have y2 : ¬ v8.toInt = 2 := fun w => c9_2 (Int32.toInt_inj.mp (by rw [w]; rfl))
    omega
  refine lv_tableOut (tgt := 66) hx hb dX10_useOf_9 z9 (by decide) ?_
  refine lv_iconst (v := (4 : Int32)) hx hb dX10_useOf_66 (by decide) ?_
  obtain rfl := Option.some.inj h
  exact g_iret hx hb hr hlocks hK hlo hG ⟨rfl, rfl⟩ dX10_useOf_67
def f_X10_spaceBy_L9 : Nat → gH → Nat → Int32 → Int32 → Int32 → Int32 → Option (gH × Int32)
  | 0, _, _, _, _, _, _ => none
  | n + 1, G, ba0, bx1, bx2, bx3, bx4 =>
    (g_r G ba0 10 1).bind fun v12 =>
    (g_ald 0 G v12 (0 : Int32)).bind fun v16 =>
    if v16 ≤ bx4 then
    some (G, bx3)
    else
    (g_ob G ba0 10).bind fun u24 =>
    (f_X10_useOf G ba0 bx4).bind fun v24 =>
    if v24 = bx2 then
    if bx1 = (-1 : Int32) then
    f_X10_spaceBy_L9 n G ba0 bx1 bx2 (bx3 + (1 : Int32)) (bx4 + (1 : Int32))
    else
    (g_r G ba0 10 1).bind fun v37 =>
    (g_ald 0 G v37 ((295 : Int32) + bx4)).bind fun v46 =>
    if v46 = (bx1 + (1 : Int32)) then
    f_X10_spaceBy_L9 n G ba0 bx1 bx2 (bx3 + (1 : Int32)) (bx4 + (1 : Int32))
    else
    f_X10_spaceBy_L9 n G ba0 bx1 bx2 (bx3 + (0 : Int32)) (bx4 + (1 : Int32))
    else
    f_X10_spaceBy_L9 n G ba0 bx1 bx2 (bx3 + (0 : Int32)) (bx4 + (1 : Int32))
def f_X10_spaceBy (G : gH) (a0 : Nat) (x1 : Int32) (x2 : Int32) : Option (gH × Int32) :=
    (g_ob G a0 10).bind fun u1 =>
    (f_X10_findsCounting G a0).bind fun G1 =>
    f_X10_spaceBy_L9 g_N G1 a0 x1 x2 (0 : Int32) (0 : Int32)
set_option maxRecDepth 20000 in
set_option maxHeartbeats 4000000 in
theorem m_X10_spaceBy (l : Launch) (dd : va_G) (cT : Nat → ClassId) (lo : Nat) (G : gH) (a0 : Nat) (x1 : Int32) (x2 : Int32) {rz : Int32} {Gz : gH} (h : f_X10_spaceBy G a0 x1 x2 = some (Gz, rz)) : Met l yX10_spaceBy (Cond.code yX10_spaceBy cX10_spaceBy 5 (some .int) :: wsL_law) (g_rm 5 110 0 0) (va_Pc [.ref a0, .int x1, .int x2] (g_Pre lo dd cT G)) (va_Qi (g_is rz Gz) (g_Pre lo dd cT) (g_A lo)) 0 0 (g_A lo) := by
  refine g_start RX10 rfl (by decide) (Nat.le_of_ble_eq_true rfl) ?_
  intro p e s m below meth c hx hb hr hlocks hml hown hnm hts hK hG hlo ls hl
  have hl : lv_has ls 5 [(0, .ref a0), (1, .int x1), (2, .int x2)] := hl
  have hG : g_S lo dd cT s s.heap [] G := hG
  have h9 : ∀ n : Nat, ∀ (G : gH) (ba0 : Nat) (bx1 : Int32) (bx2 : Int32) (bx3 : Int32) (bx4 : Int32), ∀ (H : Heap) (locs : List Loc), g_S lo dd cT s H locs G → ∀ ls : Array Slot, lv_has ls 5 [(0, .ref ba0), (1, .int bx1), (2, .int bx2), (3, .int bx3), (4, .int bx4)] → f_X10_spaceBy_L9 n G ba0 bx1 bx2 bx3 bx4 = some (Gz, rz) → W p l e (g_rm 5 110 0 0) s m ([.ref a0, .int x1, .int x2] : List Value).toArray below meth c H locs 0 0 (MQ below (va_Qi (g_is rz Gz) (g_Pre lo dd cT) (g_A lo)) ([.ref a0, .int x1, .int x2] : List Value).toArray s 0 0 (g_A lo)) (F0 m 9 ls []) := by
    intro n
    induction n with
    | zero =>
      intro G ba0 bx1 bx2 bx3 bx4 H locs hG ls hl h
      cases (show (none : Option (gH × Int32)) = some (Gz, rz) from h)
    | succ n ih =>
      intro G ba0 bx1 bx2 bx3 bx4 H locs hG ls hl h
      rw [f_X10_spaceBy_L9] at h
      refine lv_iload hx hb dX10_spaceBy_9 (lv_at hl 4 rfl) ?_
      refine lv_aload_n hx hb dX10_spaceBy_11 rfl (lv_at hl 0 rfl) ?_
      obtain ⟨v12, e12, h⟩ := Option.bind_eq_some_iff.mp h
      refine g_getr hx hb hts inlX10 hown hK hG (by rfl) 1 (by decide) qF_X10_7 e12 dX10_spaceBy_12 ?_
      refine lv_iconst (v := (0 : Int32)) hx hb dX10_spaceBy_15 (by decide) ?_
      obtain ⟨v16, e16, h⟩ := Option.bind_eq_some_iff.mp h
      refine g_iald hx hb hK hG e16 dX10_spaceBy_16 ?_
      refine lv_icmp_ge (tgt := 66) hx hb dX10_spaceBy_17 (by decide) (fun c17 => ?_) (fun c17 => ?_)
      · rw [if_pos c17] at h
        refine lv_iload_n hx hb dX10_spaceBy_66 rfl (lv_at hl 3 rfl) ?_
        obtain ⟨rfl, rfl⟩ := Prod.mk.inj (Option.some.inj h)
        exact g_iret hx hb hr hlocks hK hlo hG ⟨rfl, rfl⟩ dX10_spaceBy_67
      · rw [if_neg c17] at h
        refine lv_iload_n hx hb dX10_spaceBy_20 rfl (lv_at hl 3 rfl) ?_
        refine lv_aload_n hx hb dX10_spaceBy_21 rfl (lv_at hl 0 rfl) ?_
        refine lv_iload hx hb dX10_spaceBy_22 (lv_at hl 4 rfl) ?_
        obtain ⟨u24, i24, h⟩ := Option.bind_eq_some_iff.mp h
        obtain ⟨v24, e24, h⟩ := Option.bind_eq_some_iff.mp h
        refine g_cVi (As := [.int bx4]) (rest := [.int bx3]) (n := 1) hx hb hml hown hts hK hlo hG (m_X10_useOf l dd cT lo G ba0 bx4 e24) qM_X10_345 qI_yX10_useOf qS_X10_yX10_useOf qN_X10 qC_yX10_useOf (by decide +kernel) ⟨Nat.le_of_ble_eq_true rfl, Nat.le_of_ble_eq_true rfl⟩ (by rfl) i24 rfl hl.1 rfl (Nat.le_of_ble_eq_true rfl) dX10_spaceBy_24 ⟨Nat.le_of_ble_eq_true rfl, Nat.le_of_ble_eq_true rfl⟩ (fun H locs hG => ?_)
        refine lv_iload_n hx hb dX10_spaceBy_27 rfl (lv_at hl 2 rfl) ?_
        refine lv_icmp_ne (tgt := 57) hx hb dX10_spaceBy_28 (by decide) (fun c28 => ?_) (fun c28 => ?_)
        · rw [if_neg c28] at h
          refine lv_iconst (v := (0 : Int32)) hx hb dX10_spaceBy_57 (by decide) ?_
          refine lv_iadd hx hb dX10_spaceBy_58 ?_
          refine lv_istore_n (lv' := [(3, .int (bx3 + (0 : Int32))), (0, .ref ba0), (1, .int bx1), (2, .int bx2), (4, .int bx4)]) hx hb dX10_spaceBy_59 rfl hl (by decide) rfl (fun ls hl => ?_)
          refine lv_iinc (v := (bx4 + (1 : Int32))) (lv' := [(4, .int (bx4 + (1 : Int32))), (3, .int (bx3 + (0 : Int32))), (0, .ref ba0), (1, .int bx1), (2, .int bx2)]) hx hb dX10_spaceBy_60 hl (k := 4) rfl rfl (by decide) rfl (fun ls hl => ?_)
          refine lv_goto (tgt := 9) hx hb dX10_spaceBy_63 (by decide) ?_
          exact ih G ba0 bx1 bx2 (bx3 + (0 : Int32)) (bx4 + (1 : Int32)) _ _ hG _ (lv_sub hl [2, 3, 4, 1, 0] rfl) h
        · rw [if_pos c28] at h
          refine lv_iload_n hx hb dX10_spaceBy_31 rfl (lv_at hl 1 rfl) ?_
          refine lv_iconst (v := (-1 : Int32)) hx hb dX10_spaceBy_32 (by decide) ?_
          refine lv_icmp_eq (tgt := 53) hx hb dX10_spaceBy_33 (by decide) (fun c33 => ?_) (fun c33 => ?_)
          · rw [if_pos c33] at h
            refine lv_iconst (v := (1 : Int32)) hx hb dX10_spaceBy_53 (by decide) ?_
            refine lv_goto (tgt := 58) hx hb dX10_spaceBy_54 (by decide) ?_
            refine lv_iadd hx hb dX10_spaceBy_58 ?_
            refine lv_istore_n (lv' := [(3, .int (bx3 + (1 : Int32))), (0, .ref ba0), (1, .int bx1), (2, .int bx2), (4, .int bx4)]) hx hb dX10_spaceBy_59 rfl hl (by decide) rfl (fun ls hl => ?_)
            refine lv_iinc (v := (bx4 + (1 : Int32))) (lv' := [(4, .int (bx4 + (1 : Int32))), (3, .int (bx3 + (1 : Int32))), (0, .ref ba0), (1, .int bx1), (2, .int bx2)]) hx hb dX10_spaceBy_60 hl (k := 4) rfl rfl (by decide) rfl (fun ls hl => ?_)
            refine lv_goto (tgt := 9) hx hb dX10_spaceBy_63 (by decide) ?_
            exact ih G ba0 bx1 bx2 (bx3 + (1 : Int32)) (bx4 + (1 : Int32)) _ _ hG _ (lv_sub hl [2, 3, 4, 1, 0] rfl) h
          · rw [if_neg c33] at h
            refine lv_aload_n hx hb dX10_spaceBy_36 rfl (lv_at hl 0 rfl) ?_
            obtain ⟨v37, e37, h⟩ := Option.bind_eq_some_iff.mp h
            refine g_getr hx hb hts inlX10 hown hK hG (by rfl) 1 (by decide) qF_X10_7 e37 dX10_spaceBy_37 ?_
            refine lv_sipush (v := (295 : Int32)) hx hb dX10_spaceBy_40 (by decide) ?_
            refine lv_iload hx hb dX10_spaceBy_43 (lv_at hl 4 rfl) ?_
            refine lv_iadd hx hb dX10_spaceBy_45 ?_
            obtain ⟨v46, e46, h⟩ := Option.bind_eq_some_iff.mp h
            refine g_iald hx hb hK hG e46 dX10_spaceBy_46 ?_
            refine lv_iload_n hx hb dX10_spaceBy_47 rfl (lv_at hl 1 rfl) ?_
            refine lv_iconst (v := (1 : Int32)) hx hb dX10_spaceBy_48 (by decide) ?_
            refine lv_iadd hx hb dX10_spaceBy_49 ?_
            refine lv_icmp_ne (tgt := 57) hx hb dX10_spaceBy_50 (by decide) (fun c50 => ?_) (fun c50 => ?_)
            · rw [if_neg c50] at h
              refine lv_iconst (v := (0 : Int32)) hx hb dX10_spaceBy_57 (by decide) ?_
              refine lv_iadd hx hb dX10_spaceBy_58 ?_
              refine lv_istore_n (lv' := [(3, .int (bx3 + (0 : Int32))), (0, .ref ba0), (1, .int bx1), (2, .int bx2), (4, .int bx4)]) hx hb dX10_spaceBy_59 rfl hl (by decide) rfl (fun ls hl => ?_)
              refine lv_iinc (v := (bx4 + (1 : Int32))) (lv' := [(4, .int (bx4 + (1 : Int32))), (3, .int (bx3 + (0 : Int32))), (0, .ref ba0), (1, .int bx1), (2, .int bx2)]) hx hb dX10_spaceBy_60 hl (k := 4) rfl rfl (by decide) rfl (fun ls hl => ?_)
              refine lv_goto (tgt := 9) hx hb dX10_spaceBy_63 (by decide) ?_
              exact ih G ba0 bx1 bx2 (bx3 + (0 : Int32)) (bx4 + (1 : Int32)) _ _ hG _ (lv_sub hl [2, 3, 4, 1, 0] rfl) h
            · rw [if_pos c50] at h
              refine lv_iconst (v := (1 : Int32)) hx hb dX10_spaceBy_53 (by decide) ?_
              refine lv_goto (tgt := 58) hx hb dX10_spaceBy_54 (by decide) ?_
              refine lv_iadd hx hb dX10_spaceBy_58 ?_
              refine lv_istore_n (lv' := [(3, .int (bx3 + (1 : Int32))), (0, .ref ba0), (1, .int bx1), (2, .int bx2), (4, .int bx4)]) hx hb dX10_spaceBy_59 rfl hl (by decide) rfl (fun ls hl => ?_)
              refine lv_iinc (v := (bx4 + (1 : Int32))) (lv' := [(4, .int (bx4 + (1 : Int32))), (3, .int (bx3 + (1 : Int32))), (0, .ref ba0), (1, .int bx1), (2, .int bx2)]) hx hb dX10_spaceBy_60 hl (k := 4) rfl rfl (by decide) rfl (fun ls hl => ?_)
              refine lv_goto (tgt := 9) hx hb dX10_spaceBy_63 (by decide) ?_
              exact ih G ba0 bx1 bx2 (bx3 + (1 : Int32)) (bx4 + (1 : Int32)) _ _ hG _ (lv_sub hl [2, 3, 4, 1, 0] rfl) h
  unfold f_X10_spaceBy at h
  refine lv_aload_n hx hb dX10_spaceBy_0 rfl (lv_at hl 0 rfl) ?_
  obtain ⟨u1, i1, h⟩ := Option.bind_eq_some_iff.mp h
  obtain ⟨G1, e1, h⟩ := Option.bind_eq_some_iff.mp h
  refine g_cVv (As := []) (rest := []) (n := 0) hx hb hml hown hts hK hlo hG (m_X10_findsCounting l dd cT lo G a0 e1) qM_X10_342 qI_yX10_findsCounting qS_X10_yX10_findsCounting qN_X10 qC_yX10_findsCounting (by decide +kernel) ⟨Nat.le_of_ble_eq_true rfl, Nat.le_of_ble_eq_true rfl⟩ (by rfl) i1 rfl hl.1 rfl (Nat.le_of_ble_eq_true rfl) dX10_spaceBy_1 ⟨Nat.le_of_ble_eq_true rfl, Nat.le_of_ble_eq_true rfl⟩ (fun H locs hG => ?_)
  refine lv_iconst (v := (0 : Int32)) hx hb dX10_spaceBy_4 (by decide) ?_
  refine lv_istore_n (lv' := [(3, .int (0 : Int32)), (0, .ref a0), (1, .int x1), (2, .int x2)]) hx hb dX10_spaceBy_5 rfl hl (by decide) rfl (fun ls hl => ?_)
  refine lv_iconst (v := (0 : Int32)) hx hb dX10_spaceBy_6 (by decide) ?_
  refine lv_istore (lv' := [(4, .int (0 : Int32)), (3, .int (0 : Int32)), (0, .ref a0), (1, .int x1), (2, .int x2)]) hx hb dX10_spaceBy_7 hl (by decide) rfl (fun ls hl => ?_)
  exact h9 g_N G1 a0 x1 x2 (0 : Int32) (0 : Int32) _ _ hG _ (lv_sub hl [2, 3, 4, 1, 0] rfl) h

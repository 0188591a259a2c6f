/-! The law's own methods that make no cells: by program (wip/p34/tools/lawlift.py). -/
set_option maxRecDepth 20000 in
set_option maxHeartbeats 4000000 in
theorem m_X10_main (l : Launch) (dd : va_G) (cT : Nat → ClassId) (lo : Nat → Prop) (G : gH) (a0 : Nat) {rz : Int32} (h : f_X10_main G a0 = some rz) : Met l yX10_main (Cond.code yX10_main cX10_main 1 (some .int) :: wsL_law) (g_rm 0 0 0 0) (va_Pc [.ref a0] (g_Pre lo dd cT G)) (va_Qi (g_is rz G) (g_Pre lo dd cT) (g_A lo)) 0 0 (g_A lo) := by
  refine g_start RX10 rfl (by decide) (Nat.le_of_ble_eq_true rfl) ?_
  intro p e s m below meth c hx hb hr hlocks hml hown hnm hts hK hG hlo ls hl
  have hl : lv_has ls 1 [(0, .ref a0)] := hl
  have hG : g_S lo dd cT s s.heap [] G := hG
  unfold f_X10_main at h
  refine lv_aload_n hx hb dX10_main_0 rfl (lv_at hl 0 rfl) ?_
  obtain ⟨v1, e1, h⟩ := Option.bind_eq_some_iff.mp h
  refine g_geti hx hb hts inlX10 hown hK hG (by rfl) 0 (by decide) qF_X10_47 e1 dX10_main_1 ?_
  refine lv_aload_n hx hb dX10_main_4 rfl (lv_at hl 0 rfl) ?_
  obtain ⟨v5, e5, h⟩ := Option.bind_eq_some_iff.mp h
  refine g_geti hx hb hts inlX10 hown hK hG (by rfl) 1 (by decide) qF_X10_51 e5 dX10_main_5 ?_
  refine lv_isub hx hb dX10_main_8 ?_
  obtain rfl := Option.some.inj h
  exact g_iret hx hb hr hlocks hK hlo hG ⟨rfl, rfl⟩ dX10_main_9
set_option maxRecDepth 20000 in
set_option maxHeartbeats 4000000 in
theorem m_X10_open (l : Launch) (dd : va_G) (cT : Nat → ClassId) (lo : Nat → Prop) (G : gH) (a0 : Nat) {rz : Option Nat} (h : f_X10_open G a0 = some rz) : Met l yX10_open (Cond.code yX10_open cX10_open 1 (some (.object "OnceDiscLaw$Session")) :: wsL_law) (g_rm 0 0 0 0) (va_Pc [.ref a0] (g_Pre lo dd cT G)) (va_Qq (g_is rz G) (g_Pre lo dd cT) (g_A lo)) 0 0 (g_A lo) := by
  refine g_start RX10 rfl (by decide) (Nat.le_of_ble_eq_true rfl) ?_
  intro p e s m below meth c hx hb hr hlocks hml hown hnm hts hK hG hlo ls hl
  have hl : lv_has ls 1 [(0, .ref a0)] := hl
  have hG : g_S lo dd cT s s.heap [] G := hG
  unfold f_X10_open at h
  refine lv_aload_n hx hb dX10_open_0 rfl (lv_at hl 0 rfl) ?_
  obtain ⟨v1, e1, h⟩ := Option.bind_eq_some_iff.mp h
  refine g_geti hx hb hts inlX10 hown hK hG (by rfl) 4 (by decide) qF_X10_54 e1 dX10_open_1 ?_
  refine lv_if_le (tgt := 38) hx hb dX10_open_4 (by decide) (fun c4 => ?_) (fun c4 => ?_)
  · rw [if_pos c4] at h
    refine lv_null hx hb dX10_open_38 ?_
    obtain rfl := Option.some.inj h
    exact g_qret (r := none) hx hb hr (Or.inl ⟨_, rfl⟩) hlocks hK hlo hG ⟨rfl, rfl⟩ dX10_open_39
  · rw [if_neg c4] at h
    refine lv_aload_n hx hb dX10_open_7 rfl (lv_at hl 0 rfl) ?_
    obtain ⟨v8, e8, h⟩ := Option.bind_eq_some_iff.mp h
    refine g_getr hx hb hts inlX10 hown hK hG (by rfl) 16 (by decide) qF_X10_43 e8 dX10_open_8 ?_
    refine lv_aload_n hx hb dX10_open_11 rfl (lv_at hl 0 rfl) ?_
    obtain ⟨v12, e12, h⟩ := Option.bind_eq_some_iff.mp h
    refine g_geti hx hb hts inlX10 hown hK hG (by rfl) 4 (by decide) qF_X10_54 e12 dX10_open_12 ?_
    refine lv_iconst (v := (1 : Int32)) hx hb dX10_open_15 (by decide) ?_
    refine lv_isub hx hb dX10_open_16 ?_
    obtain ⟨v17, e17, h⟩ := Option.bind_eq_some_iff.mp h
    refine g_rald_row hx hb hK hG (t := 5) rfl e17 dX10_open_17 ?_
    rcases v17 with _ | r17
    · rw [g_nul_none] at h
      cases h
    · rw [g_nul_some] at h
      obtain ⟨v18, e18, h⟩ := Option.bind_eq_some_iff.mp h
      refine g_getiN hx hb hts inlX12 hown hK hG (by rfl) 0 (by decide) (List.mem_of_getElem? (i := 30) rfl) e18 dX10_open_18 ?_
      refine lv_if_ne (tgt := 38) hx hb dX10_open_21 (by decide) (fun c21 => ?_) (fun c21 => ?_)
      · rw [if_neg c21] at h
        refine lv_null hx hb dX10_open_38 ?_
        obtain rfl := Option.some.inj h
        exact g_qret (r := none) hx hb hr (Or.inl ⟨_, rfl⟩) hlocks hK hlo hG ⟨rfl, rfl⟩ dX10_open_39
      · rw [if_pos c21] at h
        refine lv_aload_n hx hb dX10_open_24 rfl (lv_at hl 0 rfl) ?_
        obtain ⟨v25, e25, h⟩ := Option.bind_eq_some_iff.mp h
        refine g_getr hx hb hts inlX10 hown hK hG (by rfl) 16 (by decide) qF_X10_43 e25 dX10_open_25 ?_
        refine lv_aload_n hx hb dX10_open_28 rfl (lv_at hl 0 rfl) ?_
        obtain ⟨v29, e29, h⟩ := Option.bind_eq_some_iff.mp h
        refine g_geti hx hb hts inlX10 hown hK hG (by rfl) 4 (by decide) qF_X10_54 e29 dX10_open_29 ?_
        refine lv_iconst (v := (1 : Int32)) hx hb dX10_open_32 (by decide) ?_
        refine lv_isub hx hb dX10_open_33 ?_
        obtain ⟨v34, e34, h⟩ := Option.bind_eq_some_iff.mp h
        refine g_rald_row hx hb hK hG (t := 5) rfl e34 dX10_open_34 ?_
        rcases v34 with _ | r34
        · rw [g_nul_none] at h
          refine lv_goto (tgt := 39) hx hb dX10_open_35 (by decide) ?_
          obtain rfl := Option.some.inj h
          exact g_qret (r := none) hx hb hr (Or.inl ⟨_, rfl⟩) hlocks hK hlo hG ⟨rfl, rfl⟩ dX10_open_39
        · rw [g_nul_some] at h
          refine lv_goto (tgt := 39) hx hb dX10_open_35 (by decide) ?_
          obtain rfl := Option.some.inj h
          exact g_qret (r := some r34) hx hb hr (Or.inl ⟨_, rfl⟩) hlocks hK hlo hG ⟨rfl, rfl⟩ dX10_open_39
set_option maxRecDepth 20000 in
set_option maxHeartbeats 4000000 in
theorem m_X12_find (l : Launch) (dd : va_G) (cT : Nat → ClassId) (lo : Nat → Prop) (G : gH) (a0 : Nat) (x1 : Int32) {rz : Int32} (h : f_X12_find G a0 x1 = some rz) : Met l yX12_find (Cond.code yX12_find cX12_find 3 (some .int) :: wsL_law) (g_rm 0 0 0 0) (va_Pc [.ref a0, .int x1] (g_Pre lo dd cT G)) (va_Qi (g_is rz G) (g_Pre lo dd cT) (g_A lo)) 0 0 (g_A lo) := by
  refine g_start RX12 rfl (by decide) (Nat.le_of_ble_eq_true rfl) ?_
  intro p e s m below meth c hx hb hr hlocks hml hown hnm hts hK hG hlo ls hl
  have hl : lv_has ls 3 [(0, .ref a0), (1, .int x1)] := hl
  have hG : g_S lo dd cT s s.heap [] G := hG
  have h2 : ∀ n2 : Nat, ∀ (ba0 : Nat) (bx1 : Int32) (bx2 : Int32), ∀ (H : Heap) (locs : List Loc), g_S lo dd cT s H locs G → ∀ ls : Array Slot, lv_has ls 3 [(0, .ref ba0), (1, .int bx1), (2, .int bx2)] → f_X12_find_L2 G n2 ba0 bx1 bx2 = some rz → W p l e (g_rm 0 0 0 0) s m ([.ref a0, .int x1] : List Value).toArray below meth c H locs 0 0 (MQ below (va_Qi (g_is rz G) (g_Pre lo dd cT) (g_A lo)) ([.ref a0, .int x1] : List Value).toArray s 0 0 (g_A lo)) (F0 m 2 ls []) := by
    intro n2
    induction n2 with
    | zero =>
      intro ba0 bx1 bx2 H locs hG ls hl h
      cases (show (none : Option Int32) = some rz from h)
    | succ n2 ih2 =>
      intro ba0 bx1 bx2 H locs hG ls hl h
      rw [f_X12_find_L2] at h
      refine lv_iload_n hx hb dX12_find_2 rfl (lv_at hl 2 rfl) ?_
      refine lv_aload_n hx hb dX12_find_3 rfl (lv_at hl 0 rfl) ?_
      obtain ⟨v4, e4, h⟩ := Option.bind_eq_some_iff.mp h
      refine g_geti hx hb hts inlX12 hown hK hG (by rfl) 2 (by decide) qF_X12_29 e4 dX12_find_4 ?_
      refine lv_icmp_ge (tgt := 28) hx hb dX12_find_7 (by decide) (fun c7 => ?_) (fun c7 => ?_)
      · rw [if_pos c7] at h
        refine lv_iconst (v := (-1 : Int32)) hx hb dX12_find_28 (by decide) ?_
        obtain rfl := Option.some.inj h
        exact g_iret hx hb hr hlocks hK hlo hG ⟨rfl, rfl⟩ dX12_find_29
      · rw [if_neg c7] at h
        refine lv_aload_n hx hb dX12_find_10 rfl (lv_at hl 0 rfl) ?_
        obtain ⟨v11, e11, h⟩ := Option.bind_eq_some_iff.mp h
        refine g_getr hx hb hts inlX12 hown hK hG (by rfl) 6 (by decide) qF_X12_16 e11 dX12_find_11 ?_
        refine lv_iload_n hx hb dX12_find_14 rfl (lv_at hl 2 rfl) ?_
        obtain ⟨v15, e15, h⟩ := Option.bind_eq_some_iff.mp h
        refine g_iald hx hb hK hG e15 dX12_find_15 ?_
        refine lv_iload_n hx hb dX12_find_16 rfl (lv_at hl 1 rfl) ?_
        refine lv_icmp_ne (tgt := 22) hx hb dX12_find_17 (by decide) (fun c17 => ?_) (fun c17 => ?_)
        · rw [if_neg c17] at h
          refine lv_iinc (v := (bx2 + (1 : Int32))) (lv' := [(2, .int (bx2 + (1 : Int32))), (0, .ref ba0), (1, .int bx1)]) hx hb dX12_find_22 hl (k := 2) rfl rfl (by decide) rfl (fun ls hl => ?_)
          refine lv_goto (tgt := 2) hx hb dX12_find_25 (by decide) ?_
          exact ih2 ba0 bx1 (bx2 + (1 : Int32)) _ _ hG _ (lv_sub hl [1, 2, 0] rfl) h
        · rw [if_pos c17] at h
          refine lv_iload_n hx hb dX12_find_20 rfl (lv_at hl 2 rfl) ?_
          obtain rfl := Option.some.inj h
          exact g_iret hx hb hr hlocks hK hlo hG ⟨rfl, rfl⟩ dX12_find_21
  unfold f_X12_find at h
  refine lv_iconst (v := (0 : Int32)) hx hb dX12_find_0 (by decide) ?_
  refine lv_istore_n (lv' := [(2, .int (0 : Int32)), (0, .ref a0), (1, .int x1)]) hx hb dX12_find_1 rfl hl (by decide) rfl (fun ls hl => ?_)
  exact h2 g_N a0 x1 (0 : Int32) _ _ hG _ (lv_sub hl [1, 2, 0] rfl) h
set_option maxRecDepth 20000 in
set_option maxHeartbeats 4000000 in
theorem m_X12_size (l : Launch) (dd : va_G) (cT : Nat → ClassId) (lo : Nat → Prop) (G : gH) (a0 : Nat) {rz : Int32} (h : f_X12_size G a0 = some rz) : Met l yX12_size (Cond.code yX12_size cX12_size 1 (some .int) :: wsL_law) (g_rm 0 0 0 0) (va_Pc [.ref a0] (g_Pre lo dd cT G)) (va_Qi (g_is rz G) (g_Pre lo dd cT) (g_A lo)) 0 0 (g_A lo) := by
  refine g_start RX12 rfl (by decide) (Nat.le_of_ble_eq_true rfl) ?_
  intro p e s m below meth c hx hb hr hlocks hml hown hnm hts hK hG hlo ls hl
  have hl : lv_has ls 1 [(0, .ref a0)] := hl
  have hG : g_S lo dd cT s s.heap [] G := hG
  unfold f_X12_size at h
  refine lv_aload_n hx hb dX12_size_0 rfl (lv_at hl 0 rfl) ?_
  obtain ⟨v1, e1, h⟩ := Option.bind_eq_some_iff.mp h
  refine g_geti hx hb hts inlX12 hown hK hG (by rfl) 2 (by decide) qF_X12_29 e1 dX12_size_1 ?_
  refine lv_iconst (v := (3 : Int32)) hx hb dX12_size_4 (by decide) ?_
  refine lv_iadd hx hb dX12_size_5 ?_
  refine lv_iconst (v := (4 : Int32)) hx hb dX12_size_6 (by decide) ?_
  refine lv_idiv hx hb dX12_size_7 (by decide) ?_
  obtain rfl := Option.some.inj h
  exact g_iret hx hb hr hlocks hK hlo hG ⟨rfl, rfl⟩ dX12_size_8
set_option maxRecDepth 20000 in
set_option maxHeartbeats 4000000 in
theorem m_X12_enter_n (l : Launch) (dd : va_G) (cT : Nat → ClassId) (lo : Nat → Prop) (G : gH) (a0 : Nat) (x1 : Int32) {Gz : gH} (h : f_X12_enter_n G a0 x1 = some Gz) : Met l yX12_enter (Cond.code yX12_enter cX12_enter 4 none :: wsL_law) (g_rm 1 22 0 0) (va_Pc [.ref a0, .int x1, .null] (g_Pre lo dd cT G)) (va_Qv (g_iv Gz) (g_Pre lo dd cT) (g_A lo)) 0 0 (g_A lo) := by
  refine g_start RX12 rfl (by decide) (Nat.le_of_ble_eq_true rfl) ?_
  intro p e s m below meth c hx hb hr hlocks hml hown hnm hts hK hG hlo ls hl
  have hl : lv_has ls 4 [(0, .ref a0), (1, .int x1), (2, .null)] := hl
  have hG : g_S lo dd cT s s.heap [] G := hG
  have h22 : ∀ (G : gH) (ba0 : Nat) (bx1 : Int32) (bx3 : Int32), ∀ (H : Heap) (locs : List Loc), g_S lo dd cT s H locs G → ∀ ls : Array Slot, lv_has ls 4 [(0, .ref ba0), (1, .int bx1), (2, .null), (3, .int bx3)] → f_X12_enter_n_J22 G ba0 bx1 bx3 = some Gz → W p l e (g_rm 1 22 0 0) s m ([.ref a0, .int x1, .null] : List Value).toArray below meth c H locs 0 0 (MQ below (va_Qv (g_iv Gz) (g_Pre lo dd cT) (g_A lo)) ([.ref a0, .int x1, .null] : List Value).toArray s 0 0 (g_A lo)) (F0 m 22 ls []) := by
    intro G ba0 bx1 bx3 H locs hG ls hl h
    unfold f_X12_enter_n_J22 at h
    refine lv_aload_n hx hb dX12_enter_22 rfl (lv_at hl 0 rfl) ?_
    obtain ⟨v23, e23, h⟩ := Option.bind_eq_some_iff.mp h
    refine g_getr hx hb hts inlX12 hown hK hG (by rfl) 6 (by decide) qF_X12_16 e23 dX12_enter_23 ?_
    refine lv_iload_n hx hb dX12_enter_26 rfl (lv_at hl 3 rfl) ?_
    refine lv_iload_n hx hb dX12_enter_27 rfl (lv_at hl 1 rfl) ?_
    obtain ⟨G28, e28, h⟩ := Option.bind_eq_some_iff.mp h
    refine g_iast hx hb hK hG e28 dX12_enter_28 (fun H locs hG => ?_)
    refine lv_aload_n hx hb dX12_enter_29 rfl (lv_at hl 0 rfl) ?_
    obtain ⟨v30, e30, h⟩ := Option.bind_eq_some_iff.mp h
    refine g_getr hx hb hts inlX12 hown hK hG (by rfl) 8 (by decide) qF_X12_25 e30 dX12_enter_30 ?_
    refine lv_iload_n hx hb dX12_enter_33 rfl (lv_at hl 3 rfl) ?_
    refine lv_aload_nN hx hb dX12_enter_34 rfl (lv_at hl 2 rfl) ?_
    obtain ⟨G35, e35, h⟩ := Option.bind_eq_some_iff.mp h
    refine g_rastN_row (t := 6) hx hb hK hG rfl e35 dX12_enter_35 (fun H locs hG => ?_)
    obtain rfl := Option.some.inj h
    exact g_vret hx hb hr hlocks hK hlo hG rfl dX12_enter_36
  unfold f_X12_enter_n at h
  refine lv_aload_n hx hb dX12_enter_0 rfl (lv_at hl 0 rfl) ?_
  refine lv_iload_n hx hb dX12_enter_1 rfl (lv_at hl 1 rfl) ?_
  obtain ⟨u2, i2, h⟩ := Option.bind_eq_some_iff.mp h
  obtain ⟨v2, e2, h⟩ := Option.bind_eq_some_iff.mp h
  refine g_cVi (As := [.int x1]) (rest := []) (n := 1) hx hb hml hown hts hK hlo hG (m_X12_find l dd cT lo G a0 x1 e2) qM_X12_32 qI_yX12_find qS_X12_yX12_find qN_X12 qC_yX12_find (by decide +kernel) ⟨Nat.le_of_ble_eq_true rfl, Nat.le_of_ble_eq_true rfl⟩ (by rfl) i2 rfl hl.1 rfl (Nat.le_of_ble_eq_true rfl) dX12_enter_2 ⟨Nat.le_of_ble_eq_true rfl, Nat.le_of_ble_eq_true rfl⟩ (fun H locs hG => ?_)
  refine lv_istore_n (lv' := [(3, .int v2), (0, .ref a0), (1, .int x1), (2, .null)]) hx hb dX12_enter_5 rfl hl (by decide) rfl (fun ls hl => ?_)
  refine lv_iload_n hx hb dX12_enter_6 rfl (lv_at hl 0 rfl) ?_
  refine lv_if_ge (tgt := 22) hx hb dX12_enter_7 (by decide) (fun c7 => ?_) (fun c7 => ?_)
  · rw [if_pos c7] at h
    exact h22 G a0 x1 v2 _ _ hG _ (lv_sub hl [1, 2, 3, 0] rfl) h
  · rw [if_neg c7] at h
    refine lv_aload_n hx hb dX12_enter_10 rfl (lv_at hl 1 rfl) ?_
    refine lv_dup hx hb dX12_enter_11 rfl ?_
    obtain ⟨v12, e12, h⟩ := Option.bind_eq_some_iff.mp h
    refine g_geti hx hb hts inlX12 hown hK hG (by rfl) 2 (by decide) qF_X12_29 e12 dX12_enter_12 ?_
    refine lv_dup_x1 hx hb dX12_enter_15 rfl rfl ?_
    refine lv_iconst (v := (1 : Int32)) hx hb dX12_enter_16 (by decide) ?_
    refine lv_iadd hx hb dX12_enter_17 ?_
    obtain ⟨G18, i18, h⟩ := Option.bind_eq_some_iff.mp h
    refine g_putv hx hb hts inlX12 tyX12 tyX12_ok nmX12 hown hK hG (by rfl) 2 (by decide) qF_X12_29 rfl rfl rfl rfl i18 dX12_enter_18 (fun H locs hG => ?_)
    refine lv_istore_n (lv' := [(3, .int v12), (0, .ref a0), (1, .int x1), (2, .null)]) hx hb dX12_enter_21 rfl hl (by decide) rfl (fun ls hl => ?_)
    exact h22 G18 a0 x1 v12 _ _ hG _ (lv_sub hl [1, 2, 3, 0] rfl) h
set_option maxRecDepth 20000 in
set_option maxHeartbeats 4000000 in
theorem m_X12_enter_r (l : Launch) (dd : va_G) (cT : Nat → ClassId) (lo : Nat → Prop) (G : gH) (a0 : Nat) (x1 : Int32) (a2 : Nat) {Gz : gH} (h : f_X12_enter_r G a0 x1 a2 = some Gz) : Met l yX12_enter (Cond.code yX12_enter cX12_enter 4 none :: wsL_law) (g_rm 1 22 0 0) (va_Pc [.ref a0, .int x1, .ref a2] (g_Pre lo dd cT G)) (va_Qv (g_iv Gz) (g_Pre lo dd cT) (g_A lo)) 0 0 (g_A lo) := by
  refine g_start RX12 rfl (by decide) (Nat.le_of_ble_eq_true rfl) ?_
  intro p e s m below meth c hx hb hr hlocks hml hown hnm hts hK hG hlo ls hl
  have hl : lv_has ls 4 [(0, .ref a0), (1, .int x1), (2, .ref a2)] := hl
  have hG : g_S lo dd cT s s.heap [] G := hG
  have h22 : ∀ (G : gH) (ba0 : Nat) (bx1 : Int32) (ba2 : Nat) (bx3 : Int32), ∀ (H : Heap) (locs : List Loc), g_S lo dd cT s H locs G → ∀ ls : Array Slot, lv_has ls 4 [(0, .ref ba0), (1, .int bx1), (2, .ref ba2), (3, .int bx3)] → f_X12_enter_r_J22 G ba0 bx1 ba2 bx3 = some Gz → W p l e (g_rm 1 22 0 0) s m ([.ref a0, .int x1, .ref a2] : List Value).toArray below meth c H locs 0 0 (MQ below (va_Qv (g_iv Gz) (g_Pre lo dd cT) (g_A lo)) ([.ref a0, .int x1, .ref a2] : List Value).toArray s 0 0 (g_A lo)) (F0 m 22 ls []) := by
    intro G ba0 bx1 ba2 bx3 H locs hG ls hl h
    unfold f_X12_enter_r_J22 at h
    refine lv_aload_n hx hb dX12_enter_22 rfl (lv_at hl 0 rfl) ?_
    obtain ⟨v23, e23, h⟩ := Option.bind_eq_some_iff.mp h
    refine g_getr hx hb hts inlX12 hown hK hG (by rfl) 6 (by decide) qF_X12_16 e23 dX12_enter_23 ?_
    refine lv_iload_n hx hb dX12_enter_26 rfl (lv_at hl 3 rfl) ?_
    refine lv_iload_n hx hb dX12_enter_27 rfl (lv_at hl 1 rfl) ?_
    obtain ⟨G28, e28, h⟩ := Option.bind_eq_some_iff.mp h
    refine g_iast hx hb hK hG e28 dX12_enter_28 (fun H locs hG => ?_)
    refine lv_aload_n hx hb dX12_enter_29 rfl (lv_at hl 0 rfl) ?_
    obtain ⟨v30, e30, h⟩ := Option.bind_eq_some_iff.mp h
    refine g_getr hx hb hts inlX12 hown hK hG (by rfl) 8 (by decide) qF_X12_25 e30 dX12_enter_30 ?_
    refine lv_iload_n hx hb dX12_enter_33 rfl (lv_at hl 3 rfl) ?_
    refine lv_aload_n hx hb dX12_enter_34 rfl (lv_at hl 2 rfl) ?_
    obtain ⟨u35, o35, h⟩ := Option.bind_eq_some_iff.mp h
    obtain ⟨G35, e35, h⟩ := Option.bind_eq_some_iff.mp h
    refine g_rast_row (t := 6) (ci := 13) hx hb hK hG rfl rfl o35 e35 dX12_enter_35 (fun H locs hG => ?_)
    obtain rfl := Option.some.inj h
    exact g_vret hx hb hr hlocks hK hlo hG rfl dX12_enter_36
  unfold f_X12_enter_r at h
  refine lv_aload_n hx hb dX12_enter_0 rfl (lv_at hl 0 rfl) ?_
  refine lv_iload_n hx hb dX12_enter_1 rfl (lv_at hl 1 rfl) ?_
  obtain ⟨u2, i2, h⟩ := Option.bind_eq_some_iff.mp h
  obtain ⟨v2, e2, h⟩ := Option.bind_eq_some_iff.mp h
  refine g_cVi (As := [.int x1]) (rest := []) (n := 1) hx hb hml hown hts hK hlo hG (m_X12_find l dd cT lo G a0 x1 e2) qM_X12_32 qI_yX12_find qS_X12_yX12_find qN_X12 qC_yX12_find (by decide +kernel) ⟨Nat.le_of_ble_eq_true rfl, Nat.le_of_ble_eq_true rfl⟩ (by rfl) i2 rfl hl.1 rfl (Nat.le_of_ble_eq_true rfl) dX12_enter_2 ⟨Nat.le_of_ble_eq_true rfl, Nat.le_of_ble_eq_true rfl⟩ (fun H locs hG => ?_)
  refine lv_istore_n (lv' := [(3, .int v2), (0, .ref a0), (1, .int x1), (2, .ref a2)]) hx hb dX12_enter_5 rfl hl (by decide) rfl (fun ls hl => ?_)
  refine lv_iload_n hx hb dX12_enter_6 rfl (lv_at hl 0 rfl) ?_
  refine lv_if_ge (tgt := 22) hx hb dX12_enter_7 (by decide) (fun c7 => ?_) (fun c7 => ?_)
  · rw [if_pos c7] at h
    exact h22 G a0 x1 a2 v2 _ _ hG _ (lv_sub hl [1, 2, 3, 0] rfl) h
  · rw [if_neg c7] at h
    refine lv_aload_n hx hb dX12_enter_10 rfl (lv_at hl 1 rfl) ?_
    refine lv_dup hx hb dX12_enter_11 rfl ?_
    obtain ⟨v12, e12, h⟩ := Option.bind_eq_some_iff.mp h
    refine g_geti hx hb hts inlX12 hown hK hG (by rfl) 2 (by decide) qF_X12_29 e12 dX12_enter_12 ?_
    refine lv_dup_x1 hx hb dX12_enter_15 rfl rfl ?_
    refine lv_iconst (v := (1 : Int32)) hx hb dX12_enter_16 (by decide) ?_
    refine lv_iadd hx hb dX12_enter_17 ?_
    obtain ⟨G18, i18, h⟩ := Option.bind_eq_some_iff.mp h
    refine g_putv hx hb hts inlX12 tyX12 tyX12_ok nmX12 hown hK hG (by rfl) 2 (by decide) qF_X12_29 rfl rfl rfl rfl i18 dX12_enter_18 (fun H locs hG => ?_)
    refine lv_istore_n (lv' := [(3, .int v12), (0, .ref a0), (1, .int x1), (2, .ref a2)]) hx hb dX12_enter_21 rfl hl (by decide) rfl (fun ls hl => ?_)
    exact h22 G18 a0 x1 a2 v12 _ _ hG _ (lv_sub hl [1, 2, 3, 0] rfl) h
set_option maxRecDepth 20000 in
set_option maxHeartbeats 4000000 in
theorem m_X10_put_n (l : Launch) (dd : va_G) (cT : Nat → ClassId) (lo : Nat → Prop) (G : gH) (a0 : Nat) (x1 : Int32) (x2 : Int32) (x4 : Int32) {Gz : gH} (h : f_X10_put_n G a0 x1 x2 x4 = some Gz) : Met l yX10_put (Cond.code yX10_put cX10_put 5 none :: wsL_law) (g_rm 0 0 0 0) (va_Pc [.ref a0, .int x1, .int x2, .null, .int x4] (g_Pre lo dd cT G)) (va_Qv (g_iv Gz) (g_Pre lo dd cT) (g_A lo)) 0 0 (g_A lo) := by
  refine g_start RX10 rfl (by decide) (Nat.le_of_ble_eq_true rfl) ?_
  intro p e s m below meth c hx hb hr hlocks hml hown hnm hts hK hG hlo ls hl
  have hl : lv_has ls 5 [(0, .ref a0), (1, .int x1), (2, .int x2), (3, .null), (4, .int x4)] := hl
  have hG : g_S lo dd cT s s.heap [] G := hG
  unfold f_X10_put_n at h
  refine lv_aload_n hx hb dX10_put_0 rfl (lv_at hl 0 rfl) ?_
  obtain ⟨v1, e1, h⟩ := Option.bind_eq_some_iff.mp h
  refine g_getr hx hb hts inlX10 hown hK hG (by rfl) 7 (by decide) qF_X10_7 e1 dX10_put_1 ?_
  refine lv_iload_n hx hb dX10_put_4 rfl (lv_at hl 1 rfl) ?_
  refine lv_iload_n hx hb dX10_put_5 rfl (lv_at hl 2 rfl) ?_
  obtain ⟨G6, e6, h⟩ := Option.bind_eq_some_iff.mp h
  refine g_iast hx hb hK hG e6 dX10_put_6 (fun H locs hG => ?_)
  refine lv_aload_n hx hb dX10_put_7 rfl (lv_at hl 0 rfl) ?_
  obtain ⟨v8, e8, h⟩ := Option.bind_eq_some_iff.mp h
  refine g_getr hx hb hts inlX10 hown hK hG (by rfl) 8 (by decide) qF_X10_13 e8 dX10_put_8 ?_
  refine lv_iload_n hx hb dX10_put_11 rfl (lv_at hl 1 rfl) ?_
  refine lv_aload_n hx hb dX10_put_12 rfl (lv_at hl 0 rfl) ?_
  obtain ⟨v13, e13, h⟩ := Option.bind_eq_some_iff.mp h
  refine g_geti hx hb hts inlX10 hown hK hG (by rfl) 4 (by decide) qF_X10_54 e13 dX10_put_13 ?_
  refine lv_iconst (v := (1 : Int32)) hx hb dX10_put_16 (by decide) ?_
  refine lv_isub hx hb dX10_put_17 ?_
  obtain ⟨G18, e18, h⟩ := Option.bind_eq_some_iff.mp h
  refine g_iast hx hb hK hG e18 dX10_put_18 (fun H locs hG => ?_)
  refine lv_aload_n hx hb dX10_put_19 rfl (lv_at hl 0 rfl) ?_
  obtain ⟨v20, e20, h⟩ := Option.bind_eq_some_iff.mp h
  refine g_getr hx hb hts inlX10 hown hK hG (by rfl) 14 (by decide) qF_X10_34 e20 dX10_put_20 ?_
  refine lv_iload_n hx hb dX10_put_23 rfl (lv_at hl 1 rfl) ?_
  refine lv_aload_nN hx hb dX10_put_24 rfl (lv_at hl 3 rfl) ?_
  obtain ⟨G25, e25, h⟩ := Option.bind_eq_some_iff.mp h
  refine g_rastN_row (t := 6) hx hb hK hG rfl e25 dX10_put_25 (fun H locs hG => ?_)
  refine lv_aload_n hx hb dX10_put_26 rfl (lv_at hl 0 rfl) ?_
  obtain ⟨v27, e27, h⟩ := Option.bind_eq_some_iff.mp h
  refine g_getr hx hb hts inlX10 hown hK hG (by rfl) 9 (by decide) qF_X10_16 e27 dX10_put_27 ?_
  refine lv_iload_n hx hb dX10_put_30 rfl (lv_at hl 1 rfl) ?_
  refine lv_iload hx hb dX10_put_31 (lv_at hl 4 rfl) ?_
  obtain ⟨G33, e33, h⟩ := Option.bind_eq_some_iff.mp h
  refine g_iast hx hb hK hG e33 dX10_put_33 (fun H locs hG => ?_)
  obtain rfl := Option.some.inj h
  exact g_vret hx hb hr hlocks hK hlo hG rfl dX10_put_34
set_option maxRecDepth 20000 in
set_option maxHeartbeats 4000000 in
theorem m_X10_put_r (l : Launch) (dd : va_G) (cT : Nat → ClassId) (lo : Nat → Prop) (G : gH) (a0 : Nat) (x1 : Int32) (x2 : Int32) (a3 : Nat) (x4 : Int32) {Gz : gH} (h : f_X10_put_r G a0 x1 x2 a3 x4 = some Gz) : Met l yX10_put (Cond.code yX10_put cX10_put 5 none :: wsL_law) (g_rm 0 0 0 0) (va_Pc [.ref a0, .int x1, .int x2, .ref a3, .int x4] (g_Pre lo dd cT G)) (va_Qv (g_iv Gz) (g_Pre lo dd cT) (g_A lo)) 0 0 (g_A lo) := by
  refine g_start RX10 rfl (by decide) (Nat.le_of_ble_eq_true rfl) ?_
  intro p e s m below meth c hx hb hr hlocks hml hown hnm hts hK hG hlo ls hl
  have hl : lv_has ls 5 [(0, .ref a0), (1, .int x1), (2, .int x2), (3, .ref a3), (4, .int x4)] := hl
  have hG : g_S lo dd cT s s.heap [] G := hG
  unfold f_X10_put_r at h
  refine lv_aload_n hx hb dX10_put_0 rfl (lv_at hl 0 rfl) ?_
  obtain ⟨v1, e1, h⟩ := Option.bind_eq_some_iff.mp h
  refine g_getr hx hb hts inlX10 hown hK hG (by rfl) 7 (by decide) qF_X10_7 e1 dX10_put_1 ?_
  refine lv_iload_n hx hb dX10_put_4 rfl (lv_at hl 1 rfl) ?_
  refine lv_iload_n hx hb dX10_put_5 rfl (lv_at hl 2 rfl) ?_
  obtain ⟨G6, e6, h⟩ := Option.bind_eq_some_iff.mp h
  refine g_iast hx hb hK hG e6 dX10_put_6 (fun H locs hG => ?_)
  refine lv_aload_n hx hb dX10_put_7 rfl (lv_at hl 0 rfl) ?_
  obtain ⟨v8, e8, h⟩ := Option.bind_eq_some_iff.mp h
  refine g_getr hx hb hts inlX10 hown hK hG (by rfl) 8 (by decide) qF_X10_13 e8 dX10_put_8 ?_
  refine lv_iload_n hx hb dX10_put_11 rfl (lv_at hl 1 rfl) ?_
  refine lv_aload_n hx hb dX10_put_12 rfl (lv_at hl 0 rfl) ?_
  obtain ⟨v13, e13, h⟩ := Option.bind_eq_some_iff.mp h
  refine g_geti hx hb hts inlX10 hown hK hG (by rfl) 4 (by decide) qF_X10_54 e13 dX10_put_13 ?_
  refine lv_iconst (v := (1 : Int32)) hx hb dX10_put_16 (by decide) ?_
  refine lv_isub hx hb dX10_put_17 ?_
  obtain ⟨G18, e18, h⟩ := Option.bind_eq_some_iff.mp h
  refine g_iast hx hb hK hG e18 dX10_put_18 (fun H locs hG => ?_)
  refine lv_aload_n hx hb dX10_put_19 rfl (lv_at hl 0 rfl) ?_
  obtain ⟨v20, e20, h⟩ := Option.bind_eq_some_iff.mp h
  refine g_getr hx hb hts inlX10 hown hK hG (by rfl) 14 (by decide) qF_X10_34 e20 dX10_put_20 ?_
  refine lv_iload_n hx hb dX10_put_23 rfl (lv_at hl 1 rfl) ?_
  refine lv_aload_n hx hb dX10_put_24 rfl (lv_at hl 3 rfl) ?_
  obtain ⟨u25, o25, h⟩ := Option.bind_eq_some_iff.mp h
  obtain ⟨G25, e25, h⟩ := Option.bind_eq_some_iff.mp h
  refine g_rast_row (t := 6) (ci := 13) hx hb hK hG rfl rfl o25 e25 dX10_put_25 (fun H locs hG => ?_)
  refine lv_aload_n hx hb dX10_put_26 rfl (lv_at hl 0 rfl) ?_
  obtain ⟨v27, e27, h⟩ := Option.bind_eq_some_iff.mp h
  refine g_getr hx hb hts inlX10 hown hK hG (by rfl) 9 (by decide) qF_X10_16 e27 dX10_put_27 ?_
  refine lv_iload_n hx hb dX10_put_30 rfl (lv_at hl 1 rfl) ?_
  refine lv_iload hx hb dX10_put_31 (lv_at hl 4 rfl) ?_
  obtain ⟨G33, e33, h⟩ := Option.bind_eq_some_iff.mp h
  refine g_iast hx hb hK hG e33 dX10_put_33 (fun H locs hG => ?_)
  obtain rfl := Option.some.inj h
  exact g_vret hx hb hr hlocks hK hlo hG rfl dX10_put_34
set_option maxRecDepth 20000 in
set_option maxHeartbeats 4000000 in
theorem m_X10_burn_n (l : Launch) (dd : va_G) (cT : Nat → ClassId) (lo : Nat → Prop) (G : gH) (a0 : Nat) (x1 : Int32) (x3 : Int32) {rz : Int32} {Gz : gH} (h : f_X10_burn_n G a0 x1 x3 = some (Gz, rz)) : Met l yX10_burn (Cond.code yX10_burn cX10_burn 6 (some .int) :: wsL_law) (g_rm 1 24 0 0) (va_Pc [.ref a0, .int x1, .null, .int x3] (g_Pre lo dd cT G)) (va_Qi (g_is rz Gz) (g_Pre lo dd cT) (g_A lo)) 0 0 (g_A lo) := by
  refine g_start RX10 rfl (by decide) (Nat.le_of_ble_eq_true rfl) ?_
  intro p e s m below meth c hx hb hr hlocks hml hown hnm hts hK hG hlo ls hl
  have hl : lv_has ls 6 [(0, .ref a0), (1, .int x1), (2, .null), (3, .int x3)] := hl
  have hG : g_S lo dd cT s s.heap [] G := hG
  have h50 : ∀ n50 : Nat, ∀ (G : gH) (ba0 : Nat) (bx1 : Int32) (bx3 : Int32) (bx4 : Int32) (bx5 : Int32), ∀ (H : Heap) (locs : List Loc), g_S lo dd cT s H locs G → ∀ ls : Array Slot, lv_has ls 6 [(0, .ref ba0), (1, .int bx1), (2, .null), (3, .int bx3), (4, .int bx4), (5, .int bx5)] → f_X10_burn_n_L50 n50 G ba0 bx1 bx3 bx4 bx5 = some (Gz, rz) → W p l e (g_rm 1 24 0 0) s m ([.ref a0, .int x1, .null, .int x3] : List Value).toArray below meth c H locs 0 0 (MQ below (va_Qi (g_is rz Gz) (g_Pre lo dd cT) (g_A lo)) ([.ref a0, .int x1, .null, .int x3] : List Value).toArray s 0 0 (g_A lo)) (F0 m 50 ls []) := by
    intro n50
    induction n50 with
    | zero =>
      intro G ba0 bx1 bx3 bx4 bx5 H locs hG ls hl h
      cases (show (none : Option (gH × Int32)) = some (Gz, rz) from h)
    | succ n50 ih50 =>
      intro G ba0 bx1 bx3 bx4 bx5 H locs hG ls hl h
      rw [f_X10_burn_n_L50] at h
      refine lv_iload hx hb dX10_burn_50 (lv_at hl 5 rfl) ?_
      refine lv_aload_n hx hb dX10_burn_52 rfl (lv_at hl 0 rfl) ?_
      obtain ⟨v53, e53, h⟩ := Option.bind_eq_some_iff.mp h
      refine g_geti hx hb hts inlX10 hown hK hG (by rfl) 0 (by decide) qF_X10_47 e53 dX10_burn_53 ?_
      refine lv_icmp_ge (tgt := 130) hx hb dX10_burn_56 (by decide) (fun c56 => ?_) (fun c56 => ?_)
      · rw [if_pos c56] at h
        refine lv_iconst (v := (-1 : Int32)) hx hb dX10_burn_130 (by decide) ?_
        obtain ⟨rfl, rfl⟩ := Prod.mk.inj (Option.some.inj h)
        exact g_iret hx hb hr hlocks hK hlo hG ⟨rfl, rfl⟩ dX10_burn_131
      · rw [if_neg c56] at h
        refine lv_aload_n hx hb dX10_burn_59 rfl (lv_at hl 0 rfl) ?_
        obtain ⟨v60, e60, h⟩ := Option.bind_eq_some_iff.mp h
        refine g_getr hx hb hts inlX10 hown hK hG (by rfl) 7 (by decide) qF_X10_7 e60 dX10_burn_60 ?_
        refine lv_iload hx hb dX10_burn_63 (lv_at hl 5 rfl) ?_
        obtain ⟨v65, e65, h⟩ := Option.bind_eq_some_iff.mp h
        refine g_iald hx hb hK hG e65 dX10_burn_65 ?_
        refine lv_if_eq (tgt := 72) hx hb dX10_burn_66 (by decide) (fun c66 => ?_) (fun c66 => ?_)
        · rw [if_pos c66] at h
          refine lv_aload_n hx hb dX10_burn_72 rfl (lv_at hl 0 rfl) ?_
          obtain ⟨v73, e73, h⟩ := Option.bind_eq_some_iff.mp h
          refine g_getr hx hb hts inlX10 hown hK hG (by rfl) 12 (by decide) qF_X10_25 e73 dX10_burn_73 ?_
          refine lv_iload hx hb dX10_burn_76 (lv_at hl 5 rfl) ?_
          obtain ⟨v78, e78, h⟩ := Option.bind_eq_some_iff.mp h
          refine g_zald hx hb hK hG e78 dX10_burn_78 ?_
          refine lv_if_eq (tgt := 94) hx hb dX10_burn_79 (by decide) (fun c79 => ?_) (fun c79 => ?_)
          · rw [if_pos c79] at h
            refine lv_aload_n hx hb dX10_burn_94 rfl (lv_at hl 0 rfl) ?_
            refine lv_iload hx hb dX10_burn_95 (lv_at hl 5 rfl) ?_
            refine lv_iload_n hx hb dX10_burn_97 rfl (lv_at hl 1 rfl) ?_
            refine lv_aload_nN hx hb dX10_burn_98 rfl (lv_at hl 2 rfl) ?_
            refine lv_iload_n hx hb dX10_burn_99 rfl (lv_at hl 3 rfl) ?_
            obtain ⟨u100, i100, h⟩ := Option.bind_eq_some_iff.mp h
            obtain ⟨G100, e100, h⟩ := Option.bind_eq_some_iff.mp h
            refine g_cVv (As := [.int bx5, .int bx1, .null, .int bx3]) (rest := []) (n := 4) hx hb hml hown hts hK hlo hG (m_X10_put_n l dd cT lo G ba0 bx5 bx1 bx3 e100) qM_X10_63 qI_yX10_put qS_X10_yX10_put qN_X10 qC_yX10_put (by decide +kernel) ⟨Nat.le_of_ble_eq_true rfl, Nat.le_of_ble_eq_true rfl⟩ (by rfl) i100 rfl hl.1 rfl (Nat.le_of_ble_eq_true rfl) dX10_burn_100 ⟨Nat.le_of_ble_eq_true rfl, Nat.le_of_ble_eq_true rfl⟩ (fun H locs hG => ?_)
            refine lv_aload_n hx hb dX10_burn_103 rfl (lv_at hl 0 rfl) ?_
            obtain ⟨v104, e104, h⟩ := Option.bind_eq_some_iff.mp h
            refine g_getr hx hb hts inlX10 hown hK hG (by rfl) 10 (by decide) qF_X10_19 e104 dX10_burn_104 ?_
            refine lv_iload hx hb dX10_burn_107 (lv_at hl 5 rfl) ?_
            refine lv_iload hx hb dX10_burn_109 (lv_at hl 4 rfl) ?_
            obtain ⟨G111, e111, h⟩ := Option.bind_eq_some_iff.mp h
            refine g_iast hx hb hK hG e111 dX10_burn_111 (fun H locs hG => ?_)
            refine lv_aload_n hx hb dX10_burn_112 rfl (lv_at hl 0 rfl) ?_
            obtain ⟨v113, e113, h⟩ := Option.bind_eq_some_iff.mp h
            refine g_getr hx hb hts inlX10 hown hK hG (by rfl) 11 (by decide) qF_X10_22 e113 dX10_burn_113 ?_
            refine lv_iload hx hb dX10_burn_116 (lv_at hl 4 rfl) ?_
            refine lv_iload hx hb dX10_burn_118 (lv_at hl 5 rfl) ?_
            obtain ⟨G120, e120, h⟩ := Option.bind_eq_some_iff.mp h
            refine g_iast hx hb hK hG e120 dX10_burn_120 (fun H locs hG => ?_)
            refine lv_iload hx hb dX10_burn_121 (lv_at hl 5 rfl) ?_
            obtain ⟨rfl, rfl⟩ := Prod.mk.inj (Option.some.inj h)
            exact g_iret hx hb hr hlocks hK hlo hG ⟨rfl, rfl⟩ dX10_burn_123
          · rw [if_neg c79] at h
            refine lv_aload_n hx hb dX10_burn_82 rfl (lv_at hl 0 rfl) ?_
            refine lv_iload hx hb dX10_burn_83 (lv_at hl 5 rfl) ?_
            refine lv_iconst (v := (3 : Int32)) hx hb dX10_burn_85 (by decide) ?_
            refine lv_null hx hb dX10_burn_86 ?_
            refine lv_iconst (v := (-1 : Int32)) hx hb dX10_burn_87 (by decide) ?_
            obtain ⟨u88, i88, h⟩ := Option.bind_eq_some_iff.mp h
            obtain ⟨G88, e88, h⟩ := Option.bind_eq_some_iff.mp h
            refine g_cVv (As := [.int bx5, .int (3 : Int32), .null, .int (-1 : Int32)]) (rest := []) (n := 4) hx hb hml hown hts hK hlo hG (m_X10_put_n l dd cT lo G ba0 bx5 (3 : Int32) (-1 : Int32) e88) qM_X10_63 qI_yX10_put qS_X10_yX10_put qN_X10 qC_yX10_put (by decide +kernel) ⟨Nat.le_of_ble_eq_true rfl, Nat.le_of_ble_eq_true rfl⟩ (by rfl) i88 rfl hl.1 rfl (Nat.le_of_ble_eq_true rfl) dX10_burn_88 ⟨Nat.le_of_ble_eq_true rfl, Nat.le_of_ble_eq_true rfl⟩ (fun H locs hG => ?_)
            refine lv_goto (tgt := 124) hx hb dX10_burn_91 (by decide) ?_
            refine lv_iinc (v := (bx5 + (1 : Int32))) (lv' := [(5, .int (bx5 + (1 : Int32))), (0, .ref ba0), (1, .int bx1), (2, .null), (3, .int bx3), (4, .int bx4)]) hx hb dX10_burn_124 hl (k := 5) rfl rfl (by decide) rfl (fun ls hl => ?_)
            refine lv_goto (tgt := 50) hx hb dX10_burn_127 (by decide) ?_
            exact ih50 G88 ba0 bx1 bx3 bx4 (bx5 + (1 : Int32)) _ _ hG _ (lv_sub hl [1, 2, 3, 4, 5, 0] rfl) h
        · rw [if_neg c66] at h
          refine lv_goto (tgt := 124) hx hb dX10_burn_69 (by decide) ?_
          refine lv_iinc (v := (bx5 + (1 : Int32))) (lv' := [(5, .int (bx5 + (1 : Int32))), (0, .ref ba0), (1, .int bx1), (2, .null), (3, .int bx3), (4, .int bx4)]) hx hb dX10_burn_124 hl (k := 5) rfl rfl (by decide) rfl (fun ls hl => ?_)
          refine lv_goto (tgt := 50) hx hb dX10_burn_127 (by decide) ?_
          exact ih50 G ba0 bx1 bx3 bx4 (bx5 + (1 : Int32)) _ _ hG _ (lv_sub hl [1, 2, 3, 4, 5, 0] rfl) h
  unfold f_X10_burn_n at h
  refine lv_aload_n hx hb dX10_burn_0 rfl (lv_at hl 0 rfl) ?_
  refine lv_dup hx hb dX10_burn_1 rfl ?_
  obtain ⟨v2, e2, h⟩ := Option.bind_eq_some_iff.mp h
  refine g_geti hx hb hts inlX10 hown hK hG (by rfl) 3 (by decide) qF_X10_60 e2 dX10_burn_2 ?_
  refine lv_dup_x1 hx hb dX10_burn_5 rfl rfl ?_
  refine lv_iconst (v := (1 : Int32)) hx hb dX10_burn_6 (by decide) ?_
  refine lv_iadd hx hb dX10_burn_7 ?_
  obtain ⟨G8, i8, h⟩ := Option.bind_eq_some_iff.mp h
  refine g_putv hx hb hts inlX10 tyX10 tyX10_ok nmX10 hown hK hG (by rfl) 3 (by decide) qF_X10_60 rfl rfl rfl rfl i8 dX10_burn_8 (fun H locs hG => ?_)
  refine lv_istore (lv' := [(4, .int v2), (0, .ref a0), (1, .int x1), (2, .null), (3, .int x3)]) hx hb dX10_burn_11 hl (by decide) rfl (fun ls hl => ?_)
  refine lv_aload_n hx hb dX10_burn_13 rfl (lv_at hl 1 rfl) ?_
  obtain ⟨v14, e14, h⟩ := Option.bind_eq_some_iff.mp h
  refine g_getr hx hb hts inlX10 hown hK hG (by rfl) 12 (by decide) qF_X10_25 e14 dX10_burn_14 ?_
  refine lv_iload hx hb dX10_burn_17 (lv_at hl 0 rfl) ?_
  obtain ⟨v19, e19, h⟩ := Option.bind_eq_some_iff.mp h
  refine g_zald hx hb hK hG e19 dX10_burn_19 ?_
  refine lv_if_ne (tgt := 35) hx hb dX10_burn_20 (by decide) (fun c20 => ?_) (fun c20 => ?_)
  · rw [if_neg c20] at h
    refine lv_aload_n hx hb dX10_burn_35 rfl (lv_at hl 1 rfl) ?_
    refine lv_iload hx hb dX10_burn_36 (lv_at hl 0 rfl) ?_
    refine lv_iconst (v := (3 : Int32)) hx hb dX10_burn_38 (by decide) ?_
    refine lv_null hx hb dX10_burn_39 ?_
    refine lv_iconst (v := (-1 : Int32)) hx hb dX10_burn_40 (by decide) ?_
    obtain ⟨u41, i41, h⟩ := Option.bind_eq_some_iff.mp h
    obtain ⟨G41, e41, h⟩ := Option.bind_eq_some_iff.mp h
    refine g_cVv (As := [.int v2, .int (3 : Int32), .null, .int (-1 : Int32)]) (rest := []) (n := 4) hx hb hml hown hts hK hlo hG (m_X10_put_n l dd cT lo G8 a0 v2 (3 : Int32) (-1 : Int32) e41) qM_X10_63 qI_yX10_put qS_X10_yX10_put qN_X10 qC_yX10_put (by decide +kernel) ⟨Nat.le_of_ble_eq_true rfl, Nat.le_of_ble_eq_true rfl⟩ (by rfl) i41 rfl hl.1 rfl (Nat.le_of_ble_eq_true rfl) dX10_burn_41 ⟨Nat.le_of_ble_eq_true rfl, Nat.le_of_ble_eq_true rfl⟩ (fun H locs hG => ?_)
    refine lv_aload_n hx hb dX10_burn_44 rfl (lv_at hl 1 rfl) ?_
    obtain ⟨u45, i45, h⟩ := Option.bind_eq_some_iff.mp h
    obtain ⟨v45, e45, h⟩ := Option.bind_eq_some_iff.mp h
    refine g_cVi (As := []) (rest := []) (n := 0) hx hb hml hown hts hK hlo hG (m_X10_main l dd cT lo G41 a0 e45) qM_X10_67 qI_yX10_main qS_X10_yX10_main qN_X10 qC_yX10_main (by decide +kernel) ⟨Nat.le_of_ble_eq_true rfl, Nat.le_of_ble_eq_true rfl⟩ (by rfl) i45 rfl hl.1 rfl (Nat.le_of_ble_eq_true rfl) dX10_burn_45 ⟨Nat.le_of_ble_eq_true rfl, Nat.le_of_ble_eq_true rfl⟩ (fun H locs hG => ?_)
    refine lv_istore (lv' := [(5, .int v45), (4, .int v2), (0, .ref a0), (1, .int x1), (2, .null), (3, .int x3)]) hx hb dX10_burn_48 hl (by decide) rfl (fun ls hl => ?_)
    exact h50 g_N G41 a0 x1 x3 v2 v45 _ _ hG _ (lv_sub hl [2, 3, 4, 5, 1, 0] rfl) h
  · rw [if_pos c20] at h
    refine lv_aload_n hx hb dX10_burn_23 rfl (lv_at hl 1 rfl) ?_
    refine lv_iload hx hb dX10_burn_24 (lv_at hl 0 rfl) ?_
    refine lv_iload_n hx hb dX10_burn_26 rfl (lv_at hl 2 rfl) ?_
    refine lv_aload_nN hx hb dX10_burn_27 rfl (lv_at hl 3 rfl) ?_
    refine lv_iload_n hx hb dX10_burn_28 rfl (lv_at hl 4 rfl) ?_
    obtain ⟨u29, i29, h⟩ := Option.bind_eq_some_iff.mp h
    obtain ⟨G29, e29, h⟩ := Option.bind_eq_some_iff.mp h
    refine g_cVv (As := [.int v2, .int x1, .null, .int x3]) (rest := []) (n := 4) hx hb hml hown hts hK hlo hG (m_X10_put_n l dd cT lo G8 a0 v2 x1 x3 e29) qM_X10_63 qI_yX10_put qS_X10_yX10_put qN_X10 qC_yX10_put (by decide +kernel) ⟨Nat.le_of_ble_eq_true rfl, Nat.le_of_ble_eq_true rfl⟩ (by rfl) i29 rfl hl.1 rfl (Nat.le_of_ble_eq_true rfl) dX10_burn_29 ⟨Nat.le_of_ble_eq_true rfl, Nat.le_of_ble_eq_true rfl⟩ (fun H locs hG => ?_)
    refine lv_iload hx hb dX10_burn_32 (lv_at hl 0 rfl) ?_
    obtain ⟨rfl, rfl⟩ := Prod.mk.inj (Option.some.inj h)
    exact g_iret hx hb hr hlocks hK hlo hG ⟨rfl, rfl⟩ dX10_burn_34
set_option maxRecDepth 20000 in
set_option maxHeartbeats 4000000 in
theorem m_X10_burn_r (l : Launch) (dd : va_G) (cT : Nat → ClassId) (lo : Nat → Prop) (G : gH) (a0 : Nat) (x1 : Int32) (a2 : Nat) (x3 : Int32) {rz : Int32} {Gz : gH} (h : f_X10_burn_r G a0 x1 a2 x3 = some (Gz, rz)) : Met l yX10_burn (Cond.code yX10_burn cX10_burn 6 (some .int) :: wsL_law) (g_rm 1 24 0 0) (va_Pc [.ref a0, .int x1, .ref a2, .int x3] (g_Pre lo dd cT G)) (va_Qi (g_is rz Gz) (g_Pre lo dd cT) (g_A lo)) 0 0 (g_A lo) := by
  refine g_start RX10 rfl (by decide) (Nat.le_of_ble_eq_true rfl) ?_
  intro p e s m below meth c hx hb hr hlocks hml hown hnm hts hK hG hlo ls hl
  have hl : lv_has ls 6 [(0, .ref a0), (1, .int x1), (2, .ref a2), (3, .int x3)] := hl
  have hG : g_S lo dd cT s s.heap [] G := hG
  have h50 : ∀ n50 : Nat, ∀ (G : gH) (ba0 : Nat) (bx1 : Int32) (ba2 : Nat) (bx3 : Int32) (bx4 : Int32) (bx5 : Int32), ∀ (H : Heap) (locs : List Loc), g_S lo dd cT s H locs G → ∀ ls : Array Slot, lv_has ls 6 [(0, .ref ba0), (1, .int bx1), (2, .ref ba2), (3, .int bx3), (4, .int bx4), (5, .int bx5)] → f_X10_burn_r_L50 n50 G ba0 bx1 ba2 bx3 bx4 bx5 = some (Gz, rz) → W p l e (g_rm 1 24 0 0) s m ([.ref a0, .int x1, .ref a2, .int x3] : List Value).toArray below meth c H locs 0 0 (MQ below (va_Qi (g_is rz Gz) (g_Pre lo dd cT) (g_A lo)) ([.ref a0, .int x1, .ref a2, .int x3] : List Value).toArray s 0 0 (g_A lo)) (F0 m 50 ls []) := by
    intro n50
    induction n50 with
    | zero =>
      intro G ba0 bx1 ba2 bx3 bx4 bx5 H locs hG ls hl h
      cases (show (none : Option (gH × Int32)) = some (Gz, rz) from h)
    | succ n50 ih50 =>
      intro G ba0 bx1 ba2 bx3 bx4 bx5 H locs hG ls hl h
      rw [f_X10_burn_r_L50] at h
      refine lv_iload hx hb dX10_burn_50 (lv_at hl 5 rfl) ?_
      refine lv_aload_n hx hb dX10_burn_52 rfl (lv_at hl 0 rfl) ?_
      obtain ⟨v53, e53, h⟩ := Option.bind_eq_some_iff.mp h
      refine g_geti hx hb hts inlX10 hown hK hG (by rfl) 0 (by decide) qF_X10_47 e53 dX10_burn_53 ?_
      refine lv_icmp_ge (tgt := 130) hx hb dX10_burn_56 (by decide) (fun c56 => ?_) (fun c56 => ?_)
      · rw [if_pos c56] at h
        refine lv_iconst (v := (-1 : Int32)) hx hb dX10_burn_130 (by decide) ?_
        obtain ⟨rfl, rfl⟩ := Prod.mk.inj (Option.some.inj h)
        exact g_iret hx hb hr hlocks hK hlo hG ⟨rfl, rfl⟩ dX10_burn_131
      · rw [if_neg c56] at h
        refine lv_aload_n hx hb dX10_burn_59 rfl (lv_at hl 0 rfl) ?_
        obtain ⟨v60, e60, h⟩ := Option.bind_eq_some_iff.mp h
        refine g_getr hx hb hts inlX10 hown hK hG (by rfl) 7 (by decide) qF_X10_7 e60 dX10_burn_60 ?_
        refine lv_iload hx hb dX10_burn_63 (lv_at hl 5 rfl) ?_
        obtain ⟨v65, e65, h⟩ := Option.bind_eq_some_iff.mp h
        refine g_iald hx hb hK hG e65 dX10_burn_65 ?_
        refine lv_if_eq (tgt := 72) hx hb dX10_burn_66 (by decide) (fun c66 => ?_) (fun c66 => ?_)
        · rw [if_pos c66] at h
          refine lv_aload_n hx hb dX10_burn_72 rfl (lv_at hl 0 rfl) ?_
          obtain ⟨v73, e73, h⟩ := Option.bind_eq_some_iff.mp h
          refine g_getr hx hb hts inlX10 hown hK hG (by rfl) 12 (by decide) qF_X10_25 e73 dX10_burn_73 ?_
          refine lv_iload hx hb dX10_burn_76 (lv_at hl 5 rfl) ?_
          obtain ⟨v78, e78, h⟩ := Option.bind_eq_some_iff.mp h
          refine g_zald hx hb hK hG e78 dX10_burn_78 ?_
          refine lv_if_eq (tgt := 94) hx hb dX10_burn_79 (by decide) (fun c79 => ?_) (fun c79 => ?_)
          · rw [if_pos c79] at h
            refine lv_aload_n hx hb dX10_burn_94 rfl (lv_at hl 0 rfl) ?_
            refine lv_iload hx hb dX10_burn_95 (lv_at hl 5 rfl) ?_
            refine lv_iload_n hx hb dX10_burn_97 rfl (lv_at hl 1 rfl) ?_
            refine lv_aload_n hx hb dX10_burn_98 rfl (lv_at hl 2 rfl) ?_
            refine lv_iload_n hx hb dX10_burn_99 rfl (lv_at hl 3 rfl) ?_
            obtain ⟨u100, i100, h⟩ := Option.bind_eq_some_iff.mp h
            obtain ⟨G100, e100, h⟩ := Option.bind_eq_some_iff.mp h
            refine g_cVv (As := [.int bx5, .int bx1, .ref ba2, .int bx3]) (rest := []) (n := 4) hx hb hml hown hts hK hlo hG (m_X10_put_r l dd cT lo G ba0 bx5 bx1 ba2 bx3 e100) qM_X10_63 qI_yX10_put qS_X10_yX10_put qN_X10 qC_yX10_put (by decide +kernel) ⟨Nat.le_of_ble_eq_true rfl, Nat.le_of_ble_eq_true rfl⟩ (by rfl) i100 rfl hl.1 rfl (Nat.le_of_ble_eq_true rfl) dX10_burn_100 ⟨Nat.le_of_ble_eq_true rfl, Nat.le_of_ble_eq_true rfl⟩ (fun H locs hG => ?_)
            refine lv_aload_n hx hb dX10_burn_103 rfl (lv_at hl 0 rfl) ?_
            obtain ⟨v104, e104, h⟩ := Option.bind_eq_some_iff.mp h
            refine g_getr hx hb hts inlX10 hown hK hG (by rfl) 10 (by decide) qF_X10_19 e104 dX10_burn_104 ?_
            refine lv_iload hx hb dX10_burn_107 (lv_at hl 5 rfl) ?_
            refine lv_iload hx hb dX10_burn_109 (lv_at hl 4 rfl) ?_
            obtain ⟨G111, e111, h⟩ := Option.bind_eq_some_iff.mp h
            refine g_iast hx hb hK hG e111 dX10_burn_111 (fun H locs hG => ?_)
            refine lv_aload_n hx hb dX10_burn_112 rfl (lv_at hl 0 rfl) ?_
            obtain ⟨v113, e113, h⟩ := Option.bind_eq_some_iff.mp h
            refine g_getr hx hb hts inlX10 hown hK hG (by rfl) 11 (by decide) qF_X10_22 e113 dX10_burn_113 ?_
            refine lv_iload hx hb dX10_burn_116 (lv_at hl 4 rfl) ?_
            refine lv_iload hx hb dX10_burn_118 (lv_at hl 5 rfl) ?_
            obtain ⟨G120, e120, h⟩ := Option.bind_eq_some_iff.mp h
            refine g_iast hx hb hK hG e120 dX10_burn_120 (fun H locs hG => ?_)
            refine lv_iload hx hb dX10_burn_121 (lv_at hl 5 rfl) ?_
            obtain ⟨rfl, rfl⟩ := Prod.mk.inj (Option.some.inj h)
            exact g_iret hx hb hr hlocks hK hlo hG ⟨rfl, rfl⟩ dX10_burn_123
          · rw [if_neg c79] at h
            refine lv_aload_n hx hb dX10_burn_82 rfl (lv_at hl 0 rfl) ?_
            refine lv_iload hx hb dX10_burn_83 (lv_at hl 5 rfl) ?_
            refine lv_iconst (v := (3 : Int32)) hx hb dX10_burn_85 (by decide) ?_
            refine lv_null hx hb dX10_burn_86 ?_
            refine lv_iconst (v := (-1 : Int32)) hx hb dX10_burn_87 (by decide) ?_
            obtain ⟨u88, i88, h⟩ := Option.bind_eq_some_iff.mp h
            obtain ⟨G88, e88, h⟩ := Option.bind_eq_some_iff.mp h
            refine g_cVv (As := [.int bx5, .int (3 : Int32), .null, .int (-1 : Int32)]) (rest := []) (n := 4) hx hb hml hown hts hK hlo hG (m_X10_put_n l dd cT lo G ba0 bx5 (3 : Int32) (-1 : Int32) e88) qM_X10_63 qI_yX10_put qS_X10_yX10_put qN_X10 qC_yX10_put (by decide +kernel) ⟨Nat.le_of_ble_eq_true rfl, Nat.le_of_ble_eq_true rfl⟩ (by rfl) i88 rfl hl.1 rfl (Nat.le_of_ble_eq_true rfl) dX10_burn_88 ⟨Nat.le_of_ble_eq_true rfl, Nat.le_of_ble_eq_true rfl⟩ (fun H locs hG => ?_)
            refine lv_goto (tgt := 124) hx hb dX10_burn_91 (by decide) ?_
            refine lv_iinc (v := (bx5 + (1 : Int32))) (lv' := [(5, .int (bx5 + (1 : Int32))), (0, .ref ba0), (1, .int bx1), (2, .ref ba2), (3, .int bx3), (4, .int bx4)]) hx hb dX10_burn_124 hl (k := 5) rfl rfl (by decide) rfl (fun ls hl => ?_)
            refine lv_goto (tgt := 50) hx hb dX10_burn_127 (by decide) ?_
            exact ih50 G88 ba0 bx1 ba2 bx3 bx4 (bx5 + (1 : Int32)) _ _ hG _ (lv_sub hl [1, 2, 3, 4, 5, 0] rfl) h
        · rw [if_neg c66] at h
          refine lv_goto (tgt := 124) hx hb dX10_burn_69 (by decide) ?_
          refine lv_iinc (v := (bx5 + (1 : Int32))) (lv' := [(5, .int (bx5 + (1 : Int32))), (0, .ref ba0), (1, .int bx1), (2, .ref ba2), (3, .int bx3), (4, .int bx4)]) hx hb dX10_burn_124 hl (k := 5) rfl rfl (by decide) rfl (fun ls hl => ?_)
          refine lv_goto (tgt := 50) hx hb dX10_burn_127 (by decide) ?_
          exact ih50 G ba0 bx1 ba2 bx3 bx4 (bx5 + (1 : Int32)) _ _ hG _ (lv_sub hl [1, 2, 3, 4, 5, 0] rfl) h
  unfold f_X10_burn_r at h
  refine lv_aload_n hx hb dX10_burn_0 rfl (lv_at hl 0 rfl) ?_
  refine lv_dup hx hb dX10_burn_1 rfl ?_
  obtain ⟨v2, e2, h⟩ := Option.bind_eq_some_iff.mp h
  refine g_geti hx hb hts inlX10 hown hK hG (by rfl) 3 (by decide) qF_X10_60 e2 dX10_burn_2 ?_
  refine lv_dup_x1 hx hb dX10_burn_5 rfl rfl ?_
  refine lv_iconst (v := (1 : Int32)) hx hb dX10_burn_6 (by decide) ?_
  refine lv_iadd hx hb dX10_burn_7 ?_
  obtain ⟨G8, i8, h⟩ := Option.bind_eq_some_iff.mp h
  refine g_putv hx hb hts inlX10 tyX10 tyX10_ok nmX10 hown hK hG (by rfl) 3 (by decide) qF_X10_60 rfl rfl rfl rfl i8 dX10_burn_8 (fun H locs hG => ?_)
  refine lv_istore (lv' := [(4, .int v2), (0, .ref a0), (1, .int x1), (2, .ref a2), (3, .int x3)]) hx hb dX10_burn_11 hl (by decide) rfl (fun ls hl => ?_)
  refine lv_aload_n hx hb dX10_burn_13 rfl (lv_at hl 1 rfl) ?_
  obtain ⟨v14, e14, h⟩ := Option.bind_eq_some_iff.mp h
  refine g_getr hx hb hts inlX10 hown hK hG (by rfl) 12 (by decide) qF_X10_25 e14 dX10_burn_14 ?_
  refine lv_iload hx hb dX10_burn_17 (lv_at hl 0 rfl) ?_
  obtain ⟨v19, e19, h⟩ := Option.bind_eq_some_iff.mp h
  refine g_zald hx hb hK hG e19 dX10_burn_19 ?_
  refine lv_if_ne (tgt := 35) hx hb dX10_burn_20 (by decide) (fun c20 => ?_) (fun c20 => ?_)
  · rw [if_neg c20] at h
    refine lv_aload_n hx hb dX10_burn_35 rfl (lv_at hl 1 rfl) ?_
    refine lv_iload hx hb dX10_burn_36 (lv_at hl 0 rfl) ?_
    refine lv_iconst (v := (3 : Int32)) hx hb dX10_burn_38 (by decide) ?_
    refine lv_null hx hb dX10_burn_39 ?_
    refine lv_iconst (v := (-1 : Int32)) hx hb dX10_burn_40 (by decide) ?_
    obtain ⟨u41, i41, h⟩ := Option.bind_eq_some_iff.mp h
    obtain ⟨G41, e41, h⟩ := Option.bind_eq_some_iff.mp h
    refine g_cVv (As := [.int v2, .int (3 : Int32), .null, .int (-1 : Int32)]) (rest := []) (n := 4) hx hb hml hown hts hK hlo hG (m_X10_put_n l dd cT lo G8 a0 v2 (3 : Int32) (-1 : Int32) e41) qM_X10_63 qI_yX10_put qS_X10_yX10_put qN_X10 qC_yX10_put (by decide +kernel) ⟨Nat.le_of_ble_eq_true rfl, Nat.le_of_ble_eq_true rfl⟩ (by rfl) i41 rfl hl.1 rfl (Nat.le_of_ble_eq_true rfl) dX10_burn_41 ⟨Nat.le_of_ble_eq_true rfl, Nat.le_of_ble_eq_true rfl⟩ (fun H locs hG => ?_)
    refine lv_aload_n hx hb dX10_burn_44 rfl (lv_at hl 1 rfl) ?_
    obtain ⟨u45, i45, h⟩ := Option.bind_eq_some_iff.mp h
    obtain ⟨v45, e45, h⟩ := Option.bind_eq_some_iff.mp h
    refine g_cVi (As := []) (rest := []) (n := 0) hx hb hml hown hts hK hlo hG (m_X10_main l dd cT lo G41 a0 e45) qM_X10_67 qI_yX10_main qS_X10_yX10_main qN_X10 qC_yX10_main (by decide +kernel) ⟨Nat.le_of_ble_eq_true rfl, Nat.le_of_ble_eq_true rfl⟩ (by rfl) i45 rfl hl.1 rfl (Nat.le_of_ble_eq_true rfl) dX10_burn_45 ⟨Nat.le_of_ble_eq_true rfl, Nat.le_of_ble_eq_true rfl⟩ (fun H locs hG => ?_)
    refine lv_istore (lv' := [(5, .int v45), (4, .int v2), (0, .ref a0), (1, .int x1), (2, .ref a2), (3, .int x3)]) hx hb dX10_burn_48 hl (by decide) rfl (fun ls hl => ?_)
    exact h50 g_N G41 a0 x1 a2 x3 v2 v45 _ _ hG _ (lv_sub hl [2, 3, 4, 5, 1, 0] rfl) h
  · rw [if_pos c20] at h
    refine lv_aload_n hx hb dX10_burn_23 rfl (lv_at hl 1 rfl) ?_
    refine lv_iload hx hb dX10_burn_24 (lv_at hl 0 rfl) ?_
    refine lv_iload_n hx hb dX10_burn_26 rfl (lv_at hl 2 rfl) ?_
    refine lv_aload_n hx hb dX10_burn_27 rfl (lv_at hl 3 rfl) ?_
    refine lv_iload_n hx hb dX10_burn_28 rfl (lv_at hl 4 rfl) ?_
    obtain ⟨u29, i29, h⟩ := Option.bind_eq_some_iff.mp h
    obtain ⟨G29, e29, h⟩ := Option.bind_eq_some_iff.mp h
    refine g_cVv (As := [.int v2, .int x1, .ref a2, .int x3]) (rest := []) (n := 4) hx hb hml hown hts hK hlo hG (m_X10_put_r l dd cT lo G8 a0 v2 x1 a2 x3 e29) qM_X10_63 qI_yX10_put qS_X10_yX10_put qN_X10 qC_yX10_put (by decide +kernel) ⟨Nat.le_of_ble_eq_true rfl, Nat.le_of_ble_eq_true rfl⟩ (by rfl) i29 rfl hl.1 rfl (Nat.le_of_ble_eq_true rfl) dX10_burn_29 ⟨Nat.le_of_ble_eq_true rfl, Nat.le_of_ble_eq_true rfl⟩ (fun H locs hG => ?_)
    refine lv_iload hx hb dX10_burn_32 (lv_at hl 0 rfl) ?_
    obtain ⟨rfl, rfl⟩ := Prod.mk.inj (Option.some.inj h)
    exact g_iret hx hb hr hlocks hK hlo hG ⟨rfl, rfl⟩ dX10_burn_34
set_option maxRecDepth 20000 in
set_option maxHeartbeats 4000000 in
theorem m_X10_spares (l : Launch) (dd : va_G) (cT : Nat → ClassId) (lo : Nat → Prop) (G : gH) (a0 : Nat) (x1 : Int32) {rz : Int32} (h : f_X10_spares G a0 x1 = some rz) : Met l yX10_spares (Cond.code yX10_spares cX10_spares 5 (some .boolean) :: wsL_law) (g_rm 1 20 0 0) (va_Pc [.ref a0, .int x1] (g_Pre lo dd cT G)) (va_Qi (g_is rz G) (g_Pre lo dd cT) (g_A lo)) 0 0 (g_A lo) := by
  refine g_start RX10 rfl (by decide) (Nat.le_of_ble_eq_true rfl) ?_
  intro p e s m below meth c hx hb hr hlocks hml hown hnm hts hK hG hlo ls hl
  have hl : lv_has ls 5 [(0, .ref a0), (1, .int x1)] := hl
  have hG : g_S lo dd cT s s.heap [] G := hG
  have h51 : ∀ n51 : Nat, ∀ (ba0 : Nat) (bx1 : Int32) (bx2 : Int32) (bx3 : Int32) (bx4 : Int32), ∀ (H : Heap) (locs : List Loc), g_S lo dd cT s H locs G → ∀ ls : Array Slot, lv_has ls 5 [(0, .ref ba0), (1, .int bx1), (2, .int bx2), (3, .int bx3), (4, .int bx4)] → f_X10_spares_L51 G n51 ba0 bx1 bx2 bx3 bx4 = some rz → W p l e (g_rm 1 20 0 0) s m ([.ref a0, .int x1] : List Value).toArray below meth c H locs 0 0 (MQ below (va_Qi (g_is rz G) (g_Pre lo dd cT) (g_A lo)) ([.ref a0, .int x1] : List Value).toArray s 0 0 (g_A lo)) (F0 m 51 ls []) := by
    intro n51
    induction n51 with
    | zero =>
      intro ba0 bx1 bx2 bx3 bx4 H locs hG ls hl h
      cases (show (none : Option Int32) = some rz from h)
    | succ n51 ih51 =>
      intro ba0 bx1 bx2 bx3 bx4 H locs hG ls hl h
      rw [f_X10_spares_L51] at h
      refine lv_iload hx hb dX10_spares_51 (lv_at hl 4 rfl) ?_
      refine lv_iload_n hx hb dX10_spares_53 rfl (lv_at hl 1 rfl) ?_
      refine lv_icmp_ge (tgt := 81) hx hb dX10_spares_54 (by decide) (fun c54 => ?_) (fun c54 => ?_)
      · rw [if_pos c54] at h
        refine lv_iload_n hx hb dX10_spares_81 rfl (lv_at hl 3 rfl) ?_
        refine lv_iload_n hx hb dX10_spares_82 rfl (lv_at hl 2 rfl) ?_
        refine lv_icmp_gt (tgt := 90) hx hb dX10_spares_83 (by decide) (fun c83 => ?_) (fun c83 => ?_)
        · rw [if_pos c83] at h
          refine lv_iconst (v := (0 : Int32)) hx hb dX10_spares_90 (by decide) ?_
          obtain rfl := Option.some.inj h
          exact g_zret hx hb hr hlocks hK hlo hG rfl ⟨rfl, rfl⟩ dX10_spares_91
        · rw [if_neg c83] at h
          refine lv_iconst (v := (1 : Int32)) hx hb dX10_spares_86 (by decide) ?_
          refine lv_goto (tgt := 91) hx hb dX10_spares_87 (by decide) ?_
          obtain rfl := Option.some.inj h
          exact g_zret hx hb hr hlocks hK hlo hG rfl ⟨rfl, rfl⟩ dX10_spares_91
      · rw [if_neg c54] at h
        refine lv_aload_n hx hb dX10_spares_57 rfl (lv_at hl 0 rfl) ?_
        obtain ⟨v58, e58, h⟩ := Option.bind_eq_some_iff.mp h
        refine g_getr hx hb hts inlX10 hown hK hG (by rfl) 12 (by decide) qF_X10_25 e58 dX10_spares_58 ?_
        refine lv_aload_n hx hb dX10_spares_61 rfl (lv_at hl 0 rfl) ?_
        obtain ⟨v62, e62, h⟩ := Option.bind_eq_some_iff.mp h
        refine g_geti hx hb hts inlX10 hown hK hG (by rfl) 3 (by decide) qF_X10_60 e62 dX10_spares_62 ?_
        refine lv_iload hx hb dX10_spares_65 (lv_at hl 4 rfl) ?_
        refine lv_iadd hx hb dX10_spares_67 ?_
        obtain ⟨v68, e68, h⟩ := Option.bind_eq_some_iff.mp h
        refine g_zald hx hb hK hG e68 dX10_spares_68 ?_
        refine lv_if_eq (tgt := 75) hx hb dX10_spares_69 (by decide) (fun c69 => ?_) (fun c69 => ?_)
        · rw [if_pos c69] at h
          refine lv_iinc (v := (bx4 + (1 : Int32))) (lv' := [(4, .int (bx4 + (1 : Int32))), (0, .ref ba0), (1, .int bx1), (2, .int bx2), (3, .int bx3)]) hx hb dX10_spares_75 hl (k := 4) rfl rfl (by decide) rfl (fun ls hl => ?_)
          refine lv_goto (tgt := 51) hx hb dX10_spares_78 (by decide) ?_
          exact ih51 ba0 bx1 bx2 bx3 (bx4 + (1 : Int32)) _ _ hG _ (lv_sub hl [1, 2, 3, 4, 0] rfl) h
        · rw [if_neg c69] at h
          refine lv_iinc (v := (bx3 + (1 : Int32))) (lv' := [(3, .int (bx3 + (1 : Int32))), (0, .ref ba0), (1, .int bx1), (2, .int bx2), (4, .int bx4)]) hx hb dX10_spares_72 hl (k := 3) rfl rfl (by decide) rfl (fun ls hl => ?_)
          refine lv_iinc (v := (bx4 + (1 : Int32))) (lv' := [(4, .int (bx4 + (1 : Int32))), (3, .int (bx3 + (1 : Int32))), (0, .ref ba0), (1, .int bx1), (2, .int bx2)]) hx hb dX10_spares_75 hl (k := 4) rfl rfl (by decide) rfl (fun ls hl => ?_)
          refine lv_goto (tgt := 51) hx hb dX10_spares_78 (by decide) ?_
          exact ih51 ba0 bx1 bx2 (bx3 + (1 : Int32)) (bx4 + (1 : Int32)) _ _ hG _ (lv_sub hl [2, 3, 4, 1, 0] rfl) h
  have h10 : ∀ n10 : Nat, ∀ (ba0 : Nat) (bx1 : Int32) (bx2 : Int32) (bx3 : Int32) (bx4 : Int32), ∀ (H : Heap) (locs : List Loc), g_S lo dd cT s H locs G → ∀ ls : Array Slot, lv_has ls 5 [(0, .ref ba0), (1, .int bx1), (2, .int bx2), (3, .int bx3), (4, .int bx4)] → f_X10_spares_L10 G n10 ba0 bx1 bx2 bx3 bx4 = some rz → W p l e (g_rm 1 20 0 0) s m ([.ref a0, .int x1] : List Value).toArray below meth c H locs 0 0 (MQ below (va_Qi (g_is rz G) (g_Pre lo dd cT) (g_A lo)) ([.ref a0, .int x1] : List Value).toArray s 0 0 (g_A lo)) (F0 m 10 ls []) := by
    intro n10
    induction n10 with
    | zero =>
      intro ba0 bx1 bx2 bx3 bx4 H locs hG ls hl h
      cases (show (none : Option Int32) = some rz from h)
    | succ n10 ih10 =>
      intro ba0 bx1 bx2 bx3 bx4 H locs hG ls hl h
      rw [f_X10_spares_L10] at h
      refine lv_iload hx hb dX10_spares_10 (lv_at hl 4 rfl) ?_
      refine lv_aload_n hx hb dX10_spares_12 rfl (lv_at hl 0 rfl) ?_
      obtain ⟨v13, e13, h⟩ := Option.bind_eq_some_iff.mp h
      refine g_geti hx hb hts inlX10 hown hK hG (by rfl) 0 (by decide) qF_X10_47 e13 dX10_spares_13 ?_
      refine lv_icmp_ge (tgt := 48) hx hb dX10_spares_16 (by decide) (fun c16 => ?_) (fun c16 => ?_)
      · rw [if_pos c16] at h
        refine lv_iconst (v := (0 : Int32)) hx hb dX10_spares_48 (by decide) ?_
        refine lv_istore (lv' := [(4, .int (0 : Int32)), (0, .ref ba0), (1, .int bx1), (2, .int bx2), (3, .int bx3)]) hx hb dX10_spares_49 hl (by decide) rfl (fun ls hl => ?_)
        exact h51 g_N ba0 bx1 bx2 bx3 (0 : Int32) _ _ hG _ (lv_sub hl [1, 2, 3, 4, 0] rfl) h
      · rw [if_neg c16] at h
        refine lv_aload_n hx hb dX10_spares_19 rfl (lv_at hl 0 rfl) ?_
        obtain ⟨v20, e20, h⟩ := Option.bind_eq_some_iff.mp h
        refine g_getr hx hb hts inlX10 hown hK hG (by rfl) 7 (by decide) qF_X10_7 e20 dX10_spares_20 ?_
        refine lv_iload hx hb dX10_spares_23 (lv_at hl 4 rfl) ?_
        obtain ⟨v25, e25, h⟩ := Option.bind_eq_some_iff.mp h
        refine g_iald hx hb hK hG e25 dX10_spares_25 ?_
        refine lv_if_ne (tgt := 42) hx hb dX10_spares_26 (by decide) (fun c26 => ?_) (fun c26 => ?_)
        · rw [if_neg c26] at h
          refine lv_iinc (v := (bx4 + (1 : Int32))) (lv' := [(4, .int (bx4 + (1 : Int32))), (0, .ref ba0), (1, .int bx1), (2, .int bx2), (3, .int bx3)]) hx hb dX10_spares_42 hl (k := 4) rfl rfl (by decide) rfl (fun ls hl => ?_)
          refine lv_goto (tgt := 10) hx hb dX10_spares_45 (by decide) ?_
          exact ih10 ba0 bx1 bx2 bx3 (bx4 + (1 : Int32)) _ _ hG _ (lv_sub hl [1, 2, 3, 4, 0] rfl) h
        · rw [if_pos c26] at h
          refine lv_aload_n hx hb dX10_spares_29 rfl (lv_at hl 0 rfl) ?_
          obtain ⟨v30, e30, h⟩ := Option.bind_eq_some_iff.mp h
          refine g_getr hx hb hts inlX10 hown hK hG (by rfl) 12 (by decide) qF_X10_25 e30 dX10_spares_30 ?_
          refine lv_iload hx hb dX10_spares_33 (lv_at hl 4 rfl) ?_
          obtain ⟨v35, e35, h⟩ := Option.bind_eq_some_iff.mp h
          refine g_zald hx hb hK hG e35 dX10_spares_35 ?_
          refine lv_if_ne (tgt := 42) hx hb dX10_spares_36 (by decide) (fun c36 => ?_) (fun c36 => ?_)
          · rw [if_neg c36] at h
            refine lv_iinc (v := (bx4 + (1 : Int32))) (lv' := [(4, .int (bx4 + (1 : Int32))), (0, .ref ba0), (1, .int bx1), (2, .int bx2), (3, .int bx3)]) hx hb dX10_spares_42 hl (k := 4) rfl rfl (by decide) rfl (fun ls hl => ?_)
            refine lv_goto (tgt := 10) hx hb dX10_spares_45 (by decide) ?_
            exact ih10 ba0 bx1 bx2 bx3 (bx4 + (1 : Int32)) _ _ hG _ (lv_sub hl [1, 2, 3, 4, 0] rfl) h
          · rw [if_pos c36] at h
            refine lv_iinc (v := (bx2 + (1 : Int32))) (lv' := [(2, .int (bx2 + (1 : Int32))), (0, .ref ba0), (1, .int bx1), (3, .int bx3), (4, .int bx4)]) hx hb dX10_spares_39 hl (k := 2) rfl rfl (by decide) rfl (fun ls hl => ?_)
            refine lv_iinc (v := (bx4 + (1 : Int32))) (lv' := [(4, .int (bx4 + (1 : Int32))), (2, .int (bx2 + (1 : Int32))), (0, .ref ba0), (1, .int bx1), (3, .int bx3)]) hx hb dX10_spares_42 hl (k := 4) rfl rfl (by decide) rfl (fun ls hl => ?_)
            refine lv_goto (tgt := 10) hx hb dX10_spares_45 (by decide) ?_
            exact ih10 ba0 bx1 (bx2 + (1 : Int32)) bx3 (bx4 + (1 : Int32)) _ _ hG _ (lv_sub hl [2, 3, 1, 4, 0] rfl) h
  unfold f_X10_spares at h
  refine lv_iconst (v := (0 : Int32)) hx hb dX10_spares_0 (by decide) ?_
  refine lv_istore_n (lv' := [(2, .int (0 : Int32)), (0, .ref a0), (1, .int x1)]) hx hb dX10_spares_1 rfl hl (by decide) rfl (fun ls hl => ?_)
  refine lv_iconst (v := (0 : Int32)) hx hb dX10_spares_2 (by decide) ?_
  refine lv_istore_n (lv' := [(3, .int (0 : Int32)), (2, .int (0 : Int32)), (0, .ref a0), (1, .int x1)]) hx hb dX10_spares_3 rfl hl (by decide) rfl (fun ls hl => ?_)
  refine lv_aload_n hx hb dX10_spares_4 rfl (lv_at hl 2 rfl) ?_
  obtain ⟨u5, i5, h⟩ := Option.bind_eq_some_iff.mp h
  obtain ⟨v5, e5, h⟩ := Option.bind_eq_some_iff.mp h
  refine g_cVi (As := []) (rest := []) (n := 0) hx hb hml hown hts hK hlo hG (m_X10_main l dd cT lo G a0 e5) qM_X10_67 qI_yX10_main qS_X10_yX10_main qN_X10 qC_yX10_main (by decide +kernel) ⟨Nat.le_of_ble_eq_true rfl, Nat.le_of_ble_eq_true rfl⟩ (by rfl) i5 rfl hl.1 rfl (Nat.le_of_ble_eq_true rfl) dX10_spares_5 ⟨Nat.le_of_ble_eq_true rfl, Nat.le_of_ble_eq_true rfl⟩ (fun H locs hG => ?_)
  refine lv_istore (lv' := [(4, .int v5), (3, .int (0 : Int32)), (2, .int (0 : Int32)), (0, .ref a0), (1, .int x1)]) hx hb dX10_spares_8 hl (by decide) rfl (fun ls hl => ?_)
  exact h10 g_N a0 x1 (0 : Int32) (0 : Int32) v5 _ _ hG _ (lv_sub hl [3, 4, 2, 1, 0] rfl) h
set_option maxRecDepth 20000 in
set_option maxHeartbeats 4000000 in
theorem m_X10_why (l : Launch) (dd : va_G) (cT : Nat → ClassId) (lo : Nat → Prop) (G : gH) (a0 : Nat) (x1 : Int32) (x2 : Int32) {rz : Int32} (h : f_X10_why G a0 x1 x2 = some rz) : Met l yX10_why (Cond.code yX10_why cX10_why 3 (some .int) :: wsL_law) (g_rm 2 44 0 0) (va_Pc [.ref a0, .int x1, .int x2] (g_Pre lo dd cT G)) (va_Qi (g_is rz G) (g_Pre lo dd cT) (g_A lo)) 0 0 (g_A lo) := by
  refine g_start RX10 rfl (by decide) (Nat.le_of_ble_eq_true rfl) ?_
  intro p e s m below meth c hx hb hr hlocks hml hown hnm hts hK hG hlo ls hl
  have hl : lv_has ls 3 [(0, .ref a0), (1, .int x1), (2, .int x2)] := hl
  have hG : g_S lo dd cT s s.heap [] G := hG
  unfold f_X10_why at h
  refine lv_aload_n hx hb dX10_why_0 rfl (lv_at hl 0 rfl) ?_
  obtain ⟨v1, e1, h⟩ := Option.bind_eq_some_iff.mp h
  refine g_geti hx hb hts inlX10 hown hK hG (by rfl) 3 (by decide) qF_X10_60 e1 dX10_why_1 ?_
  refine lv_iload_n hx hb dX10_why_4 rfl (lv_at hl 1 rfl) ?_
  refine lv_iadd hx hb dX10_why_5 ?_
  refine lv_iload_n hx hb dX10_why_6 rfl (lv_at hl 2 rfl) ?_
  refine lv_iconst (v := (3 : Int32)) hx hb dX10_why_7 (by decide) ?_
  refine lv_iadd hx hb dX10_why_8 ?_
  refine lv_iconst (v := (4 : Int32)) hx hb dX10_why_9 (by decide) ?_
  refine lv_idiv hx hb dX10_why_10 (by decide) ?_
  refine lv_iadd hx hb dX10_why_11 ?_
  refine lv_aload_n hx hb dX10_why_12 rfl (lv_at hl 0 rfl) ?_
  obtain ⟨u13, i13, h⟩ := Option.bind_eq_some_iff.mp h
  obtain ⟨v13, e13, h⟩ := Option.bind_eq_some_iff.mp h
  refine g_cVi (As := []) (rest := [.int ((v1 + x1) + ((x2 + (3 : Int32)) / (4 : Int32)))]) (n := 0) hx hb hml hown hts hK hlo hG (m_X10_main l dd cT lo G a0 e13) qM_X10_67 qI_yX10_main qS_X10_yX10_main qN_X10 qC_yX10_main (by decide +kernel) ⟨Nat.le_of_ble_eq_true rfl, Nat.le_of_ble_eq_true rfl⟩ (by rfl) i13 rfl hl.1 rfl (Nat.le_of_ble_eq_true rfl) dX10_why_13 ⟨Nat.le_of_ble_eq_true rfl, Nat.le_of_ble_eq_true rfl⟩ (fun H locs hG => ?_)
  refine lv_icmp_le (tgt := 23) hx hb dX10_why_16 (by decide) (fun c16 => ?_) (fun c16 => ?_)
  · rw [if_pos c16] at h
    refine lv_aload_n hx hb dX10_why_23 rfl (lv_at hl 0 rfl) ?_
    refine lv_iload_n hx hb dX10_why_24 rfl (lv_at hl 1 rfl) ?_
    obtain ⟨u25, i25, h⟩ := Option.bind_eq_some_iff.mp h
    obtain ⟨v25, e25, h⟩ := Option.bind_eq_some_iff.mp h
    refine g_cVi (As := [.int x1]) (rest := []) (n := 1) hx hb hml hown hts hK hlo hG (m_X10_spares l dd cT lo G a0 x1 e25) qM_X10_71 qI_yX10_spares qS_X10_yX10_spares qN_X10 qC_yX10_spares (by decide +kernel) ⟨Nat.le_of_ble_eq_true rfl, Nat.le_of_ble_eq_true rfl⟩ (by rfl) i25 rfl hl.1 rfl (Nat.le_of_ble_eq_true rfl) dX10_why_25 ⟨Nat.le_of_ble_eq_true rfl, Nat.le_of_ble_eq_true rfl⟩ (fun H locs hG => ?_)
    refine lv_if_eq (tgt := 35) hx hb dX10_why_28 (by decide) (fun c28 => ?_) (fun c28 => ?_)
    · rw [if_pos c28] at h
      refine lv_iconst (v := (5 : Int32)) hx hb dX10_why_35 (by decide) ?_
      obtain rfl := Option.some.inj h
      exact g_iret hx hb hr hlocks hK hlo hG ⟨rfl, rfl⟩ dX10_why_36
    · rw [if_neg c28] at h
      refine lv_iconst (v := (0 : Int32)) hx hb dX10_why_31 (by decide) ?_
      refine lv_goto (tgt := 36) hx hb dX10_why_32 (by decide) ?_
      obtain rfl := Option.some.inj h
      exact g_iret hx hb hr hlocks hK hlo hG ⟨rfl, rfl⟩ dX10_why_36
  · rw [if_neg c16] at h
    refine lv_iconst (v := (4 : Int32)) hx hb dX10_why_19 (by decide) ?_
    refine lv_goto (tgt := 36) hx hb dX10_why_20 (by decide) ?_
    obtain rfl := Option.some.inj h
    exact g_iret hx hb hr hlocks hK hlo hG ⟨rfl, rfl⟩ dX10_why_36
set_option maxRecDepth 20000 in
set_option maxHeartbeats 4000000 in
theorem m_X10_entriesWith (l : Launch) (dd : va_G) (cT : Nat → ClassId) (lo : Nat → Prop) (G : gH) (a0 : Nat) (x1 : Int32) {rz : Int32} (h : f_X10_entriesWith G a0 x1 = some rz) : Met l yX10_entriesWith (Cond.code yX10_entriesWith cX10_entriesWith 3 (some .int) :: wsL_law) (g_rm 1 22 0 0) (va_Pc [.ref a0, .int x1] (g_Pre lo dd cT G)) (va_Qi (g_is rz G) (g_Pre lo dd cT) (g_A lo)) 0 0 (g_A lo) := by
  refine g_start RX10 rfl (by decide) (Nat.le_of_ble_eq_true rfl) ?_
  intro p e s m below meth c hx hb hr hlocks hml hown hnm hts hK hG hlo ls hl
  have hl : lv_has ls 3 [(0, .ref a0), (1, .int x1)] := hl
  have hG : g_S lo dd cT s s.heap [] G := hG
  unfold f_X10_entriesWith at h
  refine lv_aload_n hx hb dX10_entriesWith_0 rfl (lv_at hl 0 rfl) ?_
  obtain ⟨u1, i1, h⟩ := Option.bind_eq_some_iff.mp h
  obtain ⟨v1, e1, h⟩ := Option.bind_eq_some_iff.mp h
  refine g_cVq (As := []) (rest := []) (n := 0) hx hb hml hown hts hK hlo hG (m_X10_open l dd cT lo G a0 e1) qM_X10_75 qI_yX10_open qS_X10_yX10_open qN_X10 qC_yX10_open (by decide +kernel) ⟨Nat.le_of_ble_eq_true rfl, Nat.le_of_ble_eq_true rfl⟩ (by rfl) i1 rfl hl.1 rfl (Nat.le_of_ble_eq_true rfl) dX10_entriesWith_1 ⟨Nat.le_of_ble_eq_true rfl, Nat.le_of_ble_eq_true rfl⟩ (fun H locs hG => ?_)
  rcases v1 with _ | r1
  · rw [g_nul_none] at h
    refine lv_astore_nN (lv' := [(2, .null), (0, .ref a0), (1, .int x1)]) hx hb dX10_entriesWith_4 rfl hl (by decide) rfl (fun ls hl => ?_)
    refine lv_aload_nN hx hb dX10_entriesWith_5 rfl (lv_at hl 0 rfl) ?_
    refine lv_ifnonnullN hx hb dX10_entriesWith_6 ?_
    refine lv_iconst (v := (1 : Int32)) hx hb dX10_entriesWith_9 (by decide) ?_
    refine lv_goto (tgt := 31) hx hb dX10_entriesWith_10 (by decide) ?_
    obtain rfl := Option.some.inj h
    exact g_iret hx hb hr hlocks hK hlo hG ⟨rfl, rfl⟩ dX10_entriesWith_31
  · rw [g_nul_some] at h
    refine lv_astore_n (lv' := [(2, .ref r1), (0, .ref a0), (1, .int x1)]) hx hb dX10_entriesWith_4 rfl hl (by decide) rfl (fun ls hl => ?_)
    refine lv_aload_n hx hb dX10_entriesWith_5 rfl (lv_at hl 0 rfl) ?_
    refine lv_ifnonnull (tgt := 13) hx hb dX10_entriesWith_6 (by decide) ?_
    refine lv_aload_n hx hb dX10_entriesWith_13 rfl (lv_at hl 0 rfl) ?_
    obtain ⟨v14, e14, h⟩ := Option.bind_eq_some_iff.mp h
    refine g_getiN hx hb hts inlX12 hown hK hG (by rfl) 2 (by decide) (List.mem_of_getElem? (i := 31) rfl) e14 dX10_entriesWith_14 ?_
    refine lv_aload_n hx hb dX10_entriesWith_17 rfl (lv_at hl 0 rfl) ?_
    refine lv_iload_n hx hb dX10_entriesWith_18 rfl (lv_at hl 2 rfl) ?_
    obtain ⟨u19, i19, h⟩ := Option.bind_eq_some_iff.mp h
    obtain ⟨v19, e19, h⟩ := Option.bind_eq_some_iff.mp h
    refine g_cVi (As := [.int x1]) (rest := [.int v14]) (n := 1) hx hb hml hown hts hK hlo hG (m_X12_find l dd cT lo G r1 x1 e19) qM_X10_82 qI_yX12_find qS_X12_yX12_find qN_X12 qC_yX12_find (by decide +kernel) ⟨Nat.le_of_ble_eq_true rfl, Nat.le_of_ble_eq_true rfl⟩ (by rfl) i19 rfl hl.1 rfl (Nat.le_of_ble_eq_true rfl) dX10_entriesWith_19 ⟨Nat.le_of_ble_eq_true rfl, Nat.le_of_ble_eq_true rfl⟩ (fun H locs hG => ?_)
    refine lv_if_ge (tgt := 29) hx hb dX10_entriesWith_22 (by decide) (fun c22 => ?_) (fun c22 => ?_)
    · rw [if_pos c22] at h
      refine lv_iconst (v := (0 : Int32)) hx hb dX10_entriesWith_29 (by decide) ?_
      refine lv_iadd hx hb dX10_entriesWith_30 ?_
      obtain rfl := Option.some.inj h
      exact g_iret hx hb hr hlocks hK hlo hG ⟨rfl, rfl⟩ dX10_entriesWith_31
    · rw [if_neg c22] at h
      refine lv_iconst (v := (1 : Int32)) hx hb dX10_entriesWith_25 (by decide) ?_
      refine lv_goto (tgt := 30) hx hb dX10_entriesWith_26 (by decide) ?_
      refine lv_iadd hx hb dX10_entriesWith_30 ?_
      obtain rfl := Option.some.inj h
      exact g_iret hx hb hr hlocks hK hlo hG ⟨rfl, rfl⟩ dX10_entriesWith_31
set_option maxRecDepth 20000 in
set_option maxHeartbeats 4000000 in
theorem m_X10_whyWrite (l : Launch) (dd : va_G) (cT : Nat → ClassId) (lo : Nat → Prop) (G : gH) (a0 : Nat) (x1 : Int32) (x2 : Int32) {rz : Int32} (h : f_X10_whyWrite G a0 x1 x2 = some rz) : Met l yX10_whyWrite (Cond.code yX10_whyWrite cX10_whyWrite 3 (some .int) :: wsL_law) (g_rm 3 66 0 0) (va_Pc [.ref a0, .int x1, .int x2] (g_Pre lo dd cT G)) (va_Qi (g_is rz G) (g_Pre lo dd cT) (g_A lo)) 0 0 (g_A lo) := by
  refine g_start RX10 rfl (by decide) (Nat.le_of_ble_eq_true rfl) ?_
  intro p e s m below meth c hx hb hr hlocks hml hown hnm hts hK hG hlo ls hl
  have hl : lv_has ls 3 [(0, .ref a0), (1, .int x1), (2, .int x2)] := hl
  have hG : g_S lo dd cT s s.heap [] G := hG
  unfold f_X10_whyWrite at h
  refine lv_aload_n hx hb dX10_whyWrite_0 rfl (lv_at hl 0 rfl) ?_
  obtain ⟨u1, i1, h⟩ := Option.bind_eq_some_iff.mp h
  obtain ⟨v1, e1, h⟩ := Option.bind_eq_some_iff.mp h
  refine g_cVq (As := []) (rest := []) (n := 0) hx hb hml hown hts hK hlo hG (m_X10_open l dd cT lo G a0 e1) qM_X10_75 qI_yX10_open qS_X10_yX10_open qN_X10 qC_yX10_open (by decide +kernel) ⟨Nat.le_of_ble_eq_true rfl, Nat.le_of_ble_eq_true rfl⟩ (by rfl) i1 rfl hl.1 rfl (Nat.le_of_ble_eq_true rfl) dX10_whyWrite_1 ⟨Nat.le_of_ble_eq_true rfl, Nat.le_of_ble_eq_true rfl⟩ (fun H locs hG => ?_)
  rcases v1 with _ | r1
  · rw [g_nul_none] at h
    refine lv_ifnonnullN hx hb dX10_whyWrite_4 ?_
    refine lv_aload_n hx hb dX10_whyWrite_7 rfl (lv_at hl 0 rfl) ?_
    obtain ⟨v8, e8, h⟩ := Option.bind_eq_some_iff.mp h
    refine g_geti hx hb hts inlX10 hown hK hG (by rfl) 4 (by decide) qF_X10_54 e8 dX10_whyWrite_8 ?_
    refine lv_bipush (v := (12 : Int32)) hx hb dX10_whyWrite_11 (by decide) ?_
    refine lv_icmp_ne (tgt := 20) hx hb dX10_whyWrite_13 (by decide) (fun c13 => ?_) (fun c13 => ?_)
    · rw [if_neg c13] at h
      refine lv_aload_n hx hb dX10_whyWrite_20 rfl (lv_at hl 0 rfl) ?_
      refine lv_iload_n hx hb dX10_whyWrite_21 rfl (lv_at hl 2 rfl) ?_
      refine lv_aload_n hx hb dX10_whyWrite_22 rfl (lv_at hl 0 rfl) ?_
      refine lv_iload_n hx hb dX10_whyWrite_23 rfl (lv_at hl 1 rfl) ?_
      obtain ⟨u24, i24, h⟩ := Option.bind_eq_some_iff.mp h
      obtain ⟨v24, e24, h⟩ := Option.bind_eq_some_iff.mp h
      refine g_cVi (As := [.int x1]) (rest := [.int x2, .ref a0]) (n := 1) hx hb hml hown hts hK hlo hG (m_X10_entriesWith l dd cT lo G a0 x1 e24) qM_X10_86 qI_yX10_entriesWith qS_X10_yX10_entriesWith qN_X10 qC_yX10_entriesWith (by decide +kernel) ⟨Nat.le_of_ble_eq_true rfl, Nat.le_of_ble_eq_true rfl⟩ (by rfl) i24 rfl hl.1 rfl (Nat.le_of_ble_eq_true rfl) dX10_whyWrite_24 ⟨Nat.le_of_ble_eq_true rfl, Nat.le_of_ble_eq_true rfl⟩ (fun H locs hG => ?_)
      obtain ⟨u27, i27, h⟩ := Option.bind_eq_some_iff.mp h
      obtain ⟨v27, e27, h⟩ := Option.bind_eq_some_iff.mp h
      refine g_cVi (As := [.int x2, .int v24]) (rest := []) (n := 2) hx hb hml hown hts hK hlo hG (m_X10_why l dd cT lo G a0 x2 v24 e27) qM_X10_89 qI_yX10_why qS_X10_yX10_why qN_X10 qC_yX10_why (by decide +kernel) ⟨Nat.le_of_ble_eq_true rfl, Nat.le_of_ble_eq_true rfl⟩ (by rfl) i27 rfl hl.1 rfl (Nat.le_of_ble_eq_true rfl) dX10_whyWrite_27 ⟨Nat.le_of_ble_eq_true rfl, Nat.le_of_ble_eq_true rfl⟩ (fun H locs hG => ?_)
      obtain rfl := Option.some.inj h
      exact g_iret hx hb hr hlocks hK hlo hG ⟨rfl, rfl⟩ dX10_whyWrite_30
    · rw [if_pos c13] at h
      refine lv_iconst (v := (3 : Int32)) hx hb dX10_whyWrite_16 (by decide) ?_
      refine lv_goto (tgt := 30) hx hb dX10_whyWrite_17 (by decide) ?_
      obtain rfl := Option.some.inj h
      exact g_iret hx hb hr hlocks hK hlo hG ⟨rfl, rfl⟩ dX10_whyWrite_30
  · rw [g_nul_some] at h
    refine lv_ifnonnull (tgt := 20) hx hb dX10_whyWrite_4 (by decide) ?_
    refine lv_aload_n hx hb dX10_whyWrite_20 rfl (lv_at hl 0 rfl) ?_
    refine lv_iload_n hx hb dX10_whyWrite_21 rfl (lv_at hl 2 rfl) ?_
    refine lv_aload_n hx hb dX10_whyWrite_22 rfl (lv_at hl 0 rfl) ?_
    refine lv_iload_n hx hb dX10_whyWrite_23 rfl (lv_at hl 1 rfl) ?_
    obtain ⟨u24, i24, h⟩ := Option.bind_eq_some_iff.mp h
    obtain ⟨v24, e24, h⟩ := Option.bind_eq_some_iff.mp h
    refine g_cVi (As := [.int x1]) (rest := [.int x2, .ref a0]) (n := 1) hx hb hml hown hts hK hlo hG (m_X10_entriesWith l dd cT lo G a0 x1 e24) qM_X10_86 qI_yX10_entriesWith qS_X10_yX10_entriesWith qN_X10 qC_yX10_entriesWith (by decide +kernel) ⟨Nat.le_of_ble_eq_true rfl, Nat.le_of_ble_eq_true rfl⟩ (by rfl) i24 rfl hl.1 rfl (Nat.le_of_ble_eq_true rfl) dX10_whyWrite_24 ⟨Nat.le_of_ble_eq_true rfl, Nat.le_of_ble_eq_true rfl⟩ (fun H locs hG => ?_)
    obtain ⟨u27, i27, h⟩ := Option.bind_eq_some_iff.mp h
    obtain ⟨v27, e27, h⟩ := Option.bind_eq_some_iff.mp h
    refine g_cVi (As := [.int x2, .int v24]) (rest := []) (n := 2) hx hb hml hown hts hK hlo hG (m_X10_why l dd cT lo G a0 x2 v24 e27) qM_X10_89 qI_yX10_why qS_X10_yX10_why qN_X10 qC_yX10_why (by decide +kernel) ⟨Nat.le_of_ble_eq_true rfl, Nat.le_of_ble_eq_true rfl⟩ (by rfl) i27 rfl hl.1 rfl (Nat.le_of_ble_eq_true rfl) dX10_whyWrite_27 ⟨Nat.le_of_ble_eq_true rfl, Nat.le_of_ble_eq_true rfl⟩ (fun H locs hG => ?_)
    obtain rfl := Option.some.inj h
    exact g_iret hx hb hr hlocks hK hlo hG ⟨rfl, rfl⟩ dX10_whyWrite_30
set_option maxRecDepth 20000 in
set_option maxHeartbeats 4000000 in
theorem m_X10_whyClose (l : Launch) (dd : va_G) (cT : Nat → ClassId) (lo : Nat → Prop) (G : gH) (a0 : Nat) {rz : Int32} (h : f_X10_whyClose G a0 = some rz) : Met l yX10_whyClose (Cond.code yX10_whyClose cX10_whyClose 2 (some .int) :: wsL_law) (g_rm 2 44 0 0) (va_Pc [.ref a0] (g_Pre lo dd cT G)) (va_Qi (g_is rz G) (g_Pre lo dd cT) (g_A lo)) 0 0 (g_A lo) := by
  refine g_start RX10 rfl (by decide) (Nat.le_of_ble_eq_true rfl) ?_
  intro p e s m below meth c hx hb hr hlocks hml hown hnm hts hK hG hlo ls hl
  have hl : lv_has ls 2 [(0, .ref a0)] := hl
  have hG : g_S lo dd cT s s.heap [] G := hG
  unfold f_X10_whyClose at h
  refine lv_aload_n hx hb dX10_whyClose_0 rfl (lv_at hl 0 rfl) ?_
  obtain ⟨u1, i1, h⟩ := Option.bind_eq_some_iff.mp h
  obtain ⟨v1, e1, h⟩ := Option.bind_eq_some_iff.mp h
  refine g_cVq (As := []) (rest := []) (n := 0) hx hb hml hown hts hK hlo hG (m_X10_open l dd cT lo G a0 e1) qM_X10_75 qI_yX10_open qS_X10_yX10_open qN_X10 qC_yX10_open (by decide +kernel) ⟨Nat.le_of_ble_eq_true rfl, Nat.le_of_ble_eq_true rfl⟩ (by rfl) i1 rfl hl.1 rfl (Nat.le_of_ble_eq_true rfl) dX10_whyClose_1 ⟨Nat.le_of_ble_eq_true rfl, Nat.le_of_ble_eq_true rfl⟩ (fun H locs hG => ?_)
  rcases v1 with _ | r1
  · rw [g_nul_none] at h
    refine lv_astore_nN (lv' := [(1, .null), (0, .ref a0)]) hx hb dX10_whyClose_4 rfl hl (by decide) rfl (fun ls hl => ?_)
    refine lv_aload_nN hx hb dX10_whyClose_5 rfl (lv_at hl 0 rfl) ?_
    refine lv_ifnonnullN hx hb dX10_whyClose_6 ?_
    refine lv_iconst (v := (1 : Int32)) hx hb dX10_whyClose_9 (by decide) ?_
    obtain rfl := Option.some.inj h
    exact g_iret hx hb hr hlocks hK hlo hG ⟨rfl, rfl⟩ dX10_whyClose_10
  · rw [g_nul_some] at h
    refine lv_astore_n (lv' := [(1, .ref r1), (0, .ref a0)]) hx hb dX10_whyClose_4 rfl hl (by decide) rfl (fun ls hl => ?_)
    refine lv_aload_n hx hb dX10_whyClose_5 rfl (lv_at hl 0 rfl) ?_
    refine lv_ifnonnull (tgt := 11) hx hb dX10_whyClose_6 (by decide) ?_
    refine lv_aload_n hx hb dX10_whyClose_11 rfl (lv_at hl 1 rfl) ?_
    obtain ⟨v12, e12, h⟩ := Option.bind_eq_some_iff.mp h
    refine g_geti hx hb hts inlX10 hown hK hG (by rfl) 3 (by decide) qF_X10_60 e12 dX10_whyClose_12 ?_
    refine lv_aload_n hx hb dX10_whyClose_15 rfl (lv_at hl 0 rfl) ?_
    obtain ⟨u16, i16, h⟩ := Option.bind_eq_some_iff.mp h
    obtain ⟨v16, e16, h⟩ := Option.bind_eq_some_iff.mp h
    refine g_cVi (As := []) (rest := [.int v12]) (n := 0) hx hb hml hown hts hK hlo hG (m_X12_size l dd cT lo G r1 e16) qM_X10_100 qI_yX12_size qS_X12_yX12_size qN_X12 qC_yX12_size (by decide +kernel) ⟨Nat.le_of_ble_eq_true rfl, Nat.le_of_ble_eq_true rfl⟩ (by rfl) i16 rfl hl.1 rfl (Nat.le_of_ble_eq_true rfl) dX10_whyClose_16 ⟨Nat.le_of_ble_eq_true rfl, Nat.le_of_ble_eq_true rfl⟩ (fun H locs hG => ?_)
    refine lv_iadd hx hb dX10_whyClose_19 ?_
    refine lv_aload_n hx hb dX10_whyClose_20 rfl (lv_at hl 1 rfl) ?_
    obtain ⟨u21, i21, h⟩ := Option.bind_eq_some_iff.mp h
    obtain ⟨v21, e21, h⟩ := Option.bind_eq_some_iff.mp h
    refine g_cVi (As := []) (rest := [.int (v12 + v16)]) (n := 0) hx hb hml hown hts hK hlo hG (m_X10_main l dd cT lo G a0 e21) qM_X10_67 qI_yX10_main qS_X10_yX10_main qN_X10 qC_yX10_main (by decide +kernel) ⟨Nat.le_of_ble_eq_true rfl, Nat.le_of_ble_eq_true rfl⟩ (by rfl) i21 rfl hl.1 rfl (Nat.le_of_ble_eq_true rfl) dX10_whyClose_21 ⟨Nat.le_of_ble_eq_true rfl, Nat.le_of_ble_eq_true rfl⟩ (fun H locs hG => ?_)
    refine lv_icmp_le (tgt := 31) hx hb dX10_whyClose_24 (by decide) (fun c24 => ?_) (fun c24 => ?_)
    · rw [if_pos c24] at h
      refine lv_aload_n hx hb dX10_whyClose_31 rfl (lv_at hl 1 rfl) ?_
      refine lv_aload_n hx hb dX10_whyClose_32 rfl (lv_at hl 0 rfl) ?_
      obtain ⟨u33, i33, h⟩ := Option.bind_eq_some_iff.mp h
      obtain ⟨v33, e33, h⟩ := Option.bind_eq_some_iff.mp h
      refine g_cVi (As := []) (rest := [.ref a0]) (n := 0) hx hb hml hown hts hK hlo hG (m_X12_size l dd cT lo G r1 e33) qM_X10_100 qI_yX12_size qS_X12_yX12_size qN_X12 qC_yX12_size (by decide +kernel) ⟨Nat.le_of_ble_eq_true rfl, Nat.le_of_ble_eq_true rfl⟩ (by rfl) i33 rfl hl.1 rfl (Nat.le_of_ble_eq_true rfl) dX10_whyClose_33 ⟨Nat.le_of_ble_eq_true rfl, Nat.le_of_ble_eq_true rfl⟩ (fun H locs hG => ?_)
      obtain ⟨u36, i36, h⟩ := Option.bind_eq_some_iff.mp h
      obtain ⟨v36, e36, h⟩ := Option.bind_eq_some_iff.mp h
      refine g_cVi (As := [.int v33]) (rest := []) (n := 1) hx hb hml hown hts hK hlo hG (m_X10_spares l dd cT lo G a0 v33 e36) qM_X10_71 qI_yX10_spares qS_X10_yX10_spares qN_X10 qC_yX10_spares (by decide +kernel) ⟨Nat.le_of_ble_eq_true rfl, Nat.le_of_ble_eq_true rfl⟩ (by rfl) i36 rfl hl.1 rfl (Nat.le_of_ble_eq_true rfl) dX10_whyClose_36 ⟨Nat.le_of_ble_eq_true rfl, Nat.le_of_ble_eq_true rfl⟩ (fun H locs hG => ?_)
      refine lv_if_eq (tgt := 46) hx hb dX10_whyClose_39 (by decide) (fun c39 => ?_) (fun c39 => ?_)
      · rw [if_pos c39] at h
        refine lv_iconst (v := (5 : Int32)) hx hb dX10_whyClose_46 (by decide) ?_
        obtain rfl := Option.some.inj h
        exact g_iret hx hb hr hlocks hK hlo hG ⟨rfl, rfl⟩ dX10_whyClose_47
      · rw [if_neg c39] at h
        refine lv_iconst (v := (0 : Int32)) hx hb dX10_whyClose_42 (by decide) ?_
        refine lv_goto (tgt := 47) hx hb dX10_whyClose_43 (by decide) ?_
        obtain rfl := Option.some.inj h
        exact g_iret hx hb hr hlocks hK hlo hG ⟨rfl, rfl⟩ dX10_whyClose_47
    · rw [if_neg c24] at h
      refine lv_iconst (v := (4 : Int32)) hx hb dX10_whyClose_27 (by decide) ?_
      refine lv_goto (tgt := 47) hx hb dX10_whyClose_28 (by decide) ?_
      obtain rfl := Option.some.inj h
      exact g_iret hx hb hr hlocks hK hlo hG ⟨rfl, rfl⟩ dX10_whyClose_47
set_option maxRecDepth 20000 in
set_option maxHeartbeats 4000000 in
theorem m_X10_reads (l : Launch) (dd : va_G) (cT : Nat → ClassId) (lo : Nat → Prop) (G : gH) (a0 : Nat) (a1 : Nat) {rz : Int32} (h : f_X10_reads G a0 a1 = some rz) : Met l yX10_reads (Cond.code yX10_reads cX10_reads 4 (some .boolean) :: wsL_law) (g_rm 0 0 0 0) (va_Pc [.ref a0, .ref a1] (g_Pre lo dd cT G)) (va_Qi (g_is rz G) (g_Pre lo dd cT) (g_A lo)) 0 0 (g_A lo) := by
  refine g_start RX10 rfl (by decide) (Nat.le_of_ble_eq_true rfl) ?_
  intro p e s m below meth c hx hb hr hlocks hml hown hnm hts hK hG hlo ls hl
  have hl : lv_has ls 4 [(0, .ref a0), (1, .ref a1)] := hl
  have hG : g_S lo dd cT s s.heap [] G := hG
  have h15 : ∀ n15 : Nat, ∀ (ba0 : Nat) (ba1 : Nat) (bx2 : Int32) (bx3 : Int32), ∀ (H : Heap) (locs : List Loc), g_S lo dd cT s H locs G → ∀ ls : Array Slot, lv_has ls 4 [(0, .ref ba0), (1, .ref ba1), (2, .int bx2), (3, .int bx3)] → f_X10_reads_L15 G n15 ba0 ba1 bx2 bx3 = some rz → W p l e (g_rm 0 0 0 0) s m ([.ref a0, .ref a1] : List Value).toArray below meth c H locs 0 0 (MQ below (va_Qi (g_is rz G) (g_Pre lo dd cT) (g_A lo)) ([.ref a0, .ref a1] : List Value).toArray s 0 0 (g_A lo)) (F0 m 15 ls []) := by
    intro n15
    induction n15 with
    | zero =>
      intro ba0 ba1 bx2 bx3 H locs hG ls hl h
      cases (show (none : Option Int32) = some rz from h)
    | succ n15 ih15 =>
      intro ba0 ba1 bx2 bx3 H locs hG ls hl h
      rw [f_X10_reads_L15] at h
      refine lv_iload_n hx hb dX10_reads_15 rfl (lv_at hl 3 rfl) ?_
      refine lv_aload_n hx hb dX10_reads_16 rfl (lv_at hl 1 rfl) ?_
      obtain ⟨v17, e17, h⟩ := Option.bind_eq_some_iff.mp h
      refine g_getiN hx hb hts inlX12 hown hK hG (by rfl) 5 (by decide) (List.mem_of_getElem? (i := 42) rfl) e17 dX10_reads_17 ?_
      refine lv_icmp_ge (tgt := 53) hx hb dX10_reads_20 (by decide) (fun c20 => ?_) (fun c20 => ?_)
      · rw [if_pos c20] at h
        refine lv_iload_n hx hb dX10_reads_53 rfl (lv_at hl 2 rfl) ?_
        obtain ⟨n54, rfl⟩ := g_z_nar h
        exact g_zret hx hb hr hlocks hK hlo hG n54 ⟨rfl, rfl⟩ dX10_reads_54
      · rw [if_neg c20] at h
        refine lv_iload_n hx hb dX10_reads_23 rfl (lv_at hl 2 rfl) ?_
        refine lv_if_eq (tgt := 45) hx hb dX10_reads_24 (by decide) (fun c24 => ?_) (fun c24 => ?_)
        · rw [if_pos c24] at h
          refine lv_iconst (v := (0 : Int32)) hx hb dX10_reads_45 (by decide) ?_
          refine lv_istore_n (lv' := [(2, .int (0 : Int32)), (0, .ref ba0), (1, .ref ba1), (3, .int bx3)]) hx hb dX10_reads_46 rfl hl (by decide) rfl (fun ls hl => ?_)
          refine lv_iinc (v := (bx3 + (1 : Int32))) (lv' := [(3, .int (bx3 + (1 : Int32))), (2, .int (0 : Int32)), (0, .ref ba0), (1, .ref ba1)]) hx hb dX10_reads_47 hl (k := 3) rfl rfl (by decide) rfl (fun ls hl => ?_)
          refine lv_goto (tgt := 15) hx hb dX10_reads_50 (by decide) ?_
          exact ih15 ba0 ba1 (0 : Int32) (bx3 + (1 : Int32)) _ _ hG _ (lv_sub hl [2, 3, 1, 0] rfl) h
        · rw [if_neg c24] at h
          refine lv_aload_n hx hb dX10_reads_27 rfl (lv_at hl 0 rfl) ?_
          obtain ⟨v28, e28, h⟩ := Option.bind_eq_some_iff.mp h
          refine g_getr hx hb hts inlX10 hown hK hG (by rfl) 13 (by decide) qF_X10_29 e28 dX10_reads_28 ?_
          refine lv_aload_n hx hb dX10_reads_31 rfl (lv_at hl 1 rfl) ?_
          obtain ⟨v32, e32, h⟩ := Option.bind_eq_some_iff.mp h
          refine g_getrN hx hb hts inlX12 hown hK hG (by rfl) 7 (by decide) (List.mem_of_getElem? (i := 44) rfl) e32 dX10_reads_32 ?_
          refine lv_iload_n hx hb dX10_reads_35 rfl (lv_at hl 3 rfl) ?_
          obtain ⟨v36, e36, h⟩ := Option.bind_eq_some_iff.mp h
          refine g_iald hx hb hK hG e36 dX10_reads_36 ?_
          obtain ⟨v37, e37, h⟩ := Option.bind_eq_some_iff.mp h
          refine g_zald hx hb hK hG e37 dX10_reads_37 ?_
          refine lv_if_ne (tgt := 45) hx hb dX10_reads_38 (by decide) (fun c38 => ?_) (fun c38 => ?_)
          · rw [if_neg c38] at h
            refine lv_iconst (v := (0 : Int32)) hx hb dX10_reads_45 (by decide) ?_
            refine lv_istore_n (lv' := [(2, .int (0 : Int32)), (0, .ref ba0), (1, .ref ba1), (3, .int bx3)]) hx hb dX10_reads_46 rfl hl (by decide) rfl (fun ls hl => ?_)
            refine lv_iinc (v := (bx3 + (1 : Int32))) (lv' := [(3, .int (bx3 + (1 : Int32))), (2, .int (0 : Int32)), (0, .ref ba0), (1, .ref ba1)]) hx hb dX10_reads_47 hl (k := 3) rfl rfl (by decide) rfl (fun ls hl => ?_)
            refine lv_goto (tgt := 15) hx hb dX10_reads_50 (by decide) ?_
            exact ih15 ba0 ba1 (0 : Int32) (bx3 + (1 : Int32)) _ _ hG _ (lv_sub hl [2, 3, 1, 0] rfl) h
          · rw [if_pos c38] at h
            refine lv_iconst (v := (1 : Int32)) hx hb dX10_reads_41 (by decide) ?_
            refine lv_goto (tgt := 46) hx hb dX10_reads_42 (by decide) ?_
            refine lv_istore_n (lv' := [(2, .int (1 : Int32)), (0, .ref ba0), (1, .ref ba1), (3, .int bx3)]) hx hb dX10_reads_46 rfl hl (by decide) rfl (fun ls hl => ?_)
            refine lv_iinc (v := (bx3 + (1 : Int32))) (lv' := [(3, .int (bx3 + (1 : Int32))), (2, .int (1 : Int32)), (0, .ref ba0), (1, .ref ba1)]) hx hb dX10_reads_47 hl (k := 3) rfl rfl (by decide) rfl (fun ls hl => ?_)
            refine lv_goto (tgt := 15) hx hb dX10_reads_50 (by decide) ?_
            exact ih15 ba0 ba1 (1 : Int32) (bx3 + (1 : Int32)) _ _ hG _ (lv_sub hl [2, 3, 1, 0] rfl) h
  unfold f_X10_reads at h
  refine lv_aload_n hx hb dX10_reads_0 rfl (lv_at hl 1 rfl) ?_
  obtain ⟨v1, e1, h⟩ := Option.bind_eq_some_iff.mp h
  refine g_getiN hx hb hts inlX12 hown hK hG (by rfl) 3 (by decide) (List.mem_of_getElem? (i := 41) rfl) e1 dX10_reads_1 ?_
  refine lv_if_lt (tgt := 11) hx hb dX10_reads_4 (by decide) (fun c4 => ?_) (fun c4 => ?_)
  · rw [if_pos c4] at h
    refine lv_iconst (v := (0 : Int32)) hx hb dX10_reads_11 (by decide) ?_
    refine lv_istore_n (lv' := [(2, .int (0 : Int32)), (0, .ref a0), (1, .ref a1)]) hx hb dX10_reads_12 rfl hl (by decide) rfl (fun ls hl => ?_)
    refine lv_iconst (v := (0 : Int32)) hx hb dX10_reads_13 (by decide) ?_
    refine lv_istore_n (lv' := [(3, .int (0 : Int32)), (2, .int (0 : Int32)), (0, .ref a0), (1, .ref a1)]) hx hb dX10_reads_14 rfl hl (by decide) rfl (fun ls hl => ?_)
    exact h15 g_N a0 a1 (0 : Int32) (0 : Int32) _ _ hG _ (lv_sub hl [2, 3, 1, 0] rfl) h
  · rw [if_neg c4] at h
    refine lv_iconst (v := (1 : Int32)) hx hb dX10_reads_7 (by decide) ?_
    refine lv_goto (tgt := 12) hx hb dX10_reads_8 (by decide) ?_
    refine lv_istore_n (lv' := [(2, .int (1 : Int32)), (0, .ref a0), (1, .ref a1)]) hx hb dX10_reads_12 rfl hl (by decide) rfl (fun ls hl => ?_)
    refine lv_iconst (v := (0 : Int32)) hx hb dX10_reads_13 (by decide) ?_
    refine lv_istore_n (lv' := [(3, .int (0 : Int32)), (2, .int (1 : Int32)), (0, .ref a0), (1, .ref a1)]) hx hb dX10_reads_14 rfl hl (by decide) rfl (fun ls hl => ?_)
    exact h15 g_N a0 a1 (1 : Int32) (0 : Int32) _ _ hG _ (lv_sub hl [2, 3, 1, 0] rfl) h
set_option maxRecDepth 20000 in
set_option maxHeartbeats 4000000 in
theorem m_X10_reads_ (l : Launch) (dd : va_G) (cT : Nat → ClassId) (lo : Nat → Prop) (G : gH) (a0 : Nat) (a1 : Nat) {rz : Int32} (h : f_X10_reads_ G a0 a1 = some rz) : Met l yX10_reads_ (Cond.code yX10_reads_ cX10_reads_ 4 (some .boolean) :: wsL_law) (g_rm 0 0 0 0) (va_Pc [.ref a0, .ref a1] (g_Pre lo dd cT G)) (va_Qi (g_is rz G) (g_Pre lo dd cT) (g_A lo)) 0 0 (g_A lo) := by
  refine g_start RX10 rfl (by decide) (Nat.le_of_ble_eq_true rfl) ?_
  intro p e s m below meth c hx hb hr hlocks hml hown hnm hts hK hG hlo ls hl
  have hl : lv_has ls 4 [(0, .ref a0), (1, .ref a1)] := hl
  have hG : g_S lo dd cT s s.heap [] G := hG
  have h4 : ∀ n4 : Nat, ∀ (ba0 : Nat) (ba1 : Nat) (bx2 : Int32) (bx3 : Int32), ∀ (H : Heap) (locs : List Loc), g_S lo dd cT s H locs G → ∀ ls : Array Slot, lv_has ls 4 [(0, .ref ba0), (1, .ref ba1), (2, .int bx2), (3, .int bx3)] → f_X10_reads__L4 G n4 ba0 ba1 bx2 bx3 = some rz → W p l e (g_rm 0 0 0 0) s m ([.ref a0, .ref a1] : List Value).toArray below meth c H locs 0 0 (MQ below (va_Qi (g_is rz G) (g_Pre lo dd cT) (g_A lo)) ([.ref a0, .ref a1] : List Value).toArray s 0 0 (g_A lo)) (F0 m 4 ls []) := by
    intro n4
    induction n4 with
    | zero =>
      intro ba0 ba1 bx2 bx3 H locs hG ls hl h
      cases (show (none : Option Int32) = some rz from h)
    | succ n4 ih4 =>
      intro ba0 ba1 bx2 bx3 H locs hG ls hl h
      rw [f_X10_reads__L4] at h
      refine lv_iload_n hx hb dX10_reads__4 rfl (lv_at hl 3 rfl) ?_
      refine lv_aload_n hx hb dX10_reads__5 rfl (lv_at hl 1 rfl) ?_
      obtain ⟨v6, e6, h⟩ := Option.bind_eq_some_iff.mp h
      refine g_getiN hx hb hts inlX13 hown hK hG (by rfl) 3 (by decide) (List.mem_of_getElem? (i := 37) rfl) e6 dX10_reads__6 ?_
      refine lv_icmp_ge (tgt := 42) hx hb dX10_reads__9 (by decide) (fun c9 => ?_) (fun c9 => ?_)
      · rw [if_pos c9] at h
        refine lv_iload_n hx hb dX10_reads__42 rfl (lv_at hl 2 rfl) ?_
        obtain ⟨n43, rfl⟩ := g_z_nar h
        exact g_zret hx hb hr hlocks hK hlo hG n43 ⟨rfl, rfl⟩ dX10_reads__43
      · rw [if_neg c9] at h
        refine lv_iload_n hx hb dX10_reads__12 rfl (lv_at hl 2 rfl) ?_
        refine lv_if_eq (tgt := 34) hx hb dX10_reads__13 (by decide) (fun c13 => ?_) (fun c13 => ?_)
        · rw [if_pos c13] at h
          refine lv_iconst (v := (0 : Int32)) hx hb dX10_reads__34 (by decide) ?_
          refine lv_istore_n (lv' := [(2, .int (0 : Int32)), (0, .ref ba0), (1, .ref ba1), (3, .int bx3)]) hx hb dX10_reads__35 rfl hl (by decide) rfl (fun ls hl => ?_)
          refine lv_iinc (v := (bx3 + (1 : Int32))) (lv' := [(3, .int (bx3 + (1 : Int32))), (2, .int (0 : Int32)), (0, .ref ba0), (1, .ref ba1)]) hx hb dX10_reads__36 hl (k := 3) rfl rfl (by decide) rfl (fun ls hl => ?_)
          refine lv_goto (tgt := 4) hx hb dX10_reads__39 (by decide) ?_
          exact ih4 ba0 ba1 (0 : Int32) (bx3 + (1 : Int32)) _ _ hG _ (lv_sub hl [2, 3, 1, 0] rfl) h
        · rw [if_neg c13] at h
          refine lv_aload_n hx hb dX10_reads__16 rfl (lv_at hl 0 rfl) ?_
          obtain ⟨v17, e17, h⟩ := Option.bind_eq_some_iff.mp h
          refine g_getr hx hb hts inlX10 hown hK hG (by rfl) 13 (by decide) qF_X10_29 e17 dX10_reads__17 ?_
          refine lv_aload_n hx hb dX10_reads__20 rfl (lv_at hl 1 rfl) ?_
          obtain ⟨v21, e21, h⟩ := Option.bind_eq_some_iff.mp h
          refine g_getrN hx hb hts inlX13 hown hK hG (by rfl) 6 (by decide) (List.mem_of_getElem? (i := 40) rfl) e21 dX10_reads__21 ?_
          refine lv_iload_n hx hb dX10_reads__24 rfl (lv_at hl 3 rfl) ?_
          obtain ⟨v25, e25, h⟩ := Option.bind_eq_some_iff.mp h
          refine g_iald hx hb hK hG e25 dX10_reads__25 ?_
          obtain ⟨v26, e26, h⟩ := Option.bind_eq_some_iff.mp h
          refine g_zald hx hb hK hG e26 dX10_reads__26 ?_
          refine lv_if_ne (tgt := 34) hx hb dX10_reads__27 (by decide) (fun c27 => ?_) (fun c27 => ?_)
          · rw [if_neg c27] at h
            refine lv_iconst (v := (0 : Int32)) hx hb dX10_reads__34 (by decide) ?_
            refine lv_istore_n (lv' := [(2, .int (0 : Int32)), (0, .ref ba0), (1, .ref ba1), (3, .int bx3)]) hx hb dX10_reads__35 rfl hl (by decide) rfl (fun ls hl => ?_)
            refine lv_iinc (v := (bx3 + (1 : Int32))) (lv' := [(3, .int (bx3 + (1 : Int32))), (2, .int (0 : Int32)), (0, .ref ba0), (1, .ref ba1)]) hx hb dX10_reads__36 hl (k := 3) rfl rfl (by decide) rfl (fun ls hl => ?_)
            refine lv_goto (tgt := 4) hx hb dX10_reads__39 (by decide) ?_
            exact ih4 ba0 ba1 (0 : Int32) (bx3 + (1 : Int32)) _ _ hG _ (lv_sub hl [2, 3, 1, 0] rfl) h
          · rw [if_pos c27] at h
            refine lv_iconst (v := (1 : Int32)) hx hb dX10_reads__30 (by decide) ?_
            refine lv_goto (tgt := 35) hx hb dX10_reads__31 (by decide) ?_
            refine lv_istore_n (lv' := [(2, .int (1 : Int32)), (0, .ref ba0), (1, .ref ba1), (3, .int bx3)]) hx hb dX10_reads__35 rfl hl (by decide) rfl (fun ls hl => ?_)
            refine lv_iinc (v := (bx3 + (1 : Int32))) (lv' := [(3, .int (bx3 + (1 : Int32))), (2, .int (1 : Int32)), (0, .ref ba0), (1, .ref ba1)]) hx hb dX10_reads__36 hl (k := 3) rfl rfl (by decide) rfl (fun ls hl => ?_)
            refine lv_goto (tgt := 4) hx hb dX10_reads__39 (by decide) ?_
            exact ih4 ba0 ba1 (1 : Int32) (bx3 + (1 : Int32)) _ _ hG _ (lv_sub hl [2, 3, 1, 0] rfl) h
  unfold f_X10_reads_ at h
  refine lv_iconst (v := (1 : Int32)) hx hb dX10_reads__0 (by decide) ?_
  refine lv_istore_n (lv' := [(2, .int (1 : Int32)), (0, .ref a0), (1, .ref a1)]) hx hb dX10_reads__1 rfl hl (by decide) rfl (fun ls hl => ?_)
  refine lv_iconst (v := (0 : Int32)) hx hb dX10_reads__2 (by decide) ?_
  refine lv_istore_n (lv' := [(3, .int (0 : Int32)), (2, .int (1 : Int32)), (0, .ref a0), (1, .ref a1)]) hx hb dX10_reads__3 rfl hl (by decide) rfl (fun ls hl => ?_)
  exact h4 g_N a0 a1 (1 : Int32) (0 : Int32) _ _ hG _ (lv_sub hl [2, 3, 1, 0] rfl) h
set_option maxRecDepth 20000 in
set_option maxHeartbeats 4000000 in
theorem m_X10_reaches (l : Launch) (dd : va_G) (cT : Nat → ClassId) (lo : Nat → Prop) (G : gH) (a0 : Nat) (x1 : Int32) {rz : Int32} (h : f_X10_reaches G a0 x1 = some rz) : Met l yX10_reaches (Cond.code yX10_reaches cX10_reaches 3 (some .boolean) :: wsL_law) (g_rm 1 23 0 0) (va_Pc [.ref a0, .int x1] (g_Pre lo dd cT G)) (va_Qi (g_is rz G) (g_Pre lo dd cT) (g_A lo)) 0 0 (g_A lo) := by
  refine g_start RX10 rfl (by decide) (Nat.le_of_ble_eq_true rfl) ?_
  intro p e s m below meth c hx hb hr hlocks hml hown hnm hts hK hG hlo ls hl
  have hl : lv_has ls 3 [(0, .ref a0), (1, .int x1)] := hl
  have hG : g_S lo dd cT s s.heap [] G := hG
  have h46 : ∀ n46 : Nat, ∀ (ba0 : Nat) (bx2 : Int32), ∀ (H : Heap) (locs : List Loc), g_S lo dd cT s H locs G → ∀ ls : Array Slot, lv_has ls 3 [(0, .ref ba0), (2, .int bx2)] → f_X10_reaches_L46 G n46 ba0 bx2 = some rz → W p l e (g_rm 1 23 0 0) s m ([.ref a0, .int x1] : List Value).toArray below meth c H locs 0 0 (MQ below (va_Qi (g_is rz G) (g_Pre lo dd cT) (g_A lo)) ([.ref a0, .int x1] : List Value).toArray s 0 0 (g_A lo)) (F0 m 46 ls []) := by
    intro n46
    induction n46 with
    | zero =>
      intro ba0 bx2 H locs hG ls hl h
      cases (show (none : Option Int32) = some rz from h)
    | succ n46 ih46 =>
      intro ba0 bx2 H locs hG ls hl h
      rw [f_X10_reaches_L46] at h
      refine lv_iload_n hx hb dX10_reaches_46 rfl (lv_at hl 1 rfl) ?_
      refine lv_aload_n hx hb dX10_reaches_47 rfl (lv_at hl 0 rfl) ?_
      obtain ⟨v48, e48, h⟩ := Option.bind_eq_some_iff.mp h
      refine g_geti hx hb hts inlX10 hown hK hG (by rfl) 4 (by decide) qF_X10_54 e48 dX10_reaches_48 ?_
      refine lv_icmp_ge (tgt := 95) hx hb dX10_reaches_51 (by decide) (fun c51 => ?_) (fun c51 => ?_)
      · rw [if_pos c51] at h
        refine lv_iconst (v := (1 : Int32)) hx hb dX10_reaches_95 (by decide) ?_
        obtain rfl := Option.some.inj h
        exact g_zret hx hb hr hlocks hK hlo hG rfl ⟨rfl, rfl⟩ dX10_reaches_96
      · rw [if_neg c51] at h
        refine lv_aload_n hx hb dX10_reaches_54 rfl (lv_at hl 0 rfl) ?_
        obtain ⟨v55, e55, h⟩ := Option.bind_eq_some_iff.mp h
        refine g_geti hx hb hts inlX10 hown hK hG (by rfl) 6 (by decide) qF_X10_153 e55 dX10_reaches_55 ?_
        refine lv_if_ne (tgt := 95) hx hb dX10_reaches_58 (by decide) (fun c58 => ?_) (fun c58 => ?_)
        · rw [if_neg c58] at h
          refine lv_iconst (v := (1 : Int32)) hx hb dX10_reaches_95 (by decide) ?_
          obtain rfl := Option.some.inj h
          exact g_zret hx hb hr hlocks hK hlo hG rfl ⟨rfl, rfl⟩ dX10_reaches_96
        · rw [if_pos c58] at h
          refine lv_aload_n hx hb dX10_reaches_61 rfl (lv_at hl 0 rfl) ?_
          obtain ⟨v62, e62, h⟩ := Option.bind_eq_some_iff.mp h
          refine g_getr hx hb hts inlX10 hown hK hG (by rfl) 16 (by decide) qF_X10_43 e62 dX10_reaches_62 ?_
          refine lv_iload_n hx hb dX10_reaches_65 rfl (lv_at hl 1 rfl) ?_
          obtain ⟨v66, e66, h⟩ := Option.bind_eq_some_iff.mp h
          refine g_rald_row hx hb hK hG (t := 5) rfl e66 dX10_reaches_66 ?_
          rcases v66 with _ | r66
          · rw [g_nul_none] at h
            cases h
          · rw [g_nul_some] at h
            obtain ⟨v67, e67, h⟩ := Option.bind_eq_some_iff.mp h
            refine g_getiN hx hb hts inlX12 hown hK hG (by rfl) 0 (by decide) (List.mem_of_getElem? (i := 30) rfl) e67 dX10_reaches_67 ?_
            refine lv_iconst (v := (1 : Int32)) hx hb dX10_reaches_70 (by decide) ?_
            refine lv_icmp_ne (tgt := 89) hx hb dX10_reaches_71 (by decide) (fun c71 => ?_) (fun c71 => ?_)
            · rw [if_neg c71] at h
              refine lv_iinc (v := (bx2 + (1 : Int32))) (lv' := [(2, .int (bx2 + (1 : Int32))), (0, .ref ba0)]) hx hb dX10_reaches_89 hl (k := 1) rfl rfl (by decide) rfl (fun ls hl => ?_)
              refine lv_goto (tgt := 46) hx hb dX10_reaches_92 (by decide) ?_
              exact ih46 ba0 (bx2 + (1 : Int32)) _ _ hG _ (lv_sub hl [1, 0] rfl) h
            · rw [if_pos c71] at h
              refine lv_aload_n hx hb dX10_reaches_74 rfl (lv_at hl 0 rfl) ?_
              refine lv_aload_n hx hb dX10_reaches_75 rfl (lv_at hl 0 rfl) ?_
              obtain ⟨v76, e76, h⟩ := Option.bind_eq_some_iff.mp h
              refine g_getr hx hb hts inlX10 hown hK hG (by rfl) 16 (by decide) qF_X10_43 e76 dX10_reaches_76 ?_
              refine lv_iload_n hx hb dX10_reaches_79 rfl (lv_at hl 1 rfl) ?_
              obtain ⟨v80, e80, h⟩ := Option.bind_eq_some_iff.mp h
              refine g_rald_row hx hb hK hG (t := 5) rfl e80 dX10_reaches_80 ?_
              rcases v80 with _ | r80
              · rw [g_nul_none] at h
                cases h
              · rw [g_nul_some] at h
                obtain ⟨u81, i81, h⟩ := Option.bind_eq_some_iff.mp h
                obtain ⟨v81, e81, h⟩ := Option.bind_eq_some_iff.mp h
                refine g_cVi (As := [.ref r80]) (rest := []) (n := 1) hx hb hml hown hts hK hlo hG (m_X10_reads l dd cT lo G ba0 r80 e81) qM_X10_149 qI_yX10_reads qS_X10_yX10_reads qN_X10 qC_yX10_reads (by decide +kernel) ⟨Nat.le_of_ble_eq_true rfl, Nat.le_of_ble_eq_true rfl⟩ (by rfl) i81 rfl hl.1 rfl (Nat.le_of_ble_eq_true rfl) dX10_reaches_81 ⟨Nat.le_of_ble_eq_true rfl, Nat.le_of_ble_eq_true rfl⟩ (fun H locs hG => ?_)
                refine lv_if_ne (tgt := 89) hx hb dX10_reaches_84 (by decide) (fun c84 => ?_) (fun c84 => ?_)
                · rw [if_neg c84] at h
                  refine lv_iinc (v := (bx2 + (1 : Int32))) (lv' := [(2, .int (bx2 + (1 : Int32))), (0, .ref ba0)]) hx hb dX10_reaches_89 hl (k := 1) rfl rfl (by decide) rfl (fun ls hl => ?_)
                  refine lv_goto (tgt := 46) hx hb dX10_reaches_92 (by decide) ?_
                  exact ih46 ba0 (bx2 + (1 : Int32)) _ _ hG _ (lv_sub hl [1, 0] rfl) h
                · rw [if_pos c84] at h
                  refine lv_iconst (v := (0 : Int32)) hx hb dX10_reaches_87 (by decide) ?_
                  obtain rfl := Option.some.inj h
                  exact g_zret hx hb hr hlocks hK hlo hG rfl ⟨rfl, rfl⟩ dX10_reaches_88
  unfold f_X10_reaches at h
  refine lv_aload_n hx hb dX10_reaches_0 rfl (lv_at hl 0 rfl) ?_
  obtain ⟨v1, e1, h⟩ := Option.bind_eq_some_iff.mp h
  refine g_getr hx hb hts inlX10 hown hK hG (by rfl) 16 (by decide) qF_X10_43 e1 dX10_reaches_1 ?_
  refine lv_iload_n hx hb dX10_reaches_4 rfl (lv_at hl 1 rfl) ?_
  obtain ⟨v5, e5, h⟩ := Option.bind_eq_some_iff.mp h
  refine g_rald_row hx hb hK hG (t := 5) rfl e5 dX10_reaches_5 ?_
  rcases v5 with _ | r5
  · rw [g_nul_none] at h
    cases h
  · rw [g_nul_some] at h
    obtain ⟨v6, e6, h⟩ := Option.bind_eq_some_iff.mp h
    refine g_getiN hx hb hts inlX12 hown hK hG (by rfl) 0 (by decide) (List.mem_of_getElem? (i := 30) rfl) e6 dX10_reaches_6 ?_
    refine lv_if_ne (tgt := 14) hx hb dX10_reaches_9 (by decide) (fun c9 => ?_) (fun c9 => ?_)
    · rw [if_neg c9] at h
      refine lv_aload_n hx hb dX10_reaches_14 rfl (lv_at hl 0 rfl) ?_
      obtain ⟨v15, e15, h⟩ := Option.bind_eq_some_iff.mp h
      refine g_getr hx hb hts inlX10 hown hK hG (by rfl) 16 (by decide) qF_X10_43 e15 dX10_reaches_15 ?_
      refine lv_iload_n hx hb dX10_reaches_18 rfl (lv_at hl 1 rfl) ?_
      obtain ⟨v19, e19, h⟩ := Option.bind_eq_some_iff.mp h
      refine g_rald_row hx hb hK hG (t := 5) rfl e19 dX10_reaches_19 ?_
      rcases v19 with _ | r19
      · rw [g_nul_none] at h
        cases h
      · rw [g_nul_some] at h
        obtain ⟨v20, e20, h⟩ := Option.bind_eq_some_iff.mp h
        refine g_getiN hx hb hts inlX12 hown hK hG (by rfl) 0 (by decide) (List.mem_of_getElem? (i := 30) rfl) e20 dX10_reaches_20 ?_
        refine lv_iconst (v := (1 : Int32)) hx hb dX10_reaches_23 (by decide) ?_
        refine lv_icmp_ne (tgt := 40) hx hb dX10_reaches_24 (by decide) (fun c24 => ?_) (fun c24 => ?_)
        · rw [if_neg c24] at h
          refine lv_iconst (v := (0 : Int32)) hx hb dX10_reaches_40 (by decide) ?_
          obtain rfl := Option.some.inj h
          exact g_zret hx hb hr hlocks hK hlo hG rfl ⟨rfl, rfl⟩ dX10_reaches_41
        · rw [if_pos c24] at h
          refine lv_aload_n hx hb dX10_reaches_27 rfl (lv_at hl 0 rfl) ?_
          refine lv_aload_n hx hb dX10_reaches_28 rfl (lv_at hl 0 rfl) ?_
          obtain ⟨v29, e29, h⟩ := Option.bind_eq_some_iff.mp h
          refine g_getr hx hb hts inlX10 hown hK hG (by rfl) 16 (by decide) qF_X10_43 e29 dX10_reaches_29 ?_
          refine lv_iload_n hx hb dX10_reaches_32 rfl (lv_at hl 1 rfl) ?_
          obtain ⟨v33, e33, h⟩ := Option.bind_eq_some_iff.mp h
          refine g_rald_row hx hb hK hG (t := 5) rfl e33 dX10_reaches_33 ?_
          rcases v33 with _ | r33
          · rw [g_nul_none] at h
            cases h
          · rw [g_nul_some] at h
            obtain ⟨u34, i34, h⟩ := Option.bind_eq_some_iff.mp h
            obtain ⟨v34, e34, h⟩ := Option.bind_eq_some_iff.mp h
            refine g_cVi (As := [.ref r33]) (rest := []) (n := 1) hx hb hml hown hts hK hlo hG (m_X10_reads l dd cT lo G a0 r33 e34) qM_X10_149 qI_yX10_reads qS_X10_yX10_reads qN_X10 qC_yX10_reads (by decide +kernel) ⟨Nat.le_of_ble_eq_true rfl, Nat.le_of_ble_eq_true rfl⟩ (by rfl) i34 rfl hl.1 rfl (Nat.le_of_ble_eq_true rfl) dX10_reaches_34 ⟨Nat.le_of_ble_eq_true rfl, Nat.le_of_ble_eq_true rfl⟩ (fun H locs hG => ?_)
            refine lv_if_ne (tgt := 42) hx hb dX10_reaches_37 (by decide) (fun c37 => ?_) (fun c37 => ?_)
            · rw [if_neg c37] at h
              refine lv_iload_n hx hb dX10_reaches_42 rfl (lv_at hl 1 rfl) ?_
              refine lv_iconst (v := (1 : Int32)) hx hb dX10_reaches_43 (by decide) ?_
              refine lv_iadd hx hb dX10_reaches_44 ?_
              refine lv_istore_n (lv' := [(2, .int (x1 + (1 : Int32))), (0, .ref a0), (1, .int x1)]) hx hb dX10_reaches_45 rfl hl (by decide) rfl (fun ls hl => ?_)
              exact h46 g_N a0 (x1 + (1 : Int32)) _ _ hG _ (lv_sub hl [1, 0] rfl) h
            · rw [if_pos c37] at h
              refine lv_iconst (v := (0 : Int32)) hx hb dX10_reaches_40 (by decide) ?_
              obtain rfl := Option.some.inj h
              exact g_zret hx hb hr hlocks hK hlo hG rfl ⟨rfl, rfl⟩ dX10_reaches_41
    · rw [if_pos c9] at h
      refine lv_iconst (v := (1 : Int32)) hx hb dX10_reaches_12 (by decide) ?_
      obtain rfl := Option.some.inj h
      exact g_zret hx hb hr hlocks hK hlo hG rfl ⟨rfl, rfl⟩ dX10_reaches_13
set_option maxRecDepth 20000 in
set_option maxHeartbeats 4000000 in
theorem m_X10_counting (l : Launch) (dd : va_G) (cT : Nat → ClassId) (lo : Nat → Prop) (G : gH) (a0 : Nat) (x1 : Int32) (x2 : Int32) {rz : Option Nat} (h : f_X10_counting G a0 x1 x2 = some rz) : Met l yX10_counting (Cond.code yX10_counting cX10_counting 4 (some (.object "OnceDiscLaw$Session")) :: wsL_law) (g_rm 2 45 0 0) (va_Pc [.ref a0, .int x1, .int x2] (g_Pre lo dd cT G)) (va_Qq (g_is rz G) (g_Pre lo dd cT) (g_A lo)) 0 0 (g_A lo) := by
  refine g_start RX10 rfl (by decide) (Nat.le_of_ble_eq_true rfl) ?_
  intro p e s m below meth c hx hb hr hlocks hml hown hnm hts hK hG hlo ls hl
  have hl : lv_has ls 4 [(0, .ref a0), (1, .int x1), (2, .int x2)] := hl
  have hG : g_S lo dd cT s s.heap [] G := hG
  have h7 : ∀ n7 : Nat, ∀ (ba0 : Nat) (bx1 : Int32) (bx2 : Int32) (bx3 : Int32), ∀ (H : Heap) (locs : List Loc), g_S lo dd cT s H locs G → ∀ ls : Array Slot, lv_has ls 4 [(0, .ref ba0), (1, .int bx1), (2, .int bx2), (3, .int bx3)] → f_X10_counting_L7 G n7 ba0 bx1 bx2 bx3 = some rz → W p l e (g_rm 2 45 0 0) s m ([.ref a0, .int x1, .int x2] : List Value).toArray below meth c H locs 0 0 (MQ below (va_Qq (g_is rz G) (g_Pre lo dd cT) (g_A lo)) ([.ref a0, .int x1, .int x2] : List Value).toArray s 0 0 (g_A lo)) (F0 m 7 ls []) := by
    intro n7
    induction n7 with
    | zero =>
      intro ba0 bx1 bx2 bx3 H locs hG ls hl h
      cases (show (none : Option (Option Nat)) = some rz from h)
    | succ n7 ih7 =>
      intro ba0 bx1 bx2 bx3 H locs hG ls hl h
      rw [f_X10_counting_L7] at h
      refine lv_iload_n hx hb dX10_counting_7 rfl (lv_at hl 3 rfl) ?_
      refine lv_if_lt (tgt := 50) hx hb dX10_counting_8 (by decide) (fun c8 => ?_) (fun c8 => ?_)
      · rw [if_pos c8] at h
        refine lv_null hx hb dX10_counting_50 ?_
        obtain rfl := Option.some.inj h
        exact g_qret (r := none) hx hb hr (Or.inl ⟨_, rfl⟩) hlocks hK hlo hG ⟨rfl, rfl⟩ dX10_counting_51
      · rw [if_neg c8] at h
        refine lv_iload_n hx hb dX10_counting_11 rfl (lv_at hl 3 rfl) ?_
        refine lv_iload_n hx hb dX10_counting_12 rfl (lv_at hl 2 rfl) ?_
        refine lv_icmp_ge (tgt := 44) hx hb dX10_counting_13 (by decide) (fun c13 => ?_) (fun c13 => ?_)
        · rw [if_pos c13] at h
          refine lv_iinc (v := (bx3 + (-1 : Int32))) (lv' := [(3, .int (bx3 + (-1 : Int32))), (0, .ref ba0), (1, .int bx1), (2, .int bx2)]) hx hb dX10_counting_44 hl (k := 3) rfl rfl (by decide) rfl (fun ls hl => ?_)
          refine lv_goto (tgt := 7) hx hb dX10_counting_47 (by decide) ?_
          exact ih7 ba0 bx1 bx2 (bx3 + (-1 : Int32)) _ _ hG _ (lv_sub hl [1, 2, 3, 0] rfl) h
        · rw [if_neg c13] at h
          refine lv_aload_n hx hb dX10_counting_16 rfl (lv_at hl 0 rfl) ?_
          refine lv_iload_n hx hb dX10_counting_17 rfl (lv_at hl 3 rfl) ?_
          obtain ⟨u18, i18, h⟩ := Option.bind_eq_some_iff.mp h
          obtain ⟨v18, e18, h⟩ := Option.bind_eq_some_iff.mp h
          refine g_cVi (As := [.int bx3]) (rest := []) (n := 1) hx hb hml hown hts hK hlo hG (m_X10_reaches l dd cT lo G ba0 bx3 e18) qM_X10_157 qI_yX10_reaches qS_X10_yX10_reaches qN_X10 qC_yX10_reaches (by decide +kernel) ⟨Nat.le_of_ble_eq_true rfl, Nat.le_of_ble_eq_true rfl⟩ (by rfl) i18 rfl hl.1 rfl (Nat.le_of_ble_eq_true rfl) dX10_counting_18 ⟨Nat.le_of_ble_eq_true rfl, Nat.le_of_ble_eq_true rfl⟩ (fun H locs hG => ?_)
          refine lv_if_eq (tgt := 44) hx hb dX10_counting_21 (by decide) (fun c21 => ?_) (fun c21 => ?_)
          · rw [if_pos c21] at h
            refine lv_iinc (v := (bx3 + (-1 : Int32))) (lv' := [(3, .int (bx3 + (-1 : Int32))), (0, .ref ba0), (1, .int bx1), (2, .int bx2)]) hx hb dX10_counting_44 hl (k := 3) rfl rfl (by decide) rfl (fun ls hl => ?_)
            refine lv_goto (tgt := 7) hx hb dX10_counting_47 (by decide) ?_
            exact ih7 ba0 bx1 bx2 (bx3 + (-1 : Int32)) _ _ hG _ (lv_sub hl [1, 2, 3, 0] rfl) h
          · rw [if_neg c21] at h
            refine lv_aload_n hx hb dX10_counting_24 rfl (lv_at hl 0 rfl) ?_
            obtain ⟨v25, e25, h⟩ := Option.bind_eq_some_iff.mp h
            refine g_getr hx hb hts inlX10 hown hK hG (by rfl) 16 (by decide) qF_X10_43 e25 dX10_counting_25 ?_
            refine lv_iload_n hx hb dX10_counting_28 rfl (lv_at hl 3 rfl) ?_
            obtain ⟨v29, e29, h⟩ := Option.bind_eq_some_iff.mp h
            refine g_rald_row hx hb hK hG (t := 5) rfl e29 dX10_counting_29 ?_
            rcases v29 with _ | r29
            · rw [g_nul_none] at h
              refine lv_iload_n hx hb dX10_counting_30 rfl (lv_at hl 1 rfl) ?_
              cases h
            · rw [g_nul_some] at h
              refine lv_iload_n hx hb dX10_counting_30 rfl (lv_at hl 1 rfl) ?_
              obtain ⟨u31, i31, h⟩ := Option.bind_eq_some_iff.mp h
              obtain ⟨v31, e31, h⟩ := Option.bind_eq_some_iff.mp h
              refine g_cVi (As := [.int bx1]) (rest := []) (n := 1) hx hb hml hown hts hK hlo hG (m_X12_find l dd cT lo G r29 bx1 e31) qM_X10_82 qI_yX12_find qS_X12_yX12_find qN_X12 qC_yX12_find (by decide +kernel) ⟨Nat.le_of_ble_eq_true rfl, Nat.le_of_ble_eq_true rfl⟩ (by rfl) i31 rfl hl.1 rfl (Nat.le_of_ble_eq_true rfl) dX10_counting_31 ⟨Nat.le_of_ble_eq_true rfl, Nat.le_of_ble_eq_true rfl⟩ (fun H locs hG => ?_)
              refine lv_if_lt (tgt := 44) hx hb dX10_counting_34 (by decide) (fun c34 => ?_) (fun c34 => ?_)
              · rw [if_pos c34] at h
                refine lv_iinc (v := (bx3 + (-1 : Int32))) (lv' := [(3, .int (bx3 + (-1 : Int32))), (0, .ref ba0), (1, .int bx1), (2, .int bx2)]) hx hb dX10_counting_44 hl (k := 3) rfl rfl (by decide) rfl (fun ls hl => ?_)
                refine lv_goto (tgt := 7) hx hb dX10_counting_47 (by decide) ?_
                exact ih7 ba0 bx1 bx2 (bx3 + (-1 : Int32)) _ _ hG _ (lv_sub hl [1, 2, 3, 0] rfl) h
              · rw [if_neg c34] at h
                refine lv_aload_n hx hb dX10_counting_37 rfl (lv_at hl 0 rfl) ?_
                obtain ⟨v38, e38, h⟩ := Option.bind_eq_some_iff.mp h
                refine g_getr hx hb hts inlX10 hown hK hG (by rfl) 16 (by decide) qF_X10_43 e38 dX10_counting_38 ?_
                refine lv_iload_n hx hb dX10_counting_41 rfl (lv_at hl 3 rfl) ?_
                obtain ⟨v42, e42, h⟩ := Option.bind_eq_some_iff.mp h
                refine g_rald_row hx hb hK hG (t := 5) rfl e42 dX10_counting_42 ?_
                rcases v42 with _ | r42
                · rw [g_nul_none] at h
                  obtain rfl := Option.some.inj h
                  exact g_qret (r := none) hx hb hr (Or.inl ⟨_, rfl⟩) hlocks hK hlo hG ⟨rfl, rfl⟩ dX10_counting_43
                · rw [g_nul_some] at h
                  obtain rfl := Option.some.inj h
                  exact g_qret (r := some r42) hx hb hr (Or.inl ⟨_, rfl⟩) hlocks hK hlo hG ⟨rfl, rfl⟩ dX10_counting_43
  unfold f_X10_counting at h
  refine lv_aload_n hx hb dX10_counting_0 rfl (lv_at hl 0 rfl) ?_
  obtain ⟨v1, e1, h⟩ := Option.bind_eq_some_iff.mp h
  refine g_geti hx hb hts inlX10 hown hK hG (by rfl) 4 (by decide) qF_X10_54 e1 dX10_counting_1 ?_
  refine lv_iconst (v := (1 : Int32)) hx hb dX10_counting_4 (by decide) ?_
  refine lv_isub hx hb dX10_counting_5 ?_
  refine lv_istore_n (lv' := [(3, .int (v1 - (1 : Int32))), (0, .ref a0), (1, .int x1), (2, .int x2)]) hx hb dX10_counting_6 rfl hl (by decide) rfl (fun ls hl => ?_)
  exact h7 g_N a0 x1 x2 (v1 - (1 : Int32)) _ _ hG _ (lv_sub hl [1, 2, 3, 0] rfl) h
set_option maxRecDepth 20000 in
set_option maxHeartbeats 4000000 in
theorem m_X10_version (l : Launch) (dd : va_G) (cT : Nat → ClassId) (lo : Nat → Prop) (G : gH) (a0 : Nat) (x1 : Int32) (x2 : Int32) {rz : Option Nat} (h : f_X10_version G a0 x1 x2 = some rz) : Met l yX10_version (Cond.code yX10_version cX10_version 4 (some (.object "OnceDiscLaw$Version")) :: wsL_law) (g_rm 3 68 0 0) (va_Pc [.ref a0, .int x1, .int x2] (g_Pre lo dd cT G)) (va_Qq (g_is rz G) (g_Pre lo dd cT) (g_A lo)) 0 0 (g_A lo) := by
  refine g_start RX10 rfl (by decide) (Nat.le_of_ble_eq_true rfl) ?_
  intro p e s m below meth c hx hb hr hlocks hml hown hnm hts hK hG hlo ls hl
  have hl : lv_has ls 4 [(0, .ref a0), (1, .int x1), (2, .int x2)] := hl
  have hG : g_S lo dd cT s s.heap [] G := hG
  unfold f_X10_version at h
  refine lv_aload_n hx hb dX10_version_0 rfl (lv_at hl 0 rfl) ?_
  refine lv_iload_n hx hb dX10_version_1 rfl (lv_at hl 1 rfl) ?_
  refine lv_iload_n hx hb dX10_version_2 rfl (lv_at hl 2 rfl) ?_
  obtain ⟨u3, i3, h⟩ := Option.bind_eq_some_iff.mp h
  obtain ⟨v3, e3, h⟩ := Option.bind_eq_some_iff.mp h
  refine g_cVq (As := [.int x1, .int x2]) (rest := []) (n := 2) hx hb hml hown hts hK hlo hG (m_X10_counting l dd cT lo G a0 x1 x2 e3) qM_X10_93 qI_yX10_counting qS_X10_yX10_counting qN_X10 qC_yX10_counting (by decide +kernel) ⟨Nat.le_of_ble_eq_true rfl, Nat.le_of_ble_eq_true rfl⟩ (by rfl) i3 rfl hl.1 rfl (Nat.le_of_ble_eq_true rfl) dX10_version_3 ⟨Nat.le_of_ble_eq_true rfl, Nat.le_of_ble_eq_true rfl⟩ (fun H locs hG => ?_)
  rcases v3 with _ | r3
  · rw [g_nul_none] at h
    refine lv_astore_nN (lv' := [(3, .null), (0, .ref a0), (1, .int x1), (2, .int x2)]) hx hb dX10_version_6 rfl hl (by decide) rfl (fun ls hl => ?_)
    refine lv_aload_nN hx hb dX10_version_7 rfl (lv_at hl 0 rfl) ?_
    refine lv_ifnonnullN hx hb dX10_version_8 ?_
    refine lv_null hx hb dX10_version_11 ?_
    refine lv_goto (tgt := 25) hx hb dX10_version_12 (by decide) ?_
    obtain rfl := Option.some.inj h
    exact g_qret (r := none) hx hb hr (Or.inl ⟨_, rfl⟩) hlocks hK hlo hG ⟨rfl, rfl⟩ dX10_version_25
  · rw [g_nul_some] at h
    refine lv_astore_n (lv' := [(3, .ref r3), (0, .ref a0), (1, .int x1), (2, .int x2)]) hx hb dX10_version_6 rfl hl (by decide) rfl (fun ls hl => ?_)
    refine lv_aload_n hx hb dX10_version_7 rfl (lv_at hl 0 rfl) ?_
    refine lv_ifnonnull (tgt := 15) hx hb dX10_version_8 (by decide) ?_
    refine lv_aload_n hx hb dX10_version_15 rfl (lv_at hl 0 rfl) ?_
    obtain ⟨v16, e16, h⟩ := Option.bind_eq_some_iff.mp h
    refine g_getrN hx hb hts inlX12 hown hK hG (by rfl) 8 (by decide) (List.mem_of_getElem? (i := 32) rfl) e16 dX10_version_16 ?_
    refine lv_aload_n hx hb dX10_version_19 rfl (lv_at hl 0 rfl) ?_
    refine lv_iload_n hx hb dX10_version_20 rfl (lv_at hl 2 rfl) ?_
    obtain ⟨u21, i21, h⟩ := Option.bind_eq_some_iff.mp h
    obtain ⟨v21, e21, h⟩ := Option.bind_eq_some_iff.mp h
    refine g_cVi (As := [.int x1]) (rest := [.ref v16]) (n := 1) hx hb hml hown hts hK hlo hG (m_X12_find l dd cT lo G r3 x1 e21) qM_X10_82 qI_yX12_find qS_X12_yX12_find qN_X12 qC_yX12_find (by decide +kernel) ⟨Nat.le_of_ble_eq_true rfl, Nat.le_of_ble_eq_true rfl⟩ (by rfl) i21 rfl hl.1 rfl (Nat.le_of_ble_eq_true rfl) dX10_version_21 ⟨Nat.le_of_ble_eq_true rfl, Nat.le_of_ble_eq_true rfl⟩ (fun H locs hG => ?_)
    obtain ⟨v24, e24, h⟩ := Option.bind_eq_some_iff.mp h
    refine g_rald_row hx hb hK hG (t := 6) rfl e24 dX10_version_24 ?_
    rcases v24 with _ | r24
    · rw [g_nul_none] at h
      obtain rfl := Option.some.inj h
      exact g_qret (r := none) hx hb hr (Or.inl ⟨_, rfl⟩) hlocks hK hlo hG ⟨rfl, rfl⟩ dX10_version_25
    · rw [g_nul_some] at h
      obtain rfl := Option.some.inj h
      exact g_qret (r := some r24) hx hb hr (Or.inl ⟨_, rfl⟩) hlocks hK hlo hG ⟨rfl, rfl⟩ dX10_version_25
set_option maxRecDepth 20000 in
set_option maxHeartbeats 4000000 in
theorem m_X10_whyErase (l : Launch) (dd : va_G) (cT : Nat → ClassId) (lo : Nat → Prop) (G : gH) (a0 : Nat) (x1 : Int32) {rz : Int32} (h : f_X10_whyErase G a0 x1 = some rz) : Met l yX10_whyErase (Cond.code yX10_whyErase cX10_whyErase 3 (some .int) :: wsL_law) (g_rm 3 68 0 0) (va_Pc [.ref a0, .int x1] (g_Pre lo dd cT G)) (va_Qi (g_is rz G) (g_Pre lo dd cT) (g_A lo)) 0 0 (g_A lo) := by
  refine g_start RX10 rfl (by decide) (Nat.le_of_ble_eq_true rfl) ?_
  intro p e s m below meth c hx hb hr hlocks hml hown hnm hts hK hG hlo ls hl
  have hl : lv_has ls 3 [(0, .ref a0), (1, .int x1)] := hl
  have hG : g_S lo dd cT s s.heap [] G := hG
  unfold f_X10_whyErase at h
  refine lv_aload_n hx hb dX10_whyErase_0 rfl (lv_at hl 0 rfl) ?_
  refine lv_iload_n hx hb dX10_whyErase_1 rfl (lv_at hl 1 rfl) ?_
  refine lv_bipush (v := (12 : Int32)) hx hb dX10_whyErase_2 (by decide) ?_
  obtain ⟨u4, i4, h⟩ := Option.bind_eq_some_iff.mp h
  obtain ⟨v4, e4, h⟩ := Option.bind_eq_some_iff.mp h
  refine g_cVq (As := [.int x1, .int (12 : Int32)]) (rest := []) (n := 2) hx hb hml hown hts hK hlo hG (m_X10_counting l dd cT lo G a0 x1 (12 : Int32) e4) qM_X10_93 qI_yX10_counting qS_X10_yX10_counting qN_X10 qC_yX10_counting (by decide +kernel) ⟨Nat.le_of_ble_eq_true rfl, Nat.le_of_ble_eq_true rfl⟩ (by rfl) i4 rfl hl.1 rfl (Nat.le_of_ble_eq_true rfl) dX10_whyErase_4 ⟨Nat.le_of_ble_eq_true rfl, Nat.le_of_ble_eq_true rfl⟩ (fun H locs hG => ?_)
  rcases v4 with _ | r4
  · rw [g_nul_none] at h
    refine lv_astore_nN (lv' := [(2, .null), (0, .ref a0), (1, .int x1)]) hx hb dX10_whyErase_7 rfl hl (by decide) rfl (fun ls hl => ?_)
    refine lv_aload_nN hx hb dX10_whyErase_8 rfl (lv_at hl 0 rfl) ?_
    refine lv_ifnullN (tgt := 25) hx hb dX10_whyErase_9 (by decide) ?_
    refine lv_iconst (v := (2 : Int32)) hx hb dX10_whyErase_25 (by decide) ?_
    obtain rfl := Option.some.inj h
    exact g_iret hx hb hr hlocks hK hlo hG ⟨rfl, rfl⟩ dX10_whyErase_26
  · rw [g_nul_some] at h
    refine lv_astore_n (lv' := [(2, .ref r4), (0, .ref a0), (1, .int x1)]) hx hb dX10_whyErase_7 rfl hl (by decide) rfl (fun ls hl => ?_)
    refine lv_aload_n hx hb dX10_whyErase_8 rfl (lv_at hl 0 rfl) ?_
    refine lv_ifnull hx hb dX10_whyErase_9 ?_
    refine lv_aload_n hx hb dX10_whyErase_12 rfl (lv_at hl 0 rfl) ?_
    obtain ⟨v13, e13, h⟩ := Option.bind_eq_some_iff.mp h
    refine g_getrN hx hb hts inlX12 hown hK hG (by rfl) 8 (by decide) (List.mem_of_getElem? (i := 32) rfl) e13 dX10_whyErase_13 ?_
    refine lv_aload_n hx hb dX10_whyErase_16 rfl (lv_at hl 0 rfl) ?_
    refine lv_iload_n hx hb dX10_whyErase_17 rfl (lv_at hl 2 rfl) ?_
    obtain ⟨u18, i18, h⟩ := Option.bind_eq_some_iff.mp h
    obtain ⟨v18, e18, h⟩ := Option.bind_eq_some_iff.mp h
    refine g_cVi (As := [.int x1]) (rest := [.ref v13]) (n := 1) hx hb hml hown hts hK hlo hG (m_X12_find l dd cT lo G r4 x1 e18) qM_X10_82 qI_yX12_find qS_X12_yX12_find qN_X12 qC_yX12_find (by decide +kernel) ⟨Nat.le_of_ble_eq_true rfl, Nat.le_of_ble_eq_true rfl⟩ (by rfl) i18 rfl hl.1 rfl (Nat.le_of_ble_eq_true rfl) dX10_whyErase_18 ⟨Nat.le_of_ble_eq_true rfl, Nat.le_of_ble_eq_true rfl⟩ (fun H locs hG => ?_)
    obtain ⟨v21, e21, h⟩ := Option.bind_eq_some_iff.mp h
    refine g_rald_row hx hb hK hG (t := 6) rfl e21 dX10_whyErase_21 ?_
    rcases v21 with _ | r21
    · rw [g_nul_none] at h
      refine lv_ifnonnullN hx hb dX10_whyErase_22 ?_
      refine lv_iconst (v := (2 : Int32)) hx hb dX10_whyErase_25 (by decide) ?_
      obtain rfl := Option.some.inj h
      exact g_iret hx hb hr hlocks hK hlo hG ⟨rfl, rfl⟩ dX10_whyErase_26
    · rw [g_nul_some] at h
      refine lv_ifnonnull (tgt := 27) hx hb dX10_whyErase_22 (by decide) ?_
      refine lv_aload_n hx hb dX10_whyErase_27 rfl (lv_at hl 1 rfl) ?_
      obtain ⟨u28, i28, h⟩ := Option.bind_eq_some_iff.mp h
      obtain ⟨v28, e28, h⟩ := Option.bind_eq_some_iff.mp h
      refine g_cVq (As := []) (rest := []) (n := 0) hx hb hml hown hts hK hlo hG (m_X10_open l dd cT lo G a0 e28) qM_X10_75 qI_yX10_open qS_X10_yX10_open qN_X10 qC_yX10_open (by decide +kernel) ⟨Nat.le_of_ble_eq_true rfl, Nat.le_of_ble_eq_true rfl⟩ (by rfl) i28 rfl hl.1 rfl (Nat.le_of_ble_eq_true rfl) dX10_whyErase_28 ⟨Nat.le_of_ble_eq_true rfl, Nat.le_of_ble_eq_true rfl⟩ (fun H locs hG => ?_)
      rcases v28 with _ | r28
      · rw [g_nul_none] at h
        refine lv_ifnonnullN hx hb dX10_whyErase_31 ?_
        refine lv_aload_n hx hb dX10_whyErase_34 rfl (lv_at hl 1 rfl) ?_
        obtain ⟨v35, e35, h⟩ := Option.bind_eq_some_iff.mp h
        refine g_geti hx hb hts inlX10 hown hK hG (by rfl) 4 (by decide) qF_X10_54 e35 dX10_whyErase_35 ?_
        refine lv_bipush (v := (12 : Int32)) hx hb dX10_whyErase_38 (by decide) ?_
        refine lv_icmp_ne (tgt := 47) hx hb dX10_whyErase_40 (by decide) (fun c40 => ?_) (fun c40 => ?_)
        · rw [if_neg c40] at h
          refine lv_aload_n hx hb dX10_whyErase_47 rfl (lv_at hl 1 rfl) ?_
          refine lv_iconst (v := (0 : Int32)) hx hb dX10_whyErase_48 (by decide) ?_
          refine lv_aload_n hx hb dX10_whyErase_49 rfl (lv_at hl 1 rfl) ?_
          refine lv_iload_n hx hb dX10_whyErase_50 rfl (lv_at hl 2 rfl) ?_
          obtain ⟨u51, i51, h⟩ := Option.bind_eq_some_iff.mp h
          obtain ⟨v51, e51, h⟩ := Option.bind_eq_some_iff.mp h
          refine g_cVi (As := [.int x1]) (rest := [.int (0 : Int32), .ref a0]) (n := 1) hx hb hml hown hts hK hlo hG (m_X10_entriesWith l dd cT lo G a0 x1 e51) qM_X10_86 qI_yX10_entriesWith qS_X10_yX10_entriesWith qN_X10 qC_yX10_entriesWith (by decide +kernel) ⟨Nat.le_of_ble_eq_true rfl, Nat.le_of_ble_eq_true rfl⟩ (by rfl) i51 rfl hl.1 rfl (Nat.le_of_ble_eq_true rfl) dX10_whyErase_51 ⟨Nat.le_of_ble_eq_true rfl, Nat.le_of_ble_eq_true rfl⟩ (fun H locs hG => ?_)
          obtain ⟨u54, i54, h⟩ := Option.bind_eq_some_iff.mp h
          obtain ⟨v54, e54, h⟩ := Option.bind_eq_some_iff.mp h
          refine g_cVi (As := [.int (0 : Int32), .int v51]) (rest := []) (n := 2) hx hb hml hown hts hK hlo hG (m_X10_why l dd cT lo G a0 (0 : Int32) v51 e54) qM_X10_89 qI_yX10_why qS_X10_yX10_why qN_X10 qC_yX10_why (by decide +kernel) ⟨Nat.le_of_ble_eq_true rfl, Nat.le_of_ble_eq_true rfl⟩ (by rfl) i54 rfl hl.1 rfl (Nat.le_of_ble_eq_true rfl) dX10_whyErase_54 ⟨Nat.le_of_ble_eq_true rfl, Nat.le_of_ble_eq_true rfl⟩ (fun H locs hG => ?_)
          obtain rfl := Option.some.inj h
          exact g_iret hx hb hr hlocks hK hlo hG ⟨rfl, rfl⟩ dX10_whyErase_57
        · rw [if_pos c40] at h
          refine lv_iconst (v := (3 : Int32)) hx hb dX10_whyErase_43 (by decide) ?_
          refine lv_goto (tgt := 57) hx hb dX10_whyErase_44 (by decide) ?_
          obtain rfl := Option.some.inj h
          exact g_iret hx hb hr hlocks hK hlo hG ⟨rfl, rfl⟩ dX10_whyErase_57
      · rw [g_nul_some] at h
        refine lv_ifnonnull (tgt := 47) hx hb dX10_whyErase_31 (by decide) ?_
        refine lv_aload_n hx hb dX10_whyErase_47 rfl (lv_at hl 1 rfl) ?_
        refine lv_iconst (v := (0 : Int32)) hx hb dX10_whyErase_48 (by decide) ?_
        refine lv_aload_n hx hb dX10_whyErase_49 rfl (lv_at hl 1 rfl) ?_
        refine lv_iload_n hx hb dX10_whyErase_50 rfl (lv_at hl 2 rfl) ?_
        obtain ⟨u51, i51, h⟩ := Option.bind_eq_some_iff.mp h
        obtain ⟨v51, e51, h⟩ := Option.bind_eq_some_iff.mp h
        refine g_cVi (As := [.int x1]) (rest := [.int (0 : Int32), .ref a0]) (n := 1) hx hb hml hown hts hK hlo hG (m_X10_entriesWith l dd cT lo G a0 x1 e51) qM_X10_86 qI_yX10_entriesWith qS_X10_yX10_entriesWith qN_X10 qC_yX10_entriesWith (by decide +kernel) ⟨Nat.le_of_ble_eq_true rfl, Nat.le_of_ble_eq_true rfl⟩ (by rfl) i51 rfl hl.1 rfl (Nat.le_of_ble_eq_true rfl) dX10_whyErase_51 ⟨Nat.le_of_ble_eq_true rfl, Nat.le_of_ble_eq_true rfl⟩ (fun H locs hG => ?_)
        obtain ⟨u54, i54, h⟩ := Option.bind_eq_some_iff.mp h
        obtain ⟨v54, e54, h⟩ := Option.bind_eq_some_iff.mp h
        refine g_cVi (As := [.int (0 : Int32), .int v51]) (rest := []) (n := 2) hx hb hml hown hts hK hlo hG (m_X10_why l dd cT lo G a0 (0 : Int32) v51 e54) qM_X10_89 qI_yX10_why qS_X10_yX10_why qN_X10 qC_yX10_why (by decide +kernel) ⟨Nat.le_of_ble_eq_true rfl, Nat.le_of_ble_eq_true rfl⟩ (by rfl) i54 rfl hl.1 rfl (Nat.le_of_ble_eq_true rfl) dX10_whyErase_54 ⟨Nat.le_of_ble_eq_true rfl, Nat.le_of_ble_eq_true rfl⟩ (fun H locs hG => ?_)
        obtain rfl := Option.some.inj h
        exact g_iret hx hb hr hlocks hK hlo hG ⟨rfl, rfl⟩ dX10_whyErase_57
set_option maxRecDepth 20000 in
set_option maxHeartbeats 4000000 in
theorem m_X10_there (l : Launch) (dd : va_G) (cT : Nat → ClassId) (lo : Nat → Prop) (G : gH) (a0 : Nat) (x1 : Int32) {rz : Int32} (h : f_X10_there G a0 x1 = some rz) : Met l yX10_there (Cond.code yX10_there cX10_there 4 (some .int) :: wsL_law) (g_rm 4 91 0 0) (va_Pc [.ref a0, .int x1] (g_Pre lo dd cT G)) (va_Qi (g_is rz G) (g_Pre lo dd cT) (g_A lo)) 0 0 (g_A lo) := by
  refine g_start RX10 rfl (by decide) (Nat.le_of_ble_eq_true rfl) ?_
  intro p e s m below meth c hx hb hr hlocks hml hown hnm hts hK hG hlo ls hl
  have hl : lv_has ls 4 [(0, .ref a0), (1, .int x1)] := hl
  have hG : g_S lo dd cT s s.heap [] G := hG
  have h4 : ∀ n4 : Nat, ∀ (ba0 : Nat) (bx1 : Int32) (bx2 : Int32) (bx3 : Int32), ∀ (H : Heap) (locs : List Loc), g_S lo dd cT s H locs G → ∀ ls : Array Slot, lv_has ls 4 [(0, .ref ba0), (1, .int bx1), (2, .int bx2), (3, .int bx3)] → f_X10_there_L4 G n4 ba0 bx1 bx2 bx3 = some rz → W p l e (g_rm 4 91 0 0) s m ([.ref a0, .int x1] : List Value).toArray below meth c H locs 0 0 (MQ below (va_Qi (g_is rz G) (g_Pre lo dd cT) (g_A lo)) ([.ref a0, .int x1] : List Value).toArray s 0 0 (g_A lo)) (F0 m 4 ls []) := by
    intro n4
    induction n4 with
    | zero =>
      intro ba0 bx1 bx2 bx3 H locs hG ls hl h
      cases (show (none : Option Int32) = some rz from h)
    | succ n4 ih4 =>
      intro ba0 bx1 bx2 bx3 H locs hG ls hl h
      rw [f_X10_there_L4] at h
      refine lv_iload_n hx hb dX10_there_4 rfl (lv_at hl 3 rfl) ?_
      refine lv_aload_n hx hb dX10_there_5 rfl (lv_at hl 0 rfl) ?_
      obtain ⟨v6, e6, h⟩ := Option.bind_eq_some_iff.mp h
      refine g_geti hx hb hts inlX10 hown hK hG (by rfl) 2 (by decide) qF_X10_160 e6 dX10_there_6 ?_
      refine lv_icmp_ge (tgt := 35) hx hb dX10_there_9 (by decide) (fun c9 => ?_) (fun c9 => ?_)
      · rw [if_pos c9] at h
        refine lv_iload_n hx hb dX10_there_35 rfl (lv_at hl 2 rfl) ?_
        obtain rfl := Option.some.inj h
        exact g_iret hx hb hr hlocks hK hlo hG ⟨rfl, rfl⟩ dX10_there_36
      · rw [if_neg c9] at h
        refine lv_iload_n hx hb dX10_there_12 rfl (lv_at hl 2 rfl) ?_
        refine lv_aload_n hx hb dX10_there_13 rfl (lv_at hl 0 rfl) ?_
        refine lv_iload_n hx hb dX10_there_14 rfl (lv_at hl 3 rfl) ?_
        refine lv_iload_n hx hb dX10_there_15 rfl (lv_at hl 1 rfl) ?_
        obtain ⟨u16, i16, h⟩ := Option.bind_eq_some_iff.mp h
        obtain ⟨v16, e16, h⟩ := Option.bind_eq_some_iff.mp h
        refine g_cVq (As := [.int bx3, .int bx1]) (rest := [.int bx2]) (n := 2) hx hb hml hown hts hK hlo hG (m_X10_version l dd cT lo G ba0 bx3 bx1 e16) qM_X10_163 qI_yX10_version qS_X10_yX10_version qN_X10 qC_yX10_version (by decide +kernel) ⟨Nat.le_of_ble_eq_true rfl, Nat.le_of_ble_eq_true rfl⟩ (by rfl) i16 rfl hl.1 rfl (Nat.le_of_ble_eq_true rfl) dX10_there_16 ⟨Nat.le_of_ble_eq_true rfl, Nat.le_of_ble_eq_true rfl⟩ (fun H locs hG => ?_)
        rcases v16 with _ | r16
        · rw [g_nul_none] at h
          refine lv_ifnonnullN hx hb dX10_there_19 ?_
          refine lv_iconst (v := (0 : Int32)) hx hb dX10_there_22 (by decide) ?_
          refine lv_goto (tgt := 27) hx hb dX10_there_23 (by decide) ?_
          refine lv_iadd hx hb dX10_there_27 ?_
          refine lv_istore_n (lv' := [(2, .int (bx2 + (0 : Int32))), (0, .ref ba0), (1, .int bx1), (3, .int bx3)]) hx hb dX10_there_28 rfl hl (by decide) rfl (fun ls hl => ?_)
          refine lv_iinc (v := (bx3 + (1 : Int32))) (lv' := [(3, .int (bx3 + (1 : Int32))), (2, .int (bx2 + (0 : Int32))), (0, .ref ba0), (1, .int bx1)]) hx hb dX10_there_29 hl (k := 3) rfl rfl (by decide) rfl (fun ls hl => ?_)
          refine lv_goto (tgt := 4) hx hb dX10_there_32 (by decide) ?_
          exact ih4 ba0 bx1 (bx2 + (0 : Int32)) (bx3 + (1 : Int32)) _ _ hG _ (lv_sub hl [2, 3, 1, 0] rfl) h
        · rw [g_nul_some] at h
          refine lv_ifnonnull (tgt := 26) hx hb dX10_there_19 (by decide) ?_
          refine lv_iconst (v := (1 : Int32)) hx hb dX10_there_26 (by decide) ?_
          refine lv_iadd hx hb dX10_there_27 ?_
          refine lv_istore_n (lv' := [(2, .int (bx2 + (1 : Int32))), (0, .ref ba0), (1, .int bx1), (3, .int bx3)]) hx hb dX10_there_28 rfl hl (by decide) rfl (fun ls hl => ?_)
          refine lv_iinc (v := (bx3 + (1 : Int32))) (lv' := [(3, .int (bx3 + (1 : Int32))), (2, .int (bx2 + (1 : Int32))), (0, .ref ba0), (1, .int bx1)]) hx hb dX10_there_29 hl (k := 3) rfl rfl (by decide) rfl (fun ls hl => ?_)
          refine lv_goto (tgt := 4) hx hb dX10_there_32 (by decide) ?_
          exact ih4 ba0 bx1 (bx2 + (1 : Int32)) (bx3 + (1 : Int32)) _ _ hG _ (lv_sub hl [2, 3, 1, 0] rfl) h
  unfold f_X10_there at h
  refine lv_iconst (v := (0 : Int32)) hx hb dX10_there_0 (by decide) ?_
  refine lv_istore_n (lv' := [(2, .int (0 : Int32)), (0, .ref a0), (1, .int x1)]) hx hb dX10_there_1 rfl hl (by decide) rfl (fun ls hl => ?_)
  refine lv_iconst (v := (0 : Int32)) hx hb dX10_there_2 (by decide) ?_
  refine lv_istore_n (lv' := [(3, .int (0 : Int32)), (2, .int (0 : Int32)), (0, .ref a0), (1, .int x1)]) hx hb dX10_there_3 rfl hl (by decide) rfl (fun ls hl => ?_)
  exact h4 g_N a0 x1 (0 : Int32) (0 : Int32) _ _ hG _ (lv_sub hl [2, 3, 1, 0] rfl) h
set_option maxRecDepth 20000 in
set_option maxHeartbeats 4000000 in
theorem m_X10_good (l : Launch) (dd : va_G) (cT : Nat → ClassId) (lo : Nat → Prop) (G : gH) (a0 : Nat) {rz : Int32} (h : f_X10_good G a0 = some rz) : Met l yX10_good (Cond.code yX10_good cX10_good 4 (some .int) :: wsL_law) (g_rm 4 91 0 0) (va_Pc [.ref a0] (g_Pre lo dd cT G)) (va_Qi (g_is rz G) (g_Pre lo dd cT) (g_A lo)) 0 0 (g_A lo) := by
  refine g_start RX10 rfl (by decide) (Nat.le_of_ble_eq_true rfl) ?_
  intro p e s m below meth c hx hb hr hlocks hml hown hnm hts hK hG hlo ls hl
  have hl : lv_has ls 4 [(0, .ref a0)] := hl
  have hG : g_S lo dd cT s s.heap [] G := hG
  have h4 : ∀ n4 : Nat, ∀ (ba0 : Nat) (bx1 : Int32) (bx2 : Int32), ∀ (H : Heap) (locs : List Loc), g_S lo dd cT s H locs G → ∀ ls : Array Slot, lv_has ls 4 [(0, .ref ba0), (1, .int bx1), (2, .int bx2)] → f_X10_good_L4 G n4 ba0 bx1 bx2 = some rz → W p l e (g_rm 4 91 0 0) s m ([.ref a0] : List Value).toArray below meth c H locs 0 0 (MQ below (va_Qi (g_is rz G) (g_Pre lo dd cT) (g_A lo)) ([.ref a0] : List Value).toArray s 0 0 (g_A lo)) (F0 m 4 ls []) := by
    intro n4
    induction n4 with
    | zero =>
      intro ba0 bx1 bx2 H locs hG ls hl h
      cases (show (none : Option Int32) = some rz from h)
    | succ n4 ih4 =>
      intro ba0 bx1 bx2 H locs hG ls hl h
      rw [f_X10_good_L4] at h
      refine lv_iload_n hx hb dX10_good_4 rfl (lv_at hl 2 rfl) ?_
      refine lv_aload_n hx hb dX10_good_5 rfl (lv_at hl 0 rfl) ?_
      obtain ⟨v6, e6, h⟩ := Option.bind_eq_some_iff.mp h
      refine g_geti hx hb hts inlX10 hown hK hG (by rfl) 2 (by decide) qF_X10_160 e6 dX10_good_6 ?_
      refine lv_icmp_ge (tgt := 44) hx hb dX10_good_9 (by decide) (fun c9 => ?_) (fun c9 => ?_)
      · rw [if_pos c9] at h
        refine lv_iload_n hx hb dX10_good_44 rfl (lv_at hl 1 rfl) ?_
        obtain rfl := Option.some.inj h
        exact g_iret hx hb hr hlocks hK hlo hG ⟨rfl, rfl⟩ dX10_good_45
      · rw [if_neg c9] at h
        refine lv_aload_n hx hb dX10_good_12 rfl (lv_at hl 0 rfl) ?_
        refine lv_iload_n hx hb dX10_good_13 rfl (lv_at hl 2 rfl) ?_
        refine lv_bipush (v := (12 : Int32)) hx hb dX10_good_14 (by decide) ?_
        obtain ⟨u16, i16, h⟩ := Option.bind_eq_some_iff.mp h
        obtain ⟨v16, e16, h⟩ := Option.bind_eq_some_iff.mp h
        refine g_cVq (As := [.int bx2, .int (12 : Int32)]) (rest := []) (n := 2) hx hb hml hown hts hK hlo hG (m_X10_version l dd cT lo G ba0 bx2 (12 : Int32) e16) qM_X10_163 qI_yX10_version qS_X10_yX10_version qN_X10 qC_yX10_version (by decide +kernel) ⟨Nat.le_of_ble_eq_true rfl, Nat.le_of_ble_eq_true rfl⟩ (by rfl) i16 rfl hl.1 rfl (Nat.le_of_ble_eq_true rfl) dX10_good_16 ⟨Nat.le_of_ble_eq_true rfl, Nat.le_of_ble_eq_true rfl⟩ (fun H locs hG => ?_)
        rcases v16 with _ | r16
        · rw [g_nul_none] at h
          refine lv_astore_nN (lv' := [(3, .null), (0, .ref ba0), (1, .int bx1), (2, .int bx2)]) hx hb dX10_good_19 rfl hl (by decide) rfl (fun ls hl => ?_)
          refine lv_aload_nN hx hb dX10_good_20 rfl (lv_at hl 0 rfl) ?_
          refine lv_ifnullN (tgt := 38) hx hb dX10_good_21 (by decide) ?_
          refine lv_iinc (v := (bx2 + (1 : Int32))) (lv' := [(2, .int (bx2 + (1 : Int32))), (3, .null), (0, .ref ba0), (1, .int bx1)]) hx hb dX10_good_38 hl (k := 3) rfl rfl (by decide) rfl (fun ls hl => ?_)
          refine lv_goto (tgt := 4) hx hb dX10_good_41 (by decide) ?_
          exact ih4 ba0 bx1 (bx2 + (1 : Int32)) _ _ hG _ (lv_sub hl [2, 3, 0] rfl) h
        · rw [g_nul_some] at h
          refine lv_astore_n (lv' := [(3, .ref r16), (0, .ref ba0), (1, .int bx1), (2, .int bx2)]) hx hb dX10_good_19 rfl hl (by decide) rfl (fun ls hl => ?_)
          refine lv_aload_n hx hb dX10_good_20 rfl (lv_at hl 0 rfl) ?_
          refine lv_ifnull hx hb dX10_good_21 ?_
          refine lv_aload_n hx hb dX10_good_24 rfl (lv_at hl 1 rfl) ?_
          refine lv_aload_n hx hb dX10_good_25 rfl (lv_at hl 0 rfl) ?_
          obtain ⟨u26, i26, h⟩ := Option.bind_eq_some_iff.mp h
          obtain ⟨v26, e26, h⟩ := Option.bind_eq_some_iff.mp h
          refine g_cVi (As := [.ref r16]) (rest := []) (n := 1) hx hb hml hown hts hK hlo hG (m_X10_reads_ l dd cT lo G ba0 r16 e26) qM_X10_166 qI_yX10_reads_ qS_X10_yX10_reads_ qN_X10 qC_yX10_reads_ (by decide +kernel) ⟨Nat.le_of_ble_eq_true rfl, Nat.le_of_ble_eq_true rfl⟩ (by rfl) i26 rfl hl.1 rfl (Nat.le_of_ble_eq_true rfl) dX10_good_26 ⟨Nat.le_of_ble_eq_true rfl, Nat.le_of_ble_eq_true rfl⟩ (fun H locs hG => ?_)
          refine lv_if_eq (tgt := 38) hx hb dX10_good_29 (by decide) (fun c29 => ?_) (fun c29 => ?_)
          · rw [if_pos c29] at h
            refine lv_iinc (v := (bx2 + (1 : Int32))) (lv' := [(2, .int (bx2 + (1 : Int32))), (3, .ref r16), (0, .ref ba0), (1, .int bx1)]) hx hb dX10_good_38 hl (k := 3) rfl rfl (by decide) rfl (fun ls hl => ?_)
            refine lv_goto (tgt := 4) hx hb dX10_good_41 (by decide) ?_
            exact ih4 ba0 bx1 (bx2 + (1 : Int32)) _ _ hG _ (lv_sub hl [2, 3, 0] rfl) h
          · rw [if_neg c29] at h
            refine lv_iload_n hx hb dX10_good_32 rfl (lv_at hl 2 rfl) ?_
            refine lv_iconst (v := (1 : Int32)) hx hb dX10_good_33 (by decide) ?_
            refine lv_iload_n hx hb dX10_good_34 rfl (lv_at hl 3 rfl) ?_
            refine lv_ishl hx hb dX10_good_35 ?_
            refine lv_ior hx hb dX10_good_36 ?_
            refine lv_istore_n (lv' := [(1, .int (bx1 ||| ((1 : Int32) <<< (bx2 &&& 31)))), (3, .ref r16), (0, .ref ba0), (2, .int bx2)]) hx hb dX10_good_37 rfl hl (by decide) rfl (fun ls hl => ?_)
            refine lv_iinc (v := (bx2 + (1 : Int32))) (lv' := [(2, .int (bx2 + (1 : Int32))), (1, .int (bx1 ||| ((1 : Int32) <<< (bx2 &&& 31)))), (3, .ref r16), (0, .ref ba0)]) hx hb dX10_good_38 hl (k := 3) rfl rfl (by decide) rfl (fun ls hl => ?_)
            refine lv_goto (tgt := 4) hx hb dX10_good_41 (by decide) ?_
            exact ih4 ba0 (bx1 ||| ((1 : Int32) <<< (bx2 &&& 31))) (bx2 + (1 : Int32)) _ _ hG _ (lv_sub hl [3, 1, 0] rfl) h
  unfold f_X10_good at h
  refine lv_iconst (v := (0 : Int32)) hx hb dX10_good_0 (by decide) ?_
  refine lv_istore_n (lv' := [(1, .int (0 : Int32)), (0, .ref a0)]) hx hb dX10_good_1 rfl hl (by decide) rfl (fun ls hl => ?_)
  refine lv_iconst (v := (0 : Int32)) hx hb dX10_good_2 (by decide) ?_
  refine lv_istore_n (lv' := [(2, .int (0 : Int32)), (1, .int (0 : Int32)), (0, .ref a0)]) hx hb dX10_good_3 rfl hl (by decide) rfl (fun ls hl => ?_)
  exact h4 g_N a0 (0 : Int32) (0 : Int32) _ _ hG _ (lv_sub hl [2, 1, 0] rfl) h
set_option maxRecDepth 20000 in
set_option maxHeartbeats 4000000 in
theorem m_X10_close (l : Launch) (dd : va_G) (cT : Nat → ClassId) (lo : Nat → Prop) (G : gH) (a0 : Nat) {Gz : gH} (h : f_X10_close G a0 = some Gz) : Met l yX10_close (Cond.code yX10_close cX10_close 3 none :: wsL_law) (g_rm 2 49 0 0) (va_Pc [.ref a0] (g_Pre lo dd cT G)) (va_Qv (g_iv Gz) (g_Pre lo dd cT) (g_A lo)) 0 0 (g_A lo) := by
  refine g_start RX10 rfl (by decide) (Nat.le_of_ble_eq_true rfl) ?_
  intro p e s m below meth c hx hb hr hlocks hml hown hnm hts hK hG hlo ls hl
  have hl : lv_has ls 3 [(0, .ref a0)] := hl
  have hG : g_S lo dd cT s s.heap [] G := hG
  have h65 : ∀ n65 : Nat, ∀ (G : gH) (ba0 : Nat) (ba1 : Option Nat) (bx2 : Int32), ∀ (H : Heap) (locs : List Loc), g_S lo dd cT s H locs G → ∀ ls : Array Slot, lv_has ls 3 [(0, .ref ba0), (1, va_rf ba1), (2, .int bx2)] → f_X10_close_L65 n65 G ba0 ba1 bx2 = some Gz → W p l e (g_rm 2 49 0 0) s m ([.ref a0] : List Value).toArray below meth c H locs 0 0 (MQ below (va_Qv (g_iv Gz) (g_Pre lo dd cT) (g_A lo)) ([.ref a0] : List Value).toArray s 0 0 (g_A lo)) (F0 m 65 ls []) := by
    intro n65
    induction n65 with
    | zero =>
      intro G ba0 ba1 bx2 H locs hG ls hl h
      cases (show (none : Option gH) = some Gz from h)
    | succ n65 ih65 =>
      intro G ba0 ba1 bx2 H locs hG ls hl h
      rw [f_X10_close_L65] at h
      rcases ba1 with _ | ba1r
      · rw [g_nul_none] at h
        refine lv_iload_n hx hb dX10_close_65 rfl (lv_at hl 2 rfl) ?_
        refine lv_aload_nN hx hb dX10_close_66 rfl (lv_at hl 1 rfl) ?_
        cases h
      · rw [g_nul_some] at h
        refine lv_iload_n hx hb dX10_close_65 rfl (lv_at hl 2 rfl) ?_
        refine lv_aload_n hx hb dX10_close_66 rfl (lv_at hl 1 rfl) ?_
        obtain ⟨v67, e67, h⟩ := Option.bind_eq_some_iff.mp h
        refine g_getiN hx hb hts inlX12 hown hK hG (by rfl) 5 (by decide) (List.mem_of_getElem? (i := 42) rfl) e67 dX10_close_67 ?_
        refine lv_icmp_ge (tgt := 92) hx hb dX10_close_70 (by decide) (fun c70 => ?_) (fun c70 => ?_)
        · rw [if_pos c70] at h
          refine lv_aload_n hx hb dX10_close_92 rfl (lv_at hl 1 rfl) ?_
          refine lv_iconst (v := (1 : Int32)) hx hb dX10_close_93 (by decide) ?_
          obtain ⟨G94, i94, h⟩ := Option.bind_eq_some_iff.mp h
          refine g_putvN hx hb hts inlX12 tyX12 tyX12_ok nmX12 hown hK hG (by rfl) 0 (by decide) (List.mem_of_getElem? (i := 30) rfl) rfl rfl rfl rfl i94 dX10_close_94 (fun H locs hG => ?_)
          obtain rfl := Option.some.inj h
          exact g_vret hx hb hr hlocks hK hlo hG rfl dX10_close_97
        · rw [if_neg c70] at h
          refine lv_aload_n hx hb dX10_close_73 rfl (lv_at hl 1 rfl) ?_
          obtain ⟨v74, e74, h⟩ := Option.bind_eq_some_iff.mp h
          refine g_getrN hx hb hts inlX12 hown hK hG (by rfl) 7 (by decide) (List.mem_of_getElem? (i := 44) rfl) e74 dX10_close_74 ?_
          refine lv_iload_n hx hb dX10_close_77 rfl (lv_at hl 2 rfl) ?_
          refine lv_aload_n hx hb dX10_close_78 rfl (lv_at hl 0 rfl) ?_
          refine lv_iconst (v := (2 : Int32)) hx hb dX10_close_79 (by decide) ?_
          refine lv_null hx hb dX10_close_80 ?_
          refine lv_iload_n hx hb dX10_close_81 rfl (lv_at hl 2 rfl) ?_
          obtain ⟨u82, i82, h⟩ := Option.bind_eq_some_iff.mp h
          obtain ⟨q82, e82, h⟩ := Option.bind_eq_some_iff.mp h
          refine g_cVi (As := [.int (2 : Int32), .null, .int bx2]) (rest := [.int bx2, .ref v74]) (n := 3) hx hb hml hown hts hK hlo hG (m_X10_burn_n l dd cT lo G ba0 (2 : Int32) bx2 e82) qM_X10_131 qI_yX10_burn qS_X10_yX10_burn qN_X10 qC_yX10_burn (by decide +kernel) ⟨Nat.le_of_ble_eq_true rfl, Nat.le_of_ble_eq_true rfl⟩ (by rfl) i82 rfl hl.1 rfl (Nat.le_of_ble_eq_true rfl) dX10_close_82 ⟨Nat.le_of_ble_eq_true rfl, Nat.le_of_ble_eq_true rfl⟩ (fun H locs hG => ?_)
          obtain ⟨G85, e85, h⟩ := Option.bind_eq_some_iff.mp h
          refine g_iast hx hb hK hG e85 dX10_close_85 (fun H locs hG => ?_)
          refine lv_iinc (v := (bx2 + (1 : Int32))) (lv' := [(2, .int (bx2 + (1 : Int32))), (0, .ref ba0), (1, .ref ba1r)]) hx hb dX10_close_86 hl (k := 2) rfl rfl (by decide) rfl (fun ls hl => ?_)
          refine lv_goto (tgt := 65) hx hb dX10_close_89 (by decide) ?_
          exact ih65 G85 ba0 (some ba1r) (bx2 + (1 : Int32)) _ _ hG _ (lv_sub hl [1, 2, 0] rfl) h
  have h28 : ∀ n28 : Nat, ∀ (G : gH) (ba0 : Nat) (ba1 : Option Nat) (bx2 : Int32), ∀ (H : Heap) (locs : List Loc), g_S lo dd cT s H locs G → ∀ ls : Array Slot, lv_has ls 3 [(0, .ref ba0), (1, va_rf ba1), (2, .int bx2)] → f_X10_close_L28 n28 G ba0 ba1 bx2 = some Gz → W p l e (g_rm 2 49 0 0) s m ([.ref a0] : List Value).toArray below meth c H locs 0 0 (MQ below (va_Qv (g_iv Gz) (g_Pre lo dd cT) (g_A lo)) ([.ref a0] : List Value).toArray s 0 0 (g_A lo)) (F0 m 28 ls []) := by
    intro n28
    induction n28 with
    | zero =>
      intro G ba0 ba1 bx2 H locs hG ls hl h
      cases (show (none : Option gH) = some Gz from h)
    | succ n28 ih28 =>
      intro G ba0 ba1 bx2 H locs hG ls hl h
      rw [f_X10_close_L28] at h
      rcases ba1 with _ | ba1r
      · rw [g_nul_none] at h
        refine lv_iload_n hx hb dX10_close_28 rfl (lv_at hl 2 rfl) ?_
        refine lv_if_lt (tgt := 63) hx hb dX10_close_29 (by decide) (fun c29 => ?_) (fun c29 => ?_)
        · rw [if_pos c29] at h
          refine lv_iconst (v := (0 : Int32)) hx hb dX10_close_63 (by decide) ?_
          refine lv_istore_n (lv' := [(2, .int (0 : Int32)), (0, .ref ba0), (1, .null)]) hx hb dX10_close_64 rfl hl (by decide) rfl (fun ls hl => ?_)
          exact h65 g_N G ba0 none (0 : Int32) _ _ hG _ (lv_sub hl [1, 2, 0] rfl) h
        · rw [if_neg c29] at h
          refine lv_aload_nN hx hb dX10_close_32 rfl (lv_at hl 1 rfl) ?_
          cases h
      · rw [g_nul_some] at h
        refine lv_iload_n hx hb dX10_close_28 rfl (lv_at hl 2 rfl) ?_
        refine lv_if_lt (tgt := 63) hx hb dX10_close_29 (by decide) (fun c29 => ?_) (fun c29 => ?_)
        · rw [if_pos c29] at h
          refine lv_iconst (v := (0 : Int32)) hx hb dX10_close_63 (by decide) ?_
          refine lv_istore_n (lv' := [(2, .int (0 : Int32)), (0, .ref ba0), (1, .ref ba1r)]) hx hb dX10_close_64 rfl hl (by decide) rfl (fun ls hl => ?_)
          exact h65 g_N G ba0 (some ba1r) (0 : Int32) _ _ hG _ (lv_sub hl [1, 2, 0] rfl) h
        · rw [if_neg c29] at h
          refine lv_aload_n hx hb dX10_close_32 rfl (lv_at hl 1 rfl) ?_
          obtain ⟨v33, e33, h⟩ := Option.bind_eq_some_iff.mp h
          refine g_getiN hx hb hts inlX12 hown hK hG (by rfl) 4 (by decide) (List.mem_of_getElem? (i := 43) rfl) e33 dX10_close_33 ?_
          refine lv_if_ge (tgt := 63) hx hb dX10_close_36 (by decide) (fun c36 => ?_) (fun c36 => ?_)
          · rw [if_pos c36] at h
            refine lv_iconst (v := (0 : Int32)) hx hb dX10_close_63 (by decide) ?_
            refine lv_istore_n (lv' := [(2, .int (0 : Int32)), (0, .ref ba0), (1, .ref ba1r)]) hx hb dX10_close_64 rfl hl (by decide) rfl (fun ls hl => ?_)
            exact h65 g_N G ba0 (some ba1r) (0 : Int32) _ _ hG _ (lv_sub hl [1, 2, 0] rfl) h
          · rw [if_neg c36] at h
            refine lv_aload_n hx hb dX10_close_39 rfl (lv_at hl 0 rfl) ?_
            obtain ⟨v40, e40, h⟩ := Option.bind_eq_some_iff.mp h
            refine g_getr hx hb hts inlX10 hown hK hG (by rfl) 16 (by decide) qF_X10_43 e40 dX10_close_40 ?_
            refine lv_iload_n hx hb dX10_close_43 rfl (lv_at hl 2 rfl) ?_
            obtain ⟨v44, e44, h⟩ := Option.bind_eq_some_iff.mp h
            refine g_rald_row hx hb hK hG (t := 5) rfl e44 dX10_close_44 ?_
            rcases v44 with _ | r44
            · rw [g_nul_none] at h
              cases h
            · rw [g_nul_some] at h
              obtain ⟨v45, e45, h⟩ := Option.bind_eq_some_iff.mp h
              refine g_getiN hx hb hts inlX12 hown hK hG (by rfl) 0 (by decide) (List.mem_of_getElem? (i := 30) rfl) e45 dX10_close_45 ?_
              refine lv_iconst (v := (1 : Int32)) hx hb dX10_close_48 (by decide) ?_
              refine lv_icmp_ne (tgt := 57) hx hb dX10_close_49 (by decide) (fun c49 => ?_) (fun c49 => ?_)
              · rw [if_neg c49] at h
                refine lv_iinc (v := (bx2 + (-1 : Int32))) (lv' := [(2, .int (bx2 + (-1 : Int32))), (0, .ref ba0), (1, .ref ba1r)]) hx hb dX10_close_57 hl (k := 2) rfl rfl (by decide) rfl (fun ls hl => ?_)
                refine lv_goto (tgt := 28) hx hb dX10_close_60 (by decide) ?_
                exact ih28 G ba0 (some ba1r) (bx2 + (-1 : Int32)) _ _ hG _ (lv_sub hl [1, 2, 0] rfl) h
              · rw [if_pos c49] at h
                refine lv_aload_n hx hb dX10_close_52 rfl (lv_at hl 1 rfl) ?_
                refine lv_iload_n hx hb dX10_close_53 rfl (lv_at hl 2 rfl) ?_
                obtain ⟨G54, i54, h⟩ := Option.bind_eq_some_iff.mp h
                refine g_putvN hx hb hts inlX12 tyX12 tyX12_ok nmX12 hown hK hG (by rfl) 4 (by decide) (List.mem_of_getElem? (i := 43) rfl) rfl rfl rfl rfl i54 dX10_close_54 (fun H locs hG => ?_)
                refine lv_iinc (v := (bx2 + (-1 : Int32))) (lv' := [(2, .int (bx2 + (-1 : Int32))), (0, .ref ba0), (1, .ref ba1r)]) hx hb dX10_close_57 hl (k := 2) rfl rfl (by decide) rfl (fun ls hl => ?_)
                refine lv_goto (tgt := 28) hx hb dX10_close_60 (by decide) ?_
                exact ih28 G54 ba0 (some ba1r) (bx2 + (-1 : Int32)) _ _ hG _ (lv_sub hl [1, 2, 0] rfl) h
  unfold f_X10_close at h
  refine lv_aload_n hx hb dX10_close_0 rfl (lv_at hl 0 rfl) ?_
  obtain ⟨u1, i1, h⟩ := Option.bind_eq_some_iff.mp h
  obtain ⟨v1, e1, h⟩ := Option.bind_eq_some_iff.mp h
  refine g_cVq (As := []) (rest := []) (n := 0) hx hb hml hown hts hK hlo hG (m_X10_open l dd cT lo G a0 e1) qM_X10_75 qI_yX10_open qS_X10_yX10_open qN_X10 qC_yX10_open (by decide +kernel) ⟨Nat.le_of_ble_eq_true rfl, Nat.le_of_ble_eq_true rfl⟩ (by rfl) i1 rfl hl.1 rfl (Nat.le_of_ble_eq_true rfl) dX10_close_1 ⟨Nat.le_of_ble_eq_true rfl, Nat.le_of_ble_eq_true rfl⟩ (fun H locs hG => ?_)
  rcases v1 with _ | r1
  · rw [g_nul_none] at h
    refine lv_astore_nN (lv' := [(1, .null), (0, .ref a0)]) hx hb dX10_close_4 rfl hl (by decide) rfl (fun ls hl => ?_)
    refine lv_aload_nN hx hb dX10_close_5 rfl (lv_at hl 0 rfl) ?_
    refine lv_aload_n hx hb dX10_close_6 rfl (lv_at hl 1 rfl) ?_
    obtain ⟨v7, e7, h⟩ := Option.bind_eq_some_iff.mp h
    refine g_geti hx hb hts inlX10 hown hK hG (by rfl) 3 (by decide) qF_X10_60 e7 dX10_close_7 ?_
    cases h
  · rw [g_nul_some] at h
    refine lv_astore_n (lv' := [(1, .ref r1), (0, .ref a0)]) hx hb dX10_close_4 rfl hl (by decide) rfl (fun ls hl => ?_)
    refine lv_aload_n hx hb dX10_close_5 rfl (lv_at hl 0 rfl) ?_
    refine lv_aload_n hx hb dX10_close_6 rfl (lv_at hl 1 rfl) ?_
    obtain ⟨v7, e7, h⟩ := Option.bind_eq_some_iff.mp h
    refine g_geti hx hb hts inlX10 hown hK hG (by rfl) 3 (by decide) qF_X10_60 e7 dX10_close_7 ?_
    obtain ⟨G10, i10, h⟩ := Option.bind_eq_some_iff.mp h
    refine g_putvN hx hb hts inlX12 tyX12 tyX12_ok nmX12 hown hK hG (by rfl) 3 (by decide) (List.mem_of_getElem? (i := 41) rfl) rfl rfl rfl rfl i10 dX10_close_10 (fun H locs hG => ?_)
    refine lv_aload_n hx hb dX10_close_13 rfl (lv_at hl 0 rfl) ?_
    refine lv_aload_n hx hb dX10_close_14 rfl (lv_at hl 0 rfl) ?_
    obtain ⟨u15, i15, h⟩ := Option.bind_eq_some_iff.mp h
    obtain ⟨v15, e15, h⟩ := Option.bind_eq_some_iff.mp h
    refine g_cVi (As := []) (rest := [.ref r1]) (n := 0) hx hb hml hown hts hK hlo hG (m_X12_size l dd cT lo G10 r1 e15) qM_X10_100 qI_yX12_size qS_X12_yX12_size qN_X12 qC_yX12_size (by decide +kernel) ⟨Nat.le_of_ble_eq_true rfl, Nat.le_of_ble_eq_true rfl⟩ (by rfl) i15 rfl hl.1 rfl (Nat.le_of_ble_eq_true rfl) dX10_close_15 ⟨Nat.le_of_ble_eq_true rfl, Nat.le_of_ble_eq_true rfl⟩ (fun H locs hG => ?_)
    obtain ⟨G18, i18, h⟩ := Option.bind_eq_some_iff.mp h
    refine g_putvN hx hb hts inlX12 tyX12 tyX12_ok nmX12 hown hK hG (by rfl) 5 (by decide) (List.mem_of_getElem? (i := 42) rfl) rfl rfl rfl rfl i18 dX10_close_18 (fun H locs hG => ?_)
    refine lv_aload_n hx hb dX10_close_21 rfl (lv_at hl 1 rfl) ?_
    obtain ⟨v22, e22, h⟩ := Option.bind_eq_some_iff.mp h
    refine g_geti hx hb hts inlX10 hown hK hG (by rfl) 4 (by decide) qF_X10_54 e22 dX10_close_22 ?_
    refine lv_iconst (v := (2 : Int32)) hx hb dX10_close_25 (by decide) ?_
    refine lv_isub hx hb dX10_close_26 ?_
    refine lv_istore_n (lv' := [(2, .int (v22 - (2 : Int32))), (1, .ref r1), (0, .ref a0)]) hx hb dX10_close_27 rfl hl (by decide) rfl (fun ls hl => ?_)
    exact h28 g_N G18 a0 (some r1) (v22 - (2 : Int32)) _ _ hG _ (lv_sub hl [2, 1, 0] rfl) h
set_option maxRecDepth 20000 in
set_option maxHeartbeats 4000000 in
theorem m_X10_lost (l : Launch) (dd : va_G) (cT : Nat → ClassId) (lo : Nat → Prop) (G : gH) (a0 : Nat) (a1 : Nat) {rz : Int32} {Gz : gH} (h : f_X10_lost G a0 a1 = some (Gz, rz)) : Met l yX10_lost (Cond.code yX10_lost cX10_lost 6 (some .int) :: wsL_law) (g_rm 1 23 0 0) (va_Pc [.ref a0, .ref a1] (g_Pre lo dd cT G)) (va_Qi (g_is rz Gz) (g_Pre lo dd cT) (g_A lo)) 0 0 (g_A lo) := by
  refine g_start RX10 rfl (by decide) (Nat.le_of_ble_eq_true rfl) ?_
  intro p e s m below meth c hx hb hr hlocks hml hown hnm hts hK hG hlo ls hl
  have hl : lv_has ls 6 [(0, .ref a0), (1, .ref a1)] := hl
  have hG : g_S lo dd cT s s.heap [] G := hG
  have h31 : ∀ n31 : Nat, ∀ (G : gH) (ba0 : Nat) (ba1 : Nat) (bx2 : Int32) (bx3 : Int32), ∀ (H : Heap) (locs : List Loc), g_S lo dd cT s H locs G → ∀ ls : Array Slot, lv_has ls 6 [(0, .ref ba0), (1, .ref ba1), (2, .int bx2), (3, .int bx3)] → f_X10_lost_L31 n31 G ba0 ba1 bx2 bx3 = some (Gz, rz) → W p l e (g_rm 1 23 0 0) s m ([.ref a0, .ref a1] : List Value).toArray below meth c H locs 0 0 (MQ below (va_Qi (g_is rz Gz) (g_Pre lo dd cT) (g_A lo)) ([.ref a0, .ref a1] : List Value).toArray s 0 0 (g_A lo)) (F0 m 31 ls []) := by
    intro n31
    induction n31 with
    | zero =>
      intro G ba0 ba1 bx2 bx3 H locs hG ls hl h
      cases (show (none : Option (gH × Int32)) = some (Gz, rz) from h)
    | succ n31 ih31 =>
      have h81 : ∀ n81 : Nat, ∀ (G : gH) (ba0 : Nat) (ba1 : Nat) (bx2 : Int32) (bx3 : Int32) (bx4 : Int32) (bx5 : Int32), ∀ (H : Heap) (locs : List Loc), g_S lo dd cT s H locs G → ∀ ls : Array Slot, lv_has ls 6 [(0, .ref ba0), (1, .ref ba1), (2, .int bx2), (3, .int bx3), (4, .int bx4), (5, .int bx5)] → f_X10_lost_L81 (f_X10_lost_L31 n31) n81 G ba0 ba1 bx2 bx3 bx4 bx5 = some (Gz, rz) → W p l e (g_rm 1 23 0 0) s m ([.ref a0, .ref a1] : List Value).toArray below meth c H locs 0 0 (MQ below (va_Qi (g_is rz Gz) (g_Pre lo dd cT) (g_A lo)) ([.ref a0, .ref a1] : List Value).toArray s 0 0 (g_A lo)) (F0 m 81 ls []) := by
        intro n81
        induction n81 with
        | zero =>
          intro G ba0 ba1 bx2 bx3 bx4 bx5 H locs hG ls hl h
          cases (show (none : Option (gH × Int32)) = some (Gz, rz) from h)
        | succ n81 ih81 =>
          intro G ba0 ba1 bx2 bx3 bx4 bx5 H locs hG ls hl h
          rw [f_X10_lost_L81] at h
          refine lv_iload hx hb dX10_lost_81 (lv_at hl 5 rfl) ?_
          refine lv_aload_n hx hb dX10_lost_83 rfl (lv_at hl 0 rfl) ?_
          obtain ⟨v84, e84, h⟩ := Option.bind_eq_some_iff.mp h
          refine g_geti hx hb hts inlX10 hown hK hG (by rfl) 5 (by decide) qF_X10_114 e84 dX10_lost_84 ?_
          refine lv_icmp_ge (tgt := 163) hx hb dX10_lost_87 (by decide) (fun c87 => ?_) (fun c87 => ?_)
          · rw [if_pos c87] at h
            refine lv_iload hx hb dX10_lost_163 (lv_at hl 4 rfl) ?_
            refine lv_if_ne (tgt := 180) hx hb dX10_lost_165 (by decide) (fun c165 => ?_) (fun c165 => ?_)
            · rw [if_neg c165] at h
              refine lv_iinc (v := (bx3 + (1 : Int32))) (lv' := [(3, .int (bx3 + (1 : Int32))), (0, .ref ba0), (1, .ref ba1), (2, .int bx2), (4, .int bx4), (5, .int bx5)]) hx hb dX10_lost_180 hl (k := 3) rfl rfl (by decide) rfl (fun ls hl => ?_)
              refine lv_goto (tgt := 31) hx hb dX10_lost_183 (by decide) ?_
              exact ih31 G ba0 ba1 bx2 (bx3 + (1 : Int32)) _ _ hG _ (lv_sub hl [1, 2, 3, 0] rfl) h
            · rw [if_pos c165] at h
              refine lv_aload_n hx hb dX10_lost_168 rfl (lv_at hl 1 rfl) ?_
              refine lv_iload_n hx hb dX10_lost_169 rfl (lv_at hl 2 rfl) ?_
              refine lv_iinc (v := (bx2 + (1 : Int32))) (lv' := [(2, .int (bx2 + (1 : Int32))), (0, .ref ba0), (1, .ref ba1), (3, .int bx3), (4, .int bx4), (5, .int bx5)]) hx hb dX10_lost_170 hl (k := 2) rfl rfl (by decide) rfl (fun ls hl => ?_)
              refine lv_aload_n hx hb dX10_lost_173 rfl (lv_at hl 1 rfl) ?_
              obtain ⟨v174, e174, h⟩ := Option.bind_eq_some_iff.mp h
              refine g_getr hx hb hts inlX10 hown hK hG (by rfl) 15 (by decide) qF_X10_38 e174 dX10_lost_174 ?_
              refine lv_iload_n hx hb dX10_lost_177 rfl (lv_at hl 3 rfl) ?_
              obtain ⟨v178, e178, h⟩ := Option.bind_eq_some_iff.mp h
              refine g_rald_row hx hb hK hG (t := 6) rfl e178 dX10_lost_178 ?_
              rcases v178 with _ | r178
              · rw [g_nul_none] at h
                obtain ⟨G179, e179, h⟩ := Option.bind_eq_some_iff.mp h
                refine g_rastN_row (t := 6) hx hb hK hG rfl e179 dX10_lost_179 (fun H locs hG => ?_)
                refine lv_iinc (v := (bx3 + (1 : Int32))) (lv' := [(3, .int (bx3 + (1 : Int32))), (2, .int (bx2 + (1 : Int32))), (0, .ref ba0), (1, .ref ba1), (4, .int bx4), (5, .int bx5)]) hx hb dX10_lost_180 hl (k := 3) rfl rfl (by decide) rfl (fun ls hl => ?_)
                refine lv_goto (tgt := 31) hx hb dX10_lost_183 (by decide) ?_
                exact ih31 G179 ba0 ba1 (bx2 + (1 : Int32)) (bx3 + (1 : Int32)) _ _ hG _ (lv_sub hl [2, 3, 1, 0] rfl) h
              · rw [g_nul_some] at h
                obtain ⟨u179, o179, h⟩ := Option.bind_eq_some_iff.mp h
                obtain ⟨G179, e179, h⟩ := Option.bind_eq_some_iff.mp h
                refine g_rast_row (t := 6) (ci := 13) hx hb hK hG rfl rfl o179 e179 dX10_lost_179 (fun H locs hG => ?_)
                refine lv_iinc (v := (bx3 + (1 : Int32))) (lv' := [(3, .int (bx3 + (1 : Int32))), (2, .int (bx2 + (1 : Int32))), (0, .ref ba0), (1, .ref ba1), (4, .int bx4), (5, .int bx5)]) hx hb dX10_lost_180 hl (k := 3) rfl rfl (by decide) rfl (fun ls hl => ?_)
                refine lv_goto (tgt := 31) hx hb dX10_lost_183 (by decide) ?_
                exact ih31 G179 ba0 ba1 (bx2 + (1 : Int32)) (bx3 + (1 : Int32)) _ _ hG _ (lv_sub hl [2, 3, 1, 0] rfl) h
          · rw [if_neg c87] at h
            refine lv_iload hx hb dX10_lost_90 (lv_at hl 4 rfl) ?_
            refine lv_if_ne (tgt := 150) hx hb dX10_lost_92 (by decide) (fun c92 => ?_) (fun c92 => ?_)
            · rw [if_neg c92] at h
              refine lv_iconst (v := (1 : Int32)) hx hb dX10_lost_150 (by decide) ?_
              refine lv_goto (tgt := 155) hx hb dX10_lost_151 (by decide) ?_
              refine lv_istore (lv' := [(4, .int (1 : Int32)), (0, .ref ba0), (1, .ref ba1), (2, .int bx2), (3, .int bx3), (5, .int bx5)]) hx hb dX10_lost_155 hl (by decide) rfl (fun ls hl => ?_)
              refine lv_iinc (v := (bx5 + (1 : Int32))) (lv' := [(5, .int (bx5 + (1 : Int32))), (4, .int (1 : Int32)), (0, .ref ba0), (1, .ref ba1), (2, .int bx2), (3, .int bx3)]) hx hb dX10_lost_157 hl (k := 5) rfl rfl (by decide) rfl (fun ls hl => ?_)
              refine lv_goto (tgt := 81) hx hb dX10_lost_160 (by decide) ?_
              exact ih81 G ba0 ba1 bx2 bx3 (1 : Int32) (bx5 + (1 : Int32)) _ _ hG _ (lv_sub hl [2, 3, 4, 5, 1, 0] rfl) h
            · rw [if_pos c92] at h
              refine lv_aload_n hx hb dX10_lost_95 rfl (lv_at hl 0 rfl) ?_
              obtain ⟨v96, e96, h⟩ := Option.bind_eq_some_iff.mp h
              refine g_getr hx hb hts inlX10 hown hK hG (by rfl) 15 (by decide) qF_X10_38 e96 dX10_lost_96 ?_
              refine lv_iload hx hb dX10_lost_99 (lv_at hl 5 rfl) ?_
              obtain ⟨v101, e101, h⟩ := Option.bind_eq_some_iff.mp h
              refine g_rald_row hx hb hK hG (t := 6) rfl e101 dX10_lost_101 ?_
              rcases v101 with _ | r101
              · rw [g_nul_none] at h
                cases h
              · rw [g_nul_some] at h
                obtain ⟨v102, e102, h⟩ := Option.bind_eq_some_iff.mp h
                refine g_getiN hx hb hts inlX13 hown hK hG (by rfl) 5 (by decide) (List.mem_of_getElem? (i := 39) rfl) e102 dX10_lost_102 ?_
                refine lv_aload_n hx hb dX10_lost_105 rfl (lv_at hl 0 rfl) ?_
                obtain ⟨v106, e106, h⟩ := Option.bind_eq_some_iff.mp h
                refine g_geti hx hb hts inlX10 hown hK hG (by rfl) 4 (by decide) qF_X10_54 e106 dX10_lost_106 ?_
                refine lv_iconst (v := (1 : Int32)) hx hb dX10_lost_109 (by decide) ?_
                refine lv_isub hx hb dX10_lost_110 ?_
                refine lv_icmp_ne (tgt := 154) hx hb dX10_lost_111 (by decide) (fun c111 => ?_) (fun c111 => ?_)
                · rw [if_neg c111] at h
                  refine lv_iconst (v := (0 : Int32)) hx hb dX10_lost_154 (by decide) ?_
                  refine lv_istore (lv' := [(4, .int (0 : Int32)), (0, .ref ba0), (1, .ref ba1), (2, .int bx2), (3, .int bx3), (5, .int bx5)]) hx hb dX10_lost_155 hl (by decide) rfl (fun ls hl => ?_)
                  refine lv_iinc (v := (bx5 + (1 : Int32))) (lv' := [(5, .int (bx5 + (1 : Int32))), (4, .int (0 : Int32)), (0, .ref ba0), (1, .ref ba1), (2, .int bx2), (3, .int bx3)]) hx hb dX10_lost_157 hl (k := 5) rfl rfl (by decide) rfl (fun ls hl => ?_)
                  refine lv_goto (tgt := 81) hx hb dX10_lost_160 (by decide) ?_
                  exact ih81 G ba0 ba1 bx2 bx3 (0 : Int32) (bx5 + (1 : Int32)) _ _ hG _ (lv_sub hl [2, 3, 4, 5, 1, 0] rfl) h
                · rw [if_pos c111] at h
                  refine lv_aload_n hx hb dX10_lost_114 rfl (lv_at hl 0 rfl) ?_
                  obtain ⟨v115, e115, h⟩ := Option.bind_eq_some_iff.mp h
                  refine g_getr hx hb hts inlX10 hown hK hG (by rfl) 15 (by decide) qF_X10_38 e115 dX10_lost_115 ?_
                  refine lv_iload hx hb dX10_lost_118 (lv_at hl 5 rfl) ?_
                  obtain ⟨v120, e120, h⟩ := Option.bind_eq_some_iff.mp h
                  refine g_rald_row hx hb hK hG (t := 6) rfl e120 dX10_lost_120 ?_
                  rcases v120 with _ | r120
                  · rw [g_nul_none] at h
                    cases h
                  · rw [g_nul_some] at h
                    obtain ⟨v121, e121, h⟩ := Option.bind_eq_some_iff.mp h
                    refine g_getiN hx hb hts inlX13 hown hK hG (by rfl) 0 (by decide) (List.mem_of_getElem? (i := 34) rfl) e121 dX10_lost_121 ?_
                    refine lv_aload_n hx hb dX10_lost_124 rfl (lv_at hl 0 rfl) ?_
                    obtain ⟨v125, e125, h⟩ := Option.bind_eq_some_iff.mp h
                    refine g_getr hx hb hts inlX10 hown hK hG (by rfl) 15 (by decide) qF_X10_38 e125 dX10_lost_125 ?_
                    refine lv_iload_n hx hb dX10_lost_128 rfl (lv_at hl 3 rfl) ?_
                    obtain ⟨v129, e129, h⟩ := Option.bind_eq_some_iff.mp h
                    refine g_rald_row hx hb hK hG (t := 6) rfl e129 dX10_lost_129 ?_
                    rcases v129 with _ | r129
                    · rw [g_nul_none] at h
                      cases h
                    · rw [g_nul_some] at h
                      obtain ⟨v130, e130, h⟩ := Option.bind_eq_some_iff.mp h
                      refine g_getiN hx hb hts inlX13 hown hK hG (by rfl) 0 (by decide) (List.mem_of_getElem? (i := 34) rfl) e130 dX10_lost_130 ?_
                      refine lv_icmp_ne (tgt := 154) hx hb dX10_lost_133 (by decide) (fun c133 => ?_) (fun c133 => ?_)
                      · rw [if_neg c133] at h
                        refine lv_iconst (v := (0 : Int32)) hx hb dX10_lost_154 (by decide) ?_
                        refine lv_istore (lv' := [(4, .int (0 : Int32)), (0, .ref ba0), (1, .ref ba1), (2, .int bx2), (3, .int bx3), (5, .int bx5)]) hx hb dX10_lost_155 hl (by decide) rfl (fun ls hl => ?_)
                        refine lv_iinc (v := (bx5 + (1 : Int32))) (lv' := [(5, .int (bx5 + (1 : Int32))), (4, .int (0 : Int32)), (0, .ref ba0), (1, .ref ba1), (2, .int bx2), (3, .int bx3)]) hx hb dX10_lost_157 hl (k := 5) rfl rfl (by decide) rfl (fun ls hl => ?_)
                        refine lv_goto (tgt := 81) hx hb dX10_lost_160 (by decide) ?_
                        exact ih81 G ba0 ba1 bx2 bx3 (0 : Int32) (bx5 + (1 : Int32)) _ _ hG _ (lv_sub hl [2, 3, 4, 5, 1, 0] rfl) h
                      · rw [if_pos c133] at h
                        refine lv_aload_n hx hb dX10_lost_136 rfl (lv_at hl 0 rfl) ?_
                        refine lv_aload_n hx hb dX10_lost_137 rfl (lv_at hl 0 rfl) ?_
                        obtain ⟨v138, e138, h⟩ := Option.bind_eq_some_iff.mp h
                        refine g_getr hx hb hts inlX10 hown hK hG (by rfl) 15 (by decide) qF_X10_38 e138 dX10_lost_138 ?_
                        refine lv_iload hx hb dX10_lost_141 (lv_at hl 5 rfl) ?_
                        obtain ⟨v143, e143, h⟩ := Option.bind_eq_some_iff.mp h
                        refine g_rald_row hx hb hK hG (t := 6) rfl e143 dX10_lost_143 ?_
                        rcases v143 with _ | r143
                        · rw [g_nul_none] at h
                          cases h
                        · rw [g_nul_some] at h
                          obtain ⟨u144, i144, h⟩ := Option.bind_eq_some_iff.mp h
                          obtain ⟨v144, e144, h⟩ := Option.bind_eq_some_iff.mp h
                          refine g_cVi (As := [.ref r143]) (rest := []) (n := 1) hx hb hml hown hts hK hlo hG (m_X10_reads_ l dd cT lo G ba0 r143 e144) qM_X10_166 qI_yX10_reads_ qS_X10_yX10_reads_ qN_X10 qC_yX10_reads_ (by decide +kernel) ⟨Nat.le_of_ble_eq_true rfl, Nat.le_of_ble_eq_true rfl⟩ (by rfl) i144 rfl hl.1 rfl (Nat.le_of_ble_eq_true rfl) dX10_lost_144 ⟨Nat.le_of_ble_eq_true rfl, Nat.le_of_ble_eq_true rfl⟩ (fun H locs hG => ?_)
                          refine lv_if_eq (tgt := 154) hx hb dX10_lost_147 (by decide) (fun c147 => ?_) (fun c147 => ?_)
                          · rw [if_pos c147] at h
                            refine lv_iconst (v := (0 : Int32)) hx hb dX10_lost_154 (by decide) ?_
                            refine lv_istore (lv' := [(4, .int (0 : Int32)), (0, .ref ba0), (1, .ref ba1), (2, .int bx2), (3, .int bx3), (5, .int bx5)]) hx hb dX10_lost_155 hl (by decide) rfl (fun ls hl => ?_)
                            refine lv_iinc (v := (bx5 + (1 : Int32))) (lv' := [(5, .int (bx5 + (1 : Int32))), (4, .int (0 : Int32)), (0, .ref ba0), (1, .ref ba1), (2, .int bx2), (3, .int bx3)]) hx hb dX10_lost_157 hl (k := 5) rfl rfl (by decide) rfl (fun ls hl => ?_)
                            refine lv_goto (tgt := 81) hx hb dX10_lost_160 (by decide) ?_
                            exact ih81 G ba0 ba1 bx2 bx3 (0 : Int32) (bx5 + (1 : Int32)) _ _ hG _ (lv_sub hl [2, 3, 4, 5, 1, 0] rfl) h
                          · rw [if_neg c147] at h
                            refine lv_iconst (v := (1 : Int32)) hx hb dX10_lost_150 (by decide) ?_
                            refine lv_goto (tgt := 155) hx hb dX10_lost_151 (by decide) ?_
                            refine lv_istore (lv' := [(4, .int (1 : Int32)), (0, .ref ba0), (1, .ref ba1), (2, .int bx2), (3, .int bx3), (5, .int bx5)]) hx hb dX10_lost_155 hl (by decide) rfl (fun ls hl => ?_)
                            refine lv_iinc (v := (bx5 + (1 : Int32))) (lv' := [(5, .int (bx5 + (1 : Int32))), (4, .int (1 : Int32)), (0, .ref ba0), (1, .ref ba1), (2, .int bx2), (3, .int bx3)]) hx hb dX10_lost_157 hl (k := 5) rfl rfl (by decide) rfl (fun ls hl => ?_)
                            refine lv_goto (tgt := 81) hx hb dX10_lost_160 (by decide) ?_
                            exact ih81 G ba0 ba1 bx2 bx3 (1 : Int32) (bx5 + (1 : Int32)) _ _ hG _ (lv_sub hl [2, 3, 4, 5, 1, 0] rfl) h
      intro G ba0 ba1 bx2 bx3 H locs hG ls hl h
      rw [f_X10_lost_L31] at h
      refine lv_iload_n hx hb dX10_lost_31 rfl (lv_at hl 3 rfl) ?_
      refine lv_aload_n hx hb dX10_lost_32 rfl (lv_at hl 0 rfl) ?_
      obtain ⟨v33, e33, h⟩ := Option.bind_eq_some_iff.mp h
      refine g_geti hx hb hts inlX10 hown hK hG (by rfl) 5 (by decide) qF_X10_114 e33 dX10_lost_33 ?_
      refine lv_icmp_ge (tgt := 186) hx hb dX10_lost_36 (by decide) (fun c36 => ?_) (fun c36 => ?_)
      · rw [if_pos c36] at h
        refine lv_iload_n hx hb dX10_lost_186 rfl (lv_at hl 2 rfl) ?_
        obtain ⟨rfl, rfl⟩ := Prod.mk.inj (Option.some.inj h)
        exact g_iret hx hb hr hlocks hK hlo hG ⟨rfl, rfl⟩ dX10_lost_187
      · rw [if_neg c36] at h
        refine lv_aload_n hx hb dX10_lost_39 rfl (lv_at hl 0 rfl) ?_
        obtain ⟨v40, e40, h⟩ := Option.bind_eq_some_iff.mp h
        refine g_getr hx hb hts inlX10 hown hK hG (by rfl) 15 (by decide) qF_X10_38 e40 dX10_lost_40 ?_
        refine lv_iload_n hx hb dX10_lost_43 rfl (lv_at hl 3 rfl) ?_
        obtain ⟨v44, e44, h⟩ := Option.bind_eq_some_iff.mp h
        refine g_rald_row hx hb hK hG (t := 6) rfl e44 dX10_lost_44 ?_
        rcases v44 with _ | r44
        · rw [g_nul_none] at h
          cases h
        · rw [g_nul_some] at h
          obtain ⟨v45, e45, h⟩ := Option.bind_eq_some_iff.mp h
          refine g_getiN hx hb hts inlX13 hown hK hG (by rfl) 5 (by decide) (List.mem_of_getElem? (i := 39) rfl) e45 dX10_lost_45 ?_
          refine lv_aload_n hx hb dX10_lost_48 rfl (lv_at hl 0 rfl) ?_
          obtain ⟨v49, e49, h⟩ := Option.bind_eq_some_iff.mp h
          refine g_geti hx hb hts inlX10 hown hK hG (by rfl) 4 (by decide) qF_X10_54 e49 dX10_lost_49 ?_
          refine lv_iconst (v := (1 : Int32)) hx hb dX10_lost_52 (by decide) ?_
          refine lv_isub hx hb dX10_lost_53 ?_
          refine lv_icmp_ne (tgt := 180) hx hb dX10_lost_54 (by decide) (fun c54 => ?_) (fun c54 => ?_)
          · rw [if_neg c54] at h
            refine lv_iinc (v := (bx3 + (1 : Int32))) (lv' := [(3, .int (bx3 + (1 : Int32))), (0, .ref ba0), (1, .ref ba1), (2, .int bx2)]) hx hb dX10_lost_180 hl (k := 3) rfl rfl (by decide) rfl (fun ls hl => ?_)
            refine lv_goto (tgt := 31) hx hb dX10_lost_183 (by decide) ?_
            exact ih31 G ba0 ba1 bx2 (bx3 + (1 : Int32)) _ _ hG _ (lv_sub hl [1, 2, 3, 0] rfl) h
          · rw [if_pos c54] at h
            refine lv_aload_n hx hb dX10_lost_57 rfl (lv_at hl 0 rfl) ?_
            refine lv_aload_n hx hb dX10_lost_58 rfl (lv_at hl 0 rfl) ?_
            obtain ⟨v59, e59, h⟩ := Option.bind_eq_some_iff.mp h
            refine g_getr hx hb hts inlX10 hown hK hG (by rfl) 15 (by decide) qF_X10_38 e59 dX10_lost_59 ?_
            refine lv_iload_n hx hb dX10_lost_62 rfl (lv_at hl 3 rfl) ?_
            obtain ⟨v63, e63, h⟩ := Option.bind_eq_some_iff.mp h
            refine g_rald_row hx hb hK hG (t := 6) rfl e63 dX10_lost_63 ?_
            rcases v63 with _ | r63
            · rw [g_nul_none] at h
              cases h
            · rw [g_nul_some] at h
              obtain ⟨u64, i64, h⟩ := Option.bind_eq_some_iff.mp h
              obtain ⟨v64, e64, h⟩ := Option.bind_eq_some_iff.mp h
              refine g_cVi (As := [.ref r63]) (rest := []) (n := 1) hx hb hml hown hts hK hlo hG (m_X10_reads_ l dd cT lo G ba0 r63 e64) qM_X10_166 qI_yX10_reads_ qS_X10_yX10_reads_ qN_X10 qC_yX10_reads_ (by decide +kernel) ⟨Nat.le_of_ble_eq_true rfl, Nat.le_of_ble_eq_true rfl⟩ (by rfl) i64 rfl hl.1 rfl (Nat.le_of_ble_eq_true rfl) dX10_lost_64 ⟨Nat.le_of_ble_eq_true rfl, Nat.le_of_ble_eq_true rfl⟩ (fun H locs hG => ?_)
              refine lv_if_ne (tgt := 73) hx hb dX10_lost_67 (by decide) (fun c67 => ?_) (fun c67 => ?_)
              · rw [if_neg c67] at h
                refine lv_iconst (v := (0 : Int32)) hx hb dX10_lost_73 (by decide) ?_
                refine lv_istore (lv' := [(4, .int (0 : Int32)), (0, .ref ba0), (1, .ref ba1), (2, .int bx2), (3, .int bx3)]) hx hb dX10_lost_74 hl (by decide) rfl (fun ls hl => ?_)
                refine lv_iload_n hx hb dX10_lost_76 rfl (lv_at hl 4 rfl) ?_
                refine lv_iconst (v := (1 : Int32)) hx hb dX10_lost_77 (by decide) ?_
                refine lv_iadd hx hb dX10_lost_78 ?_
                refine lv_istore (lv' := [(5, .int (bx3 + (1 : Int32))), (4, .int (0 : Int32)), (0, .ref ba0), (1, .ref ba1), (2, .int bx2), (3, .int bx3)]) hx hb dX10_lost_79 hl (by decide) rfl (fun ls hl => ?_)
                exact h81 g_N G ba0 ba1 bx2 bx3 (0 : Int32) (bx3 + (1 : Int32)) _ _ hG _ (lv_sub hl [2, 3, 4, 5, 1, 0] rfl) h
              · rw [if_pos c67] at h
                refine lv_goto (tgt := 180) hx hb dX10_lost_70 (by decide) ?_
                refine lv_iinc (v := (bx3 + (1 : Int32))) (lv' := [(3, .int (bx3 + (1 : Int32))), (0, .ref ba0), (1, .ref ba1), (2, .int bx2)]) hx hb dX10_lost_180 hl (k := 3) rfl rfl (by decide) rfl (fun ls hl => ?_)
                refine lv_goto (tgt := 31) hx hb dX10_lost_183 (by decide) ?_
                exact ih31 G ba0 ba1 bx2 (bx3 + (1 : Int32)) _ _ hG _ (lv_sub hl [1, 2, 3, 0] rfl) h
  unfold f_X10_lost at h
  refine lv_iconst (v := (0 : Int32)) hx hb dX10_lost_0 (by decide) ?_
  refine lv_istore_n (lv' := [(2, .int (0 : Int32)), (0, .ref a0), (1, .ref a1)]) hx hb dX10_lost_1 rfl hl (by decide) rfl (fun ls hl => ?_)
  refine lv_aload_n hx hb dX10_lost_2 rfl (lv_at hl 1 rfl) ?_
  obtain ⟨v3, e3, h⟩ := Option.bind_eq_some_iff.mp h
  refine g_geti hx hb hts inlX10 hown hK hG (by rfl) 4 (by decide) qF_X10_54 e3 dX10_lost_3 ?_
  refine lv_if_eq (tgt := 27) hx hb dX10_lost_6 (by decide) (fun c6 => ?_) (fun c6 => ?_)
  · rw [if_pos c6] at h
    refine lv_iconst (v := (0 : Int32)) hx hb dX10_lost_27 (by decide) ?_
    obtain ⟨rfl, rfl⟩ := Prod.mk.inj (Option.some.inj h)
    exact g_iret hx hb hr hlocks hK hlo hG ⟨rfl, rfl⟩ dX10_lost_28
  · rw [if_neg c6] at h
    refine lv_aload_n hx hb dX10_lost_9 rfl (lv_at hl 1 rfl) ?_
    obtain ⟨v10, e10, h⟩ := Option.bind_eq_some_iff.mp h
    refine g_getr hx hb hts inlX10 hown hK hG (by rfl) 16 (by decide) qF_X10_43 e10 dX10_lost_10 ?_
    refine lv_aload_n hx hb dX10_lost_13 rfl (lv_at hl 1 rfl) ?_
    obtain ⟨v14, e14, h⟩ := Option.bind_eq_some_iff.mp h
    refine g_geti hx hb hts inlX10 hown hK hG (by rfl) 4 (by decide) qF_X10_54 e14 dX10_lost_14 ?_
    refine lv_iconst (v := (1 : Int32)) hx hb dX10_lost_17 (by decide) ?_
    refine lv_isub hx hb dX10_lost_18 ?_
    obtain ⟨v19, e19, h⟩ := Option.bind_eq_some_iff.mp h
    refine g_rald_row hx hb hK hG (t := 5) rfl e19 dX10_lost_19 ?_
    rcases v19 with _ | r19
    · rw [g_nul_none] at h
      cases h
    · rw [g_nul_some] at h
      obtain ⟨v20, e20, h⟩ := Option.bind_eq_some_iff.mp h
      refine g_getiN hx hb hts inlX12 hown hK hG (by rfl) 0 (by decide) (List.mem_of_getElem? (i := 30) rfl) e20 dX10_lost_20 ?_
      refine lv_iconst (v := (2 : Int32)) hx hb dX10_lost_23 (by decide) ?_
      refine lv_icmp_eq (tgt := 29) hx hb dX10_lost_24 (by decide) (fun c24 => ?_) (fun c24 => ?_)
      · rw [if_pos c24] at h
        refine lv_iconst (v := (0 : Int32)) hx hb dX10_lost_29 (by decide) ?_
        refine lv_istore_n (lv' := [(3, .int (0 : Int32)), (2, .int (0 : Int32)), (0, .ref a0), (1, .ref a1)]) hx hb dX10_lost_30 rfl hl (by decide) rfl (fun ls hl => ?_)
        exact h31 g_N G a0 a1 (0 : Int32) (0 : Int32) _ _ hG _ (lv_sub hl [2, 3, 1, 0] rfl) h
      · rw [if_neg c24] at h
        refine lv_iconst (v := (0 : Int32)) hx hb dX10_lost_27 (by decide) ?_
        obtain ⟨rfl, rfl⟩ := Prod.mk.inj (Option.some.inj h)
        exact g_iret hx hb hr hlocks hK hlo hG ⟨rfl, rfl⟩ dX10_lost_28
set_option maxRecDepth 20000 in
set_option maxHeartbeats 4000000 in
theorem m_X10_whyRecover (l : Launch) (dd : va_G) (cT : Nat → ClassId) (lo : Nat → Prop) (G : gH) (a0 : Nat) (x1 : Int32) {rz : Int32} (h : f_X10_whyRecover G a0 x1 = some rz) : Met l yX10_whyRecover (Cond.code yX10_whyRecover cX10_whyRecover 3 (some .int) :: wsL_law) (g_rm 2 44 0 0) (va_Pc [.ref a0, .int x1] (g_Pre lo dd cT G)) (va_Qi (g_is rz G) (g_Pre lo dd cT) (g_A lo)) 0 0 (g_A lo) := by
  refine g_start RX10 rfl (by decide) (Nat.le_of_ble_eq_true rfl) ?_
  intro p e s m below meth c hx hb hr hlocks hml hown hnm hts hK hG hlo ls hl
  have hl : lv_has ls 3 [(0, .ref a0), (1, .int x1)] := hl
  have hG : g_S lo dd cT s s.heap [] G := hG
  unfold f_X10_whyRecover at h
  refine lv_iload_n hx hb dX10_whyRecover_0 rfl (lv_at hl 1 rfl) ?_
  refine lv_if_ne (tgt := 6) hx hb dX10_whyRecover_1 (by decide) (fun c1 => ?_) (fun c1 => ?_)
  · rw [if_neg c1] at h
    refine lv_aload_n hx hb dX10_whyRecover_6 rfl (lv_at hl 0 rfl) ?_
    obtain ⟨v7, e7, h⟩ := Option.bind_eq_some_iff.mp h
    refine g_geti hx hb hts inlX10 hown hK hG (by rfl) 4 (by decide) qF_X10_54 e7 dX10_whyRecover_7 ?_
    refine lv_bipush (v := (12 : Int32)) hx hb dX10_whyRecover_10 (by decide) ?_
    refine lv_icmp_ne (tgt := 17) hx hb dX10_whyRecover_12 (by decide) (fun c12 => ?_) (fun c12 => ?_)
    · rw [if_neg c12] at h
      refine lv_iload_n hx hb dX10_whyRecover_17 rfl (lv_at hl 1 rfl) ?_
      refine lv_iconst (v := (3 : Int32)) hx hb dX10_whyRecover_18 (by decide) ?_
      refine lv_iadd hx hb dX10_whyRecover_19 ?_
      refine lv_iconst (v := (4 : Int32)) hx hb dX10_whyRecover_20 (by decide) ?_
      refine lv_idiv hx hb dX10_whyRecover_21 (by decide) ?_
      refine lv_istore_n (lv' := [(2, .int ((x1 + (3 : Int32)) / (4 : Int32))), (0, .ref a0), (1, .int x1)]) hx hb dX10_whyRecover_22 rfl hl (by decide) rfl (fun ls hl => ?_)
      refine lv_aload_n hx hb dX10_whyRecover_23 rfl (lv_at hl 1 rfl) ?_
      obtain ⟨v24, e24, h⟩ := Option.bind_eq_some_iff.mp h
      refine g_geti hx hb hts inlX10 hown hK hG (by rfl) 3 (by decide) qF_X10_60 e24 dX10_whyRecover_24 ?_
      refine lv_iload_n hx hb dX10_whyRecover_27 rfl (lv_at hl 0 rfl) ?_
      refine lv_iadd hx hb dX10_whyRecover_28 ?_
      refine lv_aload_n hx hb dX10_whyRecover_29 rfl (lv_at hl 1 rfl) ?_
      obtain ⟨u30, i30, h⟩ := Option.bind_eq_some_iff.mp h
      obtain ⟨v30, e30, h⟩ := Option.bind_eq_some_iff.mp h
      refine g_cVi (As := []) (rest := [.int (v24 + ((x1 + (3 : Int32)) / (4 : Int32)))]) (n := 0) hx hb hml hown hts hK hlo hG (m_X10_main l dd cT lo G a0 e30) qM_X10_67 qI_yX10_main qS_X10_yX10_main qN_X10 qC_yX10_main (by decide +kernel) ⟨Nat.le_of_ble_eq_true rfl, Nat.le_of_ble_eq_true rfl⟩ (by rfl) i30 rfl hl.1 rfl (Nat.le_of_ble_eq_true rfl) dX10_whyRecover_30 ⟨Nat.le_of_ble_eq_true rfl, Nat.le_of_ble_eq_true rfl⟩ (fun H locs hG => ?_)
      refine lv_icmp_le (tgt := 40) hx hb dX10_whyRecover_33 (by decide) (fun c33 => ?_) (fun c33 => ?_)
      · rw [if_pos c33] at h
        refine lv_aload_n hx hb dX10_whyRecover_40 rfl (lv_at hl 1 rfl) ?_
        refine lv_iload_n hx hb dX10_whyRecover_41 rfl (lv_at hl 0 rfl) ?_
        obtain ⟨u42, i42, h⟩ := Option.bind_eq_some_iff.mp h
        obtain ⟨v42, e42, h⟩ := Option.bind_eq_some_iff.mp h
        refine g_cVi (As := [.int ((x1 + (3 : Int32)) / (4 : Int32))]) (rest := []) (n := 1) hx hb hml hown hts hK hlo hG (m_X10_spares l dd cT lo G a0 ((x1 + (3 : Int32)) / (4 : Int32)) e42) qM_X10_71 qI_yX10_spares qS_X10_yX10_spares qN_X10 qC_yX10_spares (by decide +kernel) ⟨Nat.le_of_ble_eq_true rfl, Nat.le_of_ble_eq_true rfl⟩ (by rfl) i42 rfl hl.1 rfl (Nat.le_of_ble_eq_true rfl) dX10_whyRecover_42 ⟨Nat.le_of_ble_eq_true rfl, Nat.le_of_ble_eq_true rfl⟩ (fun H locs hG => ?_)
        refine lv_if_eq (tgt := 52) hx hb dX10_whyRecover_45 (by decide) (fun c45 => ?_) (fun c45 => ?_)
        · rw [if_pos c45] at h
          refine lv_iconst (v := (5 : Int32)) hx hb dX10_whyRecover_52 (by decide) ?_
          obtain rfl := Option.some.inj h
          exact g_iret hx hb hr hlocks hK hlo hG ⟨rfl, rfl⟩ dX10_whyRecover_53
        · rw [if_neg c45] at h
          refine lv_iconst (v := (0 : Int32)) hx hb dX10_whyRecover_48 (by decide) ?_
          refine lv_goto (tgt := 53) hx hb dX10_whyRecover_49 (by decide) ?_
          obtain rfl := Option.some.inj h
          exact g_iret hx hb hr hlocks hK hlo hG ⟨rfl, rfl⟩ dX10_whyRecover_53
      · rw [if_neg c33] at h
        refine lv_iconst (v := (4 : Int32)) hx hb dX10_whyRecover_36 (by decide) ?_
        refine lv_goto (tgt := 53) hx hb dX10_whyRecover_37 (by decide) ?_
        obtain rfl := Option.some.inj h
        exact g_iret hx hb hr hlocks hK hlo hG ⟨rfl, rfl⟩ dX10_whyRecover_53
    · rw [if_pos c12] at h
      refine lv_iconst (v := (3 : Int32)) hx hb dX10_whyRecover_15 (by decide) ?_
      obtain rfl := Option.some.inj h
      exact g_iret hx hb hr hlocks hK hlo hG ⟨rfl, rfl⟩ dX10_whyRecover_16
  · rw [if_pos c1] at h
    refine lv_iconst (v := (2 : Int32)) hx hb dX10_whyRecover_4 (by decide) ?_
    obtain rfl := Option.some.inj h
    exact g_iret hx hb hr hlocks hK hlo hG ⟨rfl, rfl⟩ dX10_whyRecover_5
set_option maxRecDepth 20000 in
set_option maxHeartbeats 4000000 in
theorem m_X10_use (l : Launch) (dd : va_G) (cT : Nat → ClassId) (lo : Nat → Prop) (G : gH) (a0 : Nat) (x1 : Int32) {rz : Int32} (h : f_X10_use G a0 x1 = some rz) : Met l yX10_use (Cond.code yX10_use cX10_use 2 (some .int) :: wsL_law) (g_rm 4 91 0 0) (va_Pc [.ref a0, .int x1] (g_Pre lo dd cT G)) (va_Qi (g_is rz G) (g_Pre lo dd cT) (g_A lo)) 0 0 (g_A lo) := by
  refine g_start RX10 rfl (by decide) (Nat.le_of_ble_eq_true rfl) ?_
  intro p e s m below meth c hx hb hr hlocks hml hown hnm hts hK hG hlo ls hl
  have hl : lv_has ls 2 [(0, .ref a0), (1, .int x1)] := hl
  have hG : g_S lo dd cT s s.heap [] G := hG
  have h19 : ∀ (ba0 : Nat) (bx1 : Int32), ∀ (H : Heap) (locs : List Loc), g_S lo dd cT s H locs G → ∀ ls : Array Slot, lv_has ls 2 [(0, .ref ba0), (1, .int bx1)] → f_X10_use_J19 G ba0 bx1 = some rz → W p l e (g_rm 4 91 0 0) s m ([.ref a0, .int x1] : List Value).toArray below meth c H locs 0 0 (MQ below (va_Qi (g_is rz G) (g_Pre lo dd cT) (g_A lo)) ([.ref a0, .int x1] : List Value).toArray s 0 0 (g_A lo)) (F0 m 19 ls []) := by
    intro ba0 bx1 H locs hG ls hl h
    unfold f_X10_use_J19 at h
    refine lv_aload_n hx hb dX10_use_19 rfl (lv_at hl 0 rfl) ?_
    obtain ⟨v20, e20, h⟩ := Option.bind_eq_some_iff.mp h
    refine g_getr hx hb hts inlX10 hown hK hG (by rfl) 7 (by decide) qF_X10_7 e20 dX10_use_20 ?_
    refine lv_iload_n hx hb dX10_use_23 rfl (lv_at hl 1 rfl) ?_
    obtain ⟨v24, e24, h⟩ := Option.bind_eq_some_iff.mp h
    refine g_iald hx hb hK hG e24 dX10_use_24 ?_
    refine lv_if_ne (tgt := 32) hx hb dX10_use_25 (by decide) (fun c25 => ?_) (fun c25 => ?_)
    · rw [if_neg c25] at h
      refine lv_aload_n hx hb dX10_use_32 rfl (lv_at hl 0 rfl) ?_
      obtain ⟨v33, e33, h⟩ := Option.bind_eq_some_iff.mp h
      refine g_getr hx hb hts inlX10 hown hK hG (by rfl) 7 (by decide) qF_X10_7 e33 dX10_use_33 ?_
      refine lv_iload_n hx hb dX10_use_36 rfl (lv_at hl 1 rfl) ?_
      obtain ⟨v37, e37, h⟩ := Option.bind_eq_some_iff.mp h
      refine g_iald hx hb hK hG e37 dX10_use_37 ?_
      refine lv_iconst (v := (1 : Int32)) hx hb dX10_use_38 (by decide) ?_
      refine lv_iadd hx hb dX10_use_39 ?_
      obtain rfl := Option.some.inj h
      exact g_iret hx hb hr hlocks hK hlo hG ⟨rfl, rfl⟩ dX10_use_40
    · rw [if_pos c25] at h
      refine lv_iconst (v := (0 : Int32)) hx hb dX10_use_28 (by decide) ?_
      refine lv_goto (tgt := 40) hx hb dX10_use_29 (by decide) ?_
      obtain rfl := Option.some.inj h
      exact g_iret hx hb hr hlocks hK hlo hG ⟨rfl, rfl⟩ dX10_use_40
  unfold f_X10_use at h
  refine lv_aload_n hx hb dX10_use_0 rfl (lv_at hl 0 rfl) ?_
  obtain ⟨v1, e1, h⟩ := Option.bind_eq_some_iff.mp h
  refine g_getr hx hb hts inlX10 hown hK hG (by rfl) 7 (by decide) qF_X10_7 e1 dX10_use_1 ?_
  refine lv_iload_n hx hb dX10_use_4 rfl (lv_at hl 1 rfl) ?_
  obtain ⟨v5, e5, h⟩ := Option.bind_eq_some_iff.mp h
  refine g_iald hx hb hK hG e5 dX10_use_5 ?_
  refine lv_if_eq (tgt := 19) hx hb dX10_use_6 (by decide) (fun c6 => ?_) (fun c6 => ?_)
  · rw [if_pos c6] at h
    exact h19 a0 x1 _ _ hG _ (lv_sub hl [0, 1] rfl) h
  · rw [if_neg c6] at h
    refine lv_aload_n hx hb dX10_use_9 rfl (lv_at hl 0 rfl) ?_
    obtain ⟨v10, e10, h⟩ := Option.bind_eq_some_iff.mp h
    refine g_getr hx hb hts inlX10 hown hK hG (by rfl) 7 (by decide) qF_X10_7 e10 dX10_use_10 ?_
    refine lv_iload_n hx hb dX10_use_13 rfl (lv_at hl 1 rfl) ?_
    obtain ⟨v14, e14, h⟩ := Option.bind_eq_some_iff.mp h
    refine g_iald hx hb hK hG e14 dX10_use_14 ?_
    refine lv_iconst (v := (1 : Int32)) hx hb dX10_use_15 (by decide) ?_
    refine lv_icmp_le (tgt := 41) hx hb dX10_use_16 (by decide) (fun c16 => ?_) (fun c16 => ?_)
    · rw [if_pos c16] at h
      refine lv_aload_n hx hb dX10_use_41 rfl (lv_at hl 0 rfl) ?_
      refine lv_aload_n hx hb dX10_use_42 rfl (lv_at hl 0 rfl) ?_
      obtain ⟨v43, e43, h⟩ := Option.bind_eq_some_iff.mp h
      refine g_getr hx hb hts inlX10 hown hK hG (by rfl) 14 (by decide) qF_X10_34 e43 dX10_use_43 ?_
      refine lv_iload_n hx hb dX10_use_46 rfl (lv_at hl 1 rfl) ?_
      obtain ⟨v47, e47, h⟩ := Option.bind_eq_some_iff.mp h
      refine g_rald_row hx hb hK hG (t := 6) rfl e47 dX10_use_47 ?_
      rcases v47 with _ | r47
      · rw [g_nul_none] at h
        cases h
      · rw [g_nul_some] at h
        obtain ⟨v48, e48, h⟩ := Option.bind_eq_some_iff.mp h
        refine g_getiN hx hb hts inlX13 hown hK hG (by rfl) 0 (by decide) (List.mem_of_getElem? (i := 34) rfl) e48 dX10_use_48 ?_
        refine lv_bipush (v := (12 : Int32)) hx hb dX10_use_51 (by decide) ?_
        obtain ⟨u53, i53, h⟩ := Option.bind_eq_some_iff.mp h
        obtain ⟨v53, e53, h⟩ := Option.bind_eq_some_iff.mp h
        refine g_cVq (As := [.int v48, .int (12 : Int32)]) (rest := []) (n := 2) hx hb hml hown hts hK hlo hG (m_X10_version l dd cT lo G a0 v48 (12 : Int32) e53) qM_X10_163 qI_yX10_version qS_X10_yX10_version qN_X10 qC_yX10_version (by decide +kernel) ⟨Nat.le_of_ble_eq_true rfl, Nat.le_of_ble_eq_true rfl⟩ (by rfl) i53 rfl hl.1 rfl (Nat.le_of_ble_eq_true rfl) dX10_use_53 ⟨Nat.le_of_ble_eq_true rfl, Nat.le_of_ble_eq_true rfl⟩ (fun H locs hG => ?_)
        rcases v53 with _ | r53
        · rw [g_nul_none] at h
          refine lv_aload_n hx hb dX10_use_56 rfl (lv_at hl 0 rfl) ?_
          obtain ⟨v57, e57, h⟩ := Option.bind_eq_some_iff.mp h
          refine g_getr hx hb hts inlX10 hown hK hG (by rfl) 14 (by decide) qF_X10_34 e57 dX10_use_57 ?_
          refine lv_iload_n hx hb dX10_use_60 rfl (lv_at hl 1 rfl) ?_
          obtain ⟨v61, e61, h⟩ := Option.bind_eq_some_iff.mp h
          refine g_rald_row hx hb hK hG (t := 6) rfl e61 dX10_use_61 ?_
          rcases v61 with _ | r61
          · rw [g_nul_none] at h
            refine lv_acmp_ne (rx := none) (ry := none) (tgt := 69) hx hb dX10_use_62 (by decide) (fun c62 => ?_) (fun c62 => ?_)
            · exact absurd rfl c62
            refine lv_iconst (v := (1 : Int32)) hx hb dX10_use_65 (by decide) ?_
            refine lv_goto (tgt := 70) hx hb dX10_use_66 (by decide) ?_
            obtain rfl := Option.some.inj h
            exact g_iret hx hb hr hlocks hK hlo hG ⟨rfl, rfl⟩ dX10_use_70
          · rw [g_nul_some] at h
            refine lv_acmp_ne (rx := none) (ry := (some r61)) (tgt := 69) hx hb dX10_use_62 (by decide) (fun c62 => ?_) (fun c62 => ?_)
            rotate_left
            · exact absurd c62 (by simp)
            refine lv_iconst (v := (2 : Int32)) hx hb dX10_use_69 (by decide) ?_
            obtain rfl := Option.some.inj h
            exact g_iret hx hb hr hlocks hK hlo hG ⟨rfl, rfl⟩ dX10_use_70
        · rw [g_nul_some] at h
          refine lv_aload_n hx hb dX10_use_56 rfl (lv_at hl 0 rfl) ?_
          obtain ⟨v57, e57, h⟩ := Option.bind_eq_some_iff.mp h
          refine g_getr hx hb hts inlX10 hown hK hG (by rfl) 14 (by decide) qF_X10_34 e57 dX10_use_57 ?_
          refine lv_iload_n hx hb dX10_use_60 rfl (lv_at hl 1 rfl) ?_
          obtain ⟨v61, e61, h⟩ := Option.bind_eq_some_iff.mp h
          refine g_rald_row hx hb hK hG (t := 6) rfl e61 dX10_use_61 ?_
          rcases v61 with _ | r61
          · rw [g_nul_none] at h
            refine lv_acmp_ne (rx := (some r53)) (ry := none) (tgt := 69) hx hb dX10_use_62 (by decide) (fun c62 => ?_) (fun c62 => ?_)
            rotate_left
            · exact absurd c62 (by simp)
            refine lv_iconst (v := (2 : Int32)) hx hb dX10_use_69 (by decide) ?_
            obtain rfl := Option.some.inj h
            exact g_iret hx hb hr hlocks hK hlo hG ⟨rfl, rfl⟩ dX10_use_70
          · rw [g_nul_some] at h
            refine lv_acmp_ne (rx := (some r53)) (ry := (some r61)) (tgt := 69) hx hb dX10_use_62 (by decide) (fun c62 => ?_) (fun c62 => ?_)
            · rw [if_neg (fun z => c62 (congrArg some z))] at h
              refine lv_iconst (v := (2 : Int32)) hx hb dX10_use_69 (by decide) ?_
              obtain rfl := Option.some.inj h
              exact g_iret hx hb hr hlocks hK hlo hG ⟨rfl, rfl⟩ dX10_use_70
            · rw [if_pos (Option.some.inj c62)] at h
              refine lv_iconst (v := (1 : Int32)) hx hb dX10_use_65 (by decide) ?_
              refine lv_goto (tgt := 70) hx hb dX10_use_66 (by decide) ?_
              obtain rfl := Option.some.inj h
              exact g_iret hx hb hr hlocks hK hlo hG ⟨rfl, rfl⟩ dX10_use_70
    · rw [if_neg c16] at h
      exact h19 a0 x1 _ _ hG _ (lv_sub hl [0, 1] rfl) h
set_option maxRecDepth 20000 in
set_option maxHeartbeats 4000000 in
theorem m_L_draw (l : Launch) (dd : va_G) (cT : Nat → ClassId) (lo : Nat → Prop) (G : gH) (a0 : Nat) (x1 : Int32) {rz : Int32} {Gz : gH} (h : f_L_draw G a0 x1 = some (Gz, rz)) : Met l yL_draw (Cond.code yL_draw cL_draw 2 (some .int) :: wsL_law) (g_rm 0 0 0 0) (va_Pc [.ref a0, .int x1] (g_Pre lo dd cT G)) (va_Qi (g_is rz Gz) (g_Pre lo dd cT) (g_A lo)) 0 0 (g_A lo) := by
  refine g_start RL rfl (by decide) (Nat.le_of_ble_eq_true rfl) ?_
  intro p e s m below meth c hx hb hr hlocks hml hown hnm hts hK hG hlo ls hl
  have hl : lv_has ls 2 [(0, .ref a0), (1, .int x1)] := hl
  have hG : g_S lo dd cT s s.heap [] G := hG
  unfold f_L_draw at h
  refine lv_aload_n hx hb dL_draw_0 rfl (lv_at hl 0 rfl) ?_
  refine lv_iconst (v := (0 : Int32)) hx hb dL_draw_1 (by decide) ?_
  refine lv_aload_n hx hb dL_draw_2 rfl (lv_at hl 0 rfl) ?_
  refine lv_iconst (v := (0 : Int32)) hx hb dL_draw_3 (by decide) ?_
  obtain ⟨v4, e4, h⟩ := Option.bind_eq_some_iff.mp h
  refine g_iald hx hb hK hG e4 dL_draw_4 ?_
  refine lv_ldc hx hb hown (hts _ qK_L_23) dL_draw_5 ?_
  refine lv_imul hx hb dL_draw_7 ?_
  refine lv_ldc hx hb hown (hts _ qK_L_24) dL_draw_8 ?_
  refine lv_iadd hx hb dL_draw_10 ?_
  obtain ⟨G11, e11, h⟩ := Option.bind_eq_some_iff.mp h
  refine g_iast hx hb hK hG e11 dL_draw_11 (fun H locs hG => ?_)
  refine lv_aload_n hx hb dL_draw_12 rfl (lv_at hl 0 rfl) ?_
  refine lv_iconst (v := (0 : Int32)) hx hb dL_draw_13 (by decide) ?_
  obtain ⟨v14, e14, h⟩ := Option.bind_eq_some_iff.mp h
  refine g_iald hx hb hK hG e14 dL_draw_14 ?_
  refine lv_bipush (v := (8 : Int32)) hx hb dL_draw_15 (by decide) ?_
  refine lv_iushr hx hb dL_draw_17 rfl ?_
  refine lv_iload_n hx hb dL_draw_18 rfl (lv_at hl 1 rfl) ?_
  obtain ⟨v19, e19, h⟩ := Option.bind_eq_some_iff.mp h
  obtain ⟨e19a, rfl⟩ := g_rem_spec e19
  refine lv_irem hx hb dL_draw_19 e19a ?_
  obtain ⟨rfl, rfl⟩ := Prod.mk.inj (Option.some.inj h)
  exact g_iret hx hb hr hlocks hK hlo hG ⟨rfl, rfl⟩ dL_draw_20
set_option maxRecDepth 20000 in
set_option maxHeartbeats 4000000 in
theorem m_J6_bitCount_0f7a4 (l : Launch) (dd : va_G) (cT : Nat → ClassId) (lo : Nat → Prop) (G : gH) (x0 : Int32) {rz : Int32} (h : f_J6_bitCount_0f7a4 G x0 = some rz) : Met l yJ6_bitCount_0f7a4 (Cond.code yJ6_bitCount_0f7a4 cJ6_bitCount_0f7a4 1 (some .int) :: wsL_law) (g_rm 0 0 0 0) (va_Pc [.int x0] (g_Pre lo dd cT G)) (va_Qi (g_is rz G) (g_Pre lo dd cT) (g_A lo)) 0 0 (g_A lo) := by
  refine g_start RJ6 rfl (by decide) (Nat.le_of_ble_eq_true rfl) ?_
  intro p e s m below meth c hx hb hr hlocks hml hown hnm hts hK hG hlo ls hl
  have hl : lv_has ls 1 [(0, .int x0)] := hl
  have hG : g_S lo dd cT s s.heap [] G := hG
  unfold f_J6_bitCount_0f7a4 at h
  refine lv_iload_n hx hb dJ6_bitCount_0f7a4_0 rfl (lv_at hl 0 rfl) ?_
  refine lv_iload_n hx hb dJ6_bitCount_0f7a4_1 rfl (lv_at hl 0 rfl) ?_
  refine lv_iconst (v := (1 : Int32)) hx hb dJ6_bitCount_0f7a4_2 (by decide) ?_
  refine lv_iushr hx hb dJ6_bitCount_0f7a4_3 rfl ?_
  refine lv_ldcw hx hb hown (hts _ qK_J6_265) dJ6_bitCount_0f7a4_4 ?_
  refine lv_iand hx hb dJ6_bitCount_0f7a4_7 ?_
  refine lv_isub hx hb dJ6_bitCount_0f7a4_8 ?_
  refine lv_istore_n (lv' := [(0, .int (x0 - ((x0.toUInt32 >>> ((1 : Int32).toUInt32 &&& Int32.toUInt32 31)).toInt32 &&& (1431655765 : Int32))))]) hx hb dJ6_bitCount_0f7a4_9 rfl hl (by decide) rfl (fun ls hl => ?_)
  refine lv_iload_n hx hb dJ6_bitCount_0f7a4_10 rfl (lv_at hl 0 rfl) ?_
  refine lv_ldcw hx hb hown (hts _ qK_J6_266) dJ6_bitCount_0f7a4_11 ?_
  refine lv_iand hx hb dJ6_bitCount_0f7a4_14 ?_
  refine lv_iload_n hx hb dJ6_bitCount_0f7a4_15 rfl (lv_at hl 0 rfl) ?_
  refine lv_iconst (v := (2 : Int32)) hx hb dJ6_bitCount_0f7a4_16 (by decide) ?_
  refine lv_iushr hx hb dJ6_bitCount_0f7a4_17 rfl ?_
  refine lv_ldcw hx hb hown (hts _ qK_J6_266) dJ6_bitCount_0f7a4_18 ?_
  refine lv_iand hx hb dJ6_bitCount_0f7a4_21 ?_
  refine lv_iadd hx hb dJ6_bitCount_0f7a4_22 ?_
  refine lv_istore_n (lv' := [(0, .int (((x0 - ((x0.toUInt32 >>> ((1 : Int32).toUInt32 &&& Int32.toUInt32 31)).toInt32 &&& (1431655765 : Int32))) &&& (858993459 : Int32)) + (((x0 - ((x0.toUInt32 >>> ((1 : Int32).toUInt32 &&& Int32.toUInt32 31)).toInt32 &&& (1431655765 : Int32))).toUInt32 >>> ((2 : Int32).toUInt32 &&& Int32.toUInt32 31)).toInt32 &&& (858993459 : Int32))))]) hx hb dJ6_bitCount_0f7a4_23 rfl hl (by decide) rfl (fun ls hl => ?_)
  refine lv_iload_n hx hb dJ6_bitCount_0f7a4_24 rfl (lv_at hl 0 rfl) ?_
  refine lv_iload_n hx hb dJ6_bitCount_0f7a4_25 rfl (lv_at hl 0 rfl) ?_
  refine lv_iconst (v := (4 : Int32)) hx hb dJ6_bitCount_0f7a4_26 (by decide) ?_
  refine lv_iushr hx hb dJ6_bitCount_0f7a4_27 rfl ?_
  refine lv_iadd hx hb dJ6_bitCount_0f7a4_28 ?_
  refine lv_ldcw hx hb hown (hts _ qK_J6_267) dJ6_bitCount_0f7a4_29 ?_
  refine lv_iand hx hb dJ6_bitCount_0f7a4_32 ?_
  refine lv_istore_n (lv' := [(0, .int (((((x0 - ((x0.toUInt32 >>> ((1 : Int32).toUInt32 &&& Int32.toUInt32 31)).toInt32 &&& (1431655765 : Int32))) &&& (858993459 : Int32)) + (((x0 - ((x0.toUInt32 >>> ((1 : Int32).toUInt32 &&& Int32.toUInt32 31)).toInt32 &&& (1431655765 : Int32))).toUInt32 >>> ((2 : Int32).toUInt32 &&& Int32.toUInt32 31)).toInt32 &&& (858993459 : Int32))) + ((((x0 - ((x0.toUInt32 >>> ((1 : Int32).toUInt32 &&& Int32.toUInt32 31)).toInt32 &&& (1431655765 : Int32))) &&& (858993459 : Int32)) + (((x0 - ((x0.toUInt32 >>> ((1 : Int32).toUInt32 &&& Int32.toUInt32 31)).toInt32 &&& (1431655765 : Int32))).toUInt32 >>> ((2 : Int32).toUInt32 &&& Int32.toUInt32 31)).toInt32 &&& (858993459 : Int32))).toUInt32 >>> ((4 : Int32).toUInt32 &&& Int32.toUInt32 31)).toInt32) &&& (252645135 : Int32)))]) hx hb dJ6_bitCount_0f7a4_33 rfl hl (by decide) rfl (fun ls hl => ?_)
  refine lv_iload_n hx hb dJ6_bitCount_0f7a4_34 rfl (lv_at hl 0 rfl) ?_
  refine lv_iload_n hx hb dJ6_bitCount_0f7a4_35 rfl (lv_at hl 0 rfl) ?_
  refine lv_bipush (v := (8 : Int32)) hx hb dJ6_bitCount_0f7a4_36 (by decide) ?_
  refine lv_iushr hx hb dJ6_bitCount_0f7a4_38 rfl ?_
  refine lv_iadd hx hb dJ6_bitCount_0f7a4_39 ?_
  refine lv_istore_n (lv' := [(0, .int ((((((x0 - ((x0.toUInt32 >>> ((1 : Int32).toUInt32 &&& Int32.toUInt32 31)).toInt32 &&& (1431655765 : Int32))) &&& (858993459 : Int32)) + (((x0 - ((x0.toUInt32 >>> ((1 : Int32).toUInt32 &&& Int32.toUInt32 31)).toInt32 &&& (1431655765 : Int32))).toUInt32 >>> ((2 : Int32).toUInt32 &&& Int32.toUInt32 31)).toInt32 &&& (858993459 : Int32))) + ((((x0 - ((x0.toUInt32 >>> ((1 : Int32).toUInt32 &&& Int32.toUInt32 31)).toInt32 &&& (1431655765 : Int32))) &&& (858993459 : Int32)) + (((x0 - ((x0.toUInt32 >>> ((1 : Int32).toUInt32 &&& Int32.toUInt32 31)).toInt32 &&& (1431655765 : Int32))).toUInt32 >>> ((2 : Int32).toUInt32 &&& Int32.toUInt32 31)).toInt32 &&& (858993459 : Int32))).toUInt32 >>> ((4 : Int32).toUInt32 &&& Int32.toUInt32 31)).toInt32) &&& (252645135 : Int32)) + ((((((x0 - ((x0.toUInt32 >>> ((1 : Int32).toUInt32 &&& Int32.toUInt32 31)).toInt32 &&& (1431655765 : Int32))) &&& (858993459 : Int32)) + (((x0 - ((x0.toUInt32 >>> ((1 : Int32).toUInt32 &&& Int32.toUInt32 31)).toInt32 &&& (1431655765 : Int32))).toUInt32 >>> ((2 : Int32).toUInt32 &&& Int32.toUInt32 31)).toInt32 &&& (858993459 : Int32))) + ((((x0 - ((x0.toUInt32 >>> ((1 : Int32).toUInt32 &&& Int32.toUInt32 31)).toInt32 &&& (1431655765 : Int32))) &&& (858993459 : Int32)) + (((x0 - ((x0.toUInt32 >>> ((1 : Int32).toUInt32 &&& Int32.toUInt32 31)).toInt32 &&& (1431655765 : Int32))).toUInt32 >>> ((2 : Int32).toUInt32 &&& Int32.toUInt32 31)).toInt32 &&& (858993459 : Int32))).toUInt32 >>> ((4 : Int32).toUInt32 &&& Int32.toUInt32 31)).toInt32) &&& (252645135 : Int32)).toUInt32 >>> ((8 : Int32).toUInt32 &&& Int32.toUInt32 31)).toInt32))]) hx hb dJ6_bitCount_0f7a4_40 rfl hl (by decide) rfl (fun ls hl => ?_)
  refine lv_iload_n hx hb dJ6_bitCount_0f7a4_41 rfl (lv_at hl 0 rfl) ?_
  refine lv_iload_n hx hb dJ6_bitCount_0f7a4_42 rfl (lv_at hl 0 rfl) ?_
  refine lv_bipush (v := (16 : Int32)) hx hb dJ6_bitCount_0f7a4_43 (by decide) ?_
  refine lv_iushr hx hb dJ6_bitCount_0f7a4_45 rfl ?_
  refine lv_iadd hx hb dJ6_bitCount_0f7a4_46 ?_
  refine lv_istore_n (lv' := [(0, .int (((((((x0 - ((x0.toUInt32 >>> ((1 : Int32).toUInt32 &&& Int32.toUInt32 31)).toInt32 &&& (1431655765 : Int32))) &&& (858993459 : Int32)) + (((x0 - ((x0.toUInt32 >>> ((1 : Int32).toUInt32 &&& Int32.toUInt32 31)).toInt32 &&& (1431655765 : Int32))).toUInt32 >>> ((2 : Int32).toUInt32 &&& Int32.toUInt32 31)).toInt32 &&& (858993459 : Int32))) + ((((x0 - ((x0.toUInt32 >>> ((1 : Int32).toUInt32 &&& Int32.toUInt32 31)).toInt32 &&& (1431655765 : Int32))) &&& (858993459 : Int32)) + (((x0 - ((x0.toUInt32 >>> ((1 : Int32).toUInt32 &&& Int32.toUInt32 31)).toInt32 &&& (1431655765 : Int32))).toUInt32 >>> ((2 : Int32).toUInt32 &&& Int32.toUInt32 31)).toInt32 &&& (858993459 : Int32))).toUInt32 >>> ((4 : Int32).toUInt32 &&& Int32.toUInt32 31)).toInt32) &&& (252645135 : Int32)) + ((((((x0 - ((x0.toUInt32 >>> ((1 : Int32).toUInt32 &&& Int32.toUInt32 31)).toInt32 &&& (1431655765 : Int32))) &&& (858993459 : Int32)) + (((x0 - ((x0.toUInt32 >>> ((1 : Int32).toUInt32 &&& Int32.toUInt32 31)).toInt32 &&& (1431655765 : Int32))).toUInt32 >>> ((2 : Int32).toUInt32 &&& Int32.toUInt32 31)).toInt32 &&& (858993459 : Int32))) + ((((x0 - ((x0.toUInt32 >>> ((1 : Int32).toUInt32 &&& Int32.toUInt32 31)).toInt32 &&& (1431655765 : Int32))) &&& (858993459 : Int32)) + (((x0 - ((x0.toUInt32 >>> ((1 : Int32).toUInt32 &&& Int32.toUInt32 31)).toInt32 &&& (1431655765 : Int32))).toUInt32 >>> ((2 : Int32).toUInt32 &&& Int32.toUInt32 31)).toInt32 &&& (858993459 : Int32))).toUInt32 >>> ((4 : Int32).toUInt32 &&& Int32.toUInt32 31)).toInt32) &&& (252645135 : Int32)).toUInt32 >>> ((8 : Int32).toUInt32 &&& Int32.toUInt32 31)).toInt32) + (((((((x0 - ((x0.toUInt32 >>> ((1 : Int32).toUInt32 &&& Int32.toUInt32 31)).toInt32 &&& (1431655765 : Int32))) &&& (858993459 : Int32)) + (((x0 - ((x0.toUInt32 >>> ((1 : Int32).toUInt32 &&& Int32.toUInt32 31)).toInt32 &&& (1431655765 : Int32))).toUInt32 >>> ((2 : Int32).toUInt32 &&& Int32.toUInt32 31)).toInt32 &&& (858993459 : Int32))) + ((((x0 - ((x0.toUInt32 >>> ((1 : Int32).toUInt32 &&& Int32.toUInt32 31)).toInt32 &&& (1431655765 : Int32))) &&& (858993459 : Int32)) + (((x0 - ((x0.toUInt32 >>> ((1 : Int32).toUInt32 &&& Int32.toUInt32 31)).toInt32 &&& (1431655765 : Int32))).toUInt32 >>> ((2 : Int32).toUInt32 &&& Int32.toUInt32 31)).toInt32 &&& (858993459 : Int32))).toUInt32 >>> ((4 : Int32).toUInt32 &&& Int32.toUInt32 31)).toInt32) &&& (252645135 : Int32)) + ((((((x0 - ((x0.toUInt32 >>> ((1 : Int32).toUInt32 &&& Int32.toUInt32 31)).toInt32 &&& (1431655765 : Int32))) &&& (858993459 : Int32)) + (((x0 - ((x0.toUInt32 >>> ((1 : Int32).toUInt32 &&& Int32.toUInt32 31)).toInt32 &&& (1431655765 : Int32))).toUInt32 >>> ((2 : Int32).toUInt32 &&& Int32.toUInt32 31)).toInt32 &&& (858993459 : Int32))) + ((((x0 - ((x0.toUInt32 >>> ((1 : Int32).toUInt32 &&& Int32.toUInt32 31)).toInt32 &&& (1431655765 : Int32))) &&& (858993459 : Int32)) + (((x0 - ((x0.toUInt32 >>> ((1 : Int32).toUInt32 &&& Int32.toUInt32 31)).toInt32 &&& (1431655765 : Int32))).toUInt32 >>> ((2 : Int32).toUInt32 &&& Int32.toUInt32 31)).toInt32 &&& (858993459 : Int32))).toUInt32 >>> ((4 : Int32).toUInt32 &&& Int32.toUInt32 31)).toInt32) &&& (252645135 : Int32)).toUInt32 >>> ((8 : Int32).toUInt32 &&& Int32.toUInt32 31)).toInt32).toUInt32 >>> ((16 : Int32).toUInt32 &&& Int32.toUInt32 31)).toInt32))]) hx hb dJ6_bitCount_0f7a4_47 rfl hl (by decide) rfl (fun ls hl => ?_)
  refine lv_iload_n hx hb dJ6_bitCount_0f7a4_48 rfl (lv_at hl 0 rfl) ?_
  refine lv_bipush (v := (63 : Int32)) hx hb dJ6_bitCount_0f7a4_49 (by decide) ?_
  refine lv_iand hx hb dJ6_bitCount_0f7a4_51 ?_
  obtain rfl := Option.some.inj h
  exact g_iret hx hb hr hlocks hK hlo hG ⟨rfl, rfl⟩ dJ6_bitCount_0f7a4_52

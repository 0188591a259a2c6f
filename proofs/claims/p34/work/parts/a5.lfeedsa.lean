/-! By program (wip/p34/tools/jlift.py). -/
set_option maxRecDepth 20000 in
set_option maxHeartbeats 4000000 in
theorem m_L_feeds_A (MC MS : Nat) (l : Launch) (hfl : l.stackTraces = false) (dd : va_G) (cT : Nat → ClassId) (lo : Nat → Prop) (G : gH) (a0 : Nat) (a1 : Nat) {K : Int32 → gH → Prop} (h : w_L_feeds_A MC MS G a0 a1 K) : Met l yL_feeds (Cond.code yL_feeds cL_feeds 6 (some .boolean) :: wsL_law) (g_rm 4 89 MC MS) (va_Pc [.ref a0, .ref a1] (g_Pre lo dd cT G)) (va_Qi K (g_Pre lo dd cT) (g_A lo)) MC MS (g_A lo) := by
  refine g_start RL rfl (by decide) (Nat.le_of_ble_eq_true rfl) ?_
  intro p e s m below meth c hx hb hr hlocks hml hown hnm hts hK hG hlo ls hl
  have hl : lv_has ls 6 [(0, .ref a0), (1, .ref a1)] := hl
  have hG : g_S lo dd cT s s.heap [] G := hG
  have h4 : ∀ n4 : Nat, ∀ (G : gH) (kc ks : Nat) (ba0 : Nat) (ba1 : Nat) (bx2 : Int32) (bx3 : Int32) (H : Heap) (locs : List Loc), g_S lo dd cT s H locs G → ∀ ls : Array Slot, lv_has ls 6 [(0, .ref ba0), (1, .ref ba1), (2, .int bx2), (3, .int bx3)] → w_L_feeds_A_L4 MC MS K n4 G kc ks ba0 ba1 bx2 bx3 → W p l e (g_rm 4 89 MC MS) s m ([.ref a0, .ref a1] : List Value).toArray below meth c H locs kc ks (MQ below (va_Qi K (g_Pre lo dd cT) (g_A lo)) ([.ref a0, .ref a1] : List Value).toArray s MC MS (g_A lo)) (F0 m 4 ls []) := by
    intro n4
    induction n4 with
    | zero =>
      intro G kc ks ba0 ba1 bx2 bx3 H locs hG ls hl h
      exact (show False from h).elim
    | succ n4 ih4 =>
      have h20 : ∀ n20 : Nat, ∀ (G : gH) (kc ks : Nat) (ba0 : Nat) (ba1 : Nat) (bx2 : Int32) (bx3 : Int32) (ba4 : Nat) (bx5 : Int32) (H : Heap) (locs : List Loc), g_S lo dd cT s H locs G → ∀ ls : Array Slot, lv_has ls 6 [(0, .ref ba0), (1, .ref ba1), (2, .int bx2), (3, .int bx3), (4, .ref ba4), (5, .int bx5)] → w_L_feeds_A_L20 MC MS K (w_L_feeds_A_L4 MC MS K n4) n20 G kc ks ba0 ba1 bx2 bx3 ba4 bx5 → W p l e (g_rm 4 89 MC MS) s m ([.ref a0, .ref a1] : List Value).toArray below meth c H locs kc ks (MQ below (va_Qi K (g_Pre lo dd cT) (g_A lo)) ([.ref a0, .ref a1] : List Value).toArray s MC MS (g_A lo)) (F0 m 20 ls []) := by
        intro n20
        induction n20 with
        | zero =>
          intro G kc ks ba0 ba1 bx2 bx3 ba4 bx5 H locs hG ls hl h
          exact (show False from h).elim
        | succ n20 ih20 =>
          intro G kc ks ba0 ba1 bx2 bx3 ba4 bx5 H locs hG ls hl h
          rw [w_L_feeds_A_L20] at h
          refine lv_iload hx hb dL_feeds_20 (lv_at hl 5 rfl) ?_
          refine lv_bipush (v := (20 : Int32)) hx hb dL_feeds_22 (by decide) ?_
          refine lv_icmp_ge (tgt := 75) hx hb dL_feeds_24 (by decide) (fun c24 => ?_) (fun c24 => ?_)
          · rw [if_pos c24] at h
            refine lv_iinc (v := (bx2 + (20 : Int32))) (lv' := [(2, .int (bx2 + (20 : Int32))), (0, .ref ba0), (1, .ref ba1), (3, .int bx3), (4, .ref ba4), (5, .int bx5)]) hx hb dL_feeds_75 hl (k := 2) rfl rfl (by decide) rfl (fun ls hl => ?_)
            refine lv_aload_n hx hb dL_feeds_78 rfl (lv_at hl 1 rfl) ?_
            refine lv_aload hx hb dL_feeds_79 (lv_at hl 4 rfl) ?_
            refine lv_iconst (v := (0 : Int32)) hx hb dL_feeds_81 (by decide) ?_
            obtain ⟨v82, e82, h⟩ := h
            refine g_iald hx hb hK hG e82 dL_feeds_82 ?_
            refine lv_aload hx hb dL_feeds_83 (lv_at hl 4 rfl) ?_
            refine lv_iconst (v := (1 : Int32)) hx hb dL_feeds_85 (by decide) ?_
            obtain ⟨v86, e86, h⟩ := h
            refine g_iald hx hb hK hG e86 dL_feeds_86 ?_
            refine lv_aload hx hb dL_feeds_87 (lv_at hl 4 rfl) ?_
            refine lv_iconst (v := (2 : Int32)) hx hb dL_feeds_89 (by decide) ?_
            obtain ⟨v90, e90, h⟩ := h
            refine g_iald hx hb hK hG e90 dL_feeds_90 ?_
            refine lv_aload hx hb dL_feeds_91 (lv_at hl 4 rfl) ?_
            refine lv_iconst (v := (3 : Int32)) hx hb dL_feeds_93 (by decide) ?_
            obtain ⟨v94, e94, h⟩ := h
            refine g_iald hx hb hK hG e94 dL_feeds_94 ?_
            refine lv_aload hx hb dL_feeds_95 (lv_at hl 4 rfl) ?_
            refine lv_iconst (v := (4 : Int32)) hx hb dL_feeds_97 (by decide) ?_
            obtain ⟨v98, e98, h⟩ := h
            refine g_iald hx hb hK hG e98 dL_feeds_98 ?_
            obtain ⟨C99, R99, d99, g99, h⟩ := h
            obtain ⟨u99, o99, h⟩ := h
            obtain ⟨y99, h⟩ := h
            obtain ⟨q99, e99, h⟩ := h
            rw [g99] at hG
            refine g_wVi (As := [.int v82, .int v86, .int v90, .int v94, .int v98]) (rest := []) (n := 5) hx hb hml hown hts hK hlo hG (g_frI d99 (fun lo => m_X9_append l dd cT lo C99 ba0 v82 v86 v90 v94 v98 e99) lo) qM_L_17 qI_yX9_append qS_X9_yX9_append qN_X9 qC_yX9_append (by decide +kernel) ⟨Nat.le_of_ble_eq_true rfl, Nat.le_of_ble_eq_true rfl⟩ (by rfl) (g_ob_gj o99) rfl hl.1 rfl (Nat.le_of_ble_eq_true rfl) dL_feeds_99 y99 (fun v99x Gx H locs hKx hG => ?_)
            obtain ⟨D99, ⟨k99a, k99⟩, f99, l99⟩ := hKx
            rw [l99, k99] at hG
            rw [k99] at f99
            rw [k99a]
            obtain ⟨G99, i99⟩ : ∃ g : gH, g = gj q99.1 R99 := ⟨_, rfl⟩
            rw [← i99] at hG
            replace h := h G99 f99 i99
            refine lv_iload_n hx hb dL_feeds_102 rfl (lv_at hl 0 rfl) ?_
            refine lv_icmp_eq (tgt := 108) hx hb dL_feeds_103 (by decide) (fun c103 => ?_) (fun c103 => ?_)
            · rw [if_pos c103] at h
              refine lv_iinc (v := (bx3 + (20 : Int32))) (lv' := [(3, .int (bx3 + (20 : Int32))), (2, .int (bx2 + (20 : Int32))), (0, .ref ba0), (1, .ref ba1), (4, .ref ba4), (5, .int bx5)]) hx hb dL_feeds_108 hl (k := 3) rfl rfl (by decide) rfl (fun ls hl => ?_)
              refine lv_goto (tgt := 4) hx hb dL_feeds_111 (by decide) ?_
              exact ih4 G99 kc ks ba0 ba1 (bx2 + (20 : Int32)) (bx3 + (20 : Int32)) _ _ hG _ (lv_sub hl [2, 3, 1, 0] rfl) h
            · rw [if_neg c103] at h
              refine lv_iconst (v := (0 : Int32)) hx hb dL_feeds_106 (by decide) ?_
              obtain ⟨y1, y2, h⟩ := h
              refine W.widen (k := MC) (n := MS) y1 y2 ?_
              exact g_zret hx hb hr hlocks hK hlo hG rfl h dL_feeds_107
          · rw [if_neg c24] at h
            refine lv_aload hx hb dL_feeds_27 (lv_at hl 4 rfl) ?_
            refine lv_iload hx hb dL_feeds_29 (lv_at hl 5 rfl) ?_
            refine lv_iconst (v := (4 : Int32)) hx hb dL_feeds_31 (by decide) ?_
            refine lv_idiv hx hb dL_feeds_32 (by decide) ?_
            refine lv_aload hx hb dL_feeds_33 (lv_at hl 4 rfl) ?_
            refine lv_iload hx hb dL_feeds_35 (lv_at hl 5 rfl) ?_
            refine lv_iconst (v := (4 : Int32)) hx hb dL_feeds_37 (by decide) ?_
            refine lv_idiv hx hb dL_feeds_38 (by decide) ?_
            obtain ⟨v39, e39, h⟩ := h
            refine g_iald hx hb hK hG e39 dL_feeds_39 ?_
            refine lv_bipush (v := (8 : Int32)) hx hb dL_feeds_40 (by decide) ?_
            refine lv_ishl hx hb dL_feeds_42 ?_
            refine lv_iload_n hx hb dL_feeds_43 rfl (lv_at hl 3 rfl) ?_
            refine lv_iload hx hb dL_feeds_44 (lv_at hl 5 rfl) ?_
            refine lv_iadd hx hb dL_feeds_46 ?_
            refine lv_aload_n hx hb dL_feeds_47 rfl (lv_at hl 1 rfl) ?_
            obtain ⟨C48, R48, d48, g48, h⟩ := h
            obtain ⟨u48, o48, h⟩ := h
            obtain ⟨y48, h⟩ := h
            obtain ⟨v48, e48, h⟩ := h
            rw [g48] at hG
            refine g_wVi (As := []) (rest := [.int (bx3 + bx5), .int (v39 <<< ((8 : Int32) &&& 31)), .int (bx5 / (4 : Int32)), .ref ba4]) (n := 0) hx hb hml hown hts hK hlo hG (g_frI d48 (fun lo => m_J0_length_8abf5_A l dd cT lo C48 ba1 e48) lo) qM_L_7 qI_yJ0_length_8abf5 qS_J0_yJ0_length_8abf5 qN_J0 qC_yJ0_length_8abf5 (by decide +kernel) ⟨Nat.le_of_ble_eq_true rfl, Nat.le_of_ble_eq_true rfl⟩ (by rfl) (g_ob_gj o48) rfl hl.1 rfl (Nat.le_of_ble_eq_true rfl) dL_feeds_48 y48 (fun v48x Gx H locs hKx hG => ?_)
            obtain ⟨D48, ⟨k48a, k48⟩, f48, l48⟩ := hKx
            rw [l48, k48] at hG
            rw [k48] at f48
            rw [k48a]
            rw [← g48] at hG
            refine lv_icmp_ge (tgt := 65) hx hb dL_feeds_51 (by decide) (fun c51 => ?_) (fun c51 => ?_)
            · rw [if_pos c51] at h
              refine lv_bipush (v := (32 : Int32)) hx hb dL_feeds_65 (by decide) ?_
              refine lv_ior hx hb dL_feeds_67 ?_
              obtain ⟨G68, e68, h⟩ := h
              refine g_iast hx hb hK hG e68 dL_feeds_68 (fun H locs hG => ?_)
              refine lv_iinc (v := (bx5 + (1 : Int32))) (lv' := [(5, .int (bx5 + (1 : Int32))), (0, .ref ba0), (1, .ref ba1), (2, .int bx2), (3, .int bx3), (4, .ref ba4)]) hx hb dL_feeds_69 hl (k := 5) rfl rfl (by decide) rfl (fun ls hl => ?_)
              refine lv_goto (tgt := 20) hx hb dL_feeds_72 (by decide) ?_
              exact ih20 G68 kc ks ba0 ba1 bx2 bx3 ba4 (bx5 + (1 : Int32)) _ _ hG _ (lv_sub hl [1, 2, 3, 4, 5, 0] rfl) h
            · rw [if_neg c51] at h
              refine lv_aload_n hx hb dL_feeds_54 rfl (lv_at hl 1 rfl) ?_
              refine lv_iload_n hx hb dL_feeds_55 rfl (lv_at hl 3 rfl) ?_
              refine lv_iload hx hb dL_feeds_56 (lv_at hl 5 rfl) ?_
              refine lv_iadd hx hb dL_feeds_58 ?_
              obtain ⟨C59, R59, d59, g59, h⟩ := h
              obtain ⟨u59, o59, h⟩ := h
              obtain ⟨y59, h⟩ := h
              obtain ⟨v59, e59, h⟩ := h
              rw [g59] at hG
              refine g_wVi (As := [.int (bx3 + bx5)]) (rest := [.int (v39 <<< ((8 : Int32) &&& 31)), .int (bx5 / (4 : Int32)), .ref ba4]) (n := 1) hx hb hml hown hts hK hlo hG (g_frI d59 (fun lo => m_J0_charAt_5068e_A l dd cT lo C59 ba1 (bx3 + bx5) e59) lo) qM_L_13 qI_yJ0_charAt_5068e qS_J0_yJ0_charAt_5068e qN_J0 qC_yJ0_charAt_5068e (by decide +kernel) ⟨Nat.le_of_ble_eq_true rfl, Nat.le_of_ble_eq_true rfl⟩ (by rfl) (g_ob_gj o59) rfl hl.1 rfl (Nat.le_of_ble_eq_true rfl) dL_feeds_59 y59 (fun v59x Gx H locs hKx hG => ?_)
              obtain ⟨D59, ⟨k59a, k59⟩, f59, l59⟩ := hKx
              rw [l59, k59] at hG
              rw [k59] at f59
              rw [k59a]
              rw [← g59] at hG
              refine lv_goto (tgt := 67) hx hb dL_feeds_62 (by decide) ?_
              refine lv_ior hx hb dL_feeds_67 ?_
              obtain ⟨G68, e68, h⟩ := h
              refine g_iast hx hb hK hG e68 dL_feeds_68 (fun H locs hG => ?_)
              refine lv_iinc (v := (bx5 + (1 : Int32))) (lv' := [(5, .int (bx5 + (1 : Int32))), (0, .ref ba0), (1, .ref ba1), (2, .int bx2), (3, .int bx3), (4, .ref ba4)]) hx hb dL_feeds_69 hl (k := 5) rfl rfl (by decide) rfl (fun ls hl => ?_)
              refine lv_goto (tgt := 20) hx hb dL_feeds_72 (by decide) ?_
              exact ih20 G68 kc ks ba0 ba1 bx2 bx3 ba4 (bx5 + (1 : Int32)) _ _ hG _ (lv_sub hl [1, 2, 3, 4, 5, 0] rfl) h
      intro G kc ks ba0 ba1 bx2 bx3 H locs hG ls hl h
      rw [w_L_feeds_A_L4] at h
      refine lv_iload_n hx hb dL_feeds_4 rfl (lv_at hl 3 rfl) ?_
      refine lv_aload_n hx hb dL_feeds_5 rfl (lv_at hl 1 rfl) ?_
      obtain ⟨C6, R6, d6, g6, h⟩ := h
      obtain ⟨u6, o6, h⟩ := h
      obtain ⟨y6, h⟩ := h
      obtain ⟨v6, e6, h⟩ := h
      rw [g6] at hG
      refine g_wVi (As := []) (rest := [.int bx3]) (n := 0) hx hb hml hown hts hK hlo hG (g_frI d6 (fun lo => m_J0_length_8abf5_A l dd cT lo C6 ba1 e6) lo) qM_L_7 qI_yJ0_length_8abf5 qS_J0_yJ0_length_8abf5 qN_J0 qC_yJ0_length_8abf5 (by decide +kernel) ⟨Nat.le_of_ble_eq_true rfl, Nat.le_of_ble_eq_true rfl⟩ (by rfl) (g_ob_gj o6) rfl hl.1 rfl (Nat.le_of_ble_eq_true rfl) dL_feeds_6 y6 (fun v6x Gx H locs hKx hG => ?_)
      obtain ⟨D6, ⟨k6a, k6⟩, f6, l6⟩ := hKx
      rw [l6, k6] at hG
      rw [k6] at f6
      rw [k6a]
      rw [← g6] at hG
      refine lv_icmp_ge (tgt := 114) hx hb dL_feeds_9 (by decide) (fun c9 => ?_) (fun c9 => ?_)
      · rw [if_pos c9] at h
        refine lv_iconst (v := (1 : Int32)) hx hb dL_feeds_114 (by decide) ?_
        obtain ⟨y1, y2, h⟩ := h
        refine W.widen (k := MC) (n := MS) y1 y2 ?_
        exact g_zret hx hb hr hlocks hK hlo hG rfl h dL_feeds_115
      · rw [if_neg c9] at h
        refine lv_iconst (v := (5 : Int32)) hx hb dL_feeds_12 (by decide) ?_
        obtain ⟨y13, h⟩ := h
        refine g_newai (N := 5) hx hb hts hK hlo hG (by decide) (by decide) (Nat.le_of_ble_eq_true rfl) y13 dL_feeds_13 (fun q13 H z13 hG => ?_)
        obtain ⟨G13, i13⟩ : ∃ g : gH, g = va_up G q13 (some (.inl (0, 5, fun _ => 0))) := ⟨_, rfl⟩
        rw [← i13] at hG
        replace h := h q13 z13 G13 i13
        refine lv_astore (lv' := [(4, .ref q13), (0, .ref ba0), (1, .ref ba1), (2, .int bx2), (3, .int bx3)]) hx hb dL_feeds_15 hl (by decide) rfl (fun ls hl => ?_)
        refine lv_iconst (v := (0 : Int32)) hx hb dL_feeds_17 (by decide) ?_
        refine lv_istore (lv' := [(5, .int (0 : Int32)), (4, .ref q13), (0, .ref ba0), (1, .ref ba1), (2, .int bx2), (3, .int bx3)]) hx hb dL_feeds_18 hl (by decide) rfl (fun ls hl => ?_)
        exact h20 g_N G13 (kc + 1) (ks + 5) ba0 ba1 bx2 bx3 q13 (0 : Int32) _ _ hG _ (lv_sub hl [2, 3, 4, 5, 1, 0] rfl) h
  unfold w_L_feeds_A at h
  refine lv_iconst (v := (0 : Int32)) hx hb dL_feeds_0 (by decide) ?_
  refine lv_istore_n (lv' := [(2, .int (0 : Int32)), (0, .ref a0), (1, .ref a1)]) hx hb dL_feeds_1 rfl hl (by decide) rfl (fun ls hl => ?_)
  refine lv_iconst (v := (0 : Int32)) hx hb dL_feeds_2 (by decide) ?_
  refine lv_istore_n (lv' := [(3, .int (0 : Int32)), (2, .int (0 : Int32)), (0, .ref a0), (1, .ref a1)]) hx hb dL_feeds_3 rfl hl (by decide) rfl (fun ls hl => ?_)
  exact h4 g_N G 0 0 a0 a1 (0 : Int32) (0 : Int32) _ _ hG _ (lv_sub hl [2, 3, 1, 0] rfl) h

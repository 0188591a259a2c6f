/-! The law's methods that make cells: by program (wip/p34/tools/pwlift.py). -/
set_option maxRecDepth 20000 in
set_option maxHeartbeats 4000000 in
theorem m_L_blocks (MC MS : Nat) (l : Launch) (hfl : l.stackTraces = false) (dd : va_G) (cT : Nat → ClassId) (lo : Nat → Prop) (G : gH) (a0 : Nat) (a1 : Nat) {K : Int32 → gH → Prop} (h : w_L_blocks MC MS G a0 a1 K) : Met l yL_blocks (Cond.code yL_blocks cL_blocks 9 (some .boolean) :: wsL_law) (g_rm 9 204 MC MS) (va_Pc [.ref a0, .ref a1] (g_Pre lo dd cT G)) (va_Qi K (g_Pre lo dd cT) (g_A lo)) MC MS (g_A lo) := by
  refine g_start RL rfl (by decide) (Nat.le_of_ble_eq_true rfl) ?_
  intro p e s m below meth c hx hb hr hlocks hml hown hnm hts hK hG hlo ls hl
  have hl : lv_has ls 9 [(0, .ref a0), (1, .ref a1)] := hl
  have hG : g_S lo dd cT s s.heap [] G := hG
  have h577 : ∀ (G : gH) (kc ks : Nat) (z0 : UInt64) (z1 : UInt64) (H : Heap) (locs : List Loc), g_S lo dd cT s H locs G → ∀ ls : Array Slot, lv_has ls 9 [] → w_L_blocks_J577 MC MS K G kc ks z0 z1 → W p l e (g_rm 9 204 MC MS) s m ([.ref a0, .ref a1] : List Value).toArray below meth c H locs kc ks (MQ below (va_Qi K (g_Pre lo dd cT) (g_A lo)) ([.ref a0, .ref a1] : List Value).toArray s MC MS (g_A lo)) (F0 m 577 ls [.double z1, .double z0]) := by
    intro G kc ks z0 z1 H locs hG ls hl h
    unfold w_L_blocks_J577 at h
    refine lv_dcmp hx hb dL_blocks_577 ?_
    refine lv_if_ne (tgt := 585) hx hb dL_blocks_578 (by decide) (fun c578 => ?_) (fun c578 => ?_)
    · rw [if_neg c578] at h
      refine lv_iconst (v := (0 : Int32)) hx hb dL_blocks_585 (by decide) ?_
      obtain ⟨y1, y2, h⟩ := h
      refine W.widen (k := MC) (n := MS) y1 y2 ?_
      exact g_zret hx hb hr hlocks hK hlo hG rfl h dL_blocks_586
    · rw [if_pos c578] at h
      refine lv_iconst (v := (1 : Int32)) hx hb dL_blocks_581 (by decide) ?_
      refine lv_goto (tgt := 586) hx hb dL_blocks_582 (by decide) ?_
      obtain ⟨y1, y2, h⟩ := h
      refine W.widen (k := MC) (n := MS) y1 y2 ?_
      exact g_zret hx hb hr hlocks hK hlo hG rfl h dL_blocks_586
  have h492 : ∀ n492 : Nat, ∀ (G : gH) (kc ks : Nat) (ba0 : Nat) (ba1 : Nat) (ba2 : Nat) (bx5 : Int32) (ba6 : Nat) (bx7 : Int32) (H : Heap) (locs : List Loc), g_S lo dd cT s H locs G → ∀ ls : Array Slot, lv_has ls 9 [(0, .ref ba0), (1, .ref ba1), (2, .ref ba2), (5, .int bx5), (6, .ref ba6), (7, .int bx7)] → w_L_blocks_L492 MC MS K n492 G kc ks ba0 ba1 ba2 bx5 ba6 bx7 → W p l e (g_rm 9 204 MC MS) s m ([.ref a0, .ref a1] : List Value).toArray below meth c H locs kc ks (MQ below (va_Qi K (g_Pre lo dd cT) (g_A lo)) ([.ref a0, .ref a1] : List Value).toArray s MC MS (g_A lo)) (F0 m 492 ls []) := by
    intro n492
    induction n492 with
    | zero =>
      intro G kc ks ba0 ba1 ba2 bx5 ba6 bx7 H locs hG ls hl h
      exact (show False from h).elim
    | succ n492 ih492 =>
      intro G kc ks ba0 ba1 ba2 bx5 ba6 bx7 H locs hG ls hl h
      rw [w_L_blocks_L492] at h
      refine lv_iload hx hb dL_blocks_492 (lv_at hl 5 rfl) ?_
      refine lv_bipush (v := (11 : Int32)) hx hb dL_blocks_494 (by decide) ?_
      refine lv_icmp_ge (tgt := 521) hx hb dL_blocks_496 (by decide) (fun c496 => ?_) (fun c496 => ?_)
      · rw [if_pos c496] at h
        refine lv_aload_n hx hb dL_blocks_521 rfl (lv_at hl 0 rfl) ?_
        refine lv_bipush (v := (12 : Int32)) hx hb dL_blocks_522 (by decide) ?_
        obtain ⟨C524, R524, d524, g524, h⟩ := h
        obtain ⟨u524, o524, h⟩ := h
        obtain ⟨y524, h⟩ := h
        rw [g524] at hG
        refine g_wVi (As := [.int (12 : Int32)]) (rest := []) (n := 1) hx hb hml hown hts hK hlo hG (g_frI d524 (fun lo => g_noX (m_X9_size l hfl dd cT lo C524 ba0 (12 : Int32) h)) lo) qM_L_197 qI_yX9_size qS_X9_yX9_size qN_X9 qC_yX9_size (by decide +kernel) ⟨Nat.le_of_ble_eq_true rfl, Nat.le_of_ble_eq_true rfl⟩ (by rfl) (g_ob_gj o524) rfl hl.1 rfl (Nat.le_of_ble_eq_true rfl) dL_blocks_524 y524 (fun v524x Gx H locs hKx hG => ?_)
        obtain ⟨D524, h, f524, rfl⟩ := hKx
        obtain ⟨G524, i524⟩ : ∃ g : gH, g = gj D524 R524 := ⟨_, rfl⟩
        rw [← i524] at hG
        replace h := h G524 f524 i524
        revert h
        generalize v524x = v524
        intro h
        refine lv_aload_n hx hb dL_blocks_527 rfl (lv_at hl 1 rfl) ?_
        obtain ⟨v528, e528, h⟩ := h
        refine g_getiN hx hb hts inlX10 hown hK hG (by rfl) 5 (by decide) (List.mem_of_getElem? (i := 17) rfl) e528 dL_blocks_528 ?_
        refine lv_icmp_ne (tgt := 585) hx hb dL_blocks_531 (by decide) (fun c531 => ?_) (fun c531 => ?_)
        · rw [if_neg c531] at h
          refine lv_iconst (v := (0 : Int32)) hx hb dL_blocks_585 (by decide) ?_
          obtain ⟨y1, y2, h⟩ := h
          refine W.widen (k := MC) (n := MS) y1 y2 ?_
          exact g_zret hx hb hr hlocks hK hlo hG rfl h dL_blocks_586
        · rw [if_pos c531] at h
          refine lv_aload_n hx hb dL_blocks_534 rfl (lv_at hl 0 rfl) ?_
          refine lv_iload hx hb dL_blocks_535 (lv_at hl 3 rfl) ?_
          refine lv_iconst (v := (1 : Int32)) hx hb dL_blocks_537 (by decide) ?_
          obtain ⟨C538, R538, d538, g538, h⟩ := h
          obtain ⟨u538, o538, h⟩ := h
          obtain ⟨y538, h⟩ := h
          obtain ⟨v538, e538, h⟩ := h
          rw [g538] at hG
          refine g_wVi (As := [.int bx5, .int (1 : Int32)]) (rest := []) (n := 2) hx hb hml hown hts hK hlo hG (g_frI d538 (fun lo => m_X9_defect l dd cT lo C538 ba0 bx5 (1 : Int32) e538) lo) qM_L_166 qI_yX9_defect qS_X9_yX9_defect qN_X9 qC_yX9_defect (by decide +kernel) ⟨Nat.le_of_ble_eq_true rfl, Nat.le_of_ble_eq_true rfl⟩ (by rfl) (g_ob_gj o538) rfl hl.1 rfl (Nat.le_of_ble_eq_true rfl) dL_blocks_538 y538 (fun v538x Gx H locs hKx hG => ?_)
          obtain ⟨D538, ⟨k538a, k538⟩, f538, l538⟩ := hKx
          rw [l538, k538] at hG
          rw [k538] at f538
          rw [k538a]
          rw [← g538] at hG
          refine lv_iconst (v := (-1 : Int32)) hx hb dL_blocks_541 (by decide) ?_
          refine lv_icmp_ne (tgt := 585) hx hb dL_blocks_542 (by decide) (fun c542 => ?_) (fun c542 => ?_)
          · rw [if_neg c542] at h
            refine lv_iconst (v := (0 : Int32)) hx hb dL_blocks_585 (by decide) ?_
            obtain ⟨y1, y2, h⟩ := h
            refine W.widen (k := MC) (n := MS) y1 y2 ?_
            exact g_zret hx hb hr hlocks hK hlo hG rfl h dL_blocks_586
          · rw [if_pos c542] at h
            refine lv_aload_n hx hb dL_blocks_545 rfl (lv_at hl 0 rfl) ?_
            obtain ⟨C546, R546, d546, g546, h⟩ := h
            obtain ⟨u546, o546, h⟩ := h
            obtain ⟨y546, h⟩ := h
            rw [g546] at hG
            refine g_wVd (As := []) (rest := []) (n := 0) hx hb hml hown hts hK hlo hG (g_frD d546 (fun lo => m_X9_share l dd cT lo C546 ba0 h) lo) qM_L_203 qI_yX9_share qS_X9_yX9_share qN_X9 qC_yX9_share (by decide +kernel) ⟨Nat.le_of_ble_eq_true rfl, Nat.le_of_ble_eq_true rfl⟩ (by rfl) (g_ob_gj o546) rfl hl.1 rfl (Nat.le_of_ble_eq_true rfl) dL_blocks_546 y546 (fun v546x Gx H locs hKx hG => ?_)
            obtain ⟨D546, h, f546, rfl⟩ := hKx
            obtain ⟨G546, i546⟩ : ∃ g : gH, g = gj D546 R546 := ⟨_, rfl⟩
            rw [← i546] at hG
            replace h := h G546 f546 i546
            revert h
            generalize v546x = v546
            intro h
            refine lv_aload_n hx hb dL_blocks_549 rfl (lv_at hl 2 rfl) ?_
            refine lv_iconst (v := (0 : Int32)) hx hb dL_blocks_550 (by decide) ?_
            obtain ⟨v551, e551, h⟩ := h
            refine g_iald hx hb hK hG e551 dL_blocks_551 ?_
            refine lv_aload_n hx hb dL_blocks_552 rfl (lv_at hl 1 rfl) ?_
            obtain ⟨v553, e553, h⟩ := h
            refine g_getiN hx hb hts inlX10 hown hK hG (by rfl) 0 (by decide) (List.mem_of_getElem? (i := 0) rfl) e553 dL_blocks_553 ?_
            refine lv_icmp_ne (tgt := 563) hx hb dL_blocks_556 (by decide) (fun c556 => ?_) (fun c556 => ?_)
            · rw [if_neg c556] at h
              refine lv_aload_n hx hb dL_blocks_563 rfl (lv_at hl 2 rfl) ?_
              refine lv_iconst (v := (1 : Int32)) hx hb dL_blocks_564 (by decide) ?_
              obtain ⟨v565, e565, h⟩ := h
              refine g_iald hx hb hK hG e565 dL_blocks_565 ?_
              refine lv_i2d hx hb dL_blocks_566 ?_
              refine lv_aload_n hx hb dL_blocks_567 rfl (lv_at hl 1 rfl) ?_
              obtain ⟨v568, e568, h⟩ := h
              refine g_getiN hx hb hts inlX10 hown hK hG (by rfl) 0 (by decide) (List.mem_of_getElem? (i := 0) rfl) e568 dL_blocks_568 ?_
              refine lv_aload_n hx hb dL_blocks_571 rfl (lv_at hl 2 rfl) ?_
              refine lv_iconst (v := (0 : Int32)) hx hb dL_blocks_572 (by decide) ?_
              obtain ⟨v573, e573, h⟩ := h
              refine g_iald hx hb hK hG e573 dL_blocks_573 ?_
              refine lv_isub hx hb dL_blocks_574 ?_
              refine lv_i2d hx hb dL_blocks_575 ?_
              obtain ⟨y576, h⟩ := h
              refine lv_ddiv hx hb dL_blocks_576 y576 ?_
              exact h577 G546 ((kc + 1) + 0) ((ks + 6) + 0) v546 (FP.ddiv (FP.i2d v565) (FP.i2d (v568 - v573))) _ _ hG _ (lv_sub hl [] rfl) h
            · rw [if_pos c556] at h
              refine lv_dconst1 hx hb dL_blocks_559 ?_
              refine lv_goto (tgt := 577) hx hb dL_blocks_560 (by decide) ?_
              exact h577 G546 ((kc + 1) + 0) ((ks + 6) + 0) v546 FP.dconst1 _ _ hG _ (lv_sub hl [] rfl) h
      · rw [if_neg c496] at h
        refine lv_aload_n hx hb dL_blocks_499 rfl (lv_at hl 0 rfl) ?_
        refine lv_iload hx hb dL_blocks_500 (lv_at hl 5 rfl) ?_
        obtain ⟨C502, R502, d502, g502, h⟩ := h
        obtain ⟨u502, o502, h⟩ := h
        obtain ⟨y502, h⟩ := h
        rw [g502] at hG
        refine g_wVi (As := [.int bx7]) (rest := []) (n := 1) hx hb hml hown hts hK hlo hG (g_frI d502 (fun lo => g_noX (m_X9_size l hfl dd cT lo C502 ba0 bx7 h)) lo) qM_L_197 qI_yX9_size qS_X9_yX9_size qN_X9 qC_yX9_size (by decide +kernel) ⟨Nat.le_of_ble_eq_true rfl, Nat.le_of_ble_eq_true rfl⟩ (by rfl) (g_ob_gj o502) rfl hl.1 rfl (Nat.le_of_ble_eq_true rfl) dL_blocks_502 y502 (fun v502x Gx H locs hKx hG => ?_)
        obtain ⟨D502, h, f502, rfl⟩ := hKx
        obtain ⟨G502, i502⟩ : ∃ g : gH, g = gj D502 R502 := ⟨_, rfl⟩
        rw [← i502] at hG
        replace h := h G502 f502 i502
        revert h
        generalize v502x = v502
        intro h
        refine lv_aload hx hb dL_blocks_505 (lv_at hl 4 rfl) ?_
        refine lv_iload hx hb dL_blocks_507 (lv_at hl 5 rfl) ?_
        obtain ⟨v509, e509, h⟩ := h
        refine g_iald hx hb hK hG e509 dL_blocks_509 ?_
        refine lv_icmp_eq (tgt := 515) hx hb dL_blocks_510 (by decide) (fun c510 => ?_) (fun c510 => ?_)
        · rw [if_pos c510] at h
          refine lv_iinc (v := (bx7 + (1 : Int32))) (lv' := [(7, .int (bx7 + (1 : Int32))), (0, .ref ba0), (1, .ref ba1), (2, .ref ba2), (5, .int bx5), (6, .ref ba6)]) hx hb dL_blocks_515 hl (k := 5) rfl rfl (by decide) rfl (fun ls hl => ?_)
          refine lv_goto (tgt := 492) hx hb dL_blocks_518 (by decide) ?_
          exact ih492 G502 (kc + 1) (ks + 6) ba0 ba1 ba2 bx5 ba6 (bx7 + (1 : Int32)) _ _ hG _ (lv_sub hl [1, 2, 3, 4, 5, 0] rfl) h
        · rw [if_neg c510] at h
          refine lv_iconst (v := (0 : Int32)) hx hb dL_blocks_513 (by decide) ?_
          obtain ⟨y1, y2, h⟩ := h
          refine W.widen (k := MC) (n := MS) y1 y2 ?_
          exact g_zret hx hb hr hlocks hK hlo hG rfl h dL_blocks_514
  have h470 : ∀ (G : gH) (kc ks : Nat) (ba0 : Nat) (ba1 : Nat) (ba2 : Nat) (bx5 : Int32) (z0 : Nat) (z1 : Nat) (z2 : Int32) (z3 : Int32) (H : Heap) (locs : List Loc), g_S lo dd cT s H locs G → ∀ ls : Array Slot, lv_has ls 9 [(0, .ref ba0), (1, .ref ba1), (2, .ref ba2), (5, .int bx5)] → w_L_blocks_J470 MC MS K G kc ks ba0 ba1 ba2 bx5 z0 z1 z2 z3 → W p l e (g_rm 9 204 MC MS) s m ([.ref a0, .ref a1] : List Value).toArray below meth c H locs kc ks (MQ below (va_Qi K (g_Pre lo dd cT) (g_A lo)) ([.ref a0, .ref a1] : List Value).toArray s MC MS (g_A lo)) (F0 m 470 ls [.int z3, .int z2, .ref z1, .ref z0]) := by
    intro G kc ks ba0 ba1 ba2 bx5 z0 z1 z2 z3 H locs hG ls hl h
    unfold w_L_blocks_J470 at h
    obtain ⟨G470, e470, h⟩ := h
    refine g_iast hx hb hK hG e470 dL_blocks_470 (fun H locs hG => ?_)
    refine lv_dup hx hb dL_blocks_471 rfl ?_
    refine lv_bipush (v := (10 : Int32)) hx hb dL_blocks_472 (by decide) ?_
    refine lv_aload_n hx hb dL_blocks_474 rfl (lv_at hl 1 rfl) ?_
    obtain ⟨v475, e475, h⟩ := h
    refine g_getiN hx hb hts inlX10 hown hK hG (by rfl) 6 (by decide) (List.mem_of_getElem? (i := 16) rfl) e475 dL_blocks_475 ?_
    refine lv_if_eq (tgt := 485) hx hb dL_blocks_478 (by decide) (fun c478 => ?_) (fun c478 => ?_)
    · rw [if_pos c478] at h
      refine lv_iconst (v := (0 : Int32)) hx hb dL_blocks_485 (by decide) ?_
      obtain ⟨G486, e486, h⟩ := h
      refine g_iast hx hb hK hG e486 dL_blocks_486 (fun H locs hG => ?_)
      refine lv_astore (lv' := [(6, .ref z0), (0, .ref ba0), (1, .ref ba1), (2, .ref ba2), (5, .int bx5)]) hx hb dL_blocks_487 hl (by decide) rfl (fun ls hl => ?_)
      refine lv_iconst (v := (0 : Int32)) hx hb dL_blocks_489 (by decide) ?_
      refine lv_istore (lv' := [(7, .int (0 : Int32)), (6, .ref z0), (0, .ref ba0), (1, .ref ba1), (2, .ref ba2), (5, .int bx5)]) hx hb dL_blocks_490 hl (by decide) rfl (fun ls hl => ?_)
      exact h492 g_N G486 kc ks ba0 ba1 ba2 bx5 z0 (0 : Int32) _ _ hG _ (lv_sub hl [2, 3, 4, 5, 1, 0] rfl) h
    · rw [if_neg c478] at h
      refine lv_iconst (v := (1 : Int32)) hx hb dL_blocks_481 (by decide) ?_
      refine lv_goto (tgt := 486) hx hb dL_blocks_482 (by decide) ?_
      obtain ⟨G486, e486, h⟩ := h
      refine g_iast hx hb hK hG e486 dL_blocks_486 (fun H locs hG => ?_)
      refine lv_astore (lv' := [(6, .ref z0), (0, .ref ba0), (1, .ref ba1), (2, .ref ba2), (5, .int bx5)]) hx hb dL_blocks_487 hl (by decide) rfl (fun ls hl => ?_)
      refine lv_iconst (v := (0 : Int32)) hx hb dL_blocks_489 (by decide) ?_
      refine lv_istore (lv' := [(7, .int (0 : Int32)), (6, .ref z0), (0, .ref ba0), (1, .ref ba1), (2, .ref ba2), (5, .int bx5)]) hx hb dL_blocks_490 hl (by decide) rfl (fun ls hl => ?_)
      exact h492 g_N G486 kc ks ba0 ba1 ba2 bx5 z0 (0 : Int32) _ _ hG _ (lv_sub hl [2, 3, 4, 5, 1, 0] rfl) h
  have h358 : ∀ n358 : Nat, ∀ (G : gH) (kc ks : Nat) (ba0 : Nat) (ba1 : Nat) (ba2 : Nat) (bx3 : Int32) (bx4 : Int32) (bx5 : Int32) (bx6 : Int32) (H : Heap) (locs : List Loc), g_S lo dd cT s H locs G → ∀ ls : Array Slot, lv_has ls 9 [(0, .ref ba0), (1, .ref ba1), (2, .ref ba2), (3, .int bx3), (4, .int bx4), (5, .int bx5), (6, .int bx6)] → w_L_blocks_L358 MC MS K n358 G kc ks ba0 ba1 ba2 bx3 bx4 bx5 bx6 → W p l e (g_rm 9 204 MC MS) s m ([.ref a0, .ref a1] : List Value).toArray below meth c H locs kc ks (MQ below (va_Qi K (g_Pre lo dd cT) (g_A lo)) ([.ref a0, .ref a1] : List Value).toArray s MC MS (g_A lo)) (F0 m 358 ls []) := by
    intro n358
    induction n358 with
    | zero =>
      intro G kc ks ba0 ba1 ba2 bx3 bx4 bx5 bx6 H locs hG ls hl h
      exact (show False from h).elim
    | succ n358 ih358 =>
      intro G kc ks ba0 ba1 ba2 bx3 bx4 bx5 bx6 H locs hG ls hl h
      rw [w_L_blocks_L358] at h
      refine lv_iload hx hb dL_blocks_358 (lv_at hl 6 rfl) ?_
      refine lv_iconst (v := (5 : Int32)) hx hb dL_blocks_360 (by decide) ?_
      refine lv_icmp_ge (tgt := 385) hx hb dL_blocks_361 (by decide) (fun c361 => ?_) (fun c361 => ?_)
      · rw [if_pos c361] at h
        refine lv_bipush (v := (11 : Int32)) hx hb dL_blocks_385 (by decide) ?_
        obtain ⟨y387, h⟩ := h
        refine g_newai (N := 11) hx hb hts hK hlo hG (by decide) (by decide) (Nat.le_of_ble_eq_true rfl) y387 dL_blocks_387 (fun q387 H z387 hG => ?_)
        obtain ⟨G387, i387⟩ : ∃ g : gH, g = va_up G q387 (some (.inl (0, 11, fun _ => 0))) := ⟨_, rfl⟩
        rw [← i387] at hG
        replace h := h q387 z387 G387 i387
        refine lv_dup hx hb dL_blocks_389 rfl ?_
        refine lv_iconst (v := (0 : Int32)) hx hb dL_blocks_390 (by decide) ?_
        refine lv_aload_n hx hb dL_blocks_391 rfl (lv_at hl 1 rfl) ?_
        obtain ⟨v392, e392, h⟩ := h
        refine g_getiN hx hb hts inlX10 hown hK hG (by rfl) 0 (by decide) (List.mem_of_getElem? (i := 0) rfl) e392 dL_blocks_392 ?_
        obtain ⟨G395, e395, h⟩ := h
        refine g_iast hx hb hK hG e395 dL_blocks_395 (fun H locs hG => ?_)
        refine lv_dup hx hb dL_blocks_396 rfl ?_
        refine lv_iconst (v := (1 : Int32)) hx hb dL_blocks_397 (by decide) ?_
        refine lv_aload_n hx hb dL_blocks_398 rfl (lv_at hl 1 rfl) ?_
        obtain ⟨v399, e399, h⟩ := h
        refine g_getiN hx hb hts inlX10 hown hK hG (by rfl) 1 (by decide) (List.mem_of_getElem? (i := 1) rfl) e399 dL_blocks_399 ?_
        obtain ⟨G402, e402, h⟩ := h
        refine g_iast hx hb hK hG e402 dL_blocks_402 (fun H locs hG => ?_)
        refine lv_dup hx hb dL_blocks_403 rfl ?_
        refine lv_iconst (v := (2 : Int32)) hx hb dL_blocks_404 (by decide) ?_
        refine lv_aload_n hx hb dL_blocks_405 rfl (lv_at hl 1 rfl) ?_
        obtain ⟨v406, e406, h⟩ := h
        refine g_getiN hx hb hts inlX10 hown hK hG (by rfl) 2 (by decide) (List.mem_of_getElem? (i := 2) rfl) e406 dL_blocks_406 ?_
        obtain ⟨G409, e409, h⟩ := h
        refine g_iast hx hb hK hG e409 dL_blocks_409 (fun H locs hG => ?_)
        refine lv_dup hx hb dL_blocks_410 rfl ?_
        refine lv_iconst (v := (3 : Int32)) hx hb dL_blocks_411 (by decide) ?_
        refine lv_aload_n hx hb dL_blocks_412 rfl (lv_at hl 1 rfl) ?_
        obtain ⟨v413, e413, h⟩ := h
        refine g_getiN hx hb hts inlX10 hown hK hG (by rfl) 4 (by decide) (List.mem_of_getElem? (i := 14) rfl) e413 dL_blocks_413 ?_
        obtain ⟨G416, e416, h⟩ := h
        refine g_iast hx hb hK hG e416 dL_blocks_416 (fun H locs hG => ?_)
        refine lv_dup hx hb dL_blocks_417 rfl ?_
        refine lv_iconst (v := (4 : Int32)) hx hb dL_blocks_418 (by decide) ?_
        refine lv_aload_n hx hb dL_blocks_419 rfl (lv_at hl 1 rfl) ?_
        obtain ⟨v420, e420, h⟩ := h
        refine g_getiN hx hb hts inlX10 hown hK hG (by rfl) 3 (by decide) (List.mem_of_getElem? (i := 15) rfl) e420 dL_blocks_420 ?_
        obtain ⟨G423, e423, h⟩ := h
        refine g_iast hx hb hK hG e423 dL_blocks_423 (fun H locs hG => ?_)
        refine lv_dup hx hb dL_blocks_424 rfl ?_
        refine lv_iconst (v := (5 : Int32)) hx hb dL_blocks_425 (by decide) ?_
        refine lv_iload hx hb dL_blocks_426 (lv_at hl 4 rfl) ?_
        obtain ⟨G428, e428, h⟩ := h
        refine g_iast hx hb hK hG e428 dL_blocks_428 (fun H locs hG => ?_)
        refine lv_dup hx hb dL_blocks_429 rfl ?_
        refine lv_bipush (v := (6 : Int32)) hx hb dL_blocks_430 (by decide) ?_
        refine lv_iload_n hx hb dL_blocks_432 rfl (lv_at hl 3 rfl) ?_
        obtain ⟨G433, e433, h⟩ := h
        refine g_iast hx hb hK hG e433 dL_blocks_433 (fun H locs hG => ?_)
        refine lv_dup hx hb dL_blocks_434 rfl ?_
        refine lv_bipush (v := (7 : Int32)) hx hb dL_blocks_435 (by decide) ?_
        refine lv_aload_n hx hb dL_blocks_437 rfl (lv_at hl 1 rfl) ?_
        refine lv_bipush (v := (12 : Int32)) hx hb dL_blocks_438 (by decide) ?_
        obtain ⟨C440, R440, d440, g440, h⟩ := h
        obtain ⟨u440, o440, h⟩ := h
        obtain ⟨y440, h⟩ := h
        obtain ⟨v440, e440, h⟩ := h
        rw [g440] at hG
        refine g_wVi (As := [.int (12 : Int32)]) (rest := [.int (7 : Int32), .ref q387, .ref q387]) (n := 1) hx hb hml hown hts hK hlo hG (g_frI d440 (fun lo => m_X10_there l dd cT lo C440 ba1 (12 : Int32) e440) lo) qM_L_178 qI_yX10_there qS_X10_yX10_there qN_X10 qC_yX10_there (by decide +kernel) ⟨Nat.le_of_ble_eq_true rfl, Nat.le_of_ble_eq_true rfl⟩ (by rfl) (g_ob_gj o440) rfl hl.1 rfl (Nat.le_of_ble_eq_true rfl) dL_blocks_440 y440 (fun v440x Gx H locs hKx hG => ?_)
        obtain ⟨D440, ⟨k440a, k440⟩, f440, l440⟩ := hKx
        rw [l440, k440] at hG
        rw [k440] at f440
        rw [k440a]
        rw [← g440] at hG
        obtain ⟨G443, e443, h⟩ := h
        refine g_iast hx hb hK hG e443 dL_blocks_443 (fun H locs hG => ?_)
        refine lv_dup hx hb dL_blocks_444 rfl ?_
        refine lv_bipush (v := (8 : Int32)) hx hb dL_blocks_445 (by decide) ?_
        refine lv_aload_n hx hb dL_blocks_447 rfl (lv_at hl 1 rfl) ?_
        obtain ⟨C448, R448, d448, g448, h⟩ := h
        obtain ⟨u448, o448, h⟩ := h
        obtain ⟨y448, h⟩ := h
        obtain ⟨v448, e448, h⟩ := h
        rw [g448] at hG
        refine g_wVi (As := []) (rest := [.int (8 : Int32), .ref q387, .ref q387]) (n := 0) hx hb hml hown hts hK hlo hG (g_frI d448 (fun lo => m_X10_good l dd cT lo C448 ba1 e448) lo) qM_L_181 qI_yX10_good qS_X10_yX10_good qN_X10 qC_yX10_good (by decide +kernel) ⟨Nat.le_of_ble_eq_true rfl, Nat.le_of_ble_eq_true rfl⟩ (by rfl) (g_ob_gj o448) rfl hl.1 rfl (Nat.le_of_ble_eq_true rfl) dL_blocks_448 y448 (fun v448x Gx H locs hKx hG => ?_)
        obtain ⟨D448, ⟨k448a, k448⟩, f448, l448⟩ := hKx
        rw [l448, k448] at hG
        rw [k448] at f448
        rw [k448a]
        rw [← g448] at hG
        obtain ⟨C451, R451, d451, g451, h⟩ := h
        obtain ⟨y451, h⟩ := h
        obtain ⟨v451, e451, h⟩ := h
        rw [g451] at hG
        refine g_wAi (As := [.int v448]) (rest := [.int (8 : Int32), .ref q387, .ref q387]) (n := 1) hx hb hml hown hts hK hlo hG (g_frI d451 (fun lo => m_J6_bitCount_0f7a4 l dd cT lo C451 v448 e451) lo) qM_L_184 qT_yJ6_bitCount_0f7a4 qN_J6 qC_yJ6_bitCount_0f7a4 (by decide +kernel) ⟨Nat.le_of_ble_eq_true rfl, Nat.le_of_ble_eq_true rfl⟩ rfl hl.1 rfl (Nat.le_of_ble_eq_true rfl) dL_blocks_451 y451 (fun v451x Gx H locs hKx hG => ?_)
        obtain ⟨D451, ⟨k451a, k451⟩, f451, l451⟩ := hKx
        rw [l451, k451] at hG
        rw [k451] at f451
        rw [k451a]
        rw [← g451] at hG
        obtain ⟨G454, e454, h⟩ := h
        refine g_iast hx hb hK hG e454 dL_blocks_454 (fun H locs hG => ?_)
        refine lv_dup hx hb dL_blocks_455 rfl ?_
        refine lv_bipush (v := (9 : Int32)) hx hb dL_blocks_456 (by decide) ?_
        refine lv_aload_n hx hb dL_blocks_458 rfl (lv_at hl 1 rfl) ?_
        obtain ⟨C459, R459, d459, g459, h⟩ := h
        obtain ⟨u459, o459, h⟩ := h
        obtain ⟨y459, h⟩ := h
        obtain ⟨v459, e459, h⟩ := h
        rw [g459] at hG
        refine g_wVq (As := []) (rest := [.int (9 : Int32), .ref q387, .ref q387]) (n := 0) hx hb hml hown hts hK hlo hG (g_frQ d459 (fun lo => m_X10_open l dd cT lo C459 ba1 e459) lo) qM_L_189 qI_yX10_open qS_X10_yX10_open qN_X10 qC_yX10_open (by decide +kernel) ⟨Nat.le_of_ble_eq_true rfl, Nat.le_of_ble_eq_true rfl⟩ (by rfl) (g_ob_gj o459) rfl hl.1 rfl (Nat.le_of_ble_eq_true rfl) dL_blocks_459 y459 (fun v459x Gx H locs hKx hG => ?_)
        obtain ⟨D459, ⟨k459a, k459⟩, f459, l459⟩ := hKx
        rw [l459, k459] at hG
        rw [k459] at f459
        rw [k459a]
        rw [← g459] at hG
        rcases v459 with _ | r459
        · replace h := h.1 rfl
          refine lv_ifnonnullN hx hb dL_blocks_462 ?_
          refine lv_iconst (v := (0 : Int32)) hx hb dL_blocks_465 (by decide) ?_
          refine lv_goto (tgt := 470) hx hb dL_blocks_466 (by decide) ?_
          exact h470 G454 (kc + 1) (ks + 11) ba0 ba1 ba2 bx5 q387 q387 (9 : Int32) (0 : Int32) _ _ hG _ (lv_sub hl [0, 1, 2, 5] rfl) h
        · replace h := h.2 r459 rfl
          refine lv_ifnonnull (tgt := 469) hx hb dL_blocks_462 (by decide) ?_
          refine lv_iconst (v := (1 : Int32)) hx hb dL_blocks_469 (by decide) ?_
          exact h470 G454 (kc + 1) (ks + 11) ba0 ba1 ba2 bx5 q387 q387 (9 : Int32) (1 : Int32) _ _ hG _ (lv_sub hl [0, 1, 2, 5] rfl) h
      · rw [if_neg c361] at h
        refine lv_aload_n hx hb dL_blocks_364 rfl (lv_at hl 0 rfl) ?_
        refine lv_iload hx hb dL_blocks_365 (lv_at hl 6 rfl) ?_
        obtain ⟨C367, R367, d367, g367, h⟩ := h
        obtain ⟨u367, o367, h⟩ := h
        obtain ⟨y367, h⟩ := h
        rw [g367] at hG
        refine g_wVi (As := [.int bx6]) (rest := []) (n := 1) hx hb hml hown hts hK hlo hG (g_frI d367 (fun lo => g_noX (m_X9_space l hfl dd cT lo C367 ba0 bx6 h)) lo) qM_L_170 qI_yX9_space qS_X9_yX9_space qN_X9 qC_yX9_space (by decide +kernel) ⟨Nat.le_of_ble_eq_true rfl, Nat.le_of_ble_eq_true rfl⟩ (by rfl) (g_ob_gj o367) rfl hl.1 rfl (Nat.le_of_ble_eq_true rfl) dL_blocks_367 y367 (fun v367x Gx H locs hKx hG => ?_)
        obtain ⟨D367, h, f367, rfl⟩ := hKx
        obtain ⟨G367, i367⟩ : ∃ g : gH, g = gj D367 R367 := ⟨_, rfl⟩
        rw [← i367] at hG
        replace h := h G367 f367 i367
        revert h
        generalize v367x = v367
        intro h
        refine lv_aload_n hx hb dL_blocks_370 rfl (lv_at hl 2 rfl) ?_
        refine lv_iload hx hb dL_blocks_371 (lv_at hl 6 rfl) ?_
        obtain ⟨v373, e373, h⟩ := h
        refine g_iald hx hb hK hG e373 dL_blocks_373 ?_
        refine lv_icmp_eq (tgt := 379) hx hb dL_blocks_374 (by decide) (fun c374 => ?_) (fun c374 => ?_)
        · rw [if_pos c374] at h
          refine lv_iinc (v := (bx6 + (1 : Int32))) (lv' := [(6, .int (bx6 + (1 : Int32))), (0, .ref ba0), (1, .ref ba1), (2, .ref ba2), (3, .int bx3), (4, .int bx4), (5, .int bx5)]) hx hb dL_blocks_379 hl (k := 6) rfl rfl (by decide) rfl (fun ls hl => ?_)
          refine lv_goto (tgt := 358) hx hb dL_blocks_382 (by decide) ?_
          exact ih358 G367 (kc + 1) (ks + 6) ba0 ba1 ba2 bx3 bx4 bx5 (bx6 + (1 : Int32)) _ _ hG _ (lv_sub hl [1, 2, 3, 4, 5, 6, 0] rfl) h
        · rw [if_neg c374] at h
          refine lv_iconst (v := (0 : Int32)) hx hb dL_blocks_377 (by decide) ?_
          obtain ⟨y1, y2, h⟩ := h
          refine W.widen (k := MC) (n := MS) y1 y2 ?_
          exact g_zret hx hb hr hlocks hK hlo hG rfl h dL_blocks_378
  have h15 : ∀ n15 : Nat, ∀ (G : gH) (kc ks : Nat) (ba0 : Nat) (ba1 : Nat) (ba2 : Nat) (bx3 : Int32) (bx4 : Int32) (bx5 : Int32) (bx6 : Int32) (H : Heap) (locs : List Loc), g_S lo dd cT s H locs G → ∀ ls : Array Slot, lv_has ls 9 [(0, .ref ba0), (1, .ref ba1), (2, .ref ba2), (3, .int bx3), (4, .int bx4), (5, .int bx5), (6, .int bx6)] → w_L_blocks_L15 MC MS K n15 G kc ks ba0 ba1 ba2 bx3 bx4 bx5 bx6 → W p l e (g_rm 9 204 MC MS) s m ([.ref a0, .ref a1] : List Value).toArray below meth c H locs kc ks (MQ below (va_Qi K (g_Pre lo dd cT) (g_A lo)) ([.ref a0, .ref a1] : List Value).toArray s MC MS (g_A lo)) (F0 m 15 ls []) := by
    intro n15
    induction n15 with
    | zero =>
      intro G kc ks ba0 ba1 ba2 bx3 bx4 bx5 bx6 H locs hG ls hl h
      exact (show False from h).elim
    | succ n15 ih15 =>
      have h278 : ∀ (G : gH) (kc ks : Nat) (ba0 : Nat) (ba1 : Nat) (ba2 : Nat) (bx3 : Int32) (bx4 : Int32) (bx5 : Int32) (bx6 : Int32) (z0 : Int32) (z1 : Int32) (H : Heap) (locs : List Loc), g_S lo dd cT s H locs G → ∀ ls : Array Slot, lv_has ls 9 [(0, .ref ba0), (1, .ref ba1), (2, .ref ba2), (3, .int bx3), (4, .int bx4), (5, .int bx5), (6, .int bx6)] → w_L_blocks_J278 MC MS K (w_L_blocks_L15 MC MS K n15) G kc ks ba0 ba1 ba2 bx3 bx4 bx5 bx6 z0 z1 → W p l e (g_rm 9 204 MC MS) s m ([.ref a0, .ref a1] : List Value).toArray below meth c H locs kc ks (MQ below (va_Qi K (g_Pre lo dd cT) (g_A lo)) ([.ref a0, .ref a1] : List Value).toArray s MC MS (g_A lo)) (F0 m 278 ls [.int z1, .int z0]) := by
        intro G kc ks ba0 ba1 ba2 bx3 bx4 bx5 bx6 z0 z1 H locs hG ls hl h
        unfold w_L_blocks_J278 at h
        refine lv_icmp_eq (tgt := 283) hx hb dL_blocks_278 (by decide) (fun c278 => ?_) (fun c278 => ?_)
        · rw [if_pos c278] at h
          refine lv_aload_n hx hb dL_blocks_283 rfl (lv_at hl 1 rfl) ?_
          obtain ⟨v284, e284, h⟩ := h
          refine g_getrN hx hb hts inlX10 hown hK hG (by rfl) 11 (by decide) (List.mem_of_getElem? (i := 11) rfl) e284 dL_blocks_284 ?_
          refine lv_iload hx hb dL_blocks_287 (lv_at hl 6 rfl) ?_
          obtain ⟨v289, e289, h⟩ := h
          refine g_iald hx hb hK hG e289 dL_blocks_289 ?_
          refine lv_if_lt (tgt := 349) hx hb dL_blocks_290 (by decide) (fun c290 => ?_) (fun c290 => ?_)
          · rw [if_pos c290] at h
            refine lv_iinc (v := (bx6 + (1 : Int32))) (lv' := [(6, .int (bx6 + (1 : Int32))), (0, .ref ba0), (1, .ref ba1), (2, .ref ba2), (3, .int bx3), (4, .int bx4), (5, .int bx5)]) hx hb dL_blocks_349 hl (k := 6) rfl rfl (by decide) rfl (fun ls hl => ?_)
            refine lv_goto (tgt := 15) hx hb dL_blocks_352 (by decide) ?_
            exact ih15 G kc ks ba0 ba1 ba2 bx3 bx4 bx5 (bx6 + (1 : Int32)) _ _ hG _ (lv_sub hl [1, 2, 3, 4, 5, 6, 0] rfl) h
          · rw [if_neg c290] at h
            refine lv_aload_n hx hb dL_blocks_293 rfl (lv_at hl 1 rfl) ?_
            obtain ⟨v294, e294, h⟩ := h
            refine g_getrN hx hb hts inlX10 hown hK hG (by rfl) 16 (by decide) (List.mem_of_getElem? (i := 12) rfl) e294 dL_blocks_294 ?_
            refine lv_aload_n hx hb dL_blocks_297 rfl (lv_at hl 1 rfl) ?_
            obtain ⟨v298, e298, h⟩ := h
            refine g_getrN hx hb hts inlX10 hown hK hG (by rfl) 8 (by decide) (List.mem_of_getElem? (i := 6) rfl) e298 dL_blocks_298 ?_
            refine lv_iload hx hb dL_blocks_301 (lv_at hl 6 rfl) ?_
            obtain ⟨v303, e303, h⟩ := h
            refine g_iald hx hb hK hG e303 dL_blocks_303 ?_
            obtain ⟨v304, e304, h⟩ := h
            refine g_rald_row hx hb hK hG (t := 5) rfl e304 dL_blocks_304 ?_
            rcases v304 with _ | r304
            · replace h := h.1 rfl
              exact (show False from h).elim
            · replace h := h.2 r304 rfl
              obtain ⟨v305, e305, h⟩ := h
              refine g_getiN hx hb hts inlX12 hown hK hG (by rfl) 0 (by decide) (List.mem_of_getElem? (i := 13) rfl) e305 dL_blocks_305 ?_
              refine lv_iconst (v := (2 : Int32)) hx hb dL_blocks_308 (by decide) ?_
              refine lv_icmp_ne (tgt := 315) hx hb dL_blocks_309 (by decide) (fun c309 => ?_) (fun c309 => ?_)
              · rw [if_neg c309] at h
                refine lv_aload_n hx hb dL_blocks_315 rfl (lv_at hl 0 rfl) ?_
                refine lv_iload hx hb dL_blocks_316 (lv_at hl 5 rfl) ?_
                refine lv_iconst (v := (0 : Int32)) hx hb dL_blocks_318 (by decide) ?_
                obtain ⟨C319, R319, d319, g319, h⟩ := h
                obtain ⟨u319, o319, h⟩ := h
                obtain ⟨y319, h⟩ := h
                obtain ⟨v319, e319, h⟩ := h
                rw [g319] at hG
                refine g_wVi (As := [.int bx5, .int (0 : Int32)]) (rest := []) (n := 2) hx hb hml hown hts hK hlo hG (g_frI d319 (fun lo => m_X9_defect l dd cT lo C319 ba0 bx5 (0 : Int32) e319) lo) qM_L_166 qI_yX9_defect qS_X9_yX9_defect qN_X9 qC_yX9_defect (by decide +kernel) ⟨Nat.le_of_ble_eq_true rfl, Nat.le_of_ble_eq_true rfl⟩ (by rfl) (g_ob_gj o319) rfl hl.1 rfl (Nat.le_of_ble_eq_true rfl) dL_blocks_319 y319 (fun v319x Gx H locs hKx hG => ?_)
                obtain ⟨D319, ⟨k319a, k319⟩, f319, l319⟩ := hKx
                rw [l319, k319] at hG
                rw [k319] at f319
                rw [k319a]
                rw [← g319] at hG
                refine lv_iload hx hb dL_blocks_322 (lv_at hl 6 rfl) ?_
                refine lv_icmp_ne (tgt := 344) hx hb dL_blocks_324 (by decide) (fun c324 => ?_) (fun c324 => ?_)
                · rw [if_neg c324] at h
                  refine lv_iconst (v := (0 : Int32)) hx hb dL_blocks_344 (by decide) ?_
                  obtain ⟨y1, y2, h⟩ := h
                  refine W.widen (k := MC) (n := MS) y1 y2 ?_
                  exact g_zret hx hb hr hlocks hK hlo hG rfl h dL_blocks_345
                · rw [if_pos c324] at h
                  refine lv_aload_n hx hb dL_blocks_327 rfl (lv_at hl 0 rfl) ?_
                  refine lv_iload hx hb dL_blocks_328 (lv_at hl 5 rfl) ?_
                  refine lv_iconst (v := (1 : Int32)) hx hb dL_blocks_330 (by decide) ?_
                  obtain ⟨C331, R331, d331, g331, h⟩ := h
                  obtain ⟨u331, o331, h⟩ := h
                  obtain ⟨y331, h⟩ := h
                  obtain ⟨v331, e331, h⟩ := h
                  rw [g331] at hG
                  refine g_wVi (As := [.int bx5, .int (1 : Int32)]) (rest := []) (n := 2) hx hb hml hown hts hK hlo hG (g_frI d331 (fun lo => m_X9_defect l dd cT lo C331 ba0 bx5 (1 : Int32) e331) lo) qM_L_166 qI_yX9_defect qS_X9_yX9_defect qN_X9 qC_yX9_defect (by decide +kernel) ⟨Nat.le_of_ble_eq_true rfl, Nat.le_of_ble_eq_true rfl⟩ (by rfl) (g_ob_gj o331) rfl hl.1 rfl (Nat.le_of_ble_eq_true rfl) dL_blocks_331 y331 (fun v331x Gx H locs hKx hG => ?_)
                  obtain ⟨D331, ⟨k331a, k331⟩, f331, l331⟩ := hKx
                  rw [l331, k331] at hG
                  rw [k331] at f331
                  rw [k331a]
                  rw [← g331] at hG
                  refine lv_aload_n hx hb dL_blocks_334 rfl (lv_at hl 1 rfl) ?_
                  obtain ⟨v335, e335, h⟩ := h
                  refine g_getrN hx hb hts inlX10 hown hK hG (by rfl) 11 (by decide) (List.mem_of_getElem? (i := 11) rfl) e335 dL_blocks_335 ?_
                  refine lv_iload hx hb dL_blocks_338 (lv_at hl 6 rfl) ?_
                  obtain ⟨v340, e340, h⟩ := h
                  refine g_iald hx hb hK hG e340 dL_blocks_340 ?_
                  refine lv_icmp_eq (tgt := 346) hx hb dL_blocks_341 (by decide) (fun c341 => ?_) (fun c341 => ?_)
                  · rw [if_pos c341] at h
                    refine lv_iinc (v := (bx5 + (1 : Int32))) (lv' := [(5, .int (bx5 + (1 : Int32))), (0, .ref ba0), (1, .ref ba1), (2, .ref ba2), (3, .int bx3), (4, .int bx4), (6, .int bx6)]) hx hb dL_blocks_346 hl (k := 5) rfl rfl (by decide) rfl (fun ls hl => ?_)
                    refine lv_iinc (v := (bx6 + (1 : Int32))) (lv' := [(6, .int (bx6 + (1 : Int32))), (5, .int (bx5 + (1 : Int32))), (0, .ref ba0), (1, .ref ba1), (2, .ref ba2), (3, .int bx3), (4, .int bx4)]) hx hb dL_blocks_349 hl (k := 6) rfl rfl (by decide) rfl (fun ls hl => ?_)
                    refine lv_goto (tgt := 15) hx hb dL_blocks_352 (by decide) ?_
                    exact ih15 G kc ks ba0 ba1 ba2 bx3 bx4 (bx5 + (1 : Int32)) (bx6 + (1 : Int32)) _ _ hG _ (lv_sub hl [2, 3, 4, 5, 6, 1, 0] rfl) h
                  · rw [if_neg c341] at h
                    refine lv_iconst (v := (0 : Int32)) hx hb dL_blocks_344 (by decide) ?_
                    obtain ⟨y1, y2, h⟩ := h
                    refine W.widen (k := MC) (n := MS) y1 y2 ?_
                    exact g_zret hx hb hr hlocks hK hlo hG rfl h dL_blocks_345
              · rw [if_pos c309] at h
                refine lv_goto (tgt := 349) hx hb dL_blocks_312 (by decide) ?_
                refine lv_iinc (v := (bx6 + (1 : Int32))) (lv' := [(6, .int (bx6 + (1 : Int32))), (0, .ref ba0), (1, .ref ba1), (2, .ref ba2), (3, .int bx3), (4, .int bx4), (5, .int bx5)]) hx hb dL_blocks_349 hl (k := 6) rfl rfl (by decide) rfl (fun ls hl => ?_)
                refine lv_goto (tgt := 15) hx hb dL_blocks_352 (by decide) ?_
                exact ih15 G kc ks ba0 ba1 ba2 bx3 bx4 bx5 (bx6 + (1 : Int32)) _ _ hG _ (lv_sub hl [1, 2, 3, 4, 5, 6, 0] rfl) h
        · rw [if_neg c278] at h
          refine lv_iconst (v := (0 : Int32)) hx hb dL_blocks_281 (by decide) ?_
          obtain ⟨y1, y2, h⟩ := h
          refine W.widen (k := MC) (n := MS) y1 y2 ?_
          exact g_zret hx hb hr hlocks hK hlo hG rfl h dL_blocks_282
      have h196 : ∀ n196 : Nat, ∀ (G : gH) (kc ks : Nat) (ba0 : Nat) (ba1 : Nat) (ba2 : Nat) (bx3 : Int32) (bx4 : Int32) (bx5 : Int32) (bx6 : Int32) (ba7 : Nat) (bx8 : Int32) (H : Heap) (locs : List Loc), g_S lo dd cT s H locs G → ∀ ls : Array Slot, lv_has ls 9 [(0, .ref ba0), (1, .ref ba1), (2, .ref ba2), (3, .int bx3), (4, .int bx4), (5, .int bx5), (6, .int bx6), (7, .ref ba7), (8, .int bx8)] → w_L_blocks_L196 MC MS K (w_L_blocks_L15 MC MS K n15) n196 G kc ks ba0 ba1 ba2 bx3 bx4 bx5 bx6 ba7 bx8 → W p l e (g_rm 9 204 MC MS) s m ([.ref a0, .ref a1] : List Value).toArray below meth c H locs kc ks (MQ below (va_Qi K (g_Pre lo dd cT) (g_A lo)) ([.ref a0, .ref a1] : List Value).toArray s MC MS (g_A lo)) (F0 m 196 ls []) := by
        intro n196
        induction n196 with
        | zero =>
          intro G kc ks ba0 ba1 ba2 bx3 bx4 bx5 bx6 ba7 bx8 H locs hG ls hl h
          exact (show False from h).elim
        | succ n196 ih196 =>
          intro G kc ks ba0 ba1 ba2 bx3 bx4 bx5 bx6 ba7 bx8 H locs hG ls hl h
          rw [w_L_blocks_L196] at h
          refine lv_iload hx hb dL_blocks_196 (lv_at hl 8 rfl) ?_
          refine lv_bipush (v := (7 : Int32)) hx hb dL_blocks_198 (by decide) ?_
          refine lv_icmp_ge (tgt := 227) hx hb dL_blocks_200 (by decide) (fun c200 => ?_) (fun c200 => ?_)
          · rw [if_pos c200] at h
            refine lv_aload_n hx hb dL_blocks_227 rfl (lv_at hl 0 rfl) ?_
            refine lv_iload hx hb dL_blocks_228 (lv_at hl 6 rfl) ?_
            obtain ⟨C230, R230, d230, g230, h⟩ := h
            obtain ⟨u230, o230, h⟩ := h
            obtain ⟨y230, h⟩ := h
            rw [g230] at hG
            refine g_wVi (As := [.int bx6]) (rest := []) (n := 1) hx hb hml hown hts hK hlo hG (g_frI d230 (fun lo => g_noX (m_X9_place l hfl dd cT lo C230 ba0 bx6 h)) lo) qM_L_151 qI_yX9_place qS_X9_yX9_place qN_X9 qC_yX9_place (by decide +kernel) ⟨Nat.le_of_ble_eq_true rfl, Nat.le_of_ble_eq_true rfl⟩ (by rfl) (g_ob_gj o230) rfl hl.1 rfl (Nat.le_of_ble_eq_true rfl) dL_blocks_230 y230 (fun v230x Gx H locs hKx hG => ?_)
            obtain ⟨D230, h, f230, rfl⟩ := hKx
            obtain ⟨G230, i230⟩ : ∃ g : gH, g = gj D230 R230 := ⟨_, rfl⟩
            rw [← i230] at hG
            replace h := h G230 f230 i230
            revert h
            generalize v230x = v230
            intro h
            refine lv_iload hx hb dL_blocks_233 (lv_at hl 6 rfl) ?_
            refine lv_aload_n hx hb dL_blocks_235 rfl (lv_at hl 1 rfl) ?_
            obtain ⟨C236, R236, d236, g236, h⟩ := h
            obtain ⟨u236, o236, h⟩ := h
            obtain ⟨y236, h⟩ := h
            obtain ⟨v236, e236, h⟩ := h
            rw [g236] at hG
            refine g_wVi (As := []) (rest := [.int bx6, .int v230]) (n := 0) hx hb hml hown hts hK hlo hG (g_frI d236 (fun lo => m_X10_main l dd cT lo C236 ba1 e236) lo) qM_L_121 qI_yX10_main qS_X10_yX10_main qN_X10 qC_yX10_main (by decide +kernel) ⟨Nat.le_of_ble_eq_true rfl, Nat.le_of_ble_eq_true rfl⟩ (by rfl) (g_ob_gj o236) rfl hl.1 rfl (Nat.le_of_ble_eq_true rfl) dL_blocks_236 y236 (fun v236x Gx H locs hKx hG => ?_)
            obtain ⟨D236, ⟨k236a, k236⟩, f236, l236⟩ := hKx
            rw [l236, k236] at hG
            rw [k236] at f236
            rw [k236a]
            rw [← g236] at hG
            refine lv_icmp_ge (tgt := 252) hx hb dL_blocks_239 (by decide) (fun c239 => ?_) (fun c239 => ?_)
            · rw [if_pos c239] at h
              refine lv_iconst (v := (-1 : Int32)) hx hb dL_blocks_252 (by decide) ?_
              refine lv_goto (tgt := 278) hx hb dL_blocks_253 (by decide) ?_
              exact h278 G230 (kc + 1) (ks + 6) ba0 ba1 ba2 bx3 bx4 bx5 bx6 v230 (-1 : Int32) _ _ hG _ (lv_sub hl [0, 1, 2, 3, 4, 5, 6] rfl) h
            · rw [if_neg c239] at h
              refine lv_aload_n hx hb dL_blocks_242 rfl (lv_at hl 1 rfl) ?_
              obtain ⟨v243, e243, h⟩ := h
              refine g_getrN hx hb hts inlX10 hown hK hG (by rfl) 7 (by decide) (List.mem_of_getElem? (i := 4) rfl) e243 dL_blocks_243 ?_
              refine lv_iload hx hb dL_blocks_246 (lv_at hl 6 rfl) ?_
              obtain ⟨v248, e248, h⟩ := h
              refine g_iald hx hb hK hG e248 dL_blocks_248 ?_
              refine lv_if_ne (tgt := 256) hx hb dL_blocks_249 (by decide) (fun c249 => ?_) (fun c249 => ?_)
              · rw [if_neg c249] at h
                refine lv_aload_n hx hb dL_blocks_256 rfl (lv_at hl 1 rfl) ?_
                obtain ⟨v257, e257, h⟩ := h
                refine g_getrN hx hb hts inlX10 hown hK hG (by rfl) 11 (by decide) (List.mem_of_getElem? (i := 11) rfl) e257 dL_blocks_257 ?_
                refine lv_iload hx hb dL_blocks_260 (lv_at hl 6 rfl) ?_
                obtain ⟨v262, e262, h⟩ := h
                refine g_iald hx hb hK hG e262 dL_blocks_262 ?_
                refine lv_if_ge (tgt := 271) hx hb dL_blocks_263 (by decide) (fun c263 => ?_) (fun c263 => ?_)
                · rw [if_pos c263] at h
                  refine lv_aload_n hx hb dL_blocks_271 rfl (lv_at hl 1 rfl) ?_
                  obtain ⟨v272, e272, h⟩ := h
                  refine g_getrN hx hb hts inlX10 hown hK hG (by rfl) 11 (by decide) (List.mem_of_getElem? (i := 11) rfl) e272 dL_blocks_272 ?_
                  refine lv_iload hx hb dL_blocks_275 (lv_at hl 6 rfl) ?_
                  obtain ⟨v277, e277, h⟩ := h
                  refine g_iald hx hb hK hG e277 dL_blocks_277 ?_
                  exact h278 G230 (kc + 1) (ks + 6) ba0 ba1 ba2 bx3 bx4 bx5 bx6 v230 v277 _ _ hG _ (lv_sub hl [0, 1, 2, 3, 4, 5, 6] rfl) h
                · rw [if_neg c263] at h
                  refine lv_iload hx hb dL_blocks_266 (lv_at hl 6 rfl) ?_
                  refine lv_goto (tgt := 278) hx hb dL_blocks_268 (by decide) ?_
                  exact h278 G230 (kc + 1) (ks + 6) ba0 ba1 ba2 bx3 bx4 bx5 bx6 v230 bx6 _ _ hG _ (lv_sub hl [0, 1, 2, 3, 4, 5, 6] rfl) h
              · rw [if_pos c249] at h
                refine lv_iconst (v := (-1 : Int32)) hx hb dL_blocks_252 (by decide) ?_
                refine lv_goto (tgt := 278) hx hb dL_blocks_253 (by decide) ?_
                exact h278 G230 (kc + 1) (ks + 6) ba0 ba1 ba2 bx3 bx4 bx5 bx6 v230 (-1 : Int32) _ _ hG _ (lv_sub hl [0, 1, 2, 3, 4, 5, 6] rfl) h
          · rw [if_neg c200] at h
            refine lv_aload_n hx hb dL_blocks_203 rfl (lv_at hl 0 rfl) ?_
            refine lv_iload hx hb dL_blocks_204 (lv_at hl 6 rfl) ?_
            refine lv_iload hx hb dL_blocks_206 (lv_at hl 8 rfl) ?_
            obtain ⟨C208, R208, d208, g208, h⟩ := h
            obtain ⟨u208, o208, h⟩ := h
            obtain ⟨y208, h⟩ := h
            rw [g208] at hG
            refine g_wVi (As := [.int bx6, .int bx8]) (rest := []) (n := 2) hx hb hml hown hts hK hlo hG (g_frI d208 (fun lo => g_noX (m_X9_block l hfl dd cT lo C208 ba0 bx6 bx8 h)) lo) qM_L_148 qI_yX9_block qS_X9_yX9_block qN_X9 qC_yX9_block (by decide +kernel) ⟨Nat.le_of_ble_eq_true rfl, Nat.le_of_ble_eq_true rfl⟩ (by rfl) (g_ob_gj o208) rfl hl.1 rfl (Nat.le_of_ble_eq_true rfl) dL_blocks_208 y208 (fun v208x Gx H locs hKx hG => ?_)
            obtain ⟨D208, h, f208, rfl⟩ := hKx
            obtain ⟨G208, i208⟩ : ∃ g : gH, g = gj D208 R208 := ⟨_, rfl⟩
            rw [← i208] at hG
            replace h := h G208 f208 i208
            revert h
            generalize v208x = v208
            intro h
            refine lv_aload hx hb dL_blocks_211 (lv_at hl 7 rfl) ?_
            refine lv_iload hx hb dL_blocks_213 (lv_at hl 8 rfl) ?_
            obtain ⟨v215, e215, h⟩ := h
            refine g_iald hx hb hK hG e215 dL_blocks_215 ?_
            refine lv_icmp_eq (tgt := 221) hx hb dL_blocks_216 (by decide) (fun c216 => ?_) (fun c216 => ?_)
            · rw [if_pos c216] at h
              refine lv_iinc (v := (bx8 + (1 : Int32))) (lv' := [(8, .int (bx8 + (1 : Int32))), (0, .ref ba0), (1, .ref ba1), (2, .ref ba2), (3, .int bx3), (4, .int bx4), (5, .int bx5), (6, .int bx6), (7, .ref ba7)]) hx hb dL_blocks_221 hl (k := 8) rfl rfl (by decide) rfl (fun ls hl => ?_)
              refine lv_goto (tgt := 196) hx hb dL_blocks_224 (by decide) ?_
              exact ih196 G208 (kc + 2) (ks + 12) ba0 ba1 ba2 bx3 bx4 bx5 bx6 ba7 (bx8 + (1 : Int32)) _ _ hG _ (lv_sub hl [1, 2, 3, 4, 5, 6, 7, 8, 0] rfl) h
            · rw [if_neg c216] at h
              refine lv_iconst (v := (0 : Int32)) hx hb dL_blocks_219 (by decide) ?_
              obtain ⟨y1, y2, h⟩ := h
              refine W.widen (k := MC) (n := MS) y1 y2 ?_
              exact g_zret hx hb hr hlocks hK hlo hG rfl h dL_blocks_220
      have h169 : ∀ (G : gH) (kc ks : Nat) (ba0 : Nat) (ba1 : Nat) (ba2 : Nat) (bx3 : Int32) (bx4 : Int32) (bx5 : Int32) (bx6 : Int32) (z0 : Nat) (z1 : Nat) (z2 : Int32) (z3 : Int32) (H : Heap) (locs : List Loc), g_S lo dd cT s H locs G → ∀ ls : Array Slot, lv_has ls 9 [(0, .ref ba0), (1, .ref ba1), (2, .ref ba2), (3, .int bx3), (4, .int bx4), (5, .int bx5), (6, .int bx6)] → w_L_blocks_J169 MC MS K (w_L_blocks_L15 MC MS K n15) G kc ks ba0 ba1 ba2 bx3 bx4 bx5 bx6 z0 z1 z2 z3 → W p l e (g_rm 9 204 MC MS) s m ([.ref a0, .ref a1] : List Value).toArray below meth c H locs kc ks (MQ below (va_Qi K (g_Pre lo dd cT) (g_A lo)) ([.ref a0, .ref a1] : List Value).toArray s MC MS (g_A lo)) (F0 m 169 ls [.int z3, .int z2, .ref z1, .ref z0]) := by
        intro G kc ks ba0 ba1 ba2 bx3 bx4 bx5 bx6 z0 z1 z2 z3 H locs hG ls hl h
        unfold w_L_blocks_J169 at h
        obtain ⟨G169, e169, h⟩ := h
        refine g_iast hx hb hK hG e169 dL_blocks_169 (fun H locs hG => ?_)
        refine lv_dup hx hb dL_blocks_170 rfl ?_
        refine lv_iconst (v := (5 : Int32)) hx hb dL_blocks_171 (by decide) ?_
        refine lv_aload_n hx hb dL_blocks_172 rfl (lv_at hl 1 rfl) ?_
        obtain ⟨v173, e173, h⟩ := h
        refine g_getrN hx hb hts inlX10 hown hK hG (by rfl) 9 (by decide) (List.mem_of_getElem? (i := 9) rfl) e173 dL_blocks_173 ?_
        refine lv_iload hx hb dL_blocks_176 (lv_at hl 6 rfl) ?_
        obtain ⟨v178, e178, h⟩ := h
        refine g_iald hx hb hK hG e178 dL_blocks_178 ?_
        obtain ⟨G179, e179, h⟩ := h
        refine g_iast hx hb hK hG e179 dL_blocks_179 (fun H locs hG => ?_)
        refine lv_dup hx hb dL_blocks_180 rfl ?_
        refine lv_bipush (v := (6 : Int32)) hx hb dL_blocks_181 (by decide) ?_
        refine lv_aload_n hx hb dL_blocks_183 rfl (lv_at hl 1 rfl) ?_
        obtain ⟨v184, e184, h⟩ := h
        refine g_getrN hx hb hts inlX10 hown hK hG (by rfl) 10 (by decide) (List.mem_of_getElem? (i := 10) rfl) e184 dL_blocks_184 ?_
        refine lv_iload hx hb dL_blocks_187 (lv_at hl 6 rfl) ?_
        obtain ⟨v189, e189, h⟩ := h
        refine g_iald hx hb hK hG e189 dL_blocks_189 ?_
        obtain ⟨G190, e190, h⟩ := h
        refine g_iast hx hb hK hG e190 dL_blocks_190 (fun H locs hG => ?_)
        refine lv_astore (lv' := [(7, .ref z0), (0, .ref ba0), (1, .ref ba1), (2, .ref ba2), (3, .int bx3), (4, .int bx4), (5, .int bx5), (6, .int bx6)]) hx hb dL_blocks_191 hl (by decide) rfl (fun ls hl => ?_)
        refine lv_iconst (v := (0 : Int32)) hx hb dL_blocks_193 (by decide) ?_
        refine lv_istore (lv' := [(8, .int (0 : Int32)), (7, .ref z0), (0, .ref ba0), (1, .ref ba1), (2, .ref ba2), (3, .int bx3), (4, .int bx4), (5, .int bx5), (6, .int bx6)]) hx hb dL_blocks_194 hl (by decide) rfl (fun ls hl => ?_)
        exact h196 g_N G190 kc ks ba0 ba1 ba2 bx3 bx4 bx5 bx6 z0 (0 : Int32) _ _ hG _ (lv_sub hl [2, 3, 4, 5, 6, 7, 8, 1, 0] rfl) h
      have h132 : ∀ (G : gH) (kc ks : Nat) (ba0 : Nat) (ba1 : Nat) (ba2 : Nat) (bx3 : Int32) (bx4 : Int32) (bx5 : Int32) (bx6 : Int32) (z0 : Nat) (z1 : Nat) (z2 : Int32) (z3 : Int32) (H : Heap) (locs : List Loc), g_S lo dd cT s H locs G → ∀ ls : Array Slot, lv_has ls 9 [(0, .ref ba0), (1, .ref ba1), (2, .ref ba2), (3, .int bx3), (4, .int bx4), (5, .int bx5), (6, .int bx6)] → w_L_blocks_J132 MC MS K (w_L_blocks_L15 MC MS K n15) G kc ks ba0 ba1 ba2 bx3 bx4 bx5 bx6 z0 z1 z2 z3 → W p l e (g_rm 9 204 MC MS) s m ([.ref a0, .ref a1] : List Value).toArray below meth c H locs kc ks (MQ below (va_Qi K (g_Pre lo dd cT) (g_A lo)) ([.ref a0, .ref a1] : List Value).toArray s MC MS (g_A lo)) (F0 m 132 ls [.int z3, .int z2, .ref z1, .ref z0]) := by
        intro G kc ks ba0 ba1 ba2 bx3 bx4 bx5 bx6 z0 z1 z2 z3 H locs hG ls hl h
        unfold w_L_blocks_J132 at h
        obtain ⟨G132, e132, h⟩ := h
        refine g_iast hx hb hK hG e132 dL_blocks_132 (fun H locs hG => ?_)
        refine lv_dup hx hb dL_blocks_133 rfl ?_
        refine lv_iconst (v := (3 : Int32)) hx hb dL_blocks_134 (by decide) ?_
        refine lv_aload_n hx hb dL_blocks_135 rfl (lv_at hl 1 rfl) ?_
        obtain ⟨v136, e136, h⟩ := h
        refine g_getrN hx hb hts inlX10 hown hK hG (by rfl) 8 (by decide) (List.mem_of_getElem? (i := 6) rfl) e136 dL_blocks_136 ?_
        refine lv_iload hx hb dL_blocks_139 (lv_at hl 6 rfl) ?_
        obtain ⟨v141, e141, h⟩ := h
        refine g_iald hx hb hK hG e141 dL_blocks_141 ?_
        obtain ⟨G142, e142, h⟩ := h
        refine g_iast hx hb hK hG e142 dL_blocks_142 (fun H locs hG => ?_)
        refine lv_dup hx hb dL_blocks_143 rfl ?_
        refine lv_iconst (v := (4 : Int32)) hx hb dL_blocks_144 (by decide) ?_
        refine lv_aload_n hx hb dL_blocks_145 rfl (lv_at hl 1 rfl) ?_
        obtain ⟨v146, e146, h⟩ := h
        refine g_getrN hx hb hts inlX10 hown hK hG (by rfl) 14 (by decide) (List.mem_of_getElem? (i := 7) rfl) e146 dL_blocks_146 ?_
        refine lv_iload hx hb dL_blocks_149 (lv_at hl 6 rfl) ?_
        obtain ⟨v151, e151, h⟩ := h
        refine g_rald_row hx hb hK hG (t := 6) rfl e151 dL_blocks_151 ?_
        rcases v151 with _ | r151
        · replace h := h.1 rfl
          refine lv_ifnonnullN hx hb dL_blocks_152 ?_
          refine lv_iconst (v := (-1 : Int32)) hx hb dL_blocks_155 (by decide) ?_
          refine lv_goto (tgt := 169) hx hb dL_blocks_156 (by decide) ?_
          exact h169 G142 kc ks ba0 ba1 ba2 bx3 bx4 bx5 bx6 z0 z0 (4 : Int32) (-1 : Int32) _ _ hG _ (lv_sub hl [0, 1, 2, 3, 4, 5, 6] rfl) h
        · replace h := h.2 r151 rfl
          refine lv_ifnonnull (tgt := 159) hx hb dL_blocks_152 (by decide) ?_
          refine lv_aload_n hx hb dL_blocks_159 rfl (lv_at hl 1 rfl) ?_
          obtain ⟨v160, e160, h⟩ := h
          refine g_getrN hx hb hts inlX10 hown hK hG (by rfl) 14 (by decide) (List.mem_of_getElem? (i := 7) rfl) e160 dL_blocks_160 ?_
          refine lv_iload hx hb dL_blocks_163 (lv_at hl 6 rfl) ?_
          obtain ⟨v165, e165, h⟩ := h
          refine g_rald_row hx hb hK hG (t := 6) rfl e165 dL_blocks_165 ?_
          rcases v165 with _ | r165
          · replace h := h.1 rfl
            exact (show False from h).elim
          · replace h := h.2 r165 rfl
            obtain ⟨v166, e166, h⟩ := h
            refine g_getiN hx hb hts inlX13 hown hK hG (by rfl) 1 (by decide) (List.mem_of_getElem? (i := 8) rfl) e166 dL_blocks_166 ?_
            exact h169 G142 kc ks ba0 ba1 ba2 bx3 bx4 bx5 bx6 z0 z0 (4 : Int32) v166 _ _ hG _ (lv_sub hl [0, 1, 2, 3, 4, 5, 6] rfl) h
      have h114 : ∀ (G : gH) (kc ks : Nat) (ba0 : Nat) (ba1 : Nat) (ba2 : Nat) (bx3 : Int32) (bx4 : Int32) (bx5 : Int32) (bx6 : Int32) (z0 : Nat) (z1 : Nat) (z2 : Int32) (z3 : Int32) (H : Heap) (locs : List Loc), g_S lo dd cT s H locs G → ∀ ls : Array Slot, lv_has ls 9 [(0, .ref ba0), (1, .ref ba1), (2, .ref ba2), (3, .int bx3), (4, .int bx4), (5, .int bx5), (6, .int bx6)] → w_L_blocks_J114 MC MS K (w_L_blocks_L15 MC MS K n15) G kc ks ba0 ba1 ba2 bx3 bx4 bx5 bx6 z0 z1 z2 z3 → W p l e (g_rm 9 204 MC MS) s m ([.ref a0, .ref a1] : List Value).toArray below meth c H locs kc ks (MQ below (va_Qi K (g_Pre lo dd cT) (g_A lo)) ([.ref a0, .ref a1] : List Value).toArray s MC MS (g_A lo)) (F0 m 114 ls [.int z3, .int z2, .ref z1, .ref z0]) := by
        intro G kc ks ba0 ba1 ba2 bx3 bx4 bx5 bx6 z0 z1 z2 z3 H locs hG ls hl h
        unfold w_L_blocks_J114 at h
        obtain ⟨G114, e114, h⟩ := h
        refine g_iast hx hb hK hG e114 dL_blocks_114 (fun H locs hG => ?_)
        refine lv_dup hx hb dL_blocks_115 rfl ?_
        refine lv_iconst (v := (2 : Int32)) hx hb dL_blocks_116 (by decide) ?_
        refine lv_aload_n hx hb dL_blocks_117 rfl (lv_at hl 1 rfl) ?_
        obtain ⟨v118, e118, h⟩ := h
        refine g_getrN hx hb hts inlX10 hown hK hG (by rfl) 13 (by decide) (List.mem_of_getElem? (i := 5) rfl) e118 dL_blocks_118 ?_
        refine lv_iload hx hb dL_blocks_121 (lv_at hl 6 rfl) ?_
        obtain ⟨v123, e123, h⟩ := h
        refine g_zald hx hb hK hG e123 dL_blocks_123 ?_
        refine lv_if_eq (tgt := 131) hx hb dL_blocks_124 (by decide) (fun c124 => ?_) (fun c124 => ?_)
        · rw [if_pos c124] at h
          refine lv_iconst (v := (0 : Int32)) hx hb dL_blocks_131 (by decide) ?_
          exact h132 G114 kc ks ba0 ba1 ba2 bx3 bx4 bx5 bx6 z0 z0 (2 : Int32) (0 : Int32) _ _ hG _ (lv_sub hl [0, 1, 2, 3, 4, 5, 6] rfl) h
        · rw [if_neg c124] at h
          refine lv_iconst (v := (1 : Int32)) hx hb dL_blocks_127 (by decide) ?_
          refine lv_goto (tgt := 132) hx hb dL_blocks_128 (by decide) ?_
          exact h132 G114 kc ks ba0 ba1 ba2 bx3 bx4 bx5 bx6 z0 z0 (2 : Int32) (1 : Int32) _ _ hG _ (lv_sub hl [0, 1, 2, 3, 4, 5, 6] rfl) h
      have h80 : ∀ (G : gH) (kc ks : Nat) (ba0 : Nat) (ba1 : Nat) (ba2 : Nat) (bx3 : Int32) (bx5 : Int32) (bx6 : Int32) (z0 : Int32) (z1 : Int32) (H : Heap) (locs : List Loc), g_S lo dd cT s H locs G → ∀ ls : Array Slot, lv_has ls 9 [(0, .ref ba0), (1, .ref ba1), (2, .ref ba2), (3, .int bx3), (5, .int bx5), (6, .int bx6)] → w_L_blocks_J80 MC MS K (w_L_blocks_L15 MC MS K n15) G kc ks ba0 ba1 ba2 bx3 bx5 bx6 z0 z1 → W p l e (g_rm 9 204 MC MS) s m ([.ref a0, .ref a1] : List Value).toArray below meth c H locs kc ks (MQ below (va_Qi K (g_Pre lo dd cT) (g_A lo)) ([.ref a0, .ref a1] : List Value).toArray s MC MS (g_A lo)) (F0 m 80 ls [.int z1, .int z0]) := by
        intro G kc ks ba0 ba1 ba2 bx3 bx5 bx6 z0 z1 H locs hG ls hl h
        unfold w_L_blocks_J80 at h
        refine lv_iadd hx hb dL_blocks_80 ?_
        refine lv_istore (lv' := [(4, .int (z0 + z1)), (0, .ref ba0), (1, .ref ba1), (2, .ref ba2), (3, .int bx3), (5, .int bx5), (6, .int bx6)]) hx hb dL_blocks_81 hl (by decide) rfl (fun ls hl => ?_)
        refine lv_bipush (v := (7 : Int32)) hx hb dL_blocks_83 (by decide) ?_
        obtain ⟨y85, h⟩ := h
        refine g_newai (N := 7) hx hb hts hK hlo hG (by decide) (by decide) (Nat.le_of_ble_eq_true rfl) y85 dL_blocks_85 (fun q85 H z85 hG => ?_)
        obtain ⟨G85, i85⟩ : ∃ g : gH, g = va_up G q85 (some (.inl (0, 7, fun _ => 0))) := ⟨_, rfl⟩
        rw [← i85] at hG
        replace h := h q85 z85 G85 i85
        refine lv_dup hx hb dL_blocks_87 rfl ?_
        refine lv_iconst (v := (0 : Int32)) hx hb dL_blocks_88 (by decide) ?_
        refine lv_aload_n hx hb dL_blocks_89 rfl (lv_at hl 2 rfl) ?_
        obtain ⟨v90, e90, h⟩ := h
        refine g_getrN hx hb hts inlX10 hown hK hG (by rfl) 7 (by decide) (List.mem_of_getElem? (i := 4) rfl) e90 dL_blocks_90 ?_
        refine lv_iload hx hb dL_blocks_93 (lv_at hl 6 rfl) ?_
        obtain ⟨v95, e95, h⟩ := h
        refine g_iald hx hb hK hG e95 dL_blocks_95 ?_
        obtain ⟨G96, e96, h⟩ := h
        refine g_iast hx hb hK hG e96 dL_blocks_96 (fun H locs hG => ?_)
        refine lv_dup hx hb dL_blocks_97 rfl ?_
        refine lv_iconst (v := (1 : Int32)) hx hb dL_blocks_98 (by decide) ?_
        refine lv_aload_n hx hb dL_blocks_99 rfl (lv_at hl 2 rfl) ?_
        obtain ⟨v100, e100, h⟩ := h
        refine g_getrN hx hb hts inlX10 hown hK hG (by rfl) 12 (by decide) (List.mem_of_getElem? (i := 3) rfl) e100 dL_blocks_100 ?_
        refine lv_iload hx hb dL_blocks_103 (lv_at hl 6 rfl) ?_
        obtain ⟨v105, e105, h⟩ := h
        refine g_zald hx hb hK hG e105 dL_blocks_105 ?_
        refine lv_if_eq (tgt := 113) hx hb dL_blocks_106 (by decide) (fun c106 => ?_) (fun c106 => ?_)
        · rw [if_pos c106] at h
          refine lv_iconst (v := (0 : Int32)) hx hb dL_blocks_113 (by decide) ?_
          exact h114 G96 (kc + 1) (ks + 7) ba0 ba1 ba2 bx3 (z0 + z1) bx5 bx6 q85 q85 (1 : Int32) (0 : Int32) _ _ hG _ (lv_sub hl [1, 2, 3, 4, 0, 5, 6] rfl) h
        · rw [if_neg c106] at h
          refine lv_iconst (v := (1 : Int32)) hx hb dL_blocks_109 (by decide) ?_
          refine lv_goto (tgt := 114) hx hb dL_blocks_110 (by decide) ?_
          exact h114 G96 (kc + 1) (ks + 7) ba0 ba1 ba2 bx3 (z0 + z1) bx5 bx6 q85 q85 (1 : Int32) (1 : Int32) _ _ hG _ (lv_sub hl [1, 2, 3, 4, 0, 5, 6] rfl) h
      have h52 : ∀ (G : gH) (kc ks : Nat) (ba0 : Nat) (ba1 : Nat) (ba2 : Nat) (bx4 : Int32) (bx5 : Int32) (bx6 : Int32) (z0 : Int32) (z1 : Int32) (H : Heap) (locs : List Loc), g_S lo dd cT s H locs G → ∀ ls : Array Slot, lv_has ls 9 [(0, .ref ba0), (1, .ref ba1), (2, .ref ba2), (4, .int bx4), (5, .int bx5), (6, .int bx6)] → w_L_blocks_J52 MC MS K (w_L_blocks_L15 MC MS K n15) G kc ks ba0 ba1 ba2 bx4 bx5 bx6 z0 z1 → W p l e (g_rm 9 204 MC MS) s m ([.ref a0, .ref a1] : List Value).toArray below meth c H locs kc ks (MQ below (va_Qi K (g_Pre lo dd cT) (g_A lo)) ([.ref a0, .ref a1] : List Value).toArray s MC MS (g_A lo)) (F0 m 52 ls [.int z1, .int z0]) := by
        intro G kc ks ba0 ba1 ba2 bx4 bx5 bx6 z0 z1 H locs hG ls hl h
        unfold w_L_blocks_J52 at h
        refine lv_iadd hx hb dL_blocks_52 ?_
        refine lv_istore_n (lv' := [(3, .int (z0 + z1)), (0, .ref ba0), (1, .ref ba1), (2, .ref ba2), (4, .int bx4), (5, .int bx5), (6, .int bx6)]) hx hb dL_blocks_53 rfl hl (by decide) rfl (fun ls hl => ?_)
        refine lv_iload hx hb dL_blocks_54 (lv_at hl 4 rfl) ?_
        refine lv_iload hx hb dL_blocks_56 (lv_at hl 6 rfl) ?_
        refine lv_aload_n hx hb dL_blocks_58 rfl (lv_at hl 2 rfl) ?_
        obtain ⟨C59, R59, d59, g59, h⟩ := h
        obtain ⟨u59, o59, h⟩ := h
        obtain ⟨y59, h⟩ := h
        obtain ⟨v59, e59, h⟩ := h
        rw [g59] at hG
        refine g_wVi (As := []) (rest := [.int bx6, .int bx4]) (n := 0) hx hb hml hown hts hK hlo hG (g_frI d59 (fun lo => m_X10_main l dd cT lo C59 ba1 e59) lo) qM_L_121 qI_yX10_main qS_X10_yX10_main qN_X10 qC_yX10_main (by decide +kernel) ⟨Nat.le_of_ble_eq_true rfl, Nat.le_of_ble_eq_true rfl⟩ (by rfl) (g_ob_gj o59) rfl hl.1 rfl (Nat.le_of_ble_eq_true rfl) dL_blocks_59 y59 (fun v59x Gx H locs hKx hG => ?_)
        obtain ⟨D59, ⟨k59a, k59⟩, f59, l59⟩ := hKx
        rw [l59, k59] at hG
        rw [k59] at f59
        rw [k59a]
        rw [← g59] at hG
        refine lv_icmp_lt (tgt := 79) hx hb dL_blocks_62 (by decide) (fun c62 => ?_) (fun c62 => ?_)
        · rw [if_pos c62] at h
          refine lv_iconst (v := (0 : Int32)) hx hb dL_blocks_79 (by decide) ?_
          exact h80 G kc ks ba0 ba1 ba2 (z0 + z1) bx5 bx6 bx4 (0 : Int32) _ _ hG _ (lv_sub hl [1, 2, 3, 0, 5, 6] rfl) h
        · rw [if_neg c62] at h
          refine lv_aload_n hx hb dL_blocks_65 rfl (lv_at hl 2 rfl) ?_
          obtain ⟨v66, e66, h⟩ := h
          refine g_getrN hx hb hts inlX10 hown hK hG (by rfl) 7 (by decide) (List.mem_of_getElem? (i := 4) rfl) e66 dL_blocks_66 ?_
          refine lv_iload hx hb dL_blocks_69 (lv_at hl 6 rfl) ?_
          obtain ⟨v71, e71, h⟩ := h
          refine g_iald hx hb hK hG e71 dL_blocks_71 ?_
          refine lv_if_ne (tgt := 79) hx hb dL_blocks_72 (by decide) (fun c72 => ?_) (fun c72 => ?_)
          · rw [if_neg c72] at h
            refine lv_iconst (v := (0 : Int32)) hx hb dL_blocks_79 (by decide) ?_
            exact h80 G kc ks ba0 ba1 ba2 (z0 + z1) bx5 bx6 bx4 (0 : Int32) _ _ hG _ (lv_sub hl [1, 2, 3, 0, 5, 6] rfl) h
          · rw [if_pos c72] at h
            refine lv_iconst (v := (1 : Int32)) hx hb dL_blocks_75 (by decide) ?_
            refine lv_goto (tgt := 80) hx hb dL_blocks_76 (by decide) ?_
            exact h80 G kc ks ba0 ba1 ba2 (z0 + z1) bx5 bx6 bx4 (1 : Int32) _ _ hG _ (lv_sub hl [1, 2, 3, 0, 5, 6] rfl) h
      intro G kc ks ba0 ba1 ba2 bx3 bx4 bx5 bx6 H locs hG ls hl h
      rw [w_L_blocks_L15] at h
      refine lv_iload hx hb dL_blocks_15 (lv_at hl 6 rfl) ?_
      refine lv_aload_n hx hb dL_blocks_17 rfl (lv_at hl 1 rfl) ?_
      obtain ⟨v18, e18, h⟩ := h
      refine g_getiN hx hb hts inlX10 hown hK hG (by rfl) 0 (by decide) (List.mem_of_getElem? (i := 0) rfl) e18 dL_blocks_18 ?_
      refine lv_icmp_ge (tgt := 355) hx hb dL_blocks_21 (by decide) (fun c21 => ?_) (fun c21 => ?_)
      · rw [if_pos c21] at h
        refine lv_iconst (v := (0 : Int32)) hx hb dL_blocks_355 (by decide) ?_
        refine lv_istore (lv' := [(6, .int (0 : Int32)), (0, .ref ba0), (1, .ref ba1), (2, .ref ba2), (3, .int bx3), (4, .int bx4), (5, .int bx5)]) hx hb dL_blocks_356 hl (by decide) rfl (fun ls hl => ?_)
        exact h358 g_N G kc ks ba0 ba1 ba2 bx3 bx4 bx5 (0 : Int32) _ _ hG _ (lv_sub hl [1, 2, 3, 4, 5, 6, 0] rfl) h
      · rw [if_neg c21] at h
        refine lv_aload_n hx hb dL_blocks_24 rfl (lv_at hl 2 rfl) ?_
        refine lv_aload_n hx hb dL_blocks_25 rfl (lv_at hl 1 rfl) ?_
        refine lv_iload hx hb dL_blocks_26 (lv_at hl 6 rfl) ?_
        obtain ⟨C28, R28, d28, g28, h⟩ := h
        obtain ⟨u28, o28, h⟩ := h
        obtain ⟨y28, h⟩ := h
        obtain ⟨v28, e28, h⟩ := h
        rw [g28] at hG
        refine g_wVi (As := [.int bx6]) (rest := [.ref ba2]) (n := 1) hx hb hml hown hts hK hlo hG (g_frI d28 (fun lo => m_X10_use l dd cT lo C28 ba1 bx6 e28) lo) qM_L_118 qI_yX10_use qS_X10_yX10_use qN_X10 qC_yX10_use (by decide +kernel) ⟨Nat.le_of_ble_eq_true rfl, Nat.le_of_ble_eq_true rfl⟩ (by rfl) (g_ob_gj o28) rfl hl.1 rfl (Nat.le_of_ble_eq_true rfl) dL_blocks_28 y28 (fun v28x Gx H locs hKx hG => ?_)
        obtain ⟨D28, ⟨k28a, k28⟩, f28, l28⟩ := hKx
        rw [l28, k28] at hG
        rw [k28] at f28
        rw [k28a]
        rw [← g28] at hG
        refine lv_dup2_11 hx hb dL_blocks_31 rfl rfl ?_
        obtain ⟨v32, e32, h⟩ := h
        refine g_iald hx hb hK hG e32 dL_blocks_32 ?_
        refine lv_iconst (v := (1 : Int32)) hx hb dL_blocks_33 (by decide) ?_
        refine lv_iadd hx hb dL_blocks_34 ?_
        obtain ⟨G35, e35, h⟩ := h
        refine g_iast hx hb hK hG e35 dL_blocks_35 (fun H locs hG => ?_)
        refine lv_iload_n hx hb dL_blocks_36 rfl (lv_at hl 3 rfl) ?_
        refine lv_aload_n hx hb dL_blocks_37 rfl (lv_at hl 1 rfl) ?_
        obtain ⟨v38, e38, h⟩ := h
        refine g_getrN hx hb hts inlX10 hown hK hG (by rfl) 12 (by decide) (List.mem_of_getElem? (i := 3) rfl) e38 dL_blocks_38 ?_
        refine lv_iload hx hb dL_blocks_41 (lv_at hl 6 rfl) ?_
        obtain ⟨v43, e43, h⟩ := h
        refine g_zald hx hb hK hG e43 dL_blocks_43 ?_
        refine lv_if_eq (tgt := 51) hx hb dL_blocks_44 (by decide) (fun c44 => ?_) (fun c44 => ?_)
        · rw [if_pos c44] at h
          refine lv_iconst (v := (0 : Int32)) hx hb dL_blocks_51 (by decide) ?_
          exact h52 G35 kc ks ba0 ba1 ba2 bx4 bx5 bx6 bx3 (0 : Int32) _ _ hG _ (lv_sub hl [0, 1, 2, 4, 5, 6] rfl) h
        · rw [if_neg c44] at h
          refine lv_iconst (v := (1 : Int32)) hx hb dL_blocks_47 (by decide) ?_
          refine lv_goto (tgt := 52) hx hb dL_blocks_48 (by decide) ?_
          exact h52 G35 kc ks ba0 ba1 ba2 bx4 bx5 bx6 bx3 (1 : Int32) _ _ hG _ (lv_sub hl [0, 1, 2, 4, 5, 6] rfl) h
  unfold w_L_blocks at h
  refine lv_iconst (v := (5 : Int32)) hx hb dL_blocks_0 (by decide) ?_
  obtain ⟨y1, h⟩ := h
  refine g_newai (N := 5) hx hb hts hK hlo hG (by decide) (by decide) (Nat.le_of_ble_eq_true rfl) y1 dL_blocks_1 (fun q1 H z1 hG => ?_)
  obtain ⟨G1, i1⟩ : ∃ g : gH, g = va_up G q1 (some (.inl (0, 5, fun _ => 0))) := ⟨_, rfl⟩
  rw [← i1] at hG
  replace h := h q1 z1 G1 i1
  refine lv_astore_n (lv' := [(2, .ref q1), (0, .ref a0), (1, .ref a1)]) hx hb dL_blocks_3 rfl hl (by decide) rfl (fun ls hl => ?_)
  refine lv_iconst (v := (0 : Int32)) hx hb dL_blocks_4 (by decide) ?_
  refine lv_istore_n (lv' := [(3, .int (0 : Int32)), (2, .ref q1), (0, .ref a0), (1, .ref a1)]) hx hb dL_blocks_5 rfl hl (by decide) rfl (fun ls hl => ?_)
  refine lv_iconst (v := (0 : Int32)) hx hb dL_blocks_6 (by decide) ?_
  refine lv_istore (lv' := [(4, .int (0 : Int32)), (3, .int (0 : Int32)), (2, .ref q1), (0, .ref a0), (1, .ref a1)]) hx hb dL_blocks_7 hl (by decide) rfl (fun ls hl => ?_)
  refine lv_iconst (v := (0 : Int32)) hx hb dL_blocks_9 (by decide) ?_
  refine lv_istore (lv' := [(5, .int (0 : Int32)), (4, .int (0 : Int32)), (3, .int (0 : Int32)), (2, .ref q1), (0, .ref a0), (1, .ref a1)]) hx hb dL_blocks_10 hl (by decide) rfl (fun ls hl => ?_)
  refine lv_iconst (v := (0 : Int32)) hx hb dL_blocks_12 (by decide) ?_
  refine lv_istore (lv' := [(6, .int (0 : Int32)), (5, .int (0 : Int32)), (4, .int (0 : Int32)), (3, .int (0 : Int32)), (2, .ref q1), (0, .ref a0), (1, .ref a1)]) hx hb dL_blocks_13 hl (by decide) rfl (fun ls hl => ?_)
  exact h15 g_N G1 (0 + 1) (0 + 5) a0 a1 q1 (0 : Int32) (0 : Int32) (0 : Int32) (0 : Int32) _ _ hG _ (lv_sub hl [5, 6, 4, 3, 2, 1, 0] rfl) h

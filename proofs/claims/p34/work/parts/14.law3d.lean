/-! The law's methods that make cells: by program (wip/p34/tools/pwlift.py). -/
set_option maxRecDepth 20000 in
set_option maxHeartbeats 4000000 in
theorem m_L_files (MC MS : Nat) (l : Launch) (hfl : l.stackTraces = false) (dd : va_G) (cT : Nat → ClassId) (lo : Nat → Prop) (G : gH) (a0 : Nat) (a1 : Nat) (a2 : Nat) {K : Int32 → gH → Prop} (h : w_L_files MC MS G a0 a1 a2 K) : Met l yL_files (Cond.code yL_files cL_files 11 (some .boolean) :: wsL_law) (g_rm 8 154 MC MS) (va_Pc [.ref a0, .ref a1, .ref a2] (g_Pre lo dd cT G)) (va_Qi K (g_Pre lo dd cT) (g_A lo)) MC MS (g_A lo) := by
  refine g_start RL rfl (by decide) (Nat.le_of_ble_eq_true rfl) ?_
  intro p e s m below meth c hx hb hr hlocks hml hown hnm hts hK hG hlo ls hl
  have hl : lv_has ls 11 [(0, .ref a0), (1, .ref a1), (2, .ref a2)] := hl
  have hG : g_S lo dd cT s s.heap [] G := hG
  have h421 : ∀ n421 : Nat, ∀ (G : gH) (kc ks : Nat) (ba0 : Nat) (ba1 : Nat) (ba2 : Nat) (bx5 : Int32) (bx6 : Int32) (bx7 : Int32) (bx8 : Int32) (H : Heap) (locs : List Loc), g_S lo dd cT s H locs G → ∀ ls : Array Slot, lv_has ls 11 [(0, .ref ba0), (1, .ref ba1), (2, .ref ba2), (5, .int bx5), (6, .int bx6), (7, .int bx7), (8, .int bx8)] → w_L_files_L421 MC MS K n421 G kc ks ba0 ba1 ba2 bx5 bx6 bx7 bx8 → W p l e (g_rm 8 154 MC MS) s m ([.ref a0, .ref a1, .ref a2] : List Value).toArray below meth c H locs kc ks (MQ below (va_Qi K (g_Pre lo dd cT) (g_A lo)) ([.ref a0, .ref a1, .ref a2] : List Value).toArray s MC MS (g_A lo)) (F0 m 421 ls []) := by
    intro n421
    induction n421 with
    | zero =>
      intro G kc ks ba0 ba1 ba2 bx5 bx6 bx7 bx8 H locs hG ls hl h
      exact (show False from h).elim
    | succ n421 ih421 =>
      have h500 : ∀ (G : gH) (kc ks : Nat) (ba0 : Nat) (ba1 : Nat) (ba2 : Nat) (bx5 : Int32) (bx6 : Int32) (bx7 : Int32) (bx8 : Int32) (bx10 : Int32) (H : Heap) (locs : List Loc), g_S lo dd cT s H locs G → ∀ ls : Array Slot, lv_has ls 11 [(0, .ref ba0), (1, .ref ba1), (2, .ref ba2), (5, .int bx5), (6, .int bx6), (7, .int bx7), (8, .int bx8), (10, .int bx10)] → w_L_files_J500 MC MS K (w_L_files_L421 MC MS K n421) G kc ks ba0 ba1 ba2 bx5 bx6 bx7 bx8 bx10 → W p l e (g_rm 8 154 MC MS) s m ([.ref a0, .ref a1, .ref a2] : List Value).toArray below meth c H locs kc ks (MQ below (va_Qi K (g_Pre lo dd cT) (g_A lo)) ([.ref a0, .ref a1, .ref a2] : List Value).toArray s MC MS (g_A lo)) (F0 m 500 ls []) := by
        intro G kc ks ba0 ba1 ba2 bx5 bx6 bx7 bx8 bx10 H locs hG ls hl h
        unfold w_L_files_J500 at h
        refine lv_iload hx hb dL_files_500 (lv_at hl 4 rfl) ?_
        refine lv_iload hx hb dL_files_502 (lv_at hl 7 rfl) ?_
        obtain ⟨y504, h⟩ := h
        refine va_mmax hx hb (hml.trans hl.1.symm) hown (hts _ qM_L_292) (hts _ qT_Lib_Math_max_name) (hts _ qN_java_lang_Math) (hts _ qC_Lib_Math_max_name) (Nat.le_of_ble_eq_true rfl) (Nat.le_of_ble_eq_true rfl) y504.1 y504.2 dL_files_504 ?_
        refine lv_istore (lv' := [(6, .int (if bx6 < bx10 then bx10 else bx6)), (0, .ref ba0), (1, .ref ba1), (2, .ref ba2), (5, .int bx5), (7, .int bx7), (8, .int bx8), (10, .int bx10)]) hx hb dL_files_507 hl (by decide) rfl (fun ls hl => ?_)
        refine lv_iload hx hb dL_files_509 (lv_at hl 6 rfl) ?_
        refine lv_iconst (v := (4 : Int32)) hx hb dL_files_511 (by decide) ?_
        refine lv_irem hx hb dL_files_512 (by decide) ?_
        refine lv_aload_n hx hb dL_files_513 rfl (lv_at hl 3 rfl) ?_
        refine lv_iconst (v := (4 : Int32)) hx hb dL_files_514 (by decide) ?_
        obtain ⟨C515, R515, d515, g515, h⟩ := h
        obtain ⟨y515, h⟩ := h
        obtain ⟨q515, e515, h⟩ := h
        rw [g515] at hG
        refine g_wSi (As := [.ref ba2, .int (4 : Int32)]) (rest := [.int (bx8 - bx8 / (4 : Int32) * (4 : Int32))]) (n := 2) hx hb hml hown hts hK hlo hG (g_frI d515 (fun lo => m_L_draw l dd cT lo C515 ba2 (4 : Int32) e515) lo) qM_L_35 qT_yL_draw qN_L qC_yL_draw (by decide +kernel) ⟨Nat.le_of_ble_eq_true rfl, Nat.le_of_ble_eq_true rfl⟩ rfl hl.1 rfl (Nat.le_of_ble_eq_true rfl) dL_files_515 y515 (fun v515x Gx H locs hKx hG => ?_)
        obtain ⟨D515, ⟨k515a, k515⟩, f515, l515⟩ := hKx
        rw [l515, k515] at hG
        rw [k515] at f515
        rw [k515a]
        obtain ⟨G515, i515⟩ : ∃ g : gH, g = gj q515.1 R515 := ⟨_, rfl⟩
        rw [← i515] at hG
        replace h := h G515 f515 i515
        refine lv_icmp_ne (tgt := 534) hx hb dL_files_518 (by decide) (fun c518 => ?_) (fun c518 => ?_)
        · rw [if_neg c518] at h
          refine lv_iinc (v := (bx8 + (1 : Int32))) (lv' := [(8, .int (bx8 + (1 : Int32))), (6, .int (if bx6 < bx10 then bx10 else bx6)), (0, .ref ba0), (1, .ref ba1), (2, .ref ba2), (5, .int bx5), (7, .int bx7), (10, .int bx10)]) hx hb dL_files_534 hl (k := 6) rfl rfl (by decide) rfl (fun ls hl => ?_)
          refine lv_goto (tgt := 421) hx hb dL_files_537 (by decide) ?_
          exact ih421 G515 kc ks ba0 ba1 ba2 bx5 (if bx6 < bx10 then bx10 else bx6) bx7 (bx8 + (1 : Int32)) _ _ hG _ (lv_sub hl [2, 3, 4, 5, 1, 6, 0] rfl) h
        · rw [if_pos c518] at h
          refine lv_aload_n hx hb dL_files_521 rfl (lv_at hl 1 rfl) ?_
          refine lv_iload hx hb dL_files_522 (lv_at hl 6 rfl) ?_
          obtain ⟨C524, R524, d524, g524, h⟩ := h
          obtain ⟨u524, o524, h⟩ := h
          obtain ⟨y524, h⟩ := h
          rw [g524] at hG
          refine g_wVi (As := [.int bx8]) (rest := []) (n := 1) hx hb hml hown hts hK hlo hG (g_frI d524 (fun lo => g_noX (m_X9_risk l hfl dd cT lo C524 ba0 bx8 h)) lo) qM_L_295 qI_yX9_risk qS_X9_yX9_risk qN_X9 qC_yX9_risk (by decide +kernel) ⟨Nat.le_of_ble_eq_true rfl, Nat.le_of_ble_eq_true rfl⟩ (by rfl) (g_ob_gj o524) rfl hl.1 rfl (Nat.le_of_ble_eq_true rfl) dL_files_524 y524 (fun v524x Gx H locs hKx hG => ?_)
          obtain ⟨D524, h, f524, rfl⟩ := hKx
          obtain ⟨G524, i524⟩ : ∃ g : gH, g = gj D524 R524 := ⟨_, rfl⟩
          rw [← i524] at hG
          replace h := h G524 f524 i524
          revert h
          generalize v524x = v524
          intro h
          refine lv_iload hx hb dL_files_527 (lv_at hl 7 rfl) ?_
          refine lv_icmp_eq (tgt := 534) hx hb dL_files_529 (by decide) (fun c529 => ?_) (fun c529 => ?_)
          · rw [if_pos c529] at h
            refine lv_iinc (v := (bx8 + (1 : Int32))) (lv' := [(8, .int (bx8 + (1 : Int32))), (6, .int (if bx6 < bx10 then bx10 else bx6)), (0, .ref ba0), (1, .ref ba1), (2, .ref ba2), (5, .int bx5), (7, .int bx7), (10, .int bx10)]) hx hb dL_files_534 hl (k := 6) rfl rfl (by decide) rfl (fun ls hl => ?_)
            refine lv_goto (tgt := 421) hx hb dL_files_537 (by decide) ?_
            exact ih421 G524 (kc + 1) (ks + 6) ba0 ba1 ba2 bx5 (if bx6 < bx10 then bx10 else bx6) bx7 (bx8 + (1 : Int32)) _ _ hG _ (lv_sub hl [2, 3, 4, 5, 1, 6, 0] rfl) h
          · rw [if_neg c529] at h
            refine lv_iconst (v := (0 : Int32)) hx hb dL_files_532 (by decide) ?_
            obtain ⟨y1, y2, h⟩ := h
            refine W.widen (k := MC) (n := MS) y1 y2 ?_
            exact g_zret hx hb hr hlocks hK hlo hG rfl h dL_files_533
      have h465 : ∀ (G : gH) (kc ks : Nat) (ba0 : Nat) (ba1 : Nat) (ba2 : Nat) (bx5 : Int32) (bx6 : Int32) (bx7 : Int32) (bx8 : Int32) (bx9 : Int32) (z0 : Nat) (z1 : Int32) (z2 : Int32) (H : Heap) (locs : List Loc), g_S lo dd cT s H locs G → ∀ ls : Array Slot, lv_has ls 11 [(0, .ref ba0), (1, .ref ba1), (2, .ref ba2), (5, .int bx5), (6, .int bx6), (7, .int bx7), (8, .int bx8), (9, .int bx9)] → w_L_files_J465 MC MS K (w_L_files_L421 MC MS K n421) G kc ks ba0 ba1 ba2 bx5 bx6 bx7 bx8 bx9 z0 z1 z2 → W p l e (g_rm 8 154 MC MS) s m ([.ref a0, .ref a1, .ref a2] : List Value).toArray below meth c H locs kc ks (MQ below (va_Qi K (g_Pre lo dd cT) (g_A lo)) ([.ref a0, .ref a1, .ref a2] : List Value).toArray s MC MS (g_A lo)) (F0 m 465 ls [.int z2, .int z1, .ref z0]) := by
        intro G kc ks ba0 ba1 ba2 bx5 bx6 bx7 bx8 bx9 z0 z1 z2 H locs hG ls hl h
        unfold w_L_files_J465 at h
        obtain ⟨G465, e465, h⟩ := h
        refine g_zast hx hb hK hG e465 dL_files_465 (fun H locs hG => ?_)
        refine lv_iload hx hb dL_files_466 (lv_at hl 3 rfl) ?_
        refine lv_aload_n hx hb dL_files_468 rfl (lv_at hl 1 rfl) ?_
        obtain ⟨C469, R469, d469, g469, h⟩ := h
        obtain ⟨u469, o469, h⟩ := h
        obtain ⟨y469, h⟩ := h
        obtain ⟨v469, e469, h⟩ := h
        rw [g469] at hG
        refine g_wVi (As := []) (rest := [.int bx5]) (n := 0) hx hb hml hown hts hK hlo hG (g_frI d469 (fun lo => m_X10_good l dd cT lo C469 ba1 e469) lo) qM_L_181 qI_yX10_good qS_X10_yX10_good qN_X10 qC_yX10_good (by decide +kernel) ⟨Nat.le_of_ble_eq_true rfl, Nat.le_of_ble_eq_true rfl⟩ (by rfl) (g_ob_gj o469) rfl hl.1 rfl (Nat.le_of_ble_eq_true rfl) dL_files_469 y469 (fun v469x Gx H locs hKx hG => ?_)
        obtain ⟨D469, ⟨k469a, k469⟩, f469, l469⟩ := hKx
        rw [l469, k469] at hG
        rw [k469] at f469
        rw [k469a]
        rw [← g469] at hG
        refine lv_iconst (v := (-1 : Int32)) hx hb dL_files_472 (by decide) ?_
        refine lv_ixor hx hb dL_files_473 ?_
        refine lv_iand hx hb dL_files_474 ?_
        obtain ⟨C475, R475, d475, g475, h⟩ := h
        obtain ⟨y475, h⟩ := h
        obtain ⟨v475, e475, h⟩ := h
        rw [g475] at hG
        refine g_wAi (As := [.int (bx5 &&& (v469 ^^^ (-1 : Int32)))]) (rest := []) (n := 1) hx hb hml hown hts hK hlo hG (g_frI d475 (fun lo => m_J6_bitCount_0f7a4 l dd cT lo C475 (bx5 &&& (v469 ^^^ (-1 : Int32))) e475) lo) qM_L_184 qT_yJ6_bitCount_0f7a4 qN_J6 qC_yJ6_bitCount_0f7a4 (by decide +kernel) ⟨Nat.le_of_ble_eq_true rfl, Nat.le_of_ble_eq_true rfl⟩ rfl hl.1 rfl (Nat.le_of_ble_eq_true rfl) dL_files_475 y475 (fun v475x Gx H locs hKx hG => ?_)
        obtain ⟨D475, ⟨k475a, k475⟩, f475, l475⟩ := hKx
        rw [l475, k475] at hG
        rw [k475] at f475
        rw [k475a]
        rw [← g475] at hG
        refine lv_istore (lv' := [(10, .int v475), (0, .ref ba0), (1, .ref ba1), (2, .ref ba2), (5, .int bx5), (6, .int bx6), (7, .int bx7), (8, .int bx8), (9, .int bx9)]) hx hb dL_files_478 hl (by decide) rfl (fun ls hl => ?_)
        refine lv_aload_n hx hb dL_files_480 rfl (lv_at hl 2 rfl) ?_
        obtain ⟨v481, e481, h⟩ := h
        refine g_getrN hx hb hts inlX10 hown hK hG (by rfl) 13 (by decide) (List.mem_of_getElem? (i := 5) rfl) e481 dL_files_481 ?_
        refine lv_iload hx hb dL_files_484 (lv_at hl 7 rfl) ?_
        refine lv_iload hx hb dL_files_486 (lv_at hl 8 rfl) ?_
        obtain ⟨G488, e488, h⟩ := h
        refine g_zast hx hb hK hG e488 dL_files_488 (fun H locs hG => ?_)
        refine lv_iload hx hb dL_files_489 (lv_at hl 0 rfl) ?_
        refine lv_iload hx hb dL_files_491 (lv_at hl 5 rfl) ?_
        refine lv_icmp_le (tgt := 500) hx hb dL_files_493 (by decide) (fun c493 => ?_) (fun c493 => ?_)
        · rw [if_pos c493] at h
          exact h500 G488 kc ks ba0 ba1 ba2 bx5 bx6 bx7 bx8 v475 _ _ hG _ (lv_sub hl [1, 2, 3, 4, 5, 6, 7, 0] rfl) h
        · rw [if_neg c493] at h
          refine lv_iload hx hb dL_files_496 (lv_at hl 7 rfl) ?_
          refine lv_istore (lv' := [(7, .int bx8), (10, .int v475), (0, .ref ba0), (1, .ref ba1), (2, .ref ba2), (5, .int bx5), (6, .int bx6), (8, .int bx8), (9, .int bx9)]) hx hb dL_files_498 hl (by decide) rfl (fun ls hl => ?_)
          exact h500 G488 kc ks ba0 ba1 ba2 bx5 bx6 bx8 bx8 v475 _ _ hG _ (lv_sub hl [2, 3, 4, 5, 6, 0, 7, 1] rfl) h
      intro G kc ks ba0 ba1 ba2 bx5 bx6 bx7 bx8 H locs hG ls hl h
      rw [w_L_files_L421] at h
      refine lv_iload hx hb dL_files_421 (lv_at hl 6 rfl) ?_
      refine lv_aload_n hx hb dL_files_423 rfl (lv_at hl 1 rfl) ?_
      obtain ⟨v424, e424, h⟩ := h
      refine g_getiN hx hb hts inlX10 hown hK hG (by rfl) 0 (by decide) (List.mem_of_getElem? (i := 0) rfl) e424 dL_files_424 ?_
      refine lv_icmp_ge (tgt := 540) hx hb dL_files_427 (by decide) (fun c427 => ?_) (fun c427 => ?_)
      · rw [if_pos c427] at h
        refine lv_aload_n hx hb dL_files_540 rfl (lv_at hl 0 rfl) ?_
        obtain ⟨C541, R541, d541, g541, h⟩ := h
        obtain ⟨u541, o541, h⟩ := h
        obtain ⟨y541, h⟩ := h
        obtain ⟨q541, e541, h⟩ := h
        rw [g541] at hG
        refine g_wVi (As := []) (rest := []) (n := 0) hx hb hml hown hts hK hlo hG (g_frI d541 (fun lo => m_X9_weakest l dd cT lo C541 ba0 e541) lo) qM_L_298 qI_yX9_weakest qS_X9_yX9_weakest qN_X9 qC_yX9_weakest (by decide +kernel) ⟨Nat.le_of_ble_eq_true rfl, Nat.le_of_ble_eq_true rfl⟩ (by rfl) (g_ob_gj o541) rfl hl.1 rfl (Nat.le_of_ble_eq_true rfl) dL_files_541 y541 (fun v541x Gx H locs hKx hG => ?_)
        obtain ⟨D541, ⟨k541a, k541⟩, f541, l541⟩ := hKx
        rw [l541, k541] at hG
        rw [k541] at f541
        rw [k541a]
        obtain ⟨G541, i541⟩ : ∃ g : gH, g = gj q541.1 R541 := ⟨_, rfl⟩
        rw [← i541] at hG
        replace h := h G541 f541 i541
        refine lv_iload hx hb dL_files_544 (lv_at hl 5 rfl) ?_
        refine lv_icmp_ne (tgt := 553) hx hb dL_files_546 (by decide) (fun c546 => ?_) (fun c546 => ?_)
        · rw [if_neg c546] at h
          refine lv_iconst (v := (0 : Int32)) hx hb dL_files_553 (by decide) ?_
          obtain ⟨y1, y2, h⟩ := h
          refine W.widen (k := MC) (n := MS) y1 y2 ?_
          exact g_zret hx hb hr hlocks hK hlo hG rfl h dL_files_554
        · rw [if_pos c546] at h
          refine lv_iconst (v := (1 : Int32)) hx hb dL_files_549 (by decide) ?_
          refine lv_goto (tgt := 554) hx hb dL_files_550 (by decide) ?_
          obtain ⟨y1, y2, h⟩ := h
          refine W.widen (k := MC) (n := MS) y1 y2 ?_
          exact g_zret hx hb hr hlocks hK hlo hG rfl h dL_files_554
      · rw [if_neg c427] at h
        refine lv_aload_n hx hb dL_files_430 rfl (lv_at hl 1 rfl) ?_
        obtain ⟨v431, e431, h⟩ := h
        refine g_getrN hx hb hts inlX10 hown hK hG (by rfl) 13 (by decide) (List.mem_of_getElem? (i := 5) rfl) e431 dL_files_431 ?_
        refine lv_iload hx hb dL_files_434 (lv_at hl 6 rfl) ?_
        obtain ⟨v436, e436, h⟩ := h
        refine g_zald hx hb hK hG e436 dL_files_436 ?_
        refine lv_istore (lv' := [(9, .int v436), (0, .ref ba0), (1, .ref ba1), (2, .ref ba2), (5, .int bx5), (6, .int bx6), (7, .int bx7), (8, .int bx8)]) hx hb dL_files_437 hl (by decide) rfl (fun ls hl => ?_)
        refine lv_aload_n hx hb dL_files_439 rfl (lv_at hl 2 rfl) ?_
        obtain ⟨v440, e440, h⟩ := h
        refine g_getrN hx hb hts inlX10 hown hK hG (by rfl) 13 (by decide) (List.mem_of_getElem? (i := 5) rfl) e440 dL_files_440 ?_
        refine lv_iload hx hb dL_files_443 (lv_at hl 7 rfl) ?_
        refine lv_iload hx hb dL_files_445 (lv_at hl 0 rfl) ?_
        refine lv_if_ne (tgt := 460) hx hb dL_files_447 (by decide) (fun c447 => ?_) (fun c447 => ?_)
        · rw [if_neg c447] at h
          refine lv_iconst (v := (1 : Int32)) hx hb dL_files_460 (by decide) ?_
          refine lv_goto (tgt := 465) hx hb dL_files_461 (by decide) ?_
          exact h465 G kc ks ba0 ba1 ba2 bx5 bx6 bx7 bx8 v436 v440 bx8 (1 : Int32) _ _ hG _ (lv_sub hl [1, 2, 3, 4, 5, 6, 7, 0] rfl) h
        · rw [if_pos c447] at h
          refine lv_aload_n hx hb dL_files_450 rfl (lv_at hl 2 rfl) ?_
          obtain ⟨v451, e451, h⟩ := h
          refine g_getrN hx hb hts inlX10 hown hK hG (by rfl) 7 (by decide) (List.mem_of_getElem? (i := 4) rfl) e451 dL_files_451 ?_
          refine lv_iload hx hb dL_files_454 (lv_at hl 7 rfl) ?_
          obtain ⟨v456, e456, h⟩ := h
          refine g_iald hx hb hK hG e456 dL_files_456 ?_
          refine lv_if_le (tgt := 464) hx hb dL_files_457 (by decide) (fun c457 => ?_) (fun c457 => ?_)
          · rw [if_pos c457] at h
            refine lv_iconst (v := (0 : Int32)) hx hb dL_files_464 (by decide) ?_
            exact h465 G kc ks ba0 ba1 ba2 bx5 bx6 bx7 bx8 v436 v440 bx8 (0 : Int32) _ _ hG _ (lv_sub hl [1, 2, 3, 4, 5, 6, 7, 0] rfl) h
          · rw [if_neg c457] at h
            refine lv_iconst (v := (1 : Int32)) hx hb dL_files_460 (by decide) ?_
            refine lv_goto (tgt := 465) hx hb dL_files_461 (by decide) ?_
            exact h465 G kc ks ba0 ba1 ba2 bx5 bx6 bx7 bx8 v436 v440 bx8 (1 : Int32) _ _ hG _ (lv_sub hl [1, 2, 3, 4, 5, 6, 7, 0] rfl) h
  have h401 : ∀ (G : gH) (kc ks : Nat) (ba0 : Nat) (ba1 : Nat) (ba2 : Nat) (z0 : Int32) (z1 : Int32) (H : Heap) (locs : List Loc), g_S lo dd cT s H locs G → ∀ ls : Array Slot, lv_has ls 11 [(0, .ref ba0), (1, .ref ba1), (2, .ref ba2)] → w_L_files_J401 MC MS K G kc ks ba0 ba1 ba2 z0 z1 → W p l e (g_rm 8 154 MC MS) s m ([.ref a0, .ref a1, .ref a2] : List Value).toArray below meth c H locs kc ks (MQ below (va_Qi K (g_Pre lo dd cT) (g_A lo)) ([.ref a0, .ref a1, .ref a2] : List Value).toArray s MC MS (g_A lo)) (F0 m 401 ls [.int z1, .int z0]) := by
    intro G kc ks ba0 ba1 ba2 z0 z1 H locs hG ls hl h
    unfold w_L_files_J401 at h
    refine lv_icmp_eq (tgt := 406) hx hb dL_files_401 (by decide) (fun c401 => ?_) (fun c401 => ?_)
    · rw [if_pos c401] at h
      refine lv_aload_n hx hb dL_files_406 rfl (lv_at hl 1 rfl) ?_
      obtain ⟨C407, R407, d407, g407, h⟩ := h
      obtain ⟨u407, o407, h⟩ := h
      obtain ⟨y407, h⟩ := h
      obtain ⟨v407, e407, h⟩ := h
      rw [g407] at hG
      refine g_wVi (As := []) (rest := []) (n := 0) hx hb hml hown hts hK hlo hG (g_frI d407 (fun lo => m_X10_good l dd cT lo C407 ba1 e407) lo) qM_L_181 qI_yX10_good qS_X10_yX10_good qN_X10 qC_yX10_good (by decide +kernel) ⟨Nat.le_of_ble_eq_true rfl, Nat.le_of_ble_eq_true rfl⟩ (by rfl) (g_ob_gj o407) rfl hl.1 rfl (Nat.le_of_ble_eq_true rfl) dL_files_407 y407 (fun v407x Gx H locs hKx hG => ?_)
      obtain ⟨D407, ⟨k407a, k407⟩, f407, l407⟩ := hKx
      rw [l407, k407] at hG
      rw [k407] at f407
      rw [k407a]
      rw [← g407] at hG
      refine lv_istore (lv' := [(5, .int v407), (0, .ref ba0), (1, .ref ba1), (2, .ref ba2)]) hx hb dL_files_410 hl (by decide) rfl (fun ls hl => ?_)
      refine lv_iconst (v := (0 : Int32)) hx hb dL_files_412 (by decide) ?_
      refine lv_istore (lv' := [(6, .int (0 : Int32)), (5, .int v407), (0, .ref ba0), (1, .ref ba1), (2, .ref ba2)]) hx hb dL_files_413 hl (by decide) rfl (fun ls hl => ?_)
      refine lv_iconst (v := (0 : Int32)) hx hb dL_files_415 (by decide) ?_
      refine lv_istore (lv' := [(7, .int (0 : Int32)), (6, .int (0 : Int32)), (5, .int v407), (0, .ref ba0), (1, .ref ba1), (2, .ref ba2)]) hx hb dL_files_416 hl (by decide) rfl (fun ls hl => ?_)
      refine lv_iconst (v := (0 : Int32)) hx hb dL_files_418 (by decide) ?_
      refine lv_istore (lv' := [(8, .int (0 : Int32)), (7, .int (0 : Int32)), (6, .int (0 : Int32)), (5, .int v407), (0, .ref ba0), (1, .ref ba1), (2, .ref ba2)]) hx hb dL_files_419 hl (by decide) rfl (fun ls hl => ?_)
      exact h421 g_N G kc ks ba0 ba1 ba2 v407 (0 : Int32) (0 : Int32) (0 : Int32) _ _ hG _ (lv_sub hl [4, 5, 6, 3, 2, 1, 0] rfl) h
    · rw [if_neg c401] at h
      refine lv_iconst (v := (0 : Int32)) hx hb dL_files_404 (by decide) ?_
      obtain ⟨y1, y2, h⟩ := h
      refine W.widen (k := MC) (n := MS) y1 y2 ?_
      exact g_zret hx hb hr hlocks hK hlo hG rfl h dL_files_405
  have h2 : ∀ n2 : Nat, ∀ (G : gH) (kc ks : Nat) (ba0 : Nat) (ba1 : Nat) (ba2 : Nat) (bx3 : Int32) (H : Heap) (locs : List Loc), g_S lo dd cT s H locs G → ∀ ls : Array Slot, lv_has ls 11 [(0, .ref ba0), (1, .ref ba1), (2, .ref ba2), (3, .int bx3)] → w_L_files_L2 MC MS K n2 G kc ks ba0 ba1 ba2 bx3 → W p l e (g_rm 8 154 MC MS) s m ([.ref a0, .ref a1, .ref a2] : List Value).toArray below meth c H locs kc ks (MQ below (va_Qi K (g_Pre lo dd cT) (g_A lo)) ([.ref a0, .ref a1, .ref a2] : List Value).toArray s MC MS (g_A lo)) (F0 m 2 ls []) := by
    intro n2
    induction n2 with
    | zero =>
      intro G kc ks ba0 ba1 ba2 bx3 H locs hG ls hl h
      exact (show False from h).elim
    | succ n2 ih2 =>
      have h278 : ∀ n278 : Nat, ∀ (G : gH) (kc ks : Nat) (ba0 : Nat) (ba1 : Nat) (ba2 : Nat) (bx3 : Int32) (ba5 : Option Nat) (bx10 : Int32) (H : Heap) (locs : List Loc), g_S lo dd cT s H locs G → ∀ ls : Array Slot, lv_has ls 11 [(0, .ref ba0), (1, .ref ba1), (2, .ref ba2), (3, .int bx3), (5, va_rf ba5), (10, .int bx10)] → w_L_files_L278 MC MS K (w_L_files_L2 MC MS K n2) n278 G kc ks ba0 ba1 ba2 bx3 ba5 bx10 → W p l e (g_rm 8 154 MC MS) s m ([.ref a0, .ref a1, .ref a2] : List Value).toArray below meth c H locs kc ks (MQ below (va_Qi K (g_Pre lo dd cT) (g_A lo)) ([.ref a0, .ref a1, .ref a2] : List Value).toArray s MC MS (g_A lo)) (F0 m 278 ls []) := by
        intro n278
        induction n278 with
        | zero =>
          intro G kc ks ba0 ba1 ba2 bx3 ba5 bx10 H locs hG ls hl h
          exact (show False from h).elim
        | succ n278 ih278 =>
          have h319 : ∀ (G : gH) (kc ks : Nat) (ba0 : Nat) (ba1 : Nat) (ba2 : Nat) (bx3 : Int32) (ba5 : Option Nat) (bx10 : Int32) (z0 : Int32) (z1 : Int32) (H : Heap) (locs : List Loc), g_S lo dd cT s H locs G → ∀ ls : Array Slot, lv_has ls 11 [(0, .ref ba0), (1, .ref ba1), (2, .ref ba2), (3, .int bx3), (5, va_rf ba5), (10, .int bx10)] → w_L_files_J319 MC MS K (w_L_files_L2 MC MS K n2) (w_L_files_L278 MC MS K (w_L_files_L2 MC MS K n2) n278) G kc ks ba0 ba1 ba2 bx3 ba5 bx10 z0 z1 → W p l e (g_rm 8 154 MC MS) s m ([.ref a0, .ref a1, .ref a2] : List Value).toArray below meth c H locs kc ks (MQ below (va_Qi K (g_Pre lo dd cT) (g_A lo)) ([.ref a0, .ref a1, .ref a2] : List Value).toArray s MC MS (g_A lo)) (F0 m 319 ls [.int z1, .int z0]) := by
            intro G kc ks ba0 ba1 ba2 bx3 ba5 bx10 z0 z1 H locs hG ls hl h
            unfold w_L_files_J319 at h
            rcases ba5 with _ | ba5r
            · replace h := h.1 rfl
              refine lv_icmp_eq (tgt := 324) hx hb dL_files_319 (by decide) (fun c319 => ?_) (fun c319 => ?_)
              · rw [if_pos c319] at h
                refine lv_iinc (v := (bx10 + (1 : Int32))) (lv' := [(10, .int (bx10 + (1 : Int32))), (0, .ref ba0), (1, .ref ba1), (2, .ref ba2), (3, .int bx3), (5, .null)]) hx hb dL_files_324 hl (k := 5) rfl rfl (by decide) rfl (fun ls hl => ?_)
                refine lv_goto (tgt := 278) hx hb dL_files_327 (by decide) ?_
                exact ih278 G kc ks ba0 ba1 ba2 bx3 none (bx10 + (1 : Int32)) _ _ hG _ (lv_sub hl [1, 2, 3, 4, 5, 0] rfl) h
              · rw [if_neg c319] at h
                refine lv_iconst (v := (0 : Int32)) hx hb dL_files_322 (by decide) ?_
                obtain ⟨y1, y2, h⟩ := h
                refine W.widen (k := MC) (n := MS) y1 y2 ?_
                exact g_zret hx hb hr hlocks hK hlo hG rfl h dL_files_323
            · replace h := h.2 ba5r rfl
              refine lv_icmp_eq (tgt := 324) hx hb dL_files_319 (by decide) (fun c319 => ?_) (fun c319 => ?_)
              · rw [if_pos c319] at h
                refine lv_iinc (v := (bx10 + (1 : Int32))) (lv' := [(10, .int (bx10 + (1 : Int32))), (0, .ref ba0), (1, .ref ba1), (2, .ref ba2), (3, .int bx3), (5, .ref ba5r)]) hx hb dL_files_324 hl (k := 5) rfl rfl (by decide) rfl (fun ls hl => ?_)
                refine lv_goto (tgt := 278) hx hb dL_files_327 (by decide) ?_
                exact ih278 G kc ks ba0 ba1 ba2 bx3 (some ba5r) (bx10 + (1 : Int32)) _ _ hG _ (lv_sub hl [1, 2, 3, 4, 5, 0] rfl) h
              · rw [if_neg c319] at h
                refine lv_iconst (v := (0 : Int32)) hx hb dL_files_322 (by decide) ?_
                obtain ⟨y1, y2, h⟩ := h
                refine W.widen (k := MC) (n := MS) y1 y2 ?_
                exact g_zret hx hb hr hlocks hK hlo hG rfl h dL_files_323
          intro G kc ks ba0 ba1 ba2 bx3 ba5 bx10 H locs hG ls hl h
          rw [w_L_files_L278] at h
          rcases ba5 with _ | ba5r
          · replace h := h.1 rfl
            refine lv_iload hx hb dL_files_278 (lv_at hl 5 rfl) ?_
            refine lv_bipush (v := (8 : Int32)) hx hb dL_files_280 (by decide) ?_
            refine lv_icmp_ge (tgt := 330) hx hb dL_files_282 (by decide) (fun c282 => ?_) (fun c282 => ?_)
            · rw [if_pos c282] at h
              refine lv_iinc (v := (bx3 + (1 : Int32))) (lv' := [(3, .int (bx3 + (1 : Int32))), (0, .ref ba0), (1, .ref ba1), (2, .ref ba2), (5, .null), (10, .int bx10)]) hx hb dL_files_330 hl (k := 3) rfl rfl (by decide) rfl (fun ls hl => ?_)
              refine lv_goto (tgt := 2) hx hb dL_files_333 (by decide) ?_
              exact ih2 G kc ks ba0 ba1 ba2 (bx3 + (1 : Int32)) _ _ hG _ (lv_sub hl [1, 2, 3, 0] rfl) h
            · rw [if_neg c282] at h
              refine lv_aload_n hx hb dL_files_285 rfl (lv_at hl 0 rfl) ?_
              refine lv_iload_n hx hb dL_files_286 rfl (lv_at hl 3 rfl) ?_
              refine lv_iload hx hb dL_files_287 (lv_at hl 5 rfl) ?_
              obtain ⟨C289, R289, d289, g289, h⟩ := h
              obtain ⟨u289, o289, h⟩ := h
              obtain ⟨y289, h⟩ := h
              rw [g289] at hG
              refine g_wVi (As := [.int bx3, .int bx10]) (rest := []) (n := 2) hx hb hml hown hts hK hlo hG (g_frI d289 (fun lo => g_noX (m_X9_where l hfl dd cT lo C289 ba0 bx3 bx10 h)) lo) qM_L_270 qI_yX9_where qS_X9_yX9_where qN_X9 qC_yX9_where (by decide +kernel) ⟨Nat.le_of_ble_eq_true rfl, Nat.le_of_ble_eq_true rfl⟩ (by rfl) (g_ob_gj o289) rfl hl.1 rfl (Nat.le_of_ble_eq_true rfl) dL_files_289 y289 (fun v289x Gx H locs hKx hG => ?_)
              obtain ⟨D289, h, f289, rfl⟩ := hKx
              obtain ⟨G289, i289⟩ : ∃ g : gH, g = gj D289 R289 := ⟨_, rfl⟩
              rw [← i289] at hG
              replace h := h G289 f289 i289
              revert h
              generalize v289x = v289
              intro h
              refine lv_aloadN hx hb dL_files_292 (lv_at hl 4 rfl) ?_
              refine lv_ifnullN (tgt := 307) hx hb dL_files_294 (by decide) ?_
              refine lv_iconst (v := (-1 : Int32)) hx hb dL_files_307 (by decide) ?_
              refine lv_goto (tgt := 319) hx hb dL_files_308 (by decide) ?_
              exact h319 G289 (kc + 1) (ks + 6) ba0 ba1 ba2 bx3 none bx10 v289 (-1 : Int32) _ _ hG _ (lv_sub hl [0, 1, 2, 3, 4, 5] rfl) h
          · replace h := h.2 ba5r rfl
            refine lv_iload hx hb dL_files_278 (lv_at hl 5 rfl) ?_
            refine lv_bipush (v := (8 : Int32)) hx hb dL_files_280 (by decide) ?_
            refine lv_icmp_ge (tgt := 330) hx hb dL_files_282 (by decide) (fun c282 => ?_) (fun c282 => ?_)
            · rw [if_pos c282] at h
              refine lv_iinc (v := (bx3 + (1 : Int32))) (lv' := [(3, .int (bx3 + (1 : Int32))), (0, .ref ba0), (1, .ref ba1), (2, .ref ba2), (5, .ref ba5r), (10, .int bx10)]) hx hb dL_files_330 hl (k := 3) rfl rfl (by decide) rfl (fun ls hl => ?_)
              refine lv_goto (tgt := 2) hx hb dL_files_333 (by decide) ?_
              exact ih2 G kc ks ba0 ba1 ba2 (bx3 + (1 : Int32)) _ _ hG _ (lv_sub hl [1, 2, 3, 0] rfl) h
            · rw [if_neg c282] at h
              refine lv_aload_n hx hb dL_files_285 rfl (lv_at hl 0 rfl) ?_
              refine lv_iload_n hx hb dL_files_286 rfl (lv_at hl 3 rfl) ?_
              refine lv_iload hx hb dL_files_287 (lv_at hl 5 rfl) ?_
              obtain ⟨C289, R289, d289, g289, h⟩ := h
              obtain ⟨u289, o289, h⟩ := h
              obtain ⟨y289, h⟩ := h
              rw [g289] at hG
              refine g_wVi (As := [.int bx3, .int bx10]) (rest := []) (n := 2) hx hb hml hown hts hK hlo hG (g_frI d289 (fun lo => g_noX (m_X9_where l hfl dd cT lo C289 ba0 bx3 bx10 h)) lo) qM_L_270 qI_yX9_where qS_X9_yX9_where qN_X9 qC_yX9_where (by decide +kernel) ⟨Nat.le_of_ble_eq_true rfl, Nat.le_of_ble_eq_true rfl⟩ (by rfl) (g_ob_gj o289) rfl hl.1 rfl (Nat.le_of_ble_eq_true rfl) dL_files_289 y289 (fun v289x Gx H locs hKx hG => ?_)
              obtain ⟨D289, h, f289, rfl⟩ := hKx
              obtain ⟨G289, i289⟩ : ∃ g : gH, g = gj D289 R289 := ⟨_, rfl⟩
              rw [← i289] at hG
              replace h := h G289 f289 i289
              revert h
              generalize v289x = v289
              intro h
              refine lv_aload hx hb dL_files_292 (lv_at hl 4 rfl) ?_
              refine lv_ifnull hx hb dL_files_294 ?_
              refine lv_iload hx hb dL_files_297 (lv_at hl 5 rfl) ?_
              refine lv_aload hx hb dL_files_299 (lv_at hl 4 rfl) ?_
              obtain ⟨v301, e301, h⟩ := h
              refine g_getiN hx hb hts inlX13 hown hK hG (by rfl) 3 (by decide) (List.mem_of_getElem? (i := 25) rfl) e301 dL_files_301 ?_
              refine lv_icmp_lt (tgt := 311) hx hb dL_files_304 (by decide) (fun c304 => ?_) (fun c304 => ?_)
              · rw [if_pos c304] at h
                refine lv_aload hx hb dL_files_311 (lv_at hl 4 rfl) ?_
                obtain ⟨v313, e313, h⟩ := h
                refine g_getrN hx hb hts inlX13 hown hK hG (by rfl) 6 (by decide) (List.mem_of_getElem? (i := 29) rfl) e313 dL_files_313 ?_
                refine lv_iload hx hb dL_files_316 (lv_at hl 5 rfl) ?_
                obtain ⟨v318, e318, h⟩ := h
                refine g_iald hx hb hK hG e318 dL_files_318 ?_
                exact h319 G289 (kc + 1) (ks + 6) ba0 ba1 ba2 bx3 (some ba5r) bx10 v289 v318 _ _ hG _ (lv_sub hl [0, 1, 2, 3, 4, 5] rfl) h
              · rw [if_neg c304] at h
                refine lv_iconst (v := (-1 : Int32)) hx hb dL_files_307 (by decide) ?_
                refine lv_goto (tgt := 319) hx hb dL_files_308 (by decide) ?_
                exact h319 G289 (kc + 1) (ks + 6) ba0 ba1 ba2 bx3 (some ba5r) bx10 v289 (-1 : Int32) _ _ hG _ (lv_sub hl [0, 1, 2, 3, 4, 5] rfl) h
      have h216 : ∀ n216 : Nat, ∀ (G : gH) (kc ks : Nat) (ba0 : Nat) (ba1 : Nat) (ba2 : Nat) (bx3 : Int32) (ba5 : Option Nat) (ba8 : Nat) (bx9 : Int32) (H : Heap) (locs : List Loc), g_S lo dd cT s H locs G → ∀ ls : Array Slot, lv_has ls 11 [(0, .ref ba0), (1, .ref ba1), (2, .ref ba2), (3, .int bx3), (5, va_rf ba5), (8, .ref ba8), (9, .int bx9)] → w_L_files_L216 MC MS K (w_L_files_L2 MC MS K n2) n216 G kc ks ba0 ba1 ba2 bx3 ba5 ba8 bx9 → W p l e (g_rm 8 154 MC MS) s m ([.ref a0, .ref a1, .ref a2] : List Value).toArray below meth c H locs kc ks (MQ below (va_Qi K (g_Pre lo dd cT) (g_A lo)) ([.ref a0, .ref a1, .ref a2] : List Value).toArray s MC MS (g_A lo)) (F0 m 216 ls []) := by
        intro n216
        induction n216 with
        | zero =>
          intro G kc ks ba0 ba1 ba2 bx3 ba5 ba8 bx9 H locs hG ls hl h
          exact (show False from h).elim
        | succ n216 ih216 =>
          intro G kc ks ba0 ba1 ba2 bx3 ba5 ba8 bx9 H locs hG ls hl h
          rw [w_L_files_L216] at h
          rcases ba5 with _ | ba5r
          · replace h := h.1 rfl
            refine lv_iload hx hb dL_files_216 (lv_at hl 6 rfl) ?_
            refine lv_bipush (v := (7 : Int32)) hx hb dL_files_218 (by decide) ?_
            refine lv_icmp_ge (tgt := 246) hx hb dL_files_220 (by decide) (fun c220 => ?_) (fun c220 => ?_)
            · rw [if_pos c220] at h
              refine lv_iconst (v := (1 : Int32)) hx hb dL_files_246 (by decide) ?_
              refine lv_aload_n hx hb dL_files_247 rfl (lv_at hl 2 rfl) ?_
              refine lv_bipush (v := (8 : Int32)) hx hb dL_files_248 (by decide) ?_
              obtain ⟨C250, R250, d250, g250, h⟩ := h
              obtain ⟨y250, h⟩ := h
              obtain ⟨q250, e250, h⟩ := h
              rw [g250] at hG
              refine g_wSi (As := [.ref ba2, .int (8 : Int32)]) (rest := [.int (1 : Int32)]) (n := 2) hx hb hml hown hts hK hlo hG (g_frI d250 (fun lo => m_L_draw l dd cT lo C250 ba2 (8 : Int32) e250) lo) qM_L_35 qT_yL_draw qN_L qC_yL_draw (by decide +kernel) ⟨Nat.le_of_ble_eq_true rfl, Nat.le_of_ble_eq_true rfl⟩ rfl hl.1 rfl (Nat.le_of_ble_eq_true rfl) dL_files_250 y250 (fun v250x Gx H locs hKx hG => ?_)
              obtain ⟨D250, ⟨k250a, k250⟩, f250, l250⟩ := hKx
              rw [l250, k250] at hG
              rw [k250] at f250
              rw [k250a]
              obtain ⟨G250, i250⟩ : ∃ g : gH, g = gj q250.1 R250 := ⟨_, rfl⟩
              rw [← i250] at hG
              replace h := h G250 f250 i250
              refine lv_iadd hx hb dL_files_253 ?_
              refine lv_istore (lv' := [(9, .int ((1 : Int32) + q250.2)), (0, .ref ba0), (1, .ref ba1), (2, .ref ba2), (3, .int bx3), (5, .null), (8, .ref ba8)]) hx hb dL_files_254 hl (by decide) rfl (fun ls hl => ?_)
              refine lv_aload_n hx hb dL_files_256 rfl (lv_at hl 1 rfl) ?_
              refine lv_iload_n hx hb dL_files_257 rfl (lv_at hl 4 rfl) ?_
              refine lv_iload hx hb dL_files_258 (lv_at hl 0 rfl) ?_
              obtain ⟨C260, R260, d260, g260, h⟩ := h
              obtain ⟨u260, o260, h⟩ := h
              obtain ⟨y260, h⟩ := h
              rw [g260] at hG
              refine g_wVi (As := [.int bx3, .int ((1 : Int32) + q250.2)]) (rest := []) (n := 2) hx hb hml hown hts hK hlo hG (g_frI d260 (fun lo => g_noX (m_X9_whyNotWrite l hfl dd cT lo C260 ba0 bx3 ((1 : Int32) + q250.2) h)) lo) qM_L_267 qI_yX9_whyNotWrite qS_X9_yX9_whyNotWrite qN_X9 qC_yX9_whyNotWrite (by decide +kernel) ⟨Nat.le_of_ble_eq_true rfl, Nat.le_of_ble_eq_true rfl⟩ (by rfl) (g_ob_gj o260) rfl hl.1 rfl (Nat.le_of_ble_eq_true rfl) dL_files_260 y260 (fun v260x Gx H locs hKx hG => ?_)
              obtain ⟨D260, h, f260, rfl⟩ := hKx
              obtain ⟨G260, i260⟩ : ∃ g : gH, g = gj D260 R260 := ⟨_, rfl⟩
              rw [← i260] at hG
              replace h := h G260 f260 i260
              revert h
              generalize v260x = v260
              intro h
              refine lv_aload_n hx hb dL_files_263 rfl (lv_at hl 2 rfl) ?_
              refine lv_iload_n hx hb dL_files_264 rfl (lv_at hl 4 rfl) ?_
              refine lv_iload hx hb dL_files_265 (lv_at hl 0 rfl) ?_
              obtain ⟨C267, R267, d267, g267, h⟩ := h
              obtain ⟨u267, o267, h⟩ := h
              obtain ⟨y267, h⟩ := h
              obtain ⟨v267, e267, h⟩ := h
              rw [g267] at hG
              refine g_wVi (As := [.int bx3, .int ((1 : Int32) + q250.2)]) (rest := [.int v260]) (n := 2) hx hb hml hown hts hK hlo hG (g_frI d267 (fun lo => m_X10_whyWrite l dd cT lo C267 ba1 bx3 ((1 : Int32) + q250.2) e267) lo) qM_L_88 qI_yX10_whyWrite qS_X10_yX10_whyWrite qN_X10 qC_yX10_whyWrite (by decide +kernel) ⟨Nat.le_of_ble_eq_true rfl, Nat.le_of_ble_eq_true rfl⟩ (by rfl) (g_ob_gj o267) rfl hl.1 rfl (Nat.le_of_ble_eq_true rfl) dL_files_267 y267 (fun v267x Gx H locs hKx hG => ?_)
              obtain ⟨D267, ⟨k267a, k267⟩, f267, l267⟩ := hKx
              rw [l267, k267] at hG
              rw [k267] at f267
              rw [k267a]
              rw [← g267] at hG
              refine lv_icmp_eq (tgt := 275) hx hb dL_files_270 (by decide) (fun c270 => ?_) (fun c270 => ?_)
              · rw [if_pos c270] at h
                refine lv_iconst (v := (0 : Int32)) hx hb dL_files_275 (by decide) ?_
                refine lv_istore (lv' := [(10, .int (0 : Int32)), (9, .int ((1 : Int32) + q250.2)), (0, .ref ba0), (1, .ref ba1), (2, .ref ba2), (3, .int bx3), (5, .null), (8, .ref ba8)]) hx hb dL_files_276 hl (by decide) rfl (fun ls hl => ?_)
                exact h278 g_N G260 (kc + 2) (ks + 12) ba0 ba1 ba2 bx3 none (0 : Int32) _ _ hG _ (lv_sub hl [2, 3, 4, 5, 6, 0] rfl) h
              · rw [if_neg c270] at h
                refine lv_iconst (v := (0 : Int32)) hx hb dL_files_273 (by decide) ?_
                obtain ⟨y1, y2, h⟩ := h
                refine W.widen (k := MC) (n := MS) y1 y2 ?_
                exact g_zret hx hb hr hlocks hK hlo hG rfl h dL_files_274
            · rw [if_neg c220] at h
              refine lv_aload_n hx hb dL_files_223 rfl (lv_at hl 0 rfl) ?_
              refine lv_iload_n hx hb dL_files_224 rfl (lv_at hl 3 rfl) ?_
              refine lv_iload hx hb dL_files_225 (lv_at hl 6 rfl) ?_
              obtain ⟨C227, R227, d227, g227, h⟩ := h
              obtain ⟨u227, o227, h⟩ := h
              obtain ⟨y227, h⟩ := h
              rw [g227] at hG
              refine g_wVi (As := [.int bx3, .int bx9]) (rest := []) (n := 2) hx hb hml hown hts hK hlo hG (g_frI d227 (fun lo => g_noX (m_X9_file l hfl dd cT lo C227 ba0 bx3 bx9 h)) lo) qM_L_265 qI_yX9_file qS_X9_yX9_file qN_X9 qC_yX9_file (by decide +kernel) ⟨Nat.le_of_ble_eq_true rfl, Nat.le_of_ble_eq_true rfl⟩ (by rfl) (g_ob_gj o227) rfl hl.1 rfl (Nat.le_of_ble_eq_true rfl) dL_files_227 y227 (fun v227x Gx H locs hKx hG => ?_)
              obtain ⟨D227, h, f227, rfl⟩ := hKx
              obtain ⟨G227, i227⟩ : ∃ g : gH, g = gj D227 R227 := ⟨_, rfl⟩
              rw [← i227] at hG
              replace h := h G227 f227 i227
              revert h
              generalize v227x = v227
              intro h
              refine lv_aload hx hb dL_files_230 (lv_at hl 5 rfl) ?_
              refine lv_iload hx hb dL_files_232 (lv_at hl 6 rfl) ?_
              obtain ⟨v234, e234, h⟩ := h
              refine g_iald hx hb hK hG e234 dL_files_234 ?_
              refine lv_icmp_eq (tgt := 240) hx hb dL_files_235 (by decide) (fun c235 => ?_) (fun c235 => ?_)
              · rw [if_pos c235] at h
                refine lv_iinc (v := (bx9 + (1 : Int32))) (lv' := [(9, .int (bx9 + (1 : Int32))), (0, .ref ba0), (1, .ref ba1), (2, .ref ba2), (3, .int bx3), (5, .null), (8, .ref ba8)]) hx hb dL_files_240 hl (k := 6) rfl rfl (by decide) rfl (fun ls hl => ?_)
                refine lv_goto (tgt := 216) hx hb dL_files_243 (by decide) ?_
                exact ih216 G227 (kc + 2) (ks + 12) ba0 ba1 ba2 bx3 none ba8 (bx9 + (1 : Int32)) _ _ hG _ (lv_sub hl [1, 2, 3, 4, 5, 6, 0] rfl) h
              · rw [if_neg c235] at h
                refine lv_iconst (v := (0 : Int32)) hx hb dL_files_238 (by decide) ?_
                obtain ⟨y1, y2, h⟩ := h
                refine W.widen (k := MC) (n := MS) y1 y2 ?_
                exact g_zret hx hb hr hlocks hK hlo hG rfl h dL_files_239
          · replace h := h.2 ba5r rfl
            refine lv_iload hx hb dL_files_216 (lv_at hl 6 rfl) ?_
            refine lv_bipush (v := (7 : Int32)) hx hb dL_files_218 (by decide) ?_
            refine lv_icmp_ge (tgt := 246) hx hb dL_files_220 (by decide) (fun c220 => ?_) (fun c220 => ?_)
            · rw [if_pos c220] at h
              refine lv_iconst (v := (1 : Int32)) hx hb dL_files_246 (by decide) ?_
              refine lv_aload_n hx hb dL_files_247 rfl (lv_at hl 2 rfl) ?_
              refine lv_bipush (v := (8 : Int32)) hx hb dL_files_248 (by decide) ?_
              obtain ⟨C250, R250, d250, g250, h⟩ := h
              obtain ⟨y250, h⟩ := h
              obtain ⟨q250, e250, h⟩ := h
              rw [g250] at hG
              refine g_wSi (As := [.ref ba2, .int (8 : Int32)]) (rest := [.int (1 : Int32)]) (n := 2) hx hb hml hown hts hK hlo hG (g_frI d250 (fun lo => m_L_draw l dd cT lo C250 ba2 (8 : Int32) e250) lo) qM_L_35 qT_yL_draw qN_L qC_yL_draw (by decide +kernel) ⟨Nat.le_of_ble_eq_true rfl, Nat.le_of_ble_eq_true rfl⟩ rfl hl.1 rfl (Nat.le_of_ble_eq_true rfl) dL_files_250 y250 (fun v250x Gx H locs hKx hG => ?_)
              obtain ⟨D250, ⟨k250a, k250⟩, f250, l250⟩ := hKx
              rw [l250, k250] at hG
              rw [k250] at f250
              rw [k250a]
              obtain ⟨G250, i250⟩ : ∃ g : gH, g = gj q250.1 R250 := ⟨_, rfl⟩
              rw [← i250] at hG
              replace h := h G250 f250 i250
              refine lv_iadd hx hb dL_files_253 ?_
              refine lv_istore (lv' := [(9, .int ((1 : Int32) + q250.2)), (0, .ref ba0), (1, .ref ba1), (2, .ref ba2), (3, .int bx3), (5, .ref ba5r), (8, .ref ba8)]) hx hb dL_files_254 hl (by decide) rfl (fun ls hl => ?_)
              refine lv_aload_n hx hb dL_files_256 rfl (lv_at hl 1 rfl) ?_
              refine lv_iload_n hx hb dL_files_257 rfl (lv_at hl 4 rfl) ?_
              refine lv_iload hx hb dL_files_258 (lv_at hl 0 rfl) ?_
              obtain ⟨C260, R260, d260, g260, h⟩ := h
              obtain ⟨u260, o260, h⟩ := h
              obtain ⟨y260, h⟩ := h
              rw [g260] at hG
              refine g_wVi (As := [.int bx3, .int ((1 : Int32) + q250.2)]) (rest := []) (n := 2) hx hb hml hown hts hK hlo hG (g_frI d260 (fun lo => g_noX (m_X9_whyNotWrite l hfl dd cT lo C260 ba0 bx3 ((1 : Int32) + q250.2) h)) lo) qM_L_267 qI_yX9_whyNotWrite qS_X9_yX9_whyNotWrite qN_X9 qC_yX9_whyNotWrite (by decide +kernel) ⟨Nat.le_of_ble_eq_true rfl, Nat.le_of_ble_eq_true rfl⟩ (by rfl) (g_ob_gj o260) rfl hl.1 rfl (Nat.le_of_ble_eq_true rfl) dL_files_260 y260 (fun v260x Gx H locs hKx hG => ?_)
              obtain ⟨D260, h, f260, rfl⟩ := hKx
              obtain ⟨G260, i260⟩ : ∃ g : gH, g = gj D260 R260 := ⟨_, rfl⟩
              rw [← i260] at hG
              replace h := h G260 f260 i260
              revert h
              generalize v260x = v260
              intro h
              refine lv_aload_n hx hb dL_files_263 rfl (lv_at hl 2 rfl) ?_
              refine lv_iload_n hx hb dL_files_264 rfl (lv_at hl 4 rfl) ?_
              refine lv_iload hx hb dL_files_265 (lv_at hl 0 rfl) ?_
              obtain ⟨C267, R267, d267, g267, h⟩ := h
              obtain ⟨u267, o267, h⟩ := h
              obtain ⟨y267, h⟩ := h
              obtain ⟨v267, e267, h⟩ := h
              rw [g267] at hG
              refine g_wVi (As := [.int bx3, .int ((1 : Int32) + q250.2)]) (rest := [.int v260]) (n := 2) hx hb hml hown hts hK hlo hG (g_frI d267 (fun lo => m_X10_whyWrite l dd cT lo C267 ba1 bx3 ((1 : Int32) + q250.2) e267) lo) qM_L_88 qI_yX10_whyWrite qS_X10_yX10_whyWrite qN_X10 qC_yX10_whyWrite (by decide +kernel) ⟨Nat.le_of_ble_eq_true rfl, Nat.le_of_ble_eq_true rfl⟩ (by rfl) (g_ob_gj o267) rfl hl.1 rfl (Nat.le_of_ble_eq_true rfl) dL_files_267 y267 (fun v267x Gx H locs hKx hG => ?_)
              obtain ⟨D267, ⟨k267a, k267⟩, f267, l267⟩ := hKx
              rw [l267, k267] at hG
              rw [k267] at f267
              rw [k267a]
              rw [← g267] at hG
              refine lv_icmp_eq (tgt := 275) hx hb dL_files_270 (by decide) (fun c270 => ?_) (fun c270 => ?_)
              · rw [if_pos c270] at h
                refine lv_iconst (v := (0 : Int32)) hx hb dL_files_275 (by decide) ?_
                refine lv_istore (lv' := [(10, .int (0 : Int32)), (9, .int ((1 : Int32) + q250.2)), (0, .ref ba0), (1, .ref ba1), (2, .ref ba2), (3, .int bx3), (5, .ref ba5r), (8, .ref ba8)]) hx hb dL_files_276 hl (by decide) rfl (fun ls hl => ?_)
                exact h278 g_N G260 (kc + 2) (ks + 12) ba0 ba1 ba2 bx3 (some ba5r) (0 : Int32) _ _ hG _ (lv_sub hl [2, 3, 4, 5, 6, 0] rfl) h
              · rw [if_neg c270] at h
                refine lv_iconst (v := (0 : Int32)) hx hb dL_files_273 (by decide) ?_
                obtain ⟨y1, y2, h⟩ := h
                refine W.widen (k := MC) (n := MS) y1 y2 ?_
                exact g_zret hx hb hr hlocks hK hlo hG rfl h dL_files_274
            · rw [if_neg c220] at h
              refine lv_aload_n hx hb dL_files_223 rfl (lv_at hl 0 rfl) ?_
              refine lv_iload_n hx hb dL_files_224 rfl (lv_at hl 3 rfl) ?_
              refine lv_iload hx hb dL_files_225 (lv_at hl 6 rfl) ?_
              obtain ⟨C227, R227, d227, g227, h⟩ := h
              obtain ⟨u227, o227, h⟩ := h
              obtain ⟨y227, h⟩ := h
              rw [g227] at hG
              refine g_wVi (As := [.int bx3, .int bx9]) (rest := []) (n := 2) hx hb hml hown hts hK hlo hG (g_frI d227 (fun lo => g_noX (m_X9_file l hfl dd cT lo C227 ba0 bx3 bx9 h)) lo) qM_L_265 qI_yX9_file qS_X9_yX9_file qN_X9 qC_yX9_file (by decide +kernel) ⟨Nat.le_of_ble_eq_true rfl, Nat.le_of_ble_eq_true rfl⟩ (by rfl) (g_ob_gj o227) rfl hl.1 rfl (Nat.le_of_ble_eq_true rfl) dL_files_227 y227 (fun v227x Gx H locs hKx hG => ?_)
              obtain ⟨D227, h, f227, rfl⟩ := hKx
              obtain ⟨G227, i227⟩ : ∃ g : gH, g = gj D227 R227 := ⟨_, rfl⟩
              rw [← i227] at hG
              replace h := h G227 f227 i227
              revert h
              generalize v227x = v227
              intro h
              refine lv_aload hx hb dL_files_230 (lv_at hl 5 rfl) ?_
              refine lv_iload hx hb dL_files_232 (lv_at hl 6 rfl) ?_
              obtain ⟨v234, e234, h⟩ := h
              refine g_iald hx hb hK hG e234 dL_files_234 ?_
              refine lv_icmp_eq (tgt := 240) hx hb dL_files_235 (by decide) (fun c235 => ?_) (fun c235 => ?_)
              · rw [if_pos c235] at h
                refine lv_iinc (v := (bx9 + (1 : Int32))) (lv' := [(9, .int (bx9 + (1 : Int32))), (0, .ref ba0), (1, .ref ba1), (2, .ref ba2), (3, .int bx3), (5, .ref ba5r), (8, .ref ba8)]) hx hb dL_files_240 hl (k := 6) rfl rfl (by decide) rfl (fun ls hl => ?_)
                refine lv_goto (tgt := 216) hx hb dL_files_243 (by decide) ?_
                exact ih216 G227 (kc + 2) (ks + 12) ba0 ba1 ba2 bx3 (some ba5r) ba8 (bx9 + (1 : Int32)) _ _ hG _ (lv_sub hl [1, 2, 3, 4, 5, 6, 0] rfl) h
              · rw [if_neg c235] at h
                refine lv_iconst (v := (0 : Int32)) hx hb dL_files_238 (by decide) ?_
                obtain ⟨y1, y2, h⟩ := h
                refine W.widen (k := MC) (n := MS) y1 y2 ?_
                exact g_zret hx hb hr hlocks hK hlo hG rfl h dL_files_239
      have h199 : ∀ (G : gH) (kc ks : Nat) (ba0 : Nat) (ba1 : Nat) (ba2 : Nat) (bx3 : Int32) (ba5 : Option Nat) (bx6 : Int32) (bx7 : Int32) (z0 : Nat) (z1 : Nat) (z2 : Int32) (z3 : Int32) (H : Heap) (locs : List Loc), g_S lo dd cT s H locs G → ∀ ls : Array Slot, lv_has ls 11 [(0, .ref ba0), (1, .ref ba1), (2, .ref ba2), (3, .int bx3), (5, va_rf ba5), (6, .int bx6), (7, .int bx7)] → w_L_files_J199 MC MS K (w_L_files_L2 MC MS K n2) G kc ks ba0 ba1 ba2 bx3 ba5 bx6 bx7 z0 z1 z2 z3 → W p l e (g_rm 8 154 MC MS) s m ([.ref a0, .ref a1, .ref a2] : List Value).toArray below meth c H locs kc ks (MQ below (va_Qi K (g_Pre lo dd cT) (g_A lo)) ([.ref a0, .ref a1, .ref a2] : List Value).toArray s MC MS (g_A lo)) (F0 m 199 ls [.int z3, .int z2, .ref z1, .ref z0]) := by
        intro G kc ks ba0 ba1 ba2 bx3 ba5 bx6 bx7 z0 z1 z2 z3 H locs hG ls hl h
        unfold w_L_files_J199 at h
        rcases ba5 with _ | ba5r
        · replace h := h.1 rfl
          obtain ⟨G199, e199, h⟩ := h
          refine g_iast hx hb hK hG e199 dL_files_199 (fun H locs hG => ?_)
          refine lv_dup hx hb dL_files_200 rfl ?_
          refine lv_iconst (v := (5 : Int32)) hx hb dL_files_201 (by decide) ?_
          refine lv_iload hx hb dL_files_202 (lv_at hl 5 rfl) ?_
          obtain ⟨G204, e204, h⟩ := h
          refine g_iast hx hb hK hG e204 dL_files_204 (fun H locs hG => ?_)
          refine lv_dup hx hb dL_files_205 rfl ?_
          refine lv_bipush (v := (6 : Int32)) hx hb dL_files_206 (by decide) ?_
          refine lv_iload hx hb dL_files_208 (lv_at hl 6 rfl) ?_
          obtain ⟨G210, e210, h⟩ := h
          refine g_iast hx hb hK hG e210 dL_files_210 (fun H locs hG => ?_)
          refine lv_astore (lv' := [(8, .ref z0), (0, .ref ba0), (1, .ref ba1), (2, .ref ba2), (3, .int bx3), (5, .null), (6, .int bx6), (7, .int bx7)]) hx hb dL_files_211 hl (by decide) rfl (fun ls hl => ?_)
          refine lv_iconst (v := (0 : Int32)) hx hb dL_files_213 (by decide) ?_
          refine lv_istore (lv' := [(9, .int (0 : Int32)), (8, .ref z0), (0, .ref ba0), (1, .ref ba1), (2, .ref ba2), (3, .int bx3), (5, .null), (6, .int bx6), (7, .int bx7)]) hx hb dL_files_214 hl (by decide) rfl (fun ls hl => ?_)
          exact h216 g_N G210 kc ks ba0 ba1 ba2 bx3 none z0 (0 : Int32) _ _ hG _ (lv_sub hl [2, 3, 4, 5, 6, 1, 0] rfl) h
        · replace h := h.2 ba5r rfl
          obtain ⟨G199, e199, h⟩ := h
          refine g_iast hx hb hK hG e199 dL_files_199 (fun H locs hG => ?_)
          refine lv_dup hx hb dL_files_200 rfl ?_
          refine lv_iconst (v := (5 : Int32)) hx hb dL_files_201 (by decide) ?_
          refine lv_iload hx hb dL_files_202 (lv_at hl 5 rfl) ?_
          obtain ⟨G204, e204, h⟩ := h
          refine g_iast hx hb hK hG e204 dL_files_204 (fun H locs hG => ?_)
          refine lv_dup hx hb dL_files_205 rfl ?_
          refine lv_bipush (v := (6 : Int32)) hx hb dL_files_206 (by decide) ?_
          refine lv_iload hx hb dL_files_208 (lv_at hl 6 rfl) ?_
          obtain ⟨G210, e210, h⟩ := h
          refine g_iast hx hb hK hG e210 dL_files_210 (fun H locs hG => ?_)
          refine lv_astore (lv' := [(8, .ref z0), (0, .ref ba0), (1, .ref ba1), (2, .ref ba2), (3, .int bx3), (5, .ref ba5r), (6, .int bx6), (7, .int bx7)]) hx hb dL_files_211 hl (by decide) rfl (fun ls hl => ?_)
          refine lv_iconst (v := (0 : Int32)) hx hb dL_files_213 (by decide) ?_
          refine lv_istore (lv' := [(9, .int (0 : Int32)), (8, .ref z0), (0, .ref ba0), (1, .ref ba1), (2, .ref ba2), (3, .int bx3), (5, .ref ba5r), (6, .int bx6), (7, .int bx7)]) hx hb dL_files_214 hl (by decide) rfl (fun ls hl => ?_)
          exact h216 g_N G210 kc ks ba0 ba1 ba2 bx3 (some ba5r) z0 (0 : Int32) _ _ hG _ (lv_sub hl [2, 3, 4, 5, 6, 1, 0] rfl) h
      have h182 : ∀ (G : gH) (kc ks : Nat) (ba0 : Nat) (ba1 : Nat) (ba2 : Nat) (bx3 : Int32) (ba5 : Option Nat) (bx6 : Int32) (bx7 : Int32) (z0 : Nat) (z1 : Nat) (z2 : Int32) (z3 : Int32) (H : Heap) (locs : List Loc), g_S lo dd cT s H locs G → ∀ ls : Array Slot, lv_has ls 11 [(0, .ref ba0), (1, .ref ba1), (2, .ref ba2), (3, .int bx3), (5, va_rf ba5), (6, .int bx6), (7, .int bx7)] → w_L_files_J182 MC MS K (w_L_files_L2 MC MS K n2) G kc ks ba0 ba1 ba2 bx3 ba5 bx6 bx7 z0 z1 z2 z3 → W p l e (g_rm 8 154 MC MS) s m ([.ref a0, .ref a1, .ref a2] : List Value).toArray below meth c H locs kc ks (MQ below (va_Qi K (g_Pre lo dd cT) (g_A lo)) ([.ref a0, .ref a1, .ref a2] : List Value).toArray s MC MS (g_A lo)) (F0 m 182 ls [.int z3, .int z2, .ref z1, .ref z0]) := by
        intro G kc ks ba0 ba1 ba2 bx3 ba5 bx6 bx7 z0 z1 z2 z3 H locs hG ls hl h
        unfold w_L_files_J182 at h
        rcases ba5 with _ | ba5r
        · replace h := h.1 rfl
          obtain ⟨G182, e182, h⟩ := h
          refine g_iast hx hb hK hG e182 dL_files_182 (fun H locs hG => ?_)
          refine lv_dup hx hb dL_files_183 rfl ?_
          refine lv_iconst (v := (4 : Int32)) hx hb dL_files_184 (by decide) ?_
          refine lv_aloadN hx hb dL_files_185 (lv_at hl 4 rfl) ?_
          refine lv_ifnonnullN hx hb dL_files_187 ?_
          refine lv_iconst (v := (-1 : Int32)) hx hb dL_files_190 (by decide) ?_
          refine lv_goto (tgt := 199) hx hb dL_files_191 (by decide) ?_
          exact h199 G182 kc ks ba0 ba1 ba2 bx3 none bx6 bx7 z0 z0 (4 : Int32) (-1 : Int32) _ _ hG _ (lv_sub hl [0, 1, 2, 3, 4, 5, 6] rfl) h
        · replace h := h.2 ba5r rfl
          obtain ⟨G182, e182, h⟩ := h
          refine g_iast hx hb hK hG e182 dL_files_182 (fun H locs hG => ?_)
          refine lv_dup hx hb dL_files_183 rfl ?_
          refine lv_iconst (v := (4 : Int32)) hx hb dL_files_184 (by decide) ?_
          refine lv_aload hx hb dL_files_185 (lv_at hl 4 rfl) ?_
          refine lv_ifnonnull (tgt := 194) hx hb dL_files_187 (by decide) ?_
          refine lv_aload hx hb dL_files_194 (lv_at hl 4 rfl) ?_
          obtain ⟨v196, e196, h⟩ := h
          refine g_getiN hx hb hts inlX13 hown hK hG (by rfl) 4 (by decide) (List.mem_of_getElem? (i := 26) rfl) e196 dL_files_196 ?_
          exact h199 G182 kc ks ba0 ba1 ba2 bx3 (some ba5r) bx6 bx7 z0 z0 (4 : Int32) v196 _ _ hG _ (lv_sub hl [0, 1, 2, 3, 4, 5, 6] rfl) h
      have h165 : ∀ (G : gH) (kc ks : Nat) (ba0 : Nat) (ba1 : Nat) (ba2 : Nat) (bx3 : Int32) (ba5 : Option Nat) (bx6 : Int32) (bx7 : Int32) (z0 : Nat) (z1 : Nat) (z2 : Int32) (z3 : Int32) (H : Heap) (locs : List Loc), g_S lo dd cT s H locs G → ∀ ls : Array Slot, lv_has ls 11 [(0, .ref ba0), (1, .ref ba1), (2, .ref ba2), (3, .int bx3), (5, va_rf ba5), (6, .int bx6), (7, .int bx7)] → w_L_files_J165 MC MS K (w_L_files_L2 MC MS K n2) G kc ks ba0 ba1 ba2 bx3 ba5 bx6 bx7 z0 z1 z2 z3 → W p l e (g_rm 8 154 MC MS) s m ([.ref a0, .ref a1, .ref a2] : List Value).toArray below meth c H locs kc ks (MQ below (va_Qi K (g_Pre lo dd cT) (g_A lo)) ([.ref a0, .ref a1, .ref a2] : List Value).toArray s MC MS (g_A lo)) (F0 m 165 ls [.int z3, .int z2, .ref z1, .ref z0]) := by
        intro G kc ks ba0 ba1 ba2 bx3 ba5 bx6 bx7 z0 z1 z2 z3 H locs hG ls hl h
        unfold w_L_files_J165 at h
        rcases ba5 with _ | ba5r
        · replace h := h.1 rfl
          obtain ⟨G165, e165, h⟩ := h
          refine g_iast hx hb hK hG e165 dL_files_165 (fun H locs hG => ?_)
          refine lv_dup hx hb dL_files_166 rfl ?_
          refine lv_iconst (v := (3 : Int32)) hx hb dL_files_167 (by decide) ?_
          refine lv_aloadN hx hb dL_files_168 (lv_at hl 4 rfl) ?_
          refine lv_ifnonnullN hx hb dL_files_170 ?_
          refine lv_iconst (v := (0 : Int32)) hx hb dL_files_173 (by decide) ?_
          refine lv_goto (tgt := 182) hx hb dL_files_174 (by decide) ?_
          exact h182 G165 kc ks ba0 ba1 ba2 bx3 none bx6 bx7 z0 z0 (3 : Int32) (0 : Int32) _ _ hG _ (lv_sub hl [0, 1, 2, 3, 4, 5, 6] rfl) h
        · replace h := h.2 ba5r rfl
          obtain ⟨G165, e165, h⟩ := h
          refine g_iast hx hb hK hG e165 dL_files_165 (fun H locs hG => ?_)
          refine lv_dup hx hb dL_files_166 rfl ?_
          refine lv_iconst (v := (3 : Int32)) hx hb dL_files_167 (by decide) ?_
          refine lv_aload hx hb dL_files_168 (lv_at hl 4 rfl) ?_
          refine lv_ifnonnull (tgt := 177) hx hb dL_files_170 (by decide) ?_
          refine lv_aload hx hb dL_files_177 (lv_at hl 4 rfl) ?_
          obtain ⟨v179, e179, h⟩ := h
          refine g_getiN hx hb hts inlX13 hown hK hG (by rfl) 3 (by decide) (List.mem_of_getElem? (i := 25) rfl) e179 dL_files_179 ?_
          exact h182 G165 kc ks ba0 ba1 ba2 bx3 (some ba5r) bx6 bx7 z0 z0 (3 : Int32) v179 _ _ hG _ (lv_sub hl [0, 1, 2, 3, 4, 5, 6] rfl) h
      have h148 : ∀ (G : gH) (kc ks : Nat) (ba0 : Nat) (ba1 : Nat) (ba2 : Nat) (bx3 : Int32) (ba5 : Option Nat) (bx6 : Int32) (bx7 : Int32) (z0 : Nat) (z1 : Nat) (z2 : Int32) (z3 : Int32) (H : Heap) (locs : List Loc), g_S lo dd cT s H locs G → ∀ ls : Array Slot, lv_has ls 11 [(0, .ref ba0), (1, .ref ba1), (2, .ref ba2), (3, .int bx3), (5, va_rf ba5), (6, .int bx6), (7, .int bx7)] → w_L_files_J148 MC MS K (w_L_files_L2 MC MS K n2) G kc ks ba0 ba1 ba2 bx3 ba5 bx6 bx7 z0 z1 z2 z3 → W p l e (g_rm 8 154 MC MS) s m ([.ref a0, .ref a1, .ref a2] : List Value).toArray below meth c H locs kc ks (MQ below (va_Qi K (g_Pre lo dd cT) (g_A lo)) ([.ref a0, .ref a1, .ref a2] : List Value).toArray s MC MS (g_A lo)) (F0 m 148 ls [.int z3, .int z2, .ref z1, .ref z0]) := by
        intro G kc ks ba0 ba1 ba2 bx3 ba5 bx6 bx7 z0 z1 z2 z3 H locs hG ls hl h
        unfold w_L_files_J148 at h
        rcases ba5 with _ | ba5r
        · replace h := h.1 rfl
          obtain ⟨G148, e148, h⟩ := h
          refine g_iast hx hb hK hG e148 dL_files_148 (fun H locs hG => ?_)
          refine lv_dup hx hb dL_files_149 rfl ?_
          refine lv_iconst (v := (2 : Int32)) hx hb dL_files_150 (by decide) ?_
          refine lv_aloadN hx hb dL_files_151 (lv_at hl 4 rfl) ?_
          refine lv_ifnonnullN hx hb dL_files_153 ?_
          refine lv_iconst (v := (-1 : Int32)) hx hb dL_files_156 (by decide) ?_
          refine lv_goto (tgt := 165) hx hb dL_files_157 (by decide) ?_
          exact h165 G148 kc ks ba0 ba1 ba2 bx3 none bx6 bx7 z0 z0 (2 : Int32) (-1 : Int32) _ _ hG _ (lv_sub hl [0, 1, 2, 3, 4, 5, 6] rfl) h
        · replace h := h.2 ba5r rfl
          obtain ⟨G148, e148, h⟩ := h
          refine g_iast hx hb hK hG e148 dL_files_148 (fun H locs hG => ?_)
          refine lv_dup hx hb dL_files_149 rfl ?_
          refine lv_iconst (v := (2 : Int32)) hx hb dL_files_150 (by decide) ?_
          refine lv_aload hx hb dL_files_151 (lv_at hl 4 rfl) ?_
          refine lv_ifnonnull (tgt := 160) hx hb dL_files_153 (by decide) ?_
          refine lv_aload hx hb dL_files_160 (lv_at hl 4 rfl) ?_
          obtain ⟨v162, e162, h⟩ := h
          refine g_getiN hx hb hts inlX13 hown hK hG (by rfl) 1 (by decide) (List.mem_of_getElem? (i := 8) rfl) e162 dL_files_162 ?_
          exact h165 G148 kc ks ba0 ba1 ba2 bx3 (some ba5r) bx6 bx7 z0 z0 (2 : Int32) v162 _ _ hG _ (lv_sub hl [0, 1, 2, 3, 4, 5, 6] rfl) h
      have h126 : ∀ (G : gH) (kc ks : Nat) (ba0 : Nat) (ba1 : Nat) (ba2 : Nat) (bx3 : Int32) (ba5 : Option Nat) (bx6 : Int32) (bx7 : Int32) (z0 : Nat) (z1 : Nat) (z2 : Int32) (z3 : Int32) (H : Heap) (locs : List Loc), g_S lo dd cT s H locs G → ∀ ls : Array Slot, lv_has ls 11 [(0, .ref ba0), (1, .ref ba1), (2, .ref ba2), (3, .int bx3), (5, va_rf ba5), (6, .int bx6), (7, .int bx7)] → w_L_files_J126 MC MS K (w_L_files_L2 MC MS K n2) G kc ks ba0 ba1 ba2 bx3 ba5 bx6 bx7 z0 z1 z2 z3 → W p l e (g_rm 8 154 MC MS) s m ([.ref a0, .ref a1, .ref a2] : List Value).toArray below meth c H locs kc ks (MQ below (va_Qi K (g_Pre lo dd cT) (g_A lo)) ([.ref a0, .ref a1, .ref a2] : List Value).toArray s MC MS (g_A lo)) (F0 m 126 ls [.int z3, .int z2, .ref z1, .ref z0]) := by
        intro G kc ks ba0 ba1 ba2 bx3 ba5 bx6 bx7 z0 z1 z2 z3 H locs hG ls hl h
        unfold w_L_files_J126 at h
        rcases ba5 with _ | ba5r
        · replace h := h.1 rfl
          obtain ⟨G126, e126, h⟩ := h
          refine g_iast hx hb hK hG e126 dL_files_126 (fun H locs hG => ?_)
          refine lv_dup hx hb dL_files_127 rfl ?_
          refine lv_iconst (v := (1 : Int32)) hx hb dL_files_128 (by decide) ?_
          refine lv_aloadN hx hb dL_files_129 (lv_at hl 4 rfl) ?_
          refine lv_ifnullN (tgt := 147) hx hb dL_files_131 (by decide) ?_
          refine lv_iconst (v := (0 : Int32)) hx hb dL_files_147 (by decide) ?_
          exact h148 G126 kc ks ba0 ba1 ba2 bx3 none bx6 bx7 z0 z0 (1 : Int32) (0 : Int32) _ _ hG _ (lv_sub hl [0, 1, 2, 3, 4, 5, 6] rfl) h
        · replace h := h.2 ba5r rfl
          obtain ⟨G126, e126, h⟩ := h
          refine g_iast hx hb hK hG e126 dL_files_126 (fun H locs hG => ?_)
          refine lv_dup hx hb dL_files_127 rfl ?_
          refine lv_iconst (v := (1 : Int32)) hx hb dL_files_128 (by decide) ?_
          refine lv_aload hx hb dL_files_129 (lv_at hl 4 rfl) ?_
          refine lv_ifnull hx hb dL_files_131 ?_
          refine lv_aload_n hx hb dL_files_134 rfl (lv_at hl 1 rfl) ?_
          refine lv_aload hx hb dL_files_135 (lv_at hl 4 rfl) ?_
          obtain ⟨C137, R137, d137, g137, h⟩ := h
          obtain ⟨u137, o137, h⟩ := h
          obtain ⟨y137, h⟩ := h
          obtain ⟨v137, e137, h⟩ := h
          rw [g137] at hG
          refine g_wVi (As := [.ref ba5r]) (rest := [.int (1 : Int32), .ref z0, .ref z0]) (n := 1) hx hb hml hown hts hK hlo hG (g_frI d137 (fun lo => m_X10_reads_ l dd cT lo C137 ba1 ba5r e137) lo) qM_L_262 qI_yX10_reads_ qS_X10_yX10_reads_ qN_X10 qC_yX10_reads_ (by decide +kernel) ⟨Nat.le_of_ble_eq_true rfl, Nat.le_of_ble_eq_true rfl⟩ (by rfl) (g_ob_gj o137) rfl hl.1 rfl (Nat.le_of_ble_eq_true rfl) dL_files_137 y137 (fun v137x Gx H locs hKx hG => ?_)
          obtain ⟨D137, ⟨k137a, k137⟩, f137, l137⟩ := hKx
          rw [l137, k137] at hG
          rw [k137] at f137
          rw [k137a]
          rw [← g137] at hG
          refine lv_if_eq (tgt := 147) hx hb dL_files_140 (by decide) (fun c140 => ?_) (fun c140 => ?_)
          · rw [if_pos c140] at h
            refine lv_iconst (v := (0 : Int32)) hx hb dL_files_147 (by decide) ?_
            exact h148 G126 kc ks ba0 ba1 ba2 bx3 (some ba5r) bx6 bx7 z0 z0 (1 : Int32) (0 : Int32) _ _ hG _ (lv_sub hl [0, 1, 2, 3, 4, 5, 6] rfl) h
          · rw [if_neg c140] at h
            refine lv_iconst (v := (1 : Int32)) hx hb dL_files_143 (by decide) ?_
            refine lv_goto (tgt := 148) hx hb dL_files_144 (by decide) ?_
            exact h148 G126 kc ks ba0 ba1 ba2 bx3 (some ba5r) bx6 bx7 z0 z0 (1 : Int32) (1 : Int32) _ _ hG _ (lv_sub hl [0, 1, 2, 3, 4, 5, 6] rfl) h
      have h71 : ∀ n71 : Nat, ∀ (G : gH) (kc ks : Nat) (ba0 : Nat) (ba1 : Nat) (ba2 : Nat) (bx3 : Int32) (ba5 : Option Nat) (bx6 : Int32) (bx7 : Int32) (bx8 : Int32) (H : Heap) (locs : List Loc), g_S lo dd cT s H locs G → ∀ ls : Array Slot, lv_has ls 11 [(0, .ref ba0), (1, .ref ba1), (2, .ref ba2), (3, .int bx3), (5, va_rf ba5), (6, .int bx6), (7, .int bx7), (8, .int bx8)] → w_L_files_L71 MC MS K (w_L_files_L2 MC MS K n2) n71 G kc ks ba0 ba1 ba2 bx3 ba5 bx6 bx7 bx8 → W p l e (g_rm 8 154 MC MS) s m ([.ref a0, .ref a1, .ref a2] : List Value).toArray below meth c H locs kc ks (MQ below (va_Qi K (g_Pre lo dd cT) (g_A lo)) ([.ref a0, .ref a1, .ref a2] : List Value).toArray s MC MS (g_A lo)) (F0 m 71 ls []) := by
        intro n71
        induction n71 with
        | zero =>
          intro G kc ks ba0 ba1 ba2 bx3 ba5 bx6 bx7 bx8 H locs hG ls hl h
          exact (show False from h).elim
        | succ n71 ih71 =>
          intro G kc ks ba0 ba1 ba2 bx3 ba5 bx6 bx7 bx8 H locs hG ls hl h
          rw [w_L_files_L71] at h
          rcases ba5 with _ | ba5r
          · replace h := h.1 rfl
            refine lv_iload hx hb dL_files_71 (lv_at hl 7 rfl) ?_
            refine lv_aload_n hx hb dL_files_73 rfl (lv_at hl 1 rfl) ?_
            obtain ⟨v74, e74, h⟩ := h
            refine g_getiN hx hb hts inlX10 hown hK hG (by rfl) 5 (by decide) (List.mem_of_getElem? (i := 17) rfl) e74 dL_files_74 ?_
            refine lv_icmp_ge (tgt := 110) hx hb dL_files_77 (by decide) (fun c77 => ?_) (fun c77 => ?_)
            · rw [if_pos c77] at h
              refine lv_bipush (v := (7 : Int32)) hx hb dL_files_110 (by decide) ?_
              obtain ⟨y112, h⟩ := h
              refine g_newai (N := 7) hx hb hts hK hlo hG (by decide) (by decide) (Nat.le_of_ble_eq_true rfl) y112 dL_files_112 (fun q112 H z112 hG => ?_)
              obtain ⟨G112, i112⟩ : ∃ g : gH, g = va_up G q112 (some (.inl (0, 7, fun _ => 0))) := ⟨_, rfl⟩
              rw [← i112] at hG
              replace h := h q112 z112 G112 i112
              refine lv_dup hx hb dL_files_114 rfl ?_
              refine lv_iconst (v := (0 : Int32)) hx hb dL_files_115 (by decide) ?_
              refine lv_aloadN hx hb dL_files_116 (lv_at hl 4 rfl) ?_
              refine lv_ifnonnullN hx hb dL_files_118 ?_
              refine lv_iconst (v := (0 : Int32)) hx hb dL_files_121 (by decide) ?_
              refine lv_goto (tgt := 126) hx hb dL_files_122 (by decide) ?_
              exact h126 G112 (kc + 1) (ks + 7) ba0 ba1 ba2 bx3 none bx6 bx7 q112 q112 (0 : Int32) (0 : Int32) _ _ hG _ (lv_sub hl [0, 1, 2, 3, 4, 5, 6] rfl) h
            · rw [if_neg c77] at h
              refine lv_iload hx hb dL_files_80 (lv_at hl 6 rfl) ?_
              refine lv_aload_n hx hb dL_files_82 rfl (lv_at hl 1 rfl) ?_
              obtain ⟨v83, e83, h⟩ := h
              refine g_getrN hx hb hts inlX10 hown hK hG (by rfl) 15 (by decide) (List.mem_of_getElem? (i := 27) rfl) e83 dL_files_83 ?_
              refine lv_iload hx hb dL_files_86 (lv_at hl 7 rfl) ?_
              obtain ⟨v88, e88, h⟩ := h
              refine g_rald_row hx hb hK hG (t := 6) rfl e88 dL_files_88 ?_
              rcases v88 with _ | r88
              · replace h := h.1 rfl
                exact (show False from h).elim
              · replace h := h.2 r88 rfl
                obtain ⟨v89, e89, h⟩ := h
                refine g_getiN hx hb hts inlX13 hown hK hG (by rfl) 0 (by decide) (List.mem_of_getElem? (i := 28) rfl) e89 dL_files_89 ?_
                refine lv_iload_n hx hb dL_files_92 rfl (lv_at hl 3 rfl) ?_
                refine lv_icmp_ne (tgt := 100) hx hb dL_files_93 (by decide) (fun c93 => ?_) (fun c93 => ?_)
                · rw [if_neg c93] at h
                  refine lv_iconst (v := (0 : Int32)) hx hb dL_files_100 (by decide) ?_
                  refine lv_iadd hx hb dL_files_101 ?_
                  refine lv_istore (lv' := [(7, .int (bx7 + (0 : Int32))), (0, .ref ba0), (1, .ref ba1), (2, .ref ba2), (3, .int bx3), (5, .null), (6, .int bx6), (8, .int bx8)]) hx hb dL_files_102 hl (by decide) rfl (fun ls hl => ?_)
                  refine lv_iinc (v := (bx8 + (1 : Int32))) (lv' := [(8, .int (bx8 + (1 : Int32))), (7, .int (bx7 + (0 : Int32))), (0, .ref ba0), (1, .ref ba1), (2, .ref ba2), (3, .int bx3), (5, .null), (6, .int bx6)]) hx hb dL_files_104 hl (k := 7) rfl rfl (by decide) rfl (fun ls hl => ?_)
                  refine lv_goto (tgt := 71) hx hb dL_files_107 (by decide) ?_
                  exact ih71 G kc ks ba0 ba1 ba2 bx3 none bx6 (bx7 + (0 : Int32)) (bx8 + (1 : Int32)) _ _ hG _ (lv_sub hl [2, 3, 4, 5, 6, 7, 1, 0] rfl) h
                · rw [if_pos c93] at h
                  refine lv_iconst (v := (1 : Int32)) hx hb dL_files_96 (by decide) ?_
                  refine lv_goto (tgt := 101) hx hb dL_files_97 (by decide) ?_
                  refine lv_iadd hx hb dL_files_101 ?_
                  refine lv_istore (lv' := [(7, .int (bx7 + (1 : Int32))), (0, .ref ba0), (1, .ref ba1), (2, .ref ba2), (3, .int bx3), (5, .null), (6, .int bx6), (8, .int bx8)]) hx hb dL_files_102 hl (by decide) rfl (fun ls hl => ?_)
                  refine lv_iinc (v := (bx8 + (1 : Int32))) (lv' := [(8, .int (bx8 + (1 : Int32))), (7, .int (bx7 + (1 : Int32))), (0, .ref ba0), (1, .ref ba1), (2, .ref ba2), (3, .int bx3), (5, .null), (6, .int bx6)]) hx hb dL_files_104 hl (k := 7) rfl rfl (by decide) rfl (fun ls hl => ?_)
                  refine lv_goto (tgt := 71) hx hb dL_files_107 (by decide) ?_
                  exact ih71 G kc ks ba0 ba1 ba2 bx3 none bx6 (bx7 + (1 : Int32)) (bx8 + (1 : Int32)) _ _ hG _ (lv_sub hl [2, 3, 4, 5, 6, 7, 1, 0] rfl) h
          · replace h := h.2 ba5r rfl
            refine lv_iload hx hb dL_files_71 (lv_at hl 7 rfl) ?_
            refine lv_aload_n hx hb dL_files_73 rfl (lv_at hl 1 rfl) ?_
            obtain ⟨v74, e74, h⟩ := h
            refine g_getiN hx hb hts inlX10 hown hK hG (by rfl) 5 (by decide) (List.mem_of_getElem? (i := 17) rfl) e74 dL_files_74 ?_
            refine lv_icmp_ge (tgt := 110) hx hb dL_files_77 (by decide) (fun c77 => ?_) (fun c77 => ?_)
            · rw [if_pos c77] at h
              refine lv_bipush (v := (7 : Int32)) hx hb dL_files_110 (by decide) ?_
              obtain ⟨y112, h⟩ := h
              refine g_newai (N := 7) hx hb hts hK hlo hG (by decide) (by decide) (Nat.le_of_ble_eq_true rfl) y112 dL_files_112 (fun q112 H z112 hG => ?_)
              obtain ⟨G112, i112⟩ : ∃ g : gH, g = va_up G q112 (some (.inl (0, 7, fun _ => 0))) := ⟨_, rfl⟩
              rw [← i112] at hG
              replace h := h q112 z112 G112 i112
              refine lv_dup hx hb dL_files_114 rfl ?_
              refine lv_iconst (v := (0 : Int32)) hx hb dL_files_115 (by decide) ?_
              refine lv_aload hx hb dL_files_116 (lv_at hl 4 rfl) ?_
              refine lv_ifnonnull (tgt := 125) hx hb dL_files_118 (by decide) ?_
              refine lv_iconst (v := (1 : Int32)) hx hb dL_files_125 (by decide) ?_
              exact h126 G112 (kc + 1) (ks + 7) ba0 ba1 ba2 bx3 (some ba5r) bx6 bx7 q112 q112 (0 : Int32) (1 : Int32) _ _ hG _ (lv_sub hl [0, 1, 2, 3, 4, 5, 6] rfl) h
            · rw [if_neg c77] at h
              refine lv_iload hx hb dL_files_80 (lv_at hl 6 rfl) ?_
              refine lv_aload_n hx hb dL_files_82 rfl (lv_at hl 1 rfl) ?_
              obtain ⟨v83, e83, h⟩ := h
              refine g_getrN hx hb hts inlX10 hown hK hG (by rfl) 15 (by decide) (List.mem_of_getElem? (i := 27) rfl) e83 dL_files_83 ?_
              refine lv_iload hx hb dL_files_86 (lv_at hl 7 rfl) ?_
              obtain ⟨v88, e88, h⟩ := h
              refine g_rald_row hx hb hK hG (t := 6) rfl e88 dL_files_88 ?_
              rcases v88 with _ | r88
              · replace h := h.1 rfl
                exact (show False from h).elim
              · replace h := h.2 r88 rfl
                obtain ⟨v89, e89, h⟩ := h
                refine g_getiN hx hb hts inlX13 hown hK hG (by rfl) 0 (by decide) (List.mem_of_getElem? (i := 28) rfl) e89 dL_files_89 ?_
                refine lv_iload_n hx hb dL_files_92 rfl (lv_at hl 3 rfl) ?_
                refine lv_icmp_ne (tgt := 100) hx hb dL_files_93 (by decide) (fun c93 => ?_) (fun c93 => ?_)
                · rw [if_neg c93] at h
                  refine lv_iconst (v := (0 : Int32)) hx hb dL_files_100 (by decide) ?_
                  refine lv_iadd hx hb dL_files_101 ?_
                  refine lv_istore (lv' := [(7, .int (bx7 + (0 : Int32))), (0, .ref ba0), (1, .ref ba1), (2, .ref ba2), (3, .int bx3), (5, .ref ba5r), (6, .int bx6), (8, .int bx8)]) hx hb dL_files_102 hl (by decide) rfl (fun ls hl => ?_)
                  refine lv_iinc (v := (bx8 + (1 : Int32))) (lv' := [(8, .int (bx8 + (1 : Int32))), (7, .int (bx7 + (0 : Int32))), (0, .ref ba0), (1, .ref ba1), (2, .ref ba2), (3, .int bx3), (5, .ref ba5r), (6, .int bx6)]) hx hb dL_files_104 hl (k := 7) rfl rfl (by decide) rfl (fun ls hl => ?_)
                  refine lv_goto (tgt := 71) hx hb dL_files_107 (by decide) ?_
                  exact ih71 G kc ks ba0 ba1 ba2 bx3 (some ba5r) bx6 (bx7 + (0 : Int32)) (bx8 + (1 : Int32)) _ _ hG _ (lv_sub hl [2, 3, 4, 5, 6, 7, 1, 0] rfl) h
                · rw [if_pos c93] at h
                  refine lv_iconst (v := (1 : Int32)) hx hb dL_files_96 (by decide) ?_
                  refine lv_goto (tgt := 101) hx hb dL_files_97 (by decide) ?_
                  refine lv_iadd hx hb dL_files_101 ?_
                  refine lv_istore (lv' := [(7, .int (bx7 + (1 : Int32))), (0, .ref ba0), (1, .ref ba1), (2, .ref ba2), (3, .int bx3), (5, .ref ba5r), (6, .int bx6), (8, .int bx8)]) hx hb dL_files_102 hl (by decide) rfl (fun ls hl => ?_)
                  refine lv_iinc (v := (bx8 + (1 : Int32))) (lv' := [(8, .int (bx8 + (1 : Int32))), (7, .int (bx7 + (1 : Int32))), (0, .ref ba0), (1, .ref ba1), (2, .ref ba2), (3, .int bx3), (5, .ref ba5r), (6, .int bx6)]) hx hb dL_files_104 hl (k := 7) rfl rfl (by decide) rfl (fun ls hl => ?_)
                  refine lv_goto (tgt := 71) hx hb dL_files_107 (by decide) ?_
                  exact ih71 G kc ks ba0 ba1 ba2 bx3 (some ba5r) bx6 (bx7 + (1 : Int32)) (bx8 + (1 : Int32)) _ _ hG _ (lv_sub hl [2, 3, 4, 5, 6, 7, 1, 0] rfl) h
      have h34 : ∀ n34 : Nat, ∀ (G : gH) (kc ks : Nat) (ba0 : Nat) (ba1 : Nat) (ba2 : Nat) (bx3 : Int32) (ba4 : Option Nat) (ba5 : Option Nat) (bx6 : Int32) (bx7 : Int32) (H : Heap) (locs : List Loc), g_S lo dd cT s H locs G → ∀ ls : Array Slot, lv_has ls 11 [(0, .ref ba0), (1, .ref ba1), (2, .ref ba2), (3, .int bx3), (4, va_rf ba4), (5, va_rf ba5), (6, .int bx6), (7, .int bx7)] → w_L_files_L34 MC MS K (w_L_files_L2 MC MS K n2) n34 G kc ks ba0 ba1 ba2 bx3 ba4 ba5 bx6 bx7 → W p l e (g_rm 8 154 MC MS) s m ([.ref a0, .ref a1, .ref a2] : List Value).toArray below meth c H locs kc ks (MQ below (va_Qi K (g_Pre lo dd cT) (g_A lo)) ([.ref a0, .ref a1, .ref a2] : List Value).toArray s MC MS (g_A lo)) (F0 m 34 ls []) := by
        intro n34
        induction n34 with
        | zero =>
          intro G kc ks ba0 ba1 ba2 bx3 ba4 ba5 bx6 bx7 H locs hG ls hl h
          exact (show False from h).elim
        | succ n34 ih34 =>
          intro G kc ks ba0 ba1 ba2 bx3 ba4 ba5 bx6 bx7 H locs hG ls hl h
          rw [w_L_files_L34] at h
          rcases ba4 with _ | ba4r
          · replace h := h.1 rfl
            rcases ba5 with _ | ba5r
            · replace h := h.1 rfl
              refine lv_iload hx hb dL_files_34 (lv_at hl 7 rfl) ?_
              refine lv_aload_n hx hb dL_files_36 rfl (lv_at hl 1 rfl) ?_
              obtain ⟨v37, e37, h⟩ := h
              refine g_getiN hx hb hts inlX10 hown hK hG (by rfl) 4 (by decide) (List.mem_of_getElem? (i := 14) rfl) e37 dL_files_37 ?_
              refine lv_icmp_ge (tgt := 65) hx hb dL_files_40 (by decide) (fun c40 => ?_) (fun c40 => ?_)
              · rw [if_pos c40] at h
                refine lv_iconst (v := (0 : Int32)) hx hb dL_files_65 (by decide) ?_
                refine lv_istore (lv' := [(7, .int (0 : Int32)), (0, .ref ba0), (1, .ref ba1), (2, .ref ba2), (3, .int bx3), (4, .null), (5, .null), (6, .int bx6)]) hx hb dL_files_66 hl (by decide) rfl (fun ls hl => ?_)
                refine lv_iconst (v := (0 : Int32)) hx hb dL_files_68 (by decide) ?_
                refine lv_istore (lv' := [(8, .int (0 : Int32)), (7, .int (0 : Int32)), (0, .ref ba0), (1, .ref ba1), (2, .ref ba2), (3, .int bx3), (4, .null), (5, .null), (6, .int bx6)]) hx hb dL_files_69 hl (by decide) rfl (fun ls hl => ?_)
                exact h71 g_N G kc ks ba0 ba1 ba2 bx3 none bx6 (0 : Int32) (0 : Int32) _ _ hG _ (lv_sub hl [2, 3, 4, 5, 7, 8, 1, 0] rfl) h
              · rw [if_neg c40] at h
                refine lv_aload_n hx hb dL_files_43 rfl (lv_at hl 1 rfl) ?_
                obtain ⟨v44, e44, h⟩ := h
                refine g_getrN hx hb hts inlX10 hown hK hG (by rfl) 16 (by decide) (List.mem_of_getElem? (i := 12) rfl) e44 dL_files_44 ?_
                refine lv_iload hx hb dL_files_47 (lv_at hl 7 rfl) ?_
                obtain ⟨v49, e49, h⟩ := h
                refine g_rald_row hx hb hK hG (t := 5) rfl e49 dL_files_49 ?_
                rcases v49 with _ | r49
                · replace h := h.1 rfl
                  refine lv_aloadN hx hb dL_files_50 (lv_at hl 4 rfl) ?_
                  refine lv_acmp_ne (rx := none) (ry := none) (tgt := 59) hx hb dL_files_52 (by decide) (fun c52 => ?_) (fun c52 => ?_)
                  · exact absurd rfl c52
                  refine lv_iload hx hb dL_files_55 (lv_at hl 7 rfl) ?_
                  refine lv_istore (lv' := [(6, .int bx7), (0, .ref ba0), (1, .ref ba1), (2, .ref ba2), (3, .int bx3), (4, .null), (5, .null), (7, .int bx7)]) hx hb dL_files_57 hl (by decide) rfl (fun ls hl => ?_)
                  refine lv_iinc (v := (bx7 + (1 : Int32))) (lv' := [(7, .int (bx7 + (1 : Int32))), (6, .int bx7), (0, .ref ba0), (1, .ref ba1), (2, .ref ba2), (3, .int bx3), (4, .null), (5, .null)]) hx hb dL_files_59 hl (k := 7) rfl rfl (by decide) rfl (fun ls hl => ?_)
                  refine lv_goto (tgt := 34) hx hb dL_files_62 (by decide) ?_
                  exact ih34 G kc ks ba0 ba1 ba2 bx3 none none bx7 (bx7 + (1 : Int32)) _ _ hG _ (lv_sub hl [2, 3, 4, 5, 6, 7, 1, 0] rfl) h
                · replace h := h.2 r49 rfl
                  refine lv_aloadN hx hb dL_files_50 (lv_at hl 4 rfl) ?_
                  refine lv_acmp_ne (rx := (some r49)) (ry := none) (tgt := 59) hx hb dL_files_52 (by decide) (fun c52 => ?_) (fun c52 => ?_)
                  rotate_left
                  · exact absurd c52 (by simp)
                  refine lv_iinc (v := (bx7 + (1 : Int32))) (lv' := [(7, .int (bx7 + (1 : Int32))), (0, .ref ba0), (1, .ref ba1), (2, .ref ba2), (3, .int bx3), (4, .null), (5, .null), (6, .int bx6)]) hx hb dL_files_59 hl (k := 7) rfl rfl (by decide) rfl (fun ls hl => ?_)
                  refine lv_goto (tgt := 34) hx hb dL_files_62 (by decide) ?_
                  exact ih34 G kc ks ba0 ba1 ba2 bx3 none none bx6 (bx7 + (1 : Int32)) _ _ hG _ (lv_sub hl [1, 2, 3, 4, 5, 6, 7, 0] rfl) h
            · replace h := h.2 ba5r rfl
              refine lv_iload hx hb dL_files_34 (lv_at hl 7 rfl) ?_
              refine lv_aload_n hx hb dL_files_36 rfl (lv_at hl 1 rfl) ?_
              obtain ⟨v37, e37, h⟩ := h
              refine g_getiN hx hb hts inlX10 hown hK hG (by rfl) 4 (by decide) (List.mem_of_getElem? (i := 14) rfl) e37 dL_files_37 ?_
              refine lv_icmp_ge (tgt := 65) hx hb dL_files_40 (by decide) (fun c40 => ?_) (fun c40 => ?_)
              · rw [if_pos c40] at h
                refine lv_iconst (v := (0 : Int32)) hx hb dL_files_65 (by decide) ?_
                refine lv_istore (lv' := [(7, .int (0 : Int32)), (0, .ref ba0), (1, .ref ba1), (2, .ref ba2), (3, .int bx3), (4, .null), (5, .ref ba5r), (6, .int bx6)]) hx hb dL_files_66 hl (by decide) rfl (fun ls hl => ?_)
                refine lv_iconst (v := (0 : Int32)) hx hb dL_files_68 (by decide) ?_
                refine lv_istore (lv' := [(8, .int (0 : Int32)), (7, .int (0 : Int32)), (0, .ref ba0), (1, .ref ba1), (2, .ref ba2), (3, .int bx3), (4, .null), (5, .ref ba5r), (6, .int bx6)]) hx hb dL_files_69 hl (by decide) rfl (fun ls hl => ?_)
                exact h71 g_N G kc ks ba0 ba1 ba2 bx3 (some ba5r) bx6 (0 : Int32) (0 : Int32) _ _ hG _ (lv_sub hl [2, 3, 4, 5, 7, 8, 1, 0] rfl) h
              · rw [if_neg c40] at h
                refine lv_aload_n hx hb dL_files_43 rfl (lv_at hl 1 rfl) ?_
                obtain ⟨v44, e44, h⟩ := h
                refine g_getrN hx hb hts inlX10 hown hK hG (by rfl) 16 (by decide) (List.mem_of_getElem? (i := 12) rfl) e44 dL_files_44 ?_
                refine lv_iload hx hb dL_files_47 (lv_at hl 7 rfl) ?_
                obtain ⟨v49, e49, h⟩ := h
                refine g_rald_row hx hb hK hG (t := 5) rfl e49 dL_files_49 ?_
                rcases v49 with _ | r49
                · replace h := h.1 rfl
                  refine lv_aloadN hx hb dL_files_50 (lv_at hl 4 rfl) ?_
                  refine lv_acmp_ne (rx := none) (ry := none) (tgt := 59) hx hb dL_files_52 (by decide) (fun c52 => ?_) (fun c52 => ?_)
                  · exact absurd rfl c52
                  refine lv_iload hx hb dL_files_55 (lv_at hl 7 rfl) ?_
                  refine lv_istore (lv' := [(6, .int bx7), (0, .ref ba0), (1, .ref ba1), (2, .ref ba2), (3, .int bx3), (4, .null), (5, .ref ba5r), (7, .int bx7)]) hx hb dL_files_57 hl (by decide) rfl (fun ls hl => ?_)
                  refine lv_iinc (v := (bx7 + (1 : Int32))) (lv' := [(7, .int (bx7 + (1 : Int32))), (6, .int bx7), (0, .ref ba0), (1, .ref ba1), (2, .ref ba2), (3, .int bx3), (4, .null), (5, .ref ba5r)]) hx hb dL_files_59 hl (k := 7) rfl rfl (by decide) rfl (fun ls hl => ?_)
                  refine lv_goto (tgt := 34) hx hb dL_files_62 (by decide) ?_
                  exact ih34 G kc ks ba0 ba1 ba2 bx3 none (some ba5r) bx7 (bx7 + (1 : Int32)) _ _ hG _ (lv_sub hl [2, 3, 4, 5, 6, 7, 1, 0] rfl) h
                · replace h := h.2 r49 rfl
                  refine lv_aloadN hx hb dL_files_50 (lv_at hl 4 rfl) ?_
                  refine lv_acmp_ne (rx := (some r49)) (ry := none) (tgt := 59) hx hb dL_files_52 (by decide) (fun c52 => ?_) (fun c52 => ?_)
                  rotate_left
                  · exact absurd c52 (by simp)
                  refine lv_iinc (v := (bx7 + (1 : Int32))) (lv' := [(7, .int (bx7 + (1 : Int32))), (0, .ref ba0), (1, .ref ba1), (2, .ref ba2), (3, .int bx3), (4, .null), (5, .ref ba5r), (6, .int bx6)]) hx hb dL_files_59 hl (k := 7) rfl rfl (by decide) rfl (fun ls hl => ?_)
                  refine lv_goto (tgt := 34) hx hb dL_files_62 (by decide) ?_
                  exact ih34 G kc ks ba0 ba1 ba2 bx3 none (some ba5r) bx6 (bx7 + (1 : Int32)) _ _ hG _ (lv_sub hl [1, 2, 3, 4, 5, 6, 7, 0] rfl) h
          · replace h := h.2 ba4r rfl
            rcases ba5 with _ | ba5r
            · replace h := h.1 rfl
              refine lv_iload hx hb dL_files_34 (lv_at hl 7 rfl) ?_
              refine lv_aload_n hx hb dL_files_36 rfl (lv_at hl 1 rfl) ?_
              obtain ⟨v37, e37, h⟩ := h
              refine g_getiN hx hb hts inlX10 hown hK hG (by rfl) 4 (by decide) (List.mem_of_getElem? (i := 14) rfl) e37 dL_files_37 ?_
              refine lv_icmp_ge (tgt := 65) hx hb dL_files_40 (by decide) (fun c40 => ?_) (fun c40 => ?_)
              · rw [if_pos c40] at h
                refine lv_iconst (v := (0 : Int32)) hx hb dL_files_65 (by decide) ?_
                refine lv_istore (lv' := [(7, .int (0 : Int32)), (0, .ref ba0), (1, .ref ba1), (2, .ref ba2), (3, .int bx3), (4, .ref ba4r), (5, .null), (6, .int bx6)]) hx hb dL_files_66 hl (by decide) rfl (fun ls hl => ?_)
                refine lv_iconst (v := (0 : Int32)) hx hb dL_files_68 (by decide) ?_
                refine lv_istore (lv' := [(8, .int (0 : Int32)), (7, .int (0 : Int32)), (0, .ref ba0), (1, .ref ba1), (2, .ref ba2), (3, .int bx3), (4, .ref ba4r), (5, .null), (6, .int bx6)]) hx hb dL_files_69 hl (by decide) rfl (fun ls hl => ?_)
                exact h71 g_N G kc ks ba0 ba1 ba2 bx3 none bx6 (0 : Int32) (0 : Int32) _ _ hG _ (lv_sub hl [2, 3, 4, 5, 7, 8, 1, 0] rfl) h
              · rw [if_neg c40] at h
                refine lv_aload_n hx hb dL_files_43 rfl (lv_at hl 1 rfl) ?_
                obtain ⟨v44, e44, h⟩ := h
                refine g_getrN hx hb hts inlX10 hown hK hG (by rfl) 16 (by decide) (List.mem_of_getElem? (i := 12) rfl) e44 dL_files_44 ?_
                refine lv_iload hx hb dL_files_47 (lv_at hl 7 rfl) ?_
                obtain ⟨v49, e49, h⟩ := h
                refine g_rald_row hx hb hK hG (t := 5) rfl e49 dL_files_49 ?_
                rcases v49 with _ | r49
                · replace h := h.1 rfl
                  refine lv_aload hx hb dL_files_50 (lv_at hl 4 rfl) ?_
                  refine lv_acmp_ne (rx := none) (ry := (some ba4r)) (tgt := 59) hx hb dL_files_52 (by decide) (fun c52 => ?_) (fun c52 => ?_)
                  rotate_left
                  · exact absurd c52 (by simp)
                  refine lv_iinc (v := (bx7 + (1 : Int32))) (lv' := [(7, .int (bx7 + (1 : Int32))), (0, .ref ba0), (1, .ref ba1), (2, .ref ba2), (3, .int bx3), (4, .ref ba4r), (5, .null), (6, .int bx6)]) hx hb dL_files_59 hl (k := 7) rfl rfl (by decide) rfl (fun ls hl => ?_)
                  refine lv_goto (tgt := 34) hx hb dL_files_62 (by decide) ?_
                  exact ih34 G kc ks ba0 ba1 ba2 bx3 (some ba4r) none bx6 (bx7 + (1 : Int32)) _ _ hG _ (lv_sub hl [1, 2, 3, 4, 5, 6, 7, 0] rfl) h
                · replace h := h.2 r49 rfl
                  refine lv_aload hx hb dL_files_50 (lv_at hl 4 rfl) ?_
                  refine lv_acmp_ne (rx := (some r49)) (ry := (some ba4r)) (tgt := 59) hx hb dL_files_52 (by decide) (fun c52 => ?_) (fun c52 => ?_)
                  · rw [if_neg (fun z => c52 (congrArg some z))] at h
                    refine lv_iinc (v := (bx7 + (1 : Int32))) (lv' := [(7, .int (bx7 + (1 : Int32))), (0, .ref ba0), (1, .ref ba1), (2, .ref ba2), (3, .int bx3), (4, .ref ba4r), (5, .null), (6, .int bx6)]) hx hb dL_files_59 hl (k := 7) rfl rfl (by decide) rfl (fun ls hl => ?_)
                    refine lv_goto (tgt := 34) hx hb dL_files_62 (by decide) ?_
                    exact ih34 G kc ks ba0 ba1 ba2 bx3 (some ba4r) none bx6 (bx7 + (1 : Int32)) _ _ hG _ (lv_sub hl [1, 2, 3, 4, 5, 6, 7, 0] rfl) h
                  · rw [if_pos (Option.some.inj c52)] at h
                    refine lv_iload hx hb dL_files_55 (lv_at hl 7 rfl) ?_
                    refine lv_istore (lv' := [(6, .int bx7), (0, .ref ba0), (1, .ref ba1), (2, .ref ba2), (3, .int bx3), (4, .ref ba4r), (5, .null), (7, .int bx7)]) hx hb dL_files_57 hl (by decide) rfl (fun ls hl => ?_)
                    refine lv_iinc (v := (bx7 + (1 : Int32))) (lv' := [(7, .int (bx7 + (1 : Int32))), (6, .int bx7), (0, .ref ba0), (1, .ref ba1), (2, .ref ba2), (3, .int bx3), (4, .ref ba4r), (5, .null)]) hx hb dL_files_59 hl (k := 7) rfl rfl (by decide) rfl (fun ls hl => ?_)
                    refine lv_goto (tgt := 34) hx hb dL_files_62 (by decide) ?_
                    exact ih34 G kc ks ba0 ba1 ba2 bx3 (some ba4r) none bx7 (bx7 + (1 : Int32)) _ _ hG _ (lv_sub hl [2, 3, 4, 5, 6, 7, 1, 0] rfl) h
            · replace h := h.2 ba5r rfl
              refine lv_iload hx hb dL_files_34 (lv_at hl 7 rfl) ?_
              refine lv_aload_n hx hb dL_files_36 rfl (lv_at hl 1 rfl) ?_
              obtain ⟨v37, e37, h⟩ := h
              refine g_getiN hx hb hts inlX10 hown hK hG (by rfl) 4 (by decide) (List.mem_of_getElem? (i := 14) rfl) e37 dL_files_37 ?_
              refine lv_icmp_ge (tgt := 65) hx hb dL_files_40 (by decide) (fun c40 => ?_) (fun c40 => ?_)
              · rw [if_pos c40] at h
                refine lv_iconst (v := (0 : Int32)) hx hb dL_files_65 (by decide) ?_
                refine lv_istore (lv' := [(7, .int (0 : Int32)), (0, .ref ba0), (1, .ref ba1), (2, .ref ba2), (3, .int bx3), (4, .ref ba4r), (5, .ref ba5r), (6, .int bx6)]) hx hb dL_files_66 hl (by decide) rfl (fun ls hl => ?_)
                refine lv_iconst (v := (0 : Int32)) hx hb dL_files_68 (by decide) ?_
                refine lv_istore (lv' := [(8, .int (0 : Int32)), (7, .int (0 : Int32)), (0, .ref ba0), (1, .ref ba1), (2, .ref ba2), (3, .int bx3), (4, .ref ba4r), (5, .ref ba5r), (6, .int bx6)]) hx hb dL_files_69 hl (by decide) rfl (fun ls hl => ?_)
                exact h71 g_N G kc ks ba0 ba1 ba2 bx3 (some ba5r) bx6 (0 : Int32) (0 : Int32) _ _ hG _ (lv_sub hl [2, 3, 4, 5, 7, 8, 1, 0] rfl) h
              · rw [if_neg c40] at h
                refine lv_aload_n hx hb dL_files_43 rfl (lv_at hl 1 rfl) ?_
                obtain ⟨v44, e44, h⟩ := h
                refine g_getrN hx hb hts inlX10 hown hK hG (by rfl) 16 (by decide) (List.mem_of_getElem? (i := 12) rfl) e44 dL_files_44 ?_
                refine lv_iload hx hb dL_files_47 (lv_at hl 7 rfl) ?_
                obtain ⟨v49, e49, h⟩ := h
                refine g_rald_row hx hb hK hG (t := 5) rfl e49 dL_files_49 ?_
                rcases v49 with _ | r49
                · replace h := h.1 rfl
                  refine lv_aload hx hb dL_files_50 (lv_at hl 4 rfl) ?_
                  refine lv_acmp_ne (rx := none) (ry := (some ba4r)) (tgt := 59) hx hb dL_files_52 (by decide) (fun c52 => ?_) (fun c52 => ?_)
                  rotate_left
                  · exact absurd c52 (by simp)
                  refine lv_iinc (v := (bx7 + (1 : Int32))) (lv' := [(7, .int (bx7 + (1 : Int32))), (0, .ref ba0), (1, .ref ba1), (2, .ref ba2), (3, .int bx3), (4, .ref ba4r), (5, .ref ba5r), (6, .int bx6)]) hx hb dL_files_59 hl (k := 7) rfl rfl (by decide) rfl (fun ls hl => ?_)
                  refine lv_goto (tgt := 34) hx hb dL_files_62 (by decide) ?_
                  exact ih34 G kc ks ba0 ba1 ba2 bx3 (some ba4r) (some ba5r) bx6 (bx7 + (1 : Int32)) _ _ hG _ (lv_sub hl [1, 2, 3, 4, 5, 6, 7, 0] rfl) h
                · replace h := h.2 r49 rfl
                  refine lv_aload hx hb dL_files_50 (lv_at hl 4 rfl) ?_
                  refine lv_acmp_ne (rx := (some r49)) (ry := (some ba4r)) (tgt := 59) hx hb dL_files_52 (by decide) (fun c52 => ?_) (fun c52 => ?_)
                  · rw [if_neg (fun z => c52 (congrArg some z))] at h
                    refine lv_iinc (v := (bx7 + (1 : Int32))) (lv' := [(7, .int (bx7 + (1 : Int32))), (0, .ref ba0), (1, .ref ba1), (2, .ref ba2), (3, .int bx3), (4, .ref ba4r), (5, .ref ba5r), (6, .int bx6)]) hx hb dL_files_59 hl (k := 7) rfl rfl (by decide) rfl (fun ls hl => ?_)
                    refine lv_goto (tgt := 34) hx hb dL_files_62 (by decide) ?_
                    exact ih34 G kc ks ba0 ba1 ba2 bx3 (some ba4r) (some ba5r) bx6 (bx7 + (1 : Int32)) _ _ hG _ (lv_sub hl [1, 2, 3, 4, 5, 6, 7, 0] rfl) h
                  · rw [if_pos (Option.some.inj c52)] at h
                    refine lv_iload hx hb dL_files_55 (lv_at hl 7 rfl) ?_
                    refine lv_istore (lv' := [(6, .int bx7), (0, .ref ba0), (1, .ref ba1), (2, .ref ba2), (3, .int bx3), (4, .ref ba4r), (5, .ref ba5r), (7, .int bx7)]) hx hb dL_files_57 hl (by decide) rfl (fun ls hl => ?_)
                    refine lv_iinc (v := (bx7 + (1 : Int32))) (lv' := [(7, .int (bx7 + (1 : Int32))), (6, .int bx7), (0, .ref ba0), (1, .ref ba1), (2, .ref ba2), (3, .int bx3), (4, .ref ba4r), (5, .ref ba5r)]) hx hb dL_files_59 hl (k := 7) rfl rfl (by decide) rfl (fun ls hl => ?_)
                    refine lv_goto (tgt := 34) hx hb dL_files_62 (by decide) ?_
                    exact ih34 G kc ks ba0 ba1 ba2 bx3 (some ba4r) (some ba5r) bx7 (bx7 + (1 : Int32)) _ _ hG _ (lv_sub hl [2, 3, 4, 5, 6, 7, 1, 0] rfl) h
      intro G kc ks ba0 ba1 ba2 bx3 H locs hG ls hl h
      rw [w_L_files_L2] at h
      refine lv_iload_n hx hb dL_files_2 rfl (lv_at hl 3 rfl) ?_
      refine lv_aload_n hx hb dL_files_3 rfl (lv_at hl 1 rfl) ?_
      obtain ⟨v4, e4, h⟩ := h
      refine g_getiN hx hb hts inlX10 hown hK hG (by rfl) 2 (by decide) (List.mem_of_getElem? (i := 2) rfl) e4 dL_files_4 ?_
      refine lv_icmp_ge (tgt := 336) hx hb dL_files_7 (by decide) (fun c7 => ?_) (fun c7 => ?_)
      · rw [if_pos c7] at h
        refine lv_bipush (v := (10 : Int32)) hx hb dL_files_336 (by decide) ?_
        obtain ⟨y338, h⟩ := h
        refine g_newq6 (N := 10) hx hb hown hts qL_L_139 hK hlo hG (by decide) (by decide) (Nat.le_of_ble_eq_true rfl) y338 dL_files_338 (fun q338 H z338 hG => ?_)
        obtain ⟨G338, i338⟩ : ∃ g : gH, g = va_up G q338 (some (.inr (.inr (.inl (6, 10, fun _ => none))))) := ⟨_, rfl⟩
        rw [← i338] at hG
        replace h := h q338 z338 G338 i338
        refine lv_astore_n (lv' := [(3, .ref q338), (0, .ref ba0), (1, .ref ba1), (2, .ref ba2)]) hx hb dL_files_341 rfl hl (by decide) rfl (fun ls hl => ?_)
        refine lv_aload_n hx hb dL_files_342 rfl (lv_at hl 2 rfl) ?_
        refine lv_aload_n hx hb dL_files_343 rfl (lv_at hl 0 rfl) ?_
        obtain ⟨C344, R344, d344, g344, h⟩ := h
        obtain ⟨u344, o344, h⟩ := h
        obtain ⟨y344, h⟩ := h
        obtain ⟨q344, e344, h⟩ := h
        rw [g344] at hG
        refine g_wVi (As := [.ref q338]) (rest := []) (n := 1) hx hb hml hown hts hK hlo hG (g_frI d344 (fun lo => m_X10_lost l dd cT lo C344 ba1 q338 e344) lo) qM_L_276 qI_yX10_lost qS_X10_yX10_lost qN_X10 qC_yX10_lost (by decide +kernel) ⟨Nat.le_of_ble_eq_true rfl, Nat.le_of_ble_eq_true rfl⟩ (by rfl) (g_ob_gj o344) rfl hl.1 rfl (Nat.le_of_ble_eq_true rfl) dL_files_344 y344 (fun v344x Gx H locs hKx hG => ?_)
        obtain ⟨D344, ⟨k344a, k344⟩, f344, l344⟩ := hKx
        rw [l344, k344] at hG
        rw [k344] at f344
        rw [k344a]
        obtain ⟨G344, i344⟩ : ∃ g : gH, g = gj q344.1 R344 := ⟨_, rfl⟩
        rw [← i344] at hG
        replace h := h G344 f344 i344
        refine lv_istore (lv' := [(4, .int q344.2), (3, .ref q338), (0, .ref ba0), (1, .ref ba1), (2, .ref ba2)]) hx hb dL_files_347 hl (by decide) rfl (fun ls hl => ?_)
        refine lv_aload_n hx hb dL_files_349 rfl (lv_at hl 2 rfl) ?_
        obtain ⟨C350, R350, d350, g350, h⟩ := h
        obtain ⟨u350, o350, h⟩ := h
        obtain ⟨y350, h⟩ := h
        obtain ⟨v350, e350, h⟩ := h
        rw [g350] at hG
        refine g_wVi (As := []) (rest := []) (n := 0) hx hb hml hown hts hK hlo hG (g_frI d350 (fun lo => m_X9_couldRecover l dd cT lo C350 ba0 e350) lo) qM_L_280 qI_yX9_couldRecover qS_X9_yX9_couldRecover qN_X9 qC_yX9_couldRecover (by decide +kernel) ⟨Nat.le_of_ble_eq_true rfl, Nat.le_of_ble_eq_true rfl⟩ (by rfl) (g_ob_gj o350) rfl hl.1 rfl (Nat.le_of_ble_eq_true rfl) dL_files_350 y350 (fun v350x Gx H locs hKx hG => ?_)
        obtain ⟨D350, ⟨k350a, k350⟩, f350, l350⟩ := hKx
        rw [l350, k350] at hG
        rw [k350] at f350
        rw [k350a]
        rw [← g350] at hG
        refine lv_iload hx hb dL_files_353 (lv_at hl 0 rfl) ?_
        refine lv_icmp_ne (tgt := 404) hx hb dL_files_355 (by decide) (fun c355 => ?_) (fun c355 => ?_)
        · rw [if_neg c355] at h
          refine lv_iconst (v := (0 : Int32)) hx hb dL_files_404 (by decide) ?_
          obtain ⟨y1, y2, h⟩ := h
          refine W.widen (k := MC) (n := MS) y1 y2 ?_
          exact g_zret hx hb hr hlocks hK hlo hG rfl h dL_files_405
        · rw [if_pos c355] at h
          refine lv_aload_n hx hb dL_files_358 rfl (lv_at hl 2 rfl) ?_
          refine lv_iconst (v := (2 : Int32)) hx hb dL_files_359 (by decide) ?_
          obtain ⟨C360, R360, d360, g360, h⟩ := h
          obtain ⟨u360, o360, h⟩ := h
          obtain ⟨y360, h⟩ := h
          rw [g360] at hG
          refine g_wVi (As := [.int (2 : Int32)]) (rest := []) (n := 1) hx hb hml hown hts hK hlo hG (g_frI d360 (fun lo => g_noX (m_X9_whyNot l hfl dd cT lo C360 ba0 (2 : Int32) h)) lo) qM_L_283 qI_yX9_whyNot qS_X9_yX9_whyNot qN_X9 qC_yX9_whyNot (by decide +kernel) ⟨Nat.le_of_ble_eq_true rfl, Nat.le_of_ble_eq_true rfl⟩ (by rfl) (g_ob_gj o360) rfl hl.1 rfl (Nat.le_of_ble_eq_true rfl) dL_files_360 y360 (fun v360x Gx H locs hKx hG => ?_)
          obtain ⟨D360, h, f360, rfl⟩ := hKx
          obtain ⟨G360, i360⟩ : ∃ g : gH, g = gj D360 R360 := ⟨_, rfl⟩
          rw [← i360] at hG
          replace h := h G360 f360 i360
          revert h
          generalize v360x = v360
          intro h
          refine lv_aload_n hx hb dL_files_363 rfl (lv_at hl 3 rfl) ?_
          refine lv_iload hx hb dL_files_364 (lv_at hl 0 rfl) ?_
          obtain ⟨C366, R366, d366, g366, h⟩ := h
          obtain ⟨u366, o366, h⟩ := h
          obtain ⟨y366, h⟩ := h
          obtain ⟨v366, e366, h⟩ := h
          rw [g366] at hG
          refine g_wVi (As := [.int q344.2]) (rest := [.int v360]) (n := 1) hx hb hml hown hts hK hlo hG (g_frI d366 (fun lo => m_X10_whyRecover l dd cT lo C366 ba1 q344.2 e366) lo) qM_L_286 qI_yX10_whyRecover qS_X10_yX10_whyRecover qN_X10 qC_yX10_whyRecover (by decide +kernel) ⟨Nat.le_of_ble_eq_true rfl, Nat.le_of_ble_eq_true rfl⟩ (by rfl) (g_ob_gj o366) rfl hl.1 rfl (Nat.le_of_ble_eq_true rfl) dL_files_366 y366 (fun v366x Gx H locs hKx hG => ?_)
          obtain ⟨D366, ⟨k366a, k366⟩, f366, l366⟩ := hKx
          rw [l366, k366] at hG
          rw [k366] at f366
          rw [k366a]
          rw [← g366] at hG
          refine lv_icmp_ne (tgt := 404) hx hb dL_files_369 (by decide) (fun c369 => ?_) (fun c369 => ?_)
          · rw [if_neg c369] at h
            refine lv_iconst (v := (0 : Int32)) hx hb dL_files_404 (by decide) ?_
            obtain ⟨y1, y2, h⟩ := h
            refine W.widen (k := MC) (n := MS) y1 y2 ?_
            exact g_zret hx hb hr hlocks hK hlo hG rfl h dL_files_405
          · rw [if_pos c369] at h
            refine lv_aload_n hx hb dL_files_372 rfl (lv_at hl 2 rfl) ?_
            refine lv_iconst (v := (0 : Int32)) hx hb dL_files_373 (by decide) ?_
            obtain ⟨C374, R374, d374, g374, h⟩ := h
            obtain ⟨u374, o374, h⟩ := h
            obtain ⟨y374, h⟩ := h
            rw [g374] at hG
            refine g_wVi (As := [.int (0 : Int32)]) (rest := []) (n := 1) hx hb hml hown hts hK hlo hG (g_frI d374 (fun lo => g_noX (m_X9_whyNot l hfl dd cT lo C374 ba0 (0 : Int32) h)) lo) qM_L_283 qI_yX9_whyNot qS_X9_yX9_whyNot qN_X9 qC_yX9_whyNot (by decide +kernel) ⟨Nat.le_of_ble_eq_true rfl, Nat.le_of_ble_eq_true rfl⟩ (by rfl) (g_ob_gj o374) rfl hl.1 rfl (Nat.le_of_ble_eq_true rfl) dL_files_374 y374 (fun v374x Gx H locs hKx hG => ?_)
            obtain ⟨D374, h, f374, rfl⟩ := hKx
            obtain ⟨G374, i374⟩ : ∃ g : gH, g = gj D374 R374 := ⟨_, rfl⟩
            rw [← i374] at hG
            replace h := h G374 f374 i374
            revert h
            generalize v374x = v374
            intro h
            refine lv_aload_n hx hb dL_files_377 rfl (lv_at hl 3 rfl) ?_
            obtain ⟨C378, R378, d378, g378, h⟩ := h
            obtain ⟨u378, o378, h⟩ := h
            obtain ⟨y378, h⟩ := h
            obtain ⟨v378, e378, h⟩ := h
            rw [g378] at hG
            refine g_wVi (As := []) (rest := [.int v374]) (n := 0) hx hb hml hown hts hK hlo hG (g_frI d378 (fun lo => m_X10_whyClose l dd cT lo C378 ba1 e378) lo) qM_L_289 qI_yX10_whyClose qS_X10_yX10_whyClose qN_X10 qC_yX10_whyClose (by decide +kernel) ⟨Nat.le_of_ble_eq_true rfl, Nat.le_of_ble_eq_true rfl⟩ (by rfl) (g_ob_gj o378) rfl hl.1 rfl (Nat.le_of_ble_eq_true rfl) dL_files_378 y378 (fun v378x Gx H locs hKx hG => ?_)
            obtain ⟨D378, ⟨k378a, k378⟩, f378, l378⟩ := hKx
            rw [l378, k378] at hG
            rw [k378] at f378
            rw [k378a]
            rw [← g378] at hG
            refine lv_icmp_ne (tgt := 404) hx hb dL_files_381 (by decide) (fun c381 => ?_) (fun c381 => ?_)
            · rw [if_neg c381] at h
              refine lv_iconst (v := (0 : Int32)) hx hb dL_files_404 (by decide) ?_
              obtain ⟨y1, y2, h⟩ := h
              refine W.widen (k := MC) (n := MS) y1 y2 ?_
              exact g_zret hx hb hr hlocks hK hlo hG rfl h dL_files_405
            · rw [if_pos c381] at h
              refine lv_aload_n hx hb dL_files_384 rfl (lv_at hl 2 rfl) ?_
              refine lv_iconst (v := (1 : Int32)) hx hb dL_files_385 (by decide) ?_
              obtain ⟨C386, R386, d386, g386, h⟩ := h
              obtain ⟨u386, o386, h⟩ := h
              obtain ⟨y386, h⟩ := h
              rw [g386] at hG
              refine g_wVi (As := [.int (1 : Int32)]) (rest := []) (n := 1) hx hb hml hown hts hK hlo hG (g_frI d386 (fun lo => g_noX (m_X9_whyNot l hfl dd cT lo C386 ba0 (1 : Int32) h)) lo) qM_L_283 qI_yX9_whyNot qS_X9_yX9_whyNot qN_X9 qC_yX9_whyNot (by decide +kernel) ⟨Nat.le_of_ble_eq_true rfl, Nat.le_of_ble_eq_true rfl⟩ (by rfl) (g_ob_gj o386) rfl hl.1 rfl (Nat.le_of_ble_eq_true rfl) dL_files_386 y386 (fun v386x Gx H locs hKx hG => ?_)
              obtain ⟨D386, h, f386, rfl⟩ := hKx
              obtain ⟨G386, i386⟩ : ∃ g : gH, g = gj D386 R386 := ⟨_, rfl⟩
              rw [← i386] at hG
              replace h := h G386 f386 i386
              revert h
              generalize v386x = v386
              intro h
              refine lv_aload_n hx hb dL_files_389 rfl (lv_at hl 3 rfl) ?_
              obtain ⟨C390, R390, d390, g390, h⟩ := h
              obtain ⟨u390, o390, h⟩ := h
              obtain ⟨y390, h⟩ := h
              obtain ⟨v390, e390, h⟩ := h
              rw [g390] at hG
              refine g_wVq (As := []) (rest := [.int v386]) (n := 0) hx hb hml hown hts hK hlo hG (g_frQ d390 (fun lo => m_X10_open l dd cT lo C390 ba1 e390) lo) qM_L_189 qI_yX10_open qS_X10_yX10_open qN_X10 qC_yX10_open (by decide +kernel) ⟨Nat.le_of_ble_eq_true rfl, Nat.le_of_ble_eq_true rfl⟩ (by rfl) (g_ob_gj o390) rfl hl.1 rfl (Nat.le_of_ble_eq_true rfl) dL_files_390 y390 (fun v390x Gx H locs hKx hG => ?_)
              obtain ⟨D390, ⟨k390a, k390⟩, f390, l390⟩ := hKx
              rw [l390, k390] at hG
              rw [k390] at f390
              rw [k390a]
              rw [← g390] at hG
              rcases v390 with _ | r390
              · replace h := h.1 rfl
                refine lv_ifnonnullN hx hb dL_files_393 ?_
                refine lv_iconst (v := (1 : Int32)) hx hb dL_files_396 (by decide) ?_
                refine lv_goto (tgt := 401) hx hb dL_files_397 (by decide) ?_
                exact h401 G386 ((((kc + 1) + 1) + 1) + 1) ((((ks + 10) + 6) + 6) + 6) ba0 ba1 ba2 v386 (1 : Int32) _ _ hG _ (lv_sub hl [2, 3, 4] rfl) h
              · replace h := h.2 r390 rfl
                refine lv_ifnonnull (tgt := 400) hx hb dL_files_393 (by decide) ?_
                refine lv_iconst (v := (0 : Int32)) hx hb dL_files_400 (by decide) ?_
                exact h401 G386 ((((kc + 1) + 1) + 1) + 1) ((((ks + 10) + 6) + 6) + 6) ba0 ba1 ba2 v386 (0 : Int32) _ _ hG _ (lv_sub hl [2, 3, 4] rfl) h
      · rw [if_neg c7] at h
        refine lv_aload_n hx hb dL_files_10 rfl (lv_at hl 1 rfl) ?_
        refine lv_iload_n hx hb dL_files_11 rfl (lv_at hl 3 rfl) ?_
        refine lv_bipush (v := (12 : Int32)) hx hb dL_files_12 (by decide) ?_
        obtain ⟨C14, R14, d14, g14, h⟩ := h
        obtain ⟨u14, o14, h⟩ := h
        obtain ⟨y14, h⟩ := h
        obtain ⟨v14, e14, h⟩ := h
        rw [g14] at hG
        refine g_wVq (As := [.int bx3, .int (12 : Int32)]) (rest := []) (n := 2) hx hb hml hown hts hK hlo hG (g_frQ d14 (fun lo => m_X10_counting l dd cT lo C14 ba1 bx3 (12 : Int32) e14) lo) qM_L_250 qI_yX10_counting qS_X10_yX10_counting qN_X10 qC_yX10_counting (by decide +kernel) ⟨Nat.le_of_ble_eq_true rfl, Nat.le_of_ble_eq_true rfl⟩ (by rfl) (g_ob_gj o14) rfl hl.1 rfl (Nat.le_of_ble_eq_true rfl) dL_files_14 y14 (fun v14x Gx H locs hKx hG => ?_)
        obtain ⟨D14, ⟨k14a, k14⟩, f14, l14⟩ := hKx
        rw [l14, k14] at hG
        rw [k14] at f14
        rw [k14a]
        rw [← g14] at hG
        rcases v14 with _ | r14
        · replace h := h.1 rfl
          refine lv_astoreN (lv' := [(4, .null), (0, .ref ba0), (1, .ref ba1), (2, .ref ba2), (3, .int bx3)]) hx hb dL_files_17 hl (by decide) rfl (fun ls hl => ?_)
          refine lv_aload_n hx hb dL_files_19 rfl (lv_at hl 2 rfl) ?_
          refine lv_iload_n hx hb dL_files_20 rfl (lv_at hl 4 rfl) ?_
          refine lv_bipush (v := (12 : Int32)) hx hb dL_files_21 (by decide) ?_
          obtain ⟨C23, R23, d23, g23, h⟩ := h
          obtain ⟨u23, o23, h⟩ := h
          obtain ⟨y23, h⟩ := h
          obtain ⟨v23, e23, h⟩ := h
          rw [g23] at hG
          refine g_wVq (As := [.int bx3, .int (12 : Int32)]) (rest := []) (n := 2) hx hb hml hown hts hK hlo hG (g_frQ d23 (fun lo => m_X10_version l dd cT lo C23 ba1 bx3 (12 : Int32) e23) lo) qM_L_254 qI_yX10_version qS_X10_yX10_version qN_X10 qC_yX10_version (by decide +kernel) ⟨Nat.le_of_ble_eq_true rfl, Nat.le_of_ble_eq_true rfl⟩ (by rfl) (g_ob_gj o23) rfl hl.1 rfl (Nat.le_of_ble_eq_true rfl) dL_files_23 y23 (fun v23x Gx H locs hKx hG => ?_)
          obtain ⟨D23, ⟨k23a, k23⟩, f23, l23⟩ := hKx
          rw [l23, k23] at hG
          rw [k23] at f23
          rw [k23a]
          rw [← g23] at hG
          rcases v23 with _ | r23
          · replace h := h.1 rfl
            refine lv_astoreN (lv' := [(5, .null), (4, .null), (0, .ref ba0), (1, .ref ba1), (2, .ref ba2), (3, .int bx3)]) hx hb dL_files_26 hl (by decide) rfl (fun ls hl => ?_)
            refine lv_iconst (v := (-1 : Int32)) hx hb dL_files_28 (by decide) ?_
            refine lv_istore (lv' := [(6, .int (-1 : Int32)), (5, .null), (4, .null), (0, .ref ba0), (1, .ref ba1), (2, .ref ba2), (3, .int bx3)]) hx hb dL_files_29 hl (by decide) rfl (fun ls hl => ?_)
            refine lv_iconst (v := (0 : Int32)) hx hb dL_files_31 (by decide) ?_
            refine lv_istore (lv' := [(7, .int (0 : Int32)), (6, .int (-1 : Int32)), (5, .null), (4, .null), (0, .ref ba0), (1, .ref ba1), (2, .ref ba2), (3, .int bx3)]) hx hb dL_files_32 hl (by decide) rfl (fun ls hl => ?_)
            exact h34 g_N G kc ks ba0 ba1 ba2 bx3 none none (-1 : Int32) (0 : Int32) _ _ hG _ (lv_sub hl [4, 5, 6, 7, 3, 2, 1, 0] rfl) h
          · replace h := h.2 r23 rfl
            refine lv_astore (lv' := [(5, .ref r23), (4, .null), (0, .ref ba0), (1, .ref ba1), (2, .ref ba2), (3, .int bx3)]) hx hb dL_files_26 hl (by decide) rfl (fun ls hl => ?_)
            refine lv_iconst (v := (-1 : Int32)) hx hb dL_files_28 (by decide) ?_
            refine lv_istore (lv' := [(6, .int (-1 : Int32)), (5, .ref r23), (4, .null), (0, .ref ba0), (1, .ref ba1), (2, .ref ba2), (3, .int bx3)]) hx hb dL_files_29 hl (by decide) rfl (fun ls hl => ?_)
            refine lv_iconst (v := (0 : Int32)) hx hb dL_files_31 (by decide) ?_
            refine lv_istore (lv' := [(7, .int (0 : Int32)), (6, .int (-1 : Int32)), (5, .ref r23), (4, .null), (0, .ref ba0), (1, .ref ba1), (2, .ref ba2), (3, .int bx3)]) hx hb dL_files_32 hl (by decide) rfl (fun ls hl => ?_)
            exact h34 g_N G kc ks ba0 ba1 ba2 bx3 none (some r23) (-1 : Int32) (0 : Int32) _ _ hG _ (lv_sub hl [4, 5, 6, 7, 3, 2, 1, 0] rfl) h
        · replace h := h.2 r14 rfl
          refine lv_astore (lv' := [(4, .ref r14), (0, .ref ba0), (1, .ref ba1), (2, .ref ba2), (3, .int bx3)]) hx hb dL_files_17 hl (by decide) rfl (fun ls hl => ?_)
          refine lv_aload_n hx hb dL_files_19 rfl (lv_at hl 2 rfl) ?_
          refine lv_iload_n hx hb dL_files_20 rfl (lv_at hl 4 rfl) ?_
          refine lv_bipush (v := (12 : Int32)) hx hb dL_files_21 (by decide) ?_
          obtain ⟨C23, R23, d23, g23, h⟩ := h
          obtain ⟨u23, o23, h⟩ := h
          obtain ⟨y23, h⟩ := h
          obtain ⟨v23, e23, h⟩ := h
          rw [g23] at hG
          refine g_wVq (As := [.int bx3, .int (12 : Int32)]) (rest := []) (n := 2) hx hb hml hown hts hK hlo hG (g_frQ d23 (fun lo => m_X10_version l dd cT lo C23 ba1 bx3 (12 : Int32) e23) lo) qM_L_254 qI_yX10_version qS_X10_yX10_version qN_X10 qC_yX10_version (by decide +kernel) ⟨Nat.le_of_ble_eq_true rfl, Nat.le_of_ble_eq_true rfl⟩ (by rfl) (g_ob_gj o23) rfl hl.1 rfl (Nat.le_of_ble_eq_true rfl) dL_files_23 y23 (fun v23x Gx H locs hKx hG => ?_)
          obtain ⟨D23, ⟨k23a, k23⟩, f23, l23⟩ := hKx
          rw [l23, k23] at hG
          rw [k23] at f23
          rw [k23a]
          rw [← g23] at hG
          rcases v23 with _ | r23
          · replace h := h.1 rfl
            refine lv_astoreN (lv' := [(5, .null), (4, .ref r14), (0, .ref ba0), (1, .ref ba1), (2, .ref ba2), (3, .int bx3)]) hx hb dL_files_26 hl (by decide) rfl (fun ls hl => ?_)
            refine lv_iconst (v := (-1 : Int32)) hx hb dL_files_28 (by decide) ?_
            refine lv_istore (lv' := [(6, .int (-1 : Int32)), (5, .null), (4, .ref r14), (0, .ref ba0), (1, .ref ba1), (2, .ref ba2), (3, .int bx3)]) hx hb dL_files_29 hl (by decide) rfl (fun ls hl => ?_)
            refine lv_iconst (v := (0 : Int32)) hx hb dL_files_31 (by decide) ?_
            refine lv_istore (lv' := [(7, .int (0 : Int32)), (6, .int (-1 : Int32)), (5, .null), (4, .ref r14), (0, .ref ba0), (1, .ref ba1), (2, .ref ba2), (3, .int bx3)]) hx hb dL_files_32 hl (by decide) rfl (fun ls hl => ?_)
            exact h34 g_N G kc ks ba0 ba1 ba2 bx3 (some r14) none (-1 : Int32) (0 : Int32) _ _ hG _ (lv_sub hl [4, 5, 6, 7, 3, 2, 1, 0] rfl) h
          · replace h := h.2 r23 rfl
            refine lv_astore (lv' := [(5, .ref r23), (4, .ref r14), (0, .ref ba0), (1, .ref ba1), (2, .ref ba2), (3, .int bx3)]) hx hb dL_files_26 hl (by decide) rfl (fun ls hl => ?_)
            refine lv_iconst (v := (-1 : Int32)) hx hb dL_files_28 (by decide) ?_
            refine lv_istore (lv' := [(6, .int (-1 : Int32)), (5, .ref r23), (4, .ref r14), (0, .ref ba0), (1, .ref ba1), (2, .ref ba2), (3, .int bx3)]) hx hb dL_files_29 hl (by decide) rfl (fun ls hl => ?_)
            refine lv_iconst (v := (0 : Int32)) hx hb dL_files_31 (by decide) ?_
            refine lv_istore (lv' := [(7, .int (0 : Int32)), (6, .int (-1 : Int32)), (5, .ref r23), (4, .ref r14), (0, .ref ba0), (1, .ref ba1), (2, .ref ba2), (3, .int bx3)]) hx hb dL_files_32 hl (by decide) rfl (fun ls hl => ?_)
            exact h34 g_N G kc ks ba0 ba1 ba2 bx3 (some r14) (some r23) (-1 : Int32) (0 : Int32) _ _ hG _ (lv_sub hl [4, 5, 6, 7, 3, 2, 1, 0] rfl) h
  unfold w_L_files at h
  refine lv_iconst (v := (0 : Int32)) hx hb dL_files_0 (by decide) ?_
  refine lv_istore_n (lv' := [(3, .int (0 : Int32)), (0, .ref a0), (1, .ref a1), (2, .ref a2)]) hx hb dL_files_1 rfl hl (by decide) rfl (fun ls hl => ?_)
  exact h2 g_N G 0 0 a0 a1 a2 (0 : Int32) _ _ hG _ (lv_sub hl [1, 2, 3, 0] rfl) h

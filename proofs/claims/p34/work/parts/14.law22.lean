/-! The law's methods that make cells: by program (wip/p34/tools/pwlift.py). -/
set_option maxRecDepth 20000 in
set_option maxHeartbeats 4000000 in
theorem m_L_changes (MC MS : Nat) (l : Launch) (hfl : l.stackTraces = false) (dd : va_G) (cT : Nat → ClassId) (lo : Nat → Prop) (G : gH) (a0 : Nat) (a1 : Nat) (a2 : Nat) {K : Int32 → gH → Prop} (h : w_L_changes MC MS G a0 a1 a2 K) : Met l yL_changes (Cond.code yL_changes cL_changes 8 (some .boolean) :: wsL_law) (g_rm 8 158 MC MS) (va_Pc [.ref a0, .ref a1, .ref a2] (g_Pre lo dd cT G)) (va_Qi K (g_Pre lo dd cT) (g_A lo)) MC MS (g_A lo) := by
  refine g_start RL rfl (by decide) (Nat.le_of_ble_eq_true rfl) ?_
  intro p e s m below meth c hx hb hr hlocks hml hown hnm hts hK hG hlo ls hl
  have hl : lv_has ls 8 [(0, .ref a0), (1, .ref a1), (2, .ref a2)] := hl
  have hG : g_S lo dd cT s s.heap [] G := hG
  have h423 : ∀ (G : gH) (kc ks : Nat) (ba0 : Nat) (ba1 : Nat) (bx4 : Int32) (z0 : Nat) (z1 : Int32) (H : Heap) (locs : List Loc), g_S lo dd cT s H locs G → ∀ ls : Array Slot, lv_has ls 8 [(0, .ref ba0), (1, .ref ba1), (4, .int bx4)] → w_L_changes_J423 MC MS K G kc ks ba0 ba1 bx4 z0 z1 → W p l e (g_rm 8 158 MC MS) s m ([.ref a0, .ref a1, .ref a2] : List Value).toArray below meth c H locs kc ks (MQ below (va_Qi K (g_Pre lo dd cT) (g_A lo)) ([.ref a0, .ref a1, .ref a2] : List Value).toArray s MC MS (g_A lo)) (F0 m 423 ls [.int z1, .ref z0]) := by
    intro G kc ks ba0 ba1 bx4 z0 z1 H locs hG ls hl h
    unfold w_L_changes_J423 at h
    obtain ⟨w423, e423, h⟩ := h
    obtain ⟨n423, rfl⟩ := g_z_nar e423
    obtain ⟨G423, i423, h⟩ := h
    refine g_putvN hx hb hts inlX10 tyX10 tyX10_ok nmX10 hown hK hG (by rfl) 6 (by decide) (List.mem_of_getElem? (i := 16) rfl) rfl rfl n423 (g_z_fit e423) i423 dL_changes_423 (fun H locs hG => ?_)
    refine lv_aload_n hx hb dL_changes_426 rfl (lv_at hl 0 rfl) ?_
    refine lv_aload_n hx hb dL_changes_427 rfl (lv_at hl 1 rfl) ?_
    obtain ⟨v428, e428, h⟩ := h
    refine g_getiN hx hb hts inlX10 hown hK hG (by rfl) 6 (by decide) (List.mem_of_getElem? (i := 16) rfl) e428 dL_changes_428 ?_
    obtain ⟨C431, R431, d431, g431, h⟩ := h
    obtain ⟨u431, o431, h⟩ := h
    obtain ⟨y431, h⟩ := h
    rw [g431] at hG
    refine g_wVi (As := [.int v428]) (rest := []) (n := 1) hx hb hml hown hts hK hlo hG (g_frI d431 (fun lo => (m_X9_setScan l dd cT lo C431 ba0 v428 h)) lo) qM_L_331 qI_yX9_setScan qS_X9_yX9_setScan qN_X9 qC_yX9_setScan (by decide +kernel) ⟨Nat.le_of_ble_eq_true rfl, Nat.le_of_ble_eq_true rfl⟩ (by rfl) (g_ob_gj o431) rfl hl.1 rfl (Nat.le_of_ble_eq_true rfl) dL_changes_431 y431 (fun v431x Gx H locs hKx hG => ?_)
    obtain ⟨D431, h, f431, rfl⟩ := hKx
    obtain ⟨G431, i431⟩ : ∃ g : gH, g = gj D431 R431 := ⟨_, rfl⟩
    rw [← i431] at hG
    replace h := h G431 f431 i431
    revert h
    generalize v431x = v431
    intro h
    refine lv_iload hx hb dL_changes_434 (lv_at hl 2 rfl) ?_
    refine lv_icmp_ne (tgt := 443) hx hb dL_changes_436 (by decide) (fun c436 => ?_) (fun c436 => ?_)
    · rw [if_neg c436] at h
      refine lv_iconst (v := (0 : Int32)) hx hb dL_changes_443 (by decide) ?_
      obtain ⟨y1, y2, h⟩ := h
      refine W.widen (k := MC) (n := MS) y1 y2 ?_
      exact g_zret hx hb hr hlocks hK hlo hG rfl h dL_changes_444
    · rw [if_pos c436] at h
      refine lv_iconst (v := (1 : Int32)) hx hb dL_changes_439 (by decide) ?_
      refine lv_goto (tgt := 444) hx hb dL_changes_440 (by decide) ?_
      obtain ⟨y1, y2, h⟩ := h
      refine W.widen (k := MC) (n := MS) y1 y2 ?_
      exact g_zret hx hb hr hlocks hK hlo hG rfl h dL_changes_444
  have h386 : ∀ (G : gH) (kc ks : Nat) (ba0 : Nat) (bx4 : Int32) (bx5 : Int32) (H : Heap) (locs : List Loc), g_S lo dd cT s H locs G → ∀ ls : Array Slot, lv_has ls 8 [(0, .ref ba0), (4, .int bx4), (5, .int bx5)] → w_L_changes_J386 MC MS K G kc ks ba0 bx4 bx5 → W p l e (g_rm 8 158 MC MS) s m ([.ref a0, .ref a1, .ref a2] : List Value).toArray below meth c H locs kc ks (MQ below (va_Qi K (g_Pre lo dd cT) (g_A lo)) ([.ref a0, .ref a1, .ref a2] : List Value).toArray s MC MS (g_A lo)) (F0 m 386 ls []) := by
    intro G kc ks ba0 bx4 bx5 H locs hG ls hl h
    unfold w_L_changes_J386 at h
    refine lv_aload_n hx hb dL_changes_386 rfl (lv_at hl 0 rfl) ?_
    refine lv_iload hx hb dL_changes_387 (lv_at hl 1 rfl) ?_
    obtain ⟨C389, R389, d389, g389, h⟩ := h
    obtain ⟨u389, o389, h⟩ := h
    obtain ⟨y389, h⟩ := h
    rw [g389] at hG
    refine g_wVi (As := [.int bx4]) (rest := []) (n := 1) hx hb hml hown hts hK hlo hG (g_frI d389 (fun lo => g_noX (m_X9_scratch l hfl dd cT lo C389 ba0 bx4 h)) lo) qM_L_328 qI_yX9_scratch qS_X9_yX9_scratch qN_X9 qC_yX9_scratch (by decide +kernel) ⟨Nat.le_of_ble_eq_true rfl, Nat.le_of_ble_eq_true rfl⟩ (by rfl) (g_ob_gj o389) rfl hl.1 rfl (Nat.le_of_ble_eq_true rfl) dL_changes_389 y389 (fun v389x Gx H locs hKx hG => ?_)
    obtain ⟨D389, h, f389, rfl⟩ := hKx
    obtain ⟨G389, i389⟩ : ∃ g : gH, g = gj D389 R389 := ⟨_, rfl⟩
    rw [← i389] at hG
    replace h := h G389 f389 i389
    revert h
    generalize v389x = v389
    intro h
    refine lv_iload hx hb dL_changes_392 (lv_at hl 2 rfl) ?_
    refine lv_icmp_eq (tgt := 401) hx hb dL_changes_394 (by decide) (fun c394 => ?_) (fun c394 => ?_)
    · rw [if_pos c394] at h
      refine lv_iconst (v := (0 : Int32)) hx hb dL_changes_401 (by decide) ?_
      obtain ⟨y1, y2, h⟩ := h
      refine W.widen (k := MC) (n := MS) y1 y2 ?_
      exact g_zret hx hb hr hlocks hK hlo hG rfl h dL_changes_402
    · rw [if_neg c394] at h
      refine lv_iconst (v := (1 : Int32)) hx hb dL_changes_397 (by decide) ?_
      refine lv_goto (tgt := 402) hx hb dL_changes_398 (by decide) ?_
      obtain ⟨y1, y2, h⟩ := h
      refine W.widen (k := MC) (n := MS) y1 y2 ?_
      exact g_zret hx hb hr hlocks hK hlo hG rfl h dL_changes_402
  have h355 : ∀ (G : gH) (kc ks : Nat) (ba0 : Nat) (ba1 : Nat) (bx4 : Int32) (z0 : Int32) (H : Heap) (locs : List Loc), g_S lo dd cT s H locs G → ∀ ls : Array Slot, lv_has ls 8 [(0, .ref ba0), (1, .ref ba1), (4, .int bx4)] → w_L_changes_J355 MC MS K G kc ks ba0 ba1 bx4 z0 → W p l e (g_rm 8 158 MC MS) s m ([.ref a0, .ref a1, .ref a2] : List Value).toArray below meth c H locs kc ks (MQ below (va_Qi K (g_Pre lo dd cT) (g_A lo)) ([.ref a0, .ref a1, .ref a2] : List Value).toArray s MC MS (g_A lo)) (F0 m 355 ls [.int z0]) := by
    intro G kc ks ba0 ba1 bx4 z0 H locs hG ls hl h
    unfold w_L_changes_J355 at h
    refine lv_istore (lv' := [(5, .int z0), (0, .ref ba0), (1, .ref ba1), (4, .int bx4)]) hx hb dL_changes_355 hl (by decide) rfl (fun ls hl => ?_)
    refine lv_aload_n hx hb dL_changes_357 rfl (lv_at hl 2 rfl) ?_
    obtain ⟨v358, e358, h⟩ := h
    refine g_getrN hx hb hts inlX10 hown hK hG (by rfl) 7 (by decide) (List.mem_of_getElem? (i := 4) rfl) e358 dL_changes_358 ?_
    refine lv_iload hx hb dL_changes_361 (lv_at hl 3 rfl) ?_
    obtain ⟨v363, e363, h⟩ := h
    refine g_iald hx hb hK hG e363 dL_changes_363 ?_
    refine lv_if_ne (tgt := 378) hx hb dL_changes_364 (by decide) (fun c364 => ?_) (fun c364 => ?_)
    · rw [if_neg c364] at h
      refine lv_aload_n hx hb dL_changes_378 rfl (lv_at hl 2 rfl) ?_
      obtain ⟨v379, e379, h⟩ := h
      refine g_getrN hx hb hts inlX10 hown hK hG (by rfl) 13 (by decide) (List.mem_of_getElem? (i := 5) rfl) e379 dL_changes_379 ?_
      refine lv_iload hx hb dL_changes_382 (lv_at hl 3 rfl) ?_
      refine lv_iconst (v := (1 : Int32)) hx hb dL_changes_384 (by decide) ?_
      obtain ⟨G385, e385, h⟩ := h
      refine g_zast hx hb hK hG e385 dL_changes_385 (fun H locs hG => ?_)
      exact h386 G385 kc ks ba0 bx4 z0 _ _ hG _ (lv_sub hl [1, 3, 0] rfl) h
    · rw [if_pos c364] at h
      refine lv_aload_n hx hb dL_changes_367 rfl (lv_at hl 2 rfl) ?_
      obtain ⟨v368, e368, h⟩ := h
      refine g_getrN hx hb hts inlX10 hown hK hG (by rfl) 12 (by decide) (List.mem_of_getElem? (i := 3) rfl) e368 dL_changes_368 ?_
      refine lv_iload hx hb dL_changes_371 (lv_at hl 3 rfl) ?_
      refine lv_iconst (v := (1 : Int32)) hx hb dL_changes_373 (by decide) ?_
      obtain ⟨G374, e374, h⟩ := h
      refine g_zast hx hb hK hG e374 dL_changes_374 (fun H locs hG => ?_)
      refine lv_goto (tgt := 386) hx hb dL_changes_375 (by decide) ?_
      exact h386 G374 kc ks ba0 bx4 z0 _ _ hG _ (lv_sub hl [1, 3, 0] rfl) h
  have h268 : ∀ n268 : Nat, ∀ (G : gH) (kc ks : Nat) (ba0 : Nat) (ba1 : Nat) (ba4 : Nat) (bx5 : Int32) (ba6 : Option Nat) (bx7 : Int32) (H : Heap) (locs : List Loc), g_S lo dd cT s H locs G → ∀ ls : Array Slot, lv_has ls 8 [(0, .ref ba0), (1, .ref ba1), (4, .ref ba4), (5, .int bx5), (6, va_rf ba6), (7, .int bx7)] → w_L_changes_L268 MC MS K n268 G kc ks ba0 ba1 ba4 bx5 ba6 bx7 → W p l e (g_rm 8 158 MC MS) s m ([.ref a0, .ref a1, .ref a2] : List Value).toArray below meth c H locs kc ks (MQ below (va_Qi K (g_Pre lo dd cT) (g_A lo)) ([.ref a0, .ref a1, .ref a2] : List Value).toArray s MC MS (g_A lo)) (F0 m 268 ls []) := by
    intro n268
    induction n268 with
    | zero =>
      intro G kc ks ba0 ba1 ba4 bx5 ba6 bx7 H locs hG ls hl h
      exact (show False from h).elim
    | succ n268 ih268 =>
      intro G kc ks ba0 ba1 ba4 bx5 ba6 bx7 H locs hG ls hl h
      rw [w_L_changes_L268] at h
      rcases ba6 with _ | ba6r
      · replace h := h.1 rfl
        refine lv_iload hx hb dL_changes_268 (lv_at hl 5 rfl) ?_
        refine lv_iload hx hb dL_changes_270 (lv_at hl 3 rfl) ?_
        refine lv_icmp_ge (tgt := 299) hx hb dL_changes_272 (by decide) (fun c272 => ?_) (fun c272 => ?_)
        · rw [if_pos c272] at h
          refine lv_aload_n hx hb dL_changes_299 rfl (lv_at hl 1 rfl) ?_
          obtain ⟨C300, R300, d300, g300, h⟩ := h
          obtain ⟨u300, o300, h⟩ := h
          obtain ⟨y300, h⟩ := h
          obtain ⟨q300, e300, h⟩ := h
          rw [g300] at hG
          refine g_wVv (As := []) (rest := []) (n := 0) hx hb hml hown hts hK hlo hG (g_frV d300 (fun lo => m_X10_close l dd cT lo C300 ba1 e300) lo) qM_L_310 qI_yX10_close qS_X10_yX10_close qN_X10 qC_yX10_close (by decide +kernel) ⟨Nat.le_of_ble_eq_true rfl, Nat.le_of_ble_eq_true rfl⟩ (by rfl) (g_ob_gj o300) rfl hl.1 rfl (Nat.le_of_ble_eq_true rfl) dL_changes_300 y300 (fun Gx H locs hKx hG => ?_)
          obtain ⟨D300, k300, f300, l300⟩ := hKx
          rw [l300, k300] at hG
          rw [k300] at f300
          obtain ⟨G300, i300⟩ : ∃ g : gH, g = gj q300 R300 := ⟨_, rfl⟩
          rw [← i300] at hG
          replace h := h G300 f300 i300
          refine lv_aload_n hx hb dL_changes_303 rfl (lv_at hl 0 rfl) ?_
          obtain ⟨C304, R304, d304, g304, h⟩ := h
          obtain ⟨u304, o304, h⟩ := h
          obtain ⟨y304, h⟩ := h
          rw [g304] at hG
          refine g_wVi (As := []) (rest := []) (n := 0) hx hb hml hown hts hK hlo hG (g_frI d304 (fun lo => g_noX (m_X9_recover l hfl dd cT lo C304 ba0 h)) lo) qM_L_325 qI_yX9_recover qS_X9_yX9_recover qN_X9 qC_yX9_recover (by decide +kernel) ⟨Nat.le_of_ble_eq_true rfl, Nat.le_of_ble_eq_true rfl⟩ (by rfl) (g_ob_gj o304) rfl hl.1 rfl (Nat.le_of_ble_eq_true rfl) dL_changes_304 y304 (fun v304x Gx H locs hKx hG => ?_)
          obtain ⟨D304, h, f304, rfl⟩ := hKx
          obtain ⟨G304, i304⟩ : ∃ g : gH, g = gj D304 R304 := ⟨_, rfl⟩
          rw [← i304] at hG
          replace h := h G304 f304 i304
          revert h
          generalize v304x = v304
          intro h
          refine lv_iload hx hb dL_changes_307 (lv_at hl 3 rfl) ?_
          refine lv_icmp_ne (tgt := 316) hx hb dL_changes_309 (by decide) (fun c309 => ?_) (fun c309 => ?_)
          · rw [if_neg c309] at h
            refine lv_iconst (v := (0 : Int32)) hx hb dL_changes_316 (by decide) ?_
            obtain ⟨y1, y2, h⟩ := h
            refine W.widen (k := MC) (n := MS) y1 y2 ?_
            exact g_zret hx hb hr hlocks hK hlo hG rfl h dL_changes_317
          · rw [if_pos c309] at h
            refine lv_iconst (v := (1 : Int32)) hx hb dL_changes_312 (by decide) ?_
            refine lv_goto (tgt := 317) hx hb dL_changes_313 (by decide) ?_
            obtain ⟨y1, y2, h⟩ := h
            refine W.widen (k := MC) (n := MS) y1 y2 ?_
            exact g_zret hx hb hr hlocks hK hlo hG rfl h dL_changes_317
        · rw [if_neg c272] at h
          refine lv_aloadN hx hb dL_changes_275 (lv_at hl 4 rfl) ?_
          refine lv_aload hx hb dL_changes_277 (lv_at hl 2 rfl) ?_
          refine lv_iload hx hb dL_changes_279 (lv_at hl 5 rfl) ?_
          obtain ⟨v281, e281, h⟩ := h
          refine g_rald_row hx hb hK hG (t := 6) rfl e281 dL_changes_281 ?_
          rcases v281 with _ | r281
          · replace h := h.1 rfl
            exact (show False from h).elim
          · replace h := h.2 r281 rfl
            obtain ⟨v282, e282, h⟩ := h
            refine g_getiN hx hb hts inlX13 hown hK hG (by rfl) 0 (by decide) (List.mem_of_getElem? (i := 28) rfl) e282 dL_changes_282 ?_
            refine lv_aload hx hb dL_changes_285 (lv_at hl 2 rfl) ?_
            refine lv_iload hx hb dL_changes_287 (lv_at hl 5 rfl) ?_
            obtain ⟨v289, e289, h⟩ := h
            refine g_rald_row hx hb hK hG (t := 6) rfl e289 dL_changes_289 ?_
            rcases v289 with _ | r289
            · replace h := h.1 rfl
              exact (show False from h).elim
            · replace h := h.2 r289 rfl
              exact (show False from h).elim
      · replace h := h.2 ba6r rfl
        refine lv_iload hx hb dL_changes_268 (lv_at hl 5 rfl) ?_
        refine lv_iload hx hb dL_changes_270 (lv_at hl 3 rfl) ?_
        refine lv_icmp_ge (tgt := 299) hx hb dL_changes_272 (by decide) (fun c272 => ?_) (fun c272 => ?_)
        · rw [if_pos c272] at h
          refine lv_aload_n hx hb dL_changes_299 rfl (lv_at hl 1 rfl) ?_
          obtain ⟨C300, R300, d300, g300, h⟩ := h
          obtain ⟨u300, o300, h⟩ := h
          obtain ⟨y300, h⟩ := h
          obtain ⟨q300, e300, h⟩ := h
          rw [g300] at hG
          refine g_wVv (As := []) (rest := []) (n := 0) hx hb hml hown hts hK hlo hG (g_frV d300 (fun lo => m_X10_close l dd cT lo C300 ba1 e300) lo) qM_L_310 qI_yX10_close qS_X10_yX10_close qN_X10 qC_yX10_close (by decide +kernel) ⟨Nat.le_of_ble_eq_true rfl, Nat.le_of_ble_eq_true rfl⟩ (by rfl) (g_ob_gj o300) rfl hl.1 rfl (Nat.le_of_ble_eq_true rfl) dL_changes_300 y300 (fun Gx H locs hKx hG => ?_)
          obtain ⟨D300, k300, f300, l300⟩ := hKx
          rw [l300, k300] at hG
          rw [k300] at f300
          obtain ⟨G300, i300⟩ : ∃ g : gH, g = gj q300 R300 := ⟨_, rfl⟩
          rw [← i300] at hG
          replace h := h G300 f300 i300
          refine lv_aload_n hx hb dL_changes_303 rfl (lv_at hl 0 rfl) ?_
          obtain ⟨C304, R304, d304, g304, h⟩ := h
          obtain ⟨u304, o304, h⟩ := h
          obtain ⟨y304, h⟩ := h
          rw [g304] at hG
          refine g_wVi (As := []) (rest := []) (n := 0) hx hb hml hown hts hK hlo hG (g_frI d304 (fun lo => g_noX (m_X9_recover l hfl dd cT lo C304 ba0 h)) lo) qM_L_325 qI_yX9_recover qS_X9_yX9_recover qN_X9 qC_yX9_recover (by decide +kernel) ⟨Nat.le_of_ble_eq_true rfl, Nat.le_of_ble_eq_true rfl⟩ (by rfl) (g_ob_gj o304) rfl hl.1 rfl (Nat.le_of_ble_eq_true rfl) dL_changes_304 y304 (fun v304x Gx H locs hKx hG => ?_)
          obtain ⟨D304, h, f304, rfl⟩ := hKx
          obtain ⟨G304, i304⟩ : ∃ g : gH, g = gj D304 R304 := ⟨_, rfl⟩
          rw [← i304] at hG
          replace h := h G304 f304 i304
          revert h
          generalize v304x = v304
          intro h
          refine lv_iload hx hb dL_changes_307 (lv_at hl 3 rfl) ?_
          refine lv_icmp_ne (tgt := 316) hx hb dL_changes_309 (by decide) (fun c309 => ?_) (fun c309 => ?_)
          · rw [if_neg c309] at h
            refine lv_iconst (v := (0 : Int32)) hx hb dL_changes_316 (by decide) ?_
            obtain ⟨y1, y2, h⟩ := h
            refine W.widen (k := MC) (n := MS) y1 y2 ?_
            exact g_zret hx hb hr hlocks hK hlo hG rfl h dL_changes_317
          · rw [if_pos c309] at h
            refine lv_iconst (v := (1 : Int32)) hx hb dL_changes_312 (by decide) ?_
            refine lv_goto (tgt := 317) hx hb dL_changes_313 (by decide) ?_
            obtain ⟨y1, y2, h⟩ := h
            refine W.widen (k := MC) (n := MS) y1 y2 ?_
            exact g_zret hx hb hr hlocks hK hlo hG rfl h dL_changes_317
        · rw [if_neg c272] at h
          refine lv_aload hx hb dL_changes_275 (lv_at hl 4 rfl) ?_
          refine lv_aload hx hb dL_changes_277 (lv_at hl 2 rfl) ?_
          refine lv_iload hx hb dL_changes_279 (lv_at hl 5 rfl) ?_
          obtain ⟨v281, e281, h⟩ := h
          refine g_rald_row hx hb hK hG (t := 6) rfl e281 dL_changes_281 ?_
          rcases v281 with _ | r281
          · replace h := h.1 rfl
            exact (show False from h).elim
          · replace h := h.2 r281 rfl
            obtain ⟨v282, e282, h⟩ := h
            refine g_getiN hx hb hts inlX13 hown hK hG (by rfl) 0 (by decide) (List.mem_of_getElem? (i := 28) rfl) e282 dL_changes_282 ?_
            refine lv_aload hx hb dL_changes_285 (lv_at hl 2 rfl) ?_
            refine lv_iload hx hb dL_changes_287 (lv_at hl 5 rfl) ?_
            obtain ⟨v289, e289, h⟩ := h
            refine g_rald_row hx hb hK hG (t := 6) rfl e289 dL_changes_289 ?_
            rcases v289 with _ | r289
            · replace h := h.1 rfl
              obtain ⟨C290, R290, d290, g290, h⟩ := h
              obtain ⟨u290, o290, h⟩ := h
              obtain ⟨y290, h⟩ := h
              obtain ⟨q290, e290, h⟩ := h
              rw [g290] at hG
              refine g_wVv (As := [.int v282, .null]) (rest := []) (n := 2) hx hb hml hown hts hK hlo hG (g_frV d290 (fun lo => m_X12_enter_n l dd cT lo C290 ba6r v282 e290) lo) qM_L_321 qI_yX12_enter qS_X12_yX12_enter qN_X12 qC_yX12_enter (by decide +kernel) ⟨Nat.le_of_ble_eq_true rfl, Nat.le_of_ble_eq_true rfl⟩ (by rfl) (g_ob_gj o290) rfl hl.1 rfl (Nat.le_of_ble_eq_true rfl) dL_changes_290 y290 (fun Gx H locs hKx hG => ?_)
              obtain ⟨D290, k290, f290, l290⟩ := hKx
              rw [l290, k290] at hG
              rw [k290] at f290
              obtain ⟨G290, i290⟩ : ∃ g : gH, g = gj q290 R290 := ⟨_, rfl⟩
              rw [← i290] at hG
              replace h := h G290 f290 i290
              refine lv_iinc (v := (bx7 + (1 : Int32))) (lv' := [(7, .int (bx7 + (1 : Int32))), (0, .ref ba0), (1, .ref ba1), (4, .ref ba4), (5, .int bx5), (6, .ref ba6r)]) hx hb dL_changes_293 hl (k := 5) rfl rfl (by decide) rfl (fun ls hl => ?_)
              refine lv_goto (tgt := 268) hx hb dL_changes_296 (by decide) ?_
              exact ih268 G290 kc ks ba0 ba1 ba4 bx5 (some ba6r) (bx7 + (1 : Int32)) _ _ hG _ (lv_sub hl [1, 2, 3, 4, 5, 0] rfl) h
            · replace h := h.2 r289 rfl
              obtain ⟨C290, R290, d290, g290, h⟩ := h
              obtain ⟨u290, o290, h⟩ := h
              obtain ⟨y290, h⟩ := h
              obtain ⟨q290, e290, h⟩ := h
              rw [g290] at hG
              refine g_wVv (As := [.int v282, .ref r289]) (rest := []) (n := 2) hx hb hml hown hts hK hlo hG (g_frV d290 (fun lo => m_X12_enter_r l dd cT lo C290 ba6r v282 r289 e290) lo) qM_L_321 qI_yX12_enter qS_X12_yX12_enter qN_X12 qC_yX12_enter (by decide +kernel) ⟨Nat.le_of_ble_eq_true rfl, Nat.le_of_ble_eq_true rfl⟩ (by rfl) (g_ob_gj o290) rfl hl.1 rfl (Nat.le_of_ble_eq_true rfl) dL_changes_290 y290 (fun Gx H locs hKx hG => ?_)
              obtain ⟨D290, k290, f290, l290⟩ := hKx
              rw [l290, k290] at hG
              rw [k290] at f290
              obtain ⟨G290, i290⟩ : ∃ g : gH, g = gj q290 R290 := ⟨_, rfl⟩
              rw [← i290] at hG
              replace h := h G290 f290 i290
              refine lv_iinc (v := (bx7 + (1 : Int32))) (lv' := [(7, .int (bx7 + (1 : Int32))), (0, .ref ba0), (1, .ref ba1), (4, .ref ba4), (5, .int bx5), (6, .ref ba6r)]) hx hb dL_changes_293 hl (k := 5) rfl rfl (by decide) rfl (fun ls hl => ?_)
              refine lv_goto (tgt := 268) hx hb dL_changes_296 (by decide) ?_
              exact ih268 G290 kc ks ba0 ba1 ba4 bx5 (some ba6r) (bx7 + (1 : Int32)) _ _ hG _ (lv_sub hl [1, 2, 3, 4, 5, 0] rfl) h
  have h162 : ∀ n162 : Nat, ∀ (G : gH) (kc ks : Nat) (ba0 : Nat) (ba1 : Nat) (bx5 : Int32) (bx6 : Int32) (H : Heap) (locs : List Loc), g_S lo dd cT s H locs G → ∀ ls : Array Slot, lv_has ls 8 [(0, .ref ba0), (1, .ref ba1), (5, .int bx5), (6, .int bx6)] → w_L_changes_L162 MC MS K n162 G kc ks ba0 ba1 bx5 bx6 → W p l e (g_rm 8 158 MC MS) s m ([.ref a0, .ref a1, .ref a2] : List Value).toArray below meth c H locs kc ks (MQ below (va_Qi K (g_Pre lo dd cT) (g_A lo)) ([.ref a0, .ref a1, .ref a2] : List Value).toArray s MC MS (g_A lo)) (F0 m 162 ls []) := by
    intro n162
    induction n162 with
    | zero =>
      intro G kc ks ba0 ba1 bx5 bx6 H locs hG ls hl h
      exact (show False from h).elim
    | succ n162 ih162 =>
      intro G kc ks ba0 ba1 bx5 bx6 H locs hG ls hl h
      rw [w_L_changes_L162] at h
      refine lv_iload hx hb dL_changes_162 (lv_at hl 3 rfl) ?_
      refine lv_aload_n hx hb dL_changes_164 rfl (lv_at hl 1 rfl) ?_
      obtain ⟨C165, R165, d165, g165, h⟩ := h
      obtain ⟨u165, o165, h⟩ := h
      obtain ⟨y165, h⟩ := h
      obtain ⟨v165, e165, h⟩ := h
      rw [g165] at hG
      refine g_wVi (As := []) (rest := [.int bx6]) (n := 0) hx hb hml hown hts hK hlo hG (g_frI d165 (fun lo => m_X10_main l dd cT lo C165 ba1 e165) lo) qM_L_121 qI_yX10_main qS_X10_yX10_main qN_X10 qC_yX10_main (by decide +kernel) ⟨Nat.le_of_ble_eq_true rfl, Nat.le_of_ble_eq_true rfl⟩ (by rfl) (g_ob_gj o165) rfl hl.1 rfl (Nat.le_of_ble_eq_true rfl) dL_changes_165 y165 (fun v165x Gx H locs hKx hG => ?_)
      obtain ⟨D165, ⟨k165a, k165⟩, f165, l165⟩ := hKx
      rw [l165, k165] at hG
      rw [k165] at f165
      rw [k165a]
      rw [← g165] at hG
      refine lv_icmp_ge (tgt := 203) hx hb dL_changes_168 (by decide) (fun c168 => ?_) (fun c168 => ?_)
      · rw [if_pos c168] at h
        refine lv_aload_n hx hb dL_changes_203 rfl (lv_at hl 0 rfl) ?_
        obtain ⟨C204, R204, d204, g204, h⟩ := h
        obtain ⟨u204, o204, h⟩ := h
        obtain ⟨y204, h⟩ := h
        rw [g204] at hG
        refine g_wVi (As := []) (rest := []) (n := 0) hx hb hml hown hts hK hlo hG (g_frI d204 (fun lo => g_noX (m_X9_crash l hfl dd cT lo C204 ba0 h)) lo) qM_L_315 qI_yX9_crash qS_X9_yX9_crash qN_X9 qC_yX9_crash (by decide +kernel) ⟨Nat.le_of_ble_eq_true rfl, Nat.le_of_ble_eq_true rfl⟩ (by rfl) (g_ob_gj o204) rfl hl.1 rfl (Nat.le_of_ble_eq_true rfl) dL_changes_204 y204 (fun v204x Gx H locs hKx hG => ?_)
        obtain ⟨D204, h, f204, rfl⟩ := hKx
        obtain ⟨G204, i204⟩ : ∃ g : gH, g = gj D204 R204 := ⟨_, rfl⟩
        rw [← i204] at hG
        replace h := h G204 f204 i204
        revert h
        generalize v204x = v204
        intro h
        refine lv_iload hx hb dL_changes_207 (lv_at hl 2 rfl) ?_
        refine lv_icmp_ne (tgt := 216) hx hb dL_changes_209 (by decide) (fun c209 => ?_) (fun c209 => ?_)
        · rw [if_neg c209] at h
          refine lv_iconst (v := (0 : Int32)) hx hb dL_changes_216 (by decide) ?_
          obtain ⟨y1, y2, h⟩ := h
          refine W.widen (k := MC) (n := MS) y1 y2 ?_
          exact g_zret hx hb hr hlocks hK hlo hG rfl h dL_changes_217
        · rw [if_pos c209] at h
          refine lv_iconst (v := (1 : Int32)) hx hb dL_changes_212 (by decide) ?_
          refine lv_goto (tgt := 217) hx hb dL_changes_213 (by decide) ?_
          obtain ⟨y1, y2, h⟩ := h
          refine W.widen (k := MC) (n := MS) y1 y2 ?_
          exact g_zret hx hb hr hlocks hK hlo hG rfl h dL_changes_217
      · rw [if_neg c168] at h
        refine lv_iload hx hb dL_changes_171 (lv_at hl 2 rfl) ?_
        refine lv_aload_n hx hb dL_changes_173 rfl (lv_at hl 1 rfl) ?_
        obtain ⟨v174, e174, h⟩ := h
        refine g_getrN hx hb hts inlX10 hown hK hG (by rfl) 8 (by decide) (List.mem_of_getElem? (i := 6) rfl) e174 dL_changes_174 ?_
        refine lv_iload hx hb dL_changes_177 (lv_at hl 3 rfl) ?_
        obtain ⟨v179, e179, h⟩ := h
        refine g_iald hx hb hK hG e179 dL_changes_179 ?_
        refine lv_aload_n hx hb dL_changes_180 rfl (lv_at hl 1 rfl) ?_
        obtain ⟨v181, e181, h⟩ := h
        refine g_getiN hx hb hts inlX10 hown hK hG (by rfl) 4 (by decide) (List.mem_of_getElem? (i := 14) rfl) e181 dL_changes_181 ?_
        refine lv_iconst (v := (1 : Int32)) hx hb dL_changes_184 (by decide) ?_
        refine lv_isub hx hb dL_changes_185 ?_
        refine lv_icmp_ne (tgt := 193) hx hb dL_changes_186 (by decide) (fun c186 => ?_) (fun c186 => ?_)
        · rw [if_neg c186] at h
          refine lv_iconst (v := (0 : Int32)) hx hb dL_changes_193 (by decide) ?_
          refine lv_iadd hx hb dL_changes_194 ?_
          refine lv_istore (lv' := [(5, .int (bx5 + (0 : Int32))), (0, .ref ba0), (1, .ref ba1), (6, .int bx6)]) hx hb dL_changes_195 hl (by decide) rfl (fun ls hl => ?_)
          refine lv_iinc (v := (bx6 + (1 : Int32))) (lv' := [(6, .int (bx6 + (1 : Int32))), (5, .int (bx5 + (0 : Int32))), (0, .ref ba0), (1, .ref ba1)]) hx hb dL_changes_197 hl (k := 3) rfl rfl (by decide) rfl (fun ls hl => ?_)
          refine lv_goto (tgt := 162) hx hb dL_changes_200 (by decide) ?_
          exact ih162 G kc ks ba0 ba1 (bx5 + (0 : Int32)) (bx6 + (1 : Int32)) _ _ hG _ (lv_sub hl [2, 3, 1, 0] rfl) h
        · rw [if_pos c186] at h
          refine lv_iconst (v := (1 : Int32)) hx hb dL_changes_189 (by decide) ?_
          refine lv_goto (tgt := 194) hx hb dL_changes_190 (by decide) ?_
          refine lv_iadd hx hb dL_changes_194 ?_
          refine lv_istore (lv' := [(5, .int (bx5 + (1 : Int32))), (0, .ref ba0), (1, .ref ba1), (6, .int bx6)]) hx hb dL_changes_195 hl (by decide) rfl (fun ls hl => ?_)
          refine lv_iinc (v := (bx6 + (1 : Int32))) (lv' := [(6, .int (bx6 + (1 : Int32))), (5, .int (bx5 + (1 : Int32))), (0, .ref ba0), (1, .ref ba1)]) hx hb dL_changes_197 hl (k := 3) rfl rfl (by decide) rfl (fun ls hl => ?_)
          refine lv_goto (tgt := 162) hx hb dL_changes_200 (by decide) ?_
          exact ih162 G kc ks ba0 ba1 (bx5 + (1 : Int32)) (bx6 + (1 : Int32)) _ _ hG _ (lv_sub hl [2, 3, 1, 0] rfl) h
  have h91 : ∀ (G : gH) (kc ks : Nat) (ba0 : Nat) (ba1 : Nat) (H : Heap) (locs : List Loc), g_S lo dd cT s H locs G → ∀ ls : Array Slot, lv_has ls 8 [(0, .ref ba0), (1, .ref ba1)] → w_L_changes_J91 MC MS K G kc ks ba0 ba1 → W p l e (g_rm 8 158 MC MS) s m ([.ref a0, .ref a1, .ref a2] : List Value).toArray below meth c H locs kc ks (MQ below (va_Qi K (g_Pre lo dd cT) (g_A lo)) ([.ref a0, .ref a1, .ref a2] : List Value).toArray s MC MS (g_A lo)) (F0 m 91 ls []) := by
    intro G kc ks ba0 ba1 H locs hG ls hl h
    unfold w_L_changes_J91 at h
    refine lv_aload_n hx hb dL_changes_91 rfl (lv_at hl 1 rfl) ?_
    obtain ⟨C92, R92, d92, g92, h⟩ := h
    obtain ⟨u92, o92, h⟩ := h
    obtain ⟨y92, h⟩ := h
    obtain ⟨v92, e92, h⟩ := h
    rw [g92] at hG
    refine g_wVi (As := []) (rest := []) (n := 0) hx hb hml hown hts hK hlo hG (g_frI d92 (fun lo => m_X10_whyClose l dd cT lo C92 ba1 e92) lo) qM_L_289 qI_yX10_whyClose qS_X10_yX10_whyClose qN_X10 qC_yX10_whyClose (by decide +kernel) ⟨Nat.le_of_ble_eq_true rfl, Nat.le_of_ble_eq_true rfl⟩ (by rfl) (g_ob_gj o92) rfl hl.1 rfl (Nat.le_of_ble_eq_true rfl) dL_changes_92 y92 (fun v92x Gx H locs hKx hG => ?_)
    obtain ⟨D92, ⟨k92a, k92⟩, f92, l92⟩ := hKx
    rw [l92, k92] at hG
    rw [k92] at f92
    rw [k92a]
    rw [← g92] at hG
    refine lv_if_le (tgt := 100) hx hb dL_changes_95 (by decide) (fun c95 => ?_) (fun c95 => ?_)
    · rw [if_pos c95] at h
      refine lv_aload_n hx hb dL_changes_100 rfl (lv_at hl 1 rfl) ?_
      obtain ⟨C101, R101, d101, g101, h⟩ := h
      obtain ⟨u101, o101, h⟩ := h
      obtain ⟨y101, h⟩ := h
      obtain ⟨q101, e101, h⟩ := h
      rw [g101] at hG
      refine g_wVv (As := []) (rest := []) (n := 0) hx hb hml hown hts hK hlo hG (g_frV d101 (fun lo => m_X10_close l dd cT lo C101 ba1 e101) lo) qM_L_310 qI_yX10_close qS_X10_yX10_close qN_X10 qC_yX10_close (by decide +kernel) ⟨Nat.le_of_ble_eq_true rfl, Nat.le_of_ble_eq_true rfl⟩ (by rfl) (g_ob_gj o101) rfl hl.1 rfl (Nat.le_of_ble_eq_true rfl) dL_changes_101 y101 (fun Gx H locs hKx hG => ?_)
      obtain ⟨D101, k101, f101, l101⟩ := hKx
      rw [l101, k101] at hG
      rw [k101] at f101
      obtain ⟨G101, i101⟩ : ∃ g : gH, g = gj q101 R101 := ⟨_, rfl⟩
      rw [← i101] at hG
      replace h := h G101 f101 i101
      refine lv_aload_n hx hb dL_changes_104 rfl (lv_at hl 0 rfl) ?_
      obtain ⟨C105, R105, d105, g105, h⟩ := h
      obtain ⟨u105, o105, h⟩ := h
      obtain ⟨y105, h⟩ := h
      rw [g105] at hG
      refine g_wVi (As := []) (rest := []) (n := 0) hx hb hml hown hts hK hlo hG (g_frI d105 (fun lo => g_noX (m_X9_close l hfl dd cT lo C105 ba0 h)) lo) qM_L_313 qI_yX9_close qS_X9_yX9_close qN_X9 qC_yX9_close (by decide +kernel) ⟨Nat.le_of_ble_eq_true rfl, Nat.le_of_ble_eq_true rfl⟩ (by rfl) (g_ob_gj o105) rfl hl.1 rfl (Nat.le_of_ble_eq_true rfl) dL_changes_105 y105 (fun v105x Gx H locs hKx hG => ?_)
      obtain ⟨D105, h, f105, rfl⟩ := hKx
      obtain ⟨G105, i105⟩ : ∃ g : gH, g = gj D105 R105 := ⟨_, rfl⟩
      rw [← i105] at hG
      replace h := h G105 f105 i105
      revert h
      generalize v105x = v105
      intro h
      refine lv_aload_n hx hb dL_changes_108 rfl (lv_at hl 1 rfl) ?_
      obtain ⟨v109, e109, h⟩ := h
      refine g_getiN hx hb hts inlX10 hown hK hG (by rfl) 4 (by decide) (List.mem_of_getElem? (i := 14) rfl) e109 dL_changes_109 ?_
      refine lv_iconst (v := (1 : Int32)) hx hb dL_changes_112 (by decide) ?_
      refine lv_isub hx hb dL_changes_113 ?_
      refine lv_icmp_ne (tgt := 121) hx hb dL_changes_114 (by decide) (fun c114 => ?_) (fun c114 => ?_)
      · rw [if_neg c114] at h
        refine lv_iconst (v := (0 : Int32)) hx hb dL_changes_121 (by decide) ?_
        obtain ⟨y1, y2, h⟩ := h
        refine W.widen (k := MC) (n := MS) y1 y2 ?_
        exact g_zret hx hb hr hlocks hK hlo hG rfl h dL_changes_122
      · rw [if_pos c114] at h
        refine lv_iconst (v := (1 : Int32)) hx hb dL_changes_117 (by decide) ?_
        refine lv_goto (tgt := 122) hx hb dL_changes_118 (by decide) ?_
        obtain ⟨y1, y2, h⟩ := h
        refine W.widen (k := MC) (n := MS) y1 y2 ?_
        exact g_zret hx hb hr hlocks hK hlo hG rfl h dL_changes_122
    · rw [if_neg c95] at h
      refine lv_iconst (v := (1 : Int32)) hx hb dL_changes_98 (by decide) ?_
      obtain ⟨y1, y2, h⟩ := h
      refine W.widen (k := MC) (n := MS) y1 y2 ?_
      exact g_zret hx hb hr hlocks hK hlo hG rfl h dL_changes_99
  unfold w_L_changes at h
  refine lv_aload_n hx hb dL_changes_0 rfl (lv_at hl 2 rfl) ?_
  refine lv_aload_n hx hb dL_changes_1 rfl (lv_at hl 1 rfl) ?_
  obtain ⟨v2, e2, h⟩ := h
  refine g_getiN hx hb hts inlX10 hown hK hG (by rfl) 2 (by decide) (List.mem_of_getElem? (i := 2) rfl) e2 dL_changes_2 ?_
  obtain ⟨C5, R5, d5, g5, h⟩ := h
  obtain ⟨y5, h⟩ := h
  obtain ⟨q5, e5, h⟩ := h
  rw [g5] at hG
  refine g_wSi (As := [.ref a2, .int v2]) (rest := []) (n := 2) hx hb hml hown hts hK hlo hG (g_frI d5 (fun lo => m_L_draw l dd cT lo C5 a2 v2 e5) lo) qM_L_35 qT_yL_draw qN_L qC_yL_draw (by decide +kernel) ⟨Nat.le_of_ble_eq_true rfl, Nat.le_of_ble_eq_true rfl⟩ rfl hl.1 rfl (Nat.le_of_ble_eq_true rfl) dL_changes_5 y5 (fun v5x Gx H locs hKx hG => ?_)
  obtain ⟨D5, ⟨k5a, k5⟩, f5, l5⟩ := hKx
  rw [l5, k5] at hG
  rw [k5] at f5
  rw [k5a]
  obtain ⟨G5, i5⟩ : ∃ g : gH, g = gj q5.1 R5 := ⟨_, rfl⟩
  rw [← i5] at hG
  replace h := h G5 f5 i5
  refine lv_istore_n (lv' := [(3, .int q5.2), (0, .ref a0), (1, .ref a1), (2, .ref a2)]) hx hb dL_changes_8 rfl hl (by decide) rfl (fun ls hl => ?_)
  refine lv_aload_n hx hb dL_changes_9 rfl (lv_at hl 3 rfl) ?_
  refine lv_bipush (v := (10 : Int32)) hx hb dL_changes_10 (by decide) ?_
  obtain ⟨C12, R12, d12, g12, h⟩ := h
  obtain ⟨y12, h⟩ := h
  obtain ⟨q12, e12, h⟩ := h
  rw [g12] at hG
  refine g_wSi (As := [.ref a2, .int (10 : Int32)]) (rest := []) (n := 2) hx hb hml hown hts hK hlo hG (g_frI d12 (fun lo => m_L_draw l dd cT lo C12 a2 (10 : Int32) e12) lo) qM_L_35 qT_yL_draw qN_L qC_yL_draw (by decide +kernel) ⟨Nat.le_of_ble_eq_true rfl, Nat.le_of_ble_eq_true rfl⟩ rfl hl.1 rfl (Nat.le_of_ble_eq_true rfl) dL_changes_12 y12 (fun v12x Gx H locs hKx hG => ?_)
  obtain ⟨D12, ⟨k12a, k12⟩, f12, l12⟩ := hKx
  rw [l12, k12] at hG
  rw [k12] at f12
  rw [k12a]
  obtain ⟨G12, i12⟩ : ∃ g : gH, g = gj q12.1 R12 := ⟨_, rfl⟩
  rw [← i12] at hG
  replace h := h G12 f12 i12
  by_cases c15_0 : q12.2 = (0 : Int32)
  · rw [if_pos c15_0] at h
    refine g_swIn (tgt := 56) hx hb dL_changes_15 (0 : Int32) c15_0 (by decide) (by decide) 41 (by decide) (by decide) ?_
    refine lv_aload_n hx hb dL_changes_56 rfl (lv_at hl 2 rfl) ?_
    refine lv_iload_n hx hb dL_changes_57 rfl (lv_at hl 0 rfl) ?_
    obtain ⟨C58, R58, d58, g58, h⟩ := h
    obtain ⟨u58, o58, h⟩ := h
    obtain ⟨y58, h⟩ := h
    obtain ⟨v58, e58, h⟩ := h
    rw [g58] at hG
    refine g_wVi (As := [.int q5.2]) (rest := []) (n := 1) hx hb hml hown hts hK hlo hG (g_frI d58 (fun lo => m_X10_whyErase l dd cT lo C58 a1 q5.2 e58) lo) qM_L_301 qI_yX10_whyErase qS_X10_yX10_whyErase qN_X10 qC_yX10_whyErase (by decide +kernel) ⟨Nat.le_of_ble_eq_true rfl, Nat.le_of_ble_eq_true rfl⟩ (by rfl) (g_ob_gj o58) rfl hl.1 rfl (Nat.le_of_ble_eq_true rfl) dL_changes_58 y58 (fun v58x Gx H locs hKx hG => ?_)
    obtain ⟨D58, ⟨k58a, k58⟩, f58, l58⟩ := hKx
    rw [l58, k58] at hG
    rw [k58] at f58
    rw [k58a]
    rw [← g58] at hG
    refine lv_if_le (tgt := 66) hx hb dL_changes_61 (by decide) (fun c61 => ?_) (fun c61 => ?_)
    · rw [if_pos c61] at h
      refine lv_aload_n hx hb dL_changes_66 rfl (lv_at hl 2 rfl) ?_
      refine lv_iload_n hx hb dL_changes_67 rfl (lv_at hl 0 rfl) ?_
      obtain ⟨C68, R68, d68, g68, h⟩ := h
      obtain ⟨u68, o68, h⟩ := h
      obtain ⟨y68, h⟩ := h
      rw [g68] at hG
      refine g_wVv (As := [.int q5.2]) (rest := []) (n := 1) hx hb hml hown hts hK hlo hG (g_frV d68 (fun lo => m_X10_erase 4 32 l hfl dd cT lo C68 a1 q5.2 h) lo) qM_L_304 qI_yX10_erase qS_X10_yX10_erase qN_X10 qC_yX10_erase (by decide +kernel) ⟨Nat.le_of_ble_eq_true rfl, Nat.le_of_ble_eq_true rfl⟩ (by rfl) (g_ob_gj o68) rfl hl.1 rfl (Nat.le_of_ble_eq_true rfl) dL_changes_68 y68 (fun Gx H locs hKx hG => ?_)
      obtain ⟨D68, h, f68, rfl⟩ := hKx
      obtain ⟨G68, i68⟩ : ∃ g : gH, g = gj D68 R68 := ⟨_, rfl⟩
      rw [← i68] at hG
      replace h := h G68 f68 i68
      refine lv_aload_n hx hb dL_changes_71 rfl (lv_at hl 1 rfl) ?_
      refine lv_iload_n hx hb dL_changes_72 rfl (lv_at hl 0 rfl) ?_
      obtain ⟨C73, R73, d73, g73, h⟩ := h
      obtain ⟨u73, o73, h⟩ := h
      obtain ⟨y73, h⟩ := h
      rw [g73] at hG
      refine g_wVi (As := [.int q5.2]) (rest := []) (n := 1) hx hb hml hown hts hK hlo hG (g_frI d73 (fun lo => g_noX (m_X9_erase l hfl dd cT lo C73 a0 q5.2 h)) lo) qM_L_308 qI_yX9_erase qS_X9_yX9_erase qN_X9 qC_yX9_erase (by decide +kernel) ⟨Nat.le_of_ble_eq_true rfl, Nat.le_of_ble_eq_true rfl⟩ (by rfl) (g_ob_gj o73) rfl hl.1 rfl (Nat.le_of_ble_eq_true rfl) dL_changes_73 y73 (fun v73x Gx H locs hKx hG => ?_)
      obtain ⟨D73, h, f73, rfl⟩ := hKx
      obtain ⟨G73, i73⟩ : ∃ g : gH, g = gj D73 R73 := ⟨_, rfl⟩
      rw [← i73] at hG
      replace h := h G73 f73 i73
      revert h
      generalize v73x = v73
      intro h
      refine lv_aload_n hx hb dL_changes_76 rfl (lv_at hl 2 rfl) ?_
      refine lv_bipush (v := (12 : Int32)) hx hb dL_changes_77 (by decide) ?_
      obtain ⟨C79, R79, d79, g79, h⟩ := h
      obtain ⟨u79, o79, h⟩ := h
      obtain ⟨y79, h⟩ := h
      obtain ⟨v79, e79, h⟩ := h
      rw [g79] at hG
      refine g_wVi (As := [.int (12 : Int32)]) (rest := [.int v73]) (n := 1) hx hb hml hown hts hK hlo hG (g_frI d79 (fun lo => m_X10_there l dd cT lo C79 a1 (12 : Int32) e79) lo) qM_L_178 qI_yX10_there qS_X10_yX10_there qN_X10 qC_yX10_there (by decide +kernel) ⟨Nat.le_of_ble_eq_true rfl, Nat.le_of_ble_eq_true rfl⟩ (by rfl) (g_ob_gj o79) rfl hl.1 rfl (Nat.le_of_ble_eq_true rfl) dL_changes_79 y79 (fun v79x Gx H locs hKx hG => ?_)
      obtain ⟨D79, ⟨k79a, k79⟩, f79, l79⟩ := hKx
      rw [l79, k79] at hG
      rw [k79] at f79
      rw [k79a]
      rw [← g79] at hG
      refine lv_icmp_ne (tgt := 89) hx hb dL_changes_82 (by decide) (fun c82 => ?_) (fun c82 => ?_)
      · rw [if_neg c82] at h
        refine lv_iconst (v := (0 : Int32)) hx hb dL_changes_89 (by decide) ?_
        obtain ⟨y1, y2, h⟩ := h
        refine W.widen (k := MC) (n := MS) y1 y2 ?_
        exact g_zret hx hb hr hlocks hK hlo hG rfl h dL_changes_90
      · rw [if_pos c82] at h
        refine lv_iconst (v := (1 : Int32)) hx hb dL_changes_85 (by decide) ?_
        refine lv_goto (tgt := 90) hx hb dL_changes_86 (by decide) ?_
        obtain ⟨y1, y2, h⟩ := h
        refine W.widen (k := MC) (n := MS) y1 y2 ?_
        exact g_zret hx hb hr hlocks hK hlo hG rfl h dL_changes_90
    · rw [if_neg c61] at h
      refine lv_iconst (v := (1 : Int32)) hx hb dL_changes_64 (by decide) ?_
      obtain ⟨y1, y2, h⟩ := h
      refine W.widen (k := MC) (n := MS) y1 y2 ?_
      exact g_zret hx hb hr hlocks hK hlo hG rfl h dL_changes_65
  rw [if_neg c15_0] at h
  by_cases c15_1 : q12.2 = (1 : Int32)
  · rw [if_pos c15_1] at h
    refine g_swIn (tgt := 91) hx hb dL_changes_15 (1 : Int32) c15_1 (by decide) (by decide) 76 (by decide) (by decide) ?_
    exact h91 G12 0 0 a0 a1 _ _ hG _ (lv_sub hl [1, 2] rfl) h
  rw [if_neg c15_1] at h
  by_cases c15_2 : q12.2 = (2 : Int32)
  · rw [if_pos c15_2] at h
    refine g_swIn (tgt := 91) hx hb dL_changes_15 (2 : Int32) c15_2 (by decide) (by decide) 76 (by decide) (by decide) ?_
    exact h91 G12 0 0 a0 a1 _ _ hG _ (lv_sub hl [1, 2] rfl) h
  rw [if_neg c15_2] at h
  by_cases c15_3 : q12.2 = (3 : Int32)
  · rw [if_pos c15_3] at h
    refine g_swIn (tgt := 123) hx hb dL_changes_15 (3 : Int32) c15_3 (by decide) (by decide) 108 (by decide) (by decide) ?_
    refine lv_aload_n hx hb dL_changes_123 rfl (lv_at hl 2 rfl) ?_
    obtain ⟨C124, R124, d124, g124, h⟩ := h
    obtain ⟨u124, o124, h⟩ := h
    obtain ⟨y124, h⟩ := h
    obtain ⟨v124, e124, h⟩ := h
    rw [g124] at hG
    refine g_wVq (As := []) (rest := []) (n := 0) hx hb hml hown hts hK hlo hG (g_frQ d124 (fun lo => m_X10_open l dd cT lo C124 a1 e124) lo) qM_L_189 qI_yX10_open qS_X10_yX10_open qN_X10 qC_yX10_open (by decide +kernel) ⟨Nat.le_of_ble_eq_true rfl, Nat.le_of_ble_eq_true rfl⟩ (by rfl) (g_ob_gj o124) rfl hl.1 rfl (Nat.le_of_ble_eq_true rfl) dL_changes_124 y124 (fun v124x Gx H locs hKx hG => ?_)
    obtain ⟨D124, ⟨k124a, k124⟩, f124, l124⟩ := hKx
    rw [l124, k124] at hG
    rw [k124] at f124
    rw [k124a]
    rw [← g124] at hG
    rcases v124 with _ | r124
    · replace h := h.1 rfl
      refine lv_astoreN (lv' := [(4, .null), (3, .int q5.2), (0, .ref a0), (1, .ref a1), (2, .ref a2)]) hx hb dL_changes_127 hl (by decide) rfl (fun ls hl => ?_)
      refine lv_aloadN hx hb dL_changes_129 (lv_at hl 0 rfl) ?_
      refine lv_ifnullN (tgt := 142) hx hb dL_changes_131 (by decide) ?_
      refine lv_iconst (v := (1 : Int32)) hx hb dL_changes_142 (by decide) ?_
      obtain ⟨y1, y2, h⟩ := h
      refine W.widen (k := MC) (n := MS) y1 y2 ?_
      exact g_zret hx hb hr hlocks hK hlo hG rfl h dL_changes_143
    · replace h := h.2 r124 rfl
      refine lv_astore (lv' := [(4, .ref r124), (3, .int q5.2), (0, .ref a0), (1, .ref a1), (2, .ref a2)]) hx hb dL_changes_127 hl (by decide) rfl (fun ls hl => ?_)
      refine lv_aload hx hb dL_changes_129 (lv_at hl 0 rfl) ?_
      refine lv_ifnull hx hb dL_changes_131 ?_
      refine lv_aload_n hx hb dL_changes_134 rfl (lv_at hl 4 rfl) ?_
      refine lv_iconst (v := (2 : Int32)) hx hb dL_changes_135 (by decide) ?_
      obtain ⟨C136, R136, d136, g136, h⟩ := h
      obtain ⟨y136, h⟩ := h
      obtain ⟨q136, e136, h⟩ := h
      rw [g136] at hG
      refine g_wSi (As := [.ref a2, .int (2 : Int32)]) (rest := []) (n := 2) hx hb hml hown hts hK hlo hG (g_frI d136 (fun lo => m_L_draw l dd cT lo C136 a2 (2 : Int32) e136) lo) qM_L_35 qT_yL_draw qN_L qC_yL_draw (by decide +kernel) ⟨Nat.le_of_ble_eq_true rfl, Nat.le_of_ble_eq_true rfl⟩ rfl hl.1 rfl (Nat.le_of_ble_eq_true rfl) dL_changes_136 y136 (fun v136x Gx H locs hKx hG => ?_)
      obtain ⟨D136, ⟨k136a, k136⟩, f136, l136⟩ := hKx
      rw [l136, k136] at hG
      rw [k136] at f136
      rw [k136a]
      obtain ⟨G136, i136⟩ : ∃ g : gH, g = gj q136.1 R136 := ⟨_, rfl⟩
      rw [← i136] at hG
      replace h := h G136 f136 i136
      refine lv_if_ne (tgt := 144) hx hb dL_changes_139 (by decide) (fun c139 => ?_) (fun c139 => ?_)
      · rw [if_neg c139] at h
        refine lv_aload hx hb dL_changes_144 (lv_at hl 0 rfl) ?_
        refine lv_iconst (v := (2 : Int32)) hx hb dL_changes_146 (by decide) ?_
        obtain ⟨G147, i147, h⟩ := h
        refine g_putvN hx hb hts inlX12 tyX12 tyX12_ok nmX12 hown hK hG (by rfl) 0 (by decide) (List.mem_of_getElem? (i := 13) rfl) rfl rfl rfl rfl i147 dL_changes_147 (fun H locs hG => ?_)
        refine lv_aload hx hb dL_changes_150 (lv_at hl 0 rfl) ?_
        refine lv_iconst (v := (0 : Int32)) hx hb dL_changes_152 (by decide) ?_
        obtain ⟨G153, i153, h⟩ := h
        refine g_putvN hx hb hts inlX12 tyX12 tyX12_ok nmX12 hown hK hG (by rfl) 2 (by decide) (List.mem_of_getElem? (i := 19) rfl) rfl rfl rfl rfl i153 dL_changes_153 (fun H locs hG => ?_)
        refine lv_iconst (v := (0 : Int32)) hx hb dL_changes_156 (by decide) ?_
        refine lv_istore (lv' := [(5, .int (0 : Int32)), (4, .ref r124), (3, .int q5.2), (0, .ref a0), (1, .ref a1), (2, .ref a2)]) hx hb dL_changes_157 hl (by decide) rfl (fun ls hl => ?_)
        refine lv_iconst (v := (0 : Int32)) hx hb dL_changes_159 (by decide) ?_
        refine lv_istore (lv' := [(6, .int (0 : Int32)), (5, .int (0 : Int32)), (4, .ref r124), (3, .int q5.2), (0, .ref a0), (1, .ref a1), (2, .ref a2)]) hx hb dL_changes_160 hl (by decide) rfl (fun ls hl => ?_)
        exact h162 g_N G153 0 0 a0 a1 (0 : Int32) (0 : Int32) _ _ hG _ (lv_sub hl [4, 5, 1, 0] rfl) h
      · rw [if_pos c139] at h
        refine lv_iconst (v := (1 : Int32)) hx hb dL_changes_142 (by decide) ?_
        obtain ⟨y1, y2, h⟩ := h
        refine W.widen (k := MC) (n := MS) y1 y2 ?_
        exact g_zret hx hb hr hlocks hK hlo hG rfl h dL_changes_143
  rw [if_neg c15_3] at h
  by_cases c15_4 : q12.2 = (4 : Int32)
  · rw [if_pos c15_4] at h
    refine g_swIn (tgt := 218) hx hb dL_changes_15 (4 : Int32) c15_4 (by decide) (by decide) 203 (by decide) (by decide) ?_
    refine lv_bipush (v := (10 : Int32)) hx hb dL_changes_218 (by decide) ?_
    obtain ⟨y220, h⟩ := h
    refine g_newq6 (N := 10) hx hb hown hts qL_L_139 hK hlo hG (by decide) (by decide) (Nat.le_of_ble_eq_true rfl) y220 dL_changes_220 (fun q220 H z220 hG => ?_)
    obtain ⟨G220, i220⟩ : ∃ g : gH, g = va_up G12 q220 (some (.inr (.inr (.inl (6, 10, fun _ => none))))) := ⟨_, rfl⟩
    rw [← i220] at hG
    replace h := h q220 z220 G220 i220
    refine lv_astore (lv' := [(4, .ref q220), (3, .int q5.2), (0, .ref a0), (1, .ref a1), (2, .ref a2)]) hx hb dL_changes_223 hl (by decide) rfl (fun ls hl => ?_)
    refine lv_aload_n hx hb dL_changes_225 rfl (lv_at hl 3 rfl) ?_
    refine lv_aload hx hb dL_changes_226 (lv_at hl 0 rfl) ?_
    obtain ⟨C228, R228, d228, g228, h⟩ := h
    obtain ⟨u228, o228, h⟩ := h
    obtain ⟨y228, h⟩ := h
    obtain ⟨q228, e228, h⟩ := h
    rw [g228] at hG
    refine g_wVi (As := [.ref q220]) (rest := []) (n := 1) hx hb hml hown hts hK hlo hG (g_frI d228 (fun lo => m_X10_lost l dd cT lo C228 a1 q220 e228) lo) qM_L_276 qI_yX10_lost qS_X10_yX10_lost qN_X10 qC_yX10_lost (by decide +kernel) ⟨Nat.le_of_ble_eq_true rfl, Nat.le_of_ble_eq_true rfl⟩ (by rfl) (g_ob_gj o228) rfl hl.1 rfl (Nat.le_of_ble_eq_true rfl) dL_changes_228 y228 (fun v228x Gx H locs hKx hG => ?_)
    obtain ⟨D228, ⟨k228a, k228⟩, f228, l228⟩ := hKx
    rw [l228, k228] at hG
    rw [k228] at f228
    rw [k228a]
    obtain ⟨G228, i228⟩ : ∃ g : gH, g = gj q228.1 R228 := ⟨_, rfl⟩
    rw [← i228] at hG
    replace h := h G228 f228 i228
    refine lv_istore (lv' := [(5, .int q228.2), (4, .ref q220), (3, .int q5.2), (0, .ref a0), (1, .ref a1), (2, .ref a2)]) hx hb dL_changes_231 hl (by decide) rfl (fun ls hl => ?_)
    refine lv_aload_n hx hb dL_changes_233 rfl (lv_at hl 4 rfl) ?_
    refine lv_iload hx hb dL_changes_234 (lv_at hl 0 rfl) ?_
    obtain ⟨C236, R236, d236, g236, h⟩ := h
    obtain ⟨u236, o236, h⟩ := h
    obtain ⟨y236, h⟩ := h
    obtain ⟨v236, e236, h⟩ := h
    rw [g236] at hG
    refine g_wVi (As := [.int q228.2]) (rest := []) (n := 1) hx hb hml hown hts hK hlo hG (g_frI d236 (fun lo => m_X10_whyRecover l dd cT lo C236 a1 q228.2 e236) lo) qM_L_286 qI_yX10_whyRecover qS_X10_yX10_whyRecover qN_X10 qC_yX10_whyRecover (by decide +kernel) ⟨Nat.le_of_ble_eq_true rfl, Nat.le_of_ble_eq_true rfl⟩ (by rfl) (g_ob_gj o236) rfl hl.1 rfl (Nat.le_of_ble_eq_true rfl) dL_changes_236 y236 (fun v236x Gx H locs hKx hG => ?_)
    obtain ⟨D236, ⟨k236a, k236⟩, f236, l236⟩ := hKx
    rw [l236, k236] at hG
    rw [k236] at f236
    rw [k236a]
    rw [← g236] at hG
    refine lv_if_le (tgt := 244) hx hb dL_changes_239 (by decide) (fun c239 => ?_) (fun c239 => ?_)
    · rw [if_pos c239] at h
      refine lv_aload_n hx hb dL_changes_244 rfl (lv_at hl 4 rfl) ?_
      obtain ⟨v245, e245, h⟩ := h
      refine g_getrN hx hb hts inlX10 hown hK hG (by rfl) 16 (by decide) (List.mem_of_getElem? (i := 12) rfl) e245 dL_changes_245 ?_
      refine lv_aload_n hx hb dL_changes_248 rfl (lv_at hl 4 rfl) ?_
      obtain ⟨v249, e249, h⟩ := h
      refine g_getiN hx hb hts inlX10 hown hK hG (by rfl) 4 (by decide) (List.mem_of_getElem? (i := 14) rfl) e249 dL_changes_249 ?_
      refine lv_iconst (v := (1 : Int32)) hx hb dL_changes_252 (by decide) ?_
      refine lv_isub hx hb dL_changes_253 ?_
      obtain ⟨v254, e254, h⟩ := h
      refine g_rald_row hx hb hK hG (t := 5) rfl e254 dL_changes_254 ?_
      rcases v254 with _ | r254
      · replace h := h.1 rfl
        refine lv_iconst (v := (3 : Int32)) hx hb dL_changes_255 (by decide) ?_
        exact (show False from h).elim
      · replace h := h.2 r254 rfl
        refine lv_iconst (v := (3 : Int32)) hx hb dL_changes_255 (by decide) ?_
        obtain ⟨G256, i256, h⟩ := h
        refine g_putvN hx hb hts inlX12 tyX12 tyX12_ok nmX12 hown hK hG (by rfl) 0 (by decide) (List.mem_of_getElem? (i := 13) rfl) rfl rfl rfl rfl i256 dL_changes_256 (fun H locs hG => ?_)
        refine lv_aload_n hx hb dL_changes_259 rfl (lv_at hl 4 rfl) ?_
        obtain ⟨C260, R260, d260, g260, h⟩ := h
        obtain ⟨u260, o260, h⟩ := h
        obtain ⟨y260, h⟩ := h
        rw [g260] at hG
        refine g_wVNq (As := []) (rest := []) (n := 0) hx hb hml hown hts hK hlo hG (g_frQ d260 (fun lo => m_X10_begins 4 32 l hfl dd cT lo C260 a1 h) lo) (List.mem_of_getElem? (i := 0) rfl) qI_yX10_begins qS_X10_yX10_begins qN_X10 qC_yX10_begins (by decide +kernel) ⟨Nat.le_of_ble_eq_true rfl, Nat.le_of_ble_eq_true rfl⟩ (by rfl) (g_ob_gj o260) rfl hl.1 rfl (Nat.le_of_ble_eq_true rfl) dL_changes_260 y260 (fun v260x Gx H locs hKx hG => ?_)
        obtain ⟨D260, h, f260, rfl⟩ := hKx
        obtain ⟨G260, i260⟩ : ∃ g : gH, g = gj D260 R260 := ⟨_, rfl⟩
        rw [← i260] at hG
        replace h := h G260 f260 i260
        revert h
        generalize v260x = v260
        intro h
        rcases v260 with _ | r260
        · replace h := h.1 rfl
          refine lv_astoreN (lv' := [(6, .null), (5, .int q228.2), (4, .ref q220), (3, .int q5.2), (0, .ref a0), (1, .ref a1), (2, .ref a2)]) hx hb dL_changes_263 hl (by decide) rfl (fun ls hl => ?_)
          refine lv_iconst (v := (0 : Int32)) hx hb dL_changes_265 (by decide) ?_
          refine lv_istore (lv' := [(7, .int (0 : Int32)), (6, .null), (5, .int q228.2), (4, .ref q220), (3, .int q5.2), (0, .ref a0), (1, .ref a1), (2, .ref a2)]) hx hb dL_changes_266 hl (by decide) rfl (fun ls hl => ?_)
          exact h268 g_N G260 ((0 + 1) + 4) ((0 + 10) + 32) a0 a1 q220 q228.2 none (0 : Int32) _ _ hG _ (lv_sub hl [5, 6, 3, 2, 1, 0] rfl) h
        · replace h := h.2 r260 rfl
          refine lv_astore (lv' := [(6, .ref r260), (5, .int q228.2), (4, .ref q220), (3, .int q5.2), (0, .ref a0), (1, .ref a1), (2, .ref a2)]) hx hb dL_changes_263 hl (by decide) rfl (fun ls hl => ?_)
          refine lv_iconst (v := (0 : Int32)) hx hb dL_changes_265 (by decide) ?_
          refine lv_istore (lv' := [(7, .int (0 : Int32)), (6, .ref r260), (5, .int q228.2), (4, .ref q220), (3, .int q5.2), (0, .ref a0), (1, .ref a1), (2, .ref a2)]) hx hb dL_changes_266 hl (by decide) rfl (fun ls hl => ?_)
          exact h268 g_N G260 ((0 + 1) + 4) ((0 + 10) + 32) a0 a1 q220 q228.2 (some r260) (0 : Int32) _ _ hG _ (lv_sub hl [5, 6, 3, 2, 1, 0] rfl) h
    · rw [if_neg c239] at h
      refine lv_iconst (v := (1 : Int32)) hx hb dL_changes_242 (by decide) ?_
      obtain ⟨y1, y2, h⟩ := h
      refine W.widen (k := MC) (n := MS) y1 y2 ?_
      exact g_zret hx hb hr hlocks hK hlo hG rfl h dL_changes_243
  rw [if_neg c15_4] at h
  by_cases c15_5 : q12.2 = (5 : Int32)
  · rw [if_pos c15_5] at h
    refine g_swIn (tgt := 318) hx hb dL_changes_15 (5 : Int32) c15_5 (by decide) (by decide) 303 (by decide) (by decide) ?_
    refine lv_aload_n hx hb dL_changes_318 rfl (lv_at hl 3 rfl) ?_
    refine lv_aload_n hx hb dL_changes_319 rfl (lv_at hl 2 rfl) ?_
    obtain ⟨v320, e320, h⟩ := h
    refine g_getiN hx hb hts inlX10 hown hK hG (by rfl) 0 (by decide) (List.mem_of_getElem? (i := 0) rfl) e320 dL_changes_320 ?_
    obtain ⟨C323, R323, d323, g323, h⟩ := h
    obtain ⟨y323, h⟩ := h
    obtain ⟨q323, e323, h⟩ := h
    rw [g323] at hG
    refine g_wSi (As := [.ref a2, .int v320]) (rest := []) (n := 2) hx hb hml hown hts hK hlo hG (g_frI d323 (fun lo => m_L_draw l dd cT lo C323 a2 v320 e323) lo) qM_L_35 qT_yL_draw qN_L qC_yL_draw (by decide +kernel) ⟨Nat.le_of_ble_eq_true rfl, Nat.le_of_ble_eq_true rfl⟩ rfl hl.1 rfl (Nat.le_of_ble_eq_true rfl) dL_changes_323 y323 (fun v323x Gx H locs hKx hG => ?_)
    obtain ⟨D323, ⟨k323a, k323⟩, f323, l323⟩ := hKx
    rw [l323, k323] at hG
    rw [k323] at f323
    rw [k323a]
    obtain ⟨G323, i323⟩ : ∃ g : gH, g = gj q323.1 R323 := ⟨_, rfl⟩
    rw [← i323] at hG
    replace h := h G323 f323 i323
    refine lv_istore (lv' := [(4, .int q323.2), (3, .int q5.2), (0, .ref a0), (1, .ref a1), (2, .ref a2)]) hx hb dL_changes_326 hl (by decide) rfl (fun ls hl => ?_)
    refine lv_aload_n hx hb dL_changes_328 rfl (lv_at hl 3 rfl) ?_
    obtain ⟨v329, e329, h⟩ := h
    refine g_getrN hx hb hts inlX10 hown hK hG (by rfl) 7 (by decide) (List.mem_of_getElem? (i := 4) rfl) e329 dL_changes_329 ?_
    refine lv_iload hx hb dL_changes_332 (lv_at hl 0 rfl) ?_
    obtain ⟨v334, e334, h⟩ := h
    refine g_iald hx hb hK hG e334 dL_changes_334 ?_
    refine lv_if_ne (tgt := 348) hx hb dL_changes_335 (by decide) (fun c335 => ?_) (fun c335 => ?_)
    · rw [if_neg c335] at h
      refine lv_aload_n hx hb dL_changes_348 rfl (lv_at hl 3 rfl) ?_
      obtain ⟨v349, e349, h⟩ := h
      refine g_getrN hx hb hts inlX10 hown hK hG (by rfl) 13 (by decide) (List.mem_of_getElem? (i := 5) rfl) e349 dL_changes_349 ?_
      refine lv_iload hx hb dL_changes_352 (lv_at hl 0 rfl) ?_
      obtain ⟨v354, e354, h⟩ := h
      refine g_zald hx hb hK hG e354 dL_changes_354 ?_
      exact h355 G323 0 0 a0 a1 q323.2 v354 _ _ hG _ (lv_sub hl [2, 3, 0] rfl) h
    · rw [if_pos c335] at h
      refine lv_aload_n hx hb dL_changes_338 rfl (lv_at hl 3 rfl) ?_
      obtain ⟨v339, e339, h⟩ := h
      refine g_getrN hx hb hts inlX10 hown hK hG (by rfl) 12 (by decide) (List.mem_of_getElem? (i := 3) rfl) e339 dL_changes_339 ?_
      refine lv_iload hx hb dL_changes_342 (lv_at hl 0 rfl) ?_
      obtain ⟨v344, e344, h⟩ := h
      refine g_zald hx hb hK hG e344 dL_changes_344 ?_
      refine lv_goto (tgt := 355) hx hb dL_changes_345 (by decide) ?_
      exact h355 G323 0 0 a0 a1 q323.2 v344 _ _ hG _ (lv_sub hl [2, 3, 0] rfl) h
  rw [if_neg c15_5] at h
  by_cases c15_6 : q12.2 = (6 : Int32)
  · rw [if_pos c15_6] at h
    refine g_swIn (tgt := 403) hx hb dL_changes_15 (6 : Int32) c15_6 (by decide) (by decide) 388 (by decide) (by decide) ?_
    refine lv_aload_n hx hb dL_changes_403 rfl (lv_at hl 2 rfl) ?_
    obtain ⟨v404, e404, h⟩ := h
    refine g_getiN hx hb hts inlX10 hown hK hG (by rfl) 6 (by decide) (List.mem_of_getElem? (i := 16) rfl) e404 dL_changes_404 ?_
    refine lv_istore (lv' := [(4, .int v404), (3, .int q5.2), (0, .ref a0), (1, .ref a1), (2, .ref a2)]) hx hb dL_changes_407 hl (by decide) rfl (fun ls hl => ?_)
    refine lv_aload_n hx hb dL_changes_409 rfl (lv_at hl 3 rfl) ?_
    refine lv_aload_n hx hb dL_changes_410 rfl (lv_at hl 4 rfl) ?_
    refine lv_iconst (v := (2 : Int32)) hx hb dL_changes_411 (by decide) ?_
    obtain ⟨C412, R412, d412, g412, h⟩ := h
    obtain ⟨y412, h⟩ := h
    obtain ⟨q412, e412, h⟩ := h
    rw [g412] at hG
    refine g_wSi (As := [.ref a2, .int (2 : Int32)]) (rest := [.ref a1]) (n := 2) hx hb hml hown hts hK hlo hG (g_frI d412 (fun lo => m_L_draw l dd cT lo C412 a2 (2 : Int32) e412) lo) qM_L_35 qT_yL_draw qN_L qC_yL_draw (by decide +kernel) ⟨Nat.le_of_ble_eq_true rfl, Nat.le_of_ble_eq_true rfl⟩ rfl hl.1 rfl (Nat.le_of_ble_eq_true rfl) dL_changes_412 y412 (fun v412x Gx H locs hKx hG => ?_)
    obtain ⟨D412, ⟨k412a, k412⟩, f412, l412⟩ := hKx
    rw [l412, k412] at hG
    rw [k412] at f412
    rw [k412a]
    obtain ⟨G412, i412⟩ : ∃ g : gH, g = gj q412.1 R412 := ⟨_, rfl⟩
    rw [← i412] at hG
    replace h := h G412 f412 i412
    refine lv_if_ne (tgt := 422) hx hb dL_changes_415 (by decide) (fun c415 => ?_) (fun c415 => ?_)
    · rw [if_neg c415] at h
      refine lv_iconst (v := (0 : Int32)) hx hb dL_changes_422 (by decide) ?_
      exact h423 G412 0 0 a0 a1 v404 a1 (0 : Int32) _ _ hG _ (lv_sub hl [2, 3, 0] rfl) h
    · rw [if_pos c415] at h
      refine lv_iconst (v := (1 : Int32)) hx hb dL_changes_418 (by decide) ?_
      refine lv_goto (tgt := 423) hx hb dL_changes_419 (by decide) ?_
      exact h423 G412 0 0 a0 a1 v404 a1 (1 : Int32) _ _ hG _ (lv_sub hl [2, 3, 0] rfl) h
  rw [if_neg c15_6] at h
  have z15 : q12.2.toInt < 0 ∨ 6 < q12.2.toInt := by
    have y0 : ¬ q12.2.toInt = 0 := fun w => c15_0 (Int32.toInt_inj.mp (by rw [w]; rfl))
    have y1 : ¬ q12.2.toInt = 1 := fun w => c15_1 (Int32.toInt_inj.mp (by rw [w]; rfl))
    have y2 : ¬ q12.2.toInt = 2 := fun w => c15_2 (Int32.toInt_inj.mp (by rw [w]; rfl))
    have y3 : ¬ q12.2.toInt = 3 := fun w => c15_3 (Int32.toInt_inj.mp (by rw [w]; rfl))
    have y4 : ¬ q12.2.toInt = 4 := fun w => c15_4 (Int32.toInt_inj.mp (by rw [w]; rfl))
    have y5 : ¬ q12.2.toInt = 5 := fun w => c15_5 (Int32.toInt_inj.mp (by rw [w]; rfl))
    have y6 : ¬ q12.2.toInt = 6 := fun w => c15_6 (Int32.toInt_inj.mp (by rw [w]; rfl))
    omega
  refine lv_tableOut (tgt := 445) hx hb dL_changes_15 z15 (by decide) ?_
  refine lv_iconst (v := (1 : Int32)) hx hb dL_changes_445 (by decide) ?_
  refine lv_aload_n hx hb dL_changes_446 rfl (lv_at hl 3 rfl) ?_
  refine lv_iconst (v := (3 : Int32)) hx hb dL_changes_447 (by decide) ?_
  obtain ⟨C448, R448, d448, g448, h⟩ := h
  obtain ⟨y448, h⟩ := h
  obtain ⟨q448, e448, h⟩ := h
  rw [g448] at hG
  refine g_wSi (As := [.ref a2, .int (3 : Int32)]) (rest := [.int (1 : Int32)]) (n := 2) hx hb hml hown hts hK hlo hG (g_frI d448 (fun lo => m_L_draw l dd cT lo C448 a2 (3 : Int32) e448) lo) qM_L_35 qT_yL_draw qN_L qC_yL_draw (by decide +kernel) ⟨Nat.le_of_ble_eq_true rfl, Nat.le_of_ble_eq_true rfl⟩ rfl hl.1 rfl (Nat.le_of_ble_eq_true rfl) dL_changes_448 y448 (fun v448x Gx H locs hKx hG => ?_)
  obtain ⟨D448, ⟨k448a, k448⟩, f448, l448⟩ := hKx
  rw [l448, k448] at hG
  rw [k448] at f448
  rw [k448a]
  obtain ⟨G448, i448⟩ : ∃ g : gH, g = gj q448.1 R448 := ⟨_, rfl⟩
  rw [← i448] at hG
  replace h := h G448 f448 i448
  refine lv_iadd hx hb dL_changes_451 ?_
  refine lv_istore (lv' := [(4, .int ((1 : Int32) + q448.2)), (3, .int q5.2), (0, .ref a0), (1, .ref a1), (2, .ref a2)]) hx hb dL_changes_452 hl (by decide) rfl (fun ls hl => ?_)
  refine lv_aload_n hx hb dL_changes_454 rfl (lv_at hl 4 rfl) ?_
  refine lv_sipush (v := (1000 : Int32)) hx hb dL_changes_455 (by decide) ?_
  obtain ⟨C458, R458, d458, g458, h⟩ := h
  obtain ⟨y458, h⟩ := h
  obtain ⟨q458, e458, h⟩ := h
  rw [g458] at hG
  refine g_wSi (As := [.ref a2, .int (1000 : Int32)]) (rest := []) (n := 2) hx hb hml hown hts hK hlo hG (g_frI d458 (fun lo => m_L_draw l dd cT lo C458 a2 (1000 : Int32) e458) lo) qM_L_35 qT_yL_draw qN_L qC_yL_draw (by decide +kernel) ⟨Nat.le_of_ble_eq_true rfl, Nat.le_of_ble_eq_true rfl⟩ rfl hl.1 rfl (Nat.le_of_ble_eq_true rfl) dL_changes_458 y458 (fun v458x Gx H locs hKx hG => ?_)
  obtain ⟨D458, ⟨k458a, k458⟩, f458, l458⟩ := hKx
  rw [l458, k458] at hG
  rw [k458] at f458
  rw [k458a]
  obtain ⟨G458, i458⟩ : ∃ g : gH, g = gj q458.1 R458 := ⟨_, rfl⟩
  rw [← i458] at hG
  replace h := h G458 f458 i458
  refine lv_istore (lv' := [(5, .int q458.2), (4, .int ((1 : Int32) + q448.2)), (3, .int q5.2), (0, .ref a0), (1, .ref a1), (2, .ref a2)]) hx hb dL_changes_461 hl (by decide) rfl (fun ls hl => ?_)
  refine lv_aload_n hx hb dL_changes_463 rfl (lv_at hl 4 rfl) ?_
  refine lv_iload_n hx hb dL_changes_464 rfl (lv_at hl 2 rfl) ?_
  refine lv_iload hx hb dL_changes_465 (lv_at hl 1 rfl) ?_
  obtain ⟨C467, R467, d467, g467, h⟩ := h
  obtain ⟨u467, o467, h⟩ := h
  obtain ⟨y467, h⟩ := h
  obtain ⟨v467, e467, h⟩ := h
  rw [g467] at hG
  refine g_wVi (As := [.int q5.2, .int ((1 : Int32) + q448.2)]) (rest := []) (n := 2) hx hb hml hown hts hK hlo hG (g_frI d467 (fun lo => m_X10_whyWrite l dd cT lo C467 a1 q5.2 ((1 : Int32) + q448.2) e467) lo) qM_L_88 qI_yX10_whyWrite qS_X10_yX10_whyWrite qN_X10 qC_yX10_whyWrite (by decide +kernel) ⟨Nat.le_of_ble_eq_true rfl, Nat.le_of_ble_eq_true rfl⟩ (by rfl) (g_ob_gj o467) rfl hl.1 rfl (Nat.le_of_ble_eq_true rfl) dL_changes_467 y467 (fun v467x Gx H locs hKx hG => ?_)
  obtain ⟨D467, ⟨k467a, k467⟩, f467, l467⟩ := hKx
  rw [l467, k467] at hG
  rw [k467] at f467
  rw [k467a]
  rw [← g467] at hG
  refine lv_if_gt (tgt := 494) hx hb dL_changes_470 (by decide) (fun c470 => ?_) (fun c470 => ?_)
  · rw [if_pos c470] at h
    refine lv_iconst (v := (1 : Int32)) hx hb dL_changes_494 (by decide) ?_
    refine lv_goto (tgt := 499) hx hb dL_changes_495 (by decide) ?_
    obtain ⟨y1, y2, h⟩ := h
    refine W.widen (k := MC) (n := MS) y1 y2 ?_
    exact g_zret hx hb hr hlocks hK hlo hG rfl h dL_changes_499
  · rw [if_neg c470] at h
    refine lv_aload_n hx hb dL_changes_473 rfl (lv_at hl 3 rfl) ?_
    refine lv_iload_n hx hb dL_changes_474 rfl (lv_at hl 2 rfl) ?_
    refine lv_iload hx hb dL_changes_475 (lv_at hl 1 rfl) ?_
    refine lv_iload hx hb dL_changes_477 (lv_at hl 0 rfl) ?_
    obtain ⟨C479, R479, d479, g479, h⟩ := h
    obtain ⟨u479, o479, h⟩ := h
    obtain ⟨y479, h⟩ := h
    rw [g479] at hG
    refine g_wVi (As := [.int q5.2, .int ((1 : Int32) + q448.2), .int q458.2]) (rest := []) (n := 3) hx hb hml hown hts hK hlo hG (g_frI d479 (fun lo => g_noX (m_X9_write l hfl dd cT lo C479 a0 q5.2 ((1 : Int32) + q448.2) q458.2 h)) lo) qM_L_335 qI_yX9_write qS_X9_yX9_write qN_X9 qC_yX9_write (by decide +kernel) ⟨Nat.le_of_ble_eq_true rfl, Nat.le_of_ble_eq_true rfl⟩ (by rfl) (g_ob_gj o479) rfl hl.1 rfl (Nat.le_of_ble_eq_true rfl) dL_changes_479 y479 (fun v479x Gx H locs hKx hG => ?_)
    obtain ⟨D479, h, f479, rfl⟩ := hKx
    obtain ⟨G479, i479⟩ : ∃ g : gH, g = gj D479 R479 := ⟨_, rfl⟩
    rw [← i479] at hG
    replace h := h G479 f479 i479
    revert h
    generalize v479x = v479
    intro h
    refine lv_aload_n hx hb dL_changes_482 rfl (lv_at hl 4 rfl) ?_
    refine lv_iload_n hx hb dL_changes_483 rfl (lv_at hl 2 rfl) ?_
    refine lv_iload hx hb dL_changes_484 (lv_at hl 1 rfl) ?_
    refine lv_iload hx hb dL_changes_486 (lv_at hl 0 rfl) ?_
    obtain ⟨C488, R488, d488, g488, h⟩ := h
    obtain ⟨u488, o488, h⟩ := h
    obtain ⟨y488, h⟩ := h
    rw [g488] at hG
    refine g_wVi (As := [.int q5.2, .int ((1 : Int32) + q448.2), .int q458.2]) (rest := [.int v479]) (n := 3) hx hb hml hown hts hK hlo hG (g_frI d488 (fun lo => m_X10_write 6 47 l hfl dd cT lo C488 a1 q5.2 ((1 : Int32) + q448.2) q458.2 h) lo) qM_L_91 qI_yX10_write qS_X10_yX10_write qN_X10 qC_yX10_write (by decide +kernel) ⟨Nat.le_of_ble_eq_true rfl, Nat.le_of_ble_eq_true rfl⟩ (by rfl) (g_ob_gj o488) rfl hl.1 rfl (Nat.le_of_ble_eq_true rfl) dL_changes_488 y488 (fun v488x Gx H locs hKx hG => ?_)
    obtain ⟨D488, h, f488, rfl⟩ := hKx
    obtain ⟨G488, i488⟩ : ∃ g : gH, g = gj D488 R488 := ⟨_, rfl⟩
    rw [← i488] at hG
    replace h := h G488 f488 i488
    revert h
    generalize v488x = v488
    intro h
    refine lv_icmp_ne (tgt := 498) hx hb dL_changes_491 (by decide) (fun c491 => ?_) (fun c491 => ?_)
    · rw [if_neg c491] at h
      refine lv_iconst (v := (0 : Int32)) hx hb dL_changes_498 (by decide) ?_
      obtain ⟨y1, y2, h⟩ := h
      refine W.widen (k := MC) (n := MS) y1 y2 ?_
      exact g_zret hx hb hr hlocks hK hlo hG rfl h dL_changes_499
    · rw [if_pos c491] at h
      refine lv_iconst (v := (1 : Int32)) hx hb dL_changes_494 (by decide) ?_
      refine lv_goto (tgt := 499) hx hb dL_changes_495 (by decide) ?_
      obtain ⟨y1, y2, h⟩ := h
      refine W.widen (k := MC) (n := MS) y1 y2 ?_
      exact g_zret hx hb hr hlocks hK hlo hG rfl h dL_changes_499
set_option maxRecDepth 20000 in
set_option maxHeartbeats 4000000 in
theorem m_L_blocks (MC MS : Nat) (l : Launch) (hfl : l.stackTraces = false) (dd : va_G) (cT : Nat → ClassId) (lo : Nat → Prop) (G : gH) (a0 : Nat) (a1 : Nat) {K : Int32 → gH → Prop} (h : w_L_blocks MC MS G a0 a1 K) : Met l yL_blocks (Cond.code yL_blocks cL_blocks 9 (some .boolean) :: wsL_law) (g_rm 9 204 MC MS) (va_Pc [.ref a0, .ref a1] (g_Pre lo dd cT G)) (va_Qi K (g_Pre lo dd cT) (g_A lo)) MC MS (g_A lo) := by
  refine g_start RL rfl (by decide) (Nat.le_of_ble_eq_true rfl) ?_
  intro p e s m below meth c hx hb hr hlocks hml hown hnm hts hK hG hlo ls hl
  have hl : lv_has ls 9 [(0, .ref a0), (1, .ref a1)] := hl
  have hG : g_S lo dd cT s s.heap [] G := hG
  have h577 : ∀ (G : gH) (kc ks : Nat) (z0 : UInt64) (z1 : UInt64) (H : Heap) (locs : List Loc), g_S lo dd cT s H locs G → ∀ ls : Array Slot, lv_has ls 9 [] → w_L_blocks_J577 MC MS K G kc ks z0 z1 → W p l e (g_rm 9 204 MC MS) s m ([.ref a0, .ref a1] : List Value).toArray below meth c H locs kc ks (MQ below (va_Qi K (g_Pre lo dd cT) (g_A lo)) ([.ref a0, .ref a1] : List Value).toArray s MC MS (g_A lo)) (F0 m 577 ls [.double z1, .double z0]) := by
    intro G kc ks z0 z1 H locs hG ls hl h
    unfold w_L_blocks_J577 at h
    refine lv_dcmp hx hb dL_blocks_577 ?_
    refine lv_if_ne (tgt := 585) hx hb dL_blocks_578 (by decide) (fun c578 => ?_) (fun c578 => ?_)
    · rw [if_neg c578] at h
      refine lv_iconst (v := (0 : Int32)) hx hb dL_blocks_585 (by decide) ?_
      obtain ⟨y1, y2, h⟩ := h
      refine W.widen (k := MC) (n := MS) y1 y2 ?_
      exact g_zret hx hb hr hlocks hK hlo hG rfl h dL_blocks_586
    · rw [if_pos c578] at h
      refine lv_iconst (v := (1 : Int32)) hx hb dL_blocks_581 (by decide) ?_
      refine lv_goto (tgt := 586) hx hb dL_blocks_582 (by decide) ?_
      obtain ⟨y1, y2, h⟩ := h
      refine W.widen (k := MC) (n := MS) y1 y2 ?_
      exact g_zret hx hb hr hlocks hK hlo hG rfl h dL_blocks_586
  have h492 : ∀ n492 : Nat, ∀ (G : gH) (kc ks : Nat) (ba0 : Nat) (ba1 : Nat) (ba2 : Nat) (bx5 : Int32) (ba6 : Nat) (bx7 : Int32) (H : Heap) (locs : List Loc), g_S lo dd cT s H locs G → ∀ ls : Array Slot, lv_has ls 9 [(0, .ref ba0), (1, .ref ba1), (2, .ref ba2), (5, .int bx5), (6, .ref ba6), (7, .int bx7)] → w_L_blocks_L492 MC MS K n492 G kc ks ba0 ba1 ba2 bx5 ba6 bx7 → W p l e (g_rm 9 204 MC MS) s m ([.ref a0, .ref a1] : List Value).toArray below meth c H locs kc ks (MQ below (va_Qi K (g_Pre lo dd cT) (g_A lo)) ([.ref a0, .ref a1] : List Value).toArray s MC MS (g_A lo)) (F0 m 492 ls []) := by
    intro n492
    induction n492 with
    | zero =>
      intro G kc ks ba0 ba1 ba2 bx5 ba6 bx7 H locs hG ls hl h
      exact (show False from h).elim
    | succ n492 ih492 =>
      intro G kc ks ba0 ba1 ba2 bx5 ba6 bx7 H locs hG ls hl h
      rw [w_L_blocks_L492] at h
      refine lv_iload hx hb dL_blocks_492 (lv_at hl 5 rfl) ?_
      refine lv_bipush (v := (11 : Int32)) hx hb dL_blocks_494 (by decide) ?_
      refine lv_icmp_ge (tgt := 521) hx hb dL_blocks_496 (by decide) (fun c496 => ?_) (fun c496 => ?_)
      · rw [if_pos c496] at h
        refine lv_aload_n hx hb dL_blocks_521 rfl (lv_at hl 0 rfl) ?_
        refine lv_bipush (v := (12 : Int32)) hx hb dL_blocks_522 (by decide) ?_
        obtain ⟨C524, R524, d524, g524, h⟩ := h
        obtain ⟨u524, o524, h⟩ := h
        obtain ⟨y524, h⟩ := h
        rw [g524] at hG
        refine g_wVi (As := [.int (12 : Int32)]) (rest := []) (n := 1) hx hb hml hown hts hK hlo hG (g_frI d524 (fun lo => g_noX (m_X9_size l hfl dd cT lo C524 ba0 (12 : Int32) h)) lo) qM_L_197 qI_yX9_size qS_X9_yX9_size qN_X9 qC_yX9_size (by decide +kernel) ⟨Nat.le_of_ble_eq_true rfl, Nat.le_of_ble_eq_true rfl⟩ (by rfl) (g_ob_gj o524) rfl hl.1 rfl (Nat.le_of_ble_eq_true rfl) dL_blocks_524 y524 (fun v524x Gx H locs hKx hG => ?_)
        obtain ⟨D524, h, f524, rfl⟩ := hKx
        obtain ⟨G524, i524⟩ : ∃ g : gH, g = gj D524 R524 := ⟨_, rfl⟩
        rw [← i524] at hG
        replace h := h G524 f524 i524
        revert h
        generalize v524x = v524
        intro h
        refine lv_aload_n hx hb dL_blocks_527 rfl (lv_at hl 1 rfl) ?_
        obtain ⟨v528, e528, h⟩ := h
        refine g_getiN hx hb hts inlX10 hown hK hG (by rfl) 5 (by decide) (List.mem_of_getElem? (i := 17) rfl) e528 dL_blocks_528 ?_
        refine lv_icmp_ne (tgt := 585) hx hb dL_blocks_531 (by decide) (fun c531 => ?_) (fun c531 => ?_)
        · rw [if_neg c531] at h
          refine lv_iconst (v := (0 : Int32)) hx hb dL_blocks_585 (by decide) ?_
          obtain ⟨y1, y2, h⟩ := h
          refine W.widen (k := MC) (n := MS) y1 y2 ?_
          exact g_zret hx hb hr hlocks hK hlo hG rfl h dL_blocks_586
        · rw [if_pos c531] at h
          refine lv_aload_n hx hb dL_blocks_534 rfl (lv_at hl 0 rfl) ?_
          refine lv_iload hx hb dL_blocks_535 (lv_at hl 3 rfl) ?_
          refine lv_iconst (v := (1 : Int32)) hx hb dL_blocks_537 (by decide) ?_
          obtain ⟨C538, R538, d538, g538, h⟩ := h
          obtain ⟨u538, o538, h⟩ := h
          obtain ⟨y538, h⟩ := h
          obtain ⟨v538, e538, h⟩ := h
          rw [g538] at hG
          refine g_wVi (As := [.int bx5, .int (1 : Int32)]) (rest := []) (n := 2) hx hb hml hown hts hK hlo hG (g_frI d538 (fun lo => m_X9_defect l dd cT lo C538 ba0 bx5 (1 : Int32) e538) lo) qM_L_166 qI_yX9_defect qS_X9_yX9_defect qN_X9 qC_yX9_defect (by decide +kernel) ⟨Nat.le_of_ble_eq_true rfl, Nat.le_of_ble_eq_true rfl⟩ (by rfl) (g_ob_gj o538) rfl hl.1 rfl (Nat.le_of_ble_eq_true rfl) dL_blocks_538 y538 (fun v538x Gx H locs hKx hG => ?_)
          obtain ⟨D538, ⟨k538a, k538⟩, f538, l538⟩ := hKx
          rw [l538, k538] at hG
          rw [k538] at f538
          rw [k538a]
          rw [← g538] at hG
          refine lv_iconst (v := (-1 : Int32)) hx hb dL_blocks_541 (by decide) ?_
          refine lv_icmp_ne (tgt := 585) hx hb dL_blocks_542 (by decide) (fun c542 => ?_) (fun c542 => ?_)
          · rw [if_neg c542] at h
            refine lv_iconst (v := (0 : Int32)) hx hb dL_blocks_585 (by decide) ?_
            obtain ⟨y1, y2, h⟩ := h
            refine W.widen (k := MC) (n := MS) y1 y2 ?_
            exact g_zret hx hb hr hlocks hK hlo hG rfl h dL_blocks_586
          · rw [if_pos c542] at h
            refine lv_aload_n hx hb dL_blocks_545 rfl (lv_at hl 0 rfl) ?_
            obtain ⟨C546, R546, d546, g546, h⟩ := h
            obtain ⟨u546, o546, h⟩ := h
            obtain ⟨y546, h⟩ := h
            rw [g546] at hG
            refine g_wVd (As := []) (rest := []) (n := 0) hx hb hml hown hts hK hlo hG (g_frD d546 (fun lo => m_X9_share l dd cT lo C546 ba0 h) lo) qM_L_203 qI_yX9_share qS_X9_yX9_share qN_X9 qC_yX9_share (by decide +kernel) ⟨Nat.le_of_ble_eq_true rfl, Nat.le_of_ble_eq_true rfl⟩ (by rfl) (g_ob_gj o546) rfl hl.1 rfl (Nat.le_of_ble_eq_true rfl) dL_blocks_546 y546 (fun v546x Gx H locs hKx hG => ?_)
            obtain ⟨D546, h, f546, rfl⟩ := hKx
            obtain ⟨G546, i546⟩ : ∃ g : gH, g = gj D546 R546 := ⟨_, rfl⟩
            rw [← i546] at hG
            replace h := h G546 f546 i546
            revert h
            generalize v546x = v546
            intro h
            refine lv_aload_n hx hb dL_blocks_549 rfl (lv_at hl 2 rfl) ?_
            refine lv_iconst (v := (0 : Int32)) hx hb dL_blocks_550 (by decide) ?_
            obtain ⟨v551, e551, h⟩ := h
            refine g_iald hx hb hK hG e551 dL_blocks_551 ?_
            refine lv_aload_n hx hb dL_blocks_552 rfl (lv_at hl 1 rfl) ?_
            obtain ⟨v553, e553, h⟩ := h
            refine g_getiN hx hb hts inlX10 hown hK hG (by rfl) 0 (by decide) (List.mem_of_getElem? (i := 0) rfl) e553 dL_blocks_553 ?_
            refine lv_icmp_ne (tgt := 563) hx hb dL_blocks_556 (by decide) (fun c556 => ?_) (fun c556 => ?_)
            · rw [if_neg c556] at h
              refine lv_aload_n hx hb dL_blocks_563 rfl (lv_at hl 2 rfl) ?_
              refine lv_iconst (v := (1 : Int32)) hx hb dL_blocks_564 (by decide) ?_
              obtain ⟨v565, e565, h⟩ := h
              refine g_iald hx hb hK hG e565 dL_blocks_565 ?_
              refine lv_i2d hx hb dL_blocks_566 ?_
              refine lv_aload_n hx hb dL_blocks_567 rfl (lv_at hl 1 rfl) ?_
              obtain ⟨v568, e568, h⟩ := h
              refine g_getiN hx hb hts inlX10 hown hK hG (by rfl) 0 (by decide) (List.mem_of_getElem? (i := 0) rfl) e568 dL_blocks_568 ?_
              refine lv_aload_n hx hb dL_blocks_571 rfl (lv_at hl 2 rfl) ?_
              refine lv_iconst (v := (0 : Int32)) hx hb dL_blocks_572 (by decide) ?_
              obtain ⟨v573, e573, h⟩ := h
              refine g_iald hx hb hK hG e573 dL_blocks_573 ?_
              refine lv_isub hx hb dL_blocks_574 ?_
              refine lv_i2d hx hb dL_blocks_575 ?_
              obtain ⟨y576, h⟩ := h
              refine lv_ddiv hx hb dL_blocks_576 y576 ?_
              exact h577 G546 ((kc + 1) + 0) ((ks + 6) + 0) v546 (FP.ddiv (FP.i2d v565) (FP.i2d (v568 - v573))) _ _ hG _ (lv_sub hl [] rfl) h
            · rw [if_pos c556] at h
              refine lv_dconst1 hx hb dL_blocks_559 ?_
              refine lv_goto (tgt := 577) hx hb dL_blocks_560 (by decide) ?_
              exact h577 G546 ((kc + 1) + 0) ((ks + 6) + 0) v546 FP.dconst1 _ _ hG _ (lv_sub hl [] rfl) h
      · rw [if_neg c496] at h
        refine lv_aload_n hx hb dL_blocks_499 rfl (lv_at hl 0 rfl) ?_
        refine lv_iload hx hb dL_blocks_500 (lv_at hl 5 rfl) ?_
        obtain ⟨C502, R502, d502, g502, h⟩ := h
        obtain ⟨u502, o502, h⟩ := h
        obtain ⟨y502, h⟩ := h
        rw [g502] at hG
        refine g_wVi (As := [.int bx7]) (rest := []) (n := 1) hx hb hml hown hts hK hlo hG (g_frI d502 (fun lo => g_noX (m_X9_size l hfl dd cT lo C502 ba0 bx7 h)) lo) qM_L_197 qI_yX9_size qS_X9_yX9_size qN_X9 qC_yX9_size (by decide +kernel) ⟨Nat.le_of_ble_eq_true rfl, Nat.le_of_ble_eq_true rfl⟩ (by rfl) (g_ob_gj o502) rfl hl.1 rfl (Nat.le_of_ble_eq_true rfl) dL_blocks_502 y502 (fun v502x Gx H locs hKx hG => ?_)
        obtain ⟨D502, h, f502, rfl⟩ := hKx
        obtain ⟨G502, i502⟩ : ∃ g : gH, g = gj D502 R502 := ⟨_, rfl⟩
        rw [← i502] at hG
        replace h := h G502 f502 i502
        revert h
        generalize v502x = v502
        intro h
        refine lv_aload hx hb dL_blocks_505 (lv_at hl 4 rfl) ?_
        refine lv_iload hx hb dL_blocks_507 (lv_at hl 5 rfl) ?_
        obtain ⟨v509, e509, h⟩ := h
        refine g_iald hx hb hK hG e509 dL_blocks_509 ?_
        refine lv_icmp_eq (tgt := 515) hx hb dL_blocks_510 (by decide) (fun c510 => ?_) (fun c510 => ?_)
        · rw [if_pos c510] at h
          refine lv_iinc (v := (bx7 + (1 : Int32))) (lv' := [(7, .int (bx7 + (1 : Int32))), (0, .ref ba0), (1, .ref ba1), (2, .ref ba2), (5, .int bx5), (6, .ref ba6)]) hx hb dL_blocks_515 hl (k := 5) rfl rfl (by decide) rfl (fun ls hl => ?_)
          refine lv_goto (tgt := 492) hx hb dL_blocks_518 (by decide) ?_
          exact ih492 G502 (kc + 1) (ks + 6) ba0 ba1 ba2 bx5 ba6 (bx7 + (1 : Int32)) _ _ hG _ (lv_sub hl [1, 2, 3, 4, 5, 0] rfl) h
        · rw [if_neg c510] at h
          refine lv_iconst (v := (0 : Int32)) hx hb dL_blocks_513 (by decide) ?_
          obtain ⟨y1, y2, h⟩ := h
          refine W.widen (k := MC) (n := MS) y1 y2 ?_
          exact g_zret hx hb hr hlocks hK hlo hG rfl h dL_blocks_514
  have h470 : ∀ (G : gH) (kc ks : Nat) (ba0 : Nat) (ba1 : Nat) (ba2 : Nat) (bx5 : Int32) (z0 : Nat) (z1 : Nat) (z2 : Int32) (z3 : Int32) (H : Heap) (locs : List Loc), g_S lo dd cT s H locs G → ∀ ls : Array Slot, lv_has ls 9 [(0, .ref ba0), (1, .ref ba1), (2, .ref ba2), (5, .int bx5)] → w_L_blocks_J470 MC MS K G kc ks ba0 ba1 ba2 bx5 z0 z1 z2 z3 → W p l e (g_rm 9 204 MC MS) s m ([.ref a0, .ref a1] : List Value).toArray below meth c H locs kc ks (MQ below (va_Qi K (g_Pre lo dd cT) (g_A lo)) ([.ref a0, .ref a1] : List Value).toArray s MC MS (g_A lo)) (F0 m 470 ls [.int z3, .int z2, .ref z1, .ref z0]) := by
    intro G kc ks ba0 ba1 ba2 bx5 z0 z1 z2 z3 H locs hG ls hl h
    unfold w_L_blocks_J470 at h
    obtain ⟨G470, e470, h⟩ := h
    refine g_iast hx hb hK hG e470 dL_blocks_470 (fun H locs hG => ?_)
    refine lv_dup hx hb dL_blocks_471 rfl ?_
    refine lv_bipush (v := (10 : Int32)) hx hb dL_blocks_472 (by decide) ?_
    refine lv_aload_n hx hb dL_blocks_474 rfl (lv_at hl 1 rfl) ?_
    obtain ⟨v475, e475, h⟩ := h
    refine g_getiN hx hb hts inlX10 hown hK hG (by rfl) 6 (by decide) (List.mem_of_getElem? (i := 16) rfl) e475 dL_blocks_475 ?_
    refine lv_if_eq (tgt := 485) hx hb dL_blocks_478 (by decide) (fun c478 => ?_) (fun c478 => ?_)
    · rw [if_pos c478] at h
      refine lv_iconst (v := (0 : Int32)) hx hb dL_blocks_485 (by decide) ?_
      obtain ⟨G486, e486, h⟩ := h
      refine g_iast hx hb hK hG e486 dL_blocks_486 (fun H locs hG => ?_)
      refine lv_astore (lv' := [(6, .ref z0), (0, .ref ba0), (1, .ref ba1), (2, .ref ba2), (5, .int bx5)]) hx hb dL_blocks_487 hl (by decide) rfl (fun ls hl => ?_)
      refine lv_iconst (v := (0 : Int32)) hx hb dL_blocks_489 (by decide) ?_
      refine lv_istore (lv' := [(7, .int (0 : Int32)), (6, .ref z0), (0, .ref ba0), (1, .ref ba1), (2, .ref ba2), (5, .int bx5)]) hx hb dL_blocks_490 hl (by decide) rfl (fun ls hl => ?_)
      exact h492 g_N G486 kc ks ba0 ba1 ba2 bx5 z0 (0 : Int32) _ _ hG _ (lv_sub hl [2, 3, 4, 5, 1, 0] rfl) h
    · rw [if_neg c478] at h
      refine lv_iconst (v := (1 : Int32)) hx hb dL_blocks_481 (by decide) ?_
      refine lv_goto (tgt := 486) hx hb dL_blocks_482 (by decide) ?_
      obtain ⟨G486, e486, h⟩ := h
      refine g_iast hx hb hK hG e486 dL_blocks_486 (fun H locs hG => ?_)
      refine lv_astore (lv' := [(6, .ref z0), (0, .ref ba0), (1, .ref ba1), (2, .ref ba2), (5, .int bx5)]) hx hb dL_blocks_487 hl (by decide) rfl (fun ls hl => ?_)
      refine lv_iconst (v := (0 : Int32)) hx hb dL_blocks_489 (by decide) ?_
      refine lv_istore (lv' := [(7, .int (0 : Int32)), (6, .ref z0), (0, .ref ba0), (1, .ref ba1), (2, .ref ba2), (5, .int bx5)]) hx hb dL_blocks_490 hl (by decide) rfl (fun ls hl => ?_)
      exact h492 g_N G486 kc ks ba0 ba1 ba2 bx5 z0 (0 : Int32) _ _ hG _ (lv_sub hl [2, 3, 4, 5, 1, 0] rfl) h
  have h358 : ∀ n358 : Nat, ∀ (G : gH) (kc ks : Nat) (ba0 : Nat) (ba1 : Nat) (ba2 : Nat) (bx3 : Int32) (bx4 : Int32) (bx5 : Int32) (bx6 : Int32) (H : Heap) (locs : List Loc), g_S lo dd cT s H locs G → ∀ ls : Array Slot, lv_has ls 9 [(0, .ref ba0), (1, .ref ba1), (2, .ref ba2), (3, .int bx3), (4, .int bx4), (5, .int bx5), (6, .int bx6)] → w_L_blocks_L358 MC MS K n358 G kc ks ba0 ba1 ba2 bx3 bx4 bx5 bx6 → W p l e (g_rm 9 204 MC MS) s m ([.ref a0, .ref a1] : List Value).toArray below meth c H locs kc ks (MQ below (va_Qi K (g_Pre lo dd cT) (g_A lo)) ([.ref a0, .ref a1] : List Value).toArray s MC MS (g_A lo)) (F0 m 358 ls []) := by
    intro n358
    induction n358 with
    | zero =>
      intro G kc ks ba0 ba1 ba2 bx3 bx4 bx5 bx6 H locs hG ls hl h
      exact (show False from h).elim
    | succ n358 ih358 =>
      intro G kc ks ba0 ba1 ba2 bx3 bx4 bx5 bx6 H locs hG ls hl h
      rw [w_L_blocks_L358] at h
      refine lv_iload hx hb dL_blocks_358 (lv_at hl 6 rfl) ?_
      refine lv_iconst (v := (5 : Int32)) hx hb dL_blocks_360 (by decide) ?_
      refine lv_icmp_ge (tgt := 385) hx hb dL_blocks_361 (by decide) (fun c361 => ?_) (fun c361 => ?_)
      · rw [if_pos c361] at h
        refine lv_bipush (v := (11 : Int32)) hx hb dL_blocks_385 (by decide) ?_
        obtain ⟨y387, h⟩ := h
        refine g_newai (N := 11) hx hb hts hK hlo hG (by decide) (by decide) (Nat.le_of_ble_eq_true rfl) y387 dL_blocks_387 (fun q387 H z387 hG => ?_)
        obtain ⟨G387, i387⟩ : ∃ g : gH, g = va_up G q387 (some (.inl (0, 11, fun _ => 0))) := ⟨_, rfl⟩
        rw [← i387] at hG
        replace h := h q387 z387 G387 i387
        refine lv_dup hx hb dL_blocks_389 rfl ?_
        refine lv_iconst (v := (0 : Int32)) hx hb dL_blocks_390 (by decide) ?_
        refine lv_aload_n hx hb dL_blocks_391 rfl (lv_at hl 1 rfl) ?_
        obtain ⟨v392, e392, h⟩ := h
        refine g_getiN hx hb hts inlX10 hown hK hG (by rfl) 0 (by decide) (List.mem_of_getElem? (i := 0) rfl) e392 dL_blocks_392 ?_
        obtain ⟨G395, e395, h⟩ := h
        refine g_iast hx hb hK hG e395 dL_blocks_395 (fun H locs hG => ?_)
        refine lv_dup hx hb dL_blocks_396 rfl ?_
        refine lv_iconst (v := (1 : Int32)) hx hb dL_blocks_397 (by decide) ?_
        refine lv_aload_n hx hb dL_blocks_398 rfl (lv_at hl 1 rfl) ?_
        obtain ⟨v399, e399, h⟩ := h
        refine g_getiN hx hb hts inlX10 hown hK hG (by rfl) 1 (by decide) (List.mem_of_getElem? (i := 1) rfl) e399 dL_blocks_399 ?_
        obtain ⟨G402, e402, h⟩ := h
        refine g_iast hx hb hK hG e402 dL_blocks_402 (fun H locs hG => ?_)
        refine lv_dup hx hb dL_blocks_403 rfl ?_
        refine lv_iconst (v := (2 : Int32)) hx hb dL_blocks_404 (by decide) ?_
        refine lv_aload_n hx hb dL_blocks_405 rfl (lv_at hl 1 rfl) ?_
        obtain ⟨v406, e406, h⟩ := h
        refine g_getiN hx hb hts inlX10 hown hK hG (by rfl) 2 (by decide) (List.mem_of_getElem? (i := 2) rfl) e406 dL_blocks_406 ?_
        obtain ⟨G409, e409, h⟩ := h
        refine g_iast hx hb hK hG e409 dL_blocks_409 (fun H locs hG => ?_)
        refine lv_dup hx hb dL_blocks_410 rfl ?_
        refine lv_iconst (v := (3 : Int32)) hx hb dL_blocks_411 (by decide) ?_
        refine lv_aload_n hx hb dL_blocks_412 rfl (lv_at hl 1 rfl) ?_
        obtain ⟨v413, e413, h⟩ := h
        refine g_getiN hx hb hts inlX10 hown hK hG (by rfl) 4 (by decide) (List.mem_of_getElem? (i := 14) rfl) e413 dL_blocks_413 ?_
        obtain ⟨G416, e416, h⟩ := h
        refine g_iast hx hb hK hG e416 dL_blocks_416 (fun H locs hG => ?_)
        refine lv_dup hx hb dL_blocks_417 rfl ?_
        refine lv_iconst (v := (4 : Int32)) hx hb dL_blocks_418 (by decide) ?_
        refine lv_aload_n hx hb dL_blocks_419 rfl (lv_at hl 1 rfl) ?_
        obtain ⟨v420, e420, h⟩ := h
        refine g_getiN hx hb hts inlX10 hown hK hG (by rfl) 3 (by decide) (List.mem_of_getElem? (i := 15) rfl) e420 dL_blocks_420 ?_
        obtain ⟨G423, e423, h⟩ := h
        refine g_iast hx hb hK hG e423 dL_blocks_423 (fun H locs hG => ?_)
        refine lv_dup hx hb dL_blocks_424 rfl ?_
        refine lv_iconst (v := (5 : Int32)) hx hb dL_blocks_425 (by decide) ?_
        refine lv_iload hx hb dL_blocks_426 (lv_at hl 4 rfl) ?_
        obtain ⟨G428, e428, h⟩ := h
        refine g_iast hx hb hK hG e428 dL_blocks_428 (fun H locs hG => ?_)
        refine lv_dup hx hb dL_blocks_429 rfl ?_
        refine lv_bipush (v := (6 : Int32)) hx hb dL_blocks_430 (by decide) ?_
        refine lv_iload_n hx hb dL_blocks_432 rfl (lv_at hl 3 rfl) ?_
        obtain ⟨G433, e433, h⟩ := h
        refine g_iast hx hb hK hG e433 dL_blocks_433 (fun H locs hG => ?_)
        refine lv_dup hx hb dL_blocks_434 rfl ?_
        refine lv_bipush (v := (7 : Int32)) hx hb dL_blocks_435 (by decide) ?_
        refine lv_aload_n hx hb dL_blocks_437 rfl (lv_at hl 1 rfl) ?_
        refine lv_bipush (v := (12 : Int32)) hx hb dL_blocks_438 (by decide) ?_
        obtain ⟨C440, R440, d440, g440, h⟩ := h
        obtain ⟨u440, o440, h⟩ := h
        obtain ⟨y440, h⟩ := h
        obtain ⟨v440, e440, h⟩ := h
        rw [g440] at hG
        refine g_wVi (As := [.int (12 : Int32)]) (rest := [.int (7 : Int32), .ref q387, .ref q387]) (n := 1) hx hb hml hown hts hK hlo hG (g_frI d440 (fun lo => m_X10_there l dd cT lo C440 ba1 (12 : Int32) e440) lo) qM_L_178 qI_yX10_there qS_X10_yX10_there qN_X10 qC_yX10_there (by decide +kernel) ⟨Nat.le_of_ble_eq_true rfl, Nat.le_of_ble_eq_true rfl⟩ (by rfl) (g_ob_gj o440) rfl hl.1 rfl (Nat.le_of_ble_eq_true rfl) dL_blocks_440 y440 (fun v440x Gx H locs hKx hG => ?_)
        obtain ⟨D440, ⟨k440a, k440⟩, f440, l440⟩ := hKx
        rw [l440, k440] at hG
        rw [k440] at f440
        rw [k440a]
        rw [← g440] at hG
        obtain ⟨G443, e443, h⟩ := h
        refine g_iast hx hb hK hG e443 dL_blocks_443 (fun H locs hG => ?_)
        refine lv_dup hx hb dL_blocks_444 rfl ?_
        refine lv_bipush (v := (8 : Int32)) hx hb dL_blocks_445 (by decide) ?_
        refine lv_aload_n hx hb dL_blocks_447 rfl (lv_at hl 1 rfl) ?_
        obtain ⟨C448, R448, d448, g448, h⟩ := h
        obtain ⟨u448, o448, h⟩ := h
        obtain ⟨y448, h⟩ := h
        obtain ⟨v448, e448, h⟩ := h
        rw [g448] at hG
        refine g_wVi (As := []) (rest := [.int (8 : Int32), .ref q387, .ref q387]) (n := 0) hx hb hml hown hts hK hlo hG (g_frI d448 (fun lo => m_X10_good l dd cT lo C448 ba1 e448) lo) qM_L_181 qI_yX10_good qS_X10_yX10_good qN_X10 qC_yX10_good (by decide +kernel) ⟨Nat.le_of_ble_eq_true rfl, Nat.le_of_ble_eq_true rfl⟩ (by rfl) (g_ob_gj o448) rfl hl.1 rfl (Nat.le_of_ble_eq_true rfl) dL_blocks_448 y448 (fun v448x Gx H locs hKx hG => ?_)
        obtain ⟨D448, ⟨k448a, k448⟩, f448, l448⟩ := hKx
        rw [l448, k448] at hG
        rw [k448] at f448
        rw [k448a]
        rw [← g448] at hG
        obtain ⟨C451, R451, d451, g451, h⟩ := h
        obtain ⟨y451, h⟩ := h
        obtain ⟨v451, e451, h⟩ := h
        rw [g451] at hG
        refine g_wAi (As := [.int v448]) (rest := [.int (8 : Int32), .ref q387, .ref q387]) (n := 1) hx hb hml hown hts hK hlo hG (g_frI d451 (fun lo => m_J6_bitCount_0f7a4 l dd cT lo C451 v448 e451) lo) qM_L_184 qT_yJ6_bitCount_0f7a4 qN_J6 qC_yJ6_bitCount_0f7a4 (by decide +kernel) ⟨Nat.le_of_ble_eq_true rfl, Nat.le_of_ble_eq_true rfl⟩ rfl hl.1 rfl (Nat.le_of_ble_eq_true rfl) dL_blocks_451 y451 (fun v451x Gx H locs hKx hG => ?_)
        obtain ⟨D451, ⟨k451a, k451⟩, f451, l451⟩ := hKx
        rw [l451, k451] at hG
        rw [k451] at f451
        rw [k451a]
        rw [← g451] at hG
        obtain ⟨G454, e454, h⟩ := h
        refine g_iast hx hb hK hG e454 dL_blocks_454 (fun H locs hG => ?_)
        refine lv_dup hx hb dL_blocks_455 rfl ?_
        refine lv_bipush (v := (9 : Int32)) hx hb dL_blocks_456 (by decide) ?_
        refine lv_aload_n hx hb dL_blocks_458 rfl (lv_at hl 1 rfl) ?_
        obtain ⟨C459, R459, d459, g459, h⟩ := h
        obtain ⟨u459, o459, h⟩ := h
        obtain ⟨y459, h⟩ := h
        obtain ⟨v459, e459, h⟩ := h
        rw [g459] at hG
        refine g_wVq (As := []) (rest := [.int (9 : Int32), .ref q387, .ref q387]) (n := 0) hx hb hml hown hts hK hlo hG (g_frQ d459 (fun lo => m_X10_open l dd cT lo C459 ba1 e459) lo) qM_L_189 qI_yX10_open qS_X10_yX10_open qN_X10 qC_yX10_open (by decide +kernel) ⟨Nat.le_of_ble_eq_true rfl, Nat.le_of_ble_eq_true rfl⟩ (by rfl) (g_ob_gj o459) rfl hl.1 rfl (Nat.le_of_ble_eq_true rfl) dL_blocks_459 y459 (fun v459x Gx H locs hKx hG => ?_)
        obtain ⟨D459, ⟨k459a, k459⟩, f459, l459⟩ := hKx
        rw [l459, k459] at hG
        rw [k459] at f459
        rw [k459a]
        rw [← g459] at hG
        rcases v459 with _ | r459
        · replace h := h.1 rfl
          refine lv_ifnonnullN hx hb dL_blocks_462 ?_
          refine lv_iconst (v := (0 : Int32)) hx hb dL_blocks_465 (by decide) ?_
          refine lv_goto (tgt := 470) hx hb dL_blocks_466 (by decide) ?_
          exact h470 G454 (kc + 1) (ks + 11) ba0 ba1 ba2 bx5 q387 q387 (9 : Int32) (0 : Int32) _ _ hG _ (lv_sub hl [0, 1, 2, 5] rfl) h
        · replace h := h.2 r459 rfl
          refine lv_ifnonnull (tgt := 469) hx hb dL_blocks_462 (by decide) ?_
          refine lv_iconst (v := (1 : Int32)) hx hb dL_blocks_469 (by decide) ?_
          exact h470 G454 (kc + 1) (ks + 11) ba0 ba1 ba2 bx5 q387 q387 (9 : Int32) (1 : Int32) _ _ hG _ (lv_sub hl [0, 1, 2, 5] rfl) h
      · rw [if_neg c361] at h
        refine lv_aload_n hx hb dL_blocks_364 rfl (lv_at hl 0 rfl) ?_
        refine lv_iload hx hb dL_blocks_365 (lv_at hl 6 rfl) ?_
        obtain ⟨C367, R367, d367, g367, h⟩ := h
        obtain ⟨u367, o367, h⟩ := h
        obtain ⟨y367, h⟩ := h
        rw [g367] at hG
        refine g_wVi (As := [.int bx6]) (rest := []) (n := 1) hx hb hml hown hts hK hlo hG (g_frI d367 (fun lo => g_noX (m_X9_space l hfl dd cT lo C367 ba0 bx6 h)) lo) qM_L_170 qI_yX9_space qS_X9_yX9_space qN_X9 qC_yX9_space (by decide +kernel) ⟨Nat.le_of_ble_eq_true rfl, Nat.le_of_ble_eq_true rfl⟩ (by rfl) (g_ob_gj o367) rfl hl.1 rfl (Nat.le_of_ble_eq_true rfl) dL_blocks_367 y367 (fun v367x Gx H locs hKx hG => ?_)
        obtain ⟨D367, h, f367, rfl⟩ := hKx
        obtain ⟨G367, i367⟩ : ∃ g : gH, g = gj D367 R367 := ⟨_, rfl⟩
        rw [← i367] at hG
        replace h := h G367 f367 i367
        revert h
        generalize v367x = v367
        intro h
        refine lv_aload_n hx hb dL_blocks_370 rfl (lv_at hl 2 rfl) ?_
        refine lv_iload hx hb dL_blocks_371 (lv_at hl 6 rfl) ?_
        obtain ⟨v373, e373, h⟩ := h
        refine g_iald hx hb hK hG e373 dL_blocks_373 ?_
        refine lv_icmp_eq (tgt := 379) hx hb dL_blocks_374 (by decide) (fun c374 => ?_) (fun c374 => ?_)
        · rw [if_pos c374] at h
          refine lv_iinc (v := (bx6 + (1 : Int32))) (lv' := [(6, .int (bx6 + (1 : Int32))), (0, .ref ba0), (1, .ref ba1), (2, .ref ba2), (3, .int bx3), (4, .int bx4), (5, .int bx5)]) hx hb dL_blocks_379 hl (k := 6) rfl rfl (by decide) rfl (fun ls hl => ?_)
          refine lv_goto (tgt := 358) hx hb dL_blocks_382 (by decide) ?_
          exact ih358 G367 (kc + 1) (ks + 6) ba0 ba1 ba2 bx3 bx4 bx5 (bx6 + (1 : Int32)) _ _ hG _ (lv_sub hl [1, 2, 3, 4, 5, 6, 0] rfl) h
        · rw [if_neg c374] at h
          refine lv_iconst (v := (0 : Int32)) hx hb dL_blocks_377 (by decide) ?_
          obtain ⟨y1, y2, h⟩ := h
          refine W.widen (k := MC) (n := MS) y1 y2 ?_
          exact g_zret hx hb hr hlocks hK hlo hG rfl h dL_blocks_378
  have h15 : ∀ n15 : Nat, ∀ (G : gH) (kc ks : Nat) (ba0 : Nat) (ba1 : Nat) (ba2 : Nat) (bx3 : Int32) (bx4 : Int32) (bx5 : Int32) (bx6 : Int32) (H : Heap) (locs : List Loc), g_S lo dd cT s H locs G → ∀ ls : Array Slot, lv_has ls 9 [(0, .ref ba0), (1, .ref ba1), (2, .ref ba2), (3, .int bx3), (4, .int bx4), (5, .int bx5), (6, .int bx6)] → w_L_blocks_L15 MC MS K n15 G kc ks ba0 ba1 ba2 bx3 bx4 bx5 bx6 → W p l e (g_rm 9 204 MC MS) s m ([.ref a0, .ref a1] : List Value).toArray below meth c H locs kc ks (MQ below (va_Qi K (g_Pre lo dd cT) (g_A lo)) ([.ref a0, .ref a1] : List Value).toArray s MC MS (g_A lo)) (F0 m 15 ls []) := by
    intro n15
    induction n15 with
    | zero =>
      intro G kc ks ba0 ba1 ba2 bx3 bx4 bx5 bx6 H locs hG ls hl h
      exact (show False from h).elim
    | succ n15 ih15 =>
      have h278 : ∀ (G : gH) (kc ks : Nat) (ba0 : Nat) (ba1 : Nat) (ba2 : Nat) (bx3 : Int32) (bx4 : Int32) (bx5 : Int32) (bx6 : Int32) (z0 : Int32) (z1 : Int32) (H : Heap) (locs : List Loc), g_S lo dd cT s H locs G → ∀ ls : Array Slot, lv_has ls 9 [(0, .ref ba0), (1, .ref ba1), (2, .ref ba2), (3, .int bx3), (4, .int bx4), (5, .int bx5), (6, .int bx6)] → w_L_blocks_J278 MC MS K (w_L_blocks_L15 MC MS K n15) G kc ks ba0 ba1 ba2 bx3 bx4 bx5 bx6 z0 z1 → W p l e (g_rm 9 204 MC MS) s m ([.ref a0, .ref a1] : List Value).toArray below meth c H locs kc ks (MQ below (va_Qi K (g_Pre lo dd cT) (g_A lo)) ([.ref a0, .ref a1] : List Value).toArray s MC MS (g_A lo)) (F0 m 278 ls [.int z1, .int z0]) := by
        intro G kc ks ba0 ba1 ba2 bx3 bx4 bx5 bx6 z0 z1 H locs hG ls hl h
        unfold w_L_blocks_J278 at h
        refine lv_icmp_eq (tgt := 283) hx hb dL_blocks_278 (by decide) (fun c278 => ?_) (fun c278 => ?_)
        · rw [if_pos c278] at h
          refine lv_aload_n hx hb dL_blocks_283 rfl (lv_at hl 1 rfl) ?_
          obtain ⟨v284, e284, h⟩ := h
          refine g_getrN hx hb hts inlX10 hown hK hG (by rfl) 11 (by decide) (List.mem_of_getElem? (i := 11) rfl) e284 dL_blocks_284 ?_
          refine lv_iload hx hb dL_blocks_287 (lv_at hl 6 rfl) ?_
          obtain ⟨v289, e289, h⟩ := h
          refine g_iald hx hb hK hG e289 dL_blocks_289 ?_
          refine lv_if_lt (tgt := 349) hx hb dL_blocks_290 (by decide) (fun c290 => ?_) (fun c290 => ?_)
          · rw [if_pos c290] at h
            refine lv_iinc (v := (bx6 + (1 : Int32))) (lv' := [(6, .int (bx6 + (1 : Int32))), (0, .ref ba0), (1, .ref ba1), (2, .ref ba2), (3, .int bx3), (4, .int bx4), (5, .int bx5)]) hx hb dL_blocks_349 hl (k := 6) rfl rfl (by decide) rfl (fun ls hl => ?_)
            refine lv_goto (tgt := 15) hx hb dL_blocks_352 (by decide) ?_
            exact ih15 G kc ks ba0 ba1 ba2 bx3 bx4 bx5 (bx6 + (1 : Int32)) _ _ hG _ (lv_sub hl [1, 2, 3, 4, 5, 6, 0] rfl) h
          · rw [if_neg c290] at h
            refine lv_aload_n hx hb dL_blocks_293 rfl (lv_at hl 1 rfl) ?_
            obtain ⟨v294, e294, h⟩ := h
            refine g_getrN hx hb hts inlX10 hown hK hG (by rfl) 16 (by decide) (List.mem_of_getElem? (i := 12) rfl) e294 dL_blocks_294 ?_
            refine lv_aload_n hx hb dL_blocks_297 rfl (lv_at hl 1 rfl) ?_
            obtain ⟨v298, e298, h⟩ := h
            refine g_getrN hx hb hts inlX10 hown hK hG (by rfl) 8 (by decide) (List.mem_of_getElem? (i := 6) rfl) e298 dL_blocks_298 ?_
            refine lv_iload hx hb dL_blocks_301 (lv_at hl 6 rfl) ?_
            obtain ⟨v303, e303, h⟩ := h
            refine g_iald hx hb hK hG e303 dL_blocks_303 ?_
            obtain ⟨v304, e304, h⟩ := h
            refine g_rald_row hx hb hK hG (t := 5) rfl e304 dL_blocks_304 ?_
            rcases v304 with _ | r304
            · replace h := h.1 rfl
              exact (show False from h).elim
            · replace h := h.2 r304 rfl
              obtain ⟨v305, e305, h⟩ := h
              refine g_getiN hx hb hts inlX12 hown hK hG (by rfl) 0 (by decide) (List.mem_of_getElem? (i := 13) rfl) e305 dL_blocks_305 ?_
              refine lv_iconst (v := (2 : Int32)) hx hb dL_blocks_308 (by decide) ?_
              refine lv_icmp_ne (tgt := 315) hx hb dL_blocks_309 (by decide) (fun c309 => ?_) (fun c309 => ?_)
              · rw [if_neg c309] at h
                refine lv_aload_n hx hb dL_blocks_315 rfl (lv_at hl 0 rfl) ?_
                refine lv_iload hx hb dL_blocks_316 (lv_at hl 5 rfl) ?_
                refine lv_iconst (v := (0 : Int32)) hx hb dL_blocks_318 (by decide) ?_
                obtain ⟨C319, R319, d319, g319, h⟩ := h
                obtain ⟨u319, o319, h⟩ := h
                obtain ⟨y319, h⟩ := h
                obtain ⟨v319, e319, h⟩ := h
                rw [g319] at hG
                refine g_wVi (As := [.int bx5, .int (0 : Int32)]) (rest := []) (n := 2) hx hb hml hown hts hK hlo hG (g_frI d319 (fun lo => m_X9_defect l dd cT lo C319 ba0 bx5 (0 : Int32) e319) lo) qM_L_166 qI_yX9_defect qS_X9_yX9_defect qN_X9 qC_yX9_defect (by decide +kernel) ⟨Nat.le_of_ble_eq_true rfl, Nat.le_of_ble_eq_true rfl⟩ (by rfl) (g_ob_gj o319) rfl hl.1 rfl (Nat.le_of_ble_eq_true rfl) dL_blocks_319 y319 (fun v319x Gx H locs hKx hG => ?_)
                obtain ⟨D319, ⟨k319a, k319⟩, f319, l319⟩ := hKx
                rw [l319, k319] at hG
                rw [k319] at f319
                rw [k319a]
                rw [← g319] at hG
                refine lv_iload hx hb dL_blocks_322 (lv_at hl 6 rfl) ?_
                refine lv_icmp_ne (tgt := 344) hx hb dL_blocks_324 (by decide) (fun c324 => ?_) (fun c324 => ?_)
                · rw [if_neg c324] at h
                  refine lv_iconst (v := (0 : Int32)) hx hb dL_blocks_344 (by decide) ?_
                  obtain ⟨y1, y2, h⟩ := h
                  refine W.widen (k := MC) (n := MS) y1 y2 ?_
                  exact g_zret hx hb hr hlocks hK hlo hG rfl h dL_blocks_345
                · rw [if_pos c324] at h
                  refine lv_aload_n hx hb dL_blocks_327 rfl (lv_at hl 0 rfl) ?_
                  refine lv_iload hx hb dL_blocks_328 (lv_at hl 5 rfl) ?_
                  refine lv_iconst (v := (1 : Int32)) hx hb dL_blocks_330 (by decide) ?_
                  obtain ⟨C331, R331, d331, g331, h⟩ := h
                  obtain ⟨u331, o331, h⟩ := h
                  obtain ⟨y331, h⟩ := h
                  obtain ⟨v331, e331, h⟩ := h
                  rw [g331] at hG
                  refine g_wVi (As := [.int bx5, .int (1 : Int32)]) (rest := []) (n := 2) hx hb hml hown hts hK hlo hG (g_frI d331 (fun lo => m_X9_defect l dd cT lo C331 ba0 bx5 (1 : Int32) e331) lo) qM_L_166 qI_yX9_defect qS_X9_yX9_defect qN_X9 qC_yX9_defect (by decide +kernel) ⟨Nat.le_of_ble_eq_true rfl, Nat.le_of_ble_eq_true rfl⟩ (by rfl) (g_ob_gj o331) rfl hl.1 rfl (Nat.le_of_ble_eq_true rfl) dL_blocks_331 y331 (fun v331x Gx H locs hKx hG => ?_)
                  obtain ⟨D331, ⟨k331a, k331⟩, f331, l331⟩ := hKx
                  rw [l331, k331] at hG
                  rw [k331] at f331
                  rw [k331a]
                  rw [← g331] at hG
                  refine lv_aload_n hx hb dL_blocks_334 rfl (lv_at hl 1 rfl) ?_
                  obtain ⟨v335, e335, h⟩ := h
                  refine g_getrN hx hb hts inlX10 hown hK hG (by rfl) 11 (by decide) (List.mem_of_getElem? (i := 11) rfl) e335 dL_blocks_335 ?_
                  refine lv_iload hx hb dL_blocks_338 (lv_at hl 6 rfl) ?_
                  obtain ⟨v340, e340, h⟩ := h
                  refine g_iald hx hb hK hG e340 dL_blocks_340 ?_
                  refine lv_icmp_eq (tgt := 346) hx hb dL_blocks_341 (by decide) (fun c341 => ?_) (fun c341 => ?_)
                  · rw [if_pos c341] at h
                    refine lv_iinc (v := (bx5 + (1 : Int32))) (lv' := [(5, .int (bx5 + (1 : Int32))), (0, .ref ba0), (1, .ref ba1), (2, .ref ba2), (3, .int bx3), (4, .int bx4), (6, .int bx6)]) hx hb dL_blocks_346 hl (k := 5) rfl rfl (by decide) rfl (fun ls hl => ?_)
                    refine lv_iinc (v := (bx6 + (1 : Int32))) (lv' := [(6, .int (bx6 + (1 : Int32))), (5, .int (bx5 + (1 : Int32))), (0, .ref ba0), (1, .ref ba1), (2, .ref ba2), (3, .int bx3), (4, .int bx4)]) hx hb dL_blocks_349 hl (k := 6) rfl rfl (by decide) rfl (fun ls hl => ?_)
                    refine lv_goto (tgt := 15) hx hb dL_blocks_352 (by decide) ?_
                    exact ih15 G kc ks ba0 ba1 ba2 bx3 bx4 (bx5 + (1 : Int32)) (bx6 + (1 : Int32)) _ _ hG _ (lv_sub hl [2, 3, 4, 5, 6, 1, 0] rfl) h
                  · rw [if_neg c341] at h
                    refine lv_iconst (v := (0 : Int32)) hx hb dL_blocks_344 (by decide) ?_
                    obtain ⟨y1, y2, h⟩ := h
                    refine W.widen (k := MC) (n := MS) y1 y2 ?_
                    exact g_zret hx hb hr hlocks hK hlo hG rfl h dL_blocks_345
              · rw [if_pos c309] at h
                refine lv_goto (tgt := 349) hx hb dL_blocks_312 (by decide) ?_
                refine lv_iinc (v := (bx6 + (1 : Int32))) (lv' := [(6, .int (bx6 + (1 : Int32))), (0, .ref ba0), (1, .ref ba1), (2, .ref ba2), (3, .int bx3), (4, .int bx4), (5, .int bx5)]) hx hb dL_blocks_349 hl (k := 6) rfl rfl (by decide) rfl (fun ls hl => ?_)
                refine lv_goto (tgt := 15) hx hb dL_blocks_352 (by decide) ?_
                exact ih15 G kc ks ba0 ba1 ba2 bx3 bx4 bx5 (bx6 + (1 : Int32)) _ _ hG _ (lv_sub hl [1, 2, 3, 4, 5, 6, 0] rfl) h
        · rw [if_neg c278] at h
          refine lv_iconst (v := (0 : Int32)) hx hb dL_blocks_281 (by decide) ?_
          obtain ⟨y1, y2, h⟩ := h
          refine W.widen (k := MC) (n := MS) y1 y2 ?_
          exact g_zret hx hb hr hlocks hK hlo hG rfl h dL_blocks_282
      have h196 : ∀ n196 : Nat, ∀ (G : gH) (kc ks : Nat) (ba0 : Nat) (ba1 : Nat) (ba2 : Nat) (bx3 : Int32) (bx4 : Int32) (bx5 : Int32) (bx6 : Int32) (ba7 : Nat) (bx8 : Int32) (H : Heap) (locs : List Loc), g_S lo dd cT s H locs G → ∀ ls : Array Slot, lv_has ls 9 [(0, .ref ba0), (1, .ref ba1), (2, .ref ba2), (3, .int bx3), (4, .int bx4), (5, .int bx5), (6, .int bx6), (7, .ref ba7), (8, .int bx8)] → w_L_blocks_L196 MC MS K (w_L_blocks_L15 MC MS K n15) n196 G kc ks ba0 ba1 ba2 bx3 bx4 bx5 bx6 ba7 bx8 → W p l e (g_rm 9 204 MC MS) s m ([.ref a0, .ref a1] : List Value).toArray below meth c H locs kc ks (MQ below (va_Qi K (g_Pre lo dd cT) (g_A lo)) ([.ref a0, .ref a1] : List Value).toArray s MC MS (g_A lo)) (F0 m 196 ls []) := by
        intro n196
        induction n196 with
        | zero =>
          intro G kc ks ba0 ba1 ba2 bx3 bx4 bx5 bx6 ba7 bx8 H locs hG ls hl h
          exact (show False from h).elim
        | succ n196 ih196 =>
          intro G kc ks ba0 ba1 ba2 bx3 bx4 bx5 bx6 ba7 bx8 H locs hG ls hl h
          rw [w_L_blocks_L196] at h
          refine lv_iload hx hb dL_blocks_196 (lv_at hl 8 rfl) ?_
          refine lv_bipush (v := (7 : Int32)) hx hb dL_blocks_198 (by decide) ?_
          refine lv_icmp_ge (tgt := 227) hx hb dL_blocks_200 (by decide) (fun c200 => ?_) (fun c200 => ?_)
          · rw [if_pos c200] at h
            refine lv_aload_n hx hb dL_blocks_227 rfl (lv_at hl 0 rfl) ?_
            refine lv_iload hx hb dL_blocks_228 (lv_at hl 6 rfl) ?_
            obtain ⟨C230, R230, d230, g230, h⟩ := h
            obtain ⟨u230, o230, h⟩ := h
            obtain ⟨y230, h⟩ := h
            rw [g230] at hG
            refine g_wVi (As := [.int bx6]) (rest := []) (n := 1) hx hb hml hown hts hK hlo hG (g_frI d230 (fun lo => g_noX (m_X9_place l hfl dd cT lo C230 ba0 bx6 h)) lo) qM_L_151 qI_yX9_place qS_X9_yX9_place qN_X9 qC_yX9_place (by decide +kernel) ⟨Nat.le_of_ble_eq_true rfl, Nat.le_of_ble_eq_true rfl⟩ (by rfl) (g_ob_gj o230) rfl hl.1 rfl (Nat.le_of_ble_eq_true rfl) dL_blocks_230 y230 (fun v230x Gx H locs hKx hG => ?_)
            obtain ⟨D230, h, f230, rfl⟩ := hKx
            obtain ⟨G230, i230⟩ : ∃ g : gH, g = gj D230 R230 := ⟨_, rfl⟩
            rw [← i230] at hG
            replace h := h G230 f230 i230
            revert h
            generalize v230x = v230
            intro h
            refine lv_iload hx hb dL_blocks_233 (lv_at hl 6 rfl) ?_
            refine lv_aload_n hx hb dL_blocks_235 rfl (lv_at hl 1 rfl) ?_
            obtain ⟨C236, R236, d236, g236, h⟩ := h
            obtain ⟨u236, o236, h⟩ := h
            obtain ⟨y236, h⟩ := h
            obtain ⟨v236, e236, h⟩ := h
            rw [g236] at hG
            refine g_wVi (As := []) (rest := [.int bx6, .int v230]) (n := 0) hx hb hml hown hts hK hlo hG (g_frI d236 (fun lo => m_X10_main l dd cT lo C236 ba1 e236) lo) qM_L_121 qI_yX10_main qS_X10_yX10_main qN_X10 qC_yX10_main (by decide +kernel) ⟨Nat.le_of_ble_eq_true rfl, Nat.le_of_ble_eq_true rfl⟩ (by rfl) (g_ob_gj o236) rfl hl.1 rfl (Nat.le_of_ble_eq_true rfl) dL_blocks_236 y236 (fun v236x Gx H locs hKx hG => ?_)
            obtain ⟨D236, ⟨k236a, k236⟩, f236, l236⟩ := hKx
            rw [l236, k236] at hG
            rw [k236] at f236
            rw [k236a]
            rw [← g236] at hG
            refine lv_icmp_ge (tgt := 252) hx hb dL_blocks_239 (by decide) (fun c239 => ?_) (fun c239 => ?_)
            · rw [if_pos c239] at h
              refine lv_iconst (v := (-1 : Int32)) hx hb dL_blocks_252 (by decide) ?_
              refine lv_goto (tgt := 278) hx hb dL_blocks_253 (by decide) ?_
              exact h278 G230 (kc + 1) (ks + 6) ba0 ba1 ba2 bx3 bx4 bx5 bx6 v230 (-1 : Int32) _ _ hG _ (lv_sub hl [0, 1, 2, 3, 4, 5, 6] rfl) h
            · rw [if_neg c239] at h
              refine lv_aload_n hx hb dL_blocks_242 rfl (lv_at hl 1 rfl) ?_
              obtain ⟨v243, e243, h⟩ := h
              refine g_getrN hx hb hts inlX10 hown hK hG (by rfl) 7 (by decide) (List.mem_of_getElem? (i := 4) rfl) e243 dL_blocks_243 ?_
              refine lv_iload hx hb dL_blocks_246 (lv_at hl 6 rfl) ?_
              obtain ⟨v248, e248, h⟩ := h
              refine g_iald hx hb hK hG e248 dL_blocks_248 ?_
              refine lv_if_ne (tgt := 256) hx hb dL_blocks_249 (by decide) (fun c249 => ?_) (fun c249 => ?_)
              · rw [if_neg c249] at h
                refine lv_aload_n hx hb dL_blocks_256 rfl (lv_at hl 1 rfl) ?_
                obtain ⟨v257, e257, h⟩ := h
                refine g_getrN hx hb hts inlX10 hown hK hG (by rfl) 11 (by decide) (List.mem_of_getElem? (i := 11) rfl) e257 dL_blocks_257 ?_
                refine lv_iload hx hb dL_blocks_260 (lv_at hl 6 rfl) ?_
                obtain ⟨v262, e262, h⟩ := h
                refine g_iald hx hb hK hG e262 dL_blocks_262 ?_
                refine lv_if_ge (tgt := 271) hx hb dL_blocks_263 (by decide) (fun c263 => ?_) (fun c263 => ?_)
                · rw [if_pos c263] at h
                  refine lv_aload_n hx hb dL_blocks_271 rfl (lv_at hl 1 rfl) ?_
                  obtain ⟨v272, e272, h⟩ := h
                  refine g_getrN hx hb hts inlX10 hown hK hG (by rfl) 11 (by decide) (List.mem_of_getElem? (i := 11) rfl) e272 dL_blocks_272 ?_
                  refine lv_iload hx hb dL_blocks_275 (lv_at hl 6 rfl) ?_
                  obtain ⟨v277, e277, h⟩ := h
                  refine g_iald hx hb hK hG e277 dL_blocks_277 ?_
                  exact h278 G230 (kc + 1) (ks + 6) ba0 ba1 ba2 bx3 bx4 bx5 bx6 v230 v277 _ _ hG _ (lv_sub hl [0, 1, 2, 3, 4, 5, 6] rfl) h
                · rw [if_neg c263] at h
                  refine lv_iload hx hb dL_blocks_266 (lv_at hl 6 rfl) ?_
                  refine lv_goto (tgt := 278) hx hb dL_blocks_268 (by decide) ?_
                  exact h278 G230 (kc + 1) (ks + 6) ba0 ba1 ba2 bx3 bx4 bx5 bx6 v230 bx6 _ _ hG _ (lv_sub hl [0, 1, 2, 3, 4, 5, 6] rfl) h
              · rw [if_pos c249] at h
                refine lv_iconst (v := (-1 : Int32)) hx hb dL_blocks_252 (by decide) ?_
                refine lv_goto (tgt := 278) hx hb dL_blocks_253 (by decide) ?_
                exact h278 G230 (kc + 1) (ks + 6) ba0 ba1 ba2 bx3 bx4 bx5 bx6 v230 (-1 : Int32) _ _ hG _ (lv_sub hl [0, 1, 2, 3, 4, 5, 6] rfl) h
          · rw [if_neg c200] at h
            refine lv_aload_n hx hb dL_blocks_203 rfl (lv_at hl 0 rfl) ?_
            refine lv_iload hx hb dL_blocks_204 (lv_at hl 6 rfl) ?_
            refine lv_iload hx hb dL_blocks_206 (lv_at hl 8 rfl) ?_
            obtain ⟨C208, R208, d208, g208, h⟩ := h
            obtain ⟨u208, o208, h⟩ := h
            obtain ⟨y208, h⟩ := h
            rw [g208] at hG
            refine g_wVi (As := [.int bx6, .int bx8]) (rest := []) (n := 2) hx hb hml hown hts hK hlo hG (g_frI d208 (fun lo => g_noX (m_X9_block l hfl dd cT lo C208 ba0 bx6 bx8 h)) lo) qM_L_148 qI_yX9_block qS_X9_yX9_block qN_X9 qC_yX9_block (by decide +kernel) ⟨Nat.le_of_ble_eq_true rfl, Nat.le_of_ble_eq_true rfl⟩ (by rfl) (g_ob_gj o208) rfl hl.1 rfl (Nat.le_of_ble_eq_true rfl) dL_blocks_208 y208 (fun v208x Gx H locs hKx hG => ?_)
            obtain ⟨D208, h, f208, rfl⟩ := hKx
            obtain ⟨G208, i208⟩ : ∃ g : gH, g = gj D208 R208 := ⟨_, rfl⟩
            rw [← i208] at hG
            replace h := h G208 f208 i208
            revert h
            generalize v208x = v208
            intro h
            refine lv_aload hx hb dL_blocks_211 (lv_at hl 7 rfl) ?_
            refine lv_iload hx hb dL_blocks_213 (lv_at hl 8 rfl) ?_
            obtain ⟨v215, e215, h⟩ := h
            refine g_iald hx hb hK hG e215 dL_blocks_215 ?_
            refine lv_icmp_eq (tgt := 221) hx hb dL_blocks_216 (by decide) (fun c216 => ?_) (fun c216 => ?_)
            · rw [if_pos c216] at h
              refine lv_iinc (v := (bx8 + (1 : Int32))) (lv' := [(8, .int (bx8 + (1 : Int32))), (0, .ref ba0), (1, .ref ba1), (2, .ref ba2), (3, .int bx3), (4, .int bx4), (5, .int bx5), (6, .int bx6), (7, .ref ba7)]) hx hb dL_blocks_221 hl (k := 8) rfl rfl (by decide) rfl (fun ls hl => ?_)
              refine lv_goto (tgt := 196) hx hb dL_blocks_224 (by decide) ?_
              exact ih196 G208 (kc + 2) (ks + 12) ba0 ba1 ba2 bx3 bx4 bx5 bx6 ba7 (bx8 + (1 : Int32)) _ _ hG _ (lv_sub hl [1, 2, 3, 4, 5, 6, 7, 8, 0] rfl) h
            · rw [if_neg c216] at h
              refine lv_iconst (v := (0 : Int32)) hx hb dL_blocks_219 (by decide) ?_
              obtain ⟨y1, y2, h⟩ := h
              refine W.widen (k := MC) (n := MS) y1 y2 ?_
              exact g_zret hx hb hr hlocks hK hlo hG rfl h dL_blocks_220
      have h169 : ∀ (G : gH) (kc ks : Nat) (ba0 : Nat) (ba1 : Nat) (ba2 : Nat) (bx3 : Int32) (bx4 : Int32) (bx5 : Int32) (bx6 : Int32) (z0 : Nat) (z1 : Nat) (z2 : Int32) (z3 : Int32) (H : Heap) (locs : List Loc), g_S lo dd cT s H locs G → ∀ ls : Array Slot, lv_has ls 9 [(0, .ref ba0), (1, .ref ba1), (2, .ref ba2), (3, .int bx3), (4, .int bx4), (5, .int bx5), (6, .int bx6)] → w_L_blocks_J169 MC MS K (w_L_blocks_L15 MC MS K n15) G kc ks ba0 ba1 ba2 bx3 bx4 bx5 bx6 z0 z1 z2 z3 → W p l e (g_rm 9 204 MC MS) s m ([.ref a0, .ref a1] : List Value).toArray below meth c H locs kc ks (MQ below (va_Qi K (g_Pre lo dd cT) (g_A lo)) ([.ref a0, .ref a1] : List Value).toArray s MC MS (g_A lo)) (F0 m 169 ls [.int z3, .int z2, .ref z1, .ref z0]) := by
        intro G kc ks ba0 ba1 ba2 bx3 bx4 bx5 bx6 z0 z1 z2 z3 H locs hG ls hl h
        unfold w_L_blocks_J169 at h
        obtain ⟨G169, e169, h⟩ := h
        refine g_iast hx hb hK hG e169 dL_blocks_169 (fun H locs hG => ?_)
        refine lv_dup hx hb dL_blocks_170 rfl ?_
        refine lv_iconst (v := (5 : Int32)) hx hb dL_blocks_171 (by decide) ?_
        refine lv_aload_n hx hb dL_blocks_172 rfl (lv_at hl 1 rfl) ?_
        obtain ⟨v173, e173, h⟩ := h
        refine g_getrN hx hb hts inlX10 hown hK hG (by rfl) 9 (by decide) (List.mem_of_getElem? (i := 9) rfl) e173 dL_blocks_173 ?_
        refine lv_iload hx hb dL_blocks_176 (lv_at hl 6 rfl) ?_
        obtain ⟨v178, e178, h⟩ := h
        refine g_iald hx hb hK hG e178 dL_blocks_178 ?_
        obtain ⟨G179, e179, h⟩ := h
        refine g_iast hx hb hK hG e179 dL_blocks_179 (fun H locs hG => ?_)
        refine lv_dup hx hb dL_blocks_180 rfl ?_
        refine lv_bipush (v := (6 : Int32)) hx hb dL_blocks_181 (by decide) ?_
        refine lv_aload_n hx hb dL_blocks_183 rfl (lv_at hl 1 rfl) ?_
        obtain ⟨v184, e184, h⟩ := h
        refine g_getrN hx hb hts inlX10 hown hK hG (by rfl) 10 (by decide) (List.mem_of_getElem? (i := 10) rfl) e184 dL_blocks_184 ?_
        refine lv_iload hx hb dL_blocks_187 (lv_at hl 6 rfl) ?_
        obtain ⟨v189, e189, h⟩ := h
        refine g_iald hx hb hK hG e189 dL_blocks_189 ?_
        obtain ⟨G190, e190, h⟩ := h
        refine g_iast hx hb hK hG e190 dL_blocks_190 (fun H locs hG => ?_)
        refine lv_astore (lv' := [(7, .ref z0), (0, .ref ba0), (1, .ref ba1), (2, .ref ba2), (3, .int bx3), (4, .int bx4), (5, .int bx5), (6, .int bx6)]) hx hb dL_blocks_191 hl (by decide) rfl (fun ls hl => ?_)
        refine lv_iconst (v := (0 : Int32)) hx hb dL_blocks_193 (by decide) ?_
        refine lv_istore (lv' := [(8, .int (0 : Int32)), (7, .ref z0), (0, .ref ba0), (1, .ref ba1), (2, .ref ba2), (3, .int bx3), (4, .int bx4), (5, .int bx5), (6, .int bx6)]) hx hb dL_blocks_194 hl (by decide) rfl (fun ls hl => ?_)
        exact h196 g_N G190 kc ks ba0 ba1 ba2 bx3 bx4 bx5 bx6 z0 (0 : Int32) _ _ hG _ (lv_sub hl [2, 3, 4, 5, 6, 7, 8, 1, 0] rfl) h
      have h132 : ∀ (G : gH) (kc ks : Nat) (ba0 : Nat) (ba1 : Nat) (ba2 : Nat) (bx3 : Int32) (bx4 : Int32) (bx5 : Int32) (bx6 : Int32) (z0 : Nat) (z1 : Nat) (z2 : Int32) (z3 : Int32) (H : Heap) (locs : List Loc), g_S lo dd cT s H locs G → ∀ ls : Array Slot, lv_has ls 9 [(0, .ref ba0), (1, .ref ba1), (2, .ref ba2), (3, .int bx3), (4, .int bx4), (5, .int bx5), (6, .int bx6)] → w_L_blocks_J132 MC MS K (w_L_blocks_L15 MC MS K n15) G kc ks ba0 ba1 ba2 bx3 bx4 bx5 bx6 z0 z1 z2 z3 → W p l e (g_rm 9 204 MC MS) s m ([.ref a0, .ref a1] : List Value).toArray below meth c H locs kc ks (MQ below (va_Qi K (g_Pre lo dd cT) (g_A lo)) ([.ref a0, .ref a1] : List Value).toArray s MC MS (g_A lo)) (F0 m 132 ls [.int z3, .int z2, .ref z1, .ref z0]) := by
        intro G kc ks ba0 ba1 ba2 bx3 bx4 bx5 bx6 z0 z1 z2 z3 H locs hG ls hl h
        unfold w_L_blocks_J132 at h
        obtain ⟨G132, e132, h⟩ := h
        refine g_iast hx hb hK hG e132 dL_blocks_132 (fun H locs hG => ?_)
        refine lv_dup hx hb dL_blocks_133 rfl ?_
        refine lv_iconst (v := (3 : Int32)) hx hb dL_blocks_134 (by decide) ?_
        refine lv_aload_n hx hb dL_blocks_135 rfl (lv_at hl 1 rfl) ?_
        obtain ⟨v136, e136, h⟩ := h
        refine g_getrN hx hb hts inlX10 hown hK hG (by rfl) 8 (by decide) (List.mem_of_getElem? (i := 6) rfl) e136 dL_blocks_136 ?_
        refine lv_iload hx hb dL_blocks_139 (lv_at hl 6 rfl) ?_
        obtain ⟨v141, e141, h⟩ := h
        refine g_iald hx hb hK hG e141 dL_blocks_141 ?_
        obtain ⟨G142, e142, h⟩ := h
        refine g_iast hx hb hK hG e142 dL_blocks_142 (fun H locs hG => ?_)
        refine lv_dup hx hb dL_blocks_143 rfl ?_
        refine lv_iconst (v := (4 : Int32)) hx hb dL_blocks_144 (by decide) ?_
        refine lv_aload_n hx hb dL_blocks_145 rfl (lv_at hl 1 rfl) ?_
        obtain ⟨v146, e146, h⟩ := h
        refine g_getrN hx hb hts inlX10 hown hK hG (by rfl) 14 (by decide) (List.mem_of_getElem? (i := 7) rfl) e146 dL_blocks_146 ?_
        refine lv_iload hx hb dL_blocks_149 (lv_at hl 6 rfl) ?_
        obtain ⟨v151, e151, h⟩ := h
        refine g_rald_row hx hb hK hG (t := 6) rfl e151 dL_blocks_151 ?_
        rcases v151 with _ | r151
        · replace h := h.1 rfl
          refine lv_ifnonnullN hx hb dL_blocks_152 ?_
          refine lv_iconst (v := (-1 : Int32)) hx hb dL_blocks_155 (by decide) ?_
          refine lv_goto (tgt := 169) hx hb dL_blocks_156 (by decide) ?_
          exact h169 G142 kc ks ba0 ba1 ba2 bx3 bx4 bx5 bx6 z0 z0 (4 : Int32) (-1 : Int32) _ _ hG _ (lv_sub hl [0, 1, 2, 3, 4, 5, 6] rfl) h
        · replace h := h.2 r151 rfl
          refine lv_ifnonnull (tgt := 159) hx hb dL_blocks_152 (by decide) ?_
          refine lv_aload_n hx hb dL_blocks_159 rfl (lv_at hl 1 rfl) ?_
          obtain ⟨v160, e160, h⟩ := h
          refine g_getrN hx hb hts inlX10 hown hK hG (by rfl) 14 (by decide) (List.mem_of_getElem? (i := 7) rfl) e160 dL_blocks_160 ?_
          refine lv_iload hx hb dL_blocks_163 (lv_at hl 6 rfl) ?_
          obtain ⟨v165, e165, h⟩ := h
          refine g_rald_row hx hb hK hG (t := 6) rfl e165 dL_blocks_165 ?_
          rcases v165 with _ | r165
          · replace h := h.1 rfl
            exact (show False from h).elim
          · replace h := h.2 r165 rfl
            obtain ⟨v166, e166, h⟩ := h
            refine g_getiN hx hb hts inlX13 hown hK hG (by rfl) 1 (by decide) (List.mem_of_getElem? (i := 8) rfl) e166 dL_blocks_166 ?_
            exact h169 G142 kc ks ba0 ba1 ba2 bx3 bx4 bx5 bx6 z0 z0 (4 : Int32) v166 _ _ hG _ (lv_sub hl [0, 1, 2, 3, 4, 5, 6] rfl) h
      have h114 : ∀ (G : gH) (kc ks : Nat) (ba0 : Nat) (ba1 : Nat) (ba2 : Nat) (bx3 : Int32) (bx4 : Int32) (bx5 : Int32) (bx6 : Int32) (z0 : Nat) (z1 : Nat) (z2 : Int32) (z3 : Int32) (H : Heap) (locs : List Loc), g_S lo dd cT s H locs G → ∀ ls : Array Slot, lv_has ls 9 [(0, .ref ba0), (1, .ref ba1), (2, .ref ba2), (3, .int bx3), (4, .int bx4), (5, .int bx5), (6, .int bx6)] → w_L_blocks_J114 MC MS K (w_L_blocks_L15 MC MS K n15) G kc ks ba0 ba1 ba2 bx3 bx4 bx5 bx6 z0 z1 z2 z3 → W p l e (g_rm 9 204 MC MS) s m ([.ref a0, .ref a1] : List Value).toArray below meth c H locs kc ks (MQ below (va_Qi K (g_Pre lo dd cT) (g_A lo)) ([.ref a0, .ref a1] : List Value).toArray s MC MS (g_A lo)) (F0 m 114 ls [.int z3, .int z2, .ref z1, .ref z0]) := by
        intro G kc ks ba0 ba1 ba2 bx3 bx4 bx5 bx6 z0 z1 z2 z3 H locs hG ls hl h
        unfold w_L_blocks_J114 at h
        obtain ⟨G114, e114, h⟩ := h
        refine g_iast hx hb hK hG e114 dL_blocks_114 (fun H locs hG => ?_)
        refine lv_dup hx hb dL_blocks_115 rfl ?_
        refine lv_iconst (v := (2 : Int32)) hx hb dL_blocks_116 (by decide) ?_
        refine lv_aload_n hx hb dL_blocks_117 rfl (lv_at hl 1 rfl) ?_
        obtain ⟨v118, e118, h⟩ := h
        refine g_getrN hx hb hts inlX10 hown hK hG (by rfl) 13 (by decide) (List.mem_of_getElem? (i := 5) rfl) e118 dL_blocks_118 ?_
        refine lv_iload hx hb dL_blocks_121 (lv_at hl 6 rfl) ?_
        obtain ⟨v123, e123, h⟩ := h
        refine g_zald hx hb hK hG e123 dL_blocks_123 ?_
        refine lv_if_eq (tgt := 131) hx hb dL_blocks_124 (by decide) (fun c124 => ?_) (fun c124 => ?_)
        · rw [if_pos c124] at h
          refine lv_iconst (v := (0 : Int32)) hx hb dL_blocks_131 (by decide) ?_
          exact h132 G114 kc ks ba0 ba1 ba2 bx3 bx4 bx5 bx6 z0 z0 (2 : Int32) (0 : Int32) _ _ hG _ (lv_sub hl [0, 1, 2, 3, 4, 5, 6] rfl) h
        · rw [if_neg c124] at h
          refine lv_iconst (v := (1 : Int32)) hx hb dL_blocks_127 (by decide) ?_
          refine lv_goto (tgt := 132) hx hb dL_blocks_128 (by decide) ?_
          exact h132 G114 kc ks ba0 ba1 ba2 bx3 bx4 bx5 bx6 z0 z0 (2 : Int32) (1 : Int32) _ _ hG _ (lv_sub hl [0, 1, 2, 3, 4, 5, 6] rfl) h
      have h80 : ∀ (G : gH) (kc ks : Nat) (ba0 : Nat) (ba1 : Nat) (ba2 : Nat) (bx3 : Int32) (bx5 : Int32) (bx6 : Int32) (z0 : Int32) (z1 : Int32) (H : Heap) (locs : List Loc), g_S lo dd cT s H locs G → ∀ ls : Array Slot, lv_has ls 9 [(0, .ref ba0), (1, .ref ba1), (2, .ref ba2), (3, .int bx3), (5, .int bx5), (6, .int bx6)] → w_L_blocks_J80 MC MS K (w_L_blocks_L15 MC MS K n15) G kc ks ba0 ba1 ba2 bx3 bx5 bx6 z0 z1 → W p l e (g_rm 9 204 MC MS) s m ([.ref a0, .ref a1] : List Value).toArray below meth c H locs kc ks (MQ below (va_Qi K (g_Pre lo dd cT) (g_A lo)) ([.ref a0, .ref a1] : List Value).toArray s MC MS (g_A lo)) (F0 m 80 ls [.int z1, .int z0]) := by
        intro G kc ks ba0 ba1 ba2 bx3 bx5 bx6 z0 z1 H locs hG ls hl h
        unfold w_L_blocks_J80 at h
        refine lv_iadd hx hb dL_blocks_80 ?_
        refine lv_istore (lv' := [(4, .int (z0 + z1)), (0, .ref ba0), (1, .ref ba1), (2, .ref ba2), (3, .int bx3), (5, .int bx5), (6, .int bx6)]) hx hb dL_blocks_81 hl (by decide) rfl (fun ls hl => ?_)
        refine lv_bipush (v := (7 : Int32)) hx hb dL_blocks_83 (by decide) ?_
        obtain ⟨y85, h⟩ := h
        refine g_newai (N := 7) hx hb hts hK hlo hG (by decide) (by decide) (Nat.le_of_ble_eq_true rfl) y85 dL_blocks_85 (fun q85 H z85 hG => ?_)
        obtain ⟨G85, i85⟩ : ∃ g : gH, g = va_up G q85 (some (.inl (0, 7, fun _ => 0))) := ⟨_, rfl⟩
        rw [← i85] at hG
        replace h := h q85 z85 G85 i85
        refine lv_dup hx hb dL_blocks_87 rfl ?_
        refine lv_iconst (v := (0 : Int32)) hx hb dL_blocks_88 (by decide) ?_
        refine lv_aload_n hx hb dL_blocks_89 rfl (lv_at hl 2 rfl) ?_
        obtain ⟨v90, e90, h⟩ := h
        refine g_getrN hx hb hts inlX10 hown hK hG (by rfl) 7 (by decide) (List.mem_of_getElem? (i := 4) rfl) e90 dL_blocks_90 ?_
        refine lv_iload hx hb dL_blocks_93 (lv_at hl 6 rfl) ?_
        obtain ⟨v95, e95, h⟩ := h
        refine g_iald hx hb hK hG e95 dL_blocks_95 ?_
        obtain ⟨G96, e96, h⟩ := h
        refine g_iast hx hb hK hG e96 dL_blocks_96 (fun H locs hG => ?_)
        refine lv_dup hx hb dL_blocks_97 rfl ?_
        refine lv_iconst (v := (1 : Int32)) hx hb dL_blocks_98 (by decide) ?_
        refine lv_aload_n hx hb dL_blocks_99 rfl (lv_at hl 2 rfl) ?_
        obtain ⟨v100, e100, h⟩ := h
        refine g_getrN hx hb hts inlX10 hown hK hG (by rfl) 12 (by decide) (List.mem_of_getElem? (i := 3) rfl) e100 dL_blocks_100 ?_
        refine lv_iload hx hb dL_blocks_103 (lv_at hl 6 rfl) ?_
        obtain ⟨v105, e105, h⟩ := h
        refine g_zald hx hb hK hG e105 dL_blocks_105 ?_
        refine lv_if_eq (tgt := 113) hx hb dL_blocks_106 (by decide) (fun c106 => ?_) (fun c106 => ?_)
        · rw [if_pos c106] at h
          refine lv_iconst (v := (0 : Int32)) hx hb dL_blocks_113 (by decide) ?_
          exact h114 G96 (kc + 1) (ks + 7) ba0 ba1 ba2 bx3 (z0 + z1) bx5 bx6 q85 q85 (1 : Int32) (0 : Int32) _ _ hG _ (lv_sub hl [1, 2, 3, 4, 0, 5, 6] rfl) h
        · rw [if_neg c106] at h
          refine lv_iconst (v := (1 : Int32)) hx hb dL_blocks_109 (by decide) ?_
          refine lv_goto (tgt := 114) hx hb dL_blocks_110 (by decide) ?_
          exact h114 G96 (kc + 1) (ks + 7) ba0 ba1 ba2 bx3 (z0 + z1) bx5 bx6 q85 q85 (1 : Int32) (1 : Int32) _ _ hG _ (lv_sub hl [1, 2, 3, 4, 0, 5, 6] rfl) h
      have h52 : ∀ (G : gH) (kc ks : Nat) (ba0 : Nat) (ba1 : Nat) (ba2 : Nat) (bx4 : Int32) (bx5 : Int32) (bx6 : Int32) (z0 : Int32) (z1 : Int32) (H : Heap) (locs : List Loc), g_S lo dd cT s H locs G → ∀ ls : Array Slot, lv_has ls 9 [(0, .ref ba0), (1, .ref ba1), (2, .ref ba2), (4, .int bx4), (5, .int bx5), (6, .int bx6)] → w_L_blocks_J52 MC MS K (w_L_blocks_L15 MC MS K n15) G kc ks ba0 ba1 ba2 bx4 bx5 bx6 z0 z1 → W p l e (g_rm 9 204 MC MS) s m ([.ref a0, .ref a1] : List Value).toArray below meth c H locs kc ks (MQ below (va_Qi K (g_Pre lo dd cT) (g_A lo)) ([.ref a0, .ref a1] : List Value).toArray s MC MS (g_A lo)) (F0 m 52 ls [.int z1, .int z0]) := by
        intro G kc ks ba0 ba1 ba2 bx4 bx5 bx6 z0 z1 H locs hG ls hl h
        unfold w_L_blocks_J52 at h
        refine lv_iadd hx hb dL_blocks_52 ?_
        refine lv_istore_n (lv' := [(3, .int (z0 + z1)), (0, .ref ba0), (1, .ref ba1), (2, .ref ba2), (4, .int bx4), (5, .int bx5), (6, .int bx6)]) hx hb dL_blocks_53 rfl hl (by decide) rfl (fun ls hl => ?_)
        refine lv_iload hx hb dL_blocks_54 (lv_at hl 4 rfl) ?_
        refine lv_iload hx hb dL_blocks_56 (lv_at hl 6 rfl) ?_
        refine lv_aload_n hx hb dL_blocks_58 rfl (lv_at hl 2 rfl) ?_
        obtain ⟨C59, R59, d59, g59, h⟩ := h
        obtain ⟨u59, o59, h⟩ := h
        obtain ⟨y59, h⟩ := h
        obtain ⟨v59, e59, h⟩ := h
        rw [g59] at hG
        refine g_wVi (As := []) (rest := [.int bx6, .int bx4]) (n := 0) hx hb hml hown hts hK hlo hG (g_frI d59 (fun lo => m_X10_main l dd cT lo C59 ba1 e59) lo) qM_L_121 qI_yX10_main qS_X10_yX10_main qN_X10 qC_yX10_main (by decide +kernel) ⟨Nat.le_of_ble_eq_true rfl, Nat.le_of_ble_eq_true rfl⟩ (by rfl) (g_ob_gj o59) rfl hl.1 rfl (Nat.le_of_ble_eq_true rfl) dL_blocks_59 y59 (fun v59x Gx H locs hKx hG => ?_)
        obtain ⟨D59, ⟨k59a, k59⟩, f59, l59⟩ := hKx
        rw [l59, k59] at hG
        rw [k59] at f59
        rw [k59a]
        rw [← g59] at hG
        refine lv_icmp_lt (tgt := 79) hx hb dL_blocks_62 (by decide) (fun c62 => ?_) (fun c62 => ?_)
        · rw [if_pos c62] at h
          refine lv_iconst (v := (0 : Int32)) hx hb dL_blocks_79 (by decide) ?_
          exact h80 G kc ks ba0 ba1 ba2 (z0 + z1) bx5 bx6 bx4 (0 : Int32) _ _ hG _ (lv_sub hl [1, 2, 3, 0, 5, 6] rfl) h
        · rw [if_neg c62] at h
          refine lv_aload_n hx hb dL_blocks_65 rfl (lv_at hl 2 rfl) ?_
          obtain ⟨v66, e66, h⟩ := h
          refine g_getrN hx hb hts inlX10 hown hK hG (by rfl) 7 (by decide) (List.mem_of_getElem? (i := 4) rfl) e66 dL_blocks_66 ?_
          refine lv_iload hx hb dL_blocks_69 (lv_at hl 6 rfl) ?_
          obtain ⟨v71, e71, h⟩ := h
          refine g_iald hx hb hK hG e71 dL_blocks_71 ?_
          refine lv_if_ne (tgt := 79) hx hb dL_blocks_72 (by decide) (fun c72 => ?_) (fun c72 => ?_)
          · rw [if_neg c72] at h
            refine lv_iconst (v := (0 : Int32)) hx hb dL_blocks_79 (by decide) ?_
            exact h80 G kc ks ba0 ba1 ba2 (z0 + z1) bx5 bx6 bx4 (0 : Int32) _ _ hG _ (lv_sub hl [1, 2, 3, 0, 5, 6] rfl) h
          · rw [if_pos c72] at h
            refine lv_iconst (v := (1 : Int32)) hx hb dL_blocks_75 (by decide) ?_
            refine lv_goto (tgt := 80) hx hb dL_blocks_76 (by decide) ?_
            exact h80 G kc ks ba0 ba1 ba2 (z0 + z1) bx5 bx6 bx4 (1 : Int32) _ _ hG _ (lv_sub hl [1, 2, 3, 0, 5, 6] rfl) h
      intro G kc ks ba0 ba1 ba2 bx3 bx4 bx5 bx6 H locs hG ls hl h
      rw [w_L_blocks_L15] at h
      refine lv_iload hx hb dL_blocks_15 (lv_at hl 6 rfl) ?_
      refine lv_aload_n hx hb dL_blocks_17 rfl (lv_at hl 1 rfl) ?_
      obtain ⟨v18, e18, h⟩ := h
      refine g_getiN hx hb hts inlX10 hown hK hG (by rfl) 0 (by decide) (List.mem_of_getElem? (i := 0) rfl) e18 dL_blocks_18 ?_
      refine lv_icmp_ge (tgt := 355) hx hb dL_blocks_21 (by decide) (fun c21 => ?_) (fun c21 => ?_)
      · rw [if_pos c21] at h
        refine lv_iconst (v := (0 : Int32)) hx hb dL_blocks_355 (by decide) ?_
        refine lv_istore (lv' := [(6, .int (0 : Int32)), (0, .ref ba0), (1, .ref ba1), (2, .ref ba2), (3, .int bx3), (4, .int bx4), (5, .int bx5)]) hx hb dL_blocks_356 hl (by decide) rfl (fun ls hl => ?_)
        exact h358 g_N G kc ks ba0 ba1 ba2 bx3 bx4 bx5 (0 : Int32) _ _ hG _ (lv_sub hl [1, 2, 3, 4, 5, 6, 0] rfl) h
      · rw [if_neg c21] at h
        refine lv_aload_n hx hb dL_blocks_24 rfl (lv_at hl 2 rfl) ?_
        refine lv_aload_n hx hb dL_blocks_25 rfl (lv_at hl 1 rfl) ?_
        refine lv_iload hx hb dL_blocks_26 (lv_at hl 6 rfl) ?_
        obtain ⟨C28, R28, d28, g28, h⟩ := h
        obtain ⟨u28, o28, h⟩ := h
        obtain ⟨y28, h⟩ := h
        obtain ⟨v28, e28, h⟩ := h
        rw [g28] at hG
        refine g_wVi (As := [.int bx6]) (rest := [.ref ba2]) (n := 1) hx hb hml hown hts hK hlo hG (g_frI d28 (fun lo => m_X10_use l dd cT lo C28 ba1 bx6 e28) lo) qM_L_118 qI_yX10_use qS_X10_yX10_use qN_X10 qC_yX10_use (by decide +kernel) ⟨Nat.le_of_ble_eq_true rfl, Nat.le_of_ble_eq_true rfl⟩ (by rfl) (g_ob_gj o28) rfl hl.1 rfl (Nat.le_of_ble_eq_true rfl) dL_blocks_28 y28 (fun v28x Gx H locs hKx hG => ?_)
        obtain ⟨D28, ⟨k28a, k28⟩, f28, l28⟩ := hKx
        rw [l28, k28] at hG
        rw [k28] at f28
        rw [k28a]
        rw [← g28] at hG
        refine lv_dup2_11 hx hb dL_blocks_31 rfl rfl ?_
        obtain ⟨v32, e32, h⟩ := h
        refine g_iald hx hb hK hG e32 dL_blocks_32 ?_
        refine lv_iconst (v := (1 : Int32)) hx hb dL_blocks_33 (by decide) ?_
        refine lv_iadd hx hb dL_blocks_34 ?_
        obtain ⟨G35, e35, h⟩ := h
        refine g_iast hx hb hK hG e35 dL_blocks_35 (fun H locs hG => ?_)
        refine lv_iload_n hx hb dL_blocks_36 rfl (lv_at hl 3 rfl) ?_
        refine lv_aload_n hx hb dL_blocks_37 rfl (lv_at hl 1 rfl) ?_
        obtain ⟨v38, e38, h⟩ := h
        refine g_getrN hx hb hts inlX10 hown hK hG (by rfl) 12 (by decide) (List.mem_of_getElem? (i := 3) rfl) e38 dL_blocks_38 ?_
        refine lv_iload hx hb dL_blocks_41 (lv_at hl 6 rfl) ?_
        obtain ⟨v43, e43, h⟩ := h
        refine g_zald hx hb hK hG e43 dL_blocks_43 ?_
        refine lv_if_eq (tgt := 51) hx hb dL_blocks_44 (by decide) (fun c44 => ?_) (fun c44 => ?_)
        · rw [if_pos c44] at h
          refine lv_iconst (v := (0 : Int32)) hx hb dL_blocks_51 (by decide) ?_
          exact h52 G35 kc ks ba0 ba1 ba2 bx4 bx5 bx6 bx3 (0 : Int32) _ _ hG _ (lv_sub hl [0, 1, 2, 4, 5, 6] rfl) h
        · rw [if_neg c44] at h
          refine lv_iconst (v := (1 : Int32)) hx hb dL_blocks_47 (by decide) ?_
          refine lv_goto (tgt := 52) hx hb dL_blocks_48 (by decide) ?_
          exact h52 G35 kc ks ba0 ba1 ba2 bx4 bx5 bx6 bx3 (1 : Int32) _ _ hG _ (lv_sub hl [0, 1, 2, 4, 5, 6] rfl) h
  unfold w_L_blocks at h
  refine lv_iconst (v := (5 : Int32)) hx hb dL_blocks_0 (by decide) ?_
  obtain ⟨y1, h⟩ := h
  refine g_newai (N := 5) hx hb hts hK hlo hG (by decide) (by decide) (Nat.le_of_ble_eq_true rfl) y1 dL_blocks_1 (fun q1 H z1 hG => ?_)
  obtain ⟨G1, i1⟩ : ∃ g : gH, g = va_up G q1 (some (.inl (0, 5, fun _ => 0))) := ⟨_, rfl⟩
  rw [← i1] at hG
  replace h := h q1 z1 G1 i1
  refine lv_astore_n (lv' := [(2, .ref q1), (0, .ref a0), (1, .ref a1)]) hx hb dL_blocks_3 rfl hl (by decide) rfl (fun ls hl => ?_)
  refine lv_iconst (v := (0 : Int32)) hx hb dL_blocks_4 (by decide) ?_
  refine lv_istore_n (lv' := [(3, .int (0 : Int32)), (2, .ref q1), (0, .ref a0), (1, .ref a1)]) hx hb dL_blocks_5 rfl hl (by decide) rfl (fun ls hl => ?_)
  refine lv_iconst (v := (0 : Int32)) hx hb dL_blocks_6 (by decide) ?_
  refine lv_istore (lv' := [(4, .int (0 : Int32)), (3, .int (0 : Int32)), (2, .ref q1), (0, .ref a0), (1, .ref a1)]) hx hb dL_blocks_7 hl (by decide) rfl (fun ls hl => ?_)
  refine lv_iconst (v := (0 : Int32)) hx hb dL_blocks_9 (by decide) ?_
  refine lv_istore (lv' := [(5, .int (0 : Int32)), (4, .int (0 : Int32)), (3, .int (0 : Int32)), (2, .ref q1), (0, .ref a0), (1, .ref a1)]) hx hb dL_blocks_10 hl (by decide) rfl (fun ls hl => ?_)
  refine lv_iconst (v := (0 : Int32)) hx hb dL_blocks_12 (by decide) ?_
  refine lv_istore (lv' := [(6, .int (0 : Int32)), (5, .int (0 : Int32)), (4, .int (0 : Int32)), (3, .int (0 : Int32)), (2, .ref q1), (0, .ref a0), (1, .ref a1)]) hx hb dL_blocks_13 hl (by decide) rfl (fun ls hl => ?_)
  exact h15 g_N G1 (0 + 1) (0 + 5) a0 a1 q1 (0 : Int32) (0 : Int32) (0 : Int32) (0 : Int32) _ _ hG _ (lv_sub hl [5, 6, 4, 3, 2, 1, 0] rfl) h
set_option maxRecDepth 20000 in
set_option maxHeartbeats 4000000 in
theorem m_L_sessions (MC MS : Nat) (l : Launch) (hfl : l.stackTraces = false) (dd : va_G) (cT : Nat → ClassId) (lo : Nat → Prop) (G : gH) (a0 : Nat) (a1 : Nat) {K : Int32 → gH → Prop} (h : w_L_sessions MC MS G a0 a1 K) : Met l yL_sessions (Cond.code yL_sessions cL_sessions 10 (some .boolean) :: wsL_law) (g_rm 8 143 MC MS) (va_Pc [.ref a0, .ref a1] (g_Pre lo dd cT G)) (va_Qi K (g_Pre lo dd cT) (g_A lo)) MC MS (g_A lo) := by
  refine g_start RL rfl (by decide) (Nat.le_of_ble_eq_true rfl) ?_
  intro p e s m below meth c hx hb hr hlocks hml hown hnm hts hK hG hlo ls hl
  have hl : lv_has ls 10 [(0, .ref a0), (1, .ref a1)] := hl
  have hG : g_S lo dd cT s s.heap [] G := hG
  have h2 : ∀ n2 : Nat, ∀ (G : gH) (kc ks : Nat) (ba0 : Nat) (ba1 : Nat) (bx2 : Int32) (H : Heap) (locs : List Loc), g_S lo dd cT s H locs G → ∀ ls : Array Slot, lv_has ls 10 [(0, .ref ba0), (1, .ref ba1), (2, .int bx2)] → w_L_sessions_L2 MC MS K n2 G kc ks ba0 ba1 bx2 → W p l e (g_rm 8 143 MC MS) s m ([.ref a0, .ref a1] : List Value).toArray below meth c H locs kc ks (MQ below (va_Qi K (g_Pre lo dd cT) (g_A lo)) ([.ref a0, .ref a1] : List Value).toArray s MC MS (g_A lo)) (F0 m 2 ls []) := by
    intro n2
    induction n2 with
    | zero =>
      intro G kc ks ba0 ba1 bx2 H locs hG ls hl h
      exact (show False from h).elim
    | succ n2 ih2 =>
      have h265 : ∀ n265 : Nat, ∀ (G : gH) (kc ks : Nat) (ba0 : Nat) (ba1 : Nat) (bx2 : Int32) (ba3 : Option Nat) (bx8 : Int32) (H : Heap) (locs : List Loc), g_S lo dd cT s H locs G → ∀ ls : Array Slot, lv_has ls 10 [(0, .ref ba0), (1, .ref ba1), (2, .int bx2), (3, va_rf ba3), (8, .int bx8)] → w_L_sessions_L265 MC MS K (w_L_sessions_L2 MC MS K n2) n265 G kc ks ba0 ba1 bx2 ba3 bx8 → W p l e (g_rm 8 143 MC MS) s m ([.ref a0, .ref a1] : List Value).toArray below meth c H locs kc ks (MQ below (va_Qi K (g_Pre lo dd cT) (g_A lo)) ([.ref a0, .ref a1] : List Value).toArray s MC MS (g_A lo)) (F0 m 265 ls []) := by
        intro n265
        induction n265 with
        | zero =>
          intro G kc ks ba0 ba1 bx2 ba3 bx8 H locs hG ls hl h
          exact (show False from h).elim
        | succ n265 ih265 =>
          have h398 : ∀ (G : gH) (kc ks : Nat) (ba0 : Nat) (ba1 : Nat) (bx2 : Int32) (ba3 : Option Nat) (bx8 : Int32) (z0 : Int32) (z1 : Int32) (H : Heap) (locs : List Loc), g_S lo dd cT s H locs G → ∀ ls : Array Slot, lv_has ls 10 [(0, .ref ba0), (1, .ref ba1), (2, .int bx2), (3, va_rf ba3), (8, .int bx8)] → w_L_sessions_J398 MC MS K (w_L_sessions_L2 MC MS K n2) (w_L_sessions_L265 MC MS K (w_L_sessions_L2 MC MS K n2) n265) G kc ks ba0 ba1 bx2 ba3 bx8 z0 z1 → W p l e (g_rm 8 143 MC MS) s m ([.ref a0, .ref a1] : List Value).toArray below meth c H locs kc ks (MQ below (va_Qi K (g_Pre lo dd cT) (g_A lo)) ([.ref a0, .ref a1] : List Value).toArray s MC MS (g_A lo)) (F0 m 398 ls [.int z1, .int z0]) := by
            intro G kc ks ba0 ba1 bx2 ba3 bx8 z0 z1 H locs hG ls hl h
            unfold w_L_sessions_J398 at h
            rcases ba3 with _ | ba3r
            · replace h := h.1 rfl
              refine lv_icmp_eq (tgt := 403) hx hb dL_sessions_398 (by decide) (fun c398 => ?_) (fun c398 => ?_)
              · rw [if_pos c398] at h
                refine lv_iinc (v := (bx8 + (1 : Int32))) (lv' := [(8, .int (bx8 + (1 : Int32))), (0, .ref ba0), (1, .ref ba1), (2, .int bx2), (3, .null)]) hx hb dL_sessions_403 hl (k := 4) rfl rfl (by decide) rfl (fun ls hl => ?_)
                refine lv_goto (tgt := 265) hx hb dL_sessions_406 (by decide) ?_
                exact ih265 G kc ks ba0 ba1 bx2 none (bx8 + (1 : Int32)) _ _ hG _ (lv_sub hl [1, 2, 3, 4, 0] rfl) h
              · rw [if_neg c398] at h
                refine lv_iconst (v := (0 : Int32)) hx hb dL_sessions_401 (by decide) ?_
                obtain ⟨y1, y2, h⟩ := h
                refine W.widen (k := MC) (n := MS) y1 y2 ?_
                exact g_zret hx hb hr hlocks hK hlo hG rfl h dL_sessions_402
            · replace h := h.2 ba3r rfl
              refine lv_icmp_eq (tgt := 403) hx hb dL_sessions_398 (by decide) (fun c398 => ?_) (fun c398 => ?_)
              · rw [if_pos c398] at h
                refine lv_iinc (v := (bx8 + (1 : Int32))) (lv' := [(8, .int (bx8 + (1 : Int32))), (0, .ref ba0), (1, .ref ba1), (2, .int bx2), (3, .ref ba3r)]) hx hb dL_sessions_403 hl (k := 4) rfl rfl (by decide) rfl (fun ls hl => ?_)
                refine lv_goto (tgt := 265) hx hb dL_sessions_406 (by decide) ?_
                exact ih265 G kc ks ba0 ba1 bx2 (some ba3r) (bx8 + (1 : Int32)) _ _ hG _ (lv_sub hl [1, 2, 3, 4, 0] rfl) h
              · rw [if_neg c398] at h
                refine lv_iconst (v := (0 : Int32)) hx hb dL_sessions_401 (by decide) ?_
                obtain ⟨y1, y2, h⟩ := h
                refine W.widen (k := MC) (n := MS) y1 y2 ?_
                exact g_zret hx hb hr hlocks hK hlo hG rfl h dL_sessions_402
          have h373 : ∀ (G : gH) (kc ks : Nat) (ba0 : Nat) (ba1 : Nat) (bx2 : Int32) (ba3 : Option Nat) (bx8 : Int32) (ba9 : Option Nat) (z0 : Int32) (z1 : Int32) (H : Heap) (locs : List Loc), g_S lo dd cT s H locs G → ∀ ls : Array Slot, lv_has ls 10 [(0, .ref ba0), (1, .ref ba1), (2, .int bx2), (3, va_rf ba3), (8, .int bx8), (9, va_rf ba9)] → w_L_sessions_J373 MC MS K (w_L_sessions_L2 MC MS K n2) (w_L_sessions_L265 MC MS K (w_L_sessions_L2 MC MS K n2) n265) G kc ks ba0 ba1 bx2 ba3 bx8 ba9 z0 z1 → W p l e (g_rm 8 143 MC MS) s m ([.ref a0, .ref a1] : List Value).toArray below meth c H locs kc ks (MQ below (va_Qi K (g_Pre lo dd cT) (g_A lo)) ([.ref a0, .ref a1] : List Value).toArray s MC MS (g_A lo)) (F0 m 373 ls [.int z1, .int z0]) := by
            intro G kc ks ba0 ba1 bx2 ba3 bx8 ba9 z0 z1 H locs hG ls hl h
            unfold w_L_sessions_J373 at h
            rcases ba3 with _ | ba3r
            · replace h := h.1 rfl
              rcases ba9 with _ | ba9r
              · replace h := h.1 rfl
                refine lv_icmp_ne (tgt := 401) hx hb dL_sessions_373 (by decide) (fun c373 => ?_) (fun c373 => ?_)
                · rw [if_neg c373] at h
                  refine lv_iconst (v := (0 : Int32)) hx hb dL_sessions_401 (by decide) ?_
                  obtain ⟨y1, y2, h⟩ := h
                  refine W.widen (k := MC) (n := MS) y1 y2 ?_
                  exact g_zret hx hb hr hlocks hK hlo hG rfl h dL_sessions_402
                · rw [if_pos c373] at h
                  refine lv_aload_n hx hb dL_sessions_376 rfl (lv_at hl 0 rfl) ?_
                  refine lv_iload_n hx hb dL_sessions_377 rfl (lv_at hl 2 rfl) ?_
                  refine lv_iload hx hb dL_sessions_378 (lv_at hl 4 rfl) ?_
                  refine lv_iconst (v := (4 : Int32)) hx hb dL_sessions_380 (by decide) ?_
                  obtain ⟨C381, R381, d381, g381, h⟩ := h
                  obtain ⟨u381, o381, h⟩ := h
                  obtain ⟨y381, h⟩ := h
                  rw [g381] at hG
                  refine g_wVi (As := [.int bx2, .int bx8, .int (4 : Int32)]) (rest := []) (n := 3) hx hb hml hown hts hK hlo hG (g_frI d381 (fun lo => g_noX (m_X9_entry l hfl dd cT lo C381 ba0 bx2 bx8 (4 : Int32) h)) lo) qM_L_235 qI_yX9_entry qS_X9_yX9_entry qN_X9 qC_yX9_entry (by decide +kernel) ⟨Nat.le_of_ble_eq_true rfl, Nat.le_of_ble_eq_true rfl⟩ (by rfl) (g_ob_gj o381) rfl hl.1 rfl (Nat.le_of_ble_eq_true rfl) dL_sessions_381 y381 (fun v381x Gx H locs hKx hG => ?_)
                  obtain ⟨D381, h, f381, rfl⟩ := hKx
                  obtain ⟨G381, i381⟩ : ∃ g : gH, g = gj D381 R381 := ⟨_, rfl⟩
                  rw [← i381] at hG
                  replace h := h G381 f381 i381
                  revert h
                  generalize v381x = v381
                  intro h
                  refine lv_aloadN hx hb dL_sessions_384 (lv_at hl 5 rfl) ?_
                  refine lv_ifnonnullN hx hb dL_sessions_386 ?_
                  refine lv_iconst (v := (-1 : Int32)) hx hb dL_sessions_389 (by decide) ?_
                  refine lv_goto (tgt := 398) hx hb dL_sessions_390 (by decide) ?_
                  exact h398 G381 (kc + 2) (ks + 12) ba0 ba1 bx2 none bx8 v381 (-1 : Int32) _ _ hG _ (lv_sub hl [0, 1, 2, 3, 4] rfl) h
              · replace h := h.2 ba9r rfl
                refine lv_icmp_ne (tgt := 401) hx hb dL_sessions_373 (by decide) (fun c373 => ?_) (fun c373 => ?_)
                · rw [if_neg c373] at h
                  refine lv_iconst (v := (0 : Int32)) hx hb dL_sessions_401 (by decide) ?_
                  obtain ⟨y1, y2, h⟩ := h
                  refine W.widen (k := MC) (n := MS) y1 y2 ?_
                  exact g_zret hx hb hr hlocks hK hlo hG rfl h dL_sessions_402
                · rw [if_pos c373] at h
                  refine lv_aload_n hx hb dL_sessions_376 rfl (lv_at hl 0 rfl) ?_
                  refine lv_iload_n hx hb dL_sessions_377 rfl (lv_at hl 2 rfl) ?_
                  refine lv_iload hx hb dL_sessions_378 (lv_at hl 4 rfl) ?_
                  refine lv_iconst (v := (4 : Int32)) hx hb dL_sessions_380 (by decide) ?_
                  obtain ⟨C381, R381, d381, g381, h⟩ := h
                  obtain ⟨u381, o381, h⟩ := h
                  obtain ⟨y381, h⟩ := h
                  rw [g381] at hG
                  refine g_wVi (As := [.int bx2, .int bx8, .int (4 : Int32)]) (rest := []) (n := 3) hx hb hml hown hts hK hlo hG (g_frI d381 (fun lo => g_noX (m_X9_entry l hfl dd cT lo C381 ba0 bx2 bx8 (4 : Int32) h)) lo) qM_L_235 qI_yX9_entry qS_X9_yX9_entry qN_X9 qC_yX9_entry (by decide +kernel) ⟨Nat.le_of_ble_eq_true rfl, Nat.le_of_ble_eq_true rfl⟩ (by rfl) (g_ob_gj o381) rfl hl.1 rfl (Nat.le_of_ble_eq_true rfl) dL_sessions_381 y381 (fun v381x Gx H locs hKx hG => ?_)
                  obtain ⟨D381, h, f381, rfl⟩ := hKx
                  obtain ⟨G381, i381⟩ : ∃ g : gH, g = gj D381 R381 := ⟨_, rfl⟩
                  rw [← i381] at hG
                  replace h := h G381 f381 i381
                  revert h
                  generalize v381x = v381
                  intro h
                  refine lv_aload hx hb dL_sessions_384 (lv_at hl 5 rfl) ?_
                  refine lv_ifnonnull (tgt := 393) hx hb dL_sessions_386 (by decide) ?_
                  refine lv_aload hx hb dL_sessions_393 (lv_at hl 5 rfl) ?_
                  obtain ⟨v395, e395, h⟩ := h
                  refine g_getiN hx hb hts inlX13 hown hK hG (by rfl) 4 (by decide) (List.mem_of_getElem? (i := 26) rfl) e395 dL_sessions_395 ?_
                  exact h398 G381 (kc + 2) (ks + 12) ba0 ba1 bx2 none bx8 v381 v395 _ _ hG _ (lv_sub hl [0, 1, 2, 3, 4] rfl) h
            · replace h := h.2 ba3r rfl
              rcases ba9 with _ | ba9r
              · replace h := h.1 rfl
                refine lv_icmp_ne (tgt := 401) hx hb dL_sessions_373 (by decide) (fun c373 => ?_) (fun c373 => ?_)
                · rw [if_neg c373] at h
                  refine lv_iconst (v := (0 : Int32)) hx hb dL_sessions_401 (by decide) ?_
                  obtain ⟨y1, y2, h⟩ := h
                  refine W.widen (k := MC) (n := MS) y1 y2 ?_
                  exact g_zret hx hb hr hlocks hK hlo hG rfl h dL_sessions_402
                · rw [if_pos c373] at h
                  refine lv_aload_n hx hb dL_sessions_376 rfl (lv_at hl 0 rfl) ?_
                  refine lv_iload_n hx hb dL_sessions_377 rfl (lv_at hl 2 rfl) ?_
                  refine lv_iload hx hb dL_sessions_378 (lv_at hl 4 rfl) ?_
                  refine lv_iconst (v := (4 : Int32)) hx hb dL_sessions_380 (by decide) ?_
                  obtain ⟨C381, R381, d381, g381, h⟩ := h
                  obtain ⟨u381, o381, h⟩ := h
                  obtain ⟨y381, h⟩ := h
                  rw [g381] at hG
                  refine g_wVi (As := [.int bx2, .int bx8, .int (4 : Int32)]) (rest := []) (n := 3) hx hb hml hown hts hK hlo hG (g_frI d381 (fun lo => g_noX (m_X9_entry l hfl dd cT lo C381 ba0 bx2 bx8 (4 : Int32) h)) lo) qM_L_235 qI_yX9_entry qS_X9_yX9_entry qN_X9 qC_yX9_entry (by decide +kernel) ⟨Nat.le_of_ble_eq_true rfl, Nat.le_of_ble_eq_true rfl⟩ (by rfl) (g_ob_gj o381) rfl hl.1 rfl (Nat.le_of_ble_eq_true rfl) dL_sessions_381 y381 (fun v381x Gx H locs hKx hG => ?_)
                  obtain ⟨D381, h, f381, rfl⟩ := hKx
                  obtain ⟨G381, i381⟩ : ∃ g : gH, g = gj D381 R381 := ⟨_, rfl⟩
                  rw [← i381] at hG
                  replace h := h G381 f381 i381
                  revert h
                  generalize v381x = v381
                  intro h
                  refine lv_aloadN hx hb dL_sessions_384 (lv_at hl 5 rfl) ?_
                  refine lv_ifnonnullN hx hb dL_sessions_386 ?_
                  refine lv_iconst (v := (-1 : Int32)) hx hb dL_sessions_389 (by decide) ?_
                  refine lv_goto (tgt := 398) hx hb dL_sessions_390 (by decide) ?_
                  exact h398 G381 (kc + 2) (ks + 12) ba0 ba1 bx2 (some ba3r) bx8 v381 (-1 : Int32) _ _ hG _ (lv_sub hl [0, 1, 2, 3, 4] rfl) h
              · replace h := h.2 ba9r rfl
                refine lv_icmp_ne (tgt := 401) hx hb dL_sessions_373 (by decide) (fun c373 => ?_) (fun c373 => ?_)
                · rw [if_neg c373] at h
                  refine lv_iconst (v := (0 : Int32)) hx hb dL_sessions_401 (by decide) ?_
                  obtain ⟨y1, y2, h⟩ := h
                  refine W.widen (k := MC) (n := MS) y1 y2 ?_
                  exact g_zret hx hb hr hlocks hK hlo hG rfl h dL_sessions_402
                · rw [if_pos c373] at h
                  refine lv_aload_n hx hb dL_sessions_376 rfl (lv_at hl 0 rfl) ?_
                  refine lv_iload_n hx hb dL_sessions_377 rfl (lv_at hl 2 rfl) ?_
                  refine lv_iload hx hb dL_sessions_378 (lv_at hl 4 rfl) ?_
                  refine lv_iconst (v := (4 : Int32)) hx hb dL_sessions_380 (by decide) ?_
                  obtain ⟨C381, R381, d381, g381, h⟩ := h
                  obtain ⟨u381, o381, h⟩ := h
                  obtain ⟨y381, h⟩ := h
                  rw [g381] at hG
                  refine g_wVi (As := [.int bx2, .int bx8, .int (4 : Int32)]) (rest := []) (n := 3) hx hb hml hown hts hK hlo hG (g_frI d381 (fun lo => g_noX (m_X9_entry l hfl dd cT lo C381 ba0 bx2 bx8 (4 : Int32) h)) lo) qM_L_235 qI_yX9_entry qS_X9_yX9_entry qN_X9 qC_yX9_entry (by decide +kernel) ⟨Nat.le_of_ble_eq_true rfl, Nat.le_of_ble_eq_true rfl⟩ (by rfl) (g_ob_gj o381) rfl hl.1 rfl (Nat.le_of_ble_eq_true rfl) dL_sessions_381 y381 (fun v381x Gx H locs hKx hG => ?_)
                  obtain ⟨D381, h, f381, rfl⟩ := hKx
                  obtain ⟨G381, i381⟩ : ∃ g : gH, g = gj D381 R381 := ⟨_, rfl⟩
                  rw [← i381] at hG
                  replace h := h G381 f381 i381
                  revert h
                  generalize v381x = v381
                  intro h
                  refine lv_aload hx hb dL_sessions_384 (lv_at hl 5 rfl) ?_
                  refine lv_ifnonnull (tgt := 393) hx hb dL_sessions_386 (by decide) ?_
                  refine lv_aload hx hb dL_sessions_393 (lv_at hl 5 rfl) ?_
                  obtain ⟨v395, e395, h⟩ := h
                  refine g_getiN hx hb hts inlX13 hown hK hG (by rfl) 4 (by decide) (List.mem_of_getElem? (i := 26) rfl) e395 dL_sessions_395 ?_
                  exact h398 G381 (kc + 2) (ks + 12) ba0 ba1 bx2 (some ba3r) bx8 v381 v395 _ _ hG _ (lv_sub hl [0, 1, 2, 3, 4] rfl) h
          have h348 : ∀ (G : gH) (kc ks : Nat) (ba0 : Nat) (ba1 : Nat) (bx2 : Int32) (ba3 : Option Nat) (bx8 : Int32) (ba9 : Option Nat) (z0 : Int32) (z1 : Int32) (H : Heap) (locs : List Loc), g_S lo dd cT s H locs G → ∀ ls : Array Slot, lv_has ls 10 [(0, .ref ba0), (1, .ref ba1), (2, .int bx2), (3, va_rf ba3), (8, .int bx8), (9, va_rf ba9)] → w_L_sessions_J348 MC MS K (w_L_sessions_L2 MC MS K n2) (w_L_sessions_L265 MC MS K (w_L_sessions_L2 MC MS K n2) n265) G kc ks ba0 ba1 bx2 ba3 bx8 ba9 z0 z1 → W p l e (g_rm 8 143 MC MS) s m ([.ref a0, .ref a1] : List Value).toArray below meth c H locs kc ks (MQ below (va_Qi K (g_Pre lo dd cT) (g_A lo)) ([.ref a0, .ref a1] : List Value).toArray s MC MS (g_A lo)) (F0 m 348 ls [.int z1, .int z0]) := by
            intro G kc ks ba0 ba1 bx2 ba3 bx8 ba9 z0 z1 H locs hG ls hl h
            unfold w_L_sessions_J348 at h
            rcases ba3 with _ | ba3r
            · replace h := h.1 rfl
              rcases ba9 with _ | ba9r
              · replace h := h.1 rfl
                refine lv_icmp_ne (tgt := 401) hx hb dL_sessions_348 (by decide) (fun c348 => ?_) (fun c348 => ?_)
                · rw [if_neg c348] at h
                  refine lv_iconst (v := (0 : Int32)) hx hb dL_sessions_401 (by decide) ?_
                  obtain ⟨y1, y2, h⟩ := h
                  refine W.widen (k := MC) (n := MS) y1 y2 ?_
                  exact g_zret hx hb hr hlocks hK hlo hG rfl h dL_sessions_402
                · rw [if_pos c348] at h
                  refine lv_aload_n hx hb dL_sessions_351 rfl (lv_at hl 0 rfl) ?_
                  refine lv_iload_n hx hb dL_sessions_352 rfl (lv_at hl 2 rfl) ?_
                  refine lv_iload hx hb dL_sessions_353 (lv_at hl 4 rfl) ?_
                  refine lv_iconst (v := (3 : Int32)) hx hb dL_sessions_355 (by decide) ?_
                  obtain ⟨C356, R356, d356, g356, h⟩ := h
                  obtain ⟨u356, o356, h⟩ := h
                  obtain ⟨y356, h⟩ := h
                  rw [g356] at hG
                  refine g_wVi (As := [.int bx2, .int bx8, .int (3 : Int32)]) (rest := []) (n := 3) hx hb hml hown hts hK hlo hG (g_frI d356 (fun lo => g_noX (m_X9_entry l hfl dd cT lo C356 ba0 bx2 bx8 (3 : Int32) h)) lo) qM_L_235 qI_yX9_entry qS_X9_yX9_entry qN_X9 qC_yX9_entry (by decide +kernel) ⟨Nat.le_of_ble_eq_true rfl, Nat.le_of_ble_eq_true rfl⟩ (by rfl) (g_ob_gj o356) rfl hl.1 rfl (Nat.le_of_ble_eq_true rfl) dL_sessions_356 y356 (fun v356x Gx H locs hKx hG => ?_)
                  obtain ⟨D356, h, f356, rfl⟩ := hKx
                  obtain ⟨G356, i356⟩ : ∃ g : gH, g = gj D356 R356 := ⟨_, rfl⟩
                  rw [← i356] at hG
                  replace h := h G356 f356 i356
                  revert h
                  generalize v356x = v356
                  intro h
                  refine lv_aloadN hx hb dL_sessions_359 (lv_at hl 5 rfl) ?_
                  refine lv_ifnonnullN hx hb dL_sessions_361 ?_
                  refine lv_iconst (v := (0 : Int32)) hx hb dL_sessions_364 (by decide) ?_
                  refine lv_goto (tgt := 373) hx hb dL_sessions_365 (by decide) ?_
                  exact h373 G356 (kc + 2) (ks + 12) ba0 ba1 bx2 none bx8 none v356 (0 : Int32) _ _ hG _ (lv_sub hl [0, 1, 2, 3, 4, 5] rfl) h
              · replace h := h.2 ba9r rfl
                refine lv_icmp_ne (tgt := 401) hx hb dL_sessions_348 (by decide) (fun c348 => ?_) (fun c348 => ?_)
                · rw [if_neg c348] at h
                  refine lv_iconst (v := (0 : Int32)) hx hb dL_sessions_401 (by decide) ?_
                  obtain ⟨y1, y2, h⟩ := h
                  refine W.widen (k := MC) (n := MS) y1 y2 ?_
                  exact g_zret hx hb hr hlocks hK hlo hG rfl h dL_sessions_402
                · rw [if_pos c348] at h
                  refine lv_aload_n hx hb dL_sessions_351 rfl (lv_at hl 0 rfl) ?_
                  refine lv_iload_n hx hb dL_sessions_352 rfl (lv_at hl 2 rfl) ?_
                  refine lv_iload hx hb dL_sessions_353 (lv_at hl 4 rfl) ?_
                  refine lv_iconst (v := (3 : Int32)) hx hb dL_sessions_355 (by decide) ?_
                  obtain ⟨C356, R356, d356, g356, h⟩ := h
                  obtain ⟨u356, o356, h⟩ := h
                  obtain ⟨y356, h⟩ := h
                  rw [g356] at hG
                  refine g_wVi (As := [.int bx2, .int bx8, .int (3 : Int32)]) (rest := []) (n := 3) hx hb hml hown hts hK hlo hG (g_frI d356 (fun lo => g_noX (m_X9_entry l hfl dd cT lo C356 ba0 bx2 bx8 (3 : Int32) h)) lo) qM_L_235 qI_yX9_entry qS_X9_yX9_entry qN_X9 qC_yX9_entry (by decide +kernel) ⟨Nat.le_of_ble_eq_true rfl, Nat.le_of_ble_eq_true rfl⟩ (by rfl) (g_ob_gj o356) rfl hl.1 rfl (Nat.le_of_ble_eq_true rfl) dL_sessions_356 y356 (fun v356x Gx H locs hKx hG => ?_)
                  obtain ⟨D356, h, f356, rfl⟩ := hKx
                  obtain ⟨G356, i356⟩ : ∃ g : gH, g = gj D356 R356 := ⟨_, rfl⟩
                  rw [← i356] at hG
                  replace h := h G356 f356 i356
                  revert h
                  generalize v356x = v356
                  intro h
                  refine lv_aload hx hb dL_sessions_359 (lv_at hl 5 rfl) ?_
                  refine lv_ifnonnull (tgt := 368) hx hb dL_sessions_361 (by decide) ?_
                  refine lv_aload hx hb dL_sessions_368 (lv_at hl 5 rfl) ?_
                  obtain ⟨v370, e370, h⟩ := h
                  refine g_getiN hx hb hts inlX13 hown hK hG (by rfl) 3 (by decide) (List.mem_of_getElem? (i := 25) rfl) e370 dL_sessions_370 ?_
                  exact h373 G356 (kc + 2) (ks + 12) ba0 ba1 bx2 none bx8 (some ba9r) v356 v370 _ _ hG _ (lv_sub hl [0, 1, 2, 3, 4, 5] rfl) h
            · replace h := h.2 ba3r rfl
              rcases ba9 with _ | ba9r
              · replace h := h.1 rfl
                refine lv_icmp_ne (tgt := 401) hx hb dL_sessions_348 (by decide) (fun c348 => ?_) (fun c348 => ?_)
                · rw [if_neg c348] at h
                  refine lv_iconst (v := (0 : Int32)) hx hb dL_sessions_401 (by decide) ?_
                  obtain ⟨y1, y2, h⟩ := h
                  refine W.widen (k := MC) (n := MS) y1 y2 ?_
                  exact g_zret hx hb hr hlocks hK hlo hG rfl h dL_sessions_402
                · rw [if_pos c348] at h
                  refine lv_aload_n hx hb dL_sessions_351 rfl (lv_at hl 0 rfl) ?_
                  refine lv_iload_n hx hb dL_sessions_352 rfl (lv_at hl 2 rfl) ?_
                  refine lv_iload hx hb dL_sessions_353 (lv_at hl 4 rfl) ?_
                  refine lv_iconst (v := (3 : Int32)) hx hb dL_sessions_355 (by decide) ?_
                  obtain ⟨C356, R356, d356, g356, h⟩ := h
                  obtain ⟨u356, o356, h⟩ := h
                  obtain ⟨y356, h⟩ := h
                  rw [g356] at hG
                  refine g_wVi (As := [.int bx2, .int bx8, .int (3 : Int32)]) (rest := []) (n := 3) hx hb hml hown hts hK hlo hG (g_frI d356 (fun lo => g_noX (m_X9_entry l hfl dd cT lo C356 ba0 bx2 bx8 (3 : Int32) h)) lo) qM_L_235 qI_yX9_entry qS_X9_yX9_entry qN_X9 qC_yX9_entry (by decide +kernel) ⟨Nat.le_of_ble_eq_true rfl, Nat.le_of_ble_eq_true rfl⟩ (by rfl) (g_ob_gj o356) rfl hl.1 rfl (Nat.le_of_ble_eq_true rfl) dL_sessions_356 y356 (fun v356x Gx H locs hKx hG => ?_)
                  obtain ⟨D356, h, f356, rfl⟩ := hKx
                  obtain ⟨G356, i356⟩ : ∃ g : gH, g = gj D356 R356 := ⟨_, rfl⟩
                  rw [← i356] at hG
                  replace h := h G356 f356 i356
                  revert h
                  generalize v356x = v356
                  intro h
                  refine lv_aloadN hx hb dL_sessions_359 (lv_at hl 5 rfl) ?_
                  refine lv_ifnonnullN hx hb dL_sessions_361 ?_
                  refine lv_iconst (v := (0 : Int32)) hx hb dL_sessions_364 (by decide) ?_
                  refine lv_goto (tgt := 373) hx hb dL_sessions_365 (by decide) ?_
                  exact h373 G356 (kc + 2) (ks + 12) ba0 ba1 bx2 (some ba3r) bx8 none v356 (0 : Int32) _ _ hG _ (lv_sub hl [0, 1, 2, 3, 4, 5] rfl) h
              · replace h := h.2 ba9r rfl
                refine lv_icmp_ne (tgt := 401) hx hb dL_sessions_348 (by decide) (fun c348 => ?_) (fun c348 => ?_)
                · rw [if_neg c348] at h
                  refine lv_iconst (v := (0 : Int32)) hx hb dL_sessions_401 (by decide) ?_
                  obtain ⟨y1, y2, h⟩ := h
                  refine W.widen (k := MC) (n := MS) y1 y2 ?_
                  exact g_zret hx hb hr hlocks hK hlo hG rfl h dL_sessions_402
                · rw [if_pos c348] at h
                  refine lv_aload_n hx hb dL_sessions_351 rfl (lv_at hl 0 rfl) ?_
                  refine lv_iload_n hx hb dL_sessions_352 rfl (lv_at hl 2 rfl) ?_
                  refine lv_iload hx hb dL_sessions_353 (lv_at hl 4 rfl) ?_
                  refine lv_iconst (v := (3 : Int32)) hx hb dL_sessions_355 (by decide) ?_
                  obtain ⟨C356, R356, d356, g356, h⟩ := h
                  obtain ⟨u356, o356, h⟩ := h
                  obtain ⟨y356, h⟩ := h
                  rw [g356] at hG
                  refine g_wVi (As := [.int bx2, .int bx8, .int (3 : Int32)]) (rest := []) (n := 3) hx hb hml hown hts hK hlo hG (g_frI d356 (fun lo => g_noX (m_X9_entry l hfl dd cT lo C356 ba0 bx2 bx8 (3 : Int32) h)) lo) qM_L_235 qI_yX9_entry qS_X9_yX9_entry qN_X9 qC_yX9_entry (by decide +kernel) ⟨Nat.le_of_ble_eq_true rfl, Nat.le_of_ble_eq_true rfl⟩ (by rfl) (g_ob_gj o356) rfl hl.1 rfl (Nat.le_of_ble_eq_true rfl) dL_sessions_356 y356 (fun v356x Gx H locs hKx hG => ?_)
                  obtain ⟨D356, h, f356, rfl⟩ := hKx
                  obtain ⟨G356, i356⟩ : ∃ g : gH, g = gj D356 R356 := ⟨_, rfl⟩
                  rw [← i356] at hG
                  replace h := h G356 f356 i356
                  revert h
                  generalize v356x = v356
                  intro h
                  refine lv_aload hx hb dL_sessions_359 (lv_at hl 5 rfl) ?_
                  refine lv_ifnonnull (tgt := 368) hx hb dL_sessions_361 (by decide) ?_
                  refine lv_aload hx hb dL_sessions_368 (lv_at hl 5 rfl) ?_
                  obtain ⟨v370, e370, h⟩ := h
                  refine g_getiN hx hb hts inlX13 hown hK hG (by rfl) 3 (by decide) (List.mem_of_getElem? (i := 25) rfl) e370 dL_sessions_370 ?_
                  exact h373 G356 (kc + 2) (ks + 12) ba0 ba1 bx2 (some ba3r) bx8 (some ba9r) v356 v370 _ _ hG _ (lv_sub hl [0, 1, 2, 3, 4, 5] rfl) h
          have h323 : ∀ (G : gH) (kc ks : Nat) (ba0 : Nat) (ba1 : Nat) (bx2 : Int32) (ba3 : Option Nat) (bx8 : Int32) (ba9 : Option Nat) (z0 : Int32) (z1 : Int32) (H : Heap) (locs : List Loc), g_S lo dd cT s H locs G → ∀ ls : Array Slot, lv_has ls 10 [(0, .ref ba0), (1, .ref ba1), (2, .int bx2), (3, va_rf ba3), (8, .int bx8), (9, va_rf ba9)] → w_L_sessions_J323 MC MS K (w_L_sessions_L2 MC MS K n2) (w_L_sessions_L265 MC MS K (w_L_sessions_L2 MC MS K n2) n265) G kc ks ba0 ba1 bx2 ba3 bx8 ba9 z0 z1 → W p l e (g_rm 8 143 MC MS) s m ([.ref a0, .ref a1] : List Value).toArray below meth c H locs kc ks (MQ below (va_Qi K (g_Pre lo dd cT) (g_A lo)) ([.ref a0, .ref a1] : List Value).toArray s MC MS (g_A lo)) (F0 m 323 ls [.int z1, .int z0]) := by
            intro G kc ks ba0 ba1 bx2 ba3 bx8 ba9 z0 z1 H locs hG ls hl h
            unfold w_L_sessions_J323 at h
            rcases ba3 with _ | ba3r
            · replace h := h.1 rfl
              rcases ba9 with _ | ba9r
              · replace h := h.1 rfl
                refine lv_icmp_ne (tgt := 401) hx hb dL_sessions_323 (by decide) (fun c323 => ?_) (fun c323 => ?_)
                · rw [if_neg c323] at h
                  refine lv_iconst (v := (0 : Int32)) hx hb dL_sessions_401 (by decide) ?_
                  obtain ⟨y1, y2, h⟩ := h
                  refine W.widen (k := MC) (n := MS) y1 y2 ?_
                  exact g_zret hx hb hr hlocks hK hlo hG rfl h dL_sessions_402
                · rw [if_pos c323] at h
                  refine lv_aload_n hx hb dL_sessions_326 rfl (lv_at hl 0 rfl) ?_
                  refine lv_iload_n hx hb dL_sessions_327 rfl (lv_at hl 2 rfl) ?_
                  refine lv_iload hx hb dL_sessions_328 (lv_at hl 4 rfl) ?_
                  refine lv_iconst (v := (2 : Int32)) hx hb dL_sessions_330 (by decide) ?_
                  obtain ⟨C331, R331, d331, g331, h⟩ := h
                  obtain ⟨u331, o331, h⟩ := h
                  obtain ⟨y331, h⟩ := h
                  rw [g331] at hG
                  refine g_wVi (As := [.int bx2, .int bx8, .int (2 : Int32)]) (rest := []) (n := 3) hx hb hml hown hts hK hlo hG (g_frI d331 (fun lo => g_noX (m_X9_entry l hfl dd cT lo C331 ba0 bx2 bx8 (2 : Int32) h)) lo) qM_L_235 qI_yX9_entry qS_X9_yX9_entry qN_X9 qC_yX9_entry (by decide +kernel) ⟨Nat.le_of_ble_eq_true rfl, Nat.le_of_ble_eq_true rfl⟩ (by rfl) (g_ob_gj o331) rfl hl.1 rfl (Nat.le_of_ble_eq_true rfl) dL_sessions_331 y331 (fun v331x Gx H locs hKx hG => ?_)
                  obtain ⟨D331, h, f331, rfl⟩ := hKx
                  obtain ⟨G331, i331⟩ : ∃ g : gH, g = gj D331 R331 := ⟨_, rfl⟩
                  rw [← i331] at hG
                  replace h := h G331 f331 i331
                  revert h
                  generalize v331x = v331
                  intro h
                  refine lv_aloadN hx hb dL_sessions_334 (lv_at hl 5 rfl) ?_
                  refine lv_ifnonnullN hx hb dL_sessions_336 ?_
                  refine lv_iconst (v := (-1 : Int32)) hx hb dL_sessions_339 (by decide) ?_
                  refine lv_goto (tgt := 348) hx hb dL_sessions_340 (by decide) ?_
                  exact h348 G331 (kc + 2) (ks + 12) ba0 ba1 bx2 none bx8 none v331 (-1 : Int32) _ _ hG _ (lv_sub hl [0, 1, 2, 3, 4, 5] rfl) h
              · replace h := h.2 ba9r rfl
                refine lv_icmp_ne (tgt := 401) hx hb dL_sessions_323 (by decide) (fun c323 => ?_) (fun c323 => ?_)
                · rw [if_neg c323] at h
                  refine lv_iconst (v := (0 : Int32)) hx hb dL_sessions_401 (by decide) ?_
                  obtain ⟨y1, y2, h⟩ := h
                  refine W.widen (k := MC) (n := MS) y1 y2 ?_
                  exact g_zret hx hb hr hlocks hK hlo hG rfl h dL_sessions_402
                · rw [if_pos c323] at h
                  refine lv_aload_n hx hb dL_sessions_326 rfl (lv_at hl 0 rfl) ?_
                  refine lv_iload_n hx hb dL_sessions_327 rfl (lv_at hl 2 rfl) ?_
                  refine lv_iload hx hb dL_sessions_328 (lv_at hl 4 rfl) ?_
                  refine lv_iconst (v := (2 : Int32)) hx hb dL_sessions_330 (by decide) ?_
                  obtain ⟨C331, R331, d331, g331, h⟩ := h
                  obtain ⟨u331, o331, h⟩ := h
                  obtain ⟨y331, h⟩ := h
                  rw [g331] at hG
                  refine g_wVi (As := [.int bx2, .int bx8, .int (2 : Int32)]) (rest := []) (n := 3) hx hb hml hown hts hK hlo hG (g_frI d331 (fun lo => g_noX (m_X9_entry l hfl dd cT lo C331 ba0 bx2 bx8 (2 : Int32) h)) lo) qM_L_235 qI_yX9_entry qS_X9_yX9_entry qN_X9 qC_yX9_entry (by decide +kernel) ⟨Nat.le_of_ble_eq_true rfl, Nat.le_of_ble_eq_true rfl⟩ (by rfl) (g_ob_gj o331) rfl hl.1 rfl (Nat.le_of_ble_eq_true rfl) dL_sessions_331 y331 (fun v331x Gx H locs hKx hG => ?_)
                  obtain ⟨D331, h, f331, rfl⟩ := hKx
                  obtain ⟨G331, i331⟩ : ∃ g : gH, g = gj D331 R331 := ⟨_, rfl⟩
                  rw [← i331] at hG
                  replace h := h G331 f331 i331
                  revert h
                  generalize v331x = v331
                  intro h
                  refine lv_aload hx hb dL_sessions_334 (lv_at hl 5 rfl) ?_
                  refine lv_ifnonnull (tgt := 343) hx hb dL_sessions_336 (by decide) ?_
                  refine lv_aload hx hb dL_sessions_343 (lv_at hl 5 rfl) ?_
                  obtain ⟨v345, e345, h⟩ := h
                  refine g_getiN hx hb hts inlX13 hown hK hG (by rfl) 2 (by decide) (List.mem_of_getElem? (i := 24) rfl) e345 dL_sessions_345 ?_
                  exact h348 G331 (kc + 2) (ks + 12) ba0 ba1 bx2 none bx8 (some ba9r) v331 v345 _ _ hG _ (lv_sub hl [0, 1, 2, 3, 4, 5] rfl) h
            · replace h := h.2 ba3r rfl
              rcases ba9 with _ | ba9r
              · replace h := h.1 rfl
                refine lv_icmp_ne (tgt := 401) hx hb dL_sessions_323 (by decide) (fun c323 => ?_) (fun c323 => ?_)
                · rw [if_neg c323] at h
                  refine lv_iconst (v := (0 : Int32)) hx hb dL_sessions_401 (by decide) ?_
                  obtain ⟨y1, y2, h⟩ := h
                  refine W.widen (k := MC) (n := MS) y1 y2 ?_
                  exact g_zret hx hb hr hlocks hK hlo hG rfl h dL_sessions_402
                · rw [if_pos c323] at h
                  refine lv_aload_n hx hb dL_sessions_326 rfl (lv_at hl 0 rfl) ?_
                  refine lv_iload_n hx hb dL_sessions_327 rfl (lv_at hl 2 rfl) ?_
                  refine lv_iload hx hb dL_sessions_328 (lv_at hl 4 rfl) ?_
                  refine lv_iconst (v := (2 : Int32)) hx hb dL_sessions_330 (by decide) ?_
                  obtain ⟨C331, R331, d331, g331, h⟩ := h
                  obtain ⟨u331, o331, h⟩ := h
                  obtain ⟨y331, h⟩ := h
                  rw [g331] at hG
                  refine g_wVi (As := [.int bx2, .int bx8, .int (2 : Int32)]) (rest := []) (n := 3) hx hb hml hown hts hK hlo hG (g_frI d331 (fun lo => g_noX (m_X9_entry l hfl dd cT lo C331 ba0 bx2 bx8 (2 : Int32) h)) lo) qM_L_235 qI_yX9_entry qS_X9_yX9_entry qN_X9 qC_yX9_entry (by decide +kernel) ⟨Nat.le_of_ble_eq_true rfl, Nat.le_of_ble_eq_true rfl⟩ (by rfl) (g_ob_gj o331) rfl hl.1 rfl (Nat.le_of_ble_eq_true rfl) dL_sessions_331 y331 (fun v331x Gx H locs hKx hG => ?_)
                  obtain ⟨D331, h, f331, rfl⟩ := hKx
                  obtain ⟨G331, i331⟩ : ∃ g : gH, g = gj D331 R331 := ⟨_, rfl⟩
                  rw [← i331] at hG
                  replace h := h G331 f331 i331
                  revert h
                  generalize v331x = v331
                  intro h
                  refine lv_aloadN hx hb dL_sessions_334 (lv_at hl 5 rfl) ?_
                  refine lv_ifnonnullN hx hb dL_sessions_336 ?_
                  refine lv_iconst (v := (-1 : Int32)) hx hb dL_sessions_339 (by decide) ?_
                  refine lv_goto (tgt := 348) hx hb dL_sessions_340 (by decide) ?_
                  exact h348 G331 (kc + 2) (ks + 12) ba0 ba1 bx2 (some ba3r) bx8 none v331 (-1 : Int32) _ _ hG _ (lv_sub hl [0, 1, 2, 3, 4, 5] rfl) h
              · replace h := h.2 ba9r rfl
                refine lv_icmp_ne (tgt := 401) hx hb dL_sessions_323 (by decide) (fun c323 => ?_) (fun c323 => ?_)
                · rw [if_neg c323] at h
                  refine lv_iconst (v := (0 : Int32)) hx hb dL_sessions_401 (by decide) ?_
                  obtain ⟨y1, y2, h⟩ := h
                  refine W.widen (k := MC) (n := MS) y1 y2 ?_
                  exact g_zret hx hb hr hlocks hK hlo hG rfl h dL_sessions_402
                · rw [if_pos c323] at h
                  refine lv_aload_n hx hb dL_sessions_326 rfl (lv_at hl 0 rfl) ?_
                  refine lv_iload_n hx hb dL_sessions_327 rfl (lv_at hl 2 rfl) ?_
                  refine lv_iload hx hb dL_sessions_328 (lv_at hl 4 rfl) ?_
                  refine lv_iconst (v := (2 : Int32)) hx hb dL_sessions_330 (by decide) ?_
                  obtain ⟨C331, R331, d331, g331, h⟩ := h
                  obtain ⟨u331, o331, h⟩ := h
                  obtain ⟨y331, h⟩ := h
                  rw [g331] at hG
                  refine g_wVi (As := [.int bx2, .int bx8, .int (2 : Int32)]) (rest := []) (n := 3) hx hb hml hown hts hK hlo hG (g_frI d331 (fun lo => g_noX (m_X9_entry l hfl dd cT lo C331 ba0 bx2 bx8 (2 : Int32) h)) lo) qM_L_235 qI_yX9_entry qS_X9_yX9_entry qN_X9 qC_yX9_entry (by decide +kernel) ⟨Nat.le_of_ble_eq_true rfl, Nat.le_of_ble_eq_true rfl⟩ (by rfl) (g_ob_gj o331) rfl hl.1 rfl (Nat.le_of_ble_eq_true rfl) dL_sessions_331 y331 (fun v331x Gx H locs hKx hG => ?_)
                  obtain ⟨D331, h, f331, rfl⟩ := hKx
                  obtain ⟨G331, i331⟩ : ∃ g : gH, g = gj D331 R331 := ⟨_, rfl⟩
                  rw [← i331] at hG
                  replace h := h G331 f331 i331
                  revert h
                  generalize v331x = v331
                  intro h
                  refine lv_aload hx hb dL_sessions_334 (lv_at hl 5 rfl) ?_
                  refine lv_ifnonnull (tgt := 343) hx hb dL_sessions_336 (by decide) ?_
                  refine lv_aload hx hb dL_sessions_343 (lv_at hl 5 rfl) ?_
                  obtain ⟨v345, e345, h⟩ := h
                  refine g_getiN hx hb hts inlX13 hown hK hG (by rfl) 2 (by decide) (List.mem_of_getElem? (i := 24) rfl) e345 dL_sessions_345 ?_
                  exact h348 G331 (kc + 2) (ks + 12) ba0 ba1 bx2 (some ba3r) bx8 (some ba9r) v331 v345 _ _ hG _ (lv_sub hl [0, 1, 2, 3, 4, 5] rfl) h
          intro G kc ks ba0 ba1 bx2 ba3 bx8 H locs hG ls hl h
          rw [w_L_sessions_L265] at h
          rcases ba3 with _ | ba3r
          · replace h := h.1 rfl
            refine lv_iload hx hb dL_sessions_265 (lv_at hl 4 rfl) ?_
            refine lv_aload_nN hx hb dL_sessions_267 rfl (lv_at hl 3 rfl) ?_
            exact (show False from h).elim
          · replace h := h.2 ba3r rfl
            refine lv_iload hx hb dL_sessions_265 (lv_at hl 4 rfl) ?_
            refine lv_aload_n hx hb dL_sessions_267 rfl (lv_at hl 3 rfl) ?_
            obtain ⟨v268, e268, h⟩ := h
            refine g_getiN hx hb hts inlX12 hown hK hG (by rfl) 2 (by decide) (List.mem_of_getElem? (i := 19) rfl) e268 dL_sessions_268 ?_
            refine lv_icmp_ge (tgt := 409) hx hb dL_sessions_271 (by decide) (fun c271 => ?_) (fun c271 => ?_)
            · rw [if_pos c271] at h
              refine lv_aload_n hx hb dL_sessions_409 rfl (lv_at hl 0 rfl) ?_
              refine lv_iload_n hx hb dL_sessions_410 rfl (lv_at hl 2 rfl) ?_
              refine lv_aload_n hx hb dL_sessions_411 rfl (lv_at hl 3 rfl) ?_
              obtain ⟨v412, e412, h⟩ := h
              refine g_getiN hx hb hts inlX12 hown hK hG (by rfl) 2 (by decide) (List.mem_of_getElem? (i := 19) rfl) e412 dL_sessions_412 ?_
              refine lv_iconst (v := (0 : Int32)) hx hb dL_sessions_415 (by decide) ?_
              obtain ⟨C416, R416, d416, g416, h⟩ := h
              obtain ⟨u416, o416, h⟩ := h
              obtain ⟨y416, h⟩ := h
              rw [g416] at hG
              refine g_wVi (As := [.int bx2, .int v412, .int (0 : Int32)]) (rest := []) (n := 3) hx hb hml hown hts hK hlo hG (g_frI d416 (fun lo => g_noX (m_X9_entry l hfl dd cT lo C416 ba0 bx2 v412 (0 : Int32) h)) lo) qM_L_235 qI_yX9_entry qS_X9_yX9_entry qN_X9 qC_yX9_entry (by decide +kernel) ⟨Nat.le_of_ble_eq_true rfl, Nat.le_of_ble_eq_true rfl⟩ (by rfl) (g_ob_gj o416) rfl hl.1 rfl (Nat.le_of_ble_eq_true rfl) dL_sessions_416 y416 (fun v416x Gx H locs hKx hG => ?_)
              obtain ⟨D416, h, f416, rfl⟩ := hKx
              obtain ⟨G416, i416⟩ : ∃ g : gH, g = gj D416 R416 := ⟨_, rfl⟩
              rw [← i416] at hG
              replace h := h G416 f416 i416
              revert h
              generalize v416x = v416
              intro h
              refine lv_iconst (v := (-1 : Int32)) hx hb dL_sessions_419 (by decide) ?_
              refine lv_icmp_ne (tgt := 436) hx hb dL_sessions_420 (by decide) (fun c420 => ?_) (fun c420 => ?_)
              · rw [if_neg c420] at h
                refine lv_iconst (v := (0 : Int32)) hx hb dL_sessions_436 (by decide) ?_
                obtain ⟨y1, y2, h⟩ := h
                refine W.widen (k := MC) (n := MS) y1 y2 ?_
                exact g_zret hx hb hr hlocks hK hlo hG rfl h dL_sessions_437
              · rw [if_pos c420] at h
                refine lv_aload_n hx hb dL_sessions_423 rfl (lv_at hl 0 rfl) ?_
                refine lv_iload_n hx hb dL_sessions_424 rfl (lv_at hl 2 rfl) ?_
                obtain ⟨C425, R425, d425, g425, h⟩ := h
                obtain ⟨u425, o425, h⟩ := h
                obtain ⟨y425, h⟩ := h
                rw [g425] at hG
                refine g_wVi (As := [.int bx2]) (rest := []) (n := 1) hx hb hml hown hts hK hlo hG (g_frI d425 (fun lo => g_noX (m_X9_filesBefore l hfl dd cT lo C425 ba0 bx2 h)) lo) qM_L_247 qI_yX9_filesBefore qS_X9_yX9_filesBefore qN_X9 qC_yX9_filesBefore (by decide +kernel) ⟨Nat.le_of_ble_eq_true rfl, Nat.le_of_ble_eq_true rfl⟩ (by rfl) (g_ob_gj o425) rfl hl.1 rfl (Nat.le_of_ble_eq_true rfl) dL_sessions_425 y425 (fun v425x Gx H locs hKx hG => ?_)
                obtain ⟨D425, h, f425, rfl⟩ := hKx
                obtain ⟨G425, i425⟩ : ∃ g : gH, g = gj D425 R425 := ⟨_, rfl⟩
                rw [← i425] at hG
                replace h := h G425 f425 i425
                revert h
                generalize v425x = v425
                intro h
                refine lv_aload_n hx hb dL_sessions_428 rfl (lv_at hl 1 rfl) ?_
                refine lv_iload_n hx hb dL_sessions_429 rfl (lv_at hl 2 rfl) ?_
                obtain ⟨C430, R430, d430, g430, h⟩ := h
                obtain ⟨u430, o430, h⟩ := h
                obtain ⟨y430, h⟩ := h
                obtain ⟨v430, e430, h⟩ := h
                rw [g430] at hG
                refine g_wVi (As := [.int bx2]) (rest := [.int v425]) (n := 1) hx hb hml hown hts hK hlo hG (g_frI d430 (fun lo => m_X10_there l dd cT lo C430 ba1 bx2 e430) lo) qM_L_178 qI_yX10_there qS_X10_yX10_there qN_X10 qC_yX10_there (by decide +kernel) ⟨Nat.le_of_ble_eq_true rfl, Nat.le_of_ble_eq_true rfl⟩ (by rfl) (g_ob_gj o430) rfl hl.1 rfl (Nat.le_of_ble_eq_true rfl) dL_sessions_430 y430 (fun v430x Gx H locs hKx hG => ?_)
                obtain ⟨D430, ⟨k430a, k430⟩, f430, l430⟩ := hKx
                rw [l430, k430] at hG
                rw [k430] at f430
                rw [k430a]
                rw [← g430] at hG
                refine lv_icmp_eq (tgt := 438) hx hb dL_sessions_433 (by decide) (fun c433 => ?_) (fun c433 => ?_)
                · rw [if_pos c433] at h
                  refine lv_iinc (v := (bx2 + (1 : Int32))) (lv' := [(2, .int (bx2 + (1 : Int32))), (0, .ref ba0), (1, .ref ba1), (3, .ref ba3r), (8, .int bx8)]) hx hb dL_sessions_438 hl (k := 2) rfl rfl (by decide) rfl (fun ls hl => ?_)
                  refine lv_goto (tgt := 2) hx hb dL_sessions_441 (by decide) ?_
                  exact ih2 G425 ((kc + 2) + 1) ((ks + 12) + 6) ba0 ba1 (bx2 + (1 : Int32)) _ _ hG _ (lv_sub hl [1, 2, 0] rfl) h
                · rw [if_neg c433] at h
                  refine lv_iconst (v := (0 : Int32)) hx hb dL_sessions_436 (by decide) ?_
                  obtain ⟨y1, y2, h⟩ := h
                  refine W.widen (k := MC) (n := MS) y1 y2 ?_
                  exact g_zret hx hb hr hlocks hK hlo hG rfl h dL_sessions_437
            · rw [if_neg c271] at h
              refine lv_aload_n hx hb dL_sessions_274 rfl (lv_at hl 3 rfl) ?_
              obtain ⟨v275, e275, h⟩ := h
              refine g_getrN hx hb hts inlX12 hown hK hG (by rfl) 8 (by decide) (List.mem_of_getElem? (i := 22) rfl) e275 dL_sessions_275 ?_
              refine lv_iload hx hb dL_sessions_278 (lv_at hl 4 rfl) ?_
              obtain ⟨v280, e280, h⟩ := h
              refine g_rald_row hx hb hK hG (t := 6) rfl e280 dL_sessions_280 ?_
              rcases v280 with _ | r280
              · replace h := h.1 rfl
                refine lv_astoreN (lv' := [(9, .null), (0, .ref ba0), (1, .ref ba1), (2, .int bx2), (3, .ref ba3r), (8, .int bx8)]) hx hb dL_sessions_281 hl (by decide) rfl (fun ls hl => ?_)
                refine lv_aload_n hx hb dL_sessions_283 rfl (lv_at hl 1 rfl) ?_
                refine lv_iload_n hx hb dL_sessions_284 rfl (lv_at hl 3 rfl) ?_
                refine lv_iload hx hb dL_sessions_285 (lv_at hl 5 rfl) ?_
                refine lv_iconst (v := (0 : Int32)) hx hb dL_sessions_287 (by decide) ?_
                obtain ⟨C288, R288, d288, g288, h⟩ := h
                obtain ⟨u288, o288, h⟩ := h
                obtain ⟨y288, h⟩ := h
                rw [g288] at hG
                refine g_wVi (As := [.int bx2, .int bx8, .int (0 : Int32)]) (rest := []) (n := 3) hx hb hml hown hts hK hlo hG (g_frI d288 (fun lo => g_noX (m_X9_entry l hfl dd cT lo C288 ba0 bx2 bx8 (0 : Int32) h)) lo) qM_L_235 qI_yX9_entry qS_X9_yX9_entry qN_X9 qC_yX9_entry (by decide +kernel) ⟨Nat.le_of_ble_eq_true rfl, Nat.le_of_ble_eq_true rfl⟩ (by rfl) (g_ob_gj o288) rfl hl.1 rfl (Nat.le_of_ble_eq_true rfl) dL_sessions_288 y288 (fun v288x Gx H locs hKx hG => ?_)
                obtain ⟨D288, h, f288, rfl⟩ := hKx
                obtain ⟨G288, i288⟩ : ∃ g : gH, g = gj D288 R288 := ⟨_, rfl⟩
                rw [← i288] at hG
                replace h := h G288 f288 i288
                revert h
                generalize v288x = v288
                intro h
                refine lv_aload_n hx hb dL_sessions_291 rfl (lv_at hl 4 rfl) ?_
                obtain ⟨v292, e292, h⟩ := h
                refine g_getrN hx hb hts inlX12 hown hK hG (by rfl) 6 (by decide) (List.mem_of_getElem? (i := 23) rfl) e292 dL_sessions_292 ?_
                refine lv_iload hx hb dL_sessions_295 (lv_at hl 5 rfl) ?_
                obtain ⟨v297, e297, h⟩ := h
                refine g_iald hx hb hK hG e297 dL_sessions_297 ?_
                refine lv_icmp_ne (tgt := 401) hx hb dL_sessions_298 (by decide) (fun c298 => ?_) (fun c298 => ?_)
                · rw [if_neg c298] at h
                  refine lv_iconst (v := (0 : Int32)) hx hb dL_sessions_401 (by decide) ?_
                  obtain ⟨y1, y2, h⟩ := h
                  refine W.widen (k := MC) (n := MS) y1 y2 ?_
                  exact g_zret hx hb hr hlocks hK hlo hG rfl h dL_sessions_402
                · rw [if_pos c298] at h
                  refine lv_aload_n hx hb dL_sessions_301 rfl (lv_at hl 1 rfl) ?_
                  refine lv_iload_n hx hb dL_sessions_302 rfl (lv_at hl 3 rfl) ?_
                  refine lv_iload hx hb dL_sessions_303 (lv_at hl 5 rfl) ?_
                  refine lv_iconst (v := (1 : Int32)) hx hb dL_sessions_305 (by decide) ?_
                  obtain ⟨C306, R306, d306, g306, h⟩ := h
                  obtain ⟨u306, o306, h⟩ := h
                  obtain ⟨y306, h⟩ := h
                  rw [g306] at hG
                  refine g_wVi (As := [.int bx2, .int bx8, .int (1 : Int32)]) (rest := []) (n := 3) hx hb hml hown hts hK hlo hG (g_frI d306 (fun lo => g_noX (m_X9_entry l hfl dd cT lo C306 ba0 bx2 bx8 (1 : Int32) h)) lo) qM_L_235 qI_yX9_entry qS_X9_yX9_entry qN_X9 qC_yX9_entry (by decide +kernel) ⟨Nat.le_of_ble_eq_true rfl, Nat.le_of_ble_eq_true rfl⟩ (by rfl) (g_ob_gj o306) rfl hl.1 rfl (Nat.le_of_ble_eq_true rfl) dL_sessions_306 y306 (fun v306x Gx H locs hKx hG => ?_)
                  obtain ⟨D306, h, f306, rfl⟩ := hKx
                  obtain ⟨G306, i306⟩ : ∃ g : gH, g = gj D306 R306 := ⟨_, rfl⟩
                  rw [← i306] at hG
                  replace h := h G306 f306 i306
                  revert h
                  generalize v306x = v306
                  intro h
                  refine lv_aloadN hx hb dL_sessions_309 (lv_at hl 0 rfl) ?_
                  refine lv_ifnonnullN hx hb dL_sessions_311 ?_
                  refine lv_iconst (v := (-1 : Int32)) hx hb dL_sessions_314 (by decide) ?_
                  refine lv_goto (tgt := 323) hx hb dL_sessions_315 (by decide) ?_
                  exact h323 G306 ((kc + 2) + 2) ((ks + 12) + 12) ba0 ba1 bx2 (some ba3r) bx8 none v306 (-1 : Int32) _ _ hG _ (lv_sub hl [1, 2, 3, 4, 5, 0] rfl) h
              · replace h := h.2 r280 rfl
                refine lv_astore (lv' := [(9, .ref r280), (0, .ref ba0), (1, .ref ba1), (2, .int bx2), (3, .ref ba3r), (8, .int bx8)]) hx hb dL_sessions_281 hl (by decide) rfl (fun ls hl => ?_)
                refine lv_aload_n hx hb dL_sessions_283 rfl (lv_at hl 1 rfl) ?_
                refine lv_iload_n hx hb dL_sessions_284 rfl (lv_at hl 3 rfl) ?_
                refine lv_iload hx hb dL_sessions_285 (lv_at hl 5 rfl) ?_
                refine lv_iconst (v := (0 : Int32)) hx hb dL_sessions_287 (by decide) ?_
                obtain ⟨C288, R288, d288, g288, h⟩ := h
                obtain ⟨u288, o288, h⟩ := h
                obtain ⟨y288, h⟩ := h
                rw [g288] at hG
                refine g_wVi (As := [.int bx2, .int bx8, .int (0 : Int32)]) (rest := []) (n := 3) hx hb hml hown hts hK hlo hG (g_frI d288 (fun lo => g_noX (m_X9_entry l hfl dd cT lo C288 ba0 bx2 bx8 (0 : Int32) h)) lo) qM_L_235 qI_yX9_entry qS_X9_yX9_entry qN_X9 qC_yX9_entry (by decide +kernel) ⟨Nat.le_of_ble_eq_true rfl, Nat.le_of_ble_eq_true rfl⟩ (by rfl) (g_ob_gj o288) rfl hl.1 rfl (Nat.le_of_ble_eq_true rfl) dL_sessions_288 y288 (fun v288x Gx H locs hKx hG => ?_)
                obtain ⟨D288, h, f288, rfl⟩ := hKx
                obtain ⟨G288, i288⟩ : ∃ g : gH, g = gj D288 R288 := ⟨_, rfl⟩
                rw [← i288] at hG
                replace h := h G288 f288 i288
                revert h
                generalize v288x = v288
                intro h
                refine lv_aload_n hx hb dL_sessions_291 rfl (lv_at hl 4 rfl) ?_
                obtain ⟨v292, e292, h⟩ := h
                refine g_getrN hx hb hts inlX12 hown hK hG (by rfl) 6 (by decide) (List.mem_of_getElem? (i := 23) rfl) e292 dL_sessions_292 ?_
                refine lv_iload hx hb dL_sessions_295 (lv_at hl 5 rfl) ?_
                obtain ⟨v297, e297, h⟩ := h
                refine g_iald hx hb hK hG e297 dL_sessions_297 ?_
                refine lv_icmp_ne (tgt := 401) hx hb dL_sessions_298 (by decide) (fun c298 => ?_) (fun c298 => ?_)
                · rw [if_neg c298] at h
                  refine lv_iconst (v := (0 : Int32)) hx hb dL_sessions_401 (by decide) ?_
                  obtain ⟨y1, y2, h⟩ := h
                  refine W.widen (k := MC) (n := MS) y1 y2 ?_
                  exact g_zret hx hb hr hlocks hK hlo hG rfl h dL_sessions_402
                · rw [if_pos c298] at h
                  refine lv_aload_n hx hb dL_sessions_301 rfl (lv_at hl 1 rfl) ?_
                  refine lv_iload_n hx hb dL_sessions_302 rfl (lv_at hl 3 rfl) ?_
                  refine lv_iload hx hb dL_sessions_303 (lv_at hl 5 rfl) ?_
                  refine lv_iconst (v := (1 : Int32)) hx hb dL_sessions_305 (by decide) ?_
                  obtain ⟨C306, R306, d306, g306, h⟩ := h
                  obtain ⟨u306, o306, h⟩ := h
                  obtain ⟨y306, h⟩ := h
                  rw [g306] at hG
                  refine g_wVi (As := [.int bx2, .int bx8, .int (1 : Int32)]) (rest := []) (n := 3) hx hb hml hown hts hK hlo hG (g_frI d306 (fun lo => g_noX (m_X9_entry l hfl dd cT lo C306 ba0 bx2 bx8 (1 : Int32) h)) lo) qM_L_235 qI_yX9_entry qS_X9_yX9_entry qN_X9 qC_yX9_entry (by decide +kernel) ⟨Nat.le_of_ble_eq_true rfl, Nat.le_of_ble_eq_true rfl⟩ (by rfl) (g_ob_gj o306) rfl hl.1 rfl (Nat.le_of_ble_eq_true rfl) dL_sessions_306 y306 (fun v306x Gx H locs hKx hG => ?_)
                  obtain ⟨D306, h, f306, rfl⟩ := hKx
                  obtain ⟨G306, i306⟩ : ∃ g : gH, g = gj D306 R306 := ⟨_, rfl⟩
                  rw [← i306] at hG
                  replace h := h G306 f306 i306
                  revert h
                  generalize v306x = v306
                  intro h
                  refine lv_aload hx hb dL_sessions_309 (lv_at hl 0 rfl) ?_
                  refine lv_ifnonnull (tgt := 318) hx hb dL_sessions_311 (by decide) ?_
                  refine lv_aload hx hb dL_sessions_318 (lv_at hl 0 rfl) ?_
                  obtain ⟨v320, e320, h⟩ := h
                  refine g_getiN hx hb hts inlX13 hown hK hG (by rfl) 1 (by decide) (List.mem_of_getElem? (i := 8) rfl) e320 dL_sessions_320 ?_
                  exact h323 G306 ((kc + 2) + 2) ((ks + 12) + 12) ba0 ba1 bx2 (some ba3r) bx8 (some r280) v306 v320 _ _ hG _ (lv_sub hl [1, 2, 3, 4, 5, 0] rfl) h
      have h233 : ∀ n233 : Nat, ∀ (G : gH) (kc ks : Nat) (ba0 : Nat) (ba1 : Nat) (bx2 : Int32) (ba3 : Option Nat) (ba6 : Nat) (bx8 : Int32) (H : Heap) (locs : List Loc), g_S lo dd cT s H locs G → ∀ ls : Array Slot, lv_has ls 10 [(0, .ref ba0), (1, .ref ba1), (2, .int bx2), (3, va_rf ba3), (6, .ref ba6), (8, .int bx8)] → w_L_sessions_L233 MC MS K (w_L_sessions_L2 MC MS K n2) n233 G kc ks ba0 ba1 bx2 ba3 ba6 bx8 → W p l e (g_rm 8 143 MC MS) s m ([.ref a0, .ref a1] : List Value).toArray below meth c H locs kc ks (MQ below (va_Qi K (g_Pre lo dd cT) (g_A lo)) ([.ref a0, .ref a1] : List Value).toArray s MC MS (g_A lo)) (F0 m 233 ls []) := by
        intro n233
        induction n233 with
        | zero =>
          intro G kc ks ba0 ba1 bx2 ba3 ba6 bx8 H locs hG ls hl h
          exact (show False from h).elim
        | succ n233 ih233 =>
          intro G kc ks ba0 ba1 bx2 ba3 ba6 bx8 H locs hG ls hl h
          rw [w_L_sessions_L233] at h
          rcases ba3 with _ | ba3r
          · replace h := h.1 rfl
            refine lv_iload hx hb dL_sessions_233 (lv_at hl 5 rfl) ?_
            refine lv_iconst (v := (5 : Int32)) hx hb dL_sessions_235 (by decide) ?_
            refine lv_icmp_ge (tgt := 262) hx hb dL_sessions_236 (by decide) (fun c236 => ?_) (fun c236 => ?_)
            · rw [if_pos c236] at h
              refine lv_iconst (v := (0 : Int32)) hx hb dL_sessions_262 (by decide) ?_
              refine lv_istore (lv' := [(8, .int (0 : Int32)), (0, .ref ba0), (1, .ref ba1), (2, .int bx2), (3, .null), (6, .ref ba6)]) hx hb dL_sessions_263 hl (by decide) rfl (fun ls hl => ?_)
              exact h265 g_N G kc ks ba0 ba1 bx2 none (0 : Int32) _ _ hG _ (lv_sub hl [1, 2, 3, 4, 0] rfl) h
            · rw [if_neg c236] at h
              refine lv_aload_n hx hb dL_sessions_239 rfl (lv_at hl 0 rfl) ?_
              refine lv_iload_n hx hb dL_sessions_240 rfl (lv_at hl 2 rfl) ?_
              refine lv_iload hx hb dL_sessions_241 (lv_at hl 5 rfl) ?_
              obtain ⟨C243, R243, d243, g243, h⟩ := h
              obtain ⟨u243, o243, h⟩ := h
              obtain ⟨y243, h⟩ := h
              rw [g243] at hG
              refine g_wVi (As := [.int bx2, .int bx8]) (rest := []) (n := 2) hx hb hml hown hts hK hlo hG (g_frI d243 (fun lo => g_noX (m_X9_spaceOf l hfl dd cT lo C243 ba0 bx2 bx8 h)) lo) qM_L_229 qI_yX9_spaceOf qS_X9_yX9_spaceOf qN_X9 qC_yX9_spaceOf (by decide +kernel) ⟨Nat.le_of_ble_eq_true rfl, Nat.le_of_ble_eq_true rfl⟩ (by rfl) (g_ob_gj o243) rfl hl.1 rfl (Nat.le_of_ble_eq_true rfl) dL_sessions_243 y243 (fun v243x Gx H locs hKx hG => ?_)
              obtain ⟨D243, h, f243, rfl⟩ := hKx
              obtain ⟨G243, i243⟩ : ∃ g : gH, g = gj D243 R243 := ⟨_, rfl⟩
              rw [← i243] at hG
              replace h := h G243 f243 i243
              revert h
              generalize v243x = v243
              intro h
              refine lv_aload hx hb dL_sessions_246 (lv_at hl 4 rfl) ?_
              refine lv_iload hx hb dL_sessions_248 (lv_at hl 5 rfl) ?_
              obtain ⟨v250, e250, h⟩ := h
              refine g_iald hx hb hK hG e250 dL_sessions_250 ?_
              refine lv_icmp_eq (tgt := 256) hx hb dL_sessions_251 (by decide) (fun c251 => ?_) (fun c251 => ?_)
              · rw [if_pos c251] at h
                refine lv_iinc (v := (bx8 + (1 : Int32))) (lv' := [(8, .int (bx8 + (1 : Int32))), (0, .ref ba0), (1, .ref ba1), (2, .int bx2), (3, .null), (6, .ref ba6)]) hx hb dL_sessions_256 hl (k := 5) rfl rfl (by decide) rfl (fun ls hl => ?_)
                refine lv_goto (tgt := 233) hx hb dL_sessions_259 (by decide) ?_
                exact ih233 G243 (kc + 2) (ks + 12) ba0 ba1 bx2 none ba6 (bx8 + (1 : Int32)) _ _ hG _ (lv_sub hl [1, 2, 3, 4, 5, 0] rfl) h
              · rw [if_neg c251] at h
                refine lv_iconst (v := (0 : Int32)) hx hb dL_sessions_254 (by decide) ?_
                obtain ⟨y1, y2, h⟩ := h
                refine W.widen (k := MC) (n := MS) y1 y2 ?_
                exact g_zret hx hb hr hlocks hK hlo hG rfl h dL_sessions_255
          · replace h := h.2 ba3r rfl
            refine lv_iload hx hb dL_sessions_233 (lv_at hl 5 rfl) ?_
            refine lv_iconst (v := (5 : Int32)) hx hb dL_sessions_235 (by decide) ?_
            refine lv_icmp_ge (tgt := 262) hx hb dL_sessions_236 (by decide) (fun c236 => ?_) (fun c236 => ?_)
            · rw [if_pos c236] at h
              refine lv_iconst (v := (0 : Int32)) hx hb dL_sessions_262 (by decide) ?_
              refine lv_istore (lv' := [(8, .int (0 : Int32)), (0, .ref ba0), (1, .ref ba1), (2, .int bx2), (3, .ref ba3r), (6, .ref ba6)]) hx hb dL_sessions_263 hl (by decide) rfl (fun ls hl => ?_)
              exact h265 g_N G kc ks ba0 ba1 bx2 (some ba3r) (0 : Int32) _ _ hG _ (lv_sub hl [1, 2, 3, 4, 0] rfl) h
            · rw [if_neg c236] at h
              refine lv_aload_n hx hb dL_sessions_239 rfl (lv_at hl 0 rfl) ?_
              refine lv_iload_n hx hb dL_sessions_240 rfl (lv_at hl 2 rfl) ?_
              refine lv_iload hx hb dL_sessions_241 (lv_at hl 5 rfl) ?_
              obtain ⟨C243, R243, d243, g243, h⟩ := h
              obtain ⟨u243, o243, h⟩ := h
              obtain ⟨y243, h⟩ := h
              rw [g243] at hG
              refine g_wVi (As := [.int bx2, .int bx8]) (rest := []) (n := 2) hx hb hml hown hts hK hlo hG (g_frI d243 (fun lo => g_noX (m_X9_spaceOf l hfl dd cT lo C243 ba0 bx2 bx8 h)) lo) qM_L_229 qI_yX9_spaceOf qS_X9_yX9_spaceOf qN_X9 qC_yX9_spaceOf (by decide +kernel) ⟨Nat.le_of_ble_eq_true rfl, Nat.le_of_ble_eq_true rfl⟩ (by rfl) (g_ob_gj o243) rfl hl.1 rfl (Nat.le_of_ble_eq_true rfl) dL_sessions_243 y243 (fun v243x Gx H locs hKx hG => ?_)
              obtain ⟨D243, h, f243, rfl⟩ := hKx
              obtain ⟨G243, i243⟩ : ∃ g : gH, g = gj D243 R243 := ⟨_, rfl⟩
              rw [← i243] at hG
              replace h := h G243 f243 i243
              revert h
              generalize v243x = v243
              intro h
              refine lv_aload hx hb dL_sessions_246 (lv_at hl 4 rfl) ?_
              refine lv_iload hx hb dL_sessions_248 (lv_at hl 5 rfl) ?_
              obtain ⟨v250, e250, h⟩ := h
              refine g_iald hx hb hK hG e250 dL_sessions_250 ?_
              refine lv_icmp_eq (tgt := 256) hx hb dL_sessions_251 (by decide) (fun c251 => ?_) (fun c251 => ?_)
              · rw [if_pos c251] at h
                refine lv_iinc (v := (bx8 + (1 : Int32))) (lv' := [(8, .int (bx8 + (1 : Int32))), (0, .ref ba0), (1, .ref ba1), (2, .int bx2), (3, .ref ba3r), (6, .ref ba6)]) hx hb dL_sessions_256 hl (k := 5) rfl rfl (by decide) rfl (fun ls hl => ?_)
                refine lv_goto (tgt := 233) hx hb dL_sessions_259 (by decide) ?_
                exact ih233 G243 (kc + 2) (ks + 12) ba0 ba1 bx2 (some ba3r) ba6 (bx8 + (1 : Int32)) _ _ hG _ (lv_sub hl [1, 2, 3, 4, 5, 0] rfl) h
              · rw [if_neg c251] at h
                refine lv_iconst (v := (0 : Int32)) hx hb dL_sessions_254 (by decide) ?_
                obtain ⟨y1, y2, h⟩ := h
                refine W.widen (k := MC) (n := MS) y1 y2 ?_
                exact g_zret hx hb hr hlocks hK hlo hG rfl h dL_sessions_255
      have h200 : ∀ n200 : Nat, ∀ (G : gH) (kc ks : Nat) (ba0 : Nat) (ba1 : Nat) (bx2 : Int32) (ba3 : Option Nat) (ba6 : Nat) (ba7 : Nat) (bx8 : Int32) (H : Heap) (locs : List Loc), g_S lo dd cT s H locs G → ∀ ls : Array Slot, lv_has ls 10 [(0, .ref ba0), (1, .ref ba1), (2, .int bx2), (3, va_rf ba3), (6, .ref ba6), (7, .ref ba7), (8, .int bx8)] → w_L_sessions_L200 MC MS K (w_L_sessions_L2 MC MS K n2) n200 G kc ks ba0 ba1 bx2 ba3 ba6 ba7 bx8 → W p l e (g_rm 8 143 MC MS) s m ([.ref a0, .ref a1] : List Value).toArray below meth c H locs kc ks (MQ below (va_Qi K (g_Pre lo dd cT) (g_A lo)) ([.ref a0, .ref a1] : List Value).toArray s MC MS (g_A lo)) (F0 m 200 ls []) := by
        intro n200
        induction n200 with
        | zero =>
          intro G kc ks ba0 ba1 bx2 ba3 ba6 ba7 bx8 H locs hG ls hl h
          exact (show False from h).elim
        | succ n200 ih200 =>
          intro G kc ks ba0 ba1 bx2 ba3 ba6 ba7 bx8 H locs hG ls hl h
          rw [w_L_sessions_L200] at h
          rcases ba3 with _ | ba3r
          · replace h := h.1 rfl
            refine lv_iload hx hb dL_sessions_200 (lv_at hl 6 rfl) ?_
            refine lv_bipush (v := (9 : Int32)) hx hb dL_sessions_202 (by decide) ?_
            refine lv_icmp_ge (tgt := 230) hx hb dL_sessions_204 (by decide) (fun c204 => ?_) (fun c204 => ?_)
            · rw [if_pos c204] at h
              refine lv_iconst (v := (1 : Int32)) hx hb dL_sessions_230 (by decide) ?_
              refine lv_istore (lv' := [(8, .int (1 : Int32)), (0, .ref ba0), (1, .ref ba1), (2, .int bx2), (3, .null), (6, .ref ba6), (7, .ref ba7)]) hx hb dL_sessions_231 hl (by decide) rfl (fun ls hl => ?_)
              exact h233 g_N G kc ks ba0 ba1 bx2 none ba6 (1 : Int32) _ _ hG _ (lv_sub hl [1, 2, 3, 4, 5, 0] rfl) h
            · rw [if_neg c204] at h
              refine lv_aload_n hx hb dL_sessions_207 rfl (lv_at hl 0 rfl) ?_
              refine lv_iload_n hx hb dL_sessions_208 rfl (lv_at hl 2 rfl) ?_
              refine lv_iload hx hb dL_sessions_209 (lv_at hl 6 rfl) ?_
              obtain ⟨C211, R211, d211, g211, h⟩ := h
              obtain ⟨u211, o211, h⟩ := h
              obtain ⟨y211, h⟩ := h
              rw [g211] at hG
              refine g_wVi (As := [.int bx2, .int bx8]) (rest := []) (n := 2) hx hb hml hown hts hK hlo hG (g_frI d211 (fun lo => g_noX (m_X9_session l hfl dd cT lo C211 ba0 bx2 bx8 h)) lo) qM_L_227 qI_yX9_session qS_X9_yX9_session qN_X9 qC_yX9_session (by decide +kernel) ⟨Nat.le_of_ble_eq_true rfl, Nat.le_of_ble_eq_true rfl⟩ (by rfl) (g_ob_gj o211) rfl hl.1 rfl (Nat.le_of_ble_eq_true rfl) dL_sessions_211 y211 (fun v211x Gx H locs hKx hG => ?_)
              obtain ⟨D211, h, f211, rfl⟩ := hKx
              obtain ⟨G211, i211⟩ : ∃ g : gH, g = gj D211 R211 := ⟨_, rfl⟩
              rw [← i211] at hG
              replace h := h G211 f211 i211
              revert h
              generalize v211x = v211
              intro h
              refine lv_aload hx hb dL_sessions_214 (lv_at hl 5 rfl) ?_
              refine lv_iload hx hb dL_sessions_216 (lv_at hl 6 rfl) ?_
              obtain ⟨v218, e218, h⟩ := h
              refine g_iald hx hb hK hG e218 dL_sessions_218 ?_
              refine lv_icmp_eq (tgt := 224) hx hb dL_sessions_219 (by decide) (fun c219 => ?_) (fun c219 => ?_)
              · rw [if_pos c219] at h
                refine lv_iinc (v := (bx8 + (1 : Int32))) (lv' := [(8, .int (bx8 + (1 : Int32))), (0, .ref ba0), (1, .ref ba1), (2, .int bx2), (3, .null), (6, .ref ba6), (7, .ref ba7)]) hx hb dL_sessions_224 hl (k := 6) rfl rfl (by decide) rfl (fun ls hl => ?_)
                refine lv_goto (tgt := 200) hx hb dL_sessions_227 (by decide) ?_
                exact ih200 G211 (kc + 2) (ks + 12) ba0 ba1 bx2 none ba6 ba7 (bx8 + (1 : Int32)) _ _ hG _ (lv_sub hl [1, 2, 3, 4, 5, 6, 0] rfl) h
              · rw [if_neg c219] at h
                refine lv_iconst (v := (0 : Int32)) hx hb dL_sessions_222 (by decide) ?_
                obtain ⟨y1, y2, h⟩ := h
                refine W.widen (k := MC) (n := MS) y1 y2 ?_
                exact g_zret hx hb hr hlocks hK hlo hG rfl h dL_sessions_223
          · replace h := h.2 ba3r rfl
            refine lv_iload hx hb dL_sessions_200 (lv_at hl 6 rfl) ?_
            refine lv_bipush (v := (9 : Int32)) hx hb dL_sessions_202 (by decide) ?_
            refine lv_icmp_ge (tgt := 230) hx hb dL_sessions_204 (by decide) (fun c204 => ?_) (fun c204 => ?_)
            · rw [if_pos c204] at h
              refine lv_iconst (v := (1 : Int32)) hx hb dL_sessions_230 (by decide) ?_
              refine lv_istore (lv' := [(8, .int (1 : Int32)), (0, .ref ba0), (1, .ref ba1), (2, .int bx2), (3, .ref ba3r), (6, .ref ba6), (7, .ref ba7)]) hx hb dL_sessions_231 hl (by decide) rfl (fun ls hl => ?_)
              exact h233 g_N G kc ks ba0 ba1 bx2 (some ba3r) ba6 (1 : Int32) _ _ hG _ (lv_sub hl [1, 2, 3, 4, 5, 0] rfl) h
            · rw [if_neg c204] at h
              refine lv_aload_n hx hb dL_sessions_207 rfl (lv_at hl 0 rfl) ?_
              refine lv_iload_n hx hb dL_sessions_208 rfl (lv_at hl 2 rfl) ?_
              refine lv_iload hx hb dL_sessions_209 (lv_at hl 6 rfl) ?_
              obtain ⟨C211, R211, d211, g211, h⟩ := h
              obtain ⟨u211, o211, h⟩ := h
              obtain ⟨y211, h⟩ := h
              rw [g211] at hG
              refine g_wVi (As := [.int bx2, .int bx8]) (rest := []) (n := 2) hx hb hml hown hts hK hlo hG (g_frI d211 (fun lo => g_noX (m_X9_session l hfl dd cT lo C211 ba0 bx2 bx8 h)) lo) qM_L_227 qI_yX9_session qS_X9_yX9_session qN_X9 qC_yX9_session (by decide +kernel) ⟨Nat.le_of_ble_eq_true rfl, Nat.le_of_ble_eq_true rfl⟩ (by rfl) (g_ob_gj o211) rfl hl.1 rfl (Nat.le_of_ble_eq_true rfl) dL_sessions_211 y211 (fun v211x Gx H locs hKx hG => ?_)
              obtain ⟨D211, h, f211, rfl⟩ := hKx
              obtain ⟨G211, i211⟩ : ∃ g : gH, g = gj D211 R211 := ⟨_, rfl⟩
              rw [← i211] at hG
              replace h := h G211 f211 i211
              revert h
              generalize v211x = v211
              intro h
              refine lv_aload hx hb dL_sessions_214 (lv_at hl 5 rfl) ?_
              refine lv_iload hx hb dL_sessions_216 (lv_at hl 6 rfl) ?_
              obtain ⟨v218, e218, h⟩ := h
              refine g_iald hx hb hK hG e218 dL_sessions_218 ?_
              refine lv_icmp_eq (tgt := 224) hx hb dL_sessions_219 (by decide) (fun c219 => ?_) (fun c219 => ?_)
              · rw [if_pos c219] at h
                refine lv_iinc (v := (bx8 + (1 : Int32))) (lv' := [(8, .int (bx8 + (1 : Int32))), (0, .ref ba0), (1, .ref ba1), (2, .int bx2), (3, .ref ba3r), (6, .ref ba6), (7, .ref ba7)]) hx hb dL_sessions_224 hl (k := 6) rfl rfl (by decide) rfl (fun ls hl => ?_)
                refine lv_goto (tgt := 200) hx hb dL_sessions_227 (by decide) ?_
                exact ih200 G211 (kc + 2) (ks + 12) ba0 ba1 bx2 (some ba3r) ba6 ba7 (bx8 + (1 : Int32)) _ _ hG _ (lv_sub hl [1, 2, 3, 4, 5, 6, 0] rfl) h
              · rw [if_neg c219] at h
                refine lv_iconst (v := (0 : Int32)) hx hb dL_sessions_222 (by decide) ?_
                obtain ⟨y1, y2, h⟩ := h
                refine W.widen (k := MC) (n := MS) y1 y2 ?_
                exact g_zret hx hb hr hlocks hK hlo hG rfl h dL_sessions_223
      have h188 : ∀ (G : gH) (kc ks : Nat) (ba0 : Nat) (ba1 : Nat) (bx2 : Int32) (ba3 : Option Nat) (bx5 : Int32) (ba6 : Nat) (z0 : Nat) (z1 : Nat) (z2 : Int32) (z3 : Int32) (H : Heap) (locs : List Loc), g_S lo dd cT s H locs G → ∀ ls : Array Slot, lv_has ls 10 [(0, .ref ba0), (1, .ref ba1), (2, .int bx2), (3, va_rf ba3), (5, .int bx5), (6, .ref ba6)] → w_L_sessions_J188 MC MS K (w_L_sessions_L2 MC MS K n2) G kc ks ba0 ba1 bx2 ba3 bx5 ba6 z0 z1 z2 z3 → W p l e (g_rm 8 143 MC MS) s m ([.ref a0, .ref a1] : List Value).toArray below meth c H locs kc ks (MQ below (va_Qi K (g_Pre lo dd cT) (g_A lo)) ([.ref a0, .ref a1] : List Value).toArray s MC MS (g_A lo)) (F0 m 188 ls [.int z3, .int z2, .ref z1, .ref z0]) := by
        intro G kc ks ba0 ba1 bx2 ba3 bx5 ba6 z0 z1 z2 z3 H locs hG ls hl h
        unfold w_L_sessions_J188 at h
        rcases ba3 with _ | ba3r
        · replace h := h.1 rfl
          obtain ⟨G188, e188, h⟩ := h
          refine g_iast hx hb hK hG e188 dL_sessions_188 (fun H locs hG => ?_)
          refine lv_dup hx hb dL_sessions_189 rfl ?_
          refine lv_bipush (v := (8 : Int32)) hx hb dL_sessions_190 (by decide) ?_
          refine lv_iload hx hb dL_sessions_192 (lv_at hl 4 rfl) ?_
          obtain ⟨G194, e194, h⟩ := h
          refine g_iast hx hb hK hG e194 dL_sessions_194 (fun H locs hG => ?_)
          refine lv_astore (lv' := [(7, .ref z0), (0, .ref ba0), (1, .ref ba1), (2, .int bx2), (3, .null), (5, .int bx5), (6, .ref ba6)]) hx hb dL_sessions_195 hl (by decide) rfl (fun ls hl => ?_)
          refine lv_iconst (v := (0 : Int32)) hx hb dL_sessions_197 (by decide) ?_
          refine lv_istore (lv' := [(8, .int (0 : Int32)), (7, .ref z0), (0, .ref ba0), (1, .ref ba1), (2, .int bx2), (3, .null), (5, .int bx5), (6, .ref ba6)]) hx hb dL_sessions_198 hl (by decide) rfl (fun ls hl => ?_)
          exact h200 g_N G194 kc ks ba0 ba1 bx2 none ba6 z0 (0 : Int32) _ _ hG _ (lv_sub hl [2, 3, 4, 5, 7, 1, 0] rfl) h
        · replace h := h.2 ba3r rfl
          obtain ⟨G188, e188, h⟩ := h
          refine g_iast hx hb hK hG e188 dL_sessions_188 (fun H locs hG => ?_)
          refine lv_dup hx hb dL_sessions_189 rfl ?_
          refine lv_bipush (v := (8 : Int32)) hx hb dL_sessions_190 (by decide) ?_
          refine lv_iload hx hb dL_sessions_192 (lv_at hl 4 rfl) ?_
          obtain ⟨G194, e194, h⟩ := h
          refine g_iast hx hb hK hG e194 dL_sessions_194 (fun H locs hG => ?_)
          refine lv_astore (lv' := [(7, .ref z0), (0, .ref ba0), (1, .ref ba1), (2, .int bx2), (3, .ref ba3r), (5, .int bx5), (6, .ref ba6)]) hx hb dL_sessions_195 hl (by decide) rfl (fun ls hl => ?_)
          refine lv_iconst (v := (0 : Int32)) hx hb dL_sessions_197 (by decide) ?_
          refine lv_istore (lv' := [(8, .int (0 : Int32)), (7, .ref z0), (0, .ref ba0), (1, .ref ba1), (2, .int bx2), (3, .ref ba3r), (5, .int bx5), (6, .ref ba6)]) hx hb dL_sessions_198 hl (by decide) rfl (fun ls hl => ?_)
          exact h200 g_N G194 kc ks ba0 ba1 bx2 (some ba3r) ba6 z0 (0 : Int32) _ _ hG _ (lv_sub hl [2, 3, 4, 5, 7, 1, 0] rfl) h
      have h163 : ∀ (G : gH) (kc ks : Nat) (ba0 : Nat) (ba1 : Nat) (bx2 : Int32) (ba3 : Option Nat) (bx5 : Int32) (ba6 : Nat) (z0 : Nat) (z1 : Nat) (z2 : Int32) (z3 : Int32) (H : Heap) (locs : List Loc), g_S lo dd cT s H locs G → ∀ ls : Array Slot, lv_has ls 10 [(0, .ref ba0), (1, .ref ba1), (2, .int bx2), (3, va_rf ba3), (5, .int bx5), (6, .ref ba6)] → w_L_sessions_J163 MC MS K (w_L_sessions_L2 MC MS K n2) G kc ks ba0 ba1 bx2 ba3 bx5 ba6 z0 z1 z2 z3 → W p l e (g_rm 8 143 MC MS) s m ([.ref a0, .ref a1] : List Value).toArray below meth c H locs kc ks (MQ below (va_Qi K (g_Pre lo dd cT) (g_A lo)) ([.ref a0, .ref a1] : List Value).toArray s MC MS (g_A lo)) (F0 m 163 ls [.int z3, .int z2, .ref z1, .ref z0]) := by
        intro G kc ks ba0 ba1 bx2 ba3 bx5 ba6 z0 z1 z2 z3 H locs hG ls hl h
        unfold w_L_sessions_J163 at h
        rcases ba3 with _ | ba3r
        · replace h := h.1 rfl
          obtain ⟨G163, e163, h⟩ := h
          refine g_iast hx hb hK hG e163 dL_sessions_163 (fun H locs hG => ?_)
          refine lv_dup hx hb dL_sessions_164 rfl ?_
          refine lv_bipush (v := (6 : Int32)) hx hb dL_sessions_165 (by decide) ?_
          refine lv_aload_nN hx hb dL_sessions_167 rfl (lv_at hl 3 rfl) ?_
          exact (show False from h).elim
        · replace h := h.2 ba3r rfl
          obtain ⟨G163, e163, h⟩ := h
          refine g_iast hx hb hK hG e163 dL_sessions_163 (fun H locs hG => ?_)
          refine lv_dup hx hb dL_sessions_164 rfl ?_
          refine lv_bipush (v := (6 : Int32)) hx hb dL_sessions_165 (by decide) ?_
          refine lv_aload_n hx hb dL_sessions_167 rfl (lv_at hl 3 rfl) ?_
          obtain ⟨v168, e168, h⟩ := h
          refine g_getiN hx hb hts inlX12 hown hK hG (by rfl) 4 (by decide) (List.mem_of_getElem? (i := 21) rfl) e168 dL_sessions_168 ?_
          obtain ⟨G171, e171, h⟩ := h
          refine g_iast hx hb hK hG e171 dL_sessions_171 (fun H locs hG => ?_)
          refine lv_dup hx hb dL_sessions_172 rfl ?_
          refine lv_bipush (v := (7 : Int32)) hx hb dL_sessions_173 (by decide) ?_
          refine lv_aload_n hx hb dL_sessions_175 rfl (lv_at hl 1 rfl) ?_
          refine lv_iload_n hx hb dL_sessions_176 rfl (lv_at hl 2 rfl) ?_
          obtain ⟨C177, R177, d177, g177, h⟩ := h
          obtain ⟨u177, o177, h⟩ := h
          obtain ⟨y177, h⟩ := h
          obtain ⟨v177, e177, h⟩ := h
          rw [g177] at hG
          refine g_wVi (As := [.int bx2]) (rest := [.int (7 : Int32), .ref z0, .ref z0]) (n := 1) hx hb hml hown hts hK hlo hG (g_frI d177 (fun lo => m_X10_reaches l dd cT lo C177 ba1 bx2 e177) lo) qM_L_223 qI_yX10_reaches qS_X10_yX10_reaches qN_X10 qC_yX10_reaches (by decide +kernel) ⟨Nat.le_of_ble_eq_true rfl, Nat.le_of_ble_eq_true rfl⟩ (by rfl) (g_ob_gj o177) rfl hl.1 rfl (Nat.le_of_ble_eq_true rfl) dL_sessions_177 y177 (fun v177x Gx H locs hKx hG => ?_)
          obtain ⟨D177, ⟨k177a, k177⟩, f177, l177⟩ := hKx
          rw [l177, k177] at hG
          rw [k177] at f177
          rw [k177a]
          rw [← g177] at hG
          refine lv_if_eq (tgt := 187) hx hb dL_sessions_180 (by decide) (fun c180 => ?_) (fun c180 => ?_)
          · rw [if_pos c180] at h
            refine lv_iconst (v := (0 : Int32)) hx hb dL_sessions_187 (by decide) ?_
            exact h188 G171 kc ks ba0 ba1 bx2 (some ba3r) bx5 ba6 z0 z0 (7 : Int32) (0 : Int32) _ _ hG _ (lv_sub hl [0, 1, 2, 3, 4, 5] rfl) h
          · rw [if_neg c180] at h
            refine lv_iconst (v := (1 : Int32)) hx hb dL_sessions_183 (by decide) ?_
            refine lv_goto (tgt := 188) hx hb dL_sessions_184 (by decide) ?_
            exact h188 G171 kc ks ba0 ba1 bx2 (some ba3r) bx5 ba6 z0 z0 (7 : Int32) (1 : Int32) _ _ hG _ (lv_sub hl [0, 1, 2, 3, 4, 5] rfl) h
      have h31 : ∀ n31 : Nat, ∀ (G : gH) (kc ks : Nat) (ba0 : Nat) (ba1 : Nat) (bx2 : Int32) (ba3 : Option Nat) (bx4 : Int32) (bx5 : Int32) (ba6 : Nat) (bx7 : Int32) (H : Heap) (locs : List Loc), g_S lo dd cT s H locs G → ∀ ls : Array Slot, lv_has ls 10 [(0, .ref ba0), (1, .ref ba1), (2, .int bx2), (3, va_rf ba3), (4, .int bx4), (5, .int bx5), (6, .ref ba6), (7, .int bx7)] → w_L_sessions_L31 MC MS K (w_L_sessions_L2 MC MS K n2) n31 G kc ks ba0 ba1 bx2 ba3 bx4 bx5 ba6 bx7 → W p l e (g_rm 8 143 MC MS) s m ([.ref a0, .ref a1] : List Value).toArray below meth c H locs kc ks (MQ below (va_Qi K (g_Pre lo dd cT) (g_A lo)) ([.ref a0, .ref a1] : List Value).toArray s MC MS (g_A lo)) (F0 m 31 ls []) := by
        intro n31
        induction n31 with
        | zero =>
          intro G kc ks ba0 ba1 bx2 ba3 bx4 bx5 ba6 bx7 H locs hG ls hl h
          exact (show False from h).elim
        | succ n31 ih31 =>
          have h83 : ∀ (G : gH) (kc ks : Nat) (ba0 : Nat) (ba1 : Nat) (bx2 : Int32) (ba3 : Option Nat) (bx5 : Int32) (ba6 : Nat) (bx7 : Int32) (z0 : Int32) (z1 : Int32) (H : Heap) (locs : List Loc), g_S lo dd cT s H locs G → ∀ ls : Array Slot, lv_has ls 10 [(0, .ref ba0), (1, .ref ba1), (2, .int bx2), (3, va_rf ba3), (5, .int bx5), (6, .ref ba6), (7, .int bx7)] → w_L_sessions_J83 MC MS K (w_L_sessions_L2 MC MS K n2) (w_L_sessions_L31 MC MS K (w_L_sessions_L2 MC MS K n2) n31) G kc ks ba0 ba1 bx2 ba3 bx5 ba6 bx7 z0 z1 → W p l e (g_rm 8 143 MC MS) s m ([.ref a0, .ref a1] : List Value).toArray below meth c H locs kc ks (MQ below (va_Qi K (g_Pre lo dd cT) (g_A lo)) ([.ref a0, .ref a1] : List Value).toArray s MC MS (g_A lo)) (F0 m 83 ls [.int z1, .int z0]) := by
            intro G kc ks ba0 ba1 bx2 ba3 bx5 ba6 bx7 z0 z1 H locs hG ls hl h
            unfold w_L_sessions_J83 at h
            rcases ba3 with _ | ba3r
            · replace h := h.1 rfl
              refine lv_iadd hx hb dL_sessions_83 ?_
              refine lv_istore (lv' := [(4, .int (z0 + z1)), (0, .ref ba0), (1, .ref ba1), (2, .int bx2), (3, .null), (5, .int bx5), (6, .ref ba6), (7, .int bx7)]) hx hb dL_sessions_84 hl (by decide) rfl (fun ls hl => ?_)
              refine lv_iload hx hb dL_sessions_86 (lv_at hl 5 rfl) ?_
              refine lv_iload hx hb dL_sessions_88 (lv_at hl 7 rfl) ?_
              refine lv_aload_n hx hb dL_sessions_90 rfl (lv_at hl 2 rfl) ?_
              obtain ⟨C91, R91, d91, g91, h⟩ := h
              obtain ⟨u91, o91, h⟩ := h
              obtain ⟨y91, h⟩ := h
              obtain ⟨v91, e91, h⟩ := h
              rw [g91] at hG
              refine g_wVi (As := []) (rest := [.int bx7, .int bx5]) (n := 0) hx hb hml hown hts hK hlo hG (g_frI d91 (fun lo => m_X10_main l dd cT lo C91 ba1 e91) lo) qM_L_121 qI_yX10_main qS_X10_yX10_main qN_X10 qC_yX10_main (by decide +kernel) ⟨Nat.le_of_ble_eq_true rfl, Nat.le_of_ble_eq_true rfl⟩ (by rfl) (g_ob_gj o91) rfl hl.1 rfl (Nat.le_of_ble_eq_true rfl) dL_sessions_91 y91 (fun v91x Gx H locs hKx hG => ?_)
              obtain ⟨D91, ⟨k91a, k91⟩, f91, l91⟩ := hKx
              rw [l91, k91] at hG
              rw [k91] at f91
              rw [k91a]
              rw [← g91] at hG
              refine lv_icmp_ge (tgt := 101) hx hb dL_sessions_94 (by decide) (fun c94 => ?_) (fun c94 => ?_)
              · rw [if_pos c94] at h
                refine lv_iconst (v := (1 : Int32)) hx hb dL_sessions_101 (by decide) ?_
                refine lv_iadd hx hb dL_sessions_102 ?_
                refine lv_istore (lv' := [(5, .int (bx5 + (1 : Int32))), (4, .int (z0 + z1)), (0, .ref ba0), (1, .ref ba1), (2, .int bx2), (3, .null), (6, .ref ba6), (7, .int bx7)]) hx hb dL_sessions_103 hl (by decide) rfl (fun ls hl => ?_)
                refine lv_iinc (v := (bx7 + (1 : Int32))) (lv' := [(7, .int (bx7 + (1 : Int32))), (5, .int (bx5 + (1 : Int32))), (4, .int (z0 + z1)), (0, .ref ba0), (1, .ref ba1), (2, .int bx2), (3, .null), (6, .ref ba6)]) hx hb dL_sessions_105 hl (k := 7) rfl rfl (by decide) rfl (fun ls hl => ?_)
                refine lv_goto (tgt := 31) hx hb dL_sessions_108 (by decide) ?_
                exact ih31 G kc ks ba0 ba1 bx2 none (z0 + z1) (bx5 + (1 : Int32)) ba6 (bx7 + (1 : Int32)) _ _ hG _ (lv_sub hl [3, 4, 5, 6, 2, 1, 7, 0] rfl) h
              · rw [if_neg c94] at h
                refine lv_iconst (v := (0 : Int32)) hx hb dL_sessions_97 (by decide) ?_
                refine lv_goto (tgt := 102) hx hb dL_sessions_98 (by decide) ?_
                refine lv_iadd hx hb dL_sessions_102 ?_
                refine lv_istore (lv' := [(5, .int (bx5 + (0 : Int32))), (4, .int (z0 + z1)), (0, .ref ba0), (1, .ref ba1), (2, .int bx2), (3, .null), (6, .ref ba6), (7, .int bx7)]) hx hb dL_sessions_103 hl (by decide) rfl (fun ls hl => ?_)
                refine lv_iinc (v := (bx7 + (1 : Int32))) (lv' := [(7, .int (bx7 + (1 : Int32))), (5, .int (bx5 + (0 : Int32))), (4, .int (z0 + z1)), (0, .ref ba0), (1, .ref ba1), (2, .int bx2), (3, .null), (6, .ref ba6)]) hx hb dL_sessions_105 hl (k := 7) rfl rfl (by decide) rfl (fun ls hl => ?_)
                refine lv_goto (tgt := 31) hx hb dL_sessions_108 (by decide) ?_
                exact ih31 G kc ks ba0 ba1 bx2 none (z0 + z1) (bx5 + (0 : Int32)) ba6 (bx7 + (1 : Int32)) _ _ hG _ (lv_sub hl [3, 4, 5, 6, 2, 1, 7, 0] rfl) h
            · replace h := h.2 ba3r rfl
              refine lv_iadd hx hb dL_sessions_83 ?_
              refine lv_istore (lv' := [(4, .int (z0 + z1)), (0, .ref ba0), (1, .ref ba1), (2, .int bx2), (3, .ref ba3r), (5, .int bx5), (6, .ref ba6), (7, .int bx7)]) hx hb dL_sessions_84 hl (by decide) rfl (fun ls hl => ?_)
              refine lv_iload hx hb dL_sessions_86 (lv_at hl 5 rfl) ?_
              refine lv_iload hx hb dL_sessions_88 (lv_at hl 7 rfl) ?_
              refine lv_aload_n hx hb dL_sessions_90 rfl (lv_at hl 2 rfl) ?_
              obtain ⟨C91, R91, d91, g91, h⟩ := h
              obtain ⟨u91, o91, h⟩ := h
              obtain ⟨y91, h⟩ := h
              obtain ⟨v91, e91, h⟩ := h
              rw [g91] at hG
              refine g_wVi (As := []) (rest := [.int bx7, .int bx5]) (n := 0) hx hb hml hown hts hK hlo hG (g_frI d91 (fun lo => m_X10_main l dd cT lo C91 ba1 e91) lo) qM_L_121 qI_yX10_main qS_X10_yX10_main qN_X10 qC_yX10_main (by decide +kernel) ⟨Nat.le_of_ble_eq_true rfl, Nat.le_of_ble_eq_true rfl⟩ (by rfl) (g_ob_gj o91) rfl hl.1 rfl (Nat.le_of_ble_eq_true rfl) dL_sessions_91 y91 (fun v91x Gx H locs hKx hG => ?_)
              obtain ⟨D91, ⟨k91a, k91⟩, f91, l91⟩ := hKx
              rw [l91, k91] at hG
              rw [k91] at f91
              rw [k91a]
              rw [← g91] at hG
              refine lv_icmp_ge (tgt := 101) hx hb dL_sessions_94 (by decide) (fun c94 => ?_) (fun c94 => ?_)
              · rw [if_pos c94] at h
                refine lv_iconst (v := (1 : Int32)) hx hb dL_sessions_101 (by decide) ?_
                refine lv_iadd hx hb dL_sessions_102 ?_
                refine lv_istore (lv' := [(5, .int (bx5 + (1 : Int32))), (4, .int (z0 + z1)), (0, .ref ba0), (1, .ref ba1), (2, .int bx2), (3, .ref ba3r), (6, .ref ba6), (7, .int bx7)]) hx hb dL_sessions_103 hl (by decide) rfl (fun ls hl => ?_)
                refine lv_iinc (v := (bx7 + (1 : Int32))) (lv' := [(7, .int (bx7 + (1 : Int32))), (5, .int (bx5 + (1 : Int32))), (4, .int (z0 + z1)), (0, .ref ba0), (1, .ref ba1), (2, .int bx2), (3, .ref ba3r), (6, .ref ba6)]) hx hb dL_sessions_105 hl (k := 7) rfl rfl (by decide) rfl (fun ls hl => ?_)
                refine lv_goto (tgt := 31) hx hb dL_sessions_108 (by decide) ?_
                exact ih31 G kc ks ba0 ba1 bx2 (some ba3r) (z0 + z1) (bx5 + (1 : Int32)) ba6 (bx7 + (1 : Int32)) _ _ hG _ (lv_sub hl [3, 4, 5, 6, 2, 1, 7, 0] rfl) h
              · rw [if_neg c94] at h
                refine lv_iconst (v := (0 : Int32)) hx hb dL_sessions_97 (by decide) ?_
                refine lv_goto (tgt := 102) hx hb dL_sessions_98 (by decide) ?_
                refine lv_iadd hx hb dL_sessions_102 ?_
                refine lv_istore (lv' := [(5, .int (bx5 + (0 : Int32))), (4, .int (z0 + z1)), (0, .ref ba0), (1, .ref ba1), (2, .int bx2), (3, .ref ba3r), (6, .ref ba6), (7, .int bx7)]) hx hb dL_sessions_103 hl (by decide) rfl (fun ls hl => ?_)
                refine lv_iinc (v := (bx7 + (1 : Int32))) (lv' := [(7, .int (bx7 + (1 : Int32))), (5, .int (bx5 + (0 : Int32))), (4, .int (z0 + z1)), (0, .ref ba0), (1, .ref ba1), (2, .int bx2), (3, .ref ba3r), (6, .ref ba6)]) hx hb dL_sessions_105 hl (k := 7) rfl rfl (by decide) rfl (fun ls hl => ?_)
                refine lv_goto (tgt := 31) hx hb dL_sessions_108 (by decide) ?_
                exact ih31 G kc ks ba0 ba1 bx2 (some ba3r) (z0 + z1) (bx5 + (0 : Int32)) ba6 (bx7 + (1 : Int32)) _ _ hG _ (lv_sub hl [3, 4, 5, 6, 2, 1, 7, 0] rfl) h
          intro G kc ks ba0 ba1 bx2 ba3 bx4 bx5 ba6 bx7 H locs hG ls hl h
          rw [w_L_sessions_L31] at h
          rcases ba3 with _ | ba3r
          · replace h := h.1 rfl
            refine lv_iload hx hb dL_sessions_31 (lv_at hl 7 rfl) ?_
            refine lv_aload_n hx hb dL_sessions_33 rfl (lv_at hl 1 rfl) ?_
            obtain ⟨v34, e34, h⟩ := h
            refine g_getiN hx hb hts inlX10 hown hK hG (by rfl) 0 (by decide) (List.mem_of_getElem? (i := 0) rfl) e34 dL_sessions_34 ?_
            refine lv_icmp_ge (tgt := 111) hx hb dL_sessions_37 (by decide) (fun c37 => ?_) (fun c37 => ?_)
            · rw [if_pos c37] at h
              refine lv_bipush (v := (9 : Int32)) hx hb dL_sessions_111 (by decide) ?_
              obtain ⟨y113, h⟩ := h
              refine g_newai (N := 9) hx hb hts hK hlo hG (by decide) (by decide) (Nat.le_of_ble_eq_true rfl) y113 dL_sessions_113 (fun q113 H z113 hG => ?_)
              obtain ⟨G113, i113⟩ : ∃ g : gH, g = va_up G q113 (some (.inl (0, 9, fun _ => 0))) := ⟨_, rfl⟩
              rw [← i113] at hG
              replace h := h q113 z113 G113 i113
              refine lv_dup hx hb dL_sessions_115 rfl ?_
              refine lv_iconst (v := (0 : Int32)) hx hb dL_sessions_116 (by decide) ?_
              refine lv_aload_nN hx hb dL_sessions_117 rfl (lv_at hl 3 rfl) ?_
              exact (show False from h).elim
            · rw [if_neg c37] at h
              refine lv_aload_n hx hb dL_sessions_40 rfl (lv_at hl 1 rfl) ?_
              obtain ⟨v41, e41, h⟩ := h
              refine g_getrN hx hb hts inlX10 hown hK hG (by rfl) 8 (by decide) (List.mem_of_getElem? (i := 6) rfl) e41 dL_sessions_41 ?_
              refine lv_iload hx hb dL_sessions_44 (lv_at hl 7 rfl) ?_
              obtain ⟨v46, e46, h⟩ := h
              refine g_iald hx hb hK hG e46 dL_sessions_46 ?_
              refine lv_iload_n hx hb dL_sessions_47 rfl (lv_at hl 2 rfl) ?_
              refine lv_icmp_eq (tgt := 54) hx hb dL_sessions_48 (by decide) (fun c48 => ?_) (fun c48 => ?_)
              · rw [if_pos c48] at h
                refine lv_aload hx hb dL_sessions_54 (lv_at hl 6 rfl) ?_
                refine lv_aload_n hx hb dL_sessions_56 rfl (lv_at hl 1 rfl) ?_
                refine lv_iload hx hb dL_sessions_57 (lv_at hl 7 rfl) ?_
                obtain ⟨C59, R59, d59, g59, h⟩ := h
                obtain ⟨u59, o59, h⟩ := h
                obtain ⟨y59, h⟩ := h
                obtain ⟨v59, e59, h⟩ := h
                rw [g59] at hG
                refine g_wVi (As := [.int bx7]) (rest := [.ref ba6]) (n := 1) hx hb hml hown hts hK hlo hG (g_frI d59 (fun lo => m_X10_use l dd cT lo C59 ba1 bx7 e59) lo) qM_L_118 qI_yX10_use qS_X10_yX10_use qN_X10 qC_yX10_use (by decide +kernel) ⟨Nat.le_of_ble_eq_true rfl, Nat.le_of_ble_eq_true rfl⟩ (by rfl) (g_ob_gj o59) rfl hl.1 rfl (Nat.le_of_ble_eq_true rfl) dL_sessions_59 y59 (fun v59x Gx H locs hKx hG => ?_)
                obtain ⟨D59, ⟨k59a, k59⟩, f59, l59⟩ := hKx
                rw [l59, k59] at hG
                rw [k59] at f59
                rw [k59a]
                rw [← g59] at hG
                refine lv_dup2_11 hx hb dL_sessions_62 rfl rfl ?_
                obtain ⟨v63, e63, h⟩ := h
                refine g_iald hx hb hK hG e63 dL_sessions_63 ?_
                refine lv_iconst (v := (1 : Int32)) hx hb dL_sessions_64 (by decide) ?_
                refine lv_iadd hx hb dL_sessions_65 ?_
                obtain ⟨G66, e66, h⟩ := h
                refine g_iast hx hb hK hG e66 dL_sessions_66 (fun H locs hG => ?_)
                refine lv_iload hx hb dL_sessions_67 (lv_at hl 4 rfl) ?_
                refine lv_iload hx hb dL_sessions_69 (lv_at hl 7 rfl) ?_
                refine lv_aload_n hx hb dL_sessions_71 rfl (lv_at hl 1 rfl) ?_
                obtain ⟨C72, R72, d72, g72, h⟩ := h
                obtain ⟨u72, o72, h⟩ := h
                obtain ⟨y72, h⟩ := h
                obtain ⟨v72, e72, h⟩ := h
                rw [g72] at hG
                refine g_wVi (As := []) (rest := [.int bx7, .int bx4]) (n := 0) hx hb hml hown hts hK hlo hG (g_frI d72 (fun lo => m_X10_main l dd cT lo C72 ba1 e72) lo) qM_L_121 qI_yX10_main qS_X10_yX10_main qN_X10 qC_yX10_main (by decide +kernel) ⟨Nat.le_of_ble_eq_true rfl, Nat.le_of_ble_eq_true rfl⟩ (by rfl) (g_ob_gj o72) rfl hl.1 rfl (Nat.le_of_ble_eq_true rfl) dL_sessions_72 y72 (fun v72x Gx H locs hKx hG => ?_)
                obtain ⟨D72, ⟨k72a, k72⟩, f72, l72⟩ := hKx
                rw [l72, k72] at hG
                rw [k72] at f72
                rw [k72a]
                rw [← g72] at hG
                refine lv_icmp_ge (tgt := 82) hx hb dL_sessions_75 (by decide) (fun c75 => ?_) (fun c75 => ?_)
                · rw [if_pos c75] at h
                  refine lv_iconst (v := (0 : Int32)) hx hb dL_sessions_82 (by decide) ?_
                  exact h83 G66 kc ks ba0 ba1 bx2 none bx5 ba6 bx7 bx4 (0 : Int32) _ _ hG _ (lv_sub hl [0, 1, 2, 3, 5, 6, 7] rfl) h
                · rw [if_neg c75] at h
                  refine lv_iconst (v := (1 : Int32)) hx hb dL_sessions_78 (by decide) ?_
                  refine lv_goto (tgt := 83) hx hb dL_sessions_79 (by decide) ?_
                  exact h83 G66 kc ks ba0 ba1 bx2 none bx5 ba6 bx7 bx4 (1 : Int32) _ _ hG _ (lv_sub hl [0, 1, 2, 3, 5, 6, 7] rfl) h
              · rw [if_neg c48] at h
                refine lv_goto (tgt := 105) hx hb dL_sessions_51 (by decide) ?_
                refine lv_iinc (v := (bx7 + (1 : Int32))) (lv' := [(7, .int (bx7 + (1 : Int32))), (0, .ref ba0), (1, .ref ba1), (2, .int bx2), (3, .null), (4, .int bx4), (5, .int bx5), (6, .ref ba6)]) hx hb dL_sessions_105 hl (k := 7) rfl rfl (by decide) rfl (fun ls hl => ?_)
                refine lv_goto (tgt := 31) hx hb dL_sessions_108 (by decide) ?_
                exact ih31 G kc ks ba0 ba1 bx2 none bx4 bx5 ba6 (bx7 + (1 : Int32)) _ _ hG _ (lv_sub hl [1, 2, 3, 4, 5, 6, 7, 0] rfl) h
          · replace h := h.2 ba3r rfl
            refine lv_iload hx hb dL_sessions_31 (lv_at hl 7 rfl) ?_
            refine lv_aload_n hx hb dL_sessions_33 rfl (lv_at hl 1 rfl) ?_
            obtain ⟨v34, e34, h⟩ := h
            refine g_getiN hx hb hts inlX10 hown hK hG (by rfl) 0 (by decide) (List.mem_of_getElem? (i := 0) rfl) e34 dL_sessions_34 ?_
            refine lv_icmp_ge (tgt := 111) hx hb dL_sessions_37 (by decide) (fun c37 => ?_) (fun c37 => ?_)
            · rw [if_pos c37] at h
              refine lv_bipush (v := (9 : Int32)) hx hb dL_sessions_111 (by decide) ?_
              obtain ⟨y113, h⟩ := h
              refine g_newai (N := 9) hx hb hts hK hlo hG (by decide) (by decide) (Nat.le_of_ble_eq_true rfl) y113 dL_sessions_113 (fun q113 H z113 hG => ?_)
              obtain ⟨G113, i113⟩ : ∃ g : gH, g = va_up G q113 (some (.inl (0, 9, fun _ => 0))) := ⟨_, rfl⟩
              rw [← i113] at hG
              replace h := h q113 z113 G113 i113
              refine lv_dup hx hb dL_sessions_115 rfl ?_
              refine lv_iconst (v := (0 : Int32)) hx hb dL_sessions_116 (by decide) ?_
              refine lv_aload_n hx hb dL_sessions_117 rfl (lv_at hl 3 rfl) ?_
              obtain ⟨v118, e118, h⟩ := h
              refine g_getiN hx hb hts inlX12 hown hK hG (by rfl) 0 (by decide) (List.mem_of_getElem? (i := 13) rfl) e118 dL_sessions_118 ?_
              obtain ⟨G121, e121, h⟩ := h
              refine g_iast hx hb hK hG e121 dL_sessions_121 (fun H locs hG => ?_)
              refine lv_dup hx hb dL_sessions_122 rfl ?_
              refine lv_iconst (v := (1 : Int32)) hx hb dL_sessions_123 (by decide) ?_
              refine lv_aload_n hx hb dL_sessions_124 rfl (lv_at hl 3 rfl) ?_
              obtain ⟨v125, e125, h⟩ := h
              refine g_getiN hx hb hts inlX12 hown hK hG (by rfl) 1 (by decide) (List.mem_of_getElem? (i := 18) rfl) e125 dL_sessions_125 ?_
              obtain ⟨G128, e128, h⟩ := h
              refine g_iast hx hb hK hG e128 dL_sessions_128 (fun H locs hG => ?_)
              refine lv_dup hx hb dL_sessions_129 rfl ?_
              refine lv_iconst (v := (2 : Int32)) hx hb dL_sessions_130 (by decide) ?_
              refine lv_iload hx hb dL_sessions_131 (lv_at hl 4 rfl) ?_
              obtain ⟨G133, e133, h⟩ := h
              refine g_iast hx hb hK hG e133 dL_sessions_133 (fun H locs hG => ?_)
              refine lv_dup hx hb dL_sessions_134 rfl ?_
              refine lv_iconst (v := (3 : Int32)) hx hb dL_sessions_135 (by decide) ?_
              refine lv_aload_n hx hb dL_sessions_136 rfl (lv_at hl 3 rfl) ?_
              obtain ⟨v137, e137, h⟩ := h
              refine g_getiN hx hb hts inlX12 hown hK hG (by rfl) 2 (by decide) (List.mem_of_getElem? (i := 19) rfl) e137 dL_sessions_137 ?_
              obtain ⟨G140, e140, h⟩ := h
              refine g_iast hx hb hK hG e140 dL_sessions_140 (fun H locs hG => ?_)
              refine lv_dup hx hb dL_sessions_141 rfl ?_
              refine lv_iconst (v := (4 : Int32)) hx hb dL_sessions_142 (by decide) ?_
              refine lv_aload_n hx hb dL_sessions_143 rfl (lv_at hl 3 rfl) ?_
              obtain ⟨v144, e144, h⟩ := h
              refine g_getiN hx hb hts inlX12 hown hK hG (by rfl) 3 (by decide) (List.mem_of_getElem? (i := 20) rfl) e144 dL_sessions_144 ?_
              obtain ⟨G147, e147, h⟩ := h
              refine g_iast hx hb hK hG e147 dL_sessions_147 (fun H locs hG => ?_)
              refine lv_dup hx hb dL_sessions_148 rfl ?_
              refine lv_iconst (v := (5 : Int32)) hx hb dL_sessions_149 (by decide) ?_
              refine lv_aload_n hx hb dL_sessions_150 rfl (lv_at hl 1 rfl) ?_
              refine lv_aload_n hx hb dL_sessions_151 rfl (lv_at hl 3 rfl) ?_
              obtain ⟨C152, R152, d152, g152, h⟩ := h
              obtain ⟨u152, o152, h⟩ := h
              obtain ⟨y152, h⟩ := h
              obtain ⟨v152, e152, h⟩ := h
              rw [g152] at hG
              refine g_wVi (As := [.ref ba3r]) (rest := [.int (5 : Int32), .ref q113, .ref q113]) (n := 1) hx hb hml hown hts hK hlo hG (g_frI d152 (fun lo => m_X10_reads l dd cT lo C152 ba1 ba3r e152) lo) qM_L_216 qI_yX10_reads qS_X10_yX10_reads qN_X10 qC_yX10_reads (by decide +kernel) ⟨Nat.le_of_ble_eq_true rfl, Nat.le_of_ble_eq_true rfl⟩ (by rfl) (g_ob_gj o152) rfl hl.1 rfl (Nat.le_of_ble_eq_true rfl) dL_sessions_152 y152 (fun v152x Gx H locs hKx hG => ?_)
              obtain ⟨D152, ⟨k152a, k152⟩, f152, l152⟩ := hKx
              rw [l152, k152] at hG
              rw [k152] at f152
              rw [k152a]
              rw [← g152] at hG
              refine lv_if_eq (tgt := 162) hx hb dL_sessions_155 (by decide) (fun c155 => ?_) (fun c155 => ?_)
              · rw [if_pos c155] at h
                refine lv_iconst (v := (0 : Int32)) hx hb dL_sessions_162 (by decide) ?_
                exact h163 G147 (kc + 1) (ks + 9) ba0 ba1 bx2 (some ba3r) bx5 ba6 q113 q113 (5 : Int32) (0 : Int32) _ _ hG _ (lv_sub hl [0, 1, 2, 3, 5, 6] rfl) h
              · rw [if_neg c155] at h
                refine lv_iconst (v := (1 : Int32)) hx hb dL_sessions_158 (by decide) ?_
                refine lv_goto (tgt := 163) hx hb dL_sessions_159 (by decide) ?_
                exact h163 G147 (kc + 1) (ks + 9) ba0 ba1 bx2 (some ba3r) bx5 ba6 q113 q113 (5 : Int32) (1 : Int32) _ _ hG _ (lv_sub hl [0, 1, 2, 3, 5, 6] rfl) h
            · rw [if_neg c37] at h
              refine lv_aload_n hx hb dL_sessions_40 rfl (lv_at hl 1 rfl) ?_
              obtain ⟨v41, e41, h⟩ := h
              refine g_getrN hx hb hts inlX10 hown hK hG (by rfl) 8 (by decide) (List.mem_of_getElem? (i := 6) rfl) e41 dL_sessions_41 ?_
              refine lv_iload hx hb dL_sessions_44 (lv_at hl 7 rfl) ?_
              obtain ⟨v46, e46, h⟩ := h
              refine g_iald hx hb hK hG e46 dL_sessions_46 ?_
              refine lv_iload_n hx hb dL_sessions_47 rfl (lv_at hl 2 rfl) ?_
              refine lv_icmp_eq (tgt := 54) hx hb dL_sessions_48 (by decide) (fun c48 => ?_) (fun c48 => ?_)
              · rw [if_pos c48] at h
                refine lv_aload hx hb dL_sessions_54 (lv_at hl 6 rfl) ?_
                refine lv_aload_n hx hb dL_sessions_56 rfl (lv_at hl 1 rfl) ?_
                refine lv_iload hx hb dL_sessions_57 (lv_at hl 7 rfl) ?_
                obtain ⟨C59, R59, d59, g59, h⟩ := h
                obtain ⟨u59, o59, h⟩ := h
                obtain ⟨y59, h⟩ := h
                obtain ⟨v59, e59, h⟩ := h
                rw [g59] at hG
                refine g_wVi (As := [.int bx7]) (rest := [.ref ba6]) (n := 1) hx hb hml hown hts hK hlo hG (g_frI d59 (fun lo => m_X10_use l dd cT lo C59 ba1 bx7 e59) lo) qM_L_118 qI_yX10_use qS_X10_yX10_use qN_X10 qC_yX10_use (by decide +kernel) ⟨Nat.le_of_ble_eq_true rfl, Nat.le_of_ble_eq_true rfl⟩ (by rfl) (g_ob_gj o59) rfl hl.1 rfl (Nat.le_of_ble_eq_true rfl) dL_sessions_59 y59 (fun v59x Gx H locs hKx hG => ?_)
                obtain ⟨D59, ⟨k59a, k59⟩, f59, l59⟩ := hKx
                rw [l59, k59] at hG
                rw [k59] at f59
                rw [k59a]
                rw [← g59] at hG
                refine lv_dup2_11 hx hb dL_sessions_62 rfl rfl ?_
                obtain ⟨v63, e63, h⟩ := h
                refine g_iald hx hb hK hG e63 dL_sessions_63 ?_
                refine lv_iconst (v := (1 : Int32)) hx hb dL_sessions_64 (by decide) ?_
                refine lv_iadd hx hb dL_sessions_65 ?_
                obtain ⟨G66, e66, h⟩ := h
                refine g_iast hx hb hK hG e66 dL_sessions_66 (fun H locs hG => ?_)
                refine lv_iload hx hb dL_sessions_67 (lv_at hl 4 rfl) ?_
                refine lv_iload hx hb dL_sessions_69 (lv_at hl 7 rfl) ?_
                refine lv_aload_n hx hb dL_sessions_71 rfl (lv_at hl 1 rfl) ?_
                obtain ⟨C72, R72, d72, g72, h⟩ := h
                obtain ⟨u72, o72, h⟩ := h
                obtain ⟨y72, h⟩ := h
                obtain ⟨v72, e72, h⟩ := h
                rw [g72] at hG
                refine g_wVi (As := []) (rest := [.int bx7, .int bx4]) (n := 0) hx hb hml hown hts hK hlo hG (g_frI d72 (fun lo => m_X10_main l dd cT lo C72 ba1 e72) lo) qM_L_121 qI_yX10_main qS_X10_yX10_main qN_X10 qC_yX10_main (by decide +kernel) ⟨Nat.le_of_ble_eq_true rfl, Nat.le_of_ble_eq_true rfl⟩ (by rfl) (g_ob_gj o72) rfl hl.1 rfl (Nat.le_of_ble_eq_true rfl) dL_sessions_72 y72 (fun v72x Gx H locs hKx hG => ?_)
                obtain ⟨D72, ⟨k72a, k72⟩, f72, l72⟩ := hKx
                rw [l72, k72] at hG
                rw [k72] at f72
                rw [k72a]
                rw [← g72] at hG
                refine lv_icmp_ge (tgt := 82) hx hb dL_sessions_75 (by decide) (fun c75 => ?_) (fun c75 => ?_)
                · rw [if_pos c75] at h
                  refine lv_iconst (v := (0 : Int32)) hx hb dL_sessions_82 (by decide) ?_
                  exact h83 G66 kc ks ba0 ba1 bx2 (some ba3r) bx5 ba6 bx7 bx4 (0 : Int32) _ _ hG _ (lv_sub hl [0, 1, 2, 3, 5, 6, 7] rfl) h
                · rw [if_neg c75] at h
                  refine lv_iconst (v := (1 : Int32)) hx hb dL_sessions_78 (by decide) ?_
                  refine lv_goto (tgt := 83) hx hb dL_sessions_79 (by decide) ?_
                  exact h83 G66 kc ks ba0 ba1 bx2 (some ba3r) bx5 ba6 bx7 bx4 (1 : Int32) _ _ hG _ (lv_sub hl [0, 1, 2, 3, 5, 6, 7] rfl) h
              · rw [if_neg c48] at h
                refine lv_goto (tgt := 105) hx hb dL_sessions_51 (by decide) ?_
                refine lv_iinc (v := (bx7 + (1 : Int32))) (lv' := [(7, .int (bx7 + (1 : Int32))), (0, .ref ba0), (1, .ref ba1), (2, .int bx2), (3, .ref ba3r), (4, .int bx4), (5, .int bx5), (6, .ref ba6)]) hx hb dL_sessions_105 hl (k := 7) rfl rfl (by decide) rfl (fun ls hl => ?_)
                refine lv_goto (tgt := 31) hx hb dL_sessions_108 (by decide) ?_
                exact ih31 G kc ks ba0 ba1 bx2 (some ba3r) bx4 bx5 ba6 (bx7 + (1 : Int32)) _ _ hG _ (lv_sub hl [1, 2, 3, 4, 5, 6, 7, 0] rfl) h
      intro G kc ks ba0 ba1 bx2 H locs hG ls hl h
      rw [w_L_sessions_L2] at h
      refine lv_iload_n hx hb dL_sessions_2 rfl (lv_at hl 2 rfl) ?_
      refine lv_aload_n hx hb dL_sessions_3 rfl (lv_at hl 1 rfl) ?_
      obtain ⟨v4, e4, h⟩ := h
      refine g_getiN hx hb hts inlX10 hown hK hG (by rfl) 4 (by decide) (List.mem_of_getElem? (i := 14) rfl) e4 dL_sessions_4 ?_
      refine lv_icmp_ge (tgt := 444) hx hb dL_sessions_7 (by decide) (fun c7 => ?_) (fun c7 => ?_)
      · rw [if_pos c7] at h
        refine lv_iconst (v := (1 : Int32)) hx hb dL_sessions_444 (by decide) ?_
        obtain ⟨y1, y2, h⟩ := h
        refine W.widen (k := MC) (n := MS) y1 y2 ?_
        exact g_zret hx hb hr hlocks hK hlo hG rfl h dL_sessions_445
      · rw [if_neg c7] at h
        refine lv_aload_n hx hb dL_sessions_10 rfl (lv_at hl 1 rfl) ?_
        obtain ⟨v11, e11, h⟩ := h
        refine g_getrN hx hb hts inlX10 hown hK hG (by rfl) 16 (by decide) (List.mem_of_getElem? (i := 12) rfl) e11 dL_sessions_11 ?_
        refine lv_iload_n hx hb dL_sessions_14 rfl (lv_at hl 2 rfl) ?_
        obtain ⟨v15, e15, h⟩ := h
        refine g_rald_row hx hb hK hG (t := 5) rfl e15 dL_sessions_15 ?_
        rcases v15 with _ | r15
        · replace h := h.1 rfl
          refine lv_astore_nN (lv' := [(3, .null), (0, .ref ba0), (1, .ref ba1), (2, .int bx2)]) hx hb dL_sessions_16 rfl hl (by decide) rfl (fun ls hl => ?_)
          refine lv_iconst (v := (0 : Int32)) hx hb dL_sessions_17 (by decide) ?_
          refine lv_istore (lv' := [(4, .int (0 : Int32)), (3, .null), (0, .ref ba0), (1, .ref ba1), (2, .int bx2)]) hx hb dL_sessions_18 hl (by decide) rfl (fun ls hl => ?_)
          refine lv_iconst (v := (0 : Int32)) hx hb dL_sessions_20 (by decide) ?_
          refine lv_istore (lv' := [(5, .int (0 : Int32)), (4, .int (0 : Int32)), (3, .null), (0, .ref ba0), (1, .ref ba1), (2, .int bx2)]) hx hb dL_sessions_21 hl (by decide) rfl (fun ls hl => ?_)
          refine lv_iconst (v := (5 : Int32)) hx hb dL_sessions_23 (by decide) ?_
          obtain ⟨y24, h⟩ := h
          refine g_newai (N := 5) hx hb hts hK hlo hG (by decide) (by decide) (Nat.le_of_ble_eq_true rfl) y24 dL_sessions_24 (fun q24 H z24 hG => ?_)
          obtain ⟨G24, i24⟩ : ∃ g : gH, g = va_up G q24 (some (.inl (0, 5, fun _ => 0))) := ⟨_, rfl⟩
          rw [← i24] at hG
          replace h := h q24 z24 G24 i24
          refine lv_astore (lv' := [(6, .ref q24), (5, .int (0 : Int32)), (4, .int (0 : Int32)), (3, .null), (0, .ref ba0), (1, .ref ba1), (2, .int bx2)]) hx hb dL_sessions_26 hl (by decide) rfl (fun ls hl => ?_)
          refine lv_iconst (v := (0 : Int32)) hx hb dL_sessions_28 (by decide) ?_
          refine lv_istore (lv' := [(7, .int (0 : Int32)), (6, .ref q24), (5, .int (0 : Int32)), (4, .int (0 : Int32)), (3, .null), (0, .ref ba0), (1, .ref ba1), (2, .int bx2)]) hx hb dL_sessions_29 hl (by decide) rfl (fun ls hl => ?_)
          exact h31 g_N G24 (kc + 1) (ks + 5) ba0 ba1 bx2 none (0 : Int32) (0 : Int32) q24 (0 : Int32) _ _ hG _ (lv_sub hl [5, 6, 7, 4, 3, 2, 1, 0] rfl) h
        · replace h := h.2 r15 rfl
          refine lv_astore_n (lv' := [(3, .ref r15), (0, .ref ba0), (1, .ref ba1), (2, .int bx2)]) hx hb dL_sessions_16 rfl hl (by decide) rfl (fun ls hl => ?_)
          refine lv_iconst (v := (0 : Int32)) hx hb dL_sessions_17 (by decide) ?_
          refine lv_istore (lv' := [(4, .int (0 : Int32)), (3, .ref r15), (0, .ref ba0), (1, .ref ba1), (2, .int bx2)]) hx hb dL_sessions_18 hl (by decide) rfl (fun ls hl => ?_)
          refine lv_iconst (v := (0 : Int32)) hx hb dL_sessions_20 (by decide) ?_
          refine lv_istore (lv' := [(5, .int (0 : Int32)), (4, .int (0 : Int32)), (3, .ref r15), (0, .ref ba0), (1, .ref ba1), (2, .int bx2)]) hx hb dL_sessions_21 hl (by decide) rfl (fun ls hl => ?_)
          refine lv_iconst (v := (5 : Int32)) hx hb dL_sessions_23 (by decide) ?_
          obtain ⟨y24, h⟩ := h
          refine g_newai (N := 5) hx hb hts hK hlo hG (by decide) (by decide) (Nat.le_of_ble_eq_true rfl) y24 dL_sessions_24 (fun q24 H z24 hG => ?_)
          obtain ⟨G24, i24⟩ : ∃ g : gH, g = va_up G q24 (some (.inl (0, 5, fun _ => 0))) := ⟨_, rfl⟩
          rw [← i24] at hG
          replace h := h q24 z24 G24 i24
          refine lv_astore (lv' := [(6, .ref q24), (5, .int (0 : Int32)), (4, .int (0 : Int32)), (3, .ref r15), (0, .ref ba0), (1, .ref ba1), (2, .int bx2)]) hx hb dL_sessions_26 hl (by decide) rfl (fun ls hl => ?_)
          refine lv_iconst (v := (0 : Int32)) hx hb dL_sessions_28 (by decide) ?_
          refine lv_istore (lv' := [(7, .int (0 : Int32)), (6, .ref q24), (5, .int (0 : Int32)), (4, .int (0 : Int32)), (3, .ref r15), (0, .ref ba0), (1, .ref ba1), (2, .int bx2)]) hx hb dL_sessions_29 hl (by decide) rfl (fun ls hl => ?_)
          exact h31 g_N G24 (kc + 1) (ks + 5) ba0 ba1 bx2 (some r15) (0 : Int32) (0 : Int32) q24 (0 : Int32) _ _ hG _ (lv_sub hl [5, 6, 7, 4, 3, 2, 1, 0] rfl) h
  unfold w_L_sessions at h
  refine lv_iconst (v := (0 : Int32)) hx hb dL_sessions_0 (by decide) ?_
  refine lv_istore_n (lv' := [(2, .int (0 : Int32)), (0, .ref a0), (1, .ref a1)]) hx hb dL_sessions_1 rfl hl (by decide) rfl (fun ls hl => ?_)
  exact h2 g_N G 0 0 a0 a1 (0 : Int32) _ _ hG _ (lv_sub hl [1, 2, 0] rfl) h
set_option maxRecDepth 20000 in
set_option maxHeartbeats 4000000 in
theorem m_L_files (MC MS : Nat) (l : Launch) (hfl : l.stackTraces = false) (dd : va_G) (cT : Nat → ClassId) (lo : Nat → Prop) (G : gH) (a0 : Nat) (a1 : Nat) (a2 : Nat) {K : Int32 → gH → Prop} (h : w_L_files MC MS G a0 a1 a2 K) : Met l yL_files (Cond.code yL_files cL_files 11 (some .boolean) :: wsL_law) (g_rm 8 154 MC MS) (va_Pc [.ref a0, .ref a1, .ref a2] (g_Pre lo dd cT G)) (va_Qi K (g_Pre lo dd cT) (g_A lo)) MC MS (g_A lo) := by
  refine g_start RL rfl (by decide) (Nat.le_of_ble_eq_true rfl) ?_
  intro p e s m below meth c hx hb hr hlocks hml hown hnm hts hK hG hlo ls hl
  have hl : lv_has ls 11 [(0, .ref a0), (1, .ref a1), (2, .ref a2)] := hl
  have hG : g_S lo dd cT s s.heap [] G := hG
  have h421 : ∀ n421 : Nat, ∀ (G : gH) (kc ks : Nat) (ba0 : Nat) (ba1 : Nat) (ba2 : Nat) (bx5 : Int32) (bx6 : Int32) (bx7 : Int32) (bx8 : Int32) (H : Heap) (locs : List Loc), g_S lo dd cT s H locs G → ∀ ls : Array Slot, lv_has ls 11 [(0, .ref ba0), (1, .ref ba1), (2, .ref ba2), (5, .int bx5), (6, .int bx6), (7, .int bx7), (8, .int bx8)] → w_L_files_L421 MC MS K n421 G kc ks ba0 ba1 ba2 bx5 bx6 bx7 bx8 → W p l e (g_rm 8 154 MC MS) s m ([.ref a0, .ref a1, .ref a2] : List Value).toArray below meth c H locs kc ks (MQ below (va_Qi K (g_Pre lo dd cT) (g_A lo)) ([.ref a0, .ref a1, .ref a2] : List Value).toArray s MC MS (g_A lo)) (F0 m 421 ls []) := by
    intro n421
    induction n421 with
    | zero =>
      intro G kc ks ba0 ba1 ba2 bx5 bx6 bx7 bx8 H locs hG ls hl h
      exact (show False from h).elim
    | succ n421 ih421 =>
      have h500 : ∀ (G : gH) (kc ks : Nat) (ba0 : Nat) (ba1 : Nat) (ba2 : Nat) (bx5 : Int32) (bx6 : Int32) (bx7 : Int32) (bx8 : Int32) (bx10 : Int32) (H : Heap) (locs : List Loc), g_S lo dd cT s H locs G → ∀ ls : Array Slot, lv_has ls 11 [(0, .ref ba0), (1, .ref ba1), (2, .ref ba2), (5, .int bx5), (6, .int bx6), (7, .int bx7), (8, .int bx8), (10, .int bx10)] → w_L_files_J500 MC MS K (w_L_files_L421 MC MS K n421) G kc ks ba0 ba1 ba2 bx5 bx6 bx7 bx8 bx10 → W p l e (g_rm 8 154 MC MS) s m ([.ref a0, .ref a1, .ref a2] : List Value).toArray below meth c H locs kc ks (MQ below (va_Qi K (g_Pre lo dd cT) (g_A lo)) ([.ref a0, .ref a1, .ref a2] : List Value).toArray s MC MS (g_A lo)) (F0 m 500 ls []) := by
        intro G kc ks ba0 ba1 ba2 bx5 bx6 bx7 bx8 bx10 H locs hG ls hl h
        unfold w_L_files_J500 at h
        refine lv_iload hx hb dL_files_500 (lv_at hl 4 rfl) ?_
        refine lv_iload hx hb dL_files_502 (lv_at hl 7 rfl) ?_
        refine va_mmax hx hb (hml.trans hl.1.symm) hown (hts _ qM_L_292) (hts _ qT_Lib_Math_max_name) (hts _ qN_java_lang_Math) (hts _ qC_Lib_Math_max_name) (Nat.le_of_ble_eq_true rfl) (Nat.le_of_ble_eq_true rfl) (Nat.le_of_ble_eq_true rfl) (Nat.le_of_ble_eq_true rfl) dL_files_504 ?_
        refine lv_istore (lv' := [(6, .int (if bx6 < bx10 then bx10 else bx6)), (0, .ref ba0), (1, .ref ba1), (2, .ref ba2), (5, .int bx5), (7, .int bx7), (8, .int bx8), (10, .int bx10)]) hx hb dL_files_507 hl (by decide) rfl (fun ls hl => ?_)
        refine lv_iload hx hb dL_files_509 (lv_at hl 6 rfl) ?_
        refine lv_iconst (v := (4 : Int32)) hx hb dL_files_511 (by decide) ?_
        refine lv_irem hx hb dL_files_512 (by decide) ?_
        refine lv_aload_n hx hb dL_files_513 rfl (lv_at hl 3 rfl) ?_
        refine lv_iconst (v := (4 : Int32)) hx hb dL_files_514 (by decide) ?_
        obtain ⟨C515, R515, d515, g515, h⟩ := h
        obtain ⟨y515, h⟩ := h
        obtain ⟨q515, e515, h⟩ := h
        rw [g515] at hG
        refine g_wSi (As := [.ref ba2, .int (4 : Int32)]) (rest := [.int (bx8 - bx8 / (4 : Int32) * (4 : Int32))]) (n := 2) hx hb hml hown hts hK hlo hG (g_frI d515 (fun lo => m_L_draw l dd cT lo C515 ba2 (4 : Int32) e515) lo) qM_L_35 qT_yL_draw qN_L qC_yL_draw (by decide +kernel) ⟨Nat.le_of_ble_eq_true rfl, Nat.le_of_ble_eq_true rfl⟩ rfl hl.1 rfl (Nat.le_of_ble_eq_true rfl) dL_files_515 y515 (fun v515x Gx H locs hKx hG => ?_)
        obtain ⟨D515, ⟨k515a, k515⟩, f515, l515⟩ := hKx
        rw [l515, k515] at hG
        rw [k515] at f515
        rw [k515a]
        obtain ⟨G515, i515⟩ : ∃ g : gH, g = gj q515.1 R515 := ⟨_, rfl⟩
        rw [← i515] at hG
        replace h := h G515 f515 i515
        refine lv_icmp_ne (tgt := 534) hx hb dL_files_518 (by decide) (fun c518 => ?_) (fun c518 => ?_)
        · rw [if_neg c518] at h
          refine lv_iinc (v := (bx8 + (1 : Int32))) (lv' := [(8, .int (bx8 + (1 : Int32))), (6, .int (if bx6 < bx10 then bx10 else bx6)), (0, .ref ba0), (1, .ref ba1), (2, .ref ba2), (5, .int bx5), (7, .int bx7), (10, .int bx10)]) hx hb dL_files_534 hl (k := 6) rfl rfl (by decide) rfl (fun ls hl => ?_)
          refine lv_goto (tgt := 421) hx hb dL_files_537 (by decide) ?_
          exact ih421 G515 kc ks ba0 ba1 ba2 bx5 (if bx6 < bx10 then bx10 else bx6) bx7 (bx8 + (1 : Int32)) _ _ hG _ (lv_sub hl [2, 3, 4, 5, 1, 6, 0] rfl) h
        · rw [if_pos c518] at h
          refine lv_aload_n hx hb dL_files_521 rfl (lv_at hl 1 rfl) ?_
          refine lv_iload hx hb dL_files_522 (lv_at hl 6 rfl) ?_
          obtain ⟨C524, R524, d524, g524, h⟩ := h
          obtain ⟨u524, o524, h⟩ := h
          obtain ⟨y524, h⟩ := h
          rw [g524] at hG
          refine g_wVi (As := [.int bx8]) (rest := []) (n := 1) hx hb hml hown hts hK hlo hG (g_frI d524 (fun lo => g_noX (m_X9_risk l hfl dd cT lo C524 ba0 bx8 h)) lo) qM_L_295 qI_yX9_risk qS_X9_yX9_risk qN_X9 qC_yX9_risk (by decide +kernel) ⟨Nat.le_of_ble_eq_true rfl, Nat.le_of_ble_eq_true rfl⟩ (by rfl) (g_ob_gj o524) rfl hl.1 rfl (Nat.le_of_ble_eq_true rfl) dL_files_524 y524 (fun v524x Gx H locs hKx hG => ?_)
          obtain ⟨D524, h, f524, rfl⟩ := hKx
          obtain ⟨G524, i524⟩ : ∃ g : gH, g = gj D524 R524 := ⟨_, rfl⟩
          rw [← i524] at hG
          replace h := h G524 f524 i524
          revert h
          generalize v524x = v524
          intro h
          refine lv_iload hx hb dL_files_527 (lv_at hl 7 rfl) ?_
          refine lv_icmp_eq (tgt := 534) hx hb dL_files_529 (by decide) (fun c529 => ?_) (fun c529 => ?_)
          · rw [if_pos c529] at h
            refine lv_iinc (v := (bx8 + (1 : Int32))) (lv' := [(8, .int (bx8 + (1 : Int32))), (6, .int (if bx6 < bx10 then bx10 else bx6)), (0, .ref ba0), (1, .ref ba1), (2, .ref ba2), (5, .int bx5), (7, .int bx7), (10, .int bx10)]) hx hb dL_files_534 hl (k := 6) rfl rfl (by decide) rfl (fun ls hl => ?_)
            refine lv_goto (tgt := 421) hx hb dL_files_537 (by decide) ?_
            exact ih421 G524 (kc + 1) (ks + 6) ba0 ba1 ba2 bx5 (if bx6 < bx10 then bx10 else bx6) bx7 (bx8 + (1 : Int32)) _ _ hG _ (lv_sub hl [2, 3, 4, 5, 1, 6, 0] rfl) h
          · rw [if_neg c529] at h
            refine lv_iconst (v := (0 : Int32)) hx hb dL_files_532 (by decide) ?_
            obtain ⟨y1, y2, h⟩ := h
            refine W.widen (k := MC) (n := MS) y1 y2 ?_
            exact g_zret hx hb hr hlocks hK hlo hG rfl h dL_files_533
      have h465 : ∀ (G : gH) (kc ks : Nat) (ba0 : Nat) (ba1 : Nat) (ba2 : Nat) (bx5 : Int32) (bx6 : Int32) (bx7 : Int32) (bx8 : Int32) (bx9 : Int32) (z0 : Nat) (z1 : Int32) (z2 : Int32) (H : Heap) (locs : List Loc), g_S lo dd cT s H locs G → ∀ ls : Array Slot, lv_has ls 11 [(0, .ref ba0), (1, .ref ba1), (2, .ref ba2), (5, .int bx5), (6, .int bx6), (7, .int bx7), (8, .int bx8), (9, .int bx9)] → w_L_files_J465 MC MS K (w_L_files_L421 MC MS K n421) G kc ks ba0 ba1 ba2 bx5 bx6 bx7 bx8 bx9 z0 z1 z2 → W p l e (g_rm 8 154 MC MS) s m ([.ref a0, .ref a1, .ref a2] : List Value).toArray below meth c H locs kc ks (MQ below (va_Qi K (g_Pre lo dd cT) (g_A lo)) ([.ref a0, .ref a1, .ref a2] : List Value).toArray s MC MS (g_A lo)) (F0 m 465 ls [.int z2, .int z1, .ref z0]) := by
        intro G kc ks ba0 ba1 ba2 bx5 bx6 bx7 bx8 bx9 z0 z1 z2 H locs hG ls hl h
        unfold w_L_files_J465 at h
        obtain ⟨G465, e465, h⟩ := h
        refine g_zast hx hb hK hG e465 dL_files_465 (fun H locs hG => ?_)
        refine lv_iload hx hb dL_files_466 (lv_at hl 3 rfl) ?_
        refine lv_aload_n hx hb dL_files_468 rfl (lv_at hl 1 rfl) ?_
        obtain ⟨C469, R469, d469, g469, h⟩ := h
        obtain ⟨u469, o469, h⟩ := h
        obtain ⟨y469, h⟩ := h
        obtain ⟨v469, e469, h⟩ := h
        rw [g469] at hG
        refine g_wVi (As := []) (rest := [.int bx5]) (n := 0) hx hb hml hown hts hK hlo hG (g_frI d469 (fun lo => m_X10_good l dd cT lo C469 ba1 e469) lo) qM_L_181 qI_yX10_good qS_X10_yX10_good qN_X10 qC_yX10_good (by decide +kernel) ⟨Nat.le_of_ble_eq_true rfl, Nat.le_of_ble_eq_true rfl⟩ (by rfl) (g_ob_gj o469) rfl hl.1 rfl (Nat.le_of_ble_eq_true rfl) dL_files_469 y469 (fun v469x Gx H locs hKx hG => ?_)
        obtain ⟨D469, ⟨k469a, k469⟩, f469, l469⟩ := hKx
        rw [l469, k469] at hG
        rw [k469] at f469
        rw [k469a]
        rw [← g469] at hG
        refine lv_iconst (v := (-1 : Int32)) hx hb dL_files_472 (by decide) ?_
        refine lv_ixor hx hb dL_files_473 ?_
        refine lv_iand hx hb dL_files_474 ?_
        obtain ⟨C475, R475, d475, g475, h⟩ := h
        obtain ⟨y475, h⟩ := h
        obtain ⟨v475, e475, h⟩ := h
        rw [g475] at hG
        refine g_wAi (As := [.int (bx5 &&& (v469 ^^^ (-1 : Int32)))]) (rest := []) (n := 1) hx hb hml hown hts hK hlo hG (g_frI d475 (fun lo => m_J6_bitCount_0f7a4 l dd cT lo C475 (bx5 &&& (v469 ^^^ (-1 : Int32))) e475) lo) qM_L_184 qT_yJ6_bitCount_0f7a4 qN_J6 qC_yJ6_bitCount_0f7a4 (by decide +kernel) ⟨Nat.le_of_ble_eq_true rfl, Nat.le_of_ble_eq_true rfl⟩ rfl hl.1 rfl (Nat.le_of_ble_eq_true rfl) dL_files_475 y475 (fun v475x Gx H locs hKx hG => ?_)
        obtain ⟨D475, ⟨k475a, k475⟩, f475, l475⟩ := hKx
        rw [l475, k475] at hG
        rw [k475] at f475
        rw [k475a]
        rw [← g475] at hG
        refine lv_istore (lv' := [(10, .int v475), (0, .ref ba0), (1, .ref ba1), (2, .ref ba2), (5, .int bx5), (6, .int bx6), (7, .int bx7), (8, .int bx8), (9, .int bx9)]) hx hb dL_files_478 hl (by decide) rfl (fun ls hl => ?_)
        refine lv_aload_n hx hb dL_files_480 rfl (lv_at hl 2 rfl) ?_
        obtain ⟨v481, e481, h⟩ := h
        refine g_getrN hx hb hts inlX10 hown hK hG (by rfl) 13 (by decide) (List.mem_of_getElem? (i := 5) rfl) e481 dL_files_481 ?_
        refine lv_iload hx hb dL_files_484 (lv_at hl 7 rfl) ?_
        refine lv_iload hx hb dL_files_486 (lv_at hl 8 rfl) ?_
        obtain ⟨G488, e488, h⟩ := h
        refine g_zast hx hb hK hG e488 dL_files_488 (fun H locs hG => ?_)
        refine lv_iload hx hb dL_files_489 (lv_at hl 0 rfl) ?_
        refine lv_iload hx hb dL_files_491 (lv_at hl 5 rfl) ?_
        refine lv_icmp_le (tgt := 500) hx hb dL_files_493 (by decide) (fun c493 => ?_) (fun c493 => ?_)
        · rw [if_pos c493] at h
          exact h500 G488 kc ks ba0 ba1 ba2 bx5 bx6 bx7 bx8 v475 _ _ hG _ (lv_sub hl [1, 2, 3, 4, 5, 6, 7, 0] rfl) h
        · rw [if_neg c493] at h
          refine lv_iload hx hb dL_files_496 (lv_at hl 7 rfl) ?_
          refine lv_istore (lv' := [(7, .int bx8), (10, .int v475), (0, .ref ba0), (1, .ref ba1), (2, .ref ba2), (5, .int bx5), (6, .int bx6), (8, .int bx8), (9, .int bx9)]) hx hb dL_files_498 hl (by decide) rfl (fun ls hl => ?_)
          exact h500 G488 kc ks ba0 ba1 ba2 bx5 bx6 bx8 bx8 v475 _ _ hG _ (lv_sub hl [2, 3, 4, 5, 6, 0, 7, 1] rfl) h
      intro G kc ks ba0 ba1 ba2 bx5 bx6 bx7 bx8 H locs hG ls hl h
      rw [w_L_files_L421] at h
      refine lv_iload hx hb dL_files_421 (lv_at hl 6 rfl) ?_
      refine lv_aload_n hx hb dL_files_423 rfl (lv_at hl 1 rfl) ?_
      obtain ⟨v424, e424, h⟩ := h
      refine g_getiN hx hb hts inlX10 hown hK hG (by rfl) 0 (by decide) (List.mem_of_getElem? (i := 0) rfl) e424 dL_files_424 ?_
      refine lv_icmp_ge (tgt := 540) hx hb dL_files_427 (by decide) (fun c427 => ?_) (fun c427 => ?_)
      · rw [if_pos c427] at h
        refine lv_aload_n hx hb dL_files_540 rfl (lv_at hl 0 rfl) ?_
        obtain ⟨C541, R541, d541, g541, h⟩ := h
        obtain ⟨u541, o541, h⟩ := h
        obtain ⟨y541, h⟩ := h
        obtain ⟨q541, e541, h⟩ := h
        rw [g541] at hG
        refine g_wVi (As := []) (rest := []) (n := 0) hx hb hml hown hts hK hlo hG (g_frI d541 (fun lo => m_X9_weakest l dd cT lo C541 ba0 e541) lo) qM_L_298 qI_yX9_weakest qS_X9_yX9_weakest qN_X9 qC_yX9_weakest (by decide +kernel) ⟨Nat.le_of_ble_eq_true rfl, Nat.le_of_ble_eq_true rfl⟩ (by rfl) (g_ob_gj o541) rfl hl.1 rfl (Nat.le_of_ble_eq_true rfl) dL_files_541 y541 (fun v541x Gx H locs hKx hG => ?_)
        obtain ⟨D541, ⟨k541a, k541⟩, f541, l541⟩ := hKx
        rw [l541, k541] at hG
        rw [k541] at f541
        rw [k541a]
        obtain ⟨G541, i541⟩ : ∃ g : gH, g = gj q541.1 R541 := ⟨_, rfl⟩
        rw [← i541] at hG
        replace h := h G541 f541 i541
        refine lv_iload hx hb dL_files_544 (lv_at hl 5 rfl) ?_
        refine lv_icmp_ne (tgt := 553) hx hb dL_files_546 (by decide) (fun c546 => ?_) (fun c546 => ?_)
        · rw [if_neg c546] at h
          refine lv_iconst (v := (0 : Int32)) hx hb dL_files_553 (by decide) ?_
          obtain ⟨y1, y2, h⟩ := h
          refine W.widen (k := MC) (n := MS) y1 y2 ?_
          exact g_zret hx hb hr hlocks hK hlo hG rfl h dL_files_554
        · rw [if_pos c546] at h
          refine lv_iconst (v := (1 : Int32)) hx hb dL_files_549 (by decide) ?_
          refine lv_goto (tgt := 554) hx hb dL_files_550 (by decide) ?_
          obtain ⟨y1, y2, h⟩ := h
          refine W.widen (k := MC) (n := MS) y1 y2 ?_
          exact g_zret hx hb hr hlocks hK hlo hG rfl h dL_files_554
      · rw [if_neg c427] at h
        refine lv_aload_n hx hb dL_files_430 rfl (lv_at hl 1 rfl) ?_
        obtain ⟨v431, e431, h⟩ := h
        refine g_getrN hx hb hts inlX10 hown hK hG (by rfl) 13 (by decide) (List.mem_of_getElem? (i := 5) rfl) e431 dL_files_431 ?_
        refine lv_iload hx hb dL_files_434 (lv_at hl 6 rfl) ?_
        obtain ⟨v436, e436, h⟩ := h
        refine g_zald hx hb hK hG e436 dL_files_436 ?_
        refine lv_istore (lv' := [(9, .int v436), (0, .ref ba0), (1, .ref ba1), (2, .ref ba2), (5, .int bx5), (6, .int bx6), (7, .int bx7), (8, .int bx8)]) hx hb dL_files_437 hl (by decide) rfl (fun ls hl => ?_)
        refine lv_aload_n hx hb dL_files_439 rfl (lv_at hl 2 rfl) ?_
        obtain ⟨v440, e440, h⟩ := h
        refine g_getrN hx hb hts inlX10 hown hK hG (by rfl) 13 (by decide) (List.mem_of_getElem? (i := 5) rfl) e440 dL_files_440 ?_
        refine lv_iload hx hb dL_files_443 (lv_at hl 7 rfl) ?_
        refine lv_iload hx hb dL_files_445 (lv_at hl 0 rfl) ?_
        refine lv_if_ne (tgt := 460) hx hb dL_files_447 (by decide) (fun c447 => ?_) (fun c447 => ?_)
        · rw [if_neg c447] at h
          refine lv_iconst (v := (1 : Int32)) hx hb dL_files_460 (by decide) ?_
          refine lv_goto (tgt := 465) hx hb dL_files_461 (by decide) ?_
          exact h465 G kc ks ba0 ba1 ba2 bx5 bx6 bx7 bx8 v436 v440 bx8 (1 : Int32) _ _ hG _ (lv_sub hl [1, 2, 3, 4, 5, 6, 7, 0] rfl) h
        · rw [if_pos c447] at h
          refine lv_aload_n hx hb dL_files_450 rfl (lv_at hl 2 rfl) ?_
          obtain ⟨v451, e451, h⟩ := h
          refine g_getrN hx hb hts inlX10 hown hK hG (by rfl) 7 (by decide) (List.mem_of_getElem? (i := 4) rfl) e451 dL_files_451 ?_
          refine lv_iload hx hb dL_files_454 (lv_at hl 7 rfl) ?_
          obtain ⟨v456, e456, h⟩ := h
          refine g_iald hx hb hK hG e456 dL_files_456 ?_
          refine lv_if_le (tgt := 464) hx hb dL_files_457 (by decide) (fun c457 => ?_) (fun c457 => ?_)
          · rw [if_pos c457] at h
            refine lv_iconst (v := (0 : Int32)) hx hb dL_files_464 (by decide) ?_
            exact h465 G kc ks ba0 ba1 ba2 bx5 bx6 bx7 bx8 v436 v440 bx8 (0 : Int32) _ _ hG _ (lv_sub hl [1, 2, 3, 4, 5, 6, 7, 0] rfl) h
          · rw [if_neg c457] at h
            refine lv_iconst (v := (1 : Int32)) hx hb dL_files_460 (by decide) ?_
            refine lv_goto (tgt := 465) hx hb dL_files_461 (by decide) ?_
            exact h465 G kc ks ba0 ba1 ba2 bx5 bx6 bx7 bx8 v436 v440 bx8 (1 : Int32) _ _ hG _ (lv_sub hl [1, 2, 3, 4, 5, 6, 7, 0] rfl) h
  have h401 : ∀ (G : gH) (kc ks : Nat) (ba0 : Nat) (ba1 : Nat) (ba2 : Nat) (z0 : Int32) (z1 : Int32) (H : Heap) (locs : List Loc), g_S lo dd cT s H locs G → ∀ ls : Array Slot, lv_has ls 11 [(0, .ref ba0), (1, .ref ba1), (2, .ref ba2)] → w_L_files_J401 MC MS K G kc ks ba0 ba1 ba2 z0 z1 → W p l e (g_rm 8 154 MC MS) s m ([.ref a0, .ref a1, .ref a2] : List Value).toArray below meth c H locs kc ks (MQ below (va_Qi K (g_Pre lo dd cT) (g_A lo)) ([.ref a0, .ref a1, .ref a2] : List Value).toArray s MC MS (g_A lo)) (F0 m 401 ls [.int z1, .int z0]) := by
    intro G kc ks ba0 ba1 ba2 z0 z1 H locs hG ls hl h
    unfold w_L_files_J401 at h
    refine lv_icmp_eq (tgt := 406) hx hb dL_files_401 (by decide) (fun c401 => ?_) (fun c401 => ?_)
    · rw [if_pos c401] at h
      refine lv_aload_n hx hb dL_files_406 rfl (lv_at hl 1 rfl) ?_
      obtain ⟨C407, R407, d407, g407, h⟩ := h
      obtain ⟨u407, o407, h⟩ := h
      obtain ⟨y407, h⟩ := h
      obtain ⟨v407, e407, h⟩ := h
      rw [g407] at hG
      refine g_wVi (As := []) (rest := []) (n := 0) hx hb hml hown hts hK hlo hG (g_frI d407 (fun lo => m_X10_good l dd cT lo C407 ba1 e407) lo) qM_L_181 qI_yX10_good qS_X10_yX10_good qN_X10 qC_yX10_good (by decide +kernel) ⟨Nat.le_of_ble_eq_true rfl, Nat.le_of_ble_eq_true rfl⟩ (by rfl) (g_ob_gj o407) rfl hl.1 rfl (Nat.le_of_ble_eq_true rfl) dL_files_407 y407 (fun v407x Gx H locs hKx hG => ?_)
      obtain ⟨D407, ⟨k407a, k407⟩, f407, l407⟩ := hKx
      rw [l407, k407] at hG
      rw [k407] at f407
      rw [k407a]
      rw [← g407] at hG
      refine lv_istore (lv' := [(5, .int v407), (0, .ref ba0), (1, .ref ba1), (2, .ref ba2)]) hx hb dL_files_410 hl (by decide) rfl (fun ls hl => ?_)
      refine lv_iconst (v := (0 : Int32)) hx hb dL_files_412 (by decide) ?_
      refine lv_istore (lv' := [(6, .int (0 : Int32)), (5, .int v407), (0, .ref ba0), (1, .ref ba1), (2, .ref ba2)]) hx hb dL_files_413 hl (by decide) rfl (fun ls hl => ?_)
      refine lv_iconst (v := (0 : Int32)) hx hb dL_files_415 (by decide) ?_
      refine lv_istore (lv' := [(7, .int (0 : Int32)), (6, .int (0 : Int32)), (5, .int v407), (0, .ref ba0), (1, .ref ba1), (2, .ref ba2)]) hx hb dL_files_416 hl (by decide) rfl (fun ls hl => ?_)
      refine lv_iconst (v := (0 : Int32)) hx hb dL_files_418 (by decide) ?_
      refine lv_istore (lv' := [(8, .int (0 : Int32)), (7, .int (0 : Int32)), (6, .int (0 : Int32)), (5, .int v407), (0, .ref ba0), (1, .ref ba1), (2, .ref ba2)]) hx hb dL_files_419 hl (by decide) rfl (fun ls hl => ?_)
      exact h421 g_N G kc ks ba0 ba1 ba2 v407 (0 : Int32) (0 : Int32) (0 : Int32) _ _ hG _ (lv_sub hl [4, 5, 6, 3, 2, 1, 0] rfl) h
    · rw [if_neg c401] at h
      refine lv_iconst (v := (0 : Int32)) hx hb dL_files_404 (by decide) ?_
      obtain ⟨y1, y2, h⟩ := h
      refine W.widen (k := MC) (n := MS) y1 y2 ?_
      exact g_zret hx hb hr hlocks hK hlo hG rfl h dL_files_405
  have h2 : ∀ n2 : Nat, ∀ (G : gH) (kc ks : Nat) (ba0 : Nat) (ba1 : Nat) (ba2 : Nat) (bx3 : Int32) (H : Heap) (locs : List Loc), g_S lo dd cT s H locs G → ∀ ls : Array Slot, lv_has ls 11 [(0, .ref ba0), (1, .ref ba1), (2, .ref ba2), (3, .int bx3)] → w_L_files_L2 MC MS K n2 G kc ks ba0 ba1 ba2 bx3 → W p l e (g_rm 8 154 MC MS) s m ([.ref a0, .ref a1, .ref a2] : List Value).toArray below meth c H locs kc ks (MQ below (va_Qi K (g_Pre lo dd cT) (g_A lo)) ([.ref a0, .ref a1, .ref a2] : List Value).toArray s MC MS (g_A lo)) (F0 m 2 ls []) := by
    intro n2
    induction n2 with
    | zero =>
      intro G kc ks ba0 ba1 ba2 bx3 H locs hG ls hl h
      exact (show False from h).elim
    | succ n2 ih2 =>
      have h278 : ∀ n278 : Nat, ∀ (G : gH) (kc ks : Nat) (ba0 : Nat) (ba1 : Nat) (ba2 : Nat) (bx3 : Int32) (ba5 : Option Nat) (bx10 : Int32) (H : Heap) (locs : List Loc), g_S lo dd cT s H locs G → ∀ ls : Array Slot, lv_has ls 11 [(0, .ref ba0), (1, .ref ba1), (2, .ref ba2), (3, .int bx3), (5, va_rf ba5), (10, .int bx10)] → w_L_files_L278 MC MS K (w_L_files_L2 MC MS K n2) n278 G kc ks ba0 ba1 ba2 bx3 ba5 bx10 → W p l e (g_rm 8 154 MC MS) s m ([.ref a0, .ref a1, .ref a2] : List Value).toArray below meth c H locs kc ks (MQ below (va_Qi K (g_Pre lo dd cT) (g_A lo)) ([.ref a0, .ref a1, .ref a2] : List Value).toArray s MC MS (g_A lo)) (F0 m 278 ls []) := by
        intro n278
        induction n278 with
        | zero =>
          intro G kc ks ba0 ba1 ba2 bx3 ba5 bx10 H locs hG ls hl h
          exact (show False from h).elim
        | succ n278 ih278 =>
          have h319 : ∀ (G : gH) (kc ks : Nat) (ba0 : Nat) (ba1 : Nat) (ba2 : Nat) (bx3 : Int32) (ba5 : Option Nat) (bx10 : Int32) (z0 : Int32) (z1 : Int32) (H : Heap) (locs : List Loc), g_S lo dd cT s H locs G → ∀ ls : Array Slot, lv_has ls 11 [(0, .ref ba0), (1, .ref ba1), (2, .ref ba2), (3, .int bx3), (5, va_rf ba5), (10, .int bx10)] → w_L_files_J319 MC MS K (w_L_files_L2 MC MS K n2) (w_L_files_L278 MC MS K (w_L_files_L2 MC MS K n2) n278) G kc ks ba0 ba1 ba2 bx3 ba5 bx10 z0 z1 → W p l e (g_rm 8 154 MC MS) s m ([.ref a0, .ref a1, .ref a2] : List Value).toArray below meth c H locs kc ks (MQ below (va_Qi K (g_Pre lo dd cT) (g_A lo)) ([.ref a0, .ref a1, .ref a2] : List Value).toArray s MC MS (g_A lo)) (F0 m 319 ls [.int z1, .int z0]) := by
            intro G kc ks ba0 ba1 ba2 bx3 ba5 bx10 z0 z1 H locs hG ls hl h
            unfold w_L_files_J319 at h
            rcases ba5 with _ | ba5r
            · replace h := h.1 rfl
              refine lv_icmp_eq (tgt := 324) hx hb dL_files_319 (by decide) (fun c319 => ?_) (fun c319 => ?_)
              · rw [if_pos c319] at h
                refine lv_iinc (v := (bx10 + (1 : Int32))) (lv' := [(10, .int (bx10 + (1 : Int32))), (0, .ref ba0), (1, .ref ba1), (2, .ref ba2), (3, .int bx3), (5, .null)]) hx hb dL_files_324 hl (k := 5) rfl rfl (by decide) rfl (fun ls hl => ?_)
                refine lv_goto (tgt := 278) hx hb dL_files_327 (by decide) ?_
                exact ih278 G kc ks ba0 ba1 ba2 bx3 none (bx10 + (1 : Int32)) _ _ hG _ (lv_sub hl [1, 2, 3, 4, 5, 0] rfl) h
              · rw [if_neg c319] at h
                refine lv_iconst (v := (0 : Int32)) hx hb dL_files_322 (by decide) ?_
                obtain ⟨y1, y2, h⟩ := h
                refine W.widen (k := MC) (n := MS) y1 y2 ?_
                exact g_zret hx hb hr hlocks hK hlo hG rfl h dL_files_323
            · replace h := h.2 ba5r rfl
              refine lv_icmp_eq (tgt := 324) hx hb dL_files_319 (by decide) (fun c319 => ?_) (fun c319 => ?_)
              · rw [if_pos c319] at h
                refine lv_iinc (v := (bx10 + (1 : Int32))) (lv' := [(10, .int (bx10 + (1 : Int32))), (0, .ref ba0), (1, .ref ba1), (2, .ref ba2), (3, .int bx3), (5, .ref ba5r)]) hx hb dL_files_324 hl (k := 5) rfl rfl (by decide) rfl (fun ls hl => ?_)
                refine lv_goto (tgt := 278) hx hb dL_files_327 (by decide) ?_
                exact ih278 G kc ks ba0 ba1 ba2 bx3 (some ba5r) (bx10 + (1 : Int32)) _ _ hG _ (lv_sub hl [1, 2, 3, 4, 5, 0] rfl) h
              · rw [if_neg c319] at h
                refine lv_iconst (v := (0 : Int32)) hx hb dL_files_322 (by decide) ?_
                obtain ⟨y1, y2, h⟩ := h
                refine W.widen (k := MC) (n := MS) y1 y2 ?_
                exact g_zret hx hb hr hlocks hK hlo hG rfl h dL_files_323
          intro G kc ks ba0 ba1 ba2 bx3 ba5 bx10 H locs hG ls hl h
          rw [w_L_files_L278] at h
          rcases ba5 with _ | ba5r
          · replace h := h.1 rfl
            refine lv_iload hx hb dL_files_278 (lv_at hl 5 rfl) ?_
            refine lv_bipush (v := (8 : Int32)) hx hb dL_files_280 (by decide) ?_
            refine lv_icmp_ge (tgt := 330) hx hb dL_files_282 (by decide) (fun c282 => ?_) (fun c282 => ?_)
            · rw [if_pos c282] at h
              refine lv_iinc (v := (bx3 + (1 : Int32))) (lv' := [(3, .int (bx3 + (1 : Int32))), (0, .ref ba0), (1, .ref ba1), (2, .ref ba2), (5, .null), (10, .int bx10)]) hx hb dL_files_330 hl (k := 3) rfl rfl (by decide) rfl (fun ls hl => ?_)
              refine lv_goto (tgt := 2) hx hb dL_files_333 (by decide) ?_
              exact ih2 G kc ks ba0 ba1 ba2 (bx3 + (1 : Int32)) _ _ hG _ (lv_sub hl [1, 2, 3, 0] rfl) h
            · rw [if_neg c282] at h
              refine lv_aload_n hx hb dL_files_285 rfl (lv_at hl 0 rfl) ?_
              refine lv_iload_n hx hb dL_files_286 rfl (lv_at hl 3 rfl) ?_
              refine lv_iload hx hb dL_files_287 (lv_at hl 5 rfl) ?_
              obtain ⟨C289, R289, d289, g289, h⟩ := h
              obtain ⟨u289, o289, h⟩ := h
              obtain ⟨y289, h⟩ := h
              rw [g289] at hG
              refine g_wVi (As := [.int bx3, .int bx10]) (rest := []) (n := 2) hx hb hml hown hts hK hlo hG (g_frI d289 (fun lo => g_noX (m_X9_where l hfl dd cT lo C289 ba0 bx3 bx10 h)) lo) qM_L_270 qI_yX9_where qS_X9_yX9_where qN_X9 qC_yX9_where (by decide +kernel) ⟨Nat.le_of_ble_eq_true rfl, Nat.le_of_ble_eq_true rfl⟩ (by rfl) (g_ob_gj o289) rfl hl.1 rfl (Nat.le_of_ble_eq_true rfl) dL_files_289 y289 (fun v289x Gx H locs hKx hG => ?_)
              obtain ⟨D289, h, f289, rfl⟩ := hKx
              obtain ⟨G289, i289⟩ : ∃ g : gH, g = gj D289 R289 := ⟨_, rfl⟩
              rw [← i289] at hG
              replace h := h G289 f289 i289
              revert h
              generalize v289x = v289
              intro h
              refine lv_aloadN hx hb dL_files_292 (lv_at hl 4 rfl) ?_
              refine lv_ifnullN (tgt := 307) hx hb dL_files_294 (by decide) ?_
              refine lv_iconst (v := (-1 : Int32)) hx hb dL_files_307 (by decide) ?_
              refine lv_goto (tgt := 319) hx hb dL_files_308 (by decide) ?_
              exact h319 G289 (kc + 1) (ks + 6) ba0 ba1 ba2 bx3 none bx10 v289 (-1 : Int32) _ _ hG _ (lv_sub hl [0, 1, 2, 3, 4, 5] rfl) h
          · replace h := h.2 ba5r rfl
            refine lv_iload hx hb dL_files_278 (lv_at hl 5 rfl) ?_
            refine lv_bipush (v := (8 : Int32)) hx hb dL_files_280 (by decide) ?_
            refine lv_icmp_ge (tgt := 330) hx hb dL_files_282 (by decide) (fun c282 => ?_) (fun c282 => ?_)
            · rw [if_pos c282] at h
              refine lv_iinc (v := (bx3 + (1 : Int32))) (lv' := [(3, .int (bx3 + (1 : Int32))), (0, .ref ba0), (1, .ref ba1), (2, .ref ba2), (5, .ref ba5r), (10, .int bx10)]) hx hb dL_files_330 hl (k := 3) rfl rfl (by decide) rfl (fun ls hl => ?_)
              refine lv_goto (tgt := 2) hx hb dL_files_333 (by decide) ?_
              exact ih2 G kc ks ba0 ba1 ba2 (bx3 + (1 : Int32)) _ _ hG _ (lv_sub hl [1, 2, 3, 0] rfl) h
            · rw [if_neg c282] at h
              refine lv_aload_n hx hb dL_files_285 rfl (lv_at hl 0 rfl) ?_
              refine lv_iload_n hx hb dL_files_286 rfl (lv_at hl 3 rfl) ?_
              refine lv_iload hx hb dL_files_287 (lv_at hl 5 rfl) ?_
              obtain ⟨C289, R289, d289, g289, h⟩ := h
              obtain ⟨u289, o289, h⟩ := h
              obtain ⟨y289, h⟩ := h
              rw [g289] at hG
              refine g_wVi (As := [.int bx3, .int bx10]) (rest := []) (n := 2) hx hb hml hown hts hK hlo hG (g_frI d289 (fun lo => g_noX (m_X9_where l hfl dd cT lo C289 ba0 bx3 bx10 h)) lo) qM_L_270 qI_yX9_where qS_X9_yX9_where qN_X9 qC_yX9_where (by decide +kernel) ⟨Nat.le_of_ble_eq_true rfl, Nat.le_of_ble_eq_true rfl⟩ (by rfl) (g_ob_gj o289) rfl hl.1 rfl (Nat.le_of_ble_eq_true rfl) dL_files_289 y289 (fun v289x Gx H locs hKx hG => ?_)
              obtain ⟨D289, h, f289, rfl⟩ := hKx
              obtain ⟨G289, i289⟩ : ∃ g : gH, g = gj D289 R289 := ⟨_, rfl⟩
              rw [← i289] at hG
              replace h := h G289 f289 i289
              revert h
              generalize v289x = v289
              intro h
              refine lv_aload hx hb dL_files_292 (lv_at hl 4 rfl) ?_
              refine lv_ifnull hx hb dL_files_294 ?_
              refine lv_iload hx hb dL_files_297 (lv_at hl 5 rfl) ?_
              refine lv_aload hx hb dL_files_299 (lv_at hl 4 rfl) ?_
              obtain ⟨v301, e301, h⟩ := h
              refine g_getiN hx hb hts inlX13 hown hK hG (by rfl) 3 (by decide) (List.mem_of_getElem? (i := 25) rfl) e301 dL_files_301 ?_
              refine lv_icmp_lt (tgt := 311) hx hb dL_files_304 (by decide) (fun c304 => ?_) (fun c304 => ?_)
              · rw [if_pos c304] at h
                refine lv_aload hx hb dL_files_311 (lv_at hl 4 rfl) ?_
                obtain ⟨v313, e313, h⟩ := h
                refine g_getrN hx hb hts inlX13 hown hK hG (by rfl) 6 (by decide) (List.mem_of_getElem? (i := 29) rfl) e313 dL_files_313 ?_
                refine lv_iload hx hb dL_files_316 (lv_at hl 5 rfl) ?_
                obtain ⟨v318, e318, h⟩ := h
                refine g_iald hx hb hK hG e318 dL_files_318 ?_
                exact h319 G289 (kc + 1) (ks + 6) ba0 ba1 ba2 bx3 (some ba5r) bx10 v289 v318 _ _ hG _ (lv_sub hl [0, 1, 2, 3, 4, 5] rfl) h
              · rw [if_neg c304] at h
                refine lv_iconst (v := (-1 : Int32)) hx hb dL_files_307 (by decide) ?_
                refine lv_goto (tgt := 319) hx hb dL_files_308 (by decide) ?_
                exact h319 G289 (kc + 1) (ks + 6) ba0 ba1 ba2 bx3 (some ba5r) bx10 v289 (-1 : Int32) _ _ hG _ (lv_sub hl [0, 1, 2, 3, 4, 5] rfl) h
      have h216 : ∀ n216 : Nat, ∀ (G : gH) (kc ks : Nat) (ba0 : Nat) (ba1 : Nat) (ba2 : Nat) (bx3 : Int32) (ba5 : Option Nat) (ba8 : Nat) (bx9 : Int32) (H : Heap) (locs : List Loc), g_S lo dd cT s H locs G → ∀ ls : Array Slot, lv_has ls 11 [(0, .ref ba0), (1, .ref ba1), (2, .ref ba2), (3, .int bx3), (5, va_rf ba5), (8, .ref ba8), (9, .int bx9)] → w_L_files_L216 MC MS K (w_L_files_L2 MC MS K n2) n216 G kc ks ba0 ba1 ba2 bx3 ba5 ba8 bx9 → W p l e (g_rm 8 154 MC MS) s m ([.ref a0, .ref a1, .ref a2] : List Value).toArray below meth c H locs kc ks (MQ below (va_Qi K (g_Pre lo dd cT) (g_A lo)) ([.ref a0, .ref a1, .ref a2] : List Value).toArray s MC MS (g_A lo)) (F0 m 216 ls []) := by
        intro n216
        induction n216 with
        | zero =>
          intro G kc ks ba0 ba1 ba2 bx3 ba5 ba8 bx9 H locs hG ls hl h
          exact (show False from h).elim
        | succ n216 ih216 =>
          intro G kc ks ba0 ba1 ba2 bx3 ba5 ba8 bx9 H locs hG ls hl h
          rw [w_L_files_L216] at h
          rcases ba5 with _ | ba5r
          · replace h := h.1 rfl
            refine lv_iload hx hb dL_files_216 (lv_at hl 6 rfl) ?_
            refine lv_bipush (v := (7 : Int32)) hx hb dL_files_218 (by decide) ?_
            refine lv_icmp_ge (tgt := 246) hx hb dL_files_220 (by decide) (fun c220 => ?_) (fun c220 => ?_)
            · rw [if_pos c220] at h
              refine lv_iconst (v := (1 : Int32)) hx hb dL_files_246 (by decide) ?_
              refine lv_aload_n hx hb dL_files_247 rfl (lv_at hl 2 rfl) ?_
              refine lv_bipush (v := (8 : Int32)) hx hb dL_files_248 (by decide) ?_
              obtain ⟨C250, R250, d250, g250, h⟩ := h
              obtain ⟨y250, h⟩ := h
              obtain ⟨q250, e250, h⟩ := h
              rw [g250] at hG
              refine g_wSi (As := [.ref ba2, .int (8 : Int32)]) (rest := [.int (1 : Int32)]) (n := 2) hx hb hml hown hts hK hlo hG (g_frI d250 (fun lo => m_L_draw l dd cT lo C250 ba2 (8 : Int32) e250) lo) qM_L_35 qT_yL_draw qN_L qC_yL_draw (by decide +kernel) ⟨Nat.le_of_ble_eq_true rfl, Nat.le_of_ble_eq_true rfl⟩ rfl hl.1 rfl (Nat.le_of_ble_eq_true rfl) dL_files_250 y250 (fun v250x Gx H locs hKx hG => ?_)
              obtain ⟨D250, ⟨k250a, k250⟩, f250, l250⟩ := hKx
              rw [l250, k250] at hG
              rw [k250] at f250
              rw [k250a]
              obtain ⟨G250, i250⟩ : ∃ g : gH, g = gj q250.1 R250 := ⟨_, rfl⟩
              rw [← i250] at hG
              replace h := h G250 f250 i250
              refine lv_iadd hx hb dL_files_253 ?_
              refine lv_istore (lv' := [(9, .int ((1 : Int32) + q250.2)), (0, .ref ba0), (1, .ref ba1), (2, .ref ba2), (3, .int bx3), (5, .null), (8, .ref ba8)]) hx hb dL_files_254 hl (by decide) rfl (fun ls hl => ?_)
              refine lv_aload_n hx hb dL_files_256 rfl (lv_at hl 1 rfl) ?_
              refine lv_iload_n hx hb dL_files_257 rfl (lv_at hl 4 rfl) ?_
              refine lv_iload hx hb dL_files_258 (lv_at hl 0 rfl) ?_
              obtain ⟨C260, R260, d260, g260, h⟩ := h
              obtain ⟨u260, o260, h⟩ := h
              obtain ⟨y260, h⟩ := h
              rw [g260] at hG
              refine g_wVi (As := [.int bx3, .int ((1 : Int32) + q250.2)]) (rest := []) (n := 2) hx hb hml hown hts hK hlo hG (g_frI d260 (fun lo => g_noX (m_X9_whyNotWrite l hfl dd cT lo C260 ba0 bx3 ((1 : Int32) + q250.2) h)) lo) qM_L_267 qI_yX9_whyNotWrite qS_X9_yX9_whyNotWrite qN_X9 qC_yX9_whyNotWrite (by decide +kernel) ⟨Nat.le_of_ble_eq_true rfl, Nat.le_of_ble_eq_true rfl⟩ (by rfl) (g_ob_gj o260) rfl hl.1 rfl (Nat.le_of_ble_eq_true rfl) dL_files_260 y260 (fun v260x Gx H locs hKx hG => ?_)
              obtain ⟨D260, h, f260, rfl⟩ := hKx
              obtain ⟨G260, i260⟩ : ∃ g : gH, g = gj D260 R260 := ⟨_, rfl⟩
              rw [← i260] at hG
              replace h := h G260 f260 i260
              revert h
              generalize v260x = v260
              intro h
              refine lv_aload_n hx hb dL_files_263 rfl (lv_at hl 2 rfl) ?_
              refine lv_iload_n hx hb dL_files_264 rfl (lv_at hl 4 rfl) ?_
              refine lv_iload hx hb dL_files_265 (lv_at hl 0 rfl) ?_
              obtain ⟨C267, R267, d267, g267, h⟩ := h
              obtain ⟨u267, o267, h⟩ := h
              obtain ⟨y267, h⟩ := h
              obtain ⟨v267, e267, h⟩ := h
              rw [g267] at hG
              refine g_wVi (As := [.int bx3, .int ((1 : Int32) + q250.2)]) (rest := [.int v260]) (n := 2) hx hb hml hown hts hK hlo hG (g_frI d267 (fun lo => m_X10_whyWrite l dd cT lo C267 ba1 bx3 ((1 : Int32) + q250.2) e267) lo) qM_L_88 qI_yX10_whyWrite qS_X10_yX10_whyWrite qN_X10 qC_yX10_whyWrite (by decide +kernel) ⟨Nat.le_of_ble_eq_true rfl, Nat.le_of_ble_eq_true rfl⟩ (by rfl) (g_ob_gj o267) rfl hl.1 rfl (Nat.le_of_ble_eq_true rfl) dL_files_267 y267 (fun v267x Gx H locs hKx hG => ?_)
              obtain ⟨D267, ⟨k267a, k267⟩, f267, l267⟩ := hKx
              rw [l267, k267] at hG
              rw [k267] at f267
              rw [k267a]
              rw [← g267] at hG
              refine lv_icmp_eq (tgt := 275) hx hb dL_files_270 (by decide) (fun c270 => ?_) (fun c270 => ?_)
              · rw [if_pos c270] at h
                refine lv_iconst (v := (0 : Int32)) hx hb dL_files_275 (by decide) ?_
                refine lv_istore (lv' := [(10, .int (0 : Int32)), (9, .int ((1 : Int32) + q250.2)), (0, .ref ba0), (1, .ref ba1), (2, .ref ba2), (3, .int bx3), (5, .null), (8, .ref ba8)]) hx hb dL_files_276 hl (by decide) rfl (fun ls hl => ?_)
                exact h278 g_N G260 (kc + 2) (ks + 12) ba0 ba1 ba2 bx3 none (0 : Int32) _ _ hG _ (lv_sub hl [2, 3, 4, 5, 6, 0] rfl) h
              · rw [if_neg c270] at h
                refine lv_iconst (v := (0 : Int32)) hx hb dL_files_273 (by decide) ?_
                obtain ⟨y1, y2, h⟩ := h
                refine W.widen (k := MC) (n := MS) y1 y2 ?_
                exact g_zret hx hb hr hlocks hK hlo hG rfl h dL_files_274
            · rw [if_neg c220] at h
              refine lv_aload_n hx hb dL_files_223 rfl (lv_at hl 0 rfl) ?_
              refine lv_iload_n hx hb dL_files_224 rfl (lv_at hl 3 rfl) ?_
              refine lv_iload hx hb dL_files_225 (lv_at hl 6 rfl) ?_
              obtain ⟨C227, R227, d227, g227, h⟩ := h
              obtain ⟨u227, o227, h⟩ := h
              obtain ⟨y227, h⟩ := h
              rw [g227] at hG
              refine g_wVi (As := [.int bx3, .int bx9]) (rest := []) (n := 2) hx hb hml hown hts hK hlo hG (g_frI d227 (fun lo => g_noX (m_X9_file l hfl dd cT lo C227 ba0 bx3 bx9 h)) lo) qM_L_265 qI_yX9_file qS_X9_yX9_file qN_X9 qC_yX9_file (by decide +kernel) ⟨Nat.le_of_ble_eq_true rfl, Nat.le_of_ble_eq_true rfl⟩ (by rfl) (g_ob_gj o227) rfl hl.1 rfl (Nat.le_of_ble_eq_true rfl) dL_files_227 y227 (fun v227x Gx H locs hKx hG => ?_)
              obtain ⟨D227, h, f227, rfl⟩ := hKx
              obtain ⟨G227, i227⟩ : ∃ g : gH, g = gj D227 R227 := ⟨_, rfl⟩
              rw [← i227] at hG
              replace h := h G227 f227 i227
              revert h
              generalize v227x = v227
              intro h
              refine lv_aload hx hb dL_files_230 (lv_at hl 5 rfl) ?_
              refine lv_iload hx hb dL_files_232 (lv_at hl 6 rfl) ?_
              obtain ⟨v234, e234, h⟩ := h
              refine g_iald hx hb hK hG e234 dL_files_234 ?_
              refine lv_icmp_eq (tgt := 240) hx hb dL_files_235 (by decide) (fun c235 => ?_) (fun c235 => ?_)
              · rw [if_pos c235] at h
                refine lv_iinc (v := (bx9 + (1 : Int32))) (lv' := [(9, .int (bx9 + (1 : Int32))), (0, .ref ba0), (1, .ref ba1), (2, .ref ba2), (3, .int bx3), (5, .null), (8, .ref ba8)]) hx hb dL_files_240 hl (k := 6) rfl rfl (by decide) rfl (fun ls hl => ?_)
                refine lv_goto (tgt := 216) hx hb dL_files_243 (by decide) ?_
                exact ih216 G227 (kc + 2) (ks + 12) ba0 ba1 ba2 bx3 none ba8 (bx9 + (1 : Int32)) _ _ hG _ (lv_sub hl [1, 2, 3, 4, 5, 6, 0] rfl) h
              · rw [if_neg c235] at h
                refine lv_iconst (v := (0 : Int32)) hx hb dL_files_238 (by decide) ?_
                obtain ⟨y1, y2, h⟩ := h
                refine W.widen (k := MC) (n := MS) y1 y2 ?_
                exact g_zret hx hb hr hlocks hK hlo hG rfl h dL_files_239
          · replace h := h.2 ba5r rfl
            refine lv_iload hx hb dL_files_216 (lv_at hl 6 rfl) ?_
            refine lv_bipush (v := (7 : Int32)) hx hb dL_files_218 (by decide) ?_
            refine lv_icmp_ge (tgt := 246) hx hb dL_files_220 (by decide) (fun c220 => ?_) (fun c220 => ?_)
            · rw [if_pos c220] at h
              refine lv_iconst (v := (1 : Int32)) hx hb dL_files_246 (by decide) ?_
              refine lv_aload_n hx hb dL_files_247 rfl (lv_at hl 2 rfl) ?_
              refine lv_bipush (v := (8 : Int32)) hx hb dL_files_248 (by decide) ?_
              obtain ⟨C250, R250, d250, g250, h⟩ := h
              obtain ⟨y250, h⟩ := h
              obtain ⟨q250, e250, h⟩ := h
              rw [g250] at hG
              refine g_wSi (As := [.ref ba2, .int (8 : Int32)]) (rest := [.int (1 : Int32)]) (n := 2) hx hb hml hown hts hK hlo hG (g_frI d250 (fun lo => m_L_draw l dd cT lo C250 ba2 (8 : Int32) e250) lo) qM_L_35 qT_yL_draw qN_L qC_yL_draw (by decide +kernel) ⟨Nat.le_of_ble_eq_true rfl, Nat.le_of_ble_eq_true rfl⟩ rfl hl.1 rfl (Nat.le_of_ble_eq_true rfl) dL_files_250 y250 (fun v250x Gx H locs hKx hG => ?_)
              obtain ⟨D250, ⟨k250a, k250⟩, f250, l250⟩ := hKx
              rw [l250, k250] at hG
              rw [k250] at f250
              rw [k250a]
              obtain ⟨G250, i250⟩ : ∃ g : gH, g = gj q250.1 R250 := ⟨_, rfl⟩
              rw [← i250] at hG
              replace h := h G250 f250 i250
              refine lv_iadd hx hb dL_files_253 ?_
              refine lv_istore (lv' := [(9, .int ((1 : Int32) + q250.2)), (0, .ref ba0), (1, .ref ba1), (2, .ref ba2), (3, .int bx3), (5, .ref ba5r), (8, .ref ba8)]) hx hb dL_files_254 hl (by decide) rfl (fun ls hl => ?_)
              refine lv_aload_n hx hb dL_files_256 rfl (lv_at hl 1 rfl) ?_
              refine lv_iload_n hx hb dL_files_257 rfl (lv_at hl 4 rfl) ?_
              refine lv_iload hx hb dL_files_258 (lv_at hl 0 rfl) ?_
              obtain ⟨C260, R260, d260, g260, h⟩ := h
              obtain ⟨u260, o260, h⟩ := h
              obtain ⟨y260, h⟩ := h
              rw [g260] at hG
              refine g_wVi (As := [.int bx3, .int ((1 : Int32) + q250.2)]) (rest := []) (n := 2) hx hb hml hown hts hK hlo hG (g_frI d260 (fun lo => g_noX (m_X9_whyNotWrite l hfl dd cT lo C260 ba0 bx3 ((1 : Int32) + q250.2) h)) lo) qM_L_267 qI_yX9_whyNotWrite qS_X9_yX9_whyNotWrite qN_X9 qC_yX9_whyNotWrite (by decide +kernel) ⟨Nat.le_of_ble_eq_true rfl, Nat.le_of_ble_eq_true rfl⟩ (by rfl) (g_ob_gj o260) rfl hl.1 rfl (Nat.le_of_ble_eq_true rfl) dL_files_260 y260 (fun v260x Gx H locs hKx hG => ?_)
              obtain ⟨D260, h, f260, rfl⟩ := hKx
              obtain ⟨G260, i260⟩ : ∃ g : gH, g = gj D260 R260 := ⟨_, rfl⟩
              rw [← i260] at hG
              replace h := h G260 f260 i260
              revert h
              generalize v260x = v260
              intro h
              refine lv_aload_n hx hb dL_files_263 rfl (lv_at hl 2 rfl) ?_
              refine lv_iload_n hx hb dL_files_264 rfl (lv_at hl 4 rfl) ?_
              refine lv_iload hx hb dL_files_265 (lv_at hl 0 rfl) ?_
              obtain ⟨C267, R267, d267, g267, h⟩ := h
              obtain ⟨u267, o267, h⟩ := h
              obtain ⟨y267, h⟩ := h
              obtain ⟨v267, e267, h⟩ := h
              rw [g267] at hG
              refine g_wVi (As := [.int bx3, .int ((1 : Int32) + q250.2)]) (rest := [.int v260]) (n := 2) hx hb hml hown hts hK hlo hG (g_frI d267 (fun lo => m_X10_whyWrite l dd cT lo C267 ba1 bx3 ((1 : Int32) + q250.2) e267) lo) qM_L_88 qI_yX10_whyWrite qS_X10_yX10_whyWrite qN_X10 qC_yX10_whyWrite (by decide +kernel) ⟨Nat.le_of_ble_eq_true rfl, Nat.le_of_ble_eq_true rfl⟩ (by rfl) (g_ob_gj o267) rfl hl.1 rfl (Nat.le_of_ble_eq_true rfl) dL_files_267 y267 (fun v267x Gx H locs hKx hG => ?_)
              obtain ⟨D267, ⟨k267a, k267⟩, f267, l267⟩ := hKx
              rw [l267, k267] at hG
              rw [k267] at f267
              rw [k267a]
              rw [← g267] at hG
              refine lv_icmp_eq (tgt := 275) hx hb dL_files_270 (by decide) (fun c270 => ?_) (fun c270 => ?_)
              · rw [if_pos c270] at h
                refine lv_iconst (v := (0 : Int32)) hx hb dL_files_275 (by decide) ?_
                refine lv_istore (lv' := [(10, .int (0 : Int32)), (9, .int ((1 : Int32) + q250.2)), (0, .ref ba0), (1, .ref ba1), (2, .ref ba2), (3, .int bx3), (5, .ref ba5r), (8, .ref ba8)]) hx hb dL_files_276 hl (by decide) rfl (fun ls hl => ?_)
                exact h278 g_N G260 (kc + 2) (ks + 12) ba0 ba1 ba2 bx3 (some ba5r) (0 : Int32) _ _ hG _ (lv_sub hl [2, 3, 4, 5, 6, 0] rfl) h
              · rw [if_neg c270] at h
                refine lv_iconst (v := (0 : Int32)) hx hb dL_files_273 (by decide) ?_
                obtain ⟨y1, y2, h⟩ := h
                refine W.widen (k := MC) (n := MS) y1 y2 ?_
                exact g_zret hx hb hr hlocks hK hlo hG rfl h dL_files_274
            · rw [if_neg c220] at h
              refine lv_aload_n hx hb dL_files_223 rfl (lv_at hl 0 rfl) ?_
              refine lv_iload_n hx hb dL_files_224 rfl (lv_at hl 3 rfl) ?_
              refine lv_iload hx hb dL_files_225 (lv_at hl 6 rfl) ?_
              obtain ⟨C227, R227, d227, g227, h⟩ := h
              obtain ⟨u227, o227, h⟩ := h
              obtain ⟨y227, h⟩ := h
              rw [g227] at hG
              refine g_wVi (As := [.int bx3, .int bx9]) (rest := []) (n := 2) hx hb hml hown hts hK hlo hG (g_frI d227 (fun lo => g_noX (m_X9_file l hfl dd cT lo C227 ba0 bx3 bx9 h)) lo) qM_L_265 qI_yX9_file qS_X9_yX9_file qN_X9 qC_yX9_file (by decide +kernel) ⟨Nat.le_of_ble_eq_true rfl, Nat.le_of_ble_eq_true rfl⟩ (by rfl) (g_ob_gj o227) rfl hl.1 rfl (Nat.le_of_ble_eq_true rfl) dL_files_227 y227 (fun v227x Gx H locs hKx hG => ?_)
              obtain ⟨D227, h, f227, rfl⟩ := hKx
              obtain ⟨G227, i227⟩ : ∃ g : gH, g = gj D227 R227 := ⟨_, rfl⟩
              rw [← i227] at hG
              replace h := h G227 f227 i227
              revert h
              generalize v227x = v227
              intro h
              refine lv_aload hx hb dL_files_230 (lv_at hl 5 rfl) ?_
              refine lv_iload hx hb dL_files_232 (lv_at hl 6 rfl) ?_
              obtain ⟨v234, e234, h⟩ := h
              refine g_iald hx hb hK hG e234 dL_files_234 ?_
              refine lv_icmp_eq (tgt := 240) hx hb dL_files_235 (by decide) (fun c235 => ?_) (fun c235 => ?_)
              · rw [if_pos c235] at h
                refine lv_iinc (v := (bx9 + (1 : Int32))) (lv' := [(9, .int (bx9 + (1 : Int32))), (0, .ref ba0), (1, .ref ba1), (2, .ref ba2), (3, .int bx3), (5, .ref ba5r), (8, .ref ba8)]) hx hb dL_files_240 hl (k := 6) rfl rfl (by decide) rfl (fun ls hl => ?_)
                refine lv_goto (tgt := 216) hx hb dL_files_243 (by decide) ?_
                exact ih216 G227 (kc + 2) (ks + 12) ba0 ba1 ba2 bx3 (some ba5r) ba8 (bx9 + (1 : Int32)) _ _ hG _ (lv_sub hl [1, 2, 3, 4, 5, 6, 0] rfl) h
              · rw [if_neg c235] at h
                refine lv_iconst (v := (0 : Int32)) hx hb dL_files_238 (by decide) ?_
                obtain ⟨y1, y2, h⟩ := h
                refine W.widen (k := MC) (n := MS) y1 y2 ?_
                exact g_zret hx hb hr hlocks hK hlo hG rfl h dL_files_239
      have h199 : ∀ (G : gH) (kc ks : Nat) (ba0 : Nat) (ba1 : Nat) (ba2 : Nat) (bx3 : Int32) (ba5 : Option Nat) (bx6 : Int32) (bx7 : Int32) (z0 : Nat) (z1 : Nat) (z2 : Int32) (z3 : Int32) (H : Heap) (locs : List Loc), g_S lo dd cT s H locs G → ∀ ls : Array Slot, lv_has ls 11 [(0, .ref ba0), (1, .ref ba1), (2, .ref ba2), (3, .int bx3), (5, va_rf ba5), (6, .int bx6), (7, .int bx7)] → w_L_files_J199 MC MS K (w_L_files_L2 MC MS K n2) G kc ks ba0 ba1 ba2 bx3 ba5 bx6 bx7 z0 z1 z2 z3 → W p l e (g_rm 8 154 MC MS) s m ([.ref a0, .ref a1, .ref a2] : List Value).toArray below meth c H locs kc ks (MQ below (va_Qi K (g_Pre lo dd cT) (g_A lo)) ([.ref a0, .ref a1, .ref a2] : List Value).toArray s MC MS (g_A lo)) (F0 m 199 ls [.int z3, .int z2, .ref z1, .ref z0]) := by
        intro G kc ks ba0 ba1 ba2 bx3 ba5 bx6 bx7 z0 z1 z2 z3 H locs hG ls hl h
        unfold w_L_files_J199 at h
        rcases ba5 with _ | ba5r
        · replace h := h.1 rfl
          obtain ⟨G199, e199, h⟩ := h
          refine g_iast hx hb hK hG e199 dL_files_199 (fun H locs hG => ?_)
          refine lv_dup hx hb dL_files_200 rfl ?_
          refine lv_iconst (v := (5 : Int32)) hx hb dL_files_201 (by decide) ?_
          refine lv_iload hx hb dL_files_202 (lv_at hl 5 rfl) ?_
          obtain ⟨G204, e204, h⟩ := h
          refine g_iast hx hb hK hG e204 dL_files_204 (fun H locs hG => ?_)
          refine lv_dup hx hb dL_files_205 rfl ?_
          refine lv_bipush (v := (6 : Int32)) hx hb dL_files_206 (by decide) ?_
          refine lv_iload hx hb dL_files_208 (lv_at hl 6 rfl) ?_
          obtain ⟨G210, e210, h⟩ := h
          refine g_iast hx hb hK hG e210 dL_files_210 (fun H locs hG => ?_)
          refine lv_astore (lv' := [(8, .ref z0), (0, .ref ba0), (1, .ref ba1), (2, .ref ba2), (3, .int bx3), (5, .null), (6, .int bx6), (7, .int bx7)]) hx hb dL_files_211 hl (by decide) rfl (fun ls hl => ?_)
          refine lv_iconst (v := (0 : Int32)) hx hb dL_files_213 (by decide) ?_
          refine lv_istore (lv' := [(9, .int (0 : Int32)), (8, .ref z0), (0, .ref ba0), (1, .ref ba1), (2, .ref ba2), (3, .int bx3), (5, .null), (6, .int bx6), (7, .int bx7)]) hx hb dL_files_214 hl (by decide) rfl (fun ls hl => ?_)
          exact h216 g_N G210 kc ks ba0 ba1 ba2 bx3 none z0 (0 : Int32) _ _ hG _ (lv_sub hl [2, 3, 4, 5, 6, 1, 0] rfl) h
        · replace h := h.2 ba5r rfl
          obtain ⟨G199, e199, h⟩ := h
          refine g_iast hx hb hK hG e199 dL_files_199 (fun H locs hG => ?_)
          refine lv_dup hx hb dL_files_200 rfl ?_
          refine lv_iconst (v := (5 : Int32)) hx hb dL_files_201 (by decide) ?_
          refine lv_iload hx hb dL_files_202 (lv_at hl 5 rfl) ?_
          obtain ⟨G204, e204, h⟩ := h
          refine g_iast hx hb hK hG e204 dL_files_204 (fun H locs hG => ?_)
          refine lv_dup hx hb dL_files_205 rfl ?_
          refine lv_bipush (v := (6 : Int32)) hx hb dL_files_206 (by decide) ?_
          refine lv_iload hx hb dL_files_208 (lv_at hl 6 rfl) ?_
          obtain ⟨G210, e210, h⟩ := h
          refine g_iast hx hb hK hG e210 dL_files_210 (fun H locs hG => ?_)
          refine lv_astore (lv' := [(8, .ref z0), (0, .ref ba0), (1, .ref ba1), (2, .ref ba2), (3, .int bx3), (5, .ref ba5r), (6, .int bx6), (7, .int bx7)]) hx hb dL_files_211 hl (by decide) rfl (fun ls hl => ?_)
          refine lv_iconst (v := (0 : Int32)) hx hb dL_files_213 (by decide) ?_
          refine lv_istore (lv' := [(9, .int (0 : Int32)), (8, .ref z0), (0, .ref ba0), (1, .ref ba1), (2, .ref ba2), (3, .int bx3), (5, .ref ba5r), (6, .int bx6), (7, .int bx7)]) hx hb dL_files_214 hl (by decide) rfl (fun ls hl => ?_)
          exact h216 g_N G210 kc ks ba0 ba1 ba2 bx3 (some ba5r) z0 (0 : Int32) _ _ hG _ (lv_sub hl [2, 3, 4, 5, 6, 1, 0] rfl) h
      have h182 : ∀ (G : gH) (kc ks : Nat) (ba0 : Nat) (ba1 : Nat) (ba2 : Nat) (bx3 : Int32) (ba5 : Option Nat) (bx6 : Int32) (bx7 : Int32) (z0 : Nat) (z1 : Nat) (z2 : Int32) (z3 : Int32) (H : Heap) (locs : List Loc), g_S lo dd cT s H locs G → ∀ ls : Array Slot, lv_has ls 11 [(0, .ref ba0), (1, .ref ba1), (2, .ref ba2), (3, .int bx3), (5, va_rf ba5), (6, .int bx6), (7, .int bx7)] → w_L_files_J182 MC MS K (w_L_files_L2 MC MS K n2) G kc ks ba0 ba1 ba2 bx3 ba5 bx6 bx7 z0 z1 z2 z3 → W p l e (g_rm 8 154 MC MS) s m ([.ref a0, .ref a1, .ref a2] : List Value).toArray below meth c H locs kc ks (MQ below (va_Qi K (g_Pre lo dd cT) (g_A lo)) ([.ref a0, .ref a1, .ref a2] : List Value).toArray s MC MS (g_A lo)) (F0 m 182 ls [.int z3, .int z2, .ref z1, .ref z0]) := by
        intro G kc ks ba0 ba1 ba2 bx3 ba5 bx6 bx7 z0 z1 z2 z3 H locs hG ls hl h
        unfold w_L_files_J182 at h
        rcases ba5 with _ | ba5r
        · replace h := h.1 rfl
          obtain ⟨G182, e182, h⟩ := h
          refine g_iast hx hb hK hG e182 dL_files_182 (fun H locs hG => ?_)
          refine lv_dup hx hb dL_files_183 rfl ?_
          refine lv_iconst (v := (4 : Int32)) hx hb dL_files_184 (by decide) ?_
          refine lv_aloadN hx hb dL_files_185 (lv_at hl 4 rfl) ?_
          refine lv_ifnonnullN hx hb dL_files_187 ?_
          refine lv_iconst (v := (-1 : Int32)) hx hb dL_files_190 (by decide) ?_
          refine lv_goto (tgt := 199) hx hb dL_files_191 (by decide) ?_
          exact h199 G182 kc ks ba0 ba1 ba2 bx3 none bx6 bx7 z0 z0 (4 : Int32) (-1 : Int32) _ _ hG _ (lv_sub hl [0, 1, 2, 3, 4, 5, 6] rfl) h
        · replace h := h.2 ba5r rfl
          obtain ⟨G182, e182, h⟩ := h
          refine g_iast hx hb hK hG e182 dL_files_182 (fun H locs hG => ?_)
          refine lv_dup hx hb dL_files_183 rfl ?_
          refine lv_iconst (v := (4 : Int32)) hx hb dL_files_184 (by decide) ?_
          refine lv_aload hx hb dL_files_185 (lv_at hl 4 rfl) ?_
          refine lv_ifnonnull (tgt := 194) hx hb dL_files_187 (by decide) ?_
          refine lv_aload hx hb dL_files_194 (lv_at hl 4 rfl) ?_
          obtain ⟨v196, e196, h⟩ := h
          refine g_getiN hx hb hts inlX13 hown hK hG (by rfl) 4 (by decide) (List.mem_of_getElem? (i := 26) rfl) e196 dL_files_196 ?_
          exact h199 G182 kc ks ba0 ba1 ba2 bx3 (some ba5r) bx6 bx7 z0 z0 (4 : Int32) v196 _ _ hG _ (lv_sub hl [0, 1, 2, 3, 4, 5, 6] rfl) h
      have h165 : ∀ (G : gH) (kc ks : Nat) (ba0 : Nat) (ba1 : Nat) (ba2 : Nat) (bx3 : Int32) (ba5 : Option Nat) (bx6 : Int32) (bx7 : Int32) (z0 : Nat) (z1 : Nat) (z2 : Int32) (z3 : Int32) (H : Heap) (locs : List Loc), g_S lo dd cT s H locs G → ∀ ls : Array Slot, lv_has ls 11 [(0, .ref ba0), (1, .ref ba1), (2, .ref ba2), (3, .int bx3), (5, va_rf ba5), (6, .int bx6), (7, .int bx7)] → w_L_files_J165 MC MS K (w_L_files_L2 MC MS K n2) G kc ks ba0 ba1 ba2 bx3 ba5 bx6 bx7 z0 z1 z2 z3 → W p l e (g_rm 8 154 MC MS) s m ([.ref a0, .ref a1, .ref a2] : List Value).toArray below meth c H locs kc ks (MQ below (va_Qi K (g_Pre lo dd cT) (g_A lo)) ([.ref a0, .ref a1, .ref a2] : List Value).toArray s MC MS (g_A lo)) (F0 m 165 ls [.int z3, .int z2, .ref z1, .ref z0]) := by
        intro G kc ks ba0 ba1 ba2 bx3 ba5 bx6 bx7 z0 z1 z2 z3 H locs hG ls hl h
        unfold w_L_files_J165 at h
        rcases ba5 with _ | ba5r
        · replace h := h.1 rfl
          obtain ⟨G165, e165, h⟩ := h
          refine g_iast hx hb hK hG e165 dL_files_165 (fun H locs hG => ?_)
          refine lv_dup hx hb dL_files_166 rfl ?_
          refine lv_iconst (v := (3 : Int32)) hx hb dL_files_167 (by decide) ?_
          refine lv_aloadN hx hb dL_files_168 (lv_at hl 4 rfl) ?_
          refine lv_ifnonnullN hx hb dL_files_170 ?_
          refine lv_iconst (v := (0 : Int32)) hx hb dL_files_173 (by decide) ?_
          refine lv_goto (tgt := 182) hx hb dL_files_174 (by decide) ?_
          exact h182 G165 kc ks ba0 ba1 ba2 bx3 none bx6 bx7 z0 z0 (3 : Int32) (0 : Int32) _ _ hG _ (lv_sub hl [0, 1, 2, 3, 4, 5, 6] rfl) h
        · replace h := h.2 ba5r rfl
          obtain ⟨G165, e165, h⟩ := h
          refine g_iast hx hb hK hG e165 dL_files_165 (fun H locs hG => ?_)
          refine lv_dup hx hb dL_files_166 rfl ?_
          refine lv_iconst (v := (3 : Int32)) hx hb dL_files_167 (by decide) ?_
          refine lv_aload hx hb dL_files_168 (lv_at hl 4 rfl) ?_
          refine lv_ifnonnull (tgt := 177) hx hb dL_files_170 (by decide) ?_
          refine lv_aload hx hb dL_files_177 (lv_at hl 4 rfl) ?_
          obtain ⟨v179, e179, h⟩ := h
          refine g_getiN hx hb hts inlX13 hown hK hG (by rfl) 3 (by decide) (List.mem_of_getElem? (i := 25) rfl) e179 dL_files_179 ?_
          exact h182 G165 kc ks ba0 ba1 ba2 bx3 (some ba5r) bx6 bx7 z0 z0 (3 : Int32) v179 _ _ hG _ (lv_sub hl [0, 1, 2, 3, 4, 5, 6] rfl) h
      have h148 : ∀ (G : gH) (kc ks : Nat) (ba0 : Nat) (ba1 : Nat) (ba2 : Nat) (bx3 : Int32) (ba5 : Option Nat) (bx6 : Int32) (bx7 : Int32) (z0 : Nat) (z1 : Nat) (z2 : Int32) (z3 : Int32) (H : Heap) (locs : List Loc), g_S lo dd cT s H locs G → ∀ ls : Array Slot, lv_has ls 11 [(0, .ref ba0), (1, .ref ba1), (2, .ref ba2), (3, .int bx3), (5, va_rf ba5), (6, .int bx6), (7, .int bx7)] → w_L_files_J148 MC MS K (w_L_files_L2 MC MS K n2) G kc ks ba0 ba1 ba2 bx3 ba5 bx6 bx7 z0 z1 z2 z3 → W p l e (g_rm 8 154 MC MS) s m ([.ref a0, .ref a1, .ref a2] : List Value).toArray below meth c H locs kc ks (MQ below (va_Qi K (g_Pre lo dd cT) (g_A lo)) ([.ref a0, .ref a1, .ref a2] : List Value).toArray s MC MS (g_A lo)) (F0 m 148 ls [.int z3, .int z2, .ref z1, .ref z0]) := by
        intro G kc ks ba0 ba1 ba2 bx3 ba5 bx6 bx7 z0 z1 z2 z3 H locs hG ls hl h
        unfold w_L_files_J148 at h
        rcases ba5 with _ | ba5r
        · replace h := h.1 rfl
          obtain ⟨G148, e148, h⟩ := h
          refine g_iast hx hb hK hG e148 dL_files_148 (fun H locs hG => ?_)
          refine lv_dup hx hb dL_files_149 rfl ?_
          refine lv_iconst (v := (2 : Int32)) hx hb dL_files_150 (by decide) ?_
          refine lv_aloadN hx hb dL_files_151 (lv_at hl 4 rfl) ?_
          refine lv_ifnonnullN hx hb dL_files_153 ?_
          refine lv_iconst (v := (-1 : Int32)) hx hb dL_files_156 (by decide) ?_
          refine lv_goto (tgt := 165) hx hb dL_files_157 (by decide) ?_
          exact h165 G148 kc ks ba0 ba1 ba2 bx3 none bx6 bx7 z0 z0 (2 : Int32) (-1 : Int32) _ _ hG _ (lv_sub hl [0, 1, 2, 3, 4, 5, 6] rfl) h
        · replace h := h.2 ba5r rfl
          obtain ⟨G148, e148, h⟩ := h
          refine g_iast hx hb hK hG e148 dL_files_148 (fun H locs hG => ?_)
          refine lv_dup hx hb dL_files_149 rfl ?_
          refine lv_iconst (v := (2 : Int32)) hx hb dL_files_150 (by decide) ?_
          refine lv_aload hx hb dL_files_151 (lv_at hl 4 rfl) ?_
          refine lv_ifnonnull (tgt := 160) hx hb dL_files_153 (by decide) ?_
          refine lv_aload hx hb dL_files_160 (lv_at hl 4 rfl) ?_
          obtain ⟨v162, e162, h⟩ := h
          refine g_getiN hx hb hts inlX13 hown hK hG (by rfl) 1 (by decide) (List.mem_of_getElem? (i := 8) rfl) e162 dL_files_162 ?_
          exact h165 G148 kc ks ba0 ba1 ba2 bx3 (some ba5r) bx6 bx7 z0 z0 (2 : Int32) v162 _ _ hG _ (lv_sub hl [0, 1, 2, 3, 4, 5, 6] rfl) h
      have h126 : ∀ (G : gH) (kc ks : Nat) (ba0 : Nat) (ba1 : Nat) (ba2 : Nat) (bx3 : Int32) (ba5 : Option Nat) (bx6 : Int32) (bx7 : Int32) (z0 : Nat) (z1 : Nat) (z2 : Int32) (z3 : Int32) (H : Heap) (locs : List Loc), g_S lo dd cT s H locs G → ∀ ls : Array Slot, lv_has ls 11 [(0, .ref ba0), (1, .ref ba1), (2, .ref ba2), (3, .int bx3), (5, va_rf ba5), (6, .int bx6), (7, .int bx7)] → w_L_files_J126 MC MS K (w_L_files_L2 MC MS K n2) G kc ks ba0 ba1 ba2 bx3 ba5 bx6 bx7 z0 z1 z2 z3 → W p l e (g_rm 8 154 MC MS) s m ([.ref a0, .ref a1, .ref a2] : List Value).toArray below meth c H locs kc ks (MQ below (va_Qi K (g_Pre lo dd cT) (g_A lo)) ([.ref a0, .ref a1, .ref a2] : List Value).toArray s MC MS (g_A lo)) (F0 m 126 ls [.int z3, .int z2, .ref z1, .ref z0]) := by
        intro G kc ks ba0 ba1 ba2 bx3 ba5 bx6 bx7 z0 z1 z2 z3 H locs hG ls hl h
        unfold w_L_files_J126 at h
        rcases ba5 with _ | ba5r
        · replace h := h.1 rfl
          obtain ⟨G126, e126, h⟩ := h
          refine g_iast hx hb hK hG e126 dL_files_126 (fun H locs hG => ?_)
          refine lv_dup hx hb dL_files_127 rfl ?_
          refine lv_iconst (v := (1 : Int32)) hx hb dL_files_128 (by decide) ?_
          refine lv_aloadN hx hb dL_files_129 (lv_at hl 4 rfl) ?_
          refine lv_ifnullN (tgt := 147) hx hb dL_files_131 (by decide) ?_
          refine lv_iconst (v := (0 : Int32)) hx hb dL_files_147 (by decide) ?_
          exact h148 G126 kc ks ba0 ba1 ba2 bx3 none bx6 bx7 z0 z0 (1 : Int32) (0 : Int32) _ _ hG _ (lv_sub hl [0, 1, 2, 3, 4, 5, 6] rfl) h
        · replace h := h.2 ba5r rfl
          obtain ⟨G126, e126, h⟩ := h
          refine g_iast hx hb hK hG e126 dL_files_126 (fun H locs hG => ?_)
          refine lv_dup hx hb dL_files_127 rfl ?_
          refine lv_iconst (v := (1 : Int32)) hx hb dL_files_128 (by decide) ?_
          refine lv_aload hx hb dL_files_129 (lv_at hl 4 rfl) ?_
          refine lv_ifnull hx hb dL_files_131 ?_
          refine lv_aload_n hx hb dL_files_134 rfl (lv_at hl 1 rfl) ?_
          refine lv_aload hx hb dL_files_135 (lv_at hl 4 rfl) ?_
          obtain ⟨C137, R137, d137, g137, h⟩ := h
          obtain ⟨u137, o137, h⟩ := h
          obtain ⟨y137, h⟩ := h
          obtain ⟨v137, e137, h⟩ := h
          rw [g137] at hG
          refine g_wVi (As := [.ref ba5r]) (rest := [.int (1 : Int32), .ref z0, .ref z0]) (n := 1) hx hb hml hown hts hK hlo hG (g_frI d137 (fun lo => m_X10_reads_ l dd cT lo C137 ba1 ba5r e137) lo) qM_L_262 qI_yX10_reads_ qS_X10_yX10_reads_ qN_X10 qC_yX10_reads_ (by decide +kernel) ⟨Nat.le_of_ble_eq_true rfl, Nat.le_of_ble_eq_true rfl⟩ (by rfl) (g_ob_gj o137) rfl hl.1 rfl (Nat.le_of_ble_eq_true rfl) dL_files_137 y137 (fun v137x Gx H locs hKx hG => ?_)
          obtain ⟨D137, ⟨k137a, k137⟩, f137, l137⟩ := hKx
          rw [l137, k137] at hG
          rw [k137] at f137
          rw [k137a]
          rw [← g137] at hG
          refine lv_if_eq (tgt := 147) hx hb dL_files_140 (by decide) (fun c140 => ?_) (fun c140 => ?_)
          · rw [if_pos c140] at h
            refine lv_iconst (v := (0 : Int32)) hx hb dL_files_147 (by decide) ?_
            exact h148 G126 kc ks ba0 ba1 ba2 bx3 (some ba5r) bx6 bx7 z0 z0 (1 : Int32) (0 : Int32) _ _ hG _ (lv_sub hl [0, 1, 2, 3, 4, 5, 6] rfl) h
          · rw [if_neg c140] at h
            refine lv_iconst (v := (1 : Int32)) hx hb dL_files_143 (by decide) ?_
            refine lv_goto (tgt := 148) hx hb dL_files_144 (by decide) ?_
            exact h148 G126 kc ks ba0 ba1 ba2 bx3 (some ba5r) bx6 bx7 z0 z0 (1 : Int32) (1 : Int32) _ _ hG _ (lv_sub hl [0, 1, 2, 3, 4, 5, 6] rfl) h
      have h71 : ∀ n71 : Nat, ∀ (G : gH) (kc ks : Nat) (ba0 : Nat) (ba1 : Nat) (ba2 : Nat) (bx3 : Int32) (ba5 : Option Nat) (bx6 : Int32) (bx7 : Int32) (bx8 : Int32) (H : Heap) (locs : List Loc), g_S lo dd cT s H locs G → ∀ ls : Array Slot, lv_has ls 11 [(0, .ref ba0), (1, .ref ba1), (2, .ref ba2), (3, .int bx3), (5, va_rf ba5), (6, .int bx6), (7, .int bx7), (8, .int bx8)] → w_L_files_L71 MC MS K (w_L_files_L2 MC MS K n2) n71 G kc ks ba0 ba1 ba2 bx3 ba5 bx6 bx7 bx8 → W p l e (g_rm 8 154 MC MS) s m ([.ref a0, .ref a1, .ref a2] : List Value).toArray below meth c H locs kc ks (MQ below (va_Qi K (g_Pre lo dd cT) (g_A lo)) ([.ref a0, .ref a1, .ref a2] : List Value).toArray s MC MS (g_A lo)) (F0 m 71 ls []) := by
        intro n71
        induction n71 with
        | zero =>
          intro G kc ks ba0 ba1 ba2 bx3 ba5 bx6 bx7 bx8 H locs hG ls hl h
          exact (show False from h).elim
        | succ n71 ih71 =>
          intro G kc ks ba0 ba1 ba2 bx3 ba5 bx6 bx7 bx8 H locs hG ls hl h
          rw [w_L_files_L71] at h
          rcases ba5 with _ | ba5r
          · replace h := h.1 rfl
            refine lv_iload hx hb dL_files_71 (lv_at hl 7 rfl) ?_
            refine lv_aload_n hx hb dL_files_73 rfl (lv_at hl 1 rfl) ?_
            obtain ⟨v74, e74, h⟩ := h
            refine g_getiN hx hb hts inlX10 hown hK hG (by rfl) 5 (by decide) (List.mem_of_getElem? (i := 17) rfl) e74 dL_files_74 ?_
            refine lv_icmp_ge (tgt := 110) hx hb dL_files_77 (by decide) (fun c77 => ?_) (fun c77 => ?_)
            · rw [if_pos c77] at h
              refine lv_bipush (v := (7 : Int32)) hx hb dL_files_110 (by decide) ?_
              obtain ⟨y112, h⟩ := h
              refine g_newai (N := 7) hx hb hts hK hlo hG (by decide) (by decide) (Nat.le_of_ble_eq_true rfl) y112 dL_files_112 (fun q112 H z112 hG => ?_)
              obtain ⟨G112, i112⟩ : ∃ g : gH, g = va_up G q112 (some (.inl (0, 7, fun _ => 0))) := ⟨_, rfl⟩
              rw [← i112] at hG
              replace h := h q112 z112 G112 i112
              refine lv_dup hx hb dL_files_114 rfl ?_
              refine lv_iconst (v := (0 : Int32)) hx hb dL_files_115 (by decide) ?_
              refine lv_aloadN hx hb dL_files_116 (lv_at hl 4 rfl) ?_
              refine lv_ifnonnullN hx hb dL_files_118 ?_
              refine lv_iconst (v := (0 : Int32)) hx hb dL_files_121 (by decide) ?_
              refine lv_goto (tgt := 126) hx hb dL_files_122 (by decide) ?_
              exact h126 G112 (kc + 1) (ks + 7) ba0 ba1 ba2 bx3 none bx6 bx7 q112 q112 (0 : Int32) (0 : Int32) _ _ hG _ (lv_sub hl [0, 1, 2, 3, 4, 5, 6] rfl) h
            · rw [if_neg c77] at h
              refine lv_iload hx hb dL_files_80 (lv_at hl 6 rfl) ?_
              refine lv_aload_n hx hb dL_files_82 rfl (lv_at hl 1 rfl) ?_
              obtain ⟨v83, e83, h⟩ := h
              refine g_getrN hx hb hts inlX10 hown hK hG (by rfl) 15 (by decide) (List.mem_of_getElem? (i := 27) rfl) e83 dL_files_83 ?_
              refine lv_iload hx hb dL_files_86 (lv_at hl 7 rfl) ?_
              obtain ⟨v88, e88, h⟩ := h
              refine g_rald_row hx hb hK hG (t := 6) rfl e88 dL_files_88 ?_
              rcases v88 with _ | r88
              · replace h := h.1 rfl
                exact (show False from h).elim
              · replace h := h.2 r88 rfl
                obtain ⟨v89, e89, h⟩ := h
                refine g_getiN hx hb hts inlX13 hown hK hG (by rfl) 0 (by decide) (List.mem_of_getElem? (i := 28) rfl) e89 dL_files_89 ?_
                refine lv_iload_n hx hb dL_files_92 rfl (lv_at hl 3 rfl) ?_
                refine lv_icmp_ne (tgt := 100) hx hb dL_files_93 (by decide) (fun c93 => ?_) (fun c93 => ?_)
                · rw [if_neg c93] at h
                  refine lv_iconst (v := (0 : Int32)) hx hb dL_files_100 (by decide) ?_
                  refine lv_iadd hx hb dL_files_101 ?_
                  refine lv_istore (lv' := [(7, .int (bx7 + (0 : Int32))), (0, .ref ba0), (1, .ref ba1), (2, .ref ba2), (3, .int bx3), (5, .null), (6, .int bx6), (8, .int bx8)]) hx hb dL_files_102 hl (by decide) rfl (fun ls hl => ?_)
                  refine lv_iinc (v := (bx8 + (1 : Int32))) (lv' := [(8, .int (bx8 + (1 : Int32))), (7, .int (bx7 + (0 : Int32))), (0, .ref ba0), (1, .ref ba1), (2, .ref ba2), (3, .int bx3), (5, .null), (6, .int bx6)]) hx hb dL_files_104 hl (k := 7) rfl rfl (by decide) rfl (fun ls hl => ?_)
                  refine lv_goto (tgt := 71) hx hb dL_files_107 (by decide) ?_
                  exact ih71 G kc ks ba0 ba1 ba2 bx3 none bx6 (bx7 + (0 : Int32)) (bx8 + (1 : Int32)) _ _ hG _ (lv_sub hl [2, 3, 4, 5, 6, 7, 1, 0] rfl) h
                · rw [if_pos c93] at h
                  refine lv_iconst (v := (1 : Int32)) hx hb dL_files_96 (by decide) ?_
                  refine lv_goto (tgt := 101) hx hb dL_files_97 (by decide) ?_
                  refine lv_iadd hx hb dL_files_101 ?_
                  refine lv_istore (lv' := [(7, .int (bx7 + (1 : Int32))), (0, .ref ba0), (1, .ref ba1), (2, .ref ba2), (3, .int bx3), (5, .null), (6, .int bx6), (8, .int bx8)]) hx hb dL_files_102 hl (by decide) rfl (fun ls hl => ?_)
                  refine lv_iinc (v := (bx8 + (1 : Int32))) (lv' := [(8, .int (bx8 + (1 : Int32))), (7, .int (bx7 + (1 : Int32))), (0, .ref ba0), (1, .ref ba1), (2, .ref ba2), (3, .int bx3), (5, .null), (6, .int bx6)]) hx hb dL_files_104 hl (k := 7) rfl rfl (by decide) rfl (fun ls hl => ?_)
                  refine lv_goto (tgt := 71) hx hb dL_files_107 (by decide) ?_
                  exact ih71 G kc ks ba0 ba1 ba2 bx3 none bx6 (bx7 + (1 : Int32)) (bx8 + (1 : Int32)) _ _ hG _ (lv_sub hl [2, 3, 4, 5, 6, 7, 1, 0] rfl) h
          · replace h := h.2 ba5r rfl
            refine lv_iload hx hb dL_files_71 (lv_at hl 7 rfl) ?_
            refine lv_aload_n hx hb dL_files_73 rfl (lv_at hl 1 rfl) ?_
            obtain ⟨v74, e74, h⟩ := h
            refine g_getiN hx hb hts inlX10 hown hK hG (by rfl) 5 (by decide) (List.mem_of_getElem? (i := 17) rfl) e74 dL_files_74 ?_
            refine lv_icmp_ge (tgt := 110) hx hb dL_files_77 (by decide) (fun c77 => ?_) (fun c77 => ?_)
            · rw [if_pos c77] at h
              refine lv_bipush (v := (7 : Int32)) hx hb dL_files_110 (by decide) ?_
              obtain ⟨y112, h⟩ := h
              refine g_newai (N := 7) hx hb hts hK hlo hG (by decide) (by decide) (Nat.le_of_ble_eq_true rfl) y112 dL_files_112 (fun q112 H z112 hG => ?_)
              obtain ⟨G112, i112⟩ : ∃ g : gH, g = va_up G q112 (some (.inl (0, 7, fun _ => 0))) := ⟨_, rfl⟩
              rw [← i112] at hG
              replace h := h q112 z112 G112 i112
              refine lv_dup hx hb dL_files_114 rfl ?_
              refine lv_iconst (v := (0 : Int32)) hx hb dL_files_115 (by decide) ?_
              refine lv_aload hx hb dL_files_116 (lv_at hl 4 rfl) ?_
              refine lv_ifnonnull (tgt := 125) hx hb dL_files_118 (by decide) ?_
              refine lv_iconst (v := (1 : Int32)) hx hb dL_files_125 (by decide) ?_
              exact h126 G112 (kc + 1) (ks + 7) ba0 ba1 ba2 bx3 (some ba5r) bx6 bx7 q112 q112 (0 : Int32) (1 : Int32) _ _ hG _ (lv_sub hl [0, 1, 2, 3, 4, 5, 6] rfl) h
            · rw [if_neg c77] at h
              refine lv_iload hx hb dL_files_80 (lv_at hl 6 rfl) ?_
              refine lv_aload_n hx hb dL_files_82 rfl (lv_at hl 1 rfl) ?_
              obtain ⟨v83, e83, h⟩ := h
              refine g_getrN hx hb hts inlX10 hown hK hG (by rfl) 15 (by decide) (List.mem_of_getElem? (i := 27) rfl) e83 dL_files_83 ?_
              refine lv_iload hx hb dL_files_86 (lv_at hl 7 rfl) ?_
              obtain ⟨v88, e88, h⟩ := h
              refine g_rald_row hx hb hK hG (t := 6) rfl e88 dL_files_88 ?_
              rcases v88 with _ | r88
              · replace h := h.1 rfl
                exact (show False from h).elim
              · replace h := h.2 r88 rfl
                obtain ⟨v89, e89, h⟩ := h
                refine g_getiN hx hb hts inlX13 hown hK hG (by rfl) 0 (by decide) (List.mem_of_getElem? (i := 28) rfl) e89 dL_files_89 ?_
                refine lv_iload_n hx hb dL_files_92 rfl (lv_at hl 3 rfl) ?_
                refine lv_icmp_ne (tgt := 100) hx hb dL_files_93 (by decide) (fun c93 => ?_) (fun c93 => ?_)
                · rw [if_neg c93] at h
                  refine lv_iconst (v := (0 : Int32)) hx hb dL_files_100 (by decide) ?_
                  refine lv_iadd hx hb dL_files_101 ?_
                  refine lv_istore (lv' := [(7, .int (bx7 + (0 : Int32))), (0, .ref ba0), (1, .ref ba1), (2, .ref ba2), (3, .int bx3), (5, .ref ba5r), (6, .int bx6), (8, .int bx8)]) hx hb dL_files_102 hl (by decide) rfl (fun ls hl => ?_)
                  refine lv_iinc (v := (bx8 + (1 : Int32))) (lv' := [(8, .int (bx8 + (1 : Int32))), (7, .int (bx7 + (0 : Int32))), (0, .ref ba0), (1, .ref ba1), (2, .ref ba2), (3, .int bx3), (5, .ref ba5r), (6, .int bx6)]) hx hb dL_files_104 hl (k := 7) rfl rfl (by decide) rfl (fun ls hl => ?_)
                  refine lv_goto (tgt := 71) hx hb dL_files_107 (by decide) ?_
                  exact ih71 G kc ks ba0 ba1 ba2 bx3 (some ba5r) bx6 (bx7 + (0 : Int32)) (bx8 + (1 : Int32)) _ _ hG _ (lv_sub hl [2, 3, 4, 5, 6, 7, 1, 0] rfl) h
                · rw [if_pos c93] at h
                  refine lv_iconst (v := (1 : Int32)) hx hb dL_files_96 (by decide) ?_
                  refine lv_goto (tgt := 101) hx hb dL_files_97 (by decide) ?_
                  refine lv_iadd hx hb dL_files_101 ?_
                  refine lv_istore (lv' := [(7, .int (bx7 + (1 : Int32))), (0, .ref ba0), (1, .ref ba1), (2, .ref ba2), (3, .int bx3), (5, .ref ba5r), (6, .int bx6), (8, .int bx8)]) hx hb dL_files_102 hl (by decide) rfl (fun ls hl => ?_)
                  refine lv_iinc (v := (bx8 + (1 : Int32))) (lv' := [(8, .int (bx8 + (1 : Int32))), (7, .int (bx7 + (1 : Int32))), (0, .ref ba0), (1, .ref ba1), (2, .ref ba2), (3, .int bx3), (5, .ref ba5r), (6, .int bx6)]) hx hb dL_files_104 hl (k := 7) rfl rfl (by decide) rfl (fun ls hl => ?_)
                  refine lv_goto (tgt := 71) hx hb dL_files_107 (by decide) ?_
                  exact ih71 G kc ks ba0 ba1 ba2 bx3 (some ba5r) bx6 (bx7 + (1 : Int32)) (bx8 + (1 : Int32)) _ _ hG _ (lv_sub hl [2, 3, 4, 5, 6, 7, 1, 0] rfl) h
      have h34 : ∀ n34 : Nat, ∀ (G : gH) (kc ks : Nat) (ba0 : Nat) (ba1 : Nat) (ba2 : Nat) (bx3 : Int32) (ba4 : Option Nat) (ba5 : Option Nat) (bx6 : Int32) (bx7 : Int32) (H : Heap) (locs : List Loc), g_S lo dd cT s H locs G → ∀ ls : Array Slot, lv_has ls 11 [(0, .ref ba0), (1, .ref ba1), (2, .ref ba2), (3, .int bx3), (4, va_rf ba4), (5, va_rf ba5), (6, .int bx6), (7, .int bx7)] → w_L_files_L34 MC MS K (w_L_files_L2 MC MS K n2) n34 G kc ks ba0 ba1 ba2 bx3 ba4 ba5 bx6 bx7 → W p l e (g_rm 8 154 MC MS) s m ([.ref a0, .ref a1, .ref a2] : List Value).toArray below meth c H locs kc ks (MQ below (va_Qi K (g_Pre lo dd cT) (g_A lo)) ([.ref a0, .ref a1, .ref a2] : List Value).toArray s MC MS (g_A lo)) (F0 m 34 ls []) := by
        intro n34
        induction n34 with
        | zero =>
          intro G kc ks ba0 ba1 ba2 bx3 ba4 ba5 bx6 bx7 H locs hG ls hl h
          exact (show False from h).elim
        | succ n34 ih34 =>
          intro G kc ks ba0 ba1 ba2 bx3 ba4 ba5 bx6 bx7 H locs hG ls hl h
          rw [w_L_files_L34] at h
          rcases ba4 with _ | ba4r
          · replace h := h.1 rfl
            rcases ba5 with _ | ba5r
            · replace h := h.1 rfl
              refine lv_iload hx hb dL_files_34 (lv_at hl 7 rfl) ?_
              refine lv_aload_n hx hb dL_files_36 rfl (lv_at hl 1 rfl) ?_
              obtain ⟨v37, e37, h⟩ := h
              refine g_getiN hx hb hts inlX10 hown hK hG (by rfl) 4 (by decide) (List.mem_of_getElem? (i := 14) rfl) e37 dL_files_37 ?_
              refine lv_icmp_ge (tgt := 65) hx hb dL_files_40 (by decide) (fun c40 => ?_) (fun c40 => ?_)
              · rw [if_pos c40] at h
                refine lv_iconst (v := (0 : Int32)) hx hb dL_files_65 (by decide) ?_
                refine lv_istore (lv' := [(7, .int (0 : Int32)), (0, .ref ba0), (1, .ref ba1), (2, .ref ba2), (3, .int bx3), (4, .null), (5, .null), (6, .int bx6)]) hx hb dL_files_66 hl (by decide) rfl (fun ls hl => ?_)
                refine lv_iconst (v := (0 : Int32)) hx hb dL_files_68 (by decide) ?_
                refine lv_istore (lv' := [(8, .int (0 : Int32)), (7, .int (0 : Int32)), (0, .ref ba0), (1, .ref ba1), (2, .ref ba2), (3, .int bx3), (4, .null), (5, .null), (6, .int bx6)]) hx hb dL_files_69 hl (by decide) rfl (fun ls hl => ?_)
                exact h71 g_N G kc ks ba0 ba1 ba2 bx3 none bx6 (0 : Int32) (0 : Int32) _ _ hG _ (lv_sub hl [2, 3, 4, 5, 7, 8, 1, 0] rfl) h
              · rw [if_neg c40] at h
                refine lv_aload_n hx hb dL_files_43 rfl (lv_at hl 1 rfl) ?_
                obtain ⟨v44, e44, h⟩ := h
                refine g_getrN hx hb hts inlX10 hown hK hG (by rfl) 16 (by decide) (List.mem_of_getElem? (i := 12) rfl) e44 dL_files_44 ?_
                refine lv_iload hx hb dL_files_47 (lv_at hl 7 rfl) ?_
                obtain ⟨v49, e49, h⟩ := h
                refine g_rald_row hx hb hK hG (t := 5) rfl e49 dL_files_49 ?_
                rcases v49 with _ | r49
                · replace h := h.1 rfl
                  refine lv_aloadN hx hb dL_files_50 (lv_at hl 4 rfl) ?_
                  refine lv_acmp_ne (rx := none) (ry := none) (tgt := 59) hx hb dL_files_52 (by decide) (fun c52 => ?_) (fun c52 => ?_)
                  · exact absurd rfl c52
                  refine lv_iload hx hb dL_files_55 (lv_at hl 7 rfl) ?_
                  refine lv_istore (lv' := [(6, .int bx7), (0, .ref ba0), (1, .ref ba1), (2, .ref ba2), (3, .int bx3), (4, .null), (5, .null), (7, .int bx7)]) hx hb dL_files_57 hl (by decide) rfl (fun ls hl => ?_)
                  refine lv_iinc (v := (bx7 + (1 : Int32))) (lv' := [(7, .int (bx7 + (1 : Int32))), (6, .int bx7), (0, .ref ba0), (1, .ref ba1), (2, .ref ba2), (3, .int bx3), (4, .null), (5, .null)]) hx hb dL_files_59 hl (k := 7) rfl rfl (by decide) rfl (fun ls hl => ?_)
                  refine lv_goto (tgt := 34) hx hb dL_files_62 (by decide) ?_
                  exact ih34 G kc ks ba0 ba1 ba2 bx3 none none bx7 (bx7 + (1 : Int32)) _ _ hG _ (lv_sub hl [2, 3, 4, 5, 6, 7, 1, 0] rfl) h
                · replace h := h.2 r49 rfl
                  refine lv_aloadN hx hb dL_files_50 (lv_at hl 4 rfl) ?_
                  refine lv_acmp_ne (rx := (some r49)) (ry := none) (tgt := 59) hx hb dL_files_52 (by decide) (fun c52 => ?_) (fun c52 => ?_)
                  rotate_left
                  · exact absurd c52 (by simp)
                  refine lv_iinc (v := (bx7 + (1 : Int32))) (lv' := [(7, .int (bx7 + (1 : Int32))), (0, .ref ba0), (1, .ref ba1), (2, .ref ba2), (3, .int bx3), (4, .null), (5, .null), (6, .int bx6)]) hx hb dL_files_59 hl (k := 7) rfl rfl (by decide) rfl (fun ls hl => ?_)
                  refine lv_goto (tgt := 34) hx hb dL_files_62 (by decide) ?_
                  exact ih34 G kc ks ba0 ba1 ba2 bx3 none none bx6 (bx7 + (1 : Int32)) _ _ hG _ (lv_sub hl [1, 2, 3, 4, 5, 6, 7, 0] rfl) h
            · replace h := h.2 ba5r rfl
              refine lv_iload hx hb dL_files_34 (lv_at hl 7 rfl) ?_
              refine lv_aload_n hx hb dL_files_36 rfl (lv_at hl 1 rfl) ?_
              obtain ⟨v37, e37, h⟩ := h
              refine g_getiN hx hb hts inlX10 hown hK hG (by rfl) 4 (by decide) (List.mem_of_getElem? (i := 14) rfl) e37 dL_files_37 ?_
              refine lv_icmp_ge (tgt := 65) hx hb dL_files_40 (by decide) (fun c40 => ?_) (fun c40 => ?_)
              · rw [if_pos c40] at h
                refine lv_iconst (v := (0 : Int32)) hx hb dL_files_65 (by decide) ?_
                refine lv_istore (lv' := [(7, .int (0 : Int32)), (0, .ref ba0), (1, .ref ba1), (2, .ref ba2), (3, .int bx3), (4, .null), (5, .ref ba5r), (6, .int bx6)]) hx hb dL_files_66 hl (by decide) rfl (fun ls hl => ?_)
                refine lv_iconst (v := (0 : Int32)) hx hb dL_files_68 (by decide) ?_
                refine lv_istore (lv' := [(8, .int (0 : Int32)), (7, .int (0 : Int32)), (0, .ref ba0), (1, .ref ba1), (2, .ref ba2), (3, .int bx3), (4, .null), (5, .ref ba5r), (6, .int bx6)]) hx hb dL_files_69 hl (by decide) rfl (fun ls hl => ?_)
                exact h71 g_N G kc ks ba0 ba1 ba2 bx3 (some ba5r) bx6 (0 : Int32) (0 : Int32) _ _ hG _ (lv_sub hl [2, 3, 4, 5, 7, 8, 1, 0] rfl) h
              · rw [if_neg c40] at h
                refine lv_aload_n hx hb dL_files_43 rfl (lv_at hl 1 rfl) ?_
                obtain ⟨v44, e44, h⟩ := h
                refine g_getrN hx hb hts inlX10 hown hK hG (by rfl) 16 (by decide) (List.mem_of_getElem? (i := 12) rfl) e44 dL_files_44 ?_
                refine lv_iload hx hb dL_files_47 (lv_at hl 7 rfl) ?_
                obtain ⟨v49, e49, h⟩ := h
                refine g_rald_row hx hb hK hG (t := 5) rfl e49 dL_files_49 ?_
                rcases v49 with _ | r49
                · replace h := h.1 rfl
                  refine lv_aloadN hx hb dL_files_50 (lv_at hl 4 rfl) ?_
                  refine lv_acmp_ne (rx := none) (ry := none) (tgt := 59) hx hb dL_files_52 (by decide) (fun c52 => ?_) (fun c52 => ?_)
                  · exact absurd rfl c52
                  refine lv_iload hx hb dL_files_55 (lv_at hl 7 rfl) ?_
                  refine lv_istore (lv' := [(6, .int bx7), (0, .ref ba0), (1, .ref ba1), (2, .ref ba2), (3, .int bx3), (4, .null), (5, .ref ba5r), (7, .int bx7)]) hx hb dL_files_57 hl (by decide) rfl (fun ls hl => ?_)
                  refine lv_iinc (v := (bx7 + (1 : Int32))) (lv' := [(7, .int (bx7 + (1 : Int32))), (6, .int bx7), (0, .ref ba0), (1, .ref ba1), (2, .ref ba2), (3, .int bx3), (4, .null), (5, .ref ba5r)]) hx hb dL_files_59 hl (k := 7) rfl rfl (by decide) rfl (fun ls hl => ?_)
                  refine lv_goto (tgt := 34) hx hb dL_files_62 (by decide) ?_
                  exact ih34 G kc ks ba0 ba1 ba2 bx3 none (some ba5r) bx7 (bx7 + (1 : Int32)) _ _ hG _ (lv_sub hl [2, 3, 4, 5, 6, 7, 1, 0] rfl) h
                · replace h := h.2 r49 rfl
                  refine lv_aloadN hx hb dL_files_50 (lv_at hl 4 rfl) ?_
                  refine lv_acmp_ne (rx := (some r49)) (ry := none) (tgt := 59) hx hb dL_files_52 (by decide) (fun c52 => ?_) (fun c52 => ?_)
                  rotate_left
                  · exact absurd c52 (by simp)
                  refine lv_iinc (v := (bx7 + (1 : Int32))) (lv' := [(7, .int (bx7 + (1 : Int32))), (0, .ref ba0), (1, .ref ba1), (2, .ref ba2), (3, .int bx3), (4, .null), (5, .ref ba5r), (6, .int bx6)]) hx hb dL_files_59 hl (k := 7) rfl rfl (by decide) rfl (fun ls hl => ?_)
                  refine lv_goto (tgt := 34) hx hb dL_files_62 (by decide) ?_
                  exact ih34 G kc ks ba0 ba1 ba2 bx3 none (some ba5r) bx6 (bx7 + (1 : Int32)) _ _ hG _ (lv_sub hl [1, 2, 3, 4, 5, 6, 7, 0] rfl) h
          · replace h := h.2 ba4r rfl
            rcases ba5 with _ | ba5r
            · replace h := h.1 rfl
              refine lv_iload hx hb dL_files_34 (lv_at hl 7 rfl) ?_
              refine lv_aload_n hx hb dL_files_36 rfl (lv_at hl 1 rfl) ?_
              obtain ⟨v37, e37, h⟩ := h
              refine g_getiN hx hb hts inlX10 hown hK hG (by rfl) 4 (by decide) (List.mem_of_getElem? (i := 14) rfl) e37 dL_files_37 ?_
              refine lv_icmp_ge (tgt := 65) hx hb dL_files_40 (by decide) (fun c40 => ?_) (fun c40 => ?_)
              · rw [if_pos c40] at h
                refine lv_iconst (v := (0 : Int32)) hx hb dL_files_65 (by decide) ?_
                refine lv_istore (lv' := [(7, .int (0 : Int32)), (0, .ref ba0), (1, .ref ba1), (2, .ref ba2), (3, .int bx3), (4, .ref ba4r), (5, .null), (6, .int bx6)]) hx hb dL_files_66 hl (by decide) rfl (fun ls hl => ?_)
                refine lv_iconst (v := (0 : Int32)) hx hb dL_files_68 (by decide) ?_
                refine lv_istore (lv' := [(8, .int (0 : Int32)), (7, .int (0 : Int32)), (0, .ref ba0), (1, .ref ba1), (2, .ref ba2), (3, .int bx3), (4, .ref ba4r), (5, .null), (6, .int bx6)]) hx hb dL_files_69 hl (by decide) rfl (fun ls hl => ?_)
                exact h71 g_N G kc ks ba0 ba1 ba2 bx3 none bx6 (0 : Int32) (0 : Int32) _ _ hG _ (lv_sub hl [2, 3, 4, 5, 7, 8, 1, 0] rfl) h
              · rw [if_neg c40] at h
                refine lv_aload_n hx hb dL_files_43 rfl (lv_at hl 1 rfl) ?_
                obtain ⟨v44, e44, h⟩ := h
                refine g_getrN hx hb hts inlX10 hown hK hG (by rfl) 16 (by decide) (List.mem_of_getElem? (i := 12) rfl) e44 dL_files_44 ?_
                refine lv_iload hx hb dL_files_47 (lv_at hl 7 rfl) ?_
                obtain ⟨v49, e49, h⟩ := h
                refine g_rald_row hx hb hK hG (t := 5) rfl e49 dL_files_49 ?_
                rcases v49 with _ | r49
                · replace h := h.1 rfl
                  refine lv_aload hx hb dL_files_50 (lv_at hl 4 rfl) ?_
                  refine lv_acmp_ne (rx := none) (ry := (some ba4r)) (tgt := 59) hx hb dL_files_52 (by decide) (fun c52 => ?_) (fun c52 => ?_)
                  rotate_left
                  · exact absurd c52 (by simp)
                  refine lv_iinc (v := (bx7 + (1 : Int32))) (lv' := [(7, .int (bx7 + (1 : Int32))), (0, .ref ba0), (1, .ref ba1), (2, .ref ba2), (3, .int bx3), (4, .ref ba4r), (5, .null), (6, .int bx6)]) hx hb dL_files_59 hl (k := 7) rfl rfl (by decide) rfl (fun ls hl => ?_)
                  refine lv_goto (tgt := 34) hx hb dL_files_62 (by decide) ?_
                  exact ih34 G kc ks ba0 ba1 ba2 bx3 (some ba4r) none bx6 (bx7 + (1 : Int32)) _ _ hG _ (lv_sub hl [1, 2, 3, 4, 5, 6, 7, 0] rfl) h
                · replace h := h.2 r49 rfl
                  refine lv_aload hx hb dL_files_50 (lv_at hl 4 rfl) ?_
                  refine lv_acmp_ne (rx := (some r49)) (ry := (some ba4r)) (tgt := 59) hx hb dL_files_52 (by decide) (fun c52 => ?_) (fun c52 => ?_)
                  · rw [if_neg (fun z => c52 (congrArg some z))] at h
                    refine lv_iinc (v := (bx7 + (1 : Int32))) (lv' := [(7, .int (bx7 + (1 : Int32))), (0, .ref ba0), (1, .ref ba1), (2, .ref ba2), (3, .int bx3), (4, .ref ba4r), (5, .null), (6, .int bx6)]) hx hb dL_files_59 hl (k := 7) rfl rfl (by decide) rfl (fun ls hl => ?_)
                    refine lv_goto (tgt := 34) hx hb dL_files_62 (by decide) ?_
                    exact ih34 G kc ks ba0 ba1 ba2 bx3 (some ba4r) none bx6 (bx7 + (1 : Int32)) _ _ hG _ (lv_sub hl [1, 2, 3, 4, 5, 6, 7, 0] rfl) h
                  · rw [if_pos (Option.some.inj c52)] at h
                    refine lv_iload hx hb dL_files_55 (lv_at hl 7 rfl) ?_
                    refine lv_istore (lv' := [(6, .int bx7), (0, .ref ba0), (1, .ref ba1), (2, .ref ba2), (3, .int bx3), (4, .ref ba4r), (5, .null), (7, .int bx7)]) hx hb dL_files_57 hl (by decide) rfl (fun ls hl => ?_)
                    refine lv_iinc (v := (bx7 + (1 : Int32))) (lv' := [(7, .int (bx7 + (1 : Int32))), (6, .int bx7), (0, .ref ba0), (1, .ref ba1), (2, .ref ba2), (3, .int bx3), (4, .ref ba4r), (5, .null)]) hx hb dL_files_59 hl (k := 7) rfl rfl (by decide) rfl (fun ls hl => ?_)
                    refine lv_goto (tgt := 34) hx hb dL_files_62 (by decide) ?_
                    exact ih34 G kc ks ba0 ba1 ba2 bx3 (some ba4r) none bx7 (bx7 + (1 : Int32)) _ _ hG _ (lv_sub hl [2, 3, 4, 5, 6, 7, 1, 0] rfl) h
            · replace h := h.2 ba5r rfl
              refine lv_iload hx hb dL_files_34 (lv_at hl 7 rfl) ?_
              refine lv_aload_n hx hb dL_files_36 rfl (lv_at hl 1 rfl) ?_
              obtain ⟨v37, e37, h⟩ := h
              refine g_getiN hx hb hts inlX10 hown hK hG (by rfl) 4 (by decide) (List.mem_of_getElem? (i := 14) rfl) e37 dL_files_37 ?_
              refine lv_icmp_ge (tgt := 65) hx hb dL_files_40 (by decide) (fun c40 => ?_) (fun c40 => ?_)
              · rw [if_pos c40] at h
                refine lv_iconst (v := (0 : Int32)) hx hb dL_files_65 (by decide) ?_
                refine lv_istore (lv' := [(7, .int (0 : Int32)), (0, .ref ba0), (1, .ref ba1), (2, .ref ba2), (3, .int bx3), (4, .ref ba4r), (5, .ref ba5r), (6, .int bx6)]) hx hb dL_files_66 hl (by decide) rfl (fun ls hl => ?_)
                refine lv_iconst (v := (0 : Int32)) hx hb dL_files_68 (by decide) ?_
                refine lv_istore (lv' := [(8, .int (0 : Int32)), (7, .int (0 : Int32)), (0, .ref ba0), (1, .ref ba1), (2, .ref ba2), (3, .int bx3), (4, .ref ba4r), (5, .ref ba5r), (6, .int bx6)]) hx hb dL_files_69 hl (by decide) rfl (fun ls hl => ?_)
                exact h71 g_N G kc ks ba0 ba1 ba2 bx3 (some ba5r) bx6 (0 : Int32) (0 : Int32) _ _ hG _ (lv_sub hl [2, 3, 4, 5, 7, 8, 1, 0] rfl) h
              · rw [if_neg c40] at h
                refine lv_aload_n hx hb dL_files_43 rfl (lv_at hl 1 rfl) ?_
                obtain ⟨v44, e44, h⟩ := h
                refine g_getrN hx hb hts inlX10 hown hK hG (by rfl) 16 (by decide) (List.mem_of_getElem? (i := 12) rfl) e44 dL_files_44 ?_
                refine lv_iload hx hb dL_files_47 (lv_at hl 7 rfl) ?_
                obtain ⟨v49, e49, h⟩ := h
                refine g_rald_row hx hb hK hG (t := 5) rfl e49 dL_files_49 ?_
                rcases v49 with _ | r49
                · replace h := h.1 rfl
                  refine lv_aload hx hb dL_files_50 (lv_at hl 4 rfl) ?_
                  refine lv_acmp_ne (rx := none) (ry := (some ba4r)) (tgt := 59) hx hb dL_files_52 (by decide) (fun c52 => ?_) (fun c52 => ?_)
                  rotate_left
                  · exact absurd c52 (by simp)
                  refine lv_iinc (v := (bx7 + (1 : Int32))) (lv' := [(7, .int (bx7 + (1 : Int32))), (0, .ref ba0), (1, .ref ba1), (2, .ref ba2), (3, .int bx3), (4, .ref ba4r), (5, .ref ba5r), (6, .int bx6)]) hx hb dL_files_59 hl (k := 7) rfl rfl (by decide) rfl (fun ls hl => ?_)
                  refine lv_goto (tgt := 34) hx hb dL_files_62 (by decide) ?_
                  exact ih34 G kc ks ba0 ba1 ba2 bx3 (some ba4r) (some ba5r) bx6 (bx7 + (1 : Int32)) _ _ hG _ (lv_sub hl [1, 2, 3, 4, 5, 6, 7, 0] rfl) h
                · replace h := h.2 r49 rfl
                  refine lv_aload hx hb dL_files_50 (lv_at hl 4 rfl) ?_
                  refine lv_acmp_ne (rx := (some r49)) (ry := (some ba4r)) (tgt := 59) hx hb dL_files_52 (by decide) (fun c52 => ?_) (fun c52 => ?_)
                  · rw [if_neg (fun z => c52 (congrArg some z))] at h
                    refine lv_iinc (v := (bx7 + (1 : Int32))) (lv' := [(7, .int (bx7 + (1 : Int32))), (0, .ref ba0), (1, .ref ba1), (2, .ref ba2), (3, .int bx3), (4, .ref ba4r), (5, .ref ba5r), (6, .int bx6)]) hx hb dL_files_59 hl (k := 7) rfl rfl (by decide) rfl (fun ls hl => ?_)
                    refine lv_goto (tgt := 34) hx hb dL_files_62 (by decide) ?_
                    exact ih34 G kc ks ba0 ba1 ba2 bx3 (some ba4r) (some ba5r) bx6 (bx7 + (1 : Int32)) _ _ hG _ (lv_sub hl [1, 2, 3, 4, 5, 6, 7, 0] rfl) h
                  · rw [if_pos (Option.some.inj c52)] at h
                    refine lv_iload hx hb dL_files_55 (lv_at hl 7 rfl) ?_
                    refine lv_istore (lv' := [(6, .int bx7), (0, .ref ba0), (1, .ref ba1), (2, .ref ba2), (3, .int bx3), (4, .ref ba4r), (5, .ref ba5r), (7, .int bx7)]) hx hb dL_files_57 hl (by decide) rfl (fun ls hl => ?_)
                    refine lv_iinc (v := (bx7 + (1 : Int32))) (lv' := [(7, .int (bx7 + (1 : Int32))), (6, .int bx7), (0, .ref ba0), (1, .ref ba1), (2, .ref ba2), (3, .int bx3), (4, .ref ba4r), (5, .ref ba5r)]) hx hb dL_files_59 hl (k := 7) rfl rfl (by decide) rfl (fun ls hl => ?_)
                    refine lv_goto (tgt := 34) hx hb dL_files_62 (by decide) ?_
                    exact ih34 G kc ks ba0 ba1 ba2 bx3 (some ba4r) (some ba5r) bx7 (bx7 + (1 : Int32)) _ _ hG _ (lv_sub hl [2, 3, 4, 5, 6, 7, 1, 0] rfl) h
      intro G kc ks ba0 ba1 ba2 bx3 H locs hG ls hl h
      rw [w_L_files_L2] at h
      refine lv_iload_n hx hb dL_files_2 rfl (lv_at hl 3 rfl) ?_
      refine lv_aload_n hx hb dL_files_3 rfl (lv_at hl 1 rfl) ?_
      obtain ⟨v4, e4, h⟩ := h
      refine g_getiN hx hb hts inlX10 hown hK hG (by rfl) 2 (by decide) (List.mem_of_getElem? (i := 2) rfl) e4 dL_files_4 ?_
      refine lv_icmp_ge (tgt := 336) hx hb dL_files_7 (by decide) (fun c7 => ?_) (fun c7 => ?_)
      · rw [if_pos c7] at h
        refine lv_bipush (v := (10 : Int32)) hx hb dL_files_336 (by decide) ?_
        obtain ⟨y338, h⟩ := h
        refine g_newq6 (N := 10) hx hb hown hts qL_L_139 hK hlo hG (by decide) (by decide) (Nat.le_of_ble_eq_true rfl) y338 dL_files_338 (fun q338 H z338 hG => ?_)
        obtain ⟨G338, i338⟩ : ∃ g : gH, g = va_up G q338 (some (.inr (.inr (.inl (6, 10, fun _ => none))))) := ⟨_, rfl⟩
        rw [← i338] at hG
        replace h := h q338 z338 G338 i338
        refine lv_astore_n (lv' := [(3, .ref q338), (0, .ref ba0), (1, .ref ba1), (2, .ref ba2)]) hx hb dL_files_341 rfl hl (by decide) rfl (fun ls hl => ?_)
        refine lv_aload_n hx hb dL_files_342 rfl (lv_at hl 2 rfl) ?_
        refine lv_aload_n hx hb dL_files_343 rfl (lv_at hl 0 rfl) ?_
        obtain ⟨C344, R344, d344, g344, h⟩ := h
        obtain ⟨u344, o344, h⟩ := h
        obtain ⟨y344, h⟩ := h
        obtain ⟨q344, e344, h⟩ := h
        rw [g344] at hG
        refine g_wVi (As := [.ref q338]) (rest := []) (n := 1) hx hb hml hown hts hK hlo hG (g_frI d344 (fun lo => m_X10_lost l dd cT lo C344 ba1 q338 e344) lo) qM_L_276 qI_yX10_lost qS_X10_yX10_lost qN_X10 qC_yX10_lost (by decide +kernel) ⟨Nat.le_of_ble_eq_true rfl, Nat.le_of_ble_eq_true rfl⟩ (by rfl) (g_ob_gj o344) rfl hl.1 rfl (Nat.le_of_ble_eq_true rfl) dL_files_344 y344 (fun v344x Gx H locs hKx hG => ?_)
        obtain ⟨D344, ⟨k344a, k344⟩, f344, l344⟩ := hKx
        rw [l344, k344] at hG
        rw [k344] at f344
        rw [k344a]
        obtain ⟨G344, i344⟩ : ∃ g : gH, g = gj q344.1 R344 := ⟨_, rfl⟩
        rw [← i344] at hG
        replace h := h G344 f344 i344
        refine lv_istore (lv' := [(4, .int q344.2), (3, .ref q338), (0, .ref ba0), (1, .ref ba1), (2, .ref ba2)]) hx hb dL_files_347 hl (by decide) rfl (fun ls hl => ?_)
        refine lv_aload_n hx hb dL_files_349 rfl (lv_at hl 2 rfl) ?_
        obtain ⟨C350, R350, d350, g350, h⟩ := h
        obtain ⟨u350, o350, h⟩ := h
        obtain ⟨y350, h⟩ := h
        obtain ⟨v350, e350, h⟩ := h
        rw [g350] at hG
        refine g_wVi (As := []) (rest := []) (n := 0) hx hb hml hown hts hK hlo hG (g_frI d350 (fun lo => m_X9_couldRecover l dd cT lo C350 ba0 e350) lo) qM_L_280 qI_yX9_couldRecover qS_X9_yX9_couldRecover qN_X9 qC_yX9_couldRecover (by decide +kernel) ⟨Nat.le_of_ble_eq_true rfl, Nat.le_of_ble_eq_true rfl⟩ (by rfl) (g_ob_gj o350) rfl hl.1 rfl (Nat.le_of_ble_eq_true rfl) dL_files_350 y350 (fun v350x Gx H locs hKx hG => ?_)
        obtain ⟨D350, ⟨k350a, k350⟩, f350, l350⟩ := hKx
        rw [l350, k350] at hG
        rw [k350] at f350
        rw [k350a]
        rw [← g350] at hG
        refine lv_iload hx hb dL_files_353 (lv_at hl 0 rfl) ?_
        refine lv_icmp_ne (tgt := 404) hx hb dL_files_355 (by decide) (fun c355 => ?_) (fun c355 => ?_)
        · rw [if_neg c355] at h
          refine lv_iconst (v := (0 : Int32)) hx hb dL_files_404 (by decide) ?_
          obtain ⟨y1, y2, h⟩ := h
          refine W.widen (k := MC) (n := MS) y1 y2 ?_
          exact g_zret hx hb hr hlocks hK hlo hG rfl h dL_files_405
        · rw [if_pos c355] at h
          refine lv_aload_n hx hb dL_files_358 rfl (lv_at hl 2 rfl) ?_
          refine lv_iconst (v := (2 : Int32)) hx hb dL_files_359 (by decide) ?_
          obtain ⟨C360, R360, d360, g360, h⟩ := h
          obtain ⟨u360, o360, h⟩ := h
          obtain ⟨y360, h⟩ := h
          rw [g360] at hG
          refine g_wVi (As := [.int (2 : Int32)]) (rest := []) (n := 1) hx hb hml hown hts hK hlo hG (g_frI d360 (fun lo => g_noX (m_X9_whyNot l hfl dd cT lo C360 ba0 (2 : Int32) h)) lo) qM_L_283 qI_yX9_whyNot qS_X9_yX9_whyNot qN_X9 qC_yX9_whyNot (by decide +kernel) ⟨Nat.le_of_ble_eq_true rfl, Nat.le_of_ble_eq_true rfl⟩ (by rfl) (g_ob_gj o360) rfl hl.1 rfl (Nat.le_of_ble_eq_true rfl) dL_files_360 y360 (fun v360x Gx H locs hKx hG => ?_)
          obtain ⟨D360, h, f360, rfl⟩ := hKx
          obtain ⟨G360, i360⟩ : ∃ g : gH, g = gj D360 R360 := ⟨_, rfl⟩
          rw [← i360] at hG
          replace h := h G360 f360 i360
          revert h
          generalize v360x = v360
          intro h
          refine lv_aload_n hx hb dL_files_363 rfl (lv_at hl 3 rfl) ?_
          refine lv_iload hx hb dL_files_364 (lv_at hl 0 rfl) ?_
          obtain ⟨C366, R366, d366, g366, h⟩ := h
          obtain ⟨u366, o366, h⟩ := h
          obtain ⟨y366, h⟩ := h
          obtain ⟨v366, e366, h⟩ := h
          rw [g366] at hG
          refine g_wVi (As := [.int q344.2]) (rest := [.int v360]) (n := 1) hx hb hml hown hts hK hlo hG (g_frI d366 (fun lo => m_X10_whyRecover l dd cT lo C366 ba1 q344.2 e366) lo) qM_L_286 qI_yX10_whyRecover qS_X10_yX10_whyRecover qN_X10 qC_yX10_whyRecover (by decide +kernel) ⟨Nat.le_of_ble_eq_true rfl, Nat.le_of_ble_eq_true rfl⟩ (by rfl) (g_ob_gj o366) rfl hl.1 rfl (Nat.le_of_ble_eq_true rfl) dL_files_366 y366 (fun v366x Gx H locs hKx hG => ?_)
          obtain ⟨D366, ⟨k366a, k366⟩, f366, l366⟩ := hKx
          rw [l366, k366] at hG
          rw [k366] at f366
          rw [k366a]
          rw [← g366] at hG
          refine lv_icmp_ne (tgt := 404) hx hb dL_files_369 (by decide) (fun c369 => ?_) (fun c369 => ?_)
          · rw [if_neg c369] at h
            refine lv_iconst (v := (0 : Int32)) hx hb dL_files_404 (by decide) ?_
            obtain ⟨y1, y2, h⟩ := h
            refine W.widen (k := MC) (n := MS) y1 y2 ?_
            exact g_zret hx hb hr hlocks hK hlo hG rfl h dL_files_405
          · rw [if_pos c369] at h
            refine lv_aload_n hx hb dL_files_372 rfl (lv_at hl 2 rfl) ?_
            refine lv_iconst (v := (0 : Int32)) hx hb dL_files_373 (by decide) ?_
            obtain ⟨C374, R374, d374, g374, h⟩ := h
            obtain ⟨u374, o374, h⟩ := h
            obtain ⟨y374, h⟩ := h
            rw [g374] at hG
            refine g_wVi (As := [.int (0 : Int32)]) (rest := []) (n := 1) hx hb hml hown hts hK hlo hG (g_frI d374 (fun lo => g_noX (m_X9_whyNot l hfl dd cT lo C374 ba0 (0 : Int32) h)) lo) qM_L_283 qI_yX9_whyNot qS_X9_yX9_whyNot qN_X9 qC_yX9_whyNot (by decide +kernel) ⟨Nat.le_of_ble_eq_true rfl, Nat.le_of_ble_eq_true rfl⟩ (by rfl) (g_ob_gj o374) rfl hl.1 rfl (Nat.le_of_ble_eq_true rfl) dL_files_374 y374 (fun v374x Gx H locs hKx hG => ?_)
            obtain ⟨D374, h, f374, rfl⟩ := hKx
            obtain ⟨G374, i374⟩ : ∃ g : gH, g = gj D374 R374 := ⟨_, rfl⟩
            rw [← i374] at hG
            replace h := h G374 f374 i374
            revert h
            generalize v374x = v374
            intro h
            refine lv_aload_n hx hb dL_files_377 rfl (lv_at hl 3 rfl) ?_
            obtain ⟨C378, R378, d378, g378, h⟩ := h
            obtain ⟨u378, o378, h⟩ := h
            obtain ⟨y378, h⟩ := h
            obtain ⟨v378, e378, h⟩ := h
            rw [g378] at hG
            refine g_wVi (As := []) (rest := [.int v374]) (n := 0) hx hb hml hown hts hK hlo hG (g_frI d378 (fun lo => m_X10_whyClose l dd cT lo C378 ba1 e378) lo) qM_L_289 qI_yX10_whyClose qS_X10_yX10_whyClose qN_X10 qC_yX10_whyClose (by decide +kernel) ⟨Nat.le_of_ble_eq_true rfl, Nat.le_of_ble_eq_true rfl⟩ (by rfl) (g_ob_gj o378) rfl hl.1 rfl (Nat.le_of_ble_eq_true rfl) dL_files_378 y378 (fun v378x Gx H locs hKx hG => ?_)
            obtain ⟨D378, ⟨k378a, k378⟩, f378, l378⟩ := hKx
            rw [l378, k378] at hG
            rw [k378] at f378
            rw [k378a]
            rw [← g378] at hG
            refine lv_icmp_ne (tgt := 404) hx hb dL_files_381 (by decide) (fun c381 => ?_) (fun c381 => ?_)
            · rw [if_neg c381] at h
              refine lv_iconst (v := (0 : Int32)) hx hb dL_files_404 (by decide) ?_
              obtain ⟨y1, y2, h⟩ := h
              refine W.widen (k := MC) (n := MS) y1 y2 ?_
              exact g_zret hx hb hr hlocks hK hlo hG rfl h dL_files_405
            · rw [if_pos c381] at h
              refine lv_aload_n hx hb dL_files_384 rfl (lv_at hl 2 rfl) ?_
              refine lv_iconst (v := (1 : Int32)) hx hb dL_files_385 (by decide) ?_
              obtain ⟨C386, R386, d386, g386, h⟩ := h
              obtain ⟨u386, o386, h⟩ := h
              obtain ⟨y386, h⟩ := h
              rw [g386] at hG
              refine g_wVi (As := [.int (1 : Int32)]) (rest := []) (n := 1) hx hb hml hown hts hK hlo hG (g_frI d386 (fun lo => g_noX (m_X9_whyNot l hfl dd cT lo C386 ba0 (1 : Int32) h)) lo) qM_L_283 qI_yX9_whyNot qS_X9_yX9_whyNot qN_X9 qC_yX9_whyNot (by decide +kernel) ⟨Nat.le_of_ble_eq_true rfl, Nat.le_of_ble_eq_true rfl⟩ (by rfl) (g_ob_gj o386) rfl hl.1 rfl (Nat.le_of_ble_eq_true rfl) dL_files_386 y386 (fun v386x Gx H locs hKx hG => ?_)
              obtain ⟨D386, h, f386, rfl⟩ := hKx
              obtain ⟨G386, i386⟩ : ∃ g : gH, g = gj D386 R386 := ⟨_, rfl⟩
              rw [← i386] at hG
              replace h := h G386 f386 i386
              revert h
              generalize v386x = v386
              intro h
              refine lv_aload_n hx hb dL_files_389 rfl (lv_at hl 3 rfl) ?_
              obtain ⟨C390, R390, d390, g390, h⟩ := h
              obtain ⟨u390, o390, h⟩ := h
              obtain ⟨y390, h⟩ := h
              obtain ⟨v390, e390, h⟩ := h
              rw [g390] at hG
              refine g_wVq (As := []) (rest := [.int v386]) (n := 0) hx hb hml hown hts hK hlo hG (g_frQ d390 (fun lo => m_X10_open l dd cT lo C390 ba1 e390) lo) qM_L_189 qI_yX10_open qS_X10_yX10_open qN_X10 qC_yX10_open (by decide +kernel) ⟨Nat.le_of_ble_eq_true rfl, Nat.le_of_ble_eq_true rfl⟩ (by rfl) (g_ob_gj o390) rfl hl.1 rfl (Nat.le_of_ble_eq_true rfl) dL_files_390 y390 (fun v390x Gx H locs hKx hG => ?_)
              obtain ⟨D390, ⟨k390a, k390⟩, f390, l390⟩ := hKx
              rw [l390, k390] at hG
              rw [k390] at f390
              rw [k390a]
              rw [← g390] at hG
              rcases v390 with _ | r390
              · replace h := h.1 rfl
                refine lv_ifnonnullN hx hb dL_files_393 ?_
                refine lv_iconst (v := (1 : Int32)) hx hb dL_files_396 (by decide) ?_
                refine lv_goto (tgt := 401) hx hb dL_files_397 (by decide) ?_
                exact h401 G386 ((((kc + 1) + 1) + 1) + 1) ((((ks + 10) + 6) + 6) + 6) ba0 ba1 ba2 v386 (1 : Int32) _ _ hG _ (lv_sub hl [2, 3, 4] rfl) h
              · replace h := h.2 r390 rfl
                refine lv_ifnonnull (tgt := 400) hx hb dL_files_393 (by decide) ?_
                refine lv_iconst (v := (0 : Int32)) hx hb dL_files_400 (by decide) ?_
                exact h401 G386 ((((kc + 1) + 1) + 1) + 1) ((((ks + 10) + 6) + 6) + 6) ba0 ba1 ba2 v386 (0 : Int32) _ _ hG _ (lv_sub hl [2, 3, 4] rfl) h
      · rw [if_neg c7] at h
        refine lv_aload_n hx hb dL_files_10 rfl (lv_at hl 1 rfl) ?_
        refine lv_iload_n hx hb dL_files_11 rfl (lv_at hl 3 rfl) ?_
        refine lv_bipush (v := (12 : Int32)) hx hb dL_files_12 (by decide) ?_
        obtain ⟨C14, R14, d14, g14, h⟩ := h
        obtain ⟨u14, o14, h⟩ := h
        obtain ⟨y14, h⟩ := h
        obtain ⟨v14, e14, h⟩ := h
        rw [g14] at hG
        refine g_wVq (As := [.int bx3, .int (12 : Int32)]) (rest := []) (n := 2) hx hb hml hown hts hK hlo hG (g_frQ d14 (fun lo => m_X10_counting l dd cT lo C14 ba1 bx3 (12 : Int32) e14) lo) qM_L_250 qI_yX10_counting qS_X10_yX10_counting qN_X10 qC_yX10_counting (by decide +kernel) ⟨Nat.le_of_ble_eq_true rfl, Nat.le_of_ble_eq_true rfl⟩ (by rfl) (g_ob_gj o14) rfl hl.1 rfl (Nat.le_of_ble_eq_true rfl) dL_files_14 y14 (fun v14x Gx H locs hKx hG => ?_)
        obtain ⟨D14, ⟨k14a, k14⟩, f14, l14⟩ := hKx
        rw [l14, k14] at hG
        rw [k14] at f14
        rw [k14a]
        rw [← g14] at hG
        rcases v14 with _ | r14
        · replace h := h.1 rfl
          refine lv_astoreN (lv' := [(4, .null), (0, .ref ba0), (1, .ref ba1), (2, .ref ba2), (3, .int bx3)]) hx hb dL_files_17 hl (by decide) rfl (fun ls hl => ?_)
          refine lv_aload_n hx hb dL_files_19 rfl (lv_at hl 2 rfl) ?_
          refine lv_iload_n hx hb dL_files_20 rfl (lv_at hl 4 rfl) ?_
          refine lv_bipush (v := (12 : Int32)) hx hb dL_files_21 (by decide) ?_
          obtain ⟨C23, R23, d23, g23, h⟩ := h
          obtain ⟨u23, o23, h⟩ := h
          obtain ⟨y23, h⟩ := h
          obtain ⟨v23, e23, h⟩ := h
          rw [g23] at hG
          refine g_wVq (As := [.int bx3, .int (12 : Int32)]) (rest := []) (n := 2) hx hb hml hown hts hK hlo hG (g_frQ d23 (fun lo => m_X10_version l dd cT lo C23 ba1 bx3 (12 : Int32) e23) lo) qM_L_254 qI_yX10_version qS_X10_yX10_version qN_X10 qC_yX10_version (by decide +kernel) ⟨Nat.le_of_ble_eq_true rfl, Nat.le_of_ble_eq_true rfl⟩ (by rfl) (g_ob_gj o23) rfl hl.1 rfl (Nat.le_of_ble_eq_true rfl) dL_files_23 y23 (fun v23x Gx H locs hKx hG => ?_)
          obtain ⟨D23, ⟨k23a, k23⟩, f23, l23⟩ := hKx
          rw [l23, k23] at hG
          rw [k23] at f23
          rw [k23a]
          rw [← g23] at hG
          rcases v23 with _ | r23
          · replace h := h.1 rfl
            refine lv_astoreN (lv' := [(5, .null), (4, .null), (0, .ref ba0), (1, .ref ba1), (2, .ref ba2), (3, .int bx3)]) hx hb dL_files_26 hl (by decide) rfl (fun ls hl => ?_)
            refine lv_iconst (v := (-1 : Int32)) hx hb dL_files_28 (by decide) ?_
            refine lv_istore (lv' := [(6, .int (-1 : Int32)), (5, .null), (4, .null), (0, .ref ba0), (1, .ref ba1), (2, .ref ba2), (3, .int bx3)]) hx hb dL_files_29 hl (by decide) rfl (fun ls hl => ?_)
            refine lv_iconst (v := (0 : Int32)) hx hb dL_files_31 (by decide) ?_
            refine lv_istore (lv' := [(7, .int (0 : Int32)), (6, .int (-1 : Int32)), (5, .null), (4, .null), (0, .ref ba0), (1, .ref ba1), (2, .ref ba2), (3, .int bx3)]) hx hb dL_files_32 hl (by decide) rfl (fun ls hl => ?_)
            exact h34 g_N G kc ks ba0 ba1 ba2 bx3 none none (-1 : Int32) (0 : Int32) _ _ hG _ (lv_sub hl [4, 5, 6, 7, 3, 2, 1, 0] rfl) h
          · replace h := h.2 r23 rfl
            refine lv_astore (lv' := [(5, .ref r23), (4, .null), (0, .ref ba0), (1, .ref ba1), (2, .ref ba2), (3, .int bx3)]) hx hb dL_files_26 hl (by decide) rfl (fun ls hl => ?_)
            refine lv_iconst (v := (-1 : Int32)) hx hb dL_files_28 (by decide) ?_
            refine lv_istore (lv' := [(6, .int (-1 : Int32)), (5, .ref r23), (4, .null), (0, .ref ba0), (1, .ref ba1), (2, .ref ba2), (3, .int bx3)]) hx hb dL_files_29 hl (by decide) rfl (fun ls hl => ?_)
            refine lv_iconst (v := (0 : Int32)) hx hb dL_files_31 (by decide) ?_
            refine lv_istore (lv' := [(7, .int (0 : Int32)), (6, .int (-1 : Int32)), (5, .ref r23), (4, .null), (0, .ref ba0), (1, .ref ba1), (2, .ref ba2), (3, .int bx3)]) hx hb dL_files_32 hl (by decide) rfl (fun ls hl => ?_)
            exact h34 g_N G kc ks ba0 ba1 ba2 bx3 none (some r23) (-1 : Int32) (0 : Int32) _ _ hG _ (lv_sub hl [4, 5, 6, 7, 3, 2, 1, 0] rfl) h
        · replace h := h.2 r14 rfl
          refine lv_astore (lv' := [(4, .ref r14), (0, .ref ba0), (1, .ref ba1), (2, .ref ba2), (3, .int bx3)]) hx hb dL_files_17 hl (by decide) rfl (fun ls hl => ?_)
          refine lv_aload_n hx hb dL_files_19 rfl (lv_at hl 2 rfl) ?_
          refine lv_iload_n hx hb dL_files_20 rfl (lv_at hl 4 rfl) ?_
          refine lv_bipush (v := (12 : Int32)) hx hb dL_files_21 (by decide) ?_
          obtain ⟨C23, R23, d23, g23, h⟩ := h
          obtain ⟨u23, o23, h⟩ := h
          obtain ⟨y23, h⟩ := h
          obtain ⟨v23, e23, h⟩ := h
          rw [g23] at hG
          refine g_wVq (As := [.int bx3, .int (12 : Int32)]) (rest := []) (n := 2) hx hb hml hown hts hK hlo hG (g_frQ d23 (fun lo => m_X10_version l dd cT lo C23 ba1 bx3 (12 : Int32) e23) lo) qM_L_254 qI_yX10_version qS_X10_yX10_version qN_X10 qC_yX10_version (by decide +kernel) ⟨Nat.le_of_ble_eq_true rfl, Nat.le_of_ble_eq_true rfl⟩ (by rfl) (g_ob_gj o23) rfl hl.1 rfl (Nat.le_of_ble_eq_true rfl) dL_files_23 y23 (fun v23x Gx H locs hKx hG => ?_)
          obtain ⟨D23, ⟨k23a, k23⟩, f23, l23⟩ := hKx
          rw [l23, k23] at hG
          rw [k23] at f23
          rw [k23a]
          rw [← g23] at hG
          rcases v23 with _ | r23
          · replace h := h.1 rfl
            refine lv_astoreN (lv' := [(5, .null), (4, .ref r14), (0, .ref ba0), (1, .ref ba1), (2, .ref ba2), (3, .int bx3)]) hx hb dL_files_26 hl (by decide) rfl (fun ls hl => ?_)
            refine lv_iconst (v := (-1 : Int32)) hx hb dL_files_28 (by decide) ?_
            refine lv_istore (lv' := [(6, .int (-1 : Int32)), (5, .null), (4, .ref r14), (0, .ref ba0), (1, .ref ba1), (2, .ref ba2), (3, .int bx3)]) hx hb dL_files_29 hl (by decide) rfl (fun ls hl => ?_)
            refine lv_iconst (v := (0 : Int32)) hx hb dL_files_31 (by decide) ?_
            refine lv_istore (lv' := [(7, .int (0 : Int32)), (6, .int (-1 : Int32)), (5, .null), (4, .ref r14), (0, .ref ba0), (1, .ref ba1), (2, .ref ba2), (3, .int bx3)]) hx hb dL_files_32 hl (by decide) rfl (fun ls hl => ?_)
            exact h34 g_N G kc ks ba0 ba1 ba2 bx3 (some r14) none (-1 : Int32) (0 : Int32) _ _ hG _ (lv_sub hl [4, 5, 6, 7, 3, 2, 1, 0] rfl) h
          · replace h := h.2 r23 rfl
            refine lv_astore (lv' := [(5, .ref r23), (4, .ref r14), (0, .ref ba0), (1, .ref ba1), (2, .ref ba2), (3, .int bx3)]) hx hb dL_files_26 hl (by decide) rfl (fun ls hl => ?_)
            refine lv_iconst (v := (-1 : Int32)) hx hb dL_files_28 (by decide) ?_
            refine lv_istore (lv' := [(6, .int (-1 : Int32)), (5, .ref r23), (4, .ref r14), (0, .ref ba0), (1, .ref ba1), (2, .ref ba2), (3, .int bx3)]) hx hb dL_files_29 hl (by decide) rfl (fun ls hl => ?_)
            refine lv_iconst (v := (0 : Int32)) hx hb dL_files_31 (by decide) ?_
            refine lv_istore (lv' := [(7, .int (0 : Int32)), (6, .int (-1 : Int32)), (5, .ref r23), (4, .ref r14), (0, .ref ba0), (1, .ref ba1), (2, .ref ba2), (3, .int bx3)]) hx hb dL_files_32 hl (by decide) rfl (fun ls hl => ?_)
            exact h34 g_N G kc ks ba0 ba1 ba2 bx3 (some r14) (some r23) (-1 : Int32) (0 : Int32) _ _ hG _ (lv_sub hl [4, 5, 6, 7, 3, 2, 1, 0] rfl) h
  unfold w_L_files at h
  refine lv_iconst (v := (0 : Int32)) hx hb dL_files_0 (by decide) ?_
  refine lv_istore_n (lv' := [(3, .int (0 : Int32)), (0, .ref a0), (1, .ref a1), (2, .ref a2)]) hx hb dL_files_1 rfl hl (by decide) rfl (fun ls hl => ?_)
  exact h2 g_N G 0 0 a0 a1 a2 (0 : Int32) _ _ hG _ (lv_sub hl [1, 2, 3, 0] rfl) h

/-! The law's methods that make cells: by program (wip/p34/tools/pwlift.py). -/
set_option maxRecDepth 20000 in
set_option maxHeartbeats 4000000 in
theorem m_L_changes (MC MS : Nat) (l : Launch) (hfl : l.stackTraces = false) (dd : va_G) (cT : Nat → ClassId) (lo : Nat → Prop) (G : gH) (a0 : Nat) (a1 : Nat) (a2 : Nat) {K : Int32 → gH → Prop} (h : w_L_changes MC MS G a0 a1 a2 K) : Met l yL_changes (Cond.code yL_changes cL_changes 8 (some .boolean) :: wsL_law) (g_rm 8 158 MC MS) (va_Pc [.ref a0, .ref a1, .ref a2] (g_Pre lo dd cT G)) (va_Qi K (g_Pre lo dd cT) (g_A lo)) MC MS (g_A lo) := by
  refine g_start RL rfl (by decide) (Nat.le_of_ble_eq_true rfl) ?_
  intro p e s m below meth c hx hb hr hlocks hml hown hnm hts hK hG hlo ls hl
  have hl : lv_has ls 8 [(0, .ref a0), (1, .ref a1), (2, .ref a2)] := hl
  have hG : g_S lo dd cT s s.heap [] G := hG
  have h423 : ∀ (G : gH) (kc ks : Nat) (ba0 : Nat) (ba1 : Nat) (bx4 : Int32) (z0 : Nat) (z1 : Int32) (H : Heap) (locs : List Loc), g_S lo dd cT s H locs G → ∀ ls : Array Slot, lv_has ls 8 [(0, .ref ba0), (1, .ref ba1), (4, .int bx4)] → w_L_changes_J423 MC MS K G kc ks ba0 ba1 bx4 z0 z1 → W p l e (g_rm 8 158 MC MS) s m ([.ref a0, .ref a1, .ref a2] : List Value).toArray below meth c H locs kc ks (MQ below (va_Qi K (g_Pre lo dd cT) (g_A lo)) ([.ref a0, .ref a1, .ref a2] : List Value).toArray s MC MS (g_A lo)) (F0 m 423 ls [.int z1, .ref z0]) := by
    intro G kc ks ba0 ba1 bx4 z0 z1 H locs hG ls hl h
    unfold w_L_changes_J423 at h
    obtain ⟨w423, e423, h⟩ := h
    obtain ⟨n423, rfl⟩ := g_z_nar e423
    obtain ⟨G423, i423, h⟩ := h
    refine g_putvN hx hb hts inlX10 tyX10 tyX10_ok nmX10 hown hK hG (by rfl) 6 (by decide) (List.mem_of_getElem? (i := 16) rfl) rfl rfl n423 (g_z_fit e423) i423 dL_changes_423 (fun H locs hG => ?_)
    refine lv_aload_n hx hb dL_changes_426 rfl (lv_at hl 0 rfl) ?_
    refine lv_aload_n hx hb dL_changes_427 rfl (lv_at hl 1 rfl) ?_
    obtain ⟨v428, e428, h⟩ := h
    refine g_getiN hx hb hts inlX10 hown hK hG (by rfl) 6 (by decide) (List.mem_of_getElem? (i := 16) rfl) e428 dL_changes_428 ?_
    obtain ⟨C431, R431, d431, g431, h⟩ := h
    obtain ⟨u431, o431, h⟩ := h
    obtain ⟨y431, h⟩ := h
    rw [g431] at hG
    refine g_wVi (As := [.int v428]) (rest := []) (n := 1) hx hb hml hown hts hK hlo hG (g_frI d431 (fun lo => (m_X9_setScan l dd cT lo C431 ba0 v428 h)) lo) qM_L_331 qI_yX9_setScan qS_X9_yX9_setScan qN_X9 qC_yX9_setScan (by decide +kernel) ⟨Nat.le_of_ble_eq_true rfl, Nat.le_of_ble_eq_true rfl⟩ (by rfl) (g_ob_gj o431) rfl hl.1 rfl (Nat.le_of_ble_eq_true rfl) dL_changes_431 y431 (fun v431x Gx H locs hKx hG => ?_)
    obtain ⟨D431, h, f431, rfl⟩ := hKx
    obtain ⟨G431, i431⟩ : ∃ g : gH, g = gj D431 R431 := ⟨_, rfl⟩
    rw [← i431] at hG
    replace h := h G431 f431 i431
    revert h
    generalize v431x = v431
    intro h
    refine lv_iload hx hb dL_changes_434 (lv_at hl 2 rfl) ?_
    refine lv_icmp_ne (tgt := 443) hx hb dL_changes_436 (by decide) (fun c436 => ?_) (fun c436 => ?_)
    · rw [if_neg c436] at h
      refine lv_iconst (v := (0 : Int32)) hx hb dL_changes_443 (by decide) ?_
      obtain ⟨y1, y2, h⟩ := h
      refine W.widen (k := MC) (n := MS) y1 y2 ?_
      exact g_zret hx hb hr hlocks hK hlo hG rfl h dL_changes_444
    · rw [if_pos c436] at h
      refine lv_iconst (v := (1 : Int32)) hx hb dL_changes_439 (by decide) ?_
      refine lv_goto (tgt := 444) hx hb dL_changes_440 (by decide) ?_
      obtain ⟨y1, y2, h⟩ := h
      refine W.widen (k := MC) (n := MS) y1 y2 ?_
      exact g_zret hx hb hr hlocks hK hlo hG rfl h dL_changes_444
  have h386 : ∀ (G : gH) (kc ks : Nat) (ba0 : Nat) (bx4 : Int32) (bx5 : Int32) (H : Heap) (locs : List Loc), g_S lo dd cT s H locs G → ∀ ls : Array Slot, lv_has ls 8 [(0, .ref ba0), (4, .int bx4), (5, .int bx5)] → w_L_changes_J386 MC MS K G kc ks ba0 bx4 bx5 → W p l e (g_rm 8 158 MC MS) s m ([.ref a0, .ref a1, .ref a2] : List Value).toArray below meth c H locs kc ks (MQ below (va_Qi K (g_Pre lo dd cT) (g_A lo)) ([.ref a0, .ref a1, .ref a2] : List Value).toArray s MC MS (g_A lo)) (F0 m 386 ls []) := by
    intro G kc ks ba0 bx4 bx5 H locs hG ls hl h
    unfold w_L_changes_J386 at h
    refine lv_aload_n hx hb dL_changes_386 rfl (lv_at hl 0 rfl) ?_
    refine lv_iload hx hb dL_changes_387 (lv_at hl 1 rfl) ?_
    obtain ⟨C389, R389, d389, g389, h⟩ := h
    obtain ⟨u389, o389, h⟩ := h
    obtain ⟨y389, h⟩ := h
    rw [g389] at hG
    refine g_wVi (As := [.int bx4]) (rest := []) (n := 1) hx hb hml hown hts hK hlo hG (g_frI d389 (fun lo => g_noX (m_X9_scratch l hfl dd cT lo C389 ba0 bx4 h)) lo) qM_L_328 qI_yX9_scratch qS_X9_yX9_scratch qN_X9 qC_yX9_scratch (by decide +kernel) ⟨Nat.le_of_ble_eq_true rfl, Nat.le_of_ble_eq_true rfl⟩ (by rfl) (g_ob_gj o389) rfl hl.1 rfl (Nat.le_of_ble_eq_true rfl) dL_changes_389 y389 (fun v389x Gx H locs hKx hG => ?_)
    obtain ⟨D389, h, f389, rfl⟩ := hKx
    obtain ⟨G389, i389⟩ : ∃ g : gH, g = gj D389 R389 := ⟨_, rfl⟩
    rw [← i389] at hG
    replace h := h G389 f389 i389
    revert h
    generalize v389x = v389
    intro h
    refine lv_iload hx hb dL_changes_392 (lv_at hl 2 rfl) ?_
    refine lv_icmp_eq (tgt := 401) hx hb dL_changes_394 (by decide) (fun c394 => ?_) (fun c394 => ?_)
    · rw [if_pos c394] at h
      refine lv_iconst (v := (0 : Int32)) hx hb dL_changes_401 (by decide) ?_
      obtain ⟨y1, y2, h⟩ := h
      refine W.widen (k := MC) (n := MS) y1 y2 ?_
      exact g_zret hx hb hr hlocks hK hlo hG rfl h dL_changes_402
    · rw [if_neg c394] at h
      refine lv_iconst (v := (1 : Int32)) hx hb dL_changes_397 (by decide) ?_
      refine lv_goto (tgt := 402) hx hb dL_changes_398 (by decide) ?_
      obtain ⟨y1, y2, h⟩ := h
      refine W.widen (k := MC) (n := MS) y1 y2 ?_
      exact g_zret hx hb hr hlocks hK hlo hG rfl h dL_changes_402
  have h355 : ∀ (G : gH) (kc ks : Nat) (ba0 : Nat) (ba1 : Nat) (bx4 : Int32) (z0 : Int32) (H : Heap) (locs : List Loc), g_S lo dd cT s H locs G → ∀ ls : Array Slot, lv_has ls 8 [(0, .ref ba0), (1, .ref ba1), (4, .int bx4)] → w_L_changes_J355 MC MS K G kc ks ba0 ba1 bx4 z0 → W p l e (g_rm 8 158 MC MS) s m ([.ref a0, .ref a1, .ref a2] : List Value).toArray below meth c H locs kc ks (MQ below (va_Qi K (g_Pre lo dd cT) (g_A lo)) ([.ref a0, .ref a1, .ref a2] : List Value).toArray s MC MS (g_A lo)) (F0 m 355 ls [.int z0]) := by
    intro G kc ks ba0 ba1 bx4 z0 H locs hG ls hl h
    unfold w_L_changes_J355 at h
    refine lv_istore (lv' := [(5, .int z0), (0, .ref ba0), (1, .ref ba1), (4, .int bx4)]) hx hb dL_changes_355 hl (by decide) rfl (fun ls hl => ?_)
    refine lv_aload_n hx hb dL_changes_357 rfl (lv_at hl 2 rfl) ?_
    obtain ⟨v358, e358, h⟩ := h
    refine g_getrN hx hb hts inlX10 hown hK hG (by rfl) 7 (by decide) (List.mem_of_getElem? (i := 4) rfl) e358 dL_changes_358 ?_
    refine lv_iload hx hb dL_changes_361 (lv_at hl 3 rfl) ?_
    obtain ⟨v363, e363, h⟩ := h
    refine g_iald hx hb hK hG e363 dL_changes_363 ?_
    refine lv_if_ne (tgt := 378) hx hb dL_changes_364 (by decide) (fun c364 => ?_) (fun c364 => ?_)
    · rw [if_neg c364] at h
      refine lv_aload_n hx hb dL_changes_378 rfl (lv_at hl 2 rfl) ?_
      obtain ⟨v379, e379, h⟩ := h
      refine g_getrN hx hb hts inlX10 hown hK hG (by rfl) 13 (by decide) (List.mem_of_getElem? (i := 5) rfl) e379 dL_changes_379 ?_
      refine lv_iload hx hb dL_changes_382 (lv_at hl 3 rfl) ?_
      refine lv_iconst (v := (1 : Int32)) hx hb dL_changes_384 (by decide) ?_
      obtain ⟨G385, e385, h⟩ := h
      refine g_zast hx hb hK hG e385 dL_changes_385 (fun H locs hG => ?_)
      exact h386 G385 kc ks ba0 bx4 z0 _ _ hG _ (lv_sub hl [1, 3, 0] rfl) h
    · rw [if_pos c364] at h
      refine lv_aload_n hx hb dL_changes_367 rfl (lv_at hl 2 rfl) ?_
      obtain ⟨v368, e368, h⟩ := h
      refine g_getrN hx hb hts inlX10 hown hK hG (by rfl) 12 (by decide) (List.mem_of_getElem? (i := 3) rfl) e368 dL_changes_368 ?_
      refine lv_iload hx hb dL_changes_371 (lv_at hl 3 rfl) ?_
      refine lv_iconst (v := (1 : Int32)) hx hb dL_changes_373 (by decide) ?_
      obtain ⟨G374, e374, h⟩ := h
      refine g_zast hx hb hK hG e374 dL_changes_374 (fun H locs hG => ?_)
      refine lv_goto (tgt := 386) hx hb dL_changes_375 (by decide) ?_
      exact h386 G374 kc ks ba0 bx4 z0 _ _ hG _ (lv_sub hl [1, 3, 0] rfl) h
  have h268 : ∀ n268 : Nat, ∀ (G : gH) (kc ks : Nat) (ba0 : Nat) (ba1 : Nat) (ba4 : Nat) (bx5 : Int32) (ba6 : Option Nat) (bx7 : Int32) (H : Heap) (locs : List Loc), g_S lo dd cT s H locs G → ∀ ls : Array Slot, lv_has ls 8 [(0, .ref ba0), (1, .ref ba1), (4, .ref ba4), (5, .int bx5), (6, va_rf ba6), (7, .int bx7)] → w_L_changes_L268 MC MS K n268 G kc ks ba0 ba1 ba4 bx5 ba6 bx7 → W p l e (g_rm 8 158 MC MS) s m ([.ref a0, .ref a1, .ref a2] : List Value).toArray below meth c H locs kc ks (MQ below (va_Qi K (g_Pre lo dd cT) (g_A lo)) ([.ref a0, .ref a1, .ref a2] : List Value).toArray s MC MS (g_A lo)) (F0 m 268 ls []) := by
    intro n268
    induction n268 with
    | zero =>
      intro G kc ks ba0 ba1 ba4 bx5 ba6 bx7 H locs hG ls hl h
      exact (show False from h).elim
    | succ n268 ih268 =>
      intro G kc ks ba0 ba1 ba4 bx5 ba6 bx7 H locs hG ls hl h
      rw [w_L_changes_L268] at h
      rcases ba6 with _ | ba6r
      · replace h := h.1 rfl
        refine lv_iload hx hb dL_changes_268 (lv_at hl 5 rfl) ?_
        refine lv_iload hx hb dL_changes_270 (lv_at hl 3 rfl) ?_
        refine lv_icmp_ge (tgt := 299) hx hb dL_changes_272 (by decide) (fun c272 => ?_) (fun c272 => ?_)
        · rw [if_pos c272] at h
          refine lv_aload_n hx hb dL_changes_299 rfl (lv_at hl 1 rfl) ?_
          obtain ⟨C300, R300, d300, g300, h⟩ := h
          obtain ⟨u300, o300, h⟩ := h
          obtain ⟨y300, h⟩ := h
          obtain ⟨q300, e300, h⟩ := h
          rw [g300] at hG
          refine g_wVv (As := []) (rest := []) (n := 0) hx hb hml hown hts hK hlo hG (g_frV d300 (fun lo => m_X10_close l dd cT lo C300 ba1 e300) lo) qM_L_310 qI_yX10_close qS_X10_yX10_close qN_X10 qC_yX10_close (by decide +kernel) ⟨Nat.le_of_ble_eq_true rfl, Nat.le_of_ble_eq_true rfl⟩ (by rfl) (g_ob_gj o300) rfl hl.1 rfl (Nat.le_of_ble_eq_true rfl) dL_changes_300 y300 (fun Gx H locs hKx hG => ?_)
          obtain ⟨D300, k300, f300, l300⟩ := hKx
          rw [l300, k300] at hG
          rw [k300] at f300
          obtain ⟨G300, i300⟩ : ∃ g : gH, g = gj q300 R300 := ⟨_, rfl⟩
          rw [← i300] at hG
          replace h := h G300 f300 i300
          refine lv_aload_n hx hb dL_changes_303 rfl (lv_at hl 0 rfl) ?_
          obtain ⟨C304, R304, d304, g304, h⟩ := h
          obtain ⟨u304, o304, h⟩ := h
          obtain ⟨y304, h⟩ := h
          rw [g304] at hG
          refine g_wVi (As := []) (rest := []) (n := 0) hx hb hml hown hts hK hlo hG (g_frI d304 (fun lo => g_noX (m_X9_recover l hfl dd cT lo C304 ba0 h)) lo) qM_L_325 qI_yX9_recover qS_X9_yX9_recover qN_X9 qC_yX9_recover (by decide +kernel) ⟨Nat.le_of_ble_eq_true rfl, Nat.le_of_ble_eq_true rfl⟩ (by rfl) (g_ob_gj o304) rfl hl.1 rfl (Nat.le_of_ble_eq_true rfl) dL_changes_304 y304 (fun v304x Gx H locs hKx hG => ?_)
          obtain ⟨D304, h, f304, rfl⟩ := hKx
          obtain ⟨G304, i304⟩ : ∃ g : gH, g = gj D304 R304 := ⟨_, rfl⟩
          rw [← i304] at hG
          replace h := h G304 f304 i304
          revert h
          generalize v304x = v304
          intro h
          refine lv_iload hx hb dL_changes_307 (lv_at hl 3 rfl) ?_
          refine lv_icmp_ne (tgt := 316) hx hb dL_changes_309 (by decide) (fun c309 => ?_) (fun c309 => ?_)
          · rw [if_neg c309] at h
            refine lv_iconst (v := (0 : Int32)) hx hb dL_changes_316 (by decide) ?_
            obtain ⟨y1, y2, h⟩ := h
            refine W.widen (k := MC) (n := MS) y1 y2 ?_
            exact g_zret hx hb hr hlocks hK hlo hG rfl h dL_changes_317
          · rw [if_pos c309] at h
            refine lv_iconst (v := (1 : Int32)) hx hb dL_changes_312 (by decide) ?_
            refine lv_goto (tgt := 317) hx hb dL_changes_313 (by decide) ?_
            obtain ⟨y1, y2, h⟩ := h
            refine W.widen (k := MC) (n := MS) y1 y2 ?_
            exact g_zret hx hb hr hlocks hK hlo hG rfl h dL_changes_317
        · rw [if_neg c272] at h
          refine lv_aloadN hx hb dL_changes_275 (lv_at hl 4 rfl) ?_
          refine lv_aload hx hb dL_changes_277 (lv_at hl 2 rfl) ?_
          refine lv_iload hx hb dL_changes_279 (lv_at hl 5 rfl) ?_
          obtain ⟨v281, e281, h⟩ := h
          refine g_rald_row hx hb hK hG (t := 6) rfl e281 dL_changes_281 ?_
          rcases v281 with _ | r281
          · replace h := h.1 rfl
            exact (show False from h).elim
          · replace h := h.2 r281 rfl
            obtain ⟨v282, e282, h⟩ := h
            refine g_getiN hx hb hts inlX13 hown hK hG (by rfl) 0 (by decide) (List.mem_of_getElem? (i := 28) rfl) e282 dL_changes_282 ?_
            refine lv_aload hx hb dL_changes_285 (lv_at hl 2 rfl) ?_
            refine lv_iload hx hb dL_changes_287 (lv_at hl 5 rfl) ?_
            obtain ⟨v289, e289, h⟩ := h
            refine g_rald_row hx hb hK hG (t := 6) rfl e289 dL_changes_289 ?_
            rcases v289 with _ | r289
            · replace h := h.1 rfl
              exact (show False from h).elim
            · replace h := h.2 r289 rfl
              exact (show False from h).elim
      · replace h := h.2 ba6r rfl
        refine lv_iload hx hb dL_changes_268 (lv_at hl 5 rfl) ?_
        refine lv_iload hx hb dL_changes_270 (lv_at hl 3 rfl) ?_
        refine lv_icmp_ge (tgt := 299) hx hb dL_changes_272 (by decide) (fun c272 => ?_) (fun c272 => ?_)
        · rw [if_pos c272] at h
          refine lv_aload_n hx hb dL_changes_299 rfl (lv_at hl 1 rfl) ?_
          obtain ⟨C300, R300, d300, g300, h⟩ := h
          obtain ⟨u300, o300, h⟩ := h
          obtain ⟨y300, h⟩ := h
          obtain ⟨q300, e300, h⟩ := h
          rw [g300] at hG
          refine g_wVv (As := []) (rest := []) (n := 0) hx hb hml hown hts hK hlo hG (g_frV d300 (fun lo => m_X10_close l dd cT lo C300 ba1 e300) lo) qM_L_310 qI_yX10_close qS_X10_yX10_close qN_X10 qC_yX10_close (by decide +kernel) ⟨Nat.le_of_ble_eq_true rfl, Nat.le_of_ble_eq_true rfl⟩ (by rfl) (g_ob_gj o300) rfl hl.1 rfl (Nat.le_of_ble_eq_true rfl) dL_changes_300 y300 (fun Gx H locs hKx hG => ?_)
          obtain ⟨D300, k300, f300, l300⟩ := hKx
          rw [l300, k300] at hG
          rw [k300] at f300
          obtain ⟨G300, i300⟩ : ∃ g : gH, g = gj q300 R300 := ⟨_, rfl⟩
          rw [← i300] at hG
          replace h := h G300 f300 i300
          refine lv_aload_n hx hb dL_changes_303 rfl (lv_at hl 0 rfl) ?_
          obtain ⟨C304, R304, d304, g304, h⟩ := h
          obtain ⟨u304, o304, h⟩ := h
          obtain ⟨y304, h⟩ := h
          rw [g304] at hG
          refine g_wVi (As := []) (rest := []) (n := 0) hx hb hml hown hts hK hlo hG (g_frI d304 (fun lo => g_noX (m_X9_recover l hfl dd cT lo C304 ba0 h)) lo) qM_L_325 qI_yX9_recover qS_X9_yX9_recover qN_X9 qC_yX9_recover (by decide +kernel) ⟨Nat.le_of_ble_eq_true rfl, Nat.le_of_ble_eq_true rfl⟩ (by rfl) (g_ob_gj o304) rfl hl.1 rfl (Nat.le_of_ble_eq_true rfl) dL_changes_304 y304 (fun v304x Gx H locs hKx hG => ?_)
          obtain ⟨D304, h, f304, rfl⟩ := hKx
          obtain ⟨G304, i304⟩ : ∃ g : gH, g = gj D304 R304 := ⟨_, rfl⟩
          rw [← i304] at hG
          replace h := h G304 f304 i304
          revert h
          generalize v304x = v304
          intro h
          refine lv_iload hx hb dL_changes_307 (lv_at hl 3 rfl) ?_
          refine lv_icmp_ne (tgt := 316) hx hb dL_changes_309 (by decide) (fun c309 => ?_) (fun c309 => ?_)
          · rw [if_neg c309] at h
            refine lv_iconst (v := (0 : Int32)) hx hb dL_changes_316 (by decide) ?_
            obtain ⟨y1, y2, h⟩ := h
            refine W.widen (k := MC) (n := MS) y1 y2 ?_
            exact g_zret hx hb hr hlocks hK hlo hG rfl h dL_changes_317
          · rw [if_pos c309] at h
            refine lv_iconst (v := (1 : Int32)) hx hb dL_changes_312 (by decide) ?_
            refine lv_goto (tgt := 317) hx hb dL_changes_313 (by decide) ?_
            obtain ⟨y1, y2, h⟩ := h
            refine W.widen (k := MC) (n := MS) y1 y2 ?_
            exact g_zret hx hb hr hlocks hK hlo hG rfl h dL_changes_317
        · rw [if_neg c272] at h
          refine lv_aload hx hb dL_changes_275 (lv_at hl 4 rfl) ?_
          refine lv_aload hx hb dL_changes_277 (lv_at hl 2 rfl) ?_
          refine lv_iload hx hb dL_changes_279 (lv_at hl 5 rfl) ?_
          obtain ⟨v281, e281, h⟩ := h
          refine g_rald_row hx hb hK hG (t := 6) rfl e281 dL_changes_281 ?_
          rcases v281 with _ | r281
          · replace h := h.1 rfl
            exact (show False from h).elim
          · replace h := h.2 r281 rfl
            obtain ⟨v282, e282, h⟩ := h
            refine g_getiN hx hb hts inlX13 hown hK hG (by rfl) 0 (by decide) (List.mem_of_getElem? (i := 28) rfl) e282 dL_changes_282 ?_
            refine lv_aload hx hb dL_changes_285 (lv_at hl 2 rfl) ?_
            refine lv_iload hx hb dL_changes_287 (lv_at hl 5 rfl) ?_
            obtain ⟨v289, e289, h⟩ := h
            refine g_rald_row hx hb hK hG (t := 6) rfl e289 dL_changes_289 ?_
            rcases v289 with _ | r289
            · replace h := h.1 rfl
              obtain ⟨C290, R290, d290, g290, h⟩ := h
              obtain ⟨u290, o290, h⟩ := h
              obtain ⟨y290, h⟩ := h
              obtain ⟨q290, e290, h⟩ := h
              rw [g290] at hG
              refine g_wVv (As := [.int v282, .null]) (rest := []) (n := 2) hx hb hml hown hts hK hlo hG (g_frV d290 (fun lo => m_X12_enter_n l dd cT lo C290 ba6r v282 e290) lo) qM_L_321 qI_yX12_enter qS_X12_yX12_enter qN_X12 qC_yX12_enter (by decide +kernel) ⟨Nat.le_of_ble_eq_true rfl, Nat.le_of_ble_eq_true rfl⟩ (by rfl) (g_ob_gj o290) rfl hl.1 rfl (Nat.le_of_ble_eq_true rfl) dL_changes_290 y290 (fun Gx H locs hKx hG => ?_)
              obtain ⟨D290, k290, f290, l290⟩ := hKx
              rw [l290, k290] at hG
              rw [k290] at f290
              obtain ⟨G290, i290⟩ : ∃ g : gH, g = gj q290 R290 := ⟨_, rfl⟩
              rw [← i290] at hG
              replace h := h G290 f290 i290
              refine lv_iinc (v := (bx7 + (1 : Int32))) (lv' := [(7, .int (bx7 + (1 : Int32))), (0, .ref ba0), (1, .ref ba1), (4, .ref ba4), (5, .int bx5), (6, .ref ba6r)]) hx hb dL_changes_293 hl (k := 5) rfl rfl (by decide) rfl (fun ls hl => ?_)
              refine lv_goto (tgt := 268) hx hb dL_changes_296 (by decide) ?_
              exact ih268 G290 kc ks ba0 ba1 ba4 bx5 (some ba6r) (bx7 + (1 : Int32)) _ _ hG _ (lv_sub hl [1, 2, 3, 4, 5, 0] rfl) h
            · replace h := h.2 r289 rfl
              obtain ⟨C290, R290, d290, g290, h⟩ := h
              obtain ⟨u290, o290, h⟩ := h
              obtain ⟨y290, h⟩ := h
              obtain ⟨q290, e290, h⟩ := h
              rw [g290] at hG
              refine g_wVv (As := [.int v282, .ref r289]) (rest := []) (n := 2) hx hb hml hown hts hK hlo hG (g_frV d290 (fun lo => m_X12_enter_r l dd cT lo C290 ba6r v282 r289 e290) lo) qM_L_321 qI_yX12_enter qS_X12_yX12_enter qN_X12 qC_yX12_enter (by decide +kernel) ⟨Nat.le_of_ble_eq_true rfl, Nat.le_of_ble_eq_true rfl⟩ (by rfl) (g_ob_gj o290) rfl hl.1 rfl (Nat.le_of_ble_eq_true rfl) dL_changes_290 y290 (fun Gx H locs hKx hG => ?_)
              obtain ⟨D290, k290, f290, l290⟩ := hKx
              rw [l290, k290] at hG
              rw [k290] at f290
              obtain ⟨G290, i290⟩ : ∃ g : gH, g = gj q290 R290 := ⟨_, rfl⟩
              rw [← i290] at hG
              replace h := h G290 f290 i290
              refine lv_iinc (v := (bx7 + (1 : Int32))) (lv' := [(7, .int (bx7 + (1 : Int32))), (0, .ref ba0), (1, .ref ba1), (4, .ref ba4), (5, .int bx5), (6, .ref ba6r)]) hx hb dL_changes_293 hl (k := 5) rfl rfl (by decide) rfl (fun ls hl => ?_)
              refine lv_goto (tgt := 268) hx hb dL_changes_296 (by decide) ?_
              exact ih268 G290 kc ks ba0 ba1 ba4 bx5 (some ba6r) (bx7 + (1 : Int32)) _ _ hG _ (lv_sub hl [1, 2, 3, 4, 5, 0] rfl) h
  have h162 : ∀ n162 : Nat, ∀ (G : gH) (kc ks : Nat) (ba0 : Nat) (ba1 : Nat) (bx5 : Int32) (bx6 : Int32) (H : Heap) (locs : List Loc), g_S lo dd cT s H locs G → ∀ ls : Array Slot, lv_has ls 8 [(0, .ref ba0), (1, .ref ba1), (5, .int bx5), (6, .int bx6)] → w_L_changes_L162 MC MS K n162 G kc ks ba0 ba1 bx5 bx6 → W p l e (g_rm 8 158 MC MS) s m ([.ref a0, .ref a1, .ref a2] : List Value).toArray below meth c H locs kc ks (MQ below (va_Qi K (g_Pre lo dd cT) (g_A lo)) ([.ref a0, .ref a1, .ref a2] : List Value).toArray s MC MS (g_A lo)) (F0 m 162 ls []) := by
    intro n162
    induction n162 with
    | zero =>
      intro G kc ks ba0 ba1 bx5 bx6 H locs hG ls hl h
      exact (show False from h).elim
    | succ n162 ih162 =>
      intro G kc ks ba0 ba1 bx5 bx6 H locs hG ls hl h
      rw [w_L_changes_L162] at h
      refine lv_iload hx hb dL_changes_162 (lv_at hl 3 rfl) ?_
      refine lv_aload_n hx hb dL_changes_164 rfl (lv_at hl 1 rfl) ?_
      obtain ⟨C165, R165, d165, g165, h⟩ := h
      obtain ⟨u165, o165, h⟩ := h
      obtain ⟨y165, h⟩ := h
      obtain ⟨v165, e165, h⟩ := h
      rw [g165] at hG
      refine g_wVi (As := []) (rest := [.int bx6]) (n := 0) hx hb hml hown hts hK hlo hG (g_frI d165 (fun lo => m_X10_main l dd cT lo C165 ba1 e165) lo) qM_L_121 qI_yX10_main qS_X10_yX10_main qN_X10 qC_yX10_main (by decide +kernel) ⟨Nat.le_of_ble_eq_true rfl, Nat.le_of_ble_eq_true rfl⟩ (by rfl) (g_ob_gj o165) rfl hl.1 rfl (Nat.le_of_ble_eq_true rfl) dL_changes_165 y165 (fun v165x Gx H locs hKx hG => ?_)
      obtain ⟨D165, ⟨k165a, k165⟩, f165, l165⟩ := hKx
      rw [l165, k165] at hG
      rw [k165] at f165
      rw [k165a]
      rw [← g165] at hG
      refine lv_icmp_ge (tgt := 203) hx hb dL_changes_168 (by decide) (fun c168 => ?_) (fun c168 => ?_)
      · rw [if_pos c168] at h
        refine lv_aload_n hx hb dL_changes_203 rfl (lv_at hl 0 rfl) ?_
        obtain ⟨C204, R204, d204, g204, h⟩ := h
        obtain ⟨u204, o204, h⟩ := h
        obtain ⟨y204, h⟩ := h
        rw [g204] at hG
        refine g_wVi (As := []) (rest := []) (n := 0) hx hb hml hown hts hK hlo hG (g_frI d204 (fun lo => g_noX (m_X9_crash l hfl dd cT lo C204 ba0 h)) lo) qM_L_315 qI_yX9_crash qS_X9_yX9_crash qN_X9 qC_yX9_crash (by decide +kernel) ⟨Nat.le_of_ble_eq_true rfl, Nat.le_of_ble_eq_true rfl⟩ (by rfl) (g_ob_gj o204) rfl hl.1 rfl (Nat.le_of_ble_eq_true rfl) dL_changes_204 y204 (fun v204x Gx H locs hKx hG => ?_)
        obtain ⟨D204, h, f204, rfl⟩ := hKx
        obtain ⟨G204, i204⟩ : ∃ g : gH, g = gj D204 R204 := ⟨_, rfl⟩
        rw [← i204] at hG
        replace h := h G204 f204 i204
        revert h
        generalize v204x = v204
        intro h
        refine lv_iload hx hb dL_changes_207 (lv_at hl 2 rfl) ?_
        refine lv_icmp_ne (tgt := 216) hx hb dL_changes_209 (by decide) (fun c209 => ?_) (fun c209 => ?_)
        · rw [if_neg c209] at h
          refine lv_iconst (v := (0 : Int32)) hx hb dL_changes_216 (by decide) ?_
          obtain ⟨y1, y2, h⟩ := h
          refine W.widen (k := MC) (n := MS) y1 y2 ?_
          exact g_zret hx hb hr hlocks hK hlo hG rfl h dL_changes_217
        · rw [if_pos c209] at h
          refine lv_iconst (v := (1 : Int32)) hx hb dL_changes_212 (by decide) ?_
          refine lv_goto (tgt := 217) hx hb dL_changes_213 (by decide) ?_
          obtain ⟨y1, y2, h⟩ := h
          refine W.widen (k := MC) (n := MS) y1 y2 ?_
          exact g_zret hx hb hr hlocks hK hlo hG rfl h dL_changes_217
      · rw [if_neg c168] at h
        refine lv_iload hx hb dL_changes_171 (lv_at hl 2 rfl) ?_
        refine lv_aload_n hx hb dL_changes_173 rfl (lv_at hl 1 rfl) ?_
        obtain ⟨v174, e174, h⟩ := h
        refine g_getrN hx hb hts inlX10 hown hK hG (by rfl) 8 (by decide) (List.mem_of_getElem? (i := 6) rfl) e174 dL_changes_174 ?_
        refine lv_iload hx hb dL_changes_177 (lv_at hl 3 rfl) ?_
        obtain ⟨v179, e179, h⟩ := h
        refine g_iald hx hb hK hG e179 dL_changes_179 ?_
        refine lv_aload_n hx hb dL_changes_180 rfl (lv_at hl 1 rfl) ?_
        obtain ⟨v181, e181, h⟩ := h
        refine g_getiN hx hb hts inlX10 hown hK hG (by rfl) 4 (by decide) (List.mem_of_getElem? (i := 14) rfl) e181 dL_changes_181 ?_
        refine lv_iconst (v := (1 : Int32)) hx hb dL_changes_184 (by decide) ?_
        refine lv_isub hx hb dL_changes_185 ?_
        refine lv_icmp_ne (tgt := 193) hx hb dL_changes_186 (by decide) (fun c186 => ?_) (fun c186 => ?_)
        · rw [if_neg c186] at h
          refine lv_iconst (v := (0 : Int32)) hx hb dL_changes_193 (by decide) ?_
          refine lv_iadd hx hb dL_changes_194 ?_
          refine lv_istore (lv' := [(5, .int (bx5 + (0 : Int32))), (0, .ref ba0), (1, .ref ba1), (6, .int bx6)]) hx hb dL_changes_195 hl (by decide) rfl (fun ls hl => ?_)
          refine lv_iinc (v := (bx6 + (1 : Int32))) (lv' := [(6, .int (bx6 + (1 : Int32))), (5, .int (bx5 + (0 : Int32))), (0, .ref ba0), (1, .ref ba1)]) hx hb dL_changes_197 hl (k := 3) rfl rfl (by decide) rfl (fun ls hl => ?_)
          refine lv_goto (tgt := 162) hx hb dL_changes_200 (by decide) ?_
          exact ih162 G kc ks ba0 ba1 (bx5 + (0 : Int32)) (bx6 + (1 : Int32)) _ _ hG _ (lv_sub hl [2, 3, 1, 0] rfl) h
        · rw [if_pos c186] at h
          refine lv_iconst (v := (1 : Int32)) hx hb dL_changes_189 (by decide) ?_
          refine lv_goto (tgt := 194) hx hb dL_changes_190 (by decide) ?_
          refine lv_iadd hx hb dL_changes_194 ?_
          refine lv_istore (lv' := [(5, .int (bx5 + (1 : Int32))), (0, .ref ba0), (1, .ref ba1), (6, .int bx6)]) hx hb dL_changes_195 hl (by decide) rfl (fun ls hl => ?_)
          refine lv_iinc (v := (bx6 + (1 : Int32))) (lv' := [(6, .int (bx6 + (1 : Int32))), (5, .int (bx5 + (1 : Int32))), (0, .ref ba0), (1, .ref ba1)]) hx hb dL_changes_197 hl (k := 3) rfl rfl (by decide) rfl (fun ls hl => ?_)
          refine lv_goto (tgt := 162) hx hb dL_changes_200 (by decide) ?_
          exact ih162 G kc ks ba0 ba1 (bx5 + (1 : Int32)) (bx6 + (1 : Int32)) _ _ hG _ (lv_sub hl [2, 3, 1, 0] rfl) h
  have h91 : ∀ (G : gH) (kc ks : Nat) (ba0 : Nat) (ba1 : Nat) (H : Heap) (locs : List Loc), g_S lo dd cT s H locs G → ∀ ls : Array Slot, lv_has ls 8 [(0, .ref ba0), (1, .ref ba1)] → w_L_changes_J91 MC MS K G kc ks ba0 ba1 → W p l e (g_rm 8 158 MC MS) s m ([.ref a0, .ref a1, .ref a2] : List Value).toArray below meth c H locs kc ks (MQ below (va_Qi K (g_Pre lo dd cT) (g_A lo)) ([.ref a0, .ref a1, .ref a2] : List Value).toArray s MC MS (g_A lo)) (F0 m 91 ls []) := by
    intro G kc ks ba0 ba1 H locs hG ls hl h
    unfold w_L_changes_J91 at h
    refine lv_aload_n hx hb dL_changes_91 rfl (lv_at hl 1 rfl) ?_
    obtain ⟨C92, R92, d92, g92, h⟩ := h
    obtain ⟨u92, o92, h⟩ := h
    obtain ⟨y92, h⟩ := h
    obtain ⟨v92, e92, h⟩ := h
    rw [g92] at hG
    refine g_wVi (As := []) (rest := []) (n := 0) hx hb hml hown hts hK hlo hG (g_frI d92 (fun lo => m_X10_whyClose l dd cT lo C92 ba1 e92) lo) qM_L_289 qI_yX10_whyClose qS_X10_yX10_whyClose qN_X10 qC_yX10_whyClose (by decide +kernel) ⟨Nat.le_of_ble_eq_true rfl, Nat.le_of_ble_eq_true rfl⟩ (by rfl) (g_ob_gj o92) rfl hl.1 rfl (Nat.le_of_ble_eq_true rfl) dL_changes_92 y92 (fun v92x Gx H locs hKx hG => ?_)
    obtain ⟨D92, ⟨k92a, k92⟩, f92, l92⟩ := hKx
    rw [l92, k92] at hG
    rw [k92] at f92
    rw [k92a]
    rw [← g92] at hG
    refine lv_if_le (tgt := 100) hx hb dL_changes_95 (by decide) (fun c95 => ?_) (fun c95 => ?_)
    · rw [if_pos c95] at h
      refine lv_aload_n hx hb dL_changes_100 rfl (lv_at hl 1 rfl) ?_
      obtain ⟨C101, R101, d101, g101, h⟩ := h
      obtain ⟨u101, o101, h⟩ := h
      obtain ⟨y101, h⟩ := h
      obtain ⟨q101, e101, h⟩ := h
      rw [g101] at hG
      refine g_wVv (As := []) (rest := []) (n := 0) hx hb hml hown hts hK hlo hG (g_frV d101 (fun lo => m_X10_close l dd cT lo C101 ba1 e101) lo) qM_L_310 qI_yX10_close qS_X10_yX10_close qN_X10 qC_yX10_close (by decide +kernel) ⟨Nat.le_of_ble_eq_true rfl, Nat.le_of_ble_eq_true rfl⟩ (by rfl) (g_ob_gj o101) rfl hl.1 rfl (Nat.le_of_ble_eq_true rfl) dL_changes_101 y101 (fun Gx H locs hKx hG => ?_)
      obtain ⟨D101, k101, f101, l101⟩ := hKx
      rw [l101, k101] at hG
      rw [k101] at f101
      obtain ⟨G101, i101⟩ : ∃ g : gH, g = gj q101 R101 := ⟨_, rfl⟩
      rw [← i101] at hG
      replace h := h G101 f101 i101
      refine lv_aload_n hx hb dL_changes_104 rfl (lv_at hl 0 rfl) ?_
      obtain ⟨C105, R105, d105, g105, h⟩ := h
      obtain ⟨u105, o105, h⟩ := h
      obtain ⟨y105, h⟩ := h
      rw [g105] at hG
      refine g_wVi (As := []) (rest := []) (n := 0) hx hb hml hown hts hK hlo hG (g_frI d105 (fun lo => g_noX (m_X9_close l hfl dd cT lo C105 ba0 h)) lo) qM_L_313 qI_yX9_close qS_X9_yX9_close qN_X9 qC_yX9_close (by decide +kernel) ⟨Nat.le_of_ble_eq_true rfl, Nat.le_of_ble_eq_true rfl⟩ (by rfl) (g_ob_gj o105) rfl hl.1 rfl (Nat.le_of_ble_eq_true rfl) dL_changes_105 y105 (fun v105x Gx H locs hKx hG => ?_)
      obtain ⟨D105, h, f105, rfl⟩ := hKx
      obtain ⟨G105, i105⟩ : ∃ g : gH, g = gj D105 R105 := ⟨_, rfl⟩
      rw [← i105] at hG
      replace h := h G105 f105 i105
      revert h
      generalize v105x = v105
      intro h
      refine lv_aload_n hx hb dL_changes_108 rfl (lv_at hl 1 rfl) ?_
      obtain ⟨v109, e109, h⟩ := h
      refine g_getiN hx hb hts inlX10 hown hK hG (by rfl) 4 (by decide) (List.mem_of_getElem? (i := 14) rfl) e109 dL_changes_109 ?_
      refine lv_iconst (v := (1 : Int32)) hx hb dL_changes_112 (by decide) ?_
      refine lv_isub hx hb dL_changes_113 ?_
      refine lv_icmp_ne (tgt := 121) hx hb dL_changes_114 (by decide) (fun c114 => ?_) (fun c114 => ?_)
      · rw [if_neg c114] at h
        refine lv_iconst (v := (0 : Int32)) hx hb dL_changes_121 (by decide) ?_
        obtain ⟨y1, y2, h⟩ := h
        refine W.widen (k := MC) (n := MS) y1 y2 ?_
        exact g_zret hx hb hr hlocks hK hlo hG rfl h dL_changes_122
      · rw [if_pos c114] at h
        refine lv_iconst (v := (1 : Int32)) hx hb dL_changes_117 (by decide) ?_
        refine lv_goto (tgt := 122) hx hb dL_changes_118 (by decide) ?_
        obtain ⟨y1, y2, h⟩ := h
        refine W.widen (k := MC) (n := MS) y1 y2 ?_
        exact g_zret hx hb hr hlocks hK hlo hG rfl h dL_changes_122
    · rw [if_neg c95] at h
      refine lv_iconst (v := (1 : Int32)) hx hb dL_changes_98 (by decide) ?_
      obtain ⟨y1, y2, h⟩ := h
      refine W.widen (k := MC) (n := MS) y1 y2 ?_
      exact g_zret hx hb hr hlocks hK hlo hG rfl h dL_changes_99
  unfold w_L_changes at h
  refine lv_aload_n hx hb dL_changes_0 rfl (lv_at hl 2 rfl) ?_
  refine lv_aload_n hx hb dL_changes_1 rfl (lv_at hl 1 rfl) ?_
  obtain ⟨v2, e2, h⟩ := h
  refine g_getiN hx hb hts inlX10 hown hK hG (by rfl) 2 (by decide) (List.mem_of_getElem? (i := 2) rfl) e2 dL_changes_2 ?_
  obtain ⟨C5, R5, d5, g5, h⟩ := h
  obtain ⟨y5, h⟩ := h
  obtain ⟨q5, e5, h⟩ := h
  rw [g5] at hG
  refine g_wSi (As := [.ref a2, .int v2]) (rest := []) (n := 2) hx hb hml hown hts hK hlo hG (g_frI d5 (fun lo => m_L_draw l dd cT lo C5 a2 v2 e5) lo) qM_L_35 qT_yL_draw qN_L qC_yL_draw (by decide +kernel) ⟨Nat.le_of_ble_eq_true rfl, Nat.le_of_ble_eq_true rfl⟩ rfl hl.1 rfl (Nat.le_of_ble_eq_true rfl) dL_changes_5 y5 (fun v5x Gx H locs hKx hG => ?_)
  obtain ⟨D5, ⟨k5a, k5⟩, f5, l5⟩ := hKx
  rw [l5, k5] at hG
  rw [k5] at f5
  rw [k5a]
  obtain ⟨G5, i5⟩ : ∃ g : gH, g = gj q5.1 R5 := ⟨_, rfl⟩
  rw [← i5] at hG
  replace h := h G5 f5 i5
  refine lv_istore_n (lv' := [(3, .int q5.2), (0, .ref a0), (1, .ref a1), (2, .ref a2)]) hx hb dL_changes_8 rfl hl (by decide) rfl (fun ls hl => ?_)
  refine lv_aload_n hx hb dL_changes_9 rfl (lv_at hl 3 rfl) ?_
  refine lv_bipush (v := (10 : Int32)) hx hb dL_changes_10 (by decide) ?_
  obtain ⟨C12, R12, d12, g12, h⟩ := h
  obtain ⟨y12, h⟩ := h
  obtain ⟨q12, e12, h⟩ := h
  rw [g12] at hG
  refine g_wSi (As := [.ref a2, .int (10 : Int32)]) (rest := []) (n := 2) hx hb hml hown hts hK hlo hG (g_frI d12 (fun lo => m_L_draw l dd cT lo C12 a2 (10 : Int32) e12) lo) qM_L_35 qT_yL_draw qN_L qC_yL_draw (by decide +kernel) ⟨Nat.le_of_ble_eq_true rfl, Nat.le_of_ble_eq_true rfl⟩ rfl hl.1 rfl (Nat.le_of_ble_eq_true rfl) dL_changes_12 y12 (fun v12x Gx H locs hKx hG => ?_)
  obtain ⟨D12, ⟨k12a, k12⟩, f12, l12⟩ := hKx
  rw [l12, k12] at hG
  rw [k12] at f12
  rw [k12a]
  obtain ⟨G12, i12⟩ : ∃ g : gH, g = gj q12.1 R12 := ⟨_, rfl⟩
  rw [← i12] at hG
  replace h := h G12 f12 i12
  by_cases c15_0 : q12.2 = (0 : Int32)
  · rw [if_pos c15_0] at h
    refine g_swIn (tgt := 56) hx hb dL_changes_15 (0 : Int32) c15_0 (by decide) (by decide) 41 (by decide) (by decide) ?_
    refine lv_aload_n hx hb dL_changes_56 rfl (lv_at hl 2 rfl) ?_
    refine lv_iload_n hx hb dL_changes_57 rfl (lv_at hl 0 rfl) ?_
    obtain ⟨C58, R58, d58, g58, h⟩ := h
    obtain ⟨u58, o58, h⟩ := h
    obtain ⟨y58, h⟩ := h
    obtain ⟨v58, e58, h⟩ := h
    rw [g58] at hG
    refine g_wVi (As := [.int q5.2]) (rest := []) (n := 1) hx hb hml hown hts hK hlo hG (g_frI d58 (fun lo => m_X10_whyErase l dd cT lo C58 a1 q5.2 e58) lo) qM_L_301 qI_yX10_whyErase qS_X10_yX10_whyErase qN_X10 qC_yX10_whyErase (by decide +kernel) ⟨Nat.le_of_ble_eq_true rfl, Nat.le_of_ble_eq_true rfl⟩ (by rfl) (g_ob_gj o58) rfl hl.1 rfl (Nat.le_of_ble_eq_true rfl) dL_changes_58 y58 (fun v58x Gx H locs hKx hG => ?_)
    obtain ⟨D58, ⟨k58a, k58⟩, f58, l58⟩ := hKx
    rw [l58, k58] at hG
    rw [k58] at f58
    rw [k58a]
    rw [← g58] at hG
    refine lv_if_le (tgt := 66) hx hb dL_changes_61 (by decide) (fun c61 => ?_) (fun c61 => ?_)
    · rw [if_pos c61] at h
      refine lv_aload_n hx hb dL_changes_66 rfl (lv_at hl 2 rfl) ?_
      refine lv_iload_n hx hb dL_changes_67 rfl (lv_at hl 0 rfl) ?_
      obtain ⟨C68, R68, d68, g68, h⟩ := h
      obtain ⟨u68, o68, h⟩ := h
      obtain ⟨y68, h⟩ := h
      rw [g68] at hG
      refine g_wVv (As := [.int q5.2]) (rest := []) (n := 1) hx hb hml hown hts hK hlo hG (g_frV d68 (fun lo => m_X10_erase 4 32 l hfl dd cT lo C68 a1 q5.2 h) lo) qM_L_304 qI_yX10_erase qS_X10_yX10_erase qN_X10 qC_yX10_erase (by decide +kernel) ⟨Nat.le_of_ble_eq_true rfl, Nat.le_of_ble_eq_true rfl⟩ (by rfl) (g_ob_gj o68) rfl hl.1 rfl (Nat.le_of_ble_eq_true rfl) dL_changes_68 y68 (fun Gx H locs hKx hG => ?_)
      obtain ⟨D68, h, f68, rfl⟩ := hKx
      obtain ⟨G68, i68⟩ : ∃ g : gH, g = gj D68 R68 := ⟨_, rfl⟩
      rw [← i68] at hG
      replace h := h G68 f68 i68
      refine lv_aload_n hx hb dL_changes_71 rfl (lv_at hl 1 rfl) ?_
      refine lv_iload_n hx hb dL_changes_72 rfl (lv_at hl 0 rfl) ?_
      obtain ⟨C73, R73, d73, g73, h⟩ := h
      obtain ⟨u73, o73, h⟩ := h
      obtain ⟨y73, h⟩ := h
      rw [g73] at hG
      refine g_wVi (As := [.int q5.2]) (rest := []) (n := 1) hx hb hml hown hts hK hlo hG (g_frI d73 (fun lo => g_noX (m_X9_erase l hfl dd cT lo C73 a0 q5.2 h)) lo) qM_L_308 qI_yX9_erase qS_X9_yX9_erase qN_X9 qC_yX9_erase (by decide +kernel) ⟨Nat.le_of_ble_eq_true rfl, Nat.le_of_ble_eq_true rfl⟩ (by rfl) (g_ob_gj o73) rfl hl.1 rfl (Nat.le_of_ble_eq_true rfl) dL_changes_73 y73 (fun v73x Gx H locs hKx hG => ?_)
      obtain ⟨D73, h, f73, rfl⟩ := hKx
      obtain ⟨G73, i73⟩ : ∃ g : gH, g = gj D73 R73 := ⟨_, rfl⟩
      rw [← i73] at hG
      replace h := h G73 f73 i73
      revert h
      generalize v73x = v73
      intro h
      refine lv_aload_n hx hb dL_changes_76 rfl (lv_at hl 2 rfl) ?_
      refine lv_bipush (v := (12 : Int32)) hx hb dL_changes_77 (by decide) ?_
      obtain ⟨C79, R79, d79, g79, h⟩ := h
      obtain ⟨u79, o79, h⟩ := h
      obtain ⟨y79, h⟩ := h
      obtain ⟨v79, e79, h⟩ := h
      rw [g79] at hG
      refine g_wVi (As := [.int (12 : Int32)]) (rest := [.int v73]) (n := 1) hx hb hml hown hts hK hlo hG (g_frI d79 (fun lo => m_X10_there l dd cT lo C79 a1 (12 : Int32) e79) lo) qM_L_178 qI_yX10_there qS_X10_yX10_there qN_X10 qC_yX10_there (by decide +kernel) ⟨Nat.le_of_ble_eq_true rfl, Nat.le_of_ble_eq_true rfl⟩ (by rfl) (g_ob_gj o79) rfl hl.1 rfl (Nat.le_of_ble_eq_true rfl) dL_changes_79 y79 (fun v79x Gx H locs hKx hG => ?_)
      obtain ⟨D79, ⟨k79a, k79⟩, f79, l79⟩ := hKx
      rw [l79, k79] at hG
      rw [k79] at f79
      rw [k79a]
      rw [← g79] at hG
      refine lv_icmp_ne (tgt := 89) hx hb dL_changes_82 (by decide) (fun c82 => ?_) (fun c82 => ?_)
      · rw [if_neg c82] at h
        refine lv_iconst (v := (0 : Int32)) hx hb dL_changes_89 (by decide) ?_
        obtain ⟨y1, y2, h⟩ := h
        refine W.widen (k := MC) (n := MS) y1 y2 ?_
        exact g_zret hx hb hr hlocks hK hlo hG rfl h dL_changes_90
      · rw [if_pos c82] at h
        refine lv_iconst (v := (1 : Int32)) hx hb dL_changes_85 (by decide) ?_
        refine lv_goto (tgt := 90) hx hb dL_changes_86 (by decide) ?_
        obtain ⟨y1, y2, h⟩ := h
        refine W.widen (k := MC) (n := MS) y1 y2 ?_
        exact g_zret hx hb hr hlocks hK hlo hG rfl h dL_changes_90
    · rw [if_neg c61] at h
      refine lv_iconst (v := (1 : Int32)) hx hb dL_changes_64 (by decide) ?_
      obtain ⟨y1, y2, h⟩ := h
      refine W.widen (k := MC) (n := MS) y1 y2 ?_
      exact g_zret hx hb hr hlocks hK hlo hG rfl h dL_changes_65
  rw [if_neg c15_0] at h
  by_cases c15_1 : q12.2 = (1 : Int32)
  · rw [if_pos c15_1] at h
    refine g_swIn (tgt := 91) hx hb dL_changes_15 (1 : Int32) c15_1 (by decide) (by decide) 76 (by decide) (by decide) ?_
    exact h91 G12 0 0 a0 a1 _ _ hG _ (lv_sub hl [1, 2] rfl) h
  rw [if_neg c15_1] at h
  by_cases c15_2 : q12.2 = (2 : Int32)
  · rw [if_pos c15_2] at h
    refine g_swIn (tgt := 91) hx hb dL_changes_15 (2 : Int32) c15_2 (by decide) (by decide) 76 (by decide) (by decide) ?_
    exact h91 G12 0 0 a0 a1 _ _ hG _ (lv_sub hl [1, 2] rfl) h
  rw [if_neg c15_2] at h
  by_cases c15_3 : q12.2 = (3 : Int32)
  · rw [if_pos c15_3] at h
    refine g_swIn (tgt := 123) hx hb dL_changes_15 (3 : Int32) c15_3 (by decide) (by decide) 108 (by decide) (by decide) ?_
    refine lv_aload_n hx hb dL_changes_123 rfl (lv_at hl 2 rfl) ?_
    obtain ⟨C124, R124, d124, g124, h⟩ := h
    obtain ⟨u124, o124, h⟩ := h
    obtain ⟨y124, h⟩ := h
    obtain ⟨v124, e124, h⟩ := h
    rw [g124] at hG
    refine g_wVq (As := []) (rest := []) (n := 0) hx hb hml hown hts hK hlo hG (g_frQ d124 (fun lo => m_X10_open l dd cT lo C124 a1 e124) lo) qM_L_189 qI_yX10_open qS_X10_yX10_open qN_X10 qC_yX10_open (by decide +kernel) ⟨Nat.le_of_ble_eq_true rfl, Nat.le_of_ble_eq_true rfl⟩ (by rfl) (g_ob_gj o124) rfl hl.1 rfl (Nat.le_of_ble_eq_true rfl) dL_changes_124 y124 (fun v124x Gx H locs hKx hG => ?_)
    obtain ⟨D124, ⟨k124a, k124⟩, f124, l124⟩ := hKx
    rw [l124, k124] at hG
    rw [k124] at f124
    rw [k124a]
    rw [← g124] at hG
    rcases v124 with _ | r124
    · replace h := h.1 rfl
      refine lv_astoreN (lv' := [(4, .null), (3, .int q5.2), (0, .ref a0), (1, .ref a1), (2, .ref a2)]) hx hb dL_changes_127 hl (by decide) rfl (fun ls hl => ?_)
      refine lv_aloadN hx hb dL_changes_129 (lv_at hl 0 rfl) ?_
      refine lv_ifnullN (tgt := 142) hx hb dL_changes_131 (by decide) ?_
      refine lv_iconst (v := (1 : Int32)) hx hb dL_changes_142 (by decide) ?_
      obtain ⟨y1, y2, h⟩ := h
      refine W.widen (k := MC) (n := MS) y1 y2 ?_
      exact g_zret hx hb hr hlocks hK hlo hG rfl h dL_changes_143
    · replace h := h.2 r124 rfl
      refine lv_astore (lv' := [(4, .ref r124), (3, .int q5.2), (0, .ref a0), (1, .ref a1), (2, .ref a2)]) hx hb dL_changes_127 hl (by decide) rfl (fun ls hl => ?_)
      refine lv_aload hx hb dL_changes_129 (lv_at hl 0 rfl) ?_
      refine lv_ifnull hx hb dL_changes_131 ?_
      refine lv_aload_n hx hb dL_changes_134 rfl (lv_at hl 4 rfl) ?_
      refine lv_iconst (v := (2 : Int32)) hx hb dL_changes_135 (by decide) ?_
      obtain ⟨C136, R136, d136, g136, h⟩ := h
      obtain ⟨y136, h⟩ := h
      obtain ⟨q136, e136, h⟩ := h
      rw [g136] at hG
      refine g_wSi (As := [.ref a2, .int (2 : Int32)]) (rest := []) (n := 2) hx hb hml hown hts hK hlo hG (g_frI d136 (fun lo => m_L_draw l dd cT lo C136 a2 (2 : Int32) e136) lo) qM_L_35 qT_yL_draw qN_L qC_yL_draw (by decide +kernel) ⟨Nat.le_of_ble_eq_true rfl, Nat.le_of_ble_eq_true rfl⟩ rfl hl.1 rfl (Nat.le_of_ble_eq_true rfl) dL_changes_136 y136 (fun v136x Gx H locs hKx hG => ?_)
      obtain ⟨D136, ⟨k136a, k136⟩, f136, l136⟩ := hKx
      rw [l136, k136] at hG
      rw [k136] at f136
      rw [k136a]
      obtain ⟨G136, i136⟩ : ∃ g : gH, g = gj q136.1 R136 := ⟨_, rfl⟩
      rw [← i136] at hG
      replace h := h G136 f136 i136
      refine lv_if_ne (tgt := 144) hx hb dL_changes_139 (by decide) (fun c139 => ?_) (fun c139 => ?_)
      · rw [if_neg c139] at h
        refine lv_aload hx hb dL_changes_144 (lv_at hl 0 rfl) ?_
        refine lv_iconst (v := (2 : Int32)) hx hb dL_changes_146 (by decide) ?_
        obtain ⟨G147, i147, h⟩ := h
        refine g_putvN hx hb hts inlX12 tyX12 tyX12_ok nmX12 hown hK hG (by rfl) 0 (by decide) (List.mem_of_getElem? (i := 13) rfl) rfl rfl rfl rfl i147 dL_changes_147 (fun H locs hG => ?_)
        refine lv_aload hx hb dL_changes_150 (lv_at hl 0 rfl) ?_
        refine lv_iconst (v := (0 : Int32)) hx hb dL_changes_152 (by decide) ?_
        obtain ⟨G153, i153, h⟩ := h
        refine g_putvN hx hb hts inlX12 tyX12 tyX12_ok nmX12 hown hK hG (by rfl) 2 (by decide) (List.mem_of_getElem? (i := 19) rfl) rfl rfl rfl rfl i153 dL_changes_153 (fun H locs hG => ?_)
        refine lv_iconst (v := (0 : Int32)) hx hb dL_changes_156 (by decide) ?_
        refine lv_istore (lv' := [(5, .int (0 : Int32)), (4, .ref r124), (3, .int q5.2), (0, .ref a0), (1, .ref a1), (2, .ref a2)]) hx hb dL_changes_157 hl (by decide) rfl (fun ls hl => ?_)
        refine lv_iconst (v := (0 : Int32)) hx hb dL_changes_159 (by decide) ?_
        refine lv_istore (lv' := [(6, .int (0 : Int32)), (5, .int (0 : Int32)), (4, .ref r124), (3, .int q5.2), (0, .ref a0), (1, .ref a1), (2, .ref a2)]) hx hb dL_changes_160 hl (by decide) rfl (fun ls hl => ?_)
        exact h162 g_N G153 0 0 a0 a1 (0 : Int32) (0 : Int32) _ _ hG _ (lv_sub hl [4, 5, 1, 0] rfl) h
      · rw [if_pos c139] at h
        refine lv_iconst (v := (1 : Int32)) hx hb dL_changes_142 (by decide) ?_
        obtain ⟨y1, y2, h⟩ := h
        refine W.widen (k := MC) (n := MS) y1 y2 ?_
        exact g_zret hx hb hr hlocks hK hlo hG rfl h dL_changes_143
  rw [if_neg c15_3] at h
  by_cases c15_4 : q12.2 = (4 : Int32)
  · rw [if_pos c15_4] at h
    refine g_swIn (tgt := 218) hx hb dL_changes_15 (4 : Int32) c15_4 (by decide) (by decide) 203 (by decide) (by decide) ?_
    refine lv_bipush (v := (10 : Int32)) hx hb dL_changes_218 (by decide) ?_
    obtain ⟨y220, h⟩ := h
    refine g_newq6 (N := 10) hx hb hown hts qL_L_139 hK hlo hG (by decide) (by decide) (Nat.le_of_ble_eq_true rfl) y220 dL_changes_220 (fun q220 H z220 hG => ?_)
    obtain ⟨G220, i220⟩ : ∃ g : gH, g = va_up G12 q220 (some (.inr (.inr (.inl (6, 10, fun _ => none))))) := ⟨_, rfl⟩
    rw [← i220] at hG
    replace h := h q220 z220 G220 i220
    refine lv_astore (lv' := [(4, .ref q220), (3, .int q5.2), (0, .ref a0), (1, .ref a1), (2, .ref a2)]) hx hb dL_changes_223 hl (by decide) rfl (fun ls hl => ?_)
    refine lv_aload_n hx hb dL_changes_225 rfl (lv_at hl 3 rfl) ?_
    refine lv_aload hx hb dL_changes_226 (lv_at hl 0 rfl) ?_
    obtain ⟨C228, R228, d228, g228, h⟩ := h
    obtain ⟨u228, o228, h⟩ := h
    obtain ⟨y228, h⟩ := h
    obtain ⟨q228, e228, h⟩ := h
    rw [g228] at hG
    refine g_wVi (As := [.ref q220]) (rest := []) (n := 1) hx hb hml hown hts hK hlo hG (g_frI d228 (fun lo => m_X10_lost l dd cT lo C228 a1 q220 e228) lo) qM_L_276 qI_yX10_lost qS_X10_yX10_lost qN_X10 qC_yX10_lost (by decide +kernel) ⟨Nat.le_of_ble_eq_true rfl, Nat.le_of_ble_eq_true rfl⟩ (by rfl) (g_ob_gj o228) rfl hl.1 rfl (Nat.le_of_ble_eq_true rfl) dL_changes_228 y228 (fun v228x Gx H locs hKx hG => ?_)
    obtain ⟨D228, ⟨k228a, k228⟩, f228, l228⟩ := hKx
    rw [l228, k228] at hG
    rw [k228] at f228
    rw [k228a]
    obtain ⟨G228, i228⟩ : ∃ g : gH, g = gj q228.1 R228 := ⟨_, rfl⟩
    rw [← i228] at hG
    replace h := h G228 f228 i228
    refine lv_istore (lv' := [(5, .int q228.2), (4, .ref q220), (3, .int q5.2), (0, .ref a0), (1, .ref a1), (2, .ref a2)]) hx hb dL_changes_231 hl (by decide) rfl (fun ls hl => ?_)
    refine lv_aload_n hx hb dL_changes_233 rfl (lv_at hl 4 rfl) ?_
    refine lv_iload hx hb dL_changes_234 (lv_at hl 0 rfl) ?_
    obtain ⟨C236, R236, d236, g236, h⟩ := h
    obtain ⟨u236, o236, h⟩ := h
    obtain ⟨y236, h⟩ := h
    obtain ⟨v236, e236, h⟩ := h
    rw [g236] at hG
    refine g_wVi (As := [.int q228.2]) (rest := []) (n := 1) hx hb hml hown hts hK hlo hG (g_frI d236 (fun lo => m_X10_whyRecover l dd cT lo C236 a1 q228.2 e236) lo) qM_L_286 qI_yX10_whyRecover qS_X10_yX10_whyRecover qN_X10 qC_yX10_whyRecover (by decide +kernel) ⟨Nat.le_of_ble_eq_true rfl, Nat.le_of_ble_eq_true rfl⟩ (by rfl) (g_ob_gj o236) rfl hl.1 rfl (Nat.le_of_ble_eq_true rfl) dL_changes_236 y236 (fun v236x Gx H locs hKx hG => ?_)
    obtain ⟨D236, ⟨k236a, k236⟩, f236, l236⟩ := hKx
    rw [l236, k236] at hG
    rw [k236] at f236
    rw [k236a]
    rw [← g236] at hG
    refine lv_if_le (tgt := 244) hx hb dL_changes_239 (by decide) (fun c239 => ?_) (fun c239 => ?_)
    · rw [if_pos c239] at h
      refine lv_aload_n hx hb dL_changes_244 rfl (lv_at hl 4 rfl) ?_
      obtain ⟨v245, e245, h⟩ := h
      refine g_getrN hx hb hts inlX10 hown hK hG (by rfl) 16 (by decide) (List.mem_of_getElem? (i := 12) rfl) e245 dL_changes_245 ?_
      refine lv_aload_n hx hb dL_changes_248 rfl (lv_at hl 4 rfl) ?_
      obtain ⟨v249, e249, h⟩ := h
      refine g_getiN hx hb hts inlX10 hown hK hG (by rfl) 4 (by decide) (List.mem_of_getElem? (i := 14) rfl) e249 dL_changes_249 ?_
      refine lv_iconst (v := (1 : Int32)) hx hb dL_changes_252 (by decide) ?_
      refine lv_isub hx hb dL_changes_253 ?_
      obtain ⟨v254, e254, h⟩ := h
      refine g_rald_row hx hb hK hG (t := 5) rfl e254 dL_changes_254 ?_
      rcases v254 with _ | r254
      · replace h := h.1 rfl
        refine lv_iconst (v := (3 : Int32)) hx hb dL_changes_255 (by decide) ?_
        exact (show False from h).elim
      · replace h := h.2 r254 rfl
        refine lv_iconst (v := (3 : Int32)) hx hb dL_changes_255 (by decide) ?_
        obtain ⟨G256, i256, h⟩ := h
        refine g_putvN hx hb hts inlX12 tyX12 tyX12_ok nmX12 hown hK hG (by rfl) 0 (by decide) (List.mem_of_getElem? (i := 13) rfl) rfl rfl rfl rfl i256 dL_changes_256 (fun H locs hG => ?_)
        refine lv_aload_n hx hb dL_changes_259 rfl (lv_at hl 4 rfl) ?_
        obtain ⟨C260, R260, d260, g260, h⟩ := h
        obtain ⟨u260, o260, h⟩ := h
        obtain ⟨y260, h⟩ := h
        rw [g260] at hG
        refine g_wVNq (As := []) (rest := []) (n := 0) hx hb hml hown hts hK hlo hG (g_frQ d260 (fun lo => m_X10_begins 4 32 l hfl dd cT lo C260 a1 h) lo) (List.mem_of_getElem? (i := 0) rfl) qI_yX10_begins qS_X10_yX10_begins qN_X10 qC_yX10_begins (by decide +kernel) ⟨Nat.le_of_ble_eq_true rfl, Nat.le_of_ble_eq_true rfl⟩ (by rfl) (g_ob_gj o260) rfl hl.1 rfl (Nat.le_of_ble_eq_true rfl) dL_changes_260 y260 (fun v260x Gx H locs hKx hG => ?_)
        obtain ⟨D260, h, f260, rfl⟩ := hKx
        obtain ⟨G260, i260⟩ : ∃ g : gH, g = gj D260 R260 := ⟨_, rfl⟩
        rw [← i260] at hG
        replace h := h G260 f260 i260
        revert h
        generalize v260x = v260
        intro h
        rcases v260 with _ | r260
        · replace h := h.1 rfl
          refine lv_astoreN (lv' := [(6, .null), (5, .int q228.2), (4, .ref q220), (3, .int q5.2), (0, .ref a0), (1, .ref a1), (2, .ref a2)]) hx hb dL_changes_263 hl (by decide) rfl (fun ls hl => ?_)
          refine lv_iconst (v := (0 : Int32)) hx hb dL_changes_265 (by decide) ?_
          refine lv_istore (lv' := [(7, .int (0 : Int32)), (6, .null), (5, .int q228.2), (4, .ref q220), (3, .int q5.2), (0, .ref a0), (1, .ref a1), (2, .ref a2)]) hx hb dL_changes_266 hl (by decide) rfl (fun ls hl => ?_)
          exact h268 g_N G260 ((0 + 1) + 4) ((0 + 10) + 32) a0 a1 q220 q228.2 none (0 : Int32) _ _ hG _ (lv_sub hl [5, 6, 3, 2, 1, 0] rfl) h
        · replace h := h.2 r260 rfl
          refine lv_astore (lv' := [(6, .ref r260), (5, .int q228.2), (4, .ref q220), (3, .int q5.2), (0, .ref a0), (1, .ref a1), (2, .ref a2)]) hx hb dL_changes_263 hl (by decide) rfl (fun ls hl => ?_)
          refine lv_iconst (v := (0 : Int32)) hx hb dL_changes_265 (by decide) ?_
          refine lv_istore (lv' := [(7, .int (0 : Int32)), (6, .ref r260), (5, .int q228.2), (4, .ref q220), (3, .int q5.2), (0, .ref a0), (1, .ref a1), (2, .ref a2)]) hx hb dL_changes_266 hl (by decide) rfl (fun ls hl => ?_)
          exact h268 g_N G260 ((0 + 1) + 4) ((0 + 10) + 32) a0 a1 q220 q228.2 (some r260) (0 : Int32) _ _ hG _ (lv_sub hl [5, 6, 3, 2, 1, 0] rfl) h
    · rw [if_neg c239] at h
      refine lv_iconst (v := (1 : Int32)) hx hb dL_changes_242 (by decide) ?_
      obtain ⟨y1, y2, h⟩ := h
      refine W.widen (k := MC) (n := MS) y1 y2 ?_
      exact g_zret hx hb hr hlocks hK hlo hG rfl h dL_changes_243
  rw [if_neg c15_4] at h
  by_cases c15_5 : q12.2 = (5 : Int32)
  · rw [if_pos c15_5] at h
    refine g_swIn (tgt := 318) hx hb dL_changes_15 (5 : Int32) c15_5 (by decide) (by decide) 303 (by decide) (by decide) ?_
    refine lv_aload_n hx hb dL_changes_318 rfl (lv_at hl 3 rfl) ?_
    refine lv_aload_n hx hb dL_changes_319 rfl (lv_at hl 2 rfl) ?_
    obtain ⟨v320, e320, h⟩ := h
    refine g_getiN hx hb hts inlX10 hown hK hG (by rfl) 0 (by decide) (List.mem_of_getElem? (i := 0) rfl) e320 dL_changes_320 ?_
    obtain ⟨C323, R323, d323, g323, h⟩ := h
    obtain ⟨y323, h⟩ := h
    obtain ⟨q323, e323, h⟩ := h
    rw [g323] at hG
    refine g_wSi (As := [.ref a2, .int v320]) (rest := []) (n := 2) hx hb hml hown hts hK hlo hG (g_frI d323 (fun lo => m_L_draw l dd cT lo C323 a2 v320 e323) lo) qM_L_35 qT_yL_draw qN_L qC_yL_draw (by decide +kernel) ⟨Nat.le_of_ble_eq_true rfl, Nat.le_of_ble_eq_true rfl⟩ rfl hl.1 rfl (Nat.le_of_ble_eq_true rfl) dL_changes_323 y323 (fun v323x Gx H locs hKx hG => ?_)
    obtain ⟨D323, ⟨k323a, k323⟩, f323, l323⟩ := hKx
    rw [l323, k323] at hG
    rw [k323] at f323
    rw [k323a]
    obtain ⟨G323, i323⟩ : ∃ g : gH, g = gj q323.1 R323 := ⟨_, rfl⟩
    rw [← i323] at hG
    replace h := h G323 f323 i323
    refine lv_istore (lv' := [(4, .int q323.2), (3, .int q5.2), (0, .ref a0), (1, .ref a1), (2, .ref a2)]) hx hb dL_changes_326 hl (by decide) rfl (fun ls hl => ?_)
    refine lv_aload_n hx hb dL_changes_328 rfl (lv_at hl 3 rfl) ?_
    obtain ⟨v329, e329, h⟩ := h
    refine g_getrN hx hb hts inlX10 hown hK hG (by rfl) 7 (by decide) (List.mem_of_getElem? (i := 4) rfl) e329 dL_changes_329 ?_
    refine lv_iload hx hb dL_changes_332 (lv_at hl 0 rfl) ?_
    obtain ⟨v334, e334, h⟩ := h
    refine g_iald hx hb hK hG e334 dL_changes_334 ?_
    refine lv_if_ne (tgt := 348) hx hb dL_changes_335 (by decide) (fun c335 => ?_) (fun c335 => ?_)
    · rw [if_neg c335] at h
      refine lv_aload_n hx hb dL_changes_348 rfl (lv_at hl 3 rfl) ?_
      obtain ⟨v349, e349, h⟩ := h
      refine g_getrN hx hb hts inlX10 hown hK hG (by rfl) 13 (by decide) (List.mem_of_getElem? (i := 5) rfl) e349 dL_changes_349 ?_
      refine lv_iload hx hb dL_changes_352 (lv_at hl 0 rfl) ?_
      obtain ⟨v354, e354, h⟩ := h
      refine g_zald hx hb hK hG e354 dL_changes_354 ?_
      exact h355 G323 0 0 a0 a1 q323.2 v354 _ _ hG _ (lv_sub hl [2, 3, 0] rfl) h
    · rw [if_pos c335] at h
      refine lv_aload_n hx hb dL_changes_338 rfl (lv_at hl 3 rfl) ?_
      obtain ⟨v339, e339, h⟩ := h
      refine g_getrN hx hb hts inlX10 hown hK hG (by rfl) 12 (by decide) (List.mem_of_getElem? (i := 3) rfl) e339 dL_changes_339 ?_
      refine lv_iload hx hb dL_changes_342 (lv_at hl 0 rfl) ?_
      obtain ⟨v344, e344, h⟩ := h
      refine g_zald hx hb hK hG e344 dL_changes_344 ?_
      refine lv_goto (tgt := 355) hx hb dL_changes_345 (by decide) ?_
      exact h355 G323 0 0 a0 a1 q323.2 v344 _ _ hG _ (lv_sub hl [2, 3, 0] rfl) h
  rw [if_neg c15_5] at h
  by_cases c15_6 : q12.2 = (6 : Int32)
  · rw [if_pos c15_6] at h
    refine g_swIn (tgt := 403) hx hb dL_changes_15 (6 : Int32) c15_6 (by decide) (by decide) 388 (by decide) (by decide) ?_
    refine lv_aload_n hx hb dL_changes_403 rfl (lv_at hl 2 rfl) ?_
    obtain ⟨v404, e404, h⟩ := h
    refine g_getiN hx hb hts inlX10 hown hK hG (by rfl) 6 (by decide) (List.mem_of_getElem? (i := 16) rfl) e404 dL_changes_404 ?_
    refine lv_istore (lv' := [(4, .int v404), (3, .int q5.2), (0, .ref a0), (1, .ref a1), (2, .ref a2)]) hx hb dL_changes_407 hl (by decide) rfl (fun ls hl => ?_)
    refine lv_aload_n hx hb dL_changes_409 rfl (lv_at hl 3 rfl) ?_
    refine lv_aload_n hx hb dL_changes_410 rfl (lv_at hl 4 rfl) ?_
    refine lv_iconst (v := (2 : Int32)) hx hb dL_changes_411 (by decide) ?_
    obtain ⟨C412, R412, d412, g412, h⟩ := h
    obtain ⟨y412, h⟩ := h
    obtain ⟨q412, e412, h⟩ := h
    rw [g412] at hG
    refine g_wSi (As := [.ref a2, .int (2 : Int32)]) (rest := [.ref a1]) (n := 2) hx hb hml hown hts hK hlo hG (g_frI d412 (fun lo => m_L_draw l dd cT lo C412 a2 (2 : Int32) e412) lo) qM_L_35 qT_yL_draw qN_L qC_yL_draw (by decide +kernel) ⟨Nat.le_of_ble_eq_true rfl, Nat.le_of_ble_eq_true rfl⟩ rfl hl.1 rfl (Nat.le_of_ble_eq_true rfl) dL_changes_412 y412 (fun v412x Gx H locs hKx hG => ?_)
    obtain ⟨D412, ⟨k412a, k412⟩, f412, l412⟩ := hKx
    rw [l412, k412] at hG
    rw [k412] at f412
    rw [k412a]
    obtain ⟨G412, i412⟩ : ∃ g : gH, g = gj q412.1 R412 := ⟨_, rfl⟩
    rw [← i412] at hG
    replace h := h G412 f412 i412
    refine lv_if_ne (tgt := 422) hx hb dL_changes_415 (by decide) (fun c415 => ?_) (fun c415 => ?_)
    · rw [if_neg c415] at h
      refine lv_iconst (v := (0 : Int32)) hx hb dL_changes_422 (by decide) ?_
      exact h423 G412 0 0 a0 a1 v404 a1 (0 : Int32) _ _ hG _ (lv_sub hl [2, 3, 0] rfl) h
    · rw [if_pos c415] at h
      refine lv_iconst (v := (1 : Int32)) hx hb dL_changes_418 (by decide) ?_
      refine lv_goto (tgt := 423) hx hb dL_changes_419 (by decide) ?_
      exact h423 G412 0 0 a0 a1 v404 a1 (1 : Int32) _ _ hG _ (lv_sub hl [2, 3, 0] rfl) h
  rw [if_neg c15_6] at h
  have z15 : q12.2.toInt < 0 ∨ 6 < q12.2.toInt := by
    have y0 : ¬ q12.2.toInt = 0 := fun w => c15_0 (Int32.toInt_inj.mp (by rw [w]; rfl))
    have y1 : ¬ q12.2.toInt = 1 := fun w => c15_1 (Int32.toInt_inj.mp (by rw [w]; rfl))
    have y2 : ¬ q12.2.toInt = 2 := fun w => c15_2 (Int32.toInt_inj.mp (by rw [w]; rfl))
    have y3 : ¬ q12.2.toInt = 3 := fun w => c15_3 (Int32.toInt_inj.mp (by rw [w]; rfl))
    have y4 : ¬ q12.2.toInt = 4 := fun w => c15_4 (Int32.toInt_inj.mp (by rw [w]; rfl))
    have y5 : ¬ q12.2.toInt = 5 := fun w => c15_5 (Int32.toInt_inj.mp (by rw [w]; rfl))
    have y6 : ¬ q12.2.toInt = 6 := fun w => c15_6 (Int32.toInt_inj.mp (by rw [w]; rfl))
    omega
  refine lv_tableOut (tgt := 445) hx hb dL_changes_15 z15 (by decide) ?_
  refine lv_iconst (v := (1 : Int32)) hx hb dL_changes_445 (by decide) ?_
  refine lv_aload_n hx hb dL_changes_446 rfl (lv_at hl 3 rfl) ?_
  refine lv_iconst (v := (3 : Int32)) hx hb dL_changes_447 (by decide) ?_
  obtain ⟨C448, R448, d448, g448, h⟩ := h
  obtain ⟨y448, h⟩ := h
  obtain ⟨q448, e448, h⟩ := h
  rw [g448] at hG
  refine g_wSi (As := [.ref a2, .int (3 : Int32)]) (rest := [.int (1 : Int32)]) (n := 2) hx hb hml hown hts hK hlo hG (g_frI d448 (fun lo => m_L_draw l dd cT lo C448 a2 (3 : Int32) e448) lo) qM_L_35 qT_yL_draw qN_L qC_yL_draw (by decide +kernel) ⟨Nat.le_of_ble_eq_true rfl, Nat.le_of_ble_eq_true rfl⟩ rfl hl.1 rfl (Nat.le_of_ble_eq_true rfl) dL_changes_448 y448 (fun v448x Gx H locs hKx hG => ?_)
  obtain ⟨D448, ⟨k448a, k448⟩, f448, l448⟩ := hKx
  rw [l448, k448] at hG
  rw [k448] at f448
  rw [k448a]
  obtain ⟨G448, i448⟩ : ∃ g : gH, g = gj q448.1 R448 := ⟨_, rfl⟩
  rw [← i448] at hG
  replace h := h G448 f448 i448
  refine lv_iadd hx hb dL_changes_451 ?_
  refine lv_istore (lv' := [(4, .int ((1 : Int32) + q448.2)), (3, .int q5.2), (0, .ref a0), (1, .ref a1), (2, .ref a2)]) hx hb dL_changes_452 hl (by decide) rfl (fun ls hl => ?_)
  refine lv_aload_n hx hb dL_changes_454 rfl (lv_at hl 4 rfl) ?_
  refine lv_sipush (v := (1000 : Int32)) hx hb dL_changes_455 (by decide) ?_
  obtain ⟨C458, R458, d458, g458, h⟩ := h
  obtain ⟨y458, h⟩ := h
  obtain ⟨q458, e458, h⟩ := h
  rw [g458] at hG
  refine g_wSi (As := [.ref a2, .int (1000 : Int32)]) (rest := []) (n := 2) hx hb hml hown hts hK hlo hG (g_frI d458 (fun lo => m_L_draw l dd cT lo C458 a2 (1000 : Int32) e458) lo) qM_L_35 qT_yL_draw qN_L qC_yL_draw (by decide +kernel) ⟨Nat.le_of_ble_eq_true rfl, Nat.le_of_ble_eq_true rfl⟩ rfl hl.1 rfl (Nat.le_of_ble_eq_true rfl) dL_changes_458 y458 (fun v458x Gx H locs hKx hG => ?_)
  obtain ⟨D458, ⟨k458a, k458⟩, f458, l458⟩ := hKx
  rw [l458, k458] at hG
  rw [k458] at f458
  rw [k458a]
  obtain ⟨G458, i458⟩ : ∃ g : gH, g = gj q458.1 R458 := ⟨_, rfl⟩
  rw [← i458] at hG
  replace h := h G458 f458 i458
  refine lv_istore (lv' := [(5, .int q458.2), (4, .int ((1 : Int32) + q448.2)), (3, .int q5.2), (0, .ref a0), (1, .ref a1), (2, .ref a2)]) hx hb dL_changes_461 hl (by decide) rfl (fun ls hl => ?_)
  refine lv_aload_n hx hb dL_changes_463 rfl (lv_at hl 4 rfl) ?_
  refine lv_iload_n hx hb dL_changes_464 rfl (lv_at hl 2 rfl) ?_
  refine lv_iload hx hb dL_changes_465 (lv_at hl 1 rfl) ?_
  obtain ⟨C467, R467, d467, g467, h⟩ := h
  obtain ⟨u467, o467, h⟩ := h
  obtain ⟨y467, h⟩ := h
  obtain ⟨v467, e467, h⟩ := h
  rw [g467] at hG
  refine g_wVi (As := [.int q5.2, .int ((1 : Int32) + q448.2)]) (rest := []) (n := 2) hx hb hml hown hts hK hlo hG (g_frI d467 (fun lo => m_X10_whyWrite l dd cT lo C467 a1 q5.2 ((1 : Int32) + q448.2) e467) lo) qM_L_88 qI_yX10_whyWrite qS_X10_yX10_whyWrite qN_X10 qC_yX10_whyWrite (by decide +kernel) ⟨Nat.le_of_ble_eq_true rfl, Nat.le_of_ble_eq_true rfl⟩ (by rfl) (g_ob_gj o467) rfl hl.1 rfl (Nat.le_of_ble_eq_true rfl) dL_changes_467 y467 (fun v467x Gx H locs hKx hG => ?_)
  obtain ⟨D467, ⟨k467a, k467⟩, f467, l467⟩ := hKx
  rw [l467, k467] at hG
  rw [k467] at f467
  rw [k467a]
  rw [← g467] at hG
  refine lv_if_gt (tgt := 494) hx hb dL_changes_470 (by decide) (fun c470 => ?_) (fun c470 => ?_)
  · rw [if_pos c470] at h
    refine lv_iconst (v := (1 : Int32)) hx hb dL_changes_494 (by decide) ?_
    refine lv_goto (tgt := 499) hx hb dL_changes_495 (by decide) ?_
    obtain ⟨y1, y2, h⟩ := h
    refine W.widen (k := MC) (n := MS) y1 y2 ?_
    exact g_zret hx hb hr hlocks hK hlo hG rfl h dL_changes_499
  · rw [if_neg c470] at h
    refine lv_aload_n hx hb dL_changes_473 rfl (lv_at hl 3 rfl) ?_
    refine lv_iload_n hx hb dL_changes_474 rfl (lv_at hl 2 rfl) ?_
    refine lv_iload hx hb dL_changes_475 (lv_at hl 1 rfl) ?_
    refine lv_iload hx hb dL_changes_477 (lv_at hl 0 rfl) ?_
    obtain ⟨C479, R479, d479, g479, h⟩ := h
    obtain ⟨u479, o479, h⟩ := h
    obtain ⟨y479, h⟩ := h
    rw [g479] at hG
    refine g_wVi (As := [.int q5.2, .int ((1 : Int32) + q448.2), .int q458.2]) (rest := []) (n := 3) hx hb hml hown hts hK hlo hG (g_frI d479 (fun lo => g_noX (m_X9_write l hfl dd cT lo C479 a0 q5.2 ((1 : Int32) + q448.2) q458.2 h)) lo) qM_L_335 qI_yX9_write qS_X9_yX9_write qN_X9 qC_yX9_write (by decide +kernel) ⟨Nat.le_of_ble_eq_true rfl, Nat.le_of_ble_eq_true rfl⟩ (by rfl) (g_ob_gj o479) rfl hl.1 rfl (Nat.le_of_ble_eq_true rfl) dL_changes_479 y479 (fun v479x Gx H locs hKx hG => ?_)
    obtain ⟨D479, h, f479, rfl⟩ := hKx
    obtain ⟨G479, i479⟩ : ∃ g : gH, g = gj D479 R479 := ⟨_, rfl⟩
    rw [← i479] at hG
    replace h := h G479 f479 i479
    revert h
    generalize v479x = v479
    intro h
    refine lv_aload_n hx hb dL_changes_482 rfl (lv_at hl 4 rfl) ?_
    refine lv_iload_n hx hb dL_changes_483 rfl (lv_at hl 2 rfl) ?_
    refine lv_iload hx hb dL_changes_484 (lv_at hl 1 rfl) ?_
    refine lv_iload hx hb dL_changes_486 (lv_at hl 0 rfl) ?_
    obtain ⟨C488, R488, d488, g488, h⟩ := h
    obtain ⟨u488, o488, h⟩ := h
    obtain ⟨y488, h⟩ := h
    rw [g488] at hG
    refine g_wVi (As := [.int q5.2, .int ((1 : Int32) + q448.2), .int q458.2]) (rest := [.int v479]) (n := 3) hx hb hml hown hts hK hlo hG (g_frI d488 (fun lo => m_X10_write 6 47 l hfl dd cT lo C488 a1 q5.2 ((1 : Int32) + q448.2) q458.2 h) lo) qM_L_91 qI_yX10_write qS_X10_yX10_write qN_X10 qC_yX10_write (by decide +kernel) ⟨Nat.le_of_ble_eq_true rfl, Nat.le_of_ble_eq_true rfl⟩ (by rfl) (g_ob_gj o488) rfl hl.1 rfl (Nat.le_of_ble_eq_true rfl) dL_changes_488 y488 (fun v488x Gx H locs hKx hG => ?_)
    obtain ⟨D488, h, f488, rfl⟩ := hKx
    obtain ⟨G488, i488⟩ : ∃ g : gH, g = gj D488 R488 := ⟨_, rfl⟩
    rw [← i488] at hG
    replace h := h G488 f488 i488
    revert h
    generalize v488x = v488
    intro h
    refine lv_icmp_ne (tgt := 498) hx hb dL_changes_491 (by decide) (fun c491 => ?_) (fun c491 => ?_)
    · rw [if_neg c491] at h
      refine lv_iconst (v := (0 : Int32)) hx hb dL_changes_498 (by decide) ?_
      obtain ⟨y1, y2, h⟩ := h
      refine W.widen (k := MC) (n := MS) y1 y2 ?_
      exact g_zret hx hb hr hlocks hK hlo hG rfl h dL_changes_499
    · rw [if_pos c491] at h
      refine lv_iconst (v := (1 : Int32)) hx hb dL_changes_494 (by decide) ?_
      refine lv_goto (tgt := 499) hx hb dL_changes_495 (by decide) ?_
      obtain ⟨y1, y2, h⟩ := h
      refine W.widen (k := MC) (n := MS) y1 y2 ?_
      exact g_zret hx hb hr hlocks hK hlo hG rfl h dL_changes_499

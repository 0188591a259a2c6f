/-! By program (wip/p34/tools/jlift.py). -/
set_option maxRecDepth 20000 in
set_option maxHeartbeats 40000000 in
theorem m_L_plays (MC MS : Nat) (l : Launch) (hfl : l.stackTraces = false) (dd : va_G) (cT : Nat → ClassId) (lo : Nat → Prop) (G : gH) (a0 : Nat) (a1 : Nat) {K : Int32 → gH → Prop} (h : w_L_plays MC MS G a0 a1 K) : Met l yL_plays (Cond.code yL_plays cL_plays 8 (some .boolean) :: wsL_law) (g_rm 10 232 MC MS) (va_Pc [.ref a0, .ref a1] (g_Pre lo dd cT G)) (va_Qi K (g_Pre lo dd cT) (g_A lo)) MC MS (g_A lo) := by
  refine g_start RL rfl (by decide) (Nat.le_of_ble_eq_true rfl) ?_
  intro p e s m below meth c hx hb hr hlocks hml hown hnm hts hK hG hlo ls hl
  have hl : lv_has ls 8 [(0, .ref a0), (1, .ref a1)] := hl
  have hG : g_S lo dd cT s s.heap [] G := hG
  have h346 : ∀ n346 : Nat, ∀ (G : gH) (kc ks : Nat) (ba0 : Nat) (ba1 : Nat) (ba2 : Nat) (bx4 : Int32) (H : Heap) (locs : List Loc), g_S lo dd cT s H locs G → ∀ ls : Array Slot, lv_has ls 8 [(0, .ref ba0), (1, .ref ba1), (2, .ref ba2), (4, .int bx4)] → w_L_plays_L346 MC MS K n346 G kc ks ba0 ba1 ba2 bx4 → W p l e (g_rm 10 232 MC MS) s m ([.ref a0, .ref a1] : List Value).toArray below meth c H locs kc ks (MQ below (va_Qi K (g_Pre lo dd cT) (g_A lo)) ([.ref a0, .ref a1] : List Value).toArray s MC MS (g_A lo)) (F0 m 346 ls []) := by
    intro n346
    induction n346 with
    | zero =>
      intro G kc ks ba0 ba1 ba2 bx4 H locs hG ls hl h
      exact (show False from h).elim
    | succ n346 ih346 =>
      intro G kc ks ba0 ba1 ba2 bx4 H locs hG ls hl h
      rw [w_L_plays_L346] at h
      refine lv_iload hx hb dL_plays_346 (lv_at hl 3 rfl) ?_
      refine lv_bipush (v := (18 : Int32)) hx hb dL_plays_348 (by decide) ?_
      refine lv_icmp_ge (tgt := 395) hx hb dL_plays_350 (by decide) (fun c350 => ?_) (fun c350 => ?_)
      · rw [if_pos c350] at h
        refine lv_iconst (v := (1 : Int32)) hx hb dL_plays_395 (by decide) ?_
        obtain ⟨y1, y2, h⟩ := h
        refine W.widen (k := MC) (n := MS) y1 y2 ?_
        exact g_zret hx hb hr hlocks hK hlo hG rfl h dL_plays_396
      · rw [if_neg c350] at h
        refine lv_aload_n hx hb dL_plays_353 rfl (lv_at hl 0 rfl) ?_
        refine lv_aload_n hx hb dL_plays_354 rfl (lv_at hl 2 rfl) ?_
        refine lv_aload_n hx hb dL_plays_355 rfl (lv_at hl 1 rfl) ?_
        obtain ⟨C356, R356, d356, g356, h⟩ := h
        obtain ⟨y356, h⟩ := h
        rw [g356] at hG
        refine g_wAi (As := [.ref ba0, .ref ba2, .ref ba1]) (rest := []) (n := 3) hx hb hml hown hts hK hlo hG (g_frI d356 (fun lo => m_L_changes 200 20000 l hfl dd cT lo C356 ba0 ba2 ba1 h) lo) qM_L_106 qT_yL_changes qN_L qC_yL_changes (by decide +kernel) ⟨Nat.le_of_ble_eq_true rfl, Nat.le_of_ble_eq_true rfl⟩ rfl hl.1 rfl (Nat.le_of_ble_eq_true rfl) dL_plays_356 y356 (fun v356x Gx H locs hKx hG => ?_)
        obtain ⟨D356, h, f356, rfl⟩ := hKx
        obtain ⟨G356, i356⟩ : ∃ g : gH, g = gj D356 R356 := ⟨_, rfl⟩
        rw [← i356] at hG
        replace h := h G356 f356 i356
        revert h
        generalize v356x = v356
        intro h
        refine lv_if_eq (tgt := 387) hx hb dL_plays_359 (by decide) (fun c359 => ?_) (fun c359 => ?_)
        · rw [if_pos c359] at h
          refine lv_iconst (v := (0 : Int32)) hx hb dL_plays_387 (by decide) ?_
          obtain ⟨y1, y2, h⟩ := h
          refine W.widen (k := MC) (n := MS) y1 y2 ?_
          exact g_zret hx hb hr hlocks hK hlo hG rfl h dL_plays_388
        · rw [if_neg c359] at h
          refine lv_aload_n hx hb dL_plays_362 rfl (lv_at hl 0 rfl) ?_
          refine lv_aload_n hx hb dL_plays_363 rfl (lv_at hl 2 rfl) ?_
          obtain ⟨C364, R364, d364, g364, h⟩ := h
          obtain ⟨y364, h⟩ := h
          rw [g364] at hG
          refine g_wAi (As := [.ref ba0, .ref ba2]) (rest := []) (n := 2) hx hb hml hown hts hK hlo hG (g_frI d364 (fun lo => m_L_blocks 1000 10000 l hfl dd cT lo C364 ba0 ba2 h) lo) qM_L_110 qT_yL_blocks qN_L qC_yL_blocks (by decide +kernel) ⟨Nat.le_of_ble_eq_true rfl, Nat.le_of_ble_eq_true rfl⟩ rfl hl.1 rfl (Nat.le_of_ble_eq_true rfl) dL_plays_364 y364 (fun v364x Gx H locs hKx hG => ?_)
          obtain ⟨D364, h, f364, rfl⟩ := hKx
          obtain ⟨G364, i364⟩ : ∃ g : gH, g = gj D364 R364 := ⟨_, rfl⟩
          rw [← i364] at hG
          replace h := h G364 f364 i364
          revert h
          generalize v364x = v364
          intro h
          refine lv_if_eq (tgt := 387) hx hb dL_plays_367 (by decide) (fun c367 => ?_) (fun c367 => ?_)
          · rw [if_pos c367] at h
            refine lv_iconst (v := (0 : Int32)) hx hb dL_plays_387 (by decide) ?_
            obtain ⟨y1, y2, h⟩ := h
            refine W.widen (k := MC) (n := MS) y1 y2 ?_
            exact g_zret hx hb hr hlocks hK hlo hG rfl h dL_plays_388
          · rw [if_neg c367] at h
            refine lv_aload_n hx hb dL_plays_370 rfl (lv_at hl 0 rfl) ?_
            refine lv_aload_n hx hb dL_plays_371 rfl (lv_at hl 2 rfl) ?_
            obtain ⟨C372, R372, d372, g372, h⟩ := h
            obtain ⟨y372, h⟩ := h
            rw [g372] at hG
            refine g_wAi (As := [.ref ba0, .ref ba2]) (rest := []) (n := 2) hx hb hml hown hts hK hlo hG (g_frI d372 (fun lo => m_L_sessions 1500 15000 l hfl dd cT lo C372 ba0 ba2 h) lo) qM_L_113 qT_yL_sessions qN_L qC_yL_sessions (by decide +kernel) ⟨Nat.le_of_ble_eq_true rfl, Nat.le_of_ble_eq_true rfl⟩ rfl hl.1 rfl (Nat.le_of_ble_eq_true rfl) dL_plays_372 y372 (fun v372x Gx H locs hKx hG => ?_)
            obtain ⟨D372, h, f372, rfl⟩ := hKx
            obtain ⟨G372, i372⟩ : ∃ g : gH, g = gj D372 R372 := ⟨_, rfl⟩
            rw [← i372] at hG
            replace h := h G372 f372 i372
            revert h
            generalize v372x = v372
            intro h
            refine lv_if_eq (tgt := 387) hx hb dL_plays_375 (by decide) (fun c375 => ?_) (fun c375 => ?_)
            · rw [if_pos c375] at h
              refine lv_iconst (v := (0 : Int32)) hx hb dL_plays_387 (by decide) ?_
              obtain ⟨y1, y2, h⟩ := h
              refine W.widen (k := MC) (n := MS) y1 y2 ?_
              exact g_zret hx hb hr hlocks hK hlo hG rfl h dL_plays_388
            · rw [if_neg c375] at h
              refine lv_aload_n hx hb dL_plays_378 rfl (lv_at hl 0 rfl) ?_
              refine lv_aload_n hx hb dL_plays_379 rfl (lv_at hl 2 rfl) ?_
              refine lv_aload_n hx hb dL_plays_380 rfl (lv_at hl 1 rfl) ?_
              obtain ⟨C381, R381, d381, g381, h⟩ := h
              obtain ⟨y381, h⟩ := h
              rw [g381] at hG
              refine g_wAi (As := [.ref ba0, .ref ba2, .ref ba1]) (rest := []) (n := 3) hx hb hml hown hts hK hlo hG (g_frI d381 (fun lo => m_L_files 600 6000 l hfl dd cT lo C381 ba0 ba2 ba1 h) lo) qM_L_116 qT_yL_files qN_L qC_yL_files (by decide +kernel) ⟨Nat.le_of_ble_eq_true rfl, Nat.le_of_ble_eq_true rfl⟩ rfl hl.1 rfl (Nat.le_of_ble_eq_true rfl) dL_plays_381 y381 (fun v381x Gx H locs hKx hG => ?_)
              obtain ⟨D381, h, f381, rfl⟩ := hKx
              obtain ⟨G381, i381⟩ : ∃ g : gH, g = gj D381 R381 := ⟨_, rfl⟩
              rw [← i381] at hG
              replace h := h G381 f381 i381
              revert h
              generalize v381x = v381
              intro h
              refine lv_if_ne (tgt := 389) hx hb dL_plays_384 (by decide) (fun c384 => ?_) (fun c384 => ?_)
              · rw [if_neg c384] at h
                refine lv_iinc (v := (bx4 + (1 : Int32))) (lv' := [(4, .int (bx4 + (1 : Int32))), (0, .ref ba0), (1, .ref ba1), (2, .ref ba2)]) hx hb dL_plays_389 hl (k := 3) rfl rfl (by decide) rfl (fun ls hl => ?_)
                refine lv_goto (tgt := 346) hx hb dL_plays_392 (by decide) ?_
                exact ih346 G381 ((((kc + 200) + 1000) + 1500) + 600) ((((ks + 20000) + 10000) + 15000) + 6000) ba0 ba1 ba2 (bx4 + (1 : Int32)) _ _ hG _ (lv_sub hl [1, 2, 3, 0] rfl) h
              · rw [if_pos c384] at h
                refine lv_iconst (v := (0 : Int32)) hx hb dL_plays_387 (by decide) ?_
                obtain ⟨y1, y2, h⟩ := h
                refine W.widen (k := MC) (n := MS) y1 y2 ?_
                exact g_zret hx hb hr hlocks hK hlo hG rfl h dL_plays_388
  have h214 : ∀ n214 : Nat, ∀ (G : gH) (kc ks : Nat) (ba0 : Nat) (ba1 : Nat) (ba2 : Nat) (ba3 : Nat) (bx4 : Int32) (H : Heap) (locs : List Loc), g_S lo dd cT s H locs G → ∀ ls : Array Slot, lv_has ls 8 [(0, .ref ba0), (1, .ref ba1), (2, .ref ba2), (3, .ref ba3), (4, .int bx4)] → w_L_plays_L214 MC MS K n214 G kc ks ba0 ba1 ba2 ba3 bx4 → W p l e (g_rm 10 232 MC MS) s m ([.ref a0, .ref a1] : List Value).toArray below meth c H locs kc ks (MQ below (va_Qi K (g_Pre lo dd cT) (g_A lo)) ([.ref a0, .ref a1] : List Value).toArray s MC MS (g_A lo)) (F0 m 214 ls []) := by
    intro n214
    induction n214 with
    | zero =>
      intro G kc ks ba0 ba1 ba2 ba3 bx4 H locs hG ls hl h
      exact (show False from h).elim
    | succ n214 ih214 =>
      intro G kc ks ba0 ba1 ba2 ba3 bx4 H locs hG ls hl h
      rw [w_L_plays_L214] at h
      refine lv_iload hx hb dL_plays_214 (lv_at hl 4 rfl) ?_
      refine lv_if_le (tgt := 319) hx hb dL_plays_216 (by decide) (fun c216 => ?_) (fun c216 => ?_)
      · rw [if_pos c216] at h
        refine lv_aload_n hx hb dL_plays_319 rfl (lv_at hl 0 rfl) ?_
        refine lv_aload_n hx hb dL_plays_320 rfl (lv_at hl 3 rfl) ?_
        obtain ⟨C321, R321, d321, g321, h⟩ := h
        obtain ⟨u321, o321, h⟩ := h
        obtain ⟨y321, h⟩ := h
        rw [g321] at hG
        refine g_wVq (As := []) (rest := [.ref ba0]) (n := 0) hx hb hml hown hts hK hlo hG (g_frQ d321 (fun lo => m_J4_toString_0e30d 2 1004 l hfl dd cT lo C321 ba3 h) lo) qM_L_70 qI_yJ4_toString_0e30d qS_J4_yJ4_toString_0e30d qN_J4 qC_yJ4_toString_0e30d (by decide +kernel) ⟨Nat.le_of_ble_eq_true rfl, Nat.le_of_ble_eq_true rfl⟩ (by rfl) (g_ob_gj o321) rfl hl.1 rfl (Nat.le_of_ble_eq_true rfl) dL_plays_321 y321 (fun v321x Gx H locs hKx hG => ?_)
        obtain ⟨D321, h, f321, rfl⟩ := hKx
        obtain ⟨G321, i321⟩ : ∃ g : gH, g = gj D321 R321 := ⟨_, rfl⟩
        rw [← i321] at hG
        replace h := h G321 f321 i321
        revert h
        generalize v321x = v321
        intro h
        obtain ⟨r321, rfl, h⟩ := h
        obtain ⟨C324, R324, d324, g324, h⟩ := h
        obtain ⟨y324, h⟩ := h
        rw [g324] at hG
        refine g_wAi (As := [.ref ba0, .ref r321]) (rest := []) (n := 2) hx hb hml hown hts hK hlo hG (g_frI d324 (fun lo => m_L_feeds_A 50 200 l hfl dd cT lo C324 ba0 r321 h) lo) qM_L_97 qT_yL_feeds qN_L qC_yL_feeds (by decide +kernel) ⟨Nat.le_of_ble_eq_true rfl, Nat.le_of_ble_eq_true rfl⟩ rfl hl.1 rfl (Nat.le_of_ble_eq_true rfl) dL_plays_324 y324 (fun v324x Gx H locs hKx hG => ?_)
        obtain ⟨D324, h, f324, rfl⟩ := hKx
        obtain ⟨G324, i324⟩ : ∃ g : gH, g = gj D324 R324 := ⟨_, rfl⟩
        rw [← i324] at hG
        replace h := h G324 f324 i324
        revert h
        generalize v324x = v324
        intro h
        refine lv_if_eq (tgt := 341) hx hb dL_plays_327 (by decide) (fun c327 => ?_) (fun c327 => ?_)
        · rw [if_pos c327] at h
          refine lv_iconst (v := (0 : Int32)) hx hb dL_plays_341 (by decide) ?_
          obtain ⟨y1, y2, h⟩ := h
          refine W.widen (k := MC) (n := MS) y1 y2 ?_
          exact g_zret hx hb hr hlocks hK hlo hG rfl h dL_plays_342
        · rw [if_neg c327] at h
          refine lv_aload_n hx hb dL_plays_330 rfl (lv_at hl 0 rfl) ?_
          refine lv_aload_n hx hb dL_plays_331 rfl (lv_at hl 3 rfl) ?_
          obtain ⟨C332, R332, d332, g332, h⟩ := h
          obtain ⟨u332, o332, h⟩ := h
          obtain ⟨y332, h⟩ := h
          rw [g332] at hG
          refine g_wVi (As := []) (rest := [.ref ba0]) (n := 0) hx hb hml hown hts hK hlo hG (g_frI d332 (fun lo => m_J4_length_8abf5 0 0 l hfl dd cT lo C332 ba3 h) lo) qM_L_101 qI_yJ4_length_8abf5 qS_J4_yJ4_length_8abf5 qN_J4 qC_yJ4_length_8abf5 (by decide +kernel) ⟨Nat.le_of_ble_eq_true rfl, Nat.le_of_ble_eq_true rfl⟩ (by rfl) (g_ob_gj o332) rfl hl.1 rfl (Nat.le_of_ble_eq_true rfl) dL_plays_332 y332 (fun v332x Gx H locs hKx hG => ?_)
          obtain ⟨D332, h, f332, rfl⟩ := hKx
          obtain ⟨G332, i332⟩ : ∃ g : gH, g = gj D332 R332 := ⟨_, rfl⟩
          rw [← i332] at hG
          replace h := h G332 f332 i332
          revert h
          generalize v332x = v332
          intro h
          obtain ⟨C335, R335, d335, g335, h⟩ := h
          obtain ⟨u335, o335, h⟩ := h
          obtain ⟨y335, h⟩ := h
          rw [g335] at hG
          refine g_wVi (As := [.int v332]) (rest := []) (n := 1) hx hb hml hown hts hK hlo hG (g_frI d335 (fun lo => g_noX (m_X9_parse l hfl dd cT lo C335 ba0 v332 h)) lo) qM_L_102 qI_yX9_parse qS_X9_yX9_parse qN_X9 qC_yX9_parse (by decide +kernel) ⟨Nat.le_of_ble_eq_true rfl, Nat.le_of_ble_eq_true rfl⟩ (by rfl) (g_ob_gj o335) rfl hl.1 rfl (Nat.le_of_ble_eq_true rfl) dL_plays_335 y335 (fun v335x Gx H locs hKx hG => ?_)
          obtain ⟨D335, h, f335, rfl⟩ := hKx
          obtain ⟨G335, i335⟩ : ∃ g : gH, g = gj D335 R335 := ⟨_, rfl⟩
          rw [← i335] at hG
          replace h := h G335 f335 i335
          revert h
          generalize v335x = v335
          intro h
          refine lv_if_eq (tgt := 343) hx hb dL_plays_338 (by decide) (fun c338 => ?_) (fun c338 => ?_)
          · rw [if_pos c338] at h
            refine lv_iconst (v := (0 : Int32)) hx hb dL_plays_343 (by decide) ?_
            refine lv_istore (lv' := [(4, .int (0 : Int32)), (0, .ref ba0), (1, .ref ba1), (2, .ref ba2), (3, .ref ba3)]) hx hb dL_plays_344 hl (by decide) rfl (fun ls hl => ?_)
            exact h346 g_N G335 ((((kc + 2) + 50) + 0) + 1) ((((ks + 1004) + 200) + 0) + 6) ba0 ba1 ba2 (0 : Int32) _ _ hG _ (lv_sub hl [1, 2, 3, 0] rfl) h
          · rw [if_neg c338] at h
            refine lv_iconst (v := (0 : Int32)) hx hb dL_plays_341 (by decide) ?_
            obtain ⟨y1, y2, h⟩ := h
            refine W.widen (k := MC) (n := MS) y1 y2 ?_
            exact g_zret hx hb hr hlocks hK hlo hG rfl h dL_plays_342
      · rw [if_neg c216] at h
        refine lv_aload_n hx hb dL_plays_219 rfl (lv_at hl 1 rfl) ?_
        refine lv_aload_n hx hb dL_plays_220 rfl (lv_at hl 2 rfl) ?_
        obtain ⟨v221, e221, h⟩ := h
        refine g_getiN hx hb hts inlX10 hown hK hG (by rfl) 2 (by decide) (List.mem_of_getElem? (i := 2) rfl) e221 dL_plays_221 ?_
        obtain ⟨C224, R224, d224, g224, h⟩ := h
        obtain ⟨y224, h⟩ := h
        obtain ⟨q224, e224, h⟩ := h
        rw [g224] at hG
        refine g_wAi (As := [.ref ba1, .int v221]) (rest := []) (n := 2) hx hb hml hown hts hK hlo hG (g_frI d224 (fun lo => m_L_draw l dd cT lo C224 ba1 v221 e224) lo) qM_L_35 qT_yL_draw qN_L qC_yL_draw (by decide +kernel) ⟨Nat.le_of_ble_eq_true rfl, Nat.le_of_ble_eq_true rfl⟩ rfl hl.1 rfl (Nat.le_of_ble_eq_true rfl) dL_plays_224 y224 (fun v224x Gx H locs hKx hG => ?_)
        obtain ⟨D224, ⟨k224a, k224⟩, f224, l224⟩ := hKx
        rw [l224, k224] at hG
        rw [k224] at f224
        rw [k224a]
        obtain ⟨G224, i224⟩ : ∃ g : gH, g = gj q224.1 R224 := ⟨_, rfl⟩
        rw [← i224] at hG
        replace h := h G224 f224 i224
        refine lv_istore (lv' := [(5, .int q224.2), (0, .ref ba0), (1, .ref ba1), (2, .ref ba2), (3, .ref ba3), (4, .int bx4)]) hx hb dL_plays_227 hl (by decide) rfl (fun ls hl => ?_)
        refine lv_iconst (v := (1 : Int32)) hx hb dL_plays_229 (by decide) ?_
        refine lv_aload_n hx hb dL_plays_230 rfl (lv_at hl 2 rfl) ?_
        refine lv_iconst (v := (4 : Int32)) hx hb dL_plays_231 (by decide) ?_
        obtain ⟨C232, R232, d232, g232, h⟩ := h
        obtain ⟨y232, h⟩ := h
        obtain ⟨q232, e232, h⟩ := h
        rw [g232] at hG
        refine g_wAi (As := [.ref ba1, .int (4 : Int32)]) (rest := [.int (1 : Int32)]) (n := 2) hx hb hml hown hts hK hlo hG (g_frI d232 (fun lo => m_L_draw l dd cT lo C232 ba1 (4 : Int32) e232) lo) qM_L_35 qT_yL_draw qN_L qC_yL_draw (by decide +kernel) ⟨Nat.le_of_ble_eq_true rfl, Nat.le_of_ble_eq_true rfl⟩ rfl hl.1 rfl (Nat.le_of_ble_eq_true rfl) dL_plays_232 y232 (fun v232x Gx H locs hKx hG => ?_)
        obtain ⟨D232, ⟨k232a, k232⟩, f232, l232⟩ := hKx
        rw [l232, k232] at hG
        rw [k232] at f232
        rw [k232a]
        obtain ⟨G232, i232⟩ : ∃ g : gH, g = gj q232.1 R232 := ⟨_, rfl⟩
        rw [← i232] at hG
        replace h := h G232 f232 i232
        refine lv_iadd hx hb dL_plays_235 ?_
        refine lv_istore (lv' := [(6, .int ((1 : Int32) + q232.2)), (5, .int q224.2), (0, .ref ba0), (1, .ref ba1), (2, .ref ba2), (3, .ref ba3), (4, .int bx4)]) hx hb dL_plays_236 hl (by decide) rfl (fun ls hl => ?_)
        refine lv_aload_n hx hb dL_plays_238 rfl (lv_at hl 3 rfl) ?_
        refine lv_sipush (v := (1000 : Int32)) hx hb dL_plays_239 (by decide) ?_
        obtain ⟨C242, R242, d242, g242, h⟩ := h
        obtain ⟨y242, h⟩ := h
        obtain ⟨q242, e242, h⟩ := h
        rw [g242] at hG
        refine g_wAi (As := [.ref ba1, .int (1000 : Int32)]) (rest := []) (n := 2) hx hb hml hown hts hK hlo hG (g_frI d242 (fun lo => m_L_draw l dd cT lo C242 ba1 (1000 : Int32) e242) lo) qM_L_35 qT_yL_draw qN_L qC_yL_draw (by decide +kernel) ⟨Nat.le_of_ble_eq_true rfl, Nat.le_of_ble_eq_true rfl⟩ rfl hl.1 rfl (Nat.le_of_ble_eq_true rfl) dL_plays_242 y242 (fun v242x Gx H locs hKx hG => ?_)
        obtain ⟨D242, ⟨k242a, k242⟩, f242, l242⟩ := hKx
        rw [l242, k242] at hG
        rw [k242] at f242
        rw [k242a]
        obtain ⟨G242, i242⟩ : ∃ g : gH, g = gj q242.1 R242 := ⟨_, rfl⟩
        rw [← i242] at hG
        replace h := h G242 f242 i242
        refine lv_istore (lv' := [(7, .int q242.2), (6, .int ((1 : Int32) + q232.2)), (5, .int q224.2), (0, .ref ba0), (1, .ref ba1), (2, .ref ba2), (3, .ref ba3), (4, .int bx4)]) hx hb dL_plays_245 hl (by decide) rfl (fun ls hl => ?_)
        refine lv_aload_n hx hb dL_plays_247 rfl (lv_at hl 5 rfl) ?_
        refine lv_iload hx hb dL_plays_248 (lv_at hl 2 rfl) ?_
        refine lv_iload hx hb dL_plays_250 (lv_at hl 1 rfl) ?_
        obtain ⟨C252, R252, d252, g252, h⟩ := h
        obtain ⟨u252, o252, h⟩ := h
        obtain ⟨y252, h⟩ := h
        obtain ⟨v252, e252, h⟩ := h
        rw [g252] at hG
        refine g_wVi (As := [.int q224.2, .int ((1 : Int32) + q232.2)]) (rest := []) (n := 2) hx hb hml hown hts hK hlo hG (g_frI d252 (fun lo => m_X10_whyWrite l dd cT lo C252 ba2 q224.2 ((1 : Int32) + q232.2) e252) lo) qM_L_88 qI_yX10_whyWrite qS_X10_yX10_whyWrite qN_X10 qC_yX10_whyWrite (by decide +kernel) ⟨Nat.le_of_ble_eq_true rfl, Nat.le_of_ble_eq_true rfl⟩ (by rfl) (g_ob_gj o252) rfl hl.1 rfl (Nat.le_of_ble_eq_true rfl) dL_plays_252 y252 (fun v252x Gx H locs hKx hG => ?_)
        obtain ⟨D252, ⟨k252a, k252⟩, f252, l252⟩ := hKx
        rw [l252, k252] at hG
        rw [k252] at f252
        rw [k252a]
        rw [← g252] at hG
        refine lv_if_le (tgt := 261) hx hb dL_plays_255 (by decide) (fun c255 => ?_) (fun c255 => ?_)
        · rw [if_pos c255] at h
          refine lv_aload_n hx hb dL_plays_261 rfl (lv_at hl 5 rfl) ?_
          refine lv_iload hx hb dL_plays_262 (lv_at hl 2 rfl) ?_
          refine lv_iload hx hb dL_plays_264 (lv_at hl 1 rfl) ?_
          refine lv_iload hx hb dL_plays_266 (lv_at hl 0 rfl) ?_
          obtain ⟨C268, R268, d268, g268, h⟩ := h
          obtain ⟨u268, o268, h⟩ := h
          obtain ⟨y268, h⟩ := h
          rw [g268] at hG
          refine g_wVi (As := [.int q224.2, .int ((1 : Int32) + q232.2), .int q242.2]) (rest := []) (n := 3) hx hb hml hown hts hK hlo hG (g_frI d268 (fun lo => m_X10_write 6 47 l hfl dd cT lo C268 ba2 q224.2 ((1 : Int32) + q232.2) q242.2 h) lo) qM_L_91 qI_yX10_write qS_X10_yX10_write qN_X10 qC_yX10_write (by decide +kernel) ⟨Nat.le_of_ble_eq_true rfl, Nat.le_of_ble_eq_true rfl⟩ (by rfl) (g_ob_gj o268) rfl hl.1 rfl (Nat.le_of_ble_eq_true rfl) dL_plays_268 y268 (fun v268x Gx H locs hKx hG => ?_)
          obtain ⟨D268, h, f268, rfl⟩ := hKx
          obtain ⟨G268, i268⟩ : ∃ g : gH, g = gj D268 R268 := ⟨_, rfl⟩
          rw [← i268] at hG
          replace h := h G268 f268 i268
          revert h
          generalize v268x = v268
          intro h
          refine lv_pop hx hb dL_plays_271 rfl ?_
          refine lv_aload_n hx hb dL_plays_272 rfl (lv_at hl 6 rfl) ?_
          refine va_ldcS (q := dd.2 102 5) hx hb hown (hG.xl.2.1 _ (List.mem_of_getElem? (i := 5) rfl)) dL_plays_273 ?_
          obtain ⟨C275, R275, d275, g275, h⟩ := h
          obtain ⟨u275, o275, h⟩ := h
          obtain ⟨y275, h⟩ := h
          rw [g275] at hG
          refine g_wVq (As := [.ref (dd.2 102 5)]) (rest := []) (n := 1) hx hb hml hown hts hK hlo hG (g_frQ d275 (fun lo => m_J4_append_15ec4_U 1 1000 l hfl dd cT lo C275 ba3 5 h) lo) qM_L_60 qI_yJ4_append_15ec4 qS_J4_yJ4_append_15ec4 qN_J4 qC_yJ4_append_15ec4 (by decide +kernel) ⟨Nat.le_of_ble_eq_true rfl, Nat.le_of_ble_eq_true rfl⟩ (by rfl) (g_ob_gj o275) rfl hl.1 rfl (Nat.le_of_ble_eq_true rfl) dL_plays_275 y275 (fun v275x Gx H locs hKx hG => ?_)
          obtain ⟨D275, h, f275, rfl⟩ := hKx
          obtain ⟨G275, i275⟩ : ∃ g : gH, g = gj D275 R275 := ⟨_, rfl⟩
          rw [← i275] at hG
          replace h := h G275 f275 i275
          revert h
          generalize v275x = v275
          intro h
          obtain ⟨r275, rfl, h⟩ := h
          refine lv_bipush (v := (97 : Int32)) hx hb dL_plays_278 (by decide) ?_
          refine lv_iload hx hb dL_plays_280 (lv_at hl 2 rfl) ?_
          refine lv_iadd hx hb dL_plays_282 ?_
          refine lv_i2c hx hb dL_plays_283 rfl ?_
          obtain ⟨C284, R284, d284, g284, h⟩ := h
          obtain ⟨u284, o284, h⟩ := h
          obtain ⟨y284, h⟩ := h
          rw [g284] at hG
          refine g_wVq (As := [.int ((((97 : Int32) + q224.2).toUInt32 % 65536).toInt32)]) (rest := []) (n := 1) hx hb hml hown hts hK hlo hG (g_frQ d284 (fun lo => m_J4_append_cf468 1 1000 l hfl dd cT lo C284 r275 ((((97 : Int32) + q224.2).toUInt32 % 65536).toInt32) h) lo) qM_L_83 qI_yJ4_append_cf468 qS_J4_yJ4_append_cf468 qN_J4 qC_yJ4_append_cf468 (by decide +kernel) ⟨Nat.le_of_ble_eq_true rfl, Nat.le_of_ble_eq_true rfl⟩ (by rfl) (g_ob_gj o284) rfl hl.1 rfl (Nat.le_of_ble_eq_true rfl) dL_plays_284 y284 (fun v284x Gx H locs hKx hG => ?_)
          obtain ⟨D284, h, f284, rfl⟩ := hKx
          obtain ⟨G284, i284⟩ : ∃ g : gH, g = gj D284 R284 := ⟨_, rfl⟩
          rw [← i284] at hG
          replace h := h G284 f284 i284
          revert h
          generalize v284x = v284
          intro h
          obtain ⟨r284, rfl, h⟩ := h
          refine lv_bipush (v := (32 : Int32)) hx hb dL_plays_287 (by decide) ?_
          obtain ⟨C289, R289, d289, g289, h⟩ := h
          obtain ⟨u289, o289, h⟩ := h
          obtain ⟨y289, h⟩ := h
          rw [g289] at hG
          refine g_wVq (As := [.int (32 : Int32)]) (rest := []) (n := 1) hx hb hml hown hts hK hlo hG (g_frQ d289 (fun lo => m_J4_append_cf468 1 1000 l hfl dd cT lo C289 r284 (32 : Int32) h) lo) qM_L_83 qI_yJ4_append_cf468 qS_J4_yJ4_append_cf468 qN_J4 qC_yJ4_append_cf468 (by decide +kernel) ⟨Nat.le_of_ble_eq_true rfl, Nat.le_of_ble_eq_true rfl⟩ (by rfl) (g_ob_gj o289) rfl hl.1 rfl (Nat.le_of_ble_eq_true rfl) dL_plays_289 y289 (fun v289x Gx H locs hKx hG => ?_)
          obtain ⟨D289, h, f289, rfl⟩ := hKx
          obtain ⟨G289, i289⟩ : ∃ g : gH, g = gj D289 R289 := ⟨_, rfl⟩
          rw [← i289] at hG
          replace h := h G289 f289 i289
          revert h
          generalize v289x = v289
          intro h
          obtain ⟨r289, rfl, h⟩ := h
          refine lv_iload hx hb dL_plays_292 (lv_at hl 1 rfl) ?_
          obtain ⟨C294, R294, d294, g294, h⟩ := h
          obtain ⟨u294, o294, h⟩ := h
          obtain ⟨y294, h⟩ := h
          rw [g294] at hG
          refine g_wVq (As := [.int ((1 : Int32) + q232.2)]) (rest := []) (n := 1) hx hb hml hown hts hK hlo hG (g_frQ d294 (fun lo => m_J4_append_bf812 1 1000 l hfl dd cT lo C294 r289 ((1 : Int32) + q232.2) h) lo) qM_L_63 qI_yJ4_append_bf812 qS_J4_yJ4_append_bf812 qN_J4 qC_yJ4_append_bf812 (by decide +kernel) ⟨Nat.le_of_ble_eq_true rfl, Nat.le_of_ble_eq_true rfl⟩ (by rfl) (g_ob_gj o294) rfl hl.1 rfl (Nat.le_of_ble_eq_true rfl) dL_plays_294 y294 (fun v294x Gx H locs hKx hG => ?_)
          obtain ⟨D294, h, f294, rfl⟩ := hKx
          obtain ⟨G294, i294⟩ : ∃ g : gH, g = gj D294 R294 := ⟨_, rfl⟩
          rw [← i294] at hG
          replace h := h G294 f294 i294
          revert h
          generalize v294x = v294
          intro h
          obtain ⟨r294, rfl, h⟩ := h
          refine lv_bipush (v := (32 : Int32)) hx hb dL_plays_297 (by decide) ?_
          obtain ⟨C299, R299, d299, g299, h⟩ := h
          obtain ⟨u299, o299, h⟩ := h
          obtain ⟨y299, h⟩ := h
          rw [g299] at hG
          refine g_wVq (As := [.int (32 : Int32)]) (rest := []) (n := 1) hx hb hml hown hts hK hlo hG (g_frQ d299 (fun lo => m_J4_append_cf468 1 1000 l hfl dd cT lo C299 r294 (32 : Int32) h) lo) qM_L_83 qI_yJ4_append_cf468 qS_J4_yJ4_append_cf468 qN_J4 qC_yJ4_append_cf468 (by decide +kernel) ⟨Nat.le_of_ble_eq_true rfl, Nat.le_of_ble_eq_true rfl⟩ (by rfl) (g_ob_gj o299) rfl hl.1 rfl (Nat.le_of_ble_eq_true rfl) dL_plays_299 y299 (fun v299x Gx H locs hKx hG => ?_)
          obtain ⟨D299, h, f299, rfl⟩ := hKx
          obtain ⟨G299, i299⟩ : ∃ g : gH, g = gj D299 R299 := ⟨_, rfl⟩
          rw [← i299] at hG
          replace h := h G299 f299 i299
          revert h
          generalize v299x = v299
          intro h
          obtain ⟨r299, rfl, h⟩ := h
          refine lv_iload hx hb dL_plays_302 (lv_at hl 0 rfl) ?_
          obtain ⟨C304, R304, d304, g304, h⟩ := h
          obtain ⟨u304, o304, h⟩ := h
          obtain ⟨y304, h⟩ := h
          rw [g304] at hG
          refine g_wVq (As := [.int q242.2]) (rest := []) (n := 1) hx hb hml hown hts hK hlo hG (g_frQ d304 (fun lo => m_J4_append_bf812 1 1000 l hfl dd cT lo C304 r299 q242.2 h) lo) qM_L_63 qI_yJ4_append_bf812 qS_J4_yJ4_append_bf812 qN_J4 qC_yJ4_append_bf812 (by decide +kernel) ⟨Nat.le_of_ble_eq_true rfl, Nat.le_of_ble_eq_true rfl⟩ (by rfl) (g_ob_gj o304) rfl hl.1 rfl (Nat.le_of_ble_eq_true rfl) dL_plays_304 y304 (fun v304x Gx H locs hKx hG => ?_)
          obtain ⟨D304, h, f304, rfl⟩ := hKx
          obtain ⟨G304, i304⟩ : ∃ g : gH, g = gj D304 R304 := ⟨_, rfl⟩
          rw [← i304] at hG
          replace h := h G304 f304 i304
          revert h
          generalize v304x = v304
          intro h
          obtain ⟨r304, rfl, h⟩ := h
          refine lv_bipush (v := (59 : Int32)) hx hb dL_plays_307 (by decide) ?_
          obtain ⟨C309, R309, d309, g309, h⟩ := h
          obtain ⟨u309, o309, h⟩ := h
          obtain ⟨y309, h⟩ := h
          rw [g309] at hG
          refine g_wVq (As := [.int (59 : Int32)]) (rest := []) (n := 1) hx hb hml hown hts hK hlo hG (g_frQ d309 (fun lo => m_J4_append_cf468 1 1000 l hfl dd cT lo C309 r304 (59 : Int32) h) lo) qM_L_83 qI_yJ4_append_cf468 qS_J4_yJ4_append_cf468 qN_J4 qC_yJ4_append_cf468 (by decide +kernel) ⟨Nat.le_of_ble_eq_true rfl, Nat.le_of_ble_eq_true rfl⟩ (by rfl) (g_ob_gj o309) rfl hl.1 rfl (Nat.le_of_ble_eq_true rfl) dL_plays_309 y309 (fun v309x Gx H locs hKx hG => ?_)
          obtain ⟨D309, h, f309, rfl⟩ := hKx
          obtain ⟨G309, i309⟩ : ∃ g : gH, g = gj D309 R309 := ⟨_, rfl⟩
          rw [← i309] at hG
          replace h := h G309 f309 i309
          revert h
          generalize v309x = v309
          intro h
          obtain ⟨r309, rfl, h⟩ := h
          refine lv_pop hx hb dL_plays_312 rfl ?_
          refine lv_iinc (v := (bx4 + (-1 : Int32))) (lv' := [(4, .int (bx4 + (-1 : Int32))), (7, .int q242.2), (6, .int ((1 : Int32) + q232.2)), (5, .int q224.2), (0, .ref ba0), (1, .ref ba1), (2, .ref ba2), (3, .ref ba3)]) hx hb dL_plays_313 hl (k := 7) rfl rfl (by decide) rfl (fun ls hl => ?_)
          refine lv_goto (tgt := 214) hx hb dL_plays_316 (by decide) ?_
          exact ih214 G309 ((((((((kc + 6) + 1) + 1) + 1) + 1) + 1) + 1) + 1) ((((((((ks + 47) + 1000) + 1000) + 1000) + 1000) + 1000) + 1000) + 1000) ba0 ba1 ba2 ba3 (bx4 + (-1 : Int32)) _ _ hG _ (lv_sub hl [4, 5, 6, 7, 0] rfl) h
        · rw [if_neg c255] at h
          refine lv_goto (tgt := 313) hx hb dL_plays_258 (by decide) ?_
          refine lv_iinc (v := (bx4 + (-1 : Int32))) (lv' := [(4, .int (bx4 + (-1 : Int32))), (7, .int q242.2), (6, .int ((1 : Int32) + q232.2)), (5, .int q224.2), (0, .ref ba0), (1, .ref ba1), (2, .ref ba2), (3, .ref ba3)]) hx hb dL_plays_313 hl (k := 7) rfl rfl (by decide) rfl (fun ls hl => ?_)
          refine lv_goto (tgt := 214) hx hb dL_plays_316 (by decide) ?_
          exact ih214 G242 kc ks ba0 ba1 ba2 ba3 (bx4 + (-1 : Int32)) _ _ hG _ (lv_sub hl [4, 5, 6, 7, 0] rfl) h
  have h171 : ∀ n171 : Nat, ∀ (G : gH) (kc ks : Nat) (ba0 : Nat) (ba1 : Nat) (ba2 : Nat) (ba3 : Nat) (bx4 : Int32) (H : Heap) (locs : List Loc), g_S lo dd cT s H locs G → ∀ ls : Array Slot, lv_has ls 8 [(0, .ref ba0), (1, .ref ba1), (2, .ref ba2), (3, .ref ba3), (4, .int bx4)] → w_L_plays_L171 MC MS K n171 G kc ks ba0 ba1 ba2 ba3 bx4 → W p l e (g_rm 10 232 MC MS) s m ([.ref a0, .ref a1] : List Value).toArray below meth c H locs kc ks (MQ below (va_Qi K (g_Pre lo dd cT) (g_A lo)) ([.ref a0, .ref a1] : List Value).toArray s MC MS (g_A lo)) (F0 m 171 ls []) := by
    intro n171
    induction n171 with
    | zero =>
      intro G kc ks ba0 ba1 ba2 ba3 bx4 H locs hG ls hl h
      exact (show False from h).elim
    | succ n171 ih171 =>
      intro G kc ks ba0 ba1 ba2 ba3 bx4 H locs hG ls hl h
      rw [w_L_plays_L171] at h
      refine lv_iload hx hb dL_plays_171 (lv_at hl 4 rfl) ?_
      refine lv_aload_n hx hb dL_plays_173 rfl (lv_at hl 2 rfl) ?_
      obtain ⟨v174, e174, h⟩ := h
      refine g_getiN hx hb hts inlX10 hown hK hG (by rfl) 2 (by decide) (List.mem_of_getElem? (i := 2) rfl) e174 dL_plays_174 ?_
      refine lv_icmp_ge (tgt := 207) hx hb dL_plays_177 (by decide) (fun c177 => ?_) (fun c177 => ?_)
      · rw [if_pos c177] at h
        refine lv_aload_n hx hb dL_plays_207 rfl (lv_at hl 1 rfl) ?_
        refine lv_iconst (v := (4 : Int32)) hx hb dL_plays_208 (by decide) ?_
        obtain ⟨C209, R209, d209, g209, h⟩ := h
        obtain ⟨y209, h⟩ := h
        obtain ⟨q209, e209, h⟩ := h
        rw [g209] at hG
        refine g_wAi (As := [.ref ba1, .int (4 : Int32)]) (rest := []) (n := 2) hx hb hml hown hts hK hlo hG (g_frI d209 (fun lo => m_L_draw l dd cT lo C209 ba1 (4 : Int32) e209) lo) qM_L_35 qT_yL_draw qN_L qC_yL_draw (by decide +kernel) ⟨Nat.le_of_ble_eq_true rfl, Nat.le_of_ble_eq_true rfl⟩ rfl hl.1 rfl (Nat.le_of_ble_eq_true rfl) dL_plays_209 y209 (fun v209x Gx H locs hKx hG => ?_)
        obtain ⟨D209, ⟨k209a, k209⟩, f209, l209⟩ := hKx
        rw [l209, k209] at hG
        rw [k209] at f209
        rw [k209a]
        obtain ⟨G209, i209⟩ : ∃ g : gH, g = gj q209.1 R209 := ⟨_, rfl⟩
        rw [← i209] at hG
        replace h := h G209 f209 i209
        refine lv_istore (lv' := [(4, .int q209.2), (0, .ref ba0), (1, .ref ba1), (2, .ref ba2), (3, .ref ba3)]) hx hb dL_plays_212 hl (by decide) rfl (fun ls hl => ?_)
        exact h214 g_N G209 kc ks ba0 ba1 ba2 ba3 q209.2 _ _ hG _ (lv_sub hl [1, 2, 3, 4, 0] rfl) h
      · rw [if_neg c177] at h
        refine lv_aload_n hx hb dL_plays_180 rfl (lv_at hl 3 rfl) ?_
        refine va_ldcS (q := dd.2 102 4) hx hb hown (hG.xl.2.1 _ (List.mem_of_getElem? (i := 4) rfl)) dL_plays_181 ?_
        obtain ⟨C183, R183, d183, g183, h⟩ := h
        obtain ⟨u183, o183, h⟩ := h
        obtain ⟨y183, h⟩ := h
        rw [g183] at hG
        refine g_wVq (As := [.ref (dd.2 102 4)]) (rest := []) (n := 1) hx hb hml hown hts hK hlo hG (g_frQ d183 (fun lo => m_J4_append_15ec4_U 1 1000 l hfl dd cT lo C183 ba3 4 h) lo) qM_L_60 qI_yJ4_append_15ec4 qS_J4_yJ4_append_15ec4 qN_J4 qC_yJ4_append_15ec4 (by decide +kernel) ⟨Nat.le_of_ble_eq_true rfl, Nat.le_of_ble_eq_true rfl⟩ (by rfl) (g_ob_gj o183) rfl hl.1 rfl (Nat.le_of_ble_eq_true rfl) dL_plays_183 y183 (fun v183x Gx H locs hKx hG => ?_)
        obtain ⟨D183, h, f183, rfl⟩ := hKx
        obtain ⟨G183, i183⟩ : ∃ g : gH, g = gj D183 R183 := ⟨_, rfl⟩
        rw [← i183] at hG
        replace h := h G183 f183 i183
        revert h
        generalize v183x = v183
        intro h
        obtain ⟨r183, rfl, h⟩ := h
        refine lv_bipush (v := (97 : Int32)) hx hb dL_plays_186 (by decide) ?_
        refine lv_iload hx hb dL_plays_188 (lv_at hl 4 rfl) ?_
        refine lv_iadd hx hb dL_plays_190 ?_
        refine lv_i2c hx hb dL_plays_191 rfl ?_
        obtain ⟨C192, R192, d192, g192, h⟩ := h
        obtain ⟨u192, o192, h⟩ := h
        obtain ⟨y192, h⟩ := h
        rw [g192] at hG
        refine g_wVq (As := [.int ((((97 : Int32) + bx4).toUInt32 % 65536).toInt32)]) (rest := []) (n := 1) hx hb hml hown hts hK hlo hG (g_frQ d192 (fun lo => m_J4_append_cf468 1 1000 l hfl dd cT lo C192 r183 ((((97 : Int32) + bx4).toUInt32 % 65536).toInt32) h) lo) qM_L_83 qI_yJ4_append_cf468 qS_J4_yJ4_append_cf468 qN_J4 qC_yJ4_append_cf468 (by decide +kernel) ⟨Nat.le_of_ble_eq_true rfl, Nat.le_of_ble_eq_true rfl⟩ (by rfl) (g_ob_gj o192) rfl hl.1 rfl (Nat.le_of_ble_eq_true rfl) dL_plays_192 y192 (fun v192x Gx H locs hKx hG => ?_)
        obtain ⟨D192, h, f192, rfl⟩ := hKx
        obtain ⟨G192, i192⟩ : ∃ g : gH, g = gj D192 R192 := ⟨_, rfl⟩
        rw [← i192] at hG
        replace h := h G192 f192 i192
        revert h
        generalize v192x = v192
        intro h
        obtain ⟨r192, rfl, h⟩ := h
        refine lv_bipush (v := (59 : Int32)) hx hb dL_plays_195 (by decide) ?_
        obtain ⟨C197, R197, d197, g197, h⟩ := h
        obtain ⟨u197, o197, h⟩ := h
        obtain ⟨y197, h⟩ := h
        rw [g197] at hG
        refine g_wVq (As := [.int (59 : Int32)]) (rest := []) (n := 1) hx hb hml hown hts hK hlo hG (g_frQ d197 (fun lo => m_J4_append_cf468 1 1000 l hfl dd cT lo C197 r192 (59 : Int32) h) lo) qM_L_83 qI_yJ4_append_cf468 qS_J4_yJ4_append_cf468 qN_J4 qC_yJ4_append_cf468 (by decide +kernel) ⟨Nat.le_of_ble_eq_true rfl, Nat.le_of_ble_eq_true rfl⟩ (by rfl) (g_ob_gj o197) rfl hl.1 rfl (Nat.le_of_ble_eq_true rfl) dL_plays_197 y197 (fun v197x Gx H locs hKx hG => ?_)
        obtain ⟨D197, h, f197, rfl⟩ := hKx
        obtain ⟨G197, i197⟩ : ∃ g : gH, g = gj D197 R197 := ⟨_, rfl⟩
        rw [← i197] at hG
        replace h := h G197 f197 i197
        revert h
        generalize v197x = v197
        intro h
        obtain ⟨r197, rfl, h⟩ := h
        refine lv_pop hx hb dL_plays_200 rfl ?_
        refine lv_iinc (v := (bx4 + (1 : Int32))) (lv' := [(4, .int (bx4 + (1 : Int32))), (0, .ref ba0), (1, .ref ba1), (2, .ref ba2), (3, .ref ba3)]) hx hb dL_plays_201 hl (k := 4) rfl rfl (by decide) rfl (fun ls hl => ?_)
        refine lv_goto (tgt := 171) hx hb dL_plays_204 (by decide) ?_
        exact ih171 G197 (((kc + 1) + 1) + 1) (((ks + 1000) + 1000) + 1000) ba0 ba1 ba2 ba3 (bx4 + (1 : Int32)) _ _ hG _ (lv_sub hl [1, 2, 3, 4, 0] rfl) h
  have h109 : ∀ n109 : Nat, ∀ (G : gH) (kc ks : Nat) (ba0 : Nat) (ba1 : Nat) (ba2 : Nat) (ba3 : Nat) (bx4 : Int32) (H : Heap) (locs : List Loc), g_S lo dd cT s H locs G → ∀ ls : Array Slot, lv_has ls 8 [(0, .ref ba0), (1, .ref ba1), (2, .ref ba2), (3, .ref ba3), (4, .int bx4)] → w_L_plays_L109 MC MS K n109 G kc ks ba0 ba1 ba2 ba3 bx4 → W p l e (g_rm 10 232 MC MS) s m ([.ref a0, .ref a1] : List Value).toArray below meth c H locs kc ks (MQ below (va_Qi K (g_Pre lo dd cT) (g_A lo)) ([.ref a0, .ref a1] : List Value).toArray s MC MS (g_A lo)) (F0 m 109 ls []) := by
    intro n109
    induction n109 with
    | zero =>
      intro G kc ks ba0 ba1 ba2 ba3 bx4 H locs hG ls hl h
      exact (show False from h).elim
    | succ n109 ih109 =>
      intro G kc ks ba0 ba1 ba2 ba3 bx4 H locs hG ls hl h
      rw [w_L_plays_L109] at h
      refine lv_iload hx hb dL_plays_109 (lv_at hl 4 rfl) ?_
      refine lv_if_le (tgt := 168) hx hb dL_plays_111 (by decide) (fun c111 => ?_) (fun c111 => ?_)
      · rw [if_pos c111] at h
        refine lv_iconst (v := (0 : Int32)) hx hb dL_plays_168 (by decide) ?_
        refine lv_istore (lv' := [(4, .int (0 : Int32)), (0, .ref ba0), (1, .ref ba1), (2, .ref ba2), (3, .ref ba3)]) hx hb dL_plays_169 hl (by decide) rfl (fun ls hl => ?_)
        exact h171 g_N G kc ks ba0 ba1 ba2 ba3 (0 : Int32) _ _ hG _ (lv_sub hl [1, 2, 3, 4, 0] rfl) h
      · rw [if_neg c111] at h
        refine lv_aload_n hx hb dL_plays_114 rfl (lv_at hl 1 rfl) ?_
        refine lv_aload_n hx hb dL_plays_115 rfl (lv_at hl 2 rfl) ?_
        obtain ⟨v116, e116, h⟩ := h
        refine g_getiN hx hb hts inlX10 hown hK hG (by rfl) 0 (by decide) (List.mem_of_getElem? (i := 0) rfl) e116 dL_plays_116 ?_
        obtain ⟨C119, R119, d119, g119, h⟩ := h
        obtain ⟨y119, h⟩ := h
        obtain ⟨q119, e119, h⟩ := h
        rw [g119] at hG
        refine g_wAi (As := [.ref ba1, .int v116]) (rest := []) (n := 2) hx hb hml hown hts hK hlo hG (g_frI d119 (fun lo => m_L_draw l dd cT lo C119 ba1 v116 e119) lo) qM_L_35 qT_yL_draw qN_L qC_yL_draw (by decide +kernel) ⟨Nat.le_of_ble_eq_true rfl, Nat.le_of_ble_eq_true rfl⟩ rfl hl.1 rfl (Nat.le_of_ble_eq_true rfl) dL_plays_119 y119 (fun v119x Gx H locs hKx hG => ?_)
        obtain ⟨D119, ⟨k119a, k119⟩, f119, l119⟩ := hKx
        rw [l119, k119] at hG
        rw [k119] at f119
        rw [k119a]
        obtain ⟨G119, i119⟩ : ∃ g : gH, g = gj q119.1 R119 := ⟨_, rfl⟩
        rw [← i119] at hG
        replace h := h G119 f119 i119
        refine lv_istore (lv' := [(5, .int q119.2), (0, .ref ba0), (1, .ref ba1), (2, .ref ba2), (3, .ref ba3), (4, .int bx4)]) hx hb dL_plays_122 hl (by decide) rfl (fun ls hl => ?_)
        refine lv_aload_n hx hb dL_plays_124 rfl (lv_at hl 3 rfl) ?_
        obtain ⟨v125, e125, h⟩ := h
        refine g_getrN hx hb hts inlX10 hown hK hG (by rfl) 12 (by decide) (List.mem_of_getElem? (i := 3) rfl) e125 dL_plays_125 ?_
        refine lv_iload hx hb dL_plays_128 (lv_at hl 0 rfl) ?_
        obtain ⟨v130, e130, h⟩ := h
        refine g_zald hx hb hK hG e130 dL_plays_130 ?_
        refine lv_if_eq (tgt := 137) hx hb dL_plays_131 (by decide) (fun c131 => ?_) (fun c131 => ?_)
        · rw [if_pos c131] at h
          refine lv_aload_n hx hb dL_plays_137 rfl (lv_at hl 3 rfl) ?_
          obtain ⟨v138, e138, h⟩ := h
          refine g_getrN hx hb hts inlX10 hown hK hG (by rfl) 12 (by decide) (List.mem_of_getElem? (i := 3) rfl) e138 dL_plays_138 ?_
          refine lv_iload hx hb dL_plays_141 (lv_at hl 0 rfl) ?_
          refine lv_iconst (v := (1 : Int32)) hx hb dL_plays_143 (by decide) ?_
          obtain ⟨G144, e144, h⟩ := h
          refine g_zast hx hb hK hG e144 dL_plays_144 (fun H locs hG => ?_)
          refine lv_aload_n hx hb dL_plays_145 rfl (lv_at hl 4 rfl) ?_
          refine va_ldcS (q := dd.2 102 3) hx hb hown (hG.xl.2.1 _ (List.mem_of_getElem? (i := 3) rfl)) dL_plays_146 ?_
          obtain ⟨C148, R148, d148, g148, h⟩ := h
          obtain ⟨u148, o148, h⟩ := h
          obtain ⟨y148, h⟩ := h
          rw [g148] at hG
          refine g_wVq (As := [.ref (dd.2 102 3)]) (rest := []) (n := 1) hx hb hml hown hts hK hlo hG (g_frQ d148 (fun lo => m_J4_append_15ec4_U 1 1000 l hfl dd cT lo C148 ba3 3 h) lo) qM_L_60 qI_yJ4_append_15ec4 qS_J4_yJ4_append_15ec4 qN_J4 qC_yJ4_append_15ec4 (by decide +kernel) ⟨Nat.le_of_ble_eq_true rfl, Nat.le_of_ble_eq_true rfl⟩ (by rfl) (g_ob_gj o148) rfl hl.1 rfl (Nat.le_of_ble_eq_true rfl) dL_plays_148 y148 (fun v148x Gx H locs hKx hG => ?_)
          obtain ⟨D148, h, f148, rfl⟩ := hKx
          obtain ⟨G148, i148⟩ : ∃ g : gH, g = gj D148 R148 := ⟨_, rfl⟩
          rw [← i148] at hG
          replace h := h G148 f148 i148
          revert h
          generalize v148x = v148
          intro h
          obtain ⟨r148, rfl, h⟩ := h
          refine lv_iload hx hb dL_plays_151 (lv_at hl 0 rfl) ?_
          obtain ⟨C153, R153, d153, g153, h⟩ := h
          obtain ⟨u153, o153, h⟩ := h
          obtain ⟨y153, h⟩ := h
          rw [g153] at hG
          refine g_wVq (As := [.int q119.2]) (rest := []) (n := 1) hx hb hml hown hts hK hlo hG (g_frQ d153 (fun lo => m_J4_append_bf812 1 1000 l hfl dd cT lo C153 r148 q119.2 h) lo) qM_L_63 qI_yJ4_append_bf812 qS_J4_yJ4_append_bf812 qN_J4 qC_yJ4_append_bf812 (by decide +kernel) ⟨Nat.le_of_ble_eq_true rfl, Nat.le_of_ble_eq_true rfl⟩ (by rfl) (g_ob_gj o153) rfl hl.1 rfl (Nat.le_of_ble_eq_true rfl) dL_plays_153 y153 (fun v153x Gx H locs hKx hG => ?_)
          obtain ⟨D153, h, f153, rfl⟩ := hKx
          obtain ⟨G153, i153⟩ : ∃ g : gH, g = gj D153 R153 := ⟨_, rfl⟩
          rw [← i153] at hG
          replace h := h G153 f153 i153
          revert h
          generalize v153x = v153
          intro h
          obtain ⟨r153, rfl, h⟩ := h
          refine lv_bipush (v := (59 : Int32)) hx hb dL_plays_156 (by decide) ?_
          obtain ⟨C158, R158, d158, g158, h⟩ := h
          obtain ⟨u158, o158, h⟩ := h
          obtain ⟨y158, h⟩ := h
          rw [g158] at hG
          refine g_wVq (As := [.int (59 : Int32)]) (rest := []) (n := 1) hx hb hml hown hts hK hlo hG (g_frQ d158 (fun lo => m_J4_append_cf468 1 1000 l hfl dd cT lo C158 r153 (59 : Int32) h) lo) qM_L_83 qI_yJ4_append_cf468 qS_J4_yJ4_append_cf468 qN_J4 qC_yJ4_append_cf468 (by decide +kernel) ⟨Nat.le_of_ble_eq_true rfl, Nat.le_of_ble_eq_true rfl⟩ (by rfl) (g_ob_gj o158) rfl hl.1 rfl (Nat.le_of_ble_eq_true rfl) dL_plays_158 y158 (fun v158x Gx H locs hKx hG => ?_)
          obtain ⟨D158, h, f158, rfl⟩ := hKx
          obtain ⟨G158, i158⟩ : ∃ g : gH, g = gj D158 R158 := ⟨_, rfl⟩
          rw [← i158] at hG
          replace h := h G158 f158 i158
          revert h
          generalize v158x = v158
          intro h
          obtain ⟨r158, rfl, h⟩ := h
          refine lv_pop hx hb dL_plays_161 rfl ?_
          refine lv_iinc (v := (bx4 + (-1 : Int32))) (lv' := [(4, .int (bx4 + (-1 : Int32))), (5, .int q119.2), (0, .ref ba0), (1, .ref ba1), (2, .ref ba2), (3, .ref ba3)]) hx hb dL_plays_162 hl (k := 5) rfl rfl (by decide) rfl (fun ls hl => ?_)
          refine lv_goto (tgt := 109) hx hb dL_plays_165 (by decide) ?_
          exact ih109 G158 (((kc + 1) + 1) + 1) (((ks + 1000) + 1000) + 1000) ba0 ba1 ba2 ba3 (bx4 + (-1 : Int32)) _ _ hG _ (lv_sub hl [2, 3, 4, 5, 0] rfl) h
        · rw [if_neg c131] at h
          refine lv_goto (tgt := 162) hx hb dL_plays_134 (by decide) ?_
          refine lv_iinc (v := (bx4 + (-1 : Int32))) (lv' := [(4, .int (bx4 + (-1 : Int32))), (5, .int q119.2), (0, .ref ba0), (1, .ref ba1), (2, .ref ba2), (3, .ref ba3)]) hx hb dL_plays_162 hl (k := 5) rfl rfl (by decide) rfl (fun ls hl => ?_)
          refine lv_goto (tgt := 109) hx hb dL_plays_165 (by decide) ?_
          exact ih109 G119 kc ks ba0 ba1 ba2 ba3 (bx4 + (-1 : Int32)) _ _ hG _ (lv_sub hl [2, 3, 4, 5, 0] rfl) h
  unfold w_L_plays at h
  obtain ⟨y0, h⟩ := h
  refine g_new (ci := 10) (fs := [.int 0, .int 0, .int 0, .int 0, .int 0, .int 0, .int 0, .null, .null, .null, .null, .null, .null, .null, .null, .null, .null]) hx hb hts inlX10 tyX10 tyX10_ok hown hK hlo hG rfl qL_L_32 qA_X10 qN_X10 (fun j hj => by rcases (show j = 0 ∨ j = 1 ∨ j = 2 ∨ j = 3 ∨ j = 4 ∨ j = 5 ∨ j = 6 ∨ j = 7 ∨ j = 8 ∨ j = 9 ∨ j = 10 ∨ j = 11 ∨ j = 12 ∨ j = 13 ∨ j = 14 ∨ j = 15 ∨ j = 16 by omega) with rfl | rfl | rfl | rfl | rfl | rfl | rfl | rfl | rfl | rfl | rfl | rfl | rfl | rfl | rfl | rfl | rfl <;> rfl) y0 dL_plays_0 (fun q0 H z0 hG => ?_)
  obtain ⟨G0, i0⟩ : ∃ g : gH, g = va_up G q0 (some (.inr (.inr (.inr (10, [.int 0, .int 0, .int 0, .int 0, .int 0, .int 0, .int 0, .null, .null, .null, .null, .null, .null, .null, .null, .null, .null]))))) := ⟨_, rfl⟩
  rw [← i0] at hG
  replace h := h q0 z0 G0 i0
  refine lv_dup hx hb dL_plays_3 rfl ?_
  obtain ⟨C4, R4, d4, g4, h⟩ := h
  obtain ⟨y4, h⟩ := h
  rw [g4] at hG
  refine g_wIP (b := q0) (As := []) (rest := [.ref q0]) (n := 0) hx hb hml hown hts hK hlo hG (g_frV d4 (fun lo => m_X10_init 10 876 l hfl dd cT lo C4 q0 h) lo) qM_L_34 qI_yX10_init rfl qN_X10 qC_yX10_init (by decide +kernel) ⟨Nat.le_of_ble_eq_true rfl, Nat.le_of_ble_eq_true rfl⟩ rfl hl.1 rfl (Nat.le_of_ble_eq_true rfl) dL_plays_4 y4 (fun Gx H locs hKx hG => ?_)
  obtain ⟨D4, h, f4, rfl⟩ := hKx
  obtain ⟨G4, i4⟩ : ∃ g : gH, g = gj D4 R4 := ⟨_, rfl⟩
  rw [← i4] at hG
  replace h := h G4 f4 i4
  refine lv_astore_n (lv' := [(2, .ref q0), (0, .ref a0), (1, .ref a1)]) hx hb dL_plays_7 rfl hl (by decide) rfl (fun ls hl => ?_)
  refine lv_aload_n hx hb dL_plays_8 rfl (lv_at hl 0 rfl) ?_
  refine lv_bipush (v := (8 : Int32)) hx hb dL_plays_9 (by decide) ?_
  refine lv_aload_n hx hb dL_plays_11 rfl (lv_at hl 2 rfl) ?_
  refine lv_bipush (v := (40 : Int32)) hx hb dL_plays_12 (by decide) ?_
  obtain ⟨C14, R14, d14, g14, h⟩ := h
  obtain ⟨y14, h⟩ := h
  obtain ⟨q14, e14, h⟩ := h
  rw [g14] at hG
  refine g_wAi (As := [.ref a1, .int (40 : Int32)]) (rest := [.int (8 : Int32), .ref q0]) (n := 2) hx hb hml hown hts hK hlo hG (g_frI d14 (fun lo => m_L_draw l dd cT lo C14 a1 (40 : Int32) e14) lo) qM_L_35 qT_yL_draw qN_L qC_yL_draw (by decide +kernel) ⟨Nat.le_of_ble_eq_true rfl, Nat.le_of_ble_eq_true rfl⟩ rfl hl.1 rfl (Nat.le_of_ble_eq_true rfl) dL_plays_14 y14 (fun v14x Gx H locs hKx hG => ?_)
  obtain ⟨D14, ⟨k14a, k14⟩, f14, l14⟩ := hKx
  rw [l14, k14] at hG
  rw [k14] at f14
  rw [k14a]
  obtain ⟨G14, i14⟩ : ∃ g : gH, g = gj q14.1 R14 := ⟨_, rfl⟩
  rw [← i14] at hG
  replace h := h G14 f14 i14
  refine lv_iadd hx hb dL_plays_17 ?_
  obtain ⟨G18, i18, h⟩ := h
  refine g_putvN hx hb hts inlX10 tyX10 tyX10_ok nmX10 hown hK hG (by rfl) 0 (by decide) (List.mem_of_getElem? (i := 0) rfl) rfl rfl rfl rfl i18 dL_plays_18 (fun H locs hG => ?_)
  refine lv_aload_n hx hb dL_plays_21 rfl (lv_at hl 0 rfl) ?_
  refine lv_aload_n hx hb dL_plays_22 rfl (lv_at hl 2 rfl) ?_
  refine lv_aload_n hx hb dL_plays_23 rfl (lv_at hl 0 rfl) ?_
  obtain ⟨v24, e24, h⟩ := h
  refine g_getiN hx hb hts inlX10 hown hK hG (by rfl) 0 (by decide) (List.mem_of_getElem? (i := 0) rfl) e24 dL_plays_24 ?_
  refine lv_iconst (v := (2 : Int32)) hx hb dL_plays_27 (by decide) ?_
  refine lv_idiv hx hb dL_plays_28 (by decide) ?_
  refine lv_bipush (v := (8 : Int32)) hx hb dL_plays_29 (by decide) ?_
  obtain ⟨y31, h⟩ := h
  refine va_mmin hx hb (hml.trans hl.1.symm) hown (hts _ qM_L_43) (hts _ qT_Lib_Math_min_name) (hts _ qN_java_lang_Math) (hts _ qC_Lib_Math_min_name) (Nat.le_of_ble_eq_true rfl) (Nat.le_of_ble_eq_true rfl) y31.1 y31.2 dL_plays_31 ?_
  refine lv_iconst (v := (1 : Int32)) hx hb dL_plays_34 (by decide) ?_
  refine lv_iadd hx hb dL_plays_35 ?_
  obtain ⟨C36, R36, d36, g36, h⟩ := h
  obtain ⟨y36, h⟩ := h
  obtain ⟨q36, e36, h⟩ := h
  rw [g36] at hG
  refine g_wAi (As := [.ref a1, .int ((if (8 : Int32) < (v24 / (2 : Int32)) then (8 : Int32) else (v24 / (2 : Int32))) + (1 : Int32))]) (rest := [.ref q0]) (n := 2) hx hb hml hown hts hK hlo hG (g_frI d36 (fun lo => m_L_draw l dd cT lo C36 a1 ((if (8 : Int32) < (v24 / (2 : Int32)) then (8 : Int32) else (v24 / (2 : Int32))) + (1 : Int32)) e36) lo) qM_L_35 qT_yL_draw qN_L qC_yL_draw (by decide +kernel) ⟨Nat.le_of_ble_eq_true rfl, Nat.le_of_ble_eq_true rfl⟩ rfl hl.1 rfl (Nat.le_of_ble_eq_true rfl) dL_plays_36 y36 (fun v36x Gx H locs hKx hG => ?_)
  obtain ⟨D36, ⟨k36a, k36⟩, f36, l36⟩ := hKx
  rw [l36, k36] at hG
  rw [k36] at f36
  rw [k36a]
  obtain ⟨G36, i36⟩ : ∃ g : gH, g = gj q36.1 R36 := ⟨_, rfl⟩
  rw [← i36] at hG
  replace h := h G36 f36 i36
  obtain ⟨G39, i39, h⟩ := h
  refine g_putvN hx hb hts inlX10 tyX10 tyX10_ok nmX10 hown hK hG (by rfl) 1 (by decide) (List.mem_of_getElem? (i := 1) rfl) rfl rfl rfl rfl i39 dL_plays_39 (fun H locs hG => ?_)
  refine lv_aload_n hx hb dL_plays_42 rfl (lv_at hl 0 rfl) ?_
  refine lv_iconst (v := (1 : Int32)) hx hb dL_plays_43 (by decide) ?_
  refine lv_aload_n hx hb dL_plays_44 rfl (lv_at hl 2 rfl) ?_
  refine lv_bipush (v := (6 : Int32)) hx hb dL_plays_45 (by decide) ?_
  obtain ⟨C47, R47, d47, g47, h⟩ := h
  obtain ⟨y47, h⟩ := h
  obtain ⟨q47, e47, h⟩ := h
  rw [g47] at hG
  refine g_wAi (As := [.ref a1, .int (6 : Int32)]) (rest := [.int (1 : Int32), .ref q0]) (n := 2) hx hb hml hown hts hK hlo hG (g_frI d47 (fun lo => m_L_draw l dd cT lo C47 a1 (6 : Int32) e47) lo) qM_L_35 qT_yL_draw qN_L qC_yL_draw (by decide +kernel) ⟨Nat.le_of_ble_eq_true rfl, Nat.le_of_ble_eq_true rfl⟩ rfl hl.1 rfl (Nat.le_of_ble_eq_true rfl) dL_plays_47 y47 (fun v47x Gx H locs hKx hG => ?_)
  obtain ⟨D47, ⟨k47a, k47⟩, f47, l47⟩ := hKx
  rw [l47, k47] at hG
  rw [k47] at f47
  rw [k47a]
  obtain ⟨G47, i47⟩ : ∃ g : gH, g = gj q47.1 R47 := ⟨_, rfl⟩
  rw [← i47] at hG
  replace h := h G47 f47 i47
  refine lv_iadd hx hb dL_plays_50 ?_
  obtain ⟨G51, i51, h⟩ := h
  refine g_putvN hx hb hts inlX10 tyX10 tyX10_ok nmX10 hown hK hG (by rfl) 2 (by decide) (List.mem_of_getElem? (i := 2) rfl) rfl rfl rfl rfl i51 dL_plays_51 (fun H locs hG => ?_)
  obtain ⟨y54, h⟩ := h
  refine g_new (ci := 15) (fs := [.null, .int 0, .int 0, .int 0]) hx hb hts inlJ4 tyJ4 tyJ4_ok hown hK hlo hG rfl qL_L_55 qA_J4 qN_J4 (fun j hj => by rcases (show j = 0 ∨ j = 1 ∨ j = 2 ∨ j = 3 by omega) with rfl | rfl | rfl | rfl <;> rfl) y54 dL_plays_54 (fun q54 H z54 hG => ?_)
  obtain ⟨G54, i54⟩ : ∃ g : gH, g = va_up G51 q54 (some (.inr (.inr (.inr (15, [.null, .int 0, .int 0, .int 0]))))) := ⟨_, rfl⟩
  rw [← i54] at hG
  replace h := h q54 z54 G54 i54
  refine lv_dup hx hb dL_plays_57 rfl ?_
  obtain ⟨y58, h⟩ := h
  refine g_new (ci := 15) (fs := [.null, .int 0, .int 0, .int 0]) hx hb hts inlJ4 tyJ4 tyJ4_ok hown hK hlo hG rfl qL_L_55 qA_J4 qN_J4 (fun j hj => by rcases (show j = 0 ∨ j = 1 ∨ j = 2 ∨ j = 3 by omega) with rfl | rfl | rfl | rfl <;> rfl) y58 dL_plays_58 (fun q58 H z58 hG => ?_)
  obtain ⟨G58, i58⟩ : ∃ g : gH, g = va_up G54 q58 (some (.inr (.inr (.inr (15, [.null, .int 0, .int 0, .int 0]))))) := ⟨_, rfl⟩
  rw [← i58] at hG
  replace h := h q58 z58 G58 i58
  refine lv_dup hx hb dL_plays_61 rfl ?_
  obtain ⟨C62, R62, d62, g62, h⟩ := h
  obtain ⟨y62, h⟩ := h
  rw [g62] at hG
  refine g_wIP (b := q58) (As := []) (rest := [.ref q58, .ref q54, .ref q54]) (n := 0) hx hb hml hown hts hK hlo hG (g_frV d62 (fun lo => m_J4_init_da8c8 1 16 l hfl dd cT lo C62 q58 h) lo) qM_L_57 qI_yJ4_init_da8c8 rfl qN_J4 qC_yJ4_init_da8c8 (by decide +kernel) ⟨Nat.le_of_ble_eq_true rfl, Nat.le_of_ble_eq_true rfl⟩ rfl hl.1 rfl (Nat.le_of_ble_eq_true rfl) dL_plays_62 y62 (fun Gx H locs hKx hG => ?_)
  obtain ⟨D62, h, f62, rfl⟩ := hKx
  obtain ⟨G62, i62⟩ : ∃ g : gH, g = gj D62 R62 := ⟨_, rfl⟩
  rw [← i62] at hG
  replace h := h G62 f62 i62
  refine va_ldcS (q := dd.2 102 0) hx hb hown (hG.xl.2.1 _ (List.mem_of_getElem? (i := 0) rfl)) dL_plays_65 ?_
  obtain ⟨C67, R67, d67, g67, h⟩ := h
  obtain ⟨u67, o67, h⟩ := h
  obtain ⟨y67, h⟩ := h
  rw [g67] at hG
  refine g_wVq (As := [.ref (dd.2 102 0)]) (rest := [.ref q54, .ref q54]) (n := 1) hx hb hml hown hts hK hlo hG (g_frQ d67 (fun lo => m_J4_append_15ec4_U 1 1000 l hfl dd cT lo C67 q58 0 h) lo) qM_L_60 qI_yJ4_append_15ec4 qS_J4_yJ4_append_15ec4 qN_J4 qC_yJ4_append_15ec4 (by decide +kernel) ⟨Nat.le_of_ble_eq_true rfl, Nat.le_of_ble_eq_true rfl⟩ (by rfl) (g_ob_gj o67) rfl hl.1 rfl (Nat.le_of_ble_eq_true rfl) dL_plays_67 y67 (fun v67x Gx H locs hKx hG => ?_)
  obtain ⟨D67, h, f67, rfl⟩ := hKx
  obtain ⟨G67, i67⟩ : ∃ g : gH, g = gj D67 R67 := ⟨_, rfl⟩
  rw [← i67] at hG
  replace h := h G67 f67 i67
  revert h
  generalize v67x = v67
  intro h
  obtain ⟨r67, rfl, h⟩ := h
  refine lv_aload_n hx hb dL_plays_70 rfl (lv_at hl 0 rfl) ?_
  obtain ⟨v71, e71, h⟩ := h
  refine g_getiN hx hb hts inlX10 hown hK hG (by rfl) 0 (by decide) (List.mem_of_getElem? (i := 0) rfl) e71 dL_plays_71 ?_
  obtain ⟨C74, R74, d74, g74, h⟩ := h
  obtain ⟨u74, o74, h⟩ := h
  obtain ⟨y74, h⟩ := h
  rw [g74] at hG
  refine g_wVq (As := [.int v71]) (rest := [.ref q54, .ref q54]) (n := 1) hx hb hml hown hts hK hlo hG (g_frQ d74 (fun lo => m_J4_append_bf812 1 1000 l hfl dd cT lo C74 r67 v71 h) lo) qM_L_63 qI_yJ4_append_bf812 qS_J4_yJ4_append_bf812 qN_J4 qC_yJ4_append_bf812 (by decide +kernel) ⟨Nat.le_of_ble_eq_true rfl, Nat.le_of_ble_eq_true rfl⟩ (by rfl) (g_ob_gj o74) rfl hl.1 rfl (Nat.le_of_ble_eq_true rfl) dL_plays_74 y74 (fun v74x Gx H locs hKx hG => ?_)
  obtain ⟨D74, h, f74, rfl⟩ := hKx
  obtain ⟨G74, i74⟩ : ∃ g : gH, g = gj D74 R74 := ⟨_, rfl⟩
  rw [← i74] at hG
  replace h := h G74 f74 i74
  revert h
  generalize v74x = v74
  intro h
  obtain ⟨r74, rfl, h⟩ := h
  refine va_ldcS (q := dd.2 102 1) hx hb hown (hG.xl.2.1 _ (List.mem_of_getElem? (i := 1) rfl)) dL_plays_77 ?_
  obtain ⟨C79, R79, d79, g79, h⟩ := h
  obtain ⟨u79, o79, h⟩ := h
  obtain ⟨y79, h⟩ := h
  rw [g79] at hG
  refine g_wVq (As := [.ref (dd.2 102 1)]) (rest := [.ref q54, .ref q54]) (n := 1) hx hb hml hown hts hK hlo hG (g_frQ d79 (fun lo => m_J4_append_15ec4_U 1 1000 l hfl dd cT lo C79 r74 1 h) lo) qM_L_60 qI_yJ4_append_15ec4 qS_J4_yJ4_append_15ec4 qN_J4 qC_yJ4_append_15ec4 (by decide +kernel) ⟨Nat.le_of_ble_eq_true rfl, Nat.le_of_ble_eq_true rfl⟩ (by rfl) (g_ob_gj o79) rfl hl.1 rfl (Nat.le_of_ble_eq_true rfl) dL_plays_79 y79 (fun v79x Gx H locs hKx hG => ?_)
  obtain ⟨D79, h, f79, rfl⟩ := hKx
  obtain ⟨G79, i79⟩ : ∃ g : gH, g = gj D79 R79 := ⟨_, rfl⟩
  rw [← i79] at hG
  replace h := h G79 f79 i79
  revert h
  generalize v79x = v79
  intro h
  obtain ⟨r79, rfl, h⟩ := h
  refine lv_aload_n hx hb dL_plays_82 rfl (lv_at hl 0 rfl) ?_
  obtain ⟨v83, e83, h⟩ := h
  refine g_getiN hx hb hts inlX10 hown hK hG (by rfl) 1 (by decide) (List.mem_of_getElem? (i := 1) rfl) e83 dL_plays_83 ?_
  obtain ⟨C86, R86, d86, g86, h⟩ := h
  obtain ⟨u86, o86, h⟩ := h
  obtain ⟨y86, h⟩ := h
  rw [g86] at hG
  refine g_wVq (As := [.int v83]) (rest := [.ref q54, .ref q54]) (n := 1) hx hb hml hown hts hK hlo hG (g_frQ d86 (fun lo => m_J4_append_bf812 1 1000 l hfl dd cT lo C86 r79 v83 h) lo) qM_L_63 qI_yJ4_append_bf812 qS_J4_yJ4_append_bf812 qN_J4 qC_yJ4_append_bf812 (by decide +kernel) ⟨Nat.le_of_ble_eq_true rfl, Nat.le_of_ble_eq_true rfl⟩ (by rfl) (g_ob_gj o86) rfl hl.1 rfl (Nat.le_of_ble_eq_true rfl) dL_plays_86 y86 (fun v86x Gx H locs hKx hG => ?_)
  obtain ⟨D86, h, f86, rfl⟩ := hKx
  obtain ⟨G86, i86⟩ : ∃ g : gH, g = gj D86 R86 := ⟨_, rfl⟩
  rw [← i86] at hG
  replace h := h G86 f86 i86
  revert h
  generalize v86x = v86
  intro h
  obtain ⟨r86, rfl, h⟩ := h
  refine va_ldcS (q := dd.2 102 2) hx hb hown (hG.xl.2.1 _ (List.mem_of_getElem? (i := 2) rfl)) dL_plays_89 ?_
  obtain ⟨C91, R91, d91, g91, h⟩ := h
  obtain ⟨u91, o91, h⟩ := h
  obtain ⟨y91, h⟩ := h
  rw [g91] at hG
  refine g_wVq (As := [.ref (dd.2 102 2)]) (rest := [.ref q54, .ref q54]) (n := 1) hx hb hml hown hts hK hlo hG (g_frQ d91 (fun lo => m_J4_append_15ec4_U 1 1000 l hfl dd cT lo C91 r86 2 h) lo) qM_L_60 qI_yJ4_append_15ec4 qS_J4_yJ4_append_15ec4 qN_J4 qC_yJ4_append_15ec4 (by decide +kernel) ⟨Nat.le_of_ble_eq_true rfl, Nat.le_of_ble_eq_true rfl⟩ (by rfl) (g_ob_gj o91) rfl hl.1 rfl (Nat.le_of_ble_eq_true rfl) dL_plays_91 y91 (fun v91x Gx H locs hKx hG => ?_)
  obtain ⟨D91, h, f91, rfl⟩ := hKx
  obtain ⟨G91, i91⟩ : ∃ g : gH, g = gj D91 R91 := ⟨_, rfl⟩
  rw [← i91] at hG
  replace h := h G91 f91 i91
  revert h
  generalize v91x = v91
  intro h
  obtain ⟨r91, rfl, h⟩ := h
  obtain ⟨C94, R94, d94, g94, h⟩ := h
  obtain ⟨u94, o94, h⟩ := h
  obtain ⟨y94, h⟩ := h
  rw [g94] at hG
  refine g_wVq (As := []) (rest := [.ref q54, .ref q54]) (n := 0) hx hb hml hown hts hK hlo hG (g_frQ d94 (fun lo => m_J4_toString_0e30d 2 1004 l hfl dd cT lo C94 r91 h) lo) qM_L_70 qI_yJ4_toString_0e30d qS_J4_yJ4_toString_0e30d qN_J4 qC_yJ4_toString_0e30d (by decide +kernel) ⟨Nat.le_of_ble_eq_true rfl, Nat.le_of_ble_eq_true rfl⟩ (by rfl) (g_ob_gj o94) rfl hl.1 rfl (Nat.le_of_ble_eq_true rfl) dL_plays_94 y94 (fun v94x Gx H locs hKx hG => ?_)
  obtain ⟨D94, h, f94, rfl⟩ := hKx
  obtain ⟨G94, i94⟩ : ∃ g : gH, g = gj D94 R94 := ⟨_, rfl⟩
  rw [← i94] at hG
  replace h := h G94 f94 i94
  revert h
  generalize v94x = v94
  intro h
  obtain ⟨r94, rfl, h⟩ := h
  obtain ⟨C97, R97, d97, g97, h⟩ := h
  obtain ⟨y97, h⟩ := h
  rw [g97] at hG
  refine g_wIP (b := q54) (As := [.ref r94]) (rest := [.ref q54]) (n := 1) hx hb hml hown hts hK hlo hG (g_frV d97 (fun lo => m_J4_init_a7421_A 2 2000 l hfl dd cT lo C97 q54 r94 h) lo) qM_L_74 qI_yJ4_init_a7421 rfl qN_J4 qC_yJ4_init_a7421 (by decide +kernel) ⟨Nat.le_of_ble_eq_true rfl, Nat.le_of_ble_eq_true rfl⟩ rfl hl.1 rfl (Nat.le_of_ble_eq_true rfl) dL_plays_97 y97 (fun Gx H locs hKx hG => ?_)
  obtain ⟨D97, h, f97, rfl⟩ := hKx
  obtain ⟨G97, i97⟩ : ∃ g : gH, g = gj D97 R97 := ⟨_, rfl⟩
  rw [← i97] at hG
  replace h := h G97 f97 i97
  refine lv_astore_n (lv' := [(3, .ref q54), (2, .ref q0), (0, .ref a0), (1, .ref a1)]) hx hb dL_plays_100 rfl hl (by decide) rfl (fun ls hl => ?_)
  refine lv_aload_n hx hb dL_plays_101 rfl (lv_at hl 3 rfl) ?_
  refine lv_bipush (v := (6 : Int32)) hx hb dL_plays_102 (by decide) ?_
  obtain ⟨C104, R104, d104, g104, h⟩ := h
  obtain ⟨y104, h⟩ := h
  obtain ⟨q104, e104, h⟩ := h
  rw [g104] at hG
  refine g_wAi (As := [.ref a1, .int (6 : Int32)]) (rest := []) (n := 2) hx hb hml hown hts hK hlo hG (g_frI d104 (fun lo => m_L_draw l dd cT lo C104 a1 (6 : Int32) e104) lo) qM_L_35 qT_yL_draw qN_L qC_yL_draw (by decide +kernel) ⟨Nat.le_of_ble_eq_true rfl, Nat.le_of_ble_eq_true rfl⟩ rfl hl.1 rfl (Nat.le_of_ble_eq_true rfl) dL_plays_104 y104 (fun v104x Gx H locs hKx hG => ?_)
  obtain ⟨D104, ⟨k104a, k104⟩, f104, l104⟩ := hKx
  rw [l104, k104] at hG
  rw [k104] at f104
  rw [k104a]
  obtain ⟨G104, i104⟩ : ∃ g : gH, g = gj q104.1 R104 := ⟨_, rfl⟩
  rw [← i104] at hG
  replace h := h G104 f104 i104
  refine lv_istore (lv' := [(4, .int q104.2), (3, .ref q54), (2, .ref q0), (0, .ref a0), (1, .ref a1)]) hx hb dL_plays_107 hl (by decide) rfl (fun ls hl => ?_)
  exact h109 g_N G104 ((((((((((((0 + 1) + 10) + 1) + 1) + 1) + 1) + 1) + 1) + 1) + 1) + 2) + 2) ((((((((((((0 + 17) + 876) + 4) + 4) + 16) + 1000) + 1000) + 1000) + 1000) + 1000) + 1004) + 2000) a0 a1 q0 q54 q104.2 _ _ hG _ (lv_sub hl [3, 4, 2, 1, 0] rfl) h

/-! The law's methods that make cells: by program (wip/p34/tools/pwlift.py). -/
set_option maxRecDepth 20000 in
set_option maxHeartbeats 4000000 in
theorem m_L_sessions (MC MS : Nat) (l : Launch) (hfl : l.stackTraces = false) (dd : va_G) (cT : Nat → ClassId) (lo : Nat → Prop) (G : gH) (a0 : Nat) (a1 : Nat) {K : Int32 → gH → Prop} (h : w_L_sessions MC MS G a0 a1 K) : Met l yL_sessions (Cond.code yL_sessions cL_sessions 10 (some .boolean) :: wsL_law) (g_rm 8 143 MC MS) (va_Pc [.ref a0, .ref a1] (g_Pre lo dd cT G)) (va_Qi K (g_Pre lo dd cT) (g_A lo)) MC MS (g_A lo) := by
  refine g_start RL rfl (by decide) (Nat.le_of_ble_eq_true rfl) ?_
  intro p e s m below meth c hx hb hr hlocks hml hown hnm hts hK hG hlo ls hl
  have hl : lv_has ls 10 [(0, .ref a0), (1, .ref a1)] := hl
  have hG : g_S lo dd cT s s.heap [] G := hG
  have h2 : ∀ n2 : Nat, ∀ (G : gH) (kc ks : Nat) (ba0 : Nat) (ba1 : Nat) (bx2 : Int32) (H : Heap) (locs : List Loc), g_S lo dd cT s H locs G → ∀ ls : Array Slot, lv_has ls 10 [(0, .ref ba0), (1, .ref ba1), (2, .int bx2)] → w_L_sessions_L2 MC MS K n2 G kc ks ba0 ba1 bx2 → W p l e (g_rm 8 143 MC MS) s m ([.ref a0, .ref a1] : List Value).toArray below meth c H locs kc ks (MQ below (va_Qi K (g_Pre lo dd cT) (g_A lo)) ([.ref a0, .ref a1] : List Value).toArray s MC MS (g_A lo)) (F0 m 2 ls []) := by
    intro n2
    induction n2 with
    | zero =>
      intro G kc ks ba0 ba1 bx2 H locs hG ls hl h
      exact (show False from h).elim
    | succ n2 ih2 =>
      have h265 : ∀ n265 : Nat, ∀ (G : gH) (kc ks : Nat) (ba0 : Nat) (ba1 : Nat) (bx2 : Int32) (ba3 : Option Nat) (bx8 : Int32) (H : Heap) (locs : List Loc), g_S lo dd cT s H locs G → ∀ ls : Array Slot, lv_has ls 10 [(0, .ref ba0), (1, .ref ba1), (2, .int bx2), (3, va_rf ba3), (8, .int bx8)] → w_L_sessions_L265 MC MS K (w_L_sessions_L2 MC MS K n2) n265 G kc ks ba0 ba1 bx2 ba3 bx8 → W p l e (g_rm 8 143 MC MS) s m ([.ref a0, .ref a1] : List Value).toArray below meth c H locs kc ks (MQ below (va_Qi K (g_Pre lo dd cT) (g_A lo)) ([.ref a0, .ref a1] : List Value).toArray s MC MS (g_A lo)) (F0 m 265 ls []) := by
        intro n265
        induction n265 with
        | zero =>
          intro G kc ks ba0 ba1 bx2 ba3 bx8 H locs hG ls hl h
          exact (show False from h).elim
        | succ n265 ih265 =>
          have h398 : ∀ (G : gH) (kc ks : Nat) (ba0 : Nat) (ba1 : Nat) (bx2 : Int32) (ba3 : Option Nat) (bx8 : Int32) (z0 : Int32) (z1 : Int32) (H : Heap) (locs : List Loc), g_S lo dd cT s H locs G → ∀ ls : Array Slot, lv_has ls 10 [(0, .ref ba0), (1, .ref ba1), (2, .int bx2), (3, va_rf ba3), (8, .int bx8)] → w_L_sessions_J398 MC MS K (w_L_sessions_L2 MC MS K n2) (w_L_sessions_L265 MC MS K (w_L_sessions_L2 MC MS K n2) n265) G kc ks ba0 ba1 bx2 ba3 bx8 z0 z1 → W p l e (g_rm 8 143 MC MS) s m ([.ref a0, .ref a1] : List Value).toArray below meth c H locs kc ks (MQ below (va_Qi K (g_Pre lo dd cT) (g_A lo)) ([.ref a0, .ref a1] : List Value).toArray s MC MS (g_A lo)) (F0 m 398 ls [.int z1, .int z0]) := by
            intro G kc ks ba0 ba1 bx2 ba3 bx8 z0 z1 H locs hG ls hl h
            unfold w_L_sessions_J398 at h
            rcases ba3 with _ | ba3r
            · replace h := h.1 rfl
              refine lv_icmp_eq (tgt := 403) hx hb dL_sessions_398 (by decide) (fun c398 => ?_) (fun c398 => ?_)
              · rw [if_pos c398] at h
                refine lv_iinc (v := (bx8 + (1 : Int32))) (lv' := [(8, .int (bx8 + (1 : Int32))), (0, .ref ba0), (1, .ref ba1), (2, .int bx2), (3, .null)]) hx hb dL_sessions_403 hl (k := 4) rfl rfl (by decide) rfl (fun ls hl => ?_)
                refine lv_goto (tgt := 265) hx hb dL_sessions_406 (by decide) ?_
                exact ih265 G kc ks ba0 ba1 bx2 none (bx8 + (1 : Int32)) _ _ hG _ (lv_sub hl [1, 2, 3, 4, 0] rfl) h
              · rw [if_neg c398] at h
                refine lv_iconst (v := (0 : Int32)) hx hb dL_sessions_401 (by decide) ?_
                obtain ⟨y1, y2, h⟩ := h
                refine W.widen (k := MC) (n := MS) y1 y2 ?_
                exact g_zret hx hb hr hlocks hK hlo hG rfl h dL_sessions_402
            · replace h := h.2 ba3r rfl
              refine lv_icmp_eq (tgt := 403) hx hb dL_sessions_398 (by decide) (fun c398 => ?_) (fun c398 => ?_)
              · rw [if_pos c398] at h
                refine lv_iinc (v := (bx8 + (1 : Int32))) (lv' := [(8, .int (bx8 + (1 : Int32))), (0, .ref ba0), (1, .ref ba1), (2, .int bx2), (3, .ref ba3r)]) hx hb dL_sessions_403 hl (k := 4) rfl rfl (by decide) rfl (fun ls hl => ?_)
                refine lv_goto (tgt := 265) hx hb dL_sessions_406 (by decide) ?_
                exact ih265 G kc ks ba0 ba1 bx2 (some ba3r) (bx8 + (1 : Int32)) _ _ hG _ (lv_sub hl [1, 2, 3, 4, 0] rfl) h
              · rw [if_neg c398] at h
                refine lv_iconst (v := (0 : Int32)) hx hb dL_sessions_401 (by decide) ?_
                obtain ⟨y1, y2, h⟩ := h
                refine W.widen (k := MC) (n := MS) y1 y2 ?_
                exact g_zret hx hb hr hlocks hK hlo hG rfl h dL_sessions_402
          have h373 : ∀ (G : gH) (kc ks : Nat) (ba0 : Nat) (ba1 : Nat) (bx2 : Int32) (ba3 : Option Nat) (bx8 : Int32) (ba9 : Option Nat) (z0 : Int32) (z1 : Int32) (H : Heap) (locs : List Loc), g_S lo dd cT s H locs G → ∀ ls : Array Slot, lv_has ls 10 [(0, .ref ba0), (1, .ref ba1), (2, .int bx2), (3, va_rf ba3), (8, .int bx8), (9, va_rf ba9)] → w_L_sessions_J373 MC MS K (w_L_sessions_L2 MC MS K n2) (w_L_sessions_L265 MC MS K (w_L_sessions_L2 MC MS K n2) n265) G kc ks ba0 ba1 bx2 ba3 bx8 ba9 z0 z1 → W p l e (g_rm 8 143 MC MS) s m ([.ref a0, .ref a1] : List Value).toArray below meth c H locs kc ks (MQ below (va_Qi K (g_Pre lo dd cT) (g_A lo)) ([.ref a0, .ref a1] : List Value).toArray s MC MS (g_A lo)) (F0 m 373 ls [.int z1, .int z0]) := by
            intro G kc ks ba0 ba1 bx2 ba3 bx8 ba9 z0 z1 H locs hG ls hl h
            unfold w_L_sessions_J373 at h
            rcases ba3 with _ | ba3r
            · replace h := h.1 rfl
              rcases ba9 with _ | ba9r
              · replace h := h.1 rfl
                refine lv_icmp_ne (tgt := 401) hx hb dL_sessions_373 (by decide) (fun c373 => ?_) (fun c373 => ?_)
                · rw [if_neg c373] at h
                  refine lv_iconst (v := (0 : Int32)) hx hb dL_sessions_401 (by decide) ?_
                  obtain ⟨y1, y2, h⟩ := h
                  refine W.widen (k := MC) (n := MS) y1 y2 ?_
                  exact g_zret hx hb hr hlocks hK hlo hG rfl h dL_sessions_402
                · rw [if_pos c373] at h
                  refine lv_aload_n hx hb dL_sessions_376 rfl (lv_at hl 0 rfl) ?_
                  refine lv_iload_n hx hb dL_sessions_377 rfl (lv_at hl 2 rfl) ?_
                  refine lv_iload hx hb dL_sessions_378 (lv_at hl 4 rfl) ?_
                  refine lv_iconst (v := (4 : Int32)) hx hb dL_sessions_380 (by decide) ?_
                  obtain ⟨C381, R381, d381, g381, h⟩ := h
                  obtain ⟨u381, o381, h⟩ := h
                  obtain ⟨y381, h⟩ := h
                  rw [g381] at hG
                  refine g_wVi (As := [.int bx2, .int bx8, .int (4 : Int32)]) (rest := []) (n := 3) hx hb hml hown hts hK hlo hG (g_frI d381 (fun lo => g_noX (m_X9_entry l hfl dd cT lo C381 ba0 bx2 bx8 (4 : Int32) h)) lo) qM_L_235 qI_yX9_entry qS_X9_yX9_entry qN_X9 qC_yX9_entry (by decide +kernel) ⟨Nat.le_of_ble_eq_true rfl, Nat.le_of_ble_eq_true rfl⟩ (by rfl) (g_ob_gj o381) rfl hl.1 rfl (Nat.le_of_ble_eq_true rfl) dL_sessions_381 y381 (fun v381x Gx H locs hKx hG => ?_)
                  obtain ⟨D381, h, f381, rfl⟩ := hKx
                  obtain ⟨G381, i381⟩ : ∃ g : gH, g = gj D381 R381 := ⟨_, rfl⟩
                  rw [← i381] at hG
                  replace h := h G381 f381 i381
                  revert h
                  generalize v381x = v381
                  intro h
                  refine lv_aloadN hx hb dL_sessions_384 (lv_at hl 5 rfl) ?_
                  refine lv_ifnonnullN hx hb dL_sessions_386 ?_
                  refine lv_iconst (v := (-1 : Int32)) hx hb dL_sessions_389 (by decide) ?_
                  refine lv_goto (tgt := 398) hx hb dL_sessions_390 (by decide) ?_
                  exact h398 G381 (kc + 2) (ks + 12) ba0 ba1 bx2 none bx8 v381 (-1 : Int32) _ _ hG _ (lv_sub hl [0, 1, 2, 3, 4] rfl) h
              · replace h := h.2 ba9r rfl
                refine lv_icmp_ne (tgt := 401) hx hb dL_sessions_373 (by decide) (fun c373 => ?_) (fun c373 => ?_)
                · rw [if_neg c373] at h
                  refine lv_iconst (v := (0 : Int32)) hx hb dL_sessions_401 (by decide) ?_
                  obtain ⟨y1, y2, h⟩ := h
                  refine W.widen (k := MC) (n := MS) y1 y2 ?_
                  exact g_zret hx hb hr hlocks hK hlo hG rfl h dL_sessions_402
                · rw [if_pos c373] at h
                  refine lv_aload_n hx hb dL_sessions_376 rfl (lv_at hl 0 rfl) ?_
                  refine lv_iload_n hx hb dL_sessions_377 rfl (lv_at hl 2 rfl) ?_
                  refine lv_iload hx hb dL_sessions_378 (lv_at hl 4 rfl) ?_
                  refine lv_iconst (v := (4 : Int32)) hx hb dL_sessions_380 (by decide) ?_
                  obtain ⟨C381, R381, d381, g381, h⟩ := h
                  obtain ⟨u381, o381, h⟩ := h
                  obtain ⟨y381, h⟩ := h
                  rw [g381] at hG
                  refine g_wVi (As := [.int bx2, .int bx8, .int (4 : Int32)]) (rest := []) (n := 3) hx hb hml hown hts hK hlo hG (g_frI d381 (fun lo => g_noX (m_X9_entry l hfl dd cT lo C381 ba0 bx2 bx8 (4 : Int32) h)) lo) qM_L_235 qI_yX9_entry qS_X9_yX9_entry qN_X9 qC_yX9_entry (by decide +kernel) ⟨Nat.le_of_ble_eq_true rfl, Nat.le_of_ble_eq_true rfl⟩ (by rfl) (g_ob_gj o381) rfl hl.1 rfl (Nat.le_of_ble_eq_true rfl) dL_sessions_381 y381 (fun v381x Gx H locs hKx hG => ?_)
                  obtain ⟨D381, h, f381, rfl⟩ := hKx
                  obtain ⟨G381, i381⟩ : ∃ g : gH, g = gj D381 R381 := ⟨_, rfl⟩
                  rw [← i381] at hG
                  replace h := h G381 f381 i381
                  revert h
                  generalize v381x = v381
                  intro h
                  refine lv_aload hx hb dL_sessions_384 (lv_at hl 5 rfl) ?_
                  refine lv_ifnonnull (tgt := 393) hx hb dL_sessions_386 (by decide) ?_
                  refine lv_aload hx hb dL_sessions_393 (lv_at hl 5 rfl) ?_
                  obtain ⟨v395, e395, h⟩ := h
                  refine g_getiN hx hb hts inlX13 hown hK hG (by rfl) 4 (by decide) (List.mem_of_getElem? (i := 26) rfl) e395 dL_sessions_395 ?_
                  exact h398 G381 (kc + 2) (ks + 12) ba0 ba1 bx2 none bx8 v381 v395 _ _ hG _ (lv_sub hl [0, 1, 2, 3, 4] rfl) h
            · replace h := h.2 ba3r rfl
              rcases ba9 with _ | ba9r
              · replace h := h.1 rfl
                refine lv_icmp_ne (tgt := 401) hx hb dL_sessions_373 (by decide) (fun c373 => ?_) (fun c373 => ?_)
                · rw [if_neg c373] at h
                  refine lv_iconst (v := (0 : Int32)) hx hb dL_sessions_401 (by decide) ?_
                  obtain ⟨y1, y2, h⟩ := h
                  refine W.widen (k := MC) (n := MS) y1 y2 ?_
                  exact g_zret hx hb hr hlocks hK hlo hG rfl h dL_sessions_402
                · rw [if_pos c373] at h
                  refine lv_aload_n hx hb dL_sessions_376 rfl (lv_at hl 0 rfl) ?_
                  refine lv_iload_n hx hb dL_sessions_377 rfl (lv_at hl 2 rfl) ?_
                  refine lv_iload hx hb dL_sessions_378 (lv_at hl 4 rfl) ?_
                  refine lv_iconst (v := (4 : Int32)) hx hb dL_sessions_380 (by decide) ?_
                  obtain ⟨C381, R381, d381, g381, h⟩ := h
                  obtain ⟨u381, o381, h⟩ := h
                  obtain ⟨y381, h⟩ := h
                  rw [g381] at hG
                  refine g_wVi (As := [.int bx2, .int bx8, .int (4 : Int32)]) (rest := []) (n := 3) hx hb hml hown hts hK hlo hG (g_frI d381 (fun lo => g_noX (m_X9_entry l hfl dd cT lo C381 ba0 bx2 bx8 (4 : Int32) h)) lo) qM_L_235 qI_yX9_entry qS_X9_yX9_entry qN_X9 qC_yX9_entry (by decide +kernel) ⟨Nat.le_of_ble_eq_true rfl, Nat.le_of_ble_eq_true rfl⟩ (by rfl) (g_ob_gj o381) rfl hl.1 rfl (Nat.le_of_ble_eq_true rfl) dL_sessions_381 y381 (fun v381x Gx H locs hKx hG => ?_)
                  obtain ⟨D381, h, f381, rfl⟩ := hKx
                  obtain ⟨G381, i381⟩ : ∃ g : gH, g = gj D381 R381 := ⟨_, rfl⟩
                  rw [← i381] at hG
                  replace h := h G381 f381 i381
                  revert h
                  generalize v381x = v381
                  intro h
                  refine lv_aloadN hx hb dL_sessions_384 (lv_at hl 5 rfl) ?_
                  refine lv_ifnonnullN hx hb dL_sessions_386 ?_
                  refine lv_iconst (v := (-1 : Int32)) hx hb dL_sessions_389 (by decide) ?_
                  refine lv_goto (tgt := 398) hx hb dL_sessions_390 (by decide) ?_
                  exact h398 G381 (kc + 2) (ks + 12) ba0 ba1 bx2 (some ba3r) bx8 v381 (-1 : Int32) _ _ hG _ (lv_sub hl [0, 1, 2, 3, 4] rfl) h
              · replace h := h.2 ba9r rfl
                refine lv_icmp_ne (tgt := 401) hx hb dL_sessions_373 (by decide) (fun c373 => ?_) (fun c373 => ?_)
                · rw [if_neg c373] at h
                  refine lv_iconst (v := (0 : Int32)) hx hb dL_sessions_401 (by decide) ?_
                  obtain ⟨y1, y2, h⟩ := h
                  refine W.widen (k := MC) (n := MS) y1 y2 ?_
                  exact g_zret hx hb hr hlocks hK hlo hG rfl h dL_sessions_402
                · rw [if_pos c373] at h
                  refine lv_aload_n hx hb dL_sessions_376 rfl (lv_at hl 0 rfl) ?_
                  refine lv_iload_n hx hb dL_sessions_377 rfl (lv_at hl 2 rfl) ?_
                  refine lv_iload hx hb dL_sessions_378 (lv_at hl 4 rfl) ?_
                  refine lv_iconst (v := (4 : Int32)) hx hb dL_sessions_380 (by decide) ?_
                  obtain ⟨C381, R381, d381, g381, h⟩ := h
                  obtain ⟨u381, o381, h⟩ := h
                  obtain ⟨y381, h⟩ := h
                  rw [g381] at hG
                  refine g_wVi (As := [.int bx2, .int bx8, .int (4 : Int32)]) (rest := []) (n := 3) hx hb hml hown hts hK hlo hG (g_frI d381 (fun lo => g_noX (m_X9_entry l hfl dd cT lo C381 ba0 bx2 bx8 (4 : Int32) h)) lo) qM_L_235 qI_yX9_entry qS_X9_yX9_entry qN_X9 qC_yX9_entry (by decide +kernel) ⟨Nat.le_of_ble_eq_true rfl, Nat.le_of_ble_eq_true rfl⟩ (by rfl) (g_ob_gj o381) rfl hl.1 rfl (Nat.le_of_ble_eq_true rfl) dL_sessions_381 y381 (fun v381x Gx H locs hKx hG => ?_)
                  obtain ⟨D381, h, f381, rfl⟩ := hKx
                  obtain ⟨G381, i381⟩ : ∃ g : gH, g = gj D381 R381 := ⟨_, rfl⟩
                  rw [← i381] at hG
                  replace h := h G381 f381 i381
                  revert h
                  generalize v381x = v381
                  intro h
                  refine lv_aload hx hb dL_sessions_384 (lv_at hl 5 rfl) ?_
                  refine lv_ifnonnull (tgt := 393) hx hb dL_sessions_386 (by decide) ?_
                  refine lv_aload hx hb dL_sessions_393 (lv_at hl 5 rfl) ?_
                  obtain ⟨v395, e395, h⟩ := h
                  refine g_getiN hx hb hts inlX13 hown hK hG (by rfl) 4 (by decide) (List.mem_of_getElem? (i := 26) rfl) e395 dL_sessions_395 ?_
                  exact h398 G381 (kc + 2) (ks + 12) ba0 ba1 bx2 (some ba3r) bx8 v381 v395 _ _ hG _ (lv_sub hl [0, 1, 2, 3, 4] rfl) h
          have h348 : ∀ (G : gH) (kc ks : Nat) (ba0 : Nat) (ba1 : Nat) (bx2 : Int32) (ba3 : Option Nat) (bx8 : Int32) (ba9 : Option Nat) (z0 : Int32) (z1 : Int32) (H : Heap) (locs : List Loc), g_S lo dd cT s H locs G → ∀ ls : Array Slot, lv_has ls 10 [(0, .ref ba0), (1, .ref ba1), (2, .int bx2), (3, va_rf ba3), (8, .int bx8), (9, va_rf ba9)] → w_L_sessions_J348 MC MS K (w_L_sessions_L2 MC MS K n2) (w_L_sessions_L265 MC MS K (w_L_sessions_L2 MC MS K n2) n265) G kc ks ba0 ba1 bx2 ba3 bx8 ba9 z0 z1 → W p l e (g_rm 8 143 MC MS) s m ([.ref a0, .ref a1] : List Value).toArray below meth c H locs kc ks (MQ below (va_Qi K (g_Pre lo dd cT) (g_A lo)) ([.ref a0, .ref a1] : List Value).toArray s MC MS (g_A lo)) (F0 m 348 ls [.int z1, .int z0]) := by
            intro G kc ks ba0 ba1 bx2 ba3 bx8 ba9 z0 z1 H locs hG ls hl h
            unfold w_L_sessions_J348 at h
            rcases ba3 with _ | ba3r
            · replace h := h.1 rfl
              rcases ba9 with _ | ba9r
              · replace h := h.1 rfl
                refine lv_icmp_ne (tgt := 401) hx hb dL_sessions_348 (by decide) (fun c348 => ?_) (fun c348 => ?_)
                · rw [if_neg c348] at h
                  refine lv_iconst (v := (0 : Int32)) hx hb dL_sessions_401 (by decide) ?_
                  obtain ⟨y1, y2, h⟩ := h
                  refine W.widen (k := MC) (n := MS) y1 y2 ?_
                  exact g_zret hx hb hr hlocks hK hlo hG rfl h dL_sessions_402
                · rw [if_pos c348] at h
                  refine lv_aload_n hx hb dL_sessions_351 rfl (lv_at hl 0 rfl) ?_
                  refine lv_iload_n hx hb dL_sessions_352 rfl (lv_at hl 2 rfl) ?_
                  refine lv_iload hx hb dL_sessions_353 (lv_at hl 4 rfl) ?_
                  refine lv_iconst (v := (3 : Int32)) hx hb dL_sessions_355 (by decide) ?_
                  obtain ⟨C356, R356, d356, g356, h⟩ := h
                  obtain ⟨u356, o356, h⟩ := h
                  obtain ⟨y356, h⟩ := h
                  rw [g356] at hG
                  refine g_wVi (As := [.int bx2, .int bx8, .int (3 : Int32)]) (rest := []) (n := 3) hx hb hml hown hts hK hlo hG (g_frI d356 (fun lo => g_noX (m_X9_entry l hfl dd cT lo C356 ba0 bx2 bx8 (3 : Int32) h)) lo) qM_L_235 qI_yX9_entry qS_X9_yX9_entry qN_X9 qC_yX9_entry (by decide +kernel) ⟨Nat.le_of_ble_eq_true rfl, Nat.le_of_ble_eq_true rfl⟩ (by rfl) (g_ob_gj o356) rfl hl.1 rfl (Nat.le_of_ble_eq_true rfl) dL_sessions_356 y356 (fun v356x Gx H locs hKx hG => ?_)
                  obtain ⟨D356, h, f356, rfl⟩ := hKx
                  obtain ⟨G356, i356⟩ : ∃ g : gH, g = gj D356 R356 := ⟨_, rfl⟩
                  rw [← i356] at hG
                  replace h := h G356 f356 i356
                  revert h
                  generalize v356x = v356
                  intro h
                  refine lv_aloadN hx hb dL_sessions_359 (lv_at hl 5 rfl) ?_
                  refine lv_ifnonnullN hx hb dL_sessions_361 ?_
                  refine lv_iconst (v := (0 : Int32)) hx hb dL_sessions_364 (by decide) ?_
                  refine lv_goto (tgt := 373) hx hb dL_sessions_365 (by decide) ?_
                  exact h373 G356 (kc + 2) (ks + 12) ba0 ba1 bx2 none bx8 none v356 (0 : Int32) _ _ hG _ (lv_sub hl [0, 1, 2, 3, 4, 5] rfl) h
              · replace h := h.2 ba9r rfl
                refine lv_icmp_ne (tgt := 401) hx hb dL_sessions_348 (by decide) (fun c348 => ?_) (fun c348 => ?_)
                · rw [if_neg c348] at h
                  refine lv_iconst (v := (0 : Int32)) hx hb dL_sessions_401 (by decide) ?_
                  obtain ⟨y1, y2, h⟩ := h
                  refine W.widen (k := MC) (n := MS) y1 y2 ?_
                  exact g_zret hx hb hr hlocks hK hlo hG rfl h dL_sessions_402
                · rw [if_pos c348] at h
                  refine lv_aload_n hx hb dL_sessions_351 rfl (lv_at hl 0 rfl) ?_
                  refine lv_iload_n hx hb dL_sessions_352 rfl (lv_at hl 2 rfl) ?_
                  refine lv_iload hx hb dL_sessions_353 (lv_at hl 4 rfl) ?_
                  refine lv_iconst (v := (3 : Int32)) hx hb dL_sessions_355 (by decide) ?_
                  obtain ⟨C356, R356, d356, g356, h⟩ := h
                  obtain ⟨u356, o356, h⟩ := h
                  obtain ⟨y356, h⟩ := h
                  rw [g356] at hG
                  refine g_wVi (As := [.int bx2, .int bx8, .int (3 : Int32)]) (rest := []) (n := 3) hx hb hml hown hts hK hlo hG (g_frI d356 (fun lo => g_noX (m_X9_entry l hfl dd cT lo C356 ba0 bx2 bx8 (3 : Int32) h)) lo) qM_L_235 qI_yX9_entry qS_X9_yX9_entry qN_X9 qC_yX9_entry (by decide +kernel) ⟨Nat.le_of_ble_eq_true rfl, Nat.le_of_ble_eq_true rfl⟩ (by rfl) (g_ob_gj o356) rfl hl.1 rfl (Nat.le_of_ble_eq_true rfl) dL_sessions_356 y356 (fun v356x Gx H locs hKx hG => ?_)
                  obtain ⟨D356, h, f356, rfl⟩ := hKx
                  obtain ⟨G356, i356⟩ : ∃ g : gH, g = gj D356 R356 := ⟨_, rfl⟩
                  rw [← i356] at hG
                  replace h := h G356 f356 i356
                  revert h
                  generalize v356x = v356
                  intro h
                  refine lv_aload hx hb dL_sessions_359 (lv_at hl 5 rfl) ?_
                  refine lv_ifnonnull (tgt := 368) hx hb dL_sessions_361 (by decide) ?_
                  refine lv_aload hx hb dL_sessions_368 (lv_at hl 5 rfl) ?_
                  obtain ⟨v370, e370, h⟩ := h
                  refine g_getiN hx hb hts inlX13 hown hK hG (by rfl) 3 (by decide) (List.mem_of_getElem? (i := 25) rfl) e370 dL_sessions_370 ?_
                  exact h373 G356 (kc + 2) (ks + 12) ba0 ba1 bx2 none bx8 (some ba9r) v356 v370 _ _ hG _ (lv_sub hl [0, 1, 2, 3, 4, 5] rfl) h
            · replace h := h.2 ba3r rfl
              rcases ba9 with _ | ba9r
              · replace h := h.1 rfl
                refine lv_icmp_ne (tgt := 401) hx hb dL_sessions_348 (by decide) (fun c348 => ?_) (fun c348 => ?_)
                · rw [if_neg c348] at h
                  refine lv_iconst (v := (0 : Int32)) hx hb dL_sessions_401 (by decide) ?_
                  obtain ⟨y1, y2, h⟩ := h
                  refine W.widen (k := MC) (n := MS) y1 y2 ?_
                  exact g_zret hx hb hr hlocks hK hlo hG rfl h dL_sessions_402
                · rw [if_pos c348] at h
                  refine lv_aload_n hx hb dL_sessions_351 rfl (lv_at hl 0 rfl) ?_
                  refine lv_iload_n hx hb dL_sessions_352 rfl (lv_at hl 2 rfl) ?_
                  refine lv_iload hx hb dL_sessions_353 (lv_at hl 4 rfl) ?_
                  refine lv_iconst (v := (3 : Int32)) hx hb dL_sessions_355 (by decide) ?_
                  obtain ⟨C356, R356, d356, g356, h⟩ := h
                  obtain ⟨u356, o356, h⟩ := h
                  obtain ⟨y356, h⟩ := h
                  rw [g356] at hG
                  refine g_wVi (As := [.int bx2, .int bx8, .int (3 : Int32)]) (rest := []) (n := 3) hx hb hml hown hts hK hlo hG (g_frI d356 (fun lo => g_noX (m_X9_entry l hfl dd cT lo C356 ba0 bx2 bx8 (3 : Int32) h)) lo) qM_L_235 qI_yX9_entry qS_X9_yX9_entry qN_X9 qC_yX9_entry (by decide +kernel) ⟨Nat.le_of_ble_eq_true rfl, Nat.le_of_ble_eq_true rfl⟩ (by rfl) (g_ob_gj o356) rfl hl.1 rfl (Nat.le_of_ble_eq_true rfl) dL_sessions_356 y356 (fun v356x Gx H locs hKx hG => ?_)
                  obtain ⟨D356, h, f356, rfl⟩ := hKx
                  obtain ⟨G356, i356⟩ : ∃ g : gH, g = gj D356 R356 := ⟨_, rfl⟩
                  rw [← i356] at hG
                  replace h := h G356 f356 i356
                  revert h
                  generalize v356x = v356
                  intro h
                  refine lv_aloadN hx hb dL_sessions_359 (lv_at hl 5 rfl) ?_
                  refine lv_ifnonnullN hx hb dL_sessions_361 ?_
                  refine lv_iconst (v := (0 : Int32)) hx hb dL_sessions_364 (by decide) ?_
                  refine lv_goto (tgt := 373) hx hb dL_sessions_365 (by decide) ?_
                  exact h373 G356 (kc + 2) (ks + 12) ba0 ba1 bx2 (some ba3r) bx8 none v356 (0 : Int32) _ _ hG _ (lv_sub hl [0, 1, 2, 3, 4, 5] rfl) h
              · replace h := h.2 ba9r rfl
                refine lv_icmp_ne (tgt := 401) hx hb dL_sessions_348 (by decide) (fun c348 => ?_) (fun c348 => ?_)
                · rw [if_neg c348] at h
                  refine lv_iconst (v := (0 : Int32)) hx hb dL_sessions_401 (by decide) ?_
                  obtain ⟨y1, y2, h⟩ := h
                  refine W.widen (k := MC) (n := MS) y1 y2 ?_
                  exact g_zret hx hb hr hlocks hK hlo hG rfl h dL_sessions_402
                · rw [if_pos c348] at h
                  refine lv_aload_n hx hb dL_sessions_351 rfl (lv_at hl 0 rfl) ?_
                  refine lv_iload_n hx hb dL_sessions_352 rfl (lv_at hl 2 rfl) ?_
                  refine lv_iload hx hb dL_sessions_353 (lv_at hl 4 rfl) ?_
                  refine lv_iconst (v := (3 : Int32)) hx hb dL_sessions_355 (by decide) ?_
                  obtain ⟨C356, R356, d356, g356, h⟩ := h
                  obtain ⟨u356, o356, h⟩ := h
                  obtain ⟨y356, h⟩ := h
                  rw [g356] at hG
                  refine g_wVi (As := [.int bx2, .int bx8, .int (3 : Int32)]) (rest := []) (n := 3) hx hb hml hown hts hK hlo hG (g_frI d356 (fun lo => g_noX (m_X9_entry l hfl dd cT lo C356 ba0 bx2 bx8 (3 : Int32) h)) lo) qM_L_235 qI_yX9_entry qS_X9_yX9_entry qN_X9 qC_yX9_entry (by decide +kernel) ⟨Nat.le_of_ble_eq_true rfl, Nat.le_of_ble_eq_true rfl⟩ (by rfl) (g_ob_gj o356) rfl hl.1 rfl (Nat.le_of_ble_eq_true rfl) dL_sessions_356 y356 (fun v356x Gx H locs hKx hG => ?_)
                  obtain ⟨D356, h, f356, rfl⟩ := hKx
                  obtain ⟨G356, i356⟩ : ∃ g : gH, g = gj D356 R356 := ⟨_, rfl⟩
                  rw [← i356] at hG
                  replace h := h G356 f356 i356
                  revert h
                  generalize v356x = v356
                  intro h
                  refine lv_aload hx hb dL_sessions_359 (lv_at hl 5 rfl) ?_
                  refine lv_ifnonnull (tgt := 368) hx hb dL_sessions_361 (by decide) ?_
                  refine lv_aload hx hb dL_sessions_368 (lv_at hl 5 rfl) ?_
                  obtain ⟨v370, e370, h⟩ := h
                  refine g_getiN hx hb hts inlX13 hown hK hG (by rfl) 3 (by decide) (List.mem_of_getElem? (i := 25) rfl) e370 dL_sessions_370 ?_
                  exact h373 G356 (kc + 2) (ks + 12) ba0 ba1 bx2 (some ba3r) bx8 (some ba9r) v356 v370 _ _ hG _ (lv_sub hl [0, 1, 2, 3, 4, 5] rfl) h
          have h323 : ∀ (G : gH) (kc ks : Nat) (ba0 : Nat) (ba1 : Nat) (bx2 : Int32) (ba3 : Option Nat) (bx8 : Int32) (ba9 : Option Nat) (z0 : Int32) (z1 : Int32) (H : Heap) (locs : List Loc), g_S lo dd cT s H locs G → ∀ ls : Array Slot, lv_has ls 10 [(0, .ref ba0), (1, .ref ba1), (2, .int bx2), (3, va_rf ba3), (8, .int bx8), (9, va_rf ba9)] → w_L_sessions_J323 MC MS K (w_L_sessions_L2 MC MS K n2) (w_L_sessions_L265 MC MS K (w_L_sessions_L2 MC MS K n2) n265) G kc ks ba0 ba1 bx2 ba3 bx8 ba9 z0 z1 → W p l e (g_rm 8 143 MC MS) s m ([.ref a0, .ref a1] : List Value).toArray below meth c H locs kc ks (MQ below (va_Qi K (g_Pre lo dd cT) (g_A lo)) ([.ref a0, .ref a1] : List Value).toArray s MC MS (g_A lo)) (F0 m 323 ls [.int z1, .int z0]) := by
            intro G kc ks ba0 ba1 bx2 ba3 bx8 ba9 z0 z1 H locs hG ls hl h
            unfold w_L_sessions_J323 at h
            rcases ba3 with _ | ba3r
            · replace h := h.1 rfl
              rcases ba9 with _ | ba9r
              · replace h := h.1 rfl
                refine lv_icmp_ne (tgt := 401) hx hb dL_sessions_323 (by decide) (fun c323 => ?_) (fun c323 => ?_)
                · rw [if_neg c323] at h
                  refine lv_iconst (v := (0 : Int32)) hx hb dL_sessions_401 (by decide) ?_
                  obtain ⟨y1, y2, h⟩ := h
                  refine W.widen (k := MC) (n := MS) y1 y2 ?_
                  exact g_zret hx hb hr hlocks hK hlo hG rfl h dL_sessions_402
                · rw [if_pos c323] at h
                  refine lv_aload_n hx hb dL_sessions_326 rfl (lv_at hl 0 rfl) ?_
                  refine lv_iload_n hx hb dL_sessions_327 rfl (lv_at hl 2 rfl) ?_
                  refine lv_iload hx hb dL_sessions_328 (lv_at hl 4 rfl) ?_
                  refine lv_iconst (v := (2 : Int32)) hx hb dL_sessions_330 (by decide) ?_
                  obtain ⟨C331, R331, d331, g331, h⟩ := h
                  obtain ⟨u331, o331, h⟩ := h
                  obtain ⟨y331, h⟩ := h
                  rw [g331] at hG
                  refine g_wVi (As := [.int bx2, .int bx8, .int (2 : Int32)]) (rest := []) (n := 3) hx hb hml hown hts hK hlo hG (g_frI d331 (fun lo => g_noX (m_X9_entry l hfl dd cT lo C331 ba0 bx2 bx8 (2 : Int32) h)) lo) qM_L_235 qI_yX9_entry qS_X9_yX9_entry qN_X9 qC_yX9_entry (by decide +kernel) ⟨Nat.le_of_ble_eq_true rfl, Nat.le_of_ble_eq_true rfl⟩ (by rfl) (g_ob_gj o331) rfl hl.1 rfl (Nat.le_of_ble_eq_true rfl) dL_sessions_331 y331 (fun v331x Gx H locs hKx hG => ?_)
                  obtain ⟨D331, h, f331, rfl⟩ := hKx
                  obtain ⟨G331, i331⟩ : ∃ g : gH, g = gj D331 R331 := ⟨_, rfl⟩
                  rw [← i331] at hG
                  replace h := h G331 f331 i331
                  revert h
                  generalize v331x = v331
                  intro h
                  refine lv_aloadN hx hb dL_sessions_334 (lv_at hl 5 rfl) ?_
                  refine lv_ifnonnullN hx hb dL_sessions_336 ?_
                  refine lv_iconst (v := (-1 : Int32)) hx hb dL_sessions_339 (by decide) ?_
                  refine lv_goto (tgt := 348) hx hb dL_sessions_340 (by decide) ?_
                  exact h348 G331 (kc + 2) (ks + 12) ba0 ba1 bx2 none bx8 none v331 (-1 : Int32) _ _ hG _ (lv_sub hl [0, 1, 2, 3, 4, 5] rfl) h
              · replace h := h.2 ba9r rfl
                refine lv_icmp_ne (tgt := 401) hx hb dL_sessions_323 (by decide) (fun c323 => ?_) (fun c323 => ?_)
                · rw [if_neg c323] at h
                  refine lv_iconst (v := (0 : Int32)) hx hb dL_sessions_401 (by decide) ?_
                  obtain ⟨y1, y2, h⟩ := h
                  refine W.widen (k := MC) (n := MS) y1 y2 ?_
                  exact g_zret hx hb hr hlocks hK hlo hG rfl h dL_sessions_402
                · rw [if_pos c323] at h
                  refine lv_aload_n hx hb dL_sessions_326 rfl (lv_at hl 0 rfl) ?_
                  refine lv_iload_n hx hb dL_sessions_327 rfl (lv_at hl 2 rfl) ?_
                  refine lv_iload hx hb dL_sessions_328 (lv_at hl 4 rfl) ?_
                  refine lv_iconst (v := (2 : Int32)) hx hb dL_sessions_330 (by decide) ?_
                  obtain ⟨C331, R331, d331, g331, h⟩ := h
                  obtain ⟨u331, o331, h⟩ := h
                  obtain ⟨y331, h⟩ := h
                  rw [g331] at hG
                  refine g_wVi (As := [.int bx2, .int bx8, .int (2 : Int32)]) (rest := []) (n := 3) hx hb hml hown hts hK hlo hG (g_frI d331 (fun lo => g_noX (m_X9_entry l hfl dd cT lo C331 ba0 bx2 bx8 (2 : Int32) h)) lo) qM_L_235 qI_yX9_entry qS_X9_yX9_entry qN_X9 qC_yX9_entry (by decide +kernel) ⟨Nat.le_of_ble_eq_true rfl, Nat.le_of_ble_eq_true rfl⟩ (by rfl) (g_ob_gj o331) rfl hl.1 rfl (Nat.le_of_ble_eq_true rfl) dL_sessions_331 y331 (fun v331x Gx H locs hKx hG => ?_)
                  obtain ⟨D331, h, f331, rfl⟩ := hKx
                  obtain ⟨G331, i331⟩ : ∃ g : gH, g = gj D331 R331 := ⟨_, rfl⟩
                  rw [← i331] at hG
                  replace h := h G331 f331 i331
                  revert h
                  generalize v331x = v331
                  intro h
                  refine lv_aload hx hb dL_sessions_334 (lv_at hl 5 rfl) ?_
                  refine lv_ifnonnull (tgt := 343) hx hb dL_sessions_336 (by decide) ?_
                  refine lv_aload hx hb dL_sessions_343 (lv_at hl 5 rfl) ?_
                  obtain ⟨v345, e345, h⟩ := h
                  refine g_getiN hx hb hts inlX13 hown hK hG (by rfl) 2 (by decide) (List.mem_of_getElem? (i := 24) rfl) e345 dL_sessions_345 ?_
                  exact h348 G331 (kc + 2) (ks + 12) ba0 ba1 bx2 none bx8 (some ba9r) v331 v345 _ _ hG _ (lv_sub hl [0, 1, 2, 3, 4, 5] rfl) h
            · replace h := h.2 ba3r rfl
              rcases ba9 with _ | ba9r
              · replace h := h.1 rfl
                refine lv_icmp_ne (tgt := 401) hx hb dL_sessions_323 (by decide) (fun c323 => ?_) (fun c323 => ?_)
                · rw [if_neg c323] at h
                  refine lv_iconst (v := (0 : Int32)) hx hb dL_sessions_401 (by decide) ?_
                  obtain ⟨y1, y2, h⟩ := h
                  refine W.widen (k := MC) (n := MS) y1 y2 ?_
                  exact g_zret hx hb hr hlocks hK hlo hG rfl h dL_sessions_402
                · rw [if_pos c323] at h
                  refine lv_aload_n hx hb dL_sessions_326 rfl (lv_at hl 0 rfl) ?_
                  refine lv_iload_n hx hb dL_sessions_327 rfl (lv_at hl 2 rfl) ?_
                  refine lv_iload hx hb dL_sessions_328 (lv_at hl 4 rfl) ?_
                  refine lv_iconst (v := (2 : Int32)) hx hb dL_sessions_330 (by decide) ?_
                  obtain ⟨C331, R331, d331, g331, h⟩ := h
                  obtain ⟨u331, o331, h⟩ := h
                  obtain ⟨y331, h⟩ := h
                  rw [g331] at hG
                  refine g_wVi (As := [.int bx2, .int bx8, .int (2 : Int32)]) (rest := []) (n := 3) hx hb hml hown hts hK hlo hG (g_frI d331 (fun lo => g_noX (m_X9_entry l hfl dd cT lo C331 ba0 bx2 bx8 (2 : Int32) h)) lo) qM_L_235 qI_yX9_entry qS_X9_yX9_entry qN_X9 qC_yX9_entry (by decide +kernel) ⟨Nat.le_of_ble_eq_true rfl, Nat.le_of_ble_eq_true rfl⟩ (by rfl) (g_ob_gj o331) rfl hl.1 rfl (Nat.le_of_ble_eq_true rfl) dL_sessions_331 y331 (fun v331x Gx H locs hKx hG => ?_)
                  obtain ⟨D331, h, f331, rfl⟩ := hKx
                  obtain ⟨G331, i331⟩ : ∃ g : gH, g = gj D331 R331 := ⟨_, rfl⟩
                  rw [← i331] at hG
                  replace h := h G331 f331 i331
                  revert h
                  generalize v331x = v331
                  intro h
                  refine lv_aloadN hx hb dL_sessions_334 (lv_at hl 5 rfl) ?_
                  refine lv_ifnonnullN hx hb dL_sessions_336 ?_
                  refine lv_iconst (v := (-1 : Int32)) hx hb dL_sessions_339 (by decide) ?_
                  refine lv_goto (tgt := 348) hx hb dL_sessions_340 (by decide) ?_
                  exact h348 G331 (kc + 2) (ks + 12) ba0 ba1 bx2 (some ba3r) bx8 none v331 (-1 : Int32) _ _ hG _ (lv_sub hl [0, 1, 2, 3, 4, 5] rfl) h
              · replace h := h.2 ba9r rfl
                refine lv_icmp_ne (tgt := 401) hx hb dL_sessions_323 (by decide) (fun c323 => ?_) (fun c323 => ?_)
                · rw [if_neg c323] at h
                  refine lv_iconst (v := (0 : Int32)) hx hb dL_sessions_401 (by decide) ?_
                  obtain ⟨y1, y2, h⟩ := h
                  refine W.widen (k := MC) (n := MS) y1 y2 ?_
                  exact g_zret hx hb hr hlocks hK hlo hG rfl h dL_sessions_402
                · rw [if_pos c323] at h
                  refine lv_aload_n hx hb dL_sessions_326 rfl (lv_at hl 0 rfl) ?_
                  refine lv_iload_n hx hb dL_sessions_327 rfl (lv_at hl 2 rfl) ?_
                  refine lv_iload hx hb dL_sessions_328 (lv_at hl 4 rfl) ?_
                  refine lv_iconst (v := (2 : Int32)) hx hb dL_sessions_330 (by decide) ?_
                  obtain ⟨C331, R331, d331, g331, h⟩ := h
                  obtain ⟨u331, o331, h⟩ := h
                  obtain ⟨y331, h⟩ := h
                  rw [g331] at hG
                  refine g_wVi (As := [.int bx2, .int bx8, .int (2 : Int32)]) (rest := []) (n := 3) hx hb hml hown hts hK hlo hG (g_frI d331 (fun lo => g_noX (m_X9_entry l hfl dd cT lo C331 ba0 bx2 bx8 (2 : Int32) h)) lo) qM_L_235 qI_yX9_entry qS_X9_yX9_entry qN_X9 qC_yX9_entry (by decide +kernel) ⟨Nat.le_of_ble_eq_true rfl, Nat.le_of_ble_eq_true rfl⟩ (by rfl) (g_ob_gj o331) rfl hl.1 rfl (Nat.le_of_ble_eq_true rfl) dL_sessions_331 y331 (fun v331x Gx H locs hKx hG => ?_)
                  obtain ⟨D331, h, f331, rfl⟩ := hKx
                  obtain ⟨G331, i331⟩ : ∃ g : gH, g = gj D331 R331 := ⟨_, rfl⟩
                  rw [← i331] at hG
                  replace h := h G331 f331 i331
                  revert h
                  generalize v331x = v331
                  intro h
                  refine lv_aload hx hb dL_sessions_334 (lv_at hl 5 rfl) ?_
                  refine lv_ifnonnull (tgt := 343) hx hb dL_sessions_336 (by decide) ?_
                  refine lv_aload hx hb dL_sessions_343 (lv_at hl 5 rfl) ?_
                  obtain ⟨v345, e345, h⟩ := h
                  refine g_getiN hx hb hts inlX13 hown hK hG (by rfl) 2 (by decide) (List.mem_of_getElem? (i := 24) rfl) e345 dL_sessions_345 ?_
                  exact h348 G331 (kc + 2) (ks + 12) ba0 ba1 bx2 (some ba3r) bx8 (some ba9r) v331 v345 _ _ hG _ (lv_sub hl [0, 1, 2, 3, 4, 5] rfl) h
          intro G kc ks ba0 ba1 bx2 ba3 bx8 H locs hG ls hl h
          rw [w_L_sessions_L265] at h
          rcases ba3 with _ | ba3r
          · replace h := h.1 rfl
            refine lv_iload hx hb dL_sessions_265 (lv_at hl 4 rfl) ?_
            refine lv_aload_nN hx hb dL_sessions_267 rfl (lv_at hl 3 rfl) ?_
            exact (show False from h).elim
          · replace h := h.2 ba3r rfl
            refine lv_iload hx hb dL_sessions_265 (lv_at hl 4 rfl) ?_
            refine lv_aload_n hx hb dL_sessions_267 rfl (lv_at hl 3 rfl) ?_
            obtain ⟨v268, e268, h⟩ := h
            refine g_getiN hx hb hts inlX12 hown hK hG (by rfl) 2 (by decide) (List.mem_of_getElem? (i := 19) rfl) e268 dL_sessions_268 ?_
            refine lv_icmp_ge (tgt := 409) hx hb dL_sessions_271 (by decide) (fun c271 => ?_) (fun c271 => ?_)
            · rw [if_pos c271] at h
              refine lv_aload_n hx hb dL_sessions_409 rfl (lv_at hl 0 rfl) ?_
              refine lv_iload_n hx hb dL_sessions_410 rfl (lv_at hl 2 rfl) ?_
              refine lv_aload_n hx hb dL_sessions_411 rfl (lv_at hl 3 rfl) ?_
              obtain ⟨v412, e412, h⟩ := h
              refine g_getiN hx hb hts inlX12 hown hK hG (by rfl) 2 (by decide) (List.mem_of_getElem? (i := 19) rfl) e412 dL_sessions_412 ?_
              refine lv_iconst (v := (0 : Int32)) hx hb dL_sessions_415 (by decide) ?_
              obtain ⟨C416, R416, d416, g416, h⟩ := h
              obtain ⟨u416, o416, h⟩ := h
              obtain ⟨y416, h⟩ := h
              rw [g416] at hG
              refine g_wVi (As := [.int bx2, .int v412, .int (0 : Int32)]) (rest := []) (n := 3) hx hb hml hown hts hK hlo hG (g_frI d416 (fun lo => g_noX (m_X9_entry l hfl dd cT lo C416 ba0 bx2 v412 (0 : Int32) h)) lo) qM_L_235 qI_yX9_entry qS_X9_yX9_entry qN_X9 qC_yX9_entry (by decide +kernel) ⟨Nat.le_of_ble_eq_true rfl, Nat.le_of_ble_eq_true rfl⟩ (by rfl) (g_ob_gj o416) rfl hl.1 rfl (Nat.le_of_ble_eq_true rfl) dL_sessions_416 y416 (fun v416x Gx H locs hKx hG => ?_)
              obtain ⟨D416, h, f416, rfl⟩ := hKx
              obtain ⟨G416, i416⟩ : ∃ g : gH, g = gj D416 R416 := ⟨_, rfl⟩
              rw [← i416] at hG
              replace h := h G416 f416 i416
              revert h
              generalize v416x = v416
              intro h
              refine lv_iconst (v := (-1 : Int32)) hx hb dL_sessions_419 (by decide) ?_
              refine lv_icmp_ne (tgt := 436) hx hb dL_sessions_420 (by decide) (fun c420 => ?_) (fun c420 => ?_)
              · rw [if_neg c420] at h
                refine lv_iconst (v := (0 : Int32)) hx hb dL_sessions_436 (by decide) ?_
                obtain ⟨y1, y2, h⟩ := h
                refine W.widen (k := MC) (n := MS) y1 y2 ?_
                exact g_zret hx hb hr hlocks hK hlo hG rfl h dL_sessions_437
              · rw [if_pos c420] at h
                refine lv_aload_n hx hb dL_sessions_423 rfl (lv_at hl 0 rfl) ?_
                refine lv_iload_n hx hb dL_sessions_424 rfl (lv_at hl 2 rfl) ?_
                obtain ⟨C425, R425, d425, g425, h⟩ := h
                obtain ⟨u425, o425, h⟩ := h
                obtain ⟨y425, h⟩ := h
                rw [g425] at hG
                refine g_wVi (As := [.int bx2]) (rest := []) (n := 1) hx hb hml hown hts hK hlo hG (g_frI d425 (fun lo => g_noX (m_X9_filesBefore l hfl dd cT lo C425 ba0 bx2 h)) lo) qM_L_247 qI_yX9_filesBefore qS_X9_yX9_filesBefore qN_X9 qC_yX9_filesBefore (by decide +kernel) ⟨Nat.le_of_ble_eq_true rfl, Nat.le_of_ble_eq_true rfl⟩ (by rfl) (g_ob_gj o425) rfl hl.1 rfl (Nat.le_of_ble_eq_true rfl) dL_sessions_425 y425 (fun v425x Gx H locs hKx hG => ?_)
                obtain ⟨D425, h, f425, rfl⟩ := hKx
                obtain ⟨G425, i425⟩ : ∃ g : gH, g = gj D425 R425 := ⟨_, rfl⟩
                rw [← i425] at hG
                replace h := h G425 f425 i425
                revert h
                generalize v425x = v425
                intro h
                refine lv_aload_n hx hb dL_sessions_428 rfl (lv_at hl 1 rfl) ?_
                refine lv_iload_n hx hb dL_sessions_429 rfl (lv_at hl 2 rfl) ?_
                obtain ⟨C430, R430, d430, g430, h⟩ := h
                obtain ⟨u430, o430, h⟩ := h
                obtain ⟨y430, h⟩ := h
                obtain ⟨v430, e430, h⟩ := h
                rw [g430] at hG
                refine g_wVi (As := [.int bx2]) (rest := [.int v425]) (n := 1) hx hb hml hown hts hK hlo hG (g_frI d430 (fun lo => m_X10_there l dd cT lo C430 ba1 bx2 e430) lo) qM_L_178 qI_yX10_there qS_X10_yX10_there qN_X10 qC_yX10_there (by decide +kernel) ⟨Nat.le_of_ble_eq_true rfl, Nat.le_of_ble_eq_true rfl⟩ (by rfl) (g_ob_gj o430) rfl hl.1 rfl (Nat.le_of_ble_eq_true rfl) dL_sessions_430 y430 (fun v430x Gx H locs hKx hG => ?_)
                obtain ⟨D430, ⟨k430a, k430⟩, f430, l430⟩ := hKx
                rw [l430, k430] at hG
                rw [k430] at f430
                rw [k430a]
                rw [← g430] at hG
                refine lv_icmp_eq (tgt := 438) hx hb dL_sessions_433 (by decide) (fun c433 => ?_) (fun c433 => ?_)
                · rw [if_pos c433] at h
                  refine lv_iinc (v := (bx2 + (1 : Int32))) (lv' := [(2, .int (bx2 + (1 : Int32))), (0, .ref ba0), (1, .ref ba1), (3, .ref ba3r), (8, .int bx8)]) hx hb dL_sessions_438 hl (k := 2) rfl rfl (by decide) rfl (fun ls hl => ?_)
                  refine lv_goto (tgt := 2) hx hb dL_sessions_441 (by decide) ?_
                  exact ih2 G425 ((kc + 2) + 1) ((ks + 12) + 6) ba0 ba1 (bx2 + (1 : Int32)) _ _ hG _ (lv_sub hl [1, 2, 0] rfl) h
                · rw [if_neg c433] at h
                  refine lv_iconst (v := (0 : Int32)) hx hb dL_sessions_436 (by decide) ?_
                  obtain ⟨y1, y2, h⟩ := h
                  refine W.widen (k := MC) (n := MS) y1 y2 ?_
                  exact g_zret hx hb hr hlocks hK hlo hG rfl h dL_sessions_437
            · rw [if_neg c271] at h
              refine lv_aload_n hx hb dL_sessions_274 rfl (lv_at hl 3 rfl) ?_
              obtain ⟨v275, e275, h⟩ := h
              refine g_getrN hx hb hts inlX12 hown hK hG (by rfl) 8 (by decide) (List.mem_of_getElem? (i := 22) rfl) e275 dL_sessions_275 ?_
              refine lv_iload hx hb dL_sessions_278 (lv_at hl 4 rfl) ?_
              obtain ⟨v280, e280, h⟩ := h
              refine g_rald_row hx hb hK hG (t := 6) rfl e280 dL_sessions_280 ?_
              rcases v280 with _ | r280
              · replace h := h.1 rfl
                refine lv_astoreN (lv' := [(9, .null), (0, .ref ba0), (1, .ref ba1), (2, .int bx2), (3, .ref ba3r), (8, .int bx8)]) hx hb dL_sessions_281 hl (by decide) rfl (fun ls hl => ?_)
                refine lv_aload_n hx hb dL_sessions_283 rfl (lv_at hl 1 rfl) ?_
                refine lv_iload_n hx hb dL_sessions_284 rfl (lv_at hl 3 rfl) ?_
                refine lv_iload hx hb dL_sessions_285 (lv_at hl 5 rfl) ?_
                refine lv_iconst (v := (0 : Int32)) hx hb dL_sessions_287 (by decide) ?_
                obtain ⟨C288, R288, d288, g288, h⟩ := h
                obtain ⟨u288, o288, h⟩ := h
                obtain ⟨y288, h⟩ := h
                rw [g288] at hG
                refine g_wVi (As := [.int bx2, .int bx8, .int (0 : Int32)]) (rest := []) (n := 3) hx hb hml hown hts hK hlo hG (g_frI d288 (fun lo => g_noX (m_X9_entry l hfl dd cT lo C288 ba0 bx2 bx8 (0 : Int32) h)) lo) qM_L_235 qI_yX9_entry qS_X9_yX9_entry qN_X9 qC_yX9_entry (by decide +kernel) ⟨Nat.le_of_ble_eq_true rfl, Nat.le_of_ble_eq_true rfl⟩ (by rfl) (g_ob_gj o288) rfl hl.1 rfl (Nat.le_of_ble_eq_true rfl) dL_sessions_288 y288 (fun v288x Gx H locs hKx hG => ?_)
                obtain ⟨D288, h, f288, rfl⟩ := hKx
                obtain ⟨G288, i288⟩ : ∃ g : gH, g = gj D288 R288 := ⟨_, rfl⟩
                rw [← i288] at hG
                replace h := h G288 f288 i288
                revert h
                generalize v288x = v288
                intro h
                refine lv_aload_n hx hb dL_sessions_291 rfl (lv_at hl 4 rfl) ?_
                obtain ⟨v292, e292, h⟩ := h
                refine g_getrN hx hb hts inlX12 hown hK hG (by rfl) 6 (by decide) (List.mem_of_getElem? (i := 23) rfl) e292 dL_sessions_292 ?_
                refine lv_iload hx hb dL_sessions_295 (lv_at hl 5 rfl) ?_
                obtain ⟨v297, e297, h⟩ := h
                refine g_iald hx hb hK hG e297 dL_sessions_297 ?_
                refine lv_icmp_ne (tgt := 401) hx hb dL_sessions_298 (by decide) (fun c298 => ?_) (fun c298 => ?_)
                · rw [if_neg c298] at h
                  refine lv_iconst (v := (0 : Int32)) hx hb dL_sessions_401 (by decide) ?_
                  obtain ⟨y1, y2, h⟩ := h
                  refine W.widen (k := MC) (n := MS) y1 y2 ?_
                  exact g_zret hx hb hr hlocks hK hlo hG rfl h dL_sessions_402
                · rw [if_pos c298] at h
                  refine lv_aload_n hx hb dL_sessions_301 rfl (lv_at hl 1 rfl) ?_
                  refine lv_iload_n hx hb dL_sessions_302 rfl (lv_at hl 3 rfl) ?_
                  refine lv_iload hx hb dL_sessions_303 (lv_at hl 5 rfl) ?_
                  refine lv_iconst (v := (1 : Int32)) hx hb dL_sessions_305 (by decide) ?_
                  obtain ⟨C306, R306, d306, g306, h⟩ := h
                  obtain ⟨u306, o306, h⟩ := h
                  obtain ⟨y306, h⟩ := h
                  rw [g306] at hG
                  refine g_wVi (As := [.int bx2, .int bx8, .int (1 : Int32)]) (rest := []) (n := 3) hx hb hml hown hts hK hlo hG (g_frI d306 (fun lo => g_noX (m_X9_entry l hfl dd cT lo C306 ba0 bx2 bx8 (1 : Int32) h)) lo) qM_L_235 qI_yX9_entry qS_X9_yX9_entry qN_X9 qC_yX9_entry (by decide +kernel) ⟨Nat.le_of_ble_eq_true rfl, Nat.le_of_ble_eq_true rfl⟩ (by rfl) (g_ob_gj o306) rfl hl.1 rfl (Nat.le_of_ble_eq_true rfl) dL_sessions_306 y306 (fun v306x Gx H locs hKx hG => ?_)
                  obtain ⟨D306, h, f306, rfl⟩ := hKx
                  obtain ⟨G306, i306⟩ : ∃ g : gH, g = gj D306 R306 := ⟨_, rfl⟩
                  rw [← i306] at hG
                  replace h := h G306 f306 i306
                  revert h
                  generalize v306x = v306
                  intro h
                  refine lv_aloadN hx hb dL_sessions_309 (lv_at hl 0 rfl) ?_
                  refine lv_ifnonnullN hx hb dL_sessions_311 ?_
                  refine lv_iconst (v := (-1 : Int32)) hx hb dL_sessions_314 (by decide) ?_
                  refine lv_goto (tgt := 323) hx hb dL_sessions_315 (by decide) ?_
                  exact h323 G306 ((kc + 2) + 2) ((ks + 12) + 12) ba0 ba1 bx2 (some ba3r) bx8 none v306 (-1 : Int32) _ _ hG _ (lv_sub hl [1, 2, 3, 4, 5, 0] rfl) h
              · replace h := h.2 r280 rfl
                refine lv_astore (lv' := [(9, .ref r280), (0, .ref ba0), (1, .ref ba1), (2, .int bx2), (3, .ref ba3r), (8, .int bx8)]) hx hb dL_sessions_281 hl (by decide) rfl (fun ls hl => ?_)
                refine lv_aload_n hx hb dL_sessions_283 rfl (lv_at hl 1 rfl) ?_
                refine lv_iload_n hx hb dL_sessions_284 rfl (lv_at hl 3 rfl) ?_
                refine lv_iload hx hb dL_sessions_285 (lv_at hl 5 rfl) ?_
                refine lv_iconst (v := (0 : Int32)) hx hb dL_sessions_287 (by decide) ?_
                obtain ⟨C288, R288, d288, g288, h⟩ := h
                obtain ⟨u288, o288, h⟩ := h
                obtain ⟨y288, h⟩ := h
                rw [g288] at hG
                refine g_wVi (As := [.int bx2, .int bx8, .int (0 : Int32)]) (rest := []) (n := 3) hx hb hml hown hts hK hlo hG (g_frI d288 (fun lo => g_noX (m_X9_entry l hfl dd cT lo C288 ba0 bx2 bx8 (0 : Int32) h)) lo) qM_L_235 qI_yX9_entry qS_X9_yX9_entry qN_X9 qC_yX9_entry (by decide +kernel) ⟨Nat.le_of_ble_eq_true rfl, Nat.le_of_ble_eq_true rfl⟩ (by rfl) (g_ob_gj o288) rfl hl.1 rfl (Nat.le_of_ble_eq_true rfl) dL_sessions_288 y288 (fun v288x Gx H locs hKx hG => ?_)
                obtain ⟨D288, h, f288, rfl⟩ := hKx
                obtain ⟨G288, i288⟩ : ∃ g : gH, g = gj D288 R288 := ⟨_, rfl⟩
                rw [← i288] at hG
                replace h := h G288 f288 i288
                revert h
                generalize v288x = v288
                intro h
                refine lv_aload_n hx hb dL_sessions_291 rfl (lv_at hl 4 rfl) ?_
                obtain ⟨v292, e292, h⟩ := h
                refine g_getrN hx hb hts inlX12 hown hK hG (by rfl) 6 (by decide) (List.mem_of_getElem? (i := 23) rfl) e292 dL_sessions_292 ?_
                refine lv_iload hx hb dL_sessions_295 (lv_at hl 5 rfl) ?_
                obtain ⟨v297, e297, h⟩ := h
                refine g_iald hx hb hK hG e297 dL_sessions_297 ?_
                refine lv_icmp_ne (tgt := 401) hx hb dL_sessions_298 (by decide) (fun c298 => ?_) (fun c298 => ?_)
                · rw [if_neg c298] at h
                  refine lv_iconst (v := (0 : Int32)) hx hb dL_sessions_401 (by decide) ?_
                  obtain ⟨y1, y2, h⟩ := h
                  refine W.widen (k := MC) (n := MS) y1 y2 ?_
                  exact g_zret hx hb hr hlocks hK hlo hG rfl h dL_sessions_402
                · rw [if_pos c298] at h
                  refine lv_aload_n hx hb dL_sessions_301 rfl (lv_at hl 1 rfl) ?_
                  refine lv_iload_n hx hb dL_sessions_302 rfl (lv_at hl 3 rfl) ?_
                  refine lv_iload hx hb dL_sessions_303 (lv_at hl 5 rfl) ?_
                  refine lv_iconst (v := (1 : Int32)) hx hb dL_sessions_305 (by decide) ?_
                  obtain ⟨C306, R306, d306, g306, h⟩ := h
                  obtain ⟨u306, o306, h⟩ := h
                  obtain ⟨y306, h⟩ := h
                  rw [g306] at hG
                  refine g_wVi (As := [.int bx2, .int bx8, .int (1 : Int32)]) (rest := []) (n := 3) hx hb hml hown hts hK hlo hG (g_frI d306 (fun lo => g_noX (m_X9_entry l hfl dd cT lo C306 ba0 bx2 bx8 (1 : Int32) h)) lo) qM_L_235 qI_yX9_entry qS_X9_yX9_entry qN_X9 qC_yX9_entry (by decide +kernel) ⟨Nat.le_of_ble_eq_true rfl, Nat.le_of_ble_eq_true rfl⟩ (by rfl) (g_ob_gj o306) rfl hl.1 rfl (Nat.le_of_ble_eq_true rfl) dL_sessions_306 y306 (fun v306x Gx H locs hKx hG => ?_)
                  obtain ⟨D306, h, f306, rfl⟩ := hKx
                  obtain ⟨G306, i306⟩ : ∃ g : gH, g = gj D306 R306 := ⟨_, rfl⟩
                  rw [← i306] at hG
                  replace h := h G306 f306 i306
                  revert h
                  generalize v306x = v306
                  intro h
                  refine lv_aload hx hb dL_sessions_309 (lv_at hl 0 rfl) ?_
                  refine lv_ifnonnull (tgt := 318) hx hb dL_sessions_311 (by decide) ?_
                  refine lv_aload hx hb dL_sessions_318 (lv_at hl 0 rfl) ?_
                  obtain ⟨v320, e320, h⟩ := h
                  refine g_getiN hx hb hts inlX13 hown hK hG (by rfl) 1 (by decide) (List.mem_of_getElem? (i := 8) rfl) e320 dL_sessions_320 ?_
                  exact h323 G306 ((kc + 2) + 2) ((ks + 12) + 12) ba0 ba1 bx2 (some ba3r) bx8 (some r280) v306 v320 _ _ hG _ (lv_sub hl [1, 2, 3, 4, 5, 0] rfl) h
      have h233 : ∀ n233 : Nat, ∀ (G : gH) (kc ks : Nat) (ba0 : Nat) (ba1 : Nat) (bx2 : Int32) (ba3 : Option Nat) (ba6 : Nat) (bx8 : Int32) (H : Heap) (locs : List Loc), g_S lo dd cT s H locs G → ∀ ls : Array Slot, lv_has ls 10 [(0, .ref ba0), (1, .ref ba1), (2, .int bx2), (3, va_rf ba3), (6, .ref ba6), (8, .int bx8)] → w_L_sessions_L233 MC MS K (w_L_sessions_L2 MC MS K n2) n233 G kc ks ba0 ba1 bx2 ba3 ba6 bx8 → W p l e (g_rm 8 143 MC MS) s m ([.ref a0, .ref a1] : List Value).toArray below meth c H locs kc ks (MQ below (va_Qi K (g_Pre lo dd cT) (g_A lo)) ([.ref a0, .ref a1] : List Value).toArray s MC MS (g_A lo)) (F0 m 233 ls []) := by
        intro n233
        induction n233 with
        | zero =>
          intro G kc ks ba0 ba1 bx2 ba3 ba6 bx8 H locs hG ls hl h
          exact (show False from h).elim
        | succ n233 ih233 =>
          intro G kc ks ba0 ba1 bx2 ba3 ba6 bx8 H locs hG ls hl h
          rw [w_L_sessions_L233] at h
          rcases ba3 with _ | ba3r
          · replace h := h.1 rfl
            refine lv_iload hx hb dL_sessions_233 (lv_at hl 5 rfl) ?_
            refine lv_iconst (v := (5 : Int32)) hx hb dL_sessions_235 (by decide) ?_
            refine lv_icmp_ge (tgt := 262) hx hb dL_sessions_236 (by decide) (fun c236 => ?_) (fun c236 => ?_)
            · rw [if_pos c236] at h
              refine lv_iconst (v := (0 : Int32)) hx hb dL_sessions_262 (by decide) ?_
              refine lv_istore (lv' := [(8, .int (0 : Int32)), (0, .ref ba0), (1, .ref ba1), (2, .int bx2), (3, .null), (6, .ref ba6)]) hx hb dL_sessions_263 hl (by decide) rfl (fun ls hl => ?_)
              exact h265 g_N G kc ks ba0 ba1 bx2 none (0 : Int32) _ _ hG _ (lv_sub hl [1, 2, 3, 4, 0] rfl) h
            · rw [if_neg c236] at h
              refine lv_aload_n hx hb dL_sessions_239 rfl (lv_at hl 0 rfl) ?_
              refine lv_iload_n hx hb dL_sessions_240 rfl (lv_at hl 2 rfl) ?_
              refine lv_iload hx hb dL_sessions_241 (lv_at hl 5 rfl) ?_
              obtain ⟨C243, R243, d243, g243, h⟩ := h
              obtain ⟨u243, o243, h⟩ := h
              obtain ⟨y243, h⟩ := h
              rw [g243] at hG
              refine g_wVi (As := [.int bx2, .int bx8]) (rest := []) (n := 2) hx hb hml hown hts hK hlo hG (g_frI d243 (fun lo => g_noX (m_X9_spaceOf l hfl dd cT lo C243 ba0 bx2 bx8 h)) lo) qM_L_229 qI_yX9_spaceOf qS_X9_yX9_spaceOf qN_X9 qC_yX9_spaceOf (by decide +kernel) ⟨Nat.le_of_ble_eq_true rfl, Nat.le_of_ble_eq_true rfl⟩ (by rfl) (g_ob_gj o243) rfl hl.1 rfl (Nat.le_of_ble_eq_true rfl) dL_sessions_243 y243 (fun v243x Gx H locs hKx hG => ?_)
              obtain ⟨D243, h, f243, rfl⟩ := hKx
              obtain ⟨G243, i243⟩ : ∃ g : gH, g = gj D243 R243 := ⟨_, rfl⟩
              rw [← i243] at hG
              replace h := h G243 f243 i243
              revert h
              generalize v243x = v243
              intro h
              refine lv_aload hx hb dL_sessions_246 (lv_at hl 4 rfl) ?_
              refine lv_iload hx hb dL_sessions_248 (lv_at hl 5 rfl) ?_
              obtain ⟨v250, e250, h⟩ := h
              refine g_iald hx hb hK hG e250 dL_sessions_250 ?_
              refine lv_icmp_eq (tgt := 256) hx hb dL_sessions_251 (by decide) (fun c251 => ?_) (fun c251 => ?_)
              · rw [if_pos c251] at h
                refine lv_iinc (v := (bx8 + (1 : Int32))) (lv' := [(8, .int (bx8 + (1 : Int32))), (0, .ref ba0), (1, .ref ba1), (2, .int bx2), (3, .null), (6, .ref ba6)]) hx hb dL_sessions_256 hl (k := 5) rfl rfl (by decide) rfl (fun ls hl => ?_)
                refine lv_goto (tgt := 233) hx hb dL_sessions_259 (by decide) ?_
                exact ih233 G243 (kc + 2) (ks + 12) ba0 ba1 bx2 none ba6 (bx8 + (1 : Int32)) _ _ hG _ (lv_sub hl [1, 2, 3, 4, 5, 0] rfl) h
              · rw [if_neg c251] at h
                refine lv_iconst (v := (0 : Int32)) hx hb dL_sessions_254 (by decide) ?_
                obtain ⟨y1, y2, h⟩ := h
                refine W.widen (k := MC) (n := MS) y1 y2 ?_
                exact g_zret hx hb hr hlocks hK hlo hG rfl h dL_sessions_255
          · replace h := h.2 ba3r rfl
            refine lv_iload hx hb dL_sessions_233 (lv_at hl 5 rfl) ?_
            refine lv_iconst (v := (5 : Int32)) hx hb dL_sessions_235 (by decide) ?_
            refine lv_icmp_ge (tgt := 262) hx hb dL_sessions_236 (by decide) (fun c236 => ?_) (fun c236 => ?_)
            · rw [if_pos c236] at h
              refine lv_iconst (v := (0 : Int32)) hx hb dL_sessions_262 (by decide) ?_
              refine lv_istore (lv' := [(8, .int (0 : Int32)), (0, .ref ba0), (1, .ref ba1), (2, .int bx2), (3, .ref ba3r), (6, .ref ba6)]) hx hb dL_sessions_263 hl (by decide) rfl (fun ls hl => ?_)
              exact h265 g_N G kc ks ba0 ba1 bx2 (some ba3r) (0 : Int32) _ _ hG _ (lv_sub hl [1, 2, 3, 4, 0] rfl) h
            · rw [if_neg c236] at h
              refine lv_aload_n hx hb dL_sessions_239 rfl (lv_at hl 0 rfl) ?_
              refine lv_iload_n hx hb dL_sessions_240 rfl (lv_at hl 2 rfl) ?_
              refine lv_iload hx hb dL_sessions_241 (lv_at hl 5 rfl) ?_
              obtain ⟨C243, R243, d243, g243, h⟩ := h
              obtain ⟨u243, o243, h⟩ := h
              obtain ⟨y243, h⟩ := h
              rw [g243] at hG
              refine g_wVi (As := [.int bx2, .int bx8]) (rest := []) (n := 2) hx hb hml hown hts hK hlo hG (g_frI d243 (fun lo => g_noX (m_X9_spaceOf l hfl dd cT lo C243 ba0 bx2 bx8 h)) lo) qM_L_229 qI_yX9_spaceOf qS_X9_yX9_spaceOf qN_X9 qC_yX9_spaceOf (by decide +kernel) ⟨Nat.le_of_ble_eq_true rfl, Nat.le_of_ble_eq_true rfl⟩ (by rfl) (g_ob_gj o243) rfl hl.1 rfl (Nat.le_of_ble_eq_true rfl) dL_sessions_243 y243 (fun v243x Gx H locs hKx hG => ?_)
              obtain ⟨D243, h, f243, rfl⟩ := hKx
              obtain ⟨G243, i243⟩ : ∃ g : gH, g = gj D243 R243 := ⟨_, rfl⟩
              rw [← i243] at hG
              replace h := h G243 f243 i243
              revert h
              generalize v243x = v243
              intro h
              refine lv_aload hx hb dL_sessions_246 (lv_at hl 4 rfl) ?_
              refine lv_iload hx hb dL_sessions_248 (lv_at hl 5 rfl) ?_
              obtain ⟨v250, e250, h⟩ := h
              refine g_iald hx hb hK hG e250 dL_sessions_250 ?_
              refine lv_icmp_eq (tgt := 256) hx hb dL_sessions_251 (by decide) (fun c251 => ?_) (fun c251 => ?_)
              · rw [if_pos c251] at h
                refine lv_iinc (v := (bx8 + (1 : Int32))) (lv' := [(8, .int (bx8 + (1 : Int32))), (0, .ref ba0), (1, .ref ba1), (2, .int bx2), (3, .ref ba3r), (6, .ref ba6)]) hx hb dL_sessions_256 hl (k := 5) rfl rfl (by decide) rfl (fun ls hl => ?_)
                refine lv_goto (tgt := 233) hx hb dL_sessions_259 (by decide) ?_
                exact ih233 G243 (kc + 2) (ks + 12) ba0 ba1 bx2 (some ba3r) ba6 (bx8 + (1 : Int32)) _ _ hG _ (lv_sub hl [1, 2, 3, 4, 5, 0] rfl) h
              · rw [if_neg c251] at h
                refine lv_iconst (v := (0 : Int32)) hx hb dL_sessions_254 (by decide) ?_
                obtain ⟨y1, y2, h⟩ := h
                refine W.widen (k := MC) (n := MS) y1 y2 ?_
                exact g_zret hx hb hr hlocks hK hlo hG rfl h dL_sessions_255
      have h200 : ∀ n200 : Nat, ∀ (G : gH) (kc ks : Nat) (ba0 : Nat) (ba1 : Nat) (bx2 : Int32) (ba3 : Option Nat) (ba6 : Nat) (ba7 : Nat) (bx8 : Int32) (H : Heap) (locs : List Loc), g_S lo dd cT s H locs G → ∀ ls : Array Slot, lv_has ls 10 [(0, .ref ba0), (1, .ref ba1), (2, .int bx2), (3, va_rf ba3), (6, .ref ba6), (7, .ref ba7), (8, .int bx8)] → w_L_sessions_L200 MC MS K (w_L_sessions_L2 MC MS K n2) n200 G kc ks ba0 ba1 bx2 ba3 ba6 ba7 bx8 → W p l e (g_rm 8 143 MC MS) s m ([.ref a0, .ref a1] : List Value).toArray below meth c H locs kc ks (MQ below (va_Qi K (g_Pre lo dd cT) (g_A lo)) ([.ref a0, .ref a1] : List Value).toArray s MC MS (g_A lo)) (F0 m 200 ls []) := by
        intro n200
        induction n200 with
        | zero =>
          intro G kc ks ba0 ba1 bx2 ba3 ba6 ba7 bx8 H locs hG ls hl h
          exact (show False from h).elim
        | succ n200 ih200 =>
          intro G kc ks ba0 ba1 bx2 ba3 ba6 ba7 bx8 H locs hG ls hl h
          rw [w_L_sessions_L200] at h
          rcases ba3 with _ | ba3r
          · replace h := h.1 rfl
            refine lv_iload hx hb dL_sessions_200 (lv_at hl 6 rfl) ?_
            refine lv_bipush (v := (9 : Int32)) hx hb dL_sessions_202 (by decide) ?_
            refine lv_icmp_ge (tgt := 230) hx hb dL_sessions_204 (by decide) (fun c204 => ?_) (fun c204 => ?_)
            · rw [if_pos c204] at h
              refine lv_iconst (v := (1 : Int32)) hx hb dL_sessions_230 (by decide) ?_
              refine lv_istore (lv' := [(8, .int (1 : Int32)), (0, .ref ba0), (1, .ref ba1), (2, .int bx2), (3, .null), (6, .ref ba6), (7, .ref ba7)]) hx hb dL_sessions_231 hl (by decide) rfl (fun ls hl => ?_)
              exact h233 g_N G kc ks ba0 ba1 bx2 none ba6 (1 : Int32) _ _ hG _ (lv_sub hl [1, 2, 3, 4, 5, 0] rfl) h
            · rw [if_neg c204] at h
              refine lv_aload_n hx hb dL_sessions_207 rfl (lv_at hl 0 rfl) ?_
              refine lv_iload_n hx hb dL_sessions_208 rfl (lv_at hl 2 rfl) ?_
              refine lv_iload hx hb dL_sessions_209 (lv_at hl 6 rfl) ?_
              obtain ⟨C211, R211, d211, g211, h⟩ := h
              obtain ⟨u211, o211, h⟩ := h
              obtain ⟨y211, h⟩ := h
              rw [g211] at hG
              refine g_wVi (As := [.int bx2, .int bx8]) (rest := []) (n := 2) hx hb hml hown hts hK hlo hG (g_frI d211 (fun lo => g_noX (m_X9_session l hfl dd cT lo C211 ba0 bx2 bx8 h)) lo) qM_L_227 qI_yX9_session qS_X9_yX9_session qN_X9 qC_yX9_session (by decide +kernel) ⟨Nat.le_of_ble_eq_true rfl, Nat.le_of_ble_eq_true rfl⟩ (by rfl) (g_ob_gj o211) rfl hl.1 rfl (Nat.le_of_ble_eq_true rfl) dL_sessions_211 y211 (fun v211x Gx H locs hKx hG => ?_)
              obtain ⟨D211, h, f211, rfl⟩ := hKx
              obtain ⟨G211, i211⟩ : ∃ g : gH, g = gj D211 R211 := ⟨_, rfl⟩
              rw [← i211] at hG
              replace h := h G211 f211 i211
              revert h
              generalize v211x = v211
              intro h
              refine lv_aload hx hb dL_sessions_214 (lv_at hl 5 rfl) ?_
              refine lv_iload hx hb dL_sessions_216 (lv_at hl 6 rfl) ?_
              obtain ⟨v218, e218, h⟩ := h
              refine g_iald hx hb hK hG e218 dL_sessions_218 ?_
              refine lv_icmp_eq (tgt := 224) hx hb dL_sessions_219 (by decide) (fun c219 => ?_) (fun c219 => ?_)
              · rw [if_pos c219] at h
                refine lv_iinc (v := (bx8 + (1 : Int32))) (lv' := [(8, .int (bx8 + (1 : Int32))), (0, .ref ba0), (1, .ref ba1), (2, .int bx2), (3, .null), (6, .ref ba6), (7, .ref ba7)]) hx hb dL_sessions_224 hl (k := 6) rfl rfl (by decide) rfl (fun ls hl => ?_)
                refine lv_goto (tgt := 200) hx hb dL_sessions_227 (by decide) ?_
                exact ih200 G211 (kc + 2) (ks + 12) ba0 ba1 bx2 none ba6 ba7 (bx8 + (1 : Int32)) _ _ hG _ (lv_sub hl [1, 2, 3, 4, 5, 6, 0] rfl) h
              · rw [if_neg c219] at h
                refine lv_iconst (v := (0 : Int32)) hx hb dL_sessions_222 (by decide) ?_
                obtain ⟨y1, y2, h⟩ := h
                refine W.widen (k := MC) (n := MS) y1 y2 ?_
                exact g_zret hx hb hr hlocks hK hlo hG rfl h dL_sessions_223
          · replace h := h.2 ba3r rfl
            refine lv_iload hx hb dL_sessions_200 (lv_at hl 6 rfl) ?_
            refine lv_bipush (v := (9 : Int32)) hx hb dL_sessions_202 (by decide) ?_
            refine lv_icmp_ge (tgt := 230) hx hb dL_sessions_204 (by decide) (fun c204 => ?_) (fun c204 => ?_)
            · rw [if_pos c204] at h
              refine lv_iconst (v := (1 : Int32)) hx hb dL_sessions_230 (by decide) ?_
              refine lv_istore (lv' := [(8, .int (1 : Int32)), (0, .ref ba0), (1, .ref ba1), (2, .int bx2), (3, .ref ba3r), (6, .ref ba6), (7, .ref ba7)]) hx hb dL_sessions_231 hl (by decide) rfl (fun ls hl => ?_)
              exact h233 g_N G kc ks ba0 ba1 bx2 (some ba3r) ba6 (1 : Int32) _ _ hG _ (lv_sub hl [1, 2, 3, 4, 5, 0] rfl) h
            · rw [if_neg c204] at h
              refine lv_aload_n hx hb dL_sessions_207 rfl (lv_at hl 0 rfl) ?_
              refine lv_iload_n hx hb dL_sessions_208 rfl (lv_at hl 2 rfl) ?_
              refine lv_iload hx hb dL_sessions_209 (lv_at hl 6 rfl) ?_
              obtain ⟨C211, R211, d211, g211, h⟩ := h
              obtain ⟨u211, o211, h⟩ := h
              obtain ⟨y211, h⟩ := h
              rw [g211] at hG
              refine g_wVi (As := [.int bx2, .int bx8]) (rest := []) (n := 2) hx hb hml hown hts hK hlo hG (g_frI d211 (fun lo => g_noX (m_X9_session l hfl dd cT lo C211 ba0 bx2 bx8 h)) lo) qM_L_227 qI_yX9_session qS_X9_yX9_session qN_X9 qC_yX9_session (by decide +kernel) ⟨Nat.le_of_ble_eq_true rfl, Nat.le_of_ble_eq_true rfl⟩ (by rfl) (g_ob_gj o211) rfl hl.1 rfl (Nat.le_of_ble_eq_true rfl) dL_sessions_211 y211 (fun v211x Gx H locs hKx hG => ?_)
              obtain ⟨D211, h, f211, rfl⟩ := hKx
              obtain ⟨G211, i211⟩ : ∃ g : gH, g = gj D211 R211 := ⟨_, rfl⟩
              rw [← i211] at hG
              replace h := h G211 f211 i211
              revert h
              generalize v211x = v211
              intro h
              refine lv_aload hx hb dL_sessions_214 (lv_at hl 5 rfl) ?_
              refine lv_iload hx hb dL_sessions_216 (lv_at hl 6 rfl) ?_
              obtain ⟨v218, e218, h⟩ := h
              refine g_iald hx hb hK hG e218 dL_sessions_218 ?_
              refine lv_icmp_eq (tgt := 224) hx hb dL_sessions_219 (by decide) (fun c219 => ?_) (fun c219 => ?_)
              · rw [if_pos c219] at h
                refine lv_iinc (v := (bx8 + (1 : Int32))) (lv' := [(8, .int (bx8 + (1 : Int32))), (0, .ref ba0), (1, .ref ba1), (2, .int bx2), (3, .ref ba3r), (6, .ref ba6), (7, .ref ba7)]) hx hb dL_sessions_224 hl (k := 6) rfl rfl (by decide) rfl (fun ls hl => ?_)
                refine lv_goto (tgt := 200) hx hb dL_sessions_227 (by decide) ?_
                exact ih200 G211 (kc + 2) (ks + 12) ba0 ba1 bx2 (some ba3r) ba6 ba7 (bx8 + (1 : Int32)) _ _ hG _ (lv_sub hl [1, 2, 3, 4, 5, 6, 0] rfl) h
              · rw [if_neg c219] at h
                refine lv_iconst (v := (0 : Int32)) hx hb dL_sessions_222 (by decide) ?_
                obtain ⟨y1, y2, h⟩ := h
                refine W.widen (k := MC) (n := MS) y1 y2 ?_
                exact g_zret hx hb hr hlocks hK hlo hG rfl h dL_sessions_223
      have h188 : ∀ (G : gH) (kc ks : Nat) (ba0 : Nat) (ba1 : Nat) (bx2 : Int32) (ba3 : Option Nat) (bx5 : Int32) (ba6 : Nat) (z0 : Nat) (z1 : Nat) (z2 : Int32) (z3 : Int32) (H : Heap) (locs : List Loc), g_S lo dd cT s H locs G → ∀ ls : Array Slot, lv_has ls 10 [(0, .ref ba0), (1, .ref ba1), (2, .int bx2), (3, va_rf ba3), (5, .int bx5), (6, .ref ba6)] → w_L_sessions_J188 MC MS K (w_L_sessions_L2 MC MS K n2) G kc ks ba0 ba1 bx2 ba3 bx5 ba6 z0 z1 z2 z3 → W p l e (g_rm 8 143 MC MS) s m ([.ref a0, .ref a1] : List Value).toArray below meth c H locs kc ks (MQ below (va_Qi K (g_Pre lo dd cT) (g_A lo)) ([.ref a0, .ref a1] : List Value).toArray s MC MS (g_A lo)) (F0 m 188 ls [.int z3, .int z2, .ref z1, .ref z0]) := by
        intro G kc ks ba0 ba1 bx2 ba3 bx5 ba6 z0 z1 z2 z3 H locs hG ls hl h
        unfold w_L_sessions_J188 at h
        rcases ba3 with _ | ba3r
        · replace h := h.1 rfl
          obtain ⟨G188, e188, h⟩ := h
          refine g_iast hx hb hK hG e188 dL_sessions_188 (fun H locs hG => ?_)
          refine lv_dup hx hb dL_sessions_189 rfl ?_
          refine lv_bipush (v := (8 : Int32)) hx hb dL_sessions_190 (by decide) ?_
          refine lv_iload hx hb dL_sessions_192 (lv_at hl 4 rfl) ?_
          obtain ⟨G194, e194, h⟩ := h
          refine g_iast hx hb hK hG e194 dL_sessions_194 (fun H locs hG => ?_)
          refine lv_astore (lv' := [(7, .ref z0), (0, .ref ba0), (1, .ref ba1), (2, .int bx2), (3, .null), (5, .int bx5), (6, .ref ba6)]) hx hb dL_sessions_195 hl (by decide) rfl (fun ls hl => ?_)
          refine lv_iconst (v := (0 : Int32)) hx hb dL_sessions_197 (by decide) ?_
          refine lv_istore (lv' := [(8, .int (0 : Int32)), (7, .ref z0), (0, .ref ba0), (1, .ref ba1), (2, .int bx2), (3, .null), (5, .int bx5), (6, .ref ba6)]) hx hb dL_sessions_198 hl (by decide) rfl (fun ls hl => ?_)
          exact h200 g_N G194 kc ks ba0 ba1 bx2 none ba6 z0 (0 : Int32) _ _ hG _ (lv_sub hl [2, 3, 4, 5, 7, 1, 0] rfl) h
        · replace h := h.2 ba3r rfl
          obtain ⟨G188, e188, h⟩ := h
          refine g_iast hx hb hK hG e188 dL_sessions_188 (fun H locs hG => ?_)
          refine lv_dup hx hb dL_sessions_189 rfl ?_
          refine lv_bipush (v := (8 : Int32)) hx hb dL_sessions_190 (by decide) ?_
          refine lv_iload hx hb dL_sessions_192 (lv_at hl 4 rfl) ?_
          obtain ⟨G194, e194, h⟩ := h
          refine g_iast hx hb hK hG e194 dL_sessions_194 (fun H locs hG => ?_)
          refine lv_astore (lv' := [(7, .ref z0), (0, .ref ba0), (1, .ref ba1), (2, .int bx2), (3, .ref ba3r), (5, .int bx5), (6, .ref ba6)]) hx hb dL_sessions_195 hl (by decide) rfl (fun ls hl => ?_)
          refine lv_iconst (v := (0 : Int32)) hx hb dL_sessions_197 (by decide) ?_
          refine lv_istore (lv' := [(8, .int (0 : Int32)), (7, .ref z0), (0, .ref ba0), (1, .ref ba1), (2, .int bx2), (3, .ref ba3r), (5, .int bx5), (6, .ref ba6)]) hx hb dL_sessions_198 hl (by decide) rfl (fun ls hl => ?_)
          exact h200 g_N G194 kc ks ba0 ba1 bx2 (some ba3r) ba6 z0 (0 : Int32) _ _ hG _ (lv_sub hl [2, 3, 4, 5, 7, 1, 0] rfl) h
      have h163 : ∀ (G : gH) (kc ks : Nat) (ba0 : Nat) (ba1 : Nat) (bx2 : Int32) (ba3 : Option Nat) (bx5 : Int32) (ba6 : Nat) (z0 : Nat) (z1 : Nat) (z2 : Int32) (z3 : Int32) (H : Heap) (locs : List Loc), g_S lo dd cT s H locs G → ∀ ls : Array Slot, lv_has ls 10 [(0, .ref ba0), (1, .ref ba1), (2, .int bx2), (3, va_rf ba3), (5, .int bx5), (6, .ref ba6)] → w_L_sessions_J163 MC MS K (w_L_sessions_L2 MC MS K n2) G kc ks ba0 ba1 bx2 ba3 bx5 ba6 z0 z1 z2 z3 → W p l e (g_rm 8 143 MC MS) s m ([.ref a0, .ref a1] : List Value).toArray below meth c H locs kc ks (MQ below (va_Qi K (g_Pre lo dd cT) (g_A lo)) ([.ref a0, .ref a1] : List Value).toArray s MC MS (g_A lo)) (F0 m 163 ls [.int z3, .int z2, .ref z1, .ref z0]) := by
        intro G kc ks ba0 ba1 bx2 ba3 bx5 ba6 z0 z1 z2 z3 H locs hG ls hl h
        unfold w_L_sessions_J163 at h
        rcases ba3 with _ | ba3r
        · replace h := h.1 rfl
          obtain ⟨G163, e163, h⟩ := h
          refine g_iast hx hb hK hG e163 dL_sessions_163 (fun H locs hG => ?_)
          refine lv_dup hx hb dL_sessions_164 rfl ?_
          refine lv_bipush (v := (6 : Int32)) hx hb dL_sessions_165 (by decide) ?_
          refine lv_aload_nN hx hb dL_sessions_167 rfl (lv_at hl 3 rfl) ?_
          exact (show False from h).elim
        · replace h := h.2 ba3r rfl
          obtain ⟨G163, e163, h⟩ := h
          refine g_iast hx hb hK hG e163 dL_sessions_163 (fun H locs hG => ?_)
          refine lv_dup hx hb dL_sessions_164 rfl ?_
          refine lv_bipush (v := (6 : Int32)) hx hb dL_sessions_165 (by decide) ?_
          refine lv_aload_n hx hb dL_sessions_167 rfl (lv_at hl 3 rfl) ?_
          obtain ⟨v168, e168, h⟩ := h
          refine g_getiN hx hb hts inlX12 hown hK hG (by rfl) 4 (by decide) (List.mem_of_getElem? (i := 21) rfl) e168 dL_sessions_168 ?_
          obtain ⟨G171, e171, h⟩ := h
          refine g_iast hx hb hK hG e171 dL_sessions_171 (fun H locs hG => ?_)
          refine lv_dup hx hb dL_sessions_172 rfl ?_
          refine lv_bipush (v := (7 : Int32)) hx hb dL_sessions_173 (by decide) ?_
          refine lv_aload_n hx hb dL_sessions_175 rfl (lv_at hl 1 rfl) ?_
          refine lv_iload_n hx hb dL_sessions_176 rfl (lv_at hl 2 rfl) ?_
          obtain ⟨C177, R177, d177, g177, h⟩ := h
          obtain ⟨u177, o177, h⟩ := h
          obtain ⟨y177, h⟩ := h
          obtain ⟨v177, e177, h⟩ := h
          rw [g177] at hG
          refine g_wVi (As := [.int bx2]) (rest := [.int (7 : Int32), .ref z0, .ref z0]) (n := 1) hx hb hml hown hts hK hlo hG (g_frI d177 (fun lo => m_X10_reaches l dd cT lo C177 ba1 bx2 e177) lo) qM_L_223 qI_yX10_reaches qS_X10_yX10_reaches qN_X10 qC_yX10_reaches (by decide +kernel) ⟨Nat.le_of_ble_eq_true rfl, Nat.le_of_ble_eq_true rfl⟩ (by rfl) (g_ob_gj o177) rfl hl.1 rfl (Nat.le_of_ble_eq_true rfl) dL_sessions_177 y177 (fun v177x Gx H locs hKx hG => ?_)
          obtain ⟨D177, ⟨k177a, k177⟩, f177, l177⟩ := hKx
          rw [l177, k177] at hG
          rw [k177] at f177
          rw [k177a]
          rw [← g177] at hG
          refine lv_if_eq (tgt := 187) hx hb dL_sessions_180 (by decide) (fun c180 => ?_) (fun c180 => ?_)
          · rw [if_pos c180] at h
            refine lv_iconst (v := (0 : Int32)) hx hb dL_sessions_187 (by decide) ?_
            exact h188 G171 kc ks ba0 ba1 bx2 (some ba3r) bx5 ba6 z0 z0 (7 : Int32) (0 : Int32) _ _ hG _ (lv_sub hl [0, 1, 2, 3, 4, 5] rfl) h
          · rw [if_neg c180] at h
            refine lv_iconst (v := (1 : Int32)) hx hb dL_sessions_183 (by decide) ?_
            refine lv_goto (tgt := 188) hx hb dL_sessions_184 (by decide) ?_
            exact h188 G171 kc ks ba0 ba1 bx2 (some ba3r) bx5 ba6 z0 z0 (7 : Int32) (1 : Int32) _ _ hG _ (lv_sub hl [0, 1, 2, 3, 4, 5] rfl) h
      have h31 : ∀ n31 : Nat, ∀ (G : gH) (kc ks : Nat) (ba0 : Nat) (ba1 : Nat) (bx2 : Int32) (ba3 : Option Nat) (bx4 : Int32) (bx5 : Int32) (ba6 : Nat) (bx7 : Int32) (H : Heap) (locs : List Loc), g_S lo dd cT s H locs G → ∀ ls : Array Slot, lv_has ls 10 [(0, .ref ba0), (1, .ref ba1), (2, .int bx2), (3, va_rf ba3), (4, .int bx4), (5, .int bx5), (6, .ref ba6), (7, .int bx7)] → w_L_sessions_L31 MC MS K (w_L_sessions_L2 MC MS K n2) n31 G kc ks ba0 ba1 bx2 ba3 bx4 bx5 ba6 bx7 → W p l e (g_rm 8 143 MC MS) s m ([.ref a0, .ref a1] : List Value).toArray below meth c H locs kc ks (MQ below (va_Qi K (g_Pre lo dd cT) (g_A lo)) ([.ref a0, .ref a1] : List Value).toArray s MC MS (g_A lo)) (F0 m 31 ls []) := by
        intro n31
        induction n31 with
        | zero =>
          intro G kc ks ba0 ba1 bx2 ba3 bx4 bx5 ba6 bx7 H locs hG ls hl h
          exact (show False from h).elim
        | succ n31 ih31 =>
          have h83 : ∀ (G : gH) (kc ks : Nat) (ba0 : Nat) (ba1 : Nat) (bx2 : Int32) (ba3 : Option Nat) (bx5 : Int32) (ba6 : Nat) (bx7 : Int32) (z0 : Int32) (z1 : Int32) (H : Heap) (locs : List Loc), g_S lo dd cT s H locs G → ∀ ls : Array Slot, lv_has ls 10 [(0, .ref ba0), (1, .ref ba1), (2, .int bx2), (3, va_rf ba3), (5, .int bx5), (6, .ref ba6), (7, .int bx7)] → w_L_sessions_J83 MC MS K (w_L_sessions_L2 MC MS K n2) (w_L_sessions_L31 MC MS K (w_L_sessions_L2 MC MS K n2) n31) G kc ks ba0 ba1 bx2 ba3 bx5 ba6 bx7 z0 z1 → W p l e (g_rm 8 143 MC MS) s m ([.ref a0, .ref a1] : List Value).toArray below meth c H locs kc ks (MQ below (va_Qi K (g_Pre lo dd cT) (g_A lo)) ([.ref a0, .ref a1] : List Value).toArray s MC MS (g_A lo)) (F0 m 83 ls [.int z1, .int z0]) := by
            intro G kc ks ba0 ba1 bx2 ba3 bx5 ba6 bx7 z0 z1 H locs hG ls hl h
            unfold w_L_sessions_J83 at h
            rcases ba3 with _ | ba3r
            · replace h := h.1 rfl
              refine lv_iadd hx hb dL_sessions_83 ?_
              refine lv_istore (lv' := [(4, .int (z0 + z1)), (0, .ref ba0), (1, .ref ba1), (2, .int bx2), (3, .null), (5, .int bx5), (6, .ref ba6), (7, .int bx7)]) hx hb dL_sessions_84 hl (by decide) rfl (fun ls hl => ?_)
              refine lv_iload hx hb dL_sessions_86 (lv_at hl 5 rfl) ?_
              refine lv_iload hx hb dL_sessions_88 (lv_at hl 7 rfl) ?_
              refine lv_aload_n hx hb dL_sessions_90 rfl (lv_at hl 2 rfl) ?_
              obtain ⟨C91, R91, d91, g91, h⟩ := h
              obtain ⟨u91, o91, h⟩ := h
              obtain ⟨y91, h⟩ := h
              obtain ⟨v91, e91, h⟩ := h
              rw [g91] at hG
              refine g_wVi (As := []) (rest := [.int bx7, .int bx5]) (n := 0) hx hb hml hown hts hK hlo hG (g_frI d91 (fun lo => m_X10_main l dd cT lo C91 ba1 e91) lo) qM_L_121 qI_yX10_main qS_X10_yX10_main qN_X10 qC_yX10_main (by decide +kernel) ⟨Nat.le_of_ble_eq_true rfl, Nat.le_of_ble_eq_true rfl⟩ (by rfl) (g_ob_gj o91) rfl hl.1 rfl (Nat.le_of_ble_eq_true rfl) dL_sessions_91 y91 (fun v91x Gx H locs hKx hG => ?_)
              obtain ⟨D91, ⟨k91a, k91⟩, f91, l91⟩ := hKx
              rw [l91, k91] at hG
              rw [k91] at f91
              rw [k91a]
              rw [← g91] at hG
              refine lv_icmp_ge (tgt := 101) hx hb dL_sessions_94 (by decide) (fun c94 => ?_) (fun c94 => ?_)
              · rw [if_pos c94] at h
                refine lv_iconst (v := (1 : Int32)) hx hb dL_sessions_101 (by decide) ?_
                refine lv_iadd hx hb dL_sessions_102 ?_
                refine lv_istore (lv' := [(5, .int (bx5 + (1 : Int32))), (4, .int (z0 + z1)), (0, .ref ba0), (1, .ref ba1), (2, .int bx2), (3, .null), (6, .ref ba6), (7, .int bx7)]) hx hb dL_sessions_103 hl (by decide) rfl (fun ls hl => ?_)
                refine lv_iinc (v := (bx7 + (1 : Int32))) (lv' := [(7, .int (bx7 + (1 : Int32))), (5, .int (bx5 + (1 : Int32))), (4, .int (z0 + z1)), (0, .ref ba0), (1, .ref ba1), (2, .int bx2), (3, .null), (6, .ref ba6)]) hx hb dL_sessions_105 hl (k := 7) rfl rfl (by decide) rfl (fun ls hl => ?_)
                refine lv_goto (tgt := 31) hx hb dL_sessions_108 (by decide) ?_
                exact ih31 G kc ks ba0 ba1 bx2 none (z0 + z1) (bx5 + (1 : Int32)) ba6 (bx7 + (1 : Int32)) _ _ hG _ (lv_sub hl [3, 4, 5, 6, 2, 1, 7, 0] rfl) h
              · rw [if_neg c94] at h
                refine lv_iconst (v := (0 : Int32)) hx hb dL_sessions_97 (by decide) ?_
                refine lv_goto (tgt := 102) hx hb dL_sessions_98 (by decide) ?_
                refine lv_iadd hx hb dL_sessions_102 ?_
                refine lv_istore (lv' := [(5, .int (bx5 + (0 : Int32))), (4, .int (z0 + z1)), (0, .ref ba0), (1, .ref ba1), (2, .int bx2), (3, .null), (6, .ref ba6), (7, .int bx7)]) hx hb dL_sessions_103 hl (by decide) rfl (fun ls hl => ?_)
                refine lv_iinc (v := (bx7 + (1 : Int32))) (lv' := [(7, .int (bx7 + (1 : Int32))), (5, .int (bx5 + (0 : Int32))), (4, .int (z0 + z1)), (0, .ref ba0), (1, .ref ba1), (2, .int bx2), (3, .null), (6, .ref ba6)]) hx hb dL_sessions_105 hl (k := 7) rfl rfl (by decide) rfl (fun ls hl => ?_)
                refine lv_goto (tgt := 31) hx hb dL_sessions_108 (by decide) ?_
                exact ih31 G kc ks ba0 ba1 bx2 none (z0 + z1) (bx5 + (0 : Int32)) ba6 (bx7 + (1 : Int32)) _ _ hG _ (lv_sub hl [3, 4, 5, 6, 2, 1, 7, 0] rfl) h
            · replace h := h.2 ba3r rfl
              refine lv_iadd hx hb dL_sessions_83 ?_
              refine lv_istore (lv' := [(4, .int (z0 + z1)), (0, .ref ba0), (1, .ref ba1), (2, .int bx2), (3, .ref ba3r), (5, .int bx5), (6, .ref ba6), (7, .int bx7)]) hx hb dL_sessions_84 hl (by decide) rfl (fun ls hl => ?_)
              refine lv_iload hx hb dL_sessions_86 (lv_at hl 5 rfl) ?_
              refine lv_iload hx hb dL_sessions_88 (lv_at hl 7 rfl) ?_
              refine lv_aload_n hx hb dL_sessions_90 rfl (lv_at hl 2 rfl) ?_
              obtain ⟨C91, R91, d91, g91, h⟩ := h
              obtain ⟨u91, o91, h⟩ := h
              obtain ⟨y91, h⟩ := h
              obtain ⟨v91, e91, h⟩ := h
              rw [g91] at hG
              refine g_wVi (As := []) (rest := [.int bx7, .int bx5]) (n := 0) hx hb hml hown hts hK hlo hG (g_frI d91 (fun lo => m_X10_main l dd cT lo C91 ba1 e91) lo) qM_L_121 qI_yX10_main qS_X10_yX10_main qN_X10 qC_yX10_main (by decide +kernel) ⟨Nat.le_of_ble_eq_true rfl, Nat.le_of_ble_eq_true rfl⟩ (by rfl) (g_ob_gj o91) rfl hl.1 rfl (Nat.le_of_ble_eq_true rfl) dL_sessions_91 y91 (fun v91x Gx H locs hKx hG => ?_)
              obtain ⟨D91, ⟨k91a, k91⟩, f91, l91⟩ := hKx
              rw [l91, k91] at hG
              rw [k91] at f91
              rw [k91a]
              rw [← g91] at hG
              refine lv_icmp_ge (tgt := 101) hx hb dL_sessions_94 (by decide) (fun c94 => ?_) (fun c94 => ?_)
              · rw [if_pos c94] at h
                refine lv_iconst (v := (1 : Int32)) hx hb dL_sessions_101 (by decide) ?_
                refine lv_iadd hx hb dL_sessions_102 ?_
                refine lv_istore (lv' := [(5, .int (bx5 + (1 : Int32))), (4, .int (z0 + z1)), (0, .ref ba0), (1, .ref ba1), (2, .int bx2), (3, .ref ba3r), (6, .ref ba6), (7, .int bx7)]) hx hb dL_sessions_103 hl (by decide) rfl (fun ls hl => ?_)
                refine lv_iinc (v := (bx7 + (1 : Int32))) (lv' := [(7, .int (bx7 + (1 : Int32))), (5, .int (bx5 + (1 : Int32))), (4, .int (z0 + z1)), (0, .ref ba0), (1, .ref ba1), (2, .int bx2), (3, .ref ba3r), (6, .ref ba6)]) hx hb dL_sessions_105 hl (k := 7) rfl rfl (by decide) rfl (fun ls hl => ?_)
                refine lv_goto (tgt := 31) hx hb dL_sessions_108 (by decide) ?_
                exact ih31 G kc ks ba0 ba1 bx2 (some ba3r) (z0 + z1) (bx5 + (1 : Int32)) ba6 (bx7 + (1 : Int32)) _ _ hG _ (lv_sub hl [3, 4, 5, 6, 2, 1, 7, 0] rfl) h
              · rw [if_neg c94] at h
                refine lv_iconst (v := (0 : Int32)) hx hb dL_sessions_97 (by decide) ?_
                refine lv_goto (tgt := 102) hx hb dL_sessions_98 (by decide) ?_
                refine lv_iadd hx hb dL_sessions_102 ?_
                refine lv_istore (lv' := [(5, .int (bx5 + (0 : Int32))), (4, .int (z0 + z1)), (0, .ref ba0), (1, .ref ba1), (2, .int bx2), (3, .ref ba3r), (6, .ref ba6), (7, .int bx7)]) hx hb dL_sessions_103 hl (by decide) rfl (fun ls hl => ?_)
                refine lv_iinc (v := (bx7 + (1 : Int32))) (lv' := [(7, .int (bx7 + (1 : Int32))), (5, .int (bx5 + (0 : Int32))), (4, .int (z0 + z1)), (0, .ref ba0), (1, .ref ba1), (2, .int bx2), (3, .ref ba3r), (6, .ref ba6)]) hx hb dL_sessions_105 hl (k := 7) rfl rfl (by decide) rfl (fun ls hl => ?_)
                refine lv_goto (tgt := 31) hx hb dL_sessions_108 (by decide) ?_
                exact ih31 G kc ks ba0 ba1 bx2 (some ba3r) (z0 + z1) (bx5 + (0 : Int32)) ba6 (bx7 + (1 : Int32)) _ _ hG _ (lv_sub hl [3, 4, 5, 6, 2, 1, 7, 0] rfl) h
          intro G kc ks ba0 ba1 bx2 ba3 bx4 bx5 ba6 bx7 H locs hG ls hl h
          rw [w_L_sessions_L31] at h
          rcases ba3 with _ | ba3r
          · replace h := h.1 rfl
            refine lv_iload hx hb dL_sessions_31 (lv_at hl 7 rfl) ?_
            refine lv_aload_n hx hb dL_sessions_33 rfl (lv_at hl 1 rfl) ?_
            obtain ⟨v34, e34, h⟩ := h
            refine g_getiN hx hb hts inlX10 hown hK hG (by rfl) 0 (by decide) (List.mem_of_getElem? (i := 0) rfl) e34 dL_sessions_34 ?_
            refine lv_icmp_ge (tgt := 111) hx hb dL_sessions_37 (by decide) (fun c37 => ?_) (fun c37 => ?_)
            · rw [if_pos c37] at h
              refine lv_bipush (v := (9 : Int32)) hx hb dL_sessions_111 (by decide) ?_
              obtain ⟨y113, h⟩ := h
              refine g_newai (N := 9) hx hb hts hK hlo hG (by decide) (by decide) (Nat.le_of_ble_eq_true rfl) y113 dL_sessions_113 (fun q113 H z113 hG => ?_)
              obtain ⟨G113, i113⟩ : ∃ g : gH, g = va_up G q113 (some (.inl (0, 9, fun _ => 0))) := ⟨_, rfl⟩
              rw [← i113] at hG
              replace h := h q113 z113 G113 i113
              refine lv_dup hx hb dL_sessions_115 rfl ?_
              refine lv_iconst (v := (0 : Int32)) hx hb dL_sessions_116 (by decide) ?_
              refine lv_aload_nN hx hb dL_sessions_117 rfl (lv_at hl 3 rfl) ?_
              exact (show False from h).elim
            · rw [if_neg c37] at h
              refine lv_aload_n hx hb dL_sessions_40 rfl (lv_at hl 1 rfl) ?_
              obtain ⟨v41, e41, h⟩ := h
              refine g_getrN hx hb hts inlX10 hown hK hG (by rfl) 8 (by decide) (List.mem_of_getElem? (i := 6) rfl) e41 dL_sessions_41 ?_
              refine lv_iload hx hb dL_sessions_44 (lv_at hl 7 rfl) ?_
              obtain ⟨v46, e46, h⟩ := h
              refine g_iald hx hb hK hG e46 dL_sessions_46 ?_
              refine lv_iload_n hx hb dL_sessions_47 rfl (lv_at hl 2 rfl) ?_
              refine lv_icmp_eq (tgt := 54) hx hb dL_sessions_48 (by decide) (fun c48 => ?_) (fun c48 => ?_)
              · rw [if_pos c48] at h
                refine lv_aload hx hb dL_sessions_54 (lv_at hl 6 rfl) ?_
                refine lv_aload_n hx hb dL_sessions_56 rfl (lv_at hl 1 rfl) ?_
                refine lv_iload hx hb dL_sessions_57 (lv_at hl 7 rfl) ?_
                obtain ⟨C59, R59, d59, g59, h⟩ := h
                obtain ⟨u59, o59, h⟩ := h
                obtain ⟨y59, h⟩ := h
                obtain ⟨v59, e59, h⟩ := h
                rw [g59] at hG
                refine g_wVi (As := [.int bx7]) (rest := [.ref ba6]) (n := 1) hx hb hml hown hts hK hlo hG (g_frI d59 (fun lo => m_X10_use l dd cT lo C59 ba1 bx7 e59) lo) qM_L_118 qI_yX10_use qS_X10_yX10_use qN_X10 qC_yX10_use (by decide +kernel) ⟨Nat.le_of_ble_eq_true rfl, Nat.le_of_ble_eq_true rfl⟩ (by rfl) (g_ob_gj o59) rfl hl.1 rfl (Nat.le_of_ble_eq_true rfl) dL_sessions_59 y59 (fun v59x Gx H locs hKx hG => ?_)
                obtain ⟨D59, ⟨k59a, k59⟩, f59, l59⟩ := hKx
                rw [l59, k59] at hG
                rw [k59] at f59
                rw [k59a]
                rw [← g59] at hG
                refine lv_dup2_11 hx hb dL_sessions_62 rfl rfl ?_
                obtain ⟨v63, e63, h⟩ := h
                refine g_iald hx hb hK hG e63 dL_sessions_63 ?_
                refine lv_iconst (v := (1 : Int32)) hx hb dL_sessions_64 (by decide) ?_
                refine lv_iadd hx hb dL_sessions_65 ?_
                obtain ⟨G66, e66, h⟩ := h
                refine g_iast hx hb hK hG e66 dL_sessions_66 (fun H locs hG => ?_)
                refine lv_iload hx hb dL_sessions_67 (lv_at hl 4 rfl) ?_
                refine lv_iload hx hb dL_sessions_69 (lv_at hl 7 rfl) ?_
                refine lv_aload_n hx hb dL_sessions_71 rfl (lv_at hl 1 rfl) ?_
                obtain ⟨C72, R72, d72, g72, h⟩ := h
                obtain ⟨u72, o72, h⟩ := h
                obtain ⟨y72, h⟩ := h
                obtain ⟨v72, e72, h⟩ := h
                rw [g72] at hG
                refine g_wVi (As := []) (rest := [.int bx7, .int bx4]) (n := 0) hx hb hml hown hts hK hlo hG (g_frI d72 (fun lo => m_X10_main l dd cT lo C72 ba1 e72) lo) qM_L_121 qI_yX10_main qS_X10_yX10_main qN_X10 qC_yX10_main (by decide +kernel) ⟨Nat.le_of_ble_eq_true rfl, Nat.le_of_ble_eq_true rfl⟩ (by rfl) (g_ob_gj o72) rfl hl.1 rfl (Nat.le_of_ble_eq_true rfl) dL_sessions_72 y72 (fun v72x Gx H locs hKx hG => ?_)
                obtain ⟨D72, ⟨k72a, k72⟩, f72, l72⟩ := hKx
                rw [l72, k72] at hG
                rw [k72] at f72
                rw [k72a]
                rw [← g72] at hG
                refine lv_icmp_ge (tgt := 82) hx hb dL_sessions_75 (by decide) (fun c75 => ?_) (fun c75 => ?_)
                · rw [if_pos c75] at h
                  refine lv_iconst (v := (0 : Int32)) hx hb dL_sessions_82 (by decide) ?_
                  exact h83 G66 kc ks ba0 ba1 bx2 none bx5 ba6 bx7 bx4 (0 : Int32) _ _ hG _ (lv_sub hl [0, 1, 2, 3, 5, 6, 7] rfl) h
                · rw [if_neg c75] at h
                  refine lv_iconst (v := (1 : Int32)) hx hb dL_sessions_78 (by decide) ?_
                  refine lv_goto (tgt := 83) hx hb dL_sessions_79 (by decide) ?_
                  exact h83 G66 kc ks ba0 ba1 bx2 none bx5 ba6 bx7 bx4 (1 : Int32) _ _ hG _ (lv_sub hl [0, 1, 2, 3, 5, 6, 7] rfl) h
              · rw [if_neg c48] at h
                refine lv_goto (tgt := 105) hx hb dL_sessions_51 (by decide) ?_
                refine lv_iinc (v := (bx7 + (1 : Int32))) (lv' := [(7, .int (bx7 + (1 : Int32))), (0, .ref ba0), (1, .ref ba1), (2, .int bx2), (3, .null), (4, .int bx4), (5, .int bx5), (6, .ref ba6)]) hx hb dL_sessions_105 hl (k := 7) rfl rfl (by decide) rfl (fun ls hl => ?_)
                refine lv_goto (tgt := 31) hx hb dL_sessions_108 (by decide) ?_
                exact ih31 G kc ks ba0 ba1 bx2 none bx4 bx5 ba6 (bx7 + (1 : Int32)) _ _ hG _ (lv_sub hl [1, 2, 3, 4, 5, 6, 7, 0] rfl) h
          · replace h := h.2 ba3r rfl
            refine lv_iload hx hb dL_sessions_31 (lv_at hl 7 rfl) ?_
            refine lv_aload_n hx hb dL_sessions_33 rfl (lv_at hl 1 rfl) ?_
            obtain ⟨v34, e34, h⟩ := h
            refine g_getiN hx hb hts inlX10 hown hK hG (by rfl) 0 (by decide) (List.mem_of_getElem? (i := 0) rfl) e34 dL_sessions_34 ?_
            refine lv_icmp_ge (tgt := 111) hx hb dL_sessions_37 (by decide) (fun c37 => ?_) (fun c37 => ?_)
            · rw [if_pos c37] at h
              refine lv_bipush (v := (9 : Int32)) hx hb dL_sessions_111 (by decide) ?_
              obtain ⟨y113, h⟩ := h
              refine g_newai (N := 9) hx hb hts hK hlo hG (by decide) (by decide) (Nat.le_of_ble_eq_true rfl) y113 dL_sessions_113 (fun q113 H z113 hG => ?_)
              obtain ⟨G113, i113⟩ : ∃ g : gH, g = va_up G q113 (some (.inl (0, 9, fun _ => 0))) := ⟨_, rfl⟩
              rw [← i113] at hG
              replace h := h q113 z113 G113 i113
              refine lv_dup hx hb dL_sessions_115 rfl ?_
              refine lv_iconst (v := (0 : Int32)) hx hb dL_sessions_116 (by decide) ?_
              refine lv_aload_n hx hb dL_sessions_117 rfl (lv_at hl 3 rfl) ?_
              obtain ⟨v118, e118, h⟩ := h
              refine g_getiN hx hb hts inlX12 hown hK hG (by rfl) 0 (by decide) (List.mem_of_getElem? (i := 13) rfl) e118 dL_sessions_118 ?_
              obtain ⟨G121, e121, h⟩ := h
              refine g_iast hx hb hK hG e121 dL_sessions_121 (fun H locs hG => ?_)
              refine lv_dup hx hb dL_sessions_122 rfl ?_
              refine lv_iconst (v := (1 : Int32)) hx hb dL_sessions_123 (by decide) ?_
              refine lv_aload_n hx hb dL_sessions_124 rfl (lv_at hl 3 rfl) ?_
              obtain ⟨v125, e125, h⟩ := h
              refine g_getiN hx hb hts inlX12 hown hK hG (by rfl) 1 (by decide) (List.mem_of_getElem? (i := 18) rfl) e125 dL_sessions_125 ?_
              obtain ⟨G128, e128, h⟩ := h
              refine g_iast hx hb hK hG e128 dL_sessions_128 (fun H locs hG => ?_)
              refine lv_dup hx hb dL_sessions_129 rfl ?_
              refine lv_iconst (v := (2 : Int32)) hx hb dL_sessions_130 (by decide) ?_
              refine lv_iload hx hb dL_sessions_131 (lv_at hl 4 rfl) ?_
              obtain ⟨G133, e133, h⟩ := h
              refine g_iast hx hb hK hG e133 dL_sessions_133 (fun H locs hG => ?_)
              refine lv_dup hx hb dL_sessions_134 rfl ?_
              refine lv_iconst (v := (3 : Int32)) hx hb dL_sessions_135 (by decide) ?_
              refine lv_aload_n hx hb dL_sessions_136 rfl (lv_at hl 3 rfl) ?_
              obtain ⟨v137, e137, h⟩ := h
              refine g_getiN hx hb hts inlX12 hown hK hG (by rfl) 2 (by decide) (List.mem_of_getElem? (i := 19) rfl) e137 dL_sessions_137 ?_
              obtain ⟨G140, e140, h⟩ := h
              refine g_iast hx hb hK hG e140 dL_sessions_140 (fun H locs hG => ?_)
              refine lv_dup hx hb dL_sessions_141 rfl ?_
              refine lv_iconst (v := (4 : Int32)) hx hb dL_sessions_142 (by decide) ?_
              refine lv_aload_n hx hb dL_sessions_143 rfl (lv_at hl 3 rfl) ?_
              obtain ⟨v144, e144, h⟩ := h
              refine g_getiN hx hb hts inlX12 hown hK hG (by rfl) 3 (by decide) (List.mem_of_getElem? (i := 20) rfl) e144 dL_sessions_144 ?_
              obtain ⟨G147, e147, h⟩ := h
              refine g_iast hx hb hK hG e147 dL_sessions_147 (fun H locs hG => ?_)
              refine lv_dup hx hb dL_sessions_148 rfl ?_
              refine lv_iconst (v := (5 : Int32)) hx hb dL_sessions_149 (by decide) ?_
              refine lv_aload_n hx hb dL_sessions_150 rfl (lv_at hl 1 rfl) ?_
              refine lv_aload_n hx hb dL_sessions_151 rfl (lv_at hl 3 rfl) ?_
              obtain ⟨C152, R152, d152, g152, h⟩ := h
              obtain ⟨u152, o152, h⟩ := h
              obtain ⟨y152, h⟩ := h
              obtain ⟨v152, e152, h⟩ := h
              rw [g152] at hG
              refine g_wVi (As := [.ref ba3r]) (rest := [.int (5 : Int32), .ref q113, .ref q113]) (n := 1) hx hb hml hown hts hK hlo hG (g_frI d152 (fun lo => m_X10_reads l dd cT lo C152 ba1 ba3r e152) lo) qM_L_216 qI_yX10_reads qS_X10_yX10_reads qN_X10 qC_yX10_reads (by decide +kernel) ⟨Nat.le_of_ble_eq_true rfl, Nat.le_of_ble_eq_true rfl⟩ (by rfl) (g_ob_gj o152) rfl hl.1 rfl (Nat.le_of_ble_eq_true rfl) dL_sessions_152 y152 (fun v152x Gx H locs hKx hG => ?_)
              obtain ⟨D152, ⟨k152a, k152⟩, f152, l152⟩ := hKx
              rw [l152, k152] at hG
              rw [k152] at f152
              rw [k152a]
              rw [← g152] at hG
              refine lv_if_eq (tgt := 162) hx hb dL_sessions_155 (by decide) (fun c155 => ?_) (fun c155 => ?_)
              · rw [if_pos c155] at h
                refine lv_iconst (v := (0 : Int32)) hx hb dL_sessions_162 (by decide) ?_
                exact h163 G147 (kc + 1) (ks + 9) ba0 ba1 bx2 (some ba3r) bx5 ba6 q113 q113 (5 : Int32) (0 : Int32) _ _ hG _ (lv_sub hl [0, 1, 2, 3, 5, 6] rfl) h
              · rw [if_neg c155] at h
                refine lv_iconst (v := (1 : Int32)) hx hb dL_sessions_158 (by decide) ?_
                refine lv_goto (tgt := 163) hx hb dL_sessions_159 (by decide) ?_
                exact h163 G147 (kc + 1) (ks + 9) ba0 ba1 bx2 (some ba3r) bx5 ba6 q113 q113 (5 : Int32) (1 : Int32) _ _ hG _ (lv_sub hl [0, 1, 2, 3, 5, 6] rfl) h
            · rw [if_neg c37] at h
              refine lv_aload_n hx hb dL_sessions_40 rfl (lv_at hl 1 rfl) ?_
              obtain ⟨v41, e41, h⟩ := h
              refine g_getrN hx hb hts inlX10 hown hK hG (by rfl) 8 (by decide) (List.mem_of_getElem? (i := 6) rfl) e41 dL_sessions_41 ?_
              refine lv_iload hx hb dL_sessions_44 (lv_at hl 7 rfl) ?_
              obtain ⟨v46, e46, h⟩ := h
              refine g_iald hx hb hK hG e46 dL_sessions_46 ?_
              refine lv_iload_n hx hb dL_sessions_47 rfl (lv_at hl 2 rfl) ?_
              refine lv_icmp_eq (tgt := 54) hx hb dL_sessions_48 (by decide) (fun c48 => ?_) (fun c48 => ?_)
              · rw [if_pos c48] at h
                refine lv_aload hx hb dL_sessions_54 (lv_at hl 6 rfl) ?_
                refine lv_aload_n hx hb dL_sessions_56 rfl (lv_at hl 1 rfl) ?_
                refine lv_iload hx hb dL_sessions_57 (lv_at hl 7 rfl) ?_
                obtain ⟨C59, R59, d59, g59, h⟩ := h
                obtain ⟨u59, o59, h⟩ := h
                obtain ⟨y59, h⟩ := h
                obtain ⟨v59, e59, h⟩ := h
                rw [g59] at hG
                refine g_wVi (As := [.int bx7]) (rest := [.ref ba6]) (n := 1) hx hb hml hown hts hK hlo hG (g_frI d59 (fun lo => m_X10_use l dd cT lo C59 ba1 bx7 e59) lo) qM_L_118 qI_yX10_use qS_X10_yX10_use qN_X10 qC_yX10_use (by decide +kernel) ⟨Nat.le_of_ble_eq_true rfl, Nat.le_of_ble_eq_true rfl⟩ (by rfl) (g_ob_gj o59) rfl hl.1 rfl (Nat.le_of_ble_eq_true rfl) dL_sessions_59 y59 (fun v59x Gx H locs hKx hG => ?_)
                obtain ⟨D59, ⟨k59a, k59⟩, f59, l59⟩ := hKx
                rw [l59, k59] at hG
                rw [k59] at f59
                rw [k59a]
                rw [← g59] at hG
                refine lv_dup2_11 hx hb dL_sessions_62 rfl rfl ?_
                obtain ⟨v63, e63, h⟩ := h
                refine g_iald hx hb hK hG e63 dL_sessions_63 ?_
                refine lv_iconst (v := (1 : Int32)) hx hb dL_sessions_64 (by decide) ?_
                refine lv_iadd hx hb dL_sessions_65 ?_
                obtain ⟨G66, e66, h⟩ := h
                refine g_iast hx hb hK hG e66 dL_sessions_66 (fun H locs hG => ?_)
                refine lv_iload hx hb dL_sessions_67 (lv_at hl 4 rfl) ?_
                refine lv_iload hx hb dL_sessions_69 (lv_at hl 7 rfl) ?_
                refine lv_aload_n hx hb dL_sessions_71 rfl (lv_at hl 1 rfl) ?_
                obtain ⟨C72, R72, d72, g72, h⟩ := h
                obtain ⟨u72, o72, h⟩ := h
                obtain ⟨y72, h⟩ := h
                obtain ⟨v72, e72, h⟩ := h
                rw [g72] at hG
                refine g_wVi (As := []) (rest := [.int bx7, .int bx4]) (n := 0) hx hb hml hown hts hK hlo hG (g_frI d72 (fun lo => m_X10_main l dd cT lo C72 ba1 e72) lo) qM_L_121 qI_yX10_main qS_X10_yX10_main qN_X10 qC_yX10_main (by decide +kernel) ⟨Nat.le_of_ble_eq_true rfl, Nat.le_of_ble_eq_true rfl⟩ (by rfl) (g_ob_gj o72) rfl hl.1 rfl (Nat.le_of_ble_eq_true rfl) dL_sessions_72 y72 (fun v72x Gx H locs hKx hG => ?_)
                obtain ⟨D72, ⟨k72a, k72⟩, f72, l72⟩ := hKx
                rw [l72, k72] at hG
                rw [k72] at f72
                rw [k72a]
                rw [← g72] at hG
                refine lv_icmp_ge (tgt := 82) hx hb dL_sessions_75 (by decide) (fun c75 => ?_) (fun c75 => ?_)
                · rw [if_pos c75] at h
                  refine lv_iconst (v := (0 : Int32)) hx hb dL_sessions_82 (by decide) ?_
                  exact h83 G66 kc ks ba0 ba1 bx2 (some ba3r) bx5 ba6 bx7 bx4 (0 : Int32) _ _ hG _ (lv_sub hl [0, 1, 2, 3, 5, 6, 7] rfl) h
                · rw [if_neg c75] at h
                  refine lv_iconst (v := (1 : Int32)) hx hb dL_sessions_78 (by decide) ?_
                  refine lv_goto (tgt := 83) hx hb dL_sessions_79 (by decide) ?_
                  exact h83 G66 kc ks ba0 ba1 bx2 (some ba3r) bx5 ba6 bx7 bx4 (1 : Int32) _ _ hG _ (lv_sub hl [0, 1, 2, 3, 5, 6, 7] rfl) h
              · rw [if_neg c48] at h
                refine lv_goto (tgt := 105) hx hb dL_sessions_51 (by decide) ?_
                refine lv_iinc (v := (bx7 + (1 : Int32))) (lv' := [(7, .int (bx7 + (1 : Int32))), (0, .ref ba0), (1, .ref ba1), (2, .int bx2), (3, .ref ba3r), (4, .int bx4), (5, .int bx5), (6, .ref ba6)]) hx hb dL_sessions_105 hl (k := 7) rfl rfl (by decide) rfl (fun ls hl => ?_)
                refine lv_goto (tgt := 31) hx hb dL_sessions_108 (by decide) ?_
                exact ih31 G kc ks ba0 ba1 bx2 (some ba3r) bx4 bx5 ba6 (bx7 + (1 : Int32)) _ _ hG _ (lv_sub hl [1, 2, 3, 4, 5, 6, 7, 0] rfl) h
      intro G kc ks ba0 ba1 bx2 H locs hG ls hl h
      rw [w_L_sessions_L2] at h
      refine lv_iload_n hx hb dL_sessions_2 rfl (lv_at hl 2 rfl) ?_
      refine lv_aload_n hx hb dL_sessions_3 rfl (lv_at hl 1 rfl) ?_
      obtain ⟨v4, e4, h⟩ := h
      refine g_getiN hx hb hts inlX10 hown hK hG (by rfl) 4 (by decide) (List.mem_of_getElem? (i := 14) rfl) e4 dL_sessions_4 ?_
      refine lv_icmp_ge (tgt := 444) hx hb dL_sessions_7 (by decide) (fun c7 => ?_) (fun c7 => ?_)
      · rw [if_pos c7] at h
        refine lv_iconst (v := (1 : Int32)) hx hb dL_sessions_444 (by decide) ?_
        obtain ⟨y1, y2, h⟩ := h
        refine W.widen (k := MC) (n := MS) y1 y2 ?_
        exact g_zret hx hb hr hlocks hK hlo hG rfl h dL_sessions_445
      · rw [if_neg c7] at h
        refine lv_aload_n hx hb dL_sessions_10 rfl (lv_at hl 1 rfl) ?_
        obtain ⟨v11, e11, h⟩ := h
        refine g_getrN hx hb hts inlX10 hown hK hG (by rfl) 16 (by decide) (List.mem_of_getElem? (i := 12) rfl) e11 dL_sessions_11 ?_
        refine lv_iload_n hx hb dL_sessions_14 rfl (lv_at hl 2 rfl) ?_
        obtain ⟨v15, e15, h⟩ := h
        refine g_rald_row hx hb hK hG (t := 5) rfl e15 dL_sessions_15 ?_
        rcases v15 with _ | r15
        · replace h := h.1 rfl
          refine lv_astore_nN (lv' := [(3, .null), (0, .ref ba0), (1, .ref ba1), (2, .int bx2)]) hx hb dL_sessions_16 rfl hl (by decide) rfl (fun ls hl => ?_)
          refine lv_iconst (v := (0 : Int32)) hx hb dL_sessions_17 (by decide) ?_
          refine lv_istore (lv' := [(4, .int (0 : Int32)), (3, .null), (0, .ref ba0), (1, .ref ba1), (2, .int bx2)]) hx hb dL_sessions_18 hl (by decide) rfl (fun ls hl => ?_)
          refine lv_iconst (v := (0 : Int32)) hx hb dL_sessions_20 (by decide) ?_
          refine lv_istore (lv' := [(5, .int (0 : Int32)), (4, .int (0 : Int32)), (3, .null), (0, .ref ba0), (1, .ref ba1), (2, .int bx2)]) hx hb dL_sessions_21 hl (by decide) rfl (fun ls hl => ?_)
          refine lv_iconst (v := (5 : Int32)) hx hb dL_sessions_23 (by decide) ?_
          obtain ⟨y24, h⟩ := h
          refine g_newai (N := 5) hx hb hts hK hlo hG (by decide) (by decide) (Nat.le_of_ble_eq_true rfl) y24 dL_sessions_24 (fun q24 H z24 hG => ?_)
          obtain ⟨G24, i24⟩ : ∃ g : gH, g = va_up G q24 (some (.inl (0, 5, fun _ => 0))) := ⟨_, rfl⟩
          rw [← i24] at hG
          replace h := h q24 z24 G24 i24
          refine lv_astore (lv' := [(6, .ref q24), (5, .int (0 : Int32)), (4, .int (0 : Int32)), (3, .null), (0, .ref ba0), (1, .ref ba1), (2, .int bx2)]) hx hb dL_sessions_26 hl (by decide) rfl (fun ls hl => ?_)
          refine lv_iconst (v := (0 : Int32)) hx hb dL_sessions_28 (by decide) ?_
          refine lv_istore (lv' := [(7, .int (0 : Int32)), (6, .ref q24), (5, .int (0 : Int32)), (4, .int (0 : Int32)), (3, .null), (0, .ref ba0), (1, .ref ba1), (2, .int bx2)]) hx hb dL_sessions_29 hl (by decide) rfl (fun ls hl => ?_)
          exact h31 g_N G24 (kc + 1) (ks + 5) ba0 ba1 bx2 none (0 : Int32) (0 : Int32) q24 (0 : Int32) _ _ hG _ (lv_sub hl [5, 6, 7, 4, 3, 2, 1, 0] rfl) h
        · replace h := h.2 r15 rfl
          refine lv_astore_n (lv' := [(3, .ref r15), (0, .ref ba0), (1, .ref ba1), (2, .int bx2)]) hx hb dL_sessions_16 rfl hl (by decide) rfl (fun ls hl => ?_)
          refine lv_iconst (v := (0 : Int32)) hx hb dL_sessions_17 (by decide) ?_
          refine lv_istore (lv' := [(4, .int (0 : Int32)), (3, .ref r15), (0, .ref ba0), (1, .ref ba1), (2, .int bx2)]) hx hb dL_sessions_18 hl (by decide) rfl (fun ls hl => ?_)
          refine lv_iconst (v := (0 : Int32)) hx hb dL_sessions_20 (by decide) ?_
          refine lv_istore (lv' := [(5, .int (0 : Int32)), (4, .int (0 : Int32)), (3, .ref r15), (0, .ref ba0), (1, .ref ba1), (2, .int bx2)]) hx hb dL_sessions_21 hl (by decide) rfl (fun ls hl => ?_)
          refine lv_iconst (v := (5 : Int32)) hx hb dL_sessions_23 (by decide) ?_
          obtain ⟨y24, h⟩ := h
          refine g_newai (N := 5) hx hb hts hK hlo hG (by decide) (by decide) (Nat.le_of_ble_eq_true rfl) y24 dL_sessions_24 (fun q24 H z24 hG => ?_)
          obtain ⟨G24, i24⟩ : ∃ g : gH, g = va_up G q24 (some (.inl (0, 5, fun _ => 0))) := ⟨_, rfl⟩
          rw [← i24] at hG
          replace h := h q24 z24 G24 i24
          refine lv_astore (lv' := [(6, .ref q24), (5, .int (0 : Int32)), (4, .int (0 : Int32)), (3, .ref r15), (0, .ref ba0), (1, .ref ba1), (2, .int bx2)]) hx hb dL_sessions_26 hl (by decide) rfl (fun ls hl => ?_)
          refine lv_iconst (v := (0 : Int32)) hx hb dL_sessions_28 (by decide) ?_
          refine lv_istore (lv' := [(7, .int (0 : Int32)), (6, .ref q24), (5, .int (0 : Int32)), (4, .int (0 : Int32)), (3, .ref r15), (0, .ref ba0), (1, .ref ba1), (2, .int bx2)]) hx hb dL_sessions_29 hl (by decide) rfl (fun ls hl => ?_)
          exact h31 g_N G24 (kc + 1) (ks + 5) ba0 ba1 bx2 (some r15) (0 : Int32) (0 : Int32) q24 (0 : Int32) _ _ hG _ (lv_sub hl [5, 6, 7, 4, 3, 2, 1, 0] rfl) h
  unfold w_L_sessions at h
  refine lv_iconst (v := (0 : Int32)) hx hb dL_sessions_0 (by decide) ?_
  refine lv_istore_n (lv' := [(2, .int (0 : Int32)), (0, .ref a0), (1, .ref a1)]) hx hb dL_sessions_1 rfl hl (by decide) rfl (fun ls hl => ?_)
  exact h2 g_N G 0 0 a0 a1 (0 : Int32) _ _ hG _ (lv_sub hl [1, 2, 0] rfl) h

/-! The wrappers of the law. -/
set_option maxRecDepth 20000 in
set_option maxHeartbeats 4000000 in
theorem m_L_parse (l : Launch) (hfl : l.stackTraces = false) (dd : va_G) (cT : Nat → ClassId) (lo : Nat) (G : gH) (a0 : Nat) (x1 : Int32) (a2 : Nat) {K : Int32 → gH → Prop} {u9 : Unit} (hob : g_ob G a0 9 = some u9) (h : w_Li (fun KX K => w_X9_parse G a0 x1 KX K) a2 [(g_xIAE, 1)] K) : Met l yL_parse (Cond.codeWith yL_parse cL_parse 4 (some .int) [(0, 9, 12, 13)] :: wsL_law) (g_rm 10 220 1 6) (va_Pc [.ref a0, .int x1, .ref a2] (g_Pre lo dd cT G)) (va_Qi K (g_Pre lo dd cT) (g_A lo)) 1 6 (g_A lo) := by
  refine g_startH RL rfl (by decide) (Nat.le_of_ble_eq_true rfl) ?_
  intro p e s m below meth c hx hb hr hlocks hml htab hown hts hK hG hlo ls hl
  have hl : lv_has ls 4 [(0, .ref a0), (1, .int x1), (2, .ref a2)] := hl
  have hG : g_S lo dd cT s s.heap [] G := hG
  unfold w_Li at h
  refine lv_aload_n hx hb dL_parse_0 rfl (lv_at hl 2 rfl) ?_
  refine lv_iconst (v := (0 : Int32)) hx hb dL_parse_1 (by decide) ?_
  refine lv_aload_n hx hb dL_parse_2 rfl (lv_at hl 0 rfl) ?_
  refine lv_iload_n hx hb dL_parse_3 rfl (lv_at hl 1 rfl) ?_
  refine g_xVi (As := [.int x1]) (rest := [.int 0, .ref a2]) (n := 1) hx hb hml hown hts hK hlo hG (m_X9_parse l hfl dd cT lo G a0 x1 h) qM_L_7 qI_yX9_parse qS_X9_yX9_parse qN_X9 qC_yX9_parse (by decide +kernel) ⟨Nat.le_of_ble_eq_true rfl, Nat.le_of_ble_eq_true rfl⟩ (by rfl) hob rfl hl.1 rfl (Nat.le_of_ble_eq_true rfl) dL_parse_4 ⟨Nat.le_of_ble_eq_true rfl, Nat.le_of_ble_eq_true rfl⟩ (fun E ce q9 G1 H locs hKX hG h1 h2 h3 => ?_) (fun r G1 H locs h hG => ?_)
  · obtain ⟨pr, hp, hE, h⟩ := hKX
    have hp : pr = (g_xIAE, 1) := by simpa using hp
    subst hp
    subst hE
    refine g_catch (E := g_xIAE) (tgt := 12) hown hts htab hG h1 h2 h3 [] _ [] rfl (by simp) (fun z hz => absurd hz (by simp)) (by decide) (by decide) qL_L_13 rfl ?_
    refine lv_astore_n (lv' := [(3, .ref q9), (0, .ref a0), (1, .int x1), (2, .ref a2)]) hx hb dL_parse_12 rfl hl (by decide) rfl (fun ls hl => ?_)
    refine lv_iconst (v := (1 : Int32)) hx hb dL_parse_13 (by decide) ?_
    refine W.widen (k := 1) (n := 6) (Nat.le_of_ble_eq_true rfl) (Nat.le_of_ble_eq_true rfl) ?_
    exact g_iret hx hb hr hlocks hK hlo hG h dL_parse_14
  · obtain ⟨G2, hst, h⟩ := h
    refine lv_i2l hx hb dL_parse_7 rfl ?_
    refine g_jast hx hb hK hG hst dL_parse_8 (fun H locs hG => ?_)
    refine lv_goto (tgt := 15) hx hb dL_parse_9 (by decide) ?_
    refine lv_iconst (v := (0 : Int32)) hx hb dL_parse_15 (by decide) ?_
    refine W.widen (k := 1) (n := 6) (Nat.le_of_ble_eq_true rfl) (Nat.le_of_ble_eq_true rfl) ?_
    exact g_iret hx hb hr hlocks hK hlo hG h dL_parse_16
set_option maxRecDepth 20000 in
set_option maxHeartbeats 4000000 in
theorem m_L_size (l : Launch) (hfl : l.stackTraces = false) (dd : va_G) (cT : Nat → ClassId) (lo : Nat) (G : gH) (a0 : Nat) (x1 : Int32) (a2 : Nat) {K : Int32 → gH → Prop} {u9 : Unit} (hob : g_ob G a0 9 = some u9) (h : w_Li (fun KX K => w_X9_size G a0 x1 KX K) a2 [(g_xIAE, 1)] K) : Met l yL_size (Cond.codeWith yL_size cL_size 4 (some .int) [(0, 9, 12, 13)] :: wsL_law) (g_rm 8 125 1 6) (va_Pc [.ref a0, .int x1, .ref a2] (g_Pre lo dd cT G)) (va_Qi K (g_Pre lo dd cT) (g_A lo)) 1 6 (g_A lo) := by
  refine g_startH RL rfl (by decide) (Nat.le_of_ble_eq_true rfl) ?_
  intro p e s m below meth c hx hb hr hlocks hml htab hown hts hK hG hlo ls hl
  have hl : lv_has ls 4 [(0, .ref a0), (1, .int x1), (2, .ref a2)] := hl
  have hG : g_S lo dd cT s s.heap [] G := hG
  unfold w_Li at h
  refine lv_aload_n hx hb dL_size_0 rfl (lv_at hl 2 rfl) ?_
  refine lv_iconst (v := (0 : Int32)) hx hb dL_size_1 (by decide) ?_
  refine lv_aload_n hx hb dL_size_2 rfl (lv_at hl 0 rfl) ?_
  refine lv_iload_n hx hb dL_size_3 rfl (lv_at hl 1 rfl) ?_
  refine g_xVi (As := [.int x1]) (rest := [.int 0, .ref a2]) (n := 1) hx hb hml hown hts hK hlo hG (m_X9_size l hfl dd cT lo G a0 x1 h) qM_L_15 qI_yX9_size qS_X9_yX9_size qN_X9 qC_yX9_size (by decide +kernel) ⟨Nat.le_of_ble_eq_true rfl, Nat.le_of_ble_eq_true rfl⟩ (by rfl) hob rfl hl.1 rfl (Nat.le_of_ble_eq_true rfl) dL_size_4 ⟨Nat.le_of_ble_eq_true rfl, Nat.le_of_ble_eq_true rfl⟩ (fun E ce q9 G1 H locs hKX hG h1 h2 h3 => ?_) (fun r G1 H locs h hG => ?_)
  · obtain ⟨pr, hp, hE, h⟩ := hKX
    have hp : pr = (g_xIAE, 1) := by simpa using hp
    subst hp
    subst hE
    refine g_catch (E := g_xIAE) (tgt := 12) hown hts htab hG h1 h2 h3 [] _ [] rfl (by simp) (fun z hz => absurd hz (by simp)) (by decide) (by decide) qL_L_13 rfl ?_
    refine lv_astore_n (lv' := [(3, .ref q9), (0, .ref a0), (1, .int x1), (2, .ref a2)]) hx hb dL_size_12 rfl hl (by decide) rfl (fun ls hl => ?_)
    refine lv_iconst (v := (1 : Int32)) hx hb dL_size_13 (by decide) ?_
    refine W.widen (k := 1) (n := 6) (Nat.le_of_ble_eq_true rfl) (Nat.le_of_ble_eq_true rfl) ?_
    exact g_iret hx hb hr hlocks hK hlo hG h dL_size_14
  · obtain ⟨G2, hst, h⟩ := h
    refine lv_i2l hx hb dL_size_7 rfl ?_
    refine g_jast hx hb hK hG hst dL_size_8 (fun H locs hG => ?_)
    refine lv_goto (tgt := 15) hx hb dL_size_9 (by decide) ?_
    refine lv_iconst (v := (0 : Int32)) hx hb dL_size_15 (by decide) ?_
    refine W.widen (k := 1) (n := 6) (Nat.le_of_ble_eq_true rfl) (Nat.le_of_ble_eq_true rfl) ?_
    exact g_iret hx hb hr hlocks hK hlo hG h dL_size_16
set_option maxRecDepth 20000 in
set_option maxHeartbeats 4000000 in
theorem m_L_block (l : Launch) (hfl : l.stackTraces = false) (dd : va_G) (cT : Nat → ClassId) (lo : Nat) (G : gH) (a0 : Nat) (x1 : Int32) (x2 : Int32) (a3 : Nat) {K : Int32 → gH → Prop} {u9 : Unit} (hob : g_ob G a0 9 = some u9) (h : w_Li (fun KX K => w_X9_block G a0 x1 x2 KX K) a3 [(g_xIOB, 1), (g_xIAE, 2)] K) : Met l yL_block (Cond.codeWith yL_block cL_block 5 (some .int) [(0, 10, 13, 22), (0, 10, 17, 13)] :: wsL_law) (g_rm 8 126 2 12) (va_Pc [.ref a0, .int x1, .int x2, .ref a3] (g_Pre lo dd cT G)) (va_Qi K (g_Pre lo dd cT) (g_A lo)) 2 12 (g_A lo) := by
  refine g_startH RL rfl (by decide) (Nat.le_of_ble_eq_true rfl) ?_
  intro p e s m below meth c hx hb hr hlocks hml htab hown hts hK hG hlo ls hl
  have hl : lv_has ls 5 [(0, .ref a0), (1, .int x1), (2, .int x2), (3, .ref a3)] := hl
  have hG : g_S lo dd cT s s.heap [] G := hG
  unfold w_Li at h
  refine lv_aload_n hx hb dL_block_0 rfl (lv_at hl 3 rfl) ?_
  refine lv_iconst (v := (0 : Int32)) hx hb dL_block_1 (by decide) ?_
  refine lv_aload_n hx hb dL_block_2 rfl (lv_at hl 0 rfl) ?_
  refine lv_iload_n hx hb dL_block_3 rfl (lv_at hl 1 rfl) ?_
  refine lv_iload_n hx hb dL_block_4 rfl (lv_at hl 2 rfl) ?_
  refine g_xVi (As := [.int x1, .int x2]) (rest := [.int 0, .ref a3]) (n := 2) hx hb hml hown hts hK hlo hG (m_X9_block l hfl dd cT lo G a0 x1 x2 h) qM_L_18 qI_yX9_block qS_X9_yX9_block qN_X9 qC_yX9_block (by decide +kernel) ⟨Nat.le_of_ble_eq_true rfl, Nat.le_of_ble_eq_true rfl⟩ (by rfl) hob rfl hl.1 rfl (Nat.le_of_ble_eq_true rfl) dL_block_5 ⟨Nat.le_of_ble_eq_true rfl, Nat.le_of_ble_eq_true rfl⟩ (fun E ce q9 G1 H locs hKX hG h1 h2 h3 => ?_) (fun r G1 H locs h hG => ?_)
  · obtain ⟨pr, hp, hE, h⟩ := hKX
    have hp : pr = (g_xIOB, 1) ∨ pr = (g_xIAE, 2) := by simpa using hp
    rcases hp with rfl | rfl
    · subst hE
      refine g_catch (E := g_xIOB) (tgt := 13) hown hts htab hG h1 h2 h3 [] _ [_] rfl (by simp) (fun z hz => absurd hz (by simp)) (by decide) (by decide) qL_L_22 rfl ?_
      refine lv_astore (lv' := [(4, .ref q9), (0, .ref a0), (1, .int x1), (2, .int x2), (3, .ref a3)]) hx hb dL_block_13 hl (by decide) rfl (fun ls hl => ?_)
      refine lv_iconst (v := (1 : Int32)) hx hb dL_block_15 (by decide) ?_
      refine W.widen (k := 2) (n := 12) (Nat.le_of_ble_eq_true rfl) (Nat.le_of_ble_eq_true rfl) ?_
      exact g_iret hx hb hr hlocks hK hlo hG h dL_block_16
    · subst hE
      refine g_catch (E := g_xIAE) (tgt := 17) hown hts htab hG h1 h2 h3 [_] _ [] rfl (by simp) (fun z hz => by have hz := List.mem_singleton.mp hz; subst hz; exact ⟨(by decide), g_xIOB, (by simp), (by decide), qL_L_22⟩) (by decide) (by decide) qL_L_13 rfl ?_
      refine lv_astore (lv' := [(4, .ref q9), (0, .ref a0), (1, .int x1), (2, .int x2), (3, .ref a3)]) hx hb dL_block_17 hl (by decide) rfl (fun ls hl => ?_)
      refine lv_iconst (v := (2 : Int32)) hx hb dL_block_19 (by decide) ?_
      refine W.widen (k := 2) (n := 12) (Nat.le_of_ble_eq_true rfl) (Nat.le_of_ble_eq_true rfl) ?_
      exact g_iret hx hb hr hlocks hK hlo hG h dL_block_20
  · obtain ⟨G2, hst, h⟩ := h
    refine lv_i2l hx hb dL_block_8 rfl ?_
    refine g_jast hx hb hK hG hst dL_block_9 (fun H locs hG => ?_)
    refine lv_goto (tgt := 21) hx hb dL_block_10 (by decide) ?_
    refine lv_iconst (v := (0 : Int32)) hx hb dL_block_21 (by decide) ?_
    refine W.widen (k := 2) (n := 12) (Nat.le_of_ble_eq_true rfl) (Nat.le_of_ble_eq_true rfl) ?_
    exact g_iret hx hb hr hlocks hK hlo hG h dL_block_22
set_option maxRecDepth 20000 in
set_option maxHeartbeats 4000000 in
theorem m_L_place (l : Launch) (hfl : l.stackTraces = false) (dd : va_G) (cT : Nat → ClassId) (lo : Nat) (G : gH) (a0 : Nat) (x1 : Int32) (a2 : Nat) {K : Int32 → gH → Prop} {u9 : Unit} (hob : g_ob G a0 9 = some u9) (h : w_Li (fun KX K => w_X9_place G a0 x1 KX K) a2 [(g_xIOB, 1)] K) : Met l yL_place (Cond.codeWith yL_place cL_place 4 (some .int) [(0, 9, 12, 22)] :: wsL_law) (g_rm 8 124 1 6) (va_Pc [.ref a0, .int x1, .ref a2] (g_Pre lo dd cT G)) (va_Qi K (g_Pre lo dd cT) (g_A lo)) 1 6 (g_A lo) := by
  refine g_startH RL rfl (by decide) (Nat.le_of_ble_eq_true rfl) ?_
  intro p e s m below meth c hx hb hr hlocks hml htab hown hts hK hG hlo ls hl
  have hl : lv_has ls 4 [(0, .ref a0), (1, .int x1), (2, .ref a2)] := hl
  have hG : g_S lo dd cT s s.heap [] G := hG
  unfold w_Li at h
  refine lv_aload_n hx hb dL_place_0 rfl (lv_at hl 2 rfl) ?_
  refine lv_iconst (v := (0 : Int32)) hx hb dL_place_1 (by decide) ?_
  refine lv_aload_n hx hb dL_place_2 rfl (lv_at hl 0 rfl) ?_
  refine lv_iload_n hx hb dL_place_3 rfl (lv_at hl 1 rfl) ?_
  refine g_xVi (As := [.int x1]) (rest := [.int 0, .ref a2]) (n := 1) hx hb hml hown hts hK hlo hG (m_X9_place l hfl dd cT lo G a0 x1 h) qM_L_24 qI_yX9_place qS_X9_yX9_place qN_X9 qC_yX9_place (by decide +kernel) ⟨Nat.le_of_ble_eq_true rfl, Nat.le_of_ble_eq_true rfl⟩ (by rfl) hob rfl hl.1 rfl (Nat.le_of_ble_eq_true rfl) dL_place_4 ⟨Nat.le_of_ble_eq_true rfl, Nat.le_of_ble_eq_true rfl⟩ (fun E ce q9 G1 H locs hKX hG h1 h2 h3 => ?_) (fun r G1 H locs h hG => ?_)
  · obtain ⟨pr, hp, hE, h⟩ := hKX
    have hp : pr = (g_xIOB, 1) := by simpa using hp
    subst hp
    subst hE
    refine g_catch (E := g_xIOB) (tgt := 12) hown hts htab hG h1 h2 h3 [] _ [] rfl (by simp) (fun z hz => absurd hz (by simp)) (by decide) (by decide) qL_L_22 rfl ?_
    refine lv_astore_n (lv' := [(3, .ref q9), (0, .ref a0), (1, .int x1), (2, .ref a2)]) hx hb dL_place_12 rfl hl (by decide) rfl (fun ls hl => ?_)
    refine lv_iconst (v := (1 : Int32)) hx hb dL_place_13 (by decide) ?_
    refine W.widen (k := 1) (n := 6) (Nat.le_of_ble_eq_true rfl) (Nat.le_of_ble_eq_true rfl) ?_
    exact g_iret hx hb hr hlocks hK hlo hG h dL_place_14
  · obtain ⟨G2, hst, h⟩ := h
    refine lv_i2l hx hb dL_place_7 rfl ?_
    refine g_jast hx hb hK hG hst dL_place_8 (fun H locs hG => ?_)
    refine lv_goto (tgt := 15) hx hb dL_place_9 (by decide) ?_
    refine lv_iconst (v := (0 : Int32)) hx hb dL_place_15 (by decide) ?_
    refine W.widen (k := 1) (n := 6) (Nat.le_of_ble_eq_true rfl) (Nat.le_of_ble_eq_true rfl) ?_
    exact g_iret hx hb hr hlocks hK hlo hG h dL_place_16
set_option maxRecDepth 20000 in
set_option maxHeartbeats 4000000 in
theorem m_L_session (l : Launch) (hfl : l.stackTraces = false) (dd : va_G) (cT : Nat → ClassId) (lo : Nat) (G : gH) (a0 : Nat) (x1 : Int32) (x2 : Int32) (a3 : Nat) {K : Int32 → gH → Prop} {u9 : Unit} (hob : g_ob G a0 9 = some u9) (h : w_Li (fun KX K => w_X9_session G a0 x1 x2 KX K) a3 [(g_xIOB, 1), (g_xIAE, 2)] K) : Met l yL_session (Cond.codeWith yL_session cL_session 5 (some .int) [(0, 10, 13, 22), (0, 10, 17, 13)] :: wsL_law) (g_rm 8 127 2 12) (va_Pc [.ref a0, .int x1, .int x2, .ref a3] (g_Pre lo dd cT G)) (va_Qi K (g_Pre lo dd cT) (g_A lo)) 2 12 (g_A lo) := by
  refine g_startH RL rfl (by decide) (Nat.le_of_ble_eq_true rfl) ?_
  intro p e s m below meth c hx hb hr hlocks hml htab hown hts hK hG hlo ls hl
  have hl : lv_has ls 5 [(0, .ref a0), (1, .int x1), (2, .int x2), (3, .ref a3)] := hl
  have hG : g_S lo dd cT s s.heap [] G := hG
  unfold w_Li at h
  refine lv_aload_n hx hb dL_session_0 rfl (lv_at hl 3 rfl) ?_
  refine lv_iconst (v := (0 : Int32)) hx hb dL_session_1 (by decide) ?_
  refine lv_aload_n hx hb dL_session_2 rfl (lv_at hl 0 rfl) ?_
  refine lv_iload_n hx hb dL_session_3 rfl (lv_at hl 1 rfl) ?_
  refine lv_iload_n hx hb dL_session_4 rfl (lv_at hl 2 rfl) ?_
  refine g_xVi (As := [.int x1, .int x2]) (rest := [.int 0, .ref a3]) (n := 2) hx hb hml hown hts hK hlo hG (m_X9_session l hfl dd cT lo G a0 x1 x2 h) qM_L_27 qI_yX9_session qS_X9_yX9_session qN_X9 qC_yX9_session (by decide +kernel) ⟨Nat.le_of_ble_eq_true rfl, Nat.le_of_ble_eq_true rfl⟩ (by rfl) hob rfl hl.1 rfl (Nat.le_of_ble_eq_true rfl) dL_session_5 ⟨Nat.le_of_ble_eq_true rfl, Nat.le_of_ble_eq_true rfl⟩ (fun E ce q9 G1 H locs hKX hG h1 h2 h3 => ?_) (fun r G1 H locs h hG => ?_)
  · obtain ⟨pr, hp, hE, h⟩ := hKX
    have hp : pr = (g_xIOB, 1) ∨ pr = (g_xIAE, 2) := by simpa using hp
    rcases hp with rfl | rfl
    · subst hE
      refine g_catch (E := g_xIOB) (tgt := 13) hown hts htab hG h1 h2 h3 [] _ [_] rfl (by simp) (fun z hz => absurd hz (by simp)) (by decide) (by decide) qL_L_22 rfl ?_
      refine lv_astore (lv' := [(4, .ref q9), (0, .ref a0), (1, .int x1), (2, .int x2), (3, .ref a3)]) hx hb dL_session_13 hl (by decide) rfl (fun ls hl => ?_)
      refine lv_iconst (v := (1 : Int32)) hx hb dL_session_15 (by decide) ?_
      refine W.widen (k := 2) (n := 12) (Nat.le_of_ble_eq_true rfl) (Nat.le_of_ble_eq_true rfl) ?_
      exact g_iret hx hb hr hlocks hK hlo hG h dL_session_16
    · subst hE
      refine g_catch (E := g_xIAE) (tgt := 17) hown hts htab hG h1 h2 h3 [_] _ [] rfl (by simp) (fun z hz => by have hz := List.mem_singleton.mp hz; subst hz; exact ⟨(by decide), g_xIOB, (by simp), (by decide), qL_L_22⟩) (by decide) (by decide) qL_L_13 rfl ?_
      refine lv_astore (lv' := [(4, .ref q9), (0, .ref a0), (1, .int x1), (2, .int x2), (3, .ref a3)]) hx hb dL_session_17 hl (by decide) rfl (fun ls hl => ?_)
      refine lv_iconst (v := (2 : Int32)) hx hb dL_session_19 (by decide) ?_
      refine W.widen (k := 2) (n := 12) (Nat.le_of_ble_eq_true rfl) (Nat.le_of_ble_eq_true rfl) ?_
      exact g_iret hx hb hr hlocks hK hlo hG h dL_session_20
  · obtain ⟨G2, hst, h⟩ := h
    refine lv_i2l hx hb dL_session_8 rfl ?_
    refine g_jast hx hb hK hG hst dL_session_9 (fun H locs hG => ?_)
    refine lv_goto (tgt := 21) hx hb dL_session_10 (by decide) ?_
    refine lv_iconst (v := (0 : Int32)) hx hb dL_session_21 (by decide) ?_
    refine W.widen (k := 2) (n := 12) (Nat.le_of_ble_eq_true rfl) (Nat.le_of_ble_eq_true rfl) ?_
    exact g_iret hx hb hr hlocks hK hlo hG h dL_session_22
set_option maxRecDepth 20000 in
set_option maxHeartbeats 4000000 in
theorem m_L_entry (l : Launch) (hfl : l.stackTraces = false) (dd : va_G) (cT : Nat → ClassId) (lo : Nat) (G : gH) (a0 : Nat) (x1 : Int32) (x2 : Int32) (x3 : Int32) (a4 : Nat) {K : Int32 → gH → Prop} {u9 : Unit} (hob : g_ob G a0 9 = some u9) (h : w_Li (fun KX K => w_X9_entry G a0 x1 x2 x3 KX K) a4 [(g_xIOB, 1), (g_xIAE, 2)] K) : Met l yL_entry (Cond.codeWith yL_entry cL_entry 6 (some .int) [(0, 12, 15, 22), (0, 12, 19, 13)] :: wsL_law) (g_rm 8 129 2 12) (va_Pc [.ref a0, .int x1, .int x2, .int x3, .ref a4] (g_Pre lo dd cT G)) (va_Qi K (g_Pre lo dd cT) (g_A lo)) 2 12 (g_A lo) := by
  refine g_startH RL rfl (by decide) (Nat.le_of_ble_eq_true rfl) ?_
  intro p e s m below meth c hx hb hr hlocks hml htab hown hts hK hG hlo ls hl
  have hl : lv_has ls 6 [(0, .ref a0), (1, .int x1), (2, .int x2), (3, .int x3), (4, .ref a4)] := hl
  have hG : g_S lo dd cT s s.heap [] G := hG
  unfold w_Li at h
  refine lv_aload hx hb dL_entry_0 (lv_at hl 4 rfl) ?_
  refine lv_iconst (v := (0 : Int32)) hx hb dL_entry_2 (by decide) ?_
  refine lv_aload_n hx hb dL_entry_3 rfl (lv_at hl 0 rfl) ?_
  refine lv_iload_n hx hb dL_entry_4 rfl (lv_at hl 1 rfl) ?_
  refine lv_iload_n hx hb dL_entry_5 rfl (lv_at hl 2 rfl) ?_
  refine lv_iload_n hx hb dL_entry_6 rfl (lv_at hl 3 rfl) ?_
  refine g_xVi (As := [.int x1, .int x2, .int x3]) (rest := [.int 0, .ref a4]) (n := 3) hx hb hml hown hts hK hlo hG (m_X9_entry l hfl dd cT lo G a0 x1 x2 x3 h) qM_L_30 qI_yX9_entry qS_X9_yX9_entry qN_X9 qC_yX9_entry (by decide +kernel) ⟨Nat.le_of_ble_eq_true rfl, Nat.le_of_ble_eq_true rfl⟩ (by rfl) hob rfl hl.1 rfl (Nat.le_of_ble_eq_true rfl) dL_entry_7 ⟨Nat.le_of_ble_eq_true rfl, Nat.le_of_ble_eq_true rfl⟩ (fun E ce q9 G1 H locs hKX hG h1 h2 h3 => ?_) (fun r G1 H locs h hG => ?_)
  · obtain ⟨pr, hp, hE, h⟩ := hKX
    have hp : pr = (g_xIOB, 1) ∨ pr = (g_xIAE, 2) := by simpa using hp
    rcases hp with rfl | rfl
    · subst hE
      refine g_catch (E := g_xIOB) (tgt := 15) hown hts htab hG h1 h2 h3 [] _ [_] rfl (by simp) (fun z hz => absurd hz (by simp)) (by decide) (by decide) qL_L_22 rfl ?_
      refine lv_astore (lv' := [(5, .ref q9), (0, .ref a0), (1, .int x1), (2, .int x2), (3, .int x3), (4, .ref a4)]) hx hb dL_entry_15 hl (by decide) rfl (fun ls hl => ?_)
      refine lv_iconst (v := (1 : Int32)) hx hb dL_entry_17 (by decide) ?_
      refine W.widen (k := 2) (n := 12) (Nat.le_of_ble_eq_true rfl) (Nat.le_of_ble_eq_true rfl) ?_
      exact g_iret hx hb hr hlocks hK hlo hG h dL_entry_18
    · subst hE
      refine g_catch (E := g_xIAE) (tgt := 19) hown hts htab hG h1 h2 h3 [_] _ [] rfl (by simp) (fun z hz => by have hz := List.mem_singleton.mp hz; subst hz; exact ⟨(by decide), g_xIOB, (by simp), (by decide), qL_L_22⟩) (by decide) (by decide) qL_L_13 rfl ?_
      refine lv_astore (lv' := [(5, .ref q9), (0, .ref a0), (1, .int x1), (2, .int x2), (3, .int x3), (4, .ref a4)]) hx hb dL_entry_19 hl (by decide) rfl (fun ls hl => ?_)
      refine lv_iconst (v := (2 : Int32)) hx hb dL_entry_21 (by decide) ?_
      refine W.widen (k := 2) (n := 12) (Nat.le_of_ble_eq_true rfl) (Nat.le_of_ble_eq_true rfl) ?_
      exact g_iret hx hb hr hlocks hK hlo hG h dL_entry_22
  · obtain ⟨G2, hst, h⟩ := h
    refine lv_i2l hx hb dL_entry_10 rfl ?_
    refine g_jast hx hb hK hG hst dL_entry_11 (fun H locs hG => ?_)
    refine lv_goto (tgt := 23) hx hb dL_entry_12 (by decide) ?_
    refine lv_iconst (v := (0 : Int32)) hx hb dL_entry_23 (by decide) ?_
    refine W.widen (k := 2) (n := 12) (Nat.le_of_ble_eq_true rfl) (Nat.le_of_ble_eq_true rfl) ?_
    exact g_iret hx hb hr hlocks hK hlo hG h dL_entry_24
set_option maxRecDepth 20000 in
set_option maxHeartbeats 4000000 in
theorem m_L_file (l : Launch) (hfl : l.stackTraces = false) (dd : va_G) (cT : Nat → ClassId) (lo : Nat) (G : gH) (a0 : Nat) (x1 : Int32) (x2 : Int32) (a3 : Nat) {K : Int32 → gH → Prop} {u9 : Unit} (hob : g_ob G a0 9 = some u9) (h : w_Li (fun KX K => w_X9_file G a0 x1 x2 KX K) a3 [(g_xIOB, 1), (g_xIAE, 2)] K) : Met l yL_file (Cond.codeWith yL_file cL_file 5 (some .int) [(0, 10, 13, 22), (0, 10, 17, 13)] :: wsL_law) (g_rm 8 128 2 12) (va_Pc [.ref a0, .int x1, .int x2, .ref a3] (g_Pre lo dd cT G)) (va_Qi K (g_Pre lo dd cT) (g_A lo)) 2 12 (g_A lo) := by
  refine g_startH RL rfl (by decide) (Nat.le_of_ble_eq_true rfl) ?_
  intro p e s m below meth c hx hb hr hlocks hml htab hown hts hK hG hlo ls hl
  have hl : lv_has ls 5 [(0, .ref a0), (1, .int x1), (2, .int x2), (3, .ref a3)] := hl
  have hG : g_S lo dd cT s s.heap [] G := hG
  unfold w_Li at h
  refine lv_aload_n hx hb dL_file_0 rfl (lv_at hl 3 rfl) ?_
  refine lv_iconst (v := (0 : Int32)) hx hb dL_file_1 (by decide) ?_
  refine lv_aload_n hx hb dL_file_2 rfl (lv_at hl 0 rfl) ?_
  refine lv_iload_n hx hb dL_file_3 rfl (lv_at hl 1 rfl) ?_
  refine lv_iload_n hx hb dL_file_4 rfl (lv_at hl 2 rfl) ?_
  refine g_xVi (As := [.int x1, .int x2]) (rest := [.int 0, .ref a3]) (n := 2) hx hb hml hown hts hK hlo hG (m_X9_file l hfl dd cT lo G a0 x1 x2 h) qM_L_34 qI_yX9_file qS_X9_yX9_file qN_X9 qC_yX9_file (by decide +kernel) ⟨Nat.le_of_ble_eq_true rfl, Nat.le_of_ble_eq_true rfl⟩ (by rfl) hob rfl hl.1 rfl (Nat.le_of_ble_eq_true rfl) dL_file_5 ⟨Nat.le_of_ble_eq_true rfl, Nat.le_of_ble_eq_true rfl⟩ (fun E ce q9 G1 H locs hKX hG h1 h2 h3 => ?_) (fun r G1 H locs h hG => ?_)
  · obtain ⟨pr, hp, hE, h⟩ := hKX
    have hp : pr = (g_xIOB, 1) ∨ pr = (g_xIAE, 2) := by simpa using hp
    rcases hp with rfl | rfl
    · subst hE
      refine g_catch (E := g_xIOB) (tgt := 13) hown hts htab hG h1 h2 h3 [] _ [_] rfl (by simp) (fun z hz => absurd hz (by simp)) (by decide) (by decide) qL_L_22 rfl ?_
      refine lv_astore (lv' := [(4, .ref q9), (0, .ref a0), (1, .int x1), (2, .int x2), (3, .ref a3)]) hx hb dL_file_13 hl (by decide) rfl (fun ls hl => ?_)
      refine lv_iconst (v := (1 : Int32)) hx hb dL_file_15 (by decide) ?_
      refine W.widen (k := 2) (n := 12) (Nat.le_of_ble_eq_true rfl) (Nat.le_of_ble_eq_true rfl) ?_
      exact g_iret hx hb hr hlocks hK hlo hG h dL_file_16
    · subst hE
      refine g_catch (E := g_xIAE) (tgt := 17) hown hts htab hG h1 h2 h3 [_] _ [] rfl (by simp) (fun z hz => by have hz := List.mem_singleton.mp hz; subst hz; exact ⟨(by decide), g_xIOB, (by simp), (by decide), qL_L_22⟩) (by decide) (by decide) qL_L_13 rfl ?_
      refine lv_astore (lv' := [(4, .ref q9), (0, .ref a0), (1, .int x1), (2, .int x2), (3, .ref a3)]) hx hb dL_file_17 hl (by decide) rfl (fun ls hl => ?_)
      refine lv_iconst (v := (2 : Int32)) hx hb dL_file_19 (by decide) ?_
      refine W.widen (k := 2) (n := 12) (Nat.le_of_ble_eq_true rfl) (Nat.le_of_ble_eq_true rfl) ?_
      exact g_iret hx hb hr hlocks hK hlo hG h dL_file_20
  · obtain ⟨G2, hst, h⟩ := h
    refine lv_i2l hx hb dL_file_8 rfl ?_
    refine g_jast hx hb hK hG hst dL_file_9 (fun H locs hG => ?_)
    refine lv_goto (tgt := 21) hx hb dL_file_10 (by decide) ?_
    refine lv_iconst (v := (0 : Int32)) hx hb dL_file_21 (by decide) ?_
    refine W.widen (k := 2) (n := 12) (Nat.le_of_ble_eq_true rfl) (Nat.le_of_ble_eq_true rfl) ?_
    exact g_iret hx hb hr hlocks hK hlo hG h dL_file_22
set_option maxRecDepth 20000 in
set_option maxHeartbeats 4000000 in
theorem m_L_where (l : Launch) (hfl : l.stackTraces = false) (dd : va_G) (cT : Nat → ClassId) (lo : Nat) (G : gH) (a0 : Nat) (x1 : Int32) (x2 : Int32) (a3 : Nat) {K : Int32 → gH → Prop} {u9 : Unit} (hob : g_ob G a0 9 = some u9) (h : w_Li (fun KX K => w_X9_where G a0 x1 x2 KX K) a3 [(g_xIOB, 1)] K) : Met l yL_where (Cond.codeWith yL_where cL_where 5 (some .int) [(0, 10, 13, 22)] :: wsL_law) (g_rm 8 126 1 6) (va_Pc [.ref a0, .int x1, .int x2, .ref a3] (g_Pre lo dd cT G)) (va_Qi K (g_Pre lo dd cT) (g_A lo)) 1 6 (g_A lo) := by
  refine g_startH RL rfl (by decide) (Nat.le_of_ble_eq_true rfl) ?_
  intro p e s m below meth c hx hb hr hlocks hml htab hown hts hK hG hlo ls hl
  have hl : lv_has ls 5 [(0, .ref a0), (1, .int x1), (2, .int x2), (3, .ref a3)] := hl
  have hG : g_S lo dd cT s s.heap [] G := hG
  unfold w_Li at h
  refine lv_aload_n hx hb dL_where_0 rfl (lv_at hl 3 rfl) ?_
  refine lv_iconst (v := (0 : Int32)) hx hb dL_where_1 (by decide) ?_
  refine lv_aload_n hx hb dL_where_2 rfl (lv_at hl 0 rfl) ?_
  refine lv_iload_n hx hb dL_where_3 rfl (lv_at hl 1 rfl) ?_
  refine lv_iload_n hx hb dL_where_4 rfl (lv_at hl 2 rfl) ?_
  refine g_xVi (As := [.int x1, .int x2]) (rest := [.int 0, .ref a3]) (n := 2) hx hb hml hown hts hK hlo hG (m_X9_where l hfl dd cT lo G a0 x1 x2 h) qM_L_37 qI_yX9_where qS_X9_yX9_where qN_X9 qC_yX9_where (by decide +kernel) ⟨Nat.le_of_ble_eq_true rfl, Nat.le_of_ble_eq_true rfl⟩ (by rfl) hob rfl hl.1 rfl (Nat.le_of_ble_eq_true rfl) dL_where_5 ⟨Nat.le_of_ble_eq_true rfl, Nat.le_of_ble_eq_true rfl⟩ (fun E ce q9 G1 H locs hKX hG h1 h2 h3 => ?_) (fun r G1 H locs h hG => ?_)
  · obtain ⟨pr, hp, hE, h⟩ := hKX
    have hp : pr = (g_xIOB, 1) := by simpa using hp
    subst hp
    subst hE
    refine g_catch (E := g_xIOB) (tgt := 13) hown hts htab hG h1 h2 h3 [] _ [] rfl (by simp) (fun z hz => absurd hz (by simp)) (by decide) (by decide) qL_L_22 rfl ?_
    refine lv_astore (lv' := [(4, .ref q9), (0, .ref a0), (1, .int x1), (2, .int x2), (3, .ref a3)]) hx hb dL_where_13 hl (by decide) rfl (fun ls hl => ?_)
    refine lv_iconst (v := (1 : Int32)) hx hb dL_where_15 (by decide) ?_
    refine W.widen (k := 1) (n := 6) (Nat.le_of_ble_eq_true rfl) (Nat.le_of_ble_eq_true rfl) ?_
    exact g_iret hx hb hr hlocks hK hlo hG h dL_where_16
  · obtain ⟨G2, hst, h⟩ := h
    refine lv_i2l hx hb dL_where_8 rfl ?_
    refine g_jast hx hb hK hG hst dL_where_9 (fun H locs hG => ?_)
    refine lv_goto (tgt := 17) hx hb dL_where_10 (by decide) ?_
    refine lv_iconst (v := (0 : Int32)) hx hb dL_where_17 (by decide) ?_
    refine W.widen (k := 1) (n := 6) (Nat.le_of_ble_eq_true rfl) (Nat.le_of_ble_eq_true rfl) ?_
    exact g_iret hx hb hr hlocks hK hlo hG h dL_where_18
set_option maxRecDepth 20000 in
set_option maxHeartbeats 4000000 in
theorem m_L_whyNotWrite (l : Launch) (hfl : l.stackTraces = false) (dd : va_G) (cT : Nat → ClassId) (lo : Nat) (G : gH) (a0 : Nat) (x1 : Int32) (x2 : Int32) (a3 : Nat) {K : Int32 → gH → Prop} {u9 : Unit} (hob : g_ob G a0 9 = some u9) (h : w_Li (fun KX K => w_X9_whyNotWrite G a0 x1 x2 KX K) a3 [(g_xIOB, 1), (g_xIAE, 2)] K) : Met l yL_whyNotWrite (Cond.codeWith yL_whyNotWrite cL_whyNotWrite 5 (some .int) [(0, 10, 13, 22), (0, 10, 17, 13)] :: wsL_law) (g_rm 8 128 2 12) (va_Pc [.ref a0, .int x1, .int x2, .ref a3] (g_Pre lo dd cT G)) (va_Qi K (g_Pre lo dd cT) (g_A lo)) 2 12 (g_A lo) := by
  refine g_startH RL rfl (by decide) (Nat.le_of_ble_eq_true rfl) ?_
  intro p e s m below meth c hx hb hr hlocks hml htab hown hts hK hG hlo ls hl
  have hl : lv_has ls 5 [(0, .ref a0), (1, .int x1), (2, .int x2), (3, .ref a3)] := hl
  have hG : g_S lo dd cT s s.heap [] G := hG
  unfold w_Li at h
  refine lv_aload_n hx hb dL_whyNotWrite_0 rfl (lv_at hl 3 rfl) ?_
  refine lv_iconst (v := (0 : Int32)) hx hb dL_whyNotWrite_1 (by decide) ?_
  refine lv_aload_n hx hb dL_whyNotWrite_2 rfl (lv_at hl 0 rfl) ?_
  refine lv_iload_n hx hb dL_whyNotWrite_3 rfl (lv_at hl 1 rfl) ?_
  refine lv_iload_n hx hb dL_whyNotWrite_4 rfl (lv_at hl 2 rfl) ?_
  refine g_xVi (As := [.int x1, .int x2]) (rest := [.int 0, .ref a3]) (n := 2) hx hb hml hown hts hK hlo hG (m_X9_whyNotWrite l hfl dd cT lo G a0 x1 x2 h) qM_L_40 qI_yX9_whyNotWrite qS_X9_yX9_whyNotWrite qN_X9 qC_yX9_whyNotWrite (by decide +kernel) ⟨Nat.le_of_ble_eq_true rfl, Nat.le_of_ble_eq_true rfl⟩ (by rfl) hob rfl hl.1 rfl (Nat.le_of_ble_eq_true rfl) dL_whyNotWrite_5 ⟨Nat.le_of_ble_eq_true rfl, Nat.le_of_ble_eq_true rfl⟩ (fun E ce q9 G1 H locs hKX hG h1 h2 h3 => ?_) (fun r G1 H locs h hG => ?_)
  · obtain ⟨pr, hp, hE, h⟩ := hKX
    have hp : pr = (g_xIOB, 1) ∨ pr = (g_xIAE, 2) := by simpa using hp
    rcases hp with rfl | rfl
    · subst hE
      refine g_catch (E := g_xIOB) (tgt := 13) hown hts htab hG h1 h2 h3 [] _ [_] rfl (by simp) (fun z hz => absurd hz (by simp)) (by decide) (by decide) qL_L_22 rfl ?_
      refine lv_astore (lv' := [(4, .ref q9), (0, .ref a0), (1, .int x1), (2, .int x2), (3, .ref a3)]) hx hb dL_whyNotWrite_13 hl (by decide) rfl (fun ls hl => ?_)
      refine lv_iconst (v := (1 : Int32)) hx hb dL_whyNotWrite_15 (by decide) ?_
      refine W.widen (k := 2) (n := 12) (Nat.le_of_ble_eq_true rfl) (Nat.le_of_ble_eq_true rfl) ?_
      exact g_iret hx hb hr hlocks hK hlo hG h dL_whyNotWrite_16
    · subst hE
      refine g_catch (E := g_xIAE) (tgt := 17) hown hts htab hG h1 h2 h3 [_] _ [] rfl (by simp) (fun z hz => by have hz := List.mem_singleton.mp hz; subst hz; exact ⟨(by decide), g_xIOB, (by simp), (by decide), qL_L_22⟩) (by decide) (by decide) qL_L_13 rfl ?_
      refine lv_astore (lv' := [(4, .ref q9), (0, .ref a0), (1, .int x1), (2, .int x2), (3, .ref a3)]) hx hb dL_whyNotWrite_17 hl (by decide) rfl (fun ls hl => ?_)
      refine lv_iconst (v := (2 : Int32)) hx hb dL_whyNotWrite_19 (by decide) ?_
      refine W.widen (k := 2) (n := 12) (Nat.le_of_ble_eq_true rfl) (Nat.le_of_ble_eq_true rfl) ?_
      exact g_iret hx hb hr hlocks hK hlo hG h dL_whyNotWrite_20
  · obtain ⟨G2, hst, h⟩ := h
    refine lv_i2l hx hb dL_whyNotWrite_8 rfl ?_
    refine g_jast hx hb hK hG hst dL_whyNotWrite_9 (fun H locs hG => ?_)
    refine lv_goto (tgt := 21) hx hb dL_whyNotWrite_10 (by decide) ?_
    refine lv_iconst (v := (0 : Int32)) hx hb dL_whyNotWrite_21 (by decide) ?_
    refine W.widen (k := 2) (n := 12) (Nat.le_of_ble_eq_true rfl) (Nat.le_of_ble_eq_true rfl) ?_
    exact g_iret hx hb hr hlocks hK hlo hG h dL_whyNotWrite_22
set_option maxRecDepth 20000 in
set_option maxHeartbeats 4000000 in
theorem m_L_whyNot (l : Launch) (hfl : l.stackTraces = false) (dd : va_G) (cT : Nat → ClassId) (lo : Nat) (G : gH) (a0 : Nat) (x1 : Int32) (a2 : Nat) {K : Int32 → gH → Prop} {u9 : Unit} (hob : g_ob G a0 9 = some u9) (h : w_Li (fun KX K => w_X9_whyNot G a0 x1 KX K) a2 [(g_xIAE, 1)] K) : Met l yL_whyNot (Cond.codeWith yL_whyNot cL_whyNot 4 (some .int) [(0, 9, 12, 13)] :: wsL_law) (g_rm 8 154 1 6) (va_Pc [.ref a0, .int x1, .ref a2] (g_Pre lo dd cT G)) (va_Qi K (g_Pre lo dd cT) (g_A lo)) 1 6 (g_A lo) := by
  refine g_startH RL rfl (by decide) (Nat.le_of_ble_eq_true rfl) ?_
  intro p e s m below meth c hx hb hr hlocks hml htab hown hts hK hG hlo ls hl
  have hl : lv_has ls 4 [(0, .ref a0), (1, .int x1), (2, .ref a2)] := hl
  have hG : g_S lo dd cT s s.heap [] G := hG
  unfold w_Li at h
  refine lv_aload_n hx hb dL_whyNot_0 rfl (lv_at hl 2 rfl) ?_
  refine lv_iconst (v := (0 : Int32)) hx hb dL_whyNot_1 (by decide) ?_
  refine lv_aload_n hx hb dL_whyNot_2 rfl (lv_at hl 0 rfl) ?_
  refine lv_iload_n hx hb dL_whyNot_3 rfl (lv_at hl 1 rfl) ?_
  refine g_xVi (As := [.int x1]) (rest := [.int 0, .ref a2]) (n := 1) hx hb hml hown hts hK hlo hG (m_X9_whyNot l hfl dd cT lo G a0 x1 h) qM_L_43 qI_yX9_whyNot qS_X9_yX9_whyNot qN_X9 qC_yX9_whyNot (by decide +kernel) ⟨Nat.le_of_ble_eq_true rfl, Nat.le_of_ble_eq_true rfl⟩ (by rfl) hob rfl hl.1 rfl (Nat.le_of_ble_eq_true rfl) dL_whyNot_4 ⟨Nat.le_of_ble_eq_true rfl, Nat.le_of_ble_eq_true rfl⟩ (fun E ce q9 G1 H locs hKX hG h1 h2 h3 => ?_) (fun r G1 H locs h hG => ?_)
  · obtain ⟨pr, hp, hE, h⟩ := hKX
    have hp : pr = (g_xIAE, 1) := by simpa using hp
    subst hp
    subst hE
    refine g_catch (E := g_xIAE) (tgt := 12) hown hts htab hG h1 h2 h3 [] _ [] rfl (by simp) (fun z hz => absurd hz (by simp)) (by decide) (by decide) qL_L_13 rfl ?_
    refine lv_astore_n (lv' := [(3, .ref q9), (0, .ref a0), (1, .int x1), (2, .ref a2)]) hx hb dL_whyNot_12 rfl hl (by decide) rfl (fun ls hl => ?_)
    refine lv_iconst (v := (1 : Int32)) hx hb dL_whyNot_13 (by decide) ?_
    refine W.widen (k := 1) (n := 6) (Nat.le_of_ble_eq_true rfl) (Nat.le_of_ble_eq_true rfl) ?_
    exact g_iret hx hb hr hlocks hK hlo hG h dL_whyNot_14
  · obtain ⟨G2, hst, h⟩ := h
    refine lv_i2l hx hb dL_whyNot_7 rfl ?_
    refine g_jast hx hb hK hG hst dL_whyNot_8 (fun H locs hG => ?_)
    refine lv_goto (tgt := 15) hx hb dL_whyNot_9 (by decide) ?_
    refine lv_iconst (v := (0 : Int32)) hx hb dL_whyNot_15 (by decide) ?_
    refine W.widen (k := 1) (n := 6) (Nat.le_of_ble_eq_true rfl) (Nat.le_of_ble_eq_true rfl) ?_
    exact g_iret hx hb hr hlocks hK hlo hG h dL_whyNot_16
set_option maxRecDepth 20000 in
set_option maxHeartbeats 4000000 in
theorem m_L_risk (l : Launch) (hfl : l.stackTraces = false) (dd : va_G) (cT : Nat → ClassId) (lo : Nat) (G : gH) (a0 : Nat) (x1 : Int32) (a2 : Nat) {K : Int32 → gH → Prop} {u9 : Unit} (hob : g_ob G a0 9 = some u9) (h : w_Li (fun KX K => w_X9_risk G a0 x1 KX K) a2 [(g_xIOB, 1)] K) : Met l yL_risk (Cond.codeWith yL_risk cL_risk 4 (some .int) [(0, 9, 12, 22)] :: wsL_law) (g_rm 8 141 1 6) (va_Pc [.ref a0, .int x1, .ref a2] (g_Pre lo dd cT G)) (va_Qi K (g_Pre lo dd cT) (g_A lo)) 1 6 (g_A lo) := by
  refine g_startH RL rfl (by decide) (Nat.le_of_ble_eq_true rfl) ?_
  intro p e s m below meth c hx hb hr hlocks hml htab hown hts hK hG hlo ls hl
  have hl : lv_has ls 4 [(0, .ref a0), (1, .int x1), (2, .ref a2)] := hl
  have hG : g_S lo dd cT s s.heap [] G := hG
  unfold w_Li at h
  refine lv_aload_n hx hb dL_risk_0 rfl (lv_at hl 2 rfl) ?_
  refine lv_iconst (v := (0 : Int32)) hx hb dL_risk_1 (by decide) ?_
  refine lv_aload_n hx hb dL_risk_2 rfl (lv_at hl 0 rfl) ?_
  refine lv_iload_n hx hb dL_risk_3 rfl (lv_at hl 1 rfl) ?_
  refine g_xVi (As := [.int x1]) (rest := [.int 0, .ref a2]) (n := 1) hx hb hml hown hts hK hlo hG (m_X9_risk l hfl dd cT lo G a0 x1 h) qM_L_46 qI_yX9_risk qS_X9_yX9_risk qN_X9 qC_yX9_risk (by decide +kernel) ⟨Nat.le_of_ble_eq_true rfl, Nat.le_of_ble_eq_true rfl⟩ (by rfl) hob rfl hl.1 rfl (Nat.le_of_ble_eq_true rfl) dL_risk_4 ⟨Nat.le_of_ble_eq_true rfl, Nat.le_of_ble_eq_true rfl⟩ (fun E ce q9 G1 H locs hKX hG h1 h2 h3 => ?_) (fun r G1 H locs h hG => ?_)
  · obtain ⟨pr, hp, hE, h⟩ := hKX
    have hp : pr = (g_xIOB, 1) := by simpa using hp
    subst hp
    subst hE
    refine g_catch (E := g_xIOB) (tgt := 12) hown hts htab hG h1 h2 h3 [] _ [] rfl (by simp) (fun z hz => absurd hz (by simp)) (by decide) (by decide) qL_L_22 rfl ?_
    refine lv_astore_n (lv' := [(3, .ref q9), (0, .ref a0), (1, .int x1), (2, .ref a2)]) hx hb dL_risk_12 rfl hl (by decide) rfl (fun ls hl => ?_)
    refine lv_iconst (v := (1 : Int32)) hx hb dL_risk_13 (by decide) ?_
    refine W.widen (k := 1) (n := 6) (Nat.le_of_ble_eq_true rfl) (Nat.le_of_ble_eq_true rfl) ?_
    exact g_iret hx hb hr hlocks hK hlo hG h dL_risk_14
  · obtain ⟨G2, hst, h⟩ := h
    refine lv_i2l hx hb dL_risk_7 rfl ?_
    refine g_jast hx hb hK hG hst dL_risk_8 (fun H locs hG => ?_)
    refine lv_goto (tgt := 15) hx hb dL_risk_9 (by decide) ?_
    refine lv_iconst (v := (0 : Int32)) hx hb dL_risk_15 (by decide) ?_
    refine W.widen (k := 1) (n := 6) (Nat.le_of_ble_eq_true rfl) (Nat.le_of_ble_eq_true rfl) ?_
    exact g_iret hx hb hr hlocks hK hlo hG h dL_risk_16
set_option maxRecDepth 20000 in
set_option maxHeartbeats 4000000 in
theorem m_L_filesBefore (l : Launch) (hfl : l.stackTraces = false) (dd : va_G) (cT : Nat → ClassId) (lo : Nat) (G : gH) (a0 : Nat) (x1 : Int32) (a2 : Nat) {K : Int32 → gH → Prop} {u9 : Unit} (hob : g_ob G a0 9 = some u9) (h : w_Li (fun KX K => w_X9_filesBefore G a0 x1 KX K) a2 [(g_xIOB, 1)] K) : Met l yL_filesBefore (Cond.codeWith yL_filesBefore cL_filesBefore 4 (some .int) [(0, 9, 12, 22)] :: wsL_law) (g_rm 8 124 1 6) (va_Pc [.ref a0, .int x1, .ref a2] (g_Pre lo dd cT G)) (va_Qi K (g_Pre lo dd cT) (g_A lo)) 1 6 (g_A lo) := by
  refine g_startH RL rfl (by decide) (Nat.le_of_ble_eq_true rfl) ?_
  intro p e s m below meth c hx hb hr hlocks hml htab hown hts hK hG hlo ls hl
  have hl : lv_has ls 4 [(0, .ref a0), (1, .int x1), (2, .ref a2)] := hl
  have hG : g_S lo dd cT s s.heap [] G := hG
  unfold w_Li at h
  refine lv_aload_n hx hb dL_filesBefore_0 rfl (lv_at hl 2 rfl) ?_
  refine lv_iconst (v := (0 : Int32)) hx hb dL_filesBefore_1 (by decide) ?_
  refine lv_aload_n hx hb dL_filesBefore_2 rfl (lv_at hl 0 rfl) ?_
  refine lv_iload_n hx hb dL_filesBefore_3 rfl (lv_at hl 1 rfl) ?_
  refine g_xVi (As := [.int x1]) (rest := [.int 0, .ref a2]) (n := 1) hx hb hml hown hts hK hlo hG (m_X9_filesBefore l hfl dd cT lo G a0 x1 h) qM_L_49 qI_yX9_filesBefore qS_X9_yX9_filesBefore qN_X9 qC_yX9_filesBefore (by decide +kernel) ⟨Nat.le_of_ble_eq_true rfl, Nat.le_of_ble_eq_true rfl⟩ (by rfl) hob rfl hl.1 rfl (Nat.le_of_ble_eq_true rfl) dL_filesBefore_4 ⟨Nat.le_of_ble_eq_true rfl, Nat.le_of_ble_eq_true rfl⟩ (fun E ce q9 G1 H locs hKX hG h1 h2 h3 => ?_) (fun r G1 H locs h hG => ?_)
  · obtain ⟨pr, hp, hE, h⟩ := hKX
    have hp : pr = (g_xIOB, 1) := by simpa using hp
    subst hp
    subst hE
    refine g_catch (E := g_xIOB) (tgt := 12) hown hts htab hG h1 h2 h3 [] _ [] rfl (by simp) (fun z hz => absurd hz (by simp)) (by decide) (by decide) qL_L_22 rfl ?_
    refine lv_astore_n (lv' := [(3, .ref q9), (0, .ref a0), (1, .int x1), (2, .ref a2)]) hx hb dL_filesBefore_12 rfl hl (by decide) rfl (fun ls hl => ?_)
    refine lv_iconst (v := (1 : Int32)) hx hb dL_filesBefore_13 (by decide) ?_
    refine W.widen (k := 1) (n := 6) (Nat.le_of_ble_eq_true rfl) (Nat.le_of_ble_eq_true rfl) ?_
    exact g_iret hx hb hr hlocks hK hlo hG h dL_filesBefore_14
  · obtain ⟨G2, hst, h⟩ := h
    refine lv_i2l hx hb dL_filesBefore_7 rfl ?_
    refine g_jast hx hb hK hG hst dL_filesBefore_8 (fun H locs hG => ?_)
    refine lv_goto (tgt := 15) hx hb dL_filesBefore_9 (by decide) ?_
    refine lv_iconst (v := (0 : Int32)) hx hb dL_filesBefore_15 (by decide) ?_
    refine W.widen (k := 1) (n := 6) (Nat.le_of_ble_eq_true rfl) (Nat.le_of_ble_eq_true rfl) ?_
    exact g_iret hx hb hr hlocks hK hlo hG h dL_filesBefore_16
set_option maxRecDepth 20000 in
set_option maxHeartbeats 4000000 in
theorem m_L_space (l : Launch) (hfl : l.stackTraces = false) (dd : va_G) (cT : Nat → ClassId) (lo : Nat) (G : gH) (a0 : Nat) (x1 : Int32) (a2 : Nat) {K : Int32 → gH → Prop} {u9 : Unit} (hob : g_ob G a0 9 = some u9) (h : w_Li (fun KX K => w_X9_space G a0 x1 KX K) a2 [(g_xIAE, 1)] K) : Met l yL_space (Cond.codeWith yL_space cL_space 4 (some .int) [(0, 9, 12, 13)] :: wsL_law) (g_rm 8 142 1 6) (va_Pc [.ref a0, .int x1, .ref a2] (g_Pre lo dd cT G)) (va_Qi K (g_Pre lo dd cT) (g_A lo)) 1 6 (g_A lo) := by
  refine g_startH RL rfl (by decide) (Nat.le_of_ble_eq_true rfl) ?_
  intro p e s m below meth c hx hb hr hlocks hml htab hown hts hK hG hlo ls hl
  have hl : lv_has ls 4 [(0, .ref a0), (1, .int x1), (2, .ref a2)] := hl
  have hG : g_S lo dd cT s s.heap [] G := hG
  unfold w_Li at h
  refine lv_aload_n hx hb dL_space_0 rfl (lv_at hl 2 rfl) ?_
  refine lv_iconst (v := (0 : Int32)) hx hb dL_space_1 (by decide) ?_
  refine lv_aload_n hx hb dL_space_2 rfl (lv_at hl 0 rfl) ?_
  refine lv_iload_n hx hb dL_space_3 rfl (lv_at hl 1 rfl) ?_
  refine g_xVi (As := [.int x1]) (rest := [.int 0, .ref a2]) (n := 1) hx hb hml hown hts hK hlo hG (m_X9_space l hfl dd cT lo G a0 x1 h) qM_L_52 qI_yX9_space qS_X9_yX9_space qN_X9 qC_yX9_space (by decide +kernel) ⟨Nat.le_of_ble_eq_true rfl, Nat.le_of_ble_eq_true rfl⟩ (by rfl) hob rfl hl.1 rfl (Nat.le_of_ble_eq_true rfl) dL_space_4 ⟨Nat.le_of_ble_eq_true rfl, Nat.le_of_ble_eq_true rfl⟩ (fun E ce q9 G1 H locs hKX hG h1 h2 h3 => ?_) (fun r G1 H locs h hG => ?_)
  · obtain ⟨pr, hp, hE, h⟩ := hKX
    have hp : pr = (g_xIAE, 1) := by simpa using hp
    subst hp
    subst hE
    refine g_catch (E := g_xIAE) (tgt := 12) hown hts htab hG h1 h2 h3 [] _ [] rfl (by simp) (fun z hz => absurd hz (by simp)) (by decide) (by decide) qL_L_13 rfl ?_
    refine lv_astore_n (lv' := [(3, .ref q9), (0, .ref a0), (1, .int x1), (2, .ref a2)]) hx hb dL_space_12 rfl hl (by decide) rfl (fun ls hl => ?_)
    refine lv_iconst (v := (1 : Int32)) hx hb dL_space_13 (by decide) ?_
    refine W.widen (k := 1) (n := 6) (Nat.le_of_ble_eq_true rfl) (Nat.le_of_ble_eq_true rfl) ?_
    exact g_iret hx hb hr hlocks hK hlo hG h dL_space_14
  · obtain ⟨G2, hst, h⟩ := h
    refine lv_i2l hx hb dL_space_7 rfl ?_
    refine g_jast hx hb hK hG hst dL_space_8 (fun H locs hG => ?_)
    refine lv_goto (tgt := 15) hx hb dL_space_9 (by decide) ?_
    refine lv_iconst (v := (0 : Int32)) hx hb dL_space_15 (by decide) ?_
    refine W.widen (k := 1) (n := 6) (Nat.le_of_ble_eq_true rfl) (Nat.le_of_ble_eq_true rfl) ?_
    exact g_iret hx hb hr hlocks hK hlo hG h dL_space_16
set_option maxRecDepth 20000 in
set_option maxHeartbeats 4000000 in
theorem m_L_spaceOf (l : Launch) (hfl : l.stackTraces = false) (dd : va_G) (cT : Nat → ClassId) (lo : Nat) (G : gH) (a0 : Nat) (x1 : Int32) (x2 : Int32) (a3 : Nat) {K : Int32 → gH → Prop} {u9 : Unit} (hob : g_ob G a0 9 = some u9) (h : w_Li (fun KX K => w_X9_spaceOf G a0 x1 x2 KX K) a3 [(g_xIOB, 1), (g_xIAE, 2)] K) : Met l yL_spaceOf (Cond.codeWith yL_spaceOf cL_spaceOf 5 (some .int) [(0, 10, 13, 22), (0, 10, 17, 13)] :: wsL_law) (g_rm 8 143 2 12) (va_Pc [.ref a0, .int x1, .int x2, .ref a3] (g_Pre lo dd cT G)) (va_Qi K (g_Pre lo dd cT) (g_A lo)) 2 12 (g_A lo) := by
  refine g_startH RL rfl (by decide) (Nat.le_of_ble_eq_true rfl) ?_
  intro p e s m below meth c hx hb hr hlocks hml htab hown hts hK hG hlo ls hl
  have hl : lv_has ls 5 [(0, .ref a0), (1, .int x1), (2, .int x2), (3, .ref a3)] := hl
  have hG : g_S lo dd cT s s.heap [] G := hG
  unfold w_Li at h
  refine lv_aload_n hx hb dL_spaceOf_0 rfl (lv_at hl 3 rfl) ?_
  refine lv_iconst (v := (0 : Int32)) hx hb dL_spaceOf_1 (by decide) ?_
  refine lv_aload_n hx hb dL_spaceOf_2 rfl (lv_at hl 0 rfl) ?_
  refine lv_iload_n hx hb dL_spaceOf_3 rfl (lv_at hl 1 rfl) ?_
  refine lv_iload_n hx hb dL_spaceOf_4 rfl (lv_at hl 2 rfl) ?_
  refine g_xVi (As := [.int x1, .int x2]) (rest := [.int 0, .ref a3]) (n := 2) hx hb hml hown hts hK hlo hG (m_X9_spaceOf l hfl dd cT lo G a0 x1 x2 h) qM_L_55 qI_yX9_spaceOf qS_X9_yX9_spaceOf qN_X9 qC_yX9_spaceOf (by decide +kernel) ⟨Nat.le_of_ble_eq_true rfl, Nat.le_of_ble_eq_true rfl⟩ (by rfl) hob rfl hl.1 rfl (Nat.le_of_ble_eq_true rfl) dL_spaceOf_5 ⟨Nat.le_of_ble_eq_true rfl, Nat.le_of_ble_eq_true rfl⟩ (fun E ce q9 G1 H locs hKX hG h1 h2 h3 => ?_) (fun r G1 H locs h hG => ?_)
  · obtain ⟨pr, hp, hE, h⟩ := hKX
    have hp : pr = (g_xIOB, 1) ∨ pr = (g_xIAE, 2) := by simpa using hp
    rcases hp with rfl | rfl
    · subst hE
      refine g_catch (E := g_xIOB) (tgt := 13) hown hts htab hG h1 h2 h3 [] _ [_] rfl (by simp) (fun z hz => absurd hz (by simp)) (by decide) (by decide) qL_L_22 rfl ?_
      refine lv_astore (lv' := [(4, .ref q9), (0, .ref a0), (1, .int x1), (2, .int x2), (3, .ref a3)]) hx hb dL_spaceOf_13 hl (by decide) rfl (fun ls hl => ?_)
      refine lv_iconst (v := (1 : Int32)) hx hb dL_spaceOf_15 (by decide) ?_
      refine W.widen (k := 2) (n := 12) (Nat.le_of_ble_eq_true rfl) (Nat.le_of_ble_eq_true rfl) ?_
      exact g_iret hx hb hr hlocks hK hlo hG h dL_spaceOf_16
    · subst hE
      refine g_catch (E := g_xIAE) (tgt := 17) hown hts htab hG h1 h2 h3 [_] _ [] rfl (by simp) (fun z hz => by have hz := List.mem_singleton.mp hz; subst hz; exact ⟨(by decide), g_xIOB, (by simp), (by decide), qL_L_22⟩) (by decide) (by decide) qL_L_13 rfl ?_
      refine lv_astore (lv' := [(4, .ref q9), (0, .ref a0), (1, .int x1), (2, .int x2), (3, .ref a3)]) hx hb dL_spaceOf_17 hl (by decide) rfl (fun ls hl => ?_)
      refine lv_iconst (v := (2 : Int32)) hx hb dL_spaceOf_19 (by decide) ?_
      refine W.widen (k := 2) (n := 12) (Nat.le_of_ble_eq_true rfl) (Nat.le_of_ble_eq_true rfl) ?_
      exact g_iret hx hb hr hlocks hK hlo hG h dL_spaceOf_20
  · obtain ⟨G2, hst, h⟩ := h
    refine lv_i2l hx hb dL_spaceOf_8 rfl ?_
    refine g_jast hx hb hK hG hst dL_spaceOf_9 (fun H locs hG => ?_)
    refine lv_goto (tgt := 21) hx hb dL_spaceOf_10 (by decide) ?_
    refine lv_iconst (v := (0 : Int32)) hx hb dL_spaceOf_21 (by decide) ?_
    refine W.widen (k := 2) (n := 12) (Nat.le_of_ble_eq_true rfl) (Nat.le_of_ble_eq_true rfl) ?_
    exact g_iret hx hb hr hlocks hK hlo hG h dL_spaceOf_22
set_option maxRecDepth 20000 in
set_option maxHeartbeats 4000000 in
theorem m_L_write (l : Launch) (hfl : l.stackTraces = false) (dd : va_G) (cT : Nat → ClassId) (lo : Nat) (G : gH) (a0 : Nat) (x1 : Int32) (x2 : Int32) (x3 : Int32) (a4 : Nat) {K : Int32 → gH → Prop} {u9 : Unit} (hob : g_ob G a0 9 = some u9) (h : w_Li (fun KX K => w_X9_write G a0 x1 x2 x3 KX K) a4 [(g_xIOB, 1), (g_xIAE, 2), (g_xISE, 3)] K) : Met l yL_write (Cond.codeWith yL_write cL_write 6 (some .int) [(0, 12, 15, 22), (0, 12, 19, 13), (0, 12, 23, 61)] :: wsL_law) (g_rm 8 147 34 1661) (va_Pc [.ref a0, .int x1, .int x2, .int x3, .ref a4] (g_Pre lo dd cT G)) (va_Qi K (g_Pre lo dd cT) (g_A lo)) 34 1661 (g_A lo) := by
  refine g_startH RL rfl (by decide) (Nat.le_of_ble_eq_true rfl) ?_
  intro p e s m below meth c hx hb hr hlocks hml htab hown hts hK hG hlo ls hl
  have hl : lv_has ls 6 [(0, .ref a0), (1, .int x1), (2, .int x2), (3, .int x3), (4, .ref a4)] := hl
  have hG : g_S lo dd cT s s.heap [] G := hG
  unfold w_Li at h
  refine lv_aload hx hb dL_write_0 (lv_at hl 4 rfl) ?_
  refine lv_iconst (v := (0 : Int32)) hx hb dL_write_2 (by decide) ?_
  refine lv_aload_n hx hb dL_write_3 rfl (lv_at hl 0 rfl) ?_
  refine lv_iload_n hx hb dL_write_4 rfl (lv_at hl 1 rfl) ?_
  refine lv_iload_n hx hb dL_write_5 rfl (lv_at hl 2 rfl) ?_
  refine lv_iload_n hx hb dL_write_6 rfl (lv_at hl 3 rfl) ?_
  refine g_xVi (As := [.int x1, .int x2, .int x3]) (rest := [.int 0, .ref a4]) (n := 3) hx hb hml hown hts hK hlo hG (m_X9_write l hfl dd cT lo G a0 x1 x2 x3 h) qM_L_58 qI_yX9_write qS_X9_yX9_write qN_X9 qC_yX9_write (by decide +kernel) ⟨Nat.le_of_ble_eq_true rfl, Nat.le_of_ble_eq_true rfl⟩ (by rfl) hob rfl hl.1 rfl (Nat.le_of_ble_eq_true rfl) dL_write_7 ⟨Nat.le_of_ble_eq_true rfl, Nat.le_of_ble_eq_true rfl⟩ (fun E ce q9 G1 H locs hKX hG h1 h2 h3 => ?_) (fun r G1 H locs h hG => ?_)
  · obtain ⟨pr, hp, hE, h⟩ := hKX
    have hp : pr = (g_xIOB, 1) ∨ pr = (g_xIAE, 2) ∨ pr = (g_xISE, 3) := by simpa using hp
    rcases hp with rfl | rfl | rfl
    · subst hE
      refine g_catch (E := g_xIOB) (tgt := 15) hown hts htab hG h1 h2 h3 [] _ [_, _] rfl (by simp) (fun z hz => absurd hz (by simp)) (by decide) (by decide) qL_L_22 rfl ?_
      refine lv_astore (lv' := [(5, .ref q9), (0, .ref a0), (1, .int x1), (2, .int x2), (3, .int x3), (4, .ref a4)]) hx hb dL_write_15 hl (by decide) rfl (fun ls hl => ?_)
      refine lv_iconst (v := (1 : Int32)) hx hb dL_write_17 (by decide) ?_
      refine W.widen (k := 34) (n := 1661) (Nat.le_of_ble_eq_true rfl) (Nat.le_of_ble_eq_true rfl) ?_
      exact g_iret hx hb hr hlocks hK hlo hG h dL_write_18
    · subst hE
      refine g_catch (E := g_xIAE) (tgt := 19) hown hts htab hG h1 h2 h3 [_] _ [_] rfl (by simp) (fun z hz => by have hz := List.mem_singleton.mp hz; subst hz; exact ⟨(by decide), g_xIOB, (by simp), (by decide), qL_L_22⟩) (by decide) (by decide) qL_L_13 rfl ?_
      refine lv_astore (lv' := [(5, .ref q9), (0, .ref a0), (1, .int x1), (2, .int x2), (3, .int x3), (4, .ref a4)]) hx hb dL_write_19 hl (by decide) rfl (fun ls hl => ?_)
      refine lv_iconst (v := (2 : Int32)) hx hb dL_write_21 (by decide) ?_
      refine W.widen (k := 34) (n := 1661) (Nat.le_of_ble_eq_true rfl) (Nat.le_of_ble_eq_true rfl) ?_
      exact g_iret hx hb hr hlocks hK hlo hG h dL_write_22
    · subst hE
      refine g_catch (E := g_xISE) (tgt := 23) hown hts htab hG h1 h2 h3 [_, _] _ [] rfl (by simp) (fun z hz => by rcases List.mem_cons.mp hz with hz | hz; (subst hz; exact ⟨(by decide), g_xIOB, (by simp), (by decide), qL_L_22⟩); (have hz := List.mem_singleton.mp hz; subst hz; exact ⟨(by decide), g_xIAE, (by simp), (by decide), qL_L_13⟩)) (by decide) (by decide) qL_L_61 rfl ?_
      refine lv_astore (lv' := [(5, .ref q9), (0, .ref a0), (1, .int x1), (2, .int x2), (3, .int x3), (4, .ref a4)]) hx hb dL_write_23 hl (by decide) rfl (fun ls hl => ?_)
      refine lv_iconst (v := (3 : Int32)) hx hb dL_write_25 (by decide) ?_
      refine W.widen (k := 34) (n := 1661) (Nat.le_of_ble_eq_true rfl) (Nat.le_of_ble_eq_true rfl) ?_
      exact g_iret hx hb hr hlocks hK hlo hG h dL_write_26
  · obtain ⟨G2, hst, h⟩ := h
    refine lv_i2l hx hb dL_write_10 rfl ?_
    refine g_jast hx hb hK hG hst dL_write_11 (fun H locs hG => ?_)
    refine lv_goto (tgt := 27) hx hb dL_write_12 (by decide) ?_
    refine lv_iconst (v := (0 : Int32)) hx hb dL_write_27 (by decide) ?_
    refine W.widen (k := 34) (n := 1661) (Nat.le_of_ble_eq_true rfl) (Nat.le_of_ble_eq_true rfl) ?_
    exact g_iret hx hb hr hlocks hK hlo hG h dL_write_28
set_option maxRecDepth 20000 in
set_option maxHeartbeats 4000000 in
theorem m_L_erase (l : Launch) (hfl : l.stackTraces = false) (dd : va_G) (cT : Nat → ClassId) (lo : Nat) (G : gH) (a0 : Nat) (x1 : Int32) (a2 : Nat) {K : Int32 → gH → Prop} {u9 : Unit} (hob : g_ob G a0 9 = some u9) (h : w_Li (fun KX K => w_X9_erase G a0 x1 KX K) a2 [(g_xIOB, 1), (g_xISE, 2)] K) : Met l yL_erase (Cond.codeWith yL_erase cL_erase 4 (some .int) [(0, 9, 12, 22), (0, 9, 15, 61)] :: wsL_law) (g_rm 8 145 32 1649) (va_Pc [.ref a0, .int x1, .ref a2] (g_Pre lo dd cT G)) (va_Qi K (g_Pre lo dd cT) (g_A lo)) 32 1649 (g_A lo) := by
  refine g_startH RL rfl (by decide) (Nat.le_of_ble_eq_true rfl) ?_
  intro p e s m below meth c hx hb hr hlocks hml htab hown hts hK hG hlo ls hl
  have hl : lv_has ls 4 [(0, .ref a0), (1, .int x1), (2, .ref a2)] := hl
  have hG : g_S lo dd cT s s.heap [] G := hG
  unfold w_Li at h
  refine lv_aload_n hx hb dL_erase_0 rfl (lv_at hl 2 rfl) ?_
  refine lv_iconst (v := (0 : Int32)) hx hb dL_erase_1 (by decide) ?_
  refine lv_aload_n hx hb dL_erase_2 rfl (lv_at hl 0 rfl) ?_
  refine lv_iload_n hx hb dL_erase_3 rfl (lv_at hl 1 rfl) ?_
  refine g_xVi (As := [.int x1]) (rest := [.int 0, .ref a2]) (n := 1) hx hb hml hown hts hK hlo hG (m_X9_erase l hfl dd cT lo G a0 x1 h) qM_L_63 qI_yX9_erase qS_X9_yX9_erase qN_X9 qC_yX9_erase (by decide +kernel) ⟨Nat.le_of_ble_eq_true rfl, Nat.le_of_ble_eq_true rfl⟩ (by rfl) hob rfl hl.1 rfl (Nat.le_of_ble_eq_true rfl) dL_erase_4 ⟨Nat.le_of_ble_eq_true rfl, Nat.le_of_ble_eq_true rfl⟩ (fun E ce q9 G1 H locs hKX hG h1 h2 h3 => ?_) (fun r G1 H locs h hG => ?_)
  · obtain ⟨pr, hp, hE, h⟩ := hKX
    have hp : pr = (g_xIOB, 1) ∨ pr = (g_xISE, 2) := by simpa using hp
    rcases hp with rfl | rfl
    · subst hE
      refine g_catch (E := g_xIOB) (tgt := 12) hown hts htab hG h1 h2 h3 [] _ [_] rfl (by simp) (fun z hz => absurd hz (by simp)) (by decide) (by decide) qL_L_22 rfl ?_
      refine lv_astore_n (lv' := [(3, .ref q9), (0, .ref a0), (1, .int x1), (2, .ref a2)]) hx hb dL_erase_12 rfl hl (by decide) rfl (fun ls hl => ?_)
      refine lv_iconst (v := (1 : Int32)) hx hb dL_erase_13 (by decide) ?_
      refine W.widen (k := 32) (n := 1649) (Nat.le_of_ble_eq_true rfl) (Nat.le_of_ble_eq_true rfl) ?_
      exact g_iret hx hb hr hlocks hK hlo hG h dL_erase_14
    · subst hE
      refine g_catch (E := g_xISE) (tgt := 15) hown hts htab hG h1 h2 h3 [_] _ [] rfl (by simp) (fun z hz => by have hz := List.mem_singleton.mp hz; subst hz; exact ⟨(by decide), g_xIOB, (by simp), (by decide), qL_L_22⟩) (by decide) (by decide) qL_L_61 rfl ?_
      refine lv_astore_n (lv' := [(3, .ref q9), (0, .ref a0), (1, .int x1), (2, .ref a2)]) hx hb dL_erase_15 rfl hl (by decide) rfl (fun ls hl => ?_)
      refine lv_iconst (v := (2 : Int32)) hx hb dL_erase_16 (by decide) ?_
      refine W.widen (k := 32) (n := 1649) (Nat.le_of_ble_eq_true rfl) (Nat.le_of_ble_eq_true rfl) ?_
      exact g_iret hx hb hr hlocks hK hlo hG h dL_erase_17
  · obtain ⟨G2, hst, h⟩ := h
    refine lv_i2l hx hb dL_erase_7 rfl ?_
    refine g_jast hx hb hK hG hst dL_erase_8 (fun H locs hG => ?_)
    refine lv_goto (tgt := 18) hx hb dL_erase_9 (by decide) ?_
    refine lv_iconst (v := (0 : Int32)) hx hb dL_erase_18 (by decide) ?_
    refine W.widen (k := 32) (n := 1649) (Nat.le_of_ble_eq_true rfl) (Nat.le_of_ble_eq_true rfl) ?_
    exact g_iret hx hb hr hlocks hK hlo hG h dL_erase_19
set_option maxRecDepth 20000 in
set_option maxHeartbeats 4000000 in
theorem m_L_close (l : Launch) (hfl : l.stackTraces = false) (dd : va_G) (cT : Nat → ClassId) (lo : Nat) (G : gH) (a0 : Nat)  (a1 : Nat) {K : Int32 → gH → Prop} {u9 : Unit} (hob : g_ob G a0 9 = some u9) (h : w_Li (fun KX K => w_X9_close G a0  KX K) a1 [(g_xISE, 1)] K) : Met l yL_close (Cond.codeWith yL_close cL_close 3 (some .int) [(0, 8, 11, 61)] :: wsL_law) (g_rm 8 144 31 1643) (va_Pc [.ref a0, .ref a1] (g_Pre lo dd cT G)) (va_Qi K (g_Pre lo dd cT) (g_A lo)) 31 1643 (g_A lo) := by
  refine g_startH RL rfl (by decide) (Nat.le_of_ble_eq_true rfl) ?_
  intro p e s m below meth c hx hb hr hlocks hml htab hown hts hK hG hlo ls hl
  have hl : lv_has ls 3 [(0, .ref a0), (1, .ref a1)] := hl
  have hG : g_S lo dd cT s s.heap [] G := hG
  unfold w_Li at h
  refine lv_aload_n hx hb dL_close_0 rfl (lv_at hl 1 rfl) ?_
  refine lv_iconst (v := (0 : Int32)) hx hb dL_close_1 (by decide) ?_
  refine lv_aload_n hx hb dL_close_2 rfl (lv_at hl 0 rfl) ?_
  refine g_xVi (As := []) (rest := [.int 0, .ref a1]) (n := 0) hx hb hml hown hts hK hlo hG (m_X9_close l hfl dd cT lo G a0  h) qM_L_66 qI_yX9_close qS_X9_yX9_close qN_X9 qC_yX9_close (by decide +kernel) ⟨Nat.le_of_ble_eq_true rfl, Nat.le_of_ble_eq_true rfl⟩ (by rfl) hob rfl hl.1 rfl (Nat.le_of_ble_eq_true rfl) dL_close_3 ⟨Nat.le_of_ble_eq_true rfl, Nat.le_of_ble_eq_true rfl⟩ (fun E ce q9 G1 H locs hKX hG h1 h2 h3 => ?_) (fun r G1 H locs h hG => ?_)
  · obtain ⟨pr, hp, hE, h⟩ := hKX
    have hp : pr = (g_xISE, 1) := by simpa using hp
    subst hp
    subst hE
    refine g_catch (E := g_xISE) (tgt := 11) hown hts htab hG h1 h2 h3 [] _ [] rfl (by simp) (fun z hz => absurd hz (by simp)) (by decide) (by decide) qL_L_61 rfl ?_
    refine lv_astore_n (lv' := [(2, .ref q9), (0, .ref a0), (1, .ref a1)]) hx hb dL_close_11 rfl hl (by decide) rfl (fun ls hl => ?_)
    refine lv_iconst (v := (1 : Int32)) hx hb dL_close_12 (by decide) ?_
    refine W.widen (k := 31) (n := 1643) (Nat.le_of_ble_eq_true rfl) (Nat.le_of_ble_eq_true rfl) ?_
    exact g_iret hx hb hr hlocks hK hlo hG h dL_close_13
  · obtain ⟨G2, hst, h⟩ := h
    refine lv_i2l hx hb dL_close_6 rfl ?_
    refine g_jast hx hb hK hG hst dL_close_7 (fun H locs hG => ?_)
    refine lv_goto (tgt := 14) hx hb dL_close_8 (by decide) ?_
    refine lv_iconst (v := (0 : Int32)) hx hb dL_close_14 (by decide) ?_
    refine W.widen (k := 31) (n := 1643) (Nat.le_of_ble_eq_true rfl) (Nat.le_of_ble_eq_true rfl) ?_
    exact g_iret hx hb hr hlocks hK hlo hG h dL_close_15
set_option maxRecDepth 20000 in
set_option maxHeartbeats 4000000 in
theorem m_L_crash (l : Launch) (hfl : l.stackTraces = false) (dd : va_G) (cT : Nat → ClassId) (lo : Nat) (G : gH) (a0 : Nat)  (a1 : Nat) {K : Int32 → gH → Prop} {u9 : Unit} (hob : g_ob G a0 9 = some u9) (h : w_Li (fun KX K => w_X9_crash G a0  KX K) a1 [(g_xISE, 1)] K) : Met l yL_crash (Cond.codeWith yL_crash cL_crash 3 (some .int) [(0, 8, 11, 61)] :: wsL_law) (g_rm 8 144 31 1643) (va_Pc [.ref a0, .ref a1] (g_Pre lo dd cT G)) (va_Qi K (g_Pre lo dd cT) (g_A lo)) 31 1643 (g_A lo) := by
  refine g_startH RL rfl (by decide) (Nat.le_of_ble_eq_true rfl) ?_
  intro p e s m below meth c hx hb hr hlocks hml htab hown hts hK hG hlo ls hl
  have hl : lv_has ls 3 [(0, .ref a0), (1, .ref a1)] := hl
  have hG : g_S lo dd cT s s.heap [] G := hG
  unfold w_Li at h
  refine lv_aload_n hx hb dL_crash_0 rfl (lv_at hl 1 rfl) ?_
  refine lv_iconst (v := (0 : Int32)) hx hb dL_crash_1 (by decide) ?_
  refine lv_aload_n hx hb dL_crash_2 rfl (lv_at hl 0 rfl) ?_
  refine g_xVi (As := []) (rest := [.int 0, .ref a1]) (n := 0) hx hb hml hown hts hK hlo hG (m_X9_crash l hfl dd cT lo G a0  h) qM_L_70 qI_yX9_crash qS_X9_yX9_crash qN_X9 qC_yX9_crash (by decide +kernel) ⟨Nat.le_of_ble_eq_true rfl, Nat.le_of_ble_eq_true rfl⟩ (by rfl) hob rfl hl.1 rfl (Nat.le_of_ble_eq_true rfl) dL_crash_3 ⟨Nat.le_of_ble_eq_true rfl, Nat.le_of_ble_eq_true rfl⟩ (fun E ce q9 G1 H locs hKX hG h1 h2 h3 => ?_) (fun r G1 H locs h hG => ?_)
  · obtain ⟨pr, hp, hE, h⟩ := hKX
    have hp : pr = (g_xISE, 1) := by simpa using hp
    subst hp
    subst hE
    refine g_catch (E := g_xISE) (tgt := 11) hown hts htab hG h1 h2 h3 [] _ [] rfl (by simp) (fun z hz => absurd hz (by simp)) (by decide) (by decide) qL_L_61 rfl ?_
    refine lv_astore_n (lv' := [(2, .ref q9), (0, .ref a0), (1, .ref a1)]) hx hb dL_crash_11 rfl hl (by decide) rfl (fun ls hl => ?_)
    refine lv_iconst (v := (1 : Int32)) hx hb dL_crash_12 (by decide) ?_
    refine W.widen (k := 31) (n := 1643) (Nat.le_of_ble_eq_true rfl) (Nat.le_of_ble_eq_true rfl) ?_
    exact g_iret hx hb hr hlocks hK hlo hG h dL_crash_13
  · obtain ⟨G2, hst, h⟩ := h
    refine lv_i2l hx hb dL_crash_6 rfl ?_
    refine g_jast hx hb hK hG hst dL_crash_7 (fun H locs hG => ?_)
    refine lv_goto (tgt := 14) hx hb dL_crash_8 (by decide) ?_
    refine lv_iconst (v := (0 : Int32)) hx hb dL_crash_14 (by decide) ?_
    refine W.widen (k := 31) (n := 1643) (Nat.le_of_ble_eq_true rfl) (Nat.le_of_ble_eq_true rfl) ?_
    exact g_iret hx hb hr hlocks hK hlo hG h dL_crash_15
set_option maxRecDepth 20000 in
set_option maxHeartbeats 4000000 in
theorem m_L_recover (l : Launch) (hfl : l.stackTraces = false) (dd : va_G) (cT : Nat → ClassId) (lo : Nat) (G : gH) (a0 : Nat)  (a1 : Nat) {K : Int32 → gH → Prop} {u9 : Unit} (hob : g_ob G a0 9 = some u9) (h : w_Li (fun KX K => w_X9_recover G a0  KX K) a1 [(g_xISE, 1)] K) : Met l yL_recover (Cond.codeWith yL_recover cL_recover 3 (some .int) [(0, 8, 11, 61)] :: wsL_law) (g_rm 8 158 31 1643) (va_Pc [.ref a0, .ref a1] (g_Pre lo dd cT G)) (va_Qi K (g_Pre lo dd cT) (g_A lo)) 31 1643 (g_A lo) := by
  refine g_startH RL rfl (by decide) (Nat.le_of_ble_eq_true rfl) ?_
  intro p e s m below meth c hx hb hr hlocks hml htab hown hts hK hG hlo ls hl
  have hl : lv_has ls 3 [(0, .ref a0), (1, .ref a1)] := hl
  have hG : g_S lo dd cT s s.heap [] G := hG
  unfold w_Li at h
  refine lv_aload_n hx hb dL_recover_0 rfl (lv_at hl 1 rfl) ?_
  refine lv_iconst (v := (0 : Int32)) hx hb dL_recover_1 (by decide) ?_
  refine lv_aload_n hx hb dL_recover_2 rfl (lv_at hl 0 rfl) ?_
  refine g_xVi (As := []) (rest := [.int 0, .ref a1]) (n := 0) hx hb hml hown hts hK hlo hG (m_X9_recover l hfl dd cT lo G a0  h) qM_L_73 qI_yX9_recover qS_X9_yX9_recover qN_X9 qC_yX9_recover (by decide +kernel) ⟨Nat.le_of_ble_eq_true rfl, Nat.le_of_ble_eq_true rfl⟩ (by rfl) hob rfl hl.1 rfl (Nat.le_of_ble_eq_true rfl) dL_recover_3 ⟨Nat.le_of_ble_eq_true rfl, Nat.le_of_ble_eq_true rfl⟩ (fun E ce q9 G1 H locs hKX hG h1 h2 h3 => ?_) (fun r G1 H locs h hG => ?_)
  · obtain ⟨pr, hp, hE, h⟩ := hKX
    have hp : pr = (g_xISE, 1) := by simpa using hp
    subst hp
    subst hE
    refine g_catch (E := g_xISE) (tgt := 11) hown hts htab hG h1 h2 h3 [] _ [] rfl (by simp) (fun z hz => absurd hz (by simp)) (by decide) (by decide) qL_L_61 rfl ?_
    refine lv_astore_n (lv' := [(2, .ref q9), (0, .ref a0), (1, .ref a1)]) hx hb dL_recover_11 rfl hl (by decide) rfl (fun ls hl => ?_)
    refine lv_iconst (v := (1 : Int32)) hx hb dL_recover_12 (by decide) ?_
    refine W.widen (k := 31) (n := 1643) (Nat.le_of_ble_eq_true rfl) (Nat.le_of_ble_eq_true rfl) ?_
    exact g_iret hx hb hr hlocks hK hlo hG h dL_recover_13
  · obtain ⟨G2, hst, h⟩ := h
    refine lv_i2l hx hb dL_recover_6 rfl ?_
    refine g_jast hx hb hK hG hst dL_recover_7 (fun H locs hG => ?_)
    refine lv_goto (tgt := 14) hx hb dL_recover_8 (by decide) ?_
    refine lv_iconst (v := (0 : Int32)) hx hb dL_recover_14 (by decide) ?_
    refine W.widen (k := 31) (n := 1643) (Nat.le_of_ble_eq_true rfl) (Nat.le_of_ble_eq_true rfl) ?_
    exact g_iret hx hb hr hlocks hK hlo hG h dL_recover_15
set_option maxRecDepth 20000 in
set_option maxHeartbeats 4000000 in
theorem m_L_scratch (l : Launch) (hfl : l.stackTraces = false) (dd : va_G) (cT : Nat → ClassId) (lo : Nat) (G : gH) (a0 : Nat) (x1 : Int32) (a2 : Nat) {K : Int32 → gH → Prop} {u9 : Unit} (hob : g_ob G a0 9 = some u9) (h : w_Lz (fun KX K => w_X9_scratch G a0 x1 KX K) a2 [(g_xIOB, 1)] K) : Met l yL_scratch (Cond.codeWith yL_scratch cL_scratch 4 (some .int) [(0, 16, 19, 22)] :: wsL_law) (g_rm 8 145 31 1643) (va_Pc [.ref a0, .int x1, .ref a2] (g_Pre lo dd cT G)) (va_Qi K (g_Pre lo dd cT) (g_A lo)) 31 1643 (g_A lo) := by
  refine g_startH RL rfl (by decide) (Nat.le_of_ble_eq_true rfl) ?_
  intro p e s m below meth c hx hb hr hlocks hml htab hown hts hK hG hlo ls hl
  have hl : lv_has ls 4 [(0, .ref a0), (1, .int x1), (2, .ref a2)] := hl
  have hG : g_S lo dd cT s s.heap [] G := hG
  unfold w_Lz at h
  refine lv_aload_n hx hb dL_scratch_0 rfl (lv_at hl 2 rfl) ?_
  refine lv_iconst (v := (0 : Int32)) hx hb dL_scratch_1 (by decide) ?_
  refine lv_aload_n hx hb dL_scratch_2 rfl (lv_at hl 0 rfl) ?_
  refine lv_iload_n hx hb dL_scratch_3 rfl (lv_at hl 1 rfl) ?_
  refine g_xVi (As := [.int x1]) (rest := [.int 0, .ref a2]) (n := 1) hx hb hml hown hts hK hlo hG (m_X9_scratch l hfl dd cT lo G a0 x1 h) qM_L_76 qI_yX9_scratch qS_X9_yX9_scratch qN_X9 qC_yX9_scratch (by decide +kernel) ⟨Nat.le_of_ble_eq_true rfl, Nat.le_of_ble_eq_true rfl⟩ (by rfl) hob rfl hl.1 rfl (Nat.le_of_ble_eq_true rfl) dL_scratch_4 ⟨Nat.le_of_ble_eq_true rfl, Nat.le_of_ble_eq_true rfl⟩ (fun E ce q9 G1 H locs hKX hG h1 h2 h3 => ?_) (fun r G1 H locs h hG => ?_)
  · obtain ⟨pr, hp, hE, h⟩ := hKX
    have hp : pr = (g_xIOB, 1) := by simpa using hp
    subst hp
    subst hE
    refine g_catch (E := g_xIOB) (tgt := 19) hown hts htab hG h1 h2 h3 [] _ [] rfl (by simp) (fun z hz => absurd hz (by simp)) (by decide) (by decide) qL_L_22 rfl ?_
    refine lv_astore_n (lv' := [(3, .ref q9), (0, .ref a0), (1, .int x1), (2, .ref a2)]) hx hb dL_scratch_19 rfl hl (by decide) rfl (fun ls hl => ?_)
    refine lv_iconst (v := (1 : Int32)) hx hb dL_scratch_20 (by decide) ?_
    refine W.widen (k := 31) (n := 1643) (Nat.le_of_ble_eq_true rfl) (Nat.le_of_ble_eq_true rfl) ?_
    exact g_iret hx hb hr hlocks hK hlo hG h dL_scratch_21
  · obtain ⟨G2, hst, h⟩ := h
    have tail : ∀ w : Int64, w = (if r = 0 then (0 : Int64) else 1) → W p l e (g_rm 8 145 31 1643) s m [.ref a0, .int x1, .ref a2].toArray below meth c H locs (0 + 31) (0 + 1643) (MQ below (va_Qi K (g_Pre lo dd cT) (g_A lo)) [.ref a0, .int x1, .ref a2].toArray s 31 1643 (g_A lo)) (F0 m 15 ls [.long w, .int 0, .ref a2]) := by
      intro w hw
      subst hw
      refine g_jast hx hb hK hG hst dL_scratch_15 (fun H locs hG => ?_)
      refine lv_goto (tgt := 22) hx hb dL_scratch_16 (by decide) ?_
      refine lv_iconst (v := (0 : Int32)) hx hb dL_scratch_22 (by decide) ?_
      refine W.widen (k := 31) (n := 1643) (Nat.le_of_ble_eq_true rfl) (Nat.le_of_ble_eq_true rfl) ?_
      exact g_iret hx hb hr hlocks hK hlo hG h dL_scratch_23
    refine lv_if_eq (tgt := 14) hx hb dL_scratch_7 (by decide) (fun c9 => ?_) (fun c9 => ?_)
    · refine lv_lconst (v := (0 : Int64)) hx hb dL_scratch_14 (by decide) ?_
      exact tail 0 (by rw [if_pos c9])
    · refine lv_lconst (v := (1 : Int64)) hx hb dL_scratch_10 (by decide) ?_
      refine lv_goto (tgt := 15) hx hb dL_scratch_11 (by decide) ?_
      exact tail 1 (by rw [if_neg c9])
set_option maxRecDepth 20000 in
set_option maxHeartbeats 4000000 in
theorem m_L_saveSnapshot (l : Launch) (hfl : l.stackTraces = false) (dd : va_G) (cT : Nat → ClassId) (lo : Nat) (G : gH) (a0 : Nat) (x1 : Int32) (a2 : Nat) {K : Int32 → gH → Prop} {u9 : Unit} (hob : g_ob G a0 9 = some u9) (h : w_Lz (fun KX K => w_X9_saveSnapshot G a0 x1 KX K) a2 [(g_xIOB, 1)] K) : Met l yL_saveSnapshot (Cond.codeWith yL_saveSnapshot cL_saveSnapshot 4 (some .int) [(0, 16, 19, 22)] :: wsL_law) (g_rm 8 146 31 1643) (va_Pc [.ref a0, .int x1, .ref a2] (g_Pre lo dd cT G)) (va_Qi K (g_Pre lo dd cT) (g_A lo)) 31 1643 (g_A lo) := by
  refine g_startH RL rfl (by decide) (Nat.le_of_ble_eq_true rfl) ?_
  intro p e s m below meth c hx hb hr hlocks hml htab hown hts hK hG hlo ls hl
  have hl : lv_has ls 4 [(0, .ref a0), (1, .int x1), (2, .ref a2)] := hl
  have hG : g_S lo dd cT s s.heap [] G := hG
  unfold w_Lz at h
  refine lv_aload_n hx hb dL_saveSnapshot_0 rfl (lv_at hl 2 rfl) ?_
  refine lv_iconst (v := (0 : Int32)) hx hb dL_saveSnapshot_1 (by decide) ?_
  refine lv_aload_n hx hb dL_saveSnapshot_2 rfl (lv_at hl 0 rfl) ?_
  refine lv_iload_n hx hb dL_saveSnapshot_3 rfl (lv_at hl 1 rfl) ?_
  refine g_xVi (As := [.int x1]) (rest := [.int 0, .ref a2]) (n := 1) hx hb hml hown hts hK hlo hG (m_X9_saveSnapshot l hfl dd cT lo G a0 x1 h) qM_L_80 qI_yX9_saveSnapshot qS_X9_yX9_saveSnapshot qN_X9 qC_yX9_saveSnapshot (by decide +kernel) ⟨Nat.le_of_ble_eq_true rfl, Nat.le_of_ble_eq_true rfl⟩ (by rfl) hob rfl hl.1 rfl (Nat.le_of_ble_eq_true rfl) dL_saveSnapshot_4 ⟨Nat.le_of_ble_eq_true rfl, Nat.le_of_ble_eq_true rfl⟩ (fun E ce q9 G1 H locs hKX hG h1 h2 h3 => ?_) (fun r G1 H locs h hG => ?_)
  · obtain ⟨pr, hp, hE, h⟩ := hKX
    have hp : pr = (g_xIOB, 1) := by simpa using hp
    subst hp
    subst hE
    refine g_catch (E := g_xIOB) (tgt := 19) hown hts htab hG h1 h2 h3 [] _ [] rfl (by simp) (fun z hz => absurd hz (by simp)) (by decide) (by decide) qL_L_22 rfl ?_
    refine lv_astore_n (lv' := [(3, .ref q9), (0, .ref a0), (1, .int x1), (2, .ref a2)]) hx hb dL_saveSnapshot_19 rfl hl (by decide) rfl (fun ls hl => ?_)
    refine lv_iconst (v := (1 : Int32)) hx hb dL_saveSnapshot_20 (by decide) ?_
    refine W.widen (k := 31) (n := 1643) (Nat.le_of_ble_eq_true rfl) (Nat.le_of_ble_eq_true rfl) ?_
    exact g_iret hx hb hr hlocks hK hlo hG h dL_saveSnapshot_21
  · obtain ⟨G2, hst, h⟩ := h
    have tail : ∀ w : Int64, w = (if r = 0 then (0 : Int64) else 1) → W p l e (g_rm 8 146 31 1643) s m [.ref a0, .int x1, .ref a2].toArray below meth c H locs (0 + 31) (0 + 1643) (MQ below (va_Qi K (g_Pre lo dd cT) (g_A lo)) [.ref a0, .int x1, .ref a2].toArray s 31 1643 (g_A lo)) (F0 m 15 ls [.long w, .int 0, .ref a2]) := by
      intro w hw
      subst hw
      refine g_jast hx hb hK hG hst dL_saveSnapshot_15 (fun H locs hG => ?_)
      refine lv_goto (tgt := 22) hx hb dL_saveSnapshot_16 (by decide) ?_
      refine lv_iconst (v := (0 : Int32)) hx hb dL_saveSnapshot_22 (by decide) ?_
      refine W.widen (k := 31) (n := 1643) (Nat.le_of_ble_eq_true rfl) (Nat.le_of_ble_eq_true rfl) ?_
      exact g_iret hx hb hr hlocks hK hlo hG h dL_saveSnapshot_23
    refine lv_if_eq (tgt := 14) hx hb dL_saveSnapshot_7 (by decide) (fun c9 => ?_) (fun c9 => ?_)
    · refine lv_lconst (v := (0 : Int64)) hx hb dL_saveSnapshot_14 (by decide) ?_
      exact tail 0 (by rw [if_pos c9])
    · refine lv_lconst (v := (1 : Int64)) hx hb dL_saveSnapshot_10 (by decide) ?_
      refine lv_goto (tgt := 15) hx hb dL_saveSnapshot_11 (by decide) ?_
      exact tail 1 (by rw [if_neg c9])
set_option maxRecDepth 20000 in
set_option maxHeartbeats 4000000 in
theorem m_L_restoreSnapshot (l : Launch) (hfl : l.stackTraces = false) (dd : va_G) (cT : Nat → ClassId) (lo : Nat) (G : gH) (a0 : Nat) (x1 : Int32) (a2 : Nat) {K : Int32 → gH → Prop} {u9 : Unit} (hob : g_ob G a0 9 = some u9) (h : w_Li (fun KX K => w_X9_restoreSnapshot G a0 x1 KX K) a2 [(g_xIOB, 1), (g_xISE, 2)] K) : Met l yL_restoreSnapshot (Cond.codeWith yL_restoreSnapshot cL_restoreSnapshot 4 (some .int) [(0, 9, 12, 22), (0, 9, 15, 61)] :: wsL_law) (g_rm 8 129 2 12) (va_Pc [.ref a0, .int x1, .ref a2] (g_Pre lo dd cT G)) (va_Qi K (g_Pre lo dd cT) (g_A lo)) 2 12 (g_A lo) := by
  refine g_startH RL rfl (by decide) (Nat.le_of_ble_eq_true rfl) ?_
  intro p e s m below meth c hx hb hr hlocks hml htab hown hts hK hG hlo ls hl
  have hl : lv_has ls 4 [(0, .ref a0), (1, .int x1), (2, .ref a2)] := hl
  have hG : g_S lo dd cT s s.heap [] G := hG
  unfold w_Li at h
  refine lv_aload_n hx hb dL_restoreSnapshot_0 rfl (lv_at hl 2 rfl) ?_
  refine lv_iconst (v := (0 : Int32)) hx hb dL_restoreSnapshot_1 (by decide) ?_
  refine lv_aload_n hx hb dL_restoreSnapshot_2 rfl (lv_at hl 0 rfl) ?_
  refine lv_iload_n hx hb dL_restoreSnapshot_3 rfl (lv_at hl 1 rfl) ?_
  refine g_xVi (As := [.int x1]) (rest := [.int 0, .ref a2]) (n := 1) hx hb hml hown hts hK hlo hG (m_X9_restoreSnapshot l hfl dd cT lo G a0 x1 h) qM_L_83 qI_yX9_restoreSnapshot qS_X9_yX9_restoreSnapshot qN_X9 qC_yX9_restoreSnapshot (by decide +kernel) ⟨Nat.le_of_ble_eq_true rfl, Nat.le_of_ble_eq_true rfl⟩ (by rfl) hob rfl hl.1 rfl (Nat.le_of_ble_eq_true rfl) dL_restoreSnapshot_4 ⟨Nat.le_of_ble_eq_true rfl, Nat.le_of_ble_eq_true rfl⟩ (fun E ce q9 G1 H locs hKX hG h1 h2 h3 => ?_) (fun r G1 H locs h hG => ?_)
  · obtain ⟨pr, hp, hE, h⟩ := hKX
    have hp : pr = (g_xIOB, 1) ∨ pr = (g_xISE, 2) := by simpa using hp
    rcases hp with rfl | rfl
    · subst hE
      refine g_catch (E := g_xIOB) (tgt := 12) hown hts htab hG h1 h2 h3 [] _ [_] rfl (by simp) (fun z hz => absurd hz (by simp)) (by decide) (by decide) qL_L_22 rfl ?_
      refine lv_astore_n (lv' := [(3, .ref q9), (0, .ref a0), (1, .int x1), (2, .ref a2)]) hx hb dL_restoreSnapshot_12 rfl hl (by decide) rfl (fun ls hl => ?_)
      refine lv_iconst (v := (1 : Int32)) hx hb dL_restoreSnapshot_13 (by decide) ?_
      refine W.widen (k := 2) (n := 12) (Nat.le_of_ble_eq_true rfl) (Nat.le_of_ble_eq_true rfl) ?_
      exact g_iret hx hb hr hlocks hK hlo hG h dL_restoreSnapshot_14
    · subst hE
      refine g_catch (E := g_xISE) (tgt := 15) hown hts htab hG h1 h2 h3 [_] _ [] rfl (by simp) (fun z hz => by have hz := List.mem_singleton.mp hz; subst hz; exact ⟨(by decide), g_xIOB, (by simp), (by decide), qL_L_22⟩) (by decide) (by decide) qL_L_61 rfl ?_
      refine lv_astore_n (lv' := [(3, .ref q9), (0, .ref a0), (1, .int x1), (2, .ref a2)]) hx hb dL_restoreSnapshot_15 rfl hl (by decide) rfl (fun ls hl => ?_)
      refine lv_iconst (v := (2 : Int32)) hx hb dL_restoreSnapshot_16 (by decide) ?_
      refine W.widen (k := 2) (n := 12) (Nat.le_of_ble_eq_true rfl) (Nat.le_of_ble_eq_true rfl) ?_
      exact g_iret hx hb hr hlocks hK hlo hG h dL_restoreSnapshot_17
  · obtain ⟨G2, hst, h⟩ := h
    refine lv_i2l hx hb dL_restoreSnapshot_7 rfl ?_
    refine g_jast hx hb hK hG hst dL_restoreSnapshot_8 (fun H locs hG => ?_)
    refine lv_goto (tgt := 18) hx hb dL_restoreSnapshot_9 (by decide) ?_
    refine lv_iconst (v := (0 : Int32)) hx hb dL_restoreSnapshot_18 (by decide) ?_
    refine W.widen (k := 2) (n := 12) (Nat.le_of_ble_eq_true rfl) (Nat.le_of_ble_eq_true rfl) ?_
    exact g_iret hx hb hr hlocks hK hlo hG h dL_restoreSnapshot_19

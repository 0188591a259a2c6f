/-! share: doubles that are numbers. -/
section GSD
variable {p : Program} {l : Launch} {e : Env} {R : Room} {s : State} {m : MethodId} {args : Array Value} {below : List Frame} {meth : Method} {c : Code} {H : Heap} {locs : List Loc} {cells slots : Nat} {Q : State → Prop}
variable {cc : ByteArray} {pc : Nat} {ls : Array Slot} {rest : List Value} {lo : Nat} {dd : va_G} {cT : Nat → ClassId} {G : gH}
theorem g_dret (hx : p.tables.exec = Jvm.exec) (hb : c.code = cc) (hr : meth.sig.returnType = some .double) (hlocks : meth.locks = false) (hK : g_K dd cT s) (hlo : lo ≤ s.heap.size) (hG : g_S lo dd cT s H locs G) {v : UInt64} {post : UInt64 → gH → Prop} (hp : post v G) (hdg : decode cc pc = .ok (.dreturn, 1)) :
    W p l e R s m args below meth c H locs cells slots (MQ below (va_Qd post (g_Pre lo dd cT) (g_A lo)) args s cells slots (g_A lo)) (F0 m pc ls [.double v]) :=
  W.dret hx hb hr (fun t ht hW => ⟨⟨v, G, rfl, hp, by rw [ht]; exact Nat.le_trans hlo hG.2.1.1, by rw [ht]; exact hG.1, hK.moved hW, hG.2.2.next hG.2.1 ht hW⟩, hG.2.1.F ht⟩) hG.2.1.2.2 hdg hlocks
set_option maxHeartbeats 1000000 in
theorem g_wVd (hx : p.tables.exec = Jvm.exec) (hb : c.code = cc) {nL : Nat} (hml : c.maxLocals = nL) {own : String} (hown : s.vm.findClass own = some m.cls) (hts : ∀ w ∈ wsL_law, w.before args s = true) (hK : g_K dd cT s) (hlo : lo ≤ s.heap.size) (hG : g_S lo dd cT s H locs G) {y : MethodName} {by_ : ByteArray} {mL fr lc mc ms index n : Nat} {ret : Option FieldType} {As : List Value} {K : UInt64 → gH → Prop} {b ci N : Nat} {C : String} {T : u_T}
    (hM : Met l y (Cond.code y by_ mL ret :: wsL_law) (g_rm fr lc mc ms) (va_Pc (.ref b :: As) (g_Pre lo dd cT G)) (va_Qd K (g_Pre lo dd cT) (g_A lo)) mc ms (g_A lo))
    (h1 : Cond.methodLink own index y ∈ wsL_law) (h2 : Cond.instanceMethod y ∈ wsL_law) (h3 : Cond.selects C y y ∈ wsL_law) (h4 : Cond.initialized C ∈ wsL_law) (h5 : Cond.code y by_ mL ret ∈ wsL_law)
    (hd : y.cls = C ∧ y.cls ≠ "java/lang/invoke/MethodHandle" ∧ y.cls ≠ "java/lang/invoke/VarHandle" ∧ (parseMethodDescriptor y.desc).map (fun d => d.parameters.length) = some n) (hR : fr + 1 ≤ R.frames ∧ 8 + (mL + 11) + lc ≤ R.locals)
    (hcl : vwCl[ci]? = some (C, T, N)) {u0 : Unit} (hob : g_ob G b ci = some u0) {st0 : List Value} (hn : As.length = n) (hsz : ls.size = nL) (hst : st0 = As.reverse ++ .ref b :: rest) (hro : (rest.map fun v => v.category).sum ≤ 8) (hdg : decode cc pc = .ok (.invokevirtual index, 3)) (hf : cells + mc ≤ R.cells ∧ slots + ms ≤ R.slots)
    (kk : ∀ (r : UInt64) (G1 : gH) (H1 : Heap) (locs1 : List Loc), K r G1 → g_S lo dd cT s H1 locs1 G1 → W p l e R s m args below meth c H1 locs1 (cells + mc) (slots + ms) Q (F0 m (pc + 3) ls (.double r :: rest))) : W p l e R s m args below meth c H locs cells slots Q (F0 m pc ls st0) := by
  have hG0 := hG
  obtain ⟨⟨ws, hP, hD, hR0⟩, hS, hX⟩ := hG0
  obtain ⟨fs, hGb⟩ := g_ob_spec hob
  obtain ⟨q0, hq⟩ := hR0 _ _ hGb
  have hT : GoodIn wsL_law (wsV own index C y (Cond.code y by_ mL ret :: wsL_law)) := by
    intro w hw
    simp only [wsV, List.cons_append, List.nil_append, List.mem_cons] at hw
    rcases hw with rfl | rfl | rfl | rfl | rfl | hw
    · exact g_goodIn _ h1
    · exact g_goodIn _ h2
    · exact g_goodIn _ h3
    · exact g_goodIn _ h4
    · exact g_goodIn _ h5
    · exact g_goodIn _ hw
  refine va_calld (A1 := g_A lo) (free := g_A lo) (va_runV ⟨hx, hb, hml, hown, hts⟩ hM (cwV n hts hT rfl rfl rfl hd hR) ⟨g_Pre.blind, va_recv hK.1 hP hcl hq, fun U hU hW => ⟨rfl, by rw [hU]; exact Nat.le_trans hlo hS.1, by rw [hU]; exact ⟨ws, hP, hD, hR0⟩, hK.moved hW, hX.next hS hU hW⟩⟩ rfl hn hsz hst (lv_room hro) hdg hf) hS (fun q _ h => h) (fun q h => h) (fun r1 u t H1 locs1 ht hvm hw hB hz1 hk1 hS1 => by exact kk r1 u H1 locs1 hw ⟨by rw [← ht]; exact hB.2.1, hS1, hX⟩)
end GSD
set_option maxRecDepth 20000 in
set_option maxHeartbeats 4000000 in
theorem m_X9_share (l : Launch) (dd : va_G) (cT : Nat → ClassId) (lo : Nat) (G : gH) (a0 : Nat) {K : UInt64 → gH → Prop} (h : w_X9_share G a0 K) : Met l yX9_share (Cond.code yX9_share cX9_share 2 (some .double) :: wsL_law) (g_rm 8 183 0 0) (va_Pc [.ref a0] (g_Pre lo dd cT G)) (va_Qd K (g_Pre lo dd cT) (g_A lo)) 0 0 (g_A lo) := by
  refine g_start RX9 rfl (by decide) (Nat.le_of_ble_eq_true rfl) ?_
  intro p e s m below meth c hx hb hr hlocks hml hown hnm hts hK hG hlo ls hl
  have hl : lv_has ls 2 [(0, .ref a0)] := hl
  have hG : g_S lo dd cT s s.heap [] G := hG
  unfold w_X9_share at h
  obtain ⟨v1, e1, v4, e4, v7, e7, u16, o16, q16, e16, h⟩ := h
  refine lv_aload_n hx hb dX9_share_0 rfl (lv_at hl 0 rfl) ?_
  refine g_getr hx hb hts inlX9 hown hK hG (by rfl) 5 (by decide) qF_X9_47 e1 dX9_share_1 ?_
  refine g_getr hx hb hts inlX1 hown hK hG (by rfl) 0 (by decide) qF_X9_106 e4 dX9_share_4 ?_
  refine g_geti hx hb hts inlX0 hown hK hG (by rfl) 0 (by decide) qF_X9_110 e7 dX9_share_7 ?_
  refine lv_aload_n hx hb dX9_share_10 rfl (lv_at hl 0 rfl) ?_
  refine g_getr hx hb hts inlX9 hown hK hG (by rfl) 5 (by decide) qF_X9_47 e1 dX9_share_11 ?_
  refine lv_iconst (v := (-1 : Int32)) hx hb dX9_share_14 (by decide) ?_
  refine lv_iconst (v := (0 : Int32)) hx hb dX9_share_15 (by decide) ?_
  refine g_cVi (As := [.int (-1 : Int32), .int (0 : Int32)]) (rest := [.int v7]) (n := 2) hx hb hml hown hts hK hlo hG (m_X1_blocksUsed l dd cT lo G v1 (-1 : Int32) (0 : Int32) e16) qM_X9_272 qI_yX1_blocksUsed qS_X1_yX1_blocksUsed qN_X1 qC_yX1_blocksUsed (by decide +kernel) ⟨Nat.le_of_ble_eq_true rfl, Nat.le_of_ble_eq_true rfl⟩ (by rfl) o16 rfl hl.1 rfl (Nat.le_of_ble_eq_true rfl) dX9_share_16 ⟨Nat.le_of_ble_eq_true rfl, Nat.le_of_ble_eq_true rfl⟩ (fun H locs hG => ?_)
  refine lv_isub hx hb dX9_share_19 ?_
  refine lv_istore_n (lv' := [(1, .int (v7 - q16.2)), (0, .ref a0)]) hx hb dX9_share_20 rfl hl (by decide) rfl (fun ls hl => ?_)
  refine lv_iload_n hx hb dX9_share_21 rfl (lv_at hl 0 rfl) ?_
  refine lv_if_gt (tgt := 27) hx hb dX9_share_22 (by decide) (fun c9 => ?_) (fun c9 => ?_)
  · rw [if_pos c9] at h
    obtain ⟨v28, e28, u33, o33, q33, e33, hne, h⟩ := h
    refine lv_aload_n hx hb dX9_share_27 rfl (lv_at hl 1 rfl) ?_
    refine g_getr hx hb hts inlX9 hown hK hG (by rfl) 5 (by decide) qF_X9_47 e28 dX9_share_28 ?_
    refine lv_iconst (v := (-1 : Int32)) hx hb dX9_share_31 (by decide) ?_
    refine lv_iconst (v := (1 : Int32)) hx hb dX9_share_32 (by decide) ?_
    refine g_cVi (As := [.int (-1 : Int32), .int (1 : Int32)]) (rest := []) (n := 2) hx hb hml hown hts hK hlo hG (m_X1_blocksUsed l dd cT lo q16.1 v28 (-1 : Int32) (1 : Int32) e33) qM_X9_272 qI_yX1_blocksUsed qS_X1_yX1_blocksUsed qN_X1 qC_yX1_blocksUsed (by decide +kernel) ⟨Nat.le_of_ble_eq_true rfl, Nat.le_of_ble_eq_true rfl⟩ (by rfl) o33 rfl hl.1 rfl (Nat.le_of_ble_eq_true rfl) dX9_share_33 ⟨Nat.le_of_ble_eq_true rfl, Nat.le_of_ble_eq_true rfl⟩ (fun H locs hG => ?_)
    refine lv_i2d hx hb dX9_share_36 ?_
    refine lv_iload_n hx hb dX9_share_37 rfl (lv_at hl 0 rfl) ?_
    refine lv_i2d hx hb dX9_share_38 ?_
    refine lv_ddiv hx hb dX9_share_39 hne ?_
    exact g_dret hx hb hr hlocks hK hlo hG h dX9_share_40
  · rw [if_neg c9] at h
    refine lv_dconst1 hx hb dX9_share_25 ?_
    exact g_dret hx hb hr hlocks hK hlo hG h dX9_share_26
set_option maxRecDepth 20000 in
set_option maxHeartbeats 4000000 in
theorem m_X10_share (l : Launch) (dd : va_G) (cT : Nat → ClassId) (lo : Nat) (G : gH) (a0 : Nat) {K : UInt64 → gH → Prop} (h : w_X10_share G a0 K) : Met l yX10_share (Cond.code yX10_share cX10_share 2 (some .double) :: wsL_law) (g_rm 6 134 0 0) (va_Pc [.ref a0] (g_Pre lo dd cT G)) (va_Qd K (g_Pre lo dd cT) (g_A lo)) 0 0 (g_A lo) := by
  refine g_start RX10 rfl (by decide) (Nat.le_of_ble_eq_true rfl) ?_
  intro p e s m below meth c hx hb hr hlocks hml hown hnm hts hK hG hlo ls hl
  have hl : lv_has ls 2 [(0, .ref a0)] := hl
  have hG : g_S lo dd cT s s.heap [] G := hG
  unfold w_X10_share at h
  obtain ⟨G2, e2, v6, e6, v10, e10, u14, o14, q14, e14, h⟩ := h
  refine lv_aload_n hx hb dX10_share_0 rfl (lv_at hl 0 rfl) ?_
  refine lv_iconst (v := (0 : Int32)) hx hb dX10_share_1 (by decide) ?_
  refine g_putv hx hb hts inlX10 tyX10 tyX10_ok nmX10 hown hK hG (by rfl) 0 (by decide) qF_X10_50 rfl rfl rfl rfl e2 dX10_share_2 (fun H locs hG => ?_)
  refine lv_aload_n hx hb dX10_share_5 rfl (lv_at hl 0 rfl) ?_
  refine g_getr hx hb hts inlX10 hown hK hG (by rfl) 1 (by decide) qF_X10_7 e6 dX10_share_6 ?_
  refine lv_iconst (v := (0 : Int32)) hx hb dX10_share_9 (by decide) ?_
  refine g_iald hx hb hK hG e10 dX10_share_10 ?_
  refine lv_aload_n hx hb dX10_share_11 rfl (lv_at hl 0 rfl) ?_
  refine lv_iconst (v := (-1 : Int32)) hx hb dX10_share_12 (by decide) ?_
  refine lv_iconst (v := (0 : Int32)) hx hb dX10_share_13 (by decide) ?_
  refine g_cVi (As := [.int (-1 : Int32), .int (0 : Int32)]) (rest := [.int v10]) (n := 2) hx hb hml hown hts hK hlo hG (m_X10_spaceBy l dd cT lo G2 a0 (-1 : Int32) (0 : Int32) e14) qM_X10_348 qI_yX10_spaceBy qS_X10_yX10_spaceBy qN_X10 qC_yX10_spaceBy (by decide +kernel) ⟨Nat.le_of_ble_eq_true rfl, Nat.le_of_ble_eq_true rfl⟩ (by rfl) o14 rfl hl.1 rfl (Nat.le_of_ble_eq_true rfl) dX10_share_14 ⟨Nat.le_of_ble_eq_true rfl, Nat.le_of_ble_eq_true rfl⟩ (fun H locs hG => ?_)
  refine lv_isub hx hb dX10_share_17 ?_
  refine lv_istore_n (lv' := [(1, .int (v10 - q14.2)), (0, .ref a0)]) hx hb dX10_share_18 rfl hl (by decide) rfl (fun ls hl => ?_)
  refine lv_iload_n hx hb dX10_share_19 rfl (lv_at hl 0 rfl) ?_
  refine lv_if_ne (tgt := 27) hx hb dX10_share_20 (by decide) (fun c9 => ?_) (fun c9 => ?_)
  · rw [if_neg c9] at h
    obtain ⟨u30, o30, q30, e30, hne, h⟩ := h
    refine lv_aload_n hx hb dX10_share_27 rfl (lv_at hl 1 rfl) ?_
    refine lv_iconst (v := (-1 : Int32)) hx hb dX10_share_28 (by decide) ?_
    refine lv_iconst (v := (1 : Int32)) hx hb dX10_share_29 (by decide) ?_
    refine g_cVi (As := [.int (-1 : Int32), .int (1 : Int32)]) (rest := []) (n := 2) hx hb hml hown hts hK hlo hG (m_X10_spaceBy l dd cT lo q14.1 a0 (-1 : Int32) (1 : Int32) e30) qM_X10_348 qI_yX10_spaceBy qS_X10_yX10_spaceBy qN_X10 qC_yX10_spaceBy (by decide +kernel) ⟨Nat.le_of_ble_eq_true rfl, Nat.le_of_ble_eq_true rfl⟩ (by rfl) o30 rfl hl.1 rfl (Nat.le_of_ble_eq_true rfl) dX10_share_30 ⟨Nat.le_of_ble_eq_true rfl, Nat.le_of_ble_eq_true rfl⟩ (fun H locs hG => ?_)
    refine lv_i2d hx hb dX10_share_33 ?_
    refine lv_iload_n hx hb dX10_share_34 rfl (lv_at hl 0 rfl) ?_
    refine lv_i2d hx hb dX10_share_35 ?_
    refine lv_ddiv hx hb dX10_share_36 hne ?_
    exact g_dret hx hb hr hlocks hK hlo hG h dX10_share_37
  · rw [if_pos c9] at h
    refine lv_dconst1 hx hb dX10_share_23 ?_
    refine lv_goto (tgt := 37) hx hb dX10_share_24 (by decide) ?_
    exact g_dret hx hb hr hlocks hK hlo hG h dX10_share_37
set_option maxRecDepth 20000 in
set_option maxHeartbeats 4000000 in
theorem lc_share {p : Program} {l : Launch} {e : Env} {R : Room} {s : State} {m : MethodId} {args : Array Value} {below : List Frame} {meth : Method} {c : Code} {H : Heap} {locs : List Loc} {cells slots : Nat} {Q : State → Prop} {ls : Array Slot} {lo : Nat} {dd : va_G} {cT : Nat → ClassId} {G : gH} {b L ax am ao : Nat} {xs : Nat → Int32} (hfl : l.stackTraces = false) (hx : p.tables.exec = Jvm.exec) (hb : c.code = cL_law) (hml : c.maxLocals = 9) (hown : s.vm.findClass RL = some m.cls) (hts : ∀ w ∈ wsL_law, w.before args s = true) (hK : g_K dd cT s) (hlo : lo ≤ s.heap.size) (hX : va_X b L xs s s.heap) (hbl : b < s.heap.size) (hbA : ¬ g_A lo b) (hR : 12 ≤ R.frames ∧ 300 ≤ R.locals) (hf : cells + 40 ≤ R.cells ∧ slots + 2000 ≤ R.slots) (hG : g_S lo dd cT s H locs G) (hg : zGd ax am ao G) {xi : Int32} (hj : ∀ k : Int32, k ∈ ([1, 2, 3, 4, 5] : List Int32) → vp_in (xi + k) L) (hl : lv_has ls 9 [(0, .ref b), (1, .ref ax), (2, .ref am), (3, .ref ao), (4, .int xi)]) (next : ∀ (H1 : Heap) (locs1 : List Loc) (G1 : gH) (ls1 : Array Slot), g_S lo dd cT s H1 locs1 G1 → zGd ax am ao G1 → lv_has ls1 9 [(0, .ref b), (1, .ref ax), (2, .ref am), (3, .ref ao), (4, .int xi)] → W p l e R s m args below meth c H1 locs1 (cells + 40) (slots + 2000) Q (F0 m 1783 ls1 [])) : W p l e R s m args below meth c H locs cells slots Q (F0 m 1238 ls []) := by
  refine lv_aload_n hx hb dL_law_1238 rfl (lv_at hl 1 rfl) ?_
  refine g_wVd (As := []) (rest := []) (n := 0) hx hb hml hown hts hK hlo hG (m_X9_share l dd cT lo G ax (L_share hg)) qM_L_166 qI_yX9_share qS_X9_yX9_share qN_X9 qC_yX9_share (by decide +kernel) ⟨by omega, by omega⟩ (by rfl) hg.ob.2 rfl hl.1 rfl (Nat.le_of_ble_eq_true rfl) dL_law_1239 ⟨by omega, by omega⟩ (fun pd G1 H locs h hG => ?_)
  obtain ⟨ho1, h⟩ := h
  refine lv_dstore (lv' := [(5, .double pd), (0, .ref b), (1, .ref ax), (2, .ref am), (3, .ref ao), (4, .int xi)]) hx hb dL_law_1242 hl (by decide) rfl (fun ls hl => ?_)
  refine lv_aload_n hx hb dL_law_1244 rfl (lv_at hl 3 rfl) ?_
  refine g_wVd (As := []) (rest := []) (n := 0) hx hb hml hown hts hK hlo hG (m_X10_share l dd cT lo G1 am h) qM_L_170 qI_yX10_share qS_X10_yX10_share qN_X10 qC_yX10_share (by decide +kernel) ⟨by omega, by omega⟩ (by rfl) ho1 rfl hl.1 rfl (Nat.le_of_ble_eq_true rfl) dL_law_1245 ⟨by omega, by omega⟩ (fun qd G2 H locs h hG => ?_)
  obtain ⟨rfl, hcmp, hg2⟩ := h
  refine lv_dstore (lv' := [(7, .double qd), (5, .double qd), (0, .ref b), (1, .ref ax), (2, .ref am), (3, .ref ao), (4, .int xi)]) hx hb dL_law_1248 hl (by decide) rfl (fun ls hl => ?_)
  refine lv_dload hx hb dL_law_1250 (lv_at hl 1 rfl) ?_
  refine lv_dload hx hb dL_law_1252 (lv_at hl 0 rfl) ?_
  refine lv_dcmp hx hb dL_law_1254 ?_
  refine lv_if_eq (tgt := 1276) hx hb dL_law_1255 (by decide) (fun _ => ?_) (fun c8 => absurd hcmp c8)
  refine lv_goto (tgt := 1783) hx hb dL_law_1276 (by decide) ?_
  refine W.widen (k := cells + 40) (n := slots + 2000) (by omega) (by omega) ?_
  exact next _ _ _ _ hG hg2 (lv_sub hl [2, 3, 4, 5, 6] rfl)

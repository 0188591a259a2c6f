/-! The law's cases. -/
set_option maxRecDepth 20000 in
set_option maxHeartbeats 4000000 in
theorem lc_append {p : Program} {l : Launch} {e : Env} {R : Room} {s : State} {m : MethodId} {args : Array Value} {below : List Frame} {meth : Method} {c : Code} {H : Heap} {locs : List Loc} {cells slots : Nat} {Q : State → Prop} {ls : Array Slot} {lo : Nat} {dd : va_G} {cT : Nat → ClassId} {G : gH} {b L ax am ao : Nat} {xs : Nat → Int32} (hfl : l.stackTraces = false) (hx : p.tables.exec = Jvm.exec) (hb : c.code = cL_law) (hml : c.maxLocals = 9) (hown : s.vm.findClass RL = some m.cls) (hts : ∀ w ∈ wsL_law, w.before args s = true) (hK : g_K dd cT s) (hlo : lo ≤ s.heap.size) (hX : va_X b L xs s s.heap) (hbl : b < s.heap.size) (hbA : ¬ g_A lo b) (hR : 12 ≤ R.frames ∧ 300 ≤ R.locals) (hf : cells + 40 ≤ R.cells ∧ slots + 2000 ≤ R.slots) (hG : g_S lo dd cT s H locs G) (hg : zGd ax am ao G) {xi : Int32} (hj : ∀ k : Int32, k ∈ ([1, 2, 3, 4, 5] : List Int32) → vp_in (xi + k) L) (hl : lv_has ls 9 [(0, .ref b), (1, .ref ax), (2, .ref am), (3, .ref ao), (4, .int xi)]) (next : ∀ (H1 : Heap) (locs1 : List Loc) (G1 : gH) (ls1 : Array Slot), g_S lo dd cT s H1 locs1 G1 → zGd ax am ao G1 → lv_has ls1 9 [(0, .ref b), (1, .ref ax), (2, .ref am), (3, .ref ao), (4, .int xi)] → W p l e R s m args below meth c H1 locs1 (cells + 40) (slots + 2000) Q (F0 m 1783 ls1 [])) : W p l e R s m args below meth c H locs cells slots Q (F0 m 180 ls []) := by
  refine lv_aload_n hx hb dL_law_180 rfl (lv_at hl 1 rfl) ?_
  refine lv_aload_n hx hb dL_law_181 rfl (lv_at hl 0 rfl) ?_
  refine lv_iload hx hb dL_law_182 (lv_at hl 4 rfl) ?_
  refine lv_iconst (v := (1 : Int32)) hx hb dL_law_184 (by decide) ?_
  refine lv_iadd hx hb dL_law_185 ?_
  refine va_sld hx hb hX hbl hbA hG.2.1 (hj 1 (by simp)) dL_law_186 ?_
  refine lv_aload_n hx hb dL_law_187 rfl (lv_at hl 0 rfl) ?_
  refine lv_iload hx hb dL_law_188 (lv_at hl 4 rfl) ?_
  refine lv_iconst (v := (2 : Int32)) hx hb dL_law_190 (by decide) ?_
  refine lv_iadd hx hb dL_law_191 ?_
  refine va_sld hx hb hX hbl hbA hG.2.1 (hj 2 (by simp)) dL_law_192 ?_
  refine lv_aload_n hx hb dL_law_193 rfl (lv_at hl 0 rfl) ?_
  refine lv_iload hx hb dL_law_194 (lv_at hl 4 rfl) ?_
  refine lv_iconst (v := (3 : Int32)) hx hb dL_law_196 (by decide) ?_
  refine lv_iadd hx hb dL_law_197 ?_
  refine va_sld hx hb hX hbl hbA hG.2.1 (hj 3 (by simp)) dL_law_198 ?_
  refine lv_aload_n hx hb dL_law_199 rfl (lv_at hl 0 rfl) ?_
  refine lv_iload hx hb dL_law_200 (lv_at hl 4 rfl) ?_
  refine lv_iconst (v := (4 : Int32)) hx hb dL_law_202 (by decide) ?_
  refine lv_iadd hx hb dL_law_203 ?_
  refine va_sld hx hb hX hbl hbA hG.2.1 (hj 4 (by simp)) dL_law_204 ?_
  refine lv_aload_n hx hb dL_law_205 rfl (lv_at hl 0 rfl) ?_
  refine lv_iload hx hb dL_law_206 (lv_at hl 4 rfl) ?_
  refine lv_iconst (v := (5 : Int32)) hx hb dL_law_208 (by decide) ?_
  refine lv_iadd hx hb dL_law_209 ?_
  refine va_sld hx hb hX hbl hbA hG.2.1 (hj 5 (by simp)) dL_law_210 ?_
  obtain ⟨G1, r, G2, hf9, ho1, hm1, hg2⟩ := L_append hg (xs (xi + (1 : Int32)).toNatClampNeg) (xs (xi + (2 : Int32)).toNatClampNeg) (xs (xi + (3 : Int32)).toNatClampNeg) (xs (xi + (4 : Int32)).toNatClampNeg) (xs (xi + (5 : Int32)).toNatClampNeg)
  refine g_cVi (As := [.int (xs (xi + (1 : Int32)).toNatClampNeg), .int (xs (xi + (2 : Int32)).toNatClampNeg), .int (xs (xi + (3 : Int32)).toNatClampNeg), .int (xs (xi + (4 : Int32)).toNatClampNeg), .int (xs (xi + (5 : Int32)).toNatClampNeg)]) (rest := []) (n := 5) hx hb hml hown hts hK hlo hG (m_X9_append l dd cT lo G ax (xs (xi + (1 : Int32)).toNatClampNeg) (xs (xi + (2 : Int32)).toNatClampNeg) (xs (xi + (3 : Int32)).toNatClampNeg) (xs (xi + (4 : Int32)).toNatClampNeg) (xs (xi + (5 : Int32)).toNatClampNeg) hf9) qM_L_90 qI_yX9_append qS_X9_yX9_append qN_X9 qC_yX9_append (by decide +kernel) ⟨by omega, by omega⟩ (by rfl) hg.ob.2 rfl hl.1 rfl (Nat.le_of_ble_eq_true rfl) dL_law_211 ⟨by omega, by omega⟩ (fun H locs hG => ?_)
  refine lv_aload_n hx hb dL_law_214 rfl (lv_at hl 2 rfl) ?_
  refine lv_aload_n hx hb dL_law_215 rfl (lv_at hl 0 rfl) ?_
  refine lv_iload hx hb dL_law_216 (lv_at hl 4 rfl) ?_
  refine lv_iconst (v := (1 : Int32)) hx hb dL_law_218 (by decide) ?_
  refine lv_iadd hx hb dL_law_219 ?_
  refine va_sld hx hb hX hbl hbA hG.2.1 (hj 1 (by simp)) dL_law_220 ?_
  refine lv_aload_n hx hb dL_law_221 rfl (lv_at hl 0 rfl) ?_
  refine lv_iload hx hb dL_law_222 (lv_at hl 4 rfl) ?_
  refine lv_iconst (v := (2 : Int32)) hx hb dL_law_224 (by decide) ?_
  refine lv_iadd hx hb dL_law_225 ?_
  refine va_sld hx hb hX hbl hbA hG.2.1 (hj 2 (by simp)) dL_law_226 ?_
  refine lv_aload_n hx hb dL_law_227 rfl (lv_at hl 0 rfl) ?_
  refine lv_iload hx hb dL_law_228 (lv_at hl 4 rfl) ?_
  refine lv_iconst (v := (3 : Int32)) hx hb dL_law_230 (by decide) ?_
  refine lv_iadd hx hb dL_law_231 ?_
  refine va_sld hx hb hX hbl hbA hG.2.1 (hj 3 (by simp)) dL_law_232 ?_
  refine lv_aload_n hx hb dL_law_233 rfl (lv_at hl 0 rfl) ?_
  refine lv_iload hx hb dL_law_234 (lv_at hl 4 rfl) ?_
  refine lv_iconst (v := (4 : Int32)) hx hb dL_law_236 (by decide) ?_
  refine lv_iadd hx hb dL_law_237 ?_
  refine va_sld hx hb hX hbl hbA hG.2.1 (hj 4 (by simp)) dL_law_238 ?_
  refine lv_aload_n hx hb dL_law_239 rfl (lv_at hl 0 rfl) ?_
  refine lv_iload hx hb dL_law_240 (lv_at hl 4 rfl) ?_
  refine lv_iconst (v := (5 : Int32)) hx hb dL_law_242 (by decide) ?_
  refine lv_iadd hx hb dL_law_243 ?_
  refine va_sld hx hb hX hbl hbA hG.2.1 (hj 5 (by simp)) dL_law_244 ?_
  refine g_cVi (As := [.int (xs (xi + (1 : Int32)).toNatClampNeg), .int (xs (xi + (2 : Int32)).toNatClampNeg), .int (xs (xi + (3 : Int32)).toNatClampNeg), .int (xs (xi + (4 : Int32)).toNatClampNeg), .int (xs (xi + (5 : Int32)).toNatClampNeg)]) (rest := [.int r]) (n := 5) hx hb hml hown hts hK hlo hG (m_X10_append l dd cT lo G1 am (xs (xi + (1 : Int32)).toNatClampNeg) (xs (xi + (2 : Int32)).toNatClampNeg) (xs (xi + (3 : Int32)).toNatClampNeg) (xs (xi + (4 : Int32)).toNatClampNeg) (xs (xi + (5 : Int32)).toNatClampNeg) hm1) qM_L_94 qI_yX10_append qS_X10_yX10_append qN_X10 qC_yX10_append (by decide +kernel) ⟨by omega, by omega⟩ (by rfl) ho1 rfl hl.1 rfl (Nat.le_of_ble_eq_true rfl) dL_law_245 ⟨by omega, by omega⟩ (fun H locs hG => ?_)
  refine lv_icmp_eq (tgt := 1783) hx hb dL_law_248 (by decide) (fun _ => ?_) (fun c9 => absurd rfl c9)
  refine W.widen (k := cells + 40) (n := slots + 2000) (by omega) (by omega) ?_
  exact next _ _ _ _ hG hg2 (lv_sub hl [0, 1, 2, 3, 4] rfl)
set_option maxRecDepth 20000 in
set_option maxHeartbeats 4000000 in
theorem lc_parse {p : Program} {l : Launch} {e : Env} {R : Room} {s : State} {m : MethodId} {args : Array Value} {below : List Frame} {meth : Method} {c : Code} {H : Heap} {locs : List Loc} {cells slots : Nat} {Q : State → Prop} {ls : Array Slot} {lo : Nat} {dd : va_G} {cT : Nat → ClassId} {G : gH} {b L ax am ao : Nat} {xs : Nat → Int32} (hfl : l.stackTraces = false) (hx : p.tables.exec = Jvm.exec) (hb : c.code = cL_law) (hml : c.maxLocals = 9) (hown : s.vm.findClass RL = some m.cls) (hts : ∀ w ∈ wsL_law, w.before args s = true) (hK : g_K dd cT s) (hlo : lo ≤ s.heap.size) (hX : va_X b L xs s s.heap) (hbl : b < s.heap.size) (hbA : ¬ g_A lo b) (hR : 12 ≤ R.frames ∧ 300 ≤ R.locals) (hf : cells + 40 ≤ R.cells ∧ slots + 2000 ≤ R.slots) (hG : g_S lo dd cT s H locs G) (hg : zGd ax am ao G) {xi : Int32} (hj : ∀ k : Int32, k ∈ ([1, 2, 3, 4, 5] : List Int32) → vp_in (xi + k) L) (hl : lv_has ls 9 [(0, .ref b), (1, .ref ax), (2, .ref am), (3, .ref ao), (4, .int xi)]) (next : ∀ (H1 : Heap) (locs1 : List Loc) (G1 : gH) (ls1 : Array Slot), g_S lo dd cT s H1 locs1 G1 → zGd ax am ao G1 → lv_has ls1 9 [(0, .ref b), (1, .ref ax), (2, .ref am), (3, .ref ao), (4, .int xi)] → W p l e R s m args below meth c H1 locs1 (cells + 40) (slots + 2000) Q (F0 m 1783 ls1 [])) : W p l e R s m args below meth c H locs cells slots Q (F0 m 253 ls []) := by
  refine lv_aload_n hx hb dL_law_253 rfl (lv_at hl 1 rfl) ?_
  refine lv_aload_n hx hb dL_law_254 rfl (lv_at hl 0 rfl) ?_
  refine lv_iload hx hb dL_law_255 (lv_at hl 4 rfl) ?_
  refine lv_iconst (v := (1 : Int32)) hx hb dL_law_257 (by decide) ?_
  refine lv_iadd hx hb dL_law_258 ?_
  refine va_sld hx hb hX hbl hbA hG.2.1 (hj 1 (by simp)) dL_law_259 ?_
  refine lv_aload_n hx hb dL_law_260 rfl (lv_at hl 3 rfl) ?_
  refine g_cHi (As := [.ref ax, .int (xs (xi + (1 : Int32)).toNatClampNeg), .ref ao]) (rest := []) (n := 3) hx hb hml hown hts hK hlo hG (m_L_parse l hfl dd cT lo G ax (xs (xi + (1 : Int32)).toNatClampNeg) ao hg.ob.2 (L_parse hg (xs (xi + (1 : Int32)).toNatClampNeg))) qM_L_95 qT_yL_parse qN_L qC_yL_parse (by decide +kernel) ⟨by omega, by omega⟩ rfl hl.1 rfl (Nat.le_of_ble_eq_true rfl) dL_law_261 ⟨by omega, by omega⟩ (fun k G1 H locs h hG => ?_)
  obtain ⟨G2, r, ho1, hm1, hth, hla, hg2⟩ := h
  refine lv_istore (lv' := [(5, .int k), (0, .ref b), (1, .ref ax), (2, .ref am), (3, .ref ao), (4, .int xi)]) hx hb dL_law_264 hl (by decide) rfl (fun ls hl => ?_)
  refine lv_aload_n hx hb dL_law_266 rfl (lv_at hl 3 rfl) ?_
  refine lv_aload_n hx hb dL_law_267 rfl (lv_at hl 1 rfl) ?_
  refine lv_iload hx hb dL_law_268 (lv_at hl 5 rfl) ?_
  refine lv_iconst (v := (1 : Int32)) hx hb dL_law_270 (by decide) ?_
  refine lv_iadd hx hb dL_law_271 ?_
  refine va_sld hx hb hX hbl hbA hG.2.1 (hj 1 (by simp)) dL_law_272 ?_
  refine g_cVi (As := [.int (xs (xi + (1 : Int32)).toNatClampNeg)]) (rest := []) (n := 1) hx hb hml hown hts hK hlo hG (m_X10_parse l dd cT lo G1 am (xs (xi + (1 : Int32)).toNatClampNeg) hm1) qM_L_100 qI_yX10_parse qS_X10_yX10_parse qN_X10 qC_yX10_parse (by decide +kernel) ⟨by omega, by omega⟩ (by rfl) ho1 rfl hl.1 rfl (Nat.le_of_ble_eq_true rfl) dL_law_273 ⟨by omega, by omega⟩ (fun H locs hG => ?_)
  refine lv_istore (lv' := [(6, .int r), (5, .int k), (0, .ref b), (1, .ref ax), (2, .ref am), (3, .ref ao), (4, .int xi)]) hx hb dL_law_276 hl (by decide) rfl (fun ls hl => ?_)
  refine lv_aload_n hx hb dL_law_278 rfl (lv_at hl 4 rfl) ?_
  refine g_cVi (As := []) (rest := []) (n := 0) hx hb hml hown hts hK hlo hG (m_X10_thrown l dd cT lo G2 am hth) qM_L_101 qI_yX10_thrown qS_X10_yX10_thrown qN_X10 qC_yX10_thrown (by decide +kernel) ⟨by omega, by omega⟩ (by rfl) hg2.ob.1 rfl hl.1 rfl (Nat.le_of_ble_eq_true rfl) dL_law_279 ⟨by omega, by omega⟩ (fun H locs hG => ?_)
  refine lv_iload hx hb dL_law_282 (lv_at hl 1 rfl) ?_
  refine lv_icmp_eq (tgt := 289) hx hb dL_law_284 (by decide) (fun _ => ?_) (fun c9 => absurd rfl c9)
  refine lv_iload hx hb dL_law_289 (lv_at hl 1 rfl) ?_
  refine lv_if_ne (tgt := 306) hx hb dL_law_291 (by decide) (fun _ => ?_) (fun c9 => ?_)
  · refine lv_goto (tgt := 1783) hx hb dL_law_306 (by decide) ?_
    refine W.widen (k := cells + 40) (n := slots + 2000) (by omega) (by omega) ?_
    exact next _ _ _ _ hG hg2 (lv_sub hl [2, 3, 4, 5, 6] rfl)
  · refine lv_aload_n hx hb dL_law_294 rfl (lv_at hl 5 rfl) ?_
    refine lv_iconst (v := (0 : Int32)) hx hb dL_law_295 (by decide) ?_
    refine g_jald hx hb hK hG (hla c9) dL_law_296 ?_
    refine lv_iload hx hb dL_law_297 (lv_at hl 0 rfl) ?_
    refine lv_i2l hx hb dL_law_299 rfl ?_
    refine W.lcmp hx hb dL_law_300 ?_
    refine lv_if_eq (tgt := 306) hx hb dL_law_301 (by decide) (fun _ => ?_) (fun c8 => absurd ((lg_cmp0 r.toInt64 r.toInt64).mpr rfl) c8)
    refine lv_goto (tgt := 1783) hx hb dL_law_306 (by decide) ?_
    refine W.widen (k := cells + 40) (n := slots + 2000) (by omega) (by omega) ?_
    exact next _ _ _ _ hG hg2 (lv_sub hl [2, 3, 4, 5, 6] rfl)
set_option maxRecDepth 20000 in
set_option maxHeartbeats 4000000 in
theorem lc_errorPosition {p : Program} {l : Launch} {e : Env} {R : Room} {s : State} {m : MethodId} {args : Array Value} {below : List Frame} {meth : Method} {c : Code} {H : Heap} {locs : List Loc} {cells slots : Nat} {Q : State → Prop} {ls : Array Slot} {lo : Nat} {dd : va_G} {cT : Nat → ClassId} {G : gH} {b L ax am ao : Nat} {xs : Nat → Int32} (hfl : l.stackTraces = false) (hx : p.tables.exec = Jvm.exec) (hb : c.code = cL_law) (hml : c.maxLocals = 9) (hown : s.vm.findClass RL = some m.cls) (hts : ∀ w ∈ wsL_law, w.before args s = true) (hK : g_K dd cT s) (hlo : lo ≤ s.heap.size) (hX : va_X b L xs s s.heap) (hbl : b < s.heap.size) (hbA : ¬ g_A lo b) (hR : 12 ≤ R.frames ∧ 300 ≤ R.locals) (hf : cells + 40 ≤ R.cells ∧ slots + 2000 ≤ R.slots) (hG : g_S lo dd cT s H locs G) (hg : zGd ax am ao G) {xi : Int32} (hj : ∀ k : Int32, k ∈ ([1, 2, 3, 4, 5] : List Int32) → vp_in (xi + k) L) (hl : lv_has ls 9 [(0, .ref b), (1, .ref ax), (2, .ref am), (3, .ref ao), (4, .int xi)]) (next : ∀ (H1 : Heap) (locs1 : List Loc) (G1 : gH) (ls1 : Array Slot), g_S lo dd cT s H1 locs1 G1 → zGd ax am ao G1 → lv_has ls1 9 [(0, .ref b), (1, .ref ax), (2, .ref am), (3, .ref ao), (4, .int xi)] → W p l e R s m args below meth c H1 locs1 (cells + 40) (slots + 2000) Q (F0 m 1783 ls1 [])) : W p l e R s m args below meth c H locs cells slots Q (F0 m 309 ls []) := by
  refine lv_aload_n hx hb dL_law_309 rfl (lv_at hl 1 rfl) ?_
  obtain ⟨r, G2, hf9, hm1, hg2⟩ := L_errorPosition hg
  have ho1 := hg.ob.1
  refine g_cVi (As := []) (rest := []) (n := 0) hx hb hml hown hts hK hlo hG (m_X9_errorPosition l dd cT lo G ax  hf9) qM_L_104 qI_yX9_errorPosition qS_X9_yX9_errorPosition qN_X9 qC_yX9_errorPosition (by decide +kernel) ⟨by omega, by omega⟩ (by rfl) hg.ob.2 rfl hl.1 rfl (Nat.le_of_ble_eq_true rfl) dL_law_310 ⟨by omega, by omega⟩ (fun H locs hG => ?_)
  refine lv_aload_n hx hb dL_law_313 rfl (lv_at hl 2 rfl) ?_
  refine g_cVi (As := []) (rest := [.int r]) (n := 0) hx hb hml hown hts hK hlo hG (m_X10_errorPosition l dd cT lo G am  hm1) qM_L_107 qI_yX10_errorPosition qS_X10_yX10_errorPosition qN_X10 qC_yX10_errorPosition (by decide +kernel) ⟨by omega, by omega⟩ (by rfl) ho1 rfl hl.1 rfl (Nat.le_of_ble_eq_true rfl) dL_law_314 ⟨by omega, by omega⟩ (fun H locs hG => ?_)
  refine lv_icmp_eq (tgt := 1783) hx hb dL_law_317 (by decide) (fun _ => ?_) (fun c9 => absurd rfl c9)
  refine W.widen (k := cells + 40) (n := slots + 2000) (by omega) (by omega) ?_
  exact next _ _ _ _ hG hg2 (lv_sub hl [0, 1, 2, 3, 4] rfl)
set_option maxRecDepth 20000 in
set_option maxHeartbeats 4000000 in
theorem lc_size {p : Program} {l : Launch} {e : Env} {R : Room} {s : State} {m : MethodId} {args : Array Value} {below : List Frame} {meth : Method} {c : Code} {H : Heap} {locs : List Loc} {cells slots : Nat} {Q : State → Prop} {ls : Array Slot} {lo : Nat} {dd : va_G} {cT : Nat → ClassId} {G : gH} {b L ax am ao : Nat} {xs : Nat → Int32} (hfl : l.stackTraces = false) (hx : p.tables.exec = Jvm.exec) (hb : c.code = cL_law) (hml : c.maxLocals = 9) (hown : s.vm.findClass RL = some m.cls) (hts : ∀ w ∈ wsL_law, w.before args s = true) (hK : g_K dd cT s) (hlo : lo ≤ s.heap.size) (hX : va_X b L xs s s.heap) (hbl : b < s.heap.size) (hbA : ¬ g_A lo b) (hR : 12 ≤ R.frames ∧ 300 ≤ R.locals) (hf : cells + 40 ≤ R.cells ∧ slots + 2000 ≤ R.slots) (hG : g_S lo dd cT s H locs G) (hg : zGd ax am ao G) {xi : Int32} (hj : ∀ k : Int32, k ∈ ([1, 2, 3, 4, 5] : List Int32) → vp_in (xi + k) L) (hl : lv_has ls 9 [(0, .ref b), (1, .ref ax), (2, .ref am), (3, .ref ao), (4, .int xi)]) (next : ∀ (H1 : Heap) (locs1 : List Loc) (G1 : gH) (ls1 : Array Slot), g_S lo dd cT s H1 locs1 G1 → zGd ax am ao G1 → lv_has ls1 9 [(0, .ref b), (1, .ref ax), (2, .ref am), (3, .ref ao), (4, .int xi)] → W p l e R s m args below meth c H1 locs1 (cells + 40) (slots + 2000) Q (F0 m 1783 ls1 [])) : W p l e R s m args below meth c H locs cells slots Q (F0 m 322 ls []) := by
  refine lv_aload_n hx hb dL_law_322 rfl (lv_at hl 1 rfl) ?_
  refine lv_aload_n hx hb dL_law_323 rfl (lv_at hl 0 rfl) ?_
  refine lv_iload hx hb dL_law_324 (lv_at hl 4 rfl) ?_
  refine lv_iconst (v := (1 : Int32)) hx hb dL_law_326 (by decide) ?_
  refine lv_iadd hx hb dL_law_327 ?_
  refine va_sld hx hb hX hbl hbA hG.2.1 (hj 1 (by simp)) dL_law_328 ?_
  refine lv_aload_n hx hb dL_law_329 rfl (lv_at hl 3 rfl) ?_
  refine g_cHi (As := [.ref ax, .int (xs (xi + (1 : Int32)).toNatClampNeg), .ref ao]) (rest := []) (n := 3) hx hb hml hown hts hK hlo hG (m_L_size l hfl dd cT lo G ax (xs (xi + (1 : Int32)).toNatClampNeg) ao hg.ob.2 (L_size hg (xs (xi + (1 : Int32)).toNatClampNeg))) qM_L_108 qT_yL_size qN_L qC_yL_size (by decide +kernel) ⟨by omega, by omega⟩ rfl hl.1 rfl (Nat.le_of_ble_eq_true rfl) dL_law_330 ⟨by omega, by omega⟩ (fun k G1 H locs h hG => ?_)
  obtain ⟨G2, r, ho1, hm1, hth, hla, hg2⟩ := h
  refine lv_istore (lv' := [(5, .int k), (0, .ref b), (1, .ref ax), (2, .ref am), (3, .ref ao), (4, .int xi)]) hx hb dL_law_333 hl (by decide) rfl (fun ls hl => ?_)
  refine lv_aload_n hx hb dL_law_335 rfl (lv_at hl 3 rfl) ?_
  refine lv_aload_n hx hb dL_law_336 rfl (lv_at hl 1 rfl) ?_
  refine lv_iload hx hb dL_law_337 (lv_at hl 5 rfl) ?_
  refine lv_iconst (v := (1 : Int32)) hx hb dL_law_339 (by decide) ?_
  refine lv_iadd hx hb dL_law_340 ?_
  refine va_sld hx hb hX hbl hbA hG.2.1 (hj 1 (by simp)) dL_law_341 ?_
  refine g_cVi (As := [.int (xs (xi + (1 : Int32)).toNatClampNeg)]) (rest := []) (n := 1) hx hb hml hown hts hK hlo hG (m_X10_size l dd cT lo G1 am (xs (xi + (1 : Int32)).toNatClampNeg) hm1) qM_L_110 qI_yX10_size qS_X10_yX10_size qN_X10 qC_yX10_size (by decide +kernel) ⟨by omega, by omega⟩ (by rfl) ho1 rfl hl.1 rfl (Nat.le_of_ble_eq_true rfl) dL_law_342 ⟨by omega, by omega⟩ (fun H locs hG => ?_)
  refine lv_istore (lv' := [(6, .int r), (5, .int k), (0, .ref b), (1, .ref ax), (2, .ref am), (3, .ref ao), (4, .int xi)]) hx hb dL_law_345 hl (by decide) rfl (fun ls hl => ?_)
  refine lv_aload_n hx hb dL_law_347 rfl (lv_at hl 4 rfl) ?_
  refine g_cVi (As := []) (rest := []) (n := 0) hx hb hml hown hts hK hlo hG (m_X10_thrown l dd cT lo G2 am hth) qM_L_101 qI_yX10_thrown qS_X10_yX10_thrown qN_X10 qC_yX10_thrown (by decide +kernel) ⟨by omega, by omega⟩ (by rfl) hg2.ob.1 rfl hl.1 rfl (Nat.le_of_ble_eq_true rfl) dL_law_348 ⟨by omega, by omega⟩ (fun H locs hG => ?_)
  refine lv_iload hx hb dL_law_351 (lv_at hl 1 rfl) ?_
  refine lv_icmp_eq (tgt := 358) hx hb dL_law_353 (by decide) (fun _ => ?_) (fun c9 => absurd rfl c9)
  refine lv_iload hx hb dL_law_358 (lv_at hl 1 rfl) ?_
  refine lv_if_ne (tgt := 375) hx hb dL_law_360 (by decide) (fun _ => ?_) (fun c9 => ?_)
  · refine lv_goto (tgt := 1783) hx hb dL_law_375 (by decide) ?_
    refine W.widen (k := cells + 40) (n := slots + 2000) (by omega) (by omega) ?_
    exact next _ _ _ _ hG hg2 (lv_sub hl [2, 3, 4, 5, 6] rfl)
  · refine lv_aload_n hx hb dL_law_363 rfl (lv_at hl 5 rfl) ?_
    refine lv_iconst (v := (0 : Int32)) hx hb dL_law_364 (by decide) ?_
    refine g_jald hx hb hK hG (hla c9) dL_law_365 ?_
    refine lv_iload hx hb dL_law_366 (lv_at hl 0 rfl) ?_
    refine lv_i2l hx hb dL_law_368 rfl ?_
    refine W.lcmp hx hb dL_law_369 ?_
    refine lv_if_eq (tgt := 375) hx hb dL_law_370 (by decide) (fun _ => ?_) (fun c8 => absurd ((lg_cmp0 r.toInt64 r.toInt64).mpr rfl) c8)
    refine lv_goto (tgt := 1783) hx hb dL_law_375 (by decide) ?_
    refine W.widen (k := cells + 40) (n := slots + 2000) (by omega) (by omega) ?_
    exact next _ _ _ _ hG hg2 (lv_sub hl [2, 3, 4, 5, 6] rfl)
set_option maxRecDepth 20000 in
set_option maxHeartbeats 4000000 in
theorem lc_find {p : Program} {l : Launch} {e : Env} {R : Room} {s : State} {m : MethodId} {args : Array Value} {below : List Frame} {meth : Method} {c : Code} {H : Heap} {locs : List Loc} {cells slots : Nat} {Q : State → Prop} {ls : Array Slot} {lo : Nat} {dd : va_G} {cT : Nat → ClassId} {G : gH} {b L ax am ao : Nat} {xs : Nat → Int32} (hfl : l.stackTraces = false) (hx : p.tables.exec = Jvm.exec) (hb : c.code = cL_law) (hml : c.maxLocals = 9) (hown : s.vm.findClass RL = some m.cls) (hts : ∀ w ∈ wsL_law, w.before args s = true) (hK : g_K dd cT s) (hlo : lo ≤ s.heap.size) (hX : va_X b L xs s s.heap) (hbl : b < s.heap.size) (hbA : ¬ g_A lo b) (hR : 12 ≤ R.frames ∧ 300 ≤ R.locals) (hf : cells + 40 ≤ R.cells ∧ slots + 2000 ≤ R.slots) (hG : g_S lo dd cT s H locs G) (hg : zGd ax am ao G) {xi : Int32} (hj : ∀ k : Int32, k ∈ ([1, 2, 3, 4, 5] : List Int32) → vp_in (xi + k) L) (hl : lv_has ls 9 [(0, .ref b), (1, .ref ax), (2, .ref am), (3, .ref ao), (4, .int xi)]) (next : ∀ (H1 : Heap) (locs1 : List Loc) (G1 : gH) (ls1 : Array Slot), g_S lo dd cT s H1 locs1 G1 → zGd ax am ao G1 → lv_has ls1 9 [(0, .ref b), (1, .ref ax), (2, .ref am), (3, .ref ao), (4, .int xi)] → W p l e R s m args below meth c H1 locs1 (cells + 40) (slots + 2000) Q (F0 m 1783 ls1 [])) : W p l e R s m args below meth c H locs cells slots Q (F0 m 378 ls []) := by
  refine lv_aload_n hx hb dL_law_378 rfl (lv_at hl 1 rfl) ?_
  obtain ⟨G1, r, G2, hf9, ho1, hm1, hg2⟩ := L_find hg 
  refine g_cVi (As := []) (rest := []) (n := 0) hx hb hml hown hts hK hlo hG (m_X9_find l dd cT lo G ax  hf9) qM_L_111 qI_yX9_find qS_X9_yX9_find qN_X9 qC_yX9_find (by decide +kernel) ⟨by omega, by omega⟩ (by rfl) hg.ob.2 rfl hl.1 rfl (Nat.le_of_ble_eq_true rfl) dL_law_379 ⟨by omega, by omega⟩ (fun H locs hG => ?_)
  refine lv_aload_n hx hb dL_law_382 rfl (lv_at hl 2 rfl) ?_
  refine g_cVi (As := []) (rest := [.int r]) (n := 0) hx hb hml hown hts hK hlo hG (m_X10_find l dd cT lo G1 am  hm1) qM_L_114 qI_yX10_find qS_X10_yX10_find qN_X10 qC_yX10_find (by decide +kernel) ⟨by omega, by omega⟩ (by rfl) ho1 rfl hl.1 rfl (Nat.le_of_ble_eq_true rfl) dL_law_383 ⟨by omega, by omega⟩ (fun H locs hG => ?_)
  refine lv_icmp_eq (tgt := 1783) hx hb dL_law_386 (by decide) (fun _ => ?_) (fun c9 => absurd rfl c9)
  refine W.widen (k := cells + 40) (n := slots + 2000) (by omega) (by omega) ?_
  exact next _ _ _ _ hG hg2 (lv_sub hl [0, 1, 2, 3, 4] rfl)
set_option maxRecDepth 20000 in
set_option maxHeartbeats 4000000 in
theorem lc_block {p : Program} {l : Launch} {e : Env} {R : Room} {s : State} {m : MethodId} {args : Array Value} {below : List Frame} {meth : Method} {c : Code} {H : Heap} {locs : List Loc} {cells slots : Nat} {Q : State → Prop} {ls : Array Slot} {lo : Nat} {dd : va_G} {cT : Nat → ClassId} {G : gH} {b L ax am ao : Nat} {xs : Nat → Int32} (hfl : l.stackTraces = false) (hx : p.tables.exec = Jvm.exec) (hb : c.code = cL_law) (hml : c.maxLocals = 9) (hown : s.vm.findClass RL = some m.cls) (hts : ∀ w ∈ wsL_law, w.before args s = true) (hK : g_K dd cT s) (hlo : lo ≤ s.heap.size) (hX : va_X b L xs s s.heap) (hbl : b < s.heap.size) (hbA : ¬ g_A lo b) (hR : 12 ≤ R.frames ∧ 300 ≤ R.locals) (hf : cells + 40 ≤ R.cells ∧ slots + 2000 ≤ R.slots) (hG : g_S lo dd cT s H locs G) (hg : zGd ax am ao G) {xi : Int32} (hj : ∀ k : Int32, k ∈ ([1, 2, 3, 4, 5] : List Int32) → vp_in (xi + k) L) (hl : lv_has ls 9 [(0, .ref b), (1, .ref ax), (2, .ref am), (3, .ref ao), (4, .int xi)]) (next : ∀ (H1 : Heap) (locs1 : List Loc) (G1 : gH) (ls1 : Array Slot), g_S lo dd cT s H1 locs1 G1 → zGd ax am ao G1 → lv_has ls1 9 [(0, .ref b), (1, .ref ax), (2, .ref am), (3, .ref ao), (4, .int xi)] → W p l e R s m args below meth c H1 locs1 (cells + 40) (slots + 2000) Q (F0 m 1783 ls1 [])) : W p l e R s m args below meth c H locs cells slots Q (F0 m 391 ls []) := by
  refine lv_aload_n hx hb dL_law_391 rfl (lv_at hl 1 rfl) ?_
  refine lv_aload_n hx hb dL_law_392 rfl (lv_at hl 0 rfl) ?_
  refine lv_iload hx hb dL_law_393 (lv_at hl 4 rfl) ?_
  refine lv_iconst (v := (1 : Int32)) hx hb dL_law_395 (by decide) ?_
  refine lv_iadd hx hb dL_law_396 ?_
  refine va_sld hx hb hX hbl hbA hG.2.1 (hj 1 (by simp)) dL_law_397 ?_
  refine lv_aload_n hx hb dL_law_398 rfl (lv_at hl 0 rfl) ?_
  refine lv_iload hx hb dL_law_399 (lv_at hl 4 rfl) ?_
  refine lv_iconst (v := (2 : Int32)) hx hb dL_law_401 (by decide) ?_
  refine lv_iadd hx hb dL_law_402 ?_
  refine va_sld hx hb hX hbl hbA hG.2.1 (hj 2 (by simp)) dL_law_403 ?_
  refine lv_aload_n hx hb dL_law_404 rfl (lv_at hl 3 rfl) ?_
  refine g_cHi (As := [.ref ax, .int (xs (xi + (1 : Int32)).toNatClampNeg), .int (xs (xi + (2 : Int32)).toNatClampNeg), .ref ao]) (rest := []) (n := 4) hx hb hml hown hts hK hlo hG (m_L_block l hfl dd cT lo G ax (xs (xi + (1 : Int32)).toNatClampNeg) (xs (xi + (2 : Int32)).toNatClampNeg) ao hg.ob.2 (L_block hg (xs (xi + (1 : Int32)).toNatClampNeg) (xs (xi + (2 : Int32)).toNatClampNeg))) qM_L_115 qT_yL_block qN_L qC_yL_block (by decide +kernel) ⟨by omega, by omega⟩ rfl hl.1 rfl (Nat.le_of_ble_eq_true rfl) dL_law_405 ⟨by omega, by omega⟩ (fun k G1 H locs h hG => ?_)
  obtain ⟨G2, r, ho1, hm1, hth, hla, hg2⟩ := h
  refine lv_istore (lv' := [(5, .int k), (0, .ref b), (1, .ref ax), (2, .ref am), (3, .ref ao), (4, .int xi)]) hx hb dL_law_408 hl (by decide) rfl (fun ls hl => ?_)
  refine lv_aload_n hx hb dL_law_410 rfl (lv_at hl 3 rfl) ?_
  refine lv_aload_n hx hb dL_law_411 rfl (lv_at hl 1 rfl) ?_
  refine lv_iload hx hb dL_law_412 (lv_at hl 5 rfl) ?_
  refine lv_iconst (v := (1 : Int32)) hx hb dL_law_414 (by decide) ?_
  refine lv_iadd hx hb dL_law_415 ?_
  refine va_sld hx hb hX hbl hbA hG.2.1 (hj 1 (by simp)) dL_law_416 ?_
  refine lv_aload_n hx hb dL_law_417 rfl (lv_at hl 1 rfl) ?_
  refine lv_iload hx hb dL_law_418 (lv_at hl 5 rfl) ?_
  refine lv_iconst (v := (2 : Int32)) hx hb dL_law_420 (by decide) ?_
  refine lv_iadd hx hb dL_law_421 ?_
  refine va_sld hx hb hX hbl hbA hG.2.1 (hj 2 (by simp)) dL_law_422 ?_
  refine g_cVi (As := [.int (xs (xi + (1 : Int32)).toNatClampNeg), .int (xs (xi + (2 : Int32)).toNatClampNeg)]) (rest := []) (n := 2) hx hb hml hown hts hK hlo hG (m_X10_block l dd cT lo G1 am (xs (xi + (1 : Int32)).toNatClampNeg) (xs (xi + (2 : Int32)).toNatClampNeg) hm1) qM_L_118 qI_yX10_block qS_X10_yX10_block qN_X10 qC_yX10_block (by decide +kernel) ⟨by omega, by omega⟩ (by rfl) ho1 rfl hl.1 rfl (Nat.le_of_ble_eq_true rfl) dL_law_423 ⟨by omega, by omega⟩ (fun H locs hG => ?_)
  refine lv_istore (lv' := [(6, .int r), (5, .int k), (0, .ref b), (1, .ref ax), (2, .ref am), (3, .ref ao), (4, .int xi)]) hx hb dL_law_426 hl (by decide) rfl (fun ls hl => ?_)
  refine lv_aload_n hx hb dL_law_428 rfl (lv_at hl 4 rfl) ?_
  refine g_cVi (As := []) (rest := []) (n := 0) hx hb hml hown hts hK hlo hG (m_X10_thrown l dd cT lo G2 am hth) qM_L_101 qI_yX10_thrown qS_X10_yX10_thrown qN_X10 qC_yX10_thrown (by decide +kernel) ⟨by omega, by omega⟩ (by rfl) hg2.ob.1 rfl hl.1 rfl (Nat.le_of_ble_eq_true rfl) dL_law_429 ⟨by omega, by omega⟩ (fun H locs hG => ?_)
  refine lv_iload hx hb dL_law_432 (lv_at hl 1 rfl) ?_
  refine lv_icmp_eq (tgt := 439) hx hb dL_law_434 (by decide) (fun _ => ?_) (fun c9 => absurd rfl c9)
  refine lv_iload hx hb dL_law_439 (lv_at hl 1 rfl) ?_
  refine lv_if_ne (tgt := 456) hx hb dL_law_441 (by decide) (fun _ => ?_) (fun c9 => ?_)
  · refine lv_goto (tgt := 1783) hx hb dL_law_456 (by decide) ?_
    refine W.widen (k := cells + 40) (n := slots + 2000) (by omega) (by omega) ?_
    exact next _ _ _ _ hG hg2 (lv_sub hl [2, 3, 4, 5, 6] rfl)
  · refine lv_aload_n hx hb dL_law_444 rfl (lv_at hl 5 rfl) ?_
    refine lv_iconst (v := (0 : Int32)) hx hb dL_law_445 (by decide) ?_
    refine g_jald hx hb hK hG (hla c9) dL_law_446 ?_
    refine lv_iload hx hb dL_law_447 (lv_at hl 0 rfl) ?_
    refine lv_i2l hx hb dL_law_449 rfl ?_
    refine W.lcmp hx hb dL_law_450 ?_
    refine lv_if_eq (tgt := 456) hx hb dL_law_451 (by decide) (fun _ => ?_) (fun c8 => absurd ((lg_cmp0 r.toInt64 r.toInt64).mpr rfl) c8)
    refine lv_goto (tgt := 1783) hx hb dL_law_456 (by decide) ?_
    refine W.widen (k := cells + 40) (n := slots + 2000) (by omega) (by omega) ?_
    exact next _ _ _ _ hG hg2 (lv_sub hl [2, 3, 4, 5, 6] rfl)
set_option maxRecDepth 20000 in
set_option maxHeartbeats 4000000 in
theorem lc_place {p : Program} {l : Launch} {e : Env} {R : Room} {s : State} {m : MethodId} {args : Array Value} {below : List Frame} {meth : Method} {c : Code} {H : Heap} {locs : List Loc} {cells slots : Nat} {Q : State → Prop} {ls : Array Slot} {lo : Nat} {dd : va_G} {cT : Nat → ClassId} {G : gH} {b L ax am ao : Nat} {xs : Nat → Int32} (hfl : l.stackTraces = false) (hx : p.tables.exec = Jvm.exec) (hb : c.code = cL_law) (hml : c.maxLocals = 9) (hown : s.vm.findClass RL = some m.cls) (hts : ∀ w ∈ wsL_law, w.before args s = true) (hK : g_K dd cT s) (hlo : lo ≤ s.heap.size) (hX : va_X b L xs s s.heap) (hbl : b < s.heap.size) (hbA : ¬ g_A lo b) (hR : 12 ≤ R.frames ∧ 300 ≤ R.locals) (hf : cells + 40 ≤ R.cells ∧ slots + 2000 ≤ R.slots) (hG : g_S lo dd cT s H locs G) (hg : zGd ax am ao G) {xi : Int32} (hj : ∀ k : Int32, k ∈ ([1, 2, 3, 4, 5] : List Int32) → vp_in (xi + k) L) (hl : lv_has ls 9 [(0, .ref b), (1, .ref ax), (2, .ref am), (3, .ref ao), (4, .int xi)]) (next : ∀ (H1 : Heap) (locs1 : List Loc) (G1 : gH) (ls1 : Array Slot), g_S lo dd cT s H1 locs1 G1 → zGd ax am ao G1 → lv_has ls1 9 [(0, .ref b), (1, .ref ax), (2, .ref am), (3, .ref ao), (4, .int xi)] → W p l e R s m args below meth c H1 locs1 (cells + 40) (slots + 2000) Q (F0 m 1783 ls1 [])) : W p l e R s m args below meth c H locs cells slots Q (F0 m 459 ls []) := by
  refine lv_aload_n hx hb dL_law_459 rfl (lv_at hl 1 rfl) ?_
  refine lv_aload_n hx hb dL_law_460 rfl (lv_at hl 0 rfl) ?_
  refine lv_iload hx hb dL_law_461 (lv_at hl 4 rfl) ?_
  refine lv_iconst (v := (1 : Int32)) hx hb dL_law_463 (by decide) ?_
  refine lv_iadd hx hb dL_law_464 ?_
  refine va_sld hx hb hX hbl hbA hG.2.1 (hj 1 (by simp)) dL_law_465 ?_
  refine lv_aload_n hx hb dL_law_466 rfl (lv_at hl 3 rfl) ?_
  refine g_cHi (As := [.ref ax, .int (xs (xi + (1 : Int32)).toNatClampNeg), .ref ao]) (rest := []) (n := 3) hx hb hml hown hts hK hlo hG (m_L_place l hfl dd cT lo G ax (xs (xi + (1 : Int32)).toNatClampNeg) ao hg.ob.2 (L_place hg (xs (xi + (1 : Int32)).toNatClampNeg))) qM_L_119 qT_yL_place qN_L qC_yL_place (by decide +kernel) ⟨by omega, by omega⟩ rfl hl.1 rfl (Nat.le_of_ble_eq_true rfl) dL_law_467 ⟨by omega, by omega⟩ (fun k G1 H locs h hG => ?_)
  obtain ⟨G2, r, ho1, hm1, hth, hla, hg2⟩ := h
  refine lv_istore (lv' := [(5, .int k), (0, .ref b), (1, .ref ax), (2, .ref am), (3, .ref ao), (4, .int xi)]) hx hb dL_law_470 hl (by decide) rfl (fun ls hl => ?_)
  refine lv_aload_n hx hb dL_law_472 rfl (lv_at hl 3 rfl) ?_
  refine lv_aload_n hx hb dL_law_473 rfl (lv_at hl 1 rfl) ?_
  refine lv_iload hx hb dL_law_474 (lv_at hl 5 rfl) ?_
  refine lv_iconst (v := (1 : Int32)) hx hb dL_law_476 (by decide) ?_
  refine lv_iadd hx hb dL_law_477 ?_
  refine va_sld hx hb hX hbl hbA hG.2.1 (hj 1 (by simp)) dL_law_478 ?_
  refine g_cVi (As := [.int (xs (xi + (1 : Int32)).toNatClampNeg)]) (rest := []) (n := 1) hx hb hml hown hts hK hlo hG (m_X10_place l dd cT lo G1 am (xs (xi + (1 : Int32)).toNatClampNeg) hm1) qM_L_121 qI_yX10_place qS_X10_yX10_place qN_X10 qC_yX10_place (by decide +kernel) ⟨by omega, by omega⟩ (by rfl) ho1 rfl hl.1 rfl (Nat.le_of_ble_eq_true rfl) dL_law_479 ⟨by omega, by omega⟩ (fun H locs hG => ?_)
  refine lv_istore (lv' := [(6, .int r), (5, .int k), (0, .ref b), (1, .ref ax), (2, .ref am), (3, .ref ao), (4, .int xi)]) hx hb dL_law_482 hl (by decide) rfl (fun ls hl => ?_)
  refine lv_aload_n hx hb dL_law_484 rfl (lv_at hl 4 rfl) ?_
  refine g_cVi (As := []) (rest := []) (n := 0) hx hb hml hown hts hK hlo hG (m_X10_thrown l dd cT lo G2 am hth) qM_L_101 qI_yX10_thrown qS_X10_yX10_thrown qN_X10 qC_yX10_thrown (by decide +kernel) ⟨by omega, by omega⟩ (by rfl) hg2.ob.1 rfl hl.1 rfl (Nat.le_of_ble_eq_true rfl) dL_law_485 ⟨by omega, by omega⟩ (fun H locs hG => ?_)
  refine lv_iload hx hb dL_law_488 (lv_at hl 1 rfl) ?_
  refine lv_icmp_eq (tgt := 495) hx hb dL_law_490 (by decide) (fun _ => ?_) (fun c9 => absurd rfl c9)
  refine lv_iload hx hb dL_law_495 (lv_at hl 1 rfl) ?_
  refine lv_if_ne (tgt := 512) hx hb dL_law_497 (by decide) (fun _ => ?_) (fun c9 => ?_)
  · refine lv_goto (tgt := 1783) hx hb dL_law_512 (by decide) ?_
    refine W.widen (k := cells + 40) (n := slots + 2000) (by omega) (by omega) ?_
    exact next _ _ _ _ hG hg2 (lv_sub hl [2, 3, 4, 5, 6] rfl)
  · refine lv_aload_n hx hb dL_law_500 rfl (lv_at hl 5 rfl) ?_
    refine lv_iconst (v := (0 : Int32)) hx hb dL_law_501 (by decide) ?_
    refine g_jald hx hb hK hG (hla c9) dL_law_502 ?_
    refine lv_iload hx hb dL_law_503 (lv_at hl 0 rfl) ?_
    refine lv_i2l hx hb dL_law_505 rfl ?_
    refine W.lcmp hx hb dL_law_506 ?_
    refine lv_if_eq (tgt := 512) hx hb dL_law_507 (by decide) (fun _ => ?_) (fun c8 => absurd ((lg_cmp0 r.toInt64 r.toInt64).mpr rfl) c8)
    refine lv_goto (tgt := 1783) hx hb dL_law_512 (by decide) ?_
    refine W.widen (k := cells + 40) (n := slots + 2000) (by omega) (by omega) ?_
    exact next _ _ _ _ hG hg2 (lv_sub hl [2, 3, 4, 5, 6] rfl)
set_option maxRecDepth 20000 in
set_option maxHeartbeats 4000000 in
theorem lc_session {p : Program} {l : Launch} {e : Env} {R : Room} {s : State} {m : MethodId} {args : Array Value} {below : List Frame} {meth : Method} {c : Code} {H : Heap} {locs : List Loc} {cells slots : Nat} {Q : State → Prop} {ls : Array Slot} {lo : Nat} {dd : va_G} {cT : Nat → ClassId} {G : gH} {b L ax am ao : Nat} {xs : Nat → Int32} (hfl : l.stackTraces = false) (hx : p.tables.exec = Jvm.exec) (hb : c.code = cL_law) (hml : c.maxLocals = 9) (hown : s.vm.findClass RL = some m.cls) (hts : ∀ w ∈ wsL_law, w.before args s = true) (hK : g_K dd cT s) (hlo : lo ≤ s.heap.size) (hX : va_X b L xs s s.heap) (hbl : b < s.heap.size) (hbA : ¬ g_A lo b) (hR : 12 ≤ R.frames ∧ 300 ≤ R.locals) (hf : cells + 40 ≤ R.cells ∧ slots + 2000 ≤ R.slots) (hG : g_S lo dd cT s H locs G) (hg : zGd ax am ao G) {xi : Int32} (hj : ∀ k : Int32, k ∈ ([1, 2, 3, 4, 5] : List Int32) → vp_in (xi + k) L) (hl : lv_has ls 9 [(0, .ref b), (1, .ref ax), (2, .ref am), (3, .ref ao), (4, .int xi)]) (next : ∀ (H1 : Heap) (locs1 : List Loc) (G1 : gH) (ls1 : Array Slot), g_S lo dd cT s H1 locs1 G1 → zGd ax am ao G1 → lv_has ls1 9 [(0, .ref b), (1, .ref ax), (2, .ref am), (3, .ref ao), (4, .int xi)] → W p l e R s m args below meth c H1 locs1 (cells + 40) (slots + 2000) Q (F0 m 1783 ls1 [])) : W p l e R s m args below meth c H locs cells slots Q (F0 m 515 ls []) := by
  refine lv_aload_n hx hb dL_law_515 rfl (lv_at hl 1 rfl) ?_
  refine lv_aload_n hx hb dL_law_516 rfl (lv_at hl 0 rfl) ?_
  refine lv_iload hx hb dL_law_517 (lv_at hl 4 rfl) ?_
  refine lv_iconst (v := (1 : Int32)) hx hb dL_law_519 (by decide) ?_
  refine lv_iadd hx hb dL_law_520 ?_
  refine va_sld hx hb hX hbl hbA hG.2.1 (hj 1 (by simp)) dL_law_521 ?_
  refine lv_aload_n hx hb dL_law_522 rfl (lv_at hl 0 rfl) ?_
  refine lv_iload hx hb dL_law_523 (lv_at hl 4 rfl) ?_
  refine lv_iconst (v := (2 : Int32)) hx hb dL_law_525 (by decide) ?_
  refine lv_iadd hx hb dL_law_526 ?_
  refine va_sld hx hb hX hbl hbA hG.2.1 (hj 2 (by simp)) dL_law_527 ?_
  refine lv_aload_n hx hb dL_law_528 rfl (lv_at hl 3 rfl) ?_
  refine g_cHi (As := [.ref ax, .int (xs (xi + (1 : Int32)).toNatClampNeg), .int (xs (xi + (2 : Int32)).toNatClampNeg), .ref ao]) (rest := []) (n := 4) hx hb hml hown hts hK hlo hG (m_L_session l hfl dd cT lo G ax (xs (xi + (1 : Int32)).toNatClampNeg) (xs (xi + (2 : Int32)).toNatClampNeg) ao hg.ob.2 (L_session hg (xs (xi + (1 : Int32)).toNatClampNeg) (xs (xi + (2 : Int32)).toNatClampNeg))) qM_L_122 qT_yL_session qN_L qC_yL_session (by decide +kernel) ⟨by omega, by omega⟩ rfl hl.1 rfl (Nat.le_of_ble_eq_true rfl) dL_law_529 ⟨by omega, by omega⟩ (fun k G1 H locs h hG => ?_)
  obtain ⟨G2, r, ho1, hm1, hth, hla, hg2⟩ := h
  refine lv_istore (lv' := [(5, .int k), (0, .ref b), (1, .ref ax), (2, .ref am), (3, .ref ao), (4, .int xi)]) hx hb dL_law_532 hl (by decide) rfl (fun ls hl => ?_)
  refine lv_aload_n hx hb dL_law_534 rfl (lv_at hl 3 rfl) ?_
  refine lv_aload_n hx hb dL_law_535 rfl (lv_at hl 1 rfl) ?_
  refine lv_iload hx hb dL_law_536 (lv_at hl 5 rfl) ?_
  refine lv_iconst (v := (1 : Int32)) hx hb dL_law_538 (by decide) ?_
  refine lv_iadd hx hb dL_law_539 ?_
  refine va_sld hx hb hX hbl hbA hG.2.1 (hj 1 (by simp)) dL_law_540 ?_
  refine lv_aload_n hx hb dL_law_541 rfl (lv_at hl 1 rfl) ?_
  refine lv_iload hx hb dL_law_542 (lv_at hl 5 rfl) ?_
  refine lv_iconst (v := (2 : Int32)) hx hb dL_law_544 (by decide) ?_
  refine lv_iadd hx hb dL_law_545 ?_
  refine va_sld hx hb hX hbl hbA hG.2.1 (hj 2 (by simp)) dL_law_546 ?_
  refine g_cVi (As := [.int (xs (xi + (1 : Int32)).toNatClampNeg), .int (xs (xi + (2 : Int32)).toNatClampNeg)]) (rest := []) (n := 2) hx hb hml hown hts hK hlo hG (m_X10_session l dd cT lo G1 am (xs (xi + (1 : Int32)).toNatClampNeg) (xs (xi + (2 : Int32)).toNatClampNeg) hm1) qM_L_124 qI_yX10_session qS_X10_yX10_session qN_X10 qC_yX10_session (by decide +kernel) ⟨by omega, by omega⟩ (by rfl) ho1 rfl hl.1 rfl (Nat.le_of_ble_eq_true rfl) dL_law_547 ⟨by omega, by omega⟩ (fun H locs hG => ?_)
  refine lv_istore (lv' := [(6, .int r), (5, .int k), (0, .ref b), (1, .ref ax), (2, .ref am), (3, .ref ao), (4, .int xi)]) hx hb dL_law_550 hl (by decide) rfl (fun ls hl => ?_)
  refine lv_aload_n hx hb dL_law_552 rfl (lv_at hl 4 rfl) ?_
  refine g_cVi (As := []) (rest := []) (n := 0) hx hb hml hown hts hK hlo hG (m_X10_thrown l dd cT lo G2 am hth) qM_L_101 qI_yX10_thrown qS_X10_yX10_thrown qN_X10 qC_yX10_thrown (by decide +kernel) ⟨by omega, by omega⟩ (by rfl) hg2.ob.1 rfl hl.1 rfl (Nat.le_of_ble_eq_true rfl) dL_law_553 ⟨by omega, by omega⟩ (fun H locs hG => ?_)
  refine lv_iload hx hb dL_law_556 (lv_at hl 1 rfl) ?_
  refine lv_icmp_eq (tgt := 563) hx hb dL_law_558 (by decide) (fun _ => ?_) (fun c9 => absurd rfl c9)
  refine lv_iload hx hb dL_law_563 (lv_at hl 1 rfl) ?_
  refine lv_if_ne (tgt := 580) hx hb dL_law_565 (by decide) (fun _ => ?_) (fun c9 => ?_)
  · refine lv_goto (tgt := 1783) hx hb dL_law_580 (by decide) ?_
    refine W.widen (k := cells + 40) (n := slots + 2000) (by omega) (by omega) ?_
    exact next _ _ _ _ hG hg2 (lv_sub hl [2, 3, 4, 5, 6] rfl)
  · refine lv_aload_n hx hb dL_law_568 rfl (lv_at hl 5 rfl) ?_
    refine lv_iconst (v := (0 : Int32)) hx hb dL_law_569 (by decide) ?_
    refine g_jald hx hb hK hG (hla c9) dL_law_570 ?_
    refine lv_iload hx hb dL_law_571 (lv_at hl 0 rfl) ?_
    refine lv_i2l hx hb dL_law_573 rfl ?_
    refine W.lcmp hx hb dL_law_574 ?_
    refine lv_if_eq (tgt := 580) hx hb dL_law_575 (by decide) (fun _ => ?_) (fun c8 => absurd ((lg_cmp0 r.toInt64 r.toInt64).mpr rfl) c8)
    refine lv_goto (tgt := 1783) hx hb dL_law_580 (by decide) ?_
    refine W.widen (k := cells + 40) (n := slots + 2000) (by omega) (by omega) ?_
    exact next _ _ _ _ hG hg2 (lv_sub hl [2, 3, 4, 5, 6] rfl)
set_option maxRecDepth 20000 in
set_option maxHeartbeats 4000000 in
theorem lc_entry {p : Program} {l : Launch} {e : Env} {R : Room} {s : State} {m : MethodId} {args : Array Value} {below : List Frame} {meth : Method} {c : Code} {H : Heap} {locs : List Loc} {cells slots : Nat} {Q : State → Prop} {ls : Array Slot} {lo : Nat} {dd : va_G} {cT : Nat → ClassId} {G : gH} {b L ax am ao : Nat} {xs : Nat → Int32} (hfl : l.stackTraces = false) (hx : p.tables.exec = Jvm.exec) (hb : c.code = cL_law) (hml : c.maxLocals = 9) (hown : s.vm.findClass RL = some m.cls) (hts : ∀ w ∈ wsL_law, w.before args s = true) (hK : g_K dd cT s) (hlo : lo ≤ s.heap.size) (hX : va_X b L xs s s.heap) (hbl : b < s.heap.size) (hbA : ¬ g_A lo b) (hR : 12 ≤ R.frames ∧ 300 ≤ R.locals) (hf : cells + 40 ≤ R.cells ∧ slots + 2000 ≤ R.slots) (hG : g_S lo dd cT s H locs G) (hg : zGd ax am ao G) {xi : Int32} (hj : ∀ k : Int32, k ∈ ([1, 2, 3, 4, 5] : List Int32) → vp_in (xi + k) L) (hl : lv_has ls 9 [(0, .ref b), (1, .ref ax), (2, .ref am), (3, .ref ao), (4, .int xi)]) (next : ∀ (H1 : Heap) (locs1 : List Loc) (G1 : gH) (ls1 : Array Slot), g_S lo dd cT s H1 locs1 G1 → zGd ax am ao G1 → lv_has ls1 9 [(0, .ref b), (1, .ref ax), (2, .ref am), (3, .ref ao), (4, .int xi)] → W p l e R s m args below meth c H1 locs1 (cells + 40) (slots + 2000) Q (F0 m 1783 ls1 [])) : W p l e R s m args below meth c H locs cells slots Q (F0 m 583 ls []) := by
  refine lv_aload_n hx hb dL_law_583 rfl (lv_at hl 1 rfl) ?_
  refine lv_aload_n hx hb dL_law_584 rfl (lv_at hl 0 rfl) ?_
  refine lv_iload hx hb dL_law_585 (lv_at hl 4 rfl) ?_
  refine lv_iconst (v := (1 : Int32)) hx hb dL_law_587 (by decide) ?_
  refine lv_iadd hx hb dL_law_588 ?_
  refine va_sld hx hb hX hbl hbA hG.2.1 (hj 1 (by simp)) dL_law_589 ?_
  refine lv_aload_n hx hb dL_law_590 rfl (lv_at hl 0 rfl) ?_
  refine lv_iload hx hb dL_law_591 (lv_at hl 4 rfl) ?_
  refine lv_iconst (v := (2 : Int32)) hx hb dL_law_593 (by decide) ?_
  refine lv_iadd hx hb dL_law_594 ?_
  refine va_sld hx hb hX hbl hbA hG.2.1 (hj 2 (by simp)) dL_law_595 ?_
  refine lv_aload_n hx hb dL_law_596 rfl (lv_at hl 0 rfl) ?_
  refine lv_iload hx hb dL_law_597 (lv_at hl 4 rfl) ?_
  refine lv_iconst (v := (3 : Int32)) hx hb dL_law_599 (by decide) ?_
  refine lv_iadd hx hb dL_law_600 ?_
  refine va_sld hx hb hX hbl hbA hG.2.1 (hj 3 (by simp)) dL_law_601 ?_
  refine lv_aload_n hx hb dL_law_602 rfl (lv_at hl 3 rfl) ?_
  refine g_cHi (As := [.ref ax, .int (xs (xi + (1 : Int32)).toNatClampNeg), .int (xs (xi + (2 : Int32)).toNatClampNeg), .int (xs (xi + (3 : Int32)).toNatClampNeg), .ref ao]) (rest := []) (n := 5) hx hb hml hown hts hK hlo hG (m_L_entry l hfl dd cT lo G ax (xs (xi + (1 : Int32)).toNatClampNeg) (xs (xi + (2 : Int32)).toNatClampNeg) (xs (xi + (3 : Int32)).toNatClampNeg) ao hg.ob.2 (L_entry hg (xs (xi + (1 : Int32)).toNatClampNeg) (xs (xi + (2 : Int32)).toNatClampNeg) (xs (xi + (3 : Int32)).toNatClampNeg))) qM_L_125 qT_yL_entry qN_L qC_yL_entry (by decide +kernel) ⟨by omega, by omega⟩ rfl hl.1 rfl (Nat.le_of_ble_eq_true rfl) dL_law_603 ⟨by omega, by omega⟩ (fun k G1 H locs h hG => ?_)
  obtain ⟨G2, r, ho1, hm1, hth, hla, hg2⟩ := h
  refine lv_istore (lv' := [(5, .int k), (0, .ref b), (1, .ref ax), (2, .ref am), (3, .ref ao), (4, .int xi)]) hx hb dL_law_606 hl (by decide) rfl (fun ls hl => ?_)
  refine lv_aload_n hx hb dL_law_608 rfl (lv_at hl 3 rfl) ?_
  refine lv_aload_n hx hb dL_law_609 rfl (lv_at hl 1 rfl) ?_
  refine lv_iload hx hb dL_law_610 (lv_at hl 5 rfl) ?_
  refine lv_iconst (v := (1 : Int32)) hx hb dL_law_612 (by decide) ?_
  refine lv_iadd hx hb dL_law_613 ?_
  refine va_sld hx hb hX hbl hbA hG.2.1 (hj 1 (by simp)) dL_law_614 ?_
  refine lv_aload_n hx hb dL_law_615 rfl (lv_at hl 1 rfl) ?_
  refine lv_iload hx hb dL_law_616 (lv_at hl 5 rfl) ?_
  refine lv_iconst (v := (2 : Int32)) hx hb dL_law_618 (by decide) ?_
  refine lv_iadd hx hb dL_law_619 ?_
  refine va_sld hx hb hX hbl hbA hG.2.1 (hj 2 (by simp)) dL_law_620 ?_
  refine lv_aload_n hx hb dL_law_621 rfl (lv_at hl 1 rfl) ?_
  refine lv_iload hx hb dL_law_622 (lv_at hl 5 rfl) ?_
  refine lv_iconst (v := (3 : Int32)) hx hb dL_law_624 (by decide) ?_
  refine lv_iadd hx hb dL_law_625 ?_
  refine va_sld hx hb hX hbl hbA hG.2.1 (hj 3 (by simp)) dL_law_626 ?_
  refine g_cVi (As := [.int (xs (xi + (1 : Int32)).toNatClampNeg), .int (xs (xi + (2 : Int32)).toNatClampNeg), .int (xs (xi + (3 : Int32)).toNatClampNeg)]) (rest := []) (n := 3) hx hb hml hown hts hK hlo hG (m_X10_entry l dd cT lo G1 am (xs (xi + (1 : Int32)).toNatClampNeg) (xs (xi + (2 : Int32)).toNatClampNeg) (xs (xi + (3 : Int32)).toNatClampNeg) hm1) qM_L_128 qI_yX10_entry qS_X10_yX10_entry qN_X10 qC_yX10_entry (by decide +kernel) ⟨by omega, by omega⟩ (by rfl) ho1 rfl hl.1 rfl (Nat.le_of_ble_eq_true rfl) dL_law_627 ⟨by omega, by omega⟩ (fun H locs hG => ?_)
  refine lv_istore (lv' := [(6, .int r), (5, .int k), (0, .ref b), (1, .ref ax), (2, .ref am), (3, .ref ao), (4, .int xi)]) hx hb dL_law_630 hl (by decide) rfl (fun ls hl => ?_)
  refine lv_aload_n hx hb dL_law_632 rfl (lv_at hl 4 rfl) ?_
  refine g_cVi (As := []) (rest := []) (n := 0) hx hb hml hown hts hK hlo hG (m_X10_thrown l dd cT lo G2 am hth) qM_L_101 qI_yX10_thrown qS_X10_yX10_thrown qN_X10 qC_yX10_thrown (by decide +kernel) ⟨by omega, by omega⟩ (by rfl) hg2.ob.1 rfl hl.1 rfl (Nat.le_of_ble_eq_true rfl) dL_law_633 ⟨by omega, by omega⟩ (fun H locs hG => ?_)
  refine lv_iload hx hb dL_law_636 (lv_at hl 1 rfl) ?_
  refine lv_icmp_eq (tgt := 643) hx hb dL_law_638 (by decide) (fun _ => ?_) (fun c9 => absurd rfl c9)
  refine lv_iload hx hb dL_law_643 (lv_at hl 1 rfl) ?_
  refine lv_if_ne (tgt := 660) hx hb dL_law_645 (by decide) (fun _ => ?_) (fun c9 => ?_)
  · refine lv_goto (tgt := 1783) hx hb dL_law_660 (by decide) ?_
    refine W.widen (k := cells + 40) (n := slots + 2000) (by omega) (by omega) ?_
    exact next _ _ _ _ hG hg2 (lv_sub hl [2, 3, 4, 5, 6] rfl)
  · refine lv_aload_n hx hb dL_law_648 rfl (lv_at hl 5 rfl) ?_
    refine lv_iconst (v := (0 : Int32)) hx hb dL_law_649 (by decide) ?_
    refine g_jald hx hb hK hG (hla c9) dL_law_650 ?_
    refine lv_iload hx hb dL_law_651 (lv_at hl 0 rfl) ?_
    refine lv_i2l hx hb dL_law_653 rfl ?_
    refine W.lcmp hx hb dL_law_654 ?_
    refine lv_if_eq (tgt := 660) hx hb dL_law_655 (by decide) (fun _ => ?_) (fun c8 => absurd ((lg_cmp0 r.toInt64 r.toInt64).mpr rfl) c8)
    refine lv_goto (tgt := 1783) hx hb dL_law_660 (by decide) ?_
    refine W.widen (k := cells + 40) (n := slots + 2000) (by omega) (by omega) ?_
    exact next _ _ _ _ hG hg2 (lv_sub hl [2, 3, 4, 5, 6] rfl)
set_option maxRecDepth 20000 in
set_option maxHeartbeats 4000000 in
theorem lc_file {p : Program} {l : Launch} {e : Env} {R : Room} {s : State} {m : MethodId} {args : Array Value} {below : List Frame} {meth : Method} {c : Code} {H : Heap} {locs : List Loc} {cells slots : Nat} {Q : State → Prop} {ls : Array Slot} {lo : Nat} {dd : va_G} {cT : Nat → ClassId} {G : gH} {b L ax am ao : Nat} {xs : Nat → Int32} (hfl : l.stackTraces = false) (hx : p.tables.exec = Jvm.exec) (hb : c.code = cL_law) (hml : c.maxLocals = 9) (hown : s.vm.findClass RL = some m.cls) (hts : ∀ w ∈ wsL_law, w.before args s = true) (hK : g_K dd cT s) (hlo : lo ≤ s.heap.size) (hX : va_X b L xs s s.heap) (hbl : b < s.heap.size) (hbA : ¬ g_A lo b) (hR : 12 ≤ R.frames ∧ 300 ≤ R.locals) (hf : cells + 40 ≤ R.cells ∧ slots + 2000 ≤ R.slots) (hG : g_S lo dd cT s H locs G) (hg : zGd ax am ao G) {xi : Int32} (hj : ∀ k : Int32, k ∈ ([1, 2, 3, 4, 5] : List Int32) → vp_in (xi + k) L) (hl : lv_has ls 9 [(0, .ref b), (1, .ref ax), (2, .ref am), (3, .ref ao), (4, .int xi)]) (next : ∀ (H1 : Heap) (locs1 : List Loc) (G1 : gH) (ls1 : Array Slot), g_S lo dd cT s H1 locs1 G1 → zGd ax am ao G1 → lv_has ls1 9 [(0, .ref b), (1, .ref ax), (2, .ref am), (3, .ref ao), (4, .int xi)] → W p l e R s m args below meth c H1 locs1 (cells + 40) (slots + 2000) Q (F0 m 1783 ls1 [])) : W p l e R s m args below meth c H locs cells slots Q (F0 m 663 ls []) := by
  refine lv_aload_n hx hb dL_law_663 rfl (lv_at hl 1 rfl) ?_
  refine lv_aload_n hx hb dL_law_664 rfl (lv_at hl 0 rfl) ?_
  refine lv_iload hx hb dL_law_665 (lv_at hl 4 rfl) ?_
  refine lv_iconst (v := (1 : Int32)) hx hb dL_law_667 (by decide) ?_
  refine lv_iadd hx hb dL_law_668 ?_
  refine va_sld hx hb hX hbl hbA hG.2.1 (hj 1 (by simp)) dL_law_669 ?_
  refine lv_aload_n hx hb dL_law_670 rfl (lv_at hl 0 rfl) ?_
  refine lv_iload hx hb dL_law_671 (lv_at hl 4 rfl) ?_
  refine lv_iconst (v := (2 : Int32)) hx hb dL_law_673 (by decide) ?_
  refine lv_iadd hx hb dL_law_674 ?_
  refine va_sld hx hb hX hbl hbA hG.2.1 (hj 2 (by simp)) dL_law_675 ?_
  refine lv_aload_n hx hb dL_law_676 rfl (lv_at hl 3 rfl) ?_
  refine g_cHi (As := [.ref ax, .int (xs (xi + (1 : Int32)).toNatClampNeg), .int (xs (xi + (2 : Int32)).toNatClampNeg), .ref ao]) (rest := []) (n := 4) hx hb hml hown hts hK hlo hG (m_L_file l hfl dd cT lo G ax (xs (xi + (1 : Int32)).toNatClampNeg) (xs (xi + (2 : Int32)).toNatClampNeg) ao hg.ob.2 (L_file hg (xs (xi + (1 : Int32)).toNatClampNeg) (xs (xi + (2 : Int32)).toNatClampNeg))) qM_L_129 qT_yL_file qN_L qC_yL_file (by decide +kernel) ⟨by omega, by omega⟩ rfl hl.1 rfl (Nat.le_of_ble_eq_true rfl) dL_law_677 ⟨by omega, by omega⟩ (fun k G1 H locs h hG => ?_)
  obtain ⟨G2, r, ho1, hm1, hth, hla, hg2⟩ := h
  refine lv_istore (lv' := [(5, .int k), (0, .ref b), (1, .ref ax), (2, .ref am), (3, .ref ao), (4, .int xi)]) hx hb dL_law_680 hl (by decide) rfl (fun ls hl => ?_)
  refine lv_aload_n hx hb dL_law_682 rfl (lv_at hl 3 rfl) ?_
  refine lv_aload_n hx hb dL_law_683 rfl (lv_at hl 1 rfl) ?_
  refine lv_iload hx hb dL_law_684 (lv_at hl 5 rfl) ?_
  refine lv_iconst (v := (1 : Int32)) hx hb dL_law_686 (by decide) ?_
  refine lv_iadd hx hb dL_law_687 ?_
  refine va_sld hx hb hX hbl hbA hG.2.1 (hj 1 (by simp)) dL_law_688 ?_
  refine lv_aload_n hx hb dL_law_689 rfl (lv_at hl 1 rfl) ?_
  refine lv_iload hx hb dL_law_690 (lv_at hl 5 rfl) ?_
  refine lv_iconst (v := (2 : Int32)) hx hb dL_law_692 (by decide) ?_
  refine lv_iadd hx hb dL_law_693 ?_
  refine va_sld hx hb hX hbl hbA hG.2.1 (hj 2 (by simp)) dL_law_694 ?_
  refine g_cVi (As := [.int (xs (xi + (1 : Int32)).toNatClampNeg), .int (xs (xi + (2 : Int32)).toNatClampNeg)]) (rest := []) (n := 2) hx hb hml hown hts hK hlo hG (m_X10_file l dd cT lo G1 am (xs (xi + (1 : Int32)).toNatClampNeg) (xs (xi + (2 : Int32)).toNatClampNeg) hm1) qM_L_131 qI_yX10_file qS_X10_yX10_file qN_X10 qC_yX10_file (by decide +kernel) ⟨by omega, by omega⟩ (by rfl) ho1 rfl hl.1 rfl (Nat.le_of_ble_eq_true rfl) dL_law_695 ⟨by omega, by omega⟩ (fun H locs hG => ?_)
  refine lv_istore (lv' := [(6, .int r), (5, .int k), (0, .ref b), (1, .ref ax), (2, .ref am), (3, .ref ao), (4, .int xi)]) hx hb dL_law_698 hl (by decide) rfl (fun ls hl => ?_)
  refine lv_aload_n hx hb dL_law_700 rfl (lv_at hl 4 rfl) ?_
  refine g_cVi (As := []) (rest := []) (n := 0) hx hb hml hown hts hK hlo hG (m_X10_thrown l dd cT lo G2 am hth) qM_L_101 qI_yX10_thrown qS_X10_yX10_thrown qN_X10 qC_yX10_thrown (by decide +kernel) ⟨by omega, by omega⟩ (by rfl) hg2.ob.1 rfl hl.1 rfl (Nat.le_of_ble_eq_true rfl) dL_law_701 ⟨by omega, by omega⟩ (fun H locs hG => ?_)
  refine lv_iload hx hb dL_law_704 (lv_at hl 1 rfl) ?_
  refine lv_icmp_eq (tgt := 711) hx hb dL_law_706 (by decide) (fun _ => ?_) (fun c9 => absurd rfl c9)
  refine lv_iload hx hb dL_law_711 (lv_at hl 1 rfl) ?_
  refine lv_if_ne (tgt := 728) hx hb dL_law_713 (by decide) (fun _ => ?_) (fun c9 => ?_)
  · refine lv_goto (tgt := 1783) hx hb dL_law_728 (by decide) ?_
    refine W.widen (k := cells + 40) (n := slots + 2000) (by omega) (by omega) ?_
    exact next _ _ _ _ hG hg2 (lv_sub hl [2, 3, 4, 5, 6] rfl)
  · refine lv_aload_n hx hb dL_law_716 rfl (lv_at hl 5 rfl) ?_
    refine lv_iconst (v := (0 : Int32)) hx hb dL_law_717 (by decide) ?_
    refine g_jald hx hb hK hG (hla c9) dL_law_718 ?_
    refine lv_iload hx hb dL_law_719 (lv_at hl 0 rfl) ?_
    refine lv_i2l hx hb dL_law_721 rfl ?_
    refine W.lcmp hx hb dL_law_722 ?_
    refine lv_if_eq (tgt := 728) hx hb dL_law_723 (by decide) (fun _ => ?_) (fun c8 => absurd ((lg_cmp0 r.toInt64 r.toInt64).mpr rfl) c8)
    refine lv_goto (tgt := 1783) hx hb dL_law_728 (by decide) ?_
    refine W.widen (k := cells + 40) (n := slots + 2000) (by omega) (by omega) ?_
    exact next _ _ _ _ hG hg2 (lv_sub hl [2, 3, 4, 5, 6] rfl)
set_option maxRecDepth 20000 in
set_option maxHeartbeats 4000000 in
theorem lc_where {p : Program} {l : Launch} {e : Env} {R : Room} {s : State} {m : MethodId} {args : Array Value} {below : List Frame} {meth : Method} {c : Code} {H : Heap} {locs : List Loc} {cells slots : Nat} {Q : State → Prop} {ls : Array Slot} {lo : Nat} {dd : va_G} {cT : Nat → ClassId} {G : gH} {b L ax am ao : Nat} {xs : Nat → Int32} (hfl : l.stackTraces = false) (hx : p.tables.exec = Jvm.exec) (hb : c.code = cL_law) (hml : c.maxLocals = 9) (hown : s.vm.findClass RL = some m.cls) (hts : ∀ w ∈ wsL_law, w.before args s = true) (hK : g_K dd cT s) (hlo : lo ≤ s.heap.size) (hX : va_X b L xs s s.heap) (hbl : b < s.heap.size) (hbA : ¬ g_A lo b) (hR : 12 ≤ R.frames ∧ 300 ≤ R.locals) (hf : cells + 40 ≤ R.cells ∧ slots + 2000 ≤ R.slots) (hG : g_S lo dd cT s H locs G) (hg : zGd ax am ao G) {xi : Int32} (hj : ∀ k : Int32, k ∈ ([1, 2, 3, 4, 5] : List Int32) → vp_in (xi + k) L) (hl : lv_has ls 9 [(0, .ref b), (1, .ref ax), (2, .ref am), (3, .ref ao), (4, .int xi)]) (next : ∀ (H1 : Heap) (locs1 : List Loc) (G1 : gH) (ls1 : Array Slot), g_S lo dd cT s H1 locs1 G1 → zGd ax am ao G1 → lv_has ls1 9 [(0, .ref b), (1, .ref ax), (2, .ref am), (3, .ref ao), (4, .int xi)] → W p l e R s m args below meth c H1 locs1 (cells + 40) (slots + 2000) Q (F0 m 1783 ls1 [])) : W p l e R s m args below meth c H locs cells slots Q (F0 m 731 ls []) := by
  refine lv_aload_n hx hb dL_law_731 rfl (lv_at hl 1 rfl) ?_
  refine lv_aload_n hx hb dL_law_732 rfl (lv_at hl 0 rfl) ?_
  refine lv_iload hx hb dL_law_733 (lv_at hl 4 rfl) ?_
  refine lv_iconst (v := (1 : Int32)) hx hb dL_law_735 (by decide) ?_
  refine lv_iadd hx hb dL_law_736 ?_
  refine va_sld hx hb hX hbl hbA hG.2.1 (hj 1 (by simp)) dL_law_737 ?_
  refine lv_aload_n hx hb dL_law_738 rfl (lv_at hl 0 rfl) ?_
  refine lv_iload hx hb dL_law_739 (lv_at hl 4 rfl) ?_
  refine lv_iconst (v := (2 : Int32)) hx hb dL_law_741 (by decide) ?_
  refine lv_iadd hx hb dL_law_742 ?_
  refine va_sld hx hb hX hbl hbA hG.2.1 (hj 2 (by simp)) dL_law_743 ?_
  refine lv_aload_n hx hb dL_law_744 rfl (lv_at hl 3 rfl) ?_
  refine g_cHi (As := [.ref ax, .int (xs (xi + (1 : Int32)).toNatClampNeg), .int (xs (xi + (2 : Int32)).toNatClampNeg), .ref ao]) (rest := []) (n := 4) hx hb hml hown hts hK hlo hG (m_L_where l hfl dd cT lo G ax (xs (xi + (1 : Int32)).toNatClampNeg) (xs (xi + (2 : Int32)).toNatClampNeg) ao hg.ob.2 (L_where hg (xs (xi + (1 : Int32)).toNatClampNeg) (xs (xi + (2 : Int32)).toNatClampNeg))) qM_L_132 qT_yL_where qN_L qC_yL_where (by decide +kernel) ⟨by omega, by omega⟩ rfl hl.1 rfl (Nat.le_of_ble_eq_true rfl) dL_law_745 ⟨by omega, by omega⟩ (fun k G1 H locs h hG => ?_)
  obtain ⟨G2, r, ho1, hm1, hth, hla, hg2⟩ := h
  refine lv_istore (lv' := [(5, .int k), (0, .ref b), (1, .ref ax), (2, .ref am), (3, .ref ao), (4, .int xi)]) hx hb dL_law_748 hl (by decide) rfl (fun ls hl => ?_)
  refine lv_aload_n hx hb dL_law_750 rfl (lv_at hl 3 rfl) ?_
  refine lv_aload_n hx hb dL_law_751 rfl (lv_at hl 1 rfl) ?_
  refine lv_iload hx hb dL_law_752 (lv_at hl 5 rfl) ?_
  refine lv_iconst (v := (1 : Int32)) hx hb dL_law_754 (by decide) ?_
  refine lv_iadd hx hb dL_law_755 ?_
  refine va_sld hx hb hX hbl hbA hG.2.1 (hj 1 (by simp)) dL_law_756 ?_
  refine lv_aload_n hx hb dL_law_757 rfl (lv_at hl 1 rfl) ?_
  refine lv_iload hx hb dL_law_758 (lv_at hl 5 rfl) ?_
  refine lv_iconst (v := (2 : Int32)) hx hb dL_law_760 (by decide) ?_
  refine lv_iadd hx hb dL_law_761 ?_
  refine va_sld hx hb hX hbl hbA hG.2.1 (hj 2 (by simp)) dL_law_762 ?_
  refine g_cVi (As := [.int (xs (xi + (1 : Int32)).toNatClampNeg), .int (xs (xi + (2 : Int32)).toNatClampNeg)]) (rest := []) (n := 2) hx hb hml hown hts hK hlo hG (m_X10_where l dd cT lo G1 am (xs (xi + (1 : Int32)).toNatClampNeg) (xs (xi + (2 : Int32)).toNatClampNeg) hm1) qM_L_134 qI_yX10_where qS_X10_yX10_where qN_X10 qC_yX10_where (by decide +kernel) ⟨by omega, by omega⟩ (by rfl) ho1 rfl hl.1 rfl (Nat.le_of_ble_eq_true rfl) dL_law_763 ⟨by omega, by omega⟩ (fun H locs hG => ?_)
  refine lv_istore (lv' := [(6, .int r), (5, .int k), (0, .ref b), (1, .ref ax), (2, .ref am), (3, .ref ao), (4, .int xi)]) hx hb dL_law_766 hl (by decide) rfl (fun ls hl => ?_)
  refine lv_aload_n hx hb dL_law_768 rfl (lv_at hl 4 rfl) ?_
  refine g_cVi (As := []) (rest := []) (n := 0) hx hb hml hown hts hK hlo hG (m_X10_thrown l dd cT lo G2 am hth) qM_L_101 qI_yX10_thrown qS_X10_yX10_thrown qN_X10 qC_yX10_thrown (by decide +kernel) ⟨by omega, by omega⟩ (by rfl) hg2.ob.1 rfl hl.1 rfl (Nat.le_of_ble_eq_true rfl) dL_law_769 ⟨by omega, by omega⟩ (fun H locs hG => ?_)
  refine lv_iload hx hb dL_law_772 (lv_at hl 1 rfl) ?_
  refine lv_icmp_eq (tgt := 779) hx hb dL_law_774 (by decide) (fun _ => ?_) (fun c9 => absurd rfl c9)
  refine lv_iload hx hb dL_law_779 (lv_at hl 1 rfl) ?_
  refine lv_if_ne (tgt := 796) hx hb dL_law_781 (by decide) (fun _ => ?_) (fun c9 => ?_)
  · refine lv_goto (tgt := 1783) hx hb dL_law_796 (by decide) ?_
    refine W.widen (k := cells + 40) (n := slots + 2000) (by omega) (by omega) ?_
    exact next _ _ _ _ hG hg2 (lv_sub hl [2, 3, 4, 5, 6] rfl)
  · refine lv_aload_n hx hb dL_law_784 rfl (lv_at hl 5 rfl) ?_
    refine lv_iconst (v := (0 : Int32)) hx hb dL_law_785 (by decide) ?_
    refine g_jald hx hb hK hG (hla c9) dL_law_786 ?_
    refine lv_iload hx hb dL_law_787 (lv_at hl 0 rfl) ?_
    refine lv_i2l hx hb dL_law_789 rfl ?_
    refine W.lcmp hx hb dL_law_790 ?_
    refine lv_if_eq (tgt := 796) hx hb dL_law_791 (by decide) (fun _ => ?_) (fun c8 => absurd ((lg_cmp0 r.toInt64 r.toInt64).mpr rfl) c8)
    refine lv_goto (tgt := 1783) hx hb dL_law_796 (by decide) ?_
    refine W.widen (k := cells + 40) (n := slots + 2000) (by omega) (by omega) ?_
    exact next _ _ _ _ hG hg2 (lv_sub hl [2, 3, 4, 5, 6] rfl)
set_option maxRecDepth 20000 in
set_option maxHeartbeats 4000000 in
theorem lc_defect {p : Program} {l : Launch} {e : Env} {R : Room} {s : State} {m : MethodId} {args : Array Value} {below : List Frame} {meth : Method} {c : Code} {H : Heap} {locs : List Loc} {cells slots : Nat} {Q : State → Prop} {ls : Array Slot} {lo : Nat} {dd : va_G} {cT : Nat → ClassId} {G : gH} {b L ax am ao : Nat} {xs : Nat → Int32} (hfl : l.stackTraces = false) (hx : p.tables.exec = Jvm.exec) (hb : c.code = cL_law) (hml : c.maxLocals = 9) (hown : s.vm.findClass RL = some m.cls) (hts : ∀ w ∈ wsL_law, w.before args s = true) (hK : g_K dd cT s) (hlo : lo ≤ s.heap.size) (hX : va_X b L xs s s.heap) (hbl : b < s.heap.size) (hbA : ¬ g_A lo b) (hR : 12 ≤ R.frames ∧ 300 ≤ R.locals) (hf : cells + 40 ≤ R.cells ∧ slots + 2000 ≤ R.slots) (hG : g_S lo dd cT s H locs G) (hg : zGd ax am ao G) {xi : Int32} (hj : ∀ k : Int32, k ∈ ([1, 2, 3, 4, 5] : List Int32) → vp_in (xi + k) L) (hl : lv_has ls 9 [(0, .ref b), (1, .ref ax), (2, .ref am), (3, .ref ao), (4, .int xi)]) (next : ∀ (H1 : Heap) (locs1 : List Loc) (G1 : gH) (ls1 : Array Slot), g_S lo dd cT s H1 locs1 G1 → zGd ax am ao G1 → lv_has ls1 9 [(0, .ref b), (1, .ref ax), (2, .ref am), (3, .ref ao), (4, .int xi)] → W p l e R s m args below meth c H1 locs1 (cells + 40) (slots + 2000) Q (F0 m 1783 ls1 [])) : W p l e R s m args below meth c H locs cells slots Q (F0 m 799 ls []) := by
  by_cases c0 : (xs (xi + (2 : Int32)).toNatClampNeg) = 0
  · skip
    refine lv_aload_n hx hb dL_law_799 rfl (lv_at hl 1 rfl) ?_
    refine lv_aload_n hx hb dL_law_800 rfl (lv_at hl 0 rfl) ?_
    refine lv_iload hx hb dL_law_801 (lv_at hl 4 rfl) ?_
    refine lv_iconst (v := (1 : Int32)) hx hb dL_law_803 (by decide) ?_
    refine lv_iadd hx hb dL_law_804 ?_
    refine va_sld hx hb hX hbl hbA hG.2.1 (hj 1 (by simp)) dL_law_805 ?_
    refine lv_aload_n hx hb dL_law_806 rfl (lv_at hl 0 rfl) ?_
    refine lv_iload hx hb dL_law_807 (lv_at hl 4 rfl) ?_
    refine lv_iconst (v := (2 : Int32)) hx hb dL_law_809 (by decide) ?_
    refine lv_iadd hx hb dL_law_810 ?_
    refine va_sld hx hb hX hbl hbA hG.2.1 (hj 2 (by simp)) dL_law_811 ?_
    refine lv_if_eq (tgt := 819) hx hb dL_law_812 (by decide) (fun _ => ?_) (fun c9 => absurd c0 c9)
    refine lv_iconst (v := (0 : Int32)) hx hb dL_law_819 (by decide) ?_
    obtain ⟨r, G2, hf9, hm1, hg2⟩ := L_defect hg (xs (xi + (1 : Int32)).toNatClampNeg) false
    have ho1 := hg.ob.1
    refine g_cVi (As := [.int (xs (xi + (1 : Int32)).toNatClampNeg), .int (0 : Int32)]) (rest := []) (n := 2) hx hb hml hown hts hK hlo hG (m_X9_defect l dd cT lo G ax (xs (xi + (1 : Int32)).toNatClampNeg) (0 : Int32) hf9) qM_L_135 qI_yX9_defect qS_X9_yX9_defect qN_X9 qC_yX9_defect (by decide +kernel) ⟨by omega, by omega⟩ (by rfl) hg.ob.2 rfl hl.1 rfl (Nat.le_of_ble_eq_true rfl) dL_law_820 ⟨by omega, by omega⟩ (fun H locs hG => ?_)
    refine lv_aload_n hx hb dL_law_823 rfl (lv_at hl 2 rfl) ?_
    refine lv_aload_n hx hb dL_law_824 rfl (lv_at hl 0 rfl) ?_
    refine lv_iload hx hb dL_law_825 (lv_at hl 4 rfl) ?_
    refine lv_iconst (v := (1 : Int32)) hx hb dL_law_827 (by decide) ?_
    refine lv_iadd hx hb dL_law_828 ?_
    refine va_sld hx hb hX hbl hbA hG.2.1 (hj 1 (by simp)) dL_law_829 ?_
    refine lv_aload_n hx hb dL_law_830 rfl (lv_at hl 0 rfl) ?_
    refine lv_iload hx hb dL_law_831 (lv_at hl 4 rfl) ?_
    refine lv_iconst (v := (2 : Int32)) hx hb dL_law_833 (by decide) ?_
    refine lv_iadd hx hb dL_law_834 ?_
    refine va_sld hx hb hX hbl hbA hG.2.1 (hj 2 (by simp)) dL_law_835 ?_
    refine lv_if_eq (tgt := 843) hx hb dL_law_836 (by decide) (fun _ => ?_) (fun c9 => absurd c0 c9)
    refine lv_iconst (v := (0 : Int32)) hx hb dL_law_843 (by decide) ?_
    refine g_cVi (As := [.int (xs (xi + (1 : Int32)).toNatClampNeg), .int (0 : Int32)]) (rest := [.int r]) (n := 2) hx hb hml hown hts hK hlo hG (m_X10_defect l dd cT lo G am (xs (xi + (1 : Int32)).toNatClampNeg) (0 : Int32) hm1) qM_L_139 qI_yX10_defect qS_X10_yX10_defect qN_X10 qC_yX10_defect (by decide +kernel) ⟨by omega, by omega⟩ (by rfl) ho1 rfl hl.1 rfl (Nat.le_of_ble_eq_true rfl) dL_law_844 ⟨by omega, by omega⟩ (fun H locs hG => ?_)
    refine lv_icmp_eq (tgt := 1783) hx hb dL_law_847 (by decide) (fun _ => ?_) (fun c9 => absurd rfl c9)
    refine W.widen (k := cells + 40) (n := slots + 2000) (by omega) (by omega) ?_
    exact next _ _ _ _ hG hg2 (lv_sub hl [0, 1, 2, 3, 4] rfl)
  · skip
    refine lv_aload_n hx hb dL_law_799 rfl (lv_at hl 1 rfl) ?_
    refine lv_aload_n hx hb dL_law_800 rfl (lv_at hl 0 rfl) ?_
    refine lv_iload hx hb dL_law_801 (lv_at hl 4 rfl) ?_
    refine lv_iconst (v := (1 : Int32)) hx hb dL_law_803 (by decide) ?_
    refine lv_iadd hx hb dL_law_804 ?_
    refine va_sld hx hb hX hbl hbA hG.2.1 (hj 1 (by simp)) dL_law_805 ?_
    refine lv_aload_n hx hb dL_law_806 rfl (lv_at hl 0 rfl) ?_
    refine lv_iload hx hb dL_law_807 (lv_at hl 4 rfl) ?_
    refine lv_iconst (v := (2 : Int32)) hx hb dL_law_809 (by decide) ?_
    refine lv_iadd hx hb dL_law_810 ?_
    refine va_sld hx hb hX hbl hbA hG.2.1 (hj 2 (by simp)) dL_law_811 ?_
    refine lv_if_eq (tgt := 819) hx hb dL_law_812 (by decide) (fun c9 => absurd c9 c0) (fun _ => ?_)
    refine lv_iconst (v := (1 : Int32)) hx hb dL_law_815 (by decide) ?_
    refine lv_goto (tgt := 820) hx hb dL_law_816 (by decide) ?_
    obtain ⟨r, G2, hf9, hm1, hg2⟩ := L_defect hg (xs (xi + (1 : Int32)).toNatClampNeg) true
    have ho1 := hg.ob.1
    refine g_cVi (As := [.int (xs (xi + (1 : Int32)).toNatClampNeg), .int (1 : Int32)]) (rest := []) (n := 2) hx hb hml hown hts hK hlo hG (m_X9_defect l dd cT lo G ax (xs (xi + (1 : Int32)).toNatClampNeg) (1 : Int32) hf9) qM_L_135 qI_yX9_defect qS_X9_yX9_defect qN_X9 qC_yX9_defect (by decide +kernel) ⟨by omega, by omega⟩ (by rfl) hg.ob.2 rfl hl.1 rfl (Nat.le_of_ble_eq_true rfl) dL_law_820 ⟨by omega, by omega⟩ (fun H locs hG => ?_)
    refine lv_aload_n hx hb dL_law_823 rfl (lv_at hl 2 rfl) ?_
    refine lv_aload_n hx hb dL_law_824 rfl (lv_at hl 0 rfl) ?_
    refine lv_iload hx hb dL_law_825 (lv_at hl 4 rfl) ?_
    refine lv_iconst (v := (1 : Int32)) hx hb dL_law_827 (by decide) ?_
    refine lv_iadd hx hb dL_law_828 ?_
    refine va_sld hx hb hX hbl hbA hG.2.1 (hj 1 (by simp)) dL_law_829 ?_
    refine lv_aload_n hx hb dL_law_830 rfl (lv_at hl 0 rfl) ?_
    refine lv_iload hx hb dL_law_831 (lv_at hl 4 rfl) ?_
    refine lv_iconst (v := (2 : Int32)) hx hb dL_law_833 (by decide) ?_
    refine lv_iadd hx hb dL_law_834 ?_
    refine va_sld hx hb hX hbl hbA hG.2.1 (hj 2 (by simp)) dL_law_835 ?_
    refine lv_if_eq (tgt := 843) hx hb dL_law_836 (by decide) (fun c9 => absurd c9 c0) (fun _ => ?_)
    refine lv_iconst (v := (1 : Int32)) hx hb dL_law_839 (by decide) ?_
    refine lv_goto (tgt := 844) hx hb dL_law_840 (by decide) ?_
    refine g_cVi (As := [.int (xs (xi + (1 : Int32)).toNatClampNeg), .int (1 : Int32)]) (rest := [.int r]) (n := 2) hx hb hml hown hts hK hlo hG (m_X10_defect l dd cT lo G am (xs (xi + (1 : Int32)).toNatClampNeg) (1 : Int32) hm1) qM_L_139 qI_yX10_defect qS_X10_yX10_defect qN_X10 qC_yX10_defect (by decide +kernel) ⟨by omega, by omega⟩ (by rfl) ho1 rfl hl.1 rfl (Nat.le_of_ble_eq_true rfl) dL_law_844 ⟨by omega, by omega⟩ (fun H locs hG => ?_)
    refine lv_icmp_eq (tgt := 1783) hx hb dL_law_847 (by decide) (fun _ => ?_) (fun c9 => absurd rfl c9)
    refine W.widen (k := cells + 40) (n := slots + 2000) (by omega) (by omega) ?_
    exact next _ _ _ _ hG hg2 (lv_sub hl [0, 1, 2, 3, 4] rfl)
set_option maxRecDepth 20000 in
set_option maxHeartbeats 4000000 in
theorem lc_whyNotWrite {p : Program} {l : Launch} {e : Env} {R : Room} {s : State} {m : MethodId} {args : Array Value} {below : List Frame} {meth : Method} {c : Code} {H : Heap} {locs : List Loc} {cells slots : Nat} {Q : State → Prop} {ls : Array Slot} {lo : Nat} {dd : va_G} {cT : Nat → ClassId} {G : gH} {b L ax am ao : Nat} {xs : Nat → Int32} (hfl : l.stackTraces = false) (hx : p.tables.exec = Jvm.exec) (hb : c.code = cL_law) (hml : c.maxLocals = 9) (hown : s.vm.findClass RL = some m.cls) (hts : ∀ w ∈ wsL_law, w.before args s = true) (hK : g_K dd cT s) (hlo : lo ≤ s.heap.size) (hX : va_X b L xs s s.heap) (hbl : b < s.heap.size) (hbA : ¬ g_A lo b) (hR : 12 ≤ R.frames ∧ 300 ≤ R.locals) (hf : cells + 40 ≤ R.cells ∧ slots + 2000 ≤ R.slots) (hG : g_S lo dd cT s H locs G) (hg : zGd ax am ao G) {xi : Int32} (hj : ∀ k : Int32, k ∈ ([1, 2, 3, 4, 5] : List Int32) → vp_in (xi + k) L) (hl : lv_has ls 9 [(0, .ref b), (1, .ref ax), (2, .ref am), (3, .ref ao), (4, .int xi)]) (next : ∀ (H1 : Heap) (locs1 : List Loc) (G1 : gH) (ls1 : Array Slot), g_S lo dd cT s H1 locs1 G1 → zGd ax am ao G1 → lv_has ls1 9 [(0, .ref b), (1, .ref ax), (2, .ref am), (3, .ref ao), (4, .int xi)] → W p l e R s m args below meth c H1 locs1 (cells + 40) (slots + 2000) Q (F0 m 1783 ls1 [])) : W p l e R s m args below meth c H locs cells slots Q (F0 m 852 ls []) := by
  refine lv_aload_n hx hb dL_law_852 rfl (lv_at hl 1 rfl) ?_
  refine lv_aload_n hx hb dL_law_853 rfl (lv_at hl 0 rfl) ?_
  refine lv_iload hx hb dL_law_854 (lv_at hl 4 rfl) ?_
  refine lv_iconst (v := (1 : Int32)) hx hb dL_law_856 (by decide) ?_
  refine lv_iadd hx hb dL_law_857 ?_
  refine va_sld hx hb hX hbl hbA hG.2.1 (hj 1 (by simp)) dL_law_858 ?_
  refine lv_aload_n hx hb dL_law_859 rfl (lv_at hl 0 rfl) ?_
  refine lv_iload hx hb dL_law_860 (lv_at hl 4 rfl) ?_
  refine lv_iconst (v := (2 : Int32)) hx hb dL_law_862 (by decide) ?_
  refine lv_iadd hx hb dL_law_863 ?_
  refine va_sld hx hb hX hbl hbA hG.2.1 (hj 2 (by simp)) dL_law_864 ?_
  refine lv_aload_n hx hb dL_law_865 rfl (lv_at hl 3 rfl) ?_
  refine g_cHi (As := [.ref ax, .int (xs (xi + (1 : Int32)).toNatClampNeg), .int (xs (xi + (2 : Int32)).toNatClampNeg), .ref ao]) (rest := []) (n := 4) hx hb hml hown hts hK hlo hG (m_L_whyNotWrite l hfl dd cT lo G ax (xs (xi + (1 : Int32)).toNatClampNeg) (xs (xi + (2 : Int32)).toNatClampNeg) ao hg.ob.2 (L_whyNotWrite hg (xs (xi + (1 : Int32)).toNatClampNeg) (xs (xi + (2 : Int32)).toNatClampNeg))) qM_L_140 qT_yL_whyNotWrite qN_L qC_yL_whyNotWrite (by decide +kernel) ⟨by omega, by omega⟩ rfl hl.1 rfl (Nat.le_of_ble_eq_true rfl) dL_law_866 ⟨by omega, by omega⟩ (fun k G1 H locs h hG => ?_)
  obtain ⟨G2, r, ho1, hm1, hth, hla, hg2⟩ := h
  refine lv_istore (lv' := [(5, .int k), (0, .ref b), (1, .ref ax), (2, .ref am), (3, .ref ao), (4, .int xi)]) hx hb dL_law_869 hl (by decide) rfl (fun ls hl => ?_)
  refine lv_aload_n hx hb dL_law_871 rfl (lv_at hl 3 rfl) ?_
  refine lv_aload_n hx hb dL_law_872 rfl (lv_at hl 1 rfl) ?_
  refine lv_iload hx hb dL_law_873 (lv_at hl 5 rfl) ?_
  refine lv_iconst (v := (1 : Int32)) hx hb dL_law_875 (by decide) ?_
  refine lv_iadd hx hb dL_law_876 ?_
  refine va_sld hx hb hX hbl hbA hG.2.1 (hj 1 (by simp)) dL_law_877 ?_
  refine lv_aload_n hx hb dL_law_878 rfl (lv_at hl 1 rfl) ?_
  refine lv_iload hx hb dL_law_879 (lv_at hl 5 rfl) ?_
  refine lv_iconst (v := (2 : Int32)) hx hb dL_law_881 (by decide) ?_
  refine lv_iadd hx hb dL_law_882 ?_
  refine va_sld hx hb hX hbl hbA hG.2.1 (hj 2 (by simp)) dL_law_883 ?_
  refine g_cVi (As := [.int (xs (xi + (1 : Int32)).toNatClampNeg), .int (xs (xi + (2 : Int32)).toNatClampNeg)]) (rest := []) (n := 2) hx hb hml hown hts hK hlo hG (m_X10_whyNotWrite l dd cT lo G1 am (xs (xi + (1 : Int32)).toNatClampNeg) (xs (xi + (2 : Int32)).toNatClampNeg) hm1) qM_L_142 qI_yX10_whyNotWrite qS_X10_yX10_whyNotWrite qN_X10 qC_yX10_whyNotWrite (by decide +kernel) ⟨by omega, by omega⟩ (by rfl) ho1 rfl hl.1 rfl (Nat.le_of_ble_eq_true rfl) dL_law_884 ⟨by omega, by omega⟩ (fun H locs hG => ?_)
  refine lv_istore (lv' := [(6, .int r), (5, .int k), (0, .ref b), (1, .ref ax), (2, .ref am), (3, .ref ao), (4, .int xi)]) hx hb dL_law_887 hl (by decide) rfl (fun ls hl => ?_)
  refine lv_aload_n hx hb dL_law_889 rfl (lv_at hl 4 rfl) ?_
  refine g_cVi (As := []) (rest := []) (n := 0) hx hb hml hown hts hK hlo hG (m_X10_thrown l dd cT lo G2 am hth) qM_L_101 qI_yX10_thrown qS_X10_yX10_thrown qN_X10 qC_yX10_thrown (by decide +kernel) ⟨by omega, by omega⟩ (by rfl) hg2.ob.1 rfl hl.1 rfl (Nat.le_of_ble_eq_true rfl) dL_law_890 ⟨by omega, by omega⟩ (fun H locs hG => ?_)
  refine lv_iload hx hb dL_law_893 (lv_at hl 1 rfl) ?_
  refine lv_icmp_eq (tgt := 900) hx hb dL_law_895 (by decide) (fun _ => ?_) (fun c9 => absurd rfl c9)
  refine lv_iload hx hb dL_law_900 (lv_at hl 1 rfl) ?_
  refine lv_if_ne (tgt := 917) hx hb dL_law_902 (by decide) (fun _ => ?_) (fun c9 => ?_)
  · refine lv_goto (tgt := 1783) hx hb dL_law_917 (by decide) ?_
    refine W.widen (k := cells + 40) (n := slots + 2000) (by omega) (by omega) ?_
    exact next _ _ _ _ hG hg2 (lv_sub hl [2, 3, 4, 5, 6] rfl)
  · refine lv_aload_n hx hb dL_law_905 rfl (lv_at hl 5 rfl) ?_
    refine lv_iconst (v := (0 : Int32)) hx hb dL_law_906 (by decide) ?_
    refine g_jald hx hb hK hG (hla c9) dL_law_907 ?_
    refine lv_iload hx hb dL_law_908 (lv_at hl 0 rfl) ?_
    refine lv_i2l hx hb dL_law_910 rfl ?_
    refine W.lcmp hx hb dL_law_911 ?_
    refine lv_if_eq (tgt := 917) hx hb dL_law_912 (by decide) (fun _ => ?_) (fun c8 => absurd ((lg_cmp0 r.toInt64 r.toInt64).mpr rfl) c8)
    refine lv_goto (tgt := 1783) hx hb dL_law_917 (by decide) ?_
    refine W.widen (k := cells + 40) (n := slots + 2000) (by omega) (by omega) ?_
    exact next _ _ _ _ hG hg2 (lv_sub hl [2, 3, 4, 5, 6] rfl)
set_option maxRecDepth 20000 in
set_option maxHeartbeats 4000000 in
theorem lc_whyNot {p : Program} {l : Launch} {e : Env} {R : Room} {s : State} {m : MethodId} {args : Array Value} {below : List Frame} {meth : Method} {c : Code} {H : Heap} {locs : List Loc} {cells slots : Nat} {Q : State → Prop} {ls : Array Slot} {lo : Nat} {dd : va_G} {cT : Nat → ClassId} {G : gH} {b L ax am ao : Nat} {xs : Nat → Int32} (hfl : l.stackTraces = false) (hx : p.tables.exec = Jvm.exec) (hb : c.code = cL_law) (hml : c.maxLocals = 9) (hown : s.vm.findClass RL = some m.cls) (hts : ∀ w ∈ wsL_law, w.before args s = true) (hK : g_K dd cT s) (hlo : lo ≤ s.heap.size) (hX : va_X b L xs s s.heap) (hbl : b < s.heap.size) (hbA : ¬ g_A lo b) (hR : 12 ≤ R.frames ∧ 300 ≤ R.locals) (hf : cells + 40 ≤ R.cells ∧ slots + 2000 ≤ R.slots) (hG : g_S lo dd cT s H locs G) (hg : zGd ax am ao G) {xi : Int32} (hj : ∀ k : Int32, k ∈ ([1, 2, 3, 4, 5] : List Int32) → vp_in (xi + k) L) (hl : lv_has ls 9 [(0, .ref b), (1, .ref ax), (2, .ref am), (3, .ref ao), (4, .int xi)]) (next : ∀ (H1 : Heap) (locs1 : List Loc) (G1 : gH) (ls1 : Array Slot), g_S lo dd cT s H1 locs1 G1 → zGd ax am ao G1 → lv_has ls1 9 [(0, .ref b), (1, .ref ax), (2, .ref am), (3, .ref ao), (4, .int xi)] → W p l e R s m args below meth c H1 locs1 (cells + 40) (slots + 2000) Q (F0 m 1783 ls1 [])) : W p l e R s m args below meth c H locs cells slots Q (F0 m 920 ls []) := by
  refine lv_aload_n hx hb dL_law_920 rfl (lv_at hl 1 rfl) ?_
  refine lv_aload_n hx hb dL_law_921 rfl (lv_at hl 0 rfl) ?_
  refine lv_iload hx hb dL_law_922 (lv_at hl 4 rfl) ?_
  refine lv_iconst (v := (1 : Int32)) hx hb dL_law_924 (by decide) ?_
  refine lv_iadd hx hb dL_law_925 ?_
  refine va_sld hx hb hX hbl hbA hG.2.1 (hj 1 (by simp)) dL_law_926 ?_
  refine lv_aload_n hx hb dL_law_927 rfl (lv_at hl 3 rfl) ?_
  refine g_cHi (As := [.ref ax, .int (xs (xi + (1 : Int32)).toNatClampNeg), .ref ao]) (rest := []) (n := 3) hx hb hml hown hts hK hlo hG (m_L_whyNot l hfl dd cT lo G ax (xs (xi + (1 : Int32)).toNatClampNeg) ao hg.ob.2 (L_whyNot hg (xs (xi + (1 : Int32)).toNatClampNeg))) qM_L_143 qT_yL_whyNot qN_L qC_yL_whyNot (by decide +kernel) ⟨by omega, by omega⟩ rfl hl.1 rfl (Nat.le_of_ble_eq_true rfl) dL_law_928 ⟨by omega, by omega⟩ (fun k G1 H locs h hG => ?_)
  obtain ⟨G2, r, ho1, hm1, hth, hla, hg2⟩ := h
  refine lv_istore (lv' := [(5, .int k), (0, .ref b), (1, .ref ax), (2, .ref am), (3, .ref ao), (4, .int xi)]) hx hb dL_law_931 hl (by decide) rfl (fun ls hl => ?_)
  refine lv_aload_n hx hb dL_law_933 rfl (lv_at hl 3 rfl) ?_
  refine lv_aload_n hx hb dL_law_934 rfl (lv_at hl 1 rfl) ?_
  refine lv_iload hx hb dL_law_935 (lv_at hl 5 rfl) ?_
  refine lv_iconst (v := (1 : Int32)) hx hb dL_law_937 (by decide) ?_
  refine lv_iadd hx hb dL_law_938 ?_
  refine va_sld hx hb hX hbl hbA hG.2.1 (hj 1 (by simp)) dL_law_939 ?_
  refine g_cVi (As := [.int (xs (xi + (1 : Int32)).toNatClampNeg)]) (rest := []) (n := 1) hx hb hml hown hts hK hlo hG (m_X10_whyNot l dd cT lo G1 am (xs (xi + (1 : Int32)).toNatClampNeg) hm1) qM_L_145 qI_yX10_whyNot qS_X10_yX10_whyNot qN_X10 qC_yX10_whyNot (by decide +kernel) ⟨by omega, by omega⟩ (by rfl) ho1 rfl hl.1 rfl (Nat.le_of_ble_eq_true rfl) dL_law_940 ⟨by omega, by omega⟩ (fun H locs hG => ?_)
  refine lv_istore (lv' := [(6, .int r), (5, .int k), (0, .ref b), (1, .ref ax), (2, .ref am), (3, .ref ao), (4, .int xi)]) hx hb dL_law_943 hl (by decide) rfl (fun ls hl => ?_)
  refine lv_aload_n hx hb dL_law_945 rfl (lv_at hl 4 rfl) ?_
  refine g_cVi (As := []) (rest := []) (n := 0) hx hb hml hown hts hK hlo hG (m_X10_thrown l dd cT lo G2 am hth) qM_L_101 qI_yX10_thrown qS_X10_yX10_thrown qN_X10 qC_yX10_thrown (by decide +kernel) ⟨by omega, by omega⟩ (by rfl) hg2.ob.1 rfl hl.1 rfl (Nat.le_of_ble_eq_true rfl) dL_law_946 ⟨by omega, by omega⟩ (fun H locs hG => ?_)
  refine lv_iload hx hb dL_law_949 (lv_at hl 1 rfl) ?_
  refine lv_icmp_eq (tgt := 956) hx hb dL_law_951 (by decide) (fun _ => ?_) (fun c9 => absurd rfl c9)
  refine lv_iload hx hb dL_law_956 (lv_at hl 1 rfl) ?_
  refine lv_if_ne (tgt := 973) hx hb dL_law_958 (by decide) (fun _ => ?_) (fun c9 => ?_)
  · refine lv_goto (tgt := 1783) hx hb dL_law_973 (by decide) ?_
    refine W.widen (k := cells + 40) (n := slots + 2000) (by omega) (by omega) ?_
    exact next _ _ _ _ hG hg2 (lv_sub hl [2, 3, 4, 5, 6] rfl)
  · refine lv_aload_n hx hb dL_law_961 rfl (lv_at hl 5 rfl) ?_
    refine lv_iconst (v := (0 : Int32)) hx hb dL_law_962 (by decide) ?_
    refine g_jald hx hb hK hG (hla c9) dL_law_963 ?_
    refine lv_iload hx hb dL_law_964 (lv_at hl 0 rfl) ?_
    refine lv_i2l hx hb dL_law_966 rfl ?_
    refine W.lcmp hx hb dL_law_967 ?_
    refine lv_if_eq (tgt := 973) hx hb dL_law_968 (by decide) (fun _ => ?_) (fun c8 => absurd ((lg_cmp0 r.toInt64 r.toInt64).mpr rfl) c8)
    refine lv_goto (tgt := 1783) hx hb dL_law_973 (by decide) ?_
    refine W.widen (k := cells + 40) (n := slots + 2000) (by omega) (by omega) ?_
    exact next _ _ _ _ hG hg2 (lv_sub hl [2, 3, 4, 5, 6] rfl)
set_option maxRecDepth 20000 in
set_option maxHeartbeats 4000000 in
theorem lc_couldRecover {p : Program} {l : Launch} {e : Env} {R : Room} {s : State} {m : MethodId} {args : Array Value} {below : List Frame} {meth : Method} {c : Code} {H : Heap} {locs : List Loc} {cells slots : Nat} {Q : State → Prop} {ls : Array Slot} {lo : Nat} {dd : va_G} {cT : Nat → ClassId} {G : gH} {b L ax am ao : Nat} {xs : Nat → Int32} (hfl : l.stackTraces = false) (hx : p.tables.exec = Jvm.exec) (hb : c.code = cL_law) (hml : c.maxLocals = 9) (hown : s.vm.findClass RL = some m.cls) (hts : ∀ w ∈ wsL_law, w.before args s = true) (hK : g_K dd cT s) (hlo : lo ≤ s.heap.size) (hX : va_X b L xs s s.heap) (hbl : b < s.heap.size) (hbA : ¬ g_A lo b) (hR : 12 ≤ R.frames ∧ 300 ≤ R.locals) (hf : cells + 40 ≤ R.cells ∧ slots + 2000 ≤ R.slots) (hG : g_S lo dd cT s H locs G) (hg : zGd ax am ao G) {xi : Int32} (hj : ∀ k : Int32, k ∈ ([1, 2, 3, 4, 5] : List Int32) → vp_in (xi + k) L) (hl : lv_has ls 9 [(0, .ref b), (1, .ref ax), (2, .ref am), (3, .ref ao), (4, .int xi)]) (next : ∀ (H1 : Heap) (locs1 : List Loc) (G1 : gH) (ls1 : Array Slot), g_S lo dd cT s H1 locs1 G1 → zGd ax am ao G1 → lv_has ls1 9 [(0, .ref b), (1, .ref ax), (2, .ref am), (3, .ref ao), (4, .int xi)] → W p l e R s m args below meth c H1 locs1 (cells + 40) (slots + 2000) Q (F0 m 1783 ls1 [])) : W p l e R s m args below meth c H locs cells slots Q (F0 m 976 ls []) := by
  refine lv_aload_n hx hb dL_law_976 rfl (lv_at hl 1 rfl) ?_
  obtain ⟨r, G2, hf9, hm1, hg2⟩ := L_couldRecover hg
  have ho1 := hg.ob.1
  refine g_cVi (As := []) (rest := []) (n := 0) hx hb hml hown hts hK hlo hG (m_X9_couldRecover l dd cT lo G ax  hf9) qM_L_146 qI_yX9_couldRecover qS_X9_yX9_couldRecover qN_X9 qC_yX9_couldRecover (by decide +kernel) ⟨by omega, by omega⟩ (by rfl) hg.ob.2 rfl hl.1 rfl (Nat.le_of_ble_eq_true rfl) dL_law_977 ⟨by omega, by omega⟩ (fun H locs hG => ?_)
  refine lv_aload_n hx hb dL_law_980 rfl (lv_at hl 2 rfl) ?_
  refine g_cVi (As := []) (rest := [.int r]) (n := 0) hx hb hml hown hts hK hlo hG (m_X10_couldRecover l dd cT lo G am  hm1) qM_L_149 qI_yX10_couldRecover qS_X10_yX10_couldRecover qN_X10 qC_yX10_couldRecover (by decide +kernel) ⟨by omega, by omega⟩ (by rfl) ho1 rfl hl.1 rfl (Nat.le_of_ble_eq_true rfl) dL_law_981 ⟨by omega, by omega⟩ (fun H locs hG => ?_)
  refine lv_icmp_eq (tgt := 1783) hx hb dL_law_984 (by decide) (fun _ => ?_) (fun c9 => absurd rfl c9)
  refine W.widen (k := cells + 40) (n := slots + 2000) (by omega) (by omega) ?_
  exact next _ _ _ _ hG hg2 (lv_sub hl [0, 1, 2, 3, 4] rfl)
set_option maxRecDepth 20000 in
set_option maxHeartbeats 4000000 in
theorem lc_risk {p : Program} {l : Launch} {e : Env} {R : Room} {s : State} {m : MethodId} {args : Array Value} {below : List Frame} {meth : Method} {c : Code} {H : Heap} {locs : List Loc} {cells slots : Nat} {Q : State → Prop} {ls : Array Slot} {lo : Nat} {dd : va_G} {cT : Nat → ClassId} {G : gH} {b L ax am ao : Nat} {xs : Nat → Int32} (hfl : l.stackTraces = false) (hx : p.tables.exec = Jvm.exec) (hb : c.code = cL_law) (hml : c.maxLocals = 9) (hown : s.vm.findClass RL = some m.cls) (hts : ∀ w ∈ wsL_law, w.before args s = true) (hK : g_K dd cT s) (hlo : lo ≤ s.heap.size) (hX : va_X b L xs s s.heap) (hbl : b < s.heap.size) (hbA : ¬ g_A lo b) (hR : 12 ≤ R.frames ∧ 300 ≤ R.locals) (hf : cells + 40 ≤ R.cells ∧ slots + 2000 ≤ R.slots) (hG : g_S lo dd cT s H locs G) (hg : zGd ax am ao G) {xi : Int32} (hj : ∀ k : Int32, k ∈ ([1, 2, 3, 4, 5] : List Int32) → vp_in (xi + k) L) (hl : lv_has ls 9 [(0, .ref b), (1, .ref ax), (2, .ref am), (3, .ref ao), (4, .int xi)]) (next : ∀ (H1 : Heap) (locs1 : List Loc) (G1 : gH) (ls1 : Array Slot), g_S lo dd cT s H1 locs1 G1 → zGd ax am ao G1 → lv_has ls1 9 [(0, .ref b), (1, .ref ax), (2, .ref am), (3, .ref ao), (4, .int xi)] → W p l e R s m args below meth c H1 locs1 (cells + 40) (slots + 2000) Q (F0 m 1783 ls1 [])) : W p l e R s m args below meth c H locs cells slots Q (F0 m 989 ls []) := by
  refine lv_aload_n hx hb dL_law_989 rfl (lv_at hl 1 rfl) ?_
  refine lv_aload_n hx hb dL_law_990 rfl (lv_at hl 0 rfl) ?_
  refine lv_iload hx hb dL_law_991 (lv_at hl 4 rfl) ?_
  refine lv_iconst (v := (1 : Int32)) hx hb dL_law_993 (by decide) ?_
  refine lv_iadd hx hb dL_law_994 ?_
  refine va_sld hx hb hX hbl hbA hG.2.1 (hj 1 (by simp)) dL_law_995 ?_
  refine lv_aload_n hx hb dL_law_996 rfl (lv_at hl 3 rfl) ?_
  refine g_cHi (As := [.ref ax, .int (xs (xi + (1 : Int32)).toNatClampNeg), .ref ao]) (rest := []) (n := 3) hx hb hml hown hts hK hlo hG (m_L_risk l hfl dd cT lo G ax (xs (xi + (1 : Int32)).toNatClampNeg) ao hg.ob.2 (L_risk hg (xs (xi + (1 : Int32)).toNatClampNeg))) qM_L_150 qT_yL_risk qN_L qC_yL_risk (by decide +kernel) ⟨by omega, by omega⟩ rfl hl.1 rfl (Nat.le_of_ble_eq_true rfl) dL_law_997 ⟨by omega, by omega⟩ (fun k G1 H locs h hG => ?_)
  obtain ⟨G2, r, ho1, hm1, hth, hla, hg2⟩ := h
  refine lv_istore (lv' := [(5, .int k), (0, .ref b), (1, .ref ax), (2, .ref am), (3, .ref ao), (4, .int xi)]) hx hb dL_law_1000 hl (by decide) rfl (fun ls hl => ?_)
  refine lv_aload_n hx hb dL_law_1002 rfl (lv_at hl 3 rfl) ?_
  refine lv_aload_n hx hb dL_law_1003 rfl (lv_at hl 1 rfl) ?_
  refine lv_iload hx hb dL_law_1004 (lv_at hl 5 rfl) ?_
  refine lv_iconst (v := (1 : Int32)) hx hb dL_law_1006 (by decide) ?_
  refine lv_iadd hx hb dL_law_1007 ?_
  refine va_sld hx hb hX hbl hbA hG.2.1 (hj 1 (by simp)) dL_law_1008 ?_
  refine g_cVi (As := [.int (xs (xi + (1 : Int32)).toNatClampNeg)]) (rest := []) (n := 1) hx hb hml hown hts hK hlo hG (m_X10_risk l dd cT lo G1 am (xs (xi + (1 : Int32)).toNatClampNeg) hm1) qM_L_152 qI_yX10_risk qS_X10_yX10_risk qN_X10 qC_yX10_risk (by decide +kernel) ⟨by omega, by omega⟩ (by rfl) ho1 rfl hl.1 rfl (Nat.le_of_ble_eq_true rfl) dL_law_1009 ⟨by omega, by omega⟩ (fun H locs hG => ?_)
  refine lv_istore (lv' := [(6, .int r), (5, .int k), (0, .ref b), (1, .ref ax), (2, .ref am), (3, .ref ao), (4, .int xi)]) hx hb dL_law_1012 hl (by decide) rfl (fun ls hl => ?_)
  refine lv_aload_n hx hb dL_law_1014 rfl (lv_at hl 4 rfl) ?_
  refine g_cVi (As := []) (rest := []) (n := 0) hx hb hml hown hts hK hlo hG (m_X10_thrown l dd cT lo G2 am hth) qM_L_101 qI_yX10_thrown qS_X10_yX10_thrown qN_X10 qC_yX10_thrown (by decide +kernel) ⟨by omega, by omega⟩ (by rfl) hg2.ob.1 rfl hl.1 rfl (Nat.le_of_ble_eq_true rfl) dL_law_1015 ⟨by omega, by omega⟩ (fun H locs hG => ?_)
  refine lv_iload hx hb dL_law_1018 (lv_at hl 1 rfl) ?_
  refine lv_icmp_eq (tgt := 1025) hx hb dL_law_1020 (by decide) (fun _ => ?_) (fun c9 => absurd rfl c9)
  refine lv_iload hx hb dL_law_1025 (lv_at hl 1 rfl) ?_
  refine lv_if_ne (tgt := 1042) hx hb dL_law_1027 (by decide) (fun _ => ?_) (fun c9 => ?_)
  · refine lv_goto (tgt := 1783) hx hb dL_law_1042 (by decide) ?_
    refine W.widen (k := cells + 40) (n := slots + 2000) (by omega) (by omega) ?_
    exact next _ _ _ _ hG hg2 (lv_sub hl [2, 3, 4, 5, 6] rfl)
  · refine lv_aload_n hx hb dL_law_1030 rfl (lv_at hl 5 rfl) ?_
    refine lv_iconst (v := (0 : Int32)) hx hb dL_law_1031 (by decide) ?_
    refine g_jald hx hb hK hG (hla c9) dL_law_1032 ?_
    refine lv_iload hx hb dL_law_1033 (lv_at hl 0 rfl) ?_
    refine lv_i2l hx hb dL_law_1035 rfl ?_
    refine W.lcmp hx hb dL_law_1036 ?_
    refine lv_if_eq (tgt := 1042) hx hb dL_law_1037 (by decide) (fun _ => ?_) (fun c8 => absurd ((lg_cmp0 r.toInt64 r.toInt64).mpr rfl) c8)
    refine lv_goto (tgt := 1783) hx hb dL_law_1042 (by decide) ?_
    refine W.widen (k := cells + 40) (n := slots + 2000) (by omega) (by omega) ?_
    exact next _ _ _ _ hG hg2 (lv_sub hl [2, 3, 4, 5, 6] rfl)
set_option maxRecDepth 20000 in
set_option maxHeartbeats 4000000 in
theorem lc_weakest {p : Program} {l : Launch} {e : Env} {R : Room} {s : State} {m : MethodId} {args : Array Value} {below : List Frame} {meth : Method} {c : Code} {H : Heap} {locs : List Loc} {cells slots : Nat} {Q : State → Prop} {ls : Array Slot} {lo : Nat} {dd : va_G} {cT : Nat → ClassId} {G : gH} {b L ax am ao : Nat} {xs : Nat → Int32} (hfl : l.stackTraces = false) (hx : p.tables.exec = Jvm.exec) (hb : c.code = cL_law) (hml : c.maxLocals = 9) (hown : s.vm.findClass RL = some m.cls) (hts : ∀ w ∈ wsL_law, w.before args s = true) (hK : g_K dd cT s) (hlo : lo ≤ s.heap.size) (hX : va_X b L xs s s.heap) (hbl : b < s.heap.size) (hbA : ¬ g_A lo b) (hR : 12 ≤ R.frames ∧ 300 ≤ R.locals) (hf : cells + 40 ≤ R.cells ∧ slots + 2000 ≤ R.slots) (hG : g_S lo dd cT s H locs G) (hg : zGd ax am ao G) {xi : Int32} (hj : ∀ k : Int32, k ∈ ([1, 2, 3, 4, 5] : List Int32) → vp_in (xi + k) L) (hl : lv_has ls 9 [(0, .ref b), (1, .ref ax), (2, .ref am), (3, .ref ao), (4, .int xi)]) (next : ∀ (H1 : Heap) (locs1 : List Loc) (G1 : gH) (ls1 : Array Slot), g_S lo dd cT s H1 locs1 G1 → zGd ax am ao G1 → lv_has ls1 9 [(0, .ref b), (1, .ref ax), (2, .ref am), (3, .ref ao), (4, .int xi)] → W p l e R s m args below meth c H1 locs1 (cells + 40) (slots + 2000) Q (F0 m 1783 ls1 [])) : W p l e R s m args below meth c H locs cells slots Q (F0 m 1045 ls []) := by
  refine lv_aload_n hx hb dL_law_1045 rfl (lv_at hl 1 rfl) ?_
  obtain ⟨G1, r, G2, hf9, ho1, hm1, hg2⟩ := L_weakest hg 
  refine g_cVi (As := []) (rest := []) (n := 0) hx hb hml hown hts hK hlo hG (m_X9_weakest l dd cT lo G ax  hf9) qM_L_153 qI_yX9_weakest qS_X9_yX9_weakest qN_X9 qC_yX9_weakest (by decide +kernel) ⟨by omega, by omega⟩ (by rfl) hg.ob.2 rfl hl.1 rfl (Nat.le_of_ble_eq_true rfl) dL_law_1046 ⟨by omega, by omega⟩ (fun H locs hG => ?_)
  refine lv_aload_n hx hb dL_law_1049 rfl (lv_at hl 2 rfl) ?_
  refine g_cVi (As := []) (rest := [.int r]) (n := 0) hx hb hml hown hts hK hlo hG (m_X10_weakest l dd cT lo G1 am  hm1) qM_L_156 qI_yX10_weakest qS_X10_yX10_weakest qN_X10 qC_yX10_weakest (by decide +kernel) ⟨by omega, by omega⟩ (by rfl) ho1 rfl hl.1 rfl (Nat.le_of_ble_eq_true rfl) dL_law_1050 ⟨by omega, by omega⟩ (fun H locs hG => ?_)
  refine lv_icmp_eq (tgt := 1783) hx hb dL_law_1053 (by decide) (fun _ => ?_) (fun c9 => absurd rfl c9)
  refine W.widen (k := cells + 40) (n := slots + 2000) (by omega) (by omega) ?_
  exact next _ _ _ _ hG hg2 (lv_sub hl [0, 1, 2, 3, 4] rfl)
set_option maxRecDepth 20000 in
set_option maxHeartbeats 4000000 in
theorem lc_filesBefore {p : Program} {l : Launch} {e : Env} {R : Room} {s : State} {m : MethodId} {args : Array Value} {below : List Frame} {meth : Method} {c : Code} {H : Heap} {locs : List Loc} {cells slots : Nat} {Q : State → Prop} {ls : Array Slot} {lo : Nat} {dd : va_G} {cT : Nat → ClassId} {G : gH} {b L ax am ao : Nat} {xs : Nat → Int32} (hfl : l.stackTraces = false) (hx : p.tables.exec = Jvm.exec) (hb : c.code = cL_law) (hml : c.maxLocals = 9) (hown : s.vm.findClass RL = some m.cls) (hts : ∀ w ∈ wsL_law, w.before args s = true) (hK : g_K dd cT s) (hlo : lo ≤ s.heap.size) (hX : va_X b L xs s s.heap) (hbl : b < s.heap.size) (hbA : ¬ g_A lo b) (hR : 12 ≤ R.frames ∧ 300 ≤ R.locals) (hf : cells + 40 ≤ R.cells ∧ slots + 2000 ≤ R.slots) (hG : g_S lo dd cT s H locs G) (hg : zGd ax am ao G) {xi : Int32} (hj : ∀ k : Int32, k ∈ ([1, 2, 3, 4, 5] : List Int32) → vp_in (xi + k) L) (hl : lv_has ls 9 [(0, .ref b), (1, .ref ax), (2, .ref am), (3, .ref ao), (4, .int xi)]) (next : ∀ (H1 : Heap) (locs1 : List Loc) (G1 : gH) (ls1 : Array Slot), g_S lo dd cT s H1 locs1 G1 → zGd ax am ao G1 → lv_has ls1 9 [(0, .ref b), (1, .ref ax), (2, .ref am), (3, .ref ao), (4, .int xi)] → W p l e R s m args below meth c H1 locs1 (cells + 40) (slots + 2000) Q (F0 m 1783 ls1 [])) : W p l e R s m args below meth c H locs cells slots Q (F0 m 1058 ls []) := by
  refine lv_aload_n hx hb dL_law_1058 rfl (lv_at hl 1 rfl) ?_
  refine lv_aload_n hx hb dL_law_1059 rfl (lv_at hl 0 rfl) ?_
  refine lv_iload hx hb dL_law_1060 (lv_at hl 4 rfl) ?_
  refine lv_iconst (v := (1 : Int32)) hx hb dL_law_1062 (by decide) ?_
  refine lv_iadd hx hb dL_law_1063 ?_
  refine va_sld hx hb hX hbl hbA hG.2.1 (hj 1 (by simp)) dL_law_1064 ?_
  refine lv_aload_n hx hb dL_law_1065 rfl (lv_at hl 3 rfl) ?_
  refine g_cHi (As := [.ref ax, .int (xs (xi + (1 : Int32)).toNatClampNeg), .ref ao]) (rest := []) (n := 3) hx hb hml hown hts hK hlo hG (m_L_filesBefore l hfl dd cT lo G ax (xs (xi + (1 : Int32)).toNatClampNeg) ao hg.ob.2 (L_filesBefore hg (xs (xi + (1 : Int32)).toNatClampNeg))) qM_L_157 qT_yL_filesBefore qN_L qC_yL_filesBefore (by decide +kernel) ⟨by omega, by omega⟩ rfl hl.1 rfl (Nat.le_of_ble_eq_true rfl) dL_law_1066 ⟨by omega, by omega⟩ (fun k G1 H locs h hG => ?_)
  obtain ⟨G2, r, ho1, hm1, hth, hla, hg2⟩ := h
  refine lv_istore (lv' := [(5, .int k), (0, .ref b), (1, .ref ax), (2, .ref am), (3, .ref ao), (4, .int xi)]) hx hb dL_law_1069 hl (by decide) rfl (fun ls hl => ?_)
  refine lv_aload_n hx hb dL_law_1071 rfl (lv_at hl 3 rfl) ?_
  refine lv_aload_n hx hb dL_law_1072 rfl (lv_at hl 1 rfl) ?_
  refine lv_iload hx hb dL_law_1073 (lv_at hl 5 rfl) ?_
  refine lv_iconst (v := (1 : Int32)) hx hb dL_law_1075 (by decide) ?_
  refine lv_iadd hx hb dL_law_1076 ?_
  refine va_sld hx hb hX hbl hbA hG.2.1 (hj 1 (by simp)) dL_law_1077 ?_
  refine g_cVi (As := [.int (xs (xi + (1 : Int32)).toNatClampNeg)]) (rest := []) (n := 1) hx hb hml hown hts hK hlo hG (m_X10_filesBefore l dd cT lo G1 am (xs (xi + (1 : Int32)).toNatClampNeg) hm1) qM_L_159 qI_yX10_filesBefore qS_X10_yX10_filesBefore qN_X10 qC_yX10_filesBefore (by decide +kernel) ⟨by omega, by omega⟩ (by rfl) ho1 rfl hl.1 rfl (Nat.le_of_ble_eq_true rfl) dL_law_1078 ⟨by omega, by omega⟩ (fun H locs hG => ?_)
  refine lv_istore (lv' := [(6, .int r), (5, .int k), (0, .ref b), (1, .ref ax), (2, .ref am), (3, .ref ao), (4, .int xi)]) hx hb dL_law_1081 hl (by decide) rfl (fun ls hl => ?_)
  refine lv_aload_n hx hb dL_law_1083 rfl (lv_at hl 4 rfl) ?_
  refine g_cVi (As := []) (rest := []) (n := 0) hx hb hml hown hts hK hlo hG (m_X10_thrown l dd cT lo G2 am hth) qM_L_101 qI_yX10_thrown qS_X10_yX10_thrown qN_X10 qC_yX10_thrown (by decide +kernel) ⟨by omega, by omega⟩ (by rfl) hg2.ob.1 rfl hl.1 rfl (Nat.le_of_ble_eq_true rfl) dL_law_1084 ⟨by omega, by omega⟩ (fun H locs hG => ?_)
  refine lv_iload hx hb dL_law_1087 (lv_at hl 1 rfl) ?_
  refine lv_icmp_eq (tgt := 1094) hx hb dL_law_1089 (by decide) (fun _ => ?_) (fun c9 => absurd rfl c9)
  refine lv_iload hx hb dL_law_1094 (lv_at hl 1 rfl) ?_
  refine lv_if_ne (tgt := 1111) hx hb dL_law_1096 (by decide) (fun _ => ?_) (fun c9 => ?_)
  · refine lv_goto (tgt := 1783) hx hb dL_law_1111 (by decide) ?_
    refine W.widen (k := cells + 40) (n := slots + 2000) (by omega) (by omega) ?_
    exact next _ _ _ _ hG hg2 (lv_sub hl [2, 3, 4, 5, 6] rfl)
  · refine lv_aload_n hx hb dL_law_1099 rfl (lv_at hl 5 rfl) ?_
    refine lv_iconst (v := (0 : Int32)) hx hb dL_law_1100 (by decide) ?_
    refine g_jald hx hb hK hG (hla c9) dL_law_1101 ?_
    refine lv_iload hx hb dL_law_1102 (lv_at hl 0 rfl) ?_
    refine lv_i2l hx hb dL_law_1104 rfl ?_
    refine W.lcmp hx hb dL_law_1105 ?_
    refine lv_if_eq (tgt := 1111) hx hb dL_law_1106 (by decide) (fun _ => ?_) (fun c8 => absurd ((lg_cmp0 r.toInt64 r.toInt64).mpr rfl) c8)
    refine lv_goto (tgt := 1783) hx hb dL_law_1111 (by decide) ?_
    refine W.widen (k := cells + 40) (n := slots + 2000) (by omega) (by omega) ?_
    exact next _ _ _ _ hG hg2 (lv_sub hl [2, 3, 4, 5, 6] rfl)
set_option maxRecDepth 20000 in
set_option maxHeartbeats 4000000 in
theorem lc_space {p : Program} {l : Launch} {e : Env} {R : Room} {s : State} {m : MethodId} {args : Array Value} {below : List Frame} {meth : Method} {c : Code} {H : Heap} {locs : List Loc} {cells slots : Nat} {Q : State → Prop} {ls : Array Slot} {lo : Nat} {dd : va_G} {cT : Nat → ClassId} {G : gH} {b L ax am ao : Nat} {xs : Nat → Int32} (hfl : l.stackTraces = false) (hx : p.tables.exec = Jvm.exec) (hb : c.code = cL_law) (hml : c.maxLocals = 9) (hown : s.vm.findClass RL = some m.cls) (hts : ∀ w ∈ wsL_law, w.before args s = true) (hK : g_K dd cT s) (hlo : lo ≤ s.heap.size) (hX : va_X b L xs s s.heap) (hbl : b < s.heap.size) (hbA : ¬ g_A lo b) (hR : 12 ≤ R.frames ∧ 300 ≤ R.locals) (hf : cells + 40 ≤ R.cells ∧ slots + 2000 ≤ R.slots) (hG : g_S lo dd cT s H locs G) (hg : zGd ax am ao G) {xi : Int32} (hj : ∀ k : Int32, k ∈ ([1, 2, 3, 4, 5] : List Int32) → vp_in (xi + k) L) (hl : lv_has ls 9 [(0, .ref b), (1, .ref ax), (2, .ref am), (3, .ref ao), (4, .int xi)]) (next : ∀ (H1 : Heap) (locs1 : List Loc) (G1 : gH) (ls1 : Array Slot), g_S lo dd cT s H1 locs1 G1 → zGd ax am ao G1 → lv_has ls1 9 [(0, .ref b), (1, .ref ax), (2, .ref am), (3, .ref ao), (4, .int xi)] → W p l e R s m args below meth c H1 locs1 (cells + 40) (slots + 2000) Q (F0 m 1783 ls1 [])) : W p l e R s m args below meth c H locs cells slots Q (F0 m 1114 ls []) := by
  refine lv_aload_n hx hb dL_law_1114 rfl (lv_at hl 1 rfl) ?_
  refine lv_aload_n hx hb dL_law_1115 rfl (lv_at hl 0 rfl) ?_
  refine lv_iload hx hb dL_law_1116 (lv_at hl 4 rfl) ?_
  refine lv_iconst (v := (1 : Int32)) hx hb dL_law_1118 (by decide) ?_
  refine lv_iadd hx hb dL_law_1119 ?_
  refine va_sld hx hb hX hbl hbA hG.2.1 (hj 1 (by simp)) dL_law_1120 ?_
  refine lv_aload_n hx hb dL_law_1121 rfl (lv_at hl 3 rfl) ?_
  refine g_cHi (As := [.ref ax, .int (xs (xi + (1 : Int32)).toNatClampNeg), .ref ao]) (rest := []) (n := 3) hx hb hml hown hts hK hlo hG (m_L_space l hfl dd cT lo G ax (xs (xi + (1 : Int32)).toNatClampNeg) ao hg.ob.2 (L_space hg (xs (xi + (1 : Int32)).toNatClampNeg))) qM_L_160 qT_yL_space qN_L qC_yL_space (by decide +kernel) ⟨by omega, by omega⟩ rfl hl.1 rfl (Nat.le_of_ble_eq_true rfl) dL_law_1122 ⟨by omega, by omega⟩ (fun k G1 H locs h hG => ?_)
  obtain ⟨G2, r, ho1, hm1, hth, hla, hg2⟩ := h
  refine lv_istore (lv' := [(5, .int k), (0, .ref b), (1, .ref ax), (2, .ref am), (3, .ref ao), (4, .int xi)]) hx hb dL_law_1125 hl (by decide) rfl (fun ls hl => ?_)
  refine lv_aload_n hx hb dL_law_1127 rfl (lv_at hl 3 rfl) ?_
  refine lv_aload_n hx hb dL_law_1128 rfl (lv_at hl 1 rfl) ?_
  refine lv_iload hx hb dL_law_1129 (lv_at hl 5 rfl) ?_
  refine lv_iconst (v := (1 : Int32)) hx hb dL_law_1131 (by decide) ?_
  refine lv_iadd hx hb dL_law_1132 ?_
  refine va_sld hx hb hX hbl hbA hG.2.1 (hj 1 (by simp)) dL_law_1133 ?_
  refine g_cVi (As := [.int (xs (xi + (1 : Int32)).toNatClampNeg)]) (rest := []) (n := 1) hx hb hml hown hts hK hlo hG (m_X10_space l dd cT lo G1 am (xs (xi + (1 : Int32)).toNatClampNeg) hm1) qM_L_162 qI_yX10_space qS_X10_yX10_space qN_X10 qC_yX10_space (by decide +kernel) ⟨by omega, by omega⟩ (by rfl) ho1 rfl hl.1 rfl (Nat.le_of_ble_eq_true rfl) dL_law_1134 ⟨by omega, by omega⟩ (fun H locs hG => ?_)
  refine lv_istore (lv' := [(6, .int r), (5, .int k), (0, .ref b), (1, .ref ax), (2, .ref am), (3, .ref ao), (4, .int xi)]) hx hb dL_law_1137 hl (by decide) rfl (fun ls hl => ?_)
  refine lv_aload_n hx hb dL_law_1139 rfl (lv_at hl 4 rfl) ?_
  refine g_cVi (As := []) (rest := []) (n := 0) hx hb hml hown hts hK hlo hG (m_X10_thrown l dd cT lo G2 am hth) qM_L_101 qI_yX10_thrown qS_X10_yX10_thrown qN_X10 qC_yX10_thrown (by decide +kernel) ⟨by omega, by omega⟩ (by rfl) hg2.ob.1 rfl hl.1 rfl (Nat.le_of_ble_eq_true rfl) dL_law_1140 ⟨by omega, by omega⟩ (fun H locs hG => ?_)
  refine lv_iload hx hb dL_law_1143 (lv_at hl 1 rfl) ?_
  refine lv_icmp_eq (tgt := 1150) hx hb dL_law_1145 (by decide) (fun _ => ?_) (fun c9 => absurd rfl c9)
  refine lv_iload hx hb dL_law_1150 (lv_at hl 1 rfl) ?_
  refine lv_if_ne (tgt := 1167) hx hb dL_law_1152 (by decide) (fun _ => ?_) (fun c9 => ?_)
  · refine lv_goto (tgt := 1783) hx hb dL_law_1167 (by decide) ?_
    refine W.widen (k := cells + 40) (n := slots + 2000) (by omega) (by omega) ?_
    exact next _ _ _ _ hG hg2 (lv_sub hl [2, 3, 4, 5, 6] rfl)
  · refine lv_aload_n hx hb dL_law_1155 rfl (lv_at hl 5 rfl) ?_
    refine lv_iconst (v := (0 : Int32)) hx hb dL_law_1156 (by decide) ?_
    refine g_jald hx hb hK hG (hla c9) dL_law_1157 ?_
    refine lv_iload hx hb dL_law_1158 (lv_at hl 0 rfl) ?_
    refine lv_i2l hx hb dL_law_1160 rfl ?_
    refine W.lcmp hx hb dL_law_1161 ?_
    refine lv_if_eq (tgt := 1167) hx hb dL_law_1162 (by decide) (fun _ => ?_) (fun c8 => absurd ((lg_cmp0 r.toInt64 r.toInt64).mpr rfl) c8)
    refine lv_goto (tgt := 1783) hx hb dL_law_1167 (by decide) ?_
    refine W.widen (k := cells + 40) (n := slots + 2000) (by omega) (by omega) ?_
    exact next _ _ _ _ hG hg2 (lv_sub hl [2, 3, 4, 5, 6] rfl)
set_option maxRecDepth 20000 in
set_option maxHeartbeats 4000000 in
theorem lc_spaceOf {p : Program} {l : Launch} {e : Env} {R : Room} {s : State} {m : MethodId} {args : Array Value} {below : List Frame} {meth : Method} {c : Code} {H : Heap} {locs : List Loc} {cells slots : Nat} {Q : State → Prop} {ls : Array Slot} {lo : Nat} {dd : va_G} {cT : Nat → ClassId} {G : gH} {b L ax am ao : Nat} {xs : Nat → Int32} (hfl : l.stackTraces = false) (hx : p.tables.exec = Jvm.exec) (hb : c.code = cL_law) (hml : c.maxLocals = 9) (hown : s.vm.findClass RL = some m.cls) (hts : ∀ w ∈ wsL_law, w.before args s = true) (hK : g_K dd cT s) (hlo : lo ≤ s.heap.size) (hX : va_X b L xs s s.heap) (hbl : b < s.heap.size) (hbA : ¬ g_A lo b) (hR : 12 ≤ R.frames ∧ 300 ≤ R.locals) (hf : cells + 40 ≤ R.cells ∧ slots + 2000 ≤ R.slots) (hG : g_S lo dd cT s H locs G) (hg : zGd ax am ao G) {xi : Int32} (hj : ∀ k : Int32, k ∈ ([1, 2, 3, 4, 5] : List Int32) → vp_in (xi + k) L) (hl : lv_has ls 9 [(0, .ref b), (1, .ref ax), (2, .ref am), (3, .ref ao), (4, .int xi)]) (next : ∀ (H1 : Heap) (locs1 : List Loc) (G1 : gH) (ls1 : Array Slot), g_S lo dd cT s H1 locs1 G1 → zGd ax am ao G1 → lv_has ls1 9 [(0, .ref b), (1, .ref ax), (2, .ref am), (3, .ref ao), (4, .int xi)] → W p l e R s m args below meth c H1 locs1 (cells + 40) (slots + 2000) Q (F0 m 1783 ls1 [])) : W p l e R s m args below meth c H locs cells slots Q (F0 m 1170 ls []) := by
  refine lv_aload_n hx hb dL_law_1170 rfl (lv_at hl 1 rfl) ?_
  refine lv_aload_n hx hb dL_law_1171 rfl (lv_at hl 0 rfl) ?_
  refine lv_iload hx hb dL_law_1172 (lv_at hl 4 rfl) ?_
  refine lv_iconst (v := (1 : Int32)) hx hb dL_law_1174 (by decide) ?_
  refine lv_iadd hx hb dL_law_1175 ?_
  refine va_sld hx hb hX hbl hbA hG.2.1 (hj 1 (by simp)) dL_law_1176 ?_
  refine lv_aload_n hx hb dL_law_1177 rfl (lv_at hl 0 rfl) ?_
  refine lv_iload hx hb dL_law_1178 (lv_at hl 4 rfl) ?_
  refine lv_iconst (v := (2 : Int32)) hx hb dL_law_1180 (by decide) ?_
  refine lv_iadd hx hb dL_law_1181 ?_
  refine va_sld hx hb hX hbl hbA hG.2.1 (hj 2 (by simp)) dL_law_1182 ?_
  refine lv_aload_n hx hb dL_law_1183 rfl (lv_at hl 3 rfl) ?_
  refine g_cHi (As := [.ref ax, .int (xs (xi + (1 : Int32)).toNatClampNeg), .int (xs (xi + (2 : Int32)).toNatClampNeg), .ref ao]) (rest := []) (n := 4) hx hb hml hown hts hK hlo hG (m_L_spaceOf l hfl dd cT lo G ax (xs (xi + (1 : Int32)).toNatClampNeg) (xs (xi + (2 : Int32)).toNatClampNeg) ao hg.ob.2 (L_spaceOf hg (xs (xi + (1 : Int32)).toNatClampNeg) (xs (xi + (2 : Int32)).toNatClampNeg))) qM_L_163 qT_yL_spaceOf qN_L qC_yL_spaceOf (by decide +kernel) ⟨by omega, by omega⟩ rfl hl.1 rfl (Nat.le_of_ble_eq_true rfl) dL_law_1184 ⟨by omega, by omega⟩ (fun k G1 H locs h hG => ?_)
  obtain ⟨G2, r, ho1, hm1, hth, hla, hg2⟩ := h
  refine lv_istore (lv' := [(5, .int k), (0, .ref b), (1, .ref ax), (2, .ref am), (3, .ref ao), (4, .int xi)]) hx hb dL_law_1187 hl (by decide) rfl (fun ls hl => ?_)
  refine lv_aload_n hx hb dL_law_1189 rfl (lv_at hl 3 rfl) ?_
  refine lv_aload_n hx hb dL_law_1190 rfl (lv_at hl 1 rfl) ?_
  refine lv_iload hx hb dL_law_1191 (lv_at hl 5 rfl) ?_
  refine lv_iconst (v := (1 : Int32)) hx hb dL_law_1193 (by decide) ?_
  refine lv_iadd hx hb dL_law_1194 ?_
  refine va_sld hx hb hX hbl hbA hG.2.1 (hj 1 (by simp)) dL_law_1195 ?_
  refine lv_aload_n hx hb dL_law_1196 rfl (lv_at hl 1 rfl) ?_
  refine lv_iload hx hb dL_law_1197 (lv_at hl 5 rfl) ?_
  refine lv_iconst (v := (2 : Int32)) hx hb dL_law_1199 (by decide) ?_
  refine lv_iadd hx hb dL_law_1200 ?_
  refine va_sld hx hb hX hbl hbA hG.2.1 (hj 2 (by simp)) dL_law_1201 ?_
  refine g_cVi (As := [.int (xs (xi + (1 : Int32)).toNatClampNeg), .int (xs (xi + (2 : Int32)).toNatClampNeg)]) (rest := []) (n := 2) hx hb hml hown hts hK hlo hG (m_X10_spaceOf l dd cT lo G1 am (xs (xi + (1 : Int32)).toNatClampNeg) (xs (xi + (2 : Int32)).toNatClampNeg) hm1) qM_L_165 qI_yX10_spaceOf qS_X10_yX10_spaceOf qN_X10 qC_yX10_spaceOf (by decide +kernel) ⟨by omega, by omega⟩ (by rfl) ho1 rfl hl.1 rfl (Nat.le_of_ble_eq_true rfl) dL_law_1202 ⟨by omega, by omega⟩ (fun H locs hG => ?_)
  refine lv_istore (lv' := [(6, .int r), (5, .int k), (0, .ref b), (1, .ref ax), (2, .ref am), (3, .ref ao), (4, .int xi)]) hx hb dL_law_1205 hl (by decide) rfl (fun ls hl => ?_)
  refine lv_aload_n hx hb dL_law_1207 rfl (lv_at hl 4 rfl) ?_
  refine g_cVi (As := []) (rest := []) (n := 0) hx hb hml hown hts hK hlo hG (m_X10_thrown l dd cT lo G2 am hth) qM_L_101 qI_yX10_thrown qS_X10_yX10_thrown qN_X10 qC_yX10_thrown (by decide +kernel) ⟨by omega, by omega⟩ (by rfl) hg2.ob.1 rfl hl.1 rfl (Nat.le_of_ble_eq_true rfl) dL_law_1208 ⟨by omega, by omega⟩ (fun H locs hG => ?_)
  refine lv_iload hx hb dL_law_1211 (lv_at hl 1 rfl) ?_
  refine lv_icmp_eq (tgt := 1218) hx hb dL_law_1213 (by decide) (fun _ => ?_) (fun c9 => absurd rfl c9)
  refine lv_iload hx hb dL_law_1218 (lv_at hl 1 rfl) ?_
  refine lv_if_ne (tgt := 1235) hx hb dL_law_1220 (by decide) (fun _ => ?_) (fun c9 => ?_)
  · refine lv_goto (tgt := 1783) hx hb dL_law_1235 (by decide) ?_
    refine W.widen (k := cells + 40) (n := slots + 2000) (by omega) (by omega) ?_
    exact next _ _ _ _ hG hg2 (lv_sub hl [2, 3, 4, 5, 6] rfl)
  · refine lv_aload_n hx hb dL_law_1223 rfl (lv_at hl 5 rfl) ?_
    refine lv_iconst (v := (0 : Int32)) hx hb dL_law_1224 (by decide) ?_
    refine g_jald hx hb hK hG (hla c9) dL_law_1225 ?_
    refine lv_iload hx hb dL_law_1226 (lv_at hl 0 rfl) ?_
    refine lv_i2l hx hb dL_law_1228 rfl ?_
    refine W.lcmp hx hb dL_law_1229 ?_
    refine lv_if_eq (tgt := 1235) hx hb dL_law_1230 (by decide) (fun _ => ?_) (fun c8 => absurd ((lg_cmp0 r.toInt64 r.toInt64).mpr rfl) c8)
    refine lv_goto (tgt := 1783) hx hb dL_law_1235 (by decide) ?_
    refine W.widen (k := cells + 40) (n := slots + 2000) (by omega) (by omega) ?_
    exact next _ _ _ _ hG hg2 (lv_sub hl [2, 3, 4, 5, 6] rfl)
set_option maxRecDepth 20000 in
set_option maxHeartbeats 4000000 in
theorem lc_write {p : Program} {l : Launch} {e : Env} {R : Room} {s : State} {m : MethodId} {args : Array Value} {below : List Frame} {meth : Method} {c : Code} {H : Heap} {locs : List Loc} {cells slots : Nat} {Q : State → Prop} {ls : Array Slot} {lo : Nat} {dd : va_G} {cT : Nat → ClassId} {G : gH} {b L ax am ao : Nat} {xs : Nat → Int32} (hfl : l.stackTraces = false) (hx : p.tables.exec = Jvm.exec) (hb : c.code = cL_law) (hml : c.maxLocals = 9) (hown : s.vm.findClass RL = some m.cls) (hts : ∀ w ∈ wsL_law, w.before args s = true) (hK : g_K dd cT s) (hlo : lo ≤ s.heap.size) (hX : va_X b L xs s s.heap) (hbl : b < s.heap.size) (hbA : ¬ g_A lo b) (hR : 12 ≤ R.frames ∧ 300 ≤ R.locals) (hf : cells + 40 ≤ R.cells ∧ slots + 2000 ≤ R.slots) (hG : g_S lo dd cT s H locs G) (hg : zGd ax am ao G) {xi : Int32} (hj : ∀ k : Int32, k ∈ ([1, 2, 3, 4, 5] : List Int32) → vp_in (xi + k) L) (hl : lv_has ls 9 [(0, .ref b), (1, .ref ax), (2, .ref am), (3, .ref ao), (4, .int xi)]) (next : ∀ (H1 : Heap) (locs1 : List Loc) (G1 : gH) (ls1 : Array Slot), g_S lo dd cT s H1 locs1 G1 → zGd ax am ao G1 → lv_has ls1 9 [(0, .ref b), (1, .ref ax), (2, .ref am), (3, .ref ao), (4, .int xi)] → W p l e R s m args below meth c H1 locs1 (cells + 40) (slots + 2000) Q (F0 m 1783 ls1 [])) : W p l e R s m args below meth c H locs cells slots Q (F0 m 1279 ls []) := by
  refine lv_aload_n hx hb dL_law_1279 rfl (lv_at hl 1 rfl) ?_
  refine lv_aload_n hx hb dL_law_1280 rfl (lv_at hl 0 rfl) ?_
  refine lv_iload hx hb dL_law_1281 (lv_at hl 4 rfl) ?_
  refine lv_iconst (v := (1 : Int32)) hx hb dL_law_1283 (by decide) ?_
  refine lv_iadd hx hb dL_law_1284 ?_
  refine va_sld hx hb hX hbl hbA hG.2.1 (hj 1 (by simp)) dL_law_1285 ?_
  refine lv_aload_n hx hb dL_law_1286 rfl (lv_at hl 0 rfl) ?_
  refine lv_iload hx hb dL_law_1287 (lv_at hl 4 rfl) ?_
  refine lv_iconst (v := (2 : Int32)) hx hb dL_law_1289 (by decide) ?_
  refine lv_iadd hx hb dL_law_1290 ?_
  refine va_sld hx hb hX hbl hbA hG.2.1 (hj 2 (by simp)) dL_law_1291 ?_
  refine lv_aload_n hx hb dL_law_1292 rfl (lv_at hl 0 rfl) ?_
  refine lv_iload hx hb dL_law_1293 (lv_at hl 4 rfl) ?_
  refine lv_iconst (v := (3 : Int32)) hx hb dL_law_1295 (by decide) ?_
  refine lv_iadd hx hb dL_law_1296 ?_
  refine va_sld hx hb hX hbl hbA hG.2.1 (hj 3 (by simp)) dL_law_1297 ?_
  refine lv_aload_n hx hb dL_law_1298 rfl (lv_at hl 3 rfl) ?_
  refine g_cHi (As := [.ref ax, .int (xs (xi + (1 : Int32)).toNatClampNeg), .int (xs (xi + (2 : Int32)).toNatClampNeg), .int (xs (xi + (3 : Int32)).toNatClampNeg), .ref ao]) (rest := []) (n := 5) hx hb hml hown hts hK hlo hG (m_L_write l hfl dd cT lo G ax (xs (xi + (1 : Int32)).toNatClampNeg) (xs (xi + (2 : Int32)).toNatClampNeg) (xs (xi + (3 : Int32)).toNatClampNeg) ao hg.ob.2 (L_write hg (xs (xi + (1 : Int32)).toNatClampNeg) (xs (xi + (2 : Int32)).toNatClampNeg) (xs (xi + (3 : Int32)).toNatClampNeg))) qM_L_171 qT_yL_write qN_L qC_yL_write (by decide +kernel) ⟨by omega, by omega⟩ rfl hl.1 rfl (Nat.le_of_ble_eq_true rfl) dL_law_1299 ⟨by omega, by omega⟩ (fun k G1 H locs h hG => ?_)
  obtain ⟨G2, r, ho1, hm1, hth, hla, hg2⟩ := h
  refine lv_istore (lv' := [(5, .int k), (0, .ref b), (1, .ref ax), (2, .ref am), (3, .ref ao), (4, .int xi)]) hx hb dL_law_1302 hl (by decide) rfl (fun ls hl => ?_)
  refine lv_aload_n hx hb dL_law_1304 rfl (lv_at hl 3 rfl) ?_
  refine lv_aload_n hx hb dL_law_1305 rfl (lv_at hl 1 rfl) ?_
  refine lv_iload hx hb dL_law_1306 (lv_at hl 5 rfl) ?_
  refine lv_iconst (v := (1 : Int32)) hx hb dL_law_1308 (by decide) ?_
  refine lv_iadd hx hb dL_law_1309 ?_
  refine va_sld hx hb hX hbl hbA hG.2.1 (hj 1 (by simp)) dL_law_1310 ?_
  refine lv_aload_n hx hb dL_law_1311 rfl (lv_at hl 1 rfl) ?_
  refine lv_iload hx hb dL_law_1312 (lv_at hl 5 rfl) ?_
  refine lv_iconst (v := (2 : Int32)) hx hb dL_law_1314 (by decide) ?_
  refine lv_iadd hx hb dL_law_1315 ?_
  refine va_sld hx hb hX hbl hbA hG.2.1 (hj 2 (by simp)) dL_law_1316 ?_
  refine lv_aload_n hx hb dL_law_1317 rfl (lv_at hl 1 rfl) ?_
  refine lv_iload hx hb dL_law_1318 (lv_at hl 5 rfl) ?_
  refine lv_iconst (v := (3 : Int32)) hx hb dL_law_1320 (by decide) ?_
  refine lv_iadd hx hb dL_law_1321 ?_
  refine va_sld hx hb hX hbl hbA hG.2.1 (hj 3 (by simp)) dL_law_1322 ?_
  refine g_cVi (As := [.int (xs (xi + (1 : Int32)).toNatClampNeg), .int (xs (xi + (2 : Int32)).toNatClampNeg), .int (xs (xi + (3 : Int32)).toNatClampNeg)]) (rest := []) (n := 3) hx hb hml hown hts hK hlo hG (m_X10_write l dd cT lo G1 am (xs (xi + (1 : Int32)).toNatClampNeg) (xs (xi + (2 : Int32)).toNatClampNeg) (xs (xi + (3 : Int32)).toNatClampNeg) hm1) qM_L_173 qI_yX10_write qS_X10_yX10_write qN_X10 qC_yX10_write (by decide +kernel) ⟨by omega, by omega⟩ (by rfl) ho1 rfl hl.1 rfl (Nat.le_of_ble_eq_true rfl) dL_law_1323 ⟨by omega, by omega⟩ (fun H locs hG => ?_)
  refine lv_istore (lv' := [(6, .int r), (5, .int k), (0, .ref b), (1, .ref ax), (2, .ref am), (3, .ref ao), (4, .int xi)]) hx hb dL_law_1326 hl (by decide) rfl (fun ls hl => ?_)
  refine lv_aload_n hx hb dL_law_1328 rfl (lv_at hl 4 rfl) ?_
  refine g_cVi (As := []) (rest := []) (n := 0) hx hb hml hown hts hK hlo hG (m_X10_thrown l dd cT lo G2 am hth) qM_L_101 qI_yX10_thrown qS_X10_yX10_thrown qN_X10 qC_yX10_thrown (by decide +kernel) ⟨by omega, by omega⟩ (by rfl) hg2.ob.1 rfl hl.1 rfl (Nat.le_of_ble_eq_true rfl) dL_law_1329 ⟨by omega, by omega⟩ (fun H locs hG => ?_)
  refine lv_iload hx hb dL_law_1332 (lv_at hl 1 rfl) ?_
  refine lv_icmp_eq (tgt := 1339) hx hb dL_law_1334 (by decide) (fun _ => ?_) (fun c9 => absurd rfl c9)
  refine lv_iload hx hb dL_law_1339 (lv_at hl 1 rfl) ?_
  refine lv_if_ne (tgt := 1356) hx hb dL_law_1341 (by decide) (fun _ => ?_) (fun c9 => ?_)
  · refine lv_goto (tgt := 1783) hx hb dL_law_1356 (by decide) ?_
    refine W.widen (k := cells + 40) (n := slots + 2000) (by omega) (by omega) ?_
    exact next _ _ _ _ hG hg2 (lv_sub hl [2, 3, 4, 5, 6] rfl)
  · refine lv_aload_n hx hb dL_law_1344 rfl (lv_at hl 5 rfl) ?_
    refine lv_iconst (v := (0 : Int32)) hx hb dL_law_1345 (by decide) ?_
    refine g_jald hx hb hK hG (hla c9) dL_law_1346 ?_
    refine lv_iload hx hb dL_law_1347 (lv_at hl 0 rfl) ?_
    refine lv_i2l hx hb dL_law_1349 rfl ?_
    refine W.lcmp hx hb dL_law_1350 ?_
    refine lv_if_eq (tgt := 1356) hx hb dL_law_1351 (by decide) (fun _ => ?_) (fun c8 => absurd ((lg_cmp0 r.toInt64 r.toInt64).mpr rfl) c8)
    refine lv_goto (tgt := 1783) hx hb dL_law_1356 (by decide) ?_
    refine W.widen (k := cells + 40) (n := slots + 2000) (by omega) (by omega) ?_
    exact next _ _ _ _ hG hg2 (lv_sub hl [2, 3, 4, 5, 6] rfl)
set_option maxRecDepth 20000 in
set_option maxHeartbeats 4000000 in
theorem lc_erase {p : Program} {l : Launch} {e : Env} {R : Room} {s : State} {m : MethodId} {args : Array Value} {below : List Frame} {meth : Method} {c : Code} {H : Heap} {locs : List Loc} {cells slots : Nat} {Q : State → Prop} {ls : Array Slot} {lo : Nat} {dd : va_G} {cT : Nat → ClassId} {G : gH} {b L ax am ao : Nat} {xs : Nat → Int32} (hfl : l.stackTraces = false) (hx : p.tables.exec = Jvm.exec) (hb : c.code = cL_law) (hml : c.maxLocals = 9) (hown : s.vm.findClass RL = some m.cls) (hts : ∀ w ∈ wsL_law, w.before args s = true) (hK : g_K dd cT s) (hlo : lo ≤ s.heap.size) (hX : va_X b L xs s s.heap) (hbl : b < s.heap.size) (hbA : ¬ g_A lo b) (hR : 12 ≤ R.frames ∧ 300 ≤ R.locals) (hf : cells + 40 ≤ R.cells ∧ slots + 2000 ≤ R.slots) (hG : g_S lo dd cT s H locs G) (hg : zGd ax am ao G) {xi : Int32} (hj : ∀ k : Int32, k ∈ ([1, 2, 3, 4, 5] : List Int32) → vp_in (xi + k) L) (hl : lv_has ls 9 [(0, .ref b), (1, .ref ax), (2, .ref am), (3, .ref ao), (4, .int xi)]) (next : ∀ (H1 : Heap) (locs1 : List Loc) (G1 : gH) (ls1 : Array Slot), g_S lo dd cT s H1 locs1 G1 → zGd ax am ao G1 → lv_has ls1 9 [(0, .ref b), (1, .ref ax), (2, .ref am), (3, .ref ao), (4, .int xi)] → W p l e R s m args below meth c H1 locs1 (cells + 40) (slots + 2000) Q (F0 m 1783 ls1 [])) : W p l e R s m args below meth c H locs cells slots Q (F0 m 1359 ls []) := by
  refine lv_aload_n hx hb dL_law_1359 rfl (lv_at hl 1 rfl) ?_
  refine lv_aload_n hx hb dL_law_1360 rfl (lv_at hl 0 rfl) ?_
  refine lv_iload hx hb dL_law_1361 (lv_at hl 4 rfl) ?_
  refine lv_iconst (v := (1 : Int32)) hx hb dL_law_1363 (by decide) ?_
  refine lv_iadd hx hb dL_law_1364 ?_
  refine va_sld hx hb hX hbl hbA hG.2.1 (hj 1 (by simp)) dL_law_1365 ?_
  refine lv_aload_n hx hb dL_law_1366 rfl (lv_at hl 3 rfl) ?_
  refine g_cHi (As := [.ref ax, .int (xs (xi + (1 : Int32)).toNatClampNeg), .ref ao]) (rest := []) (n := 3) hx hb hml hown hts hK hlo hG (m_L_erase l hfl dd cT lo G ax (xs (xi + (1 : Int32)).toNatClampNeg) ao hg.ob.2 (L_erase hg (xs (xi + (1 : Int32)).toNatClampNeg))) qM_L_174 qT_yL_erase qN_L qC_yL_erase (by decide +kernel) ⟨by omega, by omega⟩ rfl hl.1 rfl (Nat.le_of_ble_eq_true rfl) dL_law_1367 ⟨by omega, by omega⟩ (fun k G1 H locs h hG => ?_)
  obtain ⟨G2, r, ho1, hm1, hth, hla, hg2⟩ := h
  refine lv_istore (lv' := [(5, .int k), (0, .ref b), (1, .ref ax), (2, .ref am), (3, .ref ao), (4, .int xi)]) hx hb dL_law_1370 hl (by decide) rfl (fun ls hl => ?_)
  refine lv_aload_n hx hb dL_law_1372 rfl (lv_at hl 3 rfl) ?_
  refine lv_aload_n hx hb dL_law_1373 rfl (lv_at hl 1 rfl) ?_
  refine lv_iload hx hb dL_law_1374 (lv_at hl 5 rfl) ?_
  refine lv_iconst (v := (1 : Int32)) hx hb dL_law_1376 (by decide) ?_
  refine lv_iadd hx hb dL_law_1377 ?_
  refine va_sld hx hb hX hbl hbA hG.2.1 (hj 1 (by simp)) dL_law_1378 ?_
  refine g_cVi (As := [.int (xs (xi + (1 : Int32)).toNatClampNeg)]) (rest := []) (n := 1) hx hb hml hown hts hK hlo hG (m_X10_erase l dd cT lo G1 am (xs (xi + (1 : Int32)).toNatClampNeg) hm1) qM_L_176 qI_yX10_erase qS_X10_yX10_erase qN_X10 qC_yX10_erase (by decide +kernel) ⟨by omega, by omega⟩ (by rfl) ho1 rfl hl.1 rfl (Nat.le_of_ble_eq_true rfl) dL_law_1379 ⟨by omega, by omega⟩ (fun H locs hG => ?_)
  refine lv_istore (lv' := [(6, .int r), (5, .int k), (0, .ref b), (1, .ref ax), (2, .ref am), (3, .ref ao), (4, .int xi)]) hx hb dL_law_1382 hl (by decide) rfl (fun ls hl => ?_)
  refine lv_aload_n hx hb dL_law_1384 rfl (lv_at hl 4 rfl) ?_
  refine g_cVi (As := []) (rest := []) (n := 0) hx hb hml hown hts hK hlo hG (m_X10_thrown l dd cT lo G2 am hth) qM_L_101 qI_yX10_thrown qS_X10_yX10_thrown qN_X10 qC_yX10_thrown (by decide +kernel) ⟨by omega, by omega⟩ (by rfl) hg2.ob.1 rfl hl.1 rfl (Nat.le_of_ble_eq_true rfl) dL_law_1385 ⟨by omega, by omega⟩ (fun H locs hG => ?_)
  refine lv_iload hx hb dL_law_1388 (lv_at hl 1 rfl) ?_
  refine lv_icmp_eq (tgt := 1395) hx hb dL_law_1390 (by decide) (fun _ => ?_) (fun c9 => absurd rfl c9)
  refine lv_iload hx hb dL_law_1395 (lv_at hl 1 rfl) ?_
  refine lv_if_ne (tgt := 1412) hx hb dL_law_1397 (by decide) (fun _ => ?_) (fun c9 => ?_)
  · refine lv_goto (tgt := 1783) hx hb dL_law_1412 (by decide) ?_
    refine W.widen (k := cells + 40) (n := slots + 2000) (by omega) (by omega) ?_
    exact next _ _ _ _ hG hg2 (lv_sub hl [2, 3, 4, 5, 6] rfl)
  · refine lv_aload_n hx hb dL_law_1400 rfl (lv_at hl 5 rfl) ?_
    refine lv_iconst (v := (0 : Int32)) hx hb dL_law_1401 (by decide) ?_
    refine g_jald hx hb hK hG (hla c9) dL_law_1402 ?_
    refine lv_iload hx hb dL_law_1403 (lv_at hl 0 rfl) ?_
    refine lv_i2l hx hb dL_law_1405 rfl ?_
    refine W.lcmp hx hb dL_law_1406 ?_
    refine lv_if_eq (tgt := 1412) hx hb dL_law_1407 (by decide) (fun _ => ?_) (fun c8 => absurd ((lg_cmp0 r.toInt64 r.toInt64).mpr rfl) c8)
    refine lv_goto (tgt := 1783) hx hb dL_law_1412 (by decide) ?_
    refine W.widen (k := cells + 40) (n := slots + 2000) (by omega) (by omega) ?_
    exact next _ _ _ _ hG hg2 (lv_sub hl [2, 3, 4, 5, 6] rfl)
set_option maxRecDepth 20000 in
set_option maxHeartbeats 4000000 in
theorem lc_close {p : Program} {l : Launch} {e : Env} {R : Room} {s : State} {m : MethodId} {args : Array Value} {below : List Frame} {meth : Method} {c : Code} {H : Heap} {locs : List Loc} {cells slots : Nat} {Q : State → Prop} {ls : Array Slot} {lo : Nat} {dd : va_G} {cT : Nat → ClassId} {G : gH} {b L ax am ao : Nat} {xs : Nat → Int32} (hfl : l.stackTraces = false) (hx : p.tables.exec = Jvm.exec) (hb : c.code = cL_law) (hml : c.maxLocals = 9) (hown : s.vm.findClass RL = some m.cls) (hts : ∀ w ∈ wsL_law, w.before args s = true) (hK : g_K dd cT s) (hlo : lo ≤ s.heap.size) (hX : va_X b L xs s s.heap) (hbl : b < s.heap.size) (hbA : ¬ g_A lo b) (hR : 12 ≤ R.frames ∧ 300 ≤ R.locals) (hf : cells + 40 ≤ R.cells ∧ slots + 2000 ≤ R.slots) (hG : g_S lo dd cT s H locs G) (hg : zGd ax am ao G) {xi : Int32} (hj : ∀ k : Int32, k ∈ ([1, 2, 3, 4, 5] : List Int32) → vp_in (xi + k) L) (hl : lv_has ls 9 [(0, .ref b), (1, .ref ax), (2, .ref am), (3, .ref ao), (4, .int xi)]) (next : ∀ (H1 : Heap) (locs1 : List Loc) (G1 : gH) (ls1 : Array Slot), g_S lo dd cT s H1 locs1 G1 → zGd ax am ao G1 → lv_has ls1 9 [(0, .ref b), (1, .ref ax), (2, .ref am), (3, .ref ao), (4, .int xi)] → W p l e R s m args below meth c H1 locs1 (cells + 40) (slots + 2000) Q (F0 m 1783 ls1 [])) : W p l e R s m args below meth c H locs cells slots Q (F0 m 1415 ls []) := by
  refine lv_aload_n hx hb dL_law_1415 rfl (lv_at hl 1 rfl) ?_
  refine lv_aload_n hx hb dL_law_1416 rfl (lv_at hl 3 rfl) ?_
  refine g_cHi (As := [.ref ax, .ref ao]) (rest := []) (n := 2) hx hb hml hown hts hK hlo hG (m_L_close l hfl dd cT lo G ax  ao hg.ob.2 (L_close hg )) qM_L_177 qT_yL_close qN_L qC_yL_close (by decide +kernel) ⟨by omega, by omega⟩ rfl hl.1 rfl (Nat.le_of_ble_eq_true rfl) dL_law_1417 ⟨by omega, by omega⟩ (fun k G1 H locs h hG => ?_)
  obtain ⟨G2, r, ho1, hm1, hth, hla, hg2⟩ := h
  refine lv_istore (lv' := [(5, .int k), (0, .ref b), (1, .ref ax), (2, .ref am), (3, .ref ao), (4, .int xi)]) hx hb dL_law_1420 hl (by decide) rfl (fun ls hl => ?_)
  refine lv_aload_n hx hb dL_law_1422 rfl (lv_at hl 3 rfl) ?_
  refine g_cVi (As := []) (rest := []) (n := 0) hx hb hml hown hts hK hlo hG (m_X10_close l dd cT lo G1 am  hm1) qM_L_180 qI_yX10_close qS_X10_yX10_close qN_X10 qC_yX10_close (by decide +kernel) ⟨by omega, by omega⟩ (by rfl) ho1 rfl hl.1 rfl (Nat.le_of_ble_eq_true rfl) dL_law_1423 ⟨by omega, by omega⟩ (fun H locs hG => ?_)
  refine lv_istore (lv' := [(6, .int r), (5, .int k), (0, .ref b), (1, .ref ax), (2, .ref am), (3, .ref ao), (4, .int xi)]) hx hb dL_law_1426 hl (by decide) rfl (fun ls hl => ?_)
  refine lv_aload_n hx hb dL_law_1428 rfl (lv_at hl 4 rfl) ?_
  refine g_cVi (As := []) (rest := []) (n := 0) hx hb hml hown hts hK hlo hG (m_X10_thrown l dd cT lo G2 am hth) qM_L_101 qI_yX10_thrown qS_X10_yX10_thrown qN_X10 qC_yX10_thrown (by decide +kernel) ⟨by omega, by omega⟩ (by rfl) hg2.ob.1 rfl hl.1 rfl (Nat.le_of_ble_eq_true rfl) dL_law_1429 ⟨by omega, by omega⟩ (fun H locs hG => ?_)
  refine lv_iload hx hb dL_law_1432 (lv_at hl 1 rfl) ?_
  refine lv_icmp_eq (tgt := 1439) hx hb dL_law_1434 (by decide) (fun _ => ?_) (fun c9 => absurd rfl c9)
  refine lv_iload hx hb dL_law_1439 (lv_at hl 1 rfl) ?_
  refine lv_if_ne (tgt := 1456) hx hb dL_law_1441 (by decide) (fun _ => ?_) (fun c9 => ?_)
  · refine lv_goto (tgt := 1783) hx hb dL_law_1456 (by decide) ?_
    refine W.widen (k := cells + 40) (n := slots + 2000) (by omega) (by omega) ?_
    exact next _ _ _ _ hG hg2 (lv_sub hl [2, 3, 4, 5, 6] rfl)
  · refine lv_aload_n hx hb dL_law_1444 rfl (lv_at hl 5 rfl) ?_
    refine lv_iconst (v := (0 : Int32)) hx hb dL_law_1445 (by decide) ?_
    refine g_jald hx hb hK hG (hla c9) dL_law_1446 ?_
    refine lv_iload hx hb dL_law_1447 (lv_at hl 0 rfl) ?_
    refine lv_i2l hx hb dL_law_1449 rfl ?_
    refine W.lcmp hx hb dL_law_1450 ?_
    refine lv_if_eq (tgt := 1456) hx hb dL_law_1451 (by decide) (fun _ => ?_) (fun c8 => absurd ((lg_cmp0 r.toInt64 r.toInt64).mpr rfl) c8)
    refine lv_goto (tgt := 1783) hx hb dL_law_1456 (by decide) ?_
    refine W.widen (k := cells + 40) (n := slots + 2000) (by omega) (by omega) ?_
    exact next _ _ _ _ hG hg2 (lv_sub hl [2, 3, 4, 5, 6] rfl)
set_option maxRecDepth 20000 in
set_option maxHeartbeats 4000000 in
theorem lc_crash {p : Program} {l : Launch} {e : Env} {R : Room} {s : State} {m : MethodId} {args : Array Value} {below : List Frame} {meth : Method} {c : Code} {H : Heap} {locs : List Loc} {cells slots : Nat} {Q : State → Prop} {ls : Array Slot} {lo : Nat} {dd : va_G} {cT : Nat → ClassId} {G : gH} {b L ax am ao : Nat} {xs : Nat → Int32} (hfl : l.stackTraces = false) (hx : p.tables.exec = Jvm.exec) (hb : c.code = cL_law) (hml : c.maxLocals = 9) (hown : s.vm.findClass RL = some m.cls) (hts : ∀ w ∈ wsL_law, w.before args s = true) (hK : g_K dd cT s) (hlo : lo ≤ s.heap.size) (hX : va_X b L xs s s.heap) (hbl : b < s.heap.size) (hbA : ¬ g_A lo b) (hR : 12 ≤ R.frames ∧ 300 ≤ R.locals) (hf : cells + 40 ≤ R.cells ∧ slots + 2000 ≤ R.slots) (hG : g_S lo dd cT s H locs G) (hg : zGd ax am ao G) {xi : Int32} (hj : ∀ k : Int32, k ∈ ([1, 2, 3, 4, 5] : List Int32) → vp_in (xi + k) L) (hl : lv_has ls 9 [(0, .ref b), (1, .ref ax), (2, .ref am), (3, .ref ao), (4, .int xi)]) (next : ∀ (H1 : Heap) (locs1 : List Loc) (G1 : gH) (ls1 : Array Slot), g_S lo dd cT s H1 locs1 G1 → zGd ax am ao G1 → lv_has ls1 9 [(0, .ref b), (1, .ref ax), (2, .ref am), (3, .ref ao), (4, .int xi)] → W p l e R s m args below meth c H1 locs1 (cells + 40) (slots + 2000) Q (F0 m 1783 ls1 [])) : W p l e R s m args below meth c H locs cells slots Q (F0 m 1459 ls []) := by
  refine lv_aload_n hx hb dL_law_1459 rfl (lv_at hl 1 rfl) ?_
  refine lv_aload_n hx hb dL_law_1460 rfl (lv_at hl 3 rfl) ?_
  refine g_cHi (As := [.ref ax, .ref ao]) (rest := []) (n := 2) hx hb hml hown hts hK hlo hG (m_L_crash l hfl dd cT lo G ax  ao hg.ob.2 (L_crash hg )) qM_L_181 qT_yL_crash qN_L qC_yL_crash (by decide +kernel) ⟨by omega, by omega⟩ rfl hl.1 rfl (Nat.le_of_ble_eq_true rfl) dL_law_1461 ⟨by omega, by omega⟩ (fun k G1 H locs h hG => ?_)
  obtain ⟨G2, r, ho1, hm1, hth, hla, hg2⟩ := h
  refine lv_istore (lv' := [(5, .int k), (0, .ref b), (1, .ref ax), (2, .ref am), (3, .ref ao), (4, .int xi)]) hx hb dL_law_1464 hl (by decide) rfl (fun ls hl => ?_)
  refine lv_aload_n hx hb dL_law_1466 rfl (lv_at hl 3 rfl) ?_
  refine g_cVi (As := []) (rest := []) (n := 0) hx hb hml hown hts hK hlo hG (m_X10_crash l dd cT lo G1 am  hm1) qM_L_183 qI_yX10_crash qS_X10_yX10_crash qN_X10 qC_yX10_crash (by decide +kernel) ⟨by omega, by omega⟩ (by rfl) ho1 rfl hl.1 rfl (Nat.le_of_ble_eq_true rfl) dL_law_1467 ⟨by omega, by omega⟩ (fun H locs hG => ?_)
  refine lv_istore (lv' := [(6, .int r), (5, .int k), (0, .ref b), (1, .ref ax), (2, .ref am), (3, .ref ao), (4, .int xi)]) hx hb dL_law_1470 hl (by decide) rfl (fun ls hl => ?_)
  refine lv_aload_n hx hb dL_law_1472 rfl (lv_at hl 4 rfl) ?_
  refine g_cVi (As := []) (rest := []) (n := 0) hx hb hml hown hts hK hlo hG (m_X10_thrown l dd cT lo G2 am hth) qM_L_101 qI_yX10_thrown qS_X10_yX10_thrown qN_X10 qC_yX10_thrown (by decide +kernel) ⟨by omega, by omega⟩ (by rfl) hg2.ob.1 rfl hl.1 rfl (Nat.le_of_ble_eq_true rfl) dL_law_1473 ⟨by omega, by omega⟩ (fun H locs hG => ?_)
  refine lv_iload hx hb dL_law_1476 (lv_at hl 1 rfl) ?_
  refine lv_icmp_eq (tgt := 1483) hx hb dL_law_1478 (by decide) (fun _ => ?_) (fun c9 => absurd rfl c9)
  refine lv_iload hx hb dL_law_1483 (lv_at hl 1 rfl) ?_
  refine lv_if_ne (tgt := 1500) hx hb dL_law_1485 (by decide) (fun _ => ?_) (fun c9 => ?_)
  · refine lv_goto (tgt := 1783) hx hb dL_law_1500 (by decide) ?_
    refine W.widen (k := cells + 40) (n := slots + 2000) (by omega) (by omega) ?_
    exact next _ _ _ _ hG hg2 (lv_sub hl [2, 3, 4, 5, 6] rfl)
  · refine lv_aload_n hx hb dL_law_1488 rfl (lv_at hl 5 rfl) ?_
    refine lv_iconst (v := (0 : Int32)) hx hb dL_law_1489 (by decide) ?_
    refine g_jald hx hb hK hG (hla c9) dL_law_1490 ?_
    refine lv_iload hx hb dL_law_1491 (lv_at hl 0 rfl) ?_
    refine lv_i2l hx hb dL_law_1493 rfl ?_
    refine W.lcmp hx hb dL_law_1494 ?_
    refine lv_if_eq (tgt := 1500) hx hb dL_law_1495 (by decide) (fun _ => ?_) (fun c8 => absurd ((lg_cmp0 r.toInt64 r.toInt64).mpr rfl) c8)
    refine lv_goto (tgt := 1783) hx hb dL_law_1500 (by decide) ?_
    refine W.widen (k := cells + 40) (n := slots + 2000) (by omega) (by omega) ?_
    exact next _ _ _ _ hG hg2 (lv_sub hl [2, 3, 4, 5, 6] rfl)
set_option maxRecDepth 20000 in
set_option maxHeartbeats 4000000 in
theorem lc_recover {p : Program} {l : Launch} {e : Env} {R : Room} {s : State} {m : MethodId} {args : Array Value} {below : List Frame} {meth : Method} {c : Code} {H : Heap} {locs : List Loc} {cells slots : Nat} {Q : State → Prop} {ls : Array Slot} {lo : Nat} {dd : va_G} {cT : Nat → ClassId} {G : gH} {b L ax am ao : Nat} {xs : Nat → Int32} (hfl : l.stackTraces = false) (hx : p.tables.exec = Jvm.exec) (hb : c.code = cL_law) (hml : c.maxLocals = 9) (hown : s.vm.findClass RL = some m.cls) (hts : ∀ w ∈ wsL_law, w.before args s = true) (hK : g_K dd cT s) (hlo : lo ≤ s.heap.size) (hX : va_X b L xs s s.heap) (hbl : b < s.heap.size) (hbA : ¬ g_A lo b) (hR : 12 ≤ R.frames ∧ 300 ≤ R.locals) (hf : cells + 40 ≤ R.cells ∧ slots + 2000 ≤ R.slots) (hG : g_S lo dd cT s H locs G) (hg : zGd ax am ao G) {xi : Int32} (hj : ∀ k : Int32, k ∈ ([1, 2, 3, 4, 5] : List Int32) → vp_in (xi + k) L) (hl : lv_has ls 9 [(0, .ref b), (1, .ref ax), (2, .ref am), (3, .ref ao), (4, .int xi)]) (next : ∀ (H1 : Heap) (locs1 : List Loc) (G1 : gH) (ls1 : Array Slot), g_S lo dd cT s H1 locs1 G1 → zGd ax am ao G1 → lv_has ls1 9 [(0, .ref b), (1, .ref ax), (2, .ref am), (3, .ref ao), (4, .int xi)] → W p l e R s m args below meth c H1 locs1 (cells + 40) (slots + 2000) Q (F0 m 1783 ls1 [])) : W p l e R s m args below meth c H locs cells slots Q (F0 m 1503 ls []) := by
  refine lv_aload_n hx hb dL_law_1503 rfl (lv_at hl 1 rfl) ?_
  refine lv_aload_n hx hb dL_law_1504 rfl (lv_at hl 3 rfl) ?_
  refine g_cHi (As := [.ref ax, .ref ao]) (rest := []) (n := 2) hx hb hml hown hts hK hlo hG (m_L_recover l hfl dd cT lo G ax  ao hg.ob.2 (L_recover hg )) qM_L_184 qT_yL_recover qN_L qC_yL_recover (by decide +kernel) ⟨by omega, by omega⟩ rfl hl.1 rfl (Nat.le_of_ble_eq_true rfl) dL_law_1505 ⟨by omega, by omega⟩ (fun k G1 H locs h hG => ?_)
  obtain ⟨G2, r, ho1, hm1, hth, hla, hg2⟩ := h
  refine lv_istore (lv' := [(5, .int k), (0, .ref b), (1, .ref ax), (2, .ref am), (3, .ref ao), (4, .int xi)]) hx hb dL_law_1508 hl (by decide) rfl (fun ls hl => ?_)
  refine lv_aload_n hx hb dL_law_1510 rfl (lv_at hl 3 rfl) ?_
  refine g_cVi (As := []) (rest := []) (n := 0) hx hb hml hown hts hK hlo hG (m_X10_recover l dd cT lo G1 am  hm1) qM_L_186 qI_yX10_recover qS_X10_yX10_recover qN_X10 qC_yX10_recover (by decide +kernel) ⟨by omega, by omega⟩ (by rfl) ho1 rfl hl.1 rfl (Nat.le_of_ble_eq_true rfl) dL_law_1511 ⟨by omega, by omega⟩ (fun H locs hG => ?_)
  refine lv_istore (lv' := [(6, .int r), (5, .int k), (0, .ref b), (1, .ref ax), (2, .ref am), (3, .ref ao), (4, .int xi)]) hx hb dL_law_1514 hl (by decide) rfl (fun ls hl => ?_)
  refine lv_aload_n hx hb dL_law_1516 rfl (lv_at hl 4 rfl) ?_
  refine g_cVi (As := []) (rest := []) (n := 0) hx hb hml hown hts hK hlo hG (m_X10_thrown l dd cT lo G2 am hth) qM_L_101 qI_yX10_thrown qS_X10_yX10_thrown qN_X10 qC_yX10_thrown (by decide +kernel) ⟨by omega, by omega⟩ (by rfl) hg2.ob.1 rfl hl.1 rfl (Nat.le_of_ble_eq_true rfl) dL_law_1517 ⟨by omega, by omega⟩ (fun H locs hG => ?_)
  refine lv_iload hx hb dL_law_1520 (lv_at hl 1 rfl) ?_
  refine lv_icmp_eq (tgt := 1527) hx hb dL_law_1522 (by decide) (fun _ => ?_) (fun c9 => absurd rfl c9)
  refine lv_iload hx hb dL_law_1527 (lv_at hl 1 rfl) ?_
  refine lv_if_ne (tgt := 1544) hx hb dL_law_1529 (by decide) (fun _ => ?_) (fun c9 => ?_)
  · refine lv_goto (tgt := 1783) hx hb dL_law_1544 (by decide) ?_
    refine W.widen (k := cells + 40) (n := slots + 2000) (by omega) (by omega) ?_
    exact next _ _ _ _ hG hg2 (lv_sub hl [2, 3, 4, 5, 6] rfl)
  · refine lv_aload_n hx hb dL_law_1532 rfl (lv_at hl 5 rfl) ?_
    refine lv_iconst (v := (0 : Int32)) hx hb dL_law_1533 (by decide) ?_
    refine g_jald hx hb hK hG (hla c9) dL_law_1534 ?_
    refine lv_iload hx hb dL_law_1535 (lv_at hl 0 rfl) ?_
    refine lv_i2l hx hb dL_law_1537 rfl ?_
    refine W.lcmp hx hb dL_law_1538 ?_
    refine lv_if_eq (tgt := 1544) hx hb dL_law_1539 (by decide) (fun _ => ?_) (fun c8 => absurd ((lg_cmp0 r.toInt64 r.toInt64).mpr rfl) c8)
    refine lv_goto (tgt := 1783) hx hb dL_law_1544 (by decide) ?_
    refine W.widen (k := cells + 40) (n := slots + 2000) (by omega) (by omega) ?_
    exact next _ _ _ _ hG hg2 (lv_sub hl [2, 3, 4, 5, 6] rfl)
set_option maxRecDepth 20000 in
set_option maxHeartbeats 4000000 in
theorem lc_scratch {p : Program} {l : Launch} {e : Env} {R : Room} {s : State} {m : MethodId} {args : Array Value} {below : List Frame} {meth : Method} {c : Code} {H : Heap} {locs : List Loc} {cells slots : Nat} {Q : State → Prop} {ls : Array Slot} {lo : Nat} {dd : va_G} {cT : Nat → ClassId} {G : gH} {b L ax am ao : Nat} {xs : Nat → Int32} (hfl : l.stackTraces = false) (hx : p.tables.exec = Jvm.exec) (hb : c.code = cL_law) (hml : c.maxLocals = 9) (hown : s.vm.findClass RL = some m.cls) (hts : ∀ w ∈ wsL_law, w.before args s = true) (hK : g_K dd cT s) (hlo : lo ≤ s.heap.size) (hX : va_X b L xs s s.heap) (hbl : b < s.heap.size) (hbA : ¬ g_A lo b) (hR : 12 ≤ R.frames ∧ 300 ≤ R.locals) (hf : cells + 40 ≤ R.cells ∧ slots + 2000 ≤ R.slots) (hG : g_S lo dd cT s H locs G) (hg : zGd ax am ao G) {xi : Int32} (hj : ∀ k : Int32, k ∈ ([1, 2, 3, 4, 5] : List Int32) → vp_in (xi + k) L) (hl : lv_has ls 9 [(0, .ref b), (1, .ref ax), (2, .ref am), (3, .ref ao), (4, .int xi)]) (next : ∀ (H1 : Heap) (locs1 : List Loc) (G1 : gH) (ls1 : Array Slot), g_S lo dd cT s H1 locs1 G1 → zGd ax am ao G1 → lv_has ls1 9 [(0, .ref b), (1, .ref ax), (2, .ref am), (3, .ref ao), (4, .int xi)] → W p l e R s m args below meth c H1 locs1 (cells + 40) (slots + 2000) Q (F0 m 1783 ls1 [])) : W p l e R s m args below meth c H locs cells slots Q (F0 m 1547 ls []) := by
  refine lv_aload_n hx hb dL_law_1547 rfl (lv_at hl 1 rfl) ?_
  refine lv_aload_n hx hb dL_law_1548 rfl (lv_at hl 0 rfl) ?_
  refine lv_iload hx hb dL_law_1549 (lv_at hl 4 rfl) ?_
  refine lv_iconst (v := (1 : Int32)) hx hb dL_law_1551 (by decide) ?_
  refine lv_iadd hx hb dL_law_1552 ?_
  refine va_sld hx hb hX hbl hbA hG.2.1 (hj 1 (by simp)) dL_law_1553 ?_
  refine lv_aload_n hx hb dL_law_1554 rfl (lv_at hl 3 rfl) ?_
  refine g_cHi (As := [.ref ax, .int (xs (xi + (1 : Int32)).toNatClampNeg), .ref ao]) (rest := []) (n := 3) hx hb hml hown hts hK hlo hG (m_L_scratch l hfl dd cT lo G ax (xs (xi + (1 : Int32)).toNatClampNeg) ao hg.ob.2 (L_scratch hg (xs (xi + (1 : Int32)).toNatClampNeg))) qM_L_187 qT_yL_scratch qN_L qC_yL_scratch (by decide +kernel) ⟨by omega, by omega⟩ rfl hl.1 rfl (Nat.le_of_ble_eq_true rfl) dL_law_1555 ⟨by omega, by omega⟩ (fun k G1 H locs h hG => ?_)
  obtain ⟨G2, r, ho1, hm1, hth, hla, hg2⟩ := h
  refine lv_istore (lv' := [(5, .int k), (0, .ref b), (1, .ref ax), (2, .ref am), (3, .ref ao), (4, .int xi)]) hx hb dL_law_1558 hl (by decide) rfl (fun ls hl => ?_)
  refine lv_aload_n hx hb dL_law_1560 rfl (lv_at hl 3 rfl) ?_
  refine lv_aload_n hx hb dL_law_1561 rfl (lv_at hl 1 rfl) ?_
  refine lv_iload hx hb dL_law_1562 (lv_at hl 5 rfl) ?_
  refine lv_iconst (v := (1 : Int32)) hx hb dL_law_1564 (by decide) ?_
  refine lv_iadd hx hb dL_law_1565 ?_
  refine va_sld hx hb hX hbl hbA hG.2.1 (hj 1 (by simp)) dL_law_1566 ?_
  refine g_cVi (As := [.int (xs (xi + (1 : Int32)).toNatClampNeg)]) (rest := []) (n := 1) hx hb hml hown hts hK hlo hG (m_X10_scratch l dd cT lo G1 am (xs (xi + (1 : Int32)).toNatClampNeg) hm1) qM_L_189 qI_yX10_scratch qS_X10_yX10_scratch qN_X10 qC_yX10_scratch (by decide +kernel) ⟨by omega, by omega⟩ (by rfl) ho1 rfl hl.1 rfl (Nat.le_of_ble_eq_true rfl) dL_law_1567 ⟨by omega, by omega⟩ (fun H locs hG => ?_)
  refine lv_istore (lv' := [(6, .int r), (5, .int k), (0, .ref b), (1, .ref ax), (2, .ref am), (3, .ref ao), (4, .int xi)]) hx hb dL_law_1570 hl (by decide) rfl (fun ls hl => ?_)
  refine lv_aload_n hx hb dL_law_1572 rfl (lv_at hl 4 rfl) ?_
  refine g_cVi (As := []) (rest := []) (n := 0) hx hb hml hown hts hK hlo hG (m_X10_thrown l dd cT lo G2 am hth) qM_L_101 qI_yX10_thrown qS_X10_yX10_thrown qN_X10 qC_yX10_thrown (by decide +kernel) ⟨by omega, by omega⟩ (by rfl) hg2.ob.1 rfl hl.1 rfl (Nat.le_of_ble_eq_true rfl) dL_law_1573 ⟨by omega, by omega⟩ (fun H locs hG => ?_)
  refine lv_iload hx hb dL_law_1576 (lv_at hl 1 rfl) ?_
  refine lv_icmp_eq (tgt := 1583) hx hb dL_law_1578 (by decide) (fun _ => ?_) (fun c9 => absurd rfl c9)
  refine lv_iload hx hb dL_law_1583 (lv_at hl 1 rfl) ?_
  refine lv_if_ne (tgt := 1607) hx hb dL_law_1585 (by decide) (fun _ => ?_) (fun c9 => ?_)
  · refine lv_goto (tgt := 1783) hx hb dL_law_1607 (by decide) ?_
    refine W.widen (k := cells + 40) (n := slots + 2000) (by omega) (by omega) ?_
    exact next _ _ _ _ hG hg2 (lv_sub hl [2, 3, 4, 5, 6] rfl)
  · by_cases c7 : r = 0
    · have hla := hla c9
      rw [if_pos c7] at hla
      refine lv_aload_n hx hb dL_law_1588 rfl (lv_at hl 5 rfl) ?_
      refine lv_iconst (v := (0 : Int32)) hx hb dL_law_1589 (by decide) ?_
      refine g_jald hx hb hK hG hla dL_law_1590 ?_
      refine lv_iload hx hb dL_law_1591 (lv_at hl 0 rfl) ?_
      refine lv_if_eq (tgt := 1600) hx hb dL_law_1593 (by decide) (fun _ => ?_) (fun c6 => absurd c7 c6)
      refine lv_lconst (v := (0 : Int64)) hx hb dL_law_1600 (by decide) ?_
      refine W.lcmp hx hb dL_law_1601 ?_
      refine lv_if_eq (tgt := 1607) hx hb dL_law_1602 (by decide) (fun _ => ?_) (fun c8 => absurd ((lg_cmp0 0 0).mpr rfl) c8)
      refine lv_goto (tgt := 1783) hx hb dL_law_1607 (by decide) ?_
      refine W.widen (k := cells + 40) (n := slots + 2000) (by omega) (by omega) ?_
      exact next _ _ _ _ hG hg2 (lv_sub hl [2, 3, 4, 5, 6] rfl)
    · have hla := hla c9
      rw [if_neg c7] at hla
      refine lv_aload_n hx hb dL_law_1588 rfl (lv_at hl 5 rfl) ?_
      refine lv_iconst (v := (0 : Int32)) hx hb dL_law_1589 (by decide) ?_
      refine g_jald hx hb hK hG hla dL_law_1590 ?_
      refine lv_iload hx hb dL_law_1591 (lv_at hl 0 rfl) ?_
      refine lv_if_eq (tgt := 1600) hx hb dL_law_1593 (by decide) (fun c6 => absurd c6 c7) (fun _ => ?_)
      refine lv_lconst (v := (1 : Int64)) hx hb dL_law_1596 (by decide) ?_
      refine lv_goto (tgt := 1601) hx hb dL_law_1597 (by decide) ?_
      refine W.lcmp hx hb dL_law_1601 ?_
      refine lv_if_eq (tgt := 1607) hx hb dL_law_1602 (by decide) (fun _ => ?_) (fun c8 => absurd ((lg_cmp0 1 1).mpr rfl) c8)
      refine lv_goto (tgt := 1783) hx hb dL_law_1607 (by decide) ?_
      refine W.widen (k := cells + 40) (n := slots + 2000) (by omega) (by omega) ?_
      exact next _ _ _ _ hG hg2 (lv_sub hl [2, 3, 4, 5, 6] rfl)
set_option maxRecDepth 20000 in
set_option maxHeartbeats 4000000 in
theorem lc_setScan {p : Program} {l : Launch} {e : Env} {R : Room} {s : State} {m : MethodId} {args : Array Value} {below : List Frame} {meth : Method} {c : Code} {H : Heap} {locs : List Loc} {cells slots : Nat} {Q : State → Prop} {ls : Array Slot} {lo : Nat} {dd : va_G} {cT : Nat → ClassId} {G : gH} {b L ax am ao : Nat} {xs : Nat → Int32} (hfl : l.stackTraces = false) (hx : p.tables.exec = Jvm.exec) (hb : c.code = cL_law) (hml : c.maxLocals = 9) (hown : s.vm.findClass RL = some m.cls) (hts : ∀ w ∈ wsL_law, w.before args s = true) (hK : g_K dd cT s) (hlo : lo ≤ s.heap.size) (hX : va_X b L xs s s.heap) (hbl : b < s.heap.size) (hbA : ¬ g_A lo b) (hR : 12 ≤ R.frames ∧ 300 ≤ R.locals) (hf : cells + 40 ≤ R.cells ∧ slots + 2000 ≤ R.slots) (hG : g_S lo dd cT s H locs G) (hg : zGd ax am ao G) {xi : Int32} (hj : ∀ k : Int32, k ∈ ([1, 2, 3, 4, 5] : List Int32) → vp_in (xi + k) L) (hl : lv_has ls 9 [(0, .ref b), (1, .ref ax), (2, .ref am), (3, .ref ao), (4, .int xi)]) (next : ∀ (H1 : Heap) (locs1 : List Loc) (G1 : gH) (ls1 : Array Slot), g_S lo dd cT s H1 locs1 G1 → zGd ax am ao G1 → lv_has ls1 9 [(0, .ref b), (1, .ref ax), (2, .ref am), (3, .ref ao), (4, .int xi)] → W p l e R s m args below meth c H1 locs1 (cells + 40) (slots + 2000) Q (F0 m 1783 ls1 [])) : W p l e R s m args below meth c H locs cells slots Q (F0 m 1610 ls []) := by
  by_cases c0 : (xs (xi + (1 : Int32)).toNatClampNeg) = 0
  · skip
    refine lv_aload_n hx hb dL_law_1610 rfl (lv_at hl 1 rfl) ?_
    refine lv_aload_n hx hb dL_law_1611 rfl (lv_at hl 0 rfl) ?_
    refine lv_iload hx hb dL_law_1612 (lv_at hl 4 rfl) ?_
    refine lv_iconst (v := (1 : Int32)) hx hb dL_law_1614 (by decide) ?_
    refine lv_iadd hx hb dL_law_1615 ?_
    refine va_sld hx hb hX hbl hbA hG.2.1 (hj 1 (by simp)) dL_law_1616 ?_
    refine lv_if_eq (tgt := 1624) hx hb dL_law_1617 (by decide) (fun _ => ?_) (fun c9 => absurd c0 c9)
    refine lv_iconst (v := (0 : Int32)) hx hb dL_law_1624 (by decide) ?_
    refine g_wVi (As := [.int (0 : Int32)]) (rest := []) (n := 1) hx hb hml hown hts hK hlo hG (m_X9_setScan l dd cT lo G ax (0 : Int32) (L_setScan hg false)) qM_L_190 qI_yX9_setScan qS_X9_yX9_setScan qN_X9 qC_yX9_setScan (by decide +kernel) ⟨by omega, by omega⟩ (by rfl) hg.ob.2 rfl hl.1 rfl (Nat.le_of_ble_eq_true rfl) dL_law_1625 ⟨by omega, by omega⟩ (fun r G1 H locs h hG => ?_)
    obtain ⟨G2, ho1, hm1, hg2⟩ := h
    refine lv_aload_n hx hb dL_law_1628 rfl (lv_at hl 2 rfl) ?_
    refine lv_aload_n hx hb dL_law_1629 rfl (lv_at hl 0 rfl) ?_
    refine lv_iload hx hb dL_law_1630 (lv_at hl 4 rfl) ?_
    refine lv_iconst (v := (1 : Int32)) hx hb dL_law_1632 (by decide) ?_
    refine lv_iadd hx hb dL_law_1633 ?_
    refine va_sld hx hb hX hbl hbA hG.2.1 (hj 1 (by simp)) dL_law_1634 ?_
    refine lv_if_eq (tgt := 1642) hx hb dL_law_1635 (by decide) (fun _ => ?_) (fun c9 => absurd c0 c9)
    refine lv_iconst (v := (0 : Int32)) hx hb dL_law_1642 (by decide) ?_
    refine g_cVi (As := [.int (0 : Int32)]) (rest := [.int r]) (n := 1) hx hb hml hown hts hK hlo hG (m_X10_setScan l dd cT lo G1 am (0 : Int32) hm1) qM_L_194 qI_yX10_setScan qS_X10_yX10_setScan qN_X10 qC_yX10_setScan (by decide +kernel) ⟨by omega, by omega⟩ (by rfl) ho1 rfl hl.1 rfl (Nat.le_of_ble_eq_true rfl) dL_law_1643 ⟨by omega, by omega⟩ (fun H locs hG => ?_)
    refine lv_icmp_eq (tgt := 1783) hx hb dL_law_1646 (by decide) (fun _ => ?_) (fun c9 => absurd rfl c9)
    refine W.widen (k := cells + 40) (n := slots + 2000) (by omega) (by omega) ?_
    exact next _ _ _ _ hG hg2 (lv_sub hl [0, 1, 2, 3, 4] rfl)
  · skip
    refine lv_aload_n hx hb dL_law_1610 rfl (lv_at hl 1 rfl) ?_
    refine lv_aload_n hx hb dL_law_1611 rfl (lv_at hl 0 rfl) ?_
    refine lv_iload hx hb dL_law_1612 (lv_at hl 4 rfl) ?_
    refine lv_iconst (v := (1 : Int32)) hx hb dL_law_1614 (by decide) ?_
    refine lv_iadd hx hb dL_law_1615 ?_
    refine va_sld hx hb hX hbl hbA hG.2.1 (hj 1 (by simp)) dL_law_1616 ?_
    refine lv_if_eq (tgt := 1624) hx hb dL_law_1617 (by decide) (fun c9 => absurd c9 c0) (fun _ => ?_)
    refine lv_iconst (v := (1 : Int32)) hx hb dL_law_1620 (by decide) ?_
    refine lv_goto (tgt := 1625) hx hb dL_law_1621 (by decide) ?_
    refine g_wVi (As := [.int (1 : Int32)]) (rest := []) (n := 1) hx hb hml hown hts hK hlo hG (m_X9_setScan l dd cT lo G ax (1 : Int32) (L_setScan hg true)) qM_L_190 qI_yX9_setScan qS_X9_yX9_setScan qN_X9 qC_yX9_setScan (by decide +kernel) ⟨by omega, by omega⟩ (by rfl) hg.ob.2 rfl hl.1 rfl (Nat.le_of_ble_eq_true rfl) dL_law_1625 ⟨by omega, by omega⟩ (fun r G1 H locs h hG => ?_)
    obtain ⟨G2, ho1, hm1, hg2⟩ := h
    refine lv_aload_n hx hb dL_law_1628 rfl (lv_at hl 2 rfl) ?_
    refine lv_aload_n hx hb dL_law_1629 rfl (lv_at hl 0 rfl) ?_
    refine lv_iload hx hb dL_law_1630 (lv_at hl 4 rfl) ?_
    refine lv_iconst (v := (1 : Int32)) hx hb dL_law_1632 (by decide) ?_
    refine lv_iadd hx hb dL_law_1633 ?_
    refine va_sld hx hb hX hbl hbA hG.2.1 (hj 1 (by simp)) dL_law_1634 ?_
    refine lv_if_eq (tgt := 1642) hx hb dL_law_1635 (by decide) (fun c9 => absurd c9 c0) (fun _ => ?_)
    refine lv_iconst (v := (1 : Int32)) hx hb dL_law_1638 (by decide) ?_
    refine lv_goto (tgt := 1643) hx hb dL_law_1639 (by decide) ?_
    refine g_cVi (As := [.int (1 : Int32)]) (rest := [.int r]) (n := 1) hx hb hml hown hts hK hlo hG (m_X10_setScan l dd cT lo G1 am (1 : Int32) hm1) qM_L_194 qI_yX10_setScan qS_X10_yX10_setScan qN_X10 qC_yX10_setScan (by decide +kernel) ⟨by omega, by omega⟩ (by rfl) ho1 rfl hl.1 rfl (Nat.le_of_ble_eq_true rfl) dL_law_1643 ⟨by omega, by omega⟩ (fun H locs hG => ?_)
    refine lv_icmp_eq (tgt := 1783) hx hb dL_law_1646 (by decide) (fun _ => ?_) (fun c9 => absurd rfl c9)
    refine W.widen (k := cells + 40) (n := slots + 2000) (by omega) (by omega) ?_
    exact next _ _ _ _ hG hg2 (lv_sub hl [0, 1, 2, 3, 4] rfl)
set_option maxRecDepth 20000 in
set_option maxHeartbeats 4000000 in
theorem lc_undo {p : Program} {l : Launch} {e : Env} {R : Room} {s : State} {m : MethodId} {args : Array Value} {below : List Frame} {meth : Method} {c : Code} {H : Heap} {locs : List Loc} {cells slots : Nat} {Q : State → Prop} {ls : Array Slot} {lo : Nat} {dd : va_G} {cT : Nat → ClassId} {G : gH} {b L ax am ao : Nat} {xs : Nat → Int32} (hfl : l.stackTraces = false) (hx : p.tables.exec = Jvm.exec) (hb : c.code = cL_law) (hml : c.maxLocals = 9) (hown : s.vm.findClass RL = some m.cls) (hts : ∀ w ∈ wsL_law, w.before args s = true) (hK : g_K dd cT s) (hlo : lo ≤ s.heap.size) (hX : va_X b L xs s s.heap) (hbl : b < s.heap.size) (hbA : ¬ g_A lo b) (hR : 12 ≤ R.frames ∧ 300 ≤ R.locals) (hf : cells + 40 ≤ R.cells ∧ slots + 2000 ≤ R.slots) (hG : g_S lo dd cT s H locs G) (hg : zGd ax am ao G) {xi : Int32} (hj : ∀ k : Int32, k ∈ ([1, 2, 3, 4, 5] : List Int32) → vp_in (xi + k) L) (hl : lv_has ls 9 [(0, .ref b), (1, .ref ax), (2, .ref am), (3, .ref ao), (4, .int xi)]) (next : ∀ (H1 : Heap) (locs1 : List Loc) (G1 : gH) (ls1 : Array Slot), g_S lo dd cT s H1 locs1 G1 → zGd ax am ao G1 → lv_has ls1 9 [(0, .ref b), (1, .ref ax), (2, .ref am), (3, .ref ao), (4, .int xi)] → W p l e R s m args below meth c H1 locs1 (cells + 40) (slots + 2000) Q (F0 m 1783 ls1 [])) : W p l e R s m args below meth c H locs cells slots Q (F0 m 1651 ls []) := by
  refine lv_aload_n hx hb dL_law_1651 rfl (lv_at hl 1 rfl) ?_
  refine g_wVi (As := []) (rest := []) (n := 0) hx hb hml hown hts hK hlo hG (m_X9_undo l dd cT lo G ax  (L_undo hg)) qM_L_195 qI_yX9_undo qS_X9_yX9_undo qN_X9 qC_yX9_undo (by decide +kernel) ⟨by omega, by omega⟩ (by rfl) hg.ob.2 rfl hl.1 rfl (Nat.le_of_ble_eq_true rfl) dL_law_1652 ⟨by omega, by omega⟩ (fun r G1 H locs h hG => ?_)
  obtain ⟨G2, ho1, hm1, hg2⟩ := h
  refine lv_aload_n hx hb dL_law_1655 rfl (lv_at hl 2 rfl) ?_
  refine g_cVi (As := []) (rest := [.int r]) (n := 0) hx hb hml hown hts hK hlo hG (m_X10_undo l dd cT lo G1 am  hm1) qM_L_198 qI_yX10_undo qS_X10_yX10_undo qN_X10 qC_yX10_undo (by decide +kernel) ⟨by omega, by omega⟩ (by rfl) ho1 rfl hl.1 rfl (Nat.le_of_ble_eq_true rfl) dL_law_1656 ⟨by omega, by omega⟩ (fun H locs hG => ?_)
  refine lv_icmp_eq (tgt := 1783) hx hb dL_law_1659 (by decide) (fun _ => ?_) (fun c9 => absurd rfl c9)
  refine W.widen (k := cells + 40) (n := slots + 2000) (by omega) (by omega) ?_
  exact next _ _ _ _ hG hg2 (lv_sub hl [0, 1, 2, 3, 4] rfl)
set_option maxRecDepth 20000 in
set_option maxHeartbeats 4000000 in
theorem lc_saveSnapshot {p : Program} {l : Launch} {e : Env} {R : Room} {s : State} {m : MethodId} {args : Array Value} {below : List Frame} {meth : Method} {c : Code} {H : Heap} {locs : List Loc} {cells slots : Nat} {Q : State → Prop} {ls : Array Slot} {lo : Nat} {dd : va_G} {cT : Nat → ClassId} {G : gH} {b L ax am ao : Nat} {xs : Nat → Int32} (hfl : l.stackTraces = false) (hx : p.tables.exec = Jvm.exec) (hb : c.code = cL_law) (hml : c.maxLocals = 9) (hown : s.vm.findClass RL = some m.cls) (hts : ∀ w ∈ wsL_law, w.before args s = true) (hK : g_K dd cT s) (hlo : lo ≤ s.heap.size) (hX : va_X b L xs s s.heap) (hbl : b < s.heap.size) (hbA : ¬ g_A lo b) (hR : 12 ≤ R.frames ∧ 300 ≤ R.locals) (hf : cells + 40 ≤ R.cells ∧ slots + 2000 ≤ R.slots) (hG : g_S lo dd cT s H locs G) (hg : zGd ax am ao G) {xi : Int32} (hj : ∀ k : Int32, k ∈ ([1, 2, 3, 4, 5] : List Int32) → vp_in (xi + k) L) (hl : lv_has ls 9 [(0, .ref b), (1, .ref ax), (2, .ref am), (3, .ref ao), (4, .int xi)]) (next : ∀ (H1 : Heap) (locs1 : List Loc) (G1 : gH) (ls1 : Array Slot), g_S lo dd cT s H1 locs1 G1 → zGd ax am ao G1 → lv_has ls1 9 [(0, .ref b), (1, .ref ax), (2, .ref am), (3, .ref ao), (4, .int xi)] → W p l e R s m args below meth c H1 locs1 (cells + 40) (slots + 2000) Q (F0 m 1783 ls1 [])) : W p l e R s m args below meth c H locs cells slots Q (F0 m 1664 ls []) := by
  refine lv_aload_n hx hb dL_law_1664 rfl (lv_at hl 1 rfl) ?_
  refine lv_aload_n hx hb dL_law_1665 rfl (lv_at hl 0 rfl) ?_
  refine lv_iload hx hb dL_law_1666 (lv_at hl 4 rfl) ?_
  refine lv_iconst (v := (1 : Int32)) hx hb dL_law_1668 (by decide) ?_
  refine lv_iadd hx hb dL_law_1669 ?_
  refine va_sld hx hb hX hbl hbA hG.2.1 (hj 1 (by simp)) dL_law_1670 ?_
  refine lv_aload_n hx hb dL_law_1671 rfl (lv_at hl 3 rfl) ?_
  refine g_cHi (As := [.ref ax, .int (xs (xi + (1 : Int32)).toNatClampNeg), .ref ao]) (rest := []) (n := 3) hx hb hml hown hts hK hlo hG (m_L_saveSnapshot l hfl dd cT lo G ax (xs (xi + (1 : Int32)).toNatClampNeg) ao hg.ob.2 (L_saveSnapshot hg (xs (xi + (1 : Int32)).toNatClampNeg))) qM_L_199 qT_yL_saveSnapshot qN_L qC_yL_saveSnapshot (by decide +kernel) ⟨by omega, by omega⟩ rfl hl.1 rfl (Nat.le_of_ble_eq_true rfl) dL_law_1672 ⟨by omega, by omega⟩ (fun k G1 H locs h hG => ?_)
  obtain ⟨G2, r, ho1, hm1, hth, hla, hg2⟩ := h
  refine lv_istore (lv' := [(5, .int k), (0, .ref b), (1, .ref ax), (2, .ref am), (3, .ref ao), (4, .int xi)]) hx hb dL_law_1675 hl (by decide) rfl (fun ls hl => ?_)
  refine lv_aload_n hx hb dL_law_1677 rfl (lv_at hl 3 rfl) ?_
  refine lv_aload_n hx hb dL_law_1678 rfl (lv_at hl 1 rfl) ?_
  refine lv_iload hx hb dL_law_1679 (lv_at hl 5 rfl) ?_
  refine lv_iconst (v := (1 : Int32)) hx hb dL_law_1681 (by decide) ?_
  refine lv_iadd hx hb dL_law_1682 ?_
  refine va_sld hx hb hX hbl hbA hG.2.1 (hj 1 (by simp)) dL_law_1683 ?_
  refine g_cVi (As := [.int (xs (xi + (1 : Int32)).toNatClampNeg)]) (rest := []) (n := 1) hx hb hml hown hts hK hlo hG (m_X10_saveSnapshot l dd cT lo G1 am (xs (xi + (1 : Int32)).toNatClampNeg) hm1) qM_L_201 qI_yX10_saveSnapshot qS_X10_yX10_saveSnapshot qN_X10 qC_yX10_saveSnapshot (by decide +kernel) ⟨by omega, by omega⟩ (by rfl) ho1 rfl hl.1 rfl (Nat.le_of_ble_eq_true rfl) dL_law_1684 ⟨by omega, by omega⟩ (fun H locs hG => ?_)
  refine lv_istore (lv' := [(6, .int r), (5, .int k), (0, .ref b), (1, .ref ax), (2, .ref am), (3, .ref ao), (4, .int xi)]) hx hb dL_law_1687 hl (by decide) rfl (fun ls hl => ?_)
  refine lv_aload_n hx hb dL_law_1689 rfl (lv_at hl 4 rfl) ?_
  refine g_cVi (As := []) (rest := []) (n := 0) hx hb hml hown hts hK hlo hG (m_X10_thrown l dd cT lo G2 am hth) qM_L_101 qI_yX10_thrown qS_X10_yX10_thrown qN_X10 qC_yX10_thrown (by decide +kernel) ⟨by omega, by omega⟩ (by rfl) hg2.ob.1 rfl hl.1 rfl (Nat.le_of_ble_eq_true rfl) dL_law_1690 ⟨by omega, by omega⟩ (fun H locs hG => ?_)
  refine lv_iload hx hb dL_law_1693 (lv_at hl 1 rfl) ?_
  refine lv_icmp_eq (tgt := 1700) hx hb dL_law_1695 (by decide) (fun _ => ?_) (fun c9 => absurd rfl c9)
  refine lv_iload hx hb dL_law_1700 (lv_at hl 1 rfl) ?_
  refine lv_if_ne (tgt := 1724) hx hb dL_law_1702 (by decide) (fun _ => ?_) (fun c9 => ?_)
  · refine lv_goto (tgt := 1783) hx hb dL_law_1724 (by decide) ?_
    refine W.widen (k := cells + 40) (n := slots + 2000) (by omega) (by omega) ?_
    exact next _ _ _ _ hG hg2 (lv_sub hl [2, 3, 4, 5, 6] rfl)
  · by_cases c7 : r = 0
    · have hla := hla c9
      rw [if_pos c7] at hla
      refine lv_aload_n hx hb dL_law_1705 rfl (lv_at hl 5 rfl) ?_
      refine lv_iconst (v := (0 : Int32)) hx hb dL_law_1706 (by decide) ?_
      refine g_jald hx hb hK hG hla dL_law_1707 ?_
      refine lv_iload hx hb dL_law_1708 (lv_at hl 0 rfl) ?_
      refine lv_if_eq (tgt := 1717) hx hb dL_law_1710 (by decide) (fun _ => ?_) (fun c6 => absurd c7 c6)
      refine lv_lconst (v := (0 : Int64)) hx hb dL_law_1717 (by decide) ?_
      refine W.lcmp hx hb dL_law_1718 ?_
      refine lv_if_eq (tgt := 1724) hx hb dL_law_1719 (by decide) (fun _ => ?_) (fun c8 => absurd ((lg_cmp0 0 0).mpr rfl) c8)
      refine lv_goto (tgt := 1783) hx hb dL_law_1724 (by decide) ?_
      refine W.widen (k := cells + 40) (n := slots + 2000) (by omega) (by omega) ?_
      exact next _ _ _ _ hG hg2 (lv_sub hl [2, 3, 4, 5, 6] rfl)
    · have hla := hla c9
      rw [if_neg c7] at hla
      refine lv_aload_n hx hb dL_law_1705 rfl (lv_at hl 5 rfl) ?_
      refine lv_iconst (v := (0 : Int32)) hx hb dL_law_1706 (by decide) ?_
      refine g_jald hx hb hK hG hla dL_law_1707 ?_
      refine lv_iload hx hb dL_law_1708 (lv_at hl 0 rfl) ?_
      refine lv_if_eq (tgt := 1717) hx hb dL_law_1710 (by decide) (fun c6 => absurd c6 c7) (fun _ => ?_)
      refine lv_lconst (v := (1 : Int64)) hx hb dL_law_1713 (by decide) ?_
      refine lv_goto (tgt := 1718) hx hb dL_law_1714 (by decide) ?_
      refine W.lcmp hx hb dL_law_1718 ?_
      refine lv_if_eq (tgt := 1724) hx hb dL_law_1719 (by decide) (fun _ => ?_) (fun c8 => absurd ((lg_cmp0 1 1).mpr rfl) c8)
      refine lv_goto (tgt := 1783) hx hb dL_law_1724 (by decide) ?_
      refine W.widen (k := cells + 40) (n := slots + 2000) (by omega) (by omega) ?_
      exact next _ _ _ _ hG hg2 (lv_sub hl [2, 3, 4, 5, 6] rfl)
set_option maxRecDepth 20000 in
set_option maxHeartbeats 4000000 in
theorem lc_restoreSnapshot {p : Program} {l : Launch} {e : Env} {R : Room} {s : State} {m : MethodId} {args : Array Value} {below : List Frame} {meth : Method} {c : Code} {H : Heap} {locs : List Loc} {cells slots : Nat} {Q : State → Prop} {ls : Array Slot} {lo : Nat} {dd : va_G} {cT : Nat → ClassId} {G : gH} {b L ax am ao : Nat} {xs : Nat → Int32} (hfl : l.stackTraces = false) (hx : p.tables.exec = Jvm.exec) (hb : c.code = cL_law) (hml : c.maxLocals = 9) (hown : s.vm.findClass RL = some m.cls) (hts : ∀ w ∈ wsL_law, w.before args s = true) (hK : g_K dd cT s) (hlo : lo ≤ s.heap.size) (hX : va_X b L xs s s.heap) (hbl : b < s.heap.size) (hbA : ¬ g_A lo b) (hR : 12 ≤ R.frames ∧ 300 ≤ R.locals) (hf : cells + 40 ≤ R.cells ∧ slots + 2000 ≤ R.slots) (hG : g_S lo dd cT s H locs G) (hg : zGd ax am ao G) {xi : Int32} (hj : ∀ k : Int32, k ∈ ([1, 2, 3, 4, 5] : List Int32) → vp_in (xi + k) L) (hl : lv_has ls 9 [(0, .ref b), (1, .ref ax), (2, .ref am), (3, .ref ao), (4, .int xi)]) (next : ∀ (H1 : Heap) (locs1 : List Loc) (G1 : gH) (ls1 : Array Slot), g_S lo dd cT s H1 locs1 G1 → zGd ax am ao G1 → lv_has ls1 9 [(0, .ref b), (1, .ref ax), (2, .ref am), (3, .ref ao), (4, .int xi)] → W p l e R s m args below meth c H1 locs1 (cells + 40) (slots + 2000) Q (F0 m 1783 ls1 [])) : W p l e R s m args below meth c H locs cells slots Q (F0 m 1727 ls []) := by
  refine lv_aload_n hx hb dL_law_1727 rfl (lv_at hl 1 rfl) ?_
  refine lv_aload_n hx hb dL_law_1728 rfl (lv_at hl 0 rfl) ?_
  refine lv_iload hx hb dL_law_1729 (lv_at hl 4 rfl) ?_
  refine lv_iconst (v := (1 : Int32)) hx hb dL_law_1731 (by decide) ?_
  refine lv_iadd hx hb dL_law_1732 ?_
  refine va_sld hx hb hX hbl hbA hG.2.1 (hj 1 (by simp)) dL_law_1733 ?_
  refine lv_aload_n hx hb dL_law_1734 rfl (lv_at hl 3 rfl) ?_
  refine g_cHi (As := [.ref ax, .int (xs (xi + (1 : Int32)).toNatClampNeg), .ref ao]) (rest := []) (n := 3) hx hb hml hown hts hK hlo hG (m_L_restoreSnapshot l hfl dd cT lo G ax (xs (xi + (1 : Int32)).toNatClampNeg) ao hg.ob.2 (L_restoreSnapshot hg (xs (xi + (1 : Int32)).toNatClampNeg))) qM_L_202 qT_yL_restoreSnapshot qN_L qC_yL_restoreSnapshot (by decide +kernel) ⟨by omega, by omega⟩ rfl hl.1 rfl (Nat.le_of_ble_eq_true rfl) dL_law_1735 ⟨by omega, by omega⟩ (fun k G1 H locs h hG => ?_)
  obtain ⟨G2, r, ho1, hm1, hth, hla, hg2⟩ := h
  refine lv_istore (lv' := [(5, .int k), (0, .ref b), (1, .ref ax), (2, .ref am), (3, .ref ao), (4, .int xi)]) hx hb dL_law_1738 hl (by decide) rfl (fun ls hl => ?_)
  refine lv_aload_n hx hb dL_law_1740 rfl (lv_at hl 3 rfl) ?_
  refine lv_aload_n hx hb dL_law_1741 rfl (lv_at hl 1 rfl) ?_
  refine lv_iload hx hb dL_law_1742 (lv_at hl 5 rfl) ?_
  refine lv_iconst (v := (1 : Int32)) hx hb dL_law_1744 (by decide) ?_
  refine lv_iadd hx hb dL_law_1745 ?_
  refine va_sld hx hb hX hbl hbA hG.2.1 (hj 1 (by simp)) dL_law_1746 ?_
  refine g_cVi (As := [.int (xs (xi + (1 : Int32)).toNatClampNeg)]) (rest := []) (n := 1) hx hb hml hown hts hK hlo hG (m_X10_restoreSnapshot l dd cT lo G1 am (xs (xi + (1 : Int32)).toNatClampNeg) hm1) qM_L_204 qI_yX10_restoreSnapshot qS_X10_yX10_restoreSnapshot qN_X10 qC_yX10_restoreSnapshot (by decide +kernel) ⟨by omega, by omega⟩ (by rfl) ho1 rfl hl.1 rfl (Nat.le_of_ble_eq_true rfl) dL_law_1747 ⟨by omega, by omega⟩ (fun H locs hG => ?_)
  refine lv_istore (lv' := [(6, .int r), (5, .int k), (0, .ref b), (1, .ref ax), (2, .ref am), (3, .ref ao), (4, .int xi)]) hx hb dL_law_1750 hl (by decide) rfl (fun ls hl => ?_)
  refine lv_aload_n hx hb dL_law_1752 rfl (lv_at hl 4 rfl) ?_
  refine g_cVi (As := []) (rest := []) (n := 0) hx hb hml hown hts hK hlo hG (m_X10_thrown l dd cT lo G2 am hth) qM_L_101 qI_yX10_thrown qS_X10_yX10_thrown qN_X10 qC_yX10_thrown (by decide +kernel) ⟨by omega, by omega⟩ (by rfl) hg2.ob.1 rfl hl.1 rfl (Nat.le_of_ble_eq_true rfl) dL_law_1753 ⟨by omega, by omega⟩ (fun H locs hG => ?_)
  refine lv_iload hx hb dL_law_1756 (lv_at hl 1 rfl) ?_
  refine lv_icmp_eq (tgt := 1763) hx hb dL_law_1758 (by decide) (fun _ => ?_) (fun c9 => absurd rfl c9)
  refine lv_iload hx hb dL_law_1763 (lv_at hl 1 rfl) ?_
  refine lv_if_ne (tgt := 1780) hx hb dL_law_1765 (by decide) (fun _ => ?_) (fun c9 => ?_)
  · refine lv_goto (tgt := 1783) hx hb dL_law_1780 (by decide) ?_
    refine W.widen (k := cells + 40) (n := slots + 2000) (by omega) (by omega) ?_
    exact next _ _ _ _ hG hg2 (lv_sub hl [2, 3, 4, 5, 6] rfl)
  · refine lv_aload_n hx hb dL_law_1768 rfl (lv_at hl 5 rfl) ?_
    refine lv_iconst (v := (0 : Int32)) hx hb dL_law_1769 (by decide) ?_
    refine g_jald hx hb hK hG (hla c9) dL_law_1770 ?_
    refine lv_iload hx hb dL_law_1771 (lv_at hl 0 rfl) ?_
    refine lv_i2l hx hb dL_law_1773 rfl ?_
    refine W.lcmp hx hb dL_law_1774 ?_
    refine lv_if_eq (tgt := 1780) hx hb dL_law_1775 (by decide) (fun _ => ?_) (fun c8 => absurd ((lg_cmp0 r.toInt64 r.toInt64).mpr rfl) c8)
    refine lv_goto (tgt := 1783) hx hb dL_law_1780 (by decide) ?_
    refine W.widen (k := cells + 40) (n := slots + 2000) (by omega) (by omega) ?_
    exact next _ _ _ _ hG hg2 (lv_sub hl [2, 3, 4, 5, 6] rfl)

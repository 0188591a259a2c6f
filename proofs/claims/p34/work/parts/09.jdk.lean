/-! The texts' own methods: length and charAt of the constant texts, over the machine. -/
section GJDK
variable {p : Program} {l : Launch} {e : Env} {R : Room} {s : State} {m : MethodId} {args : Array Value} {below : List Frame} {meth : Method} {c : Code} {H : Heap} {locs : List Loc} {cells slots : Nat} {Q : State → Prop}
variable {cc : ByteArray} {pc : Nat} {ls : Array Slot} {rest : List Value} {lo : Nat → Prop} {dd : va_G} {cT : Nat → ClassId} {G : gH}
set_option maxHeartbeats 1000000 in
/-- a call whose receiver is a constant text -/
theorem g_cTi (hx : p.tables.exec = Jvm.exec) (hb : c.code = cc) {nL : Nat} (hml : c.maxLocals = nL) {own : String} (hown : s.vm.findClass own = some m.cls) (hts : ∀ w ∈ wsL_law, w.before args s = true) (hK : g_K dd cT s) (hlo : g_le lo s.heap.size) (hG : g_S lo dd cT s H locs G) {y : MethodName} {by_ : ByteArray} {mL fr lc mc ms index n : Nat} {ret : Option FieldType} {As : List Value} {r : Int32} {G1 : gH} {i : Nat}
    (hM : Met l y (Cond.code y by_ mL ret :: wsL_law) (g_rm fr lc mc ms) (va_Pc (.ref (dd.2 100 i) :: As) (g_Pre lo dd cT G)) (va_Qi (g_is r G1) (g_Pre lo dd cT) (g_A lo)) mc ms (g_A lo))
    (h1 : Cond.methodLink own index y ∈ wsL_law) (h2 : Cond.instanceMethod y ∈ wsL_law) (h3 : Cond.selects RJ0 y y ∈ wsL_law) (h4 : Cond.initialized RJ0 ∈ wsL_law) (h5 : Cond.code y by_ mL ret ∈ wsL_law)
    (hd : y.cls = RJ0 ∧ y.cls ≠ "java/lang/invoke/MethodHandle" ∧ y.cls ≠ "java/lang/invoke/VarHandle" ∧ (parseMethodDescriptor y.desc).map (fun d => d.parameters.length) = some n) (hR : fr + 1 ≤ R.frames ∧ 8 + (mL + 11) + lc ≤ R.locals)
    (hi : i < 6) {st0 : List Value} (hn : As.length = n) (hsz : ls.size = nL) (hst : st0 = As.reverse ++ .ref (dd.2 100 i) :: rest) (hro : (rest.map fun v => v.category).sum ≤ 8) (hdg : decode cc pc = .ok (.invokevirtual index, 3)) (hf : cells + mc ≤ R.cells ∧ slots + ms ≤ R.slots)
    (kk : ∀ (H1 : Heap) (locs1 : List Loc), g_S lo dd cT s H1 locs1 G1 → W p l e R s m args below meth c H1 locs1 (cells + mc) (slots + ms) Q (F0 m (pc + 3) ls (.int r :: rest))) : W p l e R s m args below meth c H locs cells slots Q (F0 m pc ls st0) := by
  have hG0 := hG
  obtain ⟨⟨ws, hP, hD, hR0⟩, hS, hX⟩ := hG0
  have hT : GoodIn wsL_law (wsV own index RJ0 y (Cond.code y by_ mL ret :: wsL_law)) := by
    intro w hw
    simp only [wsV, List.cons_append, List.nil_append, List.mem_cons] at hw
    rcases hw with rfl | rfl | rfl | rfl | rfl | hw
    · exact g_goodIn _ h1
    · exact g_goodIn _ h2
    · exact g_goodIn _ h3
    · exact g_goodIn _ h4
    · exact g_goodIn _ h5
    · exact g_goodIn _ hw
  refine va_calli (A1 := g_A lo) (free := g_A lo) (va_runV ⟨hx, hb, hml, hown, hts⟩ hM (cwV n hts hT rfl rfl rfl hd hR) ⟨g_Pre.blind, vk_recv hX.1 hi hS, fun U hU hW => ⟨rfl, by rw [hU]; exact g_le_trans hlo hS.1, by rw [hU]; exact ⟨ws, hP, hD, hR0⟩, hK.moved hW, hX.next hS hU hW⟩⟩ rfl hn hsz hst (lv_room hro) hdg hf) hS (fun q _ h => h) (fun q h => h) (fun r1 u t H1 locs1 ht hvm hw hB hz1 hk1 hS1 => by obtain ⟨rfl, rfl⟩ := hw; exact kk H1 locs1 ⟨by rw [← ht]; exact hB.2.1, hS1, hX⟩)
set_option maxHeartbeats 1000000 in
/-- a static method of any class -/
theorem g_cAi (hx : p.tables.exec = Jvm.exec) (hb : c.code = cc) {nL : Nat} (hml : c.maxLocals = nL) {own : String} (hown : s.vm.findClass own = some m.cls) (hts : ∀ w ∈ wsL_law, w.before args s = true) (hK : g_K dd cT s) (hlo : g_le lo s.heap.size) (hG : g_S lo dd cT s H locs G) {y : MethodName} {by_ : ByteArray} {mL fr lc mc ms index n : Nat} {ret : Option FieldType} {As : List Value} {r : Int32} {G1 : gH}
    (hM : Met l y (Cond.code y by_ mL ret :: wsL_law) (g_rm fr lc mc ms) (va_Pc As (g_Pre lo dd cT G)) (va_Qi (g_is r G1) (g_Pre lo dd cT) (g_A lo)) mc ms (g_A lo))
    (h1 : Cond.methodLink own index y ∈ wsL_law) (h2 : Cond.static y ∈ wsL_law) (h4 : Cond.initialized y.cls ∈ wsL_law) (h5 : Cond.code y by_ mL ret ∈ wsL_law)
    (hd : y.cls ≠ "java/lang/invoke/MethodHandle" ∧ y.cls ≠ "java/lang/invoke/VarHandle" ∧ (parseMethodDescriptor y.desc).map (fun d => d.parameters.length) = some n) (hR : fr + 1 ≤ R.frames ∧ 8 + (mL + 11) + lc ≤ R.locals)
    {st0 : List Value} (hn : As.length = n) (hsz : ls.size = nL) (hst : st0 = As.reverse ++ rest) (hro : (rest.map fun v => v.category).sum ≤ 8) (hdg : decode cc pc = .ok (.invokestatic index, 3)) (hf : cells + mc ≤ R.cells ∧ slots + ms ≤ R.slots)
    (kk : ∀ (H1 : Heap) (locs1 : List Loc), g_S lo dd cT s H1 locs1 G1 → W p l e R s m args below meth c H1 locs1 (cells + mc) (slots + ms) Q (F0 m (pc + 3) ls (.int r :: rest))) : W p l e R s m args below meth c H locs cells slots Q (F0 m pc ls st0) := by
  have hG0 := hG
  obtain ⟨⟨ws, hP, hD, hR0⟩, hS, hX⟩ := hG0
  have hT : GoodIn wsL_law (va_wsS own index y (Cond.code y by_ mL ret :: wsL_law)) := by
    intro w hw
    simp only [va_wsS, List.cons_append, List.nil_append, List.mem_cons] at hw
    rcases hw with rfl | rfl | rfl | rfl | hw
    · exact g_goodIn _ h1
    · exact g_goodIn _ h2
    · exact g_goodIn _ h4
    · exact g_goodIn _ h5
    · exact g_goodIn _ hw
  refine va_calli (A1 := g_A lo) (free := g_A lo) (va_runS ⟨hx, hb, hml, hown, hts⟩ hM (va_cwS n hts hT rfl rfl rfl hd hR) ⟨g_Pre.blind, fun U hU hW => ⟨rfl, by rw [hU]; exact g_le_trans hlo hS.1, by rw [hU]; exact ⟨ws, hP, hD, hR0⟩, hK.moved hW, hX.next hS hU hW⟩⟩ rfl hn hsz hst (lv_room hro) hdg hf) hS (fun q _ h => h) (fun q h => h) (fun r1 u t H1 locs1 ht hvm hw hB hz1 hk1 hS1 => by obtain ⟨rfl, rfl⟩ := hw; exact kk H1 locs1 ⟨by rw [← ht]; exact hB.2.1, hS1, hX⟩)
set_option maxHeartbeats 1000000 in
/-- a static method of any class -/
theorem g_cAv (hx : p.tables.exec = Jvm.exec) (hb : c.code = cc) {nL : Nat} (hml : c.maxLocals = nL) {own : String} (hown : s.vm.findClass own = some m.cls) (hts : ∀ w ∈ wsL_law, w.before args s = true) (hK : g_K dd cT s) (hlo : g_le lo s.heap.size) (hG : g_S lo dd cT s H locs G) {y : MethodName} {by_ : ByteArray} {mL fr lc mc ms index n : Nat} {ret : Option FieldType} {As : List Value}  {G1 : gH}
    (hM : Met l y (Cond.code y by_ mL ret :: wsL_law) (g_rm fr lc mc ms) (va_Pc As (g_Pre lo dd cT G)) (va_Qv (g_iv G1) (g_Pre lo dd cT) (g_A lo)) mc ms (g_A lo))
    (h1 : Cond.methodLink own index y ∈ wsL_law) (h2 : Cond.static y ∈ wsL_law) (h4 : Cond.initialized y.cls ∈ wsL_law) (h5 : Cond.code y by_ mL ret ∈ wsL_law)
    (hd : y.cls ≠ "java/lang/invoke/MethodHandle" ∧ y.cls ≠ "java/lang/invoke/VarHandle" ∧ (parseMethodDescriptor y.desc).map (fun d => d.parameters.length) = some n) (hR : fr + 1 ≤ R.frames ∧ 8 + (mL + 11) + lc ≤ R.locals)
    {st0 : List Value} (hn : As.length = n) (hsz : ls.size = nL) (hst : st0 = As.reverse ++ rest) (hro : (rest.map fun v => v.category).sum ≤ 8) (hdg : decode cc pc = .ok (.invokestatic index, 3)) (hf : cells + mc ≤ R.cells ∧ slots + ms ≤ R.slots)
    (kk : ∀ (H1 : Heap) (locs1 : List Loc), g_S lo dd cT s H1 locs1 G1 → W p l e R s m args below meth c H1 locs1 (cells + mc) (slots + ms) Q (F0 m (pc + 3) ls (rest))) : W p l e R s m args below meth c H locs cells slots Q (F0 m pc ls st0) := by
  have hG0 := hG
  obtain ⟨⟨ws, hP, hD, hR0⟩, hS, hX⟩ := hG0
  have hT : GoodIn wsL_law (va_wsS own index y (Cond.code y by_ mL ret :: wsL_law)) := by
    intro w hw
    simp only [va_wsS, List.cons_append, List.nil_append, List.mem_cons] at hw
    rcases hw with rfl | rfl | rfl | rfl | hw
    · exact g_goodIn _ h1
    · exact g_goodIn _ h2
    · exact g_goodIn _ h4
    · exact g_goodIn _ h5
    · exact g_goodIn _ hw
  refine va_callv (A1 := g_A lo) (free := g_A lo) (va_runS ⟨hx, hb, hml, hown, hts⟩ hM (va_cwS n hts hT rfl rfl rfl hd hR) ⟨g_Pre.blind, fun U hU hW => ⟨rfl, by rw [hU]; exact g_le_trans hlo hS.1, by rw [hU]; exact ⟨ws, hP, hD, hR0⟩, hK.moved hW, hX.next hS hU hW⟩⟩ rfl hn hsz hst (lv_room hro) hdg hf) hS (fun q _ h => h) (fun q h => h) (fun u t H1 locs1 ht hvm hw hB hz1 hk1 hS1 => by obtain rfl := hw; exact kk H1 locs1 ⟨by rw [← ht]; exact hB.2.1, hS1, hX⟩)
theorem g_nret (hx : p.tables.exec = Jvm.exec) (hb : c.code = cc) {ft : FieldType} (hr : meth.sig.returnType = some ft) (hlocks : meth.locks = false) (hK : g_K dd cT s) (hlo : g_le lo s.heap.size) (hG : g_S lo dd cT s H locs G) {v : Int32} {post : Int32 → gH → Prop} (hn : narrow ft (.int v) = .int v) (hp : post v G) (hdg : decode cc pc = .ok (.ireturn, 1)) :
    W p l e R s m args below meth c H locs cells slots (MQ below (va_Qi post (g_Pre lo dd cT) (g_A lo)) args s cells slots (g_A lo)) (F0 m pc ls [.int v]) :=
  W.zret hx hb hr hn (fun t ht hW => ⟨⟨v, G, rfl, hp, by rw [ht]; exact g_le_trans hlo hG.2.1.1, by rw [ht]; exact hG.1, hK.moved hW, hG.2.2.next hG.2.1 ht hW⟩, hG.2.1.F ht⟩) hG.2.1.2.2 hdg hlocks
end GJDK
set_option maxRecDepth 20000 in
set_option maxHeartbeats 4000000 in
theorem m_J0_coder (l : Launch) (dd : va_G) (cT : Nat → ClassId) (lo : Nat → Prop) (G : gH) (i : Nat) (hi : i < 6) : Met l yJ0_coder_7d493 (Cond.code yJ0_coder_7d493 cJ0_coder_7d493 1 (some .byte) :: wsL_law) (g_rm 0 0 0 0) (va_Pc [.ref (dd.2 100 i)] (g_Pre lo dd cT G)) (va_Qi (g_is 0 G) (g_Pre lo dd cT) (g_A lo)) 0 0 (g_A lo) := by
  refine g_start RJ0 rfl (by decide) (Nat.le_of_ble_eq_true rfl) ?_
  intro p e s m below meth c hx hb hr hlocks hml hown hnm hts hK hG hlo ls hl
  have hl : lv_has ls 1 [(0, .ref (dd.2 100 i))] := hl
  have hG : g_S lo dd cT s s.heap [] G := hG
  refine va_gets hx hb hG.2.2.2.2.2.1 hG.2.1 hown (hts _ qF_J0_38) (fun _ h => h) dJ0_coder_7d493_0 ?_
  refine lv_if_eq (tgt := 13) hx hb dJ0_coder_7d493_3 (by decide) (fun c3 => ?_) (fun c3 => ?_)
  · exact absurd c3 (by decide)
  refine lv_aload_n hx hb dJ0_coder_7d493_6 rfl (lv_at hl 0 rfl) ?_
  refine vk_getf hx hb (hG.2.2.1.1 i hi).2.1 hG.2.1 hown (hts _ qF_J0_15) (fun _ h => h) dJ0_coder_7d493_7 ?_
  refine lv_goto (tgt := 14) hx hb dJ0_coder_7d493_10 (by decide) ?_
  exact g_nret hx hb hr hlocks hK hlo hG rfl ⟨rfl, rfl⟩ dJ0_coder_7d493_14
set_option maxRecDepth 20000 in
set_option maxHeartbeats 4000000 in
theorem m_J0_isLatin1 (l : Launch) (dd : va_G) (cT : Nat → ClassId) (lo : Nat → Prop) (G : gH) (i : Nat) (hi : i < 6) : Met l yJ0_isLatin1_aae02 (Cond.code yJ0_isLatin1_aae02 cJ0_isLatin1_aae02 1 (some .boolean) :: wsL_law) (g_rm 0 0 0 0) (va_Pc [.ref (dd.2 100 i)] (g_Pre lo dd cT G)) (va_Qi (g_is 1 G) (g_Pre lo dd cT) (g_A lo)) 0 0 (g_A lo) := by
  refine g_start RJ0 rfl (by decide) (Nat.le_of_ble_eq_true rfl) ?_
  intro p e s m below meth c hx hb hr hlocks hml hown hnm hts hK hG hlo ls hl
  have hl : lv_has ls 1 [(0, .ref (dd.2 100 i))] := hl
  have hG : g_S lo dd cT s s.heap [] G := hG
  refine va_gets hx hb hG.2.2.2.2.2.1 hG.2.1 hown (hts _ qF_J0_38) (fun _ h => h) dJ0_isLatin1_aae02_0 ?_
  refine lv_if_eq (tgt := 17) hx hb dJ0_isLatin1_aae02_3 (by decide) (fun c3 => ?_) (fun c3 => ?_)
  · exact absurd c3 (by decide)
  refine lv_aload_n hx hb dJ0_isLatin1_aae02_6 rfl (lv_at hl 0 rfl) ?_
  refine vk_getf hx hb (hG.2.2.1.1 i hi).2.1 hG.2.1 hown (hts _ qF_J0_15) (fun _ h => h) dJ0_isLatin1_aae02_7 ?_
  refine lv_if_ne (tgt := 17) hx hb dJ0_isLatin1_aae02_10 (by decide) (fun c3 => ?_) (fun c3 => ?_)
  · exact absurd rfl c3
  refine lv_iconst (v := (1 : Int32)) hx hb dJ0_isLatin1_aae02_13 (by decide) ?_
  refine lv_goto (tgt := 18) hx hb dJ0_isLatin1_aae02_14 (by decide) ?_
  exact g_nret hx hb hr hlocks hK hlo hG rfl ⟨rfl, rfl⟩ dJ0_isLatin1_aae02_18
set_option maxRecDepth 20000 in
set_option maxHeartbeats 4000000 in
theorem m_J3_checkIndex (l : Launch) (dd : va_G) (cT : Nat → ClassId) (lo : Nat → Prop) (G : gH) (x y : Int32) (v : Value) (hv : v.category = 1) (h1 : ¬ x < 0) (h2 : x < y) : Met l yJ3_checkIndex_8e157 (Cond.code yJ3_checkIndex_8e157 cJ3_checkIndex_8e157 3 (some .int) :: wsL_law) (g_rm 0 0 0 0) (va_Pc [.int x, .int y, v] (g_Pre lo dd cT G)) (va_Qi (g_is x G) (g_Pre lo dd cT) (g_A lo)) 0 0 (g_A lo) := by
  refine g_start RJ3 rfl (by decide) (by have e1 : (Value.int x).category = 1 := rfl; have e2 : (Value.int y).category = 1 := rfl; simp [lg_sl, hv, e1, e2]) ?_
  intro p e s m below meth c hx hb hr hlocks hml hown hnm hts hK hG hlo ls hl
  have hl : lv_has ls 3 (lv_args 0 [.int x, .int y, v]) := hl
  have hG : g_S lo dd cT s s.heap [] G := hG
  refine lv_iload_n (x := x) hx hb dJ3_checkIndex_8e157_0 rfl (lv_at hl 0 rfl) ?_
  refine lv_if_lt (tgt := 9) hx hb dJ3_checkIndex_8e157_1 (by decide) (fun c3 => ?_) (fun c3 => ?_)
  · exact absurd c3 h1
  refine lv_iload_n (x := x) hx hb dJ3_checkIndex_8e157_4 rfl (lv_at hl 0 rfl) ?_
  refine lv_iload_n (x := y) hx hb dJ3_checkIndex_8e157_5 rfl (lv_at hl 1 rfl) ?_
  refine lv_icmp_lt (tgt := 16) hx hb dJ3_checkIndex_8e157_6 (by decide) (fun c3 => ?_) (fun c3 => ?_)
  · refine lv_iload_n (x := x) hx hb dJ3_checkIndex_8e157_16 rfl (lv_at hl 0 rfl) ?_
    exact g_iret hx hb hr hlocks hK hlo hG ⟨rfl, rfl⟩ dJ3_checkIndex_8e157_17
  · exact absurd h2 c3
set_option maxRecDepth 20000 in
set_option maxHeartbeats 4000000 in
theorem m_J0_checkIndex (l : Launch) (dd : va_G) (cT : Nat → ClassId) (lo : Nat → Prop) (G : gH) (x y : Int32) (h1 : ¬ x < 0) (h2 : x < y) : Met l yJ0_checkIndex_df160 (Cond.code yJ0_checkIndex_df160 cJ0_checkIndex_df160 2 none :: wsL_law) (g_rm 1 22 0 0) (va_Pc [.int x, .int y] (g_Pre lo dd cT G)) (va_Qv (g_iv G) (g_Pre lo dd cT) (g_A lo)) 0 0 (g_A lo) := by
  refine g_start RJ0 rfl (by decide) (Nat.le_of_ble_eq_true rfl) ?_
  intro p e s m below meth c hx hb hr hlocks hml hown hnm hts hK hG hlo ls hl
  have hl : lv_has ls 2 [(0, .int x), (1, .int y)] := hl
  have hG : g_S lo dd cT s s.heap [] G := hG
  refine lv_iload_n hx hb dJ0_checkIndex_df160_0 rfl (lv_at hl 0 rfl) ?_
  refine lv_iload_n hx hb dJ0_checkIndex_df160_1 rfl (lv_at hl 1 rfl) ?_
  have key : ∀ v : Value, v.category = 1 → va_Z "jdk/internal/util/Preconditions" "SIOOBE_FORMATTER" "Ljava/util/function/BiFunction;" v (g_A lo) s s.heap → W p l e (g_rm 1 22 0 0) s m ([.int x, .int y] : List Value).toArray below meth c s.heap [] 0 0 (MQ below (va_Qv (g_iv G) (g_Pre lo dd cT) (g_A lo)) ([.int x, .int y] : List Value).toArray s 0 0 (g_A lo)) (F0 m 2 ls [.int y, .int x]) := by
    intro v hv hZ
    refine va_gets hx hb hZ hG.2.1 hown (hts _ qF_J0_1053) (fun _ h => h) dJ0_checkIndex_df160_2 ?_
    refine g_cAi (As := [.int x, .int y, v]) (rest := []) (n := 3) hx hb hml hown hts hK hlo hG (m_J3_checkIndex l dd cT lo G x y v hv h1 h2) qM_J0_1059 qT_yJ3_checkIndex_8e157 qN_J3 qC_yJ3_checkIndex_8e157 (by decide +kernel) ⟨Nat.le_of_ble_eq_true rfl, Nat.le_of_ble_eq_true rfl⟩ rfl hl.1 rfl (Nat.le_of_ble_eq_true rfl) dJ0_checkIndex_df160_5 ⟨Nat.le_of_ble_eq_true rfl, Nat.le_of_ble_eq_true rfl⟩ (fun H locs hG => ?_)
    refine lv_pop hx hb dJ0_checkIndex_df160_8 rfl ?_
    exact g_vret hx hb hr hlocks hK hlo hG rfl dJ0_checkIndex_df160_9
  rcases hG.2.2.2.2.2.2.2.2.1 with hZ | ⟨t, hZ⟩
  · exact key _ rfl hZ
  · exact key _ rfl hZ
theorem g_chs : ∀ i, i < 6 → (g_len0.getD i 0 < 100) ∧ ∀ j, j < g_len0.getD i 0 → ((((g_byt.getD i []).getD j 0) &&& 255).toUInt32 % 65536).toInt32 = (g_byt.getD i []).getD j 0 ∧ narrow .char (.int ((g_byt.getD i []).getD j 0)) = .int ((g_byt.getD i []).getD j 0) := by decide +kernel
theorem g_vpin {x : Int32} {n : Nat} (hn : n < 100) (h : vp_in x n) : ¬ x < 0 ∧ x < Int32.ofNat n := by
  have h0 : ¬ x < 0 := fun z => h (Or.inl z)
  have h1 : x.toNatClampNeg < n := Nat.not_le.mp fun z => h (Or.inr z)
  refine ⟨h0, ?_⟩
  have h2 : (0 : Int) ≤ x.toInt := by
    have := Int32.not_lt.mp h0
    simpa using Int32.le_iff_toInt_le.mp this
  have h3 : x.toInt = (x.toNatClampNeg : Int) := by
    show x.toInt = ((x.toInt.toNat : Nat) : Int)
    omega
  rw [Int32.lt_iff_toInt_lt, h3]
  have h4 : (Int32.ofNat n).toInt = (n : Int) := nI_toInt (by omega)
  rw [h4]
  omega
set_option maxRecDepth 20000 in
set_option maxHeartbeats 4000000 in
theorem m_J1_charAt (l : Launch) (dd : va_G) (cT : Nat → ClassId) (lo : Nat → Prop) (G : gH) (i : Nat) (hi : i < 6) (x : Int32) (hin : vp_in x (g_len0.getD i 0)) : Met l yJ1_charAt_3b067 (Cond.code yJ1_charAt_3b067 cJ1_charAt_3b067 2 (some .char) :: wsL_law) (g_rm 2 44 0 0) (va_Pc [.ref (dd.2 101 i), .int x] (g_Pre lo dd cT G)) (va_Qi (g_is ((g_byt.getD i []).getD x.toNatClampNeg 0) G) (g_Pre lo dd cT) (g_A lo)) 0 0 (g_A lo) := by
  refine g_start RJ1 rfl (by decide) (Nat.le_of_ble_eq_true rfl) ?_
  intro p e s m below meth c hx hb hr hlocks hml hown hnm hts hK hG hlo ls hl
  have hl : lv_has ls 2 [(0, .ref (dd.2 101 i)), (1, .int x)] := hl
  have hG : g_S lo dd cT s s.heap [] G := hG
  obtain ⟨hL, hc⟩ := g_chs i hi
  obtain ⟨hc1, hc2⟩ := hc x.toNatClampNeg (Nat.not_le.mp fun z => hin (Or.inr z))
  obtain ⟨b1, b2⟩ := g_vpin hL hin
  refine lv_iload_n hx hb dJ1_charAt_3b067_0 rfl (lv_at hl 1 rfl) ?_
  refine lv_aload_n hx hb dJ1_charAt_3b067_1 rfl (lv_at hl 0 rfl) ?_
  refine va_tlen hx hb (hG.2.2.1.1 i hi).2.2.2 hG.2.1 rfl dJ1_charAt_3b067_2 ?_
  refine g_cAv (As := [.int x, .int (Int32.ofNat (g_len0.getD i 0))]) (rest := []) (n := 2) hx hb hml hown hts hK hlo hG (m_J0_checkIndex l dd cT lo G x _ b1 b2) qM_J1_9 qT_yJ0_checkIndex_df160 qN_J0 qC_yJ0_checkIndex_df160 (by decide +kernel) ⟨Nat.le_of_ble_eq_true rfl, Nat.le_of_ble_eq_true rfl⟩ rfl hl.1 rfl (Nat.le_of_ble_eq_true rfl) dJ1_charAt_3b067_3 ⟨Nat.le_of_ble_eq_true rfl, Nat.le_of_ble_eq_true rfl⟩ (fun H locs hG => ?_)
  refine lv_aload_n hx hb dJ1_charAt_3b067_6 rfl (lv_at hl 0 rfl) ?_
  refine lv_iload_n hx hb dJ1_charAt_3b067_7 rfl (lv_at hl 1 rfl) ?_
  refine va_tb hx hb (hG.2.2.1.1 i hi).2.2.2 hG.2.1 hin rfl dJ1_charAt_3b067_8 ?_
  refine lv_sipush (v := (255 : Int32)) hx hb dJ1_charAt_3b067_9 (by decide) ?_
  refine lv_iand hx hb dJ1_charAt_3b067_12 ?_
  refine lv_i2c hx hb dJ1_charAt_3b067_13 hc1 ?_
  exact g_nret hx hb hr hlocks hK hlo hG hc2 ⟨rfl, rfl⟩ dJ1_charAt_3b067_14
set_option maxRecDepth 20000 in
set_option maxHeartbeats 4000000 in
theorem m_J0_charAt_5068e (l : Launch) (dd : va_G) (cT : Nat → ClassId) (lo : Nat → Prop) (G : gH) (i : Nat) (x : Int32) {rz : Int32} (h : f_J0_charAt_5068e G i x = some rz) : Met l yJ0_charAt_5068e (Cond.code yJ0_charAt_5068e cJ0_charAt_5068e 2 (some .char) :: wsL_law) (g_rm 3 65 0 0) (va_Pc [.ref (dd.2 100 i), .int x] (g_Pre lo dd cT G)) (va_Qi (g_is rz G) (g_Pre lo dd cT) (g_A lo)) 0 0 (g_A lo) := by
  refine g_start RJ0 rfl (by decide) (Nat.le_of_ble_eq_true rfl) ?_
  intro p e s m below meth c hx hb hr hlocks hml hown hnm hts hK hG hlo ls hl
  have hl : lv_has ls 2 [(0, .ref (dd.2 100 i)), (1, .int x)] := hl
  have hG : g_S lo dd cT s s.heap [] G := hG
  unfold f_J0_charAt_5068e at h
  split at h
  · rename_i hh
    obtain ⟨hi, hin⟩ := hh
    obtain rfl := Option.some.inj h
    obtain ⟨hL, hc⟩ := g_chs i hi
    obtain ⟨hc1, hc2⟩ := hc x.toNatClampNeg (Nat.not_le.mp fun z => hin (Or.inr z))
    refine lv_aload_n hx hb dJ0_charAt_5068e_0 rfl (lv_at hl 0 rfl) ?_
    refine g_cTi (As := []) (rest := []) (n := 0) (i := i) hx hb hml hown hts hK hlo hG (m_J0_isLatin1 l dd cT lo G i hi) qM_J0_492 qI_yJ0_isLatin1_aae02 qS_J0_yJ0_isLatin1_aae02 qN_J0 qC_yJ0_isLatin1_aae02 (by decide +kernel) ⟨Nat.le_of_ble_eq_true rfl, Nat.le_of_ble_eq_true rfl⟩ hi rfl hl.1 rfl (Nat.le_of_ble_eq_true rfl) dJ0_charAt_5068e_1 ⟨Nat.le_of_ble_eq_true rfl, Nat.le_of_ble_eq_true rfl⟩ (fun H locs hG => ?_)
    refine lv_if_eq (tgt := 16) hx hb dJ0_charAt_5068e_4 (by decide) (fun c3 => ?_) (fun c3 => ?_)
    · exact absurd c3 (by decide)
    refine lv_aload_n hx hb dJ0_charAt_5068e_7 rfl (lv_at hl 0 rfl) ?_
    refine vk_getf hx hb (hG.2.2.1.1 i hi).2.2.1 hG.2.1 hown (hts _ qF_J0_9) (fun _ h => h) dJ0_charAt_5068e_8 ?_
    refine lv_iload_n hx hb dJ0_charAt_5068e_11 rfl (lv_at hl 1 rfl) ?_
    refine g_cAi (As := [.ref (dd.2 101 i), .int x]) (rest := []) (n := 2) hx hb hml hown hts hK hlo hG (m_J1_charAt l dd cT lo G i hi x hin) qM_J0_495 qT_yJ1_charAt_3b067 qN_J1 qC_yJ1_charAt_3b067 (by decide +kernel) ⟨Nat.le_of_ble_eq_true rfl, Nat.le_of_ble_eq_true rfl⟩ rfl hl.1 rfl (Nat.le_of_ble_eq_true rfl) dJ0_charAt_5068e_12 ⟨Nat.le_of_ble_eq_true rfl, Nat.le_of_ble_eq_true rfl⟩ (fun H locs hG => ?_)
    exact g_nret hx hb hr hlocks hK hlo hG hc2 ⟨rfl, rfl⟩ dJ0_charAt_5068e_15
  · cases h
theorem g_lens : ∀ i, i < 6 → (Int32.ofNat (g_len0.getD i 0)) >>> ((0 : Int32) &&& 31) = nI (g_len0.getD i 0) := by decide +kernel
set_option maxRecDepth 20000 in
set_option maxHeartbeats 4000000 in
theorem m_J0_length_8abf5 (l : Launch) (dd : va_G) (cT : Nat → ClassId) (lo : Nat → Prop) (G : gH) (i : Nat) {rz : Int32} (h : f_J0_length_8abf5 G i = some rz) : Met l yJ0_length_8abf5 (Cond.code yJ0_length_8abf5 cJ0_length_8abf5 1 (some .int) :: wsL_law) (g_rm 1 20 0 0) (va_Pc [.ref (dd.2 100 i)] (g_Pre lo dd cT G)) (va_Qi (g_is rz G) (g_Pre lo dd cT) (g_A lo)) 0 0 (g_A lo) := by
  refine g_start RJ0 rfl (by decide) (Nat.le_of_ble_eq_true rfl) ?_
  intro p e s m below meth c hx hb hr hlocks hml hown hnm hts hK hG hlo ls hl
  have hl : lv_has ls 1 [(0, .ref (dd.2 100 i))] := hl
  have hG : g_S lo dd cT s s.heap [] G := hG
  unfold f_J0_length_8abf5 at h
  split at h
  · rename_i hi
    obtain rfl := Option.some.inj h
    refine lv_aload_n hx hb dJ0_length_8abf5_0 rfl (lv_at hl 0 rfl) ?_
    refine vk_getf hx hb (hG.2.2.1.1 i hi).2.2.1 hG.2.1 hown (hts _ qF_J0_9) (fun _ h => h) dJ0_length_8abf5_1 ?_
    refine va_tlen hx hb (hG.2.2.1.1 i hi).2.2.2 hG.2.1 rfl dJ0_length_8abf5_4 ?_
    refine lv_aload_n hx hb dJ0_length_8abf5_5 rfl (lv_at hl 0 rfl) ?_
    refine g_cTi (As := []) (rest := [.int (Int32.ofNat (g_len0.getD i 0))]) (n := 0) (i := i) hx hb hml hown hts hK hlo hG (m_J0_coder l dd cT lo G i hi) qM_J0_335 qI_yJ0_coder_7d493 qS_J0_yJ0_coder_7d493 qN_J0 qC_yJ0_coder_7d493 (by decide +kernel) ⟨Nat.le_of_ble_eq_true rfl, Nat.le_of_ble_eq_true rfl⟩ hi rfl hl.1 rfl (Nat.le_of_ble_eq_true rfl) dJ0_length_8abf5_6 ⟨Nat.le_of_ble_eq_true rfl, Nat.le_of_ble_eq_true rfl⟩ (fun H locs hG => ?_)
    refine lv_ishr hx hb dJ0_length_8abf5_9 ?_
    exact g_iret hx hb hr hlocks hK hlo hG ⟨g_lens i hi, rfl⟩ dJ0_length_8abf5_10
  · cases h
theorem f_J0_length_8abf5_lt {G : gH} {i : Nat} {r : Int32} (h : f_J0_length_8abf5 G i = some r) : i < 6 := by
  unfold f_J0_length_8abf5 at h
  split at h
  · assumption
  · cases h
theorem f_J0_charAt_5068e_lt {G : gH} {i : Nat} {x r : Int32} (h : f_J0_charAt_5068e G i x = some r) : i < 6 := by
  unfold f_J0_charAt_5068e at h
  split at h
  · rename_i hh
    exact hh.1
  · cases h

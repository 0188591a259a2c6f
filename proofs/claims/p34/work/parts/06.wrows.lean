/-! Making anew and throwing, over the ghost heap: rows with any post. -/
theorem g_R.push {cT : Nat → ClassId} {ws : va_W} {G : gH} {A : Nat → Prop} {q : Nat} {e : gE} (hR : g_R cT ws G) (hD : va_D A (ws ++ [(q, g_toE cT e)])) : G q = none ∧ g_R cT (ws ++ [(q, g_toE cT e)]) (va_up G q (some e)) := by
  have hn : G q = none := by
    cases hq : G q with
    | none => rfl
    | some e0 =>
      obtain ⟨k, hk⟩ := hR q e0 hq
      have hl : k < ws.length := (List.getElem?_eq_some_iff.mp hk).1
      have h1 : (ws ++ [(q, g_toE cT e)])[k]? = some (q, g_toE cT e0) := by rw [List.getElem?_append_left hl]; exact hk
      have h2 : (ws ++ [(q, g_toE cT e)])[ws.length]? = some (q, g_toE cT e) := by simp
      have h3 := hD.1 _ _ _ _ h1 h2 rfl
      omega
  refine ⟨hn, fun a e1 ha => ?_⟩
  by_cases h : a = q
  · subst h
    have h4 : e = e1 := by
      unfold va_up at ha
      rw [if_pos rfl] at ha
      exact Option.some.inj ha
    subst h4
    exact ⟨ws.length, by simp⟩
  · unfold va_up at ha
    rw [if_neg h] at ha
    obtain ⟨k, hk⟩ := hR a e1 ha
    have hl : k < ws.length := (List.getElem?_eq_some_iff.mp hk).1
    exact ⟨k, by rw [List.getElem?_append_left hl]; exact hk⟩
theorem g_W.grow {lo : Nat → Prop} {dd : va_G} {cT : Nat → ClassId} {G : gH} {H H1 : Heap} (h : g_W lo dd cT G H) (hq : ∀ q : Nat, q < H.size → H1[q]? = H[q]?) : g_W lo dd cT G H1 := by
  obtain ⟨ws, hP, hD, hR⟩ := h
  exact ⟨ws, hP.kept fun k q hk => hq q.1 (hP k q hk).lt, hD, hR⟩
abbrev g_bad : List Cond := [.castable g_xIAE g_xIAE, .castable g_xIOB g_xIOB, .castable g_xISE g_xISE, .declares (Bundle.initS "java/lang/RuntimeException"), .declares (Bundle.initS "java/lang/Exception"), .declares (Bundle.initS Bundle.tN)]
theorem g_bad_at {args : Array Value} {s : State} (h : g_T s) : ∀ w ∈ g_bad, w.before args s = true := by
  obtain ⟨-, h2, h3, -, -⟩ := h
  refine vx_c (va_Nw.use rfl (h2 g_xIAE ?_)) (vx_c (va_Nw.use rfl (h2 g_xIOB ?_)) (vx_c (va_Nw.use rfl (h2 g_xISE ?_)) (vx_c (va_Nw.use rfl (h3 (Bundle.initS "java/lang/RuntimeException") ?_)) (vx_c (va_Nw.use rfl (h3 (Bundle.initS "java/lang/Exception") ?_)) (vx_c (va_Nw.use rfl (h3 (Bundle.initS Bundle.tN) ?_)) vx_n)))))
  all_goals simp
/-- what a throw leaves -/
abbrev g_XC (lo : Nat → Prop) (dd : va_G) (cT : Nat → ClassId) (KX : String → gH → Prop) : String → State → State → Prop := vx_X (fun _ : gH => True) (fun E G' t => KX E G' ∧ g_W lo dd cT G' t.heap) (g_A lo)
set_option maxHeartbeats 4000000 in
theorem g_startX {l : Launch} {y : MethodName} {cc : ByteArray} {mL : Nat} {ret : Option FieldType} {fr lc mc ms : Nat} {lo : Nat → Prop} {dd : va_G} {cT : Nat → ClassId} {G : gH} {As : List Value} {Qc : Array Value → State → Outcome → State → Prop} {XC : String → State → State → Prop} (C : String) (hC : y.cls = C) (hpl : plainName y.cls = true) (hlen : (lg_sl As).length ≤ mL)
    (body : ∀ (p : Program) (e : Env) (s : State) (m : MethodId) (below : List Frame) (meth : Method) (c : Code), p.tables.exec = Jvm.exec → c.code = cc → meth.sig.returnType = ret → meth.locks = false → c.maxLocals = mL → (∀ x ∈ c.exceptionTable.toList, False) → s.vm.findClass C = some m.cls → meth.name = y.name → (∀ w ∈ wsL_law, w.before As.toArray s = true) → g_K dd cT s → g_S lo dd cT s s.heap [] G → g_le lo s.heap.size → ∀ ls : Array Slot, lv_has ls mL (lv_args 0 As) → W p l e (g_rm fr lc mc ms) s m As.toArray below meth c s.heap [] 0 0 (vx_MQ below Qc XC As.toArray s mc ms (g_A lo)) (F0 m 0 ls [])) :
    vx_Met l y (Cond.code y cc mL ret :: wsL_law) (g_rm fr lc mc ms) (va_Pc As (g_Pre lo dd cT G)) Qc XC mc ms (g_A lo) := by
  refine vx_ofW (cc := cc) (maxL := mL) (ret := ret) hpl rfl ?_
  intro p e s m args below meth c s₁ B hml hnone hv
  obtain ⟨rfl, hlo, hW, hK, hX⟩ := hv
  have hts := atoms_spec (ws := Cond.code y cc mL ret :: wsL_law) B.pre
  have hown : s.vm.findClass C = some m.cls := hC ▸ findClass_of_methodNamed B.named
  rw [lg_entry_eq]
  exact body p e s m below meth c B.exec B.bytes B.returns B.notSynchronized hml hnone hown (name_of_methodNamed B.named B.method).1 (fun w hw => hts w (List.mem_cons_of_mem _ hw)) hK ⟨hW, va_S.rf, hX⟩ hlo _ (lv_entry As hlen)
section GWR
variable {p : Program} {l : Launch} {e : Env} {R : Room} {s : State} {m : MethodId} {args : Array Value} {below : List Frame} {meth : Method} {c : Code} {H : Heap} {locs : List Loc} {cells slots : Nat} {Q : State → Prop}
variable {cc : ByteArray} {pc : Nat} {ls : Array Slot} {rest : List Value} {lo : Nat → Prop} {dd : va_G} {cT : Nat → ClassId} {G : gH}
def g_qast (G : gH) (a : Nat) (i : Int32) (v : Nat) : Option gH := match G a with
  | some (.inr (.inr (.inl (k, n, f)))) => if k = 4 ∧ ¬ (i < 0 ∨ n ≤ i.toNatClampNeg) then some (va_up G a (some (.inr (.inr (.inl (4, n, va_up f i.toNatClampNeg (some v))))))) else none
  | _ => none
theorem g_qast_spec {G G1 : gH} {a v : Nat} {i : Int32} (h : g_qast G a i v = some G1) : ∃ n f, G a = some (.inr (.inr (.inl (4, n, f)))) ∧ vp_in i n ∧ G1 = va_up G a (some (.inr (.inr (.inl (4, n, va_up f i.toNatClampNeg (some v)))))) := by
  unfold g_qast at h
  split at h
  · rename_i k n f hG
    split at h
    · rename_i hk
      obtain ⟨rfl, hk⟩ := hk
      exact ⟨n, f, hG, hk, (Option.some.inj h).symm⟩
    · cases h
  · cases h
set_option maxHeartbeats 1000000 in
theorem g_qast_row (hx : p.tables.exec = Jvm.exec) (hb : c.code = cc) (hK : g_K dd cT s) (hG : g_S lo dd cT s H locs G) {a v : Nat} {i : Int32} {G1 : gH} {u0 : Unit} (hob : g_ob G v 1 = some u0) (hv : g_qast G a i v = some G1) (hdg : decode cc pc = .ok (.aastore, 1))
    (kk : ∀ (H1 : Heap) (locs1 : List Loc), g_S lo dd cT s H1 locs1 G1 → W p l e R s m args below meth c H1 locs1 cells slots Q (F0 m (pc + 1) ls rest)) : W p l e R s m args below meth c H locs cells slots Q (F0 m pc ls (.ref v :: .int i :: .ref a :: rest)) := by
  obtain ⟨⟨ws, hP, hD, hR⟩, hS, hX⟩ := hG
  obtain ⟨n, f, hGa, hin, rfl⟩ := g_qast_spec hv
  obtain ⟨q0, hq⟩ := hR _ _ hGa
  obtain ⟨vs, hGv⟩ := g_ob_spec hob
  obtain ⟨qk, hqv⟩ := hR _ _ hGv
  exact va_astq (D := dd) (r := (RX1, TX1, 7)) hx hb hK.1 hP hD hS q0 4 qk 1 hq rfl hqv rfl hin hdg (fun H1 locs1 hP1 hD1 hS1 => kk H1 locs1 ⟨⟨_, hP1, hD1, hR.set (e1 := .inr (.inr (.inl (4, n, va_up f i.toNatClampNeg (some v))))) hD hq⟩, hS1, hX⟩)
set_option maxHeartbeats 1000000 in
theorem g_new (hx : p.tables.exec = Jvm.exec) (hb : c.code = cc) {own C : String} {T : u_T} {N ci index : Nat} (hts : ∀ w ∈ wsL_law, w.before args s = true) (hin : ∀ w ∈ u_ws C T N, w ∈ wsL_law) (ty : Nat → FieldType) (hty : ∀ k, k < N → parseFieldDescriptor (T k).2.2.1 = some (ty k)) (hown : s.vm.findClass own = some m.cls) (hK : g_K dd cT s) (hlo : g_le lo s.heap.size) (hG : g_S lo dd cT s H locs G) (hc : vwCl[ci]? = some (C, T, N)) (hcl : Cond.classLink own index C ∈ wsL_law) (hinst : Cond.instantiable C N ∈ wsL_law) (hini : Cond.initialized C ∈ wsL_law) {fs : List Value} (hfs : ∀ j, j < N → defaultValue (ty j) = vp_V fs j) (hf : cells + 1 ≤ R.cells ∧ slots + N ≤ R.slots) (hdg : decode cc pc = .ok (.new index, 3))
    (kk : ∀ (q : Nat) (H1 : Heap), G q = none → g_S lo dd cT s H1 locs (va_up G q (some (.inr (.inr (.inr (ci, fs)))))) → W p l e R s m args below meth c H1 locs (cells + 1) (slots + N) Q (F0 m (pc + 3) ls (.ref q :: rest))) : W p l e R s m args below meth c H locs cells slots Q (F0 m pc ls rest) := by
  obtain ⟨⟨ws, hP, hD, hR⟩, hS, hX⟩ := hG
  refine va_new (D := dd) hx hb hts hin ty hty hown (hts _ hcl) (hts _ hinst) (hts _ hini) hK.1 hP hD hS hlo hc hfs hf.1 hf.2 hdg (fun q H1 hP1 hD1 hS1 => ?_)
  obtain ⟨h1, h2⟩ := hR.push (e := .inr (.inr (.inr (ci, fs)))) hD1
  exact kk q H1 h1 ⟨⟨_, hP1, hD1, h2⟩, hS1, hX⟩

set_option maxHeartbeats 1000000 in
theorem g_newai (hx : p.tables.exec = Jvm.exec) (hb : c.code = cc) (hts : ∀ w ∈ wsL_law, w.before args s = true) (hK : g_K dd cT s) (hlo : g_le lo s.heap.size) (hG : g_S lo dd cT s H locs G) {n : Int32} {N : Nat} (hn : ¬ n < 0) (hN : n.toNatClampNeg = N) (hbytes : N * componentBytes .int ≤ 536870912) (hf : cells + 1 ≤ R.cells ∧ slots + N ≤ R.slots) (hdg : decode cc pc = .ok (.newarray .int, 2))
    (kk : ∀ (q : Nat) (H1 : Heap), G q = none → g_S lo dd cT s H1 locs (va_up G q (some (.inl (0, N, fun _ => 0)))) → W p l e R s m args below meth c H1 locs (cells + 1) (slots + N) Q (F0 m (pc + 2) ls (.ref q :: rest))) : W p l e R s m args below meth c H locs cells slots Q (F0 m pc ls (.int n :: rest)) := by
  obtain ⟨⟨ws, hP, hD, hR⟩, hS, hX⟩ := hG
  refine va_newa (D := dd) (atype := .int) (ty := .int) (a0 := (N, .inl (fun _ => 0))) hx hb (hts _ qR_int) rfl hK.1 hP hD hS hlo (fun _ => rfl) hn hN hbytes hf.1 hf.2 hdg (fun q cA H1 hK1 hP1 hD1 hS1 => ?_)
  have e1 := (hK.1.2 0 (cT 0, .int) rfl).2
  have e2 := (hK1.2 7 (cA, .int) rfl).2
  have e3 : cA = cT 0 := Option.some.inj (e2.symm.trans e1)
  subst e3
  obtain ⟨h1, h2⟩ := hR.push (e := .inl (0, N, fun _ => 0)) hD1
  exact kk q H1 h1 ⟨⟨_, hP1, hD1, h2⟩, hS1, hX⟩
set_option maxHeartbeats 1000000 in
theorem g_newaz (hx : p.tables.exec = Jvm.exec) (hb : c.code = cc) (hts : ∀ w ∈ wsL_law, w.before args s = true) (hK : g_K dd cT s) (hlo : g_le lo s.heap.size) (hG : g_S lo dd cT s H locs G) {n : Int32} {N : Nat} (hn : ¬ n < 0) (hN : n.toNatClampNeg = N) (hbytes : N * componentBytes .boolean ≤ 536870912) (hf : cells + 1 ≤ R.cells ∧ slots + N ≤ R.slots) (hdg : decode cc pc = .ok (.newarray .boolean, 2))
    (kk : ∀ (q : Nat) (H1 : Heap), G q = none → g_S lo dd cT s H1 locs (va_up G q (some (.inl (1, N, fun _ => 0)))) → W p l e R s m args below meth c H1 locs (cells + 1) (slots + N) Q (F0 m (pc + 2) ls (.ref q :: rest))) : W p l e R s m args below meth c H locs cells slots Q (F0 m pc ls (.int n :: rest)) := by
  obtain ⟨⟨ws, hP, hD, hR⟩, hS, hX⟩ := hG
  refine va_newa (D := dd) (atype := .boolean) (ty := .boolean) (a0 := (N, .inl (fun _ => 0))) hx hb (hts _ qR_boolean) rfl hK.1 hP hD hS hlo (fun _ => rfl) hn hN hbytes hf.1 hf.2 hdg (fun q cA H1 hK1 hP1 hD1 hS1 => ?_)
  have e1 := (hK.1.2 1 (cT 1, .boolean) rfl).2
  have e2 := (hK1.2 7 (cA, .boolean) rfl).2
  have e3 : cA = cT 1 := Option.some.inj (e2.symm.trans e1)
  subst e3
  obtain ⟨h1, h2⟩ := hR.push (e := .inl (1, N, fun _ => 0)) hD1
  exact kk q H1 h1 ⟨⟨_, hP1, hD1, h2⟩, hS1, hX⟩
set_option maxHeartbeats 1000000 in
theorem g_newab (hx : p.tables.exec = Jvm.exec) (hb : c.code = cc) (hts : ∀ w ∈ wsL_law, w.before args s = true) (hK : g_K dd cT s) (hlo : g_le lo s.heap.size) (hG : g_S lo dd cT s H locs G) {n : Int32} {N : Nat} (hn : ¬ n < 0) (hN : n.toNatClampNeg = N) (hbytes : N * componentBytes .byte ≤ 536870912) (hf : cells + 1 ≤ R.cells ∧ slots + N ≤ R.slots) (hdg : decode cc pc = .ok (.newarray .byte, 2))
    (kk : ∀ (q : Nat) (H1 : Heap), G q = none → g_S lo dd cT s H1 locs (va_up G q (some (.inl (2, N, fun _ => 0)))) → W p l e R s m args below meth c H1 locs (cells + 1) (slots + N) Q (F0 m (pc + 2) ls (.ref q :: rest))) : W p l e R s m args below meth c H locs cells slots Q (F0 m pc ls (.int n :: rest)) := by
  obtain ⟨⟨ws, hP, hD, hR⟩, hS, hX⟩ := hG
  refine va_newa (D := dd) (atype := .byte) (ty := .byte) (a0 := (N, .inl (fun _ => 0))) hx hb (hts _ qR_byte) rfl hK.1 hP hD hS hlo (fun _ => rfl) hn hN hbytes hf.1 hf.2 hdg (fun q cA H1 hK1 hP1 hD1 hS1 => ?_)
  have e1 := (hK.1.2 2 (cT 2, .byte) rfl).2
  have e2 := (hK1.2 7 (cA, .byte) rfl).2
  have e3 : cA = cT 2 := Option.some.inj (e2.symm.trans e1)
  subst e3
  obtain ⟨h1, h2⟩ := hR.push (e := .inl (2, N, fun _ => 0)) hD1
  exact kk q H1 h1 ⟨⟨_, hP1, hD1, h2⟩, hS1, hX⟩
set_option maxHeartbeats 1000000 in
theorem g_newaj (hx : p.tables.exec = Jvm.exec) (hb : c.code = cc) (hts : ∀ w ∈ wsL_law, w.before args s = true) (hK : g_K dd cT s) (hlo : g_le lo s.heap.size) (hG : g_S lo dd cT s H locs G) {n : Int32} {N : Nat} (hn : ¬ n < 0) (hN : n.toNatClampNeg = N) (hbytes : N * componentBytes .long ≤ 536870912) (hf : cells + 1 ≤ R.cells ∧ slots + N ≤ R.slots) (hdg : decode cc pc = .ok (.newarray .long, 2))
    (kk : ∀ (q : Nat) (H1 : Heap), G q = none → g_S lo dd cT s H1 locs (va_up G q (some (.inr (.inl (N, fun _ => 0))))) → W p l e R s m args below meth c H1 locs (cells + 1) (slots + N) Q (F0 m (pc + 2) ls (.ref q :: rest))) : W p l e R s m args below meth c H locs cells slots Q (F0 m pc ls (.int n :: rest)) := by
  obtain ⟨⟨ws, hP, hD, hR⟩, hS, hX⟩ := hG
  refine va_newa (D := dd) (atype := .long) (ty := .long) (a0 := (N, .inr (.inl (fun _ => 0)))) hx hb (hts _ qR_long) rfl hK.1 hP hD hS hlo (fun _ => rfl) hn hN hbytes hf.1 hf.2 hdg (fun q cA H1 hK1 hP1 hD1 hS1 => ?_)
  have e1 := (hK.1.2 3 (cT 3, .long) rfl).2
  have e2 := (hK1.2 7 (cA, .long) rfl).2
  have e3 : cA = cT 3 := Option.some.inj (e2.symm.trans e1)
  subst e3
  obtain ⟨h1, h2⟩ := hR.push (e := .inr (.inl (N, fun _ => 0))) hD1
  exact kk q H1 h1 ⟨⟨_, hP1, hD1, h2⟩, hS1, hX⟩
set_option maxHeartbeats 1000000 in
theorem g_newq (hx : p.tables.exec = Jvm.exec) (hb : c.code = cc) {own : String} {index : Nat} (hown : s.vm.findClass own = some m.cls) (hts : ∀ w ∈ wsL_law, w.before args s = true) (hcl : Cond.classLink own index RX1 ∈ wsL_law) (hK : g_K dd cT s) (hlo : g_le lo s.heap.size) (hG : g_S lo dd cT s H locs G) {n : Int32} {N : Nat} (hn : ¬ n < 0) (hN : n.toNatClampNeg = N) (hbytes : N * 4 ≤ 536870912) (hf : cells + 1 ≤ R.cells ∧ slots + N ≤ R.slots) (hdg : decode cc pc = .ok (.anewarray index, 3))
    (kk : ∀ (q : Nat) (H1 : Heap), G q = none → g_S lo dd cT s H1 locs (va_up G q (some (.inr (.inr (.inl (4, N, fun _ => none)))))) → W p l e R s m args below meth c H1 locs (cells + 1) (slots + N) Q (F0 m (pc + 3) ls (.ref q :: rest))) : W p l e R s m args below meth c H locs cells slots Q (F0 m pc ls (.int n :: rest)) := by
  obtain ⟨⟨ws, hP, hD, hR⟩, hS, hX⟩ := hG
  refine va_newq (D := dd) (C := RX1) hx hb hown (hts _ hcl) hX.2.2.1.2.2.2.2 hK.1 hP hD hS hlo hn hN hbytes hf.1 hf.2 hdg (fun q cA H1 hK1 hP1 hD1 hS1 => ?_)
  obtain ⟨k1, c1, -, -, -, e1⟩ := (hK.1.2 4 (cT 4, .object "OnceDisc$Disc") rfl).2
  obtain ⟨k2, c2, -, -, -, e2⟩ := (hK1.2 7 (cA, .object RX1) rfl).2
  have e3 : cA = cT 4 := Option.some.inj (e2.symm.trans e1)
  subst e3
  obtain ⟨h1, h2⟩ := hR.push (e := .inr (.inr (.inl (4, N, fun _ => none)))) hD1
  exact kk q H1 h1 ⟨⟨_, hP1, hD1, h2⟩, hS1, hX⟩
set_option maxHeartbeats 4000000 in
theorem g_throw (hx : p.tables.exec = Jvm.exec) (hb : c.code = cc) {nL : Nat} (hml : c.maxLocals = nL) (hl : l.stackTraces = false) (hown : s.vm.findClass RX9 = some m.cls) (hts : ∀ w ∈ wsL_law, w.before args s = true) (hlocks : meth.locks = false) (hnone : ∀ x ∈ c.exceptionTable.toList, False) (hG : g_S lo dd cT s H locs G) {ik is ic mc ms : Nat} {X text : String} (hfit : Bundle.fit X = true) (hmsg : (is, text) ∈ g_msgs) (hk : Cond.classLink RX9 ik X ∈ wsL_law) (hini : Cond.initialized X ∈ wsL_law) (hat : ∀ w ∈ (vx_atS RX9 ic X g_xup).filter goodWord, w ∈ wsL_law) (hbad : ((vx_atS RX9 ic X g_xup).filter (fun w => !goodWord w)).all (fun w => decide (w ∈ g_bad)) = true) (hok : (Cond.classLink RX9 ik X :: Cond.initialized X :: vx_atS RX9 ic X g_xup).all vx_ot = true)
    (hsz : ls.size = nL) (d0 : decode cc pc = .ok (.new ik, 3)) (d3 : decode cc (pc + 3) = .ok (.dup, 1)) (d4 : decode cc (pc + 4) = .ok (.ldc_w is, 3)) (d7 : decode cc (pc + 7) = .ok (.invokespecial ic, 3)) (d10 : decode cc (pc + 10) = .ok (.athrow, 1)) (hR : 6 ≤ R.frames ∧ 82 ≤ R.locals) (hf : cells + 1 ≤ R.cells ∧ slots + 6 ≤ R.slots)
    {Qc : Array Value → State → Outcome → State → Prop} {KX : String → gH → Prop} (hKX : KX X G) (hc : cells + 1 ≤ mc) (hs : slots + 6 ≤ ms) : W p l e R s m args below meth c H locs cells slots (vx_MQ below Qc (g_XC lo dd cT KX) args s mc ms (g_A lo)) (F0 m pc ls []) := by
  obtain ⟨hW, hS, hX⟩ := hG
  obtain ⟨a, ha⟩ := hX.2.2.1.1 _ hmsg
  refine vx_throwSW (own := RX9) (names := g_xup) (A := g_A lo) hx hb hl hown hfit (by decide +kernel) (hts _ hk) (hts _ hini) ha (vx_hat (fun w hw => hts _ (hat w hw)) (fun w hw => of_decide_eq_true (List.all_eq_true.mp hbad w hw)) (g_bad_at hX.2.2.1)) (fun w hw => List.all_eq_true.mp hok w hw) hX.2.2.2.2.1 hX.2.2.2.2.2.1 hS (hsz.trans hml.symm) d0 d3 d4 d7 d10 (fun x hx9 => (hnone x hx9).elim) (Nat.lt_of_lt_of_le (Nat.lt_of_sub_ne_zero (by decide)) hR.1) (Nat.le_trans (Nat.le_of_ble_eq_true rfl) hR.2) hf.1 hf.2 hlocks (fun t hA hz hq => ⟨G, trivial, ⟨hKX, hW.grow hq⟩, ?_⟩) hS.2.2 hc hs
  exact ⟨Nat.le_trans hS.1 hz, fun q h1 h2 => (hq q (Nat.lt_of_lt_of_le h1 hS.1)).trans (hS.2.1 q h1 h2)⟩
/-- a throw that goes through -/
theorem g_out (hlocks : meth.locks = false) (hnone : ∀ x ∈ c.exceptionTable.toList, False) (hG : g_S lo dd cT s H locs G) {E : String} {ce : Cell} {q9 : Addr} (h1 : H[q9]? = some ce) (h2 : ce.vm = .none) (h3 : s.vm.findClass E = some ce.cls) {mc ms : Nat} {Qc : Array Value → State → Outcome → State → Prop} {KX : String → gH → Prop} (hKX : KX E G) (hc : cells ≤ mc) (hs : slots ≤ ms) : vx_W p l e R s m args below meth c H locs cells slots (vx_MQ below Qc (g_XC lo dd cT KX) args s mc ms (g_A lo)) (F0 m pc ls rest) q9 := by
  obtain ⟨hW, hS, hX⟩ := hG
  refine vx_out (fun x hx9 => (hnone x hx9).elim) hlocks h1 h2 h3 (fun t ht hA => ⟨G, trivial, ⟨hKX, by rw [ht]; exact hW⟩, hS.F ht⟩) hS.2.2 hc hs

set_option maxHeartbeats 1000000 in
theorem g_wVv (hx : p.tables.exec = Jvm.exec) (hb : c.code = cc) {nL : Nat} (hml : c.maxLocals = nL) {own : String} (hown : s.vm.findClass own = some m.cls) (hts : ∀ w ∈ wsL_law, w.before args s = true) (hK : g_K dd cT s) (hlo : g_le lo s.heap.size) (hG : g_S lo dd cT s H locs G) {y : MethodName} {by_ : ByteArray} {mL fr lc mc ms index n : Nat} {ret : Option FieldType} {As : List Value}  {K : gH → Prop} {b ci N : Nat} {C : String} {T : u_T}
    (hM : Met l y (Cond.code y by_ mL ret :: wsL_law) (g_rm fr lc mc ms) (va_Pc (.ref b :: As) (g_Pre lo dd cT G)) (va_Qv K (g_Pre lo dd cT) (g_A lo)) mc ms (g_A lo))
    (h1 : Cond.methodLink own index y ∈ wsL_law) (h2 : Cond.instanceMethod y ∈ wsL_law) (h3 : Cond.selects C y y ∈ wsL_law) (h4 : Cond.initialized C ∈ wsL_law) (h5 : Cond.code y by_ mL ret ∈ wsL_law)
    (hd : y.cls = C ∧ y.cls ≠ "java/lang/invoke/MethodHandle" ∧ y.cls ≠ "java/lang/invoke/VarHandle" ∧ (parseMethodDescriptor y.desc).map (fun d => d.parameters.length) = some n) (hR : fr + 1 ≤ R.frames ∧ 8 + (mL + 11) + lc ≤ R.locals)
    (hcl : vwCl[ci]? = some (C, T, N)) {u0 : Unit} (hob : g_ob G b ci = some u0) {st0 : List Value} (hn : As.length = n) (hsz : ls.size = nL) (hst : st0 = As.reverse ++ .ref b :: rest) (hro : (rest.map fun v => v.category).sum ≤ 8) (hdg : decode cc pc = .ok (.invokevirtual index, 3)) (hf : cells + mc ≤ R.cells ∧ slots + ms ≤ R.slots)
    (kk : ∀ (G1 : gH) (H1 : Heap) (locs1 : List Loc), K G1 → g_S lo dd cT s H1 locs1 G1 → W p l e R s m args below meth c H1 locs1 (cells + mc) (slots + ms) Q (F0 m (pc + 3) ls (rest))) : W p l e R s m args below meth c H locs cells slots Q (F0 m pc ls st0) := by
  have hG0 := hG
  obtain ⟨⟨ws, hP, hD, hR0⟩, hS, hX⟩ := hG0
  obtain ⟨fs, hGb⟩ := g_ob_spec hob
  obtain ⟨q0, hq⟩ := hR0 _ _ hGb
  have hT : GoodIn wsL_law (wsV own index C y (Cond.code y by_ mL ret :: wsL_law)) := by
    intro w hw
    simp only [wsV, List.cons_append, List.nil_append, List.mem_cons] at hw
    rcases hw with rfl | rfl | rfl | rfl | rfl | hw
    · exact g_goodIn _ h1
    · exact g_goodIn _ h2
    · exact g_goodIn _ h3
    · exact g_goodIn _ h4
    · exact g_goodIn _ h5
    · exact g_goodIn _ hw
  refine va_callv (A1 := g_A lo) (free := g_A lo) (va_runV ⟨hx, hb, hml, hown, hts⟩ hM (cwV n hts hT rfl rfl rfl hd hR) ⟨g_Pre.blind, va_recv hK.1 hP hcl hq, fun U hU hW => ⟨rfl, by rw [hU]; exact g_le_trans hlo hS.1, by rw [hU]; exact ⟨ws, hP, hD, hR0⟩, hK.moved hW, hX.next hS hU hW⟩⟩ rfl hn hsz hst (lv_room hro) hdg hf) hS (fun q _ h => h) (fun q h => h) (fun u t H1 locs1 ht hvm hw hB hz1 hk1 hS1 => by exact kk u H1 locs1 hw ⟨by rw [← ht]; exact hB.2.1, hS1, hX⟩)
set_option maxHeartbeats 1000000 in
theorem g_wNv (hx : p.tables.exec = Jvm.exec) (hb : c.code = cc) {nL : Nat} (hml : c.maxLocals = nL) {own : String} (hown : s.vm.findClass own = some m.cls) (hts : ∀ w ∈ wsL_law, w.before args s = true) (hK : g_K dd cT s) (hlo : g_le lo s.heap.size) (hG : g_S lo dd cT s H locs G) {y : MethodName} {by_ : ByteArray} {mL fr lc mc ms index n : Nat} {ret : Option FieldType} {As : List Value}  {K : gH → Prop}
    (hM : Met l y (Cond.code y by_ mL ret :: wsL_law) (g_rm fr lc mc ms) (va_Pc As (g_Pre lo dd cT G)) (va_Qv K (g_Pre lo dd cT) (g_A lo)) mc ms (g_A lo))
    (h1 : (own, index, y) ∈ g_nests) (h2 : Cond.static y ∈ wsL_law) (h4 : Cond.initialized y.cls ∈ wsL_law) (h5 : Cond.code y by_ mL ret ∈ wsL_law)
    (hd : y.cls ≠ "java/lang/invoke/MethodHandle" ∧ y.cls ≠ "java/lang/invoke/VarHandle" ∧ (parseMethodDescriptor y.desc).map (fun d => d.parameters.length) = some n) (hR : fr + 1 ≤ R.frames ∧ 8 + (mL + 11) + lc ≤ R.locals)
    {st0 : List Value} (hn : As.length = n) (hsz : ls.size = nL) (hst : st0 = As.reverse ++ rest) (hro : (rest.map fun v => v.category).sum ≤ 8) (hdg : decode cc pc = .ok (.invokestatic index, 3)) (hf : cells + mc ≤ R.cells ∧ slots + ms ≤ R.slots)
    (kk : ∀ (G1 : gH) (H1 : Heap) (locs1 : List Loc), K G1 → g_S lo dd cT s H1 locs1 G1 → W p l e R s m args below meth c H1 locs1 (cells + mc) (slots + ms) Q (F0 m (pc + 3) ls (rest))) : W p l e R s m args below meth c H locs cells slots Q (F0 m pc ls st0) := by
  have hG0 := hG
  obtain ⟨⟨ws, hP, hD, hR0⟩, hS, hX⟩ := hG0
  have hT : GoodIn wsL_law (Cond.code y by_ mL ret :: wsL_law) := by
    intro w hw
    simp only [List.mem_cons] at hw
    rcases hw with rfl | hw
    · exact g_goodIn _ h5
    · exact g_goodIn _ hw
  refine va_callv (A1 := g_A lo) (free := g_A lo) (va_runSN ⟨hx, hb, hml, hown, hts⟩ hM ⟨va_cnB n hts hT rfl rfl rfl (hK.2.1 _ h1) (hts _ h4) hd hR, hts _ h2, trivial⟩ ⟨g_Pre.blind, fun U hU hW => ⟨rfl, by rw [hU]; exact g_le_trans hlo hS.1, by rw [hU]; exact ⟨ws, hP, hD, hR0⟩, hK.moved hW, hX.next hS hU hW⟩⟩ rfl hn hsz hst (lv_room hro) hdg hf) hS (fun q _ h => h) (fun q h => h) (fun u t H1 locs1 ht hvm hw hB hz1 hk1 hS1 => by exact kk u H1 locs1 hw ⟨by rw [← ht]; exact hB.2.1, hS1, hX⟩)
set_option maxHeartbeats 1000000 in
theorem g_wVi (hx : p.tables.exec = Jvm.exec) (hb : c.code = cc) {nL : Nat} (hml : c.maxLocals = nL) {own : String} (hown : s.vm.findClass own = some m.cls) (hts : ∀ w ∈ wsL_law, w.before args s = true) (hK : g_K dd cT s) (hlo : g_le lo s.heap.size) (hG : g_S lo dd cT s H locs G) {y : MethodName} {by_ : ByteArray} {mL fr lc mc ms index n : Nat} {ret : Option FieldType} {As : List Value} {K : Int32 → gH → Prop} {b ci N : Nat} {C : String} {T : u_T}
    (hM : Met l y (Cond.code y by_ mL ret :: wsL_law) (g_rm fr lc mc ms) (va_Pc (.ref b :: As) (g_Pre lo dd cT G)) (va_Qi K (g_Pre lo dd cT) (g_A lo)) mc ms (g_A lo))
    (h1 : Cond.methodLink own index y ∈ wsL_law) (h2 : Cond.instanceMethod y ∈ wsL_law) (h3 : Cond.selects C y y ∈ wsL_law) (h4 : Cond.initialized C ∈ wsL_law) (h5 : Cond.code y by_ mL ret ∈ wsL_law)
    (hd : y.cls = C ∧ y.cls ≠ "java/lang/invoke/MethodHandle" ∧ y.cls ≠ "java/lang/invoke/VarHandle" ∧ (parseMethodDescriptor y.desc).map (fun d => d.parameters.length) = some n) (hR : fr + 1 ≤ R.frames ∧ 8 + (mL + 11) + lc ≤ R.locals)
    (hcl : vwCl[ci]? = some (C, T, N)) {u0 : Unit} (hob : g_ob G b ci = some u0) {st0 : List Value} (hn : As.length = n) (hsz : ls.size = nL) (hst : st0 = As.reverse ++ .ref b :: rest) (hro : (rest.map fun v => v.category).sum ≤ 8) (hdg : decode cc pc = .ok (.invokevirtual index, 3)) (hf : cells + mc ≤ R.cells ∧ slots + ms ≤ R.slots)
    (kk : ∀ (r : Int32) (G1 : gH) (H1 : Heap) (locs1 : List Loc), K r G1 → g_S lo dd cT s H1 locs1 G1 → W p l e R s m args below meth c H1 locs1 (cells + mc) (slots + ms) Q (F0 m (pc + 3) ls (.int r :: rest))) : W p l e R s m args below meth c H locs cells slots Q (F0 m pc ls st0) := by
  have hG0 := hG
  obtain ⟨⟨ws, hP, hD, hR0⟩, hS, hX⟩ := hG0
  obtain ⟨fs, hGb⟩ := g_ob_spec hob
  obtain ⟨q0, hq⟩ := hR0 _ _ hGb
  have hT : GoodIn wsL_law (wsV own index C y (Cond.code y by_ mL ret :: wsL_law)) := by
    intro w hw
    simp only [wsV, List.cons_append, List.nil_append, List.mem_cons] at hw
    rcases hw with rfl | rfl | rfl | rfl | rfl | hw
    · exact g_goodIn _ h1
    · exact g_goodIn _ h2
    · exact g_goodIn _ h3
    · exact g_goodIn _ h4
    · exact g_goodIn _ h5
    · exact g_goodIn _ hw
  refine va_calli (A1 := g_A lo) (free := g_A lo) (va_runV ⟨hx, hb, hml, hown, hts⟩ hM (cwV n hts hT rfl rfl rfl hd hR) ⟨g_Pre.blind, va_recv hK.1 hP hcl hq, fun U hU hW => ⟨rfl, by rw [hU]; exact g_le_trans hlo hS.1, by rw [hU]; exact ⟨ws, hP, hD, hR0⟩, hK.moved hW, hX.next hS hU hW⟩⟩ rfl hn hsz hst (lv_room hro) hdg hf) hS (fun q _ h => h) (fun q h => h) (fun r1 u t H1 locs1 ht hvm hw hB hz1 hk1 hS1 => by exact kk r1 u H1 locs1 hw ⟨by rw [← ht]; exact hB.2.1, hS1, hX⟩)
set_option maxHeartbeats 1000000 in
theorem g_wI (hx : p.tables.exec = Jvm.exec) (hb : c.code = cc) {nL : Nat} (hml : c.maxLocals = nL) {own : String} (hown : s.vm.findClass own = some m.cls) (hts : ∀ w ∈ wsL_law, w.before args s = true) (hK : g_K dd cT s) (hlo : g_le lo s.heap.size) (hG : g_S lo dd cT s H locs G) {y : MethodName} {by_ : ByteArray} {mL fr lc mc ms index n : Nat} {As : List Value}  {K : gH → Prop} {b : Nat}
    (hM : Met l y (Cond.code y by_ mL none :: wsL_law) (g_rm fr lc mc ms) (va_Pc (.ref b :: As) (g_Pre lo dd cT G)) (va_Qv K (g_Pre lo dd cT) (g_A lo)) mc ms (g_A lo))
    (h1 : (own, index, y) ∈ g_nests) (h2 : Cond.instanceMethod y ∈ wsL_law) (hnm : y.name = "<init>") (h4 : Cond.initialized y.cls ∈ wsL_law) (h5 : Cond.code y by_ mL none ∈ wsL_law)
    (hd : y.cls ≠ "java/lang/invoke/MethodHandle" ∧ y.cls ≠ "java/lang/invoke/VarHandle" ∧ (parseMethodDescriptor y.desc).map (fun d => d.parameters.length) = some n) (hR : fr + 1 ≤ R.frames ∧ 8 + (mL + 11) + lc ≤ R.locals)
    {st0 : List Value} (hn : As.length = n) (hsz : ls.size = nL) (hst : st0 = As.reverse ++ .ref b :: rest) (hro : (rest.map fun v => v.category).sum ≤ 8) (hdg : decode cc pc = .ok (.invokespecial index, 3)) (hf : cells + mc ≤ R.cells ∧ slots + ms ≤ R.slots)
    (kk : ∀ (G1 : gH) (H1 : Heap) (locs1 : List Loc), K G1 → g_S lo dd cT s H1 locs1 G1 → W p l e R s m args below meth c H1 locs1 (cells + mc) (slots + ms) Q (F0 m (pc + 3) ls (rest))) : W p l e R s m args below meth c H locs cells slots Q (F0 m pc ls st0) := by
  have hG0 := hG
  obtain ⟨⟨ws, hP, hD, hR0⟩, hS, hX⟩ := hG0
  have hT : GoodIn wsL_law (Cond.code y by_ mL none :: wsL_law) := by
    intro w hw
    simp only [List.mem_cons] at hw
    rcases hw with rfl | hw
    · exact g_goodIn _ h5
    · exact g_goodIn _ hw
  refine va_callv (A1 := g_A lo) (free := g_A lo) (va_runIN ⟨hx, hb, hml, hown, hts⟩ hM ⟨va_cnB n hts hT rfl rfl rfl (hK.2.1 _ h1) (hts _ h4) hd hR, hnm, hts _ h2⟩ ⟨g_Pre.blind, fun U hU hW => ⟨rfl, by rw [hU]; exact g_le_trans hlo hS.1, by rw [hU]; exact ⟨ws, hP, hD, hR0⟩, hK.moved hW, hX.next hS hU hW⟩⟩ rfl hn hsz hst (lv_room hro) hdg hf) hS (fun q _ h => h) (fun q h => h) (fun u t H1 locs1 ht hvm hw hB hz1 hk1 hS1 => by exact kk u H1 locs1 hw ⟨by rw [← ht]; exact hB.2.1, hS1, hX⟩)
set_option maxHeartbeats 1000000 in
theorem g_xSv (hx : p.tables.exec = Jvm.exec) (hb : c.code = cc) {nL : Nat} (hml : c.maxLocals = nL) {own : String} (hown : s.vm.findClass own = some m.cls) (hts : ∀ w ∈ wsL_law, w.before args s = true) (hK : g_K dd cT s) (hlo : g_le lo s.heap.size) (hG : g_S lo dd cT s H locs G) {y : MethodName} {by_ : ByteArray} {mL fr lc mc ms index n : Nat} {ret : Option FieldType} {As : List Value}  {K : gH → Prop} {KX : String → gH → Prop}
    (hM : vx_Met l y (Cond.code y by_ mL ret :: wsL_law) (g_rm fr lc mc ms) (va_Pc As (g_Pre lo dd cT G)) (va_Qv K (g_Pre lo dd cT) (g_A lo)) (g_XC lo dd cT KX) mc ms (g_A lo))
    (h1 : Cond.methodLink own index y ∈ wsL_law) (h2 : Cond.static y ∈ wsL_law) (h4 : Cond.initialized own ∈ wsL_law) (h5 : Cond.code y by_ mL ret ∈ wsL_law)
    (hd : y.cls = own ∧ y.cls ≠ "java/lang/invoke/MethodHandle" ∧ y.cls ≠ "java/lang/invoke/VarHandle" ∧ (parseMethodDescriptor y.desc).map (fun d => d.parameters.length) = some n) (hR : fr + 1 ≤ R.frames ∧ 8 + (mL + 11) + lc ≤ R.locals)
    {st0 : List Value} (hn : As.length = n) (hsz : ls.size = nL) (hst : st0 = As.reverse ++ rest) (hro : (rest.map fun v => v.category).sum ≤ 8) (hdg : decode cc pc = .ok (.invokestatic index, 3)) (hf : cells + mc ≤ R.cells ∧ slots + ms ≤ R.slots)
    (kx : ∀ (E : String) (ce : Cell) (q9 : Addr) (G1 : gH) (H1 : Heap) (locs1 : List Loc), KX E G1 → g_S lo dd cT s H1 locs1 G1 → H1[q9]? = some ce → ce.vm = .none → s.vm.findClass E = some ce.cls → vx_W p l e R s m args below meth c H1 locs1 (cells + mc) (slots + ms) Q (F0 m pc ls rest) q9)
    (kk : ∀ (G1 : gH) (H1 : Heap) (locs1 : List Loc), K G1 → g_S lo dd cT s H1 locs1 G1 → W p l e R s m args below meth c H1 locs1 (cells + mc) (slots + ms) Q (F0 m (pc + 3) ls (rest))) : W p l e R s m args below meth c H locs cells slots Q (F0 m pc ls st0) := by
  have hG0 := hG
  obtain ⟨⟨ws, hP, hD, hR0⟩, hS, hX⟩ := hG0
  have hT : GoodIn wsL_law (wsS own index y (Cond.code y by_ mL ret :: wsL_law)) := by
    intro w hw
    simp only [wsS, List.cons_append, List.nil_append, List.mem_cons] at hw
    rcases hw with rfl | rfl | rfl | rfl | hw
    · exact g_goodIn _ h1
    · exact g_goodIn _ h2
    · exact g_goodIn _ h4
    · exact g_goodIn _ h5
    · exact g_goodIn _ hw
  refine vx_callv (A1 := g_A lo) (free := g_A lo) (vx_runS ⟨hx, hb, hml, hown, hts⟩ hM (cwS n hts hT rfl rfl rfl hd hR) ⟨g_Pre.blind, fun U hU hW => ⟨rfl, by rw [hU]; exact g_le_trans hlo hS.1, by rw [hU]; exact ⟨ws, hP, hD, hR0⟩, hK.moved hW, hX.next hS hU hW⟩⟩ rfl hn hsz hst (lv_room hro) hdg hf) hS (fun q _ h => h) (fun q h => h) (fun q _ h => h) (fun E ce q9 u t H1 locs1 ht hvm hp hB hz1 hk1 hS1 hc1 hc2 hc3 => by exact kx E ce q9 u H1 locs1 hB.1 ⟨by rw [← ht]; exact hB.2, hS1, hX⟩ hc1 hc2 hc3) (fun u t H1 locs1 ht hvm hw hB hz1 hk1 hS1 => by exact kk u H1 locs1 hw ⟨by rw [← ht]; exact hB.2.1, hS1, hX⟩)
set_option maxHeartbeats 1000000 in
theorem g_xVi (hx : p.tables.exec = Jvm.exec) (hb : c.code = cc) {nL : Nat} (hml : c.maxLocals = nL) {own : String} (hown : s.vm.findClass own = some m.cls) (hts : ∀ w ∈ wsL_law, w.before args s = true) (hK : g_K dd cT s) (hlo : g_le lo s.heap.size) (hG : g_S lo dd cT s H locs G) {y : MethodName} {by_ : ByteArray} {mL fr lc mc ms index n : Nat} {ret : Option FieldType} {As : List Value} {K : Int32 → gH → Prop} {KX : String → gH → Prop} {b ci N : Nat} {C : String} {T : u_T}
    (hM : vx_Met l y (Cond.code y by_ mL ret :: wsL_law) (g_rm fr lc mc ms) (va_Pc (.ref b :: As) (g_Pre lo dd cT G)) (va_Qi K (g_Pre lo dd cT) (g_A lo)) (g_XC lo dd cT KX) mc ms (g_A lo))
    (h1 : Cond.methodLink own index y ∈ wsL_law) (h2 : Cond.instanceMethod y ∈ wsL_law) (h3 : Cond.selects C y y ∈ wsL_law) (h4 : Cond.initialized C ∈ wsL_law) (h5 : Cond.code y by_ mL ret ∈ wsL_law)
    (hd : y.cls = C ∧ y.cls ≠ "java/lang/invoke/MethodHandle" ∧ y.cls ≠ "java/lang/invoke/VarHandle" ∧ (parseMethodDescriptor y.desc).map (fun d => d.parameters.length) = some n) (hR : fr + 1 ≤ R.frames ∧ 8 + (mL + 11) + lc ≤ R.locals)
    (hcl : vwCl[ci]? = some (C, T, N)) {u0 : Unit} (hob : g_ob G b ci = some u0) {st0 : List Value} (hn : As.length = n) (hsz : ls.size = nL) (hst : st0 = As.reverse ++ .ref b :: rest) (hro : (rest.map fun v => v.category).sum ≤ 8) (hdg : decode cc pc = .ok (.invokevirtual index, 3)) (hf : cells + mc ≤ R.cells ∧ slots + ms ≤ R.slots)
    (kx : ∀ (E : String) (ce : Cell) (q9 : Addr) (G1 : gH) (H1 : Heap) (locs1 : List Loc), KX E G1 → g_S lo dd cT s H1 locs1 G1 → H1[q9]? = some ce → ce.vm = .none → s.vm.findClass E = some ce.cls → vx_W p l e R s m args below meth c H1 locs1 (cells + mc) (slots + ms) Q (F0 m pc ls rest) q9)
    (kk : ∀ (r : Int32) (G1 : gH) (H1 : Heap) (locs1 : List Loc), K r G1 → g_S lo dd cT s H1 locs1 G1 → W p l e R s m args below meth c H1 locs1 (cells + mc) (slots + ms) Q (F0 m (pc + 3) ls (.int r :: rest))) : W p l e R s m args below meth c H locs cells slots Q (F0 m pc ls st0) := by
  have hG0 := hG
  obtain ⟨⟨ws, hP, hD, hR0⟩, hS, hX⟩ := hG0
  obtain ⟨fs, hGb⟩ := g_ob_spec hob
  obtain ⟨q0, hq⟩ := hR0 _ _ hGb
  have hT : GoodIn wsL_law (wsV own index C y (Cond.code y by_ mL ret :: wsL_law)) := by
    intro w hw
    simp only [wsV, List.cons_append, List.nil_append, List.mem_cons] at hw
    rcases hw with rfl | rfl | rfl | rfl | rfl | hw
    · exact g_goodIn _ h1
    · exact g_goodIn _ h2
    · exact g_goodIn _ h3
    · exact g_goodIn _ h4
    · exact g_goodIn _ h5
    · exact g_goodIn _ hw
  refine vx_calli (A1 := g_A lo) (free := g_A lo) (vx_runV ⟨hx, hb, hml, hown, hts⟩ hM (cwV n hts hT rfl rfl rfl hd hR) ⟨g_Pre.blind, va_recv hK.1 hP hcl hq, fun U hU hW => ⟨rfl, by rw [hU]; exact g_le_trans hlo hS.1, by rw [hU]; exact ⟨ws, hP, hD, hR0⟩, hK.moved hW, hX.next hS hU hW⟩⟩ rfl hn hsz hst (lv_room hro) hdg hf) hS (fun q _ h => h) (fun q h => h) (fun q _ h => h) (fun E ce q9 u t H1 locs1 ht hvm hp hB hz1 hk1 hS1 hc1 hc2 hc3 => by exact kx E ce q9 u H1 locs1 hB.1 ⟨by rw [← ht]; exact hB.2, hS1, hX⟩ hc1 hc2 hc3) (fun r1 u t H1 locs1 ht hvm hw hB hz1 hk1 hS1 => by exact kk r1 u H1 locs1 hw ⟨by rw [← ht]; exact hB.2.1, hS1, hX⟩)
end GWR

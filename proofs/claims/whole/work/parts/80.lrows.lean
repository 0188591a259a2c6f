/-! The law's rows: a method with handlers, a throw caught. -/
theorem g_ofWH {l : Launch} {y : MethodName} {ws ws' : List Cond} {rm : Room} {Pc : Array Value → State → Prop} {Qc : Array Value → State → Outcome → State → Prop} {mc ms : Nat} {free : Addr → Prop} {cc : ByteArray} {maxL : Nat} {ret : Option FieldType} {hh : List (Nat × Nat × Nat × Nat)}
    (hy : plainName y.cls = true) (hw : ws = Cond.codeWith y cc maxL ret hh :: ws')
    (body : ∀ p e s m args below meth c s₁, BodyLoose p l y (headSpec ws rm) cc maxL ret e s m args below meth c s₁ → c.maxLocals = maxL → Pc args s →
      W p l e (headSpec ws rm).room s m args below meth c s.heap [] 0 0 (MQ below Qc args s mc ms free) (entryFrame m args maxL)) : Met l y ws rm Pc Qc mc ms free := by
  refine MetFree.of_bodyS (code := cc) (maxLocals := maxL) (ret := ret) hy ?_ ?_
  · intro args s m h hn
    obtain ⟨m9, meth, c, hn9, h1, h2, h3, h4, -, h5, h6, -⟩ := Cond.codeWith_spec (atoms_spec (ws := ws) h _ (by rw [hw]; exact List.mem_cons_self))
    cases hn.symm.trans hn9
    exact ⟨meth, c, h1, h2, h3, h4, h5, h6⟩
  · intro p e s m args below meth c s₁ B hml hP _
    have hh0 : s₁.heap = s.heap := by rw [B.state]; rfl
    obtain ⟨t, a1, o, b1, b2, b3⟩ := body p e s m args below meth c s₁ B hml hP s₁ hh0 (Stand.of_body B)
    exact ⟨t, o, a1, b1, b2, b3⟩
set_option maxHeartbeats 4000000 in
theorem g_startH {l : Launch} {y : MethodName} {cc : ByteArray} {mL : Nat} {ret : Option FieldType} {hh : List (Nat × Nat × Nat × Nat)} {fr lc mc ms lo : Nat} {dd : va_G} {cT : Nat → ClassId} {G : gH} {As : List Value} {Qc : Array Value → State → Outcome → State → Prop} (C : String) (hC : y.cls = C) (hpl : plainName y.cls = true) (hlen : (lg_sl As).length ≤ mL)
    (body : ∀ (p : Program) (e : Env) (s : State) (m : MethodId) (below : List Frame) (meth : Method) (c : Code), p.tables.exec = Jvm.exec → c.code = cc → meth.sig.returnType = ret → meth.locks = false → c.maxLocals = mL → c.exceptionTable.toList = tableOf hh → s.vm.findClass C = some m.cls → (∀ w ∈ wsL_law, w.before As.toArray s = true) → g_K dd cT s → g_S lo dd cT s s.heap [] G → lo ≤ s.heap.size → ∀ ls : Array Slot, lv_has ls mL (lv_args 0 As) → W p l e (g_rm fr lc mc ms) s m As.toArray below meth c s.heap [] 0 0 (MQ below Qc As.toArray s mc ms (g_A lo)) (F0 m 0 ls [])) :
    Met l y (Cond.codeWith y cc mL ret hh :: wsL_law) (g_rm fr lc mc ms) (va_Pc As (g_Pre lo dd cT G)) Qc mc ms (g_A lo) := by
  refine g_ofWH (cc := cc) (maxL := mL) (ret := ret) (hh := hh) hpl rfl ?_
  intro p e s m args below meth c s₁ B hml hv
  obtain ⟨rfl, hlo, hW, hK, hX⟩ := hv
  have hts := atoms_spec (ws := Cond.codeWith y cc mL ret hh :: wsL_law) B.pre
  have hown : s.vm.findClass C = some m.cls := hC ▸ findClass_of_methodNamed B.named
  have htab := vx_table (x := y) B (hts _ List.mem_cons_self)
  rw [lg_entry_eq]
  exact body p e s m below meth c B.exec B.bytes B.returns B.notSynchronized hml htab hown (fun w hw => hts w (List.mem_cons_of_mem _ hw)) hK ⟨hW, va_S.rf, hX⟩ hlo _ (lv_entry As hlen)
section GLR
variable {p : Program} {l : Launch} {e : Env} {R : Room} {s : State} {m : MethodId} {args : Array Value} {below : List Frame} {meth : Method} {c : Code} {H : Heap} {locs : List Loc} {cells slots : Nat} {Q : State → Prop}
variable {cc : ByteArray} {pc : Nat} {ls : Array Slot} {rest : List Value} {lo : Nat} {dd : va_G} {cT : Nat → ClassId} {G : gH}
theorem g_catch (hown : s.vm.findClass RL = some m.cls) (hts : ∀ w ∈ wsL_law, w.before args s = true) {hh : List (Nat × Nat × Nat × Nat)} (htab : c.exceptionTable.toList = tableOf hh) (hG : g_S lo dd cT s H locs G) {E : String} {ce : Cell} {q9 : Addr} (h1 : H[q9]? = some ce) (h2 : ce.vm = .none) (h3 : s.vm.findClass E = some ce.cls) (pre : List ExceptionTableEntry) (x : ExceptionTableEntry) (suf : List ExceptionTableEntry) (hsplit : tableOf hh = pre ++ x :: suf) (hE : E ∈ g_exc)
    (hpre : ∀ z ∈ pre, z.catchType ≠ 0 ∧ ∃ nm : String, nm ∈ g_exc ∧ E ≠ nm ∧ Cond.classLink RL z.catchType nm ∈ wsL_law) (hx : covers x pc = true) (h0 : x.catchType ≠ 0) (hlink : Cond.classLink RL x.catchType E ∈ wsL_law) {tgt : Nat} (ht : x.handlerPc = tgt)
    (kk : W p l e R s m args below meth c H locs cells slots Q (F0 m tgt ls [.ref q9])) : vx_W p l e R s m args below meth c H locs cells slots Q (F0 m pc ls rest) q9 := by
  subst ht
  obtain ⟨-, t2, -, t4, -⟩ := hG.2.2.2.2.1
  exact vx_catch hown pre x suf (htab.trans hsplit) (fun z hz => by
    obtain ⟨a1, nm, a2, a3, a4⟩ := hpre z hz
    exact Or.inr ⟨a1, nm, hts _ a4, t4 E hE nm a2 a3⟩) hx h0 (hts _ hlink) (va_Nw.use rfl (t2 E hE)) h1 h2 h3 kk
end GLR

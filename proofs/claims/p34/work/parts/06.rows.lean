/-! The rows of the kit over a ghost heap. -/
abbrev g_rm (fr lc mc ms : Nat) : Room := { frames := fr, cells := mc, slots := ms, locals := lc }
abbrev g_is {α : Type} (r : α) (G1 : gH) : α → gH → Prop := fun r' G' => r' = r ∧ G' = G1
abbrev g_iv (G1 : gH) : gH → Prop := fun G' => G' = G1
/-- the receiver is an object of that class -/
def g_ob (G : gH) (a ci : Nat) : Option Unit := match G a with
  | some (.inr (.inr (.inr (c, _)))) => if c = ci then some () else none
  | _ => none
theorem g_ob_spec {G : gH} {a ci : Nat} {u : Unit} (h : g_ob G a ci = some u) : ∃ fs, G a = some (.inr (.inr (.inr (ci, fs)))) := by
  unfold g_ob at h
  split at h
  · rename_i c fs hG
    split at h
    · rename_i hc
      subst hc
      exact ⟨fs, hG⟩
    · cases h
  · cases h
set_option maxHeartbeats 4000000 in
theorem g_start {l : Launch} {y : MethodName} {cc : ByteArray} {mL : Nat} {ret : Option FieldType} {fr lc mc ms : Nat} {lo : Nat → Prop} {dd : va_G} {cT : Nat → ClassId} {G : gH} {As : List Value} {Qc : Array Value → State → Outcome → State → Prop} (C : String) (hC : y.cls = C) (hpl : plainName y.cls = true) (hlen : (lg_sl As).length ≤ mL)
    (body : ∀ (p : Program) (e : Env) (s : State) (m : MethodId) (below : List Frame) (meth : Method) (c : Code), p.tables.exec = Jvm.exec → c.code = cc → meth.sig.returnType = ret → meth.locks = false → c.maxLocals = mL → s.vm.findClass C = some m.cls → meth.name = y.name → (∀ w ∈ wsL_law, w.before As.toArray s = true) → g_K dd cT s → g_S lo dd cT s s.heap [] G → g_le lo s.heap.size → ∀ ls : Array Slot, lv_has ls mL (lv_args 0 As) → W p l e (g_rm fr lc mc ms) s m As.toArray below meth c s.heap [] 0 0 (MQ below Qc As.toArray s mc ms (g_A lo)) (F0 m 0 ls [])) :
    Met l y (Cond.code y cc mL ret :: wsL_law) (g_rm fr lc mc ms) (va_Pc As (g_Pre lo dd cT G)) Qc mc ms (g_A lo) := by
  refine Met.ofW (cc := cc) (maxL := mL) (ret := ret) hpl rfl ?_
  intro p e s m args below meth c s₁ B hml hv
  obtain ⟨rfl, hlo, hW, hK, hX⟩ := hv
  have hts := atoms_spec (ws := Cond.code y cc mL ret :: wsL_law) B.pre
  have hown : s.vm.findClass C = some m.cls := hC ▸ findClass_of_methodNamed B.named
  rw [lg_entry_eq]
  exact body p e s m below meth c B.exec B.bytes B.returns B.notSynchronized hml hown (name_of_methodNamed B.named B.method).1 (fun w hw => hts w (List.mem_cons_of_mem _ hw)) hK ⟨hW, va_S.rf, hX⟩ hlo _ (lv_entry As hlen)
section GROW
variable {p : Program} {l : Launch} {e : Env} {R : Room} {s : State} {m : MethodId} {args : Array Value} {below : List Frame} {meth : Method} {c : Code} {H : Heap} {locs : List Loc} {cells slots : Nat} {Q : State → Prop}
variable {cc : ByteArray} {pc : Nat} {ls : Array Slot} {rest : List Value} {lo : Nat → Prop} {dd : va_G} {cT : Nat → ClassId} {G : gH}
theorem g_getv (hx : p.tables.exec = Jvm.exec) (hb : c.code = cc) {own C : String} {T : u_T} {N ci index : Nat} (hts : ∀ w ∈ wsL_law, w.before args s = true) (hin : ∀ w ∈ u_ws C T N, w ∈ wsL_law) (hown : s.vm.findClass own = some m.cls) (hK : g_K dd cT s) (hG : g_S lo dd cT s H locs G) {a : Nat} (hc : vwCl[ci]? = some (C, T, N)) (k : Nat) (hk : k < N) (hlink : Cond.fieldLink own index (T k).1 (T k).2.1 (T k).2.2.1 ∈ wsL_law) {v : Value} (hv : g_V G a ci k = some v) (hdg : decode cc pc = .ok (.getfield index, 3))
    (kk : W p l e R s m args below meth c H locs cells slots Q (F0 m (pc + 3) ls (v :: rest))) : W p l e R s m args below meth c H locs cells slots Q (F0 m pc ls (.ref a :: rest)) := by
  obtain ⟨⟨ws, hP, hD, hR⟩, hS, hX⟩ := hG
  obtain ⟨fs, hGa, hfs⟩ := g_V_spec hv
  obtain ⟨q0, hq⟩ := hR _ _ hGa
  exact va_get (D := dd) hx hb hts hin hown hK.1 hP q0 hq hc k hk (hts _ hlink) (fun _ h => h) hfs hdg kk
theorem g_geti (hx : p.tables.exec = Jvm.exec) (hb : c.code = cc) {own C : String} {T : u_T} {N ci index : Nat} (hts : ∀ w ∈ wsL_law, w.before args s = true) (hin : ∀ w ∈ u_ws C T N, w ∈ wsL_law) (hown : s.vm.findClass own = some m.cls) (hK : g_K dd cT s) (hG : g_S lo dd cT s H locs G) {a : Nat} (hc : vwCl[ci]? = some (C, T, N)) (k : Nat) (hk : k < N) (hlink : Cond.fieldLink own index (T k).1 (T k).2.1 (T k).2.2.1 ∈ wsL_law) {x : Int32} (hv : g_i G a ci k = some x) (hdg : decode cc pc = .ok (.getfield index, 3))
    (kk : W p l e R s m args below meth c H locs cells slots Q (F0 m (pc + 3) ls (.int x :: rest))) : W p l e R s m args below meth c H locs cells slots Q (F0 m pc ls (.ref a :: rest)) :=
  g_getv hx hb hts hin hown hK hG hc k hk hlink (g_i_spec hv) hdg kk
theorem g_getj (hx : p.tables.exec = Jvm.exec) (hb : c.code = cc) {own C : String} {T : u_T} {N ci index : Nat} (hts : ∀ w ∈ wsL_law, w.before args s = true) (hin : ∀ w ∈ u_ws C T N, w ∈ wsL_law) (hown : s.vm.findClass own = some m.cls) (hK : g_K dd cT s) (hG : g_S lo dd cT s H locs G) {a : Nat} (hc : vwCl[ci]? = some (C, T, N)) (k : Nat) (hk : k < N) (hlink : Cond.fieldLink own index (T k).1 (T k).2.1 (T k).2.2.1 ∈ wsL_law) {x : Int64} (hv : g_j G a ci k = some x) (hdg : decode cc pc = .ok (.getfield index, 3))
    (kk : W p l e R s m args below meth c H locs cells slots Q (F0 m (pc + 3) ls (.long x :: rest))) : W p l e R s m args below meth c H locs cells slots Q (F0 m pc ls (.ref a :: rest)) :=
  g_getv hx hb hts hin hown hK hG hc k hk hlink (g_j_spec hv) hdg kk
theorem g_getr (hx : p.tables.exec = Jvm.exec) (hb : c.code = cc) {own C : String} {T : u_T} {N ci index : Nat} (hts : ∀ w ∈ wsL_law, w.before args s = true) (hin : ∀ w ∈ u_ws C T N, w ∈ wsL_law) (hown : s.vm.findClass own = some m.cls) (hK : g_K dd cT s) (hG : g_S lo dd cT s H locs G) {a : Nat} (hc : vwCl[ci]? = some (C, T, N)) (k : Nat) (hk : k < N) (hlink : Cond.fieldLink own index (T k).1 (T k).2.1 (T k).2.2.1 ∈ wsL_law) {x : Nat} (hv : g_r G a ci k = some x) (hdg : decode cc pc = .ok (.getfield index, 3))
    (kk : W p l e R s m args below meth c H locs cells slots Q (F0 m (pc + 3) ls (.ref x :: rest))) : W p l e R s m args below meth c H locs cells slots Q (F0 m pc ls (.ref a :: rest)) :=
  g_getv hx hb hts hin hown hK hG hc k hk hlink (g_r_spec hv) hdg kk
theorem g_putv (hx : p.tables.exec = Jvm.exec) (hb : c.code = cc) {own C : String} {T : u_T} {N ci index : Nat} (hts : ∀ w ∈ wsL_law, w.before args s = true) (hin : ∀ w ∈ u_ws C T N, w ∈ wsL_law) (ty : Nat → FieldType) (hty : ∀ k, k < N → parseFieldDescriptor (T k).2.2.1 = some (ty k)) (hnm : ∀ a, a < N → ∀ b, b < N → a ≠ b → (T a).2.1 ≠ (T b).2.1) (hown : s.vm.findClass own = some m.cls) (hK : g_K dd cT s) (hG : g_S lo dd cT s H locs G) {a : Nat} (hc : vwCl[ci]? = some (C, T, N)) (k : Nat) (hk : k < N) (hlink : Cond.fieldLink own index (T k).1 (T k).2.1 (T k).2.2.1 ∈ wsL_law) (hfin : (T k).2.2.2 = false) {ft : FieldType} {v : Value} (hd : parseFieldDescriptor (T k).2.2.1 = some ft) (hn : narrow ft v = v) (hfit : fits ft v = true) {G1 : gH} (hv : g_put G a ci k v = some G1) (hdg : decode cc pc = .ok (.putfield index, 3))
    (kk : ∀ (H1 : Heap) (locs1 : List Loc), g_S lo dd cT s H1 locs1 G1 → W p l e R s m args below meth c H1 locs1 cells slots Q (F0 m (pc + 3) ls rest)) : W p l e R s m args below meth c H locs cells slots Q (F0 m pc ls (v :: .ref a :: rest)) := by
  obtain ⟨⟨ws, hP, hD, hR⟩, hS, hX⟩ := hG
  obtain ⟨fs, hGa, hl, rfl⟩ := g_put_spec hv
  obtain ⟨q0, hq⟩ := hR _ _ hGa
  exact va_put (D := dd) hx hb hts hin ty hty hnm hown hK.1 hP hD hS q0 hq hc k hk (hts _ hlink) (fun _ h => h) hfin hd hn hfit hl hdg (fun H1 locs1 hP1 hD1 hS1 => kk H1 locs1 ⟨⟨_, hP1, hD1, hR.set (e1 := .inr (.inr (.inr (ci, fs.set k v)))) hD hq⟩, hS1, hX⟩)
theorem g_putvF (hx : p.tables.exec = Jvm.exec) (hb : c.code = cc) {own C : String} {T : u_T} {N ci index : Nat} (hts : ∀ w ∈ wsL_law, w.before args s = true) (hin : ∀ w ∈ u_ws C T N, w ∈ wsL_law) (ty : Nat → FieldType) (hty : ∀ k, k < N → parseFieldDescriptor (T k).2.2.1 = some (ty k)) (hnm : ∀ a, a < N → ∀ b, b < N → a ≠ b → (T a).2.1 ≠ (T b).2.1) (hown : s.vm.findClass own = some m.cls) (hK : g_K dd cT s) (hG : g_S lo dd cT s H locs G) {a : Nat} (hc : vwCl[ci]? = some (C, T, N)) (k : Nat) (hk : k < N) (hlink : Cond.fieldLink own index (T k).1 (T k).2.1 (T k).2.2.1 ∈ wsL_law) (hfin : (T k).2.2.2 = true) (hin2 : meth.name = "<init>") (hdecl : (T k).1 = own) {ft : FieldType} {v : Value} (hd : parseFieldDescriptor (T k).2.2.1 = some ft) (hn : narrow ft v = v) (hfit : fits ft v = true) {G1 : gH} (hv : g_put G a ci k v = some G1) (hdg : decode cc pc = .ok (.putfield index, 3))
    (kk : ∀ (H1 : Heap) (locs1 : List Loc), g_S lo dd cT s H1 locs1 G1 → W p l e R s m args below meth c H1 locs1 cells slots Q (F0 m (pc + 3) ls rest)) : W p l e R s m args below meth c H locs cells slots Q (F0 m pc ls (v :: .ref a :: rest)) := by
  obtain ⟨⟨ws, hP, hD, hR⟩, hS, hX⟩ := hG
  obtain ⟨fs, hGa, hl, rfl⟩ := g_put_spec hv
  obtain ⟨q0, hq⟩ := hR _ _ hGa
  exact va_putF (D := dd) hx hb hts hin ty hty hnm hown hK.1 hP hD hS q0 hq hc k hk (hts _ hlink) (fun _ h => h) hfin hin2 hdecl hd hn hfit hl hdg (fun H1 locs1 hP1 hD1 hS1 => kk H1 locs1 ⟨⟨_, hP1, hD1, hR.set (e1 := .inr (.inr (.inr (ci, fs.set k v)))) hD hq⟩, hS1, hX⟩)
theorem g_iald (hx : p.tables.exec = Jvm.exec) (hb : c.code = cc) (hK : g_K dd cT s) (hG : g_S lo dd cT s H locs G) {a : Nat} {i x : Int32} (hv : g_ald 0 G a i = some x) (hdg : decode cc pc = .ok (.iaload, 1))
    (kk : W p l e R s m args below meth c H locs cells slots Q (F0 m (pc + 1) ls (.int x :: rest))) : W p l e R s m args below meth c H locs cells slots Q (F0 m pc ls (.int i :: .ref a :: rest)) := by
  obtain ⟨⟨ws, hP, hD, hR⟩, hS, hX⟩ := hG
  obtain ⟨n, f, hGa, hin, rfl⟩ := g_ald_spec hv
  obtain ⟨q0, hq⟩ := hR _ _ hGa
  exact va_iald (D := dd) hx hb hK.1 hP q0 0 hq rfl hin hdg kk
theorem g_zald (hx : p.tables.exec = Jvm.exec) (hb : c.code = cc) (hK : g_K dd cT s) (hG : g_S lo dd cT s H locs G) {a : Nat} {i x : Int32} (hv : g_ald 1 G a i = some x) (hdg : decode cc pc = .ok (.baload, 1))
    (kk : W p l e R s m args below meth c H locs cells slots Q (F0 m (pc + 1) ls (.int x :: rest))) : W p l e R s m args below meth c H locs cells slots Q (F0 m pc ls (.int i :: .ref a :: rest)) := by
  obtain ⟨⟨ws, hP, hD, hR⟩, hS, hX⟩ := hG
  obtain ⟨n, f, hGa, hin, rfl⟩ := g_ald_spec hv
  obtain ⟨q0, hq⟩ := hR _ _ hGa
  exact va_zald (D := dd) hx hb hK.1 hP q0 1 hq rfl hin hdg kk
theorem g_bald (hx : p.tables.exec = Jvm.exec) (hb : c.code = cc) (hK : g_K dd cT s) (hG : g_S lo dd cT s H locs G) {a : Nat} {i x : Int32} (hv : g_ald 2 G a i = some x) (hdg : decode cc pc = .ok (.baload, 1))
    (kk : W p l e R s m args below meth c H locs cells slots Q (F0 m (pc + 1) ls (.int x :: rest))) : W p l e R s m args below meth c H locs cells slots Q (F0 m pc ls (.int i :: .ref a :: rest)) := by
  obtain ⟨⟨ws, hP, hD, hR⟩, hS, hX⟩ := hG
  obtain ⟨n, f, hGa, hin, rfl⟩ := g_ald_spec hv
  obtain ⟨q0, hq⟩ := hR _ _ hGa
  exact va_bald (D := dd) hx hb hK.1 hP q0 2 hq rfl hin hdg kk
theorem g_jald (hx : p.tables.exec = Jvm.exec) (hb : c.code = cc) (hK : g_K dd cT s) (hG : g_S lo dd cT s H locs G) {a : Nat} {i : Int32} {x : Int64} (hv : g_lald G a i = some x) (hdg : decode cc pc = .ok (.laload, 1))
    (kk : W p l e R s m args below meth c H locs cells slots Q (F0 m (pc + 1) ls (.long x :: rest))) : W p l e R s m args below meth c H locs cells slots Q (F0 m pc ls (.int i :: .ref a :: rest)) := by
  obtain ⟨⟨ws, hP, hD, hR⟩, hS, hX⟩ := hG
  obtain ⟨n, f, hGa, hin, rfl⟩ := g_lald_spec hv
  obtain ⟨q0, hq⟩ := hR _ _ hGa
  exact va_lald (D := dd) hx hb hK.1 hP q0 3 hq rfl hin hdg kk
theorem g_qald_ (hx : p.tables.exec = Jvm.exec) (hb : c.code = cc) (hK : g_K dd cT s) (hG : g_S lo dd cT s H locs G) {a : Nat} {i : Int32} {x : Option Nat} (hv : g_qald G a i = some x) (hdg : decode cc pc = .ok (.aaload, 1))
    (kk : W p l e R s m args below meth c H locs cells slots Q (F0 m (pc + 1) ls (va_rf x :: rest))) : W p l e R s m args below meth c H locs cells slots Q (F0 m pc ls (.int i :: .ref a :: rest)) := by
  obtain ⟨⟨ws, hP, hD, hR⟩, hS, hX⟩ := hG
  obtain ⟨n, f, hGa, hin, rfl⟩ := g_qald_spec hv
  obtain ⟨q0, hq⟩ := hR _ _ hGa
  exact va_aldq (D := dd) hx hb hK.1 hP q0 4 hq rfl hin hdg kk
theorem g_iast (hx : p.tables.exec = Jvm.exec) (hb : c.code = cc) (hK : g_K dd cT s) (hG : g_S lo dd cT s H locs G) {a : Nat} {i x : Int32} {G1 : gH} (hv : g_ast 0 G a i x = some G1) (hdg : decode cc pc = .ok (.iastore, 1))
    (kk : ∀ (H1 : Heap) (locs1 : List Loc), g_S lo dd cT s H1 locs1 G1 → W p l e R s m args below meth c H1 locs1 cells slots Q (F0 m (pc + 1) ls rest)) : W p l e R s m args below meth c H locs cells slots Q (F0 m pc ls (.int x :: .int i :: .ref a :: rest)) := by
  obtain ⟨⟨ws, hP, hD, hR⟩, hS, hX⟩ := hG
  obtain ⟨n, f, hGa, hin, rfl⟩ := g_ast_spec hv
  obtain ⟨q0, hq⟩ := hR _ _ hGa
  exact va_iast (D := dd) hx hb hK.1 hP hD hS q0 0 hq rfl hin hdg (fun H1 locs1 hP1 hD1 hS1 => kk H1 locs1 ⟨⟨_, hP1, hD1, hR.set (e1 := .inl (0, n, upd f i.toNatClampNeg (g_nar 0 x))) hD hq⟩, hS1, hX⟩)
theorem g_zast (hx : p.tables.exec = Jvm.exec) (hb : c.code = cc) (hK : g_K dd cT s) (hG : g_S lo dd cT s H locs G) {a : Nat} {i x : Int32} {G1 : gH} (hv : g_ast 1 G a i x = some G1) (hdg : decode cc pc = .ok (.bastore, 1))
    (kk : ∀ (H1 : Heap) (locs1 : List Loc), g_S lo dd cT s H1 locs1 G1 → W p l e R s m args below meth c H1 locs1 cells slots Q (F0 m (pc + 1) ls rest)) : W p l e R s m args below meth c H locs cells slots Q (F0 m pc ls (.int x :: .int i :: .ref a :: rest)) := by
  obtain ⟨⟨ws, hP, hD, hR⟩, hS, hX⟩ := hG
  obtain ⟨n, f, hGa, hin, rfl⟩ := g_ast_spec hv
  obtain ⟨q0, hq⟩ := hR _ _ hGa
  exact va_zast (D := dd) hx hb hK.1 hP hD hS q0 1 hq rfl hin hdg (fun H1 locs1 hP1 hD1 hS1 => kk H1 locs1 ⟨⟨_, hP1, hD1, hR.set (e1 := .inl (1, n, upd f i.toNatClampNeg (g_nar 1 x))) hD hq⟩, hS1, hX⟩)
theorem g_bast (hx : p.tables.exec = Jvm.exec) (hb : c.code = cc) (hK : g_K dd cT s) (hG : g_S lo dd cT s H locs G) {a : Nat} {i x : Int32} {G1 : gH} (hv : g_ast 2 G a i x = some G1) (hdg : decode cc pc = .ok (.bastore, 1))
    (kk : ∀ (H1 : Heap) (locs1 : List Loc), g_S lo dd cT s H1 locs1 G1 → W p l e R s m args below meth c H1 locs1 cells slots Q (F0 m (pc + 1) ls rest)) : W p l e R s m args below meth c H locs cells slots Q (F0 m pc ls (.int x :: .int i :: .ref a :: rest)) := by
  obtain ⟨⟨ws, hP, hD, hR⟩, hS, hX⟩ := hG
  obtain ⟨n, f, hGa, hin, rfl⟩ := g_ast_spec hv
  obtain ⟨q0, hq⟩ := hR _ _ hGa
  exact va_bast (D := dd) hx hb hK.1 hP hD hS q0 2 hq rfl hin hdg (fun H1 locs1 hP1 hD1 hS1 => kk H1 locs1 ⟨⟨_, hP1, hD1, hR.set (e1 := .inl (2, n, upd f i.toNatClampNeg (g_nar 2 x))) hD hq⟩, hS1, hX⟩)
theorem g_jast (hx : p.tables.exec = Jvm.exec) (hb : c.code = cc) (hK : g_K dd cT s) (hG : g_S lo dd cT s H locs G) {a : Nat} {i : Int32} {x : Int64} {G1 : gH} (hv : g_last G a i x = some G1) (hdg : decode cc pc = .ok (.lastore, 1))
    (kk : ∀ (H1 : Heap) (locs1 : List Loc), g_S lo dd cT s H1 locs1 G1 → W p l e R s m args below meth c H1 locs1 cells slots Q (F0 m (pc + 1) ls rest)) : W p l e R s m args below meth c H locs cells slots Q (F0 m pc ls (.long x :: .int i :: .ref a :: rest)) := by
  obtain ⟨⟨ws, hP, hD, hR⟩, hS, hX⟩ := hG
  obtain ⟨n, f, hGa, hin, rfl⟩ := g_last_spec hv
  obtain ⟨q0, hq⟩ := hR _ _ hGa
  exact va_last (D := dd) hx hb hK.1 hP hD hS q0 3 hq rfl hin hdg (fun H1 locs1 hP1 hD1 hS1 => kk H1 locs1 ⟨⟨_, hP1, hD1, hR.set (e1 := .inr (.inl (n, vp_updL f i.toNatClampNeg x))) hD hq⟩, hS1, hX⟩)
theorem g_alen (hx : p.tables.exec = Jvm.exec) (hb : c.code = cc) (hK : g_K dd cT s) (hG : g_S lo dd cT s H locs G) {a : Nat} {x : Int32} (hv : g_len G a = some x) (hdg : decode cc pc = .ok (.arraylength, 1))
    (kk : W p l e R s m args below meth c H locs cells slots Q (F0 m (pc + 1) ls (.int x :: rest))) : W p l e R s m args below meth c H locs cells slots Q (F0 m pc ls (.ref a :: rest)) := by
  obtain ⟨⟨ws, hP, hD, hR⟩, hS, hX⟩ := hG
  obtain ⟨e1, k, b, hGa, hk, he, rfl⟩ := g_len_spec hv
  obtain ⟨q0, hq⟩ := hR _ _ hGa
  rw [he cT] at hq
  have ht : ∃ ty, (g_tys cT)[k]? = some (cT k, ty) := by
    match k, hk with
    | 0, _ => exact ⟨_, rfl⟩
    | 1, _ => exact ⟨_, rfl⟩
    | 2, _ => exact ⟨_, rfl⟩
    | 3, _ => exact ⟨_, rfl⟩
    | 4, _ => exact ⟨_, rfl⟩
  obtain ⟨ty, ht⟩ := ht
  exact va_alen (D := dd) hx hb hK.1 hP q0 k hq ht rfl hdg kk
theorem g_iret (hx : p.tables.exec = Jvm.exec) (hb : c.code = cc) (hr : meth.sig.returnType = some .int) (hlocks : meth.locks = false) (hK : g_K dd cT s) (hlo : g_le lo s.heap.size) (hG : g_S lo dd cT s H locs G) {v : Int32} {post : Int32 → gH → Prop} (hp : post v G) (hdg : decode cc pc = .ok (.ireturn, 1)) :
    W p l e R s m args below meth c H locs cells slots (MQ below (va_Qi post (g_Pre lo dd cT) (g_A lo)) args s cells slots (g_A lo)) (F0 m pc ls [.int v]) :=
  W.iret hx hb hr (fun t ht hW => ⟨⟨v, G, rfl, hp, by rw [ht]; exact g_le_trans hlo hG.2.1.1, by rw [ht]; exact hG.1, hK.moved hW, hG.2.2.next hG.2.1 ht hW⟩, hG.2.1.F ht⟩) hG.2.1.2.2 hdg hlocks
theorem g_jret (hx : p.tables.exec = Jvm.exec) (hb : c.code = cc) (hr : meth.sig.returnType = some .long) (hlocks : meth.locks = false) (hK : g_K dd cT s) (hlo : g_le lo s.heap.size) (hG : g_S lo dd cT s H locs G) {v : Int64} {post : Int64 → gH → Prop} (hp : post v G) (hdg : decode cc pc = .ok (.lreturn, 1)) :
    W p l e R s m args below meth c H locs cells slots (MQ below (va_Ql post (g_Pre lo dd cT) (g_A lo)) args s cells slots (g_A lo)) (F0 m pc ls [.long v]) :=
  W.lret hx hb hr (fun t ht hW => ⟨⟨v, G, rfl, hp, by rw [ht]; exact g_le_trans hlo hG.2.1.1, by rw [ht]; exact hG.1, hK.moved hW, hG.2.2.next hG.2.1 ht hW⟩, hG.2.1.F ht⟩) hG.2.1.2.2 hdg hlocks
theorem g_zret (hx : p.tables.exec = Jvm.exec) (hb : c.code = cc) (hr : meth.sig.returnType = some .boolean) (hlocks : meth.locks = false) (hK : g_K dd cT s) (hlo : g_le lo s.heap.size) (hG : g_S lo dd cT s H locs G) {v : Int32} {post : Int32 → gH → Prop} (hn : narrow .boolean (.int v) = .int v) (hp : post v G) (hdg : decode cc pc = .ok (.ireturn, 1)) :
    W p l e R s m args below meth c H locs cells slots (MQ below (va_Qi post (g_Pre lo dd cT) (g_A lo)) args s cells slots (g_A lo)) (F0 m pc ls [.int v]) :=
  W.zret hx hb hr hn (fun t ht hW => ⟨⟨v, G, rfl, hp, by rw [ht]; exact g_le_trans hlo hG.2.1.1, by rw [ht]; exact hG.1, hK.moved hW, hG.2.2.next hG.2.1 ht hW⟩, hG.2.1.F ht⟩) hG.2.1.2.2 hdg hlocks
theorem g_vret (hx : p.tables.exec = Jvm.exec) (hb : c.code = cc) (hr : meth.sig.returnType = none) (hlocks : meth.locks = false) (hK : g_K dd cT s) (hlo : g_le lo s.heap.size) (hG : g_S lo dd cT s H locs G) {post : gH → Prop} (hp : post G) (hdg : decode cc pc = .ok (.return_, 1)) :
    W p l e R s m args below meth c H locs cells slots (MQ below (va_Qv post (g_Pre lo dd cT) (g_A lo)) args s cells slots (g_A lo)) (F0 m pc ls []) :=
  W.vret hx hb hr (fun t ht hW => ⟨⟨G, rfl, hp, by rw [ht]; exact g_le_trans hlo hG.2.1.1, by rw [ht]; exact hG.1, hK.moved hW, hG.2.2.next hG.2.1 ht hW⟩, hG.2.1.F ht⟩) hG.2.1.2.2 hdg hlocks
theorem g_aret (hx : p.tables.exec = Jvm.exec) (hb : c.code = cc) {nm : String} (hr : meth.sig.returnType = some (.object nm)) (hlocks : meth.locks = false) (hK : g_K dd cT s) (hlo : g_le lo s.heap.size) (hG : g_S lo dd cT s H locs G) {v : Nat} {post : gH → Prop} (hp : post G) (hdg : decode cc pc = .ok (.areturn, 1)) :
    W p l e R s m args below meth c H locs cells slots (MQ below (va_Qr post (fun G' a t => a = v ∧ g_Pre lo dd cT G' t) (g_A lo)) args s cells slots (g_A lo)) (F0 m pc ls [.ref v]) :=
  W.aret hx hb hr (Or.inl ⟨_, rfl⟩) (Or.inr ⟨_, rfl⟩) (fun t ht hW => ⟨⟨G, v, rfl, hp, rfl, by rw [ht]; exact g_le_trans hlo hG.2.1.1, by rw [ht]; exact hG.1, hK.moved hW, hG.2.2.next hG.2.1 ht hW⟩, hG.2.1.F ht⟩) hG.2.1.2.2 hdg hlocks
set_option maxHeartbeats 1000000 in
theorem g_cVi (hx : p.tables.exec = Jvm.exec) (hb : c.code = cc) {nL : Nat} (hml : c.maxLocals = nL) {own : String} (hown : s.vm.findClass own = some m.cls) (hts : ∀ w ∈ wsL_law, w.before args s = true) (hK : g_K dd cT s) (hlo : g_le lo s.heap.size) (hG : g_S lo dd cT s H locs G) {y : MethodName} {by_ : ByteArray} {mL fr lc mc ms index n : Nat} {ret : Option FieldType} {As : List Value} {r : Int32} {G1 : gH} {b ci N : Nat} {C : String} {T : u_T}
    (hM : Met l y (Cond.code y by_ mL ret :: wsL_law) (g_rm fr lc mc ms) (va_Pc (.ref b :: As) (g_Pre lo dd cT G)) (va_Qi (g_is r G1) (g_Pre lo dd cT) (g_A lo)) mc ms (g_A lo))
    (h1 : Cond.methodLink own index y ∈ wsL_law) (h2 : Cond.instanceMethod y ∈ wsL_law) (h3 : Cond.selects C y y ∈ wsL_law) (h4 : Cond.initialized C ∈ wsL_law) (h5 : Cond.code y by_ mL ret ∈ wsL_law)
    (hd : y.cls = C ∧ y.cls ≠ "java/lang/invoke/MethodHandle" ∧ y.cls ≠ "java/lang/invoke/VarHandle" ∧ (parseMethodDescriptor y.desc).map (fun d => d.parameters.length) = some n) (hR : fr + 1 ≤ R.frames ∧ 8 + (mL + 11) + lc ≤ R.locals)
    (hcl : vwCl[ci]? = some (C, T, N)) {u0 : Unit} (hob : g_ob G b ci = some u0) {st0 : List Value} (hn : As.length = n) (hsz : ls.size = nL) (hst : st0 = As.reverse ++ .ref b :: rest) (hro : (rest.map fun v => v.category).sum ≤ 8) (hdg : decode cc pc = .ok (.invokevirtual index, 3)) (hf : cells + mc ≤ R.cells ∧ slots + ms ≤ R.slots)
    (kk : ∀ (H1 : Heap) (locs1 : List Loc), g_S lo dd cT s H1 locs1 G1 → W p l e R s m args below meth c H1 locs1 (cells + mc) (slots + ms) Q (F0 m (pc + 3) ls (.int r :: rest))) : W p l e R s m args below meth c H locs cells slots Q (F0 m pc ls st0) := by
  have hG0 := hG
  obtain ⟨⟨ws, hP, hD, hR0⟩, hS, hX⟩ := hG0
  obtain ⟨fs, hGb⟩ := g_ob_spec hob
  obtain ⟨q0, hq⟩ := hR0 _ _ hGb
  have hT : GoodIn wsL_law (wsV own index C y (Cond.code y by_ mL ret :: wsL_law)) := by
    intro w hw
    simp only [wsV, List.cons_append, List.nil_append, List.mem_cons] at hw
    rcases hw with rfl | rfl | rfl | rfl | rfl | hw
    · exact g_goodIn _ h1
    · exact g_goodIn _ h2
    · exact g_goodIn _ h3
    · exact g_goodIn _ h4
    · exact g_goodIn _ h5
    · exact g_goodIn _ hw
  refine va_calli (A1 := g_A lo) (free := g_A lo) (va_runV ⟨hx, hb, hml, hown, hts⟩ hM (cwV n hts hT rfl rfl rfl hd hR) ⟨g_Pre.blind, va_recv hK.1 hP hcl hq, fun U hU hW => ⟨rfl, by rw [hU]; exact g_le_trans hlo hS.1, by rw [hU]; exact ⟨ws, hP, hD, hR0⟩, hK.moved hW, hX.next hS hU hW⟩⟩ rfl hn hsz hst (lv_room hro) hdg hf) hS (fun q _ h => h) (fun q h => h) (fun r1 u t H1 locs1 ht hvm hw hB hz1 hk1 hS1 => by obtain ⟨rfl, rfl⟩ := hw; exact kk H1 locs1 ⟨by rw [← ht]; exact hB.2.1, hS1, hX⟩)
set_option maxHeartbeats 1000000 in
theorem g_cSi (hx : p.tables.exec = Jvm.exec) (hb : c.code = cc) {nL : Nat} (hml : c.maxLocals = nL) {own : String} (hown : s.vm.findClass own = some m.cls) (hts : ∀ w ∈ wsL_law, w.before args s = true) (hK : g_K dd cT s) (hlo : g_le lo s.heap.size) (hG : g_S lo dd cT s H locs G) {y : MethodName} {by_ : ByteArray} {mL fr lc mc ms index n : Nat} {ret : Option FieldType} {As : List Value} {r : Int32} {G1 : gH}
    (hM : Met l y (Cond.code y by_ mL ret :: wsL_law) (g_rm fr lc mc ms) (va_Pc As (g_Pre lo dd cT G)) (va_Qi (g_is r G1) (g_Pre lo dd cT) (g_A lo)) mc ms (g_A lo))
    (h1 : Cond.methodLink own index y ∈ wsL_law) (h2 : Cond.static y ∈ wsL_law) (h4 : Cond.initialized own ∈ wsL_law) (h5 : Cond.code y by_ mL ret ∈ wsL_law)
    (hd : y.cls = own ∧ y.cls ≠ "java/lang/invoke/MethodHandle" ∧ y.cls ≠ "java/lang/invoke/VarHandle" ∧ (parseMethodDescriptor y.desc).map (fun d => d.parameters.length) = some n) (hR : fr + 1 ≤ R.frames ∧ 8 + (mL + 11) + lc ≤ R.locals)
    {st0 : List Value} (hn : As.length = n) (hsz : ls.size = nL) (hst : st0 = As.reverse ++ rest) (hro : (rest.map fun v => v.category).sum ≤ 8) (hdg : decode cc pc = .ok (.invokestatic index, 3)) (hf : cells + mc ≤ R.cells ∧ slots + ms ≤ R.slots)
    (kk : ∀ (H1 : Heap) (locs1 : List Loc), g_S lo dd cT s H1 locs1 G1 → W p l e R s m args below meth c H1 locs1 (cells + mc) (slots + ms) Q (F0 m (pc + 3) ls (.int r :: rest))) : W p l e R s m args below meth c H locs cells slots Q (F0 m pc ls st0) := by
  have hG0 := hG
  obtain ⟨⟨ws, hP, hD, hR0⟩, hS, hX⟩ := hG0
  have hT : GoodIn wsL_law (wsS own index y (Cond.code y by_ mL ret :: wsL_law)) := by
    intro w hw
    simp only [wsS, List.cons_append, List.nil_append, List.mem_cons] at hw
    rcases hw with rfl | rfl | rfl | rfl | hw
    · exact g_goodIn _ h1
    · exact g_goodIn _ h2
    · exact g_goodIn _ h4
    · exact g_goodIn _ h5
    · exact g_goodIn _ hw
  refine va_calli (A1 := g_A lo) (free := g_A lo) (va_runS ⟨hx, hb, hml, hown, hts⟩ hM (cwS n hts hT rfl rfl rfl hd hR) ⟨g_Pre.blind, fun U hU hW => ⟨rfl, by rw [hU]; exact g_le_trans hlo hS.1, by rw [hU]; exact ⟨ws, hP, hD, hR0⟩, hK.moved hW, hX.next hS hU hW⟩⟩ rfl hn hsz hst (lv_room hro) hdg hf) hS (fun q _ h => h) (fun q h => h) (fun r1 u t H1 locs1 ht hvm hw hB hz1 hk1 hS1 => by obtain ⟨rfl, rfl⟩ := hw; exact kk H1 locs1 ⟨by rw [← ht]; exact hB.2.1, hS1, hX⟩)
set_option maxHeartbeats 1000000 in
theorem g_cNi (hx : p.tables.exec = Jvm.exec) (hb : c.code = cc) {nL : Nat} (hml : c.maxLocals = nL) {own : String} (hown : s.vm.findClass own = some m.cls) (hts : ∀ w ∈ wsL_law, w.before args s = true) (hK : g_K dd cT s) (hlo : g_le lo s.heap.size) (hG : g_S lo dd cT s H locs G) {y : MethodName} {by_ : ByteArray} {mL fr lc mc ms index n : Nat} {ret : Option FieldType} {As : List Value} {r : Int32} {G1 : gH}
    (hM : Met l y (Cond.code y by_ mL ret :: wsL_law) (g_rm fr lc mc ms) (va_Pc As (g_Pre lo dd cT G)) (va_Qi (g_is r G1) (g_Pre lo dd cT) (g_A lo)) mc ms (g_A lo))
    (h1 : (own, index, y) ∈ g_nests) (h2 : Cond.static y ∈ wsL_law) (h4 : Cond.initialized y.cls ∈ wsL_law) (h5 : Cond.code y by_ mL ret ∈ wsL_law)
    (hd : y.cls ≠ "java/lang/invoke/MethodHandle" ∧ y.cls ≠ "java/lang/invoke/VarHandle" ∧ (parseMethodDescriptor y.desc).map (fun d => d.parameters.length) = some n) (hR : fr + 1 ≤ R.frames ∧ 8 + (mL + 11) + lc ≤ R.locals)
    {st0 : List Value} (hn : As.length = n) (hsz : ls.size = nL) (hst : st0 = As.reverse ++ rest) (hro : (rest.map fun v => v.category).sum ≤ 8) (hdg : decode cc pc = .ok (.invokestatic index, 3)) (hf : cells + mc ≤ R.cells ∧ slots + ms ≤ R.slots)
    (kk : ∀ (H1 : Heap) (locs1 : List Loc), g_S lo dd cT s H1 locs1 G1 → W p l e R s m args below meth c H1 locs1 (cells + mc) (slots + ms) Q (F0 m (pc + 3) ls (.int r :: rest))) : W p l e R s m args below meth c H locs cells slots Q (F0 m pc ls st0) := by
  have hG0 := hG
  obtain ⟨⟨ws, hP, hD, hR0⟩, hS, hX⟩ := hG0
  have hT : GoodIn wsL_law (Cond.code y by_ mL ret :: wsL_law) := by
    intro w hw
    simp only [List.mem_cons] at hw
    rcases hw with rfl | hw
    · exact g_goodIn _ h5
    · exact g_goodIn _ hw
  refine va_calli (A1 := g_A lo) (free := g_A lo) (va_runSN ⟨hx, hb, hml, hown, hts⟩ hM ⟨va_cnB n hts hT rfl rfl rfl (hK.2.1 _ h1) (hts _ h4) hd hR, hts _ h2, trivial⟩ ⟨g_Pre.blind, fun U hU hW => ⟨rfl, by rw [hU]; exact g_le_trans hlo hS.1, by rw [hU]; exact ⟨ws, hP, hD, hR0⟩, hK.moved hW, hX.next hS hU hW⟩⟩ rfl hn hsz hst (lv_room hro) hdg hf) hS (fun q _ h => h) (fun q h => h) (fun r1 u t H1 locs1 ht hvm hw hB hz1 hk1 hS1 => by obtain ⟨rfl, rfl⟩ := hw; exact kk H1 locs1 ⟨by rw [← ht]; exact hB.2.1, hS1, hX⟩)
set_option maxHeartbeats 1000000 in
theorem g_cVj (hx : p.tables.exec = Jvm.exec) (hb : c.code = cc) {nL : Nat} (hml : c.maxLocals = nL) {own : String} (hown : s.vm.findClass own = some m.cls) (hts : ∀ w ∈ wsL_law, w.before args s = true) (hK : g_K dd cT s) (hlo : g_le lo s.heap.size) (hG : g_S lo dd cT s H locs G) {y : MethodName} {by_ : ByteArray} {mL fr lc mc ms index n : Nat} {ret : Option FieldType} {As : List Value} {r : Int64} {G1 : gH} {b ci N : Nat} {C : String} {T : u_T}
    (hM : Met l y (Cond.code y by_ mL ret :: wsL_law) (g_rm fr lc mc ms) (va_Pc (.ref b :: As) (g_Pre lo dd cT G)) (va_Ql (g_is r G1) (g_Pre lo dd cT) (g_A lo)) mc ms (g_A lo))
    (h1 : Cond.methodLink own index y ∈ wsL_law) (h2 : Cond.instanceMethod y ∈ wsL_law) (h3 : Cond.selects C y y ∈ wsL_law) (h4 : Cond.initialized C ∈ wsL_law) (h5 : Cond.code y by_ mL ret ∈ wsL_law)
    (hd : y.cls = C ∧ y.cls ≠ "java/lang/invoke/MethodHandle" ∧ y.cls ≠ "java/lang/invoke/VarHandle" ∧ (parseMethodDescriptor y.desc).map (fun d => d.parameters.length) = some n) (hR : fr + 1 ≤ R.frames ∧ 8 + (mL + 11) + lc ≤ R.locals)
    (hcl : vwCl[ci]? = some (C, T, N)) {u0 : Unit} (hob : g_ob G b ci = some u0) {st0 : List Value} (hn : As.length = n) (hsz : ls.size = nL) (hst : st0 = As.reverse ++ .ref b :: rest) (hro : (rest.map fun v => v.category).sum ≤ 8) (hdg : decode cc pc = .ok (.invokevirtual index, 3)) (hf : cells + mc ≤ R.cells ∧ slots + ms ≤ R.slots)
    (kk : ∀ (H1 : Heap) (locs1 : List Loc), g_S lo dd cT s H1 locs1 G1 → W p l e R s m args below meth c H1 locs1 (cells + mc) (slots + ms) Q (F0 m (pc + 3) ls (.long r :: rest))) : W p l e R s m args below meth c H locs cells slots Q (F0 m pc ls st0) := by
  have hG0 := hG
  obtain ⟨⟨ws, hP, hD, hR0⟩, hS, hX⟩ := hG0
  obtain ⟨fs, hGb⟩ := g_ob_spec hob
  obtain ⟨q0, hq⟩ := hR0 _ _ hGb
  have hT : GoodIn wsL_law (wsV own index C y (Cond.code y by_ mL ret :: wsL_law)) := by
    intro w hw
    simp only [wsV, List.cons_append, List.nil_append, List.mem_cons] at hw
    rcases hw with rfl | rfl | rfl | rfl | rfl | hw
    · exact g_goodIn _ h1
    · exact g_goodIn _ h2
    · exact g_goodIn _ h3
    · exact g_goodIn _ h4
    · exact g_goodIn _ h5
    · exact g_goodIn _ hw
  refine va_calll (A1 := g_A lo) (free := g_A lo) (va_runV ⟨hx, hb, hml, hown, hts⟩ hM (cwV n hts hT rfl rfl rfl hd hR) ⟨g_Pre.blind, va_recv hK.1 hP hcl hq, fun U hU hW => ⟨rfl, by rw [hU]; exact g_le_trans hlo hS.1, by rw [hU]; exact ⟨ws, hP, hD, hR0⟩, hK.moved hW, hX.next hS hU hW⟩⟩ rfl hn hsz hst (lv_room hro) hdg hf) hS (fun q _ h => h) (fun q h => h) (fun r1 u t H1 locs1 ht hvm hw hB hz1 hk1 hS1 => by obtain ⟨rfl, rfl⟩ := hw; exact kk H1 locs1 ⟨by rw [← ht]; exact hB.2.1, hS1, hX⟩)
set_option maxHeartbeats 1000000 in
theorem g_cSj (hx : p.tables.exec = Jvm.exec) (hb : c.code = cc) {nL : Nat} (hml : c.maxLocals = nL) {own : String} (hown : s.vm.findClass own = some m.cls) (hts : ∀ w ∈ wsL_law, w.before args s = true) (hK : g_K dd cT s) (hlo : g_le lo s.heap.size) (hG : g_S lo dd cT s H locs G) {y : MethodName} {by_ : ByteArray} {mL fr lc mc ms index n : Nat} {ret : Option FieldType} {As : List Value} {r : Int64} {G1 : gH}
    (hM : Met l y (Cond.code y by_ mL ret :: wsL_law) (g_rm fr lc mc ms) (va_Pc As (g_Pre lo dd cT G)) (va_Ql (g_is r G1) (g_Pre lo dd cT) (g_A lo)) mc ms (g_A lo))
    (h1 : Cond.methodLink own index y ∈ wsL_law) (h2 : Cond.static y ∈ wsL_law) (h4 : Cond.initialized own ∈ wsL_law) (h5 : Cond.code y by_ mL ret ∈ wsL_law)
    (hd : y.cls = own ∧ y.cls ≠ "java/lang/invoke/MethodHandle" ∧ y.cls ≠ "java/lang/invoke/VarHandle" ∧ (parseMethodDescriptor y.desc).map (fun d => d.parameters.length) = some n) (hR : fr + 1 ≤ R.frames ∧ 8 + (mL + 11) + lc ≤ R.locals)
    {st0 : List Value} (hn : As.length = n) (hsz : ls.size = nL) (hst : st0 = As.reverse ++ rest) (hro : (rest.map fun v => v.category).sum ≤ 8) (hdg : decode cc pc = .ok (.invokestatic index, 3)) (hf : cells + mc ≤ R.cells ∧ slots + ms ≤ R.slots)
    (kk : ∀ (H1 : Heap) (locs1 : List Loc), g_S lo dd cT s H1 locs1 G1 → W p l e R s m args below meth c H1 locs1 (cells + mc) (slots + ms) Q (F0 m (pc + 3) ls (.long r :: rest))) : W p l e R s m args below meth c H locs cells slots Q (F0 m pc ls st0) := by
  have hG0 := hG
  obtain ⟨⟨ws, hP, hD, hR0⟩, hS, hX⟩ := hG0
  have hT : GoodIn wsL_law (wsS own index y (Cond.code y by_ mL ret :: wsL_law)) := by
    intro w hw
    simp only [wsS, List.cons_append, List.nil_append, List.mem_cons] at hw
    rcases hw with rfl | rfl | rfl | rfl | hw
    · exact g_goodIn _ h1
    · exact g_goodIn _ h2
    · exact g_goodIn _ h4
    · exact g_goodIn _ h5
    · exact g_goodIn _ hw
  refine va_calll (A1 := g_A lo) (free := g_A lo) (va_runS ⟨hx, hb, hml, hown, hts⟩ hM (cwS n hts hT rfl rfl rfl hd hR) ⟨g_Pre.blind, fun U hU hW => ⟨rfl, by rw [hU]; exact g_le_trans hlo hS.1, by rw [hU]; exact ⟨ws, hP, hD, hR0⟩, hK.moved hW, hX.next hS hU hW⟩⟩ rfl hn hsz hst (lv_room hro) hdg hf) hS (fun q _ h => h) (fun q h => h) (fun r1 u t H1 locs1 ht hvm hw hB hz1 hk1 hS1 => by obtain ⟨rfl, rfl⟩ := hw; exact kk H1 locs1 ⟨by rw [← ht]; exact hB.2.1, hS1, hX⟩)
set_option maxHeartbeats 1000000 in
theorem g_cNj (hx : p.tables.exec = Jvm.exec) (hb : c.code = cc) {nL : Nat} (hml : c.maxLocals = nL) {own : String} (hown : s.vm.findClass own = some m.cls) (hts : ∀ w ∈ wsL_law, w.before args s = true) (hK : g_K dd cT s) (hlo : g_le lo s.heap.size) (hG : g_S lo dd cT s H locs G) {y : MethodName} {by_ : ByteArray} {mL fr lc mc ms index n : Nat} {ret : Option FieldType} {As : List Value} {r : Int64} {G1 : gH}
    (hM : Met l y (Cond.code y by_ mL ret :: wsL_law) (g_rm fr lc mc ms) (va_Pc As (g_Pre lo dd cT G)) (va_Ql (g_is r G1) (g_Pre lo dd cT) (g_A lo)) mc ms (g_A lo))
    (h1 : (own, index, y) ∈ g_nests) (h2 : Cond.static y ∈ wsL_law) (h4 : Cond.initialized y.cls ∈ wsL_law) (h5 : Cond.code y by_ mL ret ∈ wsL_law)
    (hd : y.cls ≠ "java/lang/invoke/MethodHandle" ∧ y.cls ≠ "java/lang/invoke/VarHandle" ∧ (parseMethodDescriptor y.desc).map (fun d => d.parameters.length) = some n) (hR : fr + 1 ≤ R.frames ∧ 8 + (mL + 11) + lc ≤ R.locals)
    {st0 : List Value} (hn : As.length = n) (hsz : ls.size = nL) (hst : st0 = As.reverse ++ rest) (hro : (rest.map fun v => v.category).sum ≤ 8) (hdg : decode cc pc = .ok (.invokestatic index, 3)) (hf : cells + mc ≤ R.cells ∧ slots + ms ≤ R.slots)
    (kk : ∀ (H1 : Heap) (locs1 : List Loc), g_S lo dd cT s H1 locs1 G1 → W p l e R s m args below meth c H1 locs1 (cells + mc) (slots + ms) Q (F0 m (pc + 3) ls (.long r :: rest))) : W p l e R s m args below meth c H locs cells slots Q (F0 m pc ls st0) := by
  have hG0 := hG
  obtain ⟨⟨ws, hP, hD, hR0⟩, hS, hX⟩ := hG0
  have hT : GoodIn wsL_law (Cond.code y by_ mL ret :: wsL_law) := by
    intro w hw
    simp only [List.mem_cons] at hw
    rcases hw with rfl | hw
    · exact g_goodIn _ h5
    · exact g_goodIn _ hw
  refine va_calll (A1 := g_A lo) (free := g_A lo) (va_runSN ⟨hx, hb, hml, hown, hts⟩ hM ⟨va_cnB n hts hT rfl rfl rfl (hK.2.1 _ h1) (hts _ h4) hd hR, hts _ h2, trivial⟩ ⟨g_Pre.blind, fun U hU hW => ⟨rfl, by rw [hU]; exact g_le_trans hlo hS.1, by rw [hU]; exact ⟨ws, hP, hD, hR0⟩, hK.moved hW, hX.next hS hU hW⟩⟩ rfl hn hsz hst (lv_room hro) hdg hf) hS (fun q _ h => h) (fun q h => h) (fun r1 u t H1 locs1 ht hvm hw hB hz1 hk1 hS1 => by obtain ⟨rfl, rfl⟩ := hw; exact kk H1 locs1 ⟨by rw [← ht]; exact hB.2.1, hS1, hX⟩)
set_option maxHeartbeats 1000000 in
theorem g_cVv (hx : p.tables.exec = Jvm.exec) (hb : c.code = cc) {nL : Nat} (hml : c.maxLocals = nL) {own : String} (hown : s.vm.findClass own = some m.cls) (hts : ∀ w ∈ wsL_law, w.before args s = true) (hK : g_K dd cT s) (hlo : g_le lo s.heap.size) (hG : g_S lo dd cT s H locs G) {y : MethodName} {by_ : ByteArray} {mL fr lc mc ms index n : Nat} {ret : Option FieldType} {As : List Value}  {G1 : gH} {b ci N : Nat} {C : String} {T : u_T}
    (hM : Met l y (Cond.code y by_ mL ret :: wsL_law) (g_rm fr lc mc ms) (va_Pc (.ref b :: As) (g_Pre lo dd cT G)) (va_Qv (g_iv G1) (g_Pre lo dd cT) (g_A lo)) mc ms (g_A lo))
    (h1 : Cond.methodLink own index y ∈ wsL_law) (h2 : Cond.instanceMethod y ∈ wsL_law) (h3 : Cond.selects C y y ∈ wsL_law) (h4 : Cond.initialized C ∈ wsL_law) (h5 : Cond.code y by_ mL ret ∈ wsL_law)
    (hd : y.cls = C ∧ y.cls ≠ "java/lang/invoke/MethodHandle" ∧ y.cls ≠ "java/lang/invoke/VarHandle" ∧ (parseMethodDescriptor y.desc).map (fun d => d.parameters.length) = some n) (hR : fr + 1 ≤ R.frames ∧ 8 + (mL + 11) + lc ≤ R.locals)
    (hcl : vwCl[ci]? = some (C, T, N)) {u0 : Unit} (hob : g_ob G b ci = some u0) {st0 : List Value} (hn : As.length = n) (hsz : ls.size = nL) (hst : st0 = As.reverse ++ .ref b :: rest) (hro : (rest.map fun v => v.category).sum ≤ 8) (hdg : decode cc pc = .ok (.invokevirtual index, 3)) (hf : cells + mc ≤ R.cells ∧ slots + ms ≤ R.slots)
    (kk : ∀ (H1 : Heap) (locs1 : List Loc), g_S lo dd cT s H1 locs1 G1 → W p l e R s m args below meth c H1 locs1 (cells + mc) (slots + ms) Q (F0 m (pc + 3) ls (rest))) : W p l e R s m args below meth c H locs cells slots Q (F0 m pc ls st0) := by
  have hG0 := hG
  obtain ⟨⟨ws, hP, hD, hR0⟩, hS, hX⟩ := hG0
  obtain ⟨fs, hGb⟩ := g_ob_spec hob
  obtain ⟨q0, hq⟩ := hR0 _ _ hGb
  have hT : GoodIn wsL_law (wsV own index C y (Cond.code y by_ mL ret :: wsL_law)) := by
    intro w hw
    simp only [wsV, List.cons_append, List.nil_append, List.mem_cons] at hw
    rcases hw with rfl | rfl | rfl | rfl | rfl | hw
    · exact g_goodIn _ h1
    · exact g_goodIn _ h2
    · exact g_goodIn _ h3
    · exact g_goodIn _ h4
    · exact g_goodIn _ h5
    · exact g_goodIn _ hw
  refine va_callv (A1 := g_A lo) (free := g_A lo) (va_runV ⟨hx, hb, hml, hown, hts⟩ hM (cwV n hts hT rfl rfl rfl hd hR) ⟨g_Pre.blind, va_recv hK.1 hP hcl hq, fun U hU hW => ⟨rfl, by rw [hU]; exact g_le_trans hlo hS.1, by rw [hU]; exact ⟨ws, hP, hD, hR0⟩, hK.moved hW, hX.next hS hU hW⟩⟩ rfl hn hsz hst (lv_room hro) hdg hf) hS (fun q _ h => h) (fun q h => h) (fun u t H1 locs1 ht hvm hw hB hz1 hk1 hS1 => by obtain rfl := hw; exact kk H1 locs1 ⟨by rw [← ht]; exact hB.2.1, hS1, hX⟩)
set_option maxHeartbeats 1000000 in
theorem g_cSv (hx : p.tables.exec = Jvm.exec) (hb : c.code = cc) {nL : Nat} (hml : c.maxLocals = nL) {own : String} (hown : s.vm.findClass own = some m.cls) (hts : ∀ w ∈ wsL_law, w.before args s = true) (hK : g_K dd cT s) (hlo : g_le lo s.heap.size) (hG : g_S lo dd cT s H locs G) {y : MethodName} {by_ : ByteArray} {mL fr lc mc ms index n : Nat} {ret : Option FieldType} {As : List Value}  {G1 : gH}
    (hM : Met l y (Cond.code y by_ mL ret :: wsL_law) (g_rm fr lc mc ms) (va_Pc As (g_Pre lo dd cT G)) (va_Qv (g_iv G1) (g_Pre lo dd cT) (g_A lo)) mc ms (g_A lo))
    (h1 : Cond.methodLink own index y ∈ wsL_law) (h2 : Cond.static y ∈ wsL_law) (h4 : Cond.initialized own ∈ wsL_law) (h5 : Cond.code y by_ mL ret ∈ wsL_law)
    (hd : y.cls = own ∧ y.cls ≠ "java/lang/invoke/MethodHandle" ∧ y.cls ≠ "java/lang/invoke/VarHandle" ∧ (parseMethodDescriptor y.desc).map (fun d => d.parameters.length) = some n) (hR : fr + 1 ≤ R.frames ∧ 8 + (mL + 11) + lc ≤ R.locals)
    {st0 : List Value} (hn : As.length = n) (hsz : ls.size = nL) (hst : st0 = As.reverse ++ rest) (hro : (rest.map fun v => v.category).sum ≤ 8) (hdg : decode cc pc = .ok (.invokestatic index, 3)) (hf : cells + mc ≤ R.cells ∧ slots + ms ≤ R.slots)
    (kk : ∀ (H1 : Heap) (locs1 : List Loc), g_S lo dd cT s H1 locs1 G1 → W p l e R s m args below meth c H1 locs1 (cells + mc) (slots + ms) Q (F0 m (pc + 3) ls (rest))) : W p l e R s m args below meth c H locs cells slots Q (F0 m pc ls st0) := by
  have hG0 := hG
  obtain ⟨⟨ws, hP, hD, hR0⟩, hS, hX⟩ := hG0
  have hT : GoodIn wsL_law (wsS own index y (Cond.code y by_ mL ret :: wsL_law)) := by
    intro w hw
    simp only [wsS, List.cons_append, List.nil_append, List.mem_cons] at hw
    rcases hw with rfl | rfl | rfl | rfl | hw
    · exact g_goodIn _ h1
    · exact g_goodIn _ h2
    · exact g_goodIn _ h4
    · exact g_goodIn _ h5
    · exact g_goodIn _ hw
  refine va_callv (A1 := g_A lo) (free := g_A lo) (va_runS ⟨hx, hb, hml, hown, hts⟩ hM (cwS n hts hT rfl rfl rfl hd hR) ⟨g_Pre.blind, fun U hU hW => ⟨rfl, by rw [hU]; exact g_le_trans hlo hS.1, by rw [hU]; exact ⟨ws, hP, hD, hR0⟩, hK.moved hW, hX.next hS hU hW⟩⟩ rfl hn hsz hst (lv_room hro) hdg hf) hS (fun q _ h => h) (fun q h => h) (fun u t H1 locs1 ht hvm hw hB hz1 hk1 hS1 => by obtain rfl := hw; exact kk H1 locs1 ⟨by rw [← ht]; exact hB.2.1, hS1, hX⟩)
set_option maxHeartbeats 1000000 in
theorem g_cNv (hx : p.tables.exec = Jvm.exec) (hb : c.code = cc) {nL : Nat} (hml : c.maxLocals = nL) {own : String} (hown : s.vm.findClass own = some m.cls) (hts : ∀ w ∈ wsL_law, w.before args s = true) (hK : g_K dd cT s) (hlo : g_le lo s.heap.size) (hG : g_S lo dd cT s H locs G) {y : MethodName} {by_ : ByteArray} {mL fr lc mc ms index n : Nat} {ret : Option FieldType} {As : List Value}  {G1 : gH}
    (hM : Met l y (Cond.code y by_ mL ret :: wsL_law) (g_rm fr lc mc ms) (va_Pc As (g_Pre lo dd cT G)) (va_Qv (g_iv G1) (g_Pre lo dd cT) (g_A lo)) mc ms (g_A lo))
    (h1 : (own, index, y) ∈ g_nests) (h2 : Cond.static y ∈ wsL_law) (h4 : Cond.initialized y.cls ∈ wsL_law) (h5 : Cond.code y by_ mL ret ∈ wsL_law)
    (hd : y.cls ≠ "java/lang/invoke/MethodHandle" ∧ y.cls ≠ "java/lang/invoke/VarHandle" ∧ (parseMethodDescriptor y.desc).map (fun d => d.parameters.length) = some n) (hR : fr + 1 ≤ R.frames ∧ 8 + (mL + 11) + lc ≤ R.locals)
    {st0 : List Value} (hn : As.length = n) (hsz : ls.size = nL) (hst : st0 = As.reverse ++ rest) (hro : (rest.map fun v => v.category).sum ≤ 8) (hdg : decode cc pc = .ok (.invokestatic index, 3)) (hf : cells + mc ≤ R.cells ∧ slots + ms ≤ R.slots)
    (kk : ∀ (H1 : Heap) (locs1 : List Loc), g_S lo dd cT s H1 locs1 G1 → W p l e R s m args below meth c H1 locs1 (cells + mc) (slots + ms) Q (F0 m (pc + 3) ls (rest))) : W p l e R s m args below meth c H locs cells slots Q (F0 m pc ls st0) := by
  have hG0 := hG
  obtain ⟨⟨ws, hP, hD, hR0⟩, hS, hX⟩ := hG0
  have hT : GoodIn wsL_law (Cond.code y by_ mL ret :: wsL_law) := by
    intro w hw
    simp only [List.mem_cons] at hw
    rcases hw with rfl | hw
    · exact g_goodIn _ h5
    · exact g_goodIn _ hw
  refine va_callv (A1 := g_A lo) (free := g_A lo) (va_runSN ⟨hx, hb, hml, hown, hts⟩ hM ⟨va_cnB n hts hT rfl rfl rfl (hK.2.1 _ h1) (hts _ h4) hd hR, hts _ h2, trivial⟩ ⟨g_Pre.blind, fun U hU hW => ⟨rfl, by rw [hU]; exact g_le_trans hlo hS.1, by rw [hU]; exact ⟨ws, hP, hD, hR0⟩, hK.moved hW, hX.next hS hU hW⟩⟩ rfl hn hsz hst (lv_room hro) hdg hf) hS (fun q _ h => h) (fun q h => h) (fun u t H1 locs1 ht hvm hw hB hz1 hk1 hS1 => by obtain rfl := hw; exact kk H1 locs1 ⟨by rw [← ht]; exact hB.2.1, hS1, hX⟩)
set_option maxHeartbeats 1000000 in
theorem g_cVr (hx : p.tables.exec = Jvm.exec) (hb : c.code = cc) {nL : Nat} (hml : c.maxLocals = nL) {own : String} (hown : s.vm.findClass own = some m.cls) (hts : ∀ w ∈ wsL_law, w.before args s = true) (hK : g_K dd cT s) (hlo : g_le lo s.heap.size) (hG : g_S lo dd cT s H locs G) {y : MethodName} {by_ : ByteArray} {mL fr lc mc ms index n : Nat} {ret : Option FieldType} {As : List Value} {r : Nat} {G1 : gH} {b ci N : Nat} {C : String} {T : u_T}
    (hM : Met l y (Cond.code y by_ mL ret :: wsL_law) (g_rm fr lc mc ms) (va_Pc (.ref b :: As) (g_Pre lo dd cT G)) (va_Qr (g_iv G1) (fun G' a t => a = r ∧ g_Pre lo dd cT G' t) (g_A lo)) mc ms (g_A lo))
    (h1 : Cond.methodLink own index y ∈ wsL_law) (h2 : Cond.instanceMethod y ∈ wsL_law) (h3 : Cond.selects C y y ∈ wsL_law) (h4 : Cond.initialized C ∈ wsL_law) (h5 : Cond.code y by_ mL ret ∈ wsL_law)
    (hd : y.cls = C ∧ y.cls ≠ "java/lang/invoke/MethodHandle" ∧ y.cls ≠ "java/lang/invoke/VarHandle" ∧ (parseMethodDescriptor y.desc).map (fun d => d.parameters.length) = some n) (hR : fr + 1 ≤ R.frames ∧ 8 + (mL + 11) + lc ≤ R.locals)
    (hcl : vwCl[ci]? = some (C, T, N)) {u0 : Unit} (hob : g_ob G b ci = some u0) {st0 : List Value} (hn : As.length = n) (hsz : ls.size = nL) (hst : st0 = As.reverse ++ .ref b :: rest) (hro : (rest.map fun v => v.category).sum ≤ 8) (hdg : decode cc pc = .ok (.invokevirtual index, 3)) (hf : cells + mc ≤ R.cells ∧ slots + ms ≤ R.slots)
    (kk : ∀ (H1 : Heap) (locs1 : List Loc), g_S lo dd cT s H1 locs1 G1 → W p l e R s m args below meth c H1 locs1 (cells + mc) (slots + ms) Q (F0 m (pc + 3) ls (.ref r :: rest))) : W p l e R s m args below meth c H locs cells slots Q (F0 m pc ls st0) := by
  have hG0 := hG
  obtain ⟨⟨ws, hP, hD, hR0⟩, hS, hX⟩ := hG0
  obtain ⟨fs, hGb⟩ := g_ob_spec hob
  obtain ⟨q0, hq⟩ := hR0 _ _ hGb
  have hT : GoodIn wsL_law (wsV own index C y (Cond.code y by_ mL ret :: wsL_law)) := by
    intro w hw
    simp only [wsV, List.cons_append, List.nil_append, List.mem_cons] at hw
    rcases hw with rfl | rfl | rfl | rfl | rfl | hw
    · exact g_goodIn _ h1
    · exact g_goodIn _ h2
    · exact g_goodIn _ h3
    · exact g_goodIn _ h4
    · exact g_goodIn _ h5
    · exact g_goodIn _ hw
  refine va_callr (A1 := g_A lo) (free := g_A lo) (va_runV ⟨hx, hb, hml, hown, hts⟩ hM (cwV n hts hT rfl rfl rfl hd hR) ⟨g_Pre.blind, va_recv hK.1 hP hcl hq, fun U hU hW => ⟨rfl, by rw [hU]; exact g_le_trans hlo hS.1, by rw [hU]; exact ⟨ws, hP, hD, hR0⟩, hK.moved hW, hX.next hS hU hW⟩⟩ rfl hn hsz hst (lv_room hro) hdg hf) hS (fun q _ h => h) (fun q h => h) (fun u a t H1 locs1 ht hvm hw hB hz1 hk1 hS1 => by obtain rfl := hw; obtain ⟨rfl, hB⟩ := hB; exact kk H1 locs1 ⟨by rw [← ht]; exact hB.2.1, hS1, hX⟩)
set_option maxHeartbeats 1000000 in
theorem g_cSr (hx : p.tables.exec = Jvm.exec) (hb : c.code = cc) {nL : Nat} (hml : c.maxLocals = nL) {own : String} (hown : s.vm.findClass own = some m.cls) (hts : ∀ w ∈ wsL_law, w.before args s = true) (hK : g_K dd cT s) (hlo : g_le lo s.heap.size) (hG : g_S lo dd cT s H locs G) {y : MethodName} {by_ : ByteArray} {mL fr lc mc ms index n : Nat} {ret : Option FieldType} {As : List Value} {r : Nat} {G1 : gH}
    (hM : Met l y (Cond.code y by_ mL ret :: wsL_law) (g_rm fr lc mc ms) (va_Pc As (g_Pre lo dd cT G)) (va_Qr (g_iv G1) (fun G' a t => a = r ∧ g_Pre lo dd cT G' t) (g_A lo)) mc ms (g_A lo))
    (h1 : Cond.methodLink own index y ∈ wsL_law) (h2 : Cond.static y ∈ wsL_law) (h4 : Cond.initialized own ∈ wsL_law) (h5 : Cond.code y by_ mL ret ∈ wsL_law)
    (hd : y.cls = own ∧ y.cls ≠ "java/lang/invoke/MethodHandle" ∧ y.cls ≠ "java/lang/invoke/VarHandle" ∧ (parseMethodDescriptor y.desc).map (fun d => d.parameters.length) = some n) (hR : fr + 1 ≤ R.frames ∧ 8 + (mL + 11) + lc ≤ R.locals)
    {st0 : List Value} (hn : As.length = n) (hsz : ls.size = nL) (hst : st0 = As.reverse ++ rest) (hro : (rest.map fun v => v.category).sum ≤ 8) (hdg : decode cc pc = .ok (.invokestatic index, 3)) (hf : cells + mc ≤ R.cells ∧ slots + ms ≤ R.slots)
    (kk : ∀ (H1 : Heap) (locs1 : List Loc), g_S lo dd cT s H1 locs1 G1 → W p l e R s m args below meth c H1 locs1 (cells + mc) (slots + ms) Q (F0 m (pc + 3) ls (.ref r :: rest))) : W p l e R s m args below meth c H locs cells slots Q (F0 m pc ls st0) := by
  have hG0 := hG
  obtain ⟨⟨ws, hP, hD, hR0⟩, hS, hX⟩ := hG0
  have hT : GoodIn wsL_law (wsS own index y (Cond.code y by_ mL ret :: wsL_law)) := by
    intro w hw
    simp only [wsS, List.cons_append, List.nil_append, List.mem_cons] at hw
    rcases hw with rfl | rfl | rfl | rfl | hw
    · exact g_goodIn _ h1
    · exact g_goodIn _ h2
    · exact g_goodIn _ h4
    · exact g_goodIn _ h5
    · exact g_goodIn _ hw
  refine va_callr (A1 := g_A lo) (free := g_A lo) (va_runS ⟨hx, hb, hml, hown, hts⟩ hM (cwS n hts hT rfl rfl rfl hd hR) ⟨g_Pre.blind, fun U hU hW => ⟨rfl, by rw [hU]; exact g_le_trans hlo hS.1, by rw [hU]; exact ⟨ws, hP, hD, hR0⟩, hK.moved hW, hX.next hS hU hW⟩⟩ rfl hn hsz hst (lv_room hro) hdg hf) hS (fun q _ h => h) (fun q h => h) (fun u a t H1 locs1 ht hvm hw hB hz1 hk1 hS1 => by obtain rfl := hw; obtain ⟨rfl, hB⟩ := hB; exact kk H1 locs1 ⟨by rw [← ht]; exact hB.2.1, hS1, hX⟩)
set_option maxHeartbeats 1000000 in
theorem g_cNr (hx : p.tables.exec = Jvm.exec) (hb : c.code = cc) {nL : Nat} (hml : c.maxLocals = nL) {own : String} (hown : s.vm.findClass own = some m.cls) (hts : ∀ w ∈ wsL_law, w.before args s = true) (hK : g_K dd cT s) (hlo : g_le lo s.heap.size) (hG : g_S lo dd cT s H locs G) {y : MethodName} {by_ : ByteArray} {mL fr lc mc ms index n : Nat} {ret : Option FieldType} {As : List Value} {r : Nat} {G1 : gH}
    (hM : Met l y (Cond.code y by_ mL ret :: wsL_law) (g_rm fr lc mc ms) (va_Pc As (g_Pre lo dd cT G)) (va_Qr (g_iv G1) (fun G' a t => a = r ∧ g_Pre lo dd cT G' t) (g_A lo)) mc ms (g_A lo))
    (h1 : (own, index, y) ∈ g_nests) (h2 : Cond.static y ∈ wsL_law) (h4 : Cond.initialized y.cls ∈ wsL_law) (h5 : Cond.code y by_ mL ret ∈ wsL_law)
    (hd : y.cls ≠ "java/lang/invoke/MethodHandle" ∧ y.cls ≠ "java/lang/invoke/VarHandle" ∧ (parseMethodDescriptor y.desc).map (fun d => d.parameters.length) = some n) (hR : fr + 1 ≤ R.frames ∧ 8 + (mL + 11) + lc ≤ R.locals)
    {st0 : List Value} (hn : As.length = n) (hsz : ls.size = nL) (hst : st0 = As.reverse ++ rest) (hro : (rest.map fun v => v.category).sum ≤ 8) (hdg : decode cc pc = .ok (.invokestatic index, 3)) (hf : cells + mc ≤ R.cells ∧ slots + ms ≤ R.slots)
    (kk : ∀ (H1 : Heap) (locs1 : List Loc), g_S lo dd cT s H1 locs1 G1 → W p l e R s m args below meth c H1 locs1 (cells + mc) (slots + ms) Q (F0 m (pc + 3) ls (.ref r :: rest))) : W p l e R s m args below meth c H locs cells slots Q (F0 m pc ls st0) := by
  have hG0 := hG
  obtain ⟨⟨ws, hP, hD, hR0⟩, hS, hX⟩ := hG0
  have hT : GoodIn wsL_law (Cond.code y by_ mL ret :: wsL_law) := by
    intro w hw
    simp only [List.mem_cons] at hw
    rcases hw with rfl | hw
    · exact g_goodIn _ h5
    · exact g_goodIn _ hw
  refine va_callr (A1 := g_A lo) (free := g_A lo) (va_runSN ⟨hx, hb, hml, hown, hts⟩ hM ⟨va_cnB n hts hT rfl rfl rfl (hK.2.1 _ h1) (hts _ h4) hd hR, hts _ h2, trivial⟩ ⟨g_Pre.blind, fun U hU hW => ⟨rfl, by rw [hU]; exact g_le_trans hlo hS.1, by rw [hU]; exact ⟨ws, hP, hD, hR0⟩, hK.moved hW, hX.next hS hU hW⟩⟩ rfl hn hsz hst (lv_room hro) hdg hf) hS (fun q _ h => h) (fun q h => h) (fun u a t H1 locs1 ht hvm hw hB hz1 hk1 hS1 => by obtain rfl := hw; obtain ⟨rfl, hB⟩ := hB; exact kk H1 locs1 ⟨by rw [← ht]; exact hB.2.1, hS1, hX⟩)
/-- a switch: which way, by the number -/
theorem g_swIn (hx : p.tables.exec = Jvm.exec) (hb : c.code = cc) {dflt lo_ hi : Int} {offs : Array Int} {len : Nat} {x : Int32} {tgt : Nat} (hdg : decode cc pc = .ok (.tableswitch dflt lo_ hi offs, len)) (k : Int32) (hk : x = k) (h1 : ¬ k.toInt < lo_) (h2 : ¬ hi < k.toInt) (off : Int) (ho : offs[(k.toInt - lo_).toNat]? = some off) (ht : (pc : Int) + off = (tgt : Int))
    (kk : W p l e R s m args below meth c H locs cells slots Q (F0 m tgt ls rest)) : W p l e R s m args below meth c H locs cells slots Q (F0 m pc ls (.int x :: rest)) := by
  subst hk
  exact lv_tableIn hx hb hdg h1 h2 ho ht kk
end GROW

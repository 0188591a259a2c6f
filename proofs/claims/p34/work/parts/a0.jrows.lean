/-! Rows for the methods of texts: by program (wip/p34/tools/ja0.py). -/
def g_b (x : Int32) : Option Int32 := if x.toInt8.toInt32 = x then some x else none
theorem g_b_nar {x y : Int32} (h : g_b x = some y) : narrow .byte (.int x) = .int x ∧ x = y := by
  unfold g_b at h
  split at h
  · rename_i hx
    exact ⟨by rw [narrow_byte, hx], Option.some.inj h⟩
  · cases h
theorem g_b_fit {x y : Int32} (h : g_b x = some y) : fits .byte (.int y) = true := by
  unfold g_b at h
  split at h
  · rename_i hx
    cases Option.some.inj h
    have := pk_fb x
    rw [hx] at this
    exact this
  · cases h
def g_c (x : Int32) : Option Int32 := if x.toUInt32.toUInt16.toUInt32.toInt32 = x then some x else none
theorem g_c_nar {x y : Int32} (h : g_c x = some y) : narrow .char (.int x) = .int x ∧ x = y := by
  unfold g_c at h
  split at h
  · rename_i hx
    exact ⟨congrArg Value.int hx, Option.some.inj h⟩
  · cases h
def g_six (i : Nat) : Option Unit := if i < 6 then some () else none
theorem g_six_lt {i : Nat} {u : Unit} (h : g_six i = some u) : i < 6 := by
  unfold g_six at h
  split at h
  · rename_i hx
    exact hx
  · cases h
def g_isb (G : gH) (a : Nat) : Option Unit := match G a with
  | some (.inl (2, _, _)) => some ()
  | _ => none
theorem g_isb_spec {G : gH} {a : Nat} {u : Unit} (h : g_isb G a = some u) : ∃ n f, G a = some (.inl (2, n, f)) := by
  unfold g_isb at h
  split at h
  · rename_i n f hG
    exact ⟨n, f, hG⟩
  · cases h
/-- the digits that stand at a place of the two rows -/
def g_dig (t : Nat) (i : Int32) : Option Int32 := if ¬ (i < 0 ∨ 100 ≤ i.toNatClampNeg) then some (Int32.ofNat (48 + (if t = 0 then i.toNatClampNeg % 10 else i.toNatClampNeg / 10))) else none
theorem g_dig_spec {t : Nat} {i x : Int32} (h : g_dig t i = some x) : vp_in i 100 ∧ x = Int32.ofNat (48 + (if t = 0 then i.toNatClampNeg % 10 else i.toNatClampNeg / 10)) := by
  unfold g_dig at h
  split at h
  · rename_i hx
    exact ⟨hx, (Option.some.inj h).symm⟩
  · cases h
def f_J0_checkIndex_df160 (G : gH) (x0 x1 : Int32) : Option Unit := if ¬ x0 < 0 ∧ x0 < x1 then some () else none
def f_J7_checkLength_df160 (G : gH) (x0 x1 : Int32) : Option Unit := if x0 ≤ x1 then some () else none
def g_newbW (MC MS : Nat) (G : gH) (n : Int32) (kc ks : Nat) (K : Nat → gH → Prop) : Prop := (¬ n < 0 ∧ n.toNatClampNeg ≤ 1000000) ∧ (kc + 1 ≤ MC ∧ ks + n.toNatClampNeg ≤ MS) ∧ ∀ q : Nat, G q = none → ∀ g : gH, g = va_up G q (some (.inl (2, n.toNatClampNeg, fun _ => 0))) → K q g
def g_clnW (MC MS : Nat) (G : gH) (a : Nat) (kc ks : Nat) (K : Nat → Nat → gH → Prop) : Prop := ∃ n f, G a = some (.inl (2, n, f)) ∧ (kc + 1 ≤ MC ∧ ks + n ≤ MS) ∧ (∀ j, j < n → (f j).toInt8.toInt32 = f j) ∧ ∀ q : Nat, G q = none → ∀ g : gH, g = va_up G q (some (.inl (2, n, f))) → K n q g
def g_cpyW (G : gH) (a0 : Nat) (sp : Int32) (a1 : Nat) (dp n : Int32) (K : gH → Prop) : Prop := ∃ n0 f n1 f1, G a0 = some (.inl (2, n0, f)) ∧ G a1 = some (.inl (2, n1, f1)) ∧ (¬ sp < 0 ∧ ¬ dp < 0 ∧ ¬ n < 0) ∧ (sp.toNatClampNeg + n.toNatClampNeg ≤ n0 ∧ dp.toNatClampNeg + n.toNatClampNeg ≤ n1) ∧ (∀ i, i < n.toNatClampNeg → (f (sp.toNatClampNeg + i)).toInt8.toInt32 = f (sp.toNatClampNeg + i)) ∧ ∀ g : gH, g = va_up G a1 (some (.inl (2, n1, va_cpy f f1 sp.toNatClampNeg dp.toNatClampNeg n.toNatClampNeg))) → K g
def g_cpyUW (G : gH) (i0 : Nat) (sp : Int32) (a1 : Nat) (dp n : Int32) (K : gH → Prop) : Prop := ∃ n1 f1, i0 < 6 ∧ G a1 = some (.inl (2, n1, f1)) ∧ (¬ sp < 0 ∧ ¬ dp < 0 ∧ ¬ n < 0) ∧ (sp.toNatClampNeg + n.toNatClampNeg ≤ g_lenL.getD i0 0 ∧ dp.toNatClampNeg + n.toNatClampNeg ≤ n1) ∧ ∀ g : gH, g = va_up G a1 (some (.inl (2, n1, va_cpy (fun j => (g_bytL.getD i0 []).getD j 0) f1 sp.toNatClampNeg dp.toNatClampNeg n.toNatClampNeg))) → K g
theorem g_fitL : ∀ i, i < 6 → g_lenL.getD i 0 < 8 ∧ ∀ j, j < 8 → fits .byte (.int ((g_bytL.getD i []).getD j 0)) = true := by decide +kernel
section GJR
variable {p : Program} {l : Launch} {e : Env} {R : Room} {s : State} {m : MethodId} {args : Array Value} {below : List Frame} {meth : Method} {c : Code} {H : Heap} {locs : List Loc} {cells slots : Nat} {Q : State → Prop}
variable {cc : ByteArray} {pc : Nat} {ls : Array Slot} {rest : List Value} {lo : Nat → Prop} {dd : va_G} {cT : Nat → ClassId} {G : gH}
theorem g_S.xl (hG : g_S lo dd cT s H locs G) : g_XL lo dd s := hG.2.2.2.2.2.2.2.2.2
/-- the class of the bytes' rows -/
theorem g_K.b (hK : g_K dd cT s) : s.vm.findClass "[B" = some (cT 2) := (hK.1.2 2 (cT 2, .byte) rfl).2
theorem g_castb (hx : p.tables.exec = Jvm.exec) (hb : c.code = cc) {own : String} {index a : Nat} (hown : s.vm.findClass own = some m.cls) (hts : ∀ w ∈ wsL_law, w.before args s = true) (hlink : Cond.classLink own index "[B" ∈ wsL_law) (hK : g_K dd cT s) (hG : g_S lo dd cT s H locs G) {u : Unit} (hv : g_isb G a = some u) (hdg : decode cc pc = .ok (.checkcast index, 3))
    (kk : W p l e R s m args below meth c H locs cells slots Q (F0 m (pc + 3) ls (.ref a :: rest))) : W p l e R s m args below meth c H locs cells slots Q (F0 m pc ls (.ref a :: rest)) := by
  obtain ⟨⟨ws, hP, hD, hR⟩, hS, hX⟩ := hG
  obtain ⟨n, f, hGa⟩ := g_isb_spec hv
  obtain ⟨q0, hq⟩ := hR _ _ hGa
  exact va_castA hx hb hown (hts _ hlink) hP q0 hq hK.b hdg kk
theorem g_clnb (hx : p.tables.exec = Jvm.exec) (hb : c.code = cc) {nL : Nat} (hml : c.maxLocals = nL) (hsz : ls.size = nL) {own : String} {index a : Nat} (hown : s.vm.findClass own = some m.cls) (hts : ∀ w ∈ wsL_law, w.before args s = true)
    (hlink : Cond.methodLink own index ⟨"[B", "clone", "()Ljava/lang/Object;"⟩ ∈ wsL_law) (hK : g_K dd cT s) (hlo : g_le lo s.heap.size) (hG : g_S lo dd cT s H locs G) {n : Nat} {f : Nat → Int32} (hGa : G a = some (.inl (2, n, f))) (hf : cells + 1 ≤ R.cells ∧ slots + n ≤ R.slots) (hby : ∀ j, j < n → (f j).toInt8.toInt32 = f j)
    (hframes : 1 ≤ R.frames) (hlocals : (rest.map fun v => v.category).sum + 14 ≤ R.locals) (hdg : decode cc pc = .ok (.invokevirtual index, 3))
    (kk : ∀ (q : Nat) (H1 : Heap), G q = none → g_S lo dd cT s H1 locs (va_up G q (some (.inl (2, n, f)))) → W p l e R s m args below meth c H1 locs (cells + 1) (slots + n) Q (F0 m (pc + 3) ls (.ref q :: rest))) : W p l e R s m args below meth c H locs cells slots Q (F0 m pc ls (.ref a :: rest)) := by
  have hxl := hG.xl
  obtain ⟨⟨ws, hP, hD, hR⟩, hS, hX⟩ := hG
  obtain ⟨q0, hq⟩ := hR _ _ hGa
  refine va_clone (D := dd) (x := (n, .inl f)) (ty := .byte) hx hb (hml.trans hsz.symm) hown (hts _ hlink) (hts _ qW_sameMethod__B_java_lang_Object_clone_Ljava_lang_Object_) (hts _ qW_native__java_lang_Object_clone_Ljava_lang_Object_) (hts _ qI__clone___Ljava_lang_Object_) (hts _ qS___B__clone___Ljava_lang_Object_) hxl.2.2.2.2.2.2 hK.1 hP hD hS hlo q0 2 hq rfl hK.b (fun i v hv => ?_) hframes hlocals hf.1 hf.2 hdg (fun q H1 hK1 hP1 hD1 hS1 => ?_)
  · by_cases hi : i < n
    · have : (vp_cell (cT 2) (n, .inl f)).slots[i]? = some (.int (f i)) := arrV_read _ _ hi
      rw [this] at hv
      cases hv
      have h2 := pk_fb (f i)
      rw [hby i hi] at h2
      exact h2
    · have : (vp_cell (cT 2) (n, .inl f)).slots[i]? = none := Array.getElem?_eq_none (by show (arrV _ _ _).slots.size ≤ i; rw [arrV_size]; omega)
      rw [this] at hv
      cases hv
  · obtain ⟨h1, h2⟩ := hR.push (e := .inl (2, n, f)) hD1
    exact kk q H1 h1 ⟨⟨_, hP1, hD1, h2⟩, hS1, hX⟩
theorem g_cpyb (hx : p.tables.exec = Jvm.exec) (hb : c.code = cc) {nL : Nat} (hml : c.maxLocals = nL) (hsz : ls.size = nL) {own : String} {index a0 a1 : Nat} (hown : s.vm.findClass own = some m.cls) (hts : ∀ w ∈ wsL_law, w.before args s = true) (hlink : Cond.methodLink own index arraycopyName ∈ wsL_law) (hK : g_K dd cT s) (hG : g_S lo dd cT s H locs G)
    {sp dp n : Int32} {K : gH → Prop} (h : g_cpyW G a0 sp a1 dp n K) (hframes : 1 ≤ R.frames) (hlocals : (rest.map fun v => v.category).sum + 18 ≤ R.locals) (hdg : decode cc pc = .ok (.invokestatic index, 3))
    (kk : ∀ (G1 : gH) (H1 : Heap) (locs1 : List Loc), K G1 → g_S lo dd cT s H1 locs1 G1 → W p l e R s m args below meth c H1 locs1 cells slots Q (F0 m (pc + 3) ls rest)) : W p l e R s m args below meth c H locs cells slots Q (F0 m pc ls (.int n :: .int dp :: .ref a1 :: .int sp :: .ref a0 :: rest)) := by
  obtain ⟨⟨ws, hP, hD, hR⟩, hS, hX⟩ := hG
  obtain ⟨n0, f, n1, f1, h0, h1, ⟨b1, b2, b3⟩, ⟨b4, b5⟩, hby, hk⟩ := h
  obtain ⟨q0, hq0⟩ := hR _ _ h0
  obtain ⟨q1, hq1⟩ := hR _ _ h1
  refine va_copyi (D := dd) (ty := .byte) hx hb (hml.trans hsz.symm) hown (hts _ hlink) (hts _ qW_native__arraycopyName) (hts _ qT_arraycopyName) (hts _ qN_java_lang_System) hK.1 hP hD hS q0 q1 2 2 hq0 hq1 rfl rfl rfl b1 b2 b3 b4 b5 (fun i hi => ?_) hframes hlocals hdg (fun H1 locs1 hP1 hD1 hS1 => ?_)
  · have h2 := pk_fb (f (sp.toNatClampNeg + i))
    rw [hby i hi] at h2
    exact h2
  · exact kk _ H1 locs1 (hk _ rfl) ⟨⟨_, hP1, hD1, hR.set (e1 := .inl (2, n1, va_cpy f f1 sp.toNatClampNeg dp.toNatClampNeg n.toNatClampNeg)) hD hq1⟩, hS1, hX⟩
theorem g_cpyU (hx : p.tables.exec = Jvm.exec) (hb : c.code = cc) {nL : Nat} (hml : c.maxLocals = nL) (hsz : ls.size = nL) {own : String} {index i0 a1 : Nat} (hown : s.vm.findClass own = some m.cls) (hts : ∀ w ∈ wsL_law, w.before args s = true) (hlink : Cond.methodLink own index arraycopyName ∈ wsL_law) (hK : g_K dd cT s) (hG : g_S lo dd cT s H locs G)
    {sp dp n : Int32} {K : gH → Prop} (h : g_cpyUW G i0 sp a1 dp n K) (hframes : 1 ≤ R.frames) (hlocals : (rest.map fun v => v.category).sum + 18 ≤ R.locals) (hdg : decode cc pc = .ok (.invokestatic index, 3))
    (kk : ∀ (G1 : gH) (H1 : Heap) (locs1 : List Loc), K G1 → g_S lo dd cT s H1 locs1 G1 → W p l e R s m args below meth c H1 locs1 cells slots Q (F0 m (pc + 3) ls rest)) : W p l e R s m args below meth c H locs cells slots Q (F0 m pc ls (.int n :: .int dp :: .ref a1 :: .int sp :: .ref (dd.2 103 i0) :: rest)) := by
  have hxl := hG.xl
  obtain ⟨⟨ws, hP, hD, hR⟩, hS, hX⟩ := hG
  obtain ⟨n1, f1, hi, h1, ⟨b1, b2, b3⟩, ⟨b4, b5⟩, hk⟩ := h
  obtain ⟨q1, hq1⟩ := hR _ _ h1
  refine vk_copyt (D := dd) hx hb (hml.trans hsz.symm) hown (hts _ hlink) (hts _ qW_native__arraycopyName) (hts _ qT_arraycopyName) (hts _ qN_java_lang_System) hK.1 hP hD hS (hxl.1.1 i0 hi).2.2.2 q1 2 hq1 rfl b1 b2 b3 b4 b5 (fun i hi2 => (g_fitL i0 hi).2 _ (by have := (g_fitL i0 hi).1; omega)) hframes hlocals hdg (fun H1 locs1 hP1 hD1 hS1 => ?_)
  exact kk _ H1 locs1 (hk _ rfl) ⟨⟨_, hP1, hD1, hR.set (e1 := .inl (2, n1, va_cpy (fun j => (g_bytL.getD i0 []).getD j 0) f1 sp.toNatClampNeg dp.toNatClampNeg n.toNatClampNeg)) hD hq1⟩, hS1, hX⟩
theorem g_newbR (hx : p.tables.exec = Jvm.exec) (hb : c.code = cc) (hts : ∀ w ∈ wsL_law, w.before args s = true) (hK : g_K dd cT s) (hlo : g_le lo s.heap.size) (hG : g_S lo dd cT s H locs G) {n : Int32} {K : Nat → gH → Prop} (h : g_newbW R.cells R.slots G n cells slots K) (hdg : decode cc pc = .ok (.newarray .byte, 2))
    (kk : ∀ (q : Nat) (G1 : gH) (H1 : Heap), K q G1 → g_S lo dd cT s H1 locs G1 → W p l e R s m args below meth c H1 locs (cells + 1) (slots + n.toNatClampNeg) Q (F0 m (pc + 2) ls (.ref q :: rest))) : W p l e R s m args below meth c H locs cells slots Q (F0 m pc ls (.int n :: rest)) := by
  obtain ⟨⟨h1, h2⟩, h3, h4⟩ := h
  refine g_newab hx hb hts hK hlo hG h1 rfl (by show n.toNatClampNeg * 1 ≤ 536870912; omega) h3 hdg (fun q H1 hq hG1 => kk q _ H1 (h4 q hq _ rfl) hG1)
theorem g_clnR (hx : p.tables.exec = Jvm.exec) (hb : c.code = cc) {nL : Nat} (hml : c.maxLocals = nL) (hsz : ls.size = nL) {own : String} {index a : Nat} (hown : s.vm.findClass own = some m.cls) (hts : ∀ w ∈ wsL_law, w.before args s = true)
    (hlink : Cond.methodLink own index ⟨"[B", "clone", "()Ljava/lang/Object;"⟩ ∈ wsL_law) (hK : g_K dd cT s) (hlo : g_le lo s.heap.size) (hG : g_S lo dd cT s H locs G) {K : Nat → Nat → gH → Prop} (h : g_clnW R.cells R.slots G a cells slots K)
    (hframes : 1 ≤ R.frames) (hlocals : (rest.map fun v => v.category).sum + 14 ≤ R.locals) (hdg : decode cc pc = .ok (.invokevirtual index, 3))
    (kk : ∀ (n q : Nat) (G1 : gH) (H1 : Heap), K n q G1 → g_S lo dd cT s H1 locs G1 → W p l e R s m args below meth c H1 locs (cells + 1) (slots + n) Q (F0 m (pc + 3) ls (.ref q :: rest))) : W p l e R s m args below meth c H locs cells slots Q (F0 m pc ls (.ref a :: rest)) := by
  obtain ⟨n, f, h1, h2, h3, h4⟩ := h
  exact g_clnb hx hb hml hsz hown hts hlink hK hlo hG h1 h2 h3 hframes hlocals hdg (fun q H1 hq hG1 => kk n q _ H1 (h4 q hq _ rfl) hG1)
theorem g_digR {t0 : Nat} (ht : t0 = 0 ∨ t0 = 1) (hx : p.tables.exec = Jvm.exec) (hb : c.code = cc) (hG : g_S lo dd cT s H locs G) {i x : Int32} (h : g_dig t0 i = some x) (hdg : decode cc pc = .ok (.baload, 1))
    (kk : W p l e R s m args below meth c H locs cells slots Q (F0 m (pc + 1) ls (.int x :: rest))) : W p l e R s m args below meth c H locs cells slots Q (F0 m pc ls (.int i :: .ref (dd.2 104 t0) :: rest)) := by
  obtain ⟨hin, rfl⟩ := g_dig_spec h
  rcases ht with rfl | rfl
  · exact va_tb hx hb hG.xl.2.2.2.2.1 hG.2.1 hin rfl hdg kk
  · exact va_tb hx hb hG.xl.2.2.2.2.2.1 hG.2.1 hin rfl hdg kk
set_option maxHeartbeats 1000000 in
theorem g_wAq (hx : p.tables.exec = Jvm.exec) (hb : c.code = cc) {nL : Nat} (hml : c.maxLocals = nL) {own : String} (hown : s.vm.findClass own = some m.cls) (hts : ∀ w ∈ wsL_law, w.before args s = true) (hK : g_K dd cT s) (hlo : g_le lo s.heap.size) (hG : g_S lo dd cT s H locs G) {y : MethodName} {by_ : ByteArray} {mL fr lc mc ms index n : Nat} {ret : Option FieldType} {As : List Value} {K : Option Nat → gH → Prop}
    (hM : Met l y (Cond.code y by_ mL ret :: wsL_law) (g_rm fr lc mc ms) (va_Pc As (g_Pre lo dd cT G)) (va_Qq K (g_Pre lo dd cT) (g_A lo)) mc ms (g_A lo))
    (h1 : Cond.methodLink own index y ∈ wsL_law) (h2 : Cond.static y ∈ wsL_law) (h4 : Cond.initialized y.cls ∈ wsL_law) (h5 : Cond.code y by_ mL ret ∈ wsL_law)
    (hd : y.cls ≠ "java/lang/invoke/MethodHandle" ∧ y.cls ≠ "java/lang/invoke/VarHandle" ∧ (parseMethodDescriptor y.desc).map (fun d => d.parameters.length) = some n) (hR : fr + 1 ≤ R.frames ∧ 8 + (mL + 11) + lc ≤ R.locals)
    {st0 : List Value} (hn : As.length = n) (hsz : ls.size = nL) (hst : st0 = As.reverse ++ rest) (hro : (rest.map fun v => v.category).sum ≤ 8) (hdg : decode cc pc = .ok (.invokestatic index, 3)) (hf : cells + mc ≤ R.cells ∧ slots + ms ≤ R.slots)
    (kk : ∀ (r : Option Nat) (G1 : gH) (H1 : Heap) (locs1 : List Loc), K r G1 → g_S lo dd cT s H1 locs1 G1 → W p l e R s m args below meth c H1 locs1 (cells + mc) (slots + ms) Q (F0 m (pc + 3) ls (va_rf r :: rest))) : W p l e R s m args below meth c H locs cells slots Q (F0 m pc ls st0) := by
  have hG0 := hG
  obtain ⟨⟨ws, hP, hD, hR0⟩, hS, hX⟩ := hG0
  have hT : GoodIn wsL_law (va_wsS own index y (Cond.code y by_ mL ret :: wsL_law)) := by
    intro w hw
    simp only [va_wsS, List.cons_append, List.nil_append, List.mem_cons] at hw
    rcases hw with rfl | rfl | rfl | rfl | hw
    · exact g_goodIn _ h1
    · exact g_goodIn _ h2
    · exact g_goodIn _ h4
    · exact g_goodIn _ h5
    · exact g_goodIn _ hw
  refine va_callq (A1 := g_A lo) (free := g_A lo) (va_runS ⟨hx, hb, hml, hown, hts⟩ hM (va_cwS n hts hT rfl rfl rfl hd hR) ⟨g_Pre.blind, fun U hU hW => ⟨rfl, by rw [hU]; exact g_le_trans hlo hS.1, by rw [hU]; exact ⟨ws, hP, hD, hR0⟩, hK.moved hW, hX.next hS hU hW⟩⟩ rfl hn hsz hst (lv_room hro) hdg hf) hS (fun q _ h => h) (fun q h => h) (fun r1 u t H1 locs1 ht hvm hw hB hz1 hk1 hS1 => by exact kk r1 u H1 locs1 hw ⟨by rw [← ht]; exact hB.2.1, hS1, hX⟩)
set_option maxHeartbeats 1000000 in
theorem g_wAv (hx : p.tables.exec = Jvm.exec) (hb : c.code = cc) {nL : Nat} (hml : c.maxLocals = nL) {own : String} (hown : s.vm.findClass own = some m.cls) (hts : ∀ w ∈ wsL_law, w.before args s = true) (hK : g_K dd cT s) (hlo : g_le lo s.heap.size) (hG : g_S lo dd cT s H locs G) {y : MethodName} {by_ : ByteArray} {mL fr lc mc ms index n : Nat} {ret : Option FieldType} {As : List Value} {K : gH → Prop}
    (hM : Met l y (Cond.code y by_ mL ret :: wsL_law) (g_rm fr lc mc ms) (va_Pc As (g_Pre lo dd cT G)) (va_Qv K (g_Pre lo dd cT) (g_A lo)) mc ms (g_A lo))
    (h1 : Cond.methodLink own index y ∈ wsL_law) (h2 : Cond.static y ∈ wsL_law) (h4 : Cond.initialized y.cls ∈ wsL_law) (h5 : Cond.code y by_ mL ret ∈ wsL_law)
    (hd : y.cls ≠ "java/lang/invoke/MethodHandle" ∧ y.cls ≠ "java/lang/invoke/VarHandle" ∧ (parseMethodDescriptor y.desc).map (fun d => d.parameters.length) = some n) (hR : fr + 1 ≤ R.frames ∧ 8 + (mL + 11) + lc ≤ R.locals)
    {st0 : List Value} (hn : As.length = n) (hsz : ls.size = nL) (hst : st0 = As.reverse ++ rest) (hro : (rest.map fun v => v.category).sum ≤ 8) (hdg : decode cc pc = .ok (.invokestatic index, 3)) (hf : cells + mc ≤ R.cells ∧ slots + ms ≤ R.slots)
    (kk : ∀ (G1 : gH) (H1 : Heap) (locs1 : List Loc), K G1 → g_S lo dd cT s H1 locs1 G1 → W p l e R s m args below meth c H1 locs1 (cells + mc) (slots + ms) Q (F0 m (pc + 3) ls rest)) : W p l e R s m args below meth c H locs cells slots Q (F0 m pc ls st0) := by
  have hG0 := hG
  obtain ⟨⟨ws, hP, hD, hR0⟩, hS, hX⟩ := hG0
  have hT : GoodIn wsL_law (va_wsS own index y (Cond.code y by_ mL ret :: wsL_law)) := by
    intro w hw
    simp only [va_wsS, List.cons_append, List.nil_append, List.mem_cons] at hw
    rcases hw with rfl | rfl | rfl | rfl | hw
    · exact g_goodIn _ h1
    · exact g_goodIn _ h2
    · exact g_goodIn _ h4
    · exact g_goodIn _ h5
    · exact g_goodIn _ hw
  refine va_callv (A1 := g_A lo) (free := g_A lo) (va_runS ⟨hx, hb, hml, hown, hts⟩ hM (va_cwS n hts hT rfl rfl rfl hd hR) ⟨g_Pre.blind, fun U hU hW => ⟨rfl, by rw [hU]; exact g_le_trans hlo hS.1, by rw [hU]; exact ⟨ws, hP, hD, hR0⟩, hK.moved hW, hX.next hS hU hW⟩⟩ rfl hn hsz hst (lv_room hro) hdg hf) hS (fun q _ h => h) (fun q h => h) (fun u t H1 locs1 ht hvm hw hB hz1 hk1 hS1 => by exact kk u H1 locs1 hw ⟨by rw [← ht]; exact hB.2.1, hS1, hX⟩)
set_option maxHeartbeats 1000000 in
theorem g_wUi (hx : p.tables.exec = Jvm.exec) (hb : c.code = cc) {nL : Nat} (hml : c.maxLocals = nL) {own : String} (hown : s.vm.findClass own = some m.cls) (hts : ∀ w ∈ wsL_law, w.before args s = true) (hK : g_K dd cT s) (hlo : g_le lo s.heap.size) (hG : g_S lo dd cT s H locs G) {x y : MethodName} {owner : String} {by_ : ByteArray} {mL fr lc mc ms index n : Nat} {ret : Option FieldType} {As : List Value} {K : Int32 → gH → Prop} {b ci N : Nat} {C : String} {T : u_T}
    (hM : Met l y (Cond.code y by_ mL ret :: wsL_law) (g_rm fr lc mc ms) (va_Pc (.ref b :: As) (g_Pre lo dd cT G)) (va_Qi K (g_Pre lo dd cT) (g_A lo)) mc ms (g_A lo))
    (h1 : Cond.methodLink own index x ∈ wsL_law) (h6 : Cond.sameMethod x.cls owner x.name x.desc ∈ wsL_law) (h3 : Cond.selects C x y ∈ wsL_law) (h2 : Cond.instanceMethod y ∈ wsL_law) (h4 : Cond.initialized y.cls ∈ wsL_law) (h5 : Cond.code y by_ mL ret ∈ wsL_law)
    (hyx : y = ⟨owner, x.name, x.desc⟩) (hd : owner ≠ "java/lang/invoke/MethodHandle" ∧ owner ≠ "java/lang/invoke/VarHandle" ∧ (parseMethodDescriptor x.desc).map (fun d => d.parameters.length) = some n) (hR : fr + 1 ≤ R.frames ∧ 8 + (mL + 11) + lc ≤ R.locals)
    (hcl : vwCl[ci]? = some (C, T, N)) {u0 : Unit} (hob : g_ob G b ci = some u0) {st0 : List Value} (hn : As.length = n) (hsz : ls.size = nL) (hst : st0 = As.reverse ++ .ref b :: rest) (hro : (rest.map fun v => v.category).sum ≤ 8) (hdg : decode cc pc = .ok (.invokevirtual index, 3)) (hf : cells + mc ≤ R.cells ∧ slots + ms ≤ R.slots)
    (kk : ∀ (r : Int32) (G1 : gH) (H1 : Heap) (locs1 : List Loc), K r G1 → g_S lo dd cT s H1 locs1 G1 → W p l e R s m args below meth c H1 locs1 (cells + mc) (slots + ms) Q (F0 m (pc + 3) ls (.int r :: rest))) : W p l e R s m args below meth c H locs cells slots Q (F0 m pc ls st0) := by
  have hG0 := hG
  obtain ⟨⟨ws, hP, hD, hR0⟩, hS, hX⟩ := hG0
  obtain ⟨fs, hGb⟩ := g_ob_spec hob
  obtain ⟨q0, hq⟩ := hR0 _ _ hGb
  have hT : GoodIn wsL_law (va_wsU own index C owner x y (Cond.code y by_ mL ret :: wsL_law)) := by
    intro w hw
    simp only [va_wsU, List.cons_append, List.nil_append, List.mem_cons] at hw
    rcases hw with rfl | rfl | rfl | rfl | rfl | rfl | hw
    · exact g_goodIn _ h1
    · exact g_goodIn _ h6
    · exact g_goodIn _ h3
    · exact g_goodIn _ h2
    · exact g_goodIn _ h4
    · exact g_goodIn _ h5
    · exact g_goodIn _ hw
  refine va_calli (A1 := g_A lo) (free := g_A lo) (va_runU ⟨hx, hb, hml, hown, hts⟩ hM (va_cwU n hts hT rfl rfl rfl hyx hd hR) ⟨g_Pre.blind, va_recv hK.1 hP hcl hq, fun U hU hW => ⟨rfl, by rw [hU]; exact g_le_trans hlo hS.1, by rw [hU]; exact ⟨ws, hP, hD, hR0⟩, hK.moved hW, hX.next hS hU hW⟩⟩ rfl hn hsz hst (lv_room hro) hdg hf) hS (fun q _ h => h) (fun q h => h) (fun r1 u t H1 locs1 ht hvm hw hB hz1 hk1 hS1 => by exact kk r1 u H1 locs1 hw ⟨by rw [← ht]; exact hB.2.1, hS1, hX⟩)
set_option maxHeartbeats 1000000 in
theorem g_wUq (hx : p.tables.exec = Jvm.exec) (hb : c.code = cc) {nL : Nat} (hml : c.maxLocals = nL) {own : String} (hown : s.vm.findClass own = some m.cls) (hts : ∀ w ∈ wsL_law, w.before args s = true) (hK : g_K dd cT s) (hlo : g_le lo s.heap.size) (hG : g_S lo dd cT s H locs G) {x y : MethodName} {owner : String} {by_ : ByteArray} {mL fr lc mc ms index n : Nat} {ret : Option FieldType} {As : List Value} {K : Option Nat → gH → Prop} {b ci N : Nat} {C : String} {T : u_T}
    (hM : Met l y (Cond.code y by_ mL ret :: wsL_law) (g_rm fr lc mc ms) (va_Pc (.ref b :: As) (g_Pre lo dd cT G)) (va_Qq K (g_Pre lo dd cT) (g_A lo)) mc ms (g_A lo))
    (h1 : Cond.methodLink own index x ∈ wsL_law) (h6 : Cond.sameMethod x.cls owner x.name x.desc ∈ wsL_law) (h3 : Cond.selects C x y ∈ wsL_law) (h2 : Cond.instanceMethod y ∈ wsL_law) (h4 : Cond.initialized y.cls ∈ wsL_law) (h5 : Cond.code y by_ mL ret ∈ wsL_law)
    (hyx : y = ⟨owner, x.name, x.desc⟩) (hd : owner ≠ "java/lang/invoke/MethodHandle" ∧ owner ≠ "java/lang/invoke/VarHandle" ∧ (parseMethodDescriptor x.desc).map (fun d => d.parameters.length) = some n) (hR : fr + 1 ≤ R.frames ∧ 8 + (mL + 11) + lc ≤ R.locals)
    (hcl : vwCl[ci]? = some (C, T, N)) {u0 : Unit} (hob : g_ob G b ci = some u0) {st0 : List Value} (hn : As.length = n) (hsz : ls.size = nL) (hst : st0 = As.reverse ++ .ref b :: rest) (hro : (rest.map fun v => v.category).sum ≤ 8) (hdg : decode cc pc = .ok (.invokevirtual index, 3)) (hf : cells + mc ≤ R.cells ∧ slots + ms ≤ R.slots)
    (kk : ∀ (r : Option Nat) (G1 : gH) (H1 : Heap) (locs1 : List Loc), K r G1 → g_S lo dd cT s H1 locs1 G1 → W p l e R s m args below meth c H1 locs1 (cells + mc) (slots + ms) Q (F0 m (pc + 3) ls (va_rf r :: rest))) : W p l e R s m args below meth c H locs cells slots Q (F0 m pc ls st0) := by
  have hG0 := hG
  obtain ⟨⟨ws, hP, hD, hR0⟩, hS, hX⟩ := hG0
  obtain ⟨fs, hGb⟩ := g_ob_spec hob
  obtain ⟨q0, hq⟩ := hR0 _ _ hGb
  have hT : GoodIn wsL_law (va_wsU own index C owner x y (Cond.code y by_ mL ret :: wsL_law)) := by
    intro w hw
    simp only [va_wsU, List.cons_append, List.nil_append, List.mem_cons] at hw
    rcases hw with rfl | rfl | rfl | rfl | rfl | rfl | hw
    · exact g_goodIn _ h1
    · exact g_goodIn _ h6
    · exact g_goodIn _ h3
    · exact g_goodIn _ h2
    · exact g_goodIn _ h4
    · exact g_goodIn _ h5
    · exact g_goodIn _ hw
  refine va_callq (A1 := g_A lo) (free := g_A lo) (va_runU ⟨hx, hb, hml, hown, hts⟩ hM (va_cwU n hts hT rfl rfl rfl hyx hd hR) ⟨g_Pre.blind, va_recv hK.1 hP hcl hq, fun U hU hW => ⟨rfl, by rw [hU]; exact g_le_trans hlo hS.1, by rw [hU]; exact ⟨ws, hP, hD, hR0⟩, hK.moved hW, hX.next hS hU hW⟩⟩ rfl hn hsz hst (lv_room hro) hdg hf) hS (fun q _ h => h) (fun q h => h) (fun r1 u t H1 locs1 ht hvm hw hB hz1 hk1 hS1 => by exact kk r1 u H1 locs1 hw ⟨by rw [← ht]; exact hB.2.1, hS1, hX⟩)
set_option maxHeartbeats 1000000 in
theorem g_wUv (hx : p.tables.exec = Jvm.exec) (hb : c.code = cc) {nL : Nat} (hml : c.maxLocals = nL) {own : String} (hown : s.vm.findClass own = some m.cls) (hts : ∀ w ∈ wsL_law, w.before args s = true) (hK : g_K dd cT s) (hlo : g_le lo s.heap.size) (hG : g_S lo dd cT s H locs G) {x y : MethodName} {owner : String} {by_ : ByteArray} {mL fr lc mc ms index n : Nat} {ret : Option FieldType} {As : List Value} {K : gH → Prop} {b ci N : Nat} {C : String} {T : u_T}
    (hM : Met l y (Cond.code y by_ mL ret :: wsL_law) (g_rm fr lc mc ms) (va_Pc (.ref b :: As) (g_Pre lo dd cT G)) (va_Qv K (g_Pre lo dd cT) (g_A lo)) mc ms (g_A lo))
    (h1 : Cond.methodLink own index x ∈ wsL_law) (h6 : Cond.sameMethod x.cls owner x.name x.desc ∈ wsL_law) (h3 : Cond.selects C x y ∈ wsL_law) (h2 : Cond.instanceMethod y ∈ wsL_law) (h4 : Cond.initialized y.cls ∈ wsL_law) (h5 : Cond.code y by_ mL ret ∈ wsL_law)
    (hyx : y = ⟨owner, x.name, x.desc⟩) (hd : owner ≠ "java/lang/invoke/MethodHandle" ∧ owner ≠ "java/lang/invoke/VarHandle" ∧ (parseMethodDescriptor x.desc).map (fun d => d.parameters.length) = some n) (hR : fr + 1 ≤ R.frames ∧ 8 + (mL + 11) + lc ≤ R.locals)
    (hcl : vwCl[ci]? = some (C, T, N)) {u0 : Unit} (hob : g_ob G b ci = some u0) {st0 : List Value} (hn : As.length = n) (hsz : ls.size = nL) (hst : st0 = As.reverse ++ .ref b :: rest) (hro : (rest.map fun v => v.category).sum ≤ 8) (hdg : decode cc pc = .ok (.invokevirtual index, 3)) (hf : cells + mc ≤ R.cells ∧ slots + ms ≤ R.slots)
    (kk : ∀ (G1 : gH) (H1 : Heap) (locs1 : List Loc), K G1 → g_S lo dd cT s H1 locs1 G1 → W p l e R s m args below meth c H1 locs1 (cells + mc) (slots + ms) Q (F0 m (pc + 3) ls rest)) : W p l e R s m args below meth c H locs cells slots Q (F0 m pc ls st0) := by
  have hG0 := hG
  obtain ⟨⟨ws, hP, hD, hR0⟩, hS, hX⟩ := hG0
  obtain ⟨fs, hGb⟩ := g_ob_spec hob
  obtain ⟨q0, hq⟩ := hR0 _ _ hGb
  have hT : GoodIn wsL_law (va_wsU own index C owner x y (Cond.code y by_ mL ret :: wsL_law)) := by
    intro w hw
    simp only [va_wsU, List.cons_append, List.nil_append, List.mem_cons] at hw
    rcases hw with rfl | rfl | rfl | rfl | rfl | rfl | hw
    · exact g_goodIn _ h1
    · exact g_goodIn _ h6
    · exact g_goodIn _ h3
    · exact g_goodIn _ h2
    · exact g_goodIn _ h4
    · exact g_goodIn _ h5
    · exact g_goodIn _ hw
  refine va_callv (A1 := g_A lo) (free := g_A lo) (va_runU ⟨hx, hb, hml, hown, hts⟩ hM (va_cwU n hts hT rfl rfl rfl hyx hd hR) ⟨g_Pre.blind, va_recv hK.1 hP hcl hq, fun U hU hW => ⟨rfl, by rw [hU]; exact g_le_trans hlo hS.1, by rw [hU]; exact ⟨ws, hP, hD, hR0⟩, hK.moved hW, hX.next hS hU hW⟩⟩ rfl hn hsz hst (lv_room hro) hdg hf) hS (fun q _ h => h) (fun q h => h) (fun u t H1 locs1 ht hvm hw hB hz1 hk1 hS1 => by exact kk u H1 locs1 hw ⟨by rw [← ht]; exact hB.2.1, hS1, hX⟩)
set_option maxHeartbeats 1000000 in
theorem g_wOi (hx : p.tables.exec = Jvm.exec) (hb : c.code = cc) {nL : Nat} (hml : c.maxLocals = nL) {own : String} (hown : s.vm.findClass own = some m.cls) (hts : ∀ w ∈ wsL_law, w.before args s = true) (hK : g_K dd cT s) (hlo : g_le lo s.heap.size) (hG : g_S lo dd cT s H locs G) {x y : MethodName} {owner : String} {by_ : ByteArray} {mL fr lc mc ms index n : Nat} {ret : Option FieldType} {As : List Value} {K : Int32 → gH → Prop} {b ci N : Nat} {C : String} {T : u_T}
    (hM : Met l y (Cond.code y by_ mL ret :: wsL_law) (g_rm fr lc mc ms) (va_Pc (.ref b :: As) (g_Pre lo dd cT G)) (va_Qi K (g_Pre lo dd cT) (g_A lo)) mc ms (g_A lo))
    (h1 : Cond.methodLink own index x ∈ wsL_law) (h6 : Cond.sameMethod x.cls owner x.name x.desc ∈ wsL_law) (h7 : Cond.instanceMethod ⟨owner, x.name, x.desc⟩ ∈ wsL_law) (h3 : Cond.selects C x y ∈ wsL_law) (h2 : Cond.instanceMethod y ∈ wsL_law) (h4 : Cond.initialized y.cls ∈ wsL_law) (h5 : Cond.code y by_ mL ret ∈ wsL_law)
    {b0 : ByteArray} {m0 : Nat} {r0 : Option FieldType} (h8 : Cond.code ⟨owner, x.name, x.desc⟩ b0 m0 r0 ∈ wsL_law) (hd : owner ≠ "java/lang/invoke/MethodHandle" ∧ owner ≠ "java/lang/invoke/VarHandle" ∧ (parseMethodDescriptor x.desc).map (fun d => d.parameters.length) = some n) (hR : fr + 1 ≤ R.frames ∧ 8 + (mL + 11) + lc ≤ R.locals)
    (hcl : vwCl[ci]? = some (C, T, N)) {u0 : Unit} (hob : g_ob G b ci = some u0) {st0 : List Value} (hn : As.length = n) (hsz : ls.size = nL) (hst : st0 = As.reverse ++ .ref b :: rest) (hro : (rest.map fun v => v.category).sum ≤ 8) (hdg : decode cc pc = .ok (.invokevirtual index, 3)) (hf : cells + mc ≤ R.cells ∧ slots + ms ≤ R.slots)
    (kk : ∀ (r : Int32) (G1 : gH) (H1 : Heap) (locs1 : List Loc), K r G1 → g_S lo dd cT s H1 locs1 G1 → W p l e R s m args below meth c H1 locs1 (cells + mc) (slots + ms) Q (F0 m (pc + 3) ls (.int r :: rest))) : W p l e R s m args below meth c H locs cells slots Q (F0 m pc ls st0) := by
  have hG0 := hG
  obtain ⟨⟨ws, hP, hD, hR0⟩, hS, hX⟩ := hG0
  obtain ⟨fs, hGb⟩ := g_ob_spec hob
  obtain ⟨q0, hq⟩ := hR0 _ _ hGb
  have hT : GoodIn wsL_law (va_wsO own index C owner x y (Cond.code y by_ mL ret :: wsL_law)) := by
    intro w hw
    simp only [va_wsO, List.cons_append, List.nil_append, List.mem_cons] at hw
    rcases hw with rfl | rfl | rfl | rfl | rfl | rfl | rfl | hw
    · exact g_goodIn _ h1
    · exact g_goodIn _ h6
    · exact g_goodIn _ h7
    · exact g_goodIn _ h3
    · exact g_goodIn _ h2
    · exact g_goodIn _ h4
    · exact g_goodIn _ h5
    · exact g_goodIn _ hw
  refine va_calli (A1 := g_A lo) (free := g_A lo) (va_runU ⟨hx, hb, hml, hown, hts⟩ hM (va_cwO n hts hT rfl rfl rfl h8 hd hR) ⟨g_Pre.blind, va_recv hK.1 hP hcl hq, fun U hU hW => ⟨rfl, by rw [hU]; exact g_le_trans hlo hS.1, by rw [hU]; exact ⟨ws, hP, hD, hR0⟩, hK.moved hW, hX.next hS hU hW⟩⟩ rfl hn hsz hst (lv_room hro) hdg hf) hS (fun q _ h => h) (fun q h => h) (fun r1 u t H1 locs1 ht hvm hw hB hz1 hk1 hS1 => by exact kk r1 u H1 locs1 hw ⟨by rw [← ht]; exact hB.2.1, hS1, hX⟩)
set_option maxHeartbeats 1000000 in
theorem g_wOq (hx : p.tables.exec = Jvm.exec) (hb : c.code = cc) {nL : Nat} (hml : c.maxLocals = nL) {own : String} (hown : s.vm.findClass own = some m.cls) (hts : ∀ w ∈ wsL_law, w.before args s = true) (hK : g_K dd cT s) (hlo : g_le lo s.heap.size) (hG : g_S lo dd cT s H locs G) {x y : MethodName} {owner : String} {by_ : ByteArray} {mL fr lc mc ms index n : Nat} {ret : Option FieldType} {As : List Value} {K : Option Nat → gH → Prop} {b ci N : Nat} {C : String} {T : u_T}
    (hM : Met l y (Cond.code y by_ mL ret :: wsL_law) (g_rm fr lc mc ms) (va_Pc (.ref b :: As) (g_Pre lo dd cT G)) (va_Qq K (g_Pre lo dd cT) (g_A lo)) mc ms (g_A lo))
    (h1 : Cond.methodLink own index x ∈ wsL_law) (h6 : Cond.sameMethod x.cls owner x.name x.desc ∈ wsL_law) (h7 : Cond.instanceMethod ⟨owner, x.name, x.desc⟩ ∈ wsL_law) (h3 : Cond.selects C x y ∈ wsL_law) (h2 : Cond.instanceMethod y ∈ wsL_law) (h4 : Cond.initialized y.cls ∈ wsL_law) (h5 : Cond.code y by_ mL ret ∈ wsL_law)
    {b0 : ByteArray} {m0 : Nat} {r0 : Option FieldType} (h8 : Cond.code ⟨owner, x.name, x.desc⟩ b0 m0 r0 ∈ wsL_law) (hd : owner ≠ "java/lang/invoke/MethodHandle" ∧ owner ≠ "java/lang/invoke/VarHandle" ∧ (parseMethodDescriptor x.desc).map (fun d => d.parameters.length) = some n) (hR : fr + 1 ≤ R.frames ∧ 8 + (mL + 11) + lc ≤ R.locals)
    (hcl : vwCl[ci]? = some (C, T, N)) {u0 : Unit} (hob : g_ob G b ci = some u0) {st0 : List Value} (hn : As.length = n) (hsz : ls.size = nL) (hst : st0 = As.reverse ++ .ref b :: rest) (hro : (rest.map fun v => v.category).sum ≤ 8) (hdg : decode cc pc = .ok (.invokevirtual index, 3)) (hf : cells + mc ≤ R.cells ∧ slots + ms ≤ R.slots)
    (kk : ∀ (r : Option Nat) (G1 : gH) (H1 : Heap) (locs1 : List Loc), K r G1 → g_S lo dd cT s H1 locs1 G1 → W p l e R s m args below meth c H1 locs1 (cells + mc) (slots + ms) Q (F0 m (pc + 3) ls (va_rf r :: rest))) : W p l e R s m args below meth c H locs cells slots Q (F0 m pc ls st0) := by
  have hG0 := hG
  obtain ⟨⟨ws, hP, hD, hR0⟩, hS, hX⟩ := hG0
  obtain ⟨fs, hGb⟩ := g_ob_spec hob
  obtain ⟨q0, hq⟩ := hR0 _ _ hGb
  have hT : GoodIn wsL_law (va_wsO own index C owner x y (Cond.code y by_ mL ret :: wsL_law)) := by
    intro w hw
    simp only [va_wsO, List.cons_append, List.nil_append, List.mem_cons] at hw
    rcases hw with rfl | rfl | rfl | rfl | rfl | rfl | rfl | hw
    · exact g_goodIn _ h1
    · exact g_goodIn _ h6
    · exact g_goodIn _ h7
    · exact g_goodIn _ h3
    · exact g_goodIn _ h2
    · exact g_goodIn _ h4
    · exact g_goodIn _ h5
    · exact g_goodIn _ hw
  refine va_callq (A1 := g_A lo) (free := g_A lo) (va_runU ⟨hx, hb, hml, hown, hts⟩ hM (va_cwO n hts hT rfl rfl rfl h8 hd hR) ⟨g_Pre.blind, va_recv hK.1 hP hcl hq, fun U hU hW => ⟨rfl, by rw [hU]; exact g_le_trans hlo hS.1, by rw [hU]; exact ⟨ws, hP, hD, hR0⟩, hK.moved hW, hX.next hS hU hW⟩⟩ rfl hn hsz hst (lv_room hro) hdg hf) hS (fun q _ h => h) (fun q h => h) (fun r1 u t H1 locs1 ht hvm hw hB hz1 hk1 hS1 => by exact kk r1 u H1 locs1 hw ⟨by rw [← ht]; exact hB.2.1, hS1, hX⟩)
set_option maxHeartbeats 1000000 in
theorem g_wSUi (hx : p.tables.exec = Jvm.exec) (hb : c.code = cc) {nL : Nat} (hml : c.maxLocals = nL) {own : String} (hown : s.vm.findClass own = some m.cls) (hts : ∀ w ∈ wsL_law, w.before args s = true) (hK : g_K dd cT s) (hlo : g_le lo s.heap.size) (hG : g_S lo dd cT s H locs G) {y : MethodName} {by_ : ByteArray} {mL fr lc mc ms index n : Nat} {ret : Option FieldType} {As : List Value} {K : Int32 → gH → Prop} {b ci N : Nat} {C : String} {T : u_T}
    (hM : Met l y (Cond.code y by_ mL ret :: wsL_law) (g_rm fr lc mc ms) (va_Pc (.ref b :: As) (g_Pre lo dd cT G)) (va_Qi K (g_Pre lo dd cT) (g_A lo)) mc ms (g_A lo))
    (h1 : Cond.methodLink own index y ∈ wsL_law) (h6 : Cond.sameMethod y.cls y.cls y.name y.desc ∈ wsL_law) (h7 : Cond.superclass own y.cls ∈ wsL_law) (h2 : Cond.instanceMethod y ∈ wsL_law) (h4 : Cond.initialized y.cls ∈ wsL_law) (h5 : Cond.code y by_ mL ret ∈ wsL_law)
    (hd : y.name ≠ "<init>" ∧ (parseMethodDescriptor y.desc).map (fun d => d.parameters.length) = some n) (hR : fr + 1 ≤ R.frames ∧ 8 + (mL + 11) + lc ≤ R.locals)
    (hcl : vwCl[ci]? = some (C, T, N)) {u0 : Unit} (hob : g_ob G b ci = some u0) {st0 : List Value} (hn : As.length = n) (hsz : ls.size = nL) (hst : st0 = As.reverse ++ .ref b :: rest) (hro : (rest.map fun v => v.category).sum ≤ 8) (hdg : decode cc pc = .ok (.invokespecial index, 3)) (hf : cells + mc ≤ R.cells ∧ slots + ms ≤ R.slots)
    (kk : ∀ (r : Int32) (G1 : gH) (H1 : Heap) (locs1 : List Loc), K r G1 → g_S lo dd cT s H1 locs1 G1 → W p l e R s m args below meth c H1 locs1 (cells + mc) (slots + ms) Q (F0 m (pc + 3) ls (.int r :: rest))) : W p l e R s m args below meth c H locs cells slots Q (F0 m pc ls st0) := by
  have hG0 := hG
  obtain ⟨⟨ws, hP, hD, hR0⟩, hS, hX⟩ := hG0
  obtain ⟨fs, hGb⟩ := g_ob_spec hob
  obtain ⟨q0, hq⟩ := hR0 _ _ hGb
  have hT : GoodIn wsL_law (va_wsSU own index y (Cond.code y by_ mL ret :: wsL_law)) := by
    intro w hw
    simp only [va_wsSU, List.cons_append, List.nil_append, List.mem_cons] at hw
    rcases hw with rfl | rfl | rfl | rfl | rfl | rfl | hw
    · exact g_goodIn _ h1
    · exact g_goodIn _ h6
    · exact g_goodIn _ h7
    · exact g_goodIn _ h2
    · exact g_goodIn _ h4
    · exact g_goodIn _ h5
    · exact g_goodIn _ hw
  refine va_calli (A1 := g_A lo) (free := g_A lo) (va_runSU (hK.1.1 ci _ hcl).2 ⟨hx, hb, hml, hown, hts⟩ hM (va_cwSU n hts hT rfl rfl rfl hd hR) ⟨g_Pre.blind, va_recv hK.1 hP hcl hq, fun U hU hW => ⟨rfl, by rw [hU]; exact g_le_trans hlo hS.1, by rw [hU]; exact ⟨ws, hP, hD, hR0⟩, hK.moved hW, hX.next hS hU hW⟩⟩ rfl hn hsz hst (lv_room hro) hdg hf) hS (fun q _ h => h) (fun q h => h) (fun r1 u t H1 locs1 ht hvm hw hB hz1 hk1 hS1 => by exact kk r1 u H1 locs1 hw ⟨by rw [← ht]; exact hB.2.1, hS1, hX⟩)
set_option maxHeartbeats 1000000 in
theorem g_wSUq (hx : p.tables.exec = Jvm.exec) (hb : c.code = cc) {nL : Nat} (hml : c.maxLocals = nL) {own : String} (hown : s.vm.findClass own = some m.cls) (hts : ∀ w ∈ wsL_law, w.before args s = true) (hK : g_K dd cT s) (hlo : g_le lo s.heap.size) (hG : g_S lo dd cT s H locs G) {y : MethodName} {by_ : ByteArray} {mL fr lc mc ms index n : Nat} {ret : Option FieldType} {As : List Value} {K : Option Nat → gH → Prop} {b ci N : Nat} {C : String} {T : u_T}
    (hM : Met l y (Cond.code y by_ mL ret :: wsL_law) (g_rm fr lc mc ms) (va_Pc (.ref b :: As) (g_Pre lo dd cT G)) (va_Qq K (g_Pre lo dd cT) (g_A lo)) mc ms (g_A lo))
    (h1 : Cond.methodLink own index y ∈ wsL_law) (h6 : Cond.sameMethod y.cls y.cls y.name y.desc ∈ wsL_law) (h7 : Cond.superclass own y.cls ∈ wsL_law) (h2 : Cond.instanceMethod y ∈ wsL_law) (h4 : Cond.initialized y.cls ∈ wsL_law) (h5 : Cond.code y by_ mL ret ∈ wsL_law)
    (hd : y.name ≠ "<init>" ∧ (parseMethodDescriptor y.desc).map (fun d => d.parameters.length) = some n) (hR : fr + 1 ≤ R.frames ∧ 8 + (mL + 11) + lc ≤ R.locals)
    (hcl : vwCl[ci]? = some (C, T, N)) {u0 : Unit} (hob : g_ob G b ci = some u0) {st0 : List Value} (hn : As.length = n) (hsz : ls.size = nL) (hst : st0 = As.reverse ++ .ref b :: rest) (hro : (rest.map fun v => v.category).sum ≤ 8) (hdg : decode cc pc = .ok (.invokespecial index, 3)) (hf : cells + mc ≤ R.cells ∧ slots + ms ≤ R.slots)
    (kk : ∀ (r : Option Nat) (G1 : gH) (H1 : Heap) (locs1 : List Loc), K r G1 → g_S lo dd cT s H1 locs1 G1 → W p l e R s m args below meth c H1 locs1 (cells + mc) (slots + ms) Q (F0 m (pc + 3) ls (va_rf r :: rest))) : W p l e R s m args below meth c H locs cells slots Q (F0 m pc ls st0) := by
  have hG0 := hG
  obtain ⟨⟨ws, hP, hD, hR0⟩, hS, hX⟩ := hG0
  obtain ⟨fs, hGb⟩ := g_ob_spec hob
  obtain ⟨q0, hq⟩ := hR0 _ _ hGb
  have hT : GoodIn wsL_law (va_wsSU own index y (Cond.code y by_ mL ret :: wsL_law)) := by
    intro w hw
    simp only [va_wsSU, List.cons_append, List.nil_append, List.mem_cons] at hw
    rcases hw with rfl | rfl | rfl | rfl | rfl | rfl | hw
    · exact g_goodIn _ h1
    · exact g_goodIn _ h6
    · exact g_goodIn _ h7
    · exact g_goodIn _ h2
    · exact g_goodIn _ h4
    · exact g_goodIn _ h5
    · exact g_goodIn _ hw
  refine va_callq (A1 := g_A lo) (free := g_A lo) (va_runSU (hK.1.1 ci _ hcl).2 ⟨hx, hb, hml, hown, hts⟩ hM (va_cwSU n hts hT rfl rfl rfl hd hR) ⟨g_Pre.blind, va_recv hK.1 hP hcl hq, fun U hU hW => ⟨rfl, by rw [hU]; exact g_le_trans hlo hS.1, by rw [hU]; exact ⟨ws, hP, hD, hR0⟩, hK.moved hW, hX.next hS hU hW⟩⟩ rfl hn hsz hst (lv_room hro) hdg hf) hS (fun q _ h => h) (fun q h => h) (fun r1 u t H1 locs1 ht hvm hw hB hz1 hk1 hS1 => by exact kk r1 u H1 locs1 hw ⟨by rw [← ht]; exact hB.2.1, hS1, hX⟩)
set_option maxHeartbeats 1000000 in
theorem g_wTi (hx : p.tables.exec = Jvm.exec) (hb : c.code = cc) {nL : Nat} (hml : c.maxLocals = nL) {own : String} (hown : s.vm.findClass own = some m.cls) (hts : ∀ w ∈ wsL_law, w.before args s = true) (hK : g_K dd cT s) (hlo : g_le lo s.heap.size) (hG : g_S lo dd cT s H locs G) {y : MethodName} {by_ : ByteArray} {mL fr lc mc ms index n : Nat} {ret : Option FieldType} {As : List Value} {K : Int32 → gH → Prop} {i : Nat}
    (hM : Met l y (Cond.code y by_ mL ret :: wsL_law) (g_rm fr lc mc ms) (va_Pc (.ref (dd.2 102 i) :: As) (g_Pre lo dd cT G)) (va_Qi K (g_Pre lo dd cT) (g_A lo)) mc ms (g_A lo))
    (h1 : Cond.methodLink own index y ∈ wsL_law) (h2 : Cond.instanceMethod y ∈ wsL_law) (h3 : Cond.selects RJ0 y y ∈ wsL_law) (h4 : Cond.initialized RJ0 ∈ wsL_law) (h5 : Cond.code y by_ mL ret ∈ wsL_law)
    (hd : y.cls = RJ0 ∧ y.cls ≠ "java/lang/invoke/MethodHandle" ∧ y.cls ≠ "java/lang/invoke/VarHandle" ∧ (parseMethodDescriptor y.desc).map (fun d => d.parameters.length) = some n) (hR : fr + 1 ≤ R.frames ∧ 8 + (mL + 11) + lc ≤ R.locals)
    (hi : i < 6) {st0 : List Value} (hn : As.length = n) (hsz : ls.size = nL) (hst : st0 = As.reverse ++ .ref (dd.2 102 i) :: rest) (hro : (rest.map fun v => v.category).sum ≤ 8) (hdg : decode cc pc = .ok (.invokevirtual index, 3)) (hf : cells + mc ≤ R.cells ∧ slots + ms ≤ R.slots)
    (kk : ∀ (r : Int32) (G1 : gH) (H1 : Heap) (locs1 : List Loc), K r G1 → g_S lo dd cT s H1 locs1 G1 → W p l e R s m args below meth c H1 locs1 (cells + mc) (slots + ms) Q (F0 m (pc + 3) ls (.int r :: rest))) : W p l e R s m args below meth c H locs cells slots Q (F0 m pc ls st0) := by
  have hG0 := hG
  obtain ⟨⟨ws, hP, hD, hR0⟩, hS, hX⟩ := hG0
  have hxl := hG.xl
  have hT : GoodIn wsL_law (wsV own index RJ0 y (Cond.code y by_ mL ret :: wsL_law)) := by
    intro w hw
    simp only [wsV, List.cons_append, List.nil_append, List.mem_cons] at hw
    rcases hw with rfl | rfl | rfl | rfl | rfl | hw
    · exact g_goodIn _ h1
    · exact g_goodIn _ h2
    · exact g_goodIn _ h3
    · exact g_goodIn _ h4
    · exact g_goodIn _ h5
    · exact g_goodIn _ hw
  refine va_calli (A1 := g_A lo) (free := g_A lo) (va_runV ⟨hx, hb, hml, hown, hts⟩ hM (cwV n hts hT rfl rfl rfl hd hR) ⟨g_Pre.blind, vk_recv hxl.1 hi hS, fun U hU hW => ⟨rfl, by rw [hU]; exact g_le_trans hlo hS.1, by rw [hU]; exact ⟨ws, hP, hD, hR0⟩, hK.moved hW, hX.next hS hU hW⟩⟩ rfl hn hsz hst (lv_room hro) hdg hf) hS (fun q _ h => h) (fun q h => h) (fun r1 u t H1 locs1 ht hvm hw hB hz1 hk1 hS1 => by exact kk r1 u H1 locs1 hw ⟨by rw [← ht]; exact hB.2.1, hS1, hX⟩)
set_option maxHeartbeats 1000000 in
theorem g_wTv (hx : p.tables.exec = Jvm.exec) (hb : c.code = cc) {nL : Nat} (hml : c.maxLocals = nL) {own : String} (hown : s.vm.findClass own = some m.cls) (hts : ∀ w ∈ wsL_law, w.before args s = true) (hK : g_K dd cT s) (hlo : g_le lo s.heap.size) (hG : g_S lo dd cT s H locs G) {y : MethodName} {by_ : ByteArray} {mL fr lc mc ms index n : Nat} {ret : Option FieldType} {As : List Value} {K : gH → Prop} {i : Nat}
    (hM : Met l y (Cond.code y by_ mL ret :: wsL_law) (g_rm fr lc mc ms) (va_Pc (.ref (dd.2 102 i) :: As) (g_Pre lo dd cT G)) (va_Qv K (g_Pre lo dd cT) (g_A lo)) mc ms (g_A lo))
    (h1 : Cond.methodLink own index y ∈ wsL_law) (h2 : Cond.instanceMethod y ∈ wsL_law) (h3 : Cond.selects RJ0 y y ∈ wsL_law) (h4 : Cond.initialized RJ0 ∈ wsL_law) (h5 : Cond.code y by_ mL ret ∈ wsL_law)
    (hd : y.cls = RJ0 ∧ y.cls ≠ "java/lang/invoke/MethodHandle" ∧ y.cls ≠ "java/lang/invoke/VarHandle" ∧ (parseMethodDescriptor y.desc).map (fun d => d.parameters.length) = some n) (hR : fr + 1 ≤ R.frames ∧ 8 + (mL + 11) + lc ≤ R.locals)
    (hi : i < 6) {st0 : List Value} (hn : As.length = n) (hsz : ls.size = nL) (hst : st0 = As.reverse ++ .ref (dd.2 102 i) :: rest) (hro : (rest.map fun v => v.category).sum ≤ 8) (hdg : decode cc pc = .ok (.invokevirtual index, 3)) (hf : cells + mc ≤ R.cells ∧ slots + ms ≤ R.slots)
    (kk : ∀ (G1 : gH) (H1 : Heap) (locs1 : List Loc), K G1 → g_S lo dd cT s H1 locs1 G1 → W p l e R s m args below meth c H1 locs1 (cells + mc) (slots + ms) Q (F0 m (pc + 3) ls rest)) : W p l e R s m args below meth c H locs cells slots Q (F0 m pc ls st0) := by
  have hG0 := hG
  obtain ⟨⟨ws, hP, hD, hR0⟩, hS, hX⟩ := hG0
  have hxl := hG.xl
  have hT : GoodIn wsL_law (wsV own index RJ0 y (Cond.code y by_ mL ret :: wsL_law)) := by
    intro w hw
    simp only [wsV, List.cons_append, List.nil_append, List.mem_cons] at hw
    rcases hw with rfl | rfl | rfl | rfl | rfl | hw
    · exact g_goodIn _ h1
    · exact g_goodIn _ h2
    · exact g_goodIn _ h3
    · exact g_goodIn _ h4
    · exact g_goodIn _ h5
    · exact g_goodIn _ hw
  refine va_callv (A1 := g_A lo) (free := g_A lo) (va_runV ⟨hx, hb, hml, hown, hts⟩ hM (cwV n hts hT rfl rfl rfl hd hR) ⟨g_Pre.blind, vk_recv hxl.1 hi hS, fun U hU hW => ⟨rfl, by rw [hU]; exact g_le_trans hlo hS.1, by rw [hU]; exact ⟨ws, hP, hD, hR0⟩, hK.moved hW, hX.next hS hU hW⟩⟩ rfl hn hsz hst (lv_room hro) hdg hf) hS (fun q _ h => h) (fun q h => h) (fun u t H1 locs1 ht hvm hw hB hz1 hk1 hS1 => by exact kk u H1 locs1 hw ⟨by rw [← ht]; exact hB.2.1, hS1, hX⟩)
theorem g_qretB (hx : p.tables.exec = Jvm.exec) (hb : c.code = cc) (hr : meth.sig.returnType = some (.array .byte)) (hlocks : meth.locks = false) (hK : g_K dd cT s) (hlo : g_le lo s.heap.size) (hG : g_S lo dd cT s H locs G) {v : Nat} {post : Option Nat → gH → Prop} (hp : post (some v) G) (hdg : decode cc pc = .ok (.areturn, 1)) :
    W p l e R s m args below meth c H locs cells slots (MQ below (va_Qq post (g_Pre lo dd cT) (g_A lo)) args s cells slots (g_A lo)) (F0 m pc ls [.ref v]) :=
  g_qret (r := some v) hx hb hr (Or.inr ⟨_, rfl⟩) hlocks hK hlo hG hp hdg
end GJR
set_option maxRecDepth 20000 in
set_option maxHeartbeats 4000000 in
theorem m_J0_checkIndex_df160 (l : Launch) (dd : va_G) (cT : Nat → ClassId) (lo : Nat → Prop) (G : gH) (x0 x1 : Int32) {u : Unit} (h : f_J0_checkIndex_df160 G x0 x1 = some u) : Met l yJ0_checkIndex_df160 (Cond.code yJ0_checkIndex_df160 cJ0_checkIndex_df160 2 none :: wsL_law) (g_rm 1 22 0 0) (va_Pc [.int x0, .int x1] (g_Pre lo dd cT G)) (va_Qv (g_iv G) (g_Pre lo dd cT) (g_A lo)) 0 0 (g_A lo) := by
  unfold f_J0_checkIndex_df160 at h
  split at h
  · rename_i hx
    exact m_J0_checkIndex l dd cT lo G x0 x1 hx.1 hx.2
  · cases h
set_option maxRecDepth 20000 in
set_option maxHeartbeats 4000000 in
theorem m_J7_checkLength_df160 (l : Launch) (dd : va_G) (cT : Nat → ClassId) (lo : Nat → Prop) (G : gH) (x0 x1 : Int32) {u : Unit} (h : f_J7_checkLength_df160 G x0 x1 = some u) : Met l yJ7_checkLength_df160 (Cond.code yJ7_checkLength_df160 cJ7_checkLength_df160 2 none :: wsL_law) (g_rm 0 0 0 0) (va_Pc [.int x0, .int x1] (g_Pre lo dd cT G)) (va_Qv (g_iv G) (g_Pre lo dd cT) (g_A lo)) 0 0 (g_A lo) := by
  refine g_start RJ7 rfl (by decide) (Nat.le_of_ble_eq_true rfl) ?_
  intro p e s m below meth c hx hb hr hlocks hml hown hnm hts hK hG hlo ls hl
  have hl : lv_has ls 2 [(0, .int x0), (1, .int x1)] := hl
  have hG : g_S lo dd cT s s.heap [] G := hG
  unfold f_J7_checkLength_df160 at h
  split at h
  · rename_i hxy
    refine lv_iload_n (x := x1) hx hb dJ7_checkLength_df160_0 rfl (lv_at hl 1 rfl) ?_
    refine lv_iload_n (x := x0) hx hb dJ7_checkLength_df160_1 rfl (lv_at hl 0 rfl) ?_
    refine lv_icmp_ge (tgt := 37) hx hb dJ7_checkLength_df160_2 (by decide) (fun c3 => ?_) (fun c3 => ?_)
    · exact g_vret hx hb hr hlocks hK hlo hG rfl dJ7_checkLength_df160_37
    · exact absurd hxy c3
  · cases h

/-! p34: rows for references that may be null, for nest mates' fields, for what stands beside a callee's world. -/
def gj (G R : gH) : gH := fun a => match G a with
  | some e => some e
  | none => R a
def gd (G R : gH) : Prop := ∀ a, G a = none ∨ R a = none
theorem gj_l {G R : gH} {a : Nat} {e : gE} (h : G a = some e) : gj G R a = some e := by simp [gj, h]
theorem gj_r {G R : gH} {a : Nat} {e : gE} (hd : gd G R) (h : R a = some e) : gj G R a = some e := by
  rcases hd a with h1 | h1
  · simp [gj, h1, h]
  · rw [h] at h1; cases h1
theorem g_R.off {cT : Nat → ClassId} {ws : va_W} {G R : gH} (h : g_R cT ws (gj G R)) : g_R cT ws G := fun a e ha => h a e (gj_l ha)
theorem g_R.offr {cT : Nat → ClassId} {ws : va_W} {G R : gH} (hd : gd G R) (h : g_R cT ws (gj G R)) : g_R cT ws R := fun a e ha => h a e (gj_r hd ha)
theorem g_flt {ws : va_W} {P : Nat × va_E → Bool} : ∀ {k : Nat} {q : Nat × va_E}, (ws.filter P)[k]? = some q → P q = true ∧ ∃ i : Nat, ws[i]? = some q := by
  intro k q h
  have h1 := List.mem_filter.mp (List.mem_of_getElem? h)
  exact ⟨h1.2, List.getElem?_of_mem h1.1⟩
theorem g_Dpw {A : Nat → Prop} {ws : va_W} (h : va_D A ws) : ws.Pairwise (fun p q => p.1 ≠ q.1) := by
  rw [List.pairwise_iff_getElem]
  intro i j hi hj hij z
  have := h.1 i j _ _ (List.getElem?_eq_getElem hi) (List.getElem?_eq_getElem hj) z
  omega
theorem g_Dof {A : Nat → Prop} {ws : va_W} (h1 : ws.Pairwise (fun p q => p.1 ≠ q.1)) (h2 : ∀ (k : Nat) (q : Nat × va_E), ws[k]? = some q → A q.1) : va_D A ws := by
  refine ⟨fun i j p q hi hj hpq => ?_, h2⟩
  obtain ⟨hi1, hi2⟩ := List.getElem?_eq_some_iff.mp hi
  obtain ⟨hj1, hj2⟩ := List.getElem?_eq_some_iff.mp hj
  rw [List.pairwise_iff_getElem] at h1
  rcases Nat.lt_trichotomy i j with h | h | h
  · exact absurd (by rw [hi2, hj2]; exact hpq) (h1 i j hi1 hj1 h)
  · exact h
  · exact absurd (by rw [hi2, hj2]; exact hpq.symm) (h1 j i hj1 hi1 h)
abbrev g_A1 (lo : Nat → Prop) (R : gH) : Nat → Prop := fun q => lo q ∧ R q = none
theorem g_X.narrow {lo A1 : Nat → Prop} {dd : va_G} {U : State} (h : g_X lo dd U) (hA : ∀ q, A1 q → lo q) : g_X A1 dd U := by
  obtain ⟨h1, h2, h3, h4, h5, h6, h7, h8, h9, d1, d2, d3, d4, d5⟩ := h
  exact ⟨h1.narrow hA, h2, h3, h4.narrow hA, h5.narrow hA, h6.narrow hA, h7.narrow hA, h8.narrow hA, h9, d1.narrow hA, d2.narrow hA, d3.narrow hA, d4.narrow hA, d5⟩
/-- into a part of the world -/
theorem g_into {lo : Nat → Prop} {dd : va_G} {cT : Nat → ClassId} {G R : gH} {U : State} (hd : gd G R) (h : g_Pre lo dd cT (gj G R) U) : g_Pre (g_A1 lo R) dd cT G U := by
  obtain ⟨h1, ⟨ws, hP, hD, hR⟩, hK, hX⟩ := h
  have hnew : ∀ q : Nat, U.heap.size ≤ q → R q = none := by
    intro q hq
    cases hr : R q with
    | none => rfl
    | some e =>
      obtain ⟨k, hk⟩ := hR.offr hd q e hr
      have := (hP k _ hk).lt
      omega
  refine ⟨fun q hq => ⟨h1 q hq, hnew q hq⟩, ⟨ws.filter (fun c => (R c.1).isNone), fun k q hk => ?_, g_Dof ?_ (fun k q hk => ?_), fun a e ha => ?_⟩, hK, hX.narrow (fun q h => h.1)⟩
  · obtain ⟨-, i, hi⟩ := g_flt hk
    exact hP i q hi
  · exact (g_Dpw hD).sublist List.filter_sublist
  · obtain ⟨hn, i, hi⟩ := g_flt hk
    exact ⟨hD.2 i q hi, by simpa using hn⟩
  · obtain ⟨k, hk⟩ := hR.off a e ha
    have hm : (a, g_toE cT e) ∈ ws.filter (fun c => (R c.1).isNone) := by
      refine List.mem_filter.mpr ⟨List.mem_of_getElem? hk, ?_⟩
      rcases hd a with h2 | h2
      · rw [ha] at h2; cases h2
      · simp [h2]
    exact List.getElem?_of_mem hm
/-- and back: what stood beside it stands as it was -/
theorem g_back {lo : Nat → Prop} {dd : va_G} {cT : Nat → ClassId} {G R u : gH} {U t : State} (hd : gd G R) (h : g_Pre lo dd cT (gj G R) U) (hF : va_F (g_A1 lo R) U t) (hW : U.WarmedH t.vm) (hu : g_Pre (g_A1 lo R) dd cT u t) : gd u R ∧ g_Pre lo dd cT (gj u R) t ∧ va_F lo U t := by
  obtain ⟨h1, ⟨ws, hP, hD, hR⟩, hK, hX⟩ := h
  obtain ⟨-, ⟨w1, hP1, hD1, hR1⟩, hK1, -⟩ := hu
  have hdu : gd u R := by
    intro a
    cases hr : u a with
    | none => exact Or.inl rfl
    | some e =>
      obtain ⟨k, hk⟩ := hR1 a e hr
      exact Or.inr (hD1.2 k _ hk).2
  have hFF : va_F lo U t := ⟨hF.1, fun q hq hn => hF.2 q hq (fun z => hn z.1)⟩
  refine ⟨hdu, ⟨fun q hq => h1 q (Nat.le_trans hF.1 hq), ⟨ws.filter (fun c => (R c.1).isSome) ++ w1, va_P.app (fun k q hk => ?_) hP1, va_D.app (g_Dof ((g_Dpw hD).sublist List.filter_sublist) (fun k q hk => ?_)) (hD1.weaken (fun k q _ z => z.1)) (fun i j p q hi hj z => ?_), fun a e ha => ?_⟩, hK1, hX.next (s := U) (U := t) (H := t.heap) (locs := []) ⟨hF.1, hFF.2, fun _ h => absurd h List.not_mem_nil⟩ rfl hW⟩, hFF⟩
  · obtain ⟨hn, i, hi⟩ := g_flt hk
    refine (hP i q hi).kept (hF.2 q.1 (hP i q hi).lt (fun z => ?_))
    rw [z.2] at hn; cases hn
  · obtain ⟨-, i, hi⟩ := g_flt hk
    exact hD.2 i q hi
  · obtain ⟨hn, -⟩ := g_flt hi
    have := (hD1.2 j q hj).2
    rw [← z] at this
    rw [this] at hn; cases hn
  · unfold gj at ha
    cases hr : u a with
    | some e0 =>
      rw [hr] at ha
      cases ha
      obtain ⟨k, hk⟩ := hR1 a e hr
      exact List.getElem?_of_mem (List.mem_append_right _ (List.mem_of_getElem? hk))
    | none =>
      rw [hr] at ha
      obtain ⟨k, hk⟩ := hR.offr hd a e ha
      refine List.getElem?_of_mem (List.mem_append_left _ (List.mem_filter.mpr ⟨List.mem_of_getElem? hk, ?_⟩))
      simp [ha]
section GFR
variable {l : Launch} {y : MethodName} {ws : List Cond} {rm : Room} {mc ms : Nat} {dd : va_G} {cT : Nat → ClassId} {G R : gH} {As : List Value}
/-- a callee over its own part of the world -/
theorem g_frI {K : Int32 → gH → Prop} (hd : gd G R) (hM : ∀ lo : Nat → Prop, Met l y ws rm (va_Pc As (g_Pre lo dd cT G)) (va_Qi K (g_Pre lo dd cT) (g_A lo)) mc ms (g_A lo)) (lo : Nat → Prop) : Met l y ws rm (va_Pc As (g_Pre lo dd cT (gj G R))) (va_Qi (fun r G2 => ∃ G1, K r G1 ∧ gd G1 R ∧ G2 = gj G1 R) (g_Pre lo dd cT) (g_A lo)) mc ms (g_A lo) := by
  intro p e he hf hc s m args below hfr hap hP hk
  obtain ⟨n, o, a1, a2, a3, ⟨⟨r, u, ho, hK, hB⟩, hF⟩, Ls, hL1, hL2⟩ := hM (g_A1 lo R) p e he hf hc s m args below hfr hap ⟨hP.1, g_into hd hP.2⟩ hk
  obtain ⟨b1, b2, b3⟩ := g_back hd hP.2 hF hL1.2.1 hB
  exact ⟨n, o, a1, a2, a3, ⟨⟨r, gj u R, ho, ⟨u, hK, b1, rfl⟩, b2⟩, b3⟩, Ls, hL1, fun q hq => (hL2 q hq).1⟩
theorem g_frQ {K : Option Nat → gH → Prop} (hd : gd G R) (hM : ∀ lo : Nat → Prop, Met l y ws rm (va_Pc As (g_Pre lo dd cT G)) (va_Qq K (g_Pre lo dd cT) (g_A lo)) mc ms (g_A lo)) (lo : Nat → Prop) : Met l y ws rm (va_Pc As (g_Pre lo dd cT (gj G R))) (va_Qq (fun r G2 => ∃ G1, K r G1 ∧ gd G1 R ∧ G2 = gj G1 R) (g_Pre lo dd cT) (g_A lo)) mc ms (g_A lo) := by
  intro p e he hf hc s m args below hfr hap hP hk
  obtain ⟨n, o, a1, a2, a3, ⟨⟨r, u, ho, hK, hB⟩, hF⟩, Ls, hL1, hL2⟩ := hM (g_A1 lo R) p e he hf hc s m args below hfr hap ⟨hP.1, g_into hd hP.2⟩ hk
  obtain ⟨b1, b2, b3⟩ := g_back hd hP.2 hF hL1.2.1 hB
  exact ⟨n, o, a1, a2, a3, ⟨⟨r, gj u R, ho, ⟨u, hK, b1, rfl⟩, b2⟩, b3⟩, Ls, hL1, fun q hq => (hL2 q hq).1⟩
theorem g_frV {K : gH → Prop} (hd : gd G R) (hM : ∀ lo : Nat → Prop, Met l y ws rm (va_Pc As (g_Pre lo dd cT G)) (va_Qv K (g_Pre lo dd cT) (g_A lo)) mc ms (g_A lo)) (lo : Nat → Prop) : Met l y ws rm (va_Pc As (g_Pre lo dd cT (gj G R))) (va_Qv (fun G2 => ∃ G1, K G1 ∧ gd G1 R ∧ G2 = gj G1 R) (g_Pre lo dd cT) (g_A lo)) mc ms (g_A lo) := by
  intro p e he hf hc s m args below hfr hap hP hk
  obtain ⟨n, o, a1, a2, a3, ⟨⟨u, ho, hK, hB⟩, hF⟩, Ls, hL1, hL2⟩ := hM (g_A1 lo R) p e he hf hc s m args below hfr hap ⟨hP.1, g_into hd hP.2⟩ hk
  obtain ⟨b1, b2, b3⟩ := g_back hd hP.2 hF hL1.2.1 hB
  exact ⟨n, o, a1, a2, a3, ⟨⟨gj u R, ho, ⟨u, hK, b1, rfl⟩, b2⟩, b3⟩, Ls, hL1, fun q hq => (hL2 q hq).1⟩
theorem g_frD {K : UInt64 → gH → Prop} (hd : gd G R) (hM : ∀ lo : Nat → Prop, Met l y ws rm (va_Pc As (g_Pre lo dd cT G)) (va_Qd K (g_Pre lo dd cT) (g_A lo)) mc ms (g_A lo)) (lo : Nat → Prop) : Met l y ws rm (va_Pc As (g_Pre lo dd cT (gj G R))) (va_Qd (fun r G2 => ∃ G1, K r G1 ∧ gd G1 R ∧ G2 = gj G1 R) (g_Pre lo dd cT) (g_A lo)) mc ms (g_A lo) := by
  intro p e he hf hc s m args below hfr hap hP hk
  obtain ⟨n, o, a1, a2, a3, ⟨⟨r, u, ho, hK, hB⟩, hF⟩, Ls, hL1, hL2⟩ := hM (g_A1 lo R) p e he hf hc s m args below hfr hap ⟨hP.1, g_into hd hP.2⟩ hk
  obtain ⟨b1, b2, b3⟩ := g_back hd hP.2 hF hL1.2.1 hB
  exact ⟨n, o, a1, a2, a3, ⟨⟨r, gj u R, ho, ⟨u, hK, b1, rfl⟩, b2⟩, b3⟩, Ls, hL1, fun q hq => (hL2 q hq).1⟩
/-- a callee that doesn't throw -/
theorem g_noX {lo : Nat → Prop} {Pc : Array Value → State → Prop} {Qc : Array Value → State → Outcome → State → Prop} {mc ms : Nat} {free : Addr → Prop} (hM : vx_Met l y ws rm Pc Qc (g_XC lo dd cT (fun _ _ => False)) mc ms free) : Met l y ws rm Pc Qc mc ms free := by
  intro p e he hf hc s m args below hfr hap hP hk
  obtain ⟨n, o, a1, a2, a3, h⟩ := hM p e he hf hc s m args below hfr hap hP hk
  rcases h with h | ⟨q, -, E, ce, Ls, ⟨u, -, ⟨hX, -⟩, -⟩, -⟩
  · exact ⟨n, o, a1, a2, a3, h⟩
  · exact hX.elim
end GFR
section GXR
variable {p : Program} {l : Launch} {e : Env} {R : Room} {s : State} {m : MethodId} {args : Array Value} {below : List Frame} {meth : Method} {c : Code} {H : Heap} {locs : List Loc} {cells slots : Nat} {Q : State → Prop}
variable {cc : ByteArray} {pc : Nat} {ls : Array Slot} {rest : List Value} {lo : Nat → Prop} {dd : va_G} {cT : Nat → ClassId} {G : gH}
set_option maxHeartbeats 1000000 in
theorem g_cVq (hx : p.tables.exec = Jvm.exec) (hb : c.code = cc) {nL : Nat} (hml : c.maxLocals = nL) {own : String} (hown : s.vm.findClass own = some m.cls) (hts : ∀ w ∈ wsL_law, w.before args s = true) (hK : g_K dd cT s) (hlo : g_le lo s.heap.size) (hG : g_S lo dd cT s H locs G) {y : MethodName} {by_ : ByteArray} {mL fr lc mc ms index n : Nat} {ret : Option FieldType} {As : List Value} {r : Option Nat} {G1 : gH} {b ci N : Nat} {C : String} {T : u_T}
    (hM : Met l y (Cond.code y by_ mL ret :: wsL_law) (g_rm fr lc mc ms) (va_Pc (.ref b :: As) (g_Pre lo dd cT G)) (va_Qq (g_is r G1) (g_Pre lo dd cT) (g_A lo)) mc ms (g_A lo))
    (h1 : Cond.methodLink own index y ∈ wsL_law) (h2 : Cond.instanceMethod y ∈ wsL_law) (h3 : Cond.selects C y y ∈ wsL_law) (h4 : Cond.initialized C ∈ wsL_law) (h5 : Cond.code y by_ mL ret ∈ wsL_law)
    (hd : y.cls = C ∧ y.cls ≠ "java/lang/invoke/MethodHandle" ∧ y.cls ≠ "java/lang/invoke/VarHandle" ∧ (parseMethodDescriptor y.desc).map (fun d => d.parameters.length) = some n) (hR : fr + 1 ≤ R.frames ∧ 8 + (mL + 11) + lc ≤ R.locals)
    (hcl : vwCl[ci]? = some (C, T, N)) {u0 : Unit} (hob : g_ob G b ci = some u0) {st0 : List Value} (hn : As.length = n) (hsz : ls.size = nL) (hst : st0 = As.reverse ++ .ref b :: rest) (hro : (rest.map fun v => v.category).sum ≤ 8) (hdg : decode cc pc = .ok (.invokevirtual index, 3)) (hf : cells + mc ≤ R.cells ∧ slots + ms ≤ R.slots)
    (kk : ∀ (H1 : Heap) (locs1 : List Loc), g_S lo dd cT s H1 locs1 G1 → W p l e R s m args below meth c H1 locs1 (cells + mc) (slots + ms) Q (F0 m (pc + 3) ls (va_rf r :: rest))) : W p l e R s m args below meth c H locs cells slots Q (F0 m pc ls st0) := by
  have hG0 := hG
  obtain ⟨⟨ws, hP, hD, hR0⟩, hS, hX⟩ := hG0
  obtain ⟨fs, hGb⟩ := g_ob_spec hob
  obtain ⟨q0, hq⟩ := hR0 _ _ hGb
  have hT : GoodIn wsL_law (wsV own index C y (Cond.code y by_ mL ret :: wsL_law)) := by
    intro w hw
    simp only [wsV, List.cons_append, List.nil_append, List.mem_cons] at hw
    rcases hw with rfl | rfl | rfl | rfl | rfl | hw
    · exact g_goodIn _ h1
    · exact g_goodIn _ h2
    · exact g_goodIn _ h3
    · exact g_goodIn _ h4
    · exact g_goodIn _ h5
    · exact g_goodIn _ hw
  refine va_callq (A1 := g_A lo) (free := g_A lo) (va_runV ⟨hx, hb, hml, hown, hts⟩ hM (cwV n hts hT rfl rfl rfl hd hR) ⟨g_Pre.blind, va_recv hK.1 hP hcl hq, fun U hU hW => ⟨rfl, by rw [hU]; exact g_le_trans hlo hS.1, by rw [hU]; exact ⟨ws, hP, hD, hR0⟩, hK.moved hW, hX.next hS hU hW⟩⟩ rfl hn hsz hst (lv_room hro) hdg hf) hS (fun q _ h => h) (fun q h => h) (fun r1 u t H1 locs1 ht hvm hw hB hz1 hk1 hS1 => by obtain ⟨rfl, rfl⟩ := hw; exact kk H1 locs1 ⟨by rw [← ht]; exact hB.2.1, hS1, hX⟩)
set_option maxHeartbeats 1000000 in
theorem g_wVq (hx : p.tables.exec = Jvm.exec) (hb : c.code = cc) {nL : Nat} (hml : c.maxLocals = nL) {own : String} (hown : s.vm.findClass own = some m.cls) (hts : ∀ w ∈ wsL_law, w.before args s = true) (hK : g_K dd cT s) (hlo : g_le lo s.heap.size) (hG : g_S lo dd cT s H locs G) {y : MethodName} {by_ : ByteArray} {mL fr lc mc ms index n : Nat} {ret : Option FieldType} {As : List Value} {K : Option Nat → gH → Prop} {b ci N : Nat} {C : String} {T : u_T}
    (hM : Met l y (Cond.code y by_ mL ret :: wsL_law) (g_rm fr lc mc ms) (va_Pc (.ref b :: As) (g_Pre lo dd cT G)) (va_Qq K (g_Pre lo dd cT) (g_A lo)) mc ms (g_A lo))
    (h1 : Cond.methodLink own index y ∈ wsL_law) (h2 : Cond.instanceMethod y ∈ wsL_law) (h3 : Cond.selects C y y ∈ wsL_law) (h4 : Cond.initialized C ∈ wsL_law) (h5 : Cond.code y by_ mL ret ∈ wsL_law)
    (hd : y.cls = C ∧ y.cls ≠ "java/lang/invoke/MethodHandle" ∧ y.cls ≠ "java/lang/invoke/VarHandle" ∧ (parseMethodDescriptor y.desc).map (fun d => d.parameters.length) = some n) (hR : fr + 1 ≤ R.frames ∧ 8 + (mL + 11) + lc ≤ R.locals)
    (hcl : vwCl[ci]? = some (C, T, N)) {u0 : Unit} (hob : g_ob G b ci = some u0) {st0 : List Value} (hn : As.length = n) (hsz : ls.size = nL) (hst : st0 = As.reverse ++ .ref b :: rest) (hro : (rest.map fun v => v.category).sum ≤ 8) (hdg : decode cc pc = .ok (.invokevirtual index, 3)) (hf : cells + mc ≤ R.cells ∧ slots + ms ≤ R.slots)
    (kk : ∀ (r : Option Nat) (G1 : gH) (H1 : Heap) (locs1 : List Loc), K r G1 → g_S lo dd cT s H1 locs1 G1 → W p l e R s m args below meth c H1 locs1 (cells + mc) (slots + ms) Q (F0 m (pc + 3) ls (va_rf r :: rest))) : W p l e R s m args below meth c H locs cells slots Q (F0 m pc ls st0) := by
  have hG0 := hG
  obtain ⟨⟨ws, hP, hD, hR0⟩, hS, hX⟩ := hG0
  obtain ⟨fs, hGb⟩ := g_ob_spec hob
  obtain ⟨q0, hq⟩ := hR0 _ _ hGb
  have hT : GoodIn wsL_law (wsV own index C y (Cond.code y by_ mL ret :: wsL_law)) := by
    intro w hw
    simp only [wsV, List.cons_append, List.nil_append, List.mem_cons] at hw
    rcases hw with rfl | rfl | rfl | rfl | rfl | hw
    · exact g_goodIn _ h1
    · exact g_goodIn _ h2
    · exact g_goodIn _ h3
    · exact g_goodIn _ h4
    · exact g_goodIn _ h5
    · exact g_goodIn _ hw
  refine va_callq (A1 := g_A lo) (free := g_A lo) (va_runV ⟨hx, hb, hml, hown, hts⟩ hM (cwV n hts hT rfl rfl rfl hd hR) ⟨g_Pre.blind, va_recv hK.1 hP hcl hq, fun U hU hW => ⟨rfl, by rw [hU]; exact g_le_trans hlo hS.1, by rw [hU]; exact ⟨ws, hP, hD, hR0⟩, hK.moved hW, hX.next hS hU hW⟩⟩ rfl hn hsz hst (lv_room hro) hdg hf) hS (fun q _ h => h) (fun q h => h) (fun r1 u t H1 locs1 ht hvm hw hB hz1 hk1 hS1 => by exact kk r1 u H1 locs1 hw ⟨by rw [← ht]; exact hB.2.1, hS1, hX⟩)
set_option maxHeartbeats 1000000 in
theorem g_wSi (hx : p.tables.exec = Jvm.exec) (hb : c.code = cc) {nL : Nat} (hml : c.maxLocals = nL) {own : String} (hown : s.vm.findClass own = some m.cls) (hts : ∀ w ∈ wsL_law, w.before args s = true) (hK : g_K dd cT s) (hlo : g_le lo s.heap.size) (hG : g_S lo dd cT s H locs G) {y : MethodName} {by_ : ByteArray} {mL fr lc mc ms index n : Nat} {ret : Option FieldType} {As : List Value} {K : Int32 → gH → Prop}
    (hM : Met l y (Cond.code y by_ mL ret :: wsL_law) (g_rm fr lc mc ms) (va_Pc As (g_Pre lo dd cT G)) (va_Qi K (g_Pre lo dd cT) (g_A lo)) mc ms (g_A lo))
    (h1 : Cond.methodLink own index y ∈ wsL_law) (h2 : Cond.static y ∈ wsL_law) (h4 : Cond.initialized own ∈ wsL_law) (h5 : Cond.code y by_ mL ret ∈ wsL_law)
    (hd : y.cls = own ∧ y.cls ≠ "java/lang/invoke/MethodHandle" ∧ y.cls ≠ "java/lang/invoke/VarHandle" ∧ (parseMethodDescriptor y.desc).map (fun d => d.parameters.length) = some n) (hR : fr + 1 ≤ R.frames ∧ 8 + (mL + 11) + lc ≤ R.locals)
    {st0 : List Value} (hn : As.length = n) (hsz : ls.size = nL) (hst : st0 = As.reverse ++ rest) (hro : (rest.map fun v => v.category).sum ≤ 8) (hdg : decode cc pc = .ok (.invokestatic index, 3)) (hf : cells + mc ≤ R.cells ∧ slots + ms ≤ R.slots)
    (kk : ∀ (r : Int32) (G1 : gH) (H1 : Heap) (locs1 : List Loc), K r G1 → g_S lo dd cT s H1 locs1 G1 → W p l e R s m args below meth c H1 locs1 (cells + mc) (slots + ms) Q (F0 m (pc + 3) ls (.int r :: rest))) : W p l e R s m args below meth c H locs cells slots Q (F0 m pc ls st0) := by
  have hG0 := hG
  obtain ⟨⟨ws, hP, hD, hR0⟩, hS, hX⟩ := hG0
  have hT : GoodIn wsL_law (wsS own index y (Cond.code y by_ mL ret :: wsL_law)) := by
    intro w hw
    simp only [wsS, List.cons_append, List.nil_append, List.mem_cons] at hw
    rcases hw with rfl | rfl | rfl | rfl | hw
    · exact g_goodIn _ h1
    · exact g_goodIn _ h2
    · exact g_goodIn _ h4
    · exact g_goodIn _ h5
    · exact g_goodIn _ hw
  refine va_calli (A1 := g_A lo) (free := g_A lo) (va_runS ⟨hx, hb, hml, hown, hts⟩ hM (cwS n hts hT rfl rfl rfl hd hR) ⟨g_Pre.blind, fun U hU hW => ⟨rfl, by rw [hU]; exact g_le_trans hlo hS.1, by rw [hU]; exact ⟨ws, hP, hD, hR0⟩, hK.moved hW, hX.next hS hU hW⟩⟩ rfl hn hsz hst (lv_room hro) hdg hf) hS (fun q _ h => h) (fun q h => h) (fun r1 u t H1 locs1 ht hvm hw hB hz1 hk1 hS1 => by exact kk r1 u H1 locs1 hw ⟨by rw [← ht]; exact hB.2.1, hS1, hX⟩)
set_option maxHeartbeats 1000000 in
theorem g_wVNq (hx : p.tables.exec = Jvm.exec) (hb : c.code = cc) {nL : Nat} (hml : c.maxLocals = nL) {own : String} (hown : s.vm.findClass own = some m.cls) (hts : ∀ w ∈ wsL_law, w.before args s = true) (hK : g_K dd cT s) (hlo : g_le lo s.heap.size) (hG : g_S lo dd cT s H locs G) {y : MethodName} {by_ : ByteArray} {mL fr lc mc ms index n : Nat} {ret : Option FieldType} {As : List Value} {K : Option Nat → gH → Prop} {b ci N : Nat} {C : String} {T : u_T}
    (hM : Met l y (Cond.code y by_ mL ret :: wsL_law) (g_rm fr lc mc ms) (va_Pc (.ref b :: As) (g_Pre lo dd cT G)) (va_Qq K (g_Pre lo dd cT) (g_A lo)) mc ms (g_A lo))
    (h1 : (own, index, y) ∈ g_nestsL) (h2 : Cond.instanceMethod y ∈ wsL_law) (h3 : Cond.selects C y y ∈ wsL_law) (h4 : Cond.initialized C ∈ wsL_law) (h5 : Cond.code y by_ mL ret ∈ wsL_law)
    (hd : y.cls = C ∧ y.cls ≠ "java/lang/invoke/MethodHandle" ∧ y.cls ≠ "java/lang/invoke/VarHandle" ∧ (parseMethodDescriptor y.desc).map (fun d => d.parameters.length) = some n) (hR : fr + 1 ≤ R.frames ∧ 8 + (mL + 11) + lc ≤ R.locals)
    (hcl : vwCl[ci]? = some (C, T, N)) {u0 : Unit} (hob : g_ob G b ci = some u0) {st0 : List Value} (hn : As.length = n) (hsz : ls.size = nL) (hst : st0 = As.reverse ++ .ref b :: rest) (hro : (rest.map fun v => v.category).sum ≤ 8) (hdg : decode cc pc = .ok (.invokevirtual index, 3)) (hf : cells + mc ≤ R.cells ∧ slots + ms ≤ R.slots)
    (kk : ∀ (r : Option Nat) (G1 : gH) (H1 : Heap) (locs1 : List Loc), K r G1 → g_S lo dd cT s H1 locs1 G1 → W p l e R s m args below meth c H1 locs1 (cells + mc) (slots + ms) Q (F0 m (pc + 3) ls (va_rf r :: rest))) : W p l e R s m args below meth c H locs cells slots Q (F0 m pc ls st0) := by
  have hG0 := hG
  obtain ⟨⟨ws, hP, hD, hR0⟩, hS, hX⟩ := hG0
  obtain ⟨fs, hGb⟩ := g_ob_spec hob
  obtain ⟨q0, hq⟩ := hR0 _ _ hGb
  have hT : GoodIn wsL_law (Cond.code y by_ mL ret :: wsL_law) := by
    intro w hw
    simp only [List.mem_cons] at hw
    rcases hw with rfl | hw
    · exact g_goodIn _ h5
    · exact g_goodIn _ hw
  refine va_callq (A1 := g_A lo) (free := g_A lo) (va_runVN ⟨hx, hb, hml, hown, hts⟩ hM ⟨va_cnB n hts hT rfl rfl rfl (hK.2.2.1 _ h1) (hts _ (by rw [hd.1]; exact h4)) hd.2 hR, hts _ h2, hts _ h3⟩ ⟨g_Pre.blind, va_recv hK.1 hP hcl hq, fun U hU hW => ⟨rfl, by rw [hU]; exact g_le_trans hlo hS.1, by rw [hU]; exact ⟨ws, hP, hD, hR0⟩, hK.moved hW, hX.next hS hU hW⟩⟩ rfl hn hsz hst (lv_room hro) hdg hf) hS (fun q _ h => h) (fun q h => h) (fun r1 u t H1 locs1 ht hvm hw hB hz1 hk1 hS1 => by exact kk r1 u H1 locs1 hw ⟨by rw [← ht]; exact hB.2.1, hS1, hX⟩)
set_option maxHeartbeats 1000000 in
theorem g_wIL (hx : p.tables.exec = Jvm.exec) (hb : c.code = cc) {nL : Nat} (hml : c.maxLocals = nL) {own : String} (hown : s.vm.findClass own = some m.cls) (hts : ∀ w ∈ wsL_law, w.before args s = true) (hK : g_K dd cT s) (hlo : g_le lo s.heap.size) (hG : g_S lo dd cT s H locs G) {y : MethodName} {by_ : ByteArray} {mL fr lc mc ms index n : Nat} {As : List Value}  {K : gH → Prop} {b : Nat}
    (hM : Met l y (Cond.code y by_ mL none :: wsL_law) (g_rm fr lc mc ms) (va_Pc (.ref b :: As) (g_Pre lo dd cT G)) (va_Qv K (g_Pre lo dd cT) (g_A lo)) mc ms (g_A lo))
    (h1 : (own, index, y) ∈ g_nestsL) (h2 : Cond.instanceMethod y ∈ wsL_law) (hnm : y.name = "<init>") (h4 : Cond.initialized y.cls ∈ wsL_law) (h5 : Cond.code y by_ mL none ∈ wsL_law)
    (hd : y.cls ≠ "java/lang/invoke/MethodHandle" ∧ y.cls ≠ "java/lang/invoke/VarHandle" ∧ (parseMethodDescriptor y.desc).map (fun d => d.parameters.length) = some n) (hR : fr + 1 ≤ R.frames ∧ 8 + (mL + 11) + lc ≤ R.locals)
    {st0 : List Value} (hn : As.length = n) (hsz : ls.size = nL) (hst : st0 = As.reverse ++ .ref b :: rest) (hro : (rest.map fun v => v.category).sum ≤ 8) (hdg : decode cc pc = .ok (.invokespecial index, 3)) (hf : cells + mc ≤ R.cells ∧ slots + ms ≤ R.slots)
    (kk : ∀ (G1 : gH) (H1 : Heap) (locs1 : List Loc), K G1 → g_S lo dd cT s H1 locs1 G1 → W p l e R s m args below meth c H1 locs1 (cells + mc) (slots + ms) Q (F0 m (pc + 3) ls (rest))) : W p l e R s m args below meth c H locs cells slots Q (F0 m pc ls st0) := by
  have hG0 := hG
  obtain ⟨⟨ws, hP, hD, hR0⟩, hS, hX⟩ := hG0
  have hT : GoodIn wsL_law (Cond.code y by_ mL none :: wsL_law) := by
    intro w hw
    simp only [List.mem_cons] at hw
    rcases hw with rfl | hw
    · exact g_goodIn _ h5
    · exact g_goodIn _ hw
  refine va_callv (A1 := g_A lo) (free := g_A lo) (va_runIN ⟨hx, hb, hml, hown, hts⟩ hM ⟨va_cnB n hts hT rfl rfl rfl (hK.2.2.1 _ h1) (hts _ h4) hd hR, hnm, hts _ h2⟩ ⟨g_Pre.blind, fun U hU hW => ⟨rfl, by rw [hU]; exact g_le_trans hlo hS.1, by rw [hU]; exact ⟨ws, hP, hD, hR0⟩, hK.moved hW, hX.next hS hU hW⟩⟩ rfl hn hsz hst (lv_room hro) hdg hf) hS (fun q _ h => h) (fun q h => h) (fun u t H1 locs1 ht hvm hw hB hz1 hk1 hS1 => by exact kk u H1 locs1 hw ⟨by rw [← ht]; exact hB.2.1, hS1, hX⟩)
set_option maxHeartbeats 1000000 in
theorem g_wIP (hx : p.tables.exec = Jvm.exec) (hb : c.code = cc) {nL : Nat} (hml : c.maxLocals = nL) {own : String} (hown : s.vm.findClass own = some m.cls) (hts : ∀ w ∈ wsL_law, w.before args s = true) (hK : g_K dd cT s) (hlo : g_le lo s.heap.size) (hG : g_S lo dd cT s H locs G) {y : MethodName} {by_ : ByteArray} {mL fr lc mc ms index n : Nat} {As : List Value}  {K : gH → Prop} {b : Nat}
    (hM : Met l y (Cond.code y by_ mL none :: wsL_law) (g_rm fr lc mc ms) (va_Pc (.ref b :: As) (g_Pre lo dd cT G)) (va_Qv K (g_Pre lo dd cT) (g_A lo)) mc ms (g_A lo))
    (h1 : Cond.methodLink own index y ∈ wsL_law) (h2 : Cond.instanceMethod y ∈ wsL_law) (hnm : y.name = "<init>") (h4 : Cond.initialized y.cls ∈ wsL_law) (h5 : Cond.code y by_ mL none ∈ wsL_law)
    (hd : y.cls ≠ "java/lang/invoke/MethodHandle" ∧ y.cls ≠ "java/lang/invoke/VarHandle" ∧ (parseMethodDescriptor y.desc).map (fun d => d.parameters.length) = some n) (hR : fr + 1 ≤ R.frames ∧ 8 + (mL + 11) + lc ≤ R.locals)
    {st0 : List Value} (hn : As.length = n) (hsz : ls.size = nL) (hst : st0 = As.reverse ++ .ref b :: rest) (hro : (rest.map fun v => v.category).sum ≤ 8) (hdg : decode cc pc = .ok (.invokespecial index, 3)) (hf : cells + mc ≤ R.cells ∧ slots + ms ≤ R.slots)
    (kk : ∀ (G1 : gH) (H1 : Heap) (locs1 : List Loc), K G1 → g_S lo dd cT s H1 locs1 G1 → W p l e R s m args below meth c H1 locs1 (cells + mc) (slots + ms) Q (F0 m (pc + 3) ls (rest))) : W p l e R s m args below meth c H locs cells slots Q (F0 m pc ls st0) := by
  have hG0 := hG
  obtain ⟨⟨ws, hP, hD, hR0⟩, hS, hX⟩ := hG0
  have hT : GoodIn wsL_law (Cond.code y by_ mL none :: wsL_law) := by
    intro w hw
    simp only [List.mem_cons] at hw
    rcases hw with rfl | hw
    · exact g_goodIn _ h5
    · exact g_goodIn _ hw
  refine va_callv (A1 := g_A lo) (free := g_A lo) (va_runI ⟨hx, hb, hml, hown, hts⟩ hM (cwI n hts hT rfl rfl rfl (hts _ h4) (hts _ h1) (hts _ h2) hnm hd hR) ⟨g_Pre.blind, fun U hU hW => ⟨rfl, by rw [hU]; exact g_le_trans hlo hS.1, by rw [hU]; exact ⟨ws, hP, hD, hR0⟩, hK.moved hW, hX.next hS hU hW⟩⟩ rfl hn hsz hst (lv_room hro) hdg hf) hS (fun q _ h => h) (fun q h => h) (fun u t H1 locs1 ht hvm hw hB hz1 hk1 hS1 => by exact kk u H1 locs1 hw ⟨by rw [← ht]; exact hB.2.1, hS1, hX⟩)
theorem g_dret (hx : p.tables.exec = Jvm.exec) (hb : c.code = cc) (hr : meth.sig.returnType = some .double) (hlocks : meth.locks = false) (hK : g_K dd cT s) (hlo : g_le lo s.heap.size) (hG : g_S lo dd cT s H locs G) {v : UInt64} {post : UInt64 → gH → Prop} (hp : post v G) (hdg : decode cc pc = .ok (.dreturn, 1)) :
    W p l e R s m args below meth c H locs cells slots (MQ below (va_Qd post (g_Pre lo dd cT) (g_A lo)) args s cells slots (g_A lo)) (F0 m pc ls [.double v]) :=
  W.dret hx hb hr (fun t ht hW => ⟨⟨v, G, rfl, hp, by rw [ht]; exact g_le_trans hlo hG.2.1.1, by rw [ht]; exact hG.1, hK.moved hW, hG.2.2.next hG.2.1 ht hW⟩, hG.2.1.F ht⟩) hG.2.1.2.2 hdg hlocks
set_option maxHeartbeats 1000000 in
theorem g_wVd (hx : p.tables.exec = Jvm.exec) (hb : c.code = cc) {nL : Nat} (hml : c.maxLocals = nL) {own : String} (hown : s.vm.findClass own = some m.cls) (hts : ∀ w ∈ wsL_law, w.before args s = true) (hK : g_K dd cT s) (hlo : g_le lo s.heap.size) (hG : g_S lo dd cT s H locs G) {y : MethodName} {by_ : ByteArray} {mL fr lc mc ms index n : Nat} {ret : Option FieldType} {As : List Value} {K : UInt64 → gH → Prop} {b ci N : Nat} {C : String} {T : u_T}
    (hM : Met l y (Cond.code y by_ mL ret :: wsL_law) (g_rm fr lc mc ms) (va_Pc (.ref b :: As) (g_Pre lo dd cT G)) (va_Qd K (g_Pre lo dd cT) (g_A lo)) mc ms (g_A lo))
    (h1 : Cond.methodLink own index y ∈ wsL_law) (h2 : Cond.instanceMethod y ∈ wsL_law) (h3 : Cond.selects C y y ∈ wsL_law) (h4 : Cond.initialized C ∈ wsL_law) (h5 : Cond.code y by_ mL ret ∈ wsL_law)
    (hd : y.cls = C ∧ y.cls ≠ "java/lang/invoke/MethodHandle" ∧ y.cls ≠ "java/lang/invoke/VarHandle" ∧ (parseMethodDescriptor y.desc).map (fun d => d.parameters.length) = some n) (hR : fr + 1 ≤ R.frames ∧ 8 + (mL + 11) + lc ≤ R.locals)
    (hcl : vwCl[ci]? = some (C, T, N)) {u0 : Unit} (hob : g_ob G b ci = some u0) {st0 : List Value} (hn : As.length = n) (hsz : ls.size = nL) (hst : st0 = As.reverse ++ .ref b :: rest) (hro : (rest.map fun v => v.category).sum ≤ 8) (hdg : decode cc pc = .ok (.invokevirtual index, 3)) (hf : cells + mc ≤ R.cells ∧ slots + ms ≤ R.slots)
    (kk : ∀ (r : UInt64) (G1 : gH) (H1 : Heap) (locs1 : List Loc), K r G1 → g_S lo dd cT s H1 locs1 G1 → W p l e R s m args below meth c H1 locs1 (cells + mc) (slots + ms) Q (F0 m (pc + 3) ls (.double r :: rest))) : W p l e R s m args below meth c H locs cells slots Q (F0 m pc ls st0) := by
  have hG0 := hG
  obtain ⟨⟨ws, hP, hD, hR0⟩, hS, hX⟩ := hG0
  obtain ⟨fs, hGb⟩ := g_ob_spec hob
  obtain ⟨q0, hq⟩ := hR0 _ _ hGb
  have hT : GoodIn wsL_law (wsV own index C y (Cond.code y by_ mL ret :: wsL_law)) := by
    intro w hw
    simp only [wsV, List.cons_append, List.nil_append, List.mem_cons] at hw
    rcases hw with rfl | rfl | rfl | rfl | rfl | hw
    · exact g_goodIn _ h1
    · exact g_goodIn _ h2
    · exact g_goodIn _ h3
    · exact g_goodIn _ h4
    · exact g_goodIn _ h5
    · exact g_goodIn _ hw
  refine va_calld (A1 := g_A lo) (free := g_A lo) (va_runV ⟨hx, hb, hml, hown, hts⟩ hM (cwV n hts hT rfl rfl rfl hd hR) ⟨g_Pre.blind, va_recv hK.1 hP hcl hq, fun U hU hW => ⟨rfl, by rw [hU]; exact g_le_trans hlo hS.1, by rw [hU]; exact ⟨ws, hP, hD, hR0⟩, hK.moved hW, hX.next hS hU hW⟩⟩ rfl hn hsz hst (lv_room hro) hdg hf) hS (fun q _ h => h) (fun q h => h) (fun r1 u t H1 locs1 ht hvm hw hB hz1 hk1 hS1 => by exact kk r1 u H1 locs1 hw ⟨by rw [← ht]; exact hB.2.1, hS1, hX⟩)
set_option maxHeartbeats 1000000 in
theorem g_newq5 (hx : p.tables.exec = Jvm.exec) (hb : c.code = cc) {own : String} {index : Nat} (hown : s.vm.findClass own = some m.cls) (hts : ∀ w ∈ wsL_law, w.before args s = true) (hcl : Cond.classLink own index RX12 ∈ wsL_law) (hK : g_K dd cT s) (hlo : g_le lo s.heap.size) (hG : g_S lo dd cT s H locs G) {n : Int32} {N : Nat} (hn : ¬ n < 0) (hN : n.toNatClampNeg = N) (hbytes : N * 4 ≤ 536870912) (hf : cells + 1 ≤ R.cells ∧ slots + N ≤ R.slots) (hdg : decode cc pc = .ok (.anewarray index, 3))
    (kk : ∀ (q : Nat) (H1 : Heap), G q = none → g_S lo dd cT s H1 locs (va_up G q (some (.inr (.inr (.inl (5, N, fun _ => none)))))) → W p l e R s m args below meth c H1 locs (cells + 1) (slots + N) Q (F0 m (pc + 3) ls (.ref q :: rest))) : W p l e R s m args below meth c H locs cells slots Q (F0 m pc ls (.int n :: rest)) := by
  obtain ⟨⟨ws, hP, hD, hR⟩, hS, hX⟩ := hG
  refine va_newq (D := dd) (C := RX12) hx hb hown (hts _ hcl) hK.2.2.2.2.1 hK.1 hP hD hS hlo hn hN hbytes hf.1 hf.2 hdg (fun q cA H1 hK1 hP1 hD1 hS1 => ?_)
  obtain ⟨k1, c1, -, -, -, e1⟩ := (hK.1.2 5 (cT 5, .object "OnceDiscLaw$Session") rfl).2
  obtain ⟨k2, c2, -, -, -, e2⟩ := (hK1.2 7 (cA, .object RX12) rfl).2
  have e3 : cA = cT 5 := Option.some.inj (e2.symm.trans e1)
  subst e3
  obtain ⟨h1, h2⟩ := hR.push (e := .inr (.inr (.inl (5, N, fun _ => none)))) hD1
  exact kk q H1 h1 ⟨⟨_, hP1, hD1, h2⟩, hS1, hX⟩
set_option maxHeartbeats 1000000 in
theorem g_newq6 (hx : p.tables.exec = Jvm.exec) (hb : c.code = cc) {own : String} {index : Nat} (hown : s.vm.findClass own = some m.cls) (hts : ∀ w ∈ wsL_law, w.before args s = true) (hcl : Cond.classLink own index RX13 ∈ wsL_law) (hK : g_K dd cT s) (hlo : g_le lo s.heap.size) (hG : g_S lo dd cT s H locs G) {n : Int32} {N : Nat} (hn : ¬ n < 0) (hN : n.toNatClampNeg = N) (hbytes : N * 4 ≤ 536870912) (hf : cells + 1 ≤ R.cells ∧ slots + N ≤ R.slots) (hdg : decode cc pc = .ok (.anewarray index, 3))
    (kk : ∀ (q : Nat) (H1 : Heap), G q = none → g_S lo dd cT s H1 locs (va_up G q (some (.inr (.inr (.inl (6, N, fun _ => none)))))) → W p l e R s m args below meth c H1 locs (cells + 1) (slots + N) Q (F0 m (pc + 3) ls (.ref q :: rest))) : W p l e R s m args below meth c H locs cells slots Q (F0 m pc ls (.int n :: rest)) := by
  obtain ⟨⟨ws, hP, hD, hR⟩, hS, hX⟩ := hG
  refine va_newq (D := dd) (C := RX13) hx hb hown (hts _ hcl) hK.2.2.2.2.2 hK.1 hP hD hS hlo hn hN hbytes hf.1 hf.2 hdg (fun q cA H1 hK1 hP1 hD1 hS1 => ?_)
  obtain ⟨k1, c1, -, -, -, e1⟩ := (hK.1.2 6 (cT 6, .object "OnceDiscLaw$Version") rfl).2
  obtain ⟨k2, c2, -, -, -, e2⟩ := (hK1.2 7 (cA, .object RX13) rfl).2
  have e3 : cA = cT 6 := Option.some.inj (e2.symm.trans e1)
  subst e3
  obtain ⟨h1, h2⟩ := hR.push (e := .inr (.inr (.inl (6, N, fun _ => none)))) hD1
  exact kk q H1 h1 ⟨⟨_, hP1, hD1, h2⟩, hS1, hX⟩
set_option maxHeartbeats 1000000 in
theorem g_wAi (hx : p.tables.exec = Jvm.exec) (hb : c.code = cc) {nL : Nat} (hml : c.maxLocals = nL) {own : String} (hown : s.vm.findClass own = some m.cls) (hts : ∀ w ∈ wsL_law, w.before args s = true) (hK : g_K dd cT s) (hlo : g_le lo s.heap.size) (hG : g_S lo dd cT s H locs G) {y : MethodName} {by_ : ByteArray} {mL fr lc mc ms index n : Nat} {ret : Option FieldType} {As : List Value} {K : Int32 → gH → Prop}
    (hM : Met l y (Cond.code y by_ mL ret :: wsL_law) (g_rm fr lc mc ms) (va_Pc As (g_Pre lo dd cT G)) (va_Qi K (g_Pre lo dd cT) (g_A lo)) mc ms (g_A lo))
    (h1 : Cond.methodLink own index y ∈ wsL_law) (h2 : Cond.static y ∈ wsL_law) (h4 : Cond.initialized y.cls ∈ wsL_law) (h5 : Cond.code y by_ mL ret ∈ wsL_law)
    (hd : y.cls ≠ "java/lang/invoke/MethodHandle" ∧ y.cls ≠ "java/lang/invoke/VarHandle" ∧ (parseMethodDescriptor y.desc).map (fun d => d.parameters.length) = some n) (hR : fr + 1 ≤ R.frames ∧ 8 + (mL + 11) + lc ≤ R.locals)
    {st0 : List Value} (hn : As.length = n) (hsz : ls.size = nL) (hst : st0 = As.reverse ++ rest) (hro : (rest.map fun v => v.category).sum ≤ 8) (hdg : decode cc pc = .ok (.invokestatic index, 3)) (hf : cells + mc ≤ R.cells ∧ slots + ms ≤ R.slots)
    (kk : ∀ (r : Int32) (G1 : gH) (H1 : Heap) (locs1 : List Loc), K r G1 → g_S lo dd cT s H1 locs1 G1 → W p l e R s m args below meth c H1 locs1 (cells + mc) (slots + ms) Q (F0 m (pc + 3) ls (.int r :: rest))) : W p l e R s m args below meth c H locs cells slots Q (F0 m pc ls st0) := by
  have hG0 := hG
  obtain ⟨⟨ws, hP, hD, hR0⟩, hS, hX⟩ := hG0
  have hT : GoodIn wsL_law (va_wsS own index y (Cond.code y by_ mL ret :: wsL_law)) := by
    intro w hw
    simp only [va_wsS, List.cons_append, List.nil_append, List.mem_cons] at hw
    rcases hw with rfl | rfl | rfl | rfl | hw
    · exact g_goodIn _ h1
    · exact g_goodIn _ h2
    · exact g_goodIn _ h4
    · exact g_goodIn _ h5
    · exact g_goodIn _ hw
  refine va_calli (A1 := g_A lo) (free := g_A lo) (va_runS ⟨hx, hb, hml, hown, hts⟩ hM (va_cwS n hts hT rfl rfl rfl hd hR) ⟨g_Pre.blind, fun U hU hW => ⟨rfl, by rw [hU]; exact g_le_trans hlo hS.1, by rw [hU]; exact ⟨ws, hP, hD, hR0⟩, hK.moved hW, hX.next hS hU hW⟩⟩ rfl hn hsz hst (lv_room hro) hdg hf) hS (fun q _ h => h) (fun q h => h) (fun r1 u t H1 locs1 ht hvm hw hB hz1 hk1 hS1 => by exact kk r1 u H1 locs1 hw ⟨by rw [← ht]; exact hB.2.1, hS1, hX⟩)
theorem g_qret {rt : FieldType} (hx : p.tables.exec = Jvm.exec) (hb : c.code = cc) (hr : meth.sig.returnType = some rt) (hrt : (∃ n, rt = .object n) ∨ ∃ t, rt = .array t) (hlocks : meth.locks = false) (hK : g_K dd cT s) (hlo : g_le lo s.heap.size) (hG : g_S lo dd cT s H locs G) {r : Option Nat} {post : Option Nat → gH → Prop} (hp : post r G) (hdg : decode cc pc = .ok (.areturn, 1)) :
    W p l e R s m args below meth c H locs cells slots (MQ below (va_Qq post (g_Pre lo dd cT) (g_A lo)) args s cells slots (g_A lo)) (F0 m pc ls [va_rf r]) :=
  W.aret hx hb hr hrt (va_rf_or r) (fun t ht hW => ⟨⟨r, G, rfl, hp, by rw [ht]; exact g_le_trans hlo hG.2.1.1, by rw [ht]; exact hG.1, hK.moved hW, hG.2.2.next hG.2.1 ht hW⟩, hG.2.1.F ht⟩) hG.2.1.2.2 hdg hlocks
theorem g_rald_row (hx : p.tables.exec = Jvm.exec) (hb : c.code = cc) (hK : g_K dd cT s) (hG : g_S lo dd cT s H locs G) {a t : Nat} {C : String} (ht : (g_tys cT)[t]? = some (cT t, .object C)) {i : Int32} {x : Option Nat} (hv : g_rald t G a i = some x) (hdg : decode cc pc = .ok (.aaload, 1))
    (kk : W p l e R s m args below meth c H locs cells slots Q (F0 m (pc + 1) ls (va_rf x :: rest))) : W p l e R s m args below meth c H locs cells slots Q (F0 m pc ls (.int i :: .ref a :: rest)) := by
  obtain ⟨⟨ws, hP, hD, hR⟩, hS, hX⟩ := hG
  obtain ⟨n, f, hGa, hin, rfl⟩ := g_rald_spec hv
  obtain ⟨q0, hq⟩ := hR _ _ hGa
  exact va_aldq (D := dd) hx hb hK.1 hP q0 t hq ht hin hdg kk
theorem g_rast_row {t ci : Nat} {r : vw_C} (hx : p.tables.exec = Jvm.exec) (hb : c.code = cc) (hK : g_K dd cT s) (hG : g_S lo dd cT s H locs G) (ht : (g_tys cT)[t]? = some (cT t, .object r.1)) (hc : vwCl[ci]? = some r) {a v : Nat} {i : Int32} {G1 : gH} {u0 : Unit} (hob : g_ob G v ci = some u0) (hv : g_rast t G a i (some v) = some G1) (hdg : decode cc pc = .ok (.aastore, 1))
    (kk : ∀ (H1 : Heap) (locs1 : List Loc), g_S lo dd cT s H1 locs1 G1 → W p l e R s m args below meth c H1 locs1 cells slots Q (F0 m (pc + 1) ls rest)) : W p l e R s m args below meth c H locs cells slots Q (F0 m pc ls (.ref v :: .int i :: .ref a :: rest)) := by
  obtain ⟨⟨ws, hP, hD, hR⟩, hS, hX⟩ := hG
  obtain ⟨n, f, hGa, hin, rfl⟩ := g_rast_spec hv
  obtain ⟨q0, hq⟩ := hR _ _ hGa
  obtain ⟨vs, hGv⟩ := g_ob_spec hob
  obtain ⟨qk, hqv⟩ := hR _ _ hGv
  exact va_astq (D := dd) (r := r) hx hb hK.1 hP hD hS q0 t qk ci hq ht hqv hc hin hdg (fun H1 locs1 hP1 hD1 hS1 => kk H1 locs1 ⟨⟨_, hP1, hD1, hR.set (e1 := .inr (.inr (.inl (t, n, va_up f i.toNatClampNeg (some v))))) hD hq⟩, hS1, hX⟩)
theorem g_rastN_row {t : Nat} {C : String} (hx : p.tables.exec = Jvm.exec) (hb : c.code = cc) (hK : g_K dd cT s) (hG : g_S lo dd cT s H locs G) (ht : (g_tys cT)[t]? = some (cT t, .object C)) {a : Nat} {i : Int32} {G1 : gH} (hv : g_rast t G a i none = some G1) (hdg : decode cc pc = .ok (.aastore, 1))
    (kk : ∀ (H1 : Heap) (locs1 : List Loc), g_S lo dd cT s H1 locs1 G1 → W p l e R s m args below meth c H1 locs1 cells slots Q (F0 m (pc + 1) ls rest)) : W p l e R s m args below meth c H locs cells slots Q (F0 m pc ls (.null :: .int i :: .ref a :: rest)) := by
  obtain ⟨⟨ws, hP, hD, hR⟩, hS, hX⟩ := hG
  obtain ⟨n, f, hGa, hin, rfl⟩ := g_rast_spec hv
  obtain ⟨q0, hq⟩ := hR _ _ hGa
  exact va_astqN (D := dd) hx hb hK.1 hP hD hS q0 t hq ht hin hdg (fun H1 locs1 hP1 hD1 hS1 => kk H1 locs1 ⟨⟨_, hP1, hD1, hR.set (e1 := .inr (.inr (.inl (t, n, va_up f i.toNatClampNeg none)))) hD hq⟩, hS1, hX⟩)
theorem g_getvN (hx : p.tables.exec = Jvm.exec) (hb : c.code = cc) {own C : String} {T : u_T} {N ci index : Nat} (hts : ∀ w ∈ wsL_law, w.before args s = true) (hin : ∀ w ∈ u_ws C T N, w ∈ wsL_law) (hown : s.vm.findClass own = some m.cls) (hK : g_K dd cT s) (hG : g_S lo dd cT s H locs G) {a : Nat} (hc : vwCl[ci]? = some (C, T, N)) (k : Nat) (hk : k < N) (hlink : (own, index, (T k).1, (T k).2.1, (T k).2.2.1) ∈ g_fnests) {v : Value} (hv : g_V G a ci k = some v) (hdg : decode cc pc = .ok (.getfield index, 3))
    (kk : W p l e R s m args below meth c H locs cells slots Q (F0 m (pc + 3) ls (v :: rest))) : W p l e R s m args below meth c H locs cells slots Q (F0 m pc ls (.ref a :: rest)) := by
  obtain ⟨⟨ws, hP, hD, hR⟩, hS, hX⟩ := hG
  obtain ⟨fs, hGa, hfs⟩ := g_V_spec hv
  obtain ⟨q0, hq⟩ := hR _ _ hGa
  exact va_getN (D := dd) hx hb hts hin hown hK.1 hP q0 hq hc k hk (va_Nw.use rfl (hK.2.2.2.1 _ hlink)) (fun _ h => h) hfs hdg kk
theorem g_getiN (hx : p.tables.exec = Jvm.exec) (hb : c.code = cc) {own C : String} {T : u_T} {N ci index : Nat} (hts : ∀ w ∈ wsL_law, w.before args s = true) (hin : ∀ w ∈ u_ws C T N, w ∈ wsL_law) (hown : s.vm.findClass own = some m.cls) (hK : g_K dd cT s) (hG : g_S lo dd cT s H locs G) {a : Nat} (hc : vwCl[ci]? = some (C, T, N)) (k : Nat) (hk : k < N) (hlink : (own, index, (T k).1, (T k).2.1, (T k).2.2.1) ∈ g_fnests) {x : Int32} (hv : g_i G a ci k = some x) (hdg : decode cc pc = .ok (.getfield index, 3))
    (kk : W p l e R s m args below meth c H locs cells slots Q (F0 m (pc + 3) ls (.int x :: rest))) : W p l e R s m args below meth c H locs cells slots Q (F0 m pc ls (.ref a :: rest)) :=
  g_getvN hx hb hts hin hown hK hG hc k hk hlink (g_i_spec hv) hdg kk
theorem g_getrN (hx : p.tables.exec = Jvm.exec) (hb : c.code = cc) {own C : String} {T : u_T} {N ci index : Nat} (hts : ∀ w ∈ wsL_law, w.before args s = true) (hin : ∀ w ∈ u_ws C T N, w ∈ wsL_law) (hown : s.vm.findClass own = some m.cls) (hK : g_K dd cT s) (hG : g_S lo dd cT s H locs G) {a : Nat} (hc : vwCl[ci]? = some (C, T, N)) (k : Nat) (hk : k < N) (hlink : (own, index, (T k).1, (T k).2.1, (T k).2.2.1) ∈ g_fnests) {x : Nat} (hv : g_r G a ci k = some x) (hdg : decode cc pc = .ok (.getfield index, 3))
    (kk : W p l e R s m args below meth c H locs cells slots Q (F0 m (pc + 3) ls (.ref x :: rest))) : W p l e R s m args below meth c H locs cells slots Q (F0 m pc ls (.ref a :: rest)) :=
  g_getvN hx hb hts hin hown hK hG hc k hk hlink (g_r_spec hv) hdg kk
theorem g_putvN (hx : p.tables.exec = Jvm.exec) (hb : c.code = cc) {own C : String} {T : u_T} {N ci index : Nat} (hts : ∀ w ∈ wsL_law, w.before args s = true) (hin : ∀ w ∈ u_ws C T N, w ∈ wsL_law) (ty : Nat → FieldType) (hty : ∀ k, k < N → parseFieldDescriptor (T k).2.2.1 = some (ty k)) (hnm : ∀ a, a < N → ∀ b, b < N → a ≠ b → (T a).2.1 ≠ (T b).2.1) (hown : s.vm.findClass own = some m.cls) (hK : g_K dd cT s) (hG : g_S lo dd cT s H locs G) {a : Nat} (hc : vwCl[ci]? = some (C, T, N)) (k : Nat) (hk : k < N) (hlink : (own, index, (T k).1, (T k).2.1, (T k).2.2.1) ∈ g_fnests) (hfin : (T k).2.2.2 = false) {ft : FieldType} {v : Value} (hd : parseFieldDescriptor (T k).2.2.1 = some ft) (hn : narrow ft v = v) (hfit : fits ft v = true) {G1 : gH} (hv : g_put G a ci k v = some G1) (hdg : decode cc pc = .ok (.putfield index, 3))
    (kk : ∀ (H1 : Heap) (locs1 : List Loc), g_S lo dd cT s H1 locs1 G1 → W p l e R s m args below meth c H1 locs1 cells slots Q (F0 m (pc + 3) ls rest)) : W p l e R s m args below meth c H locs cells slots Q (F0 m pc ls (v :: .ref a :: rest)) := by
  obtain ⟨⟨ws, hP, hD, hR⟩, hS, hX⟩ := hG
  obtain ⟨fs, hGa, hl, rfl⟩ := g_put_spec hv
  obtain ⟨q0, hq⟩ := hR _ _ hGa
  exact va_putN (D := dd) hx hb hts hin ty hty hnm hown hK.1 hP hD hS q0 hq hc k hk (va_Nw.use rfl (hK.2.2.2.1 _ hlink)) (fun _ h => h) hfin hd hn hfit hl hdg (fun H1 locs1 hP1 hD1 hS1 => kk H1 locs1 ⟨⟨_, hP1, hD1, hR.set (e1 := .inr (.inr (.inr (ci, fs.set k v)))) hD hq⟩, hS1, hX⟩)
theorem g_ob_gj {C R : gH} {a ci : Nat} {u : Unit} (h : g_ob C a ci = some u) : g_ob (gj C R) a ci = some u := by
  obtain ⟨fs, hC⟩ := g_ob_spec h
  have := gj_l (R := R) hC
  unfold g_ob
  rw [this]
  simp
end GXR

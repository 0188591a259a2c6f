/-! The law's start. -/
section
variable {p : Program} {l : Launch} {e : Env} {R : Room} {s : State} {m : MethodId} {args : Array Value} {below : List Frame} {meth : Method} {c : Code} {H : Heap} {locs : List Loc} {cells slots : Nat} {Q : State → Prop} {pc : Nat} {ls : Array Slot} {rest : List Value} {cc : ByteArray} {lo : Nat} {dd : va_G} {cT : Nat → ClassId} {G : gH}
set_option maxHeartbeats 1000000 in
theorem g_wIL (hx : p.tables.exec = Jvm.exec) (hb : c.code = cc) {nL : Nat} (hml : c.maxLocals = nL) {own : String} (hown : s.vm.findClass own = some m.cls) (hts : ∀ w ∈ wsL_law, w.before args s = true) (hK : g_K dd cT s) (hlo : lo ≤ s.heap.size) (hG : g_S lo dd cT s H locs G) {y : MethodName} {by_ : ByteArray} {mL fr lc mc ms index n : Nat} {As : List Value}  {K : gH → Prop} {b : Nat}
    (hM : Met l y (Cond.code y by_ mL none :: wsL_law) (g_rm fr lc mc ms) (va_Pc (.ref b :: As) (g_Pre lo dd cT G)) (va_Qv K (g_Pre lo dd cT) (g_A lo)) mc ms (g_A lo))
    (h1 : Cond.methodLink own index y ∈ wsL_law) (h2 : Cond.instanceMethod y ∈ wsL_law) (hnm : y.name = "<init>") (h4 : Cond.initialized y.cls ∈ wsL_law) (h5 : Cond.code y by_ mL none ∈ wsL_law)
    (hd : y.cls ≠ "java/lang/invoke/MethodHandle" ∧ y.cls ≠ "java/lang/invoke/VarHandle" ∧ (parseMethodDescriptor y.desc).map (fun d => d.parameters.length) = some n) (hR : fr + 1 ≤ R.frames ∧ 8 + (mL + 11) + lc ≤ R.locals)
    {st0 : List Value} (hn : As.length = n) (hsz : ls.size = nL) (hst : st0 = As.reverse ++ .ref b :: rest) (hro : (rest.map fun v => v.category).sum ≤ 8) (hdg : decode cc pc = .ok (.invokespecial index, 3)) (hf : cells + mc ≤ R.cells ∧ slots + ms ≤ R.slots)
    (kk : ∀ (G1 : gH) (H1 : Heap) (locs1 : List Loc), K G1 → g_S lo dd cT s H1 locs1 G1 → W p l e R s m args below meth c H1 locs1 (cells + mc) (slots + ms) Q (F0 m (pc + 3) ls (rest))) : W p l e R s m args below meth c H locs cells slots Q (F0 m pc ls st0) := by
  have hG0 := hG
  obtain ⟨⟨ws, hP, hD, hR0⟩, hS, hX⟩ := hG0
  have hT : GoodIn wsL_law (Cond.code y by_ mL none :: wsL_law) := by
    intro w hw
    simp only [List.mem_cons] at hw
    rcases hw with rfl | hw
    · exact g_goodIn _ h5
    · exact g_goodIn _ hw
  refine va_callv (A1 := g_A lo) (free := g_A lo) (va_runI ⟨hx, hb, hml, hown, hts⟩ hM (cwI n hts hT rfl rfl rfl (hts _ h4) (hts _ h1) (hts _ h2) hnm hd hR) ⟨g_Pre.blind, fun U hU hW => ⟨rfl, by rw [hU]; exact Nat.le_trans hlo hS.1, by rw [hU]; exact ⟨ws, hP, hD, hR0⟩, hK.moved hW, hX.next hS hU hW⟩⟩ rfl hn hsz hst (lv_room hro) hdg hf) hS (fun q _ h => h) (fun q h => h) (fun u t H1 locs1 ht hvm hw hB hz1 hk1 hS1 => by exact kk u H1 locs1 hw ⟨by rw [← ht]; exact hB.2.1, hS1, hX⟩)
end
set_option maxRecDepth 20000 in
set_option maxHeartbeats 8000000 in
theorem law_start {p : Program} {l : Launch} {e : Env} {S : State} {m : MethodId} {args : Array Value} {below : List Frame} {meth : Method} {c : Code} {Q : State → Prop} {dd : va_G} {cT : Nat → ClassId} {b L : Nat} {xs : Nat → Int32} (hfl : l.stackTraces = false) (hx : p.tables.exec = Jvm.exec) (hb : c.code = cL_law) (hml : c.maxLocals = 9) (hown : S.vm.findClass RL = some m.cls) (hts : ∀ w ∈ wsL_law, w.before args S = true) (hK : g_K dd cT S) (hG : g_S S.heap.size dd cT S S.heap [] (fun _ => none)) (hX : va_X b L xs S S.heap) (hbl : b < S.heap.size) (hL : L ≤ 3072) (fin : ∀ (H : Heap) (ls : Array Slot), W p l e room_1 S m args below meth c H [] 601024 7293034 Q (F0 m 1790 ls [.int 1])) {ls : Array Slot} (hl : lv_has ls 9 [(0, .ref b)]) : W p l e room_1 S m args below meth c S.heap [] 0 0 Q (F0 m 0 ls []) := by
  obtain ⟨lo, hlo⟩ : ∃ lo, lo = S.heap.size := ⟨_, rfl⟩
  rw [← hlo] at hG
  have hlo' : lo ≤ S.heap.size := by omega
  refine g_new (ci := 9) (fs := [.null, .null, .null, .null, .null, .null, .null]) hx hb hts inlX9 tyX9 tyX9_ok hown hK hlo' hG rfl qL_L_8 qA_X9 qN_X9 (fun j hj => by rcases (show j = 0 ∨ j = 1 ∨ j = 2 ∨ j = 3 ∨ j = 4 ∨ j = 5 ∨ j = 6 by omega) with rfl | rfl | rfl | rfl | rfl | rfl | rfl <;> rfl) ⟨Nat.le_of_ble_eq_true rfl, Nat.le_of_ble_eq_true rfl⟩ dL_law_0 (fun ax H z9 hG => ?_)
  refine lv_dup hx hb dL_law_3 rfl ?_
  refine g_wIL (b := ax) (As := []) (rest := [.ref ax]) (n := 0) (K := fun G1 => ∃ E σ, zW1 E σ ∧ zL E 2 0 0 = ax ∧ G1 = zH E σ) hx hb hml hown hts hK hlo' hG (m_X9_init l dd cT lo _ ax (z_start9 (fun E σ w e => ⟨E, σ, w, e, rfl⟩))) qM_L_86 qI_yX9_init rfl qN_X9 qC_yX9_init (by decide +kernel) ⟨Nat.le_of_ble_eq_true rfl, Nat.le_of_ble_eq_true rfl⟩ rfl hl.1 rfl (Nat.le_of_ble_eq_true rfl) dL_law_4 ⟨Nat.le_of_ble_eq_true rfl, Nat.le_of_ble_eq_true rfl⟩ (fun G1 H locs h1 hG => ?_)
  obtain ⟨E, σ, w, rfl, rfl⟩ := h1
  refine lv_astore_n (lv' := [(1, .ref (zL E 2 0 0)), (0, .ref b)]) hx hb dL_law_7 rfl hl (by decide) rfl (fun ls hl => ?_)
  refine g_new (ci := 10) (fs := [.int 0, .null, .null, .null, .int 0, .int 0, .int 0, .int 0, .int 0, .int 0, .long 0, .int 0, .int 0, .int 0, .null, .null, .int 0, .null, .int 0, .int 0, .int 0, .null, .int 0, .null, .int 0, .null, .null, .null]) hx hb hts inlX10 tyX10 tyX10_ok hown hK hlo' hG rfl qL_L_87 qA_X10 qN_X10 (fun j hj => by rcases (show j = 0 ∨ j = 1 ∨ j = 2 ∨ j = 3 ∨ j = 4 ∨ j = 5 ∨ j = 6 ∨ j = 7 ∨ j = 8 ∨ j = 9 ∨ j = 10 ∨ j = 11 ∨ j = 12 ∨ j = 13 ∨ j = 14 ∨ j = 15 ∨ j = 16 ∨ j = 17 ∨ j = 18 ∨ j = 19 ∨ j = 20 ∨ j = 21 ∨ j = 22 ∨ j = 23 ∨ j = 24 ∨ j = 25 ∨ j = 26 ∨ j = 27 by omega) with rfl | rfl | rfl | rfl | rfl | rfl | rfl | rfl | rfl | rfl | rfl | rfl | rfl | rfl | rfl | rfl | rfl | rfl | rfl | rfl | rfl | rfl | rfl | rfl | rfl | rfl | rfl | rfl <;> rfl) ⟨Nat.le_of_ble_eq_true rfl, Nat.le_of_ble_eq_true rfl⟩ dL_law_8 (fun am H z10 hG => ?_)
  refine lv_dup hx hb dL_law_11 rfl ?_
  refine g_wIL (b := am) (As := []) (rest := [.ref am]) (n := 0) (K := fun G1 => ∃ E' σ', zW2 E' σ' ∧ zL E' 2 0 0 = zL E 2 0 0 ∧ zL E' 3 0 0 = am ∧ G1 = zH E' σ') hx hb hml hown hts hK hlo' hG (m_X10_init l dd cT lo _ am (z_start10 w z10 (fun E' σ' w2 e1 e2 => ⟨E', σ', w2, e1, e2, rfl⟩))) qM_L_89 qI_yX10_init rfl qN_X10 qC_yX10_init (by decide +kernel) ⟨Nat.le_of_ble_eq_true rfl, Nat.le_of_ble_eq_true rfl⟩ rfl hl.1 rfl (Nat.le_of_ble_eq_true rfl) dL_law_12 ⟨Nat.le_of_ble_eq_true rfl, Nat.le_of_ble_eq_true rfl⟩ (fun G1 H locs h1 hG => ?_)
  obtain ⟨E', σ', w2, e1, rfl, rfl⟩ := h1
  rw [← e1] at hl
  refine lv_astore_n (lv' := [(2, .ref (zL E' 3 0 0)), (1, .ref (zL E' 2 0 0)), (0, .ref b)]) hx hb dL_law_15 rfl hl (by decide) rfl (fun ls hl => ?_)
  refine lv_iconst (v := (1 : Int32)) hx hb dL_law_16 (by decide) ?_
  refine g_newaj (N := 1) hx hb hts hK hlo' hG (by decide) (by decide) (Nat.le_of_ble_eq_true rfl) ⟨Nat.le_of_ble_eq_true rfl, Nat.le_of_ble_eq_true rfl⟩ dL_law_17 (fun ao H z4 hG => ?_)
  have hg := z_start4 w2 z4
  refine lv_astore_n (lv' := [(3, .ref ao), (2, .ref (zL E' 3 0 0)), (1, .ref (zL E' 2 0 0)), (0, .ref b)]) hx hb dL_law_19 rfl hl (by decide) rfl (fun ls hl => ?_)
  refine lv_iconst (v := (0 : Int32)) hx hb dL_law_20 (by decide) ?_
  refine lv_istore (lv' := [(4, .int 0), (3, .ref ao), (2, .ref (zL E' 3 0 0)), (1, .ref (zL E' 2 0 0)), (0, .ref b)]) hx hb dL_law_21 hl (by decide) rfl (fun ls hl => ?_)
  exact law_loop hfl hx hb hml hown hts hK hlo hX hbl hL fin 513 0 _ _ _ _ _ ls (by omega) (by omega) (Nat.le_of_ble_eq_true rfl) (Nat.le_of_ble_eq_true rfl) hG hg (lv_sub hl [4, 3, 2, 1, 0] rfl)

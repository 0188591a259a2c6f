/-! The law's start and its loop: at most three runs. By program (wip/p34/tools/lawstart34.py). -/
theorem vp_zI {j : Int} {L : Nat} (h0 : 0 ≤ j) (h1 : j < L) (hL : L ≤ 4000) : vp_in (zI j) L := by
  unfold vp_in
  rw [show (0 : Int32) = zI 0 from rfl, zI_lt (by omega) (by omega) (by omega) (by omega), zI_nat (by omega) (by omega)]
  omega
def y_cl : Nat → Nat
  | 0 => 0
  | k + 1 => y_cl k + 80001
def y_sl : Nat → Nat
  | 0 => 0
  | k + 1 => y_sl k + 1200001
theorem y_r1 {a b w r : Nat} (h : a + (b + (w + 1)) ≤ r) : a + 1 ≤ r := by omega
theorem y_r2 {a b w r : Nat} (h : a + (b + (w + 1)) ≤ r) : a + 1 + w ≤ r := by omega
theorem y_r3 {a b w r : Nat} (h : a + (b + (w + 1)) ≤ r) : a + 1 + w + b ≤ r := by omega
theorem y_r4 {a b r : Nat} (h : a + b ≤ r) : a ≤ r := by omega
def y_lp (o : Nat) (G : gH) : Prop := ∃ A T n, yJ G A (fun _ => none) T ∧ yCo A o n
set_option maxRecDepth 200000 in
set_option maxHeartbeats 8000000 in
theorem law_loop {p : Program} {l : Launch} {e : Env} {s : State} {m : MethodId} {args : Array Value} {below : List Frame} {meth : Method} {c : Code} {Q : State → Prop} {lo : Nat → Prop} {dd : va_G} {cT : Nat → ClassId} {b L o : Nat} {xs : Nat → Int32} (hfl : l.stackTraces = false) (hx : p.tables.exec = Jvm.exec) (hb : c.code = cL_law) (hml : c.maxLocals = 4) (hown : s.vm.findClass RL = some m.cls) (hts : ∀ w ∈ wsL_law, w.before args s = true) (hK : g_K dd cT s) (hlo : ∀ q, lo q ↔ s.heap.size ≤ q) (hX : va_X b L xs s s.heap) (hbl : b < s.heap.size) (hL : L ≤ 260) (fin : ∀ (H : Heap) (ls : Array Slot), W p l e room_1 s m args below meth c H [] 300892 8199023 Q (F0 m 48 ls [.int 1])) : ∀ (k i cells slots : Nat) (H : Heap) (locs : List Loc) (G : gH) (ls : Array Slot), i + k = 3 → cells + y_cl k ≤ 300892 → slots + y_sl k ≤ 8199023 → g_S lo dd cT s H locs G → y_lp o G → lv_has ls 4 [(0, .ref b), (1, .ref o), (2, .int (zI (L : Int))), (3, .int (zI (i : Int)))] → W p l e room_1 s m args below meth c H locs cells slots Q (F0 m 13 ls []) := by
  have hbA : ¬ g_A lo b := fun h => absurd ((hlo b).mp h) (by omega)
  have hlo' : g_le lo s.heap.size := fun q hq => (hlo q).mpr hq
  have hrc : room_1.cells = 300892 := rfl
  have hrs : room_1.slots = 8199023 := rfl
  have out : ∀ (cells slots : Nat) (H : Heap) (locs : List Loc) (G : gH) (ls : Array Slot), cells ≤ 300892 → slots ≤ 8199023 → g_S lo dd cT s H locs G → W p l e room_1 s m args below meth c H locs cells slots Q (F0 m 47 ls []) := by
    intro cells slots H locs G ls hc hs hG
    refine lv_iconst (v := (1 : Int32)) hx hb dL_law_47 (by decide) ?_
    refine va_forget (fun q hq => (hlo _).mp (hG.2.1.2.2 q hq)) ?_
    refine W.widen (k := 300892) (n := 8199023) hc hs ?_
    exact fin H ls
  intro k
  induction k with
  | zero =>
    intro i cells slots H locs G ls h1 h2 h3 hG hg hl
    obtain rfl : i = 3 := by omega
    refine lv_iload_n hx hb dL_law_13 rfl (lv_at hl 3 rfl) ?_
    refine lv_iload_n hx hb dL_law_14 rfl (lv_at hl 2 rfl) ?_
    refine lv_icmp_ge (tgt := 47) hx hb dL_law_15 (by decide) (fun _ => ?_) (fun _ => ?_)
    · exact out _ _ _ _ _ _ (y_r4 h2) (y_r4 h3) hG
    refine lv_iload_n hx hb dL_law_18 rfl (lv_at hl 3 rfl) ?_
    refine lv_iconst (v := (3 : Int32)) hx hb dL_law_19 (by decide) ?_
    refine lv_icmp_ge (tgt := 47) hx hb dL_law_20 (by decide) (fun _ => ?_) (fun c9 => ?_)
    · exact out _ _ _ _ _ _ (y_r4 h2) (y_r4 h3) hG
    · exact absurd (show (3 : Int32) ≤ zI ((3 : Nat) : Int) by decide) c9
  | succ k ih =>
    intro i cells slots H locs G ls h1 h2 h3 hG hg hl
    have h4 : cells + (y_cl k + (80000 + 1)) ≤ room_1.cells := h2
    have h5 : slots + (y_sl k + (1200000 + 1)) ≤ room_1.slots := h3
    refine lv_iload_n hx hb dL_law_13 rfl (lv_at hl 3 rfl) ?_
    refine lv_iload_n hx hb dL_law_14 rfl (lv_at hl 2 rfl) ?_
    refine lv_icmp_ge (tgt := 47) hx hb dL_law_15 (by decide) (fun _ => ?_) (fun c9 => ?_)
    · exact out _ _ _ _ _ _ (y_r4 h2) (y_r4 h3) hG
    rw [zI_le (by omega) (by omega) (by omega) (by omega)] at c9
    refine lv_iload_n hx hb dL_law_18 rfl (lv_at hl 3 rfl) ?_
    refine lv_iconst (v := (3 : Int32)) hx hb dL_law_19 (by decide) ?_
    refine lv_icmp_ge (tgt := 47) hx hb dL_law_20 (by decide) (fun _ => ?_) (fun _ => ?_)
    · exact out _ _ _ _ _ _ (y_r4 h2) (y_r4 h3) hG
    obtain ⟨A, T, n, hJ, hA⟩ := hg
    refine lv_aload_n hx hb dL_law_23 rfl (lv_at hl 1 rfl) ?_
    refine lv_iconst (v := (1 : Int32)) hx hb dL_law_24 (by decide) ?_
    refine g_newai (N := 1) hx hb hts hK hlo' hG (by decide) (by decide) (Nat.le_of_ble_eq_true rfl) ⟨y_r1 h4, y_r1 h5⟩ dL_law_25 (fun q H z4 hG => ?_)
    refine lv_dup hx hb dL_law_27 rfl ?_
    refine lv_iconst (v := (0 : Int32)) hx hb dL_law_28 (by decide) ?_
    refine lv_aload_n hx hb dL_law_29 rfl (lv_at hl 0 rfl) ?_
    refine lv_iload_n hx hb dL_law_30 rfl (lv_at hl 3 rfl) ?_
    refine va_sld hx hb hX hbl hbA hG.2.1 (vp_zI (by omega) (by omega) (by omega)) dL_law_31 ?_
    have hn := hJ.no z4
    have ha : g_ast 0 (va_up G q (some (.inl (0, 1, fun _ => 0)))) q (0 : Int32) (xs (zI (i : Int)).toNatClampNeg) = some (va_up (va_up G q (some (.inl (0, 1, fun _ => 0)))) q (some (.inl (0, 1, upd (fun _ => 0) 0 (xs (zI (i : Int)).toNatClampNeg))))) := by
      unfold g_ast
      rw [gva_at]
      simp only []
      rw [if_pos ⟨by first | rfl | trivial, by decide⟩]
      rfl
    refine g_iast hx hb hK hG ha dL_law_32 (fun H locs hG => ?_)
    have hJ1 := hJ.upT hn.1 hn.2.1 (some (.inl (0, 1, fun _ => 0)))
    have hJ2 := hJ1.upT hn.1 hn.2.1 (some (.inl (0, 1, upd (fun _ => 0) 0 (xs (zI (i : Int)).toNatClampNeg))))
    refine g_wAi (As := [.ref o, .ref q]) (rest := []) (n := 2) (K := fun r G' => r = 1 ∧ y_lp o G') hx hb hml hown hts hK hlo' hG (m_L_plays 80000 1200000 l hfl dd cT lo _ o q (y_plays hJ2 hA gva_at (fun e' G' n' hT => by
      obtain ⟨A', B', T', f', hJ', hA', -, -, -⟩ := hT
      exact ⟨rfl, A', _, n', hJ'.fold, hA'⟩))) qM_L_26 qT_yL_plays qN_L qC_yL_plays (by decide +kernel) ⟨Nat.le_of_ble_eq_true rfl, Nat.le_of_ble_eq_true rfl⟩ rfl hl.1 rfl (Nat.le_of_ble_eq_true rfl) dL_law_33 ⟨y_r2 h4, y_r2 h5⟩ (fun r G' H locs hr hG => ?_)
    obtain ⟨rfl, hg'⟩ := hr
    refine lv_if_ne (tgt := 41) hx hb dL_law_36 (by decide) (fun _ => ?_) (fun c9 => ?_)
    · have e6 : zI (i : Int) + Int32.ofInt 1 = zI ((i + 1 : Nat) : Int) := by
        show zI (i : Int) + zI 1 = _
        rw [zI_add]
        congr 1
      refine lv_iinc (v := zI ((i + 1 : Nat) : Int)) (lv' := [(3, .int (zI ((i + 1 : Nat) : Int))), (0, .ref b), (1, .ref o), (2, .int (zI (L : Int)))]) hx hb dL_law_41 hl (k := 3) rfl e6 (by decide) rfl (fun ls hl => ?_)
      refine lv_goto (tgt := 13) hx hb dL_law_44 (by decide) ?_
      exact ih (i + 1) _ _ H locs G' ls (by omega) (y_r3 h4) (y_r3 h5) hG hg' (lv_sub hl [1, 2, 3, 0] rfl)
    · exact absurd c9 (by decide)
set_option maxRecDepth 20000 in
set_option maxHeartbeats 8000000 in
theorem law_start {p : Program} {l : Launch} {e : Env} {s : State} {m : MethodId} {args : Array Value} {below : List Frame} {meth : Method} {c : Code} {Q : State → Prop} {lo : Nat → Prop} {dd : va_G} {cT : Nat → ClassId} {b L : Nat} {xs : Nat → Int32} (hfl : l.stackTraces = false) (hx : p.tables.exec = Jvm.exec) (hb : c.code = cL_law) (hml : c.maxLocals = 4) (hown : s.vm.findClass RL = some m.cls) (hts : ∀ w ∈ wsL_law, w.before args s = true) (hK : g_K dd cT s) (hlo : ∀ q, lo q ↔ s.heap.size ≤ q) (hX : va_X b L xs s s.heap) (hbl : b < s.heap.size) (hL : L ≤ 260) (hG : g_S lo dd cT s s.heap [] (fun _ => none)) (fin : ∀ (H : Heap) (ls : Array Slot), W p l e room_1 s m args below meth c H [] 300892 8199023 Q (F0 m 48 ls [.int 1])) {ls : Array Slot} (hl : lv_has ls 4 [(0, .ref b)]) : W p l e room_1 s m args below meth c s.heap [] 0 0 Q (F0 m 0 ls []) := by
  have hbA : ¬ g_A lo b := fun h => absurd ((hlo b).mp h) (by omega)
  have hlo' : g_le lo s.heap.size := fun q hq => (hlo q).mpr hq
  refine g_new (ci := 9) (fs := [.null, .null, .null, .null, .null, .null, .null]) hx hb hts inlX9 tyX9 tyX9_ok hown hK hlo' hG rfl qL_L_18 qA_X9 qN_X9 (fun j hj => by rcases (show j = 0 ∨ j = 1 ∨ j = 2 ∨ j = 3 ∨ j = 4 ∨ j = 5 ∨ j = 6 by omega) with rfl | rfl | rfl | rfl | rfl | rfl | rfl <;> rfl) ⟨Nat.le_of_ble_eq_true rfl, Nat.le_of_ble_eq_true rfl⟩ dL_law_0 (fun ax H z9 hG => ?_)
  refine lv_dup hx hb dL_law_3 rfl ?_
  refine g_wIP (b := ax) (As := []) (rest := [.ref ax]) (n := 0) (K := fun G1 => yCo G1 ax (nFm 8 0)) hx hb hml hown hts hK hlo' hG (m_X9_init l dd cT lo _ ax (y_start9 (fun A h => h))) qM_L_25 qI_yX9_init rfl qN_X9 qC_yX9_init (by decide +kernel) ⟨Nat.le_of_ble_eq_true rfl, Nat.le_of_ble_eq_true rfl⟩ rfl hl.1 rfl (Nat.le_of_ble_eq_true rfl) dL_law_4 ⟨Nat.le_of_ble_eq_true rfl, Nat.le_of_ble_eq_true rfl⟩ (fun G1 H locs h1 hG => ?_)
  refine lv_astore_n (lv' := [(1, .ref ax), (0, .ref b)]) hx hb dL_law_7 rfl hl (by decide) rfl (fun ls hl => ?_)
  refine lv_aload_n hx hb dL_law_8 rfl (lv_at hl 1 rfl) ?_
  refine va_slen hx hb hX hbl hbA hG.2.1 dL_law_9 ?_
  rw [zI_ofNat]
  refine lv_istore_n (lv' := [(2, .int (zI (L : Int))), (1, .ref ax), (0, .ref b)]) hx hb dL_law_10 rfl hl (by decide) rfl (fun ls hl => ?_)
  refine lv_iconst (v := (0 : Int32)) hx hb dL_law_11 (by decide) ?_
  refine lv_istore_n (lv' := [(3, .int 0), (2, .int (zI (L : Int))), (1, .ref ax), (0, .ref b)]) hx hb dL_law_12 rfl hl (by decide) rfl (fun ls hl => ?_)
  refine law_loop hfl hx hb hml hown hts hK hlo hX hbl hL fin 3 0 _ _ H locs G1 ls (by omega) (Nat.le_of_ble_eq_true rfl) (Nat.le_of_ble_eq_true rfl) hG ⟨G1, fun _ => none, _, ⟨?_, fun _ => Or.inr rfl, fun _ => Or.inr rfl, fun _ => Or.inr rfl⟩, h1⟩ (lv_sub hl [3, 2, 1, 0] rfl)
  funext a
  unfold gj
  cases G1 a <;> rfl

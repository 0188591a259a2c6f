/-! The law's loop. -/
theorem z31 (x : Int32) : 0 ≤ (x &&& 31).toInt ∧ (x &&& 31).toInt ≤ 31 := by
  have h1 : (x &&& 31).toBitVec.toNat ≤ 31 := by
    rw [Int32.toBitVec_and, BitVec.toNat_and]
    exact Nat.and_le_right
  have h2 : (x &&& 31).toInt = ((x &&& 31).toBitVec.toNat : Int) := by
    show (x &&& 31).toBitVec.toInt = _
    rw [BitVec.toInt_eq_toNat_cond, if_pos (by omega)]
  omega
theorem vp_zI {j : Int} {L : Nat} (h0 : 0 ≤ j) (h1 : j < L) (hL : L ≤ 4000) : vp_in (zI j) L := by
  unfold vp_in
  rw [show (0 : Int32) = zI 0 from rfl, zI_lt (by omega) (by omega) (by omega) (by omega), zI_nat (by omega) (by omega)]
  omega
set_option maxRecDepth 20000 in
set_option maxHeartbeats 8000000 in
theorem law_loop {p : Program} {l : Launch} {e : Env} {s : State} {m : MethodId} {args : Array Value} {below : List Frame} {meth : Method} {c : Code} {Q : State → Prop} {lo : Nat} {dd : va_G} {cT : Nat → ClassId} {b L ax am ao : Nat} {xs : Nat → Int32} (hfl : l.stackTraces = false) (hx : p.tables.exec = Jvm.exec) (hb : c.code = cL_law) (hml : c.maxLocals = 9) (hown : s.vm.findClass RL = some m.cls) (hts : ∀ w ∈ wsL_law, w.before args s = true) (hK : g_K dd cT s) (hlo : lo = s.heap.size) (hX : va_X b L xs s s.heap) (hbl : b < s.heap.size) (hL : L ≤ 3072) (fin : ∀ (H : Heap) (ls : Array Slot), W p l e room_1 s m args below meth c H [] 601024 7293034 Q (F0 m 1790 ls [.int 1])) : ∀ (n i cells slots : Nat) (H : Heap) (locs : List Loc) (G : gH) (ls : Array Slot), L < i + 6 * n → i ≤ 3080 → cells + 40 * n ≤ 601024 → slots + 2000 * n ≤ 7293034 → g_S lo dd cT s H locs G → zGd ax am ao G → lv_has ls 9 [(0, .ref b), (1, .ref ax), (2, .ref am), (3, .ref ao), (4, .int (zI (i : Int)))] → W p l e room_1 s m args below meth c H locs cells slots Q (F0 m 23 ls []) := by
  have hbA : ¬ g_A lo b := by rw [hlo]; exact Nat.not_le.mpr hbl
  have hlo' : lo ≤ s.heap.size := by omega
  have hrc : room_1.cells = 601024 := rfl
  have hrs : room_1.slots = 7293034 := rfl
  have hR : 12 ≤ room_1.frames ∧ 300 ≤ room_1.locals := ⟨Nat.le_of_ble_eq_true rfl, Nat.le_of_ble_eq_true rfl⟩
  -- the head: out of the loop, or into it
  have head : ∀ (i cells slots : Nat) (H : Heap) (locs : List Loc) (G : gH) (ls : Array Slot), i ≤ 3090 → cells ≤ 601024 → slots ≤ 7293034 → g_S lo dd cT s H locs G → lv_has ls 9 [(0, .ref b), (1, .ref ax), (2, .ref am), (3, .ref ao), (4, .int (zI (i : Int)))] → (i + 6 ≤ L → W p l e room_1 s m args below meth c H locs cells slots Q (F0 m 33 ls [])) → W p l e room_1 s m args below meth c H locs cells slots Q (F0 m 23 ls []) := by
    intro i cells slots H locs G ls hi hc hs hG hl body
    refine lv_iload hx hb dL_law_23 (lv_at hl 4 rfl) ?_
    refine lv_aload_n hx hb dL_law_25 rfl (lv_at hl 0 rfl) ?_
    refine va_slen hx hb hX hbl hbA hG.2.1 dL_law_26 ?_
    refine lv_bipush (v := (6 : Int32)) hx hb dL_law_27 (by decide) ?_
    refine lv_isub hx hb dL_law_29 ?_
    have e1 : Int32.ofNat L - (6 : Int32) = zI ((L : Int) - 6) := by
      rw [zI_ofNat, show (6 : Int32) = zI 6 from rfl, zI_sub]
    rw [e1]
    refine lv_icmp_gt (tgt := 1789) hx hb dL_law_30 (by decide) (fun _ => ?_) (fun c9 => ?_)
    · refine lv_iconst (v := (1 : Int32)) hx hb dL_law_1789 (by decide) ?_
      refine va_forget (fun q hq => by have := hG.2.1.2.2 q hq; rw [hlo] at this; exact this) ?_
      refine W.widen (k := 601024) (n := 7293034) hc hs ?_
      exact fin H ls
    · rw [zI_lt (by omega) (by omega) (by omega) (by omega)] at c9
      exact body (by omega)
  intro n
  induction n with
  | zero =>
    intro i cells slots H locs G ls h1 h2 h3 h4 hG hg hl
    exact head i cells slots H locs G ls (by omega) (by omega) (by omega) hG hl (fun h => absurd h (by omega))
  | succ n ih =>
    intro i cells slots H locs G ls h1 h2 h3 h4 hG hg hl
    refine head i cells slots H locs G ls (by omega) (by omega) (by omega) hG hl (fun hi6 => ?_)
    have hj : ∀ k : Int32, k ∈ ([1, 2, 3, 4, 5] : List Int32) → vp_in (zI (i : Int) + k) L := by
      intro k hk
      have hk5 : k = (1 : Int32) ∨ k = (2 : Int32) ∨ k = (3 : Int32) ∨ k = (4 : Int32) ∨ k = (5 : Int32) := by simpa using hk
      have hk5 : k = zI 1 ∨ k = zI 2 ∨ k = zI 3 ∨ k = zI 4 ∨ k = zI 5 := hk5
      rcases hk5 with rfl | rfl | rfl | rfl | rfl <;> rw [zI_add] <;> exact vp_zI (by omega) (by omega) (by omega)
    have hf : cells + 40 ≤ room_1.cells ∧ slots + 2000 ≤ room_1.slots := by omega
    have next : ∀ (H1 : Heap) (locs1 : List Loc) (G1 : gH) (ls1 : Array Slot), g_S lo dd cT s H1 locs1 G1 → zGd ax am ao G1 → lv_has ls1 9 [(0, .ref b), (1, .ref ax), (2, .ref am), (3, .ref ao), (4, .int (zI (i : Int)))] → W p l e room_1 s m args below meth c H1 locs1 (cells + 40) (slots + 2000) Q (F0 m 1783 ls1 []) := by
      intro H1 locs1 G1 ls1 hG hg hl
      have e6 : zI (i : Int) + Int32.ofInt 6 = zI ((i + 6 : Nat) : Int) := by
        show zI (i : Int) + zI 6 = _
        rw [zI_add]
        congr 1
      refine lv_iinc (v := zI ((i + 6 : Nat) : Int)) (lv' := [(4, .int (zI ((i + 6 : Nat) : Int))), (0, .ref b), (1, .ref ax), (2, .ref am), (3, .ref ao)]) hx hb dL_law_1783 hl (k := 4) rfl e6 (by decide) rfl (fun ls hl => ?_)
      refine lv_goto (tgt := 23) hx hb dL_law_1786 (by decide) ?_
      exact ih (i + 6) (cells + 40) (slots + 2000) H1 locs1 G1 ls (by omega) (by omega) (by omega) (by omega) hG hg (lv_sub hl [1, 2, 3, 4, 0] rfl)
    refine lv_aload_n hx hb dL_law_33 rfl (lv_at hl 0 rfl) ?_
    refine lv_iload hx hb dL_law_34 (lv_at hl 4 rfl) ?_
    refine va_sld hx hb hX hbl hbA hG.2.1 (vp_zI (by omega) (by omega) (by omega)) dL_law_36 ?_
    refine lv_bipush (v := (31 : Int32)) hx hb dL_law_37 (by decide) ?_
    refine lv_iand hx hb dL_law_39 ?_
    obtain ⟨v, hv⟩ : ∃ v, v = xs (zI (i : Int)).toNatClampNeg &&& 31 := ⟨_, rfl⟩
    have hv31 := z31 (xs (zI (i : Int)).toNatClampNeg)
    rw [← hv] at hv31 ⊢
    have hcs : v.toInt = 0 ∨ v.toInt = 1 ∨ v.toInt = 2 ∨ v.toInt = 3 ∨ v.toInt = 4 ∨ v.toInt = 5 ∨ v.toInt = 6 ∨ v.toInt = 7 ∨ v.toInt = 8 ∨ v.toInt = 9 ∨ v.toInt = 10 ∨ v.toInt = 11 ∨ v.toInt = 12 ∨ v.toInt = 13 ∨ v.toInt = 14 ∨ v.toInt = 15 ∨ v.toInt = 16 ∨ v.toInt = 17 ∨ v.toInt = 18 ∨ v.toInt = 19 ∨ v.toInt = 20 ∨ v.toInt = 21 ∨ v.toInt = 22 ∨ v.toInt = 23 ∨ v.toInt = 24 ∨ v.toInt = 25 ∨ v.toInt = 26 ∨ v.toInt = 27 ∨ v.toInt = 28 ∨ v.toInt = 29 ∨ v.toInt = 30 ∨ v.toInt = 31 := by omega
    rcases hcs with hk | hk | hk | hk | hk | hk | hk | hk | hk | hk | hk | hk | hk | hk | hk | hk | hk | hk | hk | hk | hk | hk | hk | hk | hk | hk | hk | hk | hk | hk | hk | hk
    · refine lv_tableIn (off := 140) (tgt := 180) hx hb dL_law_40 (by omega) (by omega) (by rw [hk]; rfl) (by decide) ?_
      exact lc_append hfl hx hb hml hown hts hK hlo' hX hbl hbA hR hf hG hg hj hl next
    · refine lv_tableIn (off := 213) (tgt := 253) hx hb dL_law_40 (by omega) (by omega) (by rw [hk]; rfl) (by decide) ?_
      exact lc_parse hfl hx hb hml hown hts hK hlo' hX hbl hbA hR hf hG hg hj hl next
    · refine lv_tableIn (off := 269) (tgt := 309) hx hb dL_law_40 (by omega) (by omega) (by rw [hk]; rfl) (by decide) ?_
      exact lc_errorPosition hfl hx hb hml hown hts hK hlo' hX hbl hbA hR hf hG hg hj hl next
    · refine lv_tableIn (off := 282) (tgt := 322) hx hb dL_law_40 (by omega) (by omega) (by rw [hk]; rfl) (by decide) ?_
      exact lc_size hfl hx hb hml hown hts hK hlo' hX hbl hbA hR hf hG hg hj hl next
    · refine lv_tableIn (off := 338) (tgt := 378) hx hb dL_law_40 (by omega) (by omega) (by rw [hk]; rfl) (by decide) ?_
      exact lc_find hfl hx hb hml hown hts hK hlo' hX hbl hbA hR hf hG hg hj hl next
    · refine lv_tableIn (off := 351) (tgt := 391) hx hb dL_law_40 (by omega) (by omega) (by rw [hk]; rfl) (by decide) ?_
      exact lc_block hfl hx hb hml hown hts hK hlo' hX hbl hbA hR hf hG hg hj hl next
    · refine lv_tableIn (off := 419) (tgt := 459) hx hb dL_law_40 (by omega) (by omega) (by rw [hk]; rfl) (by decide) ?_
      exact lc_place hfl hx hb hml hown hts hK hlo' hX hbl hbA hR hf hG hg hj hl next
    · refine lv_tableIn (off := 475) (tgt := 515) hx hb dL_law_40 (by omega) (by omega) (by rw [hk]; rfl) (by decide) ?_
      exact lc_session hfl hx hb hml hown hts hK hlo' hX hbl hbA hR hf hG hg hj hl next
    · refine lv_tableIn (off := 543) (tgt := 583) hx hb dL_law_40 (by omega) (by omega) (by rw [hk]; rfl) (by decide) ?_
      exact lc_entry hfl hx hb hml hown hts hK hlo' hX hbl hbA hR hf hG hg hj hl next
    · refine lv_tableIn (off := 623) (tgt := 663) hx hb dL_law_40 (by omega) (by omega) (by rw [hk]; rfl) (by decide) ?_
      exact lc_file hfl hx hb hml hown hts hK hlo' hX hbl hbA hR hf hG hg hj hl next
    · refine lv_tableIn (off := 691) (tgt := 731) hx hb dL_law_40 (by omega) (by omega) (by rw [hk]; rfl) (by decide) ?_
      exact lc_where hfl hx hb hml hown hts hK hlo' hX hbl hbA hR hf hG hg hj hl next
    · refine lv_tableIn (off := 759) (tgt := 799) hx hb dL_law_40 (by omega) (by omega) (by rw [hk]; rfl) (by decide) ?_
      exact lc_defect hfl hx hb hml hown hts hK hlo' hX hbl hbA hR hf hG hg hj hl next
    · refine lv_tableIn (off := 812) (tgt := 852) hx hb dL_law_40 (by omega) (by omega) (by rw [hk]; rfl) (by decide) ?_
      exact lc_whyNotWrite hfl hx hb hml hown hts hK hlo' hX hbl hbA hR hf hG hg hj hl next
    · refine lv_tableIn (off := 880) (tgt := 920) hx hb dL_law_40 (by omega) (by omega) (by rw [hk]; rfl) (by decide) ?_
      exact lc_whyNot hfl hx hb hml hown hts hK hlo' hX hbl hbA hR hf hG hg hj hl next
    · refine lv_tableIn (off := 936) (tgt := 976) hx hb dL_law_40 (by omega) (by omega) (by rw [hk]; rfl) (by decide) ?_
      exact lc_couldRecover hfl hx hb hml hown hts hK hlo' hX hbl hbA hR hf hG hg hj hl next
    · refine lv_tableIn (off := 949) (tgt := 989) hx hb dL_law_40 (by omega) (by omega) (by rw [hk]; rfl) (by decide) ?_
      exact lc_risk hfl hx hb hml hown hts hK hlo' hX hbl hbA hR hf hG hg hj hl next
    · refine lv_tableIn (off := 1005) (tgt := 1045) hx hb dL_law_40 (by omega) (by omega) (by rw [hk]; rfl) (by decide) ?_
      exact lc_weakest hfl hx hb hml hown hts hK hlo' hX hbl hbA hR hf hG hg hj hl next
    · refine lv_tableIn (off := 1018) (tgt := 1058) hx hb dL_law_40 (by omega) (by omega) (by rw [hk]; rfl) (by decide) ?_
      exact lc_filesBefore hfl hx hb hml hown hts hK hlo' hX hbl hbA hR hf hG hg hj hl next
    · refine lv_tableIn (off := 1074) (tgt := 1114) hx hb dL_law_40 (by omega) (by omega) (by rw [hk]; rfl) (by decide) ?_
      exact lc_space hfl hx hb hml hown hts hK hlo' hX hbl hbA hR hf hG hg hj hl next
    · refine lv_tableIn (off := 1130) (tgt := 1170) hx hb dL_law_40 (by omega) (by omega) (by rw [hk]; rfl) (by decide) ?_
      exact lc_spaceOf hfl hx hb hml hown hts hK hlo' hX hbl hbA hR hf hG hg hj hl next
    · refine lv_tableIn (off := 1198) (tgt := 1238) hx hb dL_law_40 (by omega) (by omega) (by rw [hk]; rfl) (by decide) ?_
      exact lc_share hfl hx hb hml hown hts hK hlo' hX hbl hbA hR hf hG hg hj hl next
    · refine lv_tableIn (off := 1239) (tgt := 1279) hx hb dL_law_40 (by omega) (by omega) (by rw [hk]; rfl) (by decide) ?_
      exact lc_write hfl hx hb hml hown hts hK hlo' hX hbl hbA hR hf hG hg hj hl next
    · refine lv_tableIn (off := 1319) (tgt := 1359) hx hb dL_law_40 (by omega) (by omega) (by rw [hk]; rfl) (by decide) ?_
      exact lc_erase hfl hx hb hml hown hts hK hlo' hX hbl hbA hR hf hG hg hj hl next
    · refine lv_tableIn (off := 1375) (tgt := 1415) hx hb dL_law_40 (by omega) (by omega) (by rw [hk]; rfl) (by decide) ?_
      exact lc_close hfl hx hb hml hown hts hK hlo' hX hbl hbA hR hf hG hg hj hl next
    · refine lv_tableIn (off := 1419) (tgt := 1459) hx hb dL_law_40 (by omega) (by omega) (by rw [hk]; rfl) (by decide) ?_
      exact lc_crash hfl hx hb hml hown hts hK hlo' hX hbl hbA hR hf hG hg hj hl next
    · refine lv_tableIn (off := 1463) (tgt := 1503) hx hb dL_law_40 (by omega) (by omega) (by rw [hk]; rfl) (by decide) ?_
      exact lc_recover hfl hx hb hml hown hts hK hlo' hX hbl hbA hR hf hG hg hj hl next
    · refine lv_tableIn (off := 1507) (tgt := 1547) hx hb dL_law_40 (by omega) (by omega) (by rw [hk]; rfl) (by decide) ?_
      exact lc_scratch hfl hx hb hml hown hts hK hlo' hX hbl hbA hR hf hG hg hj hl next
    · refine lv_tableIn (off := 1570) (tgt := 1610) hx hb dL_law_40 (by omega) (by omega) (by rw [hk]; rfl) (by decide) ?_
      exact lc_setScan hfl hx hb hml hown hts hK hlo' hX hbl hbA hR hf hG hg hj hl next
    · refine lv_tableIn (off := 1611) (tgt := 1651) hx hb dL_law_40 (by omega) (by omega) (by rw [hk]; rfl) (by decide) ?_
      exact lc_undo hfl hx hb hml hown hts hK hlo' hX hbl hbA hR hf hG hg hj hl next
    · refine lv_tableIn (off := 1624) (tgt := 1664) hx hb dL_law_40 (by omega) (by omega) (by rw [hk]; rfl) (by decide) ?_
      exact lc_saveSnapshot hfl hx hb hml hown hts hK hlo' hX hbl hbA hR hf hG hg hj hl next
    · refine lv_tableIn (off := 1687) (tgt := 1727) hx hb dL_law_40 (by omega) (by omega) (by rw [hk]; rfl) (by decide) ?_
      exact lc_restoreSnapshot hfl hx hb hml hown hts hK hlo' hX hbl hbA hR hf hG hg hj hl next
    · refine lv_tableOut (tgt := 1783) hx hb dL_law_40 (Or.inr (by omega)) (by decide) ?_
      refine W.widen (k := cells + 40) (n := slots + 2000) (by omega) (by omega) ?_
      exact next _ _ _ _ hG hg hl

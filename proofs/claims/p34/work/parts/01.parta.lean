-- ===== PART A: goes FIRST, ahead of the names: the tables' words, and 'selects' of the private methods out of them =====
/-- a private method of a class that the tables say can be made, by its rows of tables_1 -/
def lw_okq (q : MethodName × Nat) : Prop := (q.1.cls ≠ "java/lang/invoke/MethodHandle" ∧ q.1.cls ≠ "java/lang/invoke/VarHandle") ∧ Cond.instantiable q.1.cls q.2 ∈ tables_1 ∧ Cond.privateMethod q.1 ∈ tables_1 ∧ Cond.instanceMethod q.1 ∈ tables_1
theorem lw_p0 : lw_okq (⟨"OnceDiscLaw$Disc", "entriesWith", "(I)I"⟩, 17) := ⟨⟨by decide +kernel, by decide +kernel⟩, List.mem_of_getElem? (i := 381) (by decide +kernel), List.mem_of_getElem? (i := 749) (by decide +kernel), List.mem_of_getElem? (i := 750) (by decide +kernel)⟩
theorem lw_p1 : lw_okq (⟨"OnceDiscLaw$Disc", "begins", "()LOnceDiscLaw$Session;"⟩, 17) := ⟨⟨by decide +kernel, by decide +kernel⟩, List.mem_of_getElem? (i := 381) (by decide +kernel), List.mem_of_getElem? (i := 773) (by decide +kernel), List.mem_of_getElem? (i := 774) (by decide +kernel)⟩
theorem lw_p2 : lw_okq (⟨"OnceDiscLaw$Disc", "burn", "(ILOnceDiscLaw$Version;I)I"⟩, 17) := ⟨⟨by decide +kernel, by decide +kernel⟩, List.mem_of_getElem? (i := 381) (by decide +kernel), List.mem_of_getElem? (i := 857) (by decide +kernel), List.mem_of_getElem? (i := 858) (by decide +kernel)⟩
theorem lw_p3 : lw_okq (⟨"OnceDiscLaw$Disc", "put", "(IILOnceDiscLaw$Version;I)V"⟩, 17) := ⟨⟨by decide +kernel, by decide +kernel⟩, List.mem_of_getElem? (i := 381) (by decide +kernel), List.mem_of_getElem? (i := 861) (by decide +kernel), List.mem_of_getElem? (i := 862) (by decide +kernel)⟩
theorem lw_p4 : lw_okq (⟨"OnceDisc$Input", "addByte", "(I)V"⟩, 2) := ⟨⟨by decide +kernel, by decide +kernel⟩, List.mem_of_getElem? (i := 41) (by decide +kernel), List.mem_of_getElem? (i := 902) (by decide +kernel), List.mem_of_getElem? (i := 903) (by decide +kernel)⟩
theorem lw_p5 : lw_okq (⟨"java/lang/Throwable", "fillInStackTrace", "(I)Ljava/lang/Throwable;"⟩, 6) := ⟨⟨by decide +kernel, by decide +kernel⟩, List.mem_of_getElem? (i := 955) (by decide +kernel), List.mem_of_getElem? (i := 953) (by decide +kernel), List.mem_of_getElem? (i := 954) (by decide +kernel)⟩
theorem lw_p6 : lw_okq (⟨"OnceDisc$Tokens", "begin", "(II)V"⟩, 5) := ⟨⟨by decide +kernel, by decide +kernel⟩, List.mem_of_getElem? (i := 62) (by decide +kernel), List.mem_of_getElem? (i := 1007) (by decide +kernel), List.mem_of_getElem? (i := 1008) (by decide +kernel)⟩
theorem lw_p7 : lw_okq (⟨"OnceDisc$Tokens", "takeLetter", "(II)V"⟩, 5) := ⟨⟨by decide +kernel, by decide +kernel⟩, List.mem_of_getElem? (i := 62) (by decide +kernel), List.mem_of_getElem? (i := 1016) (by decide +kernel), List.mem_of_getElem? (i := 1017) (by decide +kernel)⟩
theorem lw_p8 : lw_okq (⟨"OnceDisc$Tokens", "takeDigit", "(II)V"⟩, 5) := ⟨⟨by decide +kernel, by decide +kernel⟩, List.mem_of_getElem? (i := 62) (by decide +kernel), List.mem_of_getElem? (i := 1037) (by decide +kernel), List.mem_of_getElem? (i := 1038) (by decide +kernel)⟩
theorem lw_p9 : lw_okq (⟨"OnceDisc$Text", "readHead", "()Z"⟩, 15) := ⟨⟨by decide +kernel, by decide +kernel⟩, List.mem_of_getElem? (i := 56) (by decide +kernel), List.mem_of_getElem? (i := 1042) (by decide +kernel), List.mem_of_getElem? (i := 1043) (by decide +kernel)⟩
theorem lw_p10 : lw_okq (⟨"OnceDisc$Text", "isWord", "(Ljava/lang/String;)Z"⟩, 15) := ⟨⟨by decide +kernel, by decide +kernel⟩, List.mem_of_getElem? (i := 56) (by decide +kernel), List.mem_of_getElem? (i := 1047) (by decide +kernel), List.mem_of_getElem? (i := 1048) (by decide +kernel)⟩
theorem lw_p11 : lw_okq (⟨"OnceDisc$Text", "fail", "(I)Z"⟩, 15) := ⟨⟨by decide +kernel, by decide +kernel⟩, List.mem_of_getElem? (i := 56) (by decide +kernel), List.mem_of_getElem? (i := 1062) (by decide +kernel), List.mem_of_getElem? (i := 1063) (by decide +kernel)⟩
theorem lw_p12 : lw_okq (⟨"OnceDisc$Text", "readNumber", "(II)Z"⟩, 15) := ⟨⟨by decide +kernel, by decide +kernel⟩, List.mem_of_getElem? (i := 56) (by decide +kernel), List.mem_of_getElem? (i := 1066) (by decide +kernel), List.mem_of_getElem? (i := 1067) (by decide +kernel)⟩
theorem lw_p13 : lw_okq (⟨"OnceDisc$Text", "readSemicolon", "()Z"⟩, 15) := ⟨⟨by decide +kernel, by decide +kernel⟩, List.mem_of_getElem? (i := 56) (by decide +kernel), List.mem_of_getElem? (i := 1075) (by decide +kernel), List.mem_of_getElem? (i := 1076) (by decide +kernel)⟩
theorem lw_p14 : lw_okq (⟨"OnceDisc$Text", "readStatement", "()Z"⟩, 15) := ⟨⟨by decide +kernel, by decide +kernel⟩, List.mem_of_getElem? (i := 56) (by decide +kernel), List.mem_of_getElem? (i := 1079) (by decide +kernel), List.mem_of_getElem? (i := 1080) (by decide +kernel)⟩
theorem lw_p15 : lw_okq (⟨"OnceDisc$Text", "readBad", "()Z"⟩, 15) := ⟨⟨by decide +kernel, by decide +kernel⟩, List.mem_of_getElem? (i := 56) (by decide +kernel), List.mem_of_getElem? (i := 1084) (by decide +kernel), List.mem_of_getElem? (i := 1085) (by decide +kernel)⟩
def lw_privs_1 : List (MethodName × Nat) := [(⟨"OnceDiscLaw$Disc", "entriesWith", "(I)I"⟩, 17), (⟨"OnceDiscLaw$Disc", "begins", "()LOnceDiscLaw$Session;"⟩, 17), (⟨"OnceDiscLaw$Disc", "burn", "(ILOnceDiscLaw$Version;I)I"⟩, 17), (⟨"OnceDiscLaw$Disc", "put", "(IILOnceDiscLaw$Version;I)V"⟩, 17), (⟨"OnceDisc$Input", "addByte", "(I)V"⟩, 2), (⟨"java/lang/Throwable", "fillInStackTrace", "(I)Ljava/lang/Throwable;"⟩, 6), (⟨"OnceDisc$Tokens", "begin", "(II)V"⟩, 5), (⟨"OnceDisc$Tokens", "takeLetter", "(II)V"⟩, 5), (⟨"OnceDisc$Tokens", "takeDigit", "(II)V"⟩, 5), (⟨"OnceDisc$Text", "readHead", "()Z"⟩, 15), (⟨"OnceDisc$Text", "isWord", "(Ljava/lang/String;)Z"⟩, 15), (⟨"OnceDisc$Text", "fail", "(I)Z"⟩, 15), (⟨"OnceDisc$Text", "readNumber", "(II)Z"⟩, 15), (⟨"OnceDisc$Text", "readSemicolon", "()Z"⟩, 15), (⟨"OnceDisc$Text", "readStatement", "()Z"⟩, 15), (⟨"OnceDisc$Text", "readBad", "()Z"⟩, 15)]
theorem lw_r1 : ∀ q ∈ lw_privs_1, lw_okq q := List.forall_mem_cons.mpr ⟨lw_p0, List.forall_mem_cons.mpr ⟨lw_p1, List.forall_mem_cons.mpr ⟨lw_p2, List.forall_mem_cons.mpr ⟨lw_p3, List.forall_mem_cons.mpr ⟨lw_p4, List.forall_mem_cons.mpr ⟨lw_p5, List.forall_mem_cons.mpr ⟨lw_p6, List.forall_mem_cons.mpr ⟨lw_p7, List.forall_mem_cons.mpr ⟨lw_p8, List.forall_mem_cons.mpr ⟨lw_p9, List.forall_mem_cons.mpr ⟨lw_p10, List.forall_mem_cons.mpr ⟨lw_p11, List.forall_mem_cons.mpr ⟨lw_p12, List.forall_mem_cons.mpr ⟨lw_p13, List.forall_mem_cons.mpr ⟨lw_p14, List.forall_mem_cons.mpr ⟨lw_p15, fun _ h => absurd h List.not_mem_nil⟩⟩⟩⟩⟩⟩⟩⟩⟩⟩⟩⟩⟩⟩⟩⟩
theorem lw_p16 : lw_okq (⟨"OnceDisc$Text", "add", "(III)Z"⟩, 15) := ⟨⟨by decide +kernel, by decide +kernel⟩, List.mem_of_getElem? (i := 56) (by decide +kernel), List.mem_of_getElem? (i := 1095) (by decide +kernel), List.mem_of_getElem? (i := 1096) (by decide +kernel)⟩
theorem lw_p17 : lw_okq (⟨"OnceDisc$Text", "readNewFile", "()Z"⟩, 15) := ⟨⟨by decide +kernel, by decide +kernel⟩, List.mem_of_getElem? (i := 56) (by decide +kernel), List.mem_of_getElem? (i := 1101) (by decide +kernel), List.mem_of_getElem? (i := 1102) (by decide +kernel)⟩
theorem lw_p18 : lw_okq (⟨"OnceDisc$Text", "readWrite", "()Z"⟩, 15) := ⟨⟨by decide +kernel, by decide +kernel⟩, List.mem_of_getElem? (i := 56) (by decide +kernel), List.mem_of_getElem? (i := 1110) (by decide +kernel), List.mem_of_getElem? (i := 1111) (by decide +kernel)⟩
theorem lw_p19 : lw_okq (⟨"OnceDisc$Text", "readFile", "()I"⟩, 15) := ⟨⟨by decide +kernel, by decide +kernel⟩, List.mem_of_getElem? (i := 56) (by decide +kernel), List.mem_of_getElem? (i := 1114) (by decide +kernel), List.mem_of_getElem? (i := 1115) (by decide +kernel)⟩
theorem lw_p20 : lw_okq (⟨"OnceDisc$Text", "readErase", "()Z"⟩, 15) := ⟨⟨by decide +kernel, by decide +kernel⟩, List.mem_of_getElem? (i := 56) (by decide +kernel), List.mem_of_getElem? (i := 1119) (by decide +kernel), List.mem_of_getElem? (i := 1120) (by decide +kernel)⟩
theorem lw_p21 : lw_okq (⟨"OnceDisc$View", "markReached", "(LOnceDisc$Disc;)V"⟩, 5) := ⟨⟨by decide +kernel, by decide +kernel⟩, List.mem_of_getElem? (i := 172) (by decide +kernel), List.mem_of_getElem? (i := 1215) (by decide +kernel), List.mem_of_getElem? (i := 1216) (by decide +kernel)⟩
theorem lw_p22 : lw_okq (⟨"OnceDisc$View", "sessionThatCounts", "(LOnceDisc$Sessions;II)I"⟩, 5) := ⟨⟨by decide +kernel, by decide +kernel⟩, List.mem_of_getElem? (i := 172) (by decide +kernel), List.mem_of_getElem? (i := 1234) (by decide +kernel), List.mem_of_getElem? (i := 1235) (by decide +kernel)⟩
theorem lw_p23 : lw_okq (⟨"OnceDisc$Disc", "reasonAgainstDirectory", "(I)I"⟩, 7) := ⟨⟨by decide +kernel, by decide +kernel⟩, List.mem_of_getElem? (i := 194) (by decide +kernel), List.mem_of_getElem? (i := 1275) (by decide +kernel), List.mem_of_getElem? (i := 1276) (by decide +kernel)⟩
theorem lw_p24 : lw_okq (⟨"OnceDisc$Disc", "beginIfNeeded", "()V"⟩, 7) := ⟨⟨by decide +kernel, by decide +kernel⟩, List.mem_of_getElem? (i := 194) (by decide +kernel), List.mem_of_getElem? (i := 1295) (by decide +kernel), List.mem_of_getElem? (i := 1296) (by decide +kernel)⟩
theorem lw_p25 : lw_okq (⟨"OnceDisc$Sessions", "forgetEntries", "(I)V"⟩, 8) := ⟨⟨by decide +kernel, by decide +kernel⟩, List.mem_of_getElem? (i := 274) (by decide +kernel), List.mem_of_getElem? (i := 1304) (by decide +kernel), List.mem_of_getElem? (i := 1305) (by decide +kernel)⟩
theorem lw_p26 : lw_okq (⟨"OnceDisc$Blocks", "takeSpare", "(I)I"⟩, 11) := ⟨⟨by decide +kernel, by decide +kernel⟩, List.mem_of_getElem? (i := 200) (by decide +kernel), List.mem_of_getElem? (i := 1318) (by decide +kernel), List.mem_of_getElem? (i := 1319) (by decide +kernel)⟩
theorem lw_p27 : lw_okq (⟨"OnceDisc$Blocks", "blocksOf", "(III)I"⟩, 11) := ⟨⟨by decide +kernel, by decide +kernel⟩, List.mem_of_getElem? (i := 200) (by decide +kernel), List.mem_of_getElem? (i := 1505) (by decide +kernel), List.mem_of_getElem? (i := 1506) (by decide +kernel)⟩
theorem lw_p28 : lw_okq (⟨"OnceDisc$Disc", "recoverableVersionOf", "(II)I"⟩, 7) := ⟨⟨by decide +kernel, by decide +kernel⟩, List.mem_of_getElem? (i := 194) (by decide +kernel), List.mem_of_getElem? (i := 1544) (by decide +kernel), List.mem_of_getElem? (i := 1545) (by decide +kernel)⟩
theorem lw_p29 : lw_okq (⟨"OnceDisc$Disc", "useOf", "(ILOnceDisc$View;)I"⟩, 7) := ⟨⟨by decide +kernel, by decide +kernel⟩, List.mem_of_getElem? (i := 194) (by decide +kernel), List.mem_of_getElem? (i := 1634) (by decide +kernel), List.mem_of_getElem? (i := 1635) (by decide +kernel)⟩
def lw_privs_2 : List (MethodName × Nat) := [(⟨"OnceDisc$Text", "add", "(III)Z"⟩, 15), (⟨"OnceDisc$Text", "readNewFile", "()Z"⟩, 15), (⟨"OnceDisc$Text", "readWrite", "()Z"⟩, 15), (⟨"OnceDisc$Text", "readFile", "()I"⟩, 15), (⟨"OnceDisc$Text", "readErase", "()Z"⟩, 15), (⟨"OnceDisc$View", "markReached", "(LOnceDisc$Disc;)V"⟩, 5), (⟨"OnceDisc$View", "sessionThatCounts", "(LOnceDisc$Sessions;II)I"⟩, 5), (⟨"OnceDisc$Disc", "reasonAgainstDirectory", "(I)I"⟩, 7), (⟨"OnceDisc$Disc", "beginIfNeeded", "()V"⟩, 7), (⟨"OnceDisc$Sessions", "forgetEntries", "(I)V"⟩, 8), (⟨"OnceDisc$Blocks", "takeSpare", "(I)I"⟩, 11), (⟨"OnceDisc$Blocks", "blocksOf", "(III)I"⟩, 11), (⟨"OnceDisc$Disc", "recoverableVersionOf", "(II)I"⟩, 7), (⟨"OnceDisc$Disc", "useOf", "(ILOnceDisc$View;)I"⟩, 7)]
theorem lw_r2 : ∀ q ∈ lw_privs_2, lw_okq q := List.forall_mem_cons.mpr ⟨lw_p16, List.forall_mem_cons.mpr ⟨lw_p17, List.forall_mem_cons.mpr ⟨lw_p18, List.forall_mem_cons.mpr ⟨lw_p19, List.forall_mem_cons.mpr ⟨lw_p20, List.forall_mem_cons.mpr ⟨lw_p21, List.forall_mem_cons.mpr ⟨lw_p22, List.forall_mem_cons.mpr ⟨lw_p23, List.forall_mem_cons.mpr ⟨lw_p24, List.forall_mem_cons.mpr ⟨lw_p25, List.forall_mem_cons.mpr ⟨lw_p26, List.forall_mem_cons.mpr ⟨lw_p27, List.forall_mem_cons.mpr ⟨lw_p28, List.forall_mem_cons.mpr ⟨lw_p29, fun _ h => absurd h List.not_mem_nil⟩⟩⟩⟩⟩⟩⟩⟩⟩⟩⟩⟩⟩⟩
def lw_privs : List (MethodName × Nat) := lw_privs_1 ++ (lw_privs_2)
def lw_tb1 : List Cond := k2_sels lw_privs ++ tables_1
theorem lw_privs_ok : ∀ q ∈ lw_privs, lw_okq q := by
  show ∀ q ∈ lw_privs_1 ++ (lw_privs_2), lw_okq q
  exact List.forall_mem_append.mpr ⟨lw_r1, lw_r2⟩
/-- the streams that the claim lets the run draw from -/
abbrev lw_cs : List Choice := [Jvm.Choice.named "NaN.bits"]
theorem lw_bits : nanBits ∈ lw_cs := by first | decide | exact List.mem_cons_self | simp [lw_cs, nanBits]
/-- a private method of a class above C, selected at an object of C: C can be made, another method of that class is selected as it stands -/
theorem lw_selsub {C : String} {y y2 : MethodName} {s : State} {args : Array Value} {n : Nat} (hy : y.cls ≠ "java/lang/invoke/MethodHandle" ∧ y.cls ≠ "java/lang/invoke/VarHandle") (hins : (Cond.instantiable C n).before args s = true) (hpriv : (Cond.privateMethod y).before args s = true) (hinst : (Cond.instanceMethod y).before args s = true) (hi2 : (Cond.instanceMethod y2).before args s = true) (hs2 : (Cond.selects C y2 y2).before args s = true) (he : y2.cls = y.cls) : (Cond.selects C y y).before args s = true := by
  obtain ⟨c, k, hc, hk, _, hniab, _⟩ := Cond.instantiable_spec hins
  obtain ⟨mk, methM, hnamed, hmethM, _⟩ := Cond.instanceMethod_spec hinst
  obtain ⟨mk2, methM2, hnamed2, hmethM2, _⟩ := Cond.instanceMethod_spec hi2
  have hfound := State.methodFound?_of_named hnamed hy
  have hfound2 := State.methodFound?_of_named hnamed2 (by rw [he]; exact hy)
  have h1 := findClass_of_methodNamed hnamed
  have h2 := findClass_of_methodNamed hnamed2
  rw [he, h1] at h2
  have hcls : mk.cls = mk2.cls := Option.some.inj h2
  have hsel := selectMethod_private (p := {}) (c := c) hmethM (Cond.privateMethod_at hpriv mk methM hnamed hmethM)
  simp only [Cond.before, Cond.holds, Cond.value, hc, hfound2, hnamed2] at hs2
  simp only [Cond.before, Cond.holds, Cond.value, hc, hfound, hnamed, hsel]
  split at hs2
  · simp at hs2
    rw [hcls]
    simp [hs2.2]
  · simp at hs2
def lw_subs : List MethodName := [⟨"java/lang/AbstractStringBuilder", "appendNull", "()Ljava/lang/AbstractStringBuilder;"⟩, ⟨"java/lang/AbstractStringBuilder", "ensureCapacityInternal", "(I)V"⟩, ⟨"java/lang/AbstractStringBuilder", "newCapacity", "(I)I"⟩, ⟨"java/lang/AbstractStringBuilder", "putStringAt", "(ILjava/lang/String;)V"⟩, ⟨"java/lang/AbstractStringBuilder", "inflateIfNeededFor", "(Ljava/lang/String;)V"⟩, ⟨"java/lang/AbstractStringBuilder", "inflate", "()V"⟩]
def lw_sub0 : MethodName := ⟨"java/lang/AbstractStringBuilder", "isLatin1", "()Z"⟩
def lw_tbl : List Cond := lw_tb1 ++ lw_subs.map fun y => Cond.selects "java/lang/StringBuilder" y y
set_option maxRecDepth 20000 in
theorem lw_subs_p : (∀ y ∈ lw_subs, Cond.privateMethod y ∈ lw_tb1) ∧ (∀ y ∈ lw_subs, Cond.instanceMethod y ∈ lw_tb1) ∧ (∀ y ∈ lw_subs, y.cls = "java/lang/AbstractStringBuilder") := by decide +kernel
set_option maxRecDepth 20000 in
theorem lw_subs_q : Cond.instantiable "java/lang/StringBuilder" 4 ∈ lw_tb1 ∧ Cond.instanceMethod lw_sub0 ∈ lw_tb1 ∧ Cond.selects "java/lang/StringBuilder" lw_sub0 lw_sub0 ∈ lw_tb1 := by decide +kernel
theorem lw_tbl_of {s : State} {args : Array Value} (h : ∀ w ∈ lw_tb1, w.before args s = true) : ∀ w ∈ lw_tbl, w.before args s = true := by
  intro w hw
  rcases List.mem_append.mp hw with z | z
  · exact h w z
  · obtain ⟨y, hy, rfl⟩ := List.mem_map.mp z
    have hc := lw_subs_p.2.2 y hy
    exact lw_selsub (y2 := lw_sub0) (by rw [hc]; exact ⟨by decide, by decide⟩) (h _ lw_subs_q.1) (h _ (lw_subs_p.1 y hy)) (h _ (lw_subs_p.2.1 y hy)) (h _ lw_subs_q.2.1) (h _ lw_subs_q.2.2) hc.symm

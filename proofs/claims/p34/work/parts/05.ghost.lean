/-! A ghost heap: what each address of the world holds, as a function; the rows of the kit over it. -/
abbrev gE : Type := (Nat × Nat × (Nat → Int32)) ⊕ (Nat × (Nat → Int64)) ⊕ (Nat × Nat × (Nat → Option Nat)) ⊕ (Nat × List Value)
abbrev gH : Type := Nat → Option gE
def g_toE (cT : Nat → ClassId) (e : gE) : va_E := match e with
  | .inl (k, n, f) => .inl (cT k, n, .inl f)
  | .inr (.inl (n, f)) => .inl (cT 3, n, .inr (.inl f))
  | .inr (.inr (.inl (k, n, f))) => .inl (cT k, n, .inr (.inr (.inr (.inr f))))
  | .inr (.inr (.inr (ci, fs))) => .inr (ci, fs)
abbrev g_ty (k : Nat) : FieldType := match k with
  | 0 => .int
  | 1 => .boolean
  | 2 => .byte
  | 3 => .long
  | 4 => .object "OnceDisc$Disc"
  | 5 => .object "OnceDiscLaw$Session"
  | _ => .object "OnceDiscLaw$Version"
abbrev g_tys (cT : Nat → ClassId) : List (ClassId × FieldType) := [(cT 0, .int), (cT 1, .boolean), (cT 2, .byte), (cT 3, .long), (cT 4, .object "OnceDisc$Disc"), (cT 5, .object "OnceDiscLaw$Session"), (cT 6, .object "OnceDiscLaw$Version")]
def g_R (cT : Nat → ClassId) (ws : va_W) (G : gH) : Prop := ∀ a e, G a = some e → ∃ k : Nat, ws[k]? = some (a, g_toE cT e)
abbrev g_A (lo : Nat → Prop) : Nat → Prop := lo
abbrev g_le (lo : Nat → Prop) (n : Nat) : Prop := ∀ q : Nat, n ≤ q → lo q
theorem g_le_trans {lo : Nat → Prop} {n k : Nat} (h : g_le lo n) (hk : n ≤ k) : g_le lo k := fun q hq => h q (Nat.le_trans hk hq)
def g_W (lo : Nat → Prop) (dd : va_G) (cT : Nat → ClassId) (G : gH) (H : Heap) : Prop := ∃ ws : va_W, va_P dd vwCl ws H ∧ va_D (g_A lo) ws ∧ g_R cT ws G
def g_K (dd : va_G) (cT : Nat → ClassId) (U : State) : Prop := va_K dd vwCl (g_tys cT) U ∧ (∀ q ∈ g_nests, va_Nw (.methodLinkNest q.1 q.2.1 q.2.2 "OnceDisc") U) ∧ (∀ q ∈ g_nestsL, va_Nw (.methodLinkNest q.1 q.2.1 q.2.2 "OnceDiscLaw") U) ∧ (∀ q ∈ g_fnests, va_Nw (.fieldLinkNest q.1 q.2.1 q.2.2.1 q.2.2.2.1 q.2.2.2.2 "OnceDiscLaw") U) ∧ va_AO "OnceDiscLaw$Session" U ∧ va_AO "OnceDiscLaw$Version" U
/-- the words of the texts, and of which class and place they are the constants -/
abbrev g_len0 : List Nat := [4, 3, 4, 5, 5, 5]
abbrev g_byt : List (List Int32) := [[100, 105, 115, 99], [98, 97, 100], [102, 105, 108, 101], [119, 114, 105, 116, 101], [101, 114, 97, 115, 101], [99, 108, 111, 115, 101]]
abbrev g_lits : List (String × Nat × String × Nat) := [(RX4, 133, "close", 5), (RX4, 91, "disc", 0), (RX4, 114, "bad", 1), (RX4, 118, "file", 2), (RX4, 123, "write", 3), (RX4, 128, "erase", 4)]
abbrev g_lenL : List Nat := [5, 1, 1, 4, 5, 6]
abbrev g_bytL : List (List Int32) := [[100, 105, 115, 99, 32], [32], [59], [98, 97, 100, 32], [102, 105, 108, 101, 32], [119, 114, 105, 116, 101, 32]]
abbrev g_litsL : List (String × Nat × String × Nat) := [(RL, 58, "disc ", 0), (RL, 66, " ", 1), (RL, 68, ";", 2), (RL, 81, "bad ", 3), (RL, 86, "file ", 4), (RL, 95, "write ", 5)]
abbrev g_msgs : List (Nat × String) := [(327, "there is no such block, file, session or slot"), (332, "an argument is out of its range"), (335, "this is refused now")]
/-- what a throw asks for, and an array of discs -/
abbrev g_xIAE : String := "java/lang/IllegalArgumentException"
abbrev g_xIOB : String := "java/lang/IndexOutOfBoundsException"
abbrev g_xISE : String := "java/lang/IllegalStateException"
abbrev g_xup : List String := ["java/lang/RuntimeException", "java/lang/Exception"]
abbrev g_exc : List String := [g_xIAE, g_xIOB, g_xISE]
abbrev g_decl : List MethodName := [Bundle.initS "java/lang/RuntimeException", Bundle.initS "java/lang/Exception", Bundle.initS Bundle.tN]
def g_T (U : State) : Prop := (∀ q ∈ g_msgs, ∃ a : Nat, vk_R RX9 q.1 q.2 a U) ∧ (∀ C ∈ g_exc, va_Nw (.castable C C) U) ∧ (∀ x ∈ g_decl, va_Nw (.declares x) U) ∧ True ∧ va_AO "OnceDisc$Disc" U
theorem g_T.warm {s U : State} (hW : s.WarmedH U.vm) (h : g_T s) : g_T U := by
  obtain ⟨h1, h2, h3, -, h5⟩ := h
  refine ⟨fun q hq => ?_, fun C hC => va_Nw.warmC hW (h2 C hC), fun x hx => va_Nw.warmD hW (h3 x hx), trivial, h5.moved hW.alike⟩
  obtain ⟨a, ha⟩ := h1 q hq
  exact ⟨a, ha.warm hW⟩
theorem g_T.same {u U : State} (hv : U.vm = u.vm) (h : g_T u) : g_T U := by
  have hA : u.vm.Alike U.vm := by rw [hv]; exact Vm.Alike.refl _
  obtain ⟨h1, h2, h3, -, h5⟩ := h
  refine ⟨fun q hq => ?_, fun C hC => va_Nw.same rfl hv.symm (h2 C hC), fun x hx => va_Nw.same rfl hv.symm (h3 x hx), trivial, h5.moved hA⟩
  obtain ⟨a, ha⟩ := h1 q hq
  exact ⟨a, ha.same hv⟩
/-- the two rows of digits, and what a row of bytes may be taken for -/
def g_XD (lo : Nat → Prop) (dd : va_G) (U : State) : Prop := va_Z "java/lang/Integer" "DigitOnes" "[B" (.ref (dd.2 104 0)) (g_A lo) U U.heap ∧ va_Z "java/lang/Integer" "DigitTens" "[B" (.ref (dd.2 104 1)) (g_A lo) U U.heap ∧ va_T .byte (dd.2 104 0) 100 (fun j => .int (Int32.ofNat (48 + j % 10))) (g_A lo) U U.heap ∧ va_T .byte (dd.2 104 1) 100 (fun j => .int (Int32.ofNat (48 + j / 10))) (g_A lo) U U.heap ∧ va_Nw (.castable "[B" "java/lang/Cloneable") U
def g_XL (lo : Nat → Prop) (dd : va_G) (U : State) : Prop := vk_S 6 g_lenL g_bytL (dd.2 102) (dd.2 103) (g_A lo) U U.heap ∧ (∀ q ∈ g_litsL, vk_R q.1 q.2.1 q.2.2.1 (dd.2 102 q.2.2.2) U) ∧ g_XD lo dd U
/-- what a start holds for good, outside of the world: the constant texts, and what a throw asks for -/
def g_X (lo : Nat → Prop) (dd : va_G) (U : State) : Prop := vk_S 6 g_len0 g_byt (dd.2 100) (dd.2 101) (g_A lo) U U.heap ∧ (∀ q ∈ g_lits, vk_R q.1 q.2.1 q.2.2.1 (dd.2 100 q.2.2.2) U) ∧ g_T U ∧ va_Z "java/lang/String" "COMPACT_STRINGS" "Z" (.int 1) (g_A lo) U U.heap ∧ vx_Zq Bundle.tN "UNASSIGNED_STACK" Bundle.steD (g_A lo) U U.heap ∧ vx_Zq Bundle.tN "SUPPRESSED_SENTINEL" Bundle.listD (g_A lo) U U.heap ∧ va_Zq "jdk/internal/util/Preconditions" "SIOOBE_FORMATTER" "Ljava/util/function/BiFunction;" (g_A lo) U U.heap ∧ g_XL lo dd U
theorem g_X.next {lo : Nat → Prop} {dd : va_G} {s U : State} {H : Heap} {locs : List Loc} (h : g_X lo dd s) (hS : va_S (g_A lo) s.heap H locs) (hU : U.heap = H) (hW : s.WarmedH U.vm) : g_X lo dd U := by
  obtain ⟨h1, h2, h3, h4, h5, h6, h7, h8, h9, d1, d2, d3, d4, d5⟩ := h
  subst hU
  exact ⟨(h1.kept hS.2.1).moved hW.alike, fun q hq => (h2 q hq).warm hW, h3.warm hW, (h4.kept hS.2.1).moved hW.alike, (h5.kept hS.2.1).moved hW.alike, (h6.kept hS.2.1).moved hW.alike, (h7.kept hS.2.1).moved hW.alike, (h8.kept hS.2.1).moved hW.alike, fun q hq => (h9 q hq).warm hW, (d1.kept hS.2.1).moved hW.alike, (d2.kept hS.2.1).moved hW.alike, (d3.kept hS.2.1).moved hW.alike, (d4.kept hS.2.1).moved hW.alike, va_Nw.warmC hW d5⟩
theorem g_X.same {lo : Nat → Prop} {dd : va_G} {u U : State} (h : g_X lo dd u) (hh : U.heap = u.heap) (hv : U.vm = u.vm) : g_X lo dd U := by
  obtain ⟨h1, h2, h3, h4, h5, h6, h7, h8, h9, d1, d2, d3, d4, d5⟩ := h
  have hA : u.vm.Alike U.vm := by rw [hv]; exact Vm.Alike.refl _
  unfold g_X g_XL g_XD
  rw [hh]
  exact ⟨h1.moved hA, fun q hq => (h2 q hq).same hv, h3.same hv, h4.moved hA, h5.moved hA, h6.moved hA, h7.moved hA, h8.moved hA, fun q hq => (h9 q hq).same hv, d1.moved hA, d2.moved hA, d3.moved hA, d4.moved hA, va_Nw.same rfl hv.symm d5⟩
def g_Pre (lo : Nat → Prop) (dd : va_G) (cT : Nat → ClassId) (G : gH) (U : State) : Prop := g_le lo U.heap.size ∧ g_W lo dd cT G U.heap ∧ g_K dd cT U ∧ g_X lo dd U
def g_S (lo : Nat → Prop) (dd : va_G) (cT : Nat → ClassId) (s : State) (H : Heap) (locs : List Loc) (G : gH) : Prop := g_W lo dd cT G H ∧ va_S (g_A lo) s.heap H locs ∧ g_X lo dd s
theorem g_K.moved {dd : va_G} {cT : Nat → ClassId} {u U : State} (hW : u.WarmedH U.vm) (h : g_K dd cT u) : g_K dd cT U :=
  ⟨va_K.moved hW.alike h.1, fun q hq => va_Nw.warmM hW (h.2.1 q hq), fun q hq => va_Nw.warmM hW (h.2.2.1 q hq), fun q hq => va_Nw.warmF hW (h.2.2.2.1 q hq), h.2.2.2.2.1.moved hW.alike, h.2.2.2.2.2.moved hW.alike⟩
theorem g_K.same {dd : va_G} {cT : Nat → ClassId} {u U : State} (hv : u.vm = U.vm) (h : g_K dd cT u) : g_K dd cT U :=
  ⟨va_K.moved (by rw [hv]; exact Vm.Alike.refl _) h.1, fun q hq => va_Nw.same rfl hv (h.2.1 q hq), fun q hq => va_Nw.same rfl hv (h.2.2.1 q hq), fun q hq => va_Nw.same rfl hv (h.2.2.2.1 q hq), h.2.2.2.2.1.moved (by rw [hv]; exact Vm.Alike.refl _), h.2.2.2.2.2.moved (by rw [hv]; exact Vm.Alike.refl _)⟩
theorem g_Pre.blind {lo : Nat → Prop} {dd : va_G} {cT : Nat → ClassId} {G : gH} {As : List Value} : FrameBlind (va_Pc As (g_Pre lo dd cT G)) :=
  fun a U g mk q => ⟨q.1, q.2.1, q.2.2.1, g_K.same (u := U) (U := U.calling g mk a) rfl q.2.2.2.1, g_X.same (u := U) (U := U.calling g mk a) q.2.2.2.2 rfl rfl⟩
-- reading and writing the ghost heap
def g_V (G : gH) (a ci k : Nat) : Option Value := match G a with
  | some (.inr (.inr (.inr (c, fs)))) => if c = ci then fs[k]? else none
  | _ => none
def g_i (G : gH) (a ci k : Nat) : Option Int32 := match g_V G a ci k with
  | some (.int x) => some x
  | _ => none
def g_j (G : gH) (a ci k : Nat) : Option Int64 := match g_V G a ci k with
  | some (.long x) => some x
  | _ => none
def g_r (G : gH) (a ci k : Nat) : Option Nat := match g_V G a ci k with
  | some (.ref x) => some x
  | _ => none
def g_put (G : gH) (a ci k : Nat) (v : Value) : Option gH := match G a with
  | some (.inr (.inr (.inr (c, fs)))) => if c = ci ∧ k < fs.length then some (va_up G a (some (.inr (.inr (.inr (ci, fs.set k v)))))) else none
  | _ => none
def g_ald (t : Nat) (G : gH) (a : Nat) (i : Int32) : Option Int32 := match G a with
  | some (.inl (k, n, f)) => if k = t ∧ ¬ (i < 0 ∨ n ≤ i.toNatClampNeg) then some (f i.toNatClampNeg) else none
  | _ => none
def g_nar (t : Nat) (x : Int32) : Int32 := match t with
  | 0 => x
  | 1 => vp_nar .boolean x
  | _ => vp_nar .byte x
def g_ast (t : Nat) (G : gH) (a : Nat) (i x : Int32) : Option gH := match G a with
  | some (.inl (k, n, f)) => if k = t ∧ ¬ (i < 0 ∨ n ≤ i.toNatClampNeg) then some (va_up G a (some (.inl (t, n, upd f i.toNatClampNeg (g_nar t x))))) else none
  | _ => none
def g_lald (G : gH) (a : Nat) (i : Int32) : Option Int64 := match G a with
  | some (.inr (.inl (n, f))) => if ¬ (i < 0 ∨ n ≤ i.toNatClampNeg) then some (f i.toNatClampNeg) else none
  | _ => none
def g_last (G : gH) (a : Nat) (i : Int32) (x : Int64) : Option gH := match G a with
  | some (.inr (.inl (n, f))) => if ¬ (i < 0 ∨ n ≤ i.toNatClampNeg) then some (va_up G a (some (.inr (.inl (n, vp_updL f i.toNatClampNeg x))))) else none
  | _ => none
def g_qald (G : gH) (a : Nat) (i : Int32) : Option (Option Nat) := match G a with
  | some (.inr (.inr (.inl (k, n, f)))) => if k = 4 ∧ ¬ (i < 0 ∨ n ≤ i.toNatClampNeg) then some (f i.toNatClampNeg) else none
  | _ => none
def g_rald (t : Nat) (G : gH) (a : Nat) (i : Int32) : Option (Option Nat) := match G a with
  | some (.inr (.inr (.inl (k, n, f)))) => if k = t ∧ ¬ (i < 0 ∨ n ≤ i.toNatClampNeg) then some (f i.toNatClampNeg) else none
  | _ => none
def g_rast (t : Nat) (G : gH) (a : Nat) (i : Int32) (v : Option Nat) : Option gH := match G a with
  | some (.inr (.inr (.inl (k, n, f)))) => if k = t ∧ ¬ (i < 0 ∨ n ≤ i.toNatClampNeg) then some (va_up G a (some (.inr (.inr (.inl (t, n, va_up f i.toNatClampNeg v)))))) else none
  | _ => none
def g_len (G : gH) (a : Nat) : Option Int32 := match G a with
  | some (.inl (k, n, _)) => if k < 3 then some (Int32.ofNat n) else none
  | some (.inr (.inl (n, _))) => some (Int32.ofNat n)
  | some (.inr (.inr (.inl (k, n, _)))) => if k = 4 then some (Int32.ofNat n) else none
  | _ => none
/-- a truth value, for a method that answers one -/
def g_z (x : Int32) : Option Int32 := if x = 0 ∨ x = 1 then some x else none
theorem g_z_nar {x y : Int32} (h : g_z x = some y) : narrow .boolean (.int x) = .int x ∧ x = y := by
  unfold g_z at h
  split at h
  · rename_i hx
    refine ⟨?_, Option.some.inj h⟩
    rcases hx with rfl | rfl <;> rfl
  · cases h
-- taking apart
theorem g_V_spec {G : gH} {a ci k : Nat} {v : Value} (h : g_V G a ci k = some v) : ∃ fs, G a = some (.inr (.inr (.inr (ci, fs)))) ∧ fs[k]? = some v := by
  unfold g_V at h
  split at h
  · rename_i c fs hG
    split at h
    · rename_i hc
      subst hc
      exact ⟨fs, hG, h⟩
    · cases h
  · cases h
theorem g_i_spec {G : gH} {a ci k : Nat} {x : Int32} (h : g_i G a ci k = some x) : g_V G a ci k = some (.int x) := by
  unfold g_i at h
  split at h
  · rename_i y hy
    cases h
    exact hy
  · cases h
theorem g_j_spec {G : gH} {a ci k : Nat} {x : Int64} (h : g_j G a ci k = some x) : g_V G a ci k = some (.long x) := by
  unfold g_j at h
  split at h
  · rename_i y hy
    cases h
    exact hy
  · cases h
theorem g_r_spec {G : gH} {a ci k : Nat} {x : Nat} (h : g_r G a ci k = some x) : g_V G a ci k = some (.ref x) := by
  unfold g_r at h
  split at h
  · rename_i y hy
    cases h
    exact hy
  · cases h
theorem g_put_spec {G G1 : gH} {a ci k : Nat} {v : Value} (h : g_put G a ci k v = some G1) : ∃ fs, G a = some (.inr (.inr (.inr (ci, fs)))) ∧ k < fs.length ∧ G1 = va_up G a (some (.inr (.inr (.inr (ci, fs.set k v))))) := by
  unfold g_put at h
  split at h
  · rename_i c fs hG
    split at h
    · rename_i hc
      obtain ⟨rfl, hk⟩ := hc
      exact ⟨fs, hG, hk, (Option.some.inj h).symm⟩
    · cases h
  · cases h
theorem g_ald_spec {t : Nat} {G : gH} {a : Nat} {i x : Int32} (h : g_ald t G a i = some x) : ∃ n f, G a = some (.inl (t, n, f)) ∧ vp_in i n ∧ x = f i.toNatClampNeg := by
  unfold g_ald at h
  split at h
  · rename_i k n f hG
    split at h
    · rename_i hc
      obtain ⟨rfl, hk⟩ := hc
      exact ⟨n, f, hG, hk, (Option.some.inj h).symm⟩
    · cases h
  · cases h
theorem g_ast_spec {t : Nat} {G G1 : gH} {a : Nat} {i x : Int32} (h : g_ast t G a i x = some G1) : ∃ n f, G a = some (.inl (t, n, f)) ∧ vp_in i n ∧ G1 = va_up G a (some (.inl (t, n, upd f i.toNatClampNeg (g_nar t x)))) := by
  unfold g_ast at h
  split at h
  · rename_i k n f hG
    split at h
    · rename_i hc
      obtain ⟨rfl, hk⟩ := hc
      exact ⟨n, f, hG, hk, (Option.some.inj h).symm⟩
    · cases h
  · cases h
theorem g_lald_spec {G : gH} {a : Nat} {i : Int32} {x : Int64} (h : g_lald G a i = some x) : ∃ n f, G a = some (.inr (.inl (n, f))) ∧ vp_in i n ∧ x = f i.toNatClampNeg := by
  unfold g_lald at h
  split at h
  · rename_i n f hG
    split at h
    · rename_i hk
      exact ⟨n, f, hG, hk, (Option.some.inj h).symm⟩
    · cases h
  · cases h
theorem g_last_spec {G G1 : gH} {a : Nat} {i : Int32} {x : Int64} (h : g_last G a i x = some G1) : ∃ n f, G a = some (.inr (.inl (n, f))) ∧ vp_in i n ∧ G1 = va_up G a (some (.inr (.inl (n, vp_updL f i.toNatClampNeg x)))) := by
  unfold g_last at h
  split at h
  · rename_i n f hG
    split at h
    · rename_i hk
      exact ⟨n, f, hG, hk, (Option.some.inj h).symm⟩
    · cases h
  · cases h
theorem g_qald_spec {G : gH} {a : Nat} {i : Int32} {x : Option Nat} (h : g_qald G a i = some x) : ∃ n f, G a = some (.inr (.inr (.inl (4, n, f)))) ∧ vp_in i n ∧ x = f i.toNatClampNeg := by
  unfold g_qald at h
  split at h
  · rename_i k n f hG
    split at h
    · rename_i hk
      obtain ⟨rfl, hk⟩ := hk
      exact ⟨n, f, hG, hk, (Option.some.inj h).symm⟩
    · cases h
  · cases h
theorem g_rald_spec {t : Nat} {G : gH} {a : Nat} {i : Int32} {x : Option Nat} (h : g_rald t G a i = some x) : ∃ n f, G a = some (.inr (.inr (.inl (t, n, f)))) ∧ vp_in i n ∧ x = f i.toNatClampNeg := by
  unfold g_rald at h
  split at h
  · rename_i k n f hG
    split at h
    · rename_i hk
      obtain ⟨rfl, hk⟩ := hk
      exact ⟨n, f, hG, hk, (Option.some.inj h).symm⟩
    · cases h
  · cases h
theorem g_rast_spec {t : Nat} {G G1 : gH} {a : Nat} {i : Int32} {v : Option Nat} (h : g_rast t G a i v = some G1) : ∃ n f, G a = some (.inr (.inr (.inl (t, n, f)))) ∧ vp_in i n ∧ G1 = va_up G a (some (.inr (.inr (.inl (t, n, va_up f i.toNatClampNeg v))))) := by
  unfold g_rast at h
  split at h
  · rename_i k n f hG
    split at h
    · rename_i hk
      obtain ⟨rfl, hk⟩ := hk
      exact ⟨n, f, hG, hk, (Option.some.inj h).symm⟩
    · cases h
  · cases h
theorem g_len_spec {G : gH} {a : Nat} {x : Int32} (h : g_len G a = some x) : ∃ (e : gE) (k : Nat) (b : vp_A), G a = some e ∧ k < 5 ∧ (∀ cT : Nat → ClassId, g_toE cT e = .inl (cT k, b)) ∧ Int32.ofNat b.1 = x := by
  unfold g_len at h
  split at h
  · rename_i k n f hG
    split at h
    · rename_i hk
      exact ⟨_, k, (n, .inl f), hG, by omega, fun _ => rfl, Option.some.inj h⟩
    · cases h
  · rename_i n f hG
    exact ⟨_, 3, (n, .inr (.inl f)), hG, by omega, fun _ => rfl, Option.some.inj h⟩
  · rename_i k n f hG
    split at h
    · rename_i hk
      subst hk
      exact ⟨_, 4, (n, .inr (.inr (.inr (.inr f)))), hG, by omega, fun _ => rfl, Option.some.inj h⟩
    · cases h
  · cases h
/-- the ghost heap behind a change of one cell -/
theorem g_R.set {cT : Nat → ClassId} {ws : va_W} {G : gH} {A : Nat → Prop} {a q0 : Nat} {e0 e1 : gE} (hR : g_R cT ws G) (hD : va_D A ws) (hq : ws[q0]? = some (a, g_toE cT e0)) : g_R cT (ws.set q0 (a, g_toE cT e1)) (va_up G a (some e1)) := by
  intro b e hb
  by_cases h : b = a
  · subst h
    simp only [va_up, if_true] at hb
    cases hb
    refine ⟨q0, ?_⟩
    have := (List.getElem?_eq_some_iff.mp hq).1
    simp [this]
  · simp only [va_up, if_neg h] at hb
    obtain ⟨k, hk⟩ := hR b e hb
    refine ⟨k, ?_⟩
    have hne : q0 ≠ k := by
      intro z
      subst z
      rw [hq] at hk
      exact h (Prod.mk.inj (Option.some.inj hk)).1.symm
    rw [List.getElem?_set_ne hne]
    exact hk

abbrev gE : Type := (Nat × Nat × (Nat → Int32)) ⊕ (Nat × (Nat → Int64)) ⊕ (Nat × (Nat → Option Nat)) ⊕ (Nat × List Value)
abbrev gH : Type := Nat → Option gE
abbrev g_len0 : List Nat := [4, 3, 4, 5, 5, 5]
abbrev g_byt : List (List Int32) := [[100, 105, 115, 99], [98, 97, 100], [102, 105, 108, 101], [119, 114, 105, 116, 101], [101, 114, 97, 115, 101], [99, 108, 111, 115, 101]]
abbrev g_xIAE : String := "java/lang/IllegalArgumentException"
abbrev g_xIOB : String := "java/lang/IndexOutOfBoundsException"
abbrev g_xISE : String := "java/lang/IllegalStateException"
abbrev g_xup : List String := ["java/lang/RuntimeException", "java/lang/Exception"]
def g_V (G : gH) (a ci k : Nat) : Option Value := match G a with
  | some (.inr (.inr (.inr (c, fs)))) => if c = ci then fs[k]? else none
  | _ => none
def g_i (G : gH) (a ci k : Nat) : Option Int32 := match g_V G a ci k with
  | some (.int x) => some x
  | _ => none
def g_j (G : gH) (a ci k : Nat) : Option Int64 := match g_V G a ci k with
  | some (.long x) => some x
  | _ => none
def g_r (G : gH) (a ci k : Nat) : Option Nat := match g_V G a ci k with
  | some (.ref x) => some x
  | _ => none
def g_put (G : gH) (a ci k : Nat) (v : Value) : Option gH := match G a with
  | some (.inr (.inr (.inr (c, fs)))) => if c = ci ∧ k < fs.length then some (va_up G a (some (.inr (.inr (.inr (ci, fs.set k v)))))) else none
  | _ => none
def g_ald (t : Nat) (G : gH) (a : Nat) (i : Int32) : Option Int32 := match G a with
  | some (.inl (k, n, f)) => if k = t ∧ ¬ (i < 0 ∨ n ≤ i.toNatClampNeg) then some (f i.toNatClampNeg) else none
  | _ => none
def g_nar (t : Nat) (x : Int32) : Int32 := match t with
  | 0 => x
  | 1 => vp_nar .boolean x
  | _ => vp_nar .byte x
def g_ast (t : Nat) (G : gH) (a : Nat) (i x : Int32) : Option gH := match G a with
  | some (.inl (k, n, f)) => if k = t ∧ ¬ (i < 0 ∨ n ≤ i.toNatClampNeg) then some (va_up G a (some (.inl (t, n, upd f i.toNatClampNeg (g_nar t x))))) else none
  | _ => none
def g_lald (G : gH) (a : Nat) (i : Int32) : Option Int64 := match G a with
  | some (.inr (.inl (n, f))) => if ¬ (i < 0 ∨ n ≤ i.toNatClampNeg) then some (f i.toNatClampNeg) else none
  | _ => none
def g_last (G : gH) (a : Nat) (i : Int32) (x : Int64) : Option gH := match G a with
  | some (.inr (.inl (n, f))) => if ¬ (i < 0 ∨ n ≤ i.toNatClampNeg) then some (va_up G a (some (.inr (.inl (n, vp_updL f i.toNatClampNeg x))))) else none
  | _ => none
def g_qald (G : gH) (a : Nat) (i : Int32) : Option (Option Nat) := match G a with
  | some (.inr (.inr (.inl (n, f)))) => if ¬ (i < 0 ∨ n ≤ i.toNatClampNeg) then some (f i.toNatClampNeg) else none
  | _ => none
def g_len (G : gH) (a : Nat) : Option Int32 := match G a with
  | some (.inl (k, n, _)) => if k < 3 then some (Int32.ofNat n) else none
  | some (.inr (.inl (n, _))) => some (Int32.ofNat n)
  | some (.inr (.inr (.inl (n, _)))) => some (Int32.ofNat n)
  | _ => none
def g_z (x : Int32) : Option Int32 := if x = 0 ∨ x = 1 then some x else none
def g_ob (G : gH) (a ci : Nat) : Option Unit := match G a with
  | some (.inr (.inr (.inr (c, _)))) => if c = ci then some () else none
  | _ => none
def g_N : Nat := 4096
def g_qast (G : gH) (a : Nat) (i : Int32) (v : Nat) : Option gH := match G a with
  | some (.inr (.inr (.inl (n, f)))) => if ¬ (i < 0 ∨ n ≤ i.toNatClampNeg) then some (va_up G a (some (.inr (.inr (.inl (n, va_up f i.toNatClampNeg (some v))))))) else none
  | _ => none

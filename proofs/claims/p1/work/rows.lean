section
abbrev gE : Type := (Nat × Nat × (Nat → Int32)) ⊕ (Nat × (Nat → Int64)) ⊕ (Nat × (Nat → Option Nat)) ⊕ (Nat × List Value)
abbrev gH : Type := Nat → Option gE
abbrev g_len0 : List Nat := [4, 3, 4, 5, 5, 5]
abbrev g_byt : List (List Int32) := [[100, 105, 115, 99], [98, 97, 100], [102, 105, 108, 101], [119, 114, 105, 116, 101], [101, 114, 97, 115, 101], [99, 108, 111, 115, 101]]
abbrev g_xIAE : String := "java/lang/IllegalArgumentException"
abbrev g_xIOB : String := "java/lang/IndexOutOfBoundsException"
abbrev g_xISE : String := "java/lang/IllegalStateException"
abbrev g_xup : List String := ["java/lang/RuntimeException", "java/lang/Exception"]
def g_V (G : gH) (a ci k : Nat) : Option Value := match G a with
  | some (.inr (.inr (.inr (c, fs)))) => if c = ci then fs[k]? else none
  | _ => none
def g_i (G : gH) (a ci k : Nat) : Option Int32 := match g_V G a ci k with
  | some (.int x) => some x
  | _ => none
def g_j (G : gH) (a ci k : Nat) : Option Int64 := match g_V G a ci k with
  | some (.long x) => some x
  | _ => none
def g_r (G : gH) (a ci k : Nat) : Option Nat := match g_V G a ci k with
  | some (.ref x) => some x
  | _ => none
def g_put (G : gH) (a ci k : Nat) (v : Value) : Option gH := match G a with
  | some (.inr (.inr (.inr (c, fs)))) => if c = ci ∧ k < fs.length then some (va_up G a (some (.inr (.inr (.inr (ci, fs.set k v)))))) else none
  | _ => none
def g_ald (t : Nat) (G : gH) (a : Nat) (i : Int32) : Option Int32 := match G a with
  | some (.inl (k, n, f)) => if k = t ∧ ¬ (i < 0 ∨ n ≤ i.toNatClampNeg) then some (f i.toNatClampNeg) else none
  | _ => none
def g_nar (t : Nat) (x : Int32) : Int32 := match t with
  | 0 => x
  | 1 => vp_nar .boolean x
  | _ => vp_nar .byte x
def g_ast (t : Nat) (G : gH) (a : Nat) (i x : Int32) : Option gH := match G a with
  | some (.inl (k, n, f)) => if k = t ∧ ¬ (i < 0 ∨ n ≤ i.toNatClampNeg) then some (va_up G a (some (.inl (t, n, upd f i.toNatClampNeg (g_nar t x))))) else none
  | _ => none
def g_lald (G : gH) (a : Nat) (i : Int32) : Option Int64 := match G a with
  | some (.inr (.inl (n, f))) => if ¬ (i < 0 ∨ n ≤ i.toNatClampNeg) then some (f i.toNatClampNeg) else none
  | _ => none
def g_last (G : gH) (a : Nat) (i : Int32) (x : Int64) : Option gH := match G a with
  | some (.inr (.inl (n, f))) => if ¬ (i < 0 ∨ n ≤ i.toNatClampNeg) then some (va_up G a (some (.inr (.inl (n, vp_updL f i.toNatClampNeg x))))) else none
  | _ => none
def g_qald (G : gH) (a : Nat) (i : Int32) : Option (Option Nat) := match G a with
  | some (.inr (.inr (.inl (n, f)))) => if ¬ (i < 0 ∨ n ≤ i.toNatClampNeg) then some (f i.toNatClampNeg) else none
  | _ => none
def g_len (G : gH) (a : Nat) : Option Int32 := match G a with
  | some (.inl (k, n, _)) => if k < 3 then some (Int32.ofNat n) else none
  | some (.inr (.inl (n, _))) => some (Int32.ofNat n)
  | some (.inr (.inr (.inl (n, _)))) => some (Int32.ofNat n)
  | _ => none
def g_z (x : Int32) : Option Int32 := if x = 0 ∨ x = 1 then some x else none
def g_ob (G : gH) (a ci : Nat) : Option Unit := match G a with
  | some (.inr (.inr (.inr (c, _)))) => if c = ci then some () else none
  | _ => none
def g_N : Nat := 4096
def g_qast (G : gH) (a : Nat) (i : Int32) (v : Nat) : Option gH := match G a with
  | some (.inr (.inr (.inl (n, f)))) => if ¬ (i < 0 ∨ n ≤ i.toNatClampNeg) then some (va_up G a (some (.inr (.inr (.inl (n, va_up f i.toNatClampNeg (some v))))))) else none
  | _ => none
end
section
def f_J0_length_8abf5 (_ : gH) (i : Nat) : Option Int32 := if i < 6 then some (nI (g_len0.getD i 0)) else none
def f_J0_charAt_5068e (_ : gH) (i : Nat) (x : Int32) : Option Int32 := if i < 6 ∧ ¬ (x < 0 ∨ g_len0.getD i 0 ≤ x.toNatClampNeg) then some ((g_byt.getD i []).getD x.toNatClampNeg 0) else none
def f_X0_hasRoomFor (G : gH) (a0 : Nat) (x1 : Int32) : Option Int32 :=
    (g_i G a0 0 2).bind fun v1 =>
    (g_i G a0 0 1).bind fun v7 =>
    if v7 < (v1 + x1) then
    some (0 : Int32)
    else
    some (1 : Int32)
def f_X10_thrown (G : gH) (a0 : Nat) : Option Int32 :=
    (g_i G a0 10 0).bind fun v1 =>
    some v1
def f_X10_within (G : gH) (x0 : Int32) (x1 : Int32) (x2 : Int32) : Option Int32 :=
    if x0 < x1 then
    some (0 : Int32)
    else
    if x2 < x0 then
    some (0 : Int32)
    else
    some (1 : Int32)
def f_X10_throwsIf_J16 (G : gH) (ba0 : Nat) : Option (gH × Int32) :=
    (g_i G ba0 10 0).bind fun v17 =>
    if v17 ≤ 0 then
    some (G, (0 : Int32))
    else
    some (G, (1 : Int32))
def f_X10_throwsIf (G : gH) (a0 : Nat) (x1 : Int32) (x2 : Int32) : Option (gH × Int32) :=
    (g_i G a0 10 0).bind fun v1 =>
    if v1 = 0 then
    if x1 = 0 then
    f_X10_throwsIf_J16 G a0
    else
    (g_put G a0 10 0 (.int x2)).bind fun G13 =>
    f_X10_throwsIf_J16 G13 a0
    else
    f_X10_throwsIf_J16 G a0
def f_X10_bytesOf_L3 : Nat → gH → Nat → Int32 → Int32 → Option gH
  | 0, _, _, _, _ => none
  | n + 1, G, ba0, bx1, bx2 =>
    if bx2 < 0 then
    some G
    else
    (g_r G ba0 10 3).bind fun v8 =>
    (g_i G ba0 10 4).bind fun v12 =>
    (g_ast 2 G v8 v12 ((bx1 >>> (bx2 &&& 31)).toInt8.toInt32)).bind fun G19 =>
    (g_i G19 ba0 10 4).bind fun v22 =>
    (g_put G19 ba0 10 4 (.int (v22 + (1 : Int32)))).bind fun G27 =>
    f_X10_bytesOf_L3 n G27 ba0 bx1 (bx2 + (-8 : Int32))
def f_X10_bytesOf (G : gH) (a0 : Nat) (x1 : Int32) : Option gH :=
    f_X10_bytesOf_L3 g_N G a0 x1 (24 : Int32)
def f_X10_byteAt (G : gH) (a0 : Nat) (x1 : Int32) : Option Int32 :=
    (g_i G a0 10 5).bind fun v2 =>
    if v2 ≤ x1 then
    some (-1 : Int32)
    else
    (g_r G a0 10 3).bind fun v9 =>
    (g_ald 2 G v9 x1).bind fun v13 =>
    some (v13 &&& (255 : Int32))
def f_X10_takesLetters_J62 (k5 : gH → Nat → Option gH) (G : gH) (ba0 : Nat) (z0 : Nat) (z1 : Int64) : Option gH :=
    (g_put G z0 10 10 (.long z1)).bind fun G62 =>
    (g_i G62 ba0 10 7).bind fun v67 =>
    (g_put G62 ba0 10 7 (.int (v67 + (1 : Int32)))).bind fun G72 =>
    k5 G72 ba0
def f_X10_takesLetters_L5 : Nat → gH → Nat → Option gH
  | 0, _, _ => none
  | n + 1, G, ba0 =>
    (g_i G ba0 10 7).bind fun v7 =>
    (g_ob G ba0 10).bind fun u10 =>
    (f_X10_byteAt G ba0 v7).bind fun v10 =>
    (f_X10_within G v10 (97 : Int32) (122 : Int32)).bind fun v17 =>
    if v17 = 0 then
    some G
    else
    (g_i G ba0 10 7).bind fun v25 =>
    (g_i G ba0 10 6).bind fun v29 =>
    if (8 : Int32) ≤ (v25 - v29) then
    (g_j G ba0 10 10).bind fun v59 =>
    f_X10_takesLetters_J62 (f_X10_takesLetters_L5 n) G ba0 ba0 v59
    else
    (g_j G ba0 10 10).bind fun v39 =>
    (g_i G ba0 10 7).bind fun v47 =>
    (g_ob G ba0 10).bind fun u50 =>
    (f_X10_byteAt G ba0 v47).bind fun v50 =>
    f_X10_takesLetters_J62 (f_X10_takesLetters_L5 n) G ba0 ba0 ((v39 <<< ((8 : Int32).toInt64 &&& 63)) ||| v50.toInt64)
def f_X10_takesLetters (G : gH) (a0 : Nat) : Option gH :=
    (g_put G a0 10 10 (.long (0 : Int64))).bind fun G2 =>
    f_X10_takesLetters_L5 g_N G2 a0
def f_X10_advance_J184 (k126 : gH → Nat → Option gH) (G : gH) (ba0 : Nat) (z0 : Nat) (z1 : Int32) : Option gH :=
    (g_put G z0 10 9 (.int z1)).bind fun G184 =>
    (g_i G184 ba0 10 7).bind fun v189 =>
    (g_put G184 ba0 10 7 (.int (v189 + (1 : Int32)))).bind fun G194 =>
    k126 G194 ba0
def f_X10_advance_L126 : Nat → gH → Nat → Option gH
  | 0, _, _ => none
  | n + 1, G, ba0 =>
    (g_i G ba0 10 7).bind fun v128 =>
    (g_ob G ba0 10).bind fun u131 =>
    (f_X10_byteAt G ba0 v128).bind fun v131 =>
    (f_X10_within G v131 (48 : Int32) (57 : Int32)).bind fun v138 =>
    if v138 = 0 then
    (g_i G ba0 10 7).bind fun v202 =>
    (g_i G ba0 10 6).bind fun v206 =>
    if (v202 - v206) ≤ (3 : Int32) then
    (g_put G ba0 10 8 (.int (2 : Int32))).bind fun G219 =>
    some G219
    else
    (g_put G ba0 10 8 (.int (4 : Int32))).bind fun G219 =>
    some G219
    else
    (g_i G ba0 10 7).bind fun v146 =>
    (g_i G ba0 10 6).bind fun v150 =>
    if (3 : Int32) ≤ (v146 - v150) then
    (g_i G ba0 10 9).bind fun v181 =>
    f_X10_advance_J184 (f_X10_advance_L126 n) G ba0 ba0 v181
    else
    (g_i G ba0 10 9).bind fun v161 =>
    (g_i G ba0 10 7).bind fun v167 =>
    (g_ob G ba0 10).bind fun u170 =>
    (f_X10_byteAt G ba0 v167).bind fun v170 =>
    f_X10_advance_J184 (f_X10_advance_L126 n) G ba0 ba0 ((((10 : Int32) * v161) + v170) - (48 : Int32))
def f_X10_advance_L0 : Nat → gH → Nat → Option gH
  | 0, _, _ => none
  | n + 1, G, ba0 =>
    (g_i G ba0 10 7).bind fun v2 =>
    (g_ob G ba0 10).bind fun u5 =>
    (f_X10_byteAt G ba0 v2).bind fun v5 =>
    if v5 = (32 : Int32) then
    (g_i G ba0 10 7).bind fun v28 =>
    (g_put G ba0 10 7 (.int (v28 + (1 : Int32)))).bind fun G33 =>
    f_X10_advance_L0 n G33 ba0
    else
    (g_i G ba0 10 7).bind fun v15 =>
    (g_ob G ba0 10).bind fun u18 =>
    (f_X10_byteAt G ba0 v15).bind fun v18 =>
    if v18 = (10 : Int32) then
    (g_i G ba0 10 7).bind fun v28 =>
    (g_put G ba0 10 7 (.int (v28 + (1 : Int32)))).bind fun G33 =>
    f_X10_advance_L0 n G33 ba0
    else
    (g_i G ba0 10 7).bind fun v41 =>
    (g_put G ba0 10 6 (.int v41)).bind fun G44 =>
    (g_put G44 ba0 10 9 (.int (0 : Int32))).bind fun G49 =>
    (g_i G49 ba0 10 7).bind fun v54 =>
    (g_ob G49 ba0 10).bind fun u57 =>
    (f_X10_byteAt G49 ba0 v54).bind fun v57 =>
    if v57 = (-1 : Int32) then
    (g_put G49 ba0 10 8 (.int (0 : Int32))).bind fun G68 =>
    some G68
    else
    (f_X10_within G49 v57 (97 : Int32) (122 : Int32)).bind fun v79 =>
    if v79 = 0 then
    (f_X10_within G49 v57 (48 : Int32) (57 : Int32)).bind fun v120 =>
    if v120 = 0 then
    (g_i G49 ba0 10 7).bind fun v227 =>
    (g_put G49 ba0 10 7 (.int (v227 + (1 : Int32)))).bind fun G232 =>
    if v57 = (59 : Int32) then
    (g_put G232 ba0 10 8 (.int (3 : Int32))).bind fun G247 =>
    some G247
    else
    (g_put G232 ba0 10 8 (.int (4 : Int32))).bind fun G247 =>
    some G247
    else
    f_X10_advance_L126 g_N G49 ba0
    else
    (g_ob G49 ba0 10).bind fun u86 =>
    (f_X10_takesLetters G49 ba0).bind fun G86 =>
    (g_i G86 ba0 10 7).bind fun v91 =>
    (g_i G86 ba0 10 6).bind fun v95 =>
    if (v91 - v95) ≤ (8 : Int32) then
    (g_put G86 ba0 10 8 (.int (1 : Int32))).bind fun G109 =>
    some G109
    else
    (g_put G86 ba0 10 8 (.int (4 : Int32))).bind fun G109 =>
    some G109
def f_X10_advance (G : gH) (a0 : Nat) : Option gH :=
    f_X10_advance_L0 g_N G a0
def f_X10_isWord_L32 (G : gH) : Nat → Nat → Nat → Int32 → Int32 → Option Int32
  | 0, _, _, _, _ => none
  | n + 1, ba0, bs1, bx2, bx3 =>
    (f_J0_length_8abf5 G bs1).bind fun v34 =>
    if v34 ≤ bx3 then
    g_z bx2
    else
    if bx2 = 0 then
    g_z bx2
    else
    (g_r G ba0 10 3).bind fun v45 =>
    (g_i G ba0 10 6).bind fun v49 =>
    (g_ald 2 G v45 (v49 + bx3)).bind fun v54 =>
    (f_J0_charAt_5068e G bs1 bx3).bind fun v57 =>
    if v54 = v57 then
    f_X10_isWord_L32 G n ba0 bs1 (1 : Int32) (bx3 + (1 : Int32))
    else
    f_X10_isWord_L32 G n ba0 bs1 (0 : Int32) (bx3 + (1 : Int32))
def f_X10_isWord (G : gH) (a0 : Nat) (s1 : Nat) : Option Int32 :=
    (g_i G a0 10 8).bind fun v1 =>
    if v1 = (1 : Int32) then
    (g_i G a0 10 7).bind fun v9 =>
    (g_i G a0 10 6).bind fun v13 =>
    (f_J0_length_8abf5 G s1).bind fun v18 =>
    if (v9 - v13) = v18 then
    f_X10_isWord_L32 G g_N a0 s1 (1 : Int32) (0 : Int32)
    else
    f_X10_isWord_L32 G g_N a0 s1 (0 : Int32) (0 : Int32)
    else
    f_X10_isWord_L32 G g_N a0 s1 (0 : Int32) (0 : Int32)
def f_X10_failsAt (G : gH) (a0 : Nat) (x1 : Int32) (x2 : Int32) : Option (gH × Int32) :=
    (g_i G a0 10 11).bind fun v1 =>
    if v1 = 0 then
    (g_put G a0 10 11 (.int x1)).bind fun G9 =>
    (g_put G9 a0 10 12 (.int x2)).bind fun G14 =>
    some (G14, (0 : Int32))
    else
    some (G, (0 : Int32))
def f_X10_fails (G : gH) (a0 : Nat) (x1 : Int32) : Option (gH × Int32) :=
    (g_i G a0 10 6).bind fun v3 =>
    (g_ob G a0 10).bind fun u6 =>
    (f_X10_failsAt G a0 x1 v3).bind fun q6 =>
    (g_z q6.2).bind fun w9 => some (q6.1, w9)
def f_X10_starts (G : gH) (a0 : Nat) (x1 : Int32) (x2 : Int32) : Option (gH × Int32) :=
    if x2 = 0 then
    (g_ob G a0 10).bind fun u6 =>
    (f_X10_fails G a0 x1).bind fun q6 =>
    (g_z q6.2).bind fun w9 => some (q6.1, w9)
    else
    (g_ob G a0 10).bind fun u11 =>
    (f_X10_advance G a0).bind fun G11 =>
    some (G11, (1 : Int32))
def f_X10_takes (G : gH) (a0 : Nat) (x1 : Int32) (x2 : Int32) : Option (gH × Int32) :=
    (g_i G a0 10 8).bind fun v1 =>
    if v1 = (2 : Int32) then
    (g_i G a0 10 9).bind fun v15 =>
    (f_X10_within G v15 x1 x2).bind fun v20 =>
    if v20 = 0 then
    (g_ob G a0 10).bind fun u28 =>
    (f_X10_fails G a0 (3 : Int32)).bind fun q28 =>
    (g_z q28.2).bind fun w31 => some (q28.1, w31)
    else
    (g_i G a0 10 9).bind fun v34 =>
    (g_put G a0 10 13 (.int v34)).bind fun G37 =>
    (g_ob G37 a0 10).bind fun u41 =>
    (f_X10_advance G37 a0).bind fun G41 =>
    some (G41, (1 : Int32))
    else
    (g_ob G a0 10).bind fun u10 =>
    (f_X10_fails G a0 (1 : Int32)).bind fun q10 =>
    (g_z q10.2).bind fun w13 => some (q10.1, w13)
def f_X10_closes (G : gH) (a0 : Nat) : Option (gH × Int32) :=
    (g_i G a0 10 8).bind fun v3 =>
    if v3 = (3 : Int32) then
    (g_ob G a0 10).bind fun u15 =>
    (f_X10_starts G a0 (1 : Int32) (1 : Int32)).bind fun q15 =>
    (g_z q15.2).bind fun w18 => some (q15.1, w18)
    else
    (g_ob G a0 10).bind fun u15 =>
    (f_X10_starts G a0 (1 : Int32) (0 : Int32)).bind fun q15 =>
    (g_z q15.2).bind fun w18 => some (q15.1, w18)
def f_X10_named_L3 (G : gH) : Nat → Nat → Int32 → Int64 → Int32 → Option Int32
  | 0, _, _, _, _ => none
  | n + 1, ba0, bx1, bx2, bx4 =>
    if bx1 ≤ bx4 then
    some (-1 : Int32)
    else
    (g_lald G ba0 bx4).bind fun v12 =>
    if (lg_cmp v12 bx2) = 0 then
    some bx4
    else
    f_X10_named_L3 G n ba0 bx1 bx2 (bx4 + (1 : Int32))
def f_X10_named (G : gH) (a0 : Nat) (x1 : Int32) (x2 : Int64) : Option Int32 :=
    f_X10_named_L3 G g_N a0 x1 x2 (0 : Int32)
def f_X10_badLine_J47 (G : gH) (ba0 : Nat) : Option (gH × Int32) :=
    (g_r G ba0 10 1).bind fun v50 =>
    (g_ald 0 G v50 (0 : Int32)).bind fun v54 =>
    (g_ob G ba0 10).bind fun u57 =>
    (f_X10_takes G ba0 (0 : Int32) (v54 - (1 : Int32))).bind fun q57 =>
    if q57.2 = 0 then
    some (q57.1, (0 : Int32))
    else
    (g_r q57.1 ba0 10 1).bind fun v66 =>
    (g_i q57.1 ba0 10 13).bind fun v72 =>
    (g_ast 0 q57.1 v66 ((103 : Int32) + v72) (1 : Int32)).bind fun G77 =>
    some (G77, (1 : Int32))
def f_X10_badLine (G : gH) (a0 : Nat) : Option (gH × Int32) :=
    (g_ob G a0 10).bind fun u1 =>
    (f_X10_advance G a0).bind fun G1 =>
    (g_i G1 a0 10 8).bind fun v5 =>
    if v5 = (2 : Int32) then
    (g_i G1 a0 10 9).bind fun v13 =>
    (g_r G1 a0 10 1).bind fun v17 =>
    (g_ald 0 G1 v17 (0 : Int32)).bind fun v21 =>
    if v21 ≤ v13 then
    f_X10_badLine_J47 G1 a0
    else
    (g_r G1 a0 10 1).bind fun v26 =>
    (g_i G1 a0 10 9).bind fun v32 =>
    (g_ald 0 G1 v26 ((103 : Int32) + v32)).bind fun v36 =>
    if v36 = (1 : Int32) then
    (g_ob G1 a0 10).bind fun u43 =>
    (f_X10_fails G1 a0 (2 : Int32)).bind fun q43 =>
    (g_z q43.2).bind fun w46 => some (q43.1, w46)
    else
    f_X10_badLine_J47 G1 a0
    else
    f_X10_badLine_J47 G1 a0
def f_X10_fileLine_J67 (G : gH) (ba0 : Nat) (bx1 : Int32) (bx2 : Int64) (z0 : Nat) (z1 : Int32) (z2 : Int32) : Option (gH × Int32) :=
    (g_ob G z0 10).bind fun u67 =>
    (f_X10_starts G z0 z1 z2).bind fun q67 =>
    if q67.2 = 0 then
    some (q67.1, (0 : Int32))
    else
    (g_r q67.1 ba0 10 15).bind fun v76 =>
    (g_last q67.1 v76 bx1 bx2).bind fun G81 =>
    (g_r G81 ba0 10 1).bind fun v83 =>
    (g_ald 0 G81 v83 (2 : Int32)).bind fun v88 =>
    (g_ast 0 G81 v83 (2 : Int32) (v88 + (1 : Int32))).bind fun G91 =>
    some (G91, (1 : Int32))
def f_X10_fileLine_J20 (G : gH) (ba0 : Nat) (bx1 : Int32) (z0 : Nat) (z1 : Int32) (z2 : Int32) : Option (gH × Int32) :=
    (g_ob G z0 10).bind fun u20 =>
    (f_X10_starts G z0 z1 z2).bind fun q20 =>
    if q20.2 = 0 then
    some (q20.1, (0 : Int32))
    else
    (g_i q20.1 ba0 10 8).bind fun v29 =>
    if v29 = (1 : Int32) then
    (g_j q20.1 ba0 10 10).bind fun v43 =>
    (g_r q20.1 ba0 10 15).bind fun v50 =>
    (f_X10_named q20.1 v50 bx1 v43).bind fun v55 =>
    if v55 = (-1 : Int32) then
    f_X10_fileLine_J67 q20.1 ba0 bx1 v43 ba0 (2 : Int32) (1 : Int32)
    else
    f_X10_fileLine_J67 q20.1 ba0 bx1 v43 ba0 (2 : Int32) (0 : Int32)
    else
    (g_ob q20.1 ba0 10).bind fun u38 =>
    (f_X10_fails q20.1 ba0 (1 : Int32)).bind fun q38 =>
    (g_z q38.2).bind fun w41 => some (q38.1, w41)
def f_X10_fileLine (G : gH) (a0 : Nat) : Option (gH × Int32) :=
    (g_r G a0 10 1).bind fun v1 =>
    (g_ald 0 G v1 (2 : Int32)).bind fun v5 =>
    if (10 : Int32) ≤ v5 then
    f_X10_fileLine_J20 G a0 v5 a0 (5 : Int32) (0 : Int32)
    else
    f_X10_fileLine_J20 G a0 v5 a0 (5 : Int32) (1 : Int32)
def f_X10_takesFile (G : gH) (a0 : Nat) : Option (gH × Int32) :=
    (g_i G a0 10 8).bind fun v1 =>
    if v1 = (1 : Int32) then
    (g_r G a0 10 15).bind fun v16 =>
    (g_r G a0 10 1).bind fun v20 =>
    (g_ald 0 G v20 (2 : Int32)).bind fun v24 =>
    (g_j G a0 10 10).bind fun v26 =>
    (f_X10_named G v16 v24 v26).bind fun v29 =>
    (g_put G a0 10 16 (.int v29)).bind fun G32 =>
    (g_i G32 a0 10 16).bind fun v38 =>
    if v38 = (-1 : Int32) then
    (g_ob G32 a0 10).bind fun u50 =>
    (f_X10_starts G32 a0 (4 : Int32) (0 : Int32)).bind fun q50 =>
    (g_z q50.2).bind fun w53 => some (q50.1, w53)
    else
    (g_ob G32 a0 10).bind fun u50 =>
    (f_X10_starts G32 a0 (4 : Int32) (1 : Int32)).bind fun q50 =>
    (g_z q50.2).bind fun w53 => some (q50.1, w53)
    else
    (g_ob G a0 10).bind fun u10 =>
    (f_X10_fails G a0 (1 : Int32)).bind fun q10 =>
    (g_z q10.2).bind fun w13 => some (q10.1, w13)
def f_X10_head_J49 (G : gH) (ba0 : Nat) (z0 : Int32) : Option (gH × Int32) :=
    (g_r G ba0 10 1).bind fun v51 =>
    (g_i G ba0 10 13).bind fun v56 =>
    (g_ast 0 G v51 (0 : Int32) v56).bind fun G59 =>
    (g_ob G59 ba0 10).bind fun u63 =>
    (f_X10_takes G59 ba0 (0 : Int32) z0).bind fun q63 =>
    if q63.2 = 0 then
    some (q63.1, (0 : Int32))
    else
    (g_r q63.1 ba0 10 1).bind fun v72 =>
    (g_i q63.1 ba0 10 13).bind fun v77 =>
    (g_ast 0 q63.1 v72 (1 : Int32) v77).bind fun G80 =>
    (g_ob G80 ba0 10).bind fun u82 =>
    (f_X10_closes G80 ba0).bind fun q82 =>
    (g_z q82.2).bind fun w85 => some (q82.1, w85)
def f_X10_head (G : gH) (a0 : Nat) : Option (gH × Int32) :=
    (g_ob G a0 10).bind fun u5 =>
    (f_X10_isWord G a0 0).bind fun v5 =>
    (g_ob G a0 10).bind fun u8 =>
    (f_X10_starts G a0 (1 : Int32) v5).bind fun q8 =>
    if q8.2 = 0 then
    some (q8.1, (0 : Int32))
    else
    (g_ob q8.1 a0 10).bind fun u19 =>
    (f_X10_takes q8.1 a0 (8 : Int32) (96 : Int32)).bind fun q19 =>
    if q19.2 = 0 then
    some (q19.1, (0 : Int32))
    else
    (g_i q19.1 a0 10 13).bind fun v28 =>
    if (16 : Int32) ≤ (v28 / (2 : Int32)) then
    f_X10_head_J49 q19.1 a0 (16 : Int32)
    else
    (g_i q19.1 a0 10 13).bind fun v39 =>
    f_X10_head_J49 q19.1 a0 (v39 / (2 : Int32))
def f_X10_errorPosition (G : gH) (a0 : Nat) : Option (gH × Int32) :=
    (g_put G a0 10 0 (.int (0 : Int32))).bind fun G2 =>
    (g_i G2 a0 10 12).bind fun v6 =>
    some (G2, v6)
def f_X10_find_L37 : Nat → gH → Nat → Int32 → Option (gH × Int32)
  | 0, _, _, _ => none
  | n + 1, G, ba0, bx1 =>
    (g_i G ba0 10 7).bind fun v39 =>
    (g_ob G ba0 10).bind fun u42 =>
    (f_X10_byteAt G ba0 v39).bind fun v42 =>
    if v42 = (32 : Int32) then
    (g_i G ba0 10 7).bind fun v52 =>
    (g_put G ba0 10 7 (.int (v52 + (1 : Int32)))).bind fun G57 =>
    f_X10_find_L37 n G57 ba0 bx1
    else
    if bx1 = 0 then
    some (G, (-1 : Int32))
    else
    if (8 : Int32) < bx1 then
    some (G, (-1 : Int32))
    else
    (g_i G ba0 10 7).bind fun v74 =>
    (g_i G ba0 10 5).bind fun v78 =>
    if v78 ≤ v74 then
    (g_r G ba0 10 2).bind fun v89 =>
    (g_r G ba0 10 1).bind fun v93 =>
    (g_ald 0 G v93 (2 : Int32)).bind fun v97 =>
    (g_j G ba0 10 10).bind fun v99 =>
    (f_X10_named G v89 v97 v99).bind fun v102 =>
    some (G, v102)
    else
    some (G, (-1 : Int32))
def f_X10_find (G : gH) (a0 : Nat) : Option (gH × Int32) :=
    (g_put G a0 10 0 (.int (0 : Int32))).bind fun G2 =>
    (g_i G2 a0 10 4).bind fun v7 =>
    (g_put G2 a0 10 5 (.int v7)).bind fun G10 =>
    (g_put G10 a0 10 4 (.int (0 : Int32))).bind fun G15 =>
    (g_put G15 a0 10 6 (.int (0 : Int32))).bind fun G20 =>
    (g_put G20 a0 10 7 (.int (0 : Int32))).bind fun G25 =>
    (g_ob G25 a0 10).bind fun u29 =>
    (f_X10_takesLetters G25 a0).bind fun G29 =>
    (g_i G29 a0 10 7).bind fun v33 =>
    f_X10_find_L37 g_N G29 a0 v33
def f_X10_mainMany (G : gH) (a0 : Nat) : Option Int32 :=
    (g_r G a0 10 1).bind fun v1 =>
    (g_ald 0 G v1 (0 : Int32)).bind fun v5 =>
    (g_r G a0 10 1).bind fun v7 =>
    (g_ald 0 G v7 (1 : Int32)).bind fun v11 =>
    some (v5 - v11)
def f_X10_isMain (G : gH) (a0 : Nat) (x1 : Int32) : Option Int32 :=
    (g_ob G a0 10).bind fun u2 =>
    (f_X10_mainMany G a0).bind fun v2 =>
    if v2 ≤ x1 then
    some (0 : Int32)
    else
    some (1 : Int32)
def f_X10_placeOf (G : gH) (a0 : Nat) (x1 : Int32) : Option Int32 :=
    (g_r G a0 10 1).bind fun v1 =>
    (g_ald 0 G v1 ((679 : Int32) + x1)).bind fun v9 =>
    if v9 ≤ 0 then
    some x1
    else
    (g_r G a0 10 1).bind fun v14 =>
    (g_ald 0 G v14 ((679 : Int32) + x1)).bind fun v22 =>
    some (v22 - (1 : Int32))
def f_X10_canRead_L5 (G : gH) : Nat → Nat → Int32 → Int32 → Int32 → Int32 → Option Int32
  | 0, _, _, _, _, _ => none
  | n + 1, ba0, bx1, bx2, bx3, bx4 =>
    if (bx1 + bx2) ≤ bx4 then
    g_z bx3
    else
    if bx3 = 0 then
    f_X10_canRead_L5 G n ba0 bx1 bx2 (0 : Int32) (bx4 + (1 : Int32))
    else
    (g_r G ba0 10 1).bind fun v18 =>
    (g_ob G ba0 10).bind fun u27 =>
    (f_X10_placeOf G ba0 bx4).bind fun v27 =>
    (g_ald 0 G v18 ((199 : Int32) + v27)).bind fun v31 =>
    if v31 = 0 then
    f_X10_canRead_L5 G n ba0 bx1 bx2 (1 : Int32) (bx4 + (1 : Int32))
    else
    f_X10_canRead_L5 G n ba0 bx1 bx2 (0 : Int32) (bx4 + (1 : Int32))
def f_X10_canRead (G : gH) (a0 : Nat) (x1 : Int32) (x2 : Int32) : Option Int32 :=
    f_X10_canRead_L5 G g_N a0 x1 x2 (1 : Int32) x1
def f_X10_lays (G : gH) (a0 : Nat) (x1 : Int32) (x2 : Int32) (x3 : Int32) (x4 : Int32) (x5 : Int32) : Option gH :=
    (g_r G a0 10 1).bind fun v1 =>
    (g_ast 0 G v1 ((7 : Int32) + x1) x2).bind fun G9 =>
    (g_r G9 a0 10 1).bind fun v11 =>
    (g_ast 0 G9 v11 ((295 : Int32) + x1) (x3 + (1 : Int32))).bind fun G22 =>
    (g_r G22 a0 10 1).bind fun v24 =>
    (g_ast 0 G22 v24 ((391 : Int32) + x1) (x4 + (1 : Int32))).bind fun G36 =>
    (g_r G36 a0 10 1).bind fun v38 =>
    (g_ast 0 G36 v38 ((487 : Int32) + x1) (x5 + (1 : Int32))).bind fun G50 =>
    some G50
def f_X10_writesBlock_J86 (k59 : gH → Nat → Int32 → Int32 → Int32 → Int32 → Int32 → Int32 → Option gH) (G : gH) (ba0 : Nat) (bx1 : Int32) (bx2 : Int32) (bx3 : Int32) (bx4 : Int32) (bx5 : Int32) (bx6 : Int32) : Option gH :=
    (g_r G ba0 10 1).bind fun v87 =>
    (g_ald 0 G v87 ((7 : Int32) + bx6)).bind fun v95 =>
    if v95 = 0 then
    (g_ob G ba0 10).bind fun u106 =>
    (f_X10_lays G ba0 bx6 (3 : Int32) bx2 (-1 : Int32) (-1 : Int32)).bind fun G106 =>
    k59 G106 ba0 bx1 bx2 bx3 bx4 bx5 (bx6 + (1 : Int32))
    else
    k59 G ba0 bx1 bx2 bx3 bx4 bx5 (bx6 + (1 : Int32))
def f_X10_writesBlock_L59 : Nat → gH → Nat → Int32 → Int32 → Int32 → Int32 → Int32 → Int32 → Option gH
  | 0, _, _, _, _, _, _, _, _ => none
  | n + 1, G, ba0, bx1, bx2, bx3, bx4, bx5, bx6 =>
    (g_r G ba0 10 1).bind fun v60 =>
    (g_ald 0 G v60 ((7 : Int32) + bx6)).bind fun v68 =>
    if v68 = 0 then
    (g_r G ba0 10 1).bind fun v73 =>
    (g_ald 0 G v73 ((103 : Int32) + bx6)).bind fun v81 =>
    if v81 = (1 : Int32) then
    f_X10_writesBlock_J86 (f_X10_writesBlock_L59 n) G ba0 bx1 bx2 bx3 bx4 bx5 bx6
    else
    (g_ob G ba0 10).bind fun u123 =>
    (f_X10_lays G ba0 bx6 bx1 bx2 bx3 bx4).bind fun G123 =>
    (g_r G123 ba0 10 1).bind fun v127 =>
    (g_ast 0 G123 v127 ((583 : Int32) + bx6) (bx5 + (1 : Int32))).bind fun G140 =>
    (g_r G140 ba0 10 1).bind fun v142 =>
    (g_ast 0 G140 v142 ((679 : Int32) + bx5) (bx6 + (1 : Int32))).bind fun G155 =>
    some G155
    else
    f_X10_writesBlock_J86 (f_X10_writesBlock_L59 n) G ba0 bx1 bx2 bx3 bx4 bx5 bx6
def f_X10_writesBlock (G : gH) (a0 : Nat) (x1 : Int32) (x2 : Int32) (x3 : Int32) (x4 : Int32) : Option gH :=
    (g_r G a0 10 1).bind fun v1 =>
    (g_ald 0 G v1 (4 : Int32)).bind fun v5 =>
    (g_r G a0 10 1).bind fun v9 =>
    (g_ald 0 G v9 (4 : Int32)).bind fun v14 =>
    (g_ast 0 G v9 (4 : Int32) (v14 + (1 : Int32))).bind fun G17 =>
    (g_r G17 a0 10 1).bind fun v19 =>
    (g_ald 0 G17 v19 ((103 : Int32) + v5)).bind fun v27 =>
    if v27 = 0 then
    (g_ob G17 a0 10).bind fun u39 =>
    (f_X10_lays G17 a0 v5 x1 x2 x3 x4).bind fun G39 =>
    some G39
    else
    (g_ob G17 a0 10).bind fun u50 =>
    (f_X10_lays G17 a0 v5 (3 : Int32) x2 (-1 : Int32) (-1 : Int32)).bind fun G50 =>
    (g_ob G50 a0 10).bind fun u54 =>
    (f_X10_mainMany G50 a0).bind fun v54 =>
    f_X10_writesBlock_L59 g_N G50 a0 x1 x2 x3 x4 v5 v54
def f_X10_hasSpare_L62 (G : gH) : Nat → Nat → Int32 → Int32 → Int32 → Option Int32
  | 0, _, _, _, _ => none
  | n + 1, ba0, bx1, bx2, bx3 =>
    (g_r G ba0 10 1).bind fun v64 =>
    (g_ald 0 G v64 (4 : Int32)).bind fun v68 =>
    if (v68 + bx1) ≤ bx3 then
    if bx2 < 0 then
    some (0 : Int32)
    else
    some (1 : Int32)
    else
    (g_r G ba0 10 1).bind fun v76 =>
    (g_ald 0 G v76 ((103 : Int32) + bx3)).bind fun v83 =>
    f_X10_hasSpare_L62 G n ba0 bx1 (bx2 - v83) (bx3 + (1 : Int32))
def f_X10_hasSpare_L7 (G : gH) : Nat → Nat → Int32 → Int32 → Int32 → Option Int32
  | 0, _, _, _, _ => none
  | n + 1, ba0, bx1, bx2, bx3 =>
    (g_r G ba0 10 1).bind fun v9 =>
    (g_ald 0 G v9 (0 : Int32)).bind fun v13 =>
    if v13 ≤ bx3 then
    (g_r G ba0 10 1).bind fun v56 =>
    (g_ald 0 G v56 (4 : Int32)).bind fun v60 =>
    f_X10_hasSpare_L62 G g_N ba0 bx1 bx2 v60
    else
    (g_r G ba0 10 1).bind fun v19 =>
    (g_ald 0 G v19 ((7 : Int32) + bx3)).bind fun v26 =>
    if v26 = 0 then
    (g_r G ba0 10 1).bind fun v31 =>
    (g_ald 0 G v31 ((103 : Int32) + bx3)).bind fun v38 =>
    if v38 = 0 then
    f_X10_hasSpare_L7 G n ba0 bx1 (bx2 + (1 : Int32)) (bx3 + (1 : Int32))
    else
    f_X10_hasSpare_L7 G n ba0 bx1 (bx2 + (0 : Int32)) (bx3 + (1 : Int32))
    else
    f_X10_hasSpare_L7 G n ba0 bx1 (bx2 + (0 : Int32)) (bx3 + (1 : Int32))
def f_X10_hasSpare (G : gH) (a0 : Nat) (x1 : Int32) : Option Int32 :=
    (g_ob G a0 10).bind fun u3 =>
    (f_X10_mainMany G a0).bind fun v3 =>
    f_X10_hasSpare_L7 G g_N a0 x1 (0 : Int32) v3
def f_X10_hasRoom (G : gH) (a0 : Nat) (x1 : Int32) : Option Int32 :=
    (g_r G a0 10 1).bind fun v1 =>
    (g_ald 0 G v1 (4 : Int32)).bind fun v5 =>
    (g_ob G a0 10).bind fun u9 =>
    (f_X10_mainMany G a0).bind fun v9 =>
    if v9 < (v5 + x1) then
    some (0 : Int32)
    else
    some (1 : Int32)
def f_X10_directoryLong (G : gH) (x0 : Int32) : Option Int32 :=
    some ((1 : Int32) + ((x0 - (1 : Int32)) / (4 : Int32)))
def f_X10_of (G : gH) (a0 : Nat) (x1 : Int32) (x2 : Int32) : Option Int32 :=
    (g_r G a0 10 1).bind fun v1 =>
    (g_ald 0 G v1 (((1255 : Int32) + ((25 : Int32) * x1)) + x2)).bind fun v14 =>
    some v14
def f_X10_sets (G : gH) (a0 : Nat) (x1 : Int32) (x2 : Int32) (x3 : Int32) : Option gH :=
    (g_r G a0 10 1).bind fun v1 =>
    (g_ast 0 G v1 (((1255 : Int32) + ((25 : Int32) * x1)) + x2) x3).bind fun G15 =>
    some G15
def f_X10_ofVersion (G : gH) (a0 : Nat) (x1 : Int32) (x2 : Int32) : Option Int32 :=
    (g_r G a0 10 1).bind fun v1 =>
    (g_ald 0 G v1 (((775 : Int32) + ((5 : Int32) * x1)) + x2)).bind fun v13 =>
    some v13
def f_X10_latest (G : gH) (a0 : Nat) : Option Int32 :=
    (g_r G a0 10 1).bind fun v1 =>
    (g_ald 0 G v1 (3 : Int32)).bind fun v5 =>
    some (v5 - (1 : Int32))
def f_X10_isOpen (G : gH) (a0 : Nat) : Option Int32 :=
    (g_ob G a0 10).bind fun u1 =>
    (f_X10_latest G a0).bind fun v1 =>
    if v1 < 0 then
    some (0 : Int32)
    else
    (g_ob G a0 10).bind fun u9 =>
    (f_X10_latest G a0).bind fun v9 =>
    (g_ob G a0 10).bind fun u13 =>
    (f_X10_of G a0 v9 (0 : Int32)).bind fun v13 =>
    if v13 = 0 then
    some (1 : Int32)
    else
    some (0 : Int32)
def f_X10_entryOf_L2 (G : gH) : Nat → Nat → Int32 → Int32 → Int32 → Option Int32
  | 0, _, _, _, _ => none
  | n + 1, ba0, bx1, bx2, bx3 =>
    (g_ob G ba0 10).bind fun u6 =>
    (f_X10_of G ba0 bx1 (2 : Int32)).bind fun v6 =>
    if v6 ≤ bx3 then
    some (-1 : Int32)
    else
    (g_ob G ba0 10).bind fun u19 =>
    (f_X10_of G ba0 bx1 ((5 : Int32) + ((2 : Int32) * bx3))).bind fun v19 =>
    if v19 = bx2 then
    some bx3
    else
    f_X10_entryOf_L2 G n ba0 bx1 bx2 (bx3 + (1 : Int32))
def f_X10_entryOf (G : gH) (a0 : Nat) (x1 : Int32) (x2 : Int32) : Option Int32 :=
    f_X10_entryOf_L2 G g_N a0 x1 x2 (0 : Int32)
def f_X10_canReadDirectory (G : gH) (a0 : Nat) (x1 : Int32) : Option Int32 :=
    (g_ob G a0 10).bind fun u3 =>
    (f_X10_of G a0 x1 (3 : Int32)).bind fun v3 =>
    if v3 ≤ 0 then
    some (0 : Int32)
    else
    (g_ob G a0 10).bind fun u13 =>
    (f_X10_of G a0 x1 (3 : Int32)).bind fun v13 =>
    (g_ob G a0 10).bind fun u21 =>
    (f_X10_of G a0 x1 (2 : Int32)).bind fun v21 =>
    (f_X10_directoryLong G v21).bind fun v24 =>
    (g_ob G a0 10).bind fun u27 =>
    (f_X10_canRead G a0 (v13 - (1 : Int32)) v24).bind fun v27 =>
    if v27 = 0 then
    some (0 : Int32)
    else
    some (1 : Int32)
def f_X10_searches_J82 (k12 : gH → Nat → Int32 → Int32 → Option gH) (G : gH) (ba0 : Nat) (bx2 : Int32) (bx3 : Int32) (z0 : Int32) : Option gH :=
    if bx3 = 0 then
    k12 G ba0 z0 (bx2 + (-1 : Int32))
    else
    (g_r G ba0 10 17).bind fun v88 =>
    (g_i G ba0 10 18).bind fun v92 =>
    (g_ast 0 G v88 v92 bx2).bind fun G96 =>
    (g_i G96 ba0 10 18).bind fun v99 =>
    (g_put G96 ba0 10 18 (.int (v99 + (1 : Int32)))).bind fun G104 =>
    k12 G104 ba0 z0 (bx2 + (-1 : Int32))
def f_X10_searches_J52 (k12 : gH → Nat → Int32 → Int32 → Option gH) (G : gH) (ba0 : Nat) (bx2 : Int32) (z0 : Int32) : Option gH :=
    if z0 = 0 then
    (g_ob G ba0 10).bind fun u60 =>
    (f_X10_of G ba0 bx2 (0 : Int32)).bind fun v60 =>
    if v60 = (1 : Int32) then
    (g_r G ba0 10 1).bind fun v68 =>
    (g_ald 0 G v68 (5 : Int32)).bind fun v72 =>
    if v72 = (1 : Int32) then
    f_X10_searches_J82 k12 G ba0 bx2 z0 (1 : Int32)
    else
    f_X10_searches_J82 k12 G ba0 bx2 z0 (0 : Int32)
    else
    f_X10_searches_J82 k12 G ba0 bx2 z0 (1 : Int32)
    else
    f_X10_searches_J82 k12 G ba0 bx2 z0 (1 : Int32)
def f_X10_searches_L12 : Nat → gH → Nat → Int32 → Int32 → Option gH
  | 0, _, _, _, _ => none
  | n + 1, G, ba0, bx1, bx2 =>
    if bx2 < 0 then
    some G
    else
    if bx1 = 0 then
    some G
    else
    (g_ob G ba0 10).bind fun u23 =>
    (f_X10_of G ba0 bx2 (0 : Int32)).bind fun v23 =>
    if v23 = 0 then
    f_X10_searches_J52 (f_X10_searches_L12 n) G ba0 bx2 (1 : Int32)
    else
    (g_ob G ba0 10).bind fun u32 =>
    (f_X10_of G ba0 bx2 (0 : Int32)).bind fun v32 =>
    if v32 = (1 : Int32) then
    (g_ob G ba0 10).bind fun u41 =>
    (f_X10_canReadDirectory G ba0 bx2).bind fun v41 =>
    if v41 = 0 then
    f_X10_searches_J52 (f_X10_searches_L12 n) G ba0 bx2 (0 : Int32)
    else
    f_X10_searches_J52 (f_X10_searches_L12 n) G ba0 bx2 (1 : Int32)
    else
    f_X10_searches_J52 (f_X10_searches_L12 n) G ba0 bx2 (0 : Int32)
def f_X10_searches (G : gH) (a0 : Nat) : Option gH :=
    (g_put G a0 10 18 (.int (0 : Int32))).bind fun G2 =>
    (g_ob G2 a0 10).bind fun u8 =>
    (f_X10_latest G2 a0).bind fun v8 =>
    f_X10_searches_L12 g_N G2 a0 (1 : Int32) v8
def f_X10_isReached_L4 (G : gH) : Nat → Nat → Int32 → Int32 → Int32 → Option Int32
  | 0, _, _, _, _ => none
  | n + 1, ba0, bx1, bx2, bx3 =>
    (g_i G ba0 10 18).bind fun v6 =>
    if v6 ≤ bx3 then
    g_z bx2
    else
    if bx2 = 0 then
    (g_r G ba0 10 17).bind fun v17 =>
    (g_ald 0 G v17 bx3).bind fun v21 =>
    if v21 = bx1 then
    f_X10_isReached_L4 G n ba0 bx1 (1 : Int32) (bx3 + (1 : Int32))
    else
    f_X10_isReached_L4 G n ba0 bx1 (0 : Int32) (bx3 + (1 : Int32))
    else
    f_X10_isReached_L4 G n ba0 bx1 (1 : Int32) (bx3 + (1 : Int32))
def f_X10_isReached (G : gH) (a0 : Nat) (x1 : Int32) : Option Int32 :=
    f_X10_isReached_L4 G g_N a0 x1 (0 : Int32) (0 : Int32)
def f_X10_seeks_J53 (k12 : gH → Nat → Int32 → Int32 → Int32 → Option gH) (G : gH) (ba0 : Nat) (bx1 : Int32) (bx2 : Int32) (bx3 : Int32) (bx4 : Int32) (z0 : Int32) : Option gH :=
    if z0 = (-1 : Int32) then
    k12 G ba0 bx1 bx2 (bx3 + (1 : Int32))
    else
    (g_put G ba0 10 19 (.int bx4)).bind fun G64 =>
    (g_ob G64 ba0 10).bind fun u79 =>
    (f_X10_of G64 ba0 bx4 (((5 : Int32) + ((2 : Int32) * z0)) + (1 : Int32))).bind fun v79 =>
    (g_put G64 ba0 10 20 (.int v79)).bind fun G82 =>
    k12 G82 ba0 bx1 bx2 (bx3 + (1 : Int32))
def f_X10_seeks_L12 : Nat → gH → Nat → Int32 → Int32 → Int32 → Option gH
  | 0, _, _, _, _, _ => none
  | n + 1, G, ba0, bx1, bx2, bx3 =>
    (g_i G ba0 10 18).bind fun v14 =>
    if v14 ≤ bx3 then
    some G
    else
    (g_i G ba0 10 19).bind fun v21 =>
    if v21 = (-1 : Int32) then
    (g_r G ba0 10 17).bind fun v29 =>
    (g_ald 0 G v29 bx3).bind fun v33 =>
    if bx2 ≤ v33 then
    f_X10_seeks_J53 (f_X10_seeks_L12 n) G ba0 bx1 bx2 bx3 v33 (-1 : Int32)
    else
    (g_ob G ba0 10).bind fun u46 =>
    (f_X10_entryOf G ba0 v33 bx1).bind fun v46 =>
    f_X10_seeks_J53 (f_X10_seeks_L12 n) G ba0 bx1 bx2 bx3 v33 v46
    else
    some G
def f_X10_seeks (G : gH) (a0 : Nat) (x1 : Int32) (x2 : Int32) : Option gH :=
    (g_put G a0 10 19 (.int (-1 : Int32))).bind fun G2 =>
    (g_put G2 a0 10 20 (.int (-1 : Int32))).bind fun G7 =>
    f_X10_seeks_L12 g_N G7 a0 x1 x2 (0 : Int32)
def f_X10_finds (G : gH) (a0 : Nat) (x1 : Int32) : Option gH :=
    (g_ob G a0 10).bind fun u1 =>
    (f_X10_searches G a0).bind fun G1 =>
    (g_ob G1 a0 10).bind fun u8 =>
    (f_X10_seeks G1 a0 x1 (12 : Int32)).bind fun G8 =>
    some G8
def f_X10_isReadable (G : gH) (a0 : Nat) (x1 : Int32) : Option Int32 :=
    (g_ob G a0 10).bind fun u4 =>
    (f_X10_ofVersion G a0 x1 (1 : Int32)).bind fun v4 =>
    (g_ob G a0 10).bind fun u10 =>
    (f_X10_ofVersion G a0 x1 (2 : Int32)).bind fun v10 =>
    (g_ob G a0 10).bind fun u13 =>
    (f_X10_canRead G a0 v4 v10).bind fun v13 =>
    g_z v13
def f_X10_filesThere_L8 : Nat → gH → Nat → Int32 → Int32 → Int32 → Option (gH × Int32)
  | 0, _, _, _, _, _ => none
  | n + 1, G, ba0, bx1, bx2, bx3 =>
    (g_r G ba0 10 1).bind fun v10 =>
    (g_ald 0 G v10 (2 : Int32)).bind fun v14 =>
    if v14 ≤ bx3 then
    some (G, bx2)
    else
    (g_ob G ba0 10).bind fun u21 =>
    (f_X10_seeks G ba0 bx3 bx1).bind fun G21 =>
    (g_i G21 ba0 10 20).bind fun v26 =>
    if v26 = (-1 : Int32) then
    f_X10_filesThere_L8 n G21 ba0 bx1 (bx2 + (0 : Int32)) (bx3 + (1 : Int32))
    else
    f_X10_filesThere_L8 n G21 ba0 bx1 (bx2 + (1 : Int32)) (bx3 + (1 : Int32))
def f_X10_filesThere (G : gH) (a0 : Nat) (x1 : Int32) : Option (gH × Int32) :=
    (g_ob G a0 10).bind fun u1 =>
    (f_X10_searches G a0).bind fun G1 =>
    f_X10_filesThere_L8 g_N G1 a0 x1 (0 : Int32) (0 : Int32)
def f_X10_goodFiles_L8 : Nat → gH → Nat → Int32 → Int32 → Option (gH × Int32)
  | 0, _, _, _, _ => none
  | n + 1, G, ba0, bx1, bx2 =>
    (g_r G ba0 10 1).bind fun v10 =>
    (g_ald 0 G v10 (2 : Int32)).bind fun v14 =>
    if v14 ≤ bx2 then
    some (G, bx1)
    else
    (g_ob G ba0 10).bind fun u22 =>
    (f_X10_seeks G ba0 bx2 (12 : Int32)).bind fun G22 =>
    (g_i G22 ba0 10 20).bind fun v27 =>
    if v27 = (-1 : Int32) then
    f_X10_goodFiles_L8 n G22 ba0 (bx1 ||| (0 : Int32)) (bx2 + (1 : Int32))
    else
    (g_i G22 ba0 10 20).bind fun v36 =>
    (g_ob G22 ba0 10).bind fun u39 =>
    (f_X10_isReadable G22 ba0 v36).bind fun v39 =>
    if v39 = 0 then
    f_X10_goodFiles_L8 n G22 ba0 (bx1 ||| (0 : Int32)) (bx2 + (1 : Int32))
    else
    f_X10_goodFiles_L8 n G22 ba0 (bx1 ||| ((1 : Int32) <<< (bx2 &&& 31))) (bx2 + (1 : Int32))
def f_X10_goodFiles (G : gH) (a0 : Nat) : Option (gH × Int32) :=
    (g_ob G a0 10).bind fun u1 =>
    (f_X10_searches G a0).bind fun G1 =>
    f_X10_goodFiles_L8 g_N G1 a0 (0 : Int32) (0 : Int32)
def f_X10_ones_L4 (G : gH) : Nat → Int32 → Int32 → Option Int32
  | 0, _, _ => none
  | n + 1, bx1, bx2 =>
    if bx2 = 0 then
    some bx1
    else
    f_X10_ones_L4 G n (bx1 + (1 : Int32)) (bx2 &&& (bx2 - (1 : Int32)))
def f_X10_ones (G : gH) (x0 : Int32) : Option Int32 :=
    f_X10_ones_L4 G g_N (0 : Int32) x0
def f_X10_entriesWith (G : gH) (a0 : Nat) (x1 : Int32) : Option Int32 :=
    (g_ob G a0 10).bind fun u1 =>
    (f_X10_isOpen G a0).bind fun v1 =>
    if v1 = 0 then
    some (1 : Int32)
    else
    (g_ob G a0 10).bind fun u11 =>
    (f_X10_latest G a0).bind fun v11 =>
    (g_ob G a0 10).bind fun u15 =>
    (f_X10_of G a0 v11 (2 : Int32)).bind fun v15 =>
    (g_ob G a0 10).bind fun u20 =>
    (f_X10_latest G a0).bind fun v20 =>
    (g_ob G a0 10).bind fun u24 =>
    (f_X10_entryOf G a0 v20 x1).bind fun v24 =>
    if v24 = (-1 : Int32) then
    some (v15 + (1 : Int32))
    else
    some (v15 + (0 : Int32))
def f_X10_whyWrite_J20 (G : gH) (ba0 : Nat) (bx1 : Int32) (bx2 : Int32) : Option Int32 :=
    (g_ob G ba0 10).bind fun u24 =>
    (f_X10_entriesWith G ba0 bx1).bind fun v24 =>
    (f_X10_directoryLong G v24).bind fun v27 =>
    (g_ob G ba0 10).bind fun u31 =>
    (f_X10_hasRoom G ba0 (bx2 + v27)).bind fun v31 =>
    if v31 = 0 then
    some (4 : Int32)
    else
    (g_ob G ba0 10).bind fun u43 =>
    (f_X10_hasSpare G ba0 bx2).bind fun v43 =>
    if v43 = 0 then
    some (5 : Int32)
    else
    some (0 : Int32)
def f_X10_whyWrite (G : gH) (a0 : Nat) (x1 : Int32) (x2 : Int32) : Option Int32 :=
    (g_ob G a0 10).bind fun u1 =>
    (f_X10_isOpen G a0).bind fun v1 =>
    if v1 = 0 then
    (g_r G a0 10 1).bind fun v8 =>
    (g_ald 0 G v8 (3 : Int32)).bind fun v12 =>
    if v12 = (12 : Int32) then
    some (3 : Int32)
    else
    f_X10_whyWrite_J20 G a0 x1 x2
    else
    f_X10_whyWrite_J20 G a0 x1 x2
def f_X10_whyErase_J35 (G : gH) (ba0 : Nat) (bx1 : Int32) : Option (gH × Int32) :=
    (g_ob G ba0 10).bind fun u38 =>
    (f_X10_entriesWith G ba0 bx1).bind fun v38 =>
    (f_X10_directoryLong G v38).bind fun v41 =>
    (g_ob G ba0 10).bind fun u44 =>
    (f_X10_hasRoom G ba0 v41).bind fun v44 =>
    if v44 = 0 then
    some (G, (4 : Int32))
    else
    some (G, (0 : Int32))
def f_X10_whyErase (G : gH) (a0 : Nat) (x1 : Int32) : Option (gH × Int32) :=
    (g_ob G a0 10).bind fun u2 =>
    (f_X10_finds G a0 x1).bind fun G2 =>
    (g_i G2 a0 10 20).bind fun v6 =>
    if v6 = (-1 : Int32) then
    some (G2, (2 : Int32))
    else
    (g_ob G2 a0 10).bind fun u16 =>
    (f_X10_isOpen G2 a0).bind fun v16 =>
    if v16 = 0 then
    (g_r G2 a0 10 1).bind fun v23 =>
    (g_ald 0 G2 v23 (3 : Int32)).bind fun v27 =>
    if v27 = (12 : Int32) then
    some (G2, (3 : Int32))
    else
    f_X10_whyErase_J35 G2 a0 x1
    else
    f_X10_whyErase_J35 G2 a0 x1
def f_X10_whyClose (G : gH) (a0 : Nat) : Option Int32 :=
    (g_ob G a0 10).bind fun u1 =>
    (f_X10_isOpen G a0).bind fun v1 =>
    if v1 = 0 then
    some (1 : Int32)
    else
    (g_ob G a0 10).bind fun u11 =>
    (f_X10_latest G a0).bind fun v11 =>
    (g_ob G a0 10).bind fun u15 =>
    (f_X10_of G a0 v11 (2 : Int32)).bind fun v15 =>
    (f_X10_directoryLong G v15).bind fun v18 =>
    (g_ob G a0 10).bind fun u24 =>
    (f_X10_hasRoom G a0 v18).bind fun v24 =>
    if v24 = 0 then
    some (4 : Int32)
    else
    (g_ob G a0 10).bind fun u36 =>
    (f_X10_hasSpare G a0 v18).bind fun v36 =>
    if v36 = 0 then
    some (5 : Int32)
    else
    some (0 : Int32)
def f_X10_begins_L19 : Nat → gH → Nat → Int32 → Int32 → Option (gH × Int32)
  | 0, _, _, _, _ => none
  | n + 1, G, ba0, bx1, bx2 =>
    if (25 : Int32) ≤ bx2 then
    (g_r G ba0 10 1).bind fun v42 =>
    (g_ald 0 G v42 (4 : Int32)).bind fun v46 =>
    (g_ob G ba0 10).bind fun u47 =>
    (f_X10_sets G ba0 bx1 (1 : Int32) v46).bind fun G47 =>
    some (G47, bx1)
    else
    (g_ob G ba0 10).bind fun u29 =>
    (f_X10_sets G ba0 bx1 bx2 (0 : Int32)).bind fun G29 =>
    f_X10_begins_L19 n G29 ba0 bx1 (bx2 + (1 : Int32))
def f_X10_begins (G : gH) (a0 : Nat) : Option (gH × Int32) :=
    (g_r G a0 10 1).bind fun v1 =>
    (g_ald 0 G v1 (3 : Int32)).bind fun v5 =>
    (g_r G a0 10 1).bind fun v8 =>
    (g_ald 0 G v8 (3 : Int32)).bind fun v13 =>
    (g_ast 0 G v8 (3 : Int32) (v13 + (1 : Int32))).bind fun G16 =>
    f_X10_begins_L19 g_N G16 a0 v5 (0 : Int32)
def f_X10_enters_J51 (G : gH) (ba0 : Nat) (bx1 : Int32) (bx2 : Int32) (bx3 : Int32) (bx4 : Int32) : Option gH :=
    (g_ob G ba0 10).bind fun u60 =>
    (f_X10_sets G ba0 bx3 ((5 : Int32) + ((2 : Int32) * bx4)) bx1).bind fun G60 =>
    (g_ob G60 ba0 10).bind fun u74 =>
    (f_X10_sets G60 ba0 bx3 (((5 : Int32) + ((2 : Int32) * bx4)) + (1 : Int32)) bx2).bind fun G74 =>
    some G74
def f_X10_enters_J18 (G : gH) (ba0 : Nat) (bx1 : Int32) (bx2 : Int32) (z0 : Int32) : Option gH :=
    (g_ob G ba0 10).bind fun u22 =>
    (f_X10_entryOf G ba0 z0 bx1).bind fun v22 =>
    if v22 = (-1 : Int32) then
    (g_ob G ba0 10).bind fun u36 =>
    (f_X10_of G ba0 z0 (2 : Int32)).bind fun v36 =>
    (g_ob G ba0 10).bind fun u48 =>
    (f_X10_sets G ba0 z0 (2 : Int32) (v36 + (1 : Int32))).bind fun G48 =>
    f_X10_enters_J51 G48 ba0 bx1 bx2 z0 v36
    else
    f_X10_enters_J51 G ba0 bx1 bx2 z0 v22
def f_X10_enters (G : gH) (a0 : Nat) (x1 : Int32) (x2 : Int32) : Option gH :=
    (g_ob G a0 10).bind fun u1 =>
    (f_X10_isOpen G a0).bind fun v1 =>
    if v1 = 0 then
    (g_ob G a0 10).bind fun u15 =>
    (f_X10_begins G a0).bind fun q15 =>
    f_X10_enters_J18 q15.1 a0 x1 x2 q15.2
    else
    (g_ob G a0 10).bind fun u8 =>
    (f_X10_latest G a0).bind fun v8 =>
    f_X10_enters_J18 G a0 x1 x2 v8
def f_X10_writes_L96 : Nat → gH → Nat → Int32 → Int32 → Int32 → Option (gH × Int32)
  | 0, _, _, _, _, _ => none
  | n + 1, G, ba0, bx2, bx4, bx6 =>
    if bx2 ≤ bx6 then
    some (G, bx4)
    else
    (g_ob G ba0 10).bind fun u105 =>
    (f_X10_latest G ba0).bind fun v105 =>
    (g_ob G ba0 10).bind fun u112 =>
    (f_X10_writesBlock G ba0 (1 : Int32) v105 bx4 bx6).bind fun G112 =>
    f_X10_writes_L96 n G112 ba0 bx2 bx4 (bx6 + (1 : Int32))
def f_X10_writes (G : gH) (a0 : Nat) (x1 : Int32) (x2 : Int32) (x3 : Int32) : Option (gH × Int32) :=
    (g_r G a0 10 1).bind fun v1 =>
    (g_ald 0 G v1 (6 : Int32)).bind fun v6 =>
    (g_r G a0 10 1).bind fun v10 =>
    (g_ald 0 G v10 (6 : Int32)).bind fun v16 =>
    (g_ast 0 G v10 (6 : Int32) (v16 + (1 : Int32))).bind fun G19 =>
    (g_ob G19 a0 10).bind fun u24 =>
    (f_X10_enters G19 a0 x1 v6).bind fun G24 =>
    (g_r G24 a0 10 1).bind fun v38 =>
    (g_ast 0 G24 v38 ((775 : Int32) + ((5 : Int32) * v6)) x1).bind fun G44 =>
    (g_r G44 a0 10 1).bind fun v46 =>
    (g_r G44 a0 10 1).bind fun v54 =>
    (g_ald 0 G44 v54 (4 : Int32)).bind fun v58 =>
    (g_ast 0 G44 v46 (((775 : Int32) + ((5 : Int32) * v6)) + (1 : Int32)) v58).bind fun G59 =>
    (g_r G59 a0 10 1).bind fun v61 =>
    (g_ast 0 G59 v61 (((775 : Int32) + ((5 : Int32) * v6)) + (2 : Int32)) x2).bind fun G69 =>
    (g_r G69 a0 10 1).bind fun v71 =>
    (g_ast 0 G69 v71 (((775 : Int32) + ((5 : Int32) * v6)) + (3 : Int32)) x3).bind fun G79 =>
    (g_r G79 a0 10 1).bind fun v81 =>
    (g_ob G79 a0 10).bind fun u89 =>
    (f_X10_latest G79 a0).bind fun v89 =>
    (g_ast 0 G79 v81 (((775 : Int32) + ((5 : Int32) * v6)) + (4 : Int32)) v89).bind fun G92 =>
    f_X10_writes_L96 g_N G92 a0 x2 v6 (0 : Int32)
def f_X10_erases (G : gH) (a0 : Nat) (x1 : Int32) : Option gH :=
    (g_ob G a0 10).bind fun u3 =>
    (f_X10_enters G a0 x1 (-1 : Int32)).bind fun G3 =>
    some G3
def f_X10_closedBefore_L4 (G : gH) : Nat → Nat → Int32 → Option Int32
  | 0, _, _ => none
  | n + 1, ba0, bx2 =>
    if bx2 < 0 then
    some bx2
    else
    (g_ob G ba0 10).bind fun u11 =>
    (f_X10_of G ba0 bx2 (0 : Int32)).bind fun v11 =>
    if v11 = (1 : Int32) then
    some bx2
    else
    f_X10_closedBefore_L4 G n ba0 (bx2 + (-1 : Int32))
def f_X10_closedBefore (G : gH) (a0 : Nat) (x1 : Int32) : Option Int32 :=
    f_X10_closedBefore_L4 G g_N a0 (x1 - (1 : Int32))
def f_X10_closesOpen_L44 : Nat → gH → Nat → Int32 → Int32 → Int32 → Option gH
  | 0, _, _, _, _, _ => none
  | n + 1, G, ba0, bx1, bx2, bx3 =>
    if bx2 ≤ bx3 then
    (g_ob G ba0 10).bind fun u67 =>
    (f_X10_sets G ba0 bx1 (0 : Int32) (1 : Int32)).bind fun G67 =>
    some G67
    else
    (g_ob G ba0 10).bind fun u54 =>
    (f_X10_writesBlock G ba0 (2 : Int32) bx1 (-1 : Int32) bx3).bind fun G54 =>
    f_X10_closesOpen_L44 n G54 ba0 bx1 bx2 (bx3 + (1 : Int32))
def f_X10_closesOpen (G : gH) (a0 : Nat) : Option gH :=
    (g_ob G a0 10).bind fun u1 =>
    (f_X10_latest G a0).bind fun v1 =>
    (g_ob G a0 10).bind fun u8 =>
    (f_X10_of G a0 v1 (2 : Int32)).bind fun v8 =>
    (f_X10_directoryLong G v8).bind fun v11 =>
    (g_r G a0 10 1).bind fun v19 =>
    (g_ald 0 G v19 (4 : Int32)).bind fun v23 =>
    (g_ob G a0 10).bind fun u26 =>
    (f_X10_sets G a0 v1 (3 : Int32) (v23 + (1 : Int32))).bind fun G26 =>
    (g_ob G26 a0 10).bind fun u34 =>
    (f_X10_closedBefore G26 a0 v1).bind fun v34 =>
    (g_ob G26 a0 10).bind fun u39 =>
    (f_X10_sets G26 a0 v1 (4 : Int32) (v34 + (1 : Int32))).bind fun G39 =>
    f_X10_closesOpen_L44 g_N G39 a0 v1 v11 (0 : Int32)
def f_X10_isOutdone_L6 (G : gH) : Nat → Nat → Int32 → Int32 → Int32 → Option Int32
  | 0, _, _, _, _ => none
  | n + 1, ba0, bx1, bx2, bx3 =>
    (g_r G ba0 10 1).bind fun v8 =>
    (g_ald 0 G v8 (6 : Int32)).bind fun v13 =>
    if v13 ≤ bx3 then
    g_z bx2
    else
    if bx2 = 0 then
    (g_ob G ba0 10).bind fun u24 =>
    (f_X10_ofVersion G ba0 bx3 (4 : Int32)).bind fun v24 =>
    (g_ob G ba0 10).bind fun u28 =>
    (f_X10_latest G ba0).bind fun v28 =>
    if v24 = v28 then
    (g_ob G ba0 10).bind fun u37 =>
    (f_X10_ofVersion G ba0 bx3 (0 : Int32)).bind fun v37 =>
    (g_ob G ba0 10).bind fun u43 =>
    (f_X10_ofVersion G ba0 bx1 (0 : Int32)).bind fun v43 =>
    if v37 = v43 then
    (g_ob G ba0 10).bind fun u51 =>
    (f_X10_isReadable G ba0 bx3).bind fun v51 =>
    if v51 = 0 then
    f_X10_isOutdone_L6 G n ba0 bx1 (0 : Int32) (bx3 + (1 : Int32))
    else
    f_X10_isOutdone_L6 G n ba0 bx1 (1 : Int32) (bx3 + (1 : Int32))
    else
    f_X10_isOutdone_L6 G n ba0 bx1 (0 : Int32) (bx3 + (1 : Int32))
    else
    f_X10_isOutdone_L6 G n ba0 bx1 (0 : Int32) (bx3 + (1 : Int32))
    else
    f_X10_isOutdone_L6 G n ba0 bx1 (1 : Int32) (bx3 + (1 : Int32))
def f_X10_isOutdone (G : gH) (a0 : Nat) (x1 : Int32) : Option Int32 :=
    f_X10_isOutdone_L6 G g_N a0 x1 (0 : Int32) (x1 + (1 : Int32))
def f_X10_badMany_L4 (G : gH) : Nat → Nat → Int32 → Int32 → Option Int32
  | 0, _, _, _ => none
  | n + 1, ba0, bx1, bx2 =>
    (g_r G ba0 10 1).bind fun v6 =>
    (g_ald 0 G v6 (0 : Int32)).bind fun v10 =>
    if v10 ≤ bx2 then
    some bx1
    else
    (g_r G ba0 10 1).bind fun v16 =>
    (g_ald 0 G v16 ((103 : Int32) + bx2)).bind fun v23 =>
    f_X10_badMany_L4 G n ba0 (bx1 + v23) (bx2 + (1 : Int32))
def f_X10_badMany (G : gH) (a0 : Nat) : Option Int32 :=
    f_X10_badMany_L4 G g_N a0 (0 : Int32) (0 : Int32)
def f_X10_emptySpares_L7 (G : gH) : Nat → Nat → Int32 → Int32 → Option Int32
  | 0, _, _, _ => none
  | n + 1, ba0, bx1, bx2 =>
    (g_r G ba0 10 1).bind fun v9 =>
    (g_ald 0 G v9 (0 : Int32)).bind fun v13 =>
    if v13 ≤ bx2 then
    some bx1
    else
    (g_r G ba0 10 1).bind fun v19 =>
    (g_ald 0 G v19 ((7 : Int32) + bx2)).bind fun v26 =>
    if v26 = 0 then
    f_X10_emptySpares_L7 G n ba0 (bx1 + (1 : Int32)) (bx2 + (1 : Int32))
    else
    f_X10_emptySpares_L7 G n ba0 (bx1 + (0 : Int32)) (bx2 + (1 : Int32))
def f_X10_emptySpares (G : gH) (a0 : Nat) : Option Int32 :=
    (g_ob G a0 10).bind fun u3 =>
    (f_X10_mainMany G a0).bind fun v3 =>
    f_X10_emptySpares_L7 G g_N a0 (0 : Int32) v3
def f_X10_size_J21 (G : gH) (ba0 : Nat) (bx1 : Int32) (z0 : Nat) (z1 : Int32) : Option (gH × Int32) :=
    (g_ob G z0 10).bind fun u22 =>
    (f_X10_throwsIf G z0 z1 (1 : Int32)).bind fun q22 =>
    if q22.2 = 0 then
    if bx1 = (5 : Int32) then
    (g_ob q22.1 ba0 10).bind fun u77 =>
    (f_X10_emptySpares q22.1 ba0).bind fun v77 =>
    some (q22.1, v77)
    else
    if bx1 = (6 : Int32) then
    (g_ob q22.1 ba0 10).bind fun u82 =>
    (f_X10_badMany q22.1 ba0).bind fun v82 =>
    some (q22.1, v82)
    else
    if bx1 = (7 : Int32) then
    (g_ob q22.1 ba0 10).bind fun u89 =>
    (f_X10_filesThere q22.1 ba0 (12 : Int32)).bind fun q89 =>
    some (q89.1, q89.2)
    else
    if bx1 = (8 : Int32) then
    (g_ob q22.1 ba0 10).bind fun u94 =>
    (f_X10_goodFiles q22.1 ba0).bind fun q94 =>
    (f_X10_ones q94.1 q94.2).bind fun v97 =>
    some (q94.1, v97)
    else
    if bx1 = (9 : Int32) then
    (g_ob q22.1 ba0 10).bind fun u102 =>
    (f_X10_isOpen q22.1 ba0).bind fun v102 =>
    if v102 = 0 then
    some (q22.1, (0 : Int32))
    else
    some (q22.1, (1 : Int32))
    else
    if bx1 = (10 : Int32) then
    (g_r q22.1 ba0 10 1).bind fun v115 =>
    (g_ald 0 q22.1 v115 (5 : Int32)).bind fun v119 =>
    some (q22.1, v119)
    else
    if bx1 = (11 : Int32) then
    (g_i q22.1 ba0 10 24).bind fun v122 =>
    some (q22.1, v122)
    else
    if bx1 = (12 : Int32) then
    (g_r q22.1 ba0 10 1).bind fun v127 =>
    (g_ald 0 q22.1 v127 (6 : Int32)).bind fun v132 =>
    some (q22.1, v132)
    else
    (g_r q22.1 ba0 10 1).bind fun v135 =>
    (g_ald 0 q22.1 v135 bx1).bind fun v139 =>
    some (q22.1, v139)
    else
    some (q22.1, (0 : Int32))
def f_X10_size (G : gH) (a0 : Nat) (x1 : Int32) : Option (gH × Int32) :=
    (g_put G a0 10 0 (.int (0 : Int32))).bind fun G2 =>
    (f_X10_within G2 x1 (0 : Int32) (12 : Int32)).bind fun v10 =>
    if v10 = 0 then
    f_X10_size_J21 G2 a0 x1 a0 (1 : Int32)
    else
    f_X10_size_J21 G2 a0 x1 a0 (0 : Int32)
def f_X10_no (G : gH) (a0 : Nat) (x1 : Int32) (x2 : Int32) : Option (gH × Int32) :=
    (g_put G a0 10 0 (.int (0 : Int32))).bind fun G2 =>
    (f_X10_within G2 x1 (0 : Int32) (x2 - (1 : Int32))).bind fun v11 =>
    if v11 = 0 then
    (g_ob G2 a0 10).bind fun u23 =>
    (f_X10_throwsIf G2 a0 (1 : Int32) (1 : Int32)).bind fun q23 =>
    (g_z q23.2).bind fun w26 => some (q23.1, w26)
    else
    (g_ob G2 a0 10).bind fun u23 =>
    (f_X10_throwsIf G2 a0 (0 : Int32) (1 : Int32)).bind fun q23 =>
    (g_z q23.2).bind fun w26 => some (q23.1, w26)
def f_X10_noBlock (G : gH) (a0 : Nat) (x1 : Int32) : Option (gH × Int32) :=
    (g_r G a0 10 1).bind fun v3 =>
    (g_ald 0 G v3 (0 : Int32)).bind fun v7 =>
    (g_ob G a0 10).bind fun u8 =>
    (f_X10_no G a0 x1 v7).bind fun q8 =>
    (g_z q8.2).bind fun w11 => some (q8.1, w11)
def f_X10_noSession (G : gH) (a0 : Nat) (x1 : Int32) : Option (gH × Int32) :=
    (g_r G a0 10 1).bind fun v3 =>
    (g_ald 0 G v3 (3 : Int32)).bind fun v7 =>
    (g_ob G a0 10).bind fun u8 =>
    (f_X10_no G a0 x1 v7).bind fun q8 =>
    (g_z q8.2).bind fun w11 => some (q8.1, w11)
def f_X10_noFile (G : gH) (a0 : Nat) (x1 : Int32) : Option (gH × Int32) :=
    (g_r G a0 10 1).bind fun v3 =>
    (g_ald 0 G v3 (2 : Int32)).bind fun v7 =>
    (g_ob G a0 10).bind fun u8 =>
    (f_X10_no G a0 x1 v7).bind fun q8 =>
    (g_z q8.2).bind fun w11 => some (q8.1, w11)
def f_X10_block_J24 (G : gH) (ba0 : Nat) (bx1 : Int32) (bx2 : Int32) (z0 : Nat) (z1 : Int32) : Option (gH × Int32) :=
    (g_ob G z0 10).bind fun u25 =>
    (f_X10_throwsIf G z0 z1 (2 : Int32)).bind fun q25 =>
    if q25.2 = 0 then
    if bx2 = (0 : Int32) then
    (g_r q25.1 ba0 10 1).bind fun v73 =>
    (g_ald 0 q25.1 v73 ((7 : Int32) + bx1)).bind fun v80 =>
    some (q25.1, v80)
    else
    if bx2 = (1 : Int32) then
    (g_r q25.1 ba0 10 1).bind fun v83 =>
    (g_ald 0 q25.1 v83 ((103 : Int32) + bx1)).bind fun v90 =>
    some (q25.1, v90)
    else
    if bx2 = (2 : Int32) then
    (g_r q25.1 ba0 10 1).bind fun v93 =>
    (g_ald 0 q25.1 v93 ((199 : Int32) + bx1)).bind fun v101 =>
    some (q25.1, v101)
    else
    if bx2 = (3 : Int32) then
    (g_r q25.1 ba0 10 1).bind fun v104 =>
    (g_ald 0 q25.1 v104 ((295 : Int32) + bx1)).bind fun v112 =>
    some (q25.1, (v112 - (1 : Int32)))
    else
    if bx2 = (4 : Int32) then
    (g_r q25.1 ba0 10 1).bind fun v117 =>
    (g_ald 0 q25.1 v117 ((391 : Int32) + bx1)).bind fun v125 =>
    some (q25.1, (v125 - (1 : Int32)))
    else
    if bx2 = (5 : Int32) then
    (g_r q25.1 ba0 10 1).bind fun v130 =>
    (g_ald 0 q25.1 v130 ((487 : Int32) + bx1)).bind fun v138 =>
    some (q25.1, (v138 - (1 : Int32)))
    else
    (g_r q25.1 ba0 10 1).bind fun v143 =>
    (g_ald 0 q25.1 v143 ((583 : Int32) + bx1)).bind fun v151 =>
    some (q25.1, (v151 - (1 : Int32)))
    else
    some (q25.1, (0 : Int32))
def f_X10_block (G : gH) (a0 : Nat) (x1 : Int32) (x2 : Int32) : Option (gH × Int32) :=
    (g_ob G a0 10).bind fun u2 =>
    (f_X10_noBlock G a0 x1).bind fun q2 =>
    if q2.2 = 0 then
    (f_X10_within q2.1 x2 (0 : Int32) (6 : Int32)).bind fun v13 =>
    if v13 = 0 then
    f_X10_block_J24 q2.1 a0 x1 x2 a0 (1 : Int32)
    else
    f_X10_block_J24 q2.1 a0 x1 x2 a0 (0 : Int32)
    else
    some (q2.1, (0 : Int32))
def f_X10_place (G : gH) (a0 : Nat) (x1 : Int32) : Option (gH × Int32) :=
    (g_ob G a0 10).bind fun u2 =>
    (f_X10_noBlock G a0 x1).bind fun q2 =>
    if q2.2 = 0 then
    (g_ob q2.1 a0 10).bind fun u12 =>
    (f_X10_isMain q2.1 a0 x1).bind fun v12 =>
    if v12 = 0 then
    some (q2.1, (-1 : Int32))
    else
    (g_r q2.1 a0 10 1).bind fun v19 =>
    (g_ald 0 q2.1 v19 ((7 : Int32) + x1)).bind fun v26 =>
    if v26 = 0 then
    some (q2.1, (-1 : Int32))
    else
    (g_ob q2.1 a0 10).bind fun u36 =>
    (f_X10_placeOf q2.1 a0 x1).bind fun v36 =>
    some (q2.1, v36)
    else
    some (q2.1, (0 : Int32))
def f_X10_writtenBy_L5 (G : gH) : Nat → Nat → Int32 → Int32 → Int32 → Int32 → Option Int32
  | 0, _, _, _, _, _ => none
  | n + 1, ba0, bx1, bx2, bx3, bx4 =>
    (g_r G ba0 10 1).bind fun v8 =>
    (g_ald 0 G v8 (0 : Int32)).bind fun v12 =>
    if v12 ≤ bx4 then
    some bx3
    else
    (g_ob G ba0 10).bind fun u20 =>
    (f_X10_isMain G ba0 bx4).bind fun v20 =>
    if v20 = bx2 then
    (g_r G ba0 10 1).bind fun v28 =>
    (g_ald 0 G v28 ((295 : Int32) + bx4)).bind fun v37 =>
    if v37 = (bx1 + (1 : Int32)) then
    f_X10_writtenBy_L5 G n ba0 bx1 bx2 (bx3 + (1 : Int32)) (bx4 + (1 : Int32))
    else
    f_X10_writtenBy_L5 G n ba0 bx1 bx2 (bx3 + (0 : Int32)) (bx4 + (1 : Int32))
    else
    f_X10_writtenBy_L5 G n ba0 bx1 bx2 (bx3 + (0 : Int32)) (bx4 + (1 : Int32))
def f_X10_writtenBy (G : gH) (a0 : Nat) (x1 : Int32) (x2 : Int32) : Option Int32 :=
    f_X10_writtenBy_L5 G g_N a0 x1 x2 (0 : Int32) (0 : Int32)
def f_X10_session_J24 (G : gH) (ba0 : Nat) (bx1 : Int32) (bx2 : Int32) (z0 : Nat) (z1 : Int32) : Option (gH × Int32) :=
    (g_ob G z0 10).bind fun u25 =>
    (f_X10_throwsIf G z0 z1 (2 : Int32)).bind fun q25 =>
    if q25.2 = 0 then
    (g_ob q25.1 ba0 10).bind fun u34 =>
    (f_X10_searches q25.1 ba0).bind fun G34 =>
    if bx2 = (0 : Int32) then
    (g_ob G34 ba0 10).bind fun u87 =>
    (f_X10_of G34 ba0 bx1 (0 : Int32)).bind fun v87 =>
    some (G34, v87)
    else
    if bx2 = (1 : Int32) then
    (g_ob G34 ba0 10).bind fun u94 =>
    (f_X10_of G34 ba0 bx1 (1 : Int32)).bind fun v94 =>
    some (G34, v94)
    else
    if bx2 = (2 : Int32) then
    (g_ob G34 ba0 10).bind fun u101 =>
    (f_X10_writtenBy G34 ba0 bx1 (1 : Int32)).bind fun v101 =>
    some (G34, v101)
    else
    if bx2 = (3 : Int32) then
    (g_ob G34 ba0 10).bind fun u108 =>
    (f_X10_of G34 ba0 bx1 (2 : Int32)).bind fun v108 =>
    some (G34, v108)
    else
    if bx2 = (4 : Int32) then
    (g_ob G34 ba0 10).bind fun u115 =>
    (f_X10_of G34 ba0 bx1 (3 : Int32)).bind fun v115 =>
    some (G34, (v115 - (1 : Int32)))
    else
    if bx2 = (5 : Int32) then
    (g_ob G34 ba0 10).bind fun u123 =>
    (f_X10_canReadDirectory G34 ba0 bx1).bind fun v123 =>
    if v123 = 0 then
    some (G34, (0 : Int32))
    else
    some (G34, (1 : Int32))
    else
    if bx2 = (6 : Int32) then
    (g_ob G34 ba0 10).bind fun u138 =>
    (f_X10_of G34 ba0 bx1 (4 : Int32)).bind fun v138 =>
    some (G34, (v138 - (1 : Int32)))
    else
    if bx2 = (7 : Int32) then
    (g_ob G34 ba0 10).bind fun u146 =>
    (f_X10_isReached G34 ba0 bx1).bind fun v146 =>
    if v146 = 0 then
    some (G34, (0 : Int32))
    else
    some (G34, (1 : Int32))
    else
    (g_ob G34 ba0 10).bind fun u161 =>
    (f_X10_writtenBy G34 ba0 bx1 (0 : Int32)).bind fun v161 =>
    some (G34, v161)
    else
    some (q25.1, (0 : Int32))
def f_X10_session (G : gH) (a0 : Nat) (x1 : Int32) (x2 : Int32) : Option (gH × Int32) :=
    (g_ob G a0 10).bind fun u2 =>
    (f_X10_noSession G a0 x1).bind fun q2 =>
    if q2.2 = 0 then
    (f_X10_within q2.1 x2 (0 : Int32) (8 : Int32)).bind fun v13 =>
    if v13 = 0 then
    f_X10_session_J24 q2.1 a0 x1 x2 a0 (1 : Int32)
    else
    f_X10_session_J24 q2.1 a0 x1 x2 a0 (0 : Int32)
    else
    some (q2.1, (0 : Int32))
def f_X10_entry_J23 (G : gH) (ba0 : Nat) (bx1 : Int32) (bx2 : Int32) (bx3 : Int32) (z0 : Nat) (z1 : Int32) : Option (gH × Int32) :=
    (g_ob G z0 10).bind fun u24 =>
    (f_X10_throwsIf G z0 z1 (2 : Int32)).bind fun q24 =>
    if q24.2 = 0 then
    (g_ob q24.1 ba0 10).bind fun u37 =>
    (f_X10_of q24.1 ba0 bx1 (2 : Int32)).bind fun v37 =>
    (f_X10_within q24.1 bx2 (0 : Int32) (v37 - (1 : Int32))).bind fun v42 =>
    if v42 = 0 then
    some (q24.1, (-1 : Int32))
    else
    (g_ob q24.1 ba0 10).bind fun u59 =>
    (f_X10_of q24.1 ba0 bx1 (((5 : Int32) + ((2 : Int32) * bx2)) + (1 : Int32))).bind fun v59 =>
    if (2 : Int32) ≤ bx3 then
    if v59 = (-1 : Int32) then
    if bx3 = (3 : Int32) then
    some (q24.1, (0 : Int32))
    else
    some (q24.1, (-1 : Int32))
    else
    (g_ob q24.1 ba0 10).bind fun u114 =>
    (f_X10_ofVersion q24.1 ba0 v59 (bx3 - (1 : Int32))).bind fun v114 =>
    some (q24.1, v114)
    else
    if bx3 = 0 then
    (g_ob q24.1 ba0 10).bind fun u80 =>
    (f_X10_of q24.1 ba0 bx1 ((5 : Int32) + ((2 : Int32) * bx2))).bind fun v80 =>
    some (q24.1, v80)
    else
    some (q24.1, v59)
    else
    some (q24.1, (0 : Int32))
def f_X10_entry (G : gH) (a0 : Nat) (x1 : Int32) (x2 : Int32) (x3 : Int32) : Option (gH × Int32) :=
    (g_ob G a0 10).bind fun u2 =>
    (f_X10_noSession G a0 x1).bind fun q2 =>
    if q2.2 = 0 then
    (f_X10_within q2.1 x3 (0 : Int32) (4 : Int32)).bind fun v12 =>
    if v12 = 0 then
    f_X10_entry_J23 q2.1 a0 x1 x2 x3 a0 (1 : Int32)
    else
    f_X10_entry_J23 q2.1 a0 x1 x2 x3 a0 (0 : Int32)
    else
    some (q2.1, (0 : Int32))
def f_X10_versionsOf_L4 (G : gH) : Nat → Nat → Int32 → Int32 → Int32 → Option Int32
  | 0, _, _, _, _ => none
  | n + 1, ba0, bx1, bx2, bx3 =>
    (g_r G ba0 10 1).bind fun v6 =>
    (g_ald 0 G v6 (6 : Int32)).bind fun v11 =>
    if v11 ≤ bx3 then
    some bx2
    else
    (g_ob G ba0 10).bind fun u19 =>
    (f_X10_ofVersion G ba0 bx3 (0 : Int32)).bind fun v19 =>
    if v19 = bx1 then
    f_X10_versionsOf_L4 G n ba0 bx1 (bx2 + (1 : Int32)) (bx3 + (1 : Int32))
    else
    f_X10_versionsOf_L4 G n ba0 bx1 (bx2 + (0 : Int32)) (bx3 + (1 : Int32))
def f_X10_versionsOf (G : gH) (a0 : Nat) (x1 : Int32) : Option Int32 :=
    f_X10_versionsOf_L4 G g_N a0 x1 (0 : Int32) (0 : Int32)
def f_X10_file_J51 (G : gH) (ba0 : Nat) (bx1 : Int32) (bx2 : Int32) (z0 : Int32) : Option (gH × Int32) :=
    if bx2 = (0 : Int32) then
    if z0 = 0 then
    some (G, (0 : Int32))
    else
    some (G, (1 : Int32))
    else
    if bx2 = (1 : Int32) then
    if z0 = 0 then
    some (G, (0 : Int32))
    else
    (g_i G ba0 10 20).bind fun v108 =>
    (g_ob G ba0 10).bind fun u111 =>
    (f_X10_isReadable G ba0 v108).bind fun v111 =>
    if v111 = 0 then
    some (G, (0 : Int32))
    else
    some (G, (1 : Int32))
    else
    if bx2 = (2 : Int32) then
    (g_i G ba0 10 20).bind fun v124 =>
    some (G, v124)
    else
    if bx2 = (3 : Int32) then
    if z0 = 0 then
    some (G, (0 : Int32))
    else
    (g_i G ba0 10 20).bind fun v134 =>
    (g_ob G ba0 10).bind fun u138 =>
    (f_X10_ofVersion G ba0 v134 (2 : Int32)).bind fun v138 =>
    some (G, v138)
    else
    if bx2 = (4 : Int32) then
    if z0 = 0 then
    some (G, (-1 : Int32))
    else
    (g_i G ba0 10 20).bind fun v152 =>
    (g_ob G ba0 10).bind fun u156 =>
    (f_X10_ofVersion G ba0 v152 (3 : Int32)).bind fun v156 =>
    some (G, v156)
    else
    if bx2 = (5 : Int32) then
    (g_i G ba0 10 19).bind fun v165 =>
    some (G, v165)
    else
    (g_ob G ba0 10).bind fun u171 =>
    (f_X10_versionsOf G ba0 bx1).bind fun v171 =>
    some (G, v171)
def f_X10_file_J24 (G : gH) (ba0 : Nat) (bx1 : Int32) (bx2 : Int32) (z0 : Nat) (z1 : Int32) : Option (gH × Int32) :=
    (g_ob G z0 10).bind fun u25 =>
    (f_X10_throwsIf G z0 z1 (2 : Int32)).bind fun q25 =>
    if q25.2 = 0 then
    (g_ob q25.1 ba0 10).bind fun u35 =>
    (f_X10_finds q25.1 ba0 bx1).bind fun G35 =>
    (g_i G35 ba0 10 20).bind fun v39 =>
    if v39 = (-1 : Int32) then
    f_X10_file_J51 G35 ba0 bx1 bx2 (0 : Int32)
    else
    f_X10_file_J51 G35 ba0 bx1 bx2 (1 : Int32)
    else
    some (q25.1, (0 : Int32))
def f_X10_file (G : gH) (a0 : Nat) (x1 : Int32) (x2 : Int32) : Option (gH × Int32) :=
    (g_ob G a0 10).bind fun u2 =>
    (f_X10_noFile G a0 x1).bind fun q2 =>
    if q2.2 = 0 then
    (f_X10_within q2.1 x2 (0 : Int32) (6 : Int32)).bind fun v13 =>
    if v13 = 0 then
    f_X10_file_J24 q2.1 a0 x1 x2 a0 (1 : Int32)
    else
    f_X10_file_J24 q2.1 a0 x1 x2 a0 (0 : Int32)
    else
    some (q2.1, (0 : Int32))
def f_X10_where_J47 (G : gH) (ba0 : Nat) (bx2 : Int32) (z0 : Int32) : Option (gH × Int32) :=
    if z0 = 0 then
    some (G, (-1 : Int32))
    else
    (g_i G ba0 10 20).bind fun v55 =>
    (g_ob G ba0 10).bind fun u59 =>
    (f_X10_ofVersion G ba0 v55 (1 : Int32)).bind fun v59 =>
    (g_ob G ba0 10).bind fun u64 =>
    (f_X10_placeOf G ba0 (v59 + bx2)).bind fun v64 =>
    some (G, v64)
def f_X10_where (G : gH) (a0 : Nat) (x1 : Int32) (x2 : Int32) : Option (gH × Int32) :=
    (g_ob G a0 10).bind fun u2 =>
    (f_X10_noFile G a0 x1).bind fun q2 =>
    if q2.2 = 0 then
    (g_ob q2.1 a0 10).bind fun u12 =>
    (f_X10_finds q2.1 a0 x1).bind fun G12 =>
    (g_i G12 a0 10 20).bind fun v16 =>
    if v16 = (-1 : Int32) then
    f_X10_where_J47 G12 a0 x2 (0 : Int32)
    else
    (g_i G12 a0 10 20).bind fun v27 =>
    (g_ob G12 a0 10).bind fun u31 =>
    (f_X10_ofVersion G12 a0 v27 (2 : Int32)).bind fun v31 =>
    (f_X10_within G12 x2 (0 : Int32) (v31 - (1 : Int32))).bind fun v36 =>
    if v36 = 0 then
    f_X10_where_J47 G12 a0 x2 (0 : Int32)
    else
    f_X10_where_J47 G12 a0 x2 (1 : Int32)
    else
    some (q2.1, (0 : Int32))
def f_X10_defect_L10 : Nat → gH → Nat → Int32 → Int32 → Int32 → Option (gH × Int32)
  | 0, _, _, _, _, _ => none
  | n + 1, G, ba0, bx2, bx3, bx4 =>
    (g_ob G ba0 10).bind fun u13 =>
    (f_X10_mainMany G ba0).bind fun v13 =>
    if v13 ≤ bx4 then
    some (G, (-1 : Int32))
    else
    if bx3 < 0 then
    some (G, (-1 : Int32))
    else
    (g_r G ba0 10 1).bind fun v24 =>
    (g_ald 0 G v24 ((679 : Int32) + bx4)).bind fun v33 =>
    if v33 = 0 then
    f_X10_defect_L10 n G ba0 bx2 bx3 (bx4 + (1 : Int32))
    else
    (g_r G ba0 10 1).bind fun v39 =>
    (g_ald 0 G v39 ((295 : Int32) + bx4)).bind fun v48 =>
    (g_ob G ba0 10).bind fun u52 =>
    (f_X10_of G ba0 (v48 - (1 : Int32)) (0 : Int32)).bind fun v52 =>
    if v52 = (2 : Int32) then
    f_X10_defect_L10 n G ba0 bx2 bx3 (bx4 + (1 : Int32))
    else
    if bx3 = 0 then
    if bx2 = 0 then
    some (G, bx4)
    else
    (g_ob G ba0 10).bind fun u73 =>
    (f_X10_placeOf G ba0 bx4).bind fun v73 =>
    some (G, v73)
    else
    f_X10_defect_L10 n G ba0 bx2 (bx3 + (-1 : Int32)) (bx4 + (1 : Int32))
def f_X10_defect (G : gH) (a0 : Nat) (x1 : Int32) (x2 : Int32) : Option (gH × Int32) :=
    (g_put G a0 10 0 (.int (0 : Int32))).bind fun G2 =>
    f_X10_defect_L10 g_N G2 a0 x2 x1 (0 : Int32)
def f_X10_whyNotWrite_J24 (G : gH) (ba0 : Nat) (bx1 : Int32) (bx2 : Int32) (z0 : Nat) (z1 : Int32) : Option (gH × Int32) :=
    (g_ob G z0 10).bind fun u25 =>
    (f_X10_throwsIf G z0 z1 (2 : Int32)).bind fun q25 =>
    if q25.2 = 0 then
    (g_ob q25.1 ba0 10).bind fun u36 =>
    (f_X10_whyWrite q25.1 ba0 bx1 bx2).bind fun v36 =>
    some (q25.1, v36)
    else
    some (q25.1, (0 : Int32))
def f_X10_whyNotWrite (G : gH) (a0 : Nat) (x1 : Int32) (x2 : Int32) : Option (gH × Int32) :=
    (g_ob G a0 10).bind fun u2 =>
    (f_X10_noFile G a0 x1).bind fun q2 =>
    if q2.2 = 0 then
    (f_X10_within q2.1 x2 (1 : Int32) (8 : Int32)).bind fun v13 =>
    if v13 = 0 then
    f_X10_whyNotWrite_J24 q2.1 a0 x1 x2 a0 (1 : Int32)
    else
    f_X10_whyNotWrite_J24 q2.1 a0 x1 x2 a0 (0 : Int32)
    else
    some (q2.1, (0 : Int32))
def f_X10_riskOf (G : gH) (a0 : Nat) (x1 : Int32) : Option (gH × Int32) :=
    (g_r G a0 10 1).bind fun v1 =>
    (g_ald 0 G v1 ((7 : Int32) + x1)).bind fun v8 =>
    if v8 = 0 then
    some (G, (0 : Int32))
    else
    (g_r G a0 10 1).bind fun v13 =>
    (g_ald 0 G v13 ((199 : Int32) + x1)).bind fun v21 =>
    if v21 = (1 : Int32) then
    some (G, (0 : Int32))
    else
    (g_ob G a0 10).bind fun u29 =>
    (f_X10_goodFiles G a0).bind fun q29 =>
    (g_r q29.1 a0 10 1).bind fun v34 =>
    (g_ast 0 q29.1 v34 ((199 : Int32) + x1) (1 : Int32)).bind fun G43 =>
    (g_ob G43 a0 10).bind fun u45 =>
    (f_X10_goodFiles G43 a0).bind fun q45 =>
    (g_r q45.1 a0 10 1).bind fun v50 =>
    (g_ast 0 q45.1 v50 ((199 : Int32) + x1) (0 : Int32)).bind fun G59 =>
    (f_X10_ones G59 (q29.2 &&& (q45.2 ^^^ (-1 : Int32)))).bind fun v65 =>
    some (G59, v65)
def f_X10_risk (G : gH) (a0 : Nat) (x1 : Int32) : Option (gH × Int32) :=
    (g_ob G a0 10).bind fun u2 =>
    (f_X10_noBlock G a0 x1).bind fun q2 =>
    if q2.2 = 0 then
    (g_ob q2.1 a0 10).bind fun u14 =>
    (f_X10_riskOf q2.1 a0 x1).bind fun q14 =>
    some (q14.1, q14.2)
    else
    some (q2.1, (0 : Int32))
def f_X10_weakest_J39 (k11 : gH → Nat → Int32 → Int32 → Int32 → Option (gH × Int32)) (G : gH) (ba0 : Nat) (bx2 : Int32) (bx3 : Int32) (bx4 : Int32) (z0 : Int32) : Option (gH × Int32) :=
    if bx4 ≤ bx2 then
    k11 G ba0 z0 bx2 (bx3 + (1 : Int32))
    else
    k11 G ba0 z0 bx4 (bx3 + (1 : Int32))
def f_X10_weakest_L11 : Nat → gH → Nat → Int32 → Int32 → Int32 → Option (gH × Int32)
  | 0, _, _, _, _, _ => none
  | n + 1, G, ba0, bx1, bx2, bx3 =>
    (g_r G ba0 10 1).bind fun v13 =>
    (g_ald 0 G v13 (0 : Int32)).bind fun v17 =>
    if v17 ≤ bx3 then
    some (G, bx1)
    else
    (g_ob G ba0 10).bind fun u23 =>
    (f_X10_riskOf G ba0 bx3).bind fun q23 =>
    if q23.2 ≤ bx2 then
    f_X10_weakest_J39 (f_X10_weakest_L11 n) q23.1 ba0 bx2 bx3 q23.2 bx1
    else
    f_X10_weakest_J39 (f_X10_weakest_L11 n) q23.1 ba0 bx2 bx3 q23.2 bx3
def f_X10_weakest (G : gH) (a0 : Nat) : Option (gH × Int32) :=
    (g_put G a0 10 0 (.int (0 : Int32))).bind fun G2 =>
    f_X10_weakest_L11 g_N G2 a0 (0 : Int32) (0 : Int32) (0 : Int32)
def f_X10_filesBefore (G : gH) (a0 : Nat) (x1 : Int32) : Option (gH × Int32) :=
    (g_ob G a0 10).bind fun u2 =>
    (f_X10_noSession G a0 x1).bind fun q2 =>
    if q2.2 = 0 then
    (g_ob q2.1 a0 10).bind fun u14 =>
    (f_X10_filesThere q2.1 a0 x1).bind fun q14 =>
    some (q14.1, q14.2)
    else
    some (q2.1, (0 : Int32))
def f_X10_findsCounting_L32 : Nat → gH → Nat → Int32 → Option gH
  | 0, _, _, _ => none
  | n + 1, G, ba0, bx1 =>
    (g_r G ba0 10 1).bind fun v34 =>
    (g_ald 0 G v34 (2 : Int32)).bind fun v38 =>
    if v38 ≤ bx1 then
    some G
    else
    (g_ob G ba0 10).bind fun u46 =>
    (f_X10_seeks G ba0 bx1 (12 : Int32)).bind fun G46 =>
    (g_i G46 ba0 10 20).bind fun v50 =>
    if v50 = (-1 : Int32) then
    f_X10_findsCounting_L32 n G46 ba0 (bx1 + (1 : Int32))
    else
    (g_r G46 ba0 10 23).bind fun v58 =>
    (g_i G46 ba0 10 20).bind fun v62 =>
    (g_ast 1 G46 v58 v62 (1 : Int32)).bind fun G66 =>
    f_X10_findsCounting_L32 n G66 ba0 (bx1 + (1 : Int32))
def f_X10_findsCounting_L2 : Nat → gH → Nat → Int32 → Option gH
  | 0, _, _, _ => none
  | n + 1, G, ba0, bx1 =>
    (g_r G ba0 10 1).bind fun v4 =>
    (g_ald 0 G v4 (6 : Int32)).bind fun v9 =>
    if v9 ≤ bx1 then
    (g_ob G ba0 10).bind fun u27 =>
    (f_X10_searches G ba0).bind fun G27 =>
    f_X10_findsCounting_L32 g_N G27 ba0 (0 : Int32)
    else
    (g_r G ba0 10 23).bind fun v14 =>
    (g_ast 1 G v14 bx1 (0 : Int32)).bind fun G19 =>
    f_X10_findsCounting_L2 n G19 ba0 (bx1 + (1 : Int32))
def f_X10_findsCounting (G : gH) (a0 : Nat) : Option gH :=
    f_X10_findsCounting_L2 g_N G a0 (0 : Int32)
def f_X10_useOf (G : gH) (a0 : Nat) (x1 : Int32) : Option Int32 :=
    (g_r G a0 10 1).bind fun v1 =>
    (g_ald 0 G v1 ((7 : Int32) + x1)).bind fun v8 =>
    if v8 = (0 : Int32) then
    some (0 : Int32)
    else
    if v8 = (1 : Int32) then
    (g_r G a0 10 23).bind fun v39 =>
    (g_r G a0 10 1).bind fun v43 =>
    (g_ald 0 G v43 ((391 : Int32) + x1)).bind fun v51 =>
    (g_ald 1 G v39 (v51 - (1 : Int32))).bind fun v54 =>
    if v54 = 0 then
    some (2 : Int32)
    else
    some (1 : Int32)
    else
    if v8 = (2 : Int32) then
    some (3 : Int32)
    else
    some (4 : Int32)
def f_X10_spaceBy_L9 : Nat → gH → Nat → Int32 → Int32 → Int32 → Int32 → Option (gH × Int32)
  | 0, _, _, _, _, _, _ => none
  | n + 1, G, ba0, bx1, bx2, bx3, bx4 =>
    (g_r G ba0 10 1).bind fun v12 =>
    (g_ald 0 G v12 (0 : Int32)).bind fun v16 =>
    if v16 ≤ bx4 then
    some (G, bx3)
    else
    (g_ob G ba0 10).bind fun u24 =>
    (f_X10_useOf G ba0 bx4).bind fun v24 =>
    if v24 = bx2 then
    if bx1 = (-1 : Int32) then
    f_X10_spaceBy_L9 n G ba0 bx1 bx2 (bx3 + (1 : Int32)) (bx4 + (1 : Int32))
    else
    (g_r G ba0 10 1).bind fun v37 =>
    (g_ald 0 G v37 ((295 : Int32) + bx4)).bind fun v46 =>
    if v46 = (bx1 + (1 : Int32)) then
    f_X10_spaceBy_L9 n G ba0 bx1 bx2 (bx3 + (1 : Int32)) (bx4 + (1 : Int32))
    else
    f_X10_spaceBy_L9 n G ba0 bx1 bx2 (bx3 + (0 : Int32)) (bx4 + (1 : Int32))
    else
    f_X10_spaceBy_L9 n G ba0 bx1 bx2 (bx3 + (0 : Int32)) (bx4 + (1 : Int32))
def f_X10_spaceBy (G : gH) (a0 : Nat) (x1 : Int32) (x2 : Int32) : Option (gH × Int32) :=
    (g_ob G a0 10).bind fun u1 =>
    (f_X10_findsCounting G a0).bind fun G1 =>
    f_X10_spaceBy_L9 g_N G1 a0 x1 x2 (0 : Int32) (0 : Int32)
def f_X10_space_J20 (G : gH) (ba0 : Nat) (bx1 : Int32) (z0 : Nat) (z1 : Int32) : Option (gH × Int32) :=
    (g_ob G z0 10).bind fun u21 =>
    (f_X10_throwsIf G z0 z1 (1 : Int32)).bind fun q21 =>
    if q21.2 = 0 then
    (g_ob q21.1 ba0 10).bind fun u34 =>
    (f_X10_spaceBy q21.1 ba0 (-1 : Int32) bx1).bind fun q34 =>
    some (q34.1, q34.2)
    else
    some (q21.1, (0 : Int32))
def f_X10_space (G : gH) (a0 : Nat) (x1 : Int32) : Option (gH × Int32) :=
    (g_put G a0 10 0 (.int (0 : Int32))).bind fun G2 =>
    (f_X10_within G2 x1 (0 : Int32) (4 : Int32)).bind fun v9 =>
    if v9 = 0 then
    f_X10_space_J20 G2 a0 x1 a0 (1 : Int32)
    else
    f_X10_space_J20 G2 a0 x1 a0 (0 : Int32)
def f_X10_spaceOf_J23 (G : gH) (ba0 : Nat) (bx1 : Int32) (bx2 : Int32) (z0 : Nat) (z1 : Int32) : Option (gH × Int32) :=
    (g_ob G z0 10).bind fun u24 =>
    (f_X10_throwsIf G z0 z1 (2 : Int32)).bind fun q24 =>
    if q24.2 = 0 then
    (g_ob q24.1 ba0 10).bind fun u37 =>
    (f_X10_spaceBy q24.1 ba0 bx1 bx2).bind fun q37 =>
    some (q37.1, q37.2)
    else
    some (q24.1, (0 : Int32))
def f_X10_spaceOf (G : gH) (a0 : Nat) (x1 : Int32) (x2 : Int32) : Option (gH × Int32) :=
    (g_ob G a0 10).bind fun u2 =>
    (f_X10_noSession G a0 x1).bind fun q2 =>
    if q2.2 = 0 then
    (f_X10_within q2.1 x2 (1 : Int32) (4 : Int32)).bind fun v12 =>
    if v12 = 0 then
    f_X10_spaceOf_J23 q2.1 a0 x1 x2 a0 (1 : Int32)
    else
    f_X10_spaceOf_J23 q2.1 a0 x1 x2 a0 (0 : Int32)
    else
    some (q2.1, (0 : Int32))
def f_X10_copies_L3 : Nat → gH → Nat → Int32 → Nat → Int32 → Int32 → Option gH
  | 0, _, _, _, _, _, _ => none
  | n + 1, G, ba0, bx1, ba2, bx3, bx4 =>
    if (1555 : Int32) ≤ bx4 then
    some G
    else
    (g_ald 0 G ba0 (bx1 + bx4)).bind fun v21 =>
    (g_ast 0 G ba2 (bx3 + bx4) v21).bind fun G22 =>
    f_X10_copies_L3 n G22 ba0 bx1 ba2 bx3 (bx4 + (1 : Int32))
def f_X10_copies (G : gH) (a0 : Nat) (x1 : Int32) (a2 : Nat) (x3 : Int32) : Option gH :=
    f_X10_copies_L3 g_N G a0 x1 a2 x3 (0 : Int32)
def f_X10_keeps_J58 (G : gH) (ba0 : Nat) : Option gH :=
    (g_r G ba0 10 1).bind fun v59 =>
    (g_r G ba0 10 25).bind fun v64 =>
    (g_i G ba0 10 24).bind fun v71 =>
    (f_X10_copies G v59 (0 : Int32) v64 ((1555 : Int32) * v71)).bind fun G75 =>
    (g_i G75 ba0 10 24).bind fun v80 =>
    (g_put G75 ba0 10 24 (.int (v80 + (1 : Int32)))).bind fun G85 =>
    some G85
def f_X10_keeps_L21 : Nat → gH → Nat → Int32 → Option gH
  | 0, _, _, _ => none
  | n + 1, G, ba0, bx1 =>
    (g_i G ba0 10 24).bind fun v23 =>
    if v23 ≤ bx1 then
    f_X10_keeps_J58 G ba0
    else
    (g_r G ba0 10 25).bind fun v30 =>
    (g_r G ba0 10 25).bind fun v41 =>
    (f_X10_copies G v30 ((1555 : Int32) * (bx1 + (1 : Int32))) v41 ((1555 : Int32) * bx1)).bind fun G49 =>
    f_X10_keeps_L21 n G49 ba0 (bx1 + (1 : Int32))
def f_X10_keeps (G : gH) (a0 : Nat) : Option gH :=
    (g_i G a0 10 24).bind fun v1 =>
    if v1 = (10 : Int32) then
    (g_i G a0 10 24).bind fun v11 =>
    (g_put G a0 10 24 (.int (v11 - (1 : Int32)))).bind fun G16 =>
    f_X10_keeps_L21 g_N G16 a0 (0 : Int32)
    else
    f_X10_keeps_J58 G a0
def f_X10_undo (G : gH) (a0 : Nat) : Option (gH × Int32) :=
    (g_put G a0 10 0 (.int (0 : Int32))).bind fun G2 =>
    (g_i G2 a0 10 24).bind fun v6 =>
    if v6 = 0 then
    some (G2, (-1 : Int32))
    else
    (g_i G2 a0 10 24).bind fun v16 =>
    (g_put G2 a0 10 24 (.int (v16 - (1 : Int32)))).bind fun G21 =>
    (g_r G21 a0 10 25).bind fun v25 =>
    (g_i G21 a0 10 24).bind fun v32 =>
    (g_r G21 a0 10 1).bind fun v37 =>
    (f_X10_copies G21 v25 ((1555 : Int32) * v32) v37 (0 : Int32)).bind fun G41 =>
    (g_i G41 a0 10 24).bind fun v45 =>
    some (G41, v45)
def f_X10_saveSnapshot (G : gH) (a0 : Nat) (x1 : Int32) : Option (gH × Int32) :=
    (g_ob G a0 10).bind fun u3 =>
    (f_X10_no G a0 x1 (2 : Int32)).bind fun q3 =>
    if q3.2 = 0 then
    (g_r q3.1 a0 10 27).bind fun v12 =>
    (g_ald 1 q3.1 v12 x1).bind fun v16 =>
    (g_r q3.1 a0 10 1).bind fun v19 =>
    (g_r q3.1 a0 10 26).bind fun v24 =>
    (f_X10_copies q3.1 v19 (0 : Int32) v24 ((1555 : Int32) * x1)).bind fun G32 =>
    (g_r G32 a0 10 27).bind fun v36 =>
    (g_ast 1 G32 v36 x1 (1 : Int32)).bind fun G41 =>
    (g_z v16).bind fun w43 => some (G41, w43)
    else
    some (q3.1, (0 : Int32))
def f_X10_restoreSnapshot_J24 (G : gH) (ba0 : Nat) (bx1 : Int32) (z0 : Nat) (z1 : Int32) : Option (gH × Int32) :=
    (g_ob G z0 10).bind fun u25 =>
    (f_X10_throwsIf G z0 z1 (2 : Int32)).bind fun q25 =>
    if q25.2 = 0 then
    (g_r q25.1 ba0 10 26).bind fun v34 =>
    (g_r q25.1 ba0 10 1).bind fun v43 =>
    (f_X10_copies q25.1 v34 ((1555 : Int32) * bx1) v43 (0 : Int32)).bind fun G47 =>
    (g_put G47 ba0 10 24 (.int (0 : Int32))).bind fun G52 =>
    (g_r G52 ba0 10 1).bind fun v56 =>
    (g_ald 0 G52 v56 (3 : Int32)).bind fun v60 =>
    some (G52, v60)
    else
    some (q25.1, (0 : Int32))
def f_X10_restoreSnapshot (G : gH) (a0 : Nat) (x1 : Int32) : Option (gH × Int32) :=
    (g_ob G a0 10).bind fun u3 =>
    (f_X10_no G a0 x1 (2 : Int32)).bind fun q3 =>
    if q3.2 = 0 then
    (g_r q3.1 a0 10 27).bind fun v11 =>
    (g_ald 1 q3.1 v11 x1).bind fun v15 =>
    if v15 = 0 then
    f_X10_restoreSnapshot_J24 q3.1 a0 x1 a0 (1 : Int32)
    else
    f_X10_restoreSnapshot_J24 q3.1 a0 x1 a0 (0 : Int32)
    else
    some (q3.1, (0 : Int32))
def f_X2_clear (G : gH) (a0 : Nat) : Option gH :=
    (g_put G a0 2 0 (.int (0 : Int32))).bind fun G2 =>
    (g_put G2 a0 2 1 (.int (0 : Int32))).bind fun G7 =>
    some G7
def f_X3_hasRoom (G : gH) (a0 : Nat) (x1 : Int32) : Option Int32 :=
    (g_i G a0 3 1).bind fun v1 =>
    if (600 : Int32) < (v1 + x1) then
    some (0 : Int32)
    else
    some (1 : Int32)
def f_X4_fail (G : gH) (a0 : Nat) (x1 : Int32) : Option (gH × Int32) :=
    (g_put G a0 4 0 (.int x1)).bind fun G2 =>
    some (G2, (0 : Int32))
def f_X5_latest (G : gH) (a0 : Nat) : Option Int32 :=
    (g_i G a0 5 0).bind fun v1 =>
    some (v1 - (1 : Int32))
def f_X9_errorPosition (G : gH) (a0 : Nat) : Option Int32 :=
    (g_r G a0 9 1).bind fun v1 =>
    (g_i G v1 4 1).bind fun v4 =>
    some v4
def f_X9_oneIf (G : gH) (x0 : Int32) : Option Int32 :=
    if x0 = 0 then
    some (0 : Int32)
    else
    some (1 : Int32)
def f_X9_withLetter (G : gH) (x0 : Int64) (x2 : Int32) : Option Int64 :=
    some ((x0 * (27 : Int64)) + ((x2 - (97 : Int32)) + (1 : Int32)).toInt64)
def f_X9_isLetter (G : gH) (x0 : Int32) : Option Int32 :=
    if x0 < (97 : Int32) then
    some (0 : Int32)
    else
    if (122 : Int32) < x0 then
    some (0 : Int32)
    else
    some (1 : Int32)
def f_X9_packed_L4 (G : gH) : Nat → Nat → Int64 → Int32 → Option Int64
  | 0, _, _, _ => none
  | n + 1, bs0, bx1, bx3 =>
    (f_J0_length_8abf5 G bs0).bind fun v6 =>
    if v6 ≤ bx3 then
    some bx1
    else
    (f_J0_charAt_5068e G bs0 bx3).bind fun v15 =>
    (f_X9_withLetter G bx1 v15).bind fun v18 =>
    f_X9_packed_L4 G n bs0 v18 (bx3 + (1 : Int32))
def f_X9_packed (G : gH) (s0 : Nat) : Option Int64 :=
    f_X9_packed_L4 G g_N s0 (0 : Int64) (0 : Int32)
def f_X9_directoryLength (G : gH) (x0 : Int32) : Option Int32 :=
    some ((1 : Int32) + ((x0 - (1 : Int32)) / (4 : Int32)))
def f_X9_at (G : gH) (a0 : Nat) (x1 : Int32) (x2 : Int32) : Option Int32 :=
    if x1 < 0 then
    some x2
    else
    (g_len G a0).bind fun v6 =>
    if v6 ≤ x1 then
    some x2
    else
    (g_ald 0 G a0 x1).bind fun v12 =>
    some v12
def f_X9_at_ (G : gH) (a0 : Nat) (x1 : Int32) (x2 : Int64) : Option Int64 :=
    if x1 < 0 then
    some x2
    else
    (g_len G a0).bind fun v6 =>
    if v6 ≤ x1 then
    some x2
    else
    (g_lald G a0 x1).bind fun v12 =>
    some v12
def f_X9_isSet (G : gH) (a0 : Nat) (x1 : Int32) : Option Int32 :=
    if x1 < 0 then
    some (0 : Int32)
    else
    (g_len G a0).bind fun v6 =>
    if v6 ≤ x1 then
    some (0 : Int32)
    else
    (g_ald 1 G a0 x1).bind fun v12 =>
    if v12 = 0 then
    some (0 : Int32)
    else
    some (1 : Int32)
def f_X9_put (G : gH) (a0 : Nat) (x1 : Int32) (x2 : Int32) : Option gH :=
    if x1 < 0 then
    some G
    else
    (g_len G a0).bind fun v6 =>
    if v6 ≤ x1 then
    some G
    else
    (g_ast 0 G a0 x1 x2).bind fun G13 =>
    some G13
def f_X9_put_ (G : gH) (a0 : Nat) (x1 : Int32) (x2 : Int64) : Option gH :=
    if x1 < 0 then
    some G
    else
    (g_len G a0).bind fun v6 =>
    if v6 ≤ x1 then
    some G
    else
    (g_last G a0 x1 x2).bind fun G13 =>
    some G13
def f_X9_mark (G : gH) (a0 : Nat) (x1 : Int32) (x2 : Int32) : Option gH :=
    if x1 < 0 then
    some G
    else
    (g_len G a0).bind fun v6 =>
    if v6 ≤ x1 then
    some G
    else
    (g_ast 1 G a0 x1 x2).bind fun G13 =>
    some G13
def f_X9_fill_L2 : Nat → gH → Nat → Int32 → Int32 → Option gH
  | 0, _, _, _, _ => none
  | n + 1, G, ba0, bx1, bx2 =>
    (g_len G ba0).bind fun v4 =>
    if v4 ≤ bx2 then
    some G
    else
    (g_ast 0 G ba0 bx2 bx1).bind fun G11 =>
    f_X9_fill_L2 n G11 ba0 bx1 (bx2 + (1 : Int32))
def f_X9_fill (G : gH) (a0 : Nat) (x1 : Int32) : Option gH :=
    f_X9_fill_L2 g_N G a0 x1 (0 : Int32)
def f_X9_fill__L2 : Nat → gH → Nat → Int32 → Int32 → Option gH
  | 0, _, _, _, _ => none
  | n + 1, G, ba0, bx1, bx2 =>
    (g_len G ba0).bind fun v4 =>
    if v4 ≤ bx2 then
    some G
    else
    (g_ast 1 G ba0 bx2 bx1).bind fun G11 =>
    f_X9_fill__L2 n G11 ba0 bx1 (bx2 + (1 : Int32))
def f_X9_fill_ (G : gH) (a0 : Nat) (x1 : Int32) : Option gH :=
    f_X9_fill__L2 g_N G a0 x1 (0 : Int32)
def f_X9_copy_L2 : Nat → gH → Nat → Nat → Int32 → Option gH
  | 0, _, _, _, _ => none
  | n + 1, G, ba0, ba1, bx2 =>
    (g_len G ba0).bind fun v4 =>
    if v4 ≤ bx2 then
    some G
    else
    (g_len G ba1).bind fun v10 =>
    if v10 ≤ bx2 then
    some G
    else
    (g_ald 0 G ba0 bx2).bind fun v18 =>
    (g_ast 0 G ba1 bx2 v18).bind fun G19 =>
    f_X9_copy_L2 n G19 ba0 ba1 (bx2 + (1 : Int32))
def f_X9_copy (G : gH) (a0 : Nat) (a1 : Nat) : Option gH :=
    f_X9_copy_L2 g_N G a0 a1 (0 : Int32)
def f_X9_copy__L2 : Nat → gH → Nat → Nat → Int32 → Option gH
  | 0, _, _, _, _ => none
  | n + 1, G, ba0, ba1, bx2 =>
    (g_len G ba0).bind fun v4 =>
    if v4 ≤ bx2 then
    some G
    else
    (g_len G ba1).bind fun v10 =>
    if v10 ≤ bx2 then
    some G
    else
    (g_ald 1 G ba0 bx2).bind fun v18 =>
    (g_ast 1 G ba1 bx2 v18).bind fun G19 =>
    f_X9_copy__L2 n G19 ba0 ba1 (bx2 + (1 : Int32))
def f_X9_copy_ (G : gH) (a0 : Nat) (a1 : Nat) : Option gH :=
    f_X9_copy__L2 g_N G a0 a1 (0 : Int32)
def f_X9_copy___L2 : Nat → gH → Nat → Nat → Int32 → Option gH
  | 0, _, _, _, _ => none
  | n + 1, G, ba0, ba1, bx2 =>
    (g_len G ba0).bind fun v4 =>
    if v4 ≤ bx2 then
    some G
    else
    (g_len G ba1).bind fun v10 =>
    if v10 ≤ bx2 then
    some G
    else
    (g_lald G ba0 bx2).bind fun v18 =>
    (g_last G ba1 bx2 v18).bind fun G19 =>
    f_X9_copy___L2 n G19 ba0 ba1 (bx2 + (1 : Int32))
def f_X9_copy__ (G : gH) (a0 : Nat) (a1 : Nat) : Option gH :=
    f_X9_copy___L2 g_N G a0 a1 (0 : Int32)
def f_X9_indexOf_L3 (G : gH) : Nat → Nat → Int32 → Int64 → Int32 → Option Int32
  | 0, _, _, _, _ => none
  | n + 1, ba0, bx1, bx2, bx4 =>
    if bx1 ≤ bx4 then
    some (-1 : Int32)
    else
    (g_len G ba0).bind fun v12 =>
    if v12 ≤ bx4 then
    some (-1 : Int32)
    else
    (g_lald G ba0 bx4).bind fun v19 =>
    if (lg_cmp v19 bx2) = 0 then
    some bx4
    else
    f_X9_indexOf_L3 G n ba0 bx1 bx2 (bx4 + (1 : Int32))
def f_X9_indexOf (G : gH) (a0 : Nat) (x1 : Int32) (x2 : Int64) : Option Int32 :=
    f_X9_indexOf_L3 G g_N a0 x1 x2 (0 : Int32)
def f_X0_format (G : gH) (a0 : Nat) (x1 : Int32) (x2 : Int32) : Option gH :=
    (g_put G a0 0 0 (.int x1)).bind fun G2 =>
    (g_put G2 a0 0 1 (.int (x1 - x2))).bind fun G9 =>
    (g_put G9 a0 0 2 (.int (0 : Int32))).bind fun G14 =>
    (g_r G14 a0 0 3).bind fun v18 =>
    (f_X9_fill G14 v18 (0 : Int32)).bind fun G22 =>
    (g_r G22 a0 0 4).bind fun v26 =>
    (f_X9_fill_ G22 v26 (0 : Int32)).bind fun G30 =>
    (g_r G30 a0 0 5).bind fun v34 =>
    (f_X9_fill_ G30 v34 (0 : Int32)).bind fun G38 =>
    (g_r G38 a0 0 6).bind fun v42 =>
    (f_X9_fill G38 v42 (-1 : Int32)).bind fun G46 =>
    (g_r G46 a0 0 7).bind fun v50 =>
    (f_X9_fill G46 v50 (-1 : Int32)).bind fun G54 =>
    (g_r G54 a0 0 8).bind fun v58 =>
    (f_X9_fill G54 v58 (-1 : Int32)).bind fun G62 =>
    (g_r G62 a0 0 9).bind fun v66 =>
    (f_X9_fill G62 v66 (-1 : Int32)).bind fun G70 =>
    (g_r G70 a0 0 10).bind fun v74 =>
    (f_X9_fill G70 v74 (-1 : Int32)).bind fun G78 =>
    some G78
def f_X0_takeFrom (G : gH) (a0 : Nat) (a1 : Nat) : Option gH :=
    (g_i G a1 0 0).bind fun v2 =>
    (g_put G a0 0 0 (.int v2)).bind fun G5 =>
    (g_i G5 a1 0 1).bind fun v10 =>
    (g_put G5 a0 0 1 (.int v10)).bind fun G13 =>
    (g_i G13 a1 0 2).bind fun v18 =>
    (g_put G13 a0 0 2 (.int v18)).bind fun G21 =>
    (g_r G21 a1 0 3).bind fun v25 =>
    (g_r G21 a0 0 3).bind fun v29 =>
    (f_X9_copy G21 v25 v29).bind fun G32 =>
    (g_r G32 a1 0 4).bind fun v36 =>
    (g_r G32 a0 0 4).bind fun v40 =>
    (f_X9_copy_ G32 v36 v40).bind fun G43 =>
    (g_r G43 a1 0 5).bind fun v47 =>
    (g_r G43 a0 0 5).bind fun v51 =>
    (f_X9_copy_ G43 v47 v51).bind fun G54 =>
    (g_r G54 a1 0 6).bind fun v58 =>
    (g_r G54 a0 0 6).bind fun v62 =>
    (f_X9_copy G54 v58 v62).bind fun G65 =>
    (g_r G65 a1 0 7).bind fun v69 =>
    (g_r G65 a0 0 7).bind fun v73 =>
    (f_X9_copy G65 v69 v73).bind fun G76 =>
    (g_r G76 a1 0 8).bind fun v80 =>
    (g_r G76 a0 0 8).bind fun v84 =>
    (f_X9_copy G76 v80 v84).bind fun G87 =>
    (g_r G87 a1 0 9).bind fun v91 =>
    (g_r G87 a0 0 9).bind fun v95 =>
    (f_X9_copy G87 v91 v95).bind fun G98 =>
    (g_r G98 a1 0 10).bind fun v102 =>
    (g_r G98 a0 0 10).bind fun v106 =>
    (f_X9_copy G98 v102 v106).bind fun G109 =>
    some G109
def f_X0_kindOf (G : gH) (a0 : Nat) (x1 : Int32) : Option Int32 :=
    (g_r G a0 0 3).bind fun v1 =>
    (f_X9_at G v1 x1 (0 : Int32)).bind fun v6 =>
    some v6
def f_X0_writerOf (G : gH) (a0 : Nat) (x1 : Int32) : Option Int32 :=
    (g_r G a0 0 6).bind fun v1 =>
    (f_X9_at G v1 x1 (-1 : Int32)).bind fun v6 =>
    some v6
def f_X0_dataVersionOf (G : gH) (a0 : Nat) (x1 : Int32) : Option Int32 :=
    (g_r G a0 0 7).bind fun v1 =>
    (f_X9_at G v1 x1 (-1 : Int32)).bind fun v6 =>
    some v6
def f_X0_placeOf (G : gH) (a0 : Nat) (x1 : Int32) : Option Int32 :=
    (g_r G a0 0 10).bind fun v1 =>
    (f_X9_at G v1 x1 (-1 : Int32)).bind fun v6 =>
    some v6
def f_X0_isBad (G : gH) (a0 : Nat) (x1 : Int32) : Option Int32 :=
    (g_r G a0 0 4).bind fun v1 =>
    (f_X9_isSet G v1 x1).bind fun v5 =>
    g_z v5
def f_X0_isUnreadable (G : gH) (a0 : Nat) (x1 : Int32) : Option Int32 :=
    (g_r G a0 0 5).bind fun v1 =>
    (f_X9_isSet G v1 x1).bind fun v5 =>
    g_z v5
def f_X0_property (G : gH) (a0 : Nat) (x1 : Int32) (x2 : Int32) : Option Int32 :=
    if x2 = (0 : Int32) then
    (g_ob G a0 0).bind fun u42 =>
    (f_X0_kindOf G a0 x1).bind fun v42 =>
    some v42
    else
    if x2 = (1 : Int32) then
    (g_ob G a0 0).bind fun u48 =>
    (f_X0_isBad G a0 x1).bind fun v48 =>
    (f_X9_oneIf G v48).bind fun v51 =>
    some v51
    else
    if x2 = (2 : Int32) then
    (g_ob G a0 0).bind fun u57 =>
    (f_X0_isUnreadable G a0 x1).bind fun v57 =>
    (f_X9_oneIf G v57).bind fun v60 =>
    some v60
    else
    if x2 = (3 : Int32) then
    (g_ob G a0 0).bind fun u66 =>
    (f_X0_writerOf G a0 x1).bind fun v66 =>
    some v66
    else
    if x2 = (4 : Int32) then
    (g_ob G a0 0).bind fun u72 =>
    (f_X0_dataVersionOf G a0 x1).bind fun v72 =>
    some v72
    else
    if x2 = (5 : Int32) then
    (g_r G a0 0 8).bind fun v77 =>
    (f_X9_at G v77 x1 (-1 : Int32)).bind fun v82 =>
    some v82
    else
    (g_r G a0 0 9).bind fun v87 =>
    (f_X9_at G v87 x1 (-1 : Int32)).bind fun v92 =>
    some v92
def f_X0_emptySpares_L7 (G : gH) : Nat → Nat → Int32 → Int32 → Option Int32
  | 0, _, _, _ => none
  | n + 1, ba0, bx1, bx2 =>
    (g_i G ba0 0 0).bind fun v9 =>
    if v9 ≤ bx2 then
    some bx1
    else
    (g_ob G ba0 0).bind fun u18 =>
    (f_X0_kindOf G ba0 bx2).bind fun v18 =>
    if v18 = 0 then
    (f_X9_oneIf G (1 : Int32)).bind fun v29 =>
    f_X0_emptySpares_L7 G n ba0 (bx1 + v29) (bx2 + (1 : Int32))
    else
    (f_X9_oneIf G (0 : Int32)).bind fun v29 =>
    f_X0_emptySpares_L7 G n ba0 (bx1 + v29) (bx2 + (1 : Int32))
def f_X0_emptySpares (G : gH) (a0 : Nat) : Option Int32 :=
    (g_i G a0 0 1).bind fun v3 =>
    f_X0_emptySpares_L7 G g_N a0 (0 : Int32) v3
def f_X0_badOnes_L4 (G : gH) : Nat → Nat → Int32 → Int32 → Option Int32
  | 0, _, _, _ => none
  | n + 1, ba0, bx1, bx2 =>
    (g_i G ba0 0 0).bind fun v6 =>
    if v6 ≤ bx2 then
    some bx1
    else
    (g_ob G ba0 0).bind fun u15 =>
    (f_X0_isBad G ba0 bx2).bind fun v15 =>
    (f_X9_oneIf G v15).bind fun v18 =>
    f_X0_badOnes_L4 G n ba0 (bx1 + v18) (bx2 + (1 : Int32))
def f_X0_badOnes (G : gH) (a0 : Nat) : Option Int32 :=
    f_X0_badOnes_L4 G g_N a0 (0 : Int32) (0 : Int32)
def f_X0_blocksOf_L6 (G : gH) : Nat → Nat → Int32 → Int32 → Int32 → Int32 → Option Int32
  | 0, _, _, _, _, _ => none
  | n + 1, ba0, bx1, bx3, bx4, bx5 =>
    if bx3 ≤ bx5 then
    some bx4
    else
    (g_ob G ba0 0).bind fun u17 =>
    (f_X0_writerOf G ba0 bx5).bind fun v17 =>
    if v17 = bx1 then
    (f_X9_oneIf G (1 : Int32)).bind fun v29 =>
    f_X0_blocksOf_L6 G n ba0 bx1 bx3 (bx4 + v29) (bx5 + (1 : Int32))
    else
    (f_X9_oneIf G (0 : Int32)).bind fun v29 =>
    f_X0_blocksOf_L6 G n ba0 bx1 bx3 (bx4 + v29) (bx5 + (1 : Int32))
def f_X0_blocksOf (G : gH) (a0 : Nat) (x1 : Int32) (x2 : Int32) (x3 : Int32) : Option Int32 :=
    f_X0_blocksOf_L6 G g_N a0 x1 x3 (0 : Int32) x2
def f_X0_canRelocate_L50 (G : gH) : Nat → Nat → Int32 → Int32 → Int32 → Option Int32
  | 0, _, _, _, _ => none
  | n + 1, ba0, bx2, bx3, bx4 =>
    (g_i G ba0 0 0).bind fun v53 =>
    if v53 ≤ bx4 then
    if bx3 < bx2 then
    some (0 : Int32)
    else
    some (1 : Int32)
    else
    (g_ob G ba0 0).bind fun u63 =>
    (f_X0_kindOf G ba0 bx4).bind fun v63 =>
    if v63 = 0 then
    (g_ob G ba0 0).bind fun u72 =>
    (f_X0_isBad G ba0 bx4).bind fun v72 =>
    if v72 = 0 then
    (f_X9_oneIf G (1 : Int32)).bind fun v83 =>
    f_X0_canRelocate_L50 G n ba0 bx2 (bx3 + v83) (bx4 + (1 : Int32))
    else
    (f_X9_oneIf G (0 : Int32)).bind fun v83 =>
    f_X0_canRelocate_L50 G n ba0 bx2 (bx3 + v83) (bx4 + (1 : Int32))
    else
    (f_X9_oneIf G (0 : Int32)).bind fun v83 =>
    f_X0_canRelocate_L50 G n ba0 bx2 (bx3 + v83) (bx4 + (1 : Int32))
def f_X0_canRelocate_L7 (G : gH) : Nat → Nat → Int32 → Int32 → Int32 → Option Int32
  | 0, _, _, _, _ => none
  | n + 1, ba0, bx1, bx2, bx3 =>
    (g_i G ba0 0 2).bind fun v9 =>
    if (v9 + bx1) ≤ bx3 then
    (g_i G ba0 0 1).bind fun v45 =>
    f_X0_canRelocate_L50 G g_N ba0 bx2 (0 : Int32) v45
    else
    (g_i G ba0 0 1).bind fun v19 =>
    if v19 ≤ bx3 then
    (g_i G ba0 0 1).bind fun v45 =>
    f_X0_canRelocate_L50 G g_N ba0 bx2 (0 : Int32) v45
    else
    (g_ob G ba0 0).bind fun u28 =>
    (f_X0_isBad G ba0 bx3).bind fun v28 =>
    (f_X9_oneIf G v28).bind fun v31 =>
    f_X0_canRelocate_L7 G n ba0 bx1 (bx2 + v31) (bx3 + (1 : Int32))
def f_X0_canRelocate (G : gH) (a0 : Nat) (x1 : Int32) : Option Int32 :=
    (g_i G a0 0 2).bind fun v3 =>
    f_X0_canRelocate_L7 G g_N a0 x1 (0 : Int32) v3
def f_X0_takeSpare_L5 : Nat → gH → Nat → Int32 → Int32 → Option (gH × Int32)
  | 0, _, _, _, _ => none
  | n + 1, G, ba0, bx1, bx2 =>
    (g_i G ba0 0 0).bind fun v7 =>
    if v7 ≤ bx2 then
    some (G, (-1 : Int32))
    else
    (g_ob G ba0 0).bind fun u15 =>
    (f_X0_kindOf G ba0 bx2).bind fun v15 =>
    if v15 = 0 then
    (g_ob G ba0 0).bind fun u23 =>
    (f_X0_isBad G ba0 bx2).bind fun v23 =>
    if v23 = 0 then
    some (G, bx2)
    else
    (g_r G ba0 0 3).bind fun v32 =>
    (f_X9_put G v32 bx2 (3 : Int32)).bind fun G37 =>
    (g_r G37 ba0 0 6).bind fun v41 =>
    (f_X9_put G37 v41 bx2 bx1).bind fun G46 =>
    f_X0_takeSpare_L5 n G46 ba0 bx1 (bx2 + (1 : Int32))
    else
    f_X0_takeSpare_L5 n G ba0 bx1 (bx2 + (1 : Int32))
def f_X0_takeSpare (G : gH) (a0 : Nat) (x1 : Int32) : Option (gH × Int32) :=
    (g_i G a0 0 1).bind fun v1 =>
    f_X0_takeSpare_L5 g_N G a0 x1 v1
def f_X0_canRead_J48 (G : gH) (bx1 : Int32) : Option Int32 :=
    if bx1 = (-1 : Int32) then
    some (0 : Int32)
    else
    some (1 : Int32)
def f_X0_canRead_L2 (G : gH) : Nat → Nat → Int32 → Int32 → Int32 → Option Int32
  | 0, _, _, _, _ => none
  | n + 1, ba0, bx1, bx2, bx3 =>
    if bx3 < 0 then
    f_X0_canRead_J48 G bx1
    else
    if (bx1 + bx2) ≤ bx3 then
    f_X0_canRead_J48 G bx1
    else
    (g_i G ba0 0 1).bind fun v15 =>
    if v15 ≤ bx3 then
    f_X0_canRead_J48 G bx1
    else
    (g_r G ba0 0 5).bind fun v22 =>
    (g_r G ba0 0 10).bind fun v26 =>
    (f_X9_at G v26 bx3 (-1 : Int32)).bind fun v31 =>
    (f_X9_isSet G v22 v31).bind fun v34 =>
    if v34 = 0 then
    f_X0_canRead_L2 G n ba0 bx1 bx2 (bx3 + (1 : Int32))
    else
    some (0 : Int32)
def f_X0_canRead (G : gH) (a0 : Nat) (x1 : Int32) (x2 : Int32) : Option Int32 :=
    f_X0_canRead_L2 G g_N a0 x1 x2 x1
def f_X0_makeBad (G : gH) (a0 : Nat) (x1 : Int32) : Option gH :=
    (g_r G a0 0 4).bind fun v1 =>
    (f_X9_mark G v1 x1 (1 : Int32)).bind fun G6 =>
    some G6
def f_X0_damage_J19 (G : gH) (bx1 : Int32) (z0 : Nat) : Option (gH × Int32) :=
    (f_X9_isSet G z0 bx1).bind fun v22 =>
    (f_X9_mark G z0 bx1 (1 : Int32)).bind fun G29 =>
    if v22 = 0 then
    some (G29, (1 : Int32))
    else
    some (G29, (0 : Int32))
def f_X0_damage (G : gH) (a0 : Nat) (x1 : Int32) : Option (gH × Int32) :=
    (g_ob G a0 0).bind fun u2 =>
    (f_X0_kindOf G a0 x1).bind fun v2 =>
    if v2 = 0 then
    (g_r G a0 0 4).bind fun v9 =>
    f_X0_damage_J19 G x1 v9
    else
    (g_r G a0 0 5).bind fun v16 =>
    f_X0_damage_J19 G x1 v16
def f_X1_format (G : gH) (a0 : Nat) (x1 : Int32) (x2 : Int32) : Option gH :=
    (g_r G a0 1 0).bind fun v1 =>
    (g_ob G v1 0).bind fun u6 =>
    (f_X0_format G v1 x1 x2).bind fun G6 =>
    (g_r G6 a0 1 1).bind fun v10 =>
    (g_put G6 v10 7 0 (.int (0 : Int32))).bind fun G14 =>
    (g_r G14 a0 1 2).bind fun v18 =>
    (g_put G14 v18 5 0 (.int (0 : Int32))).bind fun G22 =>
    (g_put G22 a0 1 3 (.int (0 : Int32))).bind fun G27 =>
    (g_put G27 a0 1 5 (.int (0 : Int32))).bind fun G32 =>
    some G32
def f_X1_begin (G : gH) (a0 : Nat) (a1 : Nat) : Option gH :=
    (g_i G a1 4 2).bind fun v2 =>
    (g_i G a1 4 3).bind fun v6 =>
    (g_ob G a0 1).bind fun u9 =>
    (f_X1_format G a0 v2 v6).bind fun G9 =>
    (g_i G9 a1 4 4).bind fun v14 =>
    (g_put G9 a0 1 3 (.int v14)).bind fun G17 =>
    (g_r G17 a1 4 5).bind fun v21 =>
    (g_r G17 a0 1 4).bind fun v25 =>
    (f_X9_copy__ G17 v21 v25).bind fun G28 =>
    some G28
def f_X1_fileNamed (G : gH) (a0 : Nat) (x1 : Int64) : Option Int32 :=
    (g_r G a0 1 4).bind fun v1 =>
    (g_i G a0 1 3).bind fun v5 =>
    (f_X9_indexOf G v1 v5 x1).bind fun v9 =>
    some v9
def f_X1_reasonAgainstDirectory (G : gH) (a0 : Nat) (x1 : Int32) : Option Int32 :=
    (f_X9_directoryLength G x1).bind fun v1 =>
    (g_r G a0 1 0).bind fun v6 =>
    (g_ob G v6 0).bind fun u10 =>
    (f_X0_hasRoomFor G v6 v1).bind fun v10 =>
    if v10 = 0 then
    some (4 : Int32)
    else
    (g_r G a0 1 0).bind fun v19 =>
    (g_ob G v19 0).bind fun u23 =>
    (f_X0_canRelocate G v19 v1).bind fun v23 =>
    if v23 = 0 then
    some (5 : Int32)
    else
    some (0 : Int32)
def f_X10_append (G : gH) (a0 : Nat) (x1 : Int32) (x2 : Int32) (x3 : Int32) (x4 : Int32) (x5 : Int32) : Option (gH × Int32) :=
    (g_put G a0 10 0 (.int (0 : Int32))).bind fun G2 =>
    (g_i G2 a0 10 4).bind fun v6 =>
    if (v6 + (20 : Int32)) ≤ (600 : Int32) then
    (g_ob G2 a0 10).bind fun u22 =>
    (f_X10_bytesOf G2 a0 x1).bind fun G22 =>
    (g_ob G22 a0 10).bind fun u27 =>
    (f_X10_bytesOf G22 a0 x2).bind fun G27 =>
    (g_ob G27 a0 10).bind fun u32 =>
    (f_X10_bytesOf G27 a0 x3).bind fun G32 =>
    (g_ob G32 a0 10).bind fun u38 =>
    (f_X10_bytesOf G32 a0 x4).bind fun G38 =>
    (g_ob G38 a0 10).bind fun u44 =>
    (f_X10_bytesOf G38 a0 x5).bind fun G44 =>
    (g_i G44 a0 10 4).bind fun v48 =>
    some (G44, v48)
    else
    some (G2, (-1 : Int32))
def f_X10_writeLine (G : gH) (a0 : Nat) (x1 : Int32) : Option (gH × Int32) :=
    (g_ob G a0 10).bind fun u1 =>
    (f_X10_advance G a0).bind fun G1 =>
    (g_ob G1 a0 10).bind fun u5 =>
    (f_X10_takesFile G1 a0).bind fun q5 =>
    if q5.2 = 0 then
    some (q5.1, (0 : Int32))
    else
    (g_ob q5.1 a0 10).bind fun u15 =>
    (f_X10_takes q5.1 a0 (1 : Int32) (8 : Int32)).bind fun q15 =>
    if q15.2 = 0 then
    some (q15.1, (0 : Int32))
    else
    (g_i q15.1 a0 10 13).bind fun v24 =>
    (g_ob q15.1 a0 10).bind fun u33 =>
    (f_X10_takes q15.1 a0 (0 : Int32) (999 : Int32)).bind fun q33 =>
    if q33.2 = 0 then
    some (q33.1, (0 : Int32))
    else
    (g_i q33.1 a0 10 16).bind fun v43 =>
    (g_ob q33.1 a0 10).bind fun u47 =>
    (f_X10_whyWrite q33.1 a0 v43 v24).bind fun v47 =>
    if v47 ≤ 0 then
    (g_i q33.1 a0 10 16).bind fun v63 =>
    (g_i q33.1 a0 10 13).bind fun v68 =>
    (g_ob q33.1 a0 10).bind fun u71 =>
    (f_X10_writes q33.1 a0 v63 v24 v68).bind fun q71 =>
    some (q71.1, (1 : Int32))
    else
    (g_ob q33.1 a0 10).bind fun u57 =>
    (f_X10_failsAt q33.1 a0 (6 : Int32) x1).bind fun q57 =>
    (g_z q57.2).bind fun w60 => some (q57.1, w60)
def f_X10_eraseLine (G : gH) (a0 : Nat) (x1 : Int32) : Option (gH × Int32) :=
    (g_ob G a0 10).bind fun u1 =>
    (f_X10_advance G a0).bind fun G1 =>
    (g_ob G1 a0 10).bind fun u5 =>
    (f_X10_takesFile G1 a0).bind fun q5 =>
    if q5.2 = 0 then
    some (q5.1, (0 : Int32))
    else
    (g_i q5.1 a0 10 16).bind fun v15 =>
    (g_ob q5.1 a0 10).bind fun u18 =>
    (f_X10_whyErase q5.1 a0 v15).bind fun q18 =>
    if q18.2 ≤ 0 then
    (g_i q18.1 a0 10 16).bind fun v34 =>
    (g_ob q18.1 a0 10).bind fun u37 =>
    (f_X10_erases q18.1 a0 v34).bind fun G37 =>
    some (G37, (1 : Int32))
    else
    (g_ob q18.1 a0 10).bind fun u28 =>
    (f_X10_failsAt q18.1 a0 (6 : Int32) x1).bind fun q28 =>
    (g_z q28.2).bind fun w31 => some (q28.1, w31)
def f_X10_closeLine (G : gH) (a0 : Nat) (x1 : Int32) : Option (gH × Int32) :=
    (g_ob G a0 10).bind fun u1 =>
    (f_X10_advance G a0).bind fun G1 =>
    (g_ob G1 a0 10).bind fun u5 =>
    (f_X10_whyClose G1 a0).bind fun v5 =>
    if v5 ≤ 0 then
    (g_ob G1 a0 10).bind fun u20 =>
    (f_X10_closesOpen G1 a0).bind fun G20 =>
    some (G20, (1 : Int32))
    else
    (g_ob G1 a0 10).bind fun u15 =>
    (f_X10_failsAt G1 a0 (6 : Int32) x1).bind fun q15 =>
    (g_z q15.2).bind fun w18 => some (q15.1, w18)
def f_X10_statement (G : gH) (a0 : Nat) : Option (gH × Int32) :=
    (g_i G a0 10 6).bind fun v1 =>
    (g_ob G a0 10).bind fun u8 =>
    (f_X10_isWord G a0 1).bind fun v8 =>
    if v8 = 0 then
    (g_ob G a0 10).bind fun u22 =>
    (f_X10_isWord G a0 2).bind fun v22 =>
    if v22 = 0 then
    (g_ob G a0 10).bind fun u36 =>
    (f_X10_isWord G a0 3).bind fun v36 =>
    if v36 = 0 then
    (g_ob G a0 10).bind fun u53 =>
    (f_X10_isWord G a0 4).bind fun v53 =>
    if v53 = 0 then
    (g_ob G a0 10).bind fun u70 =>
    (f_X10_isWord G a0 5).bind fun v70 =>
    if v70 = 0 then
    (g_ob G a0 10).bind fun u86 =>
    (f_X10_fails G a0 (1 : Int32)).bind fun q86 =>
    (g_z q86.2).bind fun w89 => some (q86.1, w89)
    else
    (g_ob G a0 10).bind fun u78 =>
    (f_X10_closeLine G a0 v1).bind fun q78 =>
    (g_z q78.2).bind fun w89 => some (q78.1, w89)
    else
    (g_ob G a0 10).bind fun u61 =>
    (f_X10_eraseLine G a0 v1).bind fun q61 =>
    (g_z q61.2).bind fun w89 => some (q61.1, w89)
    else
    (g_ob G a0 10).bind fun u44 =>
    (f_X10_writeLine G a0 v1).bind fun q44 =>
    (g_z q44.2).bind fun w89 => some (q44.1, w89)
    else
    (g_ob G a0 10).bind fun u29 =>
    (f_X10_fileLine G a0).bind fun q29 =>
    (g_z q29.2).bind fun w32 => some (q29.1, w32)
    else
    (g_ob G a0 10).bind fun u15 =>
    (f_X10_badLine G a0).bind fun q15 =>
    (g_z q15.2).bind fun w18 => some (q15.1, w18)
def f_X10_parse_L159 : Nat → gH → Nat → Int32 → Option (gH × Int32)
  | 0, _, _, _ => none
  | n + 1, G, ba0, bx3 =>
    if (10 : Int32) ≤ bx3 then
    (g_put G ba0 10 24 (.int (0 : Int32))).bind fun G185 =>
    (g_r G185 ba0 10 27).bind fun v189 =>
    (g_ast 1 G185 v189 (0 : Int32) (0 : Int32)).bind fun G194 =>
    (g_r G194 ba0 10 27).bind fun v196 =>
    (g_ast 1 G194 v196 (1 : Int32) (0 : Int32)).bind fun G201 =>
    some (G201, (0 : Int32))
    else
    (g_r G ba0 10 2).bind fun v166 =>
    (g_r G ba0 10 15).bind fun v171 =>
    (g_lald G v171 bx3).bind fun v175 =>
    (g_last G v166 bx3 v175).bind fun G176 =>
    f_X10_parse_L159 n G176 ba0 (bx3 + (1 : Int32))
def f_X10_parse_J135 (G : gH) (ba0 : Nat) (bx2 : Int32) : Option (gH × Int32) :=
    if bx2 = 0 then
    (g_r G ba0 10 14).bind fun v140 =>
    (g_r G ba0 10 1).bind fun v145 =>
    (f_X10_copies G v140 (0 : Int32) v145 (0 : Int32)).bind fun G149 =>
    (g_i G149 ba0 10 11).bind fun v153 =>
    some (G149, v153)
    else
    f_X10_parse_L159 g_N G ba0 (0 : Int32)
def f_X10_parse_L101 : Nat → gH → Nat → Int32 → Option (gH × Int32)
  | 0, _, _, _ => none
  | n + 1, G, ba0, bx2 =>
    if bx2 = 0 then
    f_X10_parse_J135 G ba0 bx2
    else
    (g_i G ba0 10 8).bind fun v106 =>
    if v106 = 0 then
    f_X10_parse_J135 G ba0 bx2
    else
    (g_ob G ba0 10).bind fun u113 =>
    (f_X10_statement G ba0).bind fun q113 =>
    if q113.2 = 0 then
    f_X10_parse_L101 n q113.1 ba0 (0 : Int32)
    else
    (g_ob q113.1 ba0 10).bind fun u120 =>
    (f_X10_closes q113.1 ba0).bind fun q120 =>
    if q120.2 = 0 then
    f_X10_parse_L101 n q120.1 ba0 (0 : Int32)
    else
    f_X10_parse_L101 n q120.1 ba0 (1 : Int32)
def f_X10_parse_L72 : Nat → gH → Nat → Int32 → Option (gH × Int32)
  | 0, _, _, _ => none
  | n + 1, G, ba0, bx2 =>
    if (1555 : Int32) ≤ bx2 then
    (g_ob G ba0 10).bind fun u93 =>
    (f_X10_advance G ba0).bind fun G93 =>
    (g_ob G93 ba0 10).bind fun u97 =>
    (f_X10_head G93 ba0).bind fun q97 =>
    f_X10_parse_L101 g_N q97.1 ba0 q97.2
    else
    (g_r G ba0 10 1).bind fun v80 =>
    (g_ast 0 G v80 bx2 (0 : Int32)).bind fun G85 =>
    f_X10_parse_L72 n G85 ba0 (bx2 + (1 : Int32))
def f_X10_parse_J23 (G : gH) (ba0 : Nat) (bx1 : Int32) (z0 : Nat) (z1 : Int32) : Option (gH × Int32) :=
    (g_ob G z0 10).bind fun u24 =>
    (f_X10_throwsIf G z0 z1 (1 : Int32)).bind fun q24 =>
    if q24.2 = 0 then
    (g_put q24.1 ba0 10 5 (.int bx1)).bind fun G34 =>
    (g_put G34 ba0 10 4 (.int (0 : Int32))).bind fun G39 =>
    (g_put G39 ba0 10 7 (.int (0 : Int32))).bind fun G44 =>
    (g_put G44 ba0 10 11 (.int (0 : Int32))).bind fun G49 =>
    (g_put G49 ba0 10 12 (.int (-1 : Int32))).bind fun G54 =>
    (g_r G54 ba0 10 1).bind fun v58 =>
    (g_r G54 ba0 10 14).bind fun v63 =>
    (f_X10_copies G54 v58 (0 : Int32) v63 (0 : Int32)).bind fun G67 =>
    f_X10_parse_L72 g_N G67 ba0 (0 : Int32)
    else
    some (q24.1, (0 : Int32))
def f_X10_parse (G : gH) (a0 : Nat) (x1 : Int32) : Option (gH × Int32) :=
    (g_put G a0 10 0 (.int (0 : Int32))).bind fun G2 =>
    (g_i G2 a0 10 4).bind fun v9 =>
    (f_X10_within G2 x1 (0 : Int32) v9).bind fun v12 =>
    if v12 = 0 then
    f_X10_parse_J23 G2 a0 x1 a0 (1 : Int32)
    else
    f_X10_parse_J23 G2 a0 x1 a0 (0 : Int32)
def f_X10_findsLost_L28 : Nat → gH → Nat → Int32 → Option gH
  | 0, _, _, _ => none
  | n + 1, G, ba0, bx1 =>
    (g_r G ba0 10 1).bind fun v30 =>
    (g_ald 0 G v30 (6 : Int32)).bind fun v35 =>
    if v35 ≤ bx1 then
    some G
    else
    (g_ob G ba0 10).bind fun u42 =>
    (f_X10_ofVersion G ba0 bx1 (4 : Int32)).bind fun v42 =>
    (g_ob G ba0 10).bind fun u46 =>
    (f_X10_latest G ba0).bind fun v46 =>
    if v42 = v46 then
    (g_ob G ba0 10).bind fun u54 =>
    (f_X10_isReadable G ba0 bx1).bind fun v54 =>
    if v54 = 0 then
    f_X10_findsLost_L28 n G ba0 (bx1 + (1 : Int32))
    else
    (g_ob G ba0 10).bind fun u62 =>
    (f_X10_isOutdone G ba0 bx1).bind fun v62 =>
    if v62 = 0 then
    (g_r G ba0 10 21).bind fun v69 =>
    (g_i G ba0 10 22).bind fun v73 =>
    (g_ast 0 G v69 v73 bx1).bind fun G77 =>
    (g_i G77 ba0 10 22).bind fun v80 =>
    (g_put G77 ba0 10 22 (.int (v80 + (1 : Int32)))).bind fun G85 =>
    f_X10_findsLost_L28 n G85 ba0 (bx1 + (1 : Int32))
    else
    f_X10_findsLost_L28 n G ba0 (bx1 + (1 : Int32))
    else
    f_X10_findsLost_L28 n G ba0 (bx1 + (1 : Int32))
def f_X10_findsLost (G : gH) (a0 : Nat) : Option gH :=
    (g_put G a0 10 22 (.int (0 : Int32))).bind fun G2 =>
    (g_ob G2 a0 10).bind fun u6 =>
    (f_X10_latest G2 a0).bind fun v6 =>
    if v6 < 0 then
    some G2
    else
    (g_ob G2 a0 10).bind fun u14 =>
    (f_X10_latest G2 a0).bind fun v14 =>
    (g_ob G2 a0 10).bind fun u18 =>
    (f_X10_of G2 a0 v14 (0 : Int32)).bind fun v18 =>
    if v18 = (2 : Int32) then
    f_X10_findsLost_L28 g_N G2 a0 (0 : Int32)
    else
    some G2
def f_X10_whyRecover (G : gH) (a0 : Nat) : Option (gH × Int32) :=
    (g_ob G a0 10).bind fun u1 =>
    (f_X10_findsLost G a0).bind fun G1 =>
    (g_i G1 a0 10 22).bind fun v5 =>
    if v5 = 0 then
    some (G1, (2 : Int32))
    else
    (g_r G1 a0 10 1).bind fun v14 =>
    (g_ald 0 G1 v14 (3 : Int32)).bind fun v18 =>
    if v18 = (12 : Int32) then
    some (G1, (3 : Int32))
    else
    (g_i G1 a0 10 22).bind fun v27 =>
    (f_X10_directoryLong G1 v27).bind fun v30 =>
    (g_ob G1 a0 10).bind fun u36 =>
    (f_X10_hasRoom G1 a0 v30).bind fun v36 =>
    if v36 = 0 then
    some (G1, (4 : Int32))
    else
    (g_ob G1 a0 10).bind fun u48 =>
    (f_X10_hasSpare G1 a0 v30).bind fun v48 =>
    if v48 = 0 then
    some (G1, (5 : Int32))
    else
    some (G1, (0 : Int32))
def f_X10_whyNot_J20 (G : gH) (ba0 : Nat) (bx1 : Int32) (z0 : Nat) (z1 : Int32) : Option (gH × Int32) :=
    (g_ob G z0 10).bind fun u21 =>
    (f_X10_throwsIf G z0 z1 (1 : Int32)).bind fun q21 =>
    if q21.2 = 0 then
    if bx1 = 0 then
    (g_ob q21.1 ba0 10).bind fun u34 =>
    (f_X10_whyClose q21.1 ba0).bind fun v34 =>
    some (q21.1, v34)
    else
    if bx1 = (1 : Int32) then
    (g_ob q21.1 ba0 10).bind fun u46 =>
    (f_X10_isOpen q21.1 ba0).bind fun v46 =>
    if v46 = 0 then
    some (q21.1, (1 : Int32))
    else
    some (q21.1, (0 : Int32))
    else
    (g_ob q21.1 ba0 10).bind fun u61 =>
    (f_X10_whyRecover q21.1 ba0).bind fun q61 =>
    some (q61.1, q61.2)
    else
    some (q21.1, (0 : Int32))
def f_X10_whyNot (G : gH) (a0 : Nat) (x1 : Int32) : Option (gH × Int32) :=
    (g_put G a0 10 0 (.int (0 : Int32))).bind fun G2 =>
    (f_X10_within G2 x1 (0 : Int32) (2 : Int32)).bind fun v9 =>
    if v9 = 0 then
    f_X10_whyNot_J20 G2 a0 x1 a0 (1 : Int32)
    else
    f_X10_whyNot_J20 G2 a0 x1 a0 (0 : Int32)
def f_X10_couldRecover (G : gH) (a0 : Nat) : Option (gH × Int32) :=
    (g_put G a0 10 0 (.int (0 : Int32))).bind fun G2 =>
    (g_ob G2 a0 10).bind fun u6 =>
    (f_X10_findsLost G2 a0).bind fun G6 =>
    (g_i G6 a0 10 22).bind fun v10 =>
    some (G6, v10)
def f_X10_write_J57 (G : gH) (ba0 : Nat) (bx1 : Int32) (bx2 : Int32) (bx3 : Int32) (z0 : Nat) (z1 : Int32) : Option (gH × Int32) :=
    (g_ob G z0 10).bind fun u58 =>
    (f_X10_throwsIf G z0 z1 (3 : Int32)).bind fun q58 =>
    if q58.2 = 0 then
    (g_ob q58.1 ba0 10).bind fun u67 =>
    (f_X10_keeps q58.1 ba0).bind fun G67 =>
    (g_ob G67 ba0 10).bind fun u74 =>
    (f_X10_writes G67 ba0 bx1 bx2 bx3).bind fun q74 =>
    some (q74.1, q74.2)
    else
    some (q58.1, (0 : Int32))
def f_X10_write_J35 (G : gH) (ba0 : Nat) (bx1 : Int32) (bx2 : Int32) (bx3 : Int32) (z0 : Nat) (z1 : Int32) : Option (gH × Int32) :=
    (g_ob G z0 10).bind fun u36 =>
    (f_X10_throwsIf G z0 z1 (2 : Int32)).bind fun q36 =>
    if q36.2 = 0 then
    (g_ob q36.1 ba0 10).bind fun u46 =>
    (f_X10_whyWrite q36.1 ba0 bx1 bx2).bind fun v46 =>
    if v46 ≤ 0 then
    f_X10_write_J57 q36.1 ba0 bx1 bx2 bx3 ba0 (0 : Int32)
    else
    f_X10_write_J57 q36.1 ba0 bx1 bx2 bx3 ba0 (1 : Int32)
    else
    some (q36.1, (0 : Int32))
def f_X10_write (G : gH) (a0 : Nat) (x1 : Int32) (x2 : Int32) (x3 : Int32) : Option (gH × Int32) :=
    (g_ob G a0 10).bind fun u2 =>
    (f_X10_noFile G a0 x1).bind fun q2 =>
    if q2.2 = 0 then
    (f_X10_within q2.1 x2 (1 : Int32) (8 : Int32)).bind fun v13 =>
    if v13 = 0 then
    f_X10_write_J35 q2.1 a0 x1 x2 x3 a0 (1 : Int32)
    else
    (f_X10_within q2.1 x3 (0 : Int32) (999 : Int32)).bind fun v24 =>
    if v24 = 0 then
    f_X10_write_J35 q2.1 a0 x1 x2 x3 a0 (1 : Int32)
    else
    f_X10_write_J35 q2.1 a0 x1 x2 x3 a0 (0 : Int32)
    else
    some (q2.1, (0 : Int32))
def f_X10_erase_J22 (G : gH) (ba0 : Nat) (bx1 : Int32) (z0 : Nat) (z1 : Int32) : Option (gH × Int32) :=
    (g_ob G z0 10).bind fun u23 =>
    (f_X10_throwsIf G z0 z1 (2 : Int32)).bind fun q23 =>
    if q23.2 = 0 then
    (g_ob q23.1 ba0 10).bind fun u32 =>
    (f_X10_keeps q23.1 ba0).bind fun G32 =>
    (g_ob G32 ba0 10).bind fun u37 =>
    (f_X10_erases G32 ba0 bx1).bind fun G37 =>
    (g_ob G37 ba0 10).bind fun u43 =>
    (f_X10_filesThere G37 ba0 (12 : Int32)).bind fun q43 =>
    some (q43.1, q43.2)
    else
    some (q23.1, (0 : Int32))
def f_X10_erase (G : gH) (a0 : Nat) (x1 : Int32) : Option (gH × Int32) :=
    (g_ob G a0 10).bind fun u2 =>
    (f_X10_noFile G a0 x1).bind fun q2 =>
    if q2.2 = 0 then
    (g_ob q2.1 a0 10).bind fun u11 =>
    (f_X10_whyErase q2.1 a0 x1).bind fun q11 =>
    if q11.2 ≤ 0 then
    f_X10_erase_J22 q11.1 a0 x1 a0 (0 : Int32)
    else
    f_X10_erase_J22 q11.1 a0 x1 a0 (1 : Int32)
    else
    some (q2.1, (0 : Int32))
def f_X10_close_J18 (G : gH) (ba0 : Nat) (z0 : Nat) (z1 : Int32) : Option (gH × Int32) :=
    (g_ob G z0 10).bind fun u19 =>
    (f_X10_throwsIf G z0 z1 (1 : Int32)).bind fun q19 =>
    if q19.2 = 0 then
    (g_ob q19.1 ba0 10).bind fun u28 =>
    (f_X10_keeps q19.1 ba0).bind fun G28 =>
    (g_ob G28 ba0 10).bind fun u32 =>
    (f_X10_closesOpen G28 ba0).bind fun G32 =>
    (g_ob G32 ba0 10).bind fun u36 =>
    (f_X10_latest G32 ba0).bind fun v36 =>
    some (G32, v36)
    else
    some (q19.1, (0 : Int32))
def f_X10_close (G : gH) (a0 : Nat) : Option (gH × Int32) :=
    (g_put G a0 10 0 (.int (0 : Int32))).bind fun G2 =>
    (g_ob G2 a0 10).bind fun u7 =>
    (f_X10_whyClose G2 a0).bind fun v7 =>
    if v7 ≤ 0 then
    f_X10_close_J18 G2 a0 a0 (0 : Int32)
    else
    f_X10_close_J18 G2 a0 a0 (1 : Int32)
def f_X10_crash_J18 (G : gH) (ba0 : Nat) (z0 : Nat) (z1 : Int32) : Option (gH × Int32) :=
    (g_ob G z0 10).bind fun u19 =>
    (f_X10_throwsIf G z0 z1 (1 : Int32)).bind fun q19 =>
    if q19.2 = 0 then
    (g_ob q19.1 ba0 10).bind fun u28 =>
    (f_X10_keeps q19.1 ba0).bind fun G28 =>
    (g_ob G28 ba0 10).bind fun u33 =>
    (f_X10_latest G28 ba0).bind fun v33 =>
    (g_ob G28 ba0 10).bind fun u38 =>
    (f_X10_sets G28 ba0 v33 (0 : Int32) (2 : Int32)).bind fun G38 =>
    (g_ob G38 ba0 10).bind fun u43 =>
    (f_X10_latest G38 ba0).bind fun v43 =>
    (g_ob G38 ba0 10).bind fun u48 =>
    (f_X10_sets G38 ba0 v43 (2 : Int32) (0 : Int32)).bind fun G48 =>
    (g_ob G48 ba0 10).bind fun u53 =>
    (f_X10_latest G48 ba0).bind fun v53 =>
    (g_ob G48 ba0 10).bind fun u57 =>
    (f_X10_writtenBy G48 ba0 v53 (1 : Int32)).bind fun v57 =>
    some (G48, v57)
    else
    some (q19.1, (0 : Int32))
def f_X10_crash (G : gH) (a0 : Nat) : Option (gH × Int32) :=
    (g_put G a0 10 0 (.int (0 : Int32))).bind fun G2 =>
    (g_ob G2 a0 10).bind fun u7 =>
    (f_X10_isOpen G2 a0).bind fun v7 =>
    if v7 = 0 then
    f_X10_crash_J18 G2 a0 a0 (1 : Int32)
    else
    f_X10_crash_J18 G2 a0 a0 (0 : Int32)
def f_X10_recover_L43 : Nat → gH → Nat → Int32 → Option (gH × Int32)
  | 0, _, _, _ => none
  | n + 1, G, ba0, bx1 =>
    (g_i G ba0 10 22).bind fun v45 =>
    if v45 ≤ bx1 then
    (g_ob G ba0 10).bind fun u79 =>
    (f_X10_closesOpen G ba0).bind fun G79 =>
    (g_i G79 ba0 10 22).bind fun v83 =>
    some (G79, v83)
    else
    (g_r G ba0 10 21).bind fun v54 =>
    (g_ald 0 G v54 bx1).bind fun v58 =>
    (g_ob G ba0 10).bind fun u60 =>
    (f_X10_ofVersion G ba0 v58 (0 : Int32)).bind fun v60 =>
    (g_r G ba0 10 21).bind fun v64 =>
    (g_ald 0 G v64 bx1).bind fun v68 =>
    (g_ob G ba0 10).bind fun u69 =>
    (f_X10_enters G ba0 v60 v68).bind fun G69 =>
    f_X10_recover_L43 n G69 ba0 (bx1 + (1 : Int32))
def f_X10_recover_J18 (G : gH) (ba0 : Nat) (z0 : Nat) (z1 : Int32) : Option (gH × Int32) :=
    (g_ob G z0 10).bind fun u19 =>
    (f_X10_throwsIf G z0 z1 (1 : Int32)).bind fun q19 =>
    if q19.2 = 0 then
    (g_ob q19.1 ba0 10).bind fun u28 =>
    (f_X10_keeps q19.1 ba0).bind fun G28 =>
    (g_ob G28 ba0 10).bind fun u33 =>
    (f_X10_latest G28 ba0).bind fun v33 =>
    (g_ob G28 ba0 10).bind fun u38 =>
    (f_X10_sets G28 ba0 v33 (0 : Int32) (3 : Int32)).bind fun G38 =>
    f_X10_recover_L43 g_N G38 ba0 (0 : Int32)
    else
    some (q19.1, (0 : Int32))
def f_X10_recover (G : gH) (a0 : Nat) : Option (gH × Int32) :=
    (g_put G a0 10 0 (.int (0 : Int32))).bind fun G2 =>
    (g_ob G2 a0 10).bind fun u7 =>
    (f_X10_whyRecover G2 a0).bind fun q7 =>
    if q7.2 ≤ 0 then
    f_X10_recover_J18 q7.1 a0 a0 (0 : Int32)
    else
    f_X10_recover_J18 q7.1 a0 a0 (1 : Int32)
def f_X10_scratch_J54 (G : gH) (ba0 : Nat) (bx2 : Int32) (z0 : Int32) : Option (gH × Int32) :=
    (g_r G ba0 10 1).bind fun v56 =>
    (g_ast 0 G v56 bx2 (1 : Int32)).bind fun G61 =>
    if z0 = 0 then
    some (G61, (1 : Int32))
    else
    some (G61, (0 : Int32))
def f_X10_scratch_J38 (G : gH) (ba0 : Nat) (z0 : Int32) : Option (gH × Int32) :=
    (g_r G ba0 10 1).bind fun v40 =>
    (g_ald 0 G v40 z0).bind fun v44 =>
    if v44 = (1 : Int32) then
    f_X10_scratch_J54 G ba0 z0 (1 : Int32)
    else
    f_X10_scratch_J54 G ba0 z0 (0 : Int32)
def f_X10_scratch (G : gH) (a0 : Nat) (x1 : Int32) : Option (gH × Int32) :=
    (g_ob G a0 10).bind fun u2 =>
    (f_X10_noBlock G a0 x1).bind fun q2 =>
    if q2.2 = 0 then
    (g_ob q2.1 a0 10).bind fun u11 =>
    (f_X10_keeps q2.1 a0).bind fun G11 =>
    (g_r G11 a0 10 1).bind fun v15 =>
    (g_ald 0 G11 v15 ((7 : Int32) + x1)).bind fun v22 =>
    if v22 = 0 then
    f_X10_scratch_J38 G11 a0 ((103 : Int32) + x1)
    else
    f_X10_scratch_J38 G11 a0 ((199 : Int32) + x1)
    else
    some (q2.1, (0 : Int32))
def f_X10_setScan_J24 (G : gH) (ba0 : Nat) (bx1 : Int32) (z0 : Int32) : Option (gH × Int32) :=
    (g_r G ba0 10 1).bind fun v26 =>
    if bx1 = 0 then
    (g_ast 0 G v26 (5 : Int32) (0 : Int32)).bind fun G39 =>
    (g_z z0).bind fun w41 => some (G39, w41)
    else
    (g_ast 0 G v26 (5 : Int32) (1 : Int32)).bind fun G39 =>
    (g_z z0).bind fun w41 => some (G39, w41)
def f_X10_setScan (G : gH) (a0 : Nat) (x1 : Int32) : Option (gH × Int32) :=
    (g_put G a0 10 0 (.int (0 : Int32))).bind fun G2 =>
    (g_ob G2 a0 10).bind fun u6 =>
    (f_X10_keeps G2 a0).bind fun G6 =>
    (g_r G6 a0 10 1).bind fun v10 =>
    (g_ald 0 G6 v10 (5 : Int32)).bind fun v14 =>
    if v14 = (1 : Int32) then
    f_X10_setScan_J24 G6 a0 x1 (1 : Int32)
    else
    f_X10_setScan_J24 G6 a0 x1 (0 : Int32)
def f_X11_kindOf (G : gH) (a0 : Nat) (x1 : Int32) : Option Int32 :=
    (g_i G a0 11 0).bind fun v2 =>
    if v2 ≤ x1 then
    some (0 : Int32)
    else
    (g_r G a0 11 2).bind fun v9 =>
    (f_X9_at G v9 x1 (0 : Int32)).bind fun v14 =>
    some v14
def f_X11_startOf (G : gH) (a0 : Nat) (x1 : Int32) : Option Int32 :=
    (g_i G a0 11 0).bind fun v2 =>
    if v2 ≤ x1 then
    (g_i G a0 11 1).bind fun v24 =>
    some v24
    else
    (g_r G a0 11 3).bind fun v9 =>
    (g_i G a0 11 1).bind fun v14 =>
    (f_X9_at G v9 x1 v14).bind fun v17 =>
    some v17
def f_X11_numberOf (G : gH) (a0 : Nat) (x1 : Int32) : Option Int32 :=
    (g_r G a0 11 4).bind fun v1 =>
    (f_X9_at_ G v1 x1 (-1 : Int64)).bind fun v8 =>
    some v8.toInt32
def f_X11_valueOf (G : gH) (a0 : Nat) (x1 : Int32) : Option Int64 :=
    (g_r G a0 11 4).bind fun v1 =>
    (f_X9_at_ G v1 x1 (-1 : Int64)).bind fun v8 =>
    some v8
def f_X11_begin (G : gH) (a0 : Nat) (x1 : Int32) (x2 : Int32) : Option gH :=
    (g_r G a0 11 2).bind fun v1 =>
    (g_i G a0 11 0).bind fun v5 =>
    (f_X9_put G v1 v5 x1).bind fun G9 =>
    (g_r G9 a0 11 3).bind fun v13 =>
    (g_i G9 a0 11 0).bind fun v17 =>
    (f_X9_put G9 v13 v17 x2).bind fun G21 =>
    (g_r G21 a0 11 4).bind fun v25 =>
    (g_i G21 a0 11 0).bind fun v29 =>
    (f_X9_put_ G21 v25 v29 (0 : Int64)).bind fun G33 =>
    (g_i G33 a0 11 0).bind fun v38 =>
    (g_put G33 a0 11 0 (.int (v38 + (1 : Int32)))).bind fun G43 =>
    some G43
def f_X11_takeLetter (G : gH) (a0 : Nat) (x1 : Int32) (x2 : Int32) : Option gH :=
    (g_i G a0 11 0).bind fun v1 =>
    (g_r G a0 11 4).bind fun v8 =>
    (g_ob G a0 11).bind fun u14 =>
    (f_X11_valueOf G a0 (v1 - (1 : Int32))).bind fun v14 =>
    (f_X9_withLetter G v14 x1).bind fun v18 =>
    (f_X9_put_ G v8 (v1 - (1 : Int32)) v18).bind fun G21 =>
    (g_ob G21 a0 11).bind fun u27 =>
    (f_X11_startOf G21 a0 (v1 - (1 : Int32))).bind fun v27 =>
    if (x2 - v27) < (8 : Int32) then
    some G21
    else
    (g_r G21 a0 11 2).bind fun v37 =>
    (f_X9_put G21 v37 (v1 - (1 : Int32)) (4 : Int32)).bind fun G42 =>
    some G42
def f_X11_takeDigit (G : gH) (a0 : Nat) (x1 : Int32) (x2 : Int32) : Option gH :=
    (g_i G a0 11 0).bind fun v1 =>
    (g_r G a0 11 4).bind fun v8 =>
    (g_ob G a0 11).bind fun u14 =>
    (f_X11_valueOf G a0 (v1 - (1 : Int32))).bind fun v14 =>
    (f_X9_put_ G v8 (v1 - (1 : Int32)) ((v14 * (10 : Int64)) + (x1 - (48 : Int32)).toInt64)).bind fun G27 =>
    (g_ob G27 a0 11).bind fun u33 =>
    (f_X11_startOf G27 a0 (v1 - (1 : Int32))).bind fun v33 =>
    if (x2 - v33) < (3 : Int32) then
    some G27
    else
    (g_r G27 a0 11 2).bind fun v42 =>
    (f_X9_put G27 v42 (v1 - (1 : Int32)) (4 : Int32)).bind fun G47 =>
    some G47
def f_X3_addByte (G : gH) (a0 : Nat) (x1 : Int32) : Option gH :=
    (g_r G a0 3 0).bind fun v1 =>
    (g_i G a0 3 1).bind fun v5 =>
    (f_X9_put G v1 v5 (x1 &&& (255 : Int32))).bind fun G13 =>
    (g_i G13 a0 3 1).bind fun v18 =>
    (g_put G13 a0 3 1 (.int (v18 + (1 : Int32)))).bind fun G23 =>
    some G23
def f_X3_byteAt (G : gH) (a0 : Nat) (x1 : Int32) : Option Int32 :=
    (g_r G a0 3 0).bind fun v1 =>
    (f_X9_at G v1 x1 (-1 : Int32)).bind fun v6 =>
    some v6
def f_X3_kindAt_J29 (G : gH) (bx2 : Int32) : Option Int32 :=
    if bx2 = (32 : Int32) then
    some (0 : Int32)
    else
    if bx2 = (10 : Int32) then
    some (0 : Int32)
    else
    if bx2 = (59 : Int32) then
    some (3 : Int32)
    else
    some (4 : Int32)
def f_X3_kindAt (G : gH) (a0 : Nat) (x1 : Int32) : Option Int32 :=
    (g_ob G a0 3).bind fun u2 =>
    (f_X3_byteAt G a0 x1).bind fun v2 =>
    (f_X9_isLetter G v2).bind fun v7 =>
    if v7 = 0 then
    if v2 < (48 : Int32) then
    f_X3_kindAt_J29 G v2
    else
    if (57 : Int32) < v2 then
    f_X3_kindAt_J29 G v2
    else
    some (2 : Int32)
    else
    some (1 : Int32)
def f_X3_nameAlone_J51 (G : gH) (k7 : Nat → Int32 → Int64 → Int32 → Option Int64) (ba0 : Nat) (bx1 : Int32) (bx2 : Int64) (bx4 : Int32) (bx5 : Int32) : Option Int64 :=
    if bx5 = (32 : Int32) then
    k7 ba0 bx1 bx2 (bx4 + (1 : Int32))
    else
    some (-1 : Int64)
def f_X3_nameAlone_L7 (G : gH) : Nat → Nat → Int32 → Int64 → Int32 → Option Int64
  | 0, _, _, _, _ => none
  | n + 1, ba0, bx1, bx2, bx4 =>
    (g_i G ba0 3 1).bind fun v10 =>
    if v10 ≤ bx4 then
    if bx1 < (1 : Int32) then
    some (-1 : Int64)
    else
    if (8 : Int32) < bx1 then
    some (-1 : Int64)
    else
    some bx2
    else
    (g_ob G ba0 3).bind fun u19 =>
    (f_X3_byteAt G ba0 bx4).bind fun v19 =>
    (f_X9_isLetter G v19).bind fun v26 =>
    if v26 = 0 then
    f_X3_nameAlone_J51 G (f_X3_nameAlone_L7 G n) ba0 bx1 bx2 bx4 v19
    else
    if bx1 = bx4 then
    (f_X9_withLetter G bx2 v19).bind fun v44 =>
    f_X3_nameAlone_L7 G n ba0 (bx1 + (1 : Int32)) v44 (bx4 + (1 : Int32))
    else
    f_X3_nameAlone_J51 G (f_X3_nameAlone_L7 G n) ba0 bx1 bx2 bx4 v19
def f_X3_nameAlone (G : gH) (a0 : Nat) : Option Int64 :=
    f_X3_nameAlone_L7 G g_N a0 (0 : Int32) (0 : Int64) (0 : Int32)
def f_X4_refuseStatement (G : gH) (a0 : Nat) (x1 : Int32) : Option gH :=
    (g_put G a0 4 0 (.int (6 : Int32))).bind fun G3 =>
    (g_r G3 a0 4 8).bind fun v8 =>
    (f_X9_at G3 v8 x1 (-1 : Int32)).bind fun v13 =>
    (g_put G3 a0 4 1 (.int v13)).bind fun G16 =>
    some G16
def f_X4_kindOf (G : gH) (a0 : Nat) (x1 : Int32) : Option Int32 :=
    (g_r G a0 4 7).bind fun v1 =>
    (f_X9_at G v1 x1 (-1 : Int32)).bind fun v6 =>
    some v6
def f_X4_targetOf (G : gH) (a0 : Nat) (x1 : Int32) : Option Int32 :=
    (g_r G a0 4 9).bind fun v1 =>
    (f_X9_at G v1 x1 (-1 : Int32)).bind fun v6 =>
    some v6
def f_X4_lengthOf (G : gH) (a0 : Nat) (x1 : Int32) : Option Int32 :=
    (g_r G a0 4 10).bind fun v1 =>
    (f_X9_at G v1 x1 (0 : Int32)).bind fun v6 =>
    some v6
def f_X4_tagOf (G : gH) (a0 : Nat) (x1 : Int32) : Option Int32 :=
    (g_r G a0 4 11).bind fun v1 =>
    (f_X9_at G v1 x1 (0 : Int32)).bind fun v6 =>
    some v6
def f_X4_readNewFile (G : gH) (a0 : Nat) : Option (gH × Int32) :=
    (g_i G a0 4 4).bind fun v1 =>
    if v1 < (10 : Int32) then
    (g_i G a0 4 14).bind fun v17 =>
    (g_put G a0 4 14 (.int (v17 + (1 : Int32)))).bind fun G22 =>
    (g_r G22 a0 4 13).bind fun v26 =>
    (g_i G22 a0 4 14).bind fun v30 =>
    (g_ob G22 v26 11).bind fun u33 =>
    (f_X11_kindOf G22 v26 v30).bind fun v33 =>
    if v33 = (1 : Int32) then
    (g_r G22 a0 4 13).bind fun v47 =>
    (g_i G22 a0 4 14).bind fun v51 =>
    (g_ob G22 v47 11).bind fun u54 =>
    (f_X11_valueOf G22 v47 v51).bind fun v54 =>
    (g_r G22 a0 4 5).bind fun v59 =>
    (g_i G22 a0 4 4).bind fun v63 =>
    (f_X9_indexOf G22 v59 v63 v54).bind fun v67 =>
    if v67 = (-1 : Int32) then
    (g_r G22 a0 4 5).bind fun v81 =>
    (g_i G22 a0 4 4).bind fun v85 =>
    (f_X9_put_ G22 v81 v85 v54).bind fun G89 =>
    (g_i G89 a0 4 4).bind fun v94 =>
    (g_put G89 a0 4 4 (.int (v94 + (1 : Int32)))).bind fun G99 =>
    some (G99, (1 : Int32))
    else
    (g_ob G22 a0 4).bind fun u76 =>
    (f_X4_fail G22 a0 (2 : Int32)).bind fun q76 =>
    (g_z q76.2).bind fun w79 => some (q76.1, w79)
    else
    (g_ob G22 a0 4).bind fun u42 =>
    (f_X4_fail G22 a0 (1 : Int32)).bind fun q42 =>
    (g_z q42.2).bind fun w45 => some (q42.1, w45)
    else
    (g_ob G a0 4).bind fun u11 =>
    (f_X4_fail G a0 (5 : Int32)).bind fun q11 =>
    (g_z q11.2).bind fun w14 => some (q11.1, w14)
def f_X4_add (G : gH) (a0 : Nat) (x1 : Int32) (x2 : Int32) (x3 : Int32) : Option (gH × Int32) :=
    (g_r G a0 4 7).bind fun v1 =>
    (g_i G a0 4 6).bind fun v5 =>
    (f_X9_put G v1 v5 x1).bind fun G9 =>
    (g_r G9 a0 4 8).bind fun v13 =>
    (g_i G9 a0 4 6).bind fun v17 =>
    (f_X9_put G9 v13 v17 x2).bind fun G21 =>
    (g_r G21 a0 4 9).bind fun v25 =>
    (g_i G21 a0 4 6).bind fun v29 =>
    (f_X9_put G21 v25 v29 x3).bind fun G33 =>
    (g_i G33 a0 4 6).bind fun v38 =>
    (g_put G33 a0 4 6 (.int (v38 + (1 : Int32)))).bind fun G43 =>
    some (G43, (1 : Int32))
def f_X4_isWord (G : gH) (a0 : Nat) (s1 : Nat) : Option Int32 :=
    (g_r G a0 4 13).bind fun v1 =>
    (g_i G a0 4 14).bind fun v5 =>
    (g_ob G v1 11).bind fun u8 =>
    (f_X11_kindOf G v1 v5).bind fun v8 =>
    if v8 = (1 : Int32) then
    (g_r G a0 4 13).bind fun v16 =>
    (g_i G a0 4 14).bind fun v20 =>
    (g_ob G v16 11).bind fun u23 =>
    (f_X11_valueOf G v16 v20).bind fun v23 =>
    (f_X9_packed G s1).bind fun v27 =>
    if (lg_cmp v23 v27) = 0 then
    some (1 : Int32)
    else
    some (0 : Int32)
    else
    some (0 : Int32)
def f_X4_readFile (G : gH) (a0 : Nat) : Option (gH × Int32) :=
    (g_i G a0 4 14).bind fun v2 =>
    (g_put G a0 4 14 (.int (v2 + (1 : Int32)))).bind fun G7 =>
    (g_r G7 a0 4 13).bind fun v11 =>
    (g_i G7 a0 4 14).bind fun v15 =>
    (g_ob G7 v11 11).bind fun u18 =>
    (f_X11_kindOf G7 v11 v15).bind fun v18 =>
    if v18 = (1 : Int32) then
    (g_r G7 a0 4 5).bind fun v34 =>
    (g_i G7 a0 4 4).bind fun v38 =>
    (g_r G7 a0 4 13).bind fun v42 =>
    (g_i G7 a0 4 14).bind fun v46 =>
    (g_ob G7 v42 11).bind fun u49 =>
    (f_X11_valueOf G7 v42 v46).bind fun v49 =>
    (f_X9_indexOf G7 v34 v38 v49).bind fun v52 =>
    if v52 = (-1 : Int32) then
    (g_ob G7 a0 4).bind fun u63 =>
    (f_X4_fail G7 a0 (4 : Int32)).bind fun q63 =>
    some (q63.1, v52)
    else
    some (G7, v52)
    else
    (g_ob G7 a0 4).bind fun u27 =>
    (f_X4_fail G7 a0 (1 : Int32)).bind fun q27 =>
    some (q27.1, (-1 : Int32))
def f_X4_readNumber_J53 (G : gH) (ba0 : Nat) : Option (gH × Int32) :=
    (g_ob G ba0 4).bind fun u55 =>
    (f_X4_fail G ba0 (3 : Int32)).bind fun q55 =>
    if q55.2 = 0 then
    some (q55.1, (0 : Int32))
    else
    some (q55.1, (1 : Int32))
def f_X4_readNumber (G : gH) (a0 : Nat) (x1 : Int32) (x2 : Int32) : Option (gH × Int32) :=
    (g_i G a0 4 14).bind fun v2 =>
    (g_put G a0 4 14 (.int (v2 + (1 : Int32)))).bind fun G7 =>
    (g_r G7 a0 4 13).bind fun v11 =>
    (g_i G7 a0 4 14).bind fun v15 =>
    (g_ob G7 v11 11).bind fun u18 =>
    (f_X11_kindOf G7 v11 v15).bind fun v18 =>
    if v18 = (2 : Int32) then
    (g_r G7 a0 4 13).bind fun v32 =>
    (g_i G7 a0 4 14).bind fun v36 =>
    (g_ob G7 v32 11).bind fun u39 =>
    (f_X11_numberOf G7 v32 v36).bind fun v39 =>
    if v39 < x1 then
    f_X4_readNumber_J53 G7 a0
    else
    if v39 ≤ x2 then
    some (G7, (1 : Int32))
    else
    f_X4_readNumber_J53 G7 a0
    else
    (g_ob G7 a0 4).bind fun u27 =>
    (f_X4_fail G7 a0 (1 : Int32)).bind fun q27 =>
    (g_z q27.2).bind fun w30 => some (q27.1, w30)
def f_X4_readSemicolon (G : gH) (a0 : Nat) : Option (gH × Int32) :=
    (g_i G a0 4 14).bind fun v2 =>
    (g_put G a0 4 14 (.int (v2 + (1 : Int32)))).bind fun G7 =>
    (g_r G7 a0 4 13).bind fun v11 =>
    (g_i G7 a0 4 14).bind fun v15 =>
    (g_ob G7 v11 11).bind fun u18 =>
    (f_X11_kindOf G7 v11 v15).bind fun v18 =>
    if v18 = (3 : Int32) then
    some (G7, (1 : Int32))
    else
    (g_ob G7 a0 4).bind fun u27 =>
    (f_X4_fail G7 a0 (1 : Int32)).bind fun q27 =>
    if q27.2 = 0 then
    some (q27.1, (0 : Int32))
    else
    some (q27.1, (1 : Int32))
def f_X5_takeFrom (G : gH) (a0 : Nat) (a1 : Nat) : Option gH :=
    (g_i G a1 5 0).bind fun v2 =>
    (g_put G a0 5 0 (.int v2)).bind fun G5 =>
    (g_r G5 a1 5 1).bind fun v9 =>
    (g_r G5 a0 5 1).bind fun v13 =>
    (f_X9_copy G5 v9 v13).bind fun G16 =>
    (g_r G16 a1 5 2).bind fun v20 =>
    (g_r G16 a0 5 2).bind fun v24 =>
    (f_X9_copy G16 v20 v24).bind fun G27 =>
    (g_r G27 a1 5 3).bind fun v31 =>
    (g_r G27 a0 5 3).bind fun v35 =>
    (f_X9_copy G27 v31 v35).bind fun G38 =>
    (g_r G38 a1 5 4).bind fun v42 =>
    (g_r G38 a0 5 4).bind fun v46 =>
    (f_X9_copy G38 v42 v46).bind fun G49 =>
    (g_r G49 a1 5 5).bind fun v53 =>
    (g_r G49 a0 5 5).bind fun v57 =>
    (f_X9_copy G49 v53 v57).bind fun G60 =>
    (g_r G60 a1 5 6).bind fun v64 =>
    (g_r G60 a0 5 6).bind fun v68 =>
    (f_X9_copy G60 v64 v68).bind fun G71 =>
    (g_r G71 a1 5 7).bind fun v75 =>
    (g_r G71 a0 5 7).bind fun v79 =>
    (f_X9_copy G71 v75 v79).bind fun G82 =>
    some G82
def f_X5_stateOf (G : gH) (a0 : Nat) (x1 : Int32) : Option Int32 :=
    (g_i G a0 5 0).bind fun v2 =>
    if v2 ≤ x1 then
    some (-1 : Int32)
    else
    (g_r G a0 5 1).bind fun v9 =>
    (f_X9_at G v9 x1 (-1 : Int32)).bind fun v14 =>
    some v14
def f_X5_firstOf (G : gH) (a0 : Nat) (x1 : Int32) : Option Int32 :=
    (g_r G a0 5 2).bind fun v1 =>
    (f_X9_at G v1 x1 (-1 : Int32)).bind fun v6 =>
    some v6
def f_X5_directoryOf (G : gH) (a0 : Nat) (x1 : Int32) : Option Int32 :=
    (g_r G a0 5 3).bind fun v1 =>
    (f_X9_at G v1 x1 (-1 : Int32)).bind fun v6 =>
    some v6
def f_X5_directoryLengthOf (G : gH) (a0 : Nat) (x1 : Int32) : Option Int32 :=
    (g_r G a0 5 4).bind fun v1 =>
    (f_X9_at G v1 x1 (0 : Int32)).bind fun v6 =>
    some v6
def f_X5_entriesOf (G : gH) (a0 : Nat) (x1 : Int32) : Option Int32 :=
    (g_r G a0 5 5).bind fun v1 =>
    (f_X9_at G v1 x1 (0 : Int32)).bind fun v6 =>
    some v6
def f_X5_fileAt (G : gH) (a0 : Nat) (x1 : Int32) (x2 : Int32) : Option Int32 :=
    if x2 < 0 then
    some (-1 : Int32)
    else
    (g_ob G a0 5).bind fun u7 =>
    (f_X5_entriesOf G a0 x1).bind fun v7 =>
    if v7 ≤ x2 then
    some (-1 : Int32)
    else
    (g_r G a0 5 6).bind fun v14 =>
    (f_X9_at G v14 ((x1 * (10 : Int32)) + x2) (-1 : Int32)).bind fun v24 =>
    some v24
def f_X5_hasEntry (G : gH) (a0 : Nat) (x1 : Int32) (x2 : Int32) : Option Int32 :=
    (g_r G a0 5 7).bind fun v1 =>
    (f_X9_at G v1 ((x1 * (10 : Int32)) + x2) (-2 : Int32)).bind fun v12 =>
    if v12 = (-2 : Int32) then
    some (0 : Int32)
    else
    some (1 : Int32)
def f_X5_versionFor (G : gH) (a0 : Nat) (x1 : Int32) (x2 : Int32) : Option Int32 :=
    (g_r G a0 5 7).bind fun v1 =>
    (f_X9_at G v1 ((x1 * (10 : Int32)) + x2) (-2 : Int32)).bind fun v12 =>
    if v12 = (-2 : Int32) then
    some (-1 : Int32)
    else
    some v12
def f_X5_forgetEntries_L11 : Nat → gH → Nat → Int32 → Int32 → Option gH
  | 0, _, _, _, _ => none
  | n + 1, G, ba0, bx1, bx2 =>
    if (10 : Int32) ≤ bx2 then
    some G
    else
    (g_r G ba0 5 7).bind fun v18 =>
    (f_X9_put G v18 ((bx1 * (10 : Int32)) + bx2) (-2 : Int32)).bind fun G29 =>
    f_X5_forgetEntries_L11 n G29 ba0 bx1 (bx2 + (1 : Int32))
def f_X5_forgetEntries (G : gH) (a0 : Nat) (x1 : Int32) : Option gH :=
    (g_r G a0 5 5).bind fun v1 =>
    (f_X9_put G v1 x1 (0 : Int32)).bind fun G6 =>
    f_X5_forgetEntries_L11 g_N G6 a0 x1 (0 : Int32)
def f_X5_enter_J47 (G : gH) (ba0 : Nat) (bx1 : Int32) (bx2 : Int32) (bx3 : Int32) : Option gH :=
    (g_r G ba0 5 7).bind fun v48 =>
    (f_X9_put G v48 ((bx3 * (10 : Int32)) + bx1) bx2).bind fun G58 =>
    some G58
def f_X5_enter (G : gH) (a0 : Nat) (x1 : Int32) (x2 : Int32) : Option gH :=
    (g_ob G a0 5).bind fun u1 =>
    (f_X5_latest G a0).bind fun v1 =>
    (g_ob G a0 5).bind fun u8 =>
    (f_X5_hasEntry G a0 v1 x1).bind fun v8 =>
    if v8 = 0 then
    (g_r G a0 5 6).bind fun v15 =>
    (g_ob G a0 5).bind fun u24 =>
    (f_X5_entriesOf G a0 v1).bind fun v24 =>
    (f_X9_put G v15 ((v1 * (10 : Int32)) + v24) x1).bind fun G29 =>
    (g_r G29 a0 5 5).bind fun v33 =>
    (g_ob G29 a0 5).bind fun u39 =>
    (f_X5_entriesOf G29 a0 v1).bind fun v39 =>
    (f_X9_put G29 v33 v1 (v39 + (1 : Int32))).bind fun G44 =>
    f_X5_enter_J47 G44 a0 x1 x2 v1
    else
    f_X5_enter_J47 G a0 x1 x2 v1
def f_X5_markClosed (G : gH) (a0 : Nat) (x1 : Int32) (x2 : Int32) : Option gH :=
    (g_r G a0 5 1).bind fun v1 =>
    (g_ob G a0 5).bind fun u5 =>
    (f_X5_latest G a0).bind fun v5 =>
    (f_X9_put G v1 v5 (1 : Int32)).bind fun G9 =>
    (g_r G9 a0 5 3).bind fun v13 =>
    (g_ob G9 a0 5).bind fun u17 =>
    (f_X5_latest G9 a0).bind fun v17 =>
    (f_X9_put G9 v13 v17 x1).bind fun G21 =>
    (g_r G21 a0 5 4).bind fun v25 =>
    (g_ob G21 a0 5).bind fun u29 =>
    (f_X5_latest G21 a0).bind fun v29 =>
    (f_X9_put G21 v25 v29 x2).bind fun G33 =>
    some G33
def f_X5_markLost (G : gH) (a0 : Nat) : Option gH :=
    (g_r G a0 5 1).bind fun v1 =>
    (g_ob G a0 5).bind fun u5 =>
    (f_X5_latest G a0).bind fun v5 =>
    (f_X9_put G v1 v5 (2 : Int32)).bind fun G9 =>
    (g_ob G9 a0 5).bind fun u14 =>
    (f_X5_latest G9 a0).bind fun v14 =>
    (g_ob G9 a0 5).bind fun u17 =>
    (f_X5_forgetEntries G9 a0 v14).bind fun G17 =>
    some G17
def f_X5_markRecovered (G : gH) (a0 : Nat) : Option gH :=
    (g_r G a0 5 1).bind fun v1 =>
    (g_ob G a0 5).bind fun u5 =>
    (f_X5_latest G a0).bind fun v5 =>
    (f_X9_put G v1 v5 (3 : Int32)).bind fun G9 =>
    some G9
def f_X5_linkOf_L15 (G : gH) : Nat → Nat → Int32 → Option Int32
  | 0, _, _ => none
  | n + 1, ba0, bx2 =>
    if bx2 < 0 then
    some (-1 : Int32)
    else
    (g_ob G ba0 5).bind fun u21 =>
    (f_X5_stateOf G ba0 bx2).bind fun v21 =>
    if v21 = (1 : Int32) then
    some bx2
    else
    f_X5_linkOf_L15 G n ba0 (bx2 + (-1 : Int32))
def f_X5_linkOf (G : gH) (a0 : Nat) (x1 : Int32) : Option Int32 :=
    (g_ob G a0 5).bind fun u2 =>
    (f_X5_directoryOf G a0 x1).bind fun v2 =>
    if v2 = (-1 : Int32) then
    some (-1 : Int32)
    else
    f_X5_linkOf_L15 G g_N a0 (x1 - (1 : Int32))
def f_X6_clear (G : gH) (a0 : Nat) : Option gH :=
    (g_r G a0 6 0).bind fun v1 =>
    (f_X9_fill_ G v1 (0 : Int32)).bind fun G5 =>
    some G5
def f_X6_isStored (G : gH) (a0 : Nat) (x1 : Int32) : Option Int32 :=
    (g_r G a0 6 0).bind fun v1 =>
    (f_X9_isSet G v1 x1).bind fun v5 =>
    g_z v5
def f_X7_takeFrom (G : gH) (a0 : Nat) (a1 : Nat) : Option gH :=
    (g_i G a1 7 0).bind fun v2 =>
    (g_put G a0 7 0 (.int v2)).bind fun G5 =>
    (g_r G5 a1 7 1).bind fun v9 =>
    (g_r G5 a0 7 1).bind fun v13 =>
    (f_X9_copy G5 v9 v13).bind fun G16 =>
    (g_r G16 a1 7 2).bind fun v20 =>
    (g_r G16 a0 7 2).bind fun v24 =>
    (f_X9_copy G16 v20 v24).bind fun G27 =>
    (g_r G27 a1 7 3).bind fun v31 =>
    (g_r G27 a0 7 3).bind fun v35 =>
    (f_X9_copy G27 v31 v35).bind fun G38 =>
    (g_r G38 a1 7 4).bind fun v42 =>
    (g_r G38 a0 7 4).bind fun v46 =>
    (f_X9_copy G38 v42 v46).bind fun G49 =>
    (g_r G49 a1 7 5).bind fun v53 =>
    (g_r G49 a0 7 5).bind fun v57 =>
    (f_X9_copy G49 v53 v57).bind fun G60 =>
    some G60
def f_X7_add (G : gH) (a0 : Nat) (x1 : Int32) (x2 : Int32) (x3 : Int32) (x4 : Int32) (x5 : Int32) : Option (gH × Int32) :=
    (g_i G a0 7 0).bind fun v1 =>
    (g_i G a0 7 0).bind fun v8 =>
    (g_put G a0 7 0 (.int (v8 + (1 : Int32)))).bind fun G13 =>
    (g_r G13 a0 7 1).bind fun v17 =>
    (f_X9_put G13 v17 v1 x1).bind fun G23 =>
    (g_r G23 a0 7 2).bind fun v27 =>
    (f_X9_put G23 v27 v1 x2).bind fun G33 =>
    (g_r G33 a0 7 3).bind fun v37 =>
    (f_X9_put G33 v37 v1 x3).bind fun G43 =>
    (g_r G43 a0 7 4).bind fun v47 =>
    (f_X9_put G43 v47 v1 x4).bind fun G54 =>
    (g_r G54 a0 7 5).bind fun v58 =>
    (f_X9_put G54 v58 v1 x5).bind fun G65 =>
    some (G65, v1)
def f_X7_fileOf (G : gH) (a0 : Nat) (x1 : Int32) : Option Int32 :=
    (g_r G a0 7 1).bind fun v1 =>
    (f_X9_at G v1 x1 (-1 : Int32)).bind fun v6 =>
    some v6
def f_X7_firstOf (G : gH) (a0 : Nat) (x1 : Int32) : Option Int32 :=
    (g_r G a0 7 2).bind fun v1 =>
    (f_X9_at G v1 x1 (-1 : Int32)).bind fun v6 =>
    some v6
def f_X7_lengthOf (G : gH) (a0 : Nat) (x1 : Int32) : Option Int32 :=
    (g_r G a0 7 3).bind fun v1 =>
    (f_X9_at G v1 x1 (0 : Int32)).bind fun v6 =>
    some v6
def f_X7_tagOf (G : gH) (a0 : Nat) (x1 : Int32) : Option Int32 :=
    (g_r G a0 7 4).bind fun v1 =>
    (f_X9_at G v1 x1 (-1 : Int32)).bind fun v6 =>
    some v6
def f_X7_writerOf (G : gH) (a0 : Nat) (x1 : Int32) : Option Int32 :=
    (g_r G a0 7 5).bind fun v1 =>
    (f_X9_at G v1 x1 (-1 : Int32)).bind fun v6 =>
    some v6
def f_X7_countOf_L4 (G : gH) : Nat → Nat → Int32 → Int32 → Int32 → Option Int32
  | 0, _, _, _, _ => none
  | n + 1, ba0, bx1, bx2, bx3 =>
    (g_i G ba0 7 0).bind fun v6 =>
    if v6 ≤ bx3 then
    some bx2
    else
    (g_ob G ba0 7).bind fun u15 =>
    (f_X7_fileOf G ba0 bx3).bind fun v15 =>
    if v15 = bx1 then
    (f_X9_oneIf G (1 : Int32)).bind fun v27 =>
    f_X7_countOf_L4 G n ba0 bx1 (bx2 + v27) (bx3 + (1 : Int32))
    else
    (f_X9_oneIf G (0 : Int32)).bind fun v27 =>
    f_X7_countOf_L4 G n ba0 bx1 (bx2 + v27) (bx3 + (1 : Int32))
def f_X7_countOf (G : gH) (a0 : Nat) (x1 : Int32) : Option Int32 :=
    f_X7_countOf_L4 G g_N a0 x1 (0 : Int32) (0 : Int32)
def f_X8_markReached_J86 (k13 : gH → Nat → Nat → Nat → Int32 → Int32 → Option gH) (G : gH) (ba0 : Nat) (ba1 : Nat) (ba2 : Nat) (bx4 : Int32) (bx6 : Int32) (z0 : Int32) : Option gH :=
    (g_r G ba0 8 1).bind fun v88 =>
    (f_X9_mark G v88 bx4 bx6).bind fun G95 =>
    k13 G95 ba0 ba1 ba2 z0 (bx4 + (-1 : Int32))
def f_X8_markReached_J36 (k13 : gH → Nat → Nat → Nat → Int32 → Int32 → Option gH) (G : gH) (ba0 : Nat) (ba1 : Nat) (ba2 : Nat) (bx3 : Int32) (bx4 : Int32) (bx5 : Int32) (z0 : Int32) : Option gH :=
    if bx5 = (1 : Int32) then
    if bx3 = 0 then
    (g_r G ba0 8 1).bind fun v88 =>
    (f_X9_mark G v88 bx4 z0).bind fun G95 =>
    k13 G95 ba0 ba1 ba2 bx3 (bx4 + (-1 : Int32))
    else
    (g_r G ba1 1 0).bind fun v49 =>
    (g_ob G ba2 5).bind fun u55 =>
    (f_X5_directoryOf G ba2 bx4).bind fun v55 =>
    (g_ob G ba2 5).bind fun u61 =>
    (f_X5_directoryLengthOf G ba2 bx4).bind fun v61 =>
    (g_ob G v49 0).bind fun u64 =>
    (f_X0_canRead G v49 v55 v61).bind fun v64 =>
    if v64 = 0 then
    (g_i G ba1 1 5).bind fun v75 =>
    if v75 = 0 then
    f_X8_markReached_J86 k13 G ba0 ba1 ba2 bx4 v64 (0 : Int32)
    else
    f_X8_markReached_J86 k13 G ba0 ba1 ba2 bx4 v64 (1 : Int32)
    else
    f_X8_markReached_J86 k13 G ba0 ba1 ba2 bx4 v64 (1 : Int32)
    else
    (g_r G ba0 8 1).bind fun v88 =>
    (f_X9_mark G v88 bx4 z0).bind fun G95 =>
    k13 G95 ba0 ba1 ba2 bx3 (bx4 + (-1 : Int32))
def f_X8_markReached_L13 : Nat → gH → Nat → Nat → Nat → Int32 → Int32 → Option gH
  | 0, _, _, _, _, _, _ => none
  | n + 1, G, ba0, ba1, ba2, bx3, bx4 =>
    if bx4 < 0 then
    some G
    else
    (g_ob G ba2 5).bind fun u21 =>
    (f_X5_stateOf G ba2 bx4).bind fun v21 =>
    if v21 = 0 then
    f_X8_markReached_J36 (f_X8_markReached_L13 n) G ba0 ba1 ba2 bx3 bx4 v21 (1 : Int32)
    else
    f_X8_markReached_J36 (f_X8_markReached_L13 n) G ba0 ba1 ba2 bx3 bx4 v21 (0 : Int32)
def f_X8_markReached (G : gH) (a0 : Nat) (a1 : Nat) : Option gH :=
    (g_r G a1 1 2).bind fun v1 =>
    (g_ob G v1 5).bind fun u8 =>
    (f_X5_latest G v1).bind fun v8 =>
    f_X8_markReached_L13 g_N G a0 a1 v1 (1 : Int32) v8
def f_X8_isReached (G : gH) (a0 : Nat) (x1 : Int32) : Option Int32 :=
    (g_r G a0 8 1).bind fun v1 =>
    (f_X9_isSet G v1 x1).bind fun v5 =>
    g_z v5
def f_X8_sessionOf (G : gH) (a0 : Nat) (x1 : Int32) : Option Int32 :=
    (g_r G a0 8 2).bind fun v1 =>
    (f_X9_at G v1 x1 (-1 : Int32)).bind fun v6 =>
    some v6
def f_X8_versionOf (G : gH) (a0 : Nat) (x1 : Int32) : Option Int32 :=
    (g_r G a0 8 3).bind fun v1 =>
    (f_X9_at G v1 x1 (-1 : Int32)).bind fun v6 =>
    some v6
def f_X8_isReadable (G : gH) (a0 : Nat) (x1 : Int32) : Option Int32 :=
    (g_r G a0 8 4).bind fun v1 =>
    (f_X9_isSet G v1 x1).bind fun v5 =>
    g_z v5
def f_X8_filesThere_L4 (G : gH) : Nat → Nat → Int32 → Int32 → Option Int32
  | 0, _, _, _ => none
  | n + 1, ba0, bx1, bx2 =>
    (g_i G ba0 8 0).bind fun v6 =>
    if v6 ≤ bx2 then
    some bx1
    else
    (g_ob G ba0 8).bind fun u15 =>
    (f_X8_versionOf G ba0 bx2).bind fun v15 =>
    if v15 = (-1 : Int32) then
    (f_X9_oneIf G (0 : Int32)).bind fun v27 =>
    f_X8_filesThere_L4 G n ba0 (bx1 + v27) (bx2 + (1 : Int32))
    else
    (f_X9_oneIf G (1 : Int32)).bind fun v27 =>
    f_X8_filesThere_L4 G n ba0 (bx1 + v27) (bx2 + (1 : Int32))
def f_X8_filesThere (G : gH) (a0 : Nat) : Option Int32 :=
    f_X8_filesThere_L4 G g_N a0 (0 : Int32) (0 : Int32)
def f_X8_filesReadable_L4 (G : gH) : Nat → Nat → Int32 → Int32 → Option Int32
  | 0, _, _, _ => none
  | n + 1, ba0, bx1, bx2 =>
    (g_i G ba0 8 0).bind fun v6 =>
    if v6 ≤ bx2 then
    some bx1
    else
    (g_ob G ba0 8).bind fun u15 =>
    (f_X8_isReadable G ba0 bx2).bind fun v15 =>
    (f_X9_oneIf G v15).bind fun v18 =>
    f_X8_filesReadable_L4 G n ba0 (bx1 + v18) (bx2 + (1 : Int32))
def f_X8_filesReadable (G : gH) (a0 : Nat) : Option Int32 :=
    f_X8_filesReadable_L4 G g_N a0 (0 : Int32) (0 : Int32)
def f_X9_find (G : gH) (a0 : Nat) : Option (gH × Int32) :=
    (g_r G a0 9 0).bind fun v1 =>
    (g_ob G v1 3).bind fun u4 =>
    (f_X3_nameAlone G v1).bind fun v4 =>
    (g_r G a0 9 0).bind fun v9 =>
    (g_put G v9 3 1 (.int (0 : Int32))).bind fun G13 =>
    if (lg_cmp v4 (-1 : Int64)) = 0 then
    some (G13, (-1 : Int32))
    else
    (g_r G13 a0 9 5).bind fun v29 =>
    (g_ob G13 v29 1).bind fun u33 =>
    (f_X1_fileNamed G13 v29 v4).bind fun v33 =>
    some (G13, v33)
def f_X0_mainBlocksOf (G : gH) (a0 : Nat) (x1 : Int32) : Option Int32 :=
    (g_i G a0 0 1).bind fun v4 =>
    (g_ob G a0 0).bind fun u7 =>
    (f_X0_blocksOf G a0 x1 (0 : Int32) v4).bind fun v7 =>
    some v7
def f_X0_spareBlocksOf (G : gH) (a0 : Nat) (x1 : Int32) : Option Int32 :=
    (g_i G a0 0 1).bind fun v3 =>
    (g_i G a0 0 0).bind fun v7 =>
    (g_ob G a0 0).bind fun u10 =>
    (f_X0_blocksOf G a0 x1 v3 v7).bind fun v10 =>
    some v10
def f_X0_writeNext_J67 (G : gH) (ba0 : Nat) (bx1 : Int32) (bx2 : Int32) (bx3 : Int32) (bx4 : Int32) (bx5 : Int32) (bx6 : Int32) : Option gH :=
    (g_r G ba0 0 10).bind fun v68 =>
    (f_X9_put G v68 bx5 bx6).bind fun G75 =>
    (g_r G75 ba0 0 3).bind fun v79 =>
    (f_X9_put G75 v79 bx6 bx1).bind fun G85 =>
    (g_r G85 ba0 0 6).bind fun v89 =>
    (f_X9_put G85 v89 bx6 bx2).bind fun G95 =>
    (g_r G95 ba0 0 7).bind fun v99 =>
    (f_X9_put G95 v99 bx6 bx3).bind fun G105 =>
    (g_r G105 ba0 0 8).bind fun v109 =>
    (f_X9_put G105 v109 bx6 bx4).bind fun G116 =>
    some G116
def f_X0_writeNext (G : gH) (a0 : Nat) (x1 : Int32) (x2 : Int32) (x3 : Int32) (x4 : Int32) : Option gH :=
    (g_i G a0 0 2).bind fun v1 =>
    (g_i G a0 0 2).bind fun v8 =>
    (g_put G a0 0 2 (.int (v8 + (1 : Int32)))).bind fun G13 =>
    (g_ob G13 a0 0).bind fun u23 =>
    (f_X0_isBad G13 a0 v1).bind fun v23 =>
    if v23 = 0 then
    f_X0_writeNext_J67 G13 a0 x1 x2 x3 x4 v1 v1
    else
    (g_r G13 a0 0 3).bind fun v30 =>
    (f_X9_put G13 v30 v1 (3 : Int32)).bind fun G36 =>
    (g_r G36 a0 0 6).bind fun v40 =>
    (f_X9_put G36 v40 v1 x2).bind fun G46 =>
    (g_ob G46 a0 0).bind fun u51 =>
    (f_X0_takeSpare G46 a0 x2).bind fun q51 =>
    (g_r q51.1 a0 0 9).bind fun v57 =>
    (f_X9_put q51.1 v57 q51.2 v1).bind fun G64 =>
    f_X0_writeNext_J67 G64 a0 x1 x2 x3 x4 v1 q51.2
def f_X1_takeFrom (G : gH) (a0 : Nat) (a1 : Nat) : Option gH :=
    (g_r G a0 1 0).bind fun v1 =>
    (g_r G a1 1 0).bind fun v5 =>
    (g_ob G v1 0).bind fun u8 =>
    (f_X0_takeFrom G v1 v5).bind fun G8 =>
    (g_r G8 a0 1 1).bind fun v12 =>
    (g_r G8 a1 1 1).bind fun v16 =>
    (g_ob G8 v12 7).bind fun u19 =>
    (f_X7_takeFrom G8 v12 v16).bind fun G19 =>
    (g_r G19 a0 1 2).bind fun v23 =>
    (g_r G19 a1 1 2).bind fun v27 =>
    (g_ob G19 v23 5).bind fun u30 =>
    (f_X5_takeFrom G19 v23 v27).bind fun G30 =>
    (g_i G30 a1 1 3).bind fun v35 =>
    (g_put G30 a0 1 3 (.int v35)).bind fun G38 =>
    (g_r G38 a1 1 4).bind fun v42 =>
    (g_r G38 a0 1 4).bind fun v46 =>
    (f_X9_copy__ G38 v42 v46).bind fun G49 =>
    (g_i G49 a1 1 5).bind fun v54 =>
    (g_z v54).bind fun w57 =>
    (g_put G49 a0 1 5 (.int w57)).bind fun G57 =>
    some G57
def f_X1_canReadVersion (G : gH) (a0 : Nat) (x1 : Int32) : Option Int32 :=
    (g_r G a0 1 0).bind fun v1 =>
    (g_r G a0 1 1).bind fun v5 =>
    (g_ob G v5 7).bind fun u9 =>
    (f_X7_firstOf G v5 x1).bind fun v9 =>
    (g_r G a0 1 1).bind fun v13 =>
    (g_ob G v13 7).bind fun u17 =>
    (f_X7_lengthOf G v13 x1).bind fun v17 =>
    (g_ob G v1 0).bind fun u20 =>
    (f_X0_canRead G v1 v9 v17).bind fun v20 =>
    g_z v20
def f_X1_relocatedBlock_L4 (G : gH) : Nat → Nat → Int32 → Int32 → Int32 → Option Int32
  | 0, _, _, _, _ => none
  | n + 1, ba0, bx1, bx2, bx3 =>
    if bx1 < 0 then
    some (-1 : Int32)
    else
    (g_r G ba0 1 0).bind fun v10 =>
    (g_i G v10 0 1).bind fun v13 =>
    if v13 ≤ bx3 then
    some (-1 : Int32)
    else
    (g_r G ba0 1 0).bind fun v20 =>
    (g_ob G v20 0).bind fun u24 =>
    (f_X0_kindOf G v20 bx3).bind fun v24 =>
    if v24 = (3 : Int32) then
    (g_r G ba0 1 2).bind fun v32 =>
    (g_r G ba0 1 0).bind fun v36 =>
    (g_ob G v36 0).bind fun u40 =>
    (f_X0_writerOf G v36 bx3).bind fun v40 =>
    (g_ob G v32 5).bind fun u43 =>
    (f_X5_stateOf G v32 v40).bind fun v43 =>
    if v43 = (2 : Int32) then
    f_X1_relocatedBlock_L4 G n ba0 bx1 bx2 (bx3 + (1 : Int32))
    else
    if bx2 = bx1 then
    some bx3
    else
    f_X1_relocatedBlock_L4 G n ba0 bx1 (bx2 + (1 : Int32)) (bx3 + (1 : Int32))
    else
    f_X1_relocatedBlock_L4 G n ba0 bx1 bx2 (bx3 + (1 : Int32))
def f_X1_relocatedBlock (G : gH) (a0 : Nat) (x1 : Int32) : Option Int32 :=
    f_X1_relocatedBlock_L4 G g_N a0 x1 (0 : Int32) (0 : Int32)
def f_X1_useOf_J46 (G : gH) (ba0 : Nat) (bx1 : Int32) (ba2 : Nat) : Option Int32 :=
    (g_r G ba0 1 0).bind fun v47 =>
    (g_ob G v47 0).bind fun u51 =>
    (f_X0_dataVersionOf G v47 bx1).bind fun v51 =>
    (g_r G ba0 1 1).bind fun v57 =>
    (g_ob G v57 7).bind fun u61 =>
    (f_X7_fileOf G v57 v51).bind fun v61 =>
    (g_ob G ba2 8).bind fun u64 =>
    (f_X8_versionOf G ba2 v61).bind fun v64 =>
    if v64 = v51 then
    some (1 : Int32)
    else
    some (2 : Int32)
def f_X1_useOf (G : gH) (a0 : Nat) (x1 : Int32) (a2 : Nat) : Option Int32 :=
    (g_r G a0 1 0).bind fun v1 =>
    (g_ob G v1 0).bind fun u5 =>
    (f_X0_kindOf G v1 x1).bind fun v5 =>
    if v5 = (0 : Int32) then
    some (0 : Int32)
    else
    if v5 = (1 : Int32) then
    f_X1_useOf_J46 G a0 x1 a2
    else
    if v5 = (2 : Int32) then
    some (3 : Int32)
    else
    if v5 = (3 : Int32) then
    some (4 : Int32)
    else
    f_X1_useOf_J46 G a0 x1 a2
def f_X1_closeSession_L31 : Nat → gH → Nat → Int32 → Int32 → Int32 → Int32 → Option (gH × Int32)
  | 0, _, _, _, _, _, _ => none
  | n + 1, G, ba0, bx1, bx2, bx3, bx4 =>
    if bx3 ≤ bx4 then
    (g_r G ba0 1 2).bind fun v56 =>
    (g_ob G v56 5).bind fun u61 =>
    (f_X5_markClosed G v56 bx2 bx3).bind fun G61 =>
    some (G61, bx1)
    else
    (g_r G ba0 1 0).bind fun v38 =>
    (g_ob G v38 0).bind fun u46 =>
    (f_X0_writeNext G v38 (2 : Int32) bx1 (-1 : Int32) bx4).bind fun G46 =>
    f_X1_closeSession_L31 n G46 ba0 bx1 bx2 bx3 (bx4 + (1 : Int32))
def f_X1_closeSession (G : gH) (a0 : Nat) : Option (gH × Int32) :=
    (g_r G a0 1 2).bind fun v1 =>
    (g_ob G v1 5).bind fun u4 =>
    (f_X5_latest G v1).bind fun v4 =>
    (g_r G a0 1 0).bind fun v9 =>
    (g_i G v9 0 2).bind fun v12 =>
    (g_r G a0 1 2).bind fun v17 =>
    (g_ob G v17 5).bind fun u21 =>
    (f_X5_entriesOf G v17 v4).bind fun v21 =>
    (f_X9_directoryLength G v21).bind fun v24 =>
    f_X1_closeSession_L31 g_N G a0 v4 v12 v24 (0 : Int32)
def f_X1_loseSession (G : gH) (a0 : Nat) : Option (gH × Int32) :=
    (g_r G a0 1 2).bind fun v1 =>
    (g_ob G v1 5).bind fun u4 =>
    (f_X5_markLost G v1).bind fun G4 =>
    (g_r G4 a0 1 0).bind fun v8 =>
    (g_r G4 a0 1 2).bind fun v12 =>
    (g_ob G4 v12 5).bind fun u15 =>
    (f_X5_latest G4 v12).bind fun v15 =>
    (g_ob G4 v8 0).bind fun u18 =>
    (f_X0_mainBlocksOf G4 v8 v15).bind fun v18 =>
    some (G4, v18)
def f_X1_recoverableVersionOf_J43 (G : gH) (k10 : Nat → Int32 → Int32 → Int32 → Option Int32) (ba0 : Nat) (bx1 : Int32) (bx2 : Int32) (bx3 : Int32) (z0 : Int32) : Option Int32 :=
    if z0 = 0 then
    k10 ba0 bx1 bx2 (bx3 + (-1 : Int32))
    else
    (g_ob G ba0 1).bind fun u52 =>
    (f_X1_canReadVersion G ba0 bx3).bind fun v52 =>
    if v52 = 0 then
    k10 ba0 bx1 bx2 (bx3 + (-1 : Int32))
    else
    some bx3
def f_X1_recoverableVersionOf_L10 (G : gH) : Nat → Nat → Int32 → Int32 → Int32 → Option Int32
  | 0, _, _, _, _ => none
  | n + 1, ba0, bx1, bx2, bx3 =>
    if bx3 < 0 then
    some (-1 : Int32)
    else
    (g_r G ba0 1 1).bind fun v15 =>
    (g_ob G v15 7).bind fun u19 =>
    (f_X7_fileOf G v15 bx3).bind fun v19 =>
    if v19 = bx1 then
    (g_r G ba0 1 1).bind fun v27 =>
    (g_ob G v27 7).bind fun u31 =>
    (f_X7_writerOf G v27 bx3).bind fun v31 =>
    if v31 = bx2 then
    f_X1_recoverableVersionOf_J43 G (f_X1_recoverableVersionOf_L10 G n) ba0 bx1 bx2 bx3 (1 : Int32)
    else
    f_X1_recoverableVersionOf_J43 G (f_X1_recoverableVersionOf_L10 G n) ba0 bx1 bx2 bx3 (0 : Int32)
    else
    f_X1_recoverableVersionOf_J43 G (f_X1_recoverableVersionOf_L10 G n) ba0 bx1 bx2 bx3 (0 : Int32)
def f_X1_recoverableVersionOf (G : gH) (a0 : Nat) (x1 : Int32) (x2 : Int32) : Option Int32 :=
    (g_r G a0 1 1).bind fun v1 =>
    (g_i G v1 7 0).bind fun v4 =>
    f_X1_recoverableVersionOf_L10 G g_N a0 x1 x2 (v4 - (1 : Int32))
def f_X11_read_J75 (k15 : gH → Nat → Nat → Int32 → Int32 → Option gH) (G : gH) (ba0 : Nat) (ba1 : Nat) (bx4 : Int32) (bx5 : Int32) : Option gH :=
    if bx5 = (1 : Int32) then
    (g_ob G ba1 3).bind fun u85 =>
    (f_X3_byteAt G ba1 bx4).bind fun v85 =>
    (g_ob G ba0 11).bind fun u90 =>
    (f_X11_takeLetter G ba0 v85 bx4).bind fun G90 =>
    k15 G90 ba0 ba1 bx5 (bx4 + (1 : Int32))
    else
    if bx5 = (2 : Int32) then
    (g_ob G ba1 3).bind fun u106 =>
    (f_X3_byteAt G ba1 bx4).bind fun v106 =>
    (g_ob G ba0 11).bind fun u111 =>
    (f_X11_takeDigit G ba0 v106 bx4).bind fun G111 =>
    k15 G111 ba0 ba1 bx5 (bx4 + (1 : Int32))
    else
    k15 G ba0 ba1 bx5 (bx4 + (1 : Int32))
def f_X11_read_J55 (k15 : gH → Nat → Nat → Int32 → Int32 → Option gH) (G : gH) (ba0 : Nat) (ba1 : Nat) (bx4 : Int32) (bx5 : Int32) (z0 : Int32) : Option gH :=
    if bx5 = 0 then
    f_X11_read_J75 k15 G ba0 ba1 bx4 bx5
    else
    if z0 = 0 then
    (g_ob G ba0 11).bind fun u72 =>
    (f_X11_begin G ba0 bx5 bx4).bind fun G72 =>
    f_X11_read_J75 k15 G72 ba0 ba1 bx4 bx5
    else
    f_X11_read_J75 k15 G ba0 ba1 bx4 bx5
def f_X11_read_L15 : Nat → gH → Nat → Nat → Int32 → Int32 → Option gH
  | 0, _, _, _, _, _ => none
  | n + 1, G, ba0, ba1, bx3, bx4 =>
    (g_i G ba0 11 1).bind fun v18 =>
    if v18 ≤ bx4 then
    some G
    else
    (g_ob G ba1 3).bind fun u27 =>
    (f_X3_kindAt G ba1 bx4).bind fun v27 =>
    if v27 = bx3 then
    if v27 = (1 : Int32) then
    f_X11_read_J55 (f_X11_read_L15 n) G ba0 ba1 bx4 v27 (1 : Int32)
    else
    if v27 = (2 : Int32) then
    f_X11_read_J55 (f_X11_read_L15 n) G ba0 ba1 bx4 v27 (1 : Int32)
    else
    f_X11_read_J55 (f_X11_read_L15 n) G ba0 ba1 bx4 v27 (0 : Int32)
    else
    f_X11_read_J55 (f_X11_read_L15 n) G ba0 ba1 bx4 v27 (0 : Int32)
def f_X11_read (G : gH) (a0 : Nat) (a1 : Nat) (x2 : Int32) : Option gH :=
    (g_put G a0 11 1 (.int x2)).bind fun G2 =>
    (g_put G2 a0 11 0 (.int (0 : Int32))).bind fun G7 =>
    f_X11_read_L15 g_N G7 a0 a1 (0 : Int32) (0 : Int32)
def f_X3_addBytes (G : gH) (a0 : Nat) (x1 : Int32) : Option gH :=
    (g_ob G a0 3).bind fun u5 =>
    (f_X3_addByte G a0 ((x1.toUInt32 >>> ((24 : Int32).toUInt32 &&& Int32.toUInt32 31)).toInt32)).bind fun G5 =>
    (g_ob G5 a0 3).bind fun u13 =>
    (f_X3_addByte G5 a0 ((x1.toUInt32 >>> ((16 : Int32).toUInt32 &&& Int32.toUInt32 31)).toInt32)).bind fun G13 =>
    (g_ob G13 a0 3).bind fun u21 =>
    (f_X3_addByte G13 a0 ((x1.toUInt32 >>> ((8 : Int32).toUInt32 &&& Int32.toUInt32 31)).toInt32)).bind fun G21 =>
    (g_ob G21 a0 3).bind fun u26 =>
    (f_X3_addByte G21 a0 x1).bind fun G26 =>
    some G26
def f_X4_readHead (G : gH) (a0 : Nat) : Option (gH × Int32) :=
    (g_ob G a0 4).bind fun u3 =>
    (f_X4_isWord G a0 0).bind fun v3 =>
    if v3 = 0 then
    (g_ob G a0 4).bind fun u11 =>
    (f_X4_fail G a0 (1 : Int32)).bind fun q11 =>
    (g_z q11.2).bind fun w14 => some (q11.1, w14)
    else
    (g_ob G a0 4).bind fun u20 =>
    (f_X4_readNumber G a0 (8 : Int32) (96 : Int32)).bind fun q20 =>
    if q20.2 = 0 then
    some (q20.1, (0 : Int32))
    else
    (g_r q20.1 a0 4 13).bind fun v30 =>
    (g_i q20.1 a0 4 14).bind fun v34 =>
    (g_ob q20.1 v30 11).bind fun u37 =>
    (f_X11_numberOf q20.1 v30 v34).bind fun v37 =>
    (g_put q20.1 a0 4 2 (.int v37)).bind fun G40 =>
    (g_i G40 a0 4 2).bind fun v48 =>
    (g_ob G40 a0 4).bind fun u56 =>
    (f_X4_readNumber G40 a0 (0 : Int32) (if (v48 / (2 : Int32)) < (16 : Int32) then (v48 / (2 : Int32)) else (16 : Int32))).bind fun q56 =>
    if q56.2 = 0 then
    some (q56.1, (0 : Int32))
    else
    (g_r q56.1 a0 4 13).bind fun v66 =>
    (g_i q56.1 a0 4 14).bind fun v70 =>
    (g_ob q56.1 v66 11).bind fun u73 =>
    (f_X11_numberOf q56.1 v66 v70).bind fun v73 =>
    (g_put q56.1 a0 4 3 (.int v73)).bind fun G76 =>
    (g_ob G76 a0 4).bind fun u80 =>
    (f_X4_readSemicolon G76 a0).bind fun q80 =>
    (g_z q80.2).bind fun w83 => some (q80.1, w83)
def f_X4_readBad (G : gH) (a0 : Nat) : Option (gH × Int32) :=
    (g_r G a0 4 13).bind fun v1 =>
    (g_i G a0 4 14).bind fun v5 =>
    (g_ob G v1 11).bind fun u8 =>
    (f_X11_startOf G v1 v5).bind fun v8 =>
    (g_i G a0 4 2).bind fun v15 =>
    (g_ob G a0 4).bind fun u20 =>
    (f_X4_readNumber G a0 (0 : Int32) (v15 - (1 : Int32))).bind fun q20 =>
    if q20.2 = 0 then
    some (q20.1, (0 : Int32))
    else
    (g_r q20.1 a0 4 13).bind fun v29 =>
    (g_i q20.1 a0 4 14).bind fun v33 =>
    (g_ob q20.1 v29 11).bind fun u36 =>
    (f_X11_numberOf q20.1 v29 v33).bind fun v36 =>
    (g_r q20.1 a0 4 12).bind fun v41 =>
    (f_X9_isSet q20.1 v41 v36).bind fun v45 =>
    if v45 = 0 then
    (g_r q20.1 a0 4 12).bind fun v58 =>
    (f_X9_mark q20.1 v58 v36 (1 : Int32)).bind fun G63 =>
    (g_ob G63 a0 4).bind fun u70 =>
    (f_X4_add G63 a0 (0 : Int32) v8 v36).bind fun q70 =>
    (g_z q70.2).bind fun w73 => some (q70.1, w73)
    else
    (g_ob q20.1 a0 4).bind fun u53 =>
    (f_X4_fail q20.1 a0 (2 : Int32)).bind fun q53 =>
    (g_z q53.2).bind fun w56 => some (q53.1, w56)
def f_X4_readWrite (G : gH) (a0 : Nat) : Option (gH × Int32) :=
    (g_r G a0 4 13).bind fun v1 =>
    (g_i G a0 4 14).bind fun v5 =>
    (g_ob G v1 11).bind fun u8 =>
    (f_X11_startOf G v1 v5).bind fun v8 =>
    (g_ob G a0 4).bind fun u13 =>
    (f_X4_readFile G a0).bind fun q13 =>
    if q13.2 = (-1 : Int32) then
    some (q13.1, (0 : Int32))
    else
    (g_ob q13.1 a0 4).bind fun u26 =>
    (f_X4_readNumber q13.1 a0 (1 : Int32) (8 : Int32)).bind fun q26 =>
    if q26.2 = 0 then
    some (q26.1, (0 : Int32))
    else
    (g_r q26.1 a0 4 13).bind fun v35 =>
    (g_i q26.1 a0 4 14).bind fun v39 =>
    (g_ob q26.1 v35 11).bind fun u42 =>
    (f_X11_numberOf q26.1 v35 v39).bind fun v42 =>
    (g_ob q26.1 a0 4).bind fun u51 =>
    (f_X4_readNumber q26.1 a0 (0 : Int32) (999 : Int32)).bind fun q51 =>
    if q51.2 = 0 then
    some (q51.1, (0 : Int32))
    else
    (g_r q51.1 a0 4 10).bind fun v60 =>
    (g_i q51.1 a0 4 6).bind fun v64 =>
    (f_X9_put q51.1 v60 v64 v42).bind fun G68 =>
    (g_r G68 a0 4 11).bind fun v72 =>
    (g_i G68 a0 4 6).bind fun v76 =>
    (g_r G68 a0 4 13).bind fun v80 =>
    (g_i G68 a0 4 14).bind fun v84 =>
    (g_ob G68 v80 11).bind fun u87 =>
    (f_X11_numberOf G68 v80 v84).bind fun v87 =>
    (f_X9_put G68 v72 v76 v87).bind fun G90 =>
    (g_ob G90 a0 4).bind fun u97 =>
    (f_X4_add G90 a0 (1 : Int32) v8 q13.2).bind fun q97 =>
    (g_z q97.2).bind fun w100 => some (q97.1, w100)
def f_X4_readErase (G : gH) (a0 : Nat) : Option (gH × Int32) :=
    (g_r G a0 4 13).bind fun v1 =>
    (g_i G a0 4 14).bind fun v5 =>
    (g_ob G v1 11).bind fun u8 =>
    (f_X11_startOf G v1 v5).bind fun v8 =>
    (g_ob G a0 4).bind fun u13 =>
    (f_X4_readFile G a0).bind fun q13 =>
    if q13.2 = (-1 : Int32) then
    some (q13.1, (0 : Int32))
    else
    (g_ob q13.1 a0 4).bind fun u26 =>
    (f_X4_add q13.1 a0 (2 : Int32) v8 q13.2).bind fun q26 =>
    if q26.2 = 0 then
    some (q26.1, (0 : Int32))
    else
    some (q26.1, (1 : Int32))
def f_X5_isOpen (G : gH) (a0 : Nat) : Option Int32 :=
    (g_ob G a0 5).bind fun u2 =>
    (f_X5_latest G a0).bind fun v2 =>
    (g_ob G a0 5).bind fun u5 =>
    (f_X5_stateOf G a0 v2).bind fun v5 =>
    if v5 = 0 then
    some (1 : Int32)
    else
    some (0 : Int32)
def f_X5_latestIsLost (G : gH) (a0 : Nat) : Option Int32 :=
    (g_ob G a0 5).bind fun u2 =>
    (f_X5_latest G a0).bind fun v2 =>
    (g_ob G a0 5).bind fun u5 =>
    (f_X5_stateOf G a0 v2).bind fun v5 =>
    if v5 = (2 : Int32) then
    some (1 : Int32)
    else
    some (0 : Int32)
def f_X5_oneMoreIsTooMany (G : gH) (a0 : Nat) : Option Int32 :=
    (g_ob G a0 5).bind fun u1 =>
    (f_X5_isOpen G a0).bind fun v1 =>
    if v1 = 0 then
    (g_i G a0 5 0).bind fun v8 =>
    if v8 < (12 : Int32) then
    some (0 : Int32)
    else
    some (1 : Int32)
    else
    some (0 : Int32)
def f_X5_begin (G : gH) (a0 : Nat) (x1 : Int32) : Option gH :=
    (g_i G a0 5 0).bind fun v1 =>
    (g_i G a0 5 0).bind fun v7 =>
    (g_put G a0 5 0 (.int (v7 + (1 : Int32)))).bind fun G12 =>
    (g_r G12 a0 5 1).bind fun v16 =>
    (f_X9_put G12 v16 v1 (0 : Int32)).bind fun G21 =>
    (g_r G21 a0 5 2).bind fun v25 =>
    (f_X9_put G21 v25 v1 x1).bind fun G30 =>
    (g_r G30 a0 5 3).bind fun v34 =>
    (f_X9_put G30 v34 v1 (-1 : Int32)).bind fun G39 =>
    (g_r G39 a0 5 4).bind fun v43 =>
    (f_X9_put G39 v43 v1 (0 : Int32)).bind fun G48 =>
    (g_ob G48 a0 5).bind fun u53 =>
    (f_X5_forgetEntries G48 a0 v1).bind fun G53 =>
    some G53
def f_X5_entriesWith (G : gH) (a0 : Nat) (x1 : Int32) : Option Int32 :=
    (g_ob G a0 5).bind fun u1 =>
    (f_X5_isOpen G a0).bind fun v1 =>
    if v1 = 0 then
    some (1 : Int32)
    else
    (g_ob G a0 5).bind fun u11 =>
    (f_X5_latest G a0).bind fun v11 =>
    (g_ob G a0 5).bind fun u14 =>
    (f_X5_entriesOf G a0 v11).bind fun v14 =>
    (g_ob G a0 5).bind fun u19 =>
    (f_X5_latest G a0).bind fun v19 =>
    (g_ob G a0 5).bind fun u23 =>
    (f_X5_hasEntry G a0 v19 x1).bind fun v23 =>
    if v23 = 0 then
    (f_X9_oneIf G (1 : Int32)).bind fun v34 =>
    some (v14 + v34)
    else
    (f_X9_oneIf G (0 : Int32)).bind fun v34 =>
    some (v14 + v34)
def f_X8_sessionThatCounts_L5 (G : gH) : Nat → Nat → Nat → Int32 → Int32 → Option Int32
  | 0, _, _, _, _ => none
  | n + 1, ba0, ba1, bx2, bx4 =>
    if bx4 < 0 then
    some (-1 : Int32)
    else
    (g_ob G ba0 8).bind fun u13 =>
    (f_X8_isReached G ba0 bx4).bind fun v13 =>
    if v13 = 0 then
    f_X8_sessionThatCounts_L5 G n ba0 ba1 bx2 (bx4 + (-1 : Int32))
    else
    (g_ob G ba1 5).bind fun u23 =>
    (f_X5_hasEntry G ba1 bx4 bx2).bind fun v23 =>
    if v23 = 0 then
    f_X8_sessionThatCounts_L5 G n ba0 ba1 bx2 (bx4 + (-1 : Int32))
    else
    some bx4
def f_X8_sessionThatCounts (G : gH) (a0 : Nat) (a1 : Nat) (x2 : Int32) (x3 : Int32) : Option Int32 :=
    f_X8_sessionThatCounts_L5 G g_N a0 a1 x2 (x3 - (1 : Int32))
def f_X8_filesThereBefore_L5 (G : gH) : Nat → Nat → Nat → Int32 → Int32 → Int32 → Option Int32
  | 0, _, _, _, _, _ => none
  | n + 1, ba0, ba1, bx2, bx3, bx4 =>
    (g_i G ba0 8 0).bind fun v8 =>
    if v8 ≤ bx4 then
    some bx3
    else
    (g_ob G ba0 8).bind fun u21 =>
    (f_X8_sessionThatCounts G ba0 ba1 bx4 bx2).bind fun v21 =>
    (g_ob G ba1 5).bind fun u26 =>
    (f_X5_versionFor G ba1 v21 bx4).bind fun v26 =>
    if v26 = (-1 : Int32) then
    (f_X9_oneIf G (0 : Int32)).bind fun v38 =>
    f_X8_filesThereBefore_L5 G n ba0 ba1 bx2 (bx3 + v38) (bx4 + (1 : Int32))
    else
    (f_X9_oneIf G (1 : Int32)).bind fun v38 =>
    f_X8_filesThereBefore_L5 G n ba0 ba1 bx2 (bx3 + v38) (bx4 + (1 : Int32))
def f_X8_filesThereBefore (G : gH) (a0 : Nat) (a1 : Nat) (x2 : Int32) : Option Int32 :=
    f_X8_filesThereBefore_L5 G g_N a0 a1 x2 (0 : Int32) (0 : Int32)
def f_X9_append (G : gH) (a0 : Nat) (x1 : Int32) (x2 : Int32) (x3 : Int32) (x4 : Int32) (x5 : Int32) : Option (gH × Int32) :=
    (g_r G a0 9 0).bind fun v1 =>
    (g_ob G v1 3).bind fun u6 =>
    (f_X3_hasRoom G v1 (20 : Int32)).bind fun v6 =>
    if v6 = 0 then
    some (G, (-1 : Int32))
    else
    (g_r G a0 9 0).bind fun v15 =>
    (g_ob G v15 3).bind fun u19 =>
    (f_X3_addBytes G v15 x1).bind fun G19 =>
    (g_r G19 a0 9 0).bind fun v23 =>
    (g_ob G19 v23 3).bind fun u27 =>
    (f_X3_addBytes G19 v23 x2).bind fun G27 =>
    (g_r G27 a0 9 0).bind fun v31 =>
    (g_ob G27 v31 3).bind fun u35 =>
    (f_X3_addBytes G27 v31 x3).bind fun G35 =>
    (g_r G35 a0 9 0).bind fun v39 =>
    (g_ob G35 v39 3).bind fun u44 =>
    (f_X3_addBytes G35 v39 x4).bind fun G44 =>
    (g_r G44 a0 9 0).bind fun v48 =>
    (g_ob G44 v48 3).bind fun u53 =>
    (f_X3_addBytes G44 v48 x5).bind fun G53 =>
    (g_r G53 a0 9 0).bind fun v57 =>
    (g_i G53 v57 3 1).bind fun v60 =>
    some (G53, v60)
def f_X9_defect (G : gH) (a0 : Nat) (x1 : Int32) (x2 : Int32) : Option Int32 :=
    (g_r G a0 9 5).bind fun v1 =>
    (g_ob G v1 1).bind fun u5 =>
    (f_X1_relocatedBlock G v1 x1).bind fun v5 =>
    if v5 = (-1 : Int32) then
    some v5
    else
    if x2 = 0 then
    some v5
    else
    (g_r G a0 9 5).bind fun v21 =>
    (g_r G v21 1 0).bind fun v24 =>
    (g_ob G v24 0).bind fun u28 =>
    (f_X0_placeOf G v24 v5).bind fun v28 =>
    some v28
def f_X1_reasonAgainstWrite (G : gH) (a0 : Nat) (x1 : Int32) (x2 : Int32) : Option Int32 :=
    (g_r G a0 1 2).bind fun v1 =>
    (g_ob G v1 5).bind fun u4 =>
    (f_X5_oneMoreIsTooMany G v1).bind fun v4 =>
    if v4 = 0 then
    (g_r G a0 1 0).bind fun v13 =>
    (g_r G a0 1 2).bind fun v18 =>
    (g_ob G v18 5).bind fun u22 =>
    (f_X5_entriesWith G v18 x1).bind fun v22 =>
    (f_X9_directoryLength G v22).bind fun v25 =>
    (g_ob G v13 0).bind fun u29 =>
    (f_X0_hasRoomFor G v13 (x2 + v25)).bind fun v29 =>
    if v29 = 0 then
    some (4 : Int32)
    else
    (g_r G a0 1 0).bind fun v38 =>
    (g_ob G v38 0).bind fun u42 =>
    (f_X0_canRelocate G v38 x2).bind fun v42 =>
    if v42 = 0 then
    some (5 : Int32)
    else
    some (0 : Int32)
    else
    some (3 : Int32)
def f_X1_reasonAgainstClose (G : gH) (a0 : Nat) : Option Int32 :=
    (g_r G a0 1 2).bind fun v1 =>
    (g_ob G v1 5).bind fun u4 =>
    (f_X5_isOpen G v1).bind fun v4 =>
    if v4 = 0 then
    some (1 : Int32)
    else
    (g_r G a0 1 2).bind fun v14 =>
    (g_r G a0 1 2).bind fun v18 =>
    (g_ob G v18 5).bind fun u21 =>
    (f_X5_latest G v18).bind fun v21 =>
    (g_ob G v14 5).bind fun u24 =>
    (f_X5_entriesOf G v14 v21).bind fun v24 =>
    (g_ob G a0 1).bind fun u27 =>
    (f_X1_reasonAgainstDirectory G a0 v24).bind fun v27 =>
    some v27
def f_X1_reasonAgainstCrash (G : gH) (a0 : Nat) : Option Int32 :=
    (g_r G a0 1 2).bind fun v1 =>
    (g_ob G v1 5).bind fun u4 =>
    (f_X5_isOpen G v1).bind fun v4 =>
    if v4 = 0 then
    some (1 : Int32)
    else
    some (0 : Int32)
def f_X1_beginIfNeeded (G : gH) (a0 : Nat) : Option gH :=
    (g_r G a0 1 2).bind fun v1 =>
    (g_ob G v1 5).bind fun u4 =>
    (f_X5_isOpen G v1).bind fun v4 =>
    if v4 = 0 then
    (g_r G a0 1 2).bind fun v11 =>
    (g_r G a0 1 0).bind fun v15 =>
    (g_i G v15 0 2).bind fun v18 =>
    (g_ob G v11 5).bind fun u21 =>
    (f_X5_begin G v11 v18).bind fun G21 =>
    some G21
    else
    some G
def f_X1_recoverSession_L31 : Nat → gH → Nat → Int32 → Int32 → Option (gH × Int32)
  | 0, _, _, _, _ => none
  | n + 1, G, ba0, bx1, bx2 =>
    (g_r G ba0 1 1).bind fun v33 =>
    (g_i G v33 7 0).bind fun v36 =>
    if v36 ≤ bx2 then
    (g_ob G ba0 1).bind fun u77 =>
    (f_X1_closeSession G ba0).bind fun q77 =>
    (g_r q77.1 ba0 1 2).bind fun v82 =>
    (g_r q77.1 ba0 1 2).bind fun v86 =>
    (g_ob q77.1 v86 5).bind fun u89 =>
    (f_X5_latest q77.1 v86).bind fun v89 =>
    (g_ob q77.1 v82 5).bind fun u92 =>
    (f_X5_entriesOf q77.1 v82 v89).bind fun v92 =>
    some (q77.1, v92)
    else
    (g_r G ba0 1 1).bind fun v43 =>
    (g_ob G v43 7).bind fun u47 =>
    (f_X7_fileOf G v43 bx2).bind fun v47 =>
    (g_ob G ba0 1).bind fun u54 =>
    (f_X1_recoverableVersionOf G ba0 v47 bx1).bind fun v54 =>
    if v54 = bx2 then
    (g_r G ba0 1 2).bind fun v62 =>
    (g_ob G v62 5).bind fun u67 =>
    (f_X5_enter G v62 v47 bx2).bind fun G67 =>
    f_X1_recoverSession_L31 n G67 ba0 bx1 (bx2 + (1 : Int32))
    else
    f_X1_recoverSession_L31 n G ba0 bx1 (bx2 + (1 : Int32))
def f_X1_recoverSession (G : gH) (a0 : Nat) : Option (gH × Int32) :=
    (g_r G a0 1 2).bind fun v1 =>
    (g_ob G v1 5).bind fun u4 =>
    (f_X5_latest G v1).bind fun v4 =>
    (g_r G a0 1 2).bind fun v9 =>
    (g_ob G v9 5).bind fun u12 =>
    (f_X5_markRecovered G v9).bind fun G12 =>
    (g_r G12 a0 1 2).bind fun v16 =>
    (g_r G12 a0 1 0).bind fun v20 =>
    (g_i G12 v20 0 2).bind fun v23 =>
    (g_ob G12 v16 5).bind fun u26 =>
    (f_X5_begin G12 v16 v23).bind fun G26 =>
    f_X1_recoverSession_L31 g_N G26 a0 v4 (0 : Int32)
def f_X1_recoverableVersions_L4 (G : gH) : Nat → Nat → Int32 → Int32 → Option Int32
  | 0, _, _, _ => none
  | n + 1, ba0, bx1, bx2 =>
    (g_r G ba0 1 2).bind fun v5 =>
    (g_ob G v5 5).bind fun u8 =>
    (f_X5_latestIsLost G v5).bind fun v8 =>
    if v8 = 0 then
    some bx1
    else
    (g_i G ba0 1 3).bind fun v16 =>
    if v16 ≤ bx2 then
    some bx1
    else
    (g_r G ba0 1 2).bind fun v26 =>
    (g_ob G v26 5).bind fun u29 =>
    (f_X5_latest G v26).bind fun v29 =>
    (g_ob G ba0 1).bind fun u32 =>
    (f_X1_recoverableVersionOf G ba0 bx2 v29).bind fun v32 =>
    if v32 = (-1 : Int32) then
    (f_X9_oneIf G (0 : Int32)).bind fun v44 =>
    f_X1_recoverableVersions_L4 G n ba0 (bx1 + v44) (bx2 + (1 : Int32))
    else
    (f_X9_oneIf G (1 : Int32)).bind fun v44 =>
    f_X1_recoverableVersions_L4 G n ba0 (bx1 + v44) (bx2 + (1 : Int32))
def f_X1_recoverableVersions (G : gH) (a0 : Nat) : Option Int32 :=
    f_X1_recoverableVersions_L4 G g_N a0 (0 : Int32) (0 : Int32)
def f_X4_readStatement (G : gH) (a0 : Nat) : Option (gH × Int32) :=
    (g_ob G a0 4).bind fun u3 =>
    (f_X4_isWord G a0 1).bind fun v3 =>
    if v3 = 0 then
    (g_ob G a0 4).bind fun u17 =>
    (f_X4_isWord G a0 2).bind fun v17 =>
    if v17 = 0 then
    (g_ob G a0 4).bind fun u31 =>
    (f_X4_isWord G a0 3).bind fun v31 =>
    if v31 = 0 then
    (g_ob G a0 4).bind fun u45 =>
    (f_X4_isWord G a0 4).bind fun v45 =>
    if v45 = 0 then
    (g_ob G a0 4).bind fun u59 =>
    (f_X4_isWord G a0 5).bind fun v59 =>
    if v59 = 0 then
    (g_ob G a0 4).bind fun u85 =>
    (f_X4_fail G a0 (1 : Int32)).bind fun q85 =>
    (g_z q85.2).bind fun w88 => some (q85.1, w88)
    else
    (g_r G a0 4 13).bind fun v68 =>
    (g_i G a0 4 14).bind fun v72 =>
    (g_ob G v68 11).bind fun u75 =>
    (f_X11_startOf G v68 v72).bind fun v75 =>
    (g_ob G a0 4).bind fun u79 =>
    (f_X4_add G a0 (3 : Int32) v75 (-1 : Int32)).bind fun q79 =>
    (g_z q79.2).bind fun w82 => some (q79.1, w82)
    else
    (g_ob G a0 4).bind fun u52 =>
    (f_X4_readErase G a0).bind fun q52 =>
    (g_z q52.2).bind fun w55 => some (q52.1, w55)
    else
    (g_ob G a0 4).bind fun u38 =>
    (f_X4_readWrite G a0).bind fun q38 =>
    (g_z q38.2).bind fun w41 => some (q38.1, w41)
    else
    (g_ob G a0 4).bind fun u24 =>
    (f_X4_readNewFile G a0).bind fun q24 =>
    (g_z q24.2).bind fun w27 => some (q24.1, w27)
    else
    (g_ob G a0 4).bind fun u10 =>
    (f_X4_readBad G a0).bind fun q10 =>
    (g_z q10.2).bind fun w13 => some (q10.1, w13)
def f_X8_lookAt_L15 : Nat → gH → Nat → Nat → Int32 → Option (gH × Nat)
  | 0, _, _, _, _ => none
  | n + 1, G, ba0, ba1, bx2 =>
    (g_i G ba0 8 0).bind fun v17 =>
    if v17 ≤ bx2 then
    some (G, ba0)
    else
    (g_r G ba1 1 2).bind fun v25 =>
    (g_r G ba1 1 2).bind fun v30 =>
    (g_i G v30 5 0).bind fun v33 =>
    (g_ob G ba0 8).bind fun u36 =>
    (f_X8_sessionThatCounts G ba0 v25 bx2 v33).bind fun v36 =>
    (g_r G ba1 1 2).bind fun v41 =>
    (g_ob G v41 5).bind fun u46 =>
    (f_X5_versionFor G v41 v36 bx2).bind fun v46 =>
    (g_r G ba0 8 2).bind fun v52 =>
    (f_X9_put G v52 bx2 v36).bind fun G57 =>
    (g_r G57 ba0 8 3).bind fun v61 =>
    (f_X9_put G57 v61 bx2 v46).bind fun G67 =>
    (g_r G67 ba0 8 4).bind fun v71 =>
    (g_ob G67 ba1 1).bind fun u78 =>
    (f_X1_canReadVersion G67 ba1 v46).bind fun v78 =>
    (f_X9_mark G67 v71 bx2 v78).bind fun G81 =>
    f_X8_lookAt_L15 n G81 ba0 ba1 (bx2 + (1 : Int32))
def f_X8_lookAt (G : gH) (a0 : Nat) (a1 : Nat) : Option (gH × Nat) :=
    (g_i G a1 1 3).bind fun v2 =>
    (g_put G a0 8 0 (.int v2)).bind fun G5 =>
    (g_ob G5 a0 8).bind fun u10 =>
    (f_X8_markReached G5 a0 a1).bind fun G10 =>
    f_X8_lookAt_L15 g_N G10 a0 a1 (0 : Int32)
def f_X9_couldRecover (G : gH) (a0 : Nat) : Option Int32 :=
    (g_r G a0 9 5).bind fun v1 =>
    (g_ob G v1 1).bind fun u4 =>
    (f_X1_recoverableVersions G v1).bind fun v4 =>
    some v4
def f_X1_filesLostBy_L60 : Nat → gH → Nat → Nat → Nat → Int32 → Int32 → Option (gH × Int32)
  | 0, _, _, _, _, _, _ => none
  | n + 1, G, ba0, ba2, ba3, bx4, bx5 =>
    (g_i G ba0 1 3).bind fun v63 =>
    if v63 ≤ bx5 then
    some (G, bx4)
    else
    (g_ob G ba2 8).bind fun u74 =>
    (f_X8_isReadable G ba2 bx5).bind fun v74 =>
    if v74 = 0 then
    (f_X9_oneIf G (0 : Int32)).bind fun v94 =>
    f_X1_filesLostBy_L60 n G ba0 ba2 ba3 (bx4 + v94) (bx5 + (1 : Int32))
    else
    (g_ob G ba3 8).bind fun u83 =>
    (f_X8_isReadable G ba3 bx5).bind fun v83 =>
    if v83 = 0 then
    (f_X9_oneIf G (1 : Int32)).bind fun v94 =>
    f_X1_filesLostBy_L60 n G ba0 ba2 ba3 (bx4 + v94) (bx5 + (1 : Int32))
    else
    (f_X9_oneIf G (0 : Int32)).bind fun v94 =>
    f_X1_filesLostBy_L60 n G ba0 ba2 ba3 (bx4 + v94) (bx5 + (1 : Int32))
def f_X1_filesLostBy (G : gH) (a0 : Nat) (x1 : Int32) (a2 : Nat) (a3 : Nat) : Option (gH × Int32) :=
    (g_r G a0 1 0).bind fun v1 =>
    (g_ob G v1 0).bind fun u5 =>
    (f_X0_kindOf G v1 x1).bind fun v5 =>
    if v5 = 0 then
    some (G, (0 : Int32))
    else
    (g_r G a0 1 0).bind fun v12 =>
    (g_ob G v12 0).bind fun u16 =>
    (f_X0_isUnreadable G v12 x1).bind fun v16 =>
    if v16 = 0 then
    (g_r G a0 1 0).bind fun v25 =>
    (g_r G v25 0 5).bind fun v28 =>
    (f_X9_mark G v28 x1 (1 : Int32)).bind fun G33 =>
    (g_ob G33 a3 8).bind fun u38 =>
    (f_X8_lookAt G33 a3 a0).bind fun q38 =>
    (g_r q38.1 a0 1 0).bind fun v43 =>
    (g_r q38.1 v43 0 5).bind fun v46 =>
    (f_X9_mark q38.1 v46 x1 (0 : Int32)).bind fun G51 =>
    f_X1_filesLostBy_L60 g_N G51 a0 a2 a3 (0 : Int32) (0 : Int32)
    else
    some (G, (0 : Int32))
def f_X1_blocksUsed_J50 (k15 : gH → Nat → Int32 → Int32 → Nat → Int32 → Int32 → Option (gH × Int32)) (G : gH) (ba0 : Nat) (bx1 : Int32) (bx2 : Int32) (ba3 : Nat) (bx4 : Int32) (bx5 : Int32) (z0 : Int32) : Option (gH × Int32) :=
    if z0 = 0 then
    (f_X9_oneIf G (0 : Int32)).bind fun v75 =>
    k15 G ba0 bx1 bx2 ba3 (bx4 + v75) (bx5 + (1 : Int32))
    else
    (g_ob G ba0 1).bind fun u63 =>
    (f_X1_useOf G ba0 bx5 ba3).bind fun v63 =>
    if v63 = bx2 then
    (f_X9_oneIf G (1 : Int32)).bind fun v75 =>
    k15 G ba0 bx1 bx2 ba3 (bx4 + v75) (bx5 + (1 : Int32))
    else
    (f_X9_oneIf G (0 : Int32)).bind fun v75 =>
    k15 G ba0 bx1 bx2 ba3 (bx4 + v75) (bx5 + (1 : Int32))
def f_X1_blocksUsed_L15 : Nat → gH → Nat → Int32 → Int32 → Nat → Int32 → Int32 → Option (gH × Int32)
  | 0, _, _, _, _, _, _, _ => none
  | n + 1, G, ba0, bx1, bx2, ba3, bx4, bx5 =>
    (g_r G ba0 1 0).bind fun v18 =>
    (g_i G v18 0 0).bind fun v21 =>
    if v21 ≤ bx5 then
    some (G, bx4)
    else
    if bx1 = (-1 : Int32) then
    f_X1_blocksUsed_J50 (f_X1_blocksUsed_L15 n) G ba0 bx1 bx2 ba3 bx4 bx5 (1 : Int32)
    else
    (g_r G ba0 1 0).bind fun v33 =>
    (g_ob G v33 0).bind fun u38 =>
    (f_X0_writerOf G v33 bx5).bind fun v38 =>
    if v38 = bx1 then
    f_X1_blocksUsed_J50 (f_X1_blocksUsed_L15 n) G ba0 bx1 bx2 ba3 bx4 bx5 (1 : Int32)
    else
    f_X1_blocksUsed_J50 (f_X1_blocksUsed_L15 n) G ba0 bx1 bx2 ba3 bx4 bx5 (0 : Int32)
def f_X1_blocksUsed (G : gH) (a0 : Nat) (x1 : Int32) (x2 : Int32) : Option (gH × Int32) :=
    (g_r G a0 1 6).bind fun v1 =>
    (g_ob G v1 8).bind fun u5 =>
    (f_X8_lookAt G v1 a0).bind fun q5 =>
    f_X1_blocksUsed_L15 g_N q5.1 a0 x1 x2 q5.2 (0 : Int32) (0 : Int32)
def f_X1_reasonAgainstErase (G : gH) (a0 : Nat) (x1 : Int32) : Option (gH × Int32) :=
    (g_r G a0 1 6).bind fun v1 =>
    (g_ob G v1 8).bind fun u5 =>
    (f_X8_lookAt G v1 a0).bind fun q5 =>
    (g_ob q5.1 q5.2 8).bind fun u9 =>
    (f_X8_versionOf q5.1 q5.2 x1).bind fun v9 =>
    if v9 = (-1 : Int32) then
    some (q5.1, (2 : Int32))
    else
    (g_r q5.1 a0 1 2).bind fun v19 =>
    (g_ob q5.1 v19 5).bind fun u22 =>
    (f_X5_oneMoreIsTooMany q5.1 v19).bind fun v22 =>
    if v22 = 0 then
    (g_r q5.1 a0 1 0).bind fun v31 =>
    (g_r q5.1 a0 1 2).bind fun v35 =>
    (g_ob q5.1 v35 5).bind fun u39 =>
    (f_X5_entriesWith q5.1 v35 x1).bind fun v39 =>
    (f_X9_directoryLength q5.1 v39).bind fun v42 =>
    (g_ob q5.1 v31 0).bind fun u45 =>
    (f_X0_hasRoomFor q5.1 v31 v42).bind fun v45 =>
    if v45 = 0 then
    some (q5.1, (4 : Int32))
    else
    some (q5.1, (0 : Int32))
    else
    some (q5.1, (3 : Int32))
def f_X1_reasonAgainstRecover (G : gH) (a0 : Nat) : Option Int32 :=
    (g_ob G a0 1).bind fun u1 =>
    (f_X1_recoverableVersions G a0).bind fun v1 =>
    if v1 = 0 then
    some (2 : Int32)
    else
    (g_r G a0 1 2).bind fun v12 =>
    (g_ob G v12 5).bind fun u15 =>
    (f_X5_oneMoreIsTooMany G v12).bind fun v15 =>
    if v15 = 0 then
    (g_ob G a0 1).bind fun u27 =>
    (f_X1_reasonAgainstDirectory G a0 v1).bind fun v27 =>
    some v27
    else
    some (3 : Int32)
def f_X1_writeVersion_L37 : Nat → gH → Nat → Int32 → Int32 → Int32 → Int32 → Int32 → Option (gH × Int32)
  | 0, _, _, _, _, _, _, _ => none
  | n + 1, G, ba0, bx1, bx2, bx4, bx5, bx6 =>
    if bx2 ≤ bx6 then
    (g_r G ba0 1 2).bind fun v64 =>
    (g_ob G v64 5).bind fun u70 =>
    (f_X5_enter G v64 bx1 bx5).bind fun G70 =>
    some (G70, bx5)
    else
    (g_r G ba0 1 0).bind fun v44 =>
    (g_ob G v44 0).bind fun u54 =>
    (f_X0_writeNext G v44 (1 : Int32) bx4 bx5 bx6).bind fun G54 =>
    f_X1_writeVersion_L37 n G54 ba0 bx1 bx2 bx4 bx5 (bx6 + (1 : Int32))
def f_X1_writeVersion (G : gH) (a0 : Nat) (x1 : Int32) (x2 : Int32) (x3 : Int32) : Option (gH × Int32) :=
    (g_ob G a0 1).bind fun u1 =>
    (f_X1_beginIfNeeded G a0).bind fun G1 =>
    (g_r G1 a0 1 2).bind fun v5 =>
    (g_ob G1 v5 5).bind fun u8 =>
    (f_X5_latest G1 v5).bind fun v8 =>
    (g_r G1 a0 1 1).bind fun v14 =>
    (g_r G1 a0 1 0).bind fun v19 =>
    (g_i G1 v19 0 2).bind fun v22 =>
    (g_ob G1 v14 7).bind fun u29 =>
    (f_X7_add G1 v14 x1 v22 x2 x3 v8).bind fun q29 =>
    f_X1_writeVersion_L37 g_N q29.1 a0 x1 x2 v8 q29.2 (0 : Int32)
def f_X1_eraseFile (G : gH) (a0 : Nat) (x1 : Int32) : Option gH :=
    (g_ob G a0 1).bind fun u1 =>
    (f_X1_beginIfNeeded G a0).bind fun G1 =>
    (g_r G1 a0 1 2).bind fun v5 =>
    (g_ob G1 v5 5).bind fun u10 =>
    (f_X5_enter G1 v5 x1 (-1 : Int32)).bind fun G10 =>
    some G10
def f_X4_read_J111 (G : gH) (ba0 : Nat) (bx3 : Int32) : Option gH :=
    if bx3 = 0 then
    (g_r G ba0 4 13).bind fun v117 =>
    (g_i G ba0 4 14).bind fun v121 =>
    (g_ob G v117 11).bind fun u124 =>
    (f_X11_startOf G v117 v121).bind fun v124 =>
    (g_put G ba0 4 1 (.int v124)).bind fun G127 =>
    some G127
    else
    some G
def f_X4_read_L58 : Nat → gH → Nat → Int32 → Option gH
  | 0, _, _, _ => none
  | n + 1, G, ba0, bx3 =>
    if bx3 = 0 then
    f_X4_read_J111 G ba0 bx3
    else
    (g_i G ba0 4 14).bind fun v63 =>
    (g_r G ba0 4 13).bind fun v67 =>
    (g_i G v67 11 0).bind fun v70 =>
    if (v70 - (1 : Int32)) ≤ v63 then
    f_X4_read_J111 G ba0 bx3
    else
    (g_i G ba0 4 14).bind fun v80 =>
    (g_put G ba0 4 14 (.int (v80 + (1 : Int32)))).bind fun G85 =>
    (g_ob G85 ba0 4).bind fun u89 =>
    (f_X4_readStatement G85 ba0).bind fun q89 =>
    if q89.2 = 0 then
    f_X4_read_L58 n q89.1 ba0 (0 : Int32)
    else
    (g_ob q89.1 ba0 4).bind fun u96 =>
    (f_X4_readSemicolon q89.1 ba0).bind fun q96 =>
    if q96.2 = 0 then
    f_X4_read_L58 n q96.1 ba0 (0 : Int32)
    else
    f_X4_read_L58 n q96.1 ba0 (1 : Int32)
def f_X4_read (G : gH) (a0 : Nat) (a1 : Nat) (x2 : Int32) : Option gH :=
    (g_put G a0 4 0 (.int (0 : Int32))).bind fun G2 =>
    (g_put G2 a0 4 1 (.int (-1 : Int32))).bind fun G7 =>
    (g_put G7 a0 4 2 (.int (8 : Int32))).bind fun G13 =>
    (g_put G13 a0 4 3 (.int (0 : Int32))).bind fun G18 =>
    (g_put G18 a0 4 4 (.int (0 : Int32))).bind fun G23 =>
    (g_put G23 a0 4 6 (.int (0 : Int32))).bind fun G28 =>
    (g_r G28 a0 4 12).bind fun v32 =>
    (f_X9_fill_ G28 v32 (0 : Int32)).bind fun G36 =>
    (g_r G36 a0 4 13).bind fun v40 =>
    (g_ob G36 v40 11).bind fun u45 =>
    (f_X11_read G36 v40 a1 x2).bind fun G45 =>
    (g_put G45 a0 4 14 (.int (0 : Int32))).bind fun G50 =>
    (g_ob G50 a0 4).bind fun u54 =>
    (f_X4_readHead G50 a0).bind fun q54 =>
    f_X4_read_L58 g_N q54.1 a0 q54.2
def f_X9_weakest_L22 : Nat → gH → Nat → Nat → Int32 → Int32 → Int32 → Option (gH × Int32)
  | 0, _, _, _, _, _, _ => none
  | n + 1, G, ba0, ba1, bx2, bx3, bx4 =>
    (g_r G ba0 9 5).bind fun v25 =>
    (g_r G v25 1 0).bind fun v28 =>
    (g_i G v28 0 0).bind fun v31 =>
    if v31 ≤ bx4 then
    some (G, bx2)
    else
    (g_r G ba0 9 5).bind fun v38 =>
    (g_r G ba0 9 4).bind fun v45 =>
    (g_ob G v38 1).bind fun u48 =>
    (f_X1_filesLostBy G v38 bx4 ba1 v45).bind fun q48 =>
    if q48.2 ≤ bx3 then
    f_X9_weakest_L22 n q48.1 ba0 ba1 bx2 bx3 (bx4 + (1 : Int32))
    else
    f_X9_weakest_L22 n q48.1 ba0 ba1 bx4 q48.2 (bx4 + (1 : Int32))
def f_X9_weakest (G : gH) (a0 : Nat) : Option (gH × Int32) :=
    (g_r G a0 9 5).bind fun v1 =>
    (g_r G v1 1 6).bind fun v4 =>
    (g_r G a0 9 5).bind fun v8 =>
    (g_ob G v4 8).bind fun u11 =>
    (f_X8_lookAt G v4 v8).bind fun q11 =>
    f_X9_weakest_L22 g_N q11.1 a0 q11.2 (0 : Int32) (0 : Int32) (0 : Int32)
def f_X1_reasonAgainstStatement (G : gH) (a0 : Nat) (a1 : Nat) (x2 : Int32) : Option (gH × Int32) :=
    (g_ob G a1 4).bind fun u2 =>
    (f_X4_kindOf G a1 x2).bind fun v2 =>
    if v2 = (1 : Int32) then
    (g_ob G a1 4).bind fun u35 =>
    (f_X4_targetOf G a1 x2).bind fun v35 =>
    (g_ob G a1 4).bind fun u40 =>
    (f_X4_lengthOf G a1 x2).bind fun v40 =>
    (g_ob G a0 1).bind fun u43 =>
    (f_X1_reasonAgainstWrite G a0 v35 v40).bind fun v43 =>
    some (G, v43)
    else
    if v2 = (2 : Int32) then
    (g_ob G a1 4).bind fun u50 =>
    (f_X4_targetOf G a1 x2).bind fun v50 =>
    (g_ob G a0 1).bind fun u53 =>
    (f_X1_reasonAgainstErase G a0 v50).bind fun q53 =>
    some (q53.1, q53.2)
    else
    if v2 = (3 : Int32) then
    (g_ob G a0 1).bind fun u58 =>
    (f_X1_reasonAgainstClose G a0).bind fun v58 =>
    some (G, v58)
    else
    some (G, (0 : Int32))
def f_X1_doStatement (G : gH) (a0 : Nat) (a1 : Nat) (x2 : Int32) : Option gH :=
    (g_ob G a1 4).bind fun u2 =>
    (f_X4_kindOf G a1 x2).bind fun v2 =>
    if v2 = (1 : Int32) then
    (g_ob G a1 4).bind fun u35 =>
    (f_X4_targetOf G a1 x2).bind fun v35 =>
    (g_ob G a1 4).bind fun u40 =>
    (f_X4_lengthOf G a1 x2).bind fun v40 =>
    (g_ob G a1 4).bind fun u45 =>
    (f_X4_tagOf G a1 x2).bind fun v45 =>
    (g_ob G a0 1).bind fun u48 =>
    (f_X1_writeVersion G a0 v35 v40 v45).bind fun q48 =>
    some q48.1
    else
    if v2 = (2 : Int32) then
    (g_ob G a1 4).bind fun u58 =>
    (f_X4_targetOf G a1 x2).bind fun v58 =>
    (g_ob G a0 1).bind fun u61 =>
    (f_X1_eraseFile G a0 v58).bind fun G61 =>
    some G61
    else
    if v2 = (3 : Int32) then
    (g_ob G a0 1).bind fun u68 =>
    (f_X1_closeSession G a0).bind fun q68 =>
    some q68.1
    else
    (g_r G a0 1 0).bind fun v76 =>
    (g_ob G a1 4).bind fun u81 =>
    (f_X4_targetOf G a1 x2).bind fun v81 =>
    (g_ob G v76 0).bind fun u84 =>
    (f_X0_makeBad G v76 v81).bind fun G84 =>
    some G84
def w_X0_init (G : gH) (a0 : Nat) (K : gH → Prop) : Prop :=
    ∃ G6, g_put G a0 0 0 (.int (0 : Int32)) = some G6 ∧
    ∃ G11, g_put G6 a0 0 1 (.int (0 : Int32)) = some G11 ∧
    ∃ G16, g_put G11 a0 0 2 (.int (0 : Int32)) = some G16 ∧
    ∀ q22 : Nat, G16 q22 = none → ∀ G22 : gH, G22 = va_up G16 q22 (some (.inl (0, 96, fun _ => 0))) →
    ∃ G24, g_put G22 a0 0 3 (.ref q22) = some G24 ∧
    ∀ q30 : Nat, G24 q30 = none → ∀ G30 : gH, G30 = va_up G24 q30 (some (.inl (1, 96, fun _ => 0))) →
    ∃ G32, g_put G30 a0 0 4 (.ref q30) = some G32 ∧
    ∀ q38 : Nat, G32 q38 = none → ∀ G38 : gH, G38 = va_up G32 q38 (some (.inl (1, 96, fun _ => 0))) →
    ∃ G40, g_put G38 a0 0 5 (.ref q38) = some G40 ∧
    ∀ q46 : Nat, G40 q46 = none → ∀ G46 : gH, G46 = va_up G40 q46 (some (.inl (0, 96, fun _ => 0))) →
    ∃ G48, g_put G46 a0 0 6 (.ref q46) = some G48 ∧
    ∀ q54 : Nat, G48 q54 = none → ∀ G54 : gH, G54 = va_up G48 q54 (some (.inl (0, 96, fun _ => 0))) →
    ∃ G56, g_put G54 a0 0 7 (.ref q54) = some G56 ∧
    ∀ q62 : Nat, G56 q62 = none → ∀ G62 : gH, G62 = va_up G56 q62 (some (.inl (0, 96, fun _ => 0))) →
    ∃ G64, g_put G62 a0 0 8 (.ref q62) = some G64 ∧
    ∀ q70 : Nat, G64 q70 = none → ∀ G70 : gH, G70 = va_up G64 q70 (some (.inl (0, 96, fun _ => 0))) →
    ∃ G72, g_put G70 a0 0 9 (.ref q70) = some G72 ∧
    ∀ q78 : Nat, G72 q78 = none → ∀ G78 : gH, G78 = va_up G72 q78 (some (.inl (0, 96, fun _ => 0))) →
    ∃ G80, g_put G78 a0 0 10 (.ref q78) = some G80 ∧
    K G80
def w_X7_init (G : gH) (a0 : Nat) (K : gH → Prop) : Prop :=
    ∃ G6, g_put G a0 7 0 (.int (0 : Int32)) = some G6 ∧
    ∀ q12 : Nat, G6 q12 = none → ∀ G12 : gH, G12 = va_up G6 q12 (some (.inl (0, 96, fun _ => 0))) →
    ∃ G14, g_put G12 a0 7 1 (.ref q12) = some G14 ∧
    ∀ q20 : Nat, G14 q20 = none → ∀ G20 : gH, G20 = va_up G14 q20 (some (.inl (0, 96, fun _ => 0))) →
    ∃ G22, g_put G20 a0 7 2 (.ref q20) = some G22 ∧
    ∀ q28 : Nat, G22 q28 = none → ∀ G28 : gH, G28 = va_up G22 q28 (some (.inl (0, 96, fun _ => 0))) →
    ∃ G30, g_put G28 a0 7 3 (.ref q28) = some G30 ∧
    ∀ q36 : Nat, G30 q36 = none → ∀ G36 : gH, G36 = va_up G30 q36 (some (.inl (0, 96, fun _ => 0))) →
    ∃ G38, g_put G36 a0 7 4 (.ref q36) = some G38 ∧
    ∀ q44 : Nat, G38 q44 = none → ∀ G44 : gH, G44 = va_up G38 q44 (some (.inl (0, 96, fun _ => 0))) →
    ∃ G46, g_put G44 a0 7 5 (.ref q44) = some G46 ∧
    K G46
def w_X5_init (G : gH) (a0 : Nat) (K : gH → Prop) : Prop :=
    ∃ G6, g_put G a0 5 0 (.int (0 : Int32)) = some G6 ∧
    ∀ q12 : Nat, G6 q12 = none → ∀ G12 : gH, G12 = va_up G6 q12 (some (.inl (0, 12, fun _ => 0))) →
    ∃ G14, g_put G12 a0 5 1 (.ref q12) = some G14 ∧
    ∀ q20 : Nat, G14 q20 = none → ∀ G20 : gH, G20 = va_up G14 q20 (some (.inl (0, 12, fun _ => 0))) →
    ∃ G22, g_put G20 a0 5 2 (.ref q20) = some G22 ∧
    ∀ q28 : Nat, G22 q28 = none → ∀ G28 : gH, G28 = va_up G22 q28 (some (.inl (0, 12, fun _ => 0))) →
    ∃ G30, g_put G28 a0 5 3 (.ref q28) = some G30 ∧
    ∀ q36 : Nat, G30 q36 = none → ∀ G36 : gH, G36 = va_up G30 q36 (some (.inl (0, 12, fun _ => 0))) →
    ∃ G38, g_put G36 a0 5 4 (.ref q36) = some G38 ∧
    ∀ q44 : Nat, G38 q44 = none → ∀ G44 : gH, G44 = va_up G38 q44 (some (.inl (0, 12, fun _ => 0))) →
    ∃ G46, g_put G44 a0 5 5 (.ref q44) = some G46 ∧
    ∀ q52 : Nat, G46 q52 = none → ∀ G52 : gH, G52 = va_up G46 q52 (some (.inl (0, 120, fun _ => 0))) →
    ∃ G54, g_put G52 a0 5 6 (.ref q52) = some G54 ∧
    ∀ q60 : Nat, G54 q60 = none → ∀ G60 : gH, G60 = va_up G54 q60 (some (.inl (0, 120, fun _ => 0))) →
    ∃ G62, g_put G60 a0 5 7 (.ref q60) = some G62 ∧
    K G62
def w_X8_init (G : gH) (a0 : Nat) (K : gH → Prop) : Prop :=
    ∃ G6, g_put G a0 8 0 (.int (0 : Int32)) = some G6 ∧
    ∀ q12 : Nat, G6 q12 = none → ∀ G12 : gH, G12 = va_up G6 q12 (some (.inl (1, 12, fun _ => 0))) →
    ∃ G14, g_put G12 a0 8 1 (.ref q12) = some G14 ∧
    ∀ q20 : Nat, G14 q20 = none → ∀ G20 : gH, G20 = va_up G14 q20 (some (.inl (0, 10, fun _ => 0))) →
    ∃ G22, g_put G20 a0 8 2 (.ref q20) = some G22 ∧
    ∀ q28 : Nat, G22 q28 = none → ∀ G28 : gH, G28 = va_up G22 q28 (some (.inl (0, 10, fun _ => 0))) →
    ∃ G30, g_put G28 a0 8 3 (.ref q28) = some G30 ∧
    ∀ q36 : Nat, G30 q36 = none → ∀ G36 : gH, G36 = va_up G30 q36 (some (.inl (1, 10, fun _ => 0))) →
    ∃ G38, g_put G36 a0 8 4 (.ref q36) = some G38 ∧
    K G38
def w_X1_init (G : gH) (a0 : Nat) (K : gH → Prop) : Prop :=
    ∀ q5 : Nat, G q5 = none → ∀ G5 : gH, G5 = va_up G q5 (some (.inr (.inr (.inr (0, [.int 0, .int 0, .int 0, .null, .null, .null, .null, .null, .null, .null, .null]))))) →
    w_X0_init G5 q5 (fun G9 =>
    ∃ G12, g_put G9 a0 1 0 (.ref q5) = some G12 ∧
    ∀ q16 : Nat, G12 q16 = none → ∀ G16 : gH, G16 = va_up G12 q16 (some (.inr (.inr (.inr (7, [.int 0, .null, .null, .null, .null, .null]))))) →
    w_X7_init G16 q16 (fun G20 =>
    ∃ G23, g_put G20 a0 1 1 (.ref q16) = some G23 ∧
    ∀ q27 : Nat, G23 q27 = none → ∀ G27 : gH, G27 = va_up G23 q27 (some (.inr (.inr (.inr (5, [.int 0, .null, .null, .null, .null, .null, .null, .null]))))) →
    w_X5_init G27 q27 (fun G31 =>
    ∃ G34, g_put G31 a0 1 2 (.ref q27) = some G34 ∧
    ∃ G39, g_put G34 a0 1 3 (.int (0 : Int32)) = some G39 ∧
    ∀ q45 : Nat, G39 q45 = none → ∀ G45 : gH, G45 = va_up G39 q45 (some (.inr (.inl (10, fun _ => 0)))) →
    ∃ G47, g_put G45 a0 1 4 (.ref q45) = some G47 ∧
    ∃ G52, g_put G47 a0 1 5 (.int (0 : Int32)) = some G52 ∧
    ∀ q56 : Nat, G52 q56 = none → ∀ G56 : gH, G56 = va_up G52 q56 (some (.inr (.inr (.inr (8, [.int 0, .null, .null, .null, .null]))))) →
    w_X8_init G56 q56 (fun G60 =>
    ∃ G63, g_put G60 a0 1 6 (.ref q56) = some G63 ∧
    K G63))))
def w_X3_init (G : gH) (a0 : Nat) (K : gH → Prop) : Prop :=
    ∀ q8 : Nat, G q8 = none → ∀ G8 : gH, G8 = va_up G q8 (some (.inl (0, 600, fun _ => 0))) →
    ∃ G10, g_put G8 a0 3 0 (.ref q8) = some G10 ∧
    ∃ G15, g_put G10 a0 3 1 (.int (0 : Int32)) = some G15 ∧
    K G15
def w_X11_init (G : gH) (a0 : Nat) (K : gH → Prop) : Prop :=
    ∃ G6, g_put G a0 11 0 (.int (0 : Int32)) = some G6 ∧
    ∃ G11, g_put G6 a0 11 1 (.int (0 : Int32)) = some G11 ∧
    ∀ q18 : Nat, G11 q18 = none → ∀ G18 : gH, G18 = va_up G11 q18 (some (.inl (0, 600, fun _ => 0))) →
    ∃ G20, g_put G18 a0 11 2 (.ref q18) = some G20 ∧
    ∀ q27 : Nat, G20 q27 = none → ∀ G27 : gH, G27 = va_up G20 q27 (some (.inl (0, 600, fun _ => 0))) →
    ∃ G29, g_put G27 a0 11 3 (.ref q27) = some G29 ∧
    ∀ q36 : Nat, G29 q36 = none → ∀ G36 : gH, G36 = va_up G29 q36 (some (.inr (.inl (600, fun _ => 0)))) →
    ∃ G38, g_put G36 a0 11 4 (.ref q36) = some G38 ∧
    K G38
def w_X4_init (G : gH) (a0 : Nat) (K : gH → Prop) : Prop :=
    ∃ G6, g_put G a0 4 0 (.int (0 : Int32)) = some G6 ∧
    ∃ G11, g_put G6 a0 4 1 (.int (-1 : Int32)) = some G11 ∧
    ∃ G17, g_put G11 a0 4 2 (.int (8 : Int32)) = some G17 ∧
    ∃ G22, g_put G17 a0 4 3 (.int (0 : Int32)) = some G22 ∧
    ∃ G27, g_put G22 a0 4 4 (.int (0 : Int32)) = some G27 ∧
    ∀ q33 : Nat, G27 q33 = none → ∀ G33 : gH, G33 = va_up G27 q33 (some (.inr (.inl (10, fun _ => 0)))) →
    ∃ G35, g_put G33 a0 4 5 (.ref q33) = some G35 ∧
    ∃ G40, g_put G35 a0 4 6 (.int (0 : Int32)) = some G40 ∧
    ∀ q46 : Nat, G40 q46 = none → ∀ G46 : gH, G46 = va_up G40 q46 (some (.inl (0, 120, fun _ => 0))) →
    ∃ G48, g_put G46 a0 4 7 (.ref q46) = some G48 ∧
    ∀ q54 : Nat, G48 q54 = none → ∀ G54 : gH, G54 = va_up G48 q54 (some (.inl (0, 120, fun _ => 0))) →
    ∃ G56, g_put G54 a0 4 8 (.ref q54) = some G56 ∧
    ∀ q62 : Nat, G56 q62 = none → ∀ G62 : gH, G62 = va_up G56 q62 (some (.inl (0, 120, fun _ => 0))) →
    ∃ G64, g_put G62 a0 4 9 (.ref q62) = some G64 ∧
    ∀ q70 : Nat, G64 q70 = none → ∀ G70 : gH, G70 = va_up G64 q70 (some (.inl (0, 120, fun _ => 0))) →
    ∃ G72, g_put G70 a0 4 10 (.ref q70) = some G72 ∧
    ∀ q78 : Nat, G72 q78 = none → ∀ G78 : gH, G78 = va_up G72 q78 (some (.inl (0, 120, fun _ => 0))) →
    ∃ G80, g_put G78 a0 4 11 (.ref q78) = some G80 ∧
    ∀ q86 : Nat, G80 q86 = none → ∀ G86 : gH, G86 = va_up G80 q86 (some (.inl (1, 96, fun _ => 0))) →
    ∃ G88, g_put G86 a0 4 12 (.ref q86) = some G88 ∧
    ∀ q92 : Nat, G88 q92 = none → ∀ G92 : gH, G92 = va_up G88 q92 (some (.inr (.inr (.inr (11, [.int 0, .int 0, .null, .null, .null]))))) →
    w_X11_init G92 q92 (fun G96 =>
    ∃ G99, g_put G96 a0 4 13 (.ref q92) = some G99 ∧
    ∃ G104, g_put G99 a0 4 14 (.int (0 : Int32)) = some G104 ∧
    K G104)
def w_X2_init (G : gH) (a0 : Nat) (K : gH → Prop) : Prop :=
    ∃ G6, g_put G a0 2 0 (.int (0 : Int32)) = some G6 ∧
    ∃ G11, g_put G6 a0 2 1 (.int (0 : Int32)) = some G11 ∧
    ∀ q17 : Nat, G11 q17 = none → ∀ G17 : gH, G17 = va_up G11 q17 (some (.inr (.inr (.inl (10, fun _ => none))))) →
    ∃ G20, g_put G17 a0 2 2 (.ref q17) = some G20 ∧
    K G20
def w_X6_init (G : gH) (a0 : Nat) (K : gH → Prop) : Prop :=
    ∀ q6 : Nat, G q6 = none → ∀ G6 : gH, G6 = va_up G q6 (some (.inl (1, 2, fun _ => 0))) →
    ∃ G8, g_put G6 a0 6 0 (.ref q6) = some G8 ∧
    ∀ q13 : Nat, G8 q13 = none → ∀ G13 : gH, G13 = va_up G8 q13 (some (.inr (.inr (.inl (2, fun _ => none))))) →
    ∃ G16, g_put G13 a0 6 1 (.ref q13) = some G16 ∧
    K G16
def w_X10_init (G : gH) (a0 : Nat) (K : gH → Prop) : Prop :=
    ∀ q8 : Nat, G q8 = none → ∀ G8 : gH, G8 = va_up G q8 (some (.inl (0, 1555, fun _ => 0))) →
    ∃ G10, g_put G8 a0 10 1 (.ref q8) = some G10 ∧
    ∀ q16 : Nat, G10 q16 = none → ∀ G16 : gH, G16 = va_up G10 q16 (some (.inr (.inl (10, fun _ => 0)))) →
    ∃ G18, g_put G16 a0 10 2 (.ref q16) = some G18 ∧
    ∀ q25 : Nat, G18 q25 = none → ∀ G25 : gH, G25 = va_up G18 q25 (some (.inl (2, 600, fun _ => 0))) →
    ∃ G27, g_put G25 a0 10 3 (.ref q25) = some G27 ∧
    ∃ G32, g_put G27 a0 10 12 (.int (-1 : Int32)) = some G32 ∧
    ∀ q39 : Nat, G32 q39 = none → ∀ G39 : gH, G39 = va_up G32 q39 (some (.inl (0, 1555, fun _ => 0))) →
    ∃ G41, g_put G39 a0 10 14 (.ref q39) = some G41 ∧
    ∀ q47 : Nat, G41 q47 = none → ∀ G47 : gH, G47 = va_up G41 q47 (some (.inr (.inl (10, fun _ => 0)))) →
    ∃ G49, g_put G47 a0 10 15 (.ref q47) = some G49 ∧
    ∀ q55 : Nat, G49 q55 = none → ∀ G55 : gH, G55 = va_up G49 q55 (some (.inl (0, 12, fun _ => 0))) →
    ∃ G57, g_put G55 a0 10 17 (.ref q55) = some G57 ∧
    ∀ q63 : Nat, G57 q63 = none → ∀ G63 : gH, G63 = va_up G57 q63 (some (.inl (0, 10, fun _ => 0))) →
    ∃ G65, g_put G63 a0 10 21 (.ref q63) = some G65 ∧
    ∀ q71 : Nat, G65 q71 = none → ∀ G71 : gH, G71 = va_up G65 q71 (some (.inl (1, 96, fun _ => 0))) →
    ∃ G73, g_put G71 a0 10 23 (.ref q71) = some G73 ∧
    ∀ q80 : Nat, G73 q80 = none → ∀ G80 : gH, G80 = va_up G73 q80 (some (.inl (0, 15550, fun _ => 0))) →
    ∃ G82, g_put G80 a0 10 25 (.ref q80) = some G82 ∧
    ∀ q89 : Nat, G82 q89 = none → ∀ G89 : gH, G89 = va_up G82 q89 (some (.inl (0, 3110, fun _ => 0))) →
    ∃ G91, g_put G89 a0 10 26 (.ref q89) = some G91 ∧
    ∀ q96 : Nat, G91 q96 = none → ∀ G96 : gH, G96 = va_up G91 q96 (some (.inl (1, 2, fun _ => 0))) →
    ∃ G98, g_put G96 a0 10 27 (.ref q96) = some G98 ∧
    ∃ v102, g_r G98 a0 10 1 = some v102 ∧
    ∃ G108, g_ast 0 G98 v102 (0 : Int32) (8 : Int32) = some G108 ∧
    K G108
def w_X9_init (G : gH) (a0 : Nat) (K : gH → Prop) : Prop :=
    ∀ q5 : Nat, G q5 = none → ∀ G5 : gH, G5 = va_up G q5 (some (.inr (.inr (.inr (3, [.null, .int 0]))))) →
    w_X3_init G5 q5 (fun G9 =>
    ∃ G12, g_put G9 a0 9 0 (.ref q5) = some G12 ∧
    ∀ q16 : Nat, G12 q16 = none → ∀ G16 : gH, G16 = va_up G12 q16 (some (.inr (.inr (.inr (4, [.int 0, .int 0, .int 0, .int 0, .int 0, .null, .int 0, .null, .null, .null, .null, .null, .null, .null, .int 0]))))) →
    w_X4_init G16 q16 (fun G20 =>
    ∃ G23, g_put G20 a0 9 1 (.ref q16) = some G23 ∧
    ∀ q27 : Nat, G23 q27 = none → ∀ G27 : gH, G27 = va_up G23 q27 (some (.inr (.inr (.inr (2, [.int 0, .int 0, .null]))))) →
    w_X2_init G27 q27 (fun G31 =>
    ∃ G34, g_put G31 a0 9 2 (.ref q27) = some G34 ∧
    ∀ q38 : Nat, G34 q38 = none → ∀ G38 : gH, G38 = va_up G34 q38 (some (.inr (.inr (.inr (6, [.null, .null]))))) →
    w_X6_init G38 q38 (fun G42 =>
    ∃ G45, g_put G42 a0 9 3 (.ref q38) = some G45 ∧
    ∀ q49 : Nat, G45 q49 = none → ∀ G49 : gH, G49 = va_up G45 q49 (some (.inr (.inr (.inr (8, [.int 0, .null, .null, .null, .null]))))) →
    w_X8_init G49 q49 (fun G53 =>
    ∃ G56, g_put G53 a0 9 4 (.ref q49) = some G56 ∧
    ∀ q60 : Nat, G56 q60 = none → ∀ G60 : gH, G60 = va_up G56 q60 (some (.inr (.inr (.inr (1, [.null, .null, .null, .int 0, .null, .int 0, .null]))))) →
    w_X1_init G60 q60 (fun G64 =>
    ∃ G67, g_put G64 a0 9 5 (.ref q60) = some G67 ∧
    ∀ q71 : Nat, G67 q71 = none → ∀ G71 : gH, G71 = va_up G67 q71 (some (.inr (.inr (.inr (1, [.null, .null, .null, .int 0, .null, .int 0, .null]))))) →
    w_X1_init G71 q71 (fun G75 =>
    ∃ G78, g_put G75 a0 9 6 (.ref q71) = some G78 ∧
    ∃ v82, g_r G78 a0 9 5 = some v82 ∧
    ∃ u88, g_ob G78 v82 1 = some u88 ∧
    ∃ G88, f_X1_format G78 v82 (8 : Int32) (0 : Int32) = some G88 ∧
    K G88)))))))
def w_X9_storeIn (G : gH) (a0 : Nat) (x1 : Int32) (a2 : Nat) (K : gH → Prop) : Prop :=
    if x1 < 0 then
    K G
    else
    ∃ v6, g_len G a0 = some v6 ∧
    if v6 ≤ x1 then
    K G
    else
    ∃ v12, g_qald G a0 x1 = some v12 ∧
    ((v12 = none → ∀ q18 : Nat, G q18 = none → ∀ G18 : gH, G18 = va_up G q18 (some (.inr (.inr (.inr (1, [.null, .null, .null, .int 0, .null, .int 0, .null]))))) →
    w_X1_init G18 q18 (fun G22 =>
    ∃ u25, g_ob G22 q18 1 = some u25 ∧
    ∃ G25, g_qast G22 a0 x1 q18 = some G25 ∧
    ∃ v28, g_qald G25 a0 x1 = some v28 ∧
    ∃ r30a : Nat, v28 = some r30a ∧
    ∃ u30, g_ob G25 r30a 1 = some u30 ∧
    ∃ G30, f_X1_takeFrom G25 r30a a2 = some G30 ∧
    K G30)) ∧ (v12 ≠ none →
    ∃ v28, g_qald G a0 x1 = some v28 ∧
    ∃ r30a : Nat, v28 = some r30a ∧
    ∃ u30, g_ob G r30a 1 = some u30 ∧
    ∃ G30, f_X1_takeFrom G r30a a2 = some G30 ∧
    K G30))
def w_X9_loadFrom (G : gH) (a0 : Nat) (x1 : Int32) (a2 : Nat) (K : gH → Prop) : Prop :=
    if x1 < 0 then
    K G
    else
    ∃ v6, g_len G a0 = some v6 ∧
    if v6 ≤ x1 then
    K G
    else
    ∃ v12, g_qald G a0 x1 = some v12 ∧
    ((v12 = none → K G) ∧ (v12 ≠ none →
    ∃ v19, g_qald G a0 x1 = some v19 ∧
    ∃ r20b : Nat, v19 = some r20b ∧
    ∃ u20, g_ob G a2 1 = some u20 ∧
    ∃ G20, f_X1_takeFrom G a2 r20b = some G20 ∧
    K G20))
def w_X2_keep (G : gH) (a0 : Nat) (a1 : Nat) (K : gH → Prop) : Prop :=
    ∃ v1, g_i G a0 2 1 = some v1 ∧
    ∃ v5, g_i G a0 2 0 = some v5 ∧
    ∃ v14, g_i G a0 2 0 = some v14 ∧
    if (10 : Int32) ≤ v14 then
    ∃ v37, g_i G a0 2 1 = some v37 ∧
    ∃ G45, g_put G a0 2 1 (.int ((v37 + (1 : Int32)) - (v37 + (1 : Int32)) / (10 : Int32) * (10 : Int32))) = some G45 ∧
    ∃ v49, g_r G45 a0 2 2 = some v49 ∧
    w_X9_storeIn G45 v49 ((v1 + v5) - (v1 + v5) / (10 : Int32) * (10 : Int32)) a1 (fun G54 =>
    K G54)
    else
    ∃ v24, g_i G a0 2 0 = some v24 ∧
    ∃ G29, g_put G a0 2 0 (.int (v24 + (1 : Int32))) = some G29 ∧
    ∃ v49, g_r G29 a0 2 2 = some v49 ∧
    w_X9_storeIn G29 v49 ((v1 + v5) - (v1 + v5) / (10 : Int32) * (10 : Int32)) a1 (fun G54 =>
    K G54)
def w_X2_bringBack (G : gH) (a0 : Nat) (a1 : Nat) (K : Int32 → gH → Prop) : Prop :=
    ∃ v1, g_i G a0 2 0 = some v1 ∧
    if v1 = 0 then
    K (0 : Int32) G
    else
    ∃ v11, g_i G a0 2 0 = some v11 ∧
    ∃ G16, g_put G a0 2 0 (.int (v11 - (1 : Int32))) = some G16 ∧
    ∃ v20, g_r G16 a0 2 2 = some v20 ∧
    ∃ v24, g_i G16 a0 2 1 = some v24 ∧
    ∃ v28, g_i G16 a0 2 0 = some v28 ∧
    w_X9_loadFrom G16 v20 ((v24 + v28) - (v24 + v28) / (10 : Int32) * (10 : Int32)) a1 (fun G36 =>
    K (1 : Int32) G36)
def w_X6_store (G : gH) (a0 : Nat) (x1 : Int32) (a2 : Nat) (K : gH → Prop) : Prop :=
    ∃ v1, g_r G a0 6 0 = some v1 ∧
    ∃ G6, f_X9_mark G v1 x1 (1 : Int32) = some G6 ∧
    ∃ v10, g_r G6 a0 6 1 = some v10 ∧
    w_X9_storeIn G6 v10 x1 a2 (fun G15 =>
    K G15)
def w_X6_load (G : gH) (a0 : Nat) (x1 : Int32) (a2 : Nat) (K : gH → Prop) : Prop :=
    ∃ v1, g_r G a0 6 1 = some v1 ∧
    w_X9_loadFrom G v1 x1 a2 (fun G6 =>
    K G6)
def w_X9_checkIndex (G : gH) (x0 : Int32) (x1 : Int32) (KX : String → gH → Prop) (K : gH → Prop) : Prop :=
    if x0 < 0 then
    KX g_xIOB G
    else
    if x0 < x1 then
    K G
    else
    KX g_xIOB G
def w_X9_checkRange (G : gH) (x0 : Int32) (x1 : Int32) (x2 : Int32) (KX : String → gH → Prop) (K : gH → Prop) : Prop :=
    if x0 < x1 then
    KX g_xIAE G
    else
    if x0 ≤ x2 then
    K G
    else
    KX g_xIAE G
def w_X9_checkAllowed (G : gH) (x0 : Int32) (KX : String → gH → Prop) (K : gH → Prop) : Prop :=
    if x0 = 0 then
    K G
    else
    KX g_xISE G
def w_X9_restoreSnapshot (G : gH) (a0 : Nat) (x1 : Int32) (KX : String → gH → Prop) (K : Int32 → gH → Prop) : Prop :=
    w_X9_checkIndex G x1 (2 : Int32) KX (fun G2 =>
    ∃ v6, g_r G2 a0 9 3 = some v6 ∧
    ∃ u10, g_ob G2 v6 6 = some u10 ∧
    ∃ v10, f_X6_isStored G2 v6 x1 = some v10 ∧
    if v10 = 0 then
    KX g_xISE G2
    else
    ∃ v28, g_r G2 a0 9 3 = some v28 ∧
    ∃ v33, g_r G2 a0 9 5 = some v33 ∧
    ∃ u36, g_ob G2 v28 6 = some u36 ∧
    w_X6_load G2 v28 x1 v33 (fun G36 =>
    ∃ v40, g_r G36 a0 9 2 = some v40 ∧
    ∃ u43, g_ob G36 v40 2 = some u43 ∧
    ∃ G43, f_X2_clear G36 v40 = some G43 ∧
    ∃ v47, g_r G43 a0 9 5 = some v47 ∧
    ∃ v50, g_r G43 v47 1 2 = some v50 ∧
    ∃ v53, g_i G43 v50 5 0 = some v53 ∧
    K v53 G43))
def f_X9_parse_J100 (G : gH) (ba0 : Nat) : Option (gH × Int32) :=
    (g_r G ba0 9 1).bind fun v101 =>
    (g_i G v101 4 0).bind fun v104 =>
    if v104 = 0 then
    (g_r G ba0 9 5).bind fun v111 =>
    (g_r G ba0 9 6).bind fun v117 =>
    (g_put G ba0 9 5 (.ref v117)).bind fun G120 =>
    (g_put G120 ba0 9 6 (.ref v111)).bind fun G125 =>
    (g_r G125 ba0 9 2).bind fun v129 =>
    (g_ob G125 v129 2).bind fun u132 =>
    (f_X2_clear G125 v129).bind fun G132 =>
    (g_r G132 ba0 9 3).bind fun v136 =>
    (g_ob G132 v136 6).bind fun u139 =>
    (f_X6_clear G132 v136).bind fun G139 =>
    (g_r G139 ba0 9 1).bind fun v143 =>
    (g_i G139 v143 4 0).bind fun v146 =>
    some (G139, v146)
    else
    (g_r G ba0 9 1).bind fun v143 =>
    (g_i G v143 4 0).bind fun v146 =>
    some (G, v146)
def f_X9_parse_L45 : Nat → gH → Nat → Int32 → Option (gH × Int32)
  | 0, _, _, _ => none
  | n + 1, G, ba0, bx2 =>
    (g_r G ba0 9 1).bind fun v47 =>
    (g_i G v47 4 6).bind fun v50 =>
    if v50 ≤ bx2 then
    f_X9_parse_J100 G ba0
    else
    (g_r G ba0 9 6).bind fun v57 =>
    (g_r G ba0 9 1).bind fun v61 =>
    (g_ob G v57 1).bind fun u65 =>
    (f_X1_reasonAgainstStatement G v57 v61 bx2).bind fun q65 =>
    if q65.2 = 0 then
    (g_r q65.1 ba0 9 6).bind fun v83 =>
    (g_r q65.1 ba0 9 1).bind fun v87 =>
    (g_ob q65.1 v83 1).bind fun u91 =>
    (f_X1_doStatement q65.1 v83 v87 bx2).bind fun G91 =>
    f_X9_parse_L45 n G91 ba0 (bx2 + (1 : Int32))
    else
    (g_r q65.1 ba0 9 1).bind fun v72 =>
    (g_ob q65.1 v72 4).bind fun u76 =>
    (f_X4_refuseStatement q65.1 v72 bx2).bind fun G76 =>
    f_X9_parse_J100 G76 ba0
def w_X9_parse (G : gH) (a0 : Nat) (x1 : Int32) (KX : String → gH → Prop) (K : Int32 → gH → Prop) : Prop :=
    ∃ v3, g_r G a0 9 0 = some v3 ∧
    ∃ v6, g_i G v3 3 1 = some v6 ∧
    w_X9_checkRange G x1 (0 : Int32) v6 KX (fun G9 =>
    ∃ v13, g_r G9 a0 9 1 = some v13 ∧
    ∃ v17, g_r G9 a0 9 0 = some v17 ∧
    ∃ u21, g_ob G9 v13 4 = some u21 ∧
    ∃ G21, f_X4_read G9 v13 v17 x1 = some G21 ∧
    ∃ v25, g_r G21 a0 9 0 = some v25 ∧
    ∃ G29, g_put G21 v25 3 1 (.int (0 : Int32)) = some G29 ∧
    ∃ v33, g_r G29 a0 9 6 = some v33 ∧
    ∃ v37, g_r G29 a0 9 1 = some v37 ∧
    ∃ u40, g_ob G29 v33 1 = some u40 ∧
    ∃ G40, f_X1_begin G29 v33 v37 = some G40 ∧
    ∃ q45, f_X9_parse_L45 g_N G40 a0 (0 : Int32) = some q45 ∧ K q45.2 q45.1)
def w_X9_size (G : gH) (a0 : Nat) (x1 : Int32) (KX : String → gH → Prop) (K : Int32 → gH → Prop) : Prop :=
    w_X9_checkRange G x1 (0 : Int32) (12 : Int32) KX (fun G4 =>
    if x1 = (0 : Int32) then
    ∃ v73, g_r G4 a0 9 5 = some v73 ∧
    ∃ v76, g_r G4 v73 1 0 = some v76 ∧
    ∃ v79, g_i G4 v76 0 0 = some v79 ∧
    K v79 G4
    else
    if x1 = (1 : Int32) then
    ∃ v84, g_r G4 a0 9 5 = some v84 ∧
    ∃ v87, g_r G4 v84 1 0 = some v87 ∧
    ∃ v90, g_i G4 v87 0 0 = some v90 ∧
    ∃ v94, g_r G4 a0 9 5 = some v94 ∧
    ∃ v97, g_r G4 v94 1 0 = some v97 ∧
    ∃ v100, g_i G4 v97 0 1 = some v100 ∧
    K (v90 - v100) G4
    else
    if x1 = (2 : Int32) then
    ∃ v106, g_r G4 a0 9 5 = some v106 ∧
    ∃ v109, g_i G4 v106 1 3 = some v109 ∧
    K v109 G4
    else
    if x1 = (3 : Int32) then
    ∃ v114, g_r G4 a0 9 5 = some v114 ∧
    ∃ v117, g_r G4 v114 1 2 = some v117 ∧
    ∃ v120, g_i G4 v117 5 0 = some v120 ∧
    K v120 G4
    else
    if x1 = (4 : Int32) then
    ∃ v125, g_r G4 a0 9 5 = some v125 ∧
    ∃ v128, g_r G4 v125 1 0 = some v128 ∧
    ∃ v131, g_i G4 v128 0 2 = some v131 ∧
    K v131 G4
    else
    if x1 = (5 : Int32) then
    ∃ v136, g_r G4 a0 9 5 = some v136 ∧
    ∃ v139, g_r G4 v136 1 0 = some v139 ∧
    ∃ u142, g_ob G4 v139 0 = some u142 ∧
    ∃ v142, f_X0_emptySpares G4 v139 = some v142 ∧
    K v142 G4
    else
    if x1 = (6 : Int32) then
    ∃ v147, g_r G4 a0 9 5 = some v147 ∧
    ∃ v150, g_r G4 v147 1 0 = some v150 ∧
    ∃ u153, g_ob G4 v150 0 = some u153 ∧
    ∃ v153, f_X0_badOnes G4 v150 = some v153 ∧
    K v153 G4
    else
    if x1 = (7 : Int32) then
    ∃ v158, g_r G4 a0 9 5 = some v158 ∧
    ∃ v161, g_r G4 v158 1 6 = some v161 ∧
    ∃ v165, g_r G4 a0 9 5 = some v165 ∧
    ∃ u168, g_ob G4 v161 8 = some u168 ∧
    ∃ q168, f_X8_lookAt G4 v161 v165 = some q168 ∧
    ∃ u171, g_ob q168.1 q168.2 8 = some u171 ∧
    ∃ v171, f_X8_filesThere q168.1 q168.2 = some v171 ∧
    K v171 q168.1
    else
    if x1 = (8 : Int32) then
    ∃ v176, g_r G4 a0 9 5 = some v176 ∧
    ∃ v179, g_r G4 v176 1 6 = some v179 ∧
    ∃ v183, g_r G4 a0 9 5 = some v183 ∧
    ∃ u186, g_ob G4 v179 8 = some u186 ∧
    ∃ q186, f_X8_lookAt G4 v179 v183 = some q186 ∧
    ∃ u189, g_ob q186.1 q186.2 8 = some u189 ∧
    ∃ v189, f_X8_filesReadable q186.1 q186.2 = some v189 ∧
    K v189 q186.1
    else
    if x1 = (9 : Int32) then
    ∃ v194, g_r G4 a0 9 5 = some v194 ∧
    ∃ v197, g_r G4 v194 1 2 = some v197 ∧
    ∃ u200, g_ob G4 v197 5 = some u200 ∧
    ∃ v200, f_X5_isOpen G4 v197 = some v200 ∧
    ∃ v203, f_X9_oneIf G4 v200 = some v203 ∧
    K v203 G4
    else
    if x1 = (10 : Int32) then
    ∃ v208, g_r G4 a0 9 5 = some v208 ∧
    ∃ v211, g_i G4 v208 1 5 = some v211 ∧
    ∃ v214, f_X9_oneIf G4 v211 = some v214 ∧
    K v214 G4
    else
    if x1 = (11 : Int32) then
    ∃ v219, g_r G4 a0 9 2 = some v219 ∧
    ∃ v222, g_i G4 v219 2 0 = some v222 ∧
    K v222 G4
    else
    ∃ v227, g_r G4 a0 9 5 = some v227 ∧
    ∃ v230, g_r G4 v227 1 1 = some v230 ∧
    ∃ v233, g_i G4 v230 7 0 = some v233 ∧
    K v233 G4)
def w_X9_block (G : gH) (a0 : Nat) (x1 : Int32) (x2 : Int32) (KX : String → gH → Prop) (K : Int32 → gH → Prop) : Prop :=
    ∃ v2, g_r G a0 9 5 = some v2 ∧
    ∃ v5, g_r G v2 1 0 = some v5 ∧
    ∃ v8, g_i G v5 0 0 = some v8 ∧
    w_X9_checkIndex G x1 v8 KX (fun G11 =>
    w_X9_checkRange G11 x2 (0 : Int32) (6 : Int32) KX (fun G18 =>
    ∃ v22, g_r G18 a0 9 5 = some v22 ∧
    ∃ v25, g_r G18 v22 1 0 = some v25 ∧
    ∃ u30, g_ob G18 v25 0 = some u30 ∧
    ∃ v30, f_X0_property G18 v25 x1 x2 = some v30 ∧
    K v30 G18))
def w_X9_place (G : gH) (a0 : Nat) (x1 : Int32) (KX : String → gH → Prop) (K : Int32 → gH → Prop) : Prop :=
    ∃ v2, g_r G a0 9 5 = some v2 ∧
    ∃ v5, g_r G v2 1 0 = some v5 ∧
    ∃ v8, g_i G v5 0 0 = some v8 ∧
    w_X9_checkIndex G x1 v8 KX (fun G11 =>
    ∃ v15, g_r G11 a0 9 5 = some v15 ∧
    ∃ v18, g_r G11 v15 1 0 = some v18 ∧
    ∃ u22, g_ob G11 v18 0 = some u22 ∧
    ∃ v22, f_X0_placeOf G11 v18 x1 = some v22 ∧
    K v22 G11)
def w_X9_session (G : gH) (a0 : Nat) (x1 : Int32) (x2 : Int32) (KX : String → gH → Prop) (K : Int32 → gH → Prop) : Prop :=
    ∃ v2, g_r G a0 9 5 = some v2 ∧
    ∃ v5, g_r G v2 1 2 = some v5 ∧
    ∃ v8, g_i G v5 5 0 = some v8 ∧
    w_X9_checkIndex G x1 v8 KX (fun G11 =>
    w_X9_checkRange G11 x2 (0 : Int32) (8 : Int32) KX (fun G18 =>
    ∃ v22, g_r G18 a0 9 5 = some v22 ∧
    ∃ v25, g_r G18 v22 1 2 = some v25 ∧
    if x2 = (0 : Int32) then
    ∃ u78, g_ob G18 v25 5 = some u78 ∧
    ∃ v78, f_X5_stateOf G18 v25 x1 = some v78 ∧
    K v78 G18
    else
    if x2 = (1 : Int32) then
    ∃ u84, g_ob G18 v25 5 = some u84 ∧
    ∃ v84, f_X5_firstOf G18 v25 x1 = some v84 ∧
    K v84 G18
    else
    if x2 = (2 : Int32) then
    ∃ v89, g_r G18 a0 9 5 = some v89 ∧
    ∃ v92, g_r G18 v89 1 0 = some v92 ∧
    ∃ u96, g_ob G18 v92 0 = some u96 ∧
    ∃ v96, f_X0_mainBlocksOf G18 v92 x1 = some v96 ∧
    K v96 G18
    else
    if x2 = (3 : Int32) then
    ∃ u102, g_ob G18 v25 5 = some u102 ∧
    ∃ v102, f_X5_entriesOf G18 v25 x1 = some v102 ∧
    K v102 G18
    else
    if x2 = (4 : Int32) then
    ∃ u108, g_ob G18 v25 5 = some u108 ∧
    ∃ v108, f_X5_directoryOf G18 v25 x1 = some v108 ∧
    K v108 G18
    else
    if x2 = (5 : Int32) then
    ∃ v113, g_r G18 a0 9 5 = some v113 ∧
    ∃ v116, g_r G18 v113 1 0 = some v116 ∧
    ∃ u121, g_ob G18 v25 5 = some u121 ∧
    ∃ v121, f_X5_directoryOf G18 v25 x1 = some v121 ∧
    ∃ u126, g_ob G18 v25 5 = some u126 ∧
    ∃ v126, f_X5_directoryLengthOf G18 v25 x1 = some v126 ∧
    ∃ u129, g_ob G18 v116 0 = some u129 ∧
    ∃ v129, f_X0_canRead G18 v116 v121 v126 = some v129 ∧
    ∃ v132, f_X9_oneIf G18 v129 = some v132 ∧
    K v132 G18
    else
    if x2 = (6 : Int32) then
    ∃ u138, g_ob G18 v25 5 = some u138 ∧
    ∃ v138, f_X5_linkOf G18 v25 x1 = some v138 ∧
    K v138 G18
    else
    if x2 = (7 : Int32) then
    ∃ v143, g_r G18 a0 9 5 = some v143 ∧
    ∃ v146, g_r G18 v143 1 6 = some v146 ∧
    ∃ v150, g_r G18 a0 9 5 = some v150 ∧
    ∃ u153, g_ob G18 v146 8 = some u153 ∧
    ∃ q153, f_X8_lookAt G18 v146 v150 = some q153 ∧
    ∃ u157, g_ob q153.1 q153.2 8 = some u157 ∧
    ∃ v157, f_X8_isReached q153.1 q153.2 x1 = some v157 ∧
    ∃ v160, f_X9_oneIf q153.1 v157 = some v160 ∧
    K v160 q153.1
    else
    ∃ v165, g_r G18 a0 9 5 = some v165 ∧
    ∃ v168, g_r G18 v165 1 0 = some v168 ∧
    ∃ u172, g_ob G18 v168 0 = some u172 ∧
    ∃ v172, f_X0_spareBlocksOf G18 v168 x1 = some v172 ∧
    K v172 G18))
def w_X9_entry (G : gH) (a0 : Nat) (x1 : Int32) (x2 : Int32) (x3 : Int32) (KX : String → gH → Prop) (K : Int32 → gH → Prop) : Prop :=
    ∃ v2, g_r G a0 9 5 = some v2 ∧
    ∃ v5, g_r G v2 1 2 = some v5 ∧
    ∃ v8, g_i G v5 5 0 = some v8 ∧
    w_X9_checkIndex G x1 v8 KX (fun G11 =>
    w_X9_checkRange G11 x3 (0 : Int32) (4 : Int32) KX (fun G17 =>
    ∃ v21, g_r G17 a0 9 5 = some v21 ∧
    ∃ v24, g_r G17 v21 1 2 = some v24 ∧
    ∃ u29, g_ob G17 v24 5 = some u29 ∧
    ∃ v29, f_X5_fileAt G17 v24 x1 x2 = some v29 ∧
    if v29 = (-1 : Int32) then
    K (-1 : Int32) G17
    else
    ∃ v43, g_r G17 a0 9 5 = some v43 ∧
    ∃ v46, g_r G17 v43 1 2 = some v46 ∧
    ∃ u52, g_ob G17 v46 5 = some u52 ∧
    ∃ v52, f_X5_versionFor G17 v46 x1 v29 = some v52 ∧
    if x3 = (0 : Int32) then
    K v29 G17
    else
    if x3 = (1 : Int32) then
    K v52 G17
    else
    if x3 = (2 : Int32) then
    ∃ v95, g_r G17 a0 9 5 = some v95 ∧
    ∃ v98, g_r G17 v95 1 1 = some v98 ∧
    ∃ u103, g_ob G17 v98 7 = some u103 ∧
    ∃ v103, f_X7_firstOf G17 v98 v52 = some v103 ∧
    K v103 G17
    else
    if x3 = (3 : Int32) then
    ∃ v108, g_r G17 a0 9 5 = some v108 ∧
    ∃ v111, g_r G17 v108 1 1 = some v111 ∧
    ∃ u116, g_ob G17 v111 7 = some u116 ∧
    ∃ v116, f_X7_lengthOf G17 v111 v52 = some v116 ∧
    K v116 G17
    else
    ∃ v121, g_r G17 a0 9 5 = some v121 ∧
    ∃ v124, g_r G17 v121 1 1 = some v124 ∧
    ∃ u129, g_ob G17 v124 7 = some u129 ∧
    ∃ v129, f_X7_tagOf G17 v124 v52 = some v129 ∧
    K v129 G17))
def w_X9_file (G : gH) (a0 : Nat) (x1 : Int32) (x2 : Int32) (KX : String → gH → Prop) (K : Int32 → gH → Prop) : Prop :=
    ∃ v2, g_r G a0 9 5 = some v2 ∧
    ∃ v5, g_i G v2 1 3 = some v5 ∧
    w_X9_checkIndex G x1 v5 KX (fun G8 =>
    w_X9_checkRange G8 x2 (0 : Int32) (6 : Int32) KX (fun G15 =>
    ∃ v19, g_r G15 a0 9 5 = some v19 ∧
    ∃ v22, g_r G15 v19 1 6 = some v22 ∧
    ∃ v26, g_r G15 a0 9 5 = some v26 ∧
    ∃ u29, g_ob G15 v22 8 = some u29 ∧
    ∃ q29, f_X8_lookAt G15 v22 v26 = some q29 ∧
    ∃ u35, g_ob q29.1 q29.2 8 = some u35 ∧
    ∃ v35, f_X8_versionOf q29.1 q29.2 x1 = some v35 ∧
    if x2 = (0 : Int32) then
    if v35 = (-1 : Int32) then
    ∃ v91, f_X9_oneIf q29.1 (0 : Int32) = some v91 ∧
    K v91 q29.1
    else
    ∃ v91, f_X9_oneIf q29.1 (1 : Int32) = some v91 ∧
    K v91 q29.1
    else
    if x2 = (1 : Int32) then
    ∃ u97, g_ob q29.1 q29.2 8 = some u97 ∧
    ∃ v97, f_X8_isReadable q29.1 q29.2 x1 = some v97 ∧
    ∃ v100, f_X9_oneIf q29.1 v97 = some v100 ∧
    K v100 q29.1
    else
    if x2 = (2 : Int32) then
    K v35 q29.1
    else
    if x2 = (3 : Int32) then
    ∃ v108, g_r q29.1 a0 9 5 = some v108 ∧
    ∃ v111, g_r q29.1 v108 1 1 = some v111 ∧
    ∃ u116, g_ob q29.1 v111 7 = some u116 ∧
    ∃ v116, f_X7_lengthOf q29.1 v111 v35 = some v116 ∧
    K v116 q29.1
    else
    if x2 = (4 : Int32) then
    ∃ v121, g_r q29.1 a0 9 5 = some v121 ∧
    ∃ v124, g_r q29.1 v121 1 1 = some v124 ∧
    ∃ u129, g_ob q29.1 v124 7 = some u129 ∧
    ∃ v129, f_X7_tagOf q29.1 v124 v35 = some v129 ∧
    K v129 q29.1
    else
    if x2 = (5 : Int32) then
    ∃ u135, g_ob q29.1 q29.2 8 = some u135 ∧
    ∃ v135, f_X8_sessionOf q29.1 q29.2 x1 = some v135 ∧
    K v135 q29.1
    else
    ∃ v140, g_r q29.1 a0 9 5 = some v140 ∧
    ∃ v143, g_r q29.1 v140 1 1 = some v143 ∧
    ∃ u147, g_ob q29.1 v143 7 = some u147 ∧
    ∃ v147, f_X7_countOf q29.1 v143 x1 = some v147 ∧
    K v147 q29.1))
def w_X9_where (G : gH) (a0 : Nat) (x1 : Int32) (x2 : Int32) (KX : String → gH → Prop) (K : Int32 → gH → Prop) : Prop :=
    ∃ v2, g_r G a0 9 5 = some v2 ∧
    ∃ v5, g_i G v2 1 3 = some v5 ∧
    w_X9_checkIndex G x1 v5 KX (fun G8 =>
    ∃ v12, g_r G8 a0 9 5 = some v12 ∧
    ∃ v15, g_r G8 v12 1 6 = some v15 ∧
    ∃ v19, g_r G8 a0 9 5 = some v19 ∧
    ∃ u22, g_ob G8 v15 8 = some u22 ∧
    ∃ q22, f_X8_lookAt G8 v15 v19 = some q22 ∧
    ∃ u26, g_ob q22.1 q22.2 8 = some u26 ∧
    ∃ v26, f_X8_versionOf q22.1 q22.2 x1 = some v26 ∧
    if x2 < 0 then
    K (-1 : Int32) q22.1
    else
    ∃ v36, g_r q22.1 a0 9 5 = some v36 ∧
    ∃ v39, g_r q22.1 v36 1 1 = some v39 ∧
    ∃ u43, g_ob q22.1 v39 7 = some u43 ∧
    ∃ v43, f_X7_lengthOf q22.1 v39 v26 = some v43 ∧
    if x2 < v43 then
    ∃ v52, g_r q22.1 a0 9 5 = some v52 ∧
    ∃ v55, g_r q22.1 v52 1 0 = some v55 ∧
    ∃ v59, g_r q22.1 a0 9 5 = some v59 ∧
    ∃ v62, g_r q22.1 v59 1 1 = some v62 ∧
    ∃ u66, g_ob q22.1 v62 7 = some u66 ∧
    ∃ v66, f_X7_firstOf q22.1 v62 v26 = some v66 ∧
    ∃ u71, g_ob q22.1 v55 0 = some u71 ∧
    ∃ v71, f_X0_placeOf q22.1 v55 (v66 + x2) = some v71 ∧
    K v71 q22.1
    else
    K (-1 : Int32) q22.1)
def w_X9_whyNotWrite (G : gH) (a0 : Nat) (x1 : Int32) (x2 : Int32) (KX : String → gH → Prop) (K : Int32 → gH → Prop) : Prop :=
    ∃ v2, g_r G a0 9 5 = some v2 ∧
    ∃ v5, g_i G v2 1 3 = some v5 ∧
    w_X9_checkIndex G x1 v5 KX (fun G8 =>
    w_X9_checkRange G8 x2 (1 : Int32) (8 : Int32) KX (fun G15 =>
    ∃ v19, g_r G15 a0 9 5 = some v19 ∧
    ∃ u24, g_ob G15 v19 1 = some u24 ∧
    ∃ v24, f_X1_reasonAgainstWrite G15 v19 x1 x2 = some v24 ∧
    K v24 G15))
def w_X9_whyNot (G : gH) (a0 : Nat) (x1 : Int32) (KX : String → gH → Prop) (K : Int32 → gH → Prop) : Prop :=
    w_X9_checkRange G x1 (0 : Int32) (2 : Int32) KX (fun G3 =>
    if x1 = (0 : Int32) then
    ∃ v33, g_r G3 a0 9 5 = some v33 ∧
    ∃ u36, g_ob G3 v33 1 = some u36 ∧
    ∃ v36, f_X1_reasonAgainstClose G3 v33 = some v36 ∧
    K v36 G3
    else
    if x1 = (1 : Int32) then
    ∃ v41, g_r G3 a0 9 5 = some v41 ∧
    ∃ u44, g_ob G3 v41 1 = some u44 ∧
    ∃ v44, f_X1_reasonAgainstCrash G3 v41 = some v44 ∧
    K v44 G3
    else
    ∃ v49, g_r G3 a0 9 5 = some v49 ∧
    ∃ u52, g_ob G3 v49 1 = some u52 ∧
    ∃ v52, f_X1_reasonAgainstRecover G3 v49 = some v52 ∧
    K v52 G3)
def w_X9_risk (G : gH) (a0 : Nat) (x1 : Int32) (KX : String → gH → Prop) (K : Int32 → gH → Prop) : Prop :=
    ∃ v2, g_r G a0 9 5 = some v2 ∧
    ∃ v5, g_r G v2 1 0 = some v5 ∧
    ∃ v8, g_i G v5 0 0 = some v8 ∧
    w_X9_checkIndex G x1 v8 KX (fun G11 =>
    ∃ v15, g_r G11 a0 9 5 = some v15 ∧
    ∃ v20, g_r G11 a0 9 5 = some v20 ∧
    ∃ v23, g_r G11 v20 1 6 = some v23 ∧
    ∃ v27, g_r G11 a0 9 5 = some v27 ∧
    ∃ u30, g_ob G11 v23 8 = some u30 ∧
    ∃ q30, f_X8_lookAt G11 v23 v27 = some q30 ∧
    ∃ v34, g_r q30.1 a0 9 4 = some v34 ∧
    ∃ u37, g_ob q30.1 v15 1 = some u37 ∧
    ∃ q37, f_X1_filesLostBy q30.1 v15 x1 q30.2 v34 = some q37 ∧
    K q37.2 q37.1)
def w_X9_filesBefore (G : gH) (a0 : Nat) (x1 : Int32) (KX : String → gH → Prop) (K : Int32 → gH → Prop) : Prop :=
    ∃ v2, g_r G a0 9 5 = some v2 ∧
    ∃ v5, g_r G v2 1 2 = some v5 ∧
    ∃ v8, g_i G v5 5 0 = some v8 ∧
    w_X9_checkIndex G x1 v8 KX (fun G11 =>
    ∃ v15, g_r G11 a0 9 5 = some v15 ∧
    ∃ v18, g_r G11 v15 1 6 = some v18 ∧
    ∃ v22, g_r G11 a0 9 5 = some v22 ∧
    ∃ u25, g_ob G11 v18 8 = some u25 ∧
    ∃ q25, f_X8_lookAt G11 v18 v22 = some q25 ∧
    ∃ v29, g_r q25.1 a0 9 5 = some v29 ∧
    ∃ v32, g_r q25.1 v29 1 2 = some v32 ∧
    ∃ u36, g_ob q25.1 q25.2 8 = some u36 ∧
    ∃ v36, f_X8_filesThereBefore q25.1 q25.2 v32 x1 = some v36 ∧
    K v36 q25.1)
def w_X9_space (G : gH) (a0 : Nat) (x1 : Int32) (KX : String → gH → Prop) (K : Int32 → gH → Prop) : Prop :=
    w_X9_checkRange G x1 (0 : Int32) (4 : Int32) KX (fun G3 =>
    ∃ v7, g_r G3 a0 9 5 = some v7 ∧
    ∃ u12, g_ob G3 v7 1 = some u12 ∧
    ∃ q12, f_X1_blocksUsed G3 v7 (-1 : Int32) x1 = some q12 ∧
    K q12.2 q12.1)
def w_X9_spaceOf (G : gH) (a0 : Nat) (x1 : Int32) (x2 : Int32) (KX : String → gH → Prop) (K : Int32 → gH → Prop) : Prop :=
    ∃ v2, g_r G a0 9 5 = some v2 ∧
    ∃ v5, g_r G v2 1 2 = some v5 ∧
    ∃ v8, g_i G v5 5 0 = some v8 ∧
    w_X9_checkIndex G x1 v8 KX (fun G11 =>
    w_X9_checkRange G11 x2 (1 : Int32) (4 : Int32) KX (fun G17 =>
    ∃ v21, g_r G17 a0 9 5 = some v21 ∧
    ∃ u26, g_ob G17 v21 1 = some u26 ∧
    ∃ q26, f_X1_blocksUsed G17 v21 x1 x2 = some q26 ∧
    K q26.2 q26.1))
def w_X9_write (G : gH) (a0 : Nat) (x1 : Int32) (x2 : Int32) (x3 : Int32) (KX : String → gH → Prop) (K : Int32 → gH → Prop) : Prop :=
    ∃ v2, g_r G a0 9 5 = some v2 ∧
    ∃ v5, g_i G v2 1 3 = some v5 ∧
    w_X9_checkIndex G x1 v5 KX (fun G8 =>
    w_X9_checkRange G8 x2 (1 : Int32) (8 : Int32) KX (fun G15 =>
    w_X9_checkRange G15 x3 (0 : Int32) (999 : Int32) KX (fun G23 =>
    ∃ v27, g_r G23 a0 9 5 = some v27 ∧
    ∃ u32, g_ob G23 v27 1 = some u32 ∧
    ∃ v32, f_X1_reasonAgainstWrite G23 v27 x1 x2 = some v32 ∧
    w_X9_checkAllowed G23 v32 KX (fun G35 =>
    ∃ v39, g_r G35 a0 9 2 = some v39 ∧
    ∃ v43, g_r G35 a0 9 5 = some v43 ∧
    ∃ u46, g_ob G35 v39 2 = some u46 ∧
    w_X2_keep G35 v39 v43 (fun G46 =>
    ∃ v50, g_r G46 a0 9 5 = some v50 ∧
    ∃ u56, g_ob G46 v50 1 = some u56 ∧
    ∃ q56, f_X1_writeVersion G46 v50 x1 x2 x3 = some q56 ∧
    K q56.2 q56.1)))))
def w_X9_erase (G : gH) (a0 : Nat) (x1 : Int32) (KX : String → gH → Prop) (K : Int32 → gH → Prop) : Prop :=
    ∃ v2, g_r G a0 9 5 = some v2 ∧
    ∃ v5, g_i G v2 1 3 = some v5 ∧
    w_X9_checkIndex G x1 v5 KX (fun G8 =>
    ∃ v12, g_r G8 a0 9 5 = some v12 ∧
    ∃ u16, g_ob G8 v12 1 = some u16 ∧
    ∃ q16, f_X1_reasonAgainstErase G8 v12 x1 = some q16 ∧
    w_X9_checkAllowed q16.1 q16.2 KX (fun G19 =>
    ∃ v23, g_r G19 a0 9 2 = some v23 ∧
    ∃ v27, g_r G19 a0 9 5 = some v27 ∧
    ∃ u30, g_ob G19 v23 2 = some u30 ∧
    w_X2_keep G19 v23 v27 (fun G30 =>
    ∃ v34, g_r G30 a0 9 5 = some v34 ∧
    ∃ u38, g_ob G30 v34 1 = some u38 ∧
    ∃ G38, f_X1_eraseFile G30 v34 x1 = some G38 ∧
    ∃ v42, g_r G38 a0 9 5 = some v42 ∧
    ∃ v45, g_r G38 v42 1 6 = some v45 ∧
    ∃ v49, g_r G38 a0 9 5 = some v49 ∧
    ∃ u52, g_ob G38 v45 8 = some u52 ∧
    ∃ q52, f_X8_lookAt G38 v45 v49 = some q52 ∧
    ∃ u55, g_ob q52.1 q52.2 8 = some u55 ∧
    ∃ v55, f_X8_filesThere q52.1 q52.2 = some v55 ∧
    K v55 q52.1)))
def w_X9_close (G : gH) (a0 : Nat) (KX : String → gH → Prop) (K : Int32 → gH → Prop) : Prop :=
    ∃ v1, g_r G a0 9 5 = some v1 ∧
    ∃ u4, g_ob G v1 1 = some u4 ∧
    ∃ v4, f_X1_reasonAgainstClose G v1 = some v4 ∧
    w_X9_checkAllowed G v4 KX (fun G7 =>
    ∃ v11, g_r G7 a0 9 2 = some v11 ∧
    ∃ v15, g_r G7 a0 9 5 = some v15 ∧
    ∃ u18, g_ob G7 v11 2 = some u18 ∧
    w_X2_keep G7 v11 v15 (fun G18 =>
    ∃ v22, g_r G18 a0 9 5 = some v22 ∧
    ∃ u25, g_ob G18 v22 1 = some u25 ∧
    ∃ q25, f_X1_closeSession G18 v22 = some q25 ∧
    K q25.2 q25.1))
def w_X9_crash (G : gH) (a0 : Nat) (KX : String → gH → Prop) (K : Int32 → gH → Prop) : Prop :=
    ∃ v1, g_r G a0 9 5 = some v1 ∧
    ∃ u4, g_ob G v1 1 = some u4 ∧
    ∃ v4, f_X1_reasonAgainstCrash G v1 = some v4 ∧
    w_X9_checkAllowed G v4 KX (fun G7 =>
    ∃ v11, g_r G7 a0 9 2 = some v11 ∧
    ∃ v15, g_r G7 a0 9 5 = some v15 ∧
    ∃ u18, g_ob G7 v11 2 = some u18 ∧
    w_X2_keep G7 v11 v15 (fun G18 =>
    ∃ v22, g_r G18 a0 9 5 = some v22 ∧
    ∃ u25, g_ob G18 v22 1 = some u25 ∧
    ∃ q25, f_X1_loseSession G18 v22 = some q25 ∧
    K q25.2 q25.1))
def w_X9_recover (G : gH) (a0 : Nat) (KX : String → gH → Prop) (K : Int32 → gH → Prop) : Prop :=
    ∃ v1, g_r G a0 9 5 = some v1 ∧
    ∃ u4, g_ob G v1 1 = some u4 ∧
    ∃ v4, f_X1_reasonAgainstRecover G v1 = some v4 ∧
    w_X9_checkAllowed G v4 KX (fun G7 =>
    ∃ v11, g_r G7 a0 9 2 = some v11 ∧
    ∃ v15, g_r G7 a0 9 5 = some v15 ∧
    ∃ u18, g_ob G7 v11 2 = some u18 ∧
    w_X2_keep G7 v11 v15 (fun G18 =>
    ∃ v22, g_r G18 a0 9 5 = some v22 ∧
    ∃ u25, g_ob G18 v22 1 = some u25 ∧
    ∃ q25, f_X1_recoverSession G18 v22 = some q25 ∧
    K q25.2 q25.1))
def w_X9_scratch (G : gH) (a0 : Nat) (x1 : Int32) (KX : String → gH → Prop) (K : Int32 → gH → Prop) : Prop :=
    ∃ v2, g_r G a0 9 5 = some v2 ∧
    ∃ v5, g_r G v2 1 0 = some v5 ∧
    ∃ v8, g_i G v5 0 0 = some v8 ∧
    w_X9_checkIndex G x1 v8 KX (fun G11 =>
    ∃ v15, g_r G11 a0 9 2 = some v15 ∧
    ∃ v19, g_r G11 a0 9 5 = some v19 ∧
    ∃ u22, g_ob G11 v15 2 = some u22 ∧
    w_X2_keep G11 v15 v19 (fun G22 =>
    ∃ v26, g_r G22 a0 9 5 = some v26 ∧
    ∃ v29, g_r G22 v26 1 0 = some v29 ∧
    ∃ u33, g_ob G22 v29 0 = some u33 ∧
    ∃ q33, f_X0_damage G22 v29 x1 = some q33 ∧
    ∃ w36, g_z q33.2 = some w36 ∧
    K w36 q33.1))
def w_X9_setScan (G : gH) (a0 : Nat) (x1 : Int32) (K : Int32 → gH → Prop) : Prop :=
    ∃ v1, g_r G a0 9 2 = some v1 ∧
    ∃ v5, g_r G a0 9 5 = some v5 ∧
    ∃ u8, g_ob G v1 2 = some u8 ∧
    w_X2_keep G v1 v5 (fun G8 =>
    ∃ v12, g_r G8 a0 9 5 = some v12 ∧
    ∃ v15, g_i G8 v12 1 5 = some v15 ∧
    ∃ v20, g_r G8 a0 9 5 = some v20 ∧
    ∃ w24, g_z x1 = some w24 ∧
    ∃ G24, g_put G8 v20 1 5 (.int w24) = some G24 ∧
    ∃ w28, g_z v15 = some w28 ∧
    K w28 G24)
def w_X9_undo (G : gH) (a0 : Nat) (K : Int32 → gH → Prop) : Prop :=
    ∃ v1, g_r G a0 9 2 = some v1 ∧
    ∃ v5, g_r G a0 9 5 = some v5 ∧
    ∃ u8, g_ob G v1 2 = some u8 ∧
    w_X2_bringBack G v1 v5 (fun v8 G8 =>
    if v8 = 0 then
    K (-1 : Int32) G8
    else
    ∃ v15, g_r G8 a0 9 2 = some v15 ∧
    ∃ v18, g_i G8 v15 2 0 = some v18 ∧
    K v18 G8)
def w_X9_saveSnapshot (G : gH) (a0 : Nat) (x1 : Int32) (KX : String → gH → Prop) (K : Int32 → gH → Prop) : Prop :=
    w_X9_checkIndex G x1 (2 : Int32) KX (fun G2 =>
    ∃ v6, g_r G2 a0 9 3 = some v6 ∧
    ∃ u10, g_ob G2 v6 6 = some u10 ∧
    ∃ v10, f_X6_isStored G2 v6 x1 = some v10 ∧
    ∃ v15, g_r G2 a0 9 3 = some v15 ∧
    ∃ v20, g_r G2 a0 9 5 = some v20 ∧
    ∃ u23, g_ob G2 v15 6 = some u23 ∧
    w_X6_store G2 v15 x1 v20 (fun G23 =>
    ∃ w27, g_z v10 = some w27 ∧
    K w27 G23))
end
section
/-! Pure level: whole numbers for the machine's, and the world as a function of rows of numbers. -/
def zI (z : Int) : Int32 := Int32.ofInt z
def zJ (z : Int) : Int64 := Int64.ofInt z
def zb (b : Bool) : Int := if b then 1 else 0
theorem zI_add (a b : Int) : zI a + zI b = zI (a + b) := (Int32.ofInt_add a b).symm
theorem zI_sub (a b : Int) : zI a - zI b = zI (a - b) := (Int32.ofInt_sub a b).symm
theorem zI_mul (a b : Int) : zI a * zI b = zI (a * b) := (Int32.ofInt_mul a b).symm
theorem zI_toInt {a : Int} (h : -2147483648 ≤ a) (h2 : a < 2147483648) : (zI a).toInt = a := Int32.toInt_ofInt_of_le (by omega) (by omega)
theorem zI_of (x : Int32) : zI x.toInt = x := Int32.ofInt_toInt x
theorem zI_lt {a b : Int} (h : -2147483648 ≤ a) (h2 : a < 2147483648) (h3 : -2147483648 ≤ b) (h4 : b < 2147483648) : (zI a < zI b) = (a < b) := by
  rw [Int32.lt_iff_toInt_lt, zI_toInt h h2, zI_toInt h3 h4]
theorem zI_le {a b : Int} (h : -2147483648 ≤ a) (h2 : a < 2147483648) (h3 : -2147483648 ≤ b) (h4 : b < 2147483648) : (zI a ≤ zI b) = (a ≤ b) := by
  rw [Int32.le_iff_toInt_le, zI_toInt h h2, zI_toInt h3 h4]
theorem zI_eq {a b : Int} (h : -2147483648 ≤ a) (h2 : a < 2147483648) (h3 : -2147483648 ≤ b) (h4 : b < 2147483648) : (zI a = zI b) = (a = b) := by
  rw [← Int32.toInt_inj, zI_toInt h h2, zI_toInt h3 h4]
theorem zI_nat {a : Int} (h : -2147483648 ≤ a) (h2 : a < 2147483648) : (zI a).toNatClampNeg = a.toNat := Int32.toNatClampNeg_ofInt_of_le (by omega) (by omega)
theorem zI_mn : Int32.minValue.toInt = -2147483648 := by decide
theorem zI_mx : Int32.maxValue.toInt = 2147483647 := by decide
theorem zI_div {a b : Int} (h : -2147483648 ≤ a) (h2 : a < 2147483648) (h3 : -2147483648 ≤ b) (h4 : b < 2147483648) : zI a / zI b = zI (a.tdiv b) := (Int32.ofInt_tdiv (by rw [zI_mn]; omega) (by rw [zI_mx]; omega) (by rw [zI_mn]; omega) (by rw [zI_mx]; omega)).symm
theorem zI_mod {a b : Int} (h : -2147483648 ≤ a) (h2 : a < 2147483648) (h3 : -2147483648 ≤ b) (h4 : b < 2147483648) : zI a % zI b = zI (a.tmod b) := (Int32.ofInt_tmod (by rw [zI_mn]; omega) (by rw [zI_mx]; omega) (by rw [zI_mn]; omega) (by rw [zI_mx]; omega)).symm
theorem zI_rng (x : Int32) : -2147483648 ≤ x.toInt ∧ x.toInt < 2147483648 := ⟨by have := x.le_toInt; omega, by have := x.toInt_lt; omega⟩
theorem zI_ofNat (n : Nat) : Int32.ofNat n = zI n := by unfold zI; rw [Int32.ofInt_eq_ofNat]
theorem zI_nI (n : Nat) : nI n = zI n := zI_ofNat n
theorem zJ_add (a b : Int) : zJ a + zJ b = zJ (a + b) := (Int64.ofInt_add a b).symm
theorem zJ_mul (a b : Int) : zJ a * zJ b = zJ (a * b) := (Int64.ofInt_mul a b).symm
theorem zJ_toInt {a : Int} (h : -9223372036854775808 ≤ a) (h2 : a < 9223372036854775808) : (zJ a).toInt = a := Int64.toInt_ofInt_of_le (by omega) (by omega)
theorem zJ_eq {a b : Int} (h : -9223372036854775808 ≤ a) (h2 : a < 9223372036854775808) (h3 : -9223372036854775808 ≤ b) (h4 : b < 9223372036854775808) : (zJ a = zJ b) = (a = b) := by
  rw [← Int64.toInt_inj, zJ_toInt h h2, zJ_toInt h3 h4]
theorem zJ_of (x : Int64) : zJ x.toInt = x := Int64.ofInt_toInt x
theorem zJ_I {a : Int} (h : -2147483648 ≤ a) (h2 : a < 2147483648) : (zI a).toInt64 = zJ a := by
  rw [← Int64.toInt_inj, Int32.toInt_toInt64, zI_toInt h h2, zJ_toInt (by omega) (by omega)]
theorem lg_cmp0 (x y : Int64) : (lg_cmp x y = 0) = (x = y) := by
  unfold lg_cmp
  by_cases h : x = y
  · subst h
    have h1 : ¬ (x > x) := by
      intro h
      rw [gt_iff_lt, Int64.lt_iff_toInt_lt] at h
      omega
    simp [h1]
  · by_cases h2 : x > y
    · simp [h, h2]
    · simp [h, h2]
theorem z_ite_zI (c : Prop) [Decidable c] (a b : Int) : (if c then zI a else zI b) = zI (if c then a else b) := by split <;> rfl
theorem zz_lit : ((0 : Int32) = zI 0) ∧ ((1 : Int32) = zI 1) ∧ ((2 : Int32) = zI 2) ∧ ((3 : Int32) = zI 3) ∧ ((4 : Int32) = zI 4) ∧ ((5 : Int32) = zI 5) ∧ ((6 : Int32) = zI 6) ∧ ((7 : Int32) = zI 7) ∧ ((8 : Int32) = zI 8) ∧ ((9 : Int32) = zI 9) ∧ ((10 : Int32) = zI 10) ∧ ((11 : Int32) = zI 11) ∧ ((12 : Int32) = zI 12) ∧ ((16 : Int32) = zI 16) ∧ ((20 : Int32) = zI 20) ∧ ((24 : Int32) = zI 24) ∧ ((25 : Int32) = zI 25) ∧ ((32 : Int32) = zI 32) ∧ ((48 : Int32) = zI 48) ∧ ((57 : Int32) = zI 57) ∧ ((59 : Int32) = zI 59) ∧ ((96 : Int32) = zI 96) ∧ ((120 : Int32) = zI 120) ∧ ((97 : Int32) = zI 97) ∧ ((103 : Int32) = zI 103) ∧ ((122 : Int32) = zI 122) ∧ ((199 : Int32) = zI 199) ∧ ((255 : Int32) = zI 255) ∧ ((295 : Int32) = zI 295) ∧ ((391 : Int32) = zI 391) ∧ ((487 : Int32) = zI 487) ∧ ((583 : Int32) = zI 583) ∧ ((600 : Int32) = zI 600) ∧ ((679 : Int32) = zI 679) ∧ ((775 : Int32) = zI 775) ∧ ((999 : Int32) = zI 999) ∧ ((1255 : Int32) = zI 1255) ∧ ((1555 : Int32) = zI 1555) ∧ ((-1 : Int32) = zI (-1)) ∧ ((-8 : Int32) = zI (-8)) ∧ ((-2 : Int32) = zI (-2)) := by
  refine ⟨rfl, rfl, rfl, rfl, rfl, rfl, rfl, rfl, rfl, rfl, rfl, rfl, rfl, rfl, rfl, rfl, rfl, rfl, rfl, rfl, rfl, rfl, rfl, rfl, rfl, rfl, rfl, rfl, rfl, rfl, rfl, rfl, rfl, rfl, rfl, rfl, rfl, rfl, rfl, rfl, rfl⟩
theorem zI_neg (a : Int) : -zI a = zI (-a) := Int32.neg_ofInt
theorem zz_num : (∀ a : Int, -zI a = zI (-a)) ∧ (∀ a b : Int, zI a + zI b = zI (a + b)) ∧ (∀ a b : Int, zI a - zI b = zI (a - b)) ∧ (∀ a b : Int, zI a * zI b = zI (a * b)) := ⟨zI_neg, zI_add, zI_sub, zI_mul⟩
theorem zz_some {α β : Type} (a : α) (f : α → Option β) : (some a).bind f = f a := (fun h : (some a).bind f = f a => h) rfl
/-! The world: a cell is (kind, which one, which cell of it); a row of numbers each. -/
abbrev zW : Type := Nat → Nat → Nat → Int → Int
abbrev zE : Type := (Nat → Nat × Nat × Nat) × (Nat → Nat → Bool) × (Nat → Nat → Nat → Nat)
def zO (E : zE) (q : Nat) : Nat × Nat × Nat := E.1 q
def zU (E : zE) (k d : Nat) : Bool := E.2.1 k d
def zL (E : zE) (k d c : Nat) : Nat := E.2.2 k d c
def zA (k c : Nat) : Option (Nat × Nat) := match k, c with
  | 0, 2 => some (0, 96)
  | 0, 3 => some (1, 96)
  | 0, 4 => some (1, 96)
  | 0, 5 => some (0, 96)
  | 0, 6 => some (0, 96)
  | 0, 7 => some (0, 96)
  | 0, 8 => some (0, 96)
  | 0, 9 => some (0, 96)
  | 0, 11 => some (0, 96)
  | 0, 12 => some (0, 96)
  | 0, 13 => some (0, 96)
  | 0, 14 => some (0, 96)
  | 0, 15 => some (0, 96)
  | 0, 17 => some (0, 12)
  | 0, 18 => some (0, 12)
  | 0, 19 => some (0, 12)
  | 0, 20 => some (0, 12)
  | 0, 21 => some (0, 120)
  | 0, 22 => some (0, 120)
  | 0, 23 => some (3, 10)
  | 0, 24 => some (0, 12)
  | 1, 1 => some (1, 12)
  | 1, 2 => some (0, 10)
  | 1, 3 => some (0, 10)
  | 1, 4 => some (1, 10)
  | 2, 2 => some (0, 600)
  | 2, 5 => some (4, 10)
  | 2, 7 => some (1, 2)
  | 2, 8 => some (4, 2)
  | 2, 9 => some (3, 10)
  | 2, 10 => some (0, 120)
  | 2, 11 => some (0, 120)
  | 2, 12 => some (0, 120)
  | 2, 13 => some (0, 120)
  | 2, 14 => some (0, 120)
  | 2, 15 => some (1, 96)
  | 2, 17 => some (0, 600)
  | 2, 18 => some (0, 600)
  | 2, 19 => some (3, 600)
  | 3, 1 => some (0, 1555)
  | 3, 2 => some (3, 10)
  | 3, 3 => some (2, 600)
  | 3, 14 => some (0, 1555)
  | 3, 15 => some (3, 10)
  | 3, 17 => some (0, 12)
  | 3, 21 => some (0, 10)
  | 3, 23 => some (1, 96)
  | 3, 25 => some (0, 15550)
  | 3, 26 => some (0, 3110)
  | 3, 27 => some (1, 2)
  | 4, 0 => some (3, 1)
  | _, _ => none
def zB (E : zE) (k d c : Nat) (r : Int → Int) : Option (Nat × List Value) := match k, c with
  | 0, 0 => some (1, [.ref (zL E 0 d 1), .ref (zL E 0 d 10), .ref (zL E 0 d 16), .int (zI (r 3)), .ref (zL E 0 d 23), .int (zI (r 5)), .ref (zL E 1 d 0)])
  | 0, 1 => some (0, [.int (zI (r 0)), .int (zI (r 1)), .int (zI (r 2)), .ref (zL E 0 d 2), .ref (zL E 0 d 3), .ref (zL E 0 d 4), .ref (zL E 0 d 5), .ref (zL E 0 d 6), .ref (zL E 0 d 7), .ref (zL E 0 d 8), .ref (zL E 0 d 9)])
  | 0, 10 => some (7, [.int (zI (r 0)), .ref (zL E 0 d 11), .ref (zL E 0 d 12), .ref (zL E 0 d 13), .ref (zL E 0 d 14), .ref (zL E 0 d 15)])
  | 0, 16 => some (5, [.int (zI (r 0)), .ref (zL E 0 d 17), .ref (zL E 0 d 18), .ref (zL E 0 d 19), .ref (zL E 0 d 24), .ref (zL E 0 d 20), .ref (zL E 0 d 21), .ref (zL E 0 d 22)])
  | 1, 0 => some (8, [.int (zI (r 0)), .ref (zL E 1 d 1), .ref (zL E 1 d 2), .ref (zL E 1 d 3), .ref (zL E 1 d 4)])
  | 2, 0 => some (9, [.ref (zL E 2 d 1), .ref (zL E 2 d 3), .ref (zL E 2 d 4), .ref (zL E 2 d 6), .ref (zL E 1 14 0), .ref (zL E 0 (r 5).toNat 0), .ref (zL E 0 (r 6).toNat 0)])
  | 2, 1 => some (3, [.ref (zL E 2 d 2), .int (zI (r 1))])
  | 2, 3 => some (4, [.int (zI (r 0)), .int (zI (r 1)), .int (zI (r 2)), .int (zI (r 3)), .int (zI (r 4)), .ref (zL E 2 d 9), .int (zI (r 6)), .ref (zL E 2 d 10), .ref (zL E 2 d 11), .ref (zL E 2 d 12), .ref (zL E 2 d 13), .ref (zL E 2 d 14), .ref (zL E 2 d 15), .ref (zL E 2 d 16), .int (zI (r 14))])
  | 2, 4 => some (2, [.int (zI (r 0)), .int (zI (r 1)), .ref (zL E 2 d 5)])
  | 2, 6 => some (6, [.ref (zL E 2 d 7), .ref (zL E 2 d 8)])
  | 2, 16 => some (11, [.int (zI (r 0)), .int (zI (r 1)), .ref (zL E 2 d 17), .ref (zL E 2 d 18), .ref (zL E 2 d 19)])
  | 3, 0 => some (10, [.int (zI (r 0)), .ref (zL E 3 d 1), .ref (zL E 3 d 2), .ref (zL E 3 d 3), .int (zI (r 4)), .int (zI (r 5)), .int (zI (r 6)), .int (zI (r 7)), .int (zI (r 8)), .int (zI (r 9)), .long (zJ (r 10)), .int (zI (r 11)), .int (zI (r 12)), .int (zI (r 13)), .ref (zL E 3 d 14), .ref (zL E 3 d 15), .int (zI (r 16)), .ref (zL E 3 d 17), .int (zI (r 18)), .int (zI (r 19)), .int (zI (r 20)), .ref (zL E 3 d 21), .int (zI (r 22)), .ref (zL E 3 d 23), .int (zI (r 24)), .ref (zL E 3 d 25), .ref (zL E 3 d 26), .ref (zL E 3 d 27)])
  | _, _ => none
def zk (k c : Nat) : Bool := (zA k c).isSome || (zB (fun _ => (0, 0, 0), fun _ _ => false, fun _ _ _ => 0) k 0 c (fun _ => 0)).isSome
def zg (E : zE) (t n : Nat) (r : Int → Int) : gE := match t with
  | 0 => .inl (0, n, fun j => zI (r j))
  | 1 => .inl (1, n, fun j => zI (r j))
  | 2 => .inl (2, n, fun j => zI (r j))
  | 3 => .inr (.inl (n, fun j => zJ (r j)))
  | _ => .inr (.inr (.inl (n, fun j => if r j = 0 then none else some (zL E 0 (r j - 1).toNat 0))))
def zC (E : zE) (k d c : Nat) (r : Int → Int) : Option gE := match zA k c with
  | some (t, n) => some (zg E t n r)
  | none => (zB E k d c r).map fun p => .inr (.inr (.inr p))
def zH (E : zE) (σ : zW) : gH := fun q => if zU E (zO E q).1 (zO E q).2.1 = true then zC E (zO E q).1 (zO E q).2.1 (zO E q).2.2 (σ (zO E q).1 (zO E q).2.1 (zO E q).2.2) else none
def zWF (E : zE) : Prop := ∀ k d c, zU E k d = true → zk k c = true → ∀ q, zO E q = (k, d, c) ↔ q = zL E k d c
def zr (σ : zW) (k d c : Nat) (r : Int → Int) : zW := fun k' d' c' => if k' = k ∧ d' = d ∧ c' = c then r else σ k' d' c'
def zs (σ : zW) (k d c : Nat) (i v : Int) : zW := fun k' d' c' i' => if k' = k ∧ d' = d ∧ c' = c ∧ i' = i then v else σ k' d' c' i'
theorem zs_r (σ : zW) (k d c : Nat) (i v : Int) : zr σ k d c (fun i' => if i' = i then v else σ k d c i') = zs σ k d c i v := by
  funext k' d' c' i'
  unfold zr zs
  by_cases h : k' = k ∧ d' = d ∧ c' = c
  · obtain ⟨rfl, rfl, rfl⟩ := h
    simp
  · rw [if_neg h, if_neg (fun z => h ⟨z.1, z.2.1, z.2.2.1⟩)]
section zH
variable {E : zE} {σ : zW} {k d c : Nat}
theorem zH_at (hW : zWF E) (hu : zU E k d = true) (hk : zk k c = true) : zH E σ (zL E k d c) = zC E k d c (σ k d c) := by
  have h : zO E (zL E k d c) = (k, d, c) := (hW k d c hu hk _).mpr rfl
  simp only [zH, h, hu, if_true]
theorem zH_up (hW : zWF E) (hu : zU E k d = true) (hk : zk k c = true) {e : gE} {r : Int → Int} (he : zC E k d c r = some e) : va_up (zH E σ) (zL E k d c) (some e) = zH E (zr σ k d c r) := by
  funext q
  by_cases h : q = zL E k d c
  · subst h
    rw [zH_at hW hu hk]
    simp [va_up, zr, he]
  · have h2 : ¬ ((zO E q).1 = k ∧ (zO E q).2.1 = d ∧ (zO E q).2.2 = c) := fun z => h ((hW k d c hu hk q).mp (by rw [← z.1, ← z.2.1, ← z.2.2]))
    simp only [va_up, if_neg h, zH, zr, if_neg h2]
theorem zV {r : Nat × List Value} (hW : zWF E) (hu : zU E k d = true) (hk : zk k c = true) (ha : zA k c = none) (hb : zB E k d c (σ k d c) = some r) (f : Nat) : g_V (zH E σ) (zL E k d c) r.1 f = r.2[f]? := by
  unfold g_V
  rw [zH_at hW hu hk]
  unfold zC
  rw [ha, hb]
  simp
theorem zPut {ci : Nat} {fs fs' : List Value} {r : Int → Int} (hW : zWF E) (hu : zU E k d = true) (hk : zk k c = true) (ha : zA k c = none) (hb : zB E k d c (σ k d c) = some (ci, fs)) {f : Nat} {v : Value} (hf : f < fs.length) (hs : fs.set f v = fs') (hb2 : zB E k d c r = some (ci, fs')) : g_put (zH E σ) (zL E k d c) ci f v = some (zH E (zr σ k d c r)) := by
  subst hs
  unfold g_put
  rw [zH_at hW hu hk]
  have h1 : zC E k d c (σ k d c) = some (.inr (.inr (.inr (ci, fs)))) := by unfold zC; rw [ha, hb]; rfl
  have h2 : zC E k d c r = some (.inr (.inr (.inr (ci, fs.set f v)))) := by unfold zC; rw [ha, hb2]; rfl
  rw [h1]
  simp only [hf, and_self, if_true]
  rw [zH_up hW hu hk h2]
theorem zOb {ci : Nat} {fs : List Value} (hW : zWF E) (hu : zU E k d = true) (hk : zk k c = true) (ha : zA k c = none) (hb : zB E k d c (σ k d c) = some (ci, fs)) : g_ob (zH E σ) (zL E k d c) ci = some () := by
  unfold g_ob
  rw [zH_at hW hu hk]
  unfold zC
  rw [ha, hb]
  simp
theorem zAt {t n : Nat} (hW : zWF E) (hu : zU E k d = true) (ha : zA k c = some (t, n)) : zH E σ (zL E k d c) = some (zg E t n (σ k d c)) := by
  rw [zH_at hW hu (by unfold zk; rw [ha]; rfl)]
  unfold zC
  rw [ha]
theorem zUp {t n : Nat} {r : Int → Int} (hW : zWF E) (hu : zU E k d = true) (ha : zA k c = some (t, n)) : va_up (zH E σ) (zL E k d c) (some (zg E t n r)) = zH E (zr σ k d c r) := by
  refine zH_up hW hu (by unfold zk; rw [ha]; rfl) ?_
  unfold zC
  rw [ha]
theorem zIn {n : Nat} {i : Int} (h0 : 0 ≤ i) (h1 : i < n) (hn : n < 2147483648) : ¬ (zI i < 0 ∨ n ≤ (zI i).toNatClampNeg) := by
  rw [show (0 : Int32) = zI 0 from rfl, zI_lt (by omega) (by omega) (by omega) (by omega), zI_nat (by omega) (by omega)]
  omega
theorem zAld {t n : Nat} (hW : zWF E) (hu : zU E k d = true) (ha : zA k c = some (t, n)) (ht : t < 3) (hn : n < 2147483648) {i : Int} (h0 : 0 ≤ i) (h1 : i < n) : g_ald t (zH E σ) (zL E k d c) (zI i) = some (zI (σ k d c i)) := by
  have h2 := zIn h0 h1 hn
  unfold g_ald
  rw [zAt hW hu ha]
  have h3 : (zI i).toNatClampNeg = i.toNat := zI_nat (by omega) (by omega)
  rw [h3] at h2
  rcases (by omega : t = 0 ∨ t = 1 ∨ t = 2) with rfl | rfl | rfl <;> simp only [zg, h2, not_false_eq_true, and_self, if_true, h3, Int.toNat_of_nonneg h0]
theorem zAst {t n : Nat} (hW : zWF E) (hu : zU E k d = true) (ha : zA k c = some (t, n)) (ht : t < 3) (hn : n < 2147483648) {i v : Int} (h0 : 0 ≤ i) (h1 : i < n) (hv : g_nar t (zI v) = zI v) : g_ast t (zH E σ) (zL E k d c) (zI i) (zI v) = some (zH E (zs σ k d c i v)) := by
  have h2 := zIn h0 h1 hn
  have h3 : (zI i).toNatClampNeg = i.toNat := zI_nat (by omega) (by omega)
  rw [h3] at h2
  have h4 : ∀ j : Nat, (upd (fun j : Nat => zI (σ k d c j)) i.toNat (zI v)) j = zI ((fun i' => if i' = i then v else σ k d c i') (j : Int)) := by
    intro j
    unfold upd
    by_cases hj : j = i.toNat
    · subst hj
      simp [Int.toNat_of_nonneg h0]
    · rw [if_neg hj]
      show _ = zI (if (j : Int) = i then v else σ k d c j)
      rw [if_neg (by omega)]
  unfold g_ast
  rw [zAt hW hu ha, ← zs_r, ← zUp hW hu ha]
  rcases (by omega : t = 0 ∨ t = 1 ∨ t = 2) with rfl | rfl | rfl <;> simp only [zg, h2, not_false_eq_true, and_self, if_true, h3, hv, funext h4]
theorem zLald {n : Nat} (hW : zWF E) (hu : zU E k d = true) (ha : zA k c = some (3, n)) (hn : n < 2147483648) {i : Int} (h0 : 0 ≤ i) (h1 : i < n) : g_lald (zH E σ) (zL E k d c) (zI i) = some (zJ (σ k d c i)) := by
  have h2 := zIn h0 h1 hn
  have h3 : (zI i).toNatClampNeg = i.toNat := zI_nat (by omega) (by omega)
  rw [h3] at h2
  unfold g_lald
  rw [zAt hW hu ha]
  simp only [zg, h2, not_false_eq_true, if_true, h3, Int.toNat_of_nonneg h0]
theorem zLast {n : Nat} (hW : zWF E) (hu : zU E k d = true) (ha : zA k c = some (3, n)) (hn : n < 2147483648) {i v : Int} (h0 : 0 ≤ i) (h1 : i < n) : g_last (zH E σ) (zL E k d c) (zI i) (zJ v) = some (zH E (zs σ k d c i v)) := by
  have h2 := zIn h0 h1 hn
  have h3 : (zI i).toNatClampNeg = i.toNat := zI_nat (by omega) (by omega)
  rw [h3] at h2
  have h4 : ∀ j : Nat, (vp_updL (fun j : Nat => zJ (σ k d c j)) i.toNat (zJ v)) j = zJ ((fun i' => if i' = i then v else σ k d c i') (j : Int)) := by
    intro j
    unfold vp_updL
    by_cases hj : j = i.toNat
    · subst hj
      simp [Int.toNat_of_nonneg h0]
    · rw [if_neg hj]
      show _ = zJ (if (j : Int) = i then v else σ k d c j)
      rw [if_neg (by omega)]
  unfold g_last
  rw [zAt hW hu ha, ← zs_r, ← zUp hW hu ha]
  simp only [zg, h2, not_false_eq_true, if_true, h3, funext h4]
theorem zQald {n : Nat} (hW : zWF E) (hu : zU E k d = true) (ha : zA k c = some (4, n)) (hn : n < 2147483648) {i : Int} (h0 : 0 ≤ i) (h1 : i < n) : g_qald (zH E σ) (zL E k d c) (zI i) = some (if σ k d c i = 0 then none else some (zL E 0 (σ k d c i - 1).toNat 0)) := by
  have h2 := zIn h0 h1 hn
  have h3 : (zI i).toNatClampNeg = i.toNat := zI_nat (by omega) (by omega)
  rw [h3] at h2
  unfold g_qald
  rw [zAt hW hu ha]
  simp only [zg, h2, not_false_eq_true, if_true, h3, Int.toNat_of_nonneg h0]
theorem zLen {t n : Nat} (hW : zWF E) (hu : zU E k d = true) (ha : zA k c = some (t, n)) : g_len (zH E σ) (zL E k d c) = some (zI n) := by
  unfold g_len
  rw [zAt hW hu ha]
  match t with
  | 0 => simp [zg, zI_ofNat]
  | 1 => simp [zg, zI_ofNat]
  | 2 => simp [zg, zI_ofNat]
  | 3 => simp [zg, zI_ofNat]
  | t + 4 => simp [zg, zI_ofNat]
theorem g_nar0 (x : Int32) : g_nar 0 x = x := rfl
theorem g_nar1 (b : Bool) : g_nar 1 (zI (zb b)) = zI (zb b) := by cases b <;> rfl
theorem g_nar10 : g_nar 1 (zI 0) = zI 0 := rfl
theorem g_nar11 : g_nar 1 (zI 1) = zI 1 := rfl
theorem g_zb (b : Bool) : g_z (zI (zb b)) = some (zI (zb b)) := by cases b <;> rfl
theorem g_z0 : g_z (zI 0) = some (zI 0) := rfl
theorem g_z1 : g_z (zI 1) = some (zI 1) := rfl

theorem zg_dc0 (hW : zWF E) (hu : zU E 0 d = true) : (g_r (zH E σ) (zL E 0 d 0) 1 0 = some (zL E 0 d 1)) := by unfold g_r; rw [show g_V (zH E σ) (zL E 0 d 0) 1 0 = _ from (zV (E := E) (σ := σ) (k := 0) (d := d) (c := 0) hW hu rfl rfl rfl 0)]; rfl
theorem zg_dc1 (hW : zWF E) (hu : zU E 0 d = true) : (g_r (zH E σ) (zL E 0 d 0) 1 1 = some (zL E 0 d 10)) := by unfold g_r; rw [show g_V (zH E σ) (zL E 0 d 0) 1 1 = _ from (zV (E := E) (σ := σ) (k := 0) (d := d) (c := 0) hW hu rfl rfl rfl 1)]; rfl
theorem zg_dc2 (hW : zWF E) (hu : zU E 0 d = true) : (g_r (zH E σ) (zL E 0 d 0) 1 2 = some (zL E 0 d 16)) := by unfold g_r; rw [show g_V (zH E σ) (zL E 0 d 0) 1 2 = _ from (zV (E := E) (σ := σ) (k := 0) (d := d) (c := 0) hW hu rfl rfl rfl 2)]; rfl
theorem zg_dc3 (hW : zWF E) (hu : zU E 0 d = true) : (g_i (zH E σ) (zL E 0 d 0) 1 3 = some (zI (σ 0 d 0 3))) := by unfold g_i; rw [show g_V (zH E σ) (zL E 0 d 0) 1 3 = _ from (zV (E := E) (σ := σ) (k := 0) (d := d) (c := 0) hW hu rfl rfl rfl 3)]; rfl
theorem zp_dc3 (hW : zWF E) (hu : zU E 0 d = true) : (∀ v : Int, g_put (zH E σ) (zL E 0 d 0) 1 3 (.int (zI v)) = some (zH E (zs σ 0 d 0 3 v))) := fun v => by rw [← zs_r]; exact zPut hW hu rfl rfl rfl (by simp) rfl rfl
theorem zg_dc4 (hW : zWF E) (hu : zU E 0 d = true) : (g_r (zH E σ) (zL E 0 d 0) 1 4 = some (zL E 0 d 23)) := by unfold g_r; rw [show g_V (zH E σ) (zL E 0 d 0) 1 4 = _ from (zV (E := E) (σ := σ) (k := 0) (d := d) (c := 0) hW hu rfl rfl rfl 4)]; rfl
theorem zg_dc5 (hW : zWF E) (hu : zU E 0 d = true) : (g_i (zH E σ) (zL E 0 d 0) 1 5 = some (zI (σ 0 d 0 5))) := by unfold g_i; rw [show g_V (zH E σ) (zL E 0 d 0) 1 5 = _ from (zV (E := E) (σ := σ) (k := 0) (d := d) (c := 0) hW hu rfl rfl rfl 5)]; rfl
theorem zp_dc5 (hW : zWF E) (hu : zU E 0 d = true) : (∀ v : Int, g_put (zH E σ) (zL E 0 d 0) 1 5 (.int (zI v)) = some (zH E (zs σ 0 d 0 5 v))) := fun v => by rw [← zs_r]; exact zPut hW hu rfl rfl rfl (by simp) rfl rfl
theorem zg_dc6 (hW : zWF E) (hu : zU E 0 d = true) : (g_r (zH E σ) (zL E 0 d 0) 1 6 = some (zL E 1 d 0)) := by unfold g_r; rw [show g_V (zH E σ) (zL E 0 d 0) 1 6 = _ from (zV (E := E) (σ := σ) (k := 0) (d := d) (c := 0) hW hu rfl rfl rfl 6)]; rfl
set_option maxRecDepth 20000 in
theorem zz_dco (hW : zWF E) (hu : zU E 0 d = true) : (g_r (zH E σ) (zL E 0 d 0) 1 0 = some (zL E 0 d 1)) ∧ (g_r (zH E σ) (zL E 0 d 0) 1 1 = some (zL E 0 d 10)) ∧ (g_r (zH E σ) (zL E 0 d 0) 1 2 = some (zL E 0 d 16)) ∧ (g_r (zH E σ) (zL E 0 d 0) 1 4 = some (zL E 0 d 23)) ∧ (g_r (zH E σ) (zL E 0 d 0) 1 6 = some (zL E 1 d 0)) ∧ (g_ob (zH E σ) (zL E 0 d 0) 1 = some ()) := by
  refine ⟨?_, ?_, ?_, ?_, ?_, ?_⟩
  · exact by unfold g_r; rw [show g_V (zH E σ) (zL E 0 d 0) 1 0 = _ from (zV (E := E) (σ := σ) (k := 0) (d := d) (c := 0) hW hu rfl rfl rfl 0)]; rfl
  · exact by unfold g_r; rw [show g_V (zH E σ) (zL E 0 d 0) 1 1 = _ from (zV (E := E) (σ := σ) (k := 0) (d := d) (c := 0) hW hu rfl rfl rfl 1)]; rfl
  · exact by unfold g_r; rw [show g_V (zH E σ) (zL E 0 d 0) 1 2 = _ from (zV (E := E) (σ := σ) (k := 0) (d := d) (c := 0) hW hu rfl rfl rfl 2)]; rfl
  · exact by unfold g_r; rw [show g_V (zH E σ) (zL E 0 d 0) 1 4 = _ from (zV (E := E) (σ := σ) (k := 0) (d := d) (c := 0) hW hu rfl rfl rfl 4)]; rfl
  · exact by unfold g_r; rw [show g_V (zH E σ) (zL E 0 d 0) 1 6 = _ from (zV (E := E) (σ := σ) (k := 0) (d := d) (c := 0) hW hu rfl rfl rfl 6)]; rfl
  · exact zOb hW hu rfl rfl rfl
set_option maxRecDepth 20000 in
theorem zz_dc (hW : zWF E) (hu : zU E 0 d = true) : (g_r (zH E σ) (zL E 0 d 0) 1 0 = some (zL E 0 d 1)) ∧ (g_r (zH E σ) (zL E 0 d 0) 1 1 = some (zL E 0 d 10)) ∧ (g_r (zH E σ) (zL E 0 d 0) 1 2 = some (zL E 0 d 16)) ∧ (g_i (zH E σ) (zL E 0 d 0) 1 3 = some (zI (σ 0 d 0 3))) ∧ (∀ v : Int, g_put (zH E σ) (zL E 0 d 0) 1 3 (.int (zI v)) = some (zH E (zs σ 0 d 0 3 v))) ∧ (g_r (zH E σ) (zL E 0 d 0) 1 4 = some (zL E 0 d 23)) ∧ (g_i (zH E σ) (zL E 0 d 0) 1 5 = some (zI (σ 0 d 0 5))) ∧ (∀ v : Int, g_put (zH E σ) (zL E 0 d 0) 1 5 (.int (zI v)) = some (zH E (zs σ 0 d 0 5 v))) ∧ (g_r (zH E σ) (zL E 0 d 0) 1 6 = some (zL E 1 d 0)) ∧ (g_ob (zH E σ) (zL E 0 d 0) 1 = some ()) := by
  refine ⟨?_, ?_, ?_, ?_, ?_, ?_, ?_, ?_, ?_, ?_⟩
  · exact by unfold g_r; rw [show g_V (zH E σ) (zL E 0 d 0) 1 0 = _ from (zV (E := E) (σ := σ) (k := 0) (d := d) (c := 0) hW hu rfl rfl rfl 0)]; rfl
  · exact by unfold g_r; rw [show g_V (zH E σ) (zL E 0 d 0) 1 1 = _ from (zV (E := E) (σ := σ) (k := 0) (d := d) (c := 0) hW hu rfl rfl rfl 1)]; rfl
  · exact by unfold g_r; rw [show g_V (zH E σ) (zL E 0 d 0) 1 2 = _ from (zV (E := E) (σ := σ) (k := 0) (d := d) (c := 0) hW hu rfl rfl rfl 2)]; rfl
  · exact by unfold g_i; rw [show g_V (zH E σ) (zL E 0 d 0) 1 3 = _ from (zV (E := E) (σ := σ) (k := 0) (d := d) (c := 0) hW hu rfl rfl rfl 3)]; rfl
  · exact fun v => by rw [← zs_r]; exact zPut hW hu rfl rfl rfl (by simp) rfl rfl
  · exact by unfold g_r; rw [show g_V (zH E σ) (zL E 0 d 0) 1 4 = _ from (zV (E := E) (σ := σ) (k := 0) (d := d) (c := 0) hW hu rfl rfl rfl 4)]; rfl
  · exact by unfold g_i; rw [show g_V (zH E σ) (zL E 0 d 0) 1 5 = _ from (zV (E := E) (σ := σ) (k := 0) (d := d) (c := 0) hW hu rfl rfl rfl 5)]; rfl
  · exact fun v => by rw [← zs_r]; exact zPut hW hu rfl rfl rfl (by simp) rfl rfl
  · exact by unfold g_r; rw [show g_V (zH E σ) (zL E 0 d 0) 1 6 = _ from (zV (E := E) (σ := σ) (k := 0) (d := d) (c := 0) hW hu rfl rfl rfl 6)]; rfl
  · exact zOb hW hu rfl rfl rfl
theorem zg_bl0 (hW : zWF E) (hu : zU E 0 d = true) : (g_i (zH E σ) (zL E 0 d 1) 0 0 = some (zI (σ 0 d 1 0))) := by unfold g_i; rw [show g_V (zH E σ) (zL E 0 d 1) 0 0 = _ from (zV (E := E) (σ := σ) (k := 0) (d := d) (c := 1) hW hu rfl rfl rfl 0)]; rfl
theorem zp_bl0 (hW : zWF E) (hu : zU E 0 d = true) : (∀ v : Int, g_put (zH E σ) (zL E 0 d 1) 0 0 (.int (zI v)) = some (zH E (zs σ 0 d 1 0 v))) := fun v => by rw [← zs_r]; exact zPut hW hu rfl rfl rfl (by simp) rfl rfl
theorem zg_bl1 (hW : zWF E) (hu : zU E 0 d = true) : (g_i (zH E σ) (zL E 0 d 1) 0 1 = some (zI (σ 0 d 1 1))) := by unfold g_i; rw [show g_V (zH E σ) (zL E 0 d 1) 0 1 = _ from (zV (E := E) (σ := σ) (k := 0) (d := d) (c := 1) hW hu rfl rfl rfl 1)]; rfl
theorem zp_bl1 (hW : zWF E) (hu : zU E 0 d = true) : (∀ v : Int, g_put (zH E σ) (zL E 0 d 1) 0 1 (.int (zI v)) = some (zH E (zs σ 0 d 1 1 v))) := fun v => by rw [← zs_r]; exact zPut hW hu rfl rfl rfl (by simp) rfl rfl
theorem zg_bl2 (hW : zWF E) (hu : zU E 0 d = true) : (g_i (zH E σ) (zL E 0 d 1) 0 2 = some (zI (σ 0 d 1 2))) := by unfold g_i; rw [show g_V (zH E σ) (zL E 0 d 1) 0 2 = _ from (zV (E := E) (σ := σ) (k := 0) (d := d) (c := 1) hW hu rfl rfl rfl 2)]; rfl
theorem zp_bl2 (hW : zWF E) (hu : zU E 0 d = true) : (∀ v : Int, g_put (zH E σ) (zL E 0 d 1) 0 2 (.int (zI v)) = some (zH E (zs σ 0 d 1 2 v))) := fun v => by rw [← zs_r]; exact zPut hW hu rfl rfl rfl (by simp) rfl rfl
theorem zg_bl3 (hW : zWF E) (hu : zU E 0 d = true) : (g_r (zH E σ) (zL E 0 d 1) 0 3 = some (zL E 0 d 2)) := by unfold g_r; rw [show g_V (zH E σ) (zL E 0 d 1) 0 3 = _ from (zV (E := E) (σ := σ) (k := 0) (d := d) (c := 1) hW hu rfl rfl rfl 3)]; rfl
theorem zg_bl4 (hW : zWF E) (hu : zU E 0 d = true) : (g_r (zH E σ) (zL E 0 d 1) 0 4 = some (zL E 0 d 3)) := by unfold g_r; rw [show g_V (zH E σ) (zL E 0 d 1) 0 4 = _ from (zV (E := E) (σ := σ) (k := 0) (d := d) (c := 1) hW hu rfl rfl rfl 4)]; rfl
theorem zg_bl5 (hW : zWF E) (hu : zU E 0 d = true) : (g_r (zH E σ) (zL E 0 d 1) 0 5 = some (zL E 0 d 4)) := by unfold g_r; rw [show g_V (zH E σ) (zL E 0 d 1) 0 5 = _ from (zV (E := E) (σ := σ) (k := 0) (d := d) (c := 1) hW hu rfl rfl rfl 5)]; rfl
theorem zg_bl6 (hW : zWF E) (hu : zU E 0 d = true) : (g_r (zH E σ) (zL E 0 d 1) 0 6 = some (zL E 0 d 5)) := by unfold g_r; rw [show g_V (zH E σ) (zL E 0 d 1) 0 6 = _ from (zV (E := E) (σ := σ) (k := 0) (d := d) (c := 1) hW hu rfl rfl rfl 6)]; rfl
theorem zg_bl7 (hW : zWF E) (hu : zU E 0 d = true) : (g_r (zH E σ) (zL E 0 d 1) 0 7 = some (zL E 0 d 6)) := by unfold g_r; rw [show g_V (zH E σ) (zL E 0 d 1) 0 7 = _ from (zV (E := E) (σ := σ) (k := 0) (d := d) (c := 1) hW hu rfl rfl rfl 7)]; rfl
theorem zg_bl8 (hW : zWF E) (hu : zU E 0 d = true) : (g_r (zH E σ) (zL E 0 d 1) 0 8 = some (zL E 0 d 7)) := by unfold g_r; rw [show g_V (zH E σ) (zL E 0 d 1) 0 8 = _ from (zV (E := E) (σ := σ) (k := 0) (d := d) (c := 1) hW hu rfl rfl rfl 8)]; rfl
theorem zg_bl9 (hW : zWF E) (hu : zU E 0 d = true) : (g_r (zH E σ) (zL E 0 d 1) 0 9 = some (zL E 0 d 8)) := by unfold g_r; rw [show g_V (zH E σ) (zL E 0 d 1) 0 9 = _ from (zV (E := E) (σ := σ) (k := 0) (d := d) (c := 1) hW hu rfl rfl rfl 9)]; rfl
theorem zg_bl10 (hW : zWF E) (hu : zU E 0 d = true) : (g_r (zH E σ) (zL E 0 d 1) 0 10 = some (zL E 0 d 9)) := by unfold g_r; rw [show g_V (zH E σ) (zL E 0 d 1) 0 10 = _ from (zV (E := E) (σ := σ) (k := 0) (d := d) (c := 1) hW hu rfl rfl rfl 10)]; rfl
set_option maxRecDepth 20000 in
theorem zz_blo (hW : zWF E) (hu : zU E 0 d = true) : (g_r (zH E σ) (zL E 0 d 1) 0 3 = some (zL E 0 d 2)) ∧ (g_r (zH E σ) (zL E 0 d 1) 0 4 = some (zL E 0 d 3)) ∧ (g_r (zH E σ) (zL E 0 d 1) 0 5 = some (zL E 0 d 4)) ∧ (g_r (zH E σ) (zL E 0 d 1) 0 6 = some (zL E 0 d 5)) ∧ (g_r (zH E σ) (zL E 0 d 1) 0 7 = some (zL E 0 d 6)) ∧ (g_r (zH E σ) (zL E 0 d 1) 0 8 = some (zL E 0 d 7)) ∧ (g_r (zH E σ) (zL E 0 d 1) 0 9 = some (zL E 0 d 8)) ∧ (g_r (zH E σ) (zL E 0 d 1) 0 10 = some (zL E 0 d 9)) ∧ (g_ob (zH E σ) (zL E 0 d 1) 0 = some ()) := by
  refine ⟨?_, ?_, ?_, ?_, ?_, ?_, ?_, ?_, ?_⟩
  · exact by unfold g_r; rw [show g_V (zH E σ) (zL E 0 d 1) 0 3 = _ from (zV (E := E) (σ := σ) (k := 0) (d := d) (c := 1) hW hu rfl rfl rfl 3)]; rfl
  · exact by unfold g_r; rw [show g_V (zH E σ) (zL E 0 d 1) 0 4 = _ from (zV (E := E) (σ := σ) (k := 0) (d := d) (c := 1) hW hu rfl rfl rfl 4)]; rfl
  · exact by unfold g_r; rw [show g_V (zH E σ) (zL E 0 d 1) 0 5 = _ from (zV (E := E) (σ := σ) (k := 0) (d := d) (c := 1) hW hu rfl rfl rfl 5)]; rfl
  · exact by unfold g_r; rw [show g_V (zH E σ) (zL E 0 d 1) 0 6 = _ from (zV (E := E) (σ := σ) (k := 0) (d := d) (c := 1) hW hu rfl rfl rfl 6)]; rfl
  · exact by unfold g_r; rw [show g_V (zH E σ) (zL E 0 d 1) 0 7 = _ from (zV (E := E) (σ := σ) (k := 0) (d := d) (c := 1) hW hu rfl rfl rfl 7)]; rfl
  · exact by unfold g_r; rw [show g_V (zH E σ) (zL E 0 d 1) 0 8 = _ from (zV (E := E) (σ := σ) (k := 0) (d := d) (c := 1) hW hu rfl rfl rfl 8)]; rfl
  · exact by unfold g_r; rw [show g_V (zH E σ) (zL E 0 d 1) 0 9 = _ from (zV (E := E) (σ := σ) (k := 0) (d := d) (c := 1) hW hu rfl rfl rfl 9)]; rfl
  · exact by unfold g_r; rw [show g_V (zH E σ) (zL E 0 d 1) 0 10 = _ from (zV (E := E) (σ := σ) (k := 0) (d := d) (c := 1) hW hu rfl rfl rfl 10)]; rfl
  · exact zOb hW hu rfl rfl rfl
set_option maxRecDepth 20000 in
theorem zz_bl (hW : zWF E) (hu : zU E 0 d = true) : (g_i (zH E σ) (zL E 0 d 1) 0 0 = some (zI (σ 0 d 1 0))) ∧ (∀ v : Int, g_put (zH E σ) (zL E 0 d 1) 0 0 (.int (zI v)) = some (zH E (zs σ 0 d 1 0 v))) ∧ (g_i (zH E σ) (zL E 0 d 1) 0 1 = some (zI (σ 0 d 1 1))) ∧ (∀ v : Int, g_put (zH E σ) (zL E 0 d 1) 0 1 (.int (zI v)) = some (zH E (zs σ 0 d 1 1 v))) ∧ (g_i (zH E σ) (zL E 0 d 1) 0 2 = some (zI (σ 0 d 1 2))) ∧ (∀ v : Int, g_put (zH E σ) (zL E 0 d 1) 0 2 (.int (zI v)) = some (zH E (zs σ 0 d 1 2 v))) ∧ (g_r (zH E σ) (zL E 0 d 1) 0 3 = some (zL E 0 d 2)) ∧ (g_r (zH E σ) (zL E 0 d 1) 0 4 = some (zL E 0 d 3)) ∧ (g_r (zH E σ) (zL E 0 d 1) 0 5 = some (zL E 0 d 4)) ∧ (g_r (zH E σ) (zL E 0 d 1) 0 6 = some (zL E 0 d 5)) ∧ (g_r (zH E σ) (zL E 0 d 1) 0 7 = some (zL E 0 d 6)) ∧ (g_r (zH E σ) (zL E 0 d 1) 0 8 = some (zL E 0 d 7)) ∧ (g_r (zH E σ) (zL E 0 d 1) 0 9 = some (zL E 0 d 8)) ∧ (g_r (zH E σ) (zL E 0 d 1) 0 10 = some (zL E 0 d 9)) ∧ (g_ob (zH E σ) (zL E 0 d 1) 0 = some ()) := by
  refine ⟨?_, ?_, ?_, ?_, ?_, ?_, ?_, ?_, ?_, ?_, ?_, ?_, ?_, ?_, ?_⟩
  · exact by unfold g_i; rw [show g_V (zH E σ) (zL E 0 d 1) 0 0 = _ from (zV (E := E) (σ := σ) (k := 0) (d := d) (c := 1) hW hu rfl rfl rfl 0)]; rfl
  · exact fun v => by rw [← zs_r]; exact zPut hW hu rfl rfl rfl (by simp) rfl rfl
  · exact by unfold g_i; rw [show g_V (zH E σ) (zL E 0 d 1) 0 1 = _ from (zV (E := E) (σ := σ) (k := 0) (d := d) (c := 1) hW hu rfl rfl rfl 1)]; rfl
  · exact fun v => by rw [← zs_r]; exact zPut hW hu rfl rfl rfl (by simp) rfl rfl
  · exact by unfold g_i; rw [show g_V (zH E σ) (zL E 0 d 1) 0 2 = _ from (zV (E := E) (σ := σ) (k := 0) (d := d) (c := 1) hW hu rfl rfl rfl 2)]; rfl
  · exact fun v => by rw [← zs_r]; exact zPut hW hu rfl rfl rfl (by simp) rfl rfl
  · exact by unfold g_r; rw [show g_V (zH E σ) (zL E 0 d 1) 0 3 = _ from (zV (E := E) (σ := σ) (k := 0) (d := d) (c := 1) hW hu rfl rfl rfl 3)]; rfl
  · exact by unfold g_r; rw [show g_V (zH E σ) (zL E 0 d 1) 0 4 = _ from (zV (E := E) (σ := σ) (k := 0) (d := d) (c := 1) hW hu rfl rfl rfl 4)]; rfl
  · exact by unfold g_r; rw [show g_V (zH E σ) (zL E 0 d 1) 0 5 = _ from (zV (E := E) (σ := σ) (k := 0) (d := d) (c := 1) hW hu rfl rfl rfl 5)]; rfl
  · exact by unfold g_r; rw [show g_V (zH E σ) (zL E 0 d 1) 0 6 = _ from (zV (E := E) (σ := σ) (k := 0) (d := d) (c := 1) hW hu rfl rfl rfl 6)]; rfl
  · exact by unfold g_r; rw [show g_V (zH E σ) (zL E 0 d 1) 0 7 = _ from (zV (E := E) (σ := σ) (k := 0) (d := d) (c := 1) hW hu rfl rfl rfl 7)]; rfl
  · exact by unfold g_r; rw [show g_V (zH E σ) (zL E 0 d 1) 0 8 = _ from (zV (E := E) (σ := σ) (k := 0) (d := d) (c := 1) hW hu rfl rfl rfl 8)]; rfl
  · exact by unfold g_r; rw [show g_V (zH E σ) (zL E 0 d 1) 0 9 = _ from (zV (E := E) (σ := σ) (k := 0) (d := d) (c := 1) hW hu rfl rfl rfl 9)]; rfl
  · exact by unfold g_r; rw [show g_V (zH E σ) (zL E 0 d 1) 0 10 = _ from (zV (E := E) (σ := σ) (k := 0) (d := d) (c := 1) hW hu rfl rfl rfl 10)]; rfl
  · exact zOb hW hu rfl rfl rfl
theorem zg_vs0 (hW : zWF E) (hu : zU E 0 d = true) : (g_i (zH E σ) (zL E 0 d 10) 7 0 = some (zI (σ 0 d 10 0))) := by unfold g_i; rw [show g_V (zH E σ) (zL E 0 d 10) 7 0 = _ from (zV (E := E) (σ := σ) (k := 0) (d := d) (c := 10) hW hu rfl rfl rfl 0)]; rfl
theorem zp_vs0 (hW : zWF E) (hu : zU E 0 d = true) : (∀ v : Int, g_put (zH E σ) (zL E 0 d 10) 7 0 (.int (zI v)) = some (zH E (zs σ 0 d 10 0 v))) := fun v => by rw [← zs_r]; exact zPut hW hu rfl rfl rfl (by simp) rfl rfl
theorem zg_vs1 (hW : zWF E) (hu : zU E 0 d = true) : (g_r (zH E σ) (zL E 0 d 10) 7 1 = some (zL E 0 d 11)) := by unfold g_r; rw [show g_V (zH E σ) (zL E 0 d 10) 7 1 = _ from (zV (E := E) (σ := σ) (k := 0) (d := d) (c := 10) hW hu rfl rfl rfl 1)]; rfl
theorem zg_vs2 (hW : zWF E) (hu : zU E 0 d = true) : (g_r (zH E σ) (zL E 0 d 10) 7 2 = some (zL E 0 d 12)) := by unfold g_r; rw [show g_V (zH E σ) (zL E 0 d 10) 7 2 = _ from (zV (E := E) (σ := σ) (k := 0) (d := d) (c := 10) hW hu rfl rfl rfl 2)]; rfl
theorem zg_vs3 (hW : zWF E) (hu : zU E 0 d = true) : (g_r (zH E σ) (zL E 0 d 10) 7 3 = some (zL E 0 d 13)) := by unfold g_r; rw [show g_V (zH E σ) (zL E 0 d 10) 7 3 = _ from (zV (E := E) (σ := σ) (k := 0) (d := d) (c := 10) hW hu rfl rfl rfl 3)]; rfl
theorem zg_vs4 (hW : zWF E) (hu : zU E 0 d = true) : (g_r (zH E σ) (zL E 0 d 10) 7 4 = some (zL E 0 d 14)) := by unfold g_r; rw [show g_V (zH E σ) (zL E 0 d 10) 7 4 = _ from (zV (E := E) (σ := σ) (k := 0) (d := d) (c := 10) hW hu rfl rfl rfl 4)]; rfl
theorem zg_vs5 (hW : zWF E) (hu : zU E 0 d = true) : (g_r (zH E σ) (zL E 0 d 10) 7 5 = some (zL E 0 d 15)) := by unfold g_r; rw [show g_V (zH E σ) (zL E 0 d 10) 7 5 = _ from (zV (E := E) (σ := σ) (k := 0) (d := d) (c := 10) hW hu rfl rfl rfl 5)]; rfl
set_option maxRecDepth 20000 in
theorem zz_vso (hW : zWF E) (hu : zU E 0 d = true) : (g_r (zH E σ) (zL E 0 d 10) 7 1 = some (zL E 0 d 11)) ∧ (g_r (zH E σ) (zL E 0 d 10) 7 2 = some (zL E 0 d 12)) ∧ (g_r (zH E σ) (zL E 0 d 10) 7 3 = some (zL E 0 d 13)) ∧ (g_r (zH E σ) (zL E 0 d 10) 7 4 = some (zL E 0 d 14)) ∧ (g_r (zH E σ) (zL E 0 d 10) 7 5 = some (zL E 0 d 15)) ∧ (g_ob (zH E σ) (zL E 0 d 10) 7 = some ()) := by
  refine ⟨?_, ?_, ?_, ?_, ?_, ?_⟩
  · exact by unfold g_r; rw [show g_V (zH E σ) (zL E 0 d 10) 7 1 = _ from (zV (E := E) (σ := σ) (k := 0) (d := d) (c := 10) hW hu rfl rfl rfl 1)]; rfl
  · exact by unfold g_r; rw [show g_V (zH E σ) (zL E 0 d 10) 7 2 = _ from (zV (E := E) (σ := σ) (k := 0) (d := d) (c := 10) hW hu rfl rfl rfl 2)]; rfl
  · exact by unfold g_r; rw [show g_V (zH E σ) (zL E 0 d 10) 7 3 = _ from (zV (E := E) (σ := σ) (k := 0) (d := d) (c := 10) hW hu rfl rfl rfl 3)]; rfl
  · exact by unfold g_r; rw [show g_V (zH E σ) (zL E 0 d 10) 7 4 = _ from (zV (E := E) (σ := σ) (k := 0) (d := d) (c := 10) hW hu rfl rfl rfl 4)]; rfl
  · exact by unfold g_r; rw [show g_V (zH E σ) (zL E 0 d 10) 7 5 = _ from (zV (E := E) (σ := σ) (k := 0) (d := d) (c := 10) hW hu rfl rfl rfl 5)]; rfl
  · exact zOb hW hu rfl rfl rfl
set_option maxRecDepth 20000 in
theorem zz_vs (hW : zWF E) (hu : zU E 0 d = true) : (g_i (zH E σ) (zL E 0 d 10) 7 0 = some (zI (σ 0 d 10 0))) ∧ (∀ v : Int, g_put (zH E σ) (zL E 0 d 10) 7 0 (.int (zI v)) = some (zH E (zs σ 0 d 10 0 v))) ∧ (g_r (zH E σ) (zL E 0 d 10) 7 1 = some (zL E 0 d 11)) ∧ (g_r (zH E σ) (zL E 0 d 10) 7 2 = some (zL E 0 d 12)) ∧ (g_r (zH E σ) (zL E 0 d 10) 7 3 = some (zL E 0 d 13)) ∧ (g_r (zH E σ) (zL E 0 d 10) 7 4 = some (zL E 0 d 14)) ∧ (g_r (zH E σ) (zL E 0 d 10) 7 5 = some (zL E 0 d 15)) ∧ (g_ob (zH E σ) (zL E 0 d 10) 7 = some ()) := by
  refine ⟨?_, ?_, ?_, ?_, ?_, ?_, ?_, ?_⟩
  · exact by unfold g_i; rw [show g_V (zH E σ) (zL E 0 d 10) 7 0 = _ from (zV (E := E) (σ := σ) (k := 0) (d := d) (c := 10) hW hu rfl rfl rfl 0)]; rfl
  · exact fun v => by rw [← zs_r]; exact zPut hW hu rfl rfl rfl (by simp) rfl rfl
  · exact by unfold g_r; rw [show g_V (zH E σ) (zL E 0 d 10) 7 1 = _ from (zV (E := E) (σ := σ) (k := 0) (d := d) (c := 10) hW hu rfl rfl rfl 1)]; rfl
  · exact by unfold g_r; rw [show g_V (zH E σ) (zL E 0 d 10) 7 2 = _ from (zV (E := E) (σ := σ) (k := 0) (d := d) (c := 10) hW hu rfl rfl rfl 2)]; rfl
  · exact by unfold g_r; rw [show g_V (zH E σ) (zL E 0 d 10) 7 3 = _ from (zV (E := E) (σ := σ) (k := 0) (d := d) (c := 10) hW hu rfl rfl rfl 3)]; rfl
  · exact by unfold g_r; rw [show g_V (zH E σ) (zL E 0 d 10) 7 4 = _ from (zV (E := E) (σ := σ) (k := 0) (d := d) (c := 10) hW hu rfl rfl rfl 4)]; rfl
  · exact by unfold g_r; rw [show g_V (zH E σ) (zL E 0 d 10) 7 5 = _ from (zV (E := E) (σ := σ) (k := 0) (d := d) (c := 10) hW hu rfl rfl rfl 5)]; rfl
  · exact zOb hW hu rfl rfl rfl
theorem zg_se0 (hW : zWF E) (hu : zU E 0 d = true) : (g_i (zH E σ) (zL E 0 d 16) 5 0 = some (zI (σ 0 d 16 0))) := by unfold g_i; rw [show g_V (zH E σ) (zL E 0 d 16) 5 0 = _ from (zV (E := E) (σ := σ) (k := 0) (d := d) (c := 16) hW hu rfl rfl rfl 0)]; rfl
theorem zp_se0 (hW : zWF E) (hu : zU E 0 d = true) : (∀ v : Int, g_put (zH E σ) (zL E 0 d 16) 5 0 (.int (zI v)) = some (zH E (zs σ 0 d 16 0 v))) := fun v => by rw [← zs_r]; exact zPut hW hu rfl rfl rfl (by simp) rfl rfl
theorem zg_se1 (hW : zWF E) (hu : zU E 0 d = true) : (g_r (zH E σ) (zL E 0 d 16) 5 1 = some (zL E 0 d 17)) := by unfold g_r; rw [show g_V (zH E σ) (zL E 0 d 16) 5 1 = _ from (zV (E := E) (σ := σ) (k := 0) (d := d) (c := 16) hW hu rfl rfl rfl 1)]; rfl
theorem zg_se2 (hW : zWF E) (hu : zU E 0 d = true) : (g_r (zH E σ) (zL E 0 d 16) 5 2 = some (zL E 0 d 18)) := by unfold g_r; rw [show g_V (zH E σ) (zL E 0 d 16) 5 2 = _ from (zV (E := E) (σ := σ) (k := 0) (d := d) (c := 16) hW hu rfl rfl rfl 2)]; rfl
theorem zg_se3 (hW : zWF E) (hu : zU E 0 d = true) : (g_r (zH E σ) (zL E 0 d 16) 5 3 = some (zL E 0 d 19)) := by unfold g_r; rw [show g_V (zH E σ) (zL E 0 d 16) 5 3 = _ from (zV (E := E) (σ := σ) (k := 0) (d := d) (c := 16) hW hu rfl rfl rfl 3)]; rfl
theorem zg_se4 (hW : zWF E) (hu : zU E 0 d = true) : (g_r (zH E σ) (zL E 0 d 16) 5 4 = some (zL E 0 d 24)) := by unfold g_r; rw [show g_V (zH E σ) (zL E 0 d 16) 5 4 = _ from (zV (E := E) (σ := σ) (k := 0) (d := d) (c := 16) hW hu rfl rfl rfl 4)]; rfl
theorem zg_se5 (hW : zWF E) (hu : zU E 0 d = true) : (g_r (zH E σ) (zL E 0 d 16) 5 5 = some (zL E 0 d 20)) := by unfold g_r; rw [show g_V (zH E σ) (zL E 0 d 16) 5 5 = _ from (zV (E := E) (σ := σ) (k := 0) (d := d) (c := 16) hW hu rfl rfl rfl 5)]; rfl
theorem zg_se6 (hW : zWF E) (hu : zU E 0 d = true) : (g_r (zH E σ) (zL E 0 d 16) 5 6 = some (zL E 0 d 21)) := by unfold g_r; rw [show g_V (zH E σ) (zL E 0 d 16) 5 6 = _ from (zV (E := E) (σ := σ) (k := 0) (d := d) (c := 16) hW hu rfl rfl rfl 6)]; rfl
theorem zg_se7 (hW : zWF E) (hu : zU E 0 d = true) : (g_r (zH E σ) (zL E 0 d 16) 5 7 = some (zL E 0 d 22)) := by unfold g_r; rw [show g_V (zH E σ) (zL E 0 d 16) 5 7 = _ from (zV (E := E) (σ := σ) (k := 0) (d := d) (c := 16) hW hu rfl rfl rfl 7)]; rfl
set_option maxRecDepth 20000 in
theorem zz_seo (hW : zWF E) (hu : zU E 0 d = true) : (g_r (zH E σ) (zL E 0 d 16) 5 1 = some (zL E 0 d 17)) ∧ (g_r (zH E σ) (zL E 0 d 16) 5 2 = some (zL E 0 d 18)) ∧ (g_r (zH E σ) (zL E 0 d 16) 5 3 = some (zL E 0 d 19)) ∧ (g_r (zH E σ) (zL E 0 d 16) 5 4 = some (zL E 0 d 24)) ∧ (g_r (zH E σ) (zL E 0 d 16) 5 5 = some (zL E 0 d 20)) ∧ (g_r (zH E σ) (zL E 0 d 16) 5 6 = some (zL E 0 d 21)) ∧ (g_r (zH E σ) (zL E 0 d 16) 5 7 = some (zL E 0 d 22)) ∧ (g_ob (zH E σ) (zL E 0 d 16) 5 = some ()) := by
  refine ⟨?_, ?_, ?_, ?_, ?_, ?_, ?_, ?_⟩
  · exact by unfold g_r; rw [show g_V (zH E σ) (zL E 0 d 16) 5 1 = _ from (zV (E := E) (σ := σ) (k := 0) (d := d) (c := 16) hW hu rfl rfl rfl 1)]; rfl
  · exact by unfold g_r; rw [show g_V (zH E σ) (zL E 0 d 16) 5 2 = _ from (zV (E := E) (σ := σ) (k := 0) (d := d) (c := 16) hW hu rfl rfl rfl 2)]; rfl
  · exact by unfold g_r; rw [show g_V (zH E σ) (zL E 0 d 16) 5 3 = _ from (zV (E := E) (σ := σ) (k := 0) (d := d) (c := 16) hW hu rfl rfl rfl 3)]; rfl
  · exact by unfold g_r; rw [show g_V (zH E σ) (zL E 0 d 16) 5 4 = _ from (zV (E := E) (σ := σ) (k := 0) (d := d) (c := 16) hW hu rfl rfl rfl 4)]; rfl
  · exact by unfold g_r; rw [show g_V (zH E σ) (zL E 0 d 16) 5 5 = _ from (zV (E := E) (σ := σ) (k := 0) (d := d) (c := 16) hW hu rfl rfl rfl 5)]; rfl
  · exact by unfold g_r; rw [show g_V (zH E σ) (zL E 0 d 16) 5 6 = _ from (zV (E := E) (σ := σ) (k := 0) (d := d) (c := 16) hW hu rfl rfl rfl 6)]; rfl
  · exact by unfold g_r; rw [show g_V (zH E σ) (zL E 0 d 16) 5 7 = _ from (zV (E := E) (σ := σ) (k := 0) (d := d) (c := 16) hW hu rfl rfl rfl 7)]; rfl
  · exact zOb hW hu rfl rfl rfl
set_option maxRecDepth 20000 in
theorem zz_se (hW : zWF E) (hu : zU E 0 d = true) : (g_i (zH E σ) (zL E 0 d 16) 5 0 = some (zI (σ 0 d 16 0))) ∧ (∀ v : Int, g_put (zH E σ) (zL E 0 d 16) 5 0 (.int (zI v)) = some (zH E (zs σ 0 d 16 0 v))) ∧ (g_r (zH E σ) (zL E 0 d 16) 5 1 = some (zL E 0 d 17)) ∧ (g_r (zH E σ) (zL E 0 d 16) 5 2 = some (zL E 0 d 18)) ∧ (g_r (zH E σ) (zL E 0 d 16) 5 3 = some (zL E 0 d 19)) ∧ (g_r (zH E σ) (zL E 0 d 16) 5 4 = some (zL E 0 d 24)) ∧ (g_r (zH E σ) (zL E 0 d 16) 5 5 = some (zL E 0 d 20)) ∧ (g_r (zH E σ) (zL E 0 d 16) 5 6 = some (zL E 0 d 21)) ∧ (g_r (zH E σ) (zL E 0 d 16) 5 7 = some (zL E 0 d 22)) ∧ (g_ob (zH E σ) (zL E 0 d 16) 5 = some ()) := by
  refine ⟨?_, ?_, ?_, ?_, ?_, ?_, ?_, ?_, ?_, ?_⟩
  · exact by unfold g_i; rw [show g_V (zH E σ) (zL E 0 d 16) 5 0 = _ from (zV (E := E) (σ := σ) (k := 0) (d := d) (c := 16) hW hu rfl rfl rfl 0)]; rfl
  · exact fun v => by rw [← zs_r]; exact zPut hW hu rfl rfl rfl (by simp) rfl rfl
  · exact by unfold g_r; rw [show g_V (zH E σ) (zL E 0 d 16) 5 1 = _ from (zV (E := E) (σ := σ) (k := 0) (d := d) (c := 16) hW hu rfl rfl rfl 1)]; rfl
  · exact by unfold g_r; rw [show g_V (zH E σ) (zL E 0 d 16) 5 2 = _ from (zV (E := E) (σ := σ) (k := 0) (d := d) (c := 16) hW hu rfl rfl rfl 2)]; rfl
  · exact by unfold g_r; rw [show g_V (zH E σ) (zL E 0 d 16) 5 3 = _ from (zV (E := E) (σ := σ) (k := 0) (d := d) (c := 16) hW hu rfl rfl rfl 3)]; rfl
  · exact by unfold g_r; rw [show g_V (zH E σ) (zL E 0 d 16) 5 4 = _ from (zV (E := E) (σ := σ) (k := 0) (d := d) (c := 16) hW hu rfl rfl rfl 4)]; rfl
  · exact by unfold g_r; rw [show g_V (zH E σ) (zL E 0 d 16) 5 5 = _ from (zV (E := E) (σ := σ) (k := 0) (d := d) (c := 16) hW hu rfl rfl rfl 5)]; rfl
  · exact by unfold g_r; rw [show g_V (zH E σ) (zL E 0 d 16) 5 6 = _ from (zV (E := E) (σ := σ) (k := 0) (d := d) (c := 16) hW hu rfl rfl rfl 6)]; rfl
  · exact by unfold g_r; rw [show g_V (zH E σ) (zL E 0 d 16) 5 7 = _ from (zV (E := E) (σ := σ) (k := 0) (d := d) (c := 16) hW hu rfl rfl rfl 7)]; rfl
  · exact zOb hW hu rfl rfl rfl
theorem zg_vw0 (hW : zWF E) (hu : zU E 1 d = true) : (g_i (zH E σ) (zL E 1 d 0) 8 0 = some (zI (σ 1 d 0 0))) := by unfold g_i; rw [show g_V (zH E σ) (zL E 1 d 0) 8 0 = _ from (zV (E := E) (σ := σ) (k := 1) (d := d) (c := 0) hW hu rfl rfl rfl 0)]; rfl
theorem zp_vw0 (hW : zWF E) (hu : zU E 1 d = true) : (∀ v : Int, g_put (zH E σ) (zL E 1 d 0) 8 0 (.int (zI v)) = some (zH E (zs σ 1 d 0 0 v))) := fun v => by rw [← zs_r]; exact zPut hW hu rfl rfl rfl (by simp) rfl rfl
theorem zg_vw1 (hW : zWF E) (hu : zU E 1 d = true) : (g_r (zH E σ) (zL E 1 d 0) 8 1 = some (zL E 1 d 1)) := by unfold g_r; rw [show g_V (zH E σ) (zL E 1 d 0) 8 1 = _ from (zV (E := E) (σ := σ) (k := 1) (d := d) (c := 0) hW hu rfl rfl rfl 1)]; rfl
theorem zg_vw2 (hW : zWF E) (hu : zU E 1 d = true) : (g_r (zH E σ) (zL E 1 d 0) 8 2 = some (zL E 1 d 2)) := by unfold g_r; rw [show g_V (zH E σ) (zL E 1 d 0) 8 2 = _ from (zV (E := E) (σ := σ) (k := 1) (d := d) (c := 0) hW hu rfl rfl rfl 2)]; rfl
theorem zg_vw3 (hW : zWF E) (hu : zU E 1 d = true) : (g_r (zH E σ) (zL E 1 d 0) 8 3 = some (zL E 1 d 3)) := by unfold g_r; rw [show g_V (zH E σ) (zL E 1 d 0) 8 3 = _ from (zV (E := E) (σ := σ) (k := 1) (d := d) (c := 0) hW hu rfl rfl rfl 3)]; rfl
theorem zg_vw4 (hW : zWF E) (hu : zU E 1 d = true) : (g_r (zH E σ) (zL E 1 d 0) 8 4 = some (zL E 1 d 4)) := by unfold g_r; rw [show g_V (zH E σ) (zL E 1 d 0) 8 4 = _ from (zV (E := E) (σ := σ) (k := 1) (d := d) (c := 0) hW hu rfl rfl rfl 4)]; rfl
set_option maxRecDepth 20000 in
theorem zz_vwo (hW : zWF E) (hu : zU E 1 d = true) : (g_r (zH E σ) (zL E 1 d 0) 8 1 = some (zL E 1 d 1)) ∧ (g_r (zH E σ) (zL E 1 d 0) 8 2 = some (zL E 1 d 2)) ∧ (g_r (zH E σ) (zL E 1 d 0) 8 3 = some (zL E 1 d 3)) ∧ (g_r (zH E σ) (zL E 1 d 0) 8 4 = some (zL E 1 d 4)) ∧ (g_ob (zH E σ) (zL E 1 d 0) 8 = some ()) := by
  refine ⟨?_, ?_, ?_, ?_, ?_⟩
  · exact by unfold g_r; rw [show g_V (zH E σ) (zL E 1 d 0) 8 1 = _ from (zV (E := E) (σ := σ) (k := 1) (d := d) (c := 0) hW hu rfl rfl rfl 1)]; rfl
  · exact by unfold g_r; rw [show g_V (zH E σ) (zL E 1 d 0) 8 2 = _ from (zV (E := E) (σ := σ) (k := 1) (d := d) (c := 0) hW hu rfl rfl rfl 2)]; rfl
  · exact by unfold g_r; rw [show g_V (zH E σ) (zL E 1 d 0) 8 3 = _ from (zV (E := E) (σ := σ) (k := 1) (d := d) (c := 0) hW hu rfl rfl rfl 3)]; rfl
  · exact by unfold g_r; rw [show g_V (zH E σ) (zL E 1 d 0) 8 4 = _ from (zV (E := E) (σ := σ) (k := 1) (d := d) (c := 0) hW hu rfl rfl rfl 4)]; rfl
  · exact zOb hW hu rfl rfl rfl
set_option maxRecDepth 20000 in
theorem zz_vw (hW : zWF E) (hu : zU E 1 d = true) : (g_i (zH E σ) (zL E 1 d 0) 8 0 = some (zI (σ 1 d 0 0))) ∧ (∀ v : Int, g_put (zH E σ) (zL E 1 d 0) 8 0 (.int (zI v)) = some (zH E (zs σ 1 d 0 0 v))) ∧ (g_r (zH E σ) (zL E 1 d 0) 8 1 = some (zL E 1 d 1)) ∧ (g_r (zH E σ) (zL E 1 d 0) 8 2 = some (zL E 1 d 2)) ∧ (g_r (zH E σ) (zL E 1 d 0) 8 3 = some (zL E 1 d 3)) ∧ (g_r (zH E σ) (zL E 1 d 0) 8 4 = some (zL E 1 d 4)) ∧ (g_ob (zH E σ) (zL E 1 d 0) 8 = some ()) := by
  refine ⟨?_, ?_, ?_, ?_, ?_, ?_, ?_⟩
  · exact by unfold g_i; rw [show g_V (zH E σ) (zL E 1 d 0) 8 0 = _ from (zV (E := E) (σ := σ) (k := 1) (d := d) (c := 0) hW hu rfl rfl rfl 0)]; rfl
  · exact fun v => by rw [← zs_r]; exact zPut hW hu rfl rfl rfl (by simp) rfl rfl
  · exact by unfold g_r; rw [show g_V (zH E σ) (zL E 1 d 0) 8 1 = _ from (zV (E := E) (σ := σ) (k := 1) (d := d) (c := 0) hW hu rfl rfl rfl 1)]; rfl
  · exact by unfold g_r; rw [show g_V (zH E σ) (zL E 1 d 0) 8 2 = _ from (zV (E := E) (σ := σ) (k := 1) (d := d) (c := 0) hW hu rfl rfl rfl 2)]; rfl
  · exact by unfold g_r; rw [show g_V (zH E σ) (zL E 1 d 0) 8 3 = _ from (zV (E := E) (σ := σ) (k := 1) (d := d) (c := 0) hW hu rfl rfl rfl 3)]; rfl
  · exact by unfold g_r; rw [show g_V (zH E σ) (zL E 1 d 0) 8 4 = _ from (zV (E := E) (σ := σ) (k := 1) (d := d) (c := 0) hW hu rfl rfl rfl 4)]; rfl
  · exact zOb hW hu rfl rfl rfl
theorem zg_ma0 (hW : zWF E) (hu : zU E 2 d = true) : (g_r (zH E σ) (zL E 2 d 0) 9 0 = some (zL E 2 d 1)) := by unfold g_r; rw [show g_V (zH E σ) (zL E 2 d 0) 9 0 = _ from (zV (E := E) (σ := σ) (k := 2) (d := d) (c := 0) hW hu rfl rfl rfl 0)]; rfl
theorem zg_ma1 (hW : zWF E) (hu : zU E 2 d = true) : (g_r (zH E σ) (zL E 2 d 0) 9 1 = some (zL E 2 d 3)) := by unfold g_r; rw [show g_V (zH E σ) (zL E 2 d 0) 9 1 = _ from (zV (E := E) (σ := σ) (k := 2) (d := d) (c := 0) hW hu rfl rfl rfl 1)]; rfl
theorem zg_ma2 (hW : zWF E) (hu : zU E 2 d = true) : (g_r (zH E σ) (zL E 2 d 0) 9 2 = some (zL E 2 d 4)) := by unfold g_r; rw [show g_V (zH E σ) (zL E 2 d 0) 9 2 = _ from (zV (E := E) (σ := σ) (k := 2) (d := d) (c := 0) hW hu rfl rfl rfl 2)]; rfl
theorem zg_ma3 (hW : zWF E) (hu : zU E 2 d = true) : (g_r (zH E σ) (zL E 2 d 0) 9 3 = some (zL E 2 d 6)) := by unfold g_r; rw [show g_V (zH E σ) (zL E 2 d 0) 9 3 = _ from (zV (E := E) (σ := σ) (k := 2) (d := d) (c := 0) hW hu rfl rfl rfl 3)]; rfl
theorem zg_ma4 (hW : zWF E) (hu : zU E 2 d = true) : (g_r (zH E σ) (zL E 2 d 0) 9 4 = some (zL E 1 14 0)) := by unfold g_r; rw [show g_V (zH E σ) (zL E 2 d 0) 9 4 = _ from (zV (E := E) (σ := σ) (k := 2) (d := d) (c := 0) hW hu rfl rfl rfl 4)]; rfl
theorem zg_ma5 (hW : zWF E) (hu : zU E 2 d = true) : (g_r (zH E σ) (zL E 2 d 0) 9 5 = some (zL E 0 (σ 2 d 0 5).toNat 0)) := by unfold g_r; rw [show g_V (zH E σ) (zL E 2 d 0) 9 5 = _ from (zV (E := E) (σ := σ) (k := 2) (d := d) (c := 0) hW hu rfl rfl rfl 5)]; rfl
theorem zp_ma5 (hW : zWF E) (hu : zU E 2 d = true) : (∀ v : Nat, g_put (zH E σ) (zL E 2 d 0) 9 5 (.ref (zL E 0 v 0)) = some (zH E (zs σ 2 d 0 5 v))) := fun v => by rw [← zs_r]; exact zPut hW hu rfl rfl rfl (by simp) rfl rfl
theorem zg_ma6 (hW : zWF E) (hu : zU E 2 d = true) : (g_r (zH E σ) (zL E 2 d 0) 9 6 = some (zL E 0 (σ 2 d 0 6).toNat 0)) := by unfold g_r; rw [show g_V (zH E σ) (zL E 2 d 0) 9 6 = _ from (zV (E := E) (σ := σ) (k := 2) (d := d) (c := 0) hW hu rfl rfl rfl 6)]; rfl
theorem zp_ma6 (hW : zWF E) (hu : zU E 2 d = true) : (∀ v : Nat, g_put (zH E σ) (zL E 2 d 0) 9 6 (.ref (zL E 0 v 0)) = some (zH E (zs σ 2 d 0 6 v))) := fun v => by rw [← zs_r]; exact zPut hW hu rfl rfl rfl (by simp) rfl rfl
set_option maxRecDepth 20000 in
theorem zz_mao (hW : zWF E) (hu : zU E 2 d = true) : (g_r (zH E σ) (zL E 2 d 0) 9 0 = some (zL E 2 d 1)) ∧ (g_r (zH E σ) (zL E 2 d 0) 9 1 = some (zL E 2 d 3)) ∧ (g_r (zH E σ) (zL E 2 d 0) 9 2 = some (zL E 2 d 4)) ∧ (g_r (zH E σ) (zL E 2 d 0) 9 3 = some (zL E 2 d 6)) ∧ (g_r (zH E σ) (zL E 2 d 0) 9 4 = some (zL E 1 14 0)) ∧ (g_r (zH E σ) (zL E 2 d 0) 9 5 = some (zL E 0 (σ 2 d 0 5).toNat 0)) ∧ (g_r (zH E σ) (zL E 2 d 0) 9 6 = some (zL E 0 (σ 2 d 0 6).toNat 0)) ∧ (g_ob (zH E σ) (zL E 2 d 0) 9 = some ()) := by
  refine ⟨?_, ?_, ?_, ?_, ?_, ?_, ?_, ?_⟩
  · exact by unfold g_r; rw [show g_V (zH E σ) (zL E 2 d 0) 9 0 = _ from (zV (E := E) (σ := σ) (k := 2) (d := d) (c := 0) hW hu rfl rfl rfl 0)]; rfl
  · exact by unfold g_r; rw [show g_V (zH E σ) (zL E 2 d 0) 9 1 = _ from (zV (E := E) (σ := σ) (k := 2) (d := d) (c := 0) hW hu rfl rfl rfl 1)]; rfl
  · exact by unfold g_r; rw [show g_V (zH E σ) (zL E 2 d 0) 9 2 = _ from (zV (E := E) (σ := σ) (k := 2) (d := d) (c := 0) hW hu rfl rfl rfl 2)]; rfl
  · exact by unfold g_r; rw [show g_V (zH E σ) (zL E 2 d 0) 9 3 = _ from (zV (E := E) (σ := σ) (k := 2) (d := d) (c := 0) hW hu rfl rfl rfl 3)]; rfl
  · exact by unfold g_r; rw [show g_V (zH E σ) (zL E 2 d 0) 9 4 = _ from (zV (E := E) (σ := σ) (k := 2) (d := d) (c := 0) hW hu rfl rfl rfl 4)]; rfl
  · exact by unfold g_r; rw [show g_V (zH E σ) (zL E 2 d 0) 9 5 = _ from (zV (E := E) (σ := σ) (k := 2) (d := d) (c := 0) hW hu rfl rfl rfl 5)]; rfl
  · exact by unfold g_r; rw [show g_V (zH E σ) (zL E 2 d 0) 9 6 = _ from (zV (E := E) (σ := σ) (k := 2) (d := d) (c := 0) hW hu rfl rfl rfl 6)]; rfl
  · exact zOb hW hu rfl rfl rfl
set_option maxRecDepth 20000 in
theorem zz_ma (hW : zWF E) (hu : zU E 2 d = true) : (g_r (zH E σ) (zL E 2 d 0) 9 0 = some (zL E 2 d 1)) ∧ (g_r (zH E σ) (zL E 2 d 0) 9 1 = some (zL E 2 d 3)) ∧ (g_r (zH E σ) (zL E 2 d 0) 9 2 = some (zL E 2 d 4)) ∧ (g_r (zH E σ) (zL E 2 d 0) 9 3 = some (zL E 2 d 6)) ∧ (g_r (zH E σ) (zL E 2 d 0) 9 4 = some (zL E 1 14 0)) ∧ (g_r (zH E σ) (zL E 2 d 0) 9 5 = some (zL E 0 (σ 2 d 0 5).toNat 0)) ∧ (∀ v : Nat, g_put (zH E σ) (zL E 2 d 0) 9 5 (.ref (zL E 0 v 0)) = some (zH E (zs σ 2 d 0 5 v))) ∧ (g_r (zH E σ) (zL E 2 d 0) 9 6 = some (zL E 0 (σ 2 d 0 6).toNat 0)) ∧ (∀ v : Nat, g_put (zH E σ) (zL E 2 d 0) 9 6 (.ref (zL E 0 v 0)) = some (zH E (zs σ 2 d 0 6 v))) ∧ (g_ob (zH E σ) (zL E 2 d 0) 9 = some ()) := by
  refine ⟨?_, ?_, ?_, ?_, ?_, ?_, ?_, ?_, ?_, ?_⟩
  · exact by unfold g_r; rw [show g_V (zH E σ) (zL E 2 d 0) 9 0 = _ from (zV (E := E) (σ := σ) (k := 2) (d := d) (c := 0) hW hu rfl rfl rfl 0)]; rfl
  · exact by unfold g_r; rw [show g_V (zH E σ) (zL E 2 d 0) 9 1 = _ from (zV (E := E) (σ := σ) (k := 2) (d := d) (c := 0) hW hu rfl rfl rfl 1)]; rfl
  · exact by unfold g_r; rw [show g_V (zH E σ) (zL E 2 d 0) 9 2 = _ from (zV (E := E) (σ := σ) (k := 2) (d := d) (c := 0) hW hu rfl rfl rfl 2)]; rfl
  · exact by unfold g_r; rw [show g_V (zH E σ) (zL E 2 d 0) 9 3 = _ from (zV (E := E) (σ := σ) (k := 2) (d := d) (c := 0) hW hu rfl rfl rfl 3)]; rfl
  · exact by unfold g_r; rw [show g_V (zH E σ) (zL E 2 d 0) 9 4 = _ from (zV (E := E) (σ := σ) (k := 2) (d := d) (c := 0) hW hu rfl rfl rfl 4)]; rfl
  · exact by unfold g_r; rw [show g_V (zH E σ) (zL E 2 d 0) 9 5 = _ from (zV (E := E) (σ := σ) (k := 2) (d := d) (c := 0) hW hu rfl rfl rfl 5)]; rfl
  · exact fun v => by rw [← zs_r]; exact zPut hW hu rfl rfl rfl (by simp) rfl rfl
  · exact by unfold g_r; rw [show g_V (zH E σ) (zL E 2 d 0) 9 6 = _ from (zV (E := E) (σ := σ) (k := 2) (d := d) (c := 0) hW hu rfl rfl rfl 6)]; rfl
  · exact fun v => by rw [← zs_r]; exact zPut hW hu rfl rfl rfl (by simp) rfl rfl
  · exact zOb hW hu rfl rfl rfl
theorem zg_inp0 (hW : zWF E) (hu : zU E 2 d = true) : (g_r (zH E σ) (zL E 2 d 1) 3 0 = some (zL E 2 d 2)) := by unfold g_r; rw [show g_V (zH E σ) (zL E 2 d 1) 3 0 = _ from (zV (E := E) (σ := σ) (k := 2) (d := d) (c := 1) hW hu rfl rfl rfl 0)]; rfl
theorem zg_inp1 (hW : zWF E) (hu : zU E 2 d = true) : (g_i (zH E σ) (zL E 2 d 1) 3 1 = some (zI (σ 2 d 1 1))) := by unfold g_i; rw [show g_V (zH E σ) (zL E 2 d 1) 3 1 = _ from (zV (E := E) (σ := σ) (k := 2) (d := d) (c := 1) hW hu rfl rfl rfl 1)]; rfl
theorem zp_inp1 (hW : zWF E) (hu : zU E 2 d = true) : (∀ v : Int, g_put (zH E σ) (zL E 2 d 1) 3 1 (.int (zI v)) = some (zH E (zs σ 2 d 1 1 v))) := fun v => by rw [← zs_r]; exact zPut hW hu rfl rfl rfl (by simp) rfl rfl
set_option maxRecDepth 20000 in
theorem zz_inpo (hW : zWF E) (hu : zU E 2 d = true) : (g_r (zH E σ) (zL E 2 d 1) 3 0 = some (zL E 2 d 2)) ∧ (g_ob (zH E σ) (zL E 2 d 1) 3 = some ()) := by
  refine ⟨?_, ?_⟩
  · exact by unfold g_r; rw [show g_V (zH E σ) (zL E 2 d 1) 3 0 = _ from (zV (E := E) (σ := σ) (k := 2) (d := d) (c := 1) hW hu rfl rfl rfl 0)]; rfl
  · exact zOb hW hu rfl rfl rfl
set_option maxRecDepth 20000 in
theorem zz_inp (hW : zWF E) (hu : zU E 2 d = true) : (g_r (zH E σ) (zL E 2 d 1) 3 0 = some (zL E 2 d 2)) ∧ (g_i (zH E σ) (zL E 2 d 1) 3 1 = some (zI (σ 2 d 1 1))) ∧ (∀ v : Int, g_put (zH E σ) (zL E 2 d 1) 3 1 (.int (zI v)) = some (zH E (zs σ 2 d 1 1 v))) ∧ (g_ob (zH E σ) (zL E 2 d 1) 3 = some ()) := by
  refine ⟨?_, ?_, ?_, ?_⟩
  · exact by unfold g_r; rw [show g_V (zH E σ) (zL E 2 d 1) 3 0 = _ from (zV (E := E) (σ := σ) (k := 2) (d := d) (c := 1) hW hu rfl rfl rfl 0)]; rfl
  · exact by unfold g_i; rw [show g_V (zH E σ) (zL E 2 d 1) 3 1 = _ from (zV (E := E) (σ := σ) (k := 2) (d := d) (c := 1) hW hu rfl rfl rfl 1)]; rfl
  · exact fun v => by rw [← zs_r]; exact zPut hW hu rfl rfl rfl (by simp) rfl rfl
  · exact zOb hW hu rfl rfl rfl
theorem zg_tx0 (hW : zWF E) (hu : zU E 2 d = true) : (g_i (zH E σ) (zL E 2 d 3) 4 0 = some (zI (σ 2 d 3 0))) := by unfold g_i; rw [show g_V (zH E σ) (zL E 2 d 3) 4 0 = _ from (zV (E := E) (σ := σ) (k := 2) (d := d) (c := 3) hW hu rfl rfl rfl 0)]; rfl
theorem zp_tx0 (hW : zWF E) (hu : zU E 2 d = true) : (∀ v : Int, g_put (zH E σ) (zL E 2 d 3) 4 0 (.int (zI v)) = some (zH E (zs σ 2 d 3 0 v))) := fun v => by rw [← zs_r]; exact zPut hW hu rfl rfl rfl (by simp) rfl rfl
theorem zg_tx1 (hW : zWF E) (hu : zU E 2 d = true) : (g_i (zH E σ) (zL E 2 d 3) 4 1 = some (zI (σ 2 d 3 1))) := by unfold g_i; rw [show g_V (zH E σ) (zL E 2 d 3) 4 1 = _ from (zV (E := E) (σ := σ) (k := 2) (d := d) (c := 3) hW hu rfl rfl rfl 1)]; rfl
theorem zp_tx1 (hW : zWF E) (hu : zU E 2 d = true) : (∀ v : Int, g_put (zH E σ) (zL E 2 d 3) 4 1 (.int (zI v)) = some (zH E (zs σ 2 d 3 1 v))) := fun v => by rw [← zs_r]; exact zPut hW hu rfl rfl rfl (by simp) rfl rfl
theorem zg_tx2 (hW : zWF E) (hu : zU E 2 d = true) : (g_i (zH E σ) (zL E 2 d 3) 4 2 = some (zI (σ 2 d 3 2))) := by unfold g_i; rw [show g_V (zH E σ) (zL E 2 d 3) 4 2 = _ from (zV (E := E) (σ := σ) (k := 2) (d := d) (c := 3) hW hu rfl rfl rfl 2)]; rfl
theorem zp_tx2 (hW : zWF E) (hu : zU E 2 d = true) : (∀ v : Int, g_put (zH E σ) (zL E 2 d 3) 4 2 (.int (zI v)) = some (zH E (zs σ 2 d 3 2 v))) := fun v => by rw [← zs_r]; exact zPut hW hu rfl rfl rfl (by simp) rfl rfl
theorem zg_tx3 (hW : zWF E) (hu : zU E 2 d = true) : (g_i (zH E σ) (zL E 2 d 3) 4 3 = some (zI (σ 2 d 3 3))) := by unfold g_i; rw [show g_V (zH E σ) (zL E 2 d 3) 4 3 = _ from (zV (E := E) (σ := σ) (k := 2) (d := d) (c := 3) hW hu rfl rfl rfl 3)]; rfl
theorem zp_tx3 (hW : zWF E) (hu : zU E 2 d = true) : (∀ v : Int, g_put (zH E σ) (zL E 2 d 3) 4 3 (.int (zI v)) = some (zH E (zs σ 2 d 3 3 v))) := fun v => by rw [← zs_r]; exact zPut hW hu rfl rfl rfl (by simp) rfl rfl
theorem zg_tx4 (hW : zWF E) (hu : zU E 2 d = true) : (g_i (zH E σ) (zL E 2 d 3) 4 4 = some (zI (σ 2 d 3 4))) := by unfold g_i; rw [show g_V (zH E σ) (zL E 2 d 3) 4 4 = _ from (zV (E := E) (σ := σ) (k := 2) (d := d) (c := 3) hW hu rfl rfl rfl 4)]; rfl
theorem zp_tx4 (hW : zWF E) (hu : zU E 2 d = true) : (∀ v : Int, g_put (zH E σ) (zL E 2 d 3) 4 4 (.int (zI v)) = some (zH E (zs σ 2 d 3 4 v))) := fun v => by rw [← zs_r]; exact zPut hW hu rfl rfl rfl (by simp) rfl rfl
theorem zg_tx5 (hW : zWF E) (hu : zU E 2 d = true) : (g_r (zH E σ) (zL E 2 d 3) 4 5 = some (zL E 2 d 9)) := by unfold g_r; rw [show g_V (zH E σ) (zL E 2 d 3) 4 5 = _ from (zV (E := E) (σ := σ) (k := 2) (d := d) (c := 3) hW hu rfl rfl rfl 5)]; rfl
theorem zg_tx6 (hW : zWF E) (hu : zU E 2 d = true) : (g_i (zH E σ) (zL E 2 d 3) 4 6 = some (zI (σ 2 d 3 6))) := by unfold g_i; rw [show g_V (zH E σ) (zL E 2 d 3) 4 6 = _ from (zV (E := E) (σ := σ) (k := 2) (d := d) (c := 3) hW hu rfl rfl rfl 6)]; rfl
theorem zp_tx6 (hW : zWF E) (hu : zU E 2 d = true) : (∀ v : Int, g_put (zH E σ) (zL E 2 d 3) 4 6 (.int (zI v)) = some (zH E (zs σ 2 d 3 6 v))) := fun v => by rw [← zs_r]; exact zPut hW hu rfl rfl rfl (by simp) rfl rfl
theorem zg_tx7 (hW : zWF E) (hu : zU E 2 d = true) : (g_r (zH E σ) (zL E 2 d 3) 4 7 = some (zL E 2 d 10)) := by unfold g_r; rw [show g_V (zH E σ) (zL E 2 d 3) 4 7 = _ from (zV (E := E) (σ := σ) (k := 2) (d := d) (c := 3) hW hu rfl rfl rfl 7)]; rfl
theorem zg_tx8 (hW : zWF E) (hu : zU E 2 d = true) : (g_r (zH E σ) (zL E 2 d 3) 4 8 = some (zL E 2 d 11)) := by unfold g_r; rw [show g_V (zH E σ) (zL E 2 d 3) 4 8 = _ from (zV (E := E) (σ := σ) (k := 2) (d := d) (c := 3) hW hu rfl rfl rfl 8)]; rfl
theorem zg_tx9 (hW : zWF E) (hu : zU E 2 d = true) : (g_r (zH E σ) (zL E 2 d 3) 4 9 = some (zL E 2 d 12)) := by unfold g_r; rw [show g_V (zH E σ) (zL E 2 d 3) 4 9 = _ from (zV (E := E) (σ := σ) (k := 2) (d := d) (c := 3) hW hu rfl rfl rfl 9)]; rfl
theorem zg_tx10 (hW : zWF E) (hu : zU E 2 d = true) : (g_r (zH E σ) (zL E 2 d 3) 4 10 = some (zL E 2 d 13)) := by unfold g_r; rw [show g_V (zH E σ) (zL E 2 d 3) 4 10 = _ from (zV (E := E) (σ := σ) (k := 2) (d := d) (c := 3) hW hu rfl rfl rfl 10)]; rfl
theorem zg_tx11 (hW : zWF E) (hu : zU E 2 d = true) : (g_r (zH E σ) (zL E 2 d 3) 4 11 = some (zL E 2 d 14)) := by unfold g_r; rw [show g_V (zH E σ) (zL E 2 d 3) 4 11 = _ from (zV (E := E) (σ := σ) (k := 2) (d := d) (c := 3) hW hu rfl rfl rfl 11)]; rfl
theorem zg_tx12 (hW : zWF E) (hu : zU E 2 d = true) : (g_r (zH E σ) (zL E 2 d 3) 4 12 = some (zL E 2 d 15)) := by unfold g_r; rw [show g_V (zH E σ) (zL E 2 d 3) 4 12 = _ from (zV (E := E) (σ := σ) (k := 2) (d := d) (c := 3) hW hu rfl rfl rfl 12)]; rfl
theorem zg_tx13 (hW : zWF E) (hu : zU E 2 d = true) : (g_r (zH E σ) (zL E 2 d 3) 4 13 = some (zL E 2 d 16)) := by unfold g_r; rw [show g_V (zH E σ) (zL E 2 d 3) 4 13 = _ from (zV (E := E) (σ := σ) (k := 2) (d := d) (c := 3) hW hu rfl rfl rfl 13)]; rfl
theorem zg_tx14 (hW : zWF E) (hu : zU E 2 d = true) : (g_i (zH E σ) (zL E 2 d 3) 4 14 = some (zI (σ 2 d 3 14))) := by unfold g_i; rw [show g_V (zH E σ) (zL E 2 d 3) 4 14 = _ from (zV (E := E) (σ := σ) (k := 2) (d := d) (c := 3) hW hu rfl rfl rfl 14)]; rfl
theorem zp_tx14 (hW : zWF E) (hu : zU E 2 d = true) : (∀ v : Int, g_put (zH E σ) (zL E 2 d 3) 4 14 (.int (zI v)) = some (zH E (zs σ 2 d 3 14 v))) := fun v => by rw [← zs_r]; exact zPut hW hu rfl rfl rfl (by simp) rfl rfl
set_option maxRecDepth 20000 in
theorem zz_txo (hW : zWF E) (hu : zU E 2 d = true) : (g_r (zH E σ) (zL E 2 d 3) 4 5 = some (zL E 2 d 9)) ∧ (g_r (zH E σ) (zL E 2 d 3) 4 7 = some (zL E 2 d 10)) ∧ (g_r (zH E σ) (zL E 2 d 3) 4 8 = some (zL E 2 d 11)) ∧ (g_r (zH E σ) (zL E 2 d 3) 4 9 = some (zL E 2 d 12)) ∧ (g_r (zH E σ) (zL E 2 d 3) 4 10 = some (zL E 2 d 13)) ∧ (g_r (zH E σ) (zL E 2 d 3) 4 11 = some (zL E 2 d 14)) ∧ (g_r (zH E σ) (zL E 2 d 3) 4 12 = some (zL E 2 d 15)) ∧ (g_r (zH E σ) (zL E 2 d 3) 4 13 = some (zL E 2 d 16)) ∧ (g_ob (zH E σ) (zL E 2 d 3) 4 = some ()) := by
  refine ⟨?_, ?_, ?_, ?_, ?_, ?_, ?_, ?_, ?_⟩
  · exact by unfold g_r; rw [show g_V (zH E σ) (zL E 2 d 3) 4 5 = _ from (zV (E := E) (σ := σ) (k := 2) (d := d) (c := 3) hW hu rfl rfl rfl 5)]; rfl
  · exact by unfold g_r; rw [show g_V (zH E σ) (zL E 2 d 3) 4 7 = _ from (zV (E := E) (σ := σ) (k := 2) (d := d) (c := 3) hW hu rfl rfl rfl 7)]; rfl
  · exact by unfold g_r; rw [show g_V (zH E σ) (zL E 2 d 3) 4 8 = _ from (zV (E := E) (σ := σ) (k := 2) (d := d) (c := 3) hW hu rfl rfl rfl 8)]; rfl
  · exact by unfold g_r; rw [show g_V (zH E σ) (zL E 2 d 3) 4 9 = _ from (zV (E := E) (σ := σ) (k := 2) (d := d) (c := 3) hW hu rfl rfl rfl 9)]; rfl
  · exact by unfold g_r; rw [show g_V (zH E σ) (zL E 2 d 3) 4 10 = _ from (zV (E := E) (σ := σ) (k := 2) (d := d) (c := 3) hW hu rfl rfl rfl 10)]; rfl
  · exact by unfold g_r; rw [show g_V (zH E σ) (zL E 2 d 3) 4 11 = _ from (zV (E := E) (σ := σ) (k := 2) (d := d) (c := 3) hW hu rfl rfl rfl 11)]; rfl
  · exact by unfold g_r; rw [show g_V (zH E σ) (zL E 2 d 3) 4 12 = _ from (zV (E := E) (σ := σ) (k := 2) (d := d) (c := 3) hW hu rfl rfl rfl 12)]; rfl
  · exact by unfold g_r; rw [show g_V (zH E σ) (zL E 2 d 3) 4 13 = _ from (zV (E := E) (σ := σ) (k := 2) (d := d) (c := 3) hW hu rfl rfl rfl 13)]; rfl
  · exact zOb hW hu rfl rfl rfl
set_option maxRecDepth 20000 in
theorem zz_tx (hW : zWF E) (hu : zU E 2 d = true) : (g_i (zH E σ) (zL E 2 d 3) 4 0 = some (zI (σ 2 d 3 0))) ∧ (∀ v : Int, g_put (zH E σ) (zL E 2 d 3) 4 0 (.int (zI v)) = some (zH E (zs σ 2 d 3 0 v))) ∧ (g_i (zH E σ) (zL E 2 d 3) 4 1 = some (zI (σ 2 d 3 1))) ∧ (∀ v : Int, g_put (zH E σ) (zL E 2 d 3) 4 1 (.int (zI v)) = some (zH E (zs σ 2 d 3 1 v))) ∧ (g_i (zH E σ) (zL E 2 d 3) 4 2 = some (zI (σ 2 d 3 2))) ∧ (∀ v : Int, g_put (zH E σ) (zL E 2 d 3) 4 2 (.int (zI v)) = some (zH E (zs σ 2 d 3 2 v))) ∧ (g_i (zH E σ) (zL E 2 d 3) 4 3 = some (zI (σ 2 d 3 3))) ∧ (∀ v : Int, g_put (zH E σ) (zL E 2 d 3) 4 3 (.int (zI v)) = some (zH E (zs σ 2 d 3 3 v))) ∧ (g_i (zH E σ) (zL E 2 d 3) 4 4 = some (zI (σ 2 d 3 4))) ∧ (∀ v : Int, g_put (zH E σ) (zL E 2 d 3) 4 4 (.int (zI v)) = some (zH E (zs σ 2 d 3 4 v))) ∧ (g_r (zH E σ) (zL E 2 d 3) 4 5 = some (zL E 2 d 9)) ∧ (g_i (zH E σ) (zL E 2 d 3) 4 6 = some (zI (σ 2 d 3 6))) ∧ (∀ v : Int, g_put (zH E σ) (zL E 2 d 3) 4 6 (.int (zI v)) = some (zH E (zs σ 2 d 3 6 v))) ∧ (g_r (zH E σ) (zL E 2 d 3) 4 7 = some (zL E 2 d 10)) ∧ (g_r (zH E σ) (zL E 2 d 3) 4 8 = some (zL E 2 d 11)) ∧ (g_r (zH E σ) (zL E 2 d 3) 4 9 = some (zL E 2 d 12)) ∧ (g_r (zH E σ) (zL E 2 d 3) 4 10 = some (zL E 2 d 13)) ∧ (g_r (zH E σ) (zL E 2 d 3) 4 11 = some (zL E 2 d 14)) ∧ (g_r (zH E σ) (zL E 2 d 3) 4 12 = some (zL E 2 d 15)) ∧ (g_r (zH E σ) (zL E 2 d 3) 4 13 = some (zL E 2 d 16)) ∧ (g_i (zH E σ) (zL E 2 d 3) 4 14 = some (zI (σ 2 d 3 14))) ∧ (∀ v : Int, g_put (zH E σ) (zL E 2 d 3) 4 14 (.int (zI v)) = some (zH E (zs σ 2 d 3 14 v))) ∧ (g_ob (zH E σ) (zL E 2 d 3) 4 = some ()) := by
  refine ⟨?_, ?_, ?_, ?_, ?_, ?_, ?_, ?_, ?_, ?_, ?_, ?_, ?_, ?_, ?_, ?_, ?_, ?_, ?_, ?_, ?_, ?_, ?_⟩
  · exact by unfold g_i; rw [show g_V (zH E σ) (zL E 2 d 3) 4 0 = _ from (zV (E := E) (σ := σ) (k := 2) (d := d) (c := 3) hW hu rfl rfl rfl 0)]; rfl
  · exact fun v => by rw [← zs_r]; exact zPut hW hu rfl rfl rfl (by simp) rfl rfl
  · exact by unfold g_i; rw [show g_V (zH E σ) (zL E 2 d 3) 4 1 = _ from (zV (E := E) (σ := σ) (k := 2) (d := d) (c := 3) hW hu rfl rfl rfl 1)]; rfl
  · exact fun v => by rw [← zs_r]; exact zPut hW hu rfl rfl rfl (by simp) rfl rfl
  · exact by unfold g_i; rw [show g_V (zH E σ) (zL E 2 d 3) 4 2 = _ from (zV (E := E) (σ := σ) (k := 2) (d := d) (c := 3) hW hu rfl rfl rfl 2)]; rfl
  · exact fun v => by rw [← zs_r]; exact zPut hW hu rfl rfl rfl (by simp) rfl rfl
  · exact by unfold g_i; rw [show g_V (zH E σ) (zL E 2 d 3) 4 3 = _ from (zV (E := E) (σ := σ) (k := 2) (d := d) (c := 3) hW hu rfl rfl rfl 3)]; rfl
  · exact fun v => by rw [← zs_r]; exact zPut hW hu rfl rfl rfl (by simp) rfl rfl
  · exact by unfold g_i; rw [show g_V (zH E σ) (zL E 2 d 3) 4 4 = _ from (zV (E := E) (σ := σ) (k := 2) (d := d) (c := 3) hW hu rfl rfl rfl 4)]; rfl
  · exact fun v => by rw [← zs_r]; exact zPut hW hu rfl rfl rfl (by simp) rfl rfl
  · exact by unfold g_r; rw [show g_V (zH E σ) (zL E 2 d 3) 4 5 = _ from (zV (E := E) (σ := σ) (k := 2) (d := d) (c := 3) hW hu rfl rfl rfl 5)]; rfl
  · exact by unfold g_i; rw [show g_V (zH E σ) (zL E 2 d 3) 4 6 = _ from (zV (E := E) (σ := σ) (k := 2) (d := d) (c := 3) hW hu rfl rfl rfl 6)]; rfl
  · exact fun v => by rw [← zs_r]; exact zPut hW hu rfl rfl rfl (by simp) rfl rfl
  · exact by unfold g_r; rw [show g_V (zH E σ) (zL E 2 d 3) 4 7 = _ from (zV (E := E) (σ := σ) (k := 2) (d := d) (c := 3) hW hu rfl rfl rfl 7)]; rfl
  · exact by unfold g_r; rw [show g_V (zH E σ) (zL E 2 d 3) 4 8 = _ from (zV (E := E) (σ := σ) (k := 2) (d := d) (c := 3) hW hu rfl rfl rfl 8)]; rfl
  · exact by unfold g_r; rw [show g_V (zH E σ) (zL E 2 d 3) 4 9 = _ from (zV (E := E) (σ := σ) (k := 2) (d := d) (c := 3) hW hu rfl rfl rfl 9)]; rfl
  · exact by unfold g_r; rw [show g_V (zH E σ) (zL E 2 d 3) 4 10 = _ from (zV (E := E) (σ := σ) (k := 2) (d := d) (c := 3) hW hu rfl rfl rfl 10)]; rfl
  · exact by unfold g_r; rw [show g_V (zH E σ) (zL E 2 d 3) 4 11 = _ from (zV (E := E) (σ := σ) (k := 2) (d := d) (c := 3) hW hu rfl rfl rfl 11)]; rfl
  · exact by unfold g_r; rw [show g_V (zH E σ) (zL E 2 d 3) 4 12 = _ from (zV (E := E) (σ := σ) (k := 2) (d := d) (c := 3) hW hu rfl rfl rfl 12)]; rfl
  · exact by unfold g_r; rw [show g_V (zH E σ) (zL E 2 d 3) 4 13 = _ from (zV (E := E) (σ := σ) (k := 2) (d := d) (c := 3) hW hu rfl rfl rfl 13)]; rfl
  · exact by unfold g_i; rw [show g_V (zH E σ) (zL E 2 d 3) 4 14 = _ from (zV (E := E) (σ := σ) (k := 2) (d := d) (c := 3) hW hu rfl rfl rfl 14)]; rfl
  · exact fun v => by rw [← zs_r]; exact zPut hW hu rfl rfl rfl (by simp) rfl rfl
  · exact zOb hW hu rfl rfl rfl
theorem zg_hi0 (hW : zWF E) (hu : zU E 2 d = true) : (g_i (zH E σ) (zL E 2 d 4) 2 0 = some (zI (σ 2 d 4 0))) := by unfold g_i; rw [show g_V (zH E σ) (zL E 2 d 4) 2 0 = _ from (zV (E := E) (σ := σ) (k := 2) (d := d) (c := 4) hW hu rfl rfl rfl 0)]; rfl
theorem zp_hi0 (hW : zWF E) (hu : zU E 2 d = true) : (∀ v : Int, g_put (zH E σ) (zL E 2 d 4) 2 0 (.int (zI v)) = some (zH E (zs σ 2 d 4 0 v))) := fun v => by rw [← zs_r]; exact zPut hW hu rfl rfl rfl (by simp) rfl rfl
theorem zg_hi1 (hW : zWF E) (hu : zU E 2 d = true) : (g_i (zH E σ) (zL E 2 d 4) 2 1 = some (zI (σ 2 d 4 1))) := by unfold g_i; rw [show g_V (zH E σ) (zL E 2 d 4) 2 1 = _ from (zV (E := E) (σ := σ) (k := 2) (d := d) (c := 4) hW hu rfl rfl rfl 1)]; rfl
theorem zp_hi1 (hW : zWF E) (hu : zU E 2 d = true) : (∀ v : Int, g_put (zH E σ) (zL E 2 d 4) 2 1 (.int (zI v)) = some (zH E (zs σ 2 d 4 1 v))) := fun v => by rw [← zs_r]; exact zPut hW hu rfl rfl rfl (by simp) rfl rfl
theorem zg_hi2 (hW : zWF E) (hu : zU E 2 d = true) : (g_r (zH E σ) (zL E 2 d 4) 2 2 = some (zL E 2 d 5)) := by unfold g_r; rw [show g_V (zH E σ) (zL E 2 d 4) 2 2 = _ from (zV (E := E) (σ := σ) (k := 2) (d := d) (c := 4) hW hu rfl rfl rfl 2)]; rfl
set_option maxRecDepth 20000 in
theorem zz_hio (hW : zWF E) (hu : zU E 2 d = true) : (g_r (zH E σ) (zL E 2 d 4) 2 2 = some (zL E 2 d 5)) ∧ (g_ob (zH E σ) (zL E 2 d 4) 2 = some ()) := by
  refine ⟨?_, ?_⟩
  · exact by unfold g_r; rw [show g_V (zH E σ) (zL E 2 d 4) 2 2 = _ from (zV (E := E) (σ := σ) (k := 2) (d := d) (c := 4) hW hu rfl rfl rfl 2)]; rfl
  · exact zOb hW hu rfl rfl rfl
set_option maxRecDepth 20000 in
theorem zz_hi (hW : zWF E) (hu : zU E 2 d = true) : (g_i (zH E σ) (zL E 2 d 4) 2 0 = some (zI (σ 2 d 4 0))) ∧ (∀ v : Int, g_put (zH E σ) (zL E 2 d 4) 2 0 (.int (zI v)) = some (zH E (zs σ 2 d 4 0 v))) ∧ (g_i (zH E σ) (zL E 2 d 4) 2 1 = some (zI (σ 2 d 4 1))) ∧ (∀ v : Int, g_put (zH E σ) (zL E 2 d 4) 2 1 (.int (zI v)) = some (zH E (zs σ 2 d 4 1 v))) ∧ (g_r (zH E σ) (zL E 2 d 4) 2 2 = some (zL E 2 d 5)) ∧ (g_ob (zH E σ) (zL E 2 d 4) 2 = some ()) := by
  refine ⟨?_, ?_, ?_, ?_, ?_, ?_⟩
  · exact by unfold g_i; rw [show g_V (zH E σ) (zL E 2 d 4) 2 0 = _ from (zV (E := E) (σ := σ) (k := 2) (d := d) (c := 4) hW hu rfl rfl rfl 0)]; rfl
  · exact fun v => by rw [← zs_r]; exact zPut hW hu rfl rfl rfl (by simp) rfl rfl
  · exact by unfold g_i; rw [show g_V (zH E σ) (zL E 2 d 4) 2 1 = _ from (zV (E := E) (σ := σ) (k := 2) (d := d) (c := 4) hW hu rfl rfl rfl 1)]; rfl
  · exact fun v => by rw [← zs_r]; exact zPut hW hu rfl rfl rfl (by simp) rfl rfl
  · exact by unfold g_r; rw [show g_V (zH E σ) (zL E 2 d 4) 2 2 = _ from (zV (E := E) (σ := σ) (k := 2) (d := d) (c := 4) hW hu rfl rfl rfl 2)]; rfl
  · exact zOb hW hu rfl rfl rfl
theorem zg_sn0 (hW : zWF E) (hu : zU E 2 d = true) : (g_r (zH E σ) (zL E 2 d 6) 6 0 = some (zL E 2 d 7)) := by unfold g_r; rw [show g_V (zH E σ) (zL E 2 d 6) 6 0 = _ from (zV (E := E) (σ := σ) (k := 2) (d := d) (c := 6) hW hu rfl rfl rfl 0)]; rfl
theorem zg_sn1 (hW : zWF E) (hu : zU E 2 d = true) : (g_r (zH E σ) (zL E 2 d 6) 6 1 = some (zL E 2 d 8)) := by unfold g_r; rw [show g_V (zH E σ) (zL E 2 d 6) 6 1 = _ from (zV (E := E) (σ := σ) (k := 2) (d := d) (c := 6) hW hu rfl rfl rfl 1)]; rfl
set_option maxRecDepth 20000 in
theorem zz_sno (hW : zWF E) (hu : zU E 2 d = true) : (g_r (zH E σ) (zL E 2 d 6) 6 0 = some (zL E 2 d 7)) ∧ (g_r (zH E σ) (zL E 2 d 6) 6 1 = some (zL E 2 d 8)) ∧ (g_ob (zH E σ) (zL E 2 d 6) 6 = some ()) := by
  refine ⟨?_, ?_, ?_⟩
  · exact by unfold g_r; rw [show g_V (zH E σ) (zL E 2 d 6) 6 0 = _ from (zV (E := E) (σ := σ) (k := 2) (d := d) (c := 6) hW hu rfl rfl rfl 0)]; rfl
  · exact by unfold g_r; rw [show g_V (zH E σ) (zL E 2 d 6) 6 1 = _ from (zV (E := E) (σ := σ) (k := 2) (d := d) (c := 6) hW hu rfl rfl rfl 1)]; rfl
  · exact zOb hW hu rfl rfl rfl
set_option maxRecDepth 20000 in
theorem zz_sn (hW : zWF E) (hu : zU E 2 d = true) : (g_r (zH E σ) (zL E 2 d 6) 6 0 = some (zL E 2 d 7)) ∧ (g_r (zH E σ) (zL E 2 d 6) 6 1 = some (zL E 2 d 8)) ∧ (g_ob (zH E σ) (zL E 2 d 6) 6 = some ()) := by
  refine ⟨?_, ?_, ?_⟩
  · exact by unfold g_r; rw [show g_V (zH E σ) (zL E 2 d 6) 6 0 = _ from (zV (E := E) (σ := σ) (k := 2) (d := d) (c := 6) hW hu rfl rfl rfl 0)]; rfl
  · exact by unfold g_r; rw [show g_V (zH E σ) (zL E 2 d 6) 6 1 = _ from (zV (E := E) (σ := σ) (k := 2) (d := d) (c := 6) hW hu rfl rfl rfl 1)]; rfl
  · exact zOb hW hu rfl rfl rfl
theorem zg_tk0 (hW : zWF E) (hu : zU E 2 d = true) : (g_i (zH E σ) (zL E 2 d 16) 11 0 = some (zI (σ 2 d 16 0))) := by unfold g_i; rw [show g_V (zH E σ) (zL E 2 d 16) 11 0 = _ from (zV (E := E) (σ := σ) (k := 2) (d := d) (c := 16) hW hu rfl rfl rfl 0)]; rfl
theorem zp_tk0 (hW : zWF E) (hu : zU E 2 d = true) : (∀ v : Int, g_put (zH E σ) (zL E 2 d 16) 11 0 (.int (zI v)) = some (zH E (zs σ 2 d 16 0 v))) := fun v => by rw [← zs_r]; exact zPut hW hu rfl rfl rfl (by simp) rfl rfl
theorem zg_tk1 (hW : zWF E) (hu : zU E 2 d = true) : (g_i (zH E σ) (zL E 2 d 16) 11 1 = some (zI (σ 2 d 16 1))) := by unfold g_i; rw [show g_V (zH E σ) (zL E 2 d 16) 11 1 = _ from (zV (E := E) (σ := σ) (k := 2) (d := d) (c := 16) hW hu rfl rfl rfl 1)]; rfl
theorem zp_tk1 (hW : zWF E) (hu : zU E 2 d = true) : (∀ v : Int, g_put (zH E σ) (zL E 2 d 16) 11 1 (.int (zI v)) = some (zH E (zs σ 2 d 16 1 v))) := fun v => by rw [← zs_r]; exact zPut hW hu rfl rfl rfl (by simp) rfl rfl
theorem zg_tk2 (hW : zWF E) (hu : zU E 2 d = true) : (g_r (zH E σ) (zL E 2 d 16) 11 2 = some (zL E 2 d 17)) := by unfold g_r; rw [show g_V (zH E σ) (zL E 2 d 16) 11 2 = _ from (zV (E := E) (σ := σ) (k := 2) (d := d) (c := 16) hW hu rfl rfl rfl 2)]; rfl
theorem zg_tk3 (hW : zWF E) (hu : zU E 2 d = true) : (g_r (zH E σ) (zL E 2 d 16) 11 3 = some (zL E 2 d 18)) := by unfold g_r; rw [show g_V (zH E σ) (zL E 2 d 16) 11 3 = _ from (zV (E := E) (σ := σ) (k := 2) (d := d) (c := 16) hW hu rfl rfl rfl 3)]; rfl
theorem zg_tk4 (hW : zWF E) (hu : zU E 2 d = true) : (g_r (zH E σ) (zL E 2 d 16) 11 4 = some (zL E 2 d 19)) := by unfold g_r; rw [show g_V (zH E σ) (zL E 2 d 16) 11 4 = _ from (zV (E := E) (σ := σ) (k := 2) (d := d) (c := 16) hW hu rfl rfl rfl 4)]; rfl
set_option maxRecDepth 20000 in
theorem zz_tko (hW : zWF E) (hu : zU E 2 d = true) : (g_r (zH E σ) (zL E 2 d 16) 11 2 = some (zL E 2 d 17)) ∧ (g_r (zH E σ) (zL E 2 d 16) 11 3 = some (zL E 2 d 18)) ∧ (g_r (zH E σ) (zL E 2 d 16) 11 4 = some (zL E 2 d 19)) ∧ (g_ob (zH E σ) (zL E 2 d 16) 11 = some ()) := by
  refine ⟨?_, ?_, ?_, ?_⟩
  · exact by unfold g_r; rw [show g_V (zH E σ) (zL E 2 d 16) 11 2 = _ from (zV (E := E) (σ := σ) (k := 2) (d := d) (c := 16) hW hu rfl rfl rfl 2)]; rfl
  · exact by unfold g_r; rw [show g_V (zH E σ) (zL E 2 d 16) 11 3 = _ from (zV (E := E) (σ := σ) (k := 2) (d := d) (c := 16) hW hu rfl rfl rfl 3)]; rfl
  · exact by unfold g_r; rw [show g_V (zH E σ) (zL E 2 d 16) 11 4 = _ from (zV (E := E) (σ := σ) (k := 2) (d := d) (c := 16) hW hu rfl rfl rfl 4)]; rfl
  · exact zOb hW hu rfl rfl rfl
set_option maxRecDepth 20000 in
theorem zz_tk (hW : zWF E) (hu : zU E 2 d = true) : (g_i (zH E σ) (zL E 2 d 16) 11 0 = some (zI (σ 2 d 16 0))) ∧ (∀ v : Int, g_put (zH E σ) (zL E 2 d 16) 11 0 (.int (zI v)) = some (zH E (zs σ 2 d 16 0 v))) ∧ (g_i (zH E σ) (zL E 2 d 16) 11 1 = some (zI (σ 2 d 16 1))) ∧ (∀ v : Int, g_put (zH E σ) (zL E 2 d 16) 11 1 (.int (zI v)) = some (zH E (zs σ 2 d 16 1 v))) ∧ (g_r (zH E σ) (zL E 2 d 16) 11 2 = some (zL E 2 d 17)) ∧ (g_r (zH E σ) (zL E 2 d 16) 11 3 = some (zL E 2 d 18)) ∧ (g_r (zH E σ) (zL E 2 d 16) 11 4 = some (zL E 2 d 19)) ∧ (g_ob (zH E σ) (zL E 2 d 16) 11 = some ()) := by
  refine ⟨?_, ?_, ?_, ?_, ?_, ?_, ?_, ?_⟩
  · exact by unfold g_i; rw [show g_V (zH E σ) (zL E 2 d 16) 11 0 = _ from (zV (E := E) (σ := σ) (k := 2) (d := d) (c := 16) hW hu rfl rfl rfl 0)]; rfl
  · exact fun v => by rw [← zs_r]; exact zPut hW hu rfl rfl rfl (by simp) rfl rfl
  · exact by unfold g_i; rw [show g_V (zH E σ) (zL E 2 d 16) 11 1 = _ from (zV (E := E) (σ := σ) (k := 2) (d := d) (c := 16) hW hu rfl rfl rfl 1)]; rfl
  · exact fun v => by rw [← zs_r]; exact zPut hW hu rfl rfl rfl (by simp) rfl rfl
  · exact by unfold g_r; rw [show g_V (zH E σ) (zL E 2 d 16) 11 2 = _ from (zV (E := E) (σ := σ) (k := 2) (d := d) (c := 16) hW hu rfl rfl rfl 2)]; rfl
  · exact by unfold g_r; rw [show g_V (zH E σ) (zL E 2 d 16) 11 3 = _ from (zV (E := E) (σ := σ) (k := 2) (d := d) (c := 16) hW hu rfl rfl rfl 3)]; rfl
  · exact by unfold g_r; rw [show g_V (zH E σ) (zL E 2 d 16) 11 4 = _ from (zV (E := E) (σ := σ) (k := 2) (d := d) (c := 16) hW hu rfl rfl rfl 4)]; rfl
  · exact zOb hW hu rfl rfl rfl
theorem zg_md0 (hW : zWF E) (hu : zU E 3 d = true) : (g_i (zH E σ) (zL E 3 d 0) 10 0 = some (zI (σ 3 d 0 0))) := by unfold g_i; rw [show g_V (zH E σ) (zL E 3 d 0) 10 0 = _ from (zV (E := E) (σ := σ) (k := 3) (d := d) (c := 0) hW hu rfl rfl rfl 0)]; rfl
theorem zp_md0 (hW : zWF E) (hu : zU E 3 d = true) : (∀ v : Int, g_put (zH E σ) (zL E 3 d 0) 10 0 (.int (zI v)) = some (zH E (zs σ 3 d 0 0 v))) := fun v => by rw [← zs_r]; exact zPut hW hu rfl rfl rfl (by simp) rfl rfl
theorem zg_md1 (hW : zWF E) (hu : zU E 3 d = true) : (g_r (zH E σ) (zL E 3 d 0) 10 1 = some (zL E 3 d 1)) := by unfold g_r; rw [show g_V (zH E σ) (zL E 3 d 0) 10 1 = _ from (zV (E := E) (σ := σ) (k := 3) (d := d) (c := 0) hW hu rfl rfl rfl 1)]; rfl
theorem zg_md2 (hW : zWF E) (hu : zU E 3 d = true) : (g_r (zH E σ) (zL E 3 d 0) 10 2 = some (zL E 3 d 2)) := by unfold g_r; rw [show g_V (zH E σ) (zL E 3 d 0) 10 2 = _ from (zV (E := E) (σ := σ) (k := 3) (d := d) (c := 0) hW hu rfl rfl rfl 2)]; rfl
theorem zg_md3 (hW : zWF E) (hu : zU E 3 d = true) : (g_r (zH E σ) (zL E 3 d 0) 10 3 = some (zL E 3 d 3)) := by unfold g_r; rw [show g_V (zH E σ) (zL E 3 d 0) 10 3 = _ from (zV (E := E) (σ := σ) (k := 3) (d := d) (c := 0) hW hu rfl rfl rfl 3)]; rfl
theorem zg_md4 (hW : zWF E) (hu : zU E 3 d = true) : (g_i (zH E σ) (zL E 3 d 0) 10 4 = some (zI (σ 3 d 0 4))) := by unfold g_i; rw [show g_V (zH E σ) (zL E 3 d 0) 10 4 = _ from (zV (E := E) (σ := σ) (k := 3) (d := d) (c := 0) hW hu rfl rfl rfl 4)]; rfl
theorem zp_md4 (hW : zWF E) (hu : zU E 3 d = true) : (∀ v : Int, g_put (zH E σ) (zL E 3 d 0) 10 4 (.int (zI v)) = some (zH E (zs σ 3 d 0 4 v))) := fun v => by rw [← zs_r]; exact zPut hW hu rfl rfl rfl (by simp) rfl rfl
theorem zg_md5 (hW : zWF E) (hu : zU E 3 d = true) : (g_i (zH E σ) (zL E 3 d 0) 10 5 = some (zI (σ 3 d 0 5))) := by unfold g_i; rw [show g_V (zH E σ) (zL E 3 d 0) 10 5 = _ from (zV (E := E) (σ := σ) (k := 3) (d := d) (c := 0) hW hu rfl rfl rfl 5)]; rfl
theorem zp_md5 (hW : zWF E) (hu : zU E 3 d = true) : (∀ v : Int, g_put (zH E σ) (zL E 3 d 0) 10 5 (.int (zI v)) = some (zH E (zs σ 3 d 0 5 v))) := fun v => by rw [← zs_r]; exact zPut hW hu rfl rfl rfl (by simp) rfl rfl
theorem zg_md6 (hW : zWF E) (hu : zU E 3 d = true) : (g_i (zH E σ) (zL E 3 d 0) 10 6 = some (zI (σ 3 d 0 6))) := by unfold g_i; rw [show g_V (zH E σ) (zL E 3 d 0) 10 6 = _ from (zV (E := E) (σ := σ) (k := 3) (d := d) (c := 0) hW hu rfl rfl rfl 6)]; rfl
theorem zp_md6 (hW : zWF E) (hu : zU E 3 d = true) : (∀ v : Int, g_put (zH E σ) (zL E 3 d 0) 10 6 (.int (zI v)) = some (zH E (zs σ 3 d 0 6 v))) := fun v => by rw [← zs_r]; exact zPut hW hu rfl rfl rfl (by simp) rfl rfl
theorem zg_md7 (hW : zWF E) (hu : zU E 3 d = true) : (g_i (zH E σ) (zL E 3 d 0) 10 7 = some (zI (σ 3 d 0 7))) := by unfold g_i; rw [show g_V (zH E σ) (zL E 3 d 0) 10 7 = _ from (zV (E := E) (σ := σ) (k := 3) (d := d) (c := 0) hW hu rfl rfl rfl 7)]; rfl
theorem zp_md7 (hW : zWF E) (hu : zU E 3 d = true) : (∀ v : Int, g_put (zH E σ) (zL E 3 d 0) 10 7 (.int (zI v)) = some (zH E (zs σ 3 d 0 7 v))) := fun v => by rw [← zs_r]; exact zPut hW hu rfl rfl rfl (by simp) rfl rfl
theorem zg_md8 (hW : zWF E) (hu : zU E 3 d = true) : (g_i (zH E σ) (zL E 3 d 0) 10 8 = some (zI (σ 3 d 0 8))) := by unfold g_i; rw [show g_V (zH E σ) (zL E 3 d 0) 10 8 = _ from (zV (E := E) (σ := σ) (k := 3) (d := d) (c := 0) hW hu rfl rfl rfl 8)]; rfl
theorem zp_md8 (hW : zWF E) (hu : zU E 3 d = true) : (∀ v : Int, g_put (zH E σ) (zL E 3 d 0) 10 8 (.int (zI v)) = some (zH E (zs σ 3 d 0 8 v))) := fun v => by rw [← zs_r]; exact zPut hW hu rfl rfl rfl (by simp) rfl rfl
theorem zg_md9 (hW : zWF E) (hu : zU E 3 d = true) : (g_i (zH E σ) (zL E 3 d 0) 10 9 = some (zI (σ 3 d 0 9))) := by unfold g_i; rw [show g_V (zH E σ) (zL E 3 d 0) 10 9 = _ from (zV (E := E) (σ := σ) (k := 3) (d := d) (c := 0) hW hu rfl rfl rfl 9)]; rfl
theorem zp_md9 (hW : zWF E) (hu : zU E 3 d = true) : (∀ v : Int, g_put (zH E σ) (zL E 3 d 0) 10 9 (.int (zI v)) = some (zH E (zs σ 3 d 0 9 v))) := fun v => by rw [← zs_r]; exact zPut hW hu rfl rfl rfl (by simp) rfl rfl
theorem zg_md10 (hW : zWF E) (hu : zU E 3 d = true) : (g_j (zH E σ) (zL E 3 d 0) 10 10 = some (zJ (σ 3 d 0 10))) := by unfold g_j; rw [show g_V (zH E σ) (zL E 3 d 0) 10 10 = _ from (zV (E := E) (σ := σ) (k := 3) (d := d) (c := 0) hW hu rfl rfl rfl 10)]; rfl
theorem zp_md10 (hW : zWF E) (hu : zU E 3 d = true) : (∀ v : Int, g_put (zH E σ) (zL E 3 d 0) 10 10 (.long (zJ v)) = some (zH E (zs σ 3 d 0 10 v))) := fun v => by rw [← zs_r]; exact zPut hW hu rfl rfl rfl (by simp) rfl rfl
theorem zg_md11 (hW : zWF E) (hu : zU E 3 d = true) : (g_i (zH E σ) (zL E 3 d 0) 10 11 = some (zI (σ 3 d 0 11))) := by unfold g_i; rw [show g_V (zH E σ) (zL E 3 d 0) 10 11 = _ from (zV (E := E) (σ := σ) (k := 3) (d := d) (c := 0) hW hu rfl rfl rfl 11)]; rfl
theorem zp_md11 (hW : zWF E) (hu : zU E 3 d = true) : (∀ v : Int, g_put (zH E σ) (zL E 3 d 0) 10 11 (.int (zI v)) = some (zH E (zs σ 3 d 0 11 v))) := fun v => by rw [← zs_r]; exact zPut hW hu rfl rfl rfl (by simp) rfl rfl
theorem zg_md12 (hW : zWF E) (hu : zU E 3 d = true) : (g_i (zH E σ) (zL E 3 d 0) 10 12 = some (zI (σ 3 d 0 12))) := by unfold g_i; rw [show g_V (zH E σ) (zL E 3 d 0) 10 12 = _ from (zV (E := E) (σ := σ) (k := 3) (d := d) (c := 0) hW hu rfl rfl rfl 12)]; rfl
theorem zp_md12 (hW : zWF E) (hu : zU E 3 d = true) : (∀ v : Int, g_put (zH E σ) (zL E 3 d 0) 10 12 (.int (zI v)) = some (zH E (zs σ 3 d 0 12 v))) := fun v => by rw [← zs_r]; exact zPut hW hu rfl rfl rfl (by simp) rfl rfl
theorem zg_md13 (hW : zWF E) (hu : zU E 3 d = true) : (g_i (zH E σ) (zL E 3 d 0) 10 13 = some (zI (σ 3 d 0 13))) := by unfold g_i; rw [show g_V (zH E σ) (zL E 3 d 0) 10 13 = _ from (zV (E := E) (σ := σ) (k := 3) (d := d) (c := 0) hW hu rfl rfl rfl 13)]; rfl
theorem zp_md13 (hW : zWF E) (hu : zU E 3 d = true) : (∀ v : Int, g_put (zH E σ) (zL E 3 d 0) 10 13 (.int (zI v)) = some (zH E (zs σ 3 d 0 13 v))) := fun v => by rw [← zs_r]; exact zPut hW hu rfl rfl rfl (by simp) rfl rfl
theorem zg_md14 (hW : zWF E) (hu : zU E 3 d = true) : (g_r (zH E σ) (zL E 3 d 0) 10 14 = some (zL E 3 d 14)) := by unfold g_r; rw [show g_V (zH E σ) (zL E 3 d 0) 10 14 = _ from (zV (E := E) (σ := σ) (k := 3) (d := d) (c := 0) hW hu rfl rfl rfl 14)]; rfl
theorem zg_md15 (hW : zWF E) (hu : zU E 3 d = true) : (g_r (zH E σ) (zL E 3 d 0) 10 15 = some (zL E 3 d 15)) := by unfold g_r; rw [show g_V (zH E σ) (zL E 3 d 0) 10 15 = _ from (zV (E := E) (σ := σ) (k := 3) (d := d) (c := 0) hW hu rfl rfl rfl 15)]; rfl
theorem zg_md16 (hW : zWF E) (hu : zU E 3 d = true) : (g_i (zH E σ) (zL E 3 d 0) 10 16 = some (zI (σ 3 d 0 16))) := by unfold g_i; rw [show g_V (zH E σ) (zL E 3 d 0) 10 16 = _ from (zV (E := E) (σ := σ) (k := 3) (d := d) (c := 0) hW hu rfl rfl rfl 16)]; rfl
theorem zp_md16 (hW : zWF E) (hu : zU E 3 d = true) : (∀ v : Int, g_put (zH E σ) (zL E 3 d 0) 10 16 (.int (zI v)) = some (zH E (zs σ 3 d 0 16 v))) := fun v => by rw [← zs_r]; exact zPut hW hu rfl rfl rfl (by simp) rfl rfl
theorem zg_md17 (hW : zWF E) (hu : zU E 3 d = true) : (g_r (zH E σ) (zL E 3 d 0) 10 17 = some (zL E 3 d 17)) := by unfold g_r; rw [show g_V (zH E σ) (zL E 3 d 0) 10 17 = _ from (zV (E := E) (σ := σ) (k := 3) (d := d) (c := 0) hW hu rfl rfl rfl 17)]; rfl
theorem zg_md18 (hW : zWF E) (hu : zU E 3 d = true) : (g_i (zH E σ) (zL E 3 d 0) 10 18 = some (zI (σ 3 d 0 18))) := by unfold g_i; rw [show g_V (zH E σ) (zL E 3 d 0) 10 18 = _ from (zV (E := E) (σ := σ) (k := 3) (d := d) (c := 0) hW hu rfl rfl rfl 18)]; rfl
theorem zp_md18 (hW : zWF E) (hu : zU E 3 d = true) : (∀ v : Int, g_put (zH E σ) (zL E 3 d 0) 10 18 (.int (zI v)) = some (zH E (zs σ 3 d 0 18 v))) := fun v => by rw [← zs_r]; exact zPut hW hu rfl rfl rfl (by simp) rfl rfl
theorem zg_md19 (hW : zWF E) (hu : zU E 3 d = true) : (g_i (zH E σ) (zL E 3 d 0) 10 19 = some (zI (σ 3 d 0 19))) := by unfold g_i; rw [show g_V (zH E σ) (zL E 3 d 0) 10 19 = _ from (zV (E := E) (σ := σ) (k := 3) (d := d) (c := 0) hW hu rfl rfl rfl 19)]; rfl
theorem zp_md19 (hW : zWF E) (hu : zU E 3 d = true) : (∀ v : Int, g_put (zH E σ) (zL E 3 d 0) 10 19 (.int (zI v)) = some (zH E (zs σ 3 d 0 19 v))) := fun v => by rw [← zs_r]; exact zPut hW hu rfl rfl rfl (by simp) rfl rfl
theorem zg_md20 (hW : zWF E) (hu : zU E 3 d = true) : (g_i (zH E σ) (zL E 3 d 0) 10 20 = some (zI (σ 3 d 0 20))) := by unfold g_i; rw [show g_V (zH E σ) (zL E 3 d 0) 10 20 = _ from (zV (E := E) (σ := σ) (k := 3) (d := d) (c := 0) hW hu rfl rfl rfl 20)]; rfl
theorem zp_md20 (hW : zWF E) (hu : zU E 3 d = true) : (∀ v : Int, g_put (zH E σ) (zL E 3 d 0) 10 20 (.int (zI v)) = some (zH E (zs σ 3 d 0 20 v))) := fun v => by rw [← zs_r]; exact zPut hW hu rfl rfl rfl (by simp) rfl rfl
theorem zg_md21 (hW : zWF E) (hu : zU E 3 d = true) : (g_r (zH E σ) (zL E 3 d 0) 10 21 = some (zL E 3 d 21)) := by unfold g_r; rw [show g_V (zH E σ) (zL E 3 d 0) 10 21 = _ from (zV (E := E) (σ := σ) (k := 3) (d := d) (c := 0) hW hu rfl rfl rfl 21)]; rfl
theorem zg_md22 (hW : zWF E) (hu : zU E 3 d = true) : (g_i (zH E σ) (zL E 3 d 0) 10 22 = some (zI (σ 3 d 0 22))) := by unfold g_i; rw [show g_V (zH E σ) (zL E 3 d 0) 10 22 = _ from (zV (E := E) (σ := σ) (k := 3) (d := d) (c := 0) hW hu rfl rfl rfl 22)]; rfl
theorem zp_md22 (hW : zWF E) (hu : zU E 3 d = true) : (∀ v : Int, g_put (zH E σ) (zL E 3 d 0) 10 22 (.int (zI v)) = some (zH E (zs σ 3 d 0 22 v))) := fun v => by rw [← zs_r]; exact zPut hW hu rfl rfl rfl (by simp) rfl rfl
theorem zg_md23 (hW : zWF E) (hu : zU E 3 d = true) : (g_r (zH E σ) (zL E 3 d 0) 10 23 = some (zL E 3 d 23)) := by unfold g_r; rw [show g_V (zH E σ) (zL E 3 d 0) 10 23 = _ from (zV (E := E) (σ := σ) (k := 3) (d := d) (c := 0) hW hu rfl rfl rfl 23)]; rfl
theorem zg_md24 (hW : zWF E) (hu : zU E 3 d = true) : (g_i (zH E σ) (zL E 3 d 0) 10 24 = some (zI (σ 3 d 0 24))) := by unfold g_i; rw [show g_V (zH E σ) (zL E 3 d 0) 10 24 = _ from (zV (E := E) (σ := σ) (k := 3) (d := d) (c := 0) hW hu rfl rfl rfl 24)]; rfl
theorem zp_md24 (hW : zWF E) (hu : zU E 3 d = true) : (∀ v : Int, g_put (zH E σ) (zL E 3 d 0) 10 24 (.int (zI v)) = some (zH E (zs σ 3 d 0 24 v))) := fun v => by rw [← zs_r]; exact zPut hW hu rfl rfl rfl (by simp) rfl rfl
theorem zg_md25 (hW : zWF E) (hu : zU E 3 d = true) : (g_r (zH E σ) (zL E 3 d 0) 10 25 = some (zL E 3 d 25)) := by unfold g_r; rw [show g_V (zH E σ) (zL E 3 d 0) 10 25 = _ from (zV (E := E) (σ := σ) (k := 3) (d := d) (c := 0) hW hu rfl rfl rfl 25)]; rfl
theorem zg_md26 (hW : zWF E) (hu : zU E 3 d = true) : (g_r (zH E σ) (zL E 3 d 0) 10 26 = some (zL E 3 d 26)) := by unfold g_r; rw [show g_V (zH E σ) (zL E 3 d 0) 10 26 = _ from (zV (E := E) (σ := σ) (k := 3) (d := d) (c := 0) hW hu rfl rfl rfl 26)]; rfl
theorem zg_md27 (hW : zWF E) (hu : zU E 3 d = true) : (g_r (zH E σ) (zL E 3 d 0) 10 27 = some (zL E 3 d 27)) := by unfold g_r; rw [show g_V (zH E σ) (zL E 3 d 0) 10 27 = _ from (zV (E := E) (σ := σ) (k := 3) (d := d) (c := 0) hW hu rfl rfl rfl 27)]; rfl
set_option maxRecDepth 20000 in
theorem zz_mdo (hW : zWF E) (hu : zU E 3 d = true) : (g_r (zH E σ) (zL E 3 d 0) 10 1 = some (zL E 3 d 1)) ∧ (g_r (zH E σ) (zL E 3 d 0) 10 2 = some (zL E 3 d 2)) ∧ (g_r (zH E σ) (zL E 3 d 0) 10 3 = some (zL E 3 d 3)) ∧ (g_r (zH E σ) (zL E 3 d 0) 10 14 = some (zL E 3 d 14)) ∧ (g_r (zH E σ) (zL E 3 d 0) 10 15 = some (zL E 3 d 15)) ∧ (g_r (zH E σ) (zL E 3 d 0) 10 17 = some (zL E 3 d 17)) ∧ (g_r (zH E σ) (zL E 3 d 0) 10 21 = some (zL E 3 d 21)) ∧ (g_r (zH E σ) (zL E 3 d 0) 10 23 = some (zL E 3 d 23)) ∧ (g_r (zH E σ) (zL E 3 d 0) 10 25 = some (zL E 3 d 25)) ∧ (g_r (zH E σ) (zL E 3 d 0) 10 26 = some (zL E 3 d 26)) ∧ (g_r (zH E σ) (zL E 3 d 0) 10 27 = some (zL E 3 d 27)) ∧ (g_ob (zH E σ) (zL E 3 d 0) 10 = some ()) := by
  refine ⟨?_, ?_, ?_, ?_, ?_, ?_, ?_, ?_, ?_, ?_, ?_, ?_⟩
  · exact by unfold g_r; rw [show g_V (zH E σ) (zL E 3 d 0) 10 1 = _ from (zV (E := E) (σ := σ) (k := 3) (d := d) (c := 0) hW hu rfl rfl rfl 1)]; rfl
  · exact by unfold g_r; rw [show g_V (zH E σ) (zL E 3 d 0) 10 2 = _ from (zV (E := E) (σ := σ) (k := 3) (d := d) (c := 0) hW hu rfl rfl rfl 2)]; rfl
  · exact by unfold g_r; rw [show g_V (zH E σ) (zL E 3 d 0) 10 3 = _ from (zV (E := E) (σ := σ) (k := 3) (d := d) (c := 0) hW hu rfl rfl rfl 3)]; rfl
  · exact by unfold g_r; rw [show g_V (zH E σ) (zL E 3 d 0) 10 14 = _ from (zV (E := E) (σ := σ) (k := 3) (d := d) (c := 0) hW hu rfl rfl rfl 14)]; rfl
  · exact by unfold g_r; rw [show g_V (zH E σ) (zL E 3 d 0) 10 15 = _ from (zV (E := E) (σ := σ) (k := 3) (d := d) (c := 0) hW hu rfl rfl rfl 15)]; rfl
  · exact by unfold g_r; rw [show g_V (zH E σ) (zL E 3 d 0) 10 17 = _ from (zV (E := E) (σ := σ) (k := 3) (d := d) (c := 0) hW hu rfl rfl rfl 17)]; rfl
  · exact by unfold g_r; rw [show g_V (zH E σ) (zL E 3 d 0) 10 21 = _ from (zV (E := E) (σ := σ) (k := 3) (d := d) (c := 0) hW hu rfl rfl rfl 21)]; rfl
  · exact by unfold g_r; rw [show g_V (zH E σ) (zL E 3 d 0) 10 23 = _ from (zV (E := E) (σ := σ) (k := 3) (d := d) (c := 0) hW hu rfl rfl rfl 23)]; rfl
  · exact by unfold g_r; rw [show g_V (zH E σ) (zL E 3 d 0) 10 25 = _ from (zV (E := E) (σ := σ) (k := 3) (d := d) (c := 0) hW hu rfl rfl rfl 25)]; rfl
  · exact by unfold g_r; rw [show g_V (zH E σ) (zL E 3 d 0) 10 26 = _ from (zV (E := E) (σ := σ) (k := 3) (d := d) (c := 0) hW hu rfl rfl rfl 26)]; rfl
  · exact by unfold g_r; rw [show g_V (zH E σ) (zL E 3 d 0) 10 27 = _ from (zV (E := E) (σ := σ) (k := 3) (d := d) (c := 0) hW hu rfl rfl rfl 27)]; rfl
  · exact zOb hW hu rfl rfl rfl
set_option maxRecDepth 20000 in
theorem zz_md (hW : zWF E) (hu : zU E 3 d = true) : (g_i (zH E σ) (zL E 3 d 0) 10 0 = some (zI (σ 3 d 0 0))) ∧ (∀ v : Int, g_put (zH E σ) (zL E 3 d 0) 10 0 (.int (zI v)) = some (zH E (zs σ 3 d 0 0 v))) ∧ (g_r (zH E σ) (zL E 3 d 0) 10 1 = some (zL E 3 d 1)) ∧ (g_r (zH E σ) (zL E 3 d 0) 10 2 = some (zL E 3 d 2)) ∧ (g_r (zH E σ) (zL E 3 d 0) 10 3 = some (zL E 3 d 3)) ∧ (g_i (zH E σ) (zL E 3 d 0) 10 4 = some (zI (σ 3 d 0 4))) ∧ (∀ v : Int, g_put (zH E σ) (zL E 3 d 0) 10 4 (.int (zI v)) = some (zH E (zs σ 3 d 0 4 v))) ∧ (g_i (zH E σ) (zL E 3 d 0) 10 5 = some (zI (σ 3 d 0 5))) ∧ (∀ v : Int, g_put (zH E σ) (zL E 3 d 0) 10 5 (.int (zI v)) = some (zH E (zs σ 3 d 0 5 v))) ∧ (g_i (zH E σ) (zL E 3 d 0) 10 6 = some (zI (σ 3 d 0 6))) ∧ (∀ v : Int, g_put (zH E σ) (zL E 3 d 0) 10 6 (.int (zI v)) = some (zH E (zs σ 3 d 0 6 v))) ∧ (g_i (zH E σ) (zL E 3 d 0) 10 7 = some (zI (σ 3 d 0 7))) ∧ (∀ v : Int, g_put (zH E σ) (zL E 3 d 0) 10 7 (.int (zI v)) = some (zH E (zs σ 3 d 0 7 v))) ∧ (g_i (zH E σ) (zL E 3 d 0) 10 8 = some (zI (σ 3 d 0 8))) ∧ (∀ v : Int, g_put (zH E σ) (zL E 3 d 0) 10 8 (.int (zI v)) = some (zH E (zs σ 3 d 0 8 v))) ∧ (g_i (zH E σ) (zL E 3 d 0) 10 9 = some (zI (σ 3 d 0 9))) ∧ (∀ v : Int, g_put (zH E σ) (zL E 3 d 0) 10 9 (.int (zI v)) = some (zH E (zs σ 3 d 0 9 v))) ∧ (g_j (zH E σ) (zL E 3 d 0) 10 10 = some (zJ (σ 3 d 0 10))) ∧ (∀ v : Int, g_put (zH E σ) (zL E 3 d 0) 10 10 (.long (zJ v)) = some (zH E (zs σ 3 d 0 10 v))) ∧ (g_i (zH E σ) (zL E 3 d 0) 10 11 = some (zI (σ 3 d 0 11))) ∧ (∀ v : Int, g_put (zH E σ) (zL E 3 d 0) 10 11 (.int (zI v)) = some (zH E (zs σ 3 d 0 11 v))) ∧ (g_i (zH E σ) (zL E 3 d 0) 10 12 = some (zI (σ 3 d 0 12))) ∧ (∀ v : Int, g_put (zH E σ) (zL E 3 d 0) 10 12 (.int (zI v)) = some (zH E (zs σ 3 d 0 12 v))) ∧ (g_i (zH E σ) (zL E 3 d 0) 10 13 = some (zI (σ 3 d 0 13))) ∧ (∀ v : Int, g_put (zH E σ) (zL E 3 d 0) 10 13 (.int (zI v)) = some (zH E (zs σ 3 d 0 13 v))) ∧ (g_r (zH E σ) (zL E 3 d 0) 10 14 = some (zL E 3 d 14)) ∧ (g_r (zH E σ) (zL E 3 d 0) 10 15 = some (zL E 3 d 15)) ∧ (g_i (zH E σ) (zL E 3 d 0) 10 16 = some (zI (σ 3 d 0 16))) ∧ (∀ v : Int, g_put (zH E σ) (zL E 3 d 0) 10 16 (.int (zI v)) = some (zH E (zs σ 3 d 0 16 v))) ∧ (g_r (zH E σ) (zL E 3 d 0) 10 17 = some (zL E 3 d 17)) ∧ (g_i (zH E σ) (zL E 3 d 0) 10 18 = some (zI (σ 3 d 0 18))) ∧ (∀ v : Int, g_put (zH E σ) (zL E 3 d 0) 10 18 (.int (zI v)) = some (zH E (zs σ 3 d 0 18 v))) ∧ (g_i (zH E σ) (zL E 3 d 0) 10 19 = some (zI (σ 3 d 0 19))) ∧ (∀ v : Int, g_put (zH E σ) (zL E 3 d 0) 10 19 (.int (zI v)) = some (zH E (zs σ 3 d 0 19 v))) ∧ (g_i (zH E σ) (zL E 3 d 0) 10 20 = some (zI (σ 3 d 0 20))) ∧ (∀ v : Int, g_put (zH E σ) (zL E 3 d 0) 10 20 (.int (zI v)) = some (zH E (zs σ 3 d 0 20 v))) ∧ (g_r (zH E σ) (zL E 3 d 0) 10 21 = some (zL E 3 d 21)) ∧ (g_i (zH E σ) (zL E 3 d 0) 10 22 = some (zI (σ 3 d 0 22))) ∧ (∀ v : Int, g_put (zH E σ) (zL E 3 d 0) 10 22 (.int (zI v)) = some (zH E (zs σ 3 d 0 22 v))) ∧ (g_r (zH E σ) (zL E 3 d 0) 10 23 = some (zL E 3 d 23)) ∧ (g_i (zH E σ) (zL E 3 d 0) 10 24 = some (zI (σ 3 d 0 24))) ∧ (∀ v : Int, g_put (zH E σ) (zL E 3 d 0) 10 24 (.int (zI v)) = some (zH E (zs σ 3 d 0 24 v))) ∧ (g_r (zH E σ) (zL E 3 d 0) 10 25 = some (zL E 3 d 25)) ∧ (g_r (zH E σ) (zL E 3 d 0) 10 26 = some (zL E 3 d 26)) ∧ (g_r (zH E σ) (zL E 3 d 0) 10 27 = some (zL E 3 d 27)) ∧ (g_ob (zH E σ) (zL E 3 d 0) 10 = some ()) := by
  refine ⟨?_, ?_, ?_, ?_, ?_, ?_, ?_, ?_, ?_, ?_, ?_, ?_, ?_, ?_, ?_, ?_, ?_, ?_, ?_, ?_, ?_, ?_, ?_, ?_, ?_, ?_, ?_, ?_, ?_, ?_, ?_, ?_, ?_, ?_, ?_, ?_, ?_, ?_, ?_, ?_, ?_, ?_, ?_, ?_, ?_, ?_⟩
  · exact by unfold g_i; rw [show g_V (zH E σ) (zL E 3 d 0) 10 0 = _ from (zV (E := E) (σ := σ) (k := 3) (d := d) (c := 0) hW hu rfl rfl rfl 0)]; rfl
  · exact fun v => by rw [← zs_r]; exact zPut hW hu rfl rfl rfl (by simp) rfl rfl
  · exact by unfold g_r; rw [show g_V (zH E σ) (zL E 3 d 0) 10 1 = _ from (zV (E := E) (σ := σ) (k := 3) (d := d) (c := 0) hW hu rfl rfl rfl 1)]; rfl
  · exact by unfold g_r; rw [show g_V (zH E σ) (zL E 3 d 0) 10 2 = _ from (zV (E := E) (σ := σ) (k := 3) (d := d) (c := 0) hW hu rfl rfl rfl 2)]; rfl
  · exact by unfold g_r; rw [show g_V (zH E σ) (zL E 3 d 0) 10 3 = _ from (zV (E := E) (σ := σ) (k := 3) (d := d) (c := 0) hW hu rfl rfl rfl 3)]; rfl
  · exact by unfold g_i; rw [show g_V (zH E σ) (zL E 3 d 0) 10 4 = _ from (zV (E := E) (σ := σ) (k := 3) (d := d) (c := 0) hW hu rfl rfl rfl 4)]; rfl
  · exact fun v => by rw [← zs_r]; exact zPut hW hu rfl rfl rfl (by simp) rfl rfl
  · exact by unfold g_i; rw [show g_V (zH E σ) (zL E 3 d 0) 10 5 = _ from (zV (E := E) (σ := σ) (k := 3) (d := d) (c := 0) hW hu rfl rfl rfl 5)]; rfl
  · exact fun v => by rw [← zs_r]; exact zPut hW hu rfl rfl rfl (by simp) rfl rfl
  · exact by unfold g_i; rw [show g_V (zH E σ) (zL E 3 d 0) 10 6 = _ from (zV (E := E) (σ := σ) (k := 3) (d := d) (c := 0) hW hu rfl rfl rfl 6)]; rfl
  · exact fun v => by rw [← zs_r]; exact zPut hW hu rfl rfl rfl (by simp) rfl rfl
  · exact by unfold g_i; rw [show g_V (zH E σ) (zL E 3 d 0) 10 7 = _ from (zV (E := E) (σ := σ) (k := 3) (d := d) (c := 0) hW hu rfl rfl rfl 7)]; rfl
  · exact fun v => by rw [← zs_r]; exact zPut hW hu rfl rfl rfl (by simp) rfl rfl
  · exact by unfold g_i; rw [show g_V (zH E σ) (zL E 3 d 0) 10 8 = _ from (zV (E := E) (σ := σ) (k := 3) (d := d) (c := 0) hW hu rfl rfl rfl 8)]; rfl
  · exact fun v => by rw [← zs_r]; exact zPut hW hu rfl rfl rfl (by simp) rfl rfl
  · exact by unfold g_i; rw [show g_V (zH E σ) (zL E 3 d 0) 10 9 = _ from (zV (E := E) (σ := σ) (k := 3) (d := d) (c := 0) hW hu rfl rfl rfl 9)]; rfl
  · exact fun v => by rw [← zs_r]; exact zPut hW hu rfl rfl rfl (by simp) rfl rfl
  · exact by unfold g_j; rw [show g_V (zH E σ) (zL E 3 d 0) 10 10 = _ from (zV (E := E) (σ := σ) (k := 3) (d := d) (c := 0) hW hu rfl rfl rfl 10)]; rfl
  · exact fun v => by rw [← zs_r]; exact zPut hW hu rfl rfl rfl (by simp) rfl rfl
  · exact by unfold g_i; rw [show g_V (zH E σ) (zL E 3 d 0) 10 11 = _ from (zV (E := E) (σ := σ) (k := 3) (d := d) (c := 0) hW hu rfl rfl rfl 11)]; rfl
  · exact fun v => by rw [← zs_r]; exact zPut hW hu rfl rfl rfl (by simp) rfl rfl
  · exact by unfold g_i; rw [show g_V (zH E σ) (zL E 3 d 0) 10 12 = _ from (zV (E := E) (σ := σ) (k := 3) (d := d) (c := 0) hW hu rfl rfl rfl 12)]; rfl
  · exact fun v => by rw [← zs_r]; exact zPut hW hu rfl rfl rfl (by simp) rfl rfl
  · exact by unfold g_i; rw [show g_V (zH E σ) (zL E 3 d 0) 10 13 = _ from (zV (E := E) (σ := σ) (k := 3) (d := d) (c := 0) hW hu rfl rfl rfl 13)]; rfl
  · exact fun v => by rw [← zs_r]; exact zPut hW hu rfl rfl rfl (by simp) rfl rfl
  · exact by unfold g_r; rw [show g_V (zH E σ) (zL E 3 d 0) 10 14 = _ from (zV (E := E) (σ := σ) (k := 3) (d := d) (c := 0) hW hu rfl rfl rfl 14)]; rfl
  · exact by unfold g_r; rw [show g_V (zH E σ) (zL E 3 d 0) 10 15 = _ from (zV (E := E) (σ := σ) (k := 3) (d := d) (c := 0) hW hu rfl rfl rfl 15)]; rfl
  · exact by unfold g_i; rw [show g_V (zH E σ) (zL E 3 d 0) 10 16 = _ from (zV (E := E) (σ := σ) (k := 3) (d := d) (c := 0) hW hu rfl rfl rfl 16)]; rfl
  · exact fun v => by rw [← zs_r]; exact zPut hW hu rfl rfl rfl (by simp) rfl rfl
  · exact by unfold g_r; rw [show g_V (zH E σ) (zL E 3 d 0) 10 17 = _ from (zV (E := E) (σ := σ) (k := 3) (d := d) (c := 0) hW hu rfl rfl rfl 17)]; rfl
  · exact by unfold g_i; rw [show g_V (zH E σ) (zL E 3 d 0) 10 18 = _ from (zV (E := E) (σ := σ) (k := 3) (d := d) (c := 0) hW hu rfl rfl rfl 18)]; rfl
  · exact fun v => by rw [← zs_r]; exact zPut hW hu rfl rfl rfl (by simp) rfl rfl
  · exact by unfold g_i; rw [show g_V (zH E σ) (zL E 3 d 0) 10 19 = _ from (zV (E := E) (σ := σ) (k := 3) (d := d) (c := 0) hW hu rfl rfl rfl 19)]; rfl
  · exact fun v => by rw [← zs_r]; exact zPut hW hu rfl rfl rfl (by simp) rfl rfl
  · exact by unfold g_i; rw [show g_V (zH E σ) (zL E 3 d 0) 10 20 = _ from (zV (E := E) (σ := σ) (k := 3) (d := d) (c := 0) hW hu rfl rfl rfl 20)]; rfl
  · exact fun v => by rw [← zs_r]; exact zPut hW hu rfl rfl rfl (by simp) rfl rfl
  · exact by unfold g_r; rw [show g_V (zH E σ) (zL E 3 d 0) 10 21 = _ from (zV (E := E) (σ := σ) (k := 3) (d := d) (c := 0) hW hu rfl rfl rfl 21)]; rfl
  · exact by unfold g_i; rw [show g_V (zH E σ) (zL E 3 d 0) 10 22 = _ from (zV (E := E) (σ := σ) (k := 3) (d := d) (c := 0) hW hu rfl rfl rfl 22)]; rfl
  · exact fun v => by rw [← zs_r]; exact zPut hW hu rfl rfl rfl (by simp) rfl rfl
  · exact by unfold g_r; rw [show g_V (zH E σ) (zL E 3 d 0) 10 23 = _ from (zV (E := E) (σ := σ) (k := 3) (d := d) (c := 0) hW hu rfl rfl rfl 23)]; rfl
  · exact by unfold g_i; rw [show g_V (zH E σ) (zL E 3 d 0) 10 24 = _ from (zV (E := E) (σ := σ) (k := 3) (d := d) (c := 0) hW hu rfl rfl rfl 24)]; rfl
  · exact fun v => by rw [← zs_r]; exact zPut hW hu rfl rfl rfl (by simp) rfl rfl
  · exact by unfold g_r; rw [show g_V (zH E σ) (zL E 3 d 0) 10 25 = _ from (zV (E := E) (σ := σ) (k := 3) (d := d) (c := 0) hW hu rfl rfl rfl 25)]; rfl
  · exact by unfold g_r; rw [show g_V (zH E σ) (zL E 3 d 0) 10 26 = _ from (zV (E := E) (σ := σ) (k := 3) (d := d) (c := 0) hW hu rfl rfl rfl 26)]; rfl
  · exact by unfold g_r; rw [show g_V (zH E σ) (zL E 3 d 0) 10 27 = _ from (zV (E := E) (σ := σ) (k := 3) (d := d) (c := 0) hW hu rfl rfl rfl 27)]; rfl
  · exact zOb hW hu rfl rfl rfl
set_option maxRecDepth 20000 in
theorem zz_da (hW : zWF E) (hu : zU E 0 d = true) : (∀ i : Int, 0 ≤ i → i < 96 → g_ald 0 (zH E σ) (zL E 0 d 2) (zI i) = some (zI (σ 0 d 2 i))) ∧ (∀ i v : Int, 0 ≤ i → i < 96 → g_ast 0 (zH E σ) (zL E 0 d 2) (zI i) (zI v) = some (zH E (zs σ 0 d 2 i v))) ∧ (g_len (zH E σ) (zL E 0 d 2) = some (zI 96)) ∧ (∀ i : Int, 0 ≤ i → i < 96 → g_ald 1 (zH E σ) (zL E 0 d 3) (zI i) = some (zI (σ 0 d 3 i))) ∧ (∀ (i : Int) (v : Bool), 0 ≤ i → i < 96 → g_ast 1 (zH E σ) (zL E 0 d 3) (zI i) (zI (zb v)) = some (zH E (zs σ 0 d 3 i (zb v)))) ∧ (∀ i : Int, 0 ≤ i → i < 96 → g_ast 1 (zH E σ) (zL E 0 d 3) (zI i) (zI 0) = some (zH E (zs σ 0 d 3 i 0))) ∧ (∀ i : Int, 0 ≤ i → i < 96 → g_ast 1 (zH E σ) (zL E 0 d 3) (zI i) (zI 1) = some (zH E (zs σ 0 d 3 i 1))) ∧ (g_len (zH E σ) (zL E 0 d 3) = some (zI 96)) ∧ (∀ i : Int, 0 ≤ i → i < 96 → g_ald 1 (zH E σ) (zL E 0 d 4) (zI i) = some (zI (σ 0 d 4 i))) ∧ (∀ (i : Int) (v : Bool), 0 ≤ i → i < 96 → g_ast 1 (zH E σ) (zL E 0 d 4) (zI i) (zI (zb v)) = some (zH E (zs σ 0 d 4 i (zb v)))) ∧ (∀ i : Int, 0 ≤ i → i < 96 → g_ast 1 (zH E σ) (zL E 0 d 4) (zI i) (zI 0) = some (zH E (zs σ 0 d 4 i 0))) ∧ (∀ i : Int, 0 ≤ i → i < 96 → g_ast 1 (zH E σ) (zL E 0 d 4) (zI i) (zI 1) = some (zH E (zs σ 0 d 4 i 1))) ∧ (g_len (zH E σ) (zL E 0 d 4) = some (zI 96)) ∧ (∀ i : Int, 0 ≤ i → i < 96 → g_ald 0 (zH E σ) (zL E 0 d 5) (zI i) = some (zI (σ 0 d 5 i))) ∧ (∀ i v : Int, 0 ≤ i → i < 96 → g_ast 0 (zH E σ) (zL E 0 d 5) (zI i) (zI v) = some (zH E (zs σ 0 d 5 i v))) ∧ (g_len (zH E σ) (zL E 0 d 5) = some (zI 96)) ∧ (∀ i : Int, 0 ≤ i → i < 96 → g_ald 0 (zH E σ) (zL E 0 d 6) (zI i) = some (zI (σ 0 d 6 i))) ∧ (∀ i v : Int, 0 ≤ i → i < 96 → g_ast 0 (zH E σ) (zL E 0 d 6) (zI i) (zI v) = some (zH E (zs σ 0 d 6 i v))) ∧ (g_len (zH E σ) (zL E 0 d 6) = some (zI 96)) ∧ (∀ i : Int, 0 ≤ i → i < 96 → g_ald 0 (zH E σ) (zL E 0 d 7) (zI i) = some (zI (σ 0 d 7 i))) ∧ (∀ i v : Int, 0 ≤ i → i < 96 → g_ast 0 (zH E σ) (zL E 0 d 7) (zI i) (zI v) = some (zH E (zs σ 0 d 7 i v))) ∧ (g_len (zH E σ) (zL E 0 d 7) = some (zI 96)) ∧ (∀ i : Int, 0 ≤ i → i < 96 → g_ald 0 (zH E σ) (zL E 0 d 8) (zI i) = some (zI (σ 0 d 8 i))) ∧ (∀ i v : Int, 0 ≤ i → i < 96 → g_ast 0 (zH E σ) (zL E 0 d 8) (zI i) (zI v) = some (zH E (zs σ 0 d 8 i v))) ∧ (g_len (zH E σ) (zL E 0 d 8) = some (zI 96)) ∧ (∀ i : Int, 0 ≤ i → i < 96 → g_ald 0 (zH E σ) (zL E 0 d 9) (zI i) = some (zI (σ 0 d 9 i))) ∧ (∀ i v : Int, 0 ≤ i → i < 96 → g_ast 0 (zH E σ) (zL E 0 d 9) (zI i) (zI v) = some (zH E (zs σ 0 d 9 i v))) ∧ (g_len (zH E σ) (zL E 0 d 9) = some (zI 96)) ∧ (∀ i : Int, 0 ≤ i → i < 96 → g_ald 0 (zH E σ) (zL E 0 d 11) (zI i) = some (zI (σ 0 d 11 i))) ∧ (∀ i v : Int, 0 ≤ i → i < 96 → g_ast 0 (zH E σ) (zL E 0 d 11) (zI i) (zI v) = some (zH E (zs σ 0 d 11 i v))) ∧ (g_len (zH E σ) (zL E 0 d 11) = some (zI 96)) ∧ (∀ i : Int, 0 ≤ i → i < 96 → g_ald 0 (zH E σ) (zL E 0 d 12) (zI i) = some (zI (σ 0 d 12 i))) ∧ (∀ i v : Int, 0 ≤ i → i < 96 → g_ast 0 (zH E σ) (zL E 0 d 12) (zI i) (zI v) = some (zH E (zs σ 0 d 12 i v))) ∧ (g_len (zH E σ) (zL E 0 d 12) = some (zI 96)) ∧ (∀ i : Int, 0 ≤ i → i < 96 → g_ald 0 (zH E σ) (zL E 0 d 13) (zI i) = some (zI (σ 0 d 13 i))) ∧ (∀ i v : Int, 0 ≤ i → i < 96 → g_ast 0 (zH E σ) (zL E 0 d 13) (zI i) (zI v) = some (zH E (zs σ 0 d 13 i v))) ∧ (g_len (zH E σ) (zL E 0 d 13) = some (zI 96)) ∧ (∀ i : Int, 0 ≤ i → i < 96 → g_ald 0 (zH E σ) (zL E 0 d 14) (zI i) = some (zI (σ 0 d 14 i))) ∧ (∀ i v : Int, 0 ≤ i → i < 96 → g_ast 0 (zH E σ) (zL E 0 d 14) (zI i) (zI v) = some (zH E (zs σ 0 d 14 i v))) ∧ (g_len (zH E σ) (zL E 0 d 14) = some (zI 96)) ∧ (∀ i : Int, 0 ≤ i → i < 96 → g_ald 0 (zH E σ) (zL E 0 d 15) (zI i) = some (zI (σ 0 d 15 i))) ∧ (∀ i v : Int, 0 ≤ i → i < 96 → g_ast 0 (zH E σ) (zL E 0 d 15) (zI i) (zI v) = some (zH E (zs σ 0 d 15 i v))) ∧ (g_len (zH E σ) (zL E 0 d 15) = some (zI 96)) ∧ (∀ i : Int, 0 ≤ i → i < 12 → g_ald 0 (zH E σ) (zL E 0 d 17) (zI i) = some (zI (σ 0 d 17 i))) ∧ (∀ i v : Int, 0 ≤ i → i < 12 → g_ast 0 (zH E σ) (zL E 0 d 17) (zI i) (zI v) = some (zH E (zs σ 0 d 17 i v))) ∧ (g_len (zH E σ) (zL E 0 d 17) = some (zI 12)) ∧ (∀ i : Int, 0 ≤ i → i < 12 → g_ald 0 (zH E σ) (zL E 0 d 18) (zI i) = some (zI (σ 0 d 18 i))) ∧ (∀ i v : Int, 0 ≤ i → i < 12 → g_ast 0 (zH E σ) (zL E 0 d 18) (zI i) (zI v) = some (zH E (zs σ 0 d 18 i v))) ∧ (g_len (zH E σ) (zL E 0 d 18) = some (zI 12)) ∧ (∀ i : Int, 0 ≤ i → i < 12 → g_ald 0 (zH E σ) (zL E 0 d 19) (zI i) = some (zI (σ 0 d 19 i))) ∧ (∀ i v : Int, 0 ≤ i → i < 12 → g_ast 0 (zH E σ) (zL E 0 d 19) (zI i) (zI v) = some (zH E (zs σ 0 d 19 i v))) ∧ (g_len (zH E σ) (zL E 0 d 19) = some (zI 12)) ∧ (∀ i : Int, 0 ≤ i → i < 12 → g_ald 0 (zH E σ) (zL E 0 d 20) (zI i) = some (zI (σ 0 d 20 i))) ∧ (∀ i v : Int, 0 ≤ i → i < 12 → g_ast 0 (zH E σ) (zL E 0 d 20) (zI i) (zI v) = some (zH E (zs σ 0 d 20 i v))) ∧ (g_len (zH E σ) (zL E 0 d 20) = some (zI 12)) ∧ (∀ i : Int, 0 ≤ i → i < 120 → g_ald 0 (zH E σ) (zL E 0 d 21) (zI i) = some (zI (σ 0 d 21 i))) ∧ (∀ i v : Int, 0 ≤ i → i < 120 → g_ast 0 (zH E σ) (zL E 0 d 21) (zI i) (zI v) = some (zH E (zs σ 0 d 21 i v))) ∧ (g_len (zH E σ) (zL E 0 d 21) = some (zI 120)) ∧ (∀ i : Int, 0 ≤ i → i < 120 → g_ald 0 (zH E σ) (zL E 0 d 22) (zI i) = some (zI (σ 0 d 22 i))) ∧ (∀ i v : Int, 0 ≤ i → i < 120 → g_ast 0 (zH E σ) (zL E 0 d 22) (zI i) (zI v) = some (zH E (zs σ 0 d 22 i v))) ∧ (g_len (zH E σ) (zL E 0 d 22) = some (zI 120)) ∧ (∀ i : Int, 0 ≤ i → i < 10 → g_lald (zH E σ) (zL E 0 d 23) (zI i) = some (zJ (σ 0 d 23 i))) ∧ (∀ i v : Int, 0 ≤ i → i < 10 → g_last (zH E σ) (zL E 0 d 23) (zI i) (zJ v) = some (zH E (zs σ 0 d 23 i v))) ∧ (g_len (zH E σ) (zL E 0 d 23) = some (zI 10)) ∧ (∀ i : Int, 0 ≤ i → i < 12 → g_ald 0 (zH E σ) (zL E 0 d 24) (zI i) = some (zI (σ 0 d 24 i))) ∧ (∀ i v : Int, 0 ≤ i → i < 12 → g_ast 0 (zH E σ) (zL E 0 d 24) (zI i) (zI v) = some (zH E (zs σ 0 d 24 i v))) ∧ (g_len (zH E σ) (zL E 0 d 24) = some (zI 12)) := by
  refine ⟨?_, ?_, ?_, ?_, ?_, ?_, ?_, ?_, ?_, ?_, ?_, ?_, ?_, ?_, ?_, ?_, ?_, ?_, ?_, ?_, ?_, ?_, ?_, ?_, ?_, ?_, ?_, ?_, ?_, ?_, ?_, ?_, ?_, ?_, ?_, ?_, ?_, ?_, ?_, ?_, ?_, ?_, ?_, ?_, ?_, ?_, ?_, ?_, ?_, ?_, ?_, ?_, ?_, ?_, ?_, ?_, ?_, ?_, ?_, ?_, ?_, ?_, ?_, ?_, ?_, ?_, ?_⟩
  · exact fun i h0 h1 => zAld hW hu rfl (by decide) (by decide) h0 h1
  · exact fun i v h0 h1 => zAst hW hu rfl (by decide) (by decide) h0 h1 rfl
  · exact zLen hW hu rfl
  · exact fun i h0 h1 => zAld hW hu rfl (by decide) (by decide) h0 h1
  · exact fun i v h0 h1 => zAst hW hu rfl (by decide) (by decide) h0 h1 (g_nar1 v)
  · exact fun i h0 h1 => zAst hW hu rfl (by decide) (by decide) h0 h1 rfl
  · exact fun i h0 h1 => zAst hW hu rfl (by decide) (by decide) h0 h1 rfl
  · exact zLen hW hu rfl
  · exact fun i h0 h1 => zAld hW hu rfl (by decide) (by decide) h0 h1
  · exact fun i v h0 h1 => zAst hW hu rfl (by decide) (by decide) h0 h1 (g_nar1 v)
  · exact fun i h0 h1 => zAst hW hu rfl (by decide) (by decide) h0 h1 rfl
  · exact fun i h0 h1 => zAst hW hu rfl (by decide) (by decide) h0 h1 rfl
  · exact zLen hW hu rfl
  · exact fun i h0 h1 => zAld hW hu rfl (by decide) (by decide) h0 h1
  · exact fun i v h0 h1 => zAst hW hu rfl (by decide) (by decide) h0 h1 rfl
  · exact zLen hW hu rfl
  · exact fun i h0 h1 => zAld hW hu rfl (by decide) (by decide) h0 h1
  · exact fun i v h0 h1 => zAst hW hu rfl (by decide) (by decide) h0 h1 rfl
  · exact zLen hW hu rfl
  · exact fun i h0 h1 => zAld hW hu rfl (by decide) (by decide) h0 h1
  · exact fun i v h0 h1 => zAst hW hu rfl (by decide) (by decide) h0 h1 rfl
  · exact zLen hW hu rfl
  · exact fun i h0 h1 => zAld hW hu rfl (by decide) (by decide) h0 h1
  · exact fun i v h0 h1 => zAst hW hu rfl (by decide) (by decide) h0 h1 rfl
  · exact zLen hW hu rfl
  · exact fun i h0 h1 => zAld hW hu rfl (by decide) (by decide) h0 h1
  · exact fun i v h0 h1 => zAst hW hu rfl (by decide) (by decide) h0 h1 rfl
  · exact zLen hW hu rfl
  · exact fun i h0 h1 => zAld hW hu rfl (by decide) (by decide) h0 h1
  · exact fun i v h0 h1 => zAst hW hu rfl (by decide) (by decide) h0 h1 rfl
  · exact zLen hW hu rfl
  · exact fun i h0 h1 => zAld hW hu rfl (by decide) (by decide) h0 h1
  · exact fun i v h0 h1 => zAst hW hu rfl (by decide) (by decide) h0 h1 rfl
  · exact zLen hW hu rfl
  · exact fun i h0 h1 => zAld hW hu rfl (by decide) (by decide) h0 h1
  · exact fun i v h0 h1 => zAst hW hu rfl (by decide) (by decide) h0 h1 rfl
  · exact zLen hW hu rfl
  · exact fun i h0 h1 => zAld hW hu rfl (by decide) (by decide) h0 h1
  · exact fun i v h0 h1 => zAst hW hu rfl (by decide) (by decide) h0 h1 rfl
  · exact zLen hW hu rfl
  · exact fun i h0 h1 => zAld hW hu rfl (by decide) (by decide) h0 h1
  · exact fun i v h0 h1 => zAst hW hu rfl (by decide) (by decide) h0 h1 rfl
  · exact zLen hW hu rfl
  · exact fun i h0 h1 => zAld hW hu rfl (by decide) (by decide) h0 h1
  · exact fun i v h0 h1 => zAst hW hu rfl (by decide) (by decide) h0 h1 rfl
  · exact zLen hW hu rfl
  · exact fun i h0 h1 => zAld hW hu rfl (by decide) (by decide) h0 h1
  · exact fun i v h0 h1 => zAst hW hu rfl (by decide) (by decide) h0 h1 rfl
  · exact zLen hW hu rfl
  · exact fun i h0 h1 => zAld hW hu rfl (by decide) (by decide) h0 h1
  · exact fun i v h0 h1 => zAst hW hu rfl (by decide) (by decide) h0 h1 rfl
  · exact zLen hW hu rfl
  · exact fun i h0 h1 => zAld hW hu rfl (by decide) (by decide) h0 h1
  · exact fun i v h0 h1 => zAst hW hu rfl (by decide) (by decide) h0 h1 rfl
  · exact zLen hW hu rfl
  · exact fun i h0 h1 => zAld hW hu rfl (by decide) (by decide) h0 h1
  · exact fun i v h0 h1 => zAst hW hu rfl (by decide) (by decide) h0 h1 rfl
  · exact zLen hW hu rfl
  · exact fun i h0 h1 => zAld hW hu rfl (by decide) (by decide) h0 h1
  · exact fun i v h0 h1 => zAst hW hu rfl (by decide) (by decide) h0 h1 rfl
  · exact zLen hW hu rfl
  · exact fun i h0 h1 => zLald hW hu rfl (by decide) h0 h1
  · exact fun i v h0 h1 => zLast hW hu rfl (by decide) h0 h1
  · exact zLen hW hu rfl
  · exact fun i h0 h1 => zAld hW hu rfl (by decide) (by decide) h0 h1
  · exact fun i v h0 h1 => zAst hW hu rfl (by decide) (by decide) h0 h1 rfl
  · exact zLen hW hu rfl
set_option maxRecDepth 20000 in
theorem zz_va (hW : zWF E) (hu : zU E 1 d = true) : (∀ i : Int, 0 ≤ i → i < 12 → g_ald 1 (zH E σ) (zL E 1 d 1) (zI i) = some (zI (σ 1 d 1 i))) ∧ (∀ (i : Int) (v : Bool), 0 ≤ i → i < 12 → g_ast 1 (zH E σ) (zL E 1 d 1) (zI i) (zI (zb v)) = some (zH E (zs σ 1 d 1 i (zb v)))) ∧ (∀ i : Int, 0 ≤ i → i < 12 → g_ast 1 (zH E σ) (zL E 1 d 1) (zI i) (zI 0) = some (zH E (zs σ 1 d 1 i 0))) ∧ (∀ i : Int, 0 ≤ i → i < 12 → g_ast 1 (zH E σ) (zL E 1 d 1) (zI i) (zI 1) = some (zH E (zs σ 1 d 1 i 1))) ∧ (g_len (zH E σ) (zL E 1 d 1) = some (zI 12)) ∧ (∀ i : Int, 0 ≤ i → i < 10 → g_ald 0 (zH E σ) (zL E 1 d 2) (zI i) = some (zI (σ 1 d 2 i))) ∧ (∀ i v : Int, 0 ≤ i → i < 10 → g_ast 0 (zH E σ) (zL E 1 d 2) (zI i) (zI v) = some (zH E (zs σ 1 d 2 i v))) ∧ (g_len (zH E σ) (zL E 1 d 2) = some (zI 10)) ∧ (∀ i : Int, 0 ≤ i → i < 10 → g_ald 0 (zH E σ) (zL E 1 d 3) (zI i) = some (zI (σ 1 d 3 i))) ∧ (∀ i v : Int, 0 ≤ i → i < 10 → g_ast 0 (zH E σ) (zL E 1 d 3) (zI i) (zI v) = some (zH E (zs σ 1 d 3 i v))) ∧ (g_len (zH E σ) (zL E 1 d 3) = some (zI 10)) ∧ (∀ i : Int, 0 ≤ i → i < 10 → g_ald 1 (zH E σ) (zL E 1 d 4) (zI i) = some (zI (σ 1 d 4 i))) ∧ (∀ (i : Int) (v : Bool), 0 ≤ i → i < 10 → g_ast 1 (zH E σ) (zL E 1 d 4) (zI i) (zI (zb v)) = some (zH E (zs σ 1 d 4 i (zb v)))) ∧ (∀ i : Int, 0 ≤ i → i < 10 → g_ast 1 (zH E σ) (zL E 1 d 4) (zI i) (zI 0) = some (zH E (zs σ 1 d 4 i 0))) ∧ (∀ i : Int, 0 ≤ i → i < 10 → g_ast 1 (zH E σ) (zL E 1 d 4) (zI i) (zI 1) = some (zH E (zs σ 1 d 4 i 1))) ∧ (g_len (zH E σ) (zL E 1 d 4) = some (zI 10)) := by
  refine ⟨?_, ?_, ?_, ?_, ?_, ?_, ?_, ?_, ?_, ?_, ?_, ?_, ?_, ?_, ?_, ?_⟩
  · exact fun i h0 h1 => zAld hW hu rfl (by decide) (by decide) h0 h1
  · exact fun i v h0 h1 => zAst hW hu rfl (by decide) (by decide) h0 h1 (g_nar1 v)
  · exact fun i h0 h1 => zAst hW hu rfl (by decide) (by decide) h0 h1 rfl
  · exact fun i h0 h1 => zAst hW hu rfl (by decide) (by decide) h0 h1 rfl
  · exact zLen hW hu rfl
  · exact fun i h0 h1 => zAld hW hu rfl (by decide) (by decide) h0 h1
  · exact fun i v h0 h1 => zAst hW hu rfl (by decide) (by decide) h0 h1 rfl
  · exact zLen hW hu rfl
  · exact fun i h0 h1 => zAld hW hu rfl (by decide) (by decide) h0 h1
  · exact fun i v h0 h1 => zAst hW hu rfl (by decide) (by decide) h0 h1 rfl
  · exact zLen hW hu rfl
  · exact fun i h0 h1 => zAld hW hu rfl (by decide) (by decide) h0 h1
  · exact fun i v h0 h1 => zAst hW hu rfl (by decide) (by decide) h0 h1 (g_nar1 v)
  · exact fun i h0 h1 => zAst hW hu rfl (by decide) (by decide) h0 h1 rfl
  · exact fun i h0 h1 => zAst hW hu rfl (by decide) (by decide) h0 h1 rfl
  · exact zLen hW hu rfl
set_option maxRecDepth 20000 in
theorem zz_xa (hW : zWF E) (hu : zU E 2 d = true) : (∀ i : Int, 0 ≤ i → i < 600 → g_ald 0 (zH E σ) (zL E 2 d 2) (zI i) = some (zI (σ 2 d 2 i))) ∧ (∀ i v : Int, 0 ≤ i → i < 600 → g_ast 0 (zH E σ) (zL E 2 d 2) (zI i) (zI v) = some (zH E (zs σ 2 d 2 i v))) ∧ (g_len (zH E σ) (zL E 2 d 2) = some (zI 600)) ∧ (∀ i : Int, 0 ≤ i → i < 10 → g_qald (zH E σ) (zL E 2 d 5) (zI i) = some (if σ 2 d 5 i = 0 then none else some (zL E 0 (σ 2 d 5 i - 1).toNat 0))) ∧ (g_len (zH E σ) (zL E 2 d 5) = some (zI 10)) ∧ (∀ i : Int, 0 ≤ i → i < 2 → g_ald 1 (zH E σ) (zL E 2 d 7) (zI i) = some (zI (σ 2 d 7 i))) ∧ (∀ (i : Int) (v : Bool), 0 ≤ i → i < 2 → g_ast 1 (zH E σ) (zL E 2 d 7) (zI i) (zI (zb v)) = some (zH E (zs σ 2 d 7 i (zb v)))) ∧ (∀ i : Int, 0 ≤ i → i < 2 → g_ast 1 (zH E σ) (zL E 2 d 7) (zI i) (zI 0) = some (zH E (zs σ 2 d 7 i 0))) ∧ (∀ i : Int, 0 ≤ i → i < 2 → g_ast 1 (zH E σ) (zL E 2 d 7) (zI i) (zI 1) = some (zH E (zs σ 2 d 7 i 1))) ∧ (g_len (zH E σ) (zL E 2 d 7) = some (zI 2)) ∧ (∀ i : Int, 0 ≤ i → i < 2 → g_qald (zH E σ) (zL E 2 d 8) (zI i) = some (if σ 2 d 8 i = 0 then none else some (zL E 0 (σ 2 d 8 i - 1).toNat 0))) ∧ (g_len (zH E σ) (zL E 2 d 8) = some (zI 2)) ∧ (∀ i : Int, 0 ≤ i → i < 10 → g_lald (zH E σ) (zL E 2 d 9) (zI i) = some (zJ (σ 2 d 9 i))) ∧ (∀ i v : Int, 0 ≤ i → i < 10 → g_last (zH E σ) (zL E 2 d 9) (zI i) (zJ v) = some (zH E (zs σ 2 d 9 i v))) ∧ (g_len (zH E σ) (zL E 2 d 9) = some (zI 10)) ∧ (∀ i : Int, 0 ≤ i → i < 120 → g_ald 0 (zH E σ) (zL E 2 d 10) (zI i) = some (zI (σ 2 d 10 i))) ∧ (∀ i v : Int, 0 ≤ i → i < 120 → g_ast 0 (zH E σ) (zL E 2 d 10) (zI i) (zI v) = some (zH E (zs σ 2 d 10 i v))) ∧ (g_len (zH E σ) (zL E 2 d 10) = some (zI 120)) ∧ (∀ i : Int, 0 ≤ i → i < 120 → g_ald 0 (zH E σ) (zL E 2 d 11) (zI i) = some (zI (σ 2 d 11 i))) ∧ (∀ i v : Int, 0 ≤ i → i < 120 → g_ast 0 (zH E σ) (zL E 2 d 11) (zI i) (zI v) = some (zH E (zs σ 2 d 11 i v))) ∧ (g_len (zH E σ) (zL E 2 d 11) = some (zI 120)) ∧ (∀ i : Int, 0 ≤ i → i < 120 → g_ald 0 (zH E σ) (zL E 2 d 12) (zI i) = some (zI (σ 2 d 12 i))) ∧ (∀ i v : Int, 0 ≤ i → i < 120 → g_ast 0 (zH E σ) (zL E 2 d 12) (zI i) (zI v) = some (zH E (zs σ 2 d 12 i v))) ∧ (g_len (zH E σ) (zL E 2 d 12) = some (zI 120)) ∧ (∀ i : Int, 0 ≤ i → i < 120 → g_ald 0 (zH E σ) (zL E 2 d 13) (zI i) = some (zI (σ 2 d 13 i))) ∧ (∀ i v : Int, 0 ≤ i → i < 120 → g_ast 0 (zH E σ) (zL E 2 d 13) (zI i) (zI v) = some (zH E (zs σ 2 d 13 i v))) ∧ (g_len (zH E σ) (zL E 2 d 13) = some (zI 120)) ∧ (∀ i : Int, 0 ≤ i → i < 120 → g_ald 0 (zH E σ) (zL E 2 d 14) (zI i) = some (zI (σ 2 d 14 i))) ∧ (∀ i v : Int, 0 ≤ i → i < 120 → g_ast 0 (zH E σ) (zL E 2 d 14) (zI i) (zI v) = some (zH E (zs σ 2 d 14 i v))) ∧ (g_len (zH E σ) (zL E 2 d 14) = some (zI 120)) ∧ (∀ i : Int, 0 ≤ i → i < 96 → g_ald 1 (zH E σ) (zL E 2 d 15) (zI i) = some (zI (σ 2 d 15 i))) ∧ (∀ (i : Int) (v : Bool), 0 ≤ i → i < 96 → g_ast 1 (zH E σ) (zL E 2 d 15) (zI i) (zI (zb v)) = some (zH E (zs σ 2 d 15 i (zb v)))) ∧ (∀ i : Int, 0 ≤ i → i < 96 → g_ast 1 (zH E σ) (zL E 2 d 15) (zI i) (zI 0) = some (zH E (zs σ 2 d 15 i 0))) ∧ (∀ i : Int, 0 ≤ i → i < 96 → g_ast 1 (zH E σ) (zL E 2 d 15) (zI i) (zI 1) = some (zH E (zs σ 2 d 15 i 1))) ∧ (g_len (zH E σ) (zL E 2 d 15) = some (zI 96)) ∧ (∀ i : Int, 0 ≤ i → i < 600 → g_ald 0 (zH E σ) (zL E 2 d 17) (zI i) = some (zI (σ 2 d 17 i))) ∧ (∀ i v : Int, 0 ≤ i → i < 600 → g_ast 0 (zH E σ) (zL E 2 d 17) (zI i) (zI v) = some (zH E (zs σ 2 d 17 i v))) ∧ (g_len (zH E σ) (zL E 2 d 17) = some (zI 600)) ∧ (∀ i : Int, 0 ≤ i → i < 600 → g_ald 0 (zH E σ) (zL E 2 d 18) (zI i) = some (zI (σ 2 d 18 i))) ∧ (∀ i v : Int, 0 ≤ i → i < 600 → g_ast 0 (zH E σ) (zL E 2 d 18) (zI i) (zI v) = some (zH E (zs σ 2 d 18 i v))) ∧ (g_len (zH E σ) (zL E 2 d 18) = some (zI 600)) ∧ (∀ i : Int, 0 ≤ i → i < 600 → g_lald (zH E σ) (zL E 2 d 19) (zI i) = some (zJ (σ 2 d 19 i))) ∧ (∀ i v : Int, 0 ≤ i → i < 600 → g_last (zH E σ) (zL E 2 d 19) (zI i) (zJ v) = some (zH E (zs σ 2 d 19 i v))) ∧ (g_len (zH E σ) (zL E 2 d 19) = some (zI 600)) := by
  refine ⟨?_, ?_, ?_, ?_, ?_, ?_, ?_, ?_, ?_, ?_, ?_, ?_, ?_, ?_, ?_, ?_, ?_, ?_, ?_, ?_, ?_, ?_, ?_, ?_, ?_, ?_, ?_, ?_, ?_, ?_, ?_, ?_, ?_, ?_, ?_, ?_, ?_, ?_, ?_, ?_, ?_, ?_, ?_, ?_⟩
  · exact fun i h0 h1 => zAld hW hu rfl (by decide) (by decide) h0 h1
  · exact fun i v h0 h1 => zAst hW hu rfl (by decide) (by decide) h0 h1 rfl
  · exact zLen hW hu rfl
  · exact fun i h0 h1 => zQald hW hu rfl (by decide) h0 h1
  · exact zLen hW hu rfl
  · exact fun i h0 h1 => zAld hW hu rfl (by decide) (by decide) h0 h1
  · exact fun i v h0 h1 => zAst hW hu rfl (by decide) (by decide) h0 h1 (g_nar1 v)
  · exact fun i h0 h1 => zAst hW hu rfl (by decide) (by decide) h0 h1 rfl
  · exact fun i h0 h1 => zAst hW hu rfl (by decide) (by decide) h0 h1 rfl
  · exact zLen hW hu rfl
  · exact fun i h0 h1 => zQald hW hu rfl (by decide) h0 h1
  · exact zLen hW hu rfl
  · exact fun i h0 h1 => zLald hW hu rfl (by decide) h0 h1
  · exact fun i v h0 h1 => zLast hW hu rfl (by decide) h0 h1
  · exact zLen hW hu rfl
  · exact fun i h0 h1 => zAld hW hu rfl (by decide) (by decide) h0 h1
  · exact fun i v h0 h1 => zAst hW hu rfl (by decide) (by decide) h0 h1 rfl
  · exact zLen hW hu rfl
  · exact fun i h0 h1 => zAld hW hu rfl (by decide) (by decide) h0 h1
  · exact fun i v h0 h1 => zAst hW hu rfl (by decide) (by decide) h0 h1 rfl
  · exact zLen hW hu rfl
  · exact fun i h0 h1 => zAld hW hu rfl (by decide) (by decide) h0 h1
  · exact fun i v h0 h1 => zAst hW hu rfl (by decide) (by decide) h0 h1 rfl
  · exact zLen hW hu rfl
  · exact fun i h0 h1 => zAld hW hu rfl (by decide) (by decide) h0 h1
  · exact fun i v h0 h1 => zAst hW hu rfl (by decide) (by decide) h0 h1 rfl
  · exact zLen hW hu rfl
  · exact fun i h0 h1 => zAld hW hu rfl (by decide) (by decide) h0 h1
  · exact fun i v h0 h1 => zAst hW hu rfl (by decide) (by decide) h0 h1 rfl
  · exact zLen hW hu rfl
  · exact fun i h0 h1 => zAld hW hu rfl (by decide) (by decide) h0 h1
  · exact fun i v h0 h1 => zAst hW hu rfl (by decide) (by decide) h0 h1 (g_nar1 v)
  · exact fun i h0 h1 => zAst hW hu rfl (by decide) (by decide) h0 h1 rfl
  · exact fun i h0 h1 => zAst hW hu rfl (by decide) (by decide) h0 h1 rfl
  · exact zLen hW hu rfl
  · exact fun i h0 h1 => zAld hW hu rfl (by decide) (by decide) h0 h1
  · exact fun i v h0 h1 => zAst hW hu rfl (by decide) (by decide) h0 h1 rfl
  · exact zLen hW hu rfl
  · exact fun i h0 h1 => zAld hW hu rfl (by decide) (by decide) h0 h1
  · exact fun i v h0 h1 => zAst hW hu rfl (by decide) (by decide) h0 h1 rfl
  · exact zLen hW hu rfl
  · exact fun i h0 h1 => zLald hW hu rfl (by decide) h0 h1
  · exact fun i v h0 h1 => zLast hW hu rfl (by decide) h0 h1
  · exact zLen hW hu rfl
set_option maxRecDepth 20000 in
theorem zz_ra (hW : zWF E) (hu : zU E 3 d = true) : (∀ i : Int, 0 ≤ i → i < 1555 → g_ald 0 (zH E σ) (zL E 3 d 1) (zI i) = some (zI (σ 3 d 1 i))) ∧ (∀ i v : Int, 0 ≤ i → i < 1555 → g_ast 0 (zH E σ) (zL E 3 d 1) (zI i) (zI v) = some (zH E (zs σ 3 d 1 i v))) ∧ (g_len (zH E σ) (zL E 3 d 1) = some (zI 1555)) ∧ (∀ i : Int, 0 ≤ i → i < 10 → g_lald (zH E σ) (zL E 3 d 2) (zI i) = some (zJ (σ 3 d 2 i))) ∧ (∀ i v : Int, 0 ≤ i → i < 10 → g_last (zH E σ) (zL E 3 d 2) (zI i) (zJ v) = some (zH E (zs σ 3 d 2 i v))) ∧ (g_len (zH E σ) (zL E 3 d 2) = some (zI 10)) ∧ (∀ i : Int, 0 ≤ i → i < 600 → g_ald 2 (zH E σ) (zL E 3 d 3) (zI i) = some (zI (σ 3 d 3 i))) ∧ (g_len (zH E σ) (zL E 3 d 3) = some (zI 600)) ∧ (∀ i : Int, 0 ≤ i → i < 1555 → g_ald 0 (zH E σ) (zL E 3 d 14) (zI i) = some (zI (σ 3 d 14 i))) ∧ (∀ i v : Int, 0 ≤ i → i < 1555 → g_ast 0 (zH E σ) (zL E 3 d 14) (zI i) (zI v) = some (zH E (zs σ 3 d 14 i v))) ∧ (g_len (zH E σ) (zL E 3 d 14) = some (zI 1555)) ∧ (∀ i : Int, 0 ≤ i → i < 10 → g_lald (zH E σ) (zL E 3 d 15) (zI i) = some (zJ (σ 3 d 15 i))) ∧ (∀ i v : Int, 0 ≤ i → i < 10 → g_last (zH E σ) (zL E 3 d 15) (zI i) (zJ v) = some (zH E (zs σ 3 d 15 i v))) ∧ (g_len (zH E σ) (zL E 3 d 15) = some (zI 10)) ∧ (∀ i : Int, 0 ≤ i → i < 12 → g_ald 0 (zH E σ) (zL E 3 d 17) (zI i) = some (zI (σ 3 d 17 i))) ∧ (∀ i v : Int, 0 ≤ i → i < 12 → g_ast 0 (zH E σ) (zL E 3 d 17) (zI i) (zI v) = some (zH E (zs σ 3 d 17 i v))) ∧ (g_len (zH E σ) (zL E 3 d 17) = some (zI 12)) ∧ (∀ i : Int, 0 ≤ i → i < 10 → g_ald 0 (zH E σ) (zL E 3 d 21) (zI i) = some (zI (σ 3 d 21 i))) ∧ (∀ i v : Int, 0 ≤ i → i < 10 → g_ast 0 (zH E σ) (zL E 3 d 21) (zI i) (zI v) = some (zH E (zs σ 3 d 21 i v))) ∧ (g_len (zH E σ) (zL E 3 d 21) = some (zI 10)) ∧ (∀ i : Int, 0 ≤ i → i < 96 → g_ald 1 (zH E σ) (zL E 3 d 23) (zI i) = some (zI (σ 3 d 23 i))) ∧ (∀ (i : Int) (v : Bool), 0 ≤ i → i < 96 → g_ast 1 (zH E σ) (zL E 3 d 23) (zI i) (zI (zb v)) = some (zH E (zs σ 3 d 23 i (zb v)))) ∧ (∀ i : Int, 0 ≤ i → i < 96 → g_ast 1 (zH E σ) (zL E 3 d 23) (zI i) (zI 0) = some (zH E (zs σ 3 d 23 i 0))) ∧ (∀ i : Int, 0 ≤ i → i < 96 → g_ast 1 (zH E σ) (zL E 3 d 23) (zI i) (zI 1) = some (zH E (zs σ 3 d 23 i 1))) ∧ (g_len (zH E σ) (zL E 3 d 23) = some (zI 96)) ∧ (∀ i : Int, 0 ≤ i → i < 15550 → g_ald 0 (zH E σ) (zL E 3 d 25) (zI i) = some (zI (σ 3 d 25 i))) ∧ (∀ i v : Int, 0 ≤ i → i < 15550 → g_ast 0 (zH E σ) (zL E 3 d 25) (zI i) (zI v) = some (zH E (zs σ 3 d 25 i v))) ∧ (g_len (zH E σ) (zL E 3 d 25) = some (zI 15550)) ∧ (∀ i : Int, 0 ≤ i → i < 3110 → g_ald 0 (zH E σ) (zL E 3 d 26) (zI i) = some (zI (σ 3 d 26 i))) ∧ (∀ i v : Int, 0 ≤ i → i < 3110 → g_ast 0 (zH E σ) (zL E 3 d 26) (zI i) (zI v) = some (zH E (zs σ 3 d 26 i v))) ∧ (g_len (zH E σ) (zL E 3 d 26) = some (zI 3110)) ∧ (∀ i : Int, 0 ≤ i → i < 2 → g_ald 1 (zH E σ) (zL E 3 d 27) (zI i) = some (zI (σ 3 d 27 i))) ∧ (∀ (i : Int) (v : Bool), 0 ≤ i → i < 2 → g_ast 1 (zH E σ) (zL E 3 d 27) (zI i) (zI (zb v)) = some (zH E (zs σ 3 d 27 i (zb v)))) ∧ (∀ i : Int, 0 ≤ i → i < 2 → g_ast 1 (zH E σ) (zL E 3 d 27) (zI i) (zI 0) = some (zH E (zs σ 3 d 27 i 0))) ∧ (∀ i : Int, 0 ≤ i → i < 2 → g_ast 1 (zH E σ) (zL E 3 d 27) (zI i) (zI 1) = some (zH E (zs σ 3 d 27 i 1))) ∧ (g_len (zH E σ) (zL E 3 d 27) = some (zI 2)) := by
  refine ⟨?_, ?_, ?_, ?_, ?_, ?_, ?_, ?_, ?_, ?_, ?_, ?_, ?_, ?_, ?_, ?_, ?_, ?_, ?_, ?_, ?_, ?_, ?_, ?_, ?_, ?_, ?_, ?_, ?_, ?_, ?_, ?_, ?_, ?_, ?_, ?_⟩
  · exact fun i h0 h1 => zAld hW hu rfl (by decide) (by decide) h0 h1
  · exact fun i v h0 h1 => zAst hW hu rfl (by decide) (by decide) h0 h1 rfl
  · exact zLen hW hu rfl
  · exact fun i h0 h1 => zLald hW hu rfl (by decide) h0 h1
  · exact fun i v h0 h1 => zLast hW hu rfl (by decide) h0 h1
  · exact zLen hW hu rfl
  · exact fun i h0 h1 => zAld hW hu rfl (by decide) (by decide) h0 h1
  · exact zLen hW hu rfl
  · exact fun i h0 h1 => zAld hW hu rfl (by decide) (by decide) h0 h1
  · exact fun i v h0 h1 => zAst hW hu rfl (by decide) (by decide) h0 h1 rfl
  · exact zLen hW hu rfl
  · exact fun i h0 h1 => zLald hW hu rfl (by decide) h0 h1
  · exact fun i v h0 h1 => zLast hW hu rfl (by decide) h0 h1
  · exact zLen hW hu rfl
  · exact fun i h0 h1 => zAld hW hu rfl (by decide) (by decide) h0 h1
  · exact fun i v h0 h1 => zAst hW hu rfl (by decide) (by decide) h0 h1 rfl
  · exact zLen hW hu rfl
  · exact fun i h0 h1 => zAld hW hu rfl (by decide) (by decide) h0 h1
  · exact fun i v h0 h1 => zAst hW hu rfl (by decide) (by decide) h0 h1 rfl
  · exact zLen hW hu rfl
  · exact fun i h0 h1 => zAld hW hu rfl (by decide) (by decide) h0 h1
  · exact fun i v h0 h1 => zAst hW hu rfl (by decide) (by decide) h0 h1 (g_nar1 v)
  · exact fun i h0 h1 => zAst hW hu rfl (by decide) (by decide) h0 h1 rfl
  · exact fun i h0 h1 => zAst hW hu rfl (by decide) (by decide) h0 h1 rfl
  · exact zLen hW hu rfl
  · exact fun i h0 h1 => zAld hW hu rfl (by decide) (by decide) h0 h1
  · exact fun i v h0 h1 => zAst hW hu rfl (by decide) (by decide) h0 h1 rfl
  · exact zLen hW hu rfl
  · exact fun i h0 h1 => zAld hW hu rfl (by decide) (by decide) h0 h1
  · exact fun i v h0 h1 => zAst hW hu rfl (by decide) (by decide) h0 h1 rfl
  · exact zLen hW hu rfl
  · exact fun i h0 h1 => zAld hW hu rfl (by decide) (by decide) h0 h1
  · exact fun i v h0 h1 => zAst hW hu rfl (by decide) (by decide) h0 h1 (g_nar1 v)
  · exact fun i h0 h1 => zAst hW hu rfl (by decide) (by decide) h0 h1 rfl
  · exact fun i h0 h1 => zAst hW hu rfl (by decide) (by decide) h0 h1 rfl
  · exact zLen hW hu rfl
set_option maxRecDepth 20000 in
theorem zz_oa (hW : zWF E) (hu : zU E 4 d = true) : (∀ i : Int, 0 ≤ i → i < 1 → g_lald (zH E σ) (zL E 4 d 0) (zI i) = some (zJ (σ 4 d 0 i))) ∧ (∀ i v : Int, 0 ≤ i → i < 1 → g_last (zH E σ) (zL E 4 d 0) (zI i) (zJ v) = some (zH E (zs σ 4 d 0 i v))) ∧ (g_len (zH E σ) (zL E 4 d 0) = some (zI 1)) := by
  refine ⟨?_, ?_, ?_⟩
  · exact fun i h0 h1 => zLald hW hu rfl (by decide) h0 h1
  · exact fun i v h0 h1 => zLast hW hu rfl (by decide) h0 h1
  · exact zLen hW hu rfl
end zH
end
section
/-! Rows: the class's own helpers over them. -/
theorem zb_01 (b : Bool) : zb b = 0 ∨ zb b = 1 := by cases b <;> decide
section zRow
variable {E : zE} {σ : zW} {k d c : Nat}
theorem zr_zs {i v : Int} {r : Int → Int} : zr (zs σ k d c i v) k d c r = zr σ k d c r := by
  funext k' d' c'
  unfold zr zs
  by_cases h : k' = k ∧ d' = d ∧ c' = c
  · rw [if_pos h, if_pos h]
  · rw [if_neg h, if_neg h]
    funext i'
    rw [if_neg (fun z => h ⟨z.1, z.2.1, z.2.2.1⟩)]
theorem zr_self {r : Int → Int} (h : r = σ k d c) : zr σ k d c r = σ := by
  funext k' d' c'
  unfold zr
  split
  · rename_i z
    obtain ⟨rfl, rfl, rfl⟩ := z
    exact h
  · rfl
theorem zr_at {r : Int → Int} : zr σ k d c r k d c = r := by simp [zr]
theorem zs_at {i v j : Int} : zs σ k d c i v k d c j = if j = i then v else σ k d c j := by simp [zs]
theorem zr_ne {r : Int → Int} {k' d' c' : Nat} (h : ¬ (k' = k ∧ d' = d ∧ c' = c)) : zr σ k d c r k' d' c' = σ k' d' c' := by
  unfold zr
  rw [if_neg h]
theorem zs_ne {i v : Int} {k' d' c' : Nat} (h : ¬ (k' = k ∧ d' = d ∧ c' = c)) : zs σ k d c i v k' d' c' = σ k' d' c' := by
  funext j
  unfold zs
  rw [if_neg (fun z => h ⟨z.1, z.2.1, z.2.2.1⟩)]
theorem zX_at {n : Nat} (hW : zWF E) (hu : zU E k d = true) (ha : zA k c = some (0, n)) (hn : n < 2147483648) {i o : Int} (h0 : -2147483648 ≤ i) (h1 : i < 2147483648) : f_X9_at (zH E σ) (zL E k d c) (zI i) (zI o) = some (zI (if 0 ≤ i ∧ i < n then σ k d c i else o)) := by
  unfold f_X9_at
  rw [show (0 : Int32) = zI 0 from rfl, zLen hW hu ha, zz_some]
  simp only [show (zI i < zI 0) = (i < 0) from zI_lt h0 h1 (by omega) (by omega), show (zI n ≤ zI i) = ((n : Int) ≤ i) from zI_le (by omega) (by omega) h0 h1]
  by_cases h2 : i < 0
  · rw [if_pos h2, if_neg (by omega)]
  · rw [if_neg h2]
    by_cases h3 : (n : Int) ≤ i
    · rw [if_pos h3, if_neg (by omega)]
    · rw [if_neg h3, if_pos (by omega), zAld hW hu ha (by omega) hn (by omega) (by omega), zz_some]
theorem zX_isSet {n : Nat} (hW : zWF E) (hu : zU E k d = true) (ha : zA k c = some (1, n)) (hn : n < 2147483648) {i : Int} (h0 : -2147483648 ≤ i) (h1 : i < 2147483648) (hv : 0 ≤ i → i < n → σ k d c i = 0 ∨ σ k d c i = 1) : f_X9_isSet (zH E σ) (zL E k d c) (zI i) = some (zI (if 0 ≤ i ∧ i < n then σ k d c i else 0)) := by
  unfold f_X9_isSet
  rw [show (0 : Int32) = zI 0 from rfl, zLen hW hu ha, zz_some]
  simp only [show (zI i < zI 0) = (i < 0) from zI_lt h0 h1 (by omega) (by omega), show (zI n ≤ zI i) = ((n : Int) ≤ i) from zI_le (by omega) (by omega) h0 h1]
  by_cases h2 : i < 0
  · rw [if_pos h2, if_neg (by omega)]
  · rw [if_neg h2]
    by_cases h3 : (n : Int) ≤ i
    · rw [if_pos h3, if_neg (by omega)]
    · rw [if_neg h3, if_pos (by omega), zAld hW hu ha (by omega) hn (by omega) (by omega), zz_some]
      rcases hv (by omega) (by omega) with h | h <;> rw [h] <;> rfl
theorem zX_put {n : Nat} (hW : zWF E) (hu : zU E k d = true) (ha : zA k c = some (0, n)) (hn : n < 2147483648) {i v : Int} (h0 : -2147483648 ≤ i) (h1 : i < 2147483648) : f_X9_put (zH E σ) (zL E k d c) (zI i) (zI v) = some (zH E (if 0 ≤ i ∧ i < n then zs σ k d c i v else σ)) := by
  unfold f_X9_put
  rw [show (0 : Int32) = zI 0 from rfl, zLen hW hu ha, zz_some]
  simp only [show (zI i < zI 0) = (i < 0) from zI_lt h0 h1 (by omega) (by omega), show (zI n ≤ zI i) = ((n : Int) ≤ i) from zI_le (by omega) (by omega) h0 h1]
  by_cases h2 : i < 0
  · rw [if_pos h2, if_neg (by omega)]
  · rw [if_neg h2]
    by_cases h3 : (n : Int) ≤ i
    · rw [if_pos h3, if_neg (by omega)]
    · rw [if_neg h3, if_pos (by omega), zAst hW hu ha (by omega) hn (by omega) (by omega) rfl, zz_some]
theorem zX_put_ {n : Nat} (hW : zWF E) (hu : zU E k d = true) (ha : zA k c = some (3, n)) (hn : n < 2147483648) {i v : Int} (h0 : -2147483648 ≤ i) (h1 : i < 2147483648) : f_X9_put_ (zH E σ) (zL E k d c) (zI i) (zJ v) = some (zH E (if 0 ≤ i ∧ i < n then zs σ k d c i v else σ)) := by
  unfold f_X9_put_
  rw [show (0 : Int32) = zI 0 from rfl, zLen hW hu ha, zz_some]
  simp only [show (zI i < zI 0) = (i < 0) from zI_lt h0 h1 (by omega) (by omega), show (zI n ≤ zI i) = ((n : Int) ≤ i) from zI_le (by omega) (by omega) h0 h1]
  by_cases h2 : i < 0
  · rw [if_pos h2, if_neg (by omega)]
  · rw [if_neg h2]
    by_cases h3 : (n : Int) ≤ i
    · rw [if_pos h3, if_neg (by omega)]
    · rw [if_neg h3, if_pos (by omega), zLast hW hu ha hn (by omega) (by omega), zz_some]
theorem zX_at_ {n : Nat} (hW : zWF E) (hu : zU E k d = true) (ha : zA k c = some (3, n)) (hn : n < 2147483648) {i o : Int} (h0 : -2147483648 ≤ i) (h1 : i < 2147483648) : f_X9_at_ (zH E σ) (zL E k d c) (zI i) (zJ o) = some (zJ (if 0 ≤ i ∧ i < n then σ k d c i else o)) := by
  unfold f_X9_at_
  rw [show (0 : Int32) = zI 0 from rfl, zLen hW hu ha, zz_some]
  simp only [show (zI i < zI 0) = (i < 0) from zI_lt h0 h1 (by omega) (by omega), show (zI n ≤ zI i) = ((n : Int) ≤ i) from zI_le (by omega) (by omega) h0 h1]
  by_cases h2 : i < 0
  · rw [if_pos h2, if_neg (by omega)]
  · rw [if_neg h2]
    by_cases h3 : (n : Int) ≤ i
    · rw [if_pos h3, if_neg (by omega)]
    · rw [if_neg h3, if_pos (by omega), zLald hW hu ha hn (by omega) (by omega), zz_some]
theorem zX_mark {n : Nat} (hW : zWF E) (hu : zU E k d = true) (ha : zA k c = some (1, n)) (hn : n < 2147483648) {i v : Int} (h0 : -2147483648 ≤ i) (h1 : i < 2147483648) (hv : v = 0 ∨ v = 1) : f_X9_mark (zH E σ) (zL E k d c) (zI i) (zI v) = some (zH E (if 0 ≤ i ∧ i < n then zs σ k d c i v else σ)) := by
  unfold f_X9_mark
  rw [show (0 : Int32) = zI 0 from rfl, zLen hW hu ha, zz_some]
  simp only [show (zI i < zI 0) = (i < 0) from zI_lt h0 h1 (by omega) (by omega), show (zI n ≤ zI i) = ((n : Int) ≤ i) from zI_le (by omega) (by omega) h0 h1]
  by_cases h2 : i < 0
  · rw [if_pos h2, if_neg (by omega)]
  · rw [if_neg h2]
    by_cases h3 : (n : Int) ≤ i
    · rw [if_pos h3, if_neg (by omega)]
    · rw [if_neg h3, if_pos (by omega), zAst hW hu ha (by omega) hn (by omega) (by omega) (by rcases hv with rfl | rfl <;> rfl), zz_some]

theorem zX_fill_L {n : Nat} (hW : zWF E) (hu : zU E k d = true) (ha : zA k c = some (0, n)) (hn : n < 2147483648) {v : Int} : ∀ (m fuel : Nat) (i : Int) (σ : zW), 0 ≤ i → i + m = n → m < fuel → f_X9_fill_L2 fuel (zH E σ) (zL E k d c) (zI v) (zI i) = some (zH E (zr σ k d c (fun j => if i ≤ j ∧ j < n then v else σ k d c j))) := by
  intro m
  induction m with
  | zero =>
    intro fuel i σ h0 h1 h2
    obtain ⟨fuel, rfl⟩ : ∃ f, fuel = f + 1 := ⟨fuel - 1, by omega⟩
    rw [f_X9_fill_L2, zLen hW hu ha, zz_some, if_pos (show zI n ≤ zI i by rw [zI_le (by omega) (by omega) (by omega) (by omega)]; omega), zr_self]
    funext j
    rw [if_neg (by omega)]
  | succ m ih =>
    intro fuel i σ h0 h1 h2
    obtain ⟨fuel, rfl⟩ : ∃ f, fuel = f + 1 := ⟨fuel - 1, by omega⟩
    rw [f_X9_fill_L2, zLen hW hu ha, zz_some, if_neg (show ¬ zI n ≤ zI i by rw [zI_le (by omega) (by omega) (by omega) (by omega)]; omega), zAst hW hu ha (by omega) hn (by omega) (by omega) rfl, zz_some, show (1 : Int32) = zI 1 from rfl, zI_add, ih _ _ _ (by omega) (by omega) (by omega), zr_zs]
    congr 3
    funext j
    rw [zs_at]
    by_cases hj : j = i
    · subst hj
      rw [if_neg (by omega), if_pos rfl, if_pos (by omega)]
    · by_cases hj2 : i ≤ j ∧ j < n
      · rw [if_pos (by omega), if_pos hj2]
      · rw [if_neg (by omega), if_neg hj, if_neg hj2]
theorem zX_fill {n : Nat} (hW : zWF E) (hu : zU E k d = true) (ha : zA k c = some (0, n)) (hn : n < 4096) {v : Int} : f_X9_fill (zH E σ) (zL E k d c) (zI v) = some (zH E (zr σ k d c (fun j => if 0 ≤ j ∧ j < n then v else σ k d c j))) := by
  unfold f_X9_fill
  rw [show (0 : Int32) = zI 0 from rfl]
  exact zX_fill_L hW hu ha (by omega) n g_N 0 σ (by omega) (by omega) (by unfold g_N; omega)

theorem zX_fill__L {n : Nat} (hW : zWF E) (hu : zU E k d = true) (ha : zA k c = some (1, n)) (hn : n < 2147483648) {v : Int} (hv : v = 0 ∨ v = 1) : ∀ (m fuel : Nat) (i : Int) (σ : zW), 0 ≤ i → i + m = n → m < fuel → f_X9_fill__L2 fuel (zH E σ) (zL E k d c) (zI v) (zI i) = some (zH E (zr σ k d c (fun j => if i ≤ j ∧ j < n then v else σ k d c j))) := by
  intro m
  induction m with
  | zero =>
    intro fuel i σ h0 h1 h2
    obtain ⟨fuel, rfl⟩ : ∃ f, fuel = f + 1 := ⟨fuel - 1, by omega⟩
    rw [f_X9_fill__L2, zLen hW hu ha, zz_some, if_pos (show zI n ≤ zI i by rw [zI_le (by omega) (by omega) (by omega) (by omega)]; omega), zr_self]
    funext j
    rw [if_neg (by omega)]
  | succ m ih =>
    intro fuel i σ h0 h1 h2
    obtain ⟨fuel, rfl⟩ : ∃ f, fuel = f + 1 := ⟨fuel - 1, by omega⟩
    rw [f_X9_fill__L2, zLen hW hu ha, zz_some, if_neg (show ¬ zI n ≤ zI i by rw [zI_le (by omega) (by omega) (by omega) (by omega)]; omega), zAst hW hu ha (by omega) hn (by omega) (by omega) (by rcases hv with rfl | rfl <;> rfl), zz_some, show (1 : Int32) = zI 1 from rfl, zI_add, ih _ _ _ (by omega) (by omega) (by omega), zr_zs]
    congr 3
    funext j
    rw [zs_at]
    by_cases hj : j = i
    · subst hj
      rw [if_neg (by omega), if_pos rfl, if_pos (by omega)]
    · by_cases hj2 : i ≤ j ∧ j < n
      · rw [if_pos (by omega), if_pos hj2]
      · rw [if_neg (by omega), if_neg hj, if_neg hj2]
theorem zX_fill_ {n : Nat} (hW : zWF E) (hu : zU E k d = true) (ha : zA k c = some (1, n)) (hn : n < 4096) {v : Int} (hv : v = 0 ∨ v = 1) : f_X9_fill_ (zH E σ) (zL E k d c) (zI v) = some (zH E (zr σ k d c (fun j => if 0 ≤ j ∧ j < n then v else σ k d c j))) := by
  unfold f_X9_fill_
  rw [show (0 : Int32) = zI 0 from rfl]
  exact zX_fill__L hW hu ha (by omega) hv n g_N 0 σ (by omega) (by omega) (by unfold g_N; omega)

theorem zX_copy_L {n d2 : Nat} (hd : d2 ≠ d) (hW : zWF E) (hu : zU E k d = true) (ha : zA k c = some (0, n)) (hu2 : zU E k d2 = true) (hn : n < 2147483648) (s : Int → Int) : ∀ (m fuel : Nat) (i : Int) (σ : zW), σ k d c = s → 0 ≤ i → i + m = n → m < fuel → f_X9_copy_L2 fuel (zH E σ) (zL E k d c) (zL E k d2 c) (zI i) = some (zH E (zr σ k d2 c (fun j => if i ≤ j ∧ j < n then s j else σ k d2 c j))) := by
  have ha2 := ha
  intro m
  induction m with
  | zero =>
    intro fuel i σ hs h0 h1 h2
    obtain ⟨fuel, rfl⟩ : ∃ f, fuel = f + 1 := ⟨fuel - 1, by omega⟩
    rw [f_X9_copy_L2, zLen hW hu ha, zz_some, if_pos (show zI n ≤ zI i by rw [zI_le (by omega) (by omega) (by omega) (by omega)]; omega), zr_self]
    funext j
    rw [if_neg (by omega)]
  | succ m ih =>
    intro fuel i σ hs h0 h1 h2
    obtain ⟨fuel, rfl⟩ : ∃ f, fuel = f + 1 := ⟨fuel - 1, by omega⟩
    rw [f_X9_copy_L2, zLen hW hu ha, zz_some, if_neg (show ¬ zI n ≤ zI i by rw [zI_le (by omega) (by omega) (by omega) (by omega)]; omega), zLen hW hu2 ha2, zz_some, if_neg (show ¬ zI n ≤ zI i by rw [zI_le (by omega) (by omega) (by omega) (by omega)]; omega), zAld hW hu ha (by omega) hn h0 (by omega), zz_some, zAst hW hu2 ha2 (by omega) hn h0 (by omega) rfl, zz_some, show (1 : Int32) = zI 1 from rfl, zI_add, ih _ _ _ (by rw [zs_ne (fun z => hd z.2.1.symm)]; exact hs) (by omega) (by omega) (by omega), zr_zs]
    congr 3
    funext j
    rw [zs_at, hs]
    by_cases hj : j = i
    · subst hj
      rw [if_neg (by omega), if_pos rfl, if_pos (by omega)]
    · by_cases hj2 : i ≤ j ∧ j < n
      · rw [if_pos (by omega), if_pos hj2]
      · rw [if_neg (by omega), if_neg hj, if_neg hj2]
theorem zX_copy {n d2 : Nat} (hd : d2 ≠ d) (hW : zWF E) (hu : zU E k d = true) (ha : zA k c = some (0, n)) (hu2 : zU E k d2 = true) (hn : n < 4096) : f_X9_copy (zH E σ) (zL E k d c) (zL E k d2 c) = some (zH E (zr σ k d2 c (fun j => if 0 ≤ j ∧ j < n then σ k d c j else σ k d2 c j))) := by
  unfold f_X9_copy
  rw [show (0 : Int32) = zI 0 from rfl]
  exact zX_copy_L hd hW hu ha hu2 (by omega) (σ k d c) n g_N 0 σ rfl (by omega) (by omega) (by unfold g_N; omega)

theorem zX_copy__L {n d2 : Nat} (hd : d2 ≠ d) (hW : zWF E) (hu : zU E k d = true) (ha : zA k c = some (1, n)) (hu2 : zU E k d2 = true) (hn : n < 2147483648) (s : Int → Int) (hv : ∀ j : Int, 0 ≤ j → j < n → s j = 0 ∨ s j = 1) : ∀ (m fuel : Nat) (i : Int) (σ : zW), σ k d c = s → 0 ≤ i → i + m = n → m < fuel → f_X9_copy__L2 fuel (zH E σ) (zL E k d c) (zL E k d2 c) (zI i) = some (zH E (zr σ k d2 c (fun j => if i ≤ j ∧ j < n then s j else σ k d2 c j))) := by
  have ha2 := ha
  intro m
  induction m with
  | zero =>
    intro fuel i σ hs h0 h1 h2
    obtain ⟨fuel, rfl⟩ : ∃ f, fuel = f + 1 := ⟨fuel - 1, by omega⟩
    rw [f_X9_copy__L2, zLen hW hu ha, zz_some, if_pos (show zI n ≤ zI i by rw [zI_le (by omega) (by omega) (by omega) (by omega)]; omega), zr_self]
    funext j
    rw [if_neg (by omega)]
  | succ m ih =>
    intro fuel i σ hs h0 h1 h2
    obtain ⟨fuel, rfl⟩ : ∃ f, fuel = f + 1 := ⟨fuel - 1, by omega⟩
    rw [f_X9_copy__L2, zLen hW hu ha, zz_some, if_neg (show ¬ zI n ≤ zI i by rw [zI_le (by omega) (by omega) (by omega) (by omega)]; omega), zLen hW hu2 ha2, zz_some, if_neg (show ¬ zI n ≤ zI i by rw [zI_le (by omega) (by omega) (by omega) (by omega)]; omega), zAld hW hu ha (by omega) hn h0 (by omega), zz_some, zAst hW hu2 ha2 (by omega) hn h0 (by omega) (by rcases hv i h0 (by omega) with h | h <;> rw [hs, h] <;> rfl), zz_some, show (1 : Int32) = zI 1 from rfl, zI_add, ih _ _ _ (by rw [zs_ne (fun z => hd z.2.1.symm)]; exact hs) (by omega) (by omega) (by omega), zr_zs]
    congr 3
    funext j
    rw [zs_at, hs]
    by_cases hj : j = i
    · subst hj
      rw [if_neg (by omega), if_pos rfl, if_pos (by omega)]
    · by_cases hj2 : i ≤ j ∧ j < n
      · rw [if_pos (by omega), if_pos hj2]
      · rw [if_neg (by omega), if_neg hj, if_neg hj2]
theorem zX_copy_ {n d2 : Nat} (hd : d2 ≠ d) (hW : zWF E) (hu : zU E k d = true) (ha : zA k c = some (1, n)) (hu2 : zU E k d2 = true) (hn : n < 4096) (hv : ∀ j : Int, 0 ≤ j → j < n → σ k d c j = 0 ∨ σ k d c j = 1) : f_X9_copy_ (zH E σ) (zL E k d c) (zL E k d2 c) = some (zH E (zr σ k d2 c (fun j => if 0 ≤ j ∧ j < n then σ k d c j else σ k d2 c j))) := by
  unfold f_X9_copy_
  rw [show (0 : Int32) = zI 0 from rfl]
  exact zX_copy__L hd hW hu ha hu2 (by omega) (σ k d c) hv n g_N 0 σ rfl (by omega) (by omega) (by unfold g_N; omega)

theorem zX_copy___L {n d2 : Nat} (hd : d2 ≠ d) (hW : zWF E) (hu : zU E k d = true) (ha : zA k c = some (3, n)) (hu2 : zU E k d2 = true) (hn : n < 2147483648) (s : Int → Int) : ∀ (m fuel : Nat) (i : Int) (σ : zW), σ k d c = s → 0 ≤ i → i + m = n → m < fuel → f_X9_copy___L2 fuel (zH E σ) (zL E k d c) (zL E k d2 c) (zI i) = some (zH E (zr σ k d2 c (fun j => if i ≤ j ∧ j < n then s j else σ k d2 c j))) := by
  have ha2 := ha
  intro m
  induction m with
  | zero =>
    intro fuel i σ hs h0 h1 h2
    obtain ⟨fuel, rfl⟩ : ∃ f, fuel = f + 1 := ⟨fuel - 1, by omega⟩
    rw [f_X9_copy___L2, zLen hW hu ha, zz_some, if_pos (show zI n ≤ zI i by rw [zI_le (by omega) (by omega) (by omega) (by omega)]; omega), zr_self]
    funext j
    rw [if_neg (by omega)]
  | succ m ih =>
    intro fuel i σ hs h0 h1 h2
    obtain ⟨fuel, rfl⟩ : ∃ f, fuel = f + 1 := ⟨fuel - 1, by omega⟩
    rw [f_X9_copy___L2, zLen hW hu ha, zz_some, if_neg (show ¬ zI n ≤ zI i by rw [zI_le (by omega) (by omega) (by omega) (by omega)]; omega), zLen hW hu2 ha2, zz_some, if_neg (show ¬ zI n ≤ zI i by rw [zI_le (by omega) (by omega) (by omega) (by omega)]; omega), zLald hW hu ha hn h0 (by omega), zz_some, zLast hW hu2 ha2 hn h0 (by omega), zz_some, show (1 : Int32) = zI 1 from rfl, zI_add, ih _ _ _ (by rw [zs_ne (fun z => hd z.2.1.symm)]; exact hs) (by omega) (by omega) (by omega), zr_zs]
    congr 3
    funext j
    rw [zs_at, hs]
    by_cases hj : j = i
    · subst hj
      rw [if_neg (by omega), if_pos rfl, if_pos (by omega)]
    · by_cases hj2 : i ≤ j ∧ j < n
      · rw [if_pos (by omega), if_pos hj2]
      · rw [if_neg (by omega), if_neg hj, if_neg hj2]
theorem zX_copy__ {n d2 : Nat} (hd : d2 ≠ d) (hW : zWF E) (hu : zU E k d = true) (ha : zA k c = some (3, n)) (hu2 : zU E k d2 = true) (hn : n < 4096) : f_X9_copy__ (zH E σ) (zL E k d c) (zL E k d2 c) = some (zH E (zr σ k d2 c (fun j => if 0 ≤ j ∧ j < n then σ k d c j else σ k d2 c j))) := by
  unfold f_X9_copy__
  rw [show (0 : Int32) = zI 0 from rfl]
  exact zX_copy___L hd hW hu ha hu2 (by omega) (σ k d c) n g_N 0 σ rfl (by omega) (by omega) (by unfold g_N; omega)

set_option maxRecDepth 20000 in
theorem zz_dr (hW : zWF E) (hu : zU E 0 d = true) : (∀ i o : Int, -2147483648 ≤ i → i < 2147483648 → f_X9_at (zH E σ) (zL E 0 d 2) (zI i) (zI o) = some (zI (if 0 ≤ i ∧ i < 96 then σ 0 d 2 i else o))) ∧ (∀ i v : Int, 0 ≤ i → i < 96 → f_X9_put (zH E σ) (zL E 0 d 2) (zI i) (zI v) = some (zH E (zs σ 0 d 2 i v))) ∧ (∀ i v : Int, -2147483648 ≤ i → i < 0 → f_X9_put (zH E σ) (zL E 0 d 2) (zI i) (zI v) = some (zH E σ)) ∧ (∀ v : Int, f_X9_fill (zH E σ) (zL E 0 d 2) (zI v) = some (zH E (zr σ 0 d 2 (fun j => if 0 ≤ j ∧ j < 96 then v else σ 0 d 2 j)))) ∧ (∀ i v : Int, 0 ≤ i → i < 96 → v = 0 ∨ v = 1 → f_X9_mark (zH E σ) (zL E 0 d 3) (zI i) (zI v) = some (zH E (zs σ 0 d 3 i v))) ∧ (∀ (i : Int) (b : Bool), 0 ≤ i → i < 96 → f_X9_mark (zH E σ) (zL E 0 d 3) (zI i) (zI (zb b)) = some (zH E (zs σ 0 d 3 i (zb b)))) ∧ (∀ i : Int, 0 ≤ i → i < 96 → f_X9_mark (zH E σ) (zL E 0 d 3) (zI i) (zI 0) = some (zH E (zs σ 0 d 3 i 0))) ∧ (∀ i : Int, 0 ≤ i → i < 96 → f_X9_mark (zH E σ) (zL E 0 d 3) (zI i) (zI 1) = some (zH E (zs σ 0 d 3 i 1))) ∧ (f_X9_fill_ (zH E σ) (zL E 0 d 3) (zI 0) = some (zH E (zr σ 0 d 3 (fun j => if 0 ≤ j ∧ j < 96 then 0 else σ 0 d 3 j)))) ∧ (∀ i v : Int, 0 ≤ i → i < 96 → v = 0 ∨ v = 1 → f_X9_mark (zH E σ) (zL E 0 d 4) (zI i) (zI v) = some (zH E (zs σ 0 d 4 i v))) ∧ (∀ (i : Int) (b : Bool), 0 ≤ i → i < 96 → f_X9_mark (zH E σ) (zL E 0 d 4) (zI i) (zI (zb b)) = some (zH E (zs σ 0 d 4 i (zb b)))) ∧ (∀ i : Int, 0 ≤ i → i < 96 → f_X9_mark (zH E σ) (zL E 0 d 4) (zI i) (zI 0) = some (zH E (zs σ 0 d 4 i 0))) ∧ (∀ i : Int, 0 ≤ i → i < 96 → f_X9_mark (zH E σ) (zL E 0 d 4) (zI i) (zI 1) = some (zH E (zs σ 0 d 4 i 1))) ∧ (f_X9_fill_ (zH E σ) (zL E 0 d 4) (zI 0) = some (zH E (zr σ 0 d 4 (fun j => if 0 ≤ j ∧ j < 96 then 0 else σ 0 d 4 j)))) ∧ (∀ i o : Int, -2147483648 ≤ i → i < 2147483648 → f_X9_at (zH E σ) (zL E 0 d 5) (zI i) (zI o) = some (zI (if 0 ≤ i ∧ i < 96 then σ 0 d 5 i else o))) ∧ (∀ i v : Int, 0 ≤ i → i < 96 → f_X9_put (zH E σ) (zL E 0 d 5) (zI i) (zI v) = some (zH E (zs σ 0 d 5 i v))) ∧ (∀ i v : Int, -2147483648 ≤ i → i < 0 → f_X9_put (zH E σ) (zL E 0 d 5) (zI i) (zI v) = some (zH E σ)) ∧ (∀ v : Int, f_X9_fill (zH E σ) (zL E 0 d 5) (zI v) = some (zH E (zr σ 0 d 5 (fun j => if 0 ≤ j ∧ j < 96 then v else σ 0 d 5 j)))) ∧ (∀ i o : Int, -2147483648 ≤ i → i < 2147483648 → f_X9_at (zH E σ) (zL E 0 d 6) (zI i) (zI o) = some (zI (if 0 ≤ i ∧ i < 96 then σ 0 d 6 i else o))) ∧ (∀ i v : Int, 0 ≤ i → i < 96 → f_X9_put (zH E σ) (zL E 0 d 6) (zI i) (zI v) = some (zH E (zs σ 0 d 6 i v))) ∧ (∀ i v : Int, -2147483648 ≤ i → i < 0 → f_X9_put (zH E σ) (zL E 0 d 6) (zI i) (zI v) = some (zH E σ)) ∧ (∀ v : Int, f_X9_fill (zH E σ) (zL E 0 d 6) (zI v) = some (zH E (zr σ 0 d 6 (fun j => if 0 ≤ j ∧ j < 96 then v else σ 0 d 6 j)))) ∧ (∀ i o : Int, -2147483648 ≤ i → i < 2147483648 → f_X9_at (zH E σ) (zL E 0 d 7) (zI i) (zI o) = some (zI (if 0 ≤ i ∧ i < 96 then σ 0 d 7 i else o))) ∧ (∀ i v : Int, 0 ≤ i → i < 96 → f_X9_put (zH E σ) (zL E 0 d 7) (zI i) (zI v) = some (zH E (zs σ 0 d 7 i v))) ∧ (∀ i v : Int, -2147483648 ≤ i → i < 0 → f_X9_put (zH E σ) (zL E 0 d 7) (zI i) (zI v) = some (zH E σ)) ∧ (∀ v : Int, f_X9_fill (zH E σ) (zL E 0 d 7) (zI v) = some (zH E (zr σ 0 d 7 (fun j => if 0 ≤ j ∧ j < 96 then v else σ 0 d 7 j)))) ∧ (∀ i o : Int, -2147483648 ≤ i → i < 2147483648 → f_X9_at (zH E σ) (zL E 0 d 8) (zI i) (zI o) = some (zI (if 0 ≤ i ∧ i < 96 then σ 0 d 8 i else o))) ∧ (∀ i v : Int, 0 ≤ i → i < 96 → f_X9_put (zH E σ) (zL E 0 d 8) (zI i) (zI v) = some (zH E (zs σ 0 d 8 i v))) ∧ (∀ i v : Int, -2147483648 ≤ i → i < 0 → f_X9_put (zH E σ) (zL E 0 d 8) (zI i) (zI v) = some (zH E σ)) ∧ (∀ v : Int, f_X9_fill (zH E σ) (zL E 0 d 8) (zI v) = some (zH E (zr σ 0 d 8 (fun j => if 0 ≤ j ∧ j < 96 then v else σ 0 d 8 j)))) ∧ (∀ i o : Int, -2147483648 ≤ i → i < 2147483648 → f_X9_at (zH E σ) (zL E 0 d 9) (zI i) (zI o) = some (zI (if 0 ≤ i ∧ i < 96 then σ 0 d 9 i else o))) ∧ (∀ i v : Int, 0 ≤ i → i < 96 → f_X9_put (zH E σ) (zL E 0 d 9) (zI i) (zI v) = some (zH E (zs σ 0 d 9 i v))) ∧ (∀ i v : Int, -2147483648 ≤ i → i < 0 → f_X9_put (zH E σ) (zL E 0 d 9) (zI i) (zI v) = some (zH E σ)) ∧ (∀ v : Int, f_X9_fill (zH E σ) (zL E 0 d 9) (zI v) = some (zH E (zr σ 0 d 9 (fun j => if 0 ≤ j ∧ j < 96 then v else σ 0 d 9 j)))) ∧ (∀ i o : Int, -2147483648 ≤ i → i < 2147483648 → f_X9_at (zH E σ) (zL E 0 d 11) (zI i) (zI o) = some (zI (if 0 ≤ i ∧ i < 96 then σ 0 d 11 i else o))) ∧ (∀ i v : Int, 0 ≤ i → i < 96 → f_X9_put (zH E σ) (zL E 0 d 11) (zI i) (zI v) = some (zH E (zs σ 0 d 11 i v))) ∧ (∀ i v : Int, -2147483648 ≤ i → i < 0 → f_X9_put (zH E σ) (zL E 0 d 11) (zI i) (zI v) = some (zH E σ)) ∧ (∀ v : Int, f_X9_fill (zH E σ) (zL E 0 d 11) (zI v) = some (zH E (zr σ 0 d 11 (fun j => if 0 ≤ j ∧ j < 96 then v else σ 0 d 11 j)))) ∧ (∀ i o : Int, -2147483648 ≤ i → i < 2147483648 → f_X9_at (zH E σ) (zL E 0 d 12) (zI i) (zI o) = some (zI (if 0 ≤ i ∧ i < 96 then σ 0 d 12 i else o))) ∧ (∀ i v : Int, 0 ≤ i → i < 96 → f_X9_put (zH E σ) (zL E 0 d 12) (zI i) (zI v) = some (zH E (zs σ 0 d 12 i v))) ∧ (∀ i v : Int, -2147483648 ≤ i → i < 0 → f_X9_put (zH E σ) (zL E 0 d 12) (zI i) (zI v) = some (zH E σ)) ∧ (∀ v : Int, f_X9_fill (zH E σ) (zL E 0 d 12) (zI v) = some (zH E (zr σ 0 d 12 (fun j => if 0 ≤ j ∧ j < 96 then v else σ 0 d 12 j)))) ∧ (∀ i o : Int, -2147483648 ≤ i → i < 2147483648 → f_X9_at (zH E σ) (zL E 0 d 13) (zI i) (zI o) = some (zI (if 0 ≤ i ∧ i < 96 then σ 0 d 13 i else o))) ∧ (∀ i v : Int, 0 ≤ i → i < 96 → f_X9_put (zH E σ) (zL E 0 d 13) (zI i) (zI v) = some (zH E (zs σ 0 d 13 i v))) ∧ (∀ i v : Int, -2147483648 ≤ i → i < 0 → f_X9_put (zH E σ) (zL E 0 d 13) (zI i) (zI v) = some (zH E σ)) ∧ (∀ v : Int, f_X9_fill (zH E σ) (zL E 0 d 13) (zI v) = some (zH E (zr σ 0 d 13 (fun j => if 0 ≤ j ∧ j < 96 then v else σ 0 d 13 j)))) ∧ (∀ i o : Int, -2147483648 ≤ i → i < 2147483648 → f_X9_at (zH E σ) (zL E 0 d 14) (zI i) (zI o) = some (zI (if 0 ≤ i ∧ i < 96 then σ 0 d 14 i else o))) ∧ (∀ i v : Int, 0 ≤ i → i < 96 → f_X9_put (zH E σ) (zL E 0 d 14) (zI i) (zI v) = some (zH E (zs σ 0 d 14 i v))) ∧ (∀ i v : Int, -2147483648 ≤ i → i < 0 → f_X9_put (zH E σ) (zL E 0 d 14) (zI i) (zI v) = some (zH E σ)) ∧ (∀ v : Int, f_X9_fill (zH E σ) (zL E 0 d 14) (zI v) = some (zH E (zr σ 0 d 14 (fun j => if 0 ≤ j ∧ j < 96 then v else σ 0 d 14 j)))) ∧ (∀ i o : Int, -2147483648 ≤ i → i < 2147483648 → f_X9_at (zH E σ) (zL E 0 d 15) (zI i) (zI o) = some (zI (if 0 ≤ i ∧ i < 96 then σ 0 d 15 i else o))) ∧ (∀ i v : Int, 0 ≤ i → i < 96 → f_X9_put (zH E σ) (zL E 0 d 15) (zI i) (zI v) = some (zH E (zs σ 0 d 15 i v))) ∧ (∀ i v : Int, -2147483648 ≤ i → i < 0 → f_X9_put (zH E σ) (zL E 0 d 15) (zI i) (zI v) = some (zH E σ)) ∧ (∀ v : Int, f_X9_fill (zH E σ) (zL E 0 d 15) (zI v) = some (zH E (zr σ 0 d 15 (fun j => if 0 ≤ j ∧ j < 96 then v else σ 0 d 15 j)))) ∧ (∀ i o : Int, -2147483648 ≤ i → i < 2147483648 → f_X9_at (zH E σ) (zL E 0 d 17) (zI i) (zI o) = some (zI (if 0 ≤ i ∧ i < 12 then σ 0 d 17 i else o))) ∧ (∀ i v : Int, 0 ≤ i → i < 12 → f_X9_put (zH E σ) (zL E 0 d 17) (zI i) (zI v) = some (zH E (zs σ 0 d 17 i v))) ∧ (∀ i v : Int, -2147483648 ≤ i → i < 0 → f_X9_put (zH E σ) (zL E 0 d 17) (zI i) (zI v) = some (zH E σ)) ∧ (∀ v : Int, f_X9_fill (zH E σ) (zL E 0 d 17) (zI v) = some (zH E (zr σ 0 d 17 (fun j => if 0 ≤ j ∧ j < 12 then v else σ 0 d 17 j)))) ∧ (∀ i o : Int, -2147483648 ≤ i → i < 2147483648 → f_X9_at (zH E σ) (zL E 0 d 18) (zI i) (zI o) = some (zI (if 0 ≤ i ∧ i < 12 then σ 0 d 18 i else o))) ∧ (∀ i v : Int, 0 ≤ i → i < 12 → f_X9_put (zH E σ) (zL E 0 d 18) (zI i) (zI v) = some (zH E (zs σ 0 d 18 i v))) ∧ (∀ i v : Int, -2147483648 ≤ i → i < 0 → f_X9_put (zH E σ) (zL E 0 d 18) (zI i) (zI v) = some (zH E σ)) ∧ (∀ v : Int, f_X9_fill (zH E σ) (zL E 0 d 18) (zI v) = some (zH E (zr σ 0 d 18 (fun j => if 0 ≤ j ∧ j < 12 then v else σ 0 d 18 j)))) ∧ (∀ i o : Int, -2147483648 ≤ i → i < 2147483648 → f_X9_at (zH E σ) (zL E 0 d 19) (zI i) (zI o) = some (zI (if 0 ≤ i ∧ i < 12 then σ 0 d 19 i else o))) ∧ (∀ i v : Int, 0 ≤ i → i < 12 → f_X9_put (zH E σ) (zL E 0 d 19) (zI i) (zI v) = some (zH E (zs σ 0 d 19 i v))) ∧ (∀ i v : Int, -2147483648 ≤ i → i < 0 → f_X9_put (zH E σ) (zL E 0 d 19) (zI i) (zI v) = some (zH E σ)) ∧ (∀ v : Int, f_X9_fill (zH E σ) (zL E 0 d 19) (zI v) = some (zH E (zr σ 0 d 19 (fun j => if 0 ≤ j ∧ j < 12 then v else σ 0 d 19 j)))) ∧ (∀ i o : Int, -2147483648 ≤ i → i < 2147483648 → f_X9_at (zH E σ) (zL E 0 d 20) (zI i) (zI o) = some (zI (if 0 ≤ i ∧ i < 12 then σ 0 d 20 i else o))) ∧ (∀ i v : Int, 0 ≤ i → i < 12 → f_X9_put (zH E σ) (zL E 0 d 20) (zI i) (zI v) = some (zH E (zs σ 0 d 20 i v))) ∧ (∀ i v : Int, -2147483648 ≤ i → i < 0 → f_X9_put (zH E σ) (zL E 0 d 20) (zI i) (zI v) = some (zH E σ)) ∧ (∀ v : Int, f_X9_fill (zH E σ) (zL E 0 d 20) (zI v) = some (zH E (zr σ 0 d 20 (fun j => if 0 ≤ j ∧ j < 12 then v else σ 0 d 20 j)))) ∧ (∀ i o : Int, -2147483648 ≤ i → i < 2147483648 → f_X9_at (zH E σ) (zL E 0 d 21) (zI i) (zI o) = some (zI (if 0 ≤ i ∧ i < 120 then σ 0 d 21 i else o))) ∧ (∀ i v : Int, 0 ≤ i → i < 120 → f_X9_put (zH E σ) (zL E 0 d 21) (zI i) (zI v) = some (zH E (zs σ 0 d 21 i v))) ∧ (∀ i v : Int, -2147483648 ≤ i → i < 0 → f_X9_put (zH E σ) (zL E 0 d 21) (zI i) (zI v) = some (zH E σ)) ∧ (∀ v : Int, f_X9_fill (zH E σ) (zL E 0 d 21) (zI v) = some (zH E (zr σ 0 d 21 (fun j => if 0 ≤ j ∧ j < 120 then v else σ 0 d 21 j)))) ∧ (∀ i o : Int, -2147483648 ≤ i → i < 2147483648 → f_X9_at (zH E σ) (zL E 0 d 22) (zI i) (zI o) = some (zI (if 0 ≤ i ∧ i < 120 then σ 0 d 22 i else o))) ∧ (∀ i v : Int, 0 ≤ i → i < 120 → f_X9_put (zH E σ) (zL E 0 d 22) (zI i) (zI v) = some (zH E (zs σ 0 d 22 i v))) ∧ (∀ i v : Int, -2147483648 ≤ i → i < 0 → f_X9_put (zH E σ) (zL E 0 d 22) (zI i) (zI v) = some (zH E σ)) ∧ (∀ v : Int, f_X9_fill (zH E σ) (zL E 0 d 22) (zI v) = some (zH E (zr σ 0 d 22 (fun j => if 0 ≤ j ∧ j < 120 then v else σ 0 d 22 j)))) ∧ (∀ i o : Int, -2147483648 ≤ i → i < 2147483648 → f_X9_at (zH E σ) (zL E 0 d 24) (zI i) (zI o) = some (zI (if 0 ≤ i ∧ i < 12 then σ 0 d 24 i else o))) ∧ (∀ i v : Int, 0 ≤ i → i < 12 → f_X9_put (zH E σ) (zL E 0 d 24) (zI i) (zI v) = some (zH E (zs σ 0 d 24 i v))) ∧ (∀ i v : Int, -2147483648 ≤ i → i < 0 → f_X9_put (zH E σ) (zL E 0 d 24) (zI i) (zI v) = some (zH E σ)) ∧ (∀ v : Int, f_X9_fill (zH E σ) (zL E 0 d 24) (zI v) = some (zH E (zr σ 0 d 24 (fun j => if 0 ≤ j ∧ j < 12 then v else σ 0 d 24 j)))) := by
  refine ⟨?_, ?_, ?_, ?_, ?_, ?_, ?_, ?_, ?_, ?_, ?_, ?_, ?_, ?_, ?_, ?_, ?_, ?_, ?_, ?_, ?_, ?_, ?_, ?_, ?_, ?_, ?_, ?_, ?_, ?_, ?_, ?_, ?_, ?_, ?_, ?_, ?_, ?_, ?_, ?_, ?_, ?_, ?_, ?_, ?_, ?_, ?_, ?_, ?_, ?_, ?_, ?_, ?_, ?_, ?_, ?_, ?_, ?_, ?_, ?_, ?_, ?_, ?_, ?_, ?_, ?_, ?_, ?_, ?_, ?_, ?_, ?_, ?_, ?_, ?_, ?_, ?_, ?_, ?_, ?_, ?_, ?_⟩
  · exact fun i o h0 h1 => zX_at hW hu rfl (by decide) h0 h1
  · exact fun i v h0 h1 => by rw [zX_put (n := 96) hW hu rfl (by decide) (by omega) (by omega), if_pos (by omega)]
  · exact fun i v h0 h1 => by rw [zX_put (n := 96) hW hu rfl (by decide) (by omega) (by omega), if_neg (by omega)]
  · exact fun v => zX_fill hW hu rfl (by decide)
  · exact fun i v h0 h1 hv => by rw [zX_mark (n := 96) hW hu rfl (by decide) (by omega) (by omega) hv, if_pos (by omega)]
  · exact fun i b h0 h1 => by rw [zX_mark (n := 96) hW hu rfl (by decide) (by omega) (by omega) (zb_01 b), if_pos (by omega)]
  · exact fun i h0 h1 => by rw [zX_mark (n := 96) hW hu rfl (by decide) (by omega) (by omega) (Or.inl rfl), if_pos (by omega)]
  · exact fun i h0 h1 => by rw [zX_mark (n := 96) hW hu rfl (by decide) (by omega) (by omega) (Or.inr rfl), if_pos (by omega)]
  · exact zX_fill_ hW hu rfl (by decide) (Or.inl rfl)
  · exact fun i v h0 h1 hv => by rw [zX_mark (n := 96) hW hu rfl (by decide) (by omega) (by omega) hv, if_pos (by omega)]
  · exact fun i b h0 h1 => by rw [zX_mark (n := 96) hW hu rfl (by decide) (by omega) (by omega) (zb_01 b), if_pos (by omega)]
  · exact fun i h0 h1 => by rw [zX_mark (n := 96) hW hu rfl (by decide) (by omega) (by omega) (Or.inl rfl), if_pos (by omega)]
  · exact fun i h0 h1 => by rw [zX_mark (n := 96) hW hu rfl (by decide) (by omega) (by omega) (Or.inr rfl), if_pos (by omega)]
  · exact zX_fill_ hW hu rfl (by decide) (Or.inl rfl)
  · exact fun i o h0 h1 => zX_at hW hu rfl (by decide) h0 h1
  · exact fun i v h0 h1 => by rw [zX_put (n := 96) hW hu rfl (by decide) (by omega) (by omega), if_pos (by omega)]
  · exact fun i v h0 h1 => by rw [zX_put (n := 96) hW hu rfl (by decide) (by omega) (by omega), if_neg (by omega)]
  · exact fun v => zX_fill hW hu rfl (by decide)
  · exact fun i o h0 h1 => zX_at hW hu rfl (by decide) h0 h1
  · exact fun i v h0 h1 => by rw [zX_put (n := 96) hW hu rfl (by decide) (by omega) (by omega), if_pos (by omega)]
  · exact fun i v h0 h1 => by rw [zX_put (n := 96) hW hu rfl (by decide) (by omega) (by omega), if_neg (by omega)]
  · exact fun v => zX_fill hW hu rfl (by decide)
  · exact fun i o h0 h1 => zX_at hW hu rfl (by decide) h0 h1
  · exact fun i v h0 h1 => by rw [zX_put (n := 96) hW hu rfl (by decide) (by omega) (by omega), if_pos (by omega)]
  · exact fun i v h0 h1 => by rw [zX_put (n := 96) hW hu rfl (by decide) (by omega) (by omega), if_neg (by omega)]
  · exact fun v => zX_fill hW hu rfl (by decide)
  · exact fun i o h0 h1 => zX_at hW hu rfl (by decide) h0 h1
  · exact fun i v h0 h1 => by rw [zX_put (n := 96) hW hu rfl (by decide) (by omega) (by omega), if_pos (by omega)]
  · exact fun i v h0 h1 => by rw [zX_put (n := 96) hW hu rfl (by decide) (by omega) (by omega), if_neg (by omega)]
  · exact fun v => zX_fill hW hu rfl (by decide)
  · exact fun i o h0 h1 => zX_at hW hu rfl (by decide) h0 h1
  · exact fun i v h0 h1 => by rw [zX_put (n := 96) hW hu rfl (by decide) (by omega) (by omega), if_pos (by omega)]
  · exact fun i v h0 h1 => by rw [zX_put (n := 96) hW hu rfl (by decide) (by omega) (by omega), if_neg (by omega)]
  · exact fun v => zX_fill hW hu rfl (by decide)
  · exact fun i o h0 h1 => zX_at hW hu rfl (by decide) h0 h1
  · exact fun i v h0 h1 => by rw [zX_put (n := 96) hW hu rfl (by decide) (by omega) (by omega), if_pos (by omega)]
  · exact fun i v h0 h1 => by rw [zX_put (n := 96) hW hu rfl (by decide) (by omega) (by omega), if_neg (by omega)]
  · exact fun v => zX_fill hW hu rfl (by decide)
  · exact fun i o h0 h1 => zX_at hW hu rfl (by decide) h0 h1
  · exact fun i v h0 h1 => by rw [zX_put (n := 96) hW hu rfl (by decide) (by omega) (by omega), if_pos (by omega)]
  · exact fun i v h0 h1 => by rw [zX_put (n := 96) hW hu rfl (by decide) (by omega) (by omega), if_neg (by omega)]
  · exact fun v => zX_fill hW hu rfl (by decide)
  · exact fun i o h0 h1 => zX_at hW hu rfl (by decide) h0 h1
  · exact fun i v h0 h1 => by rw [zX_put (n := 96) hW hu rfl (by decide) (by omega) (by omega), if_pos (by omega)]
  · exact fun i v h0 h1 => by rw [zX_put (n := 96) hW hu rfl (by decide) (by omega) (by omega), if_neg (by omega)]
  · exact fun v => zX_fill hW hu rfl (by decide)
  · exact fun i o h0 h1 => zX_at hW hu rfl (by decide) h0 h1
  · exact fun i v h0 h1 => by rw [zX_put (n := 96) hW hu rfl (by decide) (by omega) (by omega), if_pos (by omega)]
  · exact fun i v h0 h1 => by rw [zX_put (n := 96) hW hu rfl (by decide) (by omega) (by omega), if_neg (by omega)]
  · exact fun v => zX_fill hW hu rfl (by decide)
  · exact fun i o h0 h1 => zX_at hW hu rfl (by decide) h0 h1
  · exact fun i v h0 h1 => by rw [zX_put (n := 96) hW hu rfl (by decide) (by omega) (by omega), if_pos (by omega)]
  · exact fun i v h0 h1 => by rw [zX_put (n := 96) hW hu rfl (by decide) (by omega) (by omega), if_neg (by omega)]
  · exact fun v => zX_fill hW hu rfl (by decide)
  · exact fun i o h0 h1 => zX_at hW hu rfl (by decide) h0 h1
  · exact fun i v h0 h1 => by rw [zX_put (n := 12) hW hu rfl (by decide) (by omega) (by omega), if_pos (by omega)]
  · exact fun i v h0 h1 => by rw [zX_put (n := 12) hW hu rfl (by decide) (by omega) (by omega), if_neg (by omega)]
  · exact fun v => zX_fill hW hu rfl (by decide)
  · exact fun i o h0 h1 => zX_at hW hu rfl (by decide) h0 h1
  · exact fun i v h0 h1 => by rw [zX_put (n := 12) hW hu rfl (by decide) (by omega) (by omega), if_pos (by omega)]
  · exact fun i v h0 h1 => by rw [zX_put (n := 12) hW hu rfl (by decide) (by omega) (by omega), if_neg (by omega)]
  · exact fun v => zX_fill hW hu rfl (by decide)
  · exact fun i o h0 h1 => zX_at hW hu rfl (by decide) h0 h1
  · exact fun i v h0 h1 => by rw [zX_put (n := 12) hW hu rfl (by decide) (by omega) (by omega), if_pos (by omega)]
  · exact fun i v h0 h1 => by rw [zX_put (n := 12) hW hu rfl (by decide) (by omega) (by omega), if_neg (by omega)]
  · exact fun v => zX_fill hW hu rfl (by decide)
  · exact fun i o h0 h1 => zX_at hW hu rfl (by decide) h0 h1
  · exact fun i v h0 h1 => by rw [zX_put (n := 12) hW hu rfl (by decide) (by omega) (by omega), if_pos (by omega)]
  · exact fun i v h0 h1 => by rw [zX_put (n := 12) hW hu rfl (by decide) (by omega) (by omega), if_neg (by omega)]
  · exact fun v => zX_fill hW hu rfl (by decide)
  · exact fun i o h0 h1 => zX_at hW hu rfl (by decide) h0 h1
  · exact fun i v h0 h1 => by rw [zX_put (n := 120) hW hu rfl (by decide) (by omega) (by omega), if_pos (by omega)]
  · exact fun i v h0 h1 => by rw [zX_put (n := 120) hW hu rfl (by decide) (by omega) (by omega), if_neg (by omega)]
  · exact fun v => zX_fill hW hu rfl (by decide)
  · exact fun i o h0 h1 => zX_at hW hu rfl (by decide) h0 h1
  · exact fun i v h0 h1 => by rw [zX_put (n := 120) hW hu rfl (by decide) (by omega) (by omega), if_pos (by omega)]
  · exact fun i v h0 h1 => by rw [zX_put (n := 120) hW hu rfl (by decide) (by omega) (by omega), if_neg (by omega)]
  · exact fun v => zX_fill hW hu rfl (by decide)
  · exact fun i o h0 h1 => zX_at hW hu rfl (by decide) h0 h1
  · exact fun i v h0 h1 => by rw [zX_put (n := 12) hW hu rfl (by decide) (by omega) (by omega), if_pos (by omega)]
  · exact fun i v h0 h1 => by rw [zX_put (n := 12) hW hu rfl (by decide) (by omega) (by omega), if_neg (by omega)]
  · exact fun v => zX_fill hW hu rfl (by decide)
set_option maxRecDepth 20000 in
theorem zz_vr (hW : zWF E) (hu : zU E 1 d = true) : (∀ i v : Int, 0 ≤ i → i < 12 → v = 0 ∨ v = 1 → f_X9_mark (zH E σ) (zL E 1 d 1) (zI i) (zI v) = some (zH E (zs σ 1 d 1 i v))) ∧ (∀ (i : Int) (b : Bool), 0 ≤ i → i < 12 → f_X9_mark (zH E σ) (zL E 1 d 1) (zI i) (zI (zb b)) = some (zH E (zs σ 1 d 1 i (zb b)))) ∧ (∀ i : Int, 0 ≤ i → i < 12 → f_X9_mark (zH E σ) (zL E 1 d 1) (zI i) (zI 0) = some (zH E (zs σ 1 d 1 i 0))) ∧ (∀ i : Int, 0 ≤ i → i < 12 → f_X9_mark (zH E σ) (zL E 1 d 1) (zI i) (zI 1) = some (zH E (zs σ 1 d 1 i 1))) ∧ (f_X9_fill_ (zH E σ) (zL E 1 d 1) (zI 0) = some (zH E (zr σ 1 d 1 (fun j => if 0 ≤ j ∧ j < 12 then 0 else σ 1 d 1 j)))) ∧ (∀ i o : Int, -2147483648 ≤ i → i < 2147483648 → f_X9_at (zH E σ) (zL E 1 d 2) (zI i) (zI o) = some (zI (if 0 ≤ i ∧ i < 10 then σ 1 d 2 i else o))) ∧ (∀ i v : Int, 0 ≤ i → i < 10 → f_X9_put (zH E σ) (zL E 1 d 2) (zI i) (zI v) = some (zH E (zs σ 1 d 2 i v))) ∧ (∀ i v : Int, -2147483648 ≤ i → i < 0 → f_X9_put (zH E σ) (zL E 1 d 2) (zI i) (zI v) = some (zH E σ)) ∧ (∀ v : Int, f_X9_fill (zH E σ) (zL E 1 d 2) (zI v) = some (zH E (zr σ 1 d 2 (fun j => if 0 ≤ j ∧ j < 10 then v else σ 1 d 2 j)))) ∧ (∀ i o : Int, -2147483648 ≤ i → i < 2147483648 → f_X9_at (zH E σ) (zL E 1 d 3) (zI i) (zI o) = some (zI (if 0 ≤ i ∧ i < 10 then σ 1 d 3 i else o))) ∧ (∀ i v : Int, 0 ≤ i → i < 10 → f_X9_put (zH E σ) (zL E 1 d 3) (zI i) (zI v) = some (zH E (zs σ 1 d 3 i v))) ∧ (∀ i v : Int, -2147483648 ≤ i → i < 0 → f_X9_put (zH E σ) (zL E 1 d 3) (zI i) (zI v) = some (zH E σ)) ∧ (∀ v : Int, f_X9_fill (zH E σ) (zL E 1 d 3) (zI v) = some (zH E (zr σ 1 d 3 (fun j => if 0 ≤ j ∧ j < 10 then v else σ 1 d 3 j)))) ∧ (∀ i v : Int, 0 ≤ i → i < 10 → v = 0 ∨ v = 1 → f_X9_mark (zH E σ) (zL E 1 d 4) (zI i) (zI v) = some (zH E (zs σ 1 d 4 i v))) ∧ (∀ (i : Int) (b : Bool), 0 ≤ i → i < 10 → f_X9_mark (zH E σ) (zL E 1 d 4) (zI i) (zI (zb b)) = some (zH E (zs σ 1 d 4 i (zb b)))) ∧ (∀ i : Int, 0 ≤ i → i < 10 → f_X9_mark (zH E σ) (zL E 1 d 4) (zI i) (zI 0) = some (zH E (zs σ 1 d 4 i 0))) ∧ (∀ i : Int, 0 ≤ i → i < 10 → f_X9_mark (zH E σ) (zL E 1 d 4) (zI i) (zI 1) = some (zH E (zs σ 1 d 4 i 1))) ∧ (f_X9_fill_ (zH E σ) (zL E 1 d 4) (zI 0) = some (zH E (zr σ 1 d 4 (fun j => if 0 ≤ j ∧ j < 10 then 0 else σ 1 d 4 j)))) := by
  refine ⟨?_, ?_, ?_, ?_, ?_, ?_, ?_, ?_, ?_, ?_, ?_, ?_, ?_, ?_, ?_, ?_, ?_, ?_⟩
  · exact fun i v h0 h1 hv => by rw [zX_mark (n := 12) hW hu rfl (by decide) (by omega) (by omega) hv, if_pos (by omega)]
  · exact fun i b h0 h1 => by rw [zX_mark (n := 12) hW hu rfl (by decide) (by omega) (by omega) (zb_01 b), if_pos (by omega)]
  · exact fun i h0 h1 => by rw [zX_mark (n := 12) hW hu rfl (by decide) (by omega) (by omega) (Or.inl rfl), if_pos (by omega)]
  · exact fun i h0 h1 => by rw [zX_mark (n := 12) hW hu rfl (by decide) (by omega) (by omega) (Or.inr rfl), if_pos (by omega)]
  · exact zX_fill_ hW hu rfl (by decide) (Or.inl rfl)
  · exact fun i o h0 h1 => zX_at hW hu rfl (by decide) h0 h1
  · exact fun i v h0 h1 => by rw [zX_put (n := 10) hW hu rfl (by decide) (by omega) (by omega), if_pos (by omega)]
  · exact fun i v h0 h1 => by rw [zX_put (n := 10) hW hu rfl (by decide) (by omega) (by omega), if_neg (by omega)]
  · exact fun v => zX_fill hW hu rfl (by decide)
  · exact fun i o h0 h1 => zX_at hW hu rfl (by decide) h0 h1
  · exact fun i v h0 h1 => by rw [zX_put (n := 10) hW hu rfl (by decide) (by omega) (by omega), if_pos (by omega)]
  · exact fun i v h0 h1 => by rw [zX_put (n := 10) hW hu rfl (by decide) (by omega) (by omega), if_neg (by omega)]
  · exact fun v => zX_fill hW hu rfl (by decide)
  · exact fun i v h0 h1 hv => by rw [zX_mark (n := 10) hW hu rfl (by decide) (by omega) (by omega) hv, if_pos (by omega)]
  · exact fun i b h0 h1 => by rw [zX_mark (n := 10) hW hu rfl (by decide) (by omega) (by omega) (zb_01 b), if_pos (by omega)]
  · exact fun i h0 h1 => by rw [zX_mark (n := 10) hW hu rfl (by decide) (by omega) (by omega) (Or.inl rfl), if_pos (by omega)]
  · exact fun i h0 h1 => by rw [zX_mark (n := 10) hW hu rfl (by decide) (by omega) (by omega) (Or.inr rfl), if_pos (by omega)]
  · exact zX_fill_ hW hu rfl (by decide) (Or.inl rfl)
set_option maxRecDepth 20000 in
theorem zz_xr (hW : zWF E) (hu : zU E 2 d = true) : (∀ i o : Int, -2147483648 ≤ i → i < 2147483648 → f_X9_at (zH E σ) (zL E 2 d 2) (zI i) (zI o) = some (zI (if 0 ≤ i ∧ i < 600 then σ 2 d 2 i else o))) ∧ (∀ i v : Int, 0 ≤ i → i < 600 → f_X9_put (zH E σ) (zL E 2 d 2) (zI i) (zI v) = some (zH E (zs σ 2 d 2 i v))) ∧ (∀ i v : Int, -2147483648 ≤ i → i < 0 → f_X9_put (zH E σ) (zL E 2 d 2) (zI i) (zI v) = some (zH E σ)) ∧ (∀ v : Int, f_X9_fill (zH E σ) (zL E 2 d 2) (zI v) = some (zH E (zr σ 2 d 2 (fun j => if 0 ≤ j ∧ j < 600 then v else σ 2 d 2 j)))) ∧ (∀ i v : Int, 0 ≤ i → i < 2 → v = 0 ∨ v = 1 → f_X9_mark (zH E σ) (zL E 2 d 7) (zI i) (zI v) = some (zH E (zs σ 2 d 7 i v))) ∧ (∀ (i : Int) (b : Bool), 0 ≤ i → i < 2 → f_X9_mark (zH E σ) (zL E 2 d 7) (zI i) (zI (zb b)) = some (zH E (zs σ 2 d 7 i (zb b)))) ∧ (∀ i : Int, 0 ≤ i → i < 2 → f_X9_mark (zH E σ) (zL E 2 d 7) (zI i) (zI 0) = some (zH E (zs σ 2 d 7 i 0))) ∧ (∀ i : Int, 0 ≤ i → i < 2 → f_X9_mark (zH E σ) (zL E 2 d 7) (zI i) (zI 1) = some (zH E (zs σ 2 d 7 i 1))) ∧ (f_X9_fill_ (zH E σ) (zL E 2 d 7) (zI 0) = some (zH E (zr σ 2 d 7 (fun j => if 0 ≤ j ∧ j < 2 then 0 else σ 2 d 7 j)))) ∧ (∀ i o : Int, -2147483648 ≤ i → i < 2147483648 → f_X9_at_ (zH E σ) (zL E 2 d 9) (zI i) (zJ o) = some (zJ (if 0 ≤ i ∧ i < 10 then σ 2 d 9 i else o))) ∧ (∀ i v : Int, 0 ≤ i → i < 10 → f_X9_put_ (zH E σ) (zL E 2 d 9) (zI i) (zJ v) = some (zH E (zs σ 2 d 9 i v))) ∧ (∀ i o : Int, -2147483648 ≤ i → i < 2147483648 → f_X9_at (zH E σ) (zL E 2 d 10) (zI i) (zI o) = some (zI (if 0 ≤ i ∧ i < 120 then σ 2 d 10 i else o))) ∧ (∀ i v : Int, 0 ≤ i → i < 120 → f_X9_put (zH E σ) (zL E 2 d 10) (zI i) (zI v) = some (zH E (zs σ 2 d 10 i v))) ∧ (∀ i v : Int, -2147483648 ≤ i → i < 0 → f_X9_put (zH E σ) (zL E 2 d 10) (zI i) (zI v) = some (zH E σ)) ∧ (∀ v : Int, f_X9_fill (zH E σ) (zL E 2 d 10) (zI v) = some (zH E (zr σ 2 d 10 (fun j => if 0 ≤ j ∧ j < 120 then v else σ 2 d 10 j)))) ∧ (∀ i o : Int, -2147483648 ≤ i → i < 2147483648 → f_X9_at (zH E σ) (zL E 2 d 11) (zI i) (zI o) = some (zI (if 0 ≤ i ∧ i < 120 then σ 2 d 11 i else o))) ∧ (∀ i v : Int, 0 ≤ i → i < 120 → f_X9_put (zH E σ) (zL E 2 d 11) (zI i) (zI v) = some (zH E (zs σ 2 d 11 i v))) ∧ (∀ i v : Int, -2147483648 ≤ i → i < 0 → f_X9_put (zH E σ) (zL E 2 d 11) (zI i) (zI v) = some (zH E σ)) ∧ (∀ v : Int, f_X9_fill (zH E σ) (zL E 2 d 11) (zI v) = some (zH E (zr σ 2 d 11 (fun j => if 0 ≤ j ∧ j < 120 then v else σ 2 d 11 j)))) ∧ (∀ i o : Int, -2147483648 ≤ i → i < 2147483648 → f_X9_at (zH E σ) (zL E 2 d 12) (zI i) (zI o) = some (zI (if 0 ≤ i ∧ i < 120 then σ 2 d 12 i else o))) ∧ (∀ i v : Int, 0 ≤ i → i < 120 → f_X9_put (zH E σ) (zL E 2 d 12) (zI i) (zI v) = some (zH E (zs σ 2 d 12 i v))) ∧ (∀ i v : Int, -2147483648 ≤ i → i < 0 → f_X9_put (zH E σ) (zL E 2 d 12) (zI i) (zI v) = some (zH E σ)) ∧ (∀ v : Int, f_X9_fill (zH E σ) (zL E 2 d 12) (zI v) = some (zH E (zr σ 2 d 12 (fun j => if 0 ≤ j ∧ j < 120 then v else σ 2 d 12 j)))) ∧ (∀ i o : Int, -2147483648 ≤ i → i < 2147483648 → f_X9_at (zH E σ) (zL E 2 d 13) (zI i) (zI o) = some (zI (if 0 ≤ i ∧ i < 120 then σ 2 d 13 i else o))) ∧ (∀ i v : Int, 0 ≤ i → i < 120 → f_X9_put (zH E σ) (zL E 2 d 13) (zI i) (zI v) = some (zH E (zs σ 2 d 13 i v))) ∧ (∀ i v : Int, -2147483648 ≤ i → i < 0 → f_X9_put (zH E σ) (zL E 2 d 13) (zI i) (zI v) = some (zH E σ)) ∧ (∀ v : Int, f_X9_fill (zH E σ) (zL E 2 d 13) (zI v) = some (zH E (zr σ 2 d 13 (fun j => if 0 ≤ j ∧ j < 120 then v else σ 2 d 13 j)))) ∧ (∀ i o : Int, -2147483648 ≤ i → i < 2147483648 → f_X9_at (zH E σ) (zL E 2 d 14) (zI i) (zI o) = some (zI (if 0 ≤ i ∧ i < 120 then σ 2 d 14 i else o))) ∧ (∀ i v : Int, 0 ≤ i → i < 120 → f_X9_put (zH E σ) (zL E 2 d 14) (zI i) (zI v) = some (zH E (zs σ 2 d 14 i v))) ∧ (∀ i v : Int, -2147483648 ≤ i → i < 0 → f_X9_put (zH E σ) (zL E 2 d 14) (zI i) (zI v) = some (zH E σ)) ∧ (∀ v : Int, f_X9_fill (zH E σ) (zL E 2 d 14) (zI v) = some (zH E (zr σ 2 d 14 (fun j => if 0 ≤ j ∧ j < 120 then v else σ 2 d 14 j)))) ∧ (∀ i v : Int, 0 ≤ i → i < 96 → v = 0 ∨ v = 1 → f_X9_mark (zH E σ) (zL E 2 d 15) (zI i) (zI v) = some (zH E (zs σ 2 d 15 i v))) ∧ (∀ (i : Int) (b : Bool), 0 ≤ i → i < 96 → f_X9_mark (zH E σ) (zL E 2 d 15) (zI i) (zI (zb b)) = some (zH E (zs σ 2 d 15 i (zb b)))) ∧ (∀ i : Int, 0 ≤ i → i < 96 → f_X9_mark (zH E σ) (zL E 2 d 15) (zI i) (zI 0) = some (zH E (zs σ 2 d 15 i 0))) ∧ (∀ i : Int, 0 ≤ i → i < 96 → f_X9_mark (zH E σ) (zL E 2 d 15) (zI i) (zI 1) = some (zH E (zs σ 2 d 15 i 1))) ∧ (f_X9_fill_ (zH E σ) (zL E 2 d 15) (zI 0) = some (zH E (zr σ 2 d 15 (fun j => if 0 ≤ j ∧ j < 96 then 0 else σ 2 d 15 j)))) ∧ (∀ i o : Int, -2147483648 ≤ i → i < 2147483648 → f_X9_at (zH E σ) (zL E 2 d 17) (zI i) (zI o) = some (zI (if 0 ≤ i ∧ i < 600 then σ 2 d 17 i else o))) ∧ (∀ i v : Int, 0 ≤ i → i < 600 → f_X9_put (zH E σ) (zL E 2 d 17) (zI i) (zI v) = some (zH E (zs σ 2 d 17 i v))) ∧ (∀ i v : Int, -2147483648 ≤ i → i < 0 → f_X9_put (zH E σ) (zL E 2 d 17) (zI i) (zI v) = some (zH E σ)) ∧ (∀ v : Int, f_X9_fill (zH E σ) (zL E 2 d 17) (zI v) = some (zH E (zr σ 2 d 17 (fun j => if 0 ≤ j ∧ j < 600 then v else σ 2 d 17 j)))) ∧ (∀ i o : Int, -2147483648 ≤ i → i < 2147483648 → f_X9_at (zH E σ) (zL E 2 d 18) (zI i) (zI o) = some (zI (if 0 ≤ i ∧ i < 600 then σ 2 d 18 i else o))) ∧ (∀ i v : Int, 0 ≤ i → i < 600 → f_X9_put (zH E σ) (zL E 2 d 18) (zI i) (zI v) = some (zH E (zs σ 2 d 18 i v))) ∧ (∀ i v : Int, -2147483648 ≤ i → i < 0 → f_X9_put (zH E σ) (zL E 2 d 18) (zI i) (zI v) = some (zH E σ)) ∧ (∀ v : Int, f_X9_fill (zH E σ) (zL E 2 d 18) (zI v) = some (zH E (zr σ 2 d 18 (fun j => if 0 ≤ j ∧ j < 600 then v else σ 2 d 18 j)))) ∧ (∀ i o : Int, -2147483648 ≤ i → i < 2147483648 → f_X9_at_ (zH E σ) (zL E 2 d 19) (zI i) (zJ o) = some (zJ (if 0 ≤ i ∧ i < 600 then σ 2 d 19 i else o))) ∧ (∀ i v : Int, 0 ≤ i → i < 600 → f_X9_put_ (zH E σ) (zL E 2 d 19) (zI i) (zJ v) = some (zH E (zs σ 2 d 19 i v))) := by
  refine ⟨?_, ?_, ?_, ?_, ?_, ?_, ?_, ?_, ?_, ?_, ?_, ?_, ?_, ?_, ?_, ?_, ?_, ?_, ?_, ?_, ?_, ?_, ?_, ?_, ?_, ?_, ?_, ?_, ?_, ?_, ?_, ?_, ?_, ?_, ?_, ?_, ?_, ?_, ?_, ?_, ?_, ?_, ?_, ?_, ?_, ?_⟩
  · exact fun i o h0 h1 => zX_at hW hu rfl (by decide) h0 h1
  · exact fun i v h0 h1 => by rw [zX_put (n := 600) hW hu rfl (by decide) (by omega) (by omega), if_pos (by omega)]
  · exact fun i v h0 h1 => by rw [zX_put (n := 600) hW hu rfl (by decide) (by omega) (by omega), if_neg (by omega)]
  · exact fun v => zX_fill hW hu rfl (by decide)
  · exact fun i v h0 h1 hv => by rw [zX_mark (n := 2) hW hu rfl (by decide) (by omega) (by omega) hv, if_pos (by omega)]
  · exact fun i b h0 h1 => by rw [zX_mark (n := 2) hW hu rfl (by decide) (by omega) (by omega) (zb_01 b), if_pos (by omega)]
  · exact fun i h0 h1 => by rw [zX_mark (n := 2) hW hu rfl (by decide) (by omega) (by omega) (Or.inl rfl), if_pos (by omega)]
  · exact fun i h0 h1 => by rw [zX_mark (n := 2) hW hu rfl (by decide) (by omega) (by omega) (Or.inr rfl), if_pos (by omega)]
  · exact zX_fill_ hW hu rfl (by decide) (Or.inl rfl)
  · exact fun i o h0 h1 => zX_at_ hW hu rfl (by decide) h0 h1
  · exact fun i v h0 h1 => by rw [zX_put_ (n := 10) hW hu rfl (by decide) (by omega) (by omega), if_pos (by omega)]
  · exact fun i o h0 h1 => zX_at hW hu rfl (by decide) h0 h1
  · exact fun i v h0 h1 => by rw [zX_put (n := 120) hW hu rfl (by decide) (by omega) (by omega), if_pos (by omega)]
  · exact fun i v h0 h1 => by rw [zX_put (n := 120) hW hu rfl (by decide) (by omega) (by omega), if_neg (by omega)]
  · exact fun v => zX_fill hW hu rfl (by decide)
  · exact fun i o h0 h1 => zX_at hW hu rfl (by decide) h0 h1
  · exact fun i v h0 h1 => by rw [zX_put (n := 120) hW hu rfl (by decide) (by omega) (by omega), if_pos (by omega)]
  · exact fun i v h0 h1 => by rw [zX_put (n := 120) hW hu rfl (by decide) (by omega) (by omega), if_neg (by omega)]
  · exact fun v => zX_fill hW hu rfl (by decide)
  · exact fun i o h0 h1 => zX_at hW hu rfl (by decide) h0 h1
  · exact fun i v h0 h1 => by rw [zX_put (n := 120) hW hu rfl (by decide) (by omega) (by omega), if_pos (by omega)]
  · exact fun i v h0 h1 => by rw [zX_put (n := 120) hW hu rfl (by decide) (by omega) (by omega), if_neg (by omega)]
  · exact fun v => zX_fill hW hu rfl (by decide)
  · exact fun i o h0 h1 => zX_at hW hu rfl (by decide) h0 h1
  · exact fun i v h0 h1 => by rw [zX_put (n := 120) hW hu rfl (by decide) (by omega) (by omega), if_pos (by omega)]
  · exact fun i v h0 h1 => by rw [zX_put (n := 120) hW hu rfl (by decide) (by omega) (by omega), if_neg (by omega)]
  · exact fun v => zX_fill hW hu rfl (by decide)
  · exact fun i o h0 h1 => zX_at hW hu rfl (by decide) h0 h1
  · exact fun i v h0 h1 => by rw [zX_put (n := 120) hW hu rfl (by decide) (by omega) (by omega), if_pos (by omega)]
  · exact fun i v h0 h1 => by rw [zX_put (n := 120) hW hu rfl (by decide) (by omega) (by omega), if_neg (by omega)]
  · exact fun v => zX_fill hW hu rfl (by decide)
  · exact fun i v h0 h1 hv => by rw [zX_mark (n := 96) hW hu rfl (by decide) (by omega) (by omega) hv, if_pos (by omega)]
  · exact fun i b h0 h1 => by rw [zX_mark (n := 96) hW hu rfl (by decide) (by omega) (by omega) (zb_01 b), if_pos (by omega)]
  · exact fun i h0 h1 => by rw [zX_mark (n := 96) hW hu rfl (by decide) (by omega) (by omega) (Or.inl rfl), if_pos (by omega)]
  · exact fun i h0 h1 => by rw [zX_mark (n := 96) hW hu rfl (by decide) (by omega) (by omega) (Or.inr rfl), if_pos (by omega)]
  · exact zX_fill_ hW hu rfl (by decide) (Or.inl rfl)
  · exact fun i o h0 h1 => zX_at hW hu rfl (by decide) h0 h1
  · exact fun i v h0 h1 => by rw [zX_put (n := 600) hW hu rfl (by decide) (by omega) (by omega), if_pos (by omega)]
  · exact fun i v h0 h1 => by rw [zX_put (n := 600) hW hu rfl (by decide) (by omega) (by omega), if_neg (by omega)]
  · exact fun v => zX_fill hW hu rfl (by decide)
  · exact fun i o h0 h1 => zX_at hW hu rfl (by decide) h0 h1
  · exact fun i v h0 h1 => by rw [zX_put (n := 600) hW hu rfl (by decide) (by omega) (by omega), if_pos (by omega)]
  · exact fun i v h0 h1 => by rw [zX_put (n := 600) hW hu rfl (by decide) (by omega) (by omega), if_neg (by omega)]
  · exact fun v => zX_fill hW hu rfl (by decide)
  · exact fun i o h0 h1 => zX_at_ hW hu rfl (by decide) h0 h1
  · exact fun i v h0 h1 => by rw [zX_put_ (n := 600) hW hu rfl (by decide) (by omega) (by omega), if_pos (by omega)]
end zRow
end
section
/-! What the rows say: counting, searching; the reference's own row n as the state. -/
def zcn (P : Int → Bool) : Int → Nat → Int
  | _, 0 => 0
  | lo, k + 1 => zb (P lo) + zcn P (lo + 1) k
def zal (P : Int → Bool) : Int → Nat → Bool
  | _, 0 => true
  | lo, k + 1 => P lo && zal P (lo + 1) k
def zfs (P : Int → Bool) : Int → Nat → Int
  | _, 0 => -1
  | lo, k + 1 => if P lo then lo else zfs P (lo + 1) k
def zls (P : Int → Bool) : Nat → Int
  | 0 => -1
  | k + 1 => if P k then k else zls P k
theorem zb_rng (b : Bool) : 0 ≤ zb b ∧ zb b ≤ 1 := by cases b <;> decide
theorem zb_eq0 (b : Bool) : (zb b = 0) = (b = false) := by cases b <;> simp [zb]
theorem zb_eq1 (b : Bool) : (zb b = 1) = (b = true) := by cases b <;> simp [zb]
theorem zb_ite (b : Bool) : (if b = true then (1 : Int) else 0) = zb b := rfl
theorem zcn_rng (P : Int → Bool) : ∀ (k : Nat) (lo : Int), 0 ≤ zcn P lo k ∧ zcn P lo k ≤ k := by
  intro k
  induction k with
  | zero => intro lo; simp [zcn]
  | succ k ih =>
    intro lo
    have h1 := zb_rng (P lo)
    have h2 := ih (lo + 1)
    simp only [zcn]
    omega
theorem zcn_congr {P Q : Int → Bool} : ∀ (k : Nat) (lo : Int), (∀ i, lo ≤ i → i < lo + k → P i = Q i) → zcn P lo k = zcn Q lo k := by
  intro k
  induction k with
  | zero => intro lo _; rfl
  | succ k ih =>
    intro lo h
    simp only [zcn]
    rw [h lo (by omega) (by omega), ih (lo + 1) (fun i h0 h1 => h i (by omega) (by omega))]
theorem zcn_le {P Q : Int → Bool} : ∀ (k : Nat) (lo : Int), (∀ i, lo ≤ i → i < lo + k → P i = true → Q i = true) → zcn P lo k ≤ zcn Q lo k := by
  intro k
  induction k with
  | zero => intro lo _; simp [zcn]
  | succ k ih =>
    intro lo h
    simp only [zcn]
    have h1 := ih (lo + 1) (fun i h0 h1 => h i (by omega) (by omega))
    have h2 := h lo (by omega) (by omega)
    have h3 : zb (P lo) ≤ zb (Q lo) := by
      cases hp : P lo
      · exact (zb_rng _).1
      · rw [h2 hp]; exact Int.le_refl _
    omega
/-- one more of them -/
theorem zcn_one {P Q : Int → Bool} {j : Int} : ∀ (k : Nat) (lo : Int), lo ≤ j → j < lo + k → P j = false → Q j = true → (∀ i, i ≠ j → lo ≤ i → i < lo + k → Q i = P i) → zcn Q lo k = zcn P lo k + 1 := by
  intro k
  induction k with
  | zero => intro lo h0 h1; omega
  | succ k ih =>
    intro lo h0 h1 hp hq h
    simp only [zcn]
    by_cases hj : j = lo
    · subst hj
      rw [hp, hq, zcn_congr (P := Q) (Q := P) k (j + 1) (fun i h0 h1 => h i (by omega) (by omega) (by omega))]
      simp [zb]
      omega
    · rw [ih (lo + 1) (by omega) (by omega) hp hq (fun i h0 h1 h2 => h i h0 (by omega) (by omega)), h lo (by omega) (by omega) (by omega)]
      omega
theorem zcn_snoc (P : Int → Bool) : ∀ (k : Nat) (lo : Int), zcn P lo (k + 1) = zcn P lo k + zb (P (lo + k)) := by
  intro k
  induction k with
  | zero => intro lo; simp [zcn]
  | succ k ih =>
    intro lo
    rw [zcn, ih (lo + 1), zcn]
    rw [show lo + 1 + (k : Int) = lo + ((k + 1 : Nat) : Int) by omega]
    omega
theorem zcn_app (P : Int → Bool) (a b : Nat) : ∀ lo : Int, zcn P lo (a + b) = zcn P lo a + zcn P (lo + a) b := by
  induction b with
  | zero => intro lo; simp [zcn]
  | succ b ih =>
    intro lo
    rw [← Nat.add_assoc, zcn_snoc, ih lo, zcn_snoc]
    rw [show lo + ((a + b : Nat) : Int) = lo + (a : Int) + (b : Int) by omega]
    omega
theorem zcn_none {P : Int → Bool} (k : Nat) (lo : Int) (h : ∀ i, lo ≤ i → i < lo + k → P i = false) : zcn P lo k = 0 := by
  rw [zcn_congr (Q := fun _ => false) k lo h]
  clear h
  induction k generalizing lo with
  | zero => rfl
  | succ k ih => simp [zcn, ih, zb]
theorem zal_iff {P : Int → Bool} : ∀ (k : Nat) (lo : Int), zal P lo k = true ↔ ∀ i, lo ≤ i → i < lo + k → P i = true := by
  intro k
  induction k with
  | zero => intro lo; simp [zal]; intro i h0 h1; omega
  | succ k ih =>
    intro lo
    simp only [zal, Bool.and_eq_true, ih]
    constructor
    · rintro ⟨h1, h2⟩ i h3 h4
      by_cases h : i = lo
      · subst h; exact h1
      · exact h2 i (by omega) (by omega)
    · intro h
      exact ⟨h lo (by omega) (by omega), fun i h0 h1 => h i (by omega) (by omega)⟩
theorem zal_congr {P Q : Int → Bool} : ∀ (k : Nat) (lo : Int), (∀ i, lo ≤ i → i < lo + k → P i = Q i) → zal P lo k = zal Q lo k := by
  intro k
  induction k with
  | zero => intro lo _; rfl
  | succ k ih =>
    intro lo h
    simp only [zal]
    rw [h lo (by omega) (by omega), ih (lo + 1) (fun i h0 h1 => h i (by omega) (by omega))]
theorem zfs_spec {P : Int → Bool} : ∀ (k : Nat) (lo : Int), 0 ≤ lo → (zfs P lo k = -1 ∧ ∀ i, lo ≤ i → i < lo + k → P i = false) ∨ (lo ≤ zfs P lo k ∧ zfs P lo k < lo + k ∧ P (zfs P lo k) = true ∧ ∀ i, lo ≤ i → i < zfs P lo k → P i = false) := by
  intro k
  induction k with
  | zero => intro lo _; exact Or.inl ⟨rfl, fun i h0 h1 => by omega⟩
  | succ k ih =>
    intro lo hlo
    cases hp : P lo
    · have e : zfs P lo (k + 1) = zfs P (lo + 1) k := by simp [zfs, hp]
      rw [e]
      rcases ih (lo + 1) (by omega) with ⟨h1, h2⟩ | ⟨h1, h2, h3, h4⟩
      · refine Or.inl ⟨h1, fun i h5 h6 => ?_⟩
        by_cases h : i = lo
        · subst h; exact hp
        · exact h2 i (by omega) (by omega)
      · refine Or.inr ⟨by omega, by omega, h3, fun i h5 h6 => ?_⟩
        by_cases h : i = lo
        · subst h; exact hp
        · exact h4 i (by omega) (by omega)
    · have e : zfs P lo (k + 1) = lo := by simp [zfs, hp]
      rw [e]
      exact Or.inr ⟨by omega, by omega, hp, fun i h5 h6 => by omega⟩
theorem zfs_congr {P Q : Int → Bool} : ∀ (k : Nat) (lo : Int), (∀ i, lo ≤ i → i < lo + k → P i = Q i) → zfs P lo k = zfs Q lo k := by
  intro k
  induction k with
  | zero => intro lo _; rfl
  | succ k ih =>
    intro lo h
    simp only [zfs]
    rw [h lo (by omega) (by omega), ih (lo + 1) (fun i h0 h1 => h i (by omega) (by omega))]
theorem zls_spec {P : Int → Bool} : ∀ (k : Nat), (zls P k = -1 ∧ ∀ i, 0 ≤ i → i < (k : Int) → P i = false) ∨ (0 ≤ zls P k ∧ zls P k < k ∧ P (zls P k) = true ∧ ∀ i, zls P k < i → i < (k : Int) → P i = false) := by
  intro k
  induction k with
  | zero => exact Or.inl ⟨rfl, fun i h0 h1 => by omega⟩
  | succ k ih =>
    cases hp : P k
    · have e : zls P (k + 1) = zls P k := by simp [zls, hp]
      rw [e]
      rcases ih with ⟨h1, h2⟩ | ⟨h1, h2, h3, h4⟩
      · refine Or.inl ⟨h1, fun i h5 h6 => ?_⟩
        by_cases h : i = k
        · subst h; exact hp
        · exact h2 i (by omega) (by omega)
      · refine Or.inr ⟨by omega, by omega, h3, fun i h5 h6 => ?_⟩
        by_cases h : i = k
        · subst h; exact hp
        · exact h4 i (by omega) (by omega)
    · have e : zls P (k + 1) = k := by simp [zls, hp]
      rw [e]
      exact Or.inr ⟨by omega, by omega, hp, fun i h5 h6 => by omega⟩
theorem zls_congr {P Q : Int → Bool} : ∀ (k : Nat), (∀ i, 0 ≤ i → i < (k : Int) → P i = Q i) → zls P k = zls Q k := by
  intro k
  induction k with
  | zero => intro _; rfl
  | succ k ih =>
    intro h
    simp only [zls]
    rw [h k (by omega) (by omega), ih (fun i h0 h1 => h i (by omega) (by omega))]
theorem zls_rng (P : Int → Bool) (k : Nat) : -1 ≤ zls P k ∧ zls P k < k := by
  rcases zls_spec (P := P) k with ⟨h1, -⟩ | ⟨h1, h2, -⟩ <;> omega
theorem zfs_rng (P : Int → Bool) (k : Nat) : -1 ≤ zfs P 0 k ∧ zfs P 0 k < k := by
  rcases zfs_spec (P := P) k 0 (by omega) with ⟨h1, -⟩ | ⟨h1, h2, -⟩ <;> omega
-- the state n
abbrev zN : Type := Int → Int
def nMn (n : zN) : Int := n 0 - n 1
def nPl (n : zN) (b : Int) : Int := if 0 < n (679 + b) then n (679 + b) - 1 else b
def nRd (n : zN) (first many : Int) : Bool := zal (fun b => decide (n (199 + nPl n b) = 0)) first many.toNat
def nDl (e : Int) : Int := 1 + (e - 1).tdiv 4
def nS (n : zN) (s w : Int) : Int := n (1255 + 25 * s + w)
def nV (n : zN) (v w : Int) : Int := n (775 + 5 * v + w)
def nLa (n : zN) : Int := n 3 - 1
def nOp (n : zN) : Bool := decide (0 ≤ nLa n) && decide (nS n (nLa n) 0 = 0)
def nEn (n : zN) (s f : Int) : Int := zfs (fun k => decide (nS n s (5 + 2 * k) = f)) 0 (nS n s 2).toNat
def nRdD (n : zN) (s : Int) : Bool := decide (0 < nS n s 3) && nRd n (nS n s 3 - 1) (nDl (nS n s 2))
def nIs (n : zN) (s : Int) : Bool := decide (nS n s 0 = 0) || (decide (nS n s 0 = 1) && nRdD n s)
def nGo (n : zN) : Nat → Bool
  | 0 => true
  | t + 1 => nGo n t && (nIs n (nLa n - t) || decide (nS n (nLa n - t) 0 ≠ 1) || decide (n 5 = 1))
def nRe (n : zN) (s : Int) : Bool := nGo n (nLa n - s).toNat && nIs n s
def nSk (n : zN) (f below : Int) : Int := zls (fun s => nRe n s && decide (nEn n s f ≠ -1)) (min below (n 3)).toNat
def nSv (n : zN) (s f : Int) : Int := if s = -1 then -1 else nS n s (6 + 2 * nEn n s f)
def nFv (n : zN) (f below : Int) : Int := nSv n (nSk n f below) f
def nRv (n : zN) (v : Int) : Bool := nRd n (nV n v 1) (nV n v 2)
def nTh (n : zN) (below : Int) : Int := zcn (fun f => decide (nFv n f below ≠ -1)) 0 (n 2).toNat
def nGd (n : zN) (f : Int) : Bool := decide (nFv n f 12 ≠ -1) && nRv n (nFv n f 12)
def nGs (n : zN) : Int := zcn (nGd n) 0 (n 2).toNat
/-- the state is in order: its numbers, blocks, versions, sessions -/
def nWn (n : zN) : Prop :=
  (8 ≤ n 0 ∧ n 0 ≤ 96) ∧ (0 ≤ n 1 ∧ n 1 ≤ 16 ∧ 2 * n 1 ≤ n 0) ∧ (0 ≤ n 2 ∧ n 2 ≤ 10) ∧ (0 ≤ n 3 ∧ n 3 ≤ 12) ∧ (0 ≤ n 4 ∧ n 4 ≤ n 0 - n 1) ∧ (n 5 = 0 ∨ n 5 = 1) ∧ (0 ≤ n 6 ∧ n 6 ≤ 96)
def nWb (n : zN) : Prop :=
  ∀ b, 0 ≤ b → b < 96 → (0 ≤ n (7 + b) ∧ n (7 + b) ≤ 3) ∧ (n (103 + b) = 0 ∨ n (103 + b) = 1) ∧ (n (199 + b) = 0 ∨ n (199 + b) = 1) ∧ (0 ≤ n (295 + b) ∧ n (295 + b) ≤ n 3) ∧ (0 ≤ n (391 + b) ∧ n (391 + b) ≤ n 6) ∧ (0 ≤ n (487 + b) ∧ n (487 + b) ≤ 8) ∧ (0 ≤ n (583 + b) ∧ n (583 + b) ≤ 96) ∧ (n (679 + b) = 0 ∨ (n 0 - n 1 < n (679 + b) ∧ n (679 + b) ≤ n 0 ∧ b < n 4)) ∧ (n (7 + b) = 1 → 1 ≤ n (391 + b)) ∧ (n (7 + b) ≠ 0 → 1 ≤ n (295 + b)) ∧ (n (7 + b) = 0 → n (295 + b) = 0 ∧ n (391 + b) = 0 ∧ n (487 + b) = 0 ∧ n (583 + b) = 0) ∧ (b < n 0 - n 1 → (n (7 + b) = 0 ↔ n 4 ≤ b)) ∧ (b < n 0 - n 1 → (n (7 + b) = 3 ↔ n (679 + b) ≠ 0)) ∧ (n 0 ≤ b → n (7 + b) = 0)
def nWv (n : zN) : Prop :=
  n 6 ≤ n 4 ∧ ∀ v, 0 ≤ v → v < n 6 → (0 ≤ nV n v 0 ∧ nV n v 0 < n 2) ∧ 0 ≤ nV n v 1 ∧ (1 ≤ nV n v 2 ∧ nV n v 2 ≤ 8) ∧ nV n v 1 + nV n v 2 ≤ n 4 ∧ (0 ≤ nV n v 3 ∧ nV n v 3 ≤ 999) ∧ (0 ≤ nV n v 4 ∧ nV n v 4 < n 3) ∧ (∀ s k, 0 ≤ s → s < n 3 → 0 ≤ k → k < nS n s 2 → nS n s (6 + 2 * k) = v → nV n v 0 = nS n s (5 + 2 * k))
def nWs (n : zN) : Prop :=
  ∀ s, 0 ≤ s → s < n 3 → (0 ≤ nS n s 0 ∧ nS n s 0 ≤ 3) ∧ (nS n s 0 = 0 → s = n 3 - 1) ∧ (0 ≤ nS n s 1 ∧ nS n s 1 ≤ 96) ∧ (0 ≤ nS n s 2 ∧ nS n s 2 ≤ zcn (fun f => decide (nEn n s f ≠ -1)) 0 (n 2).toNat) ∧ (0 ≤ nS n s 3 ∧ (0 < nS n s 3 ↔ nS n s 0 = 1) ∧ (0 < nS n s 3 → nS n s 3 - 1 + nDl (nS n s 2) ≤ n 4)) ∧ (nS n s 4 = if 0 < nS n s 3 then zls (fun t => decide (nS n t 0 = 1)) s.toNat + 1 else 0) ∧ (∀ k, 0 ≤ k → k < nS n s 2 → (0 ≤ nS n s (5 + 2 * k) ∧ nS n s (5 + 2 * k) < n 2) ∧ (-1 ≤ nS n s (6 + 2 * k) ∧ nS n s (6 + 2 * k) < n 6))
def nW (n : zN) : Prop := nWn n ∧ nWb n ∧ nWv n ∧ nWs n
/-- how the class holds a session's versions (by the files), and how long its directory is -/
def nX (n : zN) (s f : Int) : Int := if nEn n s f = -1 then -2 else nS n s (6 + 2 * nEn n s f)
def nL (n : zN) (s : Int) : Int := if 0 < nS n s 3 then nDl (nS n s 2) else 0
theorem nX_cg {n n' : zN} {s f : Int} (he : nS n s 2 ≤ 10) (h2 : nS n' s 2 = nS n s 2) (h : ∀ w, 5 ≤ w → w < 25 → nS n' s w = nS n s w) : nX n' s f = nX n s f := by
  have hE : nEn n' s f = nEn n s f := by
    unfold nEn
    rw [h2]
    exact zfs_congr _ _ (fun k h0 h1 => by rw [h _ (by omega) (by omega)])
  have hr := zfs_rng (fun k => decide (nS n s (5 + 2 * k) = f)) (nS n s 2).toNat
  have hr2 : nEn n s f = zfs (fun k => decide (nS n s (5 + 2 * k) = f)) 0 (nS n s 2).toNat := rfl
  unfold nX
  rw [hE]
  by_cases h3 : nEn n s f = -1
  · rw [if_pos h3, if_pos h3]
  · rw [if_neg h3, if_neg h3, h _ (by omega) (by omega)]
theorem nX_0 {n : zN} {s f : Int} (he : nS n s 2 ≤ 0) : nX n s f = -2 := by
  have : nEn n s f = -1 := by
    unfold nEn
    rw [show (nS n s 2).toNat = 0 by omega]
    rfl
  unfold nX
  rw [if_pos this]
theorem nL_cg {n n' : zN} {s : Int} (h2 : nS n' s 2 = nS n s 2) (h3 : nS n' s 3 = nS n s 3) : nL n' s = nL n s := by
  unfold nL
  rw [h2, h3]
theorem zfs_cut {P : Int → Bool} : ∀ (m : Nat) (lo : Int), P (lo + m) = false → zfs P lo (m + 1) = zfs P lo m := by
  intro m
  induction m with
  | zero =>
    intro lo h
    have h : P lo = false := by simpa using h
    simp [zfs, h]
  | succ m ih =>
    intro lo h
    rw [zfs]
    conv => rhs; rw [zfs]
    rw [ih (lo + 1) (by rw [show lo + 1 + (m : Int) = lo + ((m + 1 : Nat) : Int) by omega]; exact h)]
/-- the rows of one of the class's discs show the state n: its blocks, versions, sessions, files -/
def zRk (ρ : Nat → Int → Int) (n : zN) : Prop :=
  ρ 1 0 = n 0 ∧ ρ 1 1 = n 0 - n 1 ∧ ρ 1 2 = n 4 ∧ (∀ b, 0 ≤ b → b < 96 → ρ 2 b = n (7 + b)) ∧ (∀ b, 0 ≤ b → b < 96 → ρ 3 b = n (103 + b)) ∧ (∀ b, 0 ≤ b → b < 96 → ρ 4 b = n (199 + b)) ∧ (∀ b, 0 ≤ b → b < 96 → ρ 5 b = n (295 + b) - 1) ∧ (∀ b, 0 ≤ b → b < 96 → ρ 6 b = n (391 + b) - 1) ∧ (∀ b, 0 ≤ b → b < 96 → ρ 7 b = n (487 + b) - 1) ∧ (∀ b, 0 ≤ b → b < 96 → ρ 8 b = n (583 + b) - 1)
def zRb (ρ : Nat → Int → Int) (n : zN) : Prop :=
  zRk ρ n ∧ (∀ b, 0 ≤ b → b < 96 → ρ 9 b = if b < n 4 then nPl n b else -1)
def zRv (ρ : Nat → Int → Int) (n : zN) : Prop :=
  ρ 10 0 = n 6 ∧ (∀ v, 0 ≤ v → v < n 6 → ρ 11 v = nV n v 0) ∧ (∀ v, 0 ≤ v → v < n 6 → ρ 12 v = nV n v 1) ∧ (∀ v, 0 ≤ v → v < n 6 → ρ 13 v = nV n v 2) ∧ (∀ v, 0 ≤ v → v < n 6 → ρ 14 v = nV n v 3) ∧ (∀ v, 0 ≤ v → v < n 6 → ρ 15 v = nV n v 4)
def zRs (ρ : Nat → Int → Int) (n : zN) : Prop :=
  ρ 16 0 = n 3 ∧ (∀ s, 0 ≤ s → s < n 3 → ρ 17 s = nS n s 0) ∧ (∀ s, 0 ≤ s → s < n 3 → ρ 18 s = nS n s 1) ∧ (∀ s, 0 ≤ s → s < n 3 → ρ 19 s = nS n s 3 - 1) ∧ (∀ s, 0 ≤ s → s < n 3 → ρ 20 s = nS n s 2) ∧ (∀ s k, 0 ≤ s → s < n 3 → 0 ≤ k → k < nS n s 2 → ρ 21 (s * 10 + k) = nS n s (5 + 2 * k)) ∧ (∀ s f, 0 ≤ s → s < n 3 → 0 ≤ f → f < 10 → ρ 22 (s * 10 + f) = nX n s f) ∧ (∀ s, 0 ≤ s → s < n 3 → ρ 24 s = nL n s)
def zRf (ρ : Nat → Int → Int) (n : zN) : Prop :=
  ρ 0 3 = n 2 ∧ ρ 0 5 = n 5
def zRd (ρ : Nat → Int → Int) (n : zN) : Prop := zRb ρ n ∧ zRv ρ n ∧ zRs ρ n ∧ zRf ρ n
end
section
/-! The readings of a state that is in order. -/
theorem zRk.r {ρ : Nat → Int → Int} {n : zN} (h : zRk ρ n) :
  ρ 1 0 = n 0 ∧ ρ 1 1 = n 0 - n 1 ∧ ρ 1 2 = n 4 ∧ (∀ b, 0 ≤ b → b < 96 → ρ 2 b = n (7 + b)) ∧ (∀ b, 0 ≤ b → b < 96 → ρ 3 b = n (103 + b)) ∧ (∀ b, 0 ≤ b → b < 96 → ρ 4 b = n (199 + b)) ∧ (∀ b, 0 ≤ b → b < 96 → ρ 5 b = n (295 + b) - 1) ∧ (∀ b, 0 ≤ b → b < 96 → ρ 6 b = n (391 + b) - 1) ∧ (∀ b, 0 ≤ b → b < 96 → ρ 7 b = n (487 + b) - 1) ∧ (∀ b, 0 ≤ b → b < 96 → ρ 8 b = n (583 + b) - 1) := h
theorem zRb.r {ρ : Nat → Int → Int} {n : zN} (h : zRb ρ n) :
  zRk ρ n ∧ (∀ b, 0 ≤ b → b < 96 → ρ 9 b = if b < n 4 then nPl n b else -1) := h
theorem zRv.r {ρ : Nat → Int → Int} {n : zN} (h : zRv ρ n) :
  ρ 10 0 = n 6 ∧ (∀ v, 0 ≤ v → v < n 6 → ρ 11 v = nV n v 0) ∧ (∀ v, 0 ≤ v → v < n 6 → ρ 12 v = nV n v 1) ∧ (∀ v, 0 ≤ v → v < n 6 → ρ 13 v = nV n v 2) ∧ (∀ v, 0 ≤ v → v < n 6 → ρ 14 v = nV n v 3) ∧ (∀ v, 0 ≤ v → v < n 6 → ρ 15 v = nV n v 4) := h
theorem zRs.r {ρ : Nat → Int → Int} {n : zN} (h : zRs ρ n) :
  ρ 16 0 = n 3 ∧ (∀ s, 0 ≤ s → s < n 3 → ρ 17 s = nS n s 0) ∧ (∀ s, 0 ≤ s → s < n 3 → ρ 18 s = nS n s 1) ∧ (∀ s, 0 ≤ s → s < n 3 → ρ 19 s = nS n s 3 - 1) ∧ (∀ s, 0 ≤ s → s < n 3 → ρ 20 s = nS n s 2) ∧ (∀ s k, 0 ≤ s → s < n 3 → 0 ≤ k → k < nS n s 2 → ρ 21 (s * 10 + k) = nS n s (5 + 2 * k)) ∧ (∀ s f, 0 ≤ s → s < n 3 → 0 ≤ f → f < 10 → ρ 22 (s * 10 + f) = nX n s f) ∧ (∀ s, 0 ≤ s → s < n 3 → ρ 24 s = nL n s) := h
theorem zRf.r {ρ : Nat → Int → Int} {n : zN} (h : zRf ρ n) :
  ρ 0 3 = n 2 ∧ ρ 0 5 = n 5 := h
theorem nWn.r {n : zN} (h : nWn n) :
  (8 ≤ n 0 ∧ n 0 ≤ 96) ∧ (0 ≤ n 1 ∧ n 1 ≤ 16 ∧ 2 * n 1 ≤ n 0) ∧ (0 ≤ n 2 ∧ n 2 ≤ 10) ∧ (0 ≤ n 3 ∧ n 3 ≤ 12) ∧ (0 ≤ n 4 ∧ n 4 ≤ n 0 - n 1) ∧ (n 5 = 0 ∨ n 5 = 1) ∧ (0 ≤ n 6 ∧ n 6 ≤ 96) := h
theorem nWb.r {n : zN} (h : nWb n) :
  ∀ b, 0 ≤ b → b < 96 → (0 ≤ n (7 + b) ∧ n (7 + b) ≤ 3) ∧ (n (103 + b) = 0 ∨ n (103 + b) = 1) ∧ (n (199 + b) = 0 ∨ n (199 + b) = 1) ∧ (0 ≤ n (295 + b) ∧ n (295 + b) ≤ n 3) ∧ (0 ≤ n (391 + b) ∧ n (391 + b) ≤ n 6) ∧ (0 ≤ n (487 + b) ∧ n (487 + b) ≤ 8) ∧ (0 ≤ n (583 + b) ∧ n (583 + b) ≤ 96) ∧ (n (679 + b) = 0 ∨ (n 0 - n 1 < n (679 + b) ∧ n (679 + b) ≤ n 0 ∧ b < n 4)) ∧ (n (7 + b) = 1 → 1 ≤ n (391 + b)) ∧ (n (7 + b) ≠ 0 → 1 ≤ n (295 + b)) ∧ (n (7 + b) = 0 → n (295 + b) = 0 ∧ n (391 + b) = 0 ∧ n (487 + b) = 0 ∧ n (583 + b) = 0) ∧ (b < n 0 - n 1 → (n (7 + b) = 0 ↔ n 4 ≤ b)) ∧ (b < n 0 - n 1 → (n (7 + b) = 3 ↔ n (679 + b) ≠ 0)) ∧ (n 0 ≤ b → n (7 + b) = 0) := h
theorem nWv.r {n : zN} (h : nWv n) :
  n 6 ≤ n 4 ∧ ∀ v, 0 ≤ v → v < n 6 → (0 ≤ nV n v 0 ∧ nV n v 0 < n 2) ∧ 0 ≤ nV n v 1 ∧ (1 ≤ nV n v 2 ∧ nV n v 2 ≤ 8) ∧ nV n v 1 + nV n v 2 ≤ n 4 ∧ (0 ≤ nV n v 3 ∧ nV n v 3 ≤ 999) ∧ (0 ≤ nV n v 4 ∧ nV n v 4 < n 3) ∧ (∀ s k, 0 ≤ s → s < n 3 → 0 ≤ k → k < nS n s 2 → nS n s (6 + 2 * k) = v → nV n v 0 = nS n s (5 + 2 * k)) := h
theorem nWs.r {n : zN} (h : nWs n) :
  ∀ s, 0 ≤ s → s < n 3 → (0 ≤ nS n s 0 ∧ nS n s 0 ≤ 3) ∧ (nS n s 0 = 0 → s = n 3 - 1) ∧ (0 ≤ nS n s 1 ∧ nS n s 1 ≤ 96) ∧ (0 ≤ nS n s 2 ∧ nS n s 2 ≤ zcn (fun f => decide (nEn n s f ≠ -1)) 0 (n 2).toNat) ∧ (0 ≤ nS n s 3 ∧ (0 < nS n s 3 ↔ nS n s 0 = 1) ∧ (0 < nS n s 3 → nS n s 3 - 1 + nDl (nS n s 2) ≤ n 4)) ∧ (nS n s 4 = if 0 < nS n s 3 then zls (fun t => decide (nS n t 0 = 1)) s.toNat + 1 else 0) ∧ (∀ k, 0 ≤ k → k < nS n s 2 → (0 ≤ nS n s (5 + 2 * k) ∧ nS n s (5 + 2 * k) < n 2) ∧ (-1 ≤ nS n s (6 + 2 * k) ∧ nS n s (6 + 2 * k) < n 6)) := h
theorem zb_I0 (b : Bool) : (zI (zb b) = zI 0) = (b = false) := by cases b <;> simp [zb, zI]
theorem zb_I1 (b : Bool) : (zI (zb b) = zI 1) = (b = true) := by cases b <;> simp [zb, zI]
theorem zb_01I {x : Int} (h : x = 0 ∨ x = 1) : zI x = zI (zb (decide (x = 1))) := by rcases h with rfl | rfl <;> rfl
theorem zb_zif (c : Prop) [Decidable c] (a b : Int) : (if c then some (zI a) else some (zI b)) = some (zI (if c then a else b)) := by split <;> rfl
theorem zz_b : (∀ b : Bool, (zI (zb b) = zI 0) = (b = false)) ∧ (∀ b : Bool, (zI (zb b) = zI 1) = (b = true)) ∧ (∀ b : Bool, g_z (zI (zb b)) = some (zI (zb b))) ∧ (g_z (zI 0) = some (zI 0)) ∧ (g_z (zI 1) = some (zI 1)) ∧ (∀ (G : gH) (b : Bool), f_X9_oneIf G (zI (zb b)) = some (zI (zb b))) ∧ (∀ G : gH, f_X9_oneIf G (zI 0) = some (zI 0)) ∧ (∀ G : gH, f_X9_oneIf G (zI 1) = some (zI 1)) := ⟨zb_I0, zb_I1, g_zb, rfl, rfl, fun G b => by cases b <;> rfl, fun G => rfl, fun G => rfl⟩
theorem zb_some (b : Bool) : (if b = true then some (zI 1) else some (zI 0)) = some (zI (zb b)) := by cases b <;> rfl
theorem zb_somf (b : Bool) : (if b = false then some (zI 0) else some (zI 1)) = some (zI (zb b)) := by cases b <;> rfl
theorem zb_somp (c : Prop) [Decidable c] : (if c then some (zI 1) else some (zI 0)) = some (zI (zb (decide c))) := by by_cases h : c <;> simp [h, zb]
theorem zb_somn (c : Prop) [Decidable c] : (if c then some (zI 0) else some (zI 1)) = some (zI (zb (decide (¬ c)))) := by by_cases h : c <;> simp [h, zb]
theorem zb_pos {b : Bool} (h : b = true) : zb b = 1 := by rw [h]; rfl
theorem zb_neg {b : Bool} (h : b = false) : zb b = 0 := by rw [h]; rfl
theorem zb_dpos {p : Prop} [Decidable p] (h : p) : zb (decide p) = 1 := by simp [h, zb]
theorem zb_dneg {p : Prop} [Decidable p] (h : ¬ p) : zb (decide p) = 0 := by simp [h, zb]
theorem zfuel {fuel m : Nat} (h : m < fuel) : ∃ f, fuel = f + 1 ∧ m ≤ f := ⟨fuel - 1, by omega, by omega⟩
section zCls
variable {E : zE} {σ : zW} {d : Nat} {n : zN}
theorem e0_count (hW : zWF E) (hu : zU E 0 d = true) (hR : zRk (σ 0 d) n) (hN : nWn n) (hB : nWb n) : g_i (zH E σ) (zL E 0 d 1) 0 0 = some (zI (n 0)) := by
  simp (disch := first | assumption | omega) only [zz_bl hW hu, hR.r, zz_some, zz_lit, zz_num, zI_lt, zI_le, zI_eq, zI_nat, zz_b, if_pos, if_neg, if_true, if_false]
theorem e0_main (hW : zWF E) (hu : zU E 0 d = true) (hR : zRk (σ 0 d) n) (hN : nWn n) (hB : nWb n) : g_i (zH E σ) (zL E 0 d 1) 0 1 = some (zI (n 0 - n 1)) := by
  simp (disch := first | assumption | omega) only [zz_bl hW hu, hR.r, zz_some, zz_lit, zz_num, zI_lt, zI_le, zI_eq, zI_nat, zz_b, if_pos, if_neg, if_true, if_false]
theorem e0_next (hW : zWF E) (hu : zU E 0 d = true) (hR : zRk (σ 0 d) n) (hN : nWn n) (hB : nWb n) : g_i (zH E σ) (zL E 0 d 1) 0 2 = some (zI (n 4)) := by
  simp (disch := first | assumption | omega) only [zz_bl hW hu, hR.r, zz_some, zz_lit, zz_num, zI_lt, zI_le, zI_eq, zI_nat, zz_b, if_pos, if_neg, if_true, if_false]
theorem e7_count (hW : zWF E) (hu : zU E 0 d = true) (hR : zRv (σ 0 d) n) (hN : nWn n) : g_i (zH E σ) (zL E 0 d 10) 7 0 = some (zI (n 6)) := by
  simp (disch := first | assumption | omega) only [zz_vs hW hu, hR.r, zz_some, zz_lit, zz_num, zI_lt, zI_le, zI_eq, zI_nat, zz_b, if_pos, if_neg, if_true, if_false]
theorem e5_count (hW : zWF E) (hu : zU E 0 d = true) (hR : zRs (σ 0 d) n) (hN : nWn n) : g_i (zH E σ) (zL E 0 d 16) 5 0 = some (zI (n 3)) := by
  simp (disch := first | assumption | omega) only [zz_se hW hu, hR.r, zz_some, zz_lit, zz_num, zI_lt, zI_le, zI_eq, zI_nat, zz_b, if_pos, if_neg, if_true, if_false]
theorem e0_kindOf (hW : zWF E) (hu : zU E 0 d = true) (hR : zRk (σ 0 d) n) (hN : nWn n) (hB : nWb n) {b : Int} (h0 : 0 ≤ b) (h1 : b < 96) : f_X0_kindOf (zH E σ) (zL E 0 d 1) (zI b) = some (zI (n (7 + b))) := by
  simp (disch := first | assumption | omega) only [f_X0_kindOf, zz_blo hW hu, zz_dr hW hu, hR.r, zz_some, zz_lit, zz_num, zI_lt, zI_le, zI_eq, zI_nat, zz_b, if_pos, if_neg, if_true, if_false]
theorem e0_writerOf (hW : zWF E) (hu : zU E 0 d = true) (hR : zRk (σ 0 d) n) (hN : nWn n) (hB : nWb n) {b : Int} (h0 : 0 ≤ b) (h1 : b < 96) : f_X0_writerOf (zH E σ) (zL E 0 d 1) (zI b) = some (zI (n (295 + b) - 1)) := by
  simp (disch := first | assumption | omega) only [f_X0_writerOf, zz_blo hW hu, zz_dr hW hu, hR.r, zz_some, zz_lit, zz_num, zI_lt, zI_le, zI_eq, zI_nat, zz_b, if_pos, if_neg, if_true, if_false]
theorem e0_dataVersionOf (hW : zWF E) (hu : zU E 0 d = true) (hR : zRk (σ 0 d) n) (hN : nWn n) (hB : nWb n) {b : Int} (h0 : 0 ≤ b) (h1 : b < 96) : f_X0_dataVersionOf (zH E σ) (zL E 0 d 1) (zI b) = some (zI (n (391 + b) - 1)) := by
  simp (disch := first | assumption | omega) only [f_X0_dataVersionOf, zz_blo hW hu, zz_dr hW hu, hR.r, zz_some, zz_lit, zz_num, zI_lt, zI_le, zI_eq, zI_nat, zz_b, if_pos, if_neg, if_true, if_false]
theorem e0_placeOf (hW : zWF E) (hu : zU E 0 d = true) (hR : zRb (σ 0 d) n) (hN : nWn n) (hB : nWb n) {b : Int} (h0 : -1 ≤ b) (h1 : b < 96) : f_X0_placeOf (zH E σ) (zL E 0 d 1) (zI b) = some (zI (if 0 ≤ b ∧ b < n 4 then nPl n b else -1)) := by
  simp (disch := first | assumption | omega) only [f_X0_placeOf, zz_blo hW hu, zz_dr hW hu, zz_some, zz_lit, zz_num, zI_lt, zI_le, zI_eq, zI_nat, zz_b, if_pos, if_neg, if_true, if_false]
  by_cases h : 0 ≤ b
  · simp (disch := first | assumption | omega) only [hR.2, zz_some, zz_lit, zz_num, zI_lt, zI_le, zI_eq, zI_nat, zz_b, if_pos, if_neg, if_true, if_false]
    by_cases h2 : b < n 4
    · rw [if_pos h2, if_pos ⟨h, h2⟩]
    · rw [if_neg h2, if_neg (fun z => h2 z.2)]
  · rw [if_neg (fun z => h z.1), if_neg (fun z => h z.1)]
theorem e0_isBad (hW : zWF E) (hu : zU E 0 d = true) (hR : zRk (σ 0 d) n) (hN : nWn n) (hB : nWb n) {b : Int} (h0 : -1 ≤ b) (h1 : b < 96) : f_X0_isBad (zH E σ) (zL E 0 d 1) (zI b) = some (zI (zb (decide (0 ≤ b) && decide (n (103 + b) = 1)))) := by
  have hr : ∀ b, 0 ≤ b → b < 96 → σ 0 d 3 b = n (103 + b) := hR.2.2.2.2.1
  simp (disch := first | assumption | omega) only [f_X0_isBad, zz_blo hW hu, zz_some, zz_lit, zz_num, zI_lt, zI_le, zI_eq, zI_nat, zz_b, if_pos, if_neg, if_true, if_false]
  rw [zX_isSet (n := 96) hW hu rfl (by decide) (by omega) (by omega) (fun h2 h3 => by rw [hr b h2 h1]; exact (hB b h2 h1).2.1)]
  by_cases h : 0 ≤ b
  · rw [if_pos ⟨h, h1⟩, hr b h h1]
    rcases (hB b h h1).2.1 with z | z <;> simp [z, h, zb, zz_some, g_z0, g_z1]
  · rw [if_neg (fun z => h z.1)]
    simp [h, zb, zz_some, g_z0]
theorem e0_isBad' (hW : zWF E) (hu : zU E 0 d = true) (hR : zRk (σ 0 d) n) (hN : nWn n) (hB : nWb n) {b : Int} (h0 : 0 ≤ b) (h1 : b < 96) : f_X0_isBad (zH E σ) (zL E 0 d 1) (zI b) = some (zI (n (103 + b))) := by
  rw [e0_isBad hW hu hR hN hB (by omega) h1]
  rcases (hB b h0 h1).2.1 with z | z <;> simp [z, h0, zb]
theorem e0_isUnreadable (hW : zWF E) (hu : zU E 0 d = true) (hR : zRk (σ 0 d) n) (hN : nWn n) (hB : nWb n) {b : Int} (h0 : -1 ≤ b) (h1 : b < 96) : f_X0_isUnreadable (zH E σ) (zL E 0 d 1) (zI b) = some (zI (zb (decide (0 ≤ b) && decide (n (199 + b) = 1)))) := by
  have hr : ∀ b, 0 ≤ b → b < 96 → σ 0 d 4 b = n (199 + b) := hR.2.2.2.2.2.1
  simp (disch := first | assumption | omega) only [f_X0_isUnreadable, zz_blo hW hu, zz_some, zz_lit, zz_num, zI_lt, zI_le, zI_eq, zI_nat, zz_b, if_pos, if_neg, if_true, if_false]
  rw [zX_isSet (n := 96) hW hu rfl (by decide) (by omega) (by omega) (fun h2 h3 => by rw [hr b h2 h1]; exact (hB b h2 h1).2.2.1)]
  by_cases h : 0 ≤ b
  · rw [if_pos ⟨h, h1⟩, hr b h h1]
    rcases (hB b h h1).2.2.1 with z | z <;> simp [z, h, zb, zz_some, g_z0, g_z1]
  · rw [if_neg (fun z => h z.1)]
    simp [h, zb, zz_some, g_z0]
theorem e0_isUnreadable' (hW : zWF E) (hu : zU E 0 d = true) (hR : zRk (σ 0 d) n) (hN : nWn n) (hB : nWb n) {b : Int} (h0 : 0 ≤ b) (h1 : b < 96) : f_X0_isUnreadable (zH E σ) (zL E 0 d 1) (zI b) = some (zI (n (199 + b))) := by
  rw [e0_isUnreadable hW hu hR hN hB (by omega) h1]
  rcases (hB b h0 h1).2.2.1 with z | z <;> simp [z, h0, zb]
theorem e0_property (hW : zWF E) (hu : zU E 0 d = true) (hR : zRk (σ 0 d) n) (hN : nWn n) (hB : nWb n) {b w : Int} (h0 : 0 ≤ b) (h1 : b < 96) (h2 : 0 ≤ w) (h3 : w ≤ 6) : f_X0_property (zH E σ) (zL E 0 d 1) (zI b) (zI w) = some (zI (if w = 0 then n (7 + b) else if w = 1 then n (103 + b) else if w = 2 then n (199 + b) else if w = 3 then n (295 + b) - 1 else if w = 4 then n (391 + b) - 1 else if w = 5 then n (487 + b) - 1 else n (583 + b) - 1)) := by
  have hb := hB b h0 h1
  have h4 : ∀ (G : gH) (x : Int), x = 0 ∨ x = 1 → f_X9_oneIf G (zI x) = some (zI x) := fun G x h => by rcases h with rfl | rfl <;> rfl
  rcases (by omega : w = 0 ∨ w = 1 ∨ w = 2 ∨ w = 3 ∨ w = 4 ∨ w = 5 ∨ w = 6) with rfl | rfl | rfl | rfl | rfl | rfl | rfl
  all_goals simp (disch := first | assumption | omega) only [f_X0_property, zz_blo hW hu, zz_dr hW hu, e0_kindOf hW hu hR hN hB, e0_isBad' hW hu hR hN hB, e0_isUnreadable' hW hu hR hN hB, e0_writerOf hW hu hR hN hB, e0_dataVersionOf hW hu hR hN hB, hR.r, zz_some, zz_lit, zz_num, zI_lt, zI_le, zI_eq, zI_nat, zz_b, if_pos, if_neg, if_true, if_false]
  · rw [h4 _ _ hb.2.1]; rfl
  · rw [h4 _ _ hb.2.2.1]; rfl
theorem e0_emptySpares_L (hW : zWF E) (hu : zU E 0 d = true) (hR : zRk (σ 0 d) n) (hN : nWn n) (hB : nWb n) : ∀ (m fuel : Nat) (acc b : Int), 0 ≤ b → b + m = n 0 → m < fuel → f_X0_emptySpares_L7 (zH E σ) fuel (zL E 0 d 1) (zI acc) (zI b) = some (zI (acc + zcn (fun b => decide (n (7 + b) = 0)) b m)) := by
  have hN' := hN.r
  intro m
  induction m with
  | zero =>
    intro fuel acc b h0 h1 h2
    obtain ⟨f, rfl, h3⟩ := zfuel h2
    simp (disch := first | assumption | omega) only [f_X0_emptySpares_L7, e0_count hW hu hR hN hB, zcn, zz_some, zz_lit, zz_num, zI_lt, zI_le, zI_eq, zI_nat, zz_b, if_pos, if_neg, if_true, if_false]
    simp
  | succ m ih =>
    intro fuel acc b h0 h1 h2
    obtain ⟨f, rfl, h3⟩ := zfuel h2
    have hb := hB b h0 (by omega)
    simp (disch := first | assumption | omega) only [f_X0_emptySpares_L7, e0_count hW hu hR hN hB, e0_kindOf hW hu hR hN hB, zz_blo hW hu, zcn, ih, zz_some, zz_lit, zz_num, zI_lt, zI_le, zI_eq, zI_nat, zz_b, if_pos, if_neg, if_true, if_false]
    by_cases h : n (7 + b) = 0
    · rw [if_pos h, zb_dpos h]; congr 2; omega
    · rw [if_neg h, zb_dneg h]; congr 2; omega
theorem e0_emptySpares (hW : zWF E) (hu : zU E 0 d = true) (hR : zRk (σ 0 d) n) (hN : nWn n) (hB : nWb n) : f_X0_emptySpares (zH E σ) (zL E 0 d 1) = some (zI (zcn (fun b => decide (n (7 + b) = 0)) (n 0 - n 1) (n 1).toNat)) := by
  have hN' := hN.r
  unfold f_X0_emptySpares
  simp (disch := first | assumption | omega) only [e0_main hW hu hR hN hB, zz_some, zz_lit, zz_num, zI_lt, zI_le, zI_eq, zI_nat, zz_b, if_pos, if_neg, if_true, if_false]
  rw [e0_emptySpares_L hW hu hR hN hB (n 1).toNat _ _ _ (by omega) (by omega) (by unfold g_N; omega)]
  congr 2; omega
theorem e0_badOnes_L (hW : zWF E) (hu : zU E 0 d = true) (hR : zRk (σ 0 d) n) (hN : nWn n) (hB : nWb n) : ∀ (m fuel : Nat) (acc b : Int), 0 ≤ b → b + m = n 0 → m < fuel → f_X0_badOnes_L4 (zH E σ) fuel (zL E 0 d 1) (zI acc) (zI b) = some (zI (acc + zcn (fun b => decide (n (103 + b) = 1)) b m)) := by
  have hN' := hN.r
  intro m
  induction m with
  | zero =>
    intro fuel acc b h0 h1 h2
    obtain ⟨f, rfl, h3⟩ := zfuel h2
    simp (disch := first | assumption | omega) only [f_X0_badOnes_L4, e0_count hW hu hR hN hB, zcn, zz_some, zz_lit, zz_num, zI_lt, zI_le, zI_eq, zI_nat, zz_b, if_pos, if_neg, if_true, if_false]
    simp
  | succ m ih =>
    intro fuel acc b h0 h1 h2
    obtain ⟨f, rfl, h3⟩ := zfuel h2
    simp (disch := first | assumption | omega) only [f_X0_badOnes_L4, e0_count hW hu hR hN hB, e0_isBad hW hu hR hN hB, zz_blo hW hu, zcn, ih, zz_some, zz_lit, zz_num, zI_lt, zI_le, zI_eq, zI_nat, zz_b, if_pos, if_neg, if_true, if_false]
    rw [decide_eq_true h0, Bool.true_and, Int.add_assoc]
theorem e0_badOnes (hW : zWF E) (hu : zU E 0 d = true) (hR : zRk (σ 0 d) n) (hN : nWn n) (hB : nWb n) : f_X0_badOnes (zH E σ) (zL E 0 d 1) = some (zI (zcn (fun b => decide (n (103 + b) = 1)) 0 (n 0).toNat)) := by
  have hN' := hN.r
  unfold f_X0_badOnes
  simp (disch := first | assumption | omega) only [zz_some, zz_lit, zz_num, zI_lt, zI_le, zI_eq, zI_nat, zz_b, if_pos, if_neg, if_true, if_false]
  rw [e0_badOnes_L hW hu hR hN hB (n 0).toNat _ _ _ (by omega) (by omega) (by unfold g_N; omega)]
  congr 2; omega
theorem e0_blocksOf_L (hW : zWF E) (hu : zU E 0 d = true) (hR : zRk (σ 0 d) n) (hN : nWn n) (hB : nWb n) {s hi : Int} (hs0 : 0 ≤ s) (hs1 : s < 100) (hhi : hi ≤ 96) : ∀ (m fuel : Nat) (acc b : Int), 0 ≤ b → b + m = hi → m < fuel → f_X0_blocksOf_L6 (zH E σ) fuel (zL E 0 d 1) (zI s) (zI hi) (zI acc) (zI b) = some (zI (acc + zcn (fun b => decide (n (295 + b) = s + 1)) b m)) := by
  have hN' := hN.r
  intro m
  induction m with
  | zero =>
    intro fuel acc b h0 h1 h2
    obtain ⟨f, rfl, h3⟩ := zfuel h2
    simp (disch := first | assumption | omega) only [f_X0_blocksOf_L6, zcn, zz_some, zz_lit, zz_num, zI_lt, zI_le, zI_eq, zI_nat, zz_b, if_pos, if_neg, if_true, if_false]
    simp
  | succ m ih =>
    intro fuel acc b h0 h1 h2
    obtain ⟨f, rfl, h3⟩ := zfuel h2
    have hb := hB b h0 (by omega)
    simp (disch := first | assumption | omega) only [f_X0_blocksOf_L6, e0_writerOf hW hu hR hN hB, zz_blo hW hu, zcn, ih, zz_some, zz_lit, zz_num, zI_lt, zI_le, zI_eq, zI_nat, zz_b, if_pos, if_neg, if_true, if_false]
    by_cases h : n (295 + b) = s + 1
    · rw [if_pos (by omega), zb_dpos h]; congr 2; omega
    · rw [if_neg (by omega), zb_dneg h]; congr 2; omega
theorem e0_mainBlocksOf (hW : zWF E) (hu : zU E 0 d = true) (hR : zRk (σ 0 d) n) (hN : nWn n) (hB : nWb n) {s : Int} (hs0 : 0 ≤ s) (hs1 : s < 100) : f_X0_mainBlocksOf (zH E σ) (zL E 0 d 1) (zI s) = some (zI (zcn (fun b => decide (n (295 + b) = s + 1)) 0 (n 0 - n 1).toNat)) := by
  have hN' := hN.r
  simp (disch := first | assumption | omega) only [f_X0_mainBlocksOf, f_X0_blocksOf, e0_main hW hu hR hN hB, zz_blo hW hu, zz_some, zz_lit, zz_num, zI_lt, zI_le, zI_eq, zI_nat, zz_b, if_pos, if_neg, if_true, if_false]
  rw [e0_blocksOf_L hW hu hR hN hB hs0 hs1 (by omega) (n 0 - n 1).toNat _ _ _ (by omega) (by omega) (by unfold g_N; omega)]
  rw [zz_some]; congr 2; omega
theorem e0_spareBlocksOf (hW : zWF E) (hu : zU E 0 d = true) (hR : zRk (σ 0 d) n) (hN : nWn n) (hB : nWb n) {s : Int} (hs0 : 0 ≤ s) (hs1 : s < 100) : f_X0_spareBlocksOf (zH E σ) (zL E 0 d 1) (zI s) = some (zI (zcn (fun b => decide (n (295 + b) = s + 1)) (n 0 - n 1) (n 1).toNat)) := by
  have hN' := hN.r
  simp (disch := first | assumption | omega) only [f_X0_spareBlocksOf, f_X0_blocksOf, e0_main hW hu hR hN hB, e0_count hW hu hR hN hB, zz_blo hW hu, zz_some, zz_lit, zz_num, zI_lt, zI_le, zI_eq, zI_nat, zz_b, if_pos, if_neg, if_true, if_false]
  rw [e0_blocksOf_L hW hu hR hN hB hs0 hs1 (by omega) (n 1).toNat _ _ _ (by omega) (by omega) (by unfold g_N; omega)]
  rw [zz_some]; congr 2; omega
theorem e0_hasRoomFor (hW : zWF E) (hu : zU E 0 d = true) (hR : zRk (σ 0 d) n) (hN : nWn n) (hB : nWb n) {x : Int} (h0 : 0 ≤ x) (h1 : x < 1000) : f_X0_hasRoomFor (zH E σ) (zL E 0 d 1) (zI x) = some (zI (zb (decide (n 4 + x ≤ n 0 - n 1)))) := by
  have hN' := hN.r
  simp (disch := first | assumption | omega) only [f_X0_hasRoomFor, e0_main hW hu hR hN hB, e0_next hW hu hR hN hB, zz_some, zz_lit, zz_num, zI_lt, zI_le, zI_eq, zI_nat, zz_b, if_pos, if_neg, if_true, if_false]
  rw [zb_somn]
  congr 4
  simp
theorem e0_canRead_L (hW : zWF E) (hu : zU E 0 d = true) (hR : zRb (σ 0 d) n) (hN : nWn n) (hB : nWb n) {x y : Int} (hy : x + y ≤ n 4) (hx : 0 ≤ x) (hy0 : 0 ≤ y) : ∀ (m fuel : Nat) (b : Int), 0 ≤ b → b + m = x + y → m < fuel → f_X0_canRead_L2 (zH E σ) fuel (zL E 0 d 1) (zI x) (zI y) (zI b) = some (zI (zb (zal (fun b => decide (n (199 + nPl n b) = 0)) b m))) := by
  have hN' := hN.r
  intro m
  induction m with
  | zero =>
    intro fuel b h0 h1 h2
    obtain ⟨f, rfl, h3⟩ := zfuel h2
    simp (disch := first | assumption | omega) only [f_X0_canRead_L2, f_X0_canRead_J48, zal, zz_some, zz_lit, zz_num, zI_lt, zI_le, zI_eq, zI_nat, zz_b, if_pos, if_neg, if_true, if_false]
    rfl
  | succ m ih =>
    intro fuel b h0 h1 h2
    obtain ⟨f, rfl, h3⟩ := zfuel h2
    have hb := hB b h0 (by omega)
    have hp : 0 ≤ nPl n b ∧ nPl n b < 96 := by
      unfold nPl
      split <;> omega
    obtain ⟨hp0, hp1⟩ := hp
    have hb2 := hB _ hp0 hp1
    have h9 : σ 0 d 9 b = nPl n b := by rw [hR.2 b h0 (by omega), if_pos (by omega)]
    have h4 : σ 0 d 4 (nPl n b) = n (199 + nPl n b) := hR.1.2.2.2.2.2.1 _ hp0 hp1
    have hat : f_X9_at (zH E σ) (zL E 0 d 9) (zI b) (zI (-1)) = some (zI (nPl n b)) := by
      rw [zX_at (n := 96) hW hu rfl (by decide) (by omega) (by omega), if_pos (by omega), h9]
    have his : f_X9_isSet (zH E σ) (zL E 0 d 4) (zI (nPl n b)) = some (zI (n (199 + nPl n b))) := by
      rw [zX_isSet (n := 96) hW hu rfl (by decide) (by omega) (by omega) (fun _ _ => by rw [h4]; exact hb2.2.2.1), if_pos (by omega), h4]
    simp (disch := first | assumption | omega) only [f_X0_canRead_L2, e0_main hW hu hR.1 hN hB, hat, his, zz_blo hW hu, zal, ih, zz_some, zz_lit, zz_num, zI_lt, zI_le, zI_eq, zI_nat, zz_b, if_pos, if_neg, if_true, if_false]
    by_cases h : n (199 + nPl n b) = 0
    · rw [if_pos h]; simp [h]
    · rw [if_neg h]; simp [h, zb]
theorem e0_canRead (hW : zWF E) (hu : zU E 0 d = true) (hR : zRb (σ 0 d) n) (hN : nWn n) (hB : nWb n) {x y : Int} (hy : x + y ≤ n 4) (hx : 0 ≤ x) (hy0 : 0 ≤ y) : f_X0_canRead (zH E σ) (zL E 0 d 1) (zI x) (zI y) = some (zI (zb (nRd n x y))) := by
  have hN' := hN.r
  unfold f_X0_canRead nRd
  rw [e0_canRead_L hW hu hR hN hB hy hx hy0 y.toNat _ _ hx (by omega) (by unfold g_N; omega)]
theorem e0_canRead' (hW : zWF E) (hu : zU E 0 d = true) (hR : zRb (σ 0 d) n) (hN : nWn n) (hB : nWb n) {y : Int} : f_X0_canRead (zH E σ) (zL E 0 d 1) (zI (-1)) (zI y) = some (zI 0) := by
  have h : ∀ f : Nat, f_X0_canRead_L2 (zH E σ) (f + 1) (zL E 0 d 1) (zI (-1)) (zI y) (zI (-1)) = some (zI 0) := by
    intro f
    simp (disch := first | assumption | omega) only [f_X0_canRead_L2, f_X0_canRead_J48, zz_some, zz_lit, zz_num, zI_lt, zI_le, zI_eq, zI_nat, zz_b, if_pos, if_neg, if_true, if_false]
  exact h 4095
end zCls
end
section
/-! Versions, sessions, and what would be: the class. -/
def nHs (n : zN) (many : Int) : Bool := decide (zcn (fun b => decide (n (103 + b) = 1)) (n 4) many.toNat ≤ zcn (fun b => decide (n (7 + b) = 0) && decide (n (103 + b) = 0)) (n 0 - n 1) (n 1).toNat)
def nTm (n : zN) : Bool := !nOp n && decide (12 ≤ n 3)
def nEw (n : zN) (f : Int) : Int := if nOp n = true then nS n (nLa n) 2 + zb (decide (nEn n (nLa n) f = -1)) else 1
def nWd (n : zN) (e : Int) : Int := if n 4 + nDl e ≤ n 0 - n 1 then (if nHs n (nDl e) = true then 0 else 5) else 4
def nWw (n : zN) (f m : Int) : Int := if nTm n = true then 3 else if n 4 + (m + nDl (nEw n f)) ≤ n 0 - n 1 then (if nHs n m = true then 0 else 5) else 4
def nWc (n : zN) : Int := if nOp n = true then nWd n (nS n (nLa n) 2) else 1
def nLo (n : zN) : Bool := decide (0 ≤ nLa n) && decide (nS n (nLa n) 0 = 2)
def nRo (n : zN) (v l : Int) : Bool := decide (nV n v 4 = l) && nRv n v
def nRc (n : zN) (l v : Int) : Bool := nRo n v l && zal (fun u => !(decide (nV n u 0 = nV n v 0) && nRo n u l)) (v + 1) (n 6 - v - 1).toNat
def nCr (n : zN) : Int := if nLo n = true then zcn (nRc n (nLa n)) 0 (n 6).toNat else 0
def nWr (n : zN) : Int := if nCr n = 0 then 2 else if nTm n = true then 3 else nWd n (nCr n)
def znt (P : Int → Bool) : Int → Nat → Int → Int
  | _, 0, _ => -1
  | lo, m + 1, k => if P lo = true then (if k = 0 then lo else znt P (lo + 1) m (k - 1)) else znt P (lo + 1) m k
def nDf (n : zN) (b : Int) : Bool := decide (n (679 + b) ≠ 0) && decide (nS n (n (295 + b) - 1) 0 ≠ 2)
def nLk (n : zN) (s : Int) : Int := if nS n s 3 = 0 then -1 else zls (fun t => decide (nS n t 0 = 1)) s.toNat
theorem nEn_rng (n : zN) (s f : Int) : -1 ≤ nEn n s f ∧ (0 ≤ nEn n s f → nEn n s f < nS n s 2) := by
  have h := zfs_rng (fun k => decide (nS n s (5 + 2 * k) = f)) (nS n s 2).toNat
  have h2 : nEn n s f = zfs (fun k => decide (nS n s (5 + 2 * k) = f)) 0 (nS n s 2).toNat := rfl
  omega
theorem zcn_full {P : Int → Bool} : ∀ (m : Nat), (m : Int) ≤ zcn P 0 m → ∀ k, 0 ≤ k → k < (m : Int) → P k = true := by
  intro m
  induction m with
  | zero => intro _ k h0 h1; omega
  | succ m ih =>
    intro h k h0 h1
    rw [zcn_snoc, Int.zero_add] at h
    have h2 := (zcn_rng P m 0).2
    have h3 := zb_rng (P m)
    by_cases hk : k = m
    · subst hk
      rw [← zb_eq1]
      omega
    · exact ih (by omega) k h0 (by omega)
/-- counting under a map that is one to one -/
theorem zcn_map {e : Nat} {g : Int → Int} : ∀ (m : Nat) (Q P : Int → Bool), (∀ f : Int, 0 ≤ f → f < m → Q f = true → 0 ≤ g f ∧ g f < e ∧ P (g f) = true) → (∀ f f' : Int, 0 ≤ f → f < m → 0 ≤ f' → f' < m → Q f = true → Q f' = true → g f = g f' → f = f') → zcn Q 0 m ≤ zcn P 0 e := by
  intro m
  induction m with
  | zero =>
    intro Q P _ _
    exact (zcn_rng P e 0).1
  | succ m ih =>
    intro Q P h1 h2
    rw [zcn_snoc, Int.zero_add]
    cases hq : Q m
    · have := ih Q P (fun f a b c => h1 f a (by omega) c) (fun f f' a b a' b' c c' => h2 f f' a (by omega) a' (by omega) c c')
      simp [zb]
      exact this
    · obtain ⟨g0, g1, g2⟩ := h1 m (by omega) (by omega) hq
      have h3 := ih Q (fun k => P k && decide (k ≠ g m)) (fun f a b c => by
        obtain ⟨y0, y1, y2⟩ := h1 f a (by omega) c
        refine ⟨y0, y1, ?_⟩
        rw [y2, Bool.true_and, decide_eq_true_iff]
        intro z
        have := h2 f m a (by omega) (by omega) (by omega) c hq z
        omega) (fun f f' a b a' b' c c' => h2 f f' a (by omega) a' (by omega) c c')
      have h4 := zcn_one (P := fun k => P k && decide (k ≠ g m)) (Q := P) (j := g m) e 0 g0 (by omega) (by simp) g2 (fun i z _ _ => by simp [z])
      have : zb true = 1 := rfl
      omega
/-- the entries of a session tell files that differ -/
theorem nEn_at {n : zN} (h : nWs n) (hN : nWn n) {s k : Int} (h0 : 0 ≤ s) (h1 : s < n 3) (k0 : 0 ≤ k) (k1 : k < nS n s 2) : nEn n s (nS n s (5 + 2 * k)) = k := by
  have hN' := hN.r
  have hs := h s h0 h1
  have ha := zcn_map (e := (nS n s 2).toNat) (g := fun f => nEn n s f) (n 2).toNat (fun f => decide (nEn n s f ≠ -1)) (fun k => decide (nEn n s (nS n s (5 + 2 * k)) = k)) (fun f f0 f1 hf => by
      have hf := of_decide_eq_true hf
      have hr := nEn_rng n s f
      refine ⟨by omega, by omega, ?_⟩
      rw [decide_eq_true_iff]
      rcases zfs_spec (P := fun k => decide (nS n s (5 + 2 * k) = f)) (nS n s 2).toNat 0 (by omega) with ⟨z, -⟩ | ⟨-, -, z, -⟩
      · exact absurd z hf
      · have z : nS n s (5 + 2 * nEn n s f) = f := of_decide_eq_true z
        rw [z]) (fun f f' f0 f1 f0' f1' hf hf' he => by
      have hf := of_decide_eq_true hf
      have hf' := of_decide_eq_true hf'
      have z : nS n s (5 + 2 * nEn n s f) = f := by
        rcases zfs_spec (P := fun k => decide (nS n s (5 + 2 * k) = f)) (nS n s 2).toNat 0 (by omega) with ⟨z, -⟩ | ⟨-, -, z, -⟩
        · exact absurd z hf
        · exact of_decide_eq_true z
      have z' : nS n s (5 + 2 * nEn n s f') = f' := by
        rcases zfs_spec (P := fun k => decide (nS n s (5 + 2 * k) = f')) (nS n s 2).toNat 0 (by omega) with ⟨z, -⟩ | ⟨-, -, z, -⟩
        · exact absurd z hf'
        · exact of_decide_eq_true z
      have he : nEn n s f = nEn n s f' := he
      rw [← z, ← z', he])
  have hb := hs.2.2.2.1
  have hall : ∀ k, 0 ≤ k → k < ((nS n s 2).toNat : Int) → decide (nEn n s (nS n s (5 + 2 * k)) = k) = true := zcn_full _ (by omega)
  exact of_decide_eq_true (hall k k0 (by omega))
theorem nWs.ent {n : zN} (h : nWs n) (hN : nWn n) {s : Int} (h0 : 0 ≤ s) (h1 : s < n 3) : 0 ≤ nS n s 2 ∧ nS n s 2 ≤ n 2 := by
  have h2 := (h s h0 h1).2.2.2.1
  have h3 := (zcn_rng (fun f => decide (nEn n s f ≠ -1)) (n 2).toNat 0).2
  have h4 := hN.r
  omega
theorem nDl_eq {e : Int} (h : 1 ≤ e) : nDl e = 1 + (e - 1) / 4 := by
  unfold nDl
  rw [Int.tdiv_eq_ediv_of_nonneg (by omega)]
theorem nDl_rng {e : Int} (h0 : 0 ≤ e) (h1 : e ≤ 96) : 1 ≤ nDl e ∧ nDl e ≤ 24 := by
  by_cases h : e = 0
  · subst h; decide
  · rw [nDl_eq (by omega)]; omega
theorem nDl_10 {e : Int} (h0 : 0 ≤ e) (h1 : e ≤ 10) : 1 ≤ nDl e ∧ nDl e ≤ 3 := by
  by_cases h : e = 0
  · subst h; decide
  · rw [nDl_eq (by omega)]; omega
section zCls
variable {E : zE} {σ : zW} {d : Nat} {n : zN}
theorem e7_fileOf (hW : zWF E) (hu : zU E 0 d = true) (hR : zRv (σ 0 d) n) (hN : nWn n) {v : Int} (h0 : -1 ≤ v) (h1 : v < n 6) : f_X7_fileOf (zH E σ) (zL E 0 d 10) (zI v) = some (zI (if 0 ≤ v then nV n v 0 else -1)) := by
  have hN' := hN.r
  simp (disch := first | assumption | omega) only [f_X7_fileOf, zz_vso hW hu, zz_dr hW hu, zz_some, zz_lit, zz_num, zI_lt, zI_le, zI_eq, zI_nat, zz_b, if_pos, if_neg, if_true, if_false]
  by_cases h : 0 ≤ v
  · simp (disch := first | assumption | omega) only [hR.r, zz_some, zz_lit, zz_num, zI_lt, zI_le, zI_eq, zI_nat, zz_b, if_pos, if_neg, if_true, if_false]
  · rw [if_neg h, if_neg (fun z => h z.1)]
theorem e7_firstOf (hW : zWF E) (hu : zU E 0 d = true) (hR : zRv (σ 0 d) n) (hN : nWn n) {v : Int} (h0 : -1 ≤ v) (h1 : v < n 6) : f_X7_firstOf (zH E σ) (zL E 0 d 10) (zI v) = some (zI (if 0 ≤ v then nV n v 1 else -1)) := by
  have hN' := hN.r
  simp (disch := first | assumption | omega) only [f_X7_firstOf, zz_vso hW hu, zz_dr hW hu, zz_some, zz_lit, zz_num, zI_lt, zI_le, zI_eq, zI_nat, zz_b, if_pos, if_neg, if_true, if_false]
  by_cases h : 0 ≤ v
  · simp (disch := first | assumption | omega) only [hR.r, zz_some, zz_lit, zz_num, zI_lt, zI_le, zI_eq, zI_nat, zz_b, if_pos, if_neg, if_true, if_false]
  · rw [if_neg h, if_neg (fun z => h z.1)]
theorem e7_lengthOf (hW : zWF E) (hu : zU E 0 d = true) (hR : zRv (σ 0 d) n) (hN : nWn n) {v : Int} (h0 : -1 ≤ v) (h1 : v < n 6) : f_X7_lengthOf (zH E σ) (zL E 0 d 10) (zI v) = some (zI (if 0 ≤ v then nV n v 2 else 0)) := by
  have hN' := hN.r
  simp (disch := first | assumption | omega) only [f_X7_lengthOf, zz_vso hW hu, zz_dr hW hu, zz_some, zz_lit, zz_num, zI_lt, zI_le, zI_eq, zI_nat, zz_b, if_pos, if_neg, if_true, if_false]
  by_cases h : 0 ≤ v
  · simp (disch := first | assumption | omega) only [hR.r, zz_some, zz_lit, zz_num, zI_lt, zI_le, zI_eq, zI_nat, zz_b, if_pos, if_neg, if_true, if_false]
  · rw [if_neg h, if_neg (fun z => h z.1)]
theorem e7_tagOf (hW : zWF E) (hu : zU E 0 d = true) (hR : zRv (σ 0 d) n) (hN : nWn n) {v : Int} (h0 : -1 ≤ v) (h1 : v < n 6) : f_X7_tagOf (zH E σ) (zL E 0 d 10) (zI v) = some (zI (if 0 ≤ v then nV n v 3 else -1)) := by
  have hN' := hN.r
  simp (disch := first | assumption | omega) only [f_X7_tagOf, zz_vso hW hu, zz_dr hW hu, zz_some, zz_lit, zz_num, zI_lt, zI_le, zI_eq, zI_nat, zz_b, if_pos, if_neg, if_true, if_false]
  by_cases h : 0 ≤ v
  · simp (disch := first | assumption | omega) only [hR.r, zz_some, zz_lit, zz_num, zI_lt, zI_le, zI_eq, zI_nat, zz_b, if_pos, if_neg, if_true, if_false]
  · rw [if_neg h, if_neg (fun z => h z.1)]
theorem e7_writerOf (hW : zWF E) (hu : zU E 0 d = true) (hR : zRv (σ 0 d) n) (hN : nWn n) {v : Int} (h0 : -1 ≤ v) (h1 : v < n 6) : f_X7_writerOf (zH E σ) (zL E 0 d 10) (zI v) = some (zI (if 0 ≤ v then nV n v 4 else -1)) := by
  have hN' := hN.r
  simp (disch := first | assumption | omega) only [f_X7_writerOf, zz_vso hW hu, zz_dr hW hu, zz_some, zz_lit, zz_num, zI_lt, zI_le, zI_eq, zI_nat, zz_b, if_pos, if_neg, if_true, if_false]
  by_cases h : 0 ≤ v
  · simp (disch := first | assumption | omega) only [hR.r, zz_some, zz_lit, zz_num, zI_lt, zI_le, zI_eq, zI_nat, zz_b, if_pos, if_neg, if_true, if_false]
  · rw [if_neg h, if_neg (fun z => h z.1)]
theorem e7_countOf_L (hW : zWF E) (hu : zU E 0 d = true) (hR : zRv (σ 0 d) n) (hN : nWn n) (hV : nWv n) {x : Int} (hx0 : 0 ≤ x) (hx1 : x < 100) : ∀ (m fuel : Nat) (acc v : Int), 0 ≤ v → v + m = n 6 → m < fuel → f_X7_countOf_L4 (zH E σ) fuel (zL E 0 d 10) (zI x) (zI acc) (zI v) = some (zI (acc + zcn (fun v => decide (nV n v 0 = x)) v m)) := by
  have hN' := hN.r
  intro m
  induction m with
  | zero =>
    intro fuel acc v h0 h1 h2
    obtain ⟨f, rfl, h3⟩ := zfuel h2
    simp (disch := first | assumption | omega) only [f_X7_countOf_L4, e7_count hW hu hR hN, zcn, zz_some, zz_lit, zz_num, zI_lt, zI_le, zI_eq, zI_nat, zz_b, if_pos, if_neg, if_true, if_false]
    simp
  | succ m ih =>
    intro fuel acc v h0 h1 h2
    obtain ⟨f, rfl, h3⟩ := zfuel h2
    have hv := hV.2 v h0 (by omega)
    simp (disch := first | assumption | omega) only [f_X7_countOf_L4, e7_count hW hu hR hN, e7_fileOf hW hu hR hN, zz_vso hW hu, zcn, ih, zz_some, zz_lit, zz_num, zI_lt, zI_le, zI_eq, zI_nat, zz_b, if_pos, if_neg, if_true, if_false]
    by_cases h : nV n v 0 = x
    · rw [if_pos h, zb_dpos h]; congr 2; omega
    · rw [if_neg h, zb_dneg h]; congr 2; omega
theorem e7_countOf (hW : zWF E) (hu : zU E 0 d = true) (hR : zRv (σ 0 d) n) (hN : nWn n) (hV : nWv n) {x : Int} (hx0 : 0 ≤ x) (hx1 : x < 100) : f_X7_countOf (zH E σ) (zL E 0 d 10) (zI x) = some (zI (zcn (fun v => decide (nV n v 0 = x)) 0 (n 6).toNat)) := by
  have hN' := hN.r
  unfold f_X7_countOf
  simp (disch := first | assumption | omega) only [zz_some, zz_lit, zz_num, zI_lt, zI_le, zI_eq, zI_nat, zz_b, if_pos, if_neg, if_true, if_false]
  rw [e7_countOf_L hW hu hR hN hV hx0 hx1 (n 6).toNat _ _ _ (by omega) (by omega) (by unfold g_N; omega)]
  congr 2; omega
theorem e5_stateOf (hW : zWF E) (hu : zU E 0 d = true) (hR : zRs (σ 0 d) n) (hN : nWn n) {s : Int} (h0 : -1 ≤ s) (h1 : s < 100) : f_X5_stateOf (zH E σ) (zL E 0 d 16) (zI s) = some (zI (if 0 ≤ s ∧ s < n 3 then nS n s 0 else -1)) := by
  have hN' := hN.r
  simp (disch := first | assumption | omega) only [f_X5_stateOf, e5_count hW hu hR hN, zz_seo hW hu, zz_dr hW hu, zz_some, zz_lit, zz_num, zI_lt, zI_le, zI_eq, zI_nat, zz_b, if_pos, if_neg, if_true, if_false]
  by_cases h : 0 ≤ s
  · by_cases h2 : s < n 3
    · simp (disch := first | assumption | omega) only [hR.r, zz_some, zz_lit, zz_num, zI_lt, zI_le, zI_eq, zI_nat, zz_b, if_pos, if_neg, if_true, if_false]
    · simp (disch := first | assumption | omega) only [zz_some, zz_lit, zz_num, zI_lt, zI_le, zI_eq, zI_nat, zz_b, if_pos, if_neg, if_true, if_false]
  · simp (disch := first | assumption | omega) only [zz_some, zz_lit, zz_num, zI_lt, zI_le, zI_eq, zI_nat, zz_b, if_pos, if_neg, if_true, if_false]
theorem e5_firstOf (hW : zWF E) (hu : zU E 0 d = true) (hR : zRs (σ 0 d) n) (hN : nWn n) {s : Int} (h0 : -1 ≤ s) (h1 : s < n 3) : f_X5_firstOf (zH E σ) (zL E 0 d 16) (zI s) = some (zI (if 0 ≤ s then nS n s 1 else -1)) := by
  have hN' := hN.r
  simp (disch := first | assumption | omega) only [f_X5_firstOf, zz_seo hW hu, zz_dr hW hu, zz_some, zz_lit, zz_num, zI_lt, zI_le, zI_eq, zI_nat, zz_b, if_pos, if_neg, if_true, if_false]
  by_cases h : 0 ≤ s
  · simp (disch := first | assumption | omega) only [hR.r, zz_some, zz_lit, zz_num, zI_lt, zI_le, zI_eq, zI_nat, zz_b, if_pos, if_neg, if_true, if_false]
  · rw [if_neg h, if_neg (fun z => h z.1)]
theorem e5_directoryOf (hW : zWF E) (hu : zU E 0 d = true) (hR : zRs (σ 0 d) n) (hN : nWn n) {s : Int} (h0 : -1 ≤ s) (h1 : s < n 3) : f_X5_directoryOf (zH E σ) (zL E 0 d 16) (zI s) = some (zI (if 0 ≤ s then nS n s 3 - 1 else -1)) := by
  have hN' := hN.r
  simp (disch := first | assumption | omega) only [f_X5_directoryOf, zz_seo hW hu, zz_dr hW hu, zz_some, zz_lit, zz_num, zI_lt, zI_le, zI_eq, zI_nat, zz_b, if_pos, if_neg, if_true, if_false]
  by_cases h : 0 ≤ s
  · simp (disch := first | assumption | omega) only [hR.r, zz_some, zz_lit, zz_num, zI_lt, zI_le, zI_eq, zI_nat, zz_b, if_pos, if_neg, if_true, if_false]
  · rw [if_neg h, if_neg (fun z => h z.1)]
theorem e5_entriesOf (hW : zWF E) (hu : zU E 0 d = true) (hR : zRs (σ 0 d) n) (hN : nWn n) {s : Int} (h0 : -1 ≤ s) (h1 : s < n 3) : f_X5_entriesOf (zH E σ) (zL E 0 d 16) (zI s) = some (zI (if 0 ≤ s then nS n s 2 else 0)) := by
  have hN' := hN.r
  simp (disch := first | assumption | omega) only [f_X5_entriesOf, zz_seo hW hu, zz_dr hW hu, zz_some, zz_lit, zz_num, zI_lt, zI_le, zI_eq, zI_nat, zz_b, if_pos, if_neg, if_true, if_false]
  by_cases h : 0 ≤ s
  · simp (disch := first | assumption | omega) only [hR.r, zz_some, zz_lit, zz_num, zI_lt, zI_le, zI_eq, zI_nat, zz_b, if_pos, if_neg, if_true, if_false]
  · rw [if_neg h, if_neg (fun z => h z.1)]
theorem e5_directoryLengthOf (hW : zWF E) (hu : zU E 0 d = true) (hR : zRs (σ 0 d) n) (hN : nWn n) {s : Int} (h0 : 0 ≤ s) (h1 : s < n 3) : f_X5_directoryLengthOf (zH E σ) (zL E 0 d 16) (zI s) = some (zI (nL n s)) := by
  have hN' := hN.r
  simp (disch := first | assumption | omega) only [f_X5_directoryLengthOf, zz_seo hW hu, zz_dr hW hu, hR.r, zz_some, zz_lit, zz_num, zI_lt, zI_le, zI_eq, zI_nat, zz_b, if_pos, if_neg, if_true, if_false]
theorem e5_fileAt (hW : zWF E) (hu : zU E 0 d = true) (hR : zRs (σ 0 d) n) (hN : nWn n) (hZ : nWs n) {s k : Int} (h0 : 0 ≤ s) (h1 : s < n 3) (h2 : -2147483648 ≤ k) (h3 : k < 2147483648) : f_X5_fileAt (zH E σ) (zL E 0 d 16) (zI s) (zI k) = some (zI (if 0 ≤ k ∧ k < nS n s 2 then nS n s (5 + 2 * k) else -1)) := by
  have hN' := hN.r
  have he := hZ.ent hN h0 h1
  simp (disch := first | assumption | omega) only [f_X5_fileAt, e5_entriesOf hW hu hR hN, zz_seo hW hu, zz_some, zz_lit, zz_num, zI_lt, zI_le, zI_eq, zI_nat, zz_b, if_pos, if_neg, if_true, if_false]
  by_cases h : k < 0
  · simp (disch := first | assumption | omega) only [zz_some, zz_lit, zz_num, zI_lt, zI_le, zI_eq, zI_nat, zz_b, if_pos, if_neg, if_true, if_false]
  · by_cases h4 : nS n s 2 ≤ k
    · simp (disch := first | assumption | omega) only [zz_some, zz_lit, zz_num, zI_lt, zI_le, zI_eq, zI_nat, zz_b, if_pos, if_neg, if_true, if_false]
    · simp (disch := first | assumption | omega) only [zz_seo hW hu, zz_dr hW hu, hR.r, zz_some, zz_lit, zz_num, zI_lt, zI_le, zI_eq, zI_nat, zz_b, if_pos, if_neg, if_true, if_false]
theorem e5_row (hW : zWF E) (hu : zU E 0 d = true) (hR : zRs (σ 0 d) n) (hN : nWn n) (hZ : nWs n) {s x : Int} (h0 : 0 ≤ s) (h1 : s < n 3) (hx0 : 0 ≤ x) (hx1 : x < 10) : f_X9_at (zH E σ) (zL E 0 d 22) (zI (s * 10 + x)) (zI (-2)) = some (zI (if nEn n s x = -1 then -2 else nS n s (6 + 2 * nEn n s x))) ∧ (nEn n s x ≠ -1 → -1 ≤ nS n s (6 + 2 * nEn n s x) ∧ nS n s (6 + 2 * nEn n s x) < n 6) := by
  have hN' := hN.r
  have hE := nEn_rng n s x
  have hr : σ 0 d 22 (s * 10 + x) = nX n s x := hR.2.2.2.2.2.2.1 s x h0 h1 hx0 hx1
  refine ⟨?_, fun h => ((hZ s h0 h1).2.2.2.2.2.2 (nEn n s x) (by omega) (by omega)).2⟩
  rw [zX_at (n := 120) hW hu rfl (by decide) (by omega) (by omega), if_pos (by omega), hr]
  rfl
theorem e5_hasEntry (hW : zWF E) (hu : zU E 0 d = true) (hR : zRs (σ 0 d) n) (hN : nWn n) (hZ : nWs n) {s x : Int} (h0 : 0 ≤ s) (h1 : s < n 3) (hx0 : 0 ≤ x) (hx1 : x < 10) : f_X5_hasEntry (zH E σ) (zL E 0 d 16) (zI s) (zI x) = some (zI (zb (decide (nEn n s x ≠ -1)))) := by
  have hN' := hN.r
  obtain ⟨hr, hv⟩ := e5_row hW hu hR hN hZ h0 h1 hx0 hx1
  simp (disch := first | assumption | omega) only [f_X5_hasEntry, zz_seo hW hu, hr, zz_some, zz_lit, zz_num, zI_lt, zI_le, zI_eq, zI_nat, zz_b, if_pos, if_neg, if_true, if_false]
  by_cases h : nEn n s x = -1
  · rw [if_pos h, if_pos rfl, zb_dneg (by simp [h])]
  · have hv := hv h
    rw [if_neg h, if_neg (by omega), zb_dpos h]
theorem e5_versionFor (hW : zWF E) (hu : zU E 0 d = true) (hR : zRs (σ 0 d) n) (hN : nWn n) (hZ : nWs n) {s x : Int} (h0 : 0 ≤ s) (h1 : s < n 3) (hx0 : 0 ≤ x) (hx1 : x < 10) : f_X5_versionFor (zH E σ) (zL E 0 d 16) (zI s) (zI x) = some (zI (if nEn n s x = -1 then -1 else nS n s (6 + 2 * nEn n s x))) := by
  have hN' := hN.r
  obtain ⟨hr, hv⟩ := e5_row hW hu hR hN hZ h0 h1 hx0 hx1
  simp (disch := first | assumption | omega) only [f_X5_versionFor, zz_seo hW hu, hr, zz_some, zz_lit, zz_num, zI_lt, zI_le, zI_eq, zI_nat, zz_b, if_pos, if_neg, if_true, if_false]
  by_cases h : nEn n s x = -1
  · rw [if_pos h, if_pos rfl, if_pos h]
  · have hv := hv h
    rw [if_neg h, if_neg (by omega), if_neg h]
theorem e5_versionFor' (hW : zWF E) (hu : zU E 0 d = true) {x : Int} (hx0 : 0 ≤ x) (hx1 : x < 10) : f_X5_versionFor (zH E σ) (zL E 0 d 16) (zI (-1)) (zI x) = some (zI (-1)) := by
  have hr : f_X9_at (zH E σ) (zL E 0 d 22) (zI (-1 * 10 + x)) (zI (-2)) = some (zI (-2)) := by
    rw [zX_at (n := 120) hW hu rfl (by decide) (by omega) (by omega), if_neg (by omega)]
  simp (disch := first | assumption | omega) only [f_X5_versionFor, zz_seo hW hu, hr, zz_some, zz_lit, zz_num, zI_lt, zI_le, zI_eq, zI_nat, zz_b, if_pos, if_neg, if_true, if_false]
theorem e5_latest (hW : zWF E) (hu : zU E 0 d = true) (hR : zRs (σ 0 d) n) (hN : nWn n) : f_X5_latest (zH E σ) (zL E 0 d 16) = some (zI (nLa n)) := by
  simp (disch := first | assumption | omega) only [f_X5_latest, e5_count hW hu hR hN, zz_some, zz_lit, zz_num, zI_lt, zI_le, zI_eq, zI_nat, zz_b, if_pos, if_neg, if_true, if_false]
  rfl
theorem e5_isOpen (hW : zWF E) (hu : zU E 0 d = true) (hR : zRs (σ 0 d) n) (hN : nWn n) (hZ : nWs n) : f_X5_isOpen (zH E σ) (zL E 0 d 16) = some (zI (zb (nOp n))) := by
  have hN' := hN.r
  have hla : nLa n = n 3 - 1 := rfl
  simp (disch := first | assumption | omega) only [f_X5_isOpen, e5_latest hW hu hR hN, e5_stateOf hW hu hR hN, zz_seo hW hu, zz_some, zz_lit, zz_num, zI_lt, zI_le, zI_eq, zI_nat, zz_b, if_pos, if_neg, if_true, if_false]
  unfold nOp
  by_cases h : 0 ≤ nLa n
  · have h2 := hZ _ h (by omega)
    simp (disch := first | assumption | omega) only [decide_eq_true h, Bool.true_and, zz_some, zz_lit, zz_num, zI_lt, zI_le, zI_eq, zI_nat, zz_b, if_pos, if_neg, if_true, if_false]
    exact zb_somp _
  · simp (disch := first | assumption | omega) only [decide_eq_false h, Bool.false_and, zz_some, zz_lit, zz_num, zI_lt, zI_le, zI_eq, zI_nat, zz_b, if_pos, if_neg, if_true, if_false]
    rfl
theorem e5_latestIsLost (hW : zWF E) (hu : zU E 0 d = true) (hR : zRs (σ 0 d) n) (hN : nWn n) (hZ : nWs n) : f_X5_latestIsLost (zH E σ) (zL E 0 d 16) = some (zI (zb (nLo n))) := by
  have hN' := hN.r
  have hla : nLa n = n 3 - 1 := rfl
  simp (disch := first | assumption | omega) only [f_X5_latestIsLost, e5_latest hW hu hR hN, e5_stateOf hW hu hR hN, zz_seo hW hu, zz_some, zz_lit, zz_num, zI_lt, zI_le, zI_eq, zI_nat, zz_b, if_pos, if_neg, if_true, if_false]
  unfold nLo
  by_cases h : 0 ≤ nLa n
  · have h2 := hZ _ h (by omega)
    simp (disch := first | assumption | omega) only [decide_eq_true h, Bool.true_and, zz_some, zz_lit, zz_num, zI_lt, zI_le, zI_eq, zI_nat, zz_b, if_pos, if_neg, if_true, if_false]
    exact zb_somp _
  · simp (disch := first | assumption | omega) only [decide_eq_false h, Bool.false_and, zz_some, zz_lit, zz_num, zI_lt, zI_le, zI_eq, zI_nat, zz_b, if_pos, if_neg, if_true, if_false]
    rfl
theorem e5_oneMoreIsTooMany (hW : zWF E) (hu : zU E 0 d = true) (hR : zRs (σ 0 d) n) (hN : nWn n) (hZ : nWs n) : f_X5_oneMoreIsTooMany (zH E σ) (zL E 0 d 16) = some (zI (zb (nTm n))) := by
  have hN' := hN.r
  simp (disch := first | assumption | omega) only [f_X5_oneMoreIsTooMany, e5_isOpen hW hu hR hN hZ, e5_count hW hu hR hN, zz_seo hW hu, zz_some, zz_lit, zz_num, zI_lt, zI_le, zI_eq, zI_nat, zz_b, if_pos, if_neg, if_true, if_false]
  unfold nTm
  cases h : nOp n
  · simp only [if_true, Bool.not_false, Bool.true_and]
    by_cases h2 : n 3 < 12
    · rw [if_pos h2, zb_dneg (by omega)]
    · rw [if_neg h2, zb_dpos (by omega)]
  · simp [zb]
theorem e5_entriesWith (hW : zWF E) (hu : zU E 0 d = true) (hR : zRs (σ 0 d) n) (hN : nWn n) (hZ : nWs n) {x : Int} (hx0 : 0 ≤ x) (hx1 : x < 10) : f_X5_entriesWith (zH E σ) (zL E 0 d 16) (zI x) = some (zI (nEw n x)) := by
  have hN' := hN.r
  have hla : nLa n = n 3 - 1 := rfl
  simp (disch := first | assumption | omega) only [f_X5_entriesWith, e5_isOpen hW hu hR hN hZ, e5_latest hW hu hR hN, zz_seo hW hu, zz_some, zz_lit, zz_num, zI_lt, zI_le, zI_eq, zI_nat, zz_b, if_pos, if_neg, if_true, if_false]
  unfold nEw
  cases h : nOp n
  · simp
  · have h2 : 0 ≤ nLa n := by
      unfold nOp at h
      by_cases h3 : 0 ≤ nLa n
      · exact h3
      · simp [h3] at h
    have he := hZ.ent hN h2 (by omega)
    have hr := zfs_rng (fun k => decide (nS n (nLa n) (5 + 2 * k) = x)) (nS n (nLa n) 2).toNat
    have hE : nEn n (nLa n) x = zfs (fun k => decide (nS n (nLa n) (5 + 2 * k) = x)) 0 (nS n (nLa n) 2).toNat := rfl
    simp (disch := first | assumption | omega) only [e5_entriesOf hW hu hR hN, e5_hasEntry hW hu hR hN hZ, zz_seo hW hu, Bool.true_eq_false, zz_some, zz_lit, zz_num, zI_lt, zI_le, zI_eq, zI_nat, zz_b, if_pos, if_neg, if_true, if_false]
    by_cases h4 : nEn n (nLa n) x = -1
    · rw [if_pos (by simp [h4]), zb_dpos h4]
    · rw [if_neg (by simp [h4]), zb_dneg h4]
theorem e5_linkOf_L (hW : zWF E) (hu : zU E 0 d = true) (hR : zRs (σ 0 d) n) (hN : nWn n) (hZ : nWs n) : ∀ (m fuel : Nat) , (m : Int) ≤ n 3 → m < fuel → f_X5_linkOf_L15 (zH E σ) fuel (zL E 0 d 16) (zI ((m : Int) - 1)) = some (zI (zls (fun t => decide (nS n t 0 = 1)) m)) := by
  have hN' := hN.r
  intro m
  induction m with
  | zero =>
    intro fuel h2 h4
    obtain ⟨f, rfl, h5⟩ := zfuel h4
    simp (disch := first | assumption | omega) only [f_X5_linkOf_L15, zls, zz_some, zz_lit, zz_num, zI_lt, zI_le, zI_eq, zI_nat, zz_b, if_pos, if_neg, if_true, if_false]
  | succ m ih =>
    intro fuel h2 h4
    obtain ⟨f, rfl, h5⟩ := zfuel h4
    have hs := hZ m (by omega) (by omega)
    rw [show (((m + 1 : Nat) : Int) - 1) = (m : Int) by omega]
    simp (disch := first | assumption | omega) only [f_X5_linkOf_L15, e5_stateOf hW hu hR hN, zz_seo hW hu, zls, zz_some, zz_lit, zz_num, zI_lt, zI_le, zI_eq, zI_nat, zz_b, if_pos, if_neg, if_true, if_false]
    by_cases h : nS n m 0 = 1
    · simp [h]
    · simp only [h, decide_false, if_false]
      rw [show (m : Int) + -1 = (m : Int) - 1 by omega, ih f (by omega) (by omega)]
      rfl
theorem e5_linkOf (hW : zWF E) (hu : zU E 0 d = true) (hR : zRs (σ 0 d) n) (hN : nWn n) (hZ : nWs n) {s : Int} (h0 : 0 ≤ s) (h1 : s < n 3) : f_X5_linkOf (zH E σ) (zL E 0 d 16) (zI s) = some (zI (nLk n s)) := by
  have hN' := hN.r
  have hs := hZ s h0 h1
  have hd : nS n s 3 ≤ 1000 := by
    have := hN.r
    have he := nDl_10 (hZ.ent hN h0 h1).1 (by have := (hZ.ent hN h0 h1).2; omega)
    omega
  simp (disch := first | assumption | omega) only [f_X5_linkOf, e5_directoryOf hW hu hR hN, zz_seo hW hu, zz_some, zz_lit, zz_num, zI_lt, zI_le, zI_eq, zI_nat, zz_b, if_pos, if_neg, if_true, if_false]
  unfold nLk
  by_cases h : nS n s 3 = 0
  · simp (disch := first | assumption | omega) only [zz_some, zz_lit, zz_num, zI_lt, zI_le, zI_eq, zI_nat, zz_b, if_pos, if_neg, if_true, if_false]
  · simp (disch := first | assumption | omega) only [zz_some, zz_lit, zz_num, zI_lt, zI_le, zI_eq, zI_nat, zz_b, if_pos, if_neg, if_true, if_false]
    rw [show s - 1 = ((s.toNat : Int)) - 1 by omega, e5_linkOf_L hW hu hR hN hZ s.toNat _ (by omega) (by unfold g_N; omega)]
end zCls
end
section
/-! What would be: the class's disc. -/
theorem zIb (b : Bool) : zI (zb b) = zI (if b = true then 1 else 0) := rfl
/-- the version of a file that would be recovered -/
def nRf (n : zN) (l x : Int) : Int := zls (fun v => decide (nV n v 0 = x) && nRo n v l) (n 6).toNat
theorem nRf_rng (n : zN) (l x : Int) : -1 ≤ nRf n l x ∧ (0 ≤ nRf n l x → nRf n l x < n 6) := by
  have h := zls_rng (fun v => decide (nV n v 0 = x) && nRo n v l) (n 6).toNat
  have h2 : nRf n l x = zls (fun v => decide (nV n v 0 = x) && nRo n v l) (n 6).toNat := rfl
  omega
theorem nRf_file {n : zN} {l x : Int} (h : nRf n l x ≠ -1) : nV n (nRf n l x) 0 = x := by
  rcases zls_spec (P := fun v => decide (nV n v 0 = x) && nRo n v l) (n 6).toNat with ⟨z, -⟩ | ⟨-, -, z, -⟩
  · exact absurd z h
  · rw [Bool.and_eq_true, decide_eq_true_iff] at z
    exact z.1
theorem nRf_iff {n : zN} {l v : Int} (h0 : 0 ≤ v) (h1 : v < n 6) : nRc n l v = true ↔ nRf n l (nV n v 0) = v := by
  have hsp := zls_spec (P := fun u => decide (nV n u 0 = nV n v 0) && nRo n u l) (n 6).toNat
  have he : nRf n l (nV n v 0) = zls (fun u => decide (nV n u 0 = nV n v 0) && nRo n u l) (n 6).toNat := rfl
  rw [← he] at hsp
  unfold nRc
  rw [Bool.and_eq_true, zal_iff]
  constructor
  · rintro ⟨h2, h3⟩
    rcases hsp with ⟨-, z⟩ | ⟨z0, z1, z2, z3⟩
    · have := z v h0 (by omega)
      simp [h2] at this
    · by_cases hlt : nRf n l (nV n v 0) < v
      · have := z3 v hlt (by omega)
        simp [h2] at this
      · by_cases hgt : v < nRf n l (nV n v 0)
        · have h4 := h3 _ (show v + 1 ≤ nRf n l (nV n v 0) by omega) (by omega)
          rw [z2] at h4
          exact absurd h4 (by simp)
        · omega
  · intro h2
    rcases hsp with ⟨z, -⟩ | ⟨z0, z1, z2, z3⟩
    · omega
    · rw [h2] at z2 z3
      rw [Bool.and_eq_true] at z2
      refine ⟨z2.2, fun i i0 i1 => ?_⟩
      have := z3 i (by omega) (by omega)
      rw [this]
      rfl
theorem nRf_cn {n : zN} (hn : nW n) {l : Int} : zcn (fun x => decide (nRf n l x ≠ -1)) 0 (n 2).toNat = zcn (nRc n l) 0 (n 6).toNat := by
  have hN := hn.1.r
  have h1 := zcn_map (e := (n 6).toNat) (g := fun x => nRf n l x) (n 2).toNat (fun x => decide (nRf n l x ≠ -1)) (nRc n l) (fun x x0 x1 hx => by
    have hx := of_decide_eq_true hx
    have hr := nRf_rng n l x
    refine ⟨by omega, by omega, ?_⟩
    rw [nRf_iff (by omega) (by omega), nRf_file hx]) (fun x x' _ _ _ _ hx hx' he => by
    have hx := of_decide_eq_true hx
    have hx' := of_decide_eq_true hx'
    have he : nRf n l x = nRf n l x' := he
    rw [← nRf_file hx, ← nRf_file hx', he])
  have h2 := zcn_map (e := (n 2).toNat) (g := fun v => nV n v 0) (n 6).toNat (nRc n l) (fun x => decide (nRf n l x ≠ -1)) (fun v v0 v1 hv => by
    have hw := hn.2.2.1.2 v v0 (by omega)
    rw [nRf_iff v0 (by omega)] at hv
    refine ⟨hw.1.1, by omega, ?_⟩
    rw [hv, decide_eq_true_iff]
    omega) (fun v v' v0 v1 v0' v1' hv hv' he => by
    rw [nRf_iff v0 (by omega)] at hv
    rw [nRf_iff v0' (by omega)] at hv'
    have he : nV n v 0 = nV n v' 0 := he
    rw [← hv, ← hv', he])
  omega
theorem nDl_z {e : Int} (h0 : 0 ≤ e) (h1 : e ≤ 1000) (G : gH) : f_X9_directoryLength G (zI e) = some (zI (nDl e)) := by
  unfold f_X9_directoryLength nDl
  simp (disch := first | assumption | omega) only [zz_lit, zz_num, zI_div]
section zCls
variable {E : zE} {σ : zW} {d : Nat} {n : zN}
theorem e0_canRelocate_L50 (hW : zWF E) (hu : zU E 0 d = true) (hR : zRk (σ 0 d) n) (hN : nWn n) (hB : nWb n) {x : Int} (hx0 : 0 ≤ x) (hx1 : x < 1000) : ∀ (m fuel : Nat) (acc b : Int), 0 ≤ b → b + m = n 0 → m < fuel → 0 ≤ acc → acc + m < 2000 → f_X0_canRelocate_L50 (zH E σ) fuel (zL E 0 d 1) (zI x) (zI acc) (zI b) = some (zI (zb (decide (x ≤ acc + zcn (fun b => decide (n (7 + b) = 0) && decide (n (103 + b) = 0)) b m)))) := by
  have hN' := hN.r
  intro m
  induction m with
  | zero =>
    intro fuel acc b h0 h1 h2 h3 h4
    obtain ⟨f, rfl, h5⟩ := zfuel h2
    simp (disch := first | assumption | omega) only [f_X0_canRelocate_L50, e0_count hW hu hR hN hB, zcn, zz_some, zz_lit, zz_num, zI_lt, zI_le, zI_eq, zI_nat, zz_b, if_pos, if_neg, if_true, if_false]
    rw [zb_somn]
    congr 4
    simp
  | succ m ih =>
    intro fuel acc b h0 h1 h2 h3 h4
    obtain ⟨f, rfl, h5⟩ := zfuel h2
    have hb := hB b h0 (by omega)
    simp (disch := first | assumption | omega) only [f_X0_canRelocate_L50, e0_count hW hu hR hN hB, e0_kindOf hW hu hR hN hB, e0_isBad' hW hu hR hN hB, zz_blo hW hu, zcn, ih, zz_some, zz_lit, zz_num, zI_lt, zI_le, zI_eq, zI_nat, zz_b, if_pos, if_neg, if_true, if_false]
    by_cases h : n (7 + b) = 0
    · by_cases h6 : n (103 + b) = 0
      · simp only [h, h6, decide_true, Bool.and_self, if_true]
        rw [show acc + 1 + zcn (fun b => decide (n (7 + b) = 0) && decide (n (103 + b) = 0)) (b + 1) m = acc + (zb true + zcn (fun b => decide (n (7 + b) = 0) && decide (n (103 + b) = 0)) (b + 1) m) by simp [zb]; omega]
      · simp only [h, h6, decide_true, decide_false, Bool.and_false, if_true, if_false]
        rw [show acc + 0 + zcn (fun b => decide (n (7 + b) = 0) && decide (n (103 + b) = 0)) (b + 1) m = acc + (zb false + zcn (fun b => decide (n (7 + b) = 0) && decide (n (103 + b) = 0)) (b + 1) m) by simp [zb]]
    · simp only [h, decide_false, Bool.false_and, if_false]
      rw [show acc + 0 + zcn (fun b => decide (n (7 + b) = 0) && decide (n (103 + b) = 0)) (b + 1) m = acc + (zb false + zcn (fun b => decide (n (7 + b) = 0) && decide (n (103 + b) = 0)) (b + 1) m) by simp [zb]]
theorem e0_canRelocate_L7 (hW : zWF E) (hu : zU E 0 d = true) (hR : zRk (σ 0 d) n) (hN : nWn n) (hB : nWb n) {x : Int} (hx0 : 0 ≤ x) (hx1 : n 4 + x ≤ n 0 - n 1) : ∀ (m fuel : Nat) (acc b : Int), 0 ≤ b → b + m = n 4 + x → m < fuel → 0 ≤ acc → acc + m < 500 → f_X0_canRelocate_L7 (zH E σ) fuel (zL E 0 d 1) (zI x) (zI acc) (zI b) = some (zI (zb (decide (acc + zcn (fun b => decide (n (103 + b) = 1)) b m ≤ zcn (fun b => decide (n (7 + b) = 0) && decide (n (103 + b) = 0)) (n 0 - n 1) (n 1).toNat)))) := by
  have hN' := hN.r
  intro m
  induction m with
  | zero =>
    intro fuel acc b h0 h1 h2 h3 h4
    obtain ⟨f, rfl, h5⟩ := zfuel h2
    simp (disch := first | assumption | omega) only [f_X0_canRelocate_L7, e0_main hW hu hR hN hB, e0_next hW hu hR hN hB, zcn, zz_some, zz_lit, zz_num, zI_lt, zI_le, zI_eq, zI_nat, zz_b, if_pos, if_neg, if_true, if_false]
    rw [e0_canRelocate_L50 hW hu hR hN hB h3 (by omega) (n 1).toNat _ _ _ (by omega) (by omega) (by unfold g_N; omega) (by omega) (by omega)]
    simp
  | succ m ih =>
    intro fuel acc b h0 h1 h2 h3 h4
    obtain ⟨f, rfl, h5⟩ := zfuel h2
    have hb := hB b h0 (by omega)
    have hz := zb_rng (decide (n (103 + b) = 1))
    simp (disch := first | assumption | omega) only [f_X0_canRelocate_L7, e0_main hW hu hR hN hB, e0_next hW hu hR hN hB, e0_isBad hW hu hR hN hB, zz_blo hW hu, zcn, decide_eq_true h0, Bool.true_and, zz_some, zz_lit, zz_num, zI_lt, zI_le, zI_eq, zI_nat, zz_b, if_pos, if_neg, if_true, if_false]
    rw [ih _ _ _ (by omega) (by omega) (by omega) (by omega) (by omega), Int.add_assoc]
    rfl
theorem e0_canRelocate (hW : zWF E) (hu : zU E 0 d = true) (hR : zRk (σ 0 d) n) (hN : nWn n) (hB : nWb n) {x : Int} (hx0 : 0 ≤ x) (hx1 : n 4 + x ≤ n 0 - n 1) : f_X0_canRelocate (zH E σ) (zL E 0 d 1) (zI x) = some (zI (zb (nHs n x))) := by
  have hN' := hN.r
  unfold f_X0_canRelocate nHs
  simp (disch := first | assumption | omega) only [e0_next hW hu hR hN hB, zz_some, zz_lit, zz_num, zI_lt, zI_le, zI_eq, zI_nat, zz_b, if_pos, if_neg, if_true, if_false]
  rw [e0_canRelocate_L7 hW hu hR hN hB hx0 hx1 x.toNat _ _ _ (by omega) (by omega) (by unfold g_N; omega) (by omega) (by omega)]
  simp
theorem e1_canReadVersion (hW : zWF E) (hu : zU E 0 d = true) (hR : zRd (σ 0 d) n) (hn : nW n) {v : Int} (h0 : 0 ≤ v) (h1 : v < n 6) : f_X1_canReadVersion (zH E σ) (zL E 0 d 0) (zI v) = some (zI (zb (nRv n v))) := by
  have hN' := hn.1.r
  have hv := hn.2.2.1.2 v h0 h1
  simp (disch := first | assumption | omega) only [f_X1_canReadVersion, zz_dc hW hu, zz_vso hW hu, zz_blo hW hu, e7_firstOf hW hu hR.2.1 hn.1, e7_lengthOf hW hu hR.2.1 hn.1, e0_canRead hW hu hR.1 hn.1 hn.2.1, zz_some, zz_lit, zz_num, zI_lt, zI_le, zI_eq, zI_nat, zz_b, if_pos, if_neg, if_true, if_false]
  rfl
theorem e1_canReadVersion' (hW : zWF E) (hu : zU E 0 d = true) (hR : zRd (σ 0 d) n) (hn : nW n) : f_X1_canReadVersion (zH E σ) (zL E 0 d 0) (zI (-1)) = some (zI 0) := by
  have hN' := hn.1.r
  have h1 := e7_firstOf hW hu hR.2.1 hn.1 (v := -1) (by omega) (by omega)
  have h2 := e7_lengthOf hW hu hR.2.1 hn.1 (v := -1) (by omega) (by omega)
  rw [if_neg (by omega)] at h1 h2
  simp (disch := first | assumption | omega) only [f_X1_canReadVersion, zz_dc hW hu, zz_vso hW hu, zz_blo hW hu, h1, h2, e0_canRead' hW hu hR.1 hn.1 hn.2.1, zz_some, zz_lit, zz_num, zI_lt, zI_le, zI_eq, zI_nat, zz_b, if_pos, if_neg, if_true, if_false]
theorem e1_relocatedBlock_L (hW : zWF E) (hu : zU E 0 d = true) (hR : zRd (σ 0 d) n) (hn : nW n) {k : Int} (hk0 : -2147483648 ≤ k) (hk1 : k < 2147483648) (hk : 0 ≤ k) : ∀ (m fuel : Nat) (c b : Int), 0 ≤ b → b + m = n 0 - n 1 → m < fuel → 0 ≤ c → c ≤ b → c ≤ k → f_X1_relocatedBlock_L4 (zH E σ) fuel (zL E 0 d 0) (zI k) (zI c) (zI b) = some (zI (znt (nDf n) b m (k - c))) := by
  have hN' := hn.1.r
  intro m
  induction m with
  | zero =>
    intro fuel c b h0 h1 h2 h3 h4 h6
    obtain ⟨f, rfl, h5⟩ := zfuel h2
    simp (disch := first | assumption | omega) only [f_X1_relocatedBlock_L4, zz_dc hW hu, e0_main hW hu hR.1.1 hn.1 hn.2.1, znt, zz_some, zz_lit, zz_num, zI_lt, zI_le, zI_eq, zI_nat, zz_b, if_pos, if_neg, if_true, if_false]
  | succ m ih =>
    intro fuel c b h0 h1 h2 h3 h4 h6
    obtain ⟨f, rfl, h5⟩ := zfuel h2
    have hb := hn.2.1 b h0 (by omega)
    simp (disch := first | assumption | omega) only [f_X1_relocatedBlock_L4, zz_dc hW hu, zz_blo hW hu, zz_seo hW hu, e0_main hW hu hR.1.1 hn.1 hn.2.1, e0_kindOf hW hu hR.1.1 hn.1 hn.2.1, e0_writerOf hW hu hR.1.1 hn.1 hn.2.1, znt, zz_some, zz_lit, zz_num, zI_lt, zI_le, zI_eq, zI_nat, zz_b, if_pos, if_neg, if_true, if_false]
    by_cases h : n (7 + b) = 3
    · have hm : n (679 + b) ≠ 0 := by
        have := hb.2.2.2.2.2.2.2.2.2.2.2.2.1 (by omega)
        omega
      have hs := hn.2.2.2 (n (295 + b) - 1) (by omega) (by omega)
      simp (disch := first | assumption | omega) only [e5_stateOf hW hu hR.2.2.1 hn.1, if_pos (And.intro (show 0 ≤ n (295 + b) - 1 by omega) (show n (295 + b) - 1 < n 3 by omega)), ih, zz_some, zz_lit, zz_num, zI_lt, zI_le, zI_eq, zI_nat, zz_b, if_pos, if_neg, if_true, if_false]
      have hD : nDf n b = decide (nS n (n (295 + b) - 1) 0 ≠ 2) := by simp [nDf, hm]
      rw [hD]
      by_cases h7 : nS n (n (295 + b) - 1) 0 = 2
      · simp [h7]
      · by_cases h8 : c = k
        · subst h8; simp [h7]
        · rw [if_neg h7, if_neg h8]
          simp only [h7, ne_eq, not_false_eq_true, decide_true, if_true]
          rw [if_neg (by omega), show k - (c + 1) = k - c - 1 by omega]
    · have hm : n (679 + b) = 0 := by
        have := hb.2.2.2.2.2.2.2.2.2.2.2.2.1 (by omega)
        omega
      have hD : nDf n b = false := by simp [nDf, hm]
      rw [hD]
      simp (disch := first | assumption | omega) only [ih, Bool.false_eq_true, zz_some, zz_lit, zz_num, zI_lt, zI_le, zI_eq, zI_nat, zz_b, if_pos, if_neg, if_true, if_false]
theorem e1_relocatedBlock (hW : zWF E) (hu : zU E 0 d = true) (hR : zRd (σ 0 d) n) (hn : nW n) {k : Int} (hk0 : -2147483648 ≤ k) (hk1 : k < 2147483648) : f_X1_relocatedBlock (zH E σ) (zL E 0 d 0) (zI k) = some (zI (if 0 ≤ k then znt (nDf n) 0 (n 0 - n 1).toNat k else -1)) := by
  have hN' := hn.1.r
  unfold f_X1_relocatedBlock
  simp (disch := first | assumption | omega) only [zz_some, zz_lit, zz_num, zI_lt, zI_le, zI_eq, zI_nat, zz_b, if_pos, if_neg, if_true, if_false]
  by_cases h : 0 ≤ k
  · rw [e1_relocatedBlock_L hW hu hR hn hk0 hk1 h (n 0 - n 1).toNat _ _ _ (by omega) (by omega) (by unfold g_N; omega) (by omega) (by omega) (by omega), if_pos h]
    simp
  · have h2 : ∀ f : Nat, f_X1_relocatedBlock_L4 (zH E σ) (f + 1) (zL E 0 d 0) (zI k) (zI 0) (zI 0) = some (zI (-1)) := by
      intro f
      simp (disch := first | assumption | omega) only [f_X1_relocatedBlock_L4, zz_some, zz_lit, zz_num, zI_lt, zI_le, zI_eq, zI_nat, zz_b, if_pos, if_neg, if_true, if_false]
    rw [if_neg h]
    exact h2 4095
theorem e1_recVer_L (hW : zWF E) (hu : zU E 0 d = true) (hR : zRd (σ 0 d) n) (hn : nW n) {x l : Int} (hx0 : 0 ≤ x) (hx1 : x < 100) (hl0 : -1 ≤ l) (hl1 : l < 100) : ∀ (m fuel : Nat), (m : Int) ≤ n 6 → m < fuel → f_X1_recoverableVersionOf_L10 (zH E σ) fuel (zL E 0 d 0) (zI x) (zI l) (zI ((m : Int) - 1)) = some (zI (zls (fun v => decide (nV n v 0 = x) && nRo n v l) m)) := by
  have hN' := hn.1.r
  intro m
  induction m with
  | zero =>
    intro fuel h1 h2
    obtain ⟨f, rfl, h3⟩ := zfuel h2
    simp (disch := first | assumption | omega) only [f_X1_recoverableVersionOf_L10, zls, zz_some, zz_lit, zz_num, zI_lt, zI_le, zI_eq, zI_nat, zz_b, if_pos, if_neg, if_true, if_false]
  | succ m ih =>
    intro fuel h1 h2
    obtain ⟨f, rfl, h3⟩ := zfuel h2
    have hi : (m : Int) + -1 = (m : Int) - 1 := by omega
    have hv := hn.2.2.1.2 m (by omega) (by omega)
    have hih := ih f (by omega) (by omega)
    rw [show (((m + 1 : Nat) : Int) - 1) = (m : Int) by omega, zls]
    have hF := e7_fileOf hW hu hR.2.1 hn.1 (v := m) (by omega) (by omega)
    have hw := e7_writerOf hW hu hR.2.1 hn.1 (v := m) (by omega) (by omega)
    have hc := e1_canReadVersion hW hu hR hn (v := m) (by omega) (by omega)
    rw [if_pos (by omega)] at hF hw
    by_cases h4 : nV n m 0 = x
    · by_cases h5 : nV n m 4 = l
      · cases h6 : nRv n m
        · have h7 : (decide (nV n m 0 = x) && nRo n m l) = false := by simp [nRo, h6]
          rw [h6] at hc
          rw [h7]
          simp (disch := first | assumption | omega) only [f_X1_recoverableVersionOf_L10, f_X1_recoverableVersionOf_J43, zz_dc hW hu, zz_dco hW hu, zz_vso hW hu, hF, hw, h4, h5, hc, hi, hih, Bool.false_eq_true, zz_some, zz_lit, zz_num, zI_lt, zI_le, zI_eq, zI_nat, zz_b, if_pos, if_neg, if_true, if_false]
        · have h7 : (decide (nV n m 0 = x) && nRo n m l) = true := by simp [nRo, h6, h4, h5]
          rw [h6] at hc
          rw [h7]
          simp (disch := first | assumption | omega) only [f_X1_recoverableVersionOf_L10, f_X1_recoverableVersionOf_J43, zz_dc hW hu, zz_dco hW hu, zz_vso hW hu, hF, hw, h4, h5, hc, hi, hih, Bool.true_eq_false, zz_some, zz_lit, zz_num, zI_lt, zI_le, zI_eq, zI_nat, zz_b, if_pos, if_neg, if_true, if_false]
      · have h7 : (decide (nV n m 0 = x) && nRo n m l) = false := by simp [nRo, h5]
        rw [h7]
        simp (disch := first | assumption | omega) only [f_X1_recoverableVersionOf_L10, f_X1_recoverableVersionOf_J43, zz_dc hW hu, zz_dco hW hu, zz_vso hW hu, hF, hw, h4, h5, hi, hih, Bool.false_eq_true, zz_some, zz_lit, zz_num, zI_lt, zI_le, zI_eq, zI_nat, zz_b, if_pos, if_neg, if_true, if_false]
    · have h7 : (decide (nV n m 0 = x) && nRo n m l) = false := by simp [h4]
      rw [h7]
      simp (disch := first | assumption | omega) only [f_X1_recoverableVersionOf_L10, f_X1_recoverableVersionOf_J43, zz_dc hW hu, zz_dco hW hu, zz_vso hW hu, hF, h4, hi, hih, Bool.false_eq_true, zz_some, zz_lit, zz_num, zI_lt, zI_le, zI_eq, zI_nat, zz_b, if_pos, if_neg, if_true, if_false]
theorem e1_recVer (hW : zWF E) (hu : zU E 0 d = true) (hR : zRd (σ 0 d) n) (hn : nW n) {x l : Int} (hx0 : 0 ≤ x) (hx1 : x < 100) (hl0 : -1 ≤ l) (hl1 : l < 100) : f_X1_recoverableVersionOf (zH E σ) (zL E 0 d 0) (zI x) (zI l) = some (zI (nRf n l x)) := by
  have hN' := hn.1.r
  have h := e1_recVer_L hW hu hR hn hx0 hx1 hl0 hl1 (n 6).toNat g_N (by omega) (by unfold g_N; omega)
  rw [show (((n 6).toNat : Nat) : Int) = n 6 by omega] at h
  simp (disch := first | assumption | omega) only [f_X1_recoverableVersionOf, zz_dc hW hu, zz_vso hW hu, e7_count hW hu hR.2.1 hn.1, h, zz_some, zz_lit, zz_num, zI_lt, zI_le, zI_eq, zI_nat, zz_b, if_pos, if_neg, if_true, if_false]
  rfl
theorem e1_recoverable_L (hW : zWF E) (hu : zU E 0 d = true) (hR : zRd (σ 0 d) n) (hn : nW n) (hl : nLo n = true) : ∀ (m fuel : Nat) (acc x : Int), 0 ≤ x → x + m = n 2 → m < fuel → f_X1_recoverableVersions_L4 (zH E σ) fuel (zL E 0 d 0) (zI acc) (zI x) = some (zI (acc + zcn (fun x => decide (nRf n (nLa n) x ≠ -1)) x m)) := by
  have hN' := hn.1.r
  have hla : nLa n = n 3 - 1 := rfl
  have hf : g_i (zH E σ) (zL E 0 d 0) 1 3 = some (zI (n 2)) := by rw [← hR.2.2.2.1]; exact (zz_dc hW hu).2.2.2.1
  intro m
  induction m with
  | zero =>
    intro fuel acc x h0 h1 h2
    obtain ⟨f, rfl, h5⟩ := zfuel h2
    simp (disch := first | assumption | omega) only [f_X1_recoverableVersions_L4, zz_dco hW hu, zz_seo hW hu, hf, e5_latestIsLost hW hu hR.2.2.1 hn.1 hn.2.2.2, hl, zcn, Bool.true_eq_false, zz_some, zz_lit, zz_num, zI_lt, zI_le, zI_eq, zI_nat, zz_b, if_pos, if_neg, if_true, if_false]
    simp
  | succ m ih =>
    intro fuel acc x h0 h1 h2
    obtain ⟨f, rfl, h5⟩ := zfuel h2
    have hr := nRf_rng n (nLa n) x
    simp (disch := first | assumption | omega) only [f_X1_recoverableVersions_L4, zz_dco hW hu, zz_seo hW hu, hf, e5_latestIsLost hW hu hR.2.2.1 hn.1 hn.2.2.2, hl, e5_latest hW hu hR.2.2.1 hn.1, e1_recVer hW hu hR hn, zcn, ih, Bool.true_eq_false, zz_some, zz_lit, zz_num, zI_lt, zI_le, zI_eq, zI_nat, zz_b, if_pos, if_neg, if_true, if_false]
    by_cases h : nRf n (nLa n) x = -1
    · rw [if_pos h, zb_dneg (by simp [h])]; congr 2; omega
    · rw [if_neg h, zb_dpos h]; congr 2; omega
theorem e1_recoverableVersions (hW : zWF E) (hu : zU E 0 d = true) (hR : zRd (σ 0 d) n) (hn : nW n) : f_X1_recoverableVersions (zH E σ) (zL E 0 d 0) = some (zI (nCr n)) := by
  have hN' := hn.1.r
  unfold f_X1_recoverableVersions nCr
  simp (disch := first | assumption | omega) only [zz_some, zz_lit, zz_num, zI_lt, zI_le, zI_eq, zI_nat, zz_b, if_pos, if_neg, if_true, if_false]
  cases hl : nLo n
  · have h2 : ∀ f : Nat, f_X1_recoverableVersions_L4 (zH E σ) (f + 1) (zL E 0 d 0) (zI 0) (zI 0) = some (zI 0) := by
      intro f
      simp (disch := first | assumption | omega) only [f_X1_recoverableVersions_L4, zz_dc hW hu, zz_seo hW hu, e5_latestIsLost hW hu hR.2.2.1 hn.1 hn.2.2.2, hl, zz_some, zz_lit, zz_num, zI_lt, zI_le, zI_eq, zI_nat, zz_b, if_pos, if_neg, if_true, if_false]
    rw [if_neg (by simp)]
    exact h2 4095
  · rw [e1_recoverable_L hW hu hR hn hl (n 2).toNat _ _ _ (by omega) (by omega) (by unfold g_N; omega), if_pos rfl, nRf_cn hn]
    simp
theorem nCr_rng (hn : nW n) : 0 ≤ nCr n ∧ nCr n ≤ 96 := by
  have hN' := hn.1.r
  unfold nCr
  split
  · have := zcn_rng (nRc n (nLa n)) (n 6).toNat 0
    omega
  · omega
theorem e1_reasonAgainstDirectory (hW : zWF E) (hu : zU E 0 d = true) (hR : zRd (σ 0 d) n) (hn : nW n) {e : Int} (h0 : 0 ≤ e) (h1 : e ≤ 96) : f_X1_reasonAgainstDirectory (zH E σ) (zL E 0 d 0) (zI e) = some (zI (nWd n e)) := by
  have hN' := hn.1.r
  have hd := nDl_rng h0 h1
  simp (disch := first | assumption | omega) only [f_X1_reasonAgainstDirectory, zz_dc hW hu, zz_blo hW hu, nDl_z, e0_hasRoomFor hW hu hR.1.1 hn.1 hn.2.1, zz_some, zz_lit, zz_num, zI_lt, zI_le, zI_eq, zI_nat, zz_b, if_pos, if_neg, if_true, if_false]
  unfold nWd
  by_cases h : n 4 + nDl e ≤ n 0 - n 1
  · simp (disch := first | assumption | omega) only [e0_canRelocate hW hu hR.1.1 hn.1 hn.2.1, decide_eq_true h, Bool.true_eq_false, zz_some, zz_lit, zz_num, zI_lt, zI_le, zI_eq, zI_nat, zz_b, if_pos, if_neg, if_true, if_false]
    cases nHs n (nDl e) <;> rfl
  · simp (disch := first | assumption | omega) only [decide_eq_false h, zz_some, zz_lit, zz_num, zI_lt, zI_le, zI_eq, zI_nat, zz_b, if_pos, if_neg, if_true, if_false]
theorem nEw_rng (hn : nW n) (f : Int) : 0 ≤ nEw n f ∧ nEw n f ≤ 11 := by
  have hN' := hn.1.r
  have hla : nLa n = n 3 - 1 := rfl
  unfold nEw
  split
  · rename_i h
    have h2 : 0 ≤ nLa n := by
      unfold nOp at h
      by_cases h3 : 0 ≤ nLa n
      · exact h3
      · simp [h3] at h
    have he := hn.2.2.2.ent hn.1 h2 (by omega)
    have hz := zb_rng (decide (nEn n (nLa n) f = -1))
    omega
  · omega
theorem e1_reasonAgainstClose (hW : zWF E) (hu : zU E 0 d = true) (hR : zRd (σ 0 d) n) (hn : nW n) : f_X1_reasonAgainstClose (zH E σ) (zL E 0 d 0) = some (zI (nWc n)) := by
  have hN' := hn.1.r
  have hla : nLa n = n 3 - 1 := rfl
  simp (disch := first | assumption | omega) only [f_X1_reasonAgainstClose, zz_dc hW hu, zz_seo hW hu, e5_isOpen hW hu hR.2.2.1 hn.1 hn.2.2.2, e5_latest hW hu hR.2.2.1 hn.1, zz_some, zz_lit, zz_num, zI_lt, zI_le, zI_eq, zI_nat, zz_b, if_pos, if_neg, if_true, if_false]
  unfold nWc
  cases h : nOp n
  · simp
  · have h2 : 0 ≤ nLa n := by
      unfold nOp at h
      by_cases h3 : 0 ≤ nLa n
      · exact h3
      · simp [h3] at h
    have he := hn.2.2.2.ent hn.1 h2 (by omega)
    simp (disch := first | assumption | omega) only [e5_entriesOf hW hu hR.2.2.1 hn.1, e1_reasonAgainstDirectory hW hu hR hn, Bool.true_eq_false, zz_some, zz_lit, zz_num, zI_lt, zI_le, zI_eq, zI_nat, zz_b, if_pos, if_neg, if_true, if_false]
theorem e1_reasonAgainstCrash (hW : zWF E) (hu : zU E 0 d = true) (hR : zRd (σ 0 d) n) (hn : nW n) : f_X1_reasonAgainstCrash (zH E σ) (zL E 0 d 0) = some (zI (if nOp n = true then 0 else 1)) := by
  simp (disch := first | assumption | omega) only [f_X1_reasonAgainstCrash, zz_dc hW hu, zz_seo hW hu, e5_isOpen hW hu hR.2.2.1 hn.1 hn.2.2.2, zz_some, zz_lit, zz_num, zI_lt, zI_le, zI_eq, zI_nat, zz_b, if_pos, if_neg, if_true, if_false]
  cases nOp n <;> simp
theorem e1_reasonAgainstRecover (hW : zWF E) (hu : zU E 0 d = true) (hR : zRd (σ 0 d) n) (hn : nW n) : f_X1_reasonAgainstRecover (zH E σ) (zL E 0 d 0) = some (zI (nWr n)) := by
  have hN' := hn.1.r
  have hc := nCr_rng hn
  simp (disch := first | assumption | omega) only [f_X1_reasonAgainstRecover, zz_dc hW hu, zz_seo hW hu, e1_recoverableVersions hW hu hR hn, e5_oneMoreIsTooMany hW hu hR.2.2.1 hn.1 hn.2.2.2, e1_reasonAgainstDirectory hW hu hR hn, zz_some, zz_lit, zz_num, zI_lt, zI_le, zI_eq, zI_nat, zz_b, if_pos, if_neg, if_true, if_false]
  unfold nWr
  by_cases h : nCr n = 0
  · simp [h]
  · cases nTm n <;> simp [h]
end zCls
end
section
/-! more of the class's disc -/
section zCls
variable {E : zE} {σ : zW} {d : Nat} {n : zN}
theorem e0_canReadDir (hW : zWF E) (hu : zU E 0 d = true) (hR : zRd (σ 0 d) n) (hn : nW n) {s : Int} (h0 : 0 ≤ s) (h1 : s < n 3) : f_X0_canRead (zH E σ) (zL E 0 d 1) (zI (nS n s 3 - 1)) (zI (nL n s)) = some (zI (zb (nRdD n s))) := by
  have hN' := hn.1.r
  have hs := hn.2.2.2 s h0 h1
  have he := hn.2.2.2.ent hn.1 h0 h1
  have hd := nDl_10 he.1 (by omega)
  unfold nRdD nL
  by_cases h : 0 < nS n s 3
  · rw [if_pos h, e0_canRead hW hu hR.1 hn.1 hn.2.1 (by omega) (by omega) (by omega), decide_eq_true h, Bool.true_and]
  · rw [if_neg h, show nS n s 3 - 1 = -1 by omega, e0_canRead' hW hu hR.1 hn.1 hn.2.1, decide_eq_false h, Bool.false_and]
    rfl
theorem e1_reasonAgainstWrite (hW : zWF E) (hu : zU E 0 d = true) (hR : zRd (σ 0 d) n) (hn : nW n) {x m : Int} (h0 : 0 ≤ x) (h1 : x < 10) (hm0 : 0 ≤ m) (hm1 : m ≤ 8) : f_X1_reasonAgainstWrite (zH E σ) (zL E 0 d 0) (zI x) (zI m) = some (zI (nWw n x m)) := by
  have hN' := hn.1.r
  have he := nEw_rng hn x
  have hd := nDl_rng he.1 (by omega)
  have hz : ∀ G : gH, f_X9_directoryLength G (zI (nEw n x)) = some (zI (nDl (nEw n x))) := nDl_z he.1 (by omega)
  unfold nWw
  obtain ⟨y, hy⟩ : ∃ y, nDl (nEw n x) = y := ⟨_, rfl⟩
  rw [hy] at hd
  simp only [hy] at hz
  rw [hy]
  simp (disch := first | assumption | omega) only [f_X1_reasonAgainstWrite, zz_dc hW hu, zz_blo hW hu, zz_seo hW hu, hz, e0_hasRoomFor hW hu hR.1.1 hn.1 hn.2.1, e5_oneMoreIsTooMany hW hu hR.2.2.1 hn.1 hn.2.2.2, e5_entriesWith hW hu hR.2.2.1 hn.1 hn.2.2.2, zz_some, zz_lit, zz_num, zI_lt, zI_le, zI_eq, zI_nat, zz_b, if_pos, if_neg, if_true, if_false]
  cases nTm n
  · simp only [if_true, Bool.false_eq_true, if_false]
    by_cases h : n 4 + (m + y) ≤ n 0 - n 1
    · simp (disch := first | assumption | omega) only [e0_canRelocate hW hu hR.1.1 hn.1 hn.2.1, decide_eq_true h, Bool.true_eq_false, zz_some, zz_lit, zz_num, zI_lt, zI_le, zI_eq, zI_nat, zz_b, if_pos, if_neg, if_true, if_false]
      cases nHs n m <;> rfl
    · simp (disch := first | assumption | omega) only [decide_eq_false h, zz_some, zz_lit, zz_num, zI_lt, zI_le, zI_eq, zI_nat, zz_b, if_pos, if_neg, if_true, if_false]
  · simp
end zCls
end
section
/-! The class's views. -/
def zVw (κ : Nat → Int → Int) (n : zN) : Prop :=
  κ 0 0 = n 2 ∧ (∀ s, 0 ≤ s → s < n 3 → κ 1 s = zb (nRe n s)) ∧ (∀ f, 0 ≤ f → f < n 2 → κ 2 f = nSk n f 12) ∧ (∀ f, 0 ≤ f → f < n 2 → κ 3 f = nFv n f 12) ∧ (∀ f, 0 ≤ f → f < n 2 → κ 4 f = zb (nGd n f))
theorem zVw.r {κ : Nat → Int → Int} {n : zN} (h : zVw κ n) :
  κ 0 0 = n 2 ∧ (∀ s, 0 ≤ s → s < n 3 → κ 1 s = zb (nRe n s)) ∧ (∀ f, 0 ≤ f → f < n 2 → κ 2 f = nSk n f 12) ∧ (∀ f, 0 ≤ f → f < n 2 → κ 3 f = nFv n f 12) ∧ (∀ f, 0 ≤ f → f < n 2 → κ 4 f = zb (nGd n f)) := h
def zFr (σ σ' : zW) (k d : Nat) : Prop := ∀ k' d', ¬ (k' = k ∧ d' = d) → σ' k' d' = σ k' d'
theorem zFr.rf {σ : zW} {k d : Nat} : zFr σ σ k d := fun _ _ _ => rfl
theorem zFr.tr {σ σ1 σ2 : zW} {k d : Nat} (h : zFr σ σ1 k d) (h2 : zFr σ1 σ2 k d) : zFr σ σ2 k d := fun k' d' z => (h2 k' d' z).trans (h k' d' z)
theorem zs_kd {σ : zW} {k d c k' d' : Nat} {i v : Int} (h : ¬ (k' = k ∧ d' = d)) : zs σ k d c i v k' d' = σ k' d' := by
  funext c'
  exact zs_ne (fun z => h ⟨z.1, z.2.1⟩)
theorem zr_kd {σ : zW} {k d c k' d' : Nat} {r : Int → Int} (h : ¬ (k' = k ∧ d' = d)) : zr σ k d c r k' d' = σ k' d' := by
  funext c'
  exact zr_ne (fun z => h ⟨z.1, z.2.1⟩)
theorem zFr.zs {σ : zW} {k d c : Nat} {i v : Int} : zFr σ (zs σ k d c i v) k d := fun _ _ z => zs_kd z
theorem zFr.zr {σ : zW} {k d c : Nat} {r : Int → Int} : zFr σ (zr σ k d c r) k d := fun _ _ z => zr_kd z
theorem zr_down {σ : zW} {k d c m : Nat} {x : Int} {F : Int → Int} (hx : x = F m) : zr (zs σ k d c m x) k d c (fun i => if 0 ≤ i ∧ i < (m : Int) then F i else zs σ k d c m x k d c i) = zr σ k d c (fun i => if 0 ≤ i ∧ i < ((m + 1 : Nat) : Int) then F i else σ k d c i) := by
  rw [zr_zs]
  congr 1
  funext j
  rw [zs_at, hx]
  by_cases hj : j = m
  · subst hj
    rw [if_neg (by omega), if_pos rfl, if_pos (by omega)]
  · by_cases hj2 : 0 ≤ j ∧ j < (m : Int)
    · rw [if_pos hj2, if_pos (by omega)]
    · rw [if_neg hj2, if_neg hj, if_neg (by omega)]
theorem nGo_succ (n : zN) (t : Nat) : nGo n (t + 1) = (nGo n t && (nIs n (nLa n - t) || decide (nS n (nLa n - t) 0 ≠ 1) || decide (n 5 = 1))) := rfl
theorem nSk_rng (n : zN) (f b : Int) : -1 ≤ nSk n f b ∧ (0 ≤ nSk n f b → nSk n f b < n 3 ∧ nSk n f b < b) := by
  have h := zls_rng (fun s => nRe n s && decide (nEn n s f ≠ -1)) (min b (n 3)).toNat
  unfold nSk
  omega
theorem nSk_en {n : zN} {f b : Int} (h : 0 ≤ nSk n f b) : nRe n (nSk n f b) = true ∧ nEn n (nSk n f b) f ≠ -1 := by
  have h2 : nSk n f b = zls (fun s => nRe n s && decide (nEn n s f ≠ -1)) (min b (n 3)).toNat := rfl
  rcases zls_spec (P := fun s => nRe n s && decide (nEn n s f ≠ -1)) (min b (n 3)).toNat with ⟨h3, -⟩ | ⟨h3, h4, h5, -⟩
  · omega
  · rw [← h2] at h5
    simpa using h5
theorem nFv_rng {n : zN} (hn : nW n) (f b : Int) : -1 ≤ nFv n f b ∧ nFv n f b < n 6 := by
  have h1 := nSk_rng n f b
  have hN := hn.1.r
  unfold nFv nSv
  by_cases h : nSk n f b = -1
  · rw [if_pos h]; omega
  · rw [if_neg h]
    have h2 := nSk_en (n := n) (f := f) (b := b) (by omega)
    have h3 := nEn_rng n (nSk n f b) f
    have h4 := (hn.2.2.2 (nSk n f b) (by omega) (by omega)).2.2.2.2.2.2 (nEn n (nSk n f b) f) (by omega) (by omega)
    exact h4.2
section zCls
variable {E : zE} {σ : zW} {d v : Nat} {n : zN}
theorem e8_markReached_L (hW : zWF E) (hu : zU E 0 d = true) (hv : zU E 1 v = true) (hn : nW n) : ∀ (m fuel : Nat) (σ : zW), zRd (σ 0 d) n → (m : Int) ≤ n 3 → m < fuel → f_X8_markReached_L13 fuel (zH E σ) (zL E 1 v 0) (zL E 0 d 0) (zL E 0 d 16) (zI (zb (nGo n (n 3 - m).toNat))) (zI ((m : Int) - 1)) = some (zH E (zr σ 1 v 1 (fun i => if 0 ≤ i ∧ i < (m : Int) then zb (nRe n i) else σ 1 v 1 i))) := by
  have hN' := hn.1.r
  intro m
  induction m with
  | zero =>
    intro fuel σ hR h1 h2
    obtain ⟨f, rfl, h3⟩ := zfuel h2
    simp (disch := first | assumption | omega) only [f_X8_markReached_L13, zz_some, zz_lit, zz_num, zI_lt, zI_le, zI_eq, zI_nat, zz_b, if_pos, if_neg, if_true, if_false]
    rw [zr_self]
    funext j
    first | rfl | rw [if_neg (by omega)]
  | succ m ih =>
    intro fuel σ hR h1 h2
    obtain ⟨f, rfl, h3⟩ := zfuel h2
    have hs := hn.2.2.2 m (by omega) (by omega)
    have hf : σ 0 d 0 5 = n 5 := hR.2.2.2.2
    obtain ⟨t, ht⟩ : ∃ t, (n 3 - ((m + 1 : Nat) : Int)).toNat = t := ⟨_, rfl⟩
    have ht2 : (n 3 - (m : Int)).toNat = t + 1 := by omega
    have hm : nLa n - (t : Int) = m := by unfold nLa; omega
    have hg := nGo_succ n t
    rw [hm] at hg
    have hre : nRe n m = (nGo n t && nIs n m) := by
      unfold nRe
      rw [show (nLa n - (m : Int)).toNat = t by unfold nLa; omega]
    have hih : ∀ x : Int, x = zb (nRe n m) → f_X8_markReached_L13 f (zH E (zs σ 1 v 1 m x)) (zL E 1 v 0) (zL E 0 d 0) (zL E 0 d 16) (zI (zb (nGo n (t + 1)))) (zI ((m : Int) - 1)) = some (zH E (zr σ 1 v 1 (fun i => if 0 ≤ i ∧ i < ((m + 1 : Nat) : Int) then zb (nRe n i) else σ 1 v 1 i))) := by
      intro x hx
      have h4 := ih f (zs σ 1 v 1 m x) (by rw [zs_kd (by omega)]; exact hR) (by omega) (by omega)
      rw [ht2] at h4
      exact h4.trans (congrArg (fun s => some (zH E s)) (zr_down (F := fun i => zb (nRe n i)) hx))
    rw [ht, show (((m + 1 : Nat) : Int) - 1) = (m : Int) by omega]
    have hdir := e5_directoryOf hW hu hR.2.2.1 hn.1 (s := m) (by omega) (by omega)
    rw [if_pos (by omega)] at hdir
    have hlen := e5_directoryLengthOf hW hu hR.2.2.1 hn.1 (s := m) (by omega) (by omega)
    have hcr := e0_canReadDir hW hu hR hn (s := m) (by omega) (by omega)
    have hi : (m : Int) + -1 = (m : Int) - 1 := by omega
    simp (disch := first | assumption | omega) only [f_X8_markReached_L13, f_X8_markReached_J36, zz_dco hW hu, zz_seo hW hu, e5_stateOf hW hu hR.2.2.1 hn.1, zz_some, zz_lit, zz_num, zI_lt, zI_le, zI_eq, zI_nat, zz_b, if_pos, if_neg, if_true, if_false]
    rcases (by omega : nS n m 0 = 0 ∨ nS n m 0 = 1 ∨ nS n m 0 = 2 ∨ nS n m 0 = 3) with h | h | h | h
    · have ht0 : t = 0 := by have := hs.2.1 h; omega
      subst ht0
      have e1 : nIs n m = true := by simp [nIs, h]
      have e2 : nGo n (0 + 1) = true := by rw [hg, e1]; rfl
      have e3 : nRe n m = true := by rw [hre, e1]; rfl
      have h5 := hih 1 (by rw [e3]; rfl)
      rw [e2] at h5
      rw [h]
      simp (disch := first | assumption | omega) only [zz_vwo hW hv, zz_vr hW hv, hi, zz_some, zz_lit, zz_num, zI_lt, zI_le, zI_eq, zI_nat, zz_b, if_pos, if_neg, if_true, if_false]
      exact h5
    · rw [h]
      cases hgt : nGo n t
      · have e2 : nGo n (t + 1) = false := by rw [hg, hgt]; rfl
        have e3 : nRe n m = false := by rw [hre, hgt]; rfl
        have h5 := hih 0 (by rw [e3]; rfl)
        rw [e2] at h5
        simp (disch := first | assumption | omega) only [zz_vwo hW hv, zz_vr hW hv, hi, zz_some, zz_lit, zz_num, zI_lt, zI_le, zI_eq, zI_nat, zz_b, if_pos, if_neg, if_true, if_false]
        exact h5
      · cases hrd : nRdD n m
        · have e1 : nIs n m = false := by simp [nIs, h, hrd]
          have e3 : nRe n m = false := by rw [hre, e1, hgt]; rfl
          have h5 := hih (zb false) (by rw [e3])
          rcases hN'.2.2.2.2.2.1 with h6 | h6
          · have e2 : nGo n (t + 1) = false := by rw [hg, hgt, e1]; simp [h, h6]
            rw [e2] at h5
            simp (disch := first | assumption | omega) only [zz_vwo hW hv, zz_vr hW hv, hi, zz_seo hW hu, zz_blo hW hu, hdir, hlen, hcr, hrd, zz_dc hW hu, zz_dco hW hu, hf, h6, f_X8_markReached_J86, Bool.true_eq_false, zz_some, zz_lit, zz_num, zI_lt, zI_le, zI_eq, zI_nat, zz_b, if_pos, if_neg, if_true, if_false]
            exact h5
          · have e2 : nGo n (t + 1) = true := by rw [hg, hgt, e1]; simp [h, h6]
            rw [e2] at h5
            simp (disch := first | assumption | omega) only [zz_vwo hW hv, zz_vr hW hv, hi, zz_seo hW hu, zz_blo hW hu, hdir, hlen, hcr, hrd, zz_dc hW hu, zz_dco hW hu, hf, h6, f_X8_markReached_J86, Bool.true_eq_false, zz_some, zz_lit, zz_num, zI_lt, zI_le, zI_eq, zI_nat, zz_b, if_pos, if_neg, if_true, if_false]
            exact h5
        · have e1 : nIs n m = true := by simp [nIs, h, hrd]
          have e2 : nGo n (t + 1) = true := by rw [hg, hgt, e1]; rfl
          have e3 : nRe n m = true := by rw [hre, e1, hgt]; rfl
          have h5 := hih (zb true) (by rw [e3])
          rw [e2] at h5
          simp (disch := first | assumption | omega) only [zz_vwo hW hv, zz_vr hW hv, hi, zz_seo hW hu, zz_blo hW hu, hdir, hlen, hcr, hrd, zz_dco hW hu, f_X8_markReached_J86, Bool.true_eq_false, zz_some, zz_lit, zz_num, zI_lt, zI_le, zI_eq, zI_nat, zz_b, if_pos, if_neg, if_true, if_false]
          exact h5
    all_goals
      have e1 : nIs n m = false := by simp [nIs, h]
      have e2 : nGo n (t + 1) = nGo n t := by rw [hg]; simp [h]
      have e3 : nRe n m = false := by rw [hre, e1]; simp
      have h5 := hih 0 (by rw [e3]; rfl)
      rw [e2] at h5
      rw [h]
      simp (disch := first | assumption | omega) only [zz_vwo hW hv, zz_vr hW hv, hi, zz_some, zz_lit, zz_num, zI_lt, zI_le, zI_eq, zI_nat, zz_b, if_pos, if_neg, if_true, if_false]
      exact h5
theorem e8_markReached (hW : zWF E) (hu : zU E 0 d = true) (hv : zU E 1 v = true) (hn : nW n) (hR : zRd (σ 0 d) n) : f_X8_markReached (zH E σ) (zL E 1 v 0) (zL E 0 d 0) = some (zH E (zr σ 1 v 1 (fun i => if 0 ≤ i ∧ i < n 3 then zb (nRe n i) else σ 1 v 1 i))) := by
  have hN' := hn.1.r
  simp (disch := first | assumption | omega) only [f_X8_markReached, zz_dco hW hu, zz_seo hW hu, e5_latest hW hu hR.2.2.1 hn.1, zz_some, zz_lit, zz_num, zI_lt, zI_le, zI_eq, zI_nat, zz_b, if_pos, if_neg, if_true, if_false]
  have h := e8_markReached_L hW hu hv hn (n 3).toNat g_N σ hR (by omega) (by unfold g_N; omega)
  rw [show (((n 3).toNat : Nat) : Int) = n 3 by omega] at h
  rw [show (n 3 - n 3).toNat = 0 by omega] at h
  exact h
theorem e8_isReached (hW : zWF E) (hu : zU E 0 d = true) (hv : zU E 1 v = true) (hn : nW n) {s : Int} (h0 : 0 ≤ s) (h1 : s < 12) {b : Bool} (hb : σ 1 v 1 s = zb b) : f_X8_isReached (zH E σ) (zL E 1 v 0) (zI s) = some (zI (zb b)) := by
  simp (disch := first | assumption | omega) only [f_X8_isReached, zz_vwo hW hv, zz_some, zz_lit, zz_num, zI_lt, zI_le, zI_eq, zI_nat, zz_b, if_pos, if_neg, if_true, if_false]
  rw [zX_isSet (n := 12) hW hv rfl (by decide) (by omega) (by omega) (fun _ _ => by rw [hb]; exact zb_01 b), if_pos ⟨h0, h1⟩, hb]
  exact g_zb b
theorem e8_sessionThatCounts_L (hW : zWF E) (hu : zU E 0 d = true) (hv : zU E 1 v = true) (hn : nW n) (hR : zRd (σ 0 d) n) (hr : ∀ s, 0 ≤ s → s < n 3 → σ 1 v 1 s = zb (nRe n s)) {x : Int} (hx0 : 0 ≤ x) (hx1 : x < 10) : ∀ (m fuel : Nat), (m : Int) ≤ n 3 → m < fuel → f_X8_sessionThatCounts_L5 (zH E σ) fuel (zL E 1 v 0) (zL E 0 d 16) (zI x) (zI ((m : Int) - 1)) = some (zI (zls (fun s => nRe n s && decide (nEn n s x ≠ -1)) m)) := by
  have hN' := hn.1.r
  intro m
  induction m with
  | zero =>
    intro fuel h1 h2
    obtain ⟨f, rfl, h3⟩ := zfuel h2
    simp (disch := first | assumption | omega) only [f_X8_sessionThatCounts_L5, zls, zz_some, zz_lit, zz_num, zI_lt, zI_le, zI_eq, zI_nat, zz_b, if_pos, if_neg, if_true, if_false]
  | succ m ih =>
    intro fuel h1 h2
    obtain ⟨f, rfl, h3⟩ := zfuel h2
    have hi : (m : Int) + -1 = (m : Int) - 1 := by omega
    have he := hn.2.2.2.ent hn.1 (s := m) (by omega) (by omega)
    have hE := nEn_rng n m x
    rw [show (((m + 1 : Nat) : Int) - 1) = (m : Int) by omega]
    simp (disch := first | assumption | omega) only [f_X8_sessionThatCounts_L5, zz_vwo hW hv, zz_seo hW hu, e8_isReached hW hu hv hn (by omega : (0 : Int) ≤ m) (by omega) (hr m (by omega) (by omega)), e5_hasEntry hW hu hR.2.2.1 hn.1 hn.2.2.2, zls, ih, hi, zz_some, zz_lit, zz_num, zI_lt, zI_le, zI_eq, zI_nat, zz_b, if_pos, if_neg, if_true, if_false]
    by_cases h7 : nRe n m = true
    · by_cases h : nEn n m x = -1
      · simp [h, h7]
      · simp [h, h7]
    · simp [h7]
theorem e8_sessionThatCounts (hW : zWF E) (hu : zU E 0 d = true) (hv : zU E 1 v = true) (hn : nW n) (hR : zRd (σ 0 d) n) (hr : ∀ s, 0 ≤ s → s < n 3 → σ 1 v 1 s = zb (nRe n s)) {x y : Int} (hx0 : 0 ≤ x) (hx1 : x < 10) (hy0 : 0 ≤ y) (hy1 : y ≤ n 3) : f_X8_sessionThatCounts (zH E σ) (zL E 1 v 0) (zL E 0 d 16) (zI x) (zI y) = some (zI (nSk n x y)) := by
  have hN' := hn.1.r
  simp (disch := first | assumption | omega) only [f_X8_sessionThatCounts, zz_some, zz_lit, zz_num, zI_lt, zI_le, zI_eq, zI_nat, zz_b, if_pos, if_neg, if_true, if_false]
  rw [show y - 1 = ((y.toNat : Nat) : Int) - 1 by omega, e8_sessionThatCounts_L hW hu hv hn hR hr hx0 hx1 y.toNat _ (by omega) (by unfold g_N; omega)]
  unfold nSk
  rw [show min y (n 3) = y by omega]
theorem nSk_12 (hn : nW n) (x : Int) : nSk n x (n 3) = nSk n x 12 := by
  have hN' := hn.1.r
  unfold nSk
  rw [show min (n 3) (n 3) = min 12 (n 3) by omega]
/-- the version that the entry of the session that counts tells -/
theorem e8_vers (hW : zWF E) (hu : zU E 0 d = true) (hv : zU E 1 v = true) (hn : nW n) (hR : zRd (σ 0 d) n) {x y : Int} (hx0 : 0 ≤ x) (hx1 : x < 10) : f_X5_versionFor (zH E σ) (zL E 0 d 16) (zI (nSk n x y)) (zI x) = some (zI (nFv n x y)) := by
  have hN' := hn.1.r
  have h1 := nSk_rng n x y
  unfold nFv nSv
  by_cases h : nSk n x y = -1
  · rw [h, if_pos rfl, e5_versionFor' hW hu hx0 hx1]
  · have h2 := nSk_en (n := n) (f := x) (b := y) (by omega)
    rw [if_neg h, e5_versionFor hW hu hR.2.2.1 hn.1 hn.2.2.2 (by omega) (by omega) hx0 hx1, if_neg h2.2]
/-- the first m files are held -/
def zVm (κ : Nat → Int → Int) (n : zN) (m : Int) : Prop :=
  κ 0 0 = n 2 ∧ (∀ s, 0 ≤ s → s < n 3 → κ 1 s = zb (nRe n s)) ∧ (∀ f, 0 ≤ f → f < m → κ 2 f = nSk n f 12) ∧ (∀ f, 0 ≤ f → f < m → κ 3 f = nFv n f 12) ∧ (∀ f, 0 ≤ f → f < m → κ 4 f = zb (nGd n f))
theorem e8_lookAt_L (hW : zWF E) (hu : zU E 0 d = true) (hv : zU E 1 v = true) (hn : nW n) : ∀ (m fuel : Nat) (i : Int) (σ : zW), zRd (σ 0 d) n → zVm (σ 1 v) n i → 0 ≤ i → i + m = n 2 → m < fuel → ∃ σ', f_X8_lookAt_L15 fuel (zH E σ) (zL E 1 v 0) (zL E 0 d 0) (zI i) = some (zH E σ', (zL E 1 v 0)) ∧ zFr σ σ' 1 v ∧ zVw (σ' 1 v) n := by
  have hN' := hn.1.r
  intro m
  induction m with
  | zero =>
    intro fuel i σ hR hV h0 h1 h2
    obtain ⟨f, rfl, h3⟩ := zfuel h2
    have hi : i = n 2 := by omega
    subst hi
    refine ⟨σ, ?_, zFr.rf, hV⟩
    have hc := hV.1
    simp (disch := first | assumption | omega) only [f_X8_lookAt_L15, zz_vw hW hv, hc, zz_some, zz_lit, zz_num, zI_lt, zI_le, zI_eq, zI_nat, zz_b, if_pos, if_neg, if_true, if_false]
  | succ m ih =>
    intro fuel i σ hR hV h0 h1 h2
    obtain ⟨f, rfl, h3⟩ := zfuel h2
    have hc := hV.1
    have hr := hV.2.1
    have hF := nFv_rng hn i 12
    obtain ⟨σ1, e1⟩ : ∃ s, s = zs (zs σ 1 v 2 i (nSk n i 12)) 1 v 3 i (nFv n i 12) := ⟨_, rfl⟩
    have hR1 : zRd (σ1 0 d) n := by rw [e1, zs_kd (by omega), zs_kd (by omega)]; exact hR
    have hstep : ∀ b : Bool, b = nGd n i → ∃ σ', f_X8_lookAt_L15 f (zH E (zs σ1 1 v 4 i (zb b))) (zL E 1 v 0) (zL E 0 d 0) (zI (i + 1)) = some (zH E σ', (zL E 1 v 0)) ∧ zFr σ σ' 1 v ∧ zVw (σ' 1 v) n := by
      intro b hb
      obtain ⟨σ', h4, h5, h6⟩ := ih f (i + 1) (zs σ1 1 v 4 i (zb b)) (by rw [zs_kd (by omega)]; exact hR1) (by
        subst e1 hb
        refine ⟨by simp [zs, hc], fun s h4 h5 => by simp [zs, hr s h4 h5], fun g h4 h5 => ?_, fun g h4 h5 => ?_, fun g h4 h5 => ?_⟩
        · by_cases hg : g = i
          · subst hg; simp [zs]
          · simp [zs, hg, hV.2.2.1 g h4 (by omega)]
        · by_cases hg : g = i
          · subst hg; simp [zs]
          · simp [zs, hg, hV.2.2.2.1 g h4 (by omega)]
        · by_cases hg : g = i
          · subst hg; simp [zs]
          · simp [zs, hg, hV.2.2.2.2 g h4 (by omega)]) (by omega) (by omega) (by omega)
      refine ⟨σ', h4, zFr.tr ?_ h5, h6⟩
      subst e1
      exact zFr.tr zFr.zs (zFr.tr zFr.zs zFr.zs)
    simp (disch := first | assumption | omega) only [f_X8_lookAt_L15, zz_vw hW hv, zz_vwo hW hv, hc, zz_dco hW hu, zz_seo hW hu, e5_count hW hu hR.2.2.1 hn.1, e8_sessionThatCounts hW hu hv hn hR hr, nSk_12 hn, e8_vers hW hu hv hn hR, zz_vr hW hv, zz_some, zz_lit, zz_num, zI_lt, zI_le, zI_eq, zI_nat, zz_b, if_pos, if_neg, if_true, if_false]
    rw [← e1]
    by_cases h : nFv n i 12 = -1
    · obtain ⟨σ', h4, h5⟩ := hstep false (by simp [nGd, h])
      refine ⟨σ', ?_, h5⟩
      rw [h]
      simp (disch := first | assumption | omega) only [zz_vwo hW hv, zz_vr hW hv, zz_dco hW hu, e1_canReadVersion' hW hu hR1 hn, zz_some, zz_lit, zz_num, zI_lt, zI_le, zI_eq, zI_nat, zz_b, if_pos, if_neg, if_true, if_false]
      exact h4
    · cases h8 : nRv n (nFv n i 12)
      · obtain ⟨σ', h4, h5⟩ := hstep false (by simp [nGd, h8])
        refine ⟨σ', ?_, h5⟩
        simp (disch := first | assumption | omega) only [zz_vwo hW hv, zz_vr hW hv, zz_dco hW hu, e1_canReadVersion hW hu hR1 hn, h8, zz_some, zz_lit, zz_num, zI_lt, zI_le, zI_eq, zI_nat, zz_b, if_pos, if_neg, if_true, if_false]
        exact h4
      · obtain ⟨σ', h4, h5⟩ := hstep true (by simp [nGd, h8, h])
        refine ⟨σ', ?_, h5⟩
        simp (disch := first | assumption | omega) only [zz_vwo hW hv, zz_vr hW hv, zz_dco hW hu, e1_canReadVersion hW hu hR1 hn, h8, Bool.true_eq_false, zz_some, zz_lit, zz_num, zI_lt, zI_le, zI_eq, zI_nat, zz_b, if_pos, if_neg, if_true, if_false]
        exact h4
theorem e8_lookAt (hW : zWF E) (hu : zU E 0 d = true) (hv : zU E 1 v = true) (hn : nW n) (hR : zRd (σ 0 d) n) : ∃ σ', f_X8_lookAt (zH E σ) (zL E 1 v 0) (zL E 0 d 0) = some (zH E σ', (zL E 1 v 0)) ∧ zFr σ σ' 1 v ∧ zVw (σ' 1 v) n := by
  have hN' := hn.1.r
  have hf : σ 0 d 0 3 = n 2 := hR.2.2.2.1
  obtain ⟨σ1, e1⟩ : ∃ s, s = zs σ 1 v 0 0 (n 2) := ⟨_, rfl⟩
  have hR1 : zRd (σ1 0 d) n := by rw [e1, zs_kd (by omega)]; exact hR
  have h1 := e8_markReached hW hu hv hn (σ := σ1) hR1
  obtain ⟨σ2, e2⟩ : ∃ s, s = zr σ1 1 v 1 (fun i => if 0 ≤ i ∧ i < n 3 then zb (nRe n i) else σ1 1 v 1 i) := ⟨_, rfl⟩
  rw [← e2] at h1
  obtain ⟨σ', h2, h3, h4⟩ := e8_lookAt_L hW hu hv hn (n 2).toNat g_N 0 σ2 (by rw [e2, zr_kd (by omega)]; exact hR1) ⟨by rw [e2, e1]; simp [zs, zr], fun s h5 h6 => by rw [e2]; simp [zr, h5, h6], fun g _ _ => by omega, fun g _ _ => by omega, fun g _ _ => by omega⟩ (by omega) (by omega) (by unfold g_N; omega)
  refine ⟨σ', ?_, zFr.tr (by rw [e2, e1]; exact zFr.tr zFr.zs zFr.zr) h3, h4⟩
  unfold f_X8_lookAt
  rw [show g_i (zH E σ) (zL E 0 d 0) 1 3 = some (zI (n 2)) by rw [← hf]; exact (zz_dc hW hu).2.2.2.1, zz_some]
  simp (disch := first | assumption | omega) only [zz_vw hW hv, zz_vwo hW hv, zz_some, zz_lit, zz_num, zI_lt, zI_le, zI_eq, zI_nat, zz_b, if_pos, if_neg, if_true, if_false]
  rw [← e1]
  simp (disch := first | assumption | omega) only [zz_vwo hW hv, h1, zz_some, zz_lit, zz_num, zI_lt, zI_le, zI_eq, zI_nat, zz_b, if_pos, if_neg, if_true, if_false]
  exact h2
end zCls
end
section
/-! What the views show; risks; space. -/
theorem nS_cg {n n' : zN} (h : ∀ i : Int, 1255 ≤ i → n' i = n i) {s w : Int} (hs : 0 ≤ s) (hw : 0 ≤ w) : nS n' s w = nS n s w := h _ (by omega)
theorem nV_cg {n n' : zN} (h : ∀ i : Int, 775 ≤ i → n' i = n i) {s w : Int} (hs : 0 ≤ s) (hw : 0 ≤ w) : nV n' s w = nV n s w := h _ (by omega)
theorem nEn_cg {n n' : zN} (h : ∀ i : Int, 1255 ≤ i → n' i = n i) {s f : Int} (hs : 0 ≤ s) : nEn n' s f = nEn n s f := by
  unfold nEn
  rw [nS_cg h hs (by omega)]
  exact zfs_congr _ _ (fun k h0 _ => by rw [nS_cg h hs (by omega)])
theorem nWs_cg {n n' : zN} (h : ∀ i : Int, 1255 ≤ i → n' i = n i) (h2 : n' 2 = n 2) (h3 : n' 3 = n 3) (h4 : n 4 ≤ n' 4) (h6 : n 6 ≤ n' 6) (hZ : nWs n) : nWs n' := by
  intro s hs0 hs1
  obtain ⟨a1, a2, a3, a4, a5, a6, a7⟩ := hZ s hs0 (by omega)
  have e : ∀ w, 0 ≤ w → nS n' s w = nS n s w := fun w hw => nS_cg h hs0 hw
  rw [e 0 (by omega), e 1 (by omega), e 2 (by omega), e 3 (by omega), e 4 (by omega), h2, h3]
  refine ⟨a1, a2, a3, ⟨a4.1, ?_⟩, ⟨a5.1, a5.2.1, fun z => by have := a5.2.2 z; omega⟩, ?_, fun k k0 k1 => ?_⟩
  · rw [zcn_congr (Q := fun f => decide (nEn n s f ≠ -1)) _ _ (fun f _ _ => by rw [nEn_cg h hs0])]
    exact a4.2
  · rw [a6, zls_congr (Q := fun t => decide (nS n' t 0 = 1)) (P := fun t => decide (nS n t 0 = 1)) _ (fun t t0 _ => by rw [nS_cg h t0 (by omega)])]
  · rw [e _ (by omega), e _ (by omega)]
    have := a7 k k0 k1
    omega
theorem nWv_cg {n n' : zN} (h : ∀ i : Int, 775 ≤ i → n' i = n i) (h2 : n' 2 = n 2) (h3 : n' 3 = n 3) (h4 : n 4 ≤ n' 4) (h6 : n' 6 = n 6) (hV : nWv n) : nWv n' := by
  refine ⟨by have := hV.1; omega, fun v v0 v1 => ?_⟩
  obtain ⟨a1, a2, a3, a4, a5, a6, a7⟩ := hV.2 v v0 (by omega)
  have e : ∀ w, 0 ≤ w → nV n' v w = nV n v w := fun w hw => nV_cg h v0 hw
  rw [e 0 (by omega), e 1 (by omega), e 2 (by omega), e 3 (by omega), e 4 (by omega), h2, h3]
  refine ⟨a1, a2, a3, by omega, a5, a6, fun s k s0 s1 k0 k1 k2 => ?_⟩
  have e2 : ∀ w, 0 ≤ w → nS n' s w = nS n s w := fun w hw => nS_cg (fun i hi => h i (by omega)) s0 hw
  rw [e2 _ (by omega)] at k1 k2
  rw [e2 _ (by omega)]
  exact a7 s k s0 s1 k0 k1 k2
/-- the state with one block scratched more -/
def nSh (n : zN) (b : Int) : zN := fun i => if i = 199 + b then 1 else n i
def nRk (n : zN) (b : Int) : Int := if n (7 + b) = 0 ∨ n (199 + b) = 1 then 0 else zcn (fun f => nGd n f && !nGd (nSh n b) f) 0 (n 2).toNat
def nUs (n : zN) (b : Int) : Int := if n (7 + b) = 0 then 0 else if n (7 + b) = 1 then (if nFv n (nV n (n (391 + b) - 1) 0) 12 = n (391 + b) - 1 then 1 else 2) else if n (7 + b) = 2 then 3 else 4
def nSp (n : zN) (s u : Int) : Int := zcn (fun b => (decide (s = -1) || decide (n (295 + b) = s + 1)) && decide (nUs n b = u)) 0 (n 0).toNat
def nWe (n : zN) (f : Int) : Int := if nFv n f 12 = -1 then 2 else if nTm n = true then 3 else if n 4 + nDl (nEw n f) ≤ n 0 - n 1 then 0 else 4
theorem nSh_W {n : zN} {b : Int} (hn : nW n) (h0 : 0 ≤ b) (h1 : b < 96) : nW (nSh n b) := by
  have e : ∀ i : Int, i ≠ 199 + b → nSh n b i = n i := fun i hi => by unfold nSh; rw [if_neg hi]
  have e2 : ∀ i : Int, 295 ≤ i → nSh n b i = n i := fun i hi => e i (by omega)
  refine ⟨?_, fun c c0 c1 => ?_, nWv_cg (fun i hi => e2 i (by omega)) (e 2 (by omega)) (e 3 (by omega)) (by rw [e 4 (by omega)]; omega) (e 6 (by omega)) hn.2.2.1, nWs_cg (fun i hi => e2 i (by omega)) (e 2 (by omega)) (e 3 (by omega)) (by rw [e 4 (by omega)]; omega) (by rw [e 6 (by omega)]; omega) hn.2.2.2⟩
  · have := hn.1
    unfold nWn at this ⊢
    rw [e 0 (by omega), e 1 (by omega), e 2 (by omega), e 3 (by omega), e 4 (by omega), e 5 (by omega), e 6 (by omega)]
    exact this
  · have := hn.2.1 c c0 c1
    rw [e (7 + c) (by omega), e (103 + c) (by omega), e (295 + c) (by omega), e (391 + c) (by omega), e (487 + c) (by omega), e (583 + c) (by omega), e (679 + c) (by omega), e 0 (by omega), e 1 (by omega), e 3 (by omega), e 4 (by omega), e 6 (by omega)]
    refine ⟨this.1, this.2.1, ?_, this.2.2.2⟩
    unfold nSh
    split
    · exact Or.inr rfl
    · exact this.2.2.1
theorem nSh_R {ρ ρ' : Nat → Int → Int} {n : zN} {b : Int} (h0 : 0 ≤ b) (h1 : b < 96) (hR : zRd ρ n) (hn : nW n) (h4 : ρ' 4 = fun i => if i = b then 1 else ρ 4 i) (h5 : ∀ c, c ≠ 4 → ρ' c = ρ c) : zRd ρ' (nSh n b) := by
  have e : ∀ i : Int, i ≠ 199 + b → nSh n b i = n i := fun i hi => by unfold nSh; rw [if_neg hi]
  have hN := hn.1.r
  obtain ⟨⟨⟨a1, a2, a3, a4, a5, a6, a7, a8, a9, a10⟩, a11⟩, ⟨b1, b2, b3, b4, b5, b6⟩, ⟨c1, c2, c3, c4, c5, c6, c7, c8⟩, ⟨d1, d2⟩⟩ := hR
  unfold zRd zRb zRk zRv zRs zRf
  rw [h5 0 (by decide), h5 1 (by decide), h5 2 (by decide), h5 3 (by decide), h5 5 (by decide), h5 6 (by decide), h5 7 (by decide), h5 8 (by decide), h5 9 (by decide), h5 10 (by decide), h5 11 (by decide), h5 12 (by decide), h5 13 (by decide), h5 14 (by decide), h5 15 (by decide), h5 16 (by decide), h5 17 (by decide), h5 18 (by decide), h5 19 (by decide), h5 20 (by decide), h5 21 (by decide), h5 22 (by decide), h5 24 (by decide)]
  rw [e 0 (by omega), e 1 (by omega), e 2 (by omega), e 3 (by omega), e 4 (by omega), e 5 (by omega), e 6 (by omega)]
  refine ⟨⟨⟨a1, a2, a3, fun c c0 c1 => ?_, fun c c0 c1 => ?_, fun c c0 c1 => ?_, fun c c0 c1 => ?_, fun c c0 c1 => ?_, fun c c0 c1 => ?_, fun c c0 c1 => ?_⟩, fun c c0 c1 => ?_⟩, ⟨b1, fun w w0 w1 => ?_, fun w w0 w1 => ?_, fun w w0 w1 => ?_, fun w w0 w1 => ?_, fun w w0 w1 => ?_⟩, ⟨c1, fun w w0 w1 => ?_, fun w w0 w1 => ?_, fun w w0 w1 => ?_, fun w w0 w1 => ?_, fun w k w0 w1 k0 k1 => ?_, fun w k w0 w1 k0 k1 => ?_, fun w w0 w1 => ?_⟩, ⟨d1, d2⟩⟩
  · rw [e _ (by omega)]; exact a4 c c0 c1
  · rw [e _ (by omega)]; exact a5 c c0 c1
  · rw [h4]
    show (if c = b then (1 : Int) else ρ 4 c) = nSh n b (199 + c)
    by_cases hc : c = b
    · subst hc; simp [nSh]
    · rw [if_neg hc, e _ (by omega)]; exact a6 c c0 c1
  · rw [e _ (by omega)]; exact a7 c c0 c1
  · rw [e _ (by omega)]; exact a8 c c0 c1
  · rw [e _ (by omega)]; exact a9 c c0 c1
  · rw [e _ (by omega)]; exact a10 c c0 c1
  · rw [a11 c c0 c1]
    unfold nPl
    rw [e _ (by omega)]
  · unfold nV; rw [e _ (by omega)]; exact b2 w w0 w1
  · unfold nV; rw [e _ (by omega)]; exact b3 w w0 w1
  · unfold nV; rw [e _ (by omega)]; exact b4 w w0 w1
  · unfold nV; rw [e _ (by omega)]; exact b5 w w0 w1
  · unfold nV; rw [e _ (by omega)]; exact b6 w w0 w1
  · unfold nS; rw [e _ (by omega)]; exact c2 w w0 w1
  · unfold nS; rw [e _ (by omega)]; exact c3 w w0 w1
  · unfold nS; rw [e _ (by omega)]; exact c4 w w0 w1
  · unfold nS; rw [e _ (by omega)]; exact c5 w w0 w1
  · unfold nS at k1 ⊢; rw [e _ (by omega)] at k1; rw [e _ (by omega)]; exact c6 w k w0 w1 k0 k1
  · have he := (hn.2.2.2 w w0 w1).2.2.2.1.2
    have hz := (zcn_rng (fun f => decide (nEn n w f ≠ -1)) (n 2).toNat 0).2
    rw [nX_cg (n := n) (n' := nSh n b) (s := w) (f := k) (by omega) (by unfold nS; exact e _ (by omega)) (fun x x0 x1 => by unfold nS; exact e _ (by omega))]
    exact c7 w k w0 w1 k0 k1
  · rw [nL_cg (n := n) (n' := nSh n b) (s := w) (by unfold nS; exact e _ (by omega)) (by unfold nS; exact e _ (by omega))]
    exact c8 w w0 w1
section zCls
variable {E : zE} {σ : zW} {d v : Nat} {n : zN}
theorem e8_versionOf (hW : zWF E) (hv : zU E 1 v = true) (hV : zVw (σ 1 v) n) (hn : nW n) {f : Int} (h0 : 0 ≤ f) (h1 : f < n 2) : f_X8_versionOf (zH E σ) (zL E 1 v 0) (zI f) = some (zI (nFv n f 12)) := by
  have hN' := hn.1.r
  simp (disch := first | assumption | omega) only [f_X8_versionOf, zz_vwo hW hv, zz_vr hW hv, zz_some, zz_lit, zz_num, zI_lt, zI_le, zI_eq, zI_nat, zz_b, if_pos, if_neg, if_true, if_false]
  rw [hV.2.2.2.1 f h0 h1]
theorem e8_sessionOf (hW : zWF E) (hv : zU E 1 v = true) (hV : zVw (σ 1 v) n) (hn : nW n) {f : Int} (h0 : 0 ≤ f) (h1 : f < n 2) : f_X8_sessionOf (zH E σ) (zL E 1 v 0) (zI f) = some (zI (nSk n f 12)) := by
  have hN' := hn.1.r
  simp (disch := first | assumption | omega) only [f_X8_sessionOf, zz_vwo hW hv, zz_vr hW hv, zz_some, zz_lit, zz_num, zI_lt, zI_le, zI_eq, zI_nat, zz_b, if_pos, if_neg, if_true, if_false]
  rw [hV.2.2.1 f h0 h1]
theorem e8_isReadable (hW : zWF E) (hv : zU E 1 v = true) (hV : zVw (σ 1 v) n) (hn : nW n) {f : Int} (h0 : 0 ≤ f) (h1 : f < n 2) : f_X8_isReadable (zH E σ) (zL E 1 v 0) (zI f) = some (zI (zb (nGd n f))) := by
  have hN' := hn.1.r
  simp (disch := first | assumption | omega) only [f_X8_isReadable, zz_vwo hW hv, zz_some, zz_lit, zz_num, zI_lt, zI_le, zI_eq, zI_nat, zz_b, if_pos, if_neg, if_true, if_false]
  have h2 := hV.2.2.2.2 f h0 h1
  rw [zX_isSet (n := 10) hW hv rfl (by decide) (by omega) (by omega) (fun _ _ => by rw [h2]; exact zb_01 _), if_pos ⟨h0, by omega⟩, h2]
  exact g_zb _
theorem e8_reached (hW : zWF E) (hv : zU E 1 v = true) (hV : zVw (σ 1 v) n) (hn : nW n) {s : Int} (h0 : 0 ≤ s) (h1 : s < n 3) : f_X8_isReached (zH E σ) (zL E 1 v 0) (zI s) = some (zI (zb (nRe n s))) := by
  have hN' := hn.1.r
  simp (disch := first | assumption | omega) only [f_X8_isReached, zz_vwo hW hv, zz_some, zz_lit, zz_num, zI_lt, zI_le, zI_eq, zI_nat, zz_b, if_pos, if_neg, if_true, if_false]
  have h2 := hV.2.1 s h0 h1
  rw [zX_isSet (n := 12) hW hv rfl (by decide) (by omega) (by omega) (fun _ _ => by rw [h2]; exact zb_01 _), if_pos ⟨h0, by omega⟩, h2]
  exact g_zb _
theorem e8_filesThere_L (hW : zWF E) (hv : zU E 1 v = true) (hV : zVw (σ 1 v) n) (hn : nW n) : ∀ (m fuel : Nat) (acc f : Int), 0 ≤ f → f + m = n 2 → m < fuel → f_X8_filesThere_L4 (zH E σ) fuel (zL E 1 v 0) (zI acc) (zI f) = some (zI (acc + zcn (fun f => decide (nFv n f 12 ≠ -1)) f m)) := by
  have hN' := hn.1.r
  have hc : g_i (zH E σ) (zL E 1 v 0) 8 0 = some (zI (n 2)) := by rw [← hV.1]; exact (zz_vw hW hv).1
  intro m
  induction m with
  | zero =>
    intro fuel acc f h0 h1 h2
    obtain ⟨fu, rfl, h3⟩ := zfuel h2
    simp (disch := first | assumption | omega) only [f_X8_filesThere_L4, hc, zcn, zz_some, zz_lit, zz_num, zI_lt, zI_le, zI_eq, zI_nat, zz_b, if_pos, if_neg, if_true, if_false]
    simp
  | succ m ih =>
    intro fuel acc f h0 h1 h2
    obtain ⟨fu, rfl, h3⟩ := zfuel h2
    have hF := nFv_rng hn f 12
    simp (disch := first | assumption | omega) only [f_X8_filesThere_L4, hc, zz_vwo hW hv, e8_versionOf hW hv hV hn, zcn, ih, zz_some, zz_lit, zz_num, zI_lt, zI_le, zI_eq, zI_nat, zz_b, if_pos, if_neg, if_true, if_false]
    by_cases h : nFv n f 12 = -1
    · rw [if_pos h, zb_dneg (by simp [h])]; congr 2; omega
    · rw [if_neg h, zb_dpos h]; congr 2; omega
theorem e8_filesThere (hW : zWF E) (hv : zU E 1 v = true) (hV : zVw (σ 1 v) n) (hn : nW n) : f_X8_filesThere (zH E σ) (zL E 1 v 0) = some (zI (nTh n 12)) := by
  have hN' := hn.1.r
  unfold f_X8_filesThere nTh
  simp (disch := first | assumption | omega) only [zz_some, zz_lit, zz_num, zI_lt, zI_le, zI_eq, zI_nat, zz_b, if_pos, if_neg, if_true, if_false]
  rw [e8_filesThere_L hW hv hV hn (n 2).toNat _ _ _ (by omega) (by omega) (by unfold g_N; omega)]
  congr 2; omega
theorem e8_filesReadable_L (hW : zWF E) (hv : zU E 1 v = true) (hV : zVw (σ 1 v) n) (hn : nW n) : ∀ (m fuel : Nat) (acc f : Int), 0 ≤ f → f + m = n 2 → m < fuel → f_X8_filesReadable_L4 (zH E σ) fuel (zL E 1 v 0) (zI acc) (zI f) = some (zI (acc + zcn (nGd n) f m)) := by
  have hN' := hn.1.r
  have hc : g_i (zH E σ) (zL E 1 v 0) 8 0 = some (zI (n 2)) := by rw [← hV.1]; exact (zz_vw hW hv).1
  intro m
  induction m with
  | zero =>
    intro fuel acc f h0 h1 h2
    obtain ⟨fu, rfl, h3⟩ := zfuel h2
    simp (disch := first | assumption | omega) only [f_X8_filesReadable_L4, hc, zcn, zz_some, zz_lit, zz_num, zI_lt, zI_le, zI_eq, zI_nat, zz_b, if_pos, if_neg, if_true, if_false]
    simp
  | succ m ih =>
    intro fuel acc f h0 h1 h2
    obtain ⟨fu, rfl, h3⟩ := zfuel h2
    simp (disch := first | assumption | omega) only [f_X8_filesReadable_L4, hc, zz_vwo hW hv, e8_isReadable hW hv hV hn, zcn, ih, zz_some, zz_lit, zz_num, zI_lt, zI_le, zI_eq, zI_nat, zz_b, if_pos, if_neg, if_true, if_false]
    rw [Int.add_assoc]
theorem e8_filesReadable (hW : zWF E) (hv : zU E 1 v = true) (hV : zVw (σ 1 v) n) (hn : nW n) : f_X8_filesReadable (zH E σ) (zL E 1 v 0) = some (zI (nGs n)) := by
  have hN' := hn.1.r
  unfold f_X8_filesReadable nGs
  simp (disch := first | assumption | omega) only [zz_some, zz_lit, zz_num, zI_lt, zI_le, zI_eq, zI_nat, zz_b, if_pos, if_neg, if_true, if_false]
  rw [e8_filesReadable_L hW hv hV hn (n 2).toNat _ _ _ (by omega) (by omega) (by unfold g_N; omega)]
  congr 2; omega
theorem e8_filesThereBefore_L (hW : zWF E) (hu : zU E 0 d = true) (hv : zU E 1 v = true) (hn : nW n) (hR : zRd (σ 0 d) n) (hV : zVw (σ 1 v) n) {y : Int} (hy0 : 0 ≤ y) (hy1 : y ≤ n 3) : ∀ (m fuel : Nat) (acc f : Int), 0 ≤ f → f + m = n 2 → m < fuel → f_X8_filesThereBefore_L5 (zH E σ) fuel (zL E 1 v 0) (zL E 0 d 16) (zI y) (zI acc) (zI f) = some (zI (acc + zcn (fun f => decide (nFv n f y ≠ -1)) f m)) := by
  have hN' := hn.1.r
  have hc : g_i (zH E σ) (zL E 1 v 0) 8 0 = some (zI (n 2)) := by rw [← hV.1]; exact (zz_vw hW hv).1
  have hr := hV.2.1
  intro m
  induction m with
  | zero =>
    intro fuel acc f h0 h1 h2
    obtain ⟨fu, rfl, h3⟩ := zfuel h2
    simp (disch := first | assumption | omega) only [f_X8_filesThereBefore_L5, hc, zcn, zz_some, zz_lit, zz_num, zI_lt, zI_le, zI_eq, zI_nat, zz_b, if_pos, if_neg, if_true, if_false]
    simp
  | succ m ih =>
    intro fuel acc f h0 h1 h2
    obtain ⟨fu, rfl, h3⟩ := zfuel h2
    have hF := nFv_rng hn f y
    simp (disch := first | assumption | omega) only [f_X8_filesThereBefore_L5, hc, zz_vwo hW hv, zz_dco hW hu, zz_seo hW hu, e8_sessionThatCounts hW hu hv hn hR hr, e8_vers hW hu hv hn hR, zcn, ih, zz_some, zz_lit, zz_num, zI_lt, zI_le, zI_eq, zI_nat, zz_b, if_pos, if_neg, if_true, if_false]
    by_cases h : nFv n f y = -1
    · rw [if_pos h, zb_dneg (by simp [h])]; congr 2; omega
    · rw [if_neg h, zb_dpos h]; congr 2; omega
theorem e8_filesThereBefore (hW : zWF E) (hu : zU E 0 d = true) (hv : zU E 1 v = true) (hn : nW n) (hR : zRd (σ 0 d) n) (hV : zVw (σ 1 v) n) {y : Int} (hy0 : 0 ≤ y) (hy1 : y ≤ n 3) : f_X8_filesThereBefore (zH E σ) (zL E 1 v 0) (zL E 0 d 16) (zI y) = some (zI (nTh n y)) := by
  have hN' := hn.1.r
  unfold f_X8_filesThereBefore nTh
  simp (disch := first | assumption | omega) only [zz_some, zz_lit, zz_num, zI_lt, zI_le, zI_eq, zI_nat, zz_b, if_pos, if_neg, if_true, if_false]
  rw [e8_filesThereBefore_L hW hu hv hn hR hV hy0 hy1 (n 2).toNat _ _ _ (by omega) (by omega) (by unfold g_N; omega)]
  congr 2; omega
theorem e1_look (hW : zWF E) (hu : zU E 0 d = true) (hv : zU E 1 d = true) (hn : nW n) (hR : zRd (σ 0 d) n) : ∃ σ', f_X8_lookAt (zH E σ) (zL E 1 d 0) (zL E 0 d 0) = some (zH E σ', zL E 1 d 0) ∧ zFr σ σ' 1 d ∧ zVw (σ' 1 d) n := e8_lookAt hW hu hv hn hR
theorem e1_filesLostBy_L (hW : zWF E) (hu : zU E 0 d = true) (hv : zU E 1 v = true) {w : Nat} (hw : zU E 1 w = true) (hn : nW n) {n' : zN} (hn' : nW n') (h2' : n' 2 = n 2) (hf : σ 0 d 0 3 = n 2) (hV : zVw (σ 1 v) n) (hV' : zVw (σ 1 w) n') : ∀ (m fuel : Nat) (acc f : Int), 0 ≤ f → f + m = n 2 → m < fuel → f_X1_filesLostBy_L60 fuel (zH E σ) (zL E 0 d 0) (zL E 1 v 0) (zL E 1 w 0) (zI acc) (zI f) = some ((zH E σ), zI (acc + zcn (fun f => nGd n f && !nGd n' f) f m)) := by
  have hN' := hn.1.r
  have hc : g_i (zH E σ) (zL E 0 d 0) 1 3 = some (zI (n 2)) := by rw [← hf]; exact (zz_dc hW hu).2.2.2.1
  intro m
  induction m with
  | zero =>
    intro fuel acc f h0 h1 h2
    obtain ⟨fu, rfl, h3⟩ := zfuel h2
    simp (disch := first | assumption | omega) only [f_X1_filesLostBy_L60, hc, zcn, zz_some, zz_lit, zz_num, zI_lt, zI_le, zI_eq, zI_nat, zz_b, if_pos, if_neg, if_true, if_false]
    simp
  | succ m ih =>
    intro fuel acc f h0 h1 h2
    obtain ⟨fu, rfl, h3⟩ := zfuel h2
    simp (disch := first | assumption | omega) only [f_X1_filesLostBy_L60, hc, zz_vwo hW hv, zz_vwo hW hw, e8_isReadable hW hv hV hn, e8_isReadable hW hw hV' hn', zcn, ih, zz_some, zz_lit, zz_num, zI_lt, zI_le, zI_eq, zI_nat, zz_b, if_pos, if_neg, if_true, if_false]
    by_cases h : nGd n f = true
    · by_cases h5 : nGd n' f = true
      · simp [h, h5, zb]
      · simp [h, h5, zb]; congr 1; omega
    · simp [h, zb]
theorem e1_filesLostBy (hW : zWF E) (hu : zU E 0 d = true) (hv : zU E 1 d = true) (hn : nW n) (hR : zRd (σ 0 d) n) {w : Nat} (hw : zU E 1 w = true) (hwd : w ≠ d) (hV : zVw (σ 1 d) n) {b : Int} (h0 : 0 ≤ b) (h1 : b < n 0) : ∃ σ', f_X1_filesLostBy (zH E σ) (zL E 0 d 0) (zI b) (zL E 1 d 0) (zL E 1 w 0) = some (zH E σ', zI (nRk n b)) ∧ zFr σ σ' 1 w := by
  have hN' := hn.1.r
  have hb := hn.2.1 b h0 (by omega)
  unfold nRk
  by_cases hk : n (7 + b) = 0
  · refine ⟨σ, ?_, zFr.rf⟩
    simp (disch := first | assumption | omega) only [f_X1_filesLostBy, zz_dco hW hu, zz_blo hW hu, e0_kindOf hW hu hR.1.1 hn.1 hn.2.1, hk, Or.inl, zz_some, zz_lit, zz_num, zI_lt, zI_le, zI_eq, zI_nat, zz_b, if_pos, if_neg, if_true, if_false]
    simp
  · by_cases hs : n (199 + b) = 1
    · refine ⟨σ, ?_, zFr.rf⟩
      simp (disch := first | assumption | omega) only [f_X1_filesLostBy, zz_dco hW hu, zz_blo hW hu, e0_kindOf hW hu hR.1.1 hn.1 hn.2.1, e0_isUnreadable' hW hu hR.1.1 hn.1 hn.2.1, hs, zz_some, zz_lit, zz_num, zI_lt, zI_le, zI_eq, zI_nat, zz_b, if_pos, if_neg, if_true, if_false]
      simp
    · have hs0 : n (199 + b) = 0 := by omega
      obtain ⟨σ1, e1⟩ : ∃ s, s = zs σ 0 d 4 b 1 := ⟨_, rfl⟩
      have hR1 : zRd (σ1 0 d) (nSh n b) := nSh_R h0 (by omega) hR hn (by rw [e1]; funext i; exact zs_at) (fun c hc => by rw [e1]; exact zs_ne (fun z => hc z.2.2))
      have hn1 := nSh_W hn h0 (b := b) (by omega)
      obtain ⟨σ2, h2, h3, h4⟩ := e8_lookAt hW hu hw hn1 hR1
      obtain ⟨σ3, e3⟩ : ∃ s, s = zs σ2 0 d 4 b 0 := ⟨_, rfl⟩
      have hrow : σ 0 d 4 b = 0 := by rw [hR.1.1.2.2.2.2.2.1 b h0 (by omega)]; exact hs0
      have h30 : σ3 0 d = σ 0 d := by
        funext c i
        subst e3
        have h5 : σ2 0 d = σ1 0 d := h3 0 d (by omega)
        by_cases hz : c = 4 ∧ i = b
        · obtain ⟨rfl, rfl⟩ := hz
          simp [zs, hrow]
        · have h6 : zs σ2 0 d 4 b 0 0 d c i = σ2 0 d c i := by simp [zs, hz]
          rw [h6, h5, e1]
          simp [zs, hz]
      have hF : zFr σ σ3 1 w := by
        intro k' d' hz
        by_cases hkd : k' = 0 ∧ d' = d
        · obtain ⟨rfl, rfl⟩ := hkd
          exact h30
        · rw [e3, zs_kd hkd, h3 k' d' hz, e1, zs_kd hkd]
      have hV3 : zVw (σ3 1 d) n := by rw [hF 1 d (by omega)]; exact hV
      have hV3' : zVw (σ3 1 w) (nSh n b) := by rw [e3, zs_kd (by omega)]; exact h4
      have hc3 : σ3 0 d 0 3 = n 2 := by rw [h30]; exact hR.2.2.2.1
      refine ⟨σ3, ?_, hF⟩
      simp (disch := first | assumption | omega) only [f_X1_filesLostBy, zz_dco hW hu, zz_blo hW hu, e0_kindOf hW hu hR.1.1 hn.1 hn.2.1, e0_isUnreadable' hW hu hR.1.1 hn.1 hn.2.1, zz_dr hW hu, zz_some, zz_lit, zz_num, zI_lt, zI_le, zI_eq, zI_nat, zz_b, if_pos, if_neg, if_true, if_false]
      rw [← e1]
      simp (disch := first | assumption | omega) only [zz_vwo hW hw, h2, zz_dco hW hu, zz_blo hW hu, zz_dr hW hu, zz_some, zz_lit, zz_num, zI_lt, zI_le, zI_eq, zI_nat, zz_b, if_pos, if_neg, if_true, if_false]
      rw [← e3, e1_filesLostBy_L hW hu hv hw hn hn1 (by unfold nSh; rw [if_neg (by omega)]) hc3 hV3 hV3' (n 2).toNat _ _ _ (by omega) (by omega) (by unfold g_N; omega)]
      simp [hk, hs]
theorem e1_useOf (hW : zWF E) (hu : zU E 0 d = true) (hv : zU E 1 d = true) (hn : nW n) (hR : zRd (σ 0 d) n) (hV : zVw (σ 1 d) n) {b : Int} (h0 : 0 ≤ b) (h1 : b < n 0) : f_X1_useOf (zH E σ) (zL E 0 d 0) (zI b) (zL E 1 d 0) = some (zI (nUs n b)) := by
  have hN' := hn.1.r
  have hb := hn.2.1 b h0 (by omega)
  simp (disch := first | assumption | omega) only [f_X1_useOf, zz_dco hW hu, zz_blo hW hu, e0_kindOf hW hu hR.1.1 hn.1 hn.2.1, zz_some, zz_lit, zz_num, zI_lt, zI_le, zI_eq, zI_nat, zz_b, if_pos, if_neg, if_true, if_false]
  unfold nUs
  rcases (by omega : n (7 + b) = 0 ∨ n (7 + b) = 1 ∨ n (7 + b) = 2 ∨ n (7 + b) = 3) with h | h | h | h
  · simp [h]
  · have hv1 := hb.2.2.2.2.2.2.2.2.1 h
    have hver := hn.2.2.1.2 (n (391 + b) - 1) (by omega) (by omega)
    have hF := nFv_rng hn (nV n (n (391 + b) - 1) 0) 12
    rw [h]
    simp (disch := first | assumption | omega) only [f_X1_useOf_J46, zz_dco hW hu, zz_blo hW hu, zz_vso hW hu, zz_vwo hW hv, e0_dataVersionOf hW hu hR.1.1 hn.1 hn.2.1, e7_fileOf hW hu hR.2.1 hn.1, e8_versionOf hW hv hV hn, zz_some, zz_lit, zz_num, zI_lt, zI_le, zI_eq, zI_nat, zz_b, if_pos, if_neg, if_true, if_false]
    split <;> rfl
  · simp [h]
  · simp [h]
theorem nUs_rng (n : zN) (b : Int) : 0 ≤ nUs n b ∧ nUs n b ≤ 4 := by
  unfold nUs
  split
  · omega
  · split
    · split <;> omega
    · split <;> omega
theorem e1_blocksUsed_L (hW : zWF E) (hu : zU E 0 d = true) (hv : zU E 1 d = true) (hn : nW n) (hR : zRd (σ 0 d) n) (hV : zVw (σ 1 d) n) {s u : Int} (hs0 : -1 ≤ s) (hs1 : s < 100) (hu0 : 0 ≤ u) (hu1 : u ≤ 4) : ∀ (m fuel : Nat) (acc b : Int), 0 ≤ b → b + m = n 0 → m < fuel → f_X1_blocksUsed_L15 fuel (zH E σ) (zL E 0 d 0) (zI s) (zI u) (zL E 1 d 0) (zI acc) (zI b) = some ((zH E σ), zI (acc + zcn (fun b => (decide (s = -1) || decide (n (295 + b) = s + 1)) && decide (nUs n b = u)) b m)) := by
  have hN' := hn.1.r
  intro m
  induction m with
  | zero =>
    intro fuel acc b h0 h1 h2
    obtain ⟨f, rfl, h3⟩ := zfuel h2
    simp (disch := first | assumption | omega) only [f_X1_blocksUsed_L15, zz_dco hW hu, zz_blo hW hu, e0_count hW hu hR.1.1 hn.1 hn.2.1, zcn, zz_some, zz_lit, zz_num, zI_lt, zI_le, zI_eq, zI_nat, zz_b, if_pos, if_neg, if_true, if_false]
    simp
  | succ m ih =>
    intro fuel acc b h0 h1 h2
    obtain ⟨f, rfl, h3⟩ := zfuel h2
    have hb := hn.2.1 b h0 (by omega)
    have hus := nUs_rng n b
    simp (disch := first | assumption | omega) only [f_X1_blocksUsed_L15, f_X1_blocksUsed_J50, zz_dco hW hu, zz_blo hW hu, e0_count hW hu hR.1.1 hn.1 hn.2.1, e0_writerOf hW hu hR.1.1 hn.1 hn.2.1, e1_useOf hW hu hv hn hR hV, zcn, ih, zz_some, zz_lit, zz_num, zI_lt, zI_le, zI_eq, zI_nat, zz_b, if_pos, if_neg, if_true, if_false]
    by_cases ha : s = -1
    · by_cases hc : nUs n b = u
      · simp [ha, hc, zb]; congr 1; omega
      · simp [ha, hc, zb]
    · by_cases hw : n (295 + b) = s + 1
      · by_cases hc : nUs n b = u
        · rw [if_neg ha, if_pos (by omega), if_pos hc]
          simp [ha, hc, hw, zb]; congr 1; omega
        · rw [if_neg ha, if_pos (by omega), if_neg hc]
          simp [ha, hc, hw, zb]
      · rw [if_neg ha, if_neg (by omega)]
        simp [ha, hw, zb]
theorem e1_blocksUsed (hW : zWF E) (hu : zU E 0 d = true) (hv : zU E 1 d = true) (hn : nW n) (hR : zRd (σ 0 d) n) {s u : Int} (hs0 : -1 ≤ s) (hs1 : s < 100) (hu0 : 0 ≤ u) (hu1 : u ≤ 4) : ∃ σ', f_X1_blocksUsed (zH E σ) (zL E 0 d 0) (zI s) (zI u) = some (zH E σ', zI (nSp n s u)) ∧ zFr σ σ' 1 d := by
  have hN' := hn.1.r
  obtain ⟨σ', h1, h2, h3⟩ := e1_look hW hu hv hn hR
  refine ⟨σ', ?_, h2⟩
  simp (disch := first | assumption | omega) only [f_X1_blocksUsed, zz_dco hW hu, zz_vwo hW hv, h1, zz_some, zz_lit, zz_num, zI_lt, zI_le, zI_eq, zI_nat, zz_b, if_pos, if_neg, if_true, if_false]
  rw [e1_blocksUsed_L hW hu hv hn (by rw [h2 0 d (by omega)]; exact hR) h3 hs0 hs1 hu0 hu1 (n 0).toNat _ _ _ (by omega) (by omega) (by unfold g_N; omega)]
  simp [nSp]
theorem e1_reasonAgainstErase (hW : zWF E) (hu : zU E 0 d = true) (hv : zU E 1 d = true) (hn : nW n) (hR : zRd (σ 0 d) n) {x : Int} (hx0 : 0 ≤ x) (hx1 : x < n 2) : ∃ σ', f_X1_reasonAgainstErase (zH E σ) (zL E 0 d 0) (zI x) = some (zH E σ', zI (nWe n x)) ∧ zFr σ σ' 1 d := by
  have hN' := hn.1.r
  obtain ⟨σ', h1, h2, h3⟩ := e1_look hW hu hv hn hR
  have hR' : zRd (σ' 0 d) n := by rw [h2 0 d (by omega)]; exact hR
  have he := nEw_rng hn x
  have hd := nDl_rng he.1 (by omega)
  have hF := nFv_rng hn x 12
  have hz : ∀ G : gH, f_X9_directoryLength G (zI (nEw n x)) = some (zI (nDl (nEw n x))) := nDl_z he.1 (by omega)
  refine ⟨σ', ?_, h2⟩
  unfold nWe
  simp (disch := first | assumption | omega) only [f_X1_reasonAgainstErase, zz_dco hW hu, zz_blo hW hu, zz_seo hW hu, zz_vwo hW hv, h1, e8_versionOf hW hv h3 hn, e5_oneMoreIsTooMany hW hu hR'.2.2.1 hn.1 hn.2.2.2, e5_entriesWith hW hu hR'.2.2.1 hn.1 hn.2.2.2, hz, e0_hasRoomFor hW hu hR'.1.1 hn.1 hn.2.1, zz_some, zz_lit, zz_num, zI_lt, zI_le, zI_eq, zI_nat, zz_b, if_pos, if_neg, if_true, if_false]
  by_cases h : nFv n x 12 = -1
  · simp [h]
  · by_cases h5 : nTm n = true
    · simp [h, h5]
    · by_cases h6 : n 4 + nDl (nEw n x) ≤ n 0 - n 1
      · simp [h, h5, h6]
      · simp [h, h5, h6]
end zCls
end
section
/-! Writing, on the row n: blocks. -/
def zu (n : zN) (i v : Int) : zN := fun j => if j = i then v else n j
theorem zu_eq {n : zN} {i v j : Int} (h : j = i) : zu n i v j = v := by unfold zu; rw [if_pos h]
theorem zu_ne {n : zN} {i v j : Int} (h : j ≠ i) : zu n i v j = n j := by unfold zu; rw [if_neg h]
def nLay (n : zN) (b kind se v k : Int) : zN := zu (zu (zu (zu n (7 + b) kind) (295 + b) (se + 1)) (391 + b) (v + 1)) (487 + b) (k + 1)
def nTks (n : zN) (se s : Int) : Nat → zN × Int
  | 0 => (n, s)
  | m + 1 => if n (7 + s) = 0 then (if n (103 + s) = 0 then (n, s) else nTks (nLay n s 3 se (-1) (-1)) se (s + 1) m) else nTks n se (s + 1) m
def nWrB (n : zN) (kind se v k : Int) : zN :=
  if n (103 + n 4) = 0 then nLay (zu n 4 (n 4 + 1)) (n 4) kind se v k
  else zu (zu (nLay (nTks (nLay (zu n 4 (n 4 + 1)) (n 4) 3 se (-1) (-1)) se (n 0 - n 1) (n 1).toNat).1 (nTks (nLay (zu n 4 (n 4 + 1)) (n 4) 3 se (-1) (-1)) se (n 0 - n 1) (n 1).toNat).2 kind se v k) (583 + (nTks (nLay (zu n 4 (n 4 + 1)) (n 4) 3 se (-1) (-1)) se (n 0 - n 1) (n 1).toNat).2) (n 4 + 1)) (679 + n 4) ((nTks (nLay (zu n 4 (n 4 + 1)) (n 4) 3 se (-1) (-1)) se (n 0 - n 1) (n 1).toNat).2 + 1)
def nWl (kind se v : Int) : zN → Int → Nat → zN
  | n, _, 0 => n
  | n, k, m + 1 => nWl kind se v (nWrB n kind se v k) (k + 1) m
def nGc (n : zN) : Int := zcn (fun b => decide (n (7 + b) = 0) && decide (n (103 + b) = 0)) (n 0 - n 1) (n 1).toNat
def nBc (n : zN) (k : Nat) : Int := zcn (fun b => decide (n (103 + b) = 1)) (n 4) k
theorem nHs_iff (n : zN) (m : Int) : nHs n m = true ↔ nBc n m.toNat ≤ nGc n := by
  unfold nHs nBc nGc
  exact decide_eq_true_iff
theorem nLay_at (n : zN) {b kind se v k : Int} (hb0 : 0 ≤ b) (hb1 : b < 96) {c : Int} (h0 : 0 ≤ c) (h1 : c < 96) : nLay n b kind se v k (7 + c) = (if c = b then kind else n (7 + c)) ∧ nLay n b kind se v k (295 + c) = (if c = b then se + 1 else n (295 + c)) ∧ nLay n b kind se v k (391 + c) = (if c = b then v + 1 else n (391 + c)) ∧ nLay n b kind se v k (487 + c) = (if c = b then k + 1 else n (487 + c)) := by
  unfold nLay
  by_cases h : c = b
  · subst h
    simp only [if_true]
    refine ⟨?_, ?_, ?_, ?_⟩ <;> simp (disch := omega) only [zu_eq, zu_ne]
  · simp only [if_neg h]
    refine ⟨?_, ?_, ?_, ?_⟩ <;> simp (disch := omega) only [zu_eq, zu_ne]
theorem nLay_out (n : zN) {b kind se v k : Int} (hb0 : 0 ≤ b) (hb1 : b < 96) {i : Int} (h : i < 7 ∨ (103 ≤ i ∧ i < 295) ∨ 583 ≤ i) : nLay n b kind se v k i = n i := by
  unfold nLay
  simp (disch := omega) only [zu_ne]
theorem nTks_out (se : Int) : ∀ (m : Nat) (n : zN) (s : Int), 0 ≤ s → s + m ≤ 96 → ∀ i : Int, i < 7 ∨ (103 ≤ i ∧ i < 295) ∨ 583 ≤ i → (nTks n se s m).1 i = n i := by
  intro m
  induction m with
  | zero => intro n s _ _ i _; rfl
  | succ m ih =>
    intro n s h0 h1 i hi
    unfold nTks
    split
    · split
      · rfl
      · rw [ih _ _ (by omega) (by omega) i hi, nLay_out n h0 (by omega) hi]
    · rw [ih _ _ (by omega) (by omega) i hi]
theorem nTks_P (se : Int) : ∀ (m : Nat) (n : zN) (s : Int), 0 ≤ s → s + m ≤ 96 →
    (s ≤ (nTks n se s m).2 ∧ (nTks n se s m).2 ≤ s + m) ∧ ((nTks n se s m).2 < s + m → n (7 + (nTks n se s m).2) = 0 ∧ n (103 + (nTks n se s m).2) = 0) ∧ (∀ c, s ≤ c → c < (nTks n se s m).2 → n (7 + c) = 0 → n (103 + c) ≠ 0) ∧
    (∀ c, 0 ≤ c → c < 96 → (nTks n se s m).1 (7 + c) = (if s ≤ c ∧ c < (nTks n se s m).2 ∧ n (7 + c) = 0 then 3 else n (7 + c)) ∧ (nTks n se s m).1 (295 + c) = (if s ≤ c ∧ c < (nTks n se s m).2 ∧ n (7 + c) = 0 then se + 1 else n (295 + c)) ∧ (nTks n se s m).1 (391 + c) = (if s ≤ c ∧ c < (nTks n se s m).2 ∧ n (7 + c) = 0 then 0 else n (391 + c)) ∧ (nTks n se s m).1 (487 + c) = (if s ≤ c ∧ c < (nTks n se s m).2 ∧ n (7 + c) = 0 then 0 else n (487 + c))) := by
  intro m
  induction m with
  | zero =>
    intro n s h0 h1
    have e : nTks n se s 0 = (n, s) := rfl
    rw [e]
    refine ⟨⟨by simp, by simp⟩, fun h => by simp at h, fun c h2 h3 => by simp at h3; omega, fun c h2 h3 => ?_⟩
    simp only
    rw [if_neg (by omega), if_neg (by omega), if_neg (by omega), if_neg (by omega)]
    exact ⟨rfl, rfl, rfl, rfl⟩
  | succ m ih =>
    intro n s h0 h1
    by_cases hk : n (7 + s) = 0
    · by_cases hb : n (103 + s) = 0
      · have e : nTks n se s (m + 1) = (n, s) := by rw [nTks, if_pos hk, if_pos hb]
        rw [e]
        refine ⟨⟨by simp, by simp; omega⟩, fun _ => ⟨hk, hb⟩, fun c h2 h3 => by simp at h3; omega, fun c h2 h3 => ?_⟩
        simp only
        rw [if_neg (by omega), if_neg (by omega), if_neg (by omega), if_neg (by omega)]
        exact ⟨rfl, rfl, rfl, rfl⟩
      · have e : nTks n se s (m + 1) = nTks (nLay n s 3 se (-1) (-1)) se (s + 1) m := by rw [nTks, if_pos hk, if_neg hb]
        rw [e]
        obtain ⟨a1, a2, a3, a4⟩ := ih (nLay n s 3 se (-1) (-1)) (s + 1) (by omega) (by omega)
        obtain ⟨t, ht⟩ : ∃ t, (nTks (nLay n s 3 se (-1) (-1)) se (s + 1) m).2 = t := ⟨_, rfl⟩
        rw [ht] at a1 a2 a3
        simp only [ht] at a4
        rw [ht]
        have hl : ∀ c, 0 ≤ c → c < 96 → c ≠ s → nLay n s 3 se (-1) (-1) (7 + c) = n (7 + c) ∧ nLay n s 3 se (-1) (-1) (295 + c) = n (295 + c) ∧ nLay n s 3 se (-1) (-1) (391 + c) = n (391 + c) ∧ nLay n s 3 se (-1) (-1) (487 + c) = n (487 + c) := fun c h2 h3 h4 => by
          have := nLay_at n (b := s) (kind := 3) (se := se) (v := -1) (k := -1) h0 (by omega) h2 h3
          simpa only [if_neg h4] using this
        have hls := nLay_at n (b := s) (kind := 3) (se := se) (v := -1) (k := -1) h0 (by omega) h0 (by omega : s < 96)
        simp only [if_true] at hls
        have hl2 : ∀ c, 0 ≤ c → c < 96 → nLay n s 3 se (-1) (-1) (103 + c) = n (103 + c) := fun c h2 h3 => nLay_out n h0 (by omega) (by omega)
        refine ⟨by omega, fun h => ?_, fun c h2 h3 h4 => ?_, fun c h2 h3 => ?_⟩
        · have := a2 (by omega)
          rw [(hl t (by omega) (by omega) (by omega)).1, hl2 t (by omega) (by omega)] at this
          exact this
        · by_cases hc : c = s
          · subst hc; exact hb
          · have := a3 c (by omega) h3
            rw [(hl c (by omega) (by omega) hc).1, hl2 c (by omega) (by omega)] at this
            exact this h4
        · have h5 := a4 c h2 h3
          by_cases hc : c = s
          · subst hc
            rw [if_neg (by omega), if_neg (by omega), if_neg (by omega), if_neg (by omega)] at h5
            have h6 : c ≤ c ∧ c < t ∧ n (7 + c) = 0 := ⟨by omega, by omega, hk⟩
            rw [if_pos h6, if_pos h6, if_pos h6, if_pos h6]
            exact ⟨h5.1.trans hls.1, h5.2.1.trans hls.2.1, h5.2.2.1.trans hls.2.2.1, h5.2.2.2.trans hls.2.2.2⟩
          · have h6 := hl c h2 h3 hc
            rw [h6.1, h6.2.1, h6.2.2.1, h6.2.2.2] at h5
            by_cases h7 : s + 1 ≤ c ∧ c < t ∧ n (7 + c) = 0
            · rw [if_pos h7, if_pos h7, if_pos h7, if_pos h7] at h5
              have h8 : s ≤ c ∧ c < t ∧ n (7 + c) = 0 := ⟨by omega, h7.2⟩
              rw [if_pos h8, if_pos h8, if_pos h8, if_pos h8]
              exact h5
            · rw [if_neg h7, if_neg h7, if_neg h7, if_neg h7] at h5
              have h8 : ¬ (s ≤ c ∧ c < t ∧ n (7 + c) = 0) := fun z => h7 ⟨by omega, z.2⟩
              rw [if_neg h8, if_neg h8, if_neg h8, if_neg h8]
              exact h5
    · have e : nTks n se s (m + 1) = nTks n se (s + 1) m := by rw [nTks, if_neg hk]
      rw [e]
      obtain ⟨a1, a2, a3, a4⟩ := ih n (s + 1) (by omega) (by omega)
      obtain ⟨t, ht⟩ : ∃ t, (nTks n se (s + 1) m).2 = t := ⟨_, rfl⟩
      rw [ht] at a1 a2 a3
      simp only [ht] at a4
      rw [ht]
      refine ⟨by omega, fun h => a2 (by omega), fun c h2 h3 h4 => ?_, fun c h2 h3 => ?_⟩
      · by_cases hc : c = s
        · subst hc; exact absurd h4 hk
        · exact a3 c (by omega) h3 h4
      · have h5 := a4 c h2 h3
        by_cases h7 : s + 1 ≤ c ∧ c < t ∧ n (7 + c) = 0
        · rw [if_pos h7, if_pos h7, if_pos h7, if_pos h7] at h5
          have h8 : s ≤ c ∧ c < t ∧ n (7 + c) = 0 := ⟨by omega, h7.2⟩
          rw [if_pos h8, if_pos h8, if_pos h8, if_pos h8]
          exact h5
        · rw [if_neg h7, if_neg h7, if_neg h7, if_neg h7] at h5
          have h8 : ¬ (s ≤ c ∧ c < t ∧ n (7 + c) = 0) := fun z => h7 ⟨by
            by_cases hc : c = s
            · subst hc; exact absurd z.2.2 hk
            · omega, z.2⟩
          rw [if_neg h8, if_neg h8, if_neg h8, if_neg h8]
          exact h5
theorem zcn_ex {P : Int → Bool} : ∀ (k : Nat) (lo : Int), 1 ≤ zcn P lo k → ∃ i, lo ≤ i ∧ i < lo + k ∧ P i = true := by
  intro k
  induction k with
  | zero => intro lo h; simp [zcn] at h
  | succ k ih =>
    intro lo h
    cases hp : P lo
    · rw [zcn, hp] at h
      obtain ⟨i, h1, h2, h3⟩ := ih (lo + 1) (by simpa [zb] using h)
      exact ⟨i, by omega, by omega, h3⟩
    · exact ⟨lo, by omega, by omega, hp⟩
/-- what one block's writing does to the row: t is where it goes, the blocks of 'hit' fail on the way -/
theorem nWrB_spec {n : zN} (hN : nWn n) (hB : nWb n) (kind se v k : Int) (hr : n 4 < n 0 - n 1) (hg : n (103 + n 4) = 1 → 1 ≤ nGc n) :
    ∃ (t : Int) (hit : Int → Prop), (n (103 + n 4) = 0 → t = n 4 ∧ ∀ c, ¬ hit c) ∧ (n (103 + n 4) = 1 → n 0 - n 1 ≤ t ∧ t < n 0 ∧ n (7 + t) = 0 ∧ n (103 + t) = 0 ∧ t = (nTks (nLay (zu n 4 (n 4 + 1)) (n 4) 3 se (-1) (-1)) se (n 0 - n 1) (n 1).toNat).2) ∧ (∀ c, hit c → n 0 - n 1 ≤ c ∧ c < t ∧ n (7 + c) = 0 ∧ n (103 + c) = 1) ∧
    (∀ c, 0 ≤ c → c < 96 → (nWrB n kind se v k (7 + c) = kind ∧ c = t ∨ nWrB n kind se v k (7 + c) = 3 ∧ c ≠ t ∧ (c = n 4 ∨ hit c) ∨ nWrB n kind se v k (7 + c) = n (7 + c) ∧ c ≠ t ∧ c ≠ n 4 ∧ ¬ hit c) ∧ (nWrB n kind se v k (295 + c) = se + 1 ∧ (c = t ∨ c = n 4 ∨ hit c) ∨ nWrB n kind se v k (295 + c) = n (295 + c) ∧ c ≠ t ∧ c ≠ n 4 ∧ ¬ hit c) ∧ (nWrB n kind se v k (391 + c) = v + 1 ∧ c = t ∨ nWrB n kind se v k (391 + c) = n (391 + c) ∧ c ≠ t) ∧ (nWrB n kind se v k (487 + c) = k + 1 ∧ c = t ∨ nWrB n kind se v k (487 + c) = n (487 + c) ∧ c ≠ t) ∧ (nWrB n kind se v k (583 + c) = n 4 + 1 ∧ c = t ∧ t ≠ n 4 ∨ nWrB n kind se v k (583 + c) = n (583 + c) ∧ (c ≠ t ∨ t = n 4)) ∧ (nWrB n kind se v k (679 + c) = t + 1 ∧ c = n 4 ∧ t ≠ n 4 ∨ nWrB n kind se v k (679 + c) = n (679 + c) ∧ (c ≠ n 4 ∨ t = n 4))) ∧
    nWrB n kind se v k 4 = n 4 + 1 ∧ (∀ i, i ≠ 4 → i < 7 ∨ (103 ≤ i ∧ i < 295) ∨ 775 ≤ i → nWrB n kind se v k i = n i) := by
  have hN' := hN
  unfold nWn at hN'
  have hb := hB (n 4) (by omega) (by omega)
  rcases hb.2.1 with hz | hz
  · refine ⟨n 4, fun _ => False, fun _ => ⟨rfl, fun _ z => z⟩, fun z => by omega, fun c z => z.elim, fun c h0 h1 => ?_, ?_, fun i hi4 hi => ?_⟩
    · have e : nWrB n kind se v k = nLay (zu n 4 (n 4 + 1)) (n 4) kind se v k := by unfold nWrB; rw [if_pos hz]
      rw [e]
      have hl := nLay_at (zu n 4 (n 4 + 1)) (b := n 4) (kind := kind) (se := se) (v := v) (k := k) (by omega) (by omega) h0 h1
      have ho : ∀ i : Int, i ≠ 4 → zu n 4 (n 4 + 1) i = n i := fun i hi => zu_ne hi
      have h2 : nLay (zu n 4 (n 4 + 1)) (n 4) kind se v k (583 + c) = n (583 + c) := by rw [nLay_out _ (by omega) (by omega) (by omega), ho _ (by omega)]
      have h3 : nLay (zu n 4 (n 4 + 1)) (n 4) kind se v k (679 + c) = n (679 + c) := by rw [nLay_out _ (by omega) (by omega) (by omega), ho _ (by omega)]
      rw [hl.1, hl.2.1, hl.2.2.1, hl.2.2.2, h2, h3, ho _ (by omega), ho _ (by omega), ho _ (by omega), ho _ (by omega)]
      by_cases hc : c = n 4
      · simp [hc]
      · simp [hc]
    · unfold nWrB
      rw [if_pos hz, nLay_out _ (by omega) (by omega) (by omega), zu_eq rfl]
    · unfold nWrB
      rw [if_pos hz, nLay_out _ (by omega) (by omega) (by omega), zu_ne hi4]
  · obtain ⟨n2, hn2⟩ : ∃ x, x = nLay (zu n 4 (n 4 + 1)) (n 4) 3 se (-1) (-1) := ⟨_, rfl⟩
    have hP := nTks_P se (n 1).toNat n2 (n 0 - n 1) (by omega) (by omega)
    have hO := nTks_out se (n 1).toNat n2 (n 0 - n 1) (by omega) (by omega)
    have hl := fun (c : Int) (h0 : 0 ≤ c) (h1 : c < 96) => nLay_at (zu n 4 (n 4 + 1)) (b := n 4) (kind := 3) (se := se) (v := -1) (k := -1) (by omega) (by omega) h0 h1
    rw [← hn2] at hl
    have ho : ∀ i : Int, i ≠ 4 → zu n 4 (n 4 + 1) i = n i := fun i hi => zu_ne hi
    have hlo : ∀ i : Int, i < 7 ∨ (103 ≤ i ∧ i < 295) ∨ 583 ≤ i → n2 i = zu n 4 (n 4 + 1) i := fun i hi => by rw [hn2]; exact nLay_out _ (by omega) (by omega) hi
    have e : nWrB n kind se v k = zu (zu (nLay (nTks n2 se (n 0 - n 1) (n 1).toNat).1 (nTks n2 se (n 0 - n 1) (n 1).toNat).2 kind se v k) (583 + (nTks n2 se (n 0 - n 1) (n 1).toNat).2) (n 4 + 1)) (679 + n 4) ((nTks n2 se (n 0 - n 1) (n 1).toNat).2 + 1) := by
      unfold nWrB; rw [if_neg (by omega), ← hn2]
    obtain ⟨p, hp⟩ : ∃ p, p = (nTks n2 se (n 0 - n 1) (n 1).toNat).1 := ⟨_, rfl⟩
    obtain ⟨t, ht⟩ : ∃ t, t = (nTks n2 se (n 0 - n 1) (n 1).toNat).2 := ⟨_, rfl⟩
    simp only [← ht, ← hp] at hP hO
    rw [← ht, ← hp] at e
    obtain ⟨a1, a2, a3, a4⟩ := hP
    obtain ⟨g, g1, g2, g3⟩ := zcn_ex _ _ (hg hz)
    simp only [Bool.and_eq_true, decide_eq_true_eq] at g3
    have hn2k : ∀ c, n 0 - n 1 ≤ c → c < 96 → n2 (7 + c) = n (7 + c) ∧ n2 (103 + c) = n (103 + c) := fun c h0 h1 => by
      have := (hl c (by omega) h1).1
      rw [if_neg (by omega), ho _ (by omega)] at this
      exact ⟨this, by rw [hlo _ (by omega), ho _ (by omega)]⟩
    have htl : t < n 0 := by
      by_cases h : t < n 0
      · exact h
      · have h4 := hn2k g (by omega) (by omega)
        exact absurd (h4.2.trans g3.2) (a3 g (by omega) (by omega) (h4.1.trans g3.1))
    have a2' := a2 (by omega)
    have h2t := hn2k t (by omega) (by omega)
    rw [h2t.1, h2t.2] at a2'
    refine ⟨t, fun c => n 0 - n 1 ≤ c ∧ c < t ∧ n (7 + c) = 0, fun z => by omega, fun _ => ⟨by omega, htl, a2'.1, a2'.2, by rw [ht, hn2]⟩, fun c z => ⟨z.1, z.2.1, z.2.2, ?_⟩, fun c h0 h1 => ?_, ?_, fun i hi4 hi => ?_⟩
    · have h4 := hn2k c z.1 (by omega)
      have h5 := a3 c z.1 z.2.1 (h4.1.trans z.2.2)
      have h6 := (hB c (by omega) (by omega)).2.1
      omega
    · rw [e]
      have q1 := a4 c h0 h1
      have q2 := hl c h0 h1
      have q3 := nLay_at p (b := t) (kind := kind) (se := se) (v := v) (k := k) (by omega) (by omega) h0 h1
      have hbc := hB c h0 h1
      have hO2 : p (583 + c) = n (583 + c) := by rw [hO _ (by omega), hlo _ (by omega), ho _ (by omega)]
      have hO3 : p (679 + c) = n (679 + c) := by rw [hO _ (by omega), hlo _ (by omega), ho _ (by omega)]
      have r1 : zu (zu (nLay p t kind se v k) (583 + t) (n 4 + 1)) (679 + n 4) (t + 1) (7 + c) = nLay p t kind se v k (7 + c) := by rw [zu_ne (by omega), zu_ne (by omega)]
      have r2 : zu (zu (nLay p t kind se v k) (583 + t) (n 4 + 1)) (679 + n 4) (t + 1) (295 + c) = nLay p t kind se v k (295 + c) := by rw [zu_ne (by omega), zu_ne (by omega)]
      have r3 : zu (zu (nLay p t kind se v k) (583 + t) (n 4 + 1)) (679 + n 4) (t + 1) (391 + c) = nLay p t kind se v k (391 + c) := by rw [zu_ne (by omega), zu_ne (by omega)]
      have r4 : zu (zu (nLay p t kind se v k) (583 + t) (n 4 + 1)) (679 + n 4) (t + 1) (487 + c) = nLay p t kind se v k (487 + c) := by rw [zu_ne (by omega), zu_ne (by omega)]
      have r5 : zu (zu (nLay p t kind se v k) (583 + t) (n 4 + 1)) (679 + n 4) (t + 1) (583 + c) = if c = t then n 4 + 1 else n (583 + c) := by
        rw [zu_ne (by omega)]
        split
        · rename_i h; rw [zu_eq (by omega)]
        · rw [zu_ne (by omega), nLay_out _ (by omega) (by omega) (by omega), hO2]
      have r6 : zu (zu (nLay p t kind se v k) (583 + t) (n 4 + 1)) (679 + n 4) (t + 1) (679 + c) = if c = n 4 then t + 1 else n (679 + c) := by
        split
        · rename_i h; rw [zu_eq (by omega)]
        · rw [zu_ne (by omega), zu_ne (by omega), nLay_out _ (by omega) (by omega) (by omega), hO3]
      rw [r1, r2, r3, r4, r5, r6, q3.1, q3.2.1, q3.2.2.1, q3.2.2.2, q1.1, q1.2.1, q1.2.2.1, q1.2.2.2]
      rw [ho _ (by omega), ho _ (by omega), ho _ (by omega), ho _ (by omega)] at q2
      have htb : t ≠ n 4 := by omega
      by_cases c1 : c = t
      · subst c1
        simp [htb]
      · by_cases c2 : c = n 4
        · subst c2
          have hh : ¬ (n 0 - n 1 ≤ n 4 ∧ n 4 < t ∧ n2 (7 + n 4) = 0) := by omega
          have hh2 : ¬ (n 0 - n 1 ≤ n 4 ∧ n 4 < t ∧ n (7 + n 4) = 0) := by omega
          simp only [if_true] at q2
          simp only [if_neg hh, if_neg c1, q2.1, q2.2.1, q2.2.2.1, q2.2.2.2, if_true, hh2]
          have hz0 := hb.2.2.2.2.2.2.2.2.2.2.1
          have hz1 := hb.2.2.2.2.2.2.2.2.2.2.2.1
          simp [c1, htb]
          omega
        · simp only [if_neg c2] at q2
          rw [q2.1]
          have hz0 := hbc.2.2.2.2.2.2.2.2.2.2.1
          by_cases c3 : n 0 - n 1 ≤ c ∧ c < t ∧ n (7 + c) = 0
          · have hz2 := hz0 c3.2.2
            simp only [if_pos c3, if_neg c1, if_neg c2, q2.2.2.1, q2.2.2.2]
            simp [c1, c2, c3, hz2]
          · simp only [if_neg c3, if_neg c1, if_neg c2, q2.2.1, q2.2.2.1, q2.2.2.2]
            simp [c1, c2, c3]
    · rw [e, zu_ne (by omega), zu_ne (by omega), nLay_out _ (by omega) (by omega) (by omega), hO _ (by omega), hlo _ (by omega), zu_eq rfl]
    · rw [e, zu_ne (by omega), zu_ne (by omega), nLay_out _ (by omega) (by omega) (by omega), hO _ (by omega), hlo _ (by omega), zu_ne hi4]
end
section
/-! Writing blocks keeps the row in order. -/
def nB1 (a0 a1 a3 a4 a6 c x1 xb xs x2 x3 x4 x5 x6 : Int) : Prop :=
  (0 ≤ x1 ∧ x1 ≤ 3) ∧ (xb = 0 ∨ xb = 1) ∧ (xs = 0 ∨ xs = 1) ∧ (0 ≤ x2 ∧ x2 ≤ a3) ∧ (0 ≤ x3 ∧ x3 ≤ a6) ∧ (0 ≤ x4 ∧ x4 ≤ 8) ∧ (0 ≤ x5 ∧ x5 ≤ 96) ∧ (x6 = 0 ∨ (a0 - a1 < x6 ∧ x6 ≤ a0 ∧ c < a4)) ∧ (x1 = 1 → 1 ≤ x3) ∧ (x1 ≠ 0 → 1 ≤ x2) ∧ (x1 = 0 → x2 = 0 ∧ x3 = 0 ∧ x4 = 0 ∧ x5 = 0) ∧ (c < a0 - a1 → (x1 = 0 ↔ a4 ≤ c)) ∧ (c < a0 - a1 → (x1 = 3 ↔ x6 ≠ 0)) ∧ (a0 ≤ c → x1 = 0)
theorem nB1_t {a0 a1 a3 a4 a6 c xb xs x5 kind se v k : Int} (hk : kind = 1 ∨ kind = 2) (hse0 : 0 ≤ se) (hse1 : se < a3) (hv0 : -1 ≤ v) (hv1 : v < a6) (hkv : kind = 1 → 0 ≤ v) (hk0 : 0 ≤ k) (hk1 : k ≤ 7) (k2 : xb = 0 ∨ xb = 1) (k3 : xs = 0 ∨ xs = 1) (y5 : 0 ≤ x5 ∧ x5 ≤ 96) (ha : 0 ≤ a1) (hr : a4 < a0 - a1) (hc : c = a4 ∨ (a0 - a1 ≤ c ∧ c < a0)) : nB1 a0 a1 a3 (a4 + 1) a6 c kind xb xs (se + 1) (v + 1) (k + 1) x5 0 := by
  refine ⟨by omega, k2, k3, by omega, by omega, by omega, y5, Or.inl rfl, by omega, by omega, by omega, by omega, by omega, by omega⟩
theorem nB1_f {a0 a1 a3 a4 a6 c xb xs se t : Int} (hse0 : 0 ≤ se) (hse1 : se < a3) (k2 : xb = 0 ∨ xb = 1) (k3 : xs = 0 ∨ xs = 1) (h6 : 0 ≤ a6) (ha : 0 ≤ a1) (ha4 : 0 ≤ a4) (hr : a4 < a0 - a1) (hc : c = a4) (ht : a0 - a1 ≤ t) (ht2 : t < a0) : nB1 a0 a1 a3 (a4 + 1) a6 c 3 xb xs (se + 1) 0 0 0 (t + 1) := by
  refine ⟨by omega, k2, k3, by omega, by omega, by omega, by omega, by omega, by omega, by omega, by omega, by omega, by omega, by omega⟩
theorem nB1_h {a0 a1 a3 a4 a6 c xb xs se : Int} (hse0 : 0 ≤ se) (hse1 : se < a3) (k2 : xb = 0 ∨ xb = 1) (k3 : xs = 0 ∨ xs = 1) (h6 : 0 ≤ a6) (hr : a4 < a0 - a1) (hc : a0 - a1 ≤ c) (hc2 : c < a0) : nB1 a0 a1 a3 (a4 + 1) a6 c 3 xb xs (se + 1) 0 0 0 0 := by
  refine ⟨by omega, k2, k3, by omega, by omega, by omega, by omega, by omega, by omega, by omega, by omega, by omega, by omega, by omega⟩
theorem nB1_o {a0 a1 a3 a4 a6 c x1 xb xs x2 x3 x4 x5 x6 : Int} (h : nB1 a0 a1 a3 a4 a6 c x1 xb xs x2 x3 x4 x5 x6) (hc : c ≠ a4) : nB1 a0 a1 a3 (a4 + 1) a6 c x1 xb xs x2 x3 x4 x5 x6 := by
  obtain ⟨k1, k2, k3, k4, k5, k6, k7, k8, k9, k10, k11, k12, k13, k14⟩ := h
  refine ⟨k1, k2, k3, k4, k5, k6, k7, ?_, k9, k10, k11, ?_, k13, k14⟩
  · clear k1 k2 k3 k4 k5 k6 k7 k9 k10 k11 k12 k13 k14; omega
  · clear k1 k2 k3 k4 k5 k6 k7 k9 k10 k11 k13 k14; omega
theorem nWrB_W {n : zN} (hN : nWn n) (hB : nWb n) {kind se v k : Int} (hr : n 4 < n 0 - n 1) (hg : n (103 + n 4) = 1 → 1 ≤ nGc n) (hk : kind = 1 ∨ kind = 2) (hse0 : 0 ≤ se) (hse1 : se < n 3) (hv0 : -1 ≤ v) (hv1 : v < n 6) (hkv : kind = 1 → 0 ≤ v) (hk0 : 0 ≤ k) (hk1 : k ≤ 7) :
    nWn (nWrB n kind se v k) ∧ nWb (nWrB n kind se v k) ∧ nGc (nWrB n kind se v k) = nGc n - zb (decide (n (103 + n 4) = 1)) ∧ nWrB n kind se v k 4 = n 4 + 1 ∧ (∀ i, i ≠ 4 → i < 7 ∨ (103 ≤ i ∧ i < 295) ∨ 775 ≤ i → nWrB n kind se v k i = n i) := by
  obtain ⟨t, hit, h1, h2, h3, h4, h5, h6⟩ := nWrB_spec hN hB kind se v k hr hg
  obtain ⟨n', hn'⟩ : ∃ x, x = nWrB n kind se v k := ⟨_, rfl⟩
  rw [← hn'] at h4 h5 h6 ⊢
  have hN' := hN
  unfold nWn at hN'
  have e0 := h6 0 (by omega) (by omega)
  have e1 := h6 1 (by omega) (by omega)
  have e2 := h6 2 (by omega) (by omega)
  have e3 := h6 3 (by omega) (by omega)
  have e5 := h6 5 (by omega) (by omega)
  have e6 := h6 6 (by omega) (by omega)
  have hb := hB (n 4) (by omega) (by omega)
  have hb2 := hb.2.1
  refine ⟨?_, fun c c0 c1 => ?_, ?_, h5, h6⟩
  · unfold nWn
    rw [e0, e1, e2, e3, e5, e6, h5]
    omega
  · obtain ⟨s1, s2, s3, s4, s5, s6⟩ := h4 c c0 c1
    have e103 := h6 (103 + c) (by omega) (by omega)
    have e199 := h6 (199 + c) (by omega) (by omega)
    show nB1 (n' 0) (n' 1) (n' 3) (n' 4) (n' 6) c (n' (7 + c)) (n' (103 + c)) (n' (199 + c)) (n' (295 + c)) (n' (391 + c)) (n' (487 + c)) (n' (583 + c)) (n' (679 + c))
    rw [e103, e199, e0, e1, e3, e6, h5]
    have hbc : nB1 (n 0) (n 1) (n 3) (n 4) (n 6) c (n (7 + c)) (n (103 + c)) (n (199 + c)) (n (295 + c)) (n (391 + c)) (n (487 + c)) (n (583 + c)) (n (679 + c)) := hB c c0 c1
    obtain ⟨k1, k2, k3, k4, k5, k6, k7, k8, k9, k10, k11, k12, k13, k14⟩ := hB c c0 c1
    by_cases a1 : c = t
    · have y1 : n' (7 + c) = kind := by
        rcases s1 with z | z | z
        · exact z.1
        · exact absurd a1 z.2.1
        · exact absurd a1 z.2.1
      have y2 : n' (295 + c) = se + 1 := by
        rcases s2 with z | z
        · exact z.1
        · exact absurd a1 z.2.1
      have y3 : n' (391 + c) = v + 1 := by
        rcases s3 with z | z
        · exact z.1
        · exact absurd a1 z.2
      have y4 : n' (487 + c) = k + 1 := by
        rcases s4 with z | z
        · exact z.1
        · exact absurd a1 z.2
      have y6 : n' (679 + c) = 0 := by
        rcases s6 with z | z
        · exact absurd (a1.symm.trans z.2.1) z.2.2
        · rw [z.1]
          rcases k8 with q | q
          · exact q
          · rcases hb2 with w | w
            · have := (h1 w).1
              omega
            · have := h2 w
              omega
      have y5 : 0 ≤ n' (583 + c) ∧ n' (583 + c) ≤ 96 := by
        rcases s5 with z | z
        · omega
        · rw [z.1]; exact k7
      rw [y1, y2, y3, y4, y6]
      refine nB1_t hk hse0 hse1 hv0 hv1 hkv hk0 hk1 k2 k3 y5 (by omega) hr ?_
      rcases hb2 with w | w
      · exact Or.inl (a1.trans (h1 w).1)
      · have := h2 w
        exact Or.inr (by omega)
    · have y3 : n' (391 + c) = n (391 + c) := by
        rcases s3 with z | z
        · exact absurd z.2 a1
        · exact z.1
      have y4 : n' (487 + c) = n (487 + c) := by
        rcases s4 with z | z
        · exact absurd z.2 a1
        · exact z.1
      have y5 : n' (583 + c) = n (583 + c) := by
        rcases s5 with z | z
        · exact absurd z.2.1 a1
        · exact z.1
      rw [y3, y4, y5]
      by_cases a2 : c = n 4
      · have y2 : n' (295 + c) = se + 1 := by
          rcases s2 with z | z
          · exact z.1
          · exact absurd a2 z.2.2.1
        have z1 : n (103 + n 4) = 1 := by
          rcases hb2 with z | z
          · exact absurd (a2.trans (h1 z).1.symm) a1
          · exact z
        have h7 := h2 z1
        have y1 : n' (7 + c) = 3 := by
          rcases s1 with z | z | z
          · exact absurd z.2 a1
          · exact z.1
          · exact absurd a2 z.2.2.1
        have y6 : n' (679 + c) = t + 1 := by
          rcases s6 with z | z
          · exact z.1
          · rcases z.2 with q | q
            · exact absurd a2 q
            · exact absurd (a2.trans q.symm) a1
        have hk0' : n (7 + c) = 0 := (k12 (by omega)).mpr (by omega)
        have h11 := k11 hk0'
        rw [y1, y2, y6, h11.2.1, h11.2.2.1, h11.2.2.2]
        exact nB1_f hse0 hse1 k2 k3 (by omega) (by omega) (by omega) hr a2 h7.1 h7.2.1
      · have y6 : n' (679 + c) = n (679 + c) := by
          rcases s6 with z | z
          · exact absurd z.2.1 a2
          · exact z.1
        rw [y6]
        by_cases a3 : hit c
        · have y1 : n' (7 + c) = 3 := by
            rcases s1 with z | z | z
            · exact absurd z.2 a1
            · exact z.1
            · exact absurd a3 z.2.2.2
          have y2 : n' (295 + c) = se + 1 := by
            rcases s2 with z | z
            · exact z.1
            · exact absurd a3 z.2.2.2
          have h7 := h3 c a3
          have h11 := k11 h7.2.2.1
          have hm0 : n (679 + c) = 0 := by
            rcases k8 with q | q
            · exact q
            · omega
          have ht0 : t < n 0 := by
            rcases hb2 with z | z
            · exact absurd a3 ((h1 z).2 c)
            · exact (h2 z).2.1
          rw [y1, y2, h11.2.1, h11.2.2.1, h11.2.2.2, hm0]
          exact nB1_h hse0 hse1 k2 k3 (by omega) hr h7.1 (by omega)
        · have y1 : n' (7 + c) = n (7 + c) := by
            rcases s1 with z | z | z
            · exact absurd z.2 a1
            · rcases z.2.2 with z | z
              · exact absurd z a2
              · exact absurd z a3
            · exact z.1
          have y2 : n' (295 + c) = n (295 + c) := by
            rcases s2 with z | z
            · rcases z.2 with z | z | z
              · exact absurd z a1
              · exact absurd z a2
              · exact absurd z a3
            · exact z.1
          rw [y1, y2]
          exact nB1_o hbc a2
  · unfold nGc
    rw [e0, e1]
    rcases hb2 with z | z
    · have h7 := h1 z
      rw [zb_dneg (by omega)]
      rw [zcn_congr (Q := fun b => decide (n (7 + b) = 0) && decide (n (103 + b) = 0)) _ _ (fun c c0 c1 => by
        have e103 := h6 (103 + c) (by omega) (by omega)
        have s1 : n' (7 + c) = n (7 + c) := by
          rcases (h4 c (by omega) (by omega)).1 with q | q | q
          · omega
          · rcases q.2.2 with q | q
            · omega
            · exact absurd q (h7.2 c)
          · exact q.1
        rw [e103, s1])]
      omega
    · have h7 := h2 z
      have h8 := zcn_one (P := fun b => decide (n' (7 + b) = 0) && decide (n' (103 + b) = 0)) (Q := fun b => decide (n (7 + b) = 0) && decide (n (103 + b) = 0)) (j := t) (n 1).toNat (n 0 - n 1) (by omega) (by omega) (by
          have s1 : n' (7 + t) = kind := by
            have := (h4 t (by omega) (by omega)).1
            omega
          have s2 : n' (7 + t) ≠ 0 := by omega
          simp [s2]) (by simp [h7.2.2.1, h7.2.2.2.1]) (fun c hc c0 c1 => by
          have e103 := h6 (103 + c) (by omega) (by omega)
          show (decide (n (7 + c) = 0) && decide (n (103 + c) = 0)) = (decide (n' (7 + c) = 0) && decide (n' (103 + c) = 0))
          by_cases a3 : hit c
          · have := h3 c a3
            have s1 : n' (7 + c) = 3 := by
              rcases (h4 c (by omega) (by omega)).1 with q | q | q
              · exact absurd q.2 hc
              · exact q.1
              · exact absurd a3 q.2.2.2
            simp [s1, this.2.2.2]
          · have s1 : n' (7 + c) = n (7 + c) := by
              rcases (h4 c (by omega) (by omega)).1 with q | q | q
              · exact absurd q.2 hc
              · rcases q.2.2 with q | q
                · omega
                · exact absurd q a3
              · exact q.1
            rw [s1, e103])
      rw [zb_dpos z]
      omega
theorem nWl_W {kind se v : Int} : ∀ (m : Nat) (n : zN) (k : Int), nWn n → nWb n → n 4 + m ≤ n 0 - n 1 → nBc n m ≤ nGc n → (kind = 1 ∨ kind = 2) → 0 ≤ se → se < n 3 → -1 ≤ v → v < n 6 → (kind = 1 → 0 ≤ v) → 0 ≤ k → k + m ≤ 8 →
    nWn (nWl kind se v n k m) ∧ nWb (nWl kind se v n k m) ∧ nWl kind se v n k m 4 = n 4 + m ∧ (∀ i, i ≠ 4 → i < 7 ∨ (103 ≤ i ∧ i < 295) ∨ 775 ≤ i → nWl kind se v n k m i = n i) := by
  intro m
  induction m with
  | zero =>
    intro n k hN hB _ _ _ _ _ _ _ _ _ _
    exact ⟨hN, hB, by simp [nWl], fun i _ _ => rfl⟩
  | succ m ih =>
    intro n k hN hB hr hc hk h0 h1 h2 h3 h4 h5 h6
    have hN' := hN
    unfold nWn at hN'
    have hb := hB (n 4) (by omega) (by omega)
    have hcc : nBc n (m + 1) = zb (decide (n (103 + n 4) = 1)) + zcn (fun b => decide (n (103 + b) = 1)) (n 4 + 1) m := rfl
    have hz := zcn_rng (fun b => decide (n (103 + b) = 1)) m (n 4 + 1)
    obtain ⟨a1, a2, a3, a4, a5⟩ := nWrB_W hN hB (kind := kind) (se := se) (v := v) (k := k) (by omega) (fun z => by rw [zb_dpos z] at hcc; omega) hk h0 h1 h2 h3 h4 (by omega) (by omega)
    have e0 := a5 0 (by omega) (by omega)
    have e1 := a5 1 (by omega) (by omega)
    have e3 := a5 3 (by omega) (by omega)
    have e6 := a5 6 (by omega) (by omega)
    have hb' : nBc (nWrB n kind se v k) m = zcn (fun b => decide (n (103 + b) = 1)) (n 4 + 1) m := by
      unfold nBc
      rw [a4]
      exact zcn_congr _ _ (fun c c0 c1 => by rw [a5 (103 + c) (by omega) (by omega)])
    obtain ⟨b1, b2, b3, b4⟩ := ih (nWrB n kind se v k) (k + 1) a1 a2 (by rw [a4, e0, e1]; omega) (by rw [hb', a3]; omega) hk h0 (by omega) h2 (by omega) h4 (by omega) (by omega)
    refine ⟨b1, b2, ?_, fun i hi hi2 => ?_⟩
    · show nWl kind se v (nWrB n kind se v k) (k + 1) m 4 = _
      rw [b3, a4]
      omega
    · show nWl kind se v (nWrB n kind se v k) (k + 1) m i = _
      rw [b4 i hi hi2, a5 i hi hi2]
/-- rows that agree on what is written and read are written alike -/
def zAg (n n' : zN) : Prop := ∀ i, i < 775 → n' i = n i
theorem nLay_ag {n n' : zN} (h : zAg n n') (b kind se v k : Int) : zAg (nLay n b kind se v k) (nLay n' b kind se v k) := by
  intro i hi
  unfold nLay zu
  split
  · rfl
  · split
    · rfl
    · split
      · rfl
      · split
        · rfl
        · exact h i hi
theorem nTks_ag (se : Int) : ∀ (m : Nat) (n n' : zN) (s : Int), s + m ≤ 96 → zAg n n' → zAg (nTks n se s m).1 (nTks n' se s m).1 ∧ (nTks n' se s m).2 = (nTks n se s m).2 := by
  intro m
  induction m with
  | zero => intro n n' s _ h; exact ⟨h, rfl⟩
  | succ m ih =>
    intro n n' s hs h
    unfold nTks
    rw [h (7 + s) (by omega), h (103 + s) (by omega)]
    by_cases h1 : n (7 + s) = 0
    · by_cases h2 : n (103 + s) = 0
      · rw [if_pos h1, if_pos h2, if_pos h1, if_pos h2]; exact ⟨h, rfl⟩
      · rw [if_pos h1, if_neg h2, if_pos h1, if_neg h2]; exact ih _ _ _ (by omega) (nLay_ag h _ _ _ _ _)
    · rw [if_neg h1, if_neg h1]; exact ih _ _ _ (by omega) h
theorem zu_ag {n n' : zN} (h : zAg n n') (i v : Int) : zAg (zu n i v) (zu n' i v) := by
  intro j hj
  unfold zu
  split
  · rfl
  · exact h j hj
theorem nWrB_ag {n n' : zN} (h : zAg n n') (hN : nWn n) (kind se v k : Int) : zAg (nWrB n kind se v k) (nWrB n' kind se v k) := by
  unfold nWn at hN
  unfold nWrB
  rw [h 4 (by omega), h 0 (by omega), h 1 (by omega), h (103 + n 4) (by omega)]
  have h2 := nTks_ag se (n 1).toNat (nLay (zu n 4 (n 4 + 1)) (n 4) 3 se (-1) (-1)) (nLay (zu n' 4 (n 4 + 1)) (n 4) 3 se (-1) (-1)) (n 0 - n 1) (by omega) (nLay_ag (zu_ag h _ _) _ _ _ _ _)
  split
  · exact nLay_ag (zu_ag h _ _) _ _ _ _ _
  · rw [h2.2]
    exact zu_ag (zu_ag (nLay_ag h2.1 _ _ _ _ _) _ _) _ _
end
section
/-! Writing a block: the class. -/
section zCls
variable {E : zE} {σ : zW} {d : Nat} {n : zN}
theorem e0r_kindOf (hW : zWF E) (hu : zU E 0 d = true) {b : Int} (h0 : 0 ≤ b) (h1 : b < 96) : f_X0_kindOf (zH E σ) (zL E 0 d 1) (zI b) = some (zI (σ 0 d 2 b)) := by
  simp (disch := first | assumption | omega) only [f_X0_kindOf, zz_blo hW hu, zz_dr hW hu, zz_some, zz_lit, zz_num, zI_lt, zI_le, zI_eq, zI_nat, zz_b, if_pos, if_neg, if_true, if_false]
theorem e0r_isBad (hW : zWF E) (hu : zU E 0 d = true) {b : Int} (h0 : 0 ≤ b) (h1 : b < 96) (hb : σ 0 d 3 b = 0 ∨ σ 0 d 3 b = 1) : f_X0_isBad (zH E σ) (zL E 0 d 1) (zI b) = some (zI (σ 0 d 3 b)) := by
  simp (disch := first | assumption | omega) only [f_X0_isBad, zz_blo hW hu, zz_some, zz_lit, zz_num, zI_lt, zI_le, zI_eq, zI_nat, zz_b, if_pos, if_neg, if_true, if_false]
  rw [zX_isSet (n := 96) hW hu rfl (by decide) (by omega) (by omega) (fun _ _ => hb), if_pos ⟨h0, h1⟩, zz_some]
  rcases hb with h | h <;> rw [h] <;> rfl
theorem e0_takeSpare_L (hW : zWF E) (hu : zU E 0 d = true) {se : Int} : ∀ (m fuel : Nat) (σ : zW) (n : zN) (s : Int), 0 ≤ s → s + m = σ 0 d 1 0 → s + m ≤ 96 → (∀ c, 0 ≤ c → c < 96 → σ 0 d 2 c = n (7 + c) ∧ (0 ≤ n (7 + c) ∧ n (7 + c) ≤ 3) ∧ σ 0 d 3 c = n (103 + c) ∧ (n (103 + c) = 0 ∨ n (103 + c) = 1) ∧ σ 0 d 5 c = n (295 + c) - 1) → (∃ g, s ≤ g ∧ g < s + m ∧ n (7 + g) = 0 ∧ n (103 + g) = 0) → m < fuel →
    ∃ σ', f_X0_takeSpare_L5 fuel (zH E σ) (zL E 0 d 1) (zI se) (zI s) = some (zH E σ', zI (nTks n se s m).2) ∧ (∀ k' d' c', ¬ (k' = 0 ∧ d' = d ∧ (c' = 2 ∨ c' = 5)) → σ' k' d' c' = σ k' d' c') ∧ (∀ c, 0 ≤ c → c < 96 → σ' 0 d 2 c = (nTks n se s m).1 (7 + c) ∧ σ' 0 d 5 c = (nTks n se s m).1 (295 + c) - 1) := by
  intro m
  induction m with
  | zero =>
    intro fuel σ n s h0 h1 h2 hr hg h3
    obtain ⟨g, g1, g2, g3⟩ := hg
    omega
  | succ m ih =>
    intro fuel σ n s h0 h1 h2 hr hg h3
    obtain ⟨f, rfl, h4⟩ := zfuel h3
    have hs := hr s h0 (by omega)
    have hc : g_i (zH E σ) (zL E 0 d 1) 0 0 = some (zI (s + ((m + 1 : Nat) : Int))) := by rw [h1]; exact (zz_bl hW hu).1
    obtain ⟨cn, hcn⟩ : ∃ x, x = s + ((m + 1 : Nat) : Int) := ⟨_, rfl⟩
    rw [← hcn] at hc
    have hk := hs.1
    have hb3 := hs.2.2.1
    by_cases hk0 : n (7 + s) = 0
    · by_cases hb0 : n (103 + s) = 0
      · refine ⟨σ, ?_, fun _ _ _ _ => rfl, fun c c0 c1 => ?_⟩
        · simp (disch := first | assumption | omega) only [f_X0_takeSpare_L5, hc, zz_blo hW hu, e0r_kindOf hW hu, hk, hk0, zz_some, zz_lit, zz_num, zI_lt, zI_le, zI_eq, zI_nat, zz_b, if_pos, if_neg, if_true, if_false]
          rw [e0r_isBad hW hu h0 (by omega) (by rw [hb3]; exact hs.2.2.2.1), hb3, hb0, zz_some, if_pos rfl]
          unfold nTks
          rw [if_pos hk0, if_pos hb0]
        · have e : nTks n se s (m + 1) = (n, s) := by rw [nTks, if_pos hk0, if_pos hb0]
          rw [e]
          have := hr c c0 c1
          exact ⟨this.1, this.2.2.2.2⟩
      · have hb1 : n (103 + s) = 1 := by omega
        have e : nTks n se s (m + 1) = nTks (nLay n s 3 se (-1) (-1)) se (s + 1) m := by rw [nTks, if_pos hk0, if_neg hb0]
        obtain ⟨σ1, e1⟩ : ∃ x, x = zs (zs σ 0 d 2 s 3) 0 d 5 s se := ⟨_, rfl⟩
        have hr1 : ∀ c, 0 ≤ c → c < 96 → σ1 0 d 2 c = nLay n s 3 se (-1) (-1) (7 + c) ∧ (0 ≤ nLay n s 3 se (-1) (-1) (7 + c) ∧ nLay n s 3 se (-1) (-1) (7 + c) ≤ 3) ∧ σ1 0 d 3 c = nLay n s 3 se (-1) (-1) (103 + c) ∧ (nLay n s 3 se (-1) (-1) (103 + c) = 0 ∨ nLay n s 3 se (-1) (-1) (103 + c) = 1) ∧ σ1 0 d 5 c = nLay n s 3 se (-1) (-1) (295 + c) - 1 := by
          intro c c0 c1
          have hl := nLay_at n (b := s) (kind := 3) (se := se) (v := -1) (k := -1) h0 (by omega) c0 c1
          have ho : nLay n s 3 se (-1) (-1) (103 + c) = n (103 + c) := nLay_out n h0 (by omega) (by omega)
          have hrc := hr c c0 c1
          rw [hl.1, hl.2.1, ho]
          subst e1
          by_cases hcs : c = s
          · subst hcs
            simp [zs, hrc]
          · simp [zs, hcs, hrc]
        obtain ⟨σ', b1, b2, b3⟩ := ih f σ1 (nLay n s 3 se (-1) (-1)) (s + 1) (by omega) (by rw [e1]; simp [zs]; omega) (by omega) hr1 (by
          obtain ⟨g, g1, g2, g3, g4⟩ := hg
          have hgs : g ≠ s := by
            intro z
            subst z
            omega
          have hl := nLay_at n (b := s) (kind := 3) (se := se) (v := -1) (k := -1) h0 (by omega) (c := g) (by omega) (by omega)
          exact ⟨g, by omega, by omega, by rw [hl.1, if_neg hgs]; exact g3, by rw [nLay_out n h0 (by omega) (by omega)]; exact g4⟩) (by omega)
        refine ⟨σ', ?_, fun k' d' c' hz => ?_, ?_⟩
        · rw [e, ← b1]
          simp (disch := first | assumption | omega) only [f_X0_takeSpare_L5, hc, zz_blo hW hu, e0r_kindOf hW hu, hk, hk0, zz_some, zz_lit, zz_num, zI_lt, zI_le, zI_eq, zI_nat, zz_b, if_pos, if_neg, if_true, if_false]
          rw [e0r_isBad hW hu h0 (by omega) (by rw [hb3]; exact hs.2.2.2.1), hb3, hb1, zz_some, if_neg (by decide)]
          simp (disch := first | assumption | omega) only [zz_blo hW hu, zz_dr hW hu, zz_some, zz_lit, zz_num, zI_lt, zI_le, zI_eq, zI_nat, zz_b, if_pos, if_neg, if_true, if_false]
          rw [← e1]
        · rw [b2 k' d' c' hz, e1, zs_ne (by omega), zs_ne (by omega)]
        · rw [e]; exact b3
    · have e : nTks n se s (m + 1) = nTks n se (s + 1) m := by rw [nTks, if_neg hk0]
      obtain ⟨σ', b1, b2, b3⟩ := ih f σ n (s + 1) (by omega) (by omega) (by omega) hr (by
        obtain ⟨g, g1, g2, g3, g4⟩ := hg
        have hgs : g ≠ s := by
          intro z
          subst z
          omega
        exact ⟨g, by omega, by omega, g3, g4⟩) (by omega)
      refine ⟨σ', ?_, b2, ?_⟩
      · rw [e, ← b1]
        simp (disch := first | assumption | omega) only [f_X0_takeSpare_L5, hc, zz_blo hW hu, e0r_kindOf hW hu, hk, hk0, zz_some, zz_lit, zz_num, zI_lt, zI_le, zI_eq, zI_nat, zz_b, if_pos, if_neg, if_true, if_false]
      · rw [e]; exact b3
theorem e0_writeNext (hW : zWF E) (hu : zU E 0 d = true) (hR : zRb (σ 0 d) n) (hN : nWn n) (hB : nWb n) {kind se v k : Int} (hr : n 4 < n 0 - n 1) (hg : n (103 + n 4) = 1 → 1 ≤ nGc n) (hk : kind = 1 ∨ kind = 2) (hse0 : 0 ≤ se) (hse1 : se < n 3) (hv0 : -1 ≤ v) (hv1 : v < n 6) (hk0 : 0 ≤ k) (hk1 : k ≤ 7) :
    ∃ σ', f_X0_writeNext (zH E σ) (zL E 0 d 1) (zI kind) (zI se) (zI v) (zI k) = some (zH E σ') ∧ (∀ k' d' c', ¬ (k' = 0 ∧ d' = d ∧ 1 ≤ c' ∧ c' ≤ 9) → σ' k' d' c' = σ k' d' c') ∧ zRb (σ' 0 d) (nWrB n kind se v k) := by
  have hN' := hN
  unfold nWn at hN'
  obtain ⟨t, hit, h1, h2, h3, h4, h5, h6⟩ := nWrB_spec hN hB kind se v k hr hg
  obtain ⟨n', hn'⟩ : ∃ x, x = nWrB n kind se v k := ⟨_, rfl⟩
  rw [← hn'] at h4 h5 h6 ⊢
  obtain ⟨⟨r0, r1, r2, r3, r4, r5, r6, r7, r8, r9⟩, r10⟩ := hR
  have hb := hB (n 4) (by omega) (by omega)
  have e0 := h6 0 (by omega) (by omega)
  have e1 := h6 1 (by omega) (by omega)
  obtain ⟨σ1, s1⟩ : ∃ x, x = zs σ 0 d 1 2 (n 4 + 1) := ⟨_, rfl⟩
  have hbad : f_X0_isBad (zH E σ1) (zL E 0 d 1) (zI (n 4)) = some (zI (n (103 + n 4))) := by
    have h7 : σ1 0 d 3 (n 4) = n (103 + n 4) := by rw [s1]; simp [zs]; exact r4 _ (by omega) (by omega)
    rw [e0r_isBad hW hu (by omega) (by omega) (by rw [h7]; exact hb.2.1), h7]
  have hnx : g_i (zH E σ) (zL E 0 d 1) 0 2 = some (zI (n 4)) := by rw [← r2]; exact (zz_bl hW hu).2.2.2.2.1
  have hput : g_put (zH E σ) (zL E 0 d 1) 0 2 (.int (zI (n 4 + 1))) = some (zH E σ1) := by rw [s1]; exact (zz_bl hW hu).2.2.2.2.2.1 _
  -- the common end
  have hend : ∀ (σ2 : zW), (∀ k' d' c', ¬ (k' = 0 ∧ d' = d ∧ (c' = 2 ∨ c' = 5 ∨ c' = 8)) → σ2 k' d' c' = σ1 k' d' c') → 0 ≤ t → t < 96 → (∀ c, 0 ≤ c → c < 96 → c ≠ t → σ2 0 d 2 c = n' (7 + c)) → (∀ c, 0 ≤ c → c < 96 → c ≠ t → σ2 0 d 5 c = n' (295 + c) - 1) → (∀ c, 0 ≤ c → c < 96 → σ2 0 d 8 c = n' (583 + c) - 1) → ∃ σ', f_X0_writeNext_J67 (zH E σ2) (zL E 0 d 1) (zI kind) (zI se) (zI v) (zI k) (zI (n 4)) (zI t) = some (zH E σ') ∧ (∀ k' d' c', ¬ (k' = 0 ∧ d' = d ∧ 1 ≤ c' ∧ c' ≤ 9) → σ' k' d' c' = σ k' d' c') ∧ zRb (σ' 0 d) n' := by
    intro σ2 f1 ht0 ht1 f2 f3 f4
    refine ⟨zs (zs (zs (zs (zs σ2 0 d 9 (n 4) t) 0 d 2 t kind) 0 d 5 t se) 0 d 6 t v) 0 d 7 t k, ?_, fun k' d' c' hz => ?_, ?_⟩
    · simp (disch := first | assumption | omega) only [f_X0_writeNext_J67, zz_blo hW hu, zz_dr hW hu, zz_some, zz_lit, zz_num, zI_lt, zI_le, zI_eq, zI_nat, zz_b, if_pos, if_neg, if_true, if_false]
    · rw [zs_ne (by omega), zs_ne (by omega), zs_ne (by omega), zs_ne (by omega), zs_ne (by omega), f1 k' d' c' (by omega), s1, zs_ne (by omega)]
    · have q1 : ∀ i, σ2 0 d 1 i = if i = 2 then n 4 + 1 else σ 0 d 1 i := fun i => by rw [f1 0 d 1 (by omega), s1, zs_at]
      have q3 : σ2 0 d 3 = σ 0 d 3 := by rw [f1 0 d 3 (by omega), s1, zs_ne (by omega)]
      have q4 : σ2 0 d 4 = σ 0 d 4 := by rw [f1 0 d 4 (by omega), s1, zs_ne (by omega)]
      have q6 : σ2 0 d 6 = σ 0 d 6 := by rw [f1 0 d 6 (by omega), s1, zs_ne (by omega)]
      have q7 : σ2 0 d 7 = σ 0 d 7 := by rw [f1 0 d 7 (by omega), s1, zs_ne (by omega)]
      have q9 : σ2 0 d 9 = σ 0 d 9 := by rw [f1 0 d 9 (by omega), s1, zs_ne (by omega)]
      refine ⟨⟨?_, ?_, ?_, fun c c0 c1 => ?_, fun c c0 c1 => ?_, fun c c0 c1 => ?_, fun c c0 c1 => ?_, fun c c0 c1 => ?_, fun c c0 c1 => ?_, fun c c0 c1 => ?_⟩, fun c c0 c1 => ?_⟩
      · simp [zs, q1, e0, r0]
      · simp [zs, q1, e0, e1, r1]
      · simp [zs, q1, h5]
      · by_cases hc : c = t
        · have : n' (7 + c) = kind := by
            rcases (h4 c c0 c1).1 with z | z | z
            · exact z.1
            · exact absurd hc z.2.1
            · exact absurd hc z.2.1
          rw [this]; simp [zs, hc]
        · simp [zs, hc]; exact f2 c c0 c1 hc
      · rw [h6 _ (by omega) (by omega), ← r4 c c0 c1]; simp [zs, q3]
      · rw [h6 _ (by omega) (by omega), ← r5 c c0 c1]; simp [zs, q4]
      · by_cases hc : c = t
        · have : n' (295 + c) = se + 1 := by
            rcases (h4 c c0 c1).2.1 with z | z
            · exact z.1
            · exact absurd hc z.2.1
          rw [this]; simp [zs, hc]
        · simp [zs, hc]; exact f3 c c0 c1 hc
      · rcases (h4 c c0 c1).2.2.1 with z | z
        · rw [z.1]; simp [zs, z.2]
        · rw [z.1, ← r7 c c0 c1]; simp [zs, z.2, q6]
      · rcases (h4 c c0 c1).2.2.2.1 with z | z
        · rw [z.1]; simp [zs, z.2]
        · rw [z.1, ← r8 c c0 c1]; simp [zs, z.2, q7]
      · rw [← f4 c c0 c1]; simp [zs]
      · rw [h5]
        have hx := r10 c c0 c1
        by_cases hc : c = n 4
        · have h8 : nPl n' c = t := by
            unfold nPl
            rcases (h4 c c0 c1).2.2.2.2.2 with z | z
            · rw [z.1, if_pos (by omega)]; omega
            · rw [z.1]
              have h9 : n (679 + c) = 0 := by
                rcases (hB c c0 c1).2.2.2.2.2.2.2.1 with q | q <;> omega
              rw [h9, if_neg (by omega)]
              rcases z.2 with q | q
              · exact absurd hc q
              · omega
          rw [if_pos (by omega), h8]; simp [zs, hc]
        · have h8 : nPl n' c = nPl n c := by
            unfold nPl
            rcases (h4 c c0 c1).2.2.2.2.2 with z | z
            · exact absurd z.2.1 hc
            · rw [z.1]
          rw [h8]
          have h9 : zs (zs (zs (zs (zs σ2 0 d 9 (n 4) t) 0 d 2 t kind) 0 d 5 t se) 0 d 6 t v) 0 d 7 t k 0 d 9 c = σ 0 d 9 c := by simp [zs, hc, q9]
          rw [h9, hx]
          by_cases h10 : c < n 4
          · rw [if_pos h10, if_pos (by omega)]
          · rw [if_neg h10, if_neg (by omega)]
  have hstart : f_X0_writeNext (zH E σ) (zL E 0 d 1) (zI kind) (zI se) (zI v) (zI k) = (if zI (n (103 + n 4)) = 0 then f_X0_writeNext_J67 (zH E σ1) (zL E 0 d 1) (zI kind) (zI se) (zI v) (zI k) (zI (n 4)) (zI (n 4)) else (f_X9_put (zH E σ1) (zL E 0 d 2) (zI (n 4)) (zI 3)).bind fun G36 => (g_r G36 (zL E 0 d 1) 0 6).bind fun v40 => (f_X9_put G36 v40 (zI (n 4)) (zI se)).bind fun G46 => (g_ob G46 (zL E 0 d 1) 0).bind fun u51 => (f_X0_takeSpare G46 (zL E 0 d 1) (zI se)).bind fun q51 => (g_r q51.1 (zL E 0 d 1) 0 9).bind fun v57 => (f_X9_put q51.1 v57 q51.2 (zI (n 4))).bind fun G64 => f_X0_writeNext_J67 G64 (zL E 0 d 1) (zI kind) (zI se) (zI v) (zI k) (zI (n 4)) q51.2) := by
    unfold f_X0_writeNext
    rw [hnx, zz_some, zz_some, show (1 : Int32) = zI 1 from rfl, zI_add, hput, zz_some, (show g_ob (zH E σ1) (zL E 0 d 1) 0 = some () from zOb hW hu rfl rfl rfl), zz_some, hbad, zz_some, show g_r (zH E σ1) (zL E 0 d 1) 0 3 = some (zL E 0 d 2) from (zz_blo hW hu).1, zz_some]
    rfl
  rw [hstart]
  rcases hb.2.1 with hz | hz
  · have ht := (h1 hz).1
    rw [hz, if_pos (show zI 0 = 0 from rfl)]
    have h7 := hend σ1 (fun _ _ _ _ => rfl) (by omega) (by omega) (fun c c0 c1 hc => ?_) (fun c c0 c1 hc => ?_) (fun c c0 c1 => ?_)
    · rw [ht] at h7
      exact h7
    · rw [s1]
      simp [zs]
      rcases (h4 c c0 c1).1 with z | z | z
      · exact absurd z.2 hc
      · rcases z.2.2 with q | q
        · exact absurd (q.trans ht.symm) hc
        · exact absurd q ((h1 hz).2 c)
      · rw [z.1]; exact r3 c c0 c1
    · rw [s1]
      simp [zs]
      rcases (h4 c c0 c1).2.1 with z | z
      · rcases z.2 with q | q | q
        · exact absurd q hc
        · exact absurd (q.trans ht.symm) hc
        · exact absurd q ((h1 hz).2 c)
      · rw [z.1]; exact r6 c c0 c1
    · rw [s1]
      simp [zs]
      rcases (h4 c c0 c1).2.2.2.2.1 with z | z
      · exact absurd ht z.2.2
      · rw [z.1]; exact r9 c c0 c1
  · have ht := h2 hz
    rw [hz, if_neg (by decide)]
    obtain ⟨σ2, s2⟩ : ∃ x, x = zs (zs σ1 0 d 2 (n 4) 3) 0 d 5 (n 4) se := ⟨_, rfl⟩
    obtain ⟨n2, hn2⟩ : ∃ x, x = nLay (zu n 4 (n 4 + 1)) (n 4) 3 se (-1) (-1) := ⟨_, rfl⟩
    rw [← hn2] at ht
    have ho : ∀ i : Int, i ≠ 4 → zu n 4 (n 4 + 1) i = n i := fun i hi => zu_ne hi
    have hl := fun (c : Int) (h0 : 0 ≤ c) (h1 : c < 96) => nLay_at (zu n 4 (n 4 + 1)) (b := n 4) (kind := 3) (se := se) (v := -1) (k := -1) (by omega) (by omega) h0 h1
    have hlo : ∀ i : Int, i < 7 ∨ (103 ≤ i ∧ i < 295) ∨ 583 ≤ i → n2 i = zu n 4 (n 4 + 1) i := fun i hi => by rw [hn2]; exact nLay_out _ (by omega) (by omega) hi
    rw [← hn2] at hl
    obtain ⟨σ3, b1, b2, b3⟩ := e0_takeSpare_L hW hu (se := se) (n 1).toNat g_N σ2 n2 (n 0 - n 1) (by omega) (by rw [s2, s1]; simp [zs, r0]; omega) (by omega) (fun c c0 c1 => by
      have hlc := hl c c0 c1
      have hbc := hB c c0 c1
      rw [hlc.1, hlc.2.1, hlo _ (by omega), ho _ (by omega), ho _ (by omega), ho _ (by omega), ← r3 c c0 c1, ← r4 c c0 c1] 
      rw [s2, s1]
      by_cases hc : c = n 4
      · simp [zs, hc]
        rw [← hc, r4 c c0 c1]
        exact hbc.2.1
      · simp [zs, hc]
        rw [r3 c c0 c1, r4 c c0 c1, r6 c c0 c1]
        exact ⟨hbc.1, hbc.2.1, rfl⟩) ⟨t, by omega, by omega, by
      have := hl t (by omega) (by omega)
      rw [this.1, if_neg (by omega), ho _ (by omega)]
      exact ht.2.2.1, by rw [hlo _ (by omega), ho _ (by omega)]; exact ht.2.2.2.1⟩ (by unfold g_N; omega)
    rw [← ht.2.2.2.2] at b1
    obtain ⟨p, hp⟩ : ∃ p, p = (nTks n2 se (n 0 - n 1) (n 1).toNat).1 := ⟨_, rfl⟩
    rw [← hp] at b3
    have hx : n' = zu (zu (nLay p t kind se v k) (583 + t) (n 4 + 1)) (679 + n 4) (t + 1) := by
      rw [hn', hp]
      unfold nWrB
      rw [if_neg (by omega), ← hn2, ← ht.2.2.2.2]
    have hm0 : f_X0_takeSpare (zH E σ2) (zL E 0 d 1) (zI se) = some (zH E σ3, zI t) := by
      unfold f_X0_takeSpare
      have : g_i (zH E σ2) (zL E 0 d 1) 0 1 = some (zI (n 0 - n 1)) := by
        rw [← r1, show σ 0 d 1 1 = σ2 0 d 1 1 by rw [s2, s1]; simp [zs]]
        exact (zz_bl hW hu).2.2.1
      rw [this, zz_some]
      exact b1
    have h7 := hend (zs σ3 0 d 8 t (n 4)) (fun k' d' c' hz2 => by rw [zs_ne (by omega), b2 k' d' c' (by omega), s2, zs_ne (by omega), zs_ne (by omega)]) (by omega) (by omega) (fun c c0 c1 hc => ?_) (fun c c0 c1 hc => ?_) (fun c c0 c1 => ?_)
    · obtain ⟨σ', g1, g2, g3⟩ := h7
      refine ⟨σ', ?_, g2, g3⟩
      have u1 : f_X9_put (zH E σ1) (zL E 0 d 2) (zI (n 4)) (zI 3) = some (zH E (zs σ1 0 d 2 (n 4) 3)) := by simp (disch := first | assumption | omega) only [zz_dr hW hu, zz_some, zz_lit, zz_num, zI_lt, zI_le, zI_eq, zI_nat, zz_b, if_pos, if_neg, if_true, if_false]
      rw [u1, zz_some]
      simp (disch := first | assumption | omega) only [zz_blo hW hu, zz_dr hW hu, zz_some, zz_lit, zz_num, zI_lt, zI_le, zI_eq, zI_nat, zz_b, if_pos, if_neg, if_true, if_false]
      rw [← s2, hm0]
      simp (disch := first | assumption | omega) only [zz_blo hW hu, zz_dr hW hu, zz_some, zz_lit, zz_num, zI_lt, zI_le, zI_eq, zI_nat, zz_b, if_pos, if_neg, if_true, if_false]
      exact g1
    · have q := nLay_at p (b := t) (kind := kind) (se := se) (v := v) (k := k) (by omega) (by omega) c0 c1
      rw [hx, zu_ne (by omega), zu_ne (by omega), q.1, if_neg hc, zs_ne (by omega)]
      exact (b3 c c0 c1).1
    · have q := nLay_at p (b := t) (kind := kind) (se := se) (v := v) (k := k) (by omega) (by omega) c0 c1
      rw [hx, zu_ne (by omega), zu_ne (by omega), q.2.1, if_neg hc, zs_ne (by omega)]
      exact (b3 c c0 c1).2
    · rw [zs_at]
      have q8 : σ3 0 d 8 c = n (583 + c) - 1 := by
        rw [b2 0 d 8 (by omega), s2, s1, zs_ne (by omega), zs_ne (by omega), zs_ne (by omega)]
        exact r9 c c0 c1
      rcases (h4 c c0 c1).2.2.2.2.1 with z | z
      · rw [z.1, if_pos z.2.1]; omega
      · rw [z.1]
        rcases z.2 with q | q
        · rw [if_neg q, q8]
        · omega
end zCls
end
section
/-! Sessions and versions, on the row n. -/
def zus (n : zN) (s w x : Int) : zN := zu n (1255 + 25 * s + w) x
def nBg (n : zN) : zN := fun i => if i = 3 then n 3 + 1 else if i = 1256 + 25 * n 3 then n 4 else if 1255 + 25 * n 3 ≤ i ∧ i < 1280 + 25 * n 3 then 0 else n i
def nBi (n : zN) : zN := if nOp n = true then n else nBg n
def nE1 (n : zN) (f v : Int) : zN :=
  if nEn n (nLa n) f = -1 then zus (zus (zus n (nLa n) 2 (nS n (nLa n) 2 + 1)) (nLa n) (5 + 2 * nS n (nLa n) 2) f) (nLa n) (6 + 2 * nS n (nLa n) 2) v
  else zus (zus n (nLa n) (5 + 2 * nEn n (nLa n) f) f) (nLa n) (6 + 2 * nEn n (nLa n) f) v
def nAr (n : zN) (v f first m tag se : Int) : zN := zu (zu (zu (zu (zu n (775 + 5 * v) f) (775 + 5 * v + 1) first) (775 + 5 * v + 2) m) (775 + 5 * v + 3) tag) (775 + 5 * v + 4) se
def nAdd (n : zN) (f m tag : Int) : zN := nAr (zu n 6 (n 6 + 1)) (n 6) f (n 4) m tag (nLa n)
def nWrs (n : zN) (f m tag : Int) : zN := nE1 (nWl 1 (nLa (nBi n)) (n 6) (nAdd (nBi n) f m tag) 0 m.toNat) f (n 6)
def nErs (n : zN) (f : Int) : zN := nE1 (nBi n) f (-1)
def nCb (n : zN) (s : Int) : Int := zls (fun t => decide (nS n t 0 = 1)) s.toNat
def nCl0 (n : zN) : zN := zus (zus n (nLa n) 3 (n 4 + 1)) (nLa n) 4 (nCb n (nLa n) + 1)
def nCl (n : zN) : zN := zus (nWl 2 (nLa n) (-1) (nCl0 n) 0 (nDl (nS n (nLa n) 2)).toNat) (nLa n) 0 1
def nCrs (n : zN) : zN := zus (zus n (nLa n) 0 2) (nLa n) 2 0
def nRl (P : Int → Bool) (fl : Int → Int) : zN → Int → Nat → zN
  | n, _, 0 => n
  | n, v, m + 1 => nRl P fl (if P v = true then nE1 n (fl v) v else n) (v + 1) m
def nRec (n : zN) : zN := nCl (nRl (nRc n (nLa n)) (fun v => nV n v 0) (nBg (zus n (nLa n) 0 3)) 0 (n 6).toNat)
theorem nS_zus {n : zN} {s w x s' w' : Int} (h0 : 0 ≤ w) (h1 : w < 25) (h2 : 0 ≤ w') (h3 : w' < 25) : nS (zus n s w x) s' w' = if s' = s ∧ w' = w then x else nS n s' w' := by
  unfold nS zus zu
  by_cases h : s' = s ∧ w' = w
  · rw [if_pos h, if_pos (by omega)]
  · rw [if_neg h, if_neg (by omega)]
theorem zus_lo {n : zN} {s w x i : Int} (h0 : 0 ≤ s) (h1 : 0 ≤ w) (hi : i < 1255) : zus n s w x i = n i := zu_ne (by omega)
theorem nBg_lo {n : zN} {i : Int} (h0 : 0 ≤ n 3) (hi : i < 1255) (h3 : i ≠ 3) : nBg n i = n i := by
  unfold nBg
  rw [if_neg h3, if_neg (by omega), if_neg (by omega)]
theorem nBg_3 (n : zN) : nBg n 3 = n 3 + 1 := by unfold nBg; rw [if_pos rfl]
theorem nS_nBg {n : zN} {s w : Int} (h3 : 0 ≤ n 3) (h0 : 0 ≤ s) (h1 : 0 ≤ w) (h2 : w < 25) : nS (nBg n) s w = if s = n 3 then (if w = 1 then n 4 else 0) else nS n s w := by
  unfold nS nBg
  rw [if_neg (by omega)]
  by_cases h : s = n 3
  · rw [if_pos h]
    by_cases h4 : w = 1
    · rw [if_pos (by omega), if_pos h4]
    · rw [if_neg (by omega), if_neg h4, if_pos (by omega)]
  · rw [if_neg h, if_neg (by omega), if_neg (by omega)]
def nWs1 (n : zN) (s : Int) : Prop :=
  (0 ≤ nS n s 0 ∧ nS n s 0 ≤ 3) ∧ (nS n s 0 = 0 → s = n 3 - 1) ∧ (0 ≤ nS n s 1 ∧ nS n s 1 ≤ 96) ∧ (0 ≤ nS n s 2 ∧ nS n s 2 ≤ zcn (fun f => decide (nEn n s f ≠ -1)) 0 (n 2).toNat) ∧ (0 ≤ nS n s 3 ∧ (0 < nS n s 3 ↔ nS n s 0 = 1) ∧ (0 < nS n s 3 → nS n s 3 - 1 + nDl (nS n s 2) ≤ n 4)) ∧ (nS n s 4 = if 0 < nS n s 3 then zls (fun t => decide (nS n t 0 = 1)) s.toNat + 1 else 0) ∧ (∀ k, 0 ≤ k → k < nS n s 2 → (0 ≤ nS n s (5 + 2 * k) ∧ nS n s (5 + 2 * k) < n 2) ∧ (-1 ≤ nS n s (6 + 2 * k) ∧ nS n s (6 + 2 * k) < n 6))
theorem nEn_cg2 {n n' : zN} {s f : Int} (he : nS n s 2 ≤ 10) (h : ∀ w, 0 ≤ w → w < 25 → nS n' s w = nS n s w) : nEn n' s f = nEn n s f := by
  unfold nEn
  rw [h 2 (by omega) (by omega)]
  exact zfs_congr _ _ (fun k h0 h1 => by rw [h _ (by omega) (by omega)])
theorem nWs1.ent {n : zN} {s : Int} (h : nWs1 n s) (h2 : n 2 ≤ 10) (h3 : 0 ≤ n 2) : nS n s 2 ≤ n 2 := by
  have h4 := h.2.2.2.1.2
  have h5 := (zcn_rng (fun f => decide (nEn n s f ≠ -1)) (n 2).toNat 0).2
  omega
theorem nWs1_cg {n n' : zN} {s : Int} (hs : 0 ≤ s) (h : ∀ t w, 0 ≤ t → t ≤ s → 0 ≤ w → w < 25 → nS n' t w = nS n t w) (h2 : n' 2 = n 2) (h20 : 0 ≤ n 2) (h21 : n 2 ≤ 10) (h3 : nS n s 0 = 0 → s = n' 3 - 1) (h4 : n 4 ≤ n' 4) (h6 : n 6 ≤ n' 6) (hZ : nWs1 n s) : nWs1 n' s := by
  have he := hZ.ent h21 h20
  obtain ⟨a1, a2, a3, a4, a5, a6, a7⟩ := hZ
  have e : ∀ w, 0 ≤ w → w < 25 → nS n' s w = nS n s w := fun w hw hw1 => h s w hs (by omega) hw hw1
  unfold nWs1
  rw [e 0 (by omega) (by omega), e 1 (by omega) (by omega), e 2 (by omega) (by omega), e 3 (by omega) (by omega), e 4 (by omega) (by omega), h2]
  refine ⟨a1, h3, a3, ⟨a4.1, ?_⟩, ⟨a5.1, a5.2.1, fun z => by have := a5.2.2 z; omega⟩, ?_, fun k k0 k1 => ?_⟩
  · rw [zcn_congr (Q := fun f => decide (nEn n s f ≠ -1)) _ _ (fun f _ _ => by rw [nEn_cg2 (by omega) e])]
    exact a4.2
  · rw [a6, zls_congr (Q := fun t => decide (nS n' t 0 = 1)) (P := fun t => decide (nS n t 0 = 1)) _ (fun t t0 t1 => by rw [h t 0 t0 (by omega) (by omega) (by omega)])]
  · rw [e _ (by omega) (by omega), e _ (by omega) (by omega)]
    have := a7 k k0 k1
    omega
theorem nEn_iff {n : zN} {s f : Int} : nEn n s f ≠ -1 ↔ ∃ k, 0 ≤ k ∧ k < nS n s 2 ∧ nS n s (5 + 2 * k) = f := by
  unfold nEn
  rcases zfs_spec (P := fun k => decide (nS n s (5 + 2 * k) = f)) (nS n s 2).toNat 0 (by omega) with ⟨h1, h2⟩ | ⟨h1, h2, h3, h4⟩
  · rw [h1]
    constructor
    · intro h; exact absurd rfl h
    · rintro ⟨k, k0, k1, k2⟩
      have := h2 k k0 (by omega)
      simp [k2] at this
  · constructor
    · intro _
      exact ⟨_, h1, by omega, by simpa using h3⟩
    · intro _
      omega
theorem nOp_iff {n : zN} : nOp n = true ↔ 0 ≤ nLa n ∧ nS n (nLa n) 0 = 0 := by
  unfold nOp
  simp
theorem nBg_W {n : zN} (hn : nW n) (hc : nOp n = false) (h3 : n 3 < 12) : nW (nBg n) ∧ nOp (nBg n) = true ∧ nLa (nBg n) = n 3 := by
  have hN := hn.1.r
  have e : ∀ i, i < 1255 → i ≠ 3 → nBg n i = n i := fun i hi h => nBg_lo (by omega) hi h
  have eS : ∀ s w, 0 ≤ s → 0 ≤ w → w < 25 → nS (nBg n) s w = if s = n 3 then (if w = 1 then n 4 else 0) else nS n s w := fun s w h0 h1 h2 => nS_nBg (by omega) h0 h1 h2
  have hla : nLa (nBg n) = n 3 := by unfold nLa; rw [nBg_3]; omega
  have hno : ∀ s, 0 ≤ s → s < n 3 → nS n s 0 ≠ 0 := by
    intro s s0 s1 z
    have h5 := (hn.2.2.2 s s0 s1).2.1 z
    have h6 : nOp n = true := nOp_iff.mpr ⟨by unfold nLa; omega, by unfold nLa; rw [← h5]; exact z⟩
    rw [hc] at h6
    cases h6
  refine ⟨⟨?_, fun b b0 b1 => ?_, ⟨?_, fun v v0 v1 => ?_⟩, fun s s0 s1 => ?_⟩, ?_, hla⟩
  · unfold nWn
    rw [e 0 (by omega) (by omega), e 1 (by omega) (by omega), e 2 (by omega) (by omega), nBg_3, e 4 (by omega) (by omega), e 5 (by omega) (by omega), e 6 (by omega) (by omega)]
    omega
  · have hb := hn.2.1 b b0 b1
    rw [e (7 + b) (by omega) (by omega), e (103 + b) (by omega) (by omega), e (199 + b) (by omega) (by omega), e (295 + b) (by omega) (by omega), e (391 + b) (by omega) (by omega), e (487 + b) (by omega) (by omega), e (583 + b) (by omega) (by omega), e (679 + b) (by omega) (by omega), e 0 (by omega) (by omega), e 1 (by omega) (by omega), e 4 (by omega) (by omega), e 6 (by omega) (by omega), nBg_3]
    obtain ⟨k1, k2, k3, k4, k5⟩ := hb
    exact ⟨k1, k2, k3, ⟨k4.1, by omega⟩, k5⟩
  · rw [e 6 (by omega) (by omega), e 4 (by omega) (by omega)]
    exact hn.2.2.1.1
  · rw [e 6 (by omega) (by omega)] at v1
    obtain ⟨a1, a2, a3, a4, a5, a6, a7⟩ := hn.2.2.1.2 v v0 v1
    have e2 : ∀ w, 0 ≤ w → w < 5 → nV (nBg n) v w = nV n v w := fun w w0 w1 => e _ (by omega) (by omega)
    rw [e2 0 (by omega) (by omega), e2 1 (by omega) (by omega), e2 2 (by omega) (by omega), e2 3 (by omega) (by omega), e2 4 (by omega) (by omega), e 2 (by omega) (by omega), e 4 (by omega) (by omega), nBg_3]
    refine ⟨a1, a2, a3, a4, a5, by omega, fun s k s0 s1 k0 k1 k2 => ?_⟩
    by_cases hs : s = n 3
    · rw [eS s 2 s0 (by omega) (by omega), if_pos hs, if_neg (by omega)] at k1
      omega
    · have he := hn.2.2.2.ent hn.1 s0 (by omega : s < n 3)
      rw [eS s 2 s0 (by omega) (by omega), if_neg hs] at k1
      rw [eS s _ s0 (by omega) (by omega), if_neg hs] at k2
      rw [eS s _ s0 (by omega) (by omega), if_neg hs]
      exact a7 s k s0 (by omega) k0 k1 k2
  · show nWs1 (nBg n) s
    rw [nBg_3] at s1
    by_cases hs : s = n 3
    · unfold nWs1
      rw [eS s 0 s0 (by omega) (by omega), eS s 1 s0 (by omega) (by omega), eS s 2 s0 (by omega) (by omega), eS s 3 s0 (by omega) (by omega), eS s 4 s0 (by omega) (by omega), if_pos hs, if_pos hs, if_pos hs, if_pos hs, if_pos hs, nBg_3]
      have hz := zcn_rng (fun f => decide (nEn (nBg n) s f ≠ -1)) (nBg n 2).toNat 0
      refine ⟨by simp, fun _ => by omega, by simp; omega, ⟨by simp, by simpa using hz.1⟩, by simp, by simp, fun k k0 k1 => ?_⟩
      simp at k1
      omega
    · exact nWs1_cg s0 (fun t w t0 t1 w0 w1 => by rw [eS t w t0 w0 w1, if_neg (by omega)]) (e 2 (by omega) (by omega)) (by omega) (by omega) (fun z => absurd z (hno s s0 (by omega))) (by rw [e 4 (by omega) (by omega)]; omega) (by rw [e 6 (by omega) (by omega)]; omega) (hn.2.2.2 s s0 (by omega))
  · rw [nOp_iff, hla]
    refine ⟨by omega, ?_⟩
    rw [eS _ 0 (by omega) (by omega) (by omega), if_pos rfl, if_neg (by omega)]
theorem nTm_f {n : zN} (hn : nW n) (h : nTm n = false) (hc : nOp n = false) : n 3 < 12 := by
  unfold nTm at h
  rw [hc] at h
  have := hn.1.r
  simp at h
  omega
theorem nBi_W {n : zN} (hn : nW n) (h : nTm n = false) : nW (nBi n) ∧ nOp (nBi n) = true := by
  unfold nBi
  cases hc : nOp n
  · rw [if_neg (by simp)]
    have := nBg_W hn hc (nTm_f hn h hc)
    exact ⟨this.1, this.2.1⟩
  · rw [if_pos rfl]
    exact ⟨hn, hc⟩
theorem nBi_lo {n : zN} {i : Int} (h0 : 0 ≤ n 3) (hi : i < 1255) (h3 : i ≠ 3) : nBi n i = n i := by
  unfold nBi
  split
  · rfl
  · exact nBg_lo h0 hi h3
/-- an entry: what it changes in its session -/
theorem nE1_lo {n : zN} {f v i : Int} (h3 : 0 ≤ nLa n) (he : 0 ≤ nS n (nLa n) 2) (hi : i < 1255) : nE1 n f v i = n i := by
  have hE := (nEn_rng n (nLa n) f).1
  unfold nE1
  split
  · rw [zus_lo h3 (by omega) hi, zus_lo h3 (by omega) hi, zus_lo h3 (by omega) hi]
  · rw [zus_lo h3 (by omega) hi, zus_lo h3 (by omega) hi]
theorem nE1_S {n : zN} (f v : Int) (he : 0 ≤ nS n (nLa n) 2) (hk : nEn n (nLa n) f = -1 → nS n (nLa n) 2 ≤ 9) (hk2 : nS n (nLa n) 2 ≤ 10) : ∃ k, 0 ≤ k ∧ k ≤ 9 ∧ (nEn n (nLa n) f = -1 → k = nS n (nLa n) 2) ∧ (nEn n (nLa n) f ≠ -1 → k = nEn n (nLa n) f ∧ k < nS n (nLa n) 2) ∧ ∀ s w, 0 ≤ w → w < 25 → nS (nE1 n f v) s w = if s = nLa n ∧ w = 6 + 2 * k then v else if s = nLa n ∧ w = 5 + 2 * k then f else if s = nLa n ∧ w = 2 then max (nS n (nLa n) 2) (k + 1) else nS n s w := by
  have hE := nEn_rng n (nLa n) f
  by_cases h : nEn n (nLa n) f = -1
  · have h9 := hk h
    refine ⟨nS n (nLa n) 2, he, h9, fun _ => rfl, fun z => absurd h z, fun s w w0 w1 => ?_⟩
    unfold nE1
    rw [if_pos h, nS_zus (by omega) (by omega) w0 w1, nS_zus (by omega) (by omega) w0 w1, nS_zus (by omega) (by omega) w0 w1]
    rw [show max (nS n (nLa n) 2) (nS n (nLa n) 2 + 1) = nS n (nLa n) 2 + 1 by omega]
  · refine ⟨nEn n (nLa n) f, by omega, by omega, fun z => absurd z h, fun _ => ⟨rfl, by omega⟩, fun s w w0 w1 => ?_⟩
    unfold nE1
    rw [if_neg h, nS_zus (by omega) (by omega) w0 w1, nS_zus (by omega) (by omega) w0 w1]
    rw [show max (nS n (nLa n) 2) (nEn n (nLa n) f + 1) = nS n (nLa n) 2 by omega]
    by_cases h2 : s = nLa n ∧ w = 2
    · rw [if_pos h2, if_neg (by omega), if_neg (by omega), if_neg (by omega), if_neg (by omega), h2.1, h2.2]
    · rw [if_neg h2]
theorem nE1_W {n : zN} (hn : nW n) (hop : nOp n = true) {f v : Int} (hf0 : 0 ≤ f) (hf1 : f < n 2) (hv0 : -1 ≤ v) (hv1 : v < n 6) (hvf : 0 ≤ v → nV n v 0 = f) : nW (nE1 n f v) ∧ nOp (nE1 n f v) = true ∧ nLa (nE1 n f v) = nLa n ∧ nS (nE1 n f v) (nLa n) 2 = nS n (nLa n) 2 + zb (decide (nEn n (nLa n) f = -1)) := by
  have hN := hn.1.r
  obtain ⟨h3, hst⟩ := nOp_iff.mp hop
  have hla : nLa n = n 3 - 1 := rfl
  have hs := hn.2.2.2 (nLa n) h3 (by omega)
  have hent := hn.2.2.2.ent hn.1 h3 (by omega : nLa n < n 3)
  have hk9 : nEn n (nLa n) f = -1 → nS n (nLa n) 2 ≤ n 2 - 1 := by
    intro h
    have h5 := zcn_one (P := fun g => decide (nEn n (nLa n) g ≠ -1)) (Q := fun g => decide (nEn n (nLa n) g ≠ -1) || decide (g = f)) (j := f) (n 2).toNat 0 hf0 (by omega) (by simp [h]) (by simp) (fun g hg _ _ => by simp [hg])
    have h6 := (zcn_rng (fun g => decide (nEn n (nLa n) g ≠ -1) || decide (g = f)) (n 2).toNat 0).2
    have h7 := hs.2.2.2.1.2
    omega
  obtain ⟨k, k0, k9, hk1, hk2, eS⟩ := nE1_S (n := n) f v hent.1 (fun z => by have := hk9 z; omega) (by omega)
  have e : ∀ i, i < 1255 → nE1 n f v i = n i := fun i hi => nE1_lo h3 hent.1 hi
  have hla2 : nLa (nE1 n f v) = nLa n := by unfold nLa; rw [e 3 (by omega)]
  have hcnt : max (nS n (nLa n) 2) (k + 1) = nS n (nLa n) 2 + zb (decide (nEn n (nLa n) f = -1)) := by
    by_cases h : nEn n (nLa n) f = -1
    · rw [zb_dpos h, hk1 h]; omega
    · rw [zb_dneg h]; have := hk2 h; omega
  have hkK : k < max (nS n (nLa n) 2) (k + 1) := by omega
  -- the files of its entries
  have hfile : ∀ j, 0 ≤ j → j < max (nS n (nLa n) 2) (k + 1) → nS (nE1 n f v) (nLa n) (5 + 2 * j) = if j = k then f else nS n (nLa n) (5 + 2 * j) := by
    intro j j0 j1
    rw [eS _ _ (by omega) (by omega), if_neg (by omega)]
    by_cases h : j = k
    · rw [if_pos h, if_pos (by omega)]
    · rw [if_neg h, if_neg (by omega), if_neg (by omega)]
  have hvers : ∀ j, 0 ≤ j → j < max (nS n (nLa n) 2) (k + 1) → nS (nE1 n f v) (nLa n) (6 + 2 * j) = if j = k then v else nS n (nLa n) (6 + 2 * j) := by
    intro j j0 j1
    rw [eS _ _ (by omega) (by omega)]
    by_cases h : j = k
    · rw [if_pos h, if_pos (by omega)]
    · rw [if_neg h, if_neg (by omega), if_neg (by omega), if_neg (by omega)]
  have hlt : ∀ j, 0 ≤ j → j < max (nS n (nLa n) 2) (k + 1) → j ≠ k → j < nS n (nLa n) 2 := by
    intro j j0 j1 j2
    by_cases h : nEn n (nLa n) f = -1
    · have := hk1 h; omega
    · have := hk2 h; omega
  have eo : ∀ s w, s ≠ nLa n → 0 ≤ w → w < 25 → nS (nE1 n f v) s w = nS n s w := fun s w h w0 w1 => by
    rw [eS s w w0 w1, if_neg (by omega), if_neg (by omega), if_neg (by omega)]
  have e2 : nS (nE1 n f v) (nLa n) 2 = max (nS n (nLa n) 2) (k + 1) := by rw [eS _ 2 (by omega) (by omega), if_neg (by omega), if_neg (by omega), if_pos ⟨rfl, rfl⟩]
  have e013 : ∀ w, w = 0 ∨ w = 1 ∨ w = 3 ∨ w = 4 → nS (nE1 n f v) (nLa n) w = nS n (nLa n) w := fun w hw => by
    rw [eS _ w (by omega) (by omega), if_neg (by omega), if_neg (by omega), if_neg (by omega)]
  refine ⟨⟨?_, fun b b0 b1 => ?_, ⟨?_, fun u u0 u1 => ?_⟩, fun s s0 s1 => ?_⟩, ?_, hla2, by rw [e2, hcnt]⟩
  · unfold nWn
    rw [e 0 (by omega), e 1 (by omega), e 2 (by omega), e 3 (by omega), e 4 (by omega), e 5 (by omega), e 6 (by omega)]
    exact hn.1
  · rw [e (7 + b) (by omega), e (103 + b) (by omega), e (199 + b) (by omega), e (295 + b) (by omega), e (391 + b) (by omega), e (487 + b) (by omega), e (583 + b) (by omega), e (679 + b) (by omega), e 0 (by omega), e 1 (by omega), e 3 (by omega), e 4 (by omega), e 6 (by omega)]
    exact hn.2.1 b b0 b1
  · rw [e 6 (by omega), e 4 (by omega)]
    exact hn.2.2.1.1
  · rw [e 6 (by omega)] at u1
    obtain ⟨a1, a2, a3, a4, a5, a6, a7⟩ := hn.2.2.1.2 u u0 u1
    have eV : ∀ w, 0 ≤ w → w < 5 → nV (nE1 n f v) u w = nV n u w := fun w w0 w1 => e _ (by omega)
    rw [eV 0 (by omega) (by omega), eV 1 (by omega) (by omega), eV 2 (by omega) (by omega), eV 3 (by omega) (by omega), eV 4 (by omega) (by omega), e 2 (by omega), e 3 (by omega), e 4 (by omega)]
    refine ⟨a1, a2, a3, a4, a5, a6, fun s j s0 s1 j0 j1 j2 => ?_⟩
    by_cases hsl : s = nLa n
    · subst hsl
      rw [e2] at j1
      rw [hvers j j0 j1] at j2
      rw [hfile j j0 j1]
      by_cases hj : j = k
      · rw [if_pos hj] at j2 ⊢
        subst j2
        exact hvf u0
      · rw [if_neg hj] at j2 ⊢
        exact a7 _ j s0 s1 j0 (hlt j j0 j1 hj) j2
    · have he := hn.2.2.2.ent hn.1 s0 s1
      rw [eo s 2 hsl (by omega) (by omega)] at j1
      rw [eo s _ hsl (by omega) (by omega)] at j2
      rw [eo s _ hsl (by omega) (by omega)]
      exact a7 s j s0 s1 j0 j1 j2
  · rw [e 3 (by omega)] at s1
    show nWs1 (nE1 n f v) s
    by_cases hsl : s = nLa n
    · subst hsl
      obtain ⟨b1, b2, b3, b4, b5, b6, b7⟩ := hs
      unfold nWs1
      rw [e013 0 (by omega), e013 1 (by omega), e013 3 (by omega), e013 4 (by omega), e2, e 2 (by omega), e 3 (by omega), e 4 (by omega), e 6 (by omega)]
      have hd0 : nS n (nLa n) 3 = 0 := by
        by_cases h : 0 < nS n (nLa n) 3
        · have := b5.2.1.mp h; omega
        · omega
      refine ⟨b1, b2, b3, ⟨by omega, ?_⟩, ⟨b5.1, b5.2.1, fun z => by omega⟩, ?_, fun j j0 j1 => ?_⟩
      · rw [hcnt]
        have hmem : ∀ g, (nEn (nE1 n f v) (nLa n) g ≠ -1 ↔ nEn n (nLa n) g ≠ -1 ∨ g = f) := by
          intro g
          rw [nEn_iff, nEn_iff, e2]
          constructor
          · rintro ⟨j, j0, j1, j2⟩
            rw [hfile j j0 j1] at j2
            by_cases hj : j = k
            · rw [if_pos hj] at j2; exact Or.inr j2.symm
            · rw [if_neg hj] at j2; exact Or.inl ⟨j, j0, hlt j j0 j1 hj, j2⟩
          · rintro (⟨j, j0, j1, j2⟩ | h)
            · by_cases hj : j = k
              · refine ⟨k, k0, hkK, ?_⟩
                rw [hfile k k0 hkK, if_pos rfl]
                have hne : nEn n (nLa n) f ≠ -1 := by
                  intro z
                  have := hk1 z
                  omega
                have h5 := (hk2 hne).1
                rcases zfs_spec (P := fun k => decide (nS n (nLa n) (5 + 2 * k) = f)) (nS n (nLa n) 2).toNat 0 (by omega) with ⟨h1, _⟩ | ⟨_, _, h1, _⟩
                · exact absurd h1 hne
                · have h6 : nS n (nLa n) (5 + 2 * nEn n (nLa n) f) = f := of_decide_eq_true h1
                  rw [← h5, ← hj, j2] at h6
                  exact h6.symm
              · refine ⟨j, j0, by omega, ?_⟩
                rw [hfile j j0 (by omega), if_neg hj]
                exact j2
            · exact ⟨k, k0, hkK, by rw [hfile k k0 hkK, if_pos rfl]; exact h.symm⟩
        by_cases h : nEn n (nLa n) f = -1
        · rw [zb_dpos h]
          have h5 := zcn_one (P := fun g => decide (nEn n (nLa n) g ≠ -1)) (Q := fun g => decide (nEn (nE1 n f v) (nLa n) g ≠ -1)) (j := f) (n 2).toNat 0 hf0 (by omega) (by simp [h]) (by have := (hmem f).mpr (Or.inr rfl); simpa using this) (fun g hg _ _ => by
            have := hmem g
            simp only [hg, or_false] at this
            exact decide_eq_decide.mpr this)
          have h6 := b4.2
          omega
        · rw [zb_dneg h]
          have h5 := zcn_le (P := fun g => decide (nEn n (nLa n) g ≠ -1)) (Q := fun g => decide (nEn (nE1 n f v) (nLa n) g ≠ -1)) (n 2).toNat 0 (fun g _ _ hp => by
            have := (hmem g).mpr (Or.inl (of_decide_eq_true hp))
            exact decide_eq_true this)
          have h6 := b4.2
          omega
      · rw [b6, if_neg (by omega), if_neg (by omega)]
      · rw [hfile j j0 j1, hvers j j0 j1]
        by_cases hj : j = k
        · rw [if_pos hj, if_pos hj]; omega
        · rw [if_neg hj, if_neg hj]
          exact b7 j j0 (hlt j j0 j1 hj)
    · exact nWs1_cg s0 (fun t w t0 t1 w0 w1 => eo t w (by omega) w0 w1) (e 2 (by omega)) (by omega) (by omega) (fun z => by rw [e 3 (by omega)]; exact (hn.2.2.2 s s0 s1).2.1 z) (by rw [e 4 (by omega)]; omega) (by rw [e 6 (by omega)]; omega) (hn.2.2.2 s s0 s1)
  · rw [nOp_iff, hla2, e013 0 (by omega)]
    exact ⟨h3, hst⟩
end
section
/-! The changes keep the row in order. -/
theorem nWw_0 {n : zN} {f m : Int} (h : nWw n f m = 0) : nTm n = false ∧ n 4 + (m + nDl (nEw n f)) ≤ n 0 - n 1 ∧ nHs n m = true := by
  unfold nWw at h
  cases h1 : nTm n
  · rw [h1, if_neg (by simp)] at h
    by_cases h2 : n 4 + (m + nDl (nEw n f)) ≤ n 0 - n 1
    · rw [if_pos h2] at h
      cases h3 : nHs n m
      · rw [h3, if_neg (by simp)] at h; omega
      · exact ⟨rfl, h2, rfl⟩
    · rw [if_neg h2] at h; omega
  · rw [h1, if_pos rfl] at h; omega
theorem nWd_0 {n : zN} {e : Int} (h : nWd n e = 0) : n 4 + nDl e ≤ n 0 - n 1 ∧ nHs n (nDl e) = true := by
  unfold nWd at h
  by_cases h2 : n 4 + nDl e ≤ n 0 - n 1
  · rw [if_pos h2] at h
    cases h3 : nHs n (nDl e)
    · rw [h3, if_neg (by simp)] at h; omega
    · exact ⟨h2, rfl⟩
  · rw [if_neg h2] at h; omega
theorem nWb_ag {n n' : zN} (h : ∀ i, 7 ≤ i → i < 775 → n' i = n i) (h0 : n' 0 = n 0) (h1 : n' 1 = n 1) (h3 : n 3 ≤ n' 3) (h4 : n' 4 = n 4) (h6 : n 6 ≤ n' 6) (hB : nWb n) : nWb n' := by
  intro b b0 b1
  obtain ⟨k1, k2, k3, k4, k5, k6⟩ := hB b b0 b1
  rw [h (7 + b) (by omega) (by omega), h (103 + b) (by omega) (by omega), h (199 + b) (by omega) (by omega), h (295 + b) (by omega) (by omega), h (391 + b) (by omega) (by omega), h (487 + b) (by omega) (by omega), h (583 + b) (by omega) (by omega), h (679 + b) (by omega) (by omega), h0, h1, h4]
  exact ⟨k1, k2, k3, ⟨k4.1, by omega⟩, ⟨k5.1, by omega⟩, k6⟩
theorem nBc_ag {n n' : zN} (h : ∀ i, 103 ≤ i → i < 199 → n' i = n i) (h4 : n' 4 = n 4) {k : Nat} (hk0 : 0 ≤ n 4) (hk : n 4 + k ≤ 96) : nBc n' k = nBc n k := by
  unfold nBc
  rw [h4]
  exact zcn_congr _ _ (fun c c0 c1 => by rw [h _ (by omega) (by omega)])
theorem nGc_ag {n n' : zN} (h : ∀ i, 7 ≤ i → i < 199 → n' i = n i) (h0 : n' 0 = n 0) (h1 : n' 1 = n 1) (hN : nWn n) : nGc n' = nGc n := by
  have hN' := hN.r
  unfold nGc
  rw [h0, h1]
  exact zcn_congr _ _ (fun c c0 c1 => by rw [h _ (by omega) (by omega), h _ (by omega) (by omega)])
theorem nAr_out {n : zN} {v f first m tag se i : Int} (hv : 0 ≤ v) (hi : i < 775 + 5 * v ∨ 780 + 5 * v ≤ i) : nAr n v f first m tag se i = n i := by
  unfold nAr
  rw [zu_ne (by omega), zu_ne (by omega), zu_ne (by omega), zu_ne (by omega), zu_ne (by omega)]
theorem nAr_V {n : zN} {v f first m tag se : Int} : nV (nAr n v f first m tag se) v 0 = f ∧ nV (nAr n v f first m tag se) v 1 = first ∧ nV (nAr n v f first m tag se) v 2 = m ∧ nV (nAr n v f first m tag se) v 3 = tag ∧ nV (nAr n v f first m tag se) v 4 = se := by
  unfold nV nAr
  refine ⟨?_, ?_, ?_, ?_, ?_⟩ <;> simp (disch := omega) only [zu_eq, zu_ne]
theorem nLa_lo {n n' : zN} (h : n' 3 = n 3) : nLa n' = nLa n := by unfold nLa; rw [h]
/-- writing a version: each stage -/
theorem nWrs_W {n : zN} (hn : nW n) {f m tag : Int} (hf0 : 0 ≤ f) (hf1 : f < n 2) (hm0 : 1 ≤ m) (hm1 : m ≤ 8) (ht0 : 0 ≤ tag) (ht1 : tag ≤ 999) (h : nWw n f m = 0) :
    nW (nBi n) ∧ nOp (nBi n) = true ∧ (nWn (nAdd (nBi n) f m tag) ∧ nWb (nAdd (nBi n) f m tag) ∧ nAdd (nBi n) f m tag 4 + m ≤ nAdd (nBi n) f m tag 0 - nAdd (nBi n) f m tag 1 ∧ nBc (nAdd (nBi n) f m tag) m.toNat ≤ nGc (nAdd (nBi n) f m tag) ∧ (∀ i, i ≠ 6 → i < 775 + 5 * n 6 ∨ 780 + 5 * n 6 ≤ i → nAdd (nBi n) f m tag i = nBi n i) ∧ nAdd (nBi n) f m tag 6 = n 6 + 1) ∧ nW (nWl 1 (nLa (nBi n)) (n 6) (nAdd (nBi n) f m tag) 0 m.toNat) ∧ nW (nWrs n f m tag) := by
  obtain ⟨hT, hroom, hsp⟩ := nWw_0 h
  have hN := hn.1.r
  obtain ⟨b1, b2⟩ := nBi_W hn hT
  have hEw := nEw_rng hn f
  have hD := nDl_rng hEw.1 (by omega)
  obtain ⟨n1, hn1⟩ : ∃ x, x = nBi n := ⟨_, rfl⟩
  have e1 : ∀ i, i < 1255 → i ≠ 3 → n1 i = n i := fun i hi h3 => by rw [hn1]; exact nBi_lo (by omega) hi h3
  rw [← hn1] at b1 b2 ⊢
  have hN1 := b1.1.r
  have hla : nLa n1 = n1 3 - 1 := rfl
  have hla0 := (nOp_iff.mp b2).1
  have hver := hn.2.2.1.1
  obtain ⟨n2, hn2⟩ : ∃ x, x = nAdd n1 f m tag := ⟨_, rfl⟩
  have hv6 : n1 6 = n 6 := e1 6 (by omega) (by omega)
  have e2 : ∀ i, i ≠ 6 → i < 775 + 5 * n 6 ∨ 780 + 5 * n 6 ≤ i → n2 i = n1 i := fun i h6 hi => by
    rw [hn2]; unfold nAdd; rw [nAr_out (by omega) (by omega), zu_ne h6]
  have e26 : n2 6 = n 6 + 1 := by rw [hn2]; unfold nAdd; rw [nAr_out (by omega) (by omega), zu_eq rfl, hv6]
  rw [← hn2]
  have a1 : nWn n2 := by
    unfold nWn
    rw [e2 0 (by omega) (by omega), e2 1 (by omega) (by omega), e2 2 (by omega) (by omega), e2 3 (by omega) (by omega), e2 4 (by omega) (by omega), e2 5 (by omega) (by omega), e26]
    have := e1 4 (by omega) (by omega)
    have := e1 0 (by omega) (by omega)
    have := e1 1 (by omega) (by omega)
    omega
  have a2 : nWb n2 := nWb_ag (fun i h7 h8 => e2 i (by omega) (by omega)) (e2 0 (by omega) (by omega)) (e2 1 (by omega) (by omega)) (by rw [e2 3 (by omega) (by omega)]; omega) (e2 4 (by omega) (by omega)) (by omega) b1.2.1
  have a3 : n2 4 + m ≤ n2 0 - n2 1 := by
    rw [e2 4 (by omega) (by omega), e2 0 (by omega) (by omega), e2 1 (by omega) (by omega), e1 4 (by omega) (by omega), e1 0 (by omega) (by omega), e1 1 (by omega) (by omega)]
    omega
  have a4 : nBc n2 m.toNat ≤ nGc n2 := by
    have h5 := (nHs_iff n m).mp hsp
    have c : ∀ i, 7 ≤ i → i < 199 → n2 i = n i := fun i h7 h8 => by rw [e2 i (by omega) (by omega), e1 i (by omega) (by omega)]
    have c2 : ∀ i, i = 0 ∨ i = 1 ∨ i = 4 → n2 i = n i := fun i hi => by rw [e2 i (by omega) (by omega), e1 i (by omega) (by omega)]
    rw [nBc_ag (fun i h7 h8 => c i (by omega) h8) (c2 4 (by omega)) (by omega) (by omega), nGc_ag c (c2 0 (by omega)) (c2 1 (by omega)) hn.1]
    exact h5
  have h3 := nWl_W (kind := 1) (se := nLa n1) (v := n 6) m.toNat n2 0 a1 a2 (by omega) a4 (Or.inl rfl) hla0 (by rw [e2 3 (by omega) (by omega)]; omega) (by omega) (by omega) (fun _ => by omega) (by omega) (by omega)
  obtain ⟨n3, hn3⟩ : ∃ x, x = nWl 1 (nLa n1) (n 6) n2 0 m.toNat := ⟨_, rfl⟩
  rw [← hn3] at h3
  rw [← hn3]
  obtain ⟨c1, c2, c3, c4⟩ := h3
  have c4' : ∀ i, i ≠ 4 → i < 7 ∨ 775 ≤ i → n3 i = n2 i := fun i h4 hi => c4 i h4 (by omega)
  have d6 : n3 6 = n 6 + 1 := by rw [c4' 6 (by omega) (by omega), e26]
  have d3 : n3 3 = n1 3 := by rw [c4' 3 (by omega) (by omega), e2 3 (by omega) (by omega)]
  have d2 : n3 2 = n1 2 := by rw [c4' 2 (by omega) (by omega), e2 2 (by omega) (by omega)]
  have d4 : n3 4 = n1 4 + m := by rw [c3, e2 4 (by omega) (by omega)]; omega
  have dS : ∀ i, 1255 ≤ i → n3 i = n1 i := fun i hi => by rw [c4' i (by omega) (by omega), e2 i (by omega) (by omega)]
  have dSs : ∀ s w, 0 ≤ s → 0 ≤ w → nS n3 s w = nS n1 s w := fun s w s0 w0 => dS _ (by omega)
  have dV : ∀ v w, 0 ≤ v → v < n 6 → 0 ≤ w → w < 5 → nV n3 v w = nV n1 v w := fun v w v0 v1 w0 w1 => by
    unfold nV
    rw [c4' _ (by omega) (by omega), e2 _ (by omega) (by omega)]
  have dVn : nV n3 (n 6) 0 = f ∧ nV n3 (n 6) 1 = n1 4 ∧ nV n3 (n 6) 2 = m ∧ nV n3 (n 6) 3 = tag ∧ nV n3 (n 6) 4 = nLa n1 := by
    have h5 : ∀ w, 0 ≤ w → w < 5 → nV n3 (n 6) w = nV n2 (n 6) w := fun w w0 w1 => c4' _ (by omega) (by omega)
    have h6 := nAr_V (n := zu n1 6 (n1 6 + 1)) (v := n1 6) (f := f) (first := n1 4) (m := m) (tag := tag) (se := nLa n1)
    have h7 : n2 = nAr (zu n1 6 (n1 6 + 1)) (n1 6) f (n1 4) m tag (nLa n1) := hn2
    rw [← h7, hv6] at h6
    rw [h5 0 (by omega) (by omega), h5 1 (by omega) (by omega), h5 2 (by omega) (by omega), h5 3 (by omega) (by omega), h5 4 (by omega) (by omega)]
    exact h6
  have w3 : nW n3 := by
    refine ⟨c1, c2, ⟨by rw [d6, d4]; have := e1 4 (by omega) (by omega); omega, fun v v0 v1 => ?_⟩, nWs_cg dS d2 d3 (by omega) (by omega) b1.2.2.2⟩
    rw [d6] at v1
    rw [d2, d3, d4]
    by_cases hv : v = n 6
    · subst hv
      rw [dVn.1, dVn.2.1, dVn.2.2.1, dVn.2.2.2.1, dVn.2.2.2.2]
      have := e1 2 (by omega) (by omega)
      refine ⟨by omega, by omega, by omega, by omega, by omega, by omega, fun s k s0 s1 k0 k1 k2 => ?_⟩
      rw [dSs s 2 s0 (by omega)] at k1
      rw [dSs s _ s0 (by omega)] at k2
      have := ((b1.2.2.2 s s0 s1).2.2.2.2.2.2 k k0 k1).2
      omega
    · obtain ⟨x1, x2, x3, x4, x5, x6, x7⟩ := b1.2.2.1.2 v v0 (by omega)
      rw [dV v 0 v0 (by omega) (by omega) (by omega), dV v 1 v0 (by omega) (by omega) (by omega), dV v 2 v0 (by omega) (by omega) (by omega), dV v 3 v0 (by omega) (by omega) (by omega), dV v 4 v0 (by omega) (by omega) (by omega)]
      refine ⟨x1, x2, x3, by omega, x5, x6, fun s k s0 s1 k0 k1 k2 => ?_⟩
      rw [dSs s 2 s0 (by omega)] at k1
      rw [dSs s _ s0 (by omega)] at k2
      rw [dSs s _ s0 (by omega)]
      exact x7 s k s0 s1 k0 k1 k2
  have o3 : nOp n3 = true := by
    rw [nOp_iff] at b2 ⊢
    rw [nLa_lo d3, dSs _ 0 b2.1 (by omega)]
    exact b2
  refine ⟨b1, b2, ⟨a1, a2, a3, a4, e2, e26⟩, w3, ?_⟩
  have h9 := nE1_W w3 o3 (f := f) (v := n 6) hf0 (by rw [d2]; have := e1 2 (by omega) (by omega); omega) (by omega) (by omega) (fun _ => dVn.1)
  have h10 : nWrs n f m tag = nE1 n3 f (n 6) := by unfold nWrs; rw [← hn1, ← hn2, ← hn3]
  rw [h10]
  exact h9.1
theorem nWe_0 {n : zN} {f : Int} (h : nWe n f = 0) : nFv n f 12 ≠ -1 ∧ nTm n = false := by
  unfold nWe at h
  by_cases h1 : nFv n f 12 = -1
  · rw [if_pos h1] at h; omega
  · rw [if_neg h1] at h
    cases h2 : nTm n
    · exact ⟨h1, rfl⟩
    · rw [h2, if_pos rfl] at h; omega
theorem nErs_W {n : zN} (hn : nW n) {f : Int} (hf0 : 0 ≤ f) (hf1 : f < n 2) (h : nWe n f = 0) : nW (nErs n f) := by
  have hN := hn.1.r
  obtain ⟨b1, b2⟩ := nBi_W hn (nWe_0 h).2
  have e1 : ∀ i, i < 1255 → i ≠ 3 → nBi n i = n i := fun i hi h3 => nBi_lo (by omega) hi h3
  exact (nE1_W b1 b2 hf0 (by rw [e1 2 (by omega) (by omega)]; omega) (by omega) (by rw [e1 6 (by omega) (by omega)]; omega) (fun z => by omega)).1
theorem nWc_0 {n : zN} (h : nWc n = 0) : nOp n = true ∧ nWd n (nS n (nLa n) 2) = 0 := by
  unfold nWc at h
  cases h1 : nOp n
  · rw [h1, if_neg (by simp)] at h; omega
  · rw [h1, if_pos rfl] at h; exact ⟨rfl, h⟩
/-- the same versions, sessions' entries no more than before -/
theorem nWv_cg2 {n n' : zN} (h : ∀ i, 775 ≤ i → i < 1255 → n' i = n i) (h2 : n' 2 = n 2) (h3 : n' 3 = n 3) (h4 : n 4 ≤ n' 4) (h6 : n' 6 = n 6) (h60 : n 6 ≤ 96) (hS : ∀ s k, 0 ≤ s → s < n 3 → 0 ≤ k → k < nS n' s 2 → k < nS n s 2 ∧ nS n' s (5 + 2 * k) = nS n s (5 + 2 * k) ∧ nS n' s (6 + 2 * k) = nS n s (6 + 2 * k)) (hV : nWv n) : nWv n' := by
  refine ⟨by have := hV.1; omega, fun v v0 v1 => ?_⟩
  rw [h6] at v1
  obtain ⟨a1, a2, a3, a4, a5, a6, a7⟩ := hV.2 v v0 v1
  have e : ∀ w, 0 ≤ w → w < 5 → nV n' v w = nV n v w := fun w hw hw2 => h _ (by omega) (by omega)
  rw [e 0 (by omega) (by omega), e 1 (by omega) (by omega), e 2 (by omega) (by omega), e 3 (by omega) (by omega), e 4 (by omega) (by omega), h2, h3]
  refine ⟨a1, a2, a3, by omega, a5, a6, fun s k s0 s1 k0 k1 k2 => ?_⟩
  have h7 := hS s k s0 s1 k0 k1
  rw [h7.2.2] at k2
  rw [h7.2.1]
  exact a7 s k s0 s1 k0 h7.1 k2
theorem nCl_W {n : zN} (hn : nW n) (h : nWc n = 0) : (nWn (nCl0 n) ∧ nWb (nCl0 n) ∧ (∀ i, i < 1255 → nCl0 n i = n i) ∧ nBc n (nDl (nS n (nLa n) 2)).toNat ≤ nGc n ∧ n 4 + nDl (nS n (nLa n) 2) ≤ n 0 - n 1 ∧ (1 ≤ nDl (nS n (nLa n) 2) ∧ nDl (nS n (nLa n) 2) ≤ 3)) ∧ nW (nCl n) ∧ (∀ s w, 0 ≤ s → 0 ≤ w → w < 25 → nS (nCl n) s w = if s = nLa n ∧ w = 0 then 1 else if s = nLa n ∧ w = 4 then nCb n (nLa n) + 1 else if s = nLa n ∧ w = 3 then n 4 + 1 else nS n s w) ∧ (∀ i, i < 1255 → nCl n i = nWl 2 (nLa n) (-1) (nCl0 n) 0 (nDl (nS n (nLa n) 2)).toNat i) ∧ (∀ i, i ≠ 4 → i < 7 ∨ (775 ≤ i ∧ i < 1255) → nCl n i = n i) := by
  have hN := hn.1.r
  obtain ⟨hop, hd⟩ := nWc_0 h
  obtain ⟨hroom, hsp⟩ := nWd_0 hd
  obtain ⟨h3, hst⟩ := nOp_iff.mp hop
  have hla : nLa n = n 3 - 1 := rfl
  have hent := hn.2.2.2.ent hn.1 h3 (by omega : nLa n < n 3)
  have hD := nDl_10 hent.1 (by omega)
  obtain ⟨D, hDe⟩ : ∃ D, D = nDl (nS n (nLa n) 2) := ⟨_, rfl⟩
  rw [← hDe] at hD hroom hsp ⊢
  have e0 : ∀ i, i < 1255 → nCl0 n i = n i := fun i hi => by unfold nCl0; rw [zus_lo h3 (by omega) hi, zus_lo h3 (by omega) hi]
  have a1 : nWn (nCl0 n) := by
    unfold nWn
    rw [e0 0 (by omega), e0 1 (by omega), e0 2 (by omega), e0 3 (by omega), e0 4 (by omega), e0 5 (by omega), e0 6 (by omega)]
    exact hn.1
  have a2 : nWb (nCl0 n) := nWb_ag (fun i _ hi => e0 i (by omega)) (e0 0 (by omega)) (e0 1 (by omega)) (by rw [e0 3 (by omega)]; omega) (e0 4 (by omega)) (by rw [e0 6 (by omega)]; omega) hn.2.1
  have a4 : nBc n D.toNat ≤ nGc n := (nHs_iff n D).mp hsp
  have a5 : nBc (nCl0 n) D.toNat ≤ nGc (nCl0 n) := by
    rw [nBc_ag (fun i _ hi => e0 i (by omega)) (e0 4 (by omega)) (by omega) (by omega), nGc_ag (fun i _ hi => e0 i (by omega)) (e0 0 (by omega)) (e0 1 (by omega)) hn.1]
    exact a4
  have hw := nWl_W (kind := 2) (se := nLa n) (v := -1) D.toNat (nCl0 n) 0 a1 a2 (by rw [e0 4 (by omega), e0 0 (by omega), e0 1 (by omega)]; omega) a5 (Or.inr rfl) h3 (by rw [e0 3 (by omega)]; omega) (by omega) (by rw [e0 6 (by omega)]; omega) (fun z => by omega) (by omega) (by omega)
  obtain ⟨n3, hn3⟩ : ∃ x, x = nWl 2 (nLa n) (-1) (nCl0 n) 0 D.toNat := ⟨_, rfl⟩
  rw [← hn3] at hw ⊢
  obtain ⟨c1, c2, c3, c4⟩ := hw
  have hcl : nCl n = zus n3 (nLa n) 0 1 := by unfold nCl; rw [← hDe, ← hn3]
  have cl_lo : ∀ i, i < 1255 → nCl n i = n3 i := fun i hi => by rw [hcl]; exact zus_lo h3 (by omega) hi
  have clS : ∀ s w, 0 ≤ s → 0 ≤ w → w < 25 → nS (nCl n) s w = if s = nLa n ∧ w = 0 then 1 else if s = nLa n ∧ w = 4 then nCb n (nLa n) + 1 else if s = nLa n ∧ w = 3 then n 4 + 1 else nS n s w := by
    intro s w s0 w0 w1
    rw [hcl, nS_zus (by omega) (by omega) w0 w1]
    by_cases h5 : s = nLa n ∧ w = 0
    · rw [if_pos h5, if_pos h5]
    · rw [if_neg h5, if_neg h5]
      have h6 : nS n3 s w = nS (nCl0 n) s w := c4 _ (by omega) (by omega)
      rw [h6]
      unfold nCl0
      rw [nS_zus (by omega) (by omega) w0 w1, nS_zus (by omega) (by omega) w0 w1]
  have f4 : nCl n 4 = n 4 + D := by rw [cl_lo 4 (by omega), c3, e0 4 (by omega)]; omega
  have fo : ∀ i, i ≠ 4 → i < 7 ∨ (775 ≤ i ∧ i < 1255) → nCl n i = n i := fun i hi4 hi => by rw [cl_lo i (by omega), c4 i hi4 (by omega), e0 i (by omega)]
  have eo : ∀ s w, s ≠ nLa n → 0 ≤ s → 0 ≤ w → w < 25 → nS (nCl n) s w = nS n s w := fun s w h5 s0 w0 w1 => by
    rw [clS s w s0 w0 w1, if_neg (by omega), if_neg (by omega), if_neg (by omega)]
  have el : ∀ w, 0 ≤ w → w < 25 → w ≠ 0 → w ≠ 3 → w ≠ 4 → nS (nCl n) (nLa n) w = nS n (nLa n) w := fun w w0 w1 h5 h6 h7 => by
    rw [clS _ w h3 w0 w1, if_neg (by omega), if_neg (by omega), if_neg (by omega)]
  refine ⟨⟨a1, a2, e0, a4, hroom, hD⟩, ⟨?_, ?_, ?_, fun s s0 s1 => ?_⟩, clS, cl_lo, fo⟩
  · unfold nWn at c1 ⊢
    rw [cl_lo 0 (by omega), cl_lo 1 (by omega), cl_lo 2 (by omega), cl_lo 3 (by omega), cl_lo 4 (by omega), cl_lo 5 (by omega), cl_lo 6 (by omega)]
    exact c1
  · exact nWb_ag (fun i _ hi => cl_lo i (by omega)) (cl_lo 0 (by omega)) (cl_lo 1 (by omega)) (by rw [cl_lo 3 (by omega)]; omega) (cl_lo 4 (by omega)) (by rw [cl_lo 6 (by omega)]; omega) c2
  · refine nWv_cg2 (fun i h5 h6 => fo i (by omega) (by omega)) (fo 2 (by omega) (by omega)) (fo 3 (by omega) (by omega)) (by omega) (fo 6 (by omega) (by omega)) (by omega) (fun s k s0 s1 k0 k1 => ?_) hn.2.2.1
    have he := hn.2.2.2.ent hn.1 s0 s1
    by_cases hs : s = nLa n
    · subst hs
      rw [el 2 (by omega) (by omega) (by omega) (by omega) (by omega)] at k1
      exact ⟨k1, el _ (by omega) (by omega) (by omega) (by omega) (by omega), el _ (by omega) (by omega) (by omega) (by omega) (by omega)⟩
    · rw [eo s 2 hs s0 (by omega) (by omega)] at k1
      exact ⟨k1, eo s _ hs s0 (by omega) (by omega), eo s _ hs s0 (by omega) (by omega)⟩
  · rw [fo 3 (by omega) (by omega)] at s1
    show nWs1 (nCl n) s
    by_cases hs : s = nLa n
    · subst hs
      obtain ⟨b1, b2, b3, b4, b5, b6, b7⟩ := hn.2.2.2 (nLa n) s0 s1
      have x0 : nS (nCl n) (nLa n) 0 = 1 := by rw [clS _ 0 h3 (by omega) (by omega), if_pos ⟨rfl, rfl⟩]
      have x3 : nS (nCl n) (nLa n) 3 = n 4 + 1 := by rw [clS _ 3 h3 (by omega) (by omega), if_neg (by omega), if_neg (by omega), if_pos ⟨rfl, rfl⟩]
      have x4 : nS (nCl n) (nLa n) 4 = nCb n (nLa n) + 1 := by rw [clS _ 4 h3 (by omega) (by omega), if_neg (by omega), if_pos ⟨rfl, rfl⟩]
      unfold nWs1
      rw [x0, x3, x4, el 1 (by omega) (by omega) (by omega) (by omega) (by omega), el 2 (by omega) (by omega) (by omega) (by omega) (by omega), fo 2 (by omega) (by omega), fo 3 (by omega) (by omega), f4, fo 6 (by omega) (by omega), ← hDe]
      refine ⟨by omega, by omega, b3, ⟨b4.1, ?_⟩, by omega, ?_, fun k k0 k1 => ?_⟩
      · have hcong : ∀ g, nEn (nCl n) (nLa n) g = nEn n (nLa n) g := by
          intro g
          unfold nEn
          rw [el 2 (by omega) (by omega) (by omega) (by omega) (by omega)]
          exact zfs_congr _ _ (fun k k0 k1 => by rw [el _ (by omega) (by omega) (by omega) (by omega) (by omega)])
        rw [zcn_congr (Q := fun f => decide (nEn n (nLa n) f ≠ -1)) _ _ (fun f _ _ => by rw [hcong])]
        exact b4.2
      · rw [if_pos (by omega)]
        unfold nCb
        rw [zls_congr (P := fun t => decide (nS n t 0 = 1)) (Q := fun t => decide (nS (nCl n) t 0 = 1)) _ (fun t t0 t1 => by rw [eo t 0 (by omega) t0 (by omega) (by omega)])]
      · rw [el _ (by omega) (by omega) (by omega) (by omega) (by omega), el _ (by omega) (by omega) (by omega) (by omega) (by omega)]
        exact b7 k k0 k1
    · exact nWs1_cg s0 (fun t w t0 t1 w0 w1 => eo t w (by omega) t0 w0 w1) (fo 2 (by omega) (by omega)) (by omega) (by omega) (fun z => by rw [fo 3 (by omega) (by omega)]; exact (hn.2.2.2 s s0 s1).2.1 z) (by omega) (by rw [fo 6 (by omega) (by omega)]; omega) (hn.2.2.2 s s0 s1)
/-- changing the state of the latest session, and forgetting its entries or not -/
theorem nSt_W {n n' : zN} (hn : nW n) (h0 : 0 ≤ nLa n) (hlo : ∀ i, i < 1255 → n' i = n i) (x y : Int) (hx : x = 2 ∨ x = 3) (hy : y = 0 ∨ y = nS n (nLa n) 2) (hS : ∀ s w, 0 ≤ s → 0 ≤ w → w < 25 → nS n' s w = if s = nLa n ∧ w = 2 then y else if s = nLa n ∧ w = 0 then x else nS n s w) (hd : nS n (nLa n) 3 = 0) : nW n' := by
  have hN := hn.1.r
  have hla : nLa n = n 3 - 1 := rfl
  have eo : ∀ s w, s ≠ nLa n → 0 ≤ s → 0 ≤ w → w < 25 → nS n' s w = nS n s w := fun s w h5 s0 w0 w1 => by
    rw [hS s w s0 w0 w1, if_neg (by omega), if_neg (by omega)]
  have el : ∀ w, 0 ≤ w → w < 25 → w ≠ 0 → w ≠ 2 → nS n' (nLa n) w = nS n (nLa n) w := fun w w0 w1 h5 h6 => by
    rw [hS _ w h0 w0 w1, if_neg (by omega), if_neg (by omega)]
  have x0 : nS n' (nLa n) 0 = x := by rw [hS _ 0 h0 (by omega) (by omega), if_neg (by omega), if_pos ⟨rfl, rfl⟩]
  have x2 : nS n' (nLa n) 2 = y := by rw [hS _ 2 h0 (by omega) (by omega), if_pos ⟨rfl, rfl⟩]
  refine ⟨?_, ?_, ?_, fun s s0 s1 => ?_⟩
  · unfold nWn
    rw [hlo 0 (by omega), hlo 1 (by omega), hlo 2 (by omega), hlo 3 (by omega), hlo 4 (by omega), hlo 5 (by omega), hlo 6 (by omega)]
    exact hn.1
  · exact nWb_ag (fun i _ hi => hlo i (by omega)) (hlo 0 (by omega)) (hlo 1 (by omega)) (by rw [hlo 3 (by omega)]; omega) (hlo 4 (by omega)) (by rw [hlo 6 (by omega)]; omega) hn.2.1
  · refine nWv_cg2 (fun i h5 h6 => hlo i h6) (hlo 2 (by omega)) (hlo 3 (by omega)) (by rw [hlo 4 (by omega)]; omega) (hlo 6 (by omega)) (by omega) (fun s k s0 s1 k0 k1 => ?_) hn.2.2.1
    have he := hn.2.2.2.ent hn.1 s0 s1
    by_cases hs : s = nLa n
    · subst hs
      rw [x2] at k1
      exact ⟨by omega, el _ (by omega) (by omega) (by omega) (by omega), el _ (by omega) (by omega) (by omega) (by omega)⟩
    · rw [eo s 2 hs s0 (by omega) (by omega)] at k1
      exact ⟨k1, eo s _ hs s0 (by omega) (by omega), eo s _ hs s0 (by omega) (by omega)⟩
  · rw [hlo 3 (by omega)] at s1
    show nWs1 n' s
    by_cases hs : s = nLa n
    · subst hs
      have he := hn.2.2.2.ent hn.1 s0 s1
      obtain ⟨b1, b2, b3, b4, b5, b6, b7⟩ := hn.2.2.2 (nLa n) s0 s1
      unfold nWs1
      rw [x0, x2, el 1 (by omega) (by omega) (by omega) (by omega), el 3 (by omega) (by omega) (by omega) (by omega), el 4 (by omega) (by omega) (by omega) (by omega), hd, hlo 2 (by omega), hlo 6 (by omega)]
      have hz := zcn_rng (fun f => decide (nEn n' (nLa n) f ≠ -1)) (n 2).toNat 0
      refine ⟨by omega, by omega, b3, ⟨by omega, ?_⟩, by omega, ?_, fun k k0 k1 => ?_⟩
      · rcases hy with hy | hy
        · rw [hy]; exact hz.1
        · have hcong : ∀ g, nEn n' (nLa n) g = nEn n (nLa n) g := by
            intro g
            unfold nEn
            rw [x2, hy]
            exact zfs_congr _ _ (fun k k0 k1 => by rw [el _ (by omega) (by omega) (by omega) (by omega)])
          rw [hy, zcn_congr (Q := fun f => decide (nEn n (nLa n) f ≠ -1)) _ _ (fun f _ _ => by rw [hcong])]
          exact b4.2
      · rw [if_neg (by omega)]
        rw [hd, if_neg (by omega)] at b6
        exact b6
      · rw [el _ (by omega) (by omega) (by omega) (by omega), el _ (by omega) (by omega) (by omega) (by omega)]
        exact b7 k k0 (by omega)
    · exact nWs1_cg s0 (fun t w t0 t1 w0 w1 => eo t w (by omega) t0 w0 w1) (hlo 2 (by omega)) (by omega) (by omega) (fun z => by rw [hlo 3 (by omega)]; exact (hn.2.2.2 s s0 s1).2.1 z) (by rw [hlo 4 (by omega)]; omega) (by rw [hlo 6 (by omega)]; omega) (hn.2.2.2 s s0 s1)
theorem nCrs_W {n : zN} (hn : nW n) (hop : nOp n = true) : nW (nCrs n) ∧ (∀ i, i < 1255 → nCrs n i = n i) ∧ (∀ s w, 0 ≤ s → 0 ≤ w → w < 25 → nS (nCrs n) s w = if s = nLa n ∧ w = 2 then 0 else if s = nLa n ∧ w = 0 then 2 else nS n s w) := by
  obtain ⟨h3, hst⟩ := nOp_iff.mp hop
  have hla : nLa n = n 3 - 1 := rfl
  have hlo : ∀ i, i < 1255 → nCrs n i = n i := fun i hi => by unfold nCrs; rw [zus_lo h3 (by omega) hi, zus_lo h3 (by omega) hi]
  have hS : ∀ s w, 0 ≤ s → 0 ≤ w → w < 25 → nS (nCrs n) s w = if s = nLa n ∧ w = 2 then 0 else if s = nLa n ∧ w = 0 then 2 else nS n s w := fun s w s0 w0 w1 => by
    unfold nCrs
    rw [nS_zus (by omega) (by omega) w0 w1, nS_zus (by omega) (by omega) w0 w1]
  refine ⟨nSt_W hn h3 hlo 2 0 (Or.inl rfl) (Or.inl rfl) hS ?_, hlo, hS⟩
  have b5 := (hn.2.2.2 (nLa n) h3 (by omega)).2.2.2.2.1
  by_cases h : 0 < nS n (nLa n) 3
  · have := b5.2.1.mp h; omega
  · omega
theorem nLo_iff {n : zN} : nLo n = true ↔ 0 ≤ nLa n ∧ nS n (nLa n) 0 = 2 := by
  unfold nLo
  simp
/-- the loop of a recovery: whichever versions, each file at most once -/
theorem nRl_W {P : Int → Bool} {fl : Int → Int} : ∀ (m : Nat) (n : zN) (v : Int), nW n → nOp n = true → 0 ≤ v → v + m ≤ n 6 → (∀ u, 0 ≤ u → u < n 6 → P u = true → fl u = nV n u 0) → (∀ u t, 0 ≤ u → u < t → t < n 6 → P u = true → P t = true → fl u ≠ fl t) → (∀ g, nEn n (nLa n) g ≠ -1 → ∃ u, 0 ≤ u ∧ u < v ∧ P u = true ∧ fl u = g) →
    nW (nRl P fl n v m) ∧ nOp (nRl P fl n v m) = true ∧ nLa (nRl P fl n v m) = nLa n ∧ (∀ i, i < 1255 → nRl P fl n v m i = n i) ∧ nS (nRl P fl n v m) (nLa n) 2 = nS n (nLa n) 2 + zcn P v m := by
  intro m
  induction m with
  | zero =>
    intro n v hn hop _ _ _ _ _
    exact ⟨hn, hop, rfl, fun _ _ => rfl, by simp [nRl, zcn]⟩
  | succ m ih =>
    intro n v hn hop h0 h1 hf hd hi
    have hN := hn.1.r
    obtain ⟨h3, hst⟩ := nOp_iff.mp hop
    have hla : nLa n = n 3 - 1 := rfl
    have hent := hn.2.2.2.ent hn.1 h3 (by omega : nLa n < n 3)
    have hv := (hn.2.2.1.2 v h0 (by omega)).1
    cases hp : P v
    · have e : nRl P fl n v (m + 1) = nRl P fl n (v + 1) m := by rw [nRl, hp, if_neg (by simp)]
      rw [e, zcn, hp]
      obtain ⟨a1, a2, a3, a4, a5⟩ := ih n (v + 1) hn hop (by omega) (by omega) hf hd (fun g hg => by
        obtain ⟨u, u0, u1, u2⟩ := hi g hg
        exact ⟨u, u0, by omega, u2⟩)
      exact ⟨a1, a2, a3, a4, by rw [a5]; simp [zb]⟩
    · have e : nRl P fl n v (m + 1) = nRl P fl (nE1 n (fl v) v) (v + 1) m := by rw [nRl, hp, if_pos rfl]
      have hfv := hf v h0 (by omega) hp
      have hnew : nEn n (nLa n) (fl v) = -1 := by
        by_cases h : nEn n (nLa n) (fl v) = -1
        · exact h
        · obtain ⟨u, u0, u1, u2, u3⟩ := hi _ h
          exact absurd u3 (hd u v u0 u1 (by omega) u2 hp)
      obtain ⟨b1, b2, b3, b4⟩ := nE1_W hn hop (f := fl v) (v := v) (by omega) (by omega) (by omega) (by omega) (fun _ => hfv.symm)
      have blo : ∀ i, i < 1255 → nE1 n (fl v) v i = n i := fun i hi => nE1_lo h3 hent.1 hi
      have bV : ∀ u w, 0 ≤ u → u < n 6 → 0 ≤ w → w < 5 → nV (nE1 n (fl v) v) u w = nV n u w := fun u w u0 u1 w0 w1 => blo _ (by omega)
      obtain ⟨a1, a2, a3, a4, a5⟩ := ih (nE1 n (fl v) v) (v + 1) b1 b2 (by omega) (by rw [blo 6 (by omega)]; omega) (fun u u0 u1 u2 => by rw [blo 6 (by omega)] at u1; rw [bV u 0 u0 u1 (by omega) (by omega)]; exact hf u u0 u1 u2) (fun u t u0 u1 t1 => by rw [blo 6 (by omega)] at t1; exact hd u t u0 u1 t1) (fun g hg => by
        rw [b3] at hg
        obtain ⟨k, k0, k9, hk1, hk2, eS⟩ := nE1_S (n := n) (fl v) v hent.1 (fun _ => by
          have h5 := zcn_one (P := fun g => decide (nEn n (nLa n) g ≠ -1)) (Q := fun g => decide (nEn n (nLa n) g ≠ -1) || decide (g = fl v)) (j := fl v) (n 2).toNat 0 (by omega) (by omega) (by simp [hnew]) (by simp) (fun g hg _ _ => by simp [hg])
          have h6 := (zcn_rng (fun g => decide (nEn n (nLa n) g ≠ -1) || decide (g = fl v)) (n 2).toNat 0).2
          have h7 := (hn.2.2.2 (nLa n) h3 (by omega)).2.2.2.1.2
          omega) (by omega)
        obtain ⟨j, j0, j1, j2⟩ := nEn_iff.mp hg
        rw [eS _ 2 (by omega) (by omega), if_neg (by omega), if_neg (by omega), if_pos ⟨rfl, rfl⟩] at j1
        have hkk := hk1 hnew
        rw [eS _ _ (by omega) (by omega), if_neg (by omega)] at j2
        by_cases hj : j = k
        · rw [if_pos ⟨rfl, by omega⟩] at j2
          exact ⟨v, h0, by omega, hp, j2⟩
        · rw [if_neg (by omega), if_neg (by omega)] at j2
          obtain ⟨u, u0, u1, u2⟩ := hi g (nEn_iff.mpr ⟨j, j0, by omega, j2⟩)
          exact ⟨u, u0, by omega, u2⟩)
      rw [b3] at a3 a5
      rw [e, zcn, hp]
      refine ⟨a1, a2, a3, fun i hi => by rw [a4 i hi, blo i hi], ?_⟩
      rw [a5, b4, zb_dpos hnew]
      simp only [zb, if_true]
      omega
theorem nRc_ne {n : zN} {l u t : Int} (h0 : 0 ≤ u) (h1 : u < t) (h2 : t < n 6) (hu : nRc n l u = true) (ht : nRc n l t = true) : nV n u 0 ≠ nV n t 0 := by
  unfold nRc at hu ht
  simp only [Bool.and_eq_true] at hu ht
  intro z
  have h3 := (zal_iff _ _).mp hu.2 t (by omega) (by omega)
  simp [z, ht.1] at h3
/-- a recovery: each stage -/
theorem nRec_W {n : zN} (hn : nW n) (h : nWr n = 0) : nLo n = true ∧ 1 ≤ nCr n ∧ n 3 < 12 ∧ nOp n = false ∧
    (nW (zus n (nLa n) 0 3) ∧ nOp (zus n (nLa n) 0 3) = false) ∧ (nW (nBg (zus n (nLa n) 0 3)) ∧ nOp (nBg (zus n (nLa n) 0 3)) = true ∧ nLa (nBg (zus n (nLa n) 0 3)) = n 3) ∧
    (nW (nRl (nRc n (nLa n)) (fun v => nV n v 0) (nBg (zus n (nLa n) 0 3)) 0 (n 6).toNat) ∧ nWc (nRl (nRc n (nLa n)) (fun v => nV n v 0) (nBg (zus n (nLa n) 0 3)) 0 (n 6).toNat) = 0 ∧ nLa (nRl (nRc n (nLa n)) (fun v => nV n v 0) (nBg (zus n (nLa n) 0 3)) 0 (n 6).toNat) = n 3 ∧ nS (nRl (nRc n (nLa n)) (fun v => nV n v 0) (nBg (zus n (nLa n) 0 3)) 0 (n 6).toNat) (n 3) 2 = nCr n) ∧ nW (nRec n) := by
  have hN := hn.1.r
  have hla : nLa n = n 3 - 1 := rfl
  have hcr := nCr_rng hn
  unfold nWr at h
  by_cases hc : nCr n = 0
  · rw [if_pos hc] at h; omega
  · rw [if_neg hc] at h
    have hlo : nLo n = true := by
      cases hl : nLo n
      · unfold nCr at hc; rw [hl, if_neg (by simp)] at hc; exact absurd rfl hc
      · rfl
    obtain ⟨l0, lst⟩ := nLo_iff.mp hlo
    have hop : nOp n = false := by
      cases ho : nOp n
      · rfl
      · have := (nOp_iff.mp ho).2; omega
    have hT : nTm n = false := by
      cases hT : nTm n
      · rfl
      · rw [hT, if_pos rfl] at h; omega
    rw [hT, if_neg (by simp)] at h
    obtain ⟨hroom, hsp⟩ := nWd_0 h
    have h12 := nTm_f hn hT hop
    have hcrE : nCr n = zcn (nRc n (nLa n)) 0 (n 6).toNat := by unfold nCr; rw [hlo, if_pos rfl]
    obtain ⟨b1, b2, b3, b4, b5, b6, b7⟩ := hn.2.2.2 (nLa n) l0 (by omega)
    obtain ⟨n1, hn1⟩ : ∃ x, x = zus n (nLa n) 0 3 := ⟨_, rfl⟩
    have e1 : ∀ i, i < 1255 → n1 i = n i := fun i hi => by rw [hn1]; exact zus_lo l0 (by omega) hi
    have s1 : ∀ s w, 0 ≤ w → w < 25 → nS n1 s w = if s = nLa n ∧ w = 0 then 3 else nS n s w := fun s w w0 w1 => by rw [hn1, nS_zus (by omega) (by omega) w0 w1]
    have hd0 : nS n (nLa n) 3 = 0 := by
      by_cases hd : 0 < nS n (nLa n) 3
      · have := b5.2.1.mp hd; omega
      · omega
    have w1 : nW n1 := nSt_W hn l0 e1 3 (nS n (nLa n) 2) (Or.inr rfl) (Or.inr rfl) (fun s w s0 w0 w1 => by
      rw [s1 s w w0 w1]
      by_cases h5 : s = nLa n ∧ w = 2
      · rw [if_pos h5, if_neg (by omega), h5.1, h5.2]
      · rw [if_neg h5]) hd0
    have la1 : nLa n1 = nLa n := nLa_lo (e1 3 (by omega))
    have o1 : nOp n1 = false := by
      cases ho : nOp n1
      · rfl
      · have h5 := (nOp_iff.mp ho).2
        rw [la1, s1 _ 0 (by omega) (by omega), if_pos ⟨rfl, rfl⟩] at h5
        omega
    have g := nBg_W w1 o1 (by rw [e1 3 (by omega)]; exact h12)
    rw [e1 3 (by omega)] at g
    obtain ⟨n2, hn2⟩ : ∃ x, x = nBg n1 := ⟨_, rfl⟩
    rw [← hn2] at g
    obtain ⟨g1, g2, g3⟩ := g
    have e2 : ∀ i, i < 1255 → i ≠ 3 → n2 i = n i := fun i hi h5 => by rw [hn2, nBg_lo (by rw [e1 3 (by omega)]; omega) hi h5, e1 i hi]
    have z2 : nS n2 (n 3) 2 = 0 := by
      have h5 := nS_nBg (n := n1) (s := n 3) (w := 2) (by rw [e1 3 (by omega)]; omega) (by omega) (by omega) (by omega)
      rw [← hn2, e1 3 (by omega), if_pos rfl, if_neg (by omega)] at h5
      exact h5
    have r := nRl_W (P := nRc n (nLa n)) (fl := fun v => nV n v 0) (n 6).toNat n2 0 g1 g2 (by omega) (by rw [e2 6 (by omega) (by omega)]; omega) (fun u u0 u1 _ => by
      rw [e2 6 (by omega) (by omega)] at u1
      exact (e2 _ (by omega) (by omega)).symm) (fun u t u0 u1 t1 hu ht => by
      rw [e2 6 (by omega) (by omega)] at t1
      exact nRc_ne u0 u1 t1 hu ht) (fun g hg => by
      rw [g3] at hg
      obtain ⟨k, k0, k1, _⟩ := nEn_iff.mp hg
      omega)
    rw [g3] at r
    obtain ⟨n3, hn3⟩ : ∃ x, x = nRl (nRc n (nLa n)) (fun v => nV n v 0) n2 0 (n 6).toNat := ⟨_, rfl⟩
    rw [← hn3] at r
    obtain ⟨r1, r2, r3, r4, r5⟩ := r
    rw [z2, ← hcrE] at r5
    have e3 : ∀ i, i < 1255 → i ≠ 3 → n3 i = n i := fun i hi h5 => by rw [r4 i hi, e2 i hi h5]
    have hD := nDl_rng hcr.1 hcr.2
    have w3 : nWc n3 = 0 := by
      unfold nWc
      rw [r2, if_pos rfl, r3]
      have h5 : nS n3 (n 3) 2 = nCr n := by omega
      rw [h5]
      unfold nWd
      have h6 : nHs n3 (nDl (nCr n)) = true := by
        rw [nHs_iff] at hsp ⊢
        rw [nBc_ag (fun i _ hi => e3 i (by omega) (by omega)) (e3 4 (by omega) (by omega)) (by omega) (by omega), nGc_ag (fun i _ hi => e3 i (by omega) (by omega)) (e3 0 (by omega) (by omega)) (e3 1 (by omega) (by omega)) hn.1]
        exact hsp
      rw [e3 4 (by omega) (by omega), e3 0 (by omega) (by omega), e3 1 (by omega) (by omega), if_pos hroom, h6, if_pos rfl]
    rw [← hn1, ← hn2, ← hn3]
    refine ⟨hlo, by omega, h12, hop, ⟨w1, o1⟩, ⟨g1, g2, g3⟩, ⟨r1, w3, r3, by omega⟩, ?_⟩
    have h7 : nRec n = nCl n3 := by unfold nRec; rw [← hn1, ← hn2, ← hn3]
    rw [h7]
    exact (nCl_W r1 w3).2.1
end
section
/-! Changes: the class's sessions, versions, discs. -/
theorem zRb_ag {ρ ρ' : Nat → Int → Int} {n n' : zN} (hρ : ∀ c, 1 ≤ c → c ≤ 9 → ρ' c = ρ c) (h : ∀ i, i ≠ 2 → i ≠ 3 → i ≠ 5 → i ≠ 6 → i < 775 → n' i = n i) (hR : zRb ρ n) : zRb ρ' n' := by
  obtain ⟨⟨r0, r1, r2, r3, r4, r5, r6, r7, r8, r9⟩, r10⟩ := hR
  unfold zRb zRk
  rw [hρ 1 (by omega) (by omega), hρ 2 (by omega) (by omega), hρ 3 (by omega) (by omega), hρ 4 (by omega) (by omega), hρ 5 (by omega) (by omega), hρ 6 (by omega) (by omega), hρ 7 (by omega) (by omega), hρ 8 (by omega) (by omega), hρ 9 (by omega) (by omega), h 0 (by omega) (by omega) (by omega) (by omega) (by omega), h 1 (by omega) (by omega) (by omega) (by omega) (by omega), h 4 (by omega) (by omega) (by omega) (by omega) (by omega)]
  refine ⟨⟨r0, r1, r2, fun c c0 c1 => ?_, fun c c0 c1 => ?_, fun c c0 c1 => ?_, fun c c0 c1 => ?_, fun c c0 c1 => ?_, fun c c0 c1 => ?_, fun c c0 c1 => ?_⟩, fun c c0 c1 => ?_⟩
  · rw [h _ (by omega) (by omega) (by omega) (by omega) (by omega)]; exact r3 c c0 c1
  · rw [h _ (by omega) (by omega) (by omega) (by omega) (by omega)]; exact r4 c c0 c1
  · rw [h _ (by omega) (by omega) (by omega) (by omega) (by omega)]; exact r5 c c0 c1
  · rw [h _ (by omega) (by omega) (by omega) (by omega) (by omega)]; exact r6 c c0 c1
  · rw [h _ (by omega) (by omega) (by omega) (by omega) (by omega)]; exact r7 c c0 c1
  · rw [h _ (by omega) (by omega) (by omega) (by omega) (by omega)]; exact r8 c c0 c1
  · rw [h _ (by omega) (by omega) (by omega) (by omega) (by omega)]; exact r9 c c0 c1
  · rw [r10 c c0 c1]
    unfold nPl
    rw [h _ (by omega) (by omega) (by omega) (by omega) (by omega)]
theorem zRv_ag {ρ ρ' : Nat → Int → Int} {n n' : zN} (hρ : ∀ c, 10 ≤ c → c ≤ 15 → ρ' c = ρ c) (h6 : n' 6 = n 6) (hn6 : n 6 ≤ 96) (h : ∀ i, 775 ≤ i → i < 1255 → n' i = n i) (hR : zRv ρ n) : zRv ρ' n' := by
  obtain ⟨b1, b2, b3, b4, b5, b6⟩ := hR
  unfold zRv
  rw [hρ 10 (by omega) (by omega), hρ 11 (by omega) (by omega), hρ 12 (by omega) (by omega), hρ 13 (by omega) (by omega), hρ 14 (by omega) (by omega), hρ 15 (by omega) (by omega), h6]
  have e : ∀ v w, 0 ≤ v → v < n 6 → 0 ≤ w → w < 5 → nV n' v w = nV n v w := fun v w v0 v1 w0 w1 => h _ (by omega) (by omega)
  refine ⟨b1, fun v v0 v1 => ?_, fun v v0 v1 => ?_, fun v v0 v1 => ?_, fun v v0 v1 => ?_, fun v v0 v1 => ?_⟩
  · rw [e v 0 v0 v1 (by omega) (by omega)]; exact b2 v v0 v1
  · rw [e v 1 v0 v1 (by omega) (by omega)]; exact b3 v v0 v1
  · rw [e v 2 v0 v1 (by omega) (by omega)]; exact b4 v v0 v1
  · rw [e v 3 v0 v1 (by omega) (by omega)]; exact b5 v v0 v1
  · rw [e v 4 v0 v1 (by omega) (by omega)]; exact b6 v v0 v1
theorem zRs_ag {ρ ρ' : Nat → Int → Int} {n n' : zN} (hρ : ∀ c, 16 ≤ c → c ≠ 23 → c ≤ 24 → ρ' c = ρ c) (h3 : n' 3 = n 3) (he : ∀ s, 0 ≤ s → s < n 3 → nS n s 2 ≤ 10) (h : ∀ s w, 0 ≤ s → s < n 3 → 0 ≤ w → w < 25 → w ≠ 4 → nS n' s w = nS n s w) (hR : zRs ρ n) : zRs ρ' n' := by
  obtain ⟨c1, c2, c3, c4, c5, c6, c7, c8⟩ := hR
  unfold zRs
  rw [hρ 16 (by omega) (by omega) (by omega), hρ 17 (by omega) (by omega) (by omega), hρ 18 (by omega) (by omega) (by omega), hρ 19 (by omega) (by omega) (by omega), hρ 20 (by omega) (by omega) (by omega), hρ 21 (by omega) (by omega) (by omega), hρ 22 (by omega) (by omega) (by omega), hρ 24 (by omega) (by omega) (by omega), h3]
  refine ⟨c1, fun s s0 s1 => ?_, fun s s0 s1 => ?_, fun s s0 s1 => ?_, fun s s0 s1 => ?_, fun s k s0 s1 k0 k1 => ?_, fun s k s0 s1 k0 k1 => ?_, fun s s0 s1 => ?_⟩
  · rw [h s 0 s0 s1 (by omega) (by omega) (by omega)]; exact c2 s s0 s1
  · rw [h s 1 s0 s1 (by omega) (by omega) (by omega)]; exact c3 s s0 s1
  · rw [h s 3 s0 s1 (by omega) (by omega) (by omega)]; exact c4 s s0 s1
  · rw [h s 2 s0 s1 (by omega) (by omega) (by omega)]; exact c5 s s0 s1
  · have := he s s0 s1
    rw [h s 2 s0 s1 (by omega) (by omega) (by omega)] at k1
    rw [h s _ s0 s1 (by omega) (by omega) (by omega)]; exact c6 s k s0 s1 k0 k1
  · rw [nX_cg (n := n) (n' := n') (he s s0 s1) (h s 2 s0 s1 (by omega) (by omega) (by omega)) (fun w w0 w1 => h s w s0 s1 (by omega) w1 (by omega))]
    exact c7 s k s0 s1 k0 k1
  · rw [nL_cg (n := n) (n' := n') (h s 2 s0 s1 (by omega) (by omega) (by omega)) (h s 3 s0 s1 (by omega) (by omega) (by omega))]
    exact c8 s s0 s1
/-- an entry: how the class holds it -/
theorem nX_E1 {n : zN} {f v : Int} (h3 : 0 ≤ nLa n) (he : 0 ≤ nS n (nLa n) 2) (hk9 : nEn n (nLa n) f = -1 → nS n (nLa n) 2 ≤ 9) (h10 : ∀ s, 0 ≤ s → s ≤ nLa n → nS n s 2 ≤ 10) {s g : Int} (s0 : 0 ≤ s) (s1 : s ≤ nLa n) : nX (nE1 n f v) s g = if s = nLa n ∧ g = f then v else nX n s g := by
  have hk10 := h10 (nLa n) h3 (Int.le_refl _)
  obtain ⟨k, k0, k9, hk1, hk2, eS⟩ := nE1_S (n := n) f v he hk9 hk10
  by_cases hsl : s = nLa n
  · subst hsl
    have e2 : nS (nE1 n f v) (nLa n) 2 = max (nS n (nLa n) 2) (k + 1) := by rw [eS _ 2 (by omega) (by omega), if_neg (by omega), if_neg (by omega), if_pos ⟨rfl, rfl⟩]
    have hfile : ∀ j, 0 ≤ j → j < max (nS n (nLa n) 2) (k + 1) → nS (nE1 n f v) (nLa n) (5 + 2 * j) = if j = k then f else nS n (nLa n) (5 + 2 * j) := by
      intro j j0 j1
      rw [eS _ _ (by omega) (by omega), if_neg (by omega)]
      by_cases h : j = k
      · rw [if_pos h, if_pos (by omega)]
      · rw [if_neg h, if_neg (by omega), if_neg (by omega)]
    have hvers : ∀ j, 0 ≤ j → j < max (nS n (nLa n) 2) (k + 1) → nS (nE1 n f v) (nLa n) (6 + 2 * j) = if j = k then v else nS n (nLa n) (6 + 2 * j) := by
      intro j j0 j1
      rw [eS _ _ (by omega) (by omega)]
      by_cases h : j = k
      · rw [if_pos h, if_pos (by omega)]
      · rw [if_neg h, if_neg (by omega), if_neg (by omega), if_neg (by omega)]
    have hspec := zfs_spec (P := fun j => decide (nS n (nLa n) (5 + 2 * j) = f)) (nS n (nLa n) 2).toNat 0 (by omega)
    have hE : nEn n (nLa n) f = zfs (fun j => decide (nS n (nLa n) (5 + 2 * j) = f)) 0 (nS n (nLa n) 2).toNat := rfl
    rw [← hE] at hspec
    by_cases hg : g = f
    · subst hg
      rw [if_pos ⟨rfl, rfl⟩]
      have hEk : nEn (nE1 n g v) (nLa n) g = k := by
        have hsp := zfs_spec (P := fun j => decide (nS (nE1 n g v) (nLa n) (5 + 2 * j) = g)) (nS (nE1 n g v) (nLa n) 2).toNat 0 (by omega)
        have hE' : nEn (nE1 n g v) (nLa n) g = zfs (fun j => decide (nS (nE1 n g v) (nLa n) (5 + 2 * j) = g)) 0 (nS (nE1 n g v) (nLa n) 2).toNat := rfl
        rw [← hE', e2] at hsp
        have hkf := hfile k k0 (by omega)
        rw [if_pos rfl] at hkf
        rcases hsp with ⟨-, z⟩ | ⟨z0, z1, z2, z3⟩
        · have := z k k0 (by omega)
          simp [hkf] at this
        · by_cases hlt : nEn (nE1 n g v) (nLa n) g < k
          · have y := hfile _ z0 (by omega)
            rw [if_neg (by omega)] at y
            have z2 := of_decide_eq_true z2
            rw [y] at z2
            rcases hspec with ⟨x1, x2⟩ | ⟨x1, x2, x3, x4⟩
            · have := hk1 x1
              have := x2 _ z0 (by omega)
              simp [z2] at this
            · have := (hk2 (by omega)).1
              have := x4 _ z0 (by omega)
              simp [z2] at this
          · by_cases hgt : k < nEn (nE1 n g v) (nLa n) g
            · have := z3 k k0 hgt
              simp [hkf] at this
            · omega
      unfold nX
      rw [hEk, if_neg (by omega), hvers k k0 (by omega), if_pos rfl]
    · rw [if_neg (by omega)]
      have hEg : nEn (nE1 n f v) (nLa n) g = nEn n (nLa n) g := by
        unfold nEn
        rw [e2]
        by_cases hne : nEn n (nLa n) f = -1
        · have hkK := hk1 hne
          rw [show (max (nS n (nLa n) 2) (k + 1)).toNat = (nS n (nLa n) 2).toNat + 1 by omega, zfs_cut _ _ (by
            have y := hfile k k0 (by omega)
            rw [if_pos rfl] at y
            rw [show (0 : Int) + ((nS n (nLa n) 2).toNat : Int) = k by omega, y]
            exact decide_eq_false (fun z => hg z.symm))]
          exact zfs_congr _ _ (fun j j0 j1 => by rw [hfile j (by omega) (by omega), if_neg (by omega)])
        · have hkK := hk2 hne
          rw [show (max (nS n (nLa n) 2) (k + 1)).toNat = (nS n (nLa n) 2).toNat by omega]
          refine zfs_congr _ _ (fun j j0 j1 => ?_)
          rw [hfile j (by omega) (by omega)]
          by_cases hj : j = k
          · rw [if_pos hj]
            rcases hspec with ⟨x1, x2⟩ | ⟨x1, x2, x3, x4⟩
            · exact absurd x1 hne
            · have x3 : nS n (nLa n) (5 + 2 * nEn n (nLa n) f) = f := of_decide_eq_true x3
              rw [hj, hkK.1, x3]
          · rw [if_neg hj]
      unfold nX
      rw [hEg]
      have hr := nEn_rng n (nLa n) g
      by_cases hz : nEn n (nLa n) g = -1
      · rw [if_pos hz, if_pos hz]
      · rw [if_neg hz, if_neg hz, hvers _ (by omega) (by omega)]
        by_cases hj : nEn n (nLa n) g = k
        · exfalso
          have hsg := zfs_spec (P := fun j => decide (nS n (nLa n) (5 + 2 * j) = g)) (nS n (nLa n) 2).toNat 0 (by omega)
          have hEg2 : nEn n (nLa n) g = zfs (fun j => decide (nS n (nLa n) (5 + 2 * j) = g)) 0 (nS n (nLa n) 2).toNat := rfl
          rw [← hEg2] at hsg
          rcases hsg with ⟨x1, -⟩ | ⟨-, -, x3, -⟩
          · exact hz x1
          · have x3 : nS n (nLa n) (5 + 2 * nEn n (nLa n) g) = g := of_decide_eq_true x3
            by_cases hne : nEn n (nLa n) f = -1
            · have := hk1 hne
              omega
            · rcases hspec with ⟨y1, -⟩ | ⟨-, -, y3, -⟩
              · exact hne y1
              · have y3 : nS n (nLa n) (5 + 2 * nEn n (nLa n) f) = f := of_decide_eq_true y3
                rw [← (hk2 hne).1, ← hj, x3] at y3
                exact hg y3
        · rw [if_neg hj]
  · rw [if_neg (by omega)]
    exact nX_cg (h10 s s0 s1) (by rw [eS s 2 (by omega) (by omega), if_neg (by omega), if_neg (by omega), if_neg (by omega)]) (fun w w0 w1 => by rw [eS s w (by omega) (by omega), if_neg (by omega), if_neg (by omega), if_neg (by omega)])
theorem nX_Bg {n : zN} (hN : nWn n) (hZ : nWs n) {s g : Int} (s0 : 0 ≤ s) (s1 : s ≤ n 3) : nX (nBg n) s g = if s = n 3 then -2 else nX n s g := by
  have hN' := hN.r
  have eS : ∀ w, 0 ≤ w → w < 25 → nS (nBg n) s w = if s = n 3 then (if w = 1 then n 4 else 0) else nS n s w := fun w h1 h2 => nS_nBg (by omega) s0 h1 h2
  by_cases h : s = n 3
  · rw [if_pos h]
    refine nX_0 ?_
    rw [eS 2 (by omega) (by omega), if_pos h, if_neg (by omega)]
    omega
  · rw [if_neg h]
    have he := hZ.ent hN s0 (by omega)
    exact nX_cg (by omega) (by rw [eS 2 (by omega) (by omega), if_neg h]) (fun w w0 w1 => by rw [eS w (by omega) w1, if_neg h])
def nScr (n : zN) (b : Int) : zN := if n (7 + b) = 0 then zu n (103 + b) 1 else zu n (199 + b) 1
def nFm (b s : Int) : zN := fun i => if i = 0 then b else if i = 1 then s else 0
section zCls
variable {E : zE} {σ : zW} {d : Nat} {n : zN}
theorem e5_forget_L {d : Nat} (hW : zWF E) (hu : zU E 0 d = true) {s : Int} (h0 : 0 ≤ s) (h1 : s < 12) : ∀ (m fuel : Nat) (i : Int) (σ : zW), 0 ≤ i → i + m = 10 → m < fuel → f_X5_forgetEntries_L11 fuel (zH E σ) (zL E 0 d 16) (zI s) (zI i) = some (zH E (zr σ 0 d 22 (fun j => if s * 10 + i ≤ j ∧ j < s * 10 + 10 then -2 else σ 0 d 22 j))) := by
  intro m
  induction m with
  | zero =>
    intro fuel i σ h2 h3 h4
    obtain ⟨f, rfl, h5⟩ := zfuel h4
    simp (disch := first | assumption | omega) only [f_X5_forgetEntries_L11, zz_some, zz_lit, zz_num, zI_lt, zI_le, zI_eq, zI_nat, zz_b, if_pos, if_neg, if_true, if_false]
    rw [zr_self]
    funext j
    first | rfl | rw [if_neg (by omega)]
  | succ m ih =>
    intro fuel i σ h2 h3 h4
    obtain ⟨f, rfl, h5⟩ := zfuel h4
    have hih := ih f (i + 1) (zs σ 0 d 22 (s * 10 + i) (-2)) (by omega) (by omega) (by omega)
    simp (disch := first | assumption | omega) only [f_X5_forgetEntries_L11, zz_seo hW hu, zz_dr hW hu, hih, zz_some, zz_lit, zz_num, zI_lt, zI_le, zI_eq, zI_nat, zz_b, if_pos, if_neg, if_true, if_false]
    rw [zr_zs]
    congr 3
    funext j
    rw [zs_at]
    by_cases hj : j = s * 10 + i
    · rw [if_neg (by omega), if_pos hj, if_pos (by omega)]
    · by_cases hj2 : s * 10 + i ≤ j ∧ j < s * 10 + 10
      · rw [if_pos (by omega), if_pos hj2]
      · rw [if_neg (by omega), if_neg hj, if_neg hj2]
theorem e5_forget {d : Nat} (hW : zWF E) (hu : zU E 0 d = true) (σ : zW) {s : Int} (h0 : 0 ≤ s) (h1 : s < 12) : f_X5_forgetEntries (zH E σ) (zL E 0 d 16) (zI s) = some (zH E (zr (zs σ 0 d 20 s 0) 0 d 22 (fun j => if s * 10 ≤ j ∧ j < s * 10 + 10 then -2 else σ 0 d 22 j))) := by
  have h := e5_forget_L hW hu h0 h1 10 g_N 0 (zs σ 0 d 20 s 0) (by omega) (by omega) (by unfold g_N; omega)
  rw [Int.add_zero, zs_ne (k' := 0) (d' := d) (c' := 22) (by omega)] at h
  simp (disch := first | assumption | omega) only [f_X5_forgetEntries, zz_seo hW hu, zz_dr hW hu, h, zz_some, zz_lit, zz_num, zI_lt, zI_le, zI_eq, zI_nat, zz_b, if_pos, if_neg, if_true, if_false]
theorem e5_begin (hW : zWF E) (hu : zU E 0 d = true) (hR : zRs (σ 0 d) n) (hN : nWn n) (hZ : nWs n) (h3 : n 3 < 12) {x : Int} (hx : x = n 4) : ∃ σ', f_X5_begin (zH E σ) (zL E 0 d 16) (zI x) = some (zH E σ') ∧ (∀ k' d' c', ¬ (k' = 0 ∧ d' = d ∧ 16 ≤ c' ∧ c' ≠ 23 ∧ c' ≤ 24) → σ' k' d' c' = σ k' d' c') ∧ zRs (σ' 0 d) (nBg n) := by
  have hN' := hN.r
  subst hx
  obtain ⟨c1, c2, c3, c4, c5, c6, c7, c8⟩ := hR
  obtain ⟨σ1, e1⟩ : ∃ y, y = zs (zs (zs (zs (zs σ 0 d 16 0 (n 3 + 1)) 0 d 17 (n 3) 0) 0 d 18 (n 3) (n 4)) 0 d 19 (n 3) (-1)) 0 d 24 (n 3) 0 := ⟨_, rfl⟩
  have hfg := e5_forget hW hu σ1 (s := n 3) (by omega) h3
  obtain ⟨σ2, e2⟩ : ∃ y, y = zr (zs σ1 0 d 20 (n 3) 0) 0 d 22 (fun j => if n 3 * 10 ≤ j ∧ j < n 3 * 10 + 10 then -2 else σ1 0 d 22 j) := ⟨_, rfl⟩
  rw [← e2] at hfg
  have r16 : σ2 0 d 16 0 = n 3 + 1 := by rw [e2, zr_ne (by omega), zs_ne (by omega), e1]; simp [zs]
  have r17 : ∀ s, σ2 0 d 17 s = if s = n 3 then 0 else σ 0 d 17 s := fun s => by rw [e2, zr_ne (by omega), zs_ne (by omega), e1]; simp [zs]
  have r18 : ∀ s, σ2 0 d 18 s = if s = n 3 then n 4 else σ 0 d 18 s := fun s => by rw [e2, zr_ne (by omega), zs_ne (by omega), e1]; simp [zs]
  have r19 : ∀ s, σ2 0 d 19 s = if s = n 3 then -1 else σ 0 d 19 s := fun s => by rw [e2, zr_ne (by omega), zs_ne (by omega), e1]; simp [zs]
  have r24 : ∀ s, σ2 0 d 24 s = if s = n 3 then 0 else σ 0 d 24 s := fun s => by rw [e2, zr_ne (by omega), zs_ne (by omega), e1]; simp [zs]
  have r20 : ∀ s, σ2 0 d 20 s = if s = n 3 then 0 else σ 0 d 20 s := fun s => by rw [e2, zr_ne (by omega), zs_at, e1]; simp [zs]
  have r21 : ∀ s, σ2 0 d 21 s = σ 0 d 21 s := fun s => by rw [e2, zr_ne (by omega), zs_ne (by omega), e1]; simp [zs]
  have r22 : ∀ j, σ2 0 d 22 j = if n 3 * 10 ≤ j ∧ j < n 3 * 10 + 10 then -2 else σ 0 d 22 j := fun j => by rw [e2, zr_at, e1]; simp [zs]
  refine ⟨σ2, ?_, fun k' d' c' hz => ?_, ?_⟩
  · simp (disch := first | assumption | omega) only [f_X5_begin, zz_se hW hu, c1, zz_dr hW hu, zz_some, zz_lit, zz_num, zI_lt, zI_le, zI_eq, zI_nat, zz_b, if_pos, if_neg, if_true, if_false]
    rw [← e1]
    simp (disch := first | assumption | omega) only [zz_seo hW hu, hfg, zz_some, zz_lit, zz_num, zI_lt, zI_le, zI_eq, zI_nat, zz_b, if_pos, if_neg, if_true, if_false]
  · rw [e2, zr_ne (by omega), zs_ne (by omega), e1, zs_ne (by omega), zs_ne (by omega), zs_ne (by omega), zs_ne (by omega), zs_ne (by omega)]
  · have eS : ∀ s w, 0 ≤ s → 0 ≤ w → w < 25 → nS (nBg n) s w = if s = n 3 then (if w = 1 then n 4 else 0) else nS n s w := fun s w h0 h1 h2 => nS_nBg (by omega) h0 h1 h2
    unfold zRs
    rw [nBg_3]
    refine ⟨r16, fun s s0 s1 => ?_, fun s s0 s1 => ?_, fun s s0 s1 => ?_, fun s s0 s1 => ?_, fun s k s0 s1 k0 k1 => ?_, fun s k s0 s1 k0 k1 => ?_, fun s s0 s1 => ?_⟩
    · rw [eS s 0 s0 (by omega) (by omega), r17]
      by_cases h : s = n 3
      · rw [if_pos h, if_pos h, if_neg (by omega)]
      · rw [if_neg h, if_neg h]; exact c2 s s0 (by omega)
    · rw [eS s 1 s0 (by omega) (by omega), r18]
      by_cases h : s = n 3
      · rw [if_pos h, if_pos h, if_pos rfl]
      · rw [if_neg h, if_neg h]; exact c3 s s0 (by omega)
    · rw [eS s 3 s0 (by omega) (by omega), r19]
      by_cases h : s = n 3
      · rw [if_pos h, if_pos h, if_neg (by omega)]; omega
      · rw [if_neg h, if_neg h]; exact c4 s s0 (by omega)
    · rw [eS s 2 s0 (by omega) (by omega), r20]
      by_cases h : s = n 3
      · rw [if_pos h, if_pos h, if_neg (by omega)]
      · rw [if_neg h, if_neg h]; exact c5 s s0 (by omega)
    · by_cases h : s = n 3
      · rw [eS s 2 s0 (by omega) (by omega), if_pos h, if_neg (by omega)] at k1; omega
      · have he := hZ.ent hN s0 (by omega : s < n 3)
        rw [eS s 2 s0 (by omega) (by omega), if_neg h] at k1
        rw [eS s _ s0 (by omega) (by omega), if_neg h, r21]
        exact c6 s k s0 (by omega) k0 k1
    · rw [nX_Bg hN hZ s0 (by omega), r22]
      by_cases h : s = n 3
      · rw [if_pos h, if_pos (by omega)]
      · rw [if_neg h, if_neg (by omega)]; exact c7 s k s0 (by omega) k0 k1
    · rw [r24]
      by_cases h : s = n 3
      · unfold nL
        rw [if_pos h, eS s 3 s0 (by omega) (by omega), if_pos h, if_neg (by omega)]
      · rw [if_neg h, nL_cg (n := n) (n' := nBg n) (by rw [eS s 2 s0 (by omega) (by omega), if_neg h]) (by rw [eS s 3 s0 (by omega) (by omega), if_neg h])]
        exact c8 s s0 (by omega)
theorem e5r_entriesOf (hW : zWF E) (hu : zU E 0 d = true) {s : Int} (h0 : 0 ≤ s) (h1 : s < 12) : f_X5_entriesOf (zH E σ) (zL E 0 d 16) (zI s) = some (zI (σ 0 d 20 s)) := by
  simp (disch := first | assumption | omega) only [f_X5_entriesOf, zz_seo hW hu, zz_dr hW hu, zz_some, zz_lit, zz_num, zI_lt, zI_le, zI_eq, zI_nat, zz_b, if_pos, if_neg, if_true, if_false]
theorem e5r_latest (hW : zWF E) (hu : zU E 0 d = true) : f_X5_latest (zH E σ) (zL E 0 d 16) = some (zI (σ 0 d 16 0 - 1)) := by
  simp (disch := first | assumption | omega) only [f_X5_latest, zz_se hW hu, zz_some, zz_lit, zz_num, zI_lt, zI_le, zI_eq, zI_nat, zz_b, if_pos, if_neg, if_true, if_false]
theorem e5_enter (hW : zWF E) (hu : zU E 0 d = true) (hR : zRs (σ 0 d) n) (hN : nWn n) (hZ : nWs n) (hop : nOp n = true) {f v : Int} (hf0 : 0 ≤ f) (hf1 : f < n 2) : ∃ σ', f_X5_enter (zH E σ) (zL E 0 d 16) (zI f) (zI v) = some (zH E σ') ∧ (∀ k' d' c', ¬ (k' = 0 ∧ d' = d ∧ 16 ≤ c' ∧ c' ≠ 23 ∧ c' ≤ 24) → σ' k' d' c' = σ k' d' c') ∧ zRs (σ' 0 d) (nE1 n f v) := by
  have hN' := hN.r
  obtain ⟨h3, hst⟩ := nOp_iff.mp hop
  have hla : nLa n = n 3 - 1 := rfl
  have hs := hZ (nLa n) h3 (by omega)
  have hent := hZ.ent hN h3 (by omega : nLa n < n 3)
  have hk9 : nEn n (nLa n) f = -1 → nS n (nLa n) 2 ≤ n 2 - 1 := by
    intro h
    have h5 := zcn_one (P := fun g => decide (nEn n (nLa n) g ≠ -1)) (Q := fun g => decide (nEn n (nLa n) g ≠ -1) || decide (g = f)) (j := f) (n 2).toNat 0 hf0 (by omega) (by simp [h]) (by simp) (fun g hg _ _ => by simp [hg])
    have h6 := (zcn_rng (fun g => decide (nEn n (nLa n) g ≠ -1) || decide (g = f)) (n 2).toNat 0).2
    have h7 := hs.2.2.2.1.2
    omega
  obtain ⟨k, k0, k9, hk1, hk2, eS⟩ := nE1_S (n := n) f v hent.1 (fun z => by have := hk9 z; omega) (by omega)
  have e3 : nE1 n f v 3 = n 3 := nE1_lo h3 hent.1 (by omega)
  have hE := nEn_rng n (nLa n) f
  have hso := e5_hasEntry hW hu hR hN hZ h3 (by omega) hf0 (by omega : f < 10)
  have hnx : ∀ s g, 0 ≤ s → s ≤ nLa n → nX (nE1 n f v) s g = if s = nLa n ∧ g = f then v else nX n s g := fun s g s0 s1 => nX_E1 h3 hent.1 (fun z => by have := hk9 z; omega) (fun t t0 t1 => by have := hZ.ent hN t0 (by omega : t < n 3); omega) s0 s1
  have hd0 : nS n (nLa n) 3 = 0 := by
    by_cases h : 0 < nS n (nLa n) 3
    · have := hs.2.2.2.2.1.2.1.mp h; omega
    · have := hs.2.2.2.2.1.1; omega
  obtain ⟨c1, c2, c3, c4, c5, c6, c7, c8⟩ := hR
  obtain ⟨la, hlae⟩ : ∃ x, x = nLa n := ⟨_, rfl⟩
  rw [← hlae] at hso hk1 hk2 eS hE hent hla h3 hnx hd0
  have hlat : ∀ σ2 : zW, σ2 0 d 16 0 = n 3 → f_X5_latest (zH E σ2) (zL E 0 d 16) = some (zI la) := fun σ2 h => by rw [e5r_latest hW hu, h, hla]
  have hend : ∀ σ2 : zW, (∀ k' d' c', ¬ (k' = 0 ∧ d' = d ∧ (c' = 20 ∨ c' = 21)) → σ2 k' d' c' = σ k' d' c') → (∀ s, 0 ≤ s → s < n 3 → σ2 0 d 20 s = nS (nE1 n f v) s 2) → (∀ s j, 0 ≤ s → s < n 3 → 0 ≤ j → j < nS (nE1 n f v) s 2 → σ2 0 d 21 (s * 10 + j) = nS (nE1 n f v) s (5 + 2 * j)) → f_X5_enter_J47 (zH E σ2) (zL E 0 d 16) (zI f) (zI v) (zI la) = some (zH E (zs σ2 0 d 22 (la * 10 + f) v)) ∧ (∀ k' d' c', ¬ (k' = 0 ∧ d' = d ∧ 16 ≤ c' ∧ c' ≠ 23 ∧ c' ≤ 24) → zs σ2 0 d 22 (la * 10 + f) v k' d' c' = σ k' d' c') ∧ zRs (zs σ2 0 d 22 (la * 10 + f) v 0 d) (nE1 n f v) := by
    intro σ2 f1 f2 f3
    refine ⟨?_, fun k' d' c' hz => ?_, ?_⟩
    · simp (disch := first | assumption | omega) only [f_X5_enter_J47, zz_seo hW hu, zz_dr hW hu, zz_some, zz_lit, zz_num, zI_lt, zI_le, zI_eq, zI_nat, zz_b, if_pos, if_neg, if_true, if_false]
    · rw [zs_ne (by omega), f1 k' d' c' (by omega)]
    · unfold zRs
      rw [e3]
      refine ⟨?_, fun s s0 s1 => ?_, fun s s0 s1 => ?_, fun s s0 s1 => ?_, fun s s0 s1 => ?_, fun s j s0 s1 j0 j1 => ?_, fun s g s0 s1 g0 g1 => ?_, fun s s0 s1 => ?_⟩
      · rw [zs_ne (by omega), f1 0 d 16 (by omega)]; exact c1
      · rw [zs_ne (by omega), f1 0 d 17 (by omega), eS s 0 (by omega) (by omega), if_neg (by omega), if_neg (by omega), if_neg (by omega)]; exact c2 s s0 s1
      · rw [zs_ne (by omega), f1 0 d 18 (by omega), eS s 1 (by omega) (by omega), if_neg (by omega), if_neg (by omega), if_neg (by omega)]; exact c3 s s0 s1
      · rw [zs_ne (by omega), f1 0 d 19 (by omega), eS s 3 (by omega) (by omega), if_neg (by omega), if_neg (by omega), if_neg (by omega)]; exact c4 s s0 s1
      · rw [zs_ne (by omega)]; exact f2 s s0 s1
      · rw [zs_ne (by omega)]; exact f3 s j s0 s1 j0 j1
      · rw [hnx s g s0 (by omega), zs_at, f1 0 d 22 (by omega)]
        by_cases hsg : s = la ∧ g = f
        · rw [if_pos hsg, if_pos (by omega)]
        · rw [if_neg hsg, if_neg (by omega)]; exact c7 s g s0 s1 g0 g1
      · rw [zs_ne (by omega), f1 0 d 24 (by omega), c8 s s0 s1]
        have e3' := eS s 3 (by omega) (by omega)
        rw [if_neg (by omega), if_neg (by omega), if_neg (by omega)] at e3'
        by_cases hsl : s = la
        · subst hsl
          unfold nL
          rw [e3', hd0, if_neg (by omega), if_neg (by omega)]
        · have e2' := eS s 2 (by omega) (by omega)
          rw [if_neg (by omega), if_neg (by omega), if_neg (by omega)] at e2'
          exact (nL_cg e2' e3').symm
  by_cases h : nEn n la f = -1
  · have hK := hk1 h
    have hk9' := hk9 (hlae ▸ h)
    rw [← hlae] at hk9'
    obtain ⟨σ0, s0⟩ : ∃ x, x = zs σ 0 d 21 (la * 10 + nS n la 2) f := ⟨_, rfl⟩
    obtain ⟨σ1, s1⟩ : ∃ x, x = zs σ0 0 d 20 la (nS n la 2 + 1) := ⟨_, rfl⟩
    have hen : f_X5_entriesOf (zH E σ) (zL E 0 d 16) (zI la) = some (zI (nS n la 2)) := by rw [e5r_entriesOf hW hu h3 (by omega), c5 la h3 (by omega)]
    have hen0 : f_X5_entriesOf (zH E σ0) (zL E 0 d 16) (zI la) = some (zI (nS n la 2)) := by rw [e5r_entriesOf hW hu h3 (by omega), s0, zs_ne (by omega), c5 la h3 (by omega)]
    obtain ⟨g1, g2, g3⟩ := hend σ1 (fun k' d' c' hz => by rw [s1, zs_ne (by omega), s0, zs_ne (by omega)]) (fun s s0' s1' => by
      rw [eS s 2 (by omega) (by omega), if_neg (by omega), if_neg (by omega), s1, zs_at, s0, zs_ne (by omega)]
      by_cases hsl : s = la
      · rw [if_pos hsl, if_pos ⟨hsl, rfl⟩]; omega
      · rw [if_neg hsl, if_neg (by omega)]; exact c5 s s0' s1') (fun s j s0' s1' j0 j1 => by
      have he := hZ.ent hN s0' s1'
      rw [s1, zs_ne (by omega), s0, zs_at]
      by_cases hsl : s = la
      · rw [eS s 2 (by omega) (by omega), if_neg (by omega), if_neg (by omega), if_pos ⟨hsl, rfl⟩] at j1
        have hx := eS s (5 + 2 * j) (by omega) (by omega)
        rw [if_neg (by omega)] at hx
        rw [hx]
        by_cases hj : j = k
        · rw [if_pos (by omega), if_pos (by omega)]
        · rw [if_neg (by omega), if_neg (by omega), if_neg (by omega)]
          exact c6 s j s0' s1' j0 (by rw [hsl]; omega)
      · rw [eS s 2 (by omega) (by omega), if_neg (by omega), if_neg (by omega), if_neg (by omega)] at j1
        have hx := eS s (5 + 2 * j) (by omega) (by omega)
        rw [if_neg (by omega), if_neg (by omega), if_neg (by omega)] at hx
        rw [hx, if_neg (by omega)]
        exact c6 s j s0' s1' j0 j1)
    refine ⟨_, ?_, g2, g3⟩
    rw [← g1]
    rw [zb_dneg (by simp [h])] at hso
    simp (disch := first | assumption | omega) only [f_X5_enter, zz_seo hW hu, hlat σ c1, hso, hen, zz_dr hW hu, zz_some, zz_lit, zz_num, zI_lt, zI_le, zI_eq, zI_nat, zz_b, if_pos, if_neg, if_true, if_false]
    rw [← s0]
    simp (disch := first | assumption | omega) only [zz_seo hW hu, hen0, zz_dr hW hu, zz_some, zz_lit, zz_num, zI_lt, zI_le, zI_eq, zI_nat, zz_b, if_pos, if_neg, if_true, if_false]
    rw [← s1]
  · have hK := hk2 h
    have hff : nS n la (5 + 2 * nEn n la f) = f := by
      rcases zfs_spec (P := fun j => decide (nS n la (5 + 2 * j) = f)) (nS n la 2).toNat 0 (by omega) with ⟨y1, -⟩ | ⟨-, -, y3, -⟩
      · exact absurd y1 h
      · exact of_decide_eq_true y3
    obtain ⟨g1, g2, g3⟩ := hend σ (fun _ _ _ _ => rfl) (fun s s0 s1' => by
      rw [eS s 2 (by omega) (by omega), if_neg (by omega), if_neg (by omega)]
      by_cases hsl : s = la
      · rw [if_pos ⟨hsl, rfl⟩, c5 s s0 s1', hsl]; omega
      · rw [if_neg (by omega)]; exact c5 s s0 s1') (fun s j s0' s1' j0 j1 => by
      have he := hZ.ent hN s0' s1'
      by_cases hsl : s = la
      · rw [eS s 2 (by omega) (by omega), if_neg (by omega), if_neg (by omega), if_pos ⟨hsl, rfl⟩] at j1
        rw [eS s _ (by omega) (by omega), if_neg (by omega), c6 s j s0' s1' j0 (by rw [hsl]; omega)]
        by_cases hj : j = k
        · rw [if_pos (by omega), hsl, hj, hK.1, hff]
        · rw [if_neg (by omega), if_neg (by omega)]
      · rw [eS s 2 (by omega) (by omega), if_neg (by omega), if_neg (by omega), if_neg (by omega)] at j1
        rw [eS s _ (by omega) (by omega), if_neg (by omega), if_neg (by omega), if_neg (by omega)]
        exact c6 s j s0' s1' j0 j1)
    refine ⟨_, ?_, g2, g3⟩
    rw [← g1]
    rw [zb_dpos h] at hso
    simp (disch := first | assumption | omega) only [f_X5_enter, zz_seo hW hu, hlat σ c1, hso, zz_some, zz_lit, zz_num, zI_lt, zI_le, zI_eq, zI_nat, zz_b, if_pos, if_neg, if_true, if_false]
theorem e7_add (hW : zWF E) (hu : zU E 0 d = true) (hR : zRv (σ 0 d) n) (hN : nWn n) (h6 : n 6 < 96) {f m tag se : Int} : ∃ σ', f_X7_add (zH E σ) (zL E 0 d 10) (zI f) (zI (n 4)) (zI m) (zI tag) (zI se) = some (zH E σ', zI (n 6)) ∧ (∀ k' d' c', ¬ (k' = 0 ∧ d' = d ∧ 10 ≤ c' ∧ c' ≤ 15) → σ' k' d' c' = σ k' d' c') ∧ zRv (σ' 0 d) (nAr (zu n 6 (n 6 + 1)) (n 6) f (n 4) m tag se) := by
  have hN' := hN.r
  obtain ⟨b1, b2, b3, b4, b5, b6⟩ := hR
  refine ⟨zs (zs (zs (zs (zs (zs σ 0 d 10 0 (n 6 + 1)) 0 d 11 (n 6) f) 0 d 12 (n 6) (n 4)) 0 d 13 (n 6) m) 0 d 14 (n 6) tag) 0 d 15 (n 6) se, ?_, fun k' d' c' hz => ?_, ?_⟩
  · simp (disch := first | assumption | omega) only [f_X7_add, zz_vs hW hu, b1, zz_dr hW hu, zz_some, zz_lit, zz_num, zI_lt, zI_le, zI_eq, zI_nat, zz_b, if_pos, if_neg, if_true, if_false]
  · rw [zs_ne (by omega), zs_ne (by omega), zs_ne (by omega), zs_ne (by omega), zs_ne (by omega), zs_ne (by omega)]
  · have e6 : nAr (zu n 6 (n 6 + 1)) (n 6) f (n 4) m tag se 6 = n 6 + 1 := by rw [nAr_out (by omega) (by omega), zu_eq rfl]
    have eo : ∀ v w, 0 ≤ v → v < n 6 → 0 ≤ w → w < 5 → nV (nAr (zu n 6 (n 6 + 1)) (n 6) f (n 4) m tag se) v w = nV n v w := fun v w v0 v1 w0 w1 => by
      unfold nV
      rw [nAr_out (by omega) (by omega), zu_ne (by omega)]
    have en := nAr_V (n := zu n 6 (n 6 + 1)) (v := n 6) (f := f) (first := n 4) (m := m) (tag := tag) (se := se)
    unfold zRv
    rw [e6]
    refine ⟨by simp [zs], fun v v0 v1 => ?_, fun v v0 v1 => ?_, fun v v0 v1 => ?_, fun v v0 v1 => ?_, fun v v0 v1 => ?_⟩
    · by_cases hv : v = n 6
      · rw [hv, en.1]; simp [zs]
      · rw [eo v 0 v0 (by omega) (by omega) (by omega)]; simp [zs, hv]; exact b2 v v0 (by omega)
    · by_cases hv : v = n 6
      · rw [hv, en.2.1]; simp [zs]
      · rw [eo v 1 v0 (by omega) (by omega) (by omega)]; simp [zs, hv]; exact b3 v v0 (by omega)
    · by_cases hv : v = n 6
      · rw [hv, en.2.2.1]; simp [zs]
      · rw [eo v 2 v0 (by omega) (by omega) (by omega)]; simp [zs, hv]; exact b4 v v0 (by omega)
    · by_cases hv : v = n 6
      · rw [hv, en.2.2.2.1]; simp [zs]
      · rw [eo v 3 v0 (by omega) (by omega) (by omega)]; simp [zs, hv]; exact b5 v v0 (by omega)
    · by_cases hv : v = n 6
      · rw [hv, en.2.2.2.2]; simp [zs]
      · rw [eo v 4 v0 (by omega) (by omega) (by omega)]; simp [zs, hv]; exact b6 v v0 (by omega)
theorem e1_next (hW : zWF E) (hu : zU E 0 d = true) (hR : zRb (σ 0 d) n) : g_i (zH E σ) (zL E 0 d 1) 0 2 = some (zI (n 4)) := by
  rw [← hR.1.2.2.1]; exact (zz_bl hW hu).2.2.2.2.1
theorem e1_beginIfNeeded (hW : zWF E) (hu : zU E 0 d = true) (hR : zRd (σ 0 d) n) (hn : nW n) (hT : nTm n = false) : ∃ σ', f_X1_beginIfNeeded (zH E σ) (zL E 0 d 0) = some (zH E σ') ∧ (∀ k' d' c', ¬ (k' = 0 ∧ d' = d ∧ 16 ≤ c' ∧ c' ≠ 23 ∧ c' ≤ 24) → σ' k' d' c' = σ k' d' c') ∧ zRd (σ' 0 d) (nBi n) := by
  have hN' := hn.1.r
  have hop := e5_isOpen hW hu hR.2.2.1 hn.1 hn.2.2.2
  unfold nBi
  cases hc : nOp n
  · obtain ⟨σ', g1, g2, g3⟩ := e5_begin hW hu hR.2.2.1 hn.1 hn.2.2.2 (nTm_f hn hT hc) (x := n 4) rfl
    refine ⟨σ', ?_, g2, ?_⟩
    · rw [hc] at hop
      simp (disch := first | assumption | omega) only [f_X1_beginIfNeeded, zz_dco hW hu, zz_seo hW hu, zz_blo hW hu, hop, e1_next hW hu hR.1, g1, zz_some, zz_lit, zz_num, zI_lt, zI_le, zI_eq, zI_nat, zz_b, if_pos, if_neg, if_true, if_false]
    · rw [if_neg (by simp)]
      have hρ : ∀ c, ¬ (16 ≤ c ∧ c ≠ 23 ∧ c ≤ 24) → σ' 0 d c = σ 0 d c := fun c hc => g2 0 d c (by omega)
      have e : ∀ i, i < 1255 → i ≠ 3 → nBg n i = n i := fun i hi h => nBg_lo (by omega) hi h
      exact ⟨zRb_ag (fun c h1 h2 => hρ c (by omega)) (fun i _ h3 _ _ hi => e i (by omega) h3) hR.1, zRv_ag (fun c h1 h2 => hρ c (by omega)) (e 6 (by omega) (by omega)) (by omega) (fun i h1 h2 => e i h2 (by omega)) hR.2.1, g3, by rw [hρ 0 (by omega), e 2 (by omega) (by omega)]; exact hR.2.2.2.1, by rw [hρ 0 (by omega), e 5 (by omega) (by omega)]; exact hR.2.2.2.2⟩
  · refine ⟨σ, ?_, fun _ _ _ _ => rfl, by rw [if_pos rfl]; exact hR⟩
    rw [hc] at hop
    simp (disch := first | assumption | omega) only [f_X1_beginIfNeeded, zz_dco hW hu, zz_seo hW hu, hop, Bool.true_eq_false, zz_some, zz_lit, zz_num, zI_lt, zI_le, zI_eq, zI_nat, zz_b, if_pos, if_neg, if_true, if_false]
/-- the blocks of a version or a directory, one behind the other -/
theorem e1_wl (kind se v : Int) (hk : kind = 1 ∨ kind = 2) (hse0 : 0 ≤ se) (hv0 : -1 ≤ v) (hkv : kind = 1 → 0 ≤ v) (hW : zWF E) (hu : zU E 0 d = true) : ∀ (m : Nat) (σ : zW) (nb : zN) (k : Int), zRb (σ 0 d) nb → nWn nb → nWb nb → nb 4 + m ≤ nb 0 - nb 1 → nBc nb m ≤ nGc nb → se < nb 3 → v < nb 6 → 0 ≤ k → k + m ≤ 8 →
    ∃ σ', (∀ (β : Type) (st : Nat → gH → Int32 → Option β) (len : Int), len = k + m → (∀ (f : Nat) (τ : zW) (x : Int), x < len → 0 ≤ x → x < 100 → st (f + 1) (zH E τ) (zI x) = (f_X0_writeNext (zH E τ) (zL E 0 d 1) (zI kind) (zI se) (zI v) (zI x)).bind fun G2 => st f G2 (zI (x + 1))) → ∀ fuel, m < fuel → st fuel (zH E σ) (zI k) = st (fuel - m) (zH E σ') (zI len)) ∧ (∀ k' d' c', ¬ (k' = 0 ∧ d' = d ∧ 1 ≤ c' ∧ c' ≤ 9) → σ' k' d' c' = σ k' d' c') ∧ zRb (σ' 0 d) (nWl kind se v nb k m) := by
  intro m
  induction m with
  | zero =>
    intro σ nb k hR _ _ _ _ _ _ _ _
    refine ⟨σ, fun β st len hlen hst fuel hf => ?_, fun _ _ _ _ => rfl, hR⟩
    rw [hlen, Nat.sub_zero, show k + ((0 : Nat) : Int) = k by omega]
  | succ m ih =>
    intro σ nb k hR hN hB hr hc h1 h2 h3 h4
    have hN' := hN.r
    have hb := hB (nb 4) (by omega) (by omega)
    have hcc : nBc nb (m + 1) = zb (decide (nb (103 + nb 4) = 1)) + zcn (fun b => decide (nb (103 + b) = 1)) (nb 4 + 1) m := rfl
    have hz := zcn_rng (fun b => decide (nb (103 + b) = 1)) m (nb 4 + 1)
    have hg : nb (103 + nb 4) = 1 → 1 ≤ nGc nb := fun z => by rw [zb_dpos z] at hcc; omega
    obtain ⟨a1, a2, a3, a4, a5⟩ := nWrB_W hN hB (kind := kind) (se := se) (v := v) (k := k) (by omega) hg hk hse0 h1 hv0 h2 hkv h3 (by omega)
    obtain ⟨σ1, g1, g2, g3⟩ := e0_writeNext hW hu hR hN hB (kind := kind) (se := se) (v := v) (k := k) (by omega) hg hk hse0 h1 hv0 h2 h3 (by omega)
    have e0 := a5 0 (by omega) (by omega)
    have e1 := a5 1 (by omega) (by omega)
    have e3 := a5 3 (by omega) (by omega)
    have e6 := a5 6 (by omega) (by omega)
    have hb' : nBc (nWrB nb kind se v k) m = zcn (fun b => decide (nb (103 + b) = 1)) (nb 4 + 1) m := by
      unfold nBc
      rw [a4]
      exact zcn_congr _ _ (fun c c0 c1 => by rw [a5 (103 + c) (by omega) (by omega)])
    obtain ⟨σ', q1, q2, q3⟩ := ih σ1 (nWrB nb kind se v k) (k + 1) g3 a1 a2 (by rw [a4, e0, e1]; omega) (by rw [hb', a3]; omega) (by omega) (by omega) (by omega) (by omega)
    refine ⟨σ', fun β st len hlen hst fuel hf => ?_, fun k' d' c' hz => (q2 k' d' c' hz).trans (g2 k' d' c' hz), q3⟩
    obtain ⟨f, rfl, hf2⟩ := zfuel hf
    have h6 : st (f + 1) (zH E σ) (zI k) = st f (zH E σ1) (zI (k + 1)) := by
      rw [hst f σ k (by omega) h3 (by omega), g1, zz_some]
    rw [h6, q1 β st len (by omega) hst f (by omega), show f + 1 - (m + 1) = f - m by omega]
theorem e1_closeSession (hW : zWF E) (hu : zU E 0 d = true) (hR : zRd (σ 0 d) n) (hn : nW n) (h : nWc n = 0) : ∃ σ', f_X1_closeSession (zH E σ) (zL E 0 d 0) = some (zH E σ', zI (nLa n)) ∧ (∀ k' d' c', ¬ (k' = 0 ∧ d' = d) → σ' k' d' c' = σ k' d' c') ∧ (∀ c', c' = 0 ∨ c' = 23 → σ' 0 d c' = σ 0 d c') ∧ zRd (σ' 0 d) (nCl n) := by
  have hN' := hn.1.r
  obtain ⟨⟨x1, x2, x3, x4, x5, x6⟩, w2, w3, w4, w5⟩ := nCl_W hn h
  obtain ⟨hop, hd⟩ := nWc_0 h
  obtain ⟨h3, hst⟩ := nOp_iff.mp hop
  have hla : nLa n = n 3 - 1 := rfl
  have hent := hn.2.2.2.ent hn.1 h3 (by omega : nLa n < n 3)
  obtain ⟨D, hDe⟩ : ∃ D, D = nDl (nS n (nLa n) 2) := ⟨_, rfl⟩
  have hz : ∀ G : gH, f_X9_directoryLength G (zI (nS n (nLa n) 2)) = some (zI D) := fun G => by rw [nDl_z hent.1 (by omega), hDe]
  rw [← hDe] at x4 x5 x6 w4
  have e0 := x3
  have hbc : nBc (nCl0 n) D.toNat ≤ nGc (nCl0 n) := by
    rw [nBc_ag (fun i _ hi => e0 i (by omega)) (e0 4 (by omega)) (by omega) (by omega), nGc_ag (fun i _ hi => e0 i (by omega)) (e0 0 (by omega)) (e0 1 (by omega)) hn.1]
    exact x4
  have hRb0 : zRb (σ 0 d) (nCl0 n) := zRb_ag (fun _ _ _ => rfl) (fun i _ _ _ _ hi => e0 i (by omega)) hR.1
  obtain ⟨σ1, q1, q2, q3⟩ := e1_wl 2 (nLa n) (-1) (Or.inr rfl) h3 (by omega) (fun z => by omega) hW hu D.toNat σ (nCl0 n) 0 hRb0 x1 x2 (by rw [e0 4 (by omega), e0 0 (by omega), e0 1 (by omega)]; omega) hbc (by rw [e0 3 (by omega)]; omega) (by rw [e0 6 (by omega)]; omega) (by omega) (by omega)
  have hρ1 : ∀ c, ¬ (1 ≤ c ∧ c ≤ 9) → σ1 0 d c = σ 0 d c := fun c hc => q2 0 d c (by omega)
  have hl1 : f_X5_latest (zH E σ1) (zL E 0 d 16) = some (zI (nLa n)) := by
    rw [e5r_latest hW hu, hρ1 16 (by omega), hR.2.2.1.1, hla]
  refine ⟨zs (zs (zs σ1 0 d 17 (nLa n) 1) 0 d 19 (nLa n) (n 4)) 0 d 24 (nLa n) D, ?_, fun k' d' c' hz => ?_, fun c' hc' => ?_, ?_⟩
  · have h5 := q1 (gH × Int32) (fun fuel G x => f_X1_closeSession_L31 fuel G (zL E 0 d 0) (zI (nLa n)) (zI (n 4)) (zI D) x) D (by omega) (fun f τ x hx hx0 hx1 => by
      simp (disch := first | assumption | omega) only [f_X1_closeSession_L31, zz_dco hW hu, zz_blo hW hu, zz_some, zz_lit, zz_num, zI_lt, zI_le, zI_eq, zI_nat, zz_b, if_pos, if_neg, if_true, if_false]) g_N (by unfold g_N; omega)
    have h6 : f_X1_closeSession (zH E σ) (zL E 0 d 0) = f_X1_closeSession_L31 g_N (zH E σ) (zL E 0 d 0) (zI (nLa n)) (zI (n 4)) (zI D) (zI 0) := by
      simp (disch := first | assumption | omega) only [f_X1_closeSession, zz_dco hW hu, zz_seo hW hu, e5_latest hW hu hR.2.2.1 hn.1, e1_next hW hu hR.1, e5_entriesOf hW hu hR.2.2.1 hn.1, hz, zz_some, zz_lit, zz_num, zI_lt, zI_le, zI_eq, zI_nat, zz_b, if_pos, if_neg, if_true, if_false]
    rw [h6, h5]
    obtain ⟨fu, hfu⟩ : ∃ fu, g_N - D.toNat = fu + 1 := ⟨g_N - D.toNat - 1, by unfold g_N; omega⟩
    rw [hfu]
    simp (disch := first | assumption | omega) only [f_X1_closeSession_L31, zz_dco hW hu, zz_seo hW hu, f_X5_markClosed, hl1, zz_dr hW hu, zz_some, zz_lit, zz_num, zI_lt, zI_le, zI_eq, zI_nat, zz_b, if_pos, if_neg, if_true, if_false]
    have hl2 : f_X5_latest (zH E (zs σ1 0 d 17 (nLa n) 1)) (zL E 0 d 16) = some (zI (nLa n)) := by
      rw [e5r_latest hW hu, zs_ne (by omega), hρ1 16 (by omega), hR.2.2.1.1, hla]
    simp (disch := first | assumption | omega) only [zz_seo hW hu, hl2, zz_dr hW hu, zz_some, zz_lit, zz_num, zI_lt, zI_le, zI_eq, zI_nat, zz_b, if_pos, if_neg, if_true, if_false]
    have hl3 : f_X5_latest (zH E (zs (zs σ1 0 d 17 (nLa n) 1) 0 d 19 (nLa n) (n 4))) (zL E 0 d 16) = some (zI (nLa n)) := by
      rw [e5r_latest hW hu, zs_ne (by omega), zs_ne (by omega), hρ1 16 (by omega), hR.2.2.1.1, hla]
    simp (disch := first | assumption | omega) only [zz_seo hW hu, hl3, zz_dr hW hu, zz_some, zz_lit, zz_num, zI_lt, zI_le, zI_eq, zI_nat, zz_b, if_pos, if_neg, if_true, if_false]
  · rw [zs_ne (by omega), zs_ne (by omega), zs_ne (by omega), q2 k' d' c' (by omega)]
  · rw [zs_ne (by omega), zs_ne (by omega), zs_ne (by omega), hρ1 c' (by omega)]
  · refine ⟨zRb_ag (fun c h1 h2 => by rw [zs_ne (by omega), zs_ne (by omega), zs_ne (by omega)]) (fun i _ _ _ _ hi => w4 i (by omega)) q3, zRv_ag (fun c h1 h2 => by rw [zs_ne (by omega), zs_ne (by omega), zs_ne (by omega), hρ1 c (by omega)]) (w5 6 (by omega) (by omega)) (by omega) (fun i h1 h2 => w5 i (by omega) (by omega)) hR.2.1, ?_, ?_⟩
    · obtain ⟨c1, c2, c3, c4, c5, c6, c7, c8⟩ := hR.2.2.1
      unfold zRs
      rw [w5 3 (by omega) (by omega)]
      refine ⟨?_, fun s s0 s1 => ?_, fun s s0 s1 => ?_, fun s s0 s1 => ?_, fun s s0 s1 => ?_, fun s k s0 s1 k0 k1 => ?_, fun s k s0 s1 k0 k1 => ?_, fun s s0 s1 => ?_⟩
      · rw [zs_ne (by omega), zs_ne (by omega), zs_ne (by omega), hρ1 16 (by omega)]; exact c1
      · rw [zs_ne (by omega), zs_ne (by omega), zs_at, w3 s 0 s0 (by omega) (by omega)]
        by_cases hs : s = nLa n
        · rw [if_pos hs, if_pos ⟨hs, rfl⟩]
        · rw [if_neg hs, if_neg (by omega), if_neg (by omega), if_neg (by omega), hρ1 17 (by omega)]; exact c2 s s0 s1
      · rw [zs_ne (by omega), zs_ne (by omega), zs_ne (by omega), hρ1 18 (by omega), w3 s 1 s0 (by omega) (by omega), if_neg (by omega), if_neg (by omega), if_neg (by omega)]; exact c3 s s0 s1
      · rw [zs_ne (by omega), zs_at, zs_ne (by omega), hρ1 19 (by omega), w3 s 3 s0 (by omega) (by omega)]
        by_cases hs : s = nLa n
        · rw [if_pos hs, if_neg (by omega), if_neg (by omega), if_pos ⟨hs, rfl⟩]; omega
        · rw [if_neg hs, if_neg (by omega), if_neg (by omega), if_neg (by omega)]; exact c4 s s0 s1
      · rw [zs_ne (by omega), zs_ne (by omega), zs_ne (by omega), hρ1 20 (by omega), w3 s 2 s0 (by omega) (by omega), if_neg (by omega), if_neg (by omega), if_neg (by omega)]; exact c5 s s0 s1
      · have he := hn.2.2.2.ent hn.1 s0 s1
        rw [w3 s 2 s0 (by omega) (by omega), if_neg (by omega), if_neg (by omega), if_neg (by omega)] at k1
        rw [zs_ne (by omega), zs_ne (by omega), zs_ne (by omega), hρ1 21 (by omega), w3 s _ s0 (by omega) (by omega), if_neg (by omega), if_neg (by omega), if_neg (by omega)]; exact c6 s k s0 s1 k0 k1
      · have he := hn.2.2.2.ent hn.1 s0 s1
        rw [zs_ne (by omega), zs_ne (by omega), zs_ne (by omega), hρ1 22 (by omega), nX_cg (n := n) (n' := nCl n) (s := s) (f := k) (by omega) (by rw [w3 s 2 s0 (by omega) (by omega), if_neg (by omega), if_neg (by omega), if_neg (by omega)]) (fun w w0 w1 => by rw [w3 s w s0 (by omega) (by omega), if_neg (by omega), if_neg (by omega), if_neg (by omega)])]
        exact c7 s k s0 s1 k0 k1
      · have e2 := w3 s 2 s0 (by omega) (by omega)
        rw [if_neg (by omega), if_neg (by omega), if_neg (by omega)] at e2
        have e3 := w3 s 3 s0 (by omega) (by omega)
        rw [zs_at, zs_ne (by omega), zs_ne (by omega), hρ1 24 (by omega)]
        by_cases hs : s = nLa n
        · rw [if_neg (by omega), if_neg (by omega), if_pos ⟨hs, rfl⟩] at e3
          unfold nL
          rw [if_pos hs, e2, e3, if_pos (by omega), hs, hDe]
        · rw [if_neg (by omega), if_neg (by omega), if_neg (by omega)] at e3
          rw [if_neg hs, nL_cg e2 e3]; exact c8 s s0 s1
    · unfold zRf
      rw [zs_ne (by omega), zs_ne (by omega), zs_ne (by omega), hρ1 0 (by omega), w5 2 (by omega) (by omega), w5 5 (by omega) (by omega)]
      exact hR.2.2.2
theorem e1_writeVersion (hW : zWF E) (hu : zU E 0 d = true) (hR : zRd (σ 0 d) n) (hn : nW n) {f m tag : Int} (hf0 : 0 ≤ f) (hf1 : f < n 2) (hm0 : 1 ≤ m) (hm1 : m ≤ 8) (ht0 : 0 ≤ tag) (ht1 : tag ≤ 999) (h : nWw n f m = 0) : ∃ σ', f_X1_writeVersion (zH E σ) (zL E 0 d 0) (zI f) (zI m) (zI tag) = some (zH E σ', zI (n 6)) ∧ (∀ k' d' c', ¬ (k' = 0 ∧ d' = d) → σ' k' d' c' = σ k' d' c') ∧ (∀ c', c' = 0 ∨ c' = 23 → σ' 0 d c' = σ 0 d c') ∧ zRd (σ' 0 d) (nWrs n f m tag) := by
  have hN' := hn.1.r
  obtain ⟨b1, b2, ⟨a1, a2, a3, a4, a5, a6⟩, w3, w4⟩ := nWrs_W hn hf0 hf1 hm0 hm1 ht0 ht1 h
  obtain ⟨hT, hroom, hsp⟩ := nWw_0 h
  obtain ⟨σ1, g1, g2, g3⟩ := e1_beginIfNeeded hW hu hR hn hT
  obtain ⟨n1, hn1⟩ : ∃ x, x = nBi n := ⟨_, rfl⟩
  rw [← hn1] at b1 b2 a1 a2 a3 a4 a5 a6 w3 g3
  have e1 : ∀ i, i < 1255 → i ≠ 3 → n1 i = n i := fun i hi h3 => by rw [hn1]; exact nBi_lo (by omega) hi h3
  have hN1 := b1.1.r
  obtain ⟨l0, lst⟩ := nOp_iff.mp b2
  have hla : nLa n1 = n1 3 - 1 := rfl
  have hver := hn.2.2.1.1
  have hDl := nDl_rng (nEw_rng hn f).1 (by have := (nEw_rng hn f).2; omega)
  have hv6 : n1 6 = n 6 := e1 6 (by omega) (by omega)
  have hv4 : n1 4 = n 4 := e1 4 (by omega) (by omega)
  obtain ⟨σ2, p1, p2, p3⟩ := e7_add (d := d) hW hu g3.2.1 b1.1 (by omega) (f := f) (m := m) (tag := tag) (se := nLa n1)
  obtain ⟨n2, hn2⟩ : ∃ x, x = nAdd n1 f m tag := ⟨_, rfl⟩
  have hn2' : nAr (zu n1 6 (n1 6 + 1)) (n1 6) f (n1 4) m tag (nLa n1) = n2 := hn2.symm
  rw [hn2'] at p3
  rw [← hn2] at a1 a2 a3 a4 a5 a6 w3
  have hρ2 : ∀ c, ¬ (10 ≤ c ∧ c ≤ 15) → σ2 0 d c = σ1 0 d c := fun c hc => p2 0 d c (by omega)
  have hRb2 : zRb (σ2 0 d) n2 := zRb_ag (fun c h1 h2 => hρ2 c (by omega)) (fun i _ _ _ h6 hi => a5 i h6 (by omega)) g3.1
  obtain ⟨σ3, q1, q2, q3⟩ := e1_wl 1 (nLa n1) (n 6) (Or.inl rfl) l0 (by omega) (fun _ => by omega) hW hu m.toNat σ2 n2 0 hRb2 a1 a2 (by omega) a4 (by rw [a5 3 (by omega) (by omega)]; omega) (by omega) (by omega) (by omega)
  have hρ3 : ∀ c, ¬ (1 ≤ c ∧ c ≤ 9) → σ3 0 d c = σ2 0 d c := fun c hc => q2 0 d c (by omega)
  have hw := nWl_W (kind := 1) (se := nLa n1) (v := n 6) m.toNat n2 0 a1 a2 (by omega) a4 (Or.inl rfl) l0 (by rw [a5 3 (by omega) (by omega)]; omega) (by omega) (by omega) (fun _ => by omega) (by omega) (by omega)
  obtain ⟨n3, hn3⟩ : ∃ x, x = nWl 1 (nLa n1) (n 6) n2 0 m.toNat := ⟨_, rfl⟩
  rw [← hn3] at q3 w3 hw
  obtain ⟨-, -, c3, c4⟩ := hw
  have c4' : ∀ i, i ≠ 4 → i < 7 ∨ 775 ≤ i → n3 i = n2 i := fun i h4 hi => c4 i h4 (by omega)
  have d3 : n3 3 = n1 3 := by rw [c4' 3 (by omega) (by omega), a5 3 (by omega) (by omega)]
  have hla3 : nLa n3 = nLa n1 := nLa_lo d3
  have dS : ∀ s w, 0 ≤ s → 0 ≤ w → nS n3 s w = nS n1 s w := fun s w s0 w0 => by
    unfold nS
    rw [c4' _ (by omega) (by omega), a5 _ (by omega) (by omega)]
  have hRs3 : zRs (σ3 0 d) n3 := zRs_ag (fun c h1 _ h2 => by rw [hρ3 c (by omega), hρ2 c (by omega)]) d3 (fun s s0 s1 => by have := b1.2.2.2.ent b1.1 s0 s1; omega) (fun s w s0 _ w0 _ _ => dS s w s0 w0) g3.2.2.1
  have o3 : nOp n3 = true := nOp_iff.mpr ⟨by omega, by rw [hla3, dS _ 0 l0 (by omega)]; exact lst⟩
  obtain ⟨σ4, r1, r2, r3⟩ := e5_enter (v := n 6) hW hu hRs3 w3.1 w3.2.2.2 o3 hf0 (by rw [c4' 2 (by omega) (by omega), a5 2 (by omega) (by omega), e1 2 (by omega) (by omega)]; exact hf1)
  have hρ4 : ∀ c, ¬ (16 ≤ c ∧ c ≠ 23 ∧ c ≤ 24) → σ4 0 d c = σ3 0 d c := fun c hc => r2 0 d c (by omega)
  have hwr : nWrs n f m tag = nE1 n3 f (n 6) := by unfold nWrs; rw [← hn1, ← hn2, ← hn3]
  have hent3 := w3.2.2.2.ent w3.1 (by omega : 0 ≤ nLa n3) (by omega : nLa n3 < n3 3)
  have elo : ∀ i, i < 1255 → nE1 n3 f (n 6) i = n3 i := fun i hi => nE1_lo (by omega) hent3.1 hi
  refine ⟨σ4, ?_, fun k' d' c' hz => ?_, fun c' hc' => ?_, ?_⟩
  · have h5 := q1 (gH × Int32) (fun fuel G x => f_X1_writeVersion_L37 fuel G (zL E 0 d 0) (zI f) (zI m) (zI (nLa n1)) (zI (n 6)) x) m (by omega) (fun f τ x hx hx0 hx1 => by
      simp (disch := first | assumption | omega) only [f_X1_writeVersion_L37, zz_dco hW hu, zz_blo hW hu, zz_some, zz_lit, zz_num, zI_lt, zI_le, zI_eq, zI_nat, zz_b, if_pos, if_neg, if_true, if_false]) g_N (by unfold g_N; omega)
    have h6 : f_X1_writeVersion (zH E σ) (zL E 0 d 0) (zI f) (zI m) (zI tag) = f_X1_writeVersion_L37 g_N (zH E σ2) (zL E 0 d 0) (zI f) (zI m) (zI (nLa n1)) (zI (n 6)) (zI 0) := by
      rw [hv6] at p1
      simp (disch := first | assumption | omega) only [f_X1_writeVersion, zz_dco hW hu, zz_seo hW hu, zz_vso hW hu, g1, e5_latest hW hu g3.2.2.1 b1.1, e1_next hW hu g3.1, p1, zz_some, zz_lit, zz_num, zI_lt, zI_le, zI_eq, zI_nat, zz_b, if_pos, if_neg, if_true, if_false]
    rw [h6, h5]
    obtain ⟨fu, hfu⟩ : ∃ fu, g_N - m.toNat = fu + 1 := ⟨g_N - m.toNat - 1, by unfold g_N; omega⟩
    rw [hfu]
    simp (disch := first | assumption | omega) only [f_X1_writeVersion_L37, zz_dco hW hu, zz_seo hW hu, r1, zz_some, zz_lit, zz_num, zI_lt, zI_le, zI_eq, zI_nat, zz_b, if_pos, if_neg, if_true, if_false]
  · rw [r2 k' d' c' (by omega), q2 k' d' c' (by omega), p2 k' d' c' (by omega), g2 k' d' c' (by omega)]
  · rw [hρ4 c' (by omega), hρ3 c' (by omega), hρ2 c' (by omega), g2 0 d c' (by omega)]
  · rw [hwr]
    refine ⟨zRb_ag (fun c h1 h2 => hρ4 c (by omega)) (fun i _ _ _ _ hi => elo i (by omega)) q3, zRv_ag (ρ := σ2 0 d) (n := n2) (fun c h1 h2 => by rw [hρ4 c (by omega), hρ3 c (by omega)]) (by rw [elo 6 (by omega), c4' 6 (by omega) (by omega)]) (by omega) (fun i h1 h2 => by rw [elo i h2, c4' i (by omega) (by omega)]) p3, r3, ?_⟩
    unfold zRf
    rw [hρ4 0 (by omega), hρ3 0 (by omega), hρ2 0 (by omega), elo 2 (by omega), elo 5 (by omega), c4' 2 (by omega) (by omega), c4' 5 (by omega) (by omega), a5 2 (by omega) (by omega), a5 5 (by omega) (by omega)]
    exact g3.2.2.2
theorem e1_eraseFile (hW : zWF E) (hu : zU E 0 d = true) (hR : zRd (σ 0 d) n) (hn : nW n) {f : Int} (hf0 : 0 ≤ f) (hf1 : f < n 2) (h : nWe n f = 0) : ∃ σ', f_X1_eraseFile (zH E σ) (zL E 0 d 0) (zI f) = some (zH E σ') ∧ (∀ k' d' c', ¬ (k' = 0 ∧ d' = d) → σ' k' d' c' = σ k' d' c') ∧ (∀ c', c' = 0 ∨ c' = 23 → σ' 0 d c' = σ 0 d c') ∧ zRd (σ' 0 d) (nErs n f) := by
  have hN' := hn.1.r
  obtain ⟨b1, b2⟩ := nBi_W hn (nWe_0 h).2
  obtain ⟨σ1, g1, g2, g3⟩ := e1_beginIfNeeded hW hu hR hn (nWe_0 h).2
  have e1 : ∀ i, i < 1255 → i ≠ 3 → nBi n i = n i := fun i hi h3 => nBi_lo (by omega) hi h3
  obtain ⟨σ4, r1, r2, r3⟩ := e5_enter (v := -1) hW hu g3.2.2.1 b1.1 b1.2.2.2 b2 hf0 (by rw [e1 2 (by omega) (by omega)]; exact hf1)
  have hN1 := b1.1.r
  obtain ⟨l0, lst⟩ := nOp_iff.mp b2
  have hla : nLa (nBi n) = nBi n 3 - 1 := rfl
  have hent3 := b1.2.2.2.ent b1.1 l0 (by omega)
  have elo : ∀ i, i < 1255 → nE1 (nBi n) f (-1) i = nBi n i := fun i hi => nE1_lo l0 hent3.1 hi
  have hρ4 : ∀ c, ¬ (16 ≤ c ∧ c ≠ 23 ∧ c ≤ 24) → σ4 0 d c = σ1 0 d c := fun c hc => r2 0 d c (by omega)
  refine ⟨σ4, ?_, fun k' d' c' hz => ?_, fun c' hc' => ?_, ?_⟩
  · simp (disch := first | assumption | omega) only [f_X1_eraseFile, zz_dco hW hu, zz_seo hW hu, g1, r1, zz_some, zz_lit, zz_num, zI_lt, zI_le, zI_eq, zI_nat, zz_b, if_pos, if_neg, if_true, if_false]
  · rw [r2 k' d' c' (by omega), g2 k' d' c' (by omega)]
  · rw [hρ4 c' (by omega), g2 0 d c' (by omega)]
  · unfold nErs
    refine ⟨zRb_ag (fun c h1 h2 => hρ4 c (by omega)) (fun i _ _ _ _ hi => elo i (by omega)) g3.1, zRv_ag (fun c h1 h2 => hρ4 c (by omega)) (elo 6 (by omega)) (by omega) (fun i h1 h2 => elo i h2) g3.2.1, r3, ?_⟩
    unfold zRf
    rw [hρ4 0 (by omega), elo 2 (by omega), elo 5 (by omega)]
    exact g3.2.2.2
theorem e1_loseSession (hW : zWF E) (hu : zU E 0 d = true) (hR : zRd (σ 0 d) n) (hn : nW n) (hop : nOp n = true) : ∃ σ', f_X1_loseSession (zH E σ) (zL E 0 d 0) = some (zH E σ', zI (zcn (fun b => decide (n (295 + b) = nLa n + 1)) 0 (n 0 - n 1).toNat)) ∧ (∀ k' d' c', ¬ (k' = 0 ∧ d' = d) → σ' k' d' c' = σ k' d' c') ∧ (∀ c', c' = 0 ∨ c' = 23 → σ' 0 d c' = σ 0 d c') ∧ zRd (σ' 0 d) (nCrs n) := by
  have hN' := hn.1.r
  obtain ⟨l0, lst⟩ := nOp_iff.mp hop
  have hla : nLa n = n 3 - 1 := rfl
  obtain ⟨w1, w2, w3⟩ := nCrs_W hn hop
  obtain ⟨c1, c2, c3, c4, c5, c6, c7, c8⟩ := hR.2.2.1
  have hd0 : nS n (nLa n) 3 = 0 := by
    have hs := hn.2.2.2 (nLa n) l0 (by omega)
    by_cases h : 0 < nS n (nLa n) 3
    · have := hs.2.2.2.2.1.2.1.mp h; omega
    · have := hs.2.2.2.2.1.1; omega
  obtain ⟨σ0, s0'⟩ : ∃ x, x = zs σ 0 d 17 (nLa n) 2 := ⟨_, rfl⟩
  have hfg := e5_forget hW hu σ0 (s := nLa n) l0 (by omega)
  obtain ⟨σ1, s1⟩ : ∃ x, x = zr (zs σ0 0 d 20 (nLa n) 0) 0 d 22 (fun j => if nLa n * 10 ≤ j ∧ j < nLa n * 10 + 10 then -2 else σ0 0 d 22 j) := ⟨_, rfl⟩
  rw [← s1] at hfg
  have hρ : ∀ c, c ≠ 17 → c ≠ 20 → c ≠ 22 → σ1 0 d c = σ 0 d c := fun c h1 h2 h3 => by rw [s1, zr_ne (by omega), zs_ne (by omega), s0', zs_ne (by omega)]
  have r17 : ∀ s, σ1 0 d 17 s = if s = nLa n then 2 else σ 0 d 17 s := fun s => by rw [s1, zr_ne (by omega), zs_ne (by omega), s0', zs_at]
  have r20 : ∀ s, σ1 0 d 20 s = if s = nLa n then 0 else σ 0 d 20 s := fun s => by rw [s1, zr_ne (by omega), zs_at, s0', zs_ne (by omega)]
  have r22 : ∀ j, σ1 0 d 22 j = if nLa n * 10 ≤ j ∧ j < nLa n * 10 + 10 then -2 else σ 0 d 22 j := fun j => by rw [s1, zr_at, s0', zs_ne (by omega)]
  have hR1 : zRd (σ1 0 d) (nCrs n) := by
    refine ⟨zRb_ag (fun c h1 h2 => hρ c (by omega) (by omega) (by omega)) (fun i _ _ _ _ hi => w2 i (by omega)) hR.1, zRv_ag (fun c h1 h2 => hρ c (by omega) (by omega) (by omega)) (w2 6 (by omega)) (by omega) (fun i h1 h2 => w2 i h2) hR.2.1, ?_, ?_⟩
    · unfold zRs
      rw [w2 3 (by omega)]
      refine ⟨?_, fun s s0 s1' => ?_, fun s s0 s1' => ?_, fun s s0 s1' => ?_, fun s s0 s1' => ?_, fun s k s0 s1' k0 k1 => ?_, fun s k s0 s1' k0 k1 => ?_, fun s s0 s1' => ?_⟩
      · rw [hρ 16 (by omega) (by omega) (by omega)]; exact c1
      · have hx := w3 s 0 s0 (by omega) (by omega)
        rw [if_neg (by omega)] at hx
        rw [r17, hx]
        by_cases hs : s = nLa n
        · rw [if_pos hs, if_pos ⟨hs, rfl⟩]
        · rw [if_neg hs, if_neg (by omega)]; exact c2 s s0 s1'
      · rw [hρ 18 (by omega) (by omega) (by omega), w3 s 1 s0 (by omega) (by omega), if_neg (by omega), if_neg (by omega)]; exact c3 s s0 s1'
      · rw [hρ 19 (by omega) (by omega) (by omega), w3 s 3 s0 (by omega) (by omega), if_neg (by omega), if_neg (by omega)]; exact c4 s s0 s1'
      · rw [r20, w3 s 2 s0 (by omega) (by omega)]
        by_cases hs : s = nLa n
        · rw [if_pos hs, if_pos ⟨hs, rfl⟩]
        · rw [if_neg hs, if_neg (by omega), if_neg (by omega)]; exact c5 s s0 s1'
      · rw [w3 s 2 s0 (by omega) (by omega)] at k1
        by_cases hs : s = nLa n
        · rw [if_pos ⟨hs, rfl⟩] at k1; omega
        · have he := hn.2.2.2.ent hn.1 s0 s1'
          rw [if_neg (by omega), if_neg (by omega)] at k1
          rw [hρ 21 (by omega) (by omega) (by omega), w3 s _ s0 (by omega) (by omega), if_neg (by omega), if_neg (by omega)]; exact c6 s k s0 s1' k0 k1
      · have e2 := w3 s 2 s0 (by omega) (by omega)
        rw [r22]
        by_cases hs : s = nLa n
        · rw [if_pos ⟨hs, rfl⟩] at e2
          rw [if_pos (by omega), nX_0 (by omega)]
        · have he := hn.2.2.2.ent hn.1 s0 s1'
          rw [if_neg (by omega), if_neg (by omega)] at e2
          rw [if_neg (by omega), nX_cg (n := n) (n' := nCrs n) (by omega) e2 (fun w w0 w1 => by rw [w3 s w s0 (by omega) (by omega), if_neg (by omega), if_neg (by omega)])]
          exact c7 s k s0 s1' k0 k1
      · have e2 := w3 s 2 s0 (by omega) (by omega)
        have e3 := w3 s 3 s0 (by omega) (by omega)
        rw [if_neg (by omega), if_neg (by omega)] at e3
        rw [hρ 24 (by omega) (by omega) (by omega), c8 s s0 s1']
        by_cases hs : s = nLa n
        · unfold nL
          rw [e3, hs, hd0, if_neg (by omega), if_neg (by omega)]
        · rw [if_neg (by omega), if_neg (by omega)] at e2
          exact (nL_cg e2 e3).symm
    · unfold zRf
      rw [hρ 0 (by omega) (by omega) (by omega), w2 2 (by omega), w2 5 (by omega)]
      exact hR.2.2.2
  have hl : ∀ σ2 : zW, σ2 0 d 16 0 = n 3 → f_X5_latest (zH E σ2) (zL E 0 d 16) = some (zI (nLa n)) := fun σ2 h => by rw [e5r_latest hW hu, h, hla]
  have hl0 := hl σ c1
  have hl1 := hl σ0 (by rw [s0', zs_ne (by omega)]; exact c1)
  have hl2 := hl σ1 (by rw [hρ 16 (by omega) (by omega) (by omega)]; exact c1)
  have hmb := e0_mainBlocksOf hW hu hR1.1.1 w1.1 w1.2.1 (s := nLa n) l0 (by omega)
  refine ⟨σ1, ?_, fun k' d' c' hz => by rw [s1, zr_ne (by omega), zs_ne (by omega), s0', zs_ne (by omega)], fun c' hc' => hρ c' (by omega) (by omega) (by omega), hR1⟩
  simp (disch := first | assumption | omega) only [f_X1_loseSession, f_X5_markLost, zz_dco hW hu, zz_seo hW hu, hl0, zz_dr hW hu, zz_some, zz_lit, zz_num, zI_lt, zI_le, zI_eq, zI_nat, zz_b, if_pos, if_neg, if_true, if_false]
  rw [← s0']
  simp (disch := first | assumption | omega) only [zz_dco hW hu, zz_seo hW hu, hl1, hfg, zz_some, zz_lit, zz_num, zI_lt, zI_le, zI_eq, zI_nat, zz_b, if_pos, if_neg, if_true, if_false]
  simp (disch := first | assumption | omega) only [zz_dco hW hu, zz_seo hW hu, zz_blo hW hu, hl2, hmb, zz_some, zz_lit, zz_num, zI_lt, zI_le, zI_eq, zI_nat, zz_b, if_pos, if_neg, if_true, if_false]
  rw [w2 0 (by omega), w2 1 (by omega)]
  congr 3
  exact zcn_congr _ _ (fun b b0 b1 => by rw [w2 _ (by omega)])
end zCls
end
section
/-! Recovering, scratching, copying discs: the class. -/
theorem nRv_ag {n n' : zN} (hn : nW n) (h : ∀ i, i < 1255 → i ≠ 3 → n' i = n i) {v : Int} (h0 : 0 ≤ v) (h1 : v < n 6) : nRv n' v = nRv n v := by
  have hN := hn.1.r
  have hv := hn.2.2.1.2 v h0 h1
  have e : ∀ w, 0 ≤ w → w < 5 → nV n' v w = nV n v w := fun w w0 w1 => by
    have := hn.2.2.1.1
    exact h _ (by omega) (by omega)
  unfold nRv nRd
  rw [e 1 (by omega) (by omega), e 2 (by omega) (by omega)]
  refine zal_congr _ _ (fun b b0 b1 => ?_)
  have hb := hn.2.1 b (by omega) (by omega)
  have hp : nPl n' b = nPl n b := by unfold nPl; rw [h _ (by omega) (by omega)]
  have hp2 : 0 ≤ nPl n b ∧ nPl n b < 97 := by
    unfold nPl
    split <;> omega
  rw [hp, h _ (by omega) (by omega)]
theorem nRc_ag {n n' : zN} (hn : nW n) (h : ∀ i, i < 1255 → i ≠ 3 → n' i = n i) {v l : Int} (h0 : 0 ≤ v) (h1 : v < n 6) : nRc n' l v = nRc n l v := by
  have hN := hn.1.r
  have e : ∀ u w, 0 ≤ u → u < n 6 → 0 ≤ w → w < 5 → nV n' u w = nV n u w := fun u w u0 u1 w0 w1 => by
    have := hn.2.2.1.1
    exact h _ (by omega) (by omega)
  have ro : ∀ u, 0 ≤ u → u < n 6 → nRo n' u l = nRo n u l := fun u u0 u1 => by
    unfold nRo
    rw [e u 4 u0 u1 (by omega) (by omega), nRv_ag hn h u0 u1]
  unfold nRc
  rw [ro v h0 h1, h 6 (by omega) (by omega)]
  rw [zal_congr (Q := fun u => !(decide (nV n u 0 = nV n v 0) && nRo n u l)) _ _ (fun u u0 u1 => by rw [e u 0 (by omega) (by omega) (by omega) (by omega), e v 0 h0 h1 (by omega) (by omega), ro u (by omega) (by omega)])]
section zCls
variable {E : zE} {σ : zW} {d : Nat} {n : zN}
theorem e1_rec_L (hW : zWF E) (hu : zU E 0 d = true) {n0 : zN} (hn0 : nW n0) {l : Int} (hl0 : -1 ≤ l) (hl1 : l < 100) : ∀ (m fuel : Nat) (σ : zW) (n : zN) (v : Int), zRd (σ 0 d) n → nW n → nOp n = true → (∀ i, i < 1255 → i ≠ 3 → n i = n0 i) → 0 ≤ v → v + m = n0 6 → m < fuel →
    ∃ (σ' : zW) (fu : Nat), f_X1_recoverSession_L31 fuel (zH E σ) (zL E 0 d 0) (zI l) (zI v) = f_X1_recoverSession_L31 (fu + 1) (zH E σ') (zL E 0 d 0) (zI l) (zI (n0 6)) ∧ (∀ k' d' c', ¬ (k' = 0 ∧ d' = d) → σ' k' d' c' = σ k' d' c') ∧ (∀ c', c' = 0 ∨ c' = 23 → σ' 0 d c' = σ 0 d c') ∧ zRd (σ' 0 d) (nRl (nRc n0 l) (fun v => nV n0 v 0) n v m) := by
  have hN0 := hn0.1.r
  intro m
  induction m with
  | zero =>
    intro fuel σ n v hR hn hop he h0 h1 h2
    obtain ⟨f, rfl, h3⟩ := zfuel h2
    exact ⟨σ, f, by rw [show v = n0 6 by omega], fun _ _ _ _ => rfl, fun _ _ => rfl, hR⟩
  | succ m ih =>
    intro fuel σ n v hR hn hop he h0 h1 h2
    obtain ⟨f, rfl, h3⟩ := zfuel h2
    have hN := hn.1.r
    have e6 : n 6 = n0 6 := he 6 (by omega) (by omega)
    have e2 : n 2 = n0 2 := he 2 (by omega) (by omega)
    have hver := hn0.2.2.1.1
    have hvv := hn.2.2.1.2 v h0 (by omega)
    have hV0 : nV n v 0 = nV n0 v 0 := he _ (by omega) (by omega)
    have hrc := e1_recVer hW hu hR hn (x := nV n v 0) hvv.1.1 (by omega) hl0 hl1
    have hrr := nRf_rng n l (nV n v 0)
    have hri := nRf_iff (l := l) h0 (by omega : v < n 6)
    rw [nRc_ag hn0 he h0 (by omega)] at hri
    have hfo := e7_fileOf hW hu hR.2.1 hn.1 (by omega : -1 ≤ v) (by omega : v < n 6)
    rw [if_pos h0] at hfo
    have hcnt : g_i (zH E σ) (zL E 0 d 10) 7 0 = some (zI (n0 6)) := by rw [← e6]; exact e7_count hW hu hR.2.1 hn.1
    cases hp : nRc n0 l v
    · obtain ⟨σ', fu, q1, q2, q3, q4⟩ := ih f σ n (v + 1) hR hn hop he (by omega) (by omega) (by omega)
      have hne : ¬ nRf n l (nV n v 0) = v := fun z => by
        have := hri.mpr z
        rw [hp] at this
        cases this
      refine ⟨σ', fu, ?_, q2, q3, ?_⟩
      · rw [← q1]
        simp (disch := first | assumption | omega) only [f_X1_recoverSession_L31, zz_dco hW hu, zz_vso hW hu, hcnt, hfo, hrc, hne, zz_some, zz_lit, zz_num, zI_lt, zI_le, zI_eq, zI_nat, zz_b, if_pos, if_neg, if_true, if_false]
      · rw [nRl, hp, if_neg (by simp)]; exact q4
    · obtain ⟨σ1, r1, r2, r3⟩ := e5_enter (v := v) hW hu hR.2.2.1 hn.1 hn.2.2.2 hop (f := nV n v 0) hvv.1.1 hvv.1.2
      obtain ⟨l0, lst⟩ := nOp_iff.mp hop
      have hla : nLa n = n 3 - 1 := rfl
      have hent := hn.2.2.2.ent hn.1 l0 (by omega)
      have elo : ∀ i, i < 1255 → nE1 n (nV n v 0) v i = n i := fun i hi => nE1_lo l0 hent.1 hi
      obtain ⟨w1, w2, w3, w4⟩ := nE1_W hn hop (f := nV n v 0) (v := v) hvv.1.1 hvv.1.2 (by omega) (by omega) (fun _ => rfl)
      have hρ : ∀ c, ¬ (16 ≤ c ∧ c ≠ 23 ∧ c ≤ 24) → σ1 0 d c = σ 0 d c := fun c hc => r2 0 d c (by omega)
      have hR1 : zRd (σ1 0 d) (nE1 n (nV n v 0) v) := ⟨zRb_ag (fun c h1 h2 => hρ c (by omega)) (fun i _ _ _ _ hi => elo i (by omega)) hR.1, zRv_ag (fun c h1 h2 => hρ c (by omega)) (elo 6 (by omega)) (by omega) (fun i h1 h2 => elo i h2) hR.2.1, r3, by rw [hρ 0 (by omega), elo 2 (by omega)]; exact hR.2.2.2.1, by rw [hρ 0 (by omega), elo 5 (by omega)]; exact hR.2.2.2.2⟩
      obtain ⟨σ', fu, q1, q2, q3, q4⟩ := ih f σ1 (nE1 n (nV n v 0) v) (v + 1) hR1 w1 w2 (fun i hi h3 => by rw [elo i hi]; exact he i hi h3) (by omega) (by omega) (by omega)
      have heq := hri.mp hp
      refine ⟨σ', fu, ?_, fun k' d' c' hz => by rw [q2 k' d' c' hz, r2 k' d' c' (by omega)], fun c' hc' => by rw [q3 c' hc', hρ c' (by omega)], ?_⟩
      · rw [← q1]
        simp (disch := first | assumption | omega) only [f_X1_recoverSession_L31, zz_dco hW hu, zz_vso hW hu, zz_seo hW hu, hcnt, hfo, hrc, heq, r1, zz_some, zz_lit, zz_num, zI_lt, zI_le, zI_eq, zI_nat, zz_b, if_pos, if_neg, if_true, if_false]
      · rw [nRl, hp, if_pos rfl, ← hV0]; exact q4
theorem e1_recoverSession (hW : zWF E) (hu : zU E 0 d = true) (hR : zRd (σ 0 d) n) (hn : nW n) (h : nWr n = 0) : ∃ σ', f_X1_recoverSession (zH E σ) (zL E 0 d 0) = some (zH E σ', zI (nCr n)) ∧ (∀ k' d' c', ¬ (k' = 0 ∧ d' = d) → σ' k' d' c' = σ k' d' c') ∧ (∀ c', c' = 0 ∨ c' = 23 → σ' 0 d c' = σ 0 d c') ∧ zRd (σ' 0 d) (nRec n) := by
  have hN' := hn.1.r
  obtain ⟨k1, k2, k3, k4, ⟨a1, a2⟩, ⟨b1, b2, b3⟩, ⟨c1, c2, c3, c4⟩, w⟩ := nRec_W hn h
  obtain ⟨l0, lst⟩ := nLo_iff.mp k1
  have hla : nLa n = n 3 - 1 := rfl
  obtain ⟨n1, hn1⟩ : ∃ x, x = zus n (nLa n) 0 3 := ⟨_, rfl⟩
  have e1 : ∀ i, i < 1255 → n1 i = n i := fun i hi => by rw [hn1]; exact zus_lo l0 (by omega) hi
  have s1 : ∀ s w, 0 ≤ w → w < 25 → nS n1 s w = if s = nLa n ∧ w = 0 then 3 else nS n s w := fun s w w0 w1 => by rw [hn1, nS_zus (by omega) (by omega) w0 w1]
  rw [← hn1] at a1 a2 b1 b2 b3 c1 c2 c3 c4
  obtain ⟨σ1, t1⟩ : ∃ x, x = zs σ 0 d 17 (nLa n) 3 := ⟨_, rfl⟩
  have hρ1 : ∀ c, c ≠ 17 → σ1 0 d c = σ 0 d c := fun c hc => by rw [t1, zs_ne (by omega)]
  have hR1 : zRd (σ1 0 d) n1 := by
    refine ⟨zRb_ag (fun c h1 h2 => hρ1 c (by omega)) (fun i _ _ _ _ hi => e1 i (by omega)) hR.1, zRv_ag (fun c h1 h2 => hρ1 c (by omega)) (e1 6 (by omega)) (by omega) (fun i h1 h2 => e1 i h2) hR.2.1, ?_, by rw [hρ1 0 (by omega), e1 2 (by omega)]; exact hR.2.2.2.1, by rw [hρ1 0 (by omega), e1 5 (by omega)]; exact hR.2.2.2.2⟩
    obtain ⟨y1, y2, y3, y4, y5, y6, y7, y8⟩ := hR.2.2.1
    unfold zRs
    rw [e1 3 (by omega)]
    refine ⟨by rw [hρ1 16 (by omega)]; exact y1, fun s s0 s1' => ?_, fun s s0 s1' => ?_, fun s s0 s1' => ?_, fun s s0 s1' => ?_, fun s k s0 s1' k0 k1 => ?_, fun s k s0 s1' k0 k1 => ?_, fun s s0 s1' => ?_⟩
    · rw [t1, zs_at, s1 s 0 (by omega) (by omega)]
      by_cases hs : s = nLa n
      · rw [if_pos hs, if_pos ⟨hs, rfl⟩]
      · rw [if_neg hs, if_neg (by omega)]; exact y2 s s0 s1'
    · rw [hρ1 18 (by omega), s1 s 1 (by omega) (by omega), if_neg (by omega)]; exact y3 s s0 s1'
    · rw [hρ1 19 (by omega), s1 s 3 (by omega) (by omega), if_neg (by omega)]; exact y4 s s0 s1'
    · rw [hρ1 20 (by omega), s1 s 2 (by omega) (by omega), if_neg (by omega)]; exact y5 s s0 s1'
    · have he := hn.2.2.2.ent hn.1 s0 s1'
      rw [s1 s 2 (by omega) (by omega), if_neg (by omega)] at k1
      rw [hρ1 21 (by omega), s1 s _ (by omega) (by omega), if_neg (by omega)]; exact y6 s k s0 s1' k0 k1
    · have he := hn.2.2.2.ent hn.1 s0 s1'
      rw [hρ1 22 (by omega), nX_cg (n := n) (n' := n1) (s := s) (f := k) (by omega) (by rw [s1 s 2 (by omega) (by omega), if_neg (by omega)]) (fun w w0 w1 => by rw [s1 s w (by omega) w1, if_neg (by omega)])]
      exact y7 s k s0 s1' k0 k1
    · rw [hρ1 24 (by omega), nL_cg (n := n) (n' := n1) (s := s) (by rw [s1 s 2 (by omega) (by omega), if_neg (by omega)]) (by rw [s1 s 3 (by omega) (by omega), if_neg (by omega)])]
      exact y8 s s0 s1'
  obtain ⟨σ2, g1, g2, g3⟩ := e5_begin hW hu hR1.2.2.1 a1.1 a1.2.2.2 (by rw [e1 3 (by omega)]; exact k3) (x := n 4) (e1 4 (by omega)).symm
  have hρ2 : ∀ c, ¬ (16 ≤ c ∧ c ≠ 23 ∧ c ≤ 24) → σ2 0 d c = σ1 0 d c := fun c hc => g2 0 d c (by omega)
  have e2 : ∀ i, i < 1255 → i ≠ 3 → nBg n1 i = n i := fun i hi h3 => by rw [nBg_lo (by rw [e1 3 (by omega)]; omega) hi h3, e1 i hi]
  have hR2 : zRd (σ2 0 d) (nBg n1) := ⟨zRb_ag (n := n) (fun c h1 h2 => by rw [hρ2 c (by omega), hρ1 c (by omega)]) (fun i _ h3 _ _ hi => e2 i (by omega) h3) hR.1, zRv_ag (n := n) (fun c h1 h2 => by rw [hρ2 c (by omega), hρ1 c (by omega)]) (e2 6 (by omega) (by omega)) (by omega) (fun i h1 h2 => e2 i h2 (by omega)) hR.2.1, g3, by rw [hρ2 0 (by omega), hρ1 0 (by omega), e2 2 (by omega) (by omega)]; exact hR.2.2.2.1, by rw [hρ2 0 (by omega), hρ1 0 (by omega), e2 5 (by omega) (by omega)]; exact hR.2.2.2.2⟩
  obtain ⟨σ3, fu, q1, q2, q3, q4⟩ := e1_rec_L hW hu hn (l := nLa n) (by omega) (by omega) (n 6).toNat g_N σ2 (nBg n1) 0 hR2 b1 b2 e2 (by omega) (by omega) (by unfold g_N; omega)
  obtain ⟨n3, hn3⟩ : ∃ x, x = nRl (nRc n (nLa n)) (fun v => nV n v 0) (nBg n1) 0 (n 6).toNat := ⟨_, rfl⟩
  rw [← hn3] at c1 c2 c3 c4 q4
  obtain ⟨σ4, p1, p2, p3, p4⟩ := e1_closeSession hW hu q4 c1 c2
  have hrec : nRec n = nCl n3 := by unfold nRec; rw [← hn1, ← hn3]
  have hcl := nCl_W c1 c2
  have hla3 : nLa n3 = n3 3 - 1 := rfl
  have h33 : n3 3 = n 3 + 1 := by omega
  have hcl3 : nCl n3 3 = n 3 + 1 := by rw [hcl.2.2.2.2 3 (by omega) (by omega), h33]
  refine ⟨σ4, ?_, fun k' d' c' hz => by rw [p2 k' d' c' hz, q2 k' d' c' hz, g2 k' d' c' (by omega), t1, zs_ne (by omega)], fun c' hc' => by rw [p3 c' hc', q3 c' hc', hρ2 c' (by omega), hρ1 c' (by omega)], by rw [hrec]; exact p4⟩
  have h6 : f_X1_recoverSession (zH E σ) (zL E 0 d 0) = f_X1_recoverSession_L31 g_N (zH E σ2) (zL E 0 d 0) (zI (nLa n)) (zI 0) := by
    have hlat := e5_latest hW hu hR.2.2.1 hn.1
    have hnx : g_i (zH E σ1) (zL E 0 d 1) 0 2 = some (zI (n 4)) := by rw [e1_next hW hu hR1.1, e1 4 (by omega)]
    simp (disch := first | assumption | omega) only [f_X1_recoverSession, f_X5_markRecovered, zz_dco hW hu, zz_seo hW hu, hlat, zz_dr hW hu, zz_some, zz_lit, zz_num, zI_lt, zI_le, zI_eq, zI_nat, zz_b, if_pos, if_neg, if_true, if_false]
    rw [← t1]
    simp (disch := first | assumption | omega) only [zz_dco hW hu, zz_seo hW hu, hnx, g1, zz_some, zz_lit, zz_num, zI_lt, zI_le, zI_eq, zI_nat, zz_b, if_pos, if_neg, if_true, if_false]
  rw [h6, q1]
  have hc6 : g_i (zH E σ3) (zL E 0 d 10) 7 0 = some (zI (n 6)) := by
    rw [e7_count hW hu q4.2.1 c1.1]
    have := (nRl_W (P := nRc n (nLa n)) (fl := fun v => nV n v 0) (n 6).toNat (nBg n1) 0 b1 b2 (by omega) (by rw [e2 6 (by omega) (by omega)]; omega) (fun u u0 u1 _ => by
      rw [e2 6 (by omega) (by omega)] at u1
      have := hn.2.2.1.1
      exact (e2 _ (by omega) (by omega)).symm) (fun u t u0 u1 t1 hu ht => by
      rw [e2 6 (by omega) (by omega)] at t1
      exact nRc_ne u0 u1 t1 hu ht) (fun g hg => by
      rw [b3] at hg
      obtain ⟨k, k0, k1, _⟩ := nEn_iff.mp hg
      have h5 := nS_nBg (n := n1) (s := n 3) (w := 2) (by rw [e1 3 (by omega)]; omega) (by omega) (by omega) (by omega)
      rw [e1 3 (by omega), if_pos rfl, if_neg (by omega)] at h5
      omega)).2.2.2.1 6 (by omega)
    rw [← hn3, e2 6 (by omega) (by omega)] at this
    rw [this]
  have hl4 := e5_latest hW hu p4.2.2.1 hcl.2.1.1
  have hlc : nLa (nCl n3) = n 3 := by unfold nLa; omega
  have he4 := e5_entriesOf hW hu p4.2.2.1 hcl.2.1.1 (s := n 3) (by omega) (by omega)
  rw [hlc] at hl4
  rw [if_pos (by omega), hcl.2.2.1 (n 3) 2 (by omega) (by omega) (by omega), if_neg (by omega), if_neg (by omega), if_neg (by omega), c4] at he4
  simp (disch := first | assumption | omega) only [f_X1_recoverSession_L31, zz_dco hW hu, zz_vso hW hu, zz_seo hW hu, hc6, p1, hl4, he4, zz_some, zz_lit, zz_num, zI_lt, zI_le, zI_eq, zI_nat, zz_b, if_pos, if_neg, if_true, if_false]
end zCls
end
section
/-! The reference: what it reads off its row. -/
section zMod
variable {E : zE} {σ : zW} {n : zN}
theorem e10_mainMany (hW : zWF E) (hm : zU E 3 0 = true) (h1 : σ 3 0 1 = n) (hN : nWn n) : f_X10_mainMany (zH E σ) (zL E 3 0 0) = some (zI (n 0 - n 1)) := by
  simp (disch := first | assumption | omega) only [f_X10_mainMany, zz_mdo hW hm, zz_ra hW hm, h1, zz_some, zz_lit, zz_num, zI_lt, zI_le, zI_eq, zI_nat, zz_b, if_pos, if_neg, if_true, if_false]
theorem e10_isMain (hW : zWF E) (hm : zU E 3 0 = true) (h1 : σ 3 0 1 = n) (hN : nWn n) {b : Int} (h0 : 0 ≤ b) (h2 : b < 96) : f_X10_isMain (zH E σ) (zL E 3 0 0) (zI b) = some (zI (zb (decide (b < n 0 - n 1)))) := by
  have hN' := hN.r
  simp (disch := first | assumption | omega) only [f_X10_isMain, e10_mainMany hW hm h1 hN, zz_mdo hW hm, zz_ra hW hm, h1, zz_some, zz_lit, zz_num, zI_lt, zI_le, zI_eq, zI_nat, zz_b, if_pos, if_neg, if_true, if_false]
  by_cases h : b < n 0 - n 1
  · rw [if_neg (by omega), zb_dpos h]
  · rw [if_pos (by omega), zb_dneg h]
theorem e10_placeOf (hW : zWF E) (hm : zU E 3 0 = true) (h1 : σ 3 0 1 = n) (hN : nWn n) (hB : nWb n) {b : Int} (h0 : 0 ≤ b) (h2 : b < 96) : f_X10_placeOf (zH E σ) (zL E 3 0 0) (zI b) = some (zI (nPl n b)) := by
  have hN' := hN.r
  have hb := hB b h0 h2
  simp (disch := first | assumption | omega) only [f_X10_placeOf, zz_mdo hW hm, zz_ra hW hm, h1, zz_some, zz_lit, zz_num, zI_lt, zI_le, zI_eq, zI_nat, zz_b, if_pos, if_neg, if_true, if_false]
  unfold nPl
  by_cases h : 0 < n (679 + b)
  · rw [if_neg (by omega), if_pos h]
  · rw [if_pos (by omega), if_neg h]
theorem e10_canRead_L (hW : zWF E) (hm : zU E 3 0 = true) (h1 : σ 3 0 1 = n) (hN : nWn n) (hB : nWb n) {x y : Int} (hx : 0 ≤ x) (hy : 0 ≤ y) (hxy : x + y ≤ n 4) : ∀ (m fuel : Nat) (c : Bool) (b : Int), 0 ≤ b → b + m = x + y → m < fuel → f_X10_canRead_L5 (zH E σ) fuel (zL E 3 0 0) (zI x) (zI y) (zI (zb c)) (zI b) = some (zI (zb (c && zal (fun b => decide (n (199 + nPl n b) = 0)) b m))) := by
  have hN' := hN.r
  intro m
  induction m with
  | zero =>
    intro fuel c b h0 h2 h3
    obtain ⟨f, rfl, h4⟩ := zfuel h3
    simp (disch := first | assumption | omega) only [f_X10_canRead_L5, zal, zz_mdo hW hm, zz_ra hW hm, h1, zz_some, zz_lit, zz_num, zI_lt, zI_le, zI_eq, zI_nat, zz_b, if_pos, if_neg, if_true, if_false]
    simp
  | succ m ih =>
    intro fuel c b h0 h2 h3
    obtain ⟨f, rfl, h4⟩ := zfuel h3
    have hb := hB b h0 (by omega)
    have hp : 0 ≤ nPl n b ∧ nPl n b < 96 := by
      unfold nPl
      split <;> omega
    obtain ⟨hp0, hp1⟩ := hp
    have hb2 := hB _ hp0 hp1
    have i0 := ih f false (b + 1) (by omega) (by omega) (by omega)
    have i1 := ih f true (b + 1) (by omega) (by omega) (by omega)
    rw [show zI (zb false) = zI 0 from rfl] at i0
    rw [show zI (zb true) = zI 1 from rfl] at i1
    simp (disch := first | assumption | omega) only [f_X10_canRead_L5, e10_placeOf hW hm h1 hN hB, zal, i0, i1, zz_mdo hW hm, zz_ra hW hm, h1, zz_some, zz_lit, zz_num, zI_lt, zI_le, zI_eq, zI_nat, zz_b, if_pos, if_neg, if_true, if_false]
    cases c
    · simp
    · by_cases h : n (199 + nPl n b) = 0
      · simp [h]
      · simp [h]
theorem e10_canRead (hW : zWF E) (hm : zU E 3 0 = true) (h1 : σ 3 0 1 = n) (hN : nWn n) (hB : nWb n) {x y : Int} (hx : 0 ≤ x) (hy : 0 ≤ y) (hxy : x + y ≤ n 4) : f_X10_canRead (zH E σ) (zL E 3 0 0) (zI x) (zI y) = some (zI (zb (nRd n x y))) := by
  have hN' := hN.r
  unfold f_X10_canRead nRd
  have h := e10_canRead_L hW hm h1 hN hB hx hy hxy y.toNat g_N true x hx (by omega) (by unfold g_N; omega)
  rw [Bool.true_and] at h
  exact h
theorem e10_hasSpare_L62 (hW : zWF E) (hm : zU E 3 0 = true) (h1 : σ 3 0 1 = n) (hN : nWn n) (hB : nWb n) {x : Int} (hx : 0 ≤ x) (hx1 : n 4 + x ≤ n 0 - n 1) : ∀ (m fuel : Nat) (left b : Int), 0 ≤ b → b + m = n 4 + x → m < fuel → -1000 < left - m → left < 1000 → f_X10_hasSpare_L62 (zH E σ) fuel (zL E 3 0 0) (zI x) (zI left) (zI b) = some (zI (zb (decide (zcn (fun b => decide (n (103 + b) = 1)) b m ≤ left)))) := by
  have hN' := hN.r
  intro m
  induction m with
  | zero =>
    intro fuel left b h0 h2 h3 h4 h5
    obtain ⟨f, rfl, h6⟩ := zfuel h3
    simp (disch := first | assumption | omega) only [f_X10_hasSpare_L62, zz_mdo hW hm, zz_ra hW hm, h1, zz_some, zz_lit, zz_num, zI_lt, zI_le, zI_eq, zI_nat, zz_b, if_pos, if_neg, if_true, if_false]
    have hz0 : zcn (fun b => decide (n (103 + b) = 1)) b 0 = 0 := rfl
    by_cases h : left < 0
    · rw [if_pos h, zb_dneg (by rw [hz0]; omega)]
    · rw [if_neg h, zb_dpos (by rw [hz0]; omega)]
  | succ m ih =>
    intro fuel left b h0 h2 h3 h4 h5
    obtain ⟨f, rfl, h6⟩ := zfuel h3
    have hb := (hB b h0 (by omega)).2.1
    simp (disch := first | assumption | omega) only [f_X10_hasSpare_L62, zz_mdo hW hm, zz_ra hW hm, h1, zz_some, zz_lit, zz_num, zI_lt, zI_le, zI_eq, zI_nat, zz_b, if_pos, if_neg, if_true, if_false]
    rw [show zcn (fun b => decide (n (103 + b) = 1)) b (m + 1) = zb (decide (n (103 + b) = 1)) + zcn (fun b => decide (n (103 + b) = 1)) (b + 1) m from rfl]
    rw [ih _ _ _ (by omega) (by omega) (by omega) (by omega) (by omega)]
    have hz : zb (decide (n (103 + b) = 1)) = n (103 + b) := by
      rcases hb with h | h <;> simp [h, zb]
    rw [hz]
    have hp : (zcn (fun b => decide (n (103 + b) = 1)) (b + 1) m ≤ left - n (103 + b)) = (n (103 + b) + zcn (fun b => decide (n (103 + b) = 1)) (b + 1) m ≤ left) := propext ⟨fun h => by omega, fun h => by omega⟩
    simp only [hp]
theorem e10_hasSpare_L7 (hW : zWF E) (hm : zU E 3 0 = true) (h1 : σ 3 0 1 = n) (hN : nWn n) (hB : nWb n) {x : Int} (hx : 0 ≤ x) (hx1 : n 4 + x ≤ n 0 - n 1) : ∀ (m fuel : Nat) (left b : Int), 0 ≤ b → b + m = n 0 → m < fuel → 0 ≤ left → left + m < 500 → f_X10_hasSpare_L7 (zH E σ) fuel (zL E 3 0 0) (zI x) (zI left) (zI b) = some (zI (zb (decide (zcn (fun b => decide (n (103 + b) = 1)) (n 4) x.toNat ≤ left + zcn (fun b => decide (n (7 + b) = 0) && decide (n (103 + b) = 0)) b m)))) := by
  have hN' := hN.r
  intro m
  induction m with
  | zero =>
    intro fuel left b h0 h2 h3 h4 h5
    obtain ⟨f, rfl, h6⟩ := zfuel h3
    simp (disch := first | assumption | omega) only [f_X10_hasSpare_L7, zz_mdo hW hm, zz_ra hW hm, h1, zz_some, zz_lit, zz_num, zI_lt, zI_le, zI_eq, zI_nat, zz_b, if_pos, if_neg, if_true, if_false]
    rw [e10_hasSpare_L62 hW hm h1 hN hB hx hx1 x.toNat _ _ _ (by omega) (by omega) (by unfold g_N; omega) (by omega) (by omega)]
    simp [zcn]
  | succ m ih =>
    intro fuel left b h0 h2 h3 h4 h5
    obtain ⟨f, rfl, h6⟩ := zfuel h3
    have hb := hB b h0 (by omega)
    have i1 := ih f (left + 1) (b + 1) (by omega) (by omega) (by omega) (by omega) (by omega)
    have i0 := ih f (left + 0) (b + 1) (by omega) (by omega) (by omega) (by omega) (by omega)
    simp (disch := first | assumption | omega) only [f_X10_hasSpare_L7, i0, i1, zz_mdo hW hm, zz_ra hW hm, h1, zz_some, zz_lit, zz_num, zI_lt, zI_le, zI_eq, zI_nat, zz_b, if_pos, if_neg, if_true, if_false]
    rw [show zcn (fun b => decide (n (7 + b) = 0) && decide (n (103 + b) = 0)) b (m + 1) = zb (decide (n (7 + b) = 0) && decide (n (103 + b) = 0)) + zcn (fun b => decide (n (7 + b) = 0) && decide (n (103 + b) = 0)) (b + 1) m from rfl]
    by_cases h : n (7 + b) = 0
    · by_cases h7 : n (103 + b) = 0
      · simp [h, h7, zb, Int.add_assoc]
      · simp [h, h7, zb]
    · simp [h, zb]
theorem e10_hasSpare (hW : zWF E) (hm : zU E 3 0 = true) (h1 : σ 3 0 1 = n) (hN : nWn n) (hB : nWb n) {x : Int} (hx : 0 ≤ x) (hx1 : n 4 + x ≤ n 0 - n 1) : f_X10_hasSpare (zH E σ) (zL E 3 0 0) (zI x) = some (zI (zb (nHs n x))) := by
  have hN' := hN.r
  simp (disch := first | assumption | omega) only [f_X10_hasSpare, e10_mainMany hW hm h1 hN, zz_mdo hW hm, zz_ra hW hm, h1, zz_some, zz_lit, zz_num, zI_lt, zI_le, zI_eq, zI_nat, zz_b, if_pos, if_neg, if_true, if_false]
  rw [e10_hasSpare_L7 hW hm h1 hN hB hx hx1 (n 1).toNat _ _ _ (by omega) (by omega) (by unfold g_N; omega) (by omega) (by omega)]
  simp [nHs]
theorem e10_hasRoom (hW : zWF E) (hm : zU E 3 0 = true) (h1 : σ 3 0 1 = n) (hN : nWn n) {x : Int} (h0 : 0 ≤ x) (h2 : x < 1000) : f_X10_hasRoom (zH E σ) (zL E 3 0 0) (zI x) = some (zI (zb (decide (n 4 + x ≤ n 0 - n 1)))) := by
  have hN' := hN.r
  simp (disch := first | assumption | omega) only [f_X10_hasRoom, e10_mainMany hW hm h1 hN, zz_mdo hW hm, zz_ra hW hm, h1, zz_some, zz_lit, zz_num, zI_lt, zI_le, zI_eq, zI_nat, zz_b, if_pos, if_neg, if_true, if_false]
  rw [zb_somn]
  congr 4
  simp
theorem e10_dirLong {e : Int} (h0 : 0 ≤ e) (h2 : e ≤ 1000) (G : gH) : f_X10_directoryLong G (zI e) = some (zI (nDl e)) := by
  unfold f_X10_directoryLong nDl
  simp (disch := first | assumption | omega) only [zz_lit, zz_num, zI_div]
theorem e10_of (hW : zWF E) (hm : zU E 3 0 = true) (h1 : σ 3 0 1 = n) {s w : Int} (h0 : 0 ≤ s) (h2 : s < 12) (h3 : 0 ≤ w) (h4 : w < 25) : f_X10_of (zH E σ) (zL E 3 0 0) (zI s) (zI w) = some (zI (nS n s w)) := by
  simp (disch := first | assumption | omega) only [f_X10_of, zz_mdo hW hm, zz_ra hW hm, h1, zz_some, zz_lit, zz_num, zI_lt, zI_le, zI_eq, zI_nat, zz_b, if_pos, if_neg, if_true, if_false]
  rfl
theorem e10_ofVersion (hW : zWF E) (hm : zU E 3 0 = true) (h1 : σ 3 0 1 = n) {v w : Int} (h0 : 0 ≤ v) (h2 : v < 96) (h3 : 0 ≤ w) (h4 : w < 5) : f_X10_ofVersion (zH E σ) (zL E 3 0 0) (zI v) (zI w) = some (zI (nV n v w)) := by
  simp (disch := first | assumption | omega) only [f_X10_ofVersion, zz_mdo hW hm, zz_ra hW hm, h1, zz_some, zz_lit, zz_num, zI_lt, zI_le, zI_eq, zI_nat, zz_b, if_pos, if_neg, if_true, if_false]
  rfl
theorem e10_latest (hW : zWF E) (hm : zU E 3 0 = true) (h1 : σ 3 0 1 = n) : f_X10_latest (zH E σ) (zL E 3 0 0) = some (zI (nLa n)) := by
  simp (disch := first | assumption | omega) only [f_X10_latest, zz_mdo hW hm, zz_ra hW hm, h1, zz_some, zz_lit, zz_num, zI_lt, zI_le, zI_eq, zI_nat, zz_b, if_pos, if_neg, if_true, if_false]
  rfl
theorem e10_isOpen (hW : zWF E) (hm : zU E 3 0 = true) (h1 : σ 3 0 1 = n) (hN : nWn n) (hZ : nWs n) : f_X10_isOpen (zH E σ) (zL E 3 0 0) = some (zI (zb (nOp n))) := by
  have hN' := hN.r
  have hla : nLa n = n 3 - 1 := rfl
  have hl := e10_latest hW hm h1
  unfold nOp
  by_cases h : 0 ≤ nLa n
  · have hs := hZ (nLa n) h (by omega)
    simp (disch := first | assumption | omega) only [f_X10_isOpen, hl, e10_of hW hm h1, decide_eq_true h, Bool.true_and, zz_mdo hW hm, zz_ra hW hm, h1, zz_some, zz_lit, zz_num, zI_lt, zI_le, zI_eq, zI_nat, zz_b, if_pos, if_neg, if_true, if_false]
    exact zb_somp _
  · simp (disch := first | assumption | omega) only [f_X10_isOpen, hl, decide_eq_false h, Bool.false_and, zz_mdo hW hm, zz_ra hW hm, h1, zz_some, zz_lit, zz_num, zI_lt, zI_le, zI_eq, zI_nat, zz_b, if_pos, if_neg, if_true, if_false]
    rfl
theorem e10_entryOf_L (hW : zWF E) (hm : zU E 3 0 = true) (h1 : σ 3 0 1 = n) (hN : nWn n) (hZ : nWs n) {s f : Int} (h0 : 0 ≤ s) (h2 : s < n 3) (hf0 : -1 ≤ f) (hf1 : f < 100) : ∀ (m fuel : Nat) (k : Int), 0 ≤ k → k + m = nS n s 2 → m < fuel → f_X10_entryOf_L2 (zH E σ) fuel (zL E 3 0 0) (zI s) (zI f) (zI k) = some (zI (zfs (fun k => decide (nS n s (5 + 2 * k) = f)) k m)) := by
  have hN' := hN.r
  have he := hZ.ent hN h0 h2
  intro m
  induction m with
  | zero =>
    intro fuel k h3 h4 h5
    obtain ⟨fu, rfl, h6⟩ := zfuel h5
    simp (disch := first | assumption | omega) only [f_X10_entryOf_L2, e10_of hW hm h1, zfs, zz_mdo hW hm, zz_ra hW hm, h1, zz_some, zz_lit, zz_num, zI_lt, zI_le, zI_eq, zI_nat, zz_b, if_pos, if_neg, if_true, if_false]
  | succ m ih =>
    intro fuel k h3 h4 h5
    obtain ⟨fu, rfl, h6⟩ := zfuel h5
    have hk := (hZ s h0 h2).2.2.2.2.2.2 k h3 (by omega)
    simp (disch := first | assumption | omega) only [f_X10_entryOf_L2, e10_of hW hm h1, zfs, ih, zz_mdo hW hm, zz_ra hW hm, h1, zz_some, zz_lit, zz_num, zI_lt, zI_le, zI_eq, zI_nat, zz_b, if_pos, if_neg, if_true, if_false]
    by_cases h : nS n s (5 + 2 * k) = f
    · simp [h]
    · simp [h]
theorem e10_entryOf (hW : zWF E) (hm : zU E 3 0 = true) (h1 : σ 3 0 1 = n) (hN : nWn n) (hZ : nWs n) {s f : Int} (h0 : 0 ≤ s) (h2 : s < n 3) (hf0 : -1 ≤ f) (hf1 : f < 100) : f_X10_entryOf (zH E σ) (zL E 3 0 0) (zI s) (zI f) = some (zI (nEn n s f)) := by
  have hN' := hN.r
  have he := hZ.ent hN h0 h2
  unfold f_X10_entryOf nEn
  simp (disch := first | assumption | omega) only [zz_mdo hW hm, zz_ra hW hm, h1, zz_some, zz_lit, zz_num, zI_lt, zI_le, zI_eq, zI_nat, zz_b, if_pos, if_neg, if_true, if_false]
  exact e10_entryOf_L hW hm h1 hN hZ h0 h2 hf0 hf1 _ _ _ (by omega) (by omega) (by unfold g_N; omega)
theorem e10_canReadDirectory (hW : zWF E) (hm : zU E 3 0 = true) (h1 : σ 3 0 1 = n) (hn : nW n) {s : Int} (h0 : 0 ≤ s) (h2 : s < n 3) : f_X10_canReadDirectory (zH E σ) (zL E 3 0 0) (zI s) = some (zI (zb (nRdD n s))) := by
  have hN' := hn.1.r
  have hs := hn.2.2.2 s h0 h2
  have he := hn.2.2.2.ent hn.1 h0 h2
  have hd := nDl_10 he.1 (by omega)
  have hz : ∀ G : gH, f_X10_directoryLong G (zI (nS n s 2)) = some (zI (nDl (nS n s 2))) := e10_dirLong he.1 (by omega)
  have hc := e10_canRead hW hm h1 hn.1 hn.2.1 (x := nS n s 3 - 1) (y := nDl (nS n s 2))
  have hdb : nS n s 3 ≤ 1000 := by
    by_cases h : 0 < nS n s 3
    · have := hs.2.2.2.2.1.2.2 h; omega
    · omega
  unfold nRdD
  by_cases h : 0 < nS n s 3
  · have hc2 := hc (by omega) (by omega) (hs.2.2.2.2.1.2.2 h)
    simp (disch := first | assumption | omega) only [f_X10_canReadDirectory, e10_of hW hm h1, hz, hc2, decide_eq_true h, Bool.true_and, zz_mdo hW hm, zz_ra hW hm, h1, zz_some, zz_lit, zz_num, zI_lt, zI_le, zI_eq, zI_nat, zz_b, if_pos, if_neg, if_true, if_false]
    exact zb_somf _
  · simp (disch := first | assumption | omega) only [f_X10_canReadDirectory, e10_of hW hm h1, decide_eq_false h, Bool.false_and, zz_mdo hW hm, zz_ra hW hm, h1, zz_some, zz_lit, zz_num, zI_lt, zI_le, zI_eq, zI_nat, zz_b, if_pos, if_neg, if_true, if_false]
    rfl
theorem e10_isReadable (hW : zWF E) (hm : zU E 3 0 = true) (h1 : σ 3 0 1 = n) (hn : nW n) {v : Int} (h0 : 0 ≤ v) (h2 : v < n 6) : f_X10_isReadable (zH E σ) (zL E 3 0 0) (zI v) = some (zI (zb (nRv n v))) := by
  have hN' := hn.1.r
  have hv := hn.2.2.1.2 v h0 h2
  simp (disch := first | assumption | omega) only [f_X10_isReadable, e10_ofVersion hW hm h1, e10_canRead hW hm h1 hn.1 hn.2.1, zz_mdo hW hm, zz_ra hW hm, h1, zz_some, zz_lit, zz_num, zI_lt, zI_le, zI_eq, zI_nat, zz_b, if_pos, if_neg, if_true, if_false]
  rfl
theorem e10_entriesWith (hW : zWF E) (hm : zU E 3 0 = true) (h1 : σ 3 0 1 = n) (hn : nW n) {x : Int} (hx0 : -1 ≤ x) (hx1 : x < 100) : f_X10_entriesWith (zH E σ) (zL E 3 0 0) (zI x) = some (zI (nEw n x)) := by
  have hN' := hn.1.r
  have hla : nLa n = n 3 - 1 := rfl
  unfold nEw
  cases h : nOp n
  · have ho := e10_isOpen hW hm h1 hn.1 hn.2.2.2
    rw [h] at ho
    simp (disch := first | assumption | omega) only [f_X10_entriesWith, ho, zz_mdo hW hm, zz_ra hW hm, h1, zz_some, zz_lit, zz_num, zI_lt, zI_le, zI_eq, zI_nat, zz_b, if_pos, if_neg, if_true, if_false]
    simp
  · have ho := e10_isOpen hW hm h1 hn.1 hn.2.2.2
    rw [h] at ho
    obtain ⟨h2, h3⟩ := nOp_iff.mp h
    have he := hn.2.2.2.ent hn.1 h2 (by omega)
    have hE := nEn_rng n (nLa n) x
    simp (disch := first | assumption | omega) only [f_X10_entriesWith, ho, e10_latest hW hm h1, e10_of hW hm h1, e10_entryOf hW hm h1 hn.1 hn.2.2.2, Bool.true_eq_false, zz_mdo hW hm, zz_ra hW hm, h1, zz_some, zz_lit, zz_num, zI_lt, zI_le, zI_eq, zI_nat, zz_b, if_pos, if_neg, if_true, if_false]
    by_cases h4 : nEn n (nLa n) x = -1
    · rw [if_pos h4, zb_dpos h4]
    · rw [if_neg h4, zb_dneg h4]
theorem nTm_12 {n : zN} (hN : nWn n) : nTm n = (!nOp n && decide (n 3 = 12)) := by
  have hN' := hN.r
  unfold nTm
  congr 1
  exact decide_eq_decide.mpr (by omega)
theorem e10_whyWrite (hW : zWF E) (hm : zU E 3 0 = true) (h1 : σ 3 0 1 = n) (hn : nW n) {x m : Int} (hx0 : -1 ≤ x) (hx1 : x < 100) (hm0 : 0 ≤ m) (hm1 : m ≤ 8) : f_X10_whyWrite (zH E σ) (zL E 3 0 0) (zI x) (zI m) = some (zI (nWw n x m)) := by
  have hN' := hn.1.r
  have he := nEw_rng hn x
  have hd := nDl_rng he.1 (by omega)
  have hz : ∀ G : gH, f_X10_directoryLong G (zI (nEw n x)) = some (zI (nDl (nEw n x))) := e10_dirLong he.1 (by omega)
  have ho := e10_isOpen hW hm h1 hn.1 hn.2.2.2
  unfold nWw
  rw [nTm_12 hn.1]
  obtain ⟨y, hy⟩ : ∃ y, nDl (nEw n x) = y := ⟨_, rfl⟩
  rw [hy] at hd
  simp only [hy] at hz
  rw [hy]
  simp (disch := first | assumption | omega) only [f_X10_whyWrite, f_X10_whyWrite_J20, ho, e10_entriesWith hW hm h1 hn, hz, e10_hasRoom hW hm h1 hn.1, zz_mdo hW hm, zz_ra hW hm, h1, zz_some, zz_lit, zz_num, zI_lt, zI_le, zI_eq, zI_nat, zz_b, if_pos, if_neg, if_true, if_false]
  have hsp := e10_hasSpare hW hm h1 hn.1 hn.2.1 (x := m) hm0
  cases h : nOp n
  · by_cases h2 : n 3 = 12
    · simp [h2]
    · by_cases h3 : n 4 + (m + y) ≤ n 0 - n 1
      · rw [hsp (by omega)]
        cases nHs n m <;> simp [h2, h3, zz_some, zb, show ¬ (zI 1 = zI 0) by decide]
      · simp [h2, h3]
  · by_cases h3 : n 4 + (m + y) ≤ n 0 - n 1
    · rw [hsp (by omega)]
      cases nHs n m <;> simp [h3, zz_some, zb, show ¬ (zI 1 = zI 0) by decide]
    · simp [h3]
theorem e10_dirWhy (hW : zWF E) (hm : zU E 3 0 = true) (h1 : σ 3 0 1 = n) (hn : nW n) {e : Int} (h0 : 0 ≤ e) (h2 : e ≤ 96) (k : Option Int32) (hk : k = (f_X10_hasRoom (zH E σ) (zL E 3 0 0) (zI (nDl e))).bind fun v => if v = zI 0 then some (zI 4) else (f_X10_hasSpare (zH E σ) (zL E 3 0 0) (zI (nDl e))).bind fun w => if w = zI 0 then some (zI 5) else some (zI 0)) : k = some (zI (nWd n e)) := by
  have hN' := hn.1.r
  have hd := nDl_rng h0 h2
  have hsp := e10_hasSpare hW hm h1 hn.1 hn.2.1 (x := nDl e) (by omega)
  subst hk
  rw [e10_hasRoom hW hm h1 hn.1 (by omega) (by omega), zz_some]
  unfold nWd
  by_cases h3 : n 4 + nDl e ≤ n 0 - n 1
  · rw [hsp h3, zb_dpos h3, if_neg (by decide), zz_some, if_pos h3]
    cases nHs n (nDl e) <;> rfl
  · rw [zb_dneg h3, if_pos rfl, if_neg h3]
end zMod
end
section
/-! The reference: searching. -/
/-- all but the reference's own scratch numbers -/
def zQ (σ σ' : zW) : Prop := (∀ k d c, ¬ (k = 3 ∧ d = 0 ∧ (c = 0 ∨ c = 17 ∨ c = 21 ∨ c = 23)) → σ' k d c = σ k d c) ∧ (∀ i, i ≠ 18 → i ≠ 19 → i ≠ 20 → i ≠ 22 → σ' 3 0 0 i = σ 3 0 0 i)
theorem zQ.rf {σ : zW} : zQ σ σ := ⟨fun _ _ _ _ => rfl, fun _ _ _ _ _ => rfl⟩
theorem zQ.tr {σ σ1 σ2 : zW} (h : zQ σ σ1) (h2 : zQ σ1 σ2) : zQ σ σ2 := ⟨fun k d c z => (h2.1 k d c z).trans (h.1 k d c z), fun i a b c d => (h2.2 i a b c d).trans (h.2 i a b c d)⟩
theorem zQ.f {σ : zW} {i v : Int} (hi : i = 18 ∨ i = 19 ∨ i = 20 ∨ i = 22) : zQ σ (zs σ 3 0 0 i v) := ⟨fun k d c z => zs_ne (by omega), fun j a b c d => by rw [zs_at, if_neg (by omega)]⟩
theorem zQ.a {σ : zW} {i v : Int} {c : Nat} (hc : c = 17 ∨ c = 21 ∨ c = 23) : zQ σ (zs σ 3 0 c i v) := ⟨fun k d c z => zs_ne (by omega), fun j a b c d => by rw [zs_ne (by omega)]⟩
theorem zQ.n {σ σ' : zW} (h : zQ σ σ') : σ' 3 0 1 = σ 3 0 1 := h.1 3 0 1 (by omega)
def nQl (n : zN) : Nat → List Int
  | 0 => []
  | t + 1 => if (nGo n t && nIs n (nLa n - t)) = true then nQl n t ++ [nLa n - t] else nQl n t
def zQl (σ : zW) (l : List Int) : Prop := σ 3 0 0 18 = l.length ∧ ∀ k : Nat, k < l.length → σ 3 0 17 k = l.getD k 0
theorem nQl_len (n : zN) (t : Nat) : (nQl n t).length ≤ t := by
  induction t with
  | zero => simp [nQl]
  | succ t ih =>
    unfold nQl
    split
    · simp; omega
    · omega
theorem nGo_off {n : zN} {t : Nat} (h : nGo n t = false) (k : Nat) : nGo n (t + k) = false := by
  induction k with
  | zero => exact h
  | succ k ih =>
    rw [← Nat.add_assoc, nGo_succ, ih]
    rfl
theorem nQl_off {n : zN} {t : Nat} (h : nGo n t = false) (k : Nat) : nQl n (t + k) = nQl n t := by
  induction k with
  | zero => rfl
  | succ k ih =>
    rw [← Nat.add_assoc, nQl, nGo_off h k]
    simpa using ih
def lfi (P : Int → Bool) : List Int → Int
  | [] => -1
  | s :: l => if P s = true then s else lfi P l
theorem lfi_app (P : Int → Bool) (x : Int) : ∀ l : List Int, (∀ s ∈ l, 0 ≤ s) → lfi P (l ++ [x]) = if lfi P l = -1 then (if P x = true then x else -1) else lfi P l := by
  intro l
  induction l with
  | nil => intro _; simp [lfi]
  | cons s l ih =>
    intro h
    have hs := h s (by simp)
    rw [List.cons_append]
    by_cases hp : P s = true
    · have e1 : ∀ l', lfi P (s :: l') = s := fun l' => by rw [lfi, if_pos hp]
      rw [e1, e1, if_neg (by omega)]
    · have e1 : ∀ l', lfi P (s :: l') = lfi P l' := fun l' => by rw [lfi, if_neg hp]
      rw [e1, e1]
      exact ih (fun t ht => h t (by simp [ht]))
theorem nQl_mem {n : zN} : ∀ (t : Nat) (s : Int), (t : Int) ≤ n 3 → s ∈ nQl n t → n 3 - t ≤ s ∧ s < n 3 := by
  intro t
  induction t with
  | zero => intro s _ h; simp [nQl] at h
  | succ t ih =>
    intro s ht h
    unfold nQl at h
    split at h
    · rcases List.mem_append.mp h with h | h
      · have := ih s (by omega) h; omega
      · have hs : s = nLa n - t := by simpa using h
        unfold nLa at hs
        omega
    · have := ih s (by omega) h; omega
theorem lfi_spec {n : zN} (P : Int → Bool) : ∀ t : Nat, (t : Int) ≤ n 3 → (lfi P (nQl n t) = -1 ∧ ∀ s, n 3 - t ≤ s → s < n 3 → (nRe n s && P s) = false) ∨ (n 3 - t ≤ lfi P (nQl n t) ∧ lfi P (nQl n t) < n 3 ∧ (nRe n (lfi P (nQl n t)) && P (lfi P (nQl n t))) = true ∧ ∀ s, lfi P (nQl n t) < s → s < n 3 → (nRe n s && P s) = false) := by
  intro t
  induction t with
  | zero => intro _; exact Or.inl ⟨rfl, fun s h0 h1 => by omega⟩
  | succ t ih =>
    intro ht
    have hre : nRe n (nLa n - t) = (nGo n t && nIs n (nLa n - t)) := by
      unfold nRe
      rw [show (nLa n - (nLa n - (t : Int))).toNat = t by omega]
    have hx : nLa n - (t : Int) = n 3 - ((t + 1 : Nat) : Int) := by unfold nLa; omega
    have ih := ih (by omega)
    by_cases hg : (nGo n t && nIs n (nLa n - t)) = true
    · have e : nQl n (t + 1) = nQl n t ++ [nLa n - t] := by rw [nQl, if_pos hg]
      rw [e, lfi_app P _ _ (fun s hs => by have := nQl_mem t s (by omega) hs; omega)]
      rcases ih with ⟨h1, h2⟩ | ⟨h1, h2, h3, h4⟩
      · rw [h1, if_pos rfl]
        by_cases hp : P (nLa n - t) = true
        · rw [if_pos hp]
          exact Or.inr ⟨by omega, by omega, by rw [hre, hg, hp]; rfl, fun s h5 h6 => h2 s (by omega) h6⟩
        · rw [if_neg hp]
          refine Or.inl ⟨rfl, fun s h5 h6 => ?_⟩
          by_cases hs : s = nLa n - t
          · rw [hs]; simp [hp]
          · exact h2 s (by omega) h6
      · rw [if_neg (by omega)]
        exact Or.inr ⟨by omega, h2, h3, h4⟩
    · have e : nQl n (t + 1) = nQl n t := by rw [nQl, if_neg hg]
      rw [e]
      have hre2 : nRe n (nLa n - t) = false := by rw [hre]; simpa using hg
      rcases ih with ⟨h1, h2⟩ | ⟨h1, h2, h3, h4⟩
      · refine Or.inl ⟨h1, fun s h5 h6 => ?_⟩
        by_cases hs : s = nLa n - t
        · rw [hs, hre2]; rfl
        · exact h2 s (by omega) h6
      · exact Or.inr ⟨by omega, h2, h3, h4⟩
theorem lfi_Sk {n : zN} (h3 : 0 ≤ n 3) (f below : Int) : lfi (fun s => decide (s < below) && decide (nEn n s f ≠ -1)) (nQl n (n 3).toNat) = nSk n f below := by
  have h1 := lfi_spec (n := n) (fun s => decide (s < below) && decide (nEn n s f ≠ -1)) (n 3).toNat (by omega)
  have h2 := zls_spec (P := fun s => nRe n s && decide (nEn n s f ≠ -1)) (min below (n 3)).toNat
  have h4 : nSk n f below = zls (fun s => nRe n s && decide (nEn n s f ≠ -1)) (min below (n 3)).toNat := rfl
  rw [← h4] at h2
  obtain ⟨x, hx⟩ : ∃ x, lfi (fun s => decide (s < below) && decide (nEn n s f ≠ -1)) (nQl n (n 3).toNat) = x := ⟨_, rfl⟩
  rw [hx] at h1 ⊢
  have key : ∀ s, 0 ≤ s → s < n 3 → ((nRe n s && (decide (s < below) && decide (nEn n s f ≠ -1))) = true ↔ s < below ∧ (nRe n s && decide (nEn n s f ≠ -1)) = true) := by
    intro s _ _
    simp only [Bool.and_eq_true, decide_eq_true_eq]
    constructor
    · rintro ⟨a, b, c⟩; exact ⟨b, a, c⟩
    · rintro ⟨b, a, c⟩; exact ⟨a, b, c⟩
  rcases h1 with ⟨a1, a2⟩ | ⟨a1, a2, a3, a4⟩
  · rcases h2 with ⟨b1, b2⟩ | ⟨b1, b2, b3, b4⟩
    · omega
    · have h5 := a2 (nSk n f below) (by omega) (by omega)
      have h6 := (key _ b1 (by omega)).mpr ⟨by omega, b3⟩
      rw [h6] at h5; cases h5
  · have h7 := (key x (by omega) a2).mp a3
    rcases h2 with ⟨b1, b2⟩ | ⟨b1, b2, b3, b4⟩
    · have h5 := b2 x (by omega) (by omega)
      rw [h7.2] at h5; cases h5
    · by_cases hlt : x < nSk n f below
      · have h5 := a4 _ hlt (by omega)
        have h6 := (key _ b1 (by omega)).mpr ⟨by omega, b3⟩
        rw [h6] at h5; cases h5
      · by_cases hgt : nSk n f below < x
        · have h5 := b4 x hgt (by omega)
          rw [h7.2] at h5; cases h5
        · omega
section zMod
variable {E : zE} {σ : zW} {n : zN}
theorem zQl_push {l : List Int} {x : Int} (hl : zQl σ l) : zQl (zs (zs σ 3 0 17 l.length x) 3 0 0 18 (l.length + 1)) (l ++ [x]) := by
  refine ⟨by simp [zs], fun k hk => ?_⟩
  rw [zs_ne (by omega), zs_at]
  simp only [List.length_append, List.length_cons, List.length_nil] at hk
  by_cases h : k = l.length
  · subst h
    simp
  · rw [if_neg (by omega), hl.2 k (by omega)]
    simp only [List.getD_eq_getElem?_getD]
    rw [List.getElem?_append_left (by omega)]
theorem e10_searches_L (hW : zWF E) (hm : zU E 3 0 = true) (hn : nW n) : ∀ (m fuel t : Nat) (σ : zW), σ 3 0 1 = n → zQl σ (nQl n t) → (t : Int) + m = n 3 → m < fuel → ∃ σ', f_X10_searches_L12 fuel (zH E σ) (zL E 3 0 0) (zI (zb (nGo n t))) (zI ((m : Int) - 1)) = some (zH E σ') ∧ zQ σ σ' ∧ zQl σ' (nQl n (n 3).toNat) ∧ (∀ c, c ≠ 0 → c ≠ 17 → σ' 3 0 c = σ 3 0 c) := by
  have hN' := hn.1.r
  intro m
  induction m with
  | zero =>
    intro fuel t σ h1 hl ht hf
    obtain ⟨f, rfl, h3⟩ := zfuel hf
    refine ⟨σ, ?_, zQ.rf, by rw [show (n 3).toNat = t by omega]; exact hl, fun _ _ _ => rfl⟩
    simp (disch := first | assumption | omega) only [f_X10_searches_L12, zz_mdo hW hm, zz_ra hW hm, zz_some, zz_lit, zz_num, zI_lt, zI_le, zI_eq, zI_nat, zz_b, if_pos, if_neg, if_true, if_false]
  | succ m ih =>
    intro fuel t σ h1 hl ht hf
    obtain ⟨f, rfl, h3⟩ := zfuel hf
    rw [show (((m + 1 : Nat) : Int) - 1) = (m : Int) by omega]
    cases hg : nGo n t
    · refine ⟨σ, ?_, zQ.rf, ?_, fun _ _ _ => rfl⟩
      · simp (disch := first | assumption | omega) only [f_X10_searches_L12, zz_mdo hW hm, zz_ra hW hm, zz_some, zz_lit, zz_num, zI_lt, zI_le, zI_eq, zI_nat, zz_b, if_pos, if_neg, if_true, if_false]
      · rw [show (n 3).toNat = t + (m + 1) by omega, nQl_off hg]
        exact hl
    · have hs := hn.2.2.2 m (by omega) (by omega)
      have hx : nLa n - (t : Int) = m := by unfold nLa; omega
      have hgs := nGo_succ n t
      rw [hx, hg, Bool.true_and] at hgs
      have hlen := nQl_len n t
      have hi : (m : Int) + -1 = (m : Int) - 1 := by omega
      have ho := e10_of hW hm h1 (s := m) (w := 0) (by omega) (by omega) (by omega) (by omega)
      have hrd := e10_canReadDirectory hW hm h1 hn (s := m) (by omega) (by omega)
      have hn5 : g_ald 0 (zH E σ) (zL E 3 0 1) (zI 5) = some (zI (n 5)) := by rw [← h1]; exact zAld hW hm rfl (by decide) (by decide) (by omega) (by omega)
      have h18 : g_i (zH E σ) (zL E 3 0 0) 10 18 = some (zI ((nQl n t).length : Int)) := by rw [← hl.1]; exact zg_md18 hW hm
      -- the common ends
      have hyes : nIs n m = true → ∃ σ', f_X10_searches_J82 (f_X10_searches_L12 f) (zH E σ) (zL E 3 0 0) (zI m) (zI 1) (zI (zb (nGo n (t + 1)))) = some (zH E σ') ∧ zQ σ σ' ∧ zQl σ' (nQl n (n 3).toNat) ∧ (∀ c, c ≠ 0 → c ≠ 17 → σ' 3 0 c = σ 3 0 c) := by
        intro his
        have e : nQl n (t + 1) = nQl n t ++ [(m : Int)] := by rw [nQl, hg, hx, his]; rfl
        obtain ⟨σ1, s1⟩ : ∃ x, x = zs σ 3 0 17 (nQl n t).length m := ⟨_, rfl⟩
        obtain ⟨σ2, s2⟩ : ∃ x, x = zs σ1 3 0 0 18 ((nQl n t).length + 1) := ⟨_, rfl⟩
        obtain ⟨σ', q1, q2, q3, q4⟩ := ih f (t + 1) σ2 (by rw [s2, s1, zs_ne (by omega), zs_ne (by omega)]; exact h1) (by rw [e, s2, s1]; exact zQl_push hl) (by omega) (by omega)
        refine ⟨σ', ?_, zQ.tr (by rw [s2, s1]; exact zQ.tr (zQ.a (Or.inl rfl)) (zQ.f (Or.inl rfl))) q2, q3, fun c hc hc2 => by rw [q4 c hc hc2, s2, zs_ne (by omega), s1, zs_ne (by omega)]⟩
        have h182 : g_i (zH E σ1) (zL E 3 0 0) 10 18 = some (zI ((nQl n t).length : Int)) := by
          have h5 : σ1 3 0 0 18 = ((nQl n t).length : Int) := by rw [s1, zs_ne (by omega)]; exact hl.1
          rw [← h5]; exact zg_md18 hW hm
        have hp : ∀ v : Int, g_put (zH E σ1) (zL E 3 0 0) 10 18 (.int (zI v)) = some (zH E (zs σ1 3 0 0 18 v)) := zp_md18 hW hm
        simp (disch := first | assumption | omega) only [f_X10_searches_J82, h18, zz_mdo hW hm, zz_ra hW hm, zz_some, zz_lit, zz_num, zI_lt, zI_le, zI_eq, zI_nat, zz_b, if_pos, if_neg, if_true, if_false]
        rw [← s1]
        simp (disch := first | assumption | omega) only [h182, hp, hi, zz_mdo hW hm, zz_ra hW hm, zz_some, zz_lit, zz_num, zI_lt, zI_le, zI_eq, zI_nat, zz_b, if_pos, if_neg, if_true, if_false]
        rw [← s2]
        exact q1
      have hno : nIs n m = false → ∃ σ', f_X10_searches_J82 (f_X10_searches_L12 f) (zH E σ) (zL E 3 0 0) (zI m) (zI 0) (zI (zb (nGo n (t + 1)))) = some (zH E σ') ∧ zQ σ σ' ∧ zQl σ' (nQl n (n 3).toNat) ∧ (∀ c, c ≠ 0 → c ≠ 17 → σ' 3 0 c = σ 3 0 c) := by
        intro his
        have e : nQl n (t + 1) = nQl n t := by rw [nQl, hx, his]; simp
        obtain ⟨σ', q1, q2, q3, q4⟩ := ih f (t + 1) σ h1 (by rw [e]; exact hl) (by omega) (by omega)
        refine ⟨σ', ?_, q2, q3, q4⟩
        simp (disch := first | assumption | omega) only [f_X10_searches_J82, hi, zz_mdo hW hm, zz_ra hW hm, zz_some, zz_lit, zz_num, zI_lt, zI_le, zI_eq, zI_nat, zz_b, if_pos, if_neg, if_true, if_false]
        exact q1
      have hJ : f_X10_searches_L12 (f + 1) (zH E σ) (zL E 3 0 0) (zI (zb true)) (zI (m : Int)) = f_X10_searches_J52 (f_X10_searches_L12 f) (zH E σ) (zL E 3 0 0) (zI m) (zI (zb (nIs n m))) := by
        unfold nIs
        rcases (by omega : nS n m 0 = 0 ∨ nS n m 0 = 1 ∨ nS n m 0 = 2 ∨ nS n m 0 = 3) with h | h | h | h
        · simp (disch := first | assumption | omega) only [f_X10_searches_L12, ho, h, Bool.true_eq_false, zz_mdo hW hm, zz_ra hW hm, zz_some, zz_lit, zz_num, zI_lt, zI_le, zI_eq, zI_nat, zz_b, if_pos, if_neg, if_true, if_false]
          rfl
        · cases hr : nRdD n m
          · rw [hr] at hrd
            simp (disch := first | assumption | omega) only [f_X10_searches_L12, ho, h, hrd, Bool.true_eq_false, zz_mdo hW hm, zz_ra hW hm, zz_some, zz_lit, zz_num, zI_lt, zI_le, zI_eq, zI_nat, zz_b, if_pos, if_neg, if_true, if_false]
            rfl
          · rw [hr] at hrd
            simp (disch := first | assumption | omega) only [f_X10_searches_L12, ho, h, hrd, Bool.true_eq_false, zz_mdo hW hm, zz_ra hW hm, zz_some, zz_lit, zz_num, zI_lt, zI_le, zI_eq, zI_nat, zz_b, if_pos, if_neg, if_true, if_false]
            rfl
        · simp (disch := first | assumption | omega) only [f_X10_searches_L12, ho, h, Bool.true_eq_false, zz_mdo hW hm, zz_ra hW hm, zz_some, zz_lit, zz_num, zI_lt, zI_le, zI_eq, zI_nat, zz_b, if_pos, if_neg, if_true, if_false]
          rfl
        · simp (disch := first | assumption | omega) only [f_X10_searches_L12, ho, h, Bool.true_eq_false, zz_mdo hW hm, zz_ra hW hm, zz_some, zz_lit, zz_num, zI_lt, zI_le, zI_eq, zI_nat, zz_b, if_pos, if_neg, if_true, if_false]
          rfl
      rw [hJ]
      cases his : nIs n m
      · rw [his, Bool.false_or] at hgs
        have hno := hno his
        by_cases h : nS n m 0 = 1
        · rcases hN'.2.2.2.2.2.1 with h5 | h5
          · have : nGo n (t + 1) = false := by rw [hgs]; simp [h, h5]
            rw [this] at hno
            simp (disch := first | assumption | omega) only [f_X10_searches_J52, ho, h, hn5, h5, zz_mdo hW hm, zz_ra hW hm, zz_some, zz_lit, zz_num, zI_lt, zI_le, zI_eq, zI_nat, zz_b, if_pos, if_neg, if_true, if_false]
            exact hno
          · have : nGo n (t + 1) = true := by rw [hgs]; simp [h5]
            rw [this] at hno
            simp (disch := first | assumption | omega) only [f_X10_searches_J52, ho, h, hn5, h5, zz_mdo hW hm, zz_ra hW hm, zz_some, zz_lit, zz_num, zI_lt, zI_le, zI_eq, zI_nat, zz_b, if_pos, if_neg, if_true, if_false]
            exact hno
        · have : nGo n (t + 1) = true := by rw [hgs]; simp [h]
          rw [this] at hno
          simp (disch := first | assumption | omega) only [f_X10_searches_J52, ho, zz_mdo hW hm, zz_ra hW hm, zz_some, zz_lit, zz_num, zI_lt, zI_le, zI_eq, zI_nat, zz_b, if_pos, if_neg, if_true, if_false]
          exact hno
      · rw [his, Bool.true_or] at hgs
        have hyes := hyes his
        rw [hgs, Bool.true_or] at hyes
        simp (disch := first | assumption | omega) only [f_X10_searches_J52, Bool.true_eq_false, zz_mdo hW hm, zz_ra hW hm, zz_some, zz_lit, zz_num, zI_lt, zI_le, zI_eq, zI_nat, zz_b, if_pos, if_neg, if_true, if_false]
        exact hyes
theorem e10_searches' (hW : zWF E) (hm : zU E 3 0 = true) (hn : nW n) (h1 : σ 3 0 1 = n) : ∃ σ', f_X10_searches (zH E σ) (zL E 3 0 0) = some (zH E σ') ∧ zQ σ σ' ∧ zQl σ' (nQl n (n 3).toNat) ∧ (∀ c, c ≠ 0 → c ≠ 17 → σ' 3 0 c = σ 3 0 c) := by
  have hN' := hn.1.r
  obtain ⟨σ1, s1⟩ : ∃ x, x = zs σ 3 0 0 18 0 := ⟨_, rfl⟩
  have h11 : σ1 3 0 1 = n := by rw [s1, zs_ne (by omega)]; exact h1
  obtain ⟨σ', q1, q2, q3, q4⟩ := e10_searches_L hW hm hn (n 3).toNat g_N 0 σ1 h11 ⟨by rw [s1]; simp [zs, nQl], fun k hk => by simp [nQl] at hk⟩ (by omega) (by unfold g_N; omega)
  refine ⟨σ', ?_, zQ.tr (by rw [s1]; exact zQ.f (Or.inl rfl)) q2, q3, fun c hc hc2 => by rw [q4 c hc hc2, s1, zs_ne (by omega)]⟩
  have hl := e10_latest hW hm h11
  have hp : ∀ v : Int, g_put (zH E σ) (zL E 3 0 0) 10 18 (.int (zI v)) = some (zH E (zs σ 3 0 0 18 v)) := zp_md18 hW hm
  simp (disch := first | assumption | omega) only [f_X10_searches, hp, zz_mdo hW hm, zz_ra hW hm, zz_some, zz_lit, zz_num, zI_lt, zI_le, zI_eq, zI_nat, zz_b, if_pos, if_neg, if_true, if_false]
  rw [← s1]
  simp (disch := first | assumption | omega) only [hl, zz_mdo hW hm, zz_ra hW hm, zz_some, zz_lit, zz_num, zI_lt, zI_le, zI_eq, zI_nat, zz_b, if_pos, if_neg, if_true, if_false]
  rw [show (((n 3).toNat : Nat) : Int) = n 3 by omega] at q1
  exact q1
theorem e10_searches (hW : zWF E) (hm : zU E 3 0 = true) (hn : nW n) (h1 : σ 3 0 1 = n) : ∃ σ', f_X10_searches (zH E σ) (zL E 3 0 0) = some (zH E σ') ∧ zQ σ σ' ∧ zQl σ' (nQl n (n 3).toNat) := by
  obtain ⟨σ', q1, q2, q3, q4⟩ := e10_searches' hW hm hn h1
  exact ⟨σ', q1, q2, q3⟩
end zMod
end
section
/-! The reference: counting, seeking, risks, space. -/
/-- the bits below k are those of P -/
def zBit (x : Int32) (k : Nat) (P : Int → Bool) : Prop := ∀ i : Nat, i < 32 → x.toBitVec.getLsbD i = (decide (i < k) && P i)
theorem shl_bit : ∀ k : Fin 10, ∀ i : Fin 32, ((zI 1) <<< (zI (k.val : Int) &&& 31)).toBitVec.getLsbD i.val = decide (i.val = k.val) := by decide +kernel
theorem zBit_0 (P : Int → Bool) : zBit (zI 0) 0 P := by
  intro i _
  simp [zI]
theorem zBit_keep {x : Int32} {k : Nat} {P : Int → Bool} (h : zBit x k P) (hp : P k = false) : zBit (x ||| zI 0) (k + 1) P := by
  intro i hi
  have h0 : (zI 0).toBitVec = 0#32 := rfl
  rw [Int32.toBitVec_or, BitVec.getLsbD_or, h i hi, h0]
  by_cases hk : i = k
  · subst hk
    simp [hp]
  · have e : decide (i < k + 1) = decide (i < k) := decide_eq_decide.mpr (by omega)
    rw [e]
    simp
theorem zBit_set {x : Int32} {k : Nat} {P : Int → Bool} (h : zBit x k P) (hk : k < 10) (hp : P k = true) : zBit (x ||| (zI 1 <<< (zI (k : Int) &&& 31))) (k + 1) P := by
  intro i hi
  rw [Int32.toBitVec_or, BitVec.getLsbD_or, h i hi, shl_bit ⟨k, hk⟩ ⟨i, hi⟩]
  by_cases hik : i = k
  · subst hik
    simp [hp]
  · have e : decide (i < k + 1) = decide (i < k) := decide_eq_decide.mpr (by omega)
    rw [e]
    simp [hik]
theorem zBit_diff {x y : Int32} {k : Nat} {P Q : Int → Bool} (h : zBit x k P) (h2 : zBit y k Q) : zBit (x &&& (y ^^^ zI (-1))) k (fun i => P i && !Q i) := by
  intro i hi
  have h0 : (zI (-1)).toBitVec = BitVec.allOnes 32 := rfl
  rw [Int32.toBitVec_and, BitVec.getLsbD_and, Int32.toBitVec_xor, BitVec.getLsbD_xor, h i hi, h2 i hi, h0, BitVec.getLsbD_allOnes]
  simp only [hi, decide_true, Bool.xor_true]
  cases decide (i < k) <;> simp
theorem ones_G (G G' : gH) : ∀ (f : Nat) (a x : Int32), f_X10_ones_L4 G f a x = f_X10_ones_L4 G' f a x := by
  intro f
  induction f with
  | zero => intro a x; rfl
  | succ f ih =>
    intro a x
    rw [f_X10_ones_L4, f_X10_ones_L4, ih]
theorem ones_dec : ∀ a : Fin 1024, f_X10_ones (fun _ => none) (zI (a.val : Int)) = some (zI (zcn (fun i => (zI (a.val : Int)).toBitVec.getLsbD i.toNat) 0 10)) := by decide +kernel
theorem zBit_ones {x : Int32} {k : Nat} {P : Int → Bool} (h : zBit x k P) (hk : k ≤ 10) (G : gH) : f_X10_ones G x = some (zI (zcn P 0 k)) := by
  have hlt : x.toBitVec.toNat < 1024 := by
    apply Nat.lt_pow_two_of_testBit (n := 10)
    intro i hi
    by_cases h32 : i < 32
    · have := h i h32
      rw [BitVec.getLsbD] at this
      rw [this]
      simp
      omega
    · exact Nat.testBit_lt_two_pow (Nat.lt_of_lt_of_le x.toBitVec.isLt (Nat.pow_le_pow_right (by omega) (by omega)))
  have hx : x = zI (x.toBitVec.toNat : Int) := by
    apply Int32.toBitVec.inj
    unfold zI
    rw [Int32.toBitVec_ofInt, BitVec.ofInt_natCast, BitVec.ofNat_toNat]
    simp
  have hd := ones_dec ⟨x.toBitVec.toNat, hlt⟩
  simp only at hd
  rw [← hx] at hd
  have he : f_X10_ones G x = f_X10_ones (fun _ => none) x := ones_G _ _ _ _ _
  rw [he, hd]
  congr 2
  rw [show (10 : Nat) = k + (10 - k) by omega, zcn_app]
  rw [zcn_none (10 - k) _ (fun i h0 h1 => by
    rw [h i.toNat (by omega)]
    simp
    omega)]
  rw [zcn_congr (Q := P) _ _ (fun i h0 h1 => by
    rw [h i.toNat (by omega)]
    have e : ((i.toNat : Nat) : Int) = i := by omega
    rw [e]
    have e2 : decide (i.toNat < k) = true := decide_eq_true (by omega)
    rw [e2, Bool.true_and])]
  omega
section zMod
variable {E : zE} {σ : zW} {n : zN}
theorem e10_badMany_L (hW : zWF E) (hm : zU E 3 0 = true) (h1 : σ 3 0 1 = n) (hn : nW n) : ∀ (m fuel : Nat) (acc b : Int), 0 ≤ b → b + m = n 0 → m < fuel → f_X10_badMany_L4 (zH E σ) fuel (zL E 3 0 0) (zI acc) (zI b) = some (zI (acc + zcn (fun b => decide (n (103 + b) = 1)) b m)) := by
  have hN' := hn.1.r
  intro m
  induction m with
  | zero =>
    intro fuel acc b h0 h2 h3
    obtain ⟨f, rfl, h4⟩ := zfuel h3
    simp (disch := first | assumption | omega) only [f_X10_badMany_L4, zcn, zz_mdo hW hm, zz_ra hW hm, h1, zz_some, zz_lit, zz_num, zI_lt, zI_le, zI_eq, zI_nat, zz_b, if_pos, if_neg, if_true, if_false]
    simp
  | succ m ih =>
    intro fuel acc b h0 h2 h3
    obtain ⟨f, rfl, h4⟩ := zfuel h3
    have hb := (hn.2.1 b h0 (by omega)).2.1
    simp (disch := first | assumption | omega) only [f_X10_badMany_L4, ih, zz_mdo hW hm, zz_ra hW hm, h1, zz_some, zz_lit, zz_num, zI_lt, zI_le, zI_eq, zI_nat, zz_b, if_pos, if_neg, if_true, if_false]
    rw [zcn]
    have hz : zb (decide (n (103 + b) = 1)) = n (103 + b) := by
      rcases hb with h | h <;> simp [h, zb]
    rw [hz, Int.add_assoc]
theorem e10_badMany (hW : zWF E) (hm : zU E 3 0 = true) (h1 : σ 3 0 1 = n) (hn : nW n) : f_X10_badMany (zH E σ) (zL E 3 0 0) = some (zI (zcn (fun b => decide (n (103 + b) = 1)) 0 (n 0).toNat)) := by
  have hN' := hn.1.r
  unfold f_X10_badMany
  simp (disch := first | assumption | omega) only [zz_mdo hW hm, zz_ra hW hm, h1, zz_some, zz_lit, zz_num, zI_lt, zI_le, zI_eq, zI_nat, zz_b, if_pos, if_neg, if_true, if_false]
  rw [e10_badMany_L hW hm h1 hn (n 0).toNat _ _ _ (by omega) (by omega) (by unfold g_N; omega)]
  congr 2; omega
theorem e10_emptySpares_L (hW : zWF E) (hm : zU E 3 0 = true) (h1 : σ 3 0 1 = n) (hn : nW n) : ∀ (m fuel : Nat) (acc b : Int), 0 ≤ b → b + m = n 0 → m < fuel → f_X10_emptySpares_L7 (zH E σ) fuel (zL E 3 0 0) (zI acc) (zI b) = some (zI (acc + zcn (fun b => decide (n (7 + b) = 0)) b m)) := by
  have hN' := hn.1.r
  intro m
  induction m with
  | zero =>
    intro fuel acc b h0 h2 h3
    obtain ⟨f, rfl, h4⟩ := zfuel h3
    simp (disch := first | assumption | omega) only [f_X10_emptySpares_L7, zcn, zz_mdo hW hm, zz_ra hW hm, h1, zz_some, zz_lit, zz_num, zI_lt, zI_le, zI_eq, zI_nat, zz_b, if_pos, if_neg, if_true, if_false]
    simp
  | succ m ih =>
    intro fuel acc b h0 h2 h3
    obtain ⟨f, rfl, h4⟩ := zfuel h3
    have hb := hn.2.1 b h0 (by omega)
    simp (disch := first | assumption | omega) only [f_X10_emptySpares_L7, ih, zcn, zz_mdo hW hm, zz_ra hW hm, h1, zz_some, zz_lit, zz_num, zI_lt, zI_le, zI_eq, zI_nat, zz_b, if_pos, if_neg, if_true, if_false]
    by_cases h : n (7 + b) = 0
    · rw [if_pos h, zb_dpos h]; congr 2; omega
    · rw [if_neg h, zb_dneg h]; congr 2; omega
theorem e10_emptySpares (hW : zWF E) (hm : zU E 3 0 = true) (h1 : σ 3 0 1 = n) (hn : nW n) : f_X10_emptySpares (zH E σ) (zL E 3 0 0) = some (zI (zcn (fun b => decide (n (7 + b) = 0)) (n 0 - n 1) (n 1).toNat)) := by
  have hN' := hn.1.r
  simp (disch := first | assumption | omega) only [f_X10_emptySpares, e10_mainMany hW hm h1 hn.1, zz_mdo hW hm, zz_ra hW hm, h1, zz_some, zz_lit, zz_num, zI_lt, zI_le, zI_eq, zI_nat, zz_b, if_pos, if_neg, if_true, if_false]
  rw [e10_emptySpares_L hW hm h1 hn (n 1).toNat _ _ _ (by omega) (by omega) (by unfold g_N; omega)]
  congr 2; omega
theorem e10_writtenBy_L (hW : zWF E) (hm : zU E 3 0 = true) (h1 : σ 3 0 1 = n) (hn : nW n) {s : Int} {w : Bool} (hs0 : 0 ≤ s) (hs1 : s < 12) : ∀ (m fuel : Nat) (acc b : Int), 0 ≤ b → b + m = n 0 → m < fuel → f_X10_writtenBy_L5 (zH E σ) fuel (zL E 3 0 0) (zI s) (zI (zb w)) (zI acc) (zI b) = some (zI (acc + zcn (fun b => (decide (b < n 0 - n 1) == w) && decide (n (295 + b) = s + 1)) b m)) := by
  have hN' := hn.1.r
  have zbb : ∀ a b : Bool, (zI (zb a) = zI (zb b)) = (a = b) := by intro a b; cases a <;> cases b <;> simp [zb, zI]
  intro m
  induction m with
  | zero =>
    intro fuel acc b h0 h2 h3
    obtain ⟨f, rfl, h4⟩ := zfuel h3
    simp (disch := first | assumption | omega) only [f_X10_writtenBy_L5, zcn, zz_mdo hW hm, zz_ra hW hm, h1, zz_some, zz_lit, zz_num, zI_lt, zI_le, zI_eq, zI_nat, zz_b, if_pos, if_neg, if_true, if_false]
    simp
  | succ m ih =>
    intro fuel acc b h0 h2 h3
    obtain ⟨f, rfl, h4⟩ := zfuel h3
    have hb := hn.2.1 b h0 (by omega)
    simp (disch := first | assumption | omega) only [f_X10_writtenBy_L5, e10_isMain hW hm h1 hn.1, zbb, ih, zcn, zz_mdo hW hm, zz_ra hW hm, h1, zz_some, zz_lit, zz_num, zI_lt, zI_le, zI_eq, zI_nat, zz_b, if_pos, if_neg, if_true, if_false]
    by_cases h : decide (b < n 0 - n 1) = w
    · by_cases h5 : n (295 + b) = s + 1
      · rw [if_pos h, if_pos h5]; simp [h, h5, zb]; congr 1; omega
      · rw [if_pos h, if_neg h5]; simp [h5, zb]
    · rw [if_neg h]; simp [h, zb]
theorem e10_writtenBy1 (hW : zWF E) (hm : zU E 3 0 = true) (h1 : σ 3 0 1 = n) (hn : nW n) {s : Int} (hs0 : 0 ≤ s) (hs1 : s < 12) : f_X10_writtenBy (zH E σ) (zL E 3 0 0) (zI s) (zI 1) = some (zI (zcn (fun b => decide (n (295 + b) = s + 1)) 0 (n 0 - n 1).toNat)) := by
  have hN' := hn.1.r
  unfold f_X10_writtenBy
  have h := e10_writtenBy_L hW hm h1 hn (s := s) (w := true) hs0 hs1 (n 0).toNat g_N 0 0 (by omega) (by omega) (by unfold g_N; omega)
  simp (disch := first | assumption | omega) only [zz_mdo hW hm, zz_ra hW hm, h1, zz_some, zz_lit, zz_num, zI_lt, zI_le, zI_eq, zI_nat, zz_b, if_pos, if_neg, if_true, if_false]
  rw [show zI 1 = zI (zb true) from rfl, h]
  congr 2
  rw [show (n 0).toNat = (n 0 - n 1).toNat + (n 1).toNat by omega, zcn_app]
  rw [zcn_none (n 1).toNat _ (fun i h0 h1 => by simp; omega)]
  rw [zcn_congr (Q := fun b => decide (n (295 + b) = s + 1)) _ _ (fun i h0 h1 => by
    have e : decide (i < n 0 - n 1) = true := decide_eq_true (by omega)
    rw [e]; simp)]
  omega
theorem e10_writtenBy0 (hW : zWF E) (hm : zU E 3 0 = true) (h1 : σ 3 0 1 = n) (hn : nW n) {s : Int} (hs0 : 0 ≤ s) (hs1 : s < 12) : f_X10_writtenBy (zH E σ) (zL E 3 0 0) (zI s) (zI 0) = some (zI (zcn (fun b => decide (n (295 + b) = s + 1)) (n 0 - n 1) (n 1).toNat)) := by
  have hN' := hn.1.r
  unfold f_X10_writtenBy
  have h := e10_writtenBy_L hW hm h1 hn (s := s) (w := false) hs0 hs1 (n 0).toNat g_N 0 0 (by omega) (by omega) (by unfold g_N; omega)
  simp (disch := first | assumption | omega) only [zz_mdo hW hm, zz_ra hW hm, h1, zz_some, zz_lit, zz_num, zI_lt, zI_le, zI_eq, zI_nat, zz_b, if_pos, if_neg, if_true, if_false]
  have h2 : f_X10_writtenBy_L5 (zH E σ) g_N (zL E 3 0 0) (zI s) (zI 0) (zI 0) (zI 0) = f_X10_writtenBy_L5 (zH E σ) g_N (zL E 3 0 0) (zI s) (zI (zb false)) (zI 0) (zI 0) := rfl
  rw [h2, h]
  congr 2
  rw [show (n 0).toNat = (n 0 - n 1).toNat + (n 1).toNat by omega, zcn_app]
  rw [zcn_none (n 0 - n 1).toNat _ (fun i h0 h1 => by
    have e : decide (i < n 0 - n 1) = true := decide_eq_true (by omega)
    rw [e]; simp)]
  rw [show (0 : Int) + (((n 0 - n 1).toNat : Nat) : Int) = n 0 - n 1 by omega]
  rw [zcn_congr (Q := fun b => decide (n (295 + b) = s + 1)) _ _ (fun i h0 h1 => by
    have e : decide (i < n 0 - n 1) = false := decide_eq_false (by omega)
    rw [e]; simp)]
  omega
theorem e10_versionsOf_L (hW : zWF E) (hm : zU E 3 0 = true) (h1 : σ 3 0 1 = n) (hn : nW n) {x : Int} (hx0 : 0 ≤ x) (hx1 : x < 100) : ∀ (m fuel : Nat) (acc v : Int), 0 ≤ v → v + m = n 6 → m < fuel → f_X10_versionsOf_L4 (zH E σ) fuel (zL E 3 0 0) (zI x) (zI acc) (zI v) = some (zI (acc + zcn (fun v => decide (nV n v 0 = x)) v m)) := by
  have hN' := hn.1.r
  intro m
  induction m with
  | zero =>
    intro fuel acc v h0 h2 h3
    obtain ⟨f, rfl, h4⟩ := zfuel h3
    simp (disch := first | assumption | omega) only [f_X10_versionsOf_L4, zcn, zz_mdo hW hm, zz_ra hW hm, h1, zz_some, zz_lit, zz_num, zI_lt, zI_le, zI_eq, zI_nat, zz_b, if_pos, if_neg, if_true, if_false]
    simp
  | succ m ih =>
    intro fuel acc v h0 h2 h3
    obtain ⟨f, rfl, h4⟩ := zfuel h3
    have hv := hn.2.2.1.2 v h0 (by omega)
    simp (disch := first | assumption | omega) only [f_X10_versionsOf_L4, e10_ofVersion hW hm h1, ih, zcn, zz_mdo hW hm, zz_ra hW hm, h1, zz_some, zz_lit, zz_num, zI_lt, zI_le, zI_eq, zI_nat, zz_b, if_pos, if_neg, if_true, if_false]
    by_cases h : nV n v 0 = x
    · rw [if_pos h, zb_dpos h]; congr 2; omega
    · rw [if_neg h, zb_dneg h]; congr 2; omega
theorem e10_versionsOf (hW : zWF E) (hm : zU E 3 0 = true) (h1 : σ 3 0 1 = n) (hn : nW n) {x : Int} (hx0 : 0 ≤ x) (hx1 : x < 100) : f_X10_versionsOf (zH E σ) (zL E 3 0 0) (zI x) = some (zI (zcn (fun v => decide (nV n v 0 = x)) 0 (n 6).toNat)) := by
  have hN' := hn.1.r
  unfold f_X10_versionsOf
  simp (disch := first | assumption | omega) only [zz_mdo hW hm, zz_ra hW hm, h1, zz_some, zz_lit, zz_num, zI_lt, zI_le, zI_eq, zI_nat, zz_b, if_pos, if_neg, if_true, if_false]
  rw [e10_versionsOf_L hW hm h1 hn hx0 hx1 (n 6).toNat _ _ _ (by omega) (by omega) (by unfold g_N; omega)]
  congr 2; omega
theorem e10_isReached_L (hW : zWF E) (hm : zU E 3 0 = true) (h1 : σ 3 0 1 = n) (hn : nW n) {l : List Int} (hl : zQl σ l) (hl2 : ∀ s ∈ l, 0 ≤ s ∧ s < 12) (hlen : l.length ≤ 12) {s : Int} (hs0 : 0 ≤ s) (hs1 : s < 12) : ∀ (m fuel : Nat) (c : Bool) (k : Nat), k + m = l.length → m < fuel → f_X10_isReached_L4 (zH E σ) fuel (zL E 3 0 0) (zI s) (zI (zb c)) (zI (k : Int)) = some (zI (zb (c || (l.drop k).any (fun t => decide (t = s))))) := by
  have hN' := hn.1.r
  have h18 : g_i (zH E σ) (zL E 3 0 0) 10 18 = some (zI (l.length : Int)) := by rw [← hl.1]; exact zg_md18 hW hm
  intro m
  induction m with
  | zero =>
    intro fuel c k h0 h2
    obtain ⟨f, rfl, h4⟩ := zfuel h2
    simp (disch := first | assumption | omega) only [f_X10_isReached_L4, h18, zz_mdo hW hm, zz_ra hW hm, h1, zz_some, zz_lit, zz_num, zI_lt, zI_le, zI_eq, zI_nat, zz_b, if_pos, if_neg, if_true, if_false]
    rw [List.drop_eq_nil_of_le (by omega)]
    simp
  | succ m ih =>
    intro fuel c k h0 h2
    obtain ⟨f, rfl, h4⟩ := zfuel h2
    have hk : k < l.length := by omega
    have hr := hl.2 k hk
    have hd : l.drop k = l.getD k 0 :: l.drop (k + 1) := by
      rw [List.drop_eq_getElem_cons hk]
      simp [List.getD_eq_getElem?_getD, List.getElem?_eq_getElem hk]
    have hmem := hl2 (l.getD k 0) (by simp [List.getD_eq_getElem?_getD, List.getElem?_eq_getElem hk])
    obtain ⟨x, hx⟩ : ∃ x, l.getD k 0 = x := ⟨_, rfl⟩
    rw [hx] at hr hd hmem
    have i0 := ih f false (k + 1) (by omega) (by omega)
    have i1 := ih f true (k + 1) (by omega) (by omega)
    rw [show zI (zb false) = zI 0 from rfl] at i0
    rw [show zI (zb true) = zI 1 from rfl] at i1
    rw [show (((k + 1 : Nat) : Int)) = (k : Int) + 1 by omega] at i0 i1
    simp (disch := first | assumption | omega) only [f_X10_isReached_L4, h18, hr, i0, i1, zz_mdo hW hm, zz_ra hW hm, h1, zz_some, zz_lit, zz_num, zI_lt, zI_le, zI_eq, zI_nat, zz_b, if_pos, if_neg, if_true, if_false]
    rw [hd]
    cases c
    · by_cases h : x = s
      · rw [if_pos h]; simp [h]
      · rw [if_neg h]; simp [h]
    · simp
theorem nQl_any {n : zN} : ∀ (t : Nat) (s : Int), (t : Int) ≤ n 3 → n 3 - t ≤ s → s < n 3 → (nQl n t).any (fun t => decide (t = s)) = nRe n s := by
  intro t
  induction t with
  | zero => intro s _ h0 h1; omega
  | succ t ih =>
    intro s ht h0 h1
    have hre : nRe n (nLa n - t) = (nGo n t && nIs n (nLa n - t)) := by
      unfold nRe
      rw [show (nLa n - (nLa n - (t : Int))).toNat = t by omega]
    have hx : nLa n - (t : Int) = n 3 - ((t + 1 : Nat) : Int) := by unfold nLa; omega
    by_cases hs : s = nLa n - t
    · have hnot : (nQl n t).any (fun u => decide (u = s)) = false := by
        rw [List.any_eq_false]
        intro u hu
        have := nQl_mem t u (by omega) hu
        simp
        omega
      unfold nQl
      split
      · rename_i h
        rw [List.any_append, hnot, hs, hre, h]
        simp
      · rename_i h
        rw [hnot, hs, hre]
        simpa using h
    · have ih := ih s (by omega) (by omega) h1
      unfold nQl
      split
      · rw [List.any_append, ih]
        simp
        omega
      · exact ih
theorem e10_isReached (hW : zWF E) (hm : zU E 3 0 = true) (h1 : σ 3 0 1 = n) (hn : nW n) (hl : zQl σ (nQl n (n 3).toNat)) {s : Int} (hs0 : 0 ≤ s) (hs1 : s < n 3) : f_X10_isReached (zH E σ) (zL E 3 0 0) (zI s) = some (zI (zb (nRe n s))) := by
  have hN' := hn.1.r
  have hlen := nQl_len n (n 3).toNat
  unfold f_X10_isReached
  have h := e10_isReached_L hW hm h1 hn hl (fun t ht => by have := nQl_mem _ t (by omega) ht; omega) (by omega) hs0 (by omega : s < 12) (nQl n (n 3).toNat).length g_N false 0 (by omega) (by unfold g_N; omega)
  rw [List.drop_zero, nQl_any _ s (by omega) (by omega) hs1, Bool.false_or] at h
  exact h
theorem zQl.f {l : List Int} {i v : Int} (hi : i ≠ 18) (h : zQl σ l) : zQl (zs σ 3 0 0 i v) l := ⟨by rw [zs_at, if_neg (by omega)]; exact h.1, fun k hk => by rw [zs_ne (by omega)]; exact h.2 k hk⟩
theorem zQl.a {l : List Int} {c : Nat} {i v : Int} (hc : c ≠ 17) (hc2 : c ≠ 0) (h : zQl σ l) : zQl (zs σ 3 0 c i v) l := ⟨by rw [zs_ne (by omega)]; exact h.1, fun k hk => by rw [zs_ne (by omega)]; exact h.2 k hk⟩
theorem e10_seeks_L (hW : zWF E) (hm : zU E 3 0 = true) (hn : nW n) {l : List Int} (hl2 : ∀ s ∈ l, 0 ≤ s ∧ s < n 3) (hlen : l.length ≤ 12) {x below : Int} (hx0 : 0 ≤ x) (hx1 : x < 100) (hb0 : 0 ≤ below) (hb1 : below ≤ 12) : ∀ (m fuel : Nat) (k : Nat) (σ : zW), σ 3 0 1 = n → zQl σ l → σ 3 0 0 19 = -1 → σ 3 0 0 20 = -1 → k + m = l.length → m < fuel → ∃ σ', f_X10_seeks_L12 fuel (zH E σ) (zL E 3 0 0) (zI x) (zI below) (zI (k : Int)) = some (zH E σ') ∧ zQ σ σ' ∧ zQl σ' l ∧ σ' 3 0 0 19 = lfi (fun s => decide (s < below) && decide (nEn n s x ≠ -1)) (l.drop k) ∧ σ' 3 0 0 20 = nSv n (lfi (fun s => decide (s < below) && decide (nEn n s x ≠ -1)) (l.drop k)) x ∧ (∀ c, c ≠ 0 → σ' 3 0 c = σ 3 0 c) := by
  have hN' := hn.1.r
  intro m
  induction m with
  | zero =>
    intro fuel k σ h1 hl h19 h20 h0 h2
    obtain ⟨f, rfl, h4⟩ := zfuel h2
    have h18 : g_i (zH E σ) (zL E 3 0 0) 10 18 = some (zI (l.length : Int)) := by rw [← hl.1]; exact zg_md18 hW hm
    rw [List.drop_eq_nil_of_le (by omega)]
    refine ⟨σ, ?_, zQ.rf, hl, h19, by rw [h20]; rfl, fun _ _ => rfl⟩
    simp (disch := first | assumption | omega) only [f_X10_seeks_L12, h18, zz_mdo hW hm, zz_ra hW hm, h1, zz_some, zz_lit, zz_num, zI_lt, zI_le, zI_eq, zI_nat, zz_b, if_pos, if_neg, if_true, if_false]
  | succ m ih =>
    intro fuel k σ h1 hl h19 h20 h0 h2
    obtain ⟨f, rfl, h4⟩ := zfuel h2
    have h18 : g_i (zH E σ) (zL E 3 0 0) 10 18 = some (zI (l.length : Int)) := by rw [← hl.1]; exact zg_md18 hW hm
    have g19 : g_i (zH E σ) (zL E 3 0 0) 10 19 = some (zI (-1)) := by rw [← h19]; exact zg_md19 hW hm
    have hk : k < l.length := by omega
    have hr := hl.2 k hk
    have hd : l.drop k = l.getD k 0 :: l.drop (k + 1) := by
      rw [List.drop_eq_getElem_cons hk]
      simp [List.getD_eq_getElem?_getD, List.getElem?_eq_getElem hk]
    have hmem := hl2 (l.getD k 0) (by simp [List.getD_eq_getElem?_getD, List.getElem?_eq_getElem hk])
    obtain ⟨s, hs⟩ : ∃ s, l.getD k 0 = s := ⟨_, rfl⟩
    rw [hs] at hr hd hmem
    have hE := nEn_rng n s x
    have hent := hn.2.2.2.ent hn.1 hmem.1 hmem.2
    have he := e10_entryOf hW hm h1 hn.1 hn.2.2.2 hmem.1 hmem.2 (by omega : -1 ≤ x) hx1
    obtain ⟨σ', q1, q2, q3, q4, q5, q6⟩ := ih f (k + 1) σ h1 hl h19 h20 (by omega) (by omega)
    rw [show (((k + 1 : Nat) : Int)) = (k : Int) + 1 by omega] at q1
    rw [hd]
    by_cases hsb : s < below
    · by_cases hne : nEn n s x = -1
      · rw [lfi, if_neg (by simp [hne])]
        refine ⟨σ', ?_, q2, q3, q4, q5, q6⟩
        rw [hne] at he
        simp (disch := first | assumption | omega) only [f_X10_seeks_L12, f_X10_seeks_J53, h18, g19, hr, he, zz_mdo hW hm, zz_ra hW hm, h1, zz_some, zz_lit, zz_num, zI_lt, zI_le, zI_eq, zI_nat, zz_b, if_pos, if_neg, if_true, if_false]
        exact q1
      · rw [lfi, if_pos (by simp [hsb, hne])]
        obtain ⟨σ1, s1⟩ : ∃ y, y = zs σ 3 0 0 19 s := ⟨_, rfl⟩
        have h11 : σ1 3 0 1 = n := by rw [s1, zs_ne (by omega)]; exact h1
        have hof := e10_of hW hm h11 (s := s) (w := 6 + 2 * nEn n s x) hmem.1 (by omega) (by omega) (by omega)
        refine ⟨zs σ1 3 0 0 20 (nS n s (6 + 2 * nEn n s x)), ?_, zQ.tr (by rw [s1]; exact zQ.f (by omega)) (zQ.f (by omega)), zQl.f (by omega) (by rw [s1]; exact zQl.f (by omega) hl), by rw [zs_at, if_neg (by omega), s1, zs_at, if_pos rfl], by rw [zs_at, if_pos rfl]; unfold nSv; rw [if_neg (by omega)], fun c hc => by rw [zs_ne (by omega), s1, zs_ne (by omega)]⟩
        simp (disch := first | assumption | omega) only [f_X10_seeks_L12, f_X10_seeks_J53, h18, g19, hr, he, zp_md19 hW hm, zz_mdo hW hm, zz_ra hW hm, h1, zz_some, zz_lit, zz_num, zI_lt, zI_le, zI_eq, zI_nat, zz_b, if_pos, if_neg, if_true, if_false]
        rw [← s1, show 5 + 2 * nEn n s x + 1 = 6 + 2 * nEn n s x by omega]
        simp (disch := first | assumption | omega) only [hof, zp_md20 hW hm, zz_mdo hW hm, zz_ra hW hm, h1, zz_some, zz_lit, zz_num, zI_lt, zI_le, zI_eq, zI_nat, zz_b, if_pos, if_neg, if_true, if_false]
        obtain ⟨f', rfl⟩ : ∃ f', f = f' + 1 := ⟨f - 1, by omega⟩
        have h182 : g_i (zH E (zs σ1 3 0 0 20 (nS n s (6 + 2 * nEn n s x)))) (zL E 3 0 0) 10 18 = some (zI (l.length : Int)) := by
          have : zs σ1 3 0 0 20 (nS n s (6 + 2 * nEn n s x)) 3 0 0 18 = (l.length : Int) := by rw [zs_at, if_neg (by omega), s1, zs_at, if_neg (by omega)]; exact hl.1
          rw [← this]; exact zg_md18 hW hm
        have h192 : g_i (zH E (zs σ1 3 0 0 20 (nS n s (6 + 2 * nEn n s x)))) (zL E 3 0 0) 10 19 = some (zI s) := by
          have : zs σ1 3 0 0 20 (nS n s (6 + 2 * nEn n s x)) 3 0 0 19 = s := by rw [zs_at, if_neg (by omega), s1, zs_at, if_pos rfl]
          rw [← this]; exact zg_md19 hW hm
        rw [f_X10_seeks_L12, h182, zz_some]
        by_cases hkl : (k : Int) + 1 < l.length
        · simp (disch := first | assumption | omega) only [h192, zz_mdo hW hm, zz_ra hW hm, h1, zz_some, zz_lit, zz_num, zI_lt, zI_le, zI_eq, zI_nat, zz_b, if_pos, if_neg, if_true, if_false]
        · simp (disch := first | assumption | omega) only [zz_mdo hW hm, zz_ra hW hm, h1, zz_some, zz_lit, zz_num, zI_lt, zI_le, zI_eq, zI_nat, zz_b, if_pos, if_neg, if_true, if_false]
    · rw [lfi, if_neg (by simp; omega)]
      refine ⟨σ', ?_, q2, q3, q4, q5, q6⟩
      simp (disch := first | assumption | omega) only [f_X10_seeks_L12, f_X10_seeks_J53, h18, g19, hr, zz_mdo hW hm, zz_ra hW hm, h1, zz_some, zz_lit, zz_num, zI_lt, zI_le, zI_eq, zI_nat, zz_b, if_pos, if_neg, if_true, if_false]
      exact q1
theorem e10_seeks' (hW : zWF E) (hm : zU E 3 0 = true) (h1 : σ 3 0 1 = n) (hn : nW n) (hl : zQl σ (nQl n (n 3).toNat)) {x below : Int} (hx0 : 0 ≤ x) (hx1 : x < 100) (hb0 : 0 ≤ below) (hb1 : below ≤ 12) : ∃ σ', f_X10_seeks (zH E σ) (zL E 3 0 0) (zI x) (zI below) = some (zH E σ') ∧ zQ σ σ' ∧ zQl σ' (nQl n (n 3).toNat) ∧ σ' 3 0 0 19 = nSk n x below ∧ σ' 3 0 0 20 = nFv n x below ∧ (∀ c, c ≠ 0 → σ' 3 0 c = σ 3 0 c) := by
  have hN' := hn.1.r
  have hlen := nQl_len n (n 3).toNat
  obtain ⟨σ1, s1⟩ : ∃ y, y = zs (zs σ 3 0 0 19 (-1)) 3 0 0 20 (-1) := ⟨_, rfl⟩
  obtain ⟨σ', q1, q2, q3, q4, q5, q6⟩ := e10_seeks_L hW hm hn (l := nQl n (n 3).toNat) (fun t ht => by have := nQl_mem _ t (by omega) ht; omega) (by omega) hx0 hx1 hb0 hb1 (nQl n (n 3).toNat).length g_N 0 σ1 (by rw [s1, zs_ne (by omega), zs_ne (by omega)]; exact h1) (by rw [s1]; exact zQl.f (by omega) (zQl.f (by omega) hl)) (by rw [s1]; simp [zs]) (by rw [s1]; simp [zs]) (by omega) (by unfold g_N; omega)
  rw [List.drop_zero, lfi_Sk (by omega)] at q4 q5
  refine ⟨σ', ?_, zQ.tr (by rw [s1]; exact zQ.tr (zQ.f (by omega)) (zQ.f (by omega))) q2, q3, q4, q5, fun c hc => by rw [q6 c hc, s1, zs_ne (by omega), zs_ne (by omega)]⟩
  simp (disch := first | assumption | omega) only [f_X10_seeks, zp_md19 hW hm, zp_md20 hW hm, zz_mdo hW hm, zz_ra hW hm, h1, zz_some, zz_lit, zz_num, zI_lt, zI_le, zI_eq, zI_nat, zz_b, if_pos, if_neg, if_true, if_false]
  rw [← s1]
  exact q1
theorem e10_seeks (hW : zWF E) (hm : zU E 3 0 = true) (h1 : σ 3 0 1 = n) (hn : nW n) (hl : zQl σ (nQl n (n 3).toNat)) {x below : Int} (hx0 : 0 ≤ x) (hx1 : x < 100) (hb0 : 0 ≤ below) (hb1 : below ≤ 12) : ∃ σ', f_X10_seeks (zH E σ) (zL E 3 0 0) (zI x) (zI below) = some (zH E σ') ∧ zQ σ σ' ∧ zQl σ' (nQl n (n 3).toNat) ∧ σ' 3 0 0 19 = nSk n x below ∧ σ' 3 0 0 20 = nFv n x below := by
  obtain ⟨σ', q1, q2, q3, q4, q5, q6⟩ := e10_seeks' hW hm h1 hn hl hx0 hx1 hb0 hb1
  exact ⟨σ', q1, q2, q3, q4, q5⟩
theorem e10_finds (hW : zWF E) (hm : zU E 3 0 = true) (h1 : σ 3 0 1 = n) (hn : nW n) {x : Int} (hx0 : 0 ≤ x) (hx1 : x < 100) : ∃ σ', f_X10_finds (zH E σ) (zL E 3 0 0) (zI x) = some (zH E σ') ∧ zQ σ σ' ∧ σ' 3 0 0 19 = nSk n x 12 ∧ σ' 3 0 0 20 = nFv n x 12 := by
  obtain ⟨σ1, a1, a2, a3⟩ := e10_searches hW hm hn h1
  obtain ⟨σ2, b1, b2, b3, b4, b5⟩ := e10_seeks hW hm (a2.n.trans h1) hn a3 hx0 hx1 (below := 12) (by omega) (by omega)
  refine ⟨σ2, ?_, a2.tr b2, b4, b5⟩
  simp (disch := first | assumption | omega) only [f_X10_finds, a1, b1, zz_mdo hW hm, zz_ra hW hm, h1, zz_some, zz_lit, zz_num, zI_lt, zI_le, zI_eq, zI_nat, zz_b, if_pos, if_neg, if_true, if_false]
theorem e10_filesThere_L (hW : zWF E) (hm : zU E 3 0 = true) (hn : nW n) {y : Int} (hy0 : 0 ≤ y) (hy1 : y ≤ 12) : ∀ (m fuel : Nat) (acc f : Int) (σ : zW), σ 3 0 1 = n → zQl σ (nQl n (n 3).toNat) → 0 ≤ f → f + m = n 2 → m < fuel → ∃ σ', f_X10_filesThere_L8 fuel (zH E σ) (zL E 3 0 0) (zI y) (zI acc) (zI f) = some (zH E σ', zI (acc + zcn (fun f => decide (nFv n f y ≠ -1)) f m)) ∧ zQ σ σ' := by
  have hN' := hn.1.r
  intro m
  induction m with
  | zero =>
    intro fuel acc f σ h1 hl h0 h2 h3
    obtain ⟨fu, rfl, h4⟩ := zfuel h3
    refine ⟨σ, ?_, zQ.rf⟩
    simp (disch := first | assumption | omega) only [f_X10_filesThere_L8, zcn, zz_mdo hW hm, zz_ra hW hm, h1, zz_some, zz_lit, zz_num, zI_lt, zI_le, zI_eq, zI_nat, zz_b, if_pos, if_neg, if_true, if_false]
    simp
  | succ m ih =>
    intro fuel acc f σ h1 hl h0 h2 h3
    obtain ⟨fu, rfl, h4⟩ := zfuel h3
    obtain ⟨σ1, b1, b2, b3, b4, b5⟩ := e10_seeks hW hm h1 hn hl (x := f) h0 (by omega) hy0 hy1
    have g20 : g_i (zH E σ1) (zL E 3 0 0) 10 20 = some (zI (nFv n f y)) := by rw [← b5]; exact zg_md20 hW hm
    have hF := nFv_rng hn f y
    by_cases h : nFv n f y = -1
    · obtain ⟨σ', c1, c2⟩ := ih fu (acc + 0) (f + 1) σ1 (b2.n.trans h1) b3 (by omega) (by omega) (by omega)
      refine ⟨σ', ?_, b2.tr c2⟩
      simp (disch := first | assumption | omega) only [f_X10_filesThere_L8, b1, g20, c1, zz_mdo hW hm, zz_ra hW hm, h1, zz_some, zz_lit, zz_num, zI_lt, zI_le, zI_eq, zI_nat, zz_b, if_pos, if_neg, if_true, if_false]
      rw [zcn, zb_dneg (by simp [h])]
      congr 3; omega
    · obtain ⟨σ', c1, c2⟩ := ih fu (acc + 1) (f + 1) σ1 (b2.n.trans h1) b3 (by omega) (by omega) (by omega)
      refine ⟨σ', ?_, b2.tr c2⟩
      simp (disch := first | assumption | omega) only [f_X10_filesThere_L8, b1, g20, c1, zz_mdo hW hm, zz_ra hW hm, h1, zz_some, zz_lit, zz_num, zI_lt, zI_le, zI_eq, zI_nat, zz_b, if_pos, if_neg, if_true, if_false]
      rw [zcn, zb_dpos h]
      congr 3; omega
theorem e10_filesThere (hW : zWF E) (hm : zU E 3 0 = true) (h1 : σ 3 0 1 = n) (hn : nW n) {y : Int} (hy0 : 0 ≤ y) (hy1 : y ≤ 12) : ∃ σ', f_X10_filesThere (zH E σ) (zL E 3 0 0) (zI y) = some (zH E σ', zI (nTh n y)) ∧ zQ σ σ' := by
  have hN' := hn.1.r
  obtain ⟨σ1, a1, a2, a3⟩ := e10_searches hW hm hn h1
  obtain ⟨σ2, b1, b2⟩ := e10_filesThere_L hW hm hn hy0 hy1 (n 2).toNat g_N 0 0 σ1 (a2.n.trans h1) a3 (by omega) (by omega) (by unfold g_N; omega)
  refine ⟨σ2, ?_, a2.tr b2⟩
  simp (disch := first | assumption | omega) only [f_X10_filesThere, a1, b1, zz_mdo hW hm, zz_ra hW hm, h1, zz_some, zz_lit, zz_num, zI_lt, zI_le, zI_eq, zI_nat, zz_b, if_pos, if_neg, if_true, if_false]
  unfold nTh
  congr 3; omega
theorem e10_goodFiles_L (hW : zWF E) (hm : zU E 3 0 = true) (hn : nW n) : ∀ (m fuel : Nat) (x : Int32) (f : Nat) (σ : zW), σ 3 0 1 = n → zQl σ (nQl n (n 3).toNat) → (f : Int) + m = n 2 → zBit x f (nGd n) → m < fuel → ∃ σ' y, f_X10_goodFiles_L8 fuel (zH E σ) (zL E 3 0 0) x (zI (f : Int)) = some (zH E σ', y) ∧ zQ σ σ' ∧ zBit y (n 2).toNat (nGd n) := by
  have hN' := hn.1.r
  intro m
  induction m with
  | zero =>
    intro fuel x f σ h1 hl h0 hb h3
    obtain ⟨fu, rfl, h4⟩ := zfuel h3
    refine ⟨σ, x, ?_, zQ.rf, by rw [show (n 2).toNat = f by omega]; exact hb⟩
    simp (disch := first | assumption | omega) only [f_X10_goodFiles_L8, zz_mdo hW hm, zz_ra hW hm, h1, zz_some, zz_lit, zz_num, zI_lt, zI_le, zI_eq, zI_nat, zz_b, if_pos, if_neg, if_true, if_false]
  | succ m ih =>
    intro fuel x f σ h1 hl h0 hb h3
    obtain ⟨fu, rfl, h4⟩ := zfuel h3
    obtain ⟨σ1, b1, b2, b3, b4, b5⟩ := e10_seeks hW hm h1 hn hl (x := f) (by omega) (by omega) (below := 12) (by omega) (by omega)
    have g20 : g_i (zH E σ1) (zL E 3 0 0) 10 20 = some (zI (nFv n f 12)) := by rw [← b5]; exact zg_md20 hW hm
    have hF := nFv_rng hn f 12
    have h11 := b2.n.trans h1
    have hi : ((f + 1 : Nat) : Int) = (f : Int) + 1 := by omega
    by_cases h : nFv n f 12 = -1
    · obtain ⟨σ', y, c1, c2, c3⟩ := ih fu (x ||| zI 0) (f + 1) σ1 h11 b3 (by omega) (zBit_keep hb (by simp [nGd, h])) (by omega)
      refine ⟨σ', y, ?_, b2.tr c2, c3⟩
      rw [hi] at c1
      simp (disch := first | assumption | omega) only [f_X10_goodFiles_L8, b1, g20, c1, zz_mdo hW hm, zz_ra hW hm, h1, zz_some, zz_lit, zz_num, zI_lt, zI_le, zI_eq, zI_nat, zz_b, if_pos, if_neg, if_true, if_false]
    · have hrd := e10_isReadable hW hm h11 hn (v := nFv n f 12) (by omega) hF.2
      cases hr : nRv n (nFv n f 12)
      · obtain ⟨σ', y, c1, c2, c3⟩ := ih fu (x ||| zI 0) (f + 1) σ1 h11 b3 (by omega) (zBit_keep hb (by simp [nGd, hr])) (by omega)
        refine ⟨σ', y, ?_, b2.tr c2, c3⟩
        rw [hi] at c1
        rw [hr] at hrd
        simp (disch := first | assumption | omega) only [f_X10_goodFiles_L8, b1, g20, hrd, c1, zz_mdo hW hm, zz_ra hW hm, h1, zz_some, zz_lit, zz_num, zI_lt, zI_le, zI_eq, zI_nat, zz_b, if_pos, if_neg, if_true, if_false]
      · obtain ⟨σ', y, c1, c2, c3⟩ := ih fu (x ||| (zI 1 <<< (zI (f : Int) &&& 31))) (f + 1) σ1 h11 b3 (by omega) (zBit_set hb (by omega) (by simp [nGd, hr, h])) (by omega)
        refine ⟨σ', y, ?_, b2.tr c2, c3⟩
        rw [hi] at c1
        rw [hr] at hrd
        simp (disch := first | assumption | omega) only [f_X10_goodFiles_L8, b1, g20, hrd, c1, Bool.true_eq_false, zz_mdo hW hm, zz_ra hW hm, h1, zz_some, zz_lit, zz_num, zI_lt, zI_le, zI_eq, zI_nat, zz_b, if_pos, if_neg, if_true, if_false]
theorem e10_goodFiles (hW : zWF E) (hm : zU E 3 0 = true) (h1 : σ 3 0 1 = n) (hn : nW n) : ∃ σ' y, f_X10_goodFiles (zH E σ) (zL E 3 0 0) = some (zH E σ', y) ∧ zQ σ σ' ∧ zBit y (n 2).toNat (nGd n) := by
  have hN' := hn.1.r
  obtain ⟨σ1, a1, a2, a3⟩ := e10_searches hW hm hn h1
  obtain ⟨σ2, y, b1, b2, b3⟩ := e10_goodFiles_L hW hm hn (n 2).toNat g_N (zI 0) 0 σ1 (a2.n.trans h1) a3 (by omega) (zBit_0 _) (by unfold g_N; omega)
  refine ⟨σ2, y, ?_, a2.tr b2, b3⟩
  simp (disch := first | assumption | omega) only [f_X10_goodFiles, a1, zz_mdo hW hm, zz_ra hW hm, h1, zz_some, zz_lit, zz_num, zI_lt, zI_le, zI_eq, zI_nat, zz_b, if_pos, if_neg, if_true, if_false]
  exact b1
end zMod
end
section
/-! The reference: what could be recovered, risks, space. -/
theorem nFv_file {n : zN} (hn : nW n) {f b : Int} (h : 0 ≤ nFv n f b) : nV n (nFv n f b) 0 = f := by
  have hN := hn.1.r
  have h1 := nSk_rng n f b
  have hR := nFv_rng hn f b
  have e : nFv n f b = nSv n (nSk n f b) f := rfl
  by_cases hs : nSk n f b = -1
  · rw [e, hs] at h
    unfold nSv at h
    rw [if_pos rfl] at h
    omega
  · have h2 := nSk_en (n := n) (f := f) (b := b) (by omega)
    have h3 := nEn_rng n (nSk n f b) f
    have e2 : nFv n f b = nS n (nSk n f b) (6 + 2 * nEn n (nSk n f b) f) := by rw [e]; unfold nSv; rw [if_neg hs]
    have hv := (hn.2.2.1.2 (nFv n f b) h hR.2).2.2.2.2.2.2 (nSk n f b) (nEn n (nSk n f b) f) (by omega) (by omega) (by omega) (by omega) e2.symm
    rw [hv]
    rcases zfs_spec (P := fun k => decide (nS n (nSk n f b) (5 + 2 * k) = f)) (nS n (nSk n f b) 2).toNat 0 (by omega) with ⟨h5, _⟩ | ⟨_, _, h5, _⟩
    · exact absurd h5 h2.2
    · exact of_decide_eq_true h5
/-- those below t, in order -/
def nCll (P : Int → Bool) : Nat → List Int
  | 0 => []
  | t + 1 => if P t = true then nCll P t ++ [(t : Int)] else nCll P t
theorem nCll_len (P : Int → Bool) : ∀ t : Nat, ((nCll P t).length : Int) = zcn P 0 t := by
  intro t
  induction t with
  | zero => rfl
  | succ t ih =>
    rw [zcn_snoc, nCll, show (0 : Int) + (t : Int) = t by omega]
    cases h : P t
    · rw [if_neg (by simp), ih]; simp [zb]
    · rw [if_pos rfl, List.length_append]; simp [zb]; omega
/-- things with different files are no more than the files -/
theorem zcn_inj {P : Int → Bool} {fl : Int → Int} {F : Nat} {T : Int} (hf : ∀ u, 0 ≤ u → u < T → P u = true → 0 ≤ fl u ∧ fl u < F) (hd : ∀ u t, 0 ≤ u → u < t → t < T → P u = true → P t = true → fl u ≠ fl t) : ∀ t : Nat, (t : Int) ≤ T → zcn P 0 t ≤ zcn (fun g => !zal (fun u => !(P u && decide (fl u = g))) 0 t) 0 F := by
  intro t
  induction t with
  | zero => intro _; simp [zcn]; exact (zcn_rng _ _ _).1
  | succ t ih =>
    intro ht
    have ih := ih (by omega)
    have key : ∀ g, (!zal (fun u => !(P u && decide (fl u = g))) 0 (t + 1)) = ((!zal (fun u => !(P u && decide (fl u = g))) 0 t) || (P t && decide (fl t = g))) := by
      intro g
      have h1 := zal_iff (P := fun u => !(P u && decide (fl u = g))) (t + 1) 0
      have h2 := zal_iff (P := fun u => !(P u && decide (fl u = g))) t 0
      cases ha : zal (fun u => !(P u && decide (fl u = g))) 0 t
      · have : zal (fun u => !(P u && decide (fl u = g))) 0 (t + 1) = false := by
          cases hb : zal (fun u => !(P u && decide (fl u = g))) 0 (t + 1)
          · rfl
          · have := h2.mpr (fun i i0 i1 => h1.mp hb i i0 (by omega))
            rw [ha] at this; cases this
        rw [this]; rfl
      · cases hp : (P t && decide (fl t = g))
        · have : zal (fun u => !(P u && decide (fl u = g))) 0 (t + 1) = true := h1.mpr (fun i i0 i1 => by
            by_cases hi : i = t
            · subst hi; simp [hp]
            · exact h2.mp ha i i0 (by omega))
          rw [this]; rfl
        · have : zal (fun u => !(P u && decide (fl u = g))) 0 (t + 1) = false := by
            cases hb : zal (fun u => !(P u && decide (fl u = g))) 0 (t + 1)
            · rfl
            · have := h1.mp hb t (by omega) (by omega)
              rw [hp] at this
              cases this
          rw [this]; rfl
    rw [zcn_snoc, show (0 : Int) + (t : Int) = t by omega]
    cases hp : P t
    · have := zcn_le (P := fun g => !zal (fun u => !(P u && decide (fl u = g))) 0 t) (Q := fun g => !zal (fun u => !(P u && decide (fl u = g))) 0 (t + 1)) F 0 (fun g _ _ h => by
        show (!zal (fun u => !(P u && decide (fl u = g))) 0 (t + 1)) = true
        rw [key g, h]; rfl)
      have hz : zb false = 0 := rfl
      omega
    · have hft := hf t (by omega) (by omega) hp
      have hnew : zal (fun u => !(P u && decide (fl u = fl t))) 0 t = true := (zal_iff _ _).mpr (fun u u0 u1 => by
        cases hu : P u
        · rfl
        · have := hd u t u0 (by omega) (by omega) hu hp
          simp [this])
      have := zcn_one (P := fun g => !zal (fun u => !(P u && decide (fl u = g))) 0 t) (Q := fun g => !zal (fun u => !(P u && decide (fl u = g))) 0 (t + 1)) (j := fl t) F 0 hft.1 (by omega) (by rw [hnew]; rfl) (by
        show (!zal (fun u => !(P u && decide (fl u = fl t))) 0 (t + 1)) = true
        rw [key, hp]; simp) (fun g hg _ _ => by
        show (!zal (fun u => !(P u && decide (fl u = g))) 0 (t + 1)) = _
        rw [key, hp]
        have : decide (fl t = g) = false := decide_eq_false (fun z => hg z.symm)
        rw [this]; simp)
      have hz : zb true = 1 := rfl
      omega
theorem nRc_10 {n : zN} (hn : nW n) (l : Int) {t : Nat} (ht : (t : Int) ≤ n 6) : zcn (nRc n l) 0 t ≤ n 2 := by
  have hN := hn.1.r
  have h1 := zcn_inj (P := nRc n l) (fl := fun u => nV n u 0) (F := (n 2).toNat) (T := n 6) (fun u u0 u1 _ => by have := (hn.2.2.1.2 u u0 u1).1; omega) (fun u t u0 u1 t1 hu ht => nRc_ne u0 u1 t1 hu ht) t ht
  have h2 := (zcn_rng (fun g => !zal (fun u => !(nRc n l u && decide (nV n u 0 = g))) 0 t) (n 2).toNat 0).2
  omega
def zCl (σ : zW) (l : List Int) : Prop := σ 3 0 0 22 = l.length ∧ ∀ k : Nat, k < l.length → σ 3 0 21 k = l.getD k 0
def nCo (n : zN) : List Int := if nLo n = true then nCll (nRc n (nLa n)) (n 6).toNat else []
theorem nCo_len {n : zN} (hn : nW n) : ((nCo n).length : Int) = nCr n := by
  unfold nCo nCr
  cases nLo n
  · rw [if_neg (by simp), if_neg (by simp)]; rfl
  · rw [if_pos rfl, if_pos rfl, nCll_len]
section zMod
variable {E : zE} {σ : zW} {n : zN}
theorem zCl_push {l : List Int} {x : Int} (hl : zCl σ l) : zCl (zs (zs σ 3 0 21 l.length x) 3 0 0 22 (l.length + 1)) (l ++ [x]) := by
  refine ⟨by simp [zs], fun k hk => ?_⟩
  rw [zs_ne (by omega), zs_at]
  simp only [List.length_append, List.length_cons, List.length_nil] at hk
  by_cases h : k = l.length
  · subst h
    simp
  · rw [if_neg (by omega), hl.2 k (by omega)]
    simp only [List.getD_eq_getElem?_getD]
    rw [List.getElem?_append_left (by omega)]
theorem e10_isOutdone_L (hW : zWF E) (hm : zU E 3 0 = true) (h1 : σ 3 0 1 = n) (hn : nW n) {v : Int} (hv0 : 0 ≤ v) (hv1 : v < n 6) : ∀ (m fuel : Nat) (c : Bool) (u : Int), 0 ≤ u → u + m = n 6 → m < fuel → f_X10_isOutdone_L6 (zH E σ) fuel (zL E 3 0 0) (zI v) (zI (zb c)) (zI u) = some (zI (zb (c || !zal (fun u => !(decide (nV n u 0 = nV n v 0) && nRo n u (nLa n))) u m))) := by
  have hN' := hn.1.r
  have hla : nLa n = n 3 - 1 := rfl
  have hvv := hn.2.2.1.2 v hv0 hv1
  intro m
  induction m with
  | zero =>
    intro fuel c u h0 h2 h3
    obtain ⟨f, rfl, h4⟩ := zfuel h3
    simp (disch := first | assumption | omega) only [f_X10_isOutdone_L6, zal, zz_mdo hW hm, zz_ra hW hm, h1, zz_some, zz_lit, zz_num, zI_lt, zI_le, zI_eq, zI_nat, zz_b, if_pos, if_neg, if_true, if_false]
    cases c <;> rfl
  | succ m ih =>
    intro fuel c u h0 h2 h3
    obtain ⟨f, rfl, h4⟩ := zfuel h3
    have huv := hn.2.2.1.2 u h0 (by omega)
    have i0 := ih f false (u + 1) (by omega) (by omega) (by omega)
    have i1 := ih f true (u + 1) (by omega) (by omega) (by omega)
    rw [show zI (zb false) = zI 0 from rfl] at i0
    rw [show zI (zb true) = zI 1 from rfl] at i1
    have hrd := e10_isReadable hW hm h1 hn (v := u) h0 (by omega)
    simp (disch := first | assumption | omega) only [f_X10_isOutdone_L6, e10_ofVersion hW hm h1, e10_latest hW hm h1, hrd, i0, i1, zz_mdo hW hm, zz_ra hW hm, h1, zz_some, zz_lit, zz_num, zI_lt, zI_le, zI_eq, zI_nat, zz_b, if_pos, if_neg, if_true, if_false]
    rw [zal]
    unfold nRo
    cases c
    · by_cases ha : nV n u 4 = nLa n
      · by_cases hb : nV n u 0 = nV n v 0
        · cases hc : nRv n u
          · simp [ha, hb]
          · simp [ha, hb]
        · simp [ha, hb]
      · simp [ha]
    · simp
theorem e10_isOutdone (hW : zWF E) (hm : zU E 3 0 = true) (h1 : σ 3 0 1 = n) (hn : nW n) {v : Int} (hv0 : 0 ≤ v) (hv1 : v < n 6) : f_X10_isOutdone (zH E σ) (zL E 3 0 0) (zI v) = some (zI (zb (!zal (fun u => !(decide (nV n u 0 = nV n v 0) && nRo n u (nLa n))) (v + 1) (n 6 - v - 1).toNat))) := by
  have hN' := hn.1.r
  unfold f_X10_isOutdone
  have h := e10_isOutdone_L hW hm h1 hn hv0 hv1 (n 6 - v - 1).toNat g_N false (v + 1) (by omega) (by omega) (by unfold g_N; omega)
  rw [Bool.false_or] at h
  simp (disch := first | assumption | omega) only [zz_mdo hW hm, zz_ra hW hm, h1, zz_some, zz_lit, zz_num, zI_lt, zI_le, zI_eq, zI_nat, zz_b, if_pos, if_neg, if_true, if_false]
  exact h
theorem e10_findsLost_L (hW : zWF E) (hm : zU E 3 0 = true) (hn : nW n) : ∀ (m fuel t : Nat) (σ : zW), σ 3 0 1 = n → zCl σ (nCll (nRc n (nLa n)) t) → (t : Int) + m = n 6 → m < fuel → ∃ σ', f_X10_findsLost_L28 fuel (zH E σ) (zL E 3 0 0) (zI (t : Int)) = some (zH E σ') ∧ zQ σ σ' ∧ zCl σ' (nCll (nRc n (nLa n)) (n 6).toNat) := by
  have hN' := hn.1.r
  have hla : nLa n = n 3 - 1 := rfl
  intro m
  induction m with
  | zero =>
    intro fuel t σ h1 hl h0 h3
    obtain ⟨f, rfl, h4⟩ := zfuel h3
    refine ⟨σ, ?_, zQ.rf, by rw [show (n 6).toNat = t by omega]; exact hl⟩
    simp (disch := first | assumption | omega) only [f_X10_findsLost_L28, zz_mdo hW hm, zz_ra hW hm, h1, zz_some, zz_lit, zz_num, zI_lt, zI_le, zI_eq, zI_nat, zz_b, if_pos, if_neg, if_true, if_false]
  | succ m ih =>
    intro fuel t σ h1 hl h0 h3
    obtain ⟨f, rfl, h4⟩ := zfuel h3
    have htv := hn.2.2.1.2 t (by omega) (by omega)
    have hrd := e10_isReadable hW hm h1 hn (v := t) (by omega) (by omega)
    have hod := e10_isOutdone hW hm h1 hn (v := t) (by omega) (by omega)
    have hi : ((t + 1 : Nat) : Int) = (t : Int) + 1 := by omega
    have hlen := nCll_len (nRc n (nLa n)) t
    have h10 := nRc_10 hn (nLa n) (t := t) (by omega)
    have h22 : g_i (zH E σ) (zL E 3 0 0) 10 22 = some (zI ((nCll (nRc n (nLa n)) t).length : Int)) := by rw [← hl.1]; exact zg_md22 hW hm
    have hno : nRc n (nLa n) t = false → ∃ σ', f_X10_findsLost_L28 f (zH E σ) (zL E 3 0 0) (zI ((t : Int) + 1)) = some (zH E σ') ∧ zQ σ σ' ∧ zCl σ' (nCll (nRc n (nLa n)) (n 6).toNat) := by
      intro hp
      have := ih f (t + 1) σ h1 (by rw [nCll, hp]; exact hl) (by omega) (by omega)
      rw [hi] at this
      exact this
    by_cases ha : nV n t 4 = nLa n
    · cases hb : nRv n t
      · obtain ⟨σ', q1, q2, q3⟩ := hno (by simp [nRc, nRo, hb])
        refine ⟨σ', ?_, q2, q3⟩
        rw [hb] at hrd
        simp (disch := first | assumption | omega) only [f_X10_findsLost_L28, e10_ofVersion hW hm h1, e10_latest hW hm h1, hrd, zz_mdo hW hm, zz_ra hW hm, h1, zz_some, zz_lit, zz_num, zI_lt, zI_le, zI_eq, zI_nat, zz_b, if_pos, if_neg, if_true, if_false]
        first | exact q1 | (rw [if_pos ha]; exact q1)
      · rw [hb] at hrd
        have hrc : nRc n (nLa n) t = zal (fun u => !(decide (nV n u 0 = nV n t 0) && nRo n u (nLa n))) ((t : Int) + 1) (n 6 - t - 1).toNat := by
          unfold nRc
          have : nRo n t (nLa n) = true := by simp [nRo, ha, hb]
          rw [this, Bool.true_and]
        cases hc : nRc n (nLa n) t
        · obtain ⟨σ', q1, q2, q3⟩ := hno hc
          refine ⟨σ', ?_, q2, q3⟩
          rw [← hrc, hc] at hod
          simp (disch := first | assumption | omega) only [f_X10_findsLost_L28, e10_ofVersion hW hm h1, e10_latest hW hm h1, hrd, hod, Bool.true_eq_false, Bool.not_false, zz_mdo hW hm, zz_ra hW hm, h1, zz_some, zz_lit, zz_num, zI_lt, zI_le, zI_eq, zI_nat, zz_b, if_pos, if_neg, if_true, if_false]
          first | exact q1 | (rw [if_pos ha]; exact q1)
        · rw [← hrc, hc] at hod
          have hlt : ((nCll (nRc n (nLa n)) t).length : Int) < 10 := by
            have h5 := nRc_10 hn (nLa n) (t := t + 1) (by omega)
            rw [zcn_snoc, show (0 : Int) + (t : Int) = t by omega, hc] at h5
            have h6 : zb true = 1 := rfl
            omega
          obtain ⟨σ1, s1⟩ : ∃ x, x = zs σ 3 0 21 (nCll (nRc n (nLa n)) t).length t := ⟨_, rfl⟩
          obtain ⟨σ2, s2⟩ : ∃ x, x = zs σ1 3 0 0 22 ((nCll (nRc n (nLa n)) t).length + 1) := ⟨_, rfl⟩
          obtain ⟨σ', q1, q2, q3⟩ := ih f (t + 1) σ2 (by rw [s2, s1, zs_ne (by omega), zs_ne (by omega)]; exact h1) (by rw [nCll, hc, s2, s1]; exact zCl_push hl) (by omega) (by omega)
          have h222 : g_i (zH E σ1) (zL E 3 0 0) 10 22 = some (zI ((nCll (nRc n (nLa n)) t).length : Int)) := by
            have : σ1 3 0 0 22 = ((nCll (nRc n (nLa n)) t).length : Int) := by rw [s1, zs_ne (by omega)]; exact hl.1
            rw [← this]; exact zg_md22 hW hm
          refine ⟨σ', ?_, zQ.tr (by rw [s2, s1]; exact zQ.tr (zQ.a (by omega)) (zQ.f (by omega))) q2, q3⟩
          rw [hi] at q1
          simp (disch := first | assumption | omega) only [f_X10_findsLost_L28, e10_ofVersion hW hm h1, e10_latest hW hm h1, hrd, hod, h22, Bool.true_eq_false, Bool.not_true, zz_mdo hW hm, zz_ra hW hm, h1, zz_some, zz_lit, zz_num, zI_lt, zI_le, zI_eq, zI_nat, zz_b, if_pos, if_neg, if_true, if_false]
          try rw [if_pos ha]
          rw [← s1]
          simp (disch := first | assumption | omega) only [h222, zp_md22 hW hm, zz_mdo hW hm, zz_ra hW hm, h1, zz_some, zz_lit, zz_num, zI_lt, zI_le, zI_eq, zI_nat, zz_b, if_pos, if_neg, if_true, if_false]
          rw [← s2]
          exact q1
    · obtain ⟨σ', q1, q2, q3⟩ := hno (by simp [nRc, nRo, ha])
      refine ⟨σ', ?_, q2, q3⟩
      simp (disch := first | assumption | omega) only [f_X10_findsLost_L28, e10_ofVersion hW hm h1, e10_latest hW hm h1, zz_mdo hW hm, zz_ra hW hm, h1, zz_some, zz_lit, zz_num, zI_lt, zI_le, zI_eq, zI_nat, zz_b, if_pos, if_neg, if_true, if_false]
      first | exact q1 | (rw [if_neg ha]; exact q1)
theorem e10_findsLost (hW : zWF E) (hm : zU E 3 0 = true) (h1 : σ 3 0 1 = n) (hn : nW n) : ∃ σ', f_X10_findsLost (zH E σ) (zL E 3 0 0) = some (zH E σ') ∧ zQ σ σ' ∧ zCl σ' (nCo n) := by
  have hN' := hn.1.r
  have hla : nLa n = n 3 - 1 := rfl
  obtain ⟨σ1, s1⟩ : ∃ x, x = zs σ 3 0 0 22 0 := ⟨_, rfl⟩
  have h11 : σ1 3 0 1 = n := by rw [s1, zs_ne (by omega)]; exact h1
  have hl0 : zCl σ1 [] := ⟨by rw [s1, zs_at, if_pos rfl]; rfl, fun k hk => by simp at hk⟩
  have hl := e10_latest hW hm h11
  have hq : zQ σ σ1 := by rw [s1]; exact zQ.f (by omega)
  unfold nCo
  by_cases h : 0 ≤ nLa n
  · have hs := hn.2.2.2 (nLa n) h (by omega)
    have ho := e10_of hW hm h11 (s := nLa n) (w := 0) h (by omega) (by omega) (by omega)
    by_cases h2 : nS n (nLa n) 0 = 2
    · have hlo : nLo n = true := nLo_iff.mpr ⟨h, h2⟩
      obtain ⟨σ', q1, q2, q3⟩ := e10_findsLost_L hW hm hn (n 6).toNat g_N 0 σ1 h11 hl0 (by omega) (by unfold g_N; omega)
      refine ⟨σ', ?_, hq.tr q2, by rw [hlo, if_pos rfl]; exact q3⟩
      simp (disch := first | assumption | omega) only [f_X10_findsLost, zp_md22 hW hm, zz_mdo hW hm, zz_ra hW hm, h1, zz_some, zz_lit, zz_num, zI_lt, zI_le, zI_eq, zI_nat, zz_b, if_pos, if_neg, if_true, if_false]
      rw [← s1]
      simp (disch := first | assumption | omega) only [hl, ho, h2, zz_mdo hW hm, zz_ra hW hm, h1, zz_some, zz_lit, zz_num, zI_lt, zI_le, zI_eq, zI_nat, zz_b, if_pos, if_neg, if_true, if_false]
      exact q1
    · have hlo : nLo n = false := by
        cases hx : nLo n
        · rfl
        · exact absurd (nLo_iff.mp hx).2 h2
      refine ⟨σ1, ?_, hq, by rw [hlo, if_neg (by simp)]; exact hl0⟩
      simp (disch := first | assumption | omega) only [f_X10_findsLost, zp_md22 hW hm, zz_mdo hW hm, zz_ra hW hm, h1, zz_some, zz_lit, zz_num, zI_lt, zI_le, zI_eq, zI_nat, zz_b, if_pos, if_neg, if_true, if_false]
      rw [← s1]
      simp (disch := first | assumption | omega) only [hl, ho, zz_mdo hW hm, zz_ra hW hm, h1, zz_some, zz_lit, zz_num, zI_lt, zI_le, zI_eq, zI_nat, zz_b, if_pos, if_neg, if_true, if_false]
      all_goals (try rw [if_neg h2])
  · have hlo : nLo n = false := by
      cases hx : nLo n
      · rfl
      · exact absurd (nLo_iff.mp hx).1 h
    refine ⟨σ1, ?_, hq, by rw [hlo, if_neg (by simp)]; exact hl0⟩
    simp (disch := first | assumption | omega) only [f_X10_findsLost, zp_md22 hW hm, zz_mdo hW hm, zz_ra hW hm, h1, zz_some, zz_lit, zz_num, zI_lt, zI_le, zI_eq, zI_nat, zz_b, if_pos, if_neg, if_true, if_false]
    rw [← s1]
    simp (disch := first | assumption | omega) only [hl, zz_mdo hW hm, zz_ra hW hm, h1, zz_some, zz_lit, zz_num, zI_lt, zI_le, zI_eq, zI_nat, zz_b, if_pos, if_neg, if_true, if_false]
theorem nLo_nop {n : zN} (h : nLo n = true) : nOp n = false := by
  cases ho : nOp n
  · rfl
  · have := (nOp_iff.mp ho).2
    have := (nLo_iff.mp h).2
    omega
theorem e10_whyRecover (hW : zWF E) (hm : zU E 3 0 = true) (h1 : σ 3 0 1 = n) (hn : nW n) : ∃ σ', f_X10_whyRecover (zH E σ) (zL E 3 0 0) = some (zH E σ', zI (nWr n)) ∧ zQ σ σ' ∧ zCl σ' (nCo n) := by
  have hN' := hn.1.r
  obtain ⟨σ', q1, q2, q3⟩ := e10_findsLost hW hm h1 hn
  have hc := nCr_rng hn
  have h22 : g_i (zH E σ') (zL E 3 0 0) 10 22 = some (zI (nCr n)) := by rw [← nCo_len hn, ← q3.1]; exact zg_md22 hW hm
  have h11 := q2.n.trans h1
  refine ⟨σ', ?_, q2, q3⟩
  have hz : ∀ G : gH, f_X10_directoryLong G (zI (nCr n)) = some (zI (nDl (nCr n))) := e10_dirLong hc.1 (by omega)
  have hd := nDl_rng hc.1 hc.2
  unfold nWr
  by_cases h0 : nCr n = 0
  · rw [if_pos h0]
    rw [h0] at h22
    simp (disch := first | assumption | omega) only [f_X10_whyRecover, q1, h22, zz_mdo hW hm, zz_ra hW hm, h1, zz_some, zz_lit, zz_num, zI_lt, zI_le, zI_eq, zI_nat, zz_b, if_pos, if_neg, if_true, if_false]
  · rw [if_neg h0, nTm_12 hn.1]
    have hlo : nLo n = true := by
      cases hl : nLo n
      · unfold nCr at h0; rw [hl, if_neg (by simp)] at h0; exact absurd rfl h0
      · rfl
    rw [nLo_nop hlo]
    by_cases h12 : n 3 = 12
    · have : (!false && decide (n 3 = 12)) = true := by simp [h12]
      rw [this, if_pos rfl]
      simp (disch := first | assumption | omega) only [f_X10_whyRecover, q1, h22, zz_mdo hW hm, zz_ra hW hm, h11, h12, zz_some, zz_lit, zz_num, zI_lt, zI_le, zI_eq, zI_nat, zz_b, if_pos, if_neg, if_true, if_false]
    · have : (!false && decide (n 3 = 12)) = false := by simp [h12]
      rw [this, if_neg (by simp)]
      unfold nWd
      have hrm := e10_hasRoom hW hm h11 hn.1 (x := nDl (nCr n)) (by omega) (by omega)
      have hsp := e10_hasSpare hW hm h11 hn.1 hn.2.1 (x := nDl (nCr n)) (by omega)
      by_cases h3 : n 4 + nDl (nCr n) ≤ n 0 - n 1
      · have hsp := hsp h3
        rw [decide_eq_true h3] at hrm
        rw [if_pos h3]
        cases hx : nHs n (nDl (nCr n))
        · rw [hx] at hsp
          simp (disch := first | assumption | omega) only [f_X10_whyRecover, q1, h22, zz_mdo hW hm, zz_ra hW hm, h11, hz, hrm, hsp, Bool.true_eq_false, zz_some, zz_lit, zz_num, zI_lt, zI_le, zI_eq, zI_nat, zz_b, if_pos, if_neg, if_true, if_false]
          rfl
        · rw [hx] at hsp
          simp (disch := first | assumption | omega) only [f_X10_whyRecover, q1, h22, zz_mdo hW hm, zz_ra hW hm, h11, hz, hrm, hsp, Bool.true_eq_false, zz_some, zz_lit, zz_num, zI_lt, zI_le, zI_eq, zI_nat, zz_b, if_pos, if_neg, if_true, if_false]
      · rw [decide_eq_false h3] at hrm
        rw [if_neg h3]
        simp (disch := first | assumption | omega) only [f_X10_whyRecover, q1, h22, zz_mdo hW hm, zz_ra hW hm, h11, hz, hrm, zz_some, zz_lit, zz_num, zI_lt, zI_le, zI_eq, zI_nat, zz_b, if_pos, if_neg, if_true, if_false]
theorem e10_whyClose (hW : zWF E) (hm : zU E 3 0 = true) (h1 : σ 3 0 1 = n) (hn : nW n) : f_X10_whyClose (zH E σ) (zL E 3 0 0) = some (zI (nWc n)) := by
  have hN' := hn.1.r
  have hla : nLa n = n 3 - 1 := rfl
  have ho := e10_isOpen hW hm h1 hn.1 hn.2.2.2
  unfold nWc
  cases h : nOp n
  · rw [h] at ho
    simp (disch := first | assumption | omega) only [f_X10_whyClose, ho, zz_mdo hW hm, zz_ra hW hm, h1, zz_some, zz_lit, zz_num, zI_lt, zI_le, zI_eq, zI_nat, zz_b, if_pos, if_neg, if_true, if_false]
    simp
  · rw [h] at ho
    obtain ⟨h2, h3⟩ := nOp_iff.mp h
    have he := hn.2.2.2.ent hn.1 h2 (by omega)
    have hd := nDl_rng he.1 (by omega)
    have hz : ∀ G : gH, f_X10_directoryLong G (zI (nS n (nLa n) 2)) = some (zI (nDl (nS n (nLa n) 2))) := e10_dirLong he.1 (by omega)
    have hrm := e10_hasRoom hW hm h1 hn.1 (x := nDl (nS n (nLa n) 2)) (by omega) (by omega)
    have hsp := e10_hasSpare hW hm h1 hn.1 hn.2.1 (x := nDl (nS n (nLa n) 2)) (by omega)
    rw [if_pos rfl]
    unfold nWd
    by_cases h5 : n 4 + nDl (nS n (nLa n) 2) ≤ n 0 - n 1
    · have hsp := hsp h5
      rw [decide_eq_true h5] at hrm
      rw [if_pos h5]
      cases hx : nHs n (nDl (nS n (nLa n) 2))
      · rw [hx] at hsp
        simp (disch := first | assumption | omega) only [f_X10_whyClose, ho, e10_latest hW hm h1, e10_of hW hm h1, hz, hrm, hsp, Bool.true_eq_false, zz_mdo hW hm, zz_ra hW hm, h1, zz_some, zz_lit, zz_num, zI_lt, zI_le, zI_eq, zI_nat, zz_b, if_pos, if_neg, if_true, if_false]
        rfl
      · rw [hx] at hsp
        simp (disch := first | assumption | omega) only [f_X10_whyClose, ho, e10_latest hW hm h1, e10_of hW hm h1, hz, hrm, hsp, Bool.true_eq_false, zz_mdo hW hm, zz_ra hW hm, h1, zz_some, zz_lit, zz_num, zI_lt, zI_le, zI_eq, zI_nat, zz_b, if_pos, if_neg, if_true, if_false]
    · rw [decide_eq_false h5] at hrm
      rw [if_neg h5]
      simp (disch := first | assumption | omega) only [f_X10_whyClose, ho, e10_latest hW hm h1, e10_of hW hm h1, hz, hrm, Bool.true_eq_false, zz_mdo hW hm, zz_ra hW hm, h1, zz_some, zz_lit, zz_num, zI_lt, zI_le, zI_eq, zI_nat, zz_b, if_pos, if_neg, if_true, if_false]
theorem e10_whyErase (hW : zWF E) (hm : zU E 3 0 = true) (h1 : σ 3 0 1 = n) (hn : nW n) {x : Int} (hx0 : 0 ≤ x) (hx1 : x < 100) : ∃ σ', f_X10_whyErase (zH E σ) (zL E 3 0 0) (zI x) = some (zH E σ', zI (nWe n x)) ∧ zQ σ σ' := by
  have hN' := hn.1.r
  obtain ⟨σ', q1, q2, q3, q4⟩ := e10_finds hW hm h1 hn hx0 hx1
  have h20 : g_i (zH E σ') (zL E 3 0 0) 10 20 = some (zI (nFv n x 12)) := by rw [← q4]; exact zg_md20 hW hm
  have h11 := q2.n.trans h1
  have hF := nFv_rng hn x 12
  have he := nEw_rng hn x
  have hd := nDl_rng he.1 (by omega)
  have hz : ∀ G : gH, f_X10_directoryLong G (zI (nEw n x)) = some (zI (nDl (nEw n x))) := e10_dirLong he.1 (by omega)
  have ho := e10_isOpen hW hm h11 hn.1 hn.2.2.2
  have hew := e10_entriesWith hW hm h11 hn (x := x) (by omega) hx1
  have hrm := e10_hasRoom hW hm h11 hn.1 (x := nDl (nEw n x)) (by omega) (by omega)
  refine ⟨σ', ?_, q2⟩
  unfold nWe
  rw [nTm_12 hn.1]
  have hJ : f_X10_whyErase_J35 (zH E σ') (zL E 3 0 0) (zI x) = some (zH E σ', zI (if n 4 + nDl (nEw n x) ≤ n 0 - n 1 then 0 else 4)) := by
    by_cases h5 : n 4 + nDl (nEw n x) ≤ n 0 - n 1
    · rw [decide_eq_true h5] at hrm
      rw [if_pos h5]
      simp (disch := first | assumption | omega) only [f_X10_whyErase_J35, zz_mdo hW hm, hew, hz, hrm, Bool.true_eq_false, zz_some, zz_lit, zz_num, zI_lt, zI_le, zI_eq, zI_nat, zz_b, if_pos, if_neg, if_true, if_false]
    · rw [decide_eq_false h5] at hrm
      rw [if_neg h5]
      simp (disch := first | assumption | omega) only [f_X10_whyErase_J35, zz_mdo hW hm, hew, hz, hrm, zz_some, zz_lit, zz_num, zI_lt, zI_le, zI_eq, zI_nat, zz_b, if_pos, if_neg, if_true, if_false]
  by_cases h0 : nFv n x 12 = -1
  · rw [if_pos h0]
    rw [h0] at h20
    simp (disch := first | assumption | omega) only [f_X10_whyErase, zz_mdo hW hm, q1, h20, zz_some, zz_lit, zz_num, zI_lt, zI_le, zI_eq, zI_nat, zz_b, if_pos, if_neg, if_true, if_false]
  · rw [if_neg h0]
    cases hop : nOp n
    · rw [hop] at ho
      by_cases h12 : n 3 = 12
      · have : (!false && decide (n 3 = 12)) = true := by simp [h12]
        rw [this, if_pos rfl]
        simp (disch := first | assumption | omega) only [f_X10_whyErase, zz_mdo hW hm, zz_ra hW hm, h11, q1, h20, ho, h12, zz_some, zz_lit, zz_num, zI_lt, zI_le, zI_eq, zI_nat, zz_b, if_pos, if_neg, if_true, if_false]
      · have : (!false && decide (n 3 = 12)) = false := by simp [h12]
        rw [this, if_neg (by simp)]
        simp (disch := first | assumption | omega) only [f_X10_whyErase, zz_mdo hW hm, zz_ra hW hm, h11, q1, h20, ho, hJ, zz_some, zz_lit, zz_num, zI_lt, zI_le, zI_eq, zI_nat, zz_b, if_pos, if_neg, if_true, if_false]
    · rw [hop] at ho
      rw [show (!true && decide (n 3 = 12)) = false from rfl, if_neg (by simp)]
      simp (disch := first | assumption | omega) only [f_X10_whyErase, zz_mdo hW hm, zz_ra hW hm, h11, q1, h20, ho, hJ, Bool.true_eq_false, zz_some, zz_lit, zz_num, zI_lt, zI_le, zI_eq, zI_nat, zz_b, if_pos, if_neg, if_true, if_false]
theorem e10_defect_L (hW : zWF E) (hm : zU E 3 0 = true) (h1 : σ 3 0 1 = n) (hn : nW n) {w : Bool} : ∀ (m fuel : Nat) (k b : Int), 0 ≤ b → b + m = n 0 - n 1 → m < fuel → 0 ≤ k → k < 2147483648 → f_X10_defect_L10 fuel (zH E σ) (zL E 3 0 0) (zI (zb w)) (zI k) (zI b) = some ((zH E σ), zI (if znt (nDf n) b m k = -1 then -1 else if w = true then nPl n (znt (nDf n) b m k) else znt (nDf n) b m k)) := by
  have hN' := hn.1.r
  intro m
  induction m with
  | zero =>
    intro fuel k b h0 h2 h3 hk0 hk1
    obtain ⟨f, rfl, h4⟩ := zfuel h3
    simp (disch := first | assumption | omega) only [f_X10_defect_L10, e10_mainMany hW hm h1 hn.1, znt, zz_mdo hW hm, zz_ra hW hm, h1, zz_some, zz_lit, zz_num, zI_lt, zI_le, zI_eq, zI_nat, zz_b, if_pos, if_neg, if_true, if_false]
  | succ m ih =>
    intro fuel k b h0 h2 h3 hk0 hk1
    obtain ⟨f, rfl, h4⟩ := zfuel h3
    have hb := hn.2.1 b h0 (by omega)
    have hmm := e10_mainMany hW hm h1 hn.1
    by_cases hmv : n (679 + b) = 0
    · have hD : nDf n b = false := by simp [nDf, hmv]
      have e : znt (nDf n) b (m + 1) k = znt (nDf n) (b + 1) m k := by rw [znt, hD]; simp
      rw [e]
      simp (disch := first | assumption | omega) only [f_X10_defect_L10, hmm, hmv, ih, zz_mdo hW hm, zz_ra hW hm, h1, zz_some, zz_lit, zz_num, zI_lt, zI_le, zI_eq, zI_nat, zz_b, if_pos, if_neg, if_true, if_false]
    · have hk3 : n (7 + b) = 3 := (hb.2.2.2.2.2.2.2.2.2.2.2.2.1 (by omega)).mpr hmv
      have hw1 := hb.2.2.2.2.2.2.2.2.2.1 (by omega)
      have hs := hn.2.2.2 (n (295 + b) - 1) (by omega) (by omega)
      have ho := e10_of hW hm h1 (s := n (295 + b) - 1) (w := 0) (by omega) (by omega) (by omega) (by omega)
      have hrng : 0 ≤ n (679 + b) ∧ n (679 + b) ≤ 96 := by
        rcases hb.2.2.2.2.2.2.2.1 with q | q <;> omega
      by_cases h2' : nS n (n (295 + b) - 1) 0 = 2
      · have hD : nDf n b = false := by simp [nDf, h2']
        have e : znt (nDf n) b (m + 1) k = znt (nDf n) (b + 1) m k := by rw [znt, hD]; simp
        rw [e]
        simp (disch := first | assumption | omega) only [f_X10_defect_L10, hmm, ho, ih, zz_mdo hW hm, zz_ra hW hm, h1, zz_some, zz_lit, zz_num, zI_lt, zI_le, zI_eq, zI_nat, zz_b, if_pos, if_neg, if_true, if_false] <;> (try simp [hmv, h2'])
      · have hD : nDf n b = true := by simp [nDf, h2', hmv]
        have e : znt (nDf n) b (m + 1) k = if k = 0 then b else znt (nDf n) (b + 1) m (k - 1) := by rw [znt, hD, if_pos rfl]
        rw [e]
        have hp := e10_placeOf hW hm h1 hn.1 hn.2.1 h0 (by omega : b < 96)
        by_cases hk : k = 0
        · subst hk
          rw [if_pos rfl, if_neg (by omega)]
          cases w
          · simp (disch := first | assumption | omega) only [f_X10_defect_L10, hmm, ho, zz_mdo hW hm, zz_ra hW hm, h1, zz_some, zz_lit, zz_num, zI_lt, zI_le, zI_eq, zI_nat, zz_b, if_pos, if_neg, if_true, if_false]
            all_goals (try simp [hmv, h2'])
          · simp (disch := first | assumption | omega) only [f_X10_defect_L10, hmm, ho, hp, Bool.true_eq_false, zz_mdo hW hm, zz_ra hW hm, h1, zz_some, zz_lit, zz_num, zI_lt, zI_le, zI_eq, zI_nat, zz_b, if_pos, if_neg, if_true, if_false]
            all_goals (try simp [hmv, h2'])
        · rw [if_neg hk]
          have i0 := ih f (k - 1) (b + 1) (by omega) (by omega) (by omega) (by omega) (by omega)
          rw [show k - 1 = k + -1 by omega] at i0 ⊢
          simp (disch := first | assumption | omega) only [f_X10_defect_L10, hmm, ho, i0, zz_mdo hW hm, zz_ra hW hm, h1, zz_some, zz_lit, zz_num, zI_lt, zI_le, zI_eq, zI_nat, zz_b, if_pos, if_neg, if_true, if_false]
          all_goals (try simp [hmv, h2', hk])
end zMod
end
section
/-! The reference: risks, space; what it writes. -/
def zw (σ : zW) (n : zN) : zW := zr σ 3 0 1 n
theorem zw_at {σ : zW} {n : zN} : zw σ n 3 0 1 = n := zr_at
theorem zw_zw {σ : zW} {n n' : zN} : zw (zw σ n) n' = zw σ n' := by
  funext k d c
  unfold zw zr
  by_cases h : k = 3 ∧ d = 0 ∧ c = 1
  · rw [if_pos h, if_pos h]
  · rw [if_neg h, if_neg h, if_neg h]
theorem zw_self {σ : zW} {n : zN} (h : σ 3 0 1 = n) : zw σ n = σ := zr_self h.symm
theorem zs_zw {σ : zW} {n : zN} {i v : Int} : zs (zw σ n) 3 0 1 i v = zw σ (zu n i v) := by
  rw [← zs_r]
  show zw (zw σ n) _ = _
  rw [zw_zw]
  congr 1
  all_goals (funext j; rw [zw_at]; rfl)
theorem zw_ne {σ : zW} {n : zN} {k d c : Nat} (h : ¬ (k = 3 ∧ d = 0 ∧ c = 1)) : zw σ n k d c = σ k d c := zr_ne h
theorem nSh_zu (n : zN) (b : Int) : nSh n b = zu n (199 + b) 1 := rfl
section zMod
variable {E : zE} {σ : zW} {n : zN}
theorem e10_riskOf (hW : zWF E) (hm : zU E 3 0 = true) (h1 : σ 3 0 1 = n) (hn : nW n) {b : Int} (h0 : 0 ≤ b) (h2 : b < n 0) : ∃ σ', f_X10_riskOf (zH E σ) (zL E 3 0 0) (zI b) = some (zH E σ', zI (nRk n b)) ∧ zQ σ σ' := by
  have hN' := hn.1.r
  have hb := hn.2.1 b h0 (by omega)
  unfold nRk
  by_cases hk : n (7 + b) = 0
  · refine ⟨σ, ?_, zQ.rf⟩
    simp (disch := first | assumption | omega) only [f_X10_riskOf, hk, zz_mdo hW hm, zz_ra hW hm, h1, zz_some, zz_lit, zz_num, zI_lt, zI_le, zI_eq, zI_nat, zz_b, if_pos, if_neg, if_true, if_false]
    simp
  · by_cases hs : n (199 + b) = 1
    · refine ⟨σ, ?_, zQ.rf⟩
      simp (disch := first | assumption | omega) only [f_X10_riskOf, hs, zz_mdo hW hm, zz_ra hW hm, h1, zz_some, zz_lit, zz_num, zI_lt, zI_le, zI_eq, zI_nat, zz_b, if_pos, if_neg, if_true, if_false]
      simp
    · have hs0 : n (199 + b) = 0 := by omega
      rw [if_neg (by omega)]
      obtain ⟨σ1, x, a1, a2, a3⟩ := e10_goodFiles hW hm h1 hn
      have h11 := a2.n.trans h1
      obtain ⟨σ2, s2⟩ : ∃ y, y = zs σ1 3 0 1 (199 + b) 1 := ⟨_, rfl⟩
      have h12 : σ2 3 0 1 = nSh n b := by
        rw [s2]
        funext i
        rw [zs_at, h11]
        rfl
      obtain ⟨σ3, y, b1, b2, b3⟩ := e10_goodFiles hW hm h12 (nSh_W hn h0 (by omega))
      have h13 := b2.n.trans h12
      obtain ⟨σ4, s4⟩ : ∃ y, y = zs σ3 3 0 1 (199 + b) 0 := ⟨_, rfl⟩
      have h14 : σ4 3 0 1 = n := by
        rw [s4]
        funext i
        rw [zs_at, h13]
        by_cases hi : i = 199 + b
        · rw [if_pos hi, hi, hs0]
        · rw [if_neg hi]; unfold nSh; rw [if_neg hi]
      have hQ : zQ σ σ4 := by
        refine ⟨fun k d c hz => ?_, fun i i1 i2 i3 i4 => ?_⟩
        · by_cases h : k = 3 ∧ d = 0 ∧ c = 1
          · obtain ⟨rfl, rfl, rfl⟩ := h
            rw [h14, h1]
          · rw [s4, zs_ne h, b2.1 k d c hz, s2, zs_ne h, a2.1 k d c hz]
        · rw [s4, zs_ne (by omega), b2.2 i i1 i2 i3 i4, s2, zs_ne (by omega), a2.2 i i1 i2 i3 i4]
      have hn2 : (nSh n b) 2 = n 2 := by unfold nSh; rw [if_neg (by omega)]
      rw [hn2] at b3
      have hones := zBit_ones (zBit_diff a3 b3) (by omega : (n 2).toNat ≤ 10) (zH E σ4)
      refine ⟨σ4, ?_, hQ⟩
      simp (disch := first | assumption | omega) only [f_X10_riskOf, a1, zz_mdo hW hm, zz_ra hW hm, h1, zz_some, zz_lit, zz_num, zI_lt, zI_le, zI_eq, zI_nat, zz_b, if_pos, if_neg, if_true, if_false]
      try rw [if_neg hk]
      try rw [if_neg hs]
      rw [← s2]
      simp (disch := first | assumption | omega) only [zz_mdo hW hm, zz_ra hW hm, b1, zz_some, zz_lit, zz_num, zI_lt, zI_le, zI_eq, zI_nat, zz_b, if_pos, if_neg, if_true, if_false]
      rw [← s4, hones, zz_some]
theorem e10_fcount_L (hW : zWF E) (hm : zU E 3 0 = true) (hn : nW n) : ∀ (m fuel : Nat) (f : Int) (σ : zW), σ 3 0 1 = n → zQl σ (nQl n (n 3).toNat) → (∀ v, 0 ≤ v → v < n 6 → σ 3 0 23 v = zb (decide (nV n v 0 < f) && decide (nFv n (nV n v 0) 12 = v))) → 0 ≤ f → f + m = n 2 → m < fuel → ∃ σ', f_X10_findsCounting_L32 fuel (zH E σ) (zL E 3 0 0) (zI f) = some (zH E σ') ∧ zQ σ σ' ∧ (∀ v, 0 ≤ v → v < n 6 → σ' 3 0 23 v = zb (decide (nFv n (nV n v 0) 12 = v))) := by
  have hN' := hn.1.r
  intro m
  induction m with
  | zero =>
    intro fuel f σ h1 hl hc h0 h2 h3
    obtain ⟨fu, rfl, h4⟩ := zfuel h3
    refine ⟨σ, ?_, zQ.rf, fun v v0 v1 => ?_⟩
    · simp (disch := first | assumption | omega) only [f_X10_findsCounting_L32, zz_mdo hW hm, zz_ra hW hm, h1, zz_some, zz_lit, zz_num, zI_lt, zI_le, zI_eq, zI_nat, zz_b, if_pos, if_neg, if_true, if_false]
    · rw [hc v v0 v1]
      have := (hn.2.2.1.2 v v0 v1).1
      rw [decide_eq_true (by omega), Bool.true_and]
  | succ m ih =>
    intro fuel f σ h1 hl hc h0 h2 h3
    obtain ⟨fu, rfl, h4⟩ := zfuel h3
    obtain ⟨σ1, b1, b2, b3, b4, b5, b6⟩ := e10_seeks' hW hm h1 hn hl (x := f) h0 (by omega) (below := 12) (by omega) (by omega)
    have g20 : g_i (zH E σ1) (zL E 3 0 0) 10 20 = some (zI (nFv n f 12)) := by rw [← b5]; exact zg_md20 hW hm
    have hF := nFv_rng hn f 12
    have h11 := b2.n.trans h1
    by_cases h : nFv n f 12 = -1
    · obtain ⟨σ', c1, c2, c3⟩ := ih fu (f + 1) σ1 h11 b3 (fun v v0 v1 => by
        rw [b6 23 (by omega), hc v v0 v1]
        congr 1
        by_cases hv : nV n v 0 = f
        · rw [hv, h]
          simp
          omega
        · congr 1
          exact decide_eq_decide.mpr (by omega)) (by omega) (by omega) (by omega)
      refine ⟨σ', ?_, b2.tr c2, c3⟩
      rw [h] at g20
      simp (disch := first | assumption | omega) only [f_X10_findsCounting_L32, b1, g20, c1, zz_mdo hW hm, zz_ra hW hm, h1, zz_some, zz_lit, zz_num, zI_lt, zI_le, zI_eq, zI_nat, zz_b, if_pos, if_neg, if_true, if_false]
    · have hfile := nFv_file hn (f := f) (b := 12) (by omega)
      obtain ⟨σ2, s2⟩ : ∃ y, y = zs σ1 3 0 23 (nFv n f 12) 1 := ⟨_, rfl⟩
      obtain ⟨σ', c1, c2, c3⟩ := ih fu (f + 1) σ2 (by rw [s2, zs_ne (by omega)]; exact h11) (by rw [s2]; exact zQl.a (by omega) (by omega) b3) (fun v v0 v1 => by
        rw [s2, zs_at]
        by_cases hv : v = nFv n f 12
        · rw [if_pos hv, hv, hfile]
          simp [zb]
          omega
        · rw [if_neg hv, b6 23 (by omega), hc v v0 v1]
          congr 1
          by_cases hv2 : nV n v 0 = f
          · rw [hv2]
            have : ¬ (nFv n f 12 = v) := fun z => hv z.symm
            simp [this]
          · congr 1
            exact decide_eq_decide.mpr (by omega)) (by omega) (by omega) (by omega)
      refine ⟨σ', ?_, b2.tr (zQ.tr (by rw [s2]; exact zQ.a (by omega)) c2), c3⟩
      simp (disch := first | assumption | omega) only [f_X10_findsCounting_L32, b1, g20, zz_mdo hW hm, zz_ra hW hm, h1, zz_some, zz_lit, zz_num, zI_lt, zI_le, zI_eq, zI_nat, zz_b, if_pos, if_neg, if_true, if_false]
      rw [← s2]
      exact c1
theorem e10_fclear_L (hW : zWF E) (hm : zU E 3 0 = true) (hn : nW n) : ∀ (m fuel : Nat) (v : Int) (σ : zW), σ 3 0 1 = n → (∀ u, 0 ≤ u → u < v → σ 3 0 23 u = 0) → 0 ≤ v → v + m = n 6 → m < fuel → ∃ σ', f_X10_findsCounting_L2 fuel (zH E σ) (zL E 3 0 0) (zI v) = some (zH E σ') ∧ zQ σ σ' ∧ (∀ v, 0 ≤ v → v < n 6 → σ' 3 0 23 v = zb (decide (nFv n (nV n v 0) 12 = v))) := by
  have hN' := hn.1.r
  intro m
  induction m with
  | zero =>
    intro fuel v σ h1 hc h0 h2 h3
    obtain ⟨fu, rfl, h4⟩ := zfuel h3
    obtain ⟨σ1, a1, a2, a3, a4⟩ := e10_searches' hW hm hn h1
    obtain ⟨σ', c1, c2, c3⟩ := e10_fcount_L hW hm hn (n 2).toNat g_N 0 σ1 (a2.n.trans h1) a3 (fun u u0 u1 => by
      rw [a4 23 (by omega) (by omega), hc u u0 (by omega)]
      have := (hn.2.2.1.2 u u0 u1).1
      rw [decide_eq_false (by omega : ¬ nV n u 0 < 0)]
      rfl) (by omega) (by omega) (by unfold g_N; omega)
    refine ⟨σ', ?_, a2.tr c2, c3⟩
    simp (disch := first | assumption | omega) only [f_X10_findsCounting_L2, a1, zz_mdo hW hm, zz_ra hW hm, h1, zz_some, zz_lit, zz_num, zI_lt, zI_le, zI_eq, zI_nat, zz_b, if_pos, if_neg, if_true, if_false]
    exact c1
  | succ m ih =>
    intro fuel v σ h1 hc h0 h2 h3
    obtain ⟨fu, rfl, h4⟩ := zfuel h3
    obtain ⟨σ2, s2⟩ : ∃ y, y = zs σ 3 0 23 v 0 := ⟨_, rfl⟩
    obtain ⟨σ', c1, c2, c3⟩ := ih fu (v + 1) σ2 (by rw [s2, zs_ne (by omega)]; exact h1) (fun u u0 u1 => by
      rw [s2, zs_at]
      by_cases hu : u = v
      · rw [if_pos hu]
      · rw [if_neg hu]; exact hc u u0 (by omega)) (by omega) (by omega) (by omega)
    refine ⟨σ', ?_, zQ.tr (by rw [s2]; exact zQ.a (by omega)) c2, c3⟩
    simp (disch := first | assumption | omega) only [f_X10_findsCounting_L2, zz_mdo hW hm, zz_ra hW hm, h1, zz_some, zz_lit, zz_num, zI_lt, zI_le, zI_eq, zI_nat, zz_b, if_pos, if_neg, if_true, if_false]
    rw [← s2]
    exact c1
theorem e10_findsCounting (hW : zWF E) (hm : zU E 3 0 = true) (h1 : σ 3 0 1 = n) (hn : nW n) : ∃ σ', f_X10_findsCounting (zH E σ) (zL E 3 0 0) = some (zH E σ') ∧ zQ σ σ' ∧ (∀ v, 0 ≤ v → v < n 6 → σ' 3 0 23 v = zb (decide (nFv n (nV n v 0) 12 = v))) := by
  have hN' := hn.1.r
  exact e10_fclear_L hW hm hn (n 6).toNat g_N 0 σ h1 (fun u u0 u1 => by omega) (by omega) (by omega) (by unfold g_N; omega)
theorem e10_useOf (hW : zWF E) (hm : zU E 3 0 = true) (h1 : σ 3 0 1 = n) (hn : nW n) (hc : ∀ v, 0 ≤ v → v < n 6 → σ 3 0 23 v = zb (decide (nFv n (nV n v 0) 12 = v))) {b : Int} (h0 : 0 ≤ b) (h2 : b < n 0) : f_X10_useOf (zH E σ) (zL E 3 0 0) (zI b) = some (zI (nUs n b)) := by
  have hN' := hn.1.r
  have hb := hn.2.1 b h0 (by omega)
  unfold nUs
  rcases (by omega : n (7 + b) = 0 ∨ n (7 + b) = 1 ∨ n (7 + b) = 2 ∨ n (7 + b) = 3) with h | h | h | h
  · simp (disch := first | assumption | omega) only [f_X10_useOf, h, zz_mdo hW hm, zz_ra hW hm, h1, zz_some, zz_lit, zz_num, zI_lt, zI_le, zI_eq, zI_nat, zz_b, if_pos, if_neg, if_true, if_false]
  · have hv1 := hb.2.2.2.2.2.2.2.2.1 h
    have hcv := hc (n (391 + b) - 1) (by omega) (by omega)
    simp (disch := first | assumption | omega) only [f_X10_useOf, h, hcv, zz_mdo hW hm, zz_ra hW hm, h1, zz_some, zz_lit, zz_num, zI_lt, zI_le, zI_eq, zI_nat, zz_b, if_pos, if_neg, if_true, if_false]
    by_cases h5 : nFv n (nV n (n (391 + b) - 1) 0) 12 = n (391 + b) - 1
    · simp [h5]
    · simp [h5]
  · simp (disch := first | assumption | omega) only [f_X10_useOf, h, zz_mdo hW hm, zz_ra hW hm, h1, zz_some, zz_lit, zz_num, zI_lt, zI_le, zI_eq, zI_nat, zz_b, if_pos, if_neg, if_true, if_false]
  · simp (disch := first | assumption | omega) only [f_X10_useOf, h, zz_mdo hW hm, zz_ra hW hm, h1, zz_some, zz_lit, zz_num, zI_lt, zI_le, zI_eq, zI_nat, zz_b, if_pos, if_neg, if_true, if_false]
theorem e10_spaceBy_L (hW : zWF E) (hm : zU E 3 0 = true) (h1 : σ 3 0 1 = n) (hn : nW n) (hc : ∀ v, 0 ≤ v → v < n 6 → σ 3 0 23 v = zb (decide (nFv n (nV n v 0) 12 = v))) {s u : Int} (hs0 : -1 ≤ s) (hs1 : s < 100) (hu0 : 0 ≤ u) (hu1 : u ≤ 4) : ∀ (m fuel : Nat) (acc b : Int), 0 ≤ b → b + m = n 0 → m < fuel → f_X10_spaceBy_L9 fuel (zH E σ) (zL E 3 0 0) (zI s) (zI u) (zI acc) (zI b) = some ((zH E σ), zI (acc + zcn (fun b => (decide (s = -1) || decide (n (295 + b) = s + 1)) && decide (nUs n b = u)) b m)) := by
  have hN' := hn.1.r
  intro m
  induction m with
  | zero =>
    intro fuel acc b h0 h2 h3
    obtain ⟨f, rfl, h4⟩ := zfuel h3
    simp (disch := first | assumption | omega) only [f_X10_spaceBy_L9, zcn, zz_mdo hW hm, zz_ra hW hm, h1, zz_some, zz_lit, zz_num, zI_lt, zI_le, zI_eq, zI_nat, zz_b, if_pos, if_neg, if_true, if_false]
    simp
  | succ m ih =>
    intro fuel acc b h0 h2 h3
    obtain ⟨f, rfl, h4⟩ := zfuel h3
    have hb := hn.2.1 b h0 (by omega)
    have hus := nUs_rng n b
    have huse := e10_useOf hW hm h1 hn hc h0 (by omega : b < n 0)
    have i1 := ih f (acc + 1) (b + 1) (by omega) (by omega) (by omega)
    have i0 := ih f (acc + 0) (b + 1) (by omega) (by omega) (by omega)
    simp (disch := first | assumption | omega) only [f_X10_spaceBy_L9, huse, zcn, i0, i1, zz_mdo hW hm, zz_ra hW hm, h1, zz_some, zz_lit, zz_num, zI_lt, zI_le, zI_eq, zI_nat, zz_b, if_pos, if_neg, if_true, if_false]
    by_cases hx : nUs n b = u
    · by_cases ha : s = -1
      · simp [ha, hx, zb]; congr 1; omega
      · by_cases hw : n (295 + b) = s + 1
        · simp [ha, hx, hw, zb]; congr 1; omega
        · simp [ha, hx, hw, zb]
    · simp [hx, zb]
theorem e10_spaceBy (hW : zWF E) (hm : zU E 3 0 = true) (h1 : σ 3 0 1 = n) (hn : nW n) {s u : Int} (hs0 : -1 ≤ s) (hs1 : s < 100) (hu0 : 0 ≤ u) (hu1 : u ≤ 4) : ∃ σ', f_X10_spaceBy (zH E σ) (zL E 3 0 0) (zI s) (zI u) = some (zH E σ', zI (nSp n s u)) ∧ zQ σ σ' := by
  have hN' := hn.1.r
  obtain ⟨σ1, a1, a2, a3⟩ := e10_findsCounting hW hm h1 hn
  refine ⟨σ1, ?_, a2⟩
  simp (disch := first | assumption | omega) only [f_X10_spaceBy, a1, zz_mdo hW hm, zz_ra hW hm, h1, zz_some, zz_lit, zz_num, zI_lt, zI_le, zI_eq, zI_nat, zz_b, if_pos, if_neg, if_true, if_false]
  rw [e10_spaceBy_L hW hm (a2.n.trans h1) hn a3 hs0 hs1 hu0 hu1 (n 0).toNat _ _ _ (by omega) (by omega) (by unfold g_N; omega)]
  simp [nSp]
/-! what it writes -/
theorem e10_lays (hW : zWF E) (hm : zU E 3 0 = true) (n : zN) {b kind se v k : Int} (h0 : 0 ≤ b) (h2 : b < 96) : f_X10_lays (zH E (zw σ n)) (zL E 3 0 0) (zI b) (zI kind) (zI se) (zI v) (zI k) = some (zH E (zw σ (nLay n b kind se v k))) := by
  simp (disch := first | assumption | omega) only [f_X10_lays, zz_mdo hW hm, zz_ra hW hm, zs_zw, zz_some, zz_lit, zz_num, zI_lt, zI_le, zI_eq, zI_nat, zz_b, if_pos, if_neg, if_true, if_false]
  rfl
theorem e10_tks (hW : zWF E) (hm : zU E 3 0 = true) {kind se v k b : Int} (hb0 : 0 ≤ b) (hb1 : b < 96) : ∀ (m fuel : Nat) (n : zN) (s : Int), 0 ≤ s → s + m ≤ 96 → (∀ c, 0 ≤ c → c < 96 → (0 ≤ n (7 + c) ∧ n (7 + c) ≤ 3) ∧ (n (103 + c) = 0 ∨ n (103 + c) = 1)) → (∃ g, s ≤ g ∧ g < s + m ∧ n (7 + g) = 0 ∧ n (103 + g) = 0) → m < fuel → f_X10_writesBlock_L59 fuel (zH E (zw σ n)) (zL E 3 0 0) (zI kind) (zI se) (zI v) (zI k) (zI b) (zI s) = some (zH E (zw σ (zu (zu (nLay (nTks n se s m).1 (nTks n se s m).2 kind se v k) (583 + (nTks n se s m).2) (b + 1)) (679 + b) ((nTks n se s m).2 + 1)))) := by
  intro m
  induction m with
  | zero =>
    intro fuel n s h0 h2 hr hg h3
    obtain ⟨g, g1, g2, g3⟩ := hg
    omega
  | succ m ih =>
    intro fuel n s h0 h2 hr hg h3
    obtain ⟨f, rfl, h4⟩ := zfuel h3
    have hs := hr s h0 (by omega)
    by_cases hk0 : n (7 + s) = 0
    · by_cases hb0' : n (103 + s) = 0
      · have e : nTks n se s (m + 1) = (n, s) := by rw [nTks, if_pos hk0, if_pos hb0']
        rw [e]
        simp (disch := first | assumption | omega) only [f_X10_writesBlock_L59, zz_mdo hW hm, zz_ra hW hm, zw_at, hk0, hb0', e10_lays hW hm, zs_zw, zz_some, zz_lit, zz_num, zI_lt, zI_le, zI_eq, zI_nat, zz_b, if_pos, if_neg, if_true, if_false]
      · have hb1' : n (103 + s) = 1 := by omega
        have e : nTks n se s (m + 1) = nTks (nLay n s 3 se (-1) (-1)) se (s + 1) m := by rw [nTks, if_pos hk0, if_neg hb0']
        rw [e, ← ih f (nLay n s 3 se (-1) (-1)) (s + 1) (by omega) (by omega) (fun c c0 c1 => by
          have hl := nLay_at n (b := s) (kind := 3) (se := se) (v := -1) (k := -1) h0 (by omega) c0 c1
          rw [hl.1, nLay_out n h0 (by omega) (by omega)]
          have := hr c c0 c1
          refine ⟨?_, this.2⟩
          split <;> omega) (by
          obtain ⟨g, g1, g2, g3, g4⟩ := hg
          have hgs : g ≠ s := by
            intro z
            subst z
            omega
          have hl := nLay_at n (b := s) (kind := 3) (se := se) (v := -1) (k := -1) h0 (by omega) (c := g) (by omega) (by omega)
          exact ⟨g, by omega, by omega, by rw [hl.1, if_neg hgs]; exact g3, by rw [nLay_out n h0 (by omega) (by omega)]; exact g4⟩) (by omega)]
        simp (disch := first | assumption | omega) only [f_X10_writesBlock_L59, f_X10_writesBlock_J86, zz_mdo hW hm, zz_ra hW hm, zw_at, hk0, hb1', e10_lays hW hm, zz_some, zz_lit, zz_num, zI_lt, zI_le, zI_eq, zI_nat, zz_b, if_pos, if_neg, if_true, if_false]
    · have e : nTks n se s (m + 1) = nTks n se (s + 1) m := by rw [nTks, if_neg hk0]
      rw [e, ← ih f n (s + 1) (by omega) (by omega) hr (by
        obtain ⟨g, g1, g2, g3, g4⟩ := hg
        have hgs : g ≠ s := by
          intro z
          subst z
          omega
        exact ⟨g, by omega, by omega, g3, g4⟩) (by omega)]
      simp (disch := first | assumption | omega) only [f_X10_writesBlock_L59, f_X10_writesBlock_J86, zz_mdo hW hm, zz_ra hW hm, zw_at, zz_some, zz_lit, zz_num, zI_lt, zI_le, zI_eq, zI_nat, zz_b, if_pos, if_neg, if_true, if_false]
theorem e10_writesBlock (hW : zWF E) (hm : zU E 3 0 = true) {n : zN} (hN : nWn n) (hB : nWb n) {kind se v k : Int} (hr : n 4 < n 0 - n 1) (hg : n (103 + n 4) = 1 → 1 ≤ nGc n) : f_X10_writesBlock (zH E (zw σ n)) (zL E 3 0 0) (zI kind) (zI se) (zI v) (zI k) = some (zH E (zw σ (nWrB n kind se v k))) := by
  have hN' := hN.r
  have hb := hB (n 4) (by omega) (by omega)
  have ho : ∀ i : Int, i ≠ 4 → zu n 4 (n 4 + 1) i = n i := fun i hi => zu_ne hi
  have ho0 := ho 0 (by omega)
  have ho1 := ho 1 (by omega)
  have hob := ho (103 + n 4) (by omega)
  unfold nWrB
  by_cases hz : n (103 + n 4) = 0
  · rw [if_pos hz]
    simp (disch := first | assumption | omega) only [f_X10_writesBlock, zz_mdo hW hm, zz_ra hW hm, zw_at, zs_zw, hob, hz, e10_lays hW hm, zz_some, zz_lit, zz_num, zI_lt, zI_le, zI_eq, zI_nat, zz_b, if_pos, if_neg, if_true, if_false]
  · have hz1 : n (103 + n 4) = 1 := by omega
    rw [if_neg hz]
    obtain ⟨g, g1, g2, g3⟩ := zcn_ex _ _ (hg hz1)
    simp only [Bool.and_eq_true, decide_eq_true_eq] at g3
    obtain ⟨n2, hn2⟩ : ∃ x, x = nLay (zu n 4 (n 4 + 1)) (n 4) 3 se (-1) (-1) := ⟨_, rfl⟩
    have hl := fun (c : Int) (h0 : 0 ≤ c) (h1 : c < 96) => nLay_at (zu n 4 (n 4 + 1)) (b := n 4) (kind := 3) (se := se) (v := -1) (k := -1) (by omega) (by omega) h0 h1
    have hlo : ∀ i : Int, i < 7 ∨ (103 ≤ i ∧ i < 295) ∨ 583 ≤ i → n2 i = zu n 4 (n 4 + 1) i := fun i hi => by rw [hn2]; exact nLay_out _ (by omega) (by omega) hi
    rw [← hn2] at hl ⊢
    have hm0 : f_X10_mainMany (zH E (zw σ n2)) (zL E 3 0 0) = some (zI (n 0 - n 1)) := by
      have q0 : n2 0 = n 0 := by rw [hlo 0 (by omega), ho 0 (by omega)]
      have q1 : n2 1 = n 1 := by rw [hlo 1 (by omega), ho 1 (by omega)]
      simp (disch := first | assumption | omega) only [f_X10_mainMany, zz_mdo hW hm, zz_ra hW hm, zw_at, q0, q1, zz_some, zz_lit, zz_num, zI_lt, zI_le, zI_eq, zI_nat, zz_b, if_pos, if_neg, if_true, if_false]
    rw [← e10_tks hW hm (b := n 4) (by omega) (by omega) (n 1).toNat g_N n2 (n 0 - n 1) (by omega) (by omega) (fun c c0 c1 => by
      have hbc := hB c c0 c1
      rw [(hl c c0 c1).1, hlo _ (by omega), ho _ (by omega), ho _ (by omega)]
      refine ⟨?_, hbc.2.1⟩
      split <;> omega) ⟨g, by omega, by omega, by rw [(hl g (by omega) (by omega)).1, if_neg (by omega), ho _ (by omega)]; exact g3.1, by rw [hlo _ (by omega), ho _ (by omega)]; exact g3.2⟩ (by unfold g_N; omega)]
    simp (disch := first | assumption | omega) only [f_X10_writesBlock, zz_mdo hW hm, zz_ra hW hm, zw_at, zs_zw, hob, hz1, e10_lays hW hm, zz_some, zz_lit, zz_num, zI_lt, zI_le, zI_eq, zI_nat, zz_b, if_pos, if_neg, if_true, if_false]
    rw [← hn2]
    simp (disch := first | assumption | omega) only [zz_mdo hW hm, hm0, zz_some, zz_lit, zz_num, zI_lt, zI_le, zI_eq, zI_nat, zz_b, if_pos, if_neg, if_true, if_false]
theorem e10_sets (hW : zWF E) (hm : zU E 3 0 = true) (n : zN) {s w x : Int} (h0 : 0 ≤ s) (h2 : s < 12) (h3 : 0 ≤ w) (h4 : w < 25) : f_X10_sets (zH E (zw σ n)) (zL E 3 0 0) (zI s) (zI w) (zI x) = some (zH E (zw σ (zus n s w x))) := by
  simp (disch := first | assumption | omega) only [f_X10_sets, zz_mdo hW hm, zz_ra hW hm, zs_zw, zz_some, zz_lit, zz_num, zI_lt, zI_le, zI_eq, zI_nat, zz_b, if_pos, if_neg, if_true, if_false]
  rfl
end zMod
end
section
/-! The reference: its changes. -/
/-- the first k numbers of a new session are set to 0 -/
def nB0 (n : zN) (k : Int) : zN := fun i => if i = 3 then n 3 + 1 else if 1255 + 25 * n 3 ≤ i ∧ i < 1255 + 25 * n 3 + k then 0 else n i
theorem nB0_0 (n : zN) : nB0 n 0 = zu n 3 (n 3 + 1) := by
  funext i
  unfold nB0 zu
  by_cases h : i = 3
  · rw [if_pos h, if_pos h]
  · rw [if_neg h, if_neg h, if_neg (by omega)]
theorem nB0_s (n : zN) {k : Int} (h3 : 0 ≤ n 3) (hk : 0 ≤ k) : zus (nB0 n k) (n 3) k 0 = nB0 n (k + 1) := by
  funext i
  unfold zus zu nB0
  by_cases h : i = 3
  · subst h
    rw [if_neg (by omega), if_pos rfl, if_pos rfl]
  · by_cases h2 : i = 1255 + 25 * n 3 + k
    · rw [if_pos h2, if_neg h, if_pos (by omega)]
    · rw [if_neg h2, if_neg h, if_neg h]
      by_cases h4 : 1255 + 25 * n 3 ≤ i ∧ i < 1255 + 25 * n 3 + k
      · rw [if_pos h4, if_pos (by omega)]
      · rw [if_neg h4, if_neg (by omega)]
theorem nB0_25 (n : zN) (h3 : 0 ≤ n 3) : zus (nB0 n 25) (n 3) 1 (n 4) = nBg n := by
  funext i
  unfold zus zu nB0 nBg
  by_cases h : i = 3
  · subst h
    rw [if_neg (by omega), if_pos rfl, if_pos rfl]
  · by_cases h2 : i = 1256 + 25 * n 3
    · rw [if_pos (by omega), if_neg h, if_pos h2]
    · rw [if_neg (by omega), if_neg h, if_neg h, if_neg h2]
      by_cases h4 : 1255 + 25 * n 3 ≤ i ∧ i < 1280 + 25 * n 3
      · rw [if_pos (by omega), if_pos h4]
      · rw [if_neg (by omega), if_neg h4]
section zMod
variable {E : zE} {σ : zW}
theorem e10_begins_L (hW : zWF E) (hm : zU E 3 0 = true) (n : zN) (h3 : 0 ≤ n 3) (h12 : n 3 < 12) : ∀ (m fuel : Nat) (k : Int), 0 ≤ k → k + m = 25 → m < fuel → f_X10_begins_L19 fuel (zH E (zw σ (nB0 n k))) (zL E 3 0 0) (zI (n 3)) (zI k) = some (zH E (zw σ (nBg n)), zI (n 3)) := by
  intro m
  induction m with
  | zero =>
    intro fuel k h0 h1 h2
    obtain ⟨f, rfl, h4⟩ := zfuel h2
    have hk : k = 25 := by omega
    subst hk
    have q4 : nB0 n 25 4 = n 4 := by unfold nB0; rw [if_neg (by omega), if_neg (by omega)]
    simp (disch := first | assumption | omega) only [f_X10_begins_L19, q4, e10_sets hW hm, zz_mdo hW hm, zz_ra hW hm, zw_at, zz_some, zz_lit, zz_num, zI_lt, zI_le, zI_eq, zI_nat, zz_b, if_pos, if_neg, if_true, if_false]
    rw [nB0_25 n h3]
  | succ m ih =>
    intro fuel k h0 h1 h2
    obtain ⟨f, rfl, h4⟩ := zfuel h2
    simp (disch := first | assumption | omega) only [f_X10_begins_L19, e10_sets hW hm, zz_mdo hW hm, zz_ra hW hm, zw_at, zz_some, zz_lit, zz_num, zI_lt, zI_le, zI_eq, zI_nat, zz_b, if_pos, if_neg, if_true, if_false]
    rw [nB0_s n h3 h0]
    exact ih f (k + 1) (by omega) (by omega) (by omega)
theorem e10_begins (hW : zWF E) (hm : zU E 3 0 = true) (n : zN) (h3 : 0 ≤ n 3) (h12 : n 3 < 12) : f_X10_begins (zH E (zw σ n)) (zL E 3 0 0) = some (zH E (zw σ (nBg n)), zI (n 3)) := by
  simp (disch := first | assumption | omega) only [f_X10_begins, zs_zw, zz_mdo hW hm, zz_ra hW hm, zw_at, zz_some, zz_lit, zz_num, zI_lt, zI_le, zI_eq, zI_nat, zz_b, if_pos, if_neg, if_true, if_false]
  rw [← nB0_0]
  exact e10_begins_L hW hm n h3 h12 25 g_N 0 (by omega) (by omega) (by unfold g_N; omega)
theorem e10_enters_J18 (hW : zWF E) (hm : zU E 3 0 = true) {n : zN} (hN : nWn n) (hZ : nWs n) (hop : nOp n = true) {f v : Int} (hf0 : 0 ≤ f) (hf1 : f < n 2) : f_X10_enters_J18 (zH E (zw σ n)) (zL E 3 0 0) (zI f) (zI v) (zI (nLa n)) = some (zH E (zw σ (nE1 n f v))) := by
  have hN' := hN.r
  obtain ⟨h3, hst⟩ := nOp_iff.mp hop
  have hla : nLa n = n 3 - 1 := rfl
  have hs := hZ (nLa n) h3 (by omega)
  have hent := hZ.ent hN h3 (by omega : nLa n < n 3)
  have hE := nEn_rng n (nLa n) f
  have hk9 : nEn n (nLa n) f = -1 → nS n (nLa n) 2 ≤ n 2 - 1 := by
    intro h
    have h5 := zcn_one (P := fun g => decide (nEn n (nLa n) g ≠ -1)) (Q := fun g => decide (nEn n (nLa n) g ≠ -1) || decide (g = f)) (j := f) (n 2).toNat 0 hf0 (by omega) (by simp [h]) (by simp) (fun g hg _ _ => by simp [hg])
    have h6 := (zcn_rng (fun g => decide (nEn n (nLa n) g ≠ -1) || decide (g = f)) (n 2).toNat 0).2
    have h7 := hs.2.2.2.1.2
    omega
  have heo := e10_entryOf (σ := zw σ n) hW hm zw_at hN hZ h3 (by omega : nLa n < n 3) (by omega : -1 ≤ f) (by omega : f < 100)
  have ho2 := e10_of (σ := zw σ n) hW hm zw_at (s := nLa n) (w := 2) h3 (by omega) (by omega) (by omega)
  unfold nE1
  by_cases h : nEn n (nLa n) f = -1
  · have h9 := hk9 h
    rw [if_pos h]
    rw [h] at heo
    simp (disch := first | assumption | omega) only [f_X10_enters_J18, f_X10_enters_J51, heo, ho2, e10_sets hW hm, zz_mdo hW hm, zz_ra hW hm, zw_at, zz_some, zz_lit, zz_num, zI_lt, zI_le, zI_eq, zI_nat, zz_b, if_pos, if_neg, if_true, if_false]
    rw [show 5 + 2 * nS n (nLa n) 2 + 1 = 6 + 2 * nS n (nLa n) 2 by omega]
  · rw [if_neg h]
    simp (disch := first | assumption | omega) only [f_X10_enters_J18, f_X10_enters_J51, heo, e10_sets hW hm, zz_mdo hW hm, zz_ra hW hm, zw_at, zz_some, zz_lit, zz_num, zI_lt, zI_le, zI_eq, zI_nat, zz_b, if_pos, if_neg, if_true, if_false]
    rw [show 5 + 2 * nEn n (nLa n) f + 1 = 6 + 2 * nEn n (nLa n) f by omega]
theorem e10_enters (hW : zWF E) (hm : zU E 3 0 = true) {n : zN} (hn : nW n) (hT : nTm n = false) {f v : Int} (hf0 : 0 ≤ f) (hf1 : f < n 2) : f_X10_enters (zH E (zw σ n)) (zL E 3 0 0) (zI f) (zI v) = some (zH E (zw σ (nE1 (nBi n) f v))) := by
  have hN' := hn.1.r
  have ho := e10_isOpen (σ := zw σ n) hW hm zw_at hn.1 hn.2.2.2
  have hl := e10_latest (σ := zw σ n) hW hm zw_at
  unfold nBi
  cases hop : nOp n
  · rw [if_neg (by simp)]
    rw [hop] at ho
    have h12 := nTm_f hn hT hop
    obtain ⟨b1, b2, b3⟩ := nBg_W hn hop h12
    have hJ := e10_enters_J18 (σ := σ) hW hm b1.1 b1.2.2.2 b2 (f := f) (v := v) hf0 (by rw [nBg_lo (by omega) (by omega) (by omega)]; exact hf1)
    rw [b3] at hJ
    simp (disch := first | assumption | omega) only [f_X10_enters, ho, e10_begins hW hm, hJ, zz_mdo hW hm, zz_ra hW hm, zw_at, zz_some, zz_lit, zz_num, zI_lt, zI_le, zI_eq, zI_nat, zz_b, if_pos, if_neg, if_true, if_false]
  · rw [if_pos rfl]
    rw [hop] at ho
    have hJ := e10_enters_J18 (σ := σ) hW hm hn.1 hn.2.2.2 hop (f := f) (v := v) hf0 hf1
    simp (disch := first | assumption | omega) only [f_X10_enters, ho, hl, hJ, Bool.true_eq_false, zz_mdo hW hm, zz_ra hW hm, zw_at, zz_some, zz_lit, zz_num, zI_lt, zI_le, zI_eq, zI_nat, zz_b, if_pos, if_neg, if_true, if_false]
theorem e10_wl (kind se v : Int) (hk : kind = 1 ∨ kind = 2) (hse0 : 0 ≤ se) (hv0 : -1 ≤ v) (hkv : kind = 1 → 0 ≤ v) (hW : zWF E) (hm : zU E 3 0 = true) : ∀ (m : Nat) (nb : zN) (k : Int), nWn nb → nWb nb → nb 4 + m ≤ nb 0 - nb 1 → nBc nb m ≤ nGc nb → se < nb 3 → v < nb 6 → 0 ≤ k → k + m ≤ 8 →
    ∀ (β : Type) (st : Nat → gH → Int32 → Option β) (len : Int), len = k + m → (∀ (f : Nat) (τ : zN) (x : Int), x < len → 0 ≤ x → x < 100 → τ 3 = nb 3 → st (f + 1) (zH E (zw σ τ)) (zI x) = (f_X10_writesBlock (zH E (zw σ τ)) (zL E 3 0 0) (zI kind) (zI se) (zI v) (zI x)).bind fun G2 => st f G2 (zI (x + 1))) → ∀ fuel, m < fuel → st fuel (zH E (zw σ nb)) (zI k) = st (fuel - m) (zH E (zw σ (nWl kind se v nb k m))) (zI len) := by
  intro m
  induction m with
  | zero =>
    intro nb k _ _ _ _ _ _ _ _ β st len hlen hst fuel hf
    rw [hlen, Nat.sub_zero, show k + ((0 : Nat) : Int) = k by omega]
    rfl
  | succ m ih =>
    intro nb k hN hB hr hc h1 h2 h3 h4 β st len hlen hst fuel hf
    have hN' := hN.r
    have hb := hB (nb 4) (by omega) (by omega)
    have hcc : nBc nb (m + 1) = zb (decide (nb (103 + nb 4) = 1)) + zcn (fun b => decide (nb (103 + b) = 1)) (nb 4 + 1) m := rfl
    have hz := zcn_rng (fun b => decide (nb (103 + b) = 1)) m (nb 4 + 1)
    have hg : nb (103 + nb 4) = 1 → 1 ≤ nGc nb := fun z => by rw [zb_dpos z] at hcc; omega
    obtain ⟨a1, a2, a3, a4, a5⟩ := nWrB_W hN hB (kind := kind) (se := se) (v := v) (k := k) (by omega) hg hk hse0 h1 hv0 h2 hkv h3 (by omega)
    have g1 := e10_writesBlock (σ := σ) hW hm hN hB (kind := kind) (se := se) (v := v) (k := k) (by omega) hg
    have e0 := a5 0 (by omega) (by omega)
    have e1 := a5 1 (by omega) (by omega)
    have e3 := a5 3 (by omega) (by omega)
    have e6 := a5 6 (by omega) (by omega)
    have hb' : nBc (nWrB nb kind se v k) m = zcn (fun b => decide (nb (103 + b) = 1)) (nb 4 + 1) m := by
      unfold nBc
      rw [a4]
      exact zcn_congr _ _ (fun c c0 c1 => by rw [a5 (103 + c) (by omega) (by omega)])
    obtain ⟨f, rfl, hf2⟩ := zfuel hf
    have q1 := ih (nWrB nb kind se v k) (k + 1) a1 a2 (by rw [a4, e0, e1]; omega) (by rw [hb', a3]; omega) (by omega) (by omega) (by omega) (by omega) β st len (by omega) (fun f τ x a b c d => hst f τ x a b c (by rw [d, e3])) f (by omega)
    rw [hst f nb k (by omega) h3 (by omega) rfl, g1, zz_some, q1, show f + 1 - (m + 1) = f - m by omega]
    rfl
theorem e10_closedBefore_L (hW : zWF E) (hm : zU E 3 0 = true) {n : zN} (hN : nWn n) (hS : ∀ s, 0 ≤ s → s < n 3 → 0 ≤ nS n s 0 ∧ nS n s 0 ≤ 3) : ∀ (m fuel : Nat), (m : Int) ≤ n 3 → m < fuel → f_X10_closedBefore_L4 (zH E (zw σ n)) fuel (zL E 3 0 0) (zI ((m : Int) - 1)) = some (zI (zls (fun t => decide (nS n t 0 = 1)) m)) := by
  have hN' := hN.r
  intro m
  induction m with
  | zero =>
    intro fuel h2 h4
    obtain ⟨f, rfl, h5⟩ := zfuel h4
    simp (disch := first | assumption | omega) only [f_X10_closedBefore_L4, zls, zz_mdo hW hm, zz_ra hW hm, zw_at, zz_some, zz_lit, zz_num, zI_lt, zI_le, zI_eq, zI_nat, zz_b, if_pos, if_neg, if_true, if_false]
    rfl
  | succ m ih =>
    intro fuel h2 h4
    obtain ⟨f, rfl, h5⟩ := zfuel h4
    have hs := hS m (by omega) (by omega)
    have ho := e10_of (σ := zw σ n) hW hm zw_at (s := m) (w := 0) (by omega) (by omega) (by omega) (by omega)
    rw [show (((m + 1 : Nat) : Int) - 1) = (m : Int) by omega]
    have i1 := ih f (by omega) (by omega)
    rw [show (m : Int) - 1 = (m : Int) + -1 by omega] at i1
    simp (disch := first | assumption | omega) only [f_X10_closedBefore_L4, ho, zls, i1, zz_mdo hW hm, zz_ra hW hm, zw_at, zz_some, zz_lit, zz_num, zI_lt, zI_le, zI_eq, zI_nat, zz_b, if_pos, if_neg, if_true, if_false]
    by_cases h : nS n m 0 = 1
    · simp [h]
    · simp [h]
theorem e10_closesOpen (hW : zWF E) (hm : zU E 3 0 = true) {n : zN} (hn : nW n) (h : nWc n = 0) : f_X10_closesOpen (zH E (zw σ n)) (zL E 3 0 0) = some (zH E (zw σ (nCl n))) := by
  have hN' := hn.1.r
  obtain ⟨⟨x1, x2, x3, x4, x5, x6⟩, w2, w3, w4, w5⟩ := nCl_W hn h
  obtain ⟨hop, hd⟩ := nWc_0 h
  obtain ⟨h3, hst⟩ := nOp_iff.mp hop
  have hla : nLa n = n 3 - 1 := rfl
  have hent := hn.2.2.2.ent hn.1 h3 (by omega : nLa n < n 3)
  obtain ⟨D, hDe⟩ : ∃ D, D = nDl (nS n (nLa n) 2) := ⟨_, rfl⟩
  have hz : ∀ G : gH, f_X10_directoryLong G (zI (nS n (nLa n) 2)) = some (zI D) := fun G => by rw [e10_dirLong hent.1 (by omega), hDe]
  have hcl : nCl n = zus (nWl 2 (nLa n) (-1) (nCl0 n) 0 D.toNat) (nLa n) 0 1 := by unfold nCl; rw [← hDe]
  rw [← hDe] at x4 x5 x6
  have e0 := x3
  have hbc : nBc (nCl0 n) D.toNat ≤ nGc (nCl0 n) := by
    rw [nBc_ag (fun i _ hi => e0 i (by omega)) (e0 4 (by omega)) (by omega) (by omega), nGc_ag (fun i _ hi => e0 i (by omega)) (e0 0 (by omega)) (e0 1 (by omega)) hn.1]
    exact x4
  obtain ⟨n1, hn1⟩ : ∃ x, x = zus n (nLa n) 3 (n 4 + 1) := ⟨_, rfl⟩
  have hl := e10_latest (σ := zw σ n) hW hm zw_at
  have ho2 := e10_of (σ := zw σ n) hW hm zw_at (s := nLa n) (w := 2) h3 (by omega) (by omega) (by omega)
  have e1 : ∀ i, i < 1255 → n1 i = n i := fun i hi => by rw [hn1]; exact zus_lo h3 (by omega) hi
  have s1 : ∀ s, nS n1 s 0 = nS n s 0 := fun s => by rw [hn1, nS_zus (by omega) (by omega) (by omega) (by omega), if_neg (by omega)]
  have hcb := e10_closedBefore_L (σ := σ) (n := n1) hW hm (by unfold nWn; rw [e1 0 (by omega), e1 1 (by omega), e1 2 (by omega), e1 3 (by omega), e1 4 (by omega), e1 5 (by omega), e1 6 (by omega)]; exact hn.1) (fun s s0 s1' => by rw [s1]; rw [e1 3 (by omega)] at s1'; exact (hn.2.2.2 s s0 s1').1) (nLa n).toNat g_N (by rw [e1 3 (by omega)]; omega) (by unfold g_N; omega)
  rw [zls_congr (Q := fun t => decide (nS n t 0 = 1)) _ (fun t _ _ => by rw [s1])] at hcb
  rw [show (((nLa n).toNat : Nat) : Int) - 1 = nLa n - 1 by omega] at hcb
  have hq := e10_wl (σ := σ) 2 (nLa n) (-1) (Or.inr rfl) h3 (by omega) (fun z => by omega) hW hm D.toNat (nCl0 n) 0 x1 x2 (by rw [e0 4 (by omega), e0 0 (by omega), e0 1 (by omega)]; omega) hbc (by rw [e0 3 (by omega)]; omega) (by rw [e0 6 (by omega)]; omega) (by omega) (by omega) gH (fun fuel G x => f_X10_closesOpen_L44 fuel G (zL E 3 0 0) (zI (nLa n)) (zI D) x) D (by omega) (fun f τ x hx hx0 hx1 _ => by
    simp (disch := first | assumption | omega) only [f_X10_closesOpen_L44, zz_mdo hW hm, zz_ra hW hm, zw_at, zz_some, zz_lit, zz_num, zI_lt, zI_le, zI_eq, zI_nat, zz_b, if_pos, if_neg, if_true, if_false]) g_N (by unfold g_N; omega)
  obtain ⟨fu, hfu⟩ : ∃ fu, g_N - D.toNat = fu + 1 := ⟨g_N - D.toNat - 1, by unfold g_N; omega⟩
  rw [hfu] at hq
  have hc0 : zus n1 (nLa n) 4 (zls (fun t => decide (nS n t 0 = 1)) (nLa n).toNat + 1) = nCl0 n := by rw [hn1]; rfl
  simp (disch := first | assumption | omega) only [f_X10_closesOpen, hl, ho2, hz, e10_sets hW hm, zz_mdo hW hm, zz_ra hW hm, zw_at, zz_some, zz_lit, zz_num, zI_lt, zI_le, zI_eq, zI_nat, zz_b, if_pos, if_neg, if_true, if_false]
  rw [← hn1]
  simp (disch := first | assumption | omega) only [f_X10_closedBefore, hcb, e10_sets hW hm, zz_mdo hW hm, zz_ra hW hm, zw_at, zz_some, zz_lit, zz_num, zI_lt, zI_le, zI_eq, zI_nat, zz_b, if_pos, if_neg, if_true, if_false]
  rw [hc0]
  refine Eq.trans hq ?_
  rw [hcl]
  simp (disch := first | assumption | omega) only [f_X10_closesOpen_L44, e10_sets hW hm, zz_mdo hW hm, zz_ra hW hm, zw_at, zz_some, zz_lit, zz_num, zI_lt, zI_le, zI_eq, zI_nat, zz_b, if_pos, if_neg, if_true, if_false]
end zMod
end
section
/-! The reference: writing a version, recovering, copying rows. -/
theorem nE1_hi {n n' : zN} (h3 : n' 3 = n 3) (h : ∀ i, 1255 ≤ i → n' i = n i) (hla : 0 ≤ nLa n) (he : 0 ≤ nS n (nLa n) 2) (f v : Int) : ∀ i, 1255 ≤ i → nE1 n' f v i = nE1 n f v i := by
  intro i hi
  have hl : nLa n' = nLa n := nLa_lo h3
  have hS : ∀ w, 0 ≤ w → nS n' (nLa n) w = nS n (nLa n) w := fun w w0 => h _ (by omega)
  have hE : nEn n' (nLa n) f = nEn n (nLa n) f := nEn_cg h hla
  unfold nE1
  rw [hl, hE, hS 2 (by omega)]
  unfold zus zu
  split
  · dsimp only
    split
    · rfl
    · split
      · rfl
      · split
        · rfl
        · exact h i hi
  · dsimp only
    split
    · rfl
    · split
      · rfl
      · exact h i hi
theorem nWl_ag {kind se v : Int} : ∀ (m : Nat) (n n' : zN) (k : Int), nWn n → nWb n → n 4 + m ≤ n 0 - n 1 → nBc n m ≤ nGc n → (kind = 1 ∨ kind = 2) → 0 ≤ se → se < n 3 → -1 ≤ v → v < n 6 → (kind = 1 → 0 ≤ v) → 0 ≤ k → k + m ≤ 8 → zAg n n' → zAg (nWl kind se v n k m) (nWl kind se v n' k m) := by
  intro m
  induction m with
  | zero => intro n n' k _ _ _ _ _ _ _ _ _ _ _ _ h; exact h
  | succ m ih =>
    intro n n' k hN hB hr hc hk h0 h1 h2 h3 h4 h5 h6 h
    have hN' := hN.r
    have hb := hB (n 4) (by omega) (by omega)
    have hcc : nBc n (m + 1) = zb (decide (n (103 + n 4) = 1)) + zcn (fun b => decide (n (103 + b) = 1)) (n 4 + 1) m := rfl
    have hz := zcn_rng (fun b => decide (n (103 + b) = 1)) m (n 4 + 1)
    obtain ⟨a1, a2, a3, a4, a5⟩ := nWrB_W hN hB (kind := kind) (se := se) (v := v) (k := k) (by omega) (fun z => by rw [zb_dpos z] at hcc; omega) hk h0 h1 h2 h3 h4 (by omega) (by omega)
    have e0 := a5 0 (by omega) (by omega)
    have e1 := a5 1 (by omega) (by omega)
    have e3 := a5 3 (by omega) (by omega)
    have e6 := a5 6 (by omega) (by omega)
    have hb' : nBc (nWrB n kind se v k) m = zcn (fun b => decide (n (103 + b) = 1)) (n 4 + 1) m := by
      unfold nBc
      rw [a4]
      exact zcn_congr _ _ (fun c c0 c1 => by rw [a5 (103 + c) (by omega) (by omega)])
    exact ih _ _ (k + 1) a1 a2 (by rw [a4, e0, e1]; omega) (by rw [hb', a3]; omega) hk h0 (by omega) h2 (by omega) h4 (by omega) (by omega) (nWrB_ag h hN kind se v k)
section zMod
variable {E : zE} {σ : zW}
theorem e10_enters0 (hW : zWF E) (hm : zU E 3 0 = true) {n : zN} (hN : nWn n) (hZ : nWs n) (h12 : nOp n = false → n 3 < 12) (hN2 : nWn (nBi n)) (hZ2 : nWs (nBi n)) (hop2 : nOp (nBi n) = true) {f v : Int} (hf0 : 0 ≤ f) (hf1 : f < n 2) : f_X10_enters (zH E (zw σ n)) (zL E 3 0 0) (zI f) (zI v) = some (zH E (zw σ (nE1 (nBi n) f v))) := by
  have hN' := hN.r
  have ho := e10_isOpen (σ := zw σ n) hW hm zw_at hN hZ
  have hl := e10_latest (σ := zw σ n) hW hm zw_at
  have h2 : nBi n 2 = n 2 := nBi_lo (by omega) (by omega) (by omega)
  have hJ := e10_enters_J18 (σ := σ) hW hm hN2 hZ2 hop2 (f := f) (v := v) hf0 (by rw [h2]; exact hf1)
  unfold nBi at hJ ⊢
  cases hop : nOp n
  · rw [hop, if_neg (by simp)] at hJ
    rw [if_neg (by simp)]
    rw [hop] at ho
    have hla : nLa (nBg n) = n 3 := by unfold nLa; rw [nBg_3]; omega
    rw [hla] at hJ
    have h12' := h12 hop
    simp (disch := first | assumption | omega) only [f_X10_enters, ho, e10_begins hW hm, hJ, zz_mdo hW hm, zz_ra hW hm, zw_at, zz_some, zz_lit, zz_num, zI_lt, zI_le, zI_eq, zI_nat, zz_b, if_pos, if_neg, if_true, if_false]
  · rw [hop, if_pos rfl] at hJ
    rw [if_pos rfl]
    rw [hop] at ho
    simp (disch := first | assumption | omega) only [f_X10_enters, ho, hl, hJ, Bool.true_eq_false, zz_mdo hW hm, zz_ra hW hm, zw_at, zz_some, zz_lit, zz_num, zI_lt, zI_le, zI_eq, zI_nat, zz_b, if_pos, if_neg, if_true, if_false]
theorem nBi_6 {n : zN} (x : Int) (h3 : 0 ≤ n 3) : nBi (zu n 6 x) = zu (nBi n) 6 x := by
  have ho : nOp (zu n 6 x) = nOp n := by
    unfold nOp nLa nS
    rw [zu_ne (by omega)]
    by_cases h : 0 ≤ n 3 - 1
    · rw [zu_ne (by omega)]
    · rw [decide_eq_false h]; rfl
  unfold nBi
  rw [ho]
  split
  · rfl
  · funext i
    have e3 : zu n 6 x 3 = n 3 := zu_ne (by omega)
    have e4 : zu n 6 x 4 = n 4 := zu_ne (by omega)
    unfold nBg
    rw [e3, e4]
    by_cases h6 : i = 6
    · subst h6
      rw [if_neg (by omega), if_neg (by omega), if_neg (by omega), zu_eq rfl, zu_eq rfl]
    · rw [zu_ne h6, zu_ne h6]
theorem e10_writes (hW : zWF E) (hm : zU E 3 0 = true) {n : zN} (hn : nW n) {f m tag : Int} (hf0 : 0 ≤ f) (hf1 : f < n 2) (hm0 : 1 ≤ m) (hm1 : m ≤ 8) (ht0 : 0 ≤ tag) (ht1 : tag ≤ 999) (h : nWw n f m = 0) : f_X10_writes (zH E (zw σ n)) (zL E 3 0 0) (zI f) (zI m) (zI tag) = some (zH E (zw σ (nWrs n f m tag)), zI (n 6)) := by
  have hN' := hn.1.r
  obtain ⟨b1, b2, ⟨a1, a2, a3, a4, a5, a6⟩, w3, w4⟩ := nWrs_W hn hf0 hf1 hm0 hm1 ht0 ht1 h
  obtain ⟨hT, hroom, hsp⟩ := nWw_0 h
  have hDl := nDl_rng (nEw_rng hn f).1 (by have := (nEw_rng hn f).2; omega)
  have hver := hn.2.2.1.1
  obtain ⟨l0, lst⟩ := nOp_iff.mp b2
  have hla : nLa (nBi n) = nBi n 3 - 1 := rfl
  have hN1 := b1.1.r
  have e1 : ∀ i, i < 1255 → i ≠ 3 → nBi n i = n i := fun i hi h3 => nBi_lo (by omega) hi h3
  have hv6 : nBi n 6 = n 6 := e1 6 (by omega) (by omega)
  have hv4 : nBi n 4 = n 4 := e1 4 (by omega) (by omega)
  -- the row with one version more
  obtain ⟨na, hna⟩ : ∃ x, x = zu n 6 (n 6 + 1) := ⟨_, rfl⟩
  have ea : ∀ i, i ≠ 6 → na i = n i := fun i hi => by rw [hna]; exact zu_ne hi
  have ea6 : na 6 = n 6 + 1 := by rw [hna]; exact zu_eq rfl
  have hBa : nBi na = zu (nBi n) 6 (n 6 + 1) := by rw [hna]; exact nBi_6 _ (by omega)
  obtain ⟨nb, hnb⟩ : ∃ x, x = zu (nBi n) 6 (n 6 + 1) := ⟨_, rfl⟩
  have eb : ∀ i, i ≠ 6 → nb i = nBi n i := fun i hi => by rw [hnb]; exact zu_ne hi
  have eb6 : nb 6 = n 6 + 1 := by rw [hnb]; exact zu_eq rfl
  have hlb : nLa nb = nLa (nBi n) := nLa_lo (eb 3 (by omega))
  have hNa : nWn na := by
    unfold nWn
    rw [ea 0 (by omega), ea 1 (by omega), ea 2 (by omega), ea 3 (by omega), ea 4 (by omega), ea 5 (by omega), ea6]
    omega
  have hZa : nWs na := nWs_cg (fun i hi => ea i (by omega)) (ea 2 (by omega)) (ea 3 (by omega)) (by rw [ea 4 (by omega)]; omega) (by omega) hn.2.2.2
  have hNb : nWn nb := by
    unfold nWn
    rw [eb 0 (by omega), eb 1 (by omega), eb 2 (by omega), eb 3 (by omega), eb 4 (by omega), eb 5 (by omega), eb6]
    omega
  have hZb : nWs nb := nWs_cg (fun i hi => eb i (by omega)) (eb 2 (by omega)) (eb 3 (by omega)) (by rw [eb 4 (by omega)]; omega) (by omega) b1.2.2.2
  have hSb : nS nb (nLa nb) 0 = 0 := by rw [hlb]; exact (eb _ (by omega)).trans lst
  have hob : nOp nb = true := nOp_iff.mpr ⟨by omega, hSb⟩
  have hopa : nOp na = nOp n := by
    have := hBa
    cases h5 : nOp n
    · cases h6 : nOp na
      · rfl
      · have h7 := (nOp_iff.mp h6)
        have h8 : nLa na = nLa n := nLa_lo (ea 3 (by omega))
        rw [h8] at h7
        have h9 : nS na (nLa n) 0 = nS n (nLa n) 0 := ea _ (by omega)
        rw [h9] at h7
        rw [nOp_iff.mpr h7] at h5
        cases h5
    · have h7 := (nOp_iff.mp h5)
      have h8 : nLa na = nLa n := nLa_lo (ea 3 (by omega))
      have h9 : nS na (nLa n) 0 = nS n (nLa n) 0 := ea _ (by omega)
      exact nOp_iff.mpr ⟨by rw [h8]; exact h7.1, by rw [h8, h9]; exact h7.2⟩
  have hen := e10_enters0 (σ := σ) (n := na) hW hm hNa hZa (fun z => by rw [ea 3 (by omega)]; exact nTm_f hn hT (by rw [← hopa]; exact z)) (by rw [hBa, ← hnb]; exact hNb) (by rw [hBa, ← hnb]; exact hZb) (by rw [hBa, ← hnb]; exact hob) (f := f) (v := n 6) hf0 (by rw [ea 2 (by omega)]; exact hf1)
  rw [hBa, ← hnb] at hen
  have hentb := hZb.ent hNb (by omega : 0 ≤ nLa nb) (by unfold nLa; omega)
  obtain ⟨nc, hnc⟩ : ∃ x, x = nE1 nb f (n 6) := ⟨_, rfl⟩
  have ec : ∀ i, i < 1255 → nc i = nb i := fun i hi => by rw [hnc]; exact nE1_lo (by omega) hentb.1 hi
  rw [← hnc] at hen
  have hlc : nLa nc = nLa (nBi n) := by rw [← hlb]; exact nLa_lo (ec 3 (by omega))
  obtain ⟨nd, hnd⟩ : ∃ x, x = nAr nc (n 6) f (n 4) m tag (nLa (nBi n)) := ⟨_, rfl⟩
  have ed : ∀ i, i < 775 + 5 * n 6 ∨ 780 + 5 * n 6 ≤ i → nd i = nc i := fun i hi => by rw [hnd]; exact nAr_out (by omega) hi
  have hld : nLa nd = nLa (nBi n) := by rw [← hlc]; exact nLa_lo (ed 3 (by omega))
  obtain ⟨n2, hn2⟩ : ∃ x, x = nAdd (nBi n) f m tag := ⟨_, rfl⟩
  rw [← hn2] at a1 a2 a3 a4 a5 a6 w3
  have hag : zAg n2 nd := fun i hi => by
    rw [ed i (by omega), ec i (by omega)]
    by_cases h6 : i = 6
    · rw [h6, eb6, a6]
    · rw [eb i h6, a5 i h6 (by omega)]
  have hNd : nWn nd := by
    unfold nWn at a1 ⊢
    rw [hag 0 (by omega), hag 1 (by omega), hag 2 (by omega), hag 3 (by omega), hag 4 (by omega), hag 5 (by omega), hag 6 (by omega)]
    exact a1
  have hBd : nWb nd := nWb_ag (fun i _ hi => hag i hi) (hag 0 (by omega)) (hag 1 (by omega)) (by rw [hag 3 (by omega)]; omega) (hag 4 (by omega)) (by rw [hag 6 (by omega)]; omega) a2
  have h24 : n2 4 = n 4 := by rw [a5 4 (by omega) (by omega), hv4]
  have h23 : n2 3 = nBi n 3 := a5 3 (by omega) (by omega)
  have hbcd : nBc nd m.toNat ≤ nGc nd := by
    have hN2' := a1.r
    rw [nBc_ag (fun i _ hi => hag i (by omega)) (hag 4 (by omega)) (by omega) (by omega), nGc_ag (fun i _ hi => hag i (by omega)) (hag 0 (by omega)) (hag 1 (by omega)) a1]
    exact a4
  have hq := e10_wl (σ := σ) 1 (nLa (nBi n)) (n 6) (Or.inl rfl) l0 (by omega) (fun _ => by omega) hW hm m.toNat nd 0 hNd hBd (by rw [hag 4 (by omega), hag 0 (by omega), hag 1 (by omega)]; omega) hbcd (by rw [hag 3 (by omega)]; omega) (by rw [hag 6 (by omega)]; omega) (by omega) (by omega) (gH × Int32) (fun fuel G x => f_X10_writes_L96 fuel G (zL E 3 0 0) (zI m) (zI (n 6)) x) m (by omega) (fun f τ x hx hx0 hx1 h33 => by
    have hlt := e10_latest (σ := zw σ τ) hW hm zw_at
    have hlt2 : nLa τ = nLa (nBi n) := by rw [← hld]; exact nLa_lo h33
    rw [hlt2] at hlt
    simp (disch := first | assumption | omega) only [f_X10_writes_L96, hlt, zz_mdo hW hm, zz_ra hW hm, zw_at, zz_some, zz_lit, zz_num, zI_lt, zI_le, zI_eq, zI_nat, zz_b, if_pos, if_neg, if_true, if_false]) g_N (by unfold g_N; omega)
  obtain ⟨fu, hfu⟩ : ∃ fu, g_N - m.toNat = fu + 1 := ⟨g_N - m.toNat - 1, by unfold g_N; omega⟩
  rw [hfu] at hq
  have hfin : nWl 1 (nLa (nBi n)) (n 6) nd 0 m.toNat = nWrs n f m tag := by
    have hw := nWl_W (kind := 1) (se := nLa (nBi n)) (v := n 6) m.toNat nd 0 hNd hBd (by rw [hag 4 (by omega), hag 0 (by omega), hag 1 (by omega)]; omega) hbcd (Or.inl rfl) l0 (by rw [hag 3 (by omega)]; omega) (by omega) (by rw [hag 6 (by omega)]; omega) (fun _ => by omega) (by omega) (by omega)
    have hw2 := nWl_W (kind := 1) (se := nLa (nBi n)) (v := n 6) m.toNat n2 0 a1 a2 (by omega) a4 (Or.inl rfl) l0 (by omega) (by omega) (by omega) (fun _ => by omega) (by omega) (by omega)
    have hwa := nWl_ag (kind := 1) (se := nLa (nBi n)) (v := n 6) m.toNat n2 nd 0 a1 a2 (by omega) a4 (Or.inl rfl) l0 (by omega) (by omega) (by omega) (fun _ => by omega) (by omega) (by omega) hag
    obtain ⟨n3, hn3⟩ : ∃ x, x = nWl 1 (nLa (nBi n)) (n 6) n2 0 m.toNat := ⟨_, rfl⟩
    have hwr : nWrs n f m tag = nE1 n3 f (n 6) := by unfold nWrs; rw [← hn2, ← hn3]
    rw [← hn3] at hwa hw2
    have h33 : n3 3 = nBi n 3 := by rw [hw2.2.2.2 3 (by omega) (by omega)]; exact h23
    have hl3 : nLa n3 = nLa (nBi n) := nLa_lo h33
    have hhi : ∀ i, 1255 ≤ i → n3 i = nBi n i := fun i hi => by rw [hw2.2.2.2 i (by omega) (by omega), a5 i (by omega) (by omega)]
    have he3 : 0 ≤ nS n3 (nLa n3) 2 := by
      rw [hl3]
      have : nS n3 (nLa (nBi n)) 2 = nS (nBi n) (nLa (nBi n)) 2 := hhi _ (by omega)
      rw [this]
      exact (b1.2.2.2.ent b1.1 l0 (by omega)).1
    funext i
    rw [hwr]
    by_cases h1 : i < 775
    · rw [hwa i h1, nE1_lo (by omega) he3 (by omega)]
    · rw [hw.2.2.2 i (by omega) (by omega)]
      by_cases h2 : i < 1255
      · rw [nE1_lo (by omega) he3 h2, hw2.2.2.2 i (by omega) (by omega)]
        by_cases h5 : i < 775 + 5 * n 6 ∨ 780 + 5 * n 6 ≤ i
        · rw [ed i h5, ec i h2, eb i (by omega), a5 i (by omega) h5]
        · rw [hnd, hn2]
          unfold nAdd nAr
          rw [hv6, hv4]
          unfold zu
          by_cases q4 : i = 775 + 5 * n 6 + 4
          · rw [if_pos q4, if_pos q4]
          · rw [if_neg q4, if_neg q4]
            by_cases q3 : i = 775 + 5 * n 6 + 3
            · rw [if_pos q3, if_pos q3]
            · rw [if_neg q3, if_neg q3]
              by_cases q2 : i = 775 + 5 * n 6 + 2
              · rw [if_pos q2, if_pos q2]
              · rw [if_neg q2, if_neg q2]
                by_cases q1 : i = 775 + 5 * n 6 + 1
                · rw [if_pos q1, if_pos q1]
                · rw [if_neg q1, if_neg q1, if_pos (by omega), if_pos (by omega)]
      · rw [ed i (by omega), hnc]
        exact (nE1_hi (n := nBi n) (n' := nb) (eb 3 (by omega)) (fun j hj => eb j (by omega)) l0 (b1.2.2.2.ent b1.1 l0 (by omega)).1 f (n 6) i (by omega)).trans (nE1_hi (n := nBi n) (n' := n3) h33 hhi l0 (b1.2.2.2.ent b1.1 l0 (by omega)).1 f (n 6) i (by omega)).symm
  rw [hfin] at hq
  have hc4 : nc 4 = n 4 := by rw [ec 4 (by omega), eb 4 (by omega), hv4]
  have hA : nd = zu (zu (zu (zu (zu nc (775 + 5 * n 6) f) (775 + 5 * n 6 + 1) (n 4)) (775 + 5 * n 6 + 2) m) (775 + 5 * n 6 + 3) tag) (775 + 5 * n 6 + 4) (nLa (nBi n)) := hnd
  simp (disch := first | assumption | omega) only [f_X10_writes, zs_zw, zz_mdo hW hm, zz_ra hW hm, zw_at, zz_some, zz_lit, zz_num, zI_lt, zI_le, zI_eq, zI_nat, zz_b, if_pos, if_neg, if_true, if_false]
  rw [← hna]
  simp (disch := first | assumption | omega) only [hen, zs_zw, zz_mdo hW hm, zz_ra hW hm, zw_at, zz_some, zz_lit, zz_num, zI_lt, zI_le, zI_eq, zI_nat, zz_b, if_pos, if_neg, if_true, if_false]
  have hc4' : zu nc (775 + 5 * n 6) f 4 = n 4 := by rw [zu_ne (by omega), hc4]
  simp (disch := first | assumption | omega) only [hc4', zs_zw, zz_mdo hW hm, zz_ra hW hm, zw_at, zz_some, zz_lit, zz_num, zI_lt, zI_le, zI_eq, zI_nat, zz_b, if_pos, if_neg, if_true, if_false]
  have hlt := e10_latest (σ := zw σ (zu (zu (zu (zu nc (775 + 5 * n 6) f) (775 + 5 * n 6 + 1) (n 4)) (775 + 5 * n 6 + 2) m) (775 + 5 * n 6 + 3) tag)) hW hm zw_at
  have hlt2 : nLa (zu (zu (zu (zu nc (775 + 5 * n 6) f) (775 + 5 * n 6 + 1) (n 4)) (775 + 5 * n 6 + 2) m) (775 + 5 * n 6 + 3) tag) = nLa (nBi n) := by
    rw [← hlc]
    exact nLa_lo (by rw [zu_ne (by omega), zu_ne (by omega), zu_ne (by omega), zu_ne (by omega)])
  rw [hlt2] at hlt
  simp (disch := first | assumption | omega) only [hlt, zs_zw, zz_mdo hW hm, zz_ra hW hm, zw_at, zz_some, zz_lit, zz_num, zI_lt, zI_le, zI_eq, zI_nat, zz_b, if_pos, if_neg, if_true, if_false]
  rw [← hA]
  refine Eq.trans hq ?_
  simp (disch := first | assumption | omega) only [f_X10_writes_L96, zz_mdo hW hm, zz_ra hW hm, zw_at, zz_some, zz_lit, zz_num, zI_lt, zI_le, zI_eq, zI_nat, zz_b, if_pos, if_neg, if_true, if_false]
end zMod
end
section
/-! The reference: recovering, copying rows, keeping them. -/
theorem nRl_snoc {P : Int → Bool} {fl : Int → Int} : ∀ (m : Nat) (n : zN) (v : Int), nRl P fl n v (m + 1) = if P (v + m) = true then nE1 (nRl P fl n v m) (fl (v + m)) (v + m) else nRl P fl n v m := by
  intro m
  induction m with
  | zero => intro n v; simp [nRl]
  | succ m ih =>
    intro n v
    rw [nRl, ih, show v + 1 + (m : Int) = v + ((m + 1 : Nat) : Int) by omega]
    rfl
/-- the reference's row when the versions below t are back -/
def nSt (P : Int → Bool) (fl : Int → Int) (n1 : zN) (t : Nat) : zN := if nCll P t = [] then n1 else nRl P fl (nBg n1) 0 t
theorem nRl_none {P : Int → Bool} {fl : Int → Int} {n : zN} : ∀ t : Nat, nCll P t = [] → nRl P fl n 0 t = n := by
  intro t
  induction t with
  | zero => intro _; rfl
  | succ t ih =>
    intro h
    rw [nCll] at h
    cases hp : P t
    · rw [hp, if_neg (by simp)] at h
      rw [nRl_snoc, show (0 : Int) + (t : Int) = t by omega, hp, if_neg (by simp)]
      exact ih h
    · rw [hp, if_pos rfl] at h
      simp at h
theorem zr_zr {σ : zW} {k d c : Nat} {r r' : Int → Int} : zr (zr σ k d c r) k d c r' = zr σ k d c r' := by
  funext k' d' c'
  unfold zr
  by_cases h : k' = k ∧ d' = d ∧ c' = c
  · rw [if_pos h, if_pos h]
  · rw [if_neg h, if_neg h, if_neg h]
section zMod
variable {E : zE} {σ : zW}
theorem e10_rec_L (hW : zWF E) (hm : zU E 3 0 = true) {n0 n1 : zN} (hn0 : nW n0) (hn1 : nW n1) (ho1 : nOp n1 = false) (h12 : n1 3 < 12) (he : ∀ i, i < 1255 → n1 i = n0 i) {l : Int} (hcl : ∀ n : zN, zCl (zw σ n) (nCll (nRc n0 l) (n0 6).toNat)) (hb : nW (nBg n1)) (hob : nOp (nBg n1) = true) (hent : nS (nBg n1) (n1 3) 2 = 0) : ∀ (m fuel t : Nat), (t : Int) + m = n0 6 → m < fuel →
    ∃ fu : Nat, f_X10_recover_L43 fuel (zH E (zw σ (nSt (nRc n0 l) (fun v => nV n0 v 0) n1 t))) (zL E 3 0 0) (zI ((nCll (nRc n0 l) t).length : Int)) = f_X10_recover_L43 (fu + 1) (zH E (zw σ (nSt (nRc n0 l) (fun v => nV n0 v 0) n1 (n0 6).toNat))) (zL E 3 0 0) (zI ((nCll (nRc n0 l) (n0 6).toNat).length : Int)) := by
  have hN0 := hn0.1.r
  have hN1 := hn1.1.r
  have hver := hn0.2.2.1.1
  have hla : nLa (nBg n1) = n1 3 := by unfold nLa; rw [nBg_3]; omega
  have ebg : ∀ i, i < 1255 → i ≠ 3 → nBg n1 i = n0 i := fun i hi h3 => by rw [nBg_lo (by omega) hi h3, he i hi]
  have hlen : ∀ t : Nat, (t : Int) ≤ n0 6 → ((nCll (nRc n0 l) t).length : Int) ≤ 10 := fun t ht => by
    rw [nCll_len]
    have := nRc_10 hn0 l ht
    omega
  intro m
  induction m with
  | zero =>
    intro fuel t h0 h2
    obtain ⟨f, rfl, h4⟩ := zfuel h2
    exact ⟨f, by rw [show (n0 6).toNat = t by omega]⟩
  | succ m ih =>
    intro fuel t h0 h2
    obtain ⟨f, rfl, h4⟩ := zfuel h2
    cases hp : nRc n0 l t
    · have e1 : nCll (nRc n0 l) (t + 1) = nCll (nRc n0 l) t := by rw [nCll, hp]; rfl
      have e2 : nSt (nRc n0 l) (fun v => nV n0 v 0) n1 (t + 1) = nSt (nRc n0 l) (fun v => nV n0 v 0) n1 t := by
        unfold nSt
        rw [e1, nRl_snoc, show (0 : Int) + (t : Int) = t by omega, hp]
        rfl
      obtain ⟨fu, q⟩ := ih (f + 1) (t + 1) (by omega) (by omega)
      rw [e1, e2] at q
      exact ⟨fu, q⟩
    · have e1 : nCll (nRc n0 l) (t + 1) = nCll (nRc n0 l) t ++ [(t : Int)] := by rw [nCll, hp]; rfl
      -- the state here
      obtain ⟨c, hc⟩ : ∃ c, c = nSt (nRc n0 l) (fun v => nV n0 v 0) n1 t := ⟨_, rfl⟩
      have hrl := nRl_W (P := nRc n0 l) (fl := fun v => nV n0 v 0) t (nBg n1) 0 hb hob (by omega) (by rw [ebg 6 (by omega) (by omega)]; omega) (fun u u0 u1 _ => by
        rw [ebg 6 (by omega) (by omega)] at u1
        exact (ebg _ (by omega) (by omega)).symm) (fun u t u0 u1 t1 hu ht => by
        rw [ebg 6 (by omega) (by omega)] at t1
        exact nRc_ne u0 u1 t1 hu ht) (fun g hg => by
        rw [hla] at hg
        obtain ⟨k, k0, k1, _⟩ := nEn_iff.mp hg
        omega)
      have hcs : nW c ∧ nTm c = false ∧ (∀ i, i < 1255 → i ≠ 3 → c i = n0 i) ∧ nBi c = nRl (nRc n0 l) (fun v => nV n0 v 0) (nBg n1) 0 t := by
        rw [hc]
        unfold nSt
        by_cases h5 : nCll (nRc n0 l) t = []
        · rw [if_pos h5]
          refine ⟨hn1, by unfold nTm; rw [ho1]; simp; omega, fun i hi _ => he i hi, ?_⟩
          unfold nBi
          rw [ho1, if_neg (by simp), nRl_none t h5]
        · rw [if_neg h5]
          refine ⟨hrl.1, by unfold nTm; rw [hrl.2.1]; rfl, fun i hi h3 => by rw [hrl.2.2.2.1 i hi, ebg i hi h3], ?_⟩
          unfold nBi
          rw [hrl.2.1, if_pos rfl]
      have htv := hn0.2.2.1.2 t (by omega) (by omega)
      have c6 := hcs.2.2.1 6 (by omega) (by omega)
      have c2 := hcs.2.2.1 2 (by omega) (by omega)
      have hcn := hcs.1.1.r
      have hV : nV c t 0 = nV n0 t 0 := hcs.2.2.1 _ (by omega) (by omega)
      have hen := e10_enters (σ := σ) hW hm hcs.1 hcs.2.1 (f := nV n0 t 0) (v := t) htv.1.1 (by omega)
      have hst : nE1 (nBi c) (nV n0 t 0) t = nSt (nRc n0 l) (fun v => nV n0 v 0) n1 (t + 1) := by
        rw [hcs.2.2.2]
        unfold nSt
        rw [e1, if_neg (by simp), nRl_snoc, show (0 : Int) + (t : Int) = t by omega, hp, if_pos rfl]
      rw [hst] at hen
      obtain ⟨fu, q⟩ := ih f (t + 1) (by omega) (by omega)
      refine ⟨fu, ?_⟩
      rw [← q, ← hc]
      have hcc := hcl c
      have h22 : g_i (zH E (zw σ c)) (zL E 3 0 0) 10 22 = some (zI ((nCll (nRc n0 l) (n0 6).toNat).length : Int)) := by rw [← hcc.1]; exact zg_md22 hW hm
      -- the list's place
      have hpre : ∀ (T : Nat) (d : Nat), T = t + 1 + d → (nCll (nRc n0 l) t).length < (nCll (nRc n0 l) T).length ∧ (nCll (nRc n0 l) T).getD (nCll (nRc n0 l) t).length 0 = t := by
        intro T d
        induction d generalizing T with
        | zero =>
          intro hT
          rw [hT, Nat.add_zero, e1]
          refine ⟨by simp, ?_⟩
          simp
        | succ d ihd =>
          intro hT
          have h6 := ihd (t + 1 + d) rfl
          rw [hT, ← Nat.add_assoc, nCll]
          split
          · refine ⟨by rw [List.length_append]; omega, ?_⟩
            rw [List.getD_eq_getElem?_getD, List.getElem?_append_left h6.1, ← List.getD_eq_getElem?_getD]
            exact h6.2
          · exact h6
      obtain ⟨hlt, hget⟩ := hpre (n0 6).toNat m (by omega)
      have hl1 := hlen t (by omega)
      have hl2 := hlen (n0 6).toNat (by omega)
      have hrow := hcc.2 (nCll (nRc n0 l) t).length hlt
      rw [hget] at hrow
      have hov := e10_ofVersion (σ := zw σ c) hW hm zw_at (v := t) (w := 0) (by omega) (by omega) (by omega) (by omega)
      rw [hV] at hov
      rw [e1, List.length_append]
      simp (disch := first | assumption | omega) only [f_X10_recover_L43, h22, hrow, hov, hen, zz_mdo hW hm, zz_ra hW hm, zw_at, zz_some, zz_lit, zz_num, zI_lt, zI_le, zI_eq, zI_nat, zz_b, if_pos, if_neg, if_true, if_false]
      simp
/-! copying segments of 1555 numbers -/
theorem e10_copies_L (hW : zWF E) (hm : zU E 3 0 = true) {c1 c2 N1 N2 : Nat} (ha1 : zA 3 c1 = some (0, N1)) (ha2 : zA 3 c2 = some (0, N2)) (hN1 : N1 < 100000) (hN2 : N2 < 100000) {a b : Int} (ha0 : 0 ≤ a) (ha : a + 1555 ≤ N1) (hb0 : 0 ≤ b) (hb : b + 1555 ≤ N2) (hd : c1 ≠ c2 ∨ b + 1555 ≤ a) (τ : zW) : ∀ (m fuel : Nat) (k : Int), 0 ≤ k → k + m = 1555 → m < fuel → f_X10_copies_L3 fuel (zH E (zr τ 3 0 c2 (fun i => if b ≤ i ∧ i < b + k then τ 3 0 c1 (a + (i - b)) else τ 3 0 c2 i))) (zL E 3 0 c1) (zI a) (zL E 3 0 c2) (zI b) (zI k) = some (zH E (zr τ 3 0 c2 (fun i => if b ≤ i ∧ i < b + 1555 then τ 3 0 c1 (a + (i - b)) else τ 3 0 c2 i))) := by
  intro m
  induction m with
  | zero =>
    intro fuel k h0 h1 h2
    obtain ⟨f, rfl, h4⟩ := zfuel h2
    have hk : k = 1555 := by omega
    subst hk
    simp (disch := first | assumption | omega) only [f_X10_copies_L3, zz_some, zz_lit, zz_num, zI_lt, zI_le, zI_eq, zI_nat, zz_b, if_pos, if_neg, if_true, if_false]
  | succ m ih =>
    intro fuel k h0 h1 h2
    obtain ⟨f, rfl, h4⟩ := zfuel h2
    obtain ⟨τ1, ht1⟩ : ∃ x, x = zr τ 3 0 c2 (fun i => if b ≤ i ∧ i < b + k then τ 3 0 c1 (a + (i - b)) else τ 3 0 c2 i) := ⟨_, rfl⟩
    have hread : τ1 3 0 c1 (a + k) = τ 3 0 c1 (a + k) := by
      rw [ht1]
      by_cases h : c1 = c2
      · subst h
        rw [zr_at, if_neg (by rcases hd with q | q; exact absurd rfl q; omega)]
      · rw [zr_ne (by omega)]
    have hg1 := zAld (σ := τ1) (E := E) (k := 3) (d := 0) (c := c1) hW hm ha1 (by omega) (by omega) (i := a + k) (by omega) (by omega)
    have hg2 := zAst (σ := τ1) (E := E) (k := 3) (d := 0) (c := c2) hW hm ha2 (by omega) (by omega) (i := b + k) (v := τ 3 0 c1 (a + k)) (by omega) (by omega) rfl
    rw [hread] at hg1
    rw [← ht1]
    have hnext : zs τ1 3 0 c2 (b + k) (τ 3 0 c1 (a + k)) = zr τ 3 0 c2 (fun i => if b ≤ i ∧ i < b + (k + 1) then τ 3 0 c1 (a + (i - b)) else τ 3 0 c2 i) := by
      rw [← zs_r, ht1, zr_zr]
      congr 1
      funext i
      rw [zr_at]
      by_cases hi : i = b + k
      · rw [if_pos hi, if_pos (by omega), hi]
        congr 1
        omega
      · rw [if_neg hi]
        by_cases h5 : b ≤ i ∧ i < b + k
        · rw [if_pos h5, if_pos (by omega)]
        · rw [if_neg h5, if_neg (by omega)]
    simp (disch := first | assumption | omega) only [f_X10_copies_L3, hg1, hg2, zz_some, zz_lit, zz_num, zI_lt, zI_le, zI_eq, zI_nat, zz_b, if_pos, if_neg, if_true, if_false]
    rw [hnext]
    exact ih f (k + 1) (by omega) (by omega) (by omega)
theorem e10_copies (hW : zWF E) (hm : zU E 3 0 = true) {c1 c2 N1 N2 : Nat} (ha1 : zA 3 c1 = some (0, N1)) (ha2 : zA 3 c2 = some (0, N2)) (hN1 : N1 < 100000) (hN2 : N2 < 100000) {a b : Int} (ha0 : 0 ≤ a) (ha : a + 1555 ≤ N1) (hb0 : 0 ≤ b) (hb : b + 1555 ≤ N2) (hd : c1 ≠ c2 ∨ b + 1555 ≤ a) (τ : zW) : f_X10_copies (zH E τ) (zL E 3 0 c1) (zI a) (zL E 3 0 c2) (zI b) = some (zH E (zr τ 3 0 c2 (fun i => if b ≤ i ∧ i < b + 1555 then τ 3 0 c1 (a + (i - b)) else τ 3 0 c2 i))) := by
  have h := e10_copies_L hW hm ha1 ha2 hN1 hN2 ha0 ha hb0 hb hd τ 1555 g_N 0 (by omega) (by omega) (by unfold g_N; omega)
  have e : zr τ 3 0 c2 (fun i => if b ≤ i ∧ i < b + 0 then τ 3 0 c1 (a + (i - b)) else τ 3 0 c2 i) = τ := zr_self (by funext i; rw [if_neg (by omega)])
  rw [e] at h
  exact h
end zMod
end
section
/-! Scratching, formatting, copying discs: the class. Rows that agree where they matter. -/
theorem nW_cg0 {n n' : zN} (h : ∀ i, 0 ≤ i → i < 1555 → n' i = n i) (hn : nW n) : nW n' := by
  have hN := hn.1.r
  refine ⟨?_, nWb_ag (fun i h1 h2 => h i (by omega) (by omega)) (h 0 (by omega) (by omega)) (h 1 (by omega) (by omega)) (by rw [h 3 (by omega) (by omega)]; omega) (h 4 (by omega) (by omega)) (by rw [h 6 (by omega) (by omega)]; omega) hn.2.1, nWv_cg2 (fun i h1 h2 => h i (by omega) (by omega)) (h 2 (by omega) (by omega)) (h 3 (by omega) (by omega)) (by rw [h 4 (by omega) (by omega)]; omega) (h 6 (by omega) (by omega)) (by omega) (fun s k s0 s1 k0 k1 => ?_) hn.2.2.1, fun s s0 s1 => ?_⟩
  · unfold nWn
    rw [h 0 (by omega) (by omega), h 1 (by omega) (by omega), h 2 (by omega) (by omega), h 3 (by omega) (by omega), h 4 (by omega) (by omega), h 5 (by omega) (by omega), h 6 (by omega) (by omega)]
    exact hn.1
  · have he := hn.2.2.2.ent hn.1 s0 s1
    have e : ∀ w, 0 ≤ w → w < 25 → nS n' s w = nS n s w := fun w w0 w1 => h _ (by omega) (by omega)
    rw [e 2 (by omega) (by omega)] at k1
    exact ⟨k1, e _ (by omega) (by omega), e _ (by omega) (by omega)⟩
  · rw [h 3 (by omega) (by omega)] at s1
    exact nWs1_cg s0 (fun t w t0 t1 w0 w1 => h _ (by omega) (by omega)) (h 2 (by omega) (by omega)) (by omega) (by omega) (fun z => by rw [h 3 (by omega) (by omega)]; exact (hn.2.2.2 s s0 s1).2.1 z) (by rw [h 4 (by omega) (by omega)]; omega) (by rw [h 6 (by omega) (by omega)]; omega) (hn.2.2.2 s s0 s1)
theorem zRd_cg0 {ρ : Nat → Int → Int} {n n' : zN} (h : ∀ i, 0 ≤ i → i < 1555 → n' i = n i) (hn : nW n) (hR : zRd ρ n) : zRd ρ n' := by
  have hN := hn.1.r
  obtain ⟨⟨⟨r0, r1, r2, r3, r4, r5, r6, r7, r8, r9⟩, r10⟩, hv, hs, hf⟩ := hR
  refine ⟨⟨⟨?_, ?_, ?_, fun c c0 c1 => ?_, fun c c0 c1 => ?_, fun c c0 c1 => ?_, fun c c0 c1 => ?_, fun c c0 c1 => ?_, fun c c0 c1 => ?_, fun c c0 c1 => ?_⟩, fun c c0 c1 => ?_⟩, zRv_ag (fun _ _ _ => rfl) (h 6 (by omega) (by omega)) (by omega) (fun i h1 h2 => h i (by omega) (by omega)) hv, zRs_ag (fun _ _ _ _ => rfl) (h 3 (by omega) (by omega)) (fun s s0 s1 => by have := hn.2.2.2.ent hn.1 s0 s1; omega) (fun s w s0 s1 w0 w1 _ => h _ (by omega) (by omega)) hs, ?_⟩
  · rw [h 0 (by omega) (by omega)]; exact r0
  · rw [h 0 (by omega) (by omega), h 1 (by omega) (by omega)]; exact r1
  · rw [h 4 (by omega) (by omega)]; exact r2
  · rw [h _ (by omega) (by omega)]; exact r3 c c0 c1
  · rw [h _ (by omega) (by omega)]; exact r4 c c0 c1
  · rw [h _ (by omega) (by omega)]; exact r5 c c0 c1
  · rw [h _ (by omega) (by omega)]; exact r6 c c0 c1
  · rw [h _ (by omega) (by omega)]; exact r7 c c0 c1
  · rw [h _ (by omega) (by omega)]; exact r8 c c0 c1
  · rw [h _ (by omega) (by omega)]; exact r9 c c0 c1
  · rw [r10 c c0 c1, h 4 (by omega) (by omega)]
    unfold nPl
    rw [h _ (by omega) (by omega)]
  · unfold zRf
    rw [h 2 (by omega) (by omega), h 5 (by omega) (by omega)]
    exact hf
theorem nBd_W {n : zN} {b : Int} (hn : nW n) (h0 : 0 ≤ b) (h1 : b < 96) : nW (zu n (103 + b) 1) := by
  have e : ∀ i : Int, i ≠ 103 + b → zu n (103 + b) 1 i = n i := fun i hi => by unfold zu; rw [if_neg hi]
  have e2 : ∀ i : Int, 199 ≤ i → zu n (103 + b) 1 i = n i := fun i hi => e i (by omega)
  refine ⟨?_, fun c c0 c1 => ?_, nWv_cg (fun i hi => e2 i (by omega)) (e 2 (by omega)) (e 3 (by omega)) (by rw [e 4 (by omega)]; omega) (e 6 (by omega)) hn.2.2.1, nWs_cg (fun i hi => e2 i (by omega)) (e 2 (by omega)) (e 3 (by omega)) (by rw [e 4 (by omega)]; omega) (by rw [e 6 (by omega)]; omega) hn.2.2.2⟩
  · have := hn.1
    unfold nWn at this ⊢
    rw [e 0 (by omega), e 1 (by omega), e 2 (by omega), e 3 (by omega), e 4 (by omega), e 5 (by omega), e 6 (by omega)]
    exact this
  · have := hn.2.1 c c0 c1
    rw [e (7 + c) (by omega), e (199 + c) (by omega), e (295 + c) (by omega), e (391 + c) (by omega), e (487 + c) (by omega), e (583 + c) (by omega), e (679 + c) (by omega), e 0 (by omega), e 1 (by omega), e 3 (by omega), e 4 (by omega), e 6 (by omega)]
    refine ⟨this.1, ?_, this.2.2⟩
    unfold zu
    split
    · exact Or.inr rfl
    · exact this.2.1
theorem nBd_R {ρ ρ' : Nat → Int → Int} {n : zN} {b : Int} (h0 : 0 ≤ b) (h1 : b < 96) (hR : zRd ρ n) (hn : nW n) (h4 : ρ' 3 = fun i => if i = b then 1 else ρ 3 i) (h5 : ∀ c, c ≠ 3 → ρ' c = ρ c) : zRd ρ' (zu n (103 + b) 1) := by
  have e : ∀ i : Int, i ≠ 103 + b → zu n (103 + b) 1 i = n i := fun i hi => by unfold zu; rw [if_neg hi]
  have hN := hn.1.r
  obtain ⟨⟨⟨a1, a2, a3, a4, a5, a6, a7, a8, a9, a10⟩, a11⟩, ⟨b1, b2, b3, b4, b5, b6⟩, ⟨c1, c2, c3, c4, c5, c6, c7, c8⟩, ⟨d1, d2⟩⟩ := hR
  unfold zRd zRb zRk zRv zRs zRf
  rw [h5 0 (by decide), h5 1 (by decide), h5 2 (by decide), h5 4 (by decide), h5 5 (by decide), h5 6 (by decide), h5 7 (by decide), h5 8 (by decide), h5 9 (by decide), h5 10 (by decide), h5 11 (by decide), h5 12 (by decide), h5 13 (by decide), h5 14 (by decide), h5 15 (by decide), h5 16 (by decide), h5 17 (by decide), h5 18 (by decide), h5 19 (by decide), h5 20 (by decide), h5 21 (by decide), h5 22 (by decide), h5 24 (by decide)]
  rw [e 0 (by omega), e 1 (by omega), e 2 (by omega), e 3 (by omega), e 4 (by omega), e 5 (by omega), e 6 (by omega)]
  refine ⟨⟨⟨a1, a2, a3, fun c c0 c1 => ?_, fun c c0 c1 => ?_, fun c c0 c1 => ?_, fun c c0 c1 => ?_, fun c c0 c1 => ?_, fun c c0 c1 => ?_, fun c c0 c1 => ?_⟩, fun c c0 c1 => ?_⟩, ⟨b1, fun w w0 w1 => ?_, fun w w0 w1 => ?_, fun w w0 w1 => ?_, fun w w0 w1 => ?_, fun w w0 w1 => ?_⟩, ⟨c1, fun w w0 w1 => ?_, fun w w0 w1 => ?_, fun w w0 w1 => ?_, fun w w0 w1 => ?_, fun w k w0 w1 k0 k1 => ?_, fun w k w0 w1 k0 k1 => ?_, fun w w0 w1 => ?_⟩, ⟨d1, d2⟩⟩
  · rw [e _ (by omega)]; exact a4 c c0 c1
  · rw [h4]
    show (if c = b then (1 : Int) else ρ 3 c) = zu n (103 + b) 1 (103 + c)
    by_cases hc : c = b
    · subst hc; simp [zu]
    · rw [if_neg hc, e _ (by omega)]; exact a5 c c0 c1
  · rw [e _ (by omega)]; exact a6 c c0 c1
  · rw [e _ (by omega)]; exact a7 c c0 c1
  · rw [e _ (by omega)]; exact a8 c c0 c1
  · rw [e _ (by omega)]; exact a9 c c0 c1
  · rw [e _ (by omega)]; exact a10 c c0 c1
  · rw [a11 c c0 c1]
    unfold nPl
    rw [e _ (by omega)]
  · unfold nV; rw [e _ (by omega)]; exact b2 w w0 w1
  · unfold nV; rw [e _ (by omega)]; exact b3 w w0 w1
  · unfold nV; rw [e _ (by omega)]; exact b4 w w0 w1
  · unfold nV; rw [e _ (by omega)]; exact b5 w w0 w1
  · unfold nV; rw [e _ (by omega)]; exact b6 w w0 w1
  · unfold nS; rw [e _ (by omega)]; exact c2 w w0 w1
  · unfold nS; rw [e _ (by omega)]; exact c3 w w0 w1
  · unfold nS; rw [e _ (by omega)]; exact c4 w w0 w1
  · unfold nS; rw [e _ (by omega)]; exact c5 w w0 w1
  · unfold nS at k1 ⊢; rw [e _ (by omega)] at k1; rw [e _ (by omega)]; exact c6 w k w0 w1 k0 k1
  · have he := (hn.2.2.2 w w0 w1).2.2.2.1.2
    have hz := (zcn_rng (fun f => decide (nEn n w f ≠ -1)) (n 2).toNat 0).2
    rw [nX_cg (n := n) (n' := zu n (103 + b) 1) (s := w) (f := k) (by omega) (by unfold nS; exact e _ (by omega)) (fun x x0 x1 => by unfold nS; exact e _ (by omega))]
    exact c7 w k w0 w1 k0 k1
  · rw [nL_cg (n := n) (n' := zu n (103 + b) 1) (s := w) (by unfold nS; exact e _ (by omega)) (by unfold nS; exact e _ (by omega))]
    exact c8 w w0 w1
theorem nScr_W {n : zN} {b : Int} (hn : nW n) (h0 : 0 ≤ b) (h1 : b < 96) : nW (nScr n b) := by
  unfold nScr
  split
  · exact nBd_W hn h0 h1
  · exact nSh_W hn h0 h1
section zCls
variable {E : zE} {σ : zW} {d d2 : Nat} {n : zN}
theorem e0_damage (hW : zWF E) (hu : zU E 0 d = true) (hR : zRd (σ 0 d) n) (hn : nW n) {b : Int} (h0 : 0 ≤ b) (h1 : b < 96) : ∃ σ', f_X0_damage (zH E σ) (zL E 0 d 1) (zI b) = some (zH E σ', zI (zb (decide ((if n (7 + b) = 0 then n (103 + b) else n (199 + b)) = 0)))) ∧ (∀ k' d' c', ¬ (k' = 0 ∧ d' = d) → σ' k' d' c' = σ k' d' c') ∧ (∀ c', c' = 0 ∨ c' = 23 → σ' 0 d c' = σ 0 d c') ∧ zRd (σ' 0 d) (nScr n b) := by
  have hb := hn.2.1 b h0 h1
  have hko := e0_kindOf hW hu hR.1.1 hn.1 hn.2.1 h0 h1
  unfold nScr
  by_cases hk : n (7 + b) = 0
  · rw [if_pos hk, if_pos hk]
    have hr : σ 0 d 3 b = n (103 + b) := hR.1.1.2.2.2.2.1 b h0 h1
    have his := zX_isSet (σ := σ) (E := E) (k := 0) (d := d) (c := 3) (n := 96) hW hu rfl (by decide) (i := b) (by omega) (by omega) (fun _ _ => by rw [hr]; exact hb.2.1)
    rw [if_pos ⟨h0, h1⟩, hr] at his
    refine ⟨zs σ 0 d 3 b 1, ?_, fun k' d' c' hz => zs_ne (by omega), fun c' hc' => zs_ne (by omega), nBd_R h0 h1 hR hn (by funext i; exact zs_at) (fun c hc => zs_ne (by omega))⟩
    simp (disch := first | assumption | omega) only [f_X0_damage, f_X0_damage_J19, zz_blo hW hu, hko, hk, his, zz_dr hW hu, zz_some, zz_lit, zz_num, zI_lt, zI_le, zI_eq, zI_nat, zz_b, if_pos, if_neg, if_true, if_false]
    rcases hb.2.1 with h | h <;> rw [h] <;> rfl
  · rw [if_neg hk, if_neg hk]
    have hr : σ 0 d 4 b = n (199 + b) := hR.1.1.2.2.2.2.2.1 b h0 h1
    have his := zX_isSet (σ := σ) (E := E) (k := 0) (d := d) (c := 4) (n := 96) hW hu rfl (by decide) (i := b) (by omega) (by omega) (fun _ _ => by rw [hr]; exact hb.2.2.1)
    rw [if_pos ⟨h0, h1⟩, hr] at his
    refine ⟨zs σ 0 d 4 b 1, ?_, fun k' d' c' hz => zs_ne (by omega), fun c' hc' => zs_ne (by omega), nSh_R h0 h1 hR hn (by funext i; exact zs_at) (fun c hc => zs_ne (by omega))⟩
    simp (disch := first | assumption | omega) only [f_X0_damage, f_X0_damage_J19, zz_blo hW hu, hko, his, zz_dr hW hu, zz_some, zz_lit, zz_num, zI_lt, zI_le, zI_eq, zI_nat, zz_b, if_pos, if_neg, if_true, if_false]
    try rw [if_neg hk]
    rcases hb.2.2.1 with h | h <;> rw [h] <;> rfl
/-- the first N numbers of a row are v -/
def zq0 (σ : zW) (d c : Nat) (N v : Int) : zW := zr σ 0 d c (fun j => if 0 ≤ j ∧ j < N then v else σ 0 d c j)
theorem zq0_at {σ : zW} {d c : Nat} {N v : Int} : zq0 σ d c N v 0 d c = fun j => if 0 ≤ j ∧ j < N then v else σ 0 d c j := zr_at
theorem zq0_ne {σ : zW} {d c : Nat} {N v : Int} {k' d' c' : Nat} (h : ¬ (k' = 0 ∧ d' = d ∧ c' = c)) : zq0 σ d c N v k' d' c' = σ k' d' c' := zr_ne h
theorem zq0_f {E : zE} {σ : zW} {d : Nat} (hW : zWF E) (hu : zU E 0 d = true) : (∀ v : Int, f_X9_fill (zH E σ) (zL E 0 d 2) (zI v) = some (zH E (zq0 σ d 2 96 v))) ∧ (∀ v : Int, f_X9_fill (zH E σ) (zL E 0 d 5) (zI v) = some (zH E (zq0 σ d 5 96 v))) ∧ (∀ v : Int, f_X9_fill (zH E σ) (zL E 0 d 6) (zI v) = some (zH E (zq0 σ d 6 96 v))) ∧ (∀ v : Int, f_X9_fill (zH E σ) (zL E 0 d 7) (zI v) = some (zH E (zq0 σ d 7 96 v))) ∧ (∀ v : Int, f_X9_fill (zH E σ) (zL E 0 d 8) (zI v) = some (zH E (zq0 σ d 8 96 v))) ∧ (∀ v : Int, f_X9_fill (zH E σ) (zL E 0 d 9) (zI v) = some (zH E (zq0 σ d 9 96 v))) ∧ (f_X9_fill_ (zH E σ) (zL E 0 d 3) (zI 0) = some (zH E (zq0 σ d 3 96 0))) ∧ (f_X9_fill_ (zH E σ) (zL E 0 d 4) (zI 0) = some (zH E (zq0 σ d 4 96 0))) :=
  ⟨fun v => zX_fill hW hu rfl (by decide), fun v => zX_fill hW hu rfl (by decide), fun v => zX_fill hW hu rfl (by decide), fun v => zX_fill hW hu rfl (by decide), fun v => zX_fill hW hu rfl (by decide), fun v => zX_fill hW hu rfl (by decide), zX_fill_ hW hu rfl (by decide) (Or.inl rfl), zX_fill_ hW hu rfl (by decide) (Or.inl rfl)⟩
/-- the first N numbers of a row are another disc's -/
def zq1 (σ τ : zW) (d d2 c : Nat) (N : Int) : zW := zr τ 0 d2 c (fun j => if 0 ≤ j ∧ j < N then σ 0 d c j else τ 0 d2 c j)
theorem zq1_at {σ τ : zW} {d d2 c : Nat} {N : Int} : zq1 σ τ d d2 c N 0 d2 c = fun j => if 0 ≤ j ∧ j < N then σ 0 d c j else τ 0 d2 c j := zr_at
theorem zq1_ne {σ τ : zW} {d d2 c : Nat} {N : Int} {k' d' c' : Nat} (h : ¬ (k' = 0 ∧ d' = d2 ∧ c' = c)) : zq1 σ τ d d2 c N k' d' c' = τ k' d' c' := zr_ne h
theorem e1_format (hW : zWF E) (hu : zU E 0 d = true) {b s : Int} (hb0 : 8 ≤ b) (hb1 : b ≤ 96) (hs0 : 0 ≤ s) (hs1 : s ≤ 16) (hs2 : 2 * s ≤ b) : ∃ σ', f_X1_format (zH E σ) (zL E 0 d 0) (zI b) (zI s) = some (zH E σ') ∧ (∀ k' d' c', ¬ (k' = 0 ∧ d' = d) → σ' k' d' c' = σ k' d' c') ∧ σ' 0 d 23 = σ 0 d 23 ∧ zRd (σ' 0 d) (nFm b s) := by
  refine ⟨(zs (zs (zs (zs (zq0 (zq0 (zq0 (zq0 (zq0 (zq0 (zq0 (zq0 (zs (zs (zs σ 0 d 1 0 b) 0 d 1 1 (b - s)) 0 d 1 2 0) d 2 96 (0)) d 3 96 (0)) d 4 96 (0)) d 5 96 (-1)) d 6 96 (-1)) d 7 96 (-1)) d 8 96 (-1)) d 9 96 (-1)) 0 d 10 0 0) 0 d 16 0 0) 0 d 0 3 0) 0 d 0 5 0), ?_, fun k' d' c' hz => ?_, ?_, ?_⟩
  · simp (disch := first | assumption | omega) only [f_X1_format, f_X0_format, zz_dco hW hu, zz_blo hW hu, zz_vso hW hu, zz_seo hW hu, zz_bl hW hu, zz_vs hW hu, zz_se hW hu, zz_dc hW hu, zq0_f hW hu, zz_some, zz_lit, zz_num, zI_lt, zI_le, zI_eq, zI_nat, zz_b, if_pos, if_neg, if_true, if_false]
  · simp (disch := omega) only [zs_ne, zq0_ne]
  · simp (disch := omega) only [zs_ne, zq0_ne]
  · have e : ∀ i, 2 ≤ i → nFm b s i = 0 := fun i hi => by unfold nFm; rw [if_neg (by omega), if_neg (by omega)]
    have e0 : nFm b s 0 = b := by unfold nFm; rw [if_pos rfl]
    have e1 : nFm b s 1 = s := by unfold nFm; rw [if_neg (by omega), if_pos rfl]
    unfold zRd zRb zRk zRv zRs zRf
    rw [e0, e1, e 2 (by omega), e 3 (by omega), e 4 (by omega), e 5 (by omega), e 6 (by omega)]
    refine ⟨⟨⟨?_, ?_, ?_, fun c c0 c1 => ?_, fun c c0 c1 => ?_, fun c c0 c1 => ?_, fun c c0 c1 => ?_, fun c c0 c1 => ?_, fun c c0 c1 => ?_, fun c c0 c1 => ?_⟩, fun c c0 c1 => ?_⟩, ⟨?_, fun v v0 v1 => by omega, fun v v0 v1 => by omega, fun v v0 v1 => by omega, fun v v0 v1 => by omega, fun v v0 v1 => by omega⟩, ⟨?_, fun v v0 v1 => by omega, fun v v0 v1 => by omega, fun v v0 v1 => by omega, fun v v0 v1 => by omega, fun v k v0 v1 => by omega, fun v k v0 v1 => by omega, fun v v0 v1 => by omega⟩, ?_, ?_⟩
    all_goals (try rw [e _ (by omega)])
    all_goals simp (disch := omega) only [zs_ne, zq0_ne, zq0_at, zs_at, if_pos, if_neg]
    all_goals (try omega)
    all_goals (try simp)
theorem zq1_f {E : zE} {σ : zW} {d d2 : Nat} (hW : zWF E) (hu : zU E 0 d = true) (hu2 : zU E 0 d2 = true) (hd : d2 ≠ d) (h3 : ∀ j, 0 ≤ j → j < 96 → σ 0 d 3 j = 0 ∨ σ 0 d 3 j = 1) (h4 : ∀ j, 0 ≤ j → j < 96 → σ 0 d 4 j = 0 ∨ σ 0 d 4 j = 1) : (∀ τ : zW, τ 0 d 2 = σ 0 d 2 → f_X9_copy (zH E τ) (zL E 0 d 2) (zL E 0 d2 2) = some (zH E (zq1 σ τ d d2 2 96))) ∧ (∀ τ : zW, τ 0 d 3 = σ 0 d 3 → f_X9_copy_ (zH E τ) (zL E 0 d 3) (zL E 0 d2 3) = some (zH E (zq1 σ τ d d2 3 96))) ∧ (∀ τ : zW, τ 0 d 4 = σ 0 d 4 → f_X9_copy_ (zH E τ) (zL E 0 d 4) (zL E 0 d2 4) = some (zH E (zq1 σ τ d d2 4 96))) ∧ (∀ τ : zW, τ 0 d 5 = σ 0 d 5 → f_X9_copy (zH E τ) (zL E 0 d 5) (zL E 0 d2 5) = some (zH E (zq1 σ τ d d2 5 96))) ∧ (∀ τ : zW, τ 0 d 6 = σ 0 d 6 → f_X9_copy (zH E τ) (zL E 0 d 6) (zL E 0 d2 6) = some (zH E (zq1 σ τ d d2 6 96))) ∧ (∀ τ : zW, τ 0 d 7 = σ 0 d 7 → f_X9_copy (zH E τ) (zL E 0 d 7) (zL E 0 d2 7) = some (zH E (zq1 σ τ d d2 7 96))) ∧ (∀ τ : zW, τ 0 d 8 = σ 0 d 8 → f_X9_copy (zH E τ) (zL E 0 d 8) (zL E 0 d2 8) = some (zH E (zq1 σ τ d d2 8 96))) ∧ (∀ τ : zW, τ 0 d 9 = σ 0 d 9 → f_X9_copy (zH E τ) (zL E 0 d 9) (zL E 0 d2 9) = some (zH E (zq1 σ τ d d2 9 96))) ∧ (∀ τ : zW, τ 0 d 11 = σ 0 d 11 → f_X9_copy (zH E τ) (zL E 0 d 11) (zL E 0 d2 11) = some (zH E (zq1 σ τ d d2 11 96))) ∧ (∀ τ : zW, τ 0 d 12 = σ 0 d 12 → f_X9_copy (zH E τ) (zL E 0 d 12) (zL E 0 d2 12) = some (zH E (zq1 σ τ d d2 12 96))) ∧ (∀ τ : zW, τ 0 d 13 = σ 0 d 13 → f_X9_copy (zH E τ) (zL E 0 d 13) (zL E 0 d2 13) = some (zH E (zq1 σ τ d d2 13 96))) ∧ (∀ τ : zW, τ 0 d 14 = σ 0 d 14 → f_X9_copy (zH E τ) (zL E 0 d 14) (zL E 0 d2 14) = some (zH E (zq1 σ τ d d2 14 96))) ∧ (∀ τ : zW, τ 0 d 15 = σ 0 d 15 → f_X9_copy (zH E τ) (zL E 0 d 15) (zL E 0 d2 15) = some (zH E (zq1 σ τ d d2 15 96))) ∧ (∀ τ : zW, τ 0 d 17 = σ 0 d 17 → f_X9_copy (zH E τ) (zL E 0 d 17) (zL E 0 d2 17) = some (zH E (zq1 σ τ d d2 17 12))) ∧ (∀ τ : zW, τ 0 d 18 = σ 0 d 18 → f_X9_copy (zH E τ) (zL E 0 d 18) (zL E 0 d2 18) = some (zH E (zq1 σ τ d d2 18 12))) ∧ (∀ τ : zW, τ 0 d 19 = σ 0 d 19 → f_X9_copy (zH E τ) (zL E 0 d 19) (zL E 0 d2 19) = some (zH E (zq1 σ τ d d2 19 12))) ∧ (∀ τ : zW, τ 0 d 20 = σ 0 d 20 → f_X9_copy (zH E τ) (zL E 0 d 20) (zL E 0 d2 20) = some (zH E (zq1 σ τ d d2 20 12))) ∧ (∀ τ : zW, τ 0 d 21 = σ 0 d 21 → f_X9_copy (zH E τ) (zL E 0 d 21) (zL E 0 d2 21) = some (zH E (zq1 σ τ d d2 21 120))) ∧ (∀ τ : zW, τ 0 d 22 = σ 0 d 22 → f_X9_copy (zH E τ) (zL E 0 d 22) (zL E 0 d2 22) = some (zH E (zq1 σ τ d d2 22 120))) ∧ (∀ τ : zW, τ 0 d 23 = σ 0 d 23 → f_X9_copy__ (zH E τ) (zL E 0 d 23) (zL E 0 d2 23) = some (zH E (zq1 σ τ d d2 23 10))) ∧ (∀ τ : zW, τ 0 d 24 = σ 0 d 24 → f_X9_copy (zH E τ) (zL E 0 d 24) (zL E 0 d2 24) = some (zH E (zq1 σ τ d d2 24 12))) := by
  refine ⟨?_, ?_, ?_, ?_, ?_, ?_, ?_, ?_, ?_, ?_, ?_, ?_, ?_, ?_, ?_, ?_, ?_, ?_, ?_, ?_, ?_⟩
  · intro τ h; unfold zq1; rw [← h]; exact zX_copy (n := 96) hd hW hu rfl hu2 (by decide)
  · intro τ h; unfold zq1; rw [← h]; exact zX_copy_ (n := 96) hd hW hu rfl hu2 (by decide) (fun j j0 j1 => by rw [h]; exact h3 j j0 (by omega))
  · intro τ h; unfold zq1; rw [← h]; exact zX_copy_ (n := 96) hd hW hu rfl hu2 (by decide) (fun j j0 j1 => by rw [h]; exact h4 j j0 (by omega))
  · intro τ h; unfold zq1; rw [← h]; exact zX_copy (n := 96) hd hW hu rfl hu2 (by decide)
  · intro τ h; unfold zq1; rw [← h]; exact zX_copy (n := 96) hd hW hu rfl hu2 (by decide)
  · intro τ h; unfold zq1; rw [← h]; exact zX_copy (n := 96) hd hW hu rfl hu2 (by decide)
  · intro τ h; unfold zq1; rw [← h]; exact zX_copy (n := 96) hd hW hu rfl hu2 (by decide)
  · intro τ h; unfold zq1; rw [← h]; exact zX_copy (n := 96) hd hW hu rfl hu2 (by decide)
  · intro τ h; unfold zq1; rw [← h]; exact zX_copy (n := 96) hd hW hu rfl hu2 (by decide)
  · intro τ h; unfold zq1; rw [← h]; exact zX_copy (n := 96) hd hW hu rfl hu2 (by decide)
  · intro τ h; unfold zq1; rw [← h]; exact zX_copy (n := 96) hd hW hu rfl hu2 (by decide)
  · intro τ h; unfold zq1; rw [← h]; exact zX_copy (n := 96) hd hW hu rfl hu2 (by decide)
  · intro τ h; unfold zq1; rw [← h]; exact zX_copy (n := 96) hd hW hu rfl hu2 (by decide)
  · intro τ h; unfold zq1; rw [← h]; exact zX_copy (n := 12) hd hW hu rfl hu2 (by decide)
  · intro τ h; unfold zq1; rw [← h]; exact zX_copy (n := 12) hd hW hu rfl hu2 (by decide)
  · intro τ h; unfold zq1; rw [← h]; exact zX_copy (n := 12) hd hW hu rfl hu2 (by decide)
  · intro τ h; unfold zq1; rw [← h]; exact zX_copy (n := 12) hd hW hu rfl hu2 (by decide)
  · intro τ h; unfold zq1; rw [← h]; exact zX_copy (n := 120) hd hW hu rfl hu2 (by decide)
  · intro τ h; unfold zq1; rw [← h]; exact zX_copy (n := 120) hd hW hu rfl hu2 (by decide)
  · intro τ h; unfold zq1; rw [← h]; exact zX_copy__ (n := 10) hd hW hu rfl hu2 (by decide)
  · intro τ h; unfold zq1; rw [← h]; exact zX_copy (n := 12) hd hW hu rfl hu2 (by decide)
set_option maxHeartbeats 4000000 in
theorem e1_takeFrom (hW : zWF E) (hu : zU E 0 d = true) (hu2 : zU E 0 d2 = true) (hd : d2 ≠ d) (hR : zRd (σ 0 d) n) (hn : nW n) : ∃ σ', f_X1_takeFrom (zH E σ) (zL E 0 d2 0) (zL E 0 d 0) = some (zH E σ') ∧ (∀ k' d' c', ¬ (k' = 0 ∧ d' = d2) → σ' k' d' c' = σ k' d' c') ∧ (∀ i, 0 ≤ i → i < 10 → σ' 0 d2 23 i = σ 0 d 23 i) ∧ zRd (σ' 0 d2) n := by
  have hN := hn.1.r
  have hver := hn.2.2.1.1
  have h3 : ∀ j, 0 ≤ j → j < 96 → σ 0 d 3 j = 0 ∨ σ 0 d 3 j = 1 := fun j j0 j1 => by rw [hR.1.1.2.2.2.2.1 j j0 j1]; exact (hn.2.1 j j0 j1).2.1
  have h4 : ∀ j, 0 ≤ j → j < 96 → σ 0 d 4 j = 0 ∨ σ 0 d 4 j = 1 := fun j j0 j1 => by rw [hR.1.1.2.2.2.2.2.1 j j0 j1]; exact (hn.2.1 j j0 j1).2.2.1
  have h5 : g_z (zI (σ 0 d 0 5)) = some (zI (σ 0 d 0 5)) := by
    rw [hR.2.2.2.2]
    rcases hN.2.2.2.2.2.1 with h | h <;> rw [h] <;> rfl
  refine ⟨(zs (zq1 σ (zs (zq1 σ (zq1 σ (zq1 σ (zq1 σ (zq1 σ (zq1 σ (zq1 σ (zs (zq1 σ (zq1 σ (zq1 σ (zq1 σ (zq1 σ (zs (zq1 σ (zq1 σ (zq1 σ (zq1 σ (zq1 σ (zq1 σ (zq1 σ (zq1 σ (zs (zs (zs σ 0 d2 1 0 (σ 0 d 1 0)) 0 d2 1 1 (σ 0 d 1 1)) 0 d2 1 2 (σ 0 d 1 2)) d d2 2 96) d d2 3 96) d d2 4 96) d d2 5 96) d d2 6 96) d d2 7 96) d d2 8 96) d d2 9 96) 0 d2 10 0 (σ 0 d 10 0)) d d2 11 96) d d2 12 96) d d2 13 96) d d2 14 96) d d2 15 96) 0 d2 16 0 (σ 0 d 16 0)) d d2 17 12) d d2 18 12) d d2 19 12) d d2 24 12) d d2 20 12) d d2 21 120) d d2 22 120) 0 d2 0 3 (σ 0 d 0 3)) d d2 23 10) 0 d2 0 5 (σ 0 d 0 5)), ?_, fun k' d' c' hz => ?_, fun i i0 i1 => ?_, ?_⟩
  · simp (disch := first | assumption | omega | (simp (disch := omega) only [zs_ne, zq1_ne])) only [f_X1_takeFrom, f_X0_takeFrom, f_X7_takeFrom, f_X5_takeFrom, zz_dco hW hu, zz_blo hW hu, zz_vso hW hu, zz_seo hW hu, zz_dco hW hu2, zz_blo hW hu2, zz_vso hW hu2, zz_seo hW hu2, zz_bl hW hu, zz_vs hW hu, zz_se hW hu, zz_dc hW hu, zz_bl hW hu2, zz_vs hW hu2, zz_se hW hu2, zz_dc hW hu2, zq1_f hW hu hu2 hd h3 h4, zs_ne, zq1_ne, h5, zz_some, zz_lit, zz_num, zz_b, if_true, if_false]
  · simp (disch := omega) only [zs_ne, zq1_ne]
  · simp (disch := omega) only [zs_ne, zq1_ne, zq1_at, if_pos]
  · obtain ⟨⟨⟨r0, r1, r2, r3, r4, r5, r6, r7, r8, r9⟩, r10⟩, ⟨b1, b2, b3, b4, b5, b6⟩, ⟨c1, c2, c3, c4, c5, c6, c7, c8⟩, ⟨d1, d3⟩⟩ := hR
    refine ⟨⟨⟨?_, ?_, ?_, fun c c0 c1 => ?_, fun c c0 c1 => ?_, fun c c0 c1 => ?_, fun c c0 c1 => ?_, fun c c0 c1 => ?_, fun c c0 c1 => ?_, fun c c0 c1 => ?_⟩, fun c c0 c1 => ?_⟩, ⟨?_, fun v v0 v1 => ?_, fun v v0 v1 => ?_, fun v v0 v1 => ?_, fun v v0 v1 => ?_, fun v v0 v1 => ?_⟩, ⟨?_, fun v v0 v1 => ?_, fun v v0 v1 => ?_, fun v v0 v1 => ?_, fun v v0 v1 => ?_, fun v k v0 v1 k0 k1 => ?_, fun v k v0 v1 k0 k1 => ?_, fun v v0 v1 => ?_⟩, ?_, ?_⟩
    all_goals (try have he := hn.2.2.2.ent hn.1 v0 v1)
    all_goals simp (disch := omega) only [zs_ne, zq1_ne, zq1_at, zs_at, if_pos, if_neg]
    · exact r0
    · exact r1
    · exact r2
    · exact r3 c c0 c1
    · exact r4 c c0 c1
    · exact r5 c c0 c1
    · exact r6 c c0 c1
    · exact r7 c c0 c1
    · exact r8 c c0 c1
    · exact r9 c c0 c1
    · exact r10 c c0 c1
    · exact b1
    · exact b2 v v0 v1
    · exact b3 v v0 v1
    · exact b4 v v0 v1
    · exact b5 v v0 v1
    · exact b6 v v0 v1
    · exact c1
    · exact c2 v v0 v1
    · exact c3 v v0 v1
    · exact c4 v v0 v1
    · exact c5 v v0 v1
    · exact c6 v k v0 v1 k0 k1
    · exact c7 v k v0 v1 k0 k1
    · exact c8 v v0 v1
    · exact d1
    · exact d3
end zCls
end
section
/-! The reference's calls that only read. -/
def zth (σ : zW) (v : Int) : zW := zs σ 3 0 0 0 v
theorem zth_zth {σ : zW} {v w : Int} : zs (zth σ v) 3 0 0 0 w = zth σ w := by
  funext k d c i
  unfold zth zs
  by_cases h : k = 3 ∧ d = 0 ∧ c = 0 ∧ i = 0
  · rw [if_pos h, if_pos h]
  · rw [if_neg h, if_neg h, if_neg h]
theorem zth_c {σ : zW} {v : Int} {k d c : Nat} (h : ¬ (k = 3 ∧ d = 0 ∧ c = 0)) : zth σ v k d c = σ k d c := zs_ne h
theorem zth_0 {σ : zW} {v : Int} : zth σ v 3 0 0 0 = v := by unfold zth; rw [zs_at, if_pos rfl]
theorem zth_i {σ : zW} {v i : Int} (h : i ≠ 0) : zth σ v 3 0 0 i = σ 3 0 0 i := by unfold zth; rw [zs_at, if_neg h]
/-- only scratch and the thrown number (now e) differ -/
def zT (σ σ' : zW) (e : Int) : Prop := (∀ k d c, ¬ (k = 3 ∧ d = 0 ∧ (c = 0 ∨ c = 17 ∨ c = 21 ∨ c = 23)) → σ' k d c = σ k d c) ∧ (∀ i, i ≠ 0 → i ≠ 18 → i ≠ 19 → i ≠ 20 → i ≠ 22 → σ' 3 0 0 i = σ 3 0 0 i) ∧ σ' 3 0 0 0 = e
theorem zT.th (σ : zW) (e : Int) : zT σ (zth σ e) e := ⟨fun k d c z => zth_c (by omega), fun i a _ _ _ _ => zth_i a, zth_0⟩
theorem zT.q {σ σ1 σ2 : zW} {e : Int} (h : zT σ σ1 e) (q : zQ σ1 σ2) : zT σ σ2 e := ⟨fun k d c z => (q.1 k d c z).trans (h.1 k d c z), fun i a b c d e => (q.2 i b c d e).trans (h.2.1 i a b c d e), (q.2 0 (by omega) (by omega) (by omega) (by omega)).trans h.2.2⟩
theorem zT.t {σ σ1 σ2 : zW} {e e1 : Int} (h : zT σ σ1 e) (q : zT σ1 σ2 e1) : zT σ σ2 e1 := ⟨fun k d c z => (q.1 k d c z).trans (h.1 k d c z), fun i a b c d e => (q.2.1 i a b c d e).trans (h.2.1 i a b c d e), q.2.2⟩
theorem zT.n {σ σ' : zW} {e : Int} (h : zT σ σ' e) : σ' 3 0 1 = σ 3 0 1 := h.1 3 0 1 (by omega)
theorem nEw2 {n : zN} (hn : nW n) {s : Int} (h0 : 0 ≤ s) (h1 : s < n 3) : 0 ≤ nS n s 2 ∧ nS n s 2 ≤ 10 := by
  have h := (hn.2.2.2 s h0 h1).2.2.2.1
  have h2 := (zcn_rng (fun f => decide (nEn n s f ≠ -1)) (n 2).toNat 0).2
  have hN := hn.1.r
  omega
theorem zz10 : ¬ (zI 1 = (0 : Int32)) := by decide
section zMod
variable {E : zE} {σ : zW} {n : zN}

theorem e10_th0 (hW : zWF E) (hm : zU E 3 0 = true) (h0 : σ 3 0 0 0 = 0) {w : Int} : f_X10_throwsIf (zH E σ) (zL E 3 0 0) (zI 0) (zI w) = some ((zH E σ), zI 0) := by
  simp (disch := first | assumption | omega) only [f_X10_throwsIf, f_X10_throwsIf_J16, zg_md0 hW hm, h0, zz_some, zz_lit, zz_num, zI_lt, zI_le, zI_eq, zI_nat, zz_b, if_pos, if_neg, if_true, if_false]
theorem e10_th1 (hW : zWF E) (hm : zU E 3 0 = true) (h0 : σ 3 0 0 0 = 0) {w : Int} (hw : 1 ≤ w) (hw1 : w ≤ 9) : f_X10_throwsIf (zH E σ) (zL E 3 0 0) (zI 1) (zI w) = some (zH E (zth σ w), zI 1) := by
  have h2 := zg_md0 (σ := zth σ w) hW hm
  rw [zth_0] at h2
  have h3 : zs σ 3 0 0 0 w = zth σ w := rfl
  simp (disch := first | assumption | omega) only [f_X10_throwsIf, f_X10_throwsIf_J16, zg_md0 hW hm, zp_md0 hW hm, h0, h3, zth_0, zz_some, zz_lit, zz_num, zI_lt, zI_le, zI_eq, zI_nat, zz_b, if_pos, if_neg, if_true, if_false]
theorem e10_win {x lo hi : Int} (G : gH) (hx0 : -2147483648 ≤ x) (hx1 : x < 2147483648) (hl : 0 ≤ lo) (hl2 : lo < 1000) (hh : -2 ≤ hi) (hh2 : hi < 1000) : f_X10_within G (zI x) (zI lo) (zI hi) = some (zI (zb (decide (lo ≤ x ∧ x ≤ hi)))) := by
  by_cases h1 : x < lo
  · have e : decide (lo ≤ x ∧ x ≤ hi) = false := decide_eq_false (by omega)
    rw [e]
    simp (disch := first | assumption | omega) only [f_X10_within, zz_some, zz_lit, zz_num, zI_lt, zI_le, zI_eq, zI_nat, zz_b, if_pos, if_neg, if_true, if_false]
    rfl
  · by_cases h2 : hi < x
    · have e : decide (lo ≤ x ∧ x ≤ hi) = false := decide_eq_false (by omega)
      rw [e]
      simp (disch := first | assumption | omega) only [f_X10_within, zz_some, zz_lit, zz_num, zI_lt, zI_le, zI_eq, zI_nat, zz_b, if_pos, if_neg, if_true, if_false]
      rfl
    · have e : decide (lo ≤ x ∧ x ≤ hi) = true := decide_eq_true (by omega)
      rw [e]
      simp (disch := first | assumption | omega) only [f_X10_within, zz_some, zz_lit, zz_num, zI_lt, zI_le, zI_eq, zI_nat, zz_b, if_pos, if_neg, if_true, if_false]
      rfl
theorem e10_no (hW : zWF E) (hm : zU E 3 0 = true) {x m : Int} (hx0 : -2147483648 ≤ x) (hx1 : x < 2147483648) (hm0 : 0 ≤ m) (hm1 : m < 1000) : f_X10_no (zH E σ) (zL E 3 0 0) (zI x) (zI m) = if 0 ≤ x ∧ x < m then some (zH E (zth σ 0), zI 0) else some (zH E (zth σ 1), zI 1) := by
  have hw := e10_win (x := x) (lo := 0) (hi := m - 1) (zH E (zth σ 0)) hx0 hx1 (by omega) (by omega) (by omega) (by omega)
  have h0 : zth σ 0 3 0 0 0 = 0 := zth_0
  have hz : zs σ 3 0 0 0 0 = zth σ 0 := rfl
  have hz2 : zth (zth σ 0) 1 = zth σ 1 := zth_zth
  have ha := e10_th0 (w := 1) hW hm h0
  have hb := e10_th1 (w := 1) hW hm h0 (by omega) (by omega)
  rw [hz2] at hb
  by_cases h : 0 ≤ x ∧ x < m
  · have e : decide (0 ≤ x ∧ x ≤ m - 1) = true := decide_eq_true (by omega)
    rw [e] at hw
    rw [if_pos h]
    simp (disch := first | assumption | omega) only [f_X10_no, zp_md0 hW hm, zz_mdo hW hm, hz, hw, ha, hb, zz_some, zz_lit, zz_num, zI_lt, zI_le, zI_eq, zI_nat, zz_b, if_pos, if_neg, if_true, if_false]
    simp
  · have e : decide (0 ≤ x ∧ x ≤ m - 1) = false := decide_eq_false (by omega)
    rw [e] at hw
    rw [if_neg h]
    simp (disch := first | assumption | omega) only [f_X10_no, zp_md0 hW hm, zz_mdo hW hm, hz, hw, ha, hb, zz_some, zz_lit, zz_num, zI_lt, zI_le, zI_eq, zI_nat, zz_b, if_pos, if_neg, if_true, if_false]
    try simp

theorem e10_noBlock (hW : zWF E) (hm : zU E 3 0 = true) (h1 : σ 3 0 1 = n) (hn : nW n) {x : Int} (hx0 : -2147483648 ≤ x) (hx1 : x < 2147483648) : f_X10_noBlock (zH E σ) (zL E 3 0 0) (zI x) = if 0 ≤ x ∧ x < n 0 then some (zH E (zth σ 0), zI 0) else some (zH E (zth σ 1), zI 1) := by
  have hN' := hn.1.r
  have h := e10_no (σ := σ) (x := x) (m := n 0) hW hm hx0 hx1 (by omega) (by omega)
  simp (disch := first | assumption | omega) only [f_X10_noBlock, h, zz_mdo hW hm, zz_ra hW hm, h1, zz_some, zz_lit, zz_num, zI_lt, zI_le, zI_eq, zI_nat, zz_b, if_pos, if_neg, if_true, if_false]
  by_cases hc : 0 ≤ x ∧ x < n 0
  · rw [if_pos hc, zz_some]; simp (disch := first | assumption | omega) only [zz_some, zz_lit, zz_num, zI_lt, zI_le, zI_eq, zI_nat, zz_b, if_pos, if_neg, if_true, if_false]
  · rw [if_neg hc, zz_some]; simp (disch := first | assumption | omega) only [zz_some, zz_lit, zz_num, zI_lt, zI_le, zI_eq, zI_nat, zz_b, if_pos, if_neg, if_true, if_false]

theorem e10_noSession (hW : zWF E) (hm : zU E 3 0 = true) (h1 : σ 3 0 1 = n) (hn : nW n) {x : Int} (hx0 : -2147483648 ≤ x) (hx1 : x < 2147483648) : f_X10_noSession (zH E σ) (zL E 3 0 0) (zI x) = if 0 ≤ x ∧ x < n 3 then some (zH E (zth σ 0), zI 0) else some (zH E (zth σ 1), zI 1) := by
  have hN' := hn.1.r
  have h := e10_no (σ := σ) (x := x) (m := n 3) hW hm hx0 hx1 (by omega) (by omega)
  simp (disch := first | assumption | omega) only [f_X10_noSession, h, zz_mdo hW hm, zz_ra hW hm, h1, zz_some, zz_lit, zz_num, zI_lt, zI_le, zI_eq, zI_nat, zz_b, if_pos, if_neg, if_true, if_false]
  by_cases hc : 0 ≤ x ∧ x < n 3
  · rw [if_pos hc, zz_some]; simp (disch := first | assumption | omega) only [zz_some, zz_lit, zz_num, zI_lt, zI_le, zI_eq, zI_nat, zz_b, if_pos, if_neg, if_true, if_false]
  · rw [if_neg hc, zz_some]; simp (disch := first | assumption | omega) only [zz_some, zz_lit, zz_num, zI_lt, zI_le, zI_eq, zI_nat, zz_b, if_pos, if_neg, if_true, if_false]

theorem e10_noFile (hW : zWF E) (hm : zU E 3 0 = true) (h1 : σ 3 0 1 = n) (hn : nW n) {x : Int} (hx0 : -2147483648 ≤ x) (hx1 : x < 2147483648) : f_X10_noFile (zH E σ) (zL E 3 0 0) (zI x) = if 0 ≤ x ∧ x < n 2 then some (zH E (zth σ 0), zI 0) else some (zH E (zth σ 1), zI 1) := by
  have hN' := hn.1.r
  have h := e10_no (σ := σ) (x := x) (m := n 2) hW hm hx0 hx1 (by omega) (by omega)
  simp (disch := first | assumption | omega) only [f_X10_noFile, h, zz_mdo hW hm, zz_ra hW hm, h1, zz_some, zz_lit, zz_num, zI_lt, zI_le, zI_eq, zI_nat, zz_b, if_pos, if_neg, if_true, if_false]
  by_cases hc : 0 ≤ x ∧ x < n 2
  · rw [if_pos hc, zz_some]; simp (disch := first | assumption | omega) only [zz_some, zz_lit, zz_num, zI_lt, zI_le, zI_eq, zI_nat, zz_b, if_pos, if_neg, if_true, if_false]
  · rw [if_neg hc, zz_some]; simp (disch := first | assumption | omega) only [zz_some, zz_lit, zz_num, zI_lt, zI_le, zI_eq, zI_nat, zz_b, if_pos, if_neg, if_true, if_false]

def aSize (n : zN) (u x : Int) : Int := if x = 5 then zcn (fun b => decide (n (7 + b) = 0)) (n 0 - n 1) (n 1).toNat else if x = 6 then zcn (fun b => decide (n (103 + b) = 1)) 0 (n 0).toNat else if x = 7 then nTh n 12 else if x = 8 then zcn (nGd n) 0 (n 2).toNat else if x = 9 then zb (nOp n) else if x = 10 then n 5 else if x = 11 then u else if x = 12 then n 6 else n x
def aBlock (n : zN) (b x : Int) : Int := if x = 0 then n (7 + b) else if x = 1 then n (103 + b) else if x = 2 then n (199 + b) else if x = 3 then n (295 + b) - 1 else if x = 4 then n (391 + b) - 1 else if x = 5 then n (487 + b) - 1 else n (583 + b) - 1
def aSession (n : zN) (s x : Int) : Int := if x = 0 then nS n s 0 else if x = 1 then nS n s 1 else if x = 2 then zcn (fun b => decide (n (295 + b) = s + 1)) 0 (n 0 - n 1).toNat else if x = 3 then nS n s 2 else if x = 4 then nS n s 3 - 1 else if x = 5 then zb (nRdD n s) else if x = 6 then nS n s 4 - 1 else if x = 7 then zb (nRe n s) else zcn (fun b => decide (n (295 + b) = s + 1)) (n 0 - n 1) (n 1).toNat
def aEntry (n : zN) (s k x : Int) : Int := if 0 ≤ k ∧ k < nS n s 2 then (if 2 ≤ x then (if nS n s (6 + 2 * k) = -1 then (if x = 3 then 0 else -1) else nV n (nS n s (6 + 2 * k)) (x - 1)) else if x = 0 then nS n s (5 + 2 * k) else nS n s (6 + 2 * k)) else -1
def aFile (n : zN) (f x : Int) : Int := if x = 0 then (if nFv n f 12 = -1 then 0 else 1) else if x = 1 then (if nFv n f 12 = -1 then 0 else zb (nRv n (nFv n f 12))) else if x = 2 then nFv n f 12 else if x = 3 then (if nFv n f 12 = -1 then 0 else nV n (nFv n f 12) 2) else if x = 4 then (if nFv n f 12 = -1 then -1 else nV n (nFv n f 12) 3) else if x = 5 then nSk n f 12 else zcn (fun v => decide (nV n v 0 = f)) 0 (n 6).toNat
def aWhere (n : zN) (f k : Int) : Int := if nFv n f 12 = -1 then -1 else if 0 ≤ k ∧ k < nV n (nFv n f 12) 2 then nPl n (nV n (nFv n f 12) 1 + k) else -1
def aPlace (n : zN) (b : Int) : Int := if b < n 0 - n 1 then (if n (7 + b) = 0 then -1 else nPl n b) else -1
def aWhyNot (n : zN) (x : Int) : Int := if x = 0 then nWc n else if x = 1 then zb (!nOp n) else nWr n

theorem e10_size_J21_1 (hW : zWF E) (hm : zU E 3 0 = true) (h0 : σ 3 0 0 0 = 0) {x y z : Int} : f_X10_size_J21 (zH E σ) (zL E 3 0 0) (zI x) (zL E 3 0 0) (zI 1) = some (zH E (zth σ 1), zI 0) := by
  have h := e10_th1 (w := 1) hW hm h0 (by omega) (by omega)
  have hob : g_ob (zH E σ) (zL E 3 0 0) 10 = some () := by simp only [zz_mdo hW hm]
  rw [f_X10_size_J21, hob, zz_some, show (1 : Int32) = zI 1 from rfl, h, zz_some, if_neg zz10]
  rfl

theorem e10_block_J24_1 (hW : zWF E) (hm : zU E 3 0 = true) (h0 : σ 3 0 0 0 = 0) {x y z : Int} : f_X10_block_J24 (zH E σ) (zL E 3 0 0) (zI y) (zI x) (zL E 3 0 0) (zI 1) = some (zH E (zth σ 2), zI 0) := by
  have h := e10_th1 (w := 2) hW hm h0 (by omega) (by omega)
  have hob : g_ob (zH E σ) (zL E 3 0 0) 10 = some () := by simp only [zz_mdo hW hm]
  rw [f_X10_block_J24, hob, zz_some, show (2 : Int32) = zI 2 from rfl, h, zz_some, if_neg zz10]
  rfl

theorem e10_session_J24_1 (hW : zWF E) (hm : zU E 3 0 = true) (h0 : σ 3 0 0 0 = 0) {x y z : Int} : f_X10_session_J24 (zH E σ) (zL E 3 0 0) (zI y) (zI x) (zL E 3 0 0) (zI 1) = some (zH E (zth σ 2), zI 0) := by
  have h := e10_th1 (w := 2) hW hm h0 (by omega) (by omega)
  have hob : g_ob (zH E σ) (zL E 3 0 0) 10 = some () := by simp only [zz_mdo hW hm]
  rw [f_X10_session_J24, hob, zz_some, show (2 : Int32) = zI 2 from rfl, h, zz_some, if_neg zz10]
  rfl

theorem e10_entry_J23_1 (hW : zWF E) (hm : zU E 3 0 = true) (h0 : σ 3 0 0 0 = 0) {x y z : Int} : f_X10_entry_J23 (zH E σ) (zL E 3 0 0) (zI y) (zI z) (zI x) (zL E 3 0 0) (zI 1) = some (zH E (zth σ 2), zI 0) := by
  have h := e10_th1 (w := 2) hW hm h0 (by omega) (by omega)
  have hob : g_ob (zH E σ) (zL E 3 0 0) 10 = some () := by simp only [zz_mdo hW hm]
  rw [f_X10_entry_J23, hob, zz_some, show (2 : Int32) = zI 2 from rfl, h, zz_some, if_neg zz10]
  rfl

theorem e10_file_J24_1 (hW : zWF E) (hm : zU E 3 0 = true) (h0 : σ 3 0 0 0 = 0) {x y z : Int} : f_X10_file_J24 (zH E σ) (zL E 3 0 0) (zI y) (zI x) (zL E 3 0 0) (zI 1) = some (zH E (zth σ 2), zI 0) := by
  have h := e10_th1 (w := 2) hW hm h0 (by omega) (by omega)
  have hob : g_ob (zH E σ) (zL E 3 0 0) 10 = some () := by simp only [zz_mdo hW hm]
  rw [f_X10_file_J24, hob, zz_some, show (2 : Int32) = zI 2 from rfl, h, zz_some, if_neg zz10]
  rfl

theorem e10_whyNotWrite_J24_1 (hW : zWF E) (hm : zU E 3 0 = true) (h0 : σ 3 0 0 0 = 0) {x y z : Int} : f_X10_whyNotWrite_J24 (zH E σ) (zL E 3 0 0) (zI y) (zI x) (zL E 3 0 0) (zI 1) = some (zH E (zth σ 2), zI 0) := by
  have h := e10_th1 (w := 2) hW hm h0 (by omega) (by omega)
  have hob : g_ob (zH E σ) (zL E 3 0 0) 10 = some () := by simp only [zz_mdo hW hm]
  rw [f_X10_whyNotWrite_J24, hob, zz_some, show (2 : Int32) = zI 2 from rfl, h, zz_some, if_neg zz10]
  rfl

theorem e10_space_J20_1 (hW : zWF E) (hm : zU E 3 0 = true) (h0 : σ 3 0 0 0 = 0) {x y z : Int} : f_X10_space_J20 (zH E σ) (zL E 3 0 0) (zI x) (zL E 3 0 0) (zI 1) = some (zH E (zth σ 1), zI 0) := by
  have h := e10_th1 (w := 1) hW hm h0 (by omega) (by omega)
  have hob : g_ob (zH E σ) (zL E 3 0 0) 10 = some () := by simp only [zz_mdo hW hm]
  rw [f_X10_space_J20, hob, zz_some, show (1 : Int32) = zI 1 from rfl, h, zz_some, if_neg zz10]
  rfl

theorem e10_spaceOf_J23_1 (hW : zWF E) (hm : zU E 3 0 = true) (h0 : σ 3 0 0 0 = 0) {x y z : Int} : f_X10_spaceOf_J23 (zH E σ) (zL E 3 0 0) (zI y) (zI x) (zL E 3 0 0) (zI 1) = some (zH E (zth σ 2), zI 0) := by
  have h := e10_th1 (w := 2) hW hm h0 (by omega) (by omega)
  have hob : g_ob (zH E σ) (zL E 3 0 0) 10 = some () := by simp only [zz_mdo hW hm]
  rw [f_X10_spaceOf_J23, hob, zz_some, show (2 : Int32) = zI 2 from rfl, h, zz_some, if_neg zz10]
  rfl

theorem e10_whyNot_J20_1 (hW : zWF E) (hm : zU E 3 0 = true) (h0 : σ 3 0 0 0 = 0) {x y z : Int} : f_X10_whyNot_J20 (zH E σ) (zL E 3 0 0) (zI x) (zL E 3 0 0) (zI 1) = some (zH E (zth σ 1), zI 0) := by
  have h := e10_th1 (w := 1) hW hm h0 (by omega) (by omega)
  have hob : g_ob (zH E σ) (zL E 3 0 0) 10 = some () := by simp only [zz_mdo hW hm]
  rw [f_X10_whyNot_J20, hob, zz_some, show (1 : Int32) = zI 1 from rfl, h, zz_some, if_neg zz10]
  rfl

theorem e10_size_J21_0 (hW : zWF E) (hm : zU E 3 0 = true) (h1 : σ 3 0 1 = n) (hn : nW n) (h0 : σ 3 0 0 0 = 0) {x  : Int} (hx0 : 0 ≤ x) (hx1 : x ≤ 12)  : ∃ σ', f_X10_size_J21 (zH E σ) (zL E 3 0 0) (zI x) (zL E 3 0 0) (zI 0) = some (zH E σ', zI (aSize n (σ 3 0 0 24) x)) ∧ zQ σ σ' := by
  have hN' := hn.1.r
  have ht := fun w : Int => e10_th0 (w := w) hW hm h0
  have hmd := zz_mdo (σ := σ) hW hm

  have hc : x = 0 ∨ x = 1 ∨ x = 2 ∨ x = 3 ∨ x = 4 ∨ x = 5 ∨ x = 6 ∨ x = 7 ∨ x = 8 ∨ x = 9 ∨ x = 10 ∨ x = 11 ∨ x = 12 := by omega
  rcases hc with rfl | rfl | rfl | rfl | rfl | rfl | rfl | rfl | rfl | rfl | rfl | rfl | rfl
  · refine ⟨σ, ?_, zQ.rf⟩
    simp (disch := first | assumption | omega) only [f_X10_size_J21, aSize, ht, zz_mdo hW hm, zz_ra hW hm, h1, zz_some, zz_lit, zz_num, zI_lt, zI_le, zI_eq, zI_nat, zz_b, if_pos, if_neg, if_true, if_false]
    try simp
  · refine ⟨σ, ?_, zQ.rf⟩
    simp (disch := first | assumption | omega) only [f_X10_size_J21, aSize, ht, zz_mdo hW hm, zz_ra hW hm, h1, zz_some, zz_lit, zz_num, zI_lt, zI_le, zI_eq, zI_nat, zz_b, if_pos, if_neg, if_true, if_false]
    try simp
  · refine ⟨σ, ?_, zQ.rf⟩
    simp (disch := first | assumption | omega) only [f_X10_size_J21, aSize, ht, zz_mdo hW hm, zz_ra hW hm, h1, zz_some, zz_lit, zz_num, zI_lt, zI_le, zI_eq, zI_nat, zz_b, if_pos, if_neg, if_true, if_false]
    try simp
  · refine ⟨σ, ?_, zQ.rf⟩
    simp (disch := first | assumption | omega) only [f_X10_size_J21, aSize, ht, zz_mdo hW hm, zz_ra hW hm, h1, zz_some, zz_lit, zz_num, zI_lt, zI_le, zI_eq, zI_nat, zz_b, if_pos, if_neg, if_true, if_false]
    try simp
  · refine ⟨σ, ?_, zQ.rf⟩
    simp (disch := first | assumption | omega) only [f_X10_size_J21, aSize, ht, zz_mdo hW hm, zz_ra hW hm, h1, zz_some, zz_lit, zz_num, zI_lt, zI_le, zI_eq, zI_nat, zz_b, if_pos, if_neg, if_true, if_false]
    try simp
  · refine ⟨σ, ?_, zQ.rf⟩
    simp (disch := first | assumption | omega) only [f_X10_size_J21, aSize, ht, e10_emptySpares hW hm h1 hn, zz_mdo hW hm, zz_ra hW hm, h1, zz_some, zz_lit, zz_num, zI_lt, zI_le, zI_eq, zI_nat, zz_b, if_pos, if_neg, if_true, if_false]
    try simp
  · refine ⟨σ, ?_, zQ.rf⟩
    simp (disch := first | assumption | omega) only [f_X10_size_J21, aSize, ht, e10_badMany hW hm h1 hn, zz_mdo hW hm, zz_ra hW hm, h1, zz_some, zz_lit, zz_num, zI_lt, zI_le, zI_eq, zI_nat, zz_b, if_pos, if_neg, if_true, if_false]
    try simp
  · obtain ⟨σ1, a1, a2⟩ := e10_filesThere hW hm h1 hn (y := 12) (by omega) (by omega)
    refine ⟨σ1, ?_, a2⟩
    simp (disch := first | assumption | omega) only [f_X10_size_J21, aSize, ht, a1, zz_mdo hW hm, zz_ra hW hm, h1, zz_some, zz_lit, zz_num, zI_lt, zI_le, zI_eq, zI_nat, zz_b, if_pos, if_neg, if_true, if_false]
    try simp
  · obtain ⟨σ1, y, a1, a2, a3⟩ := e10_goodFiles hW hm h1 hn
    have a4 := zBit_ones a3 (by omega) (zH E σ1)
    refine ⟨σ1, ?_, a2⟩
    simp (disch := first | assumption | omega) only [f_X10_size_J21, aSize, ht, a1, a4, zz_mdo hW hm, zz_ra hW hm, h1, zz_some, zz_lit, zz_num, zI_lt, zI_le, zI_eq, zI_nat, zz_b, if_pos, if_neg, if_true, if_false]
    try simp
  · refine ⟨σ, ?_, zQ.rf⟩
    have a1 := e10_isOpen hW hm h1 hn.1 hn.2.2.2
    cases ho : nOp n
    all_goals rw [ho] at a1
    all_goals simp (disch := first | assumption | omega) only [f_X10_size_J21, aSize, ht, a1, ho, zz_mdo hW hm, zz_ra hW hm, h1, zz_some, zz_lit, zz_num, zI_lt, zI_le, zI_eq, zI_nat, zz_b, if_pos, if_neg, if_true, if_false]
    all_goals simp [zb]
  · refine ⟨σ, ?_, zQ.rf⟩
    simp (disch := first | assumption | omega) only [f_X10_size_J21, aSize, ht, zz_mdo hW hm, zz_ra hW hm, h1, zz_some, zz_lit, zz_num, zI_lt, zI_le, zI_eq, zI_nat, zz_b, if_pos, if_neg, if_true, if_false]
    try simp
  · refine ⟨σ, ?_, zQ.rf⟩
    simp (disch := first | assumption | omega) only [f_X10_size_J21, aSize, ht, zg_md24 hW hm, zz_mdo hW hm, zz_ra hW hm, h1, zz_some, zz_lit, zz_num, zI_lt, zI_le, zI_eq, zI_nat, zz_b, if_pos, if_neg, if_true, if_false]
    try simp
  · refine ⟨σ, ?_, zQ.rf⟩
    simp (disch := first | assumption | omega) only [f_X10_size_J21, aSize, ht, zz_mdo hW hm, zz_ra hW hm, h1, zz_some, zz_lit, zz_num, zI_lt, zI_le, zI_eq, zI_nat, zz_b, if_pos, if_neg, if_true, if_false]
    try simp
theorem e10_block_J24_0 (hW : zWF E) (hm : zU E 3 0 = true) (h1 : σ 3 0 1 = n) (hn : nW n) (h0 : σ 3 0 0 0 = 0) {x y : Int} (hx0 : 0 ≤ x) (hx1 : x ≤ 6) (hy0 : 0 ≤ y) (hy1 : y < n 0) : ∃ σ', f_X10_block_J24 (zH E σ) (zL E 3 0 0) (zI y) (zI x) (zL E 3 0 0) (zI 0) = some (zH E σ', zI (aBlock n y x)) ∧ zQ σ σ' := by
  have hN' := hn.1.r
  have ht := fun w : Int => e10_th0 (w := w) hW hm h0
  have hmd := zz_mdo (σ := σ) hW hm

  have hc : x = 0 ∨ x = 1 ∨ x = 2 ∨ x = 3 ∨ x = 4 ∨ x = 5 ∨ x = 6 := by omega
  rcases hc with rfl | rfl | rfl | rfl | rfl | rfl | rfl
  · refine ⟨σ, ?_, zQ.rf⟩
    simp (disch := first | assumption | omega) only [f_X10_block_J24, aBlock, ht, zz_mdo hW hm, zz_ra hW hm, h1, zz_some, zz_lit, zz_num, zI_lt, zI_le, zI_eq, zI_nat, zz_b, if_pos, if_neg, if_true, if_false]
    try simp
  · refine ⟨σ, ?_, zQ.rf⟩
    simp (disch := first | assumption | omega) only [f_X10_block_J24, aBlock, ht, zz_mdo hW hm, zz_ra hW hm, h1, zz_some, zz_lit, zz_num, zI_lt, zI_le, zI_eq, zI_nat, zz_b, if_pos, if_neg, if_true, if_false]
    try simp
  · refine ⟨σ, ?_, zQ.rf⟩
    simp (disch := first | assumption | omega) only [f_X10_block_J24, aBlock, ht, zz_mdo hW hm, zz_ra hW hm, h1, zz_some, zz_lit, zz_num, zI_lt, zI_le, zI_eq, zI_nat, zz_b, if_pos, if_neg, if_true, if_false]
    try simp
  · refine ⟨σ, ?_, zQ.rf⟩
    simp (disch := first | assumption | omega) only [f_X10_block_J24, aBlock, ht, zz_mdo hW hm, zz_ra hW hm, h1, zz_some, zz_lit, zz_num, zI_lt, zI_le, zI_eq, zI_nat, zz_b, if_pos, if_neg, if_true, if_false]
    try simp
  · refine ⟨σ, ?_, zQ.rf⟩
    simp (disch := first | assumption | omega) only [f_X10_block_J24, aBlock, ht, zz_mdo hW hm, zz_ra hW hm, h1, zz_some, zz_lit, zz_num, zI_lt, zI_le, zI_eq, zI_nat, zz_b, if_pos, if_neg, if_true, if_false]
    try simp
  · refine ⟨σ, ?_, zQ.rf⟩
    simp (disch := first | assumption | omega) only [f_X10_block_J24, aBlock, ht, zz_mdo hW hm, zz_ra hW hm, h1, zz_some, zz_lit, zz_num, zI_lt, zI_le, zI_eq, zI_nat, zz_b, if_pos, if_neg, if_true, if_false]
    try simp
  · refine ⟨σ, ?_, zQ.rf⟩
    simp (disch := first | assumption | omega) only [f_X10_block_J24, aBlock, ht, zz_mdo hW hm, zz_ra hW hm, h1, zz_some, zz_lit, zz_num, zI_lt, zI_le, zI_eq, zI_nat, zz_b, if_pos, if_neg, if_true, if_false]
    try simp
theorem e10_session_J24_0 (hW : zWF E) (hm : zU E 3 0 = true) (h1 : σ 3 0 1 = n) (hn : nW n) (h0 : σ 3 0 0 0 = 0) {x y : Int} (hx0 : 0 ≤ x) (hx1 : x ≤ 8) (hy0 : 0 ≤ y) (hy1 : y < n 3) : ∃ σ', f_X10_session_J24 (zH E σ) (zL E 3 0 0) (zI y) (zI x) (zL E 3 0 0) (zI 0) = some (zH E σ', zI (aSession n y x)) ∧ zQ σ σ' := by
  have hN' := hn.1.r
  have ht := fun w : Int => e10_th0 (w := w) hW hm h0
  have hmd := zz_mdo (σ := σ) hW hm
  obtain ⟨σ1, a1, a2, a3⟩ := e10_searches hW hm hn h1
  have h11 := a2.n.trans h1
  have hof := fun (w : Int) => e10_of (s := y) (w := w) hW hm h11 (by omega) (by omega)
  have hmd1 := zz_mdo (σ := σ1) hW hm
  have hc : x = 0 ∨ x = 1 ∨ x = 2 ∨ x = 3 ∨ x = 4 ∨ x = 5 ∨ x = 6 ∨ x = 7 ∨ x = 8 := by omega
  rcases hc with rfl | rfl | rfl | rfl | rfl | rfl | rfl | rfl | rfl
  · refine ⟨σ1, ?_, a2⟩
    have q := hof 0 (by omega) (by omega)
    simp (disch := first | assumption | omega) only [f_X10_session_J24, aSession, ht, a1, q, zz_mdo hW hm, zz_ra hW hm, h1, zz_some, zz_lit, zz_num, zI_lt, zI_le, zI_eq, zI_nat, zz_b, if_pos, if_neg, if_true, if_false]
    try simp
  · refine ⟨σ1, ?_, a2⟩
    have q := hof 1 (by omega) (by omega)
    simp (disch := first | assumption | omega) only [f_X10_session_J24, aSession, ht, a1, q, zz_mdo hW hm, zz_ra hW hm, h1, zz_some, zz_lit, zz_num, zI_lt, zI_le, zI_eq, zI_nat, zz_b, if_pos, if_neg, if_true, if_false]
    try simp
  · refine ⟨σ1, ?_, a2⟩
    simp (disch := first | assumption | omega) only [f_X10_session_J24, aSession, ht, a1, e10_writtenBy1 hW hm h11 hn hy0 (by omega), zz_mdo hW hm, zz_ra hW hm, h1, zz_some, zz_lit, zz_num, zI_lt, zI_le, zI_eq, zI_nat, zz_b, if_pos, if_neg, if_true, if_false]
    try simp
  · refine ⟨σ1, ?_, a2⟩
    have q := hof 2 (by omega) (by omega)
    simp (disch := first | assumption | omega) only [f_X10_session_J24, aSession, ht, a1, q, zz_mdo hW hm, zz_ra hW hm, h1, zz_some, zz_lit, zz_num, zI_lt, zI_le, zI_eq, zI_nat, zz_b, if_pos, if_neg, if_true, if_false]
    try simp
  · refine ⟨σ1, ?_, a2⟩
    have q := hof 3 (by omega) (by omega)
    simp (disch := first | assumption | omega) only [f_X10_session_J24, aSession, ht, a1, q, zz_mdo hW hm, zz_ra hW hm, h1, zz_some, zz_lit, zz_num, zI_lt, zI_le, zI_eq, zI_nat, zz_b, if_pos, if_neg, if_true, if_false]
    try simp
  · refine ⟨σ1, ?_, a2⟩
    have q := e10_canReadDirectory hW hm h11 hn hy0 hy1
    cases ho : nRdD n y
    all_goals rw [ho] at q
    all_goals simp (disch := first | assumption | omega) only [f_X10_session_J24, aSession, ht, a1, q, ho, zz_mdo hW hm, zz_ra hW hm, h1, zz_some, zz_lit, zz_num, zI_lt, zI_le, zI_eq, zI_nat, zz_b, if_pos, if_neg, if_true, if_false]
    all_goals simp [zb]
  · refine ⟨σ1, ?_, a2⟩
    have q := hof 4 (by omega) (by omega)
    simp (disch := first | assumption | omega) only [f_X10_session_J24, aSession, ht, a1, q, zz_mdo hW hm, zz_ra hW hm, h1, zz_some, zz_lit, zz_num, zI_lt, zI_le, zI_eq, zI_nat, zz_b, if_pos, if_neg, if_true, if_false]
    try simp
  · refine ⟨σ1, ?_, a2⟩
    have q := e10_isReached hW hm h11 hn a3 hy0 hy1
    cases ho : nRe n y
    all_goals rw [ho] at q
    all_goals simp (disch := first | assumption | omega) only [f_X10_session_J24, aSession, ht, a1, q, ho, zz_mdo hW hm, zz_ra hW hm, h1, zz_some, zz_lit, zz_num, zI_lt, zI_le, zI_eq, zI_nat, zz_b, if_pos, if_neg, if_true, if_false]
    all_goals simp [zb]
  · refine ⟨σ1, ?_, a2⟩
    simp (disch := first | assumption | omega) only [f_X10_session_J24, aSession, ht, a1, e10_writtenBy0 hW hm h11 hn hy0 (by omega), zz_mdo hW hm, zz_ra hW hm, h1, zz_some, zz_lit, zz_num, zI_lt, zI_le, zI_eq, zI_nat, zz_b, if_pos, if_neg, if_true, if_false]
    try simp
theorem e10_entry_J23_0 (hW : zWF E) (hm : zU E 3 0 = true) (h1 : σ 3 0 1 = n) (hn : nW n) (h0 : σ 3 0 0 0 = 0) {x y z : Int} (hx0 : 0 ≤ x) (hx1 : x ≤ 4) (hy0 : 0 ≤ y) (hy1 : y < n 3) (hz0 : -2147483648 ≤ z) (hz1 : z < 2147483648) : f_X10_entry_J23 (zH E σ) (zL E 3 0 0) (zI y) (zI z) (zI x) (zL E 3 0 0) (zI 0) = some (zH E σ, zI (aEntry n y z x)) := by
  have hN' := hn.1.r
  have ht := fun w : Int => e10_th0 (w := w) hW hm h0
  have h2 := nEw2 hn hy0 hy1
  have hof := fun (w : Int) => e10_of (s := y) (w := w) hW hm h1 (by omega) (by omega)
  have q2 := hof 2 (by omega) (by omega)
  have hw := e10_win (x := z) (lo := 0) (hi := nS n y 2 - 1) (zH E σ) hz0 hz1 (by omega) (by omega) (by omega) (by omega)
  unfold aEntry
  by_cases hz : 0 ≤ z ∧ z < nS n y 2
  · have e : decide (0 ≤ z ∧ z ≤ nS n y 2 - 1) = true := decide_eq_true (by omega)
    rw [e] at hw
    rw [if_pos hz]
    have hen := (hn.2.2.2 y hy0 hy1).2.2.2.2.2.2 z hz.1 hz.2
    have q5 := hof (5 + 2 * z) (by omega) (by omega)
    have q6 := hof (5 + 2 * z + 1) (by omega) (by omega)
    rw [show 5 + 2 * z + 1 = 6 + 2 * z by omega] at q6
    have e6 : (5 : Int) + 2 * z + 1 = 6 + 2 * z := by omega
    by_cases hx : 2 ≤ x
    · rw [if_pos hx]
      by_cases hv : nS n y (6 + 2 * z) = -1
      · rw [if_pos hv]
        rw [hv] at q6
        by_cases h3 : x = 3
        · rw [if_pos h3]
          simp (disch := first | assumption | omega) only [f_X10_entry_J23, ht, q2, hw, e6, q5, q6, zb, zz_mdo hW hm, zz_ra hW hm, h1, zz_some, zz_lit, zz_num, zI_lt, zI_le, zI_eq, zI_nat, zz_b, if_pos, if_neg, if_true, if_false]
        · rw [if_neg h3]
          simp (disch := first | assumption | omega) only [f_X10_entry_J23, ht, q2, hw, e6, q5, q6, zb, zz_mdo hW hm, zz_ra hW hm, h1, zz_some, zz_lit, zz_num, zI_lt, zI_le, zI_eq, zI_nat, zz_b, if_pos, if_neg, if_true, if_false]
      · rw [if_neg hv]
        have hvs := hn.2.2.1
        have hov := e10_ofVersion (v := nS n y (6 + 2 * z)) (w := x - 1) hW hm h1 (by omega) (by omega) (by omega) (by omega)
        simp (disch := first | assumption | omega) only [f_X10_entry_J23, ht, q2, hw, e6, q5, q6, hov, zb, zz_mdo hW hm, zz_ra hW hm, h1, zz_some, zz_lit, zz_num, zI_lt, zI_le, zI_eq, zI_nat, zz_b, if_pos, if_neg, if_true, if_false]
    · rw [if_neg hx]
      by_cases h3 : x = 0
      · rw [if_pos h3]
        simp (disch := first | assumption | omega) only [f_X10_entry_J23, ht, q2, hw, e6, q5, q6, zb, zz_mdo hW hm, zz_ra hW hm, h1, zz_some, zz_lit, zz_num, zI_lt, zI_le, zI_eq, zI_nat, zz_b, if_pos, if_neg, if_true, if_false]
      · rw [if_neg h3]
        simp (disch := first | assumption | omega) only [f_X10_entry_J23, ht, q2, hw, e6, q5, q6, zb, zz_mdo hW hm, zz_ra hW hm, h1, zz_some, zz_lit, zz_num, zI_lt, zI_le, zI_eq, zI_nat, zz_b, if_pos, if_neg, if_true, if_false]
  · have e : decide (0 ≤ z ∧ z ≤ nS n y 2 - 1) = false := decide_eq_false (by omega)
    rw [e] at hw
    rw [if_neg hz]
    simp (disch := first | assumption | omega) only [f_X10_entry_J23, ht, q2, hw, zz_mdo hW hm, zz_ra hW hm, h1, zz_some, zz_lit, zz_num, zI_lt, zI_le, zI_eq, zI_nat, zz_b, if_pos, if_neg, if_true, if_false]
    try simp

theorem e10_file_J51 (hW : zWF E) (hm : zU E 3 0 = true) (h1 : σ 3 0 1 = n) (hn : nW n) {x y : Int} (hx0 : 0 ≤ x) (hx1 : x ≤ 6) (hy0 : 0 ≤ y) (hy1 : y < n 2) (h19 : σ 3 0 0 19 = nSk n y 12) (h20 : σ 3 0 0 20 = nFv n y 12) : f_X10_file_J51 (zH E σ) (zL E 3 0 0) (zI y) (zI x) (zI (zb (decide (nFv n y 12 ≠ -1)))) = some (zH E σ, zI (aFile n y x)) := by
  have hN' := hn.1.r
  have hf := nFv_rng hn y 12
  have g19 := zg_md19 (σ := σ) hW hm
  have g20 := zg_md20 (σ := σ) hW hm
  rw [h19] at g19
  rw [h20] at g20
  have hvo := e10_versionsOf (x := y) hW hm h1 hn hy0 (by omega)
  have hc : x = 0 ∨ x = 1 ∨ x = 2 ∨ x = 3 ∨ x = 4 ∨ x = 5 ∨ x = 6 := by omega
  rcases hc with rfl | rfl | rfl | rfl | rfl | rfl | rfl

  · by_cases hv : nFv n y 12 = -1
    · rw [decide_eq_false (by omega)]
      simp (disch := first | assumption | omega) only [f_X10_file_J51, aFile, zb, g19, g20, hvo, zz_mdo hW hm, zz_ra hW hm, h1, zz_some, zz_lit, zz_num, zI_lt, zI_le, zI_eq, zI_nat, zz_b, if_pos, if_neg, if_true, if_false]
      try simp
    · rw [decide_eq_true (by omega)]
      have hov := fun w : Int => e10_ofVersion (v := nFv n y 12) (w := w) hW hm h1 (by omega) (by omega)
      have q2 := hov 2 (by omega) (by omega)
      have q3 := hov 3 (by omega) (by omega)
      have hr := e10_isReadable (v := nFv n y 12) hW hm h1 hn (by omega) (by omega)
      simp (disch := first | assumption | omega) only [f_X10_file_J51, aFile, zb, g19, g20, hvo, q2, q3, hr, zz_mdo hW hm, zz_ra hW hm, h1, zz_some, zz_lit, zz_num, zI_lt, zI_le, zI_eq, zI_nat, zz_b, if_pos, if_neg, if_true, if_false]
      try simp
  · by_cases hv : nFv n y 12 = -1
    · rw [decide_eq_false (by omega)]
      simp (disch := first | assumption | omega) only [f_X10_file_J51, aFile, zb, g19, g20, hvo, zz_mdo hW hm, zz_ra hW hm, h1, zz_some, zz_lit, zz_num, zI_lt, zI_le, zI_eq, zI_nat, zz_b, if_pos, if_neg, if_true, if_false]
      try simp
    · rw [decide_eq_true (by omega)]
      have hov := fun w : Int => e10_ofVersion (v := nFv n y 12) (w := w) hW hm h1 (by omega) (by omega)
      have q2 := hov 2 (by omega) (by omega)
      have q3 := hov 3 (by omega) (by omega)
      have hr := e10_isReadable (v := nFv n y 12) hW hm h1 hn (by omega) (by omega)
      cases ho : nRv n (nFv n y 12)
      all_goals rw [ho] at hr
      all_goals simp (disch := first | assumption | omega) only [f_X10_file_J51, aFile, zb, g19, g20, hvo, q2, q3, hr, ho, zz_mdo hW hm, zz_ra hW hm, h1, zz_some, zz_lit, zz_num, zI_lt, zI_le, zI_eq, zI_nat, zz_b, if_pos, if_neg, if_true, if_false]
      all_goals simp
  · by_cases hv : nFv n y 12 = -1
    · rw [decide_eq_false (by omega)]
      simp (disch := first | assumption | omega) only [f_X10_file_J51, aFile, zb, g19, g20, hvo, zz_mdo hW hm, zz_ra hW hm, h1, zz_some, zz_lit, zz_num, zI_lt, zI_le, zI_eq, zI_nat, zz_b, if_pos, if_neg, if_true, if_false]
      try simp
    · rw [decide_eq_true (by omega)]
      have hov := fun w : Int => e10_ofVersion (v := nFv n y 12) (w := w) hW hm h1 (by omega) (by omega)
      have q2 := hov 2 (by omega) (by omega)
      have q3 := hov 3 (by omega) (by omega)
      have hr := e10_isReadable (v := nFv n y 12) hW hm h1 hn (by omega) (by omega)
      simp (disch := first | assumption | omega) only [f_X10_file_J51, aFile, zb, g19, g20, hvo, q2, q3, hr, zz_mdo hW hm, zz_ra hW hm, h1, zz_some, zz_lit, zz_num, zI_lt, zI_le, zI_eq, zI_nat, zz_b, if_pos, if_neg, if_true, if_false]
      try simp
  · by_cases hv : nFv n y 12 = -1
    · rw [decide_eq_false (by omega)]
      simp (disch := first | assumption | omega) only [f_X10_file_J51, aFile, zb, g19, g20, hvo, zz_mdo hW hm, zz_ra hW hm, h1, zz_some, zz_lit, zz_num, zI_lt, zI_le, zI_eq, zI_nat, zz_b, if_pos, if_neg, if_true, if_false]
      try simp
    · rw [decide_eq_true (by omega)]
      have hov := fun w : Int => e10_ofVersion (v := nFv n y 12) (w := w) hW hm h1 (by omega) (by omega)
      have q2 := hov 2 (by omega) (by omega)
      have q3 := hov 3 (by omega) (by omega)
      have hr := e10_isReadable (v := nFv n y 12) hW hm h1 hn (by omega) (by omega)
      simp (disch := first | assumption | omega) only [f_X10_file_J51, aFile, zb, g19, g20, hvo, q2, q3, hr, zz_mdo hW hm, zz_ra hW hm, h1, zz_some, zz_lit, zz_num, zI_lt, zI_le, zI_eq, zI_nat, zz_b, if_pos, if_neg, if_true, if_false]
      try simp
  · by_cases hv : nFv n y 12 = -1
    · rw [decide_eq_false (by omega)]
      simp (disch := first | assumption | omega) only [f_X10_file_J51, aFile, zb, g19, g20, hvo, zz_mdo hW hm, zz_ra hW hm, h1, zz_some, zz_lit, zz_num, zI_lt, zI_le, zI_eq, zI_nat, zz_b, if_pos, if_neg, if_true, if_false]
      try simp
    · rw [decide_eq_true (by omega)]
      have hov := fun w : Int => e10_ofVersion (v := nFv n y 12) (w := w) hW hm h1 (by omega) (by omega)
      have q2 := hov 2 (by omega) (by omega)
      have q3 := hov 3 (by omega) (by omega)
      have hr := e10_isReadable (v := nFv n y 12) hW hm h1 hn (by omega) (by omega)
      simp (disch := first | assumption | omega) only [f_X10_file_J51, aFile, zb, g19, g20, hvo, q2, q3, hr, zz_mdo hW hm, zz_ra hW hm, h1, zz_some, zz_lit, zz_num, zI_lt, zI_le, zI_eq, zI_nat, zz_b, if_pos, if_neg, if_true, if_false]
      try simp
  · by_cases hv : nFv n y 12 = -1
    · rw [decide_eq_false (by omega)]
      simp (disch := first | assumption | omega) only [f_X10_file_J51, aFile, zb, g19, g20, hvo, zz_mdo hW hm, zz_ra hW hm, h1, zz_some, zz_lit, zz_num, zI_lt, zI_le, zI_eq, zI_nat, zz_b, if_pos, if_neg, if_true, if_false]
      try simp
    · rw [decide_eq_true (by omega)]
      have hov := fun w : Int => e10_ofVersion (v := nFv n y 12) (w := w) hW hm h1 (by omega) (by omega)
      have q2 := hov 2 (by omega) (by omega)
      have q3 := hov 3 (by omega) (by omega)
      have hr := e10_isReadable (v := nFv n y 12) hW hm h1 hn (by omega) (by omega)
      simp (disch := first | assumption | omega) only [f_X10_file_J51, aFile, zb, g19, g20, hvo, q2, q3, hr, zz_mdo hW hm, zz_ra hW hm, h1, zz_some, zz_lit, zz_num, zI_lt, zI_le, zI_eq, zI_nat, zz_b, if_pos, if_neg, if_true, if_false]
      try simp
  · by_cases hv : nFv n y 12 = -1
    · rw [decide_eq_false (by omega)]
      simp (disch := first | assumption | omega) only [f_X10_file_J51, aFile, zb, g19, g20, hvo, zz_mdo hW hm, zz_ra hW hm, h1, zz_some, zz_lit, zz_num, zI_lt, zI_le, zI_eq, zI_nat, zz_b, if_pos, if_neg, if_true, if_false]
      try simp
    · rw [decide_eq_true (by omega)]
      have hov := fun w : Int => e10_ofVersion (v := nFv n y 12) (w := w) hW hm h1 (by omega) (by omega)
      have q2 := hov 2 (by omega) (by omega)
      have q3 := hov 3 (by omega) (by omega)
      have hr := e10_isReadable (v := nFv n y 12) hW hm h1 hn (by omega) (by omega)
      simp (disch := first | assumption | omega) only [f_X10_file_J51, aFile, zb, g19, g20, hvo, q2, q3, hr, zz_mdo hW hm, zz_ra hW hm, h1, zz_some, zz_lit, zz_num, zI_lt, zI_le, zI_eq, zI_nat, zz_b, if_pos, if_neg, if_true, if_false]
      try simp
theorem e10_file_J24_0 (hW : zWF E) (hm : zU E 3 0 = true) (h1 : σ 3 0 1 = n) (hn : nW n) (h0 : σ 3 0 0 0 = 0) {x y : Int} (hx0 : 0 ≤ x) (hx1 : x ≤ 6) (hy0 : 0 ≤ y) (hy1 : y < n 2) : ∃ σ', f_X10_file_J24 (zH E σ) (zL E 3 0 0) (zI y) (zI x) (zL E 3 0 0) (zI 0) = some (zH E σ', zI (aFile n y x)) ∧ zQ σ σ' := by
  have hN' := hn.1.r
  have ht := fun w : Int => e10_th0 (w := w) hW hm h0
  have hf := nFv_rng hn y 12
  obtain ⟨σ1, a1, a2, a3, a4⟩ := e10_finds (x := y) hW hm h1 hn hy0 (by omega)
  have h11 := a2.n.trans h1
  have hj := e10_file_J51 hW hm h11 hn hx0 hx1 hy0 hy1 a3 a4
  have g20 := zg_md20 (σ := σ1) hW hm
  rw [a4] at g20
  refine ⟨σ1, ?_, a2⟩
  by_cases hv : nFv n y 12 = -1
  · rw [decide_eq_false (by omega)] at hj
    simp (disch := first | assumption | omega) only [f_X10_file_J24, ht, a1, g20, zz_mdo hW hm, zz_ra hW hm, h1, zz_some, zz_lit, zz_num, zI_lt, zI_le, zI_eq, zI_nat, zz_b, if_pos, if_neg, if_true, if_false]
    exact hj
  · rw [decide_eq_true (by omega)] at hj
    simp (disch := first | assumption | omega) only [f_X10_file_J24, ht, a1, g20, zz_mdo hW hm, zz_ra hW hm, h1, zz_some, zz_lit, zz_num, zI_lt, zI_le, zI_eq, zI_nat, zz_b, if_pos, if_neg, if_true, if_false]
    exact hj
theorem e10_whyNotWrite_J24_0 (hW : zWF E) (hm : zU E 3 0 = true) (h1 : σ 3 0 1 = n) (hn : nW n) (h0 : σ 3 0 0 0 = 0) {x y : Int} (hx0 : 1 ≤ x) (hx1 : x ≤ 8) (hy0 : 0 ≤ y) (hy1 : y < n 2) : f_X10_whyNotWrite_J24 (zH E σ) (zL E 3 0 0) (zI y) (zI x) (zL E 3 0 0) (zI 0) = some (zH E σ, zI (nWw n y x)) := by
  have hN' := hn.1.r
  have ht := fun w : Int => e10_th0 (w := w) hW hm h0
  have hq := e10_whyWrite (x := y) (m := x) hW hm h1 hn (by omega) (by omega) (by omega) (by omega)
  simp (disch := first | assumption | omega) only [f_X10_whyNotWrite_J24, ht, hq, zz_mdo hW hm, zz_ra hW hm, h1, zz_some, zz_lit, zz_num, zI_lt, zI_le, zI_eq, zI_nat, zz_b, if_pos, if_neg, if_true, if_false]
theorem e10_space_J20_0 (hW : zWF E) (hm : zU E 3 0 = true) (h1 : σ 3 0 1 = n) (hn : nW n) (h0 : σ 3 0 0 0 = 0) {x : Int} (hx0 : 0 ≤ x) (hx1 : x ≤ 4) : ∃ σ', f_X10_space_J20 (zH E σ) (zL E 3 0 0) (zI x) (zL E 3 0 0) (zI 0) = some (zH E σ', zI (nSp n (-1) x)) ∧ zQ σ σ' := by
  have ht := fun w : Int => e10_th0 (w := w) hW hm h0
  obtain ⟨σ1, a1, a2⟩ := e10_spaceBy (s := -1) (u := x) hW hm h1 hn (by omega) (by omega) hx0 hx1
  refine ⟨σ1, ?_, a2⟩
  simp (disch := first | assumption | omega) only [f_X10_space_J20, ht, a1, zz_mdo hW hm, zz_ra hW hm, h1, zz_some, zz_lit, zz_num, zI_lt, zI_le, zI_eq, zI_nat, zz_b, if_pos, if_neg, if_true, if_false]
theorem e10_spaceOf_J23_0 (hW : zWF E) (hm : zU E 3 0 = true) (h1 : σ 3 0 1 = n) (hn : nW n) (h0 : σ 3 0 0 0 = 0) {x y : Int} (hx0 : 1 ≤ x) (hx1 : x ≤ 4) (hy0 : 0 ≤ y) (hy1 : y < n 3) : ∃ σ', f_X10_spaceOf_J23 (zH E σ) (zL E 3 0 0) (zI y) (zI x) (zL E 3 0 0) (zI 0) = some (zH E σ', zI (nSp n y x)) ∧ zQ σ σ' := by
  have hN' := hn.1.r
  have ht := fun w : Int => e10_th0 (w := w) hW hm h0
  obtain ⟨σ1, a1, a2⟩ := e10_spaceBy (s := y) (u := x) hW hm h1 hn (by omega) (by omega) (by omega) hx1
  refine ⟨σ1, ?_, a2⟩
  simp (disch := first | assumption | omega) only [f_X10_spaceOf_J23, ht, a1, zz_mdo hW hm, zz_ra hW hm, h1, zz_some, zz_lit, zz_num, zI_lt, zI_le, zI_eq, zI_nat, zz_b, if_pos, if_neg, if_true, if_false]
theorem e10_whyNot_J20_0 (hW : zWF E) (hm : zU E 3 0 = true) (h1 : σ 3 0 1 = n) (hn : nW n) (h0 : σ 3 0 0 0 = 0) {x : Int} (hx0 : 0 ≤ x) (hx1 : x ≤ 2) : ∃ σ', f_X10_whyNot_J20 (zH E σ) (zL E 3 0 0) (zI x) (zL E 3 0 0) (zI 0) = some (zH E σ', zI (aWhyNot n x)) ∧ zQ σ σ' := by
  have ht := fun w : Int => e10_th0 (w := w) hW hm h0
  have hc : x = 0 ∨ x = 1 ∨ x = 2 := by omega
  rcases hc with rfl | rfl | rfl
  · have hq := e10_whyClose hW hm h1 hn
    refine ⟨σ, ?_, zQ.rf⟩
    simp (disch := first | assumption | omega) only [f_X10_whyNot_J20, aWhyNot, ht, hq, zz_mdo hW hm, zz_ra hW hm, h1, zz_some, zz_lit, zz_num, zI_lt, zI_le, zI_eq, zI_nat, zz_b, if_pos, if_neg, if_true, if_false]
  · have hq := e10_isOpen hW hm h1 hn.1 hn.2.2.2
    refine ⟨σ, ?_, zQ.rf⟩
    cases ho : nOp n
    all_goals rw [ho] at hq
    all_goals simp (disch := first | assumption | omega) only [f_X10_whyNot_J20, aWhyNot, ht, hq, ho, zz_mdo hW hm, zz_ra hW hm, h1, zz_some, zz_lit, zz_num, zI_lt, zI_le, zI_eq, zI_nat, zz_b, if_pos, if_neg, if_true, if_false]
    all_goals simp [zb]
  · obtain ⟨σ1, a1, a2, _⟩ := e10_whyRecover hW hm h1 hn
    refine ⟨σ1, ?_, a2⟩
    simp (disch := first | assumption | omega) only [f_X10_whyNot_J20, aWhyNot, ht, a1, zz_mdo hW hm, zz_ra hW hm, h1, zz_some, zz_lit, zz_num, zI_lt, zI_le, zI_eq, zI_nat, zz_b, if_pos, if_neg, if_true, if_false]

/-- the first of the greatest risks -/
def zwk (F : Int → Int) : Nat → Int → Int → Int → Int
  | 0, _, w, _ => w
  | m + 1, b, w, r => if F b ≤ r then zwk F m (b + 1) w r else zwk F m (b + 1) b (F b)
def aDefect (n : zN) (x : Int) (w : Bool) : Int := if x < 0 then -1 else if znt (nDf n) 0 (n 0 - n 1).toNat x = -1 then -1 else if w = true then nPl n (znt (nDf n) 0 (n 0 - n 1).toNat x) else znt (nDf n) 0 (n 0 - n 1).toNat x
theorem e10_size (hW : zWF E) (hm : zU E 3 0 = true) (h1 : σ 3 0 1 = n) (hn : nW n) {x : Int} (hx0 : -2147483648 ≤ x) (hx1 : x < 2147483648) : ∃ σ', f_X10_size (zH E σ) (zL E 3 0 0) (zI x) = some (zH E σ', zI (if 0 ≤ x ∧ x ≤ 12 then aSize n (σ 3 0 0 24) x else 0)) ∧ zT σ σ' (if 0 ≤ x ∧ x ≤ 12 then 0 else 1) := by
  obtain ⟨τ, hz⟩ : ∃ y, zs σ 3 0 0 0 0 = y := ⟨_, rfl⟩
  have hzt : zth σ 0 = τ := hz
  have hT : zT σ τ 0 := hzt ▸ zT.th σ 0
  have h11 : τ 3 0 1 = n := hT.n.trans h1
  have h00 : τ 3 0 0 0 = 0 := hT.2.2
  have hN' := hn.1.r
  have hmt := zz_mdo (σ := τ) hW hm
  have hms := zz_mdo (σ := σ) hW hm
  have hw := e10_win (x := x) (lo := 0) (hi := 12) (zH E τ) hx0 hx1 (by omega) (by omega) (by omega) (by omega)
  by_cases hc : 0 ≤ x ∧ x ≤ 12
  · rw [if_pos hc, if_pos hc]
    rw [decide_eq_true hc] at hw
    obtain ⟨σ1, a1, a2⟩ := e10_size_J21_0 hW hm h11 hn h00 hc.1 hc.2
    rw [show τ 3 0 0 24 = σ 3 0 0 24 from hT.2.1 24 (by omega) (by omega) (by omega) (by omega) (by omega)] at a1
    refine ⟨σ1, ?_, hT.q a2⟩
    simp (disch := first | assumption | omega) only [f_X10_size, zp_md0 hW hm, hz, hw, a1, zz_some, zz_lit, zz_num, zI_lt, zI_le, zI_eq, zI_nat, zz_b, if_pos, if_neg, if_true, if_false]
    try simp
  · rw [if_neg hc, if_neg hc]
    rw [decide_eq_false hc] at hw
    have a1 := e10_size_J21_1 (x := x) (y := 0) (z := 0) hW hm h00
    refine ⟨zth τ 1, ?_, hT.t (zT.th τ 1)⟩
    simp (disch := first | assumption | omega) only [f_X10_size, zp_md0 hW hm, hz, hw, a1, zz_some, zz_lit, zz_num, zI_lt, zI_le, zI_eq, zI_nat, zz_b, if_pos, if_neg, if_true, if_false]
    try simp

theorem e10_space (hW : zWF E) (hm : zU E 3 0 = true) (h1 : σ 3 0 1 = n) (hn : nW n) {x : Int} (hx0 : -2147483648 ≤ x) (hx1 : x < 2147483648) : ∃ σ', f_X10_space (zH E σ) (zL E 3 0 0) (zI x) = some (zH E σ', zI (if 0 ≤ x ∧ x ≤ 4 then nSp n (-1) x else 0)) ∧ zT σ σ' (if 0 ≤ x ∧ x ≤ 4 then 0 else 1) := by
  obtain ⟨τ, hz⟩ : ∃ y, zs σ 3 0 0 0 0 = y := ⟨_, rfl⟩
  have hzt : zth σ 0 = τ := hz
  have hT : zT σ τ 0 := hzt ▸ zT.th σ 0
  have h11 : τ 3 0 1 = n := hT.n.trans h1
  have h00 : τ 3 0 0 0 = 0 := hT.2.2
  have hN' := hn.1.r
  have hmt := zz_mdo (σ := τ) hW hm
  have hms := zz_mdo (σ := σ) hW hm
  have hw := e10_win (x := x) (lo := 0) (hi := 4) (zH E τ) hx0 hx1 (by omega) (by omega) (by omega) (by omega)
  by_cases hc : 0 ≤ x ∧ x ≤ 4
  · rw [if_pos hc, if_pos hc]
    rw [decide_eq_true hc] at hw
    obtain ⟨σ1, a1, a2⟩ := e10_space_J20_0 hW hm h11 hn h00 hc.1 hc.2
    refine ⟨σ1, ?_, hT.q a2⟩
    simp (disch := first | assumption | omega) only [f_X10_space, zp_md0 hW hm, hz, hw, a1, zz_some, zz_lit, zz_num, zI_lt, zI_le, zI_eq, zI_nat, zz_b, if_pos, if_neg, if_true, if_false]
    try simp
  · rw [if_neg hc, if_neg hc]
    rw [decide_eq_false hc] at hw
    have a1 := e10_space_J20_1 (x := x) (y := 0) (z := 0) hW hm h00
    refine ⟨zth τ 1, ?_, hT.t (zT.th τ 1)⟩
    simp (disch := first | assumption | omega) only [f_X10_space, zp_md0 hW hm, hz, hw, a1, zz_some, zz_lit, zz_num, zI_lt, zI_le, zI_eq, zI_nat, zz_b, if_pos, if_neg, if_true, if_false]
    try simp

theorem e10_whyNot (hW : zWF E) (hm : zU E 3 0 = true) (h1 : σ 3 0 1 = n) (hn : nW n) {x : Int} (hx0 : -2147483648 ≤ x) (hx1 : x < 2147483648) : ∃ σ', f_X10_whyNot (zH E σ) (zL E 3 0 0) (zI x) = some (zH E σ', zI (if 0 ≤ x ∧ x ≤ 2 then aWhyNot n x else 0)) ∧ zT σ σ' (if 0 ≤ x ∧ x ≤ 2 then 0 else 1) := by
  obtain ⟨τ, hz⟩ : ∃ y, zs σ 3 0 0 0 0 = y := ⟨_, rfl⟩
  have hzt : zth σ 0 = τ := hz
  have hT : zT σ τ 0 := hzt ▸ zT.th σ 0
  have h11 : τ 3 0 1 = n := hT.n.trans h1
  have h00 : τ 3 0 0 0 = 0 := hT.2.2
  have hN' := hn.1.r
  have hmt := zz_mdo (σ := τ) hW hm
  have hms := zz_mdo (σ := σ) hW hm
  have hw := e10_win (x := x) (lo := 0) (hi := 2) (zH E τ) hx0 hx1 (by omega) (by omega) (by omega) (by omega)
  by_cases hc : 0 ≤ x ∧ x ≤ 2
  · rw [if_pos hc, if_pos hc]
    rw [decide_eq_true hc] at hw
    obtain ⟨σ1, a1, a2⟩ := e10_whyNot_J20_0 hW hm h11 hn h00 hc.1 hc.2
    refine ⟨σ1, ?_, hT.q a2⟩
    simp (disch := first | assumption | omega) only [f_X10_whyNot, zp_md0 hW hm, hz, hw, a1, zz_some, zz_lit, zz_num, zI_lt, zI_le, zI_eq, zI_nat, zz_b, if_pos, if_neg, if_true, if_false]
    try simp
  · rw [if_neg hc, if_neg hc]
    rw [decide_eq_false hc] at hw
    have a1 := e10_whyNot_J20_1 (x := x) (y := 0) (z := 0) hW hm h00
    refine ⟨zth τ 1, ?_, hT.t (zT.th τ 1)⟩
    simp (disch := first | assumption | omega) only [f_X10_whyNot, zp_md0 hW hm, hz, hw, a1, zz_some, zz_lit, zz_num, zI_lt, zI_le, zI_eq, zI_nat, zz_b, if_pos, if_neg, if_true, if_false]
    try simp

theorem e10_block (hW : zWF E) (hm : zU E 3 0 = true) (h1 : σ 3 0 1 = n) (hn : nW n) {x y : Int} (hx0 : -2147483648 ≤ x) (hx1 : x < 2147483648) (hy0 : -2147483648 ≤ y) (hy1 : y < 2147483648) : ∃ σ', f_X10_block (zH E σ) (zL E 3 0 0) (zI y) (zI x) = some (zH E σ', zI (if 0 ≤ y ∧ y < n 0 then if 0 ≤ x ∧ x ≤ 6 then aBlock n y x else 0 else 0)) ∧ zT σ σ' (if 0 ≤ y ∧ y < n 0 then if 0 ≤ x ∧ x ≤ 6 then 0 else 2 else 1) := by
  obtain ⟨τ, hz⟩ : ∃ y, zs σ 3 0 0 0 0 = y := ⟨_, rfl⟩
  have hzt : zth σ 0 = τ := hz
  have hT : zT σ τ 0 := hzt ▸ zT.th σ 0
  have h11 : τ 3 0 1 = n := hT.n.trans h1
  have h00 : τ 3 0 0 0 = 0 := hT.2.2
  have hN' := hn.1.r
  have hmt := zz_mdo (σ := τ) hW hm
  have hms := zz_mdo (σ := σ) hW hm
  have hno := e10_noBlock (x := y) hW hm h1 hn hy0 hy1
  rw [hzt] at hno
  have hw := e10_win (x := x) (lo := 0) (hi := 6) (zH E τ) hx0 hx1 (by omega) (by omega) (by omega) (by omega)
  by_cases hi : 0 ≤ y ∧ y < n 0
  · rw [if_pos hi, if_pos hi]
    rw [if_pos hi] at hno
    by_cases hc : 0 ≤ x ∧ x ≤ 6
    · rw [if_pos hc, if_pos hc]
      rw [decide_eq_true hc] at hw
      obtain ⟨σ1, a1, a2⟩ := e10_block_J24_0 hW hm h11 hn h00 hc.1 hc.2 hi.1 hi.2
      refine ⟨σ1, ?_, hT.q a2⟩
      simp (disch := first | assumption | omega) only [f_X10_block, hms, hno, hw, a1, zz_some, zz_lit, zz_num, zI_lt, zI_le, zI_eq, zI_nat, zz_b, if_pos, if_neg, if_true, if_false]
      try simp
    · rw [if_neg hc, if_neg hc]
      rw [decide_eq_false hc] at hw
      have a1 := e10_block_J24_1 (x := x) (y := y) (z := 0) hW hm h00
      refine ⟨zth τ 2, ?_, hT.t (zT.th τ 2)⟩
      simp (disch := first | assumption | omega) only [f_X10_block, hms, hno, hw, a1, zz_some, zz_lit, zz_num, zI_lt, zI_le, zI_eq, zI_nat, zz_b, if_pos, if_neg, if_true, if_false]
      try simp
  · rw [if_neg hi, if_neg hi]
    rw [if_neg hi] at hno
    refine ⟨zth σ 1, ?_, zT.th σ 1⟩
    simp (disch := first | assumption | omega) only [f_X10_block, hms, hno, zz_some, zz_lit, zz_num, zI_lt, zI_le, zI_eq, zI_nat, zz_b, if_pos, if_neg, if_true, if_false]
    try simp

theorem e10_session (hW : zWF E) (hm : zU E 3 0 = true) (h1 : σ 3 0 1 = n) (hn : nW n) {x y : Int} (hx0 : -2147483648 ≤ x) (hx1 : x < 2147483648) (hy0 : -2147483648 ≤ y) (hy1 : y < 2147483648) : ∃ σ', f_X10_session (zH E σ) (zL E 3 0 0) (zI y) (zI x) = some (zH E σ', zI (if 0 ≤ y ∧ y < n 3 then if 0 ≤ x ∧ x ≤ 8 then aSession n y x else 0 else 0)) ∧ zT σ σ' (if 0 ≤ y ∧ y < n 3 then if 0 ≤ x ∧ x ≤ 8 then 0 else 2 else 1) := by
  obtain ⟨τ, hz⟩ : ∃ y, zs σ 3 0 0 0 0 = y := ⟨_, rfl⟩
  have hzt : zth σ 0 = τ := hz
  have hT : zT σ τ 0 := hzt ▸ zT.th σ 0
  have h11 : τ 3 0 1 = n := hT.n.trans h1
  have h00 : τ 3 0 0 0 = 0 := hT.2.2
  have hN' := hn.1.r
  have hmt := zz_mdo (σ := τ) hW hm
  have hms := zz_mdo (σ := σ) hW hm
  have hno := e10_noSession (x := y) hW hm h1 hn hy0 hy1
  rw [hzt] at hno
  have hw := e10_win (x := x) (lo := 0) (hi := 8) (zH E τ) hx0 hx1 (by omega) (by omega) (by omega) (by omega)
  by_cases hi : 0 ≤ y ∧ y < n 3
  · rw [if_pos hi, if_pos hi]
    rw [if_pos hi] at hno
    by_cases hc : 0 ≤ x ∧ x ≤ 8
    · rw [if_pos hc, if_pos hc]
      rw [decide_eq_true hc] at hw
      obtain ⟨σ1, a1, a2⟩ := e10_session_J24_0 hW hm h11 hn h00 hc.1 hc.2 hi.1 hi.2
      refine ⟨σ1, ?_, hT.q a2⟩
      simp (disch := first | assumption | omega) only [f_X10_session, hms, hno, hw, a1, zz_some, zz_lit, zz_num, zI_lt, zI_le, zI_eq, zI_nat, zz_b, if_pos, if_neg, if_true, if_false]
      try simp
    · rw [if_neg hc, if_neg hc]
      rw [decide_eq_false hc] at hw
      have a1 := e10_session_J24_1 (x := x) (y := y) (z := 0) hW hm h00
      refine ⟨zth τ 2, ?_, hT.t (zT.th τ 2)⟩
      simp (disch := first | assumption | omega) only [f_X10_session, hms, hno, hw, a1, zz_some, zz_lit, zz_num, zI_lt, zI_le, zI_eq, zI_nat, zz_b, if_pos, if_neg, if_true, if_false]
      try simp
  · rw [if_neg hi, if_neg hi]
    rw [if_neg hi] at hno
    refine ⟨zth σ 1, ?_, zT.th σ 1⟩
    simp (disch := first | assumption | omega) only [f_X10_session, hms, hno, zz_some, zz_lit, zz_num, zI_lt, zI_le, zI_eq, zI_nat, zz_b, if_pos, if_neg, if_true, if_false]
    try simp

theorem e10_entry (hW : zWF E) (hm : zU E 3 0 = true) (h1 : σ 3 0 1 = n) (hn : nW n) {x y : Int} (hx0 : -2147483648 ≤ x) (hx1 : x < 2147483648) (hy0 : -2147483648 ≤ y) (hy1 : y < 2147483648) {z : Int} (hz0 : -2147483648 ≤ z) (hz1 : z < 2147483648) : ∃ σ', f_X10_entry (zH E σ) (zL E 3 0 0) (zI y) (zI z) (zI x) = some (zH E σ', zI (if 0 ≤ y ∧ y < n 3 then if 0 ≤ x ∧ x ≤ 4 then aEntry n y z x else 0 else 0)) ∧ zT σ σ' (if 0 ≤ y ∧ y < n 3 then if 0 ≤ x ∧ x ≤ 4 then 0 else 2 else 1) := by
  obtain ⟨τ, hz⟩ : ∃ y, zs σ 3 0 0 0 0 = y := ⟨_, rfl⟩
  have hzt : zth σ 0 = τ := hz
  have hT : zT σ τ 0 := hzt ▸ zT.th σ 0
  have h11 : τ 3 0 1 = n := hT.n.trans h1
  have h00 : τ 3 0 0 0 = 0 := hT.2.2
  have hN' := hn.1.r
  have hmt := zz_mdo (σ := τ) hW hm
  have hms := zz_mdo (σ := σ) hW hm
  have hno := e10_noSession (x := y) hW hm h1 hn hy0 hy1
  rw [hzt] at hno
  have hw := e10_win (x := x) (lo := 0) (hi := 4) (zH E τ) hx0 hx1 (by omega) (by omega) (by omega) (by omega)
  by_cases hi : 0 ≤ y ∧ y < n 3
  · rw [if_pos hi, if_pos hi]
    rw [if_pos hi] at hno
    by_cases hc : 0 ≤ x ∧ x ≤ 4
    · rw [if_pos hc, if_pos hc]
      rw [decide_eq_true hc] at hw
      have a1 := e10_entry_J23_0 hW hm h11 hn h00 hc.1 hc.2 hi.1 hi.2 hz0 hz1
      refine ⟨τ, ?_, hT⟩
      simp (disch := first | assumption | omega) only [f_X10_entry, hms, hno, hw, a1, zz_some, zz_lit, zz_num, zI_lt, zI_le, zI_eq, zI_nat, zz_b, if_pos, if_neg, if_true, if_false]
      try simp
    · rw [if_neg hc, if_neg hc]
      rw [decide_eq_false hc] at hw
      have a1 := e10_entry_J23_1 (x := x) (y := y) (z := z) hW hm h00
      refine ⟨zth τ 2, ?_, hT.t (zT.th τ 2)⟩
      simp (disch := first | assumption | omega) only [f_X10_entry, hms, hno, hw, a1, zz_some, zz_lit, zz_num, zI_lt, zI_le, zI_eq, zI_nat, zz_b, if_pos, if_neg, if_true, if_false]
      try simp
  · rw [if_neg hi, if_neg hi]
    rw [if_neg hi] at hno
    refine ⟨zth σ 1, ?_, zT.th σ 1⟩
    simp (disch := first | assumption | omega) only [f_X10_entry, hms, hno, zz_some, zz_lit, zz_num, zI_lt, zI_le, zI_eq, zI_nat, zz_b, if_pos, if_neg, if_true, if_false]
    try simp

theorem e10_file (hW : zWF E) (hm : zU E 3 0 = true) (h1 : σ 3 0 1 = n) (hn : nW n) {x y : Int} (hx0 : -2147483648 ≤ x) (hx1 : x < 2147483648) (hy0 : -2147483648 ≤ y) (hy1 : y < 2147483648) : ∃ σ', f_X10_file (zH E σ) (zL E 3 0 0) (zI y) (zI x) = some (zH E σ', zI (if 0 ≤ y ∧ y < n 2 then if 0 ≤ x ∧ x ≤ 6 then aFile n y x else 0 else 0)) ∧ zT σ σ' (if 0 ≤ y ∧ y < n 2 then if 0 ≤ x ∧ x ≤ 6 then 0 else 2 else 1) := by
  obtain ⟨τ, hz⟩ : ∃ y, zs σ 3 0 0 0 0 = y := ⟨_, rfl⟩
  have hzt : zth σ 0 = τ := hz
  have hT : zT σ τ 0 := hzt ▸ zT.th σ 0
  have h11 : τ 3 0 1 = n := hT.n.trans h1
  have h00 : τ 3 0 0 0 = 0 := hT.2.2
  have hN' := hn.1.r
  have hmt := zz_mdo (σ := τ) hW hm
  have hms := zz_mdo (σ := σ) hW hm
  have hno := e10_noFile (x := y) hW hm h1 hn hy0 hy1
  rw [hzt] at hno
  have hw := e10_win (x := x) (lo := 0) (hi := 6) (zH E τ) hx0 hx1 (by omega) (by omega) (by omega) (by omega)
  by_cases hi : 0 ≤ y ∧ y < n 2
  · rw [if_pos hi, if_pos hi]
    rw [if_pos hi] at hno
    by_cases hc : 0 ≤ x ∧ x ≤ 6
    · rw [if_pos hc, if_pos hc]
      rw [decide_eq_true hc] at hw
      obtain ⟨σ1, a1, a2⟩ := e10_file_J24_0 hW hm h11 hn h00 hc.1 hc.2 hi.1 hi.2
      refine ⟨σ1, ?_, hT.q a2⟩
      simp (disch := first | assumption | omega) only [f_X10_file, hms, hno, hw, a1, zz_some, zz_lit, zz_num, zI_lt, zI_le, zI_eq, zI_nat, zz_b, if_pos, if_neg, if_true, if_false]
      try simp
    · rw [if_neg hc, if_neg hc]
      rw [decide_eq_false hc] at hw
      have a1 := e10_file_J24_1 (x := x) (y := y) (z := 0) hW hm h00
      refine ⟨zth τ 2, ?_, hT.t (zT.th τ 2)⟩
      simp (disch := first | assumption | omega) only [f_X10_file, hms, hno, hw, a1, zz_some, zz_lit, zz_num, zI_lt, zI_le, zI_eq, zI_nat, zz_b, if_pos, if_neg, if_true, if_false]
      try simp
  · rw [if_neg hi, if_neg hi]
    rw [if_neg hi] at hno
    refine ⟨zth σ 1, ?_, zT.th σ 1⟩
    simp (disch := first | assumption | omega) only [f_X10_file, hms, hno, zz_some, zz_lit, zz_num, zI_lt, zI_le, zI_eq, zI_nat, zz_b, if_pos, if_neg, if_true, if_false]
    try simp

theorem e10_whyNotWrite (hW : zWF E) (hm : zU E 3 0 = true) (h1 : σ 3 0 1 = n) (hn : nW n) {x y : Int} (hx0 : -2147483648 ≤ x) (hx1 : x < 2147483648) (hy0 : -2147483648 ≤ y) (hy1 : y < 2147483648) : ∃ σ', f_X10_whyNotWrite (zH E σ) (zL E 3 0 0) (zI y) (zI x) = some (zH E σ', zI (if 0 ≤ y ∧ y < n 2 then if 1 ≤ x ∧ x ≤ 8 then nWw n y x else 0 else 0)) ∧ zT σ σ' (if 0 ≤ y ∧ y < n 2 then if 1 ≤ x ∧ x ≤ 8 then 0 else 2 else 1) := by
  obtain ⟨τ, hz⟩ : ∃ y, zs σ 3 0 0 0 0 = y := ⟨_, rfl⟩
  have hzt : zth σ 0 = τ := hz
  have hT : zT σ τ 0 := hzt ▸ zT.th σ 0
  have h11 : τ 3 0 1 = n := hT.n.trans h1
  have h00 : τ 3 0 0 0 = 0 := hT.2.2
  have hN' := hn.1.r
  have hmt := zz_mdo (σ := τ) hW hm
  have hms := zz_mdo (σ := σ) hW hm
  have hno := e10_noFile (x := y) hW hm h1 hn hy0 hy1
  rw [hzt] at hno
  have hw := e10_win (x := x) (lo := 1) (hi := 8) (zH E τ) hx0 hx1 (by omega) (by omega) (by omega) (by omega)
  by_cases hi : 0 ≤ y ∧ y < n 2
  · rw [if_pos hi, if_pos hi]
    rw [if_pos hi] at hno
    by_cases hc : 1 ≤ x ∧ x ≤ 8
    · rw [if_pos hc, if_pos hc]
      rw [decide_eq_true hc] at hw
      have a1 := e10_whyNotWrite_J24_0 hW hm h11 hn h00 hc.1 hc.2 hi.1 hi.2
      refine ⟨τ, ?_, hT⟩
      simp (disch := first | assumption | omega) only [f_X10_whyNotWrite, hms, hno, hw, a1, zz_some, zz_lit, zz_num, zI_lt, zI_le, zI_eq, zI_nat, zz_b, if_pos, if_neg, if_true, if_false]
      try simp
    · rw [if_neg hc, if_neg hc]
      rw [decide_eq_false hc] at hw
      have a1 := e10_whyNotWrite_J24_1 (x := x) (y := y) (z := 0) hW hm h00
      refine ⟨zth τ 2, ?_, hT.t (zT.th τ 2)⟩
      simp (disch := first | assumption | omega) only [f_X10_whyNotWrite, hms, hno, hw, a1, zz_some, zz_lit, zz_num, zI_lt, zI_le, zI_eq, zI_nat, zz_b, if_pos, if_neg, if_true, if_false]
      try simp
  · rw [if_neg hi, if_neg hi]
    rw [if_neg hi] at hno
    refine ⟨zth σ 1, ?_, zT.th σ 1⟩
    simp (disch := first | assumption | omega) only [f_X10_whyNotWrite, hms, hno, zz_some, zz_lit, zz_num, zI_lt, zI_le, zI_eq, zI_nat, zz_b, if_pos, if_neg, if_true, if_false]
    try simp

theorem e10_spaceOf (hW : zWF E) (hm : zU E 3 0 = true) (h1 : σ 3 0 1 = n) (hn : nW n) {x y : Int} (hx0 : -2147483648 ≤ x) (hx1 : x < 2147483648) (hy0 : -2147483648 ≤ y) (hy1 : y < 2147483648) : ∃ σ', f_X10_spaceOf (zH E σ) (zL E 3 0 0) (zI y) (zI x) = some (zH E σ', zI (if 0 ≤ y ∧ y < n 3 then if 1 ≤ x ∧ x ≤ 4 then nSp n y x else 0 else 0)) ∧ zT σ σ' (if 0 ≤ y ∧ y < n 3 then if 1 ≤ x ∧ x ≤ 4 then 0 else 2 else 1) := by
  obtain ⟨τ, hz⟩ : ∃ y, zs σ 3 0 0 0 0 = y := ⟨_, rfl⟩
  have hzt : zth σ 0 = τ := hz
  have hT : zT σ τ 0 := hzt ▸ zT.th σ 0
  have h11 : τ 3 0 1 = n := hT.n.trans h1
  have h00 : τ 3 0 0 0 = 0 := hT.2.2
  have hN' := hn.1.r
  have hmt := zz_mdo (σ := τ) hW hm
  have hms := zz_mdo (σ := σ) hW hm
  have hno := e10_noSession (x := y) hW hm h1 hn hy0 hy1
  rw [hzt] at hno
  have hw := e10_win (x := x) (lo := 1) (hi := 4) (zH E τ) hx0 hx1 (by omega) (by omega) (by omega) (by omega)
  by_cases hi : 0 ≤ y ∧ y < n 3
  · rw [if_pos hi, if_pos hi]
    rw [if_pos hi] at hno
    by_cases hc : 1 ≤ x ∧ x ≤ 4
    · rw [if_pos hc, if_pos hc]
      rw [decide_eq_true hc] at hw
      obtain ⟨σ1, a1, a2⟩ := e10_spaceOf_J23_0 hW hm h11 hn h00 hc.1 hc.2 hi.1 hi.2
      refine ⟨σ1, ?_, hT.q a2⟩
      simp (disch := first | assumption | omega) only [f_X10_spaceOf, hms, hno, hw, a1, zz_some, zz_lit, zz_num, zI_lt, zI_le, zI_eq, zI_nat, zz_b, if_pos, if_neg, if_true, if_false]
      try simp
    · rw [if_neg hc, if_neg hc]
      rw [decide_eq_false hc] at hw
      have a1 := e10_spaceOf_J23_1 (x := x) (y := y) (z := 0) hW hm h00
      refine ⟨zth τ 2, ?_, hT.t (zT.th τ 2)⟩
      simp (disch := first | assumption | omega) only [f_X10_spaceOf, hms, hno, hw, a1, zz_some, zz_lit, zz_num, zI_lt, zI_le, zI_eq, zI_nat, zz_b, if_pos, if_neg, if_true, if_false]
      try simp
  · rw [if_neg hi, if_neg hi]
    rw [if_neg hi] at hno
    refine ⟨zth σ 1, ?_, zT.th σ 1⟩
    simp (disch := first | assumption | omega) only [f_X10_spaceOf, hms, hno, zz_some, zz_lit, zz_num, zI_lt, zI_le, zI_eq, zI_nat, zz_b, if_pos, if_neg, if_true, if_false]
    try simp

theorem e10_place (hW : zWF E) (hm : zU E 3 0 = true) (h1 : σ 3 0 1 = n) (hn : nW n) {y : Int} (hy0 : -2147483648 ≤ y) (hy1 : y < 2147483648) : ∃ σ', f_X10_place (zH E σ) (zL E 3 0 0) (zI y) = some (zH E σ', zI (if 0 ≤ y ∧ y < n 0 then aPlace n y else 0)) ∧ zT σ σ' (if 0 ≤ y ∧ y < n 0 then 0 else 1) := by
  obtain ⟨τ, hz⟩ : ∃ y, zs σ 3 0 0 0 0 = y := ⟨_, rfl⟩
  have hzt : zth σ 0 = τ := hz
  have hT : zT σ τ 0 := hzt ▸ zT.th σ 0
  have h11 : τ 3 0 1 = n := hT.n.trans h1
  have h00 : τ 3 0 0 0 = 0 := hT.2.2
  have hN' := hn.1.r
  have hmt := zz_mdo (σ := τ) hW hm
  have hms := zz_mdo (σ := σ) hW hm
  have hno := e10_noBlock (x := y) hW hm h1 hn hy0 hy1
  rw [hzt] at hno
  by_cases hi : 0 ≤ y ∧ y < n 0
  · rw [if_pos hi, if_pos hi]
    rw [if_pos hi] at hno
    have hi0 := hi.1
    have hi1 := hi.2
    have hmn := e10_isMain hW hm h11 hn.1 hi0 (by omega)
    have hpl := e10_placeOf hW hm h11 hn.1 hn.2.1 hi0 (by omega)
    have hbk := hn.2.1 y hi0 (by omega)
    refine ⟨τ, ?_, hT⟩
    unfold aPlace
    by_cases hc : y < n 0 - n 1
    · rw [decide_eq_true hc] at hmn
      rw [if_pos hc]
      by_cases hk : n (7 + y) = 0
      · rw [if_pos hk]
        simp (disch := first | assumption | omega) only [f_X10_place, hms, hmt, hno, hmn, hpl, zz_ra hW hm, h11, hk, zz_some, zz_lit, zz_num, zI_lt, zI_le, zI_eq, zI_nat, zz_b, if_pos, if_neg, if_true, if_false]
        try simp
      · rw [if_neg hk]
        simp (disch := first | assumption | omega) only [f_X10_place, hms, hmt, hno, hmn, hpl, zz_ra hW hm, h11, zz_some, zz_lit, zz_num, zI_lt, zI_le, zI_eq, zI_nat, zz_b, if_pos, if_neg, if_true, if_false]
        try simp [hk]
    · rw [decide_eq_false hc] at hmn
      rw [if_neg hc]
      simp (disch := first | assumption | omega) only [f_X10_place, hms, hmt, hno, hmn, zz_some, zz_lit, zz_num, zI_lt, zI_le, zI_eq, zI_nat, zz_b, if_pos, if_neg, if_true, if_false]
      try simp
  · rw [if_neg hi, if_neg hi]
    rw [if_neg hi] at hno
    refine ⟨zth σ 1, ?_, zT.th σ 1⟩
    simp (disch := first | assumption | omega) only [f_X10_place, hms, hno, zz_some, zz_lit, zz_num, zI_lt, zI_le, zI_eq, zI_nat, zz_b, if_pos, if_neg, if_true, if_false]
    try simp

theorem e10_risk (hW : zWF E) (hm : zU E 3 0 = true) (h1 : σ 3 0 1 = n) (hn : nW n) {y : Int} (hy0 : -2147483648 ≤ y) (hy1 : y < 2147483648) : ∃ σ', f_X10_risk (zH E σ) (zL E 3 0 0) (zI y) = some (zH E σ', zI (if 0 ≤ y ∧ y < n 0 then nRk n y else 0)) ∧ zT σ σ' (if 0 ≤ y ∧ y < n 0 then 0 else 1) := by
  obtain ⟨τ, hz⟩ : ∃ y, zs σ 3 0 0 0 0 = y := ⟨_, rfl⟩
  have hzt : zth σ 0 = τ := hz
  have hT : zT σ τ 0 := hzt ▸ zT.th σ 0
  have h11 : τ 3 0 1 = n := hT.n.trans h1
  have h00 : τ 3 0 0 0 = 0 := hT.2.2
  have hN' := hn.1.r
  have hmt := zz_mdo (σ := τ) hW hm
  have hms := zz_mdo (σ := σ) hW hm
  have hno := e10_noBlock (x := y) hW hm h1 hn hy0 hy1
  rw [hzt] at hno
  by_cases hi : 0 ≤ y ∧ y < n 0
  · rw [if_pos hi, if_pos hi]
    rw [if_pos hi] at hno
    have hi0 := hi.1
    have hi1 := hi.2
    obtain ⟨σ1, a1, a2⟩ := e10_riskOf hW hm h11 hn hi0 hi1
    refine ⟨σ1, ?_, hT.q a2⟩
    simp (disch := first | assumption | omega) only [f_X10_risk, hms, hmt, hno, a1, zz_some, zz_lit, zz_num, zI_lt, zI_le, zI_eq, zI_nat, zz_b, if_pos, if_neg, if_true, if_false]
    try simp
  · rw [if_neg hi, if_neg hi]
    rw [if_neg hi] at hno
    refine ⟨zth σ 1, ?_, zT.th σ 1⟩
    simp (disch := first | assumption | omega) only [f_X10_risk, hms, hno, zz_some, zz_lit, zz_num, zI_lt, zI_le, zI_eq, zI_nat, zz_b, if_pos, if_neg, if_true, if_false]
    try simp

theorem e10_filesBefore (hW : zWF E) (hm : zU E 3 0 = true) (h1 : σ 3 0 1 = n) (hn : nW n) {y : Int} (hy0 : -2147483648 ≤ y) (hy1 : y < 2147483648) : ∃ σ', f_X10_filesBefore (zH E σ) (zL E 3 0 0) (zI y) = some (zH E σ', zI (if 0 ≤ y ∧ y < n 3 then nTh n y else 0)) ∧ zT σ σ' (if 0 ≤ y ∧ y < n 3 then 0 else 1) := by
  obtain ⟨τ, hz⟩ : ∃ y, zs σ 3 0 0 0 0 = y := ⟨_, rfl⟩
  have hzt : zth σ 0 = τ := hz
  have hT : zT σ τ 0 := hzt ▸ zT.th σ 0
  have h11 : τ 3 0 1 = n := hT.n.trans h1
  have h00 : τ 3 0 0 0 = 0 := hT.2.2
  have hN' := hn.1.r
  have hmt := zz_mdo (σ := τ) hW hm
  have hms := zz_mdo (σ := σ) hW hm
  have hno := e10_noSession (x := y) hW hm h1 hn hy0 hy1
  rw [hzt] at hno
  by_cases hi : 0 ≤ y ∧ y < n 3
  · rw [if_pos hi, if_pos hi]
    rw [if_pos hi] at hno
    have hi0 := hi.1
    have hi1 := hi.2
    obtain ⟨σ1, a1, a2⟩ := e10_filesThere (y := y) hW hm h11 hn hi0 (by omega)
    refine ⟨σ1, ?_, hT.q a2⟩
    simp (disch := first | assumption | omega) only [f_X10_filesBefore, hms, hmt, hno, a1, zz_some, zz_lit, zz_num, zI_lt, zI_le, zI_eq, zI_nat, zz_b, if_pos, if_neg, if_true, if_false]
    try simp
  · rw [if_neg hi, if_neg hi]
    rw [if_neg hi] at hno
    refine ⟨zth σ 1, ?_, zT.th σ 1⟩
    simp (disch := first | assumption | omega) only [f_X10_filesBefore, hms, hno, zz_some, zz_lit, zz_num, zI_lt, zI_le, zI_eq, zI_nat, zz_b, if_pos, if_neg, if_true, if_false]
    try simp

theorem e10_where (hW : zWF E) (hm : zU E 3 0 = true) (h1 : σ 3 0 1 = n) (hn : nW n) {y : Int} (hy0 : -2147483648 ≤ y) (hy1 : y < 2147483648) {z : Int} (hz0 : -2147483648 ≤ z) (hz1 : z < 2147483648) : ∃ σ', f_X10_where (zH E σ) (zL E 3 0 0) (zI y) (zI z) = some (zH E σ', zI (if 0 ≤ y ∧ y < n 2 then aWhere n y z else 0)) ∧ zT σ σ' (if 0 ≤ y ∧ y < n 2 then 0 else 1) := by
  obtain ⟨τ, hz⟩ : ∃ y, zs σ 3 0 0 0 0 = y := ⟨_, rfl⟩
  have hzt : zth σ 0 = τ := hz
  have hT : zT σ τ 0 := hzt ▸ zT.th σ 0
  have h11 : τ 3 0 1 = n := hT.n.trans h1
  have h00 : τ 3 0 0 0 = 0 := hT.2.2
  have hN' := hn.1.r
  have hmt := zz_mdo (σ := τ) hW hm
  have hms := zz_mdo (σ := σ) hW hm
  have hno := e10_noFile (x := y) hW hm h1 hn hy0 hy1
  rw [hzt] at hno
  by_cases hi : 0 ≤ y ∧ y < n 2
  · rw [if_pos hi, if_pos hi]
    rw [if_pos hi] at hno
    have hi0 := hi.1
    have hi1 := hi.2
    have hf := nFv_rng hn y 12
    obtain ⟨σ1, a1, a2, a3, a4⟩ := e10_finds (x := y) hW hm h11 hn hi0 (by omega)
    have h12 := a2.n.trans h11
    have g20 := zg_md20 (σ := σ1) hW hm
    rw [a4] at g20
    have hm1 := zz_mdo (σ := σ1) hW hm
    refine ⟨σ1, ?_, hT.q a2⟩
    unfold aWhere
    by_cases hv : nFv n y 12 = -1
    · rw [if_pos hv]
      rw [hv] at g20
      simp (disch := first | assumption | omega) only [f_X10_where, f_X10_where_J47, hms, hmt, hm1, hno, a1, g20, zz_some, zz_lit, zz_num, zI_lt, zI_le, zI_eq, zI_nat, zz_b, if_pos, if_neg, if_true, if_false]
      try simp
    · rw [if_neg hv]
      have hvs := hn.2.2.1.2 (nFv n y 12) (by omega) (by omega)
      have o2 := e10_ofVersion (v := nFv n y 12) (w := 2) hW hm h12 (by omega) (by omega) (by omega) (by omega)
      have o1 := e10_ofVersion (v := nFv n y 12) (w := 1) hW hm h12 (by omega) (by omega) (by omega) (by omega)
      have hw := e10_win (x := z) (lo := 0) (hi := nV n (nFv n y 12) 2 - 1) (zH E σ1) hz0 hz1 (by omega) (by omega) (by omega) (by omega)
      by_cases hc : 0 ≤ z ∧ z < nV n (nFv n y 12) 2
      · rw [if_pos hc]
        rw [decide_eq_true (by omega)] at hw
        have hpl := e10_placeOf (b := nV n (nFv n y 12) 1 + z) hW hm h12 hn.1 hn.2.1 (by omega) (by omega)
        simp (disch := first | assumption | omega) only [f_X10_where, f_X10_where_J47, hms, hmt, hm1, hno, a1, g20, o2, o1, hw, hpl, zz_some, zz_lit, zz_num, zI_lt, zI_le, zI_eq, zI_nat, zz_b, if_pos, if_neg, if_true, if_false]
        try simp
      · rw [if_neg hc]
        rw [decide_eq_false (by omega)] at hw
        simp (disch := first | assumption | omega) only [f_X10_where, f_X10_where_J47, hms, hmt, hm1, hno, a1, g20, o2, o1, hw, zz_some, zz_lit, zz_num, zI_lt, zI_le, zI_eq, zI_nat, zz_b, if_pos, if_neg, if_true, if_false]
        try simp
  · rw [if_neg hi, if_neg hi]
    rw [if_neg hi] at hno
    refine ⟨zth σ 1, ?_, zT.th σ 1⟩
    simp (disch := first | assumption | omega) only [f_X10_where, hms, hno, zz_some, zz_lit, zz_num, zI_lt, zI_le, zI_eq, zI_nat, zz_b, if_pos, if_neg, if_true, if_false]
    try simp

theorem e10_defect (hW : zWF E) (hm : zU E 3 0 = true) (h1 : σ 3 0 1 = n) (hn : nW n) {x : Int} (hx0 : -2147483648 ≤ x) (hx1 : x < 2147483648) {w : Bool} : ∃ σ', f_X10_defect (zH E σ) (zL E 3 0 0) (zI x) (zI (zb w)) = some (zH E σ', zI (aDefect n x w)) ∧ zT σ σ' 0 := by
  obtain ⟨τ, hz⟩ : ∃ y, zs σ 3 0 0 0 0 = y := ⟨_, rfl⟩
  have hzt : zth σ 0 = τ := hz
  have hT : zT σ τ 0 := hzt ▸ zT.th σ 0
  have h11 : τ 3 0 1 = n := hT.n.trans h1
  have h00 : τ 3 0 0 0 = 0 := hT.2.2
  have hN' := hn.1.r
  have hmt := zz_mdo (σ := τ) hW hm
  have hms := zz_mdo (σ := σ) hW hm
  have hmn := e10_mainMany hW hm h11 hn.1
  refine ⟨τ, ?_, hT⟩
  unfold aDefect
  by_cases hc : x < 0
  · rw [if_pos hc]
    obtain ⟨f, hf⟩ : ∃ f, g_N = f + 1 := ⟨4095, rfl⟩
    simp (disch := first | assumption | omega) only [f_X10_defect, zp_md0 hW hm, hz, zz_some, zz_lit, zz_num, zI_lt, zI_le, zI_eq, zI_nat, zz_b, if_pos, if_neg, if_true, if_false]
    rw [hf]
    simp (disch := first | assumption | omega) only [f_X10_defect_L10, hmt, hmn, zz_some, zz_lit, zz_num, zI_lt, zI_le, zI_eq, zI_nat, zz_b, if_pos, if_neg, if_true, if_false]
    try split
    all_goals rfl
  · rw [if_neg hc]
    have h := e10_defect_L (w := w) hW hm h11 hn (n 0 - n 1).toNat g_N x 0 (by omega) (by omega) (by unfold g_N; omega) (by omega) hx1
    simp (disch := first | assumption | omega) only [f_X10_defect, zp_md0 hW hm, hz, h, zz_some, zz_lit, zz_num, zI_lt, zI_le, zI_eq, zI_nat, zz_b, if_pos, if_neg, if_true, if_false]
theorem e10_couldRecover (hW : zWF E) (hm : zU E 3 0 = true) (h1 : σ 3 0 1 = n) (hn : nW n) : ∃ σ', f_X10_couldRecover (zH E σ) (zL E 3 0 0) = some (zH E σ', zI ((nCo n).length : Int)) ∧ zT σ σ' 0 := by
  obtain ⟨τ, hz⟩ : ∃ y, zs σ 3 0 0 0 0 = y := ⟨_, rfl⟩
  have hzt : zth σ 0 = τ := hz
  have hT : zT σ τ 0 := hzt ▸ zT.th σ 0
  have h11 : τ 3 0 1 = n := hT.n.trans h1
  have h00 : τ 3 0 0 0 = 0 := hT.2.2
  have hN' := hn.1.r
  have hmt := zz_mdo (σ := τ) hW hm
  have hms := zz_mdo (σ := σ) hW hm
  obtain ⟨σ1, a1, a2, a3⟩ := e10_findsLost hW hm h11 hn
  have g22 := zg_md22 (σ := σ1) hW hm
  rw [a3.1] at g22
  refine ⟨σ1, ?_, hT.q a2⟩
  simp (disch := first | assumption | omega) only [f_X10_couldRecover, zp_md0 hW hm, hz, hmt, a1, g22, zz_some, zz_lit, zz_num, zI_lt, zI_le, zI_eq, zI_nat, zz_b, if_pos, if_neg, if_true, if_false]
theorem nRk_rng (n : zN) (b : Int) : 0 ≤ nRk n b ∧ nRk n b ≤ (n 2).toNat := by
  unfold nRk
  split
  · omega
  · exact zcn_rng _ _ _
theorem e10_weakest_L (hW : zWF E) (hm : zU E 3 0 = true) (hn : nW n) : ∀ (m fuel : Nat) (σ : zW) (b w r : Int), σ 3 0 1 = n → 0 ≤ b → b + m = n 0 → m < fuel → 0 ≤ r → r ≤ 100 → ∃ σ', f_X10_weakest_L11 fuel (zH E σ) (zL E 3 0 0) (zI w) (zI r) (zI b) = some (zH E σ', zI (zwk (nRk n) m b w r)) ∧ zQ σ σ' := by
  have hN' := hn.1.r
  intro m
  induction m with
  | zero =>
    intro fuel σ b w r h1 hb0 hb1 hf hr0 hr1
    obtain ⟨f, rfl, h4⟩ := zfuel hf
    refine ⟨σ, ?_, zQ.rf⟩
    simp (disch := first | assumption | omega) only [f_X10_weakest_L11, zwk, zz_mdo hW hm, zz_ra hW hm, h1, zz_some, zz_lit, zz_num, zI_lt, zI_le, zI_eq, zI_nat, zz_b, if_pos, if_neg, if_true, if_false]
  | succ m ih =>
    intro fuel σ b w r h1 hb0 hb1 hf hr0 hr1
    obtain ⟨f, rfl, h4⟩ := zfuel hf
    obtain ⟨σ1, a1, a2⟩ := e10_riskOf hW hm h1 hn hb0 (by omega)
    have hk := nRk_rng n b
    have h11 := a2.n.trans h1
    by_cases hc : nRk n b ≤ r
    · obtain ⟨σ2, b1, b2⟩ := ih f σ1 (b + 1) w r h11 (by omega) (by omega) (by omega) hr0 hr1
      refine ⟨σ2, ?_, a2.tr b2⟩
      rw [zwk, if_pos hc]
      simp (disch := first | assumption | omega) only [f_X10_weakest_L11, f_X10_weakest_J39, a1, b1, zz_mdo hW hm, zz_ra hW hm, h1, zz_some, zz_lit, zz_num, zI_lt, zI_le, zI_eq, zI_nat, zz_b, if_pos, if_neg, if_true, if_false]
    · obtain ⟨σ2, b1, b2⟩ := ih f σ1 (b + 1) b (nRk n b) h11 (by omega) (by omega) (by omega) (by omega) (by omega)
      refine ⟨σ2, ?_, a2.tr b2⟩
      rw [zwk, if_neg hc]
      simp (disch := first | assumption | omega) only [f_X10_weakest_L11, f_X10_weakest_J39, a1, b1, zz_mdo hW hm, zz_ra hW hm, h1, zz_some, zz_lit, zz_num, zI_lt, zI_le, zI_eq, zI_nat, zz_b, if_pos, if_neg, if_true, if_false]
theorem e10_weakest (hW : zWF E) (hm : zU E 3 0 = true) (h1 : σ 3 0 1 = n) (hn : nW n) : ∃ σ', f_X10_weakest (zH E σ) (zL E 3 0 0) = some (zH E σ', zI (zwk (nRk n) (n 0).toNat 0 0 0)) ∧ zT σ σ' 0 := by
  obtain ⟨τ, hz⟩ : ∃ y, zs σ 3 0 0 0 0 = y := ⟨_, rfl⟩
  have hzt : zth σ 0 = τ := hz
  have hT : zT σ τ 0 := hzt ▸ zT.th σ 0
  have h11 : τ 3 0 1 = n := hT.n.trans h1
  have h00 : τ 3 0 0 0 = 0 := hT.2.2
  have hN' := hn.1.r
  have hmt := zz_mdo (σ := τ) hW hm
  have hms := zz_mdo (σ := σ) hW hm
  obtain ⟨σ1, a1, a2⟩ := e10_weakest_L hW hm hn (n 0).toNat g_N τ 0 0 0 h11 (by omega) (by omega) (by unfold g_N; omega) (by omega) (by omega)
  refine ⟨σ1, ?_, hT.q a2⟩
  simp (disch := first | assumption | omega) only [f_X10_weakest, zp_md0 hW hm, hz, a1, zz_some, zz_lit, zz_num, zI_lt, zI_le, zI_eq, zI_nat, zz_b, if_pos, if_neg, if_true, if_false]

end zMod
end
section
/-! The reference: keeping rows for undo, snapshots. -/
/-- only the undo rows and their count differ -/
def zK (σ σ' : zW) : Prop := (∀ k d c, ¬ (k = 3 ∧ d = 0 ∧ (c = 0 ∨ c = 25)) → σ' k d c = σ k d c) ∧ ∀ i, i ≠ 24 → σ' 3 0 0 i = σ 3 0 0 i
/-- the undo rows are U 0 .. U (c - 1) -/
def zUn (σ : zW) (c : Int) (U : Int → zN) : Prop := σ 3 0 0 24 = c ∧ 0 ≤ c ∧ c ≤ 10 ∧ ∀ k i, 0 ≤ k → k < c → 0 ≤ i → i < 1555 → σ 3 0 25 (1555 * k + i) = U k i
def kC (c : Int) : Int := if c = 10 then 10 else c + 1
def kU (c : Int) (U : Int → zN) (n : zN) : Int → zN := fun k => if c = 10 then (if k = 9 then n else U (k + 1)) else if k = c then n else U k
/-- the snapshots: h says which are there, S which rows -/
def zSn (σ : zW) (h : Int → Bool) (S : Int → zN) : Prop := ∀ j, 0 ≤ j → j < 2 → σ 3 0 27 j = zb (h j) ∧ (h j = true → ∀ i, 0 ≤ i → i < 1555 → σ 3 0 26 (1555 * j + i) = S j i)
section zMod
variable {E : zE} {σ : zW} {n : zN}
theorem e10_keeps_J (hW : zWF E) (hm : zU E 3 0 = true) (h1 : σ 3 0 1 = n) {c : Int} (h24 : σ 3 0 0 24 = c) (hc0 : 0 ≤ c) (hc1 : c ≤ 9) : ∃ σ', f_X10_keeps_J58 (zH E σ) (zL E 3 0 0) = some (zH E σ') ∧ zK σ σ' ∧ σ' 3 0 0 24 = c + 1 ∧ ∀ k i, 0 ≤ i → i < 1555 → σ' 3 0 25 (1555 * k + i) = if k = c then n i else σ 3 0 25 (1555 * k + i) := by
  have hcp := e10_copies (c1 := 1) (c2 := 25) (N1 := 1555) (N2 := 15550) hW hm rfl rfl (by omega) (by omega) (a := 0) (b := 1555 * c) (by omega) (by omega) (by omega) (by omega) (Or.inl (by omega)) σ
  obtain ⟨τ, ht⟩ : ∃ x, x = zr σ 3 0 25 (fun i => if 1555 * c ≤ i ∧ i < 1555 * c + 1555 then σ 3 0 1 (0 + (i - 1555 * c)) else σ 3 0 25 i) := ⟨_, rfl⟩
  rw [← ht] at hcp
  have g24 := zg_md24 (σ := σ) hW hm
  have g24' := zg_md24 (σ := τ) hW hm
  rw [h24] at g24
  rw [show τ 3 0 0 24 = c by rw [ht, zr_ne (by omega), h24]] at g24'
  refine ⟨zs τ 3 0 0 24 (c + 1), ?_, ⟨fun k d c' z => ?_, fun i hi => ?_⟩, ?_, fun k i hi0 hi1 => ?_⟩
  · simp (disch := first | assumption | omega) only [f_X10_keeps_J58, zg_md1 hW hm, zg_md25 hW hm, g24, hcp, g24', zp_md24 hW hm, zz_some, zz_lit, zz_num, zI_lt, zI_le, zI_eq, zI_nat, zz_b, if_pos, if_neg, if_true, if_false]
  · rw [zs_ne (by omega), ht, zr_ne (by omega)]
  · rw [zs_at, if_neg hi, ht, zr_ne (by omega)]
  · rw [zs_at, if_pos rfl]
  · rw [zs_ne (by omega), ht, zr_at, h1]
    by_cases hk : k = c
    · rw [if_pos hk, if_pos (by omega)]
      congr 1
      omega
    · rw [if_neg hk, if_neg (by omega)]
theorem e10_keeps_L (hW : zWF E) (hm : zU E 3 0 = true) : ∀ (m fuel : Nat) (t : Int) (σ : zW), 0 ≤ t → t + m = 9 → m < fuel → σ 3 0 0 24 = 9 → ∃ σ', f_X10_keeps_L21 fuel (zH E σ) (zL E 3 0 0) (zI t) = f_X10_keeps_J58 (zH E σ') (zL E 3 0 0) ∧ (∀ k d c, ¬ (k = 3 ∧ d = 0 ∧ c = 25) → σ' k d c = σ k d c) ∧ ∀ k i, k < 9 → 0 ≤ i → i < 1555 → σ' 3 0 25 (1555 * k + i) = if k < t then σ 3 0 25 (1555 * k + i) else σ 3 0 25 (1555 * (k + 1) + i) := by
  intro m
  induction m with
  | zero =>
    intro fuel t σ h0 h1 h2 h24
    obtain ⟨f, rfl, h4⟩ := zfuel h2
    have g24 := zg_md24 (σ := σ) hW hm
    rw [h24] at g24
    refine ⟨σ, ?_, fun _ _ _ _ => rfl, fun k i hk hi0 hi1 => by rw [if_pos (by omega)]⟩
    simp (disch := first | assumption | omega) only [f_X10_keeps_L21, g24, zz_some, zz_lit, zz_num, zI_lt, zI_le, zI_eq, zI_nat, zz_b, if_pos, if_neg, if_true, if_false]
  | succ m ih =>
    intro fuel t σ h0 h1 h2 h24
    obtain ⟨f, rfl, h4⟩ := zfuel h2
    have g24 := zg_md24 (σ := σ) hW hm
    rw [h24] at g24
    have hcp := e10_copies (c1 := 25) (c2 := 25) (N1 := 15550) (N2 := 15550) hW hm rfl rfl (by omega) (by omega) (a := 1555 * (t + 1)) (b := 1555 * t) (by omega) (by omega) (by omega) (by omega) (Or.inr (by omega)) σ
    obtain ⟨τ, ht⟩ : ∃ x, x = zr σ 3 0 25 (fun i => if 1555 * t ≤ i ∧ i < 1555 * t + 1555 then σ 3 0 25 (1555 * (t + 1) + (i - 1555 * t)) else σ 3 0 25 i) := ⟨_, rfl⟩
    rw [← ht] at hcp
    obtain ⟨σ', a1, a2, a3⟩ := ih f (t + 1) τ (by omega) (by omega) (by omega) (by rw [ht, zr_ne (by omega), h24])
    refine ⟨σ', ?_, fun k d c z => (a2 k d c z).trans (by rw [ht, zr_ne z]), fun k i hk hi0 hi1 => ?_⟩
    · rw [← a1]
      simp (disch := first | assumption | omega) only [f_X10_keeps_L21, zg_md25 hW hm, g24, hcp, zz_some, zz_lit, zz_num, zI_lt, zI_le, zI_eq, zI_nat, zz_b, if_pos, if_neg, if_true, if_false]
    · rw [a3 k i hk hi0 hi1, ht, zr_at]
      by_cases hkt : k < t
      · rw [if_pos (by omega), if_neg (by omega), if_pos hkt]
      · rw [if_neg hkt]
        by_cases hk2 : k = t
        · rw [if_pos (by omega), if_pos (by omega), hk2]
          congr 1
          omega
        · rw [if_neg (by omega), if_neg (by omega)]
theorem e10_keeps (hW : zWF E) (hm : zU E 3 0 = true) (h1 : σ 3 0 1 = n) {c : Int} {U : Int → zN} (hU : zUn σ c U) : ∃ σ', f_X10_keeps (zH E σ) (zL E 3 0 0) = some (zH E σ') ∧ zK σ σ' ∧ zUn σ' (kC c) (kU c U n) := by
  obtain ⟨h24, hc0, hc1, hU⟩ := hU
  have g24 := zg_md24 (σ := σ) hW hm
  rw [h24] at g24
  by_cases hc : c = 10
  · obtain ⟨τ, ht⟩ : ∃ x, zs σ 3 0 0 24 (10 - 1) = x := ⟨_, rfl⟩
    obtain ⟨σ1, a1, a2, a3⟩ := e10_keeps_L hW hm 9 g_N 0 τ (by omega) (by omega) (by unfold g_N; omega) (by rw [← ht, zs_at, if_pos rfl]; rfl)
    obtain ⟨σ2, b1, b2, b3, b4⟩ := e10_keeps_J (n := n) (c := 9) (σ := σ1) hW hm (by rw [a2 _ _ _ (by omega), ← ht, zs_ne (by omega), h1]) (by rw [a2 _ _ _ (by omega), ← ht, zs_at, if_pos rfl]; rfl) (by omega) (by omega)
    refine ⟨σ2, ?_, ⟨fun k d c' z => ?_, fun i hi => ?_⟩, ?_, ?_, ?_, fun k i hk0 hk1 hi0 hi1 => ?_⟩
    · rw [← b1, ← a1]
      simp (disch := first | assumption | omega) only [f_X10_keeps, g24, hc, zp_md24 hW hm, ht, zz_some, zz_lit, zz_num, zI_lt, zI_le, zI_eq, zI_nat, zz_b, if_pos, if_neg, if_true, if_false]
    · rw [b2.1 k d c' z, a2 k d c' (by omega), ← ht, zs_ne (by omega)]
    · rw [b2.2 i hi, a2 _ _ _ (by omega), ← ht, zs_at, if_neg hi]
    · rw [b3]; unfold kC; rw [if_pos hc]; rfl
    · unfold kC; rw [if_pos hc]; omega
    · unfold kC; rw [if_pos hc]; omega
    · unfold kC at hk1
      rw [if_pos hc] at hk1
      unfold kU
      rw [b4 k i hi0 hi1, if_pos hc]
      by_cases h9 : k = 9
      · rw [if_pos h9, if_pos h9]
      · rw [if_neg h9, if_neg h9, a3 k i (by omega) hi0 hi1, if_neg (by omega), ← ht, zs_ne (by omega)]
        exact hU (k + 1) i (by omega) (by omega) hi0 hi1
  · obtain ⟨σ2, b1, b2, b3, b4⟩ := e10_keeps_J (n := n) (c := c) (σ := σ) hW hm h1 h24 hc0 (by omega)
    refine ⟨σ2, ?_, b2, ?_, ?_, ?_, fun k i hk0 hk1 hi0 hi1 => ?_⟩
    · rw [← b1]
      simp (disch := first | assumption | omega) only [f_X10_keeps, g24, zz_some, zz_lit, zz_num, zI_lt, zI_le, zI_eq, zI_nat, zz_b, if_pos, if_neg, if_true, if_false]
      try simp [hc]
    · rw [b3]; unfold kC; rw [if_neg hc]
    · unfold kC; rw [if_neg hc]; omega
    · unfold kC; rw [if_neg hc]; omega
    · unfold kC at hk1
      rw [if_neg hc] at hk1
      unfold kU
      rw [b4 k i hi0 hi1, if_neg hc]
      by_cases h9 : k = c
      · rw [if_pos h9, if_pos h9]
      · rw [if_neg h9, if_neg h9]
        exact hU k i hk0 (by omega) hi0 hi1
theorem e10_undo (hW : zWF E) (hm : zU E 3 0 = true) {c : Int} {U : Int → zN} (hU : zUn σ c U) : ∃ σ', f_X10_undo (zH E σ) (zL E 3 0 0) = some (zH E σ', zI (if c = 0 then -1 else c - 1)) ∧ (∀ k d c', ¬ (k = 3 ∧ d = 0 ∧ (c' = 0 ∨ c' = 1)) → σ' k d c' = σ k d c') ∧ (∀ i, i ≠ 0 → i ≠ 24 → σ' 3 0 0 i = σ 3 0 0 i) ∧ σ' 3 0 0 0 = 0 ∧ (c = 0 → σ' 3 0 1 = σ 3 0 1) ∧ (c ≠ 0 → ∀ i, 0 ≤ i → i < 1555 → σ' 3 0 1 i = U (c - 1) i) ∧ zUn σ' (if c = 0 then 0 else c - 1) U := by
  obtain ⟨h24, hc0, hc1, hU⟩ := hU
  obtain ⟨τ, ht⟩ : ∃ x, zs σ 3 0 0 0 0 = x := ⟨_, rfl⟩
  have t24 : τ 3 0 0 24 = c := by rw [← ht, zs_at, if_neg (by omega), h24]
  have g24 := zg_md24 (σ := τ) hW hm
  rw [t24] at g24
  by_cases hc : c = 0
  · refine ⟨τ, ?_, fun k d c' z => by rw [← ht, zs_ne (by omega)], fun i h0 h1 => by rw [← ht, zs_at, if_neg h0], by rw [← ht, zs_at, if_pos rfl], fun _ => by rw [← ht]; funext i; rw [zs_ne (by omega)], fun h => absurd hc h, ?_, ?_, ?_, fun k i hk0 hk1 => ?_⟩
    · simp (disch := first | assumption | omega) only [f_X10_undo, zp_md0 hW hm, ht, g24, hc, zz_some, zz_lit, zz_num, zI_lt, zI_le, zI_eq, zI_nat, zz_b, if_pos, if_neg, if_true, if_false]
      try simp
    · rw [t24, hc]; rfl
    · rw [if_pos hc]; omega
    · rw [if_pos hc]; omega
    · rw [if_pos hc] at hk1; omega
  · obtain ⟨τ1, ht1⟩ : ∃ x, zs τ 3 0 0 24 (c - 1) = x := ⟨_, rfl⟩
    have u24 : τ1 3 0 0 24 = c - 1 := by rw [← ht1, zs_at, if_pos rfl]
    have g24' := zg_md24 (σ := τ1) hW hm
    rw [u24] at g24'
    have hcp := e10_copies (c1 := 25) (c2 := 1) (N1 := 15550) (N2 := 1555) hW hm rfl rfl (by omega) (by omega) (a := 1555 * (c - 1)) (b := 0) (by omega) (by omega) (by omega) (by omega) (Or.inl (by omega)) τ1
    obtain ⟨τ2, ht2⟩ : ∃ x, x = zr τ1 3 0 1 (fun i => if 0 ≤ i ∧ i < 0 + 1555 then τ1 3 0 25 (1555 * (c - 1) + (i - 0)) else τ1 3 0 1 i) := ⟨_, rfl⟩
    rw [← ht2] at hcp
    have v24 : τ2 3 0 0 24 = c - 1 := by rw [ht2, zr_ne (by omega), u24]
    have g24'' := zg_md24 (σ := τ2) hW hm
    rw [v24] at g24''
    refine ⟨τ2, ?_, fun k d c' z => by rw [ht2, zr_ne (by omega), ← ht1, zs_ne (by omega), ← ht, zs_ne (by omega)], fun i h0 h1 => by rw [ht2, zr_ne (by omega), ← ht1, zs_at, if_neg h1, ← ht, zs_at, if_neg h0], by rw [ht2, zr_ne (by omega), ← ht1, zs_at, if_neg (by omega), ← ht, zs_at, if_pos rfl], fun h => absurd h hc, fun _ i hi0 hi1 => ?_, ?_, ?_, ?_, fun k i hk0 hk1 hi0 hi1 => ?_⟩
    · simp (disch := first | assumption | omega) only [f_X10_undo, zp_md0 hW hm, ht, g24, zp_md24 hW hm, ht1, zg_md25 hW hm, g24', zg_md1 hW hm, hcp, g24'', zz_some, zz_lit, zz_num, zI_lt, zI_le, zI_eq, zI_nat, zz_b, if_pos, if_neg, if_true, if_false]
      try simp [hc]
    · rw [ht2, zr_at, if_pos (by omega), ← ht1, zs_ne (by omega), ← ht, zs_ne (by omega)]
      rw [show i - 0 = i by omega]
      exact hU (c - 1) i (by omega) (by omega) hi0 hi1
    · rw [v24, if_neg hc]
    · rw [if_neg hc]; omega
    · rw [if_neg hc]; omega
    · rw [if_neg hc] at hk1
      rw [ht2, zr_ne (by omega), ← ht1, zs_ne (by omega), ← ht, zs_ne (by omega)]
      exact hU k i hk0 (by omega) hi0 hi1

end zMod
end
section
/-! The reference's calls that change. -/
def zCh (σ σ' : zW) (e : Int) : Prop := (∀ k d c, ¬ (k = 3 ∧ d = 0 ∧ (c = 0 ∨ c = 1 ∨ c = 17 ∨ c = 21 ∨ c = 23 ∨ c = 25)) → σ' k d c = σ k d c) ∧ (∀ i, i ≠ 0 → i ≠ 18 → i ≠ 19 → i ≠ 20 → i ≠ 22 → i ≠ 24 → σ' 3 0 0 i = σ 3 0 0 i) ∧ σ' 3 0 0 0 = e
theorem zCh.mk3 {σ σ1 σ2 : zW} {e : Int} (h : zT σ σ1 e) (k : zK σ1 σ2) (n' : zN) : zCh σ (zw σ2 n') e := by
  refine ⟨fun k' d c z => ?_, fun i a b c d f g => ?_, ?_⟩
  · unfold zw; rw [zr_ne (by omega), k.1 k' d c (by omega), h.1 k' d c (by omega)]
  · unfold zw; rw [zr_ne (by omega), k.2 i g, h.2.1 i a b c d f]
  · unfold zw; rw [zr_ne (by omega), k.2 0 (by omega), h.2.2]
theorem zCh.q {σ σ1 σ2 : zW} {e : Int} (h : zCh σ σ1 e) (q : zQ σ1 σ2) : zCh σ σ2 e := ⟨fun k d c z => (q.1 k d c (by omega)).trans (h.1 k d c z), fun i a b c d f g => (q.2 i b c d f).trans (h.2.1 i a b c d f g), (q.2 0 (by omega) (by omega) (by omega) (by omega)).trans h.2.2⟩
theorem zUn.cg {σ σ' : zW} {c : Int} {U : Int → zN} (h : zUn σ c U) (h1 : σ' 3 0 0 24 = σ 3 0 0 24) (h2 : σ' 3 0 25 = σ 3 0 25) : zUn σ' c U := ⟨h1.trans h.1, h.2.1, h.2.2.1, fun k i a b x y => by rw [h2]; exact h.2.2.2 k i a b x y⟩
theorem zUn.t {σ σ' : zW} {c e : Int} {U : Int → zN} (h : zUn σ c U) (t : zT σ σ' e) : zUn σ' c U := h.cg (t.2.1 24 (by omega) (by omega) (by omega) (by omega) (by omega)) (t.1 3 0 25 (by omega))
theorem zUn.q {σ σ' : zW} {c : Int} {U : Int → zN} (h : zUn σ c U) (t : zQ σ σ') : zUn σ' c U := h.cg (t.2 24 (by omega) (by omega) (by omega) (by omega)) (t.1 3 0 25 (by omega))
theorem zUn.w {σ : zW} {c : Int} {U : Int → zN} (h : zUn σ c U) (n' : zN) : zUn (zw σ n') c U := h.cg (by unfold zw; rw [zr_ne (by omega)]) (by unfold zw; rw [zr_ne (by omega)])
theorem nWd_rng (n : zN) (e : Int) : 0 ≤ nWd n e ∧ nWd n e ≤ 5 := by unfold nWd; split <;> (try split) <;> omega
theorem nWw_rng (n : zN) (f m : Int) : 0 ≤ nWw n f m ∧ nWw n f m ≤ 5 := by unfold nWw; split <;> (try split) <;> (try split) <;> omega
theorem nWc_rng (n : zN) : 0 ≤ nWc n ∧ nWc n ≤ 5 := by
  have := nWd_rng n (nS n (nLa n) 2)
  unfold nWc; split <;> omega
theorem nWr_rng (n : zN) : 0 ≤ nWr n ∧ nWr n ≤ 5 := by
  have := nWd_rng n (nCr n)
  unfold nWr; split <;> (try split) <;> omega
theorem nWe_rng (n : zN) (f : Int) : 0 ≤ nWe n f ∧ nWe n f ≤ 5 := by unfold nWe; split <;> (try split) <;> (try split) <;> omega
section zMod
variable {E : zE} {σ : zW} {n : zN}
theorem e10_kp (hW : zWF E) (hm : zU E 3 0 = true) (h1 : σ 3 0 1 = n) {c : Int} {U : Int → zN} (hU : zUn σ c U) {τ : zW} (hT : zT σ τ 0) : ∃ σ2, f_X10_keeps (zH E τ) (zL E 3 0 0) = some (zH E (zw σ2 n)) ∧ ∀ n', zCh σ (zw σ2 n') 0 ∧ zUn (zw σ2 n') (kC c) (kU c U n) := by
  obtain ⟨σ2, a1, a2, a3⟩ := e10_keeps hW hm (hT.n.trans h1) (hU.t hT)
  have h2 : σ2 3 0 1 = n := (a2.1 3 0 1 (by omega)).trans (hT.n.trans h1)
  exact ⟨σ2, by rw [a1, zw_self h2], fun n' => ⟨zCh.mk3 hT a2 n', a3.w n'⟩⟩
/-- what a call answers: its state, its answer, the thrown number e; ok: the row, one more kept -/
theorem e10_write_ok (hW : zWF E) (hm : zU E 3 0 = true) (h1 : σ 3 0 1 = n) (hn : nW n) {c : Int} {U : Int → zN} (hU : zUn σ c U) {f m t : Int} (hf : 0 ≤ f ∧ f < n 2) (hm0 : 1 ≤ m ∧ m ≤ 8) (ht : 0 ≤ t ∧ t ≤ 999) (hy : nWw n f m = 0) : ∃ σ', f_X10_write (zH E σ) (zL E 3 0 0) (zI f) (zI m) (zI t) = some (zH E σ', zI (n 6)) ∧ zCh σ σ' 0 ∧ σ' 3 0 1 = nWrs n f m t ∧ zUn σ' (kC c) (kU c U n) := by
  obtain ⟨τ, hz⟩ : ∃ y, zs σ 3 0 0 0 0 = y := ⟨_, rfl⟩
  have hzt : zth σ 0 = τ := hz
  have hT : zT σ τ 0 := hzt ▸ zT.th σ 0
  have h11 : τ 3 0 1 = n := hT.n.trans h1
  have h00 : τ 3 0 0 0 = 0 := hT.2.2
  have hN' := hn.1.r
  have hmt := zz_mdo (σ := τ) hW hm
  have hms := zz_mdo (σ := σ) hW hm
  have hno := e10_noFile (x := f) hW hm h1 hn (by omega) (by omega)
  rw [hzt, if_pos hf] at hno
  have hw1 := e10_win (x := m) (lo := 1) (hi := 8) (zH E τ) (by omega) (by omega) (by omega) (by omega) (by omega) (by omega)
  have hw2 := e10_win (x := t) (lo := 0) (hi := 999) (zH E τ) (by omega) (by omega) (by omega) (by omega) (by omega) (by omega)
  rw [decide_eq_true hm0] at hw1
  rw [decide_eq_true ht] at hw2
  have hy1 := e10_whyWrite (x := f) (m := m) hW hm h11 hn (by omega) (by omega) (by omega) (by omega)
  rw [hy] at hy1
  have hth := fun w : Int => e10_th0 (w := w) hW hm h00
  obtain ⟨σ2, k1, k2⟩ := e10_kp hW hm h1 hU hT
  have hm2 := zz_mdo (σ := zw σ2 n) hW hm
  have hwr := e10_writes (σ := σ2) hW hm hn hf.1 hf.2 hm0.1 hm0.2 ht.1 ht.2 hy
  refine ⟨zw σ2 (nWrs n f m t), ?_, (k2 _).1, zw_at, (k2 _).2⟩
  have hj : f_X10_write_J57 (zH E τ) (zL E 3 0 0) (zI f) (zI m) (zI t) (zL E 3 0 0) (zI 0) = some (zH E (zw σ2 (nWrs n f m t)), zI (n 6)) := by
    simp (disch := first | assumption | omega) only [f_X10_write_J57, hmt, hm2, hth, k1, hwr, zz_some, zz_lit, zz_num, zI_lt, zI_le, zI_eq, zI_nat, zz_b, if_pos, if_neg, if_true, if_false]
  have hj2 : f_X10_write_J35 (zH E τ) (zL E 3 0 0) (zI f) (zI m) (zI t) (zL E 3 0 0) (zI 0) = some (zH E (zw σ2 (nWrs n f m t)), zI (n 6)) := by
    simp (disch := first | assumption | omega) only [f_X10_write_J35, hmt, hth, hy1, hj, zz_some, zz_lit, zz_num, zI_lt, zI_le, zI_eq, zI_nat, zz_b, if_pos, if_neg, if_true, if_false]
  simp (disch := first | assumption | omega) only [f_X10_write, hms, hmt, hno, hw1, hw2, hj2, zz_some, zz_lit, zz_num, zI_lt, zI_le, zI_eq, zI_nat, zz_b, if_pos, if_neg, if_true, if_false]
  try simp
theorem e10_write_no (hW : zWF E) (hm : zU E 3 0 = true) (h1 : σ 3 0 1 = n) (hn : nW n) {f m t : Int} (hf0 : -2147483648 ≤ f) (hf1 : f < 2147483648) (hm0 : -2147483648 ≤ m) (hm1 : m < 2147483648) (ht0 : -2147483648 ≤ t) (ht1 : t < 2147483648) {e : Int} (he : e = if 0 ≤ f ∧ f < n 2 then (if (1 ≤ m ∧ m ≤ 8) ∧ 0 ≤ t ∧ t ≤ 999 then (if nWw n f m = 0 then 0 else 3) else 2) else 1) (he0 : e ≠ 0) : ∃ σ', f_X10_write (zH E σ) (zL E 3 0 0) (zI f) (zI m) (zI t) = some (zH E σ', zI 0) ∧ zT σ σ' e := by
  obtain ⟨τ, hz⟩ : ∃ y, zs σ 3 0 0 0 0 = y := ⟨_, rfl⟩
  have hzt : zth σ 0 = τ := hz
  have hT : zT σ τ 0 := hzt ▸ zT.th σ 0
  have h11 : τ 3 0 1 = n := hT.n.trans h1
  have h00 : τ 3 0 0 0 = 0 := hT.2.2
  have hN' := hn.1.r
  have hmt := zz_mdo (σ := τ) hW hm
  have hms := zz_mdo (σ := σ) hW hm
  have hno := e10_noFile (x := f) hW hm h1 hn hf0 hf1
  rw [hzt] at hno
  have hw1 := e10_win (x := m) (lo := 1) (hi := 8) (zH E τ) (by omega) (by omega) (by omega) (by omega) (by omega) (by omega)
  have hw2 := e10_win (x := t) (lo := 0) (hi := 999) (zH E τ) (by omega) (by omega) (by omega) (by omega) (by omega) (by omega)
  by_cases hf : 0 ≤ f ∧ f < n 2
  · rw [if_pos hf] at hno he
    have h2 := e10_th1 (w := 2) hW hm h00 (by omega) (by omega)
    have h3 := e10_th1 (w := 3) hW hm h00 (by omega) (by omega)
    have hth := fun w : Int => e10_th0 (w := w) hW hm h00
    by_cases hmm : 1 ≤ m ∧ m ≤ 8
    · rw [decide_eq_true hmm] at hw1
      by_cases htt : 0 ≤ t ∧ t ≤ 999
      · rw [decide_eq_true htt] at hw2
        rw [if_pos ⟨hmm, htt⟩] at he
        have hy1 := e10_whyWrite (x := f) (m := m) hW hm h11 hn (by omega) (by omega) (by omega) (by omega)
        have hr := nWw_rng n f m
        by_cases hy : nWw n f m = 0
        · rw [if_pos hy] at he; exact absurd he he0
        · rw [if_neg hy] at he
          subst he
          refine ⟨zth τ 3, ?_, hT.t (zT.th τ 3)⟩
          have hj : f_X10_write_J57 (zH E τ) (zL E 3 0 0) (zI f) (zI m) (zI t) (zL E 3 0 0) (zI 1) = some (zH E (zth τ 3), zI 0) := by
            have hob : g_ob (zH E τ) (zL E 3 0 0) 10 = some () := by simp only [hmt]
            rw [f_X10_write_J57, hob, zz_some, show (3 : Int32) = zI 3 from rfl, h3, zz_some, if_neg zz10]
            rfl
          have hj2 : f_X10_write_J35 (zH E τ) (zL E 3 0 0) (zI f) (zI m) (zI t) (zL E 3 0 0) (zI 0) = some (zH E (zth τ 3), zI 0) := by
            simp (disch := first | assumption | omega) only [f_X10_write_J35, hmt, hth, hy1, hj, zz_some, zz_lit, zz_num, zI_lt, zI_le, zI_eq, zI_nat, zz_b, if_pos, if_neg, if_true, if_false]
          simp (disch := first | assumption | omega) only [f_X10_write, hms, hmt, hno, hw1, hw2, hj2, zz_some, zz_lit, zz_num, zI_lt, zI_le, zI_eq, zI_nat, zz_b, if_pos, if_neg, if_true, if_false]
          try simp
      · rw [decide_eq_false htt] at hw2
        rw [if_neg (by omega)] at he
        subst he
        refine ⟨zth τ 2, ?_, hT.t (zT.th τ 2)⟩
        simp (disch := first | assumption | omega) only [f_X10_write, f_X10_write_J35, hms, hmt, hno, hw1, hw2, h2, zz_some, zz_lit, zz_num, zI_lt, zI_le, zI_eq, zI_nat, zz_b, if_pos, if_neg, if_true, if_false]
        try simp
    · rw [decide_eq_false hmm] at hw1
      rw [if_neg (by omega)] at he
      subst he
      refine ⟨zth τ 2, ?_, hT.t (zT.th τ 2)⟩
      simp (disch := first | assumption | omega) only [f_X10_write, f_X10_write_J35, hms, hmt, hno, hw1, h2, zz_some, zz_lit, zz_num, zI_lt, zI_le, zI_eq, zI_nat, zz_b, if_pos, if_neg, if_true, if_false]
      try simp
  · rw [if_neg hf] at hno he
    subst he
    refine ⟨zth σ 1, ?_, zT.th σ 1⟩
    simp (disch := first | assumption | omega) only [f_X10_write, hms, hno, zz_some, zz_lit, zz_num, zI_lt, zI_le, zI_eq, zI_nat, zz_b, if_pos, if_neg, if_true, if_false]
    try simp
theorem e10_erase_ok (hW : zWF E) (hm : zU E 3 0 = true) (h1 : σ 3 0 1 = n) (hn : nW n) {c : Int} {U : Int → zN} (hU : zUn σ c U) {f : Int} (hf : 0 ≤ f ∧ f < n 2) (hy : nWe n f = 0) : ∃ σ', f_X10_erase (zH E σ) (zL E 3 0 0) (zI f) = some (zH E σ', zI (nTh (nErs n f) 12)) ∧ zCh σ σ' 0 ∧ σ' 3 0 1 = nErs n f ∧ zUn σ' (kC c) (kU c U n) := by
  obtain ⟨τ, hz⟩ : ∃ y, zs σ 3 0 0 0 0 = y := ⟨_, rfl⟩
  have hzt : zth σ 0 = τ := hz
  have hT : zT σ τ 0 := hzt ▸ zT.th σ 0
  have h11 : τ 3 0 1 = n := hT.n.trans h1
  have h00 : τ 3 0 0 0 = 0 := hT.2.2
  have hN' := hn.1.r
  have hmt := zz_mdo (σ := τ) hW hm
  have hms := zz_mdo (σ := σ) hW hm
  have hno := e10_noFile (x := f) hW hm h1 hn (by omega) (by omega)
  rw [hzt, if_pos hf] at hno
  obtain ⟨σ1, y1, y2⟩ := e10_whyErase (x := f) hW hm h11 hn hf.1 (by omega)
  rw [hy] at y1
  have hm1 := zz_mdo (σ := σ1) hW hm
  have hT1 : zT σ σ1 0 := hT.q y2
  have hth := fun w : Int => e10_th0 (w := w) hW hm hT1.2.2
  obtain ⟨σ2, k1, k2⟩ := e10_kp hW hm h1 hU hT1
  have hm2 := zz_mdo (σ := zw σ2 n) hW hm
  have hen := e10_enters (σ := σ2) (v := -1) hW hm hn (nWe_0 hy).2 hf.1 hf.2
  rw [show nE1 (nBi n) f (-1) = nErs n f from rfl] at hen
  have hm3 := zz_mdo (σ := zw σ2 (nErs n f)) hW hm
  obtain ⟨σ3, t1, t2⟩ := e10_filesThere (σ := zw σ2 (nErs n f)) (y := 12) hW hm zw_at (nErs_W hn hf.1 hf.2 hy) (by omega) (by omega)
  refine ⟨σ3, ?_, (k2 _).1.q t2, t2.n.trans zw_at, (k2 _).2.q t2⟩
  simp (disch := first | assumption | omega) only [f_X10_erase, f_X10_erase_J22, f_X10_erases, hms, hmt, hm1, hm2, hm3, hno, hth, y1, k1, hen, t1, zz_some, zz_lit, zz_num, zI_lt, zI_le, zI_eq, zI_nat, zz_b, if_pos, if_neg, if_true, if_false]
  try simp
theorem e10_erase_no (hW : zWF E) (hm : zU E 3 0 = true) (h1 : σ 3 0 1 = n) (hn : nW n) {f : Int} (hf0 : -2147483648 ≤ f) (hf1 : f < 2147483648) {e : Int} (he : e = if 0 ≤ f ∧ f < n 2 then (if nWe n f = 0 then 0 else 2) else 1) (he0 : e ≠ 0) : ∃ σ', f_X10_erase (zH E σ) (zL E 3 0 0) (zI f) = some (zH E σ', zI 0) ∧ zT σ σ' e := by
  obtain ⟨τ, hz⟩ : ∃ y, zs σ 3 0 0 0 0 = y := ⟨_, rfl⟩
  have hzt : zth σ 0 = τ := hz
  have hT : zT σ τ 0 := hzt ▸ zT.th σ 0
  have h11 : τ 3 0 1 = n := hT.n.trans h1
  have h00 : τ 3 0 0 0 = 0 := hT.2.2
  have hN' := hn.1.r
  have hmt := zz_mdo (σ := τ) hW hm
  have hms := zz_mdo (σ := σ) hW hm
  have hno := e10_noFile (x := f) hW hm h1 hn hf0 hf1
  rw [hzt] at hno
  by_cases hf : 0 ≤ f ∧ f < n 2
  · rw [if_pos hf] at hno he
    obtain ⟨σ1, y1, y2⟩ := e10_whyErase (x := f) hW hm h11 hn hf.1 (by omega)
    have hr := nWe_rng n f
    have hm1 := zz_mdo (σ := σ1) hW hm
    have hT1 : zT σ σ1 0 := hT.q y2
    have h2 := e10_th1 (w := 2) hW hm hT1.2.2 (by omega) (by omega)
    by_cases hy : nWe n f = 0
    · rw [if_pos hy] at he; exact absurd he he0
    · rw [if_neg hy] at he
      subst he
      refine ⟨zth σ1 2, ?_, hT1.t (zT.th σ1 2)⟩
      simp (disch := first | assumption | omega) only [f_X10_erase, f_X10_erase_J22, hms, hmt, hm1, hno, y1, h2, zz_some, zz_lit, zz_num, zI_lt, zI_le, zI_eq, zI_nat, zz_b, if_pos, if_neg, if_true, if_false]
      try simp
  · rw [if_neg hf] at hno he
    subst he
    refine ⟨zth σ 1, ?_, zT.th σ 1⟩
    simp (disch := first | assumption | omega) only [f_X10_erase, hms, hno, zz_some, zz_lit, zz_num, zI_lt, zI_le, zI_eq, zI_nat, zz_b, if_pos, if_neg, if_true, if_false]
    try simp
theorem e10_close_ok (hW : zWF E) (hm : zU E 3 0 = true) (h1 : σ 3 0 1 = n) (hn : nW n) {c : Int} {U : Int → zN} (hU : zUn σ c U) (hy : nWc n = 0) : ∃ σ', f_X10_close (zH E σ) (zL E 3 0 0) = some (zH E σ', zI (nLa (nCl n))) ∧ zCh σ σ' 0 ∧ σ' 3 0 1 = nCl n ∧ zUn σ' (kC c) (kU c U n) := by
  obtain ⟨τ, hz⟩ : ∃ y, zs σ 3 0 0 0 0 = y := ⟨_, rfl⟩
  have hzt : zth σ 0 = τ := hz
  have hT : zT σ τ 0 := hzt ▸ zT.th σ 0
  have h11 : τ 3 0 1 = n := hT.n.trans h1
  have h00 : τ 3 0 0 0 = 0 := hT.2.2
  have hN' := hn.1.r
  have hmt := zz_mdo (σ := τ) hW hm
  have hms := zz_mdo (σ := σ) hW hm
  have y1 := e10_whyClose hW hm h11 hn
  rw [hy] at y1
  have hth := fun w : Int => e10_th0 (w := w) hW hm h00
  obtain ⟨σ2, k1, k2⟩ := e10_kp hW hm h1 hU hT
  have hm2 := zz_mdo (σ := zw σ2 n) hW hm
  have hcl := e10_closesOpen (σ := σ2) hW hm hn hy
  have hm3 := zz_mdo (σ := zw σ2 (nCl n)) hW hm
  have hla := e10_latest (σ := zw σ2 (nCl n)) hW hm zw_at
  refine ⟨zw σ2 (nCl n), ?_, (k2 _).1, zw_at, (k2 _).2⟩
  simp (disch := first | assumption | omega) only [f_X10_close, f_X10_close_J18, zp_md0 hW hm, hz, hmt, hm2, hm3, hth, y1, k1, hcl, hla, zz_some, zz_lit, zz_num, zI_lt, zI_le, zI_eq, zI_nat, zz_b, if_pos, if_neg, if_true, if_false]
  try simp
theorem e10_close_no (hW : zWF E) (hm : zU E 3 0 = true) (h1 : σ 3 0 1 = n) (hn : nW n) (hy : nWc n ≠ 0) : ∃ σ', f_X10_close (zH E σ) (zL E 3 0 0) = some (zH E σ', zI 0) ∧ zT σ σ' 1 := by
  obtain ⟨τ, hz⟩ : ∃ y, zs σ 3 0 0 0 0 = y := ⟨_, rfl⟩
  have hzt : zth σ 0 = τ := hz
  have hT : zT σ τ 0 := hzt ▸ zT.th σ 0
  have h11 : τ 3 0 1 = n := hT.n.trans h1
  have h00 : τ 3 0 0 0 = 0 := hT.2.2
  have hN' := hn.1.r
  have hmt := zz_mdo (σ := τ) hW hm
  have hms := zz_mdo (σ := σ) hW hm
  have y1 := e10_whyClose hW hm h11 hn
  have hr := nWc_rng n
  have h2 := e10_th1 (w := 1) hW hm h00 (by omega) (by omega)
  refine ⟨zth τ 1, ?_, hT.t (zT.th τ 1)⟩
  simp (disch := first | assumption | omega) only [f_X10_close, f_X10_close_J18, zp_md0 hW hm, hz, hmt, y1, h2, zz_some, zz_lit, zz_num, zI_lt, zI_le, zI_eq, zI_nat, zz_b, if_pos, if_neg, if_true, if_false]
  try simp
theorem e10_crash_ok (hW : zWF E) (hm : zU E 3 0 = true) (h1 : σ 3 0 1 = n) (hn : nW n) {c : Int} {U : Int → zN} (hU : zUn σ c U) (hy : nOp n = true) : ∃ σ', f_X10_crash (zH E σ) (zL E 3 0 0) = some (zH E σ', zI (zcn (fun b => decide (n (295 + b) = nLa n + 1)) 0 (n 0 - n 1).toNat)) ∧ zCh σ σ' 0 ∧ σ' 3 0 1 = nCrs n ∧ zUn σ' (kC c) (kU c U n) := by
  obtain ⟨τ, hz⟩ : ∃ y, zs σ 3 0 0 0 0 = y := ⟨_, rfl⟩
  have hzt : zth σ 0 = τ := hz
  have hT : zT σ τ 0 := hzt ▸ zT.th σ 0
  have h11 : τ 3 0 1 = n := hT.n.trans h1
  have h00 : τ 3 0 0 0 = 0 := hT.2.2
  have hN' := hn.1.r
  have hmt := zz_mdo (σ := τ) hW hm
  have hms := zz_mdo (σ := σ) hW hm
  have y1 := e10_isOpen hW hm h11 hn.1 hn.2.2.2
  rw [hy] at y1
  obtain ⟨l0, lst⟩ := nOp_iff.mp hy
  have hla0 : nLa n = n 3 - 1 := rfl
  have hth := fun w : Int => e10_th0 (w := w) hW hm h00
  obtain ⟨σ2, k1, k2⟩ := e10_kp hW hm h1 hU hT
  have hm2 := zz_mdo (σ := zw σ2 n) hW hm
  have hla := e10_latest (σ := zw σ2 n) hW hm zw_at
  have hs1 := e10_sets (σ := σ2) (x := 2) hW hm n (s := nLa n) (w := 0) (by omega) (by omega) (by omega) (by omega)
  obtain ⟨n1, hn1⟩ : ∃ x, x = zus n (nLa n) 0 2 := ⟨_, rfl⟩
  rw [← hn1] at hs1
  have e1 : nLa n1 = nLa n := by unfold nLa; rw [hn1, zus_lo (by omega) (by omega) (by omega)]
  have hm3 := zz_mdo (σ := zw σ2 n1) hW hm
  have hla1 := e10_latest (σ := zw σ2 n1) hW hm zw_at
  rw [e1] at hla1
  have hs2 := e10_sets (σ := σ2) (x := 0) hW hm n1 (s := nLa n) (w := 2) (by omega) (by omega) (by omega) (by omega)
  have e2 : zus n1 (nLa n) 2 0 = nCrs n := by rw [hn1]; rfl
  rw [e2] at hs2
  have hcr := nCrs_W hn hy
  have hm4 := zz_mdo (σ := zw σ2 (nCrs n)) hW hm
  have hla2 := e10_latest (σ := zw σ2 (nCrs n)) hW hm zw_at
  rw [show nLa (nCrs n) = nLa n by unfold nLa; rw [hcr.2.1 3 (by omega)]] at hla2
  have hwb := e10_writtenBy1 (σ := zw σ2 (nCrs n)) hW hm zw_at hcr.1 (s := nLa n) (by omega) (by omega)
  have e3 : zcn (fun b => decide (nCrs n (295 + b) = nLa n + 1)) 0 (nCrs n 0 - nCrs n 1).toNat = zcn (fun b => decide (n (295 + b) = nLa n + 1)) 0 (n 0 - n 1).toNat := by
    rw [hcr.2.1 0 (by omega), hcr.2.1 1 (by omega)]
    exact zcn_congr _ _ (fun i hi0 hi1 => by rw [hcr.2.1 (295 + i) (by omega)])
  rw [e3] at hwb
  refine ⟨zw σ2 (nCrs n), ?_, (k2 _).1, zw_at, (k2 _).2⟩
  simp (disch := first | assumption | omega) only [f_X10_crash, f_X10_crash_J18, zp_md0 hW hm, hz, hmt, hm2, hm3, hm4, hth, y1, k1, hla, hs1, hla1, hs2, hla2, hwb, zz_some, zz_lit, zz_num, zI_lt, zI_le, zI_eq, zI_nat, zz_b, if_pos, if_neg, if_true, if_false]
  try simp
theorem e10_crash_no (hW : zWF E) (hm : zU E 3 0 = true) (h1 : σ 3 0 1 = n) (hn : nW n) (hy : nOp n = false) : ∃ σ', f_X10_crash (zH E σ) (zL E 3 0 0) = some (zH E σ', zI 0) ∧ zT σ σ' 1 := by
  obtain ⟨τ, hz⟩ : ∃ y, zs σ 3 0 0 0 0 = y := ⟨_, rfl⟩
  have hzt : zth σ 0 = τ := hz
  have hT : zT σ τ 0 := hzt ▸ zT.th σ 0
  have h11 : τ 3 0 1 = n := hT.n.trans h1
  have h00 : τ 3 0 0 0 = 0 := hT.2.2
  have hN' := hn.1.r
  have hmt := zz_mdo (σ := τ) hW hm
  have hms := zz_mdo (σ := σ) hW hm
  have y1 := e10_isOpen hW hm h11 hn.1 hn.2.2.2
  rw [hy] at y1
  have h2 := e10_th1 (w := 1) hW hm h00 (by omega) (by omega)
  refine ⟨zth τ 1, ?_, hT.t (zT.th τ 1)⟩
  simp (disch := first | assumption | omega) only [f_X10_crash, f_X10_crash_J18, zp_md0 hW hm, hz, hmt, y1, h2, zz_some, zz_lit, zz_num, zI_lt, zI_le, zI_eq, zI_nat, zz_b, if_pos, if_neg, if_true, if_false]
  try simp

end zMod
end
section
/-! The reference: recover, scratch, setScan, snapshots. -/
section zMod
variable {E : zE} {σ : zW} {n : zN}
theorem e10_kp2 (hW : zWF E) (hm : zU E 3 0 = true) (h1 : σ 3 0 1 = n) {c : Int} {U : Int → zN} (hU : zUn σ c U) {τ : zW} (hT : zT σ τ 0) : ∃ σ2, f_X10_keeps (zH E τ) (zL E 3 0 0) = some (zH E (zw σ2 n)) ∧ zK τ σ2 ∧ ∀ n', zCh σ (zw σ2 n') 0 ∧ zUn (zw σ2 n') (kC c) (kU c U n) := by
  obtain ⟨σ2, a1, a2, a3⟩ := e10_keeps hW hm (hT.n.trans h1) (hU.t hT)
  have h2 : σ2 3 0 1 = n := (a2.1 3 0 1 (by omega)).trans (hT.n.trans h1)
  exact ⟨σ2, by rw [a1, zw_self h2], a2, fun n' => ⟨zCh.mk3 hT a2 n', a3.w n'⟩⟩
theorem e10_recover_no (hW : zWF E) (hm : zU E 3 0 = true) (h1 : σ 3 0 1 = n) (hn : nW n) (hy : nWr n ≠ 0) : ∃ σ', f_X10_recover (zH E σ) (zL E 3 0 0) = some (zH E σ', zI 0) ∧ zT σ σ' 1 := by
  obtain ⟨τ, hz⟩ : ∃ y, zs σ 3 0 0 0 0 = y := ⟨_, rfl⟩
  have hzt : zth σ 0 = τ := hz
  have hT : zT σ τ 0 := hzt ▸ zT.th σ 0
  have h11 : τ 3 0 1 = n := hT.n.trans h1
  have h00 : τ 3 0 0 0 = 0 := hT.2.2
  have hN' := hn.1.r
  have hmt := zz_mdo (σ := τ) hW hm
  have hms := zz_mdo (σ := σ) hW hm
  obtain ⟨σ1, y1, y2, _⟩ := e10_whyRecover hW hm h11 hn
  have hr := nWr_rng n
  have hT1 : zT σ σ1 0 := hT.q y2
  have hm1 := zz_mdo (σ := σ1) hW hm
  have h2 := e10_th1 (w := 1) hW hm hT1.2.2 (by omega) (by omega)
  refine ⟨zth σ1 1, ?_, hT1.t (zT.th σ1 1)⟩
  simp (disch := first | assumption | omega) only [f_X10_recover, f_X10_recover_J18, zp_md0 hW hm, hz, hmt, hm1, y1, h2, zz_some, zz_lit, zz_num, zI_lt, zI_le, zI_eq, zI_nat, zz_b, if_pos, if_neg, if_true, if_false]
  try simp
theorem e10_recover_ok (hW : zWF E) (hm : zU E 3 0 = true) (h1 : σ 3 0 1 = n) (hn : nW n) {c : Int} {U : Int → zN} (hU : zUn σ c U) (hy : nWr n = 0) : ∃ σ', f_X10_recover (zH E σ) (zL E 3 0 0) = some (zH E σ', zI (nCr n)) ∧ zCh σ σ' 0 ∧ σ' 3 0 1 = nRec n ∧ zUn σ' (kC c) (kU c U n) := by
  obtain ⟨τ, hz⟩ : ∃ y, zs σ 3 0 0 0 0 = y := ⟨_, rfl⟩
  have hzt : zth σ 0 = τ := hz
  have hT : zT σ τ 0 := hzt ▸ zT.th σ 0
  have h11 : τ 3 0 1 = n := hT.n.trans h1
  have h00 : τ 3 0 0 0 = 0 := hT.2.2
  have hN' := hn.1.r
  have hmt := zz_mdo (σ := τ) hW hm
  have hms := zz_mdo (σ := σ) hW hm
  obtain ⟨σ1, y1, y2, y3⟩ := e10_whyRecover hW hm h11 hn
  rw [hy] at y1
  have hT1 : zT σ σ1 0 := hT.q y2
  have hm1 := zz_mdo (σ := σ1) hW hm
  have hth := fun w : Int => e10_th0 (w := w) hW hm hT1.2.2
  obtain ⟨σ2, k1, kk, k2⟩ := e10_kp2 hW hm h1 hU hT1
  obtain ⟨r1, r2, r3, r4, ⟨a1, a2⟩, ⟨b1, b2, b3⟩, ⟨c1, c2, c3, c4⟩, w⟩ := nRec_W hn hy
  obtain ⟨l0, lst⟩ := nLo_iff.mp r1
  have hla0 : nLa n = n 3 - 1 := rfl
  have hm2 := zz_mdo (σ := zw σ2 n) hW hm
  have hla := e10_latest (σ := zw σ2 n) hW hm zw_at
  have hs1 := e10_sets (σ := σ2) (x := 3) hW hm n (s := nLa n) (w := 0) (by omega) (by omega) (by omega) (by omega)
  obtain ⟨n1, hn1⟩ : ∃ x, x = zus n (nLa n) 0 3 := ⟨_, rfl⟩
  have hrec : nRec n = nCl (nRl (nRc n (nLa n)) (fun v => nV n v 0) (nBg n1) 0 (n 6).toNat) := by unfold nRec; rw [← hn1]
  rw [← hn1] at hs1 a1 a2 b1 b2 b3 c1 c2 c3 c4
  have e1 : ∀ i, i < 1255 → n1 i = n i := fun i hi => by rw [hn1]; exact zus_lo l0 (by omega) hi
  have hent : nS (nBg n1) (n1 3) 2 = 0 := by
    have h5 := nS_nBg (n := n1) (s := n 3) (w := 2) (by rw [e1 3 (by omega)]; omega) (by omega) (by omega) (by omega)
    rw [e1 3 (by omega), if_pos rfl, if_neg (by omega)] at h5
    rw [e1 3 (by omega)]
    exact h5
  have hco : nCo n = nCll (nRc n (nLa n)) (n 6).toNat := by unfold nCo; rw [if_pos r1]
  have hlen : ((nCll (nRc n (nLa n)) (n 6).toNat).length : Int) = nCr n := by rw [nCll_len]; unfold nCr; rw [if_pos r1]
  rw [hco] at y3
  have hcl : ∀ m : zN, zCl (zw σ2 m) (nCll (nRc n (nLa n)) (n 6).toNat) := fun m => by
    refine ⟨?_, fun k hk => ?_⟩
    · unfold zw; rw [zr_ne (by omega), kk.2 22 (by omega)]; exact y3.1
    · unfold zw; rw [zr_ne (by omega), kk.1 3 0 21 (by omega)]; exact y3.2 k hk
  obtain ⟨fu, q⟩ := e10_rec_L (σ := σ2) hW hm hn a1 a2 (by rw [e1 3 (by omega)]; exact r3) e1 (l := nLa n) hcl b1 b2 hent (n 6).toNat g_N 0 (by omega) (by unfold g_N; omega)
  have s0 : nSt (nRc n (nLa n)) (fun v => nV n v 0) n1 0 = n1 := by unfold nSt; rw [if_pos (show nCll (nRc n (nLa n)) 0 = [] from rfl)]
  have sN : nSt (nRc n (nLa n)) (fun v => nV n v 0) n1 (n 6).toNat = nRl (nRc n (nLa n)) (fun v => nV n v 0) (nBg n1) 0 (n 6).toNat := by
    unfold nSt
    rw [if_neg (by intro h; rw [h] at hlen; simp at hlen; omega)]
  obtain ⟨n3, hn3⟩ : ∃ x, x = nRl (nRc n (nLa n)) (fun v => nV n v 0) (nBg n1) 0 (n 6).toNat := ⟨_, rfl⟩
  rw [← hn3] at c1 c2 sN hrec
  rw [s0, sN, hlen] at q
  rw [show ((nCll (nRc n (nLa n)) 0).length : Int) = 0 from rfl] at q
  have hm3 := zz_mdo (σ := zw σ2 n3) hW hm
  have g22 := zg_md22 (σ := zw σ2 n3) hW hm
  rw [(hcl n3).1, hlen] at g22
  have hcO := e10_closesOpen (σ := σ2) hW hm c1 c2
  rw [← hrec] at hcO
  have g22' := zg_md22 (σ := zw σ2 (nRec n)) hW hm
  rw [(hcl _).1, hlen] at g22'
  have hcr := nCr_rng hn
  have hend : f_X10_recover_L43 (fu + 1) (zH E (zw σ2 n3)) (zL E 3 0 0) (zI (nCr n)) = some (zH E (zw σ2 (nRec n)), zI (nCr n)) := by
    simp (disch := first | assumption | omega) only [f_X10_recover_L43, hm3, g22, hcO, g22', zz_some, zz_lit, zz_num, zI_lt, zI_le, zI_eq, zI_nat, zz_b, if_pos, if_neg, if_true, if_false]
  refine ⟨zw σ2 (nRec n), ?_, (k2 _).1, zw_at, (k2 _).2⟩
  have hj : f_X10_recover_J18 (zH E σ1) (zL E 3 0 0) (zL E 3 0 0) (zI 0) = some (zH E (zw σ2 (nRec n)), zI (nCr n)) := by
    rw [← hend, ← q]
    simp (disch := first | assumption | omega) only [f_X10_recover_J18, hm1, hm2, hth, k1, hla, hs1, zz_some, zz_lit, zz_num, zI_lt, zI_le, zI_eq, zI_nat, zz_b, if_pos, if_neg, if_true, if_false]
  simp (disch := first | assumption | omega) only [f_X10_recover, zp_md0 hW hm, hz, hmt, y1, hj, zz_some, zz_lit, zz_num, zI_lt, zI_le, zI_eq, zI_nat, zz_b, if_pos, if_neg, if_true, if_false]
  try simp
theorem e10_scratch_ok (hW : zWF E) (hm : zU E 3 0 = true) (h1 : σ 3 0 1 = n) (hn : nW n) {c : Int} {U : Int → zN} (hU : zUn σ c U) {b : Int} (hb : 0 ≤ b ∧ b < n 0) : ∃ σ', f_X10_scratch (zH E σ) (zL E 3 0 0) (zI b) = some (zH E σ', zI (zb (decide ((if n (7 + b) = 0 then n (103 + b) else n (199 + b)) = 0)))) ∧ zCh σ σ' 0 ∧ σ' 3 0 1 = nScr n b ∧ zUn σ' (kC c) (kU c U n) := by
  obtain ⟨τ, hz⟩ : ∃ y, zs σ 3 0 0 0 0 = y := ⟨_, rfl⟩
  have hzt : zth σ 0 = τ := hz
  have hT : zT σ τ 0 := hzt ▸ zT.th σ 0
  have h11 : τ 3 0 1 = n := hT.n.trans h1
  have h00 : τ 3 0 0 0 = 0 := hT.2.2
  have hN' := hn.1.r
  have hmt := zz_mdo (σ := τ) hW hm
  have hms := zz_mdo (σ := σ) hW hm
  have hno := e10_noBlock (x := b) hW hm h1 hn (by omega) (by omega)
  rw [hzt, if_pos hb] at hno
  obtain ⟨σ2, k1, k2⟩ := e10_kp hW hm h1 hU hT
  have hm2 := zz_mdo (σ := zw σ2 n) hW hm
  have hra := zz_ra (σ := zw σ2 n) hW hm
  have hbk := hn.2.1 b hb.1 (by omega)
  refine ⟨zw σ2 (nScr n b), ?_, (k2 _).1, zw_at, (k2 _).2⟩
  unfold nScr
  by_cases hk : n (7 + b) = 0
  · rw [if_pos hk, if_pos hk]
    rcases hbk.2.1 with h | h
    · rw [decide_eq_true h]
      simp (disch := first | assumption | omega) only [f_X10_scratch, f_X10_scratch_J38, f_X10_scratch_J54, hms, hmt, hm2, hno, k1, hra, zw_at, zs_zw, hk, h, zz_some, zz_lit, zz_num, zI_lt, zI_le, zI_eq, zI_nat, zz_b, if_pos, if_neg, if_true, if_false]
      simp [zb]
    · rw [decide_eq_false (by omega)]
      simp (disch := first | assumption | omega) only [f_X10_scratch, f_X10_scratch_J38, f_X10_scratch_J54, hms, hmt, hm2, hno, k1, hra, zw_at, zs_zw, hk, h, zz_some, zz_lit, zz_num, zI_lt, zI_le, zI_eq, zI_nat, zz_b, if_pos, if_neg, if_true, if_false]
      simp [zb]
  · rw [if_neg hk, if_neg hk]
    rcases hbk.2.2.1 with h | h
    · rw [decide_eq_true h]
      simp (disch := first | assumption | omega) only [f_X10_scratch, f_X10_scratch_J38, f_X10_scratch_J54, hms, hmt, hm2, hno, k1, hra, zw_at, zs_zw, h, zz_some, zz_lit, zz_num, zI_lt, zI_le, zI_eq, zI_nat, zz_b, if_pos, if_neg, if_true, if_false]
      simp [zb, hk]
    · rw [decide_eq_false (by omega)]
      simp (disch := first | assumption | omega) only [f_X10_scratch, f_X10_scratch_J38, f_X10_scratch_J54, hms, hmt, hm2, hno, k1, hra, zw_at, zs_zw, h, zz_some, zz_lit, zz_num, zI_lt, zI_le, zI_eq, zI_nat, zz_b, if_pos, if_neg, if_true, if_false]
      simp [zb, hk]
theorem e10_scratch_no (hW : zWF E) (hm : zU E 3 0 = true) (h1 : σ 3 0 1 = n) (hn : nW n) {b : Int} (hb0 : -2147483648 ≤ b) (hb1 : b < 2147483648) (hb : ¬ (0 ≤ b ∧ b < n 0)) : ∃ σ', f_X10_scratch (zH E σ) (zL E 3 0 0) (zI b) = some (zH E σ', zI 0) ∧ zT σ σ' 1 := by
  obtain ⟨τ, hz⟩ : ∃ y, zs σ 3 0 0 0 0 = y := ⟨_, rfl⟩
  have hzt : zth σ 0 = τ := hz
  have hT : zT σ τ 0 := hzt ▸ zT.th σ 0
  have h11 : τ 3 0 1 = n := hT.n.trans h1
  have h00 : τ 3 0 0 0 = 0 := hT.2.2
  have hN' := hn.1.r
  have hmt := zz_mdo (σ := τ) hW hm
  have hms := zz_mdo (σ := σ) hW hm
  have hno := e10_noBlock (x := b) hW hm h1 hn hb0 hb1
  rw [if_neg hb] at hno
  refine ⟨zth σ 1, ?_, zT.th σ 1⟩
  simp (disch := first | assumption | omega) only [f_X10_scratch, hms, hno, zz_some, zz_lit, zz_num, zI_lt, zI_le, zI_eq, zI_nat, zz_b, if_pos, if_neg, if_true, if_false]
  try simp
theorem e10_setScan (hW : zWF E) (hm : zU E 3 0 = true) (h1 : σ 3 0 1 = n) (hn : nW n) {c : Int} {U : Int → zN} (hU : zUn σ c U) {w : Bool} : ∃ σ', f_X10_setScan (zH E σ) (zL E 3 0 0) (zI (zb w)) = some (zH E σ', zI (n 5)) ∧ zCh σ σ' 0 ∧ σ' 3 0 1 = zu n 5 (zb w) ∧ zUn σ' (kC c) (kU c U n) := by
  obtain ⟨τ, hz⟩ : ∃ y, zs σ 3 0 0 0 0 = y := ⟨_, rfl⟩
  have hzt : zth σ 0 = τ := hz
  have hT : zT σ τ 0 := hzt ▸ zT.th σ 0
  have h11 : τ 3 0 1 = n := hT.n.trans h1
  have h00 : τ 3 0 0 0 = 0 := hT.2.2
  have hN' := hn.1.r
  have hmt := zz_mdo (σ := τ) hW hm
  have hms := zz_mdo (σ := σ) hW hm
  obtain ⟨σ2, k1, k2⟩ := e10_kp hW hm h1 hU hT
  have hm2 := zz_mdo (σ := zw σ2 n) hW hm
  have hra := zz_ra (σ := zw σ2 n) hW hm
  refine ⟨zw σ2 (zu n 5 (zb w)), ?_, (k2 _).1, zw_at, (k2 _).2⟩
  rcases hN'.2.2.2.2.2.1 with h | h
  · cases w
    all_goals simp (disch := first | assumption | omega) only [f_X10_setScan, f_X10_setScan_J24, zp_md0 hW hm, hz, hmt, hm2, k1, hra, zw_at, zs_zw, h, zb, zz_some, zz_lit, zz_num, zI_lt, zI_le, zI_eq, zI_nat, zz_b, if_pos, if_neg, if_true, if_false]
    all_goals try simp
  · cases w
    all_goals simp (disch := first | assumption | omega) only [f_X10_setScan, f_X10_setScan_J24, zp_md0 hW hm, hz, hmt, hm2, k1, hra, zw_at, zs_zw, h, zb, zz_some, zz_lit, zz_num, zI_lt, zI_le, zI_eq, zI_nat, zz_b, if_pos, if_neg, if_true, if_false]
    all_goals try simp

theorem e10_save_no (hW : zWF E) (hm : zU E 3 0 = true) {x : Int} (hx0 : -2147483648 ≤ x) (hx1 : x < 2147483648) (hx : ¬ (0 ≤ x ∧ x < 2)) : ∃ σ', f_X10_saveSnapshot (zH E σ) (zL E 3 0 0) (zI x) = some (zH E σ', zI 0) ∧ zT σ σ' 1 := by
  have hms := zz_mdo (σ := σ) hW hm
  have hno := e10_no (σ := σ) (x := x) (m := 2) hW hm hx0 hx1 (by omega) (by omega)
  rw [if_neg hx] at hno
  refine ⟨zth σ 1, ?_, zT.th σ 1⟩
  simp (disch := first | assumption | omega) only [f_X10_saveSnapshot, hms, hno, zz_some, zz_lit, zz_num, zI_lt, zI_le, zI_eq, zI_nat, zz_b, if_pos, if_neg, if_true, if_false]
  try simp
theorem e10_restore_no (hW : zWF E) (hm : zU E 3 0 = true) {h : Int → Bool} {V : Int → zN} (hS : zSn σ h V) {x : Int} (hx0 : -2147483648 ≤ x) (hx1 : x < 2147483648) {e : Int} (he : e = if 0 ≤ x ∧ x < 2 then (if h x = true then 0 else 2) else 1) (he0 : e ≠ 0) : ∃ σ', f_X10_restoreSnapshot (zH E σ) (zL E 3 0 0) (zI x) = some (zH E σ', zI 0) ∧ zT σ σ' e := by
  have hms := zz_mdo (σ := σ) hW hm
  have hno := e10_no (σ := σ) (x := x) (m := 2) hW hm hx0 hx1 (by omega) (by omega)
  by_cases hx : 0 ≤ x ∧ x < 2
  · rw [if_pos hx] at hno he
    have hmt := zz_mdo (σ := zth σ 0) hW hm
    have hra := zz_ra (σ := zth σ 0) hW hm
    have hq := (hS x hx.1 hx.2).1
    cases hh : h x
    · rw [hh, if_neg (by simp)] at he
      subst he
      rw [hh] at hq
      have h2 := e10_th1 (σ := zth σ 0) (w := 2) hW hm zth_0 (by omega) (by omega)
      have hr : zth σ 0 3 0 27 x = 0 := by rw [zth_c (by omega), hq]; rfl
      refine ⟨zth (zth σ 0) 2, ?_, (zT.th σ 0).t (zT.th _ 2)⟩
      simp (disch := first | assumption | omega) only [f_X10_restoreSnapshot, f_X10_restoreSnapshot_J24, hms, hmt, hra, hno, hr, h2, zz_some, zz_lit, zz_num, zI_lt, zI_le, zI_eq, zI_nat, zz_b, if_pos, if_neg, if_true, if_false]
      try simp
    · rw [hh, if_pos rfl] at he; exact absurd he he0
  · rw [if_neg hx] at hno he
    subst he
    refine ⟨zth σ 1, ?_, zT.th σ 1⟩
    simp (disch := first | assumption | omega) only [f_X10_restoreSnapshot, hms, hno, zz_some, zz_lit, zz_num, zI_lt, zI_le, zI_eq, zI_nat, zz_b, if_pos, if_neg, if_true, if_false]
    try simp
/-- saving: row 26 and the flags of row 27 alone -/
theorem e10_save_ok (hW : zWF E) (hm : zU E 3 0 = true) (h1 : σ 3 0 1 = n) {h : Int → Bool} {V : Int → zN} (hS : zSn σ h V) {x : Int} (hx : 0 ≤ x ∧ x < 2) : ∃ σ', f_X10_saveSnapshot (zH E σ) (zL E 3 0 0) (zI x) = some (zH E σ', zI (zb (h x))) ∧ (∀ k d c, ¬ (k = 3 ∧ d = 0 ∧ (c = 0 ∨ c = 26 ∨ c = 27)) → σ' k d c = σ k d c) ∧ (∀ i, i ≠ 0 → σ' 3 0 0 i = σ 3 0 0 i) ∧ σ' 3 0 0 0 = 0 ∧ zSn σ' (fun j => decide (j = x) || h j) (fun j => if j = x then n else V j) := by
  obtain ⟨τ, hτ⟩ : ∃ y, zth σ 0 = y := ⟨_, rfl⟩
  have hms := zz_mdo (σ := σ) hW hm
  have hmt := zz_mdo (σ := τ) hW hm
  have hno := e10_no (σ := σ) (x := x) (m := 2) hW hm (by omega) (by omega) (by omega) (by omega)
  rw [if_pos hx, hτ] at hno
  have hq := (hS x hx.1 hx.2).1
  have hc : ∀ k d c, ¬ (k = 3 ∧ d = 0 ∧ c = 0) → τ k d c = σ k d c := fun k d c z => by rw [← hτ, zth_c z]
  have hcp := e10_copies (c1 := 1) (c2 := 26) (N1 := 1555) (N2 := 3110) hW hm rfl rfl (by omega) (by omega) (a := 0) (b := 1555 * x) (by omega) (by omega) (by omega) (by omega) (Or.inl (by omega)) τ
  obtain ⟨τ1, ht1⟩ : ∃ y, y = zr τ 3 0 26 (fun i => if 1555 * x ≤ i ∧ i < 1555 * x + 1555 then τ 3 0 1 (0 + (i - 1555 * x)) else τ 3 0 26 i) := ⟨_, rfl⟩
  rw [← ht1] at hcp
  have hra := zz_ra (σ := τ) hW hm
  have hra1 := zz_ra (σ := τ1) hW hm
  have hm1 := zz_mdo (σ := τ1) hW hm
  have hr : τ 3 0 27 x = zb (h x) := by rw [hc _ _ _ (by omega), hq]
  refine ⟨zs τ1 3 0 27 x 1, ?_, fun k d c z => ?_, fun i hi => ?_, ?_, fun j hj0 hj1 => ⟨?_, fun hj i hi0 hi1 => ?_⟩⟩
  · simp (disch := first | assumption | omega) only [f_X10_saveSnapshot, hms, hmt, hra, hno, hr, hcp, hm1, hra1, zz_some, zz_lit, zz_num, zI_lt, zI_le, zI_eq, zI_nat, zz_b, if_pos, if_neg, if_true, if_false]
    try simp
  · rw [zs_ne (by omega), ht1, zr_ne (by omega), hc k d c (by omega)]
  · rw [zs_ne (by omega), ht1, zr_ne (by omega), ← hτ, zth_i hi]
  · rw [zs_ne (by omega), ht1, zr_ne (by omega), ← hτ, zth_0]
  · show zs τ1 3 0 27 x 1 3 0 27 j = zb (decide (j = x) || h j)
    rw [zs_at]
    by_cases hjx : j = x
    · rw [if_pos hjx, decide_eq_true hjx]; rfl
    · rw [if_neg hjx, decide_eq_false hjx, ht1, zr_ne (by omega), hc _ _ _ (by omega), (hS j hj0 hj1).1]; rfl
  · show zs τ1 3 0 27 x 1 3 0 26 (1555 * j + i) = (if j = x then n else V j) i
    rw [zs_ne (by omega), ht1, zr_at]
    by_cases hjx : j = x
    · rw [if_pos hjx, if_pos (by omega), hc _ _ _ (by omega), h1]
      congr 1
      omega
    · rw [if_neg hjx, if_neg (by omega), hc _ _ _ (by omega)]
      simp only [decide_eq_false hjx, Bool.false_or] at hj
      exact (hS j hj0 hj1).2 hj i hi0 hi1
theorem e10_restore_ok (hW : zWF E) (hm : zU E 3 0 = true) {h : Int → Bool} {V : Int → zN} (hS : zSn σ h V) {x : Int} (hx : 0 ≤ x ∧ x < 2) (hh : h x = true) : ∃ σ', f_X10_restoreSnapshot (zH E σ) (zL E 3 0 0) (zI x) = some (zH E σ', zI (V x 3)) ∧ (∀ k d c, ¬ (k = 3 ∧ d = 0 ∧ (c = 0 ∨ c = 1)) → σ' k d c = σ k d c) ∧ (∀ i, i ≠ 0 → i ≠ 24 → σ' 3 0 0 i = σ 3 0 0 i) ∧ σ' 3 0 0 0 = 0 ∧ (∀ i, 0 ≤ i → i < 1555 → σ' 3 0 1 i = V x i) ∧ ∀ U, zUn σ' 0 U := by
  obtain ⟨τ, hτ⟩ : ∃ y, zth σ 0 = y := ⟨_, rfl⟩
  have hms := zz_mdo (σ := σ) hW hm
  have hmt := zz_mdo (σ := τ) hW hm
  have hno := e10_no (σ := σ) (x := x) (m := 2) hW hm (by omega) (by omega) (by omega) (by omega)
  rw [if_pos hx, hτ] at hno
  have hc : ∀ k d c, ¬ (k = 3 ∧ d = 0 ∧ c = 0) → τ k d c = σ k d c := fun k d c z => by rw [← hτ, zth_c z]
  have h00 : τ 3 0 0 0 = 0 := by rw [← hτ]; exact zth_0
  have hth := fun w : Int => e10_th0 (σ := τ) (w := w) hW hm h00
  have hcp := e10_copies (c1 := 26) (c2 := 1) (N1 := 3110) (N2 := 1555) hW hm rfl rfl (by omega) (by omega) (a := 1555 * x) (b := 0) (by omega) (by omega) (by omega) (by omega) (Or.inl (by omega)) τ
  obtain ⟨τ1, ht1⟩ : ∃ y, y = zr τ 3 0 1 (fun i => if 0 ≤ i ∧ i < 0 + 1555 then τ 3 0 26 (1555 * x + (i - 0)) else τ 3 0 1 i) := ⟨_, rfl⟩
  rw [← ht1] at hcp
  have hra := zz_ra (σ := τ) hW hm
  obtain ⟨τ2, ht2⟩ : ∃ y, zs τ1 3 0 0 24 0 = y := ⟨_, rfl⟩
  have hm2 := zz_mdo (σ := τ2) hW hm
  have hra2 := zz_ra (σ := τ2) hW hm
  have hr : τ 3 0 27 x = 1 := by rw [hc _ _ _ (by omega), (hS x hx.1 hx.2).1, hh]; rfl
  have hrow : ∀ i, 0 ≤ i → i < 1555 → τ2 3 0 1 i = V x i := fun i hi0 hi1 => by
    rw [← ht2, zs_ne (by omega), ht1, zr_at, if_pos (by omega), hc _ _ _ (by omega), show i - 0 = i by omega]
    exact (hS x hx.1 hx.2).2 hh i hi0 hi1
  have h3 := hrow 3 (by omega) (by omega)
  refine ⟨τ2, ?_, fun k d c z => ?_, fun i hi hi2 => ?_, ?_, hrow, fun U => ⟨by rw [← ht2, zs_at, if_pos rfl], by omega, by omega, fun k i a b => by omega⟩⟩
  · simp (disch := first | assumption | omega) only [f_X10_restoreSnapshot, f_X10_restoreSnapshot_J24, hms, hmt, hra, hno, hr, hth, hcp, zp_md24 hW hm, ht2, hm2, hra2, h3, zz_some, zz_lit, zz_num, zI_lt, zI_le, zI_eq, zI_nat, zz_b, if_pos, if_neg, if_true, if_false]
    try simp
  · rw [← ht2, zs_ne (by omega), ht1, zr_ne (by omega), hc k d c (by omega)]
  · rw [← ht2, zs_at, if_neg hi2, ht1, zr_ne (by omega), ← hτ, zth_i hi]
  · rw [← ht2, zs_at, if_neg (by omega), ht1, zr_ne (by omega), h00]

end zMod
end

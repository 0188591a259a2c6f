/-! The lifted methods: functions over the ghost heap. -/
def f_J0_length_8abf5 (_ : gH) (i : Nat) : Option Int32 := if i < 6 then some (nI (g_len0.getD i 0)) else none
def f_J0_charAt_5068e (_ : gH) (i : Nat) (x : Int32) : Option Int32 := if i < 6 ∧ ¬ (x < 0 ∨ g_len0.getD i 0 ≤ x.toNatClampNeg) then some ((g_byt.getD i []).getD x.toNatClampNeg 0) else none
def f_X0_hasRoomFor (G : gH) (a0 : Nat) (x1 : Int32) : Option Int32 :=
    (g_i G a0 0 2).bind fun v1 =>
    (g_i G a0 0 1).bind fun v7 =>
    if v7 < (v1 + x1) then
    some (0 : Int32)
    else
    some (1 : Int32)
def f_X2_clear (G : gH) (a0 : Nat) : Option gH :=
    (g_put G a0 2 0 (.int (0 : Int32))).bind fun G2 =>
    (g_put G2 a0 2 1 (.int (0 : Int32))).bind fun G7 =>
    some G7
def f_X3_hasRoom (G : gH) (a0 : Nat) (x1 : Int32) : Option Int32 :=
    (g_i G a0 3 1).bind fun v1 =>
    if (600 : Int32) < (v1 + x1) then
    some (0 : Int32)
    else
    some (1 : Int32)
def f_X4_fail (G : gH) (a0 : Nat) (x1 : Int32) : Option (gH × Int32) :=
    (g_put G a0 4 0 (.int x1)).bind fun G2 =>
    some (G2, (0 : Int32))
def f_X5_latest (G : gH) (a0 : Nat) : Option Int32 :=
    (g_i G a0 5 0).bind fun v1 =>
    some (v1 - (1 : Int32))
def f_X9_oneIf (G : gH) (x0 : Int32) : Option Int32 :=
    if x0 = 0 then
    some (0 : Int32)
    else
    some (1 : Int32)
def f_X9_withLetter (G : gH) (x0 : Int64) (x2 : Int32) : Option Int64 :=
    some ((x0 * (27 : Int64)) + ((x2 - (97 : Int32)) + (1 : Int32)).toInt64)
def f_X9_isLetter (G : gH) (x0 : Int32) : Option Int32 :=
    if x0 < (97 : Int32) then
    some (0 : Int32)
    else
    if (122 : Int32) < x0 then
    some (0 : Int32)
    else
    some (1 : Int32)
def f_X9_packed_L4 (G : gH) : Nat → Nat → Int64 → Int32 → Option Int64
  | 0, _, _, _ => none
  | n + 1, bs0, bx1, bx3 =>
    (f_J0_length_8abf5 G bs0).bind fun v6 =>
    if v6 ≤ bx3 then
    some bx1
    else
    (f_J0_charAt_5068e G bs0 bx3).bind fun v15 =>
    (f_X9_withLetter G bx1 v15).bind fun v18 =>
    f_X9_packed_L4 G n bs0 v18 (bx3 + (1 : Int32))
def f_X9_packed (G : gH) (s0 : Nat) : Option Int64 :=
    f_X9_packed_L4 G g_N s0 (0 : Int64) (0 : Int32)
def f_X9_directoryLength (G : gH) (x0 : Int32) : Option Int32 :=
    some ((1 : Int32) + ((x0 - (1 : Int32)) / (4 : Int32)))
def f_X9_at (G : gH) (a0 : Nat) (x1 : Int32) (x2 : Int32) : Option Int32 :=
    if x1 < 0 then
    some x2
    else
    (g_len G a0).bind fun v6 =>
    if v6 ≤ x1 then
    some x2
    else
    (g_ald 0 G a0 x1).bind fun v12 =>
    some v12
def f_X9_at_ (G : gH) (a0 : Nat) (x1 : Int32) (x2 : Int64) : Option Int64 :=
    if x1 < 0 then
    some x2
    else
    (g_len G a0).bind fun v6 =>
    if v6 ≤ x1 then
    some x2
    else
    (g_lald G a0 x1).bind fun v12 =>
    some v12
def f_X9_isSet (G : gH) (a0 : Nat) (x1 : Int32) : Option Int32 :=
    if x1 < 0 then
    some (0 : Int32)
    else
    (g_len G a0).bind fun v6 =>
    if v6 ≤ x1 then
    some (0 : Int32)
    else
    (g_ald 1 G a0 x1).bind fun v12 =>
    if v12 = 0 then
    some (0 : Int32)
    else
    some (1 : Int32)
def f_X9_put (G : gH) (a0 : Nat) (x1 : Int32) (x2 : Int32) : Option gH :=
    if x1 < 0 then
    some G
    else
    (g_len G a0).bind fun v6 =>
    if v6 ≤ x1 then
    some G
    else
    (g_ast 0 G a0 x1 x2).bind fun G13 =>
    some G13
def f_X9_put_ (G : gH) (a0 : Nat) (x1 : Int32) (x2 : Int64) : Option gH :=
    if x1 < 0 then
    some G
    else
    (g_len G a0).bind fun v6 =>
    if v6 ≤ x1 then
    some G
    else
    (g_last G a0 x1 x2).bind fun G13 =>
    some G13
def f_X9_mark (G : gH) (a0 : Nat) (x1 : Int32) (x2 : Int32) : Option gH :=
    if x1 < 0 then
    some G
    else
    (g_len G a0).bind fun v6 =>
    if v6 ≤ x1 then
    some G
    else
    (g_ast 1 G a0 x1 x2).bind fun G13 =>
    some G13
def f_X9_fill_L2 : Nat → gH → Nat → Int32 → Int32 → Option gH
  | 0, _, _, _, _ => none
  | n + 1, G, ba0, bx1, bx2 =>
    (g_len G ba0).bind fun v4 =>
    if v4 ≤ bx2 then
    some G
    else
    (g_ast 0 G ba0 bx2 bx1).bind fun G11 =>
    f_X9_fill_L2 n G11 ba0 bx1 (bx2 + (1 : Int32))
def f_X9_fill (G : gH) (a0 : Nat) (x1 : Int32) : Option gH :=
    f_X9_fill_L2 g_N G a0 x1 (0 : Int32)
def f_X9_fill__L2 : Nat → gH → Nat → Int32 → Int32 → Option gH
  | 0, _, _, _, _ => none
  | n + 1, G, ba0, bx1, bx2 =>
    (g_len G ba0).bind fun v4 =>
    if v4 ≤ bx2 then
    some G
    else
    (g_ast 1 G ba0 bx2 bx1).bind fun G11 =>
    f_X9_fill__L2 n G11 ba0 bx1 (bx2 + (1 : Int32))
def f_X9_fill_ (G : gH) (a0 : Nat) (x1 : Int32) : Option gH :=
    f_X9_fill__L2 g_N G a0 x1 (0 : Int32)
def f_X9_copy_L2 : Nat → gH → Nat → Nat → Int32 → Option gH
  | 0, _, _, _, _ => none
  | n + 1, G, ba0, ba1, bx2 =>
    (g_len G ba0).bind fun v4 =>
    if v4 ≤ bx2 then
    some G
    else
    (g_len G ba1).bind fun v10 =>
    if v10 ≤ bx2 then
    some G
    else
    (g_ald 0 G ba0 bx2).bind fun v18 =>
    (g_ast 0 G ba1 bx2 v18).bind fun G19 =>
    f_X9_copy_L2 n G19 ba0 ba1 (bx2 + (1 : Int32))
def f_X9_copy (G : gH) (a0 : Nat) (a1 : Nat) : Option gH :=
    f_X9_copy_L2 g_N G a0 a1 (0 : Int32)
def f_X9_copy__L2 : Nat → gH → Nat → Nat → Int32 → Option gH
  | 0, _, _, _, _ => none
  | n + 1, G, ba0, ba1, bx2 =>
    (g_len G ba0).bind fun v4 =>
    if v4 ≤ bx2 then
    some G
    else
    (g_len G ba1).bind fun v10 =>
    if v10 ≤ bx2 then
    some G
    else
    (g_ald 1 G ba0 bx2).bind fun v18 =>
    (g_ast 1 G ba1 bx2 v18).bind fun G19 =>
    f_X9_copy__L2 n G19 ba0 ba1 (bx2 + (1 : Int32))
def f_X9_copy_ (G : gH) (a0 : Nat) (a1 : Nat) : Option gH :=
    f_X9_copy__L2 g_N G a0 a1 (0 : Int32)
def f_X9_copy___L2 : Nat → gH → Nat → Nat → Int32 → Option gH
  | 0, _, _, _, _ => none
  | n + 1, G, ba0, ba1, bx2 =>
    (g_len G ba0).bind fun v4 =>
    if v4 ≤ bx2 then
    some G
    else
    (g_len G ba1).bind fun v10 =>
    if v10 ≤ bx2 then
    some G
    else
    (g_lald G ba0 bx2).bind fun v18 =>
    (g_last G ba1 bx2 v18).bind fun G19 =>
    f_X9_copy___L2 n G19 ba0 ba1 (bx2 + (1 : Int32))
def f_X9_copy__ (G : gH) (a0 : Nat) (a1 : Nat) : Option gH :=
    f_X9_copy___L2 g_N G a0 a1 (0 : Int32)
def f_X9_indexOf_L3 (G : gH) : Nat → Nat → Int32 → Int64 → Int32 → Option Int32
  | 0, _, _, _, _ => none
  | n + 1, ba0, bx1, bx2, bx4 =>
    if bx1 ≤ bx4 then
    some (-1 : Int32)
    else
    (g_len G ba0).bind fun v12 =>
    if v12 ≤ bx4 then
    some (-1 : Int32)
    else
    (g_lald G ba0 bx4).bind fun v19 =>
    if (lg_cmp v19 bx2) = 0 then
    some bx4
    else
    f_X9_indexOf_L3 G n ba0 bx1 bx2 (bx4 + (1 : Int32))
def f_X9_indexOf (G : gH) (a0 : Nat) (x1 : Int32) (x2 : Int64) : Option Int32 :=
    f_X9_indexOf_L3 G g_N a0 x1 x2 (0 : Int32)
def f_X0_format (G : gH) (a0 : Nat) (x1 : Int32) (x2 : Int32) : Option gH :=
    (g_put G a0 0 0 (.int x1)).bind fun G2 =>
    (g_put G2 a0 0 1 (.int (x1 - x2))).bind fun G9 =>
    (g_put G9 a0 0 2 (.int (0 : Int32))).bind fun G14 =>
    (g_r G14 a0 0 3).bind fun v18 =>
    (f_X9_fill G14 v18 (0 : Int32)).bind fun G22 =>
    (g_r G22 a0 0 4).bind fun v26 =>
    (f_X9_fill_ G22 v26 (0 : Int32)).bind fun G30 =>
    (g_r G30 a0 0 5).bind fun v34 =>
    (f_X9_fill_ G30 v34 (0 : Int32)).bind fun G38 =>
    (g_r G38 a0 0 6).bind fun v42 =>
    (f_X9_fill G38 v42 (-1 : Int32)).bind fun G46 =>
    (g_r G46 a0 0 7).bind fun v50 =>
    (f_X9_fill G46 v50 (-1 : Int32)).bind fun G54 =>
    (g_r G54 a0 0 8).bind fun v58 =>
    (f_X9_fill G54 v58 (-1 : Int32)).bind fun G62 =>
    (g_r G62 a0 0 9).bind fun v66 =>
    (f_X9_fill G62 v66 (-1 : Int32)).bind fun G70 =>
    (g_r G70 a0 0 10).bind fun v74 =>
    (f_X9_fill G70 v74 (-1 : Int32)).bind fun G78 =>
    some G78
def f_X0_takeFrom (G : gH) (a0 : Nat) (a1 : Nat) : Option gH :=
    (g_i G a1 0 0).bind fun v2 =>
    (g_put G a0 0 0 (.int v2)).bind fun G5 =>
    (g_i G5 a1 0 1).bind fun v10 =>
    (g_put G5 a0 0 1 (.int v10)).bind fun G13 =>
    (g_i G13 a1 0 2).bind fun v18 =>
    (g_put G13 a0 0 2 (.int v18)).bind fun G21 =>
    (g_r G21 a1 0 3).bind fun v25 =>
    (g_r G21 a0 0 3).bind fun v29 =>
    (f_X9_copy G21 v25 v29).bind fun G32 =>
    (g_r G32 a1 0 4).bind fun v36 =>
    (g_r G32 a0 0 4).bind fun v40 =>
    (f_X9_copy_ G32 v36 v40).bind fun G43 =>
    (g_r G43 a1 0 5).bind fun v47 =>
    (g_r G43 a0 0 5).bind fun v51 =>
    (f_X9_copy_ G43 v47 v51).bind fun G54 =>
    (g_r G54 a1 0 6).bind fun v58 =>
    (g_r G54 a0 0 6).bind fun v62 =>
    (f_X9_copy G54 v58 v62).bind fun G65 =>
    (g_r G65 a1 0 7).bind fun v69 =>
    (g_r G65 a0 0 7).bind fun v73 =>
    (f_X9_copy G65 v69 v73).bind fun G76 =>
    (g_r G76 a1 0 8).bind fun v80 =>
    (g_r G76 a0 0 8).bind fun v84 =>
    (f_X9_copy G76 v80 v84).bind fun G87 =>
    (g_r G87 a1 0 9).bind fun v91 =>
    (g_r G87 a0 0 9).bind fun v95 =>
    (f_X9_copy G87 v91 v95).bind fun G98 =>
    (g_r G98 a1 0 10).bind fun v102 =>
    (g_r G98 a0 0 10).bind fun v106 =>
    (f_X9_copy G98 v102 v106).bind fun G109 =>
    some G109
def f_X0_kindOf (G : gH) (a0 : Nat) (x1 : Int32) : Option Int32 :=
    (g_r G a0 0 3).bind fun v1 =>
    (f_X9_at G v1 x1 (0 : Int32)).bind fun v6 =>
    some v6
def f_X0_writerOf (G : gH) (a0 : Nat) (x1 : Int32) : Option Int32 :=
    (g_r G a0 0 6).bind fun v1 =>
    (f_X9_at G v1 x1 (-1 : Int32)).bind fun v6 =>
    some v6
def f_X0_dataVersionOf (G : gH) (a0 : Nat) (x1 : Int32) : Option Int32 :=
    (g_r G a0 0 7).bind fun v1 =>
    (f_X9_at G v1 x1 (-1 : Int32)).bind fun v6 =>
    some v6
def f_X0_placeOf (G : gH) (a0 : Nat) (x1 : Int32) : Option Int32 :=
    (g_r G a0 0 10).bind fun v1 =>
    (f_X9_at G v1 x1 (-1 : Int32)).bind fun v6 =>
    some v6
def f_X0_isBad (G : gH) (a0 : Nat) (x1 : Int32) : Option Int32 :=
    (g_r G a0 0 4).bind fun v1 =>
    (f_X9_isSet G v1 x1).bind fun v5 =>
    g_z v5
def f_X0_isUnreadable (G : gH) (a0 : Nat) (x1 : Int32) : Option Int32 :=
    (g_r G a0 0 5).bind fun v1 =>
    (f_X9_isSet G v1 x1).bind fun v5 =>
    g_z v5
def f_X0_property (G : gH) (a0 : Nat) (x1 : Int32) (x2 : Int32) : Option Int32 :=
    if x2 = (0 : Int32) then
    (g_ob G a0 0).bind fun u42 =>
    (f_X0_kindOf G a0 x1).bind fun v42 =>
    some v42
    else
    if x2 = (1 : Int32) then
    (g_ob G a0 0).bind fun u48 =>
    (f_X0_isBad G a0 x1).bind fun v48 =>
    (f_X9_oneIf G v48).bind fun v51 =>
    some v51
    else
    if x2 = (2 : Int32) then
    (g_ob G a0 0).bind fun u57 =>
    (f_X0_isUnreadable G a0 x1).bind fun v57 =>
    (f_X9_oneIf G v57).bind fun v60 =>
    some v60
    else
    if x2 = (3 : Int32) then
    (g_ob G a0 0).bind fun u66 =>
    (f_X0_writerOf G a0 x1).bind fun v66 =>
    some v66
    else
    if x2 = (4 : Int32) then
    (g_ob G a0 0).bind fun u72 =>
    (f_X0_dataVersionOf G a0 x1).bind fun v72 =>
    some v72
    else
    if x2 = (5 : Int32) then
    (g_r G a0 0 8).bind fun v77 =>
    (f_X9_at G v77 x1 (-1 : Int32)).bind fun v82 =>
    some v82
    else
    (g_r G a0 0 9).bind fun v87 =>
    (f_X9_at G v87 x1 (-1 : Int32)).bind fun v92 =>
    some v92
def f_X0_emptySpares_L7 (G : gH) : Nat → Nat → Int32 → Int32 → Option Int32
  | 0, _, _, _ => none
  | n + 1, ba0, bx1, bx2 =>
    (g_i G ba0 0 0).bind fun v9 =>
    if v9 ≤ bx2 then
    some bx1
    else
    (g_ob G ba0 0).bind fun u18 =>
    (f_X0_kindOf G ba0 bx2).bind fun v18 =>
    if v18 = 0 then
    (f_X9_oneIf G (1 : Int32)).bind fun v29 =>
    f_X0_emptySpares_L7 G n ba0 (bx1 + v29) (bx2 + (1 : Int32))
    else
    (f_X9_oneIf G (0 : Int32)).bind fun v29 =>
    f_X0_emptySpares_L7 G n ba0 (bx1 + v29) (bx2 + (1 : Int32))
def f_X0_emptySpares (G : gH) (a0 : Nat) : Option Int32 :=
    (g_i G a0 0 1).bind fun v3 =>
    f_X0_emptySpares_L7 G g_N a0 (0 : Int32) v3
def f_X0_badOnes_L4 (G : gH) : Nat → Nat → Int32 → Int32 → Option Int32
  | 0, _, _, _ => none
  | n + 1, ba0, bx1, bx2 =>
    (g_i G ba0 0 0).bind fun v6 =>
    if v6 ≤ bx2 then
    some bx1
    else
    (g_ob G ba0 0).bind fun u15 =>
    (f_X0_isBad G ba0 bx2).bind fun v15 =>
    (f_X9_oneIf G v15).bind fun v18 =>
    f_X0_badOnes_L4 G n ba0 (bx1 + v18) (bx2 + (1 : Int32))
def f_X0_badOnes (G : gH) (a0 : Nat) : Option Int32 :=
    f_X0_badOnes_L4 G g_N a0 (0 : Int32) (0 : Int32)
def f_X0_blocksOf_L6 (G : gH) : Nat → Nat → Int32 → Int32 → Int32 → Int32 → Option Int32
  | 0, _, _, _, _, _ => none
  | n + 1, ba0, bx1, bx3, bx4, bx5 =>
    if bx3 ≤ bx5 then
    some bx4
    else
    (g_ob G ba0 0).bind fun u17 =>
    (f_X0_writerOf G ba0 bx5).bind fun v17 =>
    if v17 = bx1 then
    (f_X9_oneIf G (1 : Int32)).bind fun v29 =>
    f_X0_blocksOf_L6 G n ba0 bx1 bx3 (bx4 + v29) (bx5 + (1 : Int32))
    else
    (f_X9_oneIf G (0 : Int32)).bind fun v29 =>
    f_X0_blocksOf_L6 G n ba0 bx1 bx3 (bx4 + v29) (bx5 + (1 : Int32))
def f_X0_blocksOf (G : gH) (a0 : Nat) (x1 : Int32) (x2 : Int32) (x3 : Int32) : Option Int32 :=
    f_X0_blocksOf_L6 G g_N a0 x1 x3 (0 : Int32) x2
def f_X0_canRelocate_L50 (G : gH) : Nat → Nat → Int32 → Int32 → Int32 → Option Int32
  | 0, _, _, _, _ => none
  | n + 1, ba0, bx2, bx3, bx4 =>
    (g_i G ba0 0 0).bind fun v53 =>
    if v53 ≤ bx4 then
    if bx3 < bx2 then
    some (0 : Int32)
    else
    some (1 : Int32)
    else
    (g_ob G ba0 0).bind fun u63 =>
    (f_X0_kindOf G ba0 bx4).bind fun v63 =>
    if v63 = 0 then
    (g_ob G ba0 0).bind fun u72 =>
    (f_X0_isBad G ba0 bx4).bind fun v72 =>
    if v72 = 0 then
    (f_X9_oneIf G (1 : Int32)).bind fun v83 =>
    f_X0_canRelocate_L50 G n ba0 bx2 (bx3 + v83) (bx4 + (1 : Int32))
    else
    (f_X9_oneIf G (0 : Int32)).bind fun v83 =>
    f_X0_canRelocate_L50 G n ba0 bx2 (bx3 + v83) (bx4 + (1 : Int32))
    else
    (f_X9_oneIf G (0 : Int32)).bind fun v83 =>
    f_X0_canRelocate_L50 G n ba0 bx2 (bx3 + v83) (bx4 + (1 : Int32))
def f_X0_canRelocate_L7 (G : gH) : Nat → Nat → Int32 → Int32 → Int32 → Option Int32
  | 0, _, _, _, _ => none
  | n + 1, ba0, bx1, bx2, bx3 =>
    (g_i G ba0 0 2).bind fun v9 =>
    if (v9 + bx1) ≤ bx3 then
    (g_i G ba0 0 1).bind fun v45 =>
    f_X0_canRelocate_L50 G g_N ba0 bx2 (0 : Int32) v45
    else
    (g_i G ba0 0 1).bind fun v19 =>
    if v19 ≤ bx3 then
    (g_i G ba0 0 1).bind fun v45 =>
    f_X0_canRelocate_L50 G g_N ba0 bx2 (0 : Int32) v45
    else
    (g_ob G ba0 0).bind fun u28 =>
    (f_X0_isBad G ba0 bx3).bind fun v28 =>
    (f_X9_oneIf G v28).bind fun v31 =>
    f_X0_canRelocate_L7 G n ba0 bx1 (bx2 + v31) (bx3 + (1 : Int32))
def f_X0_canRelocate (G : gH) (a0 : Nat) (x1 : Int32) : Option Int32 :=
    (g_i G a0 0 2).bind fun v3 =>
    f_X0_canRelocate_L7 G g_N a0 x1 (0 : Int32) v3
def f_X0_takeSpare_L5 : Nat → gH → Nat → Int32 → Int32 → Option (gH × Int32)
  | 0, _, _, _, _ => none
  | n + 1, G, ba0, bx1, bx2 =>
    (g_i G ba0 0 0).bind fun v7 =>
    if v7 ≤ bx2 then
    some (G, (-1 : Int32))
    else
    (g_ob G ba0 0).bind fun u15 =>
    (f_X0_kindOf G ba0 bx2).bind fun v15 =>
    if v15 = 0 then
    (g_ob G ba0 0).bind fun u23 =>
    (f_X0_isBad G ba0 bx2).bind fun v23 =>
    if v23 = 0 then
    some (G, bx2)
    else
    (g_r G ba0 0 3).bind fun v32 =>
    (f_X9_put G v32 bx2 (3 : Int32)).bind fun G37 =>
    (g_r G37 ba0 0 6).bind fun v41 =>
    (f_X9_put G37 v41 bx2 bx1).bind fun G46 =>
    f_X0_takeSpare_L5 n G46 ba0 bx1 (bx2 + (1 : Int32))
    else
    f_X0_takeSpare_L5 n G ba0 bx1 (bx2 + (1 : Int32))
def f_X0_takeSpare (G : gH) (a0 : Nat) (x1 : Int32) : Option (gH × Int32) :=
    (g_i G a0 0 1).bind fun v1 =>
    f_X0_takeSpare_L5 g_N G a0 x1 v1
def f_X0_canRead_J48 (G : gH) (bx1 : Int32) : Option Int32 :=
    if bx1 = (-1 : Int32) then
    some (0 : Int32)
    else
    some (1 : Int32)
def f_X0_canRead_L2 (G : gH) : Nat → Nat → Int32 → Int32 → Int32 → Option Int32
  | 0, _, _, _, _ => none
  | n + 1, ba0, bx1, bx2, bx3 =>
    if bx3 < 0 then
    f_X0_canRead_J48 G bx1
    else
    if (bx1 + bx2) ≤ bx3 then
    f_X0_canRead_J48 G bx1
    else
    (g_i G ba0 0 1).bind fun v15 =>
    if v15 ≤ bx3 then
    f_X0_canRead_J48 G bx1
    else
    (g_r G ba0 0 5).bind fun v22 =>
    (g_r G ba0 0 10).bind fun v26 =>
    (f_X9_at G v26 bx3 (-1 : Int32)).bind fun v31 =>
    (f_X9_isSet G v22 v31).bind fun v34 =>
    if v34 = 0 then
    f_X0_canRead_L2 G n ba0 bx1 bx2 (bx3 + (1 : Int32))
    else
    some (0 : Int32)
def f_X0_canRead (G : gH) (a0 : Nat) (x1 : Int32) (x2 : Int32) : Option Int32 :=
    f_X0_canRead_L2 G g_N a0 x1 x2 x1
def f_X0_makeBad (G : gH) (a0 : Nat) (x1 : Int32) : Option gH :=
    (g_r G a0 0 4).bind fun v1 =>
    (f_X9_mark G v1 x1 (1 : Int32)).bind fun G6 =>
    some G6
def f_X0_damage_J19 (G : gH) (bx1 : Int32) (z0 : Nat) : Option (gH × Int32) :=
    (f_X9_isSet G z0 bx1).bind fun v22 =>
    (f_X9_mark G z0 bx1 (1 : Int32)).bind fun G29 =>
    if v22 = 0 then
    some (G29, (1 : Int32))
    else
    some (G29, (0 : Int32))
def f_X0_damage (G : gH) (a0 : Nat) (x1 : Int32) : Option (gH × Int32) :=
    (g_ob G a0 0).bind fun u2 =>
    (f_X0_kindOf G a0 x1).bind fun v2 =>
    if v2 = 0 then
    (g_r G a0 0 4).bind fun v9 =>
    f_X0_damage_J19 G x1 v9
    else
    (g_r G a0 0 5).bind fun v16 =>
    f_X0_damage_J19 G x1 v16
def f_X1_format (G : gH) (a0 : Nat) (x1 : Int32) (x2 : Int32) : Option gH :=
    (g_r G a0 1 0).bind fun v1 =>
    (g_ob G v1 0).bind fun u6 =>
    (f_X0_format G v1 x1 x2).bind fun G6 =>
    (g_r G6 a0 1 1).bind fun v10 =>
    (g_put G6 v10 7 0 (.int (0 : Int32))).bind fun G14 =>
    (g_r G14 a0 1 2).bind fun v18 =>
    (g_put G14 v18 5 0 (.int (0 : Int32))).bind fun G22 =>
    (g_put G22 a0 1 3 (.int (0 : Int32))).bind fun G27 =>
    (g_put G27 a0 1 5 (.int (0 : Int32))).bind fun G32 =>
    some G32
def f_X1_begin (G : gH) (a0 : Nat) (a1 : Nat) : Option gH :=
    (g_i G a1 4 2).bind fun v2 =>
    (g_i G a1 4 3).bind fun v6 =>
    (g_ob G a0 1).bind fun u9 =>
    (f_X1_format G a0 v2 v6).bind fun G9 =>
    (g_i G9 a1 4 4).bind fun v14 =>
    (g_put G9 a0 1 3 (.int v14)).bind fun G17 =>
    (g_r G17 a1 4 5).bind fun v21 =>
    (g_r G17 a0 1 4).bind fun v25 =>
    (f_X9_copy__ G17 v21 v25).bind fun G28 =>
    some G28
def f_X1_reasonAgainstDirectory (G : gH) (a0 : Nat) (x1 : Int32) : Option Int32 :=
    (f_X9_directoryLength G x1).bind fun v1 =>
    (g_r G a0 1 0).bind fun v6 =>
    (g_ob G v6 0).bind fun u10 =>
    (f_X0_hasRoomFor G v6 v1).bind fun v10 =>
    if v10 = 0 then
    some (4 : Int32)
    else
    (g_r G a0 1 0).bind fun v19 =>
    (g_ob G v19 0).bind fun u23 =>
    (f_X0_canRelocate G v19 v1).bind fun v23 =>
    if v23 = 0 then
    some (5 : Int32)
    else
    some (0 : Int32)
def f_X11_kindOf (G : gH) (a0 : Nat) (x1 : Int32) : Option Int32 :=
    (g_i G a0 11 0).bind fun v2 =>
    if v2 ≤ x1 then
    some (0 : Int32)
    else
    (g_r G a0 11 2).bind fun v9 =>
    (f_X9_at G v9 x1 (0 : Int32)).bind fun v14 =>
    some v14
def f_X11_startOf (G : gH) (a0 : Nat) (x1 : Int32) : Option Int32 :=
    (g_i G a0 11 0).bind fun v2 =>
    if v2 ≤ x1 then
    (g_i G a0 11 1).bind fun v24 =>
    some v24
    else
    (g_r G a0 11 3).bind fun v9 =>
    (g_i G a0 11 1).bind fun v14 =>
    (f_X9_at G v9 x1 v14).bind fun v17 =>
    some v17
def f_X11_numberOf (G : gH) (a0 : Nat) (x1 : Int32) : Option Int32 :=
    (g_r G a0 11 4).bind fun v1 =>
    (f_X9_at_ G v1 x1 (-1 : Int64)).bind fun v8 =>
    some v8.toInt32
def f_X11_valueOf (G : gH) (a0 : Nat) (x1 : Int32) : Option Int64 :=
    (g_r G a0 11 4).bind fun v1 =>
    (f_X9_at_ G v1 x1 (-1 : Int64)).bind fun v8 =>
    some v8
def f_X11_begin (G : gH) (a0 : Nat) (x1 : Int32) (x2 : Int32) : Option gH :=
    (g_r G a0 11 2).bind fun v1 =>
    (g_i G a0 11 0).bind fun v5 =>
    (f_X9_put G v1 v5 x1).bind fun G9 =>
    (g_r G9 a0 11 3).bind fun v13 =>
    (g_i G9 a0 11 0).bind fun v17 =>
    (f_X9_put G9 v13 v17 x2).bind fun G21 =>
    (g_r G21 a0 11 4).bind fun v25 =>
    (g_i G21 a0 11 0).bind fun v29 =>
    (f_X9_put_ G21 v25 v29 (0 : Int64)).bind fun G33 =>
    (g_i G33 a0 11 0).bind fun v38 =>
    (g_put G33 a0 11 0 (.int (v38 + (1 : Int32)))).bind fun G43 =>
    some G43
def f_X11_takeLetter (G : gH) (a0 : Nat) (x1 : Int32) (x2 : Int32) : Option gH :=
    (g_i G a0 11 0).bind fun v1 =>
    (g_r G a0 11 4).bind fun v8 =>
    (g_ob G a0 11).bind fun u14 =>
    (f_X11_valueOf G a0 (v1 - (1 : Int32))).bind fun v14 =>
    (f_X9_withLetter G v14 x1).bind fun v18 =>
    (f_X9_put_ G v8 (v1 - (1 : Int32)) v18).bind fun G21 =>
    (g_ob G21 a0 11).bind fun u27 =>
    (f_X11_startOf G21 a0 (v1 - (1 : Int32))).bind fun v27 =>
    if (x2 - v27) < (8 : Int32) then
    some G21
    else
    (g_r G21 a0 11 2).bind fun v37 =>
    (f_X9_put G21 v37 (v1 - (1 : Int32)) (4 : Int32)).bind fun G42 =>
    some G42
def f_X11_takeDigit (G : gH) (a0 : Nat) (x1 : Int32) (x2 : Int32) : Option gH :=
    (g_i G a0 11 0).bind fun v1 =>
    (g_r G a0 11 4).bind fun v8 =>
    (g_ob G a0 11).bind fun u14 =>
    (f_X11_valueOf G a0 (v1 - (1 : Int32))).bind fun v14 =>
    (f_X9_put_ G v8 (v1 - (1 : Int32)) ((v14 * (10 : Int64)) + (x1 - (48 : Int32)).toInt64)).bind fun G27 =>
    (g_ob G27 a0 11).bind fun u33 =>
    (f_X11_startOf G27 a0 (v1 - (1 : Int32))).bind fun v33 =>
    if (x2 - v33) < (3 : Int32) then
    some G27
    else
    (g_r G27 a0 11 2).bind fun v42 =>
    (f_X9_put G27 v42 (v1 - (1 : Int32)) (4 : Int32)).bind fun G47 =>
    some G47
def f_X3_addByte (G : gH) (a0 : Nat) (x1 : Int32) : Option gH :=
    (g_r G a0 3 0).bind fun v1 =>
    (g_i G a0 3 1).bind fun v5 =>
    (f_X9_put G v1 v5 (x1 &&& (255 : Int32))).bind fun G13 =>
    (g_i G13 a0 3 1).bind fun v18 =>
    (g_put G13 a0 3 1 (.int (v18 + (1 : Int32)))).bind fun G23 =>
    some G23
def f_X3_byteAt (G : gH) (a0 : Nat) (x1 : Int32) : Option Int32 :=
    (g_r G a0 3 0).bind fun v1 =>
    (f_X9_at G v1 x1 (-1 : Int32)).bind fun v6 =>
    some v6
def f_X3_kindAt_J29 (G : gH) (bx2 : Int32) : Option Int32 :=
    if bx2 = (32 : Int32) then
    some (0 : Int32)
    else
    if bx2 = (10 : Int32) then
    some (0 : Int32)
    else
    if bx2 = (59 : Int32) then
    some (3 : Int32)
    else
    some (4 : Int32)
def f_X3_kindAt (G : gH) (a0 : Nat) (x1 : Int32) : Option Int32 :=
    (g_ob G a0 3).bind fun u2 =>
    (f_X3_byteAt G a0 x1).bind fun v2 =>
    (f_X9_isLetter G v2).bind fun v7 =>
    if v7 = 0 then
    if v2 < (48 : Int32) then
    f_X3_kindAt_J29 G v2
    else
    if (57 : Int32) < v2 then
    f_X3_kindAt_J29 G v2
    else
    some (2 : Int32)
    else
    some (1 : Int32)
def f_X4_refuseStatement (G : gH) (a0 : Nat) (x1 : Int32) : Option gH :=
    (g_put G a0 4 0 (.int (6 : Int32))).bind fun G3 =>
    (g_r G3 a0 4 8).bind fun v8 =>
    (f_X9_at G3 v8 x1 (-1 : Int32)).bind fun v13 =>
    (g_put G3 a0 4 1 (.int v13)).bind fun G16 =>
    some G16
def f_X4_kindOf (G : gH) (a0 : Nat) (x1 : Int32) : Option Int32 :=
    (g_r G a0 4 7).bind fun v1 =>
    (f_X9_at G v1 x1 (-1 : Int32)).bind fun v6 =>
    some v6
def f_X4_targetOf (G : gH) (a0 : Nat) (x1 : Int32) : Option Int32 :=
    (g_r G a0 4 9).bind fun v1 =>
    (f_X9_at G v1 x1 (-1 : Int32)).bind fun v6 =>
    some v6
def f_X4_lengthOf (G : gH) (a0 : Nat) (x1 : Int32) : Option Int32 :=
    (g_r G a0 4 10).bind fun v1 =>
    (f_X9_at G v1 x1 (0 : Int32)).bind fun v6 =>
    some v6
def f_X4_tagOf (G : gH) (a0 : Nat) (x1 : Int32) : Option Int32 :=
    (g_r G a0 4 11).bind fun v1 =>
    (f_X9_at G v1 x1 (0 : Int32)).bind fun v6 =>
    some v6
def f_X4_readNewFile (G : gH) (a0 : Nat) : Option (gH × Int32) :=
    (g_i G a0 4 4).bind fun v1 =>
    if v1 < (10 : Int32) then
    (g_i G a0 4 14).bind fun v17 =>
    (g_put G a0 4 14 (.int (v17 + (1 : Int32)))).bind fun G22 =>
    (g_r G22 a0 4 13).bind fun v26 =>
    (g_i G22 a0 4 14).bind fun v30 =>
    (g_ob G22 v26 11).bind fun u33 =>
    (f_X11_kindOf G22 v26 v30).bind fun v33 =>
    if v33 = (1 : Int32) then
    (g_r G22 a0 4 13).bind fun v47 =>
    (g_i G22 a0 4 14).bind fun v51 =>
    (g_ob G22 v47 11).bind fun u54 =>
    (f_X11_valueOf G22 v47 v51).bind fun v54 =>
    (g_r G22 a0 4 5).bind fun v59 =>
    (g_i G22 a0 4 4).bind fun v63 =>
    (f_X9_indexOf G22 v59 v63 v54).bind fun v67 =>
    if v67 = (-1 : Int32) then
    (g_r G22 a0 4 5).bind fun v81 =>
    (g_i G22 a0 4 4).bind fun v85 =>
    (f_X9_put_ G22 v81 v85 v54).bind fun G89 =>
    (g_i G89 a0 4 4).bind fun v94 =>
    (g_put G89 a0 4 4 (.int (v94 + (1 : Int32)))).bind fun G99 =>
    some (G99, (1 : Int32))
    else
    (g_ob G22 a0 4).bind fun u76 =>
    (f_X4_fail G22 a0 (2 : Int32)).bind fun q76 =>
    (g_z q76.2).bind fun w79 => some (q76.1, w79)
    else
    (g_ob G22 a0 4).bind fun u42 =>
    (f_X4_fail G22 a0 (1 : Int32)).bind fun q42 =>
    (g_z q42.2).bind fun w45 => some (q42.1, w45)
    else
    (g_ob G a0 4).bind fun u11 =>
    (f_X4_fail G a0 (5 : Int32)).bind fun q11 =>
    (g_z q11.2).bind fun w14 => some (q11.1, w14)
def f_X4_add (G : gH) (a0 : Nat) (x1 : Int32) (x2 : Int32) (x3 : Int32) : Option (gH × Int32) :=
    (g_r G a0 4 7).bind fun v1 =>
    (g_i G a0 4 6).bind fun v5 =>
    (f_X9_put G v1 v5 x1).bind fun G9 =>
    (g_r G9 a0 4 8).bind fun v13 =>
    (g_i G9 a0 4 6).bind fun v17 =>
    (f_X9_put G9 v13 v17 x2).bind fun G21 =>
    (g_r G21 a0 4 9).bind fun v25 =>
    (g_i G21 a0 4 6).bind fun v29 =>
    (f_X9_put G21 v25 v29 x3).bind fun G33 =>
    (g_i G33 a0 4 6).bind fun v38 =>
    (g_put G33 a0 4 6 (.int (v38 + (1 : Int32)))).bind fun G43 =>
    some (G43, (1 : Int32))
def f_X4_isWord (G : gH) (a0 : Nat) (s1 : Nat) : Option Int32 :=
    (g_r G a0 4 13).bind fun v1 =>
    (g_i G a0 4 14).bind fun v5 =>
    (g_ob G v1 11).bind fun u8 =>
    (f_X11_kindOf G v1 v5).bind fun v8 =>
    if v8 = (1 : Int32) then
    (g_r G a0 4 13).bind fun v16 =>
    (g_i G a0 4 14).bind fun v20 =>
    (g_ob G v16 11).bind fun u23 =>
    (f_X11_valueOf G v16 v20).bind fun v23 =>
    (f_X9_packed G s1).bind fun v27 =>
    if (lg_cmp v23 v27) = 0 then
    some (1 : Int32)
    else
    some (0 : Int32)
    else
    some (0 : Int32)
def f_X4_readFile (G : gH) (a0 : Nat) : Option (gH × Int32) :=
    (g_i G a0 4 14).bind fun v2 =>
    (g_put G a0 4 14 (.int (v2 + (1 : Int32)))).bind fun G7 =>
    (g_r G7 a0 4 13).bind fun v11 =>
    (g_i G7 a0 4 14).bind fun v15 =>
    (g_ob G7 v11 11).bind fun u18 =>
    (f_X11_kindOf G7 v11 v15).bind fun v18 =>
    if v18 = (1 : Int32) then
    (g_r G7 a0 4 5).bind fun v34 =>
    (g_i G7 a0 4 4).bind fun v38 =>
    (g_r G7 a0 4 13).bind fun v42 =>
    (g_i G7 a0 4 14).bind fun v46 =>
    (g_ob G7 v42 11).bind fun u49 =>
    (f_X11_valueOf G7 v42 v46).bind fun v49 =>
    (f_X9_indexOf G7 v34 v38 v49).bind fun v52 =>
    if v52 = (-1 : Int32) then
    (g_ob G7 a0 4).bind fun u63 =>
    (f_X4_fail G7 a0 (4 : Int32)).bind fun q63 =>
    some (q63.1, v52)
    else
    some (G7, v52)
    else
    (g_ob G7 a0 4).bind fun u27 =>
    (f_X4_fail G7 a0 (1 : Int32)).bind fun q27 =>
    some (q27.1, (-1 : Int32))
def f_X4_readNumber_J53 (G : gH) (ba0 : Nat) : Option (gH × Int32) :=
    (g_ob G ba0 4).bind fun u55 =>
    (f_X4_fail G ba0 (3 : Int32)).bind fun q55 =>
    if q55.2 = 0 then
    some (q55.1, (0 : Int32))
    else
    some (q55.1, (1 : Int32))
def f_X4_readNumber (G : gH) (a0 : Nat) (x1 : Int32) (x2 : Int32) : Option (gH × Int32) :=
    (g_i G a0 4 14).bind fun v2 =>
    (g_put G a0 4 14 (.int (v2 + (1 : Int32)))).bind fun G7 =>
    (g_r G7 a0 4 13).bind fun v11 =>
    (g_i G7 a0 4 14).bind fun v15 =>
    (g_ob G7 v11 11).bind fun u18 =>
    (f_X11_kindOf G7 v11 v15).bind fun v18 =>
    if v18 = (2 : Int32) then
    (g_r G7 a0 4 13).bind fun v32 =>
    (g_i G7 a0 4 14).bind fun v36 =>
    (g_ob G7 v32 11).bind fun u39 =>
    (f_X11_numberOf G7 v32 v36).bind fun v39 =>
    if v39 < x1 then
    f_X4_readNumber_J53 G7 a0
    else
    if v39 ≤ x2 then
    some (G7, (1 : Int32))
    else
    f_X4_readNumber_J53 G7 a0
    else
    (g_ob G7 a0 4).bind fun u27 =>
    (f_X4_fail G7 a0 (1 : Int32)).bind fun q27 =>
    (g_z q27.2).bind fun w30 => some (q27.1, w30)
def f_X4_readSemicolon (G : gH) (a0 : Nat) : Option (gH × Int32) :=
    (g_i G a0 4 14).bind fun v2 =>
    (g_put G a0 4 14 (.int (v2 + (1 : Int32)))).bind fun G7 =>
    (g_r G7 a0 4 13).bind fun v11 =>
    (g_i G7 a0 4 14).bind fun v15 =>
    (g_ob G7 v11 11).bind fun u18 =>
    (f_X11_kindOf G7 v11 v15).bind fun v18 =>
    if v18 = (3 : Int32) then
    some (G7, (1 : Int32))
    else
    (g_ob G7 a0 4).bind fun u27 =>
    (f_X4_fail G7 a0 (1 : Int32)).bind fun q27 =>
    if q27.2 = 0 then
    some (q27.1, (0 : Int32))
    else
    some (q27.1, (1 : Int32))
def f_X5_takeFrom (G : gH) (a0 : Nat) (a1 : Nat) : Option gH :=
    (g_i G a1 5 0).bind fun v2 =>
    (g_put G a0 5 0 (.int v2)).bind fun G5 =>
    (g_r G5 a1 5 1).bind fun v9 =>
    (g_r G5 a0 5 1).bind fun v13 =>
    (f_X9_copy G5 v9 v13).bind fun G16 =>
    (g_r G16 a1 5 2).bind fun v20 =>
    (g_r G16 a0 5 2).bind fun v24 =>
    (f_X9_copy G16 v20 v24).bind fun G27 =>
    (g_r G27 a1 5 3).bind fun v31 =>
    (g_r G27 a0 5 3).bind fun v35 =>
    (f_X9_copy G27 v31 v35).bind fun G38 =>
    (g_r G38 a1 5 4).bind fun v42 =>
    (g_r G38 a0 5 4).bind fun v46 =>
    (f_X9_copy G38 v42 v46).bind fun G49 =>
    (g_r G49 a1 5 5).bind fun v53 =>
    (g_r G49 a0 5 5).bind fun v57 =>
    (f_X9_copy G49 v53 v57).bind fun G60 =>
    (g_r G60 a1 5 6).bind fun v64 =>
    (g_r G60 a0 5 6).bind fun v68 =>
    (f_X9_copy G60 v64 v68).bind fun G71 =>
    (g_r G71 a1 5 7).bind fun v75 =>
    (g_r G71 a0 5 7).bind fun v79 =>
    (f_X9_copy G71 v75 v79).bind fun G82 =>
    some G82
def f_X5_stateOf (G : gH) (a0 : Nat) (x1 : Int32) : Option Int32 :=
    (g_i G a0 5 0).bind fun v2 =>
    if v2 ≤ x1 then
    some (-1 : Int32)
    else
    (g_r G a0 5 1).bind fun v9 =>
    (f_X9_at G v9 x1 (-1 : Int32)).bind fun v14 =>
    some v14
def f_X5_firstOf (G : gH) (a0 : Nat) (x1 : Int32) : Option Int32 :=
    (g_r G a0 5 2).bind fun v1 =>
    (f_X9_at G v1 x1 (-1 : Int32)).bind fun v6 =>
    some v6
def f_X5_directoryOf (G : gH) (a0 : Nat) (x1 : Int32) : Option Int32 :=
    (g_r G a0 5 3).bind fun v1 =>
    (f_X9_at G v1 x1 (-1 : Int32)).bind fun v6 =>
    some v6
def f_X5_directoryLengthOf (G : gH) (a0 : Nat) (x1 : Int32) : Option Int32 :=
    (g_r G a0 5 4).bind fun v1 =>
    (f_X9_at G v1 x1 (0 : Int32)).bind fun v6 =>
    some v6
def f_X5_entriesOf (G : gH) (a0 : Nat) (x1 : Int32) : Option Int32 :=
    (g_r G a0 5 5).bind fun v1 =>
    (f_X9_at G v1 x1 (0 : Int32)).bind fun v6 =>
    some v6
def f_X5_fileAt (G : gH) (a0 : Nat) (x1 : Int32) (x2 : Int32) : Option Int32 :=
    if x2 < 0 then
    some (-1 : Int32)
    else
    (g_ob G a0 5).bind fun u7 =>
    (f_X5_entriesOf G a0 x1).bind fun v7 =>
    if v7 ≤ x2 then
    some (-1 : Int32)
    else
    (g_r G a0 5 6).bind fun v14 =>
    (f_X9_at G v14 ((x1 * (10 : Int32)) + x2) (-1 : Int32)).bind fun v24 =>
    some v24
def f_X5_hasEntry (G : gH) (a0 : Nat) (x1 : Int32) (x2 : Int32) : Option Int32 :=
    (g_r G a0 5 7).bind fun v1 =>
    (f_X9_at G v1 ((x1 * (10 : Int32)) + x2) (-2 : Int32)).bind fun v12 =>
    if v12 = (-2 : Int32) then
    some (0 : Int32)
    else
    some (1 : Int32)
def f_X5_versionFor (G : gH) (a0 : Nat) (x1 : Int32) (x2 : Int32) : Option Int32 :=
    (g_r G a0 5 7).bind fun v1 =>
    (f_X9_at G v1 ((x1 * (10 : Int32)) + x2) (-2 : Int32)).bind fun v12 =>
    if v12 = (-2 : Int32) then
    some (-1 : Int32)
    else
    some v12
def f_X5_forgetEntries_L11 : Nat → gH → Nat → Int32 → Int32 → Option gH
  | 0, _, _, _, _ => none
  | n + 1, G, ba0, bx1, bx2 =>
    if (10 : Int32) ≤ bx2 then
    some G
    else
    (g_r G ba0 5 7).bind fun v18 =>
    (f_X9_put G v18 ((bx1 * (10 : Int32)) + bx2) (-2 : Int32)).bind fun G29 =>
    f_X5_forgetEntries_L11 n G29 ba0 bx1 (bx2 + (1 : Int32))
def f_X5_forgetEntries (G : gH) (a0 : Nat) (x1 : Int32) : Option gH :=
    (g_r G a0 5 5).bind fun v1 =>
    (f_X9_put G v1 x1 (0 : Int32)).bind fun G6 =>
    f_X5_forgetEntries_L11 g_N G6 a0 x1 (0 : Int32)
def f_X5_enter_J47 (G : gH) (ba0 : Nat) (bx1 : Int32) (bx2 : Int32) (bx3 : Int32) : Option gH :=
    (g_r G ba0 5 7).bind fun v48 =>
    (f_X9_put G v48 ((bx3 * (10 : Int32)) + bx1) bx2).bind fun G58 =>
    some G58
def f_X5_enter (G : gH) (a0 : Nat) (x1 : Int32) (x2 : Int32) : Option gH :=
    (g_ob G a0 5).bind fun u1 =>
    (f_X5_latest G a0).bind fun v1 =>
    (g_ob G a0 5).bind fun u8 =>
    (f_X5_hasEntry G a0 v1 x1).bind fun v8 =>
    if v8 = 0 then
    (g_r G a0 5 6).bind fun v15 =>
    (g_ob G a0 5).bind fun u24 =>
    (f_X5_entriesOf G a0 v1).bind fun v24 =>
    (f_X9_put G v15 ((v1 * (10 : Int32)) + v24) x1).bind fun G29 =>
    (g_r G29 a0 5 5).bind fun v33 =>
    (g_ob G29 a0 5).bind fun u39 =>
    (f_X5_entriesOf G29 a0 v1).bind fun v39 =>
    (f_X9_put G29 v33 v1 (v39 + (1 : Int32))).bind fun G44 =>
    f_X5_enter_J47 G44 a0 x1 x2 v1
    else
    f_X5_enter_J47 G a0 x1 x2 v1
def f_X5_markClosed (G : gH) (a0 : Nat) (x1 : Int32) (x2 : Int32) : Option gH :=
    (g_r G a0 5 1).bind fun v1 =>
    (g_ob G a0 5).bind fun u5 =>
    (f_X5_latest G a0).bind fun v5 =>
    (f_X9_put G v1 v5 (1 : Int32)).bind fun G9 =>
    (g_r G9 a0 5 3).bind fun v13 =>
    (g_ob G9 a0 5).bind fun u17 =>
    (f_X5_latest G9 a0).bind fun v17 =>
    (f_X9_put G9 v13 v17 x1).bind fun G21 =>
    (g_r G21 a0 5 4).bind fun v25 =>
    (g_ob G21 a0 5).bind fun u29 =>
    (f_X5_latest G21 a0).bind fun v29 =>
    (f_X9_put G21 v25 v29 x2).bind fun G33 =>
    some G33
def f_X5_markLost (G : gH) (a0 : Nat) : Option gH :=
    (g_r G a0 5 1).bind fun v1 =>
    (g_ob G a0 5).bind fun u5 =>
    (f_X5_latest G a0).bind fun v5 =>
    (f_X9_put G v1 v5 (2 : Int32)).bind fun G9 =>
    (g_ob G9 a0 5).bind fun u14 =>
    (f_X5_latest G9 a0).bind fun v14 =>
    (g_ob G9 a0 5).bind fun u17 =>
    (f_X5_forgetEntries G9 a0 v14).bind fun G17 =>
    some G17
def f_X5_markRecovered (G : gH) (a0 : Nat) : Option gH :=
    (g_r G a0 5 1).bind fun v1 =>
    (g_ob G a0 5).bind fun u5 =>
    (f_X5_latest G a0).bind fun v5 =>
    (f_X9_put G v1 v5 (3 : Int32)).bind fun G9 =>
    some G9
def f_X5_linkOf_L15 (G : gH) : Nat → Nat → Int32 → Option Int32
  | 0, _, _ => none
  | n + 1, ba0, bx2 =>
    if bx2 < 0 then
    some (-1 : Int32)
    else
    (g_ob G ba0 5).bind fun u21 =>
    (f_X5_stateOf G ba0 bx2).bind fun v21 =>
    if v21 = (1 : Int32) then
    some bx2
    else
    f_X5_linkOf_L15 G n ba0 (bx2 + (-1 : Int32))
def f_X5_linkOf (G : gH) (a0 : Nat) (x1 : Int32) : Option Int32 :=
    (g_ob G a0 5).bind fun u2 =>
    (f_X5_directoryOf G a0 x1).bind fun v2 =>
    if v2 = (-1 : Int32) then
    some (-1 : Int32)
    else
    f_X5_linkOf_L15 G g_N a0 (x1 - (1 : Int32))
def f_X6_clear (G : gH) (a0 : Nat) : Option gH :=
    (g_r G a0 6 0).bind fun v1 =>
    (f_X9_fill_ G v1 (0 : Int32)).bind fun G5 =>
    some G5
def f_X7_takeFrom (G : gH) (a0 : Nat) (a1 : Nat) : Option gH :=
    (g_i G a1 7 0).bind fun v2 =>
    (g_put G a0 7 0 (.int v2)).bind fun G5 =>
    (g_r G5 a1 7 1).bind fun v9 =>
    (g_r G5 a0 7 1).bind fun v13 =>
    (f_X9_copy G5 v9 v13).bind fun G16 =>
    (g_r G16 a1 7 2).bind fun v20 =>
    (g_r G16 a0 7 2).bind fun v24 =>
    (f_X9_copy G16 v20 v24).bind fun G27 =>
    (g_r G27 a1 7 3).bind fun v31 =>
    (g_r G27 a0 7 3).bind fun v35 =>
    (f_X9_copy G27 v31 v35).bind fun G38 =>
    (g_r G38 a1 7 4).bind fun v42 =>
    (g_r G38 a0 7 4).bind fun v46 =>
    (f_X9_copy G38 v42 v46).bind fun G49 =>
    (g_r G49 a1 7 5).bind fun v53 =>
    (g_r G49 a0 7 5).bind fun v57 =>
    (f_X9_copy G49 v53 v57).bind fun G60 =>
    some G60
def f_X7_add (G : gH) (a0 : Nat) (x1 : Int32) (x2 : Int32) (x3 : Int32) (x4 : Int32) (x5 : Int32) : Option (gH × Int32) :=
    (g_i G a0 7 0).bind fun v1 =>
    (g_i G a0 7 0).bind fun v8 =>
    (g_put G a0 7 0 (.int (v8 + (1 : Int32)))).bind fun G13 =>
    (g_r G13 a0 7 1).bind fun v17 =>
    (f_X9_put G13 v17 v1 x1).bind fun G23 =>
    (g_r G23 a0 7 2).bind fun v27 =>
    (f_X9_put G23 v27 v1 x2).bind fun G33 =>
    (g_r G33 a0 7 3).bind fun v37 =>
    (f_X9_put G33 v37 v1 x3).bind fun G43 =>
    (g_r G43 a0 7 4).bind fun v47 =>
    (f_X9_put G43 v47 v1 x4).bind fun G54 =>
    (g_r G54 a0 7 5).bind fun v58 =>
    (f_X9_put G54 v58 v1 x5).bind fun G65 =>
    some (G65, v1)
def f_X7_fileOf (G : gH) (a0 : Nat) (x1 : Int32) : Option Int32 :=
    (g_r G a0 7 1).bind fun v1 =>
    (f_X9_at G v1 x1 (-1 : Int32)).bind fun v6 =>
    some v6
def f_X7_firstOf (G : gH) (a0 : Nat) (x1 : Int32) : Option Int32 :=
    (g_r G a0 7 2).bind fun v1 =>
    (f_X9_at G v1 x1 (-1 : Int32)).bind fun v6 =>
    some v6
def f_X7_lengthOf (G : gH) (a0 : Nat) (x1 : Int32) : Option Int32 :=
    (g_r G a0 7 3).bind fun v1 =>
    (f_X9_at G v1 x1 (0 : Int32)).bind fun v6 =>
    some v6
def f_X7_tagOf (G : gH) (a0 : Nat) (x1 : Int32) : Option Int32 :=
    (g_r G a0 7 4).bind fun v1 =>
    (f_X9_at G v1 x1 (-1 : Int32)).bind fun v6 =>
    some v6
def f_X7_writerOf (G : gH) (a0 : Nat) (x1 : Int32) : Option Int32 :=
    (g_r G a0 7 5).bind fun v1 =>
    (f_X9_at G v1 x1 (-1 : Int32)).bind fun v6 =>
    some v6
def f_X7_countOf_L4 (G : gH) : Nat → Nat → Int32 → Int32 → Int32 → Option Int32
  | 0, _, _, _, _ => none
  | n + 1, ba0, bx1, bx2, bx3 =>
    (g_i G ba0 7 0).bind fun v6 =>
    if v6 ≤ bx3 then
    some bx2
    else
    (g_ob G ba0 7).bind fun u15 =>
    (f_X7_fileOf G ba0 bx3).bind fun v15 =>
    if v15 = bx1 then
    (f_X9_oneIf G (1 : Int32)).bind fun v27 =>
    f_X7_countOf_L4 G n ba0 bx1 (bx2 + v27) (bx3 + (1 : Int32))
    else
    (f_X9_oneIf G (0 : Int32)).bind fun v27 =>
    f_X7_countOf_L4 G n ba0 bx1 (bx2 + v27) (bx3 + (1 : Int32))
def f_X7_countOf (G : gH) (a0 : Nat) (x1 : Int32) : Option Int32 :=
    f_X7_countOf_L4 G g_N a0 x1 (0 : Int32) (0 : Int32)
def f_X8_markReached_J86 (k13 : gH → Nat → Nat → Nat → Int32 → Int32 → Option gH) (G : gH) (ba0 : Nat) (ba1 : Nat) (ba2 : Nat) (bx4 : Int32) (bx6 : Int32) (z0 : Int32) : Option gH :=
    (g_r G ba0 8 1).bind fun v88 =>
    (f_X9_mark G v88 bx4 bx6).bind fun G95 =>
    k13 G95 ba0 ba1 ba2 z0 (bx4 + (-1 : Int32))
def f_X8_markReached_J36 (k13 : gH → Nat → Nat → Nat → Int32 → Int32 → Option gH) (G : gH) (ba0 : Nat) (ba1 : Nat) (ba2 : Nat) (bx3 : Int32) (bx4 : Int32) (bx5 : Int32) (z0 : Int32) : Option gH :=
    if bx5 = (1 : Int32) then
    if bx3 = 0 then
    (g_r G ba0 8 1).bind fun v88 =>
    (f_X9_mark G v88 bx4 z0).bind fun G95 =>
    k13 G95 ba0 ba1 ba2 bx3 (bx4 + (-1 : Int32))
    else
    (g_r G ba1 1 0).bind fun v49 =>
    (g_ob G ba2 5).bind fun u55 =>
    (f_X5_directoryOf G ba2 bx4).bind fun v55 =>
    (g_ob G ba2 5).bind fun u61 =>
    (f_X5_directoryLengthOf G ba2 bx4).bind fun v61 =>
    (g_ob G v49 0).bind fun u64 =>
    (f_X0_canRead G v49 v55 v61).bind fun v64 =>
    if v64 = 0 then
    (g_i G ba1 1 5).bind fun v75 =>
    if v75 = 0 then
    f_X8_markReached_J86 k13 G ba0 ba1 ba2 bx4 v64 (0 : Int32)
    else
    f_X8_markReached_J86 k13 G ba0 ba1 ba2 bx4 v64 (1 : Int32)
    else
    f_X8_markReached_J86 k13 G ba0 ba1 ba2 bx4 v64 (1 : Int32)
    else
    (g_r G ba0 8 1).bind fun v88 =>
    (f_X9_mark G v88 bx4 z0).bind fun G95 =>
    k13 G95 ba0 ba1 ba2 bx3 (bx4 + (-1 : Int32))
def f_X8_markReached_L13 : Nat → gH → Nat → Nat → Nat → Int32 → Int32 → Option gH
  | 0, _, _, _, _, _, _ => none
  | n + 1, G, ba0, ba1, ba2, bx3, bx4 =>
    if bx4 < 0 then
    some G
    else
    (g_ob G ba2 5).bind fun u21 =>
    (f_X5_stateOf G ba2 bx4).bind fun v21 =>
    if v21 = 0 then
    f_X8_markReached_J36 (f_X8_markReached_L13 n) G ba0 ba1 ba2 bx3 bx4 v21 (1 : Int32)
    else
    f_X8_markReached_J36 (f_X8_markReached_L13 n) G ba0 ba1 ba2 bx3 bx4 v21 (0 : Int32)
def f_X8_markReached (G : gH) (a0 : Nat) (a1 : Nat) : Option gH :=
    (g_r G a1 1 2).bind fun v1 =>
    (g_ob G v1 5).bind fun u8 =>
    (f_X5_latest G v1).bind fun v8 =>
    f_X8_markReached_L13 g_N G a0 a1 v1 (1 : Int32) v8
def f_X8_isReached (G : gH) (a0 : Nat) (x1 : Int32) : Option Int32 :=
    (g_r G a0 8 1).bind fun v1 =>
    (f_X9_isSet G v1 x1).bind fun v5 =>
    g_z v5
def f_X8_sessionOf (G : gH) (a0 : Nat) (x1 : Int32) : Option Int32 :=
    (g_r G a0 8 2).bind fun v1 =>
    (f_X9_at G v1 x1 (-1 : Int32)).bind fun v6 =>
    some v6
def f_X8_versionOf (G : gH) (a0 : Nat) (x1 : Int32) : Option Int32 :=
    (g_r G a0 8 3).bind fun v1 =>
    (f_X9_at G v1 x1 (-1 : Int32)).bind fun v6 =>
    some v6
def f_X8_isReadable (G : gH) (a0 : Nat) (x1 : Int32) : Option Int32 :=
    (g_r G a0 8 4).bind fun v1 =>
    (f_X9_isSet G v1 x1).bind fun v5 =>
    g_z v5
def f_X8_filesThere_L4 (G : gH) : Nat → Nat → Int32 → Int32 → Option Int32
  | 0, _, _, _ => none
  | n + 1, ba0, bx1, bx2 =>
    (g_i G ba0 8 0).bind fun v6 =>
    if v6 ≤ bx2 then
    some bx1
    else
    (g_ob G ba0 8).bind fun u15 =>
    (f_X8_versionOf G ba0 bx2).bind fun v15 =>
    if v15 = (-1 : Int32) then
    (f_X9_oneIf G (0 : Int32)).bind fun v27 =>
    f_X8_filesThere_L4 G n ba0 (bx1 + v27) (bx2 + (1 : Int32))
    else
    (f_X9_oneIf G (1 : Int32)).bind fun v27 =>
    f_X8_filesThere_L4 G n ba0 (bx1 + v27) (bx2 + (1 : Int32))
def f_X8_filesThere (G : gH) (a0 : Nat) : Option Int32 :=
    f_X8_filesThere_L4 G g_N a0 (0 : Int32) (0 : Int32)
def f_X8_filesReadable_L4 (G : gH) : Nat → Nat → Int32 → Int32 → Option Int32
  | 0, _, _, _ => none
  | n + 1, ba0, bx1, bx2 =>
    (g_i G ba0 8 0).bind fun v6 =>
    if v6 ≤ bx2 then
    some bx1
    else
    (g_ob G ba0 8).bind fun u15 =>
    (f_X8_isReadable G ba0 bx2).bind fun v15 =>
    (f_X9_oneIf G v15).bind fun v18 =>
    f_X8_filesReadable_L4 G n ba0 (bx1 + v18) (bx2 + (1 : Int32))
def f_X8_filesReadable (G : gH) (a0 : Nat) : Option Int32 :=
    f_X8_filesReadable_L4 G g_N a0 (0 : Int32) (0 : Int32)
def f_X0_mainBlocksOf (G : gH) (a0 : Nat) (x1 : Int32) : Option Int32 :=
    (g_i G a0 0 1).bind fun v4 =>
    (g_ob G a0 0).bind fun u7 =>
    (f_X0_blocksOf G a0 x1 (0 : Int32) v4).bind fun v7 =>
    some v7
def f_X0_spareBlocksOf (G : gH) (a0 : Nat) (x1 : Int32) : Option Int32 :=
    (g_i G a0 0 1).bind fun v3 =>
    (g_i G a0 0 0).bind fun v7 =>
    (g_ob G a0 0).bind fun u10 =>
    (f_X0_blocksOf G a0 x1 v3 v7).bind fun v10 =>
    some v10
def f_X0_writeNext_J67 (G : gH) (ba0 : Nat) (bx1 : Int32) (bx2 : Int32) (bx3 : Int32) (bx4 : Int32) (bx5 : Int32) (bx6 : Int32) : Option gH :=
    (g_r G ba0 0 10).bind fun v68 =>
    (f_X9_put G v68 bx5 bx6).bind fun G75 =>
    (g_r G75 ba0 0 3).bind fun v79 =>
    (f_X9_put G75 v79 bx6 bx1).bind fun G85 =>
    (g_r G85 ba0 0 6).bind fun v89 =>
    (f_X9_put G85 v89 bx6 bx2).bind fun G95 =>
    (g_r G95 ba0 0 7).bind fun v99 =>
    (f_X9_put G95 v99 bx6 bx3).bind fun G105 =>
    (g_r G105 ba0 0 8).bind fun v109 =>
    (f_X9_put G105 v109 bx6 bx4).bind fun G116 =>
    some G116
def f_X0_writeNext (G : gH) (a0 : Nat) (x1 : Int32) (x2 : Int32) (x3 : Int32) (x4 : Int32) : Option gH :=
    (g_i G a0 0 2).bind fun v1 =>
    (g_i G a0 0 2).bind fun v8 =>
    (g_put G a0 0 2 (.int (v8 + (1 : Int32)))).bind fun G13 =>
    (g_ob G13 a0 0).bind fun u23 =>
    (f_X0_isBad G13 a0 v1).bind fun v23 =>
    if v23 = 0 then
    f_X0_writeNext_J67 G13 a0 x1 x2 x3 x4 v1 v1
    else
    (g_r G13 a0 0 3).bind fun v30 =>
    (f_X9_put G13 v30 v1 (3 : Int32)).bind fun G36 =>
    (g_r G36 a0 0 6).bind fun v40 =>
    (f_X9_put G36 v40 v1 x2).bind fun G46 =>
    (g_ob G46 a0 0).bind fun u51 =>
    (f_X0_takeSpare G46 a0 x2).bind fun q51 =>
    (g_r q51.1 a0 0 9).bind fun v57 =>
    (f_X9_put q51.1 v57 q51.2 v1).bind fun G64 =>
    f_X0_writeNext_J67 G64 a0 x1 x2 x3 x4 v1 q51.2
def f_X1_takeFrom (G : gH) (a0 : Nat) (a1 : Nat) : Option gH :=
    (g_r G a0 1 0).bind fun v1 =>
    (g_r G a1 1 0).bind fun v5 =>
    (g_ob G v1 0).bind fun u8 =>
    (f_X0_takeFrom G v1 v5).bind fun G8 =>
    (g_r G8 a0 1 1).bind fun v12 =>
    (g_r G8 a1 1 1).bind fun v16 =>
    (g_ob G8 v12 7).bind fun u19 =>
    (f_X7_takeFrom G8 v12 v16).bind fun G19 =>
    (g_r G19 a0 1 2).bind fun v23 =>
    (g_r G19 a1 1 2).bind fun v27 =>
    (g_ob G19 v23 5).bind fun u30 =>
    (f_X5_takeFrom G19 v23 v27).bind fun G30 =>
    (g_i G30 a1 1 3).bind fun v35 =>
    (g_put G30 a0 1 3 (.int v35)).bind fun G38 =>
    (g_r G38 a1 1 4).bind fun v42 =>
    (g_r G38 a0 1 4).bind fun v46 =>
    (f_X9_copy__ G38 v42 v46).bind fun G49 =>
    (g_i G49 a1 1 5).bind fun v54 =>
    (g_z v54).bind fun w57 =>
    (g_put G49 a0 1 5 (.int w57)).bind fun G57 =>
    some G57
def f_X1_canReadVersion (G : gH) (a0 : Nat) (x1 : Int32) : Option Int32 :=
    (g_r G a0 1 0).bind fun v1 =>
    (g_r G a0 1 1).bind fun v5 =>
    (g_ob G v5 7).bind fun u9 =>
    (f_X7_firstOf G v5 x1).bind fun v9 =>
    (g_r G a0 1 1).bind fun v13 =>
    (g_ob G v13 7).bind fun u17 =>
    (f_X7_lengthOf G v13 x1).bind fun v17 =>
    (g_ob G v1 0).bind fun u20 =>
    (f_X0_canRead G v1 v9 v17).bind fun v20 =>
    g_z v20
def f_X1_relocatedBlock_L4 (G : gH) : Nat → Nat → Int32 → Int32 → Int32 → Option Int32
  | 0, _, _, _, _ => none
  | n + 1, ba0, bx1, bx2, bx3 =>
    if bx1 < 0 then
    some (-1 : Int32)
    else
    (g_r G ba0 1 0).bind fun v10 =>
    (g_i G v10 0 1).bind fun v13 =>
    if v13 ≤ bx3 then
    some (-1 : Int32)
    else
    (g_r G ba0 1 0).bind fun v20 =>
    (g_ob G v20 0).bind fun u24 =>
    (f_X0_kindOf G v20 bx3).bind fun v24 =>
    if v24 = (3 : Int32) then
    (g_r G ba0 1 2).bind fun v32 =>
    (g_r G ba0 1 0).bind fun v36 =>
    (g_ob G v36 0).bind fun u40 =>
    (f_X0_writerOf G v36 bx3).bind fun v40 =>
    (g_ob G v32 5).bind fun u43 =>
    (f_X5_stateOf G v32 v40).bind fun v43 =>
    if v43 = (2 : Int32) then
    f_X1_relocatedBlock_L4 G n ba0 bx1 bx2 (bx3 + (1 : Int32))
    else
    if bx2 = bx1 then
    some bx3
    else
    f_X1_relocatedBlock_L4 G n ba0 bx1 (bx2 + (1 : Int32)) (bx3 + (1 : Int32))
    else
    f_X1_relocatedBlock_L4 G n ba0 bx1 bx2 (bx3 + (1 : Int32))
def f_X1_relocatedBlock (G : gH) (a0 : Nat) (x1 : Int32) : Option Int32 :=
    f_X1_relocatedBlock_L4 G g_N a0 x1 (0 : Int32) (0 : Int32)
def f_X1_useOf_J46 (G : gH) (ba0 : Nat) (bx1 : Int32) (ba2 : Nat) : Option Int32 :=
    (g_r G ba0 1 0).bind fun v47 =>
    (g_ob G v47 0).bind fun u51 =>
    (f_X0_dataVersionOf G v47 bx1).bind fun v51 =>
    (g_r G ba0 1 1).bind fun v57 =>
    (g_ob G v57 7).bind fun u61 =>
    (f_X7_fileOf G v57 v51).bind fun v61 =>
    (g_ob G ba2 8).bind fun u64 =>
    (f_X8_versionOf G ba2 v61).bind fun v64 =>
    if v64 = v51 then
    some (1 : Int32)
    else
    some (2 : Int32)
def f_X1_useOf (G : gH) (a0 : Nat) (x1 : Int32) (a2 : Nat) : Option Int32 :=
    (g_r G a0 1 0).bind fun v1 =>
    (g_ob G v1 0).bind fun u5 =>
    (f_X0_kindOf G v1 x1).bind fun v5 =>
    if v5 = (0 : Int32) then
    some (0 : Int32)
    else
    if v5 = (1 : Int32) then
    f_X1_useOf_J46 G a0 x1 a2
    else
    if v5 = (2 : Int32) then
    some (3 : Int32)
    else
    if v5 = (3 : Int32) then
    some (4 : Int32)
    else
    f_X1_useOf_J46 G a0 x1 a2
def f_X1_closeSession_L31 : Nat → gH → Nat → Int32 → Int32 → Int32 → Int32 → Option (gH × Int32)
  | 0, _, _, _, _, _, _ => none
  | n + 1, G, ba0, bx1, bx2, bx3, bx4 =>
    if bx3 ≤ bx4 then
    (g_r G ba0 1 2).bind fun v56 =>
    (g_ob G v56 5).bind fun u61 =>
    (f_X5_markClosed G v56 bx2 bx3).bind fun G61 =>
    some (G61, bx1)
    else
    (g_r G ba0 1 0).bind fun v38 =>
    (g_ob G v38 0).bind fun u46 =>
    (f_X0_writeNext G v38 (2 : Int32) bx1 (-1 : Int32) bx4).bind fun G46 =>
    f_X1_closeSession_L31 n G46 ba0 bx1 bx2 bx3 (bx4 + (1 : Int32))
def f_X1_closeSession (G : gH) (a0 : Nat) : Option (gH × Int32) :=
    (g_r G a0 1 2).bind fun v1 =>
    (g_ob G v1 5).bind fun u4 =>
    (f_X5_latest G v1).bind fun v4 =>
    (g_r G a0 1 0).bind fun v9 =>
    (g_i G v9 0 2).bind fun v12 =>
    (g_r G a0 1 2).bind fun v17 =>
    (g_ob G v17 5).bind fun u21 =>
    (f_X5_entriesOf G v17 v4).bind fun v21 =>
    (f_X9_directoryLength G v21).bind fun v24 =>
    f_X1_closeSession_L31 g_N G a0 v4 v12 v24 (0 : Int32)
def f_X1_loseSession (G : gH) (a0 : Nat) : Option (gH × Int32) :=
    (g_r G a0 1 2).bind fun v1 =>
    (g_ob G v1 5).bind fun u4 =>
    (f_X5_markLost G v1).bind fun G4 =>
    (g_r G4 a0 1 0).bind fun v8 =>
    (g_r G4 a0 1 2).bind fun v12 =>
    (g_ob G4 v12 5).bind fun u15 =>
    (f_X5_latest G4 v12).bind fun v15 =>
    (g_ob G4 v8 0).bind fun u18 =>
    (f_X0_mainBlocksOf G4 v8 v15).bind fun v18 =>
    some (G4, v18)
def f_X1_recoverableVersionOf_J43 (G : gH) (k10 : Nat → Int32 → Int32 → Int32 → Option Int32) (ba0 : Nat) (bx1 : Int32) (bx2 : Int32) (bx3 : Int32) (z0 : Int32) : Option Int32 :=
    if z0 = 0 then
    k10 ba0 bx1 bx2 (bx3 + (-1 : Int32))
    else
    (g_ob G ba0 1).bind fun u52 =>
    (f_X1_canReadVersion G ba0 bx3).bind fun v52 =>
    if v52 = 0 then
    k10 ba0 bx1 bx2 (bx3 + (-1 : Int32))
    else
    some bx3
def f_X1_recoverableVersionOf_L10 (G : gH) : Nat → Nat → Int32 → Int32 → Int32 → Option Int32
  | 0, _, _, _, _ => none
  | n + 1, ba0, bx1, bx2, bx3 =>
    if bx3 < 0 then
    some (-1 : Int32)
    else
    (g_r G ba0 1 1).bind fun v15 =>
    (g_ob G v15 7).bind fun u19 =>
    (f_X7_fileOf G v15 bx3).bind fun v19 =>
    if v19 = bx1 then
    (g_r G ba0 1 1).bind fun v27 =>
    (g_ob G v27 7).bind fun u31 =>
    (f_X7_writerOf G v27 bx3).bind fun v31 =>
    if v31 = bx2 then
    f_X1_recoverableVersionOf_J43 G (f_X1_recoverableVersionOf_L10 G n) ba0 bx1 bx2 bx3 (1 : Int32)
    else
    f_X1_recoverableVersionOf_J43 G (f_X1_recoverableVersionOf_L10 G n) ba0 bx1 bx2 bx3 (0 : Int32)
    else
    f_X1_recoverableVersionOf_J43 G (f_X1_recoverableVersionOf_L10 G n) ba0 bx1 bx2 bx3 (0 : Int32)
def f_X1_recoverableVersionOf (G : gH) (a0 : Nat) (x1 : Int32) (x2 : Int32) : Option Int32 :=
    (g_r G a0 1 1).bind fun v1 =>
    (g_i G v1 7 0).bind fun v4 =>
    f_X1_recoverableVersionOf_L10 G g_N a0 x1 x2 (v4 - (1 : Int32))
def f_X11_read_J75 (k15 : gH → Nat → Nat → Int32 → Int32 → Option gH) (G : gH) (ba0 : Nat) (ba1 : Nat) (bx4 : Int32) (bx5 : Int32) : Option gH :=
    if bx5 = (1 : Int32) then
    (g_ob G ba1 3).bind fun u85 =>
    (f_X3_byteAt G ba1 bx4).bind fun v85 =>
    (g_ob G ba0 11).bind fun u90 =>
    (f_X11_takeLetter G ba0 v85 bx4).bind fun G90 =>
    k15 G90 ba0 ba1 bx5 (bx4 + (1 : Int32))
    else
    if bx5 = (2 : Int32) then
    (g_ob G ba1 3).bind fun u106 =>
    (f_X3_byteAt G ba1 bx4).bind fun v106 =>
    (g_ob G ba0 11).bind fun u111 =>
    (f_X11_takeDigit G ba0 v106 bx4).bind fun G111 =>
    k15 G111 ba0 ba1 bx5 (bx4 + (1 : Int32))
    else
    k15 G ba0 ba1 bx5 (bx4 + (1 : Int32))
def f_X11_read_J55 (k15 : gH → Nat → Nat → Int32 → Int32 → Option gH) (G : gH) (ba0 : Nat) (ba1 : Nat) (bx4 : Int32) (bx5 : Int32) (z0 : Int32) : Option gH :=
    if bx5 = 0 then
    f_X11_read_J75 k15 G ba0 ba1 bx4 bx5
    else
    if z0 = 0 then
    (g_ob G ba0 11).bind fun u72 =>
    (f_X11_begin G ba0 bx5 bx4).bind fun G72 =>
    f_X11_read_J75 k15 G72 ba0 ba1 bx4 bx5
    else
    f_X11_read_J75 k15 G ba0 ba1 bx4 bx5
def f_X11_read_L15 : Nat → gH → Nat → Nat → Int32 → Int32 → Option gH
  | 0, _, _, _, _, _ => none
  | n + 1, G, ba0, ba1, bx3, bx4 =>
    (g_i G ba0 11 1).bind fun v18 =>
    if v18 ≤ bx4 then
    some G
    else
    (g_ob G ba1 3).bind fun u27 =>
    (f_X3_kindAt G ba1 bx4).bind fun v27 =>
    if v27 = bx3 then
    if v27 = (1 : Int32) then
    f_X11_read_J55 (f_X11_read_L15 n) G ba0 ba1 bx4 v27 (1 : Int32)
    else
    if v27 = (2 : Int32) then
    f_X11_read_J55 (f_X11_read_L15 n) G ba0 ba1 bx4 v27 (1 : Int32)
    else
    f_X11_read_J55 (f_X11_read_L15 n) G ba0 ba1 bx4 v27 (0 : Int32)
    else
    f_X11_read_J55 (f_X11_read_L15 n) G ba0 ba1 bx4 v27 (0 : Int32)
def f_X11_read (G : gH) (a0 : Nat) (a1 : Nat) (x2 : Int32) : Option gH :=
    (g_put G a0 11 1 (.int x2)).bind fun G2 =>
    (g_put G2 a0 11 0 (.int (0 : Int32))).bind fun G7 =>
    f_X11_read_L15 g_N G7 a0 a1 (0 : Int32) (0 : Int32)
def f_X3_addBytes (G : gH) (a0 : Nat) (x1 : Int32) : Option gH :=
    (g_ob G a0 3).bind fun u5 =>
    (f_X3_addByte G a0 ((x1.toUInt32 >>> ((24 : Int32).toUInt32 &&& Int32.toUInt32 31)).toInt32)).bind fun G5 =>
    (g_ob G5 a0 3).bind fun u13 =>
    (f_X3_addByte G5 a0 ((x1.toUInt32 >>> ((16 : Int32).toUInt32 &&& Int32.toUInt32 31)).toInt32)).bind fun G13 =>
    (g_ob G13 a0 3).bind fun u21 =>
    (f_X3_addByte G13 a0 ((x1.toUInt32 >>> ((8 : Int32).toUInt32 &&& Int32.toUInt32 31)).toInt32)).bind fun G21 =>
    (g_ob G21 a0 3).bind fun u26 =>
    (f_X3_addByte G21 a0 x1).bind fun G26 =>
    some G26
def f_X4_readHead (G : gH) (a0 : Nat) : Option (gH × Int32) :=
    (g_ob G a0 4).bind fun u3 =>
    (f_X4_isWord G a0 0).bind fun v3 =>
    if v3 = 0 then
    (g_ob G a0 4).bind fun u11 =>
    (f_X4_fail G a0 (1 : Int32)).bind fun q11 =>
    (g_z q11.2).bind fun w14 => some (q11.1, w14)
    else
    (g_ob G a0 4).bind fun u20 =>
    (f_X4_readNumber G a0 (8 : Int32) (96 : Int32)).bind fun q20 =>
    if q20.2 = 0 then
    some (q20.1, (0 : Int32))
    else
    (g_r q20.1 a0 4 13).bind fun v30 =>
    (g_i q20.1 a0 4 14).bind fun v34 =>
    (g_ob q20.1 v30 11).bind fun u37 =>
    (f_X11_numberOf q20.1 v30 v34).bind fun v37 =>
    (g_put q20.1 a0 4 2 (.int v37)).bind fun G40 =>
    (g_i G40 a0 4 2).bind fun v48 =>
    (g_ob G40 a0 4).bind fun u56 =>
    (f_X4_readNumber G40 a0 (0 : Int32) (if (v48 / (2 : Int32)) < (16 : Int32) then (v48 / (2 : Int32)) else (16 : Int32))).bind fun q56 =>
    if q56.2 = 0 then
    some (q56.1, (0 : Int32))
    else
    (g_r q56.1 a0 4 13).bind fun v66 =>
    (g_i q56.1 a0 4 14).bind fun v70 =>
    (g_ob q56.1 v66 11).bind fun u73 =>
    (f_X11_numberOf q56.1 v66 v70).bind fun v73 =>
    (g_put q56.1 a0 4 3 (.int v73)).bind fun G76 =>
    (g_ob G76 a0 4).bind fun u80 =>
    (f_X4_readSemicolon G76 a0).bind fun q80 =>
    (g_z q80.2).bind fun w83 => some (q80.1, w83)
def f_X4_readBad (G : gH) (a0 : Nat) : Option (gH × Int32) :=
    (g_r G a0 4 13).bind fun v1 =>
    (g_i G a0 4 14).bind fun v5 =>
    (g_ob G v1 11).bind fun u8 =>
    (f_X11_startOf G v1 v5).bind fun v8 =>
    (g_i G a0 4 2).bind fun v15 =>
    (g_ob G a0 4).bind fun u20 =>
    (f_X4_readNumber G a0 (0 : Int32) (v15 - (1 : Int32))).bind fun q20 =>
    if q20.2 = 0 then
    some (q20.1, (0 : Int32))
    else
    (g_r q20.1 a0 4 13).bind fun v29 =>
    (g_i q20.1 a0 4 14).bind fun v33 =>
    (g_ob q20.1 v29 11).bind fun u36 =>
    (f_X11_numberOf q20.1 v29 v33).bind fun v36 =>
    (g_r q20.1 a0 4 12).bind fun v41 =>
    (f_X9_isSet q20.1 v41 v36).bind fun v45 =>
    if v45 = 0 then
    (g_r q20.1 a0 4 12).bind fun v58 =>
    (f_X9_mark q20.1 v58 v36 (1 : Int32)).bind fun G63 =>
    (g_ob G63 a0 4).bind fun u70 =>
    (f_X4_add G63 a0 (0 : Int32) v8 v36).bind fun q70 =>
    (g_z q70.2).bind fun w73 => some (q70.1, w73)
    else
    (g_ob q20.1 a0 4).bind fun u53 =>
    (f_X4_fail q20.1 a0 (2 : Int32)).bind fun q53 =>
    (g_z q53.2).bind fun w56 => some (q53.1, w56)
def f_X4_readWrite (G : gH) (a0 : Nat) : Option (gH × Int32) :=
    (g_r G a0 4 13).bind fun v1 =>
    (g_i G a0 4 14).bind fun v5 =>
    (g_ob G v1 11).bind fun u8 =>
    (f_X11_startOf G v1 v5).bind fun v8 =>
    (g_ob G a0 4).bind fun u13 =>
    (f_X4_readFile G a0).bind fun q13 =>
    if q13.2 = (-1 : Int32) then
    some (q13.1, (0 : Int32))
    else
    (g_ob q13.1 a0 4).bind fun u26 =>
    (f_X4_readNumber q13.1 a0 (1 : Int32) (8 : Int32)).bind fun q26 =>
    if q26.2 = 0 then
    some (q26.1, (0 : Int32))
    else
    (g_r q26.1 a0 4 13).bind fun v35 =>
    (g_i q26.1 a0 4 14).bind fun v39 =>
    (g_ob q26.1 v35 11).bind fun u42 =>
    (f_X11_numberOf q26.1 v35 v39).bind fun v42 =>
    (g_ob q26.1 a0 4).bind fun u51 =>
    (f_X4_readNumber q26.1 a0 (0 : Int32) (999 : Int32)).bind fun q51 =>
    if q51.2 = 0 then
    some (q51.1, (0 : Int32))
    else
    (g_r q51.1 a0 4 10).bind fun v60 =>
    (g_i q51.1 a0 4 6).bind fun v64 =>
    (f_X9_put q51.1 v60 v64 v42).bind fun G68 =>
    (g_r G68 a0 4 11).bind fun v72 =>
    (g_i G68 a0 4 6).bind fun v76 =>
    (g_r G68 a0 4 13).bind fun v80 =>
    (g_i G68 a0 4 14).bind fun v84 =>
    (g_ob G68 v80 11).bind fun u87 =>
    (f_X11_numberOf G68 v80 v84).bind fun v87 =>
    (f_X9_put G68 v72 v76 v87).bind fun G90 =>
    (g_ob G90 a0 4).bind fun u97 =>
    (f_X4_add G90 a0 (1 : Int32) v8 q13.2).bind fun q97 =>
    (g_z q97.2).bind fun w100 => some (q97.1, w100)
def f_X4_readErase (G : gH) (a0 : Nat) : Option (gH × Int32) :=
    (g_r G a0 4 13).bind fun v1 =>
    (g_i G a0 4 14).bind fun v5 =>
    (g_ob G v1 11).bind fun u8 =>
    (f_X11_startOf G v1 v5).bind fun v8 =>
    (g_ob G a0 4).bind fun u13 =>
    (f_X4_readFile G a0).bind fun q13 =>
    if q13.2 = (-1 : Int32) then
    some (q13.1, (0 : Int32))
    else
    (g_ob q13.1 a0 4).bind fun u26 =>
    (f_X4_add q13.1 a0 (2 : Int32) v8 q13.2).bind fun q26 =>
    if q26.2 = 0 then
    some (q26.1, (0 : Int32))
    else
    some (q26.1, (1 : Int32))
def f_X5_isOpen (G : gH) (a0 : Nat) : Option Int32 :=
    (g_ob G a0 5).bind fun u2 =>
    (f_X5_latest G a0).bind fun v2 =>
    (g_ob G a0 5).bind fun u5 =>
    (f_X5_stateOf G a0 v2).bind fun v5 =>
    if v5 = 0 then
    some (1 : Int32)
    else
    some (0 : Int32)
def f_X5_latestIsLost (G : gH) (a0 : Nat) : Option Int32 :=
    (g_ob G a0 5).bind fun u2 =>
    (f_X5_latest G a0).bind fun v2 =>
    (g_ob G a0 5).bind fun u5 =>
    (f_X5_stateOf G a0 v2).bind fun v5 =>
    if v5 = (2 : Int32) then
    some (1 : Int32)
    else
    some (0 : Int32)
def f_X5_oneMoreIsTooMany (G : gH) (a0 : Nat) : Option Int32 :=
    (g_ob G a0 5).bind fun u1 =>
    (f_X5_isOpen G a0).bind fun v1 =>
    if v1 = 0 then
    (g_i G a0 5 0).bind fun v8 =>
    if v8 < (12 : Int32) then
    some (0 : Int32)
    else
    some (1 : Int32)
    else
    some (0 : Int32)
def f_X5_begin (G : gH) (a0 : Nat) (x1 : Int32) : Option gH :=
    (g_i G a0 5 0).bind fun v1 =>
    (g_i G a0 5 0).bind fun v7 =>
    (g_put G a0 5 0 (.int (v7 + (1 : Int32)))).bind fun G12 =>
    (g_r G12 a0 5 1).bind fun v16 =>
    (f_X9_put G12 v16 v1 (0 : Int32)).bind fun G21 =>
    (g_r G21 a0 5 2).bind fun v25 =>
    (f_X9_put G21 v25 v1 x1).bind fun G30 =>
    (g_r G30 a0 5 3).bind fun v34 =>
    (f_X9_put G30 v34 v1 (-1 : Int32)).bind fun G39 =>
    (g_r G39 a0 5 4).bind fun v43 =>
    (f_X9_put G39 v43 v1 (0 : Int32)).bind fun G48 =>
    (g_ob G48 a0 5).bind fun u53 =>
    (f_X5_forgetEntries G48 a0 v1).bind fun G53 =>
    some G53
def f_X5_entriesWith (G : gH) (a0 : Nat) (x1 : Int32) : Option Int32 :=
    (g_ob G a0 5).bind fun u1 =>
    (f_X5_isOpen G a0).bind fun v1 =>
    if v1 = 0 then
    some (1 : Int32)
    else
    (g_ob G a0 5).bind fun u11 =>
    (f_X5_latest G a0).bind fun v11 =>
    (g_ob G a0 5).bind fun u14 =>
    (f_X5_entriesOf G a0 v11).bind fun v14 =>
    (g_ob G a0 5).bind fun u19 =>
    (f_X5_latest G a0).bind fun v19 =>
    (g_ob G a0 5).bind fun u23 =>
    (f_X5_hasEntry G a0 v19 x1).bind fun v23 =>
    if v23 = 0 then
    (f_X9_oneIf G (1 : Int32)).bind fun v34 =>
    some (v14 + v34)
    else
    (f_X9_oneIf G (0 : Int32)).bind fun v34 =>
    some (v14 + v34)
def f_X8_sessionThatCounts_L5 (G : gH) : Nat → Nat → Nat → Int32 → Int32 → Option Int32
  | 0, _, _, _, _ => none
  | n + 1, ba0, ba1, bx2, bx4 =>
    if bx4 < 0 then
    some (-1 : Int32)
    else
    (g_ob G ba0 8).bind fun u13 =>
    (f_X8_isReached G ba0 bx4).bind fun v13 =>
    if v13 = 0 then
    f_X8_sessionThatCounts_L5 G n ba0 ba1 bx2 (bx4 + (-1 : Int32))
    else
    (g_ob G ba1 5).bind fun u23 =>
    (f_X5_hasEntry G ba1 bx4 bx2).bind fun v23 =>
    if v23 = 0 then
    f_X8_sessionThatCounts_L5 G n ba0 ba1 bx2 (bx4 + (-1 : Int32))
    else
    some bx4
def f_X8_sessionThatCounts (G : gH) (a0 : Nat) (a1 : Nat) (x2 : Int32) (x3 : Int32) : Option Int32 :=
    f_X8_sessionThatCounts_L5 G g_N a0 a1 x2 (x3 - (1 : Int32))
def f_X8_filesThereBefore_L5 (G : gH) : Nat → Nat → Nat → Int32 → Int32 → Int32 → Option Int32
  | 0, _, _, _, _, _ => none
  | n + 1, ba0, ba1, bx2, bx3, bx4 =>
    (g_i G ba0 8 0).bind fun v8 =>
    if v8 ≤ bx4 then
    some bx3
    else
    (g_ob G ba0 8).bind fun u21 =>
    (f_X8_sessionThatCounts G ba0 ba1 bx4 bx2).bind fun v21 =>
    (g_ob G ba1 5).bind fun u26 =>
    (f_X5_versionFor G ba1 v21 bx4).bind fun v26 =>
    if v26 = (-1 : Int32) then
    (f_X9_oneIf G (0 : Int32)).bind fun v38 =>
    f_X8_filesThereBefore_L5 G n ba0 ba1 bx2 (bx3 + v38) (bx4 + (1 : Int32))
    else
    (f_X9_oneIf G (1 : Int32)).bind fun v38 =>
    f_X8_filesThereBefore_L5 G n ba0 ba1 bx2 (bx3 + v38) (bx4 + (1 : Int32))
def f_X8_filesThereBefore (G : gH) (a0 : Nat) (a1 : Nat) (x2 : Int32) : Option Int32 :=
    f_X8_filesThereBefore_L5 G g_N a0 a1 x2 (0 : Int32) (0 : Int32)
def f_X9_append (G : gH) (a0 : Nat) (x1 : Int32) (x2 : Int32) (x3 : Int32) (x4 : Int32) (x5 : Int32) : Option (gH × Int32) :=
    (g_r G a0 9 0).bind fun v1 =>
    (g_ob G v1 3).bind fun u6 =>
    (f_X3_hasRoom G v1 (20 : Int32)).bind fun v6 =>
    if v6 = 0 then
    some (G, (-1 : Int32))
    else
    (g_r G a0 9 0).bind fun v15 =>
    (g_ob G v15 3).bind fun u19 =>
    (f_X3_addBytes G v15 x1).bind fun G19 =>
    (g_r G19 a0 9 0).bind fun v23 =>
    (g_ob G19 v23 3).bind fun u27 =>
    (f_X3_addBytes G19 v23 x2).bind fun G27 =>
    (g_r G27 a0 9 0).bind fun v31 =>
    (g_ob G27 v31 3).bind fun u35 =>
    (f_X3_addBytes G27 v31 x3).bind fun G35 =>
    (g_r G35 a0 9 0).bind fun v39 =>
    (g_ob G35 v39 3).bind fun u44 =>
    (f_X3_addBytes G35 v39 x4).bind fun G44 =>
    (g_r G44 a0 9 0).bind fun v48 =>
    (g_ob G44 v48 3).bind fun u53 =>
    (f_X3_addBytes G44 v48 x5).bind fun G53 =>
    (g_r G53 a0 9 0).bind fun v57 =>
    (g_i G53 v57 3 1).bind fun v60 =>
    some (G53, v60)
def f_X9_defect (G : gH) (a0 : Nat) (x1 : Int32) (x2 : Int32) : Option Int32 :=
    (g_r G a0 9 5).bind fun v1 =>
    (g_ob G v1 1).bind fun u5 =>
    (f_X1_relocatedBlock G v1 x1).bind fun v5 =>
    if v5 = (-1 : Int32) then
    some v5
    else
    if x2 = 0 then
    some v5
    else
    (g_r G a0 9 5).bind fun v21 =>
    (g_r G v21 1 0).bind fun v24 =>
    (g_ob G v24 0).bind fun u28 =>
    (f_X0_placeOf G v24 v5).bind fun v28 =>
    some v28
def f_X1_reasonAgainstWrite (G : gH) (a0 : Nat) (x1 : Int32) (x2 : Int32) : Option Int32 :=
    (g_r G a0 1 2).bind fun v1 =>
    (g_ob G v1 5).bind fun u4 =>
    (f_X5_oneMoreIsTooMany G v1).bind fun v4 =>
    if v4 = 0 then
    (g_r G a0 1 0).bind fun v13 =>
    (g_r G a0 1 2).bind fun v18 =>
    (g_ob G v18 5).bind fun u22 =>
    (f_X5_entriesWith G v18 x1).bind fun v22 =>
    (f_X9_directoryLength G v22).bind fun v25 =>
    (g_ob G v13 0).bind fun u29 =>
    (f_X0_hasRoomFor G v13 (x2 + v25)).bind fun v29 =>
    if v29 = 0 then
    some (4 : Int32)
    else
    (g_r G a0 1 0).bind fun v38 =>
    (g_ob G v38 0).bind fun u42 =>
    (f_X0_canRelocate G v38 x2).bind fun v42 =>
    if v42 = 0 then
    some (5 : Int32)
    else
    some (0 : Int32)
    else
    some (3 : Int32)
def f_X1_reasonAgainstClose (G : gH) (a0 : Nat) : Option Int32 :=
    (g_r G a0 1 2).bind fun v1 =>
    (g_ob G v1 5).bind fun u4 =>
    (f_X5_isOpen G v1).bind fun v4 =>
    if v4 = 0 then
    some (1 : Int32)
    else
    (g_r G a0 1 2).bind fun v14 =>
    (g_r G a0 1 2).bind fun v18 =>
    (g_ob G v18 5).bind fun u21 =>
    (f_X5_latest G v18).bind fun v21 =>
    (g_ob G v14 5).bind fun u24 =>
    (f_X5_entriesOf G v14 v21).bind fun v24 =>
    (g_ob G a0 1).bind fun u27 =>
    (f_X1_reasonAgainstDirectory G a0 v24).bind fun v27 =>
    some v27
def f_X1_reasonAgainstCrash (G : gH) (a0 : Nat) : Option Int32 :=
    (g_r G a0 1 2).bind fun v1 =>
    (g_ob G v1 5).bind fun u4 =>
    (f_X5_isOpen G v1).bind fun v4 =>
    if v4 = 0 then
    some (1 : Int32)
    else
    some (0 : Int32)
def f_X1_beginIfNeeded (G : gH) (a0 : Nat) : Option gH :=
    (g_r G a0 1 2).bind fun v1 =>
    (g_ob G v1 5).bind fun u4 =>
    (f_X5_isOpen G v1).bind fun v4 =>
    if v4 = 0 then
    (g_r G a0 1 2).bind fun v11 =>
    (g_r G a0 1 0).bind fun v15 =>
    (g_i G v15 0 2).bind fun v18 =>
    (g_ob G v11 5).bind fun u21 =>
    (f_X5_begin G v11 v18).bind fun G21 =>
    some G21
    else
    some G
def f_X1_recoverSession_L31 : Nat → gH → Nat → Int32 → Int32 → Option (gH × Int32)
  | 0, _, _, _, _ => none
  | n + 1, G, ba0, bx1, bx2 =>
    (g_r G ba0 1 1).bind fun v33 =>
    (g_i G v33 7 0).bind fun v36 =>
    if v36 ≤ bx2 then
    (g_ob G ba0 1).bind fun u77 =>
    (f_X1_closeSession G ba0).bind fun q77 =>
    (g_r q77.1 ba0 1 2).bind fun v82 =>
    (g_r q77.1 ba0 1 2).bind fun v86 =>
    (g_ob q77.1 v86 5).bind fun u89 =>
    (f_X5_latest q77.1 v86).bind fun v89 =>
    (g_ob q77.1 v82 5).bind fun u92 =>
    (f_X5_entriesOf q77.1 v82 v89).bind fun v92 =>
    some (q77.1, v92)
    else
    (g_r G ba0 1 1).bind fun v43 =>
    (g_ob G v43 7).bind fun u47 =>
    (f_X7_fileOf G v43 bx2).bind fun v47 =>
    (g_ob G ba0 1).bind fun u54 =>
    (f_X1_recoverableVersionOf G ba0 v47 bx1).bind fun v54 =>
    if v54 = bx2 then
    (g_r G ba0 1 2).bind fun v62 =>
    (g_ob G v62 5).bind fun u67 =>
    (f_X5_enter G v62 v47 bx2).bind fun G67 =>
    f_X1_recoverSession_L31 n G67 ba0 bx1 (bx2 + (1 : Int32))
    else
    f_X1_recoverSession_L31 n G ba0 bx1 (bx2 + (1 : Int32))
def f_X1_recoverSession (G : gH) (a0 : Nat) : Option (gH × Int32) :=
    (g_r G a0 1 2).bind fun v1 =>
    (g_ob G v1 5).bind fun u4 =>
    (f_X5_latest G v1).bind fun v4 =>
    (g_r G a0 1 2).bind fun v9 =>
    (g_ob G v9 5).bind fun u12 =>
    (f_X5_markRecovered G v9).bind fun G12 =>
    (g_r G12 a0 1 2).bind fun v16 =>
    (g_r G12 a0 1 0).bind fun v20 =>
    (g_i G12 v20 0 2).bind fun v23 =>
    (g_ob G12 v16 5).bind fun u26 =>
    (f_X5_begin G12 v16 v23).bind fun G26 =>
    f_X1_recoverSession_L31 g_N G26 a0 v4 (0 : Int32)
def f_X1_recoverableVersions_L4 (G : gH) : Nat → Nat → Int32 → Int32 → Option Int32
  | 0, _, _, _ => none
  | n + 1, ba0, bx1, bx2 =>
    (g_r G ba0 1 2).bind fun v5 =>
    (g_ob G v5 5).bind fun u8 =>
    (f_X5_latestIsLost G v5).bind fun v8 =>
    if v8 = 0 then
    some bx1
    else
    (g_i G ba0 1 3).bind fun v16 =>
    if v16 ≤ bx2 then
    some bx1
    else
    (g_r G ba0 1 2).bind fun v26 =>
    (g_ob G v26 5).bind fun u29 =>
    (f_X5_latest G v26).bind fun v29 =>
    (g_ob G ba0 1).bind fun u32 =>
    (f_X1_recoverableVersionOf G ba0 bx2 v29).bind fun v32 =>
    if v32 = (-1 : Int32) then
    (f_X9_oneIf G (0 : Int32)).bind fun v44 =>
    f_X1_recoverableVersions_L4 G n ba0 (bx1 + v44) (bx2 + (1 : Int32))
    else
    (f_X9_oneIf G (1 : Int32)).bind fun v44 =>
    f_X1_recoverableVersions_L4 G n ba0 (bx1 + v44) (bx2 + (1 : Int32))
def f_X1_recoverableVersions (G : gH) (a0 : Nat) : Option Int32 :=
    f_X1_recoverableVersions_L4 G g_N a0 (0 : Int32) (0 : Int32)
def f_X4_readStatement (G : gH) (a0 : Nat) : Option (gH × Int32) :=
    (g_ob G a0 4).bind fun u3 =>
    (f_X4_isWord G a0 1).bind fun v3 =>
    if v3 = 0 then
    (g_ob G a0 4).bind fun u17 =>
    (f_X4_isWord G a0 2).bind fun v17 =>
    if v17 = 0 then
    (g_ob G a0 4).bind fun u31 =>
    (f_X4_isWord G a0 3).bind fun v31 =>
    if v31 = 0 then
    (g_ob G a0 4).bind fun u45 =>
    (f_X4_isWord G a0 4).bind fun v45 =>
    if v45 = 0 then
    (g_ob G a0 4).bind fun u59 =>
    (f_X4_isWord G a0 5).bind fun v59 =>
    if v59 = 0 then
    (g_ob G a0 4).bind fun u85 =>
    (f_X4_fail G a0 (1 : Int32)).bind fun q85 =>
    (g_z q85.2).bind fun w88 => some (q85.1, w88)
    else
    (g_r G a0 4 13).bind fun v68 =>
    (g_i G a0 4 14).bind fun v72 =>
    (g_ob G v68 11).bind fun u75 =>
    (f_X11_startOf G v68 v72).bind fun v75 =>
    (g_ob G a0 4).bind fun u79 =>
    (f_X4_add G a0 (3 : Int32) v75 (-1 : Int32)).bind fun q79 =>
    (g_z q79.2).bind fun w82 => some (q79.1, w82)
    else
    (g_ob G a0 4).bind fun u52 =>
    (f_X4_readErase G a0).bind fun q52 =>
    (g_z q52.2).bind fun w55 => some (q52.1, w55)
    else
    (g_ob G a0 4).bind fun u38 =>
    (f_X4_readWrite G a0).bind fun q38 =>
    (g_z q38.2).bind fun w41 => some (q38.1, w41)
    else
    (g_ob G a0 4).bind fun u24 =>
    (f_X4_readNewFile G a0).bind fun q24 =>
    (g_z q24.2).bind fun w27 => some (q24.1, w27)
    else
    (g_ob G a0 4).bind fun u10 =>
    (f_X4_readBad G a0).bind fun q10 =>
    (g_z q10.2).bind fun w13 => some (q10.1, w13)
def f_X8_lookAt_L15 : Nat → gH → Nat → Nat → Int32 → Option (gH × Nat)
  | 0, _, _, _, _ => none
  | n + 1, G, ba0, ba1, bx2 =>
    (g_i G ba0 8 0).bind fun v17 =>
    if v17 ≤ bx2 then
    some (G, ba0)
    else
    (g_r G ba1 1 2).bind fun v25 =>
    (g_r G ba1 1 2).bind fun v30 =>
    (g_i G v30 5 0).bind fun v33 =>
    (g_ob G ba0 8).bind fun u36 =>
    (f_X8_sessionThatCounts G ba0 v25 bx2 v33).bind fun v36 =>
    (g_r G ba1 1 2).bind fun v41 =>
    (g_ob G v41 5).bind fun u46 =>
    (f_X5_versionFor G v41 v36 bx2).bind fun v46 =>
    (g_r G ba0 8 2).bind fun v52 =>
    (f_X9_put G v52 bx2 v36).bind fun G57 =>
    (g_r G57 ba0 8 3).bind fun v61 =>
    (f_X9_put G57 v61 bx2 v46).bind fun G67 =>
    (g_r G67 ba0 8 4).bind fun v71 =>
    (g_ob G67 ba1 1).bind fun u78 =>
    (f_X1_canReadVersion G67 ba1 v46).bind fun v78 =>
    (f_X9_mark G67 v71 bx2 v78).bind fun G81 =>
    f_X8_lookAt_L15 n G81 ba0 ba1 (bx2 + (1 : Int32))
def f_X8_lookAt (G : gH) (a0 : Nat) (a1 : Nat) : Option (gH × Nat) :=
    (g_i G a1 1 3).bind fun v2 =>
    (g_put G a0 8 0 (.int v2)).bind fun G5 =>
    (g_ob G5 a0 8).bind fun u10 =>
    (f_X8_markReached G5 a0 a1).bind fun G10 =>
    f_X8_lookAt_L15 g_N G10 a0 a1 (0 : Int32)
def f_X9_couldRecover (G : gH) (a0 : Nat) : Option Int32 :=
    (g_r G a0 9 5).bind fun v1 =>
    (g_ob G v1 1).bind fun u4 =>
    (f_X1_recoverableVersions G v1).bind fun v4 =>
    some v4
def f_X1_filesLostBy_L60 : Nat → gH → Nat → Nat → Nat → Int32 → Int32 → Option (gH × Int32)
  | 0, _, _, _, _, _, _ => none
  | n + 1, G, ba0, ba2, ba3, bx4, bx5 =>
    (g_i G ba0 1 3).bind fun v63 =>
    if v63 ≤ bx5 then
    some (G, bx4)
    else
    (g_ob G ba2 8).bind fun u74 =>
    (f_X8_isReadable G ba2 bx5).bind fun v74 =>
    if v74 = 0 then
    (f_X9_oneIf G (0 : Int32)).bind fun v94 =>
    f_X1_filesLostBy_L60 n G ba0 ba2 ba3 (bx4 + v94) (bx5 + (1 : Int32))
    else
    (g_ob G ba3 8).bind fun u83 =>
    (f_X8_isReadable G ba3 bx5).bind fun v83 =>
    if v83 = 0 then
    (f_X9_oneIf G (1 : Int32)).bind fun v94 =>
    f_X1_filesLostBy_L60 n G ba0 ba2 ba3 (bx4 + v94) (bx5 + (1 : Int32))
    else
    (f_X9_oneIf G (0 : Int32)).bind fun v94 =>
    f_X1_filesLostBy_L60 n G ba0 ba2 ba3 (bx4 + v94) (bx5 + (1 : Int32))
def f_X1_filesLostBy (G : gH) (a0 : Nat) (x1 : Int32) (a2 : Nat) (a3 : Nat) : Option (gH × Int32) :=
    (g_r G a0 1 0).bind fun v1 =>
    (g_ob G v1 0).bind fun u5 =>
    (f_X0_kindOf G v1 x1).bind fun v5 =>
    if v5 = 0 then
    some (G, (0 : Int32))
    else
    (g_r G a0 1 0).bind fun v12 =>
    (g_ob G v12 0).bind fun u16 =>
    (f_X0_isUnreadable G v12 x1).bind fun v16 =>
    if v16 = 0 then
    (g_r G a0 1 0).bind fun v25 =>
    (g_r G v25 0 5).bind fun v28 =>
    (f_X9_mark G v28 x1 (1 : Int32)).bind fun G33 =>
    (g_ob G33 a3 8).bind fun u38 =>
    (f_X8_lookAt G33 a3 a0).bind fun q38 =>
    (g_r q38.1 a0 1 0).bind fun v43 =>
    (g_r q38.1 v43 0 5).bind fun v46 =>
    (f_X9_mark q38.1 v46 x1 (0 : Int32)).bind fun G51 =>
    f_X1_filesLostBy_L60 g_N G51 a0 a2 a3 (0 : Int32) (0 : Int32)
    else
    some (G, (0 : Int32))
def f_X1_blocksUsed_J50 (k15 : gH → Nat → Int32 → Int32 → Nat → Int32 → Int32 → Option (gH × Int32)) (G : gH) (ba0 : Nat) (bx1 : Int32) (bx2 : Int32) (ba3 : Nat) (bx4 : Int32) (bx5 : Int32) (z0 : Int32) : Option (gH × Int32) :=
    if z0 = 0 then
    (f_X9_oneIf G (0 : Int32)).bind fun v75 =>
    k15 G ba0 bx1 bx2 ba3 (bx4 + v75) (bx5 + (1 : Int32))
    else
    (g_ob G ba0 1).bind fun u63 =>
    (f_X1_useOf G ba0 bx5 ba3).bind fun v63 =>
    if v63 = bx2 then
    (f_X9_oneIf G (1 : Int32)).bind fun v75 =>
    k15 G ba0 bx1 bx2 ba3 (bx4 + v75) (bx5 + (1 : Int32))
    else
    (f_X9_oneIf G (0 : Int32)).bind fun v75 =>
    k15 G ba0 bx1 bx2 ba3 (bx4 + v75) (bx5 + (1 : Int32))
def f_X1_blocksUsed_L15 : Nat → gH → Nat → Int32 → Int32 → Nat → Int32 → Int32 → Option (gH × Int32)
  | 0, _, _, _, _, _, _, _ => none
  | n + 1, G, ba0, bx1, bx2, ba3, bx4, bx5 =>
    (g_r G ba0 1 0).bind fun v18 =>
    (g_i G v18 0 0).bind fun v21 =>
    if v21 ≤ bx5 then
    some (G, bx4)
    else
    if bx1 = (-1 : Int32) then
    f_X1_blocksUsed_J50 (f_X1_blocksUsed_L15 n) G ba0 bx1 bx2 ba3 bx4 bx5 (1 : Int32)
    else
    (g_r G ba0 1 0).bind fun v33 =>
    (g_ob G v33 0).bind fun u38 =>
    (f_X0_writerOf G v33 bx5).bind fun v38 =>
    if v38 = bx1 then
    f_X1_blocksUsed_J50 (f_X1_blocksUsed_L15 n) G ba0 bx1 bx2 ba3 bx4 bx5 (1 : Int32)
    else
    f_X1_blocksUsed_J50 (f_X1_blocksUsed_L15 n) G ba0 bx1 bx2 ba3 bx4 bx5 (0 : Int32)
def f_X1_blocksUsed (G : gH) (a0 : Nat) (x1 : Int32) (x2 : Int32) : Option (gH × Int32) :=
    (g_r G a0 1 6).bind fun v1 =>
    (g_ob G v1 8).bind fun u5 =>
    (f_X8_lookAt G v1 a0).bind fun q5 =>
    f_X1_blocksUsed_L15 g_N q5.1 a0 x1 x2 q5.2 (0 : Int32) (0 : Int32)
def f_X1_reasonAgainstErase (G : gH) (a0 : Nat) (x1 : Int32) : Option (gH × Int32) :=
    (g_r G a0 1 6).bind fun v1 =>
    (g_ob G v1 8).bind fun u5 =>
    (f_X8_lookAt G v1 a0).bind fun q5 =>
    (g_ob q5.1 q5.2 8).bind fun u9 =>
    (f_X8_versionOf q5.1 q5.2 x1).bind fun v9 =>
    if v9 = (-1 : Int32) then
    some (q5.1, (2 : Int32))
    else
    (g_r q5.1 a0 1 2).bind fun v19 =>
    (g_ob q5.1 v19 5).bind fun u22 =>
    (f_X5_oneMoreIsTooMany q5.1 v19).bind fun v22 =>
    if v22 = 0 then
    (g_r q5.1 a0 1 0).bind fun v31 =>
    (g_r q5.1 a0 1 2).bind fun v35 =>
    (g_ob q5.1 v35 5).bind fun u39 =>
    (f_X5_entriesWith q5.1 v35 x1).bind fun v39 =>
    (f_X9_directoryLength q5.1 v39).bind fun v42 =>
    (g_ob q5.1 v31 0).bind fun u45 =>
    (f_X0_hasRoomFor q5.1 v31 v42).bind fun v45 =>
    if v45 = 0 then
    some (q5.1, (4 : Int32))
    else
    some (q5.1, (0 : Int32))
    else
    some (q5.1, (3 : Int32))
def f_X1_reasonAgainstRecover (G : gH) (a0 : Nat) : Option Int32 :=
    (g_ob G a0 1).bind fun u1 =>
    (f_X1_recoverableVersions G a0).bind fun v1 =>
    if v1 = 0 then
    some (2 : Int32)
    else
    (g_r G a0 1 2).bind fun v12 =>
    (g_ob G v12 5).bind fun u15 =>
    (f_X5_oneMoreIsTooMany G v12).bind fun v15 =>
    if v15 = 0 then
    (g_ob G a0 1).bind fun u27 =>
    (f_X1_reasonAgainstDirectory G a0 v1).bind fun v27 =>
    some v27
    else
    some (3 : Int32)
def f_X1_writeVersion_L37 : Nat → gH → Nat → Int32 → Int32 → Int32 → Int32 → Int32 → Option (gH × Int32)
  | 0, _, _, _, _, _, _, _ => none
  | n + 1, G, ba0, bx1, bx2, bx4, bx5, bx6 =>
    if bx2 ≤ bx6 then
    (g_r G ba0 1 2).bind fun v64 =>
    (g_ob G v64 5).bind fun u70 =>
    (f_X5_enter G v64 bx1 bx5).bind fun G70 =>
    some (G70, bx5)
    else
    (g_r G ba0 1 0).bind fun v44 =>
    (g_ob G v44 0).bind fun u54 =>
    (f_X0_writeNext G v44 (1 : Int32) bx4 bx5 bx6).bind fun G54 =>
    f_X1_writeVersion_L37 n G54 ba0 bx1 bx2 bx4 bx5 (bx6 + (1 : Int32))
def f_X1_writeVersion (G : gH) (a0 : Nat) (x1 : Int32) (x2 : Int32) (x3 : Int32) : Option (gH × Int32) :=
    (g_ob G a0 1).bind fun u1 =>
    (f_X1_beginIfNeeded G a0).bind fun G1 =>
    (g_r G1 a0 1 2).bind fun v5 =>
    (g_ob G1 v5 5).bind fun u8 =>
    (f_X5_latest G1 v5).bind fun v8 =>
    (g_r G1 a0 1 1).bind fun v14 =>
    (g_r G1 a0 1 0).bind fun v19 =>
    (g_i G1 v19 0 2).bind fun v22 =>
    (g_ob G1 v14 7).bind fun u29 =>
    (f_X7_add G1 v14 x1 v22 x2 x3 v8).bind fun q29 =>
    f_X1_writeVersion_L37 g_N q29.1 a0 x1 x2 v8 q29.2 (0 : Int32)
def f_X1_eraseFile (G : gH) (a0 : Nat) (x1 : Int32) : Option gH :=
    (g_ob G a0 1).bind fun u1 =>
    (f_X1_beginIfNeeded G a0).bind fun G1 =>
    (g_r G1 a0 1 2).bind fun v5 =>
    (g_ob G1 v5 5).bind fun u10 =>
    (f_X5_enter G1 v5 x1 (-1 : Int32)).bind fun G10 =>
    some G10
def f_X4_read_J111 (G : gH) (ba0 : Nat) (bx3 : Int32) : Option gH :=
    if bx3 = 0 then
    (g_r G ba0 4 13).bind fun v117 =>
    (g_i G ba0 4 14).bind fun v121 =>
    (g_ob G v117 11).bind fun u124 =>
    (f_X11_startOf G v117 v121).bind fun v124 =>
    (g_put G ba0 4 1 (.int v124)).bind fun G127 =>
    some G127
    else
    some G
def f_X4_read_L58 : Nat → gH → Nat → Int32 → Option gH
  | 0, _, _, _ => none
  | n + 1, G, ba0, bx3 =>
    if bx3 = 0 then
    f_X4_read_J111 G ba0 bx3
    else
    (g_i G ba0 4 14).bind fun v63 =>
    (g_r G ba0 4 13).bind fun v67 =>
    (g_i G v67 11 0).bind fun v70 =>
    if (v70 - (1 : Int32)) ≤ v63 then
    f_X4_read_J111 G ba0 bx3
    else
    (g_i G ba0 4 14).bind fun v80 =>
    (g_put G ba0 4 14 (.int (v80 + (1 : Int32)))).bind fun G85 =>
    (g_ob G85 ba0 4).bind fun u89 =>
    (f_X4_readStatement G85 ba0).bind fun q89 =>
    if q89.2 = 0 then
    f_X4_read_L58 n q89.1 ba0 (0 : Int32)
    else
    (g_ob q89.1 ba0 4).bind fun u96 =>
    (f_X4_readSemicolon q89.1 ba0).bind fun q96 =>
    if q96.2 = 0 then
    f_X4_read_L58 n q96.1 ba0 (0 : Int32)
    else
    f_X4_read_L58 n q96.1 ba0 (1 : Int32)
def f_X4_read (G : gH) (a0 : Nat) (a1 : Nat) (x2 : Int32) : Option gH :=
    (g_put G a0 4 0 (.int (0 : Int32))).bind fun G2 =>
    (g_put G2 a0 4 1 (.int (-1 : Int32))).bind fun G7 =>
    (g_put G7 a0 4 2 (.int (8 : Int32))).bind fun G13 =>
    (g_put G13 a0 4 3 (.int (0 : Int32))).bind fun G18 =>
    (g_put G18 a0 4 4 (.int (0 : Int32))).bind fun G23 =>
    (g_put G23 a0 4 6 (.int (0 : Int32))).bind fun G28 =>
    (g_r G28 a0 4 12).bind fun v32 =>
    (f_X9_fill_ G28 v32 (0 : Int32)).bind fun G36 =>
    (g_r G36 a0 4 13).bind fun v40 =>
    (g_ob G36 v40 11).bind fun u45 =>
    (f_X11_read G36 v40 a1 x2).bind fun G45 =>
    (g_put G45 a0 4 14 (.int (0 : Int32))).bind fun G50 =>
    (g_ob G50 a0 4).bind fun u54 =>
    (f_X4_readHead G50 a0).bind fun q54 =>
    f_X4_read_L58 g_N q54.1 a0 q54.2
def f_X9_weakest_L22 : Nat → gH → Nat → Nat → Int32 → Int32 → Int32 → Option (gH × Int32)
  | 0, _, _, _, _, _, _ => none
  | n + 1, G, ba0, ba1, bx2, bx3, bx4 =>
    (g_r G ba0 9 5).bind fun v25 =>
    (g_r G v25 1 0).bind fun v28 =>
    (g_i G v28 0 0).bind fun v31 =>
    if v31 ≤ bx4 then
    some (G, bx2)
    else
    (g_r G ba0 9 5).bind fun v38 =>
    (g_r G ba0 9 4).bind fun v45 =>
    (g_ob G v38 1).bind fun u48 =>
    (f_X1_filesLostBy G v38 bx4 ba1 v45).bind fun q48 =>
    if q48.2 ≤ bx3 then
    f_X9_weakest_L22 n q48.1 ba0 ba1 bx2 bx3 (bx4 + (1 : Int32))
    else
    f_X9_weakest_L22 n q48.1 ba0 ba1 bx4 q48.2 (bx4 + (1 : Int32))
def f_X9_weakest (G : gH) (a0 : Nat) : Option (gH × Int32) :=
    (g_r G a0 9 5).bind fun v1 =>
    (g_r G v1 1 6).bind fun v4 =>
    (g_r G a0 9 5).bind fun v8 =>
    (g_ob G v4 8).bind fun u11 =>
    (f_X8_lookAt G v4 v8).bind fun q11 =>
    f_X9_weakest_L22 g_N q11.1 a0 q11.2 (0 : Int32) (0 : Int32) (0 : Int32)
def f_X1_reasonAgainstStatement (G : gH) (a0 : Nat) (a1 : Nat) (x2 : Int32) : Option (gH × Int32) :=
    (g_ob G a1 4).bind fun u2 =>
    (f_X4_kindOf G a1 x2).bind fun v2 =>
    if v2 = (1 : Int32) then
    (g_ob G a1 4).bind fun u35 =>
    (f_X4_targetOf G a1 x2).bind fun v35 =>
    (g_ob G a1 4).bind fun u40 =>
    (f_X4_lengthOf G a1 x2).bind fun v40 =>
    (g_ob G a0 1).bind fun u43 =>
    (f_X1_reasonAgainstWrite G a0 v35 v40).bind fun v43 =>
    some (G, v43)
    else
    if v2 = (2 : Int32) then
    (g_ob G a1 4).bind fun u50 =>
    (f_X4_targetOf G a1 x2).bind fun v50 =>
    (g_ob G a0 1).bind fun u53 =>
    (f_X1_reasonAgainstErase G a0 v50).bind fun q53 =>
    some (q53.1, q53.2)
    else
    if v2 = (3 : Int32) then
    (g_ob G a0 1).bind fun u58 =>
    (f_X1_reasonAgainstClose G a0).bind fun v58 =>
    some (G, v58)
    else
    some (G, (0 : Int32))
def f_X1_doStatement (G : gH) (a0 : Nat) (a1 : Nat) (x2 : Int32) : Option gH :=
    (g_ob G a1 4).bind fun u2 =>
    (f_X4_kindOf G a1 x2).bind fun v2 =>
    if v2 = (1 : Int32) then
    (g_ob G a1 4).bind fun u35 =>
    (f_X4_targetOf G a1 x2).bind fun v35 =>
    (g_ob G a1 4).bind fun u40 =>
    (f_X4_lengthOf G a1 x2).bind fun v40 =>
    (g_ob G a1 4).bind fun u45 =>
    (f_X4_tagOf G a1 x2).bind fun v45 =>
    (g_ob G a0 1).bind fun u48 =>
    (f_X1_writeVersion G a0 v35 v40 v45).bind fun q48 =>
    some q48.1
    else
    if v2 = (2 : Int32) then
    (g_ob G a1 4).bind fun u58 =>
    (f_X4_targetOf G a1 x2).bind fun v58 =>
    (g_ob G a0 1).bind fun u61 =>
    (f_X1_eraseFile G a0 v58).bind fun G61 =>
    some G61
    else
    if v2 = (3 : Int32) then
    (g_ob G a0 1).bind fun u68 =>
    (f_X1_closeSession G a0).bind fun q68 =>
    some q68.1
    else
    (g_r G a0 1 0).bind fun v76 =>
    (g_ob G a1 4).bind fun u81 =>
    (f_X4_targetOf G a1 x2).bind fun v81 =>
    (g_ob G v76 0).bind fun u84 =>
    (f_X0_makeBad G v76 v81).bind fun G84 =>
    some G84
def w_X0_init (G : gH) (a0 : Nat) (K : gH → Prop) : Prop :=
    ∃ G6, g_put G a0 0 0 (.int (0 : Int32)) = some G6 ∧
    ∃ G11, g_put G6 a0 0 1 (.int (0 : Int32)) = some G11 ∧
    ∃ G16, g_put G11 a0 0 2 (.int (0 : Int32)) = some G16 ∧
    ∀ q22 : Nat, G16 q22 = none → ∀ G22 : gH, G22 = va_up G16 q22 (some (.inl (0, 96, fun _ => 0))) →
    ∃ G24, g_put G22 a0 0 3 (.ref q22) = some G24 ∧
    ∀ q30 : Nat, G24 q30 = none → ∀ G30 : gH, G30 = va_up G24 q30 (some (.inl (1, 96, fun _ => 0))) →
    ∃ G32, g_put G30 a0 0 4 (.ref q30) = some G32 ∧
    ∀ q38 : Nat, G32 q38 = none → ∀ G38 : gH, G38 = va_up G32 q38 (some (.inl (1, 96, fun _ => 0))) →
    ∃ G40, g_put G38 a0 0 5 (.ref q38) = some G40 ∧
    ∀ q46 : Nat, G40 q46 = none → ∀ G46 : gH, G46 = va_up G40 q46 (some (.inl (0, 96, fun _ => 0))) →
    ∃ G48, g_put G46 a0 0 6 (.ref q46) = some G48 ∧
    ∀ q54 : Nat, G48 q54 = none → ∀ G54 : gH, G54 = va_up G48 q54 (some (.inl (0, 96, fun _ => 0))) →
    ∃ G56, g_put G54 a0 0 7 (.ref q54) = some G56 ∧
    ∀ q62 : Nat, G56 q62 = none → ∀ G62 : gH, G62 = va_up G56 q62 (some (.inl (0, 96, fun _ => 0))) →
    ∃ G64, g_put G62 a0 0 8 (.ref q62) = some G64 ∧
    ∀ q70 : Nat, G64 q70 = none → ∀ G70 : gH, G70 = va_up G64 q70 (some (.inl (0, 96, fun _ => 0))) →
    ∃ G72, g_put G70 a0 0 9 (.ref q70) = some G72 ∧
    ∀ q78 : Nat, G72 q78 = none → ∀ G78 : gH, G78 = va_up G72 q78 (some (.inl (0, 96, fun _ => 0))) →
    ∃ G80, g_put G78 a0 0 10 (.ref q78) = some G80 ∧
    K G80
def w_X7_init (G : gH) (a0 : Nat) (K : gH → Prop) : Prop :=
    ∃ G6, g_put G a0 7 0 (.int (0 : Int32)) = some G6 ∧
    ∀ q12 : Nat, G6 q12 = none → ∀ G12 : gH, G12 = va_up G6 q12 (some (.inl (0, 96, fun _ => 0))) →
    ∃ G14, g_put G12 a0 7 1 (.ref q12) = some G14 ∧
    ∀ q20 : Nat, G14 q20 = none → ∀ G20 : gH, G20 = va_up G14 q20 (some (.inl (0, 96, fun _ => 0))) →
    ∃ G22, g_put G20 a0 7 2 (.ref q20) = some G22 ∧
    ∀ q28 : Nat, G22 q28 = none → ∀ G28 : gH, G28 = va_up G22 q28 (some (.inl (0, 96, fun _ => 0))) →
    ∃ G30, g_put G28 a0 7 3 (.ref q28) = some G30 ∧
    ∀ q36 : Nat, G30 q36 = none → ∀ G36 : gH, G36 = va_up G30 q36 (some (.inl (0, 96, fun _ => 0))) →
    ∃ G38, g_put G36 a0 7 4 (.ref q36) = some G38 ∧
    ∀ q44 : Nat, G38 q44 = none → ∀ G44 : gH, G44 = va_up G38 q44 (some (.inl (0, 96, fun _ => 0))) →
    ∃ G46, g_put G44 a0 7 5 (.ref q44) = some G46 ∧
    K G46
def w_X5_init (G : gH) (a0 : Nat) (K : gH → Prop) : Prop :=
    ∃ G6, g_put G a0 5 0 (.int (0 : Int32)) = some G6 ∧
    ∀ q12 : Nat, G6 q12 = none → ∀ G12 : gH, G12 = va_up G6 q12 (some (.inl (0, 12, fun _ => 0))) →
    ∃ G14, g_put G12 a0 5 1 (.ref q12) = some G14 ∧
    ∀ q20 : Nat, G14 q20 = none → ∀ G20 : gH, G20 = va_up G14 q20 (some (.inl (0, 12, fun _ => 0))) →
    ∃ G22, g_put G20 a0 5 2 (.ref q20) = some G22 ∧
    ∀ q28 : Nat, G22 q28 = none → ∀ G28 : gH, G28 = va_up G22 q28 (some (.inl (0, 12, fun _ => 0))) →
    ∃ G30, g_put G28 a0 5 3 (.ref q28) = some G30 ∧
    ∀ q36 : Nat, G30 q36 = none → ∀ G36 : gH, G36 = va_up G30 q36 (some (.inl (0, 12, fun _ => 0))) →
    ∃ G38, g_put G36 a0 5 4 (.ref q36) = some G38 ∧
    ∀ q44 : Nat, G38 q44 = none → ∀ G44 : gH, G44 = va_up G38 q44 (some (.inl (0, 12, fun _ => 0))) →
    ∃ G46, g_put G44 a0 5 5 (.ref q44) = some G46 ∧
    ∀ q52 : Nat, G46 q52 = none → ∀ G52 : gH, G52 = va_up G46 q52 (some (.inl (0, 120, fun _ => 0))) →
    ∃ G54, g_put G52 a0 5 6 (.ref q52) = some G54 ∧
    ∀ q60 : Nat, G54 q60 = none → ∀ G60 : gH, G60 = va_up G54 q60 (some (.inl (0, 120, fun _ => 0))) →
    ∃ G62, g_put G60 a0 5 7 (.ref q60) = some G62 ∧
    K G62
def w_X8_init (G : gH) (a0 : Nat) (K : gH → Prop) : Prop :=
    ∃ G6, g_put G a0 8 0 (.int (0 : Int32)) = some G6 ∧
    ∀ q12 : Nat, G6 q12 = none → ∀ G12 : gH, G12 = va_up G6 q12 (some (.inl (1, 12, fun _ => 0))) →
    ∃ G14, g_put G12 a0 8 1 (.ref q12) = some G14 ∧
    ∀ q20 : Nat, G14 q20 = none → ∀ G20 : gH, G20 = va_up G14 q20 (some (.inl (0, 10, fun _ => 0))) →
    ∃ G22, g_put G20 a0 8 2 (.ref q20) = some G22 ∧
    ∀ q28 : Nat, G22 q28 = none → ∀ G28 : gH, G28 = va_up G22 q28 (some (.inl (0, 10, fun _ => 0))) →
    ∃ G30, g_put G28 a0 8 3 (.ref q28) = some G30 ∧
    ∀ q36 : Nat, G30 q36 = none → ∀ G36 : gH, G36 = va_up G30 q36 (some (.inl (1, 10, fun _ => 0))) →
    ∃ G38, g_put G36 a0 8 4 (.ref q36) = some G38 ∧
    K G38
def w_X1_init (G : gH) (a0 : Nat) (K : gH → Prop) : Prop :=
    ∀ q5 : Nat, G q5 = none → ∀ G5 : gH, G5 = va_up G q5 (some (.inr (.inr (.inr (0, [.int 0, .int 0, .int 0, .null, .null, .null, .null, .null, .null, .null, .null]))))) →
    w_X0_init G5 q5 (fun G9 =>
    ∃ G12, g_put G9 a0 1 0 (.ref q5) = some G12 ∧
    ∀ q16 : Nat, G12 q16 = none → ∀ G16 : gH, G16 = va_up G12 q16 (some (.inr (.inr (.inr (7, [.int 0, .null, .null, .null, .null, .null]))))) →
    w_X7_init G16 q16 (fun G20 =>
    ∃ G23, g_put G20 a0 1 1 (.ref q16) = some G23 ∧
    ∀ q27 : Nat, G23 q27 = none → ∀ G27 : gH, G27 = va_up G23 q27 (some (.inr (.inr (.inr (5, [.int 0, .null, .null, .null, .null, .null, .null, .null]))))) →
    w_X5_init G27 q27 (fun G31 =>
    ∃ G34, g_put G31 a0 1 2 (.ref q27) = some G34 ∧
    ∃ G39, g_put G34 a0 1 3 (.int (0 : Int32)) = some G39 ∧
    ∀ q45 : Nat, G39 q45 = none → ∀ G45 : gH, G45 = va_up G39 q45 (some (.inr (.inl (10, fun _ => 0)))) →
    ∃ G47, g_put G45 a0 1 4 (.ref q45) = some G47 ∧
    ∃ G52, g_put G47 a0 1 5 (.int (0 : Int32)) = some G52 ∧
    ∀ q56 : Nat, G52 q56 = none → ∀ G56 : gH, G56 = va_up G52 q56 (some (.inr (.inr (.inr (8, [.int 0, .null, .null, .null, .null]))))) →
    w_X8_init G56 q56 (fun G60 =>
    ∃ G63, g_put G60 a0 1 6 (.ref q56) = some G63 ∧
    K G63))))
def w_X3_init (G : gH) (a0 : Nat) (K : gH → Prop) : Prop :=
    ∀ q8 : Nat, G q8 = none → ∀ G8 : gH, G8 = va_up G q8 (some (.inl (0, 600, fun _ => 0))) →
    ∃ G10, g_put G8 a0 3 0 (.ref q8) = some G10 ∧
    ∃ G15, g_put G10 a0 3 1 (.int (0 : Int32)) = some G15 ∧
    K G15
def w_X11_init (G : gH) (a0 : Nat) (K : gH → Prop) : Prop :=
    ∃ G6, g_put G a0 11 0 (.int (0 : Int32)) = some G6 ∧
    ∃ G11, g_put G6 a0 11 1 (.int (0 : Int32)) = some G11 ∧
    ∀ q18 : Nat, G11 q18 = none → ∀ G18 : gH, G18 = va_up G11 q18 (some (.inl (0, 600, fun _ => 0))) →
    ∃ G20, g_put G18 a0 11 2 (.ref q18) = some G20 ∧
    ∀ q27 : Nat, G20 q27 = none → ∀ G27 : gH, G27 = va_up G20 q27 (some (.inl (0, 600, fun _ => 0))) →
    ∃ G29, g_put G27 a0 11 3 (.ref q27) = some G29 ∧
    ∀ q36 : Nat, G29 q36 = none → ∀ G36 : gH, G36 = va_up G29 q36 (some (.inr (.inl (600, fun _ => 0)))) →
    ∃ G38, g_put G36 a0 11 4 (.ref q36) = some G38 ∧
    K G38
def w_X4_init (G : gH) (a0 : Nat) (K : gH → Prop) : Prop :=
    ∃ G6, g_put G a0 4 0 (.int (0 : Int32)) = some G6 ∧
    ∃ G11, g_put G6 a0 4 1 (.int (-1 : Int32)) = some G11 ∧
    ∃ G17, g_put G11 a0 4 2 (.int (8 : Int32)) = some G17 ∧
    ∃ G22, g_put G17 a0 4 3 (.int (0 : Int32)) = some G22 ∧
    ∃ G27, g_put G22 a0 4 4 (.int (0 : Int32)) = some G27 ∧
    ∀ q33 : Nat, G27 q33 = none → ∀ G33 : gH, G33 = va_up G27 q33 (some (.inr (.inl (10, fun _ => 0)))) →
    ∃ G35, g_put G33 a0 4 5 (.ref q33) = some G35 ∧
    ∃ G40, g_put G35 a0 4 6 (.int (0 : Int32)) = some G40 ∧
    ∀ q46 : Nat, G40 q46 = none → ∀ G46 : gH, G46 = va_up G40 q46 (some (.inl (0, 120, fun _ => 0))) →
    ∃ G48, g_put G46 a0 4 7 (.ref q46) = some G48 ∧
    ∀ q54 : Nat, G48 q54 = none → ∀ G54 : gH, G54 = va_up G48 q54 (some (.inl (0, 120, fun _ => 0))) →
    ∃ G56, g_put G54 a0 4 8 (.ref q54) = some G56 ∧
    ∀ q62 : Nat, G56 q62 = none → ∀ G62 : gH, G62 = va_up G56 q62 (some (.inl (0, 120, fun _ => 0))) →
    ∃ G64, g_put G62 a0 4 9 (.ref q62) = some G64 ∧
    ∀ q70 : Nat, G64 q70 = none → ∀ G70 : gH, G70 = va_up G64 q70 (some (.inl (0, 120, fun _ => 0))) →
    ∃ G72, g_put G70 a0 4 10 (.ref q70) = some G72 ∧
    ∀ q78 : Nat, G72 q78 = none → ∀ G78 : gH, G78 = va_up G72 q78 (some (.inl (0, 120, fun _ => 0))) →
    ∃ G80, g_put G78 a0 4 11 (.ref q78) = some G80 ∧
    ∀ q86 : Nat, G80 q86 = none → ∀ G86 : gH, G86 = va_up G80 q86 (some (.inl (1, 96, fun _ => 0))) →
    ∃ G88, g_put G86 a0 4 12 (.ref q86) = some G88 ∧
    ∀ q92 : Nat, G88 q92 = none → ∀ G92 : gH, G92 = va_up G88 q92 (some (.inr (.inr (.inr (11, [.int 0, .int 0, .null, .null, .null]))))) →
    w_X11_init G92 q92 (fun G96 =>
    ∃ G99, g_put G96 a0 4 13 (.ref q92) = some G99 ∧
    ∃ G104, g_put G99 a0 4 14 (.int (0 : Int32)) = some G104 ∧
    K G104)
def w_X2_init (G : gH) (a0 : Nat) (K : gH → Prop) : Prop :=
    ∃ G6, g_put G a0 2 0 (.int (0 : Int32)) = some G6 ∧
    ∃ G11, g_put G6 a0 2 1 (.int (0 : Int32)) = some G11 ∧
    ∀ q17 : Nat, G11 q17 = none → ∀ G17 : gH, G17 = va_up G11 q17 (some (.inr (.inr (.inl (4, 10, fun _ => none))))) →
    ∃ G20, g_put G17 a0 2 2 (.ref q17) = some G20 ∧
    K G20
def w_X6_init (G : gH) (a0 : Nat) (K : gH → Prop) : Prop :=
    ∀ q6 : Nat, G q6 = none → ∀ G6 : gH, G6 = va_up G q6 (some (.inl (1, 2, fun _ => 0))) →
    ∃ G8, g_put G6 a0 6 0 (.ref q6) = some G8 ∧
    ∀ q13 : Nat, G8 q13 = none → ∀ G13 : gH, G13 = va_up G8 q13 (some (.inr (.inr (.inl (4, 2, fun _ => none))))) →
    ∃ G16, g_put G13 a0 6 1 (.ref q13) = some G16 ∧
    K G16
def w_X9_init (G : gH) (a0 : Nat) (K : gH → Prop) : Prop :=
    ∀ q5 : Nat, G q5 = none → ∀ G5 : gH, G5 = va_up G q5 (some (.inr (.inr (.inr (3, [.null, .int 0]))))) →
    w_X3_init G5 q5 (fun G9 =>
    ∃ G12, g_put G9 a0 9 0 (.ref q5) = some G12 ∧
    ∀ q16 : Nat, G12 q16 = none → ∀ G16 : gH, G16 = va_up G12 q16 (some (.inr (.inr (.inr (4, [.int 0, .int 0, .int 0, .int 0, .int 0, .null, .int 0, .null, .null, .null, .null, .null, .null, .null, .int 0]))))) →
    w_X4_init G16 q16 (fun G20 =>
    ∃ G23, g_put G20 a0 9 1 (.ref q16) = some G23 ∧
    ∀ q27 : Nat, G23 q27 = none → ∀ G27 : gH, G27 = va_up G23 q27 (some (.inr (.inr (.inr (2, [.int 0, .int 0, .null]))))) →
    w_X2_init G27 q27 (fun G31 =>
    ∃ G34, g_put G31 a0 9 2 (.ref q27) = some G34 ∧
    ∀ q38 : Nat, G34 q38 = none → ∀ G38 : gH, G38 = va_up G34 q38 (some (.inr (.inr (.inr (6, [.null, .null]))))) →
    w_X6_init G38 q38 (fun G42 =>
    ∃ G45, g_put G42 a0 9 3 (.ref q38) = some G45 ∧
    ∀ q49 : Nat, G45 q49 = none → ∀ G49 : gH, G49 = va_up G45 q49 (some (.inr (.inr (.inr (8, [.int 0, .null, .null, .null, .null]))))) →
    w_X8_init G49 q49 (fun G53 =>
    ∃ G56, g_put G53 a0 9 4 (.ref q49) = some G56 ∧
    ∀ q60 : Nat, G56 q60 = none → ∀ G60 : gH, G60 = va_up G56 q60 (some (.inr (.inr (.inr (1, [.null, .null, .null, .int 0, .null, .int 0, .null]))))) →
    w_X1_init G60 q60 (fun G64 =>
    ∃ G67, g_put G64 a0 9 5 (.ref q60) = some G67 ∧
    ∀ q71 : Nat, G67 q71 = none → ∀ G71 : gH, G71 = va_up G67 q71 (some (.inr (.inr (.inr (1, [.null, .null, .null, .int 0, .null, .int 0, .null]))))) →
    w_X1_init G71 q71 (fun G75 =>
    ∃ G78, g_put G75 a0 9 6 (.ref q71) = some G78 ∧
    ∃ v82, g_r G78 a0 9 5 = some v82 ∧
    ∃ u88, g_ob G78 v82 1 = some u88 ∧
    ∃ G88, f_X1_format G78 v82 (8 : Int32) (0 : Int32) = some G88 ∧
    K G88)))))))
def w_X9_storeIn (G : gH) (a0 : Nat) (x1 : Int32) (a2 : Nat) (K : gH → Prop) : Prop :=
    if x1 < 0 then
    K G
    else
    ∃ v6, g_len G a0 = some v6 ∧
    if v6 ≤ x1 then
    K G
    else
    ∃ v12, g_qald G a0 x1 = some v12 ∧
    ((v12 = none → ∀ q18 : Nat, G q18 = none → ∀ G18 : gH, G18 = va_up G q18 (some (.inr (.inr (.inr (1, [.null, .null, .null, .int 0, .null, .int 0, .null]))))) →
    w_X1_init G18 q18 (fun G22 =>
    ∃ u25, g_ob G22 q18 1 = some u25 ∧
    ∃ G25, g_qast G22 a0 x1 q18 = some G25 ∧
    ∃ v28, g_qald G25 a0 x1 = some v28 ∧
    ∃ r30a : Nat, v28 = some r30a ∧
    ∃ u30, g_ob G25 r30a 1 = some u30 ∧
    ∃ G30, f_X1_takeFrom G25 r30a a2 = some G30 ∧
    K G30)) ∧ (v12 ≠ none →
    ∃ v28, g_qald G a0 x1 = some v28 ∧
    ∃ r30a : Nat, v28 = some r30a ∧
    ∃ u30, g_ob G r30a 1 = some u30 ∧
    ∃ G30, f_X1_takeFrom G r30a a2 = some G30 ∧
    K G30))
def w_X2_keep (G : gH) (a0 : Nat) (a1 : Nat) (K : gH → Prop) : Prop :=
    ∃ v1, g_i G a0 2 1 = some v1 ∧
    ∃ v5, g_i G a0 2 0 = some v5 ∧
    ∃ v14, g_i G a0 2 0 = some v14 ∧
    if (10 : Int32) ≤ v14 then
    ∃ v37, g_i G a0 2 1 = some v37 ∧
    ∃ G45, g_put G a0 2 1 (.int ((v37 + (1 : Int32)) - (v37 + (1 : Int32)) / (10 : Int32) * (10 : Int32))) = some G45 ∧
    ∃ v49, g_r G45 a0 2 2 = some v49 ∧
    w_X9_storeIn G45 v49 ((v1 + v5) - (v1 + v5) / (10 : Int32) * (10 : Int32)) a1 (fun G54 =>
    K G54)
    else
    ∃ v24, g_i G a0 2 0 = some v24 ∧
    ∃ G29, g_put G a0 2 0 (.int (v24 + (1 : Int32))) = some G29 ∧
    ∃ v49, g_r G29 a0 2 2 = some v49 ∧
    w_X9_storeIn G29 v49 ((v1 + v5) - (v1 + v5) / (10 : Int32) * (10 : Int32)) a1 (fun G54 =>
    K G54)
def w_X9_checkIndex (G : gH) (x0 : Int32) (x1 : Int32) (KX : String → gH → Prop) (K : gH → Prop) : Prop :=
    if x0 < 0 then
    KX g_xIOB G
    else
    if x0 < x1 then
    K G
    else
    KX g_xIOB G
def w_X9_checkRange (G : gH) (x0 : Int32) (x1 : Int32) (x2 : Int32) (KX : String → gH → Prop) (K : gH → Prop) : Prop :=
    if x0 < x1 then
    KX g_xIAE G
    else
    if x0 ≤ x2 then
    K G
    else
    KX g_xIAE G
def w_X9_checkAllowed (G : gH) (x0 : Int32) (KX : String → gH → Prop) (K : gH → Prop) : Prop :=
    if x0 = 0 then
    K G
    else
    KX g_xISE G
def f_X9_parse_J100 (G : gH) (ba0 : Nat) : Option (gH × Int32) :=
    (g_r G ba0 9 1).bind fun v101 =>
    (g_i G v101 4 0).bind fun v104 =>
    if v104 = 0 then
    (g_r G ba0 9 5).bind fun v111 =>
    (g_r G ba0 9 6).bind fun v117 =>
    (g_put G ba0 9 5 (.ref v117)).bind fun G120 =>
    (g_put G120 ba0 9 6 (.ref v111)).bind fun G125 =>
    (g_r G125 ba0 9 2).bind fun v129 =>
    (g_ob G125 v129 2).bind fun u132 =>
    (f_X2_clear G125 v129).bind fun G132 =>
    (g_r G132 ba0 9 3).bind fun v136 =>
    (g_ob G132 v136 6).bind fun u139 =>
    (f_X6_clear G132 v136).bind fun G139 =>
    (g_r G139 ba0 9 1).bind fun v143 =>
    (g_i G139 v143 4 0).bind fun v146 =>
    some (G139, v146)
    else
    (g_r G ba0 9 1).bind fun v143 =>
    (g_i G v143 4 0).bind fun v146 =>
    some (G, v146)
def f_X9_parse_L45 : Nat → gH → Nat → Int32 → Option (gH × Int32)
  | 0, _, _, _ => none
  | n + 1, G, ba0, bx2 =>
    (g_r G ba0 9 1).bind fun v47 =>
    (g_i G v47 4 6).bind fun v50 =>
    if v50 ≤ bx2 then
    f_X9_parse_J100 G ba0
    else
    (g_r G ba0 9 6).bind fun v57 =>
    (g_r G ba0 9 1).bind fun v61 =>
    (g_ob G v57 1).bind fun u65 =>
    (f_X1_reasonAgainstStatement G v57 v61 bx2).bind fun q65 =>
    if q65.2 = 0 then
    (g_r q65.1 ba0 9 6).bind fun v83 =>
    (g_r q65.1 ba0 9 1).bind fun v87 =>
    (g_ob q65.1 v83 1).bind fun u91 =>
    (f_X1_doStatement q65.1 v83 v87 bx2).bind fun G91 =>
    f_X9_parse_L45 n G91 ba0 (bx2 + (1 : Int32))
    else
    (g_r q65.1 ba0 9 1).bind fun v72 =>
    (g_ob q65.1 v72 4).bind fun u76 =>
    (f_X4_refuseStatement q65.1 v72 bx2).bind fun G76 =>
    f_X9_parse_J100 G76 ba0
def w_X9_parse (G : gH) (a0 : Nat) (x1 : Int32) (KX : String → gH → Prop) (K : Int32 → gH → Prop) : Prop :=
    ∃ v3, g_r G a0 9 0 = some v3 ∧
    ∃ v6, g_i G v3 3 1 = some v6 ∧
    w_X9_checkRange G x1 (0 : Int32) v6 KX (fun G9 =>
    ∃ v13, g_r G9 a0 9 1 = some v13 ∧
    ∃ v17, g_r G9 a0 9 0 = some v17 ∧
    ∃ u21, g_ob G9 v13 4 = some u21 ∧
    ∃ G21, f_X4_read G9 v13 v17 x1 = some G21 ∧
    ∃ v25, g_r G21 a0 9 0 = some v25 ∧
    ∃ G29, g_put G21 v25 3 1 (.int (0 : Int32)) = some G29 ∧
    ∃ v33, g_r G29 a0 9 6 = some v33 ∧
    ∃ v37, g_r G29 a0 9 1 = some v37 ∧
    ∃ u40, g_ob G29 v33 1 = some u40 ∧
    ∃ G40, f_X1_begin G29 v33 v37 = some G40 ∧
    ∃ q45, f_X9_parse_L45 g_N G40 a0 (0 : Int32) = some q45 ∧ K q45.2 q45.1)
def w_X9_size (G : gH) (a0 : Nat) (x1 : Int32) (KX : String → gH → Prop) (K : Int32 → gH → Prop) : Prop :=
    w_X9_checkRange G x1 (0 : Int32) (12 : Int32) KX (fun G4 =>
    if x1 = (0 : Int32) then
    ∃ v73, g_r G4 a0 9 5 = some v73 ∧
    ∃ v76, g_r G4 v73 1 0 = some v76 ∧
    ∃ v79, g_i G4 v76 0 0 = some v79 ∧
    K v79 G4
    else
    if x1 = (1 : Int32) then
    ∃ v84, g_r G4 a0 9 5 = some v84 ∧
    ∃ v87, g_r G4 v84 1 0 = some v87 ∧
    ∃ v90, g_i G4 v87 0 0 = some v90 ∧
    ∃ v94, g_r G4 a0 9 5 = some v94 ∧
    ∃ v97, g_r G4 v94 1 0 = some v97 ∧
    ∃ v100, g_i G4 v97 0 1 = some v100 ∧
    K (v90 - v100) G4
    else
    if x1 = (2 : Int32) then
    ∃ v106, g_r G4 a0 9 5 = some v106 ∧
    ∃ v109, g_i G4 v106 1 3 = some v109 ∧
    K v109 G4
    else
    if x1 = (3 : Int32) then
    ∃ v114, g_r G4 a0 9 5 = some v114 ∧
    ∃ v117, g_r G4 v114 1 2 = some v117 ∧
    ∃ v120, g_i G4 v117 5 0 = some v120 ∧
    K v120 G4
    else
    if x1 = (4 : Int32) then
    ∃ v125, g_r G4 a0 9 5 = some v125 ∧
    ∃ v128, g_r G4 v125 1 0 = some v128 ∧
    ∃ v131, g_i G4 v128 0 2 = some v131 ∧
    K v131 G4
    else
    if x1 = (5 : Int32) then
    ∃ v136, g_r G4 a0 9 5 = some v136 ∧
    ∃ v139, g_r G4 v136 1 0 = some v139 ∧
    ∃ u142, g_ob G4 v139 0 = some u142 ∧
    ∃ v142, f_X0_emptySpares G4 v139 = some v142 ∧
    K v142 G4
    else
    if x1 = (6 : Int32) then
    ∃ v147, g_r G4 a0 9 5 = some v147 ∧
    ∃ v150, g_r G4 v147 1 0 = some v150 ∧
    ∃ u153, g_ob G4 v150 0 = some u153 ∧
    ∃ v153, f_X0_badOnes G4 v150 = some v153 ∧
    K v153 G4
    else
    if x1 = (7 : Int32) then
    ∃ v158, g_r G4 a0 9 5 = some v158 ∧
    ∃ v161, g_r G4 v158 1 6 = some v161 ∧
    ∃ v165, g_r G4 a0 9 5 = some v165 ∧
    ∃ u168, g_ob G4 v161 8 = some u168 ∧
    ∃ q168, f_X8_lookAt G4 v161 v165 = some q168 ∧
    ∃ u171, g_ob q168.1 q168.2 8 = some u171 ∧
    ∃ v171, f_X8_filesThere q168.1 q168.2 = some v171 ∧
    K v171 q168.1
    else
    if x1 = (8 : Int32) then
    ∃ v176, g_r G4 a0 9 5 = some v176 ∧
    ∃ v179, g_r G4 v176 1 6 = some v179 ∧
    ∃ v183, g_r G4 a0 9 5 = some v183 ∧
    ∃ u186, g_ob G4 v179 8 = some u186 ∧
    ∃ q186, f_X8_lookAt G4 v179 v183 = some q186 ∧
    ∃ u189, g_ob q186.1 q186.2 8 = some u189 ∧
    ∃ v189, f_X8_filesReadable q186.1 q186.2 = some v189 ∧
    K v189 q186.1
    else
    if x1 = (9 : Int32) then
    ∃ v194, g_r G4 a0 9 5 = some v194 ∧
    ∃ v197, g_r G4 v194 1 2 = some v197 ∧
    ∃ u200, g_ob G4 v197 5 = some u200 ∧
    ∃ v200, f_X5_isOpen G4 v197 = some v200 ∧
    ∃ v203, f_X9_oneIf G4 v200 = some v203 ∧
    K v203 G4
    else
    if x1 = (10 : Int32) then
    ∃ v208, g_r G4 a0 9 5 = some v208 ∧
    ∃ v211, g_i G4 v208 1 5 = some v211 ∧
    ∃ v214, f_X9_oneIf G4 v211 = some v214 ∧
    K v214 G4
    else
    if x1 = (11 : Int32) then
    ∃ v219, g_r G4 a0 9 2 = some v219 ∧
    ∃ v222, g_i G4 v219 2 0 = some v222 ∧
    K v222 G4
    else
    ∃ v227, g_r G4 a0 9 5 = some v227 ∧
    ∃ v230, g_r G4 v227 1 1 = some v230 ∧
    ∃ v233, g_i G4 v230 7 0 = some v233 ∧
    K v233 G4)
def w_X9_block (G : gH) (a0 : Nat) (x1 : Int32) (x2 : Int32) (KX : String → gH → Prop) (K : Int32 → gH → Prop) : Prop :=
    ∃ v2, g_r G a0 9 5 = some v2 ∧
    ∃ v5, g_r G v2 1 0 = some v5 ∧
    ∃ v8, g_i G v5 0 0 = some v8 ∧
    w_X9_checkIndex G x1 v8 KX (fun G11 =>
    w_X9_checkRange G11 x2 (0 : Int32) (6 : Int32) KX (fun G18 =>
    ∃ v22, g_r G18 a0 9 5 = some v22 ∧
    ∃ v25, g_r G18 v22 1 0 = some v25 ∧
    ∃ u30, g_ob G18 v25 0 = some u30 ∧
    ∃ v30, f_X0_property G18 v25 x1 x2 = some v30 ∧
    K v30 G18))
def w_X9_place (G : gH) (a0 : Nat) (x1 : Int32) (KX : String → gH → Prop) (K : Int32 → gH → Prop) : Prop :=
    ∃ v2, g_r G a0 9 5 = some v2 ∧
    ∃ v5, g_r G v2 1 0 = some v5 ∧
    ∃ v8, g_i G v5 0 0 = some v8 ∧
    w_X9_checkIndex G x1 v8 KX (fun G11 =>
    ∃ v15, g_r G11 a0 9 5 = some v15 ∧
    ∃ v18, g_r G11 v15 1 0 = some v18 ∧
    ∃ u22, g_ob G11 v18 0 = some u22 ∧
    ∃ v22, f_X0_placeOf G11 v18 x1 = some v22 ∧
    K v22 G11)
def w_X9_session (G : gH) (a0 : Nat) (x1 : Int32) (x2 : Int32) (KX : String → gH → Prop) (K : Int32 → gH → Prop) : Prop :=
    ∃ v2, g_r G a0 9 5 = some v2 ∧
    ∃ v5, g_r G v2 1 2 = some v5 ∧
    ∃ v8, g_i G v5 5 0 = some v8 ∧
    w_X9_checkIndex G x1 v8 KX (fun G11 =>
    w_X9_checkRange G11 x2 (0 : Int32) (8 : Int32) KX (fun G18 =>
    ∃ v22, g_r G18 a0 9 5 = some v22 ∧
    ∃ v25, g_r G18 v22 1 2 = some v25 ∧
    if x2 = (0 : Int32) then
    ∃ u78, g_ob G18 v25 5 = some u78 ∧
    ∃ v78, f_X5_stateOf G18 v25 x1 = some v78 ∧
    K v78 G18
    else
    if x2 = (1 : Int32) then
    ∃ u84, g_ob G18 v25 5 = some u84 ∧
    ∃ v84, f_X5_firstOf G18 v25 x1 = some v84 ∧
    K v84 G18
    else
    if x2 = (2 : Int32) then
    ∃ v89, g_r G18 a0 9 5 = some v89 ∧
    ∃ v92, g_r G18 v89 1 0 = some v92 ∧
    ∃ u96, g_ob G18 v92 0 = some u96 ∧
    ∃ v96, f_X0_mainBlocksOf G18 v92 x1 = some v96 ∧
    K v96 G18
    else
    if x2 = (3 : Int32) then
    ∃ u102, g_ob G18 v25 5 = some u102 ∧
    ∃ v102, f_X5_entriesOf G18 v25 x1 = some v102 ∧
    K v102 G18
    else
    if x2 = (4 : Int32) then
    ∃ u108, g_ob G18 v25 5 = some u108 ∧
    ∃ v108, f_X5_directoryOf G18 v25 x1 = some v108 ∧
    K v108 G18
    else
    if x2 = (5 : Int32) then
    ∃ v113, g_r G18 a0 9 5 = some v113 ∧
    ∃ v116, g_r G18 v113 1 0 = some v116 ∧
    ∃ u121, g_ob G18 v25 5 = some u121 ∧
    ∃ v121, f_X5_directoryOf G18 v25 x1 = some v121 ∧
    ∃ u126, g_ob G18 v25 5 = some u126 ∧
    ∃ v126, f_X5_directoryLengthOf G18 v25 x1 = some v126 ∧
    ∃ u129, g_ob G18 v116 0 = some u129 ∧
    ∃ v129, f_X0_canRead G18 v116 v121 v126 = some v129 ∧
    ∃ v132, f_X9_oneIf G18 v129 = some v132 ∧
    K v132 G18
    else
    if x2 = (6 : Int32) then
    ∃ u138, g_ob G18 v25 5 = some u138 ∧
    ∃ v138, f_X5_linkOf G18 v25 x1 = some v138 ∧
    K v138 G18
    else
    if x2 = (7 : Int32) then
    ∃ v143, g_r G18 a0 9 5 = some v143 ∧
    ∃ v146, g_r G18 v143 1 6 = some v146 ∧
    ∃ v150, g_r G18 a0 9 5 = some v150 ∧
    ∃ u153, g_ob G18 v146 8 = some u153 ∧
    ∃ q153, f_X8_lookAt G18 v146 v150 = some q153 ∧
    ∃ u157, g_ob q153.1 q153.2 8 = some u157 ∧
    ∃ v157, f_X8_isReached q153.1 q153.2 x1 = some v157 ∧
    ∃ v160, f_X9_oneIf q153.1 v157 = some v160 ∧
    K v160 q153.1
    else
    ∃ v165, g_r G18 a0 9 5 = some v165 ∧
    ∃ v168, g_r G18 v165 1 0 = some v168 ∧
    ∃ u172, g_ob G18 v168 0 = some u172 ∧
    ∃ v172, f_X0_spareBlocksOf G18 v168 x1 = some v172 ∧
    K v172 G18))
def w_X9_entry (G : gH) (a0 : Nat) (x1 : Int32) (x2 : Int32) (x3 : Int32) (KX : String → gH → Prop) (K : Int32 → gH → Prop) : Prop :=
    ∃ v2, g_r G a0 9 5 = some v2 ∧
    ∃ v5, g_r G v2 1 2 = some v5 ∧
    ∃ v8, g_i G v5 5 0 = some v8 ∧
    w_X9_checkIndex G x1 v8 KX (fun G11 =>
    w_X9_checkRange G11 x3 (0 : Int32) (4 : Int32) KX (fun G17 =>
    ∃ v21, g_r G17 a0 9 5 = some v21 ∧
    ∃ v24, g_r G17 v21 1 2 = some v24 ∧
    ∃ u29, g_ob G17 v24 5 = some u29 ∧
    ∃ v29, f_X5_fileAt G17 v24 x1 x2 = some v29 ∧
    if v29 = (-1 : Int32) then
    K (-1 : Int32) G17
    else
    ∃ v43, g_r G17 a0 9 5 = some v43 ∧
    ∃ v46, g_r G17 v43 1 2 = some v46 ∧
    ∃ u52, g_ob G17 v46 5 = some u52 ∧
    ∃ v52, f_X5_versionFor G17 v46 x1 v29 = some v52 ∧
    if x3 = (0 : Int32) then
    K v29 G17
    else
    if x3 = (1 : Int32) then
    K v52 G17
    else
    if x3 = (2 : Int32) then
    ∃ v95, g_r G17 a0 9 5 = some v95 ∧
    ∃ v98, g_r G17 v95 1 1 = some v98 ∧
    ∃ u103, g_ob G17 v98 7 = some u103 ∧
    ∃ v103, f_X7_firstOf G17 v98 v52 = some v103 ∧
    K v103 G17
    else
    if x3 = (3 : Int32) then
    ∃ v108, g_r G17 a0 9 5 = some v108 ∧
    ∃ v111, g_r G17 v108 1 1 = some v111 ∧
    ∃ u116, g_ob G17 v111 7 = some u116 ∧
    ∃ v116, f_X7_lengthOf G17 v111 v52 = some v116 ∧
    K v116 G17
    else
    ∃ v121, g_r G17 a0 9 5 = some v121 ∧
    ∃ v124, g_r G17 v121 1 1 = some v124 ∧
    ∃ u129, g_ob G17 v124 7 = some u129 ∧
    ∃ v129, f_X7_tagOf G17 v124 v52 = some v129 ∧
    K v129 G17))
def w_X9_file (G : gH) (a0 : Nat) (x1 : Int32) (x2 : Int32) (KX : String → gH → Prop) (K : Int32 → gH → Prop) : Prop :=
    ∃ v2, g_r G a0 9 5 = some v2 ∧
    ∃ v5, g_i G v2 1 3 = some v5 ∧
    w_X9_checkIndex G x1 v5 KX (fun G8 =>
    w_X9_checkRange G8 x2 (0 : Int32) (6 : Int32) KX (fun G15 =>
    ∃ v19, g_r G15 a0 9 5 = some v19 ∧
    ∃ v22, g_r G15 v19 1 6 = some v22 ∧
    ∃ v26, g_r G15 a0 9 5 = some v26 ∧
    ∃ u29, g_ob G15 v22 8 = some u29 ∧
    ∃ q29, f_X8_lookAt G15 v22 v26 = some q29 ∧
    ∃ u35, g_ob q29.1 q29.2 8 = some u35 ∧
    ∃ v35, f_X8_versionOf q29.1 q29.2 x1 = some v35 ∧
    if x2 = (0 : Int32) then
    if v35 = (-1 : Int32) then
    ∃ v91, f_X9_oneIf q29.1 (0 : Int32) = some v91 ∧
    K v91 q29.1
    else
    ∃ v91, f_X9_oneIf q29.1 (1 : Int32) = some v91 ∧
    K v91 q29.1
    else
    if x2 = (1 : Int32) then
    ∃ u97, g_ob q29.1 q29.2 8 = some u97 ∧
    ∃ v97, f_X8_isReadable q29.1 q29.2 x1 = some v97 ∧
    ∃ v100, f_X9_oneIf q29.1 v97 = some v100 ∧
    K v100 q29.1
    else
    if x2 = (2 : Int32) then
    K v35 q29.1
    else
    if x2 = (3 : Int32) then
    ∃ v108, g_r q29.1 a0 9 5 = some v108 ∧
    ∃ v111, g_r q29.1 v108 1 1 = some v111 ∧
    ∃ u116, g_ob q29.1 v111 7 = some u116 ∧
    ∃ v116, f_X7_lengthOf q29.1 v111 v35 = some v116 ∧
    K v116 q29.1
    else
    if x2 = (4 : Int32) then
    ∃ v121, g_r q29.1 a0 9 5 = some v121 ∧
    ∃ v124, g_r q29.1 v121 1 1 = some v124 ∧
    ∃ u129, g_ob q29.1 v124 7 = some u129 ∧
    ∃ v129, f_X7_tagOf q29.1 v124 v35 = some v129 ∧
    K v129 q29.1
    else
    if x2 = (5 : Int32) then
    ∃ u135, g_ob q29.1 q29.2 8 = some u135 ∧
    ∃ v135, f_X8_sessionOf q29.1 q29.2 x1 = some v135 ∧
    K v135 q29.1
    else
    ∃ v140, g_r q29.1 a0 9 5 = some v140 ∧
    ∃ v143, g_r q29.1 v140 1 1 = some v143 ∧
    ∃ u147, g_ob q29.1 v143 7 = some u147 ∧
    ∃ v147, f_X7_countOf q29.1 v143 x1 = some v147 ∧
    K v147 q29.1))
def w_X9_where (G : gH) (a0 : Nat) (x1 : Int32) (x2 : Int32) (KX : String → gH → Prop) (K : Int32 → gH → Prop) : Prop :=
    ∃ v2, g_r G a0 9 5 = some v2 ∧
    ∃ v5, g_i G v2 1 3 = some v5 ∧
    w_X9_checkIndex G x1 v5 KX (fun G8 =>
    ∃ v12, g_r G8 a0 9 5 = some v12 ∧
    ∃ v15, g_r G8 v12 1 6 = some v15 ∧
    ∃ v19, g_r G8 a0 9 5 = some v19 ∧
    ∃ u22, g_ob G8 v15 8 = some u22 ∧
    ∃ q22, f_X8_lookAt G8 v15 v19 = some q22 ∧
    ∃ u26, g_ob q22.1 q22.2 8 = some u26 ∧
    ∃ v26, f_X8_versionOf q22.1 q22.2 x1 = some v26 ∧
    if x2 < 0 then
    K (-1 : Int32) q22.1
    else
    ∃ v36, g_r q22.1 a0 9 5 = some v36 ∧
    ∃ v39, g_r q22.1 v36 1 1 = some v39 ∧
    ∃ u43, g_ob q22.1 v39 7 = some u43 ∧
    ∃ v43, f_X7_lengthOf q22.1 v39 v26 = some v43 ∧
    if x2 < v43 then
    ∃ v52, g_r q22.1 a0 9 5 = some v52 ∧
    ∃ v55, g_r q22.1 v52 1 0 = some v55 ∧
    ∃ v59, g_r q22.1 a0 9 5 = some v59 ∧
    ∃ v62, g_r q22.1 v59 1 1 = some v62 ∧
    ∃ u66, g_ob q22.1 v62 7 = some u66 ∧
    ∃ v66, f_X7_firstOf q22.1 v62 v26 = some v66 ∧
    ∃ u71, g_ob q22.1 v55 0 = some u71 ∧
    ∃ v71, f_X0_placeOf q22.1 v55 (v66 + x2) = some v71 ∧
    K v71 q22.1
    else
    K (-1 : Int32) q22.1)
def w_X9_whyNotWrite (G : gH) (a0 : Nat) (x1 : Int32) (x2 : Int32) (KX : String → gH → Prop) (K : Int32 → gH → Prop) : Prop :=
    ∃ v2, g_r G a0 9 5 = some v2 ∧
    ∃ v5, g_i G v2 1 3 = some v5 ∧
    w_X9_checkIndex G x1 v5 KX (fun G8 =>
    w_X9_checkRange G8 x2 (1 : Int32) (8 : Int32) KX (fun G15 =>
    ∃ v19, g_r G15 a0 9 5 = some v19 ∧
    ∃ u24, g_ob G15 v19 1 = some u24 ∧
    ∃ v24, f_X1_reasonAgainstWrite G15 v19 x1 x2 = some v24 ∧
    K v24 G15))
def w_X9_whyNot (G : gH) (a0 : Nat) (x1 : Int32) (KX : String → gH → Prop) (K : Int32 → gH → Prop) : Prop :=
    w_X9_checkRange G x1 (0 : Int32) (2 : Int32) KX (fun G3 =>
    if x1 = (0 : Int32) then
    ∃ v33, g_r G3 a0 9 5 = some v33 ∧
    ∃ u36, g_ob G3 v33 1 = some u36 ∧
    ∃ v36, f_X1_reasonAgainstClose G3 v33 = some v36 ∧
    K v36 G3
    else
    if x1 = (1 : Int32) then
    ∃ v41, g_r G3 a0 9 5 = some v41 ∧
    ∃ u44, g_ob G3 v41 1 = some u44 ∧
    ∃ v44, f_X1_reasonAgainstCrash G3 v41 = some v44 ∧
    K v44 G3
    else
    ∃ v49, g_r G3 a0 9 5 = some v49 ∧
    ∃ u52, g_ob G3 v49 1 = some u52 ∧
    ∃ v52, f_X1_reasonAgainstRecover G3 v49 = some v52 ∧
    K v52 G3)
def w_X9_risk (G : gH) (a0 : Nat) (x1 : Int32) (KX : String → gH → Prop) (K : Int32 → gH → Prop) : Prop :=
    ∃ v2, g_r G a0 9 5 = some v2 ∧
    ∃ v5, g_r G v2 1 0 = some v5 ∧
    ∃ v8, g_i G v5 0 0 = some v8 ∧
    w_X9_checkIndex G x1 v8 KX (fun G11 =>
    ∃ v15, g_r G11 a0 9 5 = some v15 ∧
    ∃ v20, g_r G11 a0 9 5 = some v20 ∧
    ∃ v23, g_r G11 v20 1 6 = some v23 ∧
    ∃ v27, g_r G11 a0 9 5 = some v27 ∧
    ∃ u30, g_ob G11 v23 8 = some u30 ∧
    ∃ q30, f_X8_lookAt G11 v23 v27 = some q30 ∧
    ∃ v34, g_r q30.1 a0 9 4 = some v34 ∧
    ∃ u37, g_ob q30.1 v15 1 = some u37 ∧
    ∃ q37, f_X1_filesLostBy q30.1 v15 x1 q30.2 v34 = some q37 ∧
    K q37.2 q37.1)
def w_X9_filesBefore (G : gH) (a0 : Nat) (x1 : Int32) (KX : String → gH → Prop) (K : Int32 → gH → Prop) : Prop :=
    ∃ v2, g_r G a0 9 5 = some v2 ∧
    ∃ v5, g_r G v2 1 2 = some v5 ∧
    ∃ v8, g_i G v5 5 0 = some v8 ∧
    w_X9_checkIndex G x1 v8 KX (fun G11 =>
    ∃ v15, g_r G11 a0 9 5 = some v15 ∧
    ∃ v18, g_r G11 v15 1 6 = some v18 ∧
    ∃ v22, g_r G11 a0 9 5 = some v22 ∧
    ∃ u25, g_ob G11 v18 8 = some u25 ∧
    ∃ q25, f_X8_lookAt G11 v18 v22 = some q25 ∧
    ∃ v29, g_r q25.1 a0 9 5 = some v29 ∧
    ∃ v32, g_r q25.1 v29 1 2 = some v32 ∧
    ∃ u36, g_ob q25.1 q25.2 8 = some u36 ∧
    ∃ v36, f_X8_filesThereBefore q25.1 q25.2 v32 x1 = some v36 ∧
    K v36 q25.1)
def w_X9_space (G : gH) (a0 : Nat) (x1 : Int32) (KX : String → gH → Prop) (K : Int32 → gH → Prop) : Prop :=
    w_X9_checkRange G x1 (0 : Int32) (4 : Int32) KX (fun G3 =>
    ∃ v7, g_r G3 a0 9 5 = some v7 ∧
    ∃ u12, g_ob G3 v7 1 = some u12 ∧
    ∃ q12, f_X1_blocksUsed G3 v7 (-1 : Int32) x1 = some q12 ∧
    K q12.2 q12.1)
def w_X9_spaceOf (G : gH) (a0 : Nat) (x1 : Int32) (x2 : Int32) (KX : String → gH → Prop) (K : Int32 → gH → Prop) : Prop :=
    ∃ v2, g_r G a0 9 5 = some v2 ∧
    ∃ v5, g_r G v2 1 2 = some v5 ∧
    ∃ v8, g_i G v5 5 0 = some v8 ∧
    w_X9_checkIndex G x1 v8 KX (fun G11 =>
    w_X9_checkRange G11 x2 (1 : Int32) (4 : Int32) KX (fun G17 =>
    ∃ v21, g_r G17 a0 9 5 = some v21 ∧
    ∃ u26, g_ob G17 v21 1 = some u26 ∧
    ∃ q26, f_X1_blocksUsed G17 v21 x1 x2 = some q26 ∧
    K q26.2 q26.1))
def w_X9_write (G : gH) (a0 : Nat) (x1 : Int32) (x2 : Int32) (x3 : Int32) (KX : String → gH → Prop) (K : Int32 → gH → Prop) : Prop :=
    ∃ v2, g_r G a0 9 5 = some v2 ∧
    ∃ v5, g_i G v2 1 3 = some v5 ∧
    w_X9_checkIndex G x1 v5 KX (fun G8 =>
    w_X9_checkRange G8 x2 (1 : Int32) (8 : Int32) KX (fun G15 =>
    w_X9_checkRange G15 x3 (0 : Int32) (999 : Int32) KX (fun G23 =>
    ∃ v27, g_r G23 a0 9 5 = some v27 ∧
    ∃ u32, g_ob G23 v27 1 = some u32 ∧
    ∃ v32, f_X1_reasonAgainstWrite G23 v27 x1 x2 = some v32 ∧
    w_X9_checkAllowed G23 v32 KX (fun G35 =>
    ∃ v39, g_r G35 a0 9 2 = some v39 ∧
    ∃ v43, g_r G35 a0 9 5 = some v43 ∧
    ∃ u46, g_ob G35 v39 2 = some u46 ∧
    w_X2_keep G35 v39 v43 (fun G46 =>
    ∃ v50, g_r G46 a0 9 5 = some v50 ∧
    ∃ u56, g_ob G46 v50 1 = some u56 ∧
    ∃ q56, f_X1_writeVersion G46 v50 x1 x2 x3 = some q56 ∧
    K q56.2 q56.1)))))
def w_X9_erase (G : gH) (a0 : Nat) (x1 : Int32) (KX : String → gH → Prop) (K : Int32 → gH → Prop) : Prop :=
    ∃ v2, g_r G a0 9 5 = some v2 ∧
    ∃ v5, g_i G v2 1 3 = some v5 ∧
    w_X9_checkIndex G x1 v5 KX (fun G8 =>
    ∃ v12, g_r G8 a0 9 5 = some v12 ∧
    ∃ u16, g_ob G8 v12 1 = some u16 ∧
    ∃ q16, f_X1_reasonAgainstErase G8 v12 x1 = some q16 ∧
    w_X9_checkAllowed q16.1 q16.2 KX (fun G19 =>
    ∃ v23, g_r G19 a0 9 2 = some v23 ∧
    ∃ v27, g_r G19 a0 9 5 = some v27 ∧
    ∃ u30, g_ob G19 v23 2 = some u30 ∧
    w_X2_keep G19 v23 v27 (fun G30 =>
    ∃ v34, g_r G30 a0 9 5 = some v34 ∧
    ∃ u38, g_ob G30 v34 1 = some u38 ∧
    ∃ G38, f_X1_eraseFile G30 v34 x1 = some G38 ∧
    ∃ v42, g_r G38 a0 9 5 = some v42 ∧
    ∃ v45, g_r G38 v42 1 6 = some v45 ∧
    ∃ v49, g_r G38 a0 9 5 = some v49 ∧
    ∃ u52, g_ob G38 v45 8 = some u52 ∧
    ∃ q52, f_X8_lookAt G38 v45 v49 = some q52 ∧
    ∃ u55, g_ob q52.1 q52.2 8 = some u55 ∧
    ∃ v55, f_X8_filesThere q52.1 q52.2 = some v55 ∧
    K v55 q52.1)))
def w_X9_close (G : gH) (a0 : Nat) (KX : String → gH → Prop) (K : Int32 → gH → Prop) : Prop :=
    ∃ v1, g_r G a0 9 5 = some v1 ∧
    ∃ u4, g_ob G v1 1 = some u4 ∧
    ∃ v4, f_X1_reasonAgainstClose G v1 = some v4 ∧
    w_X9_checkAllowed G v4 KX (fun G7 =>
    ∃ v11, g_r G7 a0 9 2 = some v11 ∧
    ∃ v15, g_r G7 a0 9 5 = some v15 ∧
    ∃ u18, g_ob G7 v11 2 = some u18 ∧
    w_X2_keep G7 v11 v15 (fun G18 =>
    ∃ v22, g_r G18 a0 9 5 = some v22 ∧
    ∃ u25, g_ob G18 v22 1 = some u25 ∧
    ∃ q25, f_X1_closeSession G18 v22 = some q25 ∧
    K q25.2 q25.1))
def w_X9_crash (G : gH) (a0 : Nat) (KX : String → gH → Prop) (K : Int32 → gH → Prop) : Prop :=
    ∃ v1, g_r G a0 9 5 = some v1 ∧
    ∃ u4, g_ob G v1 1 = some u4 ∧
    ∃ v4, f_X1_reasonAgainstCrash G v1 = some v4 ∧
    w_X9_checkAllowed G v4 KX (fun G7 =>
    ∃ v11, g_r G7 a0 9 2 = some v11 ∧
    ∃ v15, g_r G7 a0 9 5 = some v15 ∧
    ∃ u18, g_ob G7 v11 2 = some u18 ∧
    w_X2_keep G7 v11 v15 (fun G18 =>
    ∃ v22, g_r G18 a0 9 5 = some v22 ∧
    ∃ u25, g_ob G18 v22 1 = some u25 ∧
    ∃ q25, f_X1_loseSession G18 v22 = some q25 ∧
    K q25.2 q25.1))
def w_X9_recover (G : gH) (a0 : Nat) (KX : String → gH → Prop) (K : Int32 → gH → Prop) : Prop :=
    ∃ v1, g_r G a0 9 5 = some v1 ∧
    ∃ u4, g_ob G v1 1 = some u4 ∧
    ∃ v4, f_X1_reasonAgainstRecover G v1 = some v4 ∧
    w_X9_checkAllowed G v4 KX (fun G7 =>
    ∃ v11, g_r G7 a0 9 2 = some v11 ∧
    ∃ v15, g_r G7 a0 9 5 = some v15 ∧
    ∃ u18, g_ob G7 v11 2 = some u18 ∧
    w_X2_keep G7 v11 v15 (fun G18 =>
    ∃ v22, g_r G18 a0 9 5 = some v22 ∧
    ∃ u25, g_ob G18 v22 1 = some u25 ∧
    ∃ q25, f_X1_recoverSession G18 v22 = some q25 ∧
    K q25.2 q25.1))
def w_X9_scratch (G : gH) (a0 : Nat) (x1 : Int32) (KX : String → gH → Prop) (K : Int32 → gH → Prop) : Prop :=
    ∃ v2, g_r G a0 9 5 = some v2 ∧
    ∃ v5, g_r G v2 1 0 = some v5 ∧
    ∃ v8, g_i G v5 0 0 = some v8 ∧
    w_X9_checkIndex G x1 v8 KX (fun G11 =>
    ∃ v15, g_r G11 a0 9 2 = some v15 ∧
    ∃ v19, g_r G11 a0 9 5 = some v19 ∧
    ∃ u22, g_ob G11 v15 2 = some u22 ∧
    w_X2_keep G11 v15 v19 (fun G22 =>
    ∃ v26, g_r G22 a0 9 5 = some v26 ∧
    ∃ v29, g_r G22 v26 1 0 = some v29 ∧
    ∃ u33, g_ob G22 v29 0 = some u33 ∧
    ∃ q33, f_X0_damage G22 v29 x1 = some q33 ∧
    ∃ w36, g_z q33.2 = some w36 ∧
    K w36 q33.1))
def w_X9_setScan (G : gH) (a0 : Nat) (x1 : Int32) (K : Int32 → gH → Prop) : Prop :=
    ∃ v1, g_r G a0 9 2 = some v1 ∧
    ∃ v5, g_r G a0 9 5 = some v5 ∧
    ∃ u8, g_ob G v1 2 = some u8 ∧
    w_X2_keep G v1 v5 (fun G8 =>
    ∃ v12, g_r G8 a0 9 5 = some v12 ∧
    ∃ v15, g_i G8 v12 1 5 = some v15 ∧
    ∃ v20, g_r G8 a0 9 5 = some v20 ∧
    ∃ w24, g_z x1 = some w24 ∧
    ∃ G24, g_put G8 v20 1 5 (.int w24) = some G24 ∧
    ∃ w28, g_z v15 = some w28 ∧
    K w28 G24)

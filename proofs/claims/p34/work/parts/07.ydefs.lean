/-! The law's own methods that make no cells: by program (wip/p34/tools/lawlift.py). -/
def f_X10_main (G : gH) (a0 : Nat) : Option Int32 :=
    (g_i G a0 10 0).bind fun v1 =>
    (g_i G a0 10 1).bind fun v5 =>
    some (v1 - v5)
def f_X10_open (G : gH) (a0 : Nat) : Option (Option Nat) :=
    (g_i G a0 10 4).bind fun v1 =>
    if v1 ≤ 0 then
    some none
    else
    (g_r G a0 10 16).bind fun v8 =>
    (g_i G a0 10 4).bind fun v12 =>
    (g_rald 5 G v8 (v12 - (1 : Int32))).bind fun v17 =>
    g_nul v17
    (none)
    fun r17 =>
    (g_i G r17 12 0).bind fun v18 =>
    if v18 = 0 then
    (g_r G a0 10 16).bind fun v25 =>
    (g_i G a0 10 4).bind fun v29 =>
    (g_rald 5 G v25 (v29 - (1 : Int32))).bind fun v34 =>
    g_nul v34
    (some none)
    fun r34 =>
    some (some r34)
    else
    some none
def f_X12_find_L2 (G : gH) : Nat → Nat → Int32 → Int32 → Option Int32
  | 0, _, _, _ => none
  | n + 1, ba0, bx1, bx2 =>
    (g_i G ba0 12 2).bind fun v4 =>
    if v4 ≤ bx2 then
    some (-1 : Int32)
    else
    (g_r G ba0 12 6).bind fun v11 =>
    (g_ald 0 G v11 bx2).bind fun v15 =>
    if v15 = bx1 then
    some bx2
    else
    f_X12_find_L2 G n ba0 bx1 (bx2 + (1 : Int32))
def f_X12_find (G : gH) (a0 : Nat) (x1 : Int32) : Option Int32 :=
    f_X12_find_L2 G g_N a0 x1 (0 : Int32)
def f_X12_size (G : gH) (a0 : Nat) : Option Int32 :=
    (g_i G a0 12 2).bind fun v1 =>
    some ((v1 + (3 : Int32)) / (4 : Int32))
def f_X12_enter_n_J22 (G : gH) (ba0 : Nat) (bx1 : Int32) (bx3 : Int32) : Option gH :=
    (g_r G ba0 12 6).bind fun v23 =>
    (g_ast 0 G v23 bx3 bx1).bind fun G28 =>
    (g_r G28 ba0 12 8).bind fun v30 =>
    (g_rast 6 G28 v30 bx3 none).bind fun G35 =>
    some G35
def f_X12_enter_n (G : gH) (a0 : Nat) (x1 : Int32) : Option gH :=
    (g_ob G a0 12).bind fun u2 =>
    (f_X12_find G a0 x1).bind fun v2 =>
    if 0 ≤ v2 then
    f_X12_enter_n_J22 G a0 x1 v2
    else
    (g_i G a0 12 2).bind fun v12 =>
    (g_put G a0 12 2 (.int (v12 + (1 : Int32)))).bind fun G18 =>
    f_X12_enter_n_J22 G18 a0 x1 v12
def f_X12_enter_r_J22 (G : gH) (ba0 : Nat) (bx1 : Int32) (ba2 : Nat) (bx3 : Int32) : Option gH :=
    (g_r G ba0 12 6).bind fun v23 =>
    (g_ast 0 G v23 bx3 bx1).bind fun G28 =>
    (g_r G28 ba0 12 8).bind fun v30 =>
    (g_ob G28 ba2 13).bind fun u35 =>
    (g_rast 6 G28 v30 bx3 (some ba2)).bind fun G35 =>
    some G35
def f_X12_enter_r (G : gH) (a0 : Nat) (x1 : Int32) (a2 : Nat) : Option gH :=
    (g_ob G a0 12).bind fun u2 =>
    (f_X12_find G a0 x1).bind fun v2 =>
    if 0 ≤ v2 then
    f_X12_enter_r_J22 G a0 x1 a2 v2
    else
    (g_i G a0 12 2).bind fun v12 =>
    (g_put G a0 12 2 (.int (v12 + (1 : Int32)))).bind fun G18 =>
    f_X12_enter_r_J22 G18 a0 x1 a2 v12
def f_X10_put_n (G : gH) (a0 : Nat) (x1 : Int32) (x2 : Int32) (x4 : Int32) : Option gH :=
    (g_r G a0 10 7).bind fun v1 =>
    (g_ast 0 G v1 x1 x2).bind fun G6 =>
    (g_r G6 a0 10 8).bind fun v8 =>
    (g_i G6 a0 10 4).bind fun v13 =>
    (g_ast 0 G6 v8 x1 (v13 - (1 : Int32))).bind fun G18 =>
    (g_r G18 a0 10 14).bind fun v20 =>
    (g_rast 6 G18 v20 x1 none).bind fun G25 =>
    (g_r G25 a0 10 9).bind fun v27 =>
    (g_ast 0 G25 v27 x1 x4).bind fun G33 =>
    some G33
def f_X10_put_r (G : gH) (a0 : Nat) (x1 : Int32) (x2 : Int32) (a3 : Nat) (x4 : Int32) : Option gH :=
    (g_r G a0 10 7).bind fun v1 =>
    (g_ast 0 G v1 x1 x2).bind fun G6 =>
    (g_r G6 a0 10 8).bind fun v8 =>
    (g_i G6 a0 10 4).bind fun v13 =>
    (g_ast 0 G6 v8 x1 (v13 - (1 : Int32))).bind fun G18 =>
    (g_r G18 a0 10 14).bind fun v20 =>
    (g_ob G18 a3 13).bind fun u25 =>
    (g_rast 6 G18 v20 x1 (some a3)).bind fun G25 =>
    (g_r G25 a0 10 9).bind fun v27 =>
    (g_ast 0 G25 v27 x1 x4).bind fun G33 =>
    some G33
def f_X10_burn_n_L50 : Nat → gH → Nat → Int32 → Int32 → Int32 → Int32 → Option (gH × Int32)
  | 0, _, _, _, _, _, _ => none
  | n + 1, G, ba0, bx1, bx3, bx4, bx5 =>
    (g_i G ba0 10 0).bind fun v53 =>
    if v53 ≤ bx5 then
    some (G, (-1 : Int32))
    else
    (g_r G ba0 10 7).bind fun v60 =>
    (g_ald 0 G v60 bx5).bind fun v65 =>
    if v65 = 0 then
    (g_r G ba0 10 12).bind fun v73 =>
    (g_ald 1 G v73 bx5).bind fun v78 =>
    if v78 = 0 then
    (g_ob G ba0 10).bind fun u100 =>
    (f_X10_put_n G ba0 bx5 bx1 bx3).bind fun G100 =>
    (g_r G100 ba0 10 10).bind fun v104 =>
    (g_ast 0 G100 v104 bx5 bx4).bind fun G111 =>
    (g_r G111 ba0 10 11).bind fun v113 =>
    (g_ast 0 G111 v113 bx4 bx5).bind fun G120 =>
    some (G120, bx5)
    else
    (g_ob G ba0 10).bind fun u88 =>
    (f_X10_put_n G ba0 bx5 (3 : Int32) (-1 : Int32)).bind fun G88 =>
    f_X10_burn_n_L50 n G88 ba0 bx1 bx3 bx4 (bx5 + (1 : Int32))
    else
    f_X10_burn_n_L50 n G ba0 bx1 bx3 bx4 (bx5 + (1 : Int32))
def f_X10_burn_n (G : gH) (a0 : Nat) (x1 : Int32) (x3 : Int32) : Option (gH × Int32) :=
    (g_i G a0 10 3).bind fun v2 =>
    (g_put G a0 10 3 (.int (v2 + (1 : Int32)))).bind fun G8 =>
    (g_r G8 a0 10 12).bind fun v14 =>
    (g_ald 1 G8 v14 v2).bind fun v19 =>
    if v19 = 0 then
    (g_ob G8 a0 10).bind fun u29 =>
    (f_X10_put_n G8 a0 v2 x1 x3).bind fun G29 =>
    some (G29, v2)
    else
    (g_ob G8 a0 10).bind fun u41 =>
    (f_X10_put_n G8 a0 v2 (3 : Int32) (-1 : Int32)).bind fun G41 =>
    (g_ob G41 a0 10).bind fun u45 =>
    (f_X10_main G41 a0).bind fun v45 =>
    f_X10_burn_n_L50 g_N G41 a0 x1 x3 v2 v45
def f_X10_burn_r_L50 : Nat → gH → Nat → Int32 → Nat → Int32 → Int32 → Int32 → Option (gH × Int32)
  | 0, _, _, _, _, _, _, _ => none
  | n + 1, G, ba0, bx1, ba2, bx3, bx4, bx5 =>
    (g_i G ba0 10 0).bind fun v53 =>
    if v53 ≤ bx5 then
    some (G, (-1 : Int32))
    else
    (g_r G ba0 10 7).bind fun v60 =>
    (g_ald 0 G v60 bx5).bind fun v65 =>
    if v65 = 0 then
    (g_r G ba0 10 12).bind fun v73 =>
    (g_ald 1 G v73 bx5).bind fun v78 =>
    if v78 = 0 then
    (g_ob G ba0 10).bind fun u100 =>
    (f_X10_put_r G ba0 bx5 bx1 ba2 bx3).bind fun G100 =>
    (g_r G100 ba0 10 10).bind fun v104 =>
    (g_ast 0 G100 v104 bx5 bx4).bind fun G111 =>
    (g_r G111 ba0 10 11).bind fun v113 =>
    (g_ast 0 G111 v113 bx4 bx5).bind fun G120 =>
    some (G120, bx5)
    else
    (g_ob G ba0 10).bind fun u88 =>
    (f_X10_put_n G ba0 bx5 (3 : Int32) (-1 : Int32)).bind fun G88 =>
    f_X10_burn_r_L50 n G88 ba0 bx1 ba2 bx3 bx4 (bx5 + (1 : Int32))
    else
    f_X10_burn_r_L50 n G ba0 bx1 ba2 bx3 bx4 (bx5 + (1 : Int32))
def f_X10_burn_r (G : gH) (a0 : Nat) (x1 : Int32) (a2 : Nat) (x3 : Int32) : Option (gH × Int32) :=
    (g_i G a0 10 3).bind fun v2 =>
    (g_put G a0 10 3 (.int (v2 + (1 : Int32)))).bind fun G8 =>
    (g_r G8 a0 10 12).bind fun v14 =>
    (g_ald 1 G8 v14 v2).bind fun v19 =>
    if v19 = 0 then
    (g_ob G8 a0 10).bind fun u29 =>
    (f_X10_put_r G8 a0 v2 x1 a2 x3).bind fun G29 =>
    some (G29, v2)
    else
    (g_ob G8 a0 10).bind fun u41 =>
    (f_X10_put_n G8 a0 v2 (3 : Int32) (-1 : Int32)).bind fun G41 =>
    (g_ob G41 a0 10).bind fun u45 =>
    (f_X10_main G41 a0).bind fun v45 =>
    f_X10_burn_r_L50 g_N G41 a0 x1 a2 x3 v2 v45
def f_X10_spares_L51 (G : gH) : Nat → Nat → Int32 → Int32 → Int32 → Int32 → Option Int32
  | 0, _, _, _, _, _ => none
  | n + 1, ba0, bx1, bx2, bx3, bx4 =>
    if bx1 ≤ bx4 then
    if bx2 < bx3 then
    some (0 : Int32)
    else
    some (1 : Int32)
    else
    (g_r G ba0 10 12).bind fun v58 =>
    (g_i G ba0 10 3).bind fun v62 =>
    (g_ald 1 G v58 (v62 + bx4)).bind fun v68 =>
    if v68 = 0 then
    f_X10_spares_L51 G n ba0 bx1 bx2 bx3 (bx4 + (1 : Int32))
    else
    f_X10_spares_L51 G n ba0 bx1 bx2 (bx3 + (1 : Int32)) (bx4 + (1 : Int32))
def f_X10_spares_L10 (G : gH) : Nat → Nat → Int32 → Int32 → Int32 → Int32 → Option Int32
  | 0, _, _, _, _, _ => none
  | n + 1, ba0, bx1, bx2, bx3, bx4 =>
    (g_i G ba0 10 0).bind fun v13 =>
    if v13 ≤ bx4 then
    f_X10_spares_L51 G g_N ba0 bx1 bx2 bx3 (0 : Int32)
    else
    (g_r G ba0 10 7).bind fun v20 =>
    (g_ald 0 G v20 bx4).bind fun v25 =>
    if v25 = 0 then
    (g_r G ba0 10 12).bind fun v30 =>
    (g_ald 1 G v30 bx4).bind fun v35 =>
    if v35 = 0 then
    f_X10_spares_L10 G n ba0 bx1 (bx2 + (1 : Int32)) bx3 (bx4 + (1 : Int32))
    else
    f_X10_spares_L10 G n ba0 bx1 bx2 bx3 (bx4 + (1 : Int32))
    else
    f_X10_spares_L10 G n ba0 bx1 bx2 bx3 (bx4 + (1 : Int32))
def f_X10_spares (G : gH) (a0 : Nat) (x1 : Int32) : Option Int32 :=
    (g_ob G a0 10).bind fun u5 =>
    (f_X10_main G a0).bind fun v5 =>
    f_X10_spares_L10 G g_N a0 x1 (0 : Int32) (0 : Int32) v5
def f_X10_why (G : gH) (a0 : Nat) (x1 : Int32) (x2 : Int32) : Option Int32 :=
    (g_i G a0 10 3).bind fun v1 =>
    (g_ob G a0 10).bind fun u13 =>
    (f_X10_main G a0).bind fun v13 =>
    if ((v1 + x1) + ((x2 + (3 : Int32)) / (4 : Int32))) ≤ v13 then
    (g_ob G a0 10).bind fun u25 =>
    (f_X10_spares G a0 x1).bind fun v25 =>
    if v25 = 0 then
    some (5 : Int32)
    else
    some (0 : Int32)
    else
    some (4 : Int32)
def f_X10_entriesWith (G : gH) (a0 : Nat) (x1 : Int32) : Option Int32 :=
    (g_ob G a0 10).bind fun u1 =>
    (f_X10_open G a0).bind fun v1 =>
    g_nul v1
    (some (1 : Int32))
    fun r1 =>
    (g_i G r1 12 2).bind fun v14 =>
    (g_ob G r1 12).bind fun u19 =>
    (f_X12_find G r1 x1).bind fun v19 =>
    if 0 ≤ v19 then
    some (v14 + (0 : Int32))
    else
    some (v14 + (1 : Int32))
def f_X10_whyWrite (G : gH) (a0 : Nat) (x1 : Int32) (x2 : Int32) : Option Int32 :=
    (g_ob G a0 10).bind fun u1 =>
    (f_X10_open G a0).bind fun v1 =>
    g_nul v1
    ((g_i G a0 10 4).bind fun v8 =>
    if v8 = (12 : Int32) then
    some (3 : Int32)
    else
    (g_ob G a0 10).bind fun u24 =>
    (f_X10_entriesWith G a0 x1).bind fun v24 =>
    (g_ob G a0 10).bind fun u27 =>
    (f_X10_why G a0 x2 v24).bind fun v27 =>
    some v27)
    fun r1 =>
    (g_ob G a0 10).bind fun u24 =>
    (f_X10_entriesWith G a0 x1).bind fun v24 =>
    (g_ob G a0 10).bind fun u27 =>
    (f_X10_why G a0 x2 v24).bind fun v27 =>
    some v27
def f_X10_whyClose (G : gH) (a0 : Nat) : Option Int32 :=
    (g_ob G a0 10).bind fun u1 =>
    (f_X10_open G a0).bind fun v1 =>
    g_nul v1
    (some (1 : Int32))
    fun r1 =>
    (g_i G a0 10 3).bind fun v12 =>
    (g_ob G r1 12).bind fun u16 =>
    (f_X12_size G r1).bind fun v16 =>
    (g_ob G a0 10).bind fun u21 =>
    (f_X10_main G a0).bind fun v21 =>
    if (v12 + v16) ≤ v21 then
    (g_ob G r1 12).bind fun u33 =>
    (f_X12_size G r1).bind fun v33 =>
    (g_ob G a0 10).bind fun u36 =>
    (f_X10_spares G a0 v33).bind fun v36 =>
    if v36 = 0 then
    some (5 : Int32)
    else
    some (0 : Int32)
    else
    some (4 : Int32)
def f_X10_reads_L15 (G : gH) : Nat → Nat → Nat → Int32 → Int32 → Option Int32
  | 0, _, _, _, _ => none
  | n + 1, ba0, ba1, bx2, bx3 =>
    (g_i G ba1 12 5).bind fun v17 =>
    if v17 ≤ bx3 then
    g_z bx2
    else
    if bx2 = 0 then
    f_X10_reads_L15 G n ba0 ba1 (0 : Int32) (bx3 + (1 : Int32))
    else
    (g_r G ba0 10 13).bind fun v28 =>
    (g_r G ba1 12 7).bind fun v32 =>
    (g_ald 0 G v32 bx3).bind fun v36 =>
    (g_ald 1 G v28 v36).bind fun v37 =>
    if v37 = 0 then
    f_X10_reads_L15 G n ba0 ba1 (1 : Int32) (bx3 + (1 : Int32))
    else
    f_X10_reads_L15 G n ba0 ba1 (0 : Int32) (bx3 + (1 : Int32))
def f_X10_reads (G : gH) (a0 : Nat) (a1 : Nat) : Option Int32 :=
    (g_i G a1 12 3).bind fun v1 =>
    if v1 < 0 then
    f_X10_reads_L15 G g_N a0 a1 (0 : Int32) (0 : Int32)
    else
    f_X10_reads_L15 G g_N a0 a1 (1 : Int32) (0 : Int32)
def f_X10_reads__L4 (G : gH) : Nat → Nat → Nat → Int32 → Int32 → Option Int32
  | 0, _, _, _, _ => none
  | n + 1, ba0, ba1, bx2, bx3 =>
    (g_i G ba1 13 3).bind fun v6 =>
    if v6 ≤ bx3 then
    g_z bx2
    else
    if bx2 = 0 then
    f_X10_reads__L4 G n ba0 ba1 (0 : Int32) (bx3 + (1 : Int32))
    else
    (g_r G ba0 10 13).bind fun v17 =>
    (g_r G ba1 13 6).bind fun v21 =>
    (g_ald 0 G v21 bx3).bind fun v25 =>
    (g_ald 1 G v17 v25).bind fun v26 =>
    if v26 = 0 then
    f_X10_reads__L4 G n ba0 ba1 (1 : Int32) (bx3 + (1 : Int32))
    else
    f_X10_reads__L4 G n ba0 ba1 (0 : Int32) (bx3 + (1 : Int32))
def f_X10_reads_ (G : gH) (a0 : Nat) (a1 : Nat) : Option Int32 :=
    f_X10_reads__L4 G g_N a0 a1 (1 : Int32) (0 : Int32)
def f_X10_reaches_L46 (G : gH) : Nat → Nat → Int32 → Option Int32
  | 0, _, _ => none
  | n + 1, ba0, bx2 =>
    (g_i G ba0 10 4).bind fun v48 =>
    if v48 ≤ bx2 then
    some (1 : Int32)
    else
    (g_i G ba0 10 6).bind fun v55 =>
    if v55 = 0 then
    (g_r G ba0 10 16).bind fun v62 =>
    (g_rald 5 G v62 bx2).bind fun v66 =>
    g_nul v66
    (none)
    fun r66 =>
    (g_i G r66 12 0).bind fun v67 =>
    if v67 = (1 : Int32) then
    (g_r G ba0 10 16).bind fun v76 =>
    (g_rald 5 G v76 bx2).bind fun v80 =>
    g_nul v80
    (none)
    fun r80 =>
    (g_ob G ba0 10).bind fun u81 =>
    (f_X10_reads G ba0 r80).bind fun v81 =>
    if v81 = 0 then
    some (0 : Int32)
    else
    f_X10_reaches_L46 G n ba0 (bx2 + (1 : Int32))
    else
    f_X10_reaches_L46 G n ba0 (bx2 + (1 : Int32))
    else
    some (1 : Int32)
def f_X10_reaches (G : gH) (a0 : Nat) (x1 : Int32) : Option Int32 :=
    (g_r G a0 10 16).bind fun v1 =>
    (g_rald 5 G v1 x1).bind fun v5 =>
    g_nul v5
    (none)
    fun r5 =>
    (g_i G r5 12 0).bind fun v6 =>
    if v6 = 0 then
    some (1 : Int32)
    else
    (g_r G a0 10 16).bind fun v15 =>
    (g_rald 5 G v15 x1).bind fun v19 =>
    g_nul v19
    (none)
    fun r19 =>
    (g_i G r19 12 0).bind fun v20 =>
    if v20 = (1 : Int32) then
    (g_r G a0 10 16).bind fun v29 =>
    (g_rald 5 G v29 x1).bind fun v33 =>
    g_nul v33
    (none)
    fun r33 =>
    (g_ob G a0 10).bind fun u34 =>
    (f_X10_reads G a0 r33).bind fun v34 =>
    if v34 = 0 then
    some (0 : Int32)
    else
    f_X10_reaches_L46 G g_N a0 (x1 + (1 : Int32))
    else
    some (0 : Int32)
def f_X10_counting_L7 (G : gH) : Nat → Nat → Int32 → Int32 → Int32 → Option (Option Nat)
  | 0, _, _, _, _ => none
  | n + 1, ba0, bx1, bx2, bx3 =>
    if bx3 < 0 then
    some none
    else
    if bx2 ≤ bx3 then
    f_X10_counting_L7 G n ba0 bx1 bx2 (bx3 + (-1 : Int32))
    else
    (g_ob G ba0 10).bind fun u18 =>
    (f_X10_reaches G ba0 bx3).bind fun v18 =>
    if v18 = 0 then
    f_X10_counting_L7 G n ba0 bx1 bx2 (bx3 + (-1 : Int32))
    else
    (g_r G ba0 10 16).bind fun v25 =>
    (g_rald 5 G v25 bx3).bind fun v29 =>
    g_nul v29
    (none)
    fun r29 =>
    (g_ob G r29 12).bind fun u31 =>
    (f_X12_find G r29 bx1).bind fun v31 =>
    if v31 < 0 then
    f_X10_counting_L7 G n ba0 bx1 bx2 (bx3 + (-1 : Int32))
    else
    (g_r G ba0 10 16).bind fun v38 =>
    (g_rald 5 G v38 bx3).bind fun v42 =>
    g_nul v42
    (some none)
    fun r42 =>
    some (some r42)
def f_X10_counting (G : gH) (a0 : Nat) (x1 : Int32) (x2 : Int32) : Option (Option Nat) :=
    (g_i G a0 10 4).bind fun v1 =>
    f_X10_counting_L7 G g_N a0 x1 x2 (v1 - (1 : Int32))
def f_X10_version (G : gH) (a0 : Nat) (x1 : Int32) (x2 : Int32) : Option (Option Nat) :=
    (g_ob G a0 10).bind fun u3 =>
    (f_X10_counting G a0 x1 x2).bind fun v3 =>
    g_nul v3
    (some none)
    fun r3 =>
    (g_r G r3 12 8).bind fun v16 =>
    (g_ob G r3 12).bind fun u21 =>
    (f_X12_find G r3 x1).bind fun v21 =>
    (g_rald 6 G v16 v21).bind fun v24 =>
    g_nul v24
    (some none)
    fun r24 =>
    some (some r24)
def f_X10_whyErase (G : gH) (a0 : Nat) (x1 : Int32) : Option Int32 :=
    (g_ob G a0 10).bind fun u4 =>
    (f_X10_counting G a0 x1 (12 : Int32)).bind fun v4 =>
    g_nul v4
    (some (2 : Int32))
    fun r4 =>
    (g_r G r4 12 8).bind fun v13 =>
    (g_ob G r4 12).bind fun u18 =>
    (f_X12_find G r4 x1).bind fun v18 =>
    (g_rald 6 G v13 v18).bind fun v21 =>
    g_nul v21
    (some (2 : Int32))
    fun r21 =>
    (g_ob G a0 10).bind fun u28 =>
    (f_X10_open G a0).bind fun v28 =>
    g_nul v28
    ((g_i G a0 10 4).bind fun v35 =>
    if v35 = (12 : Int32) then
    some (3 : Int32)
    else
    (g_ob G a0 10).bind fun u51 =>
    (f_X10_entriesWith G a0 x1).bind fun v51 =>
    (g_ob G a0 10).bind fun u54 =>
    (f_X10_why G a0 (0 : Int32) v51).bind fun v54 =>
    some v54)
    fun r28 =>
    (g_ob G a0 10).bind fun u51 =>
    (f_X10_entriesWith G a0 x1).bind fun v51 =>
    (g_ob G a0 10).bind fun u54 =>
    (f_X10_why G a0 (0 : Int32) v51).bind fun v54 =>
    some v54
def f_X10_there_L4 (G : gH) : Nat → Nat → Int32 → Int32 → Int32 → Option Int32
  | 0, _, _, _, _ => none
  | n + 1, ba0, bx1, bx2, bx3 =>
    (g_i G ba0 10 2).bind fun v6 =>
    if v6 ≤ bx3 then
    some bx2
    else
    (g_ob G ba0 10).bind fun u16 =>
    (f_X10_version G ba0 bx3 bx1).bind fun v16 =>
    g_nul v16
    (f_X10_there_L4 G n ba0 bx1 (bx2 + (0 : Int32)) (bx3 + (1 : Int32)))
    fun r16 =>
    f_X10_there_L4 G n ba0 bx1 (bx2 + (1 : Int32)) (bx3 + (1 : Int32))
def f_X10_there (G : gH) (a0 : Nat) (x1 : Int32) : Option Int32 :=
    f_X10_there_L4 G g_N a0 x1 (0 : Int32) (0 : Int32)
def f_X10_good_L4 (G : gH) : Nat → Nat → Int32 → Int32 → Option Int32
  | 0, _, _, _ => none
  | n + 1, ba0, bx1, bx2 =>
    (g_i G ba0 10 2).bind fun v6 =>
    if v6 ≤ bx2 then
    some bx1
    else
    (g_ob G ba0 10).bind fun u16 =>
    (f_X10_version G ba0 bx2 (12 : Int32)).bind fun v16 =>
    g_nul v16
    (f_X10_good_L4 G n ba0 bx1 (bx2 + (1 : Int32)))
    fun r16 =>
    (g_ob G ba0 10).bind fun u26 =>
    (f_X10_reads_ G ba0 r16).bind fun v26 =>
    if v26 = 0 then
    f_X10_good_L4 G n ba0 bx1 (bx2 + (1 : Int32))
    else
    f_X10_good_L4 G n ba0 (bx1 ||| ((1 : Int32) <<< (bx2 &&& 31))) (bx2 + (1 : Int32))
def f_X10_good (G : gH) (a0 : Nat) : Option Int32 :=
    f_X10_good_L4 G g_N a0 (0 : Int32) (0 : Int32)
def f_X10_close_L65 : Nat → gH → Nat → Option Nat → Int32 → Option gH
  | 0, _, _, _, _ => none
  | n + 1, G, ba0, ba1, bx2 =>
    g_nul ba1 (none) fun ba1r =>
    (g_i G ba1r 12 5).bind fun v67 =>
    if v67 ≤ bx2 then
    (g_put G ba1r 12 0 (.int (1 : Int32))).bind fun G94 =>
    some G94
    else
    (g_r G ba1r 12 7).bind fun v74 =>
    (g_ob G ba0 10).bind fun u82 =>
    (f_X10_burn_n G ba0 (2 : Int32) bx2).bind fun q82 =>
    (g_ast 0 q82.1 v74 bx2 q82.2).bind fun G85 =>
    f_X10_close_L65 n G85 ba0 (some ba1r) (bx2 + (1 : Int32))
def f_X10_close_L28 : Nat → gH → Nat → Option Nat → Int32 → Option gH
  | 0, _, _, _, _ => none
  | n + 1, G, ba0, ba1, bx2 =>
    g_nul ba1 (if bx2 < 0 then
    f_X10_close_L65 g_N G ba0 none (0 : Int32)
    else
    none) fun ba1r =>
    if bx2 < 0 then
    f_X10_close_L65 g_N G ba0 (some ba1r) (0 : Int32)
    else
    (g_i G ba1r 12 4).bind fun v33 =>
    if 0 ≤ v33 then
    f_X10_close_L65 g_N G ba0 (some ba1r) (0 : Int32)
    else
    (g_r G ba0 10 16).bind fun v40 =>
    (g_rald 5 G v40 bx2).bind fun v44 =>
    g_nul v44
    (none)
    fun r44 =>
    (g_i G r44 12 0).bind fun v45 =>
    if v45 = (1 : Int32) then
    (g_put G ba1r 12 4 (.int bx2)).bind fun G54 =>
    f_X10_close_L28 n G54 ba0 (some ba1r) (bx2 + (-1 : Int32))
    else
    f_X10_close_L28 n G ba0 (some ba1r) (bx2 + (-1 : Int32))
def f_X10_close (G : gH) (a0 : Nat) : Option gH :=
    (g_ob G a0 10).bind fun u1 =>
    (f_X10_open G a0).bind fun v1 =>
    g_nul v1
    ((g_i G a0 10 3).bind fun v7 =>
    none)
    fun r1 =>
    (g_i G a0 10 3).bind fun v7 =>
    (g_put G r1 12 3 (.int v7)).bind fun G10 =>
    (g_ob G10 r1 12).bind fun u15 =>
    (f_X12_size G10 r1).bind fun v15 =>
    (g_put G10 r1 12 5 (.int v15)).bind fun G18 =>
    (g_i G18 a0 10 4).bind fun v22 =>
    f_X10_close_L28 g_N G18 a0 (some r1) (v22 - (2 : Int32))
def f_X10_lost_L81 (k31 : gH → Nat → Nat → Int32 → Int32 → Option (gH × Int32)) : Nat → gH → Nat → Nat → Int32 → Int32 → Int32 → Int32 → Option (gH × Int32)
  | 0, _, _, _, _, _, _, _ => none
  | n + 1, G, ba0, ba1, bx2, bx3, bx4, bx5 =>
    (g_i G ba0 10 5).bind fun v84 =>
    if v84 ≤ bx5 then
    if bx4 = 0 then
    (g_r G ba0 10 15).bind fun v174 =>
    (g_rald 6 G v174 bx3).bind fun v178 =>
    g_nul v178
    ((g_rast 6 G ba1 bx2 none).bind fun G179 =>
    k31 G179 ba0 ba1 (bx2 + (1 : Int32)) (bx3 + (1 : Int32)))
    fun r178 =>
    (g_ob G r178 13).bind fun u179 =>
    (g_rast 6 G ba1 bx2 (some r178)).bind fun G179 =>
    k31 G179 ba0 ba1 (bx2 + (1 : Int32)) (bx3 + (1 : Int32))
    else
    k31 G ba0 ba1 bx2 (bx3 + (1 : Int32))
    else
    if bx4 = 0 then
    (g_r G ba0 10 15).bind fun v96 =>
    (g_rald 6 G v96 bx5).bind fun v101 =>
    g_nul v101
    (none)
    fun r101 =>
    (g_i G r101 13 5).bind fun v102 =>
    (g_i G ba0 10 4).bind fun v106 =>
    if v102 = (v106 - (1 : Int32)) then
    (g_r G ba0 10 15).bind fun v115 =>
    (g_rald 6 G v115 bx5).bind fun v120 =>
    g_nul v120
    (none)
    fun r120 =>
    (g_i G r120 13 0).bind fun v121 =>
    (g_r G ba0 10 15).bind fun v125 =>
    (g_rald 6 G v125 bx3).bind fun v129 =>
    g_nul v129
    (none)
    fun r129 =>
    (g_i G r129 13 0).bind fun v130 =>
    if v121 = v130 then
    (g_r G ba0 10 15).bind fun v138 =>
    (g_rald 6 G v138 bx5).bind fun v143 =>
    g_nul v143
    (none)
    fun r143 =>
    (g_ob G ba0 10).bind fun u144 =>
    (f_X10_reads_ G ba0 r143).bind fun v144 =>
    if v144 = 0 then
    f_X10_lost_L81 k31 n G ba0 ba1 bx2 bx3 (0 : Int32) (bx5 + (1 : Int32))
    else
    f_X10_lost_L81 k31 n G ba0 ba1 bx2 bx3 (1 : Int32) (bx5 + (1 : Int32))
    else
    f_X10_lost_L81 k31 n G ba0 ba1 bx2 bx3 (0 : Int32) (bx5 + (1 : Int32))
    else
    f_X10_lost_L81 k31 n G ba0 ba1 bx2 bx3 (0 : Int32) (bx5 + (1 : Int32))
    else
    f_X10_lost_L81 k31 n G ba0 ba1 bx2 bx3 (1 : Int32) (bx5 + (1 : Int32))
def f_X10_lost_L31 : Nat → gH → Nat → Nat → Int32 → Int32 → Option (gH × Int32)
  | 0, _, _, _, _, _ => none
  | n + 1, G, ba0, ba1, bx2, bx3 =>
    (g_i G ba0 10 5).bind fun v33 =>
    if v33 ≤ bx3 then
    some (G, bx2)
    else
    (g_r G ba0 10 15).bind fun v40 =>
    (g_rald 6 G v40 bx3).bind fun v44 =>
    g_nul v44
    (none)
    fun r44 =>
    (g_i G r44 13 5).bind fun v45 =>
    (g_i G ba0 10 4).bind fun v49 =>
    if v45 = (v49 - (1 : Int32)) then
    (g_r G ba0 10 15).bind fun v59 =>
    (g_rald 6 G v59 bx3).bind fun v63 =>
    g_nul v63
    (none)
    fun r63 =>
    (g_ob G ba0 10).bind fun u64 =>
    (f_X10_reads_ G ba0 r63).bind fun v64 =>
    if v64 = 0 then
    f_X10_lost_L31 n G ba0 ba1 bx2 (bx3 + (1 : Int32))
    else
    f_X10_lost_L81 (f_X10_lost_L31 n) g_N G ba0 ba1 bx2 bx3 (0 : Int32) (bx3 + (1 : Int32))
    else
    f_X10_lost_L31 n G ba0 ba1 bx2 (bx3 + (1 : Int32))
def f_X10_lost (G : gH) (a0 : Nat) (a1 : Nat) : Option (gH × Int32) :=
    (g_i G a0 10 4).bind fun v3 =>
    if v3 = 0 then
    some (G, (0 : Int32))
    else
    (g_r G a0 10 16).bind fun v10 =>
    (g_i G a0 10 4).bind fun v14 =>
    (g_rald 5 G v10 (v14 - (1 : Int32))).bind fun v19 =>
    g_nul v19
    (none)
    fun r19 =>
    (g_i G r19 12 0).bind fun v20 =>
    if v20 = (2 : Int32) then
    f_X10_lost_L31 g_N G a0 a1 (0 : Int32) (0 : Int32)
    else
    some (G, (0 : Int32))
def f_X10_whyRecover (G : gH) (a0 : Nat) (x1 : Int32) : Option Int32 :=
    if x1 = 0 then
    some (2 : Int32)
    else
    (g_i G a0 10 4).bind fun v7 =>
    if v7 = (12 : Int32) then
    some (3 : Int32)
    else
    (g_i G a0 10 3).bind fun v24 =>
    (g_ob G a0 10).bind fun u30 =>
    (f_X10_main G a0).bind fun v30 =>
    if (v24 + ((x1 + (3 : Int32)) / (4 : Int32))) ≤ v30 then
    (g_ob G a0 10).bind fun u42 =>
    (f_X10_spares G a0 ((x1 + (3 : Int32)) / (4 : Int32))).bind fun v42 =>
    if v42 = 0 then
    some (5 : Int32)
    else
    some (0 : Int32)
    else
    some (4 : Int32)
def f_X10_use_J19 (G : gH) (ba0 : Nat) (bx1 : Int32) : Option Int32 :=
    (g_r G ba0 10 7).bind fun v20 =>
    (g_ald 0 G v20 bx1).bind fun v24 =>
    if v24 = 0 then
    some (0 : Int32)
    else
    (g_r G ba0 10 7).bind fun v33 =>
    (g_ald 0 G v33 bx1).bind fun v37 =>
    some (v37 + (1 : Int32))
def f_X10_use (G : gH) (a0 : Nat) (x1 : Int32) : Option Int32 :=
    (g_r G a0 10 7).bind fun v1 =>
    (g_ald 0 G v1 x1).bind fun v5 =>
    if v5 = 0 then
    f_X10_use_J19 G a0 x1
    else
    (g_r G a0 10 7).bind fun v10 =>
    (g_ald 0 G v10 x1).bind fun v14 =>
    if v14 ≤ (1 : Int32) then
    (g_r G a0 10 14).bind fun v43 =>
    (g_rald 6 G v43 x1).bind fun v47 =>
    g_nul v47
    (none)
    fun r47 =>
    (g_i G r47 13 0).bind fun v48 =>
    (g_ob G a0 10).bind fun u53 =>
    (f_X10_version G a0 v48 (12 : Int32)).bind fun v53 =>
    g_nul v53
    ((g_r G a0 10 14).bind fun v57 =>
    (g_rald 6 G v57 x1).bind fun v61 =>
    g_nul v61
    (some (1 : Int32))
    fun r61 =>
    some (2 : Int32))
    fun r53 =>
    (g_r G a0 10 14).bind fun v57 =>
    (g_rald 6 G v57 x1).bind fun v61 =>
    g_nul v61
    (some (2 : Int32))
    fun r61 =>
    if r53 = r61 then
    some (1 : Int32)
    else
    some (2 : Int32)
    else
    f_X10_use_J19 G a0 x1
def f_L_draw (G : gH) (a0 : Nat) (x1 : Int32) : Option (gH × Int32) :=
    (g_ald 0 G a0 (0 : Int32)).bind fun v4 =>
    (g_ast 0 G a0 (0 : Int32) ((v4 * (1664525 : Int32)) + (1013904223 : Int32))).bind fun G11 =>
    (g_ald 0 G11 a0 (0 : Int32)).bind fun v14 =>
    (g_rem ((v14.toUInt32 >>> ((8 : Int32).toUInt32 &&& Int32.toUInt32 31)).toInt32) x1).bind fun v19 =>
    some (G11, v19)
def f_J6_bitCount_0f7a4 (G : gH) (x0 : Int32) : Option Int32 :=
    some ((((((((x0 - ((x0.toUInt32 >>> ((1 : Int32).toUInt32 &&& Int32.toUInt32 31)).toInt32 &&& (1431655765 : Int32))) &&& (858993459 : Int32)) + (((x0 - ((x0.toUInt32 >>> ((1 : Int32).toUInt32 &&& Int32.toUInt32 31)).toInt32 &&& (1431655765 : Int32))).toUInt32 >>> ((2 : Int32).toUInt32 &&& Int32.toUInt32 31)).toInt32 &&& (858993459 : Int32))) + ((((x0 - ((x0.toUInt32 >>> ((1 : Int32).toUInt32 &&& Int32.toUInt32 31)).toInt32 &&& (1431655765 : Int32))) &&& (858993459 : Int32)) + (((x0 - ((x0.toUInt32 >>> ((1 : Int32).toUInt32 &&& Int32.toUInt32 31)).toInt32 &&& (1431655765 : Int32))).toUInt32 >>> ((2 : Int32).toUInt32 &&& Int32.toUInt32 31)).toInt32 &&& (858993459 : Int32))).toUInt32 >>> ((4 : Int32).toUInt32 &&& Int32.toUInt32 31)).toInt32) &&& (252645135 : Int32)) + ((((((x0 - ((x0.toUInt32 >>> ((1 : Int32).toUInt32 &&& Int32.toUInt32 31)).toInt32 &&& (1431655765 : Int32))) &&& (858993459 : Int32)) + (((x0 - ((x0.toUInt32 >>> ((1 : Int32).toUInt32 &&& Int32.toUInt32 31)).toInt32 &&& (1431655765 : Int32))).toUInt32 >>> ((2 : Int32).toUInt32 &&& Int32.toUInt32 31)).toInt32 &&& (858993459 : Int32))) + ((((x0 - ((x0.toUInt32 >>> ((1 : Int32).toUInt32 &&& Int32.toUInt32 31)).toInt32 &&& (1431655765 : Int32))) &&& (858993459 : Int32)) + (((x0 - ((x0.toUInt32 >>> ((1 : Int32).toUInt32 &&& Int32.toUInt32 31)).toInt32 &&& (1431655765 : Int32))).toUInt32 >>> ((2 : Int32).toUInt32 &&& Int32.toUInt32 31)).toInt32 &&& (858993459 : Int32))).toUInt32 >>> ((4 : Int32).toUInt32 &&& Int32.toUInt32 31)).toInt32) &&& (252645135 : Int32)).toUInt32 >>> ((8 : Int32).toUInt32 &&& Int32.toUInt32 31)).toInt32) + (((((((x0 - ((x0.toUInt32 >>> ((1 : Int32).toUInt32 &&& Int32.toUInt32 31)).toInt32 &&& (1431655765 : Int32))) &&& (858993459 : Int32)) + (((x0 - ((x0.toUInt32 >>> ((1 : Int32).toUInt32 &&& Int32.toUInt32 31)).toInt32 &&& (1431655765 : Int32))).toUInt32 >>> ((2 : Int32).toUInt32 &&& Int32.toUInt32 31)).toInt32 &&& (858993459 : Int32))) + ((((x0 - ((x0.toUInt32 >>> ((1 : Int32).toUInt32 &&& Int32.toUInt32 31)).toInt32 &&& (1431655765 : Int32))) &&& (858993459 : Int32)) + (((x0 - ((x0.toUInt32 >>> ((1 : Int32).toUInt32 &&& Int32.toUInt32 31)).toInt32 &&& (1431655765 : Int32))).toUInt32 >>> ((2 : Int32).toUInt32 &&& Int32.toUInt32 31)).toInt32 &&& (858993459 : Int32))).toUInt32 >>> ((4 : Int32).toUInt32 &&& Int32.toUInt32 31)).toInt32) &&& (252645135 : Int32)) + ((((((x0 - ((x0.toUInt32 >>> ((1 : Int32).toUInt32 &&& Int32.toUInt32 31)).toInt32 &&& (1431655765 : Int32))) &&& (858993459 : Int32)) + (((x0 - ((x0.toUInt32 >>> ((1 : Int32).toUInt32 &&& Int32.toUInt32 31)).toInt32 &&& (1431655765 : Int32))).toUInt32 >>> ((2 : Int32).toUInt32 &&& Int32.toUInt32 31)).toInt32 &&& (858993459 : Int32))) + ((((x0 - ((x0.toUInt32 >>> ((1 : Int32).toUInt32 &&& Int32.toUInt32 31)).toInt32 &&& (1431655765 : Int32))) &&& (858993459 : Int32)) + (((x0 - ((x0.toUInt32 >>> ((1 : Int32).toUInt32 &&& Int32.toUInt32 31)).toInt32 &&& (1431655765 : Int32))).toUInt32 >>> ((2 : Int32).toUInt32 &&& Int32.toUInt32 31)).toInt32 &&& (858993459 : Int32))).toUInt32 >>> ((4 : Int32).toUInt32 &&& Int32.toUInt32 31)).toInt32) &&& (252645135 : Int32)).toUInt32 >>> ((8 : Int32).toUInt32 &&& Int32.toUInt32 31)).toInt32).toUInt32 >>> ((16 : Int32).toUInt32 &&& Int32.toUInt32 31)).toInt32) &&& (63 : Int32))

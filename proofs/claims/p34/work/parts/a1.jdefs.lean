/-! By program (wip/p34/tools/jlift.py). -/
def f_J6_stringSize_0f7a4_L16 (G : gH) : Nat → Int32 → Int32 → Int32 → Int32 → Option Int32
  | 0, _, _, _, _ => none
  | n + 1, bx0, bx1, bx2, bx3 =>
    if (10 : Int32) ≤ bx3 then
    some ((10 : Int32) + bx1)
    else
    if bx0 ≤ bx2 then
    f_J6_stringSize_0f7a4_L16 G n bx0 bx1 ((10 : Int32) * bx2) (bx3 + (1 : Int32))
    else
    some (bx3 + bx1)
def f_J6_stringSize_0f7a4 (G : gH) (x0 : Int32) : Option Int32 :=
    if x0 < 0 then
    f_J6_stringSize_0f7a4_L16 G g_N x0 (1 : Int32) (-10 : Int32) (1 : Int32)
    else
    f_J6_stringSize_0f7a4_L16 G g_N (-x0) (0 : Int32) (-10 : Int32) (1 : Int32)
def f_J6_getChars_ba4f3_J104 (G : gH) (ba2 : Nat) (bx5 : Int32) (bx6 : Int32) : Option (gH × Int32) :=
    if bx6 = 0 then
    some (G, bx5)
    else
    (g_ast 2 G ba2 (bx5 + (-1 : Int32)) (45 : Int32)).bind fun G117 =>
    some (G117, (bx5 + (-1 : Int32)))
def f_J6_getChars_ba4f3_L22 : Nat → gH → Int32 → Nat → Int32 → Int32 → Option (gH × Int32)
  | 0, _, _, _, _, _ => none
  | n + 1, G, bx0, ba2, bx5, bx6 =>
    if (-100 : Int32) < bx0 then
    (g_dig 0 (-bx0)).bind fun v83 =>
    (g_ast 2 G ba2 (bx5 + (-1 : Int32)) v83).bind fun G84 =>
    if (-9 : Int32) ≤ bx0 then
    f_J6_getChars_ba4f3_J104 G84 ba2 (bx5 + (-1 : Int32)) bx6
    else
    (g_dig 1 (-bx0)).bind fun v102 =>
    (g_ast 2 G84 ba2 ((bx5 + (-1 : Int32)) + (-1 : Int32)) v102).bind fun G103 =>
    f_J6_getChars_ba4f3_J104 G103 ba2 ((bx5 + (-1 : Int32)) + (-1 : Int32)) bx6
    else
    (g_dig 0 (((bx0 / (100 : Int32)) * (100 : Int32)) - bx0)).bind fun v54 =>
    (g_ast 2 G ba2 (bx5 + (-1 : Int32)) v54).bind fun G55 =>
    (g_dig 1 (((bx0 / (100 : Int32)) * (100 : Int32)) - bx0)).bind fun v67 =>
    (g_ast 2 G55 ba2 ((bx5 + (-1 : Int32)) + (-1 : Int32)) v67).bind fun G68 =>
    f_J6_getChars_ba4f3_L22 n G68 (bx0 / (100 : Int32)) ba2 ((bx5 + (-1 : Int32)) + (-1 : Int32)) bx6
def f_J6_getChars_ba4f3_J12 (G : gH) (bx0 : Int32) (ba2 : Nat) (bx5 : Int32) (z0 : Int32) : Option (gH × Int32) :=
    if z0 = 0 then
    f_J6_getChars_ba4f3_L22 g_N G (-bx0) ba2 bx5 z0
    else
    f_J6_getChars_ba4f3_L22 g_N G bx0 ba2 bx5 z0
def f_J6_getChars_ba4f3 (G : gH) (x0 : Int32) (x1 : Int32) (a2 : Nat) : Option (gH × Int32) :=
    if 0 ≤ x0 then
    f_J6_getChars_ba4f3_J12 G x0 a2 x1 (0 : Int32)
    else
    f_J6_getChars_ba4f3_J12 G x0 a2 x1 (1 : Int32)
def f_J1_canEncode_fc78d (G : gH) (x0 : Int32) : Option Int32 :=
    if (255 : Int32) < x0 then
    some (0 : Int32)
    else
    some (1 : Int32)
def f_J1_charAt_3b067 (G : gH) (a0 : Nat) (x1 : Int32) : Option Int32 :=
    (g_len G a0).bind fun v2 =>
    (f_J0_checkIndex_df160 G x1 v2).bind fun v3 =>
    (g_ald 2 G a0 x1).bind fun v8 =>
    g_c (((v8 &&& (255 : Int32)).toUInt32 % 65536).toInt32)
def f_J0_coder_7d493_A (G : gH) (a0 : Nat) : Option Int32 :=
    if (1 : Int32) = 0 then
    some (1 : Int32)
    else
    (g_i G a0 14 1).bind fun v7 =>
    g_b v7
def f_J0_coder_7d493_U (G : gH) (x0 : Nat) : Option Int32 :=
    if (1 : Int32) = 0 then
    some (1 : Int32)
    else
    (g_six x0).bind fun u7 =>
    some (0 : Int32)
def f_J0_isLatin1_aae02_A (G : gH) (a0 : Nat) : Option Int32 :=
    if (1 : Int32) = 0 then
    some (0 : Int32)
    else
    (g_i G a0 14 1).bind fun v7 =>
    if v7 = 0 then
    some (1 : Int32)
    else
    some (0 : Int32)
def f_J0_length_8abf5_A (G : gH) (a0 : Nat) : Option Int32 :=
    (g_r G a0 14 0).bind fun v1 =>
    (g_len G v1).bind fun v4 =>
    (g_ob G a0 14).bind fun u6 =>
    (f_J0_coder_7d493_A G a0).bind fun v6 =>
    some (v4 >>> (v6 &&& 31))
def f_J0_length_8abf5_U (G : gH) (x0 : Nat) : Option Int32 :=
    (g_six x0).bind fun u1 =>
    (g_six x0).bind fun u6 =>
    (f_J0_coder_7d493_U G x0).bind fun v6 =>
    some ((Int32.ofNat (g_lenL.getD x0 0)) >>> (v6 &&& 31))
def f_J0_charAt_5068e_A (G : gH) (a0 : Nat) (x1 : Int32) : Option Int32 :=
    (g_ob G a0 14).bind fun u1 =>
    (f_J0_isLatin1_aae02_A G a0).bind fun v1 =>
    if v1 = 0 then
    none
    else
    (g_r G a0 14 0).bind fun v8 =>
    (f_J1_charAt_3b067 G v8 x1).bind fun v12 =>
    g_c v12
def f_J5_isLatin1_aae02 (G : gH) (a0 : Nat) : Option Int32 :=
    if (1 : Int32) = 0 then
    some (0 : Int32)
    else
    (g_i G a0 15 1).bind fun v7 =>
    if v7 = 0 then
    some (1 : Int32)
    else
    some (0 : Int32)
def f_J5_length_8abf5 (G : gH) (a0 : Nat) : Option Int32 :=
    (g_i G a0 15 3).bind fun v1 =>
    some v1
def f_J8_newLength_cabcc_J21 (G : gH) : Option Int32 :=
    none
def f_J8_newLength_cabcc (G : gH) (x0 : Int32) (x1 : Int32) (x2 : Int32) : Option Int32 :=
    if (x0 + (if x1 < x2 then x2 else x1)) ≤ (0 : Int32) then
    f_J8_newLength_cabcc_J21 G
    else
    if (2147483639 : Int32) < (x0 + (if x1 < x2 then x2 else x1)) then
    f_J8_newLength_cabcc_J21 G
    else
    some (x0 + (if x1 < x2 then x2 else x1))
def f_J5_newCapacity_0f7a4 (G : gH) (a0 : Nat) (x1 : Int32) : Option Int32 :=
    (g_r G a0 15 0).bind fun v1 =>
    (g_len G v1).bind fun v4 =>
    (g_i G a0 15 1).bind fun v8 =>
    (g_i G a0 15 1).bind fun v24 =>
    (f_J8_newLength_cabcc G v4 ((x1 <<< (v8 &&& 31)) - v4) (v4 + ((2 : Int32) <<< (v24 &&& 31)))).bind fun v29 =>
    if v29 = (2147483647 : Int32) then
    none
    else
    (g_i G a0 15 1).bind fun v54 =>
    some (v29 >>> (v54 &&& 31))
def w_J5_getValue_6d5f1 (MC MS : Nat) (G : gH) (a0 : Nat) (K : Option Nat → gH → Prop) : Prop :=
    ∃ v1, g_r G a0 15 0 = some v1 ∧
    0 ≤ MC ∧ 0 ≤ MS ∧ K (some v1) G
def w_J5_inflateIfNeededFor_a7421_A (MC MS : Nat) (G : gH) (a0 : Nat) (a1 : Nat) (K : gH → Prop) : Prop :=
    if (1 : Int32) = 0 then
    0 ≤ MC ∧ 0 ≤ MS ∧ K G
    else
    ∃ v7, g_i G a0 15 1 = some v7 ∧
    ∃ C11 R11 : gH, gd C11 R11 ∧ G = gj C11 R11 ∧
    ∃ u11, g_ob C11 a1 14 = some u11 ∧
    (0 + 0 ≤ MC ∧ 0 + 0 ≤ MS) ∧
    ∃ v11, f_J0_coder_7d493_A C11 a1 = some v11 ∧
    if v7 = v11 then
    0 ≤ MC ∧ 0 ≤ MS ∧ K G
    else
    False
def w_J5_inflateIfNeededFor_a7421_U (MC MS : Nat) (G : gH) (a0 : Nat) (x1 : Nat) (K : gH → Prop) : Prop :=
    if (1 : Int32) = 0 then
    0 ≤ MC ∧ 0 ≤ MS ∧ K G
    else
    ∃ v7, g_i G a0 15 1 = some v7 ∧
    ∃ C11 R11 : gH, gd C11 R11 ∧ G = gj C11 R11 ∧
    ∃ u11, g_six x1 = some u11 ∧
    (0 + 0 ≤ MC ∧ 0 + 0 ≤ MS) ∧
    ∃ v11, f_J0_coder_7d493_U C11 x1 = some v11 ∧
    if v7 = v11 then
    0 ≤ MC ∧ 0 ≤ MS ∧ K G
    else
    False
def w_J0_getBytes_840e7_A (MC MS : Nat) (G : gH) (a0 : Nat) (a1 : Nat) (x2 : Int32) (x3 : Int32) (K : gH → Prop) : Prop :=
    ∃ C1 R1 : gH, gd C1 R1 ∧ G = gj C1 R1 ∧
    ∃ u1, g_ob C1 a0 14 = some u1 ∧
    (0 + 0 ≤ MC ∧ 0 + 0 ≤ MS) ∧
    ∃ v1, f_J0_coder_7d493_A C1 a0 = some v1 ∧
    if v1 = x3 then
    ∃ v9, g_r G a0 14 0 = some v9 ∧
    ∃ v18, g_r G a0 14 0 = some v18 ∧
    ∃ v21, g_len G v18 = some v21 ∧
    g_cpyW G v9 (0 : Int32) a1 (x2 <<< (x3 &&& 31)) v21 (fun G22 =>
    0 ≤ MC ∧ 0 ≤ MS ∧ K G22)
    else
    False
def w_J0_getBytes_840e7_U (MC MS : Nat) (G : gH) (x0 : Nat) (a1 : Nat) (x2 : Int32) (x3 : Int32) (K : gH → Prop) : Prop :=
    ∃ C1 R1 : gH, gd C1 R1 ∧ G = gj C1 R1 ∧
    ∃ u1, g_six x0 = some u1 ∧
    (0 + 0 ≤ MC ∧ 0 + 0 ≤ MS) ∧
    ∃ v1, f_J0_coder_7d493_U C1 x0 = some v1 ∧
    if v1 = x3 then
    ∃ u9, g_six x0 = some u9 ∧
    ∃ u18, g_six x0 = some u18 ∧
    g_cpyUW G x0 (0 : Int32) a1 (x2 <<< (x3 &&& 31)) (Int32.ofNat (g_lenL.getD x0 0)) (fun G22 =>
    0 ≤ MC ∧ 0 ≤ MS ∧ K G22)
    else
    False
def w_J5_putStringAt_47b60_A (MC MS : Nat) (G : gH) (a0 : Nat) (x1 : Int32) (a2 : Nat) (K : gH → Prop) : Prop :=
    ∃ C2 R2 : gH, gd C2 R2 ∧ G = gj C2 R2 ∧
    ∃ u2, g_ob C2 a0 15 = some u2 ∧
    (0 + 0 ≤ MC ∧ 0 + 0 ≤ MS) ∧
    w_J5_inflateIfNeededFor_a7421_A 0 0 C2 a0 a2 (fun D2 => ∀ G2 : gH, gd D2 R2 → G2 = gj D2 R2 →
    ∃ v7, g_r G2 a0 15 0 = some v7 ∧
    ∃ v12, g_i G2 a0 15 1 = some v12 ∧
    ∃ C15 R15 : gH, gd C15 R15 ∧ G2 = gj C15 R15 ∧
    ∃ u15, g_ob C15 a2 14 = some u15 ∧
    ((0 + 0) + 0 ≤ MC ∧ (0 + 0) + 0 ≤ MS) ∧
    w_J0_getBytes_840e7_A 0 0 C15 a2 v7 x1 v12 (fun D15 => ∀ G15 : gH, gd D15 R15 → G15 = gj D15 R15 →
    ((0 + 0) + 0) ≤ MC ∧ ((0 + 0) + 0) ≤ MS ∧ K G15))
def w_J5_putStringAt_47b60_U (MC MS : Nat) (G : gH) (a0 : Nat) (x1 : Int32) (x2 : Nat) (K : gH → Prop) : Prop :=
    ∃ C2 R2 : gH, gd C2 R2 ∧ G = gj C2 R2 ∧
    ∃ u2, g_ob C2 a0 15 = some u2 ∧
    (0 + 0 ≤ MC ∧ 0 + 0 ≤ MS) ∧
    w_J5_inflateIfNeededFor_a7421_U 0 0 C2 a0 x2 (fun D2 => ∀ G2 : gH, gd D2 R2 → G2 = gj D2 R2 →
    ∃ v7, g_r G2 a0 15 0 = some v7 ∧
    ∃ v12, g_i G2 a0 15 1 = some v12 ∧
    ∃ C15 R15 : gH, gd C15 R15 ∧ G2 = gj C15 R15 ∧
    ∃ u15, g_six x2 = some u15 ∧
    ((0 + 0) + 0 ≤ MC ∧ (0 + 0) + 0 ≤ MS) ∧
    w_J0_getBytes_840e7_U 0 0 C15 x2 v7 x1 v12 (fun D15 => ∀ G15 : gH, gd D15 R15 → G15 = gj D15 R15 →
    ((0 + 0) + 0) ≤ MC ∧ ((0 + 0) + 0) ≤ MS ∧ K G15))
def w_J7_copyOf_9075b (MC MS : Nat) (G : gH) (a0 : Nat) (x1 : Int32) (K : Option Nat → gH → Prop) : Prop :=
    ∃ v2, g_len G a0 = some v2 ∧
    if x1 = v2 then
    g_clnW MC MS G a0 0 0 (fun n7 q7 G7 =>
    ∃ u10, g_isb G7 q7 = some u10 ∧
    (0 + 1) ≤ MC ∧ (0 + n7) ≤ MS ∧ K (some q7) G7)
    else
    g_newbW MC MS G x1 0 0 (fun q15 G15 =>
    ∃ v23, g_len G15 a0 = some v23 ∧
    ((0 + 1) + 0 ≤ MC ∧ (0 + x1.toNatClampNeg) + 0 ≤ MS) ∧
    g_cpyW G15 a0 (0 : Int32) q15 (0 : Int32) (if x1 < v23 then x1 else v23) (fun G28 =>
    (0 + 1) ≤ MC ∧ (0 + x1.toNatClampNeg) ≤ MS ∧ K (some q15) G28))
def w_J7_copyOfRangeByte_39247 (MC MS : Nat) (G : gH) (a0 : Nat) (x1 : Int32) (x2 : Int32) (K : Option Nat → gH → Prop) : Prop :=
    ∃ C2 R2 : gH, gd C2 R2 ∧ G = gj C2 R2 ∧
    (0 + 0 ≤ MC ∧ 0 + 0 ≤ MS) ∧
    ∃ v2, f_J7_checkLength_df160 C2 x1 x2 = some v2 ∧
    g_newbW MC MS G (x2 - x1) 0 0 (fun q10 G10 =>
    ∃ v20, g_len G10 a0 = some v20 ∧
    ((0 + 1) + 0 ≤ MC ∧ (0 + (x2 - x1).toNatClampNeg) + 0 ≤ MS) ∧
    g_cpyW G10 a0 x1 q10 (0 : Int32) (if (x2 - x1) < (v20 - x1) then (x2 - x1) else (v20 - x1)) (fun G27 =>
    (0 + 1) ≤ MC ∧ (0 + (x2 - x1).toNatClampNeg) ≤ MS ∧ K (some q10) G27))
def w_J7_copyOfRange_39247 (MC MS : Nat) (G : gH) (a0 : Nat) (x1 : Int32) (x2 : Int32) (K : Option Nat → gH → Prop) : Prop :=
    if x1 = 0 then
    ∃ v6, g_len G a0 = some v6 ∧
    if x2 = v6 then
    g_clnW MC MS G a0 0 0 (fun n18 q18 G18 =>
    ∃ u21, g_isb G18 q18 = some u21 ∧
    (0 + 1) ≤ MC ∧ (0 + n18) ≤ MS ∧ K (some q18) G18)
    else
    ∃ C13 R13 : gH, gd C13 R13 ∧ G = gj C13 R13 ∧
    (0 + 1 ≤ MC ∧ 0 + 1000 ≤ MS) ∧
    w_J7_copyOfRangeByte_39247 1 1000 C13 a0 x1 x2 (fun v13 D13 => ∀ G13 : gH, gd D13 R13 → G13 = gj D13 R13 →
    ∃ r13, v13 = some r13 ∧
    (0 + 1) ≤ MC ∧ (0 + 1000) ≤ MS ∧ K (some r13) G13)
    else
    ∃ C13 R13 : gH, gd C13 R13 ∧ G = gj C13 R13 ∧
    (0 + 1 ≤ MC ∧ 0 + 1000 ≤ MS) ∧
    w_J7_copyOfRangeByte_39247 1 1000 C13 a0 x1 x2 (fun v13 D13 => ∀ G13 : gH, gd D13 R13 → G13 = gj D13 R13 →
    ∃ r13, v13 = some r13 ∧
    (0 + 1) ≤ MC ∧ (0 + 1000) ≤ MS ∧ K (some r13) G13)
def w_J5_ensureCapacityInternal_d00df (MC MS : Nat) (G : gH) (a0 : Nat) (x1 : Int32) (K : gH → Prop) : Prop :=
    ∃ v1, g_r G a0 15 0 = some v1 ∧
    ∃ v4, g_len G v1 = some v4 ∧
    ∃ v6, g_i G a0 15 1 = some v6 ∧
    if (x1 - (v4 >>> (v6 &&& 31))) ≤ 0 then
    0 ≤ MC ∧ 0 ≤ MS ∧ K G
    else
    ∃ v19, g_r G a0 15 0 = some v19 ∧
    ∃ C24 R24 : gH, gd C24 R24 ∧ G = gj C24 R24 ∧
    ∃ u24, g_ob C24 a0 15 = some u24 ∧
    (0 + 0 ≤ MC ∧ 0 + 0 ≤ MS) ∧
    ∃ v24, f_J5_newCapacity_0f7a4 C24 a0 x1 = some v24 ∧
    ∃ v28, g_i G a0 15 1 = some v28 ∧
    ∃ C32 R32 : gH, gd C32 R32 ∧ G = gj C32 R32 ∧
    (0 + 1 ≤ MC ∧ 0 + 1000 ≤ MS) ∧
    w_J7_copyOf_9075b 1 1000 C32 v19 (v24 <<< (v28 &&& 31)) (fun v32 D32 => ∀ G32 : gH, gd D32 R32 → G32 = gj D32 R32 →
    ∃ r32, v32 = some r32 ∧
    ∃ G35, g_put G32 a0 15 0 (.ref r32) = some G35 ∧
    (0 + 1) ≤ MC ∧ (0 + 1000) ≤ MS ∧ K G35)
def w_J5_append_cf1ce_A (MC MS : Nat) (G : gH) (a0 : Nat) (a1 : Nat) (K : Option Nat → gH → Prop) : Prop :=
    ∃ C10 R10 : gH, gd C10 R10 ∧ G = gj C10 R10 ∧
    ∃ u10, g_ob C10 a1 14 = some u10 ∧
    (0 + 0 ≤ MC ∧ 0 + 0 ≤ MS) ∧
    ∃ v10, f_J0_length_8abf5_A C10 a1 = some v10 ∧
    ∃ v16, g_i G a0 15 3 = some v16 ∧
    ∃ C21 R21 : gH, gd C21 R21 ∧ G = gj C21 R21 ∧
    ∃ u21, g_ob C21 a0 15 = some u21 ∧
    (0 + 1 ≤ MC ∧ 0 + 1000 ≤ MS) ∧
    w_J5_ensureCapacityInternal_d00df 1 1000 C21 a0 (v16 + v10) (fun D21 => ∀ G21 : gH, gd D21 R21 → G21 = gj D21 R21 →
    ∃ v26, g_i G21 a0 15 3 = some v26 ∧
    ∃ C30 R30 : gH, gd C30 R30 ∧ G21 = gj C30 R30 ∧
    ∃ u30, g_ob C30 a0 15 = some u30 ∧
    ((0 + 1) + 0 ≤ MC ∧ (0 + 1000) + 0 ≤ MS) ∧
    w_J5_putStringAt_47b60_A 0 0 C30 a0 v26 a1 (fun D30 => ∀ G30 : gH, gd D30 R30 → G30 = gj D30 R30 →
    ∃ v35, g_i G30 a0 15 3 = some v35 ∧
    ∃ G40, g_put G30 a0 15 3 (.int (v35 + v10)) = some G40 ∧
    ((0 + 1) + 0) ≤ MC ∧ ((0 + 1000) + 0) ≤ MS ∧ K (some a0) G40))
def w_J5_append_cf1ce_U (MC MS : Nat) (G : gH) (a0 : Nat) (x1 : Nat) (K : Option Nat → gH → Prop) : Prop :=
    ∃ C10 R10 : gH, gd C10 R10 ∧ G = gj C10 R10 ∧
    ∃ u10, g_six x1 = some u10 ∧
    (0 + 0 ≤ MC ∧ 0 + 0 ≤ MS) ∧
    ∃ v10, f_J0_length_8abf5_U C10 x1 = some v10 ∧
    ∃ v16, g_i G a0 15 3 = some v16 ∧
    ∃ C21 R21 : gH, gd C21 R21 ∧ G = gj C21 R21 ∧
    ∃ u21, g_ob C21 a0 15 = some u21 ∧
    (0 + 1 ≤ MC ∧ 0 + 1000 ≤ MS) ∧
    w_J5_ensureCapacityInternal_d00df 1 1000 C21 a0 (v16 + v10) (fun D21 => ∀ G21 : gH, gd D21 R21 → G21 = gj D21 R21 →
    ∃ v26, g_i G21 a0 15 3 = some v26 ∧
    ∃ C30 R30 : gH, gd C30 R30 ∧ G21 = gj C30 R30 ∧
    ∃ u30, g_ob C30 a0 15 = some u30 ∧
    ((0 + 1) + 0 ≤ MC ∧ (0 + 1000) + 0 ≤ MS) ∧
    w_J5_putStringAt_47b60_U 0 0 C30 a0 v26 x1 (fun D30 => ∀ G30 : gH, gd D30 R30 → G30 = gj D30 R30 →
    ∃ v35, g_i G30 a0 15 3 = some v35 ∧
    ∃ G40, g_put G30 a0 15 3 (.int (v35 + v10)) = some G40 ∧
    ((0 + 1) + 0) ≤ MC ∧ ((0 + 1000) + 0) ≤ MS ∧ K (some a0) G40))
def w_J5_append_3fe6f_J45 (MC MS : Nat) (K : Option Nat → gH → Prop) (G : gH) (kc : Nat) (ks : Nat) : Prop :=
    False
def w_J5_append_3fe6f (MC MS : Nat) (G : gH) (a0 : Nat) (x1 : Int32) (K : Option Nat → gH → Prop) : Prop :=
    ∃ v2, g_i G a0 15 3 = some v2 ∧
    ∃ C7 R7 : gH, gd C7 R7 ∧ G = gj C7 R7 ∧
    ∃ u7, g_ob C7 a0 15 = some u7 ∧
    (0 + 1 ≤ MC ∧ 0 + 1000 ≤ MS) ∧
    w_J5_ensureCapacityInternal_d00df 1 1000 C7 a0 (v2 + (1 : Int32)) (fun D7 => ∀ G7 : gH, gd D7 R7 → G7 = gj D7 R7 →
    ∃ C11 R11 : gH, gd C11 R11 ∧ G7 = gj C11 R11 ∧
    ∃ u11, g_ob C11 a0 15 = some u11 ∧
    ((0 + 1) + 0 ≤ MC ∧ (0 + 1000) + 0 ≤ MS) ∧
    ∃ v11, f_J5_isLatin1_aae02 C11 a0 = some v11 ∧
    if v11 = 0 then
    w_J5_append_3fe6f_J45 MC MS K G7 (0 + 1) (0 + 1000)
    else
    ∃ C18 R18 : gH, gd C18 R18 ∧ G7 = gj C18 R18 ∧
    ((0 + 1) + 0 ≤ MC ∧ (0 + 1000) + 0 ≤ MS) ∧
    ∃ v18, f_J1_canEncode_fc78d C18 x1 = some v18 ∧
    if v18 = 0 then
    w_J5_append_3fe6f_J45 MC MS K G7 (0 + 1) (0 + 1000)
    else
    ∃ v25, g_r G7 a0 15 0 = some v25 ∧
    ∃ v30, g_i G7 a0 15 3 = some v30 ∧
    ∃ G36, g_put G7 a0 15 3 (.int (v30 + (1 : Int32))) = some G36 ∧
    ∃ G41, g_ast 2 G36 v25 v30 x1.toInt8.toInt32 = some G41 ∧
    (0 + 1) ≤ MC ∧ (0 + 1000) ≤ MS ∧ K (some a0) G41)
def w_J5_append_c97b9 (MC MS : Nat) (G : gH) (a0 : Nat) (x1 : Int32) (K : Option Nat → gH → Prop) : Prop :=
    ∃ v1, g_i G a0 15 3 = some v1 ∧
    ∃ C7 R7 : gH, gd C7 R7 ∧ G = gj C7 R7 ∧
    (0 + 0 ≤ MC ∧ 0 + 0 ≤ MS) ∧
    ∃ v7, f_J6_stringSize_0f7a4 C7 x1 = some v7 ∧
    ∃ C14 R14 : gH, gd C14 R14 ∧ G = gj C14 R14 ∧
    ∃ u14, g_ob C14 a0 15 = some u14 ∧
    (0 + 1 ≤ MC ∧ 0 + 1000 ≤ MS) ∧
    w_J5_ensureCapacityInternal_d00df 1 1000 C14 a0 (v1 + v7) (fun D14 => ∀ G14 : gH, gd D14 R14 → G14 = gj D14 R14 →
    ∃ C18 R18 : gH, gd C18 R18 ∧ G14 = gj C18 R18 ∧
    ∃ u18, g_ob C18 a0 15 = some u18 ∧
    ((0 + 1) + 0 ≤ MC ∧ (0 + 1000) + 0 ≤ MS) ∧
    ∃ v18, f_J5_isLatin1_aae02 C18 a0 = some v18 ∧
    if v18 = 0 then
    False
    else
    ∃ v27, g_r G14 a0 15 0 = some v27 ∧
    ∃ C30 R30 : gH, gd C30 R30 ∧ G14 = gj C30 R30 ∧
    ((0 + 1) + 0 ≤ MC ∧ (0 + 1000) + 0 ≤ MS) ∧
    ∃ q30, f_J6_getChars_ba4f3 C30 x1 (v1 + v7) v27 = some q30 ∧ ∀ G30 : gH, gd q30.1 R30 → G30 = gj q30.1 R30 →
    ∃ G50, g_put G30 a0 15 3 (.int (v1 + v7)) = some G50 ∧
    (0 + 1) ≤ MC ∧ (0 + 1000) ≤ MS ∧ K (some a0) G50)
def w_J4_append_15ec4_A (MC MS : Nat) (G : gH) (a0 : Nat) (a1 : Nat) (K : Option Nat → gH → Prop) : Prop :=
    ∃ C2 R2 : gH, gd C2 R2 ∧ G = gj C2 R2 ∧
    ∃ u2, g_ob C2 a0 15 = some u2 ∧
    (0 + 1 ≤ MC ∧ 0 + 1000 ≤ MS) ∧
    w_J5_append_cf1ce_A 1 1000 C2 a0 a1 (fun v2 D2 => ∀ G2 : gH, gd D2 R2 → G2 = gj D2 R2 →
    ∃ r2, v2 = some r2 ∧
    (0 + 1) ≤ MC ∧ (0 + 1000) ≤ MS ∧ K (some a0) G2)
def w_J4_append_15ec4_U (MC MS : Nat) (G : gH) (a0 : Nat) (x1 : Nat) (K : Option Nat → gH → Prop) : Prop :=
    ∃ C2 R2 : gH, gd C2 R2 ∧ G = gj C2 R2 ∧
    ∃ u2, g_ob C2 a0 15 = some u2 ∧
    (0 + 1 ≤ MC ∧ 0 + 1000 ≤ MS) ∧
    w_J5_append_cf1ce_U 1 1000 C2 a0 x1 (fun v2 D2 => ∀ G2 : gH, gd D2 R2 → G2 = gj D2 R2 →
    ∃ r2, v2 = some r2 ∧
    (0 + 1) ≤ MC ∧ (0 + 1000) ≤ MS ∧ K (some a0) G2)
def w_J4_append_cf1ce_A (MC MS : Nat) (G : gH) (a0 : Nat) (a1 : Nat) (K : Option Nat → gH → Prop) : Prop :=
    ∃ C2 R2 : gH, gd C2 R2 ∧ G = gj C2 R2 ∧
    ∃ u2, g_ob C2 a0 15 = some u2 ∧
    (0 + 1 ≤ MC ∧ 0 + 1000 ≤ MS) ∧
    w_J4_append_15ec4_A 1 1000 C2 a0 a1 (fun v2 D2 => ∀ G2 : gH, gd D2 R2 → G2 = gj D2 R2 →
    ∃ r2, v2 = some r2 ∧
    (0 + 1) ≤ MC ∧ (0 + 1000) ≤ MS ∧ K (some r2) G2)
def w_J4_append_cf468 (MC MS : Nat) (G : gH) (a0 : Nat) (x1 : Int32) (K : Option Nat → gH → Prop) : Prop :=
    ∃ C2 R2 : gH, gd C2 R2 ∧ G = gj C2 R2 ∧
    ∃ u2, g_ob C2 a0 15 = some u2 ∧
    (0 + 1 ≤ MC ∧ 0 + 1000 ≤ MS) ∧
    w_J5_append_3fe6f 1 1000 C2 a0 x1 (fun v2 D2 => ∀ G2 : gH, gd D2 R2 → G2 = gj D2 R2 →
    ∃ r2, v2 = some r2 ∧
    (0 + 1) ≤ MC ∧ (0 + 1000) ≤ MS ∧ K (some a0) G2)
def w_J4_append_bf812 (MC MS : Nat) (G : gH) (a0 : Nat) (x1 : Int32) (K : Option Nat → gH → Prop) : Prop :=
    ∃ C2 R2 : gH, gd C2 R2 ∧ G = gj C2 R2 ∧
    ∃ u2, g_ob C2 a0 15 = some u2 ∧
    (0 + 1 ≤ MC ∧ 0 + 1000 ≤ MS) ∧
    w_J5_append_c97b9 1 1000 C2 a0 x1 (fun v2 D2 => ∀ G2 : gH, gd D2 R2 → G2 = gj D2 R2 →
    ∃ r2, v2 = some r2 ∧
    (0 + 1) ≤ MC ∧ (0 + 1000) ≤ MS ∧ K (some a0) G2)
def w_J5_init_d00df (MC MS : Nat) (G : gH) (a0 : Nat) (x1 : Int32) (K : gH → Prop) : Prop :=
    if (1 : Int32) = 0 then
    False
    else
    g_newbW MC MS G x1 0 0 (fun q12 G12 =>
    ∃ G14, g_put G12 a0 15 0 (.ref q12) = some G14 ∧
    ∃ G19, g_put G14 a0 15 1 (.int (0 : Int32)) = some G19 ∧
    (0 + 1) ≤ MC ∧ (0 + x1.toNatClampNeg) ≤ MS ∧ K G19)
def w_J4_init_da8c8 (MC MS : Nat) (G : gH) (a0 : Nat) (K : gH → Prop) : Prop :=
    ∃ C3 R3 : gH, gd C3 R3 ∧ G = gj C3 R3 ∧
    (0 + 1 ≤ MC ∧ 0 + 16 ≤ MS) ∧
    w_J5_init_d00df 1 16 C3 a0 (16 : Int32) (fun D3 => ∀ G3 : gH, gd D3 R3 → G3 = gj D3 R3 →
    (0 + 1) ≤ MC ∧ (0 + 16) ≤ MS ∧ K G3)
def w_J5_init_a7421_A_J24 (MC MS : Nat) (K : gH → Prop) (G : gH) (kc : Nat) (ks : Nat) (ba0 : Nat) (ba1 : Nat) (z0 : Int32) : Prop :=
    ∃ C26 R26 : gH, gd C26 R26 ∧ G = gj C26 R26 ∧
    ∃ u26, g_ob C26 ba1 14 = some u26 ∧
    (kc + 0 ≤ MC ∧ ks + 0 ≤ MS) ∧
    ∃ v26, f_J0_coder_7d493_A C26 ba1 = some v26 ∧
    ∃ w34, g_b v26 = some w34 ∧
    ∃ G34, g_put G ba0 15 1 (.int w34) = some G34 ∧
    if v26 = 0 then
    g_newbW MC MS G34 z0 kc ks (fun q44 G44 =>
    ∃ G53, g_put G44 ba0 15 0 (.ref q44) = some G53 ∧
    ∃ C58 R58 : gH, gd C58 R58 ∧ G53 = gj C58 R58 ∧
    ∃ u58, g_ob C58 ba0 15 = some u58 ∧
    ((kc + 1) + 1 ≤ MC ∧ (ks + z0.toNatClampNeg) + 1000 ≤ MS) ∧
    w_J4_append_cf1ce_A 1 1000 C58 ba0 ba1 (fun v58 D58 => ∀ G58 : gH, gd D58 R58 → G58 = gj D58 R58 →
    ∃ r58, v58 = some r58 ∧
    ((kc + 1) + 1) ≤ MC ∧ ((ks + z0.toNatClampNeg) + 1000) ≤ MS ∧ K G58))
    else
    False
def w_J5_init_a7421_A (MC MS : Nat) (G : gH) (a0 : Nat) (a1 : Nat) (K : gH → Prop) : Prop :=
    ∃ C5 R5 : gH, gd C5 R5 ∧ G = gj C5 R5 ∧
    ∃ u5, g_ob C5 a1 14 = some u5 ∧
    (0 + 0 ≤ MC ∧ 0 + 0 ≤ MS) ∧
    ∃ v5, f_J0_length_8abf5_A C5 a1 = some v5 ∧
    if (2147483631 : Int32) ≤ v5 then
    w_J5_init_a7421_A_J24 MC MS K G 0 0 a0 a1 (2147483647 : Int32)
    else
    w_J5_init_a7421_A_J24 MC MS K G 0 0 a0 a1 (v5 + (16 : Int32))
def w_J4_init_a7421_A (MC MS : Nat) (G : gH) (a0 : Nat) (a1 : Nat) (K : gH → Prop) : Prop :=
    ∃ C2 R2 : gH, gd C2 R2 ∧ G = gj C2 R2 ∧
    (0 + 2 ≤ MC ∧ 0 + 2000 ≤ MS) ∧
    w_J5_init_a7421_A 2 2000 C2 a0 a1 (fun D2 => ∀ G2 : gH, gd D2 R2 → G2 = gj D2 R2 →
    (0 + 2) ≤ MC ∧ (0 + 2000) ≤ MS ∧ K G2)
def w_J4_length_8abf5 (MC MS : Nat) (G : gH) (a0 : Nat) (K : Int32 → gH → Prop) : Prop :=
    ∃ C1 R1 : gH, gd C1 R1 ∧ G = gj C1 R1 ∧
    ∃ u1, g_ob C1 a0 15 = some u1 ∧
    (0 + 0 ≤ MC ∧ 0 + 0 ≤ MS) ∧
    ∃ v1, f_J5_length_8abf5 C1 a0 = some v1 ∧
    0 ≤ MC ∧ 0 ≤ MS ∧ K v1 G
def w_J0_init_db425_A (MC MS : Nat) (G : gH) (a0 : Nat) (a1 : Nat) (K : gH → Prop) : Prop :=
    ∃ C5 R5 : gH, gd C5 R5 ∧ G = gj C5 R5 ∧
    ∃ u5, g_ob C5 a1 15 = some u5 ∧
    (0 + 0 ≤ MC ∧ 0 + 0 ≤ MS) ∧
    w_J5_getValue_6d5f1 0 0 C5 a1 (fun v5 D5 => ∀ G5 : gH, gd D5 R5 → G5 = gj D5 R5 →
    ∃ r5, v5 = some r5 ∧
    ∃ C10 R10 : gH, gd C10 R10 ∧ G5 = gj C10 R10 ∧
    ∃ u10, g_ob C10 a1 15 = some u10 ∧
    ((0 + 0) + 0 ≤ MC ∧ (0 + 0) + 0 ≤ MS) ∧
    w_J4_length_8abf5 0 0 C10 a1 (fun v10 D10 => ∀ G10 : gH, gd D10 R10 → G10 = gj D10 R10 →
    ∃ C16 R16 : gH, gd C16 R16 ∧ G10 = gj C16 R16 ∧
    ∃ u16, g_ob C16 a1 15 = some u16 ∧
    (((0 + 0) + 0) + 0 ≤ MC ∧ ((0 + 0) + 0) + 0 ≤ MS) ∧
    ∃ v16, f_J5_isLatin1_aae02 C16 a1 = some v16 ∧
    if v16 = 0 then
    False
    else
    ∃ G24, g_put G10 a0 14 1 (.int (0 : Int32)) = some G24 ∧
    ∃ C32 R32 : gH, gd C32 R32 ∧ G24 = gj C32 R32 ∧
    (((0 + 0) + 0) + 1 ≤ MC ∧ ((0 + 0) + 0) + 1000 ≤ MS) ∧
    w_J7_copyOfRange_39247 1 1000 C32 r5 (0 : Int32) v10 (fun v32 D32 => ∀ G32 : gH, gd D32 R32 → G32 = gj D32 R32 →
    ∃ r32, v32 = some r32 ∧
    ∃ G35, g_put G32 a0 14 0 (.ref r32) = some G35 ∧
    (((0 + 0) + 0) + 1) ≤ MC ∧ (((0 + 0) + 0) + 1000) ≤ MS ∧ K G35)))
def w_J0_init_81219_A (MC MS : Nat) (G : gH) (a0 : Nat) (a1 : Nat) (K : gH → Prop) : Prop :=
    ∃ C3 R3 : gH, gd C3 R3 ∧ G = gj C3 R3 ∧
    (0 + 1 ≤ MC ∧ 0 + 1000 ≤ MS) ∧
    w_J0_init_db425_A 1 1000 C3 a0 a1 (fun D3 => ∀ G3 : gH, gd D3 R3 → G3 = gj D3 R3 →
    (0 + 1) ≤ MC ∧ (0 + 1000) ≤ MS ∧ K G3)
def w_J4_toString_0e30d (MC MS : Nat) (G : gH) (a0 : Nat) (K : Option Nat → gH → Prop) : Prop :=
    (0 + 1 ≤ MC ∧ 0 + 4 ≤ MS) ∧ ∀ q0 : Nat, G q0 = none → ∀ G0 : gH, G0 = va_up G q0 (some (.inr (.inr (.inr (14, [.null, .int 0, .int 0, .int 0]))))) →
    ∃ C5 R5 : gH, gd C5 R5 ∧ G0 = gj C5 R5 ∧
    ((0 + 1) + 1 ≤ MC ∧ (0 + 4) + 1000 ≤ MS) ∧
    w_J0_init_81219_A 1 1000 C5 q0 a0 (fun D5 => ∀ G5 : gH, gd D5 R5 → G5 = gj D5 R5 →
    ((0 + 1) + 1) ≤ MC ∧ ((0 + 4) + 1000) ≤ MS ∧ K (some q0) G5)

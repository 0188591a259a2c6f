/-! The law's methods that make cells: by program (wip/p34/tools/pwlift.py). -/
def w_L_changes_J423 (MC MS : Nat) (K : Int32 → gH → Prop) (G : gH) (kc : Nat) (ks : Nat) (ba0 : Nat) (ba1 : Nat) (bx4 : Int32) (z0 : Nat) (z1 : Int32) : Prop :=
    ∃ w423, g_z z1 = some w423 ∧
    ∃ G423, g_put G z0 10 6 (.int w423) = some G423 ∧
    ∃ v428, g_i G423 ba1 10 6 = some v428 ∧
    ∃ C431 R431 : gH, gd C431 R431 ∧ G423 = gj C431 R431 ∧
    ∃ u431, g_ob C431 ba0 9 = some u431 ∧
    (kc + 30 ≤ MC ∧ ks + 1637 ≤ MS) ∧
    w_X9_setScan C431 ba0 v428 (fun v431 D431 => ∀ G431 : gH, gd D431 R431 → G431 = gj D431 R431 →
    if v431 = bx4 then
    (kc + 30) ≤ MC ∧ (ks + 1637) ≤ MS ∧ K (1 : Int32) G431
    else
    (kc + 30) ≤ MC ∧ (ks + 1637) ≤ MS ∧ K (0 : Int32) G431)
def w_L_changes_J386 (MC MS : Nat) (K : Int32 → gH → Prop) (G : gH) (kc : Nat) (ks : Nat) (ba0 : Nat) (bx4 : Int32) (bx5 : Int32) : Prop :=
    ∃ C389 R389 : gH, gd C389 R389 ∧ G = gj C389 R389 ∧
    ∃ u389, g_ob C389 ba0 9 = some u389 ∧
    (kc + 31 ≤ MC ∧ ks + 1643 ≤ MS) ∧
    w_X9_scratch C389 ba0 bx4 (fun _ _ => False) (fun v389 D389 => ∀ G389 : gH, gd D389 R389 → G389 = gj D389 R389 →
    if v389 = bx5 then
    (kc + 31) ≤ MC ∧ (ks + 1643) ≤ MS ∧ K (0 : Int32) G389
    else
    (kc + 31) ≤ MC ∧ (ks + 1643) ≤ MS ∧ K (1 : Int32) G389)
def w_L_changes_J355 (MC MS : Nat) (K : Int32 → gH → Prop) (G : gH) (kc : Nat) (ks : Nat) (ba0 : Nat) (ba1 : Nat) (bx4 : Int32) (z0 : Int32) : Prop :=
    ∃ v358, g_r G ba1 10 7 = some v358 ∧
    ∃ v363, g_ald 0 G v358 bx4 = some v363 ∧
    if v363 = 0 then
    ∃ v368, g_r G ba1 10 12 = some v368 ∧
    ∃ G374, g_ast 1 G v368 bx4 (1 : Int32) = some G374 ∧
    w_L_changes_J386 MC MS K G374 kc ks ba0 bx4 z0
    else
    ∃ v379, g_r G ba1 10 13 = some v379 ∧
    ∃ G385, g_ast 1 G v379 bx4 (1 : Int32) = some G385 ∧
    w_L_changes_J386 MC MS K G385 kc ks ba0 bx4 z0
def w_L_changes_L268 (MC MS : Nat) (K : Int32 → gH → Prop) : Nat → gH → Nat → Nat → Nat → Nat → Nat → Int32 → Option Nat → Int32 → Prop
  | 0, _, _, _, _, _, _, _, _, _ => False
  | n + 1, G, kc, ks, ba0, ba1, ba4, bx5, ba6, bx7 =>
    ((ba6 = none →
    if bx5 ≤ bx7 then
    ∃ C300 R300 : gH, gd C300 R300 ∧ G = gj C300 R300 ∧
    ∃ u300, g_ob C300 ba1 10 = some u300 ∧
    (kc + 0 ≤ MC ∧ ks + 0 ≤ MS) ∧
    ∃ q300, f_X10_close C300 ba1 = some q300 ∧ ∀ G300 : gH, gd q300 R300 → G300 = gj q300 R300 →
    ∃ C304 R304 : gH, gd C304 R304 ∧ G300 = gj C304 R304 ∧
    ∃ u304, g_ob C304 ba0 9 = some u304 ∧
    (kc + 31 ≤ MC ∧ ks + 1643 ≤ MS) ∧
    w_X9_recover C304 ba0 (fun _ _ => False) (fun v304 D304 => ∀ G304 : gH, gd D304 R304 → G304 = gj D304 R304 →
    if v304 = bx5 then
    (kc + 31) ≤ MC ∧ (ks + 1643) ≤ MS ∧ K (1 : Int32) G304
    else
    (kc + 31) ≤ MC ∧ (ks + 1643) ≤ MS ∧ K (0 : Int32) G304)
    else
    ∃ v281, g_rald 6 G ba4 bx7 = some v281 ∧
    ((v281 = none →
    False) ∧ ∀ r281 : Nat, v281 = some r281 →
    ∃ v282, g_i G r281 13 0 = some v282 ∧
    ∃ v289, g_rald 6 G ba4 bx7 = some v289 ∧
    ((v289 = none →
    False) ∧ ∀ r289 : Nat, v289 = some r289 →
    False))) ∧ ∀ ba6r : Nat, ba6 = some ba6r →
    if bx5 ≤ bx7 then
    ∃ C300 R300 : gH, gd C300 R300 ∧ G = gj C300 R300 ∧
    ∃ u300, g_ob C300 ba1 10 = some u300 ∧
    (kc + 0 ≤ MC ∧ ks + 0 ≤ MS) ∧
    ∃ q300, f_X10_close C300 ba1 = some q300 ∧ ∀ G300 : gH, gd q300 R300 → G300 = gj q300 R300 →
    ∃ C304 R304 : gH, gd C304 R304 ∧ G300 = gj C304 R304 ∧
    ∃ u304, g_ob C304 ba0 9 = some u304 ∧
    (kc + 31 ≤ MC ∧ ks + 1643 ≤ MS) ∧
    w_X9_recover C304 ba0 (fun _ _ => False) (fun v304 D304 => ∀ G304 : gH, gd D304 R304 → G304 = gj D304 R304 →
    if v304 = bx5 then
    (kc + 31) ≤ MC ∧ (ks + 1643) ≤ MS ∧ K (1 : Int32) G304
    else
    (kc + 31) ≤ MC ∧ (ks + 1643) ≤ MS ∧ K (0 : Int32) G304)
    else
    ∃ v281, g_rald 6 G ba4 bx7 = some v281 ∧
    ((v281 = none →
    False) ∧ ∀ r281 : Nat, v281 = some r281 →
    ∃ v282, g_i G r281 13 0 = some v282 ∧
    ∃ v289, g_rald 6 G ba4 bx7 = some v289 ∧
    ((v289 = none →
    ∃ C290 R290 : gH, gd C290 R290 ∧ G = gj C290 R290 ∧
    ∃ u290, g_ob C290 ba6r 12 = some u290 ∧
    (kc + 0 ≤ MC ∧ ks + 0 ≤ MS) ∧
    ∃ q290, f_X12_enter_n C290 ba6r v282 = some q290 ∧ ∀ G290 : gH, gd q290 R290 → G290 = gj q290 R290 →
    w_L_changes_L268 MC MS K n G290 kc ks ba0 ba1 ba4 bx5 (some ba6r) (bx7 + (1 : Int32))) ∧ ∀ r289 : Nat, v289 = some r289 →
    ∃ C290 R290 : gH, gd C290 R290 ∧ G = gj C290 R290 ∧
    ∃ u290, g_ob C290 ba6r 12 = some u290 ∧
    (kc + 0 ≤ MC ∧ ks + 0 ≤ MS) ∧
    ∃ q290, f_X12_enter_r C290 ba6r v282 r289 = some q290 ∧ ∀ G290 : gH, gd q290 R290 → G290 = gj q290 R290 →
    w_L_changes_L268 MC MS K n G290 kc ks ba0 ba1 ba4 bx5 (some ba6r) (bx7 + (1 : Int32)))))
def w_L_changes_L162 (MC MS : Nat) (K : Int32 → gH → Prop) : Nat → gH → Nat → Nat → Nat → Nat → Int32 → Int32 → Prop
  | 0, _, _, _, _, _, _, _ => False
  | n + 1, G, kc, ks, ba0, ba1, bx5, bx6 =>
    ∃ C165 R165 : gH, gd C165 R165 ∧ G = gj C165 R165 ∧
    ∃ u165, g_ob C165 ba1 10 = some u165 ∧
    (kc + 0 ≤ MC ∧ ks + 0 ≤ MS) ∧
    ∃ v165, f_X10_main C165 ba1 = some v165 ∧
    if v165 ≤ bx6 then
    ∃ C204 R204 : gH, gd C204 R204 ∧ G = gj C204 R204 ∧
    ∃ u204, g_ob C204 ba0 9 = some u204 ∧
    (kc + 31 ≤ MC ∧ ks + 1643 ≤ MS) ∧
    w_X9_crash C204 ba0 (fun _ _ => False) (fun v204 D204 => ∀ G204 : gH, gd D204 R204 → G204 = gj D204 R204 →
    if v204 = bx5 then
    (kc + 31) ≤ MC ∧ (ks + 1643) ≤ MS ∧ K (1 : Int32) G204
    else
    (kc + 31) ≤ MC ∧ (ks + 1643) ≤ MS ∧ K (0 : Int32) G204)
    else
    ∃ v174, g_r G ba1 10 8 = some v174 ∧
    ∃ v179, g_ald 0 G v174 bx6 = some v179 ∧
    ∃ v181, g_i G ba1 10 4 = some v181 ∧
    if v179 = (v181 - (1 : Int32)) then
    w_L_changes_L162 MC MS K n G kc ks ba0 ba1 (bx5 + (1 : Int32)) (bx6 + (1 : Int32))
    else
    w_L_changes_L162 MC MS K n G kc ks ba0 ba1 (bx5 + (0 : Int32)) (bx6 + (1 : Int32))
def w_L_changes_J91 (MC MS : Nat) (K : Int32 → gH → Prop) (G : gH) (kc : Nat) (ks : Nat) (ba0 : Nat) (ba1 : Nat) : Prop :=
    ∃ C92 R92 : gH, gd C92 R92 ∧ G = gj C92 R92 ∧
    ∃ u92, g_ob C92 ba1 10 = some u92 ∧
    (kc + 0 ≤ MC ∧ ks + 0 ≤ MS) ∧
    ∃ v92, f_X10_whyClose C92 ba1 = some v92 ∧
    if v92 ≤ 0 then
    ∃ C101 R101 : gH, gd C101 R101 ∧ G = gj C101 R101 ∧
    ∃ u101, g_ob C101 ba1 10 = some u101 ∧
    (kc + 0 ≤ MC ∧ ks + 0 ≤ MS) ∧
    ∃ q101, f_X10_close C101 ba1 = some q101 ∧ ∀ G101 : gH, gd q101 R101 → G101 = gj q101 R101 →
    ∃ C105 R105 : gH, gd C105 R105 ∧ G101 = gj C105 R105 ∧
    ∃ u105, g_ob C105 ba0 9 = some u105 ∧
    (kc + 31 ≤ MC ∧ ks + 1643 ≤ MS) ∧
    w_X9_close C105 ba0 (fun _ _ => False) (fun v105 D105 => ∀ G105 : gH, gd D105 R105 → G105 = gj D105 R105 →
    ∃ v109, g_i G105 ba1 10 4 = some v109 ∧
    if v105 = (v109 - (1 : Int32)) then
    (kc + 31) ≤ MC ∧ (ks + 1643) ≤ MS ∧ K (1 : Int32) G105
    else
    (kc + 31) ≤ MC ∧ (ks + 1643) ≤ MS ∧ K (0 : Int32) G105)
    else
    kc ≤ MC ∧ ks ≤ MS ∧ K (1 : Int32) G
def w_L_changes (MC MS : Nat) (G : gH) (a0 : Nat) (a1 : Nat) (a2 : Nat) (K : Int32 → gH → Prop) : Prop :=
    ∃ v2, g_i G a1 10 2 = some v2 ∧
    ∃ C5 R5 : gH, gd C5 R5 ∧ G = gj C5 R5 ∧
    (0 + 0 ≤ MC ∧ 0 + 0 ≤ MS) ∧
    ∃ q5, f_L_draw C5 a2 v2 = some q5 ∧ ∀ G5 : gH, gd q5.1 R5 → G5 = gj q5.1 R5 →
    ∃ C12 R12 : gH, gd C12 R12 ∧ G5 = gj C12 R12 ∧
    (0 + 0 ≤ MC ∧ 0 + 0 ≤ MS) ∧
    ∃ q12, f_L_draw C12 a2 (10 : Int32) = some q12 ∧ ∀ G12 : gH, gd q12.1 R12 → G12 = gj q12.1 R12 →
    if q12.2 = (0 : Int32) then
    ∃ C58 R58 : gH, gd C58 R58 ∧ G12 = gj C58 R58 ∧
    ∃ u58, g_ob C58 a1 10 = some u58 ∧
    (0 + 0 ≤ MC ∧ 0 + 0 ≤ MS) ∧
    ∃ v58, f_X10_whyErase C58 a1 q5.2 = some v58 ∧
    if v58 ≤ 0 then
    ∃ C68 R68 : gH, gd C68 R68 ∧ G12 = gj C68 R68 ∧
    ∃ u68, g_ob C68 a1 10 = some u68 ∧
    (0 + 4 ≤ MC ∧ 0 + 32 ≤ MS) ∧
    w_X10_erase 4 32 C68 a1 q5.2 (fun D68 => ∀ G68 : gH, gd D68 R68 → G68 = gj D68 R68 →
    ∃ C73 R73 : gH, gd C73 R73 ∧ G68 = gj C73 R73 ∧
    ∃ u73, g_ob C73 a0 9 = some u73 ∧
    ((0 + 4) + 32 ≤ MC ∧ (0 + 32) + 1649 ≤ MS) ∧
    w_X9_erase C73 a0 q5.2 (fun _ _ => False) (fun v73 D73 => ∀ G73 : gH, gd D73 R73 → G73 = gj D73 R73 →
    ∃ C79 R79 : gH, gd C79 R79 ∧ G73 = gj C79 R79 ∧
    ∃ u79, g_ob C79 a1 10 = some u79 ∧
    (((0 + 4) + 32) + 0 ≤ MC ∧ ((0 + 32) + 1649) + 0 ≤ MS) ∧
    ∃ v79, f_X10_there C79 a1 (12 : Int32) = some v79 ∧
    if v73 = v79 then
    ((0 + 4) + 32) ≤ MC ∧ ((0 + 32) + 1649) ≤ MS ∧ K (1 : Int32) G73
    else
    ((0 + 4) + 32) ≤ MC ∧ ((0 + 32) + 1649) ≤ MS ∧ K (0 : Int32) G73))
    else
    0 ≤ MC ∧ 0 ≤ MS ∧ K (1 : Int32) G12
    else
    if q12.2 = (1 : Int32) then
    w_L_changes_J91 MC MS K G12 0 0 a0 a1
    else
    if q12.2 = (2 : Int32) then
    w_L_changes_J91 MC MS K G12 0 0 a0 a1
    else
    if q12.2 = (3 : Int32) then
    ∃ C124 R124 : gH, gd C124 R124 ∧ G12 = gj C124 R124 ∧
    ∃ u124, g_ob C124 a1 10 = some u124 ∧
    (0 + 0 ≤ MC ∧ 0 + 0 ≤ MS) ∧
    ∃ v124, f_X10_open C124 a1 = some v124 ∧
    ((v124 = none →
    0 ≤ MC ∧ 0 ≤ MS ∧ K (1 : Int32) G12) ∧ ∀ r124 : Nat, v124 = some r124 →
    ∃ C136 R136 : gH, gd C136 R136 ∧ G12 = gj C136 R136 ∧
    (0 + 0 ≤ MC ∧ 0 + 0 ≤ MS) ∧
    ∃ q136, f_L_draw C136 a2 (2 : Int32) = some q136 ∧ ∀ G136 : gH, gd q136.1 R136 → G136 = gj q136.1 R136 →
    if q136.2 = 0 then
    0 ≤ MC ∧ 0 ≤ MS ∧ K (1 : Int32) G136
    else
    ∃ G147, g_put G136 r124 12 0 (.int (2 : Int32)) = some G147 ∧
    ∃ G153, g_put G147 r124 12 2 (.int (0 : Int32)) = some G153 ∧
    w_L_changes_L162 MC MS K g_N G153 0 0 a0 a1 (0 : Int32) (0 : Int32))
    else
    if q12.2 = (4 : Int32) then
    (0 + 1 ≤ MC ∧ 0 + 10 ≤ MS) ∧ ∀ q220 : Nat, G12 q220 = none → ∀ G220 : gH, G220 = va_up G12 q220 (some (.inr (.inr (.inl (6, 10, fun _ => none))))) →
    ∃ C228 R228 : gH, gd C228 R228 ∧ G220 = gj C228 R228 ∧
    ∃ u228, g_ob C228 a1 10 = some u228 ∧
    ((0 + 1) + 0 ≤ MC ∧ (0 + 10) + 0 ≤ MS) ∧
    ∃ q228, f_X10_lost C228 a1 q220 = some q228 ∧ ∀ G228 : gH, gd q228.1 R228 → G228 = gj q228.1 R228 →
    ∃ C236 R236 : gH, gd C236 R236 ∧ G228 = gj C236 R236 ∧
    ∃ u236, g_ob C236 a1 10 = some u236 ∧
    ((0 + 1) + 0 ≤ MC ∧ (0 + 10) + 0 ≤ MS) ∧
    ∃ v236, f_X10_whyRecover C236 a1 q228.2 = some v236 ∧
    if v236 ≤ 0 then
    ∃ v245, g_r G228 a1 10 16 = some v245 ∧
    ∃ v249, g_i G228 a1 10 4 = some v249 ∧
    ∃ v254, g_rald 5 G228 v245 (v249 - (1 : Int32)) = some v254 ∧
    ((v254 = none →
    False) ∧ ∀ r254 : Nat, v254 = some r254 →
    ∃ G256, g_put G228 r254 12 0 (.int (3 : Int32)) = some G256 ∧
    ∃ C260 R260 : gH, gd C260 R260 ∧ G256 = gj C260 R260 ∧
    ∃ u260, g_ob C260 a1 10 = some u260 ∧
    ((0 + 1) + 4 ≤ MC ∧ (0 + 10) + 32 ≤ MS) ∧
    w_X10_begins 4 32 C260 a1 (fun v260 D260 => ∀ G260 : gH, gd D260 R260 → G260 = gj D260 R260 →
    ((v260 = none →
    w_L_changes_L268 MC MS K g_N G260 ((0 + 1) + 4) ((0 + 10) + 32) a0 a1 q220 q228.2 none (0 : Int32)) ∧ ∀ r260 : Nat, v260 = some r260 →
    w_L_changes_L268 MC MS K g_N G260 ((0 + 1) + 4) ((0 + 10) + 32) a0 a1 q220 q228.2 (some r260) (0 : Int32))))
    else
    (0 + 1) ≤ MC ∧ (0 + 10) ≤ MS ∧ K (1 : Int32) G228
    else
    if q12.2 = (5 : Int32) then
    ∃ v320, g_i G12 a1 10 0 = some v320 ∧
    ∃ C323 R323 : gH, gd C323 R323 ∧ G12 = gj C323 R323 ∧
    (0 + 0 ≤ MC ∧ 0 + 0 ≤ MS) ∧
    ∃ q323, f_L_draw C323 a2 v320 = some q323 ∧ ∀ G323 : gH, gd q323.1 R323 → G323 = gj q323.1 R323 →
    ∃ v329, g_r G323 a1 10 7 = some v329 ∧
    ∃ v334, g_ald 0 G323 v329 q323.2 = some v334 ∧
    if v334 = 0 then
    ∃ v339, g_r G323 a1 10 12 = some v339 ∧
    ∃ v344, g_ald 1 G323 v339 q323.2 = some v344 ∧
    w_L_changes_J355 MC MS K G323 0 0 a0 a1 q323.2 v344
    else
    ∃ v349, g_r G323 a1 10 13 = some v349 ∧
    ∃ v354, g_ald 1 G323 v349 q323.2 = some v354 ∧
    w_L_changes_J355 MC MS K G323 0 0 a0 a1 q323.2 v354
    else
    if q12.2 = (6 : Int32) then
    ∃ v404, g_i G12 a1 10 6 = some v404 ∧
    ∃ C412 R412 : gH, gd C412 R412 ∧ G12 = gj C412 R412 ∧
    (0 + 0 ≤ MC ∧ 0 + 0 ≤ MS) ∧
    ∃ q412, f_L_draw C412 a2 (2 : Int32) = some q412 ∧ ∀ G412 : gH, gd q412.1 R412 → G412 = gj q412.1 R412 →
    if q412.2 = 0 then
    w_L_changes_J423 MC MS K G412 0 0 a0 a1 v404 a1 (1 : Int32)
    else
    w_L_changes_J423 MC MS K G412 0 0 a0 a1 v404 a1 (0 : Int32)
    else
    ∃ C448 R448 : gH, gd C448 R448 ∧ G12 = gj C448 R448 ∧
    (0 + 0 ≤ MC ∧ 0 + 0 ≤ MS) ∧
    ∃ q448, f_L_draw C448 a2 (3 : Int32) = some q448 ∧ ∀ G448 : gH, gd q448.1 R448 → G448 = gj q448.1 R448 →
    ∃ C458 R458 : gH, gd C458 R458 ∧ G448 = gj C458 R458 ∧
    (0 + 0 ≤ MC ∧ 0 + 0 ≤ MS) ∧
    ∃ q458, f_L_draw C458 a2 (1000 : Int32) = some q458 ∧ ∀ G458 : gH, gd q458.1 R458 → G458 = gj q458.1 R458 →
    ∃ C467 R467 : gH, gd C467 R467 ∧ G458 = gj C467 R467 ∧
    ∃ u467, g_ob C467 a1 10 = some u467 ∧
    (0 + 0 ≤ MC ∧ 0 + 0 ≤ MS) ∧
    ∃ v467, f_X10_whyWrite C467 a1 q5.2 ((1 : Int32) + q448.2) = some v467 ∧
    if 0 < v467 then
    0 ≤ MC ∧ 0 ≤ MS ∧ K (1 : Int32) G458
    else
    ∃ C479 R479 : gH, gd C479 R479 ∧ G458 = gj C479 R479 ∧
    ∃ u479, g_ob C479 a0 9 = some u479 ∧
    (0 + 34 ≤ MC ∧ 0 + 1661 ≤ MS) ∧
    w_X9_write C479 a0 q5.2 ((1 : Int32) + q448.2) q458.2 (fun _ _ => False) (fun v479 D479 => ∀ G479 : gH, gd D479 R479 → G479 = gj D479 R479 →
    ∃ C488 R488 : gH, gd C488 R488 ∧ G479 = gj C488 R488 ∧
    ∃ u488, g_ob C488 a1 10 = some u488 ∧
    ((0 + 34) + 6 ≤ MC ∧ (0 + 1661) + 47 ≤ MS) ∧
    w_X10_write 6 47 C488 a1 q5.2 ((1 : Int32) + q448.2) q458.2 (fun v488 D488 => ∀ G488 : gH, gd D488 R488 → G488 = gj D488 R488 →
    if v479 = v488 then
    ((0 + 34) + 6) ≤ MC ∧ ((0 + 1661) + 47) ≤ MS ∧ K (1 : Int32) G488
    else
    ((0 + 34) + 6) ≤ MC ∧ ((0 + 1661) + 47) ≤ MS ∧ K (0 : Int32) G488))
def w_L_blocks_J278 (MC MS : Nat) (K : Int32 → gH → Prop) (k15 : gH → Nat → Nat → Nat → Nat → Nat → Int32 → Int32 → Int32 → Int32 → Prop) (G : gH) (kc : Nat) (ks : Nat) (ba0 : Nat) (ba1 : Nat) (ba2 : Nat) (bx3 : Int32) (bx4 : Int32) (bx5 : Int32) (bx6 : Int32) (z0 : Int32) (z1 : Int32) : Prop :=
    if z0 = z1 then
    ∃ v284, g_r G ba1 10 11 = some v284 ∧
    ∃ v289, g_ald 0 G v284 bx6 = some v289 ∧
    if v289 < 0 then
    k15 G kc ks ba0 ba1 ba2 bx3 bx4 bx5 (bx6 + (1 : Int32))
    else
    ∃ v294, g_r G ba1 10 16 = some v294 ∧
    ∃ v298, g_r G ba1 10 8 = some v298 ∧
    ∃ v303, g_ald 0 G v298 bx6 = some v303 ∧
    ∃ v304, g_rald 5 G v294 v303 = some v304 ∧
    ((v304 = none →
    False) ∧ ∀ r304 : Nat, v304 = some r304 →
    ∃ v305, g_i G r304 12 0 = some v305 ∧
    if v305 = (2 : Int32) then
    k15 G kc ks ba0 ba1 ba2 bx3 bx4 bx5 (bx6 + (1 : Int32))
    else
    ∃ C319 R319 : gH, gd C319 R319 ∧ G = gj C319 R319 ∧
    ∃ u319, g_ob C319 ba0 9 = some u319 ∧
    (kc + 0 ≤ MC ∧ ks + 0 ≤ MS) ∧
    ∃ v319, f_X9_defect C319 ba0 bx5 (0 : Int32) = some v319 ∧
    if v319 = bx6 then
    ∃ C331 R331 : gH, gd C331 R331 ∧ G = gj C331 R331 ∧
    ∃ u331, g_ob C331 ba0 9 = some u331 ∧
    (kc + 0 ≤ MC ∧ ks + 0 ≤ MS) ∧
    ∃ v331, f_X9_defect C331 ba0 bx5 (1 : Int32) = some v331 ∧
    ∃ v335, g_r G ba1 10 11 = some v335 ∧
    ∃ v340, g_ald 0 G v335 bx6 = some v340 ∧
    if v331 = v340 then
    k15 G kc ks ba0 ba1 ba2 bx3 bx4 (bx5 + (1 : Int32)) (bx6 + (1 : Int32))
    else
    kc ≤ MC ∧ ks ≤ MS ∧ K (0 : Int32) G
    else
    kc ≤ MC ∧ ks ≤ MS ∧ K (0 : Int32) G)
    else
    kc ≤ MC ∧ ks ≤ MS ∧ K (0 : Int32) G
def w_L_blocks_L196 (MC MS : Nat) (K : Int32 → gH → Prop) (k15 : gH → Nat → Nat → Nat → Nat → Nat → Int32 → Int32 → Int32 → Int32 → Prop) : Nat → gH → Nat → Nat → Nat → Nat → Nat → Int32 → Int32 → Int32 → Int32 → Nat → Int32 → Prop
  | 0, _, _, _, _, _, _, _, _, _, _, _, _ => False
  | n + 1, G, kc, ks, ba0, ba1, ba2, bx3, bx4, bx5, bx6, ba7, bx8 =>
    if (7 : Int32) ≤ bx8 then
    ∃ C230 R230 : gH, gd C230 R230 ∧ G = gj C230 R230 ∧
    ∃ u230, g_ob C230 ba0 9 = some u230 ∧
    (kc + 1 ≤ MC ∧ ks + 6 ≤ MS) ∧
    w_X9_place C230 ba0 bx6 (fun _ _ => False) (fun v230 D230 => ∀ G230 : gH, gd D230 R230 → G230 = gj D230 R230 →
    ∃ C236 R236 : gH, gd C236 R236 ∧ G230 = gj C236 R236 ∧
    ∃ u236, g_ob C236 ba1 10 = some u236 ∧
    ((kc + 1) + 0 ≤ MC ∧ (ks + 6) + 0 ≤ MS) ∧
    ∃ v236, f_X10_main C236 ba1 = some v236 ∧
    if v236 ≤ bx6 then
    w_L_blocks_J278 MC MS K k15 G230 (kc + 1) (ks + 6) ba0 ba1 ba2 bx3 bx4 bx5 bx6 v230 (-1 : Int32)
    else
    ∃ v243, g_r G230 ba1 10 7 = some v243 ∧
    ∃ v248, g_ald 0 G230 v243 bx6 = some v248 ∧
    if v248 = 0 then
    w_L_blocks_J278 MC MS K k15 G230 (kc + 1) (ks + 6) ba0 ba1 ba2 bx3 bx4 bx5 bx6 v230 (-1 : Int32)
    else
    ∃ v257, g_r G230 ba1 10 11 = some v257 ∧
    ∃ v262, g_ald 0 G230 v257 bx6 = some v262 ∧
    if 0 ≤ v262 then
    ∃ v272, g_r G230 ba1 10 11 = some v272 ∧
    ∃ v277, g_ald 0 G230 v272 bx6 = some v277 ∧
    w_L_blocks_J278 MC MS K k15 G230 (kc + 1) (ks + 6) ba0 ba1 ba2 bx3 bx4 bx5 bx6 v230 v277
    else
    w_L_blocks_J278 MC MS K k15 G230 (kc + 1) (ks + 6) ba0 ba1 ba2 bx3 bx4 bx5 bx6 v230 bx6)
    else
    ∃ C208 R208 : gH, gd C208 R208 ∧ G = gj C208 R208 ∧
    ∃ u208, g_ob C208 ba0 9 = some u208 ∧
    (kc + 2 ≤ MC ∧ ks + 12 ≤ MS) ∧
    w_X9_block C208 ba0 bx6 bx8 (fun _ _ => False) (fun v208 D208 => ∀ G208 : gH, gd D208 R208 → G208 = gj D208 R208 →
    ∃ v215, g_ald 0 G208 ba7 bx8 = some v215 ∧
    if v208 = v215 then
    w_L_blocks_L196 MC MS K k15 n G208 (kc + 2) (ks + 12) ba0 ba1 ba2 bx3 bx4 bx5 bx6 ba7 (bx8 + (1 : Int32))
    else
    (kc + 2) ≤ MC ∧ (ks + 12) ≤ MS ∧ K (0 : Int32) G208)
def w_L_blocks_J169 (MC MS : Nat) (K : Int32 → gH → Prop) (k15 : gH → Nat → Nat → Nat → Nat → Nat → Int32 → Int32 → Int32 → Int32 → Prop) (G : gH) (kc : Nat) (ks : Nat) (ba0 : Nat) (ba1 : Nat) (ba2 : Nat) (bx3 : Int32) (bx4 : Int32) (bx5 : Int32) (bx6 : Int32) (z0 : Nat) (z1 : Nat) (z2 : Int32) (z3 : Int32) : Prop :=
    ∃ G169, g_ast 0 G z1 z2 z3 = some G169 ∧
    ∃ v173, g_r G169 ba1 10 9 = some v173 ∧
    ∃ v178, g_ald 0 G169 v173 bx6 = some v178 ∧
    ∃ G179, g_ast 0 G169 z0 (5 : Int32) v178 = some G179 ∧
    ∃ v184, g_r G179 ba1 10 10 = some v184 ∧
    ∃ v189, g_ald 0 G179 v184 bx6 = some v189 ∧
    ∃ G190, g_ast 0 G179 z0 (6 : Int32) v189 = some G190 ∧
    w_L_blocks_L196 MC MS K k15 g_N G190 kc ks ba0 ba1 ba2 bx3 bx4 bx5 bx6 z0 (0 : Int32)
def w_L_blocks_J132 (MC MS : Nat) (K : Int32 → gH → Prop) (k15 : gH → Nat → Nat → Nat → Nat → Nat → Int32 → Int32 → Int32 → Int32 → Prop) (G : gH) (kc : Nat) (ks : Nat) (ba0 : Nat) (ba1 : Nat) (ba2 : Nat) (bx3 : Int32) (bx4 : Int32) (bx5 : Int32) (bx6 : Int32) (z0 : Nat) (z1 : Nat) (z2 : Int32) (z3 : Int32) : Prop :=
    ∃ G132, g_ast 0 G z1 z2 z3 = some G132 ∧
    ∃ v136, g_r G132 ba1 10 8 = some v136 ∧
    ∃ v141, g_ald 0 G132 v136 bx6 = some v141 ∧
    ∃ G142, g_ast 0 G132 z0 (3 : Int32) v141 = some G142 ∧
    ∃ v146, g_r G142 ba1 10 14 = some v146 ∧
    ∃ v151, g_rald 6 G142 v146 bx6 = some v151 ∧
    ((v151 = none →
    w_L_blocks_J169 MC MS K k15 G142 kc ks ba0 ba1 ba2 bx3 bx4 bx5 bx6 z0 z0 (4 : Int32) (-1 : Int32)) ∧ ∀ r151 : Nat, v151 = some r151 →
    ∃ v160, g_r G142 ba1 10 14 = some v160 ∧
    ∃ v165, g_rald 6 G142 v160 bx6 = some v165 ∧
    ((v165 = none →
    False) ∧ ∀ r165 : Nat, v165 = some r165 →
    ∃ v166, g_i G142 r165 13 1 = some v166 ∧
    w_L_blocks_J169 MC MS K k15 G142 kc ks ba0 ba1 ba2 bx3 bx4 bx5 bx6 z0 z0 (4 : Int32) v166))
def w_L_blocks_J114 (MC MS : Nat) (K : Int32 → gH → Prop) (k15 : gH → Nat → Nat → Nat → Nat → Nat → Int32 → Int32 → Int32 → Int32 → Prop) (G : gH) (kc : Nat) (ks : Nat) (ba0 : Nat) (ba1 : Nat) (ba2 : Nat) (bx3 : Int32) (bx4 : Int32) (bx5 : Int32) (bx6 : Int32) (z0 : Nat) (z1 : Nat) (z2 : Int32) (z3 : Int32) : Prop :=
    ∃ G114, g_ast 0 G z1 z2 z3 = some G114 ∧
    ∃ v118, g_r G114 ba1 10 13 = some v118 ∧
    ∃ v123, g_ald 1 G114 v118 bx6 = some v123 ∧
    if v123 = 0 then
    w_L_blocks_J132 MC MS K k15 G114 kc ks ba0 ba1 ba2 bx3 bx4 bx5 bx6 z0 z0 (2 : Int32) (0 : Int32)
    else
    w_L_blocks_J132 MC MS K k15 G114 kc ks ba0 ba1 ba2 bx3 bx4 bx5 bx6 z0 z0 (2 : Int32) (1 : Int32)
def w_L_blocks_J80 (MC MS : Nat) (K : Int32 → gH → Prop) (k15 : gH → Nat → Nat → Nat → Nat → Nat → Int32 → Int32 → Int32 → Int32 → Prop) (G : gH) (kc : Nat) (ks : Nat) (ba0 : Nat) (ba1 : Nat) (ba2 : Nat) (bx3 : Int32) (bx5 : Int32) (bx6 : Int32) (z0 : Int32) (z1 : Int32) : Prop :=
    (kc + 1 ≤ MC ∧ ks + 7 ≤ MS) ∧ ∀ q85 : Nat, G q85 = none → ∀ G85 : gH, G85 = va_up G q85 (some (.inl (0, 7, fun _ => 0))) →
    ∃ v90, g_r G85 ba1 10 7 = some v90 ∧
    ∃ v95, g_ald 0 G85 v90 bx6 = some v95 ∧
    ∃ G96, g_ast 0 G85 q85 (0 : Int32) v95 = some G96 ∧
    ∃ v100, g_r G96 ba1 10 12 = some v100 ∧
    ∃ v105, g_ald 1 G96 v100 bx6 = some v105 ∧
    if v105 = 0 then
    w_L_blocks_J114 MC MS K k15 G96 (kc + 1) (ks + 7) ba0 ba1 ba2 bx3 (z0 + z1) bx5 bx6 q85 q85 (1 : Int32) (0 : Int32)
    else
    w_L_blocks_J114 MC MS K k15 G96 (kc + 1) (ks + 7) ba0 ba1 ba2 bx3 (z0 + z1) bx5 bx6 q85 q85 (1 : Int32) (1 : Int32)
def w_L_blocks_J52 (MC MS : Nat) (K : Int32 → gH → Prop) (k15 : gH → Nat → Nat → Nat → Nat → Nat → Int32 → Int32 → Int32 → Int32 → Prop) (G : gH) (kc : Nat) (ks : Nat) (ba0 : Nat) (ba1 : Nat) (ba2 : Nat) (bx4 : Int32) (bx5 : Int32) (bx6 : Int32) (z0 : Int32) (z1 : Int32) : Prop :=
    ∃ C59 R59 : gH, gd C59 R59 ∧ G = gj C59 R59 ∧
    ∃ u59, g_ob C59 ba1 10 = some u59 ∧
    (kc + 0 ≤ MC ∧ ks + 0 ≤ MS) ∧
    ∃ v59, f_X10_main C59 ba1 = some v59 ∧
    if bx6 < v59 then
    w_L_blocks_J80 MC MS K k15 G kc ks ba0 ba1 ba2 (z0 + z1) bx5 bx6 bx4 (0 : Int32)
    else
    ∃ v66, g_r G ba1 10 7 = some v66 ∧
    ∃ v71, g_ald 0 G v66 bx6 = some v71 ∧
    if v71 = 0 then
    w_L_blocks_J80 MC MS K k15 G kc ks ba0 ba1 ba2 (z0 + z1) bx5 bx6 bx4 (1 : Int32)
    else
    w_L_blocks_J80 MC MS K k15 G kc ks ba0 ba1 ba2 (z0 + z1) bx5 bx6 bx4 (0 : Int32)
def w_L_blocks_J577 (MC MS : Nat) (K : Int32 → gH → Prop) (G : gH) (kc : Nat) (ks : Nat) (z0 : UInt64) (z1 : UInt64) : Prop :=
    if (Op.cmpValue (FP.dcmp z0 z1) CmpOp.l) = 0 then
    kc ≤ MC ∧ ks ≤ MS ∧ K (1 : Int32) G
    else
    kc ≤ MC ∧ ks ≤ MS ∧ K (0 : Int32) G
def w_L_blocks_L492 (MC MS : Nat) (K : Int32 → gH → Prop) : Nat → gH → Nat → Nat → Nat → Nat → Nat → Int32 → Nat → Int32 → Prop
  | 0, _, _, _, _, _, _, _, _, _ => False
  | n + 1, G, kc, ks, ba0, ba1, ba2, bx5, ba6, bx7 =>
    if (11 : Int32) ≤ bx7 then
    ∃ C524 R524 : gH, gd C524 R524 ∧ G = gj C524 R524 ∧
    ∃ u524, g_ob C524 ba0 9 = some u524 ∧
    (kc + 1 ≤ MC ∧ ks + 6 ≤ MS) ∧
    w_X9_size C524 ba0 (12 : Int32) (fun _ _ => False) (fun v524 D524 => ∀ G524 : gH, gd D524 R524 → G524 = gj D524 R524 →
    ∃ v528, g_i G524 ba1 10 5 = some v528 ∧
    if v524 = v528 then
    ∃ C538 R538 : gH, gd C538 R538 ∧ G524 = gj C538 R538 ∧
    ∃ u538, g_ob C538 ba0 9 = some u538 ∧
    ((kc + 1) + 0 ≤ MC ∧ (ks + 6) + 0 ≤ MS) ∧
    ∃ v538, f_X9_defect C538 ba0 bx5 (1 : Int32) = some v538 ∧
    if v538 = (-1 : Int32) then
    ∃ C546 R546 : gH, gd C546 R546 ∧ G524 = gj C546 R546 ∧
    ∃ u546, g_ob C546 ba0 9 = some u546 ∧
    ((kc + 1) + 0 ≤ MC ∧ (ks + 6) + 0 ≤ MS) ∧
    w_X9_share C546 ba0 (fun v546 D546 => ∀ G546 : gH, gd D546 R546 → G546 = gj D546 R546 →
    ∃ v551, g_ald 0 G546 ba2 (0 : Int32) = some v551 ∧
    ∃ v553, g_i G546 ba1 10 0 = some v553 ∧
    if v551 = v553 then
    w_L_blocks_J577 MC MS K G546 ((kc + 1) + 0) ((ks + 6) + 0) v546 FP.dconst1
    else
    ∃ v565, g_ald 0 G546 ba2 (1 : Int32) = some v565 ∧
    ∃ v568, g_i G546 ba1 10 0 = some v568 ∧
    ∃ v573, g_ald 0 G546 ba2 (0 : Int32) = some v573 ∧
    vf_n64 (FP.ddiv (FP.i2d v565) (FP.i2d (v568 - v573))) ∧
    w_L_blocks_J577 MC MS K G546 ((kc + 1) + 0) ((ks + 6) + 0) v546 (FP.ddiv (FP.i2d v565) (FP.i2d (v568 - v573))))
    else
    (kc + 1) ≤ MC ∧ (ks + 6) ≤ MS ∧ K (0 : Int32) G524
    else
    (kc + 1) ≤ MC ∧ (ks + 6) ≤ MS ∧ K (0 : Int32) G524)
    else
    ∃ C502 R502 : gH, gd C502 R502 ∧ G = gj C502 R502 ∧
    ∃ u502, g_ob C502 ba0 9 = some u502 ∧
    (kc + 1 ≤ MC ∧ ks + 6 ≤ MS) ∧
    w_X9_size C502 ba0 bx7 (fun _ _ => False) (fun v502 D502 => ∀ G502 : gH, gd D502 R502 → G502 = gj D502 R502 →
    ∃ v509, g_ald 0 G502 ba6 bx7 = some v509 ∧
    if v502 = v509 then
    w_L_blocks_L492 MC MS K n G502 (kc + 1) (ks + 6) ba0 ba1 ba2 bx5 ba6 (bx7 + (1 : Int32))
    else
    (kc + 1) ≤ MC ∧ (ks + 6) ≤ MS ∧ K (0 : Int32) G502)
def w_L_blocks_J470 (MC MS : Nat) (K : Int32 → gH → Prop) (G : gH) (kc : Nat) (ks : Nat) (ba0 : Nat) (ba1 : Nat) (ba2 : Nat) (bx5 : Int32) (z0 : Nat) (z1 : Nat) (z2 : Int32) (z3 : Int32) : Prop :=
    ∃ G470, g_ast 0 G z1 z2 z3 = some G470 ∧
    ∃ v475, g_i G470 ba1 10 6 = some v475 ∧
    if v475 = 0 then
    ∃ G486, g_ast 0 G470 z0 (10 : Int32) (0 : Int32) = some G486 ∧
    w_L_blocks_L492 MC MS K g_N G486 kc ks ba0 ba1 ba2 bx5 z0 (0 : Int32)
    else
    ∃ G486, g_ast 0 G470 z0 (10 : Int32) (1 : Int32) = some G486 ∧
    w_L_blocks_L492 MC MS K g_N G486 kc ks ba0 ba1 ba2 bx5 z0 (0 : Int32)
def w_L_blocks_L358 (MC MS : Nat) (K : Int32 → gH → Prop) : Nat → gH → Nat → Nat → Nat → Nat → Nat → Int32 → Int32 → Int32 → Int32 → Prop
  | 0, _, _, _, _, _, _, _, _, _, _ => False
  | n + 1, G, kc, ks, ba0, ba1, ba2, bx3, bx4, bx5, bx6 =>
    if (5 : Int32) ≤ bx6 then
    (kc + 1 ≤ MC ∧ ks + 11 ≤ MS) ∧ ∀ q387 : Nat, G q387 = none → ∀ G387 : gH, G387 = va_up G q387 (some (.inl (0, 11, fun _ => 0))) →
    ∃ v392, g_i G387 ba1 10 0 = some v392 ∧
    ∃ G395, g_ast 0 G387 q387 (0 : Int32) v392 = some G395 ∧
    ∃ v399, g_i G395 ba1 10 1 = some v399 ∧
    ∃ G402, g_ast 0 G395 q387 (1 : Int32) v399 = some G402 ∧
    ∃ v406, g_i G402 ba1 10 2 = some v406 ∧
    ∃ G409, g_ast 0 G402 q387 (2 : Int32) v406 = some G409 ∧
    ∃ v413, g_i G409 ba1 10 4 = some v413 ∧
    ∃ G416, g_ast 0 G409 q387 (3 : Int32) v413 = some G416 ∧
    ∃ v420, g_i G416 ba1 10 3 = some v420 ∧
    ∃ G423, g_ast 0 G416 q387 (4 : Int32) v420 = some G423 ∧
    ∃ G428, g_ast 0 G423 q387 (5 : Int32) bx4 = some G428 ∧
    ∃ G433, g_ast 0 G428 q387 (6 : Int32) bx3 = some G433 ∧
    ∃ C440 R440 : gH, gd C440 R440 ∧ G433 = gj C440 R440 ∧
    ∃ u440, g_ob C440 ba1 10 = some u440 ∧
    ((kc + 1) + 0 ≤ MC ∧ (ks + 11) + 0 ≤ MS) ∧
    ∃ v440, f_X10_there C440 ba1 (12 : Int32) = some v440 ∧
    ∃ G443, g_ast 0 G433 q387 (7 : Int32) v440 = some G443 ∧
    ∃ C448 R448 : gH, gd C448 R448 ∧ G443 = gj C448 R448 ∧
    ∃ u448, g_ob C448 ba1 10 = some u448 ∧
    ((kc + 1) + 0 ≤ MC ∧ (ks + 11) + 0 ≤ MS) ∧
    ∃ v448, f_X10_good C448 ba1 = some v448 ∧
    ∃ C451 R451 : gH, gd C451 R451 ∧ G443 = gj C451 R451 ∧
    ((kc + 1) + 0 ≤ MC ∧ (ks + 11) + 0 ≤ MS) ∧
    ∃ v451, f_J6_bitCount_0f7a4 C451 v448 = some v451 ∧
    ∃ G454, g_ast 0 G443 q387 (8 : Int32) v451 = some G454 ∧
    ∃ C459 R459 : gH, gd C459 R459 ∧ G454 = gj C459 R459 ∧
    ∃ u459, g_ob C459 ba1 10 = some u459 ∧
    ((kc + 1) + 0 ≤ MC ∧ (ks + 11) + 0 ≤ MS) ∧
    ∃ v459, f_X10_open C459 ba1 = some v459 ∧
    ((v459 = none →
    w_L_blocks_J470 MC MS K G454 (kc + 1) (ks + 11) ba0 ba1 ba2 bx5 q387 q387 (9 : Int32) (0 : Int32)) ∧ ∀ r459 : Nat, v459 = some r459 →
    w_L_blocks_J470 MC MS K G454 (kc + 1) (ks + 11) ba0 ba1 ba2 bx5 q387 q387 (9 : Int32) (1 : Int32))
    else
    ∃ C367 R367 : gH, gd C367 R367 ∧ G = gj C367 R367 ∧
    ∃ u367, g_ob C367 ba0 9 = some u367 ∧
    (kc + 1 ≤ MC ∧ ks + 6 ≤ MS) ∧
    w_X9_space C367 ba0 bx6 (fun _ _ => False) (fun v367 D367 => ∀ G367 : gH, gd D367 R367 → G367 = gj D367 R367 →
    ∃ v373, g_ald 0 G367 ba2 bx6 = some v373 ∧
    if v367 = v373 then
    w_L_blocks_L358 MC MS K n G367 (kc + 1) (ks + 6) ba0 ba1 ba2 bx3 bx4 bx5 (bx6 + (1 : Int32))
    else
    (kc + 1) ≤ MC ∧ (ks + 6) ≤ MS ∧ K (0 : Int32) G367)
def w_L_blocks_L15 (MC MS : Nat) (K : Int32 → gH → Prop) : Nat → gH → Nat → Nat → Nat → Nat → Nat → Int32 → Int32 → Int32 → Int32 → Prop
  | 0, _, _, _, _, _, _, _, _, _, _ => False
  | n + 1, G, kc, ks, ba0, ba1, ba2, bx3, bx4, bx5, bx6 =>
    ∃ v18, g_i G ba1 10 0 = some v18 ∧
    if v18 ≤ bx6 then
    w_L_blocks_L358 MC MS K g_N G kc ks ba0 ba1 ba2 bx3 bx4 bx5 (0 : Int32)
    else
    ∃ C28 R28 : gH, gd C28 R28 ∧ G = gj C28 R28 ∧
    ∃ u28, g_ob C28 ba1 10 = some u28 ∧
    (kc + 0 ≤ MC ∧ ks + 0 ≤ MS) ∧
    ∃ v28, f_X10_use C28 ba1 bx6 = some v28 ∧
    ∃ v32, g_ald 0 G ba2 v28 = some v32 ∧
    ∃ G35, g_ast 0 G ba2 v28 (v32 + (1 : Int32)) = some G35 ∧
    ∃ v38, g_r G35 ba1 10 12 = some v38 ∧
    ∃ v43, g_ald 1 G35 v38 bx6 = some v43 ∧
    if v43 = 0 then
    w_L_blocks_J52 MC MS K (w_L_blocks_L15 MC MS K n) G35 kc ks ba0 ba1 ba2 bx4 bx5 bx6 bx3 (0 : Int32)
    else
    w_L_blocks_J52 MC MS K (w_L_blocks_L15 MC MS K n) G35 kc ks ba0 ba1 ba2 bx4 bx5 bx6 bx3 (1 : Int32)
def w_L_blocks (MC MS : Nat) (G : gH) (a0 : Nat) (a1 : Nat) (K : Int32 → gH → Prop) : Prop :=
    (0 + 1 ≤ MC ∧ 0 + 5 ≤ MS) ∧ ∀ q1 : Nat, G q1 = none → ∀ G1 : gH, G1 = va_up G q1 (some (.inl (0, 5, fun _ => 0))) →
    w_L_blocks_L15 MC MS K g_N G1 (0 + 1) (0 + 5) a0 a1 q1 (0 : Int32) (0 : Int32) (0 : Int32) (0 : Int32)
def w_L_sessions_J83 (MC MS : Nat) (K : Int32 → gH → Prop) (k2 : gH → Nat → Nat → Nat → Nat → Int32 → Prop) (k31 : gH → Nat → Nat → Nat → Nat → Int32 → Option Nat → Int32 → Int32 → Nat → Int32 → Prop) (G : gH) (kc : Nat) (ks : Nat) (ba0 : Nat) (ba1 : Nat) (bx2 : Int32) (ba3 : Option Nat) (bx5 : Int32) (ba6 : Nat) (bx7 : Int32) (z0 : Int32) (z1 : Int32) : Prop :=
    ((ba3 = none →
    ∃ C91 R91 : gH, gd C91 R91 ∧ G = gj C91 R91 ∧
    ∃ u91, g_ob C91 ba1 10 = some u91 ∧
    (kc + 0 ≤ MC ∧ ks + 0 ≤ MS) ∧
    ∃ v91, f_X10_main C91 ba1 = some v91 ∧
    if v91 ≤ bx7 then
    k31 G kc ks ba0 ba1 bx2 none (z0 + z1) (bx5 + (1 : Int32)) ba6 (bx7 + (1 : Int32))
    else
    k31 G kc ks ba0 ba1 bx2 none (z0 + z1) (bx5 + (0 : Int32)) ba6 (bx7 + (1 : Int32))) ∧ ∀ ba3r : Nat, ba3 = some ba3r →
    ∃ C91 R91 : gH, gd C91 R91 ∧ G = gj C91 R91 ∧
    ∃ u91, g_ob C91 ba1 10 = some u91 ∧
    (kc + 0 ≤ MC ∧ ks + 0 ≤ MS) ∧
    ∃ v91, f_X10_main C91 ba1 = some v91 ∧
    if v91 ≤ bx7 then
    k31 G kc ks ba0 ba1 bx2 (some ba3r) (z0 + z1) (bx5 + (1 : Int32)) ba6 (bx7 + (1 : Int32))
    else
    k31 G kc ks ba0 ba1 bx2 (some ba3r) (z0 + z1) (bx5 + (0 : Int32)) ba6 (bx7 + (1 : Int32)))
def w_L_sessions_J398 (MC MS : Nat) (K : Int32 → gH → Prop) (k2 : gH → Nat → Nat → Nat → Nat → Int32 → Prop) (k265 : gH → Nat → Nat → Nat → Nat → Int32 → Option Nat → Int32 → Prop) (G : gH) (kc : Nat) (ks : Nat) (ba0 : Nat) (ba1 : Nat) (bx2 : Int32) (ba3 : Option Nat) (bx8 : Int32) (z0 : Int32) (z1 : Int32) : Prop :=
    ((ba3 = none →
    if z0 = z1 then
    k265 G kc ks ba0 ba1 bx2 none (bx8 + (1 : Int32))
    else
    kc ≤ MC ∧ ks ≤ MS ∧ K (0 : Int32) G) ∧ ∀ ba3r : Nat, ba3 = some ba3r →
    if z0 = z1 then
    k265 G kc ks ba0 ba1 bx2 (some ba3r) (bx8 + (1 : Int32))
    else
    kc ≤ MC ∧ ks ≤ MS ∧ K (0 : Int32) G)
def w_L_sessions_J373 (MC MS : Nat) (K : Int32 → gH → Prop) (k2 : gH → Nat → Nat → Nat → Nat → Int32 → Prop) (k265 : gH → Nat → Nat → Nat → Nat → Int32 → Option Nat → Int32 → Prop) (G : gH) (kc : Nat) (ks : Nat) (ba0 : Nat) (ba1 : Nat) (bx2 : Int32) (ba3 : Option Nat) (bx8 : Int32) (ba9 : Option Nat) (z0 : Int32) (z1 : Int32) : Prop :=
    ((ba3 = none →
    ((ba9 = none →
    if z0 = z1 then
    ∃ C381 R381 : gH, gd C381 R381 ∧ G = gj C381 R381 ∧
    ∃ u381, g_ob C381 ba0 9 = some u381 ∧
    (kc + 2 ≤ MC ∧ ks + 12 ≤ MS) ∧
    w_X9_entry C381 ba0 bx2 bx8 (4 : Int32) (fun _ _ => False) (fun v381 D381 => ∀ G381 : gH, gd D381 R381 → G381 = gj D381 R381 →
    w_L_sessions_J398 MC MS K k2 k265 G381 (kc + 2) (ks + 12) ba0 ba1 bx2 none bx8 v381 (-1 : Int32))
    else
    kc ≤ MC ∧ ks ≤ MS ∧ K (0 : Int32) G) ∧ ∀ ba9r : Nat, ba9 = some ba9r →
    if z0 = z1 then
    ∃ C381 R381 : gH, gd C381 R381 ∧ G = gj C381 R381 ∧
    ∃ u381, g_ob C381 ba0 9 = some u381 ∧
    (kc + 2 ≤ MC ∧ ks + 12 ≤ MS) ∧
    w_X9_entry C381 ba0 bx2 bx8 (4 : Int32) (fun _ _ => False) (fun v381 D381 => ∀ G381 : gH, gd D381 R381 → G381 = gj D381 R381 →
    ∃ v395, g_i G381 ba9r 13 4 = some v395 ∧
    w_L_sessions_J398 MC MS K k2 k265 G381 (kc + 2) (ks + 12) ba0 ba1 bx2 none bx8 v381 v395)
    else
    kc ≤ MC ∧ ks ≤ MS ∧ K (0 : Int32) G)) ∧ ∀ ba3r : Nat, ba3 = some ba3r →
    ((ba9 = none →
    if z0 = z1 then
    ∃ C381 R381 : gH, gd C381 R381 ∧ G = gj C381 R381 ∧
    ∃ u381, g_ob C381 ba0 9 = some u381 ∧
    (kc + 2 ≤ MC ∧ ks + 12 ≤ MS) ∧
    w_X9_entry C381 ba0 bx2 bx8 (4 : Int32) (fun _ _ => False) (fun v381 D381 => ∀ G381 : gH, gd D381 R381 → G381 = gj D381 R381 →
    w_L_sessions_J398 MC MS K k2 k265 G381 (kc + 2) (ks + 12) ba0 ba1 bx2 (some ba3r) bx8 v381 (-1 : Int32))
    else
    kc ≤ MC ∧ ks ≤ MS ∧ K (0 : Int32) G) ∧ ∀ ba9r : Nat, ba9 = some ba9r →
    if z0 = z1 then
    ∃ C381 R381 : gH, gd C381 R381 ∧ G = gj C381 R381 ∧
    ∃ u381, g_ob C381 ba0 9 = some u381 ∧
    (kc + 2 ≤ MC ∧ ks + 12 ≤ MS) ∧
    w_X9_entry C381 ba0 bx2 bx8 (4 : Int32) (fun _ _ => False) (fun v381 D381 => ∀ G381 : gH, gd D381 R381 → G381 = gj D381 R381 →
    ∃ v395, g_i G381 ba9r 13 4 = some v395 ∧
    w_L_sessions_J398 MC MS K k2 k265 G381 (kc + 2) (ks + 12) ba0 ba1 bx2 (some ba3r) bx8 v381 v395)
    else
    kc ≤ MC ∧ ks ≤ MS ∧ K (0 : Int32) G))
def w_L_sessions_J348 (MC MS : Nat) (K : Int32 → gH → Prop) (k2 : gH → Nat → Nat → Nat → Nat → Int32 → Prop) (k265 : gH → Nat → Nat → Nat → Nat → Int32 → Option Nat → Int32 → Prop) (G : gH) (kc : Nat) (ks : Nat) (ba0 : Nat) (ba1 : Nat) (bx2 : Int32) (ba3 : Option Nat) (bx8 : Int32) (ba9 : Option Nat) (z0 : Int32) (z1 : Int32) : Prop :=
    ((ba3 = none →
    ((ba9 = none →
    if z0 = z1 then
    ∃ C356 R356 : gH, gd C356 R356 ∧ G = gj C356 R356 ∧
    ∃ u356, g_ob C356 ba0 9 = some u356 ∧
    (kc + 2 ≤ MC ∧ ks + 12 ≤ MS) ∧
    w_X9_entry C356 ba0 bx2 bx8 (3 : Int32) (fun _ _ => False) (fun v356 D356 => ∀ G356 : gH, gd D356 R356 → G356 = gj D356 R356 →
    w_L_sessions_J373 MC MS K k2 k265 G356 (kc + 2) (ks + 12) ba0 ba1 bx2 none bx8 none v356 (0 : Int32))
    else
    kc ≤ MC ∧ ks ≤ MS ∧ K (0 : Int32) G) ∧ ∀ ba9r : Nat, ba9 = some ba9r →
    if z0 = z1 then
    ∃ C356 R356 : gH, gd C356 R356 ∧ G = gj C356 R356 ∧
    ∃ u356, g_ob C356 ba0 9 = some u356 ∧
    (kc + 2 ≤ MC ∧ ks + 12 ≤ MS) ∧
    w_X9_entry C356 ba0 bx2 bx8 (3 : Int32) (fun _ _ => False) (fun v356 D356 => ∀ G356 : gH, gd D356 R356 → G356 = gj D356 R356 →
    ∃ v370, g_i G356 ba9r 13 3 = some v370 ∧
    w_L_sessions_J373 MC MS K k2 k265 G356 (kc + 2) (ks + 12) ba0 ba1 bx2 none bx8 (some ba9r) v356 v370)
    else
    kc ≤ MC ∧ ks ≤ MS ∧ K (0 : Int32) G)) ∧ ∀ ba3r : Nat, ba3 = some ba3r →
    ((ba9 = none →
    if z0 = z1 then
    ∃ C356 R356 : gH, gd C356 R356 ∧ G = gj C356 R356 ∧
    ∃ u356, g_ob C356 ba0 9 = some u356 ∧
    (kc + 2 ≤ MC ∧ ks + 12 ≤ MS) ∧
    w_X9_entry C356 ba0 bx2 bx8 (3 : Int32) (fun _ _ => False) (fun v356 D356 => ∀ G356 : gH, gd D356 R356 → G356 = gj D356 R356 →
    w_L_sessions_J373 MC MS K k2 k265 G356 (kc + 2) (ks + 12) ba0 ba1 bx2 (some ba3r) bx8 none v356 (0 : Int32))
    else
    kc ≤ MC ∧ ks ≤ MS ∧ K (0 : Int32) G) ∧ ∀ ba9r : Nat, ba9 = some ba9r →
    if z0 = z1 then
    ∃ C356 R356 : gH, gd C356 R356 ∧ G = gj C356 R356 ∧
    ∃ u356, g_ob C356 ba0 9 = some u356 ∧
    (kc + 2 ≤ MC ∧ ks + 12 ≤ MS) ∧
    w_X9_entry C356 ba0 bx2 bx8 (3 : Int32) (fun _ _ => False) (fun v356 D356 => ∀ G356 : gH, gd D356 R356 → G356 = gj D356 R356 →
    ∃ v370, g_i G356 ba9r 13 3 = some v370 ∧
    w_L_sessions_J373 MC MS K k2 k265 G356 (kc + 2) (ks + 12) ba0 ba1 bx2 (some ba3r) bx8 (some ba9r) v356 v370)
    else
    kc ≤ MC ∧ ks ≤ MS ∧ K (0 : Int32) G))
def w_L_sessions_J323 (MC MS : Nat) (K : Int32 → gH → Prop) (k2 : gH → Nat → Nat → Nat → Nat → Int32 → Prop) (k265 : gH → Nat → Nat → Nat → Nat → Int32 → Option Nat → Int32 → Prop) (G : gH) (kc : Nat) (ks : Nat) (ba0 : Nat) (ba1 : Nat) (bx2 : Int32) (ba3 : Option Nat) (bx8 : Int32) (ba9 : Option Nat) (z0 : Int32) (z1 : Int32) : Prop :=
    ((ba3 = none →
    ((ba9 = none →
    if z0 = z1 then
    ∃ C331 R331 : gH, gd C331 R331 ∧ G = gj C331 R331 ∧
    ∃ u331, g_ob C331 ba0 9 = some u331 ∧
    (kc + 2 ≤ MC ∧ ks + 12 ≤ MS) ∧
    w_X9_entry C331 ba0 bx2 bx8 (2 : Int32) (fun _ _ => False) (fun v331 D331 => ∀ G331 : gH, gd D331 R331 → G331 = gj D331 R331 →
    w_L_sessions_J348 MC MS K k2 k265 G331 (kc + 2) (ks + 12) ba0 ba1 bx2 none bx8 none v331 (-1 : Int32))
    else
    kc ≤ MC ∧ ks ≤ MS ∧ K (0 : Int32) G) ∧ ∀ ba9r : Nat, ba9 = some ba9r →
    if z0 = z1 then
    ∃ C331 R331 : gH, gd C331 R331 ∧ G = gj C331 R331 ∧
    ∃ u331, g_ob C331 ba0 9 = some u331 ∧
    (kc + 2 ≤ MC ∧ ks + 12 ≤ MS) ∧
    w_X9_entry C331 ba0 bx2 bx8 (2 : Int32) (fun _ _ => False) (fun v331 D331 => ∀ G331 : gH, gd D331 R331 → G331 = gj D331 R331 →
    ∃ v345, g_i G331 ba9r 13 2 = some v345 ∧
    w_L_sessions_J348 MC MS K k2 k265 G331 (kc + 2) (ks + 12) ba0 ba1 bx2 none bx8 (some ba9r) v331 v345)
    else
    kc ≤ MC ∧ ks ≤ MS ∧ K (0 : Int32) G)) ∧ ∀ ba3r : Nat, ba3 = some ba3r →
    ((ba9 = none →
    if z0 = z1 then
    ∃ C331 R331 : gH, gd C331 R331 ∧ G = gj C331 R331 ∧
    ∃ u331, g_ob C331 ba0 9 = some u331 ∧
    (kc + 2 ≤ MC ∧ ks + 12 ≤ MS) ∧
    w_X9_entry C331 ba0 bx2 bx8 (2 : Int32) (fun _ _ => False) (fun v331 D331 => ∀ G331 : gH, gd D331 R331 → G331 = gj D331 R331 →
    w_L_sessions_J348 MC MS K k2 k265 G331 (kc + 2) (ks + 12) ba0 ba1 bx2 (some ba3r) bx8 none v331 (-1 : Int32))
    else
    kc ≤ MC ∧ ks ≤ MS ∧ K (0 : Int32) G) ∧ ∀ ba9r : Nat, ba9 = some ba9r →
    if z0 = z1 then
    ∃ C331 R331 : gH, gd C331 R331 ∧ G = gj C331 R331 ∧
    ∃ u331, g_ob C331 ba0 9 = some u331 ∧
    (kc + 2 ≤ MC ∧ ks + 12 ≤ MS) ∧
    w_X9_entry C331 ba0 bx2 bx8 (2 : Int32) (fun _ _ => False) (fun v331 D331 => ∀ G331 : gH, gd D331 R331 → G331 = gj D331 R331 →
    ∃ v345, g_i G331 ba9r 13 2 = some v345 ∧
    w_L_sessions_J348 MC MS K k2 k265 G331 (kc + 2) (ks + 12) ba0 ba1 bx2 (some ba3r) bx8 (some ba9r) v331 v345)
    else
    kc ≤ MC ∧ ks ≤ MS ∧ K (0 : Int32) G))
def w_L_sessions_L265 (MC MS : Nat) (K : Int32 → gH → Prop) (k2 : gH → Nat → Nat → Nat → Nat → Int32 → Prop) : Nat → gH → Nat → Nat → Nat → Nat → Int32 → Option Nat → Int32 → Prop
  | 0, _, _, _, _, _, _, _, _ => False
  | n + 1, G, kc, ks, ba0, ba1, bx2, ba3, bx8 =>
    ((ba3 = none →
    False) ∧ ∀ ba3r : Nat, ba3 = some ba3r →
    ∃ v268, g_i G ba3r 12 2 = some v268 ∧
    if v268 ≤ bx8 then
    ∃ v412, g_i G ba3r 12 2 = some v412 ∧
    ∃ C416 R416 : gH, gd C416 R416 ∧ G = gj C416 R416 ∧
    ∃ u416, g_ob C416 ba0 9 = some u416 ∧
    (kc + 2 ≤ MC ∧ ks + 12 ≤ MS) ∧
    w_X9_entry C416 ba0 bx2 v412 (0 : Int32) (fun _ _ => False) (fun v416 D416 => ∀ G416 : gH, gd D416 R416 → G416 = gj D416 R416 →
    if v416 = (-1 : Int32) then
    ∃ C425 R425 : gH, gd C425 R425 ∧ G416 = gj C425 R425 ∧
    ∃ u425, g_ob C425 ba0 9 = some u425 ∧
    ((kc + 2) + 1 ≤ MC ∧ (ks + 12) + 6 ≤ MS) ∧
    w_X9_filesBefore C425 ba0 bx2 (fun _ _ => False) (fun v425 D425 => ∀ G425 : gH, gd D425 R425 → G425 = gj D425 R425 →
    ∃ C430 R430 : gH, gd C430 R430 ∧ G425 = gj C430 R430 ∧
    ∃ u430, g_ob C430 ba1 10 = some u430 ∧
    (((kc + 2) + 1) + 0 ≤ MC ∧ ((ks + 12) + 6) + 0 ≤ MS) ∧
    ∃ v430, f_X10_there C430 ba1 bx2 = some v430 ∧
    if v425 = v430 then
    k2 G425 ((kc + 2) + 1) ((ks + 12) + 6) ba0 ba1 (bx2 + (1 : Int32))
    else
    ((kc + 2) + 1) ≤ MC ∧ ((ks + 12) + 6) ≤ MS ∧ K (0 : Int32) G425)
    else
    (kc + 2) ≤ MC ∧ (ks + 12) ≤ MS ∧ K (0 : Int32) G416)
    else
    ∃ v275, g_r G ba3r 12 8 = some v275 ∧
    ∃ v280, g_rald 6 G v275 bx8 = some v280 ∧
    ((v280 = none →
    ∃ C288 R288 : gH, gd C288 R288 ∧ G = gj C288 R288 ∧
    ∃ u288, g_ob C288 ba0 9 = some u288 ∧
    (kc + 2 ≤ MC ∧ ks + 12 ≤ MS) ∧
    w_X9_entry C288 ba0 bx2 bx8 (0 : Int32) (fun _ _ => False) (fun v288 D288 => ∀ G288 : gH, gd D288 R288 → G288 = gj D288 R288 →
    ∃ v292, g_r G288 ba3r 12 6 = some v292 ∧
    ∃ v297, g_ald 0 G288 v292 bx8 = some v297 ∧
    if v288 = v297 then
    ∃ C306 R306 : gH, gd C306 R306 ∧ G288 = gj C306 R306 ∧
    ∃ u306, g_ob C306 ba0 9 = some u306 ∧
    ((kc + 2) + 2 ≤ MC ∧ (ks + 12) + 12 ≤ MS) ∧
    w_X9_entry C306 ba0 bx2 bx8 (1 : Int32) (fun _ _ => False) (fun v306 D306 => ∀ G306 : gH, gd D306 R306 → G306 = gj D306 R306 →
    w_L_sessions_J323 MC MS K k2 (w_L_sessions_L265 MC MS K k2 n) G306 ((kc + 2) + 2) ((ks + 12) + 12) ba0 ba1 bx2 (some ba3r) bx8 none v306 (-1 : Int32))
    else
    (kc + 2) ≤ MC ∧ (ks + 12) ≤ MS ∧ K (0 : Int32) G288)) ∧ ∀ r280 : Nat, v280 = some r280 →
    ∃ C288 R288 : gH, gd C288 R288 ∧ G = gj C288 R288 ∧
    ∃ u288, g_ob C288 ba0 9 = some u288 ∧
    (kc + 2 ≤ MC ∧ ks + 12 ≤ MS) ∧
    w_X9_entry C288 ba0 bx2 bx8 (0 : Int32) (fun _ _ => False) (fun v288 D288 => ∀ G288 : gH, gd D288 R288 → G288 = gj D288 R288 →
    ∃ v292, g_r G288 ba3r 12 6 = some v292 ∧
    ∃ v297, g_ald 0 G288 v292 bx8 = some v297 ∧
    if v288 = v297 then
    ∃ C306 R306 : gH, gd C306 R306 ∧ G288 = gj C306 R306 ∧
    ∃ u306, g_ob C306 ba0 9 = some u306 ∧
    ((kc + 2) + 2 ≤ MC ∧ (ks + 12) + 12 ≤ MS) ∧
    w_X9_entry C306 ba0 bx2 bx8 (1 : Int32) (fun _ _ => False) (fun v306 D306 => ∀ G306 : gH, gd D306 R306 → G306 = gj D306 R306 →
    ∃ v320, g_i G306 r280 13 1 = some v320 ∧
    w_L_sessions_J323 MC MS K k2 (w_L_sessions_L265 MC MS K k2 n) G306 ((kc + 2) + 2) ((ks + 12) + 12) ba0 ba1 bx2 (some ba3r) bx8 (some r280) v306 v320)
    else
    (kc + 2) ≤ MC ∧ (ks + 12) ≤ MS ∧ K (0 : Int32) G288)))
def w_L_sessions_L233 (MC MS : Nat) (K : Int32 → gH → Prop) (k2 : gH → Nat → Nat → Nat → Nat → Int32 → Prop) : Nat → gH → Nat → Nat → Nat → Nat → Int32 → Option Nat → Nat → Int32 → Prop
  | 0, _, _, _, _, _, _, _, _, _ => False
  | n + 1, G, kc, ks, ba0, ba1, bx2, ba3, ba6, bx8 =>
    ((ba3 = none →
    if (5 : Int32) ≤ bx8 then
    w_L_sessions_L265 MC MS K k2 g_N G kc ks ba0 ba1 bx2 none (0 : Int32)
    else
    ∃ C243 R243 : gH, gd C243 R243 ∧ G = gj C243 R243 ∧
    ∃ u243, g_ob C243 ba0 9 = some u243 ∧
    (kc + 2 ≤ MC ∧ ks + 12 ≤ MS) ∧
    w_X9_spaceOf C243 ba0 bx2 bx8 (fun _ _ => False) (fun v243 D243 => ∀ G243 : gH, gd D243 R243 → G243 = gj D243 R243 →
    ∃ v250, g_ald 0 G243 ba6 bx8 = some v250 ∧
    if v243 = v250 then
    w_L_sessions_L233 MC MS K k2 n G243 (kc + 2) (ks + 12) ba0 ba1 bx2 none ba6 (bx8 + (1 : Int32))
    else
    (kc + 2) ≤ MC ∧ (ks + 12) ≤ MS ∧ K (0 : Int32) G243)) ∧ ∀ ba3r : Nat, ba3 = some ba3r →
    if (5 : Int32) ≤ bx8 then
    w_L_sessions_L265 MC MS K k2 g_N G kc ks ba0 ba1 bx2 (some ba3r) (0 : Int32)
    else
    ∃ C243 R243 : gH, gd C243 R243 ∧ G = gj C243 R243 ∧
    ∃ u243, g_ob C243 ba0 9 = some u243 ∧
    (kc + 2 ≤ MC ∧ ks + 12 ≤ MS) ∧
    w_X9_spaceOf C243 ba0 bx2 bx8 (fun _ _ => False) (fun v243 D243 => ∀ G243 : gH, gd D243 R243 → G243 = gj D243 R243 →
    ∃ v250, g_ald 0 G243 ba6 bx8 = some v250 ∧
    if v243 = v250 then
    w_L_sessions_L233 MC MS K k2 n G243 (kc + 2) (ks + 12) ba0 ba1 bx2 (some ba3r) ba6 (bx8 + (1 : Int32))
    else
    (kc + 2) ≤ MC ∧ (ks + 12) ≤ MS ∧ K (0 : Int32) G243))
def w_L_sessions_L200 (MC MS : Nat) (K : Int32 → gH → Prop) (k2 : gH → Nat → Nat → Nat → Nat → Int32 → Prop) : Nat → gH → Nat → Nat → Nat → Nat → Int32 → Option Nat → Nat → Nat → Int32 → Prop
  | 0, _, _, _, _, _, _, _, _, _, _ => False
  | n + 1, G, kc, ks, ba0, ba1, bx2, ba3, ba6, ba7, bx8 =>
    ((ba3 = none →
    if (9 : Int32) ≤ bx8 then
    w_L_sessions_L233 MC MS K k2 g_N G kc ks ba0 ba1 bx2 none ba6 (1 : Int32)
    else
    ∃ C211 R211 : gH, gd C211 R211 ∧ G = gj C211 R211 ∧
    ∃ u211, g_ob C211 ba0 9 = some u211 ∧
    (kc + 2 ≤ MC ∧ ks + 12 ≤ MS) ∧
    w_X9_session C211 ba0 bx2 bx8 (fun _ _ => False) (fun v211 D211 => ∀ G211 : gH, gd D211 R211 → G211 = gj D211 R211 →
    ∃ v218, g_ald 0 G211 ba7 bx8 = some v218 ∧
    if v211 = v218 then
    w_L_sessions_L200 MC MS K k2 n G211 (kc + 2) (ks + 12) ba0 ba1 bx2 none ba6 ba7 (bx8 + (1 : Int32))
    else
    (kc + 2) ≤ MC ∧ (ks + 12) ≤ MS ∧ K (0 : Int32) G211)) ∧ ∀ ba3r : Nat, ba3 = some ba3r →
    if (9 : Int32) ≤ bx8 then
    w_L_sessions_L233 MC MS K k2 g_N G kc ks ba0 ba1 bx2 (some ba3r) ba6 (1 : Int32)
    else
    ∃ C211 R211 : gH, gd C211 R211 ∧ G = gj C211 R211 ∧
    ∃ u211, g_ob C211 ba0 9 = some u211 ∧
    (kc + 2 ≤ MC ∧ ks + 12 ≤ MS) ∧
    w_X9_session C211 ba0 bx2 bx8 (fun _ _ => False) (fun v211 D211 => ∀ G211 : gH, gd D211 R211 → G211 = gj D211 R211 →
    ∃ v218, g_ald 0 G211 ba7 bx8 = some v218 ∧
    if v211 = v218 then
    w_L_sessions_L200 MC MS K k2 n G211 (kc + 2) (ks + 12) ba0 ba1 bx2 (some ba3r) ba6 ba7 (bx8 + (1 : Int32))
    else
    (kc + 2) ≤ MC ∧ (ks + 12) ≤ MS ∧ K (0 : Int32) G211))
def w_L_sessions_J188 (MC MS : Nat) (K : Int32 → gH → Prop) (k2 : gH → Nat → Nat → Nat → Nat → Int32 → Prop) (G : gH) (kc : Nat) (ks : Nat) (ba0 : Nat) (ba1 : Nat) (bx2 : Int32) (ba3 : Option Nat) (bx5 : Int32) (ba6 : Nat) (z0 : Nat) (z1 : Nat) (z2 : Int32) (z3 : Int32) : Prop :=
    ((ba3 = none →
    ∃ G188, g_ast 0 G z1 z2 z3 = some G188 ∧
    ∃ G194, g_ast 0 G188 z0 (8 : Int32) bx5 = some G194 ∧
    w_L_sessions_L200 MC MS K k2 g_N G194 kc ks ba0 ba1 bx2 none ba6 z0 (0 : Int32)) ∧ ∀ ba3r : Nat, ba3 = some ba3r →
    ∃ G188, g_ast 0 G z1 z2 z3 = some G188 ∧
    ∃ G194, g_ast 0 G188 z0 (8 : Int32) bx5 = some G194 ∧
    w_L_sessions_L200 MC MS K k2 g_N G194 kc ks ba0 ba1 bx2 (some ba3r) ba6 z0 (0 : Int32))
def w_L_sessions_J163 (MC MS : Nat) (K : Int32 → gH → Prop) (k2 : gH → Nat → Nat → Nat → Nat → Int32 → Prop) (G : gH) (kc : Nat) (ks : Nat) (ba0 : Nat) (ba1 : Nat) (bx2 : Int32) (ba3 : Option Nat) (bx5 : Int32) (ba6 : Nat) (z0 : Nat) (z1 : Nat) (z2 : Int32) (z3 : Int32) : Prop :=
    ((ba3 = none →
    ∃ G163, g_ast 0 G z1 z2 z3 = some G163 ∧
    False) ∧ ∀ ba3r : Nat, ba3 = some ba3r →
    ∃ G163, g_ast 0 G z1 z2 z3 = some G163 ∧
    ∃ v168, g_i G163 ba3r 12 4 = some v168 ∧
    ∃ G171, g_ast 0 G163 z0 (6 : Int32) v168 = some G171 ∧
    ∃ C177 R177 : gH, gd C177 R177 ∧ G171 = gj C177 R177 ∧
    ∃ u177, g_ob C177 ba1 10 = some u177 ∧
    (kc + 0 ≤ MC ∧ ks + 0 ≤ MS) ∧
    ∃ v177, f_X10_reaches C177 ba1 bx2 = some v177 ∧
    if v177 = 0 then
    w_L_sessions_J188 MC MS K k2 G171 kc ks ba0 ba1 bx2 (some ba3r) bx5 ba6 z0 z0 (7 : Int32) (0 : Int32)
    else
    w_L_sessions_J188 MC MS K k2 G171 kc ks ba0 ba1 bx2 (some ba3r) bx5 ba6 z0 z0 (7 : Int32) (1 : Int32))
def w_L_sessions_L31 (MC MS : Nat) (K : Int32 → gH → Prop) (k2 : gH → Nat → Nat → Nat → Nat → Int32 → Prop) : Nat → gH → Nat → Nat → Nat → Nat → Int32 → Option Nat → Int32 → Int32 → Nat → Int32 → Prop
  | 0, _, _, _, _, _, _, _, _, _, _, _ => False
  | n + 1, G, kc, ks, ba0, ba1, bx2, ba3, bx4, bx5, ba6, bx7 =>
    ((ba3 = none →
    ∃ v34, g_i G ba1 10 0 = some v34 ∧
    if v34 ≤ bx7 then
    (kc + 1 ≤ MC ∧ ks + 9 ≤ MS) ∧ ∀ q113 : Nat, G q113 = none → ∀ G113 : gH, G113 = va_up G q113 (some (.inl (0, 9, fun _ => 0))) →
    False
    else
    ∃ v41, g_r G ba1 10 8 = some v41 ∧
    ∃ v46, g_ald 0 G v41 bx7 = some v46 ∧
    if v46 = bx2 then
    ∃ C59 R59 : gH, gd C59 R59 ∧ G = gj C59 R59 ∧
    ∃ u59, g_ob C59 ba1 10 = some u59 ∧
    (kc + 0 ≤ MC ∧ ks + 0 ≤ MS) ∧
    ∃ v59, f_X10_use C59 ba1 bx7 = some v59 ∧
    ∃ v63, g_ald 0 G ba6 v59 = some v63 ∧
    ∃ G66, g_ast 0 G ba6 v59 (v63 + (1 : Int32)) = some G66 ∧
    ∃ C72 R72 : gH, gd C72 R72 ∧ G66 = gj C72 R72 ∧
    ∃ u72, g_ob C72 ba1 10 = some u72 ∧
    (kc + 0 ≤ MC ∧ ks + 0 ≤ MS) ∧
    ∃ v72, f_X10_main C72 ba1 = some v72 ∧
    if v72 ≤ bx7 then
    w_L_sessions_J83 MC MS K k2 (w_L_sessions_L31 MC MS K k2 n) G66 kc ks ba0 ba1 bx2 none bx5 ba6 bx7 bx4 (0 : Int32)
    else
    w_L_sessions_J83 MC MS K k2 (w_L_sessions_L31 MC MS K k2 n) G66 kc ks ba0 ba1 bx2 none bx5 ba6 bx7 bx4 (1 : Int32)
    else
    w_L_sessions_L31 MC MS K k2 n G kc ks ba0 ba1 bx2 none bx4 bx5 ba6 (bx7 + (1 : Int32))) ∧ ∀ ba3r : Nat, ba3 = some ba3r →
    ∃ v34, g_i G ba1 10 0 = some v34 ∧
    if v34 ≤ bx7 then
    (kc + 1 ≤ MC ∧ ks + 9 ≤ MS) ∧ ∀ q113 : Nat, G q113 = none → ∀ G113 : gH, G113 = va_up G q113 (some (.inl (0, 9, fun _ => 0))) →
    ∃ v118, g_i G113 ba3r 12 0 = some v118 ∧
    ∃ G121, g_ast 0 G113 q113 (0 : Int32) v118 = some G121 ∧
    ∃ v125, g_i G121 ba3r 12 1 = some v125 ∧
    ∃ G128, g_ast 0 G121 q113 (1 : Int32) v125 = some G128 ∧
    ∃ G133, g_ast 0 G128 q113 (2 : Int32) bx4 = some G133 ∧
    ∃ v137, g_i G133 ba3r 12 2 = some v137 ∧
    ∃ G140, g_ast 0 G133 q113 (3 : Int32) v137 = some G140 ∧
    ∃ v144, g_i G140 ba3r 12 3 = some v144 ∧
    ∃ G147, g_ast 0 G140 q113 (4 : Int32) v144 = some G147 ∧
    ∃ C152 R152 : gH, gd C152 R152 ∧ G147 = gj C152 R152 ∧
    ∃ u152, g_ob C152 ba1 10 = some u152 ∧
    ((kc + 1) + 0 ≤ MC ∧ (ks + 9) + 0 ≤ MS) ∧
    ∃ v152, f_X10_reads C152 ba1 ba3r = some v152 ∧
    if v152 = 0 then
    w_L_sessions_J163 MC MS K k2 G147 (kc + 1) (ks + 9) ba0 ba1 bx2 (some ba3r) bx5 ba6 q113 q113 (5 : Int32) (0 : Int32)
    else
    w_L_sessions_J163 MC MS K k2 G147 (kc + 1) (ks + 9) ba0 ba1 bx2 (some ba3r) bx5 ba6 q113 q113 (5 : Int32) (1 : Int32)
    else
    ∃ v41, g_r G ba1 10 8 = some v41 ∧
    ∃ v46, g_ald 0 G v41 bx7 = some v46 ∧
    if v46 = bx2 then
    ∃ C59 R59 : gH, gd C59 R59 ∧ G = gj C59 R59 ∧
    ∃ u59, g_ob C59 ba1 10 = some u59 ∧
    (kc + 0 ≤ MC ∧ ks + 0 ≤ MS) ∧
    ∃ v59, f_X10_use C59 ba1 bx7 = some v59 ∧
    ∃ v63, g_ald 0 G ba6 v59 = some v63 ∧
    ∃ G66, g_ast 0 G ba6 v59 (v63 + (1 : Int32)) = some G66 ∧
    ∃ C72 R72 : gH, gd C72 R72 ∧ G66 = gj C72 R72 ∧
    ∃ u72, g_ob C72 ba1 10 = some u72 ∧
    (kc + 0 ≤ MC ∧ ks + 0 ≤ MS) ∧
    ∃ v72, f_X10_main C72 ba1 = some v72 ∧
    if v72 ≤ bx7 then
    w_L_sessions_J83 MC MS K k2 (w_L_sessions_L31 MC MS K k2 n) G66 kc ks ba0 ba1 bx2 (some ba3r) bx5 ba6 bx7 bx4 (0 : Int32)
    else
    w_L_sessions_J83 MC MS K k2 (w_L_sessions_L31 MC MS K k2 n) G66 kc ks ba0 ba1 bx2 (some ba3r) bx5 ba6 bx7 bx4 (1 : Int32)
    else
    w_L_sessions_L31 MC MS K k2 n G kc ks ba0 ba1 bx2 (some ba3r) bx4 bx5 ba6 (bx7 + (1 : Int32)))
def w_L_sessions_L2 (MC MS : Nat) (K : Int32 → gH → Prop) : Nat → gH → Nat → Nat → Nat → Nat → Int32 → Prop
  | 0, _, _, _, _, _, _ => False
  | n + 1, G, kc, ks, ba0, ba1, bx2 =>
    ∃ v4, g_i G ba1 10 4 = some v4 ∧
    if v4 ≤ bx2 then
    kc ≤ MC ∧ ks ≤ MS ∧ K (1 : Int32) G
    else
    ∃ v11, g_r G ba1 10 16 = some v11 ∧
    ∃ v15, g_rald 5 G v11 bx2 = some v15 ∧
    ((v15 = none →
    (kc + 1 ≤ MC ∧ ks + 5 ≤ MS) ∧ ∀ q24 : Nat, G q24 = none → ∀ G24 : gH, G24 = va_up G q24 (some (.inl (0, 5, fun _ => 0))) →
    w_L_sessions_L31 MC MS K (w_L_sessions_L2 MC MS K n) g_N G24 (kc + 1) (ks + 5) ba0 ba1 bx2 none (0 : Int32) (0 : Int32) q24 (0 : Int32)) ∧ ∀ r15 : Nat, v15 = some r15 →
    (kc + 1 ≤ MC ∧ ks + 5 ≤ MS) ∧ ∀ q24 : Nat, G q24 = none → ∀ G24 : gH, G24 = va_up G q24 (some (.inl (0, 5, fun _ => 0))) →
    w_L_sessions_L31 MC MS K (w_L_sessions_L2 MC MS K n) g_N G24 (kc + 1) (ks + 5) ba0 ba1 bx2 (some r15) (0 : Int32) (0 : Int32) q24 (0 : Int32))
def w_L_sessions (MC MS : Nat) (G : gH) (a0 : Nat) (a1 : Nat) (K : Int32 → gH → Prop) : Prop :=
    w_L_sessions_L2 MC MS K g_N G 0 0 a0 a1 (0 : Int32)
def w_L_files_J319 (MC MS : Nat) (K : Int32 → gH → Prop) (k2 : gH → Nat → Nat → Nat → Nat → Nat → Int32 → Prop) (k278 : gH → Nat → Nat → Nat → Nat → Nat → Int32 → Option Nat → Int32 → Prop) (G : gH) (kc : Nat) (ks : Nat) (ba0 : Nat) (ba1 : Nat) (ba2 : Nat) (bx3 : Int32) (ba5 : Option Nat) (bx10 : Int32) (z0 : Int32) (z1 : Int32) : Prop :=
    ((ba5 = none →
    if z0 = z1 then
    k278 G kc ks ba0 ba1 ba2 bx3 none (bx10 + (1 : Int32))
    else
    kc ≤ MC ∧ ks ≤ MS ∧ K (0 : Int32) G) ∧ ∀ ba5r : Nat, ba5 = some ba5r →
    if z0 = z1 then
    k278 G kc ks ba0 ba1 ba2 bx3 (some ba5r) (bx10 + (1 : Int32))
    else
    kc ≤ MC ∧ ks ≤ MS ∧ K (0 : Int32) G)
def w_L_files_L278 (MC MS : Nat) (K : Int32 → gH → Prop) (k2 : gH → Nat → Nat → Nat → Nat → Nat → Int32 → Prop) : Nat → gH → Nat → Nat → Nat → Nat → Nat → Int32 → Option Nat → Int32 → Prop
  | 0, _, _, _, _, _, _, _, _, _ => False
  | n + 1, G, kc, ks, ba0, ba1, ba2, bx3, ba5, bx10 =>
    ((ba5 = none →
    if (8 : Int32) ≤ bx10 then
    k2 G kc ks ba0 ba1 ba2 (bx3 + (1 : Int32))
    else
    ∃ C289 R289 : gH, gd C289 R289 ∧ G = gj C289 R289 ∧
    ∃ u289, g_ob C289 ba0 9 = some u289 ∧
    (kc + 1 ≤ MC ∧ ks + 6 ≤ MS) ∧
    w_X9_where C289 ba0 bx3 bx10 (fun _ _ => False) (fun v289 D289 => ∀ G289 : gH, gd D289 R289 → G289 = gj D289 R289 →
    w_L_files_J319 MC MS K k2 (w_L_files_L278 MC MS K k2 n) G289 (kc + 1) (ks + 6) ba0 ba1 ba2 bx3 none bx10 v289 (-1 : Int32))) ∧ ∀ ba5r : Nat, ba5 = some ba5r →
    if (8 : Int32) ≤ bx10 then
    k2 G kc ks ba0 ba1 ba2 (bx3 + (1 : Int32))
    else
    ∃ C289 R289 : gH, gd C289 R289 ∧ G = gj C289 R289 ∧
    ∃ u289, g_ob C289 ba0 9 = some u289 ∧
    (kc + 1 ≤ MC ∧ ks + 6 ≤ MS) ∧
    w_X9_where C289 ba0 bx3 bx10 (fun _ _ => False) (fun v289 D289 => ∀ G289 : gH, gd D289 R289 → G289 = gj D289 R289 →
    ∃ v301, g_i G289 ba5r 13 3 = some v301 ∧
    if bx10 < v301 then
    ∃ v313, g_r G289 ba5r 13 6 = some v313 ∧
    ∃ v318, g_ald 0 G289 v313 bx10 = some v318 ∧
    w_L_files_J319 MC MS K k2 (w_L_files_L278 MC MS K k2 n) G289 (kc + 1) (ks + 6) ba0 ba1 ba2 bx3 (some ba5r) bx10 v289 v318
    else
    w_L_files_J319 MC MS K k2 (w_L_files_L278 MC MS K k2 n) G289 (kc + 1) (ks + 6) ba0 ba1 ba2 bx3 (some ba5r) bx10 v289 (-1 : Int32)))
def w_L_files_L216 (MC MS : Nat) (K : Int32 → gH → Prop) (k2 : gH → Nat → Nat → Nat → Nat → Nat → Int32 → Prop) : Nat → gH → Nat → Nat → Nat → Nat → Nat → Int32 → Option Nat → Nat → Int32 → Prop
  | 0, _, _, _, _, _, _, _, _, _, _ => False
  | n + 1, G, kc, ks, ba0, ba1, ba2, bx3, ba5, ba8, bx9 =>
    ((ba5 = none →
    if (7 : Int32) ≤ bx9 then
    ∃ C250 R250 : gH, gd C250 R250 ∧ G = gj C250 R250 ∧
    (kc + 0 ≤ MC ∧ ks + 0 ≤ MS) ∧
    ∃ q250, f_L_draw C250 ba2 (8 : Int32) = some q250 ∧ ∀ G250 : gH, gd q250.1 R250 → G250 = gj q250.1 R250 →
    ∃ C260 R260 : gH, gd C260 R260 ∧ G250 = gj C260 R260 ∧
    ∃ u260, g_ob C260 ba0 9 = some u260 ∧
    (kc + 2 ≤ MC ∧ ks + 12 ≤ MS) ∧
    w_X9_whyNotWrite C260 ba0 bx3 ((1 : Int32) + q250.2) (fun _ _ => False) (fun v260 D260 => ∀ G260 : gH, gd D260 R260 → G260 = gj D260 R260 →
    ∃ C267 R267 : gH, gd C267 R267 ∧ G260 = gj C267 R267 ∧
    ∃ u267, g_ob C267 ba1 10 = some u267 ∧
    ((kc + 2) + 0 ≤ MC ∧ (ks + 12) + 0 ≤ MS) ∧
    ∃ v267, f_X10_whyWrite C267 ba1 bx3 ((1 : Int32) + q250.2) = some v267 ∧
    if v260 = v267 then
    w_L_files_L278 MC MS K k2 g_N G260 (kc + 2) (ks + 12) ba0 ba1 ba2 bx3 none (0 : Int32)
    else
    (kc + 2) ≤ MC ∧ (ks + 12) ≤ MS ∧ K (0 : Int32) G260)
    else
    ∃ C227 R227 : gH, gd C227 R227 ∧ G = gj C227 R227 ∧
    ∃ u227, g_ob C227 ba0 9 = some u227 ∧
    (kc + 2 ≤ MC ∧ ks + 12 ≤ MS) ∧
    w_X9_file C227 ba0 bx3 bx9 (fun _ _ => False) (fun v227 D227 => ∀ G227 : gH, gd D227 R227 → G227 = gj D227 R227 →
    ∃ v234, g_ald 0 G227 ba8 bx9 = some v234 ∧
    if v227 = v234 then
    w_L_files_L216 MC MS K k2 n G227 (kc + 2) (ks + 12) ba0 ba1 ba2 bx3 none ba8 (bx9 + (1 : Int32))
    else
    (kc + 2) ≤ MC ∧ (ks + 12) ≤ MS ∧ K (0 : Int32) G227)) ∧ ∀ ba5r : Nat, ba5 = some ba5r →
    if (7 : Int32) ≤ bx9 then
    ∃ C250 R250 : gH, gd C250 R250 ∧ G = gj C250 R250 ∧
    (kc + 0 ≤ MC ∧ ks + 0 ≤ MS) ∧
    ∃ q250, f_L_draw C250 ba2 (8 : Int32) = some q250 ∧ ∀ G250 : gH, gd q250.1 R250 → G250 = gj q250.1 R250 →
    ∃ C260 R260 : gH, gd C260 R260 ∧ G250 = gj C260 R260 ∧
    ∃ u260, g_ob C260 ba0 9 = some u260 ∧
    (kc + 2 ≤ MC ∧ ks + 12 ≤ MS) ∧
    w_X9_whyNotWrite C260 ba0 bx3 ((1 : Int32) + q250.2) (fun _ _ => False) (fun v260 D260 => ∀ G260 : gH, gd D260 R260 → G260 = gj D260 R260 →
    ∃ C267 R267 : gH, gd C267 R267 ∧ G260 = gj C267 R267 ∧
    ∃ u267, g_ob C267 ba1 10 = some u267 ∧
    ((kc + 2) + 0 ≤ MC ∧ (ks + 12) + 0 ≤ MS) ∧
    ∃ v267, f_X10_whyWrite C267 ba1 bx3 ((1 : Int32) + q250.2) = some v267 ∧
    if v260 = v267 then
    w_L_files_L278 MC MS K k2 g_N G260 (kc + 2) (ks + 12) ba0 ba1 ba2 bx3 (some ba5r) (0 : Int32)
    else
    (kc + 2) ≤ MC ∧ (ks + 12) ≤ MS ∧ K (0 : Int32) G260)
    else
    ∃ C227 R227 : gH, gd C227 R227 ∧ G = gj C227 R227 ∧
    ∃ u227, g_ob C227 ba0 9 = some u227 ∧
    (kc + 2 ≤ MC ∧ ks + 12 ≤ MS) ∧
    w_X9_file C227 ba0 bx3 bx9 (fun _ _ => False) (fun v227 D227 => ∀ G227 : gH, gd D227 R227 → G227 = gj D227 R227 →
    ∃ v234, g_ald 0 G227 ba8 bx9 = some v234 ∧
    if v227 = v234 then
    w_L_files_L216 MC MS K k2 n G227 (kc + 2) (ks + 12) ba0 ba1 ba2 bx3 (some ba5r) ba8 (bx9 + (1 : Int32))
    else
    (kc + 2) ≤ MC ∧ (ks + 12) ≤ MS ∧ K (0 : Int32) G227))
def w_L_files_J199 (MC MS : Nat) (K : Int32 → gH → Prop) (k2 : gH → Nat → Nat → Nat → Nat → Nat → Int32 → Prop) (G : gH) (kc : Nat) (ks : Nat) (ba0 : Nat) (ba1 : Nat) (ba2 : Nat) (bx3 : Int32) (ba5 : Option Nat) (bx6 : Int32) (bx7 : Int32) (z0 : Nat) (z1 : Nat) (z2 : Int32) (z3 : Int32) : Prop :=
    ((ba5 = none →
    ∃ G199, g_ast 0 G z1 z2 z3 = some G199 ∧
    ∃ G204, g_ast 0 G199 z0 (5 : Int32) bx6 = some G204 ∧
    ∃ G210, g_ast 0 G204 z0 (6 : Int32) bx7 = some G210 ∧
    w_L_files_L216 MC MS K k2 g_N G210 kc ks ba0 ba1 ba2 bx3 none z0 (0 : Int32)) ∧ ∀ ba5r : Nat, ba5 = some ba5r →
    ∃ G199, g_ast 0 G z1 z2 z3 = some G199 ∧
    ∃ G204, g_ast 0 G199 z0 (5 : Int32) bx6 = some G204 ∧
    ∃ G210, g_ast 0 G204 z0 (6 : Int32) bx7 = some G210 ∧
    w_L_files_L216 MC MS K k2 g_N G210 kc ks ba0 ba1 ba2 bx3 (some ba5r) z0 (0 : Int32))
def w_L_files_J182 (MC MS : Nat) (K : Int32 → gH → Prop) (k2 : gH → Nat → Nat → Nat → Nat → Nat → Int32 → Prop) (G : gH) (kc : Nat) (ks : Nat) (ba0 : Nat) (ba1 : Nat) (ba2 : Nat) (bx3 : Int32) (ba5 : Option Nat) (bx6 : Int32) (bx7 : Int32) (z0 : Nat) (z1 : Nat) (z2 : Int32) (z3 : Int32) : Prop :=
    ((ba5 = none →
    ∃ G182, g_ast 0 G z1 z2 z3 = some G182 ∧
    w_L_files_J199 MC MS K k2 G182 kc ks ba0 ba1 ba2 bx3 none bx6 bx7 z0 z0 (4 : Int32) (-1 : Int32)) ∧ ∀ ba5r : Nat, ba5 = some ba5r →
    ∃ G182, g_ast 0 G z1 z2 z3 = some G182 ∧
    ∃ v196, g_i G182 ba5r 13 4 = some v196 ∧
    w_L_files_J199 MC MS K k2 G182 kc ks ba0 ba1 ba2 bx3 (some ba5r) bx6 bx7 z0 z0 (4 : Int32) v196)
def w_L_files_J165 (MC MS : Nat) (K : Int32 → gH → Prop) (k2 : gH → Nat → Nat → Nat → Nat → Nat → Int32 → Prop) (G : gH) (kc : Nat) (ks : Nat) (ba0 : Nat) (ba1 : Nat) (ba2 : Nat) (bx3 : Int32) (ba5 : Option Nat) (bx6 : Int32) (bx7 : Int32) (z0 : Nat) (z1 : Nat) (z2 : Int32) (z3 : Int32) : Prop :=
    ((ba5 = none →
    ∃ G165, g_ast 0 G z1 z2 z3 = some G165 ∧
    w_L_files_J182 MC MS K k2 G165 kc ks ba0 ba1 ba2 bx3 none bx6 bx7 z0 z0 (3 : Int32) (0 : Int32)) ∧ ∀ ba5r : Nat, ba5 = some ba5r →
    ∃ G165, g_ast 0 G z1 z2 z3 = some G165 ∧
    ∃ v179, g_i G165 ba5r 13 3 = some v179 ∧
    w_L_files_J182 MC MS K k2 G165 kc ks ba0 ba1 ba2 bx3 (some ba5r) bx6 bx7 z0 z0 (3 : Int32) v179)
def w_L_files_J148 (MC MS : Nat) (K : Int32 → gH → Prop) (k2 : gH → Nat → Nat → Nat → Nat → Nat → Int32 → Prop) (G : gH) (kc : Nat) (ks : Nat) (ba0 : Nat) (ba1 : Nat) (ba2 : Nat) (bx3 : Int32) (ba5 : Option Nat) (bx6 : Int32) (bx7 : Int32) (z0 : Nat) (z1 : Nat) (z2 : Int32) (z3 : Int32) : Prop :=
    ((ba5 = none →
    ∃ G148, g_ast 0 G z1 z2 z3 = some G148 ∧
    w_L_files_J165 MC MS K k2 G148 kc ks ba0 ba1 ba2 bx3 none bx6 bx7 z0 z0 (2 : Int32) (-1 : Int32)) ∧ ∀ ba5r : Nat, ba5 = some ba5r →
    ∃ G148, g_ast 0 G z1 z2 z3 = some G148 ∧
    ∃ v162, g_i G148 ba5r 13 1 = some v162 ∧
    w_L_files_J165 MC MS K k2 G148 kc ks ba0 ba1 ba2 bx3 (some ba5r) bx6 bx7 z0 z0 (2 : Int32) v162)
def w_L_files_J126 (MC MS : Nat) (K : Int32 → gH → Prop) (k2 : gH → Nat → Nat → Nat → Nat → Nat → Int32 → Prop) (G : gH) (kc : Nat) (ks : Nat) (ba0 : Nat) (ba1 : Nat) (ba2 : Nat) (bx3 : Int32) (ba5 : Option Nat) (bx6 : Int32) (bx7 : Int32) (z0 : Nat) (z1 : Nat) (z2 : Int32) (z3 : Int32) : Prop :=
    ((ba5 = none →
    ∃ G126, g_ast 0 G z1 z2 z3 = some G126 ∧
    w_L_files_J148 MC MS K k2 G126 kc ks ba0 ba1 ba2 bx3 none bx6 bx7 z0 z0 (1 : Int32) (0 : Int32)) ∧ ∀ ba5r : Nat, ba5 = some ba5r →
    ∃ G126, g_ast 0 G z1 z2 z3 = some G126 ∧
    ∃ C137 R137 : gH, gd C137 R137 ∧ G126 = gj C137 R137 ∧
    ∃ u137, g_ob C137 ba1 10 = some u137 ∧
    (kc + 0 ≤ MC ∧ ks + 0 ≤ MS) ∧
    ∃ v137, f_X10_reads_ C137 ba1 ba5r = some v137 ∧
    if v137 = 0 then
    w_L_files_J148 MC MS K k2 G126 kc ks ba0 ba1 ba2 bx3 (some ba5r) bx6 bx7 z0 z0 (1 : Int32) (0 : Int32)
    else
    w_L_files_J148 MC MS K k2 G126 kc ks ba0 ba1 ba2 bx3 (some ba5r) bx6 bx7 z0 z0 (1 : Int32) (1 : Int32))
def w_L_files_L71 (MC MS : Nat) (K : Int32 → gH → Prop) (k2 : gH → Nat → Nat → Nat → Nat → Nat → Int32 → Prop) : Nat → gH → Nat → Nat → Nat → Nat → Nat → Int32 → Option Nat → Int32 → Int32 → Int32 → Prop
  | 0, _, _, _, _, _, _, _, _, _, _, _ => False
  | n + 1, G, kc, ks, ba0, ba1, ba2, bx3, ba5, bx6, bx7, bx8 =>
    ((ba5 = none →
    ∃ v74, g_i G ba1 10 5 = some v74 ∧
    if v74 ≤ bx8 then
    (kc + 1 ≤ MC ∧ ks + 7 ≤ MS) ∧ ∀ q112 : Nat, G q112 = none → ∀ G112 : gH, G112 = va_up G q112 (some (.inl (0, 7, fun _ => 0))) →
    w_L_files_J126 MC MS K k2 G112 (kc + 1) (ks + 7) ba0 ba1 ba2 bx3 none bx6 bx7 q112 q112 (0 : Int32) (0 : Int32)
    else
    ∃ v83, g_r G ba1 10 15 = some v83 ∧
    ∃ v88, g_rald 6 G v83 bx8 = some v88 ∧
    ((v88 = none →
    False) ∧ ∀ r88 : Nat, v88 = some r88 →
    ∃ v89, g_i G r88 13 0 = some v89 ∧
    if v89 = bx3 then
    w_L_files_L71 MC MS K k2 n G kc ks ba0 ba1 ba2 bx3 none bx6 (bx7 + (1 : Int32)) (bx8 + (1 : Int32))
    else
    w_L_files_L71 MC MS K k2 n G kc ks ba0 ba1 ba2 bx3 none bx6 (bx7 + (0 : Int32)) (bx8 + (1 : Int32)))) ∧ ∀ ba5r : Nat, ba5 = some ba5r →
    ∃ v74, g_i G ba1 10 5 = some v74 ∧
    if v74 ≤ bx8 then
    (kc + 1 ≤ MC ∧ ks + 7 ≤ MS) ∧ ∀ q112 : Nat, G q112 = none → ∀ G112 : gH, G112 = va_up G q112 (some (.inl (0, 7, fun _ => 0))) →
    w_L_files_J126 MC MS K k2 G112 (kc + 1) (ks + 7) ba0 ba1 ba2 bx3 (some ba5r) bx6 bx7 q112 q112 (0 : Int32) (1 : Int32)
    else
    ∃ v83, g_r G ba1 10 15 = some v83 ∧
    ∃ v88, g_rald 6 G v83 bx8 = some v88 ∧
    ((v88 = none →
    False) ∧ ∀ r88 : Nat, v88 = some r88 →
    ∃ v89, g_i G r88 13 0 = some v89 ∧
    if v89 = bx3 then
    w_L_files_L71 MC MS K k2 n G kc ks ba0 ba1 ba2 bx3 (some ba5r) bx6 (bx7 + (1 : Int32)) (bx8 + (1 : Int32))
    else
    w_L_files_L71 MC MS K k2 n G kc ks ba0 ba1 ba2 bx3 (some ba5r) bx6 (bx7 + (0 : Int32)) (bx8 + (1 : Int32))))
def w_L_files_L34 (MC MS : Nat) (K : Int32 → gH → Prop) (k2 : gH → Nat → Nat → Nat → Nat → Nat → Int32 → Prop) : Nat → gH → Nat → Nat → Nat → Nat → Nat → Int32 → Option Nat → Option Nat → Int32 → Int32 → Prop
  | 0, _, _, _, _, _, _, _, _, _, _, _ => False
  | n + 1, G, kc, ks, ba0, ba1, ba2, bx3, ba4, ba5, bx6, bx7 =>
    ((ba4 = none →
    ((ba5 = none →
    ∃ v37, g_i G ba1 10 4 = some v37 ∧
    if v37 ≤ bx7 then
    w_L_files_L71 MC MS K k2 g_N G kc ks ba0 ba1 ba2 bx3 none bx6 (0 : Int32) (0 : Int32)
    else
    ∃ v44, g_r G ba1 10 16 = some v44 ∧
    ∃ v49, g_rald 5 G v44 bx7 = some v49 ∧
    ((v49 = none →
    w_L_files_L34 MC MS K k2 n G kc ks ba0 ba1 ba2 bx3 none none bx7 (bx7 + (1 : Int32))) ∧ ∀ r49 : Nat, v49 = some r49 →
    w_L_files_L34 MC MS K k2 n G kc ks ba0 ba1 ba2 bx3 none none bx6 (bx7 + (1 : Int32)))) ∧ ∀ ba5r : Nat, ba5 = some ba5r →
    ∃ v37, g_i G ba1 10 4 = some v37 ∧
    if v37 ≤ bx7 then
    w_L_files_L71 MC MS K k2 g_N G kc ks ba0 ba1 ba2 bx3 (some ba5r) bx6 (0 : Int32) (0 : Int32)
    else
    ∃ v44, g_r G ba1 10 16 = some v44 ∧
    ∃ v49, g_rald 5 G v44 bx7 = some v49 ∧
    ((v49 = none →
    w_L_files_L34 MC MS K k2 n G kc ks ba0 ba1 ba2 bx3 none (some ba5r) bx7 (bx7 + (1 : Int32))) ∧ ∀ r49 : Nat, v49 = some r49 →
    w_L_files_L34 MC MS K k2 n G kc ks ba0 ba1 ba2 bx3 none (some ba5r) bx6 (bx7 + (1 : Int32))))) ∧ ∀ ba4r : Nat, ba4 = some ba4r →
    ((ba5 = none →
    ∃ v37, g_i G ba1 10 4 = some v37 ∧
    if v37 ≤ bx7 then
    w_L_files_L71 MC MS K k2 g_N G kc ks ba0 ba1 ba2 bx3 none bx6 (0 : Int32) (0 : Int32)
    else
    ∃ v44, g_r G ba1 10 16 = some v44 ∧
    ∃ v49, g_rald 5 G v44 bx7 = some v49 ∧
    ((v49 = none →
    w_L_files_L34 MC MS K k2 n G kc ks ba0 ba1 ba2 bx3 (some ba4r) none bx6 (bx7 + (1 : Int32))) ∧ ∀ r49 : Nat, v49 = some r49 →
    if r49 = ba4r then
    w_L_files_L34 MC MS K k2 n G kc ks ba0 ba1 ba2 bx3 (some ba4r) none bx7 (bx7 + (1 : Int32))
    else
    w_L_files_L34 MC MS K k2 n G kc ks ba0 ba1 ba2 bx3 (some ba4r) none bx6 (bx7 + (1 : Int32)))) ∧ ∀ ba5r : Nat, ba5 = some ba5r →
    ∃ v37, g_i G ba1 10 4 = some v37 ∧
    if v37 ≤ bx7 then
    w_L_files_L71 MC MS K k2 g_N G kc ks ba0 ba1 ba2 bx3 (some ba5r) bx6 (0 : Int32) (0 : Int32)
    else
    ∃ v44, g_r G ba1 10 16 = some v44 ∧
    ∃ v49, g_rald 5 G v44 bx7 = some v49 ∧
    ((v49 = none →
    w_L_files_L34 MC MS K k2 n G kc ks ba0 ba1 ba2 bx3 (some ba4r) (some ba5r) bx6 (bx7 + (1 : Int32))) ∧ ∀ r49 : Nat, v49 = some r49 →
    if r49 = ba4r then
    w_L_files_L34 MC MS K k2 n G kc ks ba0 ba1 ba2 bx3 (some ba4r) (some ba5r) bx7 (bx7 + (1 : Int32))
    else
    w_L_files_L34 MC MS K k2 n G kc ks ba0 ba1 ba2 bx3 (some ba4r) (some ba5r) bx6 (bx7 + (1 : Int32)))))
def w_L_files_J500 (MC MS : Nat) (K : Int32 → gH → Prop) (k421 : gH → Nat → Nat → Nat → Nat → Nat → Int32 → Int32 → Int32 → Int32 → Prop) (G : gH) (kc : Nat) (ks : Nat) (ba0 : Nat) (ba1 : Nat) (ba2 : Nat) (bx5 : Int32) (bx6 : Int32) (bx7 : Int32) (bx8 : Int32) (bx10 : Int32) : Prop :=
    (kc + 0 ≤ MC ∧ ks + 0 ≤ MS) ∧
    ∃ C515 R515 : gH, gd C515 R515 ∧ G = gj C515 R515 ∧
    (kc + 0 ≤ MC ∧ ks + 0 ≤ MS) ∧
    ∃ q515, f_L_draw C515 ba2 (4 : Int32) = some q515 ∧ ∀ G515 : gH, gd q515.1 R515 → G515 = gj q515.1 R515 →
    if (bx8 - bx8 / (4 : Int32) * (4 : Int32)) = q515.2 then
    ∃ C524 R524 : gH, gd C524 R524 ∧ G515 = gj C524 R524 ∧
    ∃ u524, g_ob C524 ba0 9 = some u524 ∧
    (kc + 1 ≤ MC ∧ ks + 6 ≤ MS) ∧
    w_X9_risk C524 ba0 bx8 (fun _ _ => False) (fun v524 D524 => ∀ G524 : gH, gd D524 R524 → G524 = gj D524 R524 →
    if v524 = bx10 then
    k421 G524 (kc + 1) (ks + 6) ba0 ba1 ba2 bx5 (if bx6 < bx10 then bx10 else bx6) bx7 (bx8 + (1 : Int32))
    else
    (kc + 1) ≤ MC ∧ (ks + 6) ≤ MS ∧ K (0 : Int32) G524)
    else
    k421 G515 kc ks ba0 ba1 ba2 bx5 (if bx6 < bx10 then bx10 else bx6) bx7 (bx8 + (1 : Int32))
def w_L_files_J465 (MC MS : Nat) (K : Int32 → gH → Prop) (k421 : gH → Nat → Nat → Nat → Nat → Nat → Int32 → Int32 → Int32 → Int32 → Prop) (G : gH) (kc : Nat) (ks : Nat) (ba0 : Nat) (ba1 : Nat) (ba2 : Nat) (bx5 : Int32) (bx6 : Int32) (bx7 : Int32) (bx8 : Int32) (bx9 : Int32) (z0 : Nat) (z1 : Int32) (z2 : Int32) : Prop :=
    ∃ G465, g_ast 1 G z0 z1 z2 = some G465 ∧
    ∃ C469 R469 : gH, gd C469 R469 ∧ G465 = gj C469 R469 ∧
    ∃ u469, g_ob C469 ba1 10 = some u469 ∧
    (kc + 0 ≤ MC ∧ ks + 0 ≤ MS) ∧
    ∃ v469, f_X10_good C469 ba1 = some v469 ∧
    ∃ C475 R475 : gH, gd C475 R475 ∧ G465 = gj C475 R475 ∧
    (kc + 0 ≤ MC ∧ ks + 0 ≤ MS) ∧
    ∃ v475, f_J6_bitCount_0f7a4 C475 (bx5 &&& (v469 ^^^ (-1 : Int32))) = some v475 ∧
    ∃ v481, g_r G465 ba1 10 13 = some v481 ∧
    ∃ G488, g_ast 1 G465 v481 bx8 bx9 = some G488 ∧
    if v475 ≤ bx6 then
    w_L_files_J500 MC MS K k421 G488 kc ks ba0 ba1 ba2 bx5 bx6 bx7 bx8 v475
    else
    w_L_files_J500 MC MS K k421 G488 kc ks ba0 ba1 ba2 bx5 bx6 bx8 bx8 v475
def w_L_files_L421 (MC MS : Nat) (K : Int32 → gH → Prop) : Nat → gH → Nat → Nat → Nat → Nat → Nat → Int32 → Int32 → Int32 → Int32 → Prop
  | 0, _, _, _, _, _, _, _, _, _, _ => False
  | n + 1, G, kc, ks, ba0, ba1, ba2, bx5, bx6, bx7, bx8 =>
    ∃ v424, g_i G ba1 10 0 = some v424 ∧
    if v424 ≤ bx8 then
    ∃ C541 R541 : gH, gd C541 R541 ∧ G = gj C541 R541 ∧
    ∃ u541, g_ob C541 ba0 9 = some u541 ∧
    (kc + 0 ≤ MC ∧ ks + 0 ≤ MS) ∧
    ∃ q541, f_X9_weakest C541 ba0 = some q541 ∧ ∀ G541 : gH, gd q541.1 R541 → G541 = gj q541.1 R541 →
    if q541.2 = bx7 then
    kc ≤ MC ∧ ks ≤ MS ∧ K (1 : Int32) G541
    else
    kc ≤ MC ∧ ks ≤ MS ∧ K (0 : Int32) G541
    else
    ∃ v431, g_r G ba1 10 13 = some v431 ∧
    ∃ v436, g_ald 1 G v431 bx8 = some v436 ∧
    ∃ v440, g_r G ba1 10 13 = some v440 ∧
    if v436 = 0 then
    ∃ v451, g_r G ba1 10 7 = some v451 ∧
    ∃ v456, g_ald 0 G v451 bx8 = some v456 ∧
    if v456 ≤ 0 then
    w_L_files_J465 MC MS K (w_L_files_L421 MC MS K n) G kc ks ba0 ba1 ba2 bx5 bx6 bx7 bx8 v436 v440 bx8 (0 : Int32)
    else
    w_L_files_J465 MC MS K (w_L_files_L421 MC MS K n) G kc ks ba0 ba1 ba2 bx5 bx6 bx7 bx8 v436 v440 bx8 (1 : Int32)
    else
    w_L_files_J465 MC MS K (w_L_files_L421 MC MS K n) G kc ks ba0 ba1 ba2 bx5 bx6 bx7 bx8 v436 v440 bx8 (1 : Int32)
def w_L_files_J401 (MC MS : Nat) (K : Int32 → gH → Prop) (G : gH) (kc : Nat) (ks : Nat) (ba0 : Nat) (ba1 : Nat) (ba2 : Nat) (z0 : Int32) (z1 : Int32) : Prop :=
    if z0 = z1 then
    ∃ C407 R407 : gH, gd C407 R407 ∧ G = gj C407 R407 ∧
    ∃ u407, g_ob C407 ba1 10 = some u407 ∧
    (kc + 0 ≤ MC ∧ ks + 0 ≤ MS) ∧
    ∃ v407, f_X10_good C407 ba1 = some v407 ∧
    w_L_files_L421 MC MS K g_N G kc ks ba0 ba1 ba2 v407 (0 : Int32) (0 : Int32) (0 : Int32)
    else
    kc ≤ MC ∧ ks ≤ MS ∧ K (0 : Int32) G
def w_L_files_L2 (MC MS : Nat) (K : Int32 → gH → Prop) : Nat → gH → Nat → Nat → Nat → Nat → Nat → Int32 → Prop
  | 0, _, _, _, _, _, _, _ => False
  | n + 1, G, kc, ks, ba0, ba1, ba2, bx3 =>
    ∃ v4, g_i G ba1 10 2 = some v4 ∧
    if v4 ≤ bx3 then
    (kc + 1 ≤ MC ∧ ks + 10 ≤ MS) ∧ ∀ q338 : Nat, G q338 = none → ∀ G338 : gH, G338 = va_up G q338 (some (.inr (.inr (.inl (6, 10, fun _ => none))))) →
    ∃ C344 R344 : gH, gd C344 R344 ∧ G338 = gj C344 R344 ∧
    ∃ u344, g_ob C344 ba1 10 = some u344 ∧
    ((kc + 1) + 0 ≤ MC ∧ (ks + 10) + 0 ≤ MS) ∧
    ∃ q344, f_X10_lost C344 ba1 q338 = some q344 ∧ ∀ G344 : gH, gd q344.1 R344 → G344 = gj q344.1 R344 →
    ∃ C350 R350 : gH, gd C350 R350 ∧ G344 = gj C350 R350 ∧
    ∃ u350, g_ob C350 ba0 9 = some u350 ∧
    ((kc + 1) + 0 ≤ MC ∧ (ks + 10) + 0 ≤ MS) ∧
    ∃ v350, f_X9_couldRecover C350 ba0 = some v350 ∧
    if v350 = q344.2 then
    ∃ C360 R360 : gH, gd C360 R360 ∧ G344 = gj C360 R360 ∧
    ∃ u360, g_ob C360 ba0 9 = some u360 ∧
    ((kc + 1) + 1 ≤ MC ∧ (ks + 10) + 6 ≤ MS) ∧
    w_X9_whyNot C360 ba0 (2 : Int32) (fun _ _ => False) (fun v360 D360 => ∀ G360 : gH, gd D360 R360 → G360 = gj D360 R360 →
    ∃ C366 R366 : gH, gd C366 R366 ∧ G360 = gj C366 R366 ∧
    ∃ u366, g_ob C366 ba1 10 = some u366 ∧
    (((kc + 1) + 1) + 0 ≤ MC ∧ ((ks + 10) + 6) + 0 ≤ MS) ∧
    ∃ v366, f_X10_whyRecover C366 ba1 q344.2 = some v366 ∧
    if v360 = v366 then
    ∃ C374 R374 : gH, gd C374 R374 ∧ G360 = gj C374 R374 ∧
    ∃ u374, g_ob C374 ba0 9 = some u374 ∧
    (((kc + 1) + 1) + 1 ≤ MC ∧ ((ks + 10) + 6) + 6 ≤ MS) ∧
    w_X9_whyNot C374 ba0 (0 : Int32) (fun _ _ => False) (fun v374 D374 => ∀ G374 : gH, gd D374 R374 → G374 = gj D374 R374 →
    ∃ C378 R378 : gH, gd C378 R378 ∧ G374 = gj C378 R378 ∧
    ∃ u378, g_ob C378 ba1 10 = some u378 ∧
    ((((kc + 1) + 1) + 1) + 0 ≤ MC ∧ (((ks + 10) + 6) + 6) + 0 ≤ MS) ∧
    ∃ v378, f_X10_whyClose C378 ba1 = some v378 ∧
    if v374 = v378 then
    ∃ C386 R386 : gH, gd C386 R386 ∧ G374 = gj C386 R386 ∧
    ∃ u386, g_ob C386 ba0 9 = some u386 ∧
    ((((kc + 1) + 1) + 1) + 1 ≤ MC ∧ (((ks + 10) + 6) + 6) + 6 ≤ MS) ∧
    w_X9_whyNot C386 ba0 (1 : Int32) (fun _ _ => False) (fun v386 D386 => ∀ G386 : gH, gd D386 R386 → G386 = gj D386 R386 →
    ∃ C390 R390 : gH, gd C390 R390 ∧ G386 = gj C390 R390 ∧
    ∃ u390, g_ob C390 ba1 10 = some u390 ∧
    (((((kc + 1) + 1) + 1) + 1) + 0 ≤ MC ∧ ((((ks + 10) + 6) + 6) + 6) + 0 ≤ MS) ∧
    ∃ v390, f_X10_open C390 ba1 = some v390 ∧
    ((v390 = none →
    w_L_files_J401 MC MS K G386 ((((kc + 1) + 1) + 1) + 1) ((((ks + 10) + 6) + 6) + 6) ba0 ba1 ba2 v386 (1 : Int32)) ∧ ∀ r390 : Nat, v390 = some r390 →
    w_L_files_J401 MC MS K G386 ((((kc + 1) + 1) + 1) + 1) ((((ks + 10) + 6) + 6) + 6) ba0 ba1 ba2 v386 (0 : Int32)))
    else
    (((kc + 1) + 1) + 1) ≤ MC ∧ (((ks + 10) + 6) + 6) ≤ MS ∧ K (0 : Int32) G374)
    else
    ((kc + 1) + 1) ≤ MC ∧ ((ks + 10) + 6) ≤ MS ∧ K (0 : Int32) G360)
    else
    (kc + 1) ≤ MC ∧ (ks + 10) ≤ MS ∧ K (0 : Int32) G344
    else
    ∃ C14 R14 : gH, gd C14 R14 ∧ G = gj C14 R14 ∧
    ∃ u14, g_ob C14 ba1 10 = some u14 ∧
    (kc + 0 ≤ MC ∧ ks + 0 ≤ MS) ∧
    ∃ v14, f_X10_counting C14 ba1 bx3 (12 : Int32) = some v14 ∧
    ((v14 = none →
    ∃ C23 R23 : gH, gd C23 R23 ∧ G = gj C23 R23 ∧
    ∃ u23, g_ob C23 ba1 10 = some u23 ∧
    (kc + 0 ≤ MC ∧ ks + 0 ≤ MS) ∧
    ∃ v23, f_X10_version C23 ba1 bx3 (12 : Int32) = some v23 ∧
    ((v23 = none →
    w_L_files_L34 MC MS K (w_L_files_L2 MC MS K n) g_N G kc ks ba0 ba1 ba2 bx3 none none (-1 : Int32) (0 : Int32)) ∧ ∀ r23 : Nat, v23 = some r23 →
    w_L_files_L34 MC MS K (w_L_files_L2 MC MS K n) g_N G kc ks ba0 ba1 ba2 bx3 none (some r23) (-1 : Int32) (0 : Int32))) ∧ ∀ r14 : Nat, v14 = some r14 →
    ∃ C23 R23 : gH, gd C23 R23 ∧ G = gj C23 R23 ∧
    ∃ u23, g_ob C23 ba1 10 = some u23 ∧
    (kc + 0 ≤ MC ∧ ks + 0 ≤ MS) ∧
    ∃ v23, f_X10_version C23 ba1 bx3 (12 : Int32) = some v23 ∧
    ((v23 = none →
    w_L_files_L34 MC MS K (w_L_files_L2 MC MS K n) g_N G kc ks ba0 ba1 ba2 bx3 (some r14) none (-1 : Int32) (0 : Int32)) ∧ ∀ r23 : Nat, v23 = some r23 →
    w_L_files_L34 MC MS K (w_L_files_L2 MC MS K n) g_N G kc ks ba0 ba1 ba2 bx3 (some r14) (some r23) (-1 : Int32) (0 : Int32)))
def w_L_files (MC MS : Nat) (G : gH) (a0 : Nat) (a1 : Nat) (a2 : Nat) (K : Int32 → gH → Prop) : Prop :=
    w_L_files_L2 MC MS K g_N G 0 0 a0 a1 a2 (0 : Int32)

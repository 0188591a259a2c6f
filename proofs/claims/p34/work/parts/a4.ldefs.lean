/-! By program (wip/p34/tools/jlift.py). -/
def w_L_feeds_A_L20 (MC MS : Nat) (K : Int32 → gH → Prop) (k4 : gH → Nat → Nat → Nat → Nat → Int32 → Int32 → Prop) : Nat → gH → Nat → Nat → Nat → Nat → Int32 → Int32 → Nat → Int32 → Prop
  | 0, _, _, _, _, _, _, _, _, _ => False
  | n + 1, G, kc, ks, ba0, ba1, bx2, bx3, ba4, bx5 =>
    if (20 : Int32) ≤ bx5 then
    ∃ v82, g_ald 0 G ba4 (0 : Int32) = some v82 ∧
    ∃ v86, g_ald 0 G ba4 (1 : Int32) = some v86 ∧
    ∃ v90, g_ald 0 G ba4 (2 : Int32) = some v90 ∧
    ∃ v94, g_ald 0 G ba4 (3 : Int32) = some v94 ∧
    ∃ v98, g_ald 0 G ba4 (4 : Int32) = some v98 ∧
    ∃ C99 R99 : gH, gd C99 R99 ∧ G = gj C99 R99 ∧
    ∃ u99, g_ob C99 ba0 9 = some u99 ∧
    (kc + 0 ≤ MC ∧ ks + 0 ≤ MS) ∧
    ∃ q99, f_X9_append C99 ba0 v82 v86 v90 v94 v98 = some q99 ∧ ∀ G99 : gH, gd q99.1 R99 → G99 = gj q99.1 R99 →
    if q99.2 = (bx2 + (20 : Int32)) then
    k4 G99 kc ks ba0 ba1 (bx2 + (20 : Int32)) (bx3 + (20 : Int32))
    else
    kc ≤ MC ∧ ks ≤ MS ∧ K (0 : Int32) G99
    else
    ∃ v39, g_ald 0 G ba4 (bx5 / (4 : Int32)) = some v39 ∧
    ∃ C48 R48 : gH, gd C48 R48 ∧ G = gj C48 R48 ∧
    ∃ u48, g_ob C48 ba1 14 = some u48 ∧
    (kc + 0 ≤ MC ∧ ks + 0 ≤ MS) ∧
    ∃ v48, f_J0_length_8abf5_A C48 ba1 = some v48 ∧
    if v48 ≤ (bx3 + bx5) then
    ∃ G68, g_ast 0 G ba4 (bx5 / (4 : Int32)) ((v39 <<< ((8 : Int32) &&& 31)) ||| (32 : Int32)) = some G68 ∧
    w_L_feeds_A_L20 MC MS K k4 n G68 kc ks ba0 ba1 bx2 bx3 ba4 (bx5 + (1 : Int32))
    else
    ∃ C59 R59 : gH, gd C59 R59 ∧ G = gj C59 R59 ∧
    ∃ u59, g_ob C59 ba1 14 = some u59 ∧
    (kc + 0 ≤ MC ∧ ks + 0 ≤ MS) ∧
    ∃ v59, f_J0_charAt_5068e_A C59 ba1 (bx3 + bx5) = some v59 ∧
    ∃ G68, g_ast 0 G ba4 (bx5 / (4 : Int32)) ((v39 <<< ((8 : Int32) &&& 31)) ||| v59) = some G68 ∧
    w_L_feeds_A_L20 MC MS K k4 n G68 kc ks ba0 ba1 bx2 bx3 ba4 (bx5 + (1 : Int32))
def w_L_feeds_A_L4 (MC MS : Nat) (K : Int32 → gH → Prop) : Nat → gH → Nat → Nat → Nat → Nat → Int32 → Int32 → Prop
  | 0, _, _, _, _, _, _, _ => False
  | n + 1, G, kc, ks, ba0, ba1, bx2, bx3 =>
    ∃ C6 R6 : gH, gd C6 R6 ∧ G = gj C6 R6 ∧
    ∃ u6, g_ob C6 ba1 14 = some u6 ∧
    (kc + 0 ≤ MC ∧ ks + 0 ≤ MS) ∧
    ∃ v6, f_J0_length_8abf5_A C6 ba1 = some v6 ∧
    if v6 ≤ bx3 then
    kc ≤ MC ∧ ks ≤ MS ∧ K (1 : Int32) G
    else
    (kc + 1 ≤ MC ∧ ks + 5 ≤ MS) ∧ ∀ q13 : Nat, G q13 = none → ∀ G13 : gH, G13 = va_up G q13 (some (.inl (0, 5, fun _ => 0))) →
    w_L_feeds_A_L20 MC MS K (w_L_feeds_A_L4 MC MS K n) g_N G13 (kc + 1) (ks + 5) ba0 ba1 bx2 bx3 q13 (0 : Int32)
def w_L_feeds_A (MC MS : Nat) (G : gH) (a0 : Nat) (a1 : Nat) (K : Int32 → gH → Prop) : Prop :=
    w_L_feeds_A_L4 MC MS K g_N G 0 0 a0 a1 (0 : Int32) (0 : Int32)
def w_L_plays_L346 (MC MS : Nat) (K : Int32 → gH → Prop) : Nat → gH → Nat → Nat → Nat → Nat → Nat → Int32 → Prop
  | 0, _, _, _, _, _, _, _ => False
  | n + 1, G, kc, ks, ba0, ba1, ba2, bx4 =>
    if (18 : Int32) ≤ bx4 then
    kc ≤ MC ∧ ks ≤ MS ∧ K (1 : Int32) G
    else
    ∃ C356 R356 : gH, gd C356 R356 ∧ G = gj C356 R356 ∧
    (kc + 200 ≤ MC ∧ ks + 20000 ≤ MS) ∧
    w_L_changes 200 20000 C356 ba0 ba2 ba1 (fun v356 D356 => ∀ G356 : gH, gd D356 R356 → G356 = gj D356 R356 →
    if v356 = 0 then
    (kc + 200) ≤ MC ∧ (ks + 20000) ≤ MS ∧ K (0 : Int32) G356
    else
    ∃ C364 R364 : gH, gd C364 R364 ∧ G356 = gj C364 R364 ∧
    ((kc + 200) + 1000 ≤ MC ∧ (ks + 20000) + 10000 ≤ MS) ∧
    w_L_blocks 1000 10000 C364 ba0 ba2 (fun v364 D364 => ∀ G364 : gH, gd D364 R364 → G364 = gj D364 R364 →
    if v364 = 0 then
    ((kc + 200) + 1000) ≤ MC ∧ ((ks + 20000) + 10000) ≤ MS ∧ K (0 : Int32) G364
    else
    ∃ C372 R372 : gH, gd C372 R372 ∧ G364 = gj C372 R372 ∧
    (((kc + 200) + 1000) + 1500 ≤ MC ∧ ((ks + 20000) + 10000) + 15000 ≤ MS) ∧
    w_L_sessions 1500 15000 C372 ba0 ba2 (fun v372 D372 => ∀ G372 : gH, gd D372 R372 → G372 = gj D372 R372 →
    if v372 = 0 then
    (((kc + 200) + 1000) + 1500) ≤ MC ∧ (((ks + 20000) + 10000) + 15000) ≤ MS ∧ K (0 : Int32) G372
    else
    ∃ C381 R381 : gH, gd C381 R381 ∧ G372 = gj C381 R381 ∧
    ((((kc + 200) + 1000) + 1500) + 600 ≤ MC ∧ (((ks + 20000) + 10000) + 15000) + 6000 ≤ MS) ∧
    w_L_files 600 6000 C381 ba0 ba2 ba1 (fun v381 D381 => ∀ G381 : gH, gd D381 R381 → G381 = gj D381 R381 →
    if v381 = 0 then
    ((((kc + 200) + 1000) + 1500) + 600) ≤ MC ∧ ((((ks + 20000) + 10000) + 15000) + 6000) ≤ MS ∧ K (0 : Int32) G381
    else
    w_L_plays_L346 MC MS K n G381 ((((kc + 200) + 1000) + 1500) + 600) ((((ks + 20000) + 10000) + 15000) + 6000) ba0 ba1 ba2 (bx4 + (1 : Int32))))))
def w_L_plays_L214 (MC MS : Nat) (K : Int32 → gH → Prop) : Nat → gH → Nat → Nat → Nat → Nat → Nat → Nat → Int32 → Prop
  | 0, _, _, _, _, _, _, _, _ => False
  | n + 1, G, kc, ks, ba0, ba1, ba2, ba3, bx4 =>
    if bx4 ≤ 0 then
    ∃ C321 R321 : gH, gd C321 R321 ∧ G = gj C321 R321 ∧
    ∃ u321, g_ob C321 ba3 15 = some u321 ∧
    (kc + 2 ≤ MC ∧ ks + 1004 ≤ MS) ∧
    w_J4_toString_0e30d 2 1004 C321 ba3 (fun v321 D321 => ∀ G321 : gH, gd D321 R321 → G321 = gj D321 R321 →
    ∃ r321, v321 = some r321 ∧
    ∃ C324 R324 : gH, gd C324 R324 ∧ G321 = gj C324 R324 ∧
    ((kc + 2) + 50 ≤ MC ∧ (ks + 1004) + 200 ≤ MS) ∧
    w_L_feeds_A 50 200 C324 ba0 r321 (fun v324 D324 => ∀ G324 : gH, gd D324 R324 → G324 = gj D324 R324 →
    if v324 = 0 then
    ((kc + 2) + 50) ≤ MC ∧ ((ks + 1004) + 200) ≤ MS ∧ K (0 : Int32) G324
    else
    ∃ C332 R332 : gH, gd C332 R332 ∧ G324 = gj C332 R332 ∧
    ∃ u332, g_ob C332 ba3 15 = some u332 ∧
    (((kc + 2) + 50) + 0 ≤ MC ∧ ((ks + 1004) + 200) + 0 ≤ MS) ∧
    w_J4_length_8abf5 0 0 C332 ba3 (fun v332 D332 => ∀ G332 : gH, gd D332 R332 → G332 = gj D332 R332 →
    ∃ C335 R335 : gH, gd C335 R335 ∧ G332 = gj C335 R335 ∧
    ∃ u335, g_ob C335 ba0 9 = some u335 ∧
    ((((kc + 2) + 50) + 0) + 1 ≤ MC ∧ (((ks + 1004) + 200) + 0) + 6 ≤ MS) ∧
    w_X9_parse C335 ba0 v332 (fun _ _ => False) (fun v335 D335 => ∀ G335 : gH, gd D335 R335 → G335 = gj D335 R335 →
    if v335 = 0 then
    w_L_plays_L346 MC MS K g_N G335 ((((kc + 2) + 50) + 0) + 1) ((((ks + 1004) + 200) + 0) + 6) ba0 ba1 ba2 (0 : Int32)
    else
    ((((kc + 2) + 50) + 0) + 1) ≤ MC ∧ ((((ks + 1004) + 200) + 0) + 6) ≤ MS ∧ K (0 : Int32) G335))))
    else
    ∃ v221, g_i G ba2 10 2 = some v221 ∧
    ∃ C224 R224 : gH, gd C224 R224 ∧ G = gj C224 R224 ∧
    (kc + 0 ≤ MC ∧ ks + 0 ≤ MS) ∧
    ∃ q224, f_L_draw C224 ba1 v221 = some q224 ∧ ∀ G224 : gH, gd q224.1 R224 → G224 = gj q224.1 R224 →
    ∃ C232 R232 : gH, gd C232 R232 ∧ G224 = gj C232 R232 ∧
    (kc + 0 ≤ MC ∧ ks + 0 ≤ MS) ∧
    ∃ q232, f_L_draw C232 ba1 (4 : Int32) = some q232 ∧ ∀ G232 : gH, gd q232.1 R232 → G232 = gj q232.1 R232 →
    ∃ C242 R242 : gH, gd C242 R242 ∧ G232 = gj C242 R242 ∧
    (kc + 0 ≤ MC ∧ ks + 0 ≤ MS) ∧
    ∃ q242, f_L_draw C242 ba1 (1000 : Int32) = some q242 ∧ ∀ G242 : gH, gd q242.1 R242 → G242 = gj q242.1 R242 →
    ∃ C252 R252 : gH, gd C252 R252 ∧ G242 = gj C252 R252 ∧
    ∃ u252, g_ob C252 ba2 10 = some u252 ∧
    (kc + 0 ≤ MC ∧ ks + 0 ≤ MS) ∧
    ∃ v252, f_X10_whyWrite C252 ba2 q224.2 ((1 : Int32) + q232.2) = some v252 ∧
    if v252 ≤ 0 then
    ∃ C268 R268 : gH, gd C268 R268 ∧ G242 = gj C268 R268 ∧
    ∃ u268, g_ob C268 ba2 10 = some u268 ∧
    (kc + 6 ≤ MC ∧ ks + 47 ≤ MS) ∧
    w_X10_write 6 47 C268 ba2 q224.2 ((1 : Int32) + q232.2) q242.2 (fun v268 D268 => ∀ G268 : gH, gd D268 R268 → G268 = gj D268 R268 →
    ∃ C275 R275 : gH, gd C275 R275 ∧ G268 = gj C275 R275 ∧
    ∃ u275, g_ob C275 ba3 15 = some u275 ∧
    ((kc + 6) + 1 ≤ MC ∧ (ks + 47) + 1000 ≤ MS) ∧
    w_J4_append_15ec4_U 1 1000 C275 ba3 5 (fun v275 D275 => ∀ G275 : gH, gd D275 R275 → G275 = gj D275 R275 →
    ∃ r275, v275 = some r275 ∧
    ∃ C284 R284 : gH, gd C284 R284 ∧ G275 = gj C284 R284 ∧
    ∃ u284, g_ob C284 r275 15 = some u284 ∧
    (((kc + 6) + 1) + 1 ≤ MC ∧ ((ks + 47) + 1000) + 1000 ≤ MS) ∧
    w_J4_append_cf468 1 1000 C284 r275 ((((97 : Int32) + q224.2).toUInt32 % 65536).toInt32) (fun v284 D284 => ∀ G284 : gH, gd D284 R284 → G284 = gj D284 R284 →
    ∃ r284, v284 = some r284 ∧
    ∃ C289 R289 : gH, gd C289 R289 ∧ G284 = gj C289 R289 ∧
    ∃ u289, g_ob C289 r284 15 = some u289 ∧
    ((((kc + 6) + 1) + 1) + 1 ≤ MC ∧ (((ks + 47) + 1000) + 1000) + 1000 ≤ MS) ∧
    w_J4_append_cf468 1 1000 C289 r284 (32 : Int32) (fun v289 D289 => ∀ G289 : gH, gd D289 R289 → G289 = gj D289 R289 →
    ∃ r289, v289 = some r289 ∧
    ∃ C294 R294 : gH, gd C294 R294 ∧ G289 = gj C294 R294 ∧
    ∃ u294, g_ob C294 r289 15 = some u294 ∧
    (((((kc + 6) + 1) + 1) + 1) + 1 ≤ MC ∧ ((((ks + 47) + 1000) + 1000) + 1000) + 1000 ≤ MS) ∧
    w_J4_append_bf812 1 1000 C294 r289 ((1 : Int32) + q232.2) (fun v294 D294 => ∀ G294 : gH, gd D294 R294 → G294 = gj D294 R294 →
    ∃ r294, v294 = some r294 ∧
    ∃ C299 R299 : gH, gd C299 R299 ∧ G294 = gj C299 R299 ∧
    ∃ u299, g_ob C299 r294 15 = some u299 ∧
    ((((((kc + 6) + 1) + 1) + 1) + 1) + 1 ≤ MC ∧ (((((ks + 47) + 1000) + 1000) + 1000) + 1000) + 1000 ≤ MS) ∧
    w_J4_append_cf468 1 1000 C299 r294 (32 : Int32) (fun v299 D299 => ∀ G299 : gH, gd D299 R299 → G299 = gj D299 R299 →
    ∃ r299, v299 = some r299 ∧
    ∃ C304 R304 : gH, gd C304 R304 ∧ G299 = gj C304 R304 ∧
    ∃ u304, g_ob C304 r299 15 = some u304 ∧
    (((((((kc + 6) + 1) + 1) + 1) + 1) + 1) + 1 ≤ MC ∧ ((((((ks + 47) + 1000) + 1000) + 1000) + 1000) + 1000) + 1000 ≤ MS) ∧
    w_J4_append_bf812 1 1000 C304 r299 q242.2 (fun v304 D304 => ∀ G304 : gH, gd D304 R304 → G304 = gj D304 R304 →
    ∃ r304, v304 = some r304 ∧
    ∃ C309 R309 : gH, gd C309 R309 ∧ G304 = gj C309 R309 ∧
    ∃ u309, g_ob C309 r304 15 = some u309 ∧
    ((((((((kc + 6) + 1) + 1) + 1) + 1) + 1) + 1) + 1 ≤ MC ∧ (((((((ks + 47) + 1000) + 1000) + 1000) + 1000) + 1000) + 1000) + 1000 ≤ MS) ∧
    w_J4_append_cf468 1 1000 C309 r304 (59 : Int32) (fun v309 D309 => ∀ G309 : gH, gd D309 R309 → G309 = gj D309 R309 →
    ∃ r309, v309 = some r309 ∧
    w_L_plays_L214 MC MS K n G309 ((((((((kc + 6) + 1) + 1) + 1) + 1) + 1) + 1) + 1) ((((((((ks + 47) + 1000) + 1000) + 1000) + 1000) + 1000) + 1000) + 1000) ba0 ba1 ba2 ba3 (bx4 + (-1 : Int32))))))))))
    else
    w_L_plays_L214 MC MS K n G242 kc ks ba0 ba1 ba2 ba3 (bx4 + (-1 : Int32))
def w_L_plays_L171 (MC MS : Nat) (K : Int32 → gH → Prop) : Nat → gH → Nat → Nat → Nat → Nat → Nat → Nat → Int32 → Prop
  | 0, _, _, _, _, _, _, _, _ => False
  | n + 1, G, kc, ks, ba0, ba1, ba2, ba3, bx4 =>
    ∃ v174, g_i G ba2 10 2 = some v174 ∧
    if v174 ≤ bx4 then
    ∃ C209 R209 : gH, gd C209 R209 ∧ G = gj C209 R209 ∧
    (kc + 0 ≤ MC ∧ ks + 0 ≤ MS) ∧
    ∃ q209, f_L_draw C209 ba1 (4 : Int32) = some q209 ∧ ∀ G209 : gH, gd q209.1 R209 → G209 = gj q209.1 R209 →
    w_L_plays_L214 MC MS K g_N G209 kc ks ba0 ba1 ba2 ba3 q209.2
    else
    ∃ C183 R183 : gH, gd C183 R183 ∧ G = gj C183 R183 ∧
    ∃ u183, g_ob C183 ba3 15 = some u183 ∧
    (kc + 1 ≤ MC ∧ ks + 1000 ≤ MS) ∧
    w_J4_append_15ec4_U 1 1000 C183 ba3 4 (fun v183 D183 => ∀ G183 : gH, gd D183 R183 → G183 = gj D183 R183 →
    ∃ r183, v183 = some r183 ∧
    ∃ C192 R192 : gH, gd C192 R192 ∧ G183 = gj C192 R192 ∧
    ∃ u192, g_ob C192 r183 15 = some u192 ∧
    ((kc + 1) + 1 ≤ MC ∧ (ks + 1000) + 1000 ≤ MS) ∧
    w_J4_append_cf468 1 1000 C192 r183 ((((97 : Int32) + bx4).toUInt32 % 65536).toInt32) (fun v192 D192 => ∀ G192 : gH, gd D192 R192 → G192 = gj D192 R192 →
    ∃ r192, v192 = some r192 ∧
    ∃ C197 R197 : gH, gd C197 R197 ∧ G192 = gj C197 R197 ∧
    ∃ u197, g_ob C197 r192 15 = some u197 ∧
    (((kc + 1) + 1) + 1 ≤ MC ∧ ((ks + 1000) + 1000) + 1000 ≤ MS) ∧
    w_J4_append_cf468 1 1000 C197 r192 (59 : Int32) (fun v197 D197 => ∀ G197 : gH, gd D197 R197 → G197 = gj D197 R197 →
    ∃ r197, v197 = some r197 ∧
    w_L_plays_L171 MC MS K n G197 (((kc + 1) + 1) + 1) (((ks + 1000) + 1000) + 1000) ba0 ba1 ba2 ba3 (bx4 + (1 : Int32)))))
def w_L_plays_L109 (MC MS : Nat) (K : Int32 → gH → Prop) : Nat → gH → Nat → Nat → Nat → Nat → Nat → Nat → Int32 → Prop
  | 0, _, _, _, _, _, _, _, _ => False
  | n + 1, G, kc, ks, ba0, ba1, ba2, ba3, bx4 =>
    if bx4 ≤ 0 then
    w_L_plays_L171 MC MS K g_N G kc ks ba0 ba1 ba2 ba3 (0 : Int32)
    else
    ∃ v116, g_i G ba2 10 0 = some v116 ∧
    ∃ C119 R119 : gH, gd C119 R119 ∧ G = gj C119 R119 ∧
    (kc + 0 ≤ MC ∧ ks + 0 ≤ MS) ∧
    ∃ q119, f_L_draw C119 ba1 v116 = some q119 ∧ ∀ G119 : gH, gd q119.1 R119 → G119 = gj q119.1 R119 →
    ∃ v125, g_r G119 ba2 10 12 = some v125 ∧
    ∃ v130, g_ald 1 G119 v125 q119.2 = some v130 ∧
    if v130 = 0 then
    ∃ v138, g_r G119 ba2 10 12 = some v138 ∧
    ∃ G144, g_ast 1 G119 v138 q119.2 (1 : Int32) = some G144 ∧
    ∃ C148 R148 : gH, gd C148 R148 ∧ G144 = gj C148 R148 ∧
    ∃ u148, g_ob C148 ba3 15 = some u148 ∧
    (kc + 1 ≤ MC ∧ ks + 1000 ≤ MS) ∧
    w_J4_append_15ec4_U 1 1000 C148 ba3 3 (fun v148 D148 => ∀ G148 : gH, gd D148 R148 → G148 = gj D148 R148 →
    ∃ r148, v148 = some r148 ∧
    ∃ C153 R153 : gH, gd C153 R153 ∧ G148 = gj C153 R153 ∧
    ∃ u153, g_ob C153 r148 15 = some u153 ∧
    ((kc + 1) + 1 ≤ MC ∧ (ks + 1000) + 1000 ≤ MS) ∧
    w_J4_append_bf812 1 1000 C153 r148 q119.2 (fun v153 D153 => ∀ G153 : gH, gd D153 R153 → G153 = gj D153 R153 →
    ∃ r153, v153 = some r153 ∧
    ∃ C158 R158 : gH, gd C158 R158 ∧ G153 = gj C158 R158 ∧
    ∃ u158, g_ob C158 r153 15 = some u158 ∧
    (((kc + 1) + 1) + 1 ≤ MC ∧ ((ks + 1000) + 1000) + 1000 ≤ MS) ∧
    w_J4_append_cf468 1 1000 C158 r153 (59 : Int32) (fun v158 D158 => ∀ G158 : gH, gd D158 R158 → G158 = gj D158 R158 →
    ∃ r158, v158 = some r158 ∧
    w_L_plays_L109 MC MS K n G158 (((kc + 1) + 1) + 1) (((ks + 1000) + 1000) + 1000) ba0 ba1 ba2 ba3 (bx4 + (-1 : Int32)))))
    else
    w_L_plays_L109 MC MS K n G119 kc ks ba0 ba1 ba2 ba3 (bx4 + (-1 : Int32))
def w_L_plays (MC MS : Nat) (G : gH) (a0 : Nat) (a1 : Nat) (K : Int32 → gH → Prop) : Prop :=
    (0 + 1 ≤ MC ∧ 0 + 17 ≤ MS) ∧ ∀ q0 : Nat, G q0 = none → ∀ G0 : gH, G0 = va_up G q0 (some (.inr (.inr (.inr (10, [.int 0, .int 0, .int 0, .int 0, .int 0, .int 0, .int 0, .null, .null, .null, .null, .null, .null, .null, .null, .null, .null]))))) →
    ∃ C4 R4 : gH, gd C4 R4 ∧ G0 = gj C4 R4 ∧
    ((0 + 1) + 10 ≤ MC ∧ (0 + 17) + 876 ≤ MS) ∧
    w_X10_init 10 876 C4 q0 (fun D4 => ∀ G4 : gH, gd D4 R4 → G4 = gj D4 R4 →
    ∃ C14 R14 : gH, gd C14 R14 ∧ G4 = gj C14 R14 ∧
    (((0 + 1) + 10) + 0 ≤ MC ∧ ((0 + 17) + 876) + 0 ≤ MS) ∧
    ∃ q14, f_L_draw C14 a1 (40 : Int32) = some q14 ∧ ∀ G14 : gH, gd q14.1 R14 → G14 = gj q14.1 R14 →
    ∃ G18, g_put G14 q0 10 0 (.int ((8 : Int32) + q14.2)) = some G18 ∧
    ∃ v24, g_i G18 q0 10 0 = some v24 ∧
    (((0 + 1) + 10) + 0 ≤ MC ∧ ((0 + 17) + 876) + 0 ≤ MS) ∧
    ∃ C36 R36 : gH, gd C36 R36 ∧ G18 = gj C36 R36 ∧
    (((0 + 1) + 10) + 0 ≤ MC ∧ ((0 + 17) + 876) + 0 ≤ MS) ∧
    ∃ q36, f_L_draw C36 a1 ((if (8 : Int32) < (v24 / (2 : Int32)) then (8 : Int32) else (v24 / (2 : Int32))) + (1 : Int32)) = some q36 ∧ ∀ G36 : gH, gd q36.1 R36 → G36 = gj q36.1 R36 →
    ∃ G39, g_put G36 q0 10 1 (.int q36.2) = some G39 ∧
    ∃ C47 R47 : gH, gd C47 R47 ∧ G39 = gj C47 R47 ∧
    (((0 + 1) + 10) + 0 ≤ MC ∧ ((0 + 17) + 876) + 0 ≤ MS) ∧
    ∃ q47, f_L_draw C47 a1 (6 : Int32) = some q47 ∧ ∀ G47 : gH, gd q47.1 R47 → G47 = gj q47.1 R47 →
    ∃ G51, g_put G47 q0 10 2 (.int ((1 : Int32) + q47.2)) = some G51 ∧
    (((0 + 1) + 10) + 1 ≤ MC ∧ ((0 + 17) + 876) + 4 ≤ MS) ∧ ∀ q54 : Nat, G51 q54 = none → ∀ G54 : gH, G54 = va_up G51 q54 (some (.inr (.inr (.inr (15, [.null, .int 0, .int 0, .int 0]))))) →
    ((((0 + 1) + 10) + 1) + 1 ≤ MC ∧ (((0 + 17) + 876) + 4) + 4 ≤ MS) ∧ ∀ q58 : Nat, G54 q58 = none → ∀ G58 : gH, G58 = va_up G54 q58 (some (.inr (.inr (.inr (15, [.null, .int 0, .int 0, .int 0]))))) →
    ∃ C62 R62 : gH, gd C62 R62 ∧ G58 = gj C62 R62 ∧
    (((((0 + 1) + 10) + 1) + 1) + 1 ≤ MC ∧ ((((0 + 17) + 876) + 4) + 4) + 16 ≤ MS) ∧
    w_J4_init_da8c8 1 16 C62 q58 (fun D62 => ∀ G62 : gH, gd D62 R62 → G62 = gj D62 R62 →
    ∃ C67 R67 : gH, gd C67 R67 ∧ G62 = gj C67 R67 ∧
    ∃ u67, g_ob C67 q58 15 = some u67 ∧
    ((((((0 + 1) + 10) + 1) + 1) + 1) + 1 ≤ MC ∧ (((((0 + 17) + 876) + 4) + 4) + 16) + 1000 ≤ MS) ∧
    w_J4_append_15ec4_U 1 1000 C67 q58 0 (fun v67 D67 => ∀ G67 : gH, gd D67 R67 → G67 = gj D67 R67 →
    ∃ r67, v67 = some r67 ∧
    ∃ v71, g_i G67 q0 10 0 = some v71 ∧
    ∃ C74 R74 : gH, gd C74 R74 ∧ G67 = gj C74 R74 ∧
    ∃ u74, g_ob C74 r67 15 = some u74 ∧
    (((((((0 + 1) + 10) + 1) + 1) + 1) + 1) + 1 ≤ MC ∧ ((((((0 + 17) + 876) + 4) + 4) + 16) + 1000) + 1000 ≤ MS) ∧
    w_J4_append_bf812 1 1000 C74 r67 v71 (fun v74 D74 => ∀ G74 : gH, gd D74 R74 → G74 = gj D74 R74 →
    ∃ r74, v74 = some r74 ∧
    ∃ C79 R79 : gH, gd C79 R79 ∧ G74 = gj C79 R79 ∧
    ∃ u79, g_ob C79 r74 15 = some u79 ∧
    ((((((((0 + 1) + 10) + 1) + 1) + 1) + 1) + 1) + 1 ≤ MC ∧ (((((((0 + 17) + 876) + 4) + 4) + 16) + 1000) + 1000) + 1000 ≤ MS) ∧
    w_J4_append_15ec4_U 1 1000 C79 r74 1 (fun v79 D79 => ∀ G79 : gH, gd D79 R79 → G79 = gj D79 R79 →
    ∃ r79, v79 = some r79 ∧
    ∃ v83, g_i G79 q0 10 1 = some v83 ∧
    ∃ C86 R86 : gH, gd C86 R86 ∧ G79 = gj C86 R86 ∧
    ∃ u86, g_ob C86 r79 15 = some u86 ∧
    (((((((((0 + 1) + 10) + 1) + 1) + 1) + 1) + 1) + 1) + 1 ≤ MC ∧ ((((((((0 + 17) + 876) + 4) + 4) + 16) + 1000) + 1000) + 1000) + 1000 ≤ MS) ∧
    w_J4_append_bf812 1 1000 C86 r79 v83 (fun v86 D86 => ∀ G86 : gH, gd D86 R86 → G86 = gj D86 R86 →
    ∃ r86, v86 = some r86 ∧
    ∃ C91 R91 : gH, gd C91 R91 ∧ G86 = gj C91 R91 ∧
    ∃ u91, g_ob C91 r86 15 = some u91 ∧
    ((((((((((0 + 1) + 10) + 1) + 1) + 1) + 1) + 1) + 1) + 1) + 1 ≤ MC ∧ (((((((((0 + 17) + 876) + 4) + 4) + 16) + 1000) + 1000) + 1000) + 1000) + 1000 ≤ MS) ∧
    w_J4_append_15ec4_U 1 1000 C91 r86 2 (fun v91 D91 => ∀ G91 : gH, gd D91 R91 → G91 = gj D91 R91 →
    ∃ r91, v91 = some r91 ∧
    ∃ C94 R94 : gH, gd C94 R94 ∧ G91 = gj C94 R94 ∧
    ∃ u94, g_ob C94 r91 15 = some u94 ∧
    (((((((((((0 + 1) + 10) + 1) + 1) + 1) + 1) + 1) + 1) + 1) + 1) + 2 ≤ MC ∧ ((((((((((0 + 17) + 876) + 4) + 4) + 16) + 1000) + 1000) + 1000) + 1000) + 1000) + 1004 ≤ MS) ∧
    w_J4_toString_0e30d 2 1004 C94 r91 (fun v94 D94 => ∀ G94 : gH, gd D94 R94 → G94 = gj D94 R94 →
    ∃ r94, v94 = some r94 ∧
    ∃ C97 R97 : gH, gd C97 R97 ∧ G94 = gj C97 R97 ∧
    ((((((((((((0 + 1) + 10) + 1) + 1) + 1) + 1) + 1) + 1) + 1) + 1) + 2) + 2 ≤ MC ∧ (((((((((((0 + 17) + 876) + 4) + 4) + 16) + 1000) + 1000) + 1000) + 1000) + 1000) + 1004) + 2000 ≤ MS) ∧
    w_J4_init_a7421_A 2 2000 C97 q54 r94 (fun D97 => ∀ G97 : gH, gd D97 R97 → G97 = gj D97 R97 →
    ∃ C104 R104 : gH, gd C104 R104 ∧ G97 = gj C104 R104 ∧
    (((((((((((((0 + 1) + 10) + 1) + 1) + 1) + 1) + 1) + 1) + 1) + 1) + 2) + 2) + 0 ≤ MC ∧ ((((((((((((0 + 17) + 876) + 4) + 4) + 16) + 1000) + 1000) + 1000) + 1000) + 1000) + 1004) + 2000) + 0 ≤ MS) ∧
    ∃ q104, f_L_draw C104 a1 (6 : Int32) = some q104 ∧ ∀ G104 : gH, gd q104.1 R104 → G104 = gj q104.1 R104 →
    w_L_plays_L109 MC MS K g_N G104 ((((((((((((0 + 1) + 10) + 1) + 1) + 1) + 1) + 1) + 1) + 1) + 1) + 2) + 2) ((((((((((((0 + 17) + 876) + 4) + 4) + 16) + 1000) + 1000) + 1000) + 1000) + 1000) + 1004) + 2000) a0 a1 q0 q54 q104.2)))))))))

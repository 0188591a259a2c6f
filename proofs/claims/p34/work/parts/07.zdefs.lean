/-! The law's methods that make cells: by program (wip/p34/tools/pwlift.py). -/
def w_X12_init (MC MS : Nat) (G : gH) (a0 : Nat) (K : gH → Prop) : Prop :=
    ∃ G6, g_put G a0 12 3 (.int (-1 : Int32)) = some G6 ∧
    ∃ G11, g_put G6 a0 12 4 (.int (-1 : Int32)) = some G11 ∧
    (0 + 1 ≤ MC ∧ 0 + 10 ≤ MS) ∧ ∀ q17 : Nat, G11 q17 = none → ∀ G17 : gH, G17 = va_up G11 q17 (some (.inl (0, 10, fun _ => 0))) →
    ∃ G19, g_put G17 a0 12 6 (.ref q17) = some G19 ∧
    ((0 + 1) + 1 ≤ MC ∧ (0 + 10) + 3 ≤ MS) ∧ ∀ q24 : Nat, G19 q24 = none → ∀ G24 : gH, G24 = va_up G19 q24 (some (.inl (0, 3, fun _ => 0))) →
    ∃ G26, g_put G24 a0 12 7 (.ref q24) = some G26 ∧
    (((0 + 1) + 1) + 1 ≤ MC ∧ ((0 + 10) + 3) + 10 ≤ MS) ∧ ∀ q32 : Nat, G26 q32 = none → ∀ G32 : gH, G32 = va_up G26 q32 (some (.inr (.inr (.inl (6, 10, fun _ => none))))) →
    ∃ G35, g_put G32 a0 12 8 (.ref q32) = some G35 ∧
    (((0 + 1) + 1) + 1) ≤ MC ∧ (((0 + 10) + 3) + 10) ≤ MS ∧ K G35
def w_X13_init (MC MS : Nat) (G : gH) (a0 : Nat) (K : gH → Prop) : Prop :=
    (0 + 1 ≤ MC ∧ 0 + 8 ≤ MS) ∧ ∀ q7 : Nat, G q7 = none → ∀ G7 : gH, G7 = va_up G q7 (some (.inl (0, 8, fun _ => 0))) →
    ∃ G9, g_put G7 a0 13 6 (.ref q7) = some G9 ∧
    (0 + 1) ≤ MC ∧ (0 + 8) ≤ MS ∧ K G9
def w_X10_init_L89 (MC MS : Nat) (K : gH → Prop) : Nat → gH → Nat → Nat → Nat → Int32 → Prop
  | 0, _, _, _, _, _ => False
  | n + 1, G, kc, ks, ba0, bx1 =>
    if (96 : Int32) ≤ bx1 then
    kc ≤ MC ∧ ks ≤ MS ∧ K G
    else
    ∃ v96, g_r G ba0 10 8 = some v96 ∧
    ∃ G101, g_ast 0 G v96 bx1 (-1 : Int32) = some G101 ∧
    ∃ v103, g_r G101 ba0 10 9 = some v103 ∧
    ∃ G108, g_ast 0 G101 v103 bx1 (-1 : Int32) = some G108 ∧
    ∃ v110, g_r G108 ba0 10 10 = some v110 ∧
    ∃ G115, g_ast 0 G108 v110 bx1 (-1 : Int32) = some G115 ∧
    ∃ v117, g_r G115 ba0 10 11 = some v117 ∧
    ∃ G122, g_ast 0 G115 v117 bx1 (-1 : Int32) = some G122 ∧
    w_X10_init_L89 MC MS K n G122 kc ks ba0 (bx1 + (1 : Int32))
def w_X10_init (MC MS : Nat) (G : gH) (a0 : Nat) (K : gH → Prop) : Prop :=
    (0 + 1 ≤ MC ∧ 0 + 96 ≤ MS) ∧ ∀ q7 : Nat, G q7 = none → ∀ G7 : gH, G7 = va_up G q7 (some (.inl (0, 96, fun _ => 0))) →
    ∃ G9, g_put G7 a0 10 7 (.ref q7) = some G9 ∧
    ((0 + 1) + 1 ≤ MC ∧ (0 + 96) + 96 ≤ MS) ∧ ∀ q15 : Nat, G9 q15 = none → ∀ G15 : gH, G15 = va_up G9 q15 (some (.inl (0, 96, fun _ => 0))) →
    ∃ G17, g_put G15 a0 10 8 (.ref q15) = some G17 ∧
    (((0 + 1) + 1) + 1 ≤ MC ∧ ((0 + 96) + 96) + 96 ≤ MS) ∧ ∀ q23 : Nat, G17 q23 = none → ∀ G23 : gH, G23 = va_up G17 q23 (some (.inl (0, 96, fun _ => 0))) →
    ∃ G25, g_put G23 a0 10 9 (.ref q23) = some G25 ∧
    ((((0 + 1) + 1) + 1) + 1 ≤ MC ∧ (((0 + 96) + 96) + 96) + 96 ≤ MS) ∧ ∀ q31 : Nat, G25 q31 = none → ∀ G31 : gH, G31 = va_up G25 q31 (some (.inl (0, 96, fun _ => 0))) →
    ∃ G33, g_put G31 a0 10 10 (.ref q31) = some G33 ∧
    (((((0 + 1) + 1) + 1) + 1) + 1 ≤ MC ∧ ((((0 + 96) + 96) + 96) + 96) + 96 ≤ MS) ∧ ∀ q39 : Nat, G33 q39 = none → ∀ G39 : gH, G39 = va_up G33 q39 (some (.inl (0, 96, fun _ => 0))) →
    ∃ G41, g_put G39 a0 10 11 (.ref q39) = some G41 ∧
    ((((((0 + 1) + 1) + 1) + 1) + 1) + 1 ≤ MC ∧ (((((0 + 96) + 96) + 96) + 96) + 96) + 96 ≤ MS) ∧ ∀ q47 : Nat, G41 q47 = none → ∀ G47 : gH, G47 = va_up G41 q47 (some (.inl (1, 96, fun _ => 0))) →
    ∃ G49, g_put G47 a0 10 12 (.ref q47) = some G49 ∧
    (((((((0 + 1) + 1) + 1) + 1) + 1) + 1) + 1 ≤ MC ∧ ((((((0 + 96) + 96) + 96) + 96) + 96) + 96) + 96 ≤ MS) ∧ ∀ q55 : Nat, G49 q55 = none → ∀ G55 : gH, G55 = va_up G49 q55 (some (.inl (1, 96, fun _ => 0))) →
    ∃ G57, g_put G55 a0 10 13 (.ref q55) = some G57 ∧
    ((((((((0 + 1) + 1) + 1) + 1) + 1) + 1) + 1) + 1 ≤ MC ∧ (((((((0 + 96) + 96) + 96) + 96) + 96) + 96) + 96) + 96 ≤ MS) ∧ ∀ q63 : Nat, G57 q63 = none → ∀ G63 : gH, G63 = va_up G57 q63 (some (.inr (.inr (.inl (6, 96, fun _ => none))))) →
    ∃ G66, g_put G63 a0 10 14 (.ref q63) = some G66 ∧
    (((((((((0 + 1) + 1) + 1) + 1) + 1) + 1) + 1) + 1) + 1 ≤ MC ∧ ((((((((0 + 96) + 96) + 96) + 96) + 96) + 96) + 96) + 96) + 96 ≤ MS) ∧ ∀ q72 : Nat, G66 q72 = none → ∀ G72 : gH, G72 = va_up G66 q72 (some (.inr (.inr (.inl (6, 96, fun _ => none))))) →
    ∃ G75, g_put G72 a0 10 15 (.ref q72) = some G75 ∧
    ((((((((((0 + 1) + 1) + 1) + 1) + 1) + 1) + 1) + 1) + 1) + 1 ≤ MC ∧ (((((((((0 + 96) + 96) + 96) + 96) + 96) + 96) + 96) + 96) + 96) + 12 ≤ MS) ∧ ∀ q81 : Nat, G75 q81 = none → ∀ G81 : gH, G81 = va_up G75 q81 (some (.inr (.inr (.inl (5, 12, fun _ => none))))) →
    ∃ G84, g_put G81 a0 10 16 (.ref q81) = some G84 ∧
    w_X10_init_L89 MC MS K g_N G84 ((((((((((0 + 1) + 1) + 1) + 1) + 1) + 1) + 1) + 1) + 1) + 1) ((((((((((0 + 96) + 96) + 96) + 96) + 96) + 96) + 96) + 96) + 96) + 12) a0 (0 : Int32)
def w_X10_begins (MC MS : Nat) (G : gH) (a0 : Nat) (K : Option Nat → gH → Prop) : Prop :=
    (0 + 1 ≤ MC ∧ 0 + 9 ≤ MS) ∧ ∀ q0 : Nat, G q0 = none → ∀ G0 : gH, G0 = va_up G q0 (some (.inr (.inr (.inr (12, [.int 0, .int 0, .int 0, .int 0, .int 0, .int 0, .null, .null, .null]))))) →
    ∃ C4 R4 : gH, gd C4 R4 ∧ G0 = gj C4 R4 ∧
    ((0 + 1) + 3 ≤ MC ∧ (0 + 9) + 23 ≤ MS) ∧
    w_X12_init 3 23 C4 q0 (fun D4 => ∀ G4 : gH, gd D4 R4 → G4 = gj D4 R4 →
    ∃ v10, g_i G4 a0 10 3 = some v10 ∧
    ∃ G13, g_put G4 q0 12 1 (.int v10) = some G13 ∧
    ∃ v17, g_r G13 a0 10 16 = some v17 ∧
    ∃ v22, g_i G13 a0 10 4 = some v22 ∧
    ∃ G28, g_put G13 a0 10 4 (.int (v22 + (1 : Int32))) = some G28 ∧
    ∃ u32, g_ob G28 q0 12 = some u32 ∧
    ∃ G32, g_rast 5 G28 v17 v22 (some q0) = some G32 ∧
    ((0 + 1) + 3) ≤ MC ∧ ((0 + 9) + 23) ≤ MS ∧ K (some q0) G32)
def w_X10_write_L97 (MC MS : Nat) (K : Int32 → gH → Prop) : Nat → gH → Nat → Nat → Nat → Int32 → Int32 → Option Nat → Nat → Int32 → Prop
  | 0, _, _, _, _, _, _, _, _, _ => False
  | n + 1, G, kc, ks, ba0, bx1, bx2, ba4, ba5, bx6 =>
    ((ba4 = none →
    if bx2 ≤ bx6 then
    False
    else
    ∃ v105, g_r G ba5 13 6 = some v105 ∧
    ∃ C116 R116 : gH, gd C116 R116 ∧ G = gj C116 R116 ∧
    ∃ u116, g_ob C116 ba0 10 = some u116 ∧
    (kc + 0 ≤ MC ∧ ks + 0 ≤ MS) ∧
    ∃ q116, f_X10_burn_r C116 ba0 (1 : Int32) ba5 bx6 = some q116 ∧ ∀ G116 : gH, gd q116.1 R116 → G116 = gj q116.1 R116 →
    ∃ G119, g_ast 0 G116 v105 bx6 q116.2 = some G119 ∧
    w_X10_write_L97 MC MS K n G119 kc ks ba0 bx1 bx2 none ba5 (bx6 + (1 : Int32))) ∧ ∀ ba4r : Nat, ba4 = some ba4r →
    if bx2 ≤ bx6 then
    ∃ C131 R131 : gH, gd C131 R131 ∧ G = gj C131 R131 ∧
    ∃ u131, g_ob C131 ba4r 12 = some u131 ∧
    (kc + 0 ≤ MC ∧ ks + 0 ≤ MS) ∧
    ∃ q131, f_X12_enter_r C131 ba4r bx1 ba5 = some q131 ∧ ∀ G131 : gH, gd q131 R131 → G131 = gj q131 R131 →
    ∃ v136, g_i G131 ba5 13 1 = some v136 ∧
    kc ≤ MC ∧ ks ≤ MS ∧ K v136 G131
    else
    ∃ v105, g_r G ba5 13 6 = some v105 ∧
    ∃ C116 R116 : gH, gd C116 R116 ∧ G = gj C116 R116 ∧
    ∃ u116, g_ob C116 ba0 10 = some u116 ∧
    (kc + 0 ≤ MC ∧ ks + 0 ≤ MS) ∧
    ∃ q116, f_X10_burn_r C116 ba0 (1 : Int32) ba5 bx6 = some q116 ∧ ∀ G116 : gH, gd q116.1 R116 → G116 = gj q116.1 R116 →
    ∃ G119, g_ast 0 G116 v105 bx6 q116.2 = some G119 ∧
    w_X10_write_L97 MC MS K n G119 kc ks ba0 bx1 bx2 (some ba4r) ba5 (bx6 + (1 : Int32)))
def w_X10_write_J18 (MC MS : Nat) (K : Int32 → gH → Prop) (G : gH) (kc : Nat) (ks : Nat) (ba0 : Nat) (bx1 : Int32) (bx2 : Int32) (bx3 : Int32) (z0 : Option Nat) : Prop :=
    ((z0 = none →
    (kc + 1 ≤ MC ∧ ks + 7 ≤ MS) ∧ ∀ q20 : Nat, G q20 = none → ∀ G20 : gH, G20 = va_up G q20 (some (.inr (.inr (.inr (13, [.int 0, .int 0, .int 0, .int 0, .int 0, .int 0, .null]))))) →
    ∃ C24 R24 : gH, gd C24 R24 ∧ G20 = gj C24 R24 ∧
    ((kc + 1) + 1 ≤ MC ∧ (ks + 7) + 8 ≤ MS) ∧
    w_X13_init 1 8 C24 q20 (fun D24 => ∀ G24 : gH, gd D24 R24 → G24 = gj D24 R24 →
    ∃ G32, g_put G24 q20 13 0 (.int bx1) = some G32 ∧
    ∃ v38, g_i G32 ba0 10 5 = some v38 ∧
    ∃ G41, g_put G32 q20 13 1 (.int v38) = some G41 ∧
    ∃ v47, g_i G41 ba0 10 3 = some v47 ∧
    ∃ G50, g_put G41 q20 13 2 (.int v47) = some G50 ∧
    ∃ G56, g_put G50 q20 13 3 (.int bx2) = some G56 ∧
    ∃ G62, g_put G56 q20 13 4 (.int bx3) = some G62 ∧
    ∃ v68, g_i G62 ba0 10 4 = some v68 ∧
    ∃ G73, g_put G62 q20 13 5 (.int (v68 - (1 : Int32))) = some G73 ∧
    ∃ v77, g_r G73 ba0 10 15 = some v77 ∧
    ∃ v82, g_i G73 ba0 10 5 = some v82 ∧
    ∃ G88, g_put G73 ba0 10 5 (.int (v82 + (1 : Int32))) = some G88 ∧
    ∃ u93, g_ob G88 q20 13 = some u93 ∧
    ∃ G93, g_rast 6 G88 v77 v82 (some q20) = some G93 ∧
    w_X10_write_L97 MC MS K g_N G93 ((kc + 1) + 1) ((ks + 7) + 8) ba0 bx1 bx2 none q20 (0 : Int32))) ∧ ∀ z0r : Nat, z0 = some z0r →
    (kc + 1 ≤ MC ∧ ks + 7 ≤ MS) ∧ ∀ q20 : Nat, G q20 = none → ∀ G20 : gH, G20 = va_up G q20 (some (.inr (.inr (.inr (13, [.int 0, .int 0, .int 0, .int 0, .int 0, .int 0, .null]))))) →
    ∃ C24 R24 : gH, gd C24 R24 ∧ G20 = gj C24 R24 ∧
    ((kc + 1) + 1 ≤ MC ∧ (ks + 7) + 8 ≤ MS) ∧
    w_X13_init 1 8 C24 q20 (fun D24 => ∀ G24 : gH, gd D24 R24 → G24 = gj D24 R24 →
    ∃ G32, g_put G24 q20 13 0 (.int bx1) = some G32 ∧
    ∃ v38, g_i G32 ba0 10 5 = some v38 ∧
    ∃ G41, g_put G32 q20 13 1 (.int v38) = some G41 ∧
    ∃ v47, g_i G41 ba0 10 3 = some v47 ∧
    ∃ G50, g_put G41 q20 13 2 (.int v47) = some G50 ∧
    ∃ G56, g_put G50 q20 13 3 (.int bx2) = some G56 ∧
    ∃ G62, g_put G56 q20 13 4 (.int bx3) = some G62 ∧
    ∃ v68, g_i G62 ba0 10 4 = some v68 ∧
    ∃ G73, g_put G62 q20 13 5 (.int (v68 - (1 : Int32))) = some G73 ∧
    ∃ v77, g_r G73 ba0 10 15 = some v77 ∧
    ∃ v82, g_i G73 ba0 10 5 = some v82 ∧
    ∃ G88, g_put G73 ba0 10 5 (.int (v82 + (1 : Int32))) = some G88 ∧
    ∃ u93, g_ob G88 q20 13 = some u93 ∧
    ∃ G93, g_rast 6 G88 v77 v82 (some q20) = some G93 ∧
    w_X10_write_L97 MC MS K g_N G93 ((kc + 1) + 1) ((ks + 7) + 8) ba0 bx1 bx2 (some z0r) q20 (0 : Int32)))
def w_X10_write (MC MS : Nat) (G : gH) (a0 : Nat) (x1 : Int32) (x2 : Int32) (x3 : Int32) (K : Int32 → gH → Prop) : Prop :=
    ∃ C1 R1 : gH, gd C1 R1 ∧ G = gj C1 R1 ∧
    ∃ u1, g_ob C1 a0 10 = some u1 ∧
    (0 + 0 ≤ MC ∧ 0 + 0 ≤ MS) ∧
    ∃ v1, f_X10_open C1 a0 = some v1 ∧
    ((v1 = none →
    ∃ C8 R8 : gH, gd C8 R8 ∧ G = gj C8 R8 ∧
    ∃ u8, g_ob C8 a0 10 = some u8 ∧
    (0 + 4 ≤ MC ∧ 0 + 32 ≤ MS) ∧
    w_X10_begins 4 32 C8 a0 (fun v8 D8 => ∀ G8 : gH, gd D8 R8 → G8 = gj D8 R8 →
    ((v8 = none →
    w_X10_write_J18 MC MS K G8 (0 + 4) (0 + 32) a0 x1 x2 x3 none) ∧ ∀ r8 : Nat, v8 = some r8 →
    w_X10_write_J18 MC MS K G8 (0 + 4) (0 + 32) a0 x1 x2 x3 (some r8)))) ∧ ∀ r1 : Nat, v1 = some r1 →
    ∃ C15 R15 : gH, gd C15 R15 ∧ G = gj C15 R15 ∧
    ∃ u15, g_ob C15 a0 10 = some u15 ∧
    (0 + 0 ≤ MC ∧ 0 + 0 ≤ MS) ∧
    ∃ v15, f_X10_open C15 a0 = some v15 ∧
    ((v15 = none →
    w_X10_write_J18 MC MS K G 0 0 a0 x1 x2 x3 none) ∧ ∀ r15 : Nat, v15 = some r15 →
    w_X10_write_J18 MC MS K G 0 0 a0 x1 x2 x3 (some r15)))
def w_X10_erase (MC MS : Nat) (G : gH) (a0 : Nat) (x1 : Int32) (K : gH → Prop) : Prop :=
    ∃ C1 R1 : gH, gd C1 R1 ∧ G = gj C1 R1 ∧
    ∃ u1, g_ob C1 a0 10 = some u1 ∧
    (0 + 0 ≤ MC ∧ 0 + 0 ≤ MS) ∧
    ∃ v1, f_X10_open C1 a0 = some v1 ∧
    ((v1 = none →
    ∃ C8 R8 : gH, gd C8 R8 ∧ G = gj C8 R8 ∧
    ∃ u8, g_ob C8 a0 10 = some u8 ∧
    (0 + 4 ≤ MC ∧ 0 + 32 ≤ MS) ∧
    w_X10_begins 4 32 C8 a0 (fun v8 D8 => ∀ G8 : gH, gd D8 R8 → G8 = gj D8 R8 →
    ((v8 = none →
    False) ∧ ∀ r8 : Nat, v8 = some r8 →
    ∃ C20 R20 : gH, gd C20 R20 ∧ G8 = gj C20 R20 ∧
    ∃ u20, g_ob C20 r8 12 = some u20 ∧
    ((0 + 4) + 0 ≤ MC ∧ (0 + 32) + 0 ≤ MS) ∧
    ∃ q20, f_X12_enter_n C20 r8 x1 = some q20 ∧ ∀ G20 : gH, gd q20 R20 → G20 = gj q20 R20 →
    (0 + 4) ≤ MC ∧ (0 + 32) ≤ MS ∧ K G20))) ∧ ∀ r1 : Nat, v1 = some r1 →
    ∃ C15 R15 : gH, gd C15 R15 ∧ G = gj C15 R15 ∧
    ∃ u15, g_ob C15 a0 10 = some u15 ∧
    (0 + 0 ≤ MC ∧ 0 + 0 ≤ MS) ∧
    ∃ v15, f_X10_open C15 a0 = some v15 ∧
    ((v15 = none →
    False) ∧ ∀ r15 : Nat, v15 = some r15 →
    ∃ C20 R20 : gH, gd C20 R20 ∧ G = gj C20 R20 ∧
    ∃ u20, g_ob C20 r15 12 = some u20 ∧
    (0 + 0 ≤ MC ∧ 0 + 0 ≤ MS) ∧
    ∃ q20, f_X12_enter_n C20 r15 x1 = some q20 ∧ ∀ G20 : gH, gd q20 R20 → G20 = gj q20 R20 →
    0 ≤ MC ∧ 0 ≤ MS ∧ K G20))

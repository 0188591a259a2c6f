/-! share: its weakest precondition. -/
def w_X9_share (G : gH) (a0 : Nat) (K : UInt64 → gH → Prop) : Prop :=
    ∃ v1, g_r G a0 9 5 = some v1 ∧
    ∃ v4, g_r G v1 1 0 = some v4 ∧
    ∃ v7, g_i G v4 0 0 = some v7 ∧
    ∃ u16, g_ob G v1 1 = some u16 ∧
    ∃ q16, f_X1_blocksUsed G v1 (-1 : Int32) (0 : Int32) = some q16 ∧
    if (0 : Int32) < v7 - q16.2 then
    ∃ v28, g_r q16.1 a0 9 5 = some v28 ∧
    ∃ u33, g_ob q16.1 v28 1 = some u33 ∧
    ∃ q33, f_X1_blocksUsed q16.1 v28 (-1 : Int32) (1 : Int32) = some q33 ∧
    vf_n64 (FP.ddiv (FP.i2d q33.2) (FP.i2d (v7 - q16.2))) ∧
    K (FP.ddiv (FP.i2d q33.2) (FP.i2d (v7 - q16.2))) q33.1
    else
    K FP.dconst1 q16.1

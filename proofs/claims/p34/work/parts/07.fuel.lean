def g_N : Nat := 4096

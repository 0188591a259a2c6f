/-! The class's calls, as what its world shows. -/
def yCo (A : gH) (o : Nat) (n : zN) : Prop := ∃ nm E σ d t c U h V, zOk E ∧ zCL nm E σ d t n c U h V ∧ A = zH E σ ∧ o = zL E 2 0 0 ∧ σ 2 0 1 1 = 0
section yT
variable {A : gH} {o : Nat} {n : zN}
theorem yCo.ob (h : yCo A o n) : g_ob A o 9 = some () := by
  obtain ⟨nm, E, σ, d, t, c, U, hh, V, hO, hC, rfl, rfl, hu1⟩ := h
  have m := zz_mao (σ := σ) hO.1 hO.m
  simp only [m]
theorem yCo.w (h : yCo A o n) : nW n := by
  obtain ⟨nm, E, σ, d, t, c, U, hh, V, hO, hC, rfl, rfl, hu1⟩ := h
  exact (zCL.fs hO hC).2.2.2.2.1

theorem k_close (h : yCo A o n) (hw : nWc n = 0) {KX : String → gH → Prop} {K : Int32 → gH → Prop} (hK : ∀ A', yCo A' o (nCl n) → K (zI (nLa n)) A') : w_X9_close A o KX K := by
  obtain ⟨nm, E, σ, d, t, c, U, hh, V, hO, hC, rfl, rfl, hu1⟩ := h
  exact c9_close hO hC (by rw [if_pos hw]; intro E' σ' hO' g hC' fc; exact hK _ ⟨nm, E', σ', d, t, _, _, hh, V, hO', hC', rfl, (g.2 2 0 0 hO.m).symm, by rw [fc 2 0 1 (by omega) (by omega)]; exact hu1⟩)
theorem k_crash (h : yCo A o n) (hw : nOp n = true) {KX : String → gH → Prop} {K : Int32 → gH → Prop} (hK : ∀ A', yCo A' o (nCrs n) → K (zI (zcn (fun b => decide (n (295 + b) = nLa n + 1)) 0 (n 0 - n 1).toNat)) A') : w_X9_crash A o KX K := by
  obtain ⟨nm, E, σ, d, t, c, U, hh, V, hO, hC, rfl, rfl, hu1⟩ := h
  exact c9_crash hO hC (by rw [if_pos hw]; intro E' σ' hO' g hC' fc; exact hK _ ⟨nm, E', σ', d, t, _, _, hh, V, hO', hC', rfl, (g.2 2 0 0 hO.m).symm, by rw [fc 2 0 1 (by omega) (by omega)]; exact hu1⟩)
theorem k_recover (h : yCo A o n) (hw : nWr n = 0) {KX : String → gH → Prop} {K : Int32 → gH → Prop} (hK : ∀ A', yCo A' o (nRec n) → K (zI (nCr n)) A') : w_X9_recover A o KX K := by
  obtain ⟨nm, E, σ, d, t, c, U, hh, V, hO, hC, rfl, rfl, hu1⟩ := h
  exact c9_recover hO hC (by rw [if_pos hw]; intro E' σ' hO' g hC' fc; exact hK _ ⟨nm, E', σ', d, t, _, _, hh, V, hO', hC', rfl, (g.2 2 0 0 hO.m).symm, by rw [fc 2 0 1 (by omega) (by omega)]; exact hu1⟩)
theorem k_erase (h : yCo A o n) {f : Int} (f0 : 0 ≤ f) (f1 : f < n 2) (hw : nWe n f = 0) {KX : String → gH → Prop} {K : Int32 → gH → Prop} (hK : ∀ A', yCo A' o (nErs n f) → K (zI (nTh (nErs n f) 12)) A') : w_X9_erase A o (zI f) KX K := by
  have hN := h.w.1.r
  obtain ⟨nm, E, σ, d, t, c, U, hh, V, hO, hC, rfl, rfl, hu1⟩ := h
  exact c9_erase hO hC (by omega) (by omega) (by rw [if_pos ⟨f0, f1⟩, if_pos hw]; intro E' σ' hO' g hC' fc; exact hK _ ⟨nm, E', σ', d, t, _, _, hh, V, hO', hC', rfl, (g.2 2 0 0 hO.m).symm, by rw [fc 2 0 1 (by omega) (by omega)]; exact hu1⟩)
theorem k_write (h : yCo A o n) {f m tag : Int} (f0 : 0 ≤ f) (f1 : f < n 2) (m0 : 1 ≤ m) (m1 : m ≤ 8) (t0 : 0 ≤ tag) (t1 : tag ≤ 999) (hw : nWw n f m = 0) {KX : String → gH → Prop} {K : Int32 → gH → Prop} (hK : ∀ A', yCo A' o (nWrs n f m tag) → K (zI (n 6)) A') : w_X9_write A o (zI f) (zI m) (zI tag) KX K := by
  have hN := h.w.1.r
  obtain ⟨nm, E, σ, d, t, c, U, hh, V, hO, hC, rfl, rfl, hu1⟩ := h
  exact c9_write hO hC (by omega) (by omega) (by omega) (by omega) (by omega) (by omega) (by rw [if_pos ⟨f0, f1⟩, if_pos ⟨m0, m1⟩, if_pos ⟨t0, t1⟩, if_pos hw]; intro E' σ' hO' g hC' fc; exact hK _ ⟨nm, E', σ', d, t, _, _, hh, V, hO', hC', rfl, (g.2 2 0 0 hO.m).symm, by rw [fc 2 0 1 (by omega) (by omega)]; exact hu1⟩)
theorem k_scratch (h : yCo A o n) {b : Int} (f0 : 0 ≤ b) (f1 : b < n 0) {KX : String → gH → Prop} {K : Int32 → gH → Prop} (hK : ∀ A', yCo A' o (nScr n b) → K (zI (zb (decide ((if n (7 + b) = 0 then n (103 + b) else n (199 + b)) = 0)))) A') : w_X9_scratch A o (zI b) KX K := by
  have hN := h.w.1.r
  obtain ⟨nm, E, σ, d, t, c, U, hh, V, hO, hC, rfl, rfl, hu1⟩ := h
  exact c9_scratch hO hC (by omega) (by omega) (by rw [if_pos ⟨f0, f1⟩]; intro E' σ' hO' g hC' fc; exact hK _ ⟨nm, E', σ', d, t, _, _, hh, V, hO', hC', rfl, (g.2 2 0 0 hO.m).symm, by rw [fc 2 0 1 (by omega) (by omega)]; exact hu1⟩)
theorem k_setScan (h : yCo A o n) {w : Bool} {K : Int32 → gH → Prop} (hK : ∀ A', yCo A' o (zu n 5 (zb w)) → K (zI (n 5)) A') : w_X9_setScan A o (zI (zb w)) K := by
  obtain ⟨nm, E, σ, d, t, c, U, hh, V, hO, hC, rfl, rfl, hu1⟩ := h
  exact c9_setScan hO hC (by intro E' σ' hO' g hC' fc; exact hK _ ⟨nm, E', σ', d, t, _, _, hh, V, hO', hC', rfl, (g.2 2 0 0 hO.m).symm, by rw [fc 2 0 1 (by omega) (by omega)]; exact hu1⟩)
theorem k_block (h : yCo A o n) {y x : Int} (y0 : 0 ≤ y) (y1 : y < n 0) (x0 : 0 ≤ x) (x1 : x ≤ 6) {KX : String → gH → Prop} {K : Int32 → gH → Prop} (hK : ∀ A', yCo A' o n → K (zI (aBlock n y x)) A') : w_X9_block A o (zI y) (zI x) KX K := by
  have hN := h.w.1.r
  obtain ⟨nm, E, σ, d, t, c, U, hh, V, hO, hC, rfl, rfl, hu1⟩ := h
  obtain ⟨_, hu, hv, hR, hn, hd⟩ := zCL.fs hO hC
  refine c9_block hO.1 hO.m hd hu hv hR hn (by omega) (by omega) (by omega) (by omega) ?_
  rw [if_pos ⟨y0, y1⟩, if_pos ⟨x0, x1⟩]
  exact fun σ' fv => hK _ ⟨nm, E, σ', d, t, c, U, hh, V, hO, hC.v fv, rfl, rfl, by rw [fv 2 (by omega) 0 1]; exact hu1⟩
theorem k_whyNotWrite (h : yCo A o n) {y x : Int} (y0 : 0 ≤ y) (y1 : y < n 2) (x0 : 1 ≤ x) (x1 : x ≤ 8) {KX : String → gH → Prop} {K : Int32 → gH → Prop} (hK : ∀ A', yCo A' o n → K (zI (nWw n y x)) A') : w_X9_whyNotWrite A o (zI y) (zI x) KX K := by
  have hN := h.w.1.r
  obtain ⟨nm, E, σ, d, t, c, U, hh, V, hO, hC, rfl, rfl, hu1⟩ := h
  obtain ⟨_, hu, hv, hR, hn, hd⟩ := zCL.fs hO hC
  refine c9_whyNotWrite hO.1 hO.m hd hu hv hR hn (by omega) (by omega) (by omega) (by omega) ?_
  rw [if_pos ⟨y0, y1⟩, if_pos ⟨x0, x1⟩]
  exact fun σ' fv => hK _ ⟨nm, E, σ', d, t, c, U, hh, V, hO, hC.v fv, rfl, rfl, by rw [fv 2 (by omega) 0 1]; exact hu1⟩
theorem k_spaceOf (h : yCo A o n) {y x : Int} (y0 : 0 ≤ y) (y1 : y < n 3) (x0 : 1 ≤ x) (x1 : x ≤ 4) {KX : String → gH → Prop} {K : Int32 → gH → Prop} (hK : ∀ A', yCo A' o n → K (zI (nSp n y x)) A') : w_X9_spaceOf A o (zI y) (zI x) KX K := by
  have hN := h.w.1.r
  obtain ⟨nm, E, σ, d, t, c, U, hh, V, hO, hC, rfl, rfl, hu1⟩ := h
  obtain ⟨_, hu, hv, hR, hn, hd⟩ := zCL.fs hO hC
  refine c9_spaceOf hO.1 hO.m hd hu hv hR hn (by omega) (by omega) (by omega) (by omega) ?_
  rw [if_pos ⟨y0, y1⟩, if_pos ⟨x0, x1⟩]
  exact fun σ' fv => hK _ ⟨nm, E, σ', d, t, c, U, hh, V, hO, hC.v fv, rfl, rfl, by rw [fv 2 (by omega) 0 1]; exact hu1⟩
theorem k_place (h : yCo A o n) {y : Int} (y0 : 0 ≤ y) (y1 : y < n 0) {KX : String → gH → Prop} {K : Int32 → gH → Prop} (hK : ∀ A', yCo A' o n → K (zI (aPlace n y)) A') : w_X9_place A o (zI y) KX K := by
  have hN := h.w.1.r
  obtain ⟨nm, E, σ, d, t, c, U, hh, V, hO, hC, rfl, rfl, hu1⟩ := h
  obtain ⟨_, hu, hv, hR, hn, hd⟩ := zCL.fs hO hC
  refine c9_place hO.1 hO.m hd hu hv hR hn (by omega) (by omega) ?_
  rw [if_pos ⟨y0, y1⟩]
  exact fun σ' fv => hK _ ⟨nm, E, σ', d, t, c, U, hh, V, hO, hC.v fv, rfl, rfl, by rw [fv 2 (by omega) 0 1]; exact hu1⟩
theorem k_filesBefore (h : yCo A o n) {y : Int} (y0 : 0 ≤ y) (y1 : y < n 3) {KX : String → gH → Prop} {K : Int32 → gH → Prop} (hK : ∀ A', yCo A' o n → K (zI (nTh n y)) A') : w_X9_filesBefore A o (zI y) KX K := by
  have hN := h.w.1.r
  obtain ⟨nm, E, σ, d, t, c, U, hh, V, hO, hC, rfl, rfl, hu1⟩ := h
  obtain ⟨_, hu, hv, hR, hn, hd⟩ := zCL.fs hO hC
  refine c9_filesBefore hO.1 hO.m hd hu hv hR hn (by omega) (by omega) ?_
  rw [if_pos ⟨y0, y1⟩]
  exact fun σ' fv => hK _ ⟨nm, E, σ', d, t, c, U, hh, V, hO, hC.v fv, rfl, rfl, by rw [fv 2 (by omega) 0 1]; exact hu1⟩
theorem k_risk (h : yCo A o n) {y : Int} (y0 : 0 ≤ y) (y1 : y < n 0) {KX : String → gH → Prop} {K : Int32 → gH → Prop} (hK : ∀ A', yCo A' o n → K (zI (nRk n y)) A') : w_X9_risk A o (zI y) KX K := by
  have hN := h.w.1.r
  obtain ⟨nm, E, σ, d, t, c, U, hh, V, hO, hC, rfl, rfl, hu1⟩ := h
  obtain ⟨_, hu, hv, hR, hn, hd⟩ := zCL.fs hO hC
  refine c9_risk hO.1 hO.m hd hu hv hR hn hO.2.2.2.2.2.1 (Ne.symm hC.1.1.2.2.2.1) (by omega) (by omega) ?_
  rw [if_pos ⟨y0, y1⟩]
  exact fun σ' fv => hK _ ⟨nm, E, σ', d, t, c, U, hh, V, hO, hC.v fv, rfl, rfl, by rw [fv 2 (by omega) 0 1]; exact hu1⟩
theorem k_space (h : yCo A o n) {x : Int} (x0 : 0 ≤ x) (x1 : x ≤ 4) {KX : String → gH → Prop} {K : Int32 → gH → Prop} (hK : ∀ A', yCo A' o n → K (zI (nSp n (-1) x)) A') : w_X9_space A o (zI x) KX K := by
  have hN := h.w.1.r
  obtain ⟨nm, E, σ, d, t, c, U, hh, V, hO, hC, rfl, rfl, hu1⟩ := h
  obtain ⟨_, hu, hv, hR, hn, hd⟩ := zCL.fs hO hC
  refine c9_space hO.1 hO.m hd hu hv hR hn (by omega) (by omega) ?_
  rw [if_pos ⟨x0, x1⟩]
  exact fun σ' fv => hK _ ⟨nm, E, σ', d, t, c, U, hh, V, hO, hC.v fv, rfl, rfl, by rw [fv 2 (by omega) 0 1]; exact hu1⟩
theorem k_whyNot (h : yCo A o n) {x : Int} (x0 : 0 ≤ x) (x1 : x ≤ 2) {KX : String → gH → Prop} {K : Int32 → gH → Prop} (hK : ∀ A', yCo A' o n → K (zI (aWhyNot n x)) A') : w_X9_whyNot A o (zI x) KX K := by
  have hN := h.w.1.r
  obtain ⟨nm, E, σ, d, t, c, U, hh, V, hO, hC, rfl, rfl, hu1⟩ := h
  obtain ⟨_, hu, hv, hR, hn, hd⟩ := zCL.fs hO hC
  refine c9_whyNot hO.1 hO.m hd hu hv hR hn (by omega) (by omega) ?_
  rw [if_pos ⟨x0, x1⟩]
  exact fun σ' fv => hK _ ⟨nm, E, σ', d, t, c, U, hh, V, hO, hC.v fv, rfl, rfl, by rw [fv 2 (by omega) 0 1]; exact hu1⟩
theorem k_session (h : yCo A o n) {y x : Int} (y0 : 0 ≤ y) (y1 : y < n 3) (x0 : 0 ≤ x) (x1 : x ≤ 8) {KX : String → gH → Prop} {K : Int32 → gH → Prop} (hK : ∀ A', yCo A' o n → K (zI (aSession n y x)) A') : w_X9_session A o (zI y) (zI x) KX K := by
  have hN := h.w.1.r
  obtain ⟨nm, E, σ, d, t, c, U, hh, V, hO, hC, rfl, rfl, hu1⟩ := h
  obtain ⟨_, hu, hv, hR, hn, hd⟩ := zCL.fs hO hC
  refine c9_session hO.1 hO.m hd hu hv hR hn (by omega) (by omega) (by omega) (by omega) ?_
  rw [if_pos ⟨y0, y1⟩, if_pos ⟨x0, x1⟩]
  exact fun σ' fv => hK _ ⟨nm, E, σ', d, t, c, U, hh, V, hO, hC.v fv, rfl, rfl, by rw [fv 2 (by omega) 0 1]; exact hu1⟩
theorem k_file (h : yCo A o n) {y x : Int} (y0 : 0 ≤ y) (y1 : y < n 2) (x0 : 0 ≤ x) (x1 : x ≤ 6) {KX : String → gH → Prop} {K : Int32 → gH → Prop} (hK : ∀ A', yCo A' o n → K (zI (aFile n y x)) A') : w_X9_file A o (zI y) (zI x) KX K := by
  have hN := h.w.1.r
  obtain ⟨nm, E, σ, d, t, c, U, hh, V, hO, hC, rfl, rfl, hu1⟩ := h
  obtain ⟨_, hu, hv, hR, hn, hd⟩ := zCL.fs hO hC
  refine c9_file hO.1 hO.m hd hu hv hR hn (by omega) (by omega) (by omega) (by omega) ?_
  rw [if_pos ⟨y0, y1⟩, if_pos ⟨x0, x1⟩]
  exact fun σ' fv => hK _ ⟨nm, E, σ', d, t, c, U, hh, V, hO, hC.v fv, rfl, rfl, by rw [fv 2 (by omega) 0 1]; exact hu1⟩
theorem k_where (h : yCo A o n) {y z : Int} (y0 : 0 ≤ y) (y1 : y < n 2) (z0 : 0 ≤ z) (z1 : z < 100) {KX : String → gH → Prop} {K : Int32 → gH → Prop} (hK : ∀ A', yCo A' o n → K (zI (aWhere n y z)) A') : w_X9_where A o (zI y) (zI z) KX K := by
  have hN := h.w.1.r
  obtain ⟨nm, E, σ, d, t, c, U, hh, V, hO, hC, rfl, rfl, hu1⟩ := h
  obtain ⟨_, hu, hv, hR, hn, hd⟩ := zCL.fs hO hC
  refine c9_where hO.1 hO.m hd hu hv hR hn (by omega) (by omega) (by omega) (by omega) ?_
  rw [if_pos ⟨y0, y1⟩]
  exact fun σ' fv => hK _ ⟨nm, E, σ', d, t, c, U, hh, V, hO, hC.v fv, rfl, rfl, by rw [fv 2 (by omega) 0 1]; exact hu1⟩
theorem k_entry (h : yCo A o n) {y x z : Int} (y0 : 0 ≤ y) (y1 : y < n 3) (x0 : 0 ≤ x) (x1 : x ≤ 4) (z0 : 0 ≤ z) (z1 : z < 100) {KX : String → gH → Prop} {K : Int32 → gH → Prop} (hK : ∀ A', yCo A' o n → K (zI (aEntry n y z x)) A') : w_X9_entry A o (zI y) (zI z) (zI x) KX K := by
  have hN := h.w.1.r
  obtain ⟨nm, E, σ, d, t, c, U, hh, V, hO, hC, rfl, rfl, hu1⟩ := h
  obtain ⟨_, hu, hv, hR, hn, hd⟩ := zCL.fs hO hC
  refine c9_entry hO.1 hO.m hd hu hv hR hn (by omega) (by omega) (by omega) (by omega) (by omega) (by omega) ?_
  rw [if_pos ⟨y0, y1⟩, if_pos ⟨x0, x1⟩]
  exact fun σ' fv => hK _ ⟨nm, E, σ', d, t, c, U, hh, V, hO, hC.v fv, rfl, rfl, by rw [fv 2 (by omega) 0 1]; exact hu1⟩
theorem k_size (h : yCo A o n) {x : Int} (x0 : 0 ≤ x) (x1 : x ≤ 12) (x11 : x ≠ 11) {KX : String → gH → Prop} {K : Int32 → gH → Prop} (hK : ∀ A', yCo A' o n → K (zI (aSize n 0 x)) A') : w_X9_size A o (zI x) KX K := by
  obtain ⟨nm, E, σ, d, t, c, U, hh, V, hO, hC, rfl, rfl, hu1⟩ := h
  obtain ⟨_, hu, hv, hR, hn, hd⟩ := zCL.fs hO hC
  refine c9_size hO.1 hO.m hd hu hv hR hn rfl (by omega) (by omega) ?_
  rw [if_pos ⟨x0, x1⟩]
  intro σ' fv
  have e : aSize n (σ 2 0 4 0) x = aSize n 0 x := by unfold aSize; rw [if_neg x11, if_neg x11]
  rw [e]
  exact hK _ ⟨nm, E, σ', d, t, c, U, hh, V, hO, hC.v fv, rfl, rfl, by rw [fv 2 (by omega) 0 1]; exact hu1⟩
theorem k_couldRecover (h : yCo A o n) : f_X9_couldRecover A o = some (zI ((nCo n).length : Int)) := by
  obtain ⟨nm, E, σ, d, t, c, U, hh, V, hO, hC, rfl, rfl, hu1⟩ := h
  obtain ⟨_, hu, hv, hR, hn, hd⟩ := zCL.fs hO hC
  exact c9_couldRecover hO.1 hO.m hd hu hv hR hn
theorem k_defect (h : yCo A o n) {x : Int} (x0 : 0 ≤ x) (x1 : x < 1000) {w : Bool} : f_X9_defect A o (zI x) (zI (zb w)) = some (zI (aDefect n x w)) := by
  obtain ⟨nm, E, σ, d, t, c, U, hh, V, hO, hC, rfl, rfl, hu1⟩ := h
  obtain ⟨_, hu, hv, hR, hn, hd⟩ := zCL.fs hO hC
  exact c9_defect hO.1 hO.m hd hu hv hR hn (by omega) (by omega)
theorem k_weakest (h : yCo A o n) : ∃ q, f_X9_weakest A o = some q ∧ q.2 = zI (zwk (nRk n) (n 0).toNat 0 0 0) ∧ yCo q.1 o n := by
  obtain ⟨nm, E, σ, d, t, c, U, hh, V, hO, hC, rfl, rfl, hu1⟩ := h
  obtain ⟨_, hu, hv, hR, hn, hd⟩ := zCL.fs hO hC
  obtain ⟨σ', p1, p2⟩ := c9_weakest (E := E) (σ := σ) hO.1 hO.m hd hu hv hR hn hO.2.2.2.2.2.1 (Ne.symm hC.1.1.2.2.2.1)
  exact ⟨_, p1, rfl, ⟨nm, E, σ', d, t, c, U, hh, V, hO, hC.v p2, rfl, rfl, by rw [p2 2 (by omega) 0 1]; exact hu1⟩⟩
theorem nSp_rg {n : zN} (hn : nW n) (s u : Int) : 0 ≤ nSp n s u ∧ nSp n s u ≤ n 0 := by
  have hN := hn.1.r
  unfold nSp
  have := zcn_rng (fun b => (decide (s = -1) || decide (n (295 + b) = s + 1)) && decide (nUs n b = u)) (n 0).toNat 0
  refine ⟨this.1, ?_⟩
  have h2 := this.2
  omega
theorem k_share (h : yCo A o n) {K : UInt64 → gH → Prop} (hK : ∀ A', yCo A' o n → K (if n 0 - nSp n (-1) 0 = 0 then FP.dconst1 else zQu (nSp n (-1) 1) (n 0 - nSp n (-1) 0)) A') : w_X9_share A o K := by
  obtain ⟨nm, E, σ, d, t, c, U, hh, V, hO, hC, rfl, rfl, hu1⟩ := h
  obtain ⟨⟨m5, od, _⟩, hu, hv, hR, hn, hd⟩ := zCL.fs hO hC
  have hW := hO.1
  have hm := hO.m
  have hN := hn.1.r
  have hdc := zz_dco (σ := σ) hW hu
  have ec := e0_count hW hu hR.1.1 hn.1 hn.2.1
  obtain ⟨σ1, b1, b2⟩ := e1_blocksUsed (E := E) (σ := σ) (s := -1) (u := 0) hW hu hv hn hR (by omega) (by omega) (by omega) (by omega)
  have s0 := nSp_rg hn (-1) 0
  have s1 := nSp_rg hn (-1) 1
  have fv1 := zFv.f b2
  have hR1 : zRd (σ1 0 d) n := by rw [b2 0 d (by omega)]; exact hR
  refine ⟨_, m5, zL E 0 d 1, by simp only [hdc], _, ec, (), od, _, b1, ?_⟩
  show if (0 : Int32) < zI (n 0) - zI (nSp n (-1) 0) then _ else _
  rw [zI_sub]
  obtain ⟨w, hw⟩ : ∃ w, w = n 0 - nSp n (-1) 0 := ⟨_, rfl⟩
  rw [← hw] at hK ⊢
  by_cases c0 : w = 0
  · rw [if_neg (show ¬ (0 : Int32) < zI w by rw [show (0 : Int32) = zI 0 from rfl, zI_lt (by omega) (by omega) (by omega) (by omega)]; omega)]
    have := hK (zH E σ1) ⟨nm, E, σ1, d, t, c, U, hh, V, hO, hC.v fv1, rfl, rfl, by rw [fv1 2 (by omega) 0 1]; exact hu1⟩
    rwa [if_pos c0] at this
  · rw [if_pos (show (0 : Int32) < zI w by rw [show (0 : Int32) = zI 0 from rfl, zI_lt (by omega) (by omega) (by omega) (by omega)]; omega)]
    have m51 := zg_ma5 (σ := σ1) hW hm
    rw [b2 2 0 (by omega), hd] at m51
    have od1 : g_ob (zH E σ1) (zL E 0 d 0) 1 = some () := by simp only [zz_dco (σ := σ1) hW hu]
    obtain ⟨σ2, y1, y2⟩ := e1_blocksUsed (E := E) (σ := σ1) (s := -1) (u := 1) hW hu hv hn hR1 (by omega) (by omega) (by omega) (by omega)
    have ok := zQu_ok (c := nSp n (-1) 1) (w := w) s1.1 (by omega) (by omega) (by omega)
    have := hK (zH E σ2) ⟨nm, E, σ2, d, t, c, U, hh, V, hO, hC.v (fv1.tr (zFv.f y2)), rfl, rfl, by rw [(fv1.tr (zFv.f y2)) 2 (by omega) 0 1]; exact hu1⟩
    rw [if_neg c0] at this
    exact ⟨_, m51, (), od1, _, y1, ok.1, this⟩
/-- with what has been fed so far: u bytes, b -/
def yCb (A : gH) (o : Nat) (n : zN) (b : Int → Int) (u : Int) : Prop := ∃ nm E σ d t c U h V, zOk E ∧ zCL nm E σ d t n c U h V ∧ A = zH E σ ∧ o = zL E 2 0 0 ∧ σ 2 0 1 1 = u ∧ zTc σ b u ∧ 0 ≤ u
theorem yCo.b (h : yCo A o n) (b : Int → Int) : yCb A o n b 0 := by
  obtain ⟨nm, E, σ, d, t, c, U, hh, V, hO, hC, rfl, rfl, hu1⟩ := h
  exact ⟨nm, E, σ, d, t, c, U, hh, V, hO, hC, rfl, rfl, hu1, ⟨by omega, fun i i0 i1 => by omega⟩, by omega⟩
theorem yCb.ob {b : Int → Int} {u : Int} (h : yCb A o n b u) : g_ob A o 9 = some () := by
  obtain ⟨nm, E, σ, d, t, c, U, hh, V, hO, hC, rfl, rfl, _⟩ := h
  have m := zz_mao (σ := σ) hO.1 hO.m
  simp only [m]
theorem k_append {b : Int → Int} {u : Int} (h : yCb A o n b u) (hu : u + 20 ≤ 600) (x1 x2 x3 x4 x5 : Int32) : ∃ q, f_X9_append A o x1 x2 x3 x4 x5 = some q ∧ q.2 = zI (u + 20) ∧ yCb q.1 o n (zb20 b u x1 x2 x3 x4 x5) (u + 20) := by
  obtain ⟨nm, E, σ, d, t, c, U, hh, V, hO, hC, rfl, rfl, hu1, hT, hu0⟩ := h
  obtain ⟨σ', p1, p2, p3⟩ := e9_append hO.1 hO.m hT hu1 hu0 (by omega) x1 x2 x3 x4 x5
  rw [if_pos hu] at p1 p3
  refine ⟨_, p1, rfl, nm, E, σ', d, t, c, U, hh, V, hO, ?_, rfl, rfl, p3.2, p3.1, by omega⟩
  obtain ⟨hD, hS, ⟨o, r1, r2, r3, r4, r5, r6, r7⟩, hV⟩ := hC
  have g0 : ∀ s, σ' 0 s = σ 0 s := fun s => funext fun c' => p2 0 s c' (by omega)
  have g2 : ∀ c', c' ≠ 1 → c' ≠ 2 → σ' 2 0 c' = σ 2 0 c' := fun c' h1 h2 => p2 2 0 c' (by omega)
  refine ⟨hD.cg (by rw [g2 _ (by omega) (by omega)]) (by rw [g2 _ (by omega) (by omega)]) (fun c' hc => g2 c' (by omega) (by omega)), hS.cg (g0 d), ⟨o, by rw [g2 _ (by omega) (by omega)]; exact r1, r2, r3, by rw [g2 _ (by omega) (by omega)]; exact r4, r5, r6, fun k k0 k1 => ?_⟩, fun j j0 j1 => ?_⟩
  · obtain ⟨s, q1, q2⟩ := r7 k k0 k1
    exact ⟨s, by rw [g2 _ (by omega) (by omega)]; exact q1, q2.cg (g0 s)⟩
  · obtain ⟨v1, v2⟩ := hV j j0 j1
    refine ⟨by rw [g2 _ (by omega) (by omega)]; exact v1, fun hh => ?_⟩
    obtain ⟨s, q1, q2⟩ := v2 hh
    exact ⟨s, by rw [g2 _ (by omega) (by omega)]; exact q1, q2.cg (g0 s)⟩
theorem k_parse {b : Int → Int} {u : Int} (h : yCb A o n b u) {x N S : Int} (x0 : 0 ≤ x) (x1 : x ≤ u) (hB' : hB b x = N) (hS' : hS b x = S) (he : (eTxt b x (nFm N S)).1 = 0) {KX : String → gH → Prop} {K : Int32 → gH → Prop} (hK : ∀ A', yCo A' o (nTxt b x (nFm N S)) → K (zI 0) A') : w_X9_parse A o (zI x) KX K := by
  obtain ⟨nm, E, σ, d, t, c, U, hh, V, hO, hC, rfl, rfl, hu1, hT, hu0⟩ := h
  have hu6 := hT.1
  refine c9_parse hO hC hT hu1 hu0 (by omega) (by omega) (m := nFm N S) (fun i _ _ => by rw [hB', hS']) ?_
  rw [if_pos ⟨x0, x1⟩]
  intro σ' _ f1 _ _ f2
  rw [he]
  exact hK _ ⟨_, E, σ', t, d, 0, U, _, V, hO, f2 he (fun k => zw8 (wTxt b x (nFm N S) k)) U (fun _ => false) V (fun _ _ _ => rfl) (fun _ => rfl), rfl, rfl, f1⟩
end yT


/-! The relation of the two objects; the calls that only read. -/
def zTx (σ : zW) (u : Int) (b : Int → Int) : Prop := σ 2 0 1 1 = u ∧ σ 3 0 0 4 = u ∧ zTc σ b u ∧ zTm σ b u ∧ σ 2 0 3 1 = σ 3 0 0 12
theorem zTx.cg {σ σ' : zW} {u : Int} {b : Int → Int} (h : zTx σ u b) (e1 : σ' 2 0 1 = σ 2 0 1) (e2 : σ' 2 0 2 = σ 2 0 2) (e3 : σ' 2 0 3 = σ 2 0 3) (e4 : σ' 3 0 0 4 = σ 3 0 0 4) (e5 : σ' 3 0 3 = σ 3 0 3) (e6 : σ' 3 0 0 12 = σ 3 0 0 12) : zTx σ' u b :=
  ⟨by rw [e1]; exact h.1, e4.trans h.2.1, h.2.2.1.cg e2, h.2.2.2.1.cg e5, by rw [e3, e6]; exact h.2.2.2.2⟩
def zAd (ax am ao : Nat) (E : zE) : Prop := zL E 2 0 0 = ax ∧ zL E 3 0 0 = am ∧ zL E 4 0 0 = ao
theorem zAd.gr {ax am ao : Nat} {E E' : zE} (h : zAd ax am ao E) (hO : zOk E) (g : zGr E E') : zAd ax am ao E' := ⟨(g.2 2 0 0 hO.m).trans h.1, (g.2 3 0 0 hO.2.2.1).trans h.2.1, (g.2 4 0 0 hO.2.2.2.1).trans h.2.2⟩
def zRl (ax am ao : Nat) (E : zE) (σ : zW) (d t : Nat) (c : Int) (U : Int → zN) (h : Int → Bool) (V : Int → zN) (u : Int) (b : Int → Int) : Prop := zOk E ∧ zAd ax am ao E ∧ zCL (σ 3 0 2) E σ d t (σ 3 0 1) c U h V ∧ zUn σ c U ∧ zSn σ h V ∧ zTx σ u b
def zRel (ax am ao : Nat) (E : zE) (σ : zW) : Prop := ∃ d t c U h V u b, zRl ax am ao E σ d t c U h V u b
theorem zSn.cg {σ σ' : zW} {h : Int → Bool} {V : Int → zN} (hs : zSn σ h V) (e6 : σ' 3 0 26 = σ 3 0 26) (e7 : σ' 3 0 27 = σ 3 0 27) : zSn σ' h V := by
  unfold zSn at *
  rw [e6, e7]
  exact hs
section zRl
variable {ax am ao : Nat} {E : zE} {σ σ' : zW} {d t : Nat} {c : Int} {U : Int → zN} {h : Int → Bool} {V : Int → zN} {u : Int} {b : Int → Int}
/-- what the relation speaks of has stayed -/
def zSm2 (σ σ' : zW) : Prop := (∀ d c, σ' 0 d c = σ 0 d c) ∧ (∀ c, σ' 2 0 c = σ 2 0 c) ∧ (∀ c, c ∈ [1, 2, 3, 25, 26, 27] → σ' 3 0 c = σ 3 0 c) ∧ (∀ i, i = 4 ∨ i = 12 ∨ i = 24 → σ' 3 0 0 i = σ 3 0 0 i)
theorem zSm2.tr {σ1 σ2 : zW} (h : zSm2 σ σ1) (h2 : zSm2 σ1 σ2) : zSm2 σ σ2 := ⟨fun d c => (h2.1 d c).trans (h.1 d c), fun c => (h2.2.1 c).trans (h.2.1 c), fun c z => (h2.2.2.1 c z).trans (h.2.2.1 c z), fun i z => (h2.2.2.2 i z).trans (h.2.2.2 i z)⟩
theorem zRl.cg (hr : zRl ax am ao E σ d t c U h V u b) (f : zSm2 σ σ') : zRl ax am ao E σ' d t c U h V u b := by
  obtain ⟨hO, hA, hC, hU, hS, hT⟩ := hr
  obtain ⟨f0, f2, f3, f30⟩ := f
  have c3 : ∀ c, c ∈ [1, 2, 3, 25, 26, 27] → σ' 3 0 c = σ 3 0 c := f3
  refine ⟨hO, hA, ?_, hU.cg (f30 24 (by omega)) (c3 25 (by simp)), hS.cg (c3 26 (by simp)) (c3 27 (by simp)), hT.cg (f2 1) (f2 2) (f2 3) (f30 4 (by omega)) (c3 3 (by simp)) (f30 12 (by omega))⟩
  rw [c3 1 (by simp), c3 2 (by simp)]
  exact hC.z f0 f2
theorem zSm2.v (f : zFv σ σ') : zSm2 σ σ' := ⟨fun d c => f 0 (by omega) d c, fun c => f 2 (by omega) 0 c, fun c _ => f 3 (by omega) 0 c, fun i _ => by rw [f 3 (by omega) 0 0]⟩
theorem zSm2.o {v : Int} : zSm2 σ (zs σ 4 0 0 0 v) := ⟨fun d c => zs_ne (by omega), fun c => zs_ne (by omega), fun c _ => zs_ne (by omega), fun i _ => by rw [zs_ne (by omega)]⟩
theorem zSm2.th {e : Int} (f : zT σ σ' e) : zSm2 σ σ' := ⟨fun d c => f.1 0 d c (by omega), fun c => f.1 2 0 c (by omega), fun c z => f.1 3 0 c (by simp at z; omega), fun i z => f.2.1 i (by omega) (by omega) (by omega) (by omega) (by omega)⟩
/-- a heap that both objects share, in step -/
def zGd (ax am ao : Nat) (G : gH) : Prop := ∃ E σ, G = zH E σ ∧ zRel ax am ao E σ
/-- after the class's call at a wrapper that has answered k: the reference's call answers alike -/
def zPo (ax am ao : Nat) (f : gH → Option (gH × Int32)) (k : Int32) (G1 : gH) : Prop := ∃ G2 r, g_ob G1 am 10 = some () ∧ f G1 = some (G2, r) ∧ f_X10_thrown G2 am = some k ∧ (k = 0 → g_lald G2 ao (0 : Int32) = some r.toInt64) ∧ zGd ax am ao G2
/-- the same where the answer is a truth -/
def zPz (ax am ao : Nat) (f : gH → Option (gH × Int32)) (k : Int32) (G1 : gH) : Prop := ∃ G2 r, g_ob G1 am 10 = some () ∧ f G1 = some (G2, r) ∧ f_X10_thrown G2 am = some k ∧ (k = 0 → g_lald G2 ao (0 : Int32) = some (if r = 0 then (0 : Int64) else 1)) ∧ zGd ax am ao G2
def w_Li (W : (String → gH → Prop) → (Int32 → gH → Prop) → Prop) (ao : Nat) (ex : List (String × Int32)) (K : Int32 → gH → Prop) : Prop := W (fun E G => ∃ p ∈ ex, p.1 = E ∧ K p.2 G) (fun r G => ∃ G1, g_last G ao (0 : Int32) r.toInt64 = some G1 ∧ K 0 G1)
def w_Lz (W : (String → gH → Prop) → (Int32 → gH → Prop) → Prop) (ao : Nat) (ex : List (String × Int32)) (K : Int32 → gH → Prop) : Prop := W (fun E G => ∃ p ∈ ex, p.1 = E ∧ K p.2 G) (fun r G => ∃ G1, g_last G ao (0 : Int32) (if r = 0 then (0 : Int64) else 1) = some G1 ∧ K 0 G1)
theorem i32 (a : Int32) : ∃ x : Int, -2147483648 ≤ x ∧ x < 2147483648 ∧ a = zI x := ⟨a.toInt, Int32.le_toInt a, Int32.toInt_lt a, (Int32.ofInt_toInt a).symm⟩
theorem e10_thrown (hW : zWF E) (hm : zU E 3 0 = true) : f_X10_thrown (zH E σ) (zL E 3 0 0) = some (zI (σ 3 0 0 0)) := by
  simp (disch := first | assumption | omega) only [f_X10_thrown, zg_md0 hW hm, zz_some, zz_lit, zz_num, zI_lt, zI_le, zI_eq, zI_nat, zz_b, if_pos, if_neg, if_true, if_false]
theorem zob (hO : zOk E) (hA : zAd ax am ao E) : g_ob (zH E σ) am 10 = some () ∧ g_ob (zH E σ) ax 9 = some () := by
  rw [← hA.1, ← hA.2.1]
  have a := zz_mdo (σ := σ) hO.1 hO.2.2.1
  have b := zz_mao (σ := σ) hO.1 hO.m
  exact ⟨by simp only [a], by simp only [b]⟩
theorem zGd.ob {G : gH} (h : zGd ax am ao G) : g_ob G am 10 = some () ∧ g_ob G ax 9 = some () := by
  obtain ⟨E, σ, rfl, d, t, c, U, h, V, u, b, hr⟩ := h
  exact zob hr.1 hr.2.1
theorem zPo.ok {f : gH → Option (gH × Int32)} {r : Int32} {E' : zE} {τ : zW} (hO : zOk E') (hA : zAd ax am ao E') (hf : ∀ v : Int, ∃ σ2, f (zH E' (zs τ 4 0 0 0 v)) = some (zH E' σ2, r) ∧ σ2 3 0 0 0 = 0 ∧ σ2 4 0 0 = (zs τ 4 0 0 0 v) 4 0 0 ∧ zRel ax am ao E' σ2) : ∃ G1, g_last (zH E' τ) ao (0 : Int32) r.toInt64 = some G1 ∧ zPo ax am ao f 0 G1 := by
  obtain ⟨σ2, f1, f2, f3, f4⟩ := hf r.toInt64.toInt
  have ls := zLast (σ := τ) (n := 1) hO.1 hO.2.2.2.1 (k := 4) (d := 0) (c := 0) rfl (by decide) (i := 0) (v := r.toInt64.toInt) (by omega) (by omega)
  rw [zJ_of, hA.2.2] at ls
  have la := zLald (σ := σ2) (n := 1) hO.1 hO.2.2.2.1 (k := 4) (d := 0) (c := 0) rfl (by decide) (i := 0) (by omega) (by omega)
  rw [f3, zs_at, if_pos rfl, zJ_of, hA.2.2] at la
  have th := e10_thrown (σ := σ2) hO.1 hO.2.2.1
  rw [f2, hA.2.1] at th
  exact ⟨_, ls, _, r, (zob hO hA).1, f1, th, fun _ => la, E', σ2, rfl, f4⟩
theorem zPz.ok {f : gH → Option (gH × Int32)} {r : Int32} {E' : zE} {τ : zW} (hO : zOk E') (hA : zAd ax am ao E') (hf : ∀ v : Int, ∃ σ2, f (zH E' (zs τ 4 0 0 0 v)) = some (zH E' σ2, r) ∧ σ2 3 0 0 0 = 0 ∧ σ2 4 0 0 = (zs τ 4 0 0 0 v) 4 0 0 ∧ zRel ax am ao E' σ2) : ∃ G1, g_last (zH E' τ) ao (0 : Int32) (if r = 0 then (0 : Int64) else 1) = some G1 ∧ zPz ax am ao f 0 G1 := by
  obtain ⟨w, hw⟩ : ∃ w : Int64, w = if r = 0 then (0 : Int64) else 1 := ⟨_, rfl⟩
  obtain ⟨σ2, f1, f2, f3, f4⟩ := hf w.toInt
  have ls := zLast (σ := τ) (n := 1) hO.1 hO.2.2.2.1 (k := 4) (d := 0) (c := 0) rfl (by decide) (i := 0) (v := w.toInt) (by omega) (by omega)
  rw [zJ_of, hA.2.2] at ls
  have la := zLald (σ := σ2) (n := 1) hO.1 hO.2.2.2.1 (k := 4) (d := 0) (c := 0) rfl (by decide) (i := 0) (by omega) (by omega)
  rw [f3, zs_at, if_pos rfl, zJ_of, hA.2.2] at la
  have th := e10_thrown (σ := σ2) hO.1 hO.2.2.1
  rw [f2, hA.2.1] at th
  rw [← hw]
  exact ⟨_, ls, _, r, (zob hO hA).1, f1, th, fun _ => by rw [← hw]; exact la, E', σ2, rfl, f4⟩
theorem zPo.no {f : gH → Option (gH × Int32)} {r : Int32} {E' : zE} {τ σ2 : zW} {e : Int} (hO : zOk E') (hA : zAd ax am ao E') (he : e = 1 ∨ e = 2 ∨ e = 3) (f1 : f (zH E' τ) = some (zH E' σ2, r)) (f2 : σ2 3 0 0 0 = e) (f4 : zRel ax am ao E' σ2) : zPo ax am ao f (zI e) (zH E' τ) := by
  have th := e10_thrown (σ := σ2) hO.1 hO.2.2.1
  rw [f2, hA.2.1] at th
  refine ⟨_, r, (zob hO hA).1, f1, th, fun z => ?_, E', σ2, rfl, f4⟩
  exfalso
  rcases he with rfl | rfl | rfl <;> exact absurd z (by decide)
theorem zPz.no {f : gH → Option (gH × Int32)} {r : Int32} {E' : zE} {τ σ2 : zW} {e : Int} (hO : zOk E') (hA : zAd ax am ao E') (he : e = 1 ∨ e = 2 ∨ e = 3) (f1 : f (zH E' τ) = some (zH E' σ2, r)) (f2 : σ2 3 0 0 0 = e) (f4 : zRel ax am ao E' σ2) : zPz ax am ao f (zI e) (zH E' τ) := by
  have th := e10_thrown (σ := σ2) hO.1 hO.2.2.1
  rw [f2, hA.2.1] at th
  refine ⟨_, r, (zob hO hA).1, f1, th, fun z => ?_, E', σ2, rfl, f4⟩
  exfalso
  rcases he with rfl | rfl | rfl <;> exact absurd z (by decide)
/-- a reading call that has answered -/
theorem zRl.rd (hr : zRl ax am ao E σ d t c U h V u b) {f : gH → Option (gH × Int32)} {r : Int32} (fv : zFv σ σ') (hf : ∀ τ : zW, τ 3 0 1 = σ 3 0 1 → τ 3 0 0 24 = σ 3 0 0 24 → ∃ σ2, f (zH E τ) = some (zH E σ2, r) ∧ zT τ σ2 0) : ∃ G1, g_last (zH E σ') ao (0 : Int32) r.toInt64 = some G1 ∧ zPo ax am ao f 0 G1 := by
  refine zPo.ok hr.1 hr.2.1 fun v => ?_
  obtain ⟨σ2, f1, f2⟩ := hf (zs σ' 4 0 0 0 v) (by rw [zs_ne (by omega), fv 3 (by omega) 0 1]) (by rw [zs_ne (by omega), fv 3 (by omega) 0 0])
  exact ⟨σ2, f1, f2.2.2, f2.1 4 0 0 (by omega), d, t, c, U, h, V, u, b, hr.cg (((zSm2.v fv).tr zSm2.o).tr (zSm2.th f2))⟩
/-- a call that has been refused -/
theorem zRl.rf (hr : zRl ax am ao E σ d t c U h V u b) {f : gH → Option (gH × Int32)} {r : Int32} {e : Int} (he : e = 1 ∨ e = 2 ∨ e = 3) (fv : zFv σ σ') (hf : ∃ σ2, f (zH E σ') = some (zH E σ2, r) ∧ zT σ' σ2 e) : zPo ax am ao f (zI e) (zH E σ') := by
  obtain ⟨σ2, f1, f2⟩ := hf
  exact zPo.no hr.1 hr.2.1 he f1 f2.2.2 ⟨d, t, c, U, h, V, u, b, hr.cg ((zSm2.v fv).tr (zSm2.th f2))⟩
theorem zRl.rfz (hr : zRl ax am ao E σ d t c U h V u b) {f : gH → Option (gH × Int32)} {r : Int32} {e : Int} (he : e = 1 ∨ e = 2 ∨ e = 3) (fv : zFv σ σ') (hf : ∃ σ2, f (zH E σ') = some (zH E σ2, r) ∧ zT σ' σ2 e) : zPz ax am ao f (zI e) (zH E σ') := by
  obtain ⟨σ2, f1, f2⟩ := hf
  exact zPz.no hr.1 hr.2.1 he f1 f2.2.2 ⟨d, t, c, U, h, V, u, b, hr.cg ((zSm2.v fv).tr (zSm2.th f2))⟩
end zRl
section zCal
variable {ax am ao : Nat} {G : gH}

theorem L_size (h : zGd ax am ao G) (qx : Int32) : w_Li (fun KX K => w_X9_size G ax qx KX K) ao [(g_xIAE, 1)] (zPo ax am ao (fun G => f_X10_size G am qx)) := by
  obtain ⟨E, σ, rfl, d, t, c, U, hh, V, u, b, hr⟩ := h
  obtain ⟨x, hx0, hx1, rfl⟩ := i32 qx
  obtain ⟨_, hu, hv, hR, hn, hd⟩ := zCL.fs hr.1 hr.2.2.1
  have hO := hr.1
  have hW := hO.1
  have hm := hO.m
  have hm3 := hO.2.2.1
  obtain ⟨rfl, rfl, rfl⟩ := id hr.2.1
  have mod : ∀ τ : zW, τ 3 0 1 = σ 3 0 1 → _ := fun τ hτ => e10_size (E := E) (σ := τ) hW hm3 hτ hn hx0 hx1
  have hcnt : σ 2 0 4 0 = σ 3 0 0 24 := by
    obtain ⟨o, r1, r2, r3, r4, _⟩ := hr.2.2.1.2.2.1
    rw [r4, hr.2.2.2.1.1]
  unfold w_Li
  refine c9_size hW hm hd hu hv hR hn hcnt hx0 hx1 ?_
  by_cases c1 : 0 ≤ x ∧ x ≤ 12
  · rw [if_pos c1]
    intro σ' fv
    refine hr.rd fv fun τ e1 e24 => ?_
    have q := mod τ e1
    simp only [if_pos c1] at q
    rw [e24] at q
    exact q
  · rw [if_neg c1]
    have q := mod σ rfl
    simp only [if_neg c1] at q
    refine ⟨(g_xIAE, 1), by simp, rfl, ?_⟩
    exact hr.rf (e := 1) (by omega) zFv.rf q
theorem L_block (h : zGd ax am ao G) (qy qx : Int32) : w_Li (fun KX K => w_X9_block G ax qy qx KX K) ao [(g_xIOB, 1), (g_xIAE, 2)] (zPo ax am ao (fun G => f_X10_block G am qy qx)) := by
  obtain ⟨E, σ, rfl, d, t, c, U, hh, V, u, b, hr⟩ := h
  obtain ⟨y, hy0, hy1, rfl⟩ := i32 qy
  obtain ⟨x, hx0, hx1, rfl⟩ := i32 qx
  obtain ⟨_, hu, hv, hR, hn, hd⟩ := zCL.fs hr.1 hr.2.2.1
  have hO := hr.1
  have hW := hO.1
  have hm := hO.m
  have hm3 := hO.2.2.1
  obtain ⟨rfl, rfl, rfl⟩ := id hr.2.1
  have mod : ∀ τ : zW, τ 3 0 1 = σ 3 0 1 → _ := fun τ hτ => e10_block (E := E) (σ := τ) hW hm3 hτ hn hx0 hx1 hy0 hy1
  unfold w_Li
  refine c9_block hW hm hd hu hv hR hn hy0 hy1 hx0 hx1 ?_
  by_cases c1 : 0 ≤ y ∧ y < σ 3 0 1 0
  · rw [if_pos c1]
    by_cases c2 : 0 ≤ x ∧ x ≤ 6
    · rw [if_pos c2]
      intro σ' fv
      refine hr.rd fv fun τ e1 e24 => ?_
      have q := mod τ e1
      simp only [if_pos c1, if_pos c2] at q
      skip
      exact q
    · rw [if_neg c2]
      have q := mod σ rfl
      simp only [if_pos c1, if_neg c2] at q
      refine ⟨(g_xIAE, 2), by simp, rfl, ?_⟩
      exact hr.rf (e := 2) (by omega) zFv.rf q
  · rw [if_neg c1]
    have q := mod σ rfl
    simp only [if_neg c1] at q
    refine ⟨(g_xIOB, 1), by simp, rfl, ?_⟩
    exact hr.rf (e := 1) (by omega) zFv.rf q
theorem L_place (h : zGd ax am ao G) (qy : Int32) : w_Li (fun KX K => w_X9_place G ax qy KX K) ao [(g_xIOB, 1)] (zPo ax am ao (fun G => f_X10_place G am qy)) := by
  obtain ⟨E, σ, rfl, d, t, c, U, hh, V, u, b, hr⟩ := h
  obtain ⟨y, hy0, hy1, rfl⟩ := i32 qy
  obtain ⟨_, hu, hv, hR, hn, hd⟩ := zCL.fs hr.1 hr.2.2.1
  have hO := hr.1
  have hW := hO.1
  have hm := hO.m
  have hm3 := hO.2.2.1
  obtain ⟨rfl, rfl, rfl⟩ := id hr.2.1
  have mod : ∀ τ : zW, τ 3 0 1 = σ 3 0 1 → _ := fun τ hτ => e10_place (E := E) (σ := τ) hW hm3 hτ hn hy0 hy1
  unfold w_Li
  refine c9_place hW hm hd hu hv hR hn hy0 hy1 ?_
  by_cases c1 : 0 ≤ y ∧ y < σ 3 0 1 0
  · rw [if_pos c1]
    intro σ' fv
    refine hr.rd fv fun τ e1 e24 => ?_
    have q := mod τ e1
    simp only [if_pos c1] at q
    skip
    exact q
  · rw [if_neg c1]
    have q := mod σ rfl
    simp only [if_neg c1] at q
    refine ⟨(g_xIOB, 1), by simp, rfl, ?_⟩
    exact hr.rf (e := 1) (by omega) zFv.rf q
theorem L_session (h : zGd ax am ao G) (qy qx : Int32) : w_Li (fun KX K => w_X9_session G ax qy qx KX K) ao [(g_xIOB, 1), (g_xIAE, 2)] (zPo ax am ao (fun G => f_X10_session G am qy qx)) := by
  obtain ⟨E, σ, rfl, d, t, c, U, hh, V, u, b, hr⟩ := h
  obtain ⟨y, hy0, hy1, rfl⟩ := i32 qy
  obtain ⟨x, hx0, hx1, rfl⟩ := i32 qx
  obtain ⟨_, hu, hv, hR, hn, hd⟩ := zCL.fs hr.1 hr.2.2.1
  have hO := hr.1
  have hW := hO.1
  have hm := hO.m
  have hm3 := hO.2.2.1
  obtain ⟨rfl, rfl, rfl⟩ := id hr.2.1
  have mod : ∀ τ : zW, τ 3 0 1 = σ 3 0 1 → _ := fun τ hτ => e10_session (E := E) (σ := τ) hW hm3 hτ hn hx0 hx1 hy0 hy1
  unfold w_Li
  refine c9_session hW hm hd hu hv hR hn hy0 hy1 hx0 hx1 ?_
  by_cases c1 : 0 ≤ y ∧ y < σ 3 0 1 3
  · rw [if_pos c1]
    by_cases c2 : 0 ≤ x ∧ x ≤ 8
    · rw [if_pos c2]
      intro σ' fv
      refine hr.rd fv fun τ e1 e24 => ?_
      have q := mod τ e1
      simp only [if_pos c1, if_pos c2] at q
      skip
      exact q
    · rw [if_neg c2]
      have q := mod σ rfl
      simp only [if_pos c1, if_neg c2] at q
      refine ⟨(g_xIAE, 2), by simp, rfl, ?_⟩
      exact hr.rf (e := 2) (by omega) zFv.rf q
  · rw [if_neg c1]
    have q := mod σ rfl
    simp only [if_neg c1] at q
    refine ⟨(g_xIOB, 1), by simp, rfl, ?_⟩
    exact hr.rf (e := 1) (by omega) zFv.rf q
theorem L_entry (h : zGd ax am ao G) (qy qz qx : Int32) : w_Li (fun KX K => w_X9_entry G ax qy qz qx KX K) ao [(g_xIOB, 1), (g_xIAE, 2)] (zPo ax am ao (fun G => f_X10_entry G am qy qz qx)) := by
  obtain ⟨E, σ, rfl, d, t, c, U, hh, V, u, b, hr⟩ := h
  obtain ⟨y, hy0, hy1, rfl⟩ := i32 qy
  obtain ⟨z, hz0, hz1, rfl⟩ := i32 qz
  obtain ⟨x, hx0, hx1, rfl⟩ := i32 qx
  obtain ⟨_, hu, hv, hR, hn, hd⟩ := zCL.fs hr.1 hr.2.2.1
  have hO := hr.1
  have hW := hO.1
  have hm := hO.m
  have hm3 := hO.2.2.1
  obtain ⟨rfl, rfl, rfl⟩ := id hr.2.1
  have mod : ∀ τ : zW, τ 3 0 1 = σ 3 0 1 → _ := fun τ hτ => e10_entry (E := E) (σ := τ) hW hm3 hτ hn hx0 hx1 hy0 hy1 hz0 hz1
  unfold w_Li
  refine c9_entry hW hm hd hu hv hR hn hy0 hy1 hx0 hx1 hz0 hz1 ?_
  by_cases c1 : 0 ≤ y ∧ y < σ 3 0 1 3
  · rw [if_pos c1]
    by_cases c2 : 0 ≤ x ∧ x ≤ 4
    · rw [if_pos c2]
      intro σ' fv
      refine hr.rd fv fun τ e1 e24 => ?_
      have q := mod τ e1
      simp only [if_pos c1, if_pos c2] at q
      skip
      exact q
    · rw [if_neg c2]
      have q := mod σ rfl
      simp only [if_pos c1, if_neg c2] at q
      refine ⟨(g_xIAE, 2), by simp, rfl, ?_⟩
      exact hr.rf (e := 2) (by omega) zFv.rf q
  · rw [if_neg c1]
    have q := mod σ rfl
    simp only [if_neg c1] at q
    refine ⟨(g_xIOB, 1), by simp, rfl, ?_⟩
    exact hr.rf (e := 1) (by omega) zFv.rf q
theorem L_file (h : zGd ax am ao G) (qy qx : Int32) : w_Li (fun KX K => w_X9_file G ax qy qx KX K) ao [(g_xIOB, 1), (g_xIAE, 2)] (zPo ax am ao (fun G => f_X10_file G am qy qx)) := by
  obtain ⟨E, σ, rfl, d, t, c, U, hh, V, u, b, hr⟩ := h
  obtain ⟨y, hy0, hy1, rfl⟩ := i32 qy
  obtain ⟨x, hx0, hx1, rfl⟩ := i32 qx
  obtain ⟨_, hu, hv, hR, hn, hd⟩ := zCL.fs hr.1 hr.2.2.1
  have hO := hr.1
  have hW := hO.1
  have hm := hO.m
  have hm3 := hO.2.2.1
  obtain ⟨rfl, rfl, rfl⟩ := id hr.2.1
  have mod : ∀ τ : zW, τ 3 0 1 = σ 3 0 1 → _ := fun τ hτ => e10_file (E := E) (σ := τ) hW hm3 hτ hn hx0 hx1 hy0 hy1
  unfold w_Li
  refine c9_file hW hm hd hu hv hR hn hy0 hy1 hx0 hx1 ?_
  by_cases c1 : 0 ≤ y ∧ y < σ 3 0 1 2
  · rw [if_pos c1]
    by_cases c2 : 0 ≤ x ∧ x ≤ 6
    · rw [if_pos c2]
      intro σ' fv
      refine hr.rd fv fun τ e1 e24 => ?_
      have q := mod τ e1
      simp only [if_pos c1, if_pos c2] at q
      skip
      exact q
    · rw [if_neg c2]
      have q := mod σ rfl
      simp only [if_pos c1, if_neg c2] at q
      refine ⟨(g_xIAE, 2), by simp, rfl, ?_⟩
      exact hr.rf (e := 2) (by omega) zFv.rf q
  · rw [if_neg c1]
    have q := mod σ rfl
    simp only [if_neg c1] at q
    refine ⟨(g_xIOB, 1), by simp, rfl, ?_⟩
    exact hr.rf (e := 1) (by omega) zFv.rf q
theorem L_where (h : zGd ax am ao G) (qy qz : Int32) : w_Li (fun KX K => w_X9_where G ax qy qz KX K) ao [(g_xIOB, 1)] (zPo ax am ao (fun G => f_X10_where G am qy qz)) := by
  obtain ⟨E, σ, rfl, d, t, c, U, hh, V, u, b, hr⟩ := h
  obtain ⟨y, hy0, hy1, rfl⟩ := i32 qy
  obtain ⟨z, hz0, hz1, rfl⟩ := i32 qz
  obtain ⟨_, hu, hv, hR, hn, hd⟩ := zCL.fs hr.1 hr.2.2.1
  have hO := hr.1
  have hW := hO.1
  have hm := hO.m
  have hm3 := hO.2.2.1
  obtain ⟨rfl, rfl, rfl⟩ := id hr.2.1
  have mod : ∀ τ : zW, τ 3 0 1 = σ 3 0 1 → _ := fun τ hτ => e10_where (E := E) (σ := τ) hW hm3 hτ hn hy0 hy1 hz0 hz1
  unfold w_Li
  refine c9_where hW hm hd hu hv hR hn hy0 hy1 hz0 hz1 ?_
  by_cases c1 : 0 ≤ y ∧ y < σ 3 0 1 2
  · rw [if_pos c1]
    intro σ' fv
    refine hr.rd fv fun τ e1 e24 => ?_
    have q := mod τ e1
    simp only [if_pos c1] at q
    skip
    exact q
  · rw [if_neg c1]
    have q := mod σ rfl
    simp only [if_neg c1] at q
    refine ⟨(g_xIOB, 1), by simp, rfl, ?_⟩
    exact hr.rf (e := 1) (by omega) zFv.rf q
theorem L_whyNotWrite (h : zGd ax am ao G) (qy qx : Int32) : w_Li (fun KX K => w_X9_whyNotWrite G ax qy qx KX K) ao [(g_xIOB, 1), (g_xIAE, 2)] (zPo ax am ao (fun G => f_X10_whyNotWrite G am qy qx)) := by
  obtain ⟨E, σ, rfl, d, t, c, U, hh, V, u, b, hr⟩ := h
  obtain ⟨y, hy0, hy1, rfl⟩ := i32 qy
  obtain ⟨x, hx0, hx1, rfl⟩ := i32 qx
  obtain ⟨_, hu, hv, hR, hn, hd⟩ := zCL.fs hr.1 hr.2.2.1
  have hO := hr.1
  have hW := hO.1
  have hm := hO.m
  have hm3 := hO.2.2.1
  obtain ⟨rfl, rfl, rfl⟩ := id hr.2.1
  have mod : ∀ τ : zW, τ 3 0 1 = σ 3 0 1 → _ := fun τ hτ => e10_whyNotWrite (E := E) (σ := τ) hW hm3 hτ hn hx0 hx1 hy0 hy1
  unfold w_Li
  refine c9_whyNotWrite hW hm hd hu hv hR hn hy0 hy1 hx0 hx1 ?_
  by_cases c1 : 0 ≤ y ∧ y < σ 3 0 1 2
  · rw [if_pos c1]
    by_cases c2 : 1 ≤ x ∧ x ≤ 8
    · rw [if_pos c2]
      intro σ' fv
      refine hr.rd fv fun τ e1 e24 => ?_
      have q := mod τ e1
      simp only [if_pos c1, if_pos c2] at q
      skip
      exact q
    · rw [if_neg c2]
      have q := mod σ rfl
      simp only [if_pos c1, if_neg c2] at q
      refine ⟨(g_xIAE, 2), by simp, rfl, ?_⟩
      exact hr.rf (e := 2) (by omega) zFv.rf q
  · rw [if_neg c1]
    have q := mod σ rfl
    simp only [if_neg c1] at q
    refine ⟨(g_xIOB, 1), by simp, rfl, ?_⟩
    exact hr.rf (e := 1) (by omega) zFv.rf q
theorem L_whyNot (h : zGd ax am ao G) (qx : Int32) : w_Li (fun KX K => w_X9_whyNot G ax qx KX K) ao [(g_xIAE, 1)] (zPo ax am ao (fun G => f_X10_whyNot G am qx)) := by
  obtain ⟨E, σ, rfl, d, t, c, U, hh, V, u, b, hr⟩ := h
  obtain ⟨x, hx0, hx1, rfl⟩ := i32 qx
  obtain ⟨_, hu, hv, hR, hn, hd⟩ := zCL.fs hr.1 hr.2.2.1
  have hO := hr.1
  have hW := hO.1
  have hm := hO.m
  have hm3 := hO.2.2.1
  obtain ⟨rfl, rfl, rfl⟩ := id hr.2.1
  have mod : ∀ τ : zW, τ 3 0 1 = σ 3 0 1 → _ := fun τ hτ => e10_whyNot (E := E) (σ := τ) hW hm3 hτ hn hx0 hx1
  unfold w_Li
  refine c9_whyNot hW hm hd hu hv hR hn hx0 hx1 ?_
  by_cases c1 : 0 ≤ x ∧ x ≤ 2
  · rw [if_pos c1]
    intro σ' fv
    refine hr.rd fv fun τ e1 e24 => ?_
    have q := mod τ e1
    simp only [if_pos c1] at q
    skip
    exact q
  · rw [if_neg c1]
    have q := mod σ rfl
    simp only [if_neg c1] at q
    refine ⟨(g_xIAE, 1), by simp, rfl, ?_⟩
    exact hr.rf (e := 1) (by omega) zFv.rf q
theorem L_risk (h : zGd ax am ao G) (qy : Int32) : w_Li (fun KX K => w_X9_risk G ax qy KX K) ao [(g_xIOB, 1)] (zPo ax am ao (fun G => f_X10_risk G am qy)) := by
  obtain ⟨E, σ, rfl, d, t, c, U, hh, V, u, b, hr⟩ := h
  obtain ⟨y, hy0, hy1, rfl⟩ := i32 qy
  obtain ⟨_, hu, hv, hR, hn, hd⟩ := zCL.fs hr.1 hr.2.2.1
  have hO := hr.1
  have hW := hO.1
  have hm := hO.m
  have hm3 := hO.2.2.1
  obtain ⟨rfl, rfl, rfl⟩ := id hr.2.1
  have mod : ∀ τ : zW, τ 3 0 1 = σ 3 0 1 → _ := fun τ hτ => e10_risk (E := E) (σ := τ) hW hm3 hτ hn hy0 hy1
  unfold w_Li
  refine c9_risk hW hm hd hu hv hR hn hO.2.2.2.2.2.1 (Ne.symm hr.2.2.1.1.1.2.2.2.1) hy0 hy1 ?_
  by_cases c1 : 0 ≤ y ∧ y < σ 3 0 1 0
  · rw [if_pos c1]
    intro σ' fv
    refine hr.rd fv fun τ e1 e24 => ?_
    have q := mod τ e1
    simp only [if_pos c1] at q
    skip
    exact q
  · rw [if_neg c1]
    have q := mod σ rfl
    simp only [if_neg c1] at q
    refine ⟨(g_xIOB, 1), by simp, rfl, ?_⟩
    exact hr.rf (e := 1) (by omega) zFv.rf q
theorem L_filesBefore (h : zGd ax am ao G) (qy : Int32) : w_Li (fun KX K => w_X9_filesBefore G ax qy KX K) ao [(g_xIOB, 1)] (zPo ax am ao (fun G => f_X10_filesBefore G am qy)) := by
  obtain ⟨E, σ, rfl, d, t, c, U, hh, V, u, b, hr⟩ := h
  obtain ⟨y, hy0, hy1, rfl⟩ := i32 qy
  obtain ⟨_, hu, hv, hR, hn, hd⟩ := zCL.fs hr.1 hr.2.2.1
  have hO := hr.1
  have hW := hO.1
  have hm := hO.m
  have hm3 := hO.2.2.1
  obtain ⟨rfl, rfl, rfl⟩ := id hr.2.1
  have mod : ∀ τ : zW, τ 3 0 1 = σ 3 0 1 → _ := fun τ hτ => e10_filesBefore (E := E) (σ := τ) hW hm3 hτ hn hy0 hy1
  unfold w_Li
  refine c9_filesBefore hW hm hd hu hv hR hn hy0 hy1 ?_
  by_cases c1 : 0 ≤ y ∧ y < σ 3 0 1 3
  · rw [if_pos c1]
    intro σ' fv
    refine hr.rd fv fun τ e1 e24 => ?_
    have q := mod τ e1
    simp only [if_pos c1] at q
    skip
    exact q
  · rw [if_neg c1]
    have q := mod σ rfl
    simp only [if_neg c1] at q
    refine ⟨(g_xIOB, 1), by simp, rfl, ?_⟩
    exact hr.rf (e := 1) (by omega) zFv.rf q
theorem L_space (h : zGd ax am ao G) (qx : Int32) : w_Li (fun KX K => w_X9_space G ax qx KX K) ao [(g_xIAE, 1)] (zPo ax am ao (fun G => f_X10_space G am qx)) := by
  obtain ⟨E, σ, rfl, d, t, c, U, hh, V, u, b, hr⟩ := h
  obtain ⟨x, hx0, hx1, rfl⟩ := i32 qx
  obtain ⟨_, hu, hv, hR, hn, hd⟩ := zCL.fs hr.1 hr.2.2.1
  have hO := hr.1
  have hW := hO.1
  have hm := hO.m
  have hm3 := hO.2.2.1
  obtain ⟨rfl, rfl, rfl⟩ := id hr.2.1
  have mod : ∀ τ : zW, τ 3 0 1 = σ 3 0 1 → _ := fun τ hτ => e10_space (E := E) (σ := τ) hW hm3 hτ hn hx0 hx1
  unfold w_Li
  refine c9_space hW hm hd hu hv hR hn hx0 hx1 ?_
  by_cases c1 : 0 ≤ x ∧ x ≤ 4
  · rw [if_pos c1]
    intro σ' fv
    refine hr.rd fv fun τ e1 e24 => ?_
    have q := mod τ e1
    simp only [if_pos c1] at q
    skip
    exact q
  · rw [if_neg c1]
    have q := mod σ rfl
    simp only [if_neg c1] at q
    refine ⟨(g_xIAE, 1), by simp, rfl, ?_⟩
    exact hr.rf (e := 1) (by omega) zFv.rf q
theorem L_spaceOf (h : zGd ax am ao G) (qy qx : Int32) : w_Li (fun KX K => w_X9_spaceOf G ax qy qx KX K) ao [(g_xIOB, 1), (g_xIAE, 2)] (zPo ax am ao (fun G => f_X10_spaceOf G am qy qx)) := by
  obtain ⟨E, σ, rfl, d, t, c, U, hh, V, u, b, hr⟩ := h
  obtain ⟨y, hy0, hy1, rfl⟩ := i32 qy
  obtain ⟨x, hx0, hx1, rfl⟩ := i32 qx
  obtain ⟨_, hu, hv, hR, hn, hd⟩ := zCL.fs hr.1 hr.2.2.1
  have hO := hr.1
  have hW := hO.1
  have hm := hO.m
  have hm3 := hO.2.2.1
  obtain ⟨rfl, rfl, rfl⟩ := id hr.2.1
  have mod : ∀ τ : zW, τ 3 0 1 = σ 3 0 1 → _ := fun τ hτ => e10_spaceOf (E := E) (σ := τ) hW hm3 hτ hn hx0 hx1 hy0 hy1
  unfold w_Li
  refine c9_spaceOf hW hm hd hu hv hR hn hy0 hy1 hx0 hx1 ?_
  by_cases c1 : 0 ≤ y ∧ y < σ 3 0 1 3
  · rw [if_pos c1]
    by_cases c2 : 1 ≤ x ∧ x ≤ 4
    · rw [if_pos c2]
      intro σ' fv
      refine hr.rd fv fun τ e1 e24 => ?_
      have q := mod τ e1
      simp only [if_pos c1, if_pos c2] at q
      skip
      exact q
    · rw [if_neg c2]
      have q := mod σ rfl
      simp only [if_pos c1, if_neg c2] at q
      refine ⟨(g_xIAE, 2), by simp, rfl, ?_⟩
      exact hr.rf (e := 2) (by omega) zFv.rf q
  · rw [if_neg c1]
    have q := mod σ rfl
    simp only [if_neg c1] at q
    refine ⟨(g_xIOB, 1), by simp, rfl, ?_⟩
    exact hr.rf (e := 1) (by omega) zFv.rf q
theorem L_errorPosition (h : zGd ax am ao G) : ∃ r G2, f_X9_errorPosition G ax = some r ∧ f_X10_errorPosition G am = some (G2, r) ∧ zGd ax am ao G2 := by
  obtain ⟨E, σ, rfl, d, t, c, U, hh, V, u, b, hr⟩ := h
  obtain ⟨_, hu, hv, hR, hn, hd⟩ := zCL.fs hr.1 hr.2.2.1
  have hO := hr.1
  have hW := hO.1
  have hm := hO.m
  have hm3 := hO.2.2.1
  obtain ⟨rfl, rfl, rfl⟩ := id hr.2.1
  obtain ⟨σ2, q1, q2⟩ := e10_errorPosition (E := E) (σ := σ) hW hm3
  have q0 := c9_errorPosition (E := E) (σ := σ) hW hm
  rw [hr.2.2.2.2.2.2.2.2.2] at q0
  refine ⟨_, _, q0, q1, E, σ2, rfl, d, t, c, U, hh, V, u, b, ?_⟩
  exact hr.cg (zSm2.th q2)
theorem L_defect (h : zGd ax am ao G) (qx : Int32) (w : Bool) : ∃ r G2, f_X9_defect G ax qx (zI (zb w)) = some r ∧ f_X10_defect G am qx (zI (zb w)) = some (G2, r) ∧ zGd ax am ao G2 := by
  obtain ⟨E, σ, rfl, d, t, c, U, hh, V, u, b, hr⟩ := h
  obtain ⟨x, hx0, hx1, rfl⟩ := i32 qx
  obtain ⟨_, hu, hv, hR, hn, hd⟩ := zCL.fs hr.1 hr.2.2.1
  have hO := hr.1
  have hW := hO.1
  have hm := hO.m
  have hm3 := hO.2.2.1
  obtain ⟨rfl, rfl, rfl⟩ := id hr.2.1
  obtain ⟨σ2, q1, q2⟩ := e10_defect (E := E) (σ := σ) hW hm3 rfl hn hx0 hx1 (w := w)
  exact ⟨_, _, c9_defect hW hm hd hu hv hR hn hx0 hx1, q1, E, σ2, rfl, d, t, c, U, hh, V, u, b, hr.cg (zSm2.th q2)⟩
theorem L_couldRecover (h : zGd ax am ao G) : ∃ r G2, f_X9_couldRecover G ax = some r ∧ f_X10_couldRecover G am = some (G2, r) ∧ zGd ax am ao G2 := by
  obtain ⟨E, σ, rfl, d, t, c, U, hh, V, u, b, hr⟩ := h
  obtain ⟨_, hu, hv, hR, hn, hd⟩ := zCL.fs hr.1 hr.2.2.1
  have hO := hr.1
  have hW := hO.1
  have hm := hO.m
  have hm3 := hO.2.2.1
  obtain ⟨rfl, rfl, rfl⟩ := id hr.2.1
  obtain ⟨σ2, q1, q2⟩ := e10_couldRecover (E := E) (σ := σ) hW hm3 rfl hn
  exact ⟨_, _, c9_couldRecover hW hm hd hu hv hR hn, q1, E, σ2, rfl, d, t, c, U, hh, V, u, b, hr.cg (zSm2.th q2)⟩
theorem L_weakest (h : zGd ax am ao G) : ∃ G1 r G2, f_X9_weakest G ax = some (G1, r) ∧ g_ob G1 am 10 = some () ∧ f_X10_weakest G1 am = some (G2, r) ∧ zGd ax am ao G2 := by
  obtain ⟨E, σ, rfl, d, t, c, U, hh, V, u, b, hr⟩ := h
  obtain ⟨_, hu, hv, hR, hn, hd⟩ := zCL.fs hr.1 hr.2.2.1
  have hO := hr.1
  have hW := hO.1
  have hm := hO.m
  have hm3 := hO.2.2.1
  obtain ⟨rfl, rfl, rfl⟩ := id hr.2.1
  obtain ⟨σ1, p1, p2⟩ := c9_weakest (E := E) (σ := σ) hW hm hd hu hv hR hn hO.2.2.2.2.2.1 (Ne.symm hr.2.2.1.1.1.2.2.2.1)
  obtain ⟨σ2, q1, q2⟩ := e10_weakest (E := E) (σ := σ1) hW hm3 (p2 3 (by omega) 0 1) hn
  exact ⟨_, _, _, p1, (zob hO hr.2.1).1, q1, E, σ2, rfl, d, t, c, U, hh, V, u, b, hr.cg ((zSm2.v p2).tr (zSm2.th q2))⟩
end zCal

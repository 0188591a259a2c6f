/-! The calls that change, of both objects. -/
theorem zCL.i {nm : Int → Int} {E : zE} {σ σ' : zW} {d t : Nat} {n : zN} {c : Int} {U : Int → zN} {h : Int → Bool} {V : Int → zN} (hC : zCL nm E σ d t n c U h V) (f0 : ∀ d c, σ' 0 d c = σ 0 d c) (f2 : ∀ c, c ≠ 1 → c ≠ 2 → σ' 2 0 c = σ 2 0 c) : zCL nm E σ' d t n c U h V := by
  obtain ⟨hD, hS, ⟨o, r1, r2, r3, r4, r5, r6, r7⟩, hV⟩ := hC
  have g0 : ∀ s, σ' 0 s = σ 0 s := fun s => funext fun c' => f0 s c'
  refine ⟨hD.cg (by rw [f2 0 (by omega) (by omega)]) (by rw [f2 0 (by omega) (by omega)]) (fun c' z => f2 c' (by omega) (by omega)), hS.cg (g0 d), ⟨o, by rw [f2 4 (by omega) (by omega)]; exact r1, r2, r3, by rw [f2 4 (by omega) (by omega)]; exact r4, r5, r6, fun k k0 k1 => ?_⟩, fun j j0 j1 => ?_⟩
  · obtain ⟨s, q1, q2⟩ := r7 k k0 k1
    exact ⟨s, by rw [f2 5 (by omega) (by omega)]; exact q1, q2.cg (g0 s)⟩
  · obtain ⟨v1, v2⟩ := hV j j0 j1
    refine ⟨by rw [f2 7 (by omega) (by omega)]; exact v1, fun hh => ?_⟩
    obtain ⟨s, q1, q2⟩ := v2 hh
    exact ⟨s, by rw [f2 8 (by omega) (by omega)]; exact q1, q2.cg (g0 s)⟩
theorem nCl_la {n : zN} (hn : nW n) (h : nWc n = 0) : nLa (nCl n) = nLa n := by
  have h3 := (nCl_W hn h).2.2.2.2 3 (by omega) (by omega)
  unfold nLa
  rw [h3]
section zRl
variable {ax am ao : Nat} {E : zE} {σ σ' : zW} {d t : Nat} {c : Int} {U : Int → zN} {h : Int → Bool} {V : Int → zN} {u : Int} {b : Int → Int}
theorem zRl.mk2 (hr : zRl ax am ao E σ d t c U h V u b) {E' : zE} {n' : zN} {c' : Int} {U' : Int → zN} {h' : Int → Bool} {V' : Int → zN} (hO' : zOk E') (g : zGr E E') (hC' : zCL (σ 3 0 2) E' σ' d t n' c' U' h' V') (f : zFc σ σ') {σ2 : zW} (k0 : ∀ d c, σ2 0 d c = σ' 0 d c) (k2 : ∀ c, σ2 2 0 c = σ' 2 0 c) (k32 : σ2 3 0 2 = σ' 3 0 2) (k33 : σ2 3 0 3 = σ' 3 0 3) (k4 : σ2 3 0 0 4 = σ' 3 0 0 4) (k12 : σ2 3 0 0 12 = σ' 3 0 0 12) (hn' : ∀ i, 0 ≤ i → i < 1555 → σ2 3 0 1 i = n' i) (hU' : zUn σ2 c' U') (hS' : zSn σ2 h' V') : zRel ax am ao E' σ2 := by
  refine ⟨d, t, c', U', h', V', u, b, hO', hr.2.1.gr hr.1 g, ?_, hU', hS', hr.2.2.2.2.2.cg ?_ ?_ ?_ ?_ ?_ ?_⟩
  · rw [k32, f 3 0 2 (by omega) (by omega)]
    exact (hC'.n hn').z k0 k2
  · rw [k2, f 2 0 1 (by omega) (by omega)]
  · rw [k2, f 2 0 2 (by omega) (by omega)]
  · rw [k2, f 2 0 3 (by omega) (by omega)]
  · rw [k4, f 3 0 0 (by omega) (by omega)]
  · rw [k33, f 3 0 3 (by omega) (by omega)]
  · rw [k12, f 3 0 0 (by omega) (by omega)]
theorem zRl.chr (hr : zRl ax am ao E σ d t c U h V u b) {E' : zE} {n' : zN} {c' : Int} {U' : Int → zN} (hO' : zOk E') (g : zGr E E') (hC' : zCL (σ 3 0 2) E' σ' d t n' c' U' h V) (f : zFc σ σ') {τ σ2 : zW} (hτ : ∀ k d c, k ≠ 4 → τ k d c = σ' k d c) (k : zCh τ σ2 0) (hn' : σ2 3 0 1 = n') (hU' : zUn σ2 c' U') : zRel ax am ao E' σ2 := by
  refine hr.mk2 hO' g hC' f (fun d c => ?_) (fun c => ?_) ?_ ?_ ?_ ?_ (fun i _ _ => by rw [hn']) hU' (hr.2.2.2.2.1.cg ?_ ?_)
  · rw [k.1 0 d c (by omega), hτ 0 d c (by omega)]
  · rw [k.1 2 0 c (by omega), hτ 2 0 c (by omega)]
  · rw [k.1 3 0 2 (by omega), hτ 3 0 2 (by omega)]
  · rw [k.1 3 0 3 (by omega), hτ 3 0 3 (by omega)]
  · rw [k.2.1 4 (by omega) (by omega) (by omega) (by omega) (by omega) (by omega), hτ 3 0 0 (by omega)]
  · rw [k.2.1 12 (by omega) (by omega) (by omega) (by omega) (by omega) (by omega), hτ 3 0 0 (by omega)]
  · rw [k.1 3 0 26 (by omega), hτ 3 0 26 (by omega), f 3 0 26 (by omega) (by omega)]
  · rw [k.1 3 0 27 (by omega), hτ 3 0 27 (by omega), f 3 0 27 (by omega) (by omega)]
theorem zRl.un (hr : zRl ax am ao E σ d t c U h V u b) (f : zFc σ σ') {τ : zW} (hτ : ∀ k d c, k ≠ 4 → τ k d c = σ' k d c) : zUn τ c U ∧ zSn τ h V ∧ τ 3 0 1 = σ 3 0 1 := ⟨hr.2.2.2.1.cg (by rw [hτ 3 0 0 (by omega), f 3 0 0 (by omega) (by omega)]) (by rw [hτ 3 0 25 (by omega), f 3 0 25 (by omega) (by omega)]), hr.2.2.2.2.1.cg (by rw [hτ 3 0 26 (by omega), f 3 0 26 (by omega) (by omega)]) (by rw [hτ 3 0 27 (by omega), f 3 0 27 (by omega) (by omega)]), by rw [hτ 3 0 1 (by omega), f 3 0 1 (by omega) (by omega)]⟩
theorem zs4 {σ : zW} {v : Int} : ∀ k d c, k ≠ 4 → zs σ 4 0 0 0 v k d c = σ k d c := fun k d c z => zs_ne (by omega)
theorem zRl.ok (hr : zRl ax am ao E σ d t c U h V u b) {E' : zE} {n' : zN} {c' : Int} {U' : Int → zN} (hO' : zOk E') (g : zGr E E') (hC' : zCL (σ 3 0 2) E' σ' d t n' c' U' h V) (f : zFc σ σ') {F : gH → Option (gH × Int32)} {r : Int32} (hf : ∀ τ : zW, τ 3 0 1 = σ 3 0 1 → zUn τ c U → ∃ σ2, F (zH E' τ) = some (zH E' σ2, r) ∧ zCh τ σ2 0 ∧ σ2 3 0 1 = n' ∧ zUn σ2 c' U') : ∃ G1, g_last (zH E' σ') ao (0 : Int32) r.toInt64 = some G1 ∧ zPo ax am ao F 0 G1 := by
  refine zPo.ok hO' (hr.2.1.gr hr.1 g) fun v => ?_
  obtain ⟨u1, u2, u3⟩ := hr.un f (zs4 (v := v))
  obtain ⟨σ2, f1, f2, f3, f4⟩ := hf (zs σ' 4 0 0 0 v) u3 u1
  exact ⟨σ2, f1, f2.2.2, f2.1 4 0 0 (by omega), hr.chr hO' g hC' f zs4 f2 f3 f4⟩
theorem zRl.okz (hr : zRl ax am ao E σ d t c U h V u b) {E' : zE} {n' : zN} {c' : Int} {U' : Int → zN} (hO' : zOk E') (g : zGr E E') (hC' : zCL (σ 3 0 2) E' σ' d t n' c' U' h V) (f : zFc σ σ') {F : gH → Option (gH × Int32)} {r : Int32} (hf : ∀ τ : zW, τ 3 0 1 = σ 3 0 1 → zUn τ c U → ∃ σ2, F (zH E' τ) = some (zH E' σ2, r) ∧ zCh τ σ2 0 ∧ σ2 3 0 1 = n' ∧ zUn σ2 c' U') : ∃ G1, g_last (zH E' σ') ao (0 : Int32) (if r = 0 then (0 : Int64) else 1) = some G1 ∧ zPz ax am ao F 0 G1 := by
  refine zPz.ok hO' (hr.2.1.gr hr.1 g) fun v => ?_
  obtain ⟨u1, u2, u3⟩ := hr.un f (zs4 (v := v))
  obtain ⟨σ2, f1, f2, f3, f4⟩ := hf (zs σ' 4 0 0 0 v) u3 u1
  exact ⟨σ2, f1, f2.2.2, f2.1 4 0 0 (by omega), hr.chr hO' g hC' f zs4 f2 f3 f4⟩
/-- the files' names as words -/
theorem zRl.wd (hr : zRl ax am ao E σ d t c U h V u b) : ∃ wd : Int → List Int, zSw σ d (σ 3 0 1) wd ∧ ∀ k, 0 ≤ k → k < σ 3 0 1 2 → zWd (wd k) ∧ σ 3 0 2 k = zw8 (wd k) := by
  obtain ⟨hR, hn, hN⟩ := hr.2.2.1.2.1
  have hN' : ∀ i, 0 ≤ i → i < σ 3 0 1 2 → ∃ L, zWd L ∧ σ 0 d 23 i = zw27 L ∧ σ 3 0 2 i = zw8 L := hN
  obtain ⟨wd, hwd⟩ : ∃ wd : Int → List Int, ∀ k k0 k1, wd k = Classical.choose (hN' k k0 k1) := ⟨fun i => if z : 0 ≤ i ∧ i < σ 3 0 1 2 then Classical.choose (hN' i z.1 z.2) else [], fun k k0 k1 => dif_pos ⟨k0, k1⟩⟩
  refine ⟨wd, ⟨hR, hn, fun k k0 k1 => ?_⟩, fun k k0 k1 => ?_⟩
  · have hs := Classical.choose_spec (hN' k k0 k1)
    rw [← hwd k k0 k1] at hs
    exact ⟨hs.1, hs.2.1⟩
  · have hs := Classical.choose_spec (hN' k k0 k1)
    rw [← hwd k k0 k1] at hs
    exact ⟨hs.1, hs.2.2⟩
end zRl
section zCal
variable {ax am ao : Nat} {G : gH}

theorem L_write (h : zGd ax am ao G) (qf qm qt : Int32) : w_Li (fun KX K => w_X9_write G ax qf qm qt KX K) ao [(g_xIOB, 1), (g_xIAE, 2), (g_xISE, 3)] (zPo ax am ao (fun G => f_X10_write G am qf qm qt)) := by
  obtain ⟨E, σ, rfl, d, t, c, U, hh, V, u, b, hr⟩ := h
  obtain ⟨f0, hf0, hf1, rfl⟩ := i32 qf
  obtain ⟨m, hm0, hm1, rfl⟩ := i32 qm
  obtain ⟨tg, ht0, ht1, rfl⟩ := i32 qt
  obtain ⟨_, hu, hv, hR, hn, hd⟩ := zCL.fs hr.1 hr.2.2.1
  have hO := hr.1
  have hW := hO.1
  have hm := hO.m
  have hm3 := hO.2.2.1
  obtain ⟨rfl, rfl, rfl⟩ := id hr.2.1
  unfold w_Li
  refine c9_write hO hr.2.2.1 hf0 hf1 hm0 hm1 ht0 ht1 ?_
  by_cases c1 : 0 ≤ f0 ∧ f0 < σ 3 0 1 2
  · rw [if_pos c1]
    by_cases c2 : 1 ≤ m ∧ m ≤ 8
    · rw [if_pos c2]
      by_cases c3 : 0 ≤ tg ∧ tg ≤ 999
      · rw [if_pos c3]
        by_cases c4 : nWw (σ 3 0 1) f0 m = 0
        · rw [if_pos c4]
          intro E' σ' hO' g hC' f
          refine hr.ok hO' g hC' f fun τ e1 e2 => ?_
          have q := e10_write_ok (E := E') (σ := τ) hO'.1 hO'.2.2.1 e1 hn e2 c1 c2 c3 c4
          rw [g.2 3 0 0 hm3] at q
          exact q
        · rw [if_neg c4]
          refine ⟨(g_xISE, 3), by simp, rfl, ?_⟩
          exact hr.rf (e := 3) (by omega) zFv.rf (e10_write_no (E := E) (σ := σ) hW hm3 rfl hn hf0 hf1 hm0 hm1 ht0 ht1 (by rw [if_pos c1, if_pos ⟨c2, c3⟩, if_neg c4]) (by omega))
      · rw [if_neg c3]
        refine ⟨(g_xIAE, 2), by simp, rfl, ?_⟩
        exact hr.rf (e := 2) (by omega) zFv.rf (e10_write_no (E := E) (σ := σ) hW hm3 rfl hn hf0 hf1 hm0 hm1 ht0 ht1 (by rw [if_pos c1, if_neg (fun z => c3 z.2)]) (by omega))
    · rw [if_neg c2]
      refine ⟨(g_xIAE, 2), by simp, rfl, ?_⟩
      exact hr.rf (e := 2) (by omega) zFv.rf (e10_write_no (E := E) (σ := σ) hW hm3 rfl hn hf0 hf1 hm0 hm1 ht0 ht1 (by rw [if_pos c1, if_neg (fun z => c2 z.1)]) (by omega))
  · rw [if_neg c1]
    refine ⟨(g_xIOB, 1), by simp, rfl, ?_⟩
    exact hr.rf (e := 1) (by omega) zFv.rf (e10_write_no (E := E) (σ := σ) hW hm3 rfl hn hf0 hf1 hm0 hm1 ht0 ht1 (by rw [if_neg c1]) (by omega))
theorem L_erase (h : zGd ax am ao G) (qf : Int32) : w_Li (fun KX K => w_X9_erase G ax qf KX K) ao [(g_xIOB, 1), (g_xISE, 2)] (zPo ax am ao (fun G => f_X10_erase G am qf)) := by
  obtain ⟨E, σ, rfl, d, t, c, U, hh, V, u, b, hr⟩ := h
  obtain ⟨f0, hf0, hf1, rfl⟩ := i32 qf
  obtain ⟨_, hu, hv, hR, hn, hd⟩ := zCL.fs hr.1 hr.2.2.1
  have hO := hr.1
  have hW := hO.1
  have hm := hO.m
  have hm3 := hO.2.2.1
  obtain ⟨rfl, rfl, rfl⟩ := id hr.2.1
  unfold w_Li
  refine c9_erase hO hr.2.2.1 hf0 hf1 ?_
  by_cases c1 : 0 ≤ f0 ∧ f0 < σ 3 0 1 2
  · rw [if_pos c1]
    by_cases c4 : nWe (σ 3 0 1) f0 = 0
    · rw [if_pos c4]
      intro E' σ' hO' g hC' f
      refine hr.ok hO' g hC' f fun τ e1 e2 => ?_
      have q := e10_erase_ok (E := E') (σ := τ) hO'.1 hO'.2.2.1 e1 hn e2 c1 c4
      rw [g.2 3 0 0 hm3] at q
      exact q
    · rw [if_neg c4]
      intro σ' fv
      refine ⟨(g_xISE, 2), by simp, rfl, ?_⟩
      exact hr.rf (e := 2) (by omega) fv (e10_erase_no (E := E) (σ := σ') (n := σ 3 0 1) hW hm3 (by rw [fv 3 (by omega) 0 1]) hn hf0 hf1 (by rw [if_pos c1, if_neg c4]) (by omega))
  · rw [if_neg c1]
    refine ⟨(g_xIOB, 1), by simp, rfl, ?_⟩
    exact hr.rf (e := 1) (by omega) zFv.rf (e10_erase_no (E := E) (σ := σ) hW hm3 rfl hn hf0 hf1 (by rw [if_neg c1]) (by omega))

theorem L_close (h : zGd ax am ao G) : w_Li (fun KX K => w_X9_close G ax KX K) ao [(g_xISE, 1)] (zPo ax am ao (fun G => f_X10_close G am)) := by
  obtain ⟨E, σ, rfl, d, t, c, U, hh, V, u, b, hr⟩ := h
  obtain ⟨_, hu, hv, hR, hn, hd⟩ := zCL.fs hr.1 hr.2.2.1
  have hO := hr.1
  have hW := hO.1
  have hm := hO.m
  have hm3 := hO.2.2.1
  obtain ⟨rfl, rfl, rfl⟩ := id hr.2.1
  unfold w_Li
  refine c9_close hO hr.2.2.1 ?_
  by_cases c1 : nWc (σ 3 0 1) = 0
  · rw [if_pos c1]
    intro E' σ' hO' g hC' f
    refine hr.ok hO' g hC' f fun τ e1 e2 => ?_
    have q := e10_close_ok (E := E') (σ := τ) hO'.1 hO'.2.2.1 e1 hn e2 c1
    rw [g.2 3 0 0 hm3, nCl_la hn c1] at q
    exact q
  · rw [if_neg c1]
    refine ⟨(g_xISE, 1), by simp, rfl, ?_⟩
    exact hr.rf (e := 1) (by omega) zFv.rf (e10_close_no (E := E) (σ := σ) hW hm3 rfl hn c1)

theorem L_crash (h : zGd ax am ao G) : w_Li (fun KX K => w_X9_crash G ax KX K) ao [(g_xISE, 1)] (zPo ax am ao (fun G => f_X10_crash G am)) := by
  obtain ⟨E, σ, rfl, d, t, c, U, hh, V, u, b, hr⟩ := h
  obtain ⟨_, hu, hv, hR, hn, hd⟩ := zCL.fs hr.1 hr.2.2.1
  have hO := hr.1
  have hW := hO.1
  have hm := hO.m
  have hm3 := hO.2.2.1
  obtain ⟨rfl, rfl, rfl⟩ := id hr.2.1
  unfold w_Li
  refine c9_crash hO hr.2.2.1 ?_
  by_cases c1 : nOp (σ 3 0 1) = true
  · rw [if_pos c1]
    intro E' σ' hO' g hC' f
    refine hr.ok hO' g hC' f fun τ e1 e2 => ?_
    have q := e10_crash_ok (E := E') (σ := τ) hO'.1 hO'.2.2.1 e1 hn e2 c1
    rw [g.2 3 0 0 hm3] at q
    exact q
  · rw [if_neg c1]
    refine ⟨(g_xISE, 1), by simp, rfl, ?_⟩
    exact hr.rf (e := 1) (by omega) zFv.rf (e10_crash_no (E := E) (σ := σ) hW hm3 rfl hn (by simpa using c1))

theorem L_recover (h : zGd ax am ao G) : w_Li (fun KX K => w_X9_recover G ax KX K) ao [(g_xISE, 1)] (zPo ax am ao (fun G => f_X10_recover G am)) := by
  obtain ⟨E, σ, rfl, d, t, c, U, hh, V, u, b, hr⟩ := h
  obtain ⟨_, hu, hv, hR, hn, hd⟩ := zCL.fs hr.1 hr.2.2.1
  have hO := hr.1
  have hW := hO.1
  have hm := hO.m
  have hm3 := hO.2.2.1
  obtain ⟨rfl, rfl, rfl⟩ := id hr.2.1
  unfold w_Li
  refine c9_recover hO hr.2.2.1 ?_
  by_cases c1 : nWr (σ 3 0 1) = 0
  · rw [if_pos c1]
    intro E' σ' hO' g hC' f
    refine hr.ok hO' g hC' f fun τ e1 e2 => ?_
    have q := e10_recover_ok (E := E') (σ := τ) hO'.1 hO'.2.2.1 e1 hn e2 c1
    rw [g.2 3 0 0 hm3] at q
    exact q
  · rw [if_neg c1]
    refine ⟨(g_xISE, 1), by simp, rfl, ?_⟩
    exact hr.rf (e := 1) (by omega) zFv.rf (e10_recover_no (E := E) (σ := σ) hW hm3 rfl hn c1)

theorem L_scratch (h : zGd ax am ao G) (qb : Int32) : w_Lz (fun KX K => w_X9_scratch G ax qb KX K) ao [(g_xIOB, 1)] (zPz ax am ao (fun G => f_X10_scratch G am qb)) := by
  obtain ⟨E, σ, rfl, d, t, c, U, hh, V, u, b, hr⟩ := h
  obtain ⟨b0, hf0, hf1, rfl⟩ := i32 qb
  obtain ⟨_, hu, hv, hR, hn, hd⟩ := zCL.fs hr.1 hr.2.2.1
  have hO := hr.1
  have hW := hO.1
  have hm := hO.m
  have hm3 := hO.2.2.1
  obtain ⟨rfl, rfl, rfl⟩ := id hr.2.1
  unfold w_Lz
  refine c9_scratch hO hr.2.2.1 hf0 hf1 ?_
  by_cases c1 : 0 ≤ b0 ∧ b0 < σ 3 0 1 0
  · rw [if_pos c1]
    intro E' σ' hO' g hC' f
    refine hr.okz hO' g hC' f fun τ e1 e2 => ?_
    have q := e10_scratch_ok (E := E') (σ := τ) hO'.1 hO'.2.2.1 e1 hn e2 c1
    rw [g.2 3 0 0 hm3] at q
    exact q
  · rw [if_neg c1]
    refine ⟨(g_xIOB, 1), by simp, rfl, ?_⟩
    exact hr.rfz (e := 1) (by omega) zFv.rf (e10_scratch_no (E := E) (σ := σ) hW hm3 rfl hn hf0 hf1 c1)
theorem L_setScan (h : zGd ax am ao G) (w : Bool) : w_X9_setScan G ax (zI (zb w)) (fun r G1 => ∃ G2, g_ob G1 am 10 = some () ∧ f_X10_setScan G1 am (zI (zb w)) = some (G2, r) ∧ zGd ax am ao G2) := by
  obtain ⟨E, σ, rfl, d, t, c, U, hh, V, u, b, hr⟩ := h
  obtain ⟨_, hu, hv, hR, hn, hd⟩ := zCL.fs hr.1 hr.2.2.1
  have hO := hr.1
  have hW := hO.1
  have hm := hO.m
  have hm3 := hO.2.2.1
  obtain ⟨rfl, rfl, rfl⟩ := id hr.2.1
  refine c9_setScan hO hr.2.2.1 ?_
  intro E' σ' hO' g hC' f
  obtain ⟨u1, u2, u3⟩ := hr.un f (τ := σ') (fun _ _ _ _ => rfl)
  obtain ⟨σ2, f1, f2, f3, f4⟩ := e10_setScan (E := E') (σ := σ') hO'.1 hO'.2.2.1 u3 hn u1 (w := w)
  rw [g.2 3 0 0 hm3] at f1
  exact ⟨_, (zob hO' (hr.2.1.gr hr.1 g)).1, f1, E', σ2, rfl, hr.chr hO' g hC' f (fun _ _ _ _ => rfl) f2 f3 f4⟩
theorem L_undo (h : zGd ax am ao G) : w_X9_undo G ax (fun r G1 => ∃ G2, g_ob G1 am 10 = some () ∧ f_X10_undo G1 am = some (G2, r) ∧ zGd ax am ao G2) := by
  obtain ⟨E, σ, rfl, d, t, c, U, hh, V, u, b, hr⟩ := h
  obtain ⟨_, hu, hv, hR, hn, hd⟩ := zCL.fs hr.1 hr.2.2.1
  have hO := hr.1
  have hW := hO.1
  have hm := hO.m
  have hm3 := hO.2.2.1
  obtain ⟨rfl, rfl, rfl⟩ := id hr.2.1
  refine c9_undo hO hr.2.2.1 ?_
  by_cases c0 : c = 0
  · rw [if_pos c0]
    obtain ⟨σ2, f1, f2, f3, f4, f5, f6, f7⟩ := e10_undo (E := E) (σ := σ) hW hm3 hr.2.2.2.1
    rw [if_pos c0] at f1 f7
    refine ⟨_, (zob hO hr.2.1).1, f1, E, σ2, rfl, d, t, c, U, hh, V, u, b, hO, ⟨rfl, rfl, rfl⟩, ?_, ?_, hr.2.2.2.2.1.cg (f2 3 0 26 (by omega)) (f2 3 0 27 (by omega)), hr.2.2.2.2.2.cg (f2 2 0 1 (by omega)) (f2 2 0 2 (by omega)) (f2 2 0 3 (by omega)) (f3 4 (by omega) (by omega)) (f2 3 0 3 (by omega)) (f3 12 (by omega) (by omega))⟩
    · rw [f2 3 0 2 (by omega), f5 c0]
      exact hr.2.2.1.z (fun d c => f2 0 d c (by omega)) (fun c => f2 2 0 c (by omega))
    · rw [c0]
      exact f7
  · rw [if_neg c0]
    intro σ' hC' f
    obtain ⟨u1, u2, u3⟩ := hr.un f (τ := σ') (fun _ _ _ _ => rfl)
    obtain ⟨σ2, f1, f2, f3, f4, f5, f6, f7⟩ := e10_undo (E := E) (σ := σ') hW hm3 u1
    rw [if_neg c0] at f1 f7
    exact ⟨_, (zob hO hr.2.1).1, f1, E, σ2, rfl, hr.mk2 hO zGr.rf hC' f (fun d c => f2 0 d c (by omega)) (fun c => f2 2 0 c (by omega)) (f2 3 0 2 (by omega)) (f2 3 0 3 (by omega)) (f3 4 (by omega) (by omega)) (f3 12 (by omega) (by omega)) (f6 c0) f7 (u2.cg (f2 3 0 26 (by omega)) (f2 3 0 27 (by omega)))⟩
theorem L_saveSnapshot (h : zGd ax am ao G) (qx : Int32) : w_Lz (fun KX K => w_X9_saveSnapshot G ax qx KX K) ao [(g_xIOB, 1)] (zPz ax am ao (fun G => f_X10_saveSnapshot G am qx)) := by
  obtain ⟨E, σ, rfl, d, t, c, U, hh, V, u, b, hr⟩ := h
  obtain ⟨x, hx0, hx1, rfl⟩ := i32 qx
  obtain ⟨_, hu, hv, hR, hn, hd⟩ := zCL.fs hr.1 hr.2.2.1
  have hO := hr.1
  have hW := hO.1
  have hm := hO.m
  have hm3 := hO.2.2.1
  obtain ⟨rfl, rfl, rfl⟩ := id hr.2.1
  unfold w_Lz
  refine c9_saveSnapshot hO hr.2.2.1 hx0 hx1 ?_
  by_cases c1 : 0 ≤ x ∧ x < 2
  · rw [if_pos c1]
    intro E' σ' hO' g hC' f
    refine zPz.ok hO' (hr.2.1.gr hr.1 g) fun v => ?_
    obtain ⟨u1, u2, u3⟩ := hr.un f (zs4 (v := v))
    obtain ⟨σ2, f1, f2, f3, f4, f5⟩ := e10_save_ok (E := E') (σ := zs σ' 4 0 0 0 v) hO'.1 hO'.2.2.1 u3 u2 c1
    rw [g.2 3 0 0 hm3] at f1
    exact ⟨σ2, f1, f4, f2 4 0 0 (by omega), hr.mk2 hO' g hC' f (fun d c => by rw [f2 0 d c (by omega), zs4 _ _ _ (by omega)]) (fun c => by rw [f2 2 0 c (by omega), zs4 _ _ _ (by omega)]) (by rw [f2 3 0 2 (by omega), zs4 _ _ _ (by omega)]) (by rw [f2 3 0 3 (by omega), zs4 _ _ _ (by omega)]) (by rw [f3 4 (by omega), zs4 _ _ _ (by omega)]) (by rw [f3 12 (by omega), zs4 _ _ _ (by omega)]) (fun i _ _ => by rw [f2 3 0 1 (by omega), u3]) (u1.cg (f3 24 (by omega)) (f2 3 0 25 (by omega))) f5⟩
  · rw [if_neg c1]
    refine ⟨(g_xIOB, 1), by simp, rfl, ?_⟩
    exact hr.rfz (e := 1) (by omega) zFv.rf (e10_save_no (E := E) (σ := σ) hW hm3 hx0 hx1 c1)
theorem L_restoreSnapshot (h : zGd ax am ao G) (qx : Int32) : w_Li (fun KX K => w_X9_restoreSnapshot G ax qx KX K) ao [(g_xIOB, 1), (g_xISE, 2)] (zPo ax am ao (fun G => f_X10_restoreSnapshot G am qx)) := by
  obtain ⟨E, σ, rfl, d, t, c, U, hh, V, u, b, hr⟩ := h
  obtain ⟨x, hx0, hx1, rfl⟩ := i32 qx
  obtain ⟨_, hu, hv, hR, hn, hd⟩ := zCL.fs hr.1 hr.2.2.1
  have hO := hr.1
  have hW := hO.1
  have hm := hO.m
  have hm3 := hO.2.2.1
  obtain ⟨rfl, rfl, rfl⟩ := id hr.2.1
  unfold w_Li
  refine c9_restoreSnapshot hO hr.2.2.1 hx0 hx1 ?_
  by_cases c1 : 0 ≤ x ∧ x < 2
  · rw [if_pos c1]
    by_cases c2 : hh x = true
    · rw [if_pos c2]
      intro σ' hC' f
      refine zPo.ok hO hr.2.1 fun v => ?_
      obtain ⟨u1, u2, u3⟩ := hr.un f (zs4 (v := v))
      obtain ⟨σ2, f1, f2, f3, f4, f5, f6⟩ := e10_restore_ok (E := E) (σ := zs σ' 4 0 0 0 v) hW hm3 u2 c1 c2
      exact ⟨σ2, f1, f4, f2 4 0 0 (by omega), hr.mk2 hO zGr.rf (hC' U) f (fun d c => by rw [f2 0 d c (by omega), zs4 _ _ _ (by omega)]) (fun c => by rw [f2 2 0 c (by omega), zs4 _ _ _ (by omega)]) (by rw [f2 3 0 2 (by omega), zs4 _ _ _ (by omega)]) (by rw [f2 3 0 3 (by omega), zs4 _ _ _ (by omega)]) (by rw [f3 4 (by omega) (by omega), zs4 _ _ _ (by omega)]) (by rw [f3 12 (by omega) (by omega), zs4 _ _ _ (by omega)]) f5 (f6 U) (u2.cg (f2 3 0 26 (by omega)) (f2 3 0 27 (by omega)))⟩
    · rw [if_neg c2]
      refine ⟨(g_xISE, 2), by simp, rfl, ?_⟩
      exact hr.rf (e := 2) (by omega) zFv.rf (e10_restore_no (E := E) (σ := σ) hW hm3 hr.2.2.2.2.1 hx0 hx1 (by rw [if_pos c1, if_neg c2]) (by omega))
  · rw [if_neg c1]
    refine ⟨(g_xIOB, 1), by simp, rfl, ?_⟩
    exact hr.rf (e := 1) (by omega) zFv.rf (e10_restore_no (E := E) (σ := σ) hW hm3 hr.2.2.2.2.1 hx0 hx1 (by rw [if_neg c1]) (by omega))
theorem L_find (h : zGd ax am ao G) : ∃ G1 r G2, f_X9_find G ax = some (G1, r) ∧ g_ob G1 am 10 = some () ∧ f_X10_find G1 am = some (G2, r) ∧ zGd ax am ao G2 := by
  obtain ⟨E, σ, rfl, d, t, c, U, hh, V, u, b, hr⟩ := h
  obtain ⟨_, hu, hv, hR, hn, hd⟩ := zCL.fs hr.1 hr.2.2.1
  have hO := hr.1
  have hW := hO.1
  have hm := hO.m
  have hm3 := hO.2.2.1
  obtain ⟨rfl, rfl, rfl⟩ := id hr.2.1
  obtain ⟨wd, hw1, hw2⟩ := hr.wd
  obtain ⟨t1, t2, t3, t4, t5⟩ := hr.2.2.2.2.2
  have q1 := e9_find (E := E) (σ := σ) hW hm t3 t1 t4.1.1 hd hu hw1
  obtain ⟨τ, hτ⟩ : ∃ τ, τ = zs σ 2 0 1 1 0 := ⟨_, rfl⟩
  rw [← hτ] at q1
  have f0 : ∀ k d c, ¬ (k = 2 ∧ d = 0 ∧ c = 1) → τ k d c = σ k d c := fun k d c z => by rw [hτ, zs_ne z]
  obtain ⟨σ2, p1, p2, p3, p4, p5⟩ := e10_find (E := E) (σ := τ) (n := σ 3 0 1) hW hm3 (t4.cg (f0 3 0 3 (by omega))) (by rw [f0 3 0 0 (by omega)]; exact t2) (f0 3 0 1 (by omega)) hn (wd := wd) (fun k k0 k1 => by rw [f0 3 0 2 (by omega)]; exact hw2 k k0 k1)
  refine ⟨_, _, _, q1, (zob hO hr.2.1).1, p1, E, σ2, rfl, d, t, c, U, hh, V, 0, b, hO, ⟨rfl, rfl, rfl⟩, ?_, hr.2.2.2.1.cg (by rw [p3 24 (by omega) (by omega), f0 3 0 0 (by omega)]) (by rw [p2 3 0 25 (by omega), f0 3 0 25 (by omega)]), hr.2.2.2.2.1.cg (by rw [p2 3 0 26 (by omega), f0 3 0 26 (by omega)]) (by rw [p2 3 0 27 (by omega), f0 3 0 27 (by omega)]), ?_, p5, ⟨by omega, fun i i0 i1 => absurd i1 (by omega)⟩, ⟨by omega, fun i i0 i1 => absurd i1 (by omega)⟩, ?_⟩
  · rw [p2 3 0 2 (by omega), p2 3 0 1 (by omega), f0 3 0 2 (by omega), f0 3 0 1 (by omega)]
    exact hr.2.2.1.i (fun d c => by rw [p2 0 d c (by omega), f0 0 d c (by omega)]) (fun c z1 z2 => by rw [p2 2 0 c (by omega), f0 2 0 c (by omega)])
  · rw [p2 2 0 1 (by omega), hτ, zs_at, if_pos rfl]
  · rw [p2 2 0 3 (by omega), f0 2 0 3 (by omega), p3 12 (by omega) (by omega), f0 3 0 0 (by omega)]
    exact t5
theorem L_append (h : zGd ax am ao G) (x1 x2 x3 x4 x5 : Int32) : ∃ G1 r G2, f_X9_append G ax x1 x2 x3 x4 x5 = some (G1, r) ∧ g_ob G1 am 10 = some () ∧ f_X10_append G1 am x1 x2 x3 x4 x5 = some (G2, r) ∧ zGd ax am ao G2 := by
  obtain ⟨E, σ, rfl, d, t, c, U, hh, V, u, b, hr⟩ := h
  obtain ⟨_, hu, hv, hR, hn, hd⟩ := zCL.fs hr.1 hr.2.2.1
  have hO := hr.1
  have hW := hO.1
  have hm := hO.m
  have hm3 := hO.2.2.1
  obtain ⟨rfl, rfl, rfl⟩ := id hr.2.1
  obtain ⟨t1, t2, t3, t4, t5⟩ := hr.2.2.2.2.2
  have hL := t4.1
  obtain ⟨σ1, a1, a2, a3⟩ := e9_append (E := E) (σ := σ) hW hm t3 t1 hL.1 hL.2 x1 x2 x3 x4 x5
  obtain ⟨σ2, d1, d2, d3⟩ := e10_append (E := E) (σ := σ1) hW hm3 (t4.cg (a2 3 0 3 (by omega))) (by rw [a2 3 0 0 (by omega)]; exact t2) x1 x2 x3 x4 x5
  have f0 : ∀ k d c, ¬ (k = 2 ∧ d = 0 ∧ (c = 1 ∨ c = 2)) → ¬ (k = 3 ∧ d = 0 ∧ (c = 0 ∨ c = 3)) → σ2 k d c = σ k d c := fun k d c z y => by
    rw [d2.1 k d c y]
    unfold zth
    rw [zs_ne (by omega), a2 k d c z]
  have fi : ∀ i, i ≠ 0 → i ≠ 4 → σ2 3 0 0 i = σ 3 0 0 i := fun i i0 i4 => by
    rw [d2.2 i i4, zth_i i0, a2 3 0 0 (by omega)]
  refine ⟨_, _, _, a1, (zob hO hr.2.1).1, d1, E, σ2, rfl, d, t, c, U, hh, V, (if u + 20 ≤ 600 then u + 20 else u), (if u + 20 ≤ 600 then zb20 b u x1 x2 x3 x4 x5 else b), hO, ⟨rfl, rfl, rfl⟩, ?_, hr.2.2.2.1.cg (fi 24 (by omega) (by omega)) (f0 3 0 25 (by omega) (by omega)), hr.2.2.2.2.1.cg (f0 3 0 26 (by omega) (by omega)) (f0 3 0 27 (by omega) (by omega)), ?_⟩
  · rw [f0 3 0 2 (by omega) (by omega), f0 3 0 1 (by omega) (by omega)]
    exact hr.2.2.1.i (fun d c => f0 0 d c (by omega) (by omega)) (fun c z1 z2 => f0 2 0 c (by omega) (by omega))
  · have e3 : σ2 2 0 3 1 = σ2 3 0 0 12 := by rw [f0 2 0 3 (by omega) (by omega), fi 12 (by omega) (by omega)]; exact t5
    have g1 : ∀ c, σ2 2 0 c = σ1 2 0 c := fun c => by
      rw [d2.1 2 0 c (by omega)]
      unfold zth
      rw [zs_ne (by omega)]
    by_cases c1 : u + 20 ≤ 600
    · simp only [if_pos c1] at a3 d3 ⊢
      exact ⟨by rw [g1]; exact a3.2, d3.2, a3.1.cg (g1 2), d3.1, e3⟩
    · simp only [if_neg c1] at a3 d3 ⊢
      subst d3
      subst a3
      have z3 : ∀ k d c, ¬ (k = 3 ∧ d = 0 ∧ c = 0) → zth σ1 0 k d c = σ1 k d c := fun k d c z => by
        unfold zth
        rw [zs_ne z]
      exact ⟨by rw [z3 2 0 1 (by omega)]; exact t1, by rw [zth_i (by omega)]; exact t2, t3.cg (z3 2 0 2 (by omega)), t4.cg (z3 3 0 3 (by omega)), e3⟩
theorem L_parse (h : zGd ax am ao G) (qx : Int32) : w_Li (fun KX K => w_X9_parse G ax qx KX K) ao [(g_xIAE, 1)] (zPo ax am ao (fun G => f_X10_parse G am qx)) := by
  obtain ⟨E, σ, rfl, d, t, c, U, hh, V, u, b, hr⟩ := h
  obtain ⟨x, hx0, hx1, rfl⟩ := i32 qx
  obtain ⟨_, hu, hv, hR, hn, hd⟩ := zCL.fs hr.1 hr.2.2.1
  have hO := hr.1
  have hW := hO.1
  have hm := hO.m
  have hm3 := hO.2.2.1
  obtain ⟨rfl, rfl, rfl⟩ := id hr.2.1
  obtain ⟨t1, t2, t3, t4, t5⟩ := hr.2.2.2.2.2
  have hL := t4.1
  unfold w_Li
  refine c9_parse (m := nBeg σ b x) hO hr.2.2.1 t3 t1 hL.1 hx0 hx1 (nBeg_F σ b x) ?_
  by_cases c1 : 0 ≤ x ∧ x ≤ u
  · rw [if_pos c1]
    intro σ' k3 k1 kp kno kok
    refine zPo.ok hO hr.2.1 fun v => ?_
    obtain ⟨τ, hτ⟩ : ∃ τ, τ = zs σ' 4 0 0 0 v := ⟨_, rfl⟩
    rw [← hτ]
    have g3 : ∀ d c, τ 3 d c = σ 3 d c := fun d c => by rw [hτ, zs_ne (by omega), k3 3 d c (by omega)]
    have gk : ∀ k d c, k ≠ 4 → τ k d c = σ' k d c := fun k d c z => by rw [hτ, zs_ne (by omega)]
    obtain ⟨σ2, p1, p2, p3, p4, p5, p6, p7⟩ := e10_parse_in (E := E) (σ := τ) (b := b) (L := x) hW hm3 (u := u) (by rw [g3]; exact t2) (t4.cg (g3 0 3)) c1.1 c1.2
    have hB : nBeg τ b x = nBeg σ b x := by unfold nBeg; rw [g3]
    rw [hB] at p1 p5 p6 p7
    have hx : zTx σ2 0 b := ⟨by rw [p2 2 0 1 (by omega), gk 2 0 1 (by omega)]; exact k1, p4, ⟨by omega, fun i i0 i1 => absurd i1 (by omega)⟩, ⟨by omega, fun i i0 i1 => absurd i1 (by omega)⟩, by rw [p2 2 0 3 (by omega), gk 2 0 3 (by omega), kp, p5]⟩
    refine ⟨σ2, p1, p3, p2 4 0 0 (by omega), ?_⟩
    by_cases c2 : (eTxt b x (nBeg σ b x)).1 = 0
    · obtain ⟨y1, y2, y3, y4, y5⟩ := p7 c2
      refine ⟨t, d, 0, U, fun _ => false, V, 0, b, hO, ⟨rfl, rfl, rfl⟩, ?_, ⟨y3, by omega, by omega, fun k i k0 k1 => absurd k1 (by omega)⟩, fun j j0 j1 => ⟨?_, fun z => absurd z (by simp)⟩, hx⟩
      · rw [y1]
        exact (kok c2 (σ2 3 0 2) U (fun _ => false) V (fun k k0 k1 => (y2 k k0 k1).2) (fun _ => rfl)).z (fun d c => by rw [p2 0 d c (by omega), gk 0 d c (by omega)]) (fun c => by rw [p2 2 0 c (by omega), gk 2 0 c (by omega)])
      · rcases (by omega : j = 0 ∨ j = 1) with rfl | rfl
        · rw [y4]; rfl
        · rw [y5]; rfl
    · obtain ⟨y1, y2, y3, y4⟩ := p6 c2
      refine ⟨d, t, c, U, hh, V, 0, b, hO, ⟨rfl, rfl, rfl⟩, ?_, hr.2.2.2.1.cg (by rw [y3, g3]) (by rw [p2 3 0 25 (by omega), g3]), hr.2.2.2.2.1.cg (by rw [p2 3 0 26 (by omega), g3]) (by rw [y4, g3]), hx⟩
      rw [y2, g3]
      exact ((kno c2).n (fun i i0 i1 => by rw [y1 i i0 i1, g3])).z (fun d c => by rw [p2 0 d c (by omega), gk 0 d c (by omega)]) (fun c => by rw [p2 2 0 c (by omega), gk 2 0 c (by omega)])
  · rw [if_neg c1]
    refine ⟨(g_xIAE, 1), by simp, rfl, ?_⟩
    exact hr.rf (e := 1) (by omega) zFv.rf (e10_parse_no (E := E) (σ := σ) hW hm3 t2 hL.1 hL.2 hx0 hx1 c1)
end zCal

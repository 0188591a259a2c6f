/-! The files, what could be recovered, the risks: whole. -/
section zH_
variable {G A T : gH} {o q : Nat} {n : zN} {E : zE} {σ : zW} {K : Int32 → gH → Prop}
/-- a session as the law holds it -/
def ySv (E : zE) (s : Int) : Option Nat := if s = -1 then none else some (ySe E s)
theorem yf_L34 {MC MS kc ks : Nat} {k2 : gH → Nat → Nat → Nat → Nat → Nat → Int32 → Prop} {x : Int} (hJ : yJ G A (zH E σ) T) (hA : yCo A o n) (hI : yI E σ n) (hy : yW n) (x0 : 0 ≤ x) (x1 : x < n 2) {f : Nat → Int32} (hq : T q = some (.inl (0, 1, f))) (hkc : kc + 25 ≤ MC) (hks : ks + 151 ≤ MS) (hk : ∀ G' A' T' f' kc' ks', kc' = kc + 25 → ks' = ks + 151 → yJ G' A' (zH E σ) T' → yCo A' o n → T' q = some (.inl (0, 1, f')) → k2 G' kc' ks' o (zL E 5 0 0) q (zI (x + 1))) : ∀ (m fuel : Nat) (k : Int), 0 ≤ k → k + m = n 3 → m < fuel → w_L_files_L34 MC MS K k2 fuel G kc ks o (zL E 5 0 0) q (zI x) (ySv E (nSk n x 12)) (yEv E (nFv n x 12)) (zI (if nSk n x 12 < k then nSk n x 12 else -1)) (zI k) := by
  have hn := hA.w
  have hN := hn.1.r
  have sr := nSk_rng n x 12
  intro m
  induction m with
  | zero =>
    intro fuel k k0 km hf
    cases fuel with
    | zero => omega
    | succ fuel =>
    obtain rfl : k = n 3 := by omega
    have hle : zI (n 3) ≤ zI (n 3) := by rw [zI_le (by omega) (by omega) (by omega) (by omega)]; omega
    have hat : (if nSk n x 12 < n 3 then nSk n x 12 else -1) = nSk n x 12 := by split <;> omega
    rw [hat]
    have fin : w_L_files_L71 MC MS K k2 g_N G kc ks o (zL E 5 0 0) q (zI x) (yEv E (nFv n x 12)) (zI (nSk n x 12)) (0 : Int32) (0 : Int32) := by
      have := yf_L71 (K := K) hJ hA hI hy x0 x1 hq hkc hks hk (n 6).toNat g_N 0 0 (by omega) (by omega) (by unfold g_N; omega) (by omega)
      exact this
    unfold w_L_files_L34
    refine ⟨fun h => ⟨fun h2 => ⟨_, hJ.i (yN hI.w hI.r).2.2.2.2.1, ?_⟩, fun r2 h2 => ⟨_, hJ.i (yN hI.w hI.r).2.2.2.2.1, ?_⟩⟩, fun r h => ⟨fun h2 => ⟨_, hJ.i (yN hI.w hI.r).2.2.2.2.1, ?_⟩, fun r2 h2 => ⟨_, hJ.i (yN hI.w hI.r).2.2.2.2.1, ?_⟩⟩⟩
    · rw [if_pos hle, ← h2]; exact fin
    · rw [if_pos hle, ← h2]; exact fin
    · rw [if_pos hle, ← h2]; exact fin
    · rw [if_pos hle, ← h2]; exact fin
  | succ m ih =>
    intro fuel k k0 km hf
    cases fuel with
    | zero => omega
    | succ fuel =>
    have hle : ¬ zI (n 3) ≤ zI k := by rw [zI_le (by omega) (by omega) (by omega) (by omega)]; omega
    have nxt := ih fuel (k + 1) (by omega) (by omega) (by omega)
    have e1 : (zI k + (1 : Int32)) = zI (k + 1) := zI_add k 1
    have r16 := hJ.r (show g_r (zH E σ) (zL E 5 0 0) 10 16 = some (zL E 5 0 16) by simp only [zz_ldo hI.w hI.u])
    have a16 := hJ.rald ((yAll hI.w hI.r hn.1).2 k k0 (by omega))
    have b0 : ∀ ba5 : Option Nat, ba5 = yEv E (nFv n x 12) → ySv E (nSk n x 12) = none → ∃ v44, g_r G (zL E 5 0 0) 10 16 = some v44 ∧
        ∃ v49, g_rald 5 G v44 (zI k) = some v49 ∧
        ((v49 = none →
        w_L_files_L34 MC MS K k2 fuel G kc ks o (zL E 5 0 0) q (zI x) none ba5 (zI k) (zI k + (1 : Int32))) ∧ ∀ r49 : Nat, v49 = some r49 →
        w_L_files_L34 MC MS K k2 fuel G kc ks o (zL E 5 0 0) q (zI x) none ba5 (zI (if nSk n x 12 < k then nSk n x 12 else -1)) (zI k + (1 : Int32))) := by
      intro ba5 hb hs
      subst hb
      refine ⟨_, r16, _, a16, fun h => (by cases h), fun r hr => ?_⟩
      have hm1 : nSk n x 12 = -1 := by
        unfold ySv at hs
        split at hs
        · assumption
        · cases hs
      rw [hs, hm1, if_pos (by omega)] at nxt
      rw [e1, hm1, if_pos (by omega)]
      exact nxt
    have b1 : ∀ (ba5 : Option Nat) (ba4r : Nat), ba5 = yEv E (nFv n x 12) → ySv E (nSk n x 12) = some ba4r → ∃ v44, g_r G (zL E 5 0 0) 10 16 = some v44 ∧
        ∃ v49, g_rald 5 G v44 (zI k) = some v49 ∧
        ((v49 = none →
        w_L_files_L34 MC MS K k2 fuel G kc ks o (zL E 5 0 0) q (zI x) (some ba4r) ba5 (zI (if nSk n x 12 < k then nSk n x 12 else -1)) (zI k + (1 : Int32))) ∧ ∀ r49 : Nat, v49 = some r49 →
        if r49 = ba4r then
        w_L_files_L34 MC MS K k2 fuel G kc ks o (zL E 5 0 0) q (zI x) (some ba4r) ba5 (zI k) (zI k + (1 : Int32))
        else
        w_L_files_L34 MC MS K k2 fuel G kc ks o (zL E 5 0 0) q (zI x) (some ba4r) ba5 (zI (if nSk n x 12 < k then nSk n x 12 else -1)) (zI k + (1 : Int32))) := by
      intro ba5 ba4r hb hs
      subst hb
      refine ⟨_, r16, _, a16, fun h => (by cases h), fun r hr => ?_⟩
      obtain rfl : ySe E k = r := by injection hr
      have hm1 : nSk n x 12 ≠ -1 ∧ ba4r = ySe E (nSk n x 12) := by
        unfold ySv at hs
        split at hs
        · cases hs
        · rename_i z; exact ⟨z, (Option.some.inj hs).symm⟩
      rw [hs] at nxt
      rw [e1]
      have inj := ySe_inj hI.w hI.r k0 (by omega) (w := nSk n x 12) (by omega) (by omega)
      rw [hm1.2] at nxt ⊢
      by_cases d : k = nSk n x 12
      · rw [if_pos (by rw [← d])]
        rw [if_pos (by omega), ← d] at nxt
        rw [← d]
        exact nxt
      · rw [if_neg (fun z => d (inj.mp z))]
        have : (if nSk n x 12 < k then nSk n x 12 else -1) = (if nSk n x 12 < k + 1 then nSk n x 12 else -1) := by
          by_cases z : nSk n x 12 < k
          · rw [if_pos z, if_pos (by omega)]
          · rw [if_neg z, if_neg (by omega)]
        rw [this]
        exact nxt
    unfold w_L_files_L34
    refine ⟨fun h => ⟨fun h2 => ⟨_, hJ.i (yN hI.w hI.r).2.2.2.2.1, ?_⟩, fun r2 h2 => ⟨_, hJ.i (yN hI.w hI.r).2.2.2.2.1, ?_⟩⟩, fun r h => ⟨fun h2 => ⟨_, hJ.i (yN hI.w hI.r).2.2.2.2.1, ?_⟩, fun r2 h2 => ⟨_, hJ.i (yN hI.w hI.r).2.2.2.2.1, ?_⟩⟩⟩
    · rw [if_neg hle]; exact b0 none h2.symm h
    · rw [if_neg hle]; exact b0 (some r2) h2.symm h
    · rw [if_neg hle]; exact b1 none r h2.symm h
    · rw [if_neg hle]; exact b1 (some r2) r h2.symm h
/-- what is lost, found in a row beside -/
theorem yl_lostJ (hJ : yJ G A (zH E σ) T) (hn : nW n) (hI : yI E σ n) (hy : yW n) {q2 : Nat} (z2 : G q2 = none) {G2 : gH} (i2 : G2 = va_up G q2 (some (.inr (.inr (.inl (6, 10, fun _ => none)))))) : ∃ C R : gH, gd C R ∧ G2 = gj C R ∧ g_ob C (zL E 5 0 0) 10 = some () ∧ ∃ w, f_X10_lost C (zL E 5 0 0) q2 = some w ∧ w.2 = zI (nCr n) ∧ ∀ G3 : gH, gd w.1 R → G3 = gj w.1 R → ∃ x, yJ G3 A (zH E σ) (va_up T q2 (some x)) := by
  obtain ⟨nA, nB, nT⟩ := hJ.no z2
  obtain ⟨E8, w8, u8, l8, L8, H8⟩ := y_new8 hI.ok nB
  obtain ⟨σ0, hσ0⟩ : ∃ σ0, σ0 = zr σ 8 0 0 (fun _ => 0) := ⟨_, rfl⟩
  have nk8 : ∀ d, zU E 8 d = false := by
    intro d
    cases h : zU E 8 d with
    | false => rfl
    | true => have := hI.ok.2.2 8 d h; omega
  have hs0 : ∀ k d c, k ≠ 8 → σ0 k d c = σ k d c := fun k d c hk => by rw [hσ0]; unfold zr; rw [if_neg (by omega)]
  have keep : ∀ σ' : zW, (∀ k d c, k ≠ 8 → σ' k d c = σ k d c) → zH E σ' = zH E σ := fun σ' h => zH_cg (fun k d c hu => h k d c (by rintro rfl; rw [nk8] at hu; cases hu))
  have hB8 : zH E8 σ0 = va_up (zH E σ) q2 (some (.inr (.inr (.inl (6, 10, fun _ => none))))) := by
    rw [H8, keep σ0 hs0]
    have : σ0 8 0 0 = fun _ => 0 := by rw [hσ0]; unfold zr; simp
    rw [this]
    rfl
  have e5 : zL E8 5 0 0 = zL E 5 0 0 := l8 5 0 0 (by omega)
  have yr8 : yR E8 σ0 n := hI.r.E8 u8 hs0
  have hu8 : zU E8 8 0 = true := by rw [u8]; simp [yG1]
  obtain ⟨σ', f1, f2, f3⟩ := yl_lost w8 yr8 hn hy hu8
  rw [e5, L8] at f1
  refine ⟨_, gj A T, ?_, ?_, by rw [← e5]; simp only [zz_ldo w8 yr8.u], _, f1, rfl, fun G3 d3 e3 => ?_⟩
  · rw [hB8]
    exact gd_s (gd_up (gd_s hJ.b.1) (gj_n0.mpr ⟨nA, nT⟩))
  · rw [i2, hB8, ← gj_upL (gj_n0.mpr ⟨nA, nT⟩), ← hJ.b.2]
  · obtain ⟨ρ, hρ⟩ : ∃ ρ : Nat → Option Nat, ρ = fun j : Nat => if σ' 8 0 0 j = 0 then none else some (zL E8 7 (σ' 8 0 0 j - 1).toNat 0) := ⟨_, rfl⟩
    have hB3 : zH E8 σ' = va_up (zH E σ) q2 (some (.inr (.inr (.inl (6, 10, ρ))))) := by
      rw [H8, keep σ' (fun k d c hk => (f2 k d c hk).trans (hs0 k d c hk)), hρ]
      rfl
    refine ⟨.inr (.inr (.inl (6, 10, ρ))), ?_⟩
    have := hJ.upT nA nB (some (.inr (.inr (.inl (6, 10, ρ)))))
    rw [show G3 = va_up G q2 (some (.inr (.inr (.inl (6, 10, ρ))))) from ?_]
    · exact this
    · rw [e3]
      dsimp only
      rw [hB3, ← gj_upL (gj_n0.mpr ⟨nA, nT⟩), ← hJ.b.2]
theorem nWr_if (n : zN) (hN : nWn n) : (if nCr n = 0 then 2 else if n 3 = 12 then 3 else nWd n (nCr n)) = nWr n := by
  have h := hN.r
  unfold nWr
  by_cases z : nCr n = 0
  · rw [if_pos z, if_pos z]
  · rw [if_neg z, if_neg z]
    have hl : nLo n = true := by
      cases hh : nLo n with
      | true => rfl
      | false => exfalso; apply z; unfold nCr; rw [hh]; rfl
    obtain ⟨l0, l1⟩ := nLo_iff.mp hl
    have ho : nOp n = false := by
      cases hh : nOp n with
      | false => rfl
      | true => have := (nOp_iff.mp hh).2; omega
    unfold nTm
    rw [ho]
    by_cases z3 : n 3 = 12
    · rw [if_pos z3, if_pos (by simp; omega)]
    · rw [if_neg z3, if_neg (by simp; omega)]
/-- a block's risk, with its disc's mark set and taken back -/
theorem yf_J465 {MC MS kc ks : Nat} {k421 : gH → Nat → Nat → Nat → Nat → Nat → Int32 → Int32 → Int32 → Int32 → Prop} {b x r w : Int} (hJ : yJ G A (zH E σ) T) (hA : yCo A o n) (hI : yI E σ n) (hy : yW n) {f : Nat → Int32} (hq : T q = some (.inl (0, 1, f))) (b0 : 0 ≤ b) (b1 : b < n 0) (hr : 0 ≤ r ∧ r ≤ 96) (hx : x = if n (7 + b) = 0 ∧ n (199 + b) = 0 then 0 else 1) (hkc : kc + 1 ≤ MC) (hks : ks + 6 ≤ MS) (hk : ∀ G' A' T' f' kc' ks', kc' ≤ kc + 1 → ks' ≤ ks + 6 → yJ G' A' (zH E σ) T' → yCo A' o n → T' q = some (.inl (0, 1, f')) → k421 G' kc' ks' o (zL E 5 0 0) q (zM6 (nGd n) (n 2).toNat) (zI (if nRk n b ≤ r then r else nRk n b)) (zI (if nRk n b ≤ r then w else b)) (zI (b + 1))) : w_L_files_J465 MC MS K k421 G kc ks o (zL E 5 0 0) q (zM6 (nGd n) (n 2).toNat) (zI r) (zI w) (zI b) (zI (n (199 + b))) (zL E 5 0 13) (zI b) (zI x) := by
  have hn := hA.w
  have hN := hn.1.r
  have y2 := hy.1
  have hb := hn.2.1 b b0 (by omega)
  have zo := zz_ldo (σ := σ) hI.w hI.u
  obtain ⟨n1, hn1⟩ : ∃ n1, n1 = (if x = 1 then nSh n b else n) := ⟨_, rfl⟩
  have hx01 : x = 0 ∨ x = 1 := by rw [hx]; split <;> omega
  have hW1 : nW n1 := by
    rw [hn1]; split
    · exact nSh_W hn b0 (by omega)
    · exact hn
  have n1e : ∀ i, i ≠ 199 + b → n1 i = n i := fun i hi => by
    rw [hn1]; split
    · unfold nSh; rw [if_neg hi]
    · rfl
  have n1b : n1 (199 + b) = x := by
    rw [hn1]
    rcases hx01 with z | z
    · rw [if_neg (by omega), z]
      by_cases y : n (7 + b) = 0 ∧ n (199 + b) = 0
      · exact y.2
      · rw [if_neg y] at hx; omega
    · rw [if_pos z]; unfold nSh; rw [if_pos rfl, z]
  have hy1 : yW n1 := hy.lo (fun i hi => n1e i (by omega))
  obtain ⟨e0, e1, e2, e3, e4, e5, e6, e7⟩ := hI.blk
  have hI1 : yI E (zs σ 5 0 13 b x) n1 := by
    refine hI.own (fun k d hk => zs_kd (by omega)) (fun i hi => n1e i (by omega)) ?_ ⟨fun c c0 c1 => ?_, fun c c0 c1 => ?_, fun c c0 c1 => ?_, fun c c0 c1 => ?_, fun c c0 c1 => ?_, fun c c0 c1 => ?_, fun c c0 c1 => ?_, fun c c0 c1 => ?_⟩ (fun c hc => zs_ne (by omega))
    · unfold yRn
      rw [zs_ne (by omega), n1e 0 (by omega), n1e 1 (by omega), n1e 2 (by omega), n1e 4 (by omega), n1e 3 (by omega), n1e 6 (by omega), n1e 5 (by omega)]
      exact hI.num
    · rw [zs_ne (by omega), n1e _ (by omega)]; exact e0 c c0 c1
    · rw [zs_ne (by omega), n1e _ (by omega)]; exact e1 c c0 c1
    · rw [zs_ne (by omega), n1e _ (by omega)]; exact e2 c c0 c1
    · rw [zs_ne (by omega), n1e _ (by omega)]; exact e3 c c0 c1
    · rw [zs_ne (by omega), n1e _ (by omega)]; exact e4 c c0 c1
    · rw [zs_ne (by omega), n1e _ (by omega)]; exact e5 c c0 c1
    · rw [zs_at]
      by_cases z : c = b
      · rw [if_pos z, z, n1b]
      · rw [if_neg z, n1e _ (by omega)]; exact e6 c c0 c1
    · rw [zs_ne (by omega), n1e _ (by omega)]; exact e7 c c0 c1
  have p1 : g_ast 1 (zH E σ) (zL E 5 0 13) (zI b) (zI x) = some (zH E (zs σ 5 0 13 b x)) := by
    rcases hx01 with z | z <;> subst z
    · exact zAst (t := 1) (n := 96) (v := 0) hI.w hI.u rfl (by decide) (by decide) b0 (by omega) (by decide)
    · exact zAst (t := 1) (n := 96) (v := 1) hI.w hI.u rfl (by decide) (by decide) b0 (by omega) (by decide)
  have p2 : g_ast 1 (zH E (zs σ 5 0 13 b x)) (zL E 5 0 13) (zI b) (zI (n (199 + b))) = some (zH E σ) := by
    have hback : zs (zs σ 5 0 13 b x) 5 0 13 b (n (199 + b)) = σ := by
      rw [zs_zs]; exact zs_self (e6 b b0 (by omega))
    rcases hb.2.2.1 with z | z
    · have := zAst (t := 1) (n := 96) (v := 0) (k := 5) (d := 0) (c := 13) (i := b) (σ := zs σ 5 0 13 b x) hI.w hI.u rfl (by decide) (by decide) b0 (by omega) (by decide)
      rw [z] at hback ⊢
      rw [hback] at this
      exact this
    · have := zAst (t := 1) (n := 96) (v := 1) (k := 5) (d := 0) (c := 13) (i := b) (σ := zs σ 5 0 13 b x) hI.w hI.u rfl (by decide) (by decide) b0 (by omega) (by decide)
      rw [z] at hback ⊢
      rw [hback] at this
      exact this
  obtain ⟨G1, g1, hJ1⟩ := hJ.ast p1
  obtain ⟨G2, g2, hJ2⟩ := hJ1.ast p2
  have n12 : n1 2 = n 2 := n1e 2 (by omega)
  have hg := yl_good hI1.w hI1.r hW1 hy1
  rw [n12] at hg
  have hrk : zcn (fun f => nGd n f && !nGd n1 f) 0 (n 2).toNat = nRk n b := by
    unfold nRk
    have hself : zcn (fun f => nGd n f && !nGd n f) 0 (n 2).toNat = 0 := by
      rw [zcn_congr (Q := fun _ => false) _ _ (fun i _ _ => by cases nGd n i <;> rfl)]
      exact zcn_false _ _
    by_cases c : n (7 + b) = 0 ∨ n (199 + b) = 1
    · rw [if_pos c]
      have : n1 = n := by
        funext i
        by_cases z : i = 199 + b
        · rw [z, n1b, hx]
          rcases c with c | c
          · rcases hb.2.2.1 with y | y
            · rw [if_pos ⟨c, y⟩, y]
            · rw [if_neg (by omega), y]
          · rw [if_neg (by omega), c]
        · exact n1e i z
      rw [this, hself]
    · rw [if_neg c, hn1, if_pos (by rw [hx, if_neg (by omega)])]
  have rr := nRk_rng n b
  have bit := zM6_and (G := G1) (nGd n) (nGd n1) (k := (n 2).toNat) (by omega)
  rw [hrk] at bit
  unfold w_L_files_J465
  refine ⟨_, g1, _, _, hJ1.b.1, hJ1.b.2, (), yl_ob5 hI1, ⟨by omega, by omega⟩, _, hg, G1, fun _ => none, gd_n _, (gj_n _).symm, ⟨by omega, by omega⟩, _, bit, _, hJ1.r (show g_r (zH E (zs σ 5 0 13 b x)) (zL E 5 0 0) 10 13 = some (zL E 5 0 13) by simp only [zz_ldo hI.w hI.u]), _, g2, ?_⟩
  -- the draw and the question
  have quest : ∀ w' : Int, w' = (if nRk n b ≤ r then w else b) → w_L_files_J500 MC MS K k421 G2 kc ks o (zL E 5 0 0) q (zM6 (nGd n) (n 2).toNat) (zI r) (zI w') (zI b) (zI (nRk n b)) := by
    intro w' hw'
    subst hw'
    have emax : (if zI r < zI (nRk n b) then zI (nRk n b) else zI r) = zI (if nRk n b ≤ r then r else nRk n b) := by
      by_cases c : nRk n b ≤ r
      · rw [if_pos c, if_neg (by rw [zI_lt (by omega) (by omega) (by omega) (by omega)]; omega)]
      · rw [if_neg c, if_pos (by rw [zI_lt (by omega) (by omega) (by omega) (by omega)]; omega)]
    have e1 : (zI b + (1 : Int32)) = zI (b + 1) := zI_add b 1
    unfold w_L_files_J500
    refine ⟨⟨by omega, by omega⟩, ?_⟩
    obtain ⟨C3, R3, d3, e3, w3, p3, y, y0, y1, ey, nx3⟩ := hJ2.draw hq (m := 4) (by omega) (by omega)
    refine ⟨C3, R3, d3, e3, ⟨by omega, by omega⟩, w3, p3, fun G3 d3' e3' => ?_⟩
    obtain ⟨f3, hJ3⟩ := nx3 G3 d3' e3'
    rw [ey, emax, e1]
    split
    · refine ⟨_, _, hJ3.a.1, hJ3.a.2, (), hA.ob, ⟨by omega, by omega⟩, k_risk hA b0 b1 (fun A' hA' G4 d4 e4 => ?_)⟩
      have hJ4 := hJ3.a' d4 e4
      rw [if_pos rfl]
      exact hk G4 A' _ f3 _ _ (by omega) (by omega) hJ4 hA' gva_at
    · exact hk G3 A _ f3 _ _ (by omega) (by omega) hJ3 hA gva_at
  by_cases c : nRk n b ≤ r
  · rw [if_pos (show zI (nRk n b) ≤ zI r by rw [zI_le (by omega) (by omega) (by omega) (by omega)]; exact c)]
    exact quest w (by rw [if_pos c])
  · rw [if_neg (show ¬ zI (nRk n b) ≤ zI r by rw [zI_le (by omega) (by omega) (by omega) (by omega)]; exact c)]
    exact quest b (by rw [if_neg c])
theorem yf_L421 {MC MS : Nat} (hI : yI E σ n) (hy : yW n) (hK : ∀ G', yT o (zL E 5 0 0) q G' n → K (1 : Int32) G') : ∀ (m fuel : Nat) (b r w : Int) (G A T : gH) (f : Nat → Int32) (kc ks : Nat), yJ G A (zH E σ) T → yCo A o n → T q = some (.inl (0, 1, f)) → 0 ≤ b → b + m = n 0 → m < fuel → (0 ≤ r ∧ r ≤ 96) → zwk (nRk n) m b w r = zwk (nRk n) (n 0).toNat 0 0 0 → kc + m ≤ MC → ks + 6 * m ≤ MS → w_L_files_L421 MC MS K fuel G kc ks o (zL E 5 0 0) q (zM6 (nGd n) (n 2).toNat) (zI r) (zI w) (zI b) := by
  intro m
  induction m with
  | zero =>
    intro fuel b r w G A T f kc ks hJ hA hq b0 bm hf hr hz hkc hks
    cases fuel with
    | zero => omega
    | succ fuel =>
    have hN := hA.w.1.r
    obtain rfl : b = n 0 := by omega
    obtain ⟨p, p1, p2, p3⟩ := k_weakest hA
    unfold w_L_files_L421
    refine ⟨_, hJ.i (yN hI.w hI.r).1, ?_⟩
    rw [if_pos (show zI (n 0) ≤ zI (n 0) by rw [zI_le (by omega) (by omega) (by omega) (by omega)]; omega)]
    refine ⟨_, _, hJ.a.1, hJ.a.2, (), hA.ob, ⟨by omega, by omega⟩, _, p1, fun G2 d2 e2 => ?_⟩
    have hJ2 := hJ.a' d2 e2
    rw [p2, ← hz, if_pos (show zI (zwk (nRk n) 0 (n 0) w r) = zI w from rfl)]
    exact ⟨by omega, by omega, hK _ (yT.mk hJ2 p3 hI hy hq)⟩
  | succ m ih =>
    intro fuel b r w G A T f kc ks hJ hA hq b0 bm hf hr hz hkc hks
    cases fuel with
    | zero => omega
    | succ fuel =>
    have hn := hA.w
    have hN := hn.1.r
    have hb := hn.2.1 b b0 (by omega)
    have zo := zz_ldo (σ := σ) hI.w hI.u
    have rr := nRk_rng n b
    have r13 := hJ.r (show g_r (zH E σ) (zL E 5 0 0) 10 13 = some (zL E 5 0 13) by simp only [zo])
    have nxt : ∀ x : Int, (x = if n (7 + b) = 0 ∧ n (199 + b) = 0 then 0 else 1) → w_L_files_J465 MC MS K (w_L_files_L421 MC MS K fuel) G kc ks o (zL E 5 0 0) q (zM6 (nGd n) (n 2).toNat) (zI r) (zI w) (zI b) (zI (n (199 + b))) (zL E 5 0 13) (zI b) (zI x) := by
      intro x hx
      refine yf_J465 hJ hA hI hy hq b0 (by omega) hr hx (by omega) (by omega) (fun G' A' T' f' kc' ks' h1 h2 hJ' hA' hq' => ?_)
      refine ih fuel (b + 1) _ _ G' A' T' f' kc' ks' hJ' hA' hq' (by omega) (by omega) (by omega) (by split <;> omega) ?_ (by omega) (by omega)
      rw [← hz]
      show _ = if nRk n b ≤ r then zwk (nRk n) m (b + 1) w r else zwk (nRk n) m (b + 1) b (nRk n b)
      by_cases c : nRk n b ≤ r
      · rw [if_pos c, if_pos c, if_pos c]
      · rw [if_neg c, if_neg c, if_neg c]
    unfold w_L_files_L421
    refine ⟨_, hJ.i (yN hI.w hI.r).1, ?_⟩
    rw [if_neg (show ¬ zI (n 0) ≤ zI b by rw [zI_le (by omega) (by omega) (by omega) (by omega)]; omega)]
    refine ⟨_, r13, _, hJ.ald ((yB hI.w hI.r).2.2.2.2.2.2.1 b b0 (by omega)), _, r13, ?_⟩
    rcases hb.2.2.1 with c | c
    · rw [if_pos (show zI (n (199 + b)) = 0 by rw [c]; rfl)]
      refine ⟨_, hJ.r (show g_r (zH E σ) (zL E 5 0 0) 10 7 = some (zL E 5 0 7) by simp only [zo]), _, hJ.ald ((yB hI.w hI.r).1 b b0 (by omega)), ?_⟩
      by_cases d : n (7 + b) = 0
      · rw [if_pos (show zI (n (7 + b)) ≤ 0 by rw [d]; decide)]
        exact (show zI 0 = (0 : Int32) from rfl) ▸ nxt 0 (by rw [if_pos ⟨d, c⟩])
      · rw [if_neg (show ¬ zI (n (7 + b)) ≤ 0 by rw [show (0 : Int32) = zI 0 from rfl, zI_le (by omega) (by omega) (by omega) (by omega)]; omega)]
        exact (show zI 1 = (1 : Int32) from rfl) ▸ nxt 1 (by rw [if_neg (by omega)])
    · rw [if_neg (show ¬ zI (n (199 + b)) = 0 by rw [c]; decide)]
      exact (show zI 1 = (1 : Int32) from rfl) ▸ nxt 1 (by rw [if_neg (by omega)])
theorem yf_J401 {MC MS kc ks : Nat} {z : Int} (hJ : yJ G A (zH E σ) T) (hA : yCo A o n) (hI : yI E σ n) (hy : yW n) {f : Nat → Int32} (hq : T q = some (.inl (0, 1, f))) (hkc : kc + 47 ≤ MC) (hks : ks + 282 ≤ MS) (hK : ∀ G', yT o (zL E 5 0 0) q G' n → K (1 : Int32) G') : w_L_files_J401 MC MS K G kc ks o (zL E 5 0 0) q (zI z) (zI z) := by
  have hn := hA.w
  have hN := hn.1.r
  have y2 := hy.1
  unfold w_L_files_J401
  rw [if_pos rfl]
  refine ⟨_, _, hJ.b.1, hJ.b.2, (), yl_ob5 hI, ⟨by omega, by omega⟩, _, yl_good hI.w hI.r hn hy, ?_⟩
  have := yf_L421 (MC := MC) (MS := MS) (K := K) (o := o) (q := q) hI hy hK (n 0).toNat g_N 0 0 0 G A T f kc ks hJ hA hq (by omega) (by omega) (by unfold g_N; omega) (by omega) rfl (by omega) (by omega)
  exact this
theorem yf_L2 {MC MS : Nat} (hI : yI E σ n) (hy : yW n) (hK : ∀ G', yT o (zL E 5 0 0) q G' n → K (1 : Int32) G') : ∀ (m fuel : Nat) (x : Int) (G A T : gH) (f : Nat → Int32) (kc ks : Nat), yJ G A (zH E σ) T → yCo A o n → T q = some (.inl (0, 1, f)) → 0 ≤ x → x + m = n 2 → m < fuel → kc + 25 * m + 51 ≤ MC → ks + 151 * m + 310 ≤ MS → w_L_files_L2 MC MS K fuel G kc ks o (zL E 5 0 0) q (zI x) := by
  intro m
  induction m with
  | zero =>
    intro fuel x G A T f kc ks hJ hA hq x0 xm hf hkc hks
    cases fuel with
    | zero => omega
    | succ fuel =>
    have hn := hA.w
    have hN := hn.1.r
    have hlen := nCo_len hn
    have hcr0 := nCr_rng hn
    have hcr : nCr n ≤ n 2 := by
      unfold nCr
      split
      · exact nCr_files hn
      · omega
    obtain rfl : x = n 2 := by omega
    unfold w_L_files_L2
    refine ⟨_, hJ.i (yN hI.w hI.r).2.2.1, ?_⟩
    rw [if_pos (show zI (n 2) ≤ zI (n 2) by rw [zI_le (by omega) (by omega) (by omega) (by omega)]; omega)]
    refine ⟨⟨by omega, by omega⟩, fun q2 z2 G2 i2 => ?_⟩
    obtain ⟨C, R, d1, e1, ob, w, p1, p2, nx⟩ := yl_lostJ hJ hn hI hy z2 i2
    refine ⟨C, R, d1, e1, (), ob, ⟨by omega, by omega⟩, w, p1, fun G3 d3 e3 => ?_⟩
    obtain ⟨y, hJ3⟩ := nx G3 d3 e3
    have nT := (hJ.no z2).2.2
    have hq3 := va_keep (x := some y) hq nT
    rw [p2]
    refine ⟨_, _, hJ3.a.1, hJ3.a.2, (), hA.ob, ⟨by omega, by omega⟩, _, k_couldRecover hA, ?_⟩
    rw [hlen, if_pos rfl]
    refine ⟨_, _, hJ3.a.1, hJ3.a.2, (), hA.ob, ⟨by omega, by omega⟩, k_whyNot hA (x := 2) (by omega) (by omega) (fun A4 hA4 G4 d4 e4 => ?_)⟩
    have hJ4 := hJ3.a' d4 e4
    refine ⟨_, _, hJ4.b.1, hJ4.b.2, (), yl_ob5 hI, ⟨by omega, by omega⟩, _, yl_whyRecover hI.w hI.r hn hcr0.1 (by omega), ?_⟩
    rw [nWr_if n hn.1, if_pos (show zI (aWhyNot n 2) = zI (nWr n) from rfl)]
    refine ⟨_, _, hJ4.a.1, hJ4.a.2, (), hA4.ob, ⟨by omega, by omega⟩, k_whyNot hA4 (x := 0) (by omega) (by omega) (fun A5 hA5 G5 d5 e5 => ?_)⟩
    have hJ5 := hJ4.a' d5 e5
    refine ⟨_, _, hJ5.b.1, hJ5.b.2, (), yl_ob5 hI, ⟨by omega, by omega⟩, _, yl_whyClose hI.w hI.r hn hy, ?_⟩
    rw [if_pos (show zI (aWhyNot n 0) = zI (nWc n) from rfl)]
    refine ⟨_, _, hJ5.a.1, hJ5.a.2, (), hA5.ob, ⟨by omega, by omega⟩, k_whyNot hA5 (x := 1) (by omega) (by omega) (fun A6 hA6 G6 d6 e6 => ?_)⟩
    have hJ6 := hJ5.a' d6 e6
    refine ⟨_, _, hJ6.b.1, hJ6.b.2, (), yl_ob5 hI, ⟨by omega, by omega⟩, _, yl_open hI.w hI.r hn, ?_⟩
    have e1 : aWhyNot n 1 = zb (!nOp n) := rfl
    rw [e1]
    cases hop : nOp n
    · exact ⟨fun _ => yf_J401 (z := 1) hJ6 hA6 hI hy hq3 (by omega) (by omega) hK, fun r hr => by simp at hr⟩
    · exact ⟨fun h => by simp at h, fun r hr => yf_J401 (z := 0) hJ6 hA6 hI hy hq3 (by omega) (by omega) hK⟩
  | succ m ih =>
    intro fuel x G A T f kc ks hJ hA hq x0 xm hf hkc hks
    cases fuel with
    | zero => omega
    | succ fuel =>
    have hn := hA.w
    have hN := hn.1.r
    have y2 := hy.1
    have k34 : w_L_files_L34 MC MS K (w_L_files_L2 MC MS K fuel) g_N G kc ks o (zL E 5 0 0) q (zI x) (ySv E (nSk n x 12)) (yEv E (nFv n x 12)) (-1 : Int32) (0 : Int32) := by
      have := yf_L34 (MC := MC) (MS := MS) (K := K) (k2 := w_L_files_L2 MC MS K fuel) hJ hA hI hy x0 (by omega) hq (kc := kc) (ks := ks) (by omega) (by omega) (fun G' A' T' f' kc' ks' h1 h2 hJ' hA' hq' => ih fuel (x + 1) G' A' T' f' kc' ks' hJ' hA' hq' (by omega) (by omega) (by omega) (by omega) (by omega)) (n 3).toNat g_N 0 (by omega) (by omega) (by unfold g_N; omega)
      have sr := nSk_rng n x 12
      rw [show (if nSk n x 12 < 0 then nSk n x 12 else -1) = -1 by split <;> omega] at this
      exact this
    have hv := yl_version hI.w hI.r hn hy (f := x) x0 (by omega) (x := 12) (by omega) (by omega)
    have hc := yl_counting hI.w hI.r hn hy (f := x) x0 (by omega) (x := 12) (by omega) (by omega)
    have ev : (if nFv n x 12 = -1 then none else some (yVe E (nFv n x 12))) = yEv E (nFv n x 12) := rfl
    have ec : (if nSk n x 12 = -1 then none else some (ySe E (nSk n x 12))) = ySv E (nSk n x 12) := rfl
    rw [ev] at hv
    rw [ec] at hc
    unfold w_L_files_L2
    refine ⟨_, hJ.i (yN hI.w hI.r).2.2.1, ?_⟩
    rw [if_neg (show ¬ zI (n 2) ≤ zI x by rw [zI_le (by omega) (by omega) (by omega) (by omega)]; omega)]
    refine ⟨_, _, hJ.b.1, hJ.b.2, (), yl_ob5 hI, ⟨by omega, by omega⟩, _, hc, fun h => ?_, fun r h => ?_⟩
    · refine ⟨_, _, hJ.b.1, hJ.b.2, (), yl_ob5 hI, ⟨by omega, by omega⟩, _, hv, fun h2 => ?_, fun r2 h2 => ?_⟩
      · rw [h, h2] at k34; exact k34
      · rw [← h, ← h2]; exact k34
    · refine ⟨_, _, hJ.b.1, hJ.b.2, (), yl_ob5 hI, ⟨by omega, by omega⟩, _, hv, fun h2 => ?_, fun r2 h2 => ?_⟩
      · rw [← h, ← h2]; exact k34
      · rw [← h, ← h2]; exact k34
theorem yl_files {e : Nat} (h : yT o e q G n) (hK : ∀ G', yT o e q G' n → K (1 : Int32) G') : w_L_files 600 6000 G o e q K := by
  obtain ⟨A, B, T, f, hJ, hA, ⟨E, σ, hI, rfl, rfl⟩, hy, hq⟩ := h
  have hn := hA.w
  have hN := hn.1.r
  have y2 := hy.1
  unfold w_L_files
  exact yf_L2 hI hy hK (n 2).toNat g_N 0 G A T f 0 0 hJ hA hq (by omega) (by omega) (by unfold g_N; omega) (by omega) (by omega)
end zH_


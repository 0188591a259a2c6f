/-! Drawing; a row of found versions beside. -/
section yS
variable {G A B T : gH}
theorem zI_24 (x : UInt32) (h : x.toNat < 2147483648) : x.toInt32 = zI x.toNat := by
  rw [← Int32.toInt_inj, zI_toInt (by omega) (by omega)]
  show x.toBitVec.toInt = _
  have h2 : x.toBitVec.toNat = x.toNat := rfl
  rw [BitVec.toInt_eq_toNat_of_lt (by omega), h2]
theorem zI_sh8 (x : Int32) : ∃ y : Int, 0 ≤ y ∧ y < 16777216 ∧ (x.toUInt32 >>> ((8 : Int32).toUInt32 &&& Int32.toUInt32 31)).toInt32 = zI y := by
  have e : ((8 : Int32).toUInt32 &&& Int32.toUInt32 31) = 8 := by decide
  rw [e]
  have hx := x.toUInt32.toNat_lt
  have h1 : (x.toUInt32 >>> 8).toNat = x.toUInt32.toNat / 256 := by
    rw [UInt32.toNat_shiftRight]
    simp [Nat.shiftRight_eq_div_pow]
  refine ⟨(x.toUInt32 >>> 8).toNat, by omega, by omega, zI_24 _ (by omega)⟩
theorem zI_rem {y m : Int} (y0 : 0 ≤ y) (y1 : y < 16777216) (m0 : 0 < m) (m1 : m < 100000) : ∃ r, 0 ≤ r ∧ r < m ∧ g_rem (zI y) (zI m) = some (zI r) := by
  refine ⟨y.tmod m, Int.tmod_nonneg m y0, Int.tmod_lt_of_pos y m0, ?_⟩
  unfold g_rem
  rw [if_neg (by rw [show (0 : Int32) = zI 0 from rfl, zI_eq (by omega) (by omega) (by omega) (by omega)]; omega), zI_div (by omega) (by omega) (by omega) (by omega), zI_mul, zI_sub]
  have := Int.tdiv_mul_add_tmod y m
  rw [show y - y.tdiv m * m = y.tmod m by omega]
/-- a draw: the row alone changes -/
theorem yJ.draw (h : yJ G A B T) {q : Nat} {f : Nat → Int32} (hq : T q = some (.inl (0, 1, f))) {m : Int} (m0 : 0 < m) (m1 : m < 100000) : ∃ C R : gH, gd C R ∧ G = gj C R ∧ ∃ w, f_L_draw C q (zI m) = some w ∧ ∃ r : Int, 0 ≤ r ∧ r < m ∧ w.2 = zI r ∧ ∀ G' : gH, gd w.1 R → G' = gj w.1 R → ∃ f', yJ G' A B (va_up T q (some (.inl (0, 1, f')))) := by
  obtain ⟨t1, t2, t3⟩ := h.tt hq
  obtain ⟨x, hx⟩ : ∃ x : Int32, x = f 0 * (1664525 : Int32) + (1013904223 : Int32) := ⟨_, rfl⟩
  obtain ⟨y, y0, y1, hy⟩ := zI_sh8 x
  obtain ⟨r, r0, r1, hr⟩ := zI_rem y0 y1 m0 m1
  refine ⟨va_up (fun _ => none) q (some (.inl (0, 1, f))), fun a => if a = q then none else G a, fun a => ?_, ?_, (va_up (fun _ => none) q (some (.inl (0, 1, upd f 0 x))), zI r), ?_, r, r0, r1, rfl, fun G' _ hG => ⟨upd f 0 x, ?_⟩⟩
  · by_cases z : a = q
    · right; simp [z]
    · left; rw [gva_ne z]
  · funext a
    unfold gj
    by_cases z : a = q
    · rw [z, gva_at]; exact t1
    · rw [gva_ne z]; simp [z]
  · unfold f_L_draw g_ald g_ast
    rw [gva_at]
    simp only [zz_some, true_and]
    rw [if_pos (by decide), zz_some, if_pos (by decide), zz_some, gva_at]
    simp only [true_and]
    rw [if_pos (by decide), zz_some]
    have e : upd f (0 : Int32).toNatClampNeg (g_nar 0 (f (0 : Int32).toNatClampNeg * 1664525 + 1013904223)) (0 : Int32).toNatClampNeg = x := by
      rw [hx]; simp [upd, g_nar]
    rw [e, hy, hr, zz_some]
    refine congrArg some (Prod.ext ?_ rfl)
    funext a
    dsimp only
    by_cases z : a = q
    · rw [z, gva_at, gva_at, hx]; rfl
    · rw [gva_ne z, gva_ne z, gva_ne z]
  · have := h.upT t2 t3 (some (.inl (0, 1, upd f 0 x)))
    rw [show G' = va_up G q (some (.inl (0, 1, upd f 0 x))) from ?_]
    · exact this
    · rw [hG]
      funext a
      unfold gj
      dsimp only
      by_cases z : a = q
      · rw [z, gva_at, gva_at]
      · rw [gva_ne z, gva_ne z]; simp [z]
end yS
/-- a row of versions beside the law's world, seen as its kind 8 -/
theorem y_new8 {E : zE} {σ : zW} {n : zN} (hO : yOk E n) {q : Nat} (hq : zH E σ q = none) : ∃ E8, zWF E8 ∧ (∀ k d, zU E8 k d = (zU E k d || yG1 8 0 k d)) ∧ (∀ k d c, ¬ (k = 8 ∧ d = 0) → zL E8 k d c = zL E k d c) ∧ zL E8 8 0 0 = q ∧ ∀ σ' : zW, zH E8 σ' = va_up (zH E σ') q (zC E8 8 0 0 (σ' 8 0 0)) := by
  obtain ⟨hW, h9, hk⟩ := hO
  have hus : zU E 8 0 = false := by
    cases h : zU E 8 0 with
    | false => rfl
    | true => have := hk 8 0 h; omega
  obtain ⟨T, hT⟩ : ∃ T : List (Nat × Nat × Nat × Nat), T = [(q, 8, 0, 0)] := ⟨_, rfl⟩
  have h1 : (T.map Prod.fst).Nodup := by rw [hT]; simp
  have h2 : (T.map Prod.snd).Nodup := by rw [hT]; simp
  have h3 : ∀ p ∈ T, yG1 8 0 p.2.1 p.2.2.1 = true := by rw [hT]; intro p hp; simp only [List.mem_cons, List.not_mem_nil, or_false] at hp; subst hp; simp [yG1]
  have zk8 : ∀ c, zk 8 c = true → c = 0 := by
    intro c hz
    cases c with
    | zero => rfl
    | succ m => exact absurd hz (by simp [zk, zA, zB])
  have h4 : ∀ k d c, yG1 8 0 k d = true → zk k c = true → ∃ a, (a, k, d, c) ∈ T := by
    intro k d c hkd hz
    obtain ⟨rfl, rfl⟩ := yG1_iff.mp hkd
    obtain rfl := zk8 c hz
    exact ⟨q, by rw [hT]; simp⟩
  have h5 : ∀ k d, yG1 8 0 k d = true → zU E k d = false := by
    intro k d hkd
    obtain ⟨rfl, rfl⟩ := yG1_iff.mp hkd
    exact hus
  have h6 : ∀ σ' : zW, ∀ p ∈ T, zH E σ' p.1 = none := by
    intro σ'
    rw [hT]; intro p hp; simp only [List.mem_cons, List.not_mem_nil, or_false] at hp; subst hp
    show zH E σ' q = none
    have hq' := hq
    unfold zH at hq' ⊢
    split
    · rename_i hu
      rw [if_pos hu] at hq'
      unfold zC at hq' ⊢
      cases hA : zA (zO E q).1 (zO E q).2.2 with
      | some p => rw [hA] at hq'; cases hq'
      | none =>
        rw [hA] at hq'
        simp only [Option.map_eq_none_iff] at hq' ⊢
        have hb : ∀ (k d c : Nat) (r r' : Int → Int), zB E k d c r = none → zB E k d c r' = none := by
          intro k d c r r' hh
          unfold zB at hh ⊢
          split at hh <;> first | rfl | cases hh
        exact hb _ _ _ _ _ hq'
    · rfl
  have l0 : zL (yE E (yG1 8 0) T) 8 0 0 = q := yE_L1 (p := (q, 8, 0, 0)) h2 (by rw [hT]; simp) (by simp [yG1])
  have hL : ∀ k d c, ¬ (k = 8 ∧ d = 0) → zL (yE E (yG1 8 0) T) k d c = zL E k d c := fun k d c h => yE_L2 (fun z => h (yG1_iff.mp z))
  refine ⟨yE E (yG1 8 0) T, yE_WF (σ := σ) hW h1 h2 h3 h4 h5 (h6 σ), fun k d => yE_U, hL, l0, fun σ' => ?_⟩
  refine yE_H (σ := σ') h1 h3 ⟨h9, by simp [yG1]⟩ ?_ ?_ ?_
  · rw [hT]; intro p hp; simp only [List.mem_cons, List.not_mem_nil, or_false] at hp; subst hp
    show va_up (zH E σ') q _ q = _
    rw [gva_at]
  · intro a ha
    rw [gva_ne (fun z => ha (q, 8, 0, 0) (by rw [hT]; simp) z.symm)]
  · intro k d c hu
    have hne : ¬ (k = 8 ∧ d = 0) := by rintro ⟨rfl, rfl⟩; rw [hus] at hu; cases hu
    rcases hk k d hu with ⟨rfl, rfl⟩ | ⟨rfl, hd⟩ | ⟨rfl, hd⟩
    · exact zC_5 (fun c' => hL 5 0 c' (by omega)) (fun _ j => Or.inr (hL 7 _ 0 (by omega))) (fun _ j => Or.inr (hL 7 _ 0 (by omega))) (fun _ j => Or.inr (hL 6 _ 0 (by omega)))
    · exact zC_6 (fun c' => hL 6 d c' (by omega)) (fun _ j => Or.inr (hL 7 _ 0 (by omega)))
    · exact zC_7 (fun c' => hL 7 d c' (by omega))


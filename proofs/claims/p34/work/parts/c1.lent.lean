/-! What holds at the law's entry. By program (wip/p34/tools/lawstart34.py). -/
abbrev st_k : List Nat := [91, 114, 118, 123, 128, 133]
abbrev st_tm (i : Nat) : Term := Term.string RX4 (st_k.getD i 0)
abbrev st_kL : List Nat := [58, 66, 68, 81, 86, 95]
abbrev st_tmL (i : Nat) : Term := Term.string RL (st_kL.getD i 0)
abbrev st_t0 (j : Nat) : Cond := Cond.eq (.elem (.static "java/lang/Integer" "DigitOnes" "[B") (.int (Int32.ofNat j))) (.int (Int32.ofNat (48 + j % 10)))
abbrev st_t1 (j : Nat) : Cond := Cond.eq (.elem (.static "java/lang/Integer" "DigitTens" "[B") (.int (Int32.ofNat j))) (.int (Int32.ofNat (48 + j / 10)))
theorem st_f0 : ((flatC (Jvm.Cond.and given_1 narrow_1)).drop 12).take 100 = (List.range 100).map st_t0 := by decide +kernel
theorem st_f1 : ((flatC (Jvm.Cond.and given_1 narrow_1)).drop 115).take 100 = (List.range 100).map st_t1 := by decide +kernel
theorem st_d0 : ∀ j, j < 100 → st_t0 j ∈ flatC (Jvm.Cond.and given_1 narrow_1) := fun j hj => by
  have h : st_t0 j ∈ ((flatC (Jvm.Cond.and given_1 narrow_1)).drop 12).take 100 := by
    rw [st_f0]
    exact List.mem_map.mpr ⟨j, List.mem_range.mpr hj, rfl⟩
  exact List.mem_of_mem_drop (List.mem_of_mem_take h)
theorem st_d1 : ∀ j, j < 100 → st_t1 j ∈ flatC (Jvm.Cond.and given_1 narrow_1) := fun j hj => by
  have h : st_t1 j ∈ ((flatC (Jvm.Cond.and given_1 narrow_1)).drop 115).take 100 := by
    rw [st_f1]
    exact List.mem_map.mpr ⟨j, List.mem_range.mpr hj, rfl⟩
  exact List.mem_of_mem_drop (List.mem_of_mem_take h)
section zSt
variable {args : Array Value} {s : State}
theorem st_arr {t : FieldType} (h : (Cond.arrayClass t).before args s = true) (ht : ∀ C, t ≠ .object C) : ∃ cA, ArrOfT s cA t ∧ va_RA s cA t := by
  obtain ⟨c, k, comp, h1, h2, h3⟩ := Cond.arrayClass_spec h
  refine ⟨c, fun n z => ⟨fun k h => (by cases h), k, h2, comp, h3⟩, ?_⟩
  cases t with
  | object C => exact absurd rfl (ht C)
  | _ => exact h1
theorem st_arrq {C : String} (h : (Cond.arrayOver (.object C)).before args s = true) : ∃ cA, ArrOfT s cA (.object C) ∧ va_RA s cA (.object C) := by
  obtain ⟨comp, c, k, h1, h2, h3, h4, h5⟩ := Cond.arrayOver_spec h
  exact ⟨c, fun n z => ⟨fun k h => (by cases h), k, h3, comp, h4⟩, k, comp, h3, h4, h1, h5⟩
theorem st_cls (hts : ∀ w ∈ wsL_law, w.before args s = true) : ∀ c : Nat, ∃ x : ClassId × (Nat → Nat), ∀ q : vw_C, vwCl[c]? = some q → u_Kn s q.1 q.2.1 q.2.2 x.1 x.2 := by
  intro c
  match c with
  | 0 =>
    obtain ⟨cC, iS, h⟩ := u_known (C := RX0) (T := TX0) (N := 11) (n := 11) hts inlX0 (hts _ qA_X0)
    exact ⟨(cC, iS), fun q hq => by cases hq; exact h⟩
  | 1 =>
    obtain ⟨cC, iS, h⟩ := u_known (C := RX1) (T := TX1) (N := 7) (n := 7) hts inlX1 (hts _ qA_X1)
    exact ⟨(cC, iS), fun q hq => by cases hq; exact h⟩
  | 2 =>
    obtain ⟨cC, iS, h⟩ := u_known (C := RX2) (T := TX2) (N := 3) (n := 3) hts inlX2 (hts _ qA_X2)
    exact ⟨(cC, iS), fun q hq => by cases hq; exact h⟩
  | 3 =>
    obtain ⟨cC, iS, h⟩ := u_known (C := RX3) (T := TX3) (N := 2) (n := 2) hts inlX3 (hts _ qA_X3)
    exact ⟨(cC, iS), fun q hq => by cases hq; exact h⟩
  | 4 =>
    obtain ⟨cC, iS, h⟩ := u_known (C := RX4) (T := TX4) (N := 15) (n := 15) hts inlX4 (hts _ qA_X4)
    exact ⟨(cC, iS), fun q hq => by cases hq; exact h⟩
  | 5 =>
    obtain ⟨cC, iS, h⟩ := u_known (C := RX5) (T := TX5) (N := 8) (n := 8) hts inlX5 (hts _ qA_X5)
    exact ⟨(cC, iS), fun q hq => by cases hq; exact h⟩
  | 6 =>
    obtain ⟨cC, iS, h⟩ := u_known (C := RX6) (T := TX6) (N := 2) (n := 2) hts inlX6 (hts _ qA_X6)
    exact ⟨(cC, iS), fun q hq => by cases hq; exact h⟩
  | 7 =>
    obtain ⟨cC, iS, h⟩ := u_known (C := RX7) (T := TX7) (N := 6) (n := 6) hts inlX7 (hts _ qA_X7)
    exact ⟨(cC, iS), fun q hq => by cases hq; exact h⟩
  | 8 =>
    obtain ⟨cC, iS, h⟩ := u_known (C := RX8) (T := TX8) (N := 5) (n := 5) hts inlX8 (hts _ qA_X8)
    exact ⟨(cC, iS), fun q hq => by cases hq; exact h⟩
  | 9 =>
    obtain ⟨cC, iS, h⟩ := u_known (C := RX9) (T := TX9) (N := 7) (n := 7) hts inlX9 (hts _ qA_X9)
    exact ⟨(cC, iS), fun q hq => by cases hq; exact h⟩
  | 10 =>
    obtain ⟨cC, iS, h⟩ := u_known (C := RX10) (T := TX10) (N := 17) (n := 17) hts inlX10 (hts _ qA_X10)
    exact ⟨(cC, iS), fun q hq => by cases hq; exact h⟩
  | 11 =>
    obtain ⟨cC, iS, h⟩ := u_known (C := RX11) (T := TX11) (N := 5) (n := 5) hts inlX11 (hts _ qA_X11)
    exact ⟨(cC, iS), fun q hq => by cases hq; exact h⟩
  | 12 =>
    obtain ⟨cC, iS, h⟩ := u_known (C := RX12) (T := TX12) (N := 9) (n := 9) hts inlX12 (hts _ qA_X12)
    exact ⟨(cC, iS), fun q hq => by cases hq; exact h⟩
  | 13 =>
    obtain ⟨cC, iS, h⟩ := u_known (C := RX13) (T := TX13) (N := 7) (n := 7) hts inlX13 (hts _ qA_X13)
    exact ⟨(cC, iS), fun q hq => by cases hq; exact h⟩
  | 14 =>
    obtain ⟨cC, iS, h⟩ := u_known (C := RJ0) (T := TJ0) (N := 4) (n := 4) hts inlJ0 (hts _ qA_J0)
    exact ⟨(cC, iS), fun q hq => by cases hq; exact h⟩
  | 15 =>
    obtain ⟨cC, iS, h⟩ := u_known (C := RJ4) (T := TJ4) (N := 4) (n := 4) hts inlJ4 (hts _ qA_J4)
    exact ⟨(cC, iS), fun q hq => by cases hq; exact h⟩
  | c + 16 => exact ⟨(0, fun _ => 0), fun q hq => by simp [vwCl] at hq⟩
theorem st_nests : ∀ q ∈ g_nests, Cond.methodLinkNest q.1 q.2.1 q.2.2 "OnceDisc" ∈ lw_tbl := by decide +kernel
theorem st_nestsL : ∀ q ∈ g_nestsL, Cond.methodLinkNest q.1 q.2.1 q.2.2 "OnceDiscLaw" ∈ lw_tbl := by decide +kernel
theorem st_fnests : ∀ q ∈ g_fnests, Cond.fieldLinkNest q.1 q.2.1 q.2.2.1 q.2.2.2.1 q.2.2.2.2 "OnceDiscLaw" ∈ lw_tbl := by decide +kernel
theorem st_K (hts0 : ∀ w ∈ lw_tbl, w.before args s = true) (hts : ∀ w ∈ wsL_law, w.before args s = true) : ∃ (cT : Nat → ClassId), ∀ f : Nat → Nat → Nat, ∃ dd : va_G, (∀ k, 100 ≤ k → dd.2 k = f k) ∧ g_K dd cT s := by
  obtain ⟨c0, a0⟩ := st_arr (t := .int) (hts _ qR_int) (fun C h => by cases h)
  obtain ⟨c1, a1⟩ := st_arr (t := .boolean) (hts _ qR_boolean) (fun C h => by cases h)
  obtain ⟨c2, a2⟩ := st_arr (t := .byte) (hts _ qR_byte) (fun C h => by cases h)
  obtain ⟨c3, a3⟩ := st_arr (t := .long) (hts _ qR_long) (fun C h => by cases h)
  obtain ⟨c4, a4⟩ := st_arrq (C := "OnceDisc$Disc") (hts0 (Cond.arrayOver (.object "OnceDisc$Disc")) (by decide +kernel))
  obtain ⟨c5, a5⟩ := st_arrq (C := "OnceDiscLaw$Session") (hts0 (Cond.arrayOver (.object "OnceDiscLaw$Session")) (by decide +kernel))
  obtain ⟨c6, a6⟩ := st_arrq (C := "OnceDiscLaw$Version") (hts0 (Cond.arrayOver (.object "OnceDiscLaw$Version")) (by decide +kernel))
  refine ⟨fun k => match k with | 0 => c0 | 1 => c1 | 2 => c2 | 3 => c3 | 4 => c4 | 5 => c5 | _ => c6, fun f => ?_⟩
  have hc := st_cls hts
  refine ⟨(fun c => (Classical.choose (hc c)).1, fun c => if 100 ≤ c then f c else (Classical.choose (hc c)).2), fun k hk => if_pos hk, ⟨fun c q hq => ?_, fun k q hq => ?_⟩, fun q hq => va_Nw.of rfl (hts0 _ (st_nests q hq)), fun q hq => va_Nw.of rfl (hts0 _ (st_nestsL q hq)), fun q hq => va_Nw.of rfl (hts0 _ (st_fnests q hq)), va_AO.of (hts0 (Cond.arrayOver (.object "OnceDiscLaw$Session")) (by decide +kernel)), va_AO.of (hts0 (Cond.arrayOver (.object "OnceDiscLaw$Version")) (by decide +kernel))⟩
  · have hlt : c < 16 := (List.getElem?_eq_some_iff.mp hq).1
    have h := Classical.choose_spec (hc c) q hq
    show u_Kn s q.1 q.2.1 q.2.2 (Classical.choose (hc c)).1 (if 100 ≤ c then f c else (Classical.choose (hc c)).2)
    rw [if_neg (by omega)]
    exact h
  · match k, hq with
    | 0, hq => cases hq; exact a0
    | 1, hq => cases hq; exact a1
    | 2, hq => cases hq; exact a2
    | 3, hq => cases hq; exact a3
    | 4, hq => cases hq; exact a4
    | 5, hq => cases hq; exact a5
    | 6, hq => cases hq; exact a6
    | k + 7, hq => simp [g_tys] at hq
theorem st_S (hgv : (Jvm.Cond.and given_1 narrow_1).before args s = true) {A : Nat → Prop} (hA : ∀ a : Nat, a < s.heap.size → ¬ A a) : ∃ adK adV : Nat → Nat, vk_S 6 g_len0 g_byt adK adV A s s.heap ∧ ∀ i : Nat, i < 6 → (st_tm i).eval args s none [] s = some (.ref (adK i)) := by
  have hs := flat_of_before _ hgv
  refine vk_Sof (N := 6) (tm := st_tm) (len := g_len0) (byt := g_byt) (fun i hi => ?_) (fun i hi => ?_) (fun i hi => ?_) (fun i hi => ?_) (fun i hi => ?_) (fun i hi j hj => ?_) (fun i j hi hj hij => ?_) hA
  · rcases (show i = 0 ∨ i = 1 ∨ i = 2 ∨ i = 3 ∨ i = 4 ∨ i = 5 by omega) with rfl | rfl | rfl | rfl | rfl | rfl
    all_goals decide
  · rcases (show i = 0 ∨ i = 1 ∨ i = 2 ∨ i = 3 ∨ i = 4 ∨ i = 5 by omega) with rfl | rfl | rfl | rfl | rfl | rfl
    · exact hs (Cond.exactly (Term.string RX4 91) "java/lang/String") (by decide +kernel)
    · exact hs (Cond.exactly (Term.string RX4 114) "java/lang/String") (by decide +kernel)
    · exact hs (Cond.exactly (Term.string RX4 118) "java/lang/String") (by decide +kernel)
    · exact hs (Cond.exactly (Term.string RX4 123) "java/lang/String") (by decide +kernel)
    · exact hs (Cond.exactly (Term.string RX4 128) "java/lang/String") (by decide +kernel)
    · exact hs (Cond.exactly (Term.string RX4 133) "java/lang/String") (by decide +kernel)
  · rcases (show i = 0 ∨ i = 1 ∨ i = 2 ∨ i = 3 ∨ i = 4 ∨ i = 5 by omega) with rfl | rfl | rfl | rfl | rfl | rfl
    · exact hs (Cond.eq (.field (Term.string RX4 91) "java/lang/String" "coder" "B") (.int 0)) (by decide +kernel)
    · exact hs (Cond.eq (.field (Term.string RX4 114) "java/lang/String" "coder" "B") (.int 0)) (by decide +kernel)
    · exact hs (Cond.eq (.field (Term.string RX4 118) "java/lang/String" "coder" "B") (.int 0)) (by decide +kernel)
    · exact hs (Cond.eq (.field (Term.string RX4 123) "java/lang/String" "coder" "B") (.int 0)) (by decide +kernel)
    · exact hs (Cond.eq (.field (Term.string RX4 128) "java/lang/String" "coder" "B") (.int 0)) (by decide +kernel)
    · exact hs (Cond.eq (.field (Term.string RX4 133) "java/lang/String" "coder" "B") (.int 0)) (by decide +kernel)
  · rcases (show i = 0 ∨ i = 1 ∨ i = 2 ∨ i = 3 ∨ i = 4 ∨ i = 5 by omega) with rfl | rfl | rfl | rfl | rfl | rfl
    · exact hs (Cond.arrayOf (Term.field (Term.string RX4 91) "java/lang/String" "value" "[B") .byte) (by decide +kernel)
    · exact hs (Cond.arrayOf (Term.field (Term.string RX4 114) "java/lang/String" "value" "[B") .byte) (by decide +kernel)
    · exact hs (Cond.arrayOf (Term.field (Term.string RX4 118) "java/lang/String" "value" "[B") .byte) (by decide +kernel)
    · exact hs (Cond.arrayOf (Term.field (Term.string RX4 123) "java/lang/String" "value" "[B") .byte) (by decide +kernel)
    · exact hs (Cond.arrayOf (Term.field (Term.string RX4 128) "java/lang/String" "value" "[B") .byte) (by decide +kernel)
    · exact hs (Cond.arrayOf (Term.field (Term.string RX4 133) "java/lang/String" "value" "[B") .byte) (by decide +kernel)
  · rcases (show i = 0 ∨ i = 1 ∨ i = 2 ∨ i = 3 ∨ i = 4 ∨ i = 5 by omega) with rfl | rfl | rfl | rfl | rfl | rfl
    · exact hs (Cond.eq (.length (Term.field (Term.string RX4 91) "java/lang/String" "value" "[B")) (.int 4)) (by decide +kernel)
    · exact hs (Cond.eq (.length (Term.field (Term.string RX4 114) "java/lang/String" "value" "[B")) (.int 3)) (by decide +kernel)
    · exact hs (Cond.eq (.length (Term.field (Term.string RX4 118) "java/lang/String" "value" "[B")) (.int 4)) (by decide +kernel)
    · exact hs (Cond.eq (.length (Term.field (Term.string RX4 123) "java/lang/String" "value" "[B")) (.int 5)) (by decide +kernel)
    · exact hs (Cond.eq (.length (Term.field (Term.string RX4 128) "java/lang/String" "value" "[B")) (.int 5)) (by decide +kernel)
    · exact hs (Cond.eq (.length (Term.field (Term.string RX4 133) "java/lang/String" "value" "[B")) (.int 5)) (by decide +kernel)
  · rcases (show i = 0 ∨ i = 1 ∨ i = 2 ∨ i = 3 ∨ i = 4 ∨ i = 5 by omega) with rfl | rfl | rfl | rfl | rfl | rfl
    · have hj : j < 4 := hj
      rcases (show j = 0 ∨ j = 1 ∨ j = 2 ∨ j = 3 by omega) with rfl | rfl | rfl | rfl
      · exact hs (Cond.eq (.elem (Term.field (Term.string RX4 91) "java/lang/String" "value" "[B") (.int 0)) (.int 100)) (by decide +kernel)
      · exact hs (Cond.eq (.elem (Term.field (Term.string RX4 91) "java/lang/String" "value" "[B") (.int 1)) (.int 105)) (by decide +kernel)
      · exact hs (Cond.eq (.elem (Term.field (Term.string RX4 91) "java/lang/String" "value" "[B") (.int 2)) (.int 115)) (by decide +kernel)
      · exact hs (Cond.eq (.elem (Term.field (Term.string RX4 91) "java/lang/String" "value" "[B") (.int 3)) (.int 99)) (by decide +kernel)
    · have hj : j < 3 := hj
      rcases (show j = 0 ∨ j = 1 ∨ j = 2 by omega) with rfl | rfl | rfl
      · exact hs (Cond.eq (.elem (Term.field (Term.string RX4 114) "java/lang/String" "value" "[B") (.int 0)) (.int 98)) (by decide +kernel)
      · exact hs (Cond.eq (.elem (Term.field (Term.string RX4 114) "java/lang/String" "value" "[B") (.int 1)) (.int 97)) (by decide +kernel)
      · exact hs (Cond.eq (.elem (Term.field (Term.string RX4 114) "java/lang/String" "value" "[B") (.int 2)) (.int 100)) (by decide +kernel)
    · have hj : j < 4 := hj
      rcases (show j = 0 ∨ j = 1 ∨ j = 2 ∨ j = 3 by omega) with rfl | rfl | rfl | rfl
      · exact hs (Cond.eq (.elem (Term.field (Term.string RX4 118) "java/lang/String" "value" "[B") (.int 0)) (.int 102)) (by decide +kernel)
      · exact hs (Cond.eq (.elem (Term.field (Term.string RX4 118) "java/lang/String" "value" "[B") (.int 1)) (.int 105)) (by decide +kernel)
      · exact hs (Cond.eq (.elem (Term.field (Term.string RX4 118) "java/lang/String" "value" "[B") (.int 2)) (.int 108)) (by decide +kernel)
      · exact hs (Cond.eq (.elem (Term.field (Term.string RX4 118) "java/lang/String" "value" "[B") (.int 3)) (.int 101)) (by decide +kernel)
    · have hj : j < 5 := hj
      rcases (show j = 0 ∨ j = 1 ∨ j = 2 ∨ j = 3 ∨ j = 4 by omega) with rfl | rfl | rfl | rfl | rfl
      · exact hs (Cond.eq (.elem (Term.field (Term.string RX4 123) "java/lang/String" "value" "[B") (.int 0)) (.int 119)) (by decide +kernel)
      · exact hs (Cond.eq (.elem (Term.field (Term.string RX4 123) "java/lang/String" "value" "[B") (.int 1)) (.int 114)) (by decide +kernel)
      · exact hs (Cond.eq (.elem (Term.field (Term.string RX4 123) "java/lang/String" "value" "[B") (.int 2)) (.int 105)) (by decide +kernel)
      · exact hs (Cond.eq (.elem (Term.field (Term.string RX4 123) "java/lang/String" "value" "[B") (.int 3)) (.int 116)) (by decide +kernel)
      · exact hs (Cond.eq (.elem (Term.field (Term.string RX4 123) "java/lang/String" "value" "[B") (.int 4)) (.int 101)) (by decide +kernel)
    · have hj : j < 5 := hj
      rcases (show j = 0 ∨ j = 1 ∨ j = 2 ∨ j = 3 ∨ j = 4 by omega) with rfl | rfl | rfl | rfl | rfl
      · exact hs (Cond.eq (.elem (Term.field (Term.string RX4 128) "java/lang/String" "value" "[B") (.int 0)) (.int 101)) (by decide +kernel)
      · exact hs (Cond.eq (.elem (Term.field (Term.string RX4 128) "java/lang/String" "value" "[B") (.int 1)) (.int 114)) (by decide +kernel)
      · exact hs (Cond.eq (.elem (Term.field (Term.string RX4 128) "java/lang/String" "value" "[B") (.int 2)) (.int 97)) (by decide +kernel)
      · exact hs (Cond.eq (.elem (Term.field (Term.string RX4 128) "java/lang/String" "value" "[B") (.int 3)) (.int 115)) (by decide +kernel)
      · exact hs (Cond.eq (.elem (Term.field (Term.string RX4 128) "java/lang/String" "value" "[B") (.int 4)) (.int 101)) (by decide +kernel)
    · have hj : j < 5 := hj
      rcases (show j = 0 ∨ j = 1 ∨ j = 2 ∨ j = 3 ∨ j = 4 by omega) with rfl | rfl | rfl | rfl | rfl
      · exact hs (Cond.eq (.elem (Term.field (Term.string RX4 133) "java/lang/String" "value" "[B") (.int 0)) (.int 99)) (by decide +kernel)
      · exact hs (Cond.eq (.elem (Term.field (Term.string RX4 133) "java/lang/String" "value" "[B") (.int 1)) (.int 108)) (by decide +kernel)
      · exact hs (Cond.eq (.elem (Term.field (Term.string RX4 133) "java/lang/String" "value" "[B") (.int 2)) (.int 111)) (by decide +kernel)
      · exact hs (Cond.eq (.elem (Term.field (Term.string RX4 133) "java/lang/String" "value" "[B") (.int 3)) (.int 115)) (by decide +kernel)
      · exact hs (Cond.eq (.elem (Term.field (Term.string RX4 133) "java/lang/String" "value" "[B") (.int 4)) (.int 101)) (by decide +kernel)
  · rcases (show i = 0 ∨ i = 1 ∨ i = 2 ∨ i = 3 ∨ i = 4 ∨ i = 5 by omega) with rfl | rfl | rfl | rfl | rfl | rfl
    · rcases (show j = 0 ∨ j = 1 ∨ j = 2 ∨ j = 3 ∨ j = 4 ∨ j = 5 by omega) with rfl | rfl | rfl | rfl | rfl | rfl
      · exact absurd rfl hij
      · exact Or.inl (hs (Cond.not (Cond.eq (Term.string RX4 91) (Term.string RX4 114))) (by decide +kernel))
      · exact Or.inl (hs (Cond.not (Cond.eq (Term.string RX4 91) (Term.string RX4 118))) (by decide +kernel))
      · exact Or.inl (hs (Cond.not (Cond.eq (Term.string RX4 91) (Term.string RX4 123))) (by decide +kernel))
      · exact Or.inl (hs (Cond.not (Cond.eq (Term.string RX4 91) (Term.string RX4 128))) (by decide +kernel))
      · exact Or.inl (hs (Cond.not (Cond.eq (Term.string RX4 91) (Term.string RX4 133))) (by decide +kernel))
    · rcases (show j = 0 ∨ j = 1 ∨ j = 2 ∨ j = 3 ∨ j = 4 ∨ j = 5 by omega) with rfl | rfl | rfl | rfl | rfl | rfl
      · exact Or.inr (hs (Cond.not (Cond.eq (Term.string RX4 91) (Term.string RX4 114))) (by decide +kernel))
      · exact absurd rfl hij
      · exact Or.inl (hs (Cond.not (Cond.eq (Term.string RX4 114) (Term.string RX4 118))) (by decide +kernel))
      · exact Or.inl (hs (Cond.not (Cond.eq (Term.string RX4 114) (Term.string RX4 123))) (by decide +kernel))
      · exact Or.inl (hs (Cond.not (Cond.eq (Term.string RX4 114) (Term.string RX4 128))) (by decide +kernel))
      · exact Or.inl (hs (Cond.not (Cond.eq (Term.string RX4 114) (Term.string RX4 133))) (by decide +kernel))
    · rcases (show j = 0 ∨ j = 1 ∨ j = 2 ∨ j = 3 ∨ j = 4 ∨ j = 5 by omega) with rfl | rfl | rfl | rfl | rfl | rfl
      · exact Or.inr (hs (Cond.not (Cond.eq (Term.string RX4 91) (Term.string RX4 118))) (by decide +kernel))
      · exact Or.inr (hs (Cond.not (Cond.eq (Term.string RX4 114) (Term.string RX4 118))) (by decide +kernel))
      · exact absurd rfl hij
      · exact Or.inl (hs (Cond.not (Cond.eq (Term.string RX4 118) (Term.string RX4 123))) (by decide +kernel))
      · exact Or.inl (hs (Cond.not (Cond.eq (Term.string RX4 118) (Term.string RX4 128))) (by decide +kernel))
      · exact Or.inl (hs (Cond.not (Cond.eq (Term.string RX4 118) (Term.string RX4 133))) (by decide +kernel))
    · rcases (show j = 0 ∨ j = 1 ∨ j = 2 ∨ j = 3 ∨ j = 4 ∨ j = 5 by omega) with rfl | rfl | rfl | rfl | rfl | rfl
      · exact Or.inr (hs (Cond.not (Cond.eq (Term.string RX4 91) (Term.string RX4 123))) (by decide +kernel))
      · exact Or.inr (hs (Cond.not (Cond.eq (Term.string RX4 114) (Term.string RX4 123))) (by decide +kernel))
      · exact Or.inr (hs (Cond.not (Cond.eq (Term.string RX4 118) (Term.string RX4 123))) (by decide +kernel))
      · exact absurd rfl hij
      · exact Or.inl (hs (Cond.not (Cond.eq (Term.string RX4 123) (Term.string RX4 128))) (by decide +kernel))
      · exact Or.inl (hs (Cond.not (Cond.eq (Term.string RX4 123) (Term.string RX4 133))) (by decide +kernel))
    · rcases (show j = 0 ∨ j = 1 ∨ j = 2 ∨ j = 3 ∨ j = 4 ∨ j = 5 by omega) with rfl | rfl | rfl | rfl | rfl | rfl
      · exact Or.inr (hs (Cond.not (Cond.eq (Term.string RX4 91) (Term.string RX4 128))) (by decide +kernel))
      · exact Or.inr (hs (Cond.not (Cond.eq (Term.string RX4 114) (Term.string RX4 128))) (by decide +kernel))
      · exact Or.inr (hs (Cond.not (Cond.eq (Term.string RX4 118) (Term.string RX4 128))) (by decide +kernel))
      · exact Or.inr (hs (Cond.not (Cond.eq (Term.string RX4 123) (Term.string RX4 128))) (by decide +kernel))
      · exact absurd rfl hij
      · exact Or.inl (hs (Cond.not (Cond.eq (Term.string RX4 128) (Term.string RX4 133))) (by decide +kernel))
    · rcases (show j = 0 ∨ j = 1 ∨ j = 2 ∨ j = 3 ∨ j = 4 ∨ j = 5 by omega) with rfl | rfl | rfl | rfl | rfl | rfl
      · exact Or.inr (hs (Cond.not (Cond.eq (Term.string RX4 91) (Term.string RX4 133))) (by decide +kernel))
      · exact Or.inr (hs (Cond.not (Cond.eq (Term.string RX4 114) (Term.string RX4 133))) (by decide +kernel))
      · exact Or.inr (hs (Cond.not (Cond.eq (Term.string RX4 118) (Term.string RX4 133))) (by decide +kernel))
      · exact Or.inr (hs (Cond.not (Cond.eq (Term.string RX4 123) (Term.string RX4 133))) (by decide +kernel))
      · exact Or.inr (hs (Cond.not (Cond.eq (Term.string RX4 128) (Term.string RX4 133))) (by decide +kernel))
      · exact absurd rfl hij
theorem st_SL (hgv : (Jvm.Cond.and given_1 narrow_1).before args s = true) {A : Nat → Prop} (hA : ∀ a : Nat, a < s.heap.size → ¬ A a) : ∃ adK adV : Nat → Nat, vk_S 6 g_lenL g_bytL adK adV A s s.heap ∧ ∀ i : Nat, i < 6 → (st_tmL i).eval args s none [] s = some (.ref (adK i)) := by
  have hs := flat_of_before _ hgv
  refine vk_Sof (N := 6) (tm := st_tmL) (len := g_lenL) (byt := g_bytL) (fun i hi => ?_) (fun i hi => ?_) (fun i hi => ?_) (fun i hi => ?_) (fun i hi => ?_) (fun i hi j hj => ?_) (fun i j hi hj hij => ?_) hA
  · rcases (show i = 0 ∨ i = 1 ∨ i = 2 ∨ i = 3 ∨ i = 4 ∨ i = 5 by omega) with rfl | rfl | rfl | rfl | rfl | rfl
    all_goals decide
  · rcases (show i = 0 ∨ i = 1 ∨ i = 2 ∨ i = 3 ∨ i = 4 ∨ i = 5 by omega) with rfl | rfl | rfl | rfl | rfl | rfl
    · exact hs (Cond.exactly (Term.string RL 58) "java/lang/String") (by decide +kernel)
    · exact hs (Cond.exactly (Term.string RL 66) "java/lang/String") (by decide +kernel)
    · exact hs (Cond.exactly (Term.string RL 68) "java/lang/String") (by decide +kernel)
    · exact hs (Cond.exactly (Term.string RL 81) "java/lang/String") (by decide +kernel)
    · exact hs (Cond.exactly (Term.string RL 86) "java/lang/String") (by decide +kernel)
    · exact hs (Cond.exactly (Term.string RL 95) "java/lang/String") (by decide +kernel)
  · rcases (show i = 0 ∨ i = 1 ∨ i = 2 ∨ i = 3 ∨ i = 4 ∨ i = 5 by omega) with rfl | rfl | rfl | rfl | rfl | rfl
    · exact hs (Cond.eq (.field (Term.string RL 58) "java/lang/String" "coder" "B") (.int 0)) (by decide +kernel)
    · exact hs (Cond.eq (.field (Term.string RL 66) "java/lang/String" "coder" "B") (.int 0)) (by decide +kernel)
    · exact hs (Cond.eq (.field (Term.string RL 68) "java/lang/String" "coder" "B") (.int 0)) (by decide +kernel)
    · exact hs (Cond.eq (.field (Term.string RL 81) "java/lang/String" "coder" "B") (.int 0)) (by decide +kernel)
    · exact hs (Cond.eq (.field (Term.string RL 86) "java/lang/String" "coder" "B") (.int 0)) (by decide +kernel)
    · exact hs (Cond.eq (.field (Term.string RL 95) "java/lang/String" "coder" "B") (.int 0)) (by decide +kernel)
  · rcases (show i = 0 ∨ i = 1 ∨ i = 2 ∨ i = 3 ∨ i = 4 ∨ i = 5 by omega) with rfl | rfl | rfl | rfl | rfl | rfl
    · exact hs (Cond.arrayOf (Term.field (Term.string RL 58) "java/lang/String" "value" "[B") .byte) (by decide +kernel)
    · exact hs (Cond.arrayOf (Term.field (Term.string RL 66) "java/lang/String" "value" "[B") .byte) (by decide +kernel)
    · exact hs (Cond.arrayOf (Term.field (Term.string RL 68) "java/lang/String" "value" "[B") .byte) (by decide +kernel)
    · exact hs (Cond.arrayOf (Term.field (Term.string RL 81) "java/lang/String" "value" "[B") .byte) (by decide +kernel)
    · exact hs (Cond.arrayOf (Term.field (Term.string RL 86) "java/lang/String" "value" "[B") .byte) (by decide +kernel)
    · exact hs (Cond.arrayOf (Term.field (Term.string RL 95) "java/lang/String" "value" "[B") .byte) (by decide +kernel)
  · rcases (show i = 0 ∨ i = 1 ∨ i = 2 ∨ i = 3 ∨ i = 4 ∨ i = 5 by omega) with rfl | rfl | rfl | rfl | rfl | rfl
    · exact hs (Cond.eq (.length (Term.field (Term.string RL 58) "java/lang/String" "value" "[B")) (.int 5)) (by decide +kernel)
    · exact hs (Cond.eq (.length (Term.field (Term.string RL 66) "java/lang/String" "value" "[B")) (.int 1)) (by decide +kernel)
    · exact hs (Cond.eq (.length (Term.field (Term.string RL 68) "java/lang/String" "value" "[B")) (.int 1)) (by decide +kernel)
    · exact hs (Cond.eq (.length (Term.field (Term.string RL 81) "java/lang/String" "value" "[B")) (.int 4)) (by decide +kernel)
    · exact hs (Cond.eq (.length (Term.field (Term.string RL 86) "java/lang/String" "value" "[B")) (.int 5)) (by decide +kernel)
    · exact hs (Cond.eq (.length (Term.field (Term.string RL 95) "java/lang/String" "value" "[B")) (.int 6)) (by decide +kernel)
  · rcases (show i = 0 ∨ i = 1 ∨ i = 2 ∨ i = 3 ∨ i = 4 ∨ i = 5 by omega) with rfl | rfl | rfl | rfl | rfl | rfl
    · have hj : j < 5 := hj
      rcases (show j = 0 ∨ j = 1 ∨ j = 2 ∨ j = 3 ∨ j = 4 by omega) with rfl | rfl | rfl | rfl | rfl
      · exact hs (Cond.eq (.elem (Term.field (Term.string RL 58) "java/lang/String" "value" "[B") (.int 0)) (.int 100)) (by decide +kernel)
      · exact hs (Cond.eq (.elem (Term.field (Term.string RL 58) "java/lang/String" "value" "[B") (.int 1)) (.int 105)) (by decide +kernel)
      · exact hs (Cond.eq (.elem (Term.field (Term.string RL 58) "java/lang/String" "value" "[B") (.int 2)) (.int 115)) (by decide +kernel)
      · exact hs (Cond.eq (.elem (Term.field (Term.string RL 58) "java/lang/String" "value" "[B") (.int 3)) (.int 99)) (by decide +kernel)
      · exact hs (Cond.eq (.elem (Term.field (Term.string RL 58) "java/lang/String" "value" "[B") (.int 4)) (.int 32)) (by decide +kernel)
    · have hj : j < 1 := hj
      rcases (show j = 0 by omega) with rfl
      · exact hs (Cond.eq (.elem (Term.field (Term.string RL 66) "java/lang/String" "value" "[B") (.int 0)) (.int 32)) (by decide +kernel)
    · have hj : j < 1 := hj
      rcases (show j = 0 by omega) with rfl
      · exact hs (Cond.eq (.elem (Term.field (Term.string RL 68) "java/lang/String" "value" "[B") (.int 0)) (.int 59)) (by decide +kernel)
    · have hj : j < 4 := hj
      rcases (show j = 0 ∨ j = 1 ∨ j = 2 ∨ j = 3 by omega) with rfl | rfl | rfl | rfl
      · exact hs (Cond.eq (.elem (Term.field (Term.string RL 81) "java/lang/String" "value" "[B") (.int 0)) (.int 98)) (by decide +kernel)
      · exact hs (Cond.eq (.elem (Term.field (Term.string RL 81) "java/lang/String" "value" "[B") (.int 1)) (.int 97)) (by decide +kernel)
      · exact hs (Cond.eq (.elem (Term.field (Term.string RL 81) "java/lang/String" "value" "[B") (.int 2)) (.int 100)) (by decide +kernel)
      · exact hs (Cond.eq (.elem (Term.field (Term.string RL 81) "java/lang/String" "value" "[B") (.int 3)) (.int 32)) (by decide +kernel)
    · have hj : j < 5 := hj
      rcases (show j = 0 ∨ j = 1 ∨ j = 2 ∨ j = 3 ∨ j = 4 by omega) with rfl | rfl | rfl | rfl | rfl
      · exact hs (Cond.eq (.elem (Term.field (Term.string RL 86) "java/lang/String" "value" "[B") (.int 0)) (.int 102)) (by decide +kernel)
      · exact hs (Cond.eq (.elem (Term.field (Term.string RL 86) "java/lang/String" "value" "[B") (.int 1)) (.int 105)) (by decide +kernel)
      · exact hs (Cond.eq (.elem (Term.field (Term.string RL 86) "java/lang/String" "value" "[B") (.int 2)) (.int 108)) (by decide +kernel)
      · exact hs (Cond.eq (.elem (Term.field (Term.string RL 86) "java/lang/String" "value" "[B") (.int 3)) (.int 101)) (by decide +kernel)
      · exact hs (Cond.eq (.elem (Term.field (Term.string RL 86) "java/lang/String" "value" "[B") (.int 4)) (.int 32)) (by decide +kernel)
    · have hj : j < 6 := hj
      rcases (show j = 0 ∨ j = 1 ∨ j = 2 ∨ j = 3 ∨ j = 4 ∨ j = 5 by omega) with rfl | rfl | rfl | rfl | rfl | rfl
      · exact hs (Cond.eq (.elem (Term.field (Term.string RL 95) "java/lang/String" "value" "[B") (.int 0)) (.int 119)) (by decide +kernel)
      · exact hs (Cond.eq (.elem (Term.field (Term.string RL 95) "java/lang/String" "value" "[B") (.int 1)) (.int 114)) (by decide +kernel)
      · exact hs (Cond.eq (.elem (Term.field (Term.string RL 95) "java/lang/String" "value" "[B") (.int 2)) (.int 105)) (by decide +kernel)
      · exact hs (Cond.eq (.elem (Term.field (Term.string RL 95) "java/lang/String" "value" "[B") (.int 3)) (.int 116)) (by decide +kernel)
      · exact hs (Cond.eq (.elem (Term.field (Term.string RL 95) "java/lang/String" "value" "[B") (.int 4)) (.int 101)) (by decide +kernel)
      · exact hs (Cond.eq (.elem (Term.field (Term.string RL 95) "java/lang/String" "value" "[B") (.int 5)) (.int 32)) (by decide +kernel)
  · rcases (show i = 0 ∨ i = 1 ∨ i = 2 ∨ i = 3 ∨ i = 4 ∨ i = 5 by omega) with rfl | rfl | rfl | rfl | rfl | rfl
    · rcases (show j = 0 ∨ j = 1 ∨ j = 2 ∨ j = 3 ∨ j = 4 ∨ j = 5 by omega) with rfl | rfl | rfl | rfl | rfl | rfl
      · exact absurd rfl hij
      · exact Or.inl (hs (Cond.not (Cond.eq (Term.string RL 58) (Term.string RL 66))) (by decide +kernel))
      · exact Or.inl (hs (Cond.not (Cond.eq (Term.string RL 58) (Term.string RL 68))) (by decide +kernel))
      · exact Or.inl (hs (Cond.not (Cond.eq (Term.string RL 58) (Term.string RL 81))) (by decide +kernel))
      · exact Or.inl (hs (Cond.not (Cond.eq (Term.string RL 58) (Term.string RL 86))) (by decide +kernel))
      · exact Or.inl (hs (Cond.not (Cond.eq (Term.string RL 58) (Term.string RL 95))) (by decide +kernel))
    · rcases (show j = 0 ∨ j = 1 ∨ j = 2 ∨ j = 3 ∨ j = 4 ∨ j = 5 by omega) with rfl | rfl | rfl | rfl | rfl | rfl
      · exact Or.inr (hs (Cond.not (Cond.eq (Term.string RL 58) (Term.string RL 66))) (by decide +kernel))
      · exact absurd rfl hij
      · exact Or.inl (hs (Cond.not (Cond.eq (Term.string RL 66) (Term.string RL 68))) (by decide +kernel))
      · exact Or.inl (hs (Cond.not (Cond.eq (Term.string RL 66) (Term.string RL 81))) (by decide +kernel))
      · exact Or.inl (hs (Cond.not (Cond.eq (Term.string RL 66) (Term.string RL 86))) (by decide +kernel))
      · exact Or.inl (hs (Cond.not (Cond.eq (Term.string RL 66) (Term.string RL 95))) (by decide +kernel))
    · rcases (show j = 0 ∨ j = 1 ∨ j = 2 ∨ j = 3 ∨ j = 4 ∨ j = 5 by omega) with rfl | rfl | rfl | rfl | rfl | rfl
      · exact Or.inr (hs (Cond.not (Cond.eq (Term.string RL 58) (Term.string RL 68))) (by decide +kernel))
      · exact Or.inr (hs (Cond.not (Cond.eq (Term.string RL 66) (Term.string RL 68))) (by decide +kernel))
      · exact absurd rfl hij
      · exact Or.inl (hs (Cond.not (Cond.eq (Term.string RL 68) (Term.string RL 81))) (by decide +kernel))
      · exact Or.inl (hs (Cond.not (Cond.eq (Term.string RL 68) (Term.string RL 86))) (by decide +kernel))
      · exact Or.inl (hs (Cond.not (Cond.eq (Term.string RL 68) (Term.string RL 95))) (by decide +kernel))
    · rcases (show j = 0 ∨ j = 1 ∨ j = 2 ∨ j = 3 ∨ j = 4 ∨ j = 5 by omega) with rfl | rfl | rfl | rfl | rfl | rfl
      · exact Or.inr (hs (Cond.not (Cond.eq (Term.string RL 58) (Term.string RL 81))) (by decide +kernel))
      · exact Or.inr (hs (Cond.not (Cond.eq (Term.string RL 66) (Term.string RL 81))) (by decide +kernel))
      · exact Or.inr (hs (Cond.not (Cond.eq (Term.string RL 68) (Term.string RL 81))) (by decide +kernel))
      · exact absurd rfl hij
      · exact Or.inl (hs (Cond.not (Cond.eq (Term.string RL 81) (Term.string RL 86))) (by decide +kernel))
      · exact Or.inl (hs (Cond.not (Cond.eq (Term.string RL 81) (Term.string RL 95))) (by decide +kernel))
    · rcases (show j = 0 ∨ j = 1 ∨ j = 2 ∨ j = 3 ∨ j = 4 ∨ j = 5 by omega) with rfl | rfl | rfl | rfl | rfl | rfl
      · exact Or.inr (hs (Cond.not (Cond.eq (Term.string RL 58) (Term.string RL 86))) (by decide +kernel))
      · exact Or.inr (hs (Cond.not (Cond.eq (Term.string RL 66) (Term.string RL 86))) (by decide +kernel))
      · exact Or.inr (hs (Cond.not (Cond.eq (Term.string RL 68) (Term.string RL 86))) (by decide +kernel))
      · exact Or.inr (hs (Cond.not (Cond.eq (Term.string RL 81) (Term.string RL 86))) (by decide +kernel))
      · exact absurd rfl hij
      · exact Or.inl (hs (Cond.not (Cond.eq (Term.string RL 86) (Term.string RL 95))) (by decide +kernel))
    · rcases (show j = 0 ∨ j = 1 ∨ j = 2 ∨ j = 3 ∨ j = 4 ∨ j = 5 by omega) with rfl | rfl | rfl | rfl | rfl | rfl
      · exact Or.inr (hs (Cond.not (Cond.eq (Term.string RL 58) (Term.string RL 95))) (by decide +kernel))
      · exact Or.inr (hs (Cond.not (Cond.eq (Term.string RL 66) (Term.string RL 95))) (by decide +kernel))
      · exact Or.inr (hs (Cond.not (Cond.eq (Term.string RL 68) (Term.string RL 95))) (by decide +kernel))
      · exact Or.inr (hs (Cond.not (Cond.eq (Term.string RL 81) (Term.string RL 95))) (by decide +kernel))
      · exact Or.inr (hs (Cond.not (Cond.eq (Term.string RL 86) (Term.string RL 95))) (by decide +kernel))
      · exact absurd rfl hij
theorem st_lits (hts0 : ∀ w ∈ lw_tbl, w.before args s = true) {adK : Nat → Nat} (hev : ∀ i : Nat, i < 6 → (st_tm i).eval args s none [] s = some (.ref (adK i))) : ∀ q ∈ g_lits, vk_R q.1 q.2.1 q.2.2.1 (adK q.2.2.2) s := by
  intro q hq
  simp only [g_lits, List.mem_cons, List.not_mem_nil, or_false] at hq
  rcases hq with rfl | rfl | rfl | rfl | rfl | rfl
  · exact vk_R.of (hts0 (Cond.stringRef RX4 133 "close") (by decide +kernel)) (hev 5 (by omega))
  · exact vk_R.of (hts0 (Cond.stringRef RX4 91 "disc") (by decide +kernel)) (hev 0 (by omega))
  · exact vk_R.of (hts0 (Cond.stringRef RX4 114 "bad") (by decide +kernel)) (hev 1 (by omega))
  · exact vk_R.of (hts0 (Cond.stringRef RX4 118 "file") (by decide +kernel)) (hev 2 (by omega))
  · exact vk_R.of (hts0 (Cond.stringRef RX4 123 "write") (by decide +kernel)) (hev 3 (by omega))
  · exact vk_R.of (hts0 (Cond.stringRef RX4 128 "erase") (by decide +kernel)) (hev 4 (by omega))
theorem st_litsL (hts0 : ∀ w ∈ lw_tbl, w.before args s = true) {adK : Nat → Nat} (hev : ∀ i : Nat, i < 6 → (st_tmL i).eval args s none [] s = some (.ref (adK i))) : ∀ q ∈ g_litsL, vk_R q.1 q.2.1 q.2.2.1 (adK q.2.2.2) s := by
  intro q hq
  simp only [g_litsL, List.mem_cons, List.not_mem_nil, or_false] at hq
  rcases hq with rfl | rfl | rfl | rfl | rfl | rfl
  · exact vk_R.of (hts0 (Cond.stringRef RL 58 "disc ") (by decide +kernel)) (hev 0 (by omega))
  · exact vk_R.of (hts0 (Cond.stringRef RL 66 " ") (by decide +kernel)) (hev 1 (by omega))
  · exact vk_R.of (hts0 (Cond.stringRef RL 68 ";") (by decide +kernel)) (hev 2 (by omega))
  · exact vk_R.of (hts0 (Cond.stringRef RL 81 "bad ") (by decide +kernel)) (hev 3 (by omega))
  · exact vk_R.of (hts0 (Cond.stringRef RL 86 "file ") (by decide +kernel)) (hev 4 (by omega))
  · exact vk_R.of (hts0 (Cond.stringRef RL 95 "write ") (by decide +kernel)) (hev 5 (by omega))
theorem st_T (hts0 : ∀ w ∈ lw_tbl, w.before args s = true) (hgv : (Jvm.Cond.and given_1 narrow_1).before args s = true) : g_T s := by
  have hs := flat_of_before _ hgv
  refine ⟨fun q hq => ?_, fun C hC => ?_, fun x hx => ?_, trivial, va_AO.of (hts0 (Cond.arrayOver (.object "OnceDisc$Disc")) (by decide +kernel))⟩
  · simp only [g_msgs, List.mem_cons, List.not_mem_nil, or_false] at hq
    rcases hq with rfl | rfl | rfl
    · obtain ⟨a, c, cA, kA, q1, -⟩ := Cond.exactly_spec (args := args) (first := s) (o := none) (s := s) (idx := []) (t := Term.string RX9 327) (cls := "java/lang/String") (hs (Cond.exactly (Term.string RX9 327) "java/lang/String") (by decide +kernel))
      exact ⟨a, vk_R.of (hts0 (Cond.stringRef RX9 327 "there is no such block, file, session or slot") (by decide +kernel)) q1⟩
    · obtain ⟨a, c, cA, kA, q1, -⟩ := Cond.exactly_spec (args := args) (first := s) (o := none) (s := s) (idx := []) (t := Term.string RX9 332) (cls := "java/lang/String") (hs (Cond.exactly (Term.string RX9 332) "java/lang/String") (by decide +kernel))
      exact ⟨a, vk_R.of (hts0 (Cond.stringRef RX9 332 "an argument is out of its range") (by decide +kernel)) q1⟩
    · obtain ⟨a, c, cA, kA, q1, -⟩ := Cond.exactly_spec (args := args) (first := s) (o := none) (s := s) (idx := []) (t := Term.string RX9 335) (cls := "java/lang/String") (hs (Cond.exactly (Term.string RX9 335) "java/lang/String") (by decide +kernel))
      exact ⟨a, vk_R.of (hts0 (Cond.stringRef RX9 335 "this is refused now") (by decide +kernel)) q1⟩
  · simp only [g_exc, List.mem_cons, List.not_mem_nil, or_false] at hC
    rcases hC with rfl | rfl | rfl
    · exact va_Nw.of rfl (hts0 (Cond.castable g_xIAE g_xIAE) (by decide +kernel))
    · exact va_Nw.of rfl (hts0 (Cond.castable g_xIOB g_xIOB) (by decide +kernel))
    · exact va_Nw.of rfl (hts0 (Cond.castable g_xISE g_xISE) (by decide +kernel))
  · simp only [g_decl, List.mem_cons, List.not_mem_nil, or_false] at hx
    rcases hx with rfl | rfl | rfl
    · exact va_Nw.of rfl (hts0 (Cond.declares (Bundle.initS "java/lang/RuntimeException")) (by decide +kernel))
    · exact va_Nw.of rfl (hts0 (Cond.declares (Bundle.initS "java/lang/Exception")) (by decide +kernel))
    · exact va_Nw.of rfl (hts0 (Cond.declares (Bundle.initS Bundle.tN)) (by decide +kernel))
theorem st_D (hts0 : ∀ w ∈ lw_tbl, w.before args s = true) (hgv : (Jvm.Cond.and given_1 narrow_1).before args s = true) {A : Nat → Prop} (hA : ∀ a : Nat, a < s.heap.size → ¬ A a) : ∃ ad : Nat → Nat, ∀ dd : va_G, dd.2 104 = ad → g_XD A dd s := by
  have hs := flat_of_before _ hgv
  obtain ⟨t0, e0, h0⟩ := va_Tof (tm := (.static "java/lang/Integer" "DigitOnes" "[B")) (ty := .byte) (N := 100) (f := fun j => .int (Int32.ofNat (48 + j % 10))) (A := A) (by omega) (hs (Cond.arrayOf (.static "java/lang/Integer" "DigitOnes" "[B") .byte) (by decide +kernel)) (va_eqt (hs (Cond.eq (.length (.static "java/lang/Integer" "DigitOnes" "[B")) (.int 100)) (by decide +kernel))) (fun j hj => va_eqt (hs _ (st_d0 j hj))) hA
  obtain ⟨t1, e1, h1⟩ := va_Tof (tm := (.static "java/lang/Integer" "DigitTens" "[B")) (ty := .byte) (N := 100) (f := fun j => .int (Int32.ofNat (48 + j / 10))) (A := A) (by omega) (hs (Cond.arrayOf (.static "java/lang/Integer" "DigitTens" "[B") .byte) (by decide +kernel)) (va_eqt (hs (Cond.eq (.length (.static "java/lang/Integer" "DigitTens" "[B")) (.int 100)) (by decide +kernel))) (fun j hj => va_eqt (hs _ (st_d1 j hj))) hA
  refine ⟨fun i => if i = 0 then t0 else t1, fun dd e => ?_⟩
  unfold g_XD
  rw [e]
  exact ⟨va_Zref (hts0 (Cond.laysStatic "java/lang/Integer" "DigitOnes" "[B") (by decide +kernel)) (hts0 (Cond.initialized "java/lang/Integer") (by decide +kernel)) e0 hA, va_Zref (hts0 (Cond.laysStatic "java/lang/Integer" "DigitTens" "[B") (by decide +kernel)) (hts0 (Cond.initialized "java/lang/Integer") (by decide +kernel)) e1 hA, h0, h1, va_Nw.of rfl (hts0 (Cond.castable "[B" "java/lang/Cloneable") (by decide +kernel))⟩
theorem st_X (hts0 : ∀ w ∈ lw_tbl, w.before args s = true) (hgv : (Jvm.Cond.and given_1 narrow_1).before args s = true) {lo : Nat → Prop} (hA : ∀ a : Nat, a < s.heap.size → ¬ lo a) : ∃ adK adV adKL adVL ad : Nat → Nat, ∀ dd : va_G, dd.2 100 = adK → dd.2 101 = adV → dd.2 102 = adKL → dd.2 103 = adVL → dd.2 104 = ad → g_X lo dd s := by
  have hs := flat_of_before _ hgv
  obtain ⟨adK, adV, h1, h2⟩ := st_S hgv hA
  obtain ⟨adKL, adVL, h3, h4⟩ := st_SL hgv hA
  obtain ⟨ad, h5⟩ := st_D hts0 hgv hA
  refine ⟨adK, adV, adKL, adVL, ad, fun dd e1 e2 e3 e4 e5 => ?_⟩
  have h6 := h5 dd e5
  unfold g_X g_XL
  rw [e1, e2, e3, e4]
  refine ⟨h1, st_lits hts0 h2, st_T hts0 hgv, ?_, ?_, ?_, ?_, h3, st_litsL hts0 h4, h6⟩
  · exact va_Zof (hts0 (Cond.laysStatic "java/lang/String" "COMPACT_STRINGS" "Z") (by decide +kernel)) (hts0 (Cond.initialized "java/lang/String") (by decide +kernel)) (va_eqt (hs (Cond.eq (.static "java/lang/String" "COMPACT_STRINGS" "Z") (.int 1)) (by decide +kernel))) hA
  · exact vx_Zqof (hts0 (Cond.laysStatic Bundle.tN "UNASSIGNED_STACK" Bundle.steD) (by decide +kernel)) (hts0 (Cond.initialized Bundle.tN) (by decide +kernel)) (hs (Cond.isRef (.static Bundle.tN "UNASSIGNED_STACK" Bundle.steD)) (by decide +kernel)) hA
  · exact vx_Zqof (hts0 (Cond.laysStatic Bundle.tN "SUPPRESSED_SENTINEL" Bundle.listD) (by decide +kernel)) (hts0 (Cond.initialized Bundle.tN) (by decide +kernel)) (hs (Cond.isRef (.static Bundle.tN "SUPPRESSED_SENTINEL" Bundle.listD)) (by decide +kernel)) hA
  · exact va_Zqof (hts0 (Cond.laysStatic "jdk/internal/util/Preconditions" "SIOOBE_FORMATTER" "Ljava/util/function/BiFunction;") (by decide +kernel)) (hts0 (Cond.initialized "jdk/internal/util/Preconditions") (by decide +kernel)) (hs (Cond.isRef (.static "jdk/internal/util/Preconditions" "SIOOBE_FORMATTER" "Ljava/util/function/BiFunction;")) (by decide +kernel)) hA
/-- all that the walk asks of the entry -/
theorem st_entry (hts0 : ∀ w ∈ lw_tbl, w.before args s = true) (hts : ∀ w ∈ wsL_law, w.before args s = true) (hgv : (Jvm.Cond.and given_1 narrow_1).before args s = true) : ∃ (dd : va_G) (cT : Nat → ClassId), g_K dd cT s ∧ g_S (fun q => s.heap.size ≤ q) dd cT s s.heap [] (fun _ => none) := by
  obtain ⟨adK, adV, adKL, adVL, ad, hX⟩ := st_X hts0 hgv (lo := fun q => s.heap.size ≤ q) (fun a h => Nat.not_le.mpr h)
  obtain ⟨cT, h⟩ := st_K hts0 hts
  obtain ⟨dd, h1, h2⟩ := h (fun k => if k = 100 then adK else if k = 101 then adV else if k = 102 then adKL else if k = 103 then adVL else ad)
  refine ⟨dd, cT, h2, ⟨[], fun k q h => by simp at h, ⟨fun i j p q h => by simp at h, fun k q h => by simp at h⟩, fun a e h => by cases h⟩, va_S.rf, hX dd ?_ ?_ ?_ ?_ ?_⟩
  · rw [h1 100 (by omega)]; rfl
  · rw [h1 101 (by omega)]; rfl
  · rw [h1 102 (by omega)]; rfl
  · rw [h1 103 (by omega)]; rfl
  · rw [h1 104 (by omega)]; rfl
end zSt

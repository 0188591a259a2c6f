/-! The class is fed with a made text, twenty letters at a time. -/
def pkn (c : Int → Int) : Nat → Int32
  | 0 => 0
  | m + 1 => (pkn c m) <<< ((8 : Int32) &&& 31) ||| zI (c m)
def pF (c : Int → Int) (j a : Nat) : Int32 := pkn (fun i => c (4 * a + i)) (min (j - 4 * a) 4)
theorem pF_0 {c : Int → Int} {a : Nat} : pF c 0 a = 0 := by unfold pF; rw [Nat.zero_sub, Nat.zero_min]; rfl
theorem pF_at {c : Int → Int} {j : Nat} : pF c (j + 1) (j / 4) = (pF c j (j / 4)) <<< ((8 : Int32) &&& 31) ||| zI (c j) := by
  unfold pF
  rw [show min (j + 1 - 4 * (j / 4)) 4 = (j % 4) + 1 by omega, show min (j - 4 * (j / 4)) 4 = j % 4 by omega]
  show (pkn _ (j % 4)) <<< ((8 : Int32) &&& 31) ||| zI (c (4 * ((j / 4 : Nat) : Int) + ((j % 4 : Nat) : Int))) = _
  rw [show 4 * ((j / 4 : Nat) : Int) + ((j % 4 : Nat) : Int) = (j : Int) by omega]
theorem pF_ne {c : Int → Int} {j a : Nat} (h : a ≠ j / 4) : pF c (j + 1) a = pF c j a := by
  unfold pF
  rw [show min (j + 1 - 4 * a) 4 = min (j - 4 * a) 4 by omega]
theorem pF_20 {c : Int → Int} {a : Nat} (h : a < 5) : pF c 20 a = pk4 (c (4 * a)) (c (4 * a + 1)) (c (4 * a + 2)) (c (4 * a + 3)) := by
  unfold pF
  rw [show min (20 - 4 * a) 4 = 4 by omega]
  show (((((0 : Int32) <<< ((8 : Int32) &&& 31) ||| zI (c (4 * a + (0 : Nat)))) <<< ((8 : Int32) &&& 31) ||| zI (c (4 * a + (1 : Nat)))) <<< ((8 : Int32) &&& 31) ||| zI (c (4 * a + (2 : Nat)))) <<< ((8 : Int32) &&& 31) ||| zI (c (4 * a + (3 : Nat)))) = _
  unfold pk4
  rw [show (4 * (a : Int) + ((0 : Nat) : Int)) = 4 * a by omega]
  rfl
/-- the letters from a place on, blanks behind them -/
def cF (r : List Int) (k : Int) : Int → Int := fun i => r.getD (k + i).toNat 32
theorem cF_in {r : List Int} {k i : Int} {m : Nat} (h : m < r.length) (e : k + i = m) : cF r k i = r[m] := by
  unfold cF
  rw [e, show ((m : Int).toNat) = m by omega, List.getD_eq_getElem?_getD, List.getElem?_eq_getElem h]
  rfl
theorem cF_out {r : List Int} {k i : Int} (h : (r.length : Int) ≤ k + i) : cF r k i = 32 := by
  unfold cF
  rw [List.getD_eq_getElem?_getD, List.getElem?_eq_none (by omega)]
  rfl
theorem cF_rng {r : List Int} (hr : ∀ x ∈ r, 0 ≤ x ∧ x < 128) (k i : Int) : 0 ≤ cF r k i ∧ cF r k i < 256 := by
  unfold cF
  rw [List.getD_eq_getElem?_getD]
  by_cases z : (k + i).toNat < r.length
  · rw [List.getElem?_eq_getElem z]
    have := hr _ (List.getElem_mem z)
    show 0 ≤ r[(k + i).toNat] ∧ r[(k + i).toNat] < 256
    omega
  · rw [List.getElem?_eq_none (by omega)]
    show 0 ≤ (32 : Int) ∧ (32 : Int) < 256
    omega
section jT
variable {B T0 : gH} {o s w : Nat} {g : Nat → Int32} {r : List Int} {n : zN}
theorem jStr.up {G A T : gH} (h : jStr T s w g r) (hJ : yJ G A B T) : jStr G s w g r := ⟨(hJ.tt h.1).1, (hJ.tt h.2.1).1, h.2.2⟩
theorem j_iald {G : gH} {q : Nat} {F : Nat → Int32} (h : G q = some (.inl (0, 5, F))) {i : Int} (i0 : 0 ≤ i) (i1 : i < 5) : g_ald 0 G q (zI i) = some (F i.toNat) := by
  unfold g_ald
  rw [h]
  simp only []
  rw [if_pos ⟨by first | rfl | trivial, zIn (n := 5) i0 i1 (by omega)⟩, zI_nat (by omega) (by omega)]
theorem j_iast {G : gH} {q : Nat} {F : Nat → Int32} (h : G q = some (.inl (0, 5, F))) {i : Int} (i0 : 0 ≤ i) (i1 : i < 5) {x : Int32} : g_ast 0 G q (zI i) x = some (va_up G q (some (.inl (0, 5, upd F i.toNat x)))) := by
  unfold g_ast
  rw [h]
  simp only []
  rw [if_pos ⟨by first | rfl | trivial, zIn (n := 5) i0 i1 (by omega)⟩, zI_nat (by omega) (by omega)]
  rfl
theorem y_feedI (hr : ∀ x ∈ r, 0 ≤ x ∧ x < 128) (hl : r.length ≤ 300) {k : Int} (k0 : 0 ≤ k) (k1 : k ≤ 300) {kc ks : Nat} (c1 : kc ≤ 50) (c2 : ks ≤ 200) {K : Int32 → gH → Prop} {k4 : gH → Nat → Nat → Nat → Nat → Int32 → Int32 → Prop} {A : gH} {b : Int → Int} (hA : yCb A o n b k) {q : Nat}
    (hk : ∀ G' A' T', yJ G' A' B T' → (∀ a e, T0 a = some e → T' a = some e) → yCb A' o n (fun i => if k ≤ i ∧ i < k + 20 then cF r k (i - k) else b i) (k + 20) → k4 G' kc ks o s (zI (k + 20)) (zI (k + 20))) (hq0 : T0 q = none) (hs0 : jStr T0 s w g r) : ∀ (m fuel j : Nat) (G T : gH) (F : Nat → Int32), j + m = 20 → m < fuel → yJ G A B T → T q = some (.inl (0, 5, F)) → (∀ a, a < 5 → F a = pF (cF r k) j a) → (∀ a e, T0 a = some e → T a = some e) → w_L_feeds_A_L20 50 200 K k4 fuel G kc ks o s (zI k) (zI k) q (zI j) := by
  intro m
  induction m with
  | zero =>
    intro fuel j G T F hj hf hJ hq hF hT
    obtain ⟨f, rfl⟩ : ∃ f, fuel = f + 1 := ⟨fuel - 1, by omega⟩
    obtain rfl : j = 20 := by omega
    rw [w_L_feeds_A_L20]
    rw [if_pos (show (20 : Int32) ≤ zI ((20 : Nat) : Int) by decide)]
    have hG := (hJ.tt hq).1
    have e0 := j_iald hG (i := 0) (by omega) (by omega)
    have e1 := j_iald hG (i := 1) (by omega) (by omega)
    have e2 := j_iald hG (i := 2) (by omega) (by omega)
    have e3 := j_iald hG (i := 3) (by omega) (by omega)
    have e4 := j_iald hG (i := 4) (by omega) (by omega)
    have hc := fun i (_ : (0 : Int) ≤ i) (_ : i < 20) => cF_rng hr k i
    obtain ⟨q9, p1, p2, p3⟩ := k_append hA (by omega) (F (0 : Int).toNat) (F (1 : Int).toNat) (F (2 : Int).toNat) (F (3 : Int).toNat) (F (4 : Int).toNat)
    refine ⟨_, e0, _, e1, _, e2, _, e3, _, e4, A, _, hJ.a.1, hJ.a.2, (), hA.ob, ⟨by omega, by omega⟩, q9, p1, fun G' d e => ?_⟩
    have e20 : zI k + (20 : Int32) = zI (k + 20) := zI_add k 20
    rw [e20, if_pos p2]
    refine hk G' q9.1 T (hJ.a' d e) hT ?_
    have hb := zb20_at (b := b) (u := k) (c := cF r k) hc
    have f0 : F (0 : Int).toNat = pk4 (cF r k 0) (cF r k 1) (cF r k 2) (cF r k 3) := (hF 0 (by omega)).trans (pF_20 (a := 0) (by omega))
    have f1 : F (1 : Int).toNat = pk4 (cF r k 4) (cF r k 5) (cF r k 6) (cF r k 7) := (hF 1 (by omega)).trans (pF_20 (a := 1) (by omega))
    have f2 : F (2 : Int).toNat = pk4 (cF r k 8) (cF r k 9) (cF r k 10) (cF r k 11) := (hF 2 (by omega)).trans (pF_20 (a := 2) (by omega))
    have f3 : F (3 : Int).toNat = pk4 (cF r k 12) (cF r k 13) (cF r k 14) (cF r k 15) := (hF 3 (by omega)).trans (pF_20 (a := 3) (by omega))
    have f4 : F (4 : Int).toNat = pk4 (cF r k 16) (cF r k 17) (cF r k 18) (cF r k 19) := (hF 4 (by omega)).trans (pF_20 (a := 4) (by omega))
    rw [f0, f1, f2, f3, f4, hb] at p3
    exact p3
  | succ m ih =>
    intro fuel j G T F hj hf hJ hq hF hT
    obtain ⟨f, rfl⟩ : ∃ f, fuel = f + 1 := ⟨fuel - 1, by omega⟩
    rw [w_L_feeds_A_L20]
    rw [if_neg (show ¬ (20 : Int32) ≤ zI (j : Int) from by
      show ¬ zI 20 ≤ zI (j : Int)
      rw [zI_le (by omega) (by omega) (by omega) (by omega)]; omega)]
    have ed : zI (j : Int) / (4 : Int32) = zI ((j / 4 : Nat) : Int) := by
      rw [show (4 : Int32) = zI 4 from rfl, zI_div (by omega) (by omega) (by omega) (by omega)]
      congr 1
    have hG := (hJ.tt hq).1
    have hs : jStr T s w g r := ⟨hT _ _ hs0.1, hT _ _ hs0.2.1, hs0.2.2⟩
    have hsG := hs.up hJ
    have hqn := hJ.tt hq
    rw [ed]
    have ejk : zI k + zI (j : Int) = zI (k + j) := zI_add _ _
    have ej1 : zI (j : Int) + (1 : Int32) = zI ((j + 1 : Nat) : Int) := zI_add j 1
    rw [ejk, ej1]
    have nx : ∀ x : Int32, x = zI (cF r k j) → w_L_feeds_A_L20 50 200 K k4 f (va_up G q (some (.inl (0, 5, upd F ((j / 4 : Nat) : Int).toNat ((F ((j / 4 : Nat) : Int).toNat) <<< ((8 : Int32) &&& 31) ||| x))))) kc ks o s (zI k) (zI k) q (zI ((j + 1 : Nat) : Int)) := by
      intro x hx
      refine ih f (j + 1) _ (va_up T q (some (.inl (0, 5, upd F (j / 4) ((F (j / 4)) <<< ((8 : Int32) &&& 31) ||| x))))) _ (by omega) (by omega) (hJ.upT hqn.2.1 hqn.2.2 _) gva_at (fun a ha => ?_) (fun a e he => ?_)
      · by_cases z : a = j / 4
        · rw [z, upd_at, hF _ (by omega), hx]; exact pF_at.symm
        · rw [upd_ne z, hF a ha]; exact (pF_ne z).symm
      · rw [gva_ne (j_ne he hq0)]; exact hT a e he
    refine ⟨_, j_iald hG (by omega) (by omega), G, _, gd_n G, (gj_n G).symm, (), j_ob hsG.1, ⟨by omega, by omega⟩, _, j_lnA hsG, ?_⟩
    by_cases z : (r.length : Int) ≤ k + j
    · rw [if_pos (show zI (r.length : Int) ≤ zI (k + j) by rw [zI_le (by omega) (by omega) (by omega) (by omega)]; exact z)]
      refine ⟨_, j_iast hG (by omega) (by omega), nx _ ?_⟩
      rw [cF_out z]; rfl
    · rw [if_neg (show ¬ zI (r.length : Int) ≤ zI (k + j) by rw [zI_le (by omega) (by omega) (by omega) (by omega)]; exact z)]
      have hm : (k + j).toNat < r.length := by omega
      have hch := hr _ (List.getElem_mem hm)
      have ch := j_chA hsG hm hch.1 hch.2
      rw [show (((k + j).toNat : Nat) : Int) = k + j by omega] at ch
      refine ⟨G, _, gd_n G, (gj_n G).symm, (), j_ob hsG.1, ⟨by omega, by omega⟩, _, ch, _, j_iast hG (by omega) (by omega), nx _ ?_⟩
      rw [cF_in hm (by omega)]
theorem y_feedL (hr : ∀ x ∈ r, 0 ≤ x ∧ x < 128) (hl : r.length ≤ 300) {K : Int32 → gH → Prop} (hK : ∀ G' A' T' b' u', yJ G' A' B T' → (∀ a e, T0 a = some e → T' a = some e) → yCb A' o n b' u' → (r.length : Int) ≤ u' → seg b' 0 r → K 1 G') (hs0 : jStr T0 s w g r) : ∀ (m fuel : Nat) (G A T : gH) (b : Int → Int) (k : Int) (kc ks : Nat), yJ G A B T → yCb A o n b k → (∀ a e, T0 a = some e → T a = some e) → 0 ≤ k → k ≤ 320 → (r.length : Int) ≤ k + 20 * m → m < fuel → kc + m ≤ 50 → ks + 5 * m ≤ 200 → (∀ (i : Nat) (h : i < r.length), (i : Int) < k → b i = r[i]) → w_L_feeds_A_L4 50 200 K fuel G kc ks o s (zI k) (zI k) := by
  intro m
  induction m with
  | zero =>
    intro fuel G A T b k kc ks hJ hA hT k0 k1 hk hf c1 c2 hb
    obtain ⟨f, rfl⟩ : ∃ f, fuel = f + 1 := ⟨fuel - 1, by omega⟩
    have hs : jStr T s w g r := ⟨hT _ _ hs0.1, hT _ _ hs0.2.1, hs0.2.2⟩
    have hsG := hs.up hJ
    rw [w_L_feeds_A_L4]
    refine ⟨G, _, gd_n G, (gj_n G).symm, (), j_ob hsG.1, ⟨by omega, by omega⟩, _, j_lnA hsG, ?_⟩
    rw [if_pos (show zI (r.length : Int) ≤ zI k by rw [zI_le (by omega) (by omega) (by omega) (by omega)]; omega)]
    exact ⟨by omega, by omega, hK G A T b k hJ hT hA (by omega) (fun i hi => by rw [Int.zero_add]; exact hb i hi (by omega))⟩
  | succ m ih =>
    intro fuel G A T b k kc ks hJ hA hT k0 k1 hk hf c1 c2 hb
    obtain ⟨f, rfl⟩ : ∃ f, fuel = f + 1 := ⟨fuel - 1, by omega⟩
    have hs : jStr T s w g r := ⟨hT _ _ hs0.1, hT _ _ hs0.2.1, hs0.2.2⟩
    have hsG := hs.up hJ
    rw [w_L_feeds_A_L4]
    refine ⟨G, _, gd_n G, (gj_n G).symm, (), j_ob hsG.1, ⟨by omega, by omega⟩, _, j_lnA hsG, ?_⟩
    by_cases z : (r.length : Int) ≤ k
    · rw [if_pos (show zI (r.length : Int) ≤ zI k by rw [zI_le (by omega) (by omega) (by omega) (by omega)]; exact z)]
      exact ⟨by omega, by omega, hK G A T b k hJ hT hA z (fun i hi => by rw [Int.zero_add]; exact hb i hi (by omega))⟩
    · rw [if_neg (show ¬ zI (r.length : Int) ≤ zI k by rw [zI_le (by omega) (by omega) (by omega) (by omega)]; exact z)]
      refine ⟨⟨by omega, by omega⟩, fun q hq G1 hG1 => ?_⟩
      have hn := hJ.no hq
      have hq0 : T0 q = none := by
        cases h : T0 q with
        | none => rfl
        | some e => have := hT _ _ h; rw [hn.2.2] at this; cases this
      have h0 : (0 : Int32) = zI ((0 : Nat) : Int) := rfl
      rw [h0]
      refine y_feedI (T0 := T0) hr hl k0 (by omega) (by omega) (by omega) hA (fun G' A' T' hJ' hT' hA' => ?_) hq0 hs0 20 g_N 0 G1 _ (fun _ => 0) rfl (by unfold g_N; omega) (by rw [hG1]; exact hJ.upT hn.1 hn.2.1 _) gva_at (fun a _ => pF_0.symm) (fun a e he => by rw [gva_ne (j_ne he hq0)]; exact hT a e he)
      refine ih f G' A' T' _ (k + 20) (kc + 1) (ks + 5) hJ' hA' hT' (by omega) (by omega) (by omega) (by omega) (by omega) (by omega) (fun i hi hlt => ?_)
      by_cases y : k ≤ i
      · rw [if_pos ⟨y, hlt⟩]; exact cF_in hi (by omega)
      · rw [if_neg (by omega)]; exact hb i hi (by omega)
/-- the whole text is fed -/
theorem y_feeds {G A T : gH} (hr : ∀ x ∈ r, 0 ≤ x ∧ x < 128) (hl : r.length ≤ 300) (hJ : yJ G A B T) {b : Int → Int} (hA : yCb A o n b 0) (hs : jStr T s w g r) {K : Int32 → gH → Prop} (hK : ∀ G' A' T' b' u', yJ G' A' B T' → (∀ a e, T a = some e → T' a = some e) → yCb A' o n b' u' → (r.length : Int) ≤ u' → seg b' 0 r → K 1 G') : w_L_feeds_A 50 200 G o s K := by
  unfold w_L_feeds_A
  have h0 : (0 : Int32) = zI 0 := rfl
  rw [h0]
  exact y_feedL hr hl hK hs 15 g_N G A T b 0 0 0 hJ hA (fun _ _ h => h) (by omega) (by omega) (by omega) (by unfold g_N; omega) (by omega) (by omega) (fun i _ h => by omega)
end jT

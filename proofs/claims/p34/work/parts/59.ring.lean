/-! The ring of kept discs. -/
theorem zI_ring {a : Int} (h0 : 0 ≤ a) (h1 : a < 1000) : zI a - zI a / zI 10 * zI 10 = zI (a % 10) := by
  rw [zI_div (by omega) (by omega) (by omega) (by omega), Int.tdiv_eq_ediv_of_nonneg h0, zI_mul, zI_sub]
  congr 1
  omega
section zCls
variable {E : zE} {σ : zW}
theorem c9_keep (hW : zWF E) (hm : zU E 2 0 = true) {o c : Int} (ho : σ 2 0 4 1 = o) (hc : σ 2 0 4 0 = c) (ho0 : 0 ≤ o) (ho1 : o < 10) (hc0 : 0 ≤ c) (hc1 : c ≤ 10) {a1 : Nat} {K : gH → Prop} (h : w_X9_storeIn (zH E (if 10 ≤ c then zs σ 2 0 4 1 ((o + 1) % 10) else zs σ 2 0 4 0 (c + 1))) (zL E 2 0 5) (zI ((o + c) % 10)) a1 K) : w_X2_keep (zH E σ) (zL E 2 0 4) a1 K := by
  have e0 := zg_hi0 (σ := σ) hW hm
  have e1 := zg_hi1 (σ := σ) hW hm
  rw [hc] at e0
  rw [ho] at e1
  have r1 := zI_ring (a := o + c) (by omega) (by omega)
  have r2 := zI_ring (a := o + 1) (by omega) (by omega)
  rw [← zI_add] at r1 r2
  unfold w_X2_keep
  refine ⟨_, e1, _, e0, _, e0, ?_⟩
  by_cases h10 : 10 ≤ c
  · rw [if_pos h10] at h
    rw [if_pos (show (10 : Int32) ≤ zI c by rw [show (10 : Int32) = zI 10 from rfl, zI_le (by omega) (by omega) (by omega) (by omega)]; exact h10)]
    have p := zp_hi1 (σ := σ) hW hm ((o + 1) % 10)
    rw [← r2] at p
    rw [← r1] at h
    exact ⟨_, e1, _, p, _, zg_hi2 hW hm, h⟩
  · rw [if_neg h10] at h
    rw [if_neg (show ¬ (10 : Int32) ≤ zI c by rw [show (10 : Int32) = zI 10 from rfl, zI_le (by omega) (by omega) (by omega) (by omega)]; exact h10)]
    have p := zp_hi0 (σ := σ) hW hm (c + 1)
    rw [← zI_add] at p
    rw [← r1] at h
    exact ⟨_, e0, _, p, _, zg_hi2 hW hm, h⟩
end zCls

/-! find on both sides. -/
def tSp (b : Int → Int) (p : Int) : Bool := decide (b p = 32)
def fE (b : Int → Int) (u : Int) : Int := zrun (tLe b) u.toNat 0
def fS (b : Int → Int) (u : Int) : Int := zrun (tSp b) (u - fE b u).toNat (fE b u)
def fOk (b : Int → Int) (u : Int) : Bool := decide (1 ≤ fE b u ∧ fE b u ≤ 8 ∧ fS b u = u)
def fW (b : Int → Int) (u : Int) : List Int := tLs b (fE b u).toNat 0
theorem fE_rng {b : Int → Int} {u : Int} (h : 0 ≤ u) : 0 ≤ fE b u ∧ fE b u ≤ u := by
  have := zrun_rng (tLe b) u.toNat 0
  unfold fE
  omega
theorem fW_W {b : Int → Int} {u : Int} (h : 0 ≤ u) (h1 : 1 ≤ fE b u) (h2 : fE b u ≤ 8) : zWd (fW b u) := by
  unfold zWd fW
  rw [tLs_len]
  refine ⟨by omega, by omega, fun x hx => ?_⟩
  obtain ⟨j, j1, j2, j3⟩ := tLs_mem _ _ _ hx
  have := zrun_all (P := tLe b) u.toNat 0 j j1 (by unfold fE at j2 h1 h2; omega)
  unfold tLe at this
  rw [j3]
  simpa using this
section zFin
variable {E : zE} {σ : zW} {b : Int → Int} {u : Int}
end zFin

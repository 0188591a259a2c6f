/-! errorPosition; the snapshots' slots. -/
section zCls
variable {E : zE} {σ : zW}
end zCls

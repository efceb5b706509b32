/-! what the invariant's rows and table bound -/
theorem zPp_le {cd : Nat → Nat} {mc : Nat → Nat → Nat} (hv : zCv cd) (hmc : ∀ b, b < 2 → ∀ i, mc b i ≤ 1000) (t e : Nat) : zPp cd mc t e ≤ 10000 := by
  have h2 : cd 2 ≤ 4 := hv.2.2.2.2.1
  have h := zps_le (g := fun o b => zrc cd mc b t o) (cd := cd) (s := e / 2) (x := e % 2) (B := 1000) (by omega) (fun o b hb => zrc_le (hmc b hb)) (cd 2)
  have h3 : 1000 * cd 2 ≤ 1000 * 4 := Nat.mul_le_mul_left _ h2
  unfold zPp
  omega
theorem zmc_b {I : pd_I} {b m : Nat} {f : Nat → Nat} {T : Nat → Nat → Nat} (hr : zRow I b m f) (hT : zTab I T) : ∀ b, b < 2 → ∀ i, zmc m f T b i ≤ 1000 := fun b hb i => zmc_le (fun j hj => (hr.2.2 j hj).2) (fun v hv => ⟨(hT v hv).2.2.1, (hT v hv).2.2.2⟩) hb

/-! THE REFERENCE'S CONSTRUCTOR; the relation at the beginning -/
set_option maxHeartbeats 4000000 in
theorem X10_init_ok {h : Nat} {m0 : XMem} (hz : mZ m0 = h + 1) (h0 : ∀ k, mI m0 h k = 0) : ∃ ν, f_X10_init h m0 = some ν ∧ mZ ν = h + 17 ∧ LM h (mR ν) (mN ν) ∧ Rcst h ν ∧ (∀ k, mI ν h k = 0) ∧ (∀ k, mI ν (h + 1) k = 0) ∧ (∀ k, mI ν (h + 5) k = 0) ∧ (∀ k, mI ν (h + 13) k = 0) ∧ (∀ k, mI ν (h + 14) k = 0) ∧ (∀ k, mL ν (h + 15) k = 0) := by
  have i50 : ib 0 5 = true := by decide
  have i51 : ib 1 5 = true := by decide
  have i52 : ib 2 5 = true := by decide
  have i53 : ib 3 5 = true := by decide
  have i54 : ib 4 5 = true := by decide
  have i70 : ib 0 7 = true := by decide
  have i71 : ib 1 7 = true := by decide
  have i72 : ib 2 7 = true := by decide
  have i73 : ib 3 7 = true := by decide
  have i74 : ib 4 7 = true := by decide
  have i75 : ib 5 7 = true := by decide
  have i76 : ib 6 7 = true := by decide
  have j0 : Int32.toNatClampNeg 0 = 0 := by decide
  have j1 : Int32.toNatClampNeg 1 = 1 := by decide
  have j2 : Int32.toNatClampNeg 2 = 2 := by decide
  have j3 : Int32.toNatClampNeg 3 = 3 := by decide
  have j4 : Int32.toNatClampNeg 4 = 4 := by decide
  have j5 : Int32.toNatClampNeg 5 = 5 := by decide
  have j6 : Int32.toNatClampNeg 6 = 6 := by decide
  have xl : ∀ e n : Nat, xlen (some (Sum.inr (e, n) : XTy)) = n := fun _ _ => rfl
  unfold f_X10_init
  simp only [nm_mk, mZ_nw, mZ_sI, mZ_sR, hz, mN_sI, mN_nw, if_true, xl, i50, i51, i52, i53, i54, i70, i71, i72, i73, i74, i75, i76, gd_mk, j0, j1, j2, j3, j4, j5, j6]
  refine ⟨_, rfl, ?_, ⟨⟨?_, ?_, ?_, ?_, ?_, ?_, ?_, ?_, ?_, ?_, ?_, ?_, ?_, ?_, ?_, ?_⟩, ?_, ?_, ?_, ?_, ?_, ?_, ?_, ?_, ?_, ?_, ?_, ?_, ?_, ?_, ?_, ?_⟩, ⟨⟨?_, ?_, ?_, ?_, ?_⟩, ?_, ?_, ?_, ?_, ?_, ?_, ?_⟩, fun k => ?_, fun k => ?_, fun k => ?_, fun k => ?_, fun k => ?_, fun k => ?_⟩
  all_goals simp [mR_sR, mR_sI, mR_nw, mI_sR, mI_sI, mI_nw, mL_sR, mL_sI, mL_nw, mN_sR, mN_sI, mN_nw, mZ_sI, mZ_sR, mZ_nw, hz, Nat.add_assoc, xl, h0]
theorem Rel.init {g h : Nat} {μ ν : XMem} (c1 : LC g (mR μ) (mN μ)) (c2 : mI μ g 2 = 0) (c3 : mI μ (g + 1) 0 = 0 ∧ mI μ (g + 1) 1 = 0 ∧ mI μ (g + 1) 2 = 0 ∧ mI μ (g + 1) 3 = 0 ∧ mI μ (g + 1) 4 = -1) (c4 : mR μ (g + 1) 5 = none) (c5 : mR μ (g + 1) 6 = none) (c6 : mI μ (g + 45) 1 = 0) (c7 : ∀ k, mI μ (g + 52) k = 0) (c8 : ∀ s, s < 4 → mI μ (g + 55 + 2 * s) 0 = 0 ∧ mI μ (g + 55 + 2 * s) 1 = 0 ∧ ∀ z, mL μ (g + 56 + 2 * s) z = 0)
    (d1 : LM h (mR ν) (mN ν)) (d2 : Rcst h ν) (d3 : ∀ k, mI ν h k = 0) (d4 : ∀ k, mI ν (h + 1) k = 0) (d5 : ∀ k, mI ν (h + 5) k = 0) (d6 : ∀ k, mI ν (h + 13) k = 0) (d7 : ∀ k, mI ν (h + 14) k = 0) (d8 : ∀ k, mL ν (h + 15) k = 0) : Rel g μ h ν := by
  refine ⟨c1, d1, fun k _ => by rw [c7, d5], ⟨0, by omega, c6, d3 7, fun k hk => by omega⟩, fun s hs => ⟨0, by omega, ?_, (c8 s hs).2.1, d7 s, fun k _ => ?_⟩, ⟨by rw [c2, d3], Or.inl c2⟩, ⟨0, 0, 0, 0, 0, fun _ => [], ⟨⟨c3.1, c3.2.1, c3.2.2.1, c3.2.2.2.1, c3.2.2.2.2⟩, ⟨d4 0, d4 1, d4 2, d4 3, d4 4⟩, by omega, by omega, by omega, by omega, by omega⟩, fun c hc => by omega, fun c hc => by omega, by omega, fun i hi => by omega, ?_, ?_, fun i hi => ⟨⟨d4 _, fun k hk => absurd hk (by simp)⟩, by simp, Or.inl rfl⟩⟩, d2⟩
  · rw [(c8 s hs).1, d6]
  · rw [(c8 s hs).2.2, d8]
  · rw [c4]; rfl
  · rw [c5]; rfl

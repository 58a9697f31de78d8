/-! PURE LAYER 20: law, floor, choice of a cell; tells, says -/
theorem X10_worked_nil {h ti : Nat} {x2 x3 : Int32} {ν : XMem} (r2 : LM h (mR ν) (mN ν)) (hti : ti < 8) (t1 : mI ν (h + 1) (243 + 102 * ti) = nI 0) : f_X10_worked h (nI ti) x2 x3 ν = some (if ti = 7 then 1 else 0, ν) := by
  unfold f_X10_worked
  have q1 : (243 : Int32) + 102 * nI ti = nI (243 + 102 * ti) := by
    show nI 243 + nI 102 * nI ti = _
    rw [pk_mul, nI_add]
  simp only [nm_mk, q1]
  have key : ∀ n : Nat, ∀ k : XMem → Option (Int32 × XMem), f_X10_worked_h16 h (nI ti) x2 x3 (nI (243 + 102 * ti)) k (n + 1) 0 1 ν = k ν := by
    intro n k
    rw [f_X10_worked_h16, r2.1.1, fo_mk, r2.2.1, ib_nI (by omega) (by omega), gd_mk, nI_clamp (by omega), t1, if_pos (by decide)]
  refine (key 1999 _).trans ?_
  rw [r2.1.1, fo_mk, r2.2.1, ib_nI (by omega) (by omega), gd_mk, nI_clamp (by omega), t1, if_pos (by decide)]
  by_cases h7 : ti = 7
  · subst h7; rfl
  · have : ¬ nI ti = 7 := fun q => h7 ((nI_eq (b := 7) (by omega) (by omega)).mp q)
    rw [if_neg this, if_neg h7]
theorem WkG.refl (W : Nat) (μ : XMem) : WkG W μ μ := ⟨fun _ _ _ => rfl, rfl, rfl, rfl⟩
theorem told_eq {g h : Nat} {μ ν : XMem} {now nc nl nh fl : Nat} {tx : Nat → List Int32} (r1 : LC g (mR μ) (mN μ)) (r2 : LM h (mR ν) (mN ν)) (w : RW μ (g + 1) (g + 63) ν (h + 1) (h + 3) now nc nl nh fl tx) {i c a2 : Nat} (hi : i < nl) (hc : c < 8) (ha1 : a2 ≠ g + 5) (ha2 : a2 ≠ g + 6) (hq : ∀ k, k < 8 → mI μ a2 k = crw ν h c k) (hm : ¬ crw ν h c 3 = 0) (x3 : Int32) :
    ∃ la v μ' ν', mR μ (g + 1 + 2) i = some la ∧ f_X8_toldBy (g + 1) la a2 (nI c) x3 μ = some (v, μ') ∧ f_X10_worked h (nI i) (nI c) x3 ν = some (v, ν') ∧ WkG (g + 5) μ μ' ∧ WkM h ν ν' := by
  obtain ⟨-, -, -, u0, u1, u2', u3, u4⟩ := w
  obtain ⟨la, ta, e1, e2, e3, e4, e5, e6⟩ := u1 i hi
  obtain ⟨e7, e8, e9⟩ := u4 i (Or.inl hi)
  obtain ⟨v, μ', ν', z1, z2, z3, z4⟩ := worked_eq r1 r2 e5 e7 e8 (e9.resolve_left e6) (show i < 8 by omega) hc ha1 ha2 hq hm x3
  rw [if_neg (by omega)] at z1
  refine ⟨la, v, μ', ν', e1, ?_, z2, z3, z4⟩
  unfold f_X8_toldBy
  rw [(LCl r1).2.2.2.1, fo_mk, e3, fo_mk, X0_warmth_eq (by rw [hq 3 (by decide)]; exact hm), b2_mk]
  rw [show g + 1 + 4 = g + 5 by omega, z1, b2_mk]
theorem floor_eq {g h : Nat} {μ ν : XMem} {now nc nl nh fl : Nat} {tx : Nat → List Int32} (r1 : LC g (mR μ) (mN μ)) (r2 : LM h (mR ν) (mN ν)) (w : RW μ (g + 1) (g + 63) ν (h + 1) (h + 3) now nc nl nh fl tx) {c a2 : Nat} (hc : c < 8) (ha1 : a2 ≠ g + 5) (ha2 : a2 ≠ g + 6) (hq : ∀ k, k < 8 → mI μ a2 k = crw ν h c k) (hm : ¬ crw ν h c 3 = 0) (x3 : Int32) :
    ∃ v μ' ν', f_X8_floorOf (g + 1) a2 (nI c) x3 μ = some (v, μ') ∧ f_X10_worked h 6 (nI c) x3 ν = some (v, ν') ∧ WkG (g + 5) μ μ' ∧ WkM h ν ν' := by
  obtain ⟨-, -, -, u0, u1, u2', u3, u4⟩ := w
  obtain ⟨e7, e8, e9⟩ := u4 6 (by omega)
  unfold f_X8_floorOf
  rw [nm_mk]
  cases ho : mR μ (g + 1) 5 with
  | none =>
    rw [ho] at u2'
    have ht : tx 6 = [] := u2'
    rw [ht] at e7
    exact ⟨0, μ, ν, by rw [oc_mn], X10_worked_nil (ti := 6) r2 (by omega) e7.1, WkG.refl _ _, WkM.refl _ _⟩
  | some ta =>
    rw [ho] at u2'
    obtain ⟨e5, e6⟩ := u2'
    obtain ⟨v, μ', ν', z1, z2, z3, z4⟩ := worked_eq r1 r2 e5 e7 e8 (e9.resolve_left e6) (show 6 < 8 by omega) hc ha1 ha2 hq hm x3
    rw [if_neg (by omega)] at z1
    refine ⟨v, μ', ν', ?_, z2, z3, z4⟩
    rw [oc_ms, (LCl r1).2.2.2.1, fo_mk, fo_mk, X0_warmth_eq (by rw [hq 3 (by decide)]; exact hm), b2_mk, show g + 1 + 4 = g + 5 by omega, z1, b2_mk]
theorem choice_eq {g h : Nat} {μ ν : XMem} {now nc nl nh fl : Nat} {tx : Nat → List Int32} (r1 : LC g (mR μ) (mN μ)) (r2 : LM h (mR ν) (mN ν)) (w : RW μ (g + 1) (g + 63) ν (h + 1) (h + 3) now nc nl nh fl tx) {c a2 : Nat} (hc : c < 8) (ha1 : a2 ≠ g + 5) (ha2 : a2 ≠ g + 6) (hq : ∀ k, k < 8 → mI μ a2 k = crw ν h c k) (hm : ¬ crw ν h c 3 = 0) (x3 : Int32) :
    ∃ v μ' ν', f_X8_choiceOf (g + 1) a2 (nI c) x3 μ = some (v, μ') ∧ f_X10_worked h 7 (nI c) x3 ν = some (v, ν') ∧ WkG (g + 5) μ μ' ∧ WkM h ν ν' := by
  obtain ⟨-, -, -, u0, u1, u2', u3, u4⟩ := w
  obtain ⟨e7, e8, e9⟩ := u4 7 (by omega)
  unfold f_X8_choiceOf
  rw [nm_mk]
  cases ho : mR μ (g + 1) 6 with
  | none =>
    rw [ho] at u3
    have ht : tx 7 = [] := u3
    rw [ht] at e7
    exact ⟨1, μ, ν, by rw [oc_mn], X10_worked_nil (ti := 7) r2 (by omega) e7.1, WkG.refl _ _, WkM.refl _ _⟩
  | some ta =>
    rw [ho] at u3
    obtain ⟨e5, e6⟩ := u3
    obtain ⟨v, μ', ν', z1, z2, z3, z4⟩ := worked_eq r1 r2 e5 e7 e8 (e9.resolve_left e6) (show 7 < 8 by omega) hc ha1 ha2 hq hm x3
    rw [if_pos rfl] at z1
    refine ⟨v, μ', ν', ?_, z2, z3, z4⟩
    rw [oc_ms, (LCl r1).2.2.2.1, fo_mk, fo_mk, X0_thermometer_eq (by rw [hq 3 (by decide)]; exact hm), b2_mk, show g + 1 + 4 = g + 5 by omega, z1, b2_mk]
theorem op_tells {g h : Nat} {μ ν : XMem} (r : Rel g μ h ν) (x1 x2 : Int32) : OpI (f_X9_tells g x1 x2 μ) (f_X10_tells h x1 x2 ν) g h := by
  obtain ⟨r1, r2, r3, r4, r5, r6, ⟨now, nc, nl, nh, fl, tx, w⟩, r8⟩ := id r
  obtain ⟨⟨a0, a1, a2, a3, a4⟩, ⟨v0, v1, v2, v3, v4⟩, p1, p2, p3, p4, p5⟩ := id w.1
  unfold f_X9_tells f_X10_tells
  simp only [r1.1, fo_mk, X8_lawAt_eq (LCl r1) a2 p3, X8_cellAt_eq (LCl r1) a1 p2, b2_mk, X10_isCell_eq r2 v1 (by omega), X10_isLaw_eq r2 v2 (by omega), X9_finding_0 r1, X10_finds_0 r2]
  cases hv : vx nl x1 with
  | none =>
    simp only [Option.bind_none, oc_mn, iS_n, if_true]
    exact .mk (r.find (k := 0) (by decide))
  | some i =>
    obtain ⟨rfl, hi⟩ := vx_some hv
    obtain ⟨la0, -, hla, -⟩ := w.2.2.2.2.1 i hi
    simp only [Option.bind_some, hla, oc_ms, iS_s, one_nz, if_false]
    cases hv2 : vx nc x2 with
    | none =>
      simp only [Option.map_none, oc_mn, iS_n, if_true]
      exact .mk (r.find (k := 0) (by decide))
    | some c =>
      obtain ⟨rfl, hc⟩ := vx_some hv2
      obtain ⟨hc8, q1, q2⟩ := w.cell hc
      obtain ⟨m1, m2⟩ := w.mass hc
      obtain ⟨la, v, μ', ν', z0, z1, z2, z3, z4⟩ := told_eq r1 r2 w hi hc8 (a2 := g + 7 + c) (by omega) (by omega) (fun k hk => q1 k (by omega)) m2 (nI now)
      have hl : la0 = la := by
        rw [hla] at z0
        exact Option.some.inj z0
      subst hl
      have i0 : ib 0 1059 = true := by decide
      have j0 : Int32.toNatClampNeg 0 = 0 := by decide
      simp only [Option.map_some, oc_ms, iS_s, one_nz, if_false, g167, a0, z1, b2_mk, r2.1.1, fo_mk, r2.2.1, i0, gd_mk, j0, v0, z2]
      exact .mk (r.wk z3 z4)
theorem op_says {g h : Nat} {μ ν : XMem} (r : Rel g μ h ν) (x1 x2 : Int32) : OpI (f_X9_says g x1 x2 μ) (f_X10_says h x1 x2 ν) g h := by
  obtain ⟨r1, r2, r3, r4, r5, r6, ⟨now, nc, nl, nh, fl, tx, w⟩, r8⟩ := id r
  obtain ⟨⟨a0, a1, a2, a3, a4⟩, ⟨v0, v1, v2, v3, v4⟩, p1, p2, p3, p4, p5⟩ := id w.1
  unfold f_X9_says f_X10_says
  simp only [r1.1, fo_mk, X8_cellAt_eq (LCl r1) a1 p2, b2_mk, X10_isCell_eq r2 v1 (by omega), X9_finding_0 r1, X10_finds_0 r2, X9_within_eq, X10_within_eq]
  by_cases hw : wi x1 0 1 = 0
  · cases hv2 : vx nc x2 with
    | none =>
      simp only [Option.map_none, oc_mn, hw, if_true]
      exact .mk (r.find (k := 0) (by decide))
    | some c =>
      simp only [Option.map_some, oc_ms, hw, if_true]
      exact .mk (r.find (k := 0) (by decide))
  · simp only [hw, if_false]
    cases hv2 : vx nc x2 with
    | none =>
      simp only [Option.map_none, oc_mn, iS_n, if_true]
      exact .mk (r.find (k := 0) (by decide))
    | some c =>
      obtain ⟨rfl, hc⟩ := vx_some hv2
      obtain ⟨hc8, q1, q2⟩ := w.cell hc
      obtain ⟨m1, m2⟩ := w.mass hc
      have i0 : ib 0 1059 = true := by decide
      have j0 : Int32.toNatClampNeg 0 = 0 := by decide
      simp only [Option.map_some, oc_ms, iS_s, one_nz, if_false, g167, a0, b2_mk, r2.1.1, fo_mk, r2.2.1, i0, gd_mk, j0, v0]
      obtain ⟨n, hn, rfl⟩ := wi_nat (n := 1) rfl hw
      rcases (show n = 0 ∨ n = 1 by omega) with rfl | rfl
      · obtain ⟨v, μ', ν', z1, z2, z3, z4⟩ := floor_eq r1 r2 w hc8 (a2 := g + 7 + c) (by omega) (by omega) (fun k hk => q1 k (by omega)) m2 (nI now)
        rw [if_pos (by decide), z1, b2_mk, show (6 : Int32) + nI 0 = 6 by decide, z2, b2_mk]
        exact .mk (r.wk z3 z4)
      · obtain ⟨v, μ', ν', z1, z2, z3, z4⟩ := choice_eq r1 r2 w hc8 (a2 := g + 7 + c) (by omega) (by omega) (fun k hk => q1 k (by omega)) m2 (nI now)
        rw [if_neg (by decide), z1, b2_mk, show (6 : Int32) + nI 1 = 7 by decide, z2, b2_mk]
        exact .mk (r.wk z3 z4)

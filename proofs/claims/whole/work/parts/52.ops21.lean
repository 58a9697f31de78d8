/-! PURE LAYER 21: must, barred -/
def hd (v : Int32) : Int32 := if 0 ≤ v then (if v ≤ 9999 then v else 9999) else 0
theorem X10_held_eq (v : Int32) (ν : XMem) : f_X10_held v ν = some (hd v, ν) := by
  unfold f_X10_held hd
  repeat' split
  all_goals rfl
theorem hd_nat (v : Int32) : ∃ n : Nat, n ≤ 9999 ∧ hd v = nI n := by
  unfold hd
  by_cases h : 0 ≤ v
  · rw [if_pos h]
    by_cases h2 : v ≤ 9999
    · rw [if_pos h2]
      exact nI_of2 (M := 9999) (n := 9999) rfl (Int32.not_lt.mpr h) h2
    · rw [if_neg h2]
      exact ⟨9999, Nat.le_refl _, rfl⟩
  · rw [if_neg h]
    exact ⟨0, by omega, rfl⟩
theorem hd_C (v : Int32) : (if 0 < (if v < 9999 then v else 9999) then (if v < 9999 then v else 9999) else 0) = hd v := by
  unfold hd
  have z0 : (0 : Int32).toInt = 0 := rfl
  have z9 : (9999 : Int32).toInt = 9999 := rfl
  by_cases h1 : v < 9999
  · simp only [h1, if_true]
    by_cases h2 : 0 < v
    · have h3 : 0 ≤ v := Int32.le_of_lt h2
      have h4 : v ≤ 9999 := Int32.le_of_lt h1
      simp only [h2, h3, h4, if_true]
    · simp only [h2, if_false]
      by_cases h3 : 0 ≤ v
      · have h4 : v ≤ 9999 := Int32.le_of_lt h1
        simp only [h3, h4, if_true]
        simp only [Int32.lt_iff_toInt_lt, Int32.le_iff_toInt_le, z0] at h2 h3
        exact Int32.toInt_inj.mp (by rw [z0]; omega)
      · simp only [h3, if_false]
  · have h0 : (0 : Int32) < 9999 := by decide
    simp only [h1, if_false, h0, if_true]
    have h3 : 0 ≤ v := by simp only [Int32.lt_iff_toInt_lt, Int32.le_iff_toInt_le, z0, z9] at *; omega
    simp only [h3, if_true]
    by_cases h4 : v ≤ 9999
    · simp only [h4, if_true]
      simp only [Int32.lt_iff_toInt_lt, Int32.le_iff_toInt_le, z9] at h1 h4
      exact Int32.toInt_inj.mp (by rw [z9]; omega)
    · simp only [h4, if_false]
theorem RW.wk {g h : Nat} {μ ν μ' ν' : XMem} {now nc nl nh fl : Nat} {tx : Nat → List Int32} (w : RW μ (g + 1) (g + 63) ν (h + 1) (h + 3) now nc nl nh fl tx) (a : WkG (g + 5) μ μ') (b : WkM h ν ν') : RW μ' (g + 1) (g + 63) ν' (h + 1) (h + 3) now nc nl nh fl tx :=
  w.cg (a.1 _ (by omega) (by omega)) (fun c hc => a.1 _ (by omega) (by omega)) (fun c _ => by rw [a.2.1]) (fun q hq => a.1 q (by omega) (by omega)) a.2.2.1 a.2.2.2 (b.1 _ (by omega)) (by rw [b.2.1])
theorem makes_eq {g h : Nat} {μ ν : XMem} {now nc nl nh fl : Nat} {tx : Nat → List Int32} (r1 : LC g (mR μ) (mN μ)) (r2 : LM h (mR ν) (mN ν)) (w : RW μ (g + 1) (g + 63) ν (h + 1) (h + 3) now nc nl nh fl tx) {i c a2 : Nat} (hi : i < nl) (hc : c < 8) (ha1 : a2 ≠ g + 5) (ha2 : a2 ≠ g + 6) (hq : ∀ k, k < 8 → mI μ a2 k = crw ν h c k) (hm : ¬ crw ν h c 3 = 0) (x3 : Int32) :
    ∃ v μ' ν', f_X8_makesBy (g + 1) (nI i) a2 (nI c) x3 μ = some (hd v, μ') ∧ f_X10_worked h (nI i) (nI c) x3 ν = some (v, ν') ∧ WkG (g + 5) μ μ' ∧ WkM h ν ν' := by
  obtain ⟨⟨b0', b1', b2', b3', b4'⟩, -, -, -, p3, -⟩ := id w.1
  obtain ⟨-, -, -, u0, u1, u2', u3, u4⟩ := id w
  obtain ⟨la, ta, e1, e2, e3, e4, e5, e6⟩ := u1 i hi
  obtain ⟨e7, e8, e9⟩ := u4 i (Or.inl hi)
  obtain ⟨v, μ', ν', z1, z2, z3, z4⟩ := worked_eq r1 r2 e5 e7 e8 (e9.resolve_left e6) (show i < 8 by omega) hc ha1 ha2 hq hm x3
  rw [if_neg (by omega)] at z1
  refine ⟨v, μ', ν', ?_, z2, z3, z4⟩
  unfold f_X8_makesBy
  rw [X8_lawAt_eq (LCl r1) b2' p3, b2_mk, vx_nI hi (by omega), Option.bind_some, e1, oc_ms, (LCl r1).2.2.2.1, fo_mk, e3, fo_mk, X0_warmth_eq (by rw [hq 3 (by decide)]; exact hm), b2_mk, show g + 1 + 4 = g + 5 by omega, z1, b2_mk]
  simp only [nm_mk, hd_C]
theorem rays_eq {g h : Nat} {μ ν : XMem} {now nc nl nh fl : Nat} {tx : Nat → List Int32} (r1 : LC g (mR μ) (mN μ)) (r2 : LM h (mR ν) (mN ν)) (w : RW μ (g + 1) (g + 63) ν (h + 1) (h + 3) now nc nl nh fl tx) {i : Nat} (hi : i < nl) (x : Int32) :
    ∃ y, f_X8_raysOverFloor (g + 1) x (nI i) μ = some ((x * y) / 100, μ) ∧ f_X10_rayOf h (nI i) ν = some (y, ν) := by
  obtain ⟨⟨b0', b1', b2', b3', b4'⟩, -, -, -, p3, -⟩ := id w.1
  obtain ⟨-, -, -, u0, u1, u2', u3, u4⟩ := id w
  obtain ⟨la, ta, e1, e2, e3, e4, e5, e6⟩ := u1 i hi
  refine ⟨mI ν (h + 1) (5 + i), ?_, ?_⟩
  · unfold f_X8_raysOverFloor
    rw [X8_lawAt_eq (LCl r1) b2' p3, b2_mk, vx_nI hi (by omega), Option.bind_some, e1, oc_ms, e4]
  · unfold f_X10_rayOf
    have q : (5 : Int32) + nI i = nI (5 + i) := nI_add 5 i
    rw [if_pos (nI_pos' (by omega)), r2.1.1, fo_mk, r2.2.1, q, ib_nI (by omega) (by omega), gd_mk, nI_clamp (by omega)]
theorem must_eq {g h : Nat} {μ ν : XMem} {now nc nl nh fl : Nat} {tx : Nat → List Int32} (r1 : LC g (mR μ) (mN μ)) (r2 : LM h (mR ν) (mN ν)) (w : RW μ (g + 1) (g + 63) ν (h + 1) (h + 3) now nc nl nh fl tx) {i c : Nat} (hi : i < nl) (hc : c < nc) :
    ∃ v μ' ν', f_X9_mustOf g (g + 7 + c) (nI c) (nI i) μ = some (v, μ') ∧ f_X10_mustOf h (nI c) (nI i) ν = some (v, ν') ∧ WkG (g + 5) μ μ' ∧ WkM h ν ν' := by
  obtain ⟨⟨a0, a1, a2, a3, a4⟩, ⟨v0, v1, v2, v3, v4⟩, p1, p2, p3, p4, p5⟩ := id w.1
  obtain ⟨hc8, q1, q2⟩ := w.cell hc
  obtain ⟨m1, m2⟩ := w.mass hc
  obtain ⟨v, μ', ν', z1, z2, z3, z4⟩ := makes_eq r1 r2 w hi hc8 (a2 := g + 7 + c) (by omega) (by omega) (fun k hk => q1 k (by omega)) m2 (nI now)
  have L1 : LC g (mR μ') (mN μ') := by rw [z3.2.2.1, z3.2.2.2]; exact r1
  have L2 : LM h (mR ν') (mN ν') := by rw [z4.2.2.1, z4.2.2.2]; exact r2
  obtain ⟨y, y1, y2⟩ := rays_eq L1 L2 (w.wk z3 z4) hi (hd v)
  have i0 : ib 0 1059 = true := by decide
  have j0 : Int32.toNatClampNeg 0 = 0 := by decide
  refine ⟨hd v * y / 100, μ', ν', ?_, ?_, z3, z4⟩
  · unfold f_X9_mustOf
    simp only [r1.1, fo_mk, a0, z1, b2_mk, y1]
  · unfold f_X10_mustOf
    simp only [r2.1.1, fo_mk, r2.2.1, i0, gd_mk, j0, v0, z2, b2_mk, X10_held_eq, y2]
theorem op_must {g h : Nat} {μ ν : XMem} (r : Rel g μ h ν) (x1 x2 : Int32) : OpI (f_X9_must g x1 x2 μ) (f_X10_must h x1 x2 ν) g h := by
  obtain ⟨r1, r2, r3, r4, r5, r6, ⟨now, nc, nl, nh, fl, tx, w⟩, r8⟩ := id r
  obtain ⟨⟨a0, a1, a2, a3, a4⟩, ⟨v0, v1, v2, v3, v4⟩, p1, p2, p3, p4, p5⟩ := id w.1
  unfold f_X9_must f_X10_must
  simp only [r1.1, fo_mk, X8_lawAt_eq (LCl r1) a2 p3, X8_cellAt_eq (LCl r1) a1 p2, b2_mk, X10_isCell_eq r2 v1 (by omega), X10_isLaw_eq r2 v2 (by omega), X9_finding_0 r1, X10_finds_0 r2]
  cases hv2 : vx nc x1 with
  | none =>
    simp only [Option.map_none, oc_mn, iS_n, if_true]
    exact .mk (r.find (k := 0) (by decide))
  | some c =>
    obtain ⟨rfl, hc⟩ := vx_some hv2
    simp only [Option.map_some, oc_ms, iS_s, one_nz, if_false]
    cases hv : vx nl x2 with
    | none =>
      simp only [Option.bind_none, oc_mn, iS_n, if_true]
      exact .mk (r.find (k := 0) (by decide))
    | some i =>
      obtain ⟨rfl, hi⟩ := vx_some hv
      obtain ⟨la0, -, hla, -⟩ := w.2.2.2.2.1 i hi
      obtain ⟨v, μ', ν', z1, z2, z3, z4⟩ := must_eq r1 r2 w hi hc
      simp only [Option.bind_some, hla, oc_ms, iS_s, one_nz, if_false, g167, z1, z2, b2_mk]
      exact .mk (r.wk z3 z4)
theorem WkG.trans {W : Nat} {μ μ' μ'' : XMem} (a : WkG W μ μ') (b : WkG W μ' μ'') : WkG W μ μ'' :=
  ⟨fun q h1 h2 => (b.1 q h1 h2).trans (a.1 q h1 h2), b.2.1.trans a.2.1, b.2.2.1.trans a.2.2.1, b.2.2.2.trans a.2.2.2⟩
theorem op_barred {g h : Nat} {μ ν : XMem} (r : Rel g μ h ν) (x1 x2 x3 : Int32) : OpI (f_X9_barred g x1 x2 x3 μ) (f_X10_barred h x1 x2 x3 ν) g h := by
  obtain ⟨r1, r2, r3, r4, r5, r6, ⟨now, nc, nl, nh, fl, tx, w⟩, r8⟩ := id r
  obtain ⟨⟨a0, a1, a2, a3, a4⟩, ⟨v0, v1, v2, v3, v4⟩, p1, p2, p3, p4, p5⟩ := id w.1
  unfold f_X9_barred f_X10_barred
  simp only [r1.1, fo_mk, X8_lawAt_eq (LCl r1) a2 p3, X8_cellAt_eq (LCl r1) a1 p2, b2_mk, X10_isCell_eq r2 v1 (by omega), X10_isLaw_eq r2 v2 (by omega), X9_finding_0 r1, X10_finds_0 r2, X9_within_eq, X10_within_eq]
  cases hv2 : vx nc x1 with
  | none =>
    simp only [Option.map_none, oc_mn, iS_n, if_true]
    exact .mk (r.find (k := 0) (by decide))
  | some c =>
    obtain ⟨rfl, hc⟩ := vx_some hv2
    simp only [Option.map_some, oc_ms, iS_s, one_nz, if_false]
    cases hv : vx nl x2 with
    | none =>
      simp only [Option.bind_none, oc_mn, iS_n, if_true]
      exact .mk (r.find (k := 0) (by decide))
    | some i =>
      obtain ⟨rfl, hi⟩ := vx_some hv
      obtain ⟨la0, -, hla, -⟩ := w.2.2.2.2.1 i hi
      simp only [Option.bind_some, hla, oc_ms, iS_s, one_nz, if_false, g167]
      by_cases hw : wi x3 0 9999 = 0
      · simp only [hw, if_true]
        exact .mk (r.find (k := 0) (by decide))
      · obtain ⟨hc8, q1, q2⟩ := w.cell hc
        obtain ⟨m1, m2⟩ := w.mass hc
        obtain ⟨f, μ1, ν1, y1, y2, y3, y4⟩ := floor_eq r1 r2 w hc8 (a2 := g + 7 + c) (by omega) (by omega) (fun k hk => q1 k (by omega)) m2 (nI now)
        have L1 : LC g (mR μ1) (mN μ1) := by rw [y3.2.2.1, y3.2.2.2]; exact r1
        have L2 : LM h (mR ν1) (mN ν1) := by rw [y4.2.2.1, y4.2.2.2]; exact r2
        obtain ⟨v, μ', ν', z1, z2, z3, z4⟩ := must_eq L1 L2 (w.wk y3 y4) hi hc
        have i0 : ib 0 1059 = true := by decide
        have j0 : Int32.toNatClampNeg 0 = 0 := by decide
        simp only [hw, if_false, a0, y1, b2_mk, nm_mk, z1, oC_12 r2 hc8, r2.1.1, fo_mk, r2.2.1, i0, gd_mk, j0, v0, y2, z2, q1 12 (by decide)]
        split
        · exact .mk (r.wk (y3.trans z3) (y4.trans z4))
        · exact .mk (r.wk (y3.trans z3) (y4.trans z4))

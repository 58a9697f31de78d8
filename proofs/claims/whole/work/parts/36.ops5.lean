/-! PURE LAYER 6: count, as, cell -/
def htL (F : Nat → Int32) : Nat → Nat → Int32 → Int32
  | 0, _, acc => acc
  | m + 1, i, acc => htL F m (i + 1) (acc + F i)
theorem X8_heat_loop {A nc : Nat} {μ : XMem} (L : LW (mR μ) (mN μ) A) (hn : mI μ A 1 = nI nc) (h8 : nc ≤ 8) {k : Int32 → XMem → Option (Int32 × XMem)} : ∀ (m n i : Nat) (acc : Int32), i + m = nc → m < n → f_X8_allHeat_h4 A k n acc (nI i) μ = k (htL (fun i => mI μ (A + 6 + i) 6) m i acc) μ := by
  intro m
  induction m with
  | zero =>
    intro n i acc hi hm
    obtain ⟨n, rfl⟩ : ∃ q, n = q + 1 := ⟨n - 1, by omega⟩
    rw [f_X8_allHeat_h4, hn, if_pos (nI_le (by omega) (by omega))]
    rfl
  | succ m ih =>
    intro n i acc hi hm
    obtain ⟨n, rfl⟩ : ∃ q, n = q + 1 := ⟨n - 1, by omega⟩
    have hc : ¬ nI nc ≤ nI i := nI_ge (by omega) (by omega)
    rw [f_X8_allHeat_h4, hn, if_neg hc]
    simp only [X8_cellAt_eq L hn h8, b2_mk, vx_nI (show i < nc by omega) (by omega), Option.map_some, oc_ms, nm_mk, nI_1]
    rw [ih n (i + 1) _ (by omega) (by omega)]
    rfl
theorem X10_heat_loop {h nc : Nat} {ν : XMem} (L : LM h (mR ν) (mN ν)) (hn : mI ν (h + 1) 1 = nI nc) (h8 : nc ≤ 8) {k : Int32 → XMem → Option (Int32 × XMem)} : ∀ (m n i : Nat) (acc : Int32), i + m = nc → m < n → f_X10_count_h90 h k n acc (nI i) ν = k (htL (fun i => crw ν h i 6) m i acc) ν := by
  have q2 : ib 1 1059 = true := by decide
  have q3 : Int32.toNatClampNeg 1 = 1 := by decide
  intro m
  induction m with
  | zero =>
    intro n i acc hi hm
    obtain ⟨n, rfl⟩ : ∃ q, n = q + 1 := ⟨n - 1, by omega⟩
    rw [f_X10_count_h90, L.1.1, fo_mk, L.2.1, q2, gd_mk, q3, hn, if_pos (nI_le (by omega) (by omega))]
    rfl
  | succ m ih =>
    intro n i acc hi hm
    obtain ⟨n, rfl⟩ : ∃ q, n = q + 1 := ⟨n - 1, by omega⟩
    have hc : ¬ nI nc ≤ nI i := nI_ge (by omega) (by omega)
    rw [f_X10_count_h90, L.1.1, fo_mk, L.2.1, q2, gd_mk, q3, hn, if_neg hc]
    simp only [oC_6 L (show i < 8 by omega), b2_mk, nm_mk, nI_1]
    rw [ih n (i + 1) _ (by omega) (by omega)]
    rfl
theorem htL_cg {F G : Nat → Int32} : ∀ (m i : Nat) (acc : Int32), (∀ k, i ≤ k → k < i + m → F k = G k) → htL F m i acc = htL G m i acc := by
  intro m
  induction m with
  | zero => intros; rfl
  | succ m ih =>
    intro i acc h
    show htL F m (i + 1) _ = htL G m (i + 1) _
    rw [h i (by omega) (by omega)]
    exact ih (i + 1) _ (fun k k1 k2 => h k (by omega) (by omega))
set_option maxHeartbeats 1000000 in
theorem op_count {g h : Nat} {μ ν : XMem} (r : Rel g μ h ν) (x : Int32) : OpI (f_X9_count g x μ) (f_X10_count h x ν) g h := by
  obtain ⟨r1, r2, r3, r4, r5, r6, ⟨now, nc, nl, nh, fl, tx, w⟩, r8⟩ := id r
  obtain ⟨⟨a0, a1, a2, a3, a4⟩, ⟨b0, b1, b2, b3, b4⟩, p1, p2, p3, p4, p5⟩ := id w.1
  obtain ⟨n, n1, n2, n3, n4⟩ := id r4
  unfold f_X9_count f_X10_count
  have i0 : ib 0 1059 = true := by decide
  have j0 : Int32.toNatClampNeg 0 = 0 := by decide
  have i1 : ib 1 1059 = true := by decide
  have j1 : Int32.toNatClampNeg 1 = 1 := by decide
  have i2 : ib 2 1059 = true := by decide
  have j2 : Int32.toNatClampNeg 2 = 2 := by decide
  have i3 : ib 3 1059 = true := by decide
  have j3 : Int32.toNatClampNeg 3 = 3 := by decide
  have i4 : ib 4 1059 = true := by decide
  have j4 : Int32.toNatClampNeg 4 = 4 := by decide
  simp only [r1.1, r1.2.2.1, r2.1.1, r2.2.1, fo_mk, i0, i1, i2, i3, i4, gd_mk, j0, j1, j2, j3, j4]
  by_cases h0 : x = 0
  · simp only [h0, if_true]; exact .of rfl rfl (by rw [a0, b0]) r
  · by_cases h1 : x = 1
    · simp only [h0, h1, if_true, if_false]
      rw [if_neg (by decide)]
      exact .of rfl rfl (by rw [a1, b1]) r
    · by_cases h2 : x = 2
      · simp only [h0, h1, h2, if_true, if_false]
        rw [if_neg (by decide), if_neg (by decide)]
        exact .of rfl rfl (by rw [a2, b2]) r
      · by_cases h3 : x = 3
        · simp only [h0, h1, h2, h3, if_true, if_false]
          rw [if_neg (by decide), if_neg (by decide), if_neg (by decide)]
          exact .of rfl rfl (by rw [a3, b3]) r
        · by_cases h4 : x = 4
          · simp only [h0, h1, h2, h3, h4, if_true, if_false]
            rw [if_neg (by decide), if_neg (by decide), if_neg (by decide), if_neg (by decide)]
            exact .of rfl rfl (by rw [a4, b4]) r
          · by_cases h5 : x = 5
            · simp only [h0, h1, h2, h3, h4, h5, if_true, if_false]
              exact .of rfl rfl (by rw [n2, n3]) r
            · by_cases h6 : x = 6
              · simp only [h0, h1, h2, h3, h4, h5, if_false]
                rw [if_pos h6, if_pos h6]
                have e1 := X8_heat_loop (LCl r1) a1 p2 (k := fun x102 m101 => some (x102, m101)) nc 2000 0 0 (by omega) (by omega)
                have e2 := X10_heat_loop r2 b1 p2 (k := fun x119 m118 => some (x119, m118)) nc 2000 0 0 (by omega) (by omega)
                refine .of (by rw [show f_X8_allHeat (g + 1) μ = _ from e1, b2_mk]) e2 (htL_cg _ _ _ fun k _ hk => ?_) r
                have := (w.cell (show k < nc by omega)).2.1 6 (by decide)
                rw [← g167] at this
                exact this
              · simp only [h0, h1, h2, h3, h4, h5, h6, if_false, X9_finding_0 r1, X10_finds_0 r2]
                exact .mk (r.find (by decide))
/-! as -/
def und (k n : Nat) : Bool := k == n || (n == 0 || (k == 2 && n == 1 || (k == 5 && (n == 2 || n == 1))))

theorem X9_isUnder_eq {k n : Nat} (hk : k ≤ 5) (hn : n ≤ 5) (μ : XMem) : f_X9_isUnder (nI k) (nI n) μ = some (if und k n = true then 1 else 0, μ) := by
  have h1 : k = 0 ∨ k = 1 ∨ k = 2 ∨ k = 3 ∨ k = 4 ∨ k = 5 := by omega
  have h2 : n = 0 ∨ n = 1 ∨ n = 2 ∨ n = 3 ∨ n = 4 ∨ n = 5 := by omega
  rcases h1 with rfl | rfl | rfl | rfl | rfl | rfl <;> rcases h2 with rfl | rfl | rfl | rfl | rfl | rfl <;> rfl
theorem X10_as_loop {h k n : Nat} (hk : k ≤ 5) (hn : n ≤ 5) (c : Int32) (K : Int32 → XMem → Option (Int32 × XMem)) (ν : XMem) : f_X10_as_h31 h c (nI n) K 2000 (nI k) ν = K (if und k n = true then nI n else -1) ν := by
  have h1 : k = 0 ∨ k = 1 ∨ k = 2 ∨ k = 3 ∨ k = 4 ∨ k = 5 := by omega
  have h2 : n = 0 ∨ n = 1 ∨ n = 2 ∨ n = 3 ∨ n = 4 ∨ n = 5 := by omega
  rcases h1 with rfl | rfl | rfl | rfl | rfl | rfl <;> rcases h2 with rfl | rfl | rfl | rfl | rfl | rfl <;> rfl
set_option maxHeartbeats 1000000 in
theorem op_as {g h : Nat} {μ ν : XMem} (r : Rel g μ h ν) (c v : Int32) : OpI (f_X9_as g c v μ) (f_X10_as h c v ν) g h := by
  obtain ⟨r1, r2, r3, r4, r5, r6, ⟨now, nc, nl, nh, fl, tx, w⟩, r8⟩ := id r
  obtain ⟨⟨a0, a1, a2, a3, a4⟩, ⟨b0, b1, b2, b3, b4⟩, p1, p2, p3, p4, p5⟩ := id w.1
  unfold f_X9_as f_X10_as
  simp only [r1.1, fo_mk, X8_cellAt_eq (LCl r1) a1 p2, b2_mk, X10_isCell_eq r2 b1 (by omega), X9_within_eq, X10_within_eq]
  cases hv : vx nc c with
  | none =>
    simp only [Option.map_none, oc_mn, X9_finding_0 r1, X10_finds_0 r2, b2_mk, iS_n, if_true]
    exact .mk (r.find (by decide))
  | some j =>
    obtain ⟨rfl, hj⟩ := vx_some hv
    obtain ⟨hj8, q1, q2⟩ := w.cell hj
    obtain ⟨m1, m2⟩ := w.mass hj
    obtain ⟨u, u0, u1, u2⟩ := id q2
    simp only [Option.map_some, oc_ms, iS_s, one_nz, if_false, g167]
    by_cases hw : wi v 0 5 = 0
    · simp only [hw, if_true, X9_finding_0 r1, X10_finds_0 r2, b2_mk]
      exact .mk (r.find (by decide))
    · obtain ⟨n, hn, rfl⟩ := wi_nat (n := 5) rfl hw
      have e0 : mI μ (g + 7 + j) 0 = nI (u 0) := u0 0 (by decide)
      have e0' : crw ν h j 0 = nI (u 0) := by rw [← q1 0 (by decide)]; exact e0
      simp only [hw, if_false, oC_0 r2 hj8, b2_mk, e0, e0', X9_isUnder_eq u1 hn, X10_as_loop u1 hn, f_X10_as_j48]
      cases hu : und (u 0) n with
      | true =>
        simp only [if_true, one_nz, if_false, X0_thermometer_eq m1, b2_mk]
        rw [if_pos (nI_pos' (by omega)), X10_readOf_eq r2 hj8 m2]
        exact .of rfl rfl (thm_cg q1) r
      | false =>
        simp only [Bool.false_eq_true, if_false, if_true, X9_finding_2 r1, X10_finds_2 r2, b2_mk]
        rw [if_neg (by decide)]
        exact .mk (r.find (by decide))
/-! a new cell -/
/-- m numbers from b + i on are 0 -/
def zR (a b : Nat) : Nat → Nat → XMem → XMem
  | 0, _, ν => ν
  | m + 1, i, ν => zR a b m (i + 1) (sI ν a (b + i) 0)
theorem zR_mI {a b : Nat} : ∀ (m i : Nat) (ν : XMem) (x y : Nat), mI (zR a b m i ν) x y = if x = a ∧ b + i ≤ y ∧ y < b + i + m then 0 else mI ν x y := by
  intro m
  induction m with
  | zero => intro i ν x y; rw [if_neg (by omega)]; rfl
  | succ m ih =>
    intro i ν x y
    show mI (zR a b m (i + 1) _) x y = _
    rw [ih, mI_sI]
    by_cases h1 : x = a
    · by_cases h2 : y = b + i
      · rw [if_neg (by omega), if_pos h1, if_pos h2, if_pos (by omega)]
      · rw [if_pos h1, if_neg h2]
        by_cases h3 : b + (i + 1) ≤ y ∧ y < b + (i + 1) + m
        · rw [if_pos ⟨h1, h3⟩, if_pos (by omega)]
        · rw [if_neg (by omega), if_neg (by omega)]
    · rw [if_neg (by omega), if_neg h1, if_neg (by omega)]
theorem zR_mL {a b : Nat} : ∀ (m i : Nat) (ν : XMem), mL (zR a b m i ν) = mL ν := by
  intro m
  induction m with
  | zero => intros; rfl
  | succ m ih => intro i ν; exact ih _ _
theorem zR_mR {a b : Nat} : ∀ (m i : Nat) (ν : XMem), mR (zR a b m i ν) = mR ν := by
  intro m
  induction m with
  | zero => intros; rfl
  | succ m ih => intro i ν; exact ih _ _
theorem zR_mN {a b : Nat} : ∀ (m i : Nat) (ν : XMem), mN (zR a b m i ν) = mN ν := by
  intro m
  induction m with
  | zero => intros; rfl
  | succ m ih => intro i ν; exact ih _ _
theorem X10_cell_loop {h j : Nat} (hj : j < 8) {x1 x2 x3 x4 : Int32} {k : XMem → Option (Int32 × XMem)} : ∀ (m n i : Nat) (ν : XMem), LM h (mR ν) (mN ν) → i + m = 17 → m < n → f_X10_cell_h117 h x1 x2 x3 x4 (nI j) k n (nI i) ν = k (zR (h + 1) (11 + 17 * j) m i ν) := by
  intro m
  induction m with
  | zero =>
    intro n i ν L hi hm
    obtain ⟨n, rfl⟩ : ∃ q, n = q + 1 := ⟨n - 1, by omega⟩
    have hc : (17 : Int32) ≤ nI i := nI_le (a := 17) (b := i) (by omega) (by omega)
    rw [f_X10_cell_h117, if_pos hc]
    rfl
  | succ m ih =>
    intro n i ν L hi hm
    obtain ⟨n, rfl⟩ : ∃ q, n = q + 1 := ⟨n - 1, by omega⟩
    have hc : ¬ (17 : Int32) ≤ nI i := nI_ge (b := 17) (a := i) (by omega) (by omega)
    rw [f_X10_cell_h117, if_neg hc, X10_puts_eq L hj (by omega), b1_mk, nm_mk, nI_1, ih n (i + 1) (sI ν (h + 1) (11 + 17 * j + i) 0) L (by omega) (by omega)]
    rfl
theorem X10_house_loop {h j : Nat} (hj : j < 8) {x1 x2 : Int32} {k : XMem → Option (Int32 × XMem)} : ∀ (m n i : Nat) (ν : XMem), LM h (mR ν) (mN ν) → i + m = 12 → m < n → f_X10_house_h117 h x1 x2 (nI j) k n (nI i) ν = k (zR (h + 1) (147 + 12 * j) m i ν) := by
  intro m
  induction m with
  | zero =>
    intro n i ν L hi hm
    obtain ⟨n, rfl⟩ : ∃ q, n = q + 1 := ⟨n - 1, by omega⟩
    have hc : (12 : Int32) ≤ nI i := nI_le (a := 12) (b := i) (by omega) (by omega)
    rw [f_X10_house_h117, if_pos hc]
    rfl
  | succ m ih =>
    intro n i ν L hi hm
    obtain ⟨n, rfl⟩ : ∃ q, n = q + 1 := ⟨n - 1, by omega⟩
    have hc : ¬ (12 : Int32) ≤ nI i := nI_ge (b := 12) (a := i) (by omega) (by omega)
    rw [f_X10_house_h117, if_neg hc, X10_setHouse_eq L hj (by omega), b1_mk, nm_mk, nI_1, ih n (i + 1) (sI ν (h + 1) (147 + 12 * j + i) 0) L (by omega) (by omega)]
    rfl

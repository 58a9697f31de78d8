/-! PURE LAYER 15: order, beside -/
def od (S W : Nat → Int32) (x : Nat) : Nat → Nat → Int32 → Int32
  | 0, _, acc => acc
  | m + 1, i, acc => od S W x m (i + 1) (if S i = 0 then acc else if W i < W x then acc + 1 else if W i = W x then (if i < x then acc + 1 else acc) else acc)
theorem od_cg {S W S' W' : Nat → Int32} {x : Nat} : ∀ (m i : Nat) (acc : Int32), W x = W' x → (∀ k, i ≤ k → k < i + m → S k = S' k ∧ W k = W' k) → od S W x m i acc = od S' W' x m i acc := by
  intro m
  induction m with
  | zero => intros; rfl
  | succ m ih =>
    intro i acc hx h
    show od S W x m (i + 1) _ = od S' W' x m (i + 1) _
    rw [(h i (by omega) (by omega)).1, (h i (by omega) (by omega)).2, hx]
    exact ih (i + 1) _ hx (fun k k1 k2 => h k (by omega) (by omega))
theorem i32_tri {a b : Int32} (h : ¬ a < b) (h2 : ¬ b < a) : a = b := by
  simp only [Int32.lt_iff_toInt_lt] at *
  exact Int32.toInt_inj.mp (by omega)
theorem i32_ne {a b : Int32} (h : a < b) : ¬ a = b := fun e => by subst e; simp only [Int32.lt_iff_toInt_lt] at *; omega
theorem i32_asym {a b : Int32} (h : a < b) : ¬ b < a := by simp only [Int32.lt_iff_toInt_lt] at *; omega
theorem X1_isBefore_eq {a b : Nat} {μ : XMem} : f_X1_isBefore a b μ = some (if mI μ a 9 < mI μ b 9 then 1 else 0, μ) := by
  unfold f_X1_isBefore
  split <;> simp_all [Int32.not_lt]
set_option maxHeartbeats 400000 in
theorem X8_place_loop {A nh x : Nat} {μ : XMem} (L : LW (mR μ) (mN μ) A) (hn : mI μ A 3 = nI nh) (h8 : nh ≤ 8) (hx : x < nh) {k : Int32 → XMem → Option (Int32 × XMem)} : ∀ (m n i : Nat) (acc : Int32), i + m = nh → m < n → f_X8_placeInOrder_h24 A (nI x) (A + 14 + x) k n acc (nI i) μ = k (od (fun i => mI μ (A + 14 + i) 8) (fun i => mI μ (A + 14 + i) 9) x m i acc) μ := by
  intro m
  induction m with
  | zero =>
    intro n i acc hi hm
    obtain ⟨n, rfl⟩ : ∃ q, n = q + 1 := ⟨n - 1, by omega⟩
    rw [f_X8_placeInOrder_h24, hn, if_pos (nI_le (by omega) (by omega))]
    rfl
  | succ m ih =>
    intro n i acc hi hm
    obtain ⟨n, rfl⟩ : ∃ q, n = q + 1 := ⟨n - 1, by omega⟩
    have hc : ¬ nI nh ≤ nI i := nI_ge (by omega) (by omega)
    rw [f_X8_placeInOrder_h24, hn, if_neg hc]
    simp only [X8_houseAt_eq L hn h8, b2_mk, vx_nI (show i < nh by omega) (by omega), Option.map_some, oc_ms, nm_mk, nI_1, X1_isBefore_eq]
    by_cases h1 : mI μ (A + 14 + i) 8 = 0
    · simp only [h1, if_true]
      rw [ih n (i + 1) _ (by omega) (by omega)]
      simp [od, h1]
    · simp only [h1, if_false]
      by_cases h2 : mI μ (A + 14 + i) 9 < mI μ (A + 14 + x) 9
      · simp only [h2, if_true, one_nz, if_false]
        rw [ih n (i + 1) _ (by omega) (by omega)]
        simp [od, h1, h2]
      · simp only [h2, if_false, if_true]
        by_cases h3 : nI x ≤ nI i
        · have h3' : ¬ i < x := Nat.not_lt.mpr ((nI_leI (by omega) (by omega)).mp h3)
          simp only [h3, if_true]
          rw [ih n (i + 1) _ (by omega) (by omega)]
          simp [od, h1, h2, h3']
        · have h3' : i < x := Nat.lt_of_not_le fun q => h3 (nI_le q (by omega))
          simp only [h3, if_false]
          by_cases h4 : mI μ (A + 14 + x) 9 < mI μ (A + 14 + i) 9
          · simp only [h4, if_true, one_nz, if_false]
            rw [ih n (i + 1) _ (by omega) (by omega)]
            have h5 : ¬ mI μ (A + 14 + i) 9 = mI μ (A + 14 + x) 9 := fun e => i32_ne h4 e.symm
            simp [od, h1, h2, h5]
          · simp only [h4, if_false, if_true]
            rw [ih n (i + 1) _ (by omega) (by omega)]
            have h5 : mI μ (A + 14 + i) 9 = mI μ (A + 14 + x) 9 := i32_tri h2 h4
            simp [od, h1, h5, h3']
theorem X8_place_eq {A nh x : Nat} {μ : XMem} (L : LW (mR μ) (mN μ) A) (hn : mI μ A 3 = nI nh) (h8 : nh ≤ 8) (hx : x < nh) : f_X8_placeInOrder A (nI x) μ = some (if mI μ (A + 14 + x) 8 = 0 then -1 else od (fun i => mI μ (A + 14 + i) 8) (fun i => mI μ (A + 14 + i) 9) x nh 0 0, μ) := by
  unfold f_X8_placeInOrder
  simp only [X8_houseAt_eq L hn h8, b2_mk, vx_nI hx (by omega), Option.map_some, oc_ms]
  by_cases h1 : mI μ (A + 14 + x) 8 = 0
  · simp only [h1, if_true]
  · simp only [h1, if_false]
    exact X8_place_loop L hn h8 hx (k := fun x105 m104 => some (x105, m104)) nh 2000 0 0 (by omega) (by omega)
theorem X10_ahead_eq {h : Nat} {ν : XMem} (L : LM h (mR ν) (mN ν)) {i x : Nat} (hi : i < 8) (hx : x < 8) : f_X10_isAhead h (nI i) (nI x) ν = some (if hrw ν h i 7 < hrw ν h x 7 then 1 else if hrw ν h i 7 = hrw ν h x 7 then (if i < x then 1 else 0) else 0, ν) := by
  unfold f_X10_isAhead
  simp only [oH_7 L hi, oH_7 L hx, b2_mk]
  by_cases h1 : hrw ν h i 7 < hrw ν h x 7
  · simp only [h1, if_true]
  · simp only [h1, if_false]
    by_cases h2 : hrw ν h i 7 = hrw ν h x 7
    · simp only [h2, if_true]
      by_cases h3 : i < x
      · rw [if_neg (nI_ge h3 (by omega)), if_pos h3]
      · rw [if_pos (nI_le (by omega) (by omega)), if_neg h3]
    · simp only [h2, if_false]
set_option maxHeartbeats 400000 in
theorem X10_order_in {h nh x : Nat} {ν : XMem} (L : LM h (mR ν) (mN ν)) (hn : mI ν (h + 1) 3 = nI nh) (h8 : nh ≤ 8) (hx : x < nh) (hs : ∀ j, j < nh → hrw ν h j 6 = 0 ∨ hrw ν h j 6 = 1 ∨ hrw ν h j 6 = 2) {x1 : Int32} {k : Int32 → XMem → Option (Int32 × XMem)} : ∀ (m n i : Nat) (acc : Int32), i + m = nh → m < n → f_X10_order_h28 h x1 (nI x) k n acc (nI i) ν = k (od (fun i => hrw ν h i 6) (fun i => hrw ν h i 7) x m i acc) ν := by
  have q2 : ib 3 1059 = true := by decide
  have q3 : Int32.toNatClampNeg 3 = 3 := by decide
  intro m
  induction m with
  | zero =>
    intro n i acc hi hm
    obtain ⟨n, rfl⟩ : ∃ q, n = q + 1 := ⟨n - 1, by omega⟩
    rw [f_X10_order_h28, L.1.1, fo_mk, L.2.1, q2, gd_mk, q3, hn, if_pos (nI_le (by omega) (by omega))]
    rfl
  | succ m ih =>
    intro n i acc hi hm
    obtain ⟨n, rfl⟩ : ∃ q, n = q + 1 := ⟨n - 1, by omega⟩
    have hc : ¬ nI nh ≤ nI i := nI_ge (by omega) (by omega)
    rw [f_X10_order_h28, L.1.1, fo_mk, L.2.1, q2, gd_mk, q3, hn, if_neg hc]
    simp only [oH_6 L (show i < 8 by omega), X10_ahead_eq L (show i < 8 by omega) (show x < 8 by omega), b2_mk, nm_mk, nI_1, Int32.add_zero]
    have hle : hrw ν h i 6 ≤ 0 ↔ hrw ν h i 6 = 0 := by
      rcases hs i (by omega) with e | e | e <;> rw [e] <;> decide
    simp only [hle]
    by_cases h1 : hrw ν h i 6 = 0
    · simp only [h1, if_true]
      rw [ih n (i + 1) _ (by omega) (by omega)]
      simp [od, h1]
    · simp only [h1, if_false]
      by_cases h2 : hrw ν h i 7 < hrw ν h x 7
      · simp only [h2, if_true, one_nz, if_false]
        rw [ih n (i + 1) _ (by omega) (by omega)]
        simp [od, h1, h2]
      · simp only [h2, if_false]
        by_cases h5 : hrw ν h i 7 = hrw ν h x 7
        · simp only [h5, if_true]
          by_cases h3 : i < x
          · simp only [h3, if_true, one_nz, if_false]
            rw [ih n (i + 1) _ (by omega) (by omega)]
            simp [od, h1, h5, h3]
          · simp only [h3, if_true, if_false]
            rw [ih n (i + 1) _ (by omega) (by omega)]
            simp [od, h1, h5, h3]
        · simp only [h5, if_true, if_false]
          rw [ih n (i + 1) _ (by omega) (by omega)]
          simp [od, h1, h2, h5]
theorem order_loop {g h : Nat} {μ ν : XMem} (r : Rel g μ h ν) {now nc nl nh fl : Nat} {tx : Nat → List Int32} (w : RW μ (g + 1) (g + 63) ν (h + 1) (h + 3) now nc nl nh fl tx) {x1 : Int32} (hx1 : 0 ≤ x1) {k k' : Int32 → XMem → Option (Int32 × XMem)} {e e' : XMem → Option (Int32 × XMem)} : ∀ (m n n' i : Nat), i + m = nh → m < n → m < n' →
    (∃ j, f_X9_order_h12 g x1 k e n (nI i) μ = k (nI j) μ ∧ f_X10_order_h13 h x1 k' e' n' (nI i) ν = k' (nI j) ν) ∨ (f_X9_order_h12 g x1 k e n (nI i) μ = e μ ∧ f_X10_order_h13 h x1 k' e' n' (nI i) ν = e' ν) := by
  obtain ⟨r1, r2, -⟩ := id r
  obtain ⟨⟨a0, a1, a2, a3, a4⟩, ⟨v0, v1, v2, v3, v4⟩, p1, p2, p3, p4, p5⟩ := id w.1
  have q2 : ib 3 1059 = true := by decide
  have q3 : Int32.toNatClampNeg 3 = 3 := by decide
  have hs : ∀ j, j < nh → hrw ν h j 6 = 0 ∨ hrw ν h j 6 = 1 ∨ hrw ν h j 6 = 2 := fun j hj => by
    obtain ⟨hj8, z1, z2, z3, z4, z5⟩ := w.house hj
    have := z5.says
    rw [show mI μ (g + 15 + j) 8 = hrw ν h j 6 from z2 0 (by decide)] at this
    exact this
  intro m
  induction m with
  | zero =>
    intro n n' i hi hm hm'
    obtain ⟨n, rfl⟩ : ∃ q, n = q + 1 := ⟨n - 1, by omega⟩
    obtain ⟨n', rfl⟩ : ∃ q, n' = q + 1 := ⟨n' - 1, by omega⟩
    have hc : nI nh ≤ nI i := nI_le (by omega) (by omega)
    exact Or.inr ⟨by rw [f_X9_order_h12, r1.1, fo_mk, a3, if_pos hc], by rw [f_X10_order_h13, r2.1.1, fo_mk, r2.2.1, q2, gd_mk, q3, v3, if_pos hc]⟩
  | succ m ih =>
    intro n n' i hi hm hm'
    obtain ⟨n, rfl⟩ : ∃ q, n = q + 1 := ⟨n - 1, by omega⟩
    obtain ⟨n', rfl⟩ : ∃ q, n' = q + 1 := ⟨n' - 1, by omega⟩
    have hc : ¬ nI nh ≤ nI i := nI_ge (by omega) (by omega)
    have hin : i < nh := by omega
    have eS : ∀ j, j < nh → mI μ (g + 15 + j) 8 = hrw ν h j 6 := fun j hj => (w.house hj).2.2.1 0 (by decide)
    have eW : ∀ j, j < nh → mI μ (g + 15 + j) 9 = hrw ν h j 7 := fun j hj => (w.house hj).2.2.1 1 (by decide)
    have hod : od (fun i => mI μ (g + 1 + 14 + i) 8) (fun i => mI μ (g + 1 + 14 + i) 9) i nh 0 0 = od (fun i => hrw ν h i 6) (fun i => hrw ν h i 7) i nh 0 0 := by
      refine od_cg nh 0 0 ?_ fun z _ hz => ⟨?_, ?_⟩
      · show mI μ (g + 1 + 14 + i) 9 = _
        rw [g1614]; exact eW i hin
      · show mI μ (g + 1 + 14 + z) 8 = _
        rw [g1614]; exact eS z (by omega)
      · show mI μ (g + 1 + 14 + z) 9 = _
        rw [g1614]; exact eW z (by omega)
    have hle : hrw ν h i 6 ≤ 0 ↔ hrw ν h i 6 = 0 := by
      rcases hs i hin with e | e | e <;> rw [e] <;> decide
    have u1 : f_X9_order_h12 g x1 k e (n + 1) (nI i) μ = if (if hrw ν h i 6 = 0 then -1 else od (fun i => hrw ν h i 6) (fun i => hrw ν h i 7) i nh 0 0) = x1 then k (nI i) μ else f_X9_order_h12 g x1 k e n (nI (i + 1)) μ := by
      rw [f_X9_order_h12, r1.1, fo_mk, a3, if_neg hc, fo_mk, X8_place_eq (LCl r1) a3 p4 hin, b2_mk, hod, g1614, eS i hin, nm_mk, nI_1]
    have u2' : f_X10_order_h13 h x1 k' e' (n' + 1) (nI i) ν = if hrw ν h i 6 = 0 then f_X10_order_h13 h x1 k' e' n' (nI (i + 1)) ν else if od (fun i => hrw ν h i 6) (fun i => hrw ν h i 7) i nh 0 0 = x1 then k' (nI i) ν else f_X10_order_h13 h x1 k' e' n' (nI (i + 1)) ν := by
      rw [f_X10_order_h13, r2.1.1, fo_mk, r2.2.1, q2, gd_mk, q3, v3, if_neg hc]
      refine (X10_order_in r2 v3 p4 hin hs nh 2000 0 0 (by omega) (by omega)).trans ?_
      simp only [oH_6 r2 (show i < 8 by omega), b2_mk, hle, nm_mk, nI_1]
    rw [u1, u2']
    have ih' := ih n n' (i + 1) (by omega) (by omega) (by omega)
    by_cases h1 : hrw ν h i 6 = 0
    · have : ¬ (-1 : Int32) = x1 := fun z => by rw [← z] at hx1; exact absurd hx1 (by decide)
      simp only [h1, if_true, this, if_false]
      exact ih'
    · simp only [h1, if_false]
      by_cases h2 : od (fun i => hrw ν h i 6) (fun i => hrw ν h i 7) i nh 0 0 = x1
      · simp only [h2, if_true]
        exact Or.inl ⟨i, rfl, rfl⟩
      · simp only [h2, if_false]
        exact ih'
theorem op_order {g h : Nat} {μ ν : XMem} (r : Rel g μ h ν) (x1 : Int32) : OpI (f_X9_order g x1 μ) (f_X10_order h x1 ν) g h := by
  obtain ⟨r1, r2, r3, r4, r5, r6, ⟨now, nc, nl, nh, fl, tx, w⟩, r8⟩ := id r
  obtain ⟨-, -, p1, p2, p3, p4, p5⟩ := id w.1
  unfold f_X9_order f_X10_order
  by_cases h0 : 0 ≤ x1
  · rw [if_pos h0, if_pos h0]
    rcases order_loop r w h0 (k := fun x102 m101 => some (x102, m101)) (k' := fun x102 m101 => some (x102, m101)) (e := fun m103 => b2 (f_X9_finding g 3 m103) fun r105 m104 => some (r105, m104)) (e' := fun m103 => b2 (f_X10_finds h (-1000000004) m103) fun r105 m104 => some (r105, m104)) nh 2000 2000 0 (by omega) (by omega) (by omega) with ⟨j, e1, e2⟩ | ⟨e1, e2⟩
    · exact .of e1 e2 rfl r
    · refine .of (r := -1000000004) (r' := -1000000004) (e1.trans ?_) (e2.trans ?_) rfl (r.find (k := 3) (by decide))
      · show b2 (f_X9_finding g 3 μ) _ = _
        rw [X9_finding_3 r1, b2_mk]
      · show b2 (f_X10_finds h (-1000000004) ν) _ = _
        rw [X10_finds_3 r2, b2_mk]
  · rw [if_neg h0, if_neg h0, X9_finding_0 r1, X10_finds_0 r2]
    exact .mk (r.find (k := 0) (by decide))
/-! beside -/
theorem l_sub {a b : Int64} (h : -(2 ^ 63 : Int) ≤ a.toInt - b.toInt ∧ a.toInt - b.toInt < 2 ^ 63) : (a - b).toInt = a.toInt - b.toInt := by
  rw [Int64.toInt_sub]
  exact Int.bmod_eq_of_le (by omega) (by omega)
theorem l_mul {a b : Int64} (h : -(2 ^ 63 : Int) ≤ a.toInt * b.toInt ∧ a.toInt * b.toInt < 2 ^ 63) : (a * b).toInt = a.toInt * b.toInt := by
  rw [Int64.toInt_mul]
  exact Int.bmod_eq_of_le (by omega) (by omega)
theorem l_add {a b : Int64} (h : -(2 ^ 63 : Int) ≤ a.toInt + b.toInt ∧ a.toInt + b.toInt < 2 ^ 63) : (a + b).toInt = a.toInt + b.toInt := by
  rw [Int64.toInt_add]
  exact Int.bmod_eq_of_le (by omega) (by omega)
theorem cmp_sub {a b : Int64} (h : -(2 ^ 63 : Int) ≤ a.toInt - b.toInt ∧ a.toInt - b.toInt < 2 ^ 63) : lg_cmp (a - b) 0 = lg_cmp a b := by
  have e := l_sub h
  have z : (0 : Int64).toInt = 0 := rfl
  unfold lg_cmp
  simp only [gt_iff_lt, Int64.lt_iff_toInt_lt, ← Int64.toInt_inj, e, z]
  have c1 : (0 < a.toInt - b.toInt) ↔ b.toInt < a.toInt := by omega
  have c2 : (a.toInt - b.toInt = 0) ↔ a.toInt = b.toInt := by omega
  simp only [c1, c2]
theorem cmp_3 (a b : Int64) : lg_cmp a b = 1 ∨ lg_cmp a b = 0 ∨ lg_cmp a b = -1 := by
  unfold lg_cmp
  split
  · exact Or.inl rfl
  · split
    · exact Or.inr (Or.inl rfl)
    · exact Or.inr (Or.inr rfl)
/-- what a house holds: its balance and its hours -/
theorem HInv.bala {f : Nat → Int32} {b : Nat → Int64} {now nc : Nat} (h : HInv f b now nc) : ∃ c : Nat, c ≤ now ∧ f 5 = nI c ∧ -(230000000 * (c : Int)) ≤ (bal f b).toInt ∧ (bal f b).toInt ≤ 230000000 * (c : Int) := by
  obtain ⟨u, h0, h1, h2, h3, h5, h8, h12, z1, z2, z3, z4, z5, z6, z7, z8, z9⟩ := h
  refine ⟨u 5, z5, h5, ?_⟩
  unfold bal
  split
  · exact z9
  · exact z8
theorem i32_l {n : Nat} (h : n < 2 ^ 31) : (Int32.toInt64 (nI n)).toInt = (n : Int) := by
  rw [Int32.toInt_toInt64, nI_toInt h]
set_option maxHeartbeats 400000 in
theorem op_beside {g h : Nat} {μ ν : XMem} (r : Rel g μ h ν) (x1 x2 : Int32) : OpI (f_X9_beside g x1 x2 μ) (f_X10_beside h x1 x2 ν) g h := by
  obtain ⟨r1, r2, r3, r4, r5, r6, ⟨now, nc, nl, nh, fl, tx, w⟩, r8⟩ := id r
  obtain ⟨⟨a0, a1, a2, a3, a4⟩, ⟨v0, v1, v2, v3, v4⟩, p1, p2, p3, p4, p5⟩ := id w.1
  unfold f_X9_beside f_X10_beside
  simp only [r1.1, fo_mk, X8_houseAt_eq (LCl r1) a3 p4, b2_mk, X10_isHouse_eq r2 v3 (by omega), X9_finding_0 r1, X10_finds_0 r2]
  cases hv : vx nh x1 with
  | none =>
    simp only [Option.map_none, oc_mn, iS_n, if_true]
    exact .mk (r.find (k := 0) (by decide))
  | some j =>
    cases hv2 : vx nh x2 with
    | none =>
      simp only [Option.map_none, Option.map_some, oc_mn, oc_ms, iS_n, iS_s, one_nz, if_true, if_false]
      exact .mk (r.find (k := 0) (by decide))
    | some k =>
      obtain ⟨rfl, hj⟩ := vx_some hv
      obtain ⟨rfl, hk⟩ := vx_some hv2
      simp only [Option.map_some, oc_ms, iS_s, one_nz, if_false, g1614]
      by_cases he : nI j = nI k
      · simp only [he, if_true]
        exact .mk (r.find (k := 0) (by decide))
      · obtain ⟨hj8, q1, q2, q3, q4, q5⟩ := w.house hj
        obtain ⟨hk8, s1, s2, s3, s4, s5⟩ := w.house hk
        obtain ⟨c, c1, c2, c3, c4⟩ := q5.bala
        obtain ⟨d, d1, d2, d3, d4⟩ := s5.bala
        obtain ⟨t1, t2⟩ := w.bala hj
        obtain ⟨t3, t4⟩ := w.bala hk
        have e5 : hrw ν h j 5 = nI c := (q1 5 (by decide)).symm.trans c2
        have e6 : hrw ν h k 5 = nI d := (s1 5 (by decide)).symm.trans d2
        simp only [he, if_false, oH_5 r2 hj8, oH_5 r2 hk8, b2_mk, c2, d2, e5, e6, nm_mk, X1_balance_eq, X10_itsBalance_eq r2 hj8 t1, X10_itsBalance_eq r2 hk8 t3, t2, t4]
        rw [t2] at c3 c4
        rw [t4] at d3 d4
        by_cases z1 : nI c = 0
        · simp only [z1, if_true, X9_finding_3 r1, X10_finds_3 r2, b2_mk]
          exact .mk (r.find (k := 3) (by decide))
        simp only [z1, if_false]
        by_cases z2 : nI d = 0
        · simp only [z2, if_true, X9_finding_3 r1, X10_finds_3 r2, b2_mk]
          exact .mk (r.find (k := 3) (by decide))
        simp only [z2, if_false]
        generalize balM ν h j = A at *
        generalize balM ν h k = B at *
        have la := i32_l (n := d) (by omega)
        have lb := i32_l (n := c) (by omega)
        have bnd : ∀ (X : Int) (m n : Nat), m ≤ 2000 → n ≤ 2000 → -(230000000 * (m : Int)) ≤ X → X ≤ 230000000 * (m : Int) → -(2 ^ 60 : Int) ≤ X * n ∧ X * n ≤ 2 ^ 60 := by
          intro X m n hm hn h1 h2
          have g1 : X * n ≤ 460000000000 * n := Int.mul_le_mul_of_nonneg_right (by omega) (by omega)
          have g2 : (-460000000000) * n ≤ X * n := Int.mul_le_mul_of_nonneg_right (by omega) (by omega)
          omega
        obtain ⟨x1', x2'⟩ := bnd A.toInt c d (by omega) (by omega) c3 c4
        obtain ⟨y1', y2'⟩ := bnd B.toInt d c (by omega) (by omega) d3 d4
        have m1 := l_mul (a := A) (b := Int32.toInt64 (nI d)) (by rw [la]; omega)
        have m2 := l_mul (a := B) (b := Int32.toInt64 (nI c)) (by rw [lb]; omega)
        rw [la] at m1
        rw [lb] at m2
        rw [cmp_sub (by rw [m1, m2]; omega)]
        rcases cmp_3 (A * Int32.toInt64 (nI d)) (B * Int32.toInt64 (nI c)) with e | e | e <;> rw [e]
        · exact .mk r
        · exact .mk r
        · exact .mk r

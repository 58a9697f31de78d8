/-! PURE LAYER 15: order, beside -/
def od (S W : Nat → Int32) (x : Nat) : Nat → Nat → Int32 → Int32
  | 0, _, acc => acc
  | m + 1, i, acc => od S W x m (i + 1) (if S i = 0 then acc else if W i < W x then acc + 1 else if W i = W x then (if i < x then acc + 1 else acc) else acc)
theorem od_cg {S W S' W' : Nat → Int32} {x : Nat} : ∀ (m i : Nat) (acc : Int32), W x = W' x → (∀ k, i ≤ k → k < i + m → S k = S' k ∧ W k = W' k) → od S W x m i acc = od S' W' x m i acc := by
  intro m
  induction m with
  | zero => intros; rfl
  | succ m ih =>
    intro i acc hx h
    show od S W x m (i + 1) _ = od S' W' x m (i + 1) _
    rw [(h i (by omega) (by omega)).1, (h i (by omega) (by omega)).2, hx]
    exact ih (i + 1) _ hx (fun k k1 k2 => h k (by omega) (by omega))
theorem i32_tri {a b : Int32} (h : ¬ a < b) (h2 : ¬ b < a) : a = b := by
  simp only [Int32.lt_iff_toInt_lt] at *
  exact Int32.toInt_inj.mp (by omega)
theorem i32_ne {a b : Int32} (h : a < b) : ¬ a = b := fun e => by subst e; simp only [Int32.lt_iff_toInt_lt] at *; omega
theorem i32_asym {a b : Int32} (h : a < b) : ¬ b < a := by simp only [Int32.lt_iff_toInt_lt] at *; omega
theorem X1_isBefore_eq {a b : Nat} {μ : XMem} : f_X1_isBefore a b μ = some (if mI μ a 9 < mI μ b 9 then 1 else 0, μ) := by
  unfold f_X1_isBefore
  split <;> simp_all [Int32.not_lt]
set_option maxHeartbeats 400000 in
theorem X8_place_loop {A nh x : Nat} {μ : XMem} (L : LW (mR μ) (mN μ) A) (hn : mI μ A 3 = nI nh) (h8 : nh ≤ 8) (hx : x < nh) {k : Int32 → XMem → Option (Int32 × XMem)} : ∀ (m n i : Nat) (acc : Int32), i + m = nh → m < n → f_X8_placeInOrder_h24 A (nI x) (A + 14 + x) k n acc (nI i) μ = k (od (fun i => mI μ (A + 14 + i) 8) (fun i => mI μ (A + 14 + i) 9) x m i acc) μ := by
  intro m
  induction m with
  | zero =>
    intro n i acc hi hm
    obtain ⟨n, rfl⟩ : ∃ q, n = q + 1 := ⟨n - 1, by omega⟩
    rw [f_X8_placeInOrder_h24, hn, if_pos (nI_le (by omega) (by omega))]
    rfl
  | succ m ih =>
    intro n i acc hi hm
    obtain ⟨n, rfl⟩ : ∃ q, n = q + 1 := ⟨n - 1, by omega⟩
    have hc : ¬ nI nh ≤ nI i := nI_ge (by omega) (by omega)
    rw [f_X8_placeInOrder_h24, hn, if_neg hc]
    simp only [X8_houseAt_eq L hn h8, b2_mk, vx_nI (show i < nh by omega) (by omega), Option.map_some, oc_ms, nm_mk, nI_1, X1_isBefore_eq]
    by_cases h1 : mI μ (A + 14 + i) 8 = 0
    · simp only [h1, if_true]
      rw [ih n (i + 1) _ (by omega) (by omega)]
      simp [od, h1]
    · simp only [h1, if_false]
      by_cases h2 : mI μ (A + 14 + i) 9 < mI μ (A + 14 + x) 9
      · simp only [h2, if_true, one_nz, if_false]
        rw [ih n (i + 1) _ (by omega) (by omega)]
        simp [od, h1, h2]
      · simp only [h2, if_false, if_true]
        by_cases h3 : nI x ≤ nI i
        · have h3' : ¬ i < x := Nat.not_lt.mpr ((nI_leI (by omega) (by omega)).mp h3)
          simp only [h3, if_true]
          rw [ih n (i + 1) _ (by omega) (by omega)]
          simp [od, h1, h2, h3']
        · have h3' : i < x := Nat.lt_of_not_le fun q => h3 (nI_le q (by omega))
          simp only [h3, if_false]
          by_cases h4 : mI μ (A + 14 + x) 9 < mI μ (A + 14 + i) 9
          · simp only [h4, if_true, one_nz, if_false]
            rw [ih n (i + 1) _ (by omega) (by omega)]
            have h5 : ¬ mI μ (A + 14 + i) 9 = mI μ (A + 14 + x) 9 := fun e => i32_ne h4 e.symm
            simp [od, h1, h2, h5]
          · simp only [h4, if_false, if_true]
            rw [ih n (i + 1) _ (by omega) (by omega)]
            have h5 : mI μ (A + 14 + i) 9 = mI μ (A + 14 + x) 9 := i32_tri h2 h4
            simp [od, h1, h5, h3']
theorem X8_place_eq {A nh x : Nat} {μ : XMem} (L : LW (mR μ) (mN μ) A) (hn : mI μ A 3 = nI nh) (h8 : nh ≤ 8) (hx : x < nh) : f_X8_placeInOrder A (nI x) μ = some (if mI μ (A + 14 + x) 8 = 0 then -1 else od (fun i => mI μ (A + 14 + i) 8) (fun i => mI μ (A + 14 + i) 9) x nh 0 0, μ) := by
  unfold f_X8_placeInOrder
  simp only [X8_houseAt_eq L hn h8, b2_mk, vx_nI hx (by omega), Option.map_some, oc_ms]
  by_cases h1 : mI μ (A + 14 + x) 8 = 0
  · simp only [h1, if_true]
  · simp only [h1, if_false]
    exact X8_place_loop L hn h8 hx (k := fun x105 m104 => some (x105, m104)) nh 2000 0 0 (by omega) (by omega)
theorem X10_ahead_eq {h : Nat} {ν : XMem} (L : LM h (mR ν) (mN ν)) {i x : Nat} (hi : i < 8) (hx : x < 8) : f_X10_isAhead h (nI i) (nI x) ν = some (if hrw ν h i 7 < hrw ν h x 7 then 1 else if hrw ν h i 7 = hrw ν h x 7 then (if i < x then 1 else 0) else 0, ν) := by
  unfold f_X10_isAhead
  simp only [oH_7 L hi, oH_7 L hx, b2_mk]
  by_cases h1 : hrw ν h i 7 < hrw ν h x 7
  · simp only [h1, if_true]
  · simp only [h1, if_false]
    by_cases h2 : hrw ν h i 7 = hrw ν h x 7
    · simp only [h2, if_true]
      by_cases h3 : i < x
      · rw [if_neg (nI_ge h3 (by omega)), if_pos h3]
      · rw [if_pos (nI_le (by omega) (by omega)), if_neg h3]
    · simp only [h2, if_false]
set_option maxHeartbeats 400000 in
theorem X10_order_in {h nh x : Nat} {ν : XMem} (L : LM h (mR ν) (mN ν)) (hn : mI ν (h + 1) 3 = nI nh) (h8 : nh ≤ 8) (hx : x < nh) (hs : ∀ j, j < nh → hrw ν h j 6 = 0 ∨ hrw ν h j 6 = 1 ∨ hrw ν h j 6 = 2) {x1 : Int32} {k : Int32 → XMem → Option (Int32 × XMem)} : ∀ (m n i : Nat) (acc : Int32), i + m = nh → m < n → f_X10_order_h28 h x1 (nI x) k n acc (nI i) ν = k (od (fun i => hrw ν h i 6) (fun i => hrw ν h i 7) x m i acc) ν := by
  have q2 : ib 3 1059 = true := by decide
  have q3 : Int32.toNatClampNeg 3 = 3 := by decide
  intro m
  induction m with
  | zero =>
    intro n i acc hi hm
    obtain ⟨n, rfl⟩ : ∃ q, n = q + 1 := ⟨n - 1, by omega⟩
    rw [f_X10_order_h28, L.1.1, fo_mk, L.2.1, q2, gd_mk, q3, hn, if_pos (nI_le (by omega) (by omega))]
    rfl
  | succ m ih =>
    intro n i acc hi hm
    obtain ⟨n, rfl⟩ : ∃ q, n = q + 1 := ⟨n - 1, by omega⟩
    have hc : ¬ nI nh ≤ nI i := nI_ge (by omega) (by omega)
    rw [f_X10_order_h28, L.1.1, fo_mk, L.2.1, q2, gd_mk, q3, hn, if_neg hc]
    simp only [oH_6 L (show i < 8 by omega), X10_ahead_eq L (show i < 8 by omega) (show x < 8 by omega), b2_mk, nm_mk, nI_1, Int32.add_zero]
    have hle : hrw ν h i 6 ≤ 0 ↔ hrw ν h i 6 = 0 := by
      rcases hs i (by omega) with e | e | e <;> rw [e] <;> decide
    simp only [hle]
    by_cases h1 : hrw ν h i 6 = 0
    · simp only [h1, if_true]
      rw [ih n (i + 1) _ (by omega) (by omega)]
      simp [od, h1]
    · simp only [h1, if_false]
      by_cases h2 : hrw ν h i 7 < hrw ν h x 7
      · simp only [h2, if_true, one_nz, if_false]
        rw [ih n (i + 1) _ (by omega) (by omega)]
        simp [od, h1, h2]
      · simp only [h2, if_false]
        by_cases h5 : hrw ν h i 7 = hrw ν h x 7
        · simp only [h5, if_true]
          by_cases h3 : i < x
          · simp only [h3, if_true, one_nz, if_false]
            rw [ih n (i + 1) _ (by omega) (by omega)]
            simp [od, h1, h5, h3]
          · simp only [h3, if_true, if_false]
            rw [ih n (i + 1) _ (by omega) (by omega)]
            simp [od, h1, h5, h3]
        · simp only [h5, if_true, if_false]
          rw [ih n (i + 1) _ (by omega) (by omega)]
          simp [od, h1, h2, h5]

/-! THE CONSTRUCTORS: both sides begin alike -/
def KBl (z : Nat) (m m' : XMem) : Prop := ∀ q, q < z → mI m' q = mI m q ∧ mL m' q = mL m q ∧ mR m' q = mR m q ∧ mN m' q = mN m q
theorem KBl.trans {z z' : Nat} {m m' m'' : XMem} (a : KBl z m m') (b : KBl z' m' m'') (h : z ≤ z') : KBl z m m'' := fun q hq => ⟨(b q (by omega)).1.trans (a q hq).1, (b q (by omega)).2.1.trans (a q hq).2.1, (b q (by omega)).2.2.1.trans (a q hq).2.2.1, (b q (by omega)).2.2.2.trans (a q hq).2.2.2⟩
theorem KBl.refl (z : Nat) (m : XMem) : KBl z m m := fun _ _ => ⟨rfl, rfl, rfl, rfl⟩
theorem KBl.nw {z : Nat} {m m' : XMem} {t : XTy} (a : KBl z m m') (h : z ≤ mZ m') : KBl z m (nw m' t) := fun q hq => by
  refine ⟨?_, ?_, ?_, ?_⟩
  · funext y; rw [mI_nw, if_neg (by omega)]; exact congrFun (a q hq).1 y
  · funext y; rw [mL_nw, if_neg (by omega)]; exact congrFun (a q hq).2.1 y
  · funext y; rw [mR_nw, if_neg (by omega)]; exact congrFun (a q hq).2.2.1 y
  · rw [mN_nw, if_neg (by omega)]; exact (a q hq).2.2.2
theorem KBl.sI {z b k : Nat} {v : Int32} {m m' : XMem} (a : KBl z m m') (h : z ≤ b) : KBl z m (sI m' b k v) := fun q hq => ⟨by rw [mI_ne (by omega)]; exact (a q hq).1, (a q hq).2.1, (a q hq).2.2.1, (a q hq).2.2.2⟩
theorem KBl.sR {z b k : Nat} {v : Option Nat} {m m' : XMem} (a : KBl z m m') (h : z ≤ b) : KBl z m (sR m' b k v) := fun q hq => ⟨(a q hq).1, (a q hq).2.1, by funext y; rw [mR_sR, if_neg (by omega)]; exact congrFun (a q hq).2.2.1 y, (a q hq).2.2.2⟩
/-- rows of new objects -/
theorem cells_new {A C : Nat} {k : XMem → Option XMem} : ∀ (m n i : Nat) (mu : XMem), i + m = 8 → m < n → mR mu A 7 = some C → mN mu C = 8 → A < mZ mu → C < mZ mu → A ≠ C →
    ∃ mu', f_X8_init_h79 A k n (nI i) mu = k mu' ∧ mZ mu' = mZ mu + m ∧ (∀ q, q < mZ mu → mI mu' q = mI mu q ∧ mL mu' q = mL mu q ∧ mN mu' q = mN mu q ∧ (q ≠ C → mR mu' q = mR mu q)) ∧ (∀ y, mR mu' C y = if i ≤ y ∧ y < 8 then some (mZ mu + (y - i)) else mR mu C y) := by
  intro m
  induction m with
  | zero =>
    intro n i mu hi hn e1 e2 h1 h2 h3
    obtain ⟨n, rfl⟩ : ∃ q, n = q + 1 := ⟨n - 1, by omega⟩
    exact ⟨mu, by rw [f_X8_init_h79, e1, fo_mk, e2, if_pos (nI_le (by omega) (by omega))], rfl, fun q _ => ⟨rfl, rfl, rfl, fun _ => rfl⟩, fun y => by rw [if_neg (by omega)]⟩
  | succ m ih =>
    intro n i mu hi hn e1 e2 h1 h2 h3
    obtain ⟨n, rfl⟩ : ∃ q, n = q + 1 := ⟨n - 1, by omega⟩
    have kb : KBl (mZ mu) mu (nw mu (.inl 0)) := (KBl.refl _ mu).nw (Nat.le_refl _)
    obtain ⟨mu', z1, z2, z3, z4⟩ := ih n (i + 1) (sR (nw mu (.inl 0)) C i (some (mZ mu))) (by omega) (by omega) (by rw [mR_ne h3, (kb A h1).2.2.1]; exact e1) (by rw [mN_sR, (kb C h2).2.2.2]; exact e2) (by rw [mZ_sR, mZ_nw]; omega) (by rw [mZ_sR, mZ_nw]; omega) h3
    rw [mZ_sR, mZ_nw] at z2 z3 z4
    refine ⟨mu', ?_, by omega, fun q hq => ⟨?_, ?_, ?_, fun hc => ?_⟩, fun y => ?_⟩
    · rw [f_X8_init_h79, e1, fo_mk, e2, if_neg (nI_ge (by omega) (by omega)), fo_mk, nm_mk, nm_mk]
      unfold f_X0_init
      rw [b1_mk, (kb C h2).2.2.2, e2, ib_nI (by omega) (by omega), gd_mk, nI_clamp (by omega), nm_mk, nm_mk, nI_1]
      exact z1
    · rw [(z3 q (by omega)).1]; exact (kb q hq).1
    · rw [(z3 q (by omega)).2.1]; exact (kb q hq).2.1
    · rw [(z3 q (by omega)).2.2.1]; exact (kb q hq).2.2.2
    · rw [(z3 q (by omega)).2.2.2 hc, mR_ne hc]; exact (kb q hq).2.2.1
    · rw [z4 y]
      by_cases hy : y = i
      · subst hy
        rw [if_neg (by omega), if_pos (by omega), mR_at, Nat.sub_self, Nat.add_zero]
      · rw [mR_off hy, (kb C h2).2.2.1]
        by_cases h4 : i + 1 ≤ y ∧ y < 8
        · rw [if_pos h4, if_pos (by omega), show mZ mu + 1 + (y - (i + 1)) = mZ mu + (y - i) by omega]
        · rw [if_neg h4, if_neg (by omega)]
theorem houses_new {A C : Nat} {k : XMem → Option XMem} : ∀ (m n i : Nat) (mu : XMem), i + m = 8 → m < n → mR mu A 9 = some C → mN mu C = 8 → A < mZ mu → C < mZ mu → A ≠ C →
    ∃ mu', f_X8_init_h109 A k n (nI i) mu = k mu' ∧ mZ mu' = mZ mu + m ∧ (∀ q, q < mZ mu → mI mu' q = mI mu q ∧ mL mu' q = mL mu q ∧ mN mu' q = mN mu q ∧ (q ≠ C → mR mu' q = mR mu q)) ∧ (∀ y, mR mu' C y = if i ≤ y ∧ y < 8 then some (mZ mu + (y - i)) else mR mu C y) := by
  intro m
  induction m with
  | zero =>
    intro n i mu hi hn e1 e2 h1 h2 h3
    obtain ⟨n, rfl⟩ : ∃ q, n = q + 1 := ⟨n - 1, by omega⟩
    exact ⟨mu, by rw [f_X8_init_h109, e1, fo_mk, e2, if_pos (nI_le (by omega) (by omega))], rfl, fun q _ => ⟨rfl, rfl, rfl, fun _ => rfl⟩, fun y => by rw [if_neg (by omega)]⟩
  | succ m ih =>
    intro n i mu hi hn e1 e2 h1 h2 h3
    obtain ⟨n, rfl⟩ : ∃ q, n = q + 1 := ⟨n - 1, by omega⟩
    have kb : KBl (mZ mu) mu (nw mu (.inl 1)) := (KBl.refl _ mu).nw (Nat.le_refl _)
    obtain ⟨mu', z1, z2, z3, z4⟩ := ih n (i + 1) (sR (nw mu (.inl 1)) C i (some (mZ mu))) (by omega) (by omega) (by rw [mR_ne h3, (kb A h1).2.2.1]; exact e1) (by rw [mN_sR, (kb C h2).2.2.2]; exact e2) (by rw [mZ_sR, mZ_nw]; omega) (by rw [mZ_sR, mZ_nw]; omega) h3
    rw [mZ_sR, mZ_nw] at z2 z3 z4
    refine ⟨mu', ?_, by omega, fun q hq => ⟨?_, ?_, ?_, fun hc => ?_⟩, fun y => ?_⟩
    · rw [f_X8_init_h109, e1, fo_mk, e2, if_neg (nI_ge (by omega) (by omega)), fo_mk, nm_mk, nm_mk]
      unfold f_X1_init
      rw [b1_mk, (kb C h2).2.2.2, e2, ib_nI (by omega) (by omega), gd_mk, nI_clamp (by omega), nm_mk, nm_mk, nI_1]
      exact z1
    · rw [(z3 q (by omega)).1]; exact (kb q hq).1
    · rw [(z3 q (by omega)).2.1]; exact (kb q hq).2.1
    · rw [(z3 q (by omega)).2.2.1]; exact (kb q hq).2.2.2
    · rw [(z3 q (by omega)).2.2.2 hc, mR_ne hc]; exact (kb q hq).2.2.1
    · rw [z4 y]
      by_cases hy : y = i
      · subst hy
        rw [if_neg (by omega), if_pos (by omega), mR_at, Nat.sub_self, Nat.add_zero]
      · rw [mR_off hy, (kb C h2).2.2.1]
        by_cases h4 : i + 1 ≤ y ∧ y < 8
        · rw [if_pos h4, if_pos (by omega), show mZ mu + 1 + (y - (i + 1)) = mZ mu + (y - i) by omega]
        · rw [if_neg h4, if_neg (by omega)]
/-- a new row, and where it is held -/
theorem new_at {z b k n e : Nat} {m m' : XMem} (kb : KBl z m m') (hz : z ≤ b) (hb : b < mZ m') : mN (sR (nw m' (.inr (e, n))) b k (some (mZ m'))) (mZ m') = n ∧ mR (sR (nw m' (.inr (e, n))) b k (some (mZ m'))) b k = some (mZ m') ∧ mZ (sR (nw m' (.inr (e, n))) b k (some (mZ m'))) = mZ m' + 1 := by
  refine ⟨?_, mR_at, rfl⟩
  rw [mN_sR, mN_nw, if_pos rfl]
  rfl
set_option maxHeartbeats 1000000 in
theorem X8_init_ok {A : Nat} {m0 : XMem} (hz : mZ m0 = A + 1) : ∃ m', f_X8_init A m0 = some m' ∧ mZ m' = A + 22 ∧ KBl A m0 m' ∧ LW (mR m') (mN m') A ∧ (mI m' A 0 = 0 ∧ mI m' A 1 = 0 ∧ mI m' A 2 = 0 ∧ mI m' A 3 = 0 ∧ mI m' A 4 = -1) ∧ mR m' A 5 = none ∧ mR m' A 6 = none := by
  unfold f_X8_init
  simp only [nm_mk]
  unfold f_X7_init
  simp only [nm_mk, b1_mk, mZ_sI, mZ_sR, mZ_nw, hz]
  generalize hm : sR (sI (sR (nw (sI (sI (sI (sI (sI (nw (sR (nw (sR (nw (sR (nw (sR (sR (sI (sI (sI (sI (sI m0 A 0 0) A 1 0) A 2 0) A 3 0) A 4 (-1)) A 5 none) A 6 none) (.inr (3, 8))) A 7 (some (A + 1))) (.inr (4, 6))) A 8 (some (A + 1 + 1))) (.inr (5, 8))) A 9 (some (A + 1 + 1 + 1))) (.inl 7)) (A + 1 + 1 + 1 + 1) 0 0) (A + 1 + 1 + 1 + 1) 1 0) (A + 1 + 1 + 1 + 1) 2 0) (A + 1 + 1 + 1 + 1) 3 0) (A + 1 + 1 + 1 + 1) 4 0) (.inr (0, 13))) (A + 1 + 1 + 1 + 1) 5 (some (A + 1 + 1 + 1 + 1 + 1))) (A + 1 + 1 + 1 + 1) 6 0) A 10 (some (A + 1 + 1 + 1 + 1)) = mu
  have hZ : mZ mu = A + 6 := by rw [← hm]; simp only [mZ_sI, mZ_sR, mZ_nw, hz]
  have kb : KBl A m0 mu := by
    rw [← hm]
    refine KBl.sR (KBl.sI (KBl.sR (KBl.nw (KBl.sI (KBl.sI (KBl.sI (KBl.sI (KBl.sI (KBl.nw (KBl.sR (KBl.nw (KBl.sR (KBl.nw (KBl.sR (KBl.nw (KBl.sR (KBl.sR (KBl.sI (KBl.sI (KBl.sI (KBl.sI (KBl.sI (KBl.refl A m0) ?_) ?_) ?_) ?_) ?_) ?_) ?_) ?_) ?_) ?_) ?_) ?_) ?_) ?_) ?_) ?_) ?_) ?_) ?_) ?_) ?_) ?_) ?_ <;> first | omega | (simp only [mZ_sI, mZ_sR, mZ_nw, hz]; omega)
  have rA : ∀ k, mR mu A k = if k = 10 then some (A + 4) else if k = 9 then some (A + 3) else if k = 8 then some (A + 2) else if k = 7 then some (A + 1) else if k = 6 then none else if k = 5 then none else mR m0 A k := by
    intro k
    rw [← hm]
    simp [mR_sR, mR_sI, mR_nw, mZ_sI, mZ_sR, mZ_nw, hz, Nat.add_assoc]
  have r4 : mR mu (A + 4) 5 = some (A + 5) := by
    rw [← hm]
    simp [mR_sR, mR_sI, mR_nw, mZ_sI, mZ_sR, mZ_nw, hz, Nat.add_assoc]
  have nAll : mN mu (A + 1) = 8 ∧ mN mu (A + 2) = 6 ∧ mN mu (A + 3) = 8 ∧ mN mu (A + 5) = 13 := by
    rw [← hm]
    simp [mN_sR, mN_sI, mN_nw, mZ_sI, mZ_sR, mZ_nw, hz, Nat.add_assoc, xlen]
  have iA : mI mu A 0 = 0 ∧ mI mu A 1 = 0 ∧ mI mu A 2 = 0 ∧ mI mu A 3 = 0 ∧ mI mu A 4 = -1 := by
    rw [← hm]
    simp [mI_sR, mI_sI, mI_nw, mZ_sI, mZ_sR, mZ_nw, hz, Nat.add_assoc]
  clear hm
  obtain ⟨mu1, c1, c2, c3, c4⟩ := cells_new (A := A) (C := A + 1) (k := fun m121 => f_X8_init_h109 A (fun m122 => some m122) 10 0 m121) 8 10 0 mu (by omega) (by omega) (rA 7) nAll.1 (by omega) (by omega) (by omega)
  obtain ⟨mu2, d1, d2, d3, d4⟩ := houses_new (A := A) (C := A + 3) (k := fun m122 => some m122) 8 10 0 mu1 (by omega) (by omega) (by rw [(c3 A (by omega)).2.2.2 (by omega)]; exact rA 9) (by rw [(c3 (A + 3) (by omega)).2.2.1]; exact nAll.2.2.1) (by omega) (by omega) (by omega)
  have rA2 : mR mu2 A = mR mu A := by rw [(d3 A (by omega)).2.2.2 (by omega), (c3 A (by omega)).2.2.2 (by omega)]
  have n2 : ∀ q, q < A + 6 → mN mu2 q = mN mu q := fun q hq => by rw [(d3 q (by omega)).2.2.1, (c3 q (by omega)).2.2.1]
  refine ⟨mu2, c1.trans d1, by omega, fun q hq => ⟨?_, ?_, ?_, ?_⟩, ⟨by rw [rA2]; exact rA 7, by rw [rA2]; exact rA 8, by rw [rA2]; exact rA 9, by rw [rA2]; exact rA 10, by rw [n2 _ (by omega)]; exact nAll.1, by rw [n2 _ (by omega)]; exact nAll.2.1, by rw [n2 _ (by omega)]; exact nAll.2.2.1, fun i hi => ?_, fun i hi => ?_, ?_, by rw [n2 _ (by omega)]; exact nAll.2.2.2⟩, ?_, by rw [rA2]; exact rA 5, by rw [rA2]; exact rA 6⟩
  · rw [(d3 q (by omega)).1, (c3 q (by omega)).1]; exact (kb q hq).1
  · rw [(d3 q (by omega)).2.1, (c3 q (by omega)).2.1]; exact (kb q hq).2.1
  · rw [(d3 q (by omega)).2.2.2 (by omega), (c3 q (by omega)).2.2.2 (by omega)]; exact (kb q hq).2.2.1
  · rw [(d3 q (by omega)).2.2.1, (c3 q (by omega)).2.2.1]; exact (kb q hq).2.2.2
  · rw [(d3 (A + 1) (by omega)).2.2.2 (by omega), c4 i, if_pos (by omega), hZ]
    rfl
  · rw [d4 i, if_pos (by omega), c2, hZ]
    rfl
  · rw [(d3 (A + 4) (by omega)).2.2.2 (by omega), (c3 (A + 4) (by omega)).2.2.2 (by omega)]; exact r4
  · rw [(d3 A (by omega)).1, (c3 A (by omega)).1]; exact iA

/-! PURE LAYER 33: parted -/
def gx (h c : Nat) (x2 : Int32) (now : Nat) (ν : XMem) (q : Nat) : XMem := (f_X10_goes h (nI c) x2 (-1) (nI now + nI q - 1) ν).getD ν
def sqA (h c : Nat) (x2 : Int32) (now : Nat) (ν : XMem) : Nat → XMem
  | 0 => ν
  | k + 1 => sI (gx h c x2 now (sqA h c x2 now ν k) (k + 1)) (h + 12) (k + 1) (thm (crw (gx h c x2 now (sqA h c x2 now ν k) (k + 1)) h c))
def sqB (h c : Nat) (x2 : Int32) (now : Nat) (ν : XMem) : Nat → XMem
  | 0 => ν
  | k + 1 => gx h c x2 now (sqB h c x2 now ν k) (k + 1)
def PI (h nl c now : Nat) (tx : Nat → List Int32) (νb ν : XMem) : Prop := MOk h nl tx ν ∧ CInv (crw ν h c) ∧ Sv h c νb ν ∧ mI ν (h + 1) 0 = nI now
theorem gx_ok {h nl c now : Nat} {tx : Nat → List Int32} {ν : XMem} (M : MOk h nl tx ν) (hc : c < 8) (hi : CInv (crw ν h c)) {x2 : Int32} (hl : LwOk nl x2) (q : Nat) : f_X10_goes h (nI c) x2 (-1) (nI now + nI q - 1) ν = some (gx h c x2 now ν q) ∧ OnM h c ν (gx h c x2 now ν q) ∧ CInv (crw (gx h c x2 now ν q) h c) := by
  obtain ⟨ν', s1, s2, s3⟩ := goes_ok M hc hi hl (nI now + nI q - 1)
  have e : gx h c x2 now ν q = ν' := by
    unfold gx
    rw [s1]
    rfl
  rw [e]
  exact ⟨s1, s2, s3⟩
theorem crw_12 {h c k : Nat} {v : Int32} {ν : XMem} : crw (sI ν (h + 12) k v) h c = crw ν h c := by
  unfold crw
  rw [mI_ne (by omega)]
theorem PI.gx {h nl c now : Nat} {tx : Nat → List Int32} {νb ν : XMem} (P : PI h nl c now tx νb ν) (hc : c < 8) {x2 : Int32} (hl : LwOk nl x2) (q : Nat) : PI h nl c now tx νb (gx h c x2 now ν q) := by
  obtain ⟨p1, p2, p3, p4⟩ := P
  obtain ⟨s1, s2, s3⟩ := gx_ok (now := now) p1 hc p2 hl q
  exact ⟨p1.on hc s2, s3, p3.on s2, by rw [s2.2.1 _ (by omega)]; exact p4⟩
theorem PI.st {h nl c now k : Nat} {v : Int32} {tx : Nat → List Int32} {νb ν : XMem} (P : PI h nl c now tx νb ν) : PI h nl c now tx νb (sI ν (h + 12) k v) := by
  obtain ⟨p1, p2, p3, p4⟩ := P
  refine ⟨p1.cg rfl rfl (fun q _ => by rw [mI_ne (by omega)]), by rw [crw_12]; exact p2, ⟨fun q h1 h2 h3 h4 => by rw [mI_ne h4]; exact p3.1 q h1 h2 h3 h4, fun y hy => by rw [mI_ne (by omega)]; exact p3.2.1 y hy, fun y hy => by rw [mI_ne (by omega)]; exact p3.2.2.1 y hy, p3.2.2.2⟩, by rw [mI_ne (by omega)]; exact p4⟩
theorem sqA_inv {h nl c now : Nat} {tx : Nat → List Int32} {νb ν : XMem} (P : PI h nl c now tx νb ν) (hc : c < 8) {x2 : Int32} (hl : LwOk nl x2) : ∀ k, PI h nl c now tx νb (sqA h c x2 now ν k)
  | 0 => P
  | k + 1 => ((sqA_inv P hc hl k).gx hc hl (k + 1)).st
theorem sqB_inv {h nl c now : Nat} {tx : Nat → List Int32} {νb ν : XMem} (P : PI h nl c now tx νb ν) (hc : c < 8) {x2 : Int32} (hl : LwOk nl x2) : ∀ k, PI h nl c now tx νb (sqB h c x2 now ν k)
  | 0 => P
  | k + 1 => (sqB_inv P hc hl k).gx hc hl (k + 1)
theorem sqA_crw {h c now k : Nat} {x2 : Int32} {ν : XMem} : crw (sqA h c x2 now ν (k + 1)) h c = crw (gx h c x2 now (sqA h c x2 now ν k) (k + 1)) h c := crw_12
theorem sqA_fr {h nl c now : Nat} {tx : Nat → List Int32} {νb ν : XMem} (P : PI h nl c now tx νb ν) (hc : c < 8) {x2 : Int32} (hl : LwOk nl x2) : ∀ k q, 1 ≤ q → q ≤ k → mI (sqA h c x2 now ν k) (h + 12) q = thm (crw (sqA h c x2 now ν q) h c) := by
  intro k
  induction k with
  | zero => intro q h1 h2; omega
  | succ k ih =>
    intro q h1 h2
    have p := sqA_inv P hc hl k
    obtain ⟨s1, s2, s3⟩ := gx_ok (now := now) p.1 hc p.2.1 hl (k + 1)
    show mI (sI (gx h c x2 now (sqA h c x2 now ν k) (k + 1)) (h + 12) (k + 1) _) (h + 12) q = _
    by_cases e : q = k + 1
    · subst e
      rw [mI_at, sqA_crw]
    · rw [mI_off e, s2.1 _ (by omega) (by omega)]
      exact ih q h1 (by omega)
theorem sqB_fr {h nl c now : Nat} {tx : Nat → List Int32} {νb ν : XMem} (P : PI h nl c now tx νb ν) (hc : c < 8) {x2 : Int32} (hl : LwOk nl x2) : ∀ k, mI (sqB h c x2 now ν k) (h + 12) = mI ν (h + 12) := by
  intro k
  induction k with
  | zero => rfl
  | succ k ih =>
    have p := sqB_inv P hc hl k
    obtain ⟨s1, s2, s3⟩ := gx_ok (now := now) p.1 hc p.2.1 hl (k + 1)
    show mI (gx h c x2 now (sqB h c x2 now ν k) (k + 1)) (h + 12) = _
    rw [s2.1 _ (by omega) (by omega), ih]
theorem p51 {h nl c now : Nat} {tx : Nat → List Int32} {νb ν : XMem} (P : PI h nl c now tx νb ν) (hc : c < 8) {x2 x3 x4 : Int32} (hl : LwOk nl x2) {kk : XMem → Option (Int32 × XMem)} : ∀ (m n k : Nat), k + m = 50 → m < n → f_X10_parted_h51 h (nI c) x2 x3 x4 kk n (nI (k + 1)) (sqA h c x2 now ν k) = kk (sqA h c x2 now ν 50) := by
  have i0 : ib 0 1059 = true := by decide
  have j0 : Int32.toNatClampNeg 0 = 0 := by decide
  intro m
  induction m with
  | zero =>
    intro n k hk hn
    obtain ⟨n, rfl⟩ : ∃ q, n = q + 1 := ⟨n - 1, by omega⟩
    obtain rfl : k = 50 := by omega
    rw [f_X10_parted_h51, if_pos (by decide)]
  | succ m ih =>
    intro n k hk hn
    obtain ⟨n, rfl⟩ : ∃ q, n = q + 1 := ⟨n - 1, by omega⟩
    have c1 : ¬ (50 : Int32) < nI (k + 1) := nI_nlt (a := 50) (by omega) (by omega)
    have p := sqA_inv P hc hl k
    obtain ⟨s1, s2, s3⟩ := gx_ok (now := now) p.1 hc p.2.1 hl (k + 1)
    have L := p.1.1
    have L' := s2.L L
    have l18 := L'.1.2.2.2.2.2.2.2.2.2.2.2.1
    have n12 := L'.2.2.2.2.2.2.2.2.2.2.2.2.1
    rw [f_X10_parted_h51, if_neg c1, L.1.1, fo_mk, L.2.1, i0, gd_mk, j0, p.2.2.2, s1, b1_mk, l18, fo_mk, X10_readOf_eq L' hc s3.mass, b2_mk, n12, ib_nI (by omega) (by omega), gd_mk, nI_clamp (by omega), nm_mk, nm_mk, nI_1]
    exact ih n (k + 1) (by omega) (by omega)
def lsB (x4 : Int32) (D : Nat → Int32) : Nat → Nat → Int32 → Int32
  | 0, _, x5 => x5
  | m + 1, k, x5 => lsB x4 D m (k + 1) (if x5 = 0 then (if x4 ≤ D (k + 1) then nI (k + 1) else if 0 - D (k + 1) < x4 then x5 else nI (k + 1)) else x5)
theorem lsB_nz {x4 : Int32} {D : Nat → Int32} : ∀ (m k : Nat) (x5 : Int32), ¬ x5 = 0 → lsB x4 D m k x5 = x5 := by
  intro m
  induction m with
  | zero => intros; rfl
  | succ m ih =>
    intro k x5 hx
    show lsB x4 D m (k + 1) _ = _
    rw [if_neg hx]
    exact ih _ _ hx
theorem p105 {h nl c now : Nat} {tx : Nat → List Int32} {νb ν : XMem} (P : PI h nl c now tx νb ν) (hc : c < 8) {x3 x4 : Int32} (hl : LwOk nl x3) {fr : Nat → Int32} (hfr : ∀ q, 1 ≤ q → q ≤ 50 → mI ν (h + 12) q = fr q) {kk : Int32 → XMem → Option (Int32 × XMem)} : ∀ (m n k : Nat) (x5 : Int32), k + m = 50 → m < n → f_X10_parted_h105 h (nI c) x3 x4 kk n x5 (nI (k + 1)) (sqB h c x3 now ν k) = kk (lsB x4 (fun q => fr q - thm (crw (sqB h c x3 now ν q) h c)) m k x5) (sqB h c x3 now ν 50) := by
  have i0 : ib 0 1059 = true := by decide
  have j0 : Int32.toNatClampNeg 0 = 0 := by decide
  intro m
  induction m with
  | zero =>
    intro n k x5 hk hn
    obtain ⟨n, rfl⟩ : ∃ q, n = q + 1 := ⟨n - 1, by omega⟩
    obtain rfl : k = 50 := by omega
    rw [f_X10_parted_h105, if_pos (by decide)]
    rfl
  | succ m ih =>
    intro n k x5 hk hn
    obtain ⟨n, rfl⟩ : ∃ q, n = q + 1 := ⟨n - 1, by omega⟩
    have c1 : ¬ (50 : Int32) < nI (k + 1) := nI_nlt (a := 50) (by omega) (by omega)
    have p := sqB_inv P hc hl k
    obtain ⟨s1, s2, s3⟩ := gx_ok (now := now) p.1 hc p.2.1 hl (k + 1)
    have L := p.1.1
    have L' := s2.L L
    have l18 := L'.1.2.2.2.2.2.2.2.2.2.2.2.1
    have n12 := L'.2.2.2.2.2.2.2.2.2.2.2.2.1
    have e12 : mI (gx h c x3 now (sqB h c x3 now ν k) (k + 1)) (h + 12) (k + 1) = fr (k + 1) := by
      rw [s2.1 _ (by omega) (by omega), sqB_fr P hc hl k]
      exact hfr _ (by omega) (by omega)
    rw [f_X10_parted_h105, if_neg c1, L.1.1, fo_mk, L.2.1, i0, gd_mk, j0, p.2.2.2, s1, b1_mk, l18, fo_mk, n12, ib_nI (by omega) (by omega), gd_mk, X10_readOf_eq L' hc s3.mass, b2_mk, nI_clamp (by omega), e12, nm_mk, nm_mk, nm_mk, nI_1]
    show _ = kk (lsB x4 _ m (k + 1) (if x5 = 0 then (if x4 ≤ fr (k + 1) - thm (crw (gx h c x3 now (sqB h c x3 now ν k) (k + 1)) h c) then nI (k + 1) else if 0 - (fr (k + 1) - thm (crw (gx h c x3 now (sqB h c x3 now ν k) (k + 1)) h c)) < x4 then x5 else nI (k + 1)) else x5)) _
    have ih' := fun y => ih n (k + 1) y (by omega) (by omega)
    by_cases h5 : x5 = 0
    · rw [if_pos h5, if_pos h5]
      by_cases h6 : x4 ≤ fr (k + 1) - thm (crw (gx h c x3 now (sqB h c x3 now ν k) (k + 1)) h c)
      · rw [if_pos h6, if_pos h6]
        exact ih' _
      · rw [if_neg h6, if_neg h6]
        by_cases h7 : 0 - (fr (k + 1) - thm (crw (gx h c x3 now (sqB h c x3 now ν k) (k + 1)) h c)) < x4
        · rw [if_pos h7, if_pos h7]
          exact ih' _
        · rw [if_neg h7, if_neg h7]
          exact ih' _
    · rw [if_neg h5, if_neg h5]
      exact ih' _
theorem hit_eq {α : Type} {d : Int32} {b : Nat} (h1 : 1 ≤ b) (h2 : b ≤ 9999) (x y : α) : (if (if 0 ≤ d then d else 0 - d) < nI b then x else y) = (if nI b ≤ d then y else if 0 - d < nI b then x else y) := by
  have eb : (nI b).toInt = (b : Int) := nI_toInt (by omega)
  have z0 : (0 : Int32).toInt = 0 := rfl
  by_cases h : 0 ≤ d
  · rw [if_pos h]
    by_cases h3 : d < nI b
    · have n1 : ¬ nI b ≤ d := fun q => by rw [lt_iff] at h3; rw [le_iff] at q; omega
      have d2 := Int32.toInt_lt d
      have n2 : 0 - d < nI b := by
        rw [lt_iff, Int32.toInt_sub, z0, eb]
        rw [le_iff, z0] at h
        rw [Int.bmod_eq_of_le (by omega) (by omega)]
        omega
      rw [if_pos h3, if_neg n1, if_pos n2]
    · rw [if_neg h3, if_pos (Int32.not_lt.mp h3)]
  · have n1 : ¬ nI b ≤ d := fun q => by rw [le_iff, z0] at h; rw [le_iff] at q; omega
    rw [if_neg h, if_neg n1]
theorem Fr.sv {g h nl c : Nat} {μ ν ν' : XMem} {tx : Nat → List Int32} (F : Fr g μ h ν nl tx) (hc : c < 8) (s : Sv h c ν ν') : Fr g μ h ν' nl tx :=
  F.cg (fun _ _ => rfl) rfl rfl rfl s.2.2.2.2.1 s.2.2.2.2.2 (fun k hk => s.2.1 k (by omega))
set_option maxHeartbeats 400000 in
theorem p70 {g h nl c now b : Nat} {tx : Nat → List Int32} {μ0 νb νa νB : XMem} (F0 : Fr g μ0 h νb nl tx) (PA : PI h nl c now tx νb νa) (PB : PI h nl c now tx νb νB) (hc : c < 8) (a0 : mI μ0 (g + 1) 0 = nI now) (hb1 : 1 ≤ b) (hb2 : b ≤ 9999) {x2 x3 : Int32} (hl : LwOk nl x2) (hl3 : LwOk nl x3) {kA : Int32 → XMem → Option (Int32 × XMem)} {kB : XMem → Option (Int32 × XMem)} : ∀ (m n k : Nat) (μ : XMem), k + m = 50 → m < n → OnT g μ0 μ → (∀ j, j < 17 → j ≠ 12 → mI μ (g + 53) j = crw (sqA h c x2 now νa k) h c j) → CInv (mI μ (g + 53)) → (∀ j, j < 17 → j ≠ 12 → mI μ (g + 54) j = crw (sqB h c x3 now νB k) h c j) → CInv (mI μ (g + 54)) →
    ∃ μ', OnT g μ0 μ' ∧ ((f_X9_parted_h70 g (nI c) x2 x3 (nI b) kA kB n (nI (k + 1)) μ = kB μ' ∧ lsB (nI b) (fun q => thm (crw (sqA h c x2 now νa q) h c) - thm (crw (sqB h c x3 now νB q) h c)) m k 0 = 0) ∨ (∃ q, 1 ≤ q ∧ q ≤ 50 ∧ f_X9_parted_h70 g (nI c) x2 x3 (nI b) kA kB n (nI (k + 1)) μ = kA (nI q) μ' ∧ lsB (nI b) (fun q => thm (crw (sqA h c x2 now νa q) h c) - thm (crw (sqB h c x3 now νB q) h c)) m k 0 = nI q)) := by
  intro m
  induction m with
  | zero =>
    intro n k μ hk hn o q1 I1 q2 I2
    obtain ⟨n, rfl⟩ : ∃ q, n = q + 1 := ⟨n - 1, by omega⟩
    obtain rfl : k = 50 := by omega
    exact ⟨μ, o, Or.inl ⟨by rw [f_X9_parted_h70, if_pos (by decide)], rfl⟩⟩
  | succ m ih =>
    intro n k μ hk hn o q1 I1 q2 I2
    obtain ⟨n, rfl⟩ : ∃ q, n = q + 1 := ⟨n - 1, by omega⟩
    have c1 : ¬ (50 : Int32) < nI (k + 1) := nI_nlt (a := 50) (by omega) (by omega)
    have pA := sqA_inv PA hc hl k
    have pB := sqB_inv PB hc hl3 k
    have FA : Fr g μ h (sqA h c x2 now νa k) nl tx := (F0.ont o).sv hc pA.2.2.1
    obtain ⟨μ1, ν1, -, s1, s2, -, s4, -, s6, s7, -, s9, -⟩ := warm_pair FA hc (a := g + 53) (by omega) (by omega) q1 I1 hl (nI now + nI (k + 1) - 1)
    rw [(gx_ok (now := now) pA.1 hc pA.2.1 hl (k + 1)).1] at s2
    obtain rfl : gx h c x2 now (sqA h c x2 now νa k) (k + 1) = ν1 := Option.some.inj s2
    have o1 : OnT g μ0 μ1 := o.on s4 (Or.inl rfl)
    have FB : Fr g μ1 h (sqB h c x3 now νB k) nl tx := (F0.ont o1).sv hc pB.2.2.1
    have e54 : mI μ1 (g + 54) = mI μ (g + 54) := s4.1 _ (by omega) (by omega) (by omega)
    obtain ⟨μ2, ν2, -, t1, t2, -, t4, -, t6, t7, -, t9, -⟩ := warm_pair FB hc (a := g + 54) (by omega) (by omega) (fun j h1 h2 => by rw [e54]; exact q2 j h1 h2) (by rw [e54]; exact I2) hl3 (nI now + nI (k + 1) - 1)
    rw [(gx_ok (now := now) pB.1 hc pB.2.1 hl3 (k + 1)).1] at t2
    obtain rfl : gx h c x3 now (sqB h c x3 now νB k) (k + 1) = ν2 := Option.some.inj t2
    have o2 : OnT g μ0 μ2 := o1.on t4 (Or.inr rfl)
    have e53 : mI μ2 (g + 53) = mI μ1 (g + 53) := t4.1 _ (by omega) (by omega) (by omega)
    have R0 : mR μ = mR μ0 := o.2.2.1
    have R1 : mR μ1 = mR μ0 := o1.2.2.1
    have R2 : mR μ2 = mR μ0 := o2.2.2.1
    have l0 := F0.1.1
    have l7 := F0.1.2.2.2.2.2.2.1
    have l8 := F0.1.2.2.2.2.2.2.2.1
    have w0 : mI μ (g + 1) 0 = nI now := by rw [o.1 _ (by omega) (by omega) (by omega) (by omega)]; exact a0
    have w1 : mI μ1 (g + 1) 0 = nI now := by rw [o1.1 _ (by omega) (by omega) (by omega) (by omega)]; exact a0
    have th1 : f_X0_thermometer (g + 53) μ2 = some (thm (crw (sqA h c x2 now νa (k + 1)) h c), μ2) := by
      rw [X0_thermometer_eq (by rw [e53]; exact s9.mass), e53, sqA_crw, thm_8 (fun j hj => s7 j (by omega) (by omega))]
    have th2 : f_X0_thermometer (g + 54) μ2 = some (thm (crw (sqB h c x3 now νB (k + 1)) h c), μ2) := by
      rw [X0_thermometer_eq t9.mass, thm_8 (fun j hj => t7 j (by omega) (by omega))]
      rfl
    have A : f_X9_parted_h70 g (nI c) x2 x3 (nI b) kA kB (n + 1) (nI (k + 1)) μ = if (if 0 ≤ (thm (crw (sqA h c x2 now νa (k + 1)) h c) - thm (crw (sqB h c x3 now νB (k + 1)) h c)) then (thm (crw (sqA h c x2 now νa (k + 1)) h c) - thm (crw (sqB h c x3 now νB (k + 1)) h c)) else 0 - (thm (crw (sqA h c x2 now νa (k + 1)) h c) - thm (crw (sqB h c x3 now νB (k + 1)) h c))) < nI b then f_X9_parted_h70 g (nI c) x2 x3 (nI b) kA kB n (nI (k + 1 + 1)) μ2 else kA (nI (k + 1)) μ2 := by
      rw [f_X9_parted_h70, if_neg c1, R0, l0, fo_mk, l7, fo_mk, fo_mk, w0, s1, b1_mk, R1, l0, fo_mk, l8, fo_mk, fo_mk, w1, t1, b1_mk, R2, l7, fo_mk, th1, b2_mk, R2, l8, fo_mk, th2, b2_mk, nm_mk, nm_mk, nI_1]
    rw [A, hit_eq hb1 hb2]
    have lu : lsB (nI b) (fun q => thm (crw (sqA h c x2 now νa q) h c) - thm (crw (sqB h c x3 now νB q) h c)) (m + 1) k 0 = lsB (nI b) (fun q => thm (crw (sqA h c x2 now νa q) h c) - thm (crw (sqB h c x3 now νB q) h c)) m (k + 1) (if (0 : Int32) = 0 then (if nI b ≤ thm (crw (sqA h c x2 now νa (k + 1)) h c) - thm (crw (sqB h c x3 now νB (k + 1)) h c) then nI (k + 1) else if 0 - (thm (crw (sqA h c x2 now νa (k + 1)) h c) - thm (crw (sqB h c x3 now νB (k + 1)) h c)) < nI b then 0 else nI (k + 1)) else 0) := rfl
    rw [lu, if_pos rfl]
    have nz1 : ¬ nI (k + 1) = 0 := nI_ne0 (by omega) (by omega)
    by_cases h6 : nI b ≤ thm (crw (sqA h c x2 now νa (k + 1)) h c) - thm (crw (sqB h c x3 now νB (k + 1)) h c)
    · rw [if_pos h6, if_pos h6, lsB_nz _ _ _ nz1]
      exact ⟨μ2, o2, Or.inr ⟨k + 1, by omega, by omega, rfl, rfl⟩⟩
    · rw [if_neg h6, if_neg h6]
      by_cases h7 : 0 - (thm (crw (sqA h c x2 now νa (k + 1)) h c) - thm (crw (sqB h c x3 now νB (k + 1)) h c)) < nI b
      · rw [if_pos h7, if_pos h7]
        exact ih n (k + 1) μ2 (by omega) (by omega) o2 (fun j h1 h2 => by rw [e53, sqA_crw]; exact s7 j h1 h2) (by rw [e53]; exact s9) t7 t9
      · rw [if_neg h7, if_neg h7, lsB_nz _ _ _ nz1]
        exact ⟨μ2, o2, Or.inr ⟨k + 1, by omega, by omega, rfl, rfl⟩⟩
set_option maxHeartbeats 400000 in
theorem op_parted {g h : Nat} {μ ν : XMem} (r : Rel g μ h ν) (x1 x2 x3 x4 : Int32) : OpI (f_X9_parted g x1 x2 x3 x4 μ) (f_X10_parted h x1 x2 x3 x4 ν) g h := by
  obtain ⟨r1, r2, r3, r4, r5, r6, ⟨now, nc, nl, nh, fl, tx, w⟩, r8⟩ := id r
  obtain ⟨⟨a0, a1, a2, a3, a4⟩, ⟨v0, v1, v2, v3, v4⟩, p1, p2, p3, p4, p5⟩ := id w.1
  unfold f_X9_parted f_X10_parted
  rw [r1.1, fo_mk, X8_cellAt_eq (LCl r1) a1 p2, b2_mk, X10_isCell_eq r2 v1 (show nc < 2 ^ 31 by omega), b2_mk]
  cases hv : vx nc x1 with
  | none =>
    rw [Option.map_none, oc_mn, iS_n, if_pos rfl, X9_finding_0 r1, X10_finds_0 r2]
    exact .mk (r.find (k := 0) (by decide))
  | some c =>
    obtain ⟨rfl, hc⟩ := vx_some hv
    rw [Option.map_some, oc_ms, iS_s, if_neg one_nz, X9_isLawOrNone_eq r1 a2 p3 w.2.2.2.has, b2_mk, X10_isLawOrNone_eq r2 v2 (show nl < 2 ^ 31 by omega), b2_mk]
    by_cases hl : x2 = -1 ∨ (vx nl x2).isSome = true
    · rw [if_pos hl, if_neg one_nz, if_neg one_nz, X9_isLawOrNone_eq r1 a2 p3 w.2.2.2.has, b2_mk, X10_isLawOrNone_eq r2 v2 (show nl < 2 ^ 31 by omega), b2_mk]
      by_cases hl3 : x3 = -1 ∨ (vx nl x3).isSome = true
      · rw [if_pos hl3, if_neg one_nz, if_neg one_nz, X9_within_eq, b2_mk, X10_within_eq, b2_mk]
        by_cases hw : wi x4 1 9999 = 0
        · rw [if_pos hw, if_pos hw, X9_finding_0 r1, X10_finds_0 r2]
          exact .mk (r.find (k := 0) (by decide))
        · obtain ⟨b, hb1, hb2, rfl⟩ := wi_nat1 (n := 9999) rfl hw
          rw [if_neg hw, if_neg hw]
          obtain ⟨hc8, q1, q2⟩ := w.cell hc
          have F := w.fr r1 r2
          obtain ⟨μ1, t1, t2, t3, t4⟩ := take_eq (g := g) (a := g + 53) (μ := μ) (Or.inl rfl) hc8
          obtain ⟨μ2, u1, u2', u3, u4⟩ := take_eq (g := g) (a := g + 54) (μ := μ1) (Or.inr rfl) hc8
          have R1 : mR μ1 = mR μ := t2.2.2.1
          obtain ⟨ν1, s1, s2, s3⟩ := saves_eq r2 hc8
          have cI : CInv (crw ν h c) := q2.cg (fun k hk => (q1 k (by omega)).symm)
          have PA : PI h nl c now tx ν ν1 := ⟨(F.bk s3).mok, by rw [s3.row]; exact cI, s2, by rw [s3.1 _ (by omega) (by omega) (by omega)]; exact v0⟩
          have PA50 := sqA_inv PA hc8 (LwOk.of hl) 50
          obtain ⟨ν2, w1, w2, w3, w4⟩ := brings_eq r2 hc8 PA50.2.2.1
          have PB : PI h nl c now tx ν ν2 := ⟨(F.bk w2).mok, by rw [w2.row]; exact cI, w3, by rw [w2.1 _ (by omega) (by omega) (by omega)]; exact v0⟩
          have PB50 := sqB_inv PB hc8 (LwOk.of hl3) 50
          obtain ⟨ν3, y1, y2, -, -⟩ := brings_eq r2 hc8 PB50.2.2.1
          have oT : OnT g μ μ2 := ⟨fun q h1 h2 h3 h4 => (u4 q h2).trans (t4 q h1), u2'.2.1.trans t2.2.1, u2'.2.2.1.trans t2.2.2.1, u2'.2.2.2.trans t2.2.2.2⟩
          have e53 : mI μ2 (g + 53) = mI μ1 (g + 53) := u4 _ (by omega)
          have e54 : ∀ j, j < 17 → mI μ2 (g + 54) j = mI μ (g + 7 + c) j := fun j hj => by rw [u3 j hj, t4 _ (by omega)]
          obtain ⟨μ', z1, z2⟩ := p70 (νa := ν1) (νB := ν2) F PA PB hc8 a0 hb1 hb2 (LwOk.of hl) (LwOk.of hl3) (kA := fun x122 m121 => some (x122, m121)) (kB := fun m123 => b2 (f_X9_finding g 3 m123) fun r125 m124 => some (r125, m124)) 50 2000 0 μ2 (by omega) (by omega) oT (fun j hj _ => by rw [e53, t3 j hj]; show _ = crw ν1 h c j; rw [s3.row]; exact q1 j hj) (q2.cg (fun k hk => by rw [e53]; exact t3 k (by omega))) (fun j hj _ => by rw [e54 j hj]; show _ = crw ν2 h c j; rw [w2.row]; exact q1 j hj) (q2.cg (fun k hk => e54 k (by omega)))
          have M1 := p51 (x3 := x3) (x4 := nI b) PA hc8 (LwOk.of hl) (kk := fun m116 => b1 (f_X10_brings h (nI c) m116) fun m117 => f_X10_parted_h105 h (nI c) x3 (nI b) (fun x119 m118 => b1 (f_X10_brings h (nI c) m118) fun m120 => if x119 = 0 then (b2 (f_X10_finds h (-1000000004) m120) fun r122 m121 => some (r122, m121)) else (some (x119, m120))) 2000 0 1 m117) 50 2000 0 (by omega) (by omega)
          have M2 := p105 (x4 := nI b) (fr := fun q => thm (crw (sqA h c x2 now ν1 q) h c)) PB hc8 (LwOk.of hl3) (fun q h1 h2 => by rw [w4 _ (by omega)]; exact sqA_fr PA hc8 (LwOk.of hl) 50 q h1 h2) (kk := fun x119 m118 => b1 (f_X10_brings h (nI c) m118) fun m120 => if x119 = 0 then (b2 (f_X10_finds h (-1000000004) m120) fun r122 m121 => some (r122, m121)) else (some (x119, m120))) 50 2000 0 0 (by omega) (by omega)
          have M3 : f_X10_parted_h51 h (nI c) x2 x3 (nI b) (fun m116 => b1 (f_X10_brings h (nI c) m116) fun m117 => f_X10_parted_h105 h (nI c) x3 (nI b) (fun x119 m118 => b1 (f_X10_brings h (nI c) m118) fun m120 => if x119 = 0 then (b2 (f_X10_finds h (-1000000004) m120) fun r122 m121 => some (r122, m121)) else (some (x119, m120))) 2000 0 1 m117) 2000 1 ν1 = if lsB (nI b) (fun q => thm (crw (sqA h c x2 now ν1 q) h c) - thm (crw (sqB h c x3 now ν2 q) h c)) 50 0 0 = 0 then (b2 (f_X10_finds h (-1000000004) ν3) fun r122 m121 => some (r122, m121)) else (some (lsB (nI b) (fun q => thm (crw (sqA h c x2 now ν1 q) h c) - thm (crw (sqB h c x3 now ν2 q) h c)) 50 0 0, ν3)) := by
            refine M1.trans ?_
            show b1 (f_X10_brings h (nI c) (sqA h c x2 now ν1 50)) _ = _
            rw [w1, b1_mk]
            refine M2.trans ?_
            show b1 (f_X10_brings h (nI c) (sqB h c x3 now ν2 50)) _ = _
            rw [y1, b1_mk]
          have fin := r.trial z1 y2
          rw [r1.2.2.2.2.2.2.1, fo_mk, g167 g c, t1, b1_mk, R1, r1.2.2.2.2.2.2.2.1, fo_mk, u1, b1_mk, s1, b1_mk]
          rcases z2 with ⟨b1', b2'⟩ | ⟨q, k1, k2, b1', b2'⟩
          · refine OpI.of (r := -1000000004) (b1'.trans ?_) (M3.trans ?_) rfl (fin.find (k := 3) (by decide))
            · show b2 (f_X9_finding g 3 μ') _ = _
              rw [X9_finding_3 fin.1, b2_mk]
            · rw [if_pos b2', X10_finds_3 fin.2.1, b2_mk]
          · refine OpI.of b1' (M3.trans ?_) rfl fin
            rw [b2', if_neg (nI_ne0 (by omega) (by omega))]
      · rw [if_neg hl3, if_pos rfl, if_pos rfl, X9_finding_0 r1, X10_finds_0 r2]
        exact .mk (r.find (k := 0) (by decide))
    · rw [if_neg hl, if_pos rfl, if_pos rfl, X9_finding_0 r1, X10_finds_0 r2]
      exact .mk (r.find (k := 0) (by decide))

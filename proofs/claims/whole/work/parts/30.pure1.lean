/-! PURE LAYER 1: steps of functions, layouts, helpers of both sides -/
theorem b2_mk {α β : Type} (r : α) (m : XMem) (k : α → XMem → Option β) : b2 (some (r, m)) k = k r m := rfl
theorem b1_mk {β : Type} (m : XMem) (k : XMem → Option β) : b1 (some m) k = k m := rfl
theorem fo_mk {β : Type} (b : Nat) (k : Nat → Option β) : fo (some b) k = k b := rfl
theorem nm_mk {α β : Type} (e : α) (k : α → β) : nm e k = k e := rfl
theorem gd_mk {β : Type} (k : Option β) : gd true k = k := rfl
theorem oc_mn {β : Type} (x : β) (y : Nat → β) : oc none x y = x := rfl
theorem oc_ms {β : Type} (b : Nat) (x : β) (y : Nat → β) : oc (some b) x y = y b := rfl
def wi (v a b : Int32) : Int32 := if v < a then 0 else if b < v then 0 else 1
theorem X9_within_eq (x a b : Int32) (m : XMem) : f_X9_within x a b m = some (wi x a b, m) := by
  unfold f_X9_within wi; split
  · rfl
  · split <;> rfl
theorem X10_within_eq (x a b : Int32) (m : XMem) : f_X10_within x a b m = some (wi x a b, m) := by
  unfold f_X10_within wi; split
  · rfl
  · split <;> rfl
/-- a number as a place below n -/
def vx (n : Nat) (c : Int32) : Option Nat := if c < 0 then none else if c.toNatClampNeg < n then some c.toNatClampNeg else none
theorem nI_tn {c : Int32} (h : ¬ c < 0) : c = nI c.toNatClampNeg := by
  obtain ⟨j, h1, rfl⟩ := nI_of h
  rw [nI_clamp h1]
theorem vx_some {n j : Nat} {c : Int32} (h : vx n c = some j) : c = nI j ∧ j < n := by
  unfold vx at h
  split at h
  · cases h
  · split at h
    · cases h
      exact ⟨nI_tn (by assumption), by assumption⟩
    · cases h
theorem tn_int {c : Int32} (h : ¬ c < 0) : (c.toNatClampNeg : Int) = c.toInt := by
  obtain ⟨j, h1, rfl⟩ := nI_of h
  rw [nI_clamp h1, nI_toInt h1]
theorem lt_iff (a b : Int32) : a < b ↔ a.toInt < b.toInt := Int32.lt_iff_toInt_lt
theorem le_iff (a b : Int32) : a ≤ b ↔ a.toInt ≤ b.toInt := Int32.le_iff_toInt_le
theorem z_int : (0 : Int32).toInt = 0 := rfl
theorem nI_m1 {n : Nat} (h : n < 2 ^ 31) : (nI n - 1).toInt = (n : Int) - 1 := by
  cases n with
  | zero => rfl
  | succ k => rw [nI_pred, nI_toInt (by omega)]; omega
theorem wi_vx {n : Nat} (hn : n < 2 ^ 31) (c : Int32) : wi c 0 (nI n - 1) = if (vx n c).isSome then 1 else 0 := by
  unfold wi vx
  by_cases h : c < 0
  · simp [h]
  · simp only [h, if_false]
    have e := tn_int h
    have e2 := nI_m1 hn
    by_cases h2 : c.toNatClampNeg < n
    · have : ¬ nI n - 1 < c := by rw [lt_iff]; omega
      simp [h2, this]
    · have : nI n - 1 < c := by rw [lt_iff]; omega
      simp [h2, this]
theorem wi_vx1 {n : Nat} (hn : n < 2 ^ 31) (c : Int32) : wi c (-1) (nI n - 1) = if c = -1 ∨ (vx n c).isSome then 1 else 0 := by
  unfold wi vx
  have e2 := nI_m1 hn
  have em : (-1 : Int32).toInt = -1 := rfl
  by_cases h : c < 0
  · by_cases h1 : c = -1
    · subst h1
      have : ¬ nI n - 1 < -1 := by rw [lt_iff]; omega
      simp [this]
    · have : c < -1 := by
        have : c.toInt ≠ -1 := fun q => h1 (Int32.toInt_inj.mp (q.trans em.symm))
        rw [lt_iff] at h ⊢
        rw [z_int] at h
        omega
      simp [h, h1, this]
  · have hm : ¬ c < -1 := by rw [lt_iff] at h ⊢; rw [z_int] at h; omega
    have h1 : ¬ c = -1 := fun q => by subst q; exact h (by decide)
    simp only [h, hm, if_false]
    have e := tn_int h
    by_cases h2 : c.toNatClampNeg < n
    · have : ¬ nI n - 1 < c := by rw [lt_iff]; omega
      simp [h1, h2, this]
    · have : nI n - 1 < c := by rw [lt_iff]; omega
      simp [h1, h2, this]
/-! layouts -/
def LW (R : Nat → Nat → Option Nat) (N : Nat → Nat) (A : Nat) : Prop :=
  R A 7 = some (A + 1) ∧ R A 8 = some (A + 2) ∧ R A 9 = some (A + 3) ∧ R A 10 = some (A + 4) ∧ N (A + 1) = 8 ∧ N (A + 2) = 6 ∧ N (A + 3) = 8 ∧
  (∀ i, i < 8 → R (A + 1) i = some (A + 6 + i)) ∧ (∀ i, i < 8 → R (A + 3) i = some (A + 14 + i)) ∧ R (A + 4) 5 = some (A + 5) ∧ N (A + 5) = 13
def LC (g : Nat) (R : Nat → Nat → Option Nat) (N : Nat → Nat) : Prop :=
  R g 0 = some (g + 1) ∧ R g 1 = some (g + 23) ∧ R g 3 = some (g + 45) ∧ R g 4 = some (g + 47) ∧ R g 5 = some (g + 51) ∧ R g 6 = some (g + 52) ∧ R g 7 = some (g + 53) ∧ R g 8 = some (g + 54) ∧
  LW R N (g + 1) ∧ LW R N (g + 23) ∧ R (g + 45) 0 = some (g + 46) ∧ N (g + 46) = 100 ∧
  R (g + 47) 0 = some (g + 48) ∧ R (g + 47) 2 = some (g + 49) ∧ R (g + 47) 3 = some (g + 50) ∧ N (g + 48) = 100 ∧ N (g + 49) = 5 ∧ N (g + 50) = 5 ∧
  N (g + 51) = 4 ∧ N (g + 52) = 7 ∧ (∀ s, s < 4 → R (g + 51) s = some (g + 55 + 2 * s) ∧ R (g + 55 + 2 * s) 2 = some (g + 56 + 2 * s) ∧ N (g + 56 + 2 * s) = 40)
def LM (h : Nat) (R : Nat → Nat → Option Nat) (N : Nat → Nat) : Prop :=
  (R h 0 = some (h + 1) ∧ R h 1 = some (h + 2) ∧ R h 2 = some (h + 3) ∧ R h 3 = some (h + 4) ∧ R h 4 = some (h + 5) ∧ R h 6 = some (h + 6) ∧ R h 13 = some (h + 7) ∧ R h 14 = some (h + 8) ∧ R h 15 = some (h + 9) ∧ R h 16 = some (h + 10) ∧ R h 17 = some (h + 11) ∧ R h 18 = some (h + 12) ∧ R h 19 = some (h + 13) ∧ R h 20 = some (h + 14) ∧ R h 21 = some (h + 15) ∧ R h 22 = some (h + 16)) ∧
  (N (h + 1) = 1059 ∧ N (h + 2) = 1059 ∧ N (h + 3) = 16 ∧ N (h + 4) = 16 ∧ N (h + 5) = 7 ∧ N (h + 6) = 100 ∧ N (h + 7) = 102 ∧ N (h + 8) = 5 ∧ N (h + 9) = 7 ∧ N (h + 10) = 102 ∧ N (h + 11) = 17 ∧ N (h + 12) = 51 ∧ N (h + 13) = 4 ∧ N (h + 14) = 4 ∧ N (h + 15) = 160 ∧ N (h + 16) = 40)
/-! the class's helpers -/
theorem X8_cellAt_eq {A nc : Nat} {μ : XMem} (L : LW (mR μ) (mN μ) A) (hn : mI μ A 1 = nI nc) (h8 : nc ≤ 8) (c : Int32) : f_X8_cellAt A c μ = some ((vx nc c).map (fun j => A + 6 + j), μ) := by
  obtain ⟨l7, l8, l9, l10, n1, n2, n3, hc, hh, lw, nw⟩ := L
  unfold f_X8_cellAt vx
  by_cases h : c < 0
  · simp [h]
  · have e := tn_int h
    have e1 := nI_toInt (n := nc) (by omega)
    simp only [h, if_false, l7, fo_mk, n1, hn]
    by_cases h2 : c.toNatClampNeg < nc
    · have g1 : ¬ nI nc ≤ c := by rw [le_iff]; omega
      have g2 : c < nI 8 := by rw [lt_iff]; have := nI_toInt (n := 8) (by omega); omega
      have g3 : ib c 8 = true := by unfold ib; simp [h]; omega
      simp only [g1, g2, if_true, if_false, g3, gd_mk, nm_mk, h2, hc _ (show c.toNatClampNeg < 8 by omega)]
      rfl
    · have g1 : nI nc ≤ c := by rw [le_iff]; omega
      simp [g1, h2]
theorem X8_houseAt_eq {A nh : Nat} {μ : XMem} (L : LW (mR μ) (mN μ) A) (hn : mI μ A 3 = nI nh) (h8 : nh ≤ 8) (c : Int32) : f_X8_houseAt A c μ = some ((vx nh c).map (fun j => A + 14 + j), μ) := by
  obtain ⟨l7, l8, l9, l10, n1, n2, n3, hc, hh, lw, nw⟩ := L
  unfold f_X8_houseAt vx
  by_cases h : c < 0
  · simp [h]
  · have e := tn_int h
    have e1 := nI_toInt (n := nh) (by omega)
    simp only [h, if_false, l9, fo_mk, n3, hn]
    by_cases h2 : c.toNatClampNeg < nh
    · have g1 : ¬ nI nh ≤ c := by rw [le_iff]; omega
      have g2 : c < nI 8 := by rw [lt_iff]; have := nI_toInt (n := 8) (by omega); omega
      have g3 : ib c 8 = true := by unfold ib; simp [h]; omega
      simp only [g1, g2, if_true, if_false, g3, gd_mk, nm_mk, h2, hh _ (show c.toNatClampNeg < 8 by omega)]
      rfl
    · have g1 : nI nh ≤ c := by rw [le_iff]; omega
      simp [g1, h2]
theorem X8_lawAt_eq {A nl : Nat} {μ : XMem} (L : LW (mR μ) (mN μ) A) (hn : mI μ A 2 = nI nl) (h8 : nl ≤ 6) (c : Int32) : f_X8_lawAt A c μ = some ((vx nl c).bind (fun j => mR μ (A + 2) j), μ) := by
  obtain ⟨l7, l8, l9, l10, n1, n2, n3, hc, hh, lw, nw⟩ := L
  unfold f_X8_lawAt vx
  by_cases h : c < 0
  · simp [h]
  · have e := tn_int h
    have e1 := nI_toInt (n := nl) (by omega)
    simp only [h, if_false, l8, fo_mk, n2, hn]
    by_cases h2 : c.toNatClampNeg < nl
    · have g1 : ¬ nI nl ≤ c := by rw [le_iff]; omega
      have g2 : c < nI 6 := by rw [lt_iff]; have := nI_toInt (n := 6) (by omega); omega
      have g3 : ib c 6 = true := by unfold ib; simp [h]; omega
      simp only [g1, g2, if_true, if_false, g3, gd_mk, nm_mk, h2]
      rfl
    · have g1 : nI nl ≤ c := by rw [le_iff]; omega
      simp [g1, h2]
theorem X9_sheetAt_eq {g : Nat} {μ : XMem} (L : LC g (mR μ) (mN μ)) (c : Int32) : f_X9_sheetAt g c μ = some ((vx 4 c).map (fun j => g + 55 + 2 * j), μ) := by
  obtain ⟨l0, l1, l3, l4, l5, l6, l7, l8, -, -, -, -, -, -, -, -, -, -, n51, n52, hs⟩ := L
  unfold f_X9_sheetAt vx
  by_cases h : c < 0
  · simp [h]
  · have e := tn_int h
    have e1 := nI_toInt (n := 4) (by omega)
    simp only [h, if_false, l5, fo_mk, n51]
    by_cases h2 : c.toNatClampNeg < 4
    · have g1 : ¬ nI 4 ≤ c := by rw [le_iff]; omega
      have g2 : c < nI 4 := by rw [lt_iff]; omega
      have g3 : ib c 4 = true := by unfold ib; simp [h, h2]
      simp only [g1, g2, if_true, if_false, g3, gd_mk, nm_mk, h2, (hs _ h2).1]
      rfl
    · have g1 : nI 4 ≤ c := by rw [le_iff]; omega
      have g2 : ¬ c < nI 4 := by rw [lt_iff]; omega
      simp [g1, g2, h2]
/-- a finding is counted -/
def fdC (g k : Nat) (μ : XMem) : XMem := sI μ (g + 52) k (mI μ (g + 52) k + 1)
def fdM (h k : Nat) (ν : XMem) : XMem := sI ν (h + 5) k (mI ν (h + 5) k + 1)
theorem X9_finding_0 {g : Nat} {μ : XMem} (L : LC g (mR μ) (mN μ)) : f_X9_finding g 0 μ = some ((-1000000001), fdC g 0 μ) := by
  obtain ⟨l0, l1, l3, l4, l5, l6, l7, l8, -, -, -, -, -, -, -, -, -, -, n51, n52, hs⟩ := L
  unfold f_X9_finding
  have g0 : ¬ (0 : Int32) < 0 := by decide
  have g1 : ¬ nI 7 ≤ 0 := by decide
  have g2 : ib 0 7 = true := by decide
  have g3 : Int32.toNatClampNeg 0 = 0 := by decide
  have g4 : (-1000000001 : Int32) - 0 = -1000000001 := by decide
  simp only [g0, if_false, l6, fo_mk, n52, g1, g2, gd_mk, nm_mk, g3, g4]
  rfl
theorem X10_finds_0 {h : Nat} {ν : XMem} (L : LM h (mR ν) (mN ν)) : f_X10_finds h (-1000000001) ν = some ((-1000000001), fdM h 0 ν) := by
  obtain ⟨⟨l0, l1, l2, l3, l4, l6, l13, l14, l15, l16, l17, l18, l19, l20, l21, l22⟩, n1, n2, n3, n4, n5, n6, -⟩ := L
  unfold f_X10_finds
  have g1 : (-1000000001 : Int32) - -1000000001 = 0 := by decide
  have g2 : ib 0 7 = true := by decide
  have g3 : Int32.toNatClampNeg 0 = 0 := by decide
  simp only [l4, fo_mk, n5, g1, g2, gd_mk, nm_mk, g3]
  rfl
theorem X9_finding_1 {g : Nat} {μ : XMem} (L : LC g (mR μ) (mN μ)) : f_X9_finding g 1 μ = some ((-1000000002), fdC g 1 μ) := by
  obtain ⟨l0, l1, l3, l4, l5, l6, l7, l8, -, -, -, -, -, -, -, -, -, -, n51, n52, hs⟩ := L
  unfold f_X9_finding
  have g0 : ¬ (1 : Int32) < 0 := by decide
  have g1 : ¬ nI 7 ≤ 1 := by decide
  have g2 : ib 1 7 = true := by decide
  have g3 : Int32.toNatClampNeg 1 = 1 := by decide
  have g4 : (-1000000001 : Int32) - 1 = -1000000002 := by decide
  simp only [g0, if_false, l6, fo_mk, n52, g1, g2, gd_mk, nm_mk, g3, g4]
  rfl
theorem X10_finds_1 {h : Nat} {ν : XMem} (L : LM h (mR ν) (mN ν)) : f_X10_finds h (-1000000002) ν = some ((-1000000002), fdM h 1 ν) := by
  obtain ⟨⟨l0, l1, l2, l3, l4, l6, l13, l14, l15, l16, l17, l18, l19, l20, l21, l22⟩, n1, n2, n3, n4, n5, n6, -⟩ := L
  unfold f_X10_finds
  have g1 : (-1000000001 : Int32) - -1000000002 = 1 := by decide
  have g2 : ib 1 7 = true := by decide
  have g3 : Int32.toNatClampNeg 1 = 1 := by decide
  simp only [l4, fo_mk, n5, g1, g2, gd_mk, nm_mk, g3]
  rfl
theorem X9_finding_2 {g : Nat} {μ : XMem} (L : LC g (mR μ) (mN μ)) : f_X9_finding g 2 μ = some ((-1000000003), fdC g 2 μ) := by
  obtain ⟨l0, l1, l3, l4, l5, l6, l7, l8, -, -, -, -, -, -, -, -, -, -, n51, n52, hs⟩ := L
  unfold f_X9_finding
  have g0 : ¬ (2 : Int32) < 0 := by decide
  have g1 : ¬ nI 7 ≤ 2 := by decide
  have g2 : ib 2 7 = true := by decide
  have g3 : Int32.toNatClampNeg 2 = 2 := by decide
  have g4 : (-1000000001 : Int32) - 2 = -1000000003 := by decide
  simp only [g0, if_false, l6, fo_mk, n52, g1, g2, gd_mk, nm_mk, g3, g4]
  rfl
theorem X10_finds_2 {h : Nat} {ν : XMem} (L : LM h (mR ν) (mN ν)) : f_X10_finds h (-1000000003) ν = some ((-1000000003), fdM h 2 ν) := by
  obtain ⟨⟨l0, l1, l2, l3, l4, l6, l13, l14, l15, l16, l17, l18, l19, l20, l21, l22⟩, n1, n2, n3, n4, n5, n6, -⟩ := L
  unfold f_X10_finds
  have g1 : (-1000000001 : Int32) - -1000000003 = 2 := by decide
  have g2 : ib 2 7 = true := by decide
  have g3 : Int32.toNatClampNeg 2 = 2 := by decide
  simp only [l4, fo_mk, n5, g1, g2, gd_mk, nm_mk, g3]
  rfl
theorem X9_finding_3 {g : Nat} {μ : XMem} (L : LC g (mR μ) (mN μ)) : f_X9_finding g 3 μ = some ((-1000000004), fdC g 3 μ) := by
  obtain ⟨l0, l1, l3, l4, l5, l6, l7, l8, -, -, -, -, -, -, -, -, -, -, n51, n52, hs⟩ := L
  unfold f_X9_finding
  have g0 : ¬ (3 : Int32) < 0 := by decide
  have g1 : ¬ nI 7 ≤ 3 := by decide
  have g2 : ib 3 7 = true := by decide
  have g3 : Int32.toNatClampNeg 3 = 3 := by decide
  have g4 : (-1000000001 : Int32) - 3 = -1000000004 := by decide
  simp only [g0, if_false, l6, fo_mk, n52, g1, g2, gd_mk, nm_mk, g3, g4]
  rfl
theorem X10_finds_3 {h : Nat} {ν : XMem} (L : LM h (mR ν) (mN ν)) : f_X10_finds h (-1000000004) ν = some ((-1000000004), fdM h 3 ν) := by
  obtain ⟨⟨l0, l1, l2, l3, l4, l6, l13, l14, l15, l16, l17, l18, l19, l20, l21, l22⟩, n1, n2, n3, n4, n5, n6, -⟩ := L
  unfold f_X10_finds
  have g1 : (-1000000001 : Int32) - -1000000004 = 3 := by decide
  have g2 : ib 3 7 = true := by decide
  have g3 : Int32.toNatClampNeg 3 = 3 := by decide
  simp only [l4, fo_mk, n5, g1, g2, gd_mk, nm_mk, g3]
  rfl
theorem X9_finding_4 {g : Nat} {μ : XMem} (L : LC g (mR μ) (mN μ)) : f_X9_finding g 4 μ = some ((-1000000005), fdC g 4 μ) := by
  obtain ⟨l0, l1, l3, l4, l5, l6, l7, l8, -, -, -, -, -, -, -, -, -, -, n51, n52, hs⟩ := L
  unfold f_X9_finding
  have g0 : ¬ (4 : Int32) < 0 := by decide
  have g1 : ¬ nI 7 ≤ 4 := by decide
  have g2 : ib 4 7 = true := by decide
  have g3 : Int32.toNatClampNeg 4 = 4 := by decide
  have g4 : (-1000000001 : Int32) - 4 = -1000000005 := by decide
  simp only [g0, if_false, l6, fo_mk, n52, g1, g2, gd_mk, nm_mk, g3, g4]
  rfl
theorem X10_finds_4 {h : Nat} {ν : XMem} (L : LM h (mR ν) (mN ν)) : f_X10_finds h (-1000000005) ν = some ((-1000000005), fdM h 4 ν) := by
  obtain ⟨⟨l0, l1, l2, l3, l4, l6, l13, l14, l15, l16, l17, l18, l19, l20, l21, l22⟩, n1, n2, n3, n4, n5, n6, -⟩ := L
  unfold f_X10_finds
  have g1 : (-1000000001 : Int32) - -1000000005 = 4 := by decide
  have g2 : ib 4 7 = true := by decide
  have g3 : Int32.toNatClampNeg 4 = 4 := by decide
  simp only [l4, fo_mk, n5, g1, g2, gd_mk, nm_mk, g3]
  rfl
theorem X9_finding_5 {g : Nat} {μ : XMem} (L : LC g (mR μ) (mN μ)) : f_X9_finding g 5 μ = some ((-1000000006), fdC g 5 μ) := by
  obtain ⟨l0, l1, l3, l4, l5, l6, l7, l8, -, -, -, -, -, -, -, -, -, -, n51, n52, hs⟩ := L
  unfold f_X9_finding
  have g0 : ¬ (5 : Int32) < 0 := by decide
  have g1 : ¬ nI 7 ≤ 5 := by decide
  have g2 : ib 5 7 = true := by decide
  have g3 : Int32.toNatClampNeg 5 = 5 := by decide
  have g4 : (-1000000001 : Int32) - 5 = -1000000006 := by decide
  simp only [g0, if_false, l6, fo_mk, n52, g1, g2, gd_mk, nm_mk, g3, g4]
  rfl
theorem X10_finds_5 {h : Nat} {ν : XMem} (L : LM h (mR ν) (mN ν)) : f_X10_finds h (-1000000006) ν = some ((-1000000006), fdM h 5 ν) := by
  obtain ⟨⟨l0, l1, l2, l3, l4, l6, l13, l14, l15, l16, l17, l18, l19, l20, l21, l22⟩, n1, n2, n3, n4, n5, n6, -⟩ := L
  unfold f_X10_finds
  have g1 : (-1000000001 : Int32) - -1000000006 = 5 := by decide
  have g2 : ib 5 7 = true := by decide
  have g3 : Int32.toNatClampNeg 5 = 5 := by decide
  simp only [l4, fo_mk, n5, g1, g2, gd_mk, nm_mk, g3]
  rfl
theorem X9_finding_6 {g : Nat} {μ : XMem} (L : LC g (mR μ) (mN μ)) : f_X9_finding g 6 μ = some ((-1000000007), fdC g 6 μ) := by
  obtain ⟨l0, l1, l3, l4, l5, l6, l7, l8, -, -, -, -, -, -, -, -, -, -, n51, n52, hs⟩ := L
  unfold f_X9_finding
  have g0 : ¬ (6 : Int32) < 0 := by decide
  have g1 : ¬ nI 7 ≤ 6 := by decide
  have g2 : ib 6 7 = true := by decide
  have g3 : Int32.toNatClampNeg 6 = 6 := by decide
  have g4 : (-1000000001 : Int32) - 6 = -1000000007 := by decide
  simp only [g0, if_false, l6, fo_mk, n52, g1, g2, gd_mk, nm_mk, g3, g4]
  rfl
theorem X10_finds_6 {h : Nat} {ν : XMem} (L : LM h (mR ν) (mN ν)) : f_X10_finds h (-1000000007) ν = some ((-1000000007), fdM h 6 ν) := by
  obtain ⟨⟨l0, l1, l2, l3, l4, l6, l13, l14, l15, l16, l17, l18, l19, l20, l21, l22⟩, n1, n2, n3, n4, n5, n6, -⟩ := L
  unfold f_X10_finds
  have g1 : (-1000000001 : Int32) - -1000000007 = 6 := by decide
  have g2 : ib 6 7 = true := by decide
  have g3 : Int32.toNatClampNeg 6 = 6 := by decide
  simp only [l4, fo_mk, n5, g1, g2, gd_mk, nm_mk, g3]
  rfl
/-! the reference's helpers -/
theorem nIl {k : Nat} {v : Int32} (h : v = nI k) : v = nI k := h
theorem ix17 {j k : Nat} (hj : j < 8) (hk : k < 17) : (11 + 17 * nI j) + nI k = nI (11 + 17 * j + k) := by
  show (nI 11 + nI 17 * nI j) + nI k = _
  rw [pk_mul, nI_add, nI_add]
theorem ix12 {j k : Nat} (hj : j < 8) (hk : k < 12) : (147 + 12 * nI j) + nI k = nI (147 + 12 * j + k) := by
  show (nI 147 + nI 12 * nI j) + nI k = _
  rw [pk_mul, nI_add, nI_add]
theorem X10_ofCell_eq {h : Nat} {ν : XMem} (L : LM h (mR ν) (mN ν)) {j k : Nat} (hj : j < 8) (hk : k < 17) : f_X10_ofCell h (nI j) (nI k) ν = some (mI ν (h + 1) (11 + 17 * j + k), ν) := by
  unfold f_X10_ofCell
  rw [L.1.1, fo_mk, L.2.1, ix17 hj hk, ib_nI (by omega) (by omega), gd_mk, nI_clamp (by omega)]
theorem X10_puts_eq {h : Nat} {ν : XMem} (L : LM h (mR ν) (mN ν)) {j k : Nat} (hj : j < 8) (hk : k < 17) (v : Int32) : f_X10_puts h (nI j) (nI k) v ν = some (sI ν (h + 1) (11 + 17 * j + k) v) := by
  unfold f_X10_puts
  rw [L.1.1, fo_mk, L.2.1, ix17 hj hk, ib_nI (by omega) (by omega), gd_mk, nI_clamp (by omega), nm_mk]
theorem X10_ofHouse_eq {h : Nat} {ν : XMem} (L : LM h (mR ν) (mN ν)) {j k : Nat} (hj : j < 8) (hk : k < 12) : f_X10_ofHouse h (nI j) (nI k) ν = some (mI ν (h + 1) (147 + 12 * j + k), ν) := by
  unfold f_X10_ofHouse
  rw [L.1.1, fo_mk, L.2.1, ix12 hj hk, ib_nI (by omega) (by omega), gd_mk, nI_clamp (by omega)]
theorem X10_setHouse_eq {h : Nat} {ν : XMem} (L : LM h (mR ν) (mN ν)) {j k : Nat} (hj : j < 8) (hk : k < 12) (v : Int32) : f_X10_setHouse h (nI j) (nI k) v ν = some (sI ν (h + 1) (147 + 12 * j + k) v) := by
  unfold f_X10_setHouse
  rw [L.1.1, fo_mk, L.2.1, ix12 hj hk, ib_nI (by omega) (by omega), gd_mk, nI_clamp (by omega), nm_mk]
theorem ofC_0 {h : Nat} {ν : XMem} (L : LM h (mR ν) (mN ν)) {j : Nat} (hj : j < 8) : f_X10_ofCell h (nI j) 0 ν = some (mI ν (h + 1) (11 + 17 * j + 0), ν) := X10_ofCell_eq (k := 0) L hj (by decide)
theorem putC_0 {h : Nat} {ν : XMem} (L : LM h (mR ν) (mN ν)) {j : Nat} (hj : j < 8) (v : Int32) : f_X10_puts h (nI j) 0 v ν = some (sI ν (h + 1) (11 + 17 * j + 0) v) := X10_puts_eq (k := 0) L hj (by decide) v
theorem ofC_1 {h : Nat} {ν : XMem} (L : LM h (mR ν) (mN ν)) {j : Nat} (hj : j < 8) : f_X10_ofCell h (nI j) 1 ν = some (mI ν (h + 1) (11 + 17 * j + 1), ν) := X10_ofCell_eq (k := 1) L hj (by decide)
theorem putC_1 {h : Nat} {ν : XMem} (L : LM h (mR ν) (mN ν)) {j : Nat} (hj : j < 8) (v : Int32) : f_X10_puts h (nI j) 1 v ν = some (sI ν (h + 1) (11 + 17 * j + 1) v) := X10_puts_eq (k := 1) L hj (by decide) v
theorem ofC_2 {h : Nat} {ν : XMem} (L : LM h (mR ν) (mN ν)) {j : Nat} (hj : j < 8) : f_X10_ofCell h (nI j) 2 ν = some (mI ν (h + 1) (11 + 17 * j + 2), ν) := X10_ofCell_eq (k := 2) L hj (by decide)
theorem putC_2 {h : Nat} {ν : XMem} (L : LM h (mR ν) (mN ν)) {j : Nat} (hj : j < 8) (v : Int32) : f_X10_puts h (nI j) 2 v ν = some (sI ν (h + 1) (11 + 17 * j + 2) v) := X10_puts_eq (k := 2) L hj (by decide) v
theorem ofC_3 {h : Nat} {ν : XMem} (L : LM h (mR ν) (mN ν)) {j : Nat} (hj : j < 8) : f_X10_ofCell h (nI j) 3 ν = some (mI ν (h + 1) (11 + 17 * j + 3), ν) := X10_ofCell_eq (k := 3) L hj (by decide)
theorem putC_3 {h : Nat} {ν : XMem} (L : LM h (mR ν) (mN ν)) {j : Nat} (hj : j < 8) (v : Int32) : f_X10_puts h (nI j) 3 v ν = some (sI ν (h + 1) (11 + 17 * j + 3) v) := X10_puts_eq (k := 3) L hj (by decide) v
theorem ofC_4 {h : Nat} {ν : XMem} (L : LM h (mR ν) (mN ν)) {j : Nat} (hj : j < 8) : f_X10_ofCell h (nI j) 4 ν = some (mI ν (h + 1) (11 + 17 * j + 4), ν) := X10_ofCell_eq (k := 4) L hj (by decide)
theorem putC_4 {h : Nat} {ν : XMem} (L : LM h (mR ν) (mN ν)) {j : Nat} (hj : j < 8) (v : Int32) : f_X10_puts h (nI j) 4 v ν = some (sI ν (h + 1) (11 + 17 * j + 4) v) := X10_puts_eq (k := 4) L hj (by decide) v
theorem ofC_5 {h : Nat} {ν : XMem} (L : LM h (mR ν) (mN ν)) {j : Nat} (hj : j < 8) : f_X10_ofCell h (nI j) 5 ν = some (mI ν (h + 1) (11 + 17 * j + 5), ν) := X10_ofCell_eq (k := 5) L hj (by decide)
theorem putC_5 {h : Nat} {ν : XMem} (L : LM h (mR ν) (mN ν)) {j : Nat} (hj : j < 8) (v : Int32) : f_X10_puts h (nI j) 5 v ν = some (sI ν (h + 1) (11 + 17 * j + 5) v) := X10_puts_eq (k := 5) L hj (by decide) v
theorem ofC_6 {h : Nat} {ν : XMem} (L : LM h (mR ν) (mN ν)) {j : Nat} (hj : j < 8) : f_X10_ofCell h (nI j) 6 ν = some (mI ν (h + 1) (11 + 17 * j + 6), ν) := X10_ofCell_eq (k := 6) L hj (by decide)
theorem putC_6 {h : Nat} {ν : XMem} (L : LM h (mR ν) (mN ν)) {j : Nat} (hj : j < 8) (v : Int32) : f_X10_puts h (nI j) 6 v ν = some (sI ν (h + 1) (11 + 17 * j + 6) v) := X10_puts_eq (k := 6) L hj (by decide) v
theorem ofC_7 {h : Nat} {ν : XMem} (L : LM h (mR ν) (mN ν)) {j : Nat} (hj : j < 8) : f_X10_ofCell h (nI j) 7 ν = some (mI ν (h + 1) (11 + 17 * j + 7), ν) := X10_ofCell_eq (k := 7) L hj (by decide)
theorem putC_7 {h : Nat} {ν : XMem} (L : LM h (mR ν) (mN ν)) {j : Nat} (hj : j < 8) (v : Int32) : f_X10_puts h (nI j) 7 v ν = some (sI ν (h + 1) (11 + 17 * j + 7) v) := X10_puts_eq (k := 7) L hj (by decide) v
theorem ofC_8 {h : Nat} {ν : XMem} (L : LM h (mR ν) (mN ν)) {j : Nat} (hj : j < 8) : f_X10_ofCell h (nI j) 8 ν = some (mI ν (h + 1) (11 + 17 * j + 8), ν) := X10_ofCell_eq (k := 8) L hj (by decide)
theorem putC_8 {h : Nat} {ν : XMem} (L : LM h (mR ν) (mN ν)) {j : Nat} (hj : j < 8) (v : Int32) : f_X10_puts h (nI j) 8 v ν = some (sI ν (h + 1) (11 + 17 * j + 8) v) := X10_puts_eq (k := 8) L hj (by decide) v
theorem ofC_9 {h : Nat} {ν : XMem} (L : LM h (mR ν) (mN ν)) {j : Nat} (hj : j < 8) : f_X10_ofCell h (nI j) 9 ν = some (mI ν (h + 1) (11 + 17 * j + 9), ν) := X10_ofCell_eq (k := 9) L hj (by decide)
theorem putC_9 {h : Nat} {ν : XMem} (L : LM h (mR ν) (mN ν)) {j : Nat} (hj : j < 8) (v : Int32) : f_X10_puts h (nI j) 9 v ν = some (sI ν (h + 1) (11 + 17 * j + 9) v) := X10_puts_eq (k := 9) L hj (by decide) v
theorem ofC_10 {h : Nat} {ν : XMem} (L : LM h (mR ν) (mN ν)) {j : Nat} (hj : j < 8) : f_X10_ofCell h (nI j) 10 ν = some (mI ν (h + 1) (11 + 17 * j + 10), ν) := X10_ofCell_eq (k := 10) L hj (by decide)
theorem putC_10 {h : Nat} {ν : XMem} (L : LM h (mR ν) (mN ν)) {j : Nat} (hj : j < 8) (v : Int32) : f_X10_puts h (nI j) 10 v ν = some (sI ν (h + 1) (11 + 17 * j + 10) v) := X10_puts_eq (k := 10) L hj (by decide) v
theorem ofC_11 {h : Nat} {ν : XMem} (L : LM h (mR ν) (mN ν)) {j : Nat} (hj : j < 8) : f_X10_ofCell h (nI j) 11 ν = some (mI ν (h + 1) (11 + 17 * j + 11), ν) := X10_ofCell_eq (k := 11) L hj (by decide)
theorem putC_11 {h : Nat} {ν : XMem} (L : LM h (mR ν) (mN ν)) {j : Nat} (hj : j < 8) (v : Int32) : f_X10_puts h (nI j) 11 v ν = some (sI ν (h + 1) (11 + 17 * j + 11) v) := X10_puts_eq (k := 11) L hj (by decide) v
theorem ofC_12 {h : Nat} {ν : XMem} (L : LM h (mR ν) (mN ν)) {j : Nat} (hj : j < 8) : f_X10_ofCell h (nI j) 12 ν = some (mI ν (h + 1) (11 + 17 * j + 12), ν) := X10_ofCell_eq (k := 12) L hj (by decide)
theorem putC_12 {h : Nat} {ν : XMem} (L : LM h (mR ν) (mN ν)) {j : Nat} (hj : j < 8) (v : Int32) : f_X10_puts h (nI j) 12 v ν = some (sI ν (h + 1) (11 + 17 * j + 12) v) := X10_puts_eq (k := 12) L hj (by decide) v
theorem ofC_13 {h : Nat} {ν : XMem} (L : LM h (mR ν) (mN ν)) {j : Nat} (hj : j < 8) : f_X10_ofCell h (nI j) 13 ν = some (mI ν (h + 1) (11 + 17 * j + 13), ν) := X10_ofCell_eq (k := 13) L hj (by decide)
theorem putC_13 {h : Nat} {ν : XMem} (L : LM h (mR ν) (mN ν)) {j : Nat} (hj : j < 8) (v : Int32) : f_X10_puts h (nI j) 13 v ν = some (sI ν (h + 1) (11 + 17 * j + 13) v) := X10_puts_eq (k := 13) L hj (by decide) v
theorem ofC_14 {h : Nat} {ν : XMem} (L : LM h (mR ν) (mN ν)) {j : Nat} (hj : j < 8) : f_X10_ofCell h (nI j) 14 ν = some (mI ν (h + 1) (11 + 17 * j + 14), ν) := X10_ofCell_eq (k := 14) L hj (by decide)
theorem putC_14 {h : Nat} {ν : XMem} (L : LM h (mR ν) (mN ν)) {j : Nat} (hj : j < 8) (v : Int32) : f_X10_puts h (nI j) 14 v ν = some (sI ν (h + 1) (11 + 17 * j + 14) v) := X10_puts_eq (k := 14) L hj (by decide) v
theorem ofC_15 {h : Nat} {ν : XMem} (L : LM h (mR ν) (mN ν)) {j : Nat} (hj : j < 8) : f_X10_ofCell h (nI j) 15 ν = some (mI ν (h + 1) (11 + 17 * j + 15), ν) := X10_ofCell_eq (k := 15) L hj (by decide)
theorem putC_15 {h : Nat} {ν : XMem} (L : LM h (mR ν) (mN ν)) {j : Nat} (hj : j < 8) (v : Int32) : f_X10_puts h (nI j) 15 v ν = some (sI ν (h + 1) (11 + 17 * j + 15) v) := X10_puts_eq (k := 15) L hj (by decide) v
theorem ofC_16 {h : Nat} {ν : XMem} (L : LM h (mR ν) (mN ν)) {j : Nat} (hj : j < 8) : f_X10_ofCell h (nI j) 16 ν = some (mI ν (h + 1) (11 + 17 * j + 16), ν) := X10_ofCell_eq (k := 16) L hj (by decide)
theorem putC_16 {h : Nat} {ν : XMem} (L : LM h (mR ν) (mN ν)) {j : Nat} (hj : j < 8) (v : Int32) : f_X10_puts h (nI j) 16 v ν = some (sI ν (h + 1) (11 + 17 * j + 16) v) := X10_puts_eq (k := 16) L hj (by decide) v
theorem ofH_0 {h : Nat} {ν : XMem} (L : LM h (mR ν) (mN ν)) {j : Nat} (hj : j < 8) : f_X10_ofHouse h (nI j) 0 ν = some (mI ν (h + 1) (147 + 12 * j + 0), ν) := X10_ofHouse_eq (k := 0) L hj (by decide)
theorem setH_0 {h : Nat} {ν : XMem} (L : LM h (mR ν) (mN ν)) {j : Nat} (hj : j < 8) (v : Int32) : f_X10_setHouse h (nI j) 0 v ν = some (sI ν (h + 1) (147 + 12 * j + 0) v) := X10_setHouse_eq (k := 0) L hj (by decide) v
theorem ofH_1 {h : Nat} {ν : XMem} (L : LM h (mR ν) (mN ν)) {j : Nat} (hj : j < 8) : f_X10_ofHouse h (nI j) 1 ν = some (mI ν (h + 1) (147 + 12 * j + 1), ν) := X10_ofHouse_eq (k := 1) L hj (by decide)
theorem setH_1 {h : Nat} {ν : XMem} (L : LM h (mR ν) (mN ν)) {j : Nat} (hj : j < 8) (v : Int32) : f_X10_setHouse h (nI j) 1 v ν = some (sI ν (h + 1) (147 + 12 * j + 1) v) := X10_setHouse_eq (k := 1) L hj (by decide) v
theorem ofH_2 {h : Nat} {ν : XMem} (L : LM h (mR ν) (mN ν)) {j : Nat} (hj : j < 8) : f_X10_ofHouse h (nI j) 2 ν = some (mI ν (h + 1) (147 + 12 * j + 2), ν) := X10_ofHouse_eq (k := 2) L hj (by decide)
theorem setH_2 {h : Nat} {ν : XMem} (L : LM h (mR ν) (mN ν)) {j : Nat} (hj : j < 8) (v : Int32) : f_X10_setHouse h (nI j) 2 v ν = some (sI ν (h + 1) (147 + 12 * j + 2) v) := X10_setHouse_eq (k := 2) L hj (by decide) v
theorem ofH_3 {h : Nat} {ν : XMem} (L : LM h (mR ν) (mN ν)) {j : Nat} (hj : j < 8) : f_X10_ofHouse h (nI j) 3 ν = some (mI ν (h + 1) (147 + 12 * j + 3), ν) := X10_ofHouse_eq (k := 3) L hj (by decide)
theorem setH_3 {h : Nat} {ν : XMem} (L : LM h (mR ν) (mN ν)) {j : Nat} (hj : j < 8) (v : Int32) : f_X10_setHouse h (nI j) 3 v ν = some (sI ν (h + 1) (147 + 12 * j + 3) v) := X10_setHouse_eq (k := 3) L hj (by decide) v
theorem ofH_4 {h : Nat} {ν : XMem} (L : LM h (mR ν) (mN ν)) {j : Nat} (hj : j < 8) : f_X10_ofHouse h (nI j) 4 ν = some (mI ν (h + 1) (147 + 12 * j + 4), ν) := X10_ofHouse_eq (k := 4) L hj (by decide)
theorem setH_4 {h : Nat} {ν : XMem} (L : LM h (mR ν) (mN ν)) {j : Nat} (hj : j < 8) (v : Int32) : f_X10_setHouse h (nI j) 4 v ν = some (sI ν (h + 1) (147 + 12 * j + 4) v) := X10_setHouse_eq (k := 4) L hj (by decide) v
theorem ofH_5 {h : Nat} {ν : XMem} (L : LM h (mR ν) (mN ν)) {j : Nat} (hj : j < 8) : f_X10_ofHouse h (nI j) 5 ν = some (mI ν (h + 1) (147 + 12 * j + 5), ν) := X10_ofHouse_eq (k := 5) L hj (by decide)
theorem setH_5 {h : Nat} {ν : XMem} (L : LM h (mR ν) (mN ν)) {j : Nat} (hj : j < 8) (v : Int32) : f_X10_setHouse h (nI j) 5 v ν = some (sI ν (h + 1) (147 + 12 * j + 5) v) := X10_setHouse_eq (k := 5) L hj (by decide) v
theorem ofH_6 {h : Nat} {ν : XMem} (L : LM h (mR ν) (mN ν)) {j : Nat} (hj : j < 8) : f_X10_ofHouse h (nI j) 6 ν = some (mI ν (h + 1) (147 + 12 * j + 6), ν) := X10_ofHouse_eq (k := 6) L hj (by decide)
theorem setH_6 {h : Nat} {ν : XMem} (L : LM h (mR ν) (mN ν)) {j : Nat} (hj : j < 8) (v : Int32) : f_X10_setHouse h (nI j) 6 v ν = some (sI ν (h + 1) (147 + 12 * j + 6) v) := X10_setHouse_eq (k := 6) L hj (by decide) v
theorem ofH_7 {h : Nat} {ν : XMem} (L : LM h (mR ν) (mN ν)) {j : Nat} (hj : j < 8) : f_X10_ofHouse h (nI j) 7 ν = some (mI ν (h + 1) (147 + 12 * j + 7), ν) := X10_ofHouse_eq (k := 7) L hj (by decide)
theorem setH_7 {h : Nat} {ν : XMem} (L : LM h (mR ν) (mN ν)) {j : Nat} (hj : j < 8) (v : Int32) : f_X10_setHouse h (nI j) 7 v ν = some (sI ν (h + 1) (147 + 12 * j + 7) v) := X10_setHouse_eq (k := 7) L hj (by decide) v
theorem ofH_8 {h : Nat} {ν : XMem} (L : LM h (mR ν) (mN ν)) {j : Nat} (hj : j < 8) : f_X10_ofHouse h (nI j) 8 ν = some (mI ν (h + 1) (147 + 12 * j + 8), ν) := X10_ofHouse_eq (k := 8) L hj (by decide)
theorem setH_8 {h : Nat} {ν : XMem} (L : LM h (mR ν) (mN ν)) {j : Nat} (hj : j < 8) (v : Int32) : f_X10_setHouse h (nI j) 8 v ν = some (sI ν (h + 1) (147 + 12 * j + 8) v) := X10_setHouse_eq (k := 8) L hj (by decide) v
theorem ofH_9 {h : Nat} {ν : XMem} (L : LM h (mR ν) (mN ν)) {j : Nat} (hj : j < 8) : f_X10_ofHouse h (nI j) 9 ν = some (mI ν (h + 1) (147 + 12 * j + 9), ν) := X10_ofHouse_eq (k := 9) L hj (by decide)
theorem setH_9 {h : Nat} {ν : XMem} (L : LM h (mR ν) (mN ν)) {j : Nat} (hj : j < 8) (v : Int32) : f_X10_setHouse h (nI j) 9 v ν = some (sI ν (h + 1) (147 + 12 * j + 9) v) := X10_setHouse_eq (k := 9) L hj (by decide) v
theorem ofH_10 {h : Nat} {ν : XMem} (L : LM h (mR ν) (mN ν)) {j : Nat} (hj : j < 8) : f_X10_ofHouse h (nI j) 10 ν = some (mI ν (h + 1) (147 + 12 * j + 10), ν) := X10_ofHouse_eq (k := 10) L hj (by decide)
theorem setH_10 {h : Nat} {ν : XMem} (L : LM h (mR ν) (mN ν)) {j : Nat} (hj : j < 8) (v : Int32) : f_X10_setHouse h (nI j) 10 v ν = some (sI ν (h + 1) (147 + 12 * j + 10) v) := X10_setHouse_eq (k := 10) L hj (by decide) v
theorem ofH_11 {h : Nat} {ν : XMem} (L : LM h (mR ν) (mN ν)) {j : Nat} (hj : j < 8) : f_X10_ofHouse h (nI j) 11 ν = some (mI ν (h + 1) (147 + 12 * j + 11), ν) := X10_ofHouse_eq (k := 11) L hj (by decide)
theorem setH_11 {h : Nat} {ν : XMem} (L : LM h (mR ν) (mN ν)) {j : Nat} (hj : j < 8) (v : Int32) : f_X10_setHouse h (nI j) 11 v ν = some (sI ν (h + 1) (147 + 12 * j + 11) v) := X10_setHouse_eq (k := 11) L hj (by decide) v
theorem X10_isCell_eq {h n : Nat} {ν : XMem} (L : LM h (mR ν) (mN ν)) (hn : mI ν (h + 1) 1 = nI n) (hb : n < 2 ^ 31) (c : Int32) : f_X10_isCell h c ν = some (if (vx n c).isSome then 1 else 0, ν) := by
  unfold f_X10_isCell
  have g2 : ib 1 1059 = true := by decide
  have g3 : Int32.toNatClampNeg 1 = 1 := by decide
  rw [L.1.1, fo_mk, L.2.1, g2, gd_mk, g3, hn, X10_within_eq, b2_mk, wi_vx hb]
theorem X10_isLaw_eq {h n : Nat} {ν : XMem} (L : LM h (mR ν) (mN ν)) (hn : mI ν (h + 1) 2 = nI n) (hb : n < 2 ^ 31) (c : Int32) : f_X10_isLaw h c ν = some (if (vx n c).isSome then 1 else 0, ν) := by
  unfold f_X10_isLaw
  have g2 : ib 2 1059 = true := by decide
  have g3 : Int32.toNatClampNeg 2 = 2 := by decide
  rw [L.1.1, fo_mk, L.2.1, g2, gd_mk, g3, hn, X10_within_eq, b2_mk, wi_vx hb]
theorem X10_isHouse_eq {h n : Nat} {ν : XMem} (L : LM h (mR ν) (mN ν)) (hn : mI ν (h + 1) 3 = nI n) (hb : n < 2 ^ 31) (c : Int32) : f_X10_isHouse h c ν = some (if (vx n c).isSome then 1 else 0, ν) := by
  unfold f_X10_isHouse
  have g2 : ib 3 1059 = true := by decide
  have g3 : Int32.toNatClampNeg 3 = 3 := by decide
  rw [L.1.1, fo_mk, L.2.1, g2, gd_mk, g3, hn, X10_within_eq, b2_mk, wi_vx hb]
theorem X10_isLawOrNone_eq {h n : Nat} {ν : XMem} (L : LM h (mR ν) (mN ν)) (hn : mI ν (h + 1) 2 = nI n) (hb : n < 2 ^ 31) (c : Int32) : f_X10_isLawOrNone h c ν = some (if c = -1 ∨ (vx n c).isSome then 1 else 0, ν) := by
  unfold f_X10_isLawOrNone
  have g2 : ib 2 1059 = true := by decide
  have g3 : Int32.toNatClampNeg 2 = 2 := by decide
  rw [L.1.1, fo_mk, L.2.1, g2, gd_mk, g3, hn, X10_within_eq, b2_mk, wi_vx1 hb]
theorem X10_isSheet_eq (c : Int32) (ν : XMem) : f_X10_isSheet c ν = some (if (vx 4 c).isSome then 1 else 0, ν) := by
  unfold f_X10_isSheet
  rw [X10_within_eq, b2_mk]
  have := wi_vx (n := 4) (by decide) c
  rw [show nI 4 - 1 = 3 by decide] at this
  rw [this]

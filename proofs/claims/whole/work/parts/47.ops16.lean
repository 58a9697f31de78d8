/-! PURE LAYER 16: shared -/
def shr (f : Nat → Int32) (b : Nat → Int64) : Int64 := if f 8 = 1 then (if bal f b < 0 then 0 else bal f b) else 0
def shn (μ : XMem) (A i : Nat) : Nat := (shr (mI μ (A + i)) (mL μ (A + i))).toInt.toNat
theorem shr_lN {f : Nat → Int32} {b : Nat → Int64} {now nc : Nat} (h : HInv f b now nc) (hn : now ≤ 2000) : (shr f b).toInt.toNat ≤ 460000000000 ∧ shr f b = lN (shr f b).toInt.toNat := by
  obtain ⟨c, c1, c2, c3, c4⟩ := h.bala
  have key : 0 ≤ (shr f b).toInt ∧ (shr f b).toInt ≤ 460000000000 := by
    unfold shr
    split
    · split
      · exact ⟨by decide, by decide⟩
      · rename_i h1 h2
        simp only [Int64.lt_iff_toInt_lt] at h2
        rw [show (0 : Int64).toInt = 0 from rfl] at h2
        omega
    · exact ⟨by decide, by decide⟩
  refine ⟨by omega, Int64.toInt_inj.mp ?_⟩
  rw [pk_lT (by omega)]
  omega
theorem X8_shareOf_eq {A nh i : Nat} {μ : XMem} (L : LW (mR μ) (mN μ) A) (hn : mI μ A 3 = nI nh) (h8 : nh ≤ 8) (hi : i < nh) : f_X8_shareOf A (nI i) μ = some (shr (mI μ (A + 14 + i)) (mL μ (A + 14 + i)), μ) := by
  unfold f_X8_shareOf f_X1_share shr
  simp only [X8_houseAt_eq L hn h8, b2_mk, vx_nI hi (by omega), Option.map_some, oc_ms, X1_balance_eq, nm_mk]
  by_cases h1 : mI μ (A + 14 + i) 8 = 1
  · simp only [h1, if_true, b2_mk]
  · simp only [h1, if_false, b2_mk]
/-- how the shares stand in both -/
theorem RW.sh {g h : Nat} {μ ν : XMem} {now nc nl nh fl : Nat} {tx : Nat → List Int32} (r1 : LC g (mR μ) (mN μ)) (r2 : LM h (mR ν) (mN ν)) (w : RW μ (g + 1) (g + 63) ν (h + 1) (h + 3) now nc nl nh fl tx) {i : Nat} (hi : i < nh) :
    f_X8_shareOf (g + 1) (nI i) μ = some (lN (shn μ (g + 15) i), μ) ∧ shn μ (g + 15) i ≤ 460000000000 ∧ f_X10_gets h (nI i) ν = some (if shn μ (g + 15) i = 0 then 0 else 1, ν) ∧ (shn μ (g + 15) i ≠ 0 → f_X10_itsBalance h (nI i) ν = some (lN (shn μ (g + 15) i), ν)) := by
  obtain ⟨⟨a0, a1, a2, a3, a4⟩, ⟨v0, v1, v2, v3, v4⟩, p1, p2, p3, p4, p5⟩ := id w.1
  obtain ⟨hj8, q1, q2, q3, q4, q5⟩ := w.house hi
  obtain ⟨t1, t2⟩ := w.bala hi
  obtain ⟨s1, s2⟩ := shr_lN q5 p1
  have e8 : mI μ (g + 15 + i) 8 = hrw ν h i 6 := q2 0 (by decide)
  have z0 : (0 : Int64).toInt = 0 := rfl
  refine ⟨?_, s1, ?_, ?_⟩
  · rw [X8_shareOf_eq (LCl r1) a3 p4 hi, g1614]
    exact congrArg (fun z => some (z, μ)) s2
  · unfold f_X10_gets
    simp only [oH_6 r2 hj8, b2_mk, X10_itsBalance_eq r2 hj8 t1, lg_cmp_le]
    unfold shn shr
    rw [e8, t2]
    by_cases h1 : hrw ν h i 6 = 1
    · simp only [h1, if_true]
      by_cases h2 : balM ν h i < 0
      · have h3 : balM ν h i ≤ 0 := Int64.le_of_lt h2
        simp only [h2, h3, if_true, z0]
        rfl
      · by_cases h3 : balM ν h i ≤ 0
        · simp only [h2, h3, if_true, if_false]
          simp only [Int64.lt_iff_toInt_lt, Int64.le_iff_toInt_le, z0] at h2 h3
          rw [if_pos (by omega)]
        · simp only [h2, h3, if_false]
          simp only [Int64.lt_iff_toInt_lt, Int64.le_iff_toInt_le, z0] at h2 h3
          rw [if_neg (by omega)]
    · simp only [h1, if_false, z0]
      rfl
  · intro hne
    rw [X10_itsBalance_eq r2 hj8 t1]
    have : balM ν h i = shr (mI μ (g + 15 + i)) (mL μ (g + 15 + i)) := by
      unfold shn shr at hne
      unfold shr
      rw [t2] at hne ⊢
      split
      · rename_i h1
        rw [if_pos h1] at hne
        split
        · rename_i h2
          rw [if_pos h2] at hne
          exact absurd rfl hne
        · rfl
      · rename_i h1
        rw [if_neg h1] at hne
        exact absurd rfl hne
    rw [this]
    exact congrArg (fun z => some (z, ν)) s2
def sm (s : Nat → Nat) : Nat → Nat → Nat → Nat
  | 0, _, acc => acc
  | m + 1, i, acc => sm s m (i + 1) (acc + s i)
theorem sm_le {s : Nat → Nat} {B : Nat} : ∀ (m i acc : Nat), (∀ k, i ≤ k → k < i + m → s k ≤ B) → sm s m i acc ≤ acc + m * B := by
  intro m
  induction m with
  | zero => intro i acc _; show acc ≤ _; omega
  | succ m ih =>
    intro i acc h
    have := ih (i + 1) (acc + s i) (fun k k1 k2 => h k (by omega) (by omega))
    have h2 := h i (by omega) (by omega)
    show sm s m (i + 1) _ ≤ _
    rw [Nat.succ_mul]
    omega
theorem all_loop {g h : Nat} {μ ν : XMem} {now nc nl nh fl : Nat} {tx : Nat → List Int32} (r1 : LC g (mR μ) (mN μ)) (w : RW μ (g + 1) (g + 63) ν (h + 1) (h + 3) now nc nl nh fl tx) (r2 : LM h (mR ν) (mN ν)) {k : Int64 → XMem → Option (Int64 × XMem)} : ∀ (m n i acc : Nat), i + m = nh → m < n → f_X8_allShares_h4 (g + 1) k n (lN acc) (nI i) μ = k (lN (sm (shn μ (g + 15)) m i acc)) μ := by
  obtain ⟨⟨a0, a1, a2, a3, a4⟩, ⟨v0, v1, v2, v3, v4⟩, p1, p2, p3, p4, p5⟩ := id w.1
  intro m
  induction m with
  | zero =>
    intro n i acc hi hm
    obtain ⟨n, rfl⟩ : ∃ q, n = q + 1 := ⟨n - 1, by omega⟩
    rw [f_X8_allShares_h4, a3, if_pos (nI_le (by omega) (by omega))]
    rfl
  | succ m ih =>
    intro n i acc hi hm
    obtain ⟨n, rfl⟩ : ∃ q, n = q + 1 := ⟨n - 1, by omega⟩
    have hc : ¬ nI nh ≤ nI i := nI_ge (by omega) (by omega)
    rw [f_X8_allShares_h4, a3, if_neg hc, (w.sh r1 r2 (show i < nh by omega)).1, b2_mk, nm_mk, lN_add, nm_mk, nI_1, ih n (i + 1) _ (by omega) (by omega)]
    rfl
theorem all_loopM {g h : Nat} {μ ν : XMem} {now nc nl nh fl : Nat} {tx : Nat → List Int32} (r1 : LC g (mR μ) (mN μ)) (w : RW μ (g + 1) (g + 63) ν (h + 1) (h + 3) now nc nl nh fl tx) (r2 : LM h (mR ν) (mN ν)) {x1 x2 : Int32} {k : Int64 → XMem → Option (Int32 × XMem)} : ∀ (m n i acc : Nat), i + m = nh → m < n → f_X10_shared_h30 h x1 x2 k n (lN acc) (nI i) ν = k (lN (sm (shn μ (g + 15)) m i acc)) ν := by
  obtain ⟨⟨a0, a1, a2, a3, a4⟩, ⟨v0, v1, v2, v3, v4⟩, p1, p2, p3, p4, p5⟩ := id w.1
  have q2 : ib 3 1059 = true := by decide
  have q3 : Int32.toNatClampNeg 3 = 3 := by decide
  intro m
  induction m with
  | zero =>
    intro n i acc hi hm
    obtain ⟨n, rfl⟩ : ∃ q, n = q + 1 := ⟨n - 1, by omega⟩
    rw [f_X10_shared_h30, r2.1.1, fo_mk, r2.2.1, q2, gd_mk, q3, v3, if_pos (nI_le (by omega) (by omega))]
    rfl
  | succ m ih =>
    intro n i acc hi hm
    obtain ⟨n, rfl⟩ : ∃ q, n = q + 1 := ⟨n - 1, by omega⟩
    have hc : ¬ nI nh ≤ nI i := nI_ge (by omega) (by omega)
    obtain ⟨-, -, y3, y4⟩ := w.sh r1 r2 (show i < nh by omega)
    rw [f_X10_shared_h30, r2.1.1, fo_mk, r2.2.1, q2, gd_mk, q3, v3, if_neg hc, y3, b2_mk]
    by_cases hz : shn μ (g + 15) i = 0
    · rw [if_pos hz, if_pos rfl, nm_mk, nm_mk, nI_1, Int64.add_zero, ih n (i + 1) _ (by omega) (by omega)]
      show _ = k (lN (sm (shn μ (g + 15)) m (i + 1) (acc + shn μ (g + 15) i))) ν
      rw [hz]
      rfl
    · rw [if_neg hz, if_neg one_nz, y4 hz, b2_mk, nm_mk, nm_mk, nI_1, lN_add, ih n (i + 1) _ (by omega) (by omega)]
      rfl
def cn (s : Nat → Nat) (X T R x : Nat) : Nat → Nat → Int64 → Nat → Int64 × Nat
  | 0, _, l, c => (l, c)
  | m + 1, i, l, c => cn s X T R x m (i + 1) (l - lN (X * s i / T)) (if R < X * s i % T then c + 1 else if X * s i % T = R ∧ i < x ∧ s i ≠ 0 then c + 1 else c)
theorem cn_le {s : Nat → Nat} {X T R x : Nat} : ∀ (m i : Nat) (l : Int64) (c : Nat), (cn s X T R x m i l c).2 ≤ c + m := by
  intro m
  induction m with
  | zero => intro i l c; exact Nat.le_refl _
  | succ m ih =>
    intro i l c
    refine Nat.le_trans (ih (i + 1) _ _) ?_
    split
    · omega
    · split <;> omega
theorem nz_lN {T : Nat} (h : 0 < T) (h2 : T < 2 ^ 63) : nzL (lN T) = true := by
  have : ¬ lN T = 0 := fun q => by
    have := (pk_lEQ (a := T) (b := 0) h2 (by omega)).mp q
    omega
  unfold nzL
  simp [this]
theorem xs_lt {X v : Nat} (hX : X ≤ 999999) (hv : v ≤ 460000000000) : X * v < 2 ^ 63 := by
  have : X * v ≤ 999999 * 460000000000 := Nat.mul_le_mul hX hv
  omega
theorem rem_E {a T : Nat} (xl : a < 2 ^ 63) (hT : 0 < T) (hT2 : T < 2 ^ 63) : lN a - lN (a / T * T) = lN (a % T) := by
  have := pk_lRem xl hT hT2
  rw [pk_lDiv xl hT hT2, lN_mul] at this
  exact this
set_option maxHeartbeats 400000 in
theorem coin_loop {g h : Nat} {μ ν : XMem} {now nc nl nh fl : Nat} {tx : Nat → List Int32} (r1 : LC g (mR μ) (mN μ)) (w : RW μ (g + 1) (g + 63) ν (h + 1) (h + 3) now nc nl nh fl tx) (r2 : LM h (mR ν) (mN ν)) {X T R x : Nat} (hX : X ≤ 999999) (hT : 0 < T) (hT2 : T < 2 ^ 63) (hR : R < T) (hx : x < nh) {l7 : Int64} {k : Int64 → Int64 → XMem → Option (Int32 × XMem)} : ∀ (m n i : Nat) (l : Int64) (c : Nat), i + m = nh → m < n → f_X8_coinsOf_h50 (g + 1) (nI x) (nI X) (lN T) l7 (lN R) k n l (lN c) (nI i) μ = k (cn (shn μ (g + 15)) X T R x m i l c).1 (lN (cn (shn μ (g + 15)) X T R x m i l c).2) μ := by
  obtain ⟨⟨a0, a1, a2, a3, a4⟩, ⟨v0, v1, v2, v3, v4⟩, p1, p2, p3, p4, p5⟩ := id w.1
  have nz := nz_lN hT hT2
  intro m
  induction m with
  | zero =>
    intro n i l c hi hm
    obtain ⟨n, rfl⟩ : ∃ q, n = q + 1 := ⟨n - 1, by omega⟩
    rw [f_X8_coinsOf_h50, a3, if_pos (nI_le (by omega) (by omega))]
    rfl
  | succ m ih =>
    intro n i l c hi hm
    obtain ⟨n, rfl⟩ : ∃ q, n = q + 1 := ⟨n - 1, by omega⟩
    have hc : ¬ nI nh ≤ nI i := nI_ge (by omega) (by omega)
    obtain ⟨y1, y2, -, -⟩ := w.sh r1 r2 (show i < nh by omega)
    rw [f_X8_coinsOf_h50, a3, if_neg hc]
    generalize shn μ (g + 15) = s at *
    have xl := xs_lt hX y2
    have rl : X * s i % T < T := Nat.mod_lt _ hT
    simp only [y1, b2_mk, nm_mk, nI_l (show X < 2 ^ 31 by omega), lN_mul, nz, gd_mk, pk_lDiv xl hT hT2, rem_E xl hT hT2, lg_cmp_gt, lg_cmp_eq, lg_cmp_le, pk_lLT (show R < 2 ^ 63 by omega) (show X * s i % T < 2 ^ 63 by omega), pk_lEQ (show X * s i % T < 2 ^ 63 by omega) (show R < 2 ^ 63 by omega), lN_1, nI_1]
    have z0 : lN (s i) ≤ 0 ↔ s i = 0 := (pk_lLE (a := s i) (b := 0) (by omega) (by omega)).trans (by omega)
    simp only [z0]
    by_cases c1 : R < X * s i % T
    · simp only [c1, if_true]
      rw [ih n (i + 1) _ _ (by omega) (by omega)]
      simp only [cn, c1, if_true]
    · simp only [c1, if_false]
      by_cases c2 : nI x ≤ nI i
      · have c2' : ¬ i < x := Nat.not_lt.mpr ((nI_leI (by omega) (by omega)).mp c2)
        simp only [c2, if_true]
        rw [ih n (i + 1) _ _ (by omega) (by omega)]
        simp only [cn, c1, c2', if_false, false_and, and_false]
      · have c2' : i < x := Nat.lt_of_not_le fun q => c2 (nI_le q (by omega))
        simp only [c2, if_false]
        by_cases c3 : X * s i % T = R
        · simp only [c3, if_true]
          by_cases c4 : s i = 0
          · simp only [c4, if_true]
            rw [ih n (i + 1) _ _ (by omega) (by omega)]
            simp only [cn, c4, ne_eq, not_true_eq_false, and_false, if_false]
            rw [c4] at c1
            simp only [c1, if_false]
          · simp only [c4, if_false]
            rw [ih n (i + 1) _ _ (by omega) (by omega)]
            simp only [cn, c1, c3, c2', c4, ne_eq, not_false_eq_true, and_self, if_true, if_false, Nat.lt_irrefl]
        · simp only [c3, if_false]
          rw [ih n (i + 1) _ _ (by omega) (by omega)]
          simp only [cn, c1, c3, if_false, false_and]
set_option maxHeartbeats 400000 in
theorem coin_loopM {g h : Nat} {μ ν : XMem} {now nc nl nh fl : Nat} {tx : Nat → List Int32} (r1 : LC g (mR μ) (mN μ)) (w : RW μ (g + 1) (g + 63) ν (h + 1) (h + 3) now nc nl nh fl tx) (r2 : LM h (mR ν) (mN ν)) {X T R x : Nat} (hX : X ≤ 999999) (hT : 0 < T) (hT2 : T < 2 ^ 63) (hR : R < T) (hx : x < nh) {k : Int64 → Int32 → XMem → Option (Int32 × XMem)} : ∀ (m n i : Nat) (l : Int64) (c : Nat), i + m = nh → m < n → f_X10_shared_h114 h (nI X) (nI x) (lN T) (lN R) k n l (nI c) (nI i) ν = k (cn (shn μ (g + 15)) X T R x m i l c).1 (nI (cn (shn μ (g + 15)) X T R x m i l c).2) ν := by
  obtain ⟨⟨a0, a1, a2, a3, a4⟩, ⟨v0, v1, v2, v3, v4⟩, p1, p2, p3, p4, p5⟩ := id w.1
  have nz := nz_lN hT hT2
  have q2 : ib 3 1059 = true := by decide
  have q3 : Int32.toNatClampNeg 3 = 3 := by decide
  intro m
  induction m with
  | zero =>
    intro n i l c hi hm
    obtain ⟨n, rfl⟩ : ∃ q, n = q + 1 := ⟨n - 1, by omega⟩
    rw [f_X10_shared_h114, r2.1.1, fo_mk, r2.2.1, q2, gd_mk, q3, v3, if_pos (nI_le (by omega) (by omega))]
    rfl
  | succ m ih =>
    intro n i l c hi hm
    obtain ⟨n, rfl⟩ : ∃ q, n = q + 1 := ⟨n - 1, by omega⟩
    have hc : ¬ nI nh ≤ nI i := nI_ge (by omega) (by omega)
    obtain ⟨-, y2, y3, y4⟩ := w.sh r1 r2 (show i < nh by omega)
    rw [f_X10_shared_h114, r2.1.1, fo_mk, r2.2.1, q2, gd_mk, q3, v3, if_neg hc, y3, b2_mk]
    generalize shn μ (g + 15) = s at *
    by_cases hz : s i = 0
    · rw [if_pos hz, if_pos rfl, nm_mk, nI_1, ih n (i + 1) _ _ (by omega) (by omega)]
      have e1 : ¬ R < X * s i % T := by rw [hz]; simp
      have e2 : l - lN (X * s i / T) = l := by
        rw [hz, Nat.mul_zero, Nat.zero_div]
        exact Int64.sub_zero l
      simp only [cn, e1, if_false, hz, ne_eq, not_true_eq_false, and_false]
      rw [hz] at e1 e2
      simp only [e1, e2, if_false]
    · rw [if_neg hz, if_neg one_nz, y4 hz, b2_mk]
      have xl := xs_lt hX y2
      have rl : X * s i % T < T := Nat.mod_lt _ hT
      simp only [nm_mk, nI_l (show X < 2 ^ 31 by omega), lN_mul, nz, gd_mk, pk_lDiv xl hT hT2, rem_E xl hT hT2, lg_cmp_gt, lg_cmp_eq, pk_lLT (show R < 2 ^ 63 by omega) (show X * s i % T < 2 ^ 63 by omega), pk_lEQ (show X * s i % T < 2 ^ 63 by omega) (show R < 2 ^ 63 by omega), nI_1, Int32.add_zero]
      by_cases c1 : R < X * s i % T
      · simp only [c1, if_true]
        rw [ih n (i + 1) _ _ (by omega) (by omega)]
        simp only [cn, c1, if_true]
      · simp only [c1, if_false]
        by_cases c3 : X * s i % T = R
        · simp only [c3, if_true]
          by_cases c2 : nI x ≤ nI i
          · have c2' : ¬ i < x := Nat.not_lt.mpr ((nI_leI (by omega) (by omega)).mp c2)
            simp only [c2, if_true]
            rw [ih n (i + 1) _ _ (by omega) (by omega)]
            simp only [cn, c1, c2', if_false, false_and, and_false]
          · have c2' : i < x := Nat.lt_of_not_le fun q => c2 (nI_le q (by omega))
            simp only [c2, if_false]
            rw [ih n (i + 1) _ _ (by omega) (by omega)]
            simp only [cn, c1, c3, c2', hz, ne_eq, not_false_eq_true, and_self, if_true, if_false, Nat.lt_irrefl]
        · simp only [c3, if_false]
          rw [ih n (i + 1) _ _ (by omega) (by omega)]
          simp only [cn, c1, c3, if_false, false_and]
set_option maxHeartbeats 400000 in
theorem op_shared {g h : Nat} {μ ν : XMem} (r : Rel g μ h ν) (x1 x2 : Int32) : OpI (f_X9_shared g x1 x2 μ) (f_X10_shared h x1 x2 ν) g h := by
  obtain ⟨r1, r2, r3, r4, r5, r6, ⟨now, nc, nl, nh, fl, tx, w⟩, r8⟩ := id r
  obtain ⟨⟨a0, a1, a2, a3, a4⟩, ⟨v0, v1, v2, v3, v4⟩, p1, p2, p3, p4, p5⟩ := id w.1
  unfold f_X9_shared f_X10_shared
  simp only [X9_within_eq, X10_within_eq, b2_mk]
  by_cases hw : wi x1 0 999999 = 0
  · simp only [hw, if_true, X9_finding_0 r1, X10_finds_0 r2, b2_mk]
    exact .mk (r.find (k := 0) (by decide))
  simp only [hw, if_false, r1.1, fo_mk, X8_houseAt_eq (LCl r1) a3 p4, b2_mk, X10_isHouse_eq r2 v3 (by omega)]
  cases hv : vx nh x2 with
  | none =>
    simp only [Option.map_none, oc_mn, iS_n, if_true, X9_finding_0 r1, X10_finds_0 r2, b2_mk]
    exact .mk (r.find (k := 0) (by decide))
  | some x =>
    obtain ⟨rfl, hx⟩ := vx_some hv
    obtain ⟨X, hX, rfl⟩ := wi_nat (n := 999999) rfl hw
    simp only [Option.map_some, oc_ms, iS_s, one_nz, if_false]
    have hall : f_X8_allShares (g + 1) μ = some (lN (sm (shn μ (g + 15)) nh 0 0), μ) := all_loop r1 w r2 (k := fun l102 m101 => some (l102, m101)) nh 2000 0 0 (by omega) (by omega)
    have hT2 : sm (shn μ (g + 15)) nh 0 0 ≤ 0 + nh * 460000000000 := sm_le nh 0 0 fun k _ hk => (w.sh r1 r2 (show k < nh by omega)).2.1
    have hT3 : nh * 460000000000 ≤ 8 * 460000000000 := Nat.mul_le_mul_right _ p4
    rw [hall, b2_mk]
    have hM := all_loopM r1 w r2 (x1 := nI X) (x2 := nI x) (k := fun l108 m107 =>
  if (lg_cmp l108 0) = 0 then (
  b2 (f_X10_finds h (-1000000004) m107) fun r123 m122 =>
  some (r123, m122))
  else (
  b2 (f_X10_gets h (nI x) m107) fun r110 m109 =>
  if r110 = 0 then (
  some (0, m109))
  else (
  nm ((Int32.toInt64 (nI X))) fun l111 =>
  b2 (f_X10_itsBalance h (nI x) m109) fun l113 m112 =>
  gd (nzL l108) <|
  nm ((((Int32.toInt64 (nI X)) * l113) - ((Int32.toInt64 (nI X)) * l113) / l108 * l108)) fun l115 =>
  f_X10_shared_h114 h (nI X) (nI x) l108 l115 (fun l117 x118 m116 =>
  b2 (f_X10_itsBalance h (nI x) m116) fun l120 m119 =>
  gd (nzL l108) <|
  if 0 ≤ (lg_cmp (Int32.toInt64 x118) l117) then (
  some (((Int64.toInt32 (((Int32.toInt64 (nI X)) * l120) / l108)) + 0), m119))
  else (
  some (((Int64.toInt32 (((Int32.toInt64 (nI X)) * l120) / l108)) + 1), m119))) 2000 l111 0 0 m112))) nh 2000 0 0 (by omega) (by omega)
    obtain ⟨y1, y2, y3, y4⟩ := w.sh r1 r2 hx
    have cl := fun T R (hT : 0 < T) (hT2 : T < 2 ^ 63) (hR : R < T) l7 k => coin_loop r1 w r2 hX hT hT2 hR hx (l7 := l7) (k := k) nh 2000 0 (lN X) 0 (by omega) (by omega)
    have cm := fun T R (hT : 0 < T) (hT2 : T < 2 ^ 63) (hR : R < T) k => coin_loopM r1 w r2 hX hT hT2 hR hx (k := k) nh 2000 0 (lN X) 0 (by omega) (by omega)
    generalize sm (shn μ (g + 15)) nh 0 0 = T at *
    by_cases hz : T = 0
    · refine .of (r := -1000000004) (r' := -1000000004) ?_ (hM.trans ?_) rfl (r.find (k := 3) (by decide))
      · rw [hz, if_neg (by decide), X9_finding_3 r1, b2_mk]
      · show (if lg_cmp (lN T) 0 = 0 then _ else _) = _
        rw [hz, if_pos (by decide), X10_finds_3 r2, b2_mk]
    · have hT : 0 < T := by omega
      have hT4 : T < 2 ^ 63 := by omega
      have e1 : 0 < lg_cmp (lN T) 0 := (lg_cmp_gt _ _).mpr ((pk_lLT (a := 0) (b := T) (by omega) (by omega)).mpr hT)
      have e2 : ¬ lg_cmp (lN T) 0 = 0 := fun q => hz ((pk_lEQ (a := T) (b := 0) (by omega) (by omega)).mp ((lg_cmp_eq _ _).mp q))
      have nz := nz_lN hT hT4
      by_cases hs : shn μ (g + 15) x = 0
      · refine .of (r := 0) (r' := 0) ?_ (hM.trans ?_) rfl r
        · rw [if_pos e1, r1.1, fo_mk, f_X8_coinsOf, y1, b2_mk, hs, if_pos (by decide), b2_mk]
        · show (if lg_cmp (lN T) 0 = 0 then _ else _) = _
          rw [if_neg e2, y3, b2_mk, if_pos hs, if_pos rfl]
      · have c0 : ¬ lg_cmp (lN (shn μ (g + 15) x)) 0 ≤ 0 := fun q => hs (by have := (pk_lLE (a := shn μ (g + 15) x) (b := 0) (by omega) (by omega)).mp ((lg_cmp_le _ _).mp q); omega)
        have xl := xs_lt hX y2
        have R1 := pk_lRem xl hT hT4
        have rl : X * shn μ (g + 15) x % T < T := Nat.mod_lt _ hT
        have cl' := cl T (X * shn μ (g + 15) x % T) hT hT4 rl (lN (X * shn μ (g + 15) x / T)) (fun l109 l110 m108 => if 0 ≤ (lg_cmp l110 l109) then some ((Int64.toInt32 (lN (X * shn μ (g + 15) x / T))), m108) else some ((Int64.toInt32 (lN (X * shn μ (g + 15) x / T) + 1)), m108))
        have cm' := cm T (X * shn μ (g + 15) x % T) hT hT4 rl (fun l117 x118 m116 =>
  b2 (f_X10_itsBalance h (nI x) m116) fun l120 m119 =>
  gd true <|
  if 0 ≤ (lg_cmp (Int32.toInt64 x118) l117) then (
  some (((Int64.toInt32 ((lN X * l120) / lN T)) + 0), m119))
  else (
  some (((Int64.toInt32 ((lN X * l120) / lN T)) + 1), m119)))
        have cb := cn_le (s := shn μ (g + 15)) (X := X) (T := T) (R := X * shn μ (g + 15) x % T) (x := x) nh 0 (lN X) 0
        generalize cn (shn μ (g + 15)) X T (X * shn μ (g + 15) x % T) x nh 0 (lN X) 0 = Q at *
        generalize shn μ (g + 15) x = sx at *
        refine .of (r := if 0 ≤ lg_cmp (lN Q.2) Q.1 then nI (X * sx / T) else nI (X * sx / T + 1)) (r' := if 0 ≤ lg_cmp (lN Q.2) Q.1 then nI (X * sx / T) else nI (X * sx / T + 1)) (μ := μ) (ν := ν) ?_ (hM.trans ?_) rfl r
        · rw [if_pos e1, r1.1, fo_mk, f_X8_coinsOf, y1, b2_mk, if_neg c0, if_pos e1, nz, gd_mk, nI_l (show X < 2 ^ 31 by omega), lN_mul, pk_lDiv xl hT hT4, nm_mk, gd_mk]
          rw [pk_lDiv xl hT hT4] at R1
          rw [R1, nm_mk, nm_mk]
          have cl2 := congrArg (fun z => b2 z fun r116 m115 => some (r116, m115)) cl'
          refine Eq.trans cl2 ?_
          show b2 (if 0 ≤ lg_cmp (lN Q.2) Q.1 then _ else _) _ = _
          split
          · rw [b2_mk, lN_i]
          · rw [b2_mk, lN_1, lN_i]
        · show (if lg_cmp (lN T) 0 = 0 then _ else _) = _
          rw [if_neg e2, y3, b2_mk, if_neg hs, if_neg one_nz, nm_mk, y4 hs, b2_mk, nz, gd_mk, nI_l (show X < 2 ^ 31 by omega), lN_mul]
          rw [R1, nm_mk]
          refine Eq.trans cm' ?_
          show b2 (f_X10_itsBalance h (nI x) ν) _ = _
          rw [y4 hs, b2_mk, gd_mk, lN_mul, pk_lDiv xl hT hT4, lN_i, nI_l (show Q.2 < 2 ^ 31 by omega), Int32.add_zero, nI_1]
          split <;> rfl

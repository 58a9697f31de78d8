/-! PURE LAYER 11: a world taken over by another (class side) -/
def tk (a b : Nat) : Nat → Nat → XMem → XMem
  | 0, _, μ => μ
  | m + 1, i, μ => tk a b m (i + 1) (sI μ a i (mI μ b i))
theorem tk_mI {a b : Nat} (hab : a ≠ b) : ∀ (m i : Nat) (μ : XMem) (x y : Nat), mI (tk a b m i μ) x y = if x = a ∧ i ≤ y ∧ y < i + m then mI μ b y else mI μ x y := by
  intro m
  induction m with
  | zero => intro i μ x y; rw [if_neg (by omega)]; rfl
  | succ m ih =>
    intro i μ x y
    show mI (tk a b m (i + 1) _) x y = _
    rw [ih, mI_ne hab.symm, mI_sI]
    by_cases h1 : x = a
    · by_cases h2 : y = i
      · rw [if_neg (by omega), if_pos h1, if_pos h2, if_pos (by omega), h2]
      · rw [if_pos h1, if_neg h2]
        by_cases h3 : i + 1 ≤ y ∧ y < i + 1 + m
        · rw [if_pos ⟨h1, h3⟩, if_pos (by omega)]
        · rw [if_neg (by omega), if_neg (by omega)]
    · rw [if_neg (by omega), if_neg h1, if_neg (by omega)]
theorem tk_r {a b : Nat} : ∀ (m i : Nat) (μ : XMem), mL (tk a b m i μ) = mL μ ∧ mR (tk a b m i μ) = mR μ ∧ mN (tk a b m i μ) = mN μ := by
  intro m
  induction m with
  | zero => intros; exact ⟨rfl, rfl, rfl⟩
  | succ m ih => intro i μ; exact ih _ _
theorem X0_take_eq {a b : Nat} {μ : XMem} : f_X0_take a b μ = some (tk a b 17 0 μ) := rfl
/-- a house taken over -/
def tkH (a b : Nat) (μ : XMem) : XMem := tk a b 6 8 (sL (sL (tk a b 6 0 μ) a 6 (mL (tk a b 6 0 μ) b 6)) a 7 (mL (sL (tk a b 6 0 μ) a 6 (mL (tk a b 6 0 μ) b 6)) b 7))
theorem tkH_mI {a b : Nat} (hab : a ≠ b) (μ : XMem) (x y : Nat) : mI (tkH a b μ) x y = if x = a ∧ (y < 6 ∨ (8 ≤ y ∧ y < 14)) then mI μ b y else mI μ x y := by
  unfold tkH
  rw [tk_mI hab]
  simp only [mI_sL]
  rw [tk_mI hab, tk_mI hab]
  by_cases h1 : x = a
  · by_cases h2 : 8 ≤ y ∧ y < 14
    · rw [if_pos (by omega), if_neg (by omega), if_pos (by omega)]
    · rw [if_neg (by omega)]
      by_cases h3 : y < 6
      · rw [if_pos (by omega), if_pos (by omega)]
      · rw [if_neg (by omega), if_neg (by omega)]
  · rw [if_neg (by omega), if_neg (by omega), if_neg (by omega)]
theorem tkH_mL {a b : Nat} (hab : a ≠ b) (μ : XMem) (x y : Nat) : mL (tkH a b μ) x y = if x = a ∧ (y = 6 ∨ y = 7) then mL μ b y else mL μ x y := by
  unfold tkH
  rw [(tk_r _ _ _).1, mL_sL, mL_ne hab.symm, mL_sL, (tk_r _ _ _).1]
  by_cases h1 : x = a
  · by_cases h7 : y = 7
    · rw [if_pos h1, if_pos h7, if_pos (by omega), h7]
    · by_cases h6 : y = 6
      · rw [if_pos h1, if_neg h7, if_pos h1, if_pos h6, if_pos (by omega), h6]
      · rw [if_pos h1, if_neg h7, if_pos h1, if_neg h6, if_neg (by omega)]
  · rw [if_neg h1, if_neg h1, if_neg (by omega)]
theorem tkH_r {a b : Nat} (μ : XMem) : mR (tkH a b μ) = mR μ ∧ mN (tkH a b μ) = mN μ := by
  unfold tkH
  rw [(tk_r _ _ _).2.1, (tk_r _ _ _).2.2]
  exact ⟨(tk_r (a := a) (b := b) 6 0 μ).2.1, (tk_r (a := a) (b := b) 6 0 μ).2.2⟩
theorem X1_take_eq {a b : Nat} (hab : a ≠ b) {μ : XMem} (hz : mI μ b 12 = 0 ∨ mI μ b 12 = 1) : f_X1_take a b μ = some (tkH a b μ) := by
  have key : ∀ m112 : XMem, mI m112 b 12 = mI μ b 12 → zb (mI m112 b 12) = true := by
    intro m h
    rw [h]
    unfold zb
    simp [hz]
  unfold f_X1_take
  simp only [nm_mk]
  rw [key _ (by simp only [mI_sI, mI_sL, if_neg hab.symm]), gd_mk]
  rfl
/-- the worlds A and B are apart -/
theorem X8_take_cells {A B nc : Nat} (hAB : A + 22 ≤ B ∨ B + 22 ≤ A) (h8 : nc ≤ 8) {k : XMem → Option XMem} : ∀ (m n i : Nat) (μ : XMem), LW (mR μ) (mN μ) A → LW (mR μ) (mN μ) B → mI μ A 1 = nI nc → mI μ B 1 = nI nc → i + m = nc → m < n →
    ∃ μ', f_X8_take_h58 A B k n (nI i) μ = k μ' ∧ (∀ c y, i ≤ c → c < nc → y < 17 → mI μ' (A + 6 + c) y = mI μ (B + 6 + c) y) ∧ (∀ q, (∀ c, i ≤ c → c < nc → q ≠ A + 6 + c) → mI μ' q = mI μ q) ∧ mL μ' = mL μ ∧ mR μ' = mR μ ∧ mN μ' = mN μ := by
  intro m
  induction m with
  | zero =>
    intro n i μ LA LB hA hB hi hm
    obtain ⟨n, rfl⟩ : ∃ q, n = q + 1 := ⟨n - 1, by omega⟩
    refine ⟨μ, ?_, fun c y h1 h2 _ => by omega, fun q _ => rfl, rfl, rfl, rfl⟩
    rw [f_X8_take_h58, hA, if_pos (nI_le (by omega) (by omega))]
  | succ m ih =>
    intro n i μ LA LB hA hB hi hm
    obtain ⟨n, rfl⟩ : ∃ q, n = q + 1 := ⟨n - 1, by omega⟩
    have hc : ¬ nI nc ≤ nI i := nI_ge (by omega) (by omega)
    have hab : A + 6 + i ≠ B + 6 + i := by omega
    obtain ⟨t1, t2, t3⟩ := tk_r (a := A + 6 + i) (b := B + 6 + i) 17 0 μ
    have tI := tk_mI hab 17 0 μ
    obtain ⟨μ', e1, e2, e3, e4, e5, e6⟩ := ih n (i + 1) (tk (A + 6 + i) (B + 6 + i) 17 0 μ) (by rw [t2, t3]; exact LA) (by rw [t2, t3]; exact LB) (by rw [tI, if_neg (by omega)]; exact hA) (by rw [tI, if_neg (by omega)]; exact hB) (by omega) (by omega)
    refine ⟨μ', ?_, fun c y h1 h2 h3 => ?_, fun q hq => ?_, e4.trans t1, e5.trans t2, e6.trans t3⟩
    · rw [f_X8_take_h58, hA, if_neg hc]
      simp only [X8_cellAt_eq LA hA h8, X8_cellAt_eq LB hB h8, b2_mk, vx_nI (show i < nc by omega) (by omega), Option.map_some, oc_ms, X0_take_eq, b1_mk, nm_mk, nI_1]
      exact e1
    · by_cases hci : c = i
      · subst hci
        rw [e3 _ (fun c' h1' h2' => by omega), tI, if_pos (by omega)]
      · rw [e2 c y (by omega) h2 h3, tI, if_neg (by omega)]
    · rw [e3 q (fun c h1 h2 => hq c (by omega) h2)]
      funext y
      rw [tI, if_neg (fun z => hq i (by omega) (by omega) z.1)]
theorem X8_take_houses {A B nh : Nat} (hAB : A + 22 ≤ B ∨ B + 22 ≤ A) (h8 : nh ≤ 8) {k : XMem → Option XMem} : ∀ (m n i : Nat) (μ : XMem), LW (mR μ) (mN μ) A → LW (mR μ) (mN μ) B → mI μ A 3 = nI nh → mI μ B 3 = nI nh → (∀ c, c < nh → mI μ (B + 14 + c) 12 = 0 ∨ mI μ (B + 14 + c) 12 = 1) → i + m = nh → m < n →
    ∃ μ', f_X8_take_h138 A B k n (nI i) μ = k μ' ∧ (∀ c y, i ≤ c → c < nh → (y < 6 ∨ (8 ≤ y ∧ y < 14)) → mI μ' (A + 14 + c) y = mI μ (B + 14 + c) y) ∧ (∀ c y, i ≤ c → c < nh → (y = 6 ∨ y = 7) → mL μ' (A + 14 + c) y = mL μ (B + 14 + c) y) ∧ (∀ q, (∀ c, i ≤ c → c < nh → q ≠ A + 14 + c) → mI μ' q = mI μ q ∧ mL μ' q = mL μ q) ∧ mR μ' = mR μ ∧ mN μ' = mN μ := by
  intro m
  induction m with
  | zero =>
    intro n i μ LA LB hA hB hz hi hm
    obtain ⟨n, rfl⟩ : ∃ q, n = q + 1 := ⟨n - 1, by omega⟩
    refine ⟨μ, ?_, fun c y h1 h2 _ => by omega, fun c y h1 h2 _ => by omega, fun q _ => ⟨rfl, rfl⟩, rfl, rfl⟩
    rw [f_X8_take_h138, hA, if_pos (nI_le (by omega) (by omega))]
  | succ m ih =>
    intro n i μ LA LB hA hB hz hi hm
    obtain ⟨n, rfl⟩ : ∃ q, n = q + 1 := ⟨n - 1, by omega⟩
    have hc : ¬ nI nh ≤ nI i := nI_ge (by omega) (by omega)
    have hab : A + 14 + i ≠ B + 14 + i := by omega
    obtain ⟨t2, t3⟩ := tkH_r (a := A + 14 + i) (b := B + 14 + i) μ
    have tI := tkH_mI hab μ
    have tL := tkH_mL hab μ
    obtain ⟨μ', e1, e2, e2', e3, e5, e6⟩ := ih n (i + 1) (tkH (A + 14 + i) (B + 14 + i) μ) (by rw [t2, t3]; exact LA) (by rw [t2, t3]; exact LB) (by rw [tI, if_neg (by omega)]; exact hA) (by rw [tI, if_neg (by omega)]; exact hB) (fun c hc => by rw [tI, if_neg (by omega)]; exact hz c hc) (by omega) (by omega)
    refine ⟨μ', ?_, fun c y h1 h2 h3 => ?_, fun c y h1 h2 h3 => ?_, fun q hq => ⟨?_, ?_⟩, e5.trans t2, e6.trans t3⟩
    · rw [f_X8_take_h138, hA, if_neg hc]
      simp only [X8_houseAt_eq LA hA h8, X8_houseAt_eq LB hB h8, b2_mk, vx_nI (show i < nh by omega) (by omega), Option.map_some, oc_ms, X1_take_eq hab (hz i (by omega)), b1_mk, nm_mk, nI_1]
      exact e1
    · by_cases hci : c = i
      · subst hci
        rw [(e3 _ (fun c' h1' h2' => by omega)).1, tI, if_pos ⟨rfl, h3⟩]
      · rw [e2 c y (by omega) h2 h3, tI, if_neg (by omega)]
    · by_cases hci : c = i
      · subst hci
        rw [(e3 _ (fun c' h1' h2' => by omega)).2, tL, if_pos ⟨rfl, h3⟩]
      · rw [e2' c y (by omega) h2 h3, tL, if_neg (by omega)]
    · rw [(e3 q (fun c h1 h2 => hq c (by omega) h2)).1]
      funext y
      rw [tI, if_neg (fun z => hq i (by omega) (by omega) z.1)]
    · rw [(e3 q (fun c h1 h2 => hq c (by omega) h2)).2]
      funext y
      rw [tL, if_neg (fun z => hq i (by omega) (by omega) z.1)]
theorem mR_at {μ : XMem} {a k : Nat} {v : Option Nat} : mR (sR μ a k v) a k = v := by simp [mR_sR]
theorem mR_off {μ : XMem} {a k : Nat} {v : Option Nat} {y : Nat} (h : y ≠ k) : mR (sR μ a k v) a y = mR μ a y := by simp [mR_sR, h]
theorem mR_ne {μ : XMem} {a k : Nat} {v : Option Nat} {x : Nat} (h : x ≠ a) : mR (sR μ a k v) x = mR μ x := u2_ne h
/-- layouts look at no place that a text stands in -/
theorem LW.st {μ : XMem} {A a k : Nat} {v : Option Nat} (L : LW (mR μ) (mN μ) A) (h : (a = A ∧ k < 7) ∨ a = A + 2 ∨ a < A ∨ A + 6 ≤ a) : LW (mR (sR μ a k v)) (mN (sR μ a k v)) A := by
  obtain ⟨l7, l8, l9, l10, n1, n2, n3, hc, hh, lw, nw⟩ := L
  have key : ∀ x y, (x = A → 7 ≤ y) → A ≤ x → x < A + 6 → x ≠ A + 2 → mR (sR μ a k v) x y = mR μ x y := by
    intro x y h1 h2 h3 h4
    rw [mR_sR]
    by_cases e : x = a
    · rw [if_pos e]
      rw [if_neg (by rcases h with ⟨q1, q2⟩ | q | q | q <;> intro z <;> omega)]
    · rw [if_neg e]
  refine ⟨?_, ?_, ?_, ?_, n1, n2, n3, fun i hi => ?_, fun i hi => ?_, ?_, nw⟩
  · rw [key A 7 (by omega) (by omega) (by omega) (by omega)]; exact l7
  · rw [key A 8 (by omega) (by omega) (by omega) (by omega)]; exact l8
  · rw [key A 9 (by omega) (by omega) (by omega) (by omega)]; exact l9
  · rw [key A 10 (by omega) (by omega) (by omega) (by omega)]; exact l10
  · rw [key (A + 1) i (by omega) (by omega) (by omega) (by omega)]; exact hc i hi
  · rw [key (A + 3) i (by omega) (by omega) (by omega) (by omega)]; exact hh i hi
  · rw [key (A + 4) 5 (by omega) (by omega) (by omega) (by omega)]; exact lw
theorem X8_take_laws {A B nl : Nat} (hAB : A + 22 ≤ B ∨ B + 22 ≤ A) (h6 : nl ≤ 6) {k : XMem → Option XMem} : ∀ (m n i : Nat) (μ : XMem), LW (mR μ) (mN μ) A → LW (mR μ) (mN μ) B → mI μ A 2 = nI nl → mI μ B 2 = nI nl → i + m = nl → m < n →
    ∃ μ', f_X8_take_h102 A B k n (nI i) μ = k μ' ∧ (∀ c, i ≤ c → c < nl → mR μ' (A + 2) c = mR μ (B + 2) c) ∧ (∀ q, q ≠ A + 2 → mR μ' q = mR μ q) ∧ mI μ' = mI μ ∧ mL μ' = mL μ ∧ mN μ' = mN μ ∧ (∀ c, c < i → mR μ' (A + 2) c = mR μ (A + 2) c) := by
  intro m
  induction m with
  | zero =>
    intro n i μ LA LB hA hB hi hm
    obtain ⟨n, rfl⟩ : ∃ q, n = q + 1 := ⟨n - 1, by omega⟩
    refine ⟨μ, ?_, fun c h1 h2 => by omega, fun q _ => rfl, rfl, rfl, rfl, fun _ _ => rfl⟩
    rw [f_X8_take_h102, hA, if_pos (nI_le (by omega) (by omega))]
  | succ m ih =>
    intro n i μ LA LB hA hB hi hm
    obtain ⟨n, rfl⟩ : ∃ q, n = q + 1 := ⟨n - 1, by omega⟩
    have hc : ¬ nI nl ≤ nI i := nI_ge (by omega) (by omega)
    have hc6 : ¬ nI 6 ≤ nI i := nI_ge (by omega) (by omega)
    have ii : ib (nI i) 6 = true := ib_nI (by omega) (by omega)
    obtain ⟨μ', e1, e2, e3, e4, e5, e6, e7⟩ := ih n (i + 1) (sR μ (A + 2) i (mR μ (B + 2) i)) (LA.st (by omega)) (LB.st (by omega)) hA hB (by omega) (by omega)
    refine ⟨μ', ?_, fun c h1 h2 => ?_, fun q hq => ?_, e4, e5, e6, fun c hci => ?_⟩
    · rw [f_X8_take_h102, hA, if_neg hc, LA.2.1, fo_mk, LA.2.2.2.2.2.1, if_neg hc6, fo_mk, X8_lawAt_eq LB hB h6, b2_mk, vx_nI (show i < nl by omega) (by omega)]
      simp only [Option.bind_some, LA.2.2.2.2.2.1, ii, gd_mk, nm_mk, nI_clamp (show i < 2 ^ 31 by omega), nI_1]
      exact e1
    · by_cases hci : c = i
      · subst hci
        rw [e7 c (by omega), mR_at]
      · rw [e2 c (by omega) h2, mR_ne (by omega)]
    · rw [e3 q hq, mR_ne hq]
    · rw [e7 c (by omega), mR_off (by omega)]

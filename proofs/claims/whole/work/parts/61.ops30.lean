/-! PURE LAYER 30: trials; foretold, look -/
def OnT (g : Nat) (μ μ' : XMem) : Prop := (∀ q, q ≠ g + 53 → q ≠ g + 54 → q ≠ g + 5 → q ≠ g + 6 → mI μ' q = mI μ q) ∧ mL μ' = mL μ ∧ mR μ' = mR μ ∧ mN μ' = mN μ
theorem OnT.refl (g : Nat) (μ : XMem) : OnT g μ μ := ⟨fun _ _ _ _ _ => rfl, rfl, rfl, rfl⟩
theorem OnT.on {g a : Nat} {μ μ' μ'' : XMem} (x : OnT g μ μ') (y : OnC g a μ' μ'') (ha : a = g + 53 ∨ a = g + 54) : OnT g μ μ'' :=
  ⟨fun q h1 h2 h3 h4 => (y.1 q (by omega) h3 h4).trans (x.1 q h1 h2 h3 h4), y.2.1.trans x.2.1, y.2.2.1.trans x.2.2.1, y.2.2.2.trans x.2.2.2⟩
/-- the state as it was, but for the row of c (kept in own), the pile, own and first -/
def Sv (h c : Nat) (ν ν' : XMem) : Prop := (∀ q, q ≠ h + 1 → q ≠ h + 10 → q ≠ h + 11 → q ≠ h + 12 → mI ν' q = mI ν q) ∧ (∀ y, (y < 11 + 17 * c ∨ 28 + 17 * c ≤ y) → mI ν' (h + 1) y = mI ν (h + 1) y) ∧ (∀ k, k < 17 → mI ν' (h + 11) k = crw ν h c k) ∧ mL ν' = mL ν ∧ mR ν' = mR ν ∧ mN ν' = mN ν
def Bk (h : Nat) (ν ν' : XMem) : Prop := (∀ q, q ≠ h + 10 → q ≠ h + 11 → q ≠ h + 12 → mI ν' q = mI ν q) ∧ mL ν' = mL ν ∧ mR ν' = mR ν ∧ mN ν' = mN ν
theorem Bk.refl (h : Nat) (ν : XMem) : Bk h ν ν := ⟨fun _ _ _ _ => rfl, rfl, rfl, rfl⟩
theorem Bk.trans {h : Nat} {ν ν' ν'' : XMem} (x : Bk h ν ν') (y : Bk h ν' ν'') : Bk h ν ν'' :=
  ⟨fun q h1 h2 h3 => (y.1 q h1 h2 h3).trans (x.1 q h1 h2 h3), y.2.1.trans x.2.1, y.2.2.1.trans x.2.2.1, y.2.2.2.trans x.2.2.2⟩
theorem Bk.L {h : Nat} {ν ν' : XMem} (x : Bk h ν ν') (L : LM h (mR ν) (mN ν)) : LM h (mR ν') (mN ν') := by rw [x.2.2.1, x.2.2.2]; exact L
theorem Sv.L {h c : Nat} {ν ν' : XMem} (x : Sv h c ν ν') (L : LM h (mR ν) (mN ν)) : LM h (mR ν') (mN ν') := by rw [x.2.2.2.2.1, x.2.2.2.2.2]; exact L
theorem Sv.on {h c : Nat} {ν ν' ν'' : XMem} (x : Sv h c ν ν') (y : OnM h c ν' ν'') : Sv h c ν ν'' :=
  ⟨fun q h1 h2 h3 h4 => (y.1 q h1 h2).trans (x.1 q h1 h2 h3 h4), fun k hk => (y.2.1 k hk).trans (x.2.1 k hk), fun k hk => by rw [y.1 _ (by omega) (by omega)]; exact x.2.2.1 k hk, y.2.2.1.trans x.2.2.2.1, y.2.2.2.1.trans x.2.2.2.2.1, y.2.2.2.2.trans x.2.2.2.2.2⟩
theorem saves_loop {h c : Nat} (hc : c < 8) {k : XMem → Option XMem} : ∀ (m n i : Nat) (ν : XMem), LM h (mR ν) (mN ν) → i + m = 17 → m < n → ∃ ν', f_X10_saves_h2 h (nI c) k n (nI i) ν = k ν' ∧ (∀ q, q ≠ h + 11 → mI ν' q = mI ν q) ∧ (∀ y, mI ν' (h + 11) y = if i ≤ y ∧ y < 17 then crw ν h c y else mI ν (h + 11) y) ∧ mL ν' = mL ν ∧ mR ν' = mR ν ∧ mN ν' = mN ν := by
  intro m
  induction m with
  | zero =>
    intro n i ν L hi hm
    obtain ⟨n, rfl⟩ : ∃ q, n = q + 1 := ⟨n - 1, by omega⟩
    have hcc : (17 : Int32) ≤ nI i := nI_le (a := 17) (by omega) (by omega)
    exact ⟨ν, by rw [f_X10_saves_h2, if_pos hcc], fun _ _ => rfl, fun y => by rw [if_neg (by omega)], rfl, rfl, rfl⟩
  | succ m ih =>
    intro n i ν L hi hm
    obtain ⟨n, rfl⟩ : ∃ q, n = q + 1 := ⟨n - 1, by omega⟩
    have hcc : ¬ (17 : Int32) ≤ nI i := nI_ge (b := 17) (by omega) (by omega)
    have L17 := L.1.2.2.2.2.2.2.2.2.2.2.1
    have N11 := L.2.2.2.2.2.2.2.2.2.2.2.1
    obtain ⟨ν', z1, z2, z3, z4, z5, z6⟩ := ih n (i + 1) (sI ν (h + 11) i (crw ν h c i)) L (by omega) (by omega)
    refine ⟨ν', ?_, fun q hq => (z2 q hq).trans (mI_ne hq), fun y => ?_, z4, z5, z6⟩
    · rw [f_X10_saves_h2, if_neg hcc, L17, fo_mk, X10_ofCell_eq L hc (by omega), b2_mk, N11, ib_nI (by omega) (by omega), gd_mk, nI_clamp (by omega), nm_mk, nm_mk, nI_1]
      exact z1
    · have e : crw (sI ν (h + 11) i (crw ν h c i)) h c = crw ν h c := by
        funext y
        unfold crw
        rw [mI_ne (by omega)]
      rw [z3 y, e]
      by_cases h1 : y = i
      · subst h1
        rw [if_neg (by omega), if_pos (by omega), mI_at]
      · rw [mI_off h1]
        by_cases h2 : i + 1 ≤ y ∧ y < 17
        · rw [if_pos h2, if_pos (by omega)]
        · rw [if_neg h2, if_neg (by omega)]
theorem saves_eq {h c : Nat} {ν : XMem} (L : LM h (mR ν) (mN ν)) (hc : c < 8) : ∃ ν', f_X10_saves h (nI c) ν = some ν' ∧ Sv h c ν ν' ∧ Bk h ν ν' := by
  obtain ⟨ν', z1, z2, z3, z4, z5, z6⟩ := saves_loop hc (k := fun m101 => some m101) 17 2000 0 ν L (by omega) (by omega)
  exact ⟨ν', z1, ⟨fun q _ _ h3 _ => z2 q h3, fun y _ => by rw [z2 _ (by omega)], fun k hk => by rw [z3, if_pos (by omega)], z4, z5, z6⟩, ⟨fun q _ h2 _ => z2 q h2, z4, z5, z6⟩⟩
theorem brings_loop {h c : Nat} (hc : c < 8) {k : XMem → Option XMem} : ∀ (m n i : Nat) (ν : XMem), LM h (mR ν) (mN ν) → i + m = 17 → m < n → ∃ ν', f_X10_brings_h2 h (nI c) k n (nI i) ν = k ν' ∧ (∀ q, q ≠ h + 1 → mI ν' q = mI ν q) ∧ (∀ y, mI ν' (h + 1) y = if 11 + 17 * c + i ≤ y ∧ y < 28 + 17 * c then mI ν (h + 11) (y - (11 + 17 * c)) else mI ν (h + 1) y) ∧ mL ν' = mL ν ∧ mR ν' = mR ν ∧ mN ν' = mN ν := by
  intro m
  induction m with
  | zero =>
    intro n i ν L hi hm
    obtain ⟨n, rfl⟩ : ∃ q, n = q + 1 := ⟨n - 1, by omega⟩
    have hcc : (17 : Int32) ≤ nI i := nI_le (a := 17) (by omega) (by omega)
    exact ⟨ν, by rw [f_X10_brings_h2, if_pos hcc], fun _ _ => rfl, fun y => by rw [if_neg (by omega)], rfl, rfl, rfl⟩
  | succ m ih =>
    intro n i ν L hi hm
    obtain ⟨n, rfl⟩ : ∃ q, n = q + 1 := ⟨n - 1, by omega⟩
    have hcc : ¬ (17 : Int32) ≤ nI i := nI_ge (b := 17) (by omega) (by omega)
    have L17 := L.1.2.2.2.2.2.2.2.2.2.2.1
    have N11 := L.2.2.2.2.2.2.2.2.2.2.2.1
    obtain ⟨ν', z1, z2, z3, z4, z5, z6⟩ := ih n (i + 1) (sI ν (h + 1) (11 + 17 * c + i) (mI ν (h + 11) i)) L (by omega) (by omega)
    refine ⟨ν', ?_, fun q hq => (z2 q hq).trans (mI_ne hq), fun y => ?_, z4, z5, z6⟩
    · rw [f_X10_brings_h2, if_neg hcc, L17, fo_mk, N11, ib_nI (by omega) (by omega), gd_mk, nI_clamp (by omega), X10_puts_eq L hc (by omega), b1_mk, nm_mk, nI_1]
      exact z1
    · rw [z3 y, mI_ne (show h + 11 ≠ h + 1 by omega)]
      by_cases h1 : y = 11 + 17 * c + i
      · subst h1
        rw [if_neg (by omega), if_pos (by omega), mI_at, show 11 + 17 * c + i - (11 + 17 * c) = i by omega]
      · rw [mI_off h1]
        by_cases h2 : 11 + 17 * c + (i + 1) ≤ y ∧ y < 28 + 17 * c
        · rw [if_pos h2, if_pos (by omega)]
        · rw [if_neg h2, if_neg (by omega)]
theorem brings_eq {h c : Nat} {ν ν' : XMem} (L : LM h (mR ν) (mN ν)) (hc : c < 8) (s : Sv h c ν ν') : ∃ ν'', f_X10_brings h (nI c) ν' = some ν'' ∧ Bk h ν ν'' ∧ Sv h c ν ν'' ∧ (∀ q, q ≠ h + 1 → mI ν'' q = mI ν' q) := by
  obtain ⟨ν'', z1, z2, z3, z4, z5, z6⟩ := brings_loop hc (k := fun m101 => some m101) 17 2000 0 ν' (s.L L) (by omega) (by omega)
  have e : mI ν'' (h + 1) = mI ν (h + 1) := by
    funext y
    rw [z3 y]
    by_cases hy : 11 + 17 * c + 0 ≤ y ∧ y < 28 + 17 * c
    · rw [if_pos hy, s.2.2.1 _ (by omega)]
      unfold crw
      rw [show 11 + 17 * c + (y - (11 + 17 * c)) = y by omega]
    · rw [if_neg hy]
      exact s.2.1 y (by omega)
  refine ⟨ν'', z1, ⟨fun q h2 h3 h4 => ?_, z4.trans s.2.2.2.1, z5.trans s.2.2.2.2.1, z6.trans s.2.2.2.2.2⟩, ⟨fun q h1 h2 h3 h4 => (z2 q h1).trans (s.1 q h1 h2 h3 h4), fun y _ => by rw [e], fun k hk => by rw [z2 _ (by omega)]; exact s.2.2.1 k hk, z4.trans s.2.2.2.1, z5.trans s.2.2.2.2.1, z6.trans s.2.2.2.2.2⟩, z2⟩
  by_cases h1 : q = h + 1
  · rw [h1]; exact e
  · exact (z2 q h1).trans (s.1 q h1 h2 h3 h4)
theorem Bk.row {h c : Nat} {ν ν' : XMem} (x : Bk h ν ν') : crw ν' h c = crw ν h c := by
  unfold crw
  rw [x.1 _ (by omega) (by omega) (by omega)]
theorem Fr.bk {g h nl : Nat} {μ ν ν' : XMem} {tx : Nat → List Int32} (F : Fr g μ h ν nl tx) (b : Bk h ν ν') : Fr g μ h ν' nl tx :=
  F.cg (fun _ _ => rfl) rfl rfl rfl b.2.2.1 b.2.2.2 (fun k _ => by rw [b.1 _ (by omega) (by omega) (by omega)])
theorem Fr.ont {g h nl : Nat} {μ μ' ν : XMem} {tx : Nat → List Int32} (F : Fr g μ h ν nl tx) (x : OnT g μ μ') : Fr g μ' h ν nl tx :=
  F.cg (fun q hq => x.1 q (by omega) (by omega) (by omega) (by omega)) (x.1 _ (by omega) (by omega) (by omega) (by omega)) x.2.2.1 x.2.2.2 rfl rfl (fun _ _ => rfl)
/-- after trials all stands as before -/
theorem Rel.trial {g h : Nat} {μ ν μ' ν' : XMem} (r : Rel g μ h ν) (x : OnT g μ μ') (b : Bk h ν ν') : Rel g μ' h ν' := by
  obtain ⟨r1, r2, r3, r4, r5, r6, r7, r8⟩ := id r
  refine r.live (fun q hq => x.1 q (by omega) (by omega) (by omega) (by omega)) (fun q _ => by rw [x.2.1]) x.2.2.1 x.2.2.2 (fun q _ q2 q3 q4 => b.1 q q2 q3 q4) (fun q _ => by rw [b.2.1]) b.2.2.1 b.2.2.2 ?_
  exact r7.cg (x.1 _ (by omega) (by omega) (by omega) (by omega)) (fun c hc => x.1 _ (by omega) (by omega) (by omega) (by omega)) (fun c _ => by rw [x.2.1]) (fun q hq => x.1 q (by omega) (by omega) (by omega) (by omega)) x.2.2.1 x.2.2.2 (b.1 _ (by omega) (by omega) (by omega)) (by rw [b.2.1])
/-- a trial takes a cell over -/
theorem take_eq {g a c : Nat} {μ : XMem} (ha : a = g + 53 ∨ a = g + 54) (hc : c < 8) : ∃ μ', f_X0_take a (g + 7 + c) μ = some μ' ∧ OnT g μ μ' ∧ (∀ k, k < 17 → mI μ' a k = mI μ (g + 7 + c) k) ∧ (∀ q, q ≠ a → mI μ' q = mI μ q) := by
  have hab : a ≠ g + 7 + c := by omega
  have e : ∀ q, q ≠ a → mI (tk a (g + 7 + c) 17 0 μ) q = mI μ q := fun q hq => by
    funext y
    rw [tk_mI hab, if_neg (by omega)]
  refine ⟨tk a (g + 7 + c) 17 0 μ, X0_take_eq, ⟨fun q h1 h2 h3 h4 => e q (by omega), (tk_r _ _ _).1, (tk_r _ _ _).2.1, (tk_r _ _ _).2.2⟩, fun k hk => ?_, e⟩
  rw [tk_mI hab, if_pos (by omega)]
theorem go_loop {g h nl c a N now : Nat} {tx : Nat → List Int32} (hc : c < 8) (ha : g + 7 ≤ a) (ha2 : a < g + 63) (hN : N ≤ 100) (hnow : now ≤ 2000) {x2 : Int32} (hl : LwOk nl x2) {kC kM : XMem → Option XMem} : ∀ (m n i : Nat) (μ ν : XMem), i + m = N → m < n → Fr g μ h ν nl tx → (∀ k, k < 17 → k ≠ 12 → mI μ a k = crw ν h c k) → CInv (mI μ a) → mI μ (g + 1) 0 = nI now → mI ν (h + 1) 0 = nI now →
    ∃ μ' ν', f_X8_foretell_h3 (g + 1) a (nI c) x2 (nI N) kC n (nI i) μ = kC μ' ∧ f_X10_go_h3 h (nI c) x2 (-1) (nI N) kM n (nI i) ν = kM ν' ∧ OnC g a μ μ' ∧ OnM h c ν ν' ∧ (m = 0 → μ' = μ ∧ ν' = ν) ∧ (0 < m → ∃ μ'', f_X8_shine (g + 1) a (nI c) x2 (nI now + nI N - 1) μ' = some μ'' ∧ OnC g a μ μ'' ∧ (∀ k, k < 17 → mI μ'' a k = crw ν' h c k) ∧ CInv (mI μ'' a)) := by
  have i0 : ib 0 1059 = true := by decide
  have j0 : Int32.toNatClampNeg 0 = 0 := by decide
  intro m
  induction m with
  | zero =>
    intro n i μ ν hi hn F hq hI a0 v0
    obtain ⟨n, rfl⟩ : ∃ q, n = q + 1 := ⟨n - 1, by omega⟩
    have hcc : nI N ≤ nI i := nI_le (by omega) (by omega)
    exact ⟨μ, ν, by rw [f_X8_foretell_h3, if_pos hcc], by rw [f_X10_go_h3, if_pos hcc], OnC.refl _ _ _, OnM.refl _ _ _, fun _ => ⟨rfl, rfl⟩, fun q => absurd q (by omega)⟩
  | succ m ih =>
    intro n i μ ν hi hn F hq hI a0 v0
    obtain ⟨n, rfl⟩ : ∃ q, n = q + 1 := ⟨n - 1, by omega⟩
    have hcc : ¬ nI N ≤ nI i := nI_ge (by omega) (by omega)
    obtain ⟨μ1, ν1, μ2, s1, s2, s3, s4, s5, s6, s7, s8, s9, s10⟩ := warm_pair F hc ha ha2 hq hI hl (nI now + nI i)
    have e1 : mI μ1 (g + 1) = mI μ (g + 1) := s4.1 _ (by omega) (by omega) (by omega)
    obtain ⟨μ', ν', z1, z2, z3, z4, z5, z6⟩ := ih n (i + 1) μ1 ν1 (by omega) (by omega) (F.on ha ha2 hc s4 s6) s7 s9 (by rw [e1]; exact a0) (by rw [s6.2.1 _ (by omega)]; exact v0)
    refine ⟨μ', ν', ?_, ?_, s4.trans z3, s6.trans z4, fun q => absurd q (by omega), fun _ => ?_⟩
    · rw [f_X8_foretell_h3, if_neg hcc, a0, s1, b1_mk, nm_mk, nI_1]
      exact z1
    · rw [f_X10_go_h3, if_neg hcc, F.2.1.1.1, fo_mk, F.2.1.2.1, i0, gd_mk, j0, v0, s2, b1_mk, nm_mk, nI_1]
      exact z2
    · by_cases hm : m = 0
      · obtain ⟨rfl, rfl⟩ := z5 hm
        have e2 : nI now + nI N - 1 = nI now + nI i := by
          rw [show N = i + 1 by omega, nI_add, nI_add, show now + (i + 1) = now + i + 1 by omega, nI_pred]
        rw [e2]
        exact ⟨μ2, s3, s5, s8, s10⟩
      · obtain ⟨μ'', y1, y2, y3, y4⟩ := z6 (by omega)
        exact ⟨μ'', y1, s4.trans y2, y3, y4⟩
theorem fore_pair {g h nl c a N now : Nat} {μ ν : XMem} {tx : Nat → List Int32} (F : Fr g μ h ν nl tx) (hc : c < 8) (ha : g + 7 ≤ a) (ha2 : a < g + 63) (hN : N ≤ 100) (hnow : now ≤ 2000) {x2 : Int32} (hl : LwOk nl x2) (hq : ∀ k, k < 17 → mI μ a k = crw ν h c k) (hI : CInv (mI μ a)) (a0 : mI μ (g + 1) 0 = nI now) (v0 : mI ν (h + 1) 0 = nI now) :
    ∃ μ' ν', f_X8_foretell (g + 1) a (nI c) x2 (nI N) μ = some μ' ∧ f_X10_go h (nI c) x2 (-1) (nI N) ν = some ν' ∧ OnC g a μ μ' ∧ OnM h c ν ν' ∧ (∀ k, k < 17 → mI μ' a k = crw ν' h c k) ∧ CInv (mI μ' a) := by
  obtain ⟨μ', ν', z1, z2, z3, z4, z5, z6⟩ := go_loop hc ha ha2 hN hnow hl (kC := fun m101 => if (nI N) ≤ 0 then (some m101) else (b1 (f_X8_shine (g + 1) a (nI c) x2 (((mI m101 (g + 1) 0) + nI N) - 1) m101) fun m102 => some m102)) (kM := fun m101 => some m101) N 2000 0 μ ν (by omega) (by omega) F (fun k hk _ => hq k hk) hI a0 v0
  have e1 : mI μ' (g + 1) = mI μ (g + 1) := z3.1 _ (by omega) (by omega) (by omega)
  by_cases hN0 : N = 0
  · obtain ⟨rfl, rfl⟩ := z5 hN0
    refine ⟨μ', ν', z1.trans ?_, z2, z3, z4, hq, hI⟩
    show (if nI N ≤ 0 then some μ' else _) = _
    rw [if_pos (by rw [hN0]; decide)]
  · obtain ⟨μ'', y1, y2, y3, y4⟩ := z6 (by omega)
    refine ⟨μ'', ν', z1.trans ?_, z2, y2, z4, y3, y4⟩
    show (if nI N ≤ 0 then some μ' else (b1 (f_X8_shine (g + 1) a (nI c) x2 (((mI μ' (g + 1) 0) + nI N) - 1) μ') fun m102 => some m102)) = _
    rw [if_neg (nI_nle (by omega) (by omega)), e1, a0, y1, b1_mk]
def sn (x : Int32) (f : Nat → Int32) : Int32 := if x = 0 then f 6 else if x = 1 then thm f else if x = 2 then f 12 else if x = 3 then f 7 else f 5
theorem sn_cg {f g : Nat → Int32} (x : Int32) (h : ∀ k, k < 17 → f k = g k) : sn x f = sn x g := by
  unfold sn
  rw [h 6 (by omega), thm_cg h, h 12 (by omega), h 7 (by omega), h 5 (by omega)]
theorem X10_seen_eq {h c : Nat} {ν : XMem} (L : LM h (mR ν) (mN ν)) (hc : c < 8) (hm : ¬ crw ν h c 3 = 0) (x : Int32) : f_X10_seen h (nI c) x ν = some (sn x (crw ν h c), ν) := by
  unfold f_X10_seen sn
  rw [oC_6 L hc, oC_12 L hc, oC_7 L hc, oC_5 L hc, X10_readOf_eq L hc hm]
  repeat' split
  all_goals rfl
theorem would_all {g h nl c a N now : Nat} {μ ν : XMem} {tx : Nat → List Int32} (F : Fr g μ h ν nl tx) (hc : c < 8) (ha : g + 7 ≤ a) (ha2 : a < g + 63) (hN : N ≤ 100) (hnow : now ≤ 2000) {x2 : Int32} (hl : LwOk nl x2) (hq : ∀ k, k < 17 → mI μ a k = crw ν h c k) (hI : CInv (mI μ a)) (a0 : mI μ (g + 1) 0 = nI now) (v0 : mI ν (h + 1) 0 = nI now) :
    ∃ μ', f_X8_foretell (g + 1) a (nI c) x2 (nI N) μ = some μ' ∧ OnC g a μ μ' ∧ CInv (mI μ' a) ∧ ∀ ν' x, Bk h ν ν' → ∃ ν'', f_X10_would h (nI c) x2 (nI N) x ν' = some (sn x (mI μ' a), ν'') ∧ Bk h ν ν'' := by
  obtain ⟨μ', ν1, z1, z2, z3, z4, z5, z6⟩ := fore_pair F hc ha ha2 hN hnow hl hq hI a0 v0
  refine ⟨μ', z1, z3, z6, fun ν' x b => ?_⟩
  have L' := b.L F.2.1
  obtain ⟨ν2, y1, y2, y3⟩ := saves_eq L' hc
  have b2' := b.trans y3
  obtain ⟨μ3, ν3, t1, t2, t3, t4, t5, t6⟩ := fore_pair (F.bk b2') hc ha ha2 hN hnow hl (fun k hk => by rw [b2'.row]; exact hq k hk) hI a0 (by rw [b2'.1 _ (by omega) (by omega) (by omega)]; exact v0)
  have e : μ3 = μ' := by
    rw [z1] at t1
    exact (Option.some.inj t1).symm
  subst e
  have L3 : LM h (mR ν3) (mN ν3) := t4.L (y3.L L')
  obtain ⟨ν4, w1, w2, -⟩ := brings_eq L' hc (y2.on t4)
  refine ⟨ν4, ?_, b.trans w2⟩
  unfold f_X10_would
  rw [y1, b1_mk, t2, b1_mk, X10_seen_eq L3 hc (by rw [← t5 3 (by omega)]; exact t6.mass), b2_mk, w1, b1_mk, sn_cg x t5]
set_option maxHeartbeats 400000 in
theorem op_foretold {g h : Nat} {μ ν : XMem} (r : Rel g μ h ν) (x1 x2 x3 x4 : Int32) : OpI (f_X9_foretold g x1 x2 x3 x4 μ) (f_X10_foretold h x1 x2 x3 x4 ν) g h := by
  obtain ⟨r1, r2, r3, r4, r5, r6, ⟨now, nc, nl, nh, fl, tx, w⟩, r8⟩ := id r
  obtain ⟨⟨a0, a1, a2, a3, a4⟩, ⟨v0, v1, v2, v3, v4⟩, p1, p2, p3, p4, p5⟩ := id w.1
  unfold f_X9_foretold f_X10_foretold
  simp only [r1.1, fo_mk, X8_cellAt_eq (LCl r1) a1 p2, b2_mk, X10_isCell_eq r2 v1 (show nc < 2 ^ 31 by omega), X9_finding_0 r1, X10_finds_0 r2, X9_isLawOrNone_eq r1 a2 p3 w.2.2.2.has, X10_isLawOrNone_eq r2 v2 (show nl < 2 ^ 31 by omega), X9_within_eq, X10_within_eq]
  cases hv : vx nc x1 with
  | none =>
    simp only [Option.map_none, oc_mn, iS_n, if_true]
    exact .mk (r.find (k := 0) (by decide))
  | some c =>
    obtain ⟨rfl, hc⟩ := vx_some hv
    simp only [Option.map_some, oc_ms, iS_s, one_nz, if_false]
    by_cases hl : x2 = -1 ∨ (vx nl x2).isSome = true
    · simp only [hl, if_true, one_nz, if_false]
      by_cases hw : wi x3 0 100 = 0
      · simp only [hw, if_true]
        exact .mk (r.find (k := 0) (by decide))
      · simp only [hw, if_false]
        by_cases hw2 : wi x4 0 4 = 0
        · simp only [hw2, if_true]
          exact .mk (r.find (k := 0) (by decide))
        · simp only [hw2, if_false]
          obtain ⟨hc8, q1, q2⟩ := w.cell hc
          obtain ⟨N, hN, rfl⟩ := wi_nat (n := 100) rfl hw
          obtain ⟨μ1, t1, t2, t3, t4⟩ := take_eq (g := g) (a := g + 53) (μ := μ) (Or.inl rfl) hc8
          have F := w.fr r1 r2
          obtain ⟨μ2, y1, y2, y3, y4⟩ := would_all (F.ont t2) hc8 (a := g + 53) (by omega) (by omega) hN p1 (LwOk.of hl) (fun k hk => by rw [t3 k hk]; exact q1 k hk) (q2.cg (fun k hk => t3 k (by omega))) (by rw [t4 _ (by omega)]; exact a0) v0
          obtain ⟨ν2, s1, s2⟩ := y4 ν x4 (Bk.refl h ν)
          have R0 : mR μ1 = mR μ := t2.2.2.1
          have R2 : mR μ2 = mR μ := y2.2.2.1.trans R0
          have l7 := r1.2.2.2.2.2.2.1
          simp only [l7, fo_mk, g167, t1, b1_mk, R0, r1.1, y1, R2, s1, b2_mk, X0_thermometer_eq y3.mass]
          have fin := r.trial (t2.on y2 (Or.inl rfl)) s2
          unfold sn
          split
          · exact .mk fin
          · split
            · exact .mk fin
            · split
              · exact .mk fin
              · split
                · exact .mk fin
                · exact .mk fin
    · simp only [hl, if_false, if_true]
      exact .mk (r.find (k := 0) (by decide))

/-! PURE LAYER 39: a text read by both; what is new in the store -/
theorem isText_eq {h n : Nat} {β : Nat → Nat} {ν : XMem} (b : Bs h n β ν) (pd : Int32) : ∃ r ν', f_X10_isText h ν = some (r, ν') ∧ PF h ν ν' ∧ ((r = 0 ∧ ∃ f, f ≤ n ∧ mI ν' h 8 = nI f ∧ cR n β (n + 1) (sk n β 0) 0 [] pd [] = .inl f) ∨
    (¬ r = 0 ∧ ∃ K, cR n β (n + 1) (sk n β 0) 0 [] pd [] = .inr K ∧ mI ν' h 11 = nI K.length ∧ K.length ≤ 100 ∧ (∀ k, k < K.length → mI ν' (h + 7) k = enc (K.getD k 0)) ∧ wfs K 0 = true)) := by
  have h100 := b.2.1.2.2.1
  have p4 : PF h ν (sI (sI (sI (sI ν h 9 0) h 10 0) h 11 0) h 12 0) := (((PF.st (k := 9) ⟨fun _ _ _ => rfl, fun _ _ => rfl, rfl, rfl, rfl⟩ (by omega)).st (by omega)).st (by omega)).st (by omega)
  have b4 := b.pf p4
  obtain ⟨ν2, z1, z2, z3, z4⟩ := next_eq (t := 0) b4.1 b4.2.1 (by omega) (by rw [mI_off (by omega), mI_off (by omega), mI_off (by omega), mI_at]; rfl)
  have s : GS h n β ν ν2 (sk n β 0) 0 [] := by
    refine ⟨p4.nx z2, z3, z4, ?_, ?_, ?_, fun k hk => absurd hk (by simp)⟩
    · rw [z2.2.1 10 (by omega) (by omega), mI_off (by omega), mI_off (by omega), mI_at]; rfl
    · rw [z2.2.1 11 (by omega) (by omega), mI_off (by omega), mI_at]; rfl
    · rw [z2.2.1 12 (by omega) (by omega), mI_at]
  obtain ⟨ν3, y1, y2⟩ := expr_ok b 8 0 (by omega) (by omega) (sk n β 0) [] [] pd ν2 (n + 1) rfl (sk_le (by omega)) s (by simp) (by omega)
  unfold f_X10_isText
  rw [nm_mk, nm_mk, nm_mk, nm_mk, z1, b1_mk, y1, b1_mk]
  rcases y2 with ⟨p', ks, pd', m', g1, g2, g3, g4, g5, g6⟩ | ⟨f, g1, g2, g3⟩
  · have e7 : mI ν3 h 7 = nI n := (b.pf g1.1).2.1.1
    obtain ⟨m', rfl⟩ : ∃ q, m' = q + 1 := ⟨m' - 1, by omega⟩
    rw [if_pos g1.2.2.2.2.2.1, e7, g1.2.1]
    by_cases hp : n ≤ p'
    · obtain rfl : p' = n := by omega
      rw [if_pos (nI_le (Nat.le_refl _) (by omega)), nm_mk, mI_at, if_pos rfl]
      refine ⟨1, _, rfl, g1.1.st (by omega), Or.inr ⟨one_nz, ks, ?_, (mI_off (by omega)).trans g1.2.2.2.2.1, by omega, fun k hk => ?_, ?_⟩⟩
      · rw [g5, cR, if_pos (Nat.le_refl _), if_pos ⟨rfl, rfl⟩]
        rfl
      · rw [mI_ne (by omega)]
        exact g1.2.2.2.2.2.2 k hk
      · have := g6 0 (by omega) []
        rw [List.append_nil] at this
        rw [this]
        rfl
    · rw [if_neg (nI_ge (by omega) (by omega))]
      unfold f_X10_isText_j47
      rw [nm_mk, mI_at, if_neg one_nz]
      exact ⟨0, _, rfl, g1.1.st (by omega), Or.inl ⟨rfl, p', g2, (mI_off (by omega)).trans g1.2.1, by rw [g5, cR_done (by omega)]⟩⟩
  · rw [g2.2.2, if_neg one_nz]
    unfold f_X10_isText_j47
    rw [nm_mk, mI_at, if_neg one_nz]
    exact ⟨0, _, rfl, g2.1.st (by omega), Or.inl ⟨rfl, f, g1, (mI_off (by omega)).trans g2.2.1, g3⟩⟩
/-- a text kept in the reference's rows -/
def KPt (h i : Nat) (K : List Int32) (ν ν' : XMem) : Prop := (∀ q, q ≠ h → q ≠ h + 1 → mI ν' q = mI ν q) ∧ (∀ k, k ≠ 7 → mI ν' h k = mI ν h k) ∧ mI ν' h 7 = 0 ∧ (∀ y, (y < 243 + 102 * i ∨ 345 + 102 * i ≤ y) → mI ν' (h + 1) y = mI ν (h + 1) y) ∧ TM ν' (h + 1) i K ∧ mL ν' = mL ν ∧ mR ν' = mR ν ∧ mN ν' = mN ν
theorem keeps_loop {h i : Nat} {K : List Int32} (hi : i < 8) (hK : K.length ≤ 100) {k : XMem → Option XMem} : ∀ (m fu j : Nat) (ν : XMem), j + m = K.length → m < fu → LM h (mR ν) (mN ν) → mI ν h 11 = nI K.length → (∀ k, k < K.length → mI ν (h + 7) k = enc (K.getD k 0)) →
    ∃ ν', f_X10_keeps_h19 h (nI i) k fu (nI j) ν = k ν' ∧ (∀ q, q ≠ h + 1 → mI ν' q = mI ν q) ∧ (∀ y, mI ν' (h + 1) y = if 244 + 102 * i + j ≤ y ∧ y < 244 + 102 * i + K.length then enc (K.getD (y - (244 + 102 * i)) 0) else mI ν (h + 1) y) ∧ mL ν' = mL ν ∧ mR ν' = mR ν ∧ mN ν' = mN ν := by
  intro m
  induction m with
  | zero =>
    intro fu j ν hj hf L e11 e7
    obtain ⟨fu, rfl⟩ : ∃ q, fu = q + 1 := ⟨fu - 1, by omega⟩
    exact ⟨ν, by rw [f_X10_keeps_h19, e11, if_pos (nI_le (by omega) (by omega))], fun _ _ => rfl, fun y => by rw [if_neg (by omega)], rfl, rfl, rfl⟩
  | succ m ih =>
    intro fu j ν hj hf L e11 e7
    obtain ⟨fu, rfl⟩ : ∃ q, fu = q + 1 := ⟨fu - 1, by omega⟩
    have ix : ((243 : Int32) + 102 * nI i) + 1 + nI j = nI (244 + 102 * i + j) := by
      have q1 : (243 : Int32) + 102 * nI i = nI (243 + 102 * i) := by
        show nI 243 + nI 102 * nI i = _
        rw [pk_mul, nI_add]
      rw [q1, nI_1, nI_add, show 243 + 102 * i + 1 + j = 244 + 102 * i + j by omega]
    obtain ⟨ν', z1, z2, z3, z4, z5, z6⟩ := ih fu (j + 1) (sI ν (h + 1) (244 + 102 * i + j) (enc (K.getD j 0))) (by omega) (by omega) L (by rw [mI_ne (by omega)]; exact e11) (fun k hk => by rw [mI_ne (by omega)]; exact e7 k hk)
    refine ⟨ν', ?_, fun q hq => (z2 q hq).trans (mI_ne hq), fun y => ?_, z4, z5, z6⟩
    · rw [f_X10_keeps_h19, e11, if_neg (nI_ge (by omega) (by omega)), L.1.1, fo_mk, L.1.2.2.2.2.2.2.1, fo_mk, L.2.2.2.2.2.2.2.1, ib_nI (by omega) (by omega), gd_mk, ix, L.2.1, ib_nI (by omega) (by omega), gd_mk, nI_clamp (by omega), nI_clamp (by omega), e7 j (by omega), nm_mk, nm_mk, nI_1]
      exact z1
    · rw [z3 y]
      by_cases hy : y = 244 + 102 * i + j
      · subst hy
        rw [if_neg (by omega), if_pos (by omega), mI_at, show 244 + 102 * i + j - (244 + 102 * i) = j by omega]
      · rw [mI_off hy]
        by_cases h2 : 244 + 102 * i + (j + 1) ≤ y ∧ y < 244 + 102 * i + K.length
        · rw [if_pos h2, if_pos (by omega)]
        · rw [if_neg h2, if_neg (by omega)]
theorem keeps_eq {h i : Nat} {K : List Int32} {ν : XMem} (hi : i < 8) (hK : K.length ≤ 100) (L : LM h (mR ν) (mN ν)) (e11 : mI ν h 11 = nI K.length) (e7 : ∀ k, k < K.length → mI ν (h + 7) k = enc (K.getD k 0)) : ∃ ν', f_X10_keeps h (nI i) ν = some ν' ∧ KPt h i K ν ν' := by
  have q1 : (243 : Int32) + 102 * nI i = nI (243 + 102 * i) := by
    show nI 243 + nI 102 * nI i = _
    rw [pk_mul, nI_add]
  obtain ⟨ν', z1, z2, z3, z4, z5, z6⟩ := keeps_loop hi hK (k := fun m104 => nm (sI m104 h 7 0) fun m105 => some m105) K.length 2000 0 (sI ν (h + 1) (243 + 102 * i) (nI K.length)) (by omega) (by omega) L (by rw [mI_ne (by omega)]; exact e11) (fun k hk => by rw [mI_ne (by omega)]; exact e7 k hk)
  refine ⟨sI ν' h 7 0, ?_, fun q h1 h2 => ?_, fun k hk => ?_, mI_at, fun y hy => ?_, ⟨?_, fun k hk => ?_⟩, z4, z5, z6⟩
  · unfold f_X10_keeps
    rw [L.1.1, fo_mk, q1, L.2.1, ib_nI (by omega) (by omega), gd_mk, nI_clamp (by omega), e11, nm_mk]
    refine z1.trans ?_
    rw [nm_mk]
  · rw [mI_ne h1, z2 q h2, mI_ne h2]
  · rw [mI_off hk, z2 h (by omega), mI_ne (by omega)]
  · rw [mI_ne (by omega), z3 y, if_neg (by omega), mI_off (by omega)]
  · rw [mI_ne (by omega), z3, if_neg (by omega), mI_at]
  · rw [mI_ne (by omega), z3, if_pos (by omega), show 244 + 102 * i + k - (244 + 102 * i) = k by omega]
/-! new cells of the class -/
def WTy (μ : XMem) : Prop := (∀ q, mZ μ ≤ q → mT μ q = none) ∧ (∀ (a k b : Nat) (t : XTy), mT μ a = some t → mR μ a k = some b → xok t k (mT μ b))
theorem WTy.lt {μ : XMem} (wt : WTy μ) {q : Nat} {t : XTy} (h : mT μ q = some t) : q < mZ μ := by
  by_cases hq : q < mZ μ
  · exact hq
  · rw [wt.1 q (by omega)] at h
    cases h
theorem WTy.cg {μ μ' : XMem} (wt : WTy μ) (e1 : mT μ' = mT μ) (e2 : mR μ' = mR μ) (e3 : mZ μ' = mZ μ) : WTy μ' := by
  unfold WTy
  rw [e1, e2, e3]
  exact wt
theorem HT.al {μ μ' : XMem} {lo ta : Nat} {t : List Int32} (r : HT μ lo ta t) (wt : WTy μ) (ht : mT μ ta = some (.inl 6)) (e1 : ∀ q, lo ≤ q → q < mZ μ → mI μ' q = mI μ q) (e2 : ∀ q, lo ≤ q → q < mZ μ → mR μ' q = mR μ q) (e3 : ∀ q, lo ≤ q → q < mZ μ → mN μ' q = mN μ q) : HT μ' lo ta t := by
  obtain ⟨h0, ca, h1, h2, h3, h4⟩ := r
  obtain ⟨n, hn⟩ : ∃ n, mT μ ca = some (.inr (0, n)) := wt.2 ta 0 ca (.inl 6) ht h1
  have c := wt.lt hn
  exact ⟨h0, ca, by rw [e2 _ h0 (wt.lt ht)]; exact h1, h2, by rw [e3 _ h2 c]; exact h3, fun k hk => by rw [e1 _ h2 c]; exact h4 k hk⟩
theorem HO.al {μ μ' : XMem} {lo : Nat} {o : Option Nat} {t : List Int32} (r : HO μ lo o t) (wt : WTy μ) (ht : ∀ ta, o = some ta → mT μ ta = some (.inl 6)) (e1 : ∀ q, lo ≤ q → q < mZ μ → mI μ' q = mI μ q) (e2 : ∀ q, lo ≤ q → q < mZ μ → mR μ' q = mR μ q) (e3 : ∀ q, lo ≤ q → q < mZ μ → mN μ' q = mN μ q) : HO μ' lo o t := by
  cases o with
  | none => exact r
  | some ta => exact ⟨r.1.al wt (ht ta rfl) e1 e2 e3, r.2⟩
theorem law_al {μ μ' : XMem} {A lo i : Nat} {x : Int32} {t : List Int32} (r : ∃ la ta, mR μ (A + 2) i = some la ∧ lo ≤ la ∧ mR μ la 0 = some ta ∧ mI μ la 1 = x ∧ HT μ lo ta t ∧ t ≠ []) (wt : WTy μ) (hA : mT μ A = some (.inl 8)) (h8 : mR μ A 8 = some (A + 2)) (e1 : ∀ q, lo ≤ q → q < mZ μ → mI μ' q = mI μ q) (e2 : ∀ q, lo ≤ q → q < mZ μ → mR μ' q = mR μ q) (e3 : ∀ q, lo ≤ q → q < mZ μ → mN μ' q = mN μ q) (e4 : mR μ' (A + 2) i = mR μ (A + 2) i) :
    ∃ la ta, mR μ' (A + 2) i = some la ∧ lo ≤ la ∧ mR μ' la 0 = some ta ∧ mI μ' la 1 = x ∧ HT μ' lo ta t ∧ t ≠ [] := by
  obtain ⟨la, ta, g1, g2, g3, g4, g5, g6⟩ := r
  obtain ⟨n, hn⟩ : ∃ n, mT μ (A + 2) = some (.inr (4, n)) := wt.2 A 8 (A + 2) (.inl 8) hA h8
  have hl : mT μ la = some (.inl 2) := wt.2 (A + 2) i la (.inr (4, n)) hn g1
  have ht : mT μ ta = some (.inl 6) := wt.2 la 0 ta (.inl 2) hl g3
  exact ⟨la, ta, by rw [e4]; exact g1, g2, by rw [e2 _ g2 (wt.lt hl)]; exact g3, by rw [e1 _ g2 (wt.lt hl)]; exact g4, g5.al wt ht e1 e2 e3, g6⟩
theorem RWt.al {μ μ' ν ν' : XMem} {A lo N nl : Nat} {tx : Nat → List Int32} (r : RWt μ A lo ν N nl tx) (wt : WTy μ) (hA : mT μ A = some (.inl 8)) (h8 : mR μ A 8 = some (A + 2)) (e1 : ∀ q, lo ≤ q → q < mZ μ → mI μ' q = mI μ q) (e2 : ∀ q, lo ≤ q → q < mZ μ → mR μ' q = mR μ q) (e3 : ∀ q, lo ≤ q → q < mZ μ → mN μ' q = mN μ q) (e4 : mR μ' (A + 2) = mR μ (A + 2)) (e5 : mR μ' A = mR μ A)
    (e6 : ∀ k, (5 ≤ k ∧ k < 11) ∨ 243 ≤ k → mI ν' N k = mI ν N k) : RWt μ' A lo ν' N nl tx := by
  obtain ⟨h0, h1, h2, h3, h4⟩ := r
  refine ⟨h0, fun i hi => ?_, by rw [e5]; exact h2.al wt (fun ta h => wt.2 A 5 ta (.inl 8) hA h) e1 e2 e3, by rw [e5]; exact h3.al wt (fun ta h => wt.2 A 6 ta (.inl 8) hA h) e1 e2 e3, fun i hi => ?_⟩
  · rw [e6 _ (by omega)]
    exact law_al (h1 i hi) wt hA h8 e1 e2 e3 (by rw [e4])
  · obtain ⟨⟨g1, g2⟩, g3⟩ := h4 i hi
    exact ⟨⟨by rw [e6 _ (by omega)]; exact g1, fun k hk => by rw [e6 _ (by omega)]; exact g2 k hk⟩, g3⟩
theorem LW.al {R R' : Nat → Nat → Option Nat} {N N' : Nat → Nat} {A : Nat} (L : LW R N A) (e0 : ∀ k, k ≠ 5 → k ≠ 6 → R' A k = R A k) (eR : ∀ q, A < q → q ≠ A + 2 → q < A + 6 → R' q = R q) (eN : ∀ q, A < q → q < A + 6 → N' q = N q) : LW R' N' A := by
  obtain ⟨l7, l8, l9, l10, n1, n2, n3, hc, hh, lw, nw⟩ := L
  exact ⟨by rw [e0 _ (by omega) (by omega)]; exact l7, by rw [e0 _ (by omega) (by omega)]; exact l8, by rw [e0 _ (by omega) (by omega)]; exact l9, by rw [e0 _ (by omega) (by omega)]; exact l10, by rw [eN _ (by omega) (by omega)]; exact n1, by rw [eN _ (by omega) (by omega)]; exact n2, by rw [eN _ (by omega) (by omega)]; exact n3,
    fun i hi => by rw [eR _ (by omega) (by omega) (by omega)]; exact hc i hi, fun i hi => by rw [eR _ (by omega) (by omega) (by omega)]; exact hh i hi, by rw [eR _ (by omega) (by omega) (by omega)]; exact lw, by rw [eN _ (by omega) (by omega)]; exact nw⟩
theorem LC.al {g : Nat} {R R' : Nat → Nat → Option Nat} {N N' : Nat → Nat} (L : LC g R N) (eR : ∀ q, g ≤ q → q < g + 63 → q ≠ g + 1 → q ≠ g + 3 → R' q = R q) (e1 : ∀ k, k ≠ 5 → k ≠ 6 → R' (g + 1) k = R (g + 1) k) (eN : ∀ q, g ≤ q → q < g + 63 → N' q = N q) : LC g R' N' := by
  obtain ⟨a0, a1, a3, a4, a5, a6, a7, a8, wl, wk, t0, t1, q0, q2, q3, m0, m2, m3, n51, n52, hs⟩ := L
  have e : ∀ q, g ≤ q → q < g + 63 → q ≠ g + 1 → q ≠ g + 3 → ∀ k, R' q k = R q k := fun q h1 h2 h3 h4 k => by rw [eR q h1 h2 h3 h4]
  refine ⟨?_, ?_, ?_, ?_, ?_, ?_, ?_, ?_, ?_, ?_, ?_, ?_, ?_, ?_, ?_, ?_, ?_, ?_, ?_, ?_, fun s hs' => ⟨?_, ?_, ?_⟩⟩
  · rw [e _ (by omega) (by omega) (by omega) (by omega)]; exact a0
  · rw [e _ (by omega) (by omega) (by omega) (by omega)]; exact a1
  · rw [e _ (by omega) (by omega) (by omega) (by omega)]; exact a3
  · rw [e _ (by omega) (by omega) (by omega) (by omega)]; exact a4
  · rw [e _ (by omega) (by omega) (by omega) (by omega)]; exact a5
  · rw [e _ (by omega) (by omega) (by omega) (by omega)]; exact a6
  · rw [e _ (by omega) (by omega) (by omega) (by omega)]; exact a7
  · rw [e _ (by omega) (by omega) (by omega) (by omega)]; exact a8
  · exact wl.al e1 (fun q h1 h2 h3 => eR q (by omega) (by omega) (by omega) (by omega)) (fun q h1 h2 => eN q (by omega) (by omega))
  · exact wk.al (fun k _ _ => e _ (by omega) (by omega) (by omega) (by omega) k) (fun q h1 h2 h3 => eR q (by omega) (by omega) (by omega) (by omega)) (fun q h1 h2 => eN q (by omega) (by omega))
  · rw [e _ (by omega) (by omega) (by omega) (by omega)]; exact t0
  · rw [eN _ (by omega) (by omega)]; exact t1
  · rw [e _ (by omega) (by omega) (by omega) (by omega)]; exact q0
  · rw [e _ (by omega) (by omega) (by omega) (by omega)]; exact q2
  · rw [e _ (by omega) (by omega) (by omega) (by omega)]; exact q3
  · rw [eN _ (by omega) (by omega)]; exact m0
  · rw [eN _ (by omega) (by omega)]; exact m2
  · rw [eN _ (by omega) (by omega)]; exact m3
  · rw [eN _ (by omega) (by omega)]; exact n51
  · rw [eN _ (by omega) (by omega)]; exact n52
  · rw [e _ (by omega) (by omega) (by omega) (by omega)]; exact (hs s hs').1
  · rw [e _ (by omega) (by omega) (by omega) (by omega)]; exact (hs s hs').2.1
  · rw [eN _ (by omega) (by omega)]; exact (hs s hs').2.2
set_option maxHeartbeats 400000 in
/-- a text was read, its store is new, the tape is empty; the live world is told -/
theorem Rel.txt {g h : Nat} {μ ν μ' ν' : XMem} (r : Rel g μ h ν) (wt : WTy μ) (tg : mT μ g = some (.inl 9)) (hz : g + 63 ≤ mZ μ)
    (cI : ∀ q, (q < g + 47 ∨ g + 51 ≤ q) → q < mZ μ → q ≠ g + 1 → q ≠ g + 45 → mI μ' q = mI μ q) (c45 : mI μ' (g + 45) 1 = 0) (cL : ∀ q, q < mZ μ → mL μ' q = mL μ q) (cR : ∀ q, q < mZ μ → q ≠ g + 1 → q ≠ g + 3 → mR μ' q = mR μ q) (cR1 : ∀ k, k ≠ 5 → k ≠ 6 → mR μ' (g + 1) k = mR μ (g + 1) k) (cN : ∀ q, q < mZ μ → mN μ' q = mN μ q)
    (fI : ∀ q, q ≠ h → q ≠ h + 1 → q ≠ h + 7 → mI ν' q = mI ν q) (f7 : mI ν' h 7 = 0) (f5 : mI ν' h 5 = mI ν h 5) (fL : mL ν' = mL ν) (fR : mR ν' = mR ν) (fN : mN ν' = mN ν) (w : Rlive g μ' h ν') : Rel g μ' h ν' := by
  obtain ⟨r1, r2, r3, r4, r5, r6, -, r8⟩ := r
  have tk : mT μ (g + 23) = some (.inl 8) := wt.2 g 1 (g + 23) (.inl 9) tg r1.2.1
  refine ⟨r1.al (fun q h1 h2 h3 h4 => cR q (by omega) h3 h4) cR1 (fun q h1 h2 => cN q (by omega)), by rw [fR, fN]; exact r2, r3.cg (cI _ (by omega) (by omega) (by omega) (by omega)) (fI _ (by omega) (by omega) (by omega)), ⟨0, by omega, c45, f7, fun k hk => by omega⟩,
    r5.cg (fun s hs => cI _ (by omega) (by omega) (by omega) (by omega)) (fun s hs => cL _ (by omega)) (fI _ (by omega) (by omega) (by omega)) (fI _ (by omega) (by omega) (by omega)) (by rw [fL]), ?_, w, r8.cg (fI _ (by omega) (by omega) (by omega)) (fI _ (by omega) (by omega) (by omega))⟩
  obtain ⟨k1, k2⟩ := r6
  have e2 : mI μ' g 2 = mI μ g 2 := by rw [cI g (by omega) (by omega) (by omega) (by omega)]
  refine ⟨by rw [e2, f5]; exact k1, ?_⟩
  rw [e2]
  rcases k2 with k2 | ⟨k2, now, nc, nl, nh, fl, tx, w1, w2, w3, w4⟩
  · exact Or.inl k2
  · obtain ⟨-, -, p1, p2, p3, p4, p5⟩ := id w1
    have f2 : mI ν' (h + 2) = mI ν (h + 2) := fI _ (by omega) (by omega) (by omega)
    refine Or.inr ⟨k2, now, nc, nl, nh, fl, tx, w1.cg (cI _ (by omega) (by omega) (by omega) (by omega)) (fun k _ => by rw [f2]), w2.cg p2 (fun c hc => cI _ (by omega) (by omega) (by omega) (by omega)) (fun k _ _ => by rw [f2]), w3.cg p4 (fun c hc => cI _ (by omega) (by omega) (by omega) (by omega)) (fun c hc => cL _ (by omega)) (fun k _ _ => by rw [f2]) (by rw [fL]), ?_⟩
    exact w4.al wt tk (LCk r1).2.1 (fun q h1 h2 => cI q (by omega) h2 (by omega) (by omega)) (fun q h1 h2 => cR q h2 (by omega) (by omega)) (fun q h1 h2 => cN q h2) (cR _ (by omega) (by omega) (by omega)) (cR _ (by omega) (by omega) (by omega)) (fun k _ => by rw [f2])
/-! the class's text -/
theorem text_loop {P C Z Ln : Nat} (hPC : C ≠ Z) (hLn : Ln ≤ 100) {k : XMem → Option (Option Nat × XMem)} : ∀ (m fu j : Nat) (μ : XMem), j + m = Ln → m < fu → mN μ Z = Ln → mR μ P 0 = some C → mN μ C = 100 →
    ∃ μ', f_X3_text_h13 P Z k fu (nI j) μ = k μ' ∧ (∀ q, q ≠ Z → mI μ' q = mI μ q) ∧ (∀ y, mI μ' Z y = if j ≤ y ∧ y < Ln then mI μ C y else mI μ Z y) ∧ mL μ' = mL μ ∧ mR μ' = mR μ ∧ mT μ' = mT μ ∧ mZ μ' = mZ μ := by
  intro m
  induction m with
  | zero =>
    intro fu j μ hj hf e1 e2 e3
    obtain ⟨fu, rfl⟩ : ∃ q, fu = q + 1 := ⟨fu - 1, by omega⟩
    exact ⟨μ, by rw [f_X3_text_h13, e1, if_pos (nI_le (by omega) (by omega))], fun _ _ => rfl, fun y => by rw [if_neg (by omega)], rfl, rfl, rfl, rfl⟩
  | succ m ih =>
    intro fu j μ hj hf e1 e2 e3
    obtain ⟨fu, rfl⟩ : ∃ q, fu = q + 1 := ⟨fu - 1, by omega⟩
    obtain ⟨μ', z1, z2, z3, z4, z5, z6, z7⟩ := ih fu (j + 1) (sI μ Z j (mI μ C j)) (by omega) (by omega) e1 e2 e3
    refine ⟨μ', ?_, fun q hq => (z2 q hq).trans (mI_ne hq), fun y => ?_, z4, z5, z6, z7⟩
    · rw [f_X3_text_h13, e1, if_neg (nI_ge (by omega) (by omega)), e2, fo_mk, e3, if_neg (nI_ge (by omega) (by omega)), fo_mk, e3, ib_nI (by omega) (by omega), gd_mk, ib_nI (by omega) (by omega), gd_mk, nI_clamp (by omega), nm_mk, nm_mk, nI_1]
      exact z1
    · rw [z3 y, mI_ne hPC]
      by_cases hy : y = j
      · subst hy
        rw [if_neg (by omega), if_pos (by omega), mI_at]
      · rw [mI_off hy]
        by_cases h2 : j + 1 ≤ y ∧ y < Ln
        · rw [if_pos h2, if_pos (by omega)]
        · rw [if_neg h2, if_neg (by omega)]
theorem mN_nw (μ : XMem) (t : XTy) (x : Nat) : mN (nw μ t) x = if x = mZ μ then xlen (some t) else mN μ x := by
  unfold mN
  rw [mT_nw]
  split <;> rfl
/-- what a new text leaves -/
def TXn (μ μ' : XMem) (L : Nat) (f : Nat → Int32) : Prop := mZ μ' = mZ μ + 2 ∧ (∀ q, q < mZ μ → mI μ' q = mI μ q ∧ mL μ' q = mL μ q ∧ mR μ' q = mR μ q ∧ mN μ' q = mN μ q) ∧ mR μ' (mZ μ + 1) 0 = some (mZ μ) ∧ mN μ' (mZ μ) = L ∧ (∀ k, k < L → mI μ' (mZ μ) k = f k)
theorem text_eq {P C L : Nat} {μ : XMem} (hP : P < mZ μ) (hC : C < mZ μ) (e1 : mI μ P 1 = nI L) (h0 : 0 < L) (hL : L ≤ 100) (e2 : mR μ P 0 = some C) (e3 : mN μ C = 100) : ∃ μ', f_X3_text P μ = some (some (mZ μ + 1), μ') ∧ TXn μ μ' L (mI μ C) := by
  unfold f_X3_text
  have hn : (if (0 : Int32) < nI L then nI L else 0) = nI L := by
    have : (0 : Int32) < nI L := nI_lt (a := 0) h0 (by omega)
    rw [if_pos this]
  have hs : szb (nI L) = true := by
    unfold szb
    rw [nI_clamp (by omega)]
    simp [nI_pos (show L < 2 ^ 31 by omega), hL]
  rw [e1, hn, nm_mk, hs, gd_mk, nm_mk, nm_mk, nI_clamp (by omega)]
  obtain ⟨μ1, z1, z2, z3, z4, z5, z6, z7⟩ := text_loop (P := P) (C := C) (Z := mZ μ) (Ln := L) (by omega) hL (k := fun m105 => nm (mZ m105) fun b106 => nm (nw m105 (.inl 6)) fun m107 => b1 (f_X6_init b106 (mZ μ) m107) fun m108 => some ((some b106), m108)) L 200 0 (nw μ (.inr (0, L))) (by omega) (by omega) (by rw [mN_nw, if_pos rfl]; rfl) (by rw [mR_nw, if_neg (by omega)]; exact e2) (by rw [mN_nw, if_neg (by omega)]; exact e3)
  have hz1 : mZ μ1 = mZ μ + 1 := by rw [z7, mZ_nw]
  have n1 : ∀ q, mN μ1 q = mN (nw μ (.inr (0, L))) q := fun q => by unfold mN; rw [z6]
  refine ⟨sR (nw μ1 (.inl 6)) (mZ μ1) 0 (some (mZ μ)), z1.trans ?_, ?_, fun q hq => ⟨?_, ?_, ?_, ?_⟩, ?_, ?_, fun k hk => ?_⟩
  · rw [nm_mk, nm_mk]
    unfold f_X6_init
    rw [nm_mk, b1_mk, hz1]
  · rw [mZ_sR, mZ_nw, hz1]
  · funext y
    rw [mI_sR, mI_nw, if_neg (by omega), z2 q (by omega), mI_nw, if_neg (by omega)]
  · funext y
    rw [mL_sR, mL_nw, if_neg (by omega), z4, mL_nw, if_neg (by omega)]
  · funext y
    rw [mR_sR, if_neg (by omega), mR_nw, if_neg (by omega), z5, mR_nw, if_neg (by omega)]
  · rw [mN_sR, mN_nw, if_neg (by omega), n1, mN_nw, if_neg (by omega)]
  · rw [hz1, mR_sR, if_pos rfl, if_pos rfl]
  · rw [mN_sR, mN_nw, if_neg (by omega), n1, mN_nw, if_pos rfl]
    rfl
  · rw [mI_sR, mI_nw, if_neg (by omega), z3, if_pos (by omega), mI_nw, if_neg (by omega)]

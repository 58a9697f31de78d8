/-! PURE LAYER 4: counts, findings, houses that are read, lines -/
theorem Rel.live {g h : Nat} {μ ν μ' ν' : XMem} (r : Rel g μ h ν) (eI : ∀ q, q = g ∨ (g + 23 ≤ q ∧ q ≠ g + 53 ∧ q ≠ g + 54) → mI μ' q = mI μ q) (eL : ∀ q, g + 23 ≤ q → mL μ' q = mL μ q) (eR : mR μ' = mR μ) (eN : mN μ' = mN μ)
    (fI : ∀ q, q ≠ h + 1 → q ≠ h + 10 → q ≠ h + 11 → q ≠ h + 12 → mI ν' q = mI ν q) (fL : ∀ q, q ≠ h + 3 → mL ν' q = mL ν q) (fR : mR ν' = mR ν) (fN : mN ν' = mN ν) (w : Rlive g μ' h ν') : Rel g μ' h ν' := by
  obtain ⟨r1, r2, r3, r4, r5, r6, -, r8⟩ := r
  refine ⟨by rw [eR, eN]; exact r1, by rw [fR, fN]; exact r2, r3.cg (eI _ (by omega)) (fI _ (by omega) (by omega) (by omega) (by omega)), r4.cg (eI _ (by omega)) (eI _ (by omega)) (by rw [fI _ (by omega) (by omega) (by omega) (by omega)]) (fI _ (by omega) (by omega) (by omega) (by omega)), r5.cg (fun s hs => eI _ (by omega)) (fun s hs => eL _ (by omega)) (fI _ (by omega) (by omega) (by omega) (by omega)) (fI _ (by omega) (by omega) (by omega) (by omega)) (fL _ (by omega)),
    r6.cg (by rw [eI _ (by omega)]) (by rw [fI _ (by omega) (by omega) (by omega) (by omega)]) (eI _ (by omega)) (fun c hc => eI _ (by omega)) (fun c hc => eL _ (by omega)) (fun q hq => eI _ (by omega)) eR eN (fI _ (by omega) (by omega) (by omega) (by omega)) (fL _ (by omega)), w, r8.cg (fI _ (by omega) (by omega) (by omega) (by omega)) (fI _ (by omega) (by omega) (by omega) (by omega))⟩
theorem op_wipe {g h : Nat} {μ ν : XMem} (r : Rel g μ h ν) : OpI (f_X9_wipe g μ) (f_X10_wipe h ν) g h := by
  obtain ⟨r1, r2, r3, r4, r5, r6, r7, r8⟩ := id r
  obtain ⟨n, n1, n2, n3, n4⟩ := id r4
  unfold f_X9_wipe f_X10_wipe
  simp only [r1.2.2.1, fo_mk, nm_mk]
  refine .of rfl rfl (n2.trans n3.symm) ⟨r1, r2, r3.cg (mI_ne (by omega)) (mI_ne (by omega)), ⟨0, by omega, by rw [mI_at]; rfl, by rw [mI_at]; rfl, fun k hk => by omega⟩, r5.cg (fun s hs => mI_ne (by omega)) (fun _ _ => rfl) (mI_ne (by omega)) (mI_ne (by omega)) rfl,
    r6.cg (by rw [mI_ne (by omega)]) (by rw [mI_off (by omega)]) (mI_ne (by omega)) (fun c hc => mI_ne (by omega)) (fun _ _ => rfl) (fun q hq => mI_ne (by omega)) rfl rfl (mI_ne (by omega)) rfl,
    r7.cg (mI_ne (by omega)) (fun c hc => mI_ne (by omega)) (fun _ _ => rfl) (fun q hq => mI_ne (by omega)) rfl rfl (mI_ne (by omega)) rfl, r8.cg (mI_ne (by omega)) (mI_ne (by omega))⟩
theorem op_tear {g h : Nat} {μ ν : XMem} (r : Rel g μ h ν) : OpI (f_X9_tear g μ) (f_X10_tear h ν) g h := by
  obtain ⟨r1, r2, r3, r4, r5, r6, r7, r8⟩ := id r
  obtain ⟨k1, k2⟩ := id r6
  have key : Rel g (sI μ g 2 0) h (sI ν h 5 0) := ⟨r1, r2, r3.cg (mI_ne (by omega)) (mI_ne (by omega)), r4.cg (mI_ne (by omega)) (mI_ne (by omega)) (by rw [mI_off (by omega)]) (mI_ne (by omega)), r5.cg (fun s hs => mI_ne (by omega)) (fun _ _ => rfl) (mI_ne (by omega)) (mI_ne (by omega)) rfl, ⟨by rw [mI_at, mI_at], Or.inl mI_at⟩,
    r7.cg (mI_ne (by omega)) (fun c hc => mI_ne (by omega)) (fun _ _ => rfl) (fun q hq => mI_ne (by omega)) rfl rfl (mI_ne (by omega)) rfl, r8.cg (mI_ne (by omega)) (mI_ne (by omega))⟩
  unfold f_X9_tear f_X10_tear
  simp only [nm_mk, ← k1]
  split
  · exact .mk key
  · exact .mk key
theorem X9_isLawOrNone_eq {g nl : Nat} {μ : XMem} (L : LC g (mR μ) (mN μ)) (hn : mI μ (g + 1) 2 = nI nl) (h6 : nl ≤ 6) (ht : ∀ i, i < nl → ∃ la, mR μ (g + 1 + 2) i = some la) (c : Int32) : f_X9_isLawOrNone g c μ = some (if c = -1 ∨ (vx nl c).isSome then 1 else 0, μ) := by
  unfold f_X9_isLawOrNone
  by_cases h : c = -1
  · simp [h]
  · rw [if_neg h, L.1, fo_mk, X8_lawAt_eq (LCl L) hn h6, b2_mk]
    cases hv : vx nl c with
    | none => simp [h, oc_mn]
    | some j =>
      obtain ⟨la, hl⟩ := ht j (vx_some hv).2
      simp [h, hl, oc_ms]
theorem RWt.has {μ ν : XMem} {A lo N nl : Nat} {tx : Nat → List Int32} (r : RWt μ A lo ν N nl tx) : ∀ i, i < nl → ∃ la, mR μ (A + 2) i = some la := by
  intro i hi
  obtain ⟨la, ta, h1, -⟩ := r.2.1 i hi
  exact ⟨la, h1⟩
theorem op_force {g h : Nat} {μ ν : XMem} (r : Rel g μ h ν) (c : Int32) : OpI (f_X9_force g c μ) (f_X10_force h c ν) g h := by
  obtain ⟨r1, r2, r3, r4, r5, r6, ⟨now, nc, nl, nh, fl, tx, w⟩, r8⟩ := id r
  obtain ⟨⟨a0, a1, a2, a3, a4⟩, ⟨b0, b1, b2, b3, b4⟩, p1, p2, p3, p4, p5⟩ := id w.1
  unfold f_X9_force f_X10_force
  have q2 : ib 4 1059 = true := by decide
  have q3 : Int32.toNatClampNeg 4 = 4 := by decide
  simp only [X9_isLawOrNone_eq r1 a2 p3 w.2.2.2.has, X10_isLawOrNone_eq r2 b2 (by omega), b2_mk]
  by_cases hc : c = -1 ∨ (vx nl c).isSome = true
  · simp only [hc, if_true, one_nz, if_false, r1.1, r2.1.1, fo_mk, nm_mk, r2.2.1, q2, q3, gd_mk]
    refine .of rfl rfl (by rw [a4, b4]) ?_
    obtain ⟨fl', f1, f2, f3⟩ : ∃ fl', c = nI fl' - 1 ∧ c + 1 = nI fl' ∧ fl' ≤ nl := by
      rcases hc with rfl | hc
      · exact ⟨0, rfl, rfl, by omega⟩
      · obtain ⟨j, hj⟩ := Option.isSome_iff_exists.mp hc
        obtain ⟨rfl, hj2⟩ := vx_some hj
        exact ⟨j + 1, (nI_pred j).symm, nI_1 j, hj2⟩
    obtain ⟨w1, w2, w3, w4⟩ := w
    refine r.live (fun q hq => mI_ne (by omega)) (fun _ _ => rfl) rfl rfl (fun q q1 _ _ _ => mI_ne q1) (fun _ _ => rfl) rfl rfl ⟨now, nc, nl, nh, fl', tx, ⟨⟨?_, ?_, ?_, ?_, ?_⟩, ⟨?_, ?_, ?_, ?_, ?_⟩, p1, p2, p3, p4, f3⟩, ?_, ?_, ?_⟩
    · rw [mI_off (by omega)]; exact a0
    · rw [mI_off (by omega)]; exact a1
    · rw [mI_off (by omega)]; exact a2
    · rw [mI_off (by omega)]; exact a3
    · rw [mI_at]; exact f1
    · rw [mI_off (by omega)]; exact b0
    · rw [mI_off (by omega)]; exact b1
    · rw [mI_off (by omega)]; exact b2
    · rw [mI_off (by omega)]; exact b3
    · rw [mI_at]; exact f2
    · exact w2.cg p2 (fun q hq => mI_ne (by omega)) (fun q _ _ => mI_off (by omega))
    · exact w3.cg p4 (fun q hq => mI_ne (by omega)) (fun _ _ => rfl) (fun q _ _ => mI_off (by omega)) rfl
    · exact w4.cg (fun q hq => mI_ne (by omega)) (fun _ _ => rfl) (fun _ _ => rfl) rfl rfl (fun q hq => mI_off (by omega))
  · simp only [hc, if_false, if_true, X9_finding_0 r1, X10_finds_0 r2, b2_mk]
    exact .mk (r.find (by decide))
/-! status -/
def stL (F : Nat → Int32) (x : Int32) : Nat → Nat → Int32 → Int32
  | 0, _, acc => acc
  | m + 1, i, acc => stL F x m (i + 1) (if x = -1 ∨ x = nI i then acc + F i else acc)
theorem X9_status_loop {g : Nat} {μ : XMem} (L : LC g (mR μ) (mN μ)) {x : Int32} {k : Int32 → XMem → Option (Int32 × XMem)} : ∀ (m n i : Nat) (acc : Int32), i + m = 7 → m < n → f_X9_status_h20 g x k n acc (nI i) μ = k (stL (mI μ (g + 52)) x m i acc) μ := by
  obtain ⟨l0, l1, l3, l4, l5, l6, l7, l8, -, -, -, -, -, -, -, -, -, -, n51, n52, hs⟩ := L
  intro m
  induction m with
  | zero =>
    intro n i acc hi hn
    obtain ⟨n, rfl⟩ : ∃ q, n = q + 1 := ⟨n - 1, by omega⟩
    rw [f_X9_status_h20, l6, fo_mk, n52, if_pos (nI_le (by omega) (by omega))]
    rfl
  | succ m ih =>
    intro n i acc hi hn
    obtain ⟨n, rfl⟩ : ∃ q, n = q + 1 := ⟨n - 1, by omega⟩
    have hc : ¬ nI 7 ≤ nI i := nI_ge (by omega) (by omega)
    rw [f_X9_status_h20, l6, fo_mk, n52, if_neg hc]
    simp only [fo_mk, n52, ib_nI (show i < 7 by omega) (by omega), gd_mk, nm_mk, nI_clamp (show i < 2 ^ 31 by omega), nI_1]
    by_cases h1 : x = -1
    · simp only [h1, if_true]
      rw [← h1, ih n (i + 1) _ (by omega) (by omega)]
      simp [stL, h1]
    · by_cases h2 : x = nI i
      · simp only [h1, if_false, h2, if_true]
        rw [← h2, ih n (i + 1) _ (by omega) (by omega)]
        simp [stL, h2]
      · simp only [h1, h2, if_false]
        rw [ih n (i + 1) _ (by omega) (by omega)]
        simp [stL, h1, h2]
theorem X10_status_loop {h : Nat} {ν : XMem} (L : LM h (mR ν) (mN ν)) {x : Int32} (hx : x < 0 ↔ x = -1) {k : Int32 → XMem → Option (Int32 × XMem)} : ∀ (m n i : Nat) (acc : Int32), i + m = 7 → m < n → f_X10_status_h21 h x k n acc (nI i) ν = k (stL (mI ν (h + 5)) x m i acc) ν := by
  obtain ⟨⟨l0, l1, l2, l3, l4, -⟩, n1, n2, n3, n4, n5, -⟩ := L
  intro m
  induction m with
  | zero =>
    intro n i acc hi hn
    obtain ⟨n, rfl⟩ : ∃ q, n = q + 1 := ⟨n - 1, by omega⟩
    have hc : (7 : Int32) ≤ nI i := nI_le (a := 7) (b := i) (by omega) (by omega)
    rw [f_X10_status_h21, if_pos hc]
    rfl
  | succ m ih =>
    intro n i acc hi hn
    obtain ⟨n, rfl⟩ : ∃ q, n = q + 1 := ⟨n - 1, by omega⟩
    have hc : ¬ 7 ≤ nI i := nI_ge (b := 7) (by omega) (by omega)
    rw [f_X10_status_h21, if_neg hc]
    simp only [l4, fo_mk, n5, ib_nI (show i < 7 by omega) (by omega), gd_mk, nm_mk, nI_clamp (show i < 2 ^ 31 by omega), nI_1, hx, Int32.add_zero]
    by_cases h1 : x = -1
    · simp only [h1, if_true]
      rw [← h1, ih n (i + 1) _ (by omega) (by omega)]
      simp [stL, h1]
    · by_cases h2 : x = nI i
      · simp only [h1, if_false, h2, if_true]
        rw [← h2, ih n (i + 1) _ (by omega) (by omega)]
        simp [stL, h2]
      · simp only [h1, h2, if_false]
        rw [ih n (i + 1) _ (by omega) (by omega)]
        simp [stL, h1, h2]
theorem stL_cg {F G : Nat → Int32} {x : Int32} : ∀ (m i : Nat) (acc : Int32), (∀ k, i ≤ k → k < i + m → F k = G k) → stL F x m i acc = stL G x m i acc := by
  intro m
  induction m with
  | zero => intros; rfl
  | succ m ih =>
    intro i acc h
    show stL F x m (i + 1) _ = stL G x m (i + 1) _
    rw [h i (by omega) (by omega)]
    exact ih (i + 1) _ (fun k k1 k2 => h k (by omega) (by omega))
theorem op_status {g h : Nat} {μ ν : XMem} (r : Rel g μ h ν) (x : Int32) : OpI (f_X9_status g x μ) (f_X10_status h x ν) g h := by
  obtain ⟨r1, r2, r3, r4, r5, r6, r7, r8⟩ := id r
  unfold f_X9_status f_X10_status
  simp only [X9_within_eq, X10_within_eq, b2_mk]
  by_cases hw : wi x (-1) 6 = 0
  · simp only [hw, if_true, X9_finding_0 r1, X10_finds_0 r2, b2_mk]
    exact .mk (r.find (by decide))
  · simp only [hw, if_false]
    obtain ⟨v1, v2⟩ := wi_n hw
    have hx : x < 0 ↔ x = -1 := by
      have em : (-1 : Int32).toInt = -1 := rfl
      constructor
      · intro q
        rw [lt_iff] at q
        rw [le_iff] at v1
        exact Int32.toInt_inj.mp (by rw [em]; rw [em] at v1; rw [z_int] at q; omega)
      · intro q; subst q; decide
    have e1 := X9_status_loop r1 (x := x) (k := fun x104 m103 => some (x104, m103)) 7 2000 0 0 (by omega) (by omega)
    have e2 := X10_status_loop r2 hx (k := fun x104 m103 => some (x104, m103)) 7 2000 0 0 (by omega) (by omega)
    refine .of e1 e2 (stL_cg _ _ _ fun k _ hk => r3 k (by omega)) r
/-! houses -/
def hrw (ν : XMem) (h j : Nat) : Nat → Int32 := fun k => mI ν (h + 1) (147 + 12 * j + k)
theorem oH_0 {h : Nat} {ν : XMem} (L : LM h (mR ν) (mN ν)) {j : Nat} (hj : j < 8) : f_X10_ofHouse h (nI j) 0 ν = some (hrw ν h j 0, ν) := ofH_0 L hj
theorem oH_1 {h : Nat} {ν : XMem} (L : LM h (mR ν) (mN ν)) {j : Nat} (hj : j < 8) : f_X10_ofHouse h (nI j) 1 ν = some (hrw ν h j 1, ν) := ofH_1 L hj
theorem oH_2 {h : Nat} {ν : XMem} (L : LM h (mR ν) (mN ν)) {j : Nat} (hj : j < 8) : f_X10_ofHouse h (nI j) 2 ν = some (hrw ν h j 2, ν) := ofH_2 L hj
theorem oH_3 {h : Nat} {ν : XMem} (L : LM h (mR ν) (mN ν)) {j : Nat} (hj : j < 8) : f_X10_ofHouse h (nI j) 3 ν = some (hrw ν h j 3, ν) := ofH_3 L hj
theorem oH_4 {h : Nat} {ν : XMem} (L : LM h (mR ν) (mN ν)) {j : Nat} (hj : j < 8) : f_X10_ofHouse h (nI j) 4 ν = some (hrw ν h j 4, ν) := ofH_4 L hj
theorem oH_5 {h : Nat} {ν : XMem} (L : LM h (mR ν) (mN ν)) {j : Nat} (hj : j < 8) : f_X10_ofHouse h (nI j) 5 ν = some (hrw ν h j 5, ν) := ofH_5 L hj
theorem oH_6 {h : Nat} {ν : XMem} (L : LM h (mR ν) (mN ν)) {j : Nat} (hj : j < 8) : f_X10_ofHouse h (nI j) 6 ν = some (hrw ν h j 6, ν) := ofH_6 L hj
theorem oH_7 {h : Nat} {ν : XMem} (L : LM h (mR ν) (mN ν)) {j : Nat} (hj : j < 8) : f_X10_ofHouse h (nI j) 7 ν = some (hrw ν h j 7, ν) := ofH_7 L hj
theorem oH_8 {h : Nat} {ν : XMem} (L : LM h (mR ν) (mN ν)) {j : Nat} (hj : j < 8) : f_X10_ofHouse h (nI j) 8 ν = some (hrw ν h j 8, ν) := ofH_8 L hj
theorem oH_9 {h : Nat} {ν : XMem} (L : LM h (mR ν) (mN ν)) {j : Nat} (hj : j < 8) : f_X10_ofHouse h (nI j) 9 ν = some (hrw ν h j 9, ν) := ofH_9 L hj
theorem oH_10 {h : Nat} {ν : XMem} (L : LM h (mR ν) (mN ν)) {j : Nat} (hj : j < 8) : f_X10_ofHouse h (nI j) 10 ν = some (hrw ν h j 10, ν) := ofH_10 L hj
theorem oH_11 {h : Nat} {ν : XMem} (L : LM h (mR ν) (mN ν)) {j : Nat} (hj : j < 8) : f_X10_ofHouse h (nI j) 11 ν = some (hrw ν h j 11, ν) := ofH_11 L hj
theorem RW.house {g h : Nat} {μ ν : XMem} {now nc nl nh fl : Nat} {tx : Nat → List Int32} (w : RW μ (g + 1) (g + 63) ν (h + 1) (h + 3) now nc nl nh fl tx) {j : Nat} (hj : j < nh) : j < 8 ∧ (∀ k, k < 6 → mI μ (g + 15 + j) k = hrw ν h j k) ∧ (∀ k, k < 6 → mI μ (g + 15 + j) (8 + k) = hrw ν h j (6 + k)) ∧ mL μ (g + 15 + j) 6 = mL ν (h + 3) (2 * j) ∧ mL μ (g + 15 + j) 7 = mL ν (h + 3) (2 * j + 1) ∧ HInv (mI μ (g + 15 + j)) (mL μ (g + 15 + j)) now nc := by
  obtain ⟨-, -, p1, p2, p3, p4, p5⟩ := w.1
  have q := w.2.2.1 j hj
  rw [g1614] at q
  exact ⟨by omega, q⟩
theorem Rel.setH {g h : Nat} {μ ν : XMem} (r : Rel g μ h ν) {now nc nl nh fl : Nat} {tx : Nat → List Int32} (w : RW μ (g + 1) (g + 63) ν (h + 1) (h + 3) now nc nl nh fl tx) {j kc km : Nat} (hj : j < nh) (hk : (kc < 6 ∧ km = kc) ∨ (8 ≤ kc ∧ kc < 14 ∧ km = kc - 2)) {v : Int32} (hi : HInv (uf (mI μ (g + 15 + j)) kc v) (mL μ (g + 15 + j)) now nc) : RW (sI μ (g + 15 + j) kc v) (g + 1) (g + 63) (sI ν (h + 1) (147 + 12 * j + km) v) (h + 1) (h + 3) now nc nl nh fl tx ∧ Rel g (sI μ (g + 15 + j) kc v) h (sI ν (h + 1) (147 + 12 * j + km) v) := by
  obtain ⟨w1, w2, w3, w4⟩ := w
  obtain ⟨-, -, p1, p2, p3, p4, p5⟩ := id w1
  have key : RW (sI μ (g + 15 + j) kc v) (g + 1) (g + 63) (sI ν (h + 1) (147 + 12 * j + km) v) (h + 1) (h + 3) now nc nl nh fl tx := by
    refine ⟨w1.cg (mI_ne (by omega)) (fun q hq => mI_off (by omega)), w2.cg p2 (fun q hq => mI_ne (by omega)) (fun q _ _ => mI_off (by omega)), ?_, w4.cg (fun q hq => mI_ne (by omega)) (fun _ _ => rfl) (fun _ _ => rfl) rfl rfl (fun q hq => mI_off (by omega))⟩
    intro c hc
    have w3c := w3 c hc
    rw [g1614] at w3c ⊢
    by_cases e : c = j
    · subst e
      rw [mI_self]
      obtain ⟨y1, y2, y3, y4, y5⟩ := w3c
      refine ⟨fun q hq => ?_, fun q hq => ?_, y3, y4, hi⟩
      · by_cases e2 : q = kc
        · subst e2
          rw [uf_at, show km = q by omega, mI_at]
        · rw [uf_ne e2, mI_off (by omega)]
          exact y1 q hq
      · by_cases e2 : 8 + q = kc
        · rw [e2, uf_at, show 6 + q = km by omega, mI_at]
        · rw [uf_ne e2, mI_off (by omega)]
          exact y2 q hq
    · rw [mI_ne (by omega)]
      obtain ⟨y1, y2, y3, y4, y5⟩ := w3c
      exact ⟨fun q hq => by rw [mI_off (by omega)]; exact y1 q hq, fun q hq => by rw [mI_off (by omega)]; exact y2 q hq, y3, y4, y5⟩
  exact ⟨key, r.live (fun q hq => mI_ne (by omega)) (fun _ _ => rfl) rfl rfl (fun q q1 _ _ _ => mI_ne q1) (fun _ _ => rfl) rfl rfl ⟨now, nc, nl, nh, fl, tx, key⟩⟩
theorem HInv.free {f : Nat → Int32} {b : Nat → Int64} {now nc k : Nat} {v : Int32} (h : HInv f b now nc) (hk : k = 4 ∨ k = 9 ∨ k = 10 ∨ k = 11 ∨ k = 13) : HInv (uf f k v) b now nc := by
  obtain ⟨u, h0, h1, h2, h3, h5, h8, h12, hr⟩ := h
  exact ⟨u, by rw [uf_ne (by omega)]; exact h0, by rw [uf_ne (by omega)]; exact h1, by rw [uf_ne (by omega)]; exact h2, by rw [uf_ne (by omega)]; exact h3, by rw [uf_ne (by omega)]; exact h5, by rw [uf_ne (by omega)]; exact h8, by rw [uf_ne (by omega)]; exact h12, hr⟩
theorem HInv.shown {f : Nat → Int32} {b : Nat → Int64} {now nc : Nat} (h : HInv f b now nc) : HInv (uf f 12 1) b now nc := by
  obtain ⟨u, h0, h1, h2, h3, h5, h8, h12, hr⟩ := h
  refine ⟨uf u 12 1, by rw [uf_ne (by omega), uf_ne (by omega)]; exact h0, by rw [uf_ne (by omega), uf_ne (by omega)]; exact h1, by rw [uf_ne (by omega), uf_ne (by omega)]; exact h2, by rw [uf_ne (by omega), uf_ne (by omega)]; exact h3, by rw [uf_ne (by omega), uf_ne (by omega)]; exact h5, by rw [uf_ne (by omega), uf_ne (by omega)]; exact h8, by rw [uf_at, uf_at]; rfl, ?_⟩
  simp only [uf_at, uf_ne (show (0 : Nat) ≠ 12 by omega), uf_ne (show (1 : Nat) ≠ 12 by omega), uf_ne (show (2 : Nat) ≠ 12 by omega), uf_ne (show (3 : Nat) ≠ 12 by omega), uf_ne (show (5 : Nat) ≠ 12 by omega), uf_ne (show (8 : Nat) ≠ 12 by omega)]
  omega
theorem op_moved {g h : Nat} {μ ν : XMem} (r : Rel g μ h ν) (c : Int32) : OpI (f_X9_moved g c μ) (f_X10_moved h c ν) g h := by
  obtain ⟨r1, r2, r3, r4, r5, r6, ⟨now, nc, nl, nh, fl, tx, w⟩, r8⟩ := id r
  obtain ⟨⟨a0, a1, a2, a3, a4⟩, ⟨b0, b1, b2, b3, b4⟩, p1, p2, p3, p4, p5⟩ := id w.1
  unfold f_X9_moved f_X10_moved
  simp only [r1.1, fo_mk, X8_houseAt_eq (LCl r1) a3 p4, b2_mk, X10_isHouse_eq r2 b3 (by omega)]
  cases hv : vx nh c with
  | none =>
    simp only [Option.map_none, oc_mn, X9_finding_0 r1, X10_finds_0 r2, b2_mk, iS_n, if_true]
    exact .mk (r.find (by decide))
  | some j =>
    obtain ⟨rfl, hj⟩ := vx_some hv
    obtain ⟨hj8, q1, q2, q3, q4, q5⟩ := w.house hj
    simp only [Option.map_some, oc_ms, iS_s, one_nz, if_false, g1614, oH_11 r2 hj8, b2_mk]
    exact .of rfl rfl (q2 5 (by decide)) r
theorem op_show {g h : Nat} {μ ν : XMem} (r : Rel g μ h ν) (c : Int32) : OpI (f_X9_show g c μ) (f_X10_show h c ν) g h := by
  obtain ⟨r1, r2, r3, r4, r5, r6, ⟨now, nc, nl, nh, fl, tx, w⟩, r8⟩ := id r
  obtain ⟨⟨a0, a1, a2, a3, a4⟩, ⟨b0, b1, b2, b3, b4⟩, p1, p2, p3, p4, p5⟩ := id w.1
  unfold f_X9_show f_X10_show
  simp only [r1.1, fo_mk, X8_houseAt_eq (LCl r1) a3 p4, b2_mk, X10_isHouse_eq r2 b3 (by omega)]
  cases hv : vx nh c with
  | none =>
    simp only [Option.map_none, oc_mn, X9_finding_0 r1, X10_finds_0 r2, b2_mk, iS_n, if_true]
    exact .mk (r.find (by decide))
  | some j =>
    obtain ⟨rfl, hj⟩ := vx_some hv
    obtain ⟨hj8, q1, q2, q3, q4, q5⟩ := w.house hj
    simp only [Option.map_some, oc_ms, iS_s, one_nz, if_false, g1614, nm_mk, setH_10 r2 hj8, b1_mk, ofH_9 (ν := sI ν _ _ _) r2 hj8, b2_mk]
    rw [mI_off (show 11 ≠ 12 by omega), mI_off (show 147 + 12 * j + 9 ≠ 147 + 12 * j + 10 by omega)]
    exact .of rfl rfl (q2 3 (by decide)) (r.setH w hj (Or.inr ⟨by omega, by omega, by omega⟩) q5.shown).2
set_option maxHeartbeats 1000000 in
theorem op_line {g h : Nat} {μ ν : XMem} (r : Rel g μ h ν) (c v : Int32) : OpI (f_X9_line g c v μ) (f_X10_line h c v ν) g h := by
  obtain ⟨r1, r2, r3, r4, r5, r6, ⟨now, nc, nl, nh, fl, tx, w⟩, r8⟩ := id r
  obtain ⟨⟨a0, a1, a2, a3, a4⟩, ⟨b0, b1, b2, b3, b4⟩, p1, p2, p3, p4, p5⟩ := id w.1
  unfold f_X9_line f_X10_line
  simp only [r1.1, fo_mk, X8_houseAt_eq (LCl r1) a3 p4, b2_mk, X10_isHouse_eq r2 b3 (by omega), X9_within_eq, X10_within_eq]
  cases hv : vx nh c with
  | none =>
    simp only [Option.map_none, oc_mn, X9_finding_0 r1, X10_finds_0 r2, b2_mk, iS_n, if_true]
    exact .mk (r.find (by decide))
  | some j =>
    obtain ⟨rfl, hj⟩ := vx_some hv
    obtain ⟨hj8, q1, q2, q3, q4, q5⟩ := w.house hj
    simp only [Option.map_some, oc_ms, iS_s, one_nz, if_false, g1614]
    by_cases hw : wi v 0 999 = 0
    · simp only [hw, if_true, X9_finding_0 r1, X10_finds_0 r2, b2_mk]
      exact .mk (r.find (by decide))
    · have e9 : mI μ (g + 15 + j) 11 = hrw ν h j 9 := q2 3 (by decide)
      have e10 : mI μ (g + 15 + j) 12 = hrw ν h j 10 := q2 4 (by decide)
      have e11 : mI μ (g + 15 + j) 13 = hrw ν h j 11 := q2 5 (by decide)
      simp only [hw, if_false, nm_mk, oH_9 r2 hj8, oH_10 r2 hj8, oH_11 r2 hj8, b2_mk, e9, e10, e11, Int32.add_zero]
      have hid : sI ν (h + 1) (147 + 12 * j + 11) (hrw ν h j 11) = ν := by
        have : u2 ν.1 (h + 1) (147 + 12 * j + 11) (hrw ν h j 11) = ν.1 := by
          funext x y
          simp only [u2]
          split
          · split
            · subst_vars; rfl
            · rfl
          · rfl
        show (u2 ν.1 _ _ _, ν.2) = ν
        rw [this]
      have base := (r.setH (v := v) w hj (kc := 11) (km := 9) (Or.inr ⟨by omega, by omega, by omega⟩) (q5.free (by omega))).2
      obtain ⟨u, -, -, -, -, -, -, h12, hu⟩ := id q5
      have hsh : hrw ν h j 10 = nI (u 12) := by rw [← e10]; exact h12
      by_cases h0 : hrw ν h j 10 = 0
      · have h1 : ¬ hrw ν h j 10 = 1 := by rw [h0]; decide
        simp only [h0, h1, if_true, if_false, setH_11 r2 hj8, b1_mk, setH_9 (ν := sI ν _ _ _) r2 hj8]
        rw [if_neg (by decide), hid]
        exact .mk base
      · have h1 : hrw ν h j 10 = 1 := by
          rw [hsh] at h0 ⊢
          have : u 12 = 1 := by
            have := hu.2.2.2.2.2.2.1
            rcases Nat.lt_or_ge (u 12) 1 with q | q
            · exact absurd (by rw [show u 12 = 0 by omega]; rfl) h0
            · omega
          rw [this]; rfl
        simp only [h0, h1, if_true, if_false]
        by_cases hvw : v = hrw ν h j 9
        · simp only [hvw, if_true, one_nz, if_false, setH_11 r2 hj8, b1_mk, setH_9 (ν := sI ν _ _ _) r2 hj8]
          rw [hid, ← hvw]
          exact .mk base
        · simp only [hvw, one_nz, if_false, setH_11 r2 hj8, b1_mk, setH_9 (ν := sI ν _ _ _) r2 hj8]
          have s1 := r.setH (v := hrw ν h j 11 + 1) w hj (kc := 13) (km := 11) (Or.inr ⟨by omega, by omega, by omega⟩) (q5.free (by omega))
          have q5' := (s1.1.house hj).2.2.2.2.2
          exact .mk (s1.2.setH (v := v) s1.1 hj (kc := 11) (km := 9) (Or.inr ⟨by omega, by omega, by omega⟩) (q5'.free (by omega))).2

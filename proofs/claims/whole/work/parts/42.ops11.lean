/-! PURE LAYER 12: image, undo -/
theorem X8_take_eq {A B nc nl nh : Nat} {μ : XMem} (hAB : A + 22 ≤ B ∨ B + 22 ≤ A) (LA : LW (mR μ) (mN μ) A) (LB : LW (mR μ) (mN μ) B) (h1 : mI μ B 1 = nI nc) (h2 : mI μ B 2 = nI nl) (h3 : mI μ B 3 = nI nh) (c8 : nc ≤ 8) (l6 : nl ≤ 6) (n8 : nh ≤ 8) (hz : ∀ c, c < nh → mI μ (B + 14 + c) 12 = 0 ∨ mI μ (B + 14 + c) 12 = 1) :
    ∃ μ', f_X8_take A B μ = some μ' ∧ (∀ k, k < 5 → mI μ' A k = mI μ B k) ∧ (∀ c y, c < nc → y < 17 → mI μ' (A + 6 + c) y = mI μ (B + 6 + c) y) ∧ (∀ c y, c < nh → (y < 6 ∨ (8 ≤ y ∧ y < 14)) → mI μ' (A + 14 + c) y = mI μ (B + 14 + c) y) ∧ (∀ c y, c < nh → (y = 6 ∨ y = 7) → mL μ' (A + 14 + c) y = mL μ (B + 14 + c) y) ∧
      (mR μ' A 5 = mR μ B 5 ∧ mR μ' A 6 = mR μ B 6) ∧ (∀ i, i < nl → mR μ' (A + 2) i = mR μ (B + 2) i) ∧ (∀ q, q ≠ A → (q < A + 6 ∨ A + 22 ≤ q) → mI μ' q = mI μ q) ∧ (∀ q, (q < A + 6 ∨ A + 22 ≤ q) → mL μ' q = mL μ q) ∧ (∀ q, q ≠ A → q ≠ A + 2 → mR μ' q = mR μ q) ∧ (∀ k, k ≠ 5 → k ≠ 6 → mR μ' A k = mR μ A k) ∧ mN μ' = mN μ := by
  have hne : B ≠ A := by omega
  obtain ⟨μ1, e1⟩ : ∃ μ1, μ1 = sI (sI (sI (sI (sI μ A 0 (mI μ B 0)) A 1 (mI μ B 1)) A 2 (mI μ B 2)) A 3 (mI μ B 3)) A 4 (mI μ B 4) := ⟨_, rfl⟩
  obtain ⟨μ2, e2⟩ : ∃ μ2, μ2 = sR (sR μ1 A 5 (mR μ B 5)) A 6 (mR μ B 6) := ⟨_, rfl⟩
  have i1 : ∀ q y, mI μ1 q y = if q = A ∧ y < 5 then mI μ B y else mI μ q y := by
    intro q y
    rw [e1]
    simp only [mI_sI]
    by_cases hq : q = A
    · subst hq
      by_cases hy : y < 5
      · rcases (show y = 0 ∨ y = 1 ∨ y = 2 ∨ y = 3 ∨ y = 4 by omega) with rfl | rfl | rfl | rfl | rfl <;> simp
      · have y0 : y ≠ 0 := by omega
        have y1 : y ≠ 1 := by omega
        have y2 : y ≠ 2 := by omega
        have y3 : y ≠ 3 := by omega
        have y4 : y ≠ 4 := by omega
        simp [y0, y1, y2, y3, y4, hy]
    · simp [hq]
  have r1 : mR μ1 = mR μ := by rw [e1]; rfl
  have l1 : mL μ1 = mL μ := by rw [e1]; rfl
  have n1 : mN μ1 = mN μ := by rw [e1]; rfl
  have i2 : mI μ2 = mI μ1 := by rw [e2]; rfl
  have l2 : mL μ2 = mL μ1 := by rw [e2]; rfl
  have n2 : mN μ2 = mN μ1 := by rw [e2]; rfl
  have r2 : ∀ q y, mR μ2 q y = if q = A ∧ (y = 5 ∨ y = 6) then mR μ B y else mR μ q y := by
    intro q y
    rw [e2]
    simp only [mR_sR]
    rw [r1]
    by_cases hq : q = A
    · rw [if_pos hq, if_pos hq]
      by_cases h6 : y = 6
      · rw [if_pos h6, if_pos (by omega), h6]
      · rw [if_neg h6]
        by_cases h5 : y = 5
        · rw [if_pos h5, if_pos (by omega), h5]
        · rw [if_neg h5, if_neg (by omega)]
    · rw [if_neg hq, if_neg hq, if_neg (by omega)]
  have LA2 : LW (mR μ2) (mN μ2) A := by
    have := (LA.st (a := A) (k := 5) (v := mR μ B 5) (by omega)).st (μ := sR μ A 5 (mR μ B 5)) (a := A) (k := 6) (v := mR μ B 6) (by omega)
    rw [e2, e1]
    exact this
  have LB2 : LW (mR μ2) (mN μ2) B := by
    have := (LB.st (a := A) (k := 5) (v := mR μ B 5) (by omega)).st (μ := sR μ A 5 (mR μ B 5)) (a := A) (k := 6) (v := mR μ B 6) (by omega)
    rw [e2, e1]
    exact this
  obtain ⟨μ3, f3, c3, o3, l3, r3, n3⟩ := X8_take_cells hAB c8 (k := fun m110 => f_X8_take_h102 A B (fun m111 => f_X8_take_j136 A B m111) 2000 0 m110) nc 2000 0 μ2 LA2 LB2 (by rw [i2, i1, if_pos ⟨rfl, by omega⟩]; exact h1) (by rw [i2, i1, if_neg (by omega)]; exact h1) (by omega) (by omega)
  have hb3 : ∀ y, mI μ3 B y = mI μ B y := fun y => by rw [o3 B (fun c _ _ => by omega), i2, i1, if_neg (by omega)]
  have ha3 : ∀ y, y < 5 → mI μ3 A y = mI μ B y := fun y hy => by rw [o3 A (fun c _ _ => by omega), i2, i1, if_pos ⟨rfl, hy⟩]
  obtain ⟨μ4, f4, c4, o4, i4, l4, n4, -⟩ := X8_take_laws hAB l6 (k := fun m111 => f_X8_take_j136 A B m111) nl 2000 0 μ3 (by rw [r3, n3]; exact LA2) (by rw [r3, n3]; exact LB2) (by rw [ha3 2 (by omega)]; exact h2) (by rw [hb3]; exact h2) (by omega) (by omega)
  have LA4 : LW (mR μ4) (mN μ4) A := by
    obtain ⟨a7, a8, a9, a10, m1, m2, m3, hc, hh, lw, nw⟩ := (show LW (mR μ3) (mN μ3) A by rw [r3, n3]; exact LA2)
    rw [n4]
    exact ⟨by rw [o4 A (by omega)]; exact a7, by rw [o4 A (by omega)]; exact a8, by rw [o4 A (by omega)]; exact a9, by rw [o4 A (by omega)]; exact a10, m1, m2, m3, fun i hi => by rw [o4 _ (by omega)]; exact hc i hi, fun i hi => by rw [o4 _ (by omega)]; exact hh i hi, by rw [o4 _ (by omega)]; exact lw, nw⟩
  have LB4 : LW (mR μ4) (mN μ4) B := by
    obtain ⟨a7, a8, a9, a10, m1, m2, m3, hc, hh, lw, nw⟩ := (show LW (mR μ3) (mN μ3) B by rw [r3, n3]; exact LB2)
    rw [n4]
    exact ⟨by rw [o4 B (by omega)]; exact a7, by rw [o4 B (by omega)]; exact a8, by rw [o4 B (by omega)]; exact a9, by rw [o4 B (by omega)]; exact a10, m1, m2, m3, fun i hi => by rw [o4 _ (by omega)]; exact hc i hi, fun i hi => by rw [o4 _ (by omega)]; exact hh i hi, by rw [o4 _ (by omega)]; exact lw, nw⟩
  have b14 : ∀ c y, mI μ4 (B + 14 + c) y = mI μ (B + 14 + c) y ∨ ¬ c < 8 := by
    intro c y
    by_cases hc : c < 8
    · left
      rw [i4, o3 _ (fun c' _ _ => by omega), i2, i1, if_neg (by omega)]
    · exact Or.inr hc
  obtain ⟨μ5, f5, c5, d5, o5, r5, n5⟩ := X8_take_houses hAB n8 (k := fun m129 => some m129) nh 2000 0 μ4 LA4 LB4 (by rw [i4, ha3 3 (by omega)]; exact h3) (by rw [i4, hb3]; exact h3) (fun c hc => by rw [(b14 c 12).resolve_right (by omega)]; exact hz c hc) (by omega) (by omega)
  refine ⟨μ5, ?_, fun k hk => ?_, fun c y hc hy => ?_, fun c y hc hy => ?_, fun c y hc hy => ?_, ⟨?_, ?_⟩, fun i hi => ?_, fun q q1 q2 => ?_, fun q q2 => ?_, fun q q1 q2 => ?_, fun k k5 k6 => ?_, ?_⟩
  · have : f_X8_take A B μ = f_X8_take_h58 A B (fun m110 => f_X8_take_h102 A B (fun m111 => f_X8_take_j136 A B m111) 2000 0 m110) 2000 0 μ2 := by
      unfold f_X8_take
      simp only [nm_mk]
      simp only [mI_ne hne, mR_ne hne, mR_sI]
      rw [e2, e1]
    rw [this]
    exact f3.trans (f4.trans f5)
  · rw [(o5 A (fun c _ _ => by omega)).1, i4, ha3 k hk]
  · rw [(o5 _ (fun c' _ _ => by omega)).1, i4, c3 c y (by omega) hc hy, i2, i1, if_neg (by omega)]
  · rw [c5 c y (by omega) hc hy, (b14 c y).resolve_right (by omega)]
  · rw [d5 c y (by omega) hc hy, l4, l3, l2, l1]
  · rw [r5, o4 A (by omega), r3, r2, if_pos (by omega)]
  · rw [r5, o4 A (by omega), r3, r2, if_pos (by omega)]
  · rw [r5, c4 i (by omega) hi, r3, r2, if_neg (by omega)]
  · rw [(o5 q (fun c _ _ => by omega)).1, i4, o3 q (fun c _ _ => by omega), i2]
    funext y
    rw [i1, if_neg (by omega)]
  · rw [(o5 q (fun c _ _ => by omega)).2, l4, l3, l2, l1]
  · rw [r5, o4 q q2, r3]
    funext y
    rw [r2, if_neg (by omega)]
  · rw [r5, o4 A (by omega), r3, r2, if_neg (by omega)]
  · rw [n5, n4, n3, n2, n1]
theorem CInv.cg17 {f g : Nat → Int32} (h : CInv f) (e : ∀ k, k < 17 → g k = f k) : CInv g := h.cg fun k hk => e k (by omega)
theorem HInv.cg {f g : Nat → Int32} {b c : Nat → Int64} {now nc : Nat} (h : HInv f b now nc) (e : ∀ k, (k < 6 ∨ (8 ≤ k ∧ k < 14)) → g k = f k) (e6 : c 6 = b 6) (e7 : c 7 = b 7) : HInv g c now nc := by
  obtain ⟨u, h0, h1, h2, h3, h5, h8, h12, hr⟩ := h
  refine ⟨u, by rw [e _ (by omega)]; exact h0, by rw [e _ (by omega)]; exact h1, by rw [e _ (by omega)]; exact h2, by rw [e _ (by omega)]; exact h3, by rw [e _ (by omega)]; exact h5, by rw [e _ (by omega)]; exact h8, by rw [e _ (by omega)]; exact h12, ?_⟩
  rw [e6, e7]
  exact hr
/-- a world and its numbers, taken over on both sides -/
theorem RW.copy {μ μ' ν ν' : XMem} {A B lo N N' D D' now nc nl nh fl : Nat} {tx : Nat → List Int32} (w : RW μ B lo ν N D now nc nl nh fl tx)
    (t1 : ∀ k, k < 5 → mI μ' A k = mI μ B k) (t2 : ∀ c y, c < nc → y < 17 → mI μ' (A + 6 + c) y = mI μ (B + 6 + c) y) (t3 : ∀ c y, c < nh → (y < 6 ∨ (8 ≤ y ∧ y < 14)) → mI μ' (A + 14 + c) y = mI μ (B + 14 + c) y) (t4 : ∀ c y, c < nh → (y = 6 ∨ y = 7) → mL μ' (A + 14 + c) y = mL μ (B + 14 + c) y) (t5 : mR μ' A 5 = mR μ B 5 ∧ mR μ' A 6 = mR μ B 6) (t6 : ∀ i, i < nl → mR μ' (A + 2) i = mR μ (B + 2) i)
    (t7 : ∀ q, lo ≤ q → mI μ' q = mI μ q) (t8 : ∀ q, lo ≤ q → mR μ' q = mR μ q) (t9 : mN μ' = mN μ) (s1 : ∀ k, k < 1059 → mI ν' N' k = mI ν N k) (s2 : ∀ k, k < 16 → mL ν' D' k = mL ν D k) : RW μ' A lo ν' N' D' now nc nl nh fl tx := by
  obtain ⟨⟨⟨a0, a1, a2, a3, a4⟩, ⟨b0, b1, b2, b3, b4⟩, p1, p2, p3, p4, p5⟩, w2, w3, w4, w5, w6, w7, w8⟩ := w
  refine ⟨⟨⟨by rw [t1 _ (by omega)]; exact a0, by rw [t1 _ (by omega)]; exact a1, by rw [t1 _ (by omega)]; exact a2, by rw [t1 _ (by omega)]; exact a3, by rw [t1 _ (by omega)]; exact a4⟩, ⟨by rw [s1 _ (by omega)]; exact b0, by rw [s1 _ (by omega)]; exact b1, by rw [s1 _ (by omega)]; exact b2, by rw [s1 _ (by omega)]; exact b3, by rw [s1 _ (by omega)]; exact b4⟩, p1, p2, p3, p4, p5⟩, fun c hc => ?_, fun c hc => ?_, w4, fun i hi => ?_, ?_, ?_, fun i hi => ?_⟩
  · exact ⟨fun k hk => by rw [t2 c k hc hk, s1 _ (by omega)]; exact (w2 c hc).1 k hk, (w2 c hc).2.cg17 fun k hk => t2 c k hc hk⟩
  · obtain ⟨y1, y2, y3, y4, y5⟩ := w3 c hc
    exact ⟨fun k hk => by rw [t3 c k hc (by omega), s1 _ (by omega)]; exact y1 k hk, fun k hk => by rw [t3 c _ hc (by omega), s1 _ (by omega)]; exact y2 k hk, by rw [t4 c _ hc (by omega), s2 _ (by omega)]; exact y3, by rw [t4 c _ hc (by omega), s2 _ (by omega)]; exact y4, y5.cg (fun k hk => t3 c k hc hk) (t4 c 6 hc (by omega)) (t4 c 7 hc (by omega))⟩
  · obtain ⟨la, ta, g1, g2, g3, g4, g5, g6⟩ := w5 i hi
    exact ⟨la, ta, by rw [t6 i hi]; exact g1, g2, by rw [t8 _ g2]; exact g3, by rw [t7 _ g2, s1 _ (by omega)]; exact g4, g5.cg t7 t8 (fun q _ => by rw [t9]), g6⟩
  · rw [t5.1]; exact w6.cg t7 t8 (fun q _ => by rw [t9])
  · rw [t5.2]; exact w7.cg t7 t8 (fun q _ => by rw [t9])
  · obtain ⟨⟨g1, g2⟩, g3, g4⟩ := w8 i hi
    exact ⟨⟨by rw [s1 _ (by omega)]; exact g1, fun k hk => by rw [s1 _ (by omega)]; exact g2 k hk⟩, g3, g4⟩
/-! the reference's copies -/
def tkL (a b : Nat) : Nat → Nat → XMem → XMem
  | 0, _, μ => μ
  | m + 1, i, μ => tkL a b m (i + 1) (sL μ a i (mL μ b i))
theorem tkL_mL {a b : Nat} (hab : a ≠ b) : ∀ (m i : Nat) (μ : XMem) (x y : Nat), mL (tkL a b m i μ) x y = if x = a ∧ i ≤ y ∧ y < i + m then mL μ b y else mL μ x y := by
  intro m
  induction m with
  | zero => intro i μ x y; rw [if_neg (by omega)]; rfl
  | succ m ih =>
    intro i μ x y
    show mL (tkL a b m (i + 1) _) x y = _
    rw [ih, mL_ne hab.symm, mL_sL]
    by_cases h1 : x = a
    · by_cases h2 : y = i
      · rw [if_neg (by omega), if_pos h1, if_pos h2, if_pos (by omega), h2]
      · rw [if_pos h1, if_neg h2]
        by_cases h3 : i + 1 ≤ y ∧ y < i + 1 + m
        · rw [if_pos ⟨h1, h3⟩, if_pos (by omega)]
        · rw [if_neg (by omega), if_neg (by omega)]
    · rw [if_neg (by omega), if_neg h1, if_neg (by omega)]
theorem tkL_r {a b : Nat} : ∀ (m i : Nat) (μ : XMem), mI (tkL a b m i μ) = mI μ ∧ mR (tkL a b m i μ) = mR μ ∧ mN (tkL a b m i μ) = mN μ := by
  intro m
  induction m with
  | zero => intros; exact ⟨rfl, rfl, rfl⟩
  | succ m ih => intro i μ; exact ih _ _
theorem X10_image_I {h : Nat} {k : XMem → Option (Int32 × XMem)} : ∀ (m n i : Nat) (ν : XMem), LM h (mR ν) (mN ν) → i + m = 1059 → m < n → f_X10_image_h2 h k n (nI i) ν = k (tk (h + 2) (h + 1) m i ν) := by
  intro m
  induction m with
  | zero =>
    intro n i ν L hi hm
    obtain ⟨n, rfl⟩ : ∃ q, n = q + 1 := ⟨n - 1, by omega⟩
    have hc : (1059 : Int32) ≤ nI i := nI_le (a := 1059) (b := i) (by omega) (by omega)
    rw [f_X10_image_h2, if_pos hc]
    rfl
  | succ m ih =>
    intro n i ν L hi hm
    obtain ⟨n, rfl⟩ : ∃ q, n = q + 1 := ⟨n - 1, by omega⟩
    have hc : ¬ (1059 : Int32) ≤ nI i := nI_ge (b := 1059) (a := i) (by omega) (by omega)
    have q1 : ib (nI i) 1059 = true := ib_nI (by omega) (by omega)
    rw [f_X10_image_h2, if_neg hc, L.1.2.1, fo_mk, L.1.1, fo_mk, L.2.1, q1, gd_mk, L.2.2.1, q1, gd_mk, nm_mk, nm_mk, nI_clamp (by omega), nI_1, ih n (i + 1) (sI ν (h + 2) i (mI ν (h + 1) i)) L (by omega) (by omega)]
    rfl
theorem X10_image_L {h : Nat} {k : XMem → Option (Int32 × XMem)} : ∀ (m n i : Nat) (ν : XMem), LM h (mR ν) (mN ν) → i + m = 16 → m < n → f_X10_image_h29 h k n (nI i) ν = k (tkL (h + 4) (h + 3) m i ν) := by
  intro m
  induction m with
  | zero =>
    intro n i ν L hi hm
    obtain ⟨n, rfl⟩ : ∃ q, n = q + 1 := ⟨n - 1, by omega⟩
    have hc : (16 : Int32) ≤ nI i := nI_le (a := 16) (b := i) (by omega) (by omega)
    rw [f_X10_image_h29, if_pos hc]
    rfl
  | succ m ih =>
    intro n i ν L hi hm
    obtain ⟨n, rfl⟩ : ∃ q, n = q + 1 := ⟨n - 1, by omega⟩
    have hc : ¬ (16 : Int32) ≤ nI i := nI_ge (b := 16) (a := i) (by omega) (by omega)
    have q1 : ib (nI i) 16 = true := ib_nI (by omega) (by omega)
    rw [f_X10_image_h29, if_neg hc, L.1.2.2.2.1, fo_mk, L.1.2.2.1, fo_mk, L.2.2.2.1, q1, gd_mk, L.2.2.2.2.1, q1, gd_mk, nm_mk, nm_mk, nI_clamp (by omega), nI_1, ih n (i + 1) (sL ν (h + 4) i (mL ν (h + 3) i)) L (by omega) (by omega)]
    rfl
theorem X10_undo_I {h : Nat} {k : XMem → Option (Int32 × XMem)} : ∀ (m n i : Nat) (ν : XMem), LM h (mR ν) (mN ν) → i + m = 1059 → m < n → f_X10_undo_h16 h k n (nI i) ν = k (tk (h + 1) (h + 2) m i ν) := by
  intro m
  induction m with
  | zero =>
    intro n i ν L hi hm
    obtain ⟨n, rfl⟩ : ∃ q, n = q + 1 := ⟨n - 1, by omega⟩
    have hc : (1059 : Int32) ≤ nI i := nI_le (a := 1059) (b := i) (by omega) (by omega)
    rw [f_X10_undo_h16, if_pos hc]
    rfl
  | succ m ih =>
    intro n i ν L hi hm
    obtain ⟨n, rfl⟩ : ∃ q, n = q + 1 := ⟨n - 1, by omega⟩
    have hc : ¬ (1059 : Int32) ≤ nI i := nI_ge (b := 1059) (a := i) (by omega) (by omega)
    have q1 : ib (nI i) 1059 = true := ib_nI (by omega) (by omega)
    rw [f_X10_undo_h16, if_neg hc, L.1.1, fo_mk, L.1.2.1, fo_mk, L.2.2.1, q1, gd_mk, L.2.1, q1, gd_mk, nm_mk, nm_mk, nI_clamp (by omega), nI_1, ih n (i + 1) (sI ν (h + 1) i (mI ν (h + 2) i)) L (by omega) (by omega)]
    rfl
theorem X10_undo_L {h : Nat} {k : XMem → Option (Int32 × XMem)} : ∀ (m n i : Nat) (ν : XMem), LM h (mR ν) (mN ν) → i + m = 16 → m < n → f_X10_undo_h43 h k n (nI i) ν = k (tkL (h + 3) (h + 4) m i ν) := by
  intro m
  induction m with
  | zero =>
    intro n i ν L hi hm
    obtain ⟨n, rfl⟩ : ∃ q, n = q + 1 := ⟨n - 1, by omega⟩
    have hc : (16 : Int32) ≤ nI i := nI_le (a := 16) (b := i) (by omega) (by omega)
    rw [f_X10_undo_h43, if_pos hc]
    rfl
  | succ m ih =>
    intro n i ν L hi hm
    obtain ⟨n, rfl⟩ : ∃ q, n = q + 1 := ⟨n - 1, by omega⟩
    have hc : ¬ (16 : Int32) ≤ nI i := nI_ge (b := 16) (a := i) (by omega) (by omega)
    have q1 : ib (nI i) 16 = true := ib_nI (by omega) (by omega)
    rw [f_X10_undo_h43, if_neg hc, L.1.2.2.1, fo_mk, L.1.2.2.2.1, fo_mk, L.2.2.2.2.1, q1, gd_mk, L.2.2.2.1, q1, gd_mk, nm_mk, nm_mk, nI_clamp (by omega), nI_1, ih n (i + 1) (sL ν (h + 3) i (mL ν (h + 4) i)) L (by omega) (by omega)]
    rfl
theorem HInv.shn {f : Nat → Int32} {b : Nat → Int64} {now nc : Nat} (h : HInv f b now nc) : f 12 = 0 ∨ f 12 = 1 := by
  obtain ⟨u, h0, h1, h2, h3, h5, h8, h12, hr⟩ := h
  have : u 12 = 0 ∨ u 12 = 1 := by omega
  rcases this with e | e <;> rw [h12, e]
  · exact Or.inl rfl
  · exact Or.inr rfl
theorem LC.live {g : Nat} {R R' : Nat → Nat → Option Nat} {N N' : Nat → Nat} (L : LC g R N) (eN : N' = N) (e0 : ∀ k, R' g k = R g k) (eR : ∀ q, g + 45 ≤ q → q < g + 63 → R' q = R q) (l : LW R' N' (g + 1)) (k : LW R' N' (g + 23)) : LC g R' N' := by
  subst eN
  obtain ⟨l0, l1, l3, l4, l5, l6, l7, l8, -, -, t1, t2, p1, p2, p3, p4, p5, p6, n51, n52, hs⟩ := L
  refine ⟨by rw [e0]; exact l0, by rw [e0]; exact l1, by rw [e0]; exact l3, by rw [e0]; exact l4, by rw [e0]; exact l5, by rw [e0]; exact l6, by rw [e0]; exact l7, by rw [e0]; exact l8, l, k, by rw [eR _ (by omega) (by omega)]; exact t1, t2, by rw [eR _ (by omega) (by omega)]; exact p1, by rw [eR _ (by omega) (by omega)]; exact p2, by rw [eR _ (by omega) (by omega)]; exact p3, p4, p5, p6, n51, n52, fun s h => ?_⟩
  obtain ⟨h1, h2, h3⟩ := hs s h
  exact ⟨by rw [eR _ (by omega) (by omega)]; exact h1, by rw [eR _ (by omega) (by omega)]; exact h2, h3⟩
theorem LW.keep {R R' : Nat → Nat → Option Nat} {N N' : Nat → Nat} {A : Nat} (L : LW R N A) (eN : N' = N) (e0 : ∀ k, k ≠ 5 → k ≠ 6 → R' A k = R A k) (eR : ∀ q, A < q → q ≠ A + 2 → q < A + 6 → R' q = R q) : LW R' N' A := by
  subst eN
  obtain ⟨l7, l8, l9, l10, n1, n2, n3, hc, hh, lw, nw⟩ := L
  exact ⟨by rw [e0 _ (by omega) (by omega)]; exact l7, by rw [e0 _ (by omega) (by omega)]; exact l8, by rw [e0 _ (by omega) (by omega)]; exact l9, by rw [e0 _ (by omega) (by omega)]; exact l10, n1, n2, n3, fun i hi => by rw [eR _ (by omega) (by omega) (by omega)]; exact hc i hi, fun i hi => by rw [eR _ (by omega) (by omega) (by omega)]; exact hh i hi, by rw [eR _ (by omega) (by omega) (by omega)]; exact lw, nw⟩

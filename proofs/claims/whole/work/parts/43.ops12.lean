/-! PURE LAYER 13: image, undo -/
theorem RW.cg2 {μ μ' ν ν' : XMem} {A lo N B now nc nl nh fl : Nat} {tx : Nat → List Int32} (r : RW μ A lo ν N B now nc nl nh fl tx) (e0 : mI μ' A = mI μ A) (e1 : ∀ c, c < 16 → mI μ' (A + 6 + c) = mI μ (A + 6 + c)) (e2 : ∀ c, c < 8 → mL μ' (A + 14 + c) = mL μ (A + 14 + c)) (e3 : ∀ q, lo ≤ q → mI μ' q = mI μ q) (e4 : ∀ q, q = A ∨ q = A + 2 ∨ lo ≤ q → mR μ' q = mR μ q) (e5 : ∀ q, lo ≤ q → mN μ' q = mN μ q) (e6 : mI ν' N = mI ν N) (e7 : mL ν' B = mL ν B) : RW μ' A lo ν' N B now nc nl nh fl tx := by
  obtain ⟨r1, r2, r3, r4⟩ := r
  obtain ⟨-, -, b1, b2, b3, b4, b5⟩ := id r1
  refine ⟨r1.cg e0 (fun k _ => by rw [e6]), r2.cg b2 (fun c hc => e1 c (by omega)) (fun k _ _ => by rw [e6]), r3.cg b4 (fun c hc => ?_) e2 (fun k _ _ => by rw [e6]) e7, r4.cg e3 (fun q hq => e4 q (by omega)) e5 (e4 _ (by omega)) (e4 _ (by omega)) (fun k _ => by rw [e6])⟩
  have := e1 (8 + c) (by omega)
  rw [show A + 6 + (8 + c) = A + 14 + c by omega] at this
  exact this
set_option maxHeartbeats 1000000 in
theorem op_image {g h : Nat} {μ ν : XMem} (r : Rel g μ h ν) : OpI (f_X9_image g μ) (f_X10_image h ν) g h := by
  obtain ⟨r1, r2, r3, r4, r5, r6, ⟨now, nc, nl, nh, fl, tx, w⟩, r8⟩ := id r
  obtain ⟨⟨a0, a1, a2, a3, a4⟩, -, p1, p2, p3, p4, p5⟩ := id w.1
  obtain ⟨μ', f, t1, t2, t3, t4, t5, t6, t7, t8, t9, t10, t11⟩ := X8_take_eq (A := g + 23) (B := g + 1) (μ := μ) (by omega) (LCk r1) (LCl r1) a1 a2 a3 p2 p3 p4 (fun c hc => by have q := (w.2.2.1 c hc).2.2.2.2.shn; exact q)
  have LZ : LM h (mR (tk (h + 2) (h + 1) 1059 0 ν)) (mN (tk (h + 2) (h + 1) 1059 0 ν)) := by rw [(tk_r _ _ _).2.1, (tk_r _ _ _).2.2]; exact r2
  have k1 := X10_image_I (h := h) (k := fun m101 => f_X10_image_h29 h (fun m102 => nm (sI m102 h 5 1) fun m103 => some (1, m103)) 2000 0 m101) 1059 2000 0 ν r2 (by omega) (by omega)
  have k2 := X10_image_L (h := h) (k := fun m102 => nm (sI m102 h 5 1) fun m103 => some (1, m103)) 16 2000 0 (tk (h + 2) (h + 1) 1059 0 ν) LZ (by omega) (by omega)
  obtain ⟨ν', en⟩ : ∃ ν', ν' = tkL (h + 4) (h + 3) 16 0 (tk (h + 2) (h + 1) 1059 0 ν) := ⟨_, rfl⟩
  rw [← en] at k2
  have nI' : ∀ x y, mI ν' x y = if x = h + 2 ∧ y < 1059 then mI ν (h + 1) y else mI ν x y := by
    intro x y
    rw [en, (tkL_r _ _ _).1, tk_mI (by omega)]
    by_cases q : x = h + 2 ∧ y < 1059
    · rw [if_pos (by omega), if_pos q]
    · rw [if_neg (by omega), if_neg q]
  have nL' : ∀ x y, mL ν' x y = if x = h + 4 ∧ y < 16 then mL ν (h + 3) y else mL ν x y := by
    intro x y
    rw [en, tkL_mL (by omega), (tk_r _ _ _).1]
    by_cases q : x = h + 4 ∧ y < 16
    · rw [if_pos (by omega), if_pos q]
    · rw [if_neg (by omega), if_neg q]
  have nR' : mR ν' = mR ν := by rw [en, (tkL_r _ _ _).2.1, (tk_r _ _ _).2.1]
  have nN' : mN ν' = mN ν := by rw [en, (tkL_r _ _ _).2.2, (tk_r _ _ _).2.2]
  have hI : ∀ x, x ≠ h + 2 → mI ν' x = mI ν x := fun x hx => by funext y; rw [nI', if_neg (by omega)]
  have hL : ∀ x, x ≠ h + 4 → mL ν' x = mL ν x := fun x hx => by funext y; rw [nL', if_neg (by omega)]
  refine OpI.of (r := 1) (r' := 1) (μ := sI μ' g 2 1) (ν := sI ν' h 5 1) ?_ (k1.trans k2) rfl ?_
  · unfold f_X9_image
    rw [r1.2.1, fo_mk, r1.1, fo_mk, f]
    rfl
  · refine ⟨r1.live t11 (fun k => congrFun (t9 g (by omega) (by omega)) k) (fun q q1 q2 => t9 q (by omega) (by omega)) ((LCl r1).keep t11 (fun k _ _ => congrFun (t9 _ (by omega) (by omega)) k) (fun q q1 q2 q3 => t9 q (by omega) (by omega))) ((LCk r1).keep t11 t10 (fun q q1 q2 q3 => t9 q (by omega) (by omega))), ?_, ?_, ?_, ?_, ?_, ?_, ?_⟩
    · show LM h (mR ν') (mN ν')
      rw [nR', nN']; exact r2
    · exact r3.cg (by rw [mI_ne (by omega), t7 _ (by omega) (by omega)]) (by rw [mI_ne (by omega), hI _ (by omega)])
    · exact r4.cg (by rw [mI_ne (by omega), t7 _ (by omega) (by omega)]) (by rw [mI_ne (by omega), t7 _ (by omega) (by omega)]) (by rw [mI_off (by omega), hI _ (by omega)]) (by rw [mI_ne (by omega), hI _ (by omega)])
    · exact r5.cg (fun s hs => by rw [mI_ne (by omega), t7 _ (by omega) (by omega)]) (fun s hs => by show mL μ' _ = _; rw [t8 _ (by omega)]) (by rw [mI_ne (by omega), hI _ (by omega)]) (by rw [mI_ne (by omega), hI _ (by omega)]) (by show mL ν' _ = _; rw [hL _ (by omega)])
    · refine ⟨by rw [mI_at, mI_at], Or.inr ⟨mI_at, now, nc, nl, nh, fl, tx, ?_⟩⟩
      refine w.copy (fun k hk => ?_) (fun c y hc hy => ?_) (fun c y hc hy => ?_) t4 t5 t6 (fun q hq => ?_) (fun q hq => t9 q (by omega) (by omega)) t11 (fun k hk => ?_) (fun k hk => ?_)
      · rw [mI_ne (by omega)]; exact t1 k hk
      · rw [mI_ne (by omega)]; exact t2 c y hc hy
      · rw [mI_ne (by omega)]; exact t3 c y hc hy
      · rw [mI_ne (by omega), t7 _ (by omega) (by omega)]
      · rw [mI_ne (by omega), nI', if_pos ⟨rfl, hk⟩]
      · show mL ν' (h + 4) k = _
        rw [nL', if_pos ⟨rfl, hk⟩]
    · exact ⟨now, nc, nl, nh, fl, tx, w.cg2 (by rw [mI_ne (by omega), t7 _ (by omega) (by omega)]) (fun c hc => by rw [mI_ne (by omega), t7 _ (by omega) (by omega)]) (fun c hc => by show mL μ' _ = _; rw [t8 _ (by omega)]) (fun q hq => by rw [mI_ne (by omega), t7 _ (by omega) (by omega)]) (fun q hq => t9 q (by omega) (by omega)) (fun q _ => congrFun t11 q) (by rw [mI_ne (by omega), hI _ (by omega)]) (by show mL ν' _ = _; rw [hL _ (by omega)])⟩
    · exact r8.cg (by rw [mI_ne (by omega), hI _ (by omega)]) (by rw [mI_ne (by omega), hI _ (by omega)])
set_option maxHeartbeats 1000000 in
theorem op_undo {g h : Nat} {μ ν : XMem} (r : Rel g μ h ν) : OpI (f_X9_undo g μ) (f_X10_undo h ν) g h := by
  obtain ⟨r1, r2, r3, r4, r5, ⟨k0, r6⟩, -, r8⟩ := id r
  unfold f_X9_undo f_X10_undo
  rw [← k0]
  rcases r6 with e0 | ⟨e1, now, nc, nl, nh, fl, tx, w⟩
  · rw [if_pos e0, if_pos e0, X9_finding_3 r1, X10_finds_3 r2]
    exact .mk (r.find (k := 3) (by decide))
  · have ne : ¬ mI μ g 2 = 0 := by rw [e1]; decide
    rw [if_neg ne, if_neg ne]
    obtain ⟨⟨a0, a1, a2, a3, a4⟩, ⟨v0, -⟩, p1, p2, p3, p4, p5⟩ := id w.1
    obtain ⟨μ', f, t1, t2, t3, t4, t5, t6, t7, t8, t9, t10, t11⟩ := X8_take_eq (A := g + 1) (B := g + 23) (μ := μ) (by omega) (LCl r1) (LCk r1) a1 a2 a3 p2 p3 p4 (fun c hc => by have q := (w.2.2.1 c hc).2.2.2.2.shn; exact q)
    have LZ : LM h (mR (tk (h + 1) (h + 2) 1059 0 ν)) (mN (tk (h + 1) (h + 2) 1059 0 ν)) := by rw [(tk_r _ _ _).2.1, (tk_r _ _ _).2.2]; exact r2
    have k1 := X10_undo_I (h := h) (k := fun m101 => f_X10_undo_h43 h (fun m102 => fo (mR m102 h 0) fun b103 => gd (ib 0 (mN m102 b103)) (some (mI m102 b103 (Int32.toNatClampNeg 0), m102))) 2000 0 m101) 1059 2000 0 ν r2 (by omega) (by omega)
    have k2 := X10_undo_L (h := h) (k := fun m102 => fo (mR m102 h 0) fun b103 => gd (ib 0 (mN m102 b103)) (some (mI m102 b103 (Int32.toNatClampNeg 0), m102))) 16 2000 0 (tk (h + 1) (h + 2) 1059 0 ν) LZ (by omega) (by omega)
    obtain ⟨ν', en⟩ : ∃ ν', ν' = tkL (h + 3) (h + 4) 16 0 (tk (h + 1) (h + 2) 1059 0 ν) := ⟨_, rfl⟩
    rw [← en] at k2
    have nI' : ∀ x y, mI ν' x y = if x = h + 1 ∧ y < 1059 then mI ν (h + 2) y else mI ν x y := by
      intro x y
      rw [en, (tkL_r _ _ _).1, tk_mI (by omega)]
      by_cases q : x = h + 1 ∧ y < 1059
      · rw [if_pos (by omega), if_pos q]
      · rw [if_neg (by omega), if_neg q]
    have nL' : ∀ x y, mL ν' x y = if x = h + 3 ∧ y < 16 then mL ν (h + 4) y else mL ν x y := by
      intro x y
      rw [en, tkL_mL (by omega), (tk_r _ _ _).1]
      by_cases q : x = h + 3 ∧ y < 16
      · rw [if_pos (by omega), if_pos q]
      · rw [if_neg (by omega), if_neg q]
    have nR' : mR ν' = mR ν := by rw [en, (tkL_r _ _ _).2.1, (tk_r _ _ _).2.1]
    have nN' : mN ν' = mN ν := by rw [en, (tkL_r _ _ _).2.2, (tk_r _ _ _).2.2]
    have hI : ∀ x, x ≠ h + 1 → mI ν' x = mI ν x := fun x hx => by funext y; rw [nI', if_neg (by omega)]
    have hL : ∀ x, x ≠ h + 3 → mL ν' x = mL ν x := fun x hx => by funext y; rw [nL', if_neg (by omega)]
    have i0 : ib 0 1059 = true := by decide
    have j0 : Int32.toNatClampNeg 0 = 0 := by decide
    have m0 : mI μ' (g + 1) 0 = nI now := by rw [t1 0 (by omega)]; exact a0
    have m1 : mI ν' (h + 1) 0 = nI now := by rw [nI', if_pos ⟨rfl, by omega⟩]; exact v0
    refine OpI.of (r := nI now) (r' := nI now) (μ := μ') (ν := ν') ?_ (k1.trans (k2.trans ?_)) rfl ?_
    · rw [r1.1, fo_mk, r1.2.1, fo_mk, f, b1_mk, show mR μ' g 0 = some (g + 1) by rw [t9 g (by omega) (by omega)]; exact r1.1, fo_mk, m0]
    · rw [nR', r2.1.1, fo_mk, nN', r2.2.1, i0, gd_mk, j0, m1]
    · refine ⟨r1.live t11 (fun k => congrFun (t9 g (by omega) (by omega)) k) (fun q q1 q2 => t9 q (by omega) (by omega)) ((LCl r1).keep t11 t10 (fun q q1 q2 q3 => t9 q (by omega) (by omega))) ((LCk r1).keep t11 (fun k _ _ => congrFun (t9 _ (by omega) (by omega)) k) (fun q q1 q2 q3 => t9 q (by omega) (by omega))), ?_, ?_, ?_, ?_, ?_, ?_, ?_⟩
      · rw [nR', nN']; exact r2
      · exact r3.cg (t7 _ (by omega) (by omega)) (hI _ (by omega))
      · exact r4.cg (t7 _ (by omega) (by omega)) (t7 _ (by omega) (by omega)) (by rw [hI _ (by omega)]) (hI _ (by omega))
      · exact r5.cg (fun s hs => t7 _ (by omega) (by omega)) (fun s hs => t8 _ (by omega)) (hI _ (by omega)) (hI _ (by omega)) (hL _ (by omega))
      · refine ⟨by rw [t7 _ (by omega) (by omega), hI _ (by omega)]; exact k0, Or.inr ⟨by rw [t7 _ (by omega) (by omega)]; exact e1, now, nc, nl, nh, fl, tx, w.cg2 (t7 _ (by omega) (by omega)) (fun c hc => t7 _ (by omega) (by omega)) (fun c hc => t8 _ (by omega)) (fun q hq => t7 _ (by omega) (by omega)) (fun q hq => t9 q (by omega) (by omega)) (fun q _ => congrFun t11 q) (hI _ (by omega)) (hL _ (by omega))⟩⟩
      · refine ⟨now, nc, nl, nh, fl, tx, w.copy t1 t2 t3 t4 t5 t6 (fun q hq => t7 _ (by omega) (by omega)) (fun q hq => t9 q (by omega) (by omega)) t11 (fun k hk => ?_) (fun k hk => ?_)⟩
        · rw [nI', if_pos ⟨rfl, hk⟩]
        · rw [nL', if_pos ⟨rfl, hk⟩]
      · exact r8.cg (hI _ (by omega)) (hI _ (by omega))

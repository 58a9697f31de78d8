/-! PURE LAYER 19: a text worked out, both sides -/
def WkG (W : Nat) (μ μ' : XMem) : Prop := (∀ q, q ≠ W → q ≠ W + 1 → mI μ' q = mI μ q) ∧ mL μ' = mL μ ∧ mR μ' = mR μ ∧ mN μ' = mN μ
theorem LW.wk {R : Nat → Nat → Option Nat} {N : Nat → Nat} {A : Nat} (h : LW R N A) : R (A + 4) 5 = some (A + 5) ∧ N (A + 5) = 13 := ⟨h.2.2.2.2.2.2.2.2.2.1, h.2.2.2.2.2.2.2.2.2.2⟩
theorem wmt_8 {f g : Nat → Int32} (h : ∀ k, k < 8 → f k = g k) : wmt f = wmt g := by
  unfold wmt
  rw [h 6 (by decide), h 3 (by decide)]
theorem pwr_8 {f g : Nat → Int32} (h : ∀ k, k < 8 → f k = g k) : pwr f = pwr g := by
  unfold pwr
  rw [h 5 (by decide), h 1 (by decide)]
theorem thm_8 {f g : Nat → Int32} (h : ∀ k, k < 8 → f k = g k) : thm f = thm g := by
  unfold thm
  rw [wmt_8 h, h 0 (by decide)]
set_option maxHeartbeats 400000 in
theorem worked_eq {g h ti c ta a2 : Nat} {t : List Int32} {μ ν : XMem} (r1 : LC g (mR μ) (mN μ)) (r2 : LM h (mR ν) (mN ν)) (ht : HT μ (g + 63) ta t) (htm : TM ν (h + 1) ti t) (hlen : t.length ≤ 100) (hw : wfs t 0 = true) (hti : ti < 8) (hc : c < 8) (ha1 : a2 ≠ g + 5) (ha2 : a2 ≠ g + 6) (hq : ∀ k, k < 8 → mI μ a2 k = crw ν h c k) (hm : ¬ crw ν h c 3 = 0) (x3 : Int32) :
    ∃ v μ' ν', f_X7_worked (g + 5) ta a2 (if ti = 7 then thm (mI μ a2) else wmt (mI μ a2)) x3 (nI c) μ = some (v, μ') ∧ f_X10_worked h (nI ti) (nI c) x3 ν = some (v, ν') ∧ WkG (g + 5) μ μ' ∧ WkM h ν ν' := by
  obtain ⟨hta, ca, c1, c2, c3, c4⟩ := ht
  obtain ⟨k1, k2⟩ := (LCl r1).wk
  have tne : t ≠ [] := fun e => by rw [e] at hw; simp [wfs] at hw
  have tpos : 0 < t.length := List.length_pos_iff.mpr tne
  unfold f_X7_worked f_X10_worked
  have q1 : (243 : Int32) + 102 * nI ti = nI (243 + 102 * ti) := by
    show nI 243 + nI 102 * nI ti = _
    rw [pk_mul, nI_add]
  rw [X0_powerThatCounts_eq, b2_mk]
  simp only [nm_mk, q1]
  generalize hμ : sI (sI (sI (sI (sI (sI μ (g + 5) 0 (pwr (mI μ a2))) (g + 5) 1 (if ti = 7 then thm (mI μ a2) else wmt (mI μ a2))) (g + 5) 2 x3) (g + 5) 3 (nI c)) (g + 5) 4 (mI (sI (sI (sI (sI μ (g + 5) 0 (pwr (mI μ a2))) (g + 5) 1 (if ti = 7 then thm (mI μ a2) else wmt (mI μ a2))) (g + 5) 2 x3) (g + 5) 3 (nI c)) a2 5)) (g + 5) 6 0 = μ0
  have z1 : ∀ q, q ≠ g + 5 → mI μ0 q = mI μ q := fun q hq => by
    rw [← hμ, mI_ne hq, mI_ne hq, mI_ne hq, mI_ne hq, mI_ne hq, mI_ne hq]
  have z2 : mR μ0 = mR μ := by rw [← hμ]; rfl
  have z3 : mN μ0 = mN μ := by rw [← hμ]; rfl
  have z4 : mL μ0 = mL μ := by rw [← hμ]; rfl
  have z5 : rgs μ0 (g + 5) = vM ν h ti c x3 := by
    have e5 : mI (sI (sI (sI (sI μ (g + 5) 0 (pwr (mI μ a2))) (g + 5) 1 (if ti = 7 then thm (mI μ a2) else wmt (mI μ a2))) (g + 5) 2 x3) (g + 5) 3 (nI c)) a2 5 = mI μ a2 5 := by
      rw [mI_ne ha1, mI_ne ha1, mI_ne ha1, mI_ne ha1]
    rw [e5] at hμ
    unfold rgs vM
    rw [← hμ]
    rw [show mI (sI (sI (sI (sI (sI (sI μ (g + 5) 0 (pwr (mI μ a2))) (g + 5) 1 (if ti = 7 then thm (mI μ a2) else wmt (mI μ a2))) (g + 5) 2 x3) (g + 5) 3 (nI c)) (g + 5) 4 (mI μ a2 5)) (g + 5) 6 0) (g + 5) 0 = pwr (mI μ a2) by simp [mI_sI]]
    rw [show mI (sI (sI (sI (sI (sI (sI μ (g + 5) 0 (pwr (mI μ a2))) (g + 5) 1 (if ti = 7 then thm (mI μ a2) else wmt (mI μ a2))) (g + 5) 2 x3) (g + 5) 3 (nI c)) (g + 5) 4 (mI μ a2 5)) (g + 5) 6 0) (g + 5) 1 = (if ti = 7 then thm (mI μ a2) else wmt (mI μ a2)) by simp [mI_sI]]
    rw [show mI (sI (sI (sI (sI (sI (sI μ (g + 5) 0 (pwr (mI μ a2))) (g + 5) 1 (if ti = 7 then thm (mI μ a2) else wmt (mI μ a2))) (g + 5) 2 x3) (g + 5) 3 (nI c)) (g + 5) 4 (mI μ a2 5)) (g + 5) 6 0) (g + 5) 2 = x3 by simp [mI_sI]]
    rw [show mI (sI (sI (sI (sI (sI (sI μ (g + 5) 0 (pwr (mI μ a2))) (g + 5) 1 (if ti = 7 then thm (mI μ a2) else wmt (mI μ a2))) (g + 5) 2 x3) (g + 5) 3 (nI c)) (g + 5) 4 (mI μ a2 5)) (g + 5) 6 0) (g + 5) 3 = nI c by simp [mI_sI]]
    rw [show mI (sI (sI (sI (sI (sI (sI μ (g + 5) 0 (pwr (mI μ a2))) (g + 5) 1 (if ti = 7 then thm (mI μ a2) else wmt (mI μ a2))) (g + 5) 2 x3) (g + 5) 3 (nI c)) (g + 5) 4 (mI μ a2 5)) (g + 5) 6 0) (g + 5) 4 = mI μ a2 5 by simp [mI_sI]]
    rw [pwr_8 hq, thm_8 hq, wmt_8 hq, hq 5 (by decide)]
  have z6 : mI μ0 (g + 5) 6 = nI ([] : List Int32).length := by rw [← hμ]; exact mI_at
  rw [z2, c1, fo_mk]
  obtain ⟨μ1, y1, y2, y3, y4, y5⟩ := X7_loop (W := g + 5) (ca := ca) (N := t.length) (by omega) (by omega) (by omega) (k := fun m110 => b2 (f_X7_pop (g + 5) m110) fun r112 m111 => some (r112, m111)) t 2000 0 [] μ0 (by rw [z2]; exact k1) (by rw [z3]; exact k2) (by rw [z3]; exact c3) (by omega) (fun j hj => by rw [z1 ca (by omega), Nat.zero_add]; exact c4 j hj) z6 (by simp) trivial hw (by omega)
  obtain ⟨t1, t2⟩ := htm
  obtain ⟨ν1, x1, x2, x4, x5⟩ := X10_loop (h := h) hti hc (x3 := x3) (k := fun m102 => fo (mR m102 h 0) fun b103 => gd (ib (nI (243 + 102 * ti)) (mN m102 b103)) <| if (mI m102 b103 (Int32.toNatClampNeg (nI (243 + 102 * ti)))) ≤ 0 then (if nI ti = 7 then some (1, m102) else some (0, m102)) else (fo (mR m102 h 16) fun b105 => gd (ib 0 (mN m102 b105)) <| some ((mI m102 b105 (Int32.toNatClampNeg 0)), m102))) t 2000 0 [] ν r2 hm (by omega) (by rw [Nat.zero_add]; exact t1) (fun j hj => by rw [Nat.zero_add]; exact t2 j hj) (by simp) trivial hw (by omega)
  rw [z5] at y4 y5
  obtain ⟨v, hv⟩ : ∃ v, ev (vM ν h ti c x3) t [] = [v] := by
    match he : ev (vM ν h ti c x3) t [], y5 with
    | [v], _ => exact ⟨v, rfl⟩
  rw [hv] at y4 x4
  have w0 : WkC (g + 5) μ0 μ1 := y2
  refine ⟨v, sI μ1 (g + 5) 6 (nI 0), ν1, y1.trans ?_, x1.trans ?_, ⟨fun q q1 q2 => ?_, ?_, ?_, ?_⟩, x2⟩
  · show b2 (f_X7_pop (g + 5) μ1) _ = _
    rw [X7_pop_eq (n := 0) (by rw [w0.2.2.2.1, z2]; exact k1) (by rw [w0.2.2.2.2, z3]; exact k2) y3 (by omega), b2_mk]
    rw [show mI μ1 (g + 5 + 1) 0 = v from y4.1]
  · have e1 : mI ν1 (h + 1) = mI ν (h + 1) := x2.1 _ (by omega)
    have n0 : ¬ nI t.length ≤ 0 := nI_nle tpos (by omega)
    have j0 : Int32.toNatClampNeg 0 = 0 := by decide
    have i0 : ib 0 102 = true := by decide
    show fo (mR ν1 h 0) _ = _
    rw [x2.2.2.1, r2.1.1, fo_mk, x2.2.2.2, r2.2.1, ib_nI (by omega) (by omega), gd_mk, nI_clamp (by omega), e1, t1, if_neg n0, r2.1.2.2.2.2.2.2.2.2.2.1, fo_mk, r2.2.2.2.2.2.2.2.2.2.2.1, i0, gd_mk, j0]
    rw [show mI ν1 (h + 10) 0 = v from x4.1]
  · rw [mI_ne q1, w0.1 q q1 q2, z1 q q1]
  · exact w0.2.2.1.trans z4
  · exact w0.2.2.2.1.trans z2
  · exact w0.2.2.2.2.trans z3
/-- and all stands as before -/
theorem Rel.wk {g h : Nat} {μ ν μ' ν' : XMem} (r : Rel g μ h ν) (a : WkG (g + 5) μ μ') (b : WkM h ν ν') : Rel g μ' h ν' := by
  obtain ⟨r1, r2, r3, r4, r5, r6, r7, r8⟩ := id r
  refine r.live (fun q hq => a.1 q (by omega) (by omega)) (fun q _ => by rw [a.2.1]) a.2.2.1 a.2.2.2 (fun q q1 q2 q3 q4 => b.1 q q2) (fun q _ => by rw [b.2.1]) b.2.2.1 b.2.2.2 ?_
  exact r7.cg (a.1 _ (by omega) (by omega)) (fun c hc => a.1 _ (by omega) (by omega)) (fun c _ => by rw [a.2.1]) (fun q hq => a.1 q (by omega) (by omega)) a.2.2.1 a.2.2.2 (b.1 _ (by omega)) (by rw [b.2.1])

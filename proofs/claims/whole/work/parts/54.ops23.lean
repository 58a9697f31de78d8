/-! PURE LAYER 23: the reference's hour of a cell -/
theorem crw_set {h c k : Nat} {v : Int32} {ν : XMem} : crw (sI ν (h + 1) (11 + 17 * c + k) v) h c = uf (crw ν h c) k v := by
  funext y
  unfold crw uf
  rw [mI_sI, if_pos rfl]
  by_cases e : y = k
  · subst e; simp
  · rw [if_neg (by omega), if_neg e]
/-- only the row of c and the pile were written -/
def OnM (h c : Nat) (ν ν' : XMem) : Prop := (∀ q, q ≠ h + 1 → q ≠ h + 10 → mI ν' q = mI ν q) ∧ (∀ y, (y < 11 + 17 * c ∨ 28 + 17 * c ≤ y) → mI ν' (h + 1) y = mI ν (h + 1) y) ∧ mL ν' = mL ν ∧ mR ν' = mR ν ∧ mN ν' = mN ν
theorem OnM.refl (h c : Nat) (ν : XMem) : OnM h c ν ν := ⟨fun _ _ _ => rfl, fun _ _ => rfl, rfl, rfl, rfl⟩
theorem OnM.st {h c k : Nat} {v : Int32} {ν ν' : XMem} (a : OnM h c ν ν') (hk : k < 17) : OnM h c ν (sI ν' (h + 1) (11 + 17 * c + k) v) :=
  ⟨fun q q1 q2 => by rw [mI_ne q1]; exact a.1 q q1 q2, fun y hy => by rw [mI_off (by omega)]; exact a.2.1 y hy, a.2.2.1, a.2.2.2.1, a.2.2.2.2⟩
theorem OnM.wk {h c : Nat} {ν ν' ν'' : XMem} (a : OnM h c ν ν') (b : WkM h ν' ν'') : OnM h c ν ν'' :=
  ⟨fun q q1 q2 => (b.1 q q2).trans (a.1 q q1 q2), fun y hy => by rw [b.1 _ (by omega)]; exact a.2.1 y hy, b.2.1.trans a.2.2.1, b.2.2.1.trans a.2.2.2.1, b.2.2.2.trans a.2.2.2.2⟩
theorem OnM.trans {h c : Nat} {ν ν' ν'' : XMem} (a : OnM h c ν ν') (b : OnM h c ν' ν'') : OnM h c ν ν'' :=
  ⟨fun q q1 q2 => (b.1 q q1 q2).trans (a.1 q q1 q2), fun y hy => (b.2.1 y hy).trans (a.2.1 y hy), b.2.2.1.trans a.2.2.1, b.2.2.2.1.trans a.2.2.2.1, b.2.2.2.2.trans a.2.2.2.2⟩
theorem OnM.L {h c : Nat} {ν ν' : XMem} (a : OnM h c ν ν') (L : LM h (mR ν) (mN ν)) : LM h (mR ν') (mN ν') := by rw [a.2.2.2.1, a.2.2.2.2]; exact L
/-- the sums of the week, one after another -/
theorem goes_sums {h c : Nat} (hc : c < 8) {k : XMem → Option XMem} : ∀ (m n i : Nat) (ν : XMem), LM h (mR ν) (mN ν) → i + m = 4 → m < n → ∃ ν', f_X10_goes_h327 h (nI c) k n (nI i) ν = k ν' ∧ OnM h c ν ν' ∧ ∀ y, crw ν' h c y = if 13 + i ≤ y ∧ y < 17 then crw ν h c y + crw ν h c (y - 5) else crw ν h c y := by
  intro m
  induction m with
  | zero =>
    intro n i ν L hi hm
    obtain ⟨n, rfl⟩ : ∃ q, n = q + 1 := ⟨n - 1, by omega⟩
    have hcc : (4 : Int32) ≤ nI i := nI_le (a := 4) (by omega) (by omega)
    exact ⟨ν, by rw [f_X10_goes_h327, if_pos hcc], OnM.refl h c ν, fun y => by rw [if_neg (by omega)]⟩
  | succ m ih =>
    intro n i ν L hi hm
    obtain ⟨n, rfl⟩ : ∃ q, n = q + 1 := ⟨n - 1, by omega⟩
    have hcc : ¬ (4 : Int32) ≤ nI i := nI_ge (b := 4) (by omega) (by omega)
    have k1 : (13 : Int32) + nI i = nI (13 + i) := nI_add 13 i
    have k2 : (8 : Int32) + nI i = nI (8 + i) := nI_add 8 i
    obtain ⟨ν', z1, z2, z3⟩ := ih n (i + 1) (sI ν (h + 1) (11 + 17 * c + (13 + i)) (crw ν h c (13 + i) + crw ν h c (8 + i))) L (by omega) (by omega)
    refine ⟨ν', ?_, ((OnM.refl h c ν).st (by omega)).trans z2, fun y => ?_⟩
    · rw [f_X10_goes_h327, if_neg hcc, k1, k2, X10_ofCell_eq L hc (by omega), b2_mk, X10_ofCell_eq L hc (by omega), b2_mk, X10_puts_eq L hc (by omega), b1_mk, nm_mk, nI_1]
      exact z1
    · rw [z3 y, crw_set]
      by_cases hy : y = 13 + i
      · subst hy
        rw [if_neg (by omega), if_pos (by omega), uf_at, show 13 + i - 5 = 8 + i by omega]
      · rw [uf_ne hy]
        by_cases h2 : 13 + (i + 1) ≤ y ∧ y < 17
        · rw [if_pos h2, if_pos (by omega), uf_ne (by omega)]
        · rw [if_neg h2, if_neg (by omega)]
/-- the reference works any whole text out -/
theorem X10_worked_ok {h ti c : Nat} {t : List Int32} {ν : XMem} (r2 : LM h (mR ν) (mN ν)) (htm : TM ν (h + 1) ti t) (hwf : WFT t) (hti : ti < 8) (hc : c < 8) (hm : ¬ crw ν h c 3 = 0) (x3 : Int32) : ∃ v ν', f_X10_worked h (nI ti) (nI c) x3 ν = some (v, ν') ∧ WkM h ν ν' := by
  obtain ⟨hlen, hw⟩ := hwf
  obtain ⟨t1, t2⟩ := htm
  rcases hw with hw | hw
  · subst hw
    exact ⟨_, ν, X10_worked_nil r2 hti t1, WkM.refl h ν⟩
  · have tne : t ≠ [] := fun e => by rw [e] at hw; simp [wfs] at hw
    have tpos : 0 < t.length := List.length_pos_iff.mpr tne
    unfold f_X10_worked
    have q1 : (243 : Int32) + 102 * nI ti = nI (243 + 102 * ti) := by
      show nI 243 + nI 102 * nI ti = _
      rw [pk_mul, nI_add]
    simp only [nm_mk, q1]
    obtain ⟨ν1, x1, x2, x4, x5⟩ := X10_loop (h := h) hti hc (x3 := x3) (k := fun m102 => fo (mR m102 h 0) fun b103 => gd (ib (nI (243 + 102 * ti)) (mN m102 b103)) <| if (mI m102 b103 (Int32.toNatClampNeg (nI (243 + 102 * ti)))) ≤ 0 then (if nI ti = 7 then some (1, m102) else some (0, m102)) else (fo (mR m102 h 16) fun b105 => gd (ib 0 (mN m102 b105)) <| some ((mI m102 b105 (Int32.toNatClampNeg 0)), m102))) t 2000 0 [] ν r2 hm (by omega) (by rw [Nat.zero_add]; exact t1) (fun j hj => by rw [Nat.zero_add]; exact t2 j hj) (by simp) trivial hw (by omega)
    refine ⟨mI ν1 (h + 10) 0, ν1, x1.trans ?_, x2⟩
    have e1 : mI ν1 (h + 1) = mI ν (h + 1) := x2.1 _ (by omega)
    have n0 : ¬ nI t.length ≤ 0 := nI_nle tpos (by omega)
    have j0 : Int32.toNatClampNeg 0 = 0 := by decide
    have i0 : ib 0 102 = true := by decide
    show fo (mR ν1 h 0) _ = _
    rw [x2.2.2.1, r2.1.1, fo_mk, x2.2.2.2, r2.2.1, ib_nI (by omega) (by omega), gd_mk, nI_clamp (by omega), e1, t1, if_neg n0, r2.1.2.2.2.2.2.2.2.2.2.1, fo_mk, r2.2.2.2.2.2.2.2.2.2.2.1, i0, gd_mk, j0]

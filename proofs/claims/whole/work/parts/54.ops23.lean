/-! PURE LAYER 23: the reference's hour of a cell -/
theorem crw_set {h c k : Nat} {v : Int32} {ν : XMem} : crw (sI ν (h + 1) (11 + 17 * c + k) v) h c = uf (crw ν h c) k v := by
  funext y
  unfold crw uf
  rw [mI_sI, if_pos rfl]
  by_cases e : y = k
  · subst e; simp
  · rw [if_neg (by omega), if_neg e]
/-- only the row of c and the pile were written -/
def OnM (h c : Nat) (ν ν' : XMem) : Prop := (∀ q, q ≠ h + 1 → q ≠ h + 10 → mI ν' q = mI ν q) ∧ (∀ y, (y < 11 + 17 * c ∨ 28 + 17 * c ≤ y) → mI ν' (h + 1) y = mI ν (h + 1) y) ∧ mL ν' = mL ν ∧ mR ν' = mR ν ∧ mN ν' = mN ν
theorem OnM.refl (h c : Nat) (ν : XMem) : OnM h c ν ν := ⟨fun _ _ _ => rfl, fun _ _ => rfl, rfl, rfl, rfl⟩
theorem OnM.st {h c k : Nat} {v : Int32} {ν ν' : XMem} (a : OnM h c ν ν') (hk : k < 17) : OnM h c ν (sI ν' (h + 1) (11 + 17 * c + k) v) :=
  ⟨fun q q1 q2 => by rw [mI_ne q1]; exact a.1 q q1 q2, fun y hy => by rw [mI_off (by omega)]; exact a.2.1 y hy, a.2.2.1, a.2.2.2.1, a.2.2.2.2⟩
theorem OnM.wk {h c : Nat} {ν ν' ν'' : XMem} (a : OnM h c ν ν') (b : WkM h ν' ν'') : OnM h c ν ν'' :=
  ⟨fun q q1 q2 => (b.1 q q2).trans (a.1 q q1 q2), fun y hy => by rw [b.1 _ (by omega)]; exact a.2.1 y hy, b.2.1.trans a.2.2.1, b.2.2.1.trans a.2.2.2.1, b.2.2.2.trans a.2.2.2.2⟩
theorem OnM.trans {h c : Nat} {ν ν' ν'' : XMem} (a : OnM h c ν ν') (b : OnM h c ν' ν'') : OnM h c ν ν'' :=
  ⟨fun q q1 q2 => (b.1 q q1 q2).trans (a.1 q q1 q2), fun y hy => (b.2.1 y hy).trans (a.2.1 y hy), b.2.2.1.trans a.2.2.1, b.2.2.2.1.trans a.2.2.2.1, b.2.2.2.2.trans a.2.2.2.2⟩
theorem OnM.L {h c : Nat} {ν ν' : XMem} (a : OnM h c ν ν') (L : LM h (mR ν) (mN ν)) : LM h (mR ν') (mN ν') := by rw [a.2.2.2.1, a.2.2.2.2]; exact L
/-- the sums of the week, one after another -/
theorem goes_sums {h c : Nat} (hc : c < 8) {k : XMem → Option XMem} : ∀ (m n i : Nat) (ν : XMem), LM h (mR ν) (mN ν) → i + m = 4 → m < n → ∃ ν', f_X10_goes_h327 h (nI c) k n (nI i) ν = k ν' ∧ OnM h c ν ν' ∧ ∀ y, crw ν' h c y = if 13 + i ≤ y ∧ y < 17 then crw ν h c y + crw ν h c (y - 5) else crw ν h c y := by
  intro m
  induction m with
  | zero =>
    intro n i ν L hi hm
    obtain ⟨n, rfl⟩ : ∃ q, n = q + 1 := ⟨n - 1, by omega⟩
    have hcc : (4 : Int32) ≤ nI i := nI_le (a := 4) (by omega) (by omega)
    exact ⟨ν, by rw [f_X10_goes_h327, if_pos hcc], OnM.refl h c ν, fun y => by rw [if_neg (by omega)]⟩
  | succ m ih =>
    intro n i ν L hi hm
    obtain ⟨n, rfl⟩ : ∃ q, n = q + 1 := ⟨n - 1, by omega⟩
    have hcc : ¬ (4 : Int32) ≤ nI i := nI_ge (b := 4) (by omega) (by omega)
    have k1 : (13 : Int32) + nI i = nI (13 + i) := nI_add 13 i
    have k2 : (8 : Int32) + nI i = nI (8 + i) := nI_add 8 i
    obtain ⟨ν', z1, z2, z3⟩ := ih n (i + 1) (sI ν (h + 1) (11 + 17 * c + (13 + i)) (crw ν h c (13 + i) + crw ν h c (8 + i))) L (by omega) (by omega)
    refine ⟨ν', ?_, ((OnM.refl h c ν).st (by omega)).trans z2, fun y => ?_⟩
    · rw [f_X10_goes_h327, if_neg hcc, k1, k2, X10_ofCell_eq L hc (by omega), b2_mk, X10_ofCell_eq L hc (by omega), b2_mk, X10_puts_eq L hc (by omega), b1_mk, nm_mk, nI_1]
      exact z1
    · rw [z3 y, crw_set]
      by_cases hy : y = 13 + i
      · subst hy
        rw [if_neg (by omega), if_pos (by omega), uf_at, show 13 + i - 5 = 8 + i by omega]
      · rw [uf_ne hy]
        by_cases h2 : 13 + (i + 1) ≤ y ∧ y < 17
        · rw [if_pos h2, if_pos (by omega), uf_ne (by omega)]
        · rw [if_neg h2, if_neg (by omega)]

/-! PURE LAYER 18: the reference works a text out -/
def WkM (h : Nat) (ν ν' : XMem) : Prop := (∀ q, q ≠ h + 10 → mI ν' q = mI ν q) ∧ mL ν' = mL ν ∧ mR ν' = mR ν ∧ mN ν' = mN ν
theorem WkM.refl (h : Nat) (ν : XMem) : WkM h ν ν := ⟨fun _ _ => rfl, rfl, rfl, rfl⟩
theorem WkM.trans {h : Nat} {ν ν' ν'' : XMem} (a : WkM h ν ν') (b : WkM h ν' ν'') : WkM h ν ν'' :=
  ⟨fun q h1 => (b.1 q h1).trans (a.1 q h1), b.2.1.trans a.2.1, b.2.2.1.trans a.2.2.1, b.2.2.2.trans a.2.2.2⟩
def vM (ν : XMem) (h ti c : Nat) (x3 : Int32) : Int32 → Int32 := vE (pwr (crw ν h c)) (if ti = 7 then thm (crw ν h c) else wmt (crw ν h c)) x3 (nI c) (crw ν h c 5)
theorem vM_cg {h ti c : Nat} {x3 : Int32} {ν ν' : XMem} (w : WkM h ν ν') : vM ν' h ti c x3 = vM ν h ti c x3 := by
  have : crw ν' h c = crw ν h c := by
    unfold crw
    rw [w.1 _ (by omega)]
  unfold vM
  rw [this]
theorem enc_cases {c : Int32} (h : -5 ≤ c) (h2 : c ≤ 9999) : c = -5 ∨ c = -4 ∨ c = -3 ∨ c = -2 ∨ c = -1 ∨ ∃ n, n ≤ 9999 ∧ c = nI n := by
  by_cases h0 : c < 0
  · simp only [Int32.le_iff_toInt_le, Int32.lt_iff_toInt_lt, ← Int32.toInt_inj] at *
    rw [show (0 : Int32).toInt = 0 from rfl] at *
    rw [show (-5 : Int32).toInt = -5 from rfl] at *
    rw [show (-4 : Int32).toInt = -4 from rfl, show (-3 : Int32).toInt = -3 from rfl, show (-2 : Int32).toInt = -2 from rfl, show (-1 : Int32).toInt = -1 from rfl]
    omega
  · obtain ⟨n, hn, rfl⟩ := nI_of2 (M := 9999) (n := 9999) rfl h0 h2
    exact Or.inr (Or.inr (Or.inr (Or.inr (Or.inr ⟨n, hn, rfl⟩))))
theorem X10_both_eq {c : Int32} (h : -11 ≤ c) (h2 : ¬ -5 ≤ c) (a b : Int32) (ν : XMem) : f_X10_both (enc c) a b ν = some (op2 c a b, ν) := by
  unfold f_X10_both op2
  have le1 : (b ≤ a) ↔ ¬ a < b := Int32.not_lt.symm
  have le2 : (a ≤ b) ↔ ¬ b < a := Int32.not_lt.symm
  rcases op2_cases h h2 with rfl | rfl | rfl | rfl | rfl | rfl
  · rw [if_neg (by decide), if_neg (by decide), if_neg (by decide), if_neg (by decide), if_neg (by decide), if_pos rfl]
    by_cases q : a < b
    · rw [if_pos (le2.mpr (i32_asym q)), if_pos q]
    · rw [if_neg q]
      by_cases q2 : b < a
      · rw [if_neg (fun z => le2.mp z q2)]
      · rw [if_pos (le2.mpr q2), i32_tri q q2]
  · rw [if_neg (by decide), if_neg (by decide), if_neg (by decide), if_neg (by decide), if_pos (by decide), if_neg (by decide), if_pos rfl]
    by_cases q : b < a
    · rw [if_pos (le1.mpr (i32_asym q)), if_pos q]
    · rw [if_neg q]
      by_cases q2 : a < b
      · rw [if_neg (fun z => le1.mp z q2)]
      · rw [if_pos (le1.mpr q2), i32_tri q2 q]
  · rw [if_neg (by decide), if_neg (by decide), if_neg (by decide), if_pos (by decide), if_neg (by decide), if_neg (by decide), if_pos rfl]
    by_cases q : b = 0
    · rw [if_pos q, if_pos q]
    · have : nz b = true := by unfold nz; simp [q]
      rw [if_neg q, if_neg q, this, gd_mk]
  · rw [if_neg (by decide), if_neg (by decide), if_pos (by decide)]; rfl
  · rw [if_neg (by decide), if_pos (by decide)]; rfl
  · rw [if_pos (by decide)]; rfl

/-! PURE LAYER 22: an hour of a cell -/
def gasOf (f : Nat → Int32) : Int32 := pwr f * f 4 / 100
def bkOf (f : Nat → Int32) (x : Int32) : Int32 := if f 0 = 2 then x / 2 else if f 0 = 5 then x / 2 + x / 10 else 0
/-- power, gas, charge, what is made -/
def hA (f : Nat → Int32) (made : Int32) : Nat → Int32 := uf (uf (uf (uf f 8 (pwr f)) 9 (gasOf f - bkOf f (gasOf f))) 5 (if 0 < f 5 - (gasOf f + 99) / 100 then f 5 - (gasOf f + 99) / 100 else 0)) 10 made
/-- what goes to heat, and what is held back -/
def hX (f : Nat → Int32) : Int32 := pwr f - (gasOf f - bkOf f (gasOf f))
def hH (f : Nat → Int32) : Int32 := if f 0 = 3 then (if 1000 ≤ f 7 + hX f / 5 then (hX f - hX f / 5) + (f 7 + hX f / 5) else hX f - hX f / 5) else hX f
def hS (f : Nat → Int32) : Int32 := if f 0 = 3 then (if 1000 ≤ f 7 + hX f / 5 then 0 else f 7 + hX f / 5) else f 7
def hB (f : Nat → Int32) (made : Int32) : Nat → Int32 := uf (uf (hA f made) 7 (hS f)) 6 (f 6 + (hH f + made))
def hL (f : Nat → Int32) (made : Int32) : Int32 := if wmt (hB f made) * f 2 < f 6 + (hH f + made) then wmt (hB f made) * f 2 else f 6 + (hH f + made)
def hour (f : Nat → Int32) (made : Int32) : Nat → Int32 := uf (uf (uf (uf (uf (uf (hB f made) 11 (hL f made)) 6 (f 6 + (hH f + made) - hL f made)) 13 (f 13 + pwr f)) 14 (f 14 + (gasOf f - bkOf f (gasOf f)))) 15 (f 15 + made)) 16 (f 16 + hL f made)
/-- only the numbers of a were written -/
def OnA (a : Nat) (μ μ' : XMem) : Prop := (∀ q, q ≠ a → mI μ' q = mI μ q) ∧ mL μ' = mL μ ∧ mR μ' = mR μ ∧ mN μ' = mN μ
theorem OnA.refl (a : Nat) (μ : XMem) : OnA a μ μ := ⟨fun _ _ => rfl, rfl, rfl, rfl⟩
theorem OnA.st {a k : Nat} {v : Int32} {μ μ' : XMem} (h : OnA a μ μ') : OnA a μ (sI μ' a k v) := ⟨fun q hq => by rw [mI_ne hq]; exact h.1 q hq, h.2.1, h.2.2.1, h.2.2.2⟩
theorem X0_toHeat_eq {a : Nat} {μ : XMem} {f : Nat → Int32} {made : Int32} (e : mI μ a = hA f made) : ∃ μ', f_X0_toHeat a (hX f) μ = some (hH f, μ') ∧ mI μ' a = uf (hA f made) 7 (hS f) ∧ OnA a μ μ' := by
  have e0 : mI μ a 0 = f 0 := by rw [e]; rfl
  have e7 : mI μ a 7 = f 7 := by rw [e]; rfl
  unfold f_X0_toHeat hH hS
  rw [e0]
  by_cases h3 : f 0 = 3
  · simp only [h3, if_true, nm_mk, e7, mI_at]
    by_cases hc : 1000 ≤ f 7 + hX f / 5
    · simp only [hc, if_true]
      refine ⟨_, rfl, ?_, (OnA.refl a μ).st.st⟩
      funext y
      rw [mI_self, mI_self, e]
      unfold uf
      by_cases hy : y = 7 <;> simp [hy]
    · simp only [hc, if_false]
      exact ⟨_, rfl, by rw [mI_self, e], (OnA.refl a μ).st⟩
  · simp only [h3, if_false]
    refine ⟨μ, rfl, ?_, OnA.refl a μ⟩
    rw [e]
    funext y
    by_cases hy : y = 7
    · subst hy; rw [uf_at]; rfl
    · rw [uf_ne hy]
set_option maxHeartbeats 400000 in
theorem X0_passHour_eq {a : Nat} {μ : XMem} (hm : ¬ mI μ a 3 = 0) (made : Int32) : ∃ μ', f_X0_passHour a made μ = some μ' ∧ mI μ' a = hour (mI μ a) made ∧ OnA a μ μ' := by
  generalize hf : mI μ a = f at hm
  unfold f_X0_passHour
  rw [X0_powerThatCounts_eq, b2_mk, nm_mk, hf]
  have s1 : mI (sI μ a 8 (pwr f)) a = uf f 8 (pwr f) := by rw [mI_self, hf]
  unfold f_X0_gasFrom
  rw [s1, b2_mk]
  have g1 : uf f 8 (pwr f) 8 * uf f 8 (pwr f) 4 / 100 = gasOf f := rfl
  rw [g1]
  have bk : f_X0_backOf a (gasOf f) (sI μ a 8 (pwr f)) = some (bkOf f (gasOf f), sI μ a 8 (pwr f)) := by
    unfold f_X0_backOf bkOf
    rw [s1, show uf f 8 (pwr f) 0 = f 0 from rfl]
    repeat' split
    all_goals rfl
  rw [bk, b2_mk, nm_mk]
  have s2 : mI (sI (sI μ a 8 (pwr f)) a 9 (gasOf f - bkOf f (gasOf f))) a = uf (uf f 8 (pwr f)) 9 (gasOf f - bkOf f (gasOf f)) := by rw [mI_self, s1]
  rw [s2, show uf (uf f 8 (pwr f)) 9 (gasOf f - bkOf f (gasOf f)) 5 = f 5 from rfl, nm_mk, nm_mk, nm_mk]
  generalize hμ1 : sI (sI (sI (sI μ a 8 (pwr f)) a 9 (gasOf f - bkOf f (gasOf f))) a 5 (if 0 < f 5 - (gasOf f + 99) / 100 then f 5 - (gasOf f + 99) / 100 else 0)) a 10 made = μ1
  have e1 : mI μ1 a = hA f made := by rw [← hμ1, mI_self, mI_self, s2]; rfl
  have o1 : OnA a μ μ1 := by rw [← hμ1]; exact (OnA.refl a μ).st.st.st.st
  obtain ⟨μ2, t1, t2, t3⟩ := X0_toHeat_eq e1
  rw [e1, show hA f made 8 - hA f made 9 = hX f from rfl, t1, b2_mk, t2, show hA f made 6 = f 6 from rfl, show uf (hA f made) 7 (hS f) 10 = made from rfl, nm_mk]
  have e3 : mI (sI μ2 a 6 (f 6 + (hH f + made))) a = hB f made := by rw [mI_self, t2]; rfl
  have o3 : OnA a μ (sI μ2 a 6 (f 6 + (hH f + made))) := OnA.st ⟨fun q hq => (t3.1 q hq).trans (o1.1 q hq), t3.2.1.trans o1.2.1, t3.2.2.1.trans o1.2.2.1, t3.2.2.2.trans o1.2.2.2⟩
  generalize sI μ2 a 6 (f 6 + (hH f + made)) = μ3 at e3 o3
  rw [X0_warmth_eq (by rw [e3]; exact hm), b2_mk, e3, show hB f made 2 = f 2 from rfl, show hB f made 6 = f 6 + (hH f + made) from rfl, nm_mk, show (if wmt (hB f made) * f 2 < f 6 + (hH f + made) then wmt (hB f made) * f 2 else f 6 + (hH f + made)) = hL f made from rfl]
  simp only [nm_mk]
  refine ⟨_, rfl, ?_, o3.st.st.st.st.st.st⟩
  simp only [mI_self, e3]
  rfl

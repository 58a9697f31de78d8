/-! PURE LAYER 22: an hour of a cell -/
def gasOf (f : Nat → Int32) : Int32 := pwr f * f 4 / 100
def bkOf (f : Nat → Int32) (x : Int32) : Int32 := if f 0 = 2 then x / 2 else if f 0 = 5 then x / 2 + x / 10 else 0
/-- power, gas, charge, what is made -/
def hA (f : Nat → Int32) (made : Int32) : Nat → Int32 := uf (uf (uf (uf f 8 (pwr f)) 9 (gasOf f - bkOf f (gasOf f))) 5 (if 0 < f 5 - (gasOf f + 99) / 100 then f 5 - (gasOf f + 99) / 100 else 0)) 10 made
/-- what goes to heat, and what is held back -/
def hX (f : Nat → Int32) : Int32 := pwr f - (gasOf f - bkOf f (gasOf f))
def hH (f : Nat → Int32) : Int32 := if f 0 = 3 then (if 1000 ≤ f 7 + hX f / 5 then (hX f - hX f / 5) + (f 7 + hX f / 5) else hX f - hX f / 5) else hX f
def hS (f : Nat → Int32) : Int32 := if f 0 = 3 then (if 1000 ≤ f 7 + hX f / 5 then 0 else f 7 + hX f / 5) else f 7
def hB (f : Nat → Int32) (made : Int32) : Nat → Int32 := uf (uf (hA f made) 7 (hS f)) 6 (f 6 + (hH f + made))
def hL (f : Nat → Int32) (made : Int32) : Int32 := if wmt (hB f made) * f 2 < f 6 + (hH f + made) then wmt (hB f made) * f 2 else f 6 + (hH f + made)
def hour (f : Nat → Int32) (made : Int32) : Nat → Int32 := uf (uf (uf (uf (uf (uf (hB f made) 11 (hL f made)) 6 (f 6 + (hH f + made) - hL f made)) 13 (f 13 + pwr f)) 14 (f 14 + (gasOf f - bkOf f (gasOf f)))) 15 (f 15 + made)) 16 (f 16 + hL f made)
/-- only the numbers of a were written -/
def OnA (a : Nat) (μ μ' : XMem) : Prop := (∀ q, q ≠ a → mI μ' q = mI μ q) ∧ mL μ' = mL μ ∧ mR μ' = mR μ ∧ mN μ' = mN μ
theorem OnA.refl (a : Nat) (μ : XMem) : OnA a μ μ := ⟨fun _ _ => rfl, rfl, rfl, rfl⟩
theorem OnA.st {a k : Nat} {v : Int32} {μ μ' : XMem} (h : OnA a μ μ') : OnA a μ (sI μ' a k v) := ⟨fun q hq => by rw [mI_ne hq]; exact h.1 q hq, h.2.1, h.2.2.1, h.2.2.2⟩
theorem X0_toHeat_eq {a : Nat} {μ : XMem} {f : Nat → Int32} {made : Int32} (e : mI μ a = hA f made) : ∃ μ', f_X0_toHeat a (hX f) μ = some (hH f, μ') ∧ mI μ' a = uf (hA f made) 7 (hS f) ∧ OnA a μ μ' := by
  have e0 : mI μ a 0 = f 0 := by rw [e]; rfl
  have e7 : mI μ a 7 = f 7 := by rw [e]; rfl
  unfold f_X0_toHeat hH hS
  rw [e0]
  by_cases h3 : f 0 = 3
  · simp only [h3, if_true, nm_mk, e7, mI_at]
    by_cases hc : 1000 ≤ f 7 + hX f / 5
    · simp only [hc, if_true]
      refine ⟨_, rfl, ?_, (OnA.refl a μ).st.st⟩
      funext y
      rw [mI_self, mI_self, e]
      unfold uf
      by_cases hy : y = 7 <;> simp [hy]
    · simp only [hc, if_false]
      exact ⟨_, rfl, by rw [mI_self, e], (OnA.refl a μ).st⟩
  · simp only [h3, if_false]
    refine ⟨μ, rfl, ?_, OnA.refl a μ⟩
    rw [e]
    funext y
    by_cases hy : y = 7
    · subst hy; rw [uf_at]; rfl
    · rw [uf_ne hy]

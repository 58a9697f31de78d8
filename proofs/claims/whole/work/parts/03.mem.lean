/-! THE PURE STORE: ints, longs, references by address and place; what stands at an address (an object of a class, or a row of a kind with its length); how many addresses there are -/
abbrev XTy : Type := Nat ⊕ (Nat × Nat)
abbrev XMem : Type := (Nat → Nat → Int32) × (Nat → Nat → Int64) × (Nat → Nat → Option Nat) × (Nat → Option XTy) × Nat
def mI (μ : XMem) (a k : Nat) : Int32 := μ.1 a k
def mL (μ : XMem) (a k : Nat) : Int64 := μ.2.1 a k
def mR (μ : XMem) (a k : Nat) : Option Nat := μ.2.2.1 a k
def mT (μ : XMem) (a : Nat) : Option XTy := μ.2.2.2.1 a
def mZ (μ : XMem) : Nat := μ.2.2.2.2
def xlen (t : Option XTy) : Nat := match t with
  | some (.inr q) => q.2
  | _ => 0
def mN (μ : XMem) (a : Nat) : Nat := xlen (mT μ a)
def u2 {α : Type} (f : Nat → Nat → α) (a k : Nat) (v : α) : Nat → Nat → α := fun x y => if x = a then (if y = k then v else f x y) else f x y
def sI (μ : XMem) (a k : Nat) (v : Int32) : XMem := (u2 μ.1 a k v, μ.2)
def sL (μ : XMem) (a k : Nat) (v : Int64) : XMem := (μ.1, u2 μ.2.1 a k v, μ.2.2)
def sR (μ : XMem) (a k : Nat) (v : Option Nat) : XMem := (μ.1, μ.2.1, u2 μ.2.2.1 a k v, μ.2.2.2)
/-- n longs of a row come to another (arraycopy) -/
def sC (μ : XMem) (a0 sp a dp n : Nat) : XMem := (μ.1, (fun x => if x = a then va_cpy (μ.2.1 a0) (μ.2.1 a) sp dp n else μ.2.1 x), μ.2.2)
/-- a new cell -/
def nw (μ : XMem) (t : XTy) : XMem := ((fun x y => if x = mZ μ then 0 else μ.1 x y), (fun x y => if x = mZ μ then 0 else μ.2.1 x y), (fun x y => if x = mZ μ then none else μ.2.2.1 x y), (fun x => if x = mZ μ then some t else mT μ x), mZ μ + 1)
def sZ (μ : XMem) (z : Nat) : XMem := (μ.1, μ.2.1, μ.2.2.1, μ.2.2.2.1, z)
/-! steps of functions -/
def nm {α β : Type} (e : α) (k : α → β) : β := k e
def gd {β : Type} (b : Bool) (k : Option β) : Option β := match b with
  | true => k
  | false => none
def fo {β : Type} (o : Option Nat) (k : Nat → Option β) : Option β := match o with
  | none => none
  | some b => k b
def oc {β : Type} (o : Option Nat) (x : β) (y : Nat → β) : β := match o with
  | none => x
  | some b => y b
def b1 {β : Type} (o : Option XMem) (k : XMem → Option β) : Option β := match o with
  | none => none
  | some q => k q
def b2 {α β : Type} (o : Option (α × XMem)) (k : α → XMem → Option β) : Option β := match o with
  | none => none
  | some q => k q.1 q.2
def ib (i : Int32) (n : Nat) : Bool := !(decide (i < 0)) && decide (i.toNatClampNeg < n)
theorem nm_el {α β : Type} {e x : α} {k : α → Option β} {z : β} (h : nm e k = some z) (ex : x = e) : k x = some z := by subst ex; exact h
theorem gd_el {β : Type} {b : Bool} {k : Option β} {z : β} (h : gd b k = some z) : b = true ∧ k = some z := by
  cases b with
  | true => exact ⟨rfl, h⟩
  | false => cases h
theorem fo_el {β : Type} {o : Option Nat} {k : Nat → Option β} {z : β} (h : fo o k = some z) : ∃ b, o = some b ∧ k b = some z := by
  cases o with
  | none => cases h
  | some b => exact ⟨b, rfl, h⟩
theorem b1_el {β : Type} {o : Option XMem} {k : XMem → Option β} {z : β} (h : b1 o k = some z) : ∃ μ, o = some μ ∧ k μ = some z := by
  cases o with
  | none => cases h
  | some b => exact ⟨b, rfl, h⟩
theorem b2_el {α β : Type} {o : Option (α × XMem)} {k : α → XMem → Option β} {z : β} (h : b2 o k = some z) : ∃ r μ, o = some (r, μ) ∧ k r μ = some z := by
  cases o with
  | none => cases h
  | some b => exact ⟨b.1, b.2, rfl, h⟩
theorem ifp {β : Type} {c : Prop} {d : Decidable c} {x y : Option β} {z : β} (h : (@ite _ c d x y) = some z) (hc : c) : x = some z := by rw [if_pos hc] at h; exact h
theorem ifn {β : Type} {c : Prop} {d : Decidable c} {x y : Option β} {z : β} (h : (@ite _ c d x y) = some z) (hc : ¬ c) : y = some z := by rw [if_neg hc] at h; exact h
theorem ib_in {i : Int32} {n : Nat} (h : ib i n = true) : vp_in i n := by
  unfold ib at h
  simp only [Bool.and_eq_true, Bool.not_eq_true', decide_eq_false_iff_not, decide_eq_true_eq] at h
  rintro (q | q)
  · exact h.1 q
  · omega
theorem ib_nI {j n : Nat} (h : j < n) (hn : n < 2 ^ 31) : ib (nI j) n = true := by
  unfold ib
  have h1 := nI_pos (n := j) (by omega)
  have h2 := nI_clamp (n := j) (by omega)
  simp [h1, h2, h]
/-! reads behind writes -/
theorem mT_sI (μ : XMem) (a k : Nat) (v : Int32) : mT (sI μ a k v) = mT μ := rfl
theorem mT_sL (μ : XMem) (a k : Nat) (v : Int64) : mT (sL μ a k v) = mT μ := rfl
theorem mT_sR (μ : XMem) (a k : Nat) (v : Option Nat) : mT (sR μ a k v) = mT μ := rfl
theorem mT_sC (μ : XMem) (a0 sp a dp n : Nat) : mT (sC μ a0 sp a dp n) = mT μ := rfl
theorem mT_sZ (μ : XMem) (z : Nat) : mT (sZ μ z) = mT μ := rfl
theorem mN_sI (μ : XMem) (a k : Nat) (v : Int32) : mN (sI μ a k v) = mN μ := rfl
theorem mN_sL (μ : XMem) (a k : Nat) (v : Int64) : mN (sL μ a k v) = mN μ := rfl
theorem mN_sR (μ : XMem) (a k : Nat) (v : Option Nat) : mN (sR μ a k v) = mN μ := rfl
theorem mN_sC (μ : XMem) (a0 sp a dp n : Nat) : mN (sC μ a0 sp a dp n) = mN μ := rfl
theorem mN_sZ (μ : XMem) (z : Nat) : mN (sZ μ z) = mN μ := rfl
theorem mZ_sI (μ : XMem) (a k : Nat) (v : Int32) : mZ (sI μ a k v) = mZ μ := rfl
theorem mZ_sL (μ : XMem) (a k : Nat) (v : Int64) : mZ (sL μ a k v) = mZ μ := rfl
theorem mZ_sR (μ : XMem) (a k : Nat) (v : Option Nat) : mZ (sR μ a k v) = mZ μ := rfl
theorem mZ_sC (μ : XMem) (a0 sp a dp n : Nat) : mZ (sC μ a0 sp a dp n) = mZ μ := rfl
theorem mZ_sZ (μ : XMem) (z : Nat) : mZ (sZ μ z) = z := rfl
theorem mI_sI (μ : XMem) (a k : Nat) (v : Int32) (x y : Nat) : mI (sI μ a k v) x y = if x = a then (if y = k then v else mI μ x y) else mI μ x y := rfl
theorem mI_sL (μ : XMem) (a k : Nat) (v : Int64) : mI (sL μ a k v) = mI μ := rfl
theorem mI_sR (μ : XMem) (a k : Nat) (v : Option Nat) : mI (sR μ a k v) = mI μ := rfl
theorem mI_sC (μ : XMem) (a0 sp a dp n : Nat) : mI (sC μ a0 sp a dp n) = mI μ := rfl
theorem mI_sZ (μ : XMem) (z : Nat) : mI (sZ μ z) = mI μ := rfl
theorem mL_sI (μ : XMem) (a k : Nat) (v : Int32) : mL (sI μ a k v) = mL μ := rfl
theorem mL_sL (μ : XMem) (a k : Nat) (v : Int64) (x y : Nat) : mL (sL μ a k v) x y = if x = a then (if y = k then v else mL μ x y) else mL μ x y := rfl
theorem mL_sR (μ : XMem) (a k : Nat) (v : Option Nat) : mL (sR μ a k v) = mL μ := rfl
theorem mL_sZ (μ : XMem) (z : Nat) : mL (sZ μ z) = mL μ := rfl
theorem mR_sI (μ : XMem) (a k : Nat) (v : Int32) : mR (sI μ a k v) = mR μ := rfl
theorem mR_sL (μ : XMem) (a k : Nat) (v : Int64) : mR (sL μ a k v) = mR μ := rfl
theorem mR_sR (μ : XMem) (a k : Nat) (v : Option Nat) (x y : Nat) : mR (sR μ a k v) x y = if x = a then (if y = k then v else mR μ x y) else mR μ x y := rfl
theorem mR_sC (μ : XMem) (a0 sp a dp n : Nat) : mR (sC μ a0 sp a dp n) = mR μ := rfl
theorem mR_sZ (μ : XMem) (z : Nat) : mR (sZ μ z) = mR μ := rfl
theorem mI_nw (μ : XMem) (t : XTy) (x y : Nat) : mI (nw μ t) x y = if x = mZ μ then 0 else mI μ x y := rfl
theorem mL_nw (μ : XMem) (t : XTy) (x y : Nat) : mL (nw μ t) x y = if x = mZ μ then 0 else mL μ x y := rfl
theorem mR_nw (μ : XMem) (t : XTy) (x y : Nat) : mR (nw μ t) x y = if x = mZ μ then none else mR μ x y := rfl
theorem mT_nw (μ : XMem) (t : XTy) (x : Nat) : mT (nw μ t) x = if x = mZ μ then some t else mT μ x := rfl
theorem mZ_nw (μ : XMem) (t : XTy) : mZ (nw μ t) = mZ μ + 1 := rfl

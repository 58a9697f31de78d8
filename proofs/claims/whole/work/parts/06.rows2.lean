theorem fvT_sI {t : FieldType} {μ : XMem} {a k j : Nat} {v : Int32} (h : j ≠ k) : fvT t (sI μ a k v) a j = fvT t μ a j := by
  unfold fvT
  simp only [mI_sI, mL_sI, mR_sI, if_neg h, if_true]
theorem fvT_sL {t : FieldType} {μ : XMem} {a k j : Nat} {v : Int64} (h : j ≠ k) : fvT t (sL μ a k v) a j = fvT t μ a j := by
  unfold fvT
  simp only [mI_sL, mL_sL, mR_sL, if_neg h, if_true]
theorem fvT_sR {t : FieldType} {μ : XMem} {a k j : Nat} {v : Option Nat} (h : j ≠ k) : fvT t (sR μ a k v) a j = fvT t μ a j := by
  unfold fvT
  simp only [mI_sR, mL_sR, mR_sR, if_neg h, if_true]
theorem fitsQ {ty : FieldType} (h : (∃ n, ty = .object n) ∨ ∃ t, ty = .array t) (o : Option Nat) : fits ty (va_rf o) = true := by
  rcases h with ⟨n, rfl⟩ | ⟨t, rfl⟩ <;> cases o <;> rfl
theorem narQ {ty : FieldType} (o : Option Nat) : narrow ty (va_rf o) = va_rf o := by
  cases o <;> cases ty <;> rfl
section XROW2
variable {p : Program} {l : Launch} {e : Env} {R : Room} {s : State} {m : MethodId} {args : Array Value} {below : List Frame} {meth : Method} {c : Code} {H : Heap} {locs : List Loc} {cells slots : Nat} {Q : State → Prop}
variable {cc : ByteArray} {nL pc : Nat} {ls : Array Slot} {rest : List Value} {D : va_G} {E : Nat → ClassId} {A : Nat → Prop} {tU : Nat} {τ : Nat → Option XTy} {μ : XMem} {own : String} {a : Nat}
theorem xo_keep (hw : Wd D E A s τ μ H locs) {ci : Nat} (ht : τ a = some (.inl ci)) (j b : Nat) (h : mR μ a j = some b) : xmt (xrt ci j) (τ b) := by
  have h4 := hw.1.2.2.2 a j b (.inl ci) (by rw [hw.2.2.2.2]; exact ht) h
  rw [hw.2.2.2.2] at h4
  exact h4
theorem xv_I {ci k : Nat} {v : Int32} (hk : xft ci k = .int ∨ xft ci k = .boolean) (j : Nat) : fvT (xft ci j) (sI μ a k v) a j = updV (fun j => fvT (xft ci j) μ a j) k (.int v) j := by
  by_cases hj : j = k
  · subst hj
    rcases hk with hk | hk <;> simp [updV, hk, fvT, mI_sI]
  · simp only [updV, if_neg hj]
    exact fvT_sI hj
theorem xv_L {ci k : Nat} {v : Int64} (hk : xft ci k = .long) (j : Nat) : fvT (xft ci j) (sL μ a k v) a j = updV (fun j => fvT (xft ci j) μ a j) k (.long v) j := by
  by_cases hj : j = k
  · subst hj
    simp [updV, hk, fvT, mL_sL]
  · simp only [updV, if_neg hj]
    exact fvT_sL hj
theorem xv_R {ci k : Nat} {v : Option Nat} (hk : (∃ n, xft ci k = .object n) ∨ ∃ t, xft ci k = .array t) (j : Nat) : fvT (xft ci j) (sR μ a k v) a j = updV (fun j => fvT (xft ci j) μ a j) k (va_rf v) j := by
  by_cases hj : j = k
  · subst hj
    rcases hk with ⟨n, hk⟩ | ⟨t, hk⟩ <;> simp [updV, hk, fvT, mR_sR]
  · simp only [updV, if_neg hj]
    exact fvT_sR hj
theorem u2_ne {α : Type} {f : Nat → Nat → α} {a k x : Nat} {v : α} (h : x ≠ a) : u2 f a k v x = f x := by
  funext y
  simp [u2, h]
theorem xo_R {ci k : Nat} {v : Option Nat} (hw : Wd D E A s τ μ H locs) (ht : τ a = some (.inl ci)) (hv : ∀ b, v = some b → xmt (xrt ci k) (τ b)) (j b : Nat) (h : mR (sR μ a k v) a j = some b) : xmt (xrt ci j) (τ b) := by
  rw [mR_sR] at h
  simp only [if_true] at h
  by_cases hj : j = k
  · subst hj
    simp only [if_true] at h
    exact hv b h
  · rw [if_neg hj] at h
    exact xo_keep hw ht j b h
theorem FA.ty {own : String} {idx ci k : Nat} {ty : FieldType} {fin : Bool} (h : FA own idx ci k ty fin) : xft ci k = ty := by
  obtain ⟨_, _, _, _, _, _, h, _⟩ := h
  exact h
theorem x_putI (C : Cx p s m args c cc nL own D E A tU) (hw : Wd D E A s τ μ H locs) {idx ci k : Nat} (hf : FA own idx ci k .int false) (ht : τ a = some (.inl ci)) {v : Int32} (hdg : decode cc pc = .ok (.putfield idx, 3))
    (kk : ∀ (μ1 : XMem) (H1 : Heap) (locs1 : List Loc), μ1 = sI μ a k v → Wd D E A s τ μ1 H1 locs1 → W p l e R s m args below meth c H1 locs1 cells slots Q (F0 m (pc + 3) ls rest)) : W p l e R s m args below meth c H locs cells slots Q (F0 m pc ls (.int v :: .ref a :: rest)) :=
  x_put C hw hf ht (μ1 := sI μ a k v) rfl rfl hw.2.2.2.2 rfl (fun x hx => u2_ne hx) (fun _ _ => rfl) (fun _ _ => rfl) (xv_I (Or.inl hf.ty)) (xo_keep hw ht) hdg (fun H1 locs1 h => kk _ H1 locs1 rfl h)
theorem x_putZ (C : Cx p s m args c cc nL own D E A tU) (hw : Wd D E A s τ μ H locs) {idx ci k : Nat} (hf : FA own idx ci k .boolean false) (ht : τ a = some (.inl ci)) {v : Int32} (hv : v = 0 ∨ v = 1) (hdg : decode cc pc = .ok (.putfield idx, 3))
    (kk : ∀ (μ1 : XMem) (H1 : Heap) (locs1 : List Loc), μ1 = sI μ a k v → Wd D E A s τ μ1 H1 locs1 → W p l e R s m args below meth c H1 locs1 cells slots Q (F0 m (pc + 3) ls rest)) : W p l e R s m args below meth c H locs cells slots Q (F0 m pc ls (.int v :: .ref a :: rest)) :=
  x_put C hw hf ht (μ1 := sI μ a k v) (by rcases hv with rfl | rfl <;> rfl) (by rcases hv with rfl | rfl <;> rfl) hw.2.2.2.2 rfl (fun x hx => u2_ne hx) (fun _ _ => rfl) (fun _ _ => rfl) (xv_I (Or.inr hf.ty)) (xo_keep hw ht) hdg (fun H1 locs1 h => kk _ H1 locs1 rfl h)
theorem x_putL (C : Cx p s m args c cc nL own D E A tU) (hw : Wd D E A s τ μ H locs) {idx ci k : Nat} (hf : FA own idx ci k .long false) (ht : τ a = some (.inl ci)) {v : Int64} (hdg : decode cc pc = .ok (.putfield idx, 3))
    (kk : ∀ (μ1 : XMem) (H1 : Heap) (locs1 : List Loc), μ1 = sL μ a k v → Wd D E A s τ μ1 H1 locs1 → W p l e R s m args below meth c H1 locs1 cells slots Q (F0 m (pc + 3) ls rest)) : W p l e R s m args below meth c H locs cells slots Q (F0 m pc ls (.long v :: .ref a :: rest)) :=
  x_put C hw hf ht (μ1 := sL μ a k v) rfl rfl hw.2.2.2.2 rfl (fun _ _ => rfl) (fun x hx => u2_ne hx) (fun _ _ => rfl) (xv_L hf.ty) (xo_keep hw ht) hdg (fun H1 locs1 h => kk _ H1 locs1 rfl h)
theorem x_putQ (C : Cx p s m args c cc nL own D E A tU) (hw : Wd D E A s τ μ H locs) {idx ci k : Nat} {ty : FieldType} (hf : FA own idx ci k ty false) (ho : (∃ n, ty = .object n) ∨ ∃ t, ty = .array t) (ht : τ a = some (.inl ci)) {o : Option Nat} (hv : ∀ b, o = some b → xmt (xrt ci k) (τ b)) (hdg : decode cc pc = .ok (.putfield idx, 3))
    (kk : ∀ (μ1 : XMem) (H1 : Heap) (locs1 : List Loc), μ1 = sR μ a k o → Wd D E A s τ μ1 H1 locs1 → W p l e R s m args below meth c H1 locs1 cells slots Q (F0 m (pc + 3) ls rest)) : W p l e R s m args below meth c H locs cells slots Q (F0 m pc ls (va_rf o :: .ref a :: rest)) :=
  x_put C hw hf ht (μ1 := sR μ a k o) (narQ o) (fitsQ ho o) hw.2.2.2.2 rfl (fun _ _ => rfl) (fun _ _ => rfl) (fun x hx => u2_ne hx) (xv_R (by rw [hf.ty]; exact ho)) (xo_R hw ht hv) hdg (fun H1 locs1 h => kk _ H1 locs1 rfl h)
/-- final fields, in a constructor -/
theorem x_putFI (C : Cx p s m args c cc nL own D E A tU) (hin2 : meth.name = "<init>") (hw : Wd D E A s τ μ H locs) {idx ci k : Nat} (hf : FA own idx ci k .int true) (hoc : vwCl[ci]?.map (fun q => q.1) = some own) (ht : τ a = some (.inl ci)) {v : Int32} (hdg : decode cc pc = .ok (.putfield idx, 3))
    (kk : ∀ (μ1 : XMem) (H1 : Heap) (locs1 : List Loc), μ1 = sI μ a k v → Wd D E A s τ μ1 H1 locs1 → W p l e R s m args below meth c H1 locs1 cells slots Q (F0 m (pc + 3) ls rest)) : W p l e R s m args below meth c H locs cells slots Q (F0 m pc ls (.int v :: .ref a :: rest)) :=
  x_putFin C hin2 hw hf hoc ht (μ1 := sI μ a k v) rfl rfl hw.2.2.2.2 rfl (fun x hx => u2_ne hx) (fun _ _ => rfl) (fun _ _ => rfl) (xv_I (Or.inl hf.ty)) (xo_keep hw ht) hdg (fun H1 locs1 h => kk _ H1 locs1 rfl h)
theorem x_putFR (C : Cx p s m args c cc nL own D E A tU) (hin2 : meth.name = "<init>") (hw : Wd D E A s τ μ H locs) {idx ci k b : Nat} {ty : FieldType} (hf : FA own idx ci k ty true) (ho : (∃ n, ty = .object n) ∨ ∃ t, ty = .array t) (hoc : vwCl[ci]?.map (fun q => q.1) = some own) (ht : τ a = some (.inl ci)) (hv : xmt (xrt ci k) (τ b)) (hdg : decode cc pc = .ok (.putfield idx, 3))
    (kk : ∀ (μ1 : XMem) (H1 : Heap) (locs1 : List Loc), μ1 = sR μ a k (some b) → Wd D E A s τ μ1 H1 locs1 → W p l e R s m args below meth c H1 locs1 cells slots Q (F0 m (pc + 3) ls rest)) : W p l e R s m args below meth c H locs cells slots Q (F0 m pc ls (.ref b :: .ref a :: rest)) :=
  x_putFin C hin2 hw hf hoc ht (v := va_rf (some b)) (μ1 := sR μ a k (some b)) (narQ (some b)) (fitsQ ho (some b)) hw.2.2.2.2 rfl (fun _ _ => rfl) (fun _ _ => rfl) (fun x hx => u2_ne hx) (xv_R (by rw [hf.ty]; exact ho)) (xo_R hw ht (fun b' h => by cases h; exact hv)) hdg (fun H1 locs1 h => kk _ H1 locs1 rfl h)
/-! rows (arrays) -/
theorem xa_cell (hw : Wd D E A s τ μ H locs) {e n : Nat} (ht : τ a = some (.inr (e, n))) : H[a]? = some (vp_cell (E e) (n, ctE e μ a)) := hw.1.2.2.1 a e n (by rw [hw.2.2.2.2]; exact ht)
theorem xa_P (hw : Wd D E A s τ μ H locs) {e n : Nat} (ht : τ a = some (.inr (e, n))) : va_P D vwCl [(a, .inl (E e, n, ctE e μ a))] H := by
  intro j q hq
  have hj : j < 1 := (List.getElem?_eq_some_iff.mp hq).1
  rw [show j = 0 by omega] at hq
  cases hq
  exact xa_cell hw ht
theorem xa_n (hw : Wd D E A s τ μ H locs) {e n : Nat} (ht : τ a = some (.inr (e, n))) : mN μ a = n := by
  unfold mN
  rw [hw.2.2.2.2, ht]
  rfl
theorem x_iald (C : Cx p s m args c cc nL own D E A tU) (hw : Wd D E A s τ μ H locs) (ht : ∃ n, τ a = some (.inr (0, n))) {i : Int32} (hi : ib i (mN μ a) = true) (hdg : decode cc pc = .ok (.iaload, 1))
    (kk : W p l e R s m args below meth c H locs cells slots Q (F0 m (pc + 1) ls (.int (mI μ a i.toNatClampNeg) :: rest))) : W p l e R s m args below meth c H locs cells slots Q (F0 m pc ls (.int i :: .ref a :: rest)) := by
  obtain ⟨n, ht⟩ := ht
  rw [xa_n hw ht] at hi
  exact va_iald C.1 C.2.1 C.2.2.2.2.2.1 (xa_P hw ht) 0 0 rfl rfl (ib_in hi) hdg kk
theorem x_bald (C : Cx p s m args c cc nL own D E A tU) (hw : Wd D E A s τ μ H locs) (ht : ∃ n, τ a = some (.inr (1, n))) {i : Int32} (hi : ib i (mN μ a) = true) (hdg : decode cc pc = .ok (.baload, 1))
    (kk : W p l e R s m args below meth c H locs cells slots Q (F0 m (pc + 1) ls (.int (mI μ a i.toNatClampNeg) :: rest))) : W p l e R s m args below meth c H locs cells slots Q (F0 m pc ls (.int i :: .ref a :: rest)) := by
  obtain ⟨n, ht⟩ := ht
  rw [xa_n hw ht] at hi
  exact va_bald C.1 C.2.1 C.2.2.2.2.2.1 (xa_P hw ht) 0 1 rfl rfl (ib_in hi) hdg kk
theorem x_lald (C : Cx p s m args c cc nL own D E A tU) (hw : Wd D E A s τ μ H locs) (ht : ∃ n, τ a = some (.inr (2, n))) {i : Int32} (hi : ib i (mN μ a) = true) (hdg : decode cc pc = .ok (.laload, 1))
    (kk : W p l e R s m args below meth c H locs cells slots Q (F0 m (pc + 1) ls (.long (mL μ a i.toNatClampNeg) :: rest))) : W p l e R s m args below meth c H locs cells slots Q (F0 m pc ls (.int i :: .ref a :: rest)) := by
  obtain ⟨n, ht⟩ := ht
  rw [xa_n hw ht] at hi
  exact va_lald C.1 C.2.1 C.2.2.2.2.2.1 (xa_P hw ht) 0 2 rfl rfl (ib_in hi) hdg kk
/-- a row of references: kinds 3 to 6 -/
theorem x_aald (C : Cx p s m args c cc nL own D E A tU) (hw : Wd D E A s τ μ H locs) {ek : Nat} {Cn : String} (hek : (xtys E)[ek]? = some (E ek, .object Cn)) (h3 : 3 ≤ ek) (ht : ∃ n, τ a = some (.inr (ek, n))) {i : Int32} (hi : ib i (mN μ a) = true) (hdg : decode cc pc = .ok (.aaload, 1))
    (kk : (∀ b, mR μ a i.toNatClampNeg = some b → τ b = some (.inl (xel ek))) → W p l e R s m args below meth c H locs cells slots Q (F0 m (pc + 1) ls (va_rf (mR μ a i.toNatClampNeg) :: rest))) : W p l e R s m args below meth c H locs cells slots Q (F0 m pc ls (.int i :: .ref a :: rest)) := by
  obtain ⟨n, ht⟩ := ht
  rw [xa_n hw ht] at hi
  obtain ⟨k, rfl⟩ : ∃ k, ek = k + 3 := ⟨ek - 3, by omega⟩
  refine va_aldq C.1 C.2.1 C.2.2.2.2.2.1 (xa_P hw ht) 0 (k + 3) (f := mR μ a) rfl hek (ib_in hi) hdg (kk fun b hb => ?_)
  have h4 := hw.1.2.2.2 a _ b (.inr (k + 3, n)) (by rw [hw.2.2.2.2]; exact ht) hb
  rw [hw.2.2.2.2] at h4
  exact h4
theorem x_alen (C : Cx p s m args c cc nL own D E A tU) (hw : Wd D E A s τ μ H locs) {ek : Nat} {ty : FieldType} (hek : (xtys E)[ek]? = some (E ek, ty)) (ht : ∃ n, τ a = some (.inr (ek, n))) (hdg : decode cc pc = .ok (.arraylength, 1))
    (kk : W p l e R s m args below meth c H locs cells slots Q (F0 m (pc + 1) ls (.int (nI (mN μ a)) :: rest))) : W p l e R s m args below meth c H locs cells slots Q (F0 m pc ls (.ref a :: rest)) := by
  obtain ⟨n, ht⟩ := ht
  rw [xa_n hw ht] at kk
  exact va_alen C.1 C.2.1 C.2.2.2.2.2.1 (xa_P hw ht) 0 ek rfl hek rfl hdg kk
theorem Wd.putA (hw : Wd D E A s τ μ H locs) {e n : Nat} {μ1 : XMem} {H1 : Heap} {loc : Nat} (ht : τ a = some (.inr (e, n))) (hT : mT μ1 = τ) (hZ : mZ μ1 = mZ μ)
    (hcell : H1[a]? = some (vp_cell (E e) (n, ctE e μ1 a))) (hI : ∀ x, x ≠ a → mI μ1 x = mI μ x) (hL : ∀ x, x ≠ a → mL μ1 x = mL μ x) (hR : ∀ x, x ≠ a → mR μ1 x = mR μ x)
    (hok : ∀ j b, mR μ1 a j = some b → τ b = some (.inl (xel e))) (z : H1.size = H.size) (oq : ∀ q : Nat, q ≠ a → H1[q]? = H[q]?) : Wd D E A s τ μ1 H1 (locs ++ [⟨a, loc⟩]) := by
  obtain ⟨⟨h1, h2, h3, h4⟩, hS, hA, hA0, hm⟩ := hw
  rw [hm] at h2 h3 h4
  refine ⟨⟨by rw [z, hZ]; exact h1, fun x cx hx => ?_, fun x ex n hx => ?_, fun x kx b t hx hb => ?_⟩, hS.put z oq (hA a _ ht), hA, hA0, hT⟩
  · rw [hT] at hx
    have hxa : x ≠ a := fun q => by rw [q, ht] at hx; cases hx
    obtain ⟨r', g1, g2⟩ := h2 x cx hx
    refine ⟨r', g1, (g2.kept (oq x hxa)).to fun j _ => ?_⟩
    unfold fvT
    simp only [hI x hxa, hL x hxa, hR x hxa]
  · rw [hT] at hx
    by_cases hxa : x = a
    · subst hxa
      rw [ht] at hx
      cases hx
      exact hcell
    · rw [oq x hxa, h3 x ex n hx]
      unfold ctE
      simp only [hI x hxa, hL x hxa, hR x hxa]
  · rw [hT] at hx ⊢
    by_cases hxa : x = a
    · subst hxa
      rw [ht] at hx
      cases hx
      exact hok kx b hb
    · rw [hR x hxa] at hb
      exact h4 x kx b t hx hb
theorem xa_ok (hw : Wd D E A s τ μ H locs) {e n : Nat} (ht : τ a = some (.inr (e, n))) (j b : Nat) (h : mR μ a j = some b) : τ b = some (.inl (xel e)) := by
  have h4 := hw.1.2.2.2 a j b (.inr (e, n)) (by rw [hw.2.2.2.2]; exact ht) h
  rw [hw.2.2.2.2] at h4
  exact h4
theorem x_iast (C : Cx p s m args c cc nL own D E A tU) (hw : Wd D E A s τ μ H locs) (ht : ∃ n, τ a = some (.inr (0, n))) {i v : Int32} (hi : ib i (mN μ a) = true) (hdg : decode cc pc = .ok (.iastore, 1))
    (kk : ∀ (μ1 : XMem) (H1 : Heap) (locs1 : List Loc), μ1 = sI μ a i.toNatClampNeg v → Wd D E A s τ μ1 H1 locs1 → W p l e R s m args below meth c H1 locs1 cells slots Q (F0 m (pc + 1) ls rest)) : W p l e R s m args below meth c H locs cells slots Q (F0 m pc ls (.int v :: .int i :: .ref a :: rest)) := by
  obtain ⟨n, ht⟩ := ht
  rw [xa_n hw ht] at hi
  have hin := ib_in hi
  refine W.iast C.1 C.2.1 (xa_cell hw ht) ((C.2.2.2.2.2.1.2 0 _ rfl).1 n (fun j => .int (mI μ a j))) (fun q => by cases q) (by show ¬ (i < 0 ∨ (arrV _ _ _).slots.size ≤ _); rw [arrV_size]; exact hin) rfl rfl hdg fun H1 e1 z oq => ?_
  refine kk _ H1 _ rfl (hw.putA ht hw.2.2.2.2 rfl ?_ (fun x hx => u2_ne hx) (fun _ _ => rfl) (fun _ _ => rfl) (xa_ok hw ht) z oq)
  rw [e1]
  show some ((arrV (E 0) n fun j => .int (mI μ a j)).setSlot _ _) = some (arrV (E 0) n fun j => .int (mI (sI μ a i.toNatClampNeg v) a j))
  rw [arrV_store]
  congr 2
  funext q
  simp only [updV, mI_sI, if_true]
  by_cases hq : q = i.toNatClampNeg
  · rw [if_pos hq, if_pos hq]
  · rw [if_neg hq, if_neg hq]
theorem x_bast (C : Cx p s m args c cc nL own D E A tU) (hw : Wd D E A s τ μ H locs) (ht : ∃ n, τ a = some (.inr (1, n))) {i v : Int32} (hi : ib i (mN μ a) = true) (hdg : decode cc pc = .ok (.bastore, 1))
    (kk : ∀ (μ1 : XMem) (H1 : Heap) (locs1 : List Loc), μ1 = sI μ a i.toNatClampNeg v.toInt8.toInt32 → Wd D E A s τ μ1 H1 locs1 → W p l e R s m args below meth c H1 locs1 cells slots Q (F0 m (pc + 1) ls rest)) : W p l e R s m args below meth c H locs cells slots Q (F0 m pc ls (.int v :: .int i :: .ref a :: rest)) := by
  obtain ⟨n, ht⟩ := ht
  rw [xa_n hw ht] at hi
  have hin := ib_in hi
  refine W.bast C.1 C.2.1 (xa_cell hw ht) ((C.2.2.2.2.2.1.2 1 _ rfl).1 n (fun j => .int (mI μ a j))) (fun q => by cases q) (by show ¬ (i < 0 ∨ (arrV _ _ _).slots.size ≤ _); rw [arrV_size]; exact hin) rfl rfl hdg fun H1 e1 z oq => ?_
  refine kk _ H1 _ rfl (hw.putA ht hw.2.2.2.2 rfl ?_ (fun x hx => u2_ne hx) (fun _ _ => rfl) (fun _ _ => rfl) (xa_ok hw ht) z oq)
  rw [e1]
  show some ((arrV (E 1) n fun j => .int (mI μ a j)).setSlot _ (.int v.toInt8.toInt32)) = some (arrV (E 1) n fun j => .int (mI (sI μ a i.toNatClampNeg v.toInt8.toInt32) a j))
  rw [arrV_store]
  congr 2
  funext q
  simp only [updV, mI_sI, if_true]
  by_cases hq : q = i.toNatClampNeg
  · rw [if_pos hq, if_pos hq]
  · rw [if_neg hq, if_neg hq]
theorem x_last (C : Cx p s m args c cc nL own D E A tU) (hw : Wd D E A s τ μ H locs) (ht : ∃ n, τ a = some (.inr (2, n))) {i : Int32} {v : Int64} (hi : ib i (mN μ a) = true) (hdg : decode cc pc = .ok (.lastore, 1))
    (kk : ∀ (μ1 : XMem) (H1 : Heap) (locs1 : List Loc), μ1 = sL μ a i.toNatClampNeg v → Wd D E A s τ μ1 H1 locs1 → W p l e R s m args below meth c H1 locs1 cells slots Q (F0 m (pc + 1) ls rest)) : W p l e R s m args below meth c H locs cells slots Q (F0 m pc ls (.long v :: .int i :: .ref a :: rest)) := by
  obtain ⟨n, ht⟩ := ht
  rw [xa_n hw ht] at hi
  have hin := ib_in hi
  refine W.last C.1 C.2.1 (xa_cell hw ht) ((C.2.2.2.2.2.1.2 2 _ rfl).1 n (fun j => .long (mL μ a j))) (fun q => by cases q) (by show ¬ (i < 0 ∨ (arrV _ _ _).slots.size ≤ _); rw [arrV_size]; exact hin) rfl rfl hdg fun H1 e1 z oq => ?_
  refine kk _ H1 _ rfl (hw.putA ht hw.2.2.2.2 rfl ?_ (fun _ _ => rfl) (fun x hx => u2_ne hx) (fun _ _ => rfl) (xa_ok hw ht) z oq)
  rw [e1]
  show some ((arrV (E 2) n fun j => .long (mL μ a j)).setSlot _ _) = some (arrV (E 2) n fun j => .long (mL (sL μ a i.toNatClampNeg v) a j))
  rw [arrV_store]
  congr 2
  funext q
  simp only [updV, mL_sL, if_true]
  by_cases hq : q = i.toNatClampNeg
  · rw [if_pos hq, if_pos hq]
  · rw [if_neg hq, if_neg hq]
theorem x_aast (C : Cx p s m args c cc nL own D E A tU) (hw : Wd D E A s τ μ H locs) {k ci : Nat} {r : vw_C} (hek : (xtys E)[k + 3]? = some (E (k + 3), .object r.1)) (hxe : xel (k + 3) = ci) (hc : vwCl[ci]? = some r) (ht : ∃ n, τ a = some (.inr (k + 3, n))) {i : Int32} {o : Option Nat} (ho : ∀ b, o = some b → τ b = some (.inl ci)) (hi : ib i (mN μ a) = true) (hdg : decode cc pc = .ok (.aastore, 1))
    (kk : ∀ (μ1 : XMem) (H1 : Heap) (locs1 : List Loc), μ1 = sR μ a i.toNatClampNeg o → Wd D E A s τ μ1 H1 locs1 → W p l e R s m args below meth c H1 locs1 cells slots Q (F0 m (pc + 1) ls rest)) : W p l e R s m args below meth c H locs cells slots Q (F0 m pc ls (va_rf o :: .int i :: .ref a :: rest)) := by
  obtain ⟨n, ht⟩ := ht
  rw [xa_n hw ht] at hi
  have hin := ib_in hi
  have hlt : i.toNatClampNeg < n := Nat.not_le.mp fun q => hin (Or.inr q)
  have h0 : ¬ i < 0 := fun q => hin (Or.inl q)
  have hK := C.2.2.2.2.2.1
  have fin : ∀ (H1 : Heap), H1[a]? = some ((arrV (E (k + 3)) n fun j => va_rf (mR μ a j)).setSlot i.toNatClampNeg (va_rf o)) → H1.size = H.size → (∀ q : Nat, q ≠ a → H1[q]? = H[q]?) → W p l e R s m args below meth c H1 (locs ++ [⟨a, i.toNatClampNeg⟩]) cells slots Q (F0 m (pc + 1) ls rest) := by
    intro H1 e1 z oq
    refine kk _ H1 _ rfl (hw.putA ht hw.2.2.2.2 rfl ?_ (fun _ _ => rfl) (fun _ _ => rfl) (fun x hx => u2_ne hx) (fun j b hb => ?_) z oq)
    · rw [e1]
      show some ((arrV (E (k + 3)) n fun j => va_rf (mR μ a j)).setSlot _ _) = some (arrV (E (k + 3)) n fun j => va_rf (mR (sR μ a i.toNatClampNeg o) a j))
      rw [arrV_store]
      congr 2
      funext q
      simp only [updV, mR_sR, if_true]
      by_cases hq : q = i.toNatClampNeg
      · rw [if_pos hq, if_pos hq]
      · rw [if_neg hq, if_neg hq]
    · rw [mR_sR] at hb
      simp only [if_true] at hb
      by_cases hj : j = i.toNatClampNeg
      · rw [if_pos hj] at hb
        rw [hxe]
        exact ho b hb
      · rw [if_neg hj] at hb
        exact xa_ok hw ht j b hb
  cases o with
  | none =>
    exact va_WaastN (C := r.1) C.1 C.2.1 (xa_cell hw ht) ((hK.2 (k + 3) _ hek).1 n (fun j => va_rf (mR μ a j))) (fun h => by cases h) (by show ¬ (i < 0 ∨ (arrV _ _ _).slots.size ≤ _); rw [arrV_size]; exact hin) rfl rfl hdg fin
  | some v =>
    obtain ⟨r', hr', cellV, g1, g2, g3, -⟩ := hw.1.2.1 v ci (by rw [hw.2.2.2.2]; exact ho v rfl)
    have hcls := (hK.1 ci r hc).2
    obtain ⟨kA, comp, k1, k2, k3, -⟩ := (hK.2 (k + 3) _ hek).2
    have hcomp : comp = D.1 ci := Option.some.inj (k3.symm.trans hcls.1)
    subst hcomp
    obtain ⟨kC, hkC, -⟩ := hcls.2
    exact W.aast C.1 C.2.1 (xa_cell hw ht) (fun q h => by cases h) (fun h => by cases h) k1 k2 rfl hkC ⟨h0, by show _ < (arrV _ _ _).slots.size; rw [arrV_size]; exact hlt⟩ g1 (fun q h => by rw [g3] at h; cases h) (by rw [g2]; exact hkC) (by rw [g2]; exact va_assign hcls) rfl rfl hdg fin
end XROW2

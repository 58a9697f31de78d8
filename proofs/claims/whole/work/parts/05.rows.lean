/-! THE STORE IN THE HEAP, and a row an instruction -/
def fvT (t : FieldType) (μ : XMem) (a k : Nat) : Value := match t with
  | .long => .long (mL μ a k)
  | .object _ => va_rf (mR μ a k)
  | .array _ => va_rf (mR μ a k)
  | _ => .int (mI μ a k)
def ctE (e : Nat) (μ : XMem) (a : Nat) : (Nat → Int32) ⊕ (Nat → Int64) ⊕ (Nat → UInt32) ⊕ (Nat → UInt64) ⊕ (Nat → Option Nat) := match e with
  | 0 => .inl (mI μ a)
  | 1 => .inl (mI μ a)
  | 2 => .inr (.inl (mL μ a))
  | _ => .inr (.inr (.inr (.inr (mR μ a))))
def xmt (r : Nat ⊕ Nat) (t : Option XTy) : Prop := match r with
  | .inl c => t = some (.inl c)
  | .inr e => ∃ n, t = some (.inr (e, n))
def xok (t : XTy) (k : Nat) (u : Option XTy) : Prop := match t with
  | .inl c => xmt (xrt c k) u
  | .inr q => xmt (.inl (xel q.1)) u
def xtys (E : Nat → ClassId) : List (ClassId × FieldType) := [(E 0, .int), (E 1, .byte), (E 2, .long), (E 3, .object RX0), (E 4, .object RX2), (E 5, .object RX1), (E 6, .object RX4)]
def XK (D : va_G) (E : Nat → ClassId) (U : State) : Prop := va_K D vwCl (xtys E) U
def XRep (D : va_G) (E : Nat → ClassId) (μ : XMem) (H : Heap) : Prop :=
  H.size = mZ μ ∧ (∀ (a c : Nat), mT μ a = some (.inl c) → ∃ r : vw_C, vwCl[c]? = some r ∧ t_OB a (D.1 c) r.2.2 (D.2 c) H (fun k => fvT (xft c k) μ a k)) ∧
  (∀ (a e n : Nat), mT μ a = some (.inr (e, n)) → H[a]? = some (vp_cell (E e) (n, ctE e μ a))) ∧
  (∀ (a k b : Nat) (t : XTy), mT μ a = some t → mR μ a k = some b → xok t k (mT μ b))
def Wd (D : va_G) (E : Nat → ClassId) (A : Nat → Prop) (s : State) (τ : Nat → Option XTy) (μ : XMem) (H : Heap) (locs : List Loc) : Prop :=
  XRep D E μ H ∧ va_S A s.heap H locs ∧ (∀ (q : Nat) (t : XTy), τ q = some t → A q) ∧ (∀ q : Nat, s.heap.size ≤ q → A q) ∧ mT μ = τ
/-- the words on nest mates -/
def xnest : List Cond := [.methodLinkNest RX8 54 yX7_init RX9, .methodLinkNest RX8 59 yX0_init RX9, .methodLinkNest RX8 60 yX1_init RX9, .methodLinkNest RX9 25 yX5_init RX9, .methodLinkNest RX9 32 yX3_init RX9, .methodLinkNest RX9 49 yX0_init RX9, .methodLinkNest RX9 57 yX4_init RX9, .fieldLinkNest RX9 333 RX4 "numbers" "[J" RX9]
def XN (U : State) : Prop := (va_Nw (.methodLinkNest RX8 54 yX7_init RX9) U ∧ va_Nw (.methodLinkNest RX8 59 yX0_init RX9) U ∧ va_Nw (.methodLinkNest RX8 60 yX1_init RX9) U ∧ va_Nw (.methodLinkNest RX9 25 yX5_init RX9) U ∧ va_Nw (.methodLinkNest RX9 32 yX3_init RX9) U ∧ va_Nw (.methodLinkNest RX9 49 yX0_init RX9) U ∧ va_Nw (.methodLinkNest RX9 57 yX4_init RX9) U ∧ va_Nw (.fieldLinkNest RX9 333 RX4 "numbers" "[J" RX9) U) ∧ va_AO RX0 U ∧ va_AO RX2 U ∧ va_AO RX1 U ∧ va_AO RX4 U
def xUf (k : Nat) : Int32 := match k with
  | 0 => -1
  | 1 => 0
  | 2 => 1
  | 3 => 0
  | 4 => 0
  | _ => 2
/-- the class's one static row -/
def XU (tU : Nat) (A : Nat → Prop) (U : State) (H : Heap) : Prop := va_Z RX9 "UNDER" "[I" (.ref tU) A U H ∧ va_T .int tU 6 (fun k => .int (xUf k)) A U H
def Cx (p : Program) (s : State) (m : MethodId) (args : Array Value) (c : Code) (cc : ByteArray) (nL : Nat) (own : String) (D : va_G) (E : Nat → ClassId) (A : Nat → Prop) (tU : Nat) : Prop :=
  p.tables.exec = Jvm.exec ∧ c.code = cc ∧ c.maxLocals = nL ∧ s.vm.findClass own = some m.cls ∧ (∀ w ∈ gw_tbl, w.before args s = true) ∧ XK D E s ∧ XN s ∧ XU tU A s s.heap
theorem XRep.lt {D : va_G} {E : Nat → ClassId} {μ : XMem} {H : Heap} (h : XRep D E μ H) {a : Nat} {t : XTy} (ht : mT μ a = some t) : a < H.size := by
  obtain ⟨-, h2, h3, -⟩ := h
  cases t with
  | inl c =>
    obtain ⟨r, -, cell, q, -⟩ := h2 a c ht
    exact (Array.getElem?_eq_some_iff.mp q).1
  | inr q =>
    exact (Array.getElem?_eq_some_iff.mp (h3 a q.1 q.2 ht)).1
/-- what another method left alone -/
theorem XRep.kept {D : va_G} {E : Nat → ClassId} {μ : XMem} {H H1 : Heap} (h : XRep D E μ H) (hq : ∀ (a : Nat) (t : XTy), mT μ a = some t → H1[a]? = H[a]?) : XRep D E (sZ μ H1.size) H1 := by
  obtain ⟨-, h2, h3, h4⟩ := h
  refine ⟨rfl, fun a c ht => ?_, fun a e n ht => ?_, h4⟩
  · obtain ⟨r, q1, q2⟩ := h2 a c ht
    exact ⟨r, q1, q2.kept (hq a _ ht)⟩
  · exact (hq a _ ht).trans (h3 a e n ht)
section XROW
variable {p : Program} {l : Launch} {e : Env} {R : Room} {s : State} {m : MethodId} {args : Array Value} {below : List Frame} {meth : Method} {c : Code} {H : Heap} {locs : List Loc} {cells slots : Nat} {Q : State → Prop}
variable {cc : ByteArray} {nL pc : Nat} {ls : Array Slot} {rest : List Value} {D : va_G} {E : Nat → ClassId} {A : Nat → Prop} {tU : Nat} {τ : Nat → Option XTy} {μ : XMem} {own : String} {a : Nat}
theorem x_get (C : Cx p s m args c cc nL own D E A tU) (hw : Wd D E A s τ μ H locs) {idx ci k : Nat} {ty : FieldType} {fin : Bool} (hf : FA own idx ci k ty fin) (ht : τ a = some (.inl ci)) (hdg : decode cc pc = .ok (.getfield idx, 3))
    (kk : W p l e R s m args below meth c H locs cells slots Q (F0 m (pc + 3) ls (fvT ty μ a k :: rest))) : W p l e R s m args below meth c H locs cells slots Q (F0 m pc ls (.ref a :: rest)) := by
  obtain ⟨hx, hb, hml, hown, hts, hK, -⟩ := C
  obtain ⟨Cn, T, N, ⟨hc, hin, hty, hnm, hdc⟩, hk, hl, rfl, -⟩ := hf
  obtain ⟨r, h1, h2⟩ := hw.1.2.1 a ci (by rw [hw.2.2.2.2]; exact ht)
  have hr : r = (Cn, T, N) := Option.some.inj (h1.symm.trans hc)
  subst hr
  have hP : va_P D vwCl [(a, .inr (ci, (List.range N).map (fun k => fvT (xft ci k) μ a k)))] H := by
    intro j q hq
    have hj : j < 1 := (List.getElem?_eq_some_iff.mp hq).1
    rw [show j = 0 by omega] at hq
    cases hq
    exact ⟨_, hc, h2.to (fun k hk => by simp [vp_V, hk])⟩
  exact va_get hx hb hts hin hown hK hP 0 rfl hc k hk (hts _ hl) (fun x h => by rw [hdc k hk] at h; exact h) (by simp [hk]) hdg kk
theorem x_getI (C : Cx p s m args c cc nL own D E A tU) (hw : Wd D E A s τ μ H locs) {idx ci k : Nat} {fin : Bool} (hf : FA own idx ci k .int fin) (ht : τ a = some (.inl ci)) (hdg : decode cc pc = .ok (.getfield idx, 3))
    (kk : W p l e R s m args below meth c H locs cells slots Q (F0 m (pc + 3) ls (.int (mI μ a k) :: rest))) : W p l e R s m args below meth c H locs cells slots Q (F0 m pc ls (.ref a :: rest)) := x_get C hw hf ht hdg kk
theorem x_getZ (C : Cx p s m args c cc nL own D E A tU) (hw : Wd D E A s τ μ H locs) {idx ci k : Nat} {fin : Bool} (hf : FA own idx ci k .boolean fin) (ht : τ a = some (.inl ci)) (hdg : decode cc pc = .ok (.getfield idx, 3))
    (kk : W p l e R s m args below meth c H locs cells slots Q (F0 m (pc + 3) ls (.int (mI μ a k) :: rest))) : W p l e R s m args below meth c H locs cells slots Q (F0 m pc ls (.ref a :: rest)) := x_get C hw hf ht hdg kk
theorem x_getL (C : Cx p s m args c cc nL own D E A tU) (hw : Wd D E A s τ μ H locs) {idx ci k : Nat} {fin : Bool} (hf : FA own idx ci k .long fin) (ht : τ a = some (.inl ci)) (hdg : decode cc pc = .ok (.getfield idx, 3))
    (kk : W p l e R s m args below meth c H locs cells slots Q (F0 m (pc + 3) ls (.long (mL μ a k) :: rest))) : W p l e R s m args below meth c H locs cells slots Q (F0 m pc ls (.ref a :: rest)) := x_get C hw hf ht hdg kk
theorem fvT_o {ty : FieldType} (h : (∃ n, ty = .object n) ∨ ∃ t, ty = .array t) (μ : XMem) (a k : Nat) : fvT ty μ a k = va_rf (mR μ a k) := by
  rcases h with ⟨n, rfl⟩ | ⟨t, rfl⟩ <;> rfl
/-- a reference that may be null -/
theorem x_getQ (C : Cx p s m args c cc nL own D E A tU) (hw : Wd D E A s τ μ H locs) {idx ci k : Nat} {ty : FieldType} {fin : Bool} (hf : FA own idx ci k ty fin) (ho : (∃ n, ty = .object n) ∨ ∃ t, ty = .array t) (ht : τ a = some (.inl ci)) (hdg : decode cc pc = .ok (.getfield idx, 3))
    (kk : W p l e R s m args below meth c H locs cells slots Q (F0 m (pc + 3) ls (va_rf (mR μ a k) :: rest))) : W p l e R s m args below meth c H locs cells slots Q (F0 m pc ls (.ref a :: rest)) := by
  refine x_get C hw hf ht hdg ?_
  rw [fvT_o ho]
  exact kk
/-- a reference that is there: with what stands at it -/
theorem x_getR (C : Cx p s m args c cc nL own D E A tU) (hw : Wd D E A s τ μ H locs) {idx ci k b : Nat} {ty : FieldType} {fin : Bool} (hf : FA own idx ci k ty fin) (ho : (∃ n, ty = .object n) ∨ ∃ t, ty = .array t) (ht : τ a = some (.inl ci)) (hbk : mR μ a k = some b) (hdg : decode cc pc = .ok (.getfield idx, 3))
    (kk : xmt (xrt ci k) (τ b) → W p l e R s m args below meth c H locs cells slots Q (F0 m (pc + 3) ls (.ref b :: rest))) : W p l e R s m args below meth c H locs cells slots Q (F0 m pc ls (.ref a :: rest)) := by
  refine x_getQ C hw hf ho ht hdg ?_
  rw [hbk]
  have h4 := hw.1.2.2.2 a k b (.inl ci) (by rw [hw.2.2.2.2]; exact ht) hbk
  rw [hw.2.2.2.2] at h4
  exact kk h4
/-- the store behind a write of a field -/
theorem Wd.putF (hw : Wd D E A s τ μ H locs) {ci : Nat} {μ1 : XMem} {H1 : Heap} {r : vw_C} {loc : Nat} (hc : vwCl[ci]? = some r) (ht : τ a = some (.inl ci)) (hT : mT μ1 = τ) (hZ : mZ μ1 = mZ μ)
    (hob : t_OB a (D.1 ci) r.2.2 (D.2 ci) H1 (fun j => fvT (xft ci j) μ1 a j)) (hI : ∀ x, x ≠ a → mI μ1 x = mI μ x) (hL : ∀ x, x ≠ a → mL μ1 x = mL μ x) (hR : ∀ x, x ≠ a → mR μ1 x = mR μ x)
    (hok : ∀ j b, mR μ1 a j = some b → xmt (xrt ci j) (τ b)) (z : H1.size = H.size) (oq : ∀ q : Nat, q ≠ a → H1[q]? = H[q]?) : Wd D E A s τ μ1 H1 (locs ++ [⟨a, loc⟩]) := by
  obtain ⟨⟨h1, h2, h3, h4⟩, hS, hA, hA0, hm⟩ := hw
  rw [hm] at h2 h3 h4
  refine ⟨⟨by rw [z, hZ]; exact h1, fun x cx hx => ?_, fun x ex n hx => ?_, fun x kx b t hx hb => ?_⟩, hS.put z oq (hA a _ ht), hA, hA0, hT⟩
  · rw [hT] at hx
    by_cases hxa : x = a
    · subst hxa
      rw [ht] at hx
      cases hx
      exact ⟨r, hc, hob⟩
    · obtain ⟨r', g1, g2⟩ := h2 x cx hx
      refine ⟨r', g1, (g2.kept (oq x hxa)).to fun j _ => ?_⟩
      unfold fvT
      simp only [hI x hxa, hL x hxa, hR x hxa]
  · rw [hT] at hx
    have hxa : x ≠ a := fun q => by rw [q, ht] at hx; cases hx
    rw [oq x hxa, h3 x ex n hx]
    unfold ctE
    simp only [hI x hxa, hL x hxa, hR x hxa]
  · rw [hT] at hx ⊢
    by_cases hxa : x = a
    · subst hxa
      rw [ht] at hx
      cases hx
      exact hok kx b hb
    · rw [hR x hxa] at hb
      exact h4 x kx b t hx hb
theorem x_put (C : Cx p s m args c cc nL own D E A tU) (hw : Wd D E A s τ μ H locs) {idx ci k : Nat} {ty : FieldType} (hf : FA own idx ci k ty false) (ht : τ a = some (.inl ci)) {v : Value} {μ1 : XMem} (hn : narrow ty v = v) (hfit : fits ty v = true)
    (hT : mT μ1 = τ) (hZ : mZ μ1 = mZ μ) (hI : ∀ x, x ≠ a → mI μ1 x = mI μ x) (hL : ∀ x, x ≠ a → mL μ1 x = mL μ x) (hR : ∀ x, x ≠ a → mR μ1 x = mR μ x) (hv : ∀ j, fvT (xft ci j) μ1 a j = updV (fun j => fvT (xft ci j) μ a j) k v j) (hok : ∀ j b, mR μ1 a j = some b → xmt (xrt ci j) (τ b))
    (hdg : decode cc pc = .ok (.putfield idx, 3)) (kk : ∀ (H1 : Heap) (locs1 : List Loc), Wd D E A s τ μ1 H1 locs1 → W p l e R s m args below meth c H1 locs1 cells slots Q (F0 m (pc + 3) ls rest)) : W p l e R s m args below meth c H locs cells slots Q (F0 m pc ls (v :: .ref a :: rest)) := by
  obtain ⟨hx, hb, hml, hown, hts, hK, -⟩ := C
  obtain ⟨Cn, T, N, ⟨hc, hin, hty, hnm, hdc⟩, hk, hl, hkt, hfin⟩ := hf
  obtain ⟨r, h1, h2⟩ := hw.1.2.1 a ci (by rw [hw.2.2.2.2]; exact ht)
  have hr : r = (Cn, T, N) := Option.some.inj (h1.symm.trans hc)
  subst hr
  have hap := va_apart (own := own) hts hin (xft ci) hty hnm hK hc
  obtain ⟨cell, q1, q2, q3, q4⟩ := h2
  obtain ⟨hS, hfc, kC, hkC, hkind⟩ := hK.1 ci _ hc
  obtain ⟨cf, kf, fi, f, hi, hsl⟩ := hS k hk
  have hlay := hts _ (hin _ (u_in_lay hk))
  unfold u_lay at hlay
  rw [if_neg (by rw [hfin]; decide)] at hlay
  have hst := (u_facts hfc hkC (u_lays hts hin hk) hi).1
  have h6 := u_store hfc hkC hkind hlay hi (hty k hk) (by rw [hkt]; exact hn) (by rw [hkt]; exact hfit)
  refine W.putK hx hb (f := f) ⟨hown, hts _ hl, ⟨_, _, _, by rw [hdc k hk] at hi; exact hi⟩, hst⟩ (by rw [q2]; exact h6) q1 q3 (by rw [hsl]; exact k2_hasslot (q4 k hk)) rfl rfl hdg fun H' e1 e2 e3 => ?_
  rw [hsl] at e1 ⊢
  exact kk H' _ (hw.putF h1 ht hT hZ (t_OB.to ⟨_, e1, q2, q3, t_set q4 hap hk v⟩ (fun j _ => (hv j).symm)) hI hL hR hok e2 e3)
theorem x_putFin (C : Cx p s m args c cc nL own D E A tU) (hin2 : meth.name = "<init>") (hw : Wd D E A s τ μ H locs) {idx ci k : Nat} {ty : FieldType} (hf : FA own idx ci k ty true) (hoc : vwCl[ci]?.map (fun q => q.1) = some own) (ht : τ a = some (.inl ci)) {v : Value} {μ1 : XMem} (hn : narrow ty v = v) (hfit : fits ty v = true)
    (hT : mT μ1 = τ) (hZ : mZ μ1 = mZ μ) (hI : ∀ x, x ≠ a → mI μ1 x = mI μ x) (hL : ∀ x, x ≠ a → mL μ1 x = mL μ x) (hR : ∀ x, x ≠ a → mR μ1 x = mR μ x) (hv : ∀ j, fvT (xft ci j) μ1 a j = updV (fun j => fvT (xft ci j) μ a j) k v j) (hok : ∀ j b, mR μ1 a j = some b → xmt (xrt ci j) (τ b))
    (hdg : decode cc pc = .ok (.putfield idx, 3)) (kk : ∀ (H1 : Heap) (locs1 : List Loc), Wd D E A s τ μ1 H1 locs1 → W p l e R s m args below meth c H1 locs1 cells slots Q (F0 m (pc + 3) ls rest)) : W p l e R s m args below meth c H locs cells slots Q (F0 m pc ls (v :: .ref a :: rest)) := by
  obtain ⟨hx, hb, hml, hown, hts, hK, -⟩ := C
  obtain ⟨Cn, T, N, ⟨hc, hin, hty, hnm, hdc⟩, hk, hl, hkt, hfin⟩ := hf
  obtain ⟨r, h1, h2⟩ := hw.1.2.1 a ci (by rw [hw.2.2.2.2]; exact ht)
  have hr : r = (Cn, T, N) := Option.some.inj (h1.symm.trans hc)
  subst hr
  rw [hc] at hoc
  have hoc : Cn = own := Option.some.inj hoc
  have hap := va_apart (own := own) hts hin (xft ci) hty hnm hK hc
  obtain ⟨cell, q1, q2, q3, q4⟩ := h2
  obtain ⟨hS, hfc, kC, hkC, hkind⟩ := hK.1 ci _ hc
  obtain ⟨cf, kf, fi, f, hi, hsl⟩ := hS k hk
  have hlay := hts _ (hin _ (u_in_lay hk))
  unfold u_lay at hlay
  rw [if_pos hfin] at hlay
  have hst := (u_facts hfc hkC (u_lays hts hin hk) hi).1
  have hcf : m.cls = cf := by
    obtain ⟨_, _, c', _, _, _, -, -, hf', -, -, -, hown2, -⟩ := Cond.laysFinal_spec hlay
    have e1 : c' = cf := by have := hi.symm.trans hf'; simp at this; exact this.1.symm
    rw [hdc k hk, hoc] at hown2
    rw [← e1]; exact Option.some.inj (hown.symm.trans hown2)
  have h6 := u_fits hfc hkC hkind (Or.inr hlay) hi (hty k hk) (by rw [hkt]; exact hn) (by rw [hkt]; exact hfit)
  refine W.putFinK hx hb hown (hts _ hl) (by rw [hdc k hk] at hi; exact hi) hst hcf hin2 (by rw [q2]; exact h6) q1 q3 (by rw [hsl]; exact k2_hasslot (q4 k hk)) rfl rfl hdg fun H' e1 e2 e3 => ?_
  rw [hsl] at e1 ⊢
  exact kk H' _ (hw.putF h1 ht hT hZ (t_OB.to ⟨_, e1, q2, q3, t_set q4 hap hk v⟩ (fun j _ => (hv j).symm)) hI hL hR hok e2 e3)
end XROW

/-! PURE LAYER 2: calls that read or write a number -/
def OpI (a b : Option (Int32 × XMem)) (g h : Nat) : Prop := ∃ r μ' ν', a = some (r, μ') ∧ b = some (r, ν') ∧ Rel g μ' h ν'
def OpL (a b : Option (Int64 × XMem)) (g h : Nat) : Prop := ∃ r μ' ν', a = some (r, μ') ∧ b = some (r, ν') ∧ Rel g μ' h ν'
theorem OpI.mk {g h : Nat} {r : Int32} {μ ν : XMem} (x : Rel g μ h ν) : OpI (some (r, μ)) (some (r, ν)) g h := ⟨r, μ, ν, rfl, rfl, x⟩
theorem OpL.mk {g h : Nat} {r : Int64} {μ ν : XMem} (x : Rel g μ h ν) : OpL (some (r, μ)) (some (r, ν)) g h := ⟨r, μ, ν, rfl, rfl, x⟩
theorem OpI.of {g h : Nat} {a b : Option (Int32 × XMem)} {r r' : Int32} {μ ν : XMem} (h1 : a = some (r, μ)) (h2 : b = some (r', ν)) (e : r = r') (x : Rel g μ h ν) : OpI a b g h := by subst e; exact ⟨r, μ, ν, h1, h2, x⟩
def uf {α : Type} (f : Nat → α) (k : Nat) (v : α) : Nat → α := fun y => if y = k then v else f y
theorem mI_self {μ : XMem} {a k : Nat} {v : Int32} : mI (sI μ a k v) a = uf (mI μ a) k v := by
  funext y
  simp only [mI_sI, if_true, uf]
theorem mL_self {μ : XMem} {a k : Nat} {v : Int64} : mL (sL μ a k v) a = uf (mL μ a) k v := by
  funext y
  simp only [mL_sL, if_true, uf]
theorem uf_at {α : Type} {f : Nat → α} {k : Nat} {v : α} : uf f k v k = v := by simp [uf]
theorem uf_ne {α : Type} {f : Nat → α} {k y : Nat} {v : α} (h : y ≠ k) : uf f k v y = f y := by simp [uf, h]
theorem wi_n {v a b : Int32} (h : ¬ wi v a b = 0) : a ≤ v ∧ v ≤ b := by
  unfold wi at h
  split at h
  · exact absurd rfl h
  · split at h
    · exact absurd rfl h
    · exact ⟨Int32.not_lt.mp (by assumption), Int32.not_lt.mp (by assumption)⟩
theorem wi_nat {v b : Int32} {n : Nat} (hb : b.toInt = n) (h : ¬ wi v 0 b = 0) : ∃ j, j ≤ n ∧ v = nI j := by
  obtain ⟨h1, h2⟩ := wi_n h
  obtain ⟨j, e1, e2⟩ := nI_of2 (n := n) hb (Int32.not_lt.mpr h1) h2
  exact ⟨j, e1, e2⟩
theorem iS_n : (if (none : Option Nat).isSome = true then (1 : Int32) else 0) = 0 := rfl
theorem iS_s (j : Nat) : (if (some j : Option Nat).isSome = true then (1 : Int32) else 0) = 1 := rfl
theorem one_nz : ¬ (1 : Int32) = 0 := by decide
theorem LCl {g : Nat} {R : Nat → Nat → Option Nat} {N : Nat → Nat} (h : LC g R N) : LW R N (g + 1) := h.2.2.2.2.2.2.2.2.1
theorem LCk {g : Nat} {R : Nat → Nat → Option Nat} {N : Nat → Nat} (h : LC g R N) : LW R N (g + 23) := h.2.2.2.2.2.2.2.2.2.1
theorem g167 (g j : Nat) : g + 1 + 6 + j = g + 7 + j := by omega
theorem g1614 (g j : Nat) : g + 1 + 14 + j = g + 15 + j := by omega
/-- one number of a cell -/
theorem Rel.setC {g h : Nat} {μ ν : XMem} (r : Rel g μ h ν) {now nc nl nh fl : Nat} {tx : Nat → List Int32} (w : RW μ (g + 1) (g + 63) ν (h + 1) (h + 3) now nc nl nh fl tx) {j k : Nat} (hj : j < nc) (hk : k < 17) {v : Int32} (hi : CInv (uf (mI μ (g + 7 + j)) k v)) : Rel g (sI μ (g + 7 + j) k v) h (sI ν (h + 1) (11 + 17 * j + k) v) := by
  obtain ⟨r1, r2, r3, r4, r5, r6, -, r8⟩ := r
  obtain ⟨w1, w2, w3, w4⟩ := w
  obtain ⟨-, -, p1, p2, p3, p4, p5⟩ := id w1
  refine ⟨r1, r2, r3.cg (mI_ne (by omega)) (mI_ne (by omega)), r4.cg (mI_ne (by omega)) (mI_ne (by omega)) (by rw [mI_ne (by omega)]) (mI_ne (by omega)), r5.cg (fun s hs => mI_ne (by omega)) (fun _ _ => rfl) (mI_ne (by omega)) (mI_ne (by omega)) rfl,
    r6.cg (by rw [mI_ne (by omega)]) (by rw [mI_ne (by omega)]) (mI_ne (by omega)) (fun c hc => mI_ne (by omega)) (fun _ _ => rfl) (fun q hq => mI_ne (by omega)) rfl rfl (mI_ne (by omega)) rfl, ⟨now, nc, nl, nh, fl, tx, ?_, ?_, ?_, ?_⟩, r8.cg (mI_ne (by omega)) (mI_ne (by omega))⟩
  · exact w1.cg (mI_ne (by omega)) (fun q hq => by rw [mI_off (by omega)])
  · intro c hc
    rw [g167]
    have w2c := w2 c hc
    rw [g167] at w2c
    by_cases e : c = j
    · subst e
      rw [mI_self]
      refine ⟨fun q hq => ?_, hi⟩
      by_cases e2 : q = k
      · subst e2
        rw [uf_at, mI_at]
      · rw [uf_ne e2, mI_off (by omega)]
        exact w2c.1 q hq
    · rw [mI_ne (by omega)]
      exact ⟨fun q hq => by rw [mI_off (by omega)]; exact w2c.1 q hq, w2c.2⟩
  · exact w3.cg p4 (fun c hc => by rw [g1614]; exact mI_ne (by omega)) (fun _ _ => rfl) (fun q _ _ => mI_off (by omega)) rfl
  · exact w4.cg (fun q hq => mI_ne (by omega)) (fun _ _ => rfl) (fun _ _ => rfl) rfl rfl (fun q hq => mI_off (by omega))
theorem CInv.set {f : Nat → Int32} (h : CInv f) {k n : Nat} (hk : (k = 1 ∧ n ≤ 9999) ∨ (k = 5 ∧ n ≤ 9999)) : CInv (uf f k (nI n)) := by
  obtain ⟨u, h0, h1⟩ := h
  refine ⟨uf u k n, fun q hq => ?_, ?_⟩
  · by_cases e : q = k
    · subst e; rw [uf_at, uf_at]
    · rw [uf_ne e, uf_ne e]; exact h0 q hq
  · rcases hk with ⟨rfl, hn⟩ | ⟨rfl, hn⟩ <;> simp [uf] <;> omega
set_option maxHeartbeats 1000000 in
theorem op_power {g h : Nat} {μ ν : XMem} (r : Rel g μ h ν) (c v : Int32) : OpI (f_X9_power g c v μ) (f_X10_power h c v ν) g h := by
  obtain ⟨r1, r2, r3, r4, r5, r6, ⟨now, nc, nl, nh, fl, tx, w⟩, r8⟩ := id r
  obtain ⟨⟨a0, a1, a2, a3, a4⟩, ⟨b0, b1, b2, b3, b4⟩, p1, p2, p3, p4, p5⟩ := id w.1
  unfold f_X9_power f_X10_power
  simp only [r1.1, fo_mk, X8_cellAt_eq (LCl r1) a1 p2, b2_mk, X10_isCell_eq r2 b1 (by omega), X9_within_eq, X10_within_eq]
  cases hv : vx nc c with
  | none =>
    simp only [Option.map_none, oc_mn, X9_finding_0 r1, X10_finds_0 r2, b2_mk, iS_n, if_true]
    exact .mk (r.find (by decide))
  | some j =>
    obtain ⟨rfl, hj⟩ := vx_some hv
    simp only [Option.map_some, oc_ms, iS_s, one_nz, if_false, g167]
    by_cases hw : wi v 0 9999 = 0
    · simp only [hw, if_true, X9_finding_0 r1, X10_finds_0 r2, b2_mk]
      exact .mk (r.find (by decide))
    · have hj8 : j < 8 := by omega
      obtain ⟨n, hn, rfl⟩ := wi_nat (n := 9999) rfl hw
      simp only [hw, if_false, nm_mk, ofC_1 r2 hj8, b2_mk, putC_1 r2 hj8, b1_mk]
      have q := w.2.1 j hj
      rw [g167] at q
      exact .of rfl rfl (q.1 1 (by decide)) (r.setC w hj (by decide) (q.2.set (Or.inl ⟨rfl, hn⟩)))

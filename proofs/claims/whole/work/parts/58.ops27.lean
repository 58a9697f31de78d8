/-! PURE LAYER 27: an hour of a cell, both sides -/
def Fr (g : Nat) (μ : XMem) (h : Nat) (ν : XMem) (nl : Nat) (tx : Nat → List Int32) : Prop := LC g (mR μ) (mN μ) ∧ LM h (mR ν) (mN ν) ∧ mI μ (g + 1) 2 = nI nl ∧ RWt μ (g + 1) (g + 63) ν (h + 1) nl tx
theorem Fr.cg {g h nl : Nat} {μ μ' ν ν' : XMem} {tx : Nat → List Int32} (F : Fr g μ h ν nl tx) (e1 : ∀ q, g + 63 ≤ q → mI μ' q = mI μ q) (e2 : mI μ' (g + 1) = mI μ (g + 1)) (e3 : mR μ' = mR μ) (e4 : mN μ' = mN μ) (e5 : mR ν' = mR ν) (e6 : mN ν' = mN ν) (e7 : ∀ k, (5 ≤ k ∧ k < 11) ∨ 243 ≤ k → mI ν' (h + 1) k = mI ν (h + 1) k) : Fr g μ' h ν' nl tx := by
  obtain ⟨f1, f2, f3, f4⟩ := F
  exact ⟨by rw [e3, e4]; exact f1, by rw [e5, e6]; exact f2, by rw [e2]; exact f3, f4.cg e1 (fun q _ => by rw [e3]) (fun q _ => by rw [e4]) (by rw [e3]) (by rw [e3]) e7⟩
theorem Fr.wk {g h nl : Nat} {μ μ' ν ν' : XMem} {tx : Nat → List Int32} (F : Fr g μ h ν nl tx) (a : WkG (g + 5) μ μ') (b : WkM h ν ν') : Fr g μ' h ν' nl tx :=
  F.cg (fun q hq => a.1 q (by omega) (by omega)) (a.1 _ (by omega) (by omega)) a.2.2.1 a.2.2.2 b.2.2.1 b.2.2.2 (fun k _ => by rw [b.1 _ (by omega)])
theorem RW.fr {g h : Nat} {μ ν : XMem} {now nc nl nh fl : Nat} {tx : Nat → List Int32} (w : RW μ (g + 1) (g + 63) ν (h + 1) (h + 3) now nc nl nh fl tx) (r1 : LC g (mR μ) (mN μ)) (r2 : LM h (mR ν) (mN ν)) : Fr g μ h ν nl tx := ⟨r1, r2, w.1.1.2.2.1, w.2.2.2⟩
def LwOk (nl : Nat) (x : Int32) : Prop := x = -1 ∨ ∃ i, i < nl ∧ x = nI i
theorem LwOk.fl {fl nl : Nat} (h : fl ≤ nl) : LwOk nl (nI fl - 1) := by
  cases fl with
  | zero => exact Or.inl (by decide)
  | succ i => exact Or.inr ⟨i, by omega, nI_pred i⟩
theorem LwOk.of {nl : Nat} {x : Int32} (h : x = -1 ∨ (vx nl x).isSome) : LwOk nl x := by
  rcases h with h | h
  · exact Or.inl h
  · cases hv : vx nl x with
    | none => rw [hv] at h; cases h
    | some i => exact Or.inr ⟨i, (vx_some hv).2, (vx_some hv).1⟩
def OnC (g a : Nat) (μ μ' : XMem) : Prop := (∀ q, q ≠ a → q ≠ g + 5 → q ≠ g + 6 → mI μ' q = mI μ q) ∧ mL μ' = mL μ ∧ mR μ' = mR μ ∧ mN μ' = mN μ
theorem OnC.refl (g a : Nat) (μ : XMem) : OnC g a μ μ := ⟨fun _ _ _ _ => rfl, rfl, rfl, rfl⟩
theorem OnC.trans {g a : Nat} {μ μ' μ'' : XMem} (x : OnC g a μ μ') (y : OnC g a μ' μ'') : OnC g a μ μ'' :=
  ⟨fun q h1 h2 h3 => (y.1 q h1 h2 h3).trans (x.1 q h1 h2 h3), y.2.1.trans x.2.1, y.2.2.1.trans x.2.2.1, y.2.2.2.trans x.2.2.2⟩
theorem OnC.wk {g a : Nat} {μ μ' μ'' : XMem} (x : OnC g a μ μ') (y : WkG (g + 5) μ' μ'') : OnC g a μ μ'' :=
  ⟨fun q h1 h2 h3 => (y.1 q h2 h3).trans (x.1 q h1 h2 h3), y.2.1.trans x.2.1, y.2.2.1.trans x.2.2.1, y.2.2.2.trans x.2.2.2⟩
theorem OnC.on {g a : Nat} {μ μ' μ'' : XMem} (x : OnC g a μ μ') (y : OnA a μ' μ'') : OnC g a μ μ'' :=
  ⟨fun q h1 h2 h3 => (y.1 q h1).trans (x.1 q h1 h2 h3), y.2.1.trans x.2.1, y.2.2.1.trans x.2.2.1, y.2.2.2.trans x.2.2.2⟩
theorem Fr.on {g h nl a c : Nat} {μ μ' ν ν' : XMem} {tx : Nat → List Int32} (F : Fr g μ h ν nl tx) (ha : g + 7 ≤ a) (ha2 : a < g + 63) (hc : c < 8) (x : OnC g a μ μ') (y : OnM h c ν ν') : Fr g μ' h ν' nl tx :=
  F.cg (fun q hq => x.1 q (by omega) (by omega) (by omega)) (x.1 _ (by omega) (by omega) (by omega)) x.2.2.1 x.2.2.2 y.2.2.2.1 y.2.2.2.2 (fun k hk => y.2.1 k (by omega))
theorem vx_neg (n : Nat) : vx n (-1) = none := by
  unfold vx
  rw [if_pos (by decide)]
theorem makes_pair {g h nl c a : Nat} {μ ν : XMem} {tx : Nat → List Int32} (F : Fr g μ h ν nl tx) (hc : c < 8) (ha : g + 7 ≤ a) (hq : ∀ k, k < 8 → mI μ a k = crw ν h c k) (hm : ¬ crw ν h c 3 = 0) {x2 : Int32} (hl : LwOk nl x2) (x4 : Int32) :
    ∃ m μ' ν', m ≤ 9999 ∧ f_X8_makesBy (g + 1) x2 a (nI c) x4 μ = some (nI m, μ') ∧ f_X10_goes h (nI c) x2 (-1) x4 ν = f_X10_goes_j27 h (nI c) x2 x4 (nI m) ν' ∧ WkG (g + 5) μ μ' ∧ WkM h ν ν' := by
  obtain ⟨r1, r2, n2, u0, u1, u2', u3, u4⟩ := F
  rcases hl with rfl | ⟨i, hi, rfl⟩
  · refine ⟨0, μ, ν, by omega, ?_, ?_, WkG.refl _ _, WkM.refl _ _⟩
    · unfold f_X8_makesBy
      rw [X8_lawAt_eq (LCl r1) n2 u0, b2_mk, vx_neg, Option.bind_none, oc_mn]
      rfl
    · unfold f_X10_goes
      rw [if_pos (by decide), if_neg (by decide)]
      rfl
  · obtain ⟨la, ta, e1, e2, e3, e4, e5, e6⟩ := u1 i hi
    obtain ⟨e7, e8, e9⟩ := u4 i (Or.inl hi)
    obtain ⟨v, μ', ν', z1, z2, z3, z4⟩ := worked_eq r1 r2 e5 e7 e8 (e9.resolve_left e6) (show i < 8 by omega) hc (show a ≠ g + 5 by omega) (show a ≠ g + 6 by omega) hq hm x4
    rw [if_neg (by omega)] at z1
    obtain ⟨m, m1, m2⟩ := hd_nat v
    refine ⟨m, μ', ν', m1, ?_, ?_, z3, z4⟩
    · unfold f_X8_makesBy
      rw [X8_lawAt_eq (LCl r1) n2 u0, b2_mk, vx_nI hi (by omega), Option.bind_some, e1, oc_ms, (LCl r1).2.2.2.1, fo_mk, e3, fo_mk, X0_warmth_eq (by rw [hq 3 (by decide)]; exact hm), b2_mk, show g + 1 + 4 = g + 5 by omega, z1, b2_mk]
      simp only [nm_mk, hd_C, m2]
    · unfold f_X10_goes
      rw [if_pos (by decide), if_pos (nI_pos' (by omega)), z2, b2_mk, X10_held_eq, b2_mk, m2]
def rayV (ν : XMem) (h : Nat) (x : Int32) : Int32 := if 0 ≤ x then mI ν (h + 1) (5 + x.toNatClampNeg) else 0
theorem rayV_eq {h nl : Nat} {ν : XMem} (L : LM h (mR ν) (mN ν)) (hn : nl ≤ 6) {x : Int32} (hl : LwOk nl x) : f_X10_rayOf h x ν = some (rayV ν h x, ν) := by
  unfold f_X10_rayOf rayV
  rcases hl with rfl | ⟨i, hi, rfl⟩
  · rw [if_neg (by decide), if_neg (by decide)]
  · have q : (5 : Int32) + nI i = nI (5 + i) := nI_add 5 i
    have p : (0 : Int32) ≤ nI i := nI_pos' (by omega)
    rw [if_pos p, if_pos p, L.1.1, fo_mk, L.2.1, q, ib_nI (by omega) (by omega), gd_mk, nI_clamp (by omega), nI_clamp (by omega)]
theorem rayV_cg {h nl c : Nat} {ν ν' : XMem} (hn : nl ≤ 6) {x : Int32} (hl : LwOk nl x) (hc : c < 8) (o : OnM h c ν ν') : rayV ν' h x = rayV ν h x := by
  unfold rayV
  rcases hl with rfl | ⟨i, hi, rfl⟩
  · rw [if_neg (by decide), if_neg (by decide)]
  · rw [nI_clamp (by omega), o.2.1 _ (by omega)]
theorem rays_cls {g h nl : Nat} {μ ν : XMem} {tx : Nat → List Int32} (F : Fr g μ h ν nl tx) {x2 : Int32} (hl : LwOk nl x2) (x : Int32) : f_X8_raysOverFloor (g + 1) x x2 μ = some (x * rayV ν h x2 / 100, μ) := by
  obtain ⟨r1, r2, n2, u0, u1, u2', u3, u4⟩ := F
  unfold f_X8_raysOverFloor rayV
  rcases hl with rfl | ⟨i, hi, rfl⟩
  · rw [X8_lawAt_eq (LCl r1) n2 u0, b2_mk, vx_neg, Option.bind_none, oc_mn, if_neg (by decide), Int32.mul_zero]
    rfl
  · obtain ⟨la, ta, e1, e2, e3, e4, e5, e6⟩ := u1 i hi
    rw [X8_lawAt_eq (LCl r1) n2 u0, b2_mk, vx_nI hi (by omega), Option.bind_some, e1, oc_ms, e4, if_pos (nI_pos' (by omega)), nI_clamp (by omega)]
theorem floor_pair {g h nl c a : Nat} {μ ν : XMem} {tx : Nat → List Int32} (F : Fr g μ h ν nl tx) (hc : c < 8) (ha : g + 7 ≤ a) (hq : ∀ k, k < 8 → mI μ a k = crw ν h c k) (hm : ¬ crw ν h c 3 = 0) (x3 : Int32) :
    ∃ v μ' ν', f_X8_floorOf (g + 1) a (nI c) x3 μ = some (v, μ') ∧ f_X10_worked h 6 (nI c) x3 ν = some (v, ν') ∧ WkG (g + 5) μ μ' ∧ WkM h ν ν' := by
  obtain ⟨r1, r2, n2, u0, u1, u2', u3, u4⟩ := F
  obtain ⟨e7, e8, e9⟩ := u4 6 (by omega)
  unfold f_X8_floorOf
  rw [nm_mk]
  cases ho : mR μ (g + 1) 5 with
  | none =>
    rw [ho] at u2'
    have ht : tx 6 = [] := u2'
    rw [ht] at e7
    exact ⟨0, μ, ν, by rw [oc_mn], X10_worked_nil (ti := 6) r2 (by omega) e7.1, WkG.refl _ _, WkM.refl _ _⟩
  | some ta =>
    rw [ho] at u2'
    obtain ⟨e5, e6⟩ := u2'
    obtain ⟨v, μ', ν', z1, z2, z3, z4⟩ := worked_eq r1 r2 e5 e7 e8 (e9.resolve_left e6) (show 6 < 8 by omega) hc (show a ≠ g + 5 by omega) (show a ≠ g + 6 by omega) hq hm x3
    rw [if_neg (by omega)] at z1
    refine ⟨v, μ', ν', ?_, z2, z3, z4⟩
    rw [oc_ms, (LCl r1).2.2.2.1, fo_mk, fo_mk, X0_warmth_eq (by rw [hq 3 (by decide)]; exact hm), b2_mk, show g + 1 + 4 = g + 5 by omega, z1, b2_mk]
theorem choice_pair {g h nl c a : Nat} {μ ν : XMem} {tx : Nat → List Int32} (F : Fr g μ h ν nl tx) (hc : c < 8) (ha : g + 7 ≤ a) (hq : ∀ k, k < 8 → mI μ a k = crw ν h c k) (hm : ¬ crw ν h c 3 = 0) (x3 : Int32) :
    ∃ v μ' ν', f_X8_choiceOf (g + 1) a (nI c) x3 μ = some (v, μ') ∧ f_X10_worked h 7 (nI c) x3 ν = some (v, ν') ∧ WkG (g + 5) μ μ' ∧ WkM h ν ν' := by
  obtain ⟨r1, r2, n2, u0, u1, u2', u3, u4⟩ := F
  obtain ⟨e7, e8, e9⟩ := u4 7 (by omega)
  unfold f_X8_choiceOf
  rw [nm_mk]
  cases ho : mR μ (g + 1) 6 with
  | none =>
    rw [ho] at u3
    have ht : tx 7 = [] := u3
    rw [ht] at e7
    exact ⟨1, μ, ν, by rw [oc_mn], X10_worked_nil (ti := 7) r2 (by omega) e7.1, WkG.refl _ _, WkM.refl _ _⟩
  | some ta =>
    rw [ho] at u3
    obtain ⟨e5, e6⟩ := u3
    obtain ⟨v, μ', ν', z1, z2, z3, z4⟩ := worked_eq r1 r2 e5 e7 e8 (e9.resolve_left e6) (show 7 < 8 by omega) hc (show a ≠ g + 5 by omega) (show a ≠ g + 6 by omega) hq hm x3
    rw [if_pos rfl] at z1
    refine ⟨v, μ', ν', ?_, z2, z3, z4⟩
    rw [oc_ms, (LCl r1).2.2.2.1, fo_mk, fo_mk, X0_thermometer_eq (by rw [hq 3 (by decide)]; exact hm), b2_mk, show g + 1 + 4 = g + 5 by omega, z1, b2_mk]
theorem hour_cg {f g : Nat → Int32} (e : ∀ k, k < 17 → k ≠ 12 → f k = g k) (m : Int32) : ∀ k, k < 17 → k ≠ 12 → hour f m k = hour g m k := by
  have e0 := e 0 (by omega) (by omega)
  have e1 := e 1 (by omega) (by omega)
  have e2 := e 2 (by omega) (by omega)
  have e3 := e 3 (by omega) (by omega)
  have e4 := e 4 (by omega) (by omega)
  have e5 := e 5 (by omega) (by omega)
  have e6 := e 6 (by omega) (by omega)
  have e7 := e 7 (by omega) (by omega)
  have p : pwr f = pwr g := by unfold pwr; rw [e5, e1]
  have ga : gasOf f = gasOf g := by unfold gasOf; rw [p, e4]
  have bk : ∀ x, bkOf f x = bkOf g x := fun x => by unfold bkOf; rw [e0]
  have x : hX f = hX g := by unfold hX; rw [p, ga, bk]
  have hh : hH f = hH g := by unfold hH; rw [x, e0, e7]
  have hs : hS f = hS g := by unfold hS; rw [x, e0, e7]
  have hw : wmt (hB f m) = wmt (hB g m) := by
    show (f 6 + (hH f + m)) / f 3 = (g 6 + (hH g + m)) / g 3
    rw [e6, e3, hh]
  have hl : hL f m = hL g m := by unfold hL; rw [hw, e2, e6, hh]
  intro k hk k12
  rcases (show k = 0 ∨ k = 1 ∨ k = 2 ∨ k = 3 ∨ k = 4 ∨ k = 5 ∨ k = 6 ∨ k = 7 ∨ k = 8 ∨ k = 9 ∨ k = 10 ∨ k = 11 ∨ k = 13 ∨ k = 14 ∨ k = 15 ∨ k = 16 by omega) with rfl | rfl | rfl | rfl | rfl | rfl | rfl | rfl | rfl | rfl | rfl | rfl | rfl | rfl | rfl | rfl
  · exact e0
  · exact e1
  · exact e2
  · exact e3
  · exact e4
  · show (if 0 < f 5 - (gasOf f + 99) / 100 then f 5 - (gasOf f + 99) / 100 else 0) = (if 0 < g 5 - (gasOf g + 99) / 100 then g 5 - (gasOf g + 99) / 100 else 0)
    rw [ga, e5]
  · show f 6 + (hH f + m) - hL f m = g 6 + (hH g + m) - hL g m
    rw [e6, hh, hl]
  · exact hs
  · exact p
  · show gasOf f - bkOf f (gasOf f) = gasOf g - bkOf g (gasOf g)
    rw [ga, bk]
  · show m = m
    rfl
  · exact hl
  · show f 13 + pwr f = g 13 + pwr g
    rw [e 13 (by omega) (by omega), p]
  · show f 14 + (gasOf f - bkOf f (gasOf f)) = g 14 + (gasOf g - bkOf g (gasOf g))
    rw [e 14 (by omega) (by omega), ga, bk]
  · show f 15 + m = g 15 + m
    rw [e 15 (by omega) (by omega)]
  · show f 16 + hL f m = g 16 + hL g m
    rw [e 16 (by omega) (by omega), hl]
set_option maxHeartbeats 400000 in
theorem warm_pair {g h nl c a : Nat} {μ ν : XMem} {tx : Nat → List Int32} (F : Fr g μ h ν nl tx) (hc : c < 8) (ha : g + 7 ≤ a) (ha2 : a < g + 63) (hq : ∀ k, k < 17 → k ≠ 12 → mI μ a k = crw ν h c k) (hi : CInv (mI μ a)) {x2 : Int32} (hl : LwOk nl x2) (x4 : Int32) :
    ∃ μ' ν' μ'', f_X8_warm (g + 1) a (nI c) x2 x4 μ = some μ' ∧ f_X10_goes h (nI c) x2 (-1) x4 ν = some ν' ∧ f_X8_shine (g + 1) a (nI c) x2 x4 μ' = some μ'' ∧ OnC g a μ μ' ∧ OnC g a μ μ'' ∧ OnM h c ν ν' ∧ (∀ k, k < 17 → k ≠ 12 → mI μ' a k = crw ν' h c k) ∧ (∀ k, k < 17 → mI μ'' a k = crw ν' h c k) ∧ CInv (mI μ' a) ∧ CInv (mI μ'' a) := by
  have hm : ¬ crw ν h c 3 = 0 := by rw [← hq 3 (by omega) (by omega)]; exact hi.mass
  obtain ⟨m, μ1, ν1, hm9, y1, y2, y3, y4⟩ := makes_pair F hc ha (fun k hk => hq k (by omega) (by omega)) hm hl x4
  have F1 : Fr g μ1 h ν1 nl tx := F.wk y3 y4
  have ea : mI μ1 a = mI μ a := y3.1 a (by omega) (by omega)
  obtain ⟨μ2, p1, p2, p3⟩ := X0_passHour_eq (a := a) (μ := μ1) (by rw [ea]; exact hi.mass) (nI m)
  rw [ea] at p2
  have ec : crw ν1 h c = crw ν h c := by unfold crw; rw [y4.1 _ (by omega)]
  have hi' : CInv (crw ν h c) := hi.cg (fun k hk => (hq k (by omega) (by omega)).symm)
  have o1 : OnM h c ν ν1 := (OnM.refl h c ν).wk y4
  have hn6 : nl ≤ 6 := F.2.2.2.1
  obtain ⟨tm6, wf6⟩ := F1.2.2.2.2.2.2.2 6 (by omega)
  obtain ⟨fl, ν2, ν3, ν4, q1, q2, q3, q4, q5, q6, q7, q8⟩ := goes_27 (x2 := x2) (x4 := x4) (ray := rayV ν h x2) F1.2.1 hc tm6 wf6 ec hi' hm9 (fun ν' o => by rw [rayV_eq (o.L F1.2.1) hn6 hl, rayV_cg hn6 hl hc (o1.trans o)])
  have hh := hour_cg hq (nI m)
  have c1 : OnC g a μ μ2 := ((OnC.refl g a μ).wk y3).on p3
  have F2 : Fr g μ2 h ν2 nl tx := F.on ha ha2 hc c1 (o1.trans q2)
  obtain ⟨i1, -⟩ := hour_inv hi hm9
  obtain ⟨v, μ3, ν5, s1, s2, s3, s4⟩ := floor_pair F2 hc ha (fun k hk => by rw [p2, q3 k hk]; exact hh k (by omega) (by omega)) (by rw [q3 3 (by omega)]; exact hm) x4
  rw [q4] at s2
  obtain ⟨rfl, rfl⟩ : fl = v ∧ ν3 = ν5 := by cases s2; exact ⟨rfl, rfl⟩
  have F3 : Fr g μ3 h ν2 nl tx := F2.wk s3 (WkM.refl h ν2)
  have e3 : mI μ3 a = hour (mI μ a) (nI m) := by rw [s3.1 a (by omega) (by omega), p2]
  have m10 : mI μ3 a 10 = nI m := by rw [e3]; rfl
  have c3 : OnC g a μ μ3 := c1.wk s3
  refine ⟨μ2, ν4, sI μ3 a 12 (fl + nI m * rayV ν h x2 / 100), ?_, ?_, ?_, c1, c3.on (OnA.refl a μ3).st, o1.trans q6, fun k hk k12 => ?_, fun k hk => ?_, ?_, ?_⟩
  · unfold f_X8_warm
    rw [y1, b2_mk, p1, b1_mk]
  · rw [y2, q1]
  · unfold f_X8_shine
    rw [s1, b2_mk, m10, rays_cls F3 hl, b2_mk, nm_mk, rayV_cg hn6 hl hc (o1.trans q2)]
  · rw [p2, q7 k hk k12]
    exact hh k hk k12
  · rw [mI_self, e3]
    by_cases k12 : k = 12
    · subst k12
      rw [uf_at, q8]
    · rw [uf_ne k12, q7 k hk k12]
      exact hh k hk k12
  · rw [p2]; exact i1
  · rw [mI_self, e3]
    exact i1.cg (fun k hk => by rw [uf_ne (by omega)])
/-- the same with what is made told -/
theorem told_pair {g h nl c a : Nat} {μ ν : XMem} {tx : Nat → List Int32} (F : Fr g μ h ν nl tx) (hc : c < 8) (ha : g + 7 ≤ a) (ha2 : a < g + 63) (hq : ∀ k, k < 17 → k ≠ 12 → mI μ a k = crw ν h c k) (hi : CInv (mI μ a)) {m : Nat} (hm9 : m ≤ 9999) (x4 : Int32) :
    ∃ μ' ν', f_X0_passHour a (nI m) μ = some μ' ∧ f_X10_goes h (nI c) (-1) (nI m) x4 ν = some ν' ∧ OnC g a μ μ' ∧ OnM h c ν ν' ∧ (∀ k, k < 17 → k ≠ 12 → mI μ' a k = crw ν' h c k) ∧ CInv (mI μ' a) := by
  have hl : LwOk nl (-1) := Or.inl rfl
  obtain ⟨μ2, p1, p2, p3⟩ := X0_passHour_eq (a := a) (μ := μ) hi.mass (nI m)
  have hi' : CInv (crw ν h c) := hi.cg (fun k hk => (hq k (by omega) (by omega)).symm)
  have hn6 : nl ≤ 6 := F.2.2.2.1
  obtain ⟨tm6, wf6⟩ := F.2.2.2.2.2.2.2 6 (by omega)
  obtain ⟨fl, ν2, ν3, ν4, q1, q2, q3, q4, q5, q6, q7, q8⟩ := goes_27 (x2 := -1) (x4 := x4) (ray := rayV ν h (-1)) F.2.1 hc tm6 wf6 rfl hi' hm9 (fun ν' o => by rw [rayV_eq (o.L F.2.1) hn6 hl, rayV_cg hn6 hl hc o])
  obtain ⟨i1, -⟩ := hour_inv hi hm9
  refine ⟨μ2, ν4, p1, ?_, (OnC.refl g a μ).on p3, q6, fun k hk k12 => ?_, by rw [p2]; exact i1⟩
  · unfold f_X10_goes
    rw [if_neg (nI_pos (by omega)), q1]
  · rw [p2, q7 k hk k12]
    exact hour_cg hq (nI m) k hk k12

/-! PURE LAYER 28: an hour of a house, both sides -/
def HRow (g : Nat) (μ : XMem) (h : Nat) (ν : XMem) (now nc j : Nat) : Prop := (∀ k, k < 6 → mI μ (g + 15 + j) k = hrw ν h j k) ∧ (∀ k, k < 6 → mI μ (g + 15 + j) (8 + k) = hrw ν h j (6 + k)) ∧ mL μ (g + 15 + j) 6 = mL ν (h + 3) (2 * j) ∧ mL μ (g + 15 + j) 7 = mL ν (h + 3) (2 * j + 1) ∧ HInv (mI μ (g + 15 + j)) (mL μ (g + 15 + j)) now nc
def OnH (g j : Nat) (μ μ' : XMem) : Prop := (∀ q, q ≠ g + 15 + j → q ≠ g + 5 → q ≠ g + 6 → mI μ' q = mI μ q) ∧ (∀ q, q ≠ g + 15 + j → mL μ' q = mL μ q) ∧ mR μ' = mR μ ∧ mN μ' = mN μ
def OnHM (h j : Nat) (ν ν' : XMem) : Prop := (∀ q, q ≠ h + 1 → q ≠ h + 10 → mI ν' q = mI ν q) ∧ (∀ y, (y < 147 + 12 * j ∨ 159 + 12 * j ≤ y) → mI ν' (h + 1) y = mI ν (h + 1) y) ∧ (∀ q, q ≠ h + 3 → mL ν' q = mL ν q) ∧ (∀ y, y ≠ 2 * j → y ≠ 2 * j + 1 → mL ν' (h + 3) y = mL ν (h + 3) y) ∧ mR ν' = mR ν ∧ mN ν' = mN ν
theorem OnH.refl (g j : Nat) (μ : XMem) : OnH g j μ μ := ⟨fun _ _ _ _ => rfl, fun _ _ => rfl, rfl, rfl⟩
theorem OnHM.refl (h j : Nat) (ν : XMem) : OnHM h j ν ν := ⟨fun _ _ _ => rfl, fun _ _ => rfl, fun _ _ => rfl, fun _ _ _ => rfl, rfl, rfl⟩
theorem OnH.trans {g j : Nat} {μ μ' μ'' : XMem} (x : OnH g j μ μ') (y : OnH g j μ' μ'') : OnH g j μ μ'' :=
  ⟨fun q h1 h2 h3 => (y.1 q h1 h2 h3).trans (x.1 q h1 h2 h3), fun q h1 => (y.2.1 q h1).trans (x.2.1 q h1), y.2.2.1.trans x.2.2.1, y.2.2.2.trans x.2.2.2⟩
theorem OnHM.trans {h j : Nat} {μ μ' μ'' : XMem} (x : OnHM h j μ μ') (y : OnHM h j μ' μ'') : OnHM h j μ μ'' :=
  ⟨fun q h1 h2 => (y.1 q h1 h2).trans (x.1 q h1 h2), fun q h1 => (y.2.1 q h1).trans (x.2.1 q h1), fun q h1 => (y.2.2.1 q h1).trans (x.2.2.1 q h1), fun q h1 h2 => (y.2.2.2.1 q h1 h2).trans (x.2.2.2.1 q h1 h2), y.2.2.2.2.1.trans x.2.2.2.2.1, y.2.2.2.2.2.trans x.2.2.2.2.2⟩
theorem OnH.st {g j k : Nat} {v : Int32} {μ μ' : XMem} (x : OnH g j μ μ') : OnH g j μ (sI μ' (g + 15 + j) k v) := ⟨fun q h1 h2 h3 => by rw [mI_ne h1]; exact x.1 q h1 h2 h3, x.2.1, x.2.2.1, x.2.2.2⟩
theorem OnH.sl {g j k : Nat} {v : Int64} {μ μ' : XMem} (x : OnH g j μ μ') : OnH g j μ (sL μ' (g + 15 + j) k v) := ⟨x.1, fun q h1 => by rw [mL_ne h1]; exact x.2.1 q h1, x.2.2.1, x.2.2.2⟩
theorem OnHM.st {h j k : Nat} {v : Int32} {ν ν' : XMem} (x : OnHM h j ν ν') (hk : k < 12) : OnHM h j ν (sI ν' (h + 1) (147 + 12 * j + k) v) := ⟨fun q h1 h2 => by rw [mI_ne h1]; exact x.1 q h1 h2, fun y hy => by rw [mI_off (by omega)]; exact x.2.1 y hy, x.2.2.1, x.2.2.2.1, x.2.2.2.2.1, x.2.2.2.2.2⟩
theorem OnHM.sl {h j k : Nat} {v : Int64} {ν ν' : XMem} (x : OnHM h j ν ν') (hk : k = 2 * j ∨ k = 2 * j + 1) : OnHM h j ν (sL ν' (h + 3) k v) := ⟨x.1, x.2.1, fun q h1 => by rw [mL_ne h1]; exact x.2.2.1 q h1, fun y h1 h2 => by rw [mL_off (by omega)]; exact x.2.2.2.1 y h1 h2, x.2.2.2.2.1, x.2.2.2.2.2⟩
theorem OnH.wk {g j : Nat} {μ μ' : XMem} (y : WkG (g + 5) μ μ') : OnH g j μ μ' := ⟨fun q _ h2 h3 => y.1 q h2 h3, fun q _ => by rw [y.2.1], y.2.2.1, y.2.2.2⟩
theorem OnHM.wk {h j : Nat} {ν ν' : XMem} (y : WkM h ν ν') : OnHM h j ν ν' := ⟨fun q _ h2 => y.1 q h2, fun k _ => by rw [y.1 _ (by omega)], fun q _ => by rw [y.2.1], fun k _ _ => by rw [y.2.1], y.2.2.1, y.2.2.2⟩
theorem hrw_set {h c k : Nat} {v : Int32} {ν : XMem} : hrw (sI ν (h + 1) (147 + 12 * c + k) v) h c = uf (hrw ν h c) k v := by
  funext y
  unfold hrw uf
  rw [mI_sI, if_pos rfl]
  by_cases e : y = k
  · subst e; simp
  · rw [if_neg (by omega), if_neg e]
theorem HRow.set {g h now nc j kc km : Nat} {μ ν : XMem} {v : Int32} (r : HRow g μ h ν now nc j) (hk : (kc < 6 ∧ km = kc) ∨ (8 ≤ kc ∧ kc < 14 ∧ km = kc - 2)) (hi : HInv (uf (mI μ (g + 15 + j)) kc v) (mL μ (g + 15 + j)) now nc) : HRow g (sI μ (g + 15 + j) kc v) h (sI ν (h + 1) (147 + 12 * j + km) v) now nc j := by
  obtain ⟨r1, r2, r3, r4, r5⟩ := r
  unfold HRow
  rw [hrw_set, mI_self]
  refine ⟨fun k hk' => ?_, fun k hk' => ?_, r3, r4, hi⟩
  · by_cases e : k = kc
    · subst e; rw [uf_at, show km = k by omega, uf_at]
    · rw [uf_ne e, uf_ne (by omega)]; exact r1 k hk'
  · by_cases e : 8 + k = kc
    · rw [e, uf_at, show 6 + k = km by omega, uf_at]
    · rw [uf_ne e, uf_ne (by omega)]; exact r2 k hk'
theorem HInv.mono {f : Nat → Int32} {b : Nat → Int64} {now nc : Nat} (h : HInv f b now nc) : HInv f b (now + 1) nc := by
  obtain ⟨u, h0, h1, h2, h3, h5, h8, h12, hr⟩ := h
  exact ⟨u, h0, h1, h2, h3, h5, h8, h12, by omega⟩
theorem HRow.mono {g h now nc j : Nat} {μ ν : XMem} (r : HRow g μ h ν now nc j) : HRow g μ h ν (now + 1) nc j := ⟨r.1, r.2.1, r.2.2.1, r.2.2.2.1, r.2.2.2.2.mono⟩
theorem HRow.cg {g h now nc j : Nat} {μ ν μ' ν' : XMem} (r : HRow g μ h ν now nc j) (e1 : mI μ' (g + 15 + j) = mI μ (g + 15 + j)) (e2 : mL μ' (g + 15 + j) = mL μ (g + 15 + j)) (e3 : ∀ k, k < 12 → hrw ν' h j k = hrw ν h j k) (e4 : mL ν' (h + 3) (2 * j) = mL ν (h + 3) (2 * j)) (e5 : mL ν' (h + 3) (2 * j + 1) = mL ν (h + 3) (2 * j + 1)) : HRow g μ' h ν' now nc j := by
  obtain ⟨r1, r2, r3, r4, r5⟩ := r
  unfold HRow
  rw [e1, e2, e4, e5]
  exact ⟨fun k hk => by rw [e3 k (by omega)]; exact r1 k hk, fun k hk => by rw [e3 (6 + k) (by omega)]; exact r2 k hk, r3, r4, r5⟩
theorem HInv.set8 {f : Nat → Int32} {b : Nat → Int64} {now nc s : Nat} (h : HInv f b now nc) (hs : s ≤ 2) : HInv (uf f 8 (nI s)) b now nc := by
  obtain ⟨u, h0, h1, h2, h3, h5, h8, h12, hr⟩ := h
  refine ⟨uf u 8 s, h0, h1, h2, h3, h5, rfl, h12, ?_⟩
  show u 0 < nc ∧ u 1 ≤ 99 ∧ u 2 ≤ 1 ∧ u 3 ≤ 1 ∧ u 5 ≤ now ∧ s ≤ 2 ∧ u 12 ≤ 1 ∧ (-(230000000 * (u 5 : Int)) ≤ (b 6).toInt ∧ (b 6).toInt ≤ 230000000 * (u 5 : Int)) ∧ (-(230000000 * (u 5 : Int)) ≤ (b 7).toInt ∧ (b 7).toInt ≤ 230000000 * (u 5 : Int))
  omega
theorem HInv.add {f : Nat → Int32} {b c : Nat → Int64} {now nc : Nat} {d6 d7 : Int64} (h : HInv f b now nc) (hn : now ≤ 2000) (k6 : -230000000 ≤ d6.toInt ∧ d6.toInt ≤ 230000000) (k7 : -230000000 ≤ d7.toInt ∧ d7.toInt ≤ 230000000) (c6 : c 6 = b 6 + d6) (c7 : c 7 = b 7 + d7) : HInv (uf f 5 (f 5 + 1)) c (now + 1) nc := by
  obtain ⟨u, h0, h1, h2, h3, h5, h8, h12, z0, z1, z2, z3, z5, z8, z12, y6, y7⟩ := h
  have s6 : (c 6).toInt = (b 6).toInt + d6.toInt := by rw [c6]; exact l_add (by omega)
  have s7 : (c 7).toInt = (b 7).toInt + d7.toInt := by rw [c7]; exact l_add (by omega)
  refine ⟨uf u 5 (u 5 + 1), h0, h1, h2, h3, ?_, h8, h12, ?_⟩
  · rw [uf_at, uf_at, h5, nI_1]
  · show u 0 < nc ∧ u 1 ≤ 99 ∧ u 2 ≤ 1 ∧ u 3 ≤ 1 ∧ u 5 + 1 ≤ now + 1 ∧ u 8 ≤ 2 ∧ u 12 ≤ 1 ∧ (-(230000000 * ((u 5 + 1 : Nat) : Int)) ≤ (c 6).toInt ∧ (c 6).toInt ≤ 230000000 * ((u 5 + 1 : Nat) : Int)) ∧ (-(230000000 * ((u 5 + 1 : Nat) : Int)) ≤ (c 7).toInt ∧ (c 7).toInt ≤ 230000000 * ((u 5 + 1 : Nat) : Int))
    omega
set_option maxHeartbeats 400000 in
theorem speak_pair {g h now nc j : Nat} {μ ν : XMem} (L : LM h (mR ν) (mN ν)) (hj : j < 8) (hr : HRow g μ h ν now nc j) (x1 : Int32) :
    ∃ μ' ν', f_X1_speak (g + 15 + j) x1 μ = some μ' ∧ f_X10_countsHour_j115 h (nI j) x1 ν = some ν' ∧ HRow g μ' h ν' now nc j ∧ OnH g j μ μ' ∧ OnHM h j ν ν' := by
  have e8 : mI μ (g + 15 + j) 8 = hrw ν h j 6 := hr.2.1 0 (by omega)
  have e4 : mI μ (g + 15 + j) 4 = hrw ν h j 4 := hr.1 4 (by omega)
  have e2 : mI μ (g + 15 + j) 2 = hrw ν h j 2 := hr.1 2 (by omega)
  have ht : hrw ν h j 2 = 0 ∨ hrw ν h j 2 = 1 := by rw [← e2]; exact hr.2.2.2.2.takes
  have eb : bal (mI μ (g + 15 + j)) (mL μ (g + 15 + j)) = balM ν h j := by
    unfold bal balM
    rw [e2, hr.2.2.1, hr.2.2.2.1]
  have second : ∃ μ' ν', f_X1_speak_j33 (g + 15 + j) x1 μ = some μ' ∧ f_X10_countsHour_j160 h (nI j) x1 ν = some ν' ∧ HRow g μ' h ν' now nc j ∧ OnH g j μ μ' ∧ OnHM h j ν ν' := by
    unfold f_X1_speak_j33 f_X10_countsHour_j160
    rw [oH_6 L hj, b2_mk, e8]
    by_cases c1 : hrw ν h j 6 = 1
    · rw [if_pos c1, if_pos c1, X1_balance_eq, b2_mk, X10_itsBalance_eq L hj ht, b2_mk, eb]
      by_cases c2 : 0 < lg_cmp (balM ν h j) 0
      · rw [if_pos c2, if_pos c2]
        exact ⟨μ, ν, rfl, rfl, hr, OnH.refl _ _ _, OnHM.refl _ _ _⟩
      · rw [if_neg c2, if_neg c2, nm_mk, nm_mk, setH_6 L hj, b1_mk, setH_8 (ν := sI ν (h + 1) (147 + 12 * j + 6) 2) L hj, b1_mk]
        have q1 := hr.set (kc := 8) (km := 6) (v := 2) (by omega) (hr.2.2.2.2.set8 (s := 2) (by omega))
        have q2 := q1.set (kc := 10) (km := 8) (v := x1) (by omega) (q1.2.2.2.2.free (by omega))
        exact ⟨_, _, rfl, rfl, q2, (OnH.refl _ _ _).st.st, ((OnHM.refl _ _ _).st (by omega)).st (by omega)⟩
    · rw [if_neg c1, if_neg c1]
      exact ⟨μ, ν, rfl, rfl, hr, OnH.refl _ _ _, OnHM.refl _ _ _⟩
  unfold f_X1_speak f_X10_countsHour_j115
  rw [oH_6 L hj, b2_mk, e8]
  by_cases c1 : hrw ν h j 6 = 0
  · rw [if_pos c1, if_pos c1, X1_balance_eq, b2_mk, X10_itsBalance_eq L hj ht, b2_mk, oH_4 L hj, b2_mk, eb, e4]
    by_cases c2 : lg_cmp (balM ν h j) (Int32.toInt64 (hrw ν h j 4)) < 0
    · rw [if_pos c2, if_pos c2]
      exact second
    · rw [if_neg c2, if_neg c2, nm_mk, nm_mk, setH_6 L hj, b1_mk, setH_7 (ν := sI ν (h + 1) (147 + 12 * j + 6) 1) L hj, b1_mk]
      have q1 := hr.set (kc := 8) (km := 6) (v := 1) (by omega) (hr.2.2.2.2.set8 (s := 1) (by omega))
      have q2 := q1.set (kc := 9) (km := 7) (v := x1) (by omega) (q1.2.2.2.2.free (by omega))
      exact ⟨_, _, rfl, rfl, q2, (OnH.refl _ _ _).st.st, ((OnHM.refl _ _ _).st (by omega)).st (by omega)⟩
  · rw [if_neg c1, if_neg c1]
    exact second
theorem thm_nat {f : Nat → Int32} (hi : CInv f) : ∃ T, T ≤ 2310001 ∧ thm f = nI T := by
  obtain ⟨u, e, h0, h1, ⟨h2, h2'⟩, ⟨h3, h3'⟩, h4, h5, h6, h7, h8⟩ := hi
  have kd : u 6 / u 3 ≤ u 6 := Nat.div_le_self _ _
  have ew : wmt f = nI (u 6 / u 3) := by
    unfold wmt
    rw [e 6 (by omega), e 3 (by omega)]
    exact pk_div (by omega) (by omega) (by omega)
  generalize u 6 / u 3 = w at kd ew
  have d10 : nI w / 10 = nI (w / 10) := pk_div (d := 10) (by omega) (by omega) (by omega)
  have d2 : nI w / 2 = nI (w / 2) := pk_div (d := 2) (by omega) (by omega) (by omega)
  have p5 : nI (w / 2) + 5 = nI (w / 2 + 5) := nI_add _ 5
  unfold thm
  rw [ew, d10, d2, nI_add, p5, nI_1]
  repeat' split
  · exact ⟨_, by omega, rfl⟩
  · exact ⟨_, by omega, rfl⟩
  · exact ⟨_, by omega, rfl⟩
  · exact ⟨_, by omega, rfl⟩
  · exact ⟨_, by omega, rfl⟩
  · exact ⟨_, by omega, rfl⟩
theorem d_bound {T B p : Nat} (hT : T ≤ 2310001) (hB : B ≤ 99) (hp : p ≤ 9999) : -230000000 ≤ (Int32.toInt64 (nI T) * Int32.toInt64 (nI B) - Int32.toInt64 (nI p)).toInt ∧ (Int32.toInt64 (nI T) * Int32.toInt64 (nI B) - Int32.toInt64 (nI p)).toInt ≤ 230000000 := by
  have k : T * B ≤ 2310001 * 99 := Nat.mul_le_mul hT hB
  rw [nI_l (by omega), nI_l (by omega), nI_l (by omega), lN_mul]
  have e1 := pk_lT (n := T * B) (by omega)
  have e2 := pk_lT (n := p) (by omega)
  rw [l_sub (by omega), e1, e2]
  omega
set_option maxHeartbeats 400000 in
theorem add_pair {g h now nc j c : Nat} {μ ν : XMem} (L : LM h (mR ν) (mN ν)) (hj : j < 8) (hc : c < 8) (hr : HRow g μ h ν now nc j) (hn : now ≤ 2000) (hq : ∀ k, k < 17 → mI μ (g + 7 + c) k = crw ν h c k) (hi : CInv (mI μ (g + 7 + c))) (x1 : Int32) :
    ∃ μ' ν', f_X1_addHour (g + 15 + j) (g + 7 + c) μ = some μ' ∧ f_X10_countsHour_j27 h (nI j) x1 (nI c) ν = f_X10_countsHour_j115 h (nI j) x1 ν' ∧ HRow g μ' h ν' (now + 1) nc j ∧ OnH g j μ μ' ∧ OnHM h j ν ν' := by
  obtain ⟨T, t1, t2⟩ := thm_nat hi
  obtain ⟨v, e, h0, h1, ⟨h2, h2'⟩, ⟨h3, h3'⟩, h4, h5, h6, h7, h8⟩ := id hi
  obtain ⟨u, i0, i1, i2, i3, i5, i8, i12, z0, z1, z2, z3, z5, z8, z12, y6, y7⟩ := id hr.2.2.2.2
  obtain ⟨G, g1, g2⟩ := gas_nat h8 h4
  have hm : ¬ crw ν h c 3 = 0 := by rw [← hq 3 (by omega)]; exact hi.mass
  have et : thm (crw ν h c) = nI T := by rw [← t2]; exact (thm_cg hq).symm
  have m8 : mI μ (g + 7 + c) 8 = nI (v 8) := e 8 (by omega)
  have m4 : mI μ (g + 7 + c) 4 = nI (v 4) := e 4 (by omega)
  have c8 : crw ν h c 8 = nI (v 8) := by rw [← hq 8 (by omega)]; exact m8
  have c4 : crw ν h c 4 = nI (v 4) := by rw [← hq 4 (by omega)]; exact m4
  have e1 : hrw ν h j 1 = nI (u 1) := by rw [← hr.1 1 (by omega)]; exact i1
  have d6 := d_bound (T := T) (B := u 1) (p := v 8 - G) t1 z1 (by omega)
  have d7 := d_bound (T := T) (B := u 1) (p := v 8) t1 z1 h8
  generalize hD6 : Int32.toInt64 (nI T) * Int32.toInt64 (nI (u 1)) - Int32.toInt64 (nI (v 8 - G)) = D6 at d6
  generalize hD7 : Int32.toInt64 (nI T) * Int32.toInt64 (nI (u 1)) - Int32.toInt64 (nI (v 8)) = D7 at d7
  refine ⟨sL (sL (sI μ (g + 15 + j) 5 (mI μ (g + 15 + j) 5 + 1)) (g + 15 + j) 6 (mL μ (g + 15 + j) 6 + D6)) (g + 15 + j) 7 (mL μ (g + 15 + j) 7 + D7),
    sL (sL (sI ν (h + 1) (147 + 12 * j + 5) (hrw ν h j 5 + 1)) (h + 3) (2 * j) (mL ν (h + 3) (2 * j) + D6)) (h + 3) (2 * j + 1) (mL ν (h + 3) (2 * j + 1) + D7), ?_, ?_, ?_, (OnH.refl _ _ _).st.sl.sl, (((OnHM.refl _ _ _).st (by omega)).sl (by omega)).sl (by omega)⟩
  · unfold f_X1_addHour
    rw [X0_thermometer_eq hi.mass, b2_mk, nm_mk, nm_mk]
    unfold f_X0_gasFrom
    rw [b2_mk, nm_mk, nm_mk]
    have o1 : mI (sI μ (g + 15 + j) 5 (mI μ (g + 15 + j) 5 + 1)) (g + 7 + c) = mI μ (g + 7 + c) := mI_ne (by omega)
    simp only [mI_sL, o1, mL_sI, t2, i1, m8, m4, g2, pk_sub g1, hD6, hD7]
    rw [show mL (sL (sI μ (g + 15 + j) 5 (mI μ (g + 15 + j) 5 + 1)) (g + 15 + j) 6 (mL μ (g + 15 + j) 6 + D6)) (g + 15 + j) 7 = mL μ (g + 15 + j) 7 from mL_off (by omega)]
  · unfold f_X10_countsHour_j27
    rw [X10_readOf_eq L hc hm, b2_mk, oH_1 L hj, b2_mk, nm_mk, oC_8 L hc, b2_mk, oH_5 L hj, b2_mk, setH_5 L hj, b1_mk]
    have L1 : LM h (mR (sI ν (h + 1) (147 + 12 * j + 5) (hrw ν h j 5 + 1))) (mN (sI ν (h + 1) (147 + 12 * j + 5) (hrw ν h j 5 + 1))) := L
    have l1 : mL (sI ν (h + 1) (147 + 12 * j + 5) (hrw ν h j 5 + 1)) = mL ν := rfl
    have k4 : crw (sI ν (h + 1) (147 + 12 * j + 5) (hrw ν h j 5 + 1)) h c 4 = nI (v 4) := by
      rw [← c4]
      unfold crw
      exact mI_off (by omega)
    generalize sI ν (h + 1) (147 + 12 * j + 5) (hrw ν h j 5 + 1) = ν1 at L1 l1 k4
    have ib1 : ib (nI (2 * j)) 16 = true := ib_nI (by omega) (by omega)
    have ib2 : ib (nI (2 * j + 1)) 16 = true := ib_nI (by omega) (by omega)
    have cl1 : (nI (2 * j)).toNatClampNeg = 2 * j := nI_clamp (by omega)
    have cl2 : (nI (2 * j + 1)).toNatClampNeg = 2 * j + 1 := nI_clamp (by omega)
    simp only [L1.1.2.2.1, fo_mk, L1.2.2.2.1, i2x, nI_1, ib1, ib2, gd_mk, oC_4 L1 hc, b2_mk, nm_mk, mR_sL, mN_sL, cl1, cl2, c8, k4, et, e1, g2, pk_sub g1, l1, hD6, hD7]
    rw [show mL (sL ν1 (h + 3) (2 * j) (mL ν (h + 3) (2 * j) + D6)) (h + 3) (2 * j + 1) = mL ν (h + 3) (2 * j + 1) from (mL_off (by omega)).trans (by rw [l1])]
  · have A1 : mI (sL (sL (sI μ (g + 15 + j) 5 (mI μ (g + 15 + j) 5 + 1)) (g + 15 + j) 6 (mL μ (g + 15 + j) 6 + D6)) (g + 15 + j) 7 (mL μ (g + 15 + j) 7 + D7)) (g + 15 + j) = uf (mI μ (g + 15 + j)) 5 (mI μ (g + 15 + j) 5 + 1) := by rw [mI_sL, mI_sL, mI_self]
    have A2 : hrw (sL (sL (sI ν (h + 1) (147 + 12 * j + 5) (hrw ν h j 5 + 1)) (h + 3) (2 * j) (mL ν (h + 3) (2 * j) + D6)) (h + 3) (2 * j + 1) (mL ν (h + 3) (2 * j + 1) + D7)) h j = uf (hrw ν h j) 5 (hrw ν h j 5 + 1) := hrw_set
    have A3 : mL (sL (sL (sI μ (g + 15 + j) 5 (mI μ (g + 15 + j) 5 + 1)) (g + 15 + j) 6 (mL μ (g + 15 + j) 6 + D6)) (g + 15 + j) 7 (mL μ (g + 15 + j) 7 + D7)) (g + 15 + j) = uf (uf (mL μ (g + 15 + j)) 6 (mL μ (g + 15 + j) 6 + D6)) 7 (mL μ (g + 15 + j) 7 + D7) := by rw [mL_self, mL_self, mL_sI]
    obtain ⟨y1, y2, y3, y4, y5⟩ := hr
    unfold HRow
    rw [A1, A2, A3]
    refine ⟨fun k hk => ?_, fun k hk => ?_, ?_, ?_, ?_⟩
    · by_cases q : k = 5
      · subst q; rw [uf_at, uf_at, y1 5 hk]
      · rw [uf_ne q, uf_ne q]; exact y1 k hk
    · rw [uf_ne (by omega), uf_ne (by omega)]; exact y2 k hk
    · rw [uf_ne (by omega), uf_at, mL_off (by omega), mL_at, y3]
    · rw [uf_at, mL_at, y4]
    · exact y5.add hn d6 d7 rfl rfl
set_option maxHeartbeats 400000 in
theorem house_pair {g h nl now nc j : Nat} {μ ν : XMem} {tx : Nat → List Int32} (F : Fr g μ h ν nl tx) (hj : j < 8) (h8 : nc ≤ 8) (n1 : mI μ (g + 1) 1 = nI nc) (hr : HRow g μ h ν now nc j) (hn : now ≤ 2000) (hcs : ∀ c, c < nc → (∀ k, k < 17 → mI μ (g + 7 + c) k = crw ν h c k) ∧ CInv (mI μ (g + 7 + c))) :
    ∃ μ' ν', f_X8_passHourOf (g + 1) (g + 15 + j) μ = some μ' ∧ f_X10_countsHour h (nI j) (mI μ (g + 1) 0) ν = some ν' ∧ HRow g μ' h ν' (now + 1) nc j ∧ OnH g j μ μ' ∧ OnHM h j ν ν' := by
  obtain ⟨u, i0, i1, i2, i3, i5, i8, i12, z0, z1, z2, z3, z5, z8, z12, y6, y7⟩ := id hr.2.2.2.2
  have r1 := F.1
  have r2 := F.2.1
  have hc : u 0 < 8 := by omega
  obtain ⟨hq, hi⟩ := hcs (u 0) z0
  have hm : ¬ crw ν h (u 0) 3 = 0 := by rw [← hq 3 (by omega)]; exact hi.mass
  have e0 : hrw ν h j 0 = nI (u 0) := by rw [← hr.1 0 (by omega)]; exact i0
  have e3 : mI μ (g + 15 + j) 3 = hrw ν h j 3 := hr.1 3 (by omega)
  unfold f_X8_passHourOf f_X10_countsHour
  rw [i0, X8_cellAt_eq (LCl r1) n1 h8, b2_mk, vx_nI z0 (by omega), Option.map_some, oc_ms, oH_0 r2 hj, b2_mk, oH_3 r2 hj, b2_mk, e0, e3, i0, g167 g (u 0)]
  have count : ∀ (μ0 ν0 : XMem), WkG (g + 5) μ μ0 → WkM h ν ν0 → ∃ μ' ν', (b1 (f_X1_addHour (g + 15 + j) (g + 7 + u 0) μ0) fun m105 => b1 (f_X1_speak (g + 15 + j) (mI m105 (g + 1) 0) m105) fun m106 => some m106) = some μ' ∧ f_X10_countsHour_j27 h (nI j) (mI μ (g + 1) 0) (nI (u 0)) ν0 = some ν' ∧ HRow g μ' h ν' (now + 1) nc j ∧ OnH g j μ μ' ∧ OnHM h j ν ν' := by
    intro μ0 ν0 a b
    have L0 : LM h (mR ν0) (mN ν0) := by rw [b.2.2.1, b.2.2.2]; exact r2
    have ea : mI μ0 (g + 7 + u 0) = mI μ (g + 7 + u 0) := a.1 _ (by omega) (by omega)
    have hr0 : HRow g μ0 h ν0 now nc j := hr.cg (a.1 _ (by omega) (by omega)) (by rw [a.2.1]) (fun k _ => by unfold hrw; rw [b.1 _ (by omega)]) (by rw [b.2.1]) (by rw [b.2.1])
    obtain ⟨μ1, ν1, s1, s2, s3, s4, s5⟩ := add_pair L0 hj hc hr0 hn (fun k hk => by rw [ea]; unfold crw; rw [b.1 _ (by omega)]; exact hq k hk) (by rw [ea]; exact hi) (mI μ (g + 1) 0)
    have L1 : LM h (mR ν1) (mN ν1) := by rw [s5.2.2.2.2.1, s5.2.2.2.2.2]; exact L0
    obtain ⟨μ2, ν2, w1, w2, w3, w4, w5⟩ := speak_pair L1 hj s3 (mI μ (g + 1) 0)
    have e1 : mI μ1 (g + 1) 0 = mI μ (g + 1) 0 := by rw [s4.1 _ (by omega) (by omega) (by omega), a.1 _ (by omega) (by omega)]
    refine ⟨μ2, ν2, ?_, s2.trans w2, w3, (OnH.wk a).trans (s4.trans w4), (OnHM.wk b).trans (s5.trans w5)⟩
    rw [s1, b1_mk, e1, w1, b1_mk]
  by_cases h3 : hrw ν h j 3 = 0
  · rw [if_pos h3, if_pos h3]
    exact count μ ν (WkG.refl _ _) (WkM.refl _ _)
  · obtain ⟨v, μ1, ν1, s1, s2, s3, s4⟩ := choice_pair F hc (a := g + 7 + u 0) (by omega) (fun k hk => hq k (by omega)) hm (mI μ (g + 1) 0)
    rw [if_neg h3, if_neg h3, s1, b2_mk, s2, b2_mk]
    by_cases hv : v = 0
    · rw [if_pos hv, if_pos hv]
      have L0 : LM h (mR ν1) (mN ν1) := by rw [s4.2.2.1, s4.2.2.2]; exact r2
      have hr0 : HRow g μ1 h ν1 now nc j := hr.cg (s3.1 _ (by omega) (by omega)) (by rw [s3.2.1]) (fun k _ => by unfold hrw; rw [s4.1 _ (by omega)]) (by rw [s4.2.1]) (by rw [s4.2.1])
      obtain ⟨μ2, ν2, w1, w2, w3, w4, w5⟩ := speak_pair L0 hj hr0 (mI μ (g + 1) 0)
      rw [s3.1 (g + 1) (by omega) (by omega), w1, b1_mk]
      exact ⟨μ2, ν2, rfl, w2, w3.mono, (OnH.wk s3).trans w4, (OnHM.wk s4).trans w5⟩
    · rw [if_neg hv, if_neg hv]
      exact count μ1 ν1 s3 s4

/-! PURE LAYER 26: the hour of a cell in numbers, and the reference's hour whole -/
theorem hx0 (x : Int32) : (if 0 ≤ x then x else 0) = (if 0 < x then x else 0) := by
  have z0 : (0 : Int32).toInt = 0 := rfl
  by_cases h : 0 < x
  · rw [if_pos h, if_pos (Int32.le_of_lt h)]
  · rw [if_neg h]
    by_cases h2 : 0 ≤ x
    · rw [if_pos h2]
      simp only [Int32.lt_iff_toInt_lt, Int32.le_iff_toInt_le, z0] at h h2
      exact Int32.toInt_inj.mp (by rw [z0]; omega)
    · rw [if_neg h2]
theorem pwr_nat {f : Nat → Int32} {u : Nat → Nat} (e1 : f 1 = nI (u 1)) (e5 : f 5 = nI (u 5)) (h5 : u 5 ≤ 9999) (h1 : u 1 ≤ 9999) : ∃ P, P ≤ 9999 ∧ pwr f = nI P := by
  unfold pwr
  rw [e1, e5]
  by_cases h : nI (u 5) = 0
  · exact ⟨0, by omega, by rw [if_pos h]; rfl⟩
  · exact ⟨u 1, h1, by rw [if_neg h]⟩
theorem gas_nat {P q : Nat} (hP : P ≤ 9999) (hq : q ≤ 100) : ∃ G, G ≤ P ∧ nI P * nI q / 100 = nI G := by
  have k : P * q ≤ P * 100 := Nat.mul_le_mul_left P hq
  refine ⟨P * q / 100, by omega, ?_⟩
  rw [pk_mul]
  exact pk_div (d := 100) (by omega) (by omega) (by omega)
theorem bk_nat {f : Nat → Int32} {G : Nat} (hG : G ≤ 9999) : ∃ B, B ≤ G ∧ bkOf f (nI G) = nI B := by
  unfold bkOf
  have d2 : nI G / 2 = nI (G / 2) := pk_div (d := 2) (by omega) (by omega) (by omega)
  have d10 : nI G / 10 = nI (G / 10) := pk_div (d := 10) (by omega) (by omega) (by omega)
  by_cases h2 : f 0 = 2
  · exact ⟨G / 2, by omega, by rw [if_pos h2, d2]⟩
  · rw [if_neg h2]
    by_cases h5 : f 0 = 5
    · exact ⟨G / 2 + G / 10, by omega, by rw [if_pos h5, d2, d10, nI_add]⟩
    · exact ⟨0, by omega, by rw [if_neg h5]; rfl⟩
theorem water_nat {a b : Nat} (ha : a ≤ 9999) (hb : b ≤ 9999) : ∃ w, w ≤ 9999 ∧ (if 0 < nI a - nI b then nI a - nI b else 0) = nI w := by
  by_cases h : b < a
  · have q : (0 : Int32) < nI (a - b) := nI_lt (a := 0) (b := a - b) (by omega) (by omega)
    rw [pk_sub (by omega), if_pos q]
    exact ⟨a - b, by omega, rfl⟩
  · by_cases h2 : a = b
    · subst h2
      rw [pk_sub (Nat.le_refl _), Nat.sub_self, if_neg (by decide)]
      exact ⟨0, by omega, rfl⟩
    · have := pk_sneg (a := a) (b := b) (by omega) (by omega)
      rw [if_neg (i32_asym this)]
      exact ⟨0, by omega, rfl⟩
theorem heat_nat {f : Nat → Int32} {u7 X : Nat} (e7 : f 7 = nI u7) (h7 : u7 ≤ 999) (hX9 : X ≤ 9999) (eX : hX f = nI X) : ∃ H st, H ≤ 10998 ∧ st ≤ 999 ∧ hH f = nI H ∧ hS f = nI st := by
  have d5 : nI X / 5 = nI (X / 5) := pk_div (d := 5) (by omega) (by omega) (by omega)
  unfold hH hS
  rw [eX, e7, d5, nI_add, pk_sub (by omega)]
  by_cases h3 : f 0 = 3
  · rw [if_pos h3, if_pos h3]
    by_cases h1 : 1000 ≤ u7 + X / 5
    · have : (1000 : Int32) ≤ nI (u7 + X / 5) := nI_le (a := 1000) h1 (by omega)
      rw [if_pos this, if_pos this]
      exact ⟨X - X / 5 + (u7 + X / 5), 0, by omega, by omega, by rw [nI_add], rfl⟩
    · have : ¬ (1000 : Int32) ≤ nI (u7 + X / 5) := nI_ge (b := 1000) (by omega) (by omega)
      rw [if_neg this, if_neg this]
      exact ⟨X - X / 5, u7 + X / 5, by omega, by omega, rfl, rfl⟩
  · rw [if_neg h3, if_neg h3]
    exact ⟨X, u7, by omega, h7, rfl, rfl⟩
theorem lose_nat {S m l : Nat} (h1 : 1 ≤ l) (h2 : l ≤ 99) (h3 : 1 ≤ m) (h4 : m ≤ 99) (hS : S ≤ 2121000) : S / m * l < 2 ^ 31 ∧ (if S / m * l < S then S - S / m * l else 0) ≤ 2100000 := by
  have a1 : S / m ≤ S := Nat.div_le_self S m
  have a2 : S / m * l ≤ S * 99 := Nat.mul_le_mul a1 h2
  have a3 : S / m ≤ S / m * l := Nat.le_mul_of_pos_right _ h1
  have a4 : S / 99 ≤ S / m := Nat.div_le_div_left h4 h3
  refine ⟨by omega, ?_⟩
  split <;> omega
set_option maxHeartbeats 400000 in
theorem hour_inv {f : Nat → Int32} (hi : CInv f) {m : Nat} (hm : m ≤ 9999) : CInv (hour f (nI m)) ∧ (if lg_cmp (Int32.toInt64 (wmt (hB f (nI m))) * Int32.toInt64 (f 2)) (Int32.toInt64 (f 6 + (hH f + nI m))) ≤ 0 then Int64.toInt32 (Int32.toInt64 (wmt (hB f (nI m))) * Int32.toInt64 (f 2)) else f 6 + (hH f + nI m)) = hL f (nI m) := by
  obtain ⟨u, e, h0, h1, ⟨h2, h2'⟩, ⟨h3, h3'⟩, h4, h5, h6, h7, h8⟩ := hi
  obtain ⟨P, hP, eP⟩ := pwr_nat (u := u) (e 1 (by omega)) (e 5 (by omega)) h5 h1
  obtain ⟨G, hG, eG⟩ := gas_nat hP h4
  have eG' : gasOf f = nI G := by unfold gasOf; rw [eP, e 4 (by omega)]; exact eG
  obtain ⟨B, hB', eB⟩ := bk_nat (f := f) (G := G) (by omega)
  have eX : hX f = nI (P - (G - B)) := by unfold hX; rw [eP, eG', eB, pk_sub hB', pk_sub (by omega)]
  obtain ⟨H, st, hH', hst, eH, eS⟩ := heat_nat (e 7 (by omega)) h7 (by omega) eX
  have eT : f 6 + (hH f + nI m) = nI (u 6 + (H + m)) := by rw [e 6 (by omega), eH, nI_add, nI_add]
  have eW : wmt (hB f (nI m)) = nI ((u 6 + (H + m)) / u 3) := by
    show (f 6 + (hH f + nI m)) / f 3 = _
    rw [eT, e 3 (by omega)]
    exact pk_div (by omega) (by omega) (by omega)
  obtain ⟨k1, k2⟩ := lose_nat h2 h2' h3 h3' (show u 6 + (H + m) ≤ 2121000 by omega)
  have kd : (u 6 + (H + m)) / u 3 ≤ u 6 + (H + m) := Nat.div_le_self _ _
  have eL : hL f (nI m) = nI (if (u 6 + (H + m)) / u 3 * u 2 < u 6 + (H + m) then (u 6 + (H + m)) / u 3 * u 2 else u 6 + (H + m)) := by
    unfold hL
    rw [eW, eT, e 2 (by omega), pk_mul]
    by_cases c : (u 6 + (H + m)) / u 3 * u 2 < u 6 + (H + m)
    · rw [if_pos (nI_lt c (by omega)), if_pos c]
    · rw [if_neg (nI_nlt (by omega) k1), if_neg c]
  have d100 : nI (G + 99) / 100 = nI ((G + 99) / 100) := pk_div (d := 100) (by omega) (by omega) (by omega)
  obtain ⟨w, hw, eWa⟩ := water_nat (a := u 5) (b := (G + 99) / 100) h5 (by omega)
  refine ⟨⟨uf (uf (uf (uf u 5 w) 6 (if (u 6 + (H + m)) / u 3 * u 2 < u 6 + (H + m) then u 6 + (H + m) - (u 6 + (H + m)) / u 3 * u 2 else 0)) 7 st) 8 P, fun k hk => ?_, ?_⟩, ?_⟩
  · rcases (show k = 0 ∨ k = 1 ∨ k = 2 ∨ k = 3 ∨ k = 4 ∨ k = 5 ∨ k = 6 ∨ k = 7 ∨ k = 8 by omega) with rfl | rfl | rfl | rfl | rfl | rfl | rfl | rfl | rfl
    · exact e 0 (by omega)
    · exact e 1 (by omega)
    · exact e 2 (by omega)
    · exact e 3 (by omega)
    · exact e 4 (by omega)
    · show (if 0 < f 5 - (gasOf f + 99) / 100 then f 5 - (gasOf f + 99) / 100 else 0) = nI w
      have : (nI G + 99 : Int32) = nI (G + 99) := nI_add G 99
      rw [eG', e 5 (by omega), this, d100]
      exact eWa
    · show f 6 + (hH f + nI m) - hL f (nI m) = nI (if (u 6 + (H + m)) / u 3 * u 2 < u 6 + (H + m) then u 6 + (H + m) - (u 6 + (H + m)) / u 3 * u 2 else 0)
      rw [eT, eL]
      by_cases c : (u 6 + (H + m)) / u 3 * u 2 < u 6 + (H + m)
      · rw [if_pos c, if_pos c, pk_sub (by omega)]
      · rw [if_neg c, if_neg c, pk_sub (Nat.le_refl _), Nat.sub_self]
    · exact eS
    · exact eP
  · show u 0 ≤ 5 ∧ u 1 ≤ 9999 ∧ (1 ≤ u 2 ∧ u 2 ≤ 99) ∧ (1 ≤ u 3 ∧ u 3 ≤ 99) ∧ u 4 ≤ 100 ∧ w ≤ 9999 ∧ (if (u 6 + (H + m)) / u 3 * u 2 < u 6 + (H + m) then u 6 + (H + m) - (u 6 + (H + m)) / u 3 * u 2 else 0) ≤ 2100000 ∧ st ≤ 999 ∧ P ≤ 9999
    exact ⟨h0, h1, ⟨h2, h2'⟩, ⟨h3, h3'⟩, h4, hw, k2, hst, hP⟩
  · unfold hL
    rw [eW, eT, e 2 (by omega)]
    exact (loss_eq (by omega) (by omega) (by omega) k1).symm
theorem goes_93 {h c : Nat} {ν : XMem} (L : LM h (mR ν) (mN ν)) (hc : c < 8) {x2 x4 x5 x6 x8 xs0 : Int32} {f : Nat → Int32} (hf : crw ν h c = f) (hx : x6 - x8 = hX f) : ∃ ν', f_X10_goes_j93 h (nI c) x2 x4 x5 x6 x8 xs0 5 (nI c) h ν = f_X10_goes_j178 h (nI c) x2 x4 x5 x6 x8 (hH f) ν' ∧ crw ν' h c = uf (uf f 5 xs0) 7 (hS f) ∧ OnM h c ν ν' := by
  unfold f_X10_goes_j93
  rw [putC_5 L hc, b1_mk, nm_mk, hx]
  have e1 : crw (sI ν (h + 1) (11 + 17 * c + 5) xs0) h c = uf f 5 xs0 := by rw [crw_set, hf]
  have o1 : OnM h c ν (sI ν (h + 1) (11 + 17 * c + 5) xs0) := (OnM.refl h c ν).st (by omega)
  generalize sI ν (h + 1) (11 + 17 * c + 5) xs0 = ν1 at e1 o1
  rw [oC_0 (o1.L L) hc, b2_mk, e1, show uf f 5 xs0 0 = f 0 from rfl]
  by_cases h3 : f 0 = 3
  · rw [if_pos h3]
    simp only [nm_mk]
    rw [oC_7 (o1.L L) hc, b2_mk, e1, show uf f 5 xs0 7 = f 7 from rfl]
    by_cases hk : f 7 + hX f / 5 < 1000
    · have nk : ¬ 1000 ≤ f 7 + hX f / 5 := Int32.not_le.mpr hk
      have q1 : hX f - hX f / 5 + 0 = hH f := by unfold hH; rw [if_pos h3, if_neg nk, Int32.add_zero]
      have q2 : f 7 + hX f / 5 = hS f := by unfold hS; rw [if_pos h3, if_neg nk]
      rw [if_pos hk]
      unfold f_X10_goes_j154
      rw [nm_mk, if_pos hk]
      unfold f_X10_goes_j175
      rw [putC_7 (o1.L L) hc, b1_mk, q1, q2]
      exact ⟨_, rfl, by rw [crw_set, e1], o1.st (by omega)⟩
    · have nk : 1000 ≤ f 7 + hX f / 5 := Int32.not_lt.mp hk
      have q1 : hX f - hX f / 5 + (f 7 + hX f / 5) = hH f := by unfold hH; rw [if_pos h3, if_pos nk]
      have q2 : 0 = hS f := by unfold hS; rw [if_pos h3, if_pos nk]
      rw [if_neg hk]
      unfold f_X10_goes_j154
      rw [nm_mk, if_neg hk]
      unfold f_X10_goes_j175
      rw [putC_7 (o1.L L) hc, b1_mk, q1]
      exact ⟨_, rfl, by rw [crw_set, e1, q2], o1.st (by omega)⟩
  · have q1 : hX f = hH f := by unfold hH; rw [if_neg h3]
    rw [if_neg h3, q1]
    refine ⟨ν1, rfl, ?_, o1⟩
    have q2 : hS f = f 7 := by unfold hS; rw [if_neg h3]
    rw [e1, q2]
    funext y
    by_cases hy : y = 7
    · subst hy; rfl
    · rw [uf_ne hy]
set_option maxHeartbeats 1000000 in
theorem goes_27 {h c : Nat} {t : List Int32} {ν : XMem} (L : LM h (mR ν) (mN ν)) (hc : c < 8) (htm : TM ν (h + 1) 6 t) (hwf : WFT t) {f : Nat → Int32} (hf : crw ν h c = f) (hi : CInv f) {m : Nat} (hm : m ≤ 9999) {x2 x4 ray : Int32} (hray : ∀ ν', OnM h c ν ν' → f_X10_rayOf h x2 ν' = some (ray, ν')) :
    ∃ fl ν1 ν2 ν', f_X10_goes_j27 h (nI c) x2 x4 (nI m) ν = some ν' ∧ OnM h c ν ν1 ∧ (∀ k, k < 8 → crw ν1 h c k = hour f (nI m) k) ∧ f_X10_worked h 6 (nI c) x4 ν1 = some (fl, ν2) ∧ WkM h ν1 ν2 ∧ OnM h c ν ν' ∧ (∀ k, k < 17 → k ≠ 12 → crw ν' h c k = hour f (nI m) k) ∧ crw ν' h c 12 = fl + nI m * ray / 100 := by
  unfold f_X10_goes_j27
  have bk : f_X10_backOf h (nI c) (gasOf f) ν = some (bkOf f (gasOf f), ν) := by
    unfold f_X10_backOf bkOf
    rw [oC_0 L hc, b2_mk, hf]
    repeat' split
    all_goals rfl
  rw [X10_powerNow_eq L hc, b2_mk, oC_4 L hc, b2_mk, nm_mk, hf, show pwr f * f 4 / 100 = gasOf f from rfl, bk, b2_mk, nm_mk, oC_5 L hc, b2_mk, nm_mk, hf]
  have both : ∀ x : Int32, (if 0 ≤ x then f_X10_goes_j93 h (nI c) x2 x4 (nI m) (pwr f) (gasOf f - bkOf f (gasOf f)) x 5 (nI c) h ν else f_X10_goes_j93 h (nI c) x2 x4 (nI m) (pwr f) (gasOf f - bkOf f (gasOf f)) 0 5 (nI c) h ν) = f_X10_goes_j93 h (nI c) x2 x4 (nI m) (pwr f) (gasOf f - bkOf f (gasOf f)) (if 0 < x then x else 0) 5 (nI c) h ν := by
    intro x
    rw [← hx0 x]
    split <;> rfl
  rw [both]
  obtain ⟨ν3, g1, g2, g3⟩ := goes_93 L hc (x2 := x2) (x4 := x4) (x5 := nI m) (x6 := pwr f) (x8 := gasOf f - bkOf f (gasOf f)) (xs0 := if 0 < f 5 - (gasOf f + 99) / 100 then f 5 - (gasOf f + 99) / 100 else 0) hf rfl
  rw [g1]
  unfold f_X10_goes_j178
  have L3 := g3.L L
  rw [oC_6 L3 hc, b2_mk, putC_6 L3 hc, b1_mk]
  have i6 : crw ν3 h c 6 + hH f + nI m = f 6 + (hH f + nI m) := by rw [g2, Int32.add_assoc]; rfl
  rw [i6]
  have e4 : crw (sI ν3 (h + 1) (11 + 17 * c + 6) (f 6 + (hH f + nI m))) h c = uf (uf (uf f 5 (if 0 < f 5 - (gasOf f + 99) / 100 then f 5 - (gasOf f + 99) / 100 else 0)) 7 (hS f)) 6 (f 6 + (hH f + nI m)) := by rw [crw_set, g2]
  have o4 : OnM h c ν (sI ν3 (h + 1) (11 + 17 * c + 6) (f 6 + (hH f + nI m))) := g3.st (by omega)
  generalize sI ν3 (h + 1) (11 + 17 * c + 6) (f 6 + (hH f + nI m)) = ν4 at e4 o4
  have L4 := o4.L L
  have m4 : ¬ crw ν4 h c 3 = 0 := by rw [e4]; exact hi.mass
  obtain ⟨c1, c2⟩ := hour_inv hi hm
  have w4 : wmt (crw ν4 h c) = wmt (hB f (nI m)) := by rw [e4]; rfl
  have f2 : crw ν4 h c 2 = f 2 := by rw [e4]; rfl
  have f6 : crw ν4 h c 6 = f 6 + (hH f + nI m) := by rw [e4]; rfl
  rw [X10_warmth_eq L4 hc m4, b2_mk, oC_2 L4 hc, b2_mk, nm_mk, oC_6 L4 hc, b2_mk, oC_6 L4 hc, b2_mk, w4, f2, f6]
  have both2 : (if lg_cmp (Int32.toInt64 (wmt (hB f (nI m))) * Int32.toInt64 (f 2)) (Int32.toInt64 (f 6 + (hH f + nI m))) ≤ 0 then f_X10_goes_j241 h (nI c) x2 x4 (nI m) (pwr f) (gasOf f - bkOf f (gasOf f)) (Int64.toInt32 (Int32.toInt64 (wmt (hB f (nI m))) * Int32.toInt64 (f 2))) ν4 else f_X10_goes_j241 h (nI c) x2 x4 (nI m) (pwr f) (gasOf f - bkOf f (gasOf f)) (f 6 + (hH f + nI m)) ν4) = f_X10_goes_j241 h (nI c) x2 x4 (nI m) (pwr f) (gasOf f - bkOf f (gasOf f)) (hL f (nI m)) ν4 := by
    rw [← c2]
    split <;> rfl
  rw [both2]
  have t4 : TM ν4 (h + 1) 6 t := ⟨by rw [o4.2.1 _ (by omega)]; exact htm.1, fun k hk => by rw [o4.2.1 _ (by omega)]; exact htm.2 k hk⟩
  obtain ⟨fl, ν1, ν2, ν', z1, z2, z3, z4, z5, z6, z7⟩ := goes_241 (x2 := x2) (x4 := x4) (x5 := nI m) (x6 := pwr f) (x8 := gasOf f - bkOf f (gasOf f)) (xs := hL f (nI m)) L4 hc t4 hwf m4 (fun ν' o => hray ν' (o4.trans o))
  rw [e4] at z3
  refine ⟨fl, ν1, ν2, ν', z1, o4.trans z2, fun k hk => ?_, z4, z5, o4.trans z6, fun k hk k12 => ?_, ?_⟩
  · rw [z3]
    rcases (show k = 0 ∨ k = 1 ∨ k = 2 ∨ k = 3 ∨ k = 4 ∨ k = 5 ∨ k = 6 ∨ k = 7 by omega) with rfl | rfl | rfl | rfl | rfl | rfl | rfl | rfl <;> rfl
  · rw [z7, z3]
    by_cases h13 : 13 ≤ k ∧ k < 17
    · rw [if_pos h13]
      rcases (show k = 13 ∨ k = 14 ∨ k = 15 ∨ k = 16 by omega) with rfl | rfl | rfl | rfl <;> rfl
    · rw [if_neg h13]
      rcases (show k = 0 ∨ k = 1 ∨ k = 2 ∨ k = 3 ∨ k = 4 ∨ k = 5 ∨ k = 6 ∨ k = 7 ∨ k = 8 ∨ k = 9 ∨ k = 10 ∨ k = 11 by omega) with rfl | rfl | rfl | rfl | rfl | rfl | rfl | rfl | rfl | rfl | rfl | rfl <;> rfl
  · rw [z7, if_neg (by omega), uf_at]

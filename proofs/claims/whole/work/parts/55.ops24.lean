/-! PURE LAYER 24: the end of the reference's hour -/
set_option maxHeartbeats 400000 in
theorem goes_241 {h c : Nat} {t : List Int32} {ν : XMem} (L : LM h (mR ν) (mN ν)) (hc : c < 8) (htm : TM ν (h + 1) 6 t) (hwf : WFT t) (hm : ¬ crw ν h c 3 = 0) {x2 x4 x5 x6 x8 xs ray : Int32} (hray : ∀ ν', OnM h c ν ν' → f_X10_rayOf h x2 ν' = some (ray, ν')) :
    ∃ fl ν1 ν2 ν', f_X10_goes_j241 h (nI c) x2 x4 x5 x6 x8 xs ν = some ν' ∧ OnM h c ν ν1 ∧ crw ν1 h c = uf (uf (uf (uf (uf (crw ν h c) 6 (crw ν h c 6 - xs)) 8 x6) 9 x8) 10 x5) 11 xs ∧ f_X10_worked h 6 (nI c) x4 ν1 = some (fl, ν2) ∧ WkM h ν1 ν2 ∧ OnM h c ν ν' ∧ ∀ y, crw ν' h c y = if 13 ≤ y ∧ y < 17 then uf (crw ν1 h c) 12 (fl + x5 * ray / 100) y + uf (crw ν1 h c) 12 (fl + x5 * ray / 100) (y - 5) else uf (crw ν1 h c) 12 (fl + x5 * ray / 100) y := by
  unfold f_X10_goes_j241
  rw [oC_6 L hc, b2_mk, putC_6 L hc, b1_mk]
  rw [putC_8 (ν := sI ν _ _ _) L hc, b1_mk, putC_9 (ν := sI (sI ν _ _ _) _ _ _) L hc, b1_mk, putC_10 (ν := sI (sI (sI ν _ _ _) _ _ _) _ _ _) L hc, b1_mk, putC_11 (ν := sI (sI (sI (sI ν _ _ _) _ _ _) _ _ _) _ _ _) L hc, b1_mk]
  generalize hν1 : sI (sI (sI (sI (sI ν (h + 1) (11 + 17 * c + 6) (crw ν h c 6 - xs)) (h + 1) (11 + 17 * c + 8) x6) (h + 1) (11 + 17 * c + 9) x8) (h + 1) (11 + 17 * c + 10) x5) (h + 1) (11 + 17 * c + 11) xs = ν1
  have o1 : OnM h c ν ν1 := by rw [← hν1]; exact ((((((OnM.refl h c ν).st (by omega)).st (by omega)).st (by omega)).st (by omega)).st (by omega))
  have e1 : crw ν1 h c = uf (uf (uf (uf (uf (crw ν h c) 6 (crw ν h c 6 - xs)) 8 x6) 9 x8) 10 x5) 11 xs := by
    rw [← hν1, crw_set, crw_set, crw_set, crw_set, crw_set]
  have m1 : ¬ crw ν1 h c 3 = 0 := by rw [e1]; exact hm
  have t1 : TM ν1 (h + 1) 6 t := ⟨by rw [o1.2.1 _ (by omega)]; exact htm.1, fun k hk => by rw [o1.2.1 _ (by omega)]; exact htm.2 k hk⟩
  obtain ⟨fl, ν2, y1, y2⟩ := X10_worked_ok (ti := 6) (o1.L L) t1 hwf (by omega) hc m1 x4
  have o2 : OnM h c ν ν2 := o1.wk y2
  have y1' : f_X10_worked h 6 (nI c) x4 ν1 = some (fl, ν2) := y1
  rw [y1', b2_mk, hray ν2 o2, b2_mk, putC_12 (o2.L L) hc, b1_mk]
  have c2 : crw ν2 h c = crw ν1 h c := by unfold crw; rw [y2.1 _ (by omega)]
  obtain ⟨ν', z1, z2, z3⟩ := goes_sums hc (k := fun m151 => some m151) 4 2000 0 (sI ν2 (h + 1) (11 + 17 * c + 12) (fl + x5 * ray / 100)) (o2.L L) (by omega) (by omega)
  refine ⟨fl, ν1, ν2, ν', z1, o1, e1, y1', y2, (o2.st (by omega)).trans z2, fun y => ?_⟩
  rw [z3 y, crw_set, c2]

/-! PURE LAYER 13: a new house -/
def nhC (g nh : Nat) (x1 x2 : Int32) (μ : XMem) : XMem := sI (sI (sI (sI (sI (sI (sI (sI (sI (sI (sI (sL (sL (sI (sI μ (g + 1) 3 (nI nh + 1)) (g + 15 + nh) 5 0) (g + 15 + nh) 6 0) (g + 15 + nh) 7 0) (g + 15 + nh) 8 0) (g + 15 + nh) 9 0) (g + 15 + nh) 10 0) (g + 15 + nh) 11 0) (g + 15 + nh) 12 0) (g + 15 + nh) 13 0) (g + 15 + nh) 0 (x1 - x1 / 10 * 10)) (g + 15 + nh) 1 (x1 / 1000)) (g + 15 + nh) 2 ((x1 / 100) - (x1 / 100) / 10 * 10)) (g + 15 + nh) 3 ((x1 / 10) - (x1 / 10) / 10 * 10)) (g + 15 + nh) 4 x2
def nhM (h nh : Nat) (x1 x2 : Int32) (ν : XMem) : XMem := sL (sL (sI (sI (sI (sI (sI (zR (h + 1) (147 + 12 * nh) 12 0 (sI ν (h + 1) 3 (nI nh + 1))) (h + 1) (147 + 12 * nh + 0) (x1 - x1 / 10 * 10)) (h + 1) (147 + 12 * nh + 1) (x1 / 1000)) (h + 1) (147 + 12 * nh + 2) ((x1 / 100) - (x1 / 100) / 10 * 10)) (h + 1) (147 + 12 * nh + 3) ((x1 / 10) - (x1 / 10) / 10 * 10)) (h + 1) (147 + 12 * nh + 4) x2) (h + 3) (2 * nh) 0) (h + 3) (2 * nh + 1) 0
def nhF (x1 x2 : Int32) (k : Nat) : Int32 := if k = 0 then (x1 - x1 / 10 * 10) else if k = 1 then (x1 / 1000) else if k = 2 then ((x1 / 100) - (x1 / 100) / 10 * 10) else if k = 3 then ((x1 / 10) - (x1 / 10) / 10 * 10) else if k = 4 then x2 else 0
theorem nhC_at {g nh : Nat} {x1 x2 : Int32} {μ : XMem} (k : Nat) (hk : k < 14) (h6 : k ≠ 6) (h7 : k ≠ 7) : mI (nhC g nh x1 x2 μ) (g + 15 + nh) k = nhF x1 x2 k := by
  have : k = 0 ∨ k = 1 ∨ k = 2 ∨ k = 3 ∨ k = 4 ∨ k = 5 ∨ k = 8 ∨ k = 9 ∨ k = 10 ∨ k = 11 ∨ k = 12 ∨ k = 13 := by omega
  unfold nhC nhF
  rcases this with rfl | rfl | rfl | rfl | rfl | rfl | rfl | rfl | rfl | rfl | rfl | rfl <;> simp [mI_sI, mI_sL]
theorem nhC_ne {g nh : Nat} {x1 x2 : Int32} {μ : XMem} {q : Nat} (h1 : q ≠ g + 15 + nh) (h2 : q ≠ g + 1) : mI (nhC g nh x1 x2 μ) q = mI μ q := by
  funext y
  unfold nhC
  simp only [mI_sI, mI_sL, if_neg h1, if_neg h2]
theorem nhC_w {g nh : Nat} {x1 x2 : Int32} {μ : XMem} (y : Nat) : mI (nhC g nh x1 x2 μ) (g + 1) y = if y = 3 then nI nh + 1 else mI μ (g + 1) y := by
  unfold nhC
  have e : ¬ g + 1 = g + 15 + nh := by omega
  simp only [mI_sI, mI_sL, if_neg e, if_true]
theorem nhC_L {g nh : Nat} {x1 x2 : Int32} {μ : XMem} (q y : Nat) : mL (nhC g nh x1 x2 μ) q y = if q = g + 15 + nh ∧ (y = 6 ∨ y = 7) then 0 else mL μ q y := by
  show mL (sL (sL μ (g + 15 + nh) 6 0) (g + 15 + nh) 7 0) q y = _
  simp only [mL_sL]
  by_cases e : q = g + 15 + nh
  · subst e
    by_cases e6 : y = 6
    · subst e6; simp
    · by_cases e7 : y = 7
      · subst e7; simp
      · simp [e6, e7]
  · simp [e]
theorem nhM_at {h nh : Nat} {x1 x2 : Int32} {ν : XMem} (y : Nat) : mI (nhM h nh x1 x2 ν) (h + 1) y = if 147 + 12 * nh ≤ y ∧ y < 159 + 12 * nh then nhF x1 x2 (y - (147 + 12 * nh)) else if y = 3 then nI nh + 1 else mI ν (h + 1) y := by
  show mI (sI (sI (sI (sI (sI (zR (h + 1) (147 + 12 * nh) 12 0 (sI ν (h + 1) 3 (nI nh + 1))) (h + 1) (147 + 12 * nh + 0) (x1 - x1 / 10 * 10)) (h + 1) (147 + 12 * nh + 1) (x1 / 1000)) (h + 1) (147 + 12 * nh + 2) ((x1 / 100) - (x1 / 100) / 10 * 10)) (h + 1) (147 + 12 * nh + 3) ((x1 / 10) - (x1 / 10) / 10 * 10)) (h + 1) (147 + 12 * nh + 4) x2) (h + 1) y = _
  simp only [mI_sI, if_true, zR_mI]
  by_cases hy : 147 + 12 * nh ≤ y ∧ y < 159 + 12 * nh
  · obtain ⟨k, rfl⟩ : ∃ k, y = 147 + 12 * nh + k := ⟨y - (147 + 12 * nh), by omega⟩
    rw [if_pos hy, show 147 + 12 * nh + k - (147 + 12 * nh) = k by omega]
    unfold nhF
    by_cases k0 : k = 0
    · subst k0; simp
    · by_cases k1 : k = 1
      · subst k1; simp
      · by_cases k2 : k = 2
        · subst k2; simp
        · by_cases k3 : k = 3
          · subst k3; simp
          · by_cases k4 : k = 4
            · subst k4; simp
            · simp only [Nat.add_left_cancel_iff, k0, k1, k2, k3, k4, if_false]
              rw [if_pos (by first | omega | exact ⟨trivial, by omega, by omega⟩ | exact ⟨rfl, by omega, by omega⟩)]
  · rw [if_neg hy, if_neg (by omega), if_neg (by omega), if_neg (by omega), if_neg (by omega), if_neg (by omega), if_neg (by omega)]
theorem nhM_ne {h nh : Nat} {x1 x2 : Int32} {ν : XMem} {q : Nat} (h1 : q ≠ h + 1) : mI (nhM h nh x1 x2 ν) q = mI ν q := by
  funext y
  unfold nhM
  simp only [mI_sI, mI_sL, if_neg h1, zR_mI]
  rw [if_neg (by omega)]
theorem nhM_L {h nh : Nat} {x1 x2 : Int32} {ν : XMem} (q y : Nat) : mL (nhM h nh x1 x2 ν) q y = if q = h + 3 ∧ (y = 2 * nh ∨ y = 2 * nh + 1) then 0 else mL ν q y := by
  unfold nhM
  simp only [mL_sL, mL_sI, zR_mL]
  by_cases e : q = h + 3
  · subst e
    by_cases e6 : y = 2 * nh
    · subst e6; simp
    · by_cases e7 : y = 2 * nh + 1
      · subst e7; simp
      · simp [e6, e7]
  · simp [e]
theorem nhM_mR {h nh : Nat} {x1 x2 : Int32} {ν : XMem} : mR (nhM h nh x1 x2 ν) = mR ν := zR_mR 12 0 _
theorem nhM_mN {h nh : Nat} {x1 x2 : Int32} {ν : XMem} : mN (nhM h nh x1 x2 ν) = mN ν := zR_mN 12 0 _
theorem nhF_inv {n now nc : Nat} {x2 : Int32} (hn : n < 2 ^ 31) (h0 : n % 10 < nc) (h1 : n / 1000 ≤ 99) (h2 : n / 100 % 10 ≤ 1) (h3 : n / 10 % 10 ≤ 1) : HInv (nhF (nI n) x2) (fun _ => 0) now nc := by
  have d0 : nI n - nI n / 10 * 10 = nI (n % 10) := pk_rem (d := 10) (by omega) (by omega) (by omega)
  have d1 : nI n / 1000 = nI (n / 1000) := pk_div (d := 1000) (by omega) (by omega) (by omega)
  have d2 : nI n / 100 = nI (n / 100) := pk_div (d := 100) (by omega) (by omega) (by omega)
  have d3 : nI n / 10 = nI (n / 10) := pk_div (d := 10) (by omega) (by omega) (by omega)
  have d4 : nI (n / 100) - nI (n / 100) / 10 * 10 = nI (n / 100 % 10) := pk_rem (d := 10) (by omega) (by omega) (by omega)
  have d5 : nI (n / 10) - nI (n / 10) / 10 * 10 = nI (n / 10 % 10) := pk_rem (d := 10) (by omega) (by omega) (by omega)
  refine ⟨fun k => if k = 0 then n % 10 else if k = 1 then n / 1000 else if k = 2 then n / 100 % 10 else if k = 3 then n / 10 % 10 else 0, d0, d1, ?_, ?_, rfl, rfl, rfl, ?_⟩
  · show nI n / 100 - nI n / 100 / 10 * 10 = nI (n / 100 % 10)
    rw [d2]; exact d4
  · show nI n / 10 - nI n / 10 / 10 * 10 = nI (n / 10 % 10)
    rw [d3]; exact d5
  · simp
    omega
set_option maxHeartbeats 1000000 in
theorem Rel.newHouse {g h : Nat} {μ ν : XMem} (r : Rel g μ h ν) {now nc nl nh fl : Nat} {tx : Nat → List Int32} (w : RW μ (g + 1) (g + 63) ν (h + 1) (h + 3) now nc nl nh fl tx) (h8 : nh < 8) {x1 x2 : Int32} (hi : HInv (nhF x1 x2) (fun _ => 0) now nc) : Rel g (nhC g nh x1 x2 μ) h (nhM h nh x1 x2 ν) := by
  obtain ⟨w1, w2, w3, w4⟩ := w
  obtain ⟨⟨a0, a1, a2, a3, a4⟩, ⟨b0, b1, b2, b3, b4⟩, p1, p2, p3, p4, p5⟩ := id w1
  refine r.live (fun q hq => nhC_ne (by omega) (by omega)) (fun q hq => by funext y; rw [nhC_L, if_neg (by omega)]) rfl rfl (fun q q1 _ _ _ => nhM_ne q1) (fun q hq => by funext y; rw [nhM_L, if_neg (by omega)]) nhM_mR nhM_mN ⟨now, nc, nl, nh + 1, fl, tx, ⟨⟨?_, ?_, ?_, ?_, ?_⟩, ⟨?_, ?_, ?_, ?_, ?_⟩, p1, p2, p3, by omega, p5⟩, ?_, ?_, ?_⟩
  · rw [nhC_w, if_neg (by omega)]; exact a0
  · rw [nhC_w, if_neg (by omega)]; exact a1
  · rw [nhC_w, if_neg (by omega)]; exact a2
  · rw [nhC_w, if_pos rfl]; exact nI_1 nh
  · rw [nhC_w, if_neg (by omega)]; exact a4
  · rw [nhM_at, if_neg (by omega), if_neg (by omega)]; exact b0
  · rw [nhM_at, if_neg (by omega), if_neg (by omega)]; exact b1
  · rw [nhM_at, if_neg (by omega), if_neg (by omega)]; exact b2
  · rw [nhM_at, if_neg (by omega), if_pos rfl]; exact nI_1 nh
  · rw [nhM_at, if_neg (by omega), if_neg (by omega)]; exact b4
  · exact w2.cg p2 (fun c hc => nhC_ne (by omega) (by omega)) (fun q q1 q2 => by rw [nhM_at, if_neg (by omega), if_neg (by omega)])
  · intro c hc
    rw [g1614]
    by_cases e : c = nh
    · subst e
      refine ⟨fun k hk => ?_, fun k hk => ?_, ?_, ?_, hi.cg (fun k k1 => nhC_at k (by omega) (by omega) (by omega)) ?_ ?_⟩
      · rw [nhC_at k (by omega) (by omega) (by omega), nhM_at, if_pos (by omega), show 147 + 12 * c + k - (147 + 12 * c) = k by omega]
      · rw [nhC_at (8 + k) (by omega) (by omega) (by omega), nhM_at, if_pos (by omega), show 147 + 12 * c + (6 + k) - (147 + 12 * c) = 6 + k by omega]
        unfold nhF
        rw [if_neg (by omega), if_neg (by omega), if_neg (by omega), if_neg (by omega), if_neg (by omega), if_neg (by omega), if_neg (by omega), if_neg (by omega), if_neg (by omega), if_neg (by omega)]
      · rw [nhC_L, if_pos (by omega), nhM_L, if_pos (by omega)]
      · rw [nhC_L, if_pos (by omega), nhM_L, if_pos (by omega)]
      · rw [nhC_L, if_pos (by omega)]
      · rw [nhC_L, if_pos (by omega)]
    · obtain ⟨q1, q2, q3, q4, q5⟩ := w3 c (by omega)
      rw [g1614] at q1 q2 q3 q4 q5
      rw [nhC_ne (by omega) (by omega)]
      refine ⟨fun k hk => by rw [nhM_at, if_neg (by omega), if_neg (by omega)]; exact q1 k hk, fun k hk => by rw [nhM_at, if_neg (by omega), if_neg (by omega)]; exact q2 k hk, ?_, ?_, q5.cg (fun _ _ => rfl) ?_ ?_⟩
      · rw [nhC_L, if_neg (by omega), nhM_L, if_neg (by omega)]; exact q3
      · rw [nhC_L, if_neg (by omega), nhM_L, if_neg (by omega)]; exact q4
      · rw [nhC_L, if_neg (by omega)]
      · rw [nhC_L, if_neg (by omega)]
  · exact w4.cg (fun q hq => nhC_ne (by omega) (by omega)) (fun _ _ => rfl) (fun _ _ => rfl) rfl rfl (fun q hq => by rw [nhM_at, if_neg (by omega), if_neg (by omega)])
theorem X10_house_j65_0 {h : Nat} {ν : XMem} (L : LM h (mR ν) (mN ν)) (x1 x2 : Int32) : f_X10_house_j65 h x1 x2 ν = some (-1000000001, fdM h 0 ν) := by
  unfold f_X10_house_j65 f_X10_house_j66
  rw [if_pos rfl, X10_finds_0 L]
  rfl
set_option maxHeartbeats 400000 in
theorem op_house {g h : Nat} {μ ν : XMem} (r : Rel g μ h ν) (x1 x2 : Int32) : OpI (f_X9_house g x1 x2 μ) (f_X10_house h x1 x2 ν) g h := by
  obtain ⟨r1, r2, r3, r4, r5, r6, ⟨now, nc, nl, nh, fl, tx, w⟩, r8⟩ := id r
  obtain ⟨⟨a0, a1, a2, a3, a4⟩, ⟨v0, v1, v2, v3, v4⟩, p1, p2, p3, p4, p5⟩ := id w.1
  unfold f_X9_house f_X10_house
  simp only [nm_mk, X9_within_eq, X10_within_eq, b2_mk, X10_house_j65_0 r2, X9_finding_0 r1]
  by_cases c1 : x1 < 0
  · simp only [c1, if_true]; exact .mk (r.find (by decide))
  by_cases c2 : wi (x1 / 1000) 1 99 = 0
  · simp only [c1, c2, if_true, if_false]; exact .mk (r.find (by decide))
  have lt2 : ∀ x : Int32, 2 ≤ x ↔ 1 < x := fun x => by simp only [Int32.le_iff_toInt_le, Int32.lt_iff_toInt_lt]; rw [show (2 : Int32).toInt = 2 from rfl, show (1 : Int32).toInt = 1 from rfl]; omega
  simp only [lt2]
  by_cases c3 : 1 < x1 / 100 - x1 / 100 / 10 * 10
  · simp only [c1, c2, c3, if_true, if_false]; exact .mk (r.find (by decide))
  by_cases c4 : 1 < x1 / 10 - x1 / 10 / 10 * 10
  · simp only [c1, c2, c3, c4, if_true, if_false]; exact .mk (r.find (by decide))
  simp only [c1, c2, c3, c4, if_false, r1.1, fo_mk, X8_cellAt_eq (LCl r1) a1 p2, b2_mk, X10_isCell_eq r2 v1 (by omega)]
  cases hv : vx nc (x1 - x1 / 10 * 10) with
  | none =>
    simp only [Option.map_none, oc_mn, iS_n, if_true, b2_mk, X9_finding_0 r1, X10_house_j65_0 r2]
    exact .mk (r.find (k := 0) (by decide))
  | some j =>
    simp only [Option.map_some, oc_ms, iS_s, one_nz, if_false]
    by_cases c6 : wi x2 1 99999 = 0
    · simp only [c6, if_true, X9_finding_0 r1, X10_house_j65_0 r2, b2_mk]; exact .mk (r.find (k := 0) (by decide))
    obtain ⟨n, hn, rfl⟩ := nI_of c1
    have hq : n % 10 < nc ∧ n / 1000 ≤ 99 ∧ n / 100 % 10 ≤ 1 ∧ n / 10 % 10 ≤ 1 := by
      have d0 : nI n - nI n / 10 * 10 = nI (n % 10) := pk_rem (d := 10) (by omega) (by omega) (by omega)
      have d1 : nI n / 1000 = nI (n / 1000) := pk_div (d := 1000) (by omega) (by omega) (by omega)
      have d2 : nI n / 100 = nI (n / 100) := pk_div (d := 100) (by omega) (by omega) (by omega)
      have d3 : nI n / 10 = nI (n / 10) := pk_div (d := 10) (by omega) (by omega) (by omega)
      have d4 : nI (n / 100) - nI (n / 100) / 10 * 10 = nI (n / 100 % 10) := pk_rem (d := 10) (by omega) (by omega) (by omega)
      have d5 : nI (n / 10) - nI (n / 10) / 10 * 10 = nI (n / 10 % 10) := pk_rem (d := 10) (by omega) (by omega) (by omega)
      rw [d0] at hv
      rw [d1] at c2
      rw [d2, d4] at c3
      rw [d3, d5] at c4
      obtain ⟨e1, e2⟩ := vx_some hv
      have e3 : n % 10 = j := (nI_eq (by omega) (by omega)).mp e1
      obtain ⟨g1, g2⟩ := wi_n c2
      refine ⟨by omega, (nI_leI (b := 99) (by omega) (by omega)).mp g2, ?_, ?_⟩
      · exact Nat.le_of_not_lt fun q => c3 (nI_lt (a := 1) q (by omega))
      · exact Nat.le_of_not_lt fun q => c4 (nI_lt (a := 1) q (by omega))
    have hi : HInv (nhF (nI n) x2) (fun _ => 0) now nc := nhF_inv hn hq.1 hq.2.1 hq.2.2.1 hq.2.2.2
    generalize nI n = x1 at *
    have i1 : ib 3 1059 = true := by decide
    have j1 : Int32.toNatClampNeg 3 = 3 := by decide
    simp only [c6, if_false, f_X10_house_j66, one_nz, r2.1.1, fo_mk, r2.2.1, i1, gd_mk, j1, v3, r1.1, f_X8_newHouse, a3, nm_mk]
    by_cases h8 : nh = 8
    · have e1 : ¬ nI nh < 8 := by rw [h8]; decide
      have e2 : nI nh = 8 := by rw [h8]; rfl
      simp only [e1, if_false, b2_mk, oc_mn, X9_finding_1 r1]
      rw [if_pos e2, X10_finds_1 r2]
      exact .mk (r.find (k := 1) (by decide))
    · have hlt : nh < 8 := by omega
      have e1 : nI nh < 8 := nI_lt (b := 8) hlt (by omega)
      have e2 : ¬ nI nh = 8 := fun q => h8 ((nI_eq (b := 8) (by omega) (by omega)).mp q)
      have hn' : mI (sI μ (g + 1) 3 (nI nh + 1)) (g + 1) 3 = nI (nh + 1) := by rw [mI_at, nI_1]
      simp only [e1, e2, if_true, if_false]
      rw [hn', nI_pred, X8_houseAt_eq (μ := sI μ (g + 1) 3 (nI nh + 1)) (LCl r1) hn' (by omega), vx_nI (show nh < nh + 1 by omega) (by omega)]
      simp only [Option.map_some, b2_mk, oc_ms, g1614, f_X1_begin, nm_mk, b1_mk]
      have rl := X10_house_loop (h := h) hlt (x1 := x1) (x2 := x2) (k := fun m116 => b1 (f_X10_setHouse h (nI nh) 0 (x1 - x1 / 10 * 10) m116) fun m117 => b1 (f_X10_setHouse h (nI nh) 1 (x1 / 1000) m117) fun m118 => b1 (f_X10_setHouse h (nI nh) 2 ((x1 / 100) - (x1 / 100) / 10 * 10) m118) fun m119 => b1 (f_X10_setHouse h (nI nh) 3 ((x1 / 10) - (x1 / 10) / 10 * 10) m119) fun m120 => b1 (f_X10_setHouse h (nI nh) 4 x2 m120) fun m121 => fo (mR m121 h 2) fun b122 => gd (ib (2 * nI nh) (mN m121 b122)) <| fo (mR (sL m121 b122 (Int32.toNatClampNeg (2 * nI nh)) 0) h 2) fun b125 => gd (ib ((2 * nI nh) + 1) (mN (sL m121 b122 (Int32.toNatClampNeg (2 * nI nh)) 0) b125)) <| some (nI nh, sL (sL m121 b122 (Int32.toNatClampNeg (2 * nI nh)) 0) b125 (Int32.toNatClampNeg ((2 * nI nh) + 1)) 0)) 12 2000 0 (sI ν (h + 1) 3 (nI nh + 1)) r2 (by omega) (by omega)
      have LZ : LM h (mR (zR (h + 1) (147 + 12 * nh) 12 0 (sI ν (h + 1) 3 (nI nh + 1)))) (mN (zR (h + 1) (147 + 12 * nh) 12 0 (sI ν (h + 1) 3 (nI nh + 1)))) := by
        rw [zR_mR, zR_mN]; exact r2
      refine OpI.of (r := nI nh) (r' := nI nh) (μ := nhC g nh x1 x2 μ) (ν := nhM h nh x1 x2 ν) ?_ ?_ rfl (r.newHouse w hlt hi)
      · have := nhC_w (g := g) (nh := nh) (x1 := x1) (x2 := x2) (μ := μ) 3
        rw [if_pos rfl] at this
        show fo (mR μ g 0) (fun b135 => some (mI (nhC g nh x1 x2 μ) b135 3 - 1, nhC g nh x1 x2 μ)) = _
        rw [r1.1, fo_mk, this, nI_1, nI_pred]
      · refine rl.trans ?_
        unfold nhM
        generalize zR (h + 1) (147 + 12 * nh) 12 0 (sI ν (h + 1) 3 (nI nh + 1)) = Z at LZ ⊢
        have k1 : ib (nI (2 * nh)) 16 = true := ib_nI (by omega) (by omega)
        have k2 : ib (nI (2 * nh + 1)) 16 = true := ib_nI (by omega) (by omega)
        rw [setH_0 LZ hlt, b1_mk, setH_1 (ν := sI Z _ _ _) LZ hlt, b1_mk, setH_2 (ν := sI (sI Z _ _ _) _ _ _) LZ hlt, b1_mk, setH_3 (ν := sI (sI (sI Z _ _ _) _ _ _) _ _ _) LZ hlt, b1_mk, setH_4 (ν := sI (sI (sI (sI Z _ _ _) _ _ _) _ _ _) _ _ _) LZ hlt, b1_mk]
        simp only [mR_sI, mR_sL, mN_sI, mN_sL, LZ.1.2.2.1, fo_mk, LZ.2.2.2.1, i2x, nI_1, k1, k2, gd_mk, nI_clamp (show 2 * nh < 2 ^ 31 by omega), nI_clamp (show 2 * nh + 1 < 2 ^ 31 by omega)]

/-! PURE LAYER 3: cells that are read -/
def wmt (f : Nat → Int32) : Int32 := f 6 / f 3
def thm (f : Nat → Int32) : Int32 := if f 0 = 1 then wmt f + wmt f / 10 else if f 0 = 2 then wmt f + wmt f / 10 else if f 0 = 3 then wmt f else if f 0 = 4 then wmt f / 2 + 5 else if f 0 = 5 then wmt f + wmt f / 10 + 1 else wmt f
def pwr (f : Nat → Int32) : Int32 := if f 5 = 0 then 0 else f 1
/-- a cell's numbers in the reference -/
def crw (ν : XMem) (h j : Nat) : Nat → Int32 := fun k => mI ν (h + 1) (11 + 17 * j + k)
theorem oC_0 {h : Nat} {ν : XMem} (L : LM h (mR ν) (mN ν)) {j : Nat} (hj : j < 8) : f_X10_ofCell h (nI j) 0 ν = some (crw ν h j 0, ν) := ofC_0 L hj
theorem oC_1 {h : Nat} {ν : XMem} (L : LM h (mR ν) (mN ν)) {j : Nat} (hj : j < 8) : f_X10_ofCell h (nI j) 1 ν = some (crw ν h j 1, ν) := ofC_1 L hj
theorem oC_2 {h : Nat} {ν : XMem} (L : LM h (mR ν) (mN ν)) {j : Nat} (hj : j < 8) : f_X10_ofCell h (nI j) 2 ν = some (crw ν h j 2, ν) := ofC_2 L hj
theorem oC_3 {h : Nat} {ν : XMem} (L : LM h (mR ν) (mN ν)) {j : Nat} (hj : j < 8) : f_X10_ofCell h (nI j) 3 ν = some (crw ν h j 3, ν) := ofC_3 L hj
theorem oC_4 {h : Nat} {ν : XMem} (L : LM h (mR ν) (mN ν)) {j : Nat} (hj : j < 8) : f_X10_ofCell h (nI j) 4 ν = some (crw ν h j 4, ν) := ofC_4 L hj
theorem oC_5 {h : Nat} {ν : XMem} (L : LM h (mR ν) (mN ν)) {j : Nat} (hj : j < 8) : f_X10_ofCell h (nI j) 5 ν = some (crw ν h j 5, ν) := ofC_5 L hj
theorem oC_6 {h : Nat} {ν : XMem} (L : LM h (mR ν) (mN ν)) {j : Nat} (hj : j < 8) : f_X10_ofCell h (nI j) 6 ν = some (crw ν h j 6, ν) := ofC_6 L hj
theorem oC_7 {h : Nat} {ν : XMem} (L : LM h (mR ν) (mN ν)) {j : Nat} (hj : j < 8) : f_X10_ofCell h (nI j) 7 ν = some (crw ν h j 7, ν) := ofC_7 L hj
theorem oC_8 {h : Nat} {ν : XMem} (L : LM h (mR ν) (mN ν)) {j : Nat} (hj : j < 8) : f_X10_ofCell h (nI j) 8 ν = some (crw ν h j 8, ν) := ofC_8 L hj
theorem oC_9 {h : Nat} {ν : XMem} (L : LM h (mR ν) (mN ν)) {j : Nat} (hj : j < 8) : f_X10_ofCell h (nI j) 9 ν = some (crw ν h j 9, ν) := ofC_9 L hj
theorem oC_10 {h : Nat} {ν : XMem} (L : LM h (mR ν) (mN ν)) {j : Nat} (hj : j < 8) : f_X10_ofCell h (nI j) 10 ν = some (crw ν h j 10, ν) := ofC_10 L hj
theorem oC_11 {h : Nat} {ν : XMem} (L : LM h (mR ν) (mN ν)) {j : Nat} (hj : j < 8) : f_X10_ofCell h (nI j) 11 ν = some (crw ν h j 11, ν) := ofC_11 L hj
theorem oC_12 {h : Nat} {ν : XMem} (L : LM h (mR ν) (mN ν)) {j : Nat} (hj : j < 8) : f_X10_ofCell h (nI j) 12 ν = some (crw ν h j 12, ν) := ofC_12 L hj
theorem oC_13 {h : Nat} {ν : XMem} (L : LM h (mR ν) (mN ν)) {j : Nat} (hj : j < 8) : f_X10_ofCell h (nI j) 13 ν = some (crw ν h j 13, ν) := ofC_13 L hj
theorem oC_14 {h : Nat} {ν : XMem} (L : LM h (mR ν) (mN ν)) {j : Nat} (hj : j < 8) : f_X10_ofCell h (nI j) 14 ν = some (crw ν h j 14, ν) := ofC_14 L hj
theorem oC_15 {h : Nat} {ν : XMem} (L : LM h (mR ν) (mN ν)) {j : Nat} (hj : j < 8) : f_X10_ofCell h (nI j) 15 ν = some (crw ν h j 15, ν) := ofC_15 L hj
theorem oC_16 {h : Nat} {ν : XMem} (L : LM h (mR ν) (mN ν)) {j : Nat} (hj : j < 8) : f_X10_ofCell h (nI j) 16 ν = some (crw ν h j 16, ν) := ofC_16 L hj
theorem wi_z {v : Int32} {n : Nat} (hn : n < 2 ^ 31) (h : wi v 0 (nI n) = 0) (k : Nat) (hk : k ≤ n) : ¬ v = nI k := by
  intro e
  subst e
  unfold wi at h
  rw [if_neg (nI_pos (by omega)), if_neg (fun q => nI_nlt (a := n) (b := k) hk (by omega) q)] at h
  exact absurd h (by decide)
theorem nz_t {y : Int32} (h : ¬ y = 0) : nz y = true := by simp [nz, h]
theorem CInv.mass {f : Nat → Int32} (h : CInv f) : ¬ f 3 = 0 := by
  obtain ⟨u, h0, h1⟩ := h
  rw [h0 3 (by decide)]
  exact nI_ne0 (by omega) (by omega)
theorem X0_warmth_eq {a : Nat} {μ : XMem} (h : ¬ mI μ a 3 = 0) : f_X0_warmth a μ = some (wmt (mI μ a), μ) := by
  unfold f_X0_warmth
  rw [if_neg h, nz_t h, gd_mk]
  rfl
theorem X0_thermometer_eq {a : Nat} {μ : XMem} (h : ¬ mI μ a 3 = 0) : f_X0_thermometer a μ = some (thm (mI μ a), μ) := by
  unfold f_X0_thermometer thm
  rw [X0_warmth_eq h, b2_mk]
  repeat (first | (split <;> first | rfl | skip))
theorem X0_powerThatCounts_eq {a : Nat} {μ : XMem} : f_X0_powerThatCounts a μ = some (pwr (mI μ a), μ) := by
  unfold f_X0_powerThatCounts pwr
  split <;> rfl
theorem X10_warmth_eq {h j : Nat} {ν : XMem} (L : LM h (mR ν) (mN ν)) (hj : j < 8) (hm : ¬ crw ν h j 3 = 0) : f_X10_warmth h (nI j) ν = some (wmt (crw ν h j), ν) := by
  unfold f_X10_warmth
  rw [oC_6 L hj, b2_mk, oC_3 L hj, b2_mk, nz_t hm, gd_mk]
  rfl
theorem X10_readOf_eq {h j : Nat} {ν : XMem} (L : LM h (mR ν) (mN ν)) (hj : j < 8) (hm : ¬ crw ν h j 3 = 0) : f_X10_readOf h (nI j) ν = some (thm (crw ν h j), ν) := by
  unfold f_X10_readOf thm
  rw [X10_warmth_eq L hj hm, b2_mk, oC_0 L hj, b2_mk]
  repeat (first | (split <;> first | rfl | skip))
theorem X10_powerNow_eq {h j : Nat} {ν : XMem} (L : LM h (mR ν) (mN ν)) (hj : j < 8) : f_X10_powerNow h (nI j) ν = some (pwr (crw ν h j), ν) := by
  unfold f_X10_powerNow pwr
  rw [oC_5 L hj, b2_mk, oC_1 L hj]
  split <;> rfl
theorem thm_cg {f g : Nat → Int32} (h : ∀ k, k < 17 → f k = g k) : thm f = thm g := by
  unfold thm wmt
  rw [h 0 (by decide), h 6 (by decide), h 3 (by decide)]
theorem wmt_cg {f g : Nat → Int32} (h : ∀ k, k < 17 → f k = g k) : wmt f = wmt g := by
  unfold wmt
  rw [h 6 (by decide), h 3 (by decide)]
theorem pwr_cg {f g : Nat → Int32} (h : ∀ k, k < 17 → f k = g k) : pwr f = pwr g := by
  unfold pwr
  rw [h 5 (by decide), h 1 (by decide)]
/-- a cell of the live world, both sides -/
theorem RW.cell {g h : Nat} {μ ν : XMem} {now nc nl nh fl : Nat} {tx : Nat → List Int32} (w : RW μ (g + 1) (g + 63) ν (h + 1) (h + 3) now nc nl nh fl tx) {j : Nat} (hj : j < nc) : j < 8 ∧ (∀ k, k < 17 → mI μ (g + 7 + j) k = crw ν h j k) ∧ CInv (mI μ (g + 7 + j)) := by
  obtain ⟨-, -, p1, p2, -⟩ := w.1
  have q := w.2.1 j hj
  rw [g167] at q
  exact ⟨by omega, q.1, q.2⟩
theorem RW.mass {g h : Nat} {μ ν : XMem} {now nc nl nh fl : Nat} {tx : Nat → List Int32} (w : RW μ (g + 1) (g + 63) ν (h + 1) (h + 3) now nc nl nh fl tx) {j : Nat} (hj : j < nc) : ¬ mI μ (g + 7 + j) 3 = 0 ∧ ¬ crw ν h j 3 = 0 := by
  obtain ⟨-, q1, q2⟩ := w.cell hj
  exact ⟨q2.mass, by rw [← q1 3 (by decide)]; exact q2.mass⟩
set_option maxHeartbeats 1000000 in
theorem op_top {g h : Nat} {μ ν : XMem} (r : Rel g μ h ν) (c v : Int32) : OpI (f_X9_top g c v μ) (f_X10_top h c v ν) g h := by
  obtain ⟨r1, r2, r3, r4, r5, r6, ⟨now, nc, nl, nh, fl, tx, w⟩, r8⟩ := id r
  obtain ⟨⟨a0, a1, a2, a3, a4⟩, ⟨b0, b1, b2, b3, b4⟩, p1, p2, p3, p4, p5⟩ := id w.1
  unfold f_X9_top f_X10_top
  simp only [r1.1, fo_mk, X8_cellAt_eq (LCl r1) a1 p2, b2_mk, X10_isCell_eq r2 b1 (by omega), X9_within_eq, X10_within_eq]
  cases hv : vx nc c with
  | none =>
    simp only [Option.map_none, oc_mn, X9_finding_0 r1, X10_finds_0 r2, b2_mk, iS_n, if_true]
    exact .mk (r.find (by decide))
  | some j =>
    obtain ⟨rfl, hj⟩ := vx_some hv
    simp only [Option.map_some, oc_ms, iS_s, one_nz, if_false, g167]
    by_cases hw : wi v 1 9999 = 0
    · simp only [hw, if_true, X9_finding_0 r1, X10_finds_0 r2, b2_mk]
      exact .mk (r.find (by decide))
    · obtain ⟨hj8, q1, q2⟩ := w.cell hj
      obtain ⟨v1, v2⟩ := wi_n hw
      obtain ⟨n, hn, rfl⟩ := nI_of2 (n := 9999) rfl (Int32.not_lt.mpr (Int32.le_trans (by decide) v1)) v2
      obtain ⟨u, u0, u1, u2, u3, u4, u5, u6, u7⟩ := id q2
      have e5 : mI μ (g + 7 + j) 5 = nI (u 5) := u0 5 (by decide)
      have e5' : mI ν (h + 1) (11 + 17 * j + 5) = nI (u 5) := by rw [← e5]; exact (q1 5 (by decide)).symm
      simp only [hw, if_false, nm_mk, ofC_5 r2 hj8, b2_mk, putC_5 r2 hj8, b1_mk, e5, e5', nI_add]
      by_cases hle : u 5 + n ≤ 9999
      · have c2 : nI (u 5 + n) ≤ 9999 := nI_le (b := 9999) hle (by omega)
        have hm : (if nI (u 5 + n) < 9999 then nI (u 5 + n) else 9999) = nI (u 5 + n) := by
          split
          · rfl
          · have := Int32.not_lt.mp (by assumption)
            exact Int32.le_antisymm this c2
        simp only [if_pos c2, hm, ofC_5 (ν := sI ν _ _ _) r2 hj8, b2_mk, mI_at]
        exact .mk (r.setC w hj (by decide) (q2.set (Or.inr ⟨rfl, hle⟩)))
      · have c2 : ¬ nI (u 5 + n) ≤ 9999 := nI_ge (a := 9999) (by omega) (by omega)
        have hm : (if nI (u 5 + n) < 9999 then nI (u 5 + n) else 9999) = 9999 := if_neg (fun q => c2 (Int32.le_of_lt q))
        simp only [if_neg c2, hm, ofC_5 (ν := sI ν _ _ _) r2 hj8, b2_mk, mI_at]
        exact .mk (r.setC w hj (by decide) (q2.set (n := 9999) (Or.inr ⟨rfl, by omega⟩)))
set_option maxHeartbeats 2000000 in
theorem op_of {g h : Nat} {μ ν : XMem} (r : Rel g μ h ν) (c v : Int32) : OpI (f_X9_of g c v μ) (f_X10_of h c v ν) g h := by
  obtain ⟨r1, r2, r3, r4, r5, r6, ⟨now, nc, nl, nh, fl, tx, w⟩, r8⟩ := id r
  obtain ⟨⟨a0, a1, a2, a3, a4⟩, ⟨b0, b1, b2, b3, b4⟩, p1, p2, p3, p4, p5⟩ := id w.1
  unfold f_X9_of f_X10_of
  simp only [r1.1, fo_mk, X8_cellAt_eq (LCl r1) a1 p2, b2_mk, X10_isCell_eq r2 b1 (by omega), X10_within_eq]
  cases hv : vx nc c with
  | none =>
    simp only [Option.map_none, oc_mn, X9_finding_0 r1, X10_finds_0 r2, b2_mk, iS_n, if_true]
    exact .mk (r.find (by decide))
  | some j =>
    obtain ⟨rfl, hj⟩ := vx_some hv
    obtain ⟨hj8, q1, q2⟩ := w.cell hj
    obtain ⟨m1, m2⟩ := w.mass hj
    simp only [Option.map_some, oc_ms, iS_s, one_nz, if_false, g167]
    by_cases hw : wi v 0 9 = 0
    · have hne := wi_z (v := v) (n := 9) (by decide) hw
      have h0 : ¬ v = 0 := hne 0 (by decide)
      have h1 : ¬ v = 1 := hne 1 (by decide)
      have h2 : ¬ v = 2 := hne 2 (by decide)
      have h3 : ¬ v = 3 := hne 3 (by decide)
      have h4 : ¬ v = 4 := hne 4 (by decide)
      have h5 : ¬ v = 5 := hne 5 (by decide)
      have h6 : ¬ v = 6 := hne 6 (by decide)
      have h7 : ¬ v = 7 := hne 7 (by decide)
      have h8 : ¬ v = 8 := hne 8 (by decide)
      have h9 : ¬ v = 9 := hne 9 (by decide)
      simp only [hw, h0, h1, h2, h3, h4, h5, h6, h7, h8, h9, if_true, if_false, X9_finding_0 r1, X10_finds_0 r2, b2_mk]
      exact .mk (r.find (by decide))
    · obtain ⟨n, hn, rfl⟩ := wi_nat (n := 9) rfl hw
      simp only [hw, if_false]
      have hc : n = 0 ∨ n = 1 ∨ n = 2 ∨ n = 3 ∨ n = 4 ∨ n = 5 ∨ n = 6 ∨ n = 7 ∨ n = 8 ∨ n = 9 := by omega
      rcases hc with rfl | rfl | rfl | rfl | rfl | rfl | rfl | rfl | rfl | rfl
      · exact .of rfl (by rw [if_neg (by decide), show nI 0 = 0 from rfl, oC_0 r2 hj8, b2_mk]) (q1 0 (by decide)) r
      · exact .of rfl (by rw [if_neg (by decide), show nI 1 = 1 from rfl, oC_1 r2 hj8, b2_mk]) (q1 1 (by decide)) r
      · exact .of rfl (by rw [if_neg (by decide), show nI 2 = 2 from rfl, oC_2 r2 hj8, b2_mk]) (q1 2 (by decide)) r
      · exact .of rfl (by rw [if_neg (by decide), show nI 3 = 3 from rfl, oC_3 r2 hj8, b2_mk]) (q1 3 (by decide)) r
      · exact .of rfl (by rw [if_neg (by decide), show nI 4 = 4 from rfl, oC_4 r2 hj8, b2_mk]) (q1 4 (by decide)) r
      · exact .of rfl (by rw [if_neg (by decide), show nI 5 = 5 from rfl, oC_5 r2 hj8, b2_mk]) (q1 5 (by decide)) r
      · exact .of rfl (by rw [if_neg (by decide), show nI 6 = 6 from rfl, oC_6 r2 hj8, b2_mk]) (q1 6 (by decide)) r
      · exact .of rfl (by rw [if_neg (by decide), show nI 7 = 7 from rfl, oC_7 r2 hj8, b2_mk]) (q1 7 (by decide)) r
      · exact .of (by rw [X0_warmth_eq m1, b2_mk]; rfl) (by rw [if_pos (by decide), if_pos (by decide), X10_warmth_eq r2 hj8 m2, b2_mk]) (wmt_cg q1) r
      · exact .of (by rw [X0_thermometer_eq m1, b2_mk]; rfl) (by rw [if_pos (by decide), if_neg (by decide), X10_readOf_eq r2 hj8 m2, b2_mk]) (thm_cg q1) r
set_option maxHeartbeats 2000000 in
theorem op_latest {g h : Nat} {μ ν : XMem} (r : Rel g μ h ν) (c v : Int32) : OpI (f_X9_latest g c v μ) (f_X10_latest h c v ν) g h := by
  obtain ⟨r1, r2, r3, r4, r5, r6, ⟨now, nc, nl, nh, fl, tx, w⟩, r8⟩ := id r
  obtain ⟨⟨a0, a1, a2, a3, a4⟩, ⟨b0, b1, b2, b3, b4⟩, p1, p2, p3, p4, p5⟩ := id w.1
  unfold f_X9_latest f_X10_latest
  simp only [r1.1, fo_mk, X8_cellAt_eq (LCl r1) a1 p2, b2_mk, X10_isCell_eq r2 b1 (by omega), X10_within_eq]
  cases hv : vx nc c with
  | none =>
    simp only [Option.map_none, oc_mn, X9_finding_0 r1, X10_finds_0 r2, b2_mk, iS_n, if_true]
    exact .mk (r.find (by decide))
  | some j =>
    obtain ⟨rfl, hj⟩ := vx_some hv
    obtain ⟨hj8, q1, q2⟩ := w.cell hj
    obtain ⟨m1, m2⟩ := w.mass hj
    simp only [Option.map_some, oc_ms, iS_s, one_nz, if_false, g167]
    by_cases hw : wi v 0 4 = 0
    · have hne := wi_z (v := v) (n := 4) (by decide) hw
      have h0 : ¬ v = 0 := hne 0 (by decide)
      have h1 : ¬ v = 1 := hne 1 (by decide)
      have h2 : ¬ v = 2 := hne 2 (by decide)
      have h3 : ¬ v = 3 := hne 3 (by decide)
      have h4 : ¬ v = 4 := hne 4 (by decide)
      simp only [hw, h0, h1, h2, h3, h4, if_true, if_false, X9_finding_0 r1, X10_finds_0 r2, b2_mk]
      exact .mk (r.find (by decide))
    · obtain ⟨n, hn, rfl⟩ := wi_nat (n := 4) rfl hw
      simp only [hw, if_false]
      have hc : n = 0 ∨ n = 1 ∨ n = 2 ∨ n = 3 ∨ n = 4 := by omega
      rcases hc with rfl | rfl | rfl | rfl | rfl
      · exact .of rfl (by rw [show (8 : Int32) + nI 0 = 8 from rfl, oC_8 r2 hj8, b2_mk]) (q1 8 (by decide)) r
      · exact .of rfl (by rw [show (8 : Int32) + nI 1 = 9 from rfl, oC_9 r2 hj8, b2_mk]) (q1 9 (by decide)) r
      · exact .of rfl (by rw [show (8 : Int32) + nI 2 = 10 from rfl, oC_10 r2 hj8, b2_mk]) (q1 10 (by decide)) r
      · exact .of rfl (by rw [show (8 : Int32) + nI 3 = 11 from rfl, oC_11 r2 hj8, b2_mk]) (q1 11 (by decide)) r
      · exact .of rfl (by rw [show (8 : Int32) + nI 4 = 12 from rfl, oC_12 r2 hj8, b2_mk]) (q1 12 (by decide)) r
set_option maxHeartbeats 2000000 in
theorem op_ever {g h : Nat} {μ ν : XMem} (r : Rel g μ h ν) (c v : Int32) : OpI (f_X9_ever g c v μ) (f_X10_ever h c v ν) g h := by
  obtain ⟨r1, r2, r3, r4, r5, r6, ⟨now, nc, nl, nh, fl, tx, w⟩, r8⟩ := id r
  obtain ⟨⟨a0, a1, a2, a3, a4⟩, ⟨b0, b1, b2, b3, b4⟩, p1, p2, p3, p4, p5⟩ := id w.1
  unfold f_X9_ever f_X10_ever
  simp only [r1.1, fo_mk, X8_cellAt_eq (LCl r1) a1 p2, b2_mk, X10_isCell_eq r2 b1 (by omega), X10_within_eq]
  cases hv : vx nc c with
  | none =>
    simp only [Option.map_none, oc_mn, X9_finding_0 r1, X10_finds_0 r2, b2_mk, iS_n, if_true]
    exact .mk (r.find (by decide))
  | some j =>
    obtain ⟨rfl, hj⟩ := vx_some hv
    obtain ⟨hj8, q1, q2⟩ := w.cell hj
    obtain ⟨m1, m2⟩ := w.mass hj
    simp only [Option.map_some, oc_ms, iS_s, one_nz, if_false, g167]
    by_cases hw : wi v 0 3 = 0
    · have hne := wi_z (v := v) (n := 3) (by decide) hw
      have h0 : ¬ v = 0 := hne 0 (by decide)
      have h1 : ¬ v = 1 := hne 1 (by decide)
      have h2 : ¬ v = 2 := hne 2 (by decide)
      have h3 : ¬ v = 3 := hne 3 (by decide)
      simp only [hw, h0, h1, h2, h3, if_true, if_false, X9_finding_0 r1, X10_finds_0 r2, b2_mk]
      exact .mk (r.find (by decide))
    · obtain ⟨n, hn, rfl⟩ := wi_nat (n := 3) rfl hw
      simp only [hw, if_false]
      have hc : n = 0 ∨ n = 1 ∨ n = 2 ∨ n = 3 := by omega
      rcases hc with rfl | rfl | rfl | rfl
      · exact .of rfl (by rw [show (13 : Int32) + nI 0 = 13 from rfl, oC_13 r2 hj8, b2_mk]) (q1 13 (by decide)) r
      · exact .of rfl (by rw [show (13 : Int32) + nI 1 = 14 from rfl, oC_14 r2 hj8, b2_mk]) (q1 14 (by decide)) r
      · exact .of rfl (by rw [show (13 : Int32) + nI 2 = 15 from rfl, oC_15 r2 hj8, b2_mk]) (q1 15 (by decide)) r
      · exact .of rfl (by rw [show (13 : Int32) + nI 3 = 16 from rfl, oC_16 r2 hj8, b2_mk]) (q1 16 (by decide)) r

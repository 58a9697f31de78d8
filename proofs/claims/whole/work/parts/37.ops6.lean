/-! PURE LAYER 7: a new cell -/
def ncC (g nc : Nat) (x1 x2 x3 x4 : Int32) (μ : XMem) : XMem := sI (sI (sI (sI (sI (sI (sI (sI (sI (sI (sI (sI (sI (sI (sI (sI (sI (sI μ (g + 1) 1 (nI nc + 1)) (g + 7 + nc) 6 0) (g + 7 + nc) 7 0) (g + 7 + nc) 8 0) (g + 7 + nc) 9 0) (g + 7 + nc) 10 0) (g + 7 + nc) 11 0) (g + 7 + nc) 12 0) (g + 7 + nc) 13 0) (g + 7 + nc) 14 0) (g + 7 + nc) 15 0) (g + 7 + nc) 16 0) (g + 7 + nc) 0 x1) (g + 7 + nc) 3 (x2 / 1000000)) (g + 7 + nc) 2 (x2 / 10000 - x2 / 10000 / 100 * 100)) (g + 7 + nc) 1 (x2 - x2 / 10000 * 10000)) (g + 7 + nc) 4 x3) (g + 7 + nc) 5 x4
def ncM (h nc : Nat) (x1 x2 x3 x4 : Int32) (ν : XMem) : XMem := sI (sI (sI (sI (sI (sI (zR (h + 1) (11 + 17 * nc) 17 0 (sI ν (h + 1) 1 (nI nc + 1))) (h + 1) (11 + 17 * nc + 0) x1) (h + 1) (11 + 17 * nc + 1) (x2 - x2 / 10000 * 10000)) (h + 1) (11 + 17 * nc + 2) (x2 / 10000 - x2 / 10000 / 100 * 100)) (h + 1) (11 + 17 * nc + 3) (x2 / 1000000)) (h + 1) (11 + 17 * nc + 4) x3) (h + 1) (11 + 17 * nc + 5) x4
def ncF (x1 x2 x3 x4 : Int32) (k : Nat) : Int32 := if k = 0 then x1 else if k = 1 then (x2 - x2 / 10000 * 10000) else if k = 2 then (x2 / 10000 - x2 / 10000 / 100 * 100) else if k = 3 then x2 / 1000000 else if k = 4 then x3 else if k = 5 then x4 else 0
theorem ncC_cell {g nc : Nat} {x1 x2 x3 x4 : Int32} {μ : XMem} (k : Nat) (hk : k < 17) : mI (ncC g nc x1 x2 x3 x4 μ) (g + 7 + nc) k = ncF x1 x2 x3 x4 k := by
  have : k = 0 ∨ k = 1 ∨ k = 2 ∨ k = 3 ∨ k = 4 ∨ k = 5 ∨ k = 6 ∨ k = 7 ∨ k = 8 ∨ k = 9 ∨ k = 10 ∨ k = 11 ∨ k = 12 ∨ k = 13 ∨ k = 14 ∨ k = 15 ∨ k = 16 := by omega
  unfold ncC ncF
  rcases this with rfl | rfl | rfl | rfl | rfl | rfl | rfl | rfl | rfl | rfl | rfl | rfl | rfl | rfl | rfl | rfl | rfl <;> simp [mI_sI]
theorem ncC_ne {g nc : Nat} {x1 x2 x3 x4 : Int32} {μ : XMem} {q : Nat} (h1 : q ≠ g + 7 + nc) (h2 : q ≠ g + 1) : mI (ncC g nc x1 x2 x3 x4 μ) q = mI μ q := by
  funext y
  unfold ncC
  simp only [mI_sI, if_neg h1, if_neg h2]
theorem ncC_w {g nc : Nat} {x1 x2 x3 x4 : Int32} {μ : XMem} (y : Nat) : mI (ncC g nc x1 x2 x3 x4 μ) (g + 1) y = if y = 1 then nI nc + 1 else mI μ (g + 1) y := by
  unfold ncC
  have e : ¬ g + 1 = g + 7 + nc := by omega
  simp only [mI_sI, if_neg e, if_true]
theorem ncM_at {h nc : Nat} {x1 x2 x3 x4 : Int32} {ν : XMem} (y : Nat) : mI (ncM h nc x1 x2 x3 x4 ν) (h + 1) y = if 11 + 17 * nc ≤ y ∧ y < 28 + 17 * nc then ncF x1 x2 x3 x4 (y - (11 + 17 * nc)) else if y = 1 then nI nc + 1 else mI ν (h + 1) y := by
  unfold ncM
  simp only [mI_sI, if_true, zR_mI]
  by_cases hy : 11 + 17 * nc ≤ y ∧ y < 28 + 17 * nc
  · obtain ⟨k, rfl⟩ : ∃ k, y = 11 + 17 * nc + k := ⟨y - (11 + 17 * nc), by omega⟩
    rw [if_pos hy, show 11 + 17 * nc + k - (11 + 17 * nc) = k by omega]
    unfold ncF
    by_cases k0 : k = 0
    · subst k0; simp
    · by_cases k1 : k = 1
      · subst k1; simp
      · by_cases k2 : k = 2
        · subst k2; simp
        · by_cases k3 : k = 3
          · subst k3; simp
          · by_cases k4 : k = 4
            · subst k4; simp
            · by_cases k5 : k = 5
              · subst k5; simp
              · simp only [Nat.add_left_cancel_iff, k0, k1, k2, k3, k4, k5, if_false]
                rw [if_pos (by first | omega | exact ⟨trivial, by omega, by omega⟩ | exact ⟨rfl, by omega, by omega⟩)]
  · rw [if_neg hy, if_neg (by omega), if_neg (by omega), if_neg (by omega), if_neg (by omega), if_neg (by omega), if_neg (by omega), if_neg (by omega)]
theorem ncM_ne {h nc : Nat} {x1 x2 x3 x4 : Int32} {ν : XMem} {q : Nat} (h1 : q ≠ h + 1) : mI (ncM h nc x1 x2 x3 x4 ν) q = mI ν q := by
  funext y
  unfold ncM
  simp only [mI_sI, if_neg h1, zR_mI]
  rw [if_neg (by omega)]
theorem ncM_mL {h nc : Nat} {x1 x2 x3 x4 : Int32} {ν : XMem} : mL (ncM h nc x1 x2 x3 x4 ν) = mL ν := zR_mL 17 0 _
theorem ncM_mR {h nc : Nat} {x1 x2 x3 x4 : Int32} {ν : XMem} : mR (ncM h nc x1 x2 x3 x4 ν) = mR ν := zR_mR 17 0 _
theorem ncM_mN {h nc : Nat} {x1 x2 x3 x4 : Int32} {ν : XMem} : mN (ncM h nc x1 x2 x3 x4 ν) = mN ν := zR_mN 17 0 _
theorem CInv.cg {f g : Nat → Int32} (h : CInv f) (e : ∀ k, k < 9 → g k = f k) : CInv g := by
  obtain ⟨u, h0, h1⟩ := h
  exact ⟨u, fun k hk => by rw [e k hk]; exact h0 k hk, h1⟩
theorem ncF_inv {x1 x2 x3 x4 : Int32} (h1 : ¬ wi x1 0 5 = 0) (h2 : ¬ x2 < 0) (h3 : ¬ wi (x2 / 1000000) 1 99 = 0) (h4 : ¬ wi (x2 / 10000 - x2 / 10000 / 100 * 100) 1 99 = 0) (h5 : ¬ wi x3 0 100 = 0) (h6 : ¬ wi x4 0 9999 = 0) : CInv (ncF x1 x2 x3 x4) := by
  obtain ⟨n1, e1, rfl⟩ := wi_nat (n := 5) rfl h1
  obtain ⟨n, en, rfl⟩ := nI_of h2
  obtain ⟨n3, e3, rfl⟩ := wi_nat (n := 100) rfl h5
  obtain ⟨n4, e4, rfl⟩ := wi_nat (n := 9999) rfl h6
  have d1 : nI n / 1000000 = nI (n / 1000000) := pk_div (d := 1000000) (by omega) (by omega) (by omega)
  have d2 : nI n / 10000 = nI (n / 10000) := pk_div (d := 10000) (by omega) (by omega) (by omega)
  have d3 : nI (n / 10000) - nI (n / 10000) / 100 * 100 = nI (n / 10000 % 100) := pk_rem (d := 100) (by omega) (by omega) (by omega)
  have d4 : nI n - nI n / 10000 * 10000 = nI (n % 10000) := pk_rem (d := 10000) (by omega) (by omega) (by omega)
  rw [d1] at h3
  rw [d2, d3] at h4
  obtain ⟨g1, g2⟩ := wi_n h3
  obtain ⟨g3, g4⟩ := wi_n h4
  have w1 : 1 ≤ n / 1000000 := (nI_leI (a := 1) (by omega) (by omega)).mp g1
  have w2 : n / 1000000 ≤ 99 := (nI_leI (b := 99) (by omega) (by omega)).mp g2
  have w3 : 1 ≤ n / 10000 % 100 := (nI_leI (a := 1) (by omega) (by omega)).mp g3
  have w4 : n / 10000 % 100 ≤ 99 := by omega
  refine ⟨fun k => if k = 0 then n1 else if k = 1 then n % 10000 else if k = 2 then n / 10000 % 100 else if k = 3 then n / 1000000 else if k = 4 then n3 else if k = 5 then n4 else 0, fun k hk => ?_, ?_⟩
  · rcases (show k = 0 ∨ k = 1 ∨ k = 2 ∨ k = 3 ∨ k = 4 ∨ k = 5 ∨ k = 6 ∨ k = 7 ∨ k = 8 by omega) with rfl | rfl | rfl | rfl | rfl | rfl | rfl | rfl | rfl
    · rfl
    · exact d4
    · show nI n / 10000 - nI n / 10000 / 100 * 100 = nI (n / 10000 % 100)
      rw [d2]; exact d3
    · exact d1
    · rfl
    · rfl
    · rfl
    · rfl
    · rfl
  · simp
    omega
set_option maxHeartbeats 1000000 in
theorem Rel.newCell {g h : Nat} {μ ν : XMem} (r : Rel g μ h ν) {now nc nl nh fl : Nat} {tx : Nat → List Int32} (w : RW μ (g + 1) (g + 63) ν (h + 1) (h + 3) now nc nl nh fl tx) (h8 : nc < 8) {x1 x2 x3 x4 : Int32} (hi : CInv (ncF x1 x2 x3 x4)) : Rel g (ncC g nc x1 x2 x3 x4 μ) h (ncM h nc x1 x2 x3 x4 ν) := by
  obtain ⟨w1, w2, w3, w4⟩ := w
  obtain ⟨⟨a0, a1, a2, a3, a4⟩, ⟨b0, b1, b2, b3, b4⟩, p1, p2, p3, p4, p5⟩ := id w1
  refine r.live (fun q hq => ncC_ne (by omega) (by omega)) (fun _ _ => rfl) rfl rfl (fun q q1 _ _ _ => ncM_ne q1) (fun q _ => by rw [ncM_mL]) ncM_mR ncM_mN ⟨now, nc + 1, nl, nh, fl, tx, ⟨⟨?_, ?_, ?_, ?_, ?_⟩, ⟨?_, ?_, ?_, ?_, ?_⟩, p1, by omega, p3, p4, p5⟩, ?_, ?_, ?_⟩
  · rw [ncC_w, if_neg (by omega)]; exact a0
  · rw [ncC_w, if_pos rfl]; exact nI_1 nc
  · rw [ncC_w, if_neg (by omega)]; exact a2
  · rw [ncC_w, if_neg (by omega)]; exact a3
  · rw [ncC_w, if_neg (by omega)]; exact a4
  · rw [ncM_at, if_neg (by omega), if_neg (by omega)]; exact b0
  · rw [ncM_at, if_neg (by omega), if_pos rfl]; exact nI_1 nc
  · rw [ncM_at, if_neg (by omega), if_neg (by omega)]; exact b2
  · rw [ncM_at, if_neg (by omega), if_neg (by omega)]; exact b3
  · rw [ncM_at, if_neg (by omega), if_neg (by omega)]; exact b4
  · intro c hc
    rw [g167]
    by_cases e : c = nc
    · subst e
      refine ⟨fun k hk => ?_, hi.cg fun k hk => ncC_cell k (by omega)⟩
      rw [ncC_cell k hk, ncM_at, if_pos (by omega), show 11 + 17 * c + k - (11 + 17 * c) = k by omega]
    · have q := w2 c (by omega)
      rw [g167] at q
      rw [ncC_ne (by omega) (by omega)]
      exact ⟨fun k hk => by rw [ncM_at, if_neg (by omega), if_neg (by omega)]; exact q.1 k hk, q.2⟩
  · have w3' := w3.cg (μ' := ncC g nc x1 x2 x3 x4 μ) (ν' := ncM h nc x1 x2 x3 x4 ν) p4 (fun c hc => ncC_ne (by omega) (by omega)) (fun _ _ => rfl) (fun q q1 q2 => by rw [ncM_at, if_neg (by omega), if_neg (by omega)]) (by rw [ncM_mL])
    intro c hc
    obtain ⟨y1, y2, y3, y4, u, z0, z1, z2, z3, z5, z8, z12, z⟩ := w3' c hc
    exact ⟨y1, y2, y3, y4, u, z0, z1, z2, z3, z5, z8, z12, by omega, z.2⟩
  · exact w4.cg (fun q hq => ncC_ne (by omega) (by omega)) (fun _ _ => rfl) (fun _ _ => rfl) rfl rfl (fun q hq => by rw [ncM_at, if_neg (by omega), if_neg (by omega)])
theorem X10_cell_j64_0 {h : Nat} {ν : XMem} (L : LM h (mR ν) (mN ν)) (x1 x2 x3 x4 : Int32) : f_X10_cell_j63 h x1 x2 x3 x4 ν = some (-1000000001, fdM h 0 ν) := by
  unfold f_X10_cell_j63 f_X10_cell_j64
  rw [if_pos rfl, X10_finds_0 L]
  rfl
set_option maxHeartbeats 400000 in
theorem op_cell {g h : Nat} {μ ν : XMem} (r : Rel g μ h ν) (x1 x2 x3 x4 : Int32) : OpI (f_X9_cell g x1 x2 x3 x4 μ) (f_X10_cell h x1 x2 x3 x4 ν) g h := by
  obtain ⟨r1, r2, r3, r4, r5, r6, ⟨now, nc, nl, nh, fl, tx, w⟩, r8⟩ := id r
  obtain ⟨⟨a0, a1, a2, a3, a4⟩, ⟨v0, v1, v2, v3, v4⟩, p1, p2, p3, p4, p5⟩ := id w.1
  unfold f_X9_cell f_X10_cell
  simp only [nm_mk, X9_within_eq, X10_within_eq, b2_mk, X10_cell_j64_0 r2, X9_finding_0 r1]
  by_cases c1 : wi x1 0 5 = 0
  · simp only [c1, if_true]; exact .mk (r.find (by decide))
  by_cases c2 : x2 < 0
  · simp only [c1, c2, if_true, if_false]; exact .mk (r.find (by decide))
  by_cases c3 : wi (x2 / 1000000) 1 99 = 0
  · simp only [c1, c2, c3, if_true, if_false]; exact .mk (r.find (by decide))
  have c4e : (x2 / 10000 - x2 / 10000 / 100 * 100 ≤ 0) ↔ wi (x2 / 10000 - x2 / 10000 / 100 * 100) 1 99 = 0 := by
    obtain ⟨n, en, rfl⟩ := nI_of c2
    have d2 : nI n / 10000 = nI (n / 10000) := pk_div (d := 10000) (by omega) (by omega) (by omega)
    have d3 : nI (n / 10000) - nI (n / 10000) / 100 * 100 = nI (n / 10000 % 100) := pk_rem (d := 100) (by omega) (by omega) (by omega)
    rw [d2, d3]
    unfold wi
    by_cases hz : n / 10000 % 100 = 0
    · rw [hz]; decide
    · have h1 : ¬ nI (n / 10000 % 100) < 1 := nI_nlt (b := 1) (by omega) (by omega)
      have h2 : ¬ 99 < nI (n / 10000 % 100) := nI_nlt (a := 99) (by omega) (by omega)
      rw [if_neg h1, if_neg h2]
      exact ⟨fun q => absurd q (nI_nle (by omega) (by omega)), fun q => absurd q (by decide)⟩
  by_cases c4 : wi (x2 / 10000 - x2 / 10000 / 100 * 100) 1 99 = 0
  · simp only [c1, c2, c3, c4, c4e, if_true, if_false]; exact .mk (r.find (by decide))
  by_cases c5 : wi x3 0 100 = 0
  · simp only [c1, c2, c3, c4, c4e, c5, if_true, if_false]; exact .mk (r.find (by decide))
  by_cases c6 : wi x4 0 9999 = 0
  · simp only [c1, c2, c3, c4, c4e, c5, c6, if_true, if_false]; exact .mk (r.find (by decide))
  have i1 : ib 1 1059 = true := by decide
  have j1 : Int32.toNatClampNeg 1 = 1 := by decide
  simp only [c1, c2, c3, c4, c4e, c5, c6, if_false, f_X10_cell_j64, one_nz, r2.1.1, fo_mk, r2.2.1, i1, gd_mk, j1, v1, r1.1, f_X8_newCell, a1, nm_mk]
  by_cases h8 : nc = 8
  · have e1 : ¬ nI nc < 8 := by rw [h8]; decide
    have e2 : nI nc = 8 := by rw [h8]; rfl
    simp only [e1, if_false, b2_mk, oc_mn, X9_finding_1 r1]
    rw [if_pos e2, X10_finds_1 r2]
    exact .mk (r.find (k := 1) (by decide))
  · have hlt : nc < 8 := by omega
    have e1 : nI nc < 8 := nI_lt (b := 8) hlt (by omega)
    have e2 : ¬ nI nc = 8 := fun q => h8 ((nI_eq (b := 8) (by omega) (by omega)).mp q)
    have hn' : mI (sI μ (g + 1) 1 (nI nc + 1)) (g + 1) 1 = nI (nc + 1) := by rw [mI_at, nI_1]
    simp only [e1, e2, if_true, if_false]
    rw [hn', nI_pred, X8_cellAt_eq (μ := sI μ (g + 1) 1 (nI nc + 1)) (LCl r1) hn' (by omega), vx_nI (show nc < nc + 1 by omega) (by omega)]
    simp only [Option.map_some, b2_mk, oc_ms, g167, f_X0_begin, nm_mk, b1_mk]
    have rl := X10_cell_loop (h := h) hlt (x1 := x1) (x2 := x2) (x3 := x3) (x4 := x4) (k := fun m118 => b1 (f_X10_puts h (nI nc) 0 x1 m118) fun m119 => b1 (f_X10_puts h (nI nc) 1 (x2 - x2 / 10000 * 10000) m119) fun m120 => b1 (f_X10_puts h (nI nc) 2 ((x2 / 10000) - (x2 / 10000) / 100 * 100) m120) fun m121 => b1 (f_X10_puts h (nI nc) 3 (x2 / 1000000) m121) fun m122 => b1 (f_X10_puts h (nI nc) 4 x3 m122) fun m123 => b1 (f_X10_puts h (nI nc) 5 x4 m123) fun m124 => some (nI nc, m124)) 17 2000 0 (sI ν (h + 1) 1 (nI nc + 1)) r2 (by omega) (by omega)
    have LZ : LM h (mR (zR (h + 1) (11 + 17 * nc) 17 0 (sI ν (h + 1) 1 (nI nc + 1)))) (mN (zR (h + 1) (11 + 17 * nc) 17 0 (sI ν (h + 1) 1 (nI nc + 1)))) := by
      rw [zR_mR, zR_mN]; exact r2
    refine OpI.of (r := nI nc) (r' := nI nc) (μ := ncC g nc x1 x2 x3 x4 μ) (ν := ncM h nc x1 x2 x3 x4 ν) ?_ ?_ rfl (r.newCell w hlt (ncF_inv c1 c2 c3 c4 c5 c6))
    · rw [show mR (sI (sI (sI (sI (sI (sI (sI (sI (sI (sI (sI (sI (sI (sI (sI (sI (sI (sI μ (g + 1) 1 (nI nc + 1)) (g + 7 + nc) 6 0) (g + 7 + nc) 7 0) (g + 7 + nc) 8 0) (g + 7 + nc) 9 0) (g + 7 + nc) 10 0) (g + 7 + nc) 11 0) (g + 7 + nc) 12 0) (g + 7 + nc) 13 0) (g + 7 + nc) 14 0) (g + 7 + nc) 15 0) (g + 7 + nc) 16 0) (g + 7 + nc) 0 x1) (g + 7 + nc) 3 (x2 / 1000000)) (g + 7 + nc) 2 (x2 / 10000 - x2 / 10000 / 100 * 100)) (g + 7 + nc) 1 (x2 - x2 / 10000 * 10000)) (g + 7 + nc) 4 x3) (g + 7 + nc) 5 x4) g 0 = some (g + 1) from r1.1, fo_mk]
      have := ncC_w (g := g) (nc := nc) (x1 := x1) (x2 := x2) (x3 := x3) (x4 := x4) (μ := μ) 1
      rw [if_pos rfl] at this
      show some (mI (ncC g nc x1 x2 x3 x4 μ) (g + 1) 1 - 1, ncC g nc x1 x2 x3 x4 μ) = _
      rw [this, nI_1, nI_pred]
    · refine rl.trans ?_
      unfold ncM
      generalize zR (h + 1) (11 + 17 * nc) 17 0 (sI ν (h + 1) 1 (nI nc + 1)) = Z at LZ ⊢
      rw [putC_0 LZ hlt, b1_mk, putC_1 (ν := sI Z _ _ _) LZ hlt, b1_mk, putC_2 (ν := sI (sI Z _ _ _) _ _ _) LZ hlt, b1_mk, putC_3 (ν := sI (sI (sI Z _ _ _) _ _ _) _ _ _) LZ hlt, b1_mk, putC_4 (ν := sI (sI (sI (sI Z _ _ _) _ _ _) _ _ _) _ _ _) LZ hlt, b1_mk, putC_5 (ν := sI (sI (sI (sI (sI Z _ _ _) _ _ _) _ _ _) _ _ _) _ _ _) LZ hlt, b1_mk]


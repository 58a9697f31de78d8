/-! PURE LAYER 32: need, read -/
theorem need_in {g h nl c N made : Nat} {tx : Nat → List Int32} (hc : c < 8) (hN : N ≤ 20) (hmd : made ≤ 300) {x2 : Int32} {a4 : Nat} {kC : XMem → Option (Int32 × XMem)} {kM : XMem → Option XMem} : ∀ (m n i : Nat) (μ ν : XMem), i + m = N → m < n → Fr g μ h ν nl tx → (∀ k, k < 17 → k ≠ 12 → mI μ (g + 53) k = crw ν h c k) → CInv (mI μ (g + 53)) →
    ∃ μ' ν', f_X9_need_h65 g x2 (nI N) a4 (nI made) kC n (nI i) μ = kC μ' ∧ f_X10_go_h3 h (nI c) (-1) (nI made) (nI N) kM n (nI i) ν = kM ν' ∧ OnC g (g + 53) μ μ' ∧ OnM h c ν ν' ∧ (∀ k, k < 17 → k ≠ 12 → mI μ' (g + 53) k = crw ν' h c k) ∧ CInv (mI μ' (g + 53)) := by
  have i0 : ib 0 1059 = true := by decide
  intro m
  induction m with
  | zero =>
    intro n i μ ν hi hn F hq hI
    obtain ⟨n, rfl⟩ : ∃ q, n = q + 1 := ⟨n - 1, by omega⟩
    have hcc : nI N ≤ nI i := nI_le (by omega) (by omega)
    exact ⟨μ, ν, by rw [f_X9_need_h65, if_pos hcc], by rw [f_X10_go_h3, if_pos hcc], OnC.refl _ _ _, OnM.refl _ _ _, hq, hI⟩
  | succ m ih =>
    intro n i μ ν hi hn F hq hI
    obtain ⟨n, rfl⟩ : ∃ q, n = q + 1 := ⟨n - 1, by omega⟩
    have hcc : ¬ nI N ≤ nI i := nI_ge (by omega) (by omega)
    obtain ⟨μ1, ν1, s1, s2, s3, s4, s5, s6⟩ := told_pair F hc (a := g + 53) (by omega) (by omega) hq hI (m := made) (by omega) (mI ν (h + 1) (Int32.toNatClampNeg 0) + nI i)
    obtain ⟨μ', ν', z1, z2, z3, z4, z5, z6⟩ := ih n (i + 1) μ1 ν1 (by omega) (by omega) (F.on (a := g + 53) (by omega) (by omega) hc s3 s4) s5 s6
    refine ⟨μ', ν', ?_, ?_, s3.trans z3, s4.trans z4, z5, z6⟩
    · rw [f_X9_need_h65, if_neg hcc, F.1.2.2.2.2.2.2.1, fo_mk, s1, b1_mk, nm_mk, nI_1]
      exact z1
    · rw [f_X10_go_h3, if_neg hcc, F.2.1.1.1, fo_mk, F.2.1.2.1, i0, gd_mk, s2, b1_mk, nm_mk, nI_1]
      exact z2
set_option maxHeartbeats 400000 in
theorem need_loop {g h nl c N : Nat} {μ0 ν0 : XMem} {tx : Nat → List Int32} (F0 : Fr g μ0 h ν0 nl tx) (hc : c < 8) (hN : N ≤ 20) (hq0 : ∀ k, k < 17 → mI μ0 (g + 7 + c) k = crw ν0 h c k) (hI0 : CInv (mI μ0 (g + 7 + c))) {x2 : Int32} {kA : Int32 → XMem → Option (Int32 × XMem)} {kB : XMem → Option (Int32 × XMem)} {kM : Int32 → XMem → Option (Int32 × XMem)} : ∀ (m n j : Nat) (μ ν : XMem), j + m = 301 → m < n → OnT g μ0 μ → Sv h c ν0 ν → Bk h ν0 ν →
    ∃ μ' ν', OnT g μ0 μ' ∧ Bk h ν0 ν' ∧ ((∃ y, y ≤ 300 ∧ f_X9_need_h45 g x2 (nI N) (g + 7 + c) kA kB n (nI j) μ = kA (nI y) μ' ∧ f_X10_need_h46 h (nI c) x2 (nI N) kM n (-1) (nI j) ν = kM (nI y) ν') ∨ (f_X9_need_h45 g x2 (nI N) (g + 7 + c) kA kB n (nI j) μ = kB μ' ∧ f_X10_need_h46 h (nI c) x2 (nI N) kM n (-1) (nI j) ν = kM (-1) ν')) := by
  intro m
  induction m with
  | zero =>
    intro n j μ ν hj hn o s b
    obtain ⟨n, rfl⟩ : ∃ q, n = q + 1 := ⟨n - 1, by omega⟩
    obtain rfl : j = 301 := by omega
    refine ⟨μ, ν, o, b, Or.inr ⟨?_, ?_⟩⟩
    · rw [f_X9_need_h45, if_pos (by decide)]
    · rw [f_X10_need_h46, if_pos (by decide)]
  | succ m ih =>
    intro n j μ ν hj hn o s b
    obtain ⟨n, rfl⟩ : ∃ q, n = q + 1 := ⟨n - 1, by omega⟩
    have c1 : ¬ (300 : Int32) < nI j := nI_nlt (a := 300) (by omega) (by omega)
    have l7 := F0.1.2.2.2.2.2.2.1
    have Rm : mR μ = mR μ0 := o.2.2.1
    obtain ⟨μ1, t1, t2, t3, t4⟩ := take_eq (g := g) (a := g + 53) (μ := μ) (Or.inl rfl) hc
    have e7 : mI μ (g + 7 + c) = mI μ0 (g + 7 + c) := o.1 _ (by omega) (by omega) (by omega) (by omega)
    have F1 : Fr g μ1 h ν nl tx := ((F0.ont o).bk b).ont t2
    have q1 : ∀ k, k < 17 → k ≠ 12 → mI μ1 (g + 53) k = crw ν h c k := fun k hk _ => by rw [t3 k hk, e7, b.row]; exact hq0 k hk
    have I1 : CInv (mI μ1 (g + 53)) := hI0.cg (fun k hk => by rw [t3 k (by omega), e7])
    obtain ⟨μ2, ν2, z1, z2, z3, z4, z5, z6⟩ := need_in hc hN (show j ≤ 300 by omega) (x2 := x2) (a4 := g + 7 + c) (kC := fun m122 => fo (mR m122 g 7) fun b123 => if (mI m122 b123 6) < x2 then (nm (nI j + 1) fun x124 => f_X9_need_h45 g x2 (nI N) (g + 7 + c) kA kB n x124 m122) else (kA (nI j) m122)) (kM := fun m101 => some m101) N 2000 0 μ1 ν (by omega) (by omega) F1 q1 I1
    have o2 : OnT g μ0 μ2 := by
      have : OnT g μ0 μ1 := ⟨fun q a1 a2 a3 a4 => (t2.1 q a1 a2 a3 a4).trans (o.1 q a1 a2 a3 a4), t2.2.1.trans o.2.1, t2.2.2.1.trans o.2.2.1, t2.2.2.2.trans o.2.2.2⟩
      exact this.on z3 (Or.inl rfl)
    obtain ⟨ν3, w1, w2, w3, -⟩ := brings_eq F0.2.1 hc (s.on z4)
    have L2 : LM h (mR ν2) (mN ν2) := z4.L (b.L F0.2.1)
    have R2 : mR μ2 = mR μ0 := o2.2.2.1
    have e6 : mI μ2 (g + 53) 6 = crw ν2 h c 6 := z5 6 (by omega) (by omega)
    have A : f_X9_need_h45 g x2 (nI N) (g + 7 + c) kA kB (n + 1) (nI j) μ = if crw ν2 h c 6 < x2 then f_X9_need_h45 g x2 (nI N) (g + 7 + c) kA kB n (nI (j + 1)) μ2 else kA (nI j) μ2 := by
      rw [f_X9_need_h45, if_neg c1, Rm, l7, fo_mk, t1, b1_mk]
      refine z1.trans ?_
      show fo (mR μ2 g 7) _ = _
      rw [R2, l7, fo_mk, e6, nI_1, nm_mk]
    have B : f_X10_need_h46 h (nI c) x2 (nI N) kM (n + 1) (-1) (nI j) ν = if crw ν2 h c 6 < x2 then f_X10_need_h46 h (nI c) x2 (nI N) kM n (-1) (nI (j + 1)) ν3 else f_X10_need_h46 h (nI c) x2 (nI N) kM n (nI j) (nI (j + 1)) ν3 := by
      have g1 : f_X10_go h (nI c) (-1) (nI j) (nI N) ν = some ν2 := z2
      rw [f_X10_need_h46, if_neg c1, if_neg (by decide), g1, b1_mk, oC_6 L2 hc, b2_mk, w1, b1_mk, b1_mk, nm_mk, nm_mk, nI_1]
    rw [A, B]
    by_cases hx : crw ν2 h c 6 < x2
    · rw [if_pos hx, if_pos hx]
      exact ih n (j + 1) μ2 ν3 (by omega) (by omega) o2 w3 w2
    · rw [if_neg hx, if_neg hx]
      refine ⟨μ2, ν3, o2, w2, Or.inl ⟨j, by omega, rfl, ?_⟩⟩
      obtain ⟨n, rfl⟩ : ∃ q, n = q + 1 := ⟨n - 1, by omega⟩
      have p0 : (0 : Int32) ≤ nI j := nI_pos' (by omega)
      rw [f_X10_need_h46]
      by_cases h3 : (300 : Int32) < nI (j + 1)
      · rw [if_pos h3]
      · rw [if_neg h3, if_pos p0]
set_option maxHeartbeats 400000 in
theorem op_need {g h : Nat} {μ ν : XMem} (r : Rel g μ h ν) (x1 x2 x3 : Int32) : OpI (f_X9_need g x1 x2 x3 μ) (f_X10_need h x1 x2 x3 ν) g h := by
  obtain ⟨r1, r2, r3, r4, r5, r6, ⟨now, nc, nl, nh, fl, tx, w⟩, r8⟩ := id r
  obtain ⟨⟨a0, a1, a2, a3, a4⟩, ⟨v0, v1, v2, v3, v4⟩, p1, p2, p3, p4, p5⟩ := id w.1
  unfold f_X9_need f_X10_need
  rw [r1.1, fo_mk, X8_cellAt_eq (LCl r1) a1 p2, b2_mk, X10_isCell_eq r2 v1 (show nc < 2 ^ 31 by omega), b2_mk]
  cases hv : vx nc x1 with
  | none =>
    rw [Option.map_none, oc_mn, iS_n, if_pos rfl, X9_finding_0 r1, X10_finds_0 r2]
    exact .mk (r.find (k := 0) (by decide))
  | some c =>
    obtain ⟨rfl, hc⟩ := vx_some hv
    rw [Option.map_some, oc_ms, iS_s, if_neg one_nz, X9_within_eq, b2_mk, X10_within_eq, b2_mk]
    by_cases hw : wi x2 0 999999 = 0
    · rw [if_pos hw, if_pos hw, X9_finding_0 r1, X10_finds_0 r2]
      exact .mk (r.find (k := 0) (by decide))
    · rw [if_neg hw, if_neg hw, X9_within_eq, b2_mk, X10_within_eq, b2_mk]
      by_cases hw2 : wi x3 1 20 = 0
      · rw [if_pos hw2, if_pos hw2, X9_finding_0 r1, X10_finds_0 r2]
        exact .mk (r.find (k := 0) (by decide))
      · rw [if_neg hw2, if_neg hw2, g167 g c]
        obtain ⟨hc8, q1, q2⟩ := w.cell hc
        obtain ⟨N, hN1, hN, rfl⟩ := wi_nat1 (n := 20) rfl hw2
        obtain ⟨ν1, s1, s2, s3⟩ := saves_eq r2 hc8
        obtain ⟨μ', ν', z1, z2, z3⟩ := need_loop (w.fr r1 r2) hc8 hN q1 q2 (x2 := x2) (kA := fun x114 m113 => some (x114, m113)) (kB := fun m115 => b2 (f_X9_finding g 3 m115) fun r117 m116 => some (r117, m116)) (kM := fun x113 m112 => if 0 ≤ x113 then (some (x113, m112)) else (b2 (f_X10_finds h (-1000000004) m112) fun r115 m114 => some (r115, m114))) 301 2000 0 μ ν1 (by omega) (by omega) (OnT.refl g μ) s2 s3
        have fin := r.trial z1 z2
        rw [s1, b1_mk]
        rcases z3 with ⟨y, y1, y2, y3⟩ | ⟨y2, y3⟩
        · refine OpI.of y2 (y3.trans ?_) rfl fin
          show (if 0 ≤ nI y then some (nI y, ν') else _) = _
          rw [if_pos (nI_pos' (by omega))]
        · refine OpI.of (r := -1000000004) (y2.trans ?_) (y3.trans ?_) rfl (fin.find (k := 3) (by decide))
          · show b2 (f_X9_finding g 3 μ') _ = _
            rw [X9_finding_3 fin.1, b2_mk]
          · show (if (0 : Int32) ≤ -1 then _ else b2 (f_X10_finds h (-1000000004) ν') fun r115 m114 => some (r115, m114)) = _
            rw [if_neg (by decide), X10_finds_3 fin.2.1, b2_mk]
/-- the reference's hour goes through, whatever the class does -/
def MOk (h nl : Nat) (tx : Nat → List Int32) (ν : XMem) : Prop := LM h (mR ν) (mN ν) ∧ nl ≤ 6 ∧ ∀ i, i < nl ∨ i = 6 ∨ i = 7 → TM ν (h + 1) i (tx i) ∧ WFT (tx i)
theorem Fr.mok {g h nl : Nat} {μ ν : XMem} {tx : Nat → List Int32} (F : Fr g μ h ν nl tx) : MOk h nl tx ν := ⟨F.2.1, F.2.2.2.1, F.2.2.2.2.2.2.2⟩
theorem MOk.cg {h nl : Nat} {tx : Nat → List Int32} {ν ν' : XMem} (M : MOk h nl tx ν) (e5 : mR ν' = mR ν) (e6 : mN ν' = mN ν) (e7 : ∀ k, 243 ≤ k → mI ν' (h + 1) k = mI ν (h + 1) k) : MOk h nl tx ν' := by
  obtain ⟨m1, m2, m3⟩ := M
  refine ⟨by rw [e5, e6]; exact m1, m2, fun i hi => ?_⟩
  obtain ⟨⟨g1, g2⟩, g3⟩ := m3 i hi
  exact ⟨⟨by rw [e7 _ (by omega)]; exact g1, fun k hk => by rw [e7 _ (by omega)]; exact g2 k hk⟩, g3⟩
theorem MOk.on {h nl c : Nat} {tx : Nat → List Int32} {ν ν' : XMem} (M : MOk h nl tx ν) (hc : c < 8) (o : OnM h c ν ν') : MOk h nl tx ν' := M.cg o.2.2.2.1 o.2.2.2.2 (fun k hk => o.2.1 k (by omega))
theorem goes_ok {h nl c : Nat} {tx : Nat → List Int32} {ν : XMem} (M : MOk h nl tx ν) (hc : c < 8) (hi : CInv (crw ν h c)) {x2 : Int32} (hl : LwOk nl x2) (x4 : Int32) : ∃ ν', f_X10_goes h (nI c) x2 (-1) x4 ν = some ν' ∧ OnM h c ν ν' ∧ CInv (crw ν' h c) := by
  have core : ∀ (ν1 : XMem) (m : Nat), m ≤ 9999 → WkM h ν ν1 → ∃ ν', f_X10_goes_j27 h (nI c) x2 x4 (nI m) ν1 = some ν' ∧ OnM h c ν ν' ∧ CInv (crw ν' h c) := by
    intro ν1 m hm9 y4
    have o1 : OnM h c ν ν1 := (OnM.refl h c ν).wk y4
    have M1 := M.on hc o1
    have ec : crw ν1 h c = crw ν h c := by unfold crw; rw [y4.1 _ (by omega)]
    obtain ⟨tm6, wf6⟩ := M1.2.2 6 (by omega)
    obtain ⟨fl, ν2, ν3, ν4, q1, q2, q3, q4, q5, q6, q7, q8⟩ := goes_27 (x2 := x2) (x4 := x4) (ray := rayV ν h x2) M1.1 hc tm6 wf6 ec hi hm9 (fun ν' o => by rw [rayV_eq (o.L M1.1) M.2.1 hl, rayV_cg M.2.1 hl hc (o1.trans o)])
    exact ⟨ν4, q1, o1.trans q6, (hour_inv hi hm9).1.cg (fun k hk => q7 k (by omega) (by omega))⟩
  unfold f_X10_goes
  rw [if_pos (by decide)]
  rcases hl with rfl | ⟨i, hi', rfl⟩
  · rw [if_neg (by decide)]
    exact core ν 0 (by omega) (WkM.refl h ν)
  · have h6 := M.2.1
    obtain ⟨tmi, wfi⟩ := M.2.2 i (Or.inl hi')
    obtain ⟨v, ν1, y1, y2⟩ := X10_worked_ok M.1 tmi wfi (show i < 8 by omega) hc hi.mass x4
    obtain ⟨m, m1, m2⟩ := hd_nat v
    rw [if_pos (nI_pos' (by omega)), y1, b2_mk, X10_held_eq, b2_mk, m2]
    exact core ν1 m m1 y2
theorem read_rest {h nl s c z fl : Nat} {tx : Nat → List Int32} (hs : s < 4) (hc : c < 8) (hfl : fl ≤ nl) {x3 : Int32} (hx : ¬ x3 = 0) {k : Int32 → XMem → Option (Int32 × XMem)} : ∀ (m n i : Nat) (ν : XMem), i + m = 40 → z ≤ 40 → m < n → MOk h nl tx ν → CInv (crw ν h c) → mI ν (h + 1) 4 = nI fl → mI ν (h + 14) s = nI z →
    ∃ ν', f_X10_read_h55 h (nI s) (nI c) k n x3 (nI i) ν = k x3 ν' ∧ OnM h c ν ν' := by
  have i0 : ib 0 1059 = true := by decide
  have i4 : ib 4 1059 = true := by decide
  have j4 : Int32.toNatClampNeg 4 = 4 := by decide
  have is : ib (nI s) 4 = true := ib_nI hs (by omega)
  have js : (nI s).toNatClampNeg = s := nI_clamp (by omega)
  intro m
  induction m with
  | zero =>
    intro n i ν hi hz hn M hI v4 z4
    obtain ⟨n, rfl⟩ : ∃ q, n = q + 1 := ⟨n - 1, by omega⟩
    have l20 := M.1.1.2.2.2.2.2.2.2.2.2.2.2.2.2.1
    have n14 := M.1.2.2.2.2.2.2.2.2.2.2.2.2.2.2.1
    exact ⟨ν, by rw [f_X10_read_h55, l20, fo_mk, n14, is, gd_mk, js, z4, if_pos (nI_le (by omega) (by omega))], OnM.refl _ _ _⟩
  | succ m ih =>
    intro n i ν hi hz hn M hI v4 z4
    obtain ⟨n, rfl⟩ : ∃ q, n = q + 1 := ⟨n - 1, by omega⟩
    have l20 := M.1.1.2.2.2.2.2.2.2.2.2.2.2.2.2.1
    have n14 := M.1.2.2.2.2.2.2.2.2.2.2.2.2.2.2.1
    by_cases hc1 : nI z ≤ nI i
    · exact ⟨ν, by rw [f_X10_read_h55, l20, fo_mk, n14, is, gd_mk, js, z4, if_pos hc1], OnM.refl _ _ _⟩
    · obtain ⟨ν1, s1, s2, s3⟩ := goes_ok M hc hI (LwOk.fl hfl) (mI ν (h + 1) (Int32.toNatClampNeg 0) + nI i)
      obtain ⟨ν', z1, z2⟩ := ih n (i + 1) ν1 (by omega) hz (by omega) (M.on hc s2) s3 (by rw [s2.2.1 _ (by omega)]; exact v4) (by rw [s2.1 _ (by omega) (by omega)]; exact z4)
      refine ⟨ν', ?_, s2.trans z2⟩
      rw [f_X10_read_h55, l20, fo_mk, n14, is, gd_mk, js, z4, if_neg hc1, M.1.1.1, fo_mk, M.1.2.1, i4, gd_mk, fo_mk, M.1.2.1, i0, gd_mk, j4, v4, s1, b1_mk, if_neg hx, nm_mk, nI_1]
      exact z1
set_option maxHeartbeats 400000 in
theorem read_loop {g h nl s c z now fl : Nat} {tx : Nat → List Int32} {lc lm : Nat → Int64} (hs : s < 4) (hc : c < 8) (hfl : fl ≤ nl) (hz : z ≤ 40) (hlm : ∀ k, k < 40 → lc k = lm (40 * s + k)) {kA : Int32 → XMem → Option (Int32 × XMem)} {kB : XMem → Option (Int32 × XMem)} {kM : Int32 → XMem → Option (Int32 × XMem)} : ∀ (m n i : Nat) (μ ν : XMem), i + m = 40 → m < n → Fr g μ h ν nl tx → (∀ k, k < 17 → k ≠ 12 → mI μ (g + 53) k = crw ν h c k) → CInv (mI μ (g + 53)) → mI μ (g + 1) 0 = nI now → mI μ (g + 1) 4 = nI fl - 1 → mI ν (h + 1) 0 = nI now → mI ν (h + 1) 4 = nI fl → mI μ (g + 55 + 2 * s) 1 = nI z → mI ν (h + 14) s = nI z → mL μ (g + 56 + 2 * s) = lc → mL ν (h + 15) = lm →
    ∃ μ' ν', OnC g (g + 53) μ μ' ∧ OnM h c ν ν' ∧ ((∃ y, y < 40 ∧ f_X9_read_h62 g (nI c) (g + 55 + 2 * s) kA kB n (nI i) μ = kA (nI y) μ' ∧ f_X10_read_h55 h (nI s) (nI c) kM n 0 (nI i) ν = kM (nI (y + 1)) ν') ∨ (f_X9_read_h62 g (nI c) (g + 55 + 2 * s) kA kB n (nI i) μ = kB μ' ∧ f_X10_read_h55 h (nI s) (nI c) kM n 0 (nI i) ν = kM 0 ν')) := by
  have i0 : ib 0 1059 = true := by decide
  have j0 : Int32.toNatClampNeg 0 = 0 := by decide
  have i4 : ib 4 1059 = true := by decide
  have j4 : Int32.toNatClampNeg 4 = 4 := by decide
  have is : ib (nI s) 4 = true := ib_nI hs (by omega)
  have js : (nI s).toNatClampNeg = s := nI_clamp (by omega)
  intro m
  induction m with
  | zero =>
    intro n i μ ν hi hn F hq hI a0 a4 v0 v4 z3 z4 m1 m2
    obtain ⟨n, rfl⟩ : ∃ q, n = q + 1 := ⟨n - 1, by omega⟩
    have l20 := F.2.1.1.2.2.2.2.2.2.2.2.2.2.2.2.2.1
    have n14 := F.2.1.2.2.2.2.2.2.2.2.2.2.2.2.2.2.1
    have hc1 : nI z ≤ nI i := nI_le (by omega) (by omega)
    exact ⟨μ, ν, OnC.refl _ _ _, OnM.refl _ _ _, Or.inr ⟨by rw [f_X9_read_h62, z3, if_pos hc1], by rw [f_X10_read_h55, l20, fo_mk, n14, is, gd_mk, js, z4, if_pos hc1]⟩⟩
  | succ m ih =>
    intro n i μ ν hi hn F hq hI a0 a4 v0 v4 z3 z4 m1 m2
    obtain ⟨n, rfl⟩ : ∃ q, n = q + 1 := ⟨n - 1, by omega⟩
    have l20 := F.2.1.1.2.2.2.2.2.2.2.2.2.2.2.2.2.1
    have n14 := F.2.1.2.2.2.2.2.2.2.2.2.2.2.2.2.2.1
    have l21 := F.2.1.1.2.2.2.2.2.2.2.2.2.2.2.2.2.2.1
    have n15 := F.2.1.2.2.2.2.2.2.2.2.2.2.2.2.2.2.2.1
    have l0 := F.1.1
    have l7 := F.1.2.2.2.2.2.2.1
    by_cases hc1 : nI z ≤ nI i
    · exact ⟨μ, ν, OnC.refl _ _ _, OnM.refl _ _ _, Or.inr ⟨by rw [f_X9_read_h62, z3, if_pos hc1], by rw [f_X10_read_h55, l20, fo_mk, n14, is, gd_mk, js, z4, if_pos hc1]⟩⟩
    · have hiz : i < z := by
        by_cases t : i < z
        · exact t
        · exact absurd (nI_le (by omega) (by omega)) hc1
      obtain ⟨μ1, ν1, μ2, s1, s2, s3, s4, s5, s6, s7, s8, s9, s10⟩ := warm_pair F hc (a := g + 53) (by omega) (by omega) hq hI (LwOk.fl hfl) (nI now + nI i)
      have F1 : Fr g μ1 h ν1 nl tx := F.on (a := g + 53) (by omega) (by omega) hc s4 s6
      have q := F1.1.2.2.2.2.2.2.2.2.2.2.2.2.2.2.2.2.2.2.2.2 s hs
      have l7' := F1.1.2.2.2.2.2.2.1
      have e1 : mI μ1 (g + 1) = mI μ (g + 1) := s4.1 _ (by omega) (by omega) (by omega)
      have z3' : mI μ1 (g + 55 + 2 * s) 1 = nI z := by rw [s4.1 _ (by omega) (by omega) (by omega)]; exact z3
      have z4' : mI ν1 (h + 14) s = nI z := by rw [s6.1 _ (by omega) (by omega)]; exact z4
      have m1' : mL μ1 (g + 56 + 2 * s) = lc := by rw [s4.2.1]; exact m1
      have m2' : mL ν1 (h + 15) = lm := by rw [s6.2.2.1]; exact m2
      have v4' : mI ν1 (h + 1) 4 = nI fl := by rw [s6.2.1 _ (by omega)]; exact v4
      have et : thm (mI μ1 (g + 53)) = thm (crw ν1 h c) := thm_8 (fun k hk => s7 k (by omega) (by omega))
      have hm : ¬ crw ν1 h c 3 = 0 := by rw [← s7 3 (by omega) (by omega)]; exact s9.mass
      have ii : ib (nI (40 * s + i)) 160 = true := ib_nI (by omega) (by omega)
      have ji : (nI (40 * s + i)).toNatClampNeg = 40 * s + i := nI_clamp (by omega)
      have l21' : mR ν1 h 21 = some (h + 15) := by rw [s6.2.2.2.1]; exact l21
      have n15' : mN ν1 (h + 15) = 160 := by rw [s6.2.2.2.2]; exact n15
      have A : f_X9_read_h62 g (nI c) (g + 55 + 2 * s) kA kB (n + 1) (nI i) μ = if lg_cmp (lm (40 * s + i)) (Int32.toInt64 (thm (crw ν1 h c))) = 0 then f_X9_read_h62 g (nI c) (g + 55 + 2 * s) kA kB n (nI (i + 1)) μ1 else kA (nI i) μ1 := by
        rw [f_X9_read_h62, z3, if_neg hc1, l0, fo_mk, l7, fo_mk, fo_mk, fo_mk, a4, a0, s1, b1_mk, X4_numberAt_eq q.2.1 q.2.2 hz z3' hiz, b2_mk, l7', fo_mk, X0_thermometer_eq s9.mass, b2_mk, et, m1', hlm i (by omega), nm_mk, nI_1]
      have B : f_X10_read_h55 h (nI s) (nI c) kM (n + 1) 0 (nI i) ν = if lg_cmp (lm (40 * s + i)) (Int32.toInt64 (thm (crw ν1 h c))) = 0 then f_X10_read_h55 h (nI s) (nI c) kM n 0 (nI (i + 1)) ν1 else f_X10_read_h55 h (nI s) (nI c) kM n (nI (i + 1)) (nI (i + 1)) ν1 := by
        rw [f_X10_read_h55, l20, fo_mk, n14, is, gd_mk, js, z4, if_neg hc1, F.2.1.1.1, fo_mk, F.2.1.2.1, i4, gd_mk, fo_mk, F.2.1.2.1, i0, gd_mk, j4, v4, j0, v0, s2, b1_mk, if_pos rfl, l21', fo_mk, n15', ix40, ii, gd_mk, X10_readOf_eq F1.2.1 hc hm, b2_mk, ji, m2', nm_mk, nm_mk, nm_mk, nI_1]
      rw [A, B]
      by_cases hx : lg_cmp (lm (40 * s + i)) (Int32.toInt64 (thm (crw ν1 h c))) = 0
      · rw [if_pos hx, if_pos hx]
        obtain ⟨μ', ν', y1, y2, y3⟩ := ih n (i + 1) μ1 ν1 (by omega) (by omega) F1 s7 s9 (by rw [e1]; exact a0) (by rw [e1]; exact a4) (by rw [s6.2.1 _ (by omega)]; exact v0) v4' z3' z4' m1' m2'
        exact ⟨μ', ν', s4.trans y1, s6.trans y2, y3⟩
      · rw [if_neg hx, if_neg hx]
        obtain ⟨ν', y1, y2⟩ := read_rest (k := kM) hs hc hfl (show ¬ nI (i + 1) = 0 from nI_ne0 (by omega) (by omega)) m n (i + 1) ν1 (by omega) hz (by omega) F1.mok (s9.cg (fun k hk => (s7 k (by omega) (by omega)).symm)) v4' z4'
        exact ⟨μ1, ν', s4, s6.trans y2, Or.inl ⟨i, by omega, rfl, y1⟩⟩
set_option maxHeartbeats 400000 in
theorem op_read {g h : Nat} {μ ν : XMem} (r : Rel g μ h ν) (x1 x2 : Int32) : OpI (f_X9_read g x1 x2 μ) (f_X10_read h x1 x2 ν) g h := by
  obtain ⟨r1, r2, r3, r4, r5, r6, ⟨now, nc, nl, nh, fl, tx, w⟩, r8⟩ := id r
  obtain ⟨⟨a0, a1, a2, a3, a4⟩, ⟨v0, v1, v2, v3, v4⟩, p1, p2, p3, p4, p5⟩ := id w.1
  unfold f_X9_read f_X10_read
  rw [X9_sheetAt_eq r1, b2_mk, X10_isSheet_eq, b2_mk]
  cases hv : vx 4 x1 with
  | none =>
    rw [Option.map_none, oc_mn, iS_n, if_pos rfl, X9_finding_0 r1, X10_finds_0 r2]
    exact .mk (r.find (k := 0) (by decide))
  | some s =>
    obtain ⟨rfl, hs⟩ := vx_some hv
    obtain ⟨z, z1, z2, z3, z4, z5⟩ := r5 s hs
    have l19 := r2.1.2.2.2.2.2.2.2.2.2.2.2.2.1
    have n13 := r2.2.2.2.2.2.2.2.2.2.2.2.2.2.1
    have is : ib (nI s) 4 = true := ib_nI hs (by omega)
    have js : (nI s).toNatClampNeg = s := nI_clamp (by omega)
    rw [Option.map_some, oc_ms, iS_s, if_neg one_nz, l19, fo_mk, n13, is, gd_mk, js, z2]
    by_cases c0 : mI ν (h + 13) s = 0
    · rw [if_pos c0, if_pos c0, X9_finding_5 r1, X10_finds_5 r2]
      exact .mk (r.find (k := 5) (by decide))
    · rw [if_neg c0, if_neg c0, r1.1, fo_mk, X8_cellAt_eq (LCl r1) a1 p2, b2_mk, X10_isCell_eq r2 v1 (show nc < 2 ^ 31 by omega), b2_mk]
      cases hx : vx nc x2 with
      | none =>
        rw [Option.map_none, oc_mn, iS_n, if_pos rfl, X9_finding_0 r1, X10_finds_0 r2]
        exact .mk (r.find (k := 0) (by decide))
      | some c =>
        obtain ⟨rfl, hc⟩ := vx_some hx
        obtain ⟨hc8, q1, q2⟩ := w.cell hc
        obtain ⟨μ1, t1, t2, t3, t4⟩ := take_eq (g := g) (a := g + 53) (μ := μ) (Or.inl rfl) hc8
        obtain ⟨ν1, s1, s2, s3⟩ := saves_eq r2 hc8
        have F1 : Fr g μ1 h ν1 nl tx := ((w.fr r1 r2).ont t2).bk s3
        rw [Option.map_some, oc_ms, iS_s, if_neg one_nz, r1.2.2.2.2.2.2.1, fo_mk, g167 g c, t1, b1_mk, s1, b1_mk]
        obtain ⟨μ', ν', y1, y2, y3⟩ := read_loop (now := now) (kA := fun x115 m114 => some ((x115 + 1), m114)) (kB := fun m116 => some (0, m116)) (kM := fun x109 m108 => b1 (f_X10_brings h (nI c) m108) fun m110 => some (x109, m110)) (lc := mL μ (g + 56 + 2 * s)) (lm := mL ν (h + 15)) hs hc8 p5 z1 z5 40 2000 0 μ1 ν1 (by omega) (by omega) F1
          (fun k hk _ => by rw [t3 k hk, s3.row]; exact q1 k hk) (q2.cg (fun k hk => t3 k (by omega))) (by rw [t4 _ (by omega)]; exact a0) (by rw [t4 _ (by omega)]; exact a4) (by rw [s3.1 _ (by omega) (by omega) (by omega)]; exact v0) (by rw [s3.1 _ (by omega) (by omega) (by omega)]; exact v4) (by rw [t4 _ (by omega)]; exact z3) (by rw [s3.1 _ (by omega) (by omega) (by omega)]; exact z4) (by rw [t2.2.1]) (by rw [s3.2.1])
        obtain ⟨ν4, w1, w2, -⟩ := brings_eq r2 hc8 (s2.on y2)
        have fin := r.trial (t2.on y1 (Or.inl rfl)) w2
        rcases y3 with ⟨y, b1', b2', b3'⟩ | ⟨b2', b3'⟩
        · refine OpI.of b2' (b3'.trans ?_) (nI_1 y) fin
          show b1 (f_X10_brings h (nI c) ν') _ = _
          rw [w1, b1_mk]
        · refine OpI.of b2' (b3'.trans ?_) rfl fin
          show b1 (f_X10_brings h (nI c) ν') _ = _
          rw [w1, b1_mk]

/-! PURE LAYER 31: look, night -/
def ap (a b : Int32) : Int64 := if 0 < (Int32.toInt64 a - Int32.toInt64 b) then (Int32.toInt64 a - Int32.toInt64 b) else -(Int32.toInt64 a - Int32.toInt64 b)
theorem l64_lt (a b : Int64) : a < b ↔ a.toInt < b.toInt := Int64.lt_iff_toInt_lt
theorem l64_le (a b : Int64) : a ≤ b ↔ a.toInt ≤ b.toInt := Int64.le_iff_toInt_le
theorem l64_z : (0 : Int64).toInt = 0 := rfl
theorem ap_eq (l : Int64) : (if 0 ≤ lg_cmp l 0 then l else 0 - l) = (if 0 < l then l else -l) := by
  by_cases h : 0 < l
  · rw [if_pos h, if_pos ((lg_cmp_ge _ _).mpr (Int64.le_of_lt h))]
  · rw [if_neg h]
    by_cases h2 : 0 ≤ l
    · rw [if_pos ((lg_cmp_ge _ _).mpr h2)]
      rw [l64_lt, l64_z] at h
      rw [l64_le, l64_z] at h2
      have : l = 0 := Int64.toInt_inj.mp (by rw [l64_z]; omega)
      subst this
      rfl
    · rw [if_neg (fun q => h2 ((lg_cmp_ge _ _).mp q)), Int64.zero_sub]
theorem ap_nn (a b : Int32) : 0 ≤ (ap a b).toInt := by
  unfold ap
  have a1 := Int32.le_toInt a
  have a2 := Int32.toInt_lt a
  have b1' := Int32.le_toInt b
  have b2' := Int32.toInt_lt b
  have e : (Int32.toInt64 a - Int32.toInt64 b).toInt = a.toInt - b.toInt := by
    rw [l_sub (by rw [Int32.toInt_toInt64, Int32.toInt_toInt64]; omega), Int32.toInt_toInt64, Int32.toInt_toInt64]
  split
  · rename_i h
    rw [l64_lt, l64_z] at h
    omega
  · rename_i h
    rw [l64_lt, l64_z] at h
    rw [Int64.toInt_neg, Int.bmod_eq_of_le (by omega) (by omega)]
    omega
theorem X10_apart_eq {g h nl c N now : Nat} {μ1 μ2 ν ν' : XMem} {xa xb : Int32} {fa fb : Nat → Int32} (ha : ∀ ν' x, Bk h ν ν' → ∃ ν'', f_X10_would h (nI c) xa (nI N) x ν' = some (sn x fa, ν'') ∧ Bk h ν ν'') (hb : ∀ ν' x, Bk h ν ν' → ∃ ν'', f_X10_would h (nI c) xb (nI N) x ν' = some (sn x fb, ν'') ∧ Bk h ν ν'') (b : Bk h ν ν') (x : Int32) : ∃ ν'', f_X10_apart h (nI c) xa xb (nI N) x ν' = some (ap (sn x fa) (sn x fb), ν'') ∧ Bk h ν ν'' := by
  obtain ⟨ν1, s1, s2⟩ := ha ν' x b
  obtain ⟨ν2, t1, t2⟩ := hb ν1 x s2
  refine ⟨ν2, ?_, t2⟩
  unfold f_X10_apart
  rw [s1, b2_mk, t1, b2_mk, nm_mk]
  unfold ap
  rw [← ap_eq]
  split <;> rfl
theorem lc_n {a b : Int64} (h : a.toInt ≠ b.toInt) : ¬ lg_cmp a b = 0 := fun q => h (by rw [(lg_cmp_eq _ _).mp q])
theorem lc_ge {a b : Int64} (h : b.toInt ≤ a.toInt) : ¬ lg_cmp a b < 0 := fun q => by rw [lg_cmp_lt, l64_lt] at q; omega
theorem lc_lt {a b : Int64} (h : a.toInt < b.toInt) : lg_cmp a b < 0 := by rw [lg_cmp_lt, l64_lt]; exact h
theorem lc_e (a : Int64) : lg_cmp a a = 0 := (lg_cmp_eq _ _).mpr rfl
set_option maxHeartbeats 400000 in
theorem look_end {g h : Nat} {μ ν : XMem} (r : Rel g μ h ν) {A R H : Int64} (nA : 0 ≤ A.toInt) (nR : 0 ≤ R.toInt) (nH : 0 ≤ H.toInt) :
    OpI (nm (if H < R then R else H) fun l143 => nm (if l143 < A then A else l143) fun l144 => if (lg_cmp l144 0) = 0 then (b2 (f_X9_finding g 3 μ) fun r146 m145 => some (r146, m145)) else (if (lg_cmp A l144) = 0 then (some (0, μ)) else (if (lg_cmp R l144) = 0 then (some (1, μ)) else (some (2, μ)))))
      (if (lg_cmp A 0) = 0 then (if (lg_cmp R 0) = 0 then (if (lg_cmp H 0) = 0 then (b2 (f_X10_finds h (-1000000004) ν) fun r122 m121 => some (r122, m121)) else (f_X10_look_j106 A R H ν)) else (f_X10_look_j106 A R H ν)) else (f_X10_look_j106 A R H ν)) g h := by
  rw [nm_mk, nm_mk]
  have L1 := r.1
  have L2 := r.2.1
  by_cases z : A.toInt = 0 ∧ R.toInt = 0 ∧ H.toInt = 0
  · obtain ⟨z1, z2, z3⟩ := z
    obtain rfl : A = 0 := Int64.toInt_inj.mp z1
    obtain rfl : R = 0 := Int64.toInt_inj.mp z2
    obtain rfl : H = 0 := Int64.toInt_inj.mp z3
    rw [if_neg (show ¬ (0 : Int64) < 0 by decide), if_neg (show ¬ (0 : Int64) < 0 by decide), if_pos (lc_e 0), if_pos (lc_e 0), if_pos (lc_e 0), if_pos (lc_e 0), X9_finding_3 L1, X10_finds_3 L2]
    exact .mk (r.find (k := 3) (by decide))
  · have pre : (if (lg_cmp A 0) = 0 then (if (lg_cmp R 0) = 0 then (if (lg_cmp H 0) = 0 then (b2 (f_X10_finds h (-1000000004) ν) fun r122 m121 => some (r122, m121)) else (f_X10_look_j106 A R H ν)) else (f_X10_look_j106 A R H ν)) else (f_X10_look_j106 A R H ν)) = f_X10_look_j106 A R H ν := by
      by_cases q1 : lg_cmp A 0 = 0
      · rw [if_pos q1]
        by_cases q2 : lg_cmp R 0 = 0
        · rw [if_pos q2]
          by_cases q3 : lg_cmp H 0 = 0
          · exfalso
            apply z
            rw [lg_cmp_eq] at q1 q2 q3
            rw [q1, q2, q3]
            exact ⟨rfl, rfl, rfl⟩
          · rw [if_neg q3]
        · rw [if_neg q2]
      · rw [if_neg q1]
    rw [pre]
    unfold f_X10_look_j106
    by_cases a1 : R.toInt ≤ A.toInt ∧ H.toInt ≤ A.toInt
    · have hm : (if (if H < R then R else H) < A then A else (if H < R then R else H)) = A := by
        by_cases t2 : H < R
        · rw [if_pos t2]
          by_cases t : R < A
          · rw [if_pos t]
          · rw [if_neg t]
            rw [l64_lt] at t
            exact Int64.toInt_inj.mp (by omega)
        · rw [if_neg t2]
          by_cases t : H < A
          · rw [if_pos t]
          · rw [if_neg t]
            rw [l64_lt] at t
            exact Int64.toInt_inj.mp (by omega)
      rw [hm, if_neg (lc_n (by rw [l64_z]; omega)), if_pos (lc_e A), if_neg (lc_ge a1.1), if_neg (lc_ge a1.2)]
      exact .mk r
    · by_cases a2 : H.toInt ≤ R.toInt
      · have hm : (if (if H < R then R else H) < A then A else (if H < R then R else H)) = R := by
          have e1 : (if H < R then R else H) = R := by
            split
            · rfl
            · rename_i t
              rw [l64_lt] at t
              exact Int64.toInt_inj.mp (by omega)
          rw [e1, if_neg (by rw [l64_lt]; omega)]
        rw [hm, if_neg (lc_n (by rw [l64_z]; omega)), if_neg (lc_n (by omega)), if_pos (lc_e R), if_pos (lc_lt (by omega)), if_neg (lc_ge a2)]
        exact .mk r
      · have hm : (if (if H < R then R else H) < A then A else (if H < R then R else H)) = H := by
          have e1 : (if H < R then R else H) = H := by rw [if_neg (by rw [l64_lt]; omega)]
          rw [e1, if_neg (by rw [l64_lt]; omega)]
        rw [hm, if_neg (lc_n (by rw [l64_z]; omega)), if_neg (lc_n (by omega)), if_neg (lc_n (by omega)), if_pos (lc_lt (show R.toInt < H.toInt by omega))]
        split
        · exact .mk r
        · rw [if_pos (lc_lt (by omega))]
          exact .mk r
theorem sn_0 (f : Nat → Int32) : sn 0 f = f 6 := by
  unfold sn
  rw [if_pos rfl]
theorem sn_1 (f : Nat → Int32) : sn 1 f = thm f := by
  unfold sn
  rw [if_neg (by decide), if_pos rfl]
theorem sn_2 (f : Nat → Int32) : sn 2 f = f 12 := by
  unfold sn
  rw [if_neg (by decide), if_neg (by decide), if_pos rfl]
set_option maxHeartbeats 400000 in
theorem op_look {g h : Nat} {μ ν : XMem} (r : Rel g μ h ν) (x1 x2 x3 x4 : Int32) : OpI (f_X9_look g x1 x2 x3 x4 μ) (f_X10_look h x1 x2 x3 x4 ν) g h := by
  obtain ⟨r1, r2, r3, r4, r5, r6, ⟨now, nc, nl, nh, fl, tx, w⟩, r8⟩ := id r
  obtain ⟨⟨a0, a1, a2, a3, a4⟩, ⟨v0, v1, v2, v3, v4⟩, p1, p2, p3, p4, p5⟩ := id w.1
  unfold f_X9_look f_X10_look
  simp only [r1.1, fo_mk, X8_cellAt_eq (LCl r1) a1 p2, b2_mk, X10_isCell_eq r2 v1 (show nc < 2 ^ 31 by omega), X9_finding_0 r1, X10_finds_0 r2, X9_isLawOrNone_eq r1 a2 p3 w.2.2.2.has, X10_isLawOrNone_eq r2 v2 (show nl < 2 ^ 31 by omega), X9_within_eq, X10_within_eq]
  cases hv : vx nc x1 with
  | none =>
    simp only [Option.map_none, oc_mn, iS_n, if_true]
    exact .mk (r.find (k := 0) (by decide))
  | some c =>
    obtain ⟨rfl, hc⟩ := vx_some hv
    simp only [Option.map_some, oc_ms, iS_s, one_nz, if_false]
    by_cases hl : x2 = -1 ∨ (vx nl x2).isSome = true
    · simp only [hl, if_true, one_nz, if_false]
      by_cases hl2 : x3 = -1 ∨ (vx nl x3).isSome = true
      · simp only [hl2, if_true, one_nz, if_false]
        by_cases hw : wi x4 1 100 = 0
        · simp only [hw, if_true]
          exact .mk (r.find (k := 0) (by decide))
        · simp only [hw, if_false]
          obtain ⟨hc8, q1, q2⟩ := w.cell hc
          obtain ⟨N, hN1, hN, rfl⟩ := wi_nat1 (n := 100) rfl hw
          obtain ⟨μ1, t1, t2, t3, t4⟩ := take_eq (g := g) (a := g + 53) (μ := μ) (Or.inl rfl) hc8
          obtain ⟨μ2, u1, u2', u3, u4⟩ := take_eq (g := g) (a := g + 54) (μ := μ1) (Or.inr rfl) hc8
          have F := w.fr r1 r2
          have F2 := (F.ont t2).ont u2'
          have e53 : mI μ2 (g + 53) = mI μ1 (g + 53) := u4 _ (by omega)
          have e1 : mI μ2 (g + 1) 0 = nI now := by rw [u4 _ (by omega), t4 _ (by omega)]; exact a0
          obtain ⟨μ3, y1, y2, y3, y4⟩ := would_all F2 hc8 (a := g + 53) (by omega) (by omega) hN p1 (LwOk.of hl) (fun k hk => by rw [e53, t3 k hk]; exact q1 k hk) (q2.cg (fun k hk => by rw [e53]; exact t3 k (by omega))) e1 v0
          have e54 : ∀ k, k < 17 → mI μ3 (g + 54) k = mI μ (g + 7 + c) k := fun k hk => by
            rw [y2.1 _ (by omega) (by omega) (by omega), u3 k hk, t4 _ (by omega)]
          have F3 : Fr g μ3 h ν nl tx := F2.on (by omega) (by omega) hc8 y2 (OnM.refl h c ν)
          obtain ⟨μ4, z1, z2, z3, z4⟩ := would_all F3 hc8 (a := g + 54) (by omega) (by omega) hN p1 (LwOk.of hl2) (fun k hk => by rw [e54 k hk]; exact q1 k hk) (q2.cg (fun k hk => e54 k (by omega))) (by rw [y2.1 _ (by omega) (by omega) (by omega)]; exact e1) v0
          have f53 : mI μ4 (g + 53) = mI μ3 (g + 53) := z2.1 _ (by omega) (by omega) (by omega)
          have R1 : mR μ1 = mR μ := t2.2.2.1
          have R2 : mR μ2 = mR μ := u2'.2.2.1.trans R1
          have R3 : mR μ3 = mR μ := y2.2.2.1.trans R2
          have R4 : mR μ4 = mR μ := z2.2.2.1.trans R3
          have l7 := r1.2.2.2.2.2.2.1
          have l8 := r1.2.2.2.2.2.2.2.1
          obtain ⟨ν1, s1, s2⟩ := X10_apart_eq (g := g) (nl := nl) (now := now) (μ1 := μ) (μ2 := μ) y4 z4 (Bk.refl h ν) 1
          obtain ⟨ν2, s3, s4⟩ := X10_apart_eq (g := g) (nl := nl) (now := now) (μ1 := μ) (μ2 := μ) y4 z4 s2 2
          obtain ⟨ν3, s5, s6⟩ := X10_apart_eq (g := g) (nl := nl) (now := now) (μ1 := μ) (μ2 := μ) y4 z4 s4 0
          rw [sn_1, sn_1] at s1
          rw [sn_2, sn_2] at s3
          rw [sn_0, sn_0] at s5
          have tm1 : f_X0_thermometer (g + 53) μ4 = some (thm (mI μ3 (g + 53)), μ4) := by
            rw [X0_thermometer_eq (by rw [f53]; exact y3.mass), f53]
          have apc : ∀ (a b : Int32) (m : XMem), f_X9_apart a b m = some (ap a b, m) := fun a b m => rfl
          have fin : Rel g μ4 h ν3 := r.trial (⟨fun q h1 h2 h3 h4 => ((z2.1 q h2 h3 h4).trans (y2.1 q h1 h3 h4)).trans ((u4 q h2).trans (t4 q h1)), z2.2.1.trans (y2.2.1.trans (u2'.2.1.trans t2.2.1)), R4, z2.2.2.2.trans (y2.2.2.2.trans (u2'.2.2.2.trans t2.2.2.2))⟩ : OnT g μ μ4) s6
          rw [l7, fo_mk, g167 g c, t1, b1_mk, R1, l8, fo_mk, u1, b1_mk, R2, r1.1, fo_mk, l7, fo_mk, y1, b1_mk, R3, r1.1, fo_mk, l8, fo_mk, z1, b1_mk, R4, l7, fo_mk, tm1, b2_mk, R4, l8, fo_mk, X0_thermometer_eq z3.mass, b2_mk, apc, b2_mk, R4, l7, fo_mk, l8, fo_mk, apc, b2_mk, R4, l7, fo_mk, l8, fo_mk, apc, b2_mk, s1, b2_mk, s3, b2_mk, s5, b2_mk, f53]
          exact look_end fin (ap_nn _ _) (ap_nn _ _) (ap_nn _ _)
      · simp only [hl2, if_false, if_true]
        exact .mk (r.find (k := 0) (by decide))
    · simp only [hl, if_false, if_true]
      exact .mk (r.find (k := 0) (by decide))
theorem night_loop {g h nl c now fl : Nat} {tx : Nat → List Int32} (hc : c < 8) (hfl : fl ≤ nl) {x2 : Int32} {kA : Int32 → XMem → Option (Int32 × XMem)} {kB : XMem → Option (Int32 × XMem)} {kM : Int32 → XMem → Option (Int32 × XMem)} : ∀ (m n i : Nat) (μ ν : XMem), i + m = 201 → m < n → Fr g μ h ν nl tx → (∀ k, k < 17 → k ≠ 12 → mI μ (g + 53) k = crw ν h c k) → CInv (mI μ (g + 53)) → mI μ (g + 1) 0 = nI now → mI μ (g + 1) 4 = nI fl - 1 → mI ν (h + 1) 0 = nI now → mI ν (h + 1) 4 = nI fl →
    ∃ y μ' ν', y ≤ 201 ∧ OnC g (g + 53) μ μ' ∧ OnM h c ν ν' ∧ f_X9_night_h49 g (nI c) x2 kA kB n (nI i) μ = (if y ≤ 200 then kA (nI y) μ' else kB μ') ∧ f_X10_night_h39 h (nI c) x2 kM n (nI i) ν = kM (nI y) ν' := by
  have i0 : ib 0 1059 = true := by decide
  have j0 : Int32.toNatClampNeg 0 = 0 := by decide
  have i4 : ib 4 1059 = true := by decide
  have j4 : Int32.toNatClampNeg 4 = 4 := by decide
  intro m
  induction m with
  | zero =>
    intro n i μ ν hi hn F hq hI a0 a4 v0 v4
    obtain ⟨n, rfl⟩ : ∃ q, n = q + 1 := ⟨n - 1, by omega⟩
    obtain rfl : i = 201 := by omega
    refine ⟨201, μ, ν, by omega, OnC.refl _ _ _, OnM.refl _ _ _, ?_, ?_⟩
    · rw [f_X9_night_h49, if_pos (by decide), if_neg (by omega)]
    · rw [f_X10_night_h39, if_pos (by decide)]
  | succ m ih =>
    intro n i μ ν hi hn F hq hI a0 a4 v0 v4
    obtain ⟨n, rfl⟩ : ∃ q, n = q + 1 := ⟨n - 1, by omega⟩
    have c1 : ¬ (200 : Int32) < nI i := nI_nlt (a := 200) (by omega) (by omega)
    have c2 : ¬ (201 : Int32) ≤ nI i := nI_ge (b := 201) (by omega) (by omega)
    have l7 := F.1.2.2.2.2.2.2.1
    have l0 := F.1.1
    have hm : ¬ crw ν h c 3 = 0 := by rw [← hq 3 (by omega) (by omega)]; exact hI.mass
    have et : thm (mI μ (g + 53)) = thm (crw ν h c) := thm_8 (fun k hk => hq k (by omega) (by omega))
    by_cases hx : x2 < thm (crw ν h c)
    · obtain ⟨μ1, ν1, μ2, s1, s2, s3, s4, s5, s6, s7, s8, s9, s10⟩ := warm_pair F hc (a := g + 53) (by omega) (by omega) hq hI (LwOk.fl hfl) (nI now + nI i)
      have e1 : mI μ1 (g + 1) = mI μ (g + 1) := s4.1 _ (by omega) (by omega) (by omega)
      obtain ⟨y, μ', ν', z0, z1, z2, z3, z4⟩ := ih n (i + 1) μ1 ν1 (by omega) (by omega) (F.on (by omega) (by omega) hc s4 s6) s7 s9 (by rw [e1]; exact a0) (by rw [e1]; exact a4) (by rw [s6.2.1 _ (by omega)]; exact v0) (by rw [s6.2.1 _ (by omega)]; exact v4)
      refine ⟨y, μ', ν', z0, s4.trans z1, s6.trans z2, ?_, ?_⟩
      · rw [f_X9_night_h49, if_neg c1, l7, fo_mk, X0_thermometer_eq hI.mass, b2_mk, et, if_pos hx, l0, fo_mk, l7, fo_mk, fo_mk, fo_mk, a4, a0, s1, b1_mk, nm_mk, nI_1]
        exact z3
      · rw [f_X10_night_h39, if_neg c2, X10_readOf_eq F.2.1 hc hm, b2_mk, if_neg (Int32.not_le.mpr hx), F.2.1.1.1, fo_mk, F.2.1.2.1, i4, gd_mk, fo_mk, F.2.1.2.1, i0, gd_mk, j4, v4, j0, v0, s2, b1_mk, nm_mk, nI_1]
        exact z4
    · refine ⟨i, μ, ν, by omega, OnC.refl _ _ _, OnM.refl _ _ _, ?_, ?_⟩
      · rw [f_X9_night_h49, if_neg c1, l7, fo_mk, X0_thermometer_eq hI.mass, b2_mk, et, if_neg hx, if_pos (by omega)]
      · rw [f_X10_night_h39, if_neg c2, X10_readOf_eq F.2.1 hc hm, b2_mk, if_pos (Int32.not_lt.mp hx)]
theorem op_night {g h : Nat} {μ ν : XMem} (r : Rel g μ h ν) (x1 x2 : Int32) : OpI (f_X9_night g x1 x2 μ) (f_X10_night h x1 x2 ν) g h := by
  obtain ⟨r1, r2, r3, r4, r5, r6, ⟨now, nc, nl, nh, fl, tx, w⟩, r8⟩ := id r
  obtain ⟨⟨a0, a1, a2, a3, a4⟩, ⟨v0, v1, v2, v3, v4⟩, p1, p2, p3, p4, p5⟩ := id w.1
  unfold f_X9_night f_X10_night
  simp only [r1.1, fo_mk, X8_cellAt_eq (LCl r1) a1 p2, b2_mk, X10_isCell_eq r2 v1 (show nc < 2 ^ 31 by omega), X9_finding_0 r1, X10_finds_0 r2, X9_within_eq, X10_within_eq]
  cases hv : vx nc x1 with
  | none =>
    simp only [Option.map_none, oc_mn, iS_n, if_true]
    exact .mk (r.find (k := 0) (by decide))
  | some c =>
    obtain ⟨rfl, hc⟩ := vx_some hv
    simp only [Option.map_some, oc_ms, iS_s, one_nz, if_false]
    by_cases hw : wi x2 0 999999 = 0
    · simp only [hw, if_true]
      exact .mk (r.find (k := 0) (by decide))
    · simp only [hw, if_false]
      obtain ⟨hc8, q1, q2⟩ := w.cell hc
      obtain ⟨μ1, t1, t2, t3, t4⟩ := take_eq (g := g) (a := g + 53) (μ := μ) (Or.inl rfl) hc8
      obtain ⟨ν1, s1, s2, s3⟩ := saves_eq r2 hc8
      have R1 : mR μ1 = mR μ := t2.2.2.1
      have l7 := r1.2.2.2.2.2.2.1
      simp only [l7, fo_mk, g167, t1, b1_mk, R1, nm_mk, s1, putC_1 (s3.L r2) hc8]
      have F := (w.fr r1 r2).ont t2 |>.bk s3
      have o2 : OnT g μ (sI μ1 (g + 53) 1 0) := t2.on ((OnC.refl g (g + 53) μ1).on (OnA.refl _ _).st) (Or.inl rfl)
      have m2 : OnM h c ν1 (sI ν1 (h + 1) (11 + 17 * c + 1) 0) := (OnM.refl h c ν1).st (by omega)
      have F2 : Fr g (sI μ1 (g + 53) 1 0) h (sI ν1 (h + 1) (11 + 17 * c + 1) 0) nl tx := F.on (a := g + 53) (by omega) (by omega) hc8 ((OnC.refl g (g + 53) μ1).on (OnA.refl _ _).st) m2
      have q1' : ∀ k, k < 17 → mI μ1 (g + 53) k = crw ν1 h c k := fun k hk => by rw [t3 k hk, s3.row]; exact q1 k hk
      obtain ⟨y, μ', ν', z0, z1, z2, z3, z4⟩ := night_loop (x2 := x2) (kA := fun x114 m113 => some (x114, m113)) (kB := fun m115 => b2 (f_X9_finding g 3 m115) fun r117 m116 => some (r117, m116)) (kM := fun x110 m109 => f_X10_night_j83 h (nI c) x110 m109) hc8 p5 201 2000 0 (sI μ1 (g + 53) 1 0) (sI ν1 (h + 1) (11 + 17 * c + 1) 0) (by omega) (by omega) F2
        (fun k hk _ => by
          rw [mI_self, crw_set]
          by_cases e : k = 1
          · subst e; rw [uf_at, uf_at]
          · rw [uf_ne e, uf_ne e]; exact q1' k hk)
        (by
          rw [mI_self]
          exact (q2.cg (fun k hk => t3 k (by omega))).set (k := 1) (n := 0) (Or.inl ⟨rfl, by omega⟩))
        (by rw [mI_ne (by omega), t4 _ (by omega)]; exact a0) (by rw [mI_ne (by omega), t4 _ (by omega)]; exact a4) (by rw [mI_off (by omega), s3.1 _ (by omega) (by omega) (by omega)]; exact v0) (by rw [mI_off (by omega), s3.1 _ (by omega) (by omega) (by omega)]; exact v4)
      obtain ⟨ν4, w1, w2, -⟩ := brings_eq r2 hc8 ((s2.on m2).on z2)
      have fin := r.trial (o2.on z1 (Or.inl rfl)) w2
      have f1 := fin.1
      have f2 := fin.2.1
      by_cases hy : y ≤ 200
      · refine OpI.of (z3.trans (if_pos hy)) (z4.trans ?_) rfl fin
        show f_X10_night_j83 h (nI c) (nI y) ν' = _
        unfold f_X10_night_j83
        have hy' : nI y ≤ (200 : Int32) := nI_le (b := 200) hy (by omega)
        rw [w1, b1_mk, if_pos hy']
      · refine OpI.of (r := -1000000004) (z3.trans ((if_neg hy).trans ?_)) (z4.trans ?_) rfl (fin.find (k := 3) (by decide))
        · show b2 (f_X9_finding g 3 μ') _ = _
          rw [X9_finding_3 f1, b2_mk]
        · show f_X10_night_j83 h (nI c) (nI y) ν' = _
          unfold f_X10_night_j83
          have hy' : ¬ nI y ≤ (200 : Int32) := nI_ge (a := 200) (by omega) (by omega)
          rw [w1, b1_mk, if_neg hy', X10_finds_3 f2, b2_mk]

theorem lgc_ge (a b : Int64) : (0 ≤ lg_cmp a b) ↔ ¬ a < b := by
  unfold lg_cmp
  by_cases h1 : b < a
  · simp only [h1, if_true]
    exact ⟨fun _ => by simp only [Int64.lt_iff_toInt_lt] at *; omega, fun _ => by decide⟩
  · by_cases h2 : a = b
    · subst h2
      simp only [h1, if_false, if_true]
      exact ⟨fun _ q => q.elim, fun _ => by decide⟩
    · simp only [h1, h2, if_false]
      refine ⟨fun q => absurd q (by decide), fun q => absurd ?_ h2⟩
      simp only [Int64.lt_iff_toInt_lt] at *
      exact Int64.toInt_inj.mp (by omega)
theorem min2 (a b : Int64) : (if b < a then b else a) = (if a < b then a else b) := by
  by_cases h1 : b < a
  · by_cases h2 : a < b
    · simp only [Int64.lt_iff_toInt_lt] at *; omega
    · simp [h1, h2]
  · by_cases h2 : a < b
    · simp [h1, h2]
    · simp only [h1, h2, if_false]
      simp only [Int64.lt_iff_toInt_lt] at *
      exact Int64.toInt_inj.mp (by omega)
theorem max2 (a b : Int64) : (if b < a then a else b) = (if a < b then b else a) := by
  by_cases h1 : b < a
  · by_cases h2 : a < b
    · simp only [Int64.lt_iff_toInt_lt] at *; omega
    · simp [h1, h2]
  · by_cases h2 : a < b
    · simp [h1, h2]
    · simp only [h1, h2, if_false]
      simp only [Int64.lt_iff_toInt_lt] at *
      exact Int64.toInt_inj.mp (by omega)
/-! PURE LAYER 5: since, saying, houseOf, count, as -/
theorem vx_nI {i n : Nat} (h : i < n) (hn : n < 2 ^ 31) : vx n (nI i) = some i := by
  unfold vx
  rw [if_neg (nI_pos (by omega)), nI_clamp (by omega), if_pos h]
theorem OpL.of {g h : Nat} {a b : Option (Int64 × XMem)} {r r' : Int64} {μ ν : XMem} (h1 : a = some (r, μ)) (h2 : b = some (r', ν)) (e : r = r') (x : Rel g μ h ν) : OpL a b g h := by subst e; exact ⟨r, μ, ν, h1, h2, x⟩
theorem HInv.says {f : Nat → Int32} {b : Nat → Int64} {now nc : Nat} (h : HInv f b now nc) : f 8 = 0 ∨ f 8 = 1 ∨ f 8 = 2 := by
  obtain ⟨u, h0, h1, h2, h3, h5, h8, h12, hr⟩ := h
  have : u 8 = 0 ∨ u 8 = 1 ∨ u 8 = 2 := by omega
  rcases this with e | e | e <;> rw [h8, e]
  · exact Or.inl rfl
  · exact Or.inr (Or.inl rfl)
  · exact Or.inr (Or.inr rfl)
theorem HInv.takes {f : Nat → Int32} {b : Nat → Int64} {now nc : Nat} (h : HInv f b now nc) : f 2 = 0 ∨ f 2 = 1 := by
  obtain ⟨u, h0, h1, h2, h3, h5, h8, h12, hr⟩ := h
  have : u 2 = 0 ∨ u 2 = 1 := by omega
  rcases this with e | e <;> rw [h2, e]
  · exact Or.inl rfl
  · exact Or.inr rfl
set_option maxHeartbeats 1000000 in
theorem op_since {g h : Nat} {μ ν : XMem} (r : Rel g μ h ν) (c v : Int32) : OpI (f_X9_since g c v μ) (f_X10_since h c v ν) g h := by
  obtain ⟨r1, r2, r3, r4, r5, r6, ⟨now, nc, nl, nh, fl, tx, w⟩, r8⟩ := id r
  obtain ⟨⟨a0, a1, a2, a3, a4⟩, ⟨b0, b1, b2, b3, b4⟩, p1, p2, p3, p4, p5⟩ := id w.1
  unfold f_X9_since f_X10_since
  simp only [r1.1, fo_mk, X8_houseAt_eq (LCl r1) a3 p4, b2_mk, X10_isHouse_eq r2 b3 (by omega), X9_within_eq, X10_within_eq]
  cases hv : vx nh c with
  | none =>
    simp only [Option.map_none, oc_mn, X9_finding_0 r1, X10_finds_0 r2, b2_mk, iS_n, if_true]
    exact .mk (r.find (by decide))
  | some j =>
    obtain ⟨rfl, hj⟩ := vx_some hv
    obtain ⟨hj8, q1, q2, q3, q4, q5⟩ := w.house hj
    simp only [Option.map_some, oc_ms, iS_s, one_nz, if_false, g1614]
    by_cases hw : wi v 0 1 = 0
    · simp only [hw, if_true, X9_finding_0 r1, X10_finds_0 r2, b2_mk]
      exact .mk (r.find (by decide))
    · have e8 : mI μ (g + 15 + j) 8 = hrw ν h j 6 := q2 0 (by decide)
      have e9 : mI μ (g + 15 + j) 9 = hrw ν h j 7 := q2 1 (by decide)
      have e10 : mI μ (g + 15 + j) 10 = hrw ν h j 8 := q2 2 (by decide)
      obtain ⟨n, hn, rfl⟩ := wi_nat (n := 1) rfl hw
      have hs := q5.says
      rw [e8] at hs
      simp only [hw, if_false, oH_6 r2 hj8, b2_mk, e8, e9, e10]
      have hn2 : n = 0 ∨ n = 1 := by omega
      rcases hn2 with rfl | rfl
      · rw [if_pos (by decide), show (7 : Int32) + nI 0 = 7 from rfl, oH_7 r2 hj8, b2_mk]
        rcases hs with e | e | e <;> rw [e]
        · simp only [X9_finding_3 r1, X10_finds_3 r2, b2_mk]
          exact .mk (r.find (by decide))
        · exact .mk r
        · exact .mk r
      · rw [if_neg (by decide), show (7 : Int32) + nI 1 = 8 from rfl, oH_8 r2 hj8, b2_mk]
        rcases hs with e | e | e <;> rw [e]
        · simp only [X9_finding_3 r1, X10_finds_3 r2, b2_mk]
          exact .mk (r.find (by decide))
        · simp only [X9_finding_3 r1, X10_finds_3 r2, b2_mk]
          exact .mk (r.find (by decide))
        · exact .mk r
def syL (F : Nat → Int32) (x : Int32) : Nat → Nat → Int32 → Int32
  | 0, _, acc => acc
  | m + 1, i, acc => syL F x m (i + 1) (if F i = x then acc ||| (1 <<< (nI i &&& 31)) else acc)
theorem X9_saying_loop {g nh : Nat} {μ : XMem} (L : LC g (mR μ) (mN μ)) (hn : mI μ (g + 1) 3 = nI nh) (h8 : nh ≤ 8) {x : Int32} {k : Int32 → XMem → Option (Int32 × XMem)} : ∀ (m n i : Nat) (acc : Int32), i + m = nh → m < n → f_X9_saying_h19 g x k n acc (nI i) μ = k (syL (fun i => mI μ (g + 15 + i) 8) x m i acc) μ := by
  intro m
  induction m with
  | zero =>
    intro n i acc hi hm
    obtain ⟨n, rfl⟩ : ∃ q, n = q + 1 := ⟨n - 1, by omega⟩
    rw [f_X9_saying_h19, L.1, fo_mk, hn, if_pos (nI_le (by omega) (by omega))]
    rfl
  | succ m ih =>
    intro n i acc hi hm
    obtain ⟨n, rfl⟩ : ∃ q, n = q + 1 := ⟨n - 1, by omega⟩
    have hc : ¬ nI nh ≤ nI i := nI_ge (by omega) (by omega)
    rw [f_X9_saying_h19, L.1, fo_mk, hn, if_neg hc]
    simp only [fo_mk, X8_houseAt_eq (LCl L) hn h8, b2_mk, vx_nI (show i < nh by omega) (by omega), Option.map_some, oc_ms, nm_mk, nI_1, g1614]
    by_cases h1 : mI μ (g + 15 + i) 8 = x
    · simp only [h1, if_true]
      rw [ih n (i + 1) _ (by omega) (by omega)]
      simp [syL, h1]
    · simp only [h1, if_false]
      rw [ih n (i + 1) _ (by omega) (by omega)]
      simp [syL, h1]
theorem X10_saying_loop {h nh : Nat} {ν : XMem} (L : LM h (mR ν) (mN ν)) (hn : mI ν (h + 1) 3 = nI nh) (h8 : nh ≤ 8) {x : Int32} {k : Int32 → XMem → Option (Int32 × XMem)} : ∀ (m n i : Nat) (acc : Int32), i + m = nh → m < n → f_X10_saying_h20 h x k n acc (nI i) ν = k (syL (fun i => hrw ν h i 6) x m i acc) ν := by
  have q2 : ib 3 1059 = true := by decide
  have q3 : Int32.toNatClampNeg 3 = 3 := by decide
  intro m
  induction m with
  | zero =>
    intro n i acc hi hm
    obtain ⟨n, rfl⟩ : ∃ q, n = q + 1 := ⟨n - 1, by omega⟩
    rw [f_X10_saying_h20, L.1.1, fo_mk, L.2.1, q2, gd_mk, q3, hn, if_pos (nI_le (by omega) (by omega))]
    rfl
  | succ m ih =>
    intro n i acc hi hm
    obtain ⟨n, rfl⟩ : ∃ q, n = q + 1 := ⟨n - 1, by omega⟩
    have hc : ¬ nI nh ≤ nI i := nI_ge (by omega) (by omega)
    rw [f_X10_saying_h20, L.1.1, fo_mk, L.2.1, q2, gd_mk, q3, hn, if_neg hc]
    simp only [oH_6 L (show i < 8 by omega), b2_mk, nm_mk, nI_1, Int32.or_zero]
    by_cases h1 : hrw ν h i 6 = x
    · simp only [h1, if_true]
      rw [ih n (i + 1) _ (by omega) (by omega)]
      simp [syL, h1]
    · simp only [h1, if_false]
      rw [ih n (i + 1) _ (by omega) (by omega)]
      simp [syL, h1]
theorem syL_cg {F G : Nat → Int32} {x : Int32} : ∀ (m i : Nat) (acc : Int32), (∀ k, i ≤ k → k < i + m → F k = G k) → syL F x m i acc = syL G x m i acc := by
  intro m
  induction m with
  | zero => intros; rfl
  | succ m ih =>
    intro i acc h
    show syL F x m (i + 1) _ = syL G x m (i + 1) _
    rw [h i (by omega) (by omega)]
    exact ih (i + 1) _ (fun k k1 k2 => h k (by omega) (by omega))
theorem op_saying {g h : Nat} {μ ν : XMem} (r : Rel g μ h ν) (x : Int32) : OpI (f_X9_saying g x μ) (f_X10_saying h x ν) g h := by
  obtain ⟨r1, r2, r3, r4, r5, r6, ⟨now, nc, nl, nh, fl, tx, w⟩, r8⟩ := id r
  obtain ⟨⟨a0, a1, a2, a3, a4⟩, ⟨b0, b1, b2, b3, b4⟩, p1, p2, p3, p4, p5⟩ := id w.1
  unfold f_X9_saying f_X10_saying
  simp only [X9_within_eq, X10_within_eq, b2_mk]
  by_cases hw : wi x 0 2 = 0
  · simp only [hw, if_true, X9_finding_0 r1, X10_finds_0 r2, b2_mk]
    exact .mk (r.find (by decide))
  · simp only [hw, if_false]
    have e1 := X9_saying_loop r1 a3 p4 (x := x) (k := fun x104 m103 => some (x104, m103)) nh 2000 0 0 (by omega) (by omega)
    have e2 := X10_saying_loop r2 b3 p4 (x := x) (k := fun x104 m103 => some (x104, m103)) nh 2000 0 0 (by omega) (by omega)
    exact .of e1 e2 (syL_cg _ _ _ fun k _ hk => (w.house (show k < nh by omega)).2.2.1 0 (by decide)) r
/-! balances -/
def bal (f : Nat → Int32) (b : Nat → Int64) : Int64 := if f 2 = 1 then b 7 else b 6
theorem X1_balance_eq {a : Nat} {μ : XMem} : f_X1_balance a μ = some (bal (mI μ a) (mL μ a), μ) := by
  unfold f_X1_balance bal
  split <;> rfl
def balM (ν : XMem) (h j : Nat) : Int64 := if hrw ν h j 2 = 1 then mL ν (h + 3) (2 * j + 1) else mL ν (h + 3) (2 * j)
theorem i2x {j : Nat} : 2 * nI j = nI (2 * j) := by
  show nI 2 * nI j = _
  rw [pk_mul]
theorem X10_itsBalance_eq {h j : Nat} {ν : XMem} (L : LM h (mR ν) (mN ν)) (hj : j < 8) (ht : hrw ν h j 2 = 0 ∨ hrw ν h j 2 = 1) : f_X10_itsBalance h (nI j) ν = some (balM ν h j, ν) := by
  unfold f_X10_itsBalance balM
  rw [L.1.2.2.1, fo_mk, oH_2 L hj, b2_mk, L.2.2.2.1, i2x]
  rcases ht with e | e
  · rw [e, if_neg (by decide), Int32.add_zero, ib_nI (by omega) (by omega), gd_mk, nI_clamp (by omega)]
  · rw [e, if_pos rfl, nI_1, ib_nI (by omega) (by omega), gd_mk, nI_clamp (by omega)]
theorem RW.bala {g h : Nat} {μ ν : XMem} {now nc nl nh fl : Nat} {tx : Nat → List Int32} (w : RW μ (g + 1) (g + 63) ν (h + 1) (h + 3) now nc nl nh fl tx) {j : Nat} (hj : j < nh) : (hrw ν h j 2 = 0 ∨ hrw ν h j 2 = 1) ∧ bal (mI μ (g + 15 + j)) (mL μ (g + 15 + j)) = balM ν h j := by
  obtain ⟨hj8, q1, q2, q3, q4, q5⟩ := w.house hj
  have e := q5.takes
  rw [q1 2 (by decide)] at e
  refine ⟨e, ?_⟩
  unfold bal balM
  rw [q1 2 (by decide), q3, q4]
set_option maxHeartbeats 2000000 in
theorem op_houseOf {g h : Nat} {μ ν : XMem} (r : Rel g μ h ν) (c v : Int32) : OpL (f_X9_houseOf g c v μ) (f_X10_houseOf h c v ν) g h := by
  obtain ⟨r1, r2, r3, r4, r5, r6, ⟨now, nc, nl, nh, fl, tx, w⟩, r8⟩ := id r
  obtain ⟨⟨a0, a1, a2, a3, a4⟩, ⟨b0, b1, b2, b3, b4⟩, p1, p2, p3, p4, p5⟩ := id w.1
  unfold f_X9_houseOf f_X10_houseOf
  simp only [r1.1, fo_mk, X8_houseAt_eq (LCl r1) a3 p4, b2_mk, X10_isHouse_eq r2 b3 (by omega), X10_within_eq]
  cases hv : vx nh c with
  | none =>
    simp only [Option.map_none, oc_mn, X9_finding_0 r1, X10_finds_0 r2, b2_mk, iS_n, if_true]
    exact .mk (r.find (by decide))
  | some j =>
    obtain ⟨rfl, hj⟩ := vx_some hv
    obtain ⟨hj8, q1, q2, q3, q4, q5⟩ := w.house hj
    simp only [Option.map_some, oc_ms, iS_s, one_nz, if_false, g1614]
    have i1 : ib (nI (2 * j)) 16 = true := ib_nI (by omega) (by omega)
    have i2 : ib (nI (2 * j + 1)) 16 = true := ib_nI (by omega) (by omega)
    simp only [r2.1.2.2.1, fo_mk, r2.2.2.2.1, i2x, nI_1, i1, i2, gd_mk, nm_mk, nI_clamp (show 2 * j < 2 ^ 31 by omega), nI_clamp (show 2 * j + 1 < 2 ^ 31 by omega)]
    obtain ⟨t1, t2⟩ := w.bala hj
    by_cases hw : wi v 0 9 = 0
    · have hne := wi_z (v := v) (n := 9) (by decide) hw
      have h0 : ¬ v = 0 := hne 0 (by decide)
      have h1 : ¬ v = 1 := hne 1 (by decide)
      have h2 : ¬ v = 2 := hne 2 (by decide)
      have h3 : ¬ v = 3 := hne 3 (by decide)
      have h4 : ¬ v = 4 := hne 4 (by decide)
      have h5 : ¬ v = 5 := hne 5 (by decide)
      have h6 : ¬ v = 6 := hne 6 (by decide)
      have h7 : ¬ v = 7 := hne 7 (by decide)
      have h8 : ¬ v = 8 := hne 8 (by decide)
      have h9 : ¬ v = 9 := hne 9 (by decide)
      simp only [hw, h0, h1, h2, h3, h4, h5, h6, h7, h8, h9, if_true, if_false, X9_finding_0 r1, X10_finds_0 r2, b2_mk]
      exact .mk (r.find (by decide))
    · obtain ⟨n, hn, rfl⟩ := wi_nat (n := 9) rfl hw
      simp only [hw, if_false]
      have hc : n = 0 ∨ n = 1 ∨ n = 2 ∨ n = 3 ∨ n = 4 ∨ n = 5 ∨ n = 6 ∨ n = 7 ∨ n = 8 ∨ n = 9 := by omega
      rcases hc with rfl | rfl | rfl | rfl | rfl | rfl | rfl | rfl | rfl | rfl
      · exact .of rfl (by rw [if_neg (by decide), if_neg (by decide), if_neg (by decide), if_neg (by decide), show nI 0 = 0 from rfl, oH_0 r2 hj8, b2_mk]) (by rw [q1 0 (by decide)]) r
      · exact .of rfl (by rw [if_neg (by decide), if_neg (by decide), if_neg (by decide), if_neg (by decide), show nI 1 = 1 from rfl, oH_1 r2 hj8, b2_mk]) (by rw [q1 1 (by decide)]) r
      · exact .of rfl (by rw [if_neg (by decide), if_neg (by decide), if_neg (by decide), if_neg (by decide), show nI 2 = 2 from rfl, oH_2 r2 hj8, b2_mk]) (by rw [q1 2 (by decide)]) r
      · exact .of rfl (by rw [if_neg (by decide), if_neg (by decide), if_neg (by decide), if_neg (by decide), show nI 3 = 3 from rfl, oH_3 r2 hj8, b2_mk]) (by rw [q1 3 (by decide)]) r
      · exact .of rfl (by rw [if_neg (by decide), if_neg (by decide), if_neg (by decide), if_neg (by decide), show nI 4 = 4 from rfl, oH_4 r2 hj8, b2_mk]) (by rw [q1 4 (by decide)]) r
      · exact .of rfl (by rw [if_neg (by decide), if_neg (by decide), if_neg (by decide), if_neg (by decide), show nI 5 = 5 from rfl, oH_5 r2 hj8, b2_mk]) (by rw [q1 5 (by decide)]) r
      · exact .of (by rw [X1_balance_eq, b2_mk]; rfl) (by rw [if_pos (by decide), X10_itsBalance_eq r2 hj8 t1, b2_mk]) t2 r
      · have e : (0 ≤ lg_cmp (mL ν (h + 3) (2 * j)) (mL ν (h + 3) (2 * j + 1))) ↔ ¬ (mL ν (h + 3) (2 * j) < mL ν (h + 3) (2 * j + 1)) := lgc_ge _ _
        rw [q3, q4]
        refine .of rfl (show _ = some ((if mL ν (h + 3) (2 * j) < mL ν (h + 3) (2 * j + 1) then mL ν (h + 3) (2 * j) else mL ν (h + 3) (2 * j + 1)), ν) by
          rw [if_neg (by decide), if_pos (by decide)]
          by_cases hq : mL ν (h + 3) (2 * j) < mL ν (h + 3) (2 * j + 1)
          · rw [if_neg (by rw [e]; exact fun z => z hq), if_pos hq]
          · rw [if_pos (e.mpr hq), if_neg hq]) (min2 _ _) r
      · have e : (0 ≤ lg_cmp (mL ν (h + 3) (2 * j)) (mL ν (h + 3) (2 * j + 1))) ↔ ¬ (mL ν (h + 3) (2 * j) < mL ν (h + 3) (2 * j + 1)) := lgc_ge _ _
        rw [q3, q4]
        refine .of rfl (show _ = some ((if mL ν (h + 3) (2 * j) < mL ν (h + 3) (2 * j + 1) then mL ν (h + 3) (2 * j + 1) else mL ν (h + 3) (2 * j)), ν) by
          rw [if_neg (by decide), if_neg (by decide), if_pos (by decide)]
          by_cases hq : mL ν (h + 3) (2 * j) < mL ν (h + 3) (2 * j + 1)
          · rw [if_neg (by rw [e]; exact fun z => z hq), if_pos hq]
          · rw [if_pos (e.mpr hq), if_neg hq]) (max2 _ _) r
      · exact .of rfl (by rw [if_neg (by decide), if_neg (by decide), if_neg (by decide), if_pos (by decide), oH_6 r2 hj8, b2_mk]) (by rw [show mI μ (g + 15 + j) 8 = hrw ν h j 6 from q2 0 (by decide)]) r

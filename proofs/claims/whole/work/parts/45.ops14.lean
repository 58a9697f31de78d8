/-! PURE LAYER 14: feed -/
theorem by_q : ∀ i : Fin 32, 8 ≤ i.val → (255#32)[i.val] = false := by decide
theorem by_s8 (y : BitVec 32) : BitVec.signExtend 8 y = BitVec.setWidth 8 y := by
  ext i hi
  have h2 : i < 32 := by omega
  rw [BitVec.getElem_signExtend]
  simp [h2, BitVec.getLsbD_eq_getElem h2]
theorem by_se (y : BitVec 32) : (BitVec.signExtend 32 (BitVec.setWidth 8 y)) &&& 255#32 = y &&& 255#32 := by
  ext i hi
  simp only [BitVec.getElem_and]
  by_cases h : i < 8
  · rw [BitVec.getElem_signExtend]
    simp [h, BitVec.getLsbD_eq_getElem hi]
  · rw [by_q ⟨i, hi⟩ (by show 8 ≤ i; omega)]
    simp
theorem by_sh (y : BitVec 32) (s : Nat) (hs : s ≤ 24) : (y >>> s) &&& 255#32 = (y.sshiftRight s) &&& 255#32 := by
  ext i hi
  simp only [BitVec.getElem_and]
  by_cases h : i < 8
  · rw [BitVec.getElem_sshiftRight]
    have h2 : s + i < 32 := by omega
    simp [h2]
  · rw [by_q ⟨i, hi⟩ (by show 8 ≤ i; omega)]
    simp
theorem by_one (z : Int32) : Int8.toInt32 (Int32.toInt8 (Int8.toInt32 (Int32.toInt8 z))) &&& 255 = z &&& 255 := by
  apply Int32.toBitVec_inj.mp
  simp only [Int32.toBitVec_and, Int8.toBitVec_toInt32, Int32.toBitVec_toInt8, by_s8]
  have e : (255 : Int32).toBitVec = 255#32 := rfl
  have e2 : BitVec.setWidth 8 (BitVec.signExtend 32 (BitVec.setWidth 8 z.toBitVec)) = BitVec.setWidth 8 z.toBitVec := by
    ext i hi
    have h2 : i < 32 := by omega
    rw [BitVec.getElem_setWidth, BitVec.getLsbD_eq_getElem h2, BitVec.getElem_signExtend]
    simp [hi]
  rw [e, e2, by_se]
theorem by_two (x : Int32) (m : Nat) (hm : m < 4) : ((x.toUInt32 >>> (Int32.toUInt32 (8 * nI m) &&& Int32.toUInt32 31)).toInt32) &&& 255 = (x >>> ((8 * nI m) &&& 31)) &&& 255 := by
  apply Int32.toBitVec_inj.mp
  have e : (255 : Int32).toBitVec = 255#32 := rfl
  have : m = 0 ∨ m = 1 ∨ m = 2 ∨ m = 3 := by omega
  rcases this with rfl | rfl | rfl | rfl
  · exact by_sh x.toBitVec 0 (by omega)
  · exact by_sh x.toBitVec 8 (by omega)
  · exact by_sh x.toBitVec 16 (by omega)
  · exact by_sh x.toBitVec 24 (by omega)
def tpC (g n : Nat) (v : Int32) (μ : XMem) : XMem := sI (sI μ (g + 46) n v) (g + 45) 1 (nI (n + 1))
def tpM (h n : Nat) (v : Int32) (ν : XMem) : XMem := sI (sI ν (h + 6) n v) h 7 (nI (n + 1))
theorem Rel.tape {g h n : Nat} {μ ν : XMem} (r : Rel g μ h ν) (hn : n < 100) (e1 : mI μ (g + 45) 1 = nI n) {v v' : Int32} (e : v &&& 255 = v') : Rel g (tpC g n v μ) h (tpM h n v' ν) := by
  obtain ⟨r1, r2, r3, r4, r5, r6, r7, r8⟩ := r
  have t1 : ∀ q, q ≠ g + 46 → q ≠ g + 45 → mI (tpC g n v μ) q = mI μ q := fun q q1 q2 => by unfold tpC; rw [mI_ne q2, mI_ne q1]
  have t2 : ∀ q, q ≠ h + 6 → q ≠ h → mI (tpM h n v' ν) q = mI ν q := fun q q1 q2 => by unfold tpM; rw [mI_ne q2, mI_ne q1]
  have t3 : ∀ k, k ≠ 7 → mI (tpM h n v' ν) h k = mI ν h k := fun k hk => by unfold tpM; rw [mI_off hk, mI_ne (by omega)]
  refine ⟨r1, r2, r3.cg (t1 _ (by omega) (by omega)) (t2 _ (by omega) (by omega)), ?_, r5.cg (fun s hs => t1 _ (by omega) (by omega)) (fun _ _ => rfl) (t2 _ (by omega) (by omega)) (t2 _ (by omega) (by omega)) rfl,
    r6.cg (by rw [t1 _ (by omega) (by omega)]) (t3 _ (by omega)) (t1 _ (by omega) (by omega)) (fun c hc => t1 _ (by omega) (by omega)) (fun _ _ => rfl) (fun q hq => t1 _ (by omega) (by omega)) rfl rfl (t2 _ (by omega) (by omega)) rfl,
    r7.cg (t1 _ (by omega) (by omega)) (fun c hc => t1 _ (by omega) (by omega)) (fun _ _ => rfl) (fun q hq => t1 _ (by omega) (by omega)) rfl rfl (t2 _ (by omega) (by omega)) rfl, r8.cg (t2 _ (by omega) (by omega)) (t2 _ (by omega) (by omega))⟩
  obtain ⟨n', m1, m2, m3, m4⟩ := r4
  have hn' : n = n' := by
    rw [e1] at m2
    exact (nI_eq (by omega) (by omega)).mp m2
  subst hn'
  refine ⟨n + 1, by omega, mI_at, mI_at, fun k hk => ?_⟩
  unfold tpC tpM
  rw [mI_ne (show g + 46 ≠ g + 45 by omega), mI_ne (show h + 6 ≠ h by omega)]
  by_cases ek : k = n
  · subst ek; rw [mI_at, mI_at]; exact e
  · rw [mI_off ek, mI_off ek]; exact m4 k (by omega)
theorem feed_loop {g h : Nat} {x1 : Int32} {k k' : XMem → Option (Int32 × XMem)} : ∀ (m q q' n : Nat) (μ ν : XMem), Rel g μ h ν → m ≤ 4 → m < q → m < q' → n + m ≤ 100 → mI μ (g + 45) 1 = nI n → mI ν h 7 = nI n → ∃ μ' ν', f_X9_feed_h39 g x1 k q (nI m - 1) μ = k μ' ∧ f_X10_feed_h38 h x1 k' q' (nI m - 1) ν = k' ν' ∧ Rel g μ' h ν' ∧ mI μ' (g + 45) 1 = mI ν' h 7 := by
  intro m
  induction m with
  | zero =>
    intro q q' n μ ν r h4 hq hq' hn e1 e2
    obtain ⟨q, rfl⟩ : ∃ z, q = z + 1 := ⟨q - 1, by omega⟩
    obtain ⟨q', rfl⟩ : ∃ z, q' = z + 1 := ⟨q' - 1, by omega⟩
    have hc : nI 0 - 1 < (0 : Int32) := by decide
    exact ⟨μ, ν, by rw [f_X9_feed_h39, if_pos hc], by rw [f_X10_feed_h38, if_pos hc], r, e1.trans e2.symm⟩
  | succ m ih =>
    intro q q' n μ ν r h4 hq hq' hn e1 e2
    obtain ⟨q, rfl⟩ : ∃ z, q = z + 1 := ⟨q - 1, by omega⟩
    obtain ⟨q', rfl⟩ : ∃ z, q' = z + 1 := ⟨q' - 1, by omega⟩
    obtain ⟨r1, r2, -⟩ := id r
    have hc : ¬ nI m < (0 : Int32) := nI_pos (by omega)
    have hm : nI m + (-1) = nI m - 1 := (Int32.sub_eq_add_neg _ _).symm
    have hn0 : ¬ nI n < (0 : Int32) := nI_pos (by omega)
    have hn1 : ¬ nI 100 ≤ nI n := nI_ge (by omega) (by omega)
    have ib1 : ib (nI n) 100 = true := ib_nI (by omega) (by omega)
    have s1 : mI (sI μ (g + 46) n (Int8.toInt32 (Int32.toInt8 (Int8.toInt32 (Int32.toInt8 ((x1.toUInt32 >>> (Int32.toUInt32 (8 * nI m) &&& Int32.toUInt32 31)).toInt32)))))) (g + 45) 1 = nI n := by rw [mI_ne (by omega)]; exact e1
    have s2 : mI (sI ν (h + 6) n ((x1 >>> ((8 * nI m) &&& 31)) &&& 255)) h 7 = nI n := by rw [mI_ne (by omega)]; exact e2
    have rr := r.tape (n := n) (by omega) e1 (v := Int8.toInt32 (Int32.toInt8 (Int8.toInt32 (Int32.toInt8 ((x1.toUInt32 >>> (Int32.toUInt32 (8 * nI m) &&& Int32.toUInt32 31)).toInt32))))) (v' := (x1 >>> ((8 * nI m) &&& 31)) &&& 255) (by rw [by_one, by_two x1 m (by omega)])
    obtain ⟨μ', ν', d1, d2, d3, d4⟩ := ih q q' (n + 1) _ _ rr (by omega) (by omega) (by omega) (by omega) mI_at mI_at
    refine ⟨μ', ν', ?_, ?_, d3, d4⟩
    · rw [nI_pred, f_X9_feed_h39, if_neg hc, r1.2.2.1, fo_mk]
      unfold f_X5_add
      rw [e1, if_neg hn0, r1.2.2.2.2.2.2.2.2.2.2.1, fo_mk, r1.2.2.2.2.2.2.2.2.2.2.2.1, if_neg hn1, fo_mk, r1.2.2.2.2.2.2.2.2.2.2.2.1, ib1, gd_mk, nI_clamp (by omega), nm_mk, s1, nI_1, nm_mk, b1_mk, nm_mk, hm]
      exact d1
    · rw [nI_pred, f_X10_feed_h38, if_neg hc, r2.1.2.2.2.2.2.1, fo_mk, e2, r2.2.2.2.2.2.2.1, ib1, gd_mk, nI_clamp (by omega), nm_mk, s2, nI_1, nm_mk, nm_mk, hm]
      exact d2
theorem op_feed {g h : Nat} {μ ν : XMem} (r : Rel g μ h ν) (x1 x2 : Int32) : OpI (f_X9_feed g x1 x2 μ) (f_X10_feed h x1 x2 ν) g h := by
  obtain ⟨r1, r2, r3, r4, r5, r6, r7, r8⟩ := id r
  obtain ⟨n, n1, n2, n3, n4⟩ := id r4
  unfold f_X9_feed f_X10_feed
  simp only [X9_within_eq, X10_within_eq, b2_mk]
  by_cases hw : wi x2 1 4 = 0
  · simp only [hw, if_true, X9_finding_0 r1, X10_finds_0 r2, b2_mk]
    exact .mk (r.find (by decide))
  · obtain ⟨w1, w2⟩ := wi_n hw
    obtain ⟨m, hm, rfl⟩ : ∃ m, m ≤ 4 ∧ x2 = nI m := by
      obtain ⟨j, e1, e2⟩ := nI_of2 (x := x2) (n := 4) (M := 4) rfl (Int32.not_lt.mpr (Int32.le_trans (by decide) w1)) w2
      exact ⟨j, e1, e2⟩
    simp only [hw, if_false, r1.2.2.1, fo_mk, n2, n3, nm_mk, nI_add]
    by_cases hc : n + m ≤ 100
    · have c1 : nI (n + m) ≤ 100 := nI_le (b := 100) hc (by omega)
      rw [if_pos c1, if_pos c1]
      obtain ⟨μ', ν', d1, d2, d3, d4⟩ := feed_loop (g := g) (h := h) (x1 := x1) (k := fun m105 => fo (mR m105 g 3) fun b106 => some ((mI m105 b106 1), m105)) (k' := fun m104 => some ((mI m104 h 7), m104)) m 2000 2000 n μ ν r hm (by omega) (by omega) hc n2 n3
      refine .of (d1.trans ?_) d2 d4 d3
      show fo (mR μ' g 3) _ = _
      rw [d3.1.2.2.1, fo_mk]
    · have c1 : ¬ nI (n + m) ≤ 100 := nI_ge (a := 100) (by omega) (by omega)
      rw [if_neg c1, if_neg c1, X9_finding_1 r1, X10_finds_1 r2]
      exact .mk (r.find (k := 1) (by decide))

/-! PURE LAYER 29: an hour of the world; hours, weeks -/
set_option maxHeartbeats 400000 in
theorem cell_step {g h : Nat} {μ ν : XMem} (r : Rel g μ h ν) {now nc nl nh fl : Nat} {tx : Nat → List Int32} (w : RW μ (g + 1) (g + 63) ν (h + 1) (h + 3) now nc nl nh fl tx) {j : Nat} (hj : j < nc) (x4 : Int32) :
    ∃ μ1 μ2 ν', f_X8_warm (g + 1) (g + 7 + j) (nI j) (nI fl - 1) x4 μ = some μ1 ∧ mI μ1 (g + 1) = mI μ (g + 1) ∧ f_X8_shine (g + 1) (g + 7 + j) (nI j) (nI fl - 1) x4 μ1 = some μ2 ∧ f_X10_goes h (nI j) (nI fl - 1) (-1) x4 ν = some ν' ∧ Rel g μ2 h ν' ∧ RW μ2 (g + 1) (g + 63) ν' (h + 1) (h + 3) now nc nl nh fl tx := by
  obtain ⟨r1, r2, -⟩ := id r
  obtain ⟨hj8, q1, q2⟩ := w.cell hj
  obtain ⟨w1, w2, w3, w4⟩ := id w
  obtain ⟨-, -, p1, p2, p3, p4, p5⟩ := id w1
  obtain ⟨μ1, ν', μ2, s1, s2, s3, s4, s5, s6, s7, s8, s9, s10⟩ := warm_pair (w.fr r1 r2) hj8 (a := g + 7 + j) (by omega) (by omega) (fun k hk _ => q1 k hk) q2 (LwOk.fl p5) x4
  have key : RW μ2 (g + 1) (g + 63) ν' (h + 1) (h + 3) now nc nl nh fl tx := by
    refine ⟨w1.cg (s5.1 _ (by omega) (by omega) (by omega)) (fun k hk => s6.2.1 k (by omega)), ?_, w3.cg p4 (fun c hc => s5.1 _ (by omega) (by omega) (by omega)) (fun c _ => by rw [s5.2.1]) (fun k k1 k2 => s6.2.1 k (by omega)) (by rw [s6.2.2.1]), w4.cg (fun q hq => s5.1 q (by omega) (by omega) (by omega)) (fun q _ => by rw [s5.2.2.1]) (fun q _ => by rw [s5.2.2.2]) (by rw [s5.2.2.1]) (by rw [s5.2.2.1]) (fun k hk => s6.2.1 k (by omega))⟩
    intro c hc
    rw [g167]
    by_cases e : c = j
    · subst e
      exact ⟨s8, s10⟩
    · have t := w2 c hc
      rw [g167] at t
      rw [s5.1 (g + 7 + c) (by omega) (by omega) (by omega)]
      exact ⟨fun k hk => by rw [s6.2.1 _ (by omega)]; exact t.1 k hk, t.2⟩
  exact ⟨μ1, μ2, ν', s1, s4.1 _ (by omega) (by omega) (by omega), s3, s2, r.live (fun q hq => s5.1 q (by omega) (by omega) (by omega)) (fun q _ => by rw [s5.2.1]) s5.2.2.1 s5.2.2.2 (fun q q1 q2 _ _ => s6.1 q q1 q2) (fun q _ => by rw [s6.2.2.1]) s6.2.2.2.1 s6.2.2.2.2 ⟨now, nc, nl, nh, fl, tx, key⟩, key⟩
theorem cells_loop {g h now nc nl nh fl : Nat} {tx : Nat → List Int32} {kC kM : XMem → Option XMem} : ∀ (m n i : Nat) (μ ν : XMem), i + m = nc → m < n → Rel g μ h ν → RW μ (g + 1) (g + 63) ν (h + 1) (h + 3) now nc nl nh fl tx →
    ∃ μ' ν', f_X8_passHour_h2 (g + 1) kC n (nI i) μ = kC μ' ∧ f_X10_oneHour_h9 h (nI now) kM n (nI i) ν = kM ν' ∧ Rel g μ' h ν' ∧ RW μ' (g + 1) (g + 63) ν' (h + 1) (h + 3) now nc nl nh fl tx := by
  have i1 : ib 1 1059 = true := by decide
  have j1 : Int32.toNatClampNeg 1 = 1 := by decide
  have i4 : ib 4 1059 = true := by decide
  have j4 : Int32.toNatClampNeg 4 = 4 := by decide
  intro m
  induction m with
  | zero =>
    intro n i μ ν hi hn r w
    obtain ⟨n, rfl⟩ : ∃ q, n = q + 1 := ⟨n - 1, by omega⟩
    obtain ⟨⟨a0, a1, a2, a3, a4⟩, ⟨v0, v1, v2, v3, v4⟩, p1, p2, p3, p4, p5⟩ := id w.1
    obtain ⟨r1, r2, -⟩ := id r
    have hc : nI nc ≤ nI i := nI_le (by omega) (by omega)
    refine ⟨μ, ν, ?_, ?_, r, w⟩
    · rw [f_X8_passHour_h2, a1, if_pos hc]
    · rw [f_X10_oneHour_h9, r2.1.1, fo_mk, r2.2.1, i1, gd_mk, j1, v1, if_pos hc]
  | succ m ih =>
    intro n i μ ν hi hn r w
    obtain ⟨n, rfl⟩ : ∃ q, n = q + 1 := ⟨n - 1, by omega⟩
    obtain ⟨⟨a0, a1, a2, a3, a4⟩, ⟨v0, v1, v2, v3, v4⟩, p1, p2, p3, p4, p5⟩ := id w.1
    obtain ⟨r1, r2, -⟩ := id r
    have hc : ¬ nI nc ≤ nI i := nI_ge (by omega) (by omega)
    obtain ⟨μ1, μ2, ν', s1, s2, s3, s4, s5, s6⟩ := cell_step r w (j := i) (by omega) (nI now)
    obtain ⟨μ', ν'', z1, z2, z3, z4⟩ := ih n (i + 1) μ2 ν' (by omega) (by omega) s5 s6
    refine ⟨μ', ν'', ?_, ?_, z3, z4⟩
    · rw [f_X8_passHour_h2, a1, if_neg hc, X8_cellAt_eq (LCl r1) a1 p2, b2_mk, vx_nI (show i < nc by omega) (by omega), Option.map_some, oc_ms, g167 g i, a4, a0, s1, b1_mk, s2, a4, a0, s3, b1_mk, nm_mk, nI_1]
      exact z1
    · rw [f_X10_oneHour_h9, r2.1.1, fo_mk, r2.2.1, i1, gd_mk, j1, v1, if_neg hc, fo_mk, r2.2.1, i4, gd_mk, j4, v4, s4, b1_mk, nm_mk, nI_1]
      exact z2
def OnHs (g : Nat) (μ μ' : XMem) : Prop := (∀ q, (q < g + 15 ∨ g + 23 ≤ q) → q ≠ g + 5 → q ≠ g + 6 → mI μ' q = mI μ q) ∧ (∀ q, (q < g + 15 ∨ g + 23 ≤ q) → mL μ' q = mL μ q) ∧ mR μ' = mR μ ∧ mN μ' = mN μ
def OnHMs (h : Nat) (ν ν' : XMem) : Prop := (∀ q, q ≠ h + 1 → q ≠ h + 10 → mI ν' q = mI ν q) ∧ (∀ y, (y < 147 ∨ 243 ≤ y) → mI ν' (h + 1) y = mI ν (h + 1) y) ∧ (∀ q, q ≠ h + 3 → mL ν' q = mL ν q) ∧ mR ν' = mR ν ∧ mN ν' = mN ν
set_option maxHeartbeats 400000 in
theorem houses_loop {g h now nc nl nh : Nat} {tx : Nat → List Int32} (h8 : nc ≤ 8) (k8 : nh ≤ 8) (hn : now ≤ 2000) {kC kM : XMem → Option XMem} : ∀ (m n i : Nat) (μ ν : XMem), i + m = nh → m < n → Fr g μ h ν nl tx → mI μ (g + 1) 1 = nI nc → mI μ (g + 1) 3 = nI nh → mI μ (g + 1) 0 = nI now → mI ν (h + 1) 3 = nI nh → (∀ c, c < nc → (∀ k, k < 17 → mI μ (g + 7 + c) k = crw ν h c k) ∧ CInv (mI μ (g + 7 + c))) → (∀ c, c < nh → HRow g μ h ν (if c < i then now + 1 else now) nc c) →
    ∃ μ' ν', f_X8_passHour_h56 (g + 1) kC n (nI i) μ = kC μ' ∧ f_X10_oneHour_h52 h (nI now) kM n (nI i) ν = kM ν' ∧ (∀ c, c < nh → HRow g μ' h ν' (now + 1) nc c) ∧ OnHs g μ μ' ∧ OnHMs h ν ν' := by
  have i3 : ib 3 1059 = true := by decide
  have j3 : Int32.toNatClampNeg 3 = 3 := by decide
  intro m
  induction m with
  | zero =>
    intro n i μ ν hi hm F n1 n3 n0 v3 hcs hrs
    obtain ⟨n, rfl⟩ : ∃ q, n = q + 1 := ⟨n - 1, by omega⟩
    have hc : nI nh ≤ nI i := nI_le (by omega) (by omega)
    refine ⟨μ, ν, ?_, ?_, fun c hc' => ?_, ⟨fun _ _ _ _ => rfl, fun _ _ => rfl, rfl, rfl⟩, ⟨fun _ _ _ => rfl, fun _ _ => rfl, fun _ _ => rfl, rfl, rfl⟩⟩
    · rw [f_X8_passHour_h56, n3, if_pos hc]
    · rw [f_X10_oneHour_h52, F.2.1.1.1, fo_mk, F.2.1.2.1, i3, gd_mk, j3, v3, if_pos hc]
    · have := hrs c hc'
      rw [if_pos (by omega)] at this
      exact this
  | succ m ih =>
    intro n i μ ν hi hm F n1 n3 n0 v3 hcs hrs
    obtain ⟨n, rfl⟩ : ∃ q, n = q + 1 := ⟨n - 1, by omega⟩
    have hc : ¬ nI nh ≤ nI i := nI_ge (by omega) (by omega)
    have hr := hrs i (by omega)
    rw [if_neg (by omega)] at hr
    obtain ⟨μ1, ν1, s1, s2, s3, s4, s5⟩ := house_pair F (j := i) (by omega) h8 n1 hr hn hcs
    rw [n0] at s2
    have F1 : Fr g μ1 h ν1 nl tx := F.cg (fun q hq => s4.1 q (by omega) (by omega) (by omega)) (s4.1 _ (by omega) (by omega) (by omega)) s4.2.2.1 s4.2.2.2 s5.2.2.2.2.1 s5.2.2.2.2.2 (fun k hk => s5.2.1 k (by omega))
    have w1 : mI μ1 (g + 1) = mI μ (g + 1) := s4.1 _ (by omega) (by omega) (by omega)
    obtain ⟨μ', ν', z1, z2, z3, z4, z5⟩ := ih n (i + 1) μ1 ν1 (by omega) (by omega) F1 (by rw [w1]; exact n1) (by rw [w1]; exact n3) (by rw [w1]; exact n0) (by rw [s5.2.1 _ (by omega)]; exact v3)
      (fun c hc => by
        rw [s4.1 (g + 7 + c) (by omega) (by omega) (by omega)]
        refine ⟨fun k hk => ?_, (hcs c hc).2⟩
        unfold crw
        rw [s5.2.1 _ (by omega)]
        exact (hcs c hc).1 k hk)
      (fun c hc => by
        by_cases e : c = i
        · subst e
          rw [if_pos (by omega)]
          exact s3
        · have t := hrs c hc
          have t2 : HRow g μ1 h ν1 (if c < i then now + 1 else now) nc c := t.cg (s4.1 _ (by omega) (by omega) (by omega)) (s4.2.1 _ (by omega)) (fun k hk => by unfold hrw; exact s5.2.1 _ (by omega)) (s5.2.2.2.1 _ (by omega) (by omega)) (s5.2.2.2.1 _ (by omega) (by omega))
          by_cases e2 : c < i
          · rw [if_pos e2] at t2
            rw [if_pos (by omega)]
            exact t2
          · rw [if_neg e2] at t2
            rw [if_neg (by omega)]
            exact t2)
    refine ⟨μ', ν', ?_, ?_, z3, ⟨fun q a b c => (z4.1 q a b c).trans (s4.1 q (by omega) b c), fun q a => (z4.2.1 q a).trans (s4.2.1 q (by omega)), z4.2.2.1.trans s4.2.2.1, z4.2.2.2.trans s4.2.2.2⟩, ⟨fun q a b => (z5.1 q a b).trans (s5.1 q a b), fun y a => (z5.2.1 y a).trans (s5.2.1 y (by omega)), fun q a => (z5.2.2.1 q a).trans (s5.2.2.1 q a), z5.2.2.2.1.trans s5.2.2.2.2.1, z5.2.2.2.2.trans s5.2.2.2.2.2⟩⟩
    · rw [f_X8_passHour_h56, n3, if_neg hc, X8_houseAt_eq (LCl F.1) n3 k8, b2_mk, vx_nI (show i < nh by omega) (by omega), Option.map_some, oc_ms, g1614 g i, s1, b1_mk, nm_mk, nI_1]
      exact z1
    · rw [f_X10_oneHour_h52, F.2.1.1.1, fo_mk, F.2.1.2.1, i3, gd_mk, j3, v3, if_neg hc, s2, b1_mk, nm_mk, nI_1]
      exact z2
set_option maxHeartbeats 800000 in
theorem passHour_pair {g h : Nat} {μ ν : XMem} (r : Rel g μ h ν) {now nc nl nh fl : Nat} {tx : Nat → List Int32} (w : RW μ (g + 1) (g + 63) ν (h + 1) (h + 3) now nc nl nh fl tx) (hn : now < 2000) :
    ∃ μ' ν', f_X8_passHour (g + 1) μ = some μ' ∧ f_X10_oneHour h ν = some ν' ∧ Rel g μ' h ν' ∧ RW μ' (g + 1) (g + 63) ν' (h + 1) (h + 3) (now + 1) nc nl nh fl tx := by
  have i0 : ib 0 1059 = true := by decide
  have j0 : Int32.toNatClampNeg 0 = 0 := by decide
  obtain ⟨⟨-, -, -, -, -⟩, ⟨v0, -, -, -, -⟩, p1, p2, p3, p4, p5⟩ := id w.1
  obtain ⟨-, r2, -⟩ := id r
  unfold f_X8_passHour f_X10_oneHour
  rw [r2.1.1, fo_mk, r2.2.1, i0, gd_mk, nm_mk, j0, v0]
  obtain ⟨μ1, ν1, c1, c2, r', w'⟩ := cells_loop (kC := fun m101 => f_X8_passHour_h56 (g + 1) (fun m102 => nm (sI m102 (g + 1) 0 ((mI m102 (g + 1) 0) + 1)) fun m103 => some m103) 2000 0 m101) (kM := fun m104 => fo (mR m104 h 0) fun b105 => gd (ib 0 (mN m104 b105)) <| gd (ib 0 (mN m104 b105)) <| nm (sI m104 b105 0 ((mI m104 b105 0) + 1)) fun m108 => f_X10_oneHour_h52 h (nI now) (fun m109 => some m109) 2000 0 m108) nc 2000 0 μ ν (by omega) (by omega) r w
  obtain ⟨⟨a0, a1, a2, a3, a4⟩, ⟨v0', v1, v2, v3, v4⟩, -⟩ := id w'.1
  obtain ⟨r1', r2', -⟩ := id r'
  have F0 := w'.fr r1' r2'
  obtain ⟨μ2, ν2, z1, z2, z3, z4, z5⟩ := houses_loop (tx := tx) (nl := nl) (kC := fun m102 => nm (sI m102 (g + 1) 0 ((mI m102 (g + 1) 0) + 1)) fun m103 => some m103) (kM := fun m109 => some m109) p2 p4 p1 nh 2000 0 μ1 (sI ν1 (h + 1) 0 (nI (now + 1))) (by omega) (by omega)
    (F0.cg (fun _ _ => rfl) rfl rfl rfl rfl rfl (fun k hk => mI_off (by omega))) a1 a3 a0 ((mI_off (by omega)).trans v3)
    (fun c hc => by
      obtain ⟨hc8, q1, q2⟩ := w'.cell hc
      exact ⟨fun k hk => (q1 k hk).trans (by unfold crw; exact (mI_off (by omega)).symm), q2⟩)
    (fun c hc => by
      have q : HRow g μ1 h ν1 now nc c := (w'.house hc).2
      rw [if_neg (by omega)]
      exact q.cg rfl rfl (fun k hk => by unfold hrw; exact mI_off (by omega)) rfl rfl)
  have e2 : mI μ2 (g + 1) = mI μ1 (g + 1) := z4.1 _ (by omega) (by omega) (by omega)
  have key : RW (sI μ2 (g + 1) 0 (nI (now + 1))) (g + 1) (g + 63) ν2 (h + 1) (h + 3) (now + 1) nc nl nh fl tx := by
    refine ⟨⟨?_, ?_, by omega, p2, p3, p4, p5⟩, ?_, ?_, ?_⟩
    · rw [mI_self, e2]
      exact ⟨rfl, a1, a2, a3, a4⟩
    · rw [z5.2.1 0 (by omega), z5.2.1 1 (by omega), z5.2.1 2 (by omega), z5.2.1 3 (by omega), z5.2.1 4 (by omega)]
      exact ⟨mI_at, (mI_off (by omega)).trans v1, (mI_off (by omega)).trans v2, (mI_off (by omega)).trans v3, (mI_off (by omega)).trans v4⟩
    · exact w'.2.1.cg p2 (fun c hc => by rw [mI_ne (by omega)]; exact z4.1 _ (by omega) (by omega) (by omega)) (fun k k1 k2 => by rw [z5.2.1 k (by omega)]; exact mI_off (by omega))
    · intro c hc
      rw [g1614]
      have q : HRow g (sI μ2 (g + 1) 0 (nI (now + 1))) h ν2 (now + 1) nc c := (z3 c hc).cg (mI_ne (by omega)) rfl (fun k hk => rfl) rfl rfl
      exact q
    · exact w'.2.2.2.cg (fun q hq => by rw [mI_ne (by omega)]; exact z4.1 _ (by omega) (by omega) (by omega)) (fun q _ => by rw [mR_sI, z4.2.2.1]) (fun q _ => by rw [mN_sI, z4.2.2.2]) (by rw [mR_sI, z4.2.2.1]) (by rw [mR_sI, z4.2.2.1]) (fun k hk => by rw [z5.2.1 k (by omega)]; exact mI_off (by omega))
  refine ⟨sI μ2 (g + 1) 0 (nI (now + 1)), ν2, c1.trans ?_, c2.trans ?_, ?_, key⟩
  · refine z1.trans ?_
    show nm (sI μ2 (g + 1) 0 (mI μ2 (g + 1) 0 + 1)) _ = _
    rw [e2, a0, nI_1, nm_mk]
  · show fo (mR ν1 h 0) _ = _
    rw [r2'.1.1, fo_mk, r2'.2.1, i0, gd_mk, gd_mk, v0', nI_1, nm_mk]
    exact z2
  · exact r'.live (fun q hq => by rw [mI_ne (by omega)]; exact z4.1 q (by omega) (by omega) (by omega)) (fun q hq => by rw [mL_sI]; exact z4.2.1 q (by omega)) z4.2.2.1 z4.2.2.2 (fun q q1 q2 _ _ => by rw [z5.1 q q1 q2]; exact mI_ne q1) (fun q hq => z5.2.2.1 q hq) z5.2.2.2.1 z5.2.2.2.2 ⟨_, _, _, _, _, _, key⟩
theorem hours_loop {g h nc nl nh fl N : Nat} {tx : Nat → List Int32} (hN : N ≤ 100) {kC kM : XMem → Option (Int32 × XMem)} : ∀ (m n i now : Nat) (μ ν : XMem), i + m = N → m < n → now + m ≤ 2000 → Rel g μ h ν → RW μ (g + 1) (g + 63) ν (h + 1) (h + 3) now nc nl nh fl tx →
    ∃ μ' ν', f_X9_hours_h39 g (nI N) kC n (nI i) μ = kC μ' ∧ f_X10_hours_h40 h (nI N) kM n (nI i) ν = kM ν' ∧ Rel g μ' h ν' ∧ RW μ' (g + 1) (g + 63) ν' (h + 1) (h + 3) (now + m) nc nl nh fl tx := by
  intro m
  induction m with
  | zero =>
    intro n i now μ ν hi hn h2 r w
    obtain ⟨n, rfl⟩ : ∃ q, n = q + 1 := ⟨n - 1, by omega⟩
    have hc : nI N ≤ nI i := nI_le (by omega) (by omega)
    exact ⟨μ, ν, by rw [f_X9_hours_h39, if_pos hc], by rw [f_X10_hours_h40, if_pos hc], r, w⟩
  | succ m ih =>
    intro n i now μ ν hi hn h2 r w
    obtain ⟨n, rfl⟩ : ∃ q, n = q + 1 := ⟨n - 1, by omega⟩
    have hc : ¬ nI N ≤ nI i := nI_ge (by omega) (by omega)
    obtain ⟨μ1, ν1, s1, s2, s3, s4⟩ := passHour_pair r w (by omega)
    obtain ⟨μ', ν', z1, z2, z3, z4⟩ := ih n (i + 1) (now + 1) μ1 ν1 (by omega) (by omega) (by omega) s3 s4
    refine ⟨μ', ν', ?_, ?_, z3, by rw [show now + (m + 1) = now + 1 + m by omega]; exact z4⟩
    · rw [f_X9_hours_h39, if_neg hc, r.1.1, fo_mk, s1, b1_mk, nm_mk, nI_1]
      exact z1
    · rw [f_X10_hours_h40, if_neg hc, s2, b1_mk, nm_mk, nI_1]
      exact z2
theorem wi_nat1 {v b : Int32} {n : Nat} (hb : b.toInt = n) (h : ¬ wi v 1 b = 0) : ∃ j, 1 ≤ j ∧ j ≤ n ∧ v = nI j := by
  obtain ⟨h1, h2⟩ := wi_n h
  have z0 : (0 : Int32).toInt = 0 := rfl
  have z1 : (1 : Int32).toInt = 1 := rfl
  have hneg : ¬ v < 0 := by
    simp only [Int32.lt_iff_toInt_lt, Int32.le_iff_toInt_le, z0, z1] at *
    omega
  obtain ⟨j, e1, e2⟩ := nI_of2 (n := n) hb hneg h2
  refine ⟨j, ?_, e1, e2⟩
  by_cases h0 : j = 0
  · subst h0
    rw [e2] at h1
    exact absurd h1 (by decide)
  · omega
theorem op_hours {g h : Nat} {μ ν : XMem} (r : Rel g μ h ν) (x : Int32) : OpI (f_X9_hours g x μ) (f_X10_hours h x ν) g h := by
  obtain ⟨r1, r2, r3, r4, r5, r6, ⟨now, nc, nl, nh, fl, tx, w⟩, r8⟩ := id r
  obtain ⟨⟨a0, a1, a2, a3, a4⟩, ⟨v0, v1, v2, v3, v4⟩, p1, p2, p3, p4, p5⟩ := id w.1
  have i0 : ib 0 1059 = true := by decide
  have j0 : Int32.toNatClampNeg 0 = 0 := by decide
  unfold f_X9_hours f_X10_hours
  rw [X9_within_eq, X10_within_eq, b2_mk, b2_mk]
  by_cases hw : wi x 1 100 = 0
  · rw [if_pos hw, if_pos hw, X9_finding_0 r1, X10_finds_0 r2]
    exact .mk (r.find (k := 0) (by decide))
  · obtain ⟨N, n1, n2, rfl⟩ := wi_nat1 (n := 100) rfl hw
    rw [if_neg hw, if_neg hw, r1.1, fo_mk, r2.1.1, fo_mk, r2.2.1, i0, gd_mk, j0, a0, v0, nI_add]
    by_cases hb : now + N ≤ 2000
    · have hb' : nI (now + N) ≤ (2000 : Int32) := nI_le (b := 2000) hb (by omega)
      rw [if_pos hb', if_pos hb']
      obtain ⟨μ', ν', z1, z2, z3, z4⟩ := hours_loop (kC := fun m104 => fo (mR m104 g 0) fun b105 => some ((mI m104 b105 0), m104)) (kM := fun m105 => fo (mR m105 h 0) fun b106 => gd (ib 0 (mN m105 b106)) <| some ((mI m105 b106 0), m105)) n2 N 2000 0 now μ ν (by omega) (by omega) hb r w
      refine OpI.of (r := nI (now + N)) (r' := nI (now + N)) (z1.trans ?_) (z2.trans ?_) rfl z3
      · show fo (mR μ' g 0) _ = _
        rw [z3.1.1, fo_mk, z4.1.1.1]
      · show fo (mR ν' h 0) _ = _
        rw [z3.2.1.1.1, fo_mk, z3.2.1.2.1, i0, gd_mk, z4.1.2.1.1]
    · have hb' : ¬ nI (now + N) ≤ (2000 : Int32) := nI_ge (a := 2000) (by omega) (by omega)
      rw [if_neg hb', if_neg hb', X9_finding_4 r1, X10_finds_4 r2]
      exact .mk (r.find (k := 4) (by decide))
theorem RW.setC {g h : Nat} {μ ν : XMem} {now nc nl nh fl : Nat} {tx : Nat → List Int32} (w : RW μ (g + 1) (g + 63) ν (h + 1) (h + 3) now nc nl nh fl tx) {j k : Nat} (hj : j < nc) (hk : k < 17) {v : Int32} (hi : CInv (uf (mI μ (g + 7 + j)) k v)) : RW (sI μ (g + 7 + j) k v) (g + 1) (g + 63) (sI ν (h + 1) (11 + 17 * j + k) v) (h + 1) (h + 3) now nc nl nh fl tx := by
  obtain ⟨w1, w2, w3, w4⟩ := w
  obtain ⟨-, -, p1, p2, p3, p4, p5⟩ := id w1
  refine ⟨w1.cg (mI_ne (by omega)) (fun q hq => by rw [mI_off (by omega)]), ?_, w3.cg p4 (fun c hc => by rw [g1614]; exact mI_ne (by omega)) (fun _ _ => rfl) (fun q _ _ => mI_off (by omega)) rfl, w4.cg (fun q hq => mI_ne (by omega)) (fun _ _ => rfl) (fun _ _ => rfl) rfl rfl (fun q hq => mI_off (by omega))⟩
  intro c hc
  rw [g167]
  have w2c := w2 c hc
  rw [g167] at w2c
  by_cases e : c = j
  · subst e
    rw [mI_self]
    refine ⟨fun q hq => ?_, hi⟩
    by_cases e2 : q = k
    · subst e2
      rw [uf_at, mI_at]
    · rw [uf_ne e2, mI_off (by omega)]
      exact w2c.1 q hq
  · rw [mI_ne (by omega)]
    exact ⟨fun q hq => by rw [mI_off (by omega)]; exact w2c.1 q hq, w2c.2⟩
set_option maxHeartbeats 400000 in
theorem weeks_loop {g h s c nc nl nh fl : Nat} {tx : Nat → List Int32} (hs : s < 4) (hc : c < nc) {kC kM : Int32 → XMem → Option (Int32 × XMem)} : ∀ (m n i now : Nat) (x : Int32) (μ ν : XMem), i + m = 40 → m < n → Rel g μ h ν → RW μ (g + 1) (g + 63) ν (h + 1) (h + 3) now nc nl nh fl tx →
    ∃ y μ' ν', f_X9_weeks_h56 g (g + 55 + 2 * s) (g + 7 + c) kC n x (nI i) μ = kC y μ' ∧ f_X10_weeks_h50 h (nI s) (nI c) kM n x (nI i) ν = kM y ν' ∧ Rel g μ' h ν' := by
  have i0 : ib 0 1059 = true := by decide
  have j0 : Int32.toNatClampNeg 0 = 0 := by decide
  have is : ib (nI s) 4 = true := ib_nI hs (by omega)
  have js : (nI s).toNatClampNeg = s := nI_clamp (by omega)
  intro m
  induction m with
  | zero =>
    intro n i now x μ ν hi hn r w
    obtain ⟨n, rfl⟩ : ∃ q, n = q + 1 := ⟨n - 1, by omega⟩
    obtain ⟨r1, r2, r3, r4, r5, r6, r7, r8⟩ := id r
    obtain ⟨z, z1, z2, z3, z4, z5⟩ := r5 s hs
    have l20 := r2.1.2.2.2.2.2.2.2.2.2.2.2.2.2.1
    have n14 := r2.2.2.2.2.2.2.2.2.2.2.2.2.2.2.1
    have hz : nI z ≤ nI i := nI_le (by omega) (by omega)
    refine ⟨x, μ, ν, ?_, ?_, r⟩
    · rw [f_X9_weeks_h56, z3, if_pos hz]
    · rw [f_X10_weeks_h50, l20, fo_mk, n14, is, gd_mk, js, z4, if_pos hz]
  | succ m ih =>
    intro n i now x μ ν hi hn r w
    obtain ⟨n, rfl⟩ : ∃ q, n = q + 1 := ⟨n - 1, by omega⟩
    obtain ⟨r1, r2, r3, r4, r5, r6, r7, r8⟩ := id r
    obtain ⟨⟨a0, a1, a2, a3, a4⟩, ⟨v0, v1, v2, v3, v4⟩, p1, p2, p3, p4, p5⟩ := id w.1
    obtain ⟨z, z1, z2, z3, z4, z5⟩ := r5 s hs
    have q := r1.2.2.2.2.2.2.2.2.2.2.2.2.2.2.2.2.2.2.2.2 s hs
    have l20 := r2.1.2.2.2.2.2.2.2.2.2.2.2.2.2.1
    have n14 := r2.2.2.2.2.2.2.2.2.2.2.2.2.2.2.1
    have l21 := r2.1.2.2.2.2.2.2.2.2.2.2.2.2.2.2.1
    have n15 := r2.2.2.2.2.2.2.2.2.2.2.2.2.2.2.2.1
    by_cases hz : nI z ≤ nI i
    · refine ⟨x, μ, ν, ?_, ?_, r⟩
      · rw [f_X9_weeks_h56, z3, if_pos hz]
      · rw [f_X10_weeks_h50, l20, fo_mk, n14, is, gd_mk, js, z4, if_pos hz]
    · have hiz : i < z := by
        by_cases h : i < z
        · exact h
        · exact absurd (nI_le (by omega) (by omega)) hz
      by_cases h2 : 2000 ≤ now
      · have h2' : (2000 : Int32) ≤ nI now := nI_le (a := 2000) h2 (by omega)
        refine ⟨x, μ, ν, ?_, ?_, r⟩
        · rw [f_X9_weeks_h56, z3, if_neg hz, r1.1, fo_mk, a0, if_pos h2']
        · rw [f_X10_weeks_h50, l20, fo_mk, n14, is, gd_mk, js, z4, if_neg hz, r2.1.1, fo_mk, r2.2.1, i0, gd_mk, j0, v0, if_pos h2']
      · have h2' : ¬ (2000 : Int32) ≤ nI now := nI_ge (b := 2000) (by omega) (by omega)
        have ii : ib (nI (40 * s + i)) 160 = true := ib_nI (by omega) (by omega)
        have ji : (nI (40 * s + i)).toNatClampNeg = 40 * s + i := nI_clamp (by omega)
        have e5 := z5 i (by omega)
        have A : f_X9_weeks_h56 g (g + 55 + 2 * s) (g + 7 + c) kC (n + 1) x (nI i) μ = if lg_cmp (mL μ (g + 56 + 2 * s) i) 0 < 0 then f_X9_weeks_h56 g (g + 55 + 2 * s) (g + 7 + c) kC n x (nI (i + 1)) μ else if 0 < lg_cmp (mL μ (g + 56 + 2 * s) i) 9999 then f_X9_weeks_h56 g (g + 55 + 2 * s) (g + 7 + c) kC n x (nI (i + 1)) μ else b1 (f_X8_passHour (g + 1) (sI μ (g + 7 + c) 1 (Int64.toInt32 (mL μ (g + 56 + 2 * s) i)))) fun m123 => f_X9_weeks_h56 g (g + 55 + 2 * s) (g + 7 + c) kC n (x + 1) (nI (i + 1)) m123 := by
          rw [f_X9_weeks_h56, z3, if_neg hz, r1.1, fo_mk, a0, if_neg h2', X4_numberAt_eq q.2.1 q.2.2 z1 z3 hiz, b2_mk]
          simp only [nm_mk, nI_1, mR_sI, r1.1, fo_mk]
        have B : f_X10_weeks_h50 h (nI s) (nI c) kM (n + 1) x (nI i) ν = if lg_cmp (mL ν (h + 15) (40 * s + i)) 0 < 0 then f_X10_weeks_h50 h (nI s) (nI c) kM n x (nI (i + 1)) ν else if 0 < lg_cmp (mL ν (h + 15) (40 * s + i)) 9999 then f_X10_weeks_h50 h (nI s) (nI c) kM n x (nI (i + 1)) ν else b1 (f_X10_oneHour h (sI ν (h + 1) (11 + 17 * c + 1) (Int64.toInt32 (mL ν (h + 15) (40 * s + i))))) fun m125 => f_X10_weeks_h50 h (nI s) (nI c) kM n (x + 1) (nI (i + 1)) m125 := by
          rw [f_X10_weeks_h50, l20, fo_mk, n14, is, gd_mk, js, z4, if_neg hz, r2.1.1, fo_mk, r2.2.1, i0, gd_mk, j0, v0, if_neg h2', l21, fo_mk, n15, ix40, ii, gd_mk, nm_mk, ji, putC_1 r2 (by omega), b1_mk]
          simp only [nm_mk, nI_1]
        rw [A, B, e5]
        by_cases c1 : lg_cmp (mL ν (h + 15) (40 * s + i)) 0 < 0
        · rw [if_pos c1, if_pos c1]
          exact ih n (i + 1) now x μ ν (by omega) (by omega) r w
        · rw [if_neg c1, if_neg c1]
          by_cases c2 : 0 < lg_cmp (mL ν (h + 15) (40 * s + i)) 9999
          · rw [if_pos c2, if_pos c2]
            exact ih n (i + 1) now x μ ν (by omega) (by omega) r w
          · rw [if_neg c2, if_neg c2]
            obtain ⟨k, k1, k2⟩ := pk_lOf (x := mL ν (h + 15) (40 * s + i)) (fun t => c1 ((lg_cmp_lt _ _).mpr t))
            have k3 : k ≤ 9999 := by
              by_cases t : k ≤ 9999
              · exact t
              · exfalso
                apply c2
                rw [lg_cmp_gt, k2]
                exact (pk_lLT (a := 9999) (by omega) k1).mpr (by omega)
            rw [k2, lN_i]
            obtain ⟨hc8, q1, q2⟩ := w.cell hc
            have ci := q2.set (k := 1) (n := k) (Or.inl ⟨rfl, k3⟩)
            obtain ⟨μ1, ν1, s1, s2, s3, s4⟩ := passHour_pair (r.setC w hc (k := 1) (by omega) ci) (w.setC hc (k := 1) (by omega) ci) (by omega)
            rw [s1, s2, b1_mk, b1_mk]
            exact ih n (i + 1) (now + 1) (x + 1) μ1 ν1 (by omega) (by omega) s3 s4
theorem op_weeks {g h : Nat} {μ ν : XMem} (r : Rel g μ h ν) (x1 x2 : Int32) : OpI (f_X9_weeks g x1 x2 μ) (f_X10_weeks h x1 x2 ν) g h := by
  obtain ⟨r1, r2, r3, r4, r5, r6, ⟨now, nc, nl, nh, fl, tx, w⟩, r8⟩ := id r
  obtain ⟨⟨a0, a1, a2, a3, a4⟩, ⟨v0, v1, v2, v3, v4⟩, p1, p2, p3, p4, p5⟩ := id w.1
  unfold f_X9_weeks f_X10_weeks
  simp only [X9_sheetAt_eq r1, b2_mk, X10_isSheet_eq, X9_finding_0 r1, X10_finds_0 r2, X9_finding_5 r1, X10_finds_5 r2, r1.1, fo_mk, X8_cellAt_eq (LCl r1) a1 p2, X10_isCell_eq r2 v1 (show nc < 2 ^ 31 by omega)]
  cases hv : vx 4 x1 with
  | none =>
    simp only [Option.map_none, oc_mn, iS_n, if_true]
    exact .mk (r.find (k := 0) (by decide))
  | some s =>
    obtain ⟨rfl, hs⟩ := vx_some hv
    obtain ⟨z, z1, z2, z3, z4, z5⟩ := r5 s hs
    have l19 := r2.1.2.2.2.2.2.2.2.2.2.2.2.2.1
    have n13 := r2.2.2.2.2.2.2.2.2.2.2.2.2.2.1
    have is : ib (nI s) 4 = true := ib_nI hs (by omega)
    have js : (nI s).toNatClampNeg = s := nI_clamp (by omega)
    simp only [Option.map_some, oc_ms, iS_s, one_nz, if_false, l19, fo_mk, n13, is, gd_mk, js, z2]
    by_cases c0 : mI ν (h + 13) s = 0
    · simp only [c0, if_true]
      exact .mk (r.find (k := 5) (by decide))
    · simp only [c0, if_false]
      cases hx : vx nc x2 with
      | none =>
        simp only [Option.map_none, oc_mn, iS_n, if_true]
        exact .mk (r.find (k := 0) (by decide))
      | some c =>
        obtain ⟨rfl, hc⟩ := vx_some hx
        simp only [Option.map_some, oc_ms, iS_s, one_nz, if_false, g167]
        obtain ⟨y, μ', ν', y1, y2, y3⟩ := weeks_loop (nh := nh) (nl := nl) (fl := fl) (tx := tx) hs hc (kC := fun x113 m112 => some (x113, m112)) (kM := fun x108 m107 => some (x108, m107)) 40 2000 0 now 0 μ ν (by omega) (by omega) r w
        exact OpI.of y1 y2 rfl y3

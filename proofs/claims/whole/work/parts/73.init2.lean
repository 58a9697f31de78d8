/-! THE CONSTRUCTORS, whole -/
set_option maxHeartbeats 400000 in
theorem sheets_new {g C : Nat} {k : XMem → Option XMem} : ∀ (m n i : Nat) (mu : XMem), i + m = 4 → m < n → mR mu g 5 = some C → mN mu C = 4 → g < mZ mu → C < mZ mu → g ≠ C →
    ∃ mu', f_X9_init_h93 g k n (nI i) mu = k mu' ∧ mZ mu' = mZ mu + 2 * m ∧ (∀ q, q < mZ mu → mI mu' q = mI mu q ∧ mL mu' q = mL mu q ∧ mN mu' q = mN mu q ∧ (q ≠ C → mR mu' q = mR mu q)) ∧ (∀ y, mR mu' C y = if i ≤ y ∧ y < 4 then some (mZ mu + 2 * (y - i)) else mR mu C y) ∧
      (∀ y, i ≤ y → y < 4 → mR mu' (mZ mu + 2 * (y - i)) 2 = some (mZ mu + 2 * (y - i) + 1) ∧ mN mu' (mZ mu + 2 * (y - i) + 1) = 40 ∧ mI mu' (mZ mu + 2 * (y - i)) 0 = 0 ∧ mI mu' (mZ mu + 2 * (y - i)) 1 = 0 ∧ ∀ z, mL mu' (mZ mu + 2 * (y - i) + 1) z = 0) := by
  intro m
  induction m with
  | zero =>
    intro n i mu hi hn e1 e2 h1 h2 h3
    obtain ⟨n, rfl⟩ : ∃ q, n = q + 1 := ⟨n - 1, by omega⟩
    exact ⟨mu, by rw [f_X9_init_h93, e1, fo_mk, e2, if_pos (nI_le (by omega) (by omega))], by omega, fun q _ => ⟨rfl, rfl, rfl, fun _ => rfl⟩, fun y => by rw [if_neg (by omega)], fun y h1 h2 => by omega⟩
  | succ m ih =>
    intro n i mu hi hn e1 e2 h1 h2 h3
    obtain ⟨n, rfl⟩ : ∃ q, n = q + 1 := ⟨n - 1, by omega⟩
    generalize hM : sR (nw (sI (sI (nw mu (.inl 4)) (mZ mu) 0 0) (mZ mu) 1 0) (.inr (2, 40))) (mZ mu) 2 (some (mZ mu + 1)) = M
    have hZ : mZ M = mZ mu + 2 := by rw [← hM]; rfl
    have kb : KBl (mZ mu) mu M := by
      rw [← hM]
      exact ((((KBl.refl _ mu).nw (Nat.le_refl _)).sI (Nat.le_refl _)).sI (Nat.le_refl _)).nw (by rw [mZ_sI, mZ_sI, mZ_nw]; omega) |>.sR (Nat.le_refl _)
    have f1 : mR M (mZ mu) 2 = some (mZ mu + 1) := by rw [← hM]; exact mR_at
    have f2 : mN M (mZ mu + 1) = 40 := by
      rw [← hM, mN_sR, mN_nw, mZ_sI, mZ_sI, mZ_nw, if_pos rfl]
      rfl
    have f3 : mI M (mZ mu) 0 = 0 ∧ mI M (mZ mu) 1 = 0 := by
      rw [← hM]
      simp [mI_sR, mI_nw, mI_sI, mZ_sI, mZ_nw]
    have f4 : ∀ z, mL M (mZ mu + 1) z = 0 := fun z => by
      rw [← hM, mL_sR, mL_nw, mZ_sI, mZ_sI, mZ_nw, if_pos rfl]
    have body : f_X9_init_h93 g k (n + 1) (nI i) mu = f_X9_init_h93 g k n (nI (i + 1)) (sR M C i (some (mZ mu))) := by
      rw [f_X9_init_h93, e1, fo_mk, e2, if_neg (nI_ge (by omega) (by omega)), fo_mk, nm_mk, nm_mk]
      unfold f_X4_init
      rw [nm_mk, nm_mk, nm_mk, nm_mk, nm_mk, b1_mk, mZ_sI, mZ_sI, mZ_nw, hM, (kb C h2).2.2.2, e2, ib_nI (by omega) (by omega), gd_mk, nI_clamp (by omega), nm_mk, nm_mk, nI_1]
    clear hM
    obtain ⟨mu', z1, z2, z3, z4, z5⟩ := ih n (i + 1) (sR M C i (some (mZ mu))) (by omega) (by omega) (by rw [mR_ne h3, (kb g h1).2.2.1]; exact e1) (by rw [mN_sR, (kb C h2).2.2.2]; exact e2) (by rw [mZ_sR]; omega) (by rw [mZ_sR]; omega) h3
    rw [mZ_sR, hZ] at z2 z3 z4 z5
    refine ⟨mu', body.trans z1, by omega, fun q hq => ⟨?_, ?_, ?_, fun hc => ?_⟩, fun y => ?_, fun y hy1 hy2 => ?_⟩
    · rw [(z3 q (by omega)).1]; exact (kb q hq).1
    · rw [(z3 q (by omega)).2.1]; exact (kb q hq).2.1
    · rw [(z3 q (by omega)).2.2.1]; exact (kb q hq).2.2.2
    · rw [(z3 q (by omega)).2.2.2 hc, mR_ne hc]; exact (kb q hq).2.2.1
    · rw [z4 y]
      by_cases hy : y = i
      · subst hy
        rw [if_neg (by omega), if_pos (by omega), mR_at, Nat.sub_self, Nat.mul_zero, Nat.add_zero]
      · rw [mR_off hy, (kb C h2).2.2.1]
        by_cases h4 : i + 1 ≤ y ∧ y < 4
        · rw [if_pos h4, if_pos (by omega), show mZ mu + 2 + 2 * (y - (i + 1)) = mZ mu + 2 * (y - i) by omega]
        · rw [if_neg h4, if_neg (by omega)]
    · by_cases hy : y = i
      · subst hy
        rw [Nat.sub_self, Nat.mul_zero, Nat.add_zero]
        refine ⟨?_, ?_, ?_, ?_, fun z => ?_⟩
        · rw [(z3 (mZ mu) (by omega)).2.2.2 (by omega), mR_ne (by omega)]; exact f1
        · rw [(z3 (mZ mu + 1) (by omega)).2.2.1]; exact f2
        · rw [(z3 (mZ mu) (by omega)).1]; exact f3.1
        · rw [(z3 (mZ mu) (by omega)).1]; exact f3.2
        · rw [(z3 (mZ mu + 1) (by omega)).2.1]; exact f4 z
      · have := z5 y (by omega) hy2
        rw [show mZ mu + 2 + 2 * (y - (i + 1)) = mZ mu + 2 * (y - i) by omega] at this
        exact this
set_option maxHeartbeats 2000000 in
theorem X9_init_ok {g : Nat} {m0 : XMem} (hz : mZ m0 = g + 1) : ∃ μ, f_X9_init g m0 = some μ ∧ mZ μ = g + 63 ∧ LC g (mR μ) (mN μ) ∧ mI μ g 2 = 0 ∧ (mI μ (g + 1) 0 = 0 ∧ mI μ (g + 1) 1 = 0 ∧ mI μ (g + 1) 2 = 0 ∧ mI μ (g + 1) 3 = 0 ∧ mI μ (g + 1) 4 = -1) ∧ mR μ (g + 1) 5 = none ∧ mR μ (g + 1) 6 = none ∧ mI μ (g + 45) 1 = 0 ∧ (∀ k, mI μ (g + 52) k = 0) ∧ (∀ s, s < 4 → mI μ (g + 55 + 2 * s) 0 = 0 ∧ mI μ (g + 55 + 2 * s) 1 = 0 ∧ ∀ z, mL μ (g + 56 + 2 * s) z = 0) := by
  obtain ⟨m3, a1, a2, a3, a4, a5, a6, a7⟩ := X8_init_ok (A := g + 1) (m0 := nw m0 (.inl 8)) (by rw [mZ_nw, hz])
  have a2' : mZ m3 = g + 23 := by omega
  obtain ⟨m7, b1', b2', b3', b4', -⟩ := X8_init_ok (A := g + 23) (m0 := nw (sR m3 g 0 (some (g + 1))) (.inl 8)) (by rw [mZ_nw, mZ_sR, a2'])
  have b2'' : mZ m7 = g + 45 := by omega
  have kb7 : KBl (g + 23) (sR m3 g 0 (some (g + 1))) m7 := KBl.trans ((KBl.refl (g + 23) (sR m3 g 0 (some (g + 1)))).nw (by rw [mZ_sR, a2']; exact Nat.le_refl _)) b3' (Nat.le_refl _)
  unfold f_X9_init
  rw [nm_mk, nm_mk, hz, a1, b1_mk, nm_mk, nm_mk, nm_mk, mZ_sR, a2', b1', b1_mk, nm_mk, nm_mk, nm_mk, nm_mk, mZ_sI, mZ_sR, b2'']
  unfold f_X5_init f_X3_init f_X0_init
  simp only [nm_mk, b1_mk, mZ_sI, mZ_sR, mZ_nw, b2'']
  generalize hM : sR (nw (sR (nw (sR (nw (sR (nw (sR (sI (sI (sI (sI (sR (nw (sR (nw (sI (sR (nw (nw (sR (sI (sR (nw (nw (sI (sR m7 g 1 (some (g + 23))) g 2 0) (.inl 5)) (.inr (1, 100))) (g + 45) 0 (some (g + 45 + 1))) (g + 45) 1 0) g 3 (some (g + 45))) (.inl 3)) (.inr (0, 100))) (g + 45 + 1 + 1) 0 (some (g + 45 + 1 + 1 + 1))) (g + 45 + 1 + 1) 1 0) (.inr (0, 5))) (g + 45 + 1 + 1) 2 (some (g + 45 + 1 + 1 + 1 + 1))) (.inr (0, 5))) (g + 45 + 1 + 1) 3 (some (g + 45 + 1 + 1 + 1 + 1 + 1))) (g + 45 + 1 + 1) 4 0) (g + 45 + 1 + 1) 5 0) (g + 45 + 1 + 1) 6 0) (g + 45 + 1 + 1) 7 0) g 4 (some (g + 45 + 1 + 1))) (.inr (6, 4))) g 5 (some (g + 45 + 1 + 1 + 1 + 1 + 1 + 1))) (.inr (0, 7))) g 6 (some (g + 45 + 1 + 1 + 1 + 1 + 1 + 1 + 1))) (.inl 0)) g 7 (some (g + 45 + 1 + 1 + 1 + 1 + 1 + 1 + 1 + 1))) (.inl 0)) g 8 (some (g + 45 + 1 + 1 + 1 + 1 + 1 + 1 + 1 + 1 + 1)) = M
  have hZ : mZ M = g + 55 := by rw [← hM]; simp only [mZ_sI, mZ_sR, mZ_nw, b2'']
  have rG : ∀ k, mR M g k = if k = 8 then some (g + 54) else if k = 7 then some (g + 53) else if k = 6 then some (g + 52) else if k = 5 then some (g + 51) else if k = 4 then some (g + 47) else if k = 3 then some (g + 45) else if k = 1 then some (g + 23) else mR m7 g k := by
    intro k
    rw [← hM]
    simp [mR_sR, mR_sI, mR_nw, mZ_sI, mZ_sR, mZ_nw, b2'', Nat.add_assoc]
  have keep : ∀ q, q < g + 45 → q ≠ g → mI M q = mI m7 q ∧ mL M q = mL m7 q ∧ mR M q = mR m7 q ∧ mN M q = mN m7 q := by
    intro q h1 h2
    have n1 : ∀ d, q ≠ g + (45 + d) := fun d => by omega
    have n0 : q ≠ g + 45 := by omega
    rw [← hM]
    refine ⟨?_, ?_, ?_, ?_⟩
    · funext y
      simp [mI_sR, mI_sI, mI_nw, mZ_sI, mZ_sR, mZ_nw, b2'', Nat.add_assoc, h2, n0, show q ≠ g + 46 by omega, show q ≠ g + 47 by omega, show q ≠ g + 48 by omega, show q ≠ g + 49 by omega, show q ≠ g + 50 by omega, show q ≠ g + 51 by omega, show q ≠ g + 52 by omega, show q ≠ g + 53 by omega, show q ≠ g + 54 by omega]
    · funext y
      simp [mL_sR, mL_sI, mL_nw, mZ_sI, mZ_sR, mZ_nw, b2'', Nat.add_assoc, h2, n0, show q ≠ g + 46 by omega, show q ≠ g + 47 by omega, show q ≠ g + 48 by omega, show q ≠ g + 49 by omega, show q ≠ g + 50 by omega, show q ≠ g + 51 by omega, show q ≠ g + 52 by omega, show q ≠ g + 53 by omega, show q ≠ g + 54 by omega]
    · funext y
      simp [mR_sR, mR_sI, mR_nw, mZ_sI, mZ_sR, mZ_nw, b2'', Nat.add_assoc, h2, n0, show q ≠ g + 46 by omega, show q ≠ g + 47 by omega, show q ≠ g + 48 by omega, show q ≠ g + 49 by omega, show q ≠ g + 50 by omega, show q ≠ g + 51 by omega, show q ≠ g + 52 by omega, show q ≠ g + 53 by omega, show q ≠ g + 54 by omega]
    · simp [mN_sR, mN_sI, mN_nw, mZ_sI, mZ_sR, mZ_nw, b2'', Nat.add_assoc, h2, n0, show q ≠ g + 46 by omega, show q ≠ g + 47 by omega, show q ≠ g + 48 by omega, show q ≠ g + 49 by omega, show q ≠ g + 50 by omega, show q ≠ g + 51 by omega, show q ≠ g + 52 by omega, show q ≠ g + 53 by omega, show q ≠ g + 54 by omega]
  have iG : mI M g 2 = 0 := by
    rw [← hM]
    simp [mI_sR, mI_sI, mI_nw, mZ_sI, mZ_sR, mZ_nw, b2'', Nat.add_assoc]
  have r45 : mR M (g + 45) 0 = some (g + 46) ∧ mR M (g + 47) 0 = some (g + 48) ∧ mR M (g + 47) 2 = some (g + 49) ∧ mR M (g + 47) 3 = some (g + 50) := by
    rw [← hM]
    simp [mR_sR, mR_sI, mR_nw, mZ_sI, mZ_sR, mZ_nw, b2'', Nat.add_assoc]
  have nn : mN M (g + 46) = 100 ∧ mN M (g + 48) = 100 ∧ mN M (g + 49) = 5 ∧ mN M (g + 50) = 5 ∧ mN M (g + 51) = 4 ∧ mN M (g + 52) = 7 := by
    rw [← hM]
    simp [mN_sR, mN_sI, mN_nw, mZ_sI, mZ_sR, mZ_nw, b2'', Nat.add_assoc, xlen]
  have i45 : mI M (g + 45) 1 = 0 := by
    rw [← hM]
    simp [mI_sR, mI_sI, mI_nw, mZ_sI, mZ_sR, mZ_nw, b2'', Nat.add_assoc]
  have i52 : ∀ k, mI M (g + 52) k = 0 := by
    intro k
    rw [← hM]
    simp [mI_sR, mI_sI, mI_nw, mZ_sI, mZ_sR, mZ_nw, b2'', Nat.add_assoc]
  clear hM
  obtain ⟨μ, z1, z2, z3, z4, z5⟩ := sheets_new (g := g) (C := g + 51) (k := fun m132 => some m132) 4 10 0 M (by omega) (by omega) (rG 5) nn.2.2.2.2.1 (by omega) (by omega) (by omega)
  rw [hZ] at z2 z3 z4 z5
  have RG : mR μ g = mR M g := (z3 g (by omega)).2.2.2 (by omega)
  have K7 : ∀ q, q < g + 45 → q ≠ g → mI μ q = mI m7 q ∧ mL μ q = mL m7 q ∧ mR μ q = mR m7 q ∧ mN μ q = mN m7 q := fun q h1 h2 => by
    obtain ⟨k1, k2, k3, k4⟩ := keep q h1 h2
    obtain ⟨y1, y2, y3, y4⟩ := z3 q (by omega)
    exact ⟨y1.trans k1, y2.trans k2, (y4 (by omega)).trans k3, y3.trans k4⟩
  have K3 : ∀ q, q < g + 23 → q ≠ g → mI μ q = mI m3 q ∧ mR μ q = mR m3 q ∧ mN μ q = mN m3 q := fun q h1 h2 => by
    obtain ⟨k1, k2, k3, k4⟩ := K7 q (by omega) h2
    obtain ⟨y1, y2, y3, y4⟩ := kb7 q h1
    refine ⟨k1.trans (y1.trans rfl), k3.trans (y3.trans ?_), k4.trans (y4.trans rfl)⟩
    exact mR_ne h2
  have N0 : ∀ q, q < g + 55 → mN μ q = mN M q := fun q hq => (z3 q (by omega)).2.2.1
  have g0 : mR m7 g 0 = some (g + 1) := by rw [(kb7 g (by omega)).2.2.1]; exact mR_at
  refine ⟨μ, z1, by omega, ⟨?_, ?_, ?_, ?_, ?_, ?_, ?_, ?_, ?_, ?_, ?_, ?_, ?_, ?_, ?_, ?_, ?_, ?_, ?_, ?_, fun s hs => ?_⟩, ?_, ?_, ?_, ?_, ?_, fun k => ?_, fun s hs => ?_⟩
  · rw [RG]; exact (rG 0).trans g0
  · rw [RG]; exact rG 1
  · rw [RG]; exact rG 3
  · rw [RG]; exact rG 4
  · rw [RG]; exact rG 5
  · rw [RG]; exact rG 6
  · rw [RG]; exact rG 7
  · rw [RG]; exact rG 8
  · exact a4.al (fun k _ _ => by rw [(K3 (g + 1) (by omega) (by omega)).2.1]) (fun q h1 h2 h3 => (K3 q (by omega) (by omega)).2.1) (fun q h1 h2 => (K3 q (by omega) (by omega)).2.2)
  · exact b4'.al (fun k _ _ => by rw [(K7 (g + 23) (by omega) (by omega)).2.2.1]) (fun q h1 h2 h3 => (K7 q (by omega) (by omega)).2.2.1) (fun q h1 h2 => (K7 q (by omega) (by omega)).2.2.2)
  · rw [(z3 (g + 45) (by omega)).2.2.2 (by omega)]; exact r45.1
  · rw [N0 _ (by omega)]; exact nn.1
  · rw [(z3 (g + 47) (by omega)).2.2.2 (by omega)]; exact r45.2.1
  · rw [(z3 (g + 47) (by omega)).2.2.2 (by omega)]; exact r45.2.2.1
  · rw [(z3 (g + 47) (by omega)).2.2.2 (by omega)]; exact r45.2.2.2
  · rw [N0 _ (by omega)]; exact nn.2.1
  · rw [N0 _ (by omega)]; exact nn.2.2.1
  · rw [N0 _ (by omega)]; exact nn.2.2.2.1
  · rw [N0 _ (by omega)]; exact nn.2.2.2.2.1
  · rw [N0 _ (by omega)]; exact nn.2.2.2.2.2
  · obtain ⟨y1, y2, -⟩ := z5 s (by omega) hs
    rw [Nat.sub_zero] at y1 y2
    refine ⟨by rw [z4 s, if_pos (by omega)]; rfl, y1.trans (by rw [show g + 55 + 2 * s + 1 = g + 56 + 2 * s by omega]), ?_⟩
    rw [show g + 56 + 2 * s = g + 55 + 2 * s + 1 by omega]
    exact y2
  · rw [(z3 g (by omega)).1]; exact iG
  · rw [(K3 (g + 1) (by omega) (by omega)).1]; exact a5
  · rw [(K3 (g + 1) (by omega) (by omega)).2.1]; exact a6
  · rw [(K3 (g + 1) (by omega) (by omega)).2.1]; exact a7
  · rw [(z3 (g + 45) (by omega)).1]; exact i45
  · rw [(z3 (g + 52) (by omega)).1]; exact i52 k
  · obtain ⟨-, -, y3, y4, y5⟩ := z5 s (by omega) hs
    rw [Nat.sub_zero] at y3 y4 y5
    exact ⟨y3, y4, fun z => by rw [show g + 56 + 2 * s = g + 55 + 2 * s + 1 by omega]; exact y5 z⟩

/-! PURE LAYER 40: law, told -/
theorem tape_pair {g h : Nat} {μ ν : XMem} (r : Rel g μ h ν) : ∃ n β, TPC g n β μ ∧ Bs h n β ν := by
  obtain ⟨r1, r2, r3, ⟨n, n1, n2, n3, n4⟩, r5, r6, r7, r8⟩ := r
  have key : ∀ k, k < n → (mI ν (h + 6) k = nI (mI ν (h + 6) k).toNatClampNeg ∧ (mI ν (h + 6) k).toNatClampNeg ≤ 255) := by
    intro k hk
    obtain ⟨j, j1, j2⟩ := pk_andE (mI μ (g + 46) k) (m := 255) 8 rfl
    have j1' : j < 256 := j1
    rw [n4 k hk] at j2
    rw [j2, nI_clamp (by omega)]
    exact ⟨rfl, by omega⟩
  exact ⟨n, fun k => (mI ν (h + 6) k).toNatClampNeg, ⟨r1, n2, fun k hk => by rw [n4 k hk]; exact (key k hk).1, n1, fun k hk => (key k hk).2⟩, r2, ⟨n3, fun k hk => (key k hk).1, n1, fun k hk => (key k hk).2⟩, r8⟩
theorem Rel.pf {g h : Nat} {μ ν μ' ν' : XMem} (r : Rel g μ h ν) (x : PFC g μ μ') (y : PF h ν ν') : Rel g μ' h ν' := by
  obtain ⟨r1, r2, r3, r4, r5, r6, r7, r8⟩ := r
  obtain ⟨x1, x2, x3, x4, -⟩ := x
  obtain ⟨y1, y2, y3, y4, y5⟩ := y
  exact ⟨by rw [x3, x4]; exact r1, by rw [y4, y5]; exact r2, r3.cg (x1 _ (by omega)) (y1 _ (by omega) (by omega)), r4.cg (x1 _ (by omega)) (x1 _ (by omega)) (y2 _ (by omega)) (y1 _ (by omega) (by omega)), r5.cg (fun s hs => x1 _ (by omega)) (fun s hs => by rw [x2]) (y1 _ (by omega) (by omega)) (y1 _ (by omega) (by omega)) (by rw [y3]),
    r6.cg (by rw [x1 _ (by omega)]) (y2 _ (by omega)) (x1 _ (by omega)) (fun c hc => x1 _ (by omega)) (fun c hc => by rw [x2]) (fun q hq => x1 _ (by omega)) x3 x4 (y1 _ (by omega) (by omega)) (by rw [y3]),
    r7.cg (x1 _ (by omega)) (fun c hc => x1 _ (by omega)) (fun c hc => by rw [x2]) (fun q hq => x1 _ (by omega)) x3 x4 (y1 _ (by omega) (by omega)) (by rw [y3]), r8.cg (y1 _ (by omega) (by omega)) (y1 _ (by omega) (by omega))⟩
/-- both read the tape -/
theorem read_pair {g h : Nat} {μ ν : XMem} (r : Rel g μ h ν) : ∃ μ1 ν1, PFC g μ μ1 ∧ PF h ν ν1 ∧ ((∃ f : Nat, f ≤ 100 ∧ f_X3_faultOf (g + 47) (g + 45) μ = some (nI f, μ1) ∧ f_X10_isText h ν = some (0, ν1) ∧ mI ν1 h 8 = nI f) ∨
    (∃ (K : List Int32) (x : Int32), f_X3_faultOf (g + 47) (g + 45) μ = some (-1, μ1) ∧ f_X10_isText h ν = some (x, ν1) ∧ ¬ x = 0 ∧ K.length ≤ 100 ∧ wfs K 0 = true ∧ mI μ1 (g + 47) 1 = nI K.length ∧ (∀ k, k < K.length → mI μ1 (g + 48) k = K.getD k 0) ∧ mI ν1 h 11 = nI K.length ∧ (∀ k, k < K.length → mI ν1 (h + 7) k = enc (K.getD k 0)))) := by
  obtain ⟨n, β, tp, b⟩ := tape_pair r
  have h100 := tp.2.2.2.1
  obtain ⟨μ1, pf, hc⟩ := fault_eq tp
  obtain ⟨x, ν1, i1, i2, hm⟩ := isText_eq b (mI μ (g + 47) 6)
  refine ⟨μ1, ν1, pf, i2, ?_⟩
  rcases hc with ⟨f, f1, f2, f3⟩ | ⟨K, f2, f3, f4, f5, f6⟩
  · rcases hm with ⟨rfl, f', g1, g2, g3⟩ | ⟨-, K', g1, -⟩
    · rw [f2] at g3
      obtain rfl : f = f' := by cases g3; rfl
      exact Or.inl ⟨f, by omega, f3, i1, g2⟩
    · rw [f2] at g1
      cases g1
  · rcases hm with ⟨-, f', g1, g2, g3⟩ | ⟨hx, K', g1, g2, g3, g4, g5⟩
    · rw [f2] at g3
      cases g3
    · rw [f2] at g1
      obtain rfl : K = K' := by cases g1; rfl
      exact Or.inr ⟨K, x, f3, i1, hx, f5, g5, f4, f6, g2, g4⟩
theorem wfs_ne {K : List Int32} (h : wfs K 0 = true) : K ≠ [] ∧ 0 < K.length := by
  have : K ≠ [] := fun e => by rw [e] at h; simp [wfs] at h
  exact ⟨this, List.length_pos_iff.mpr this⟩
theorem nI_nm1 {f : Nat} (h : f ≤ 100) : ¬ nI f = -1 := fun q => nI_pos (n := f) (by omega) (by rw [q]; decide)
set_option maxHeartbeats 1000000 in
theorem told_rel {g h u : Nat} {μ ν μ1 ν1 μ2 ν2 : XMem} {K : List Int32} (r : Rel g μ h ν) (wt : WTy μ) (tg : mT μ g = some (.inl 9)) (hz : g + 63 ≤ mZ μ) (hu : u ≤ 1) (pf : PFC g μ μ1) (qf : PF h ν ν1) (hK : K.length ≤ 100) (hw : wfs K 0 = true) (k3 : ∀ k, k < K.length → mI μ1 (g + 48) k = K.getD k 0) (t : TXn μ1 μ2 K.length (mI μ1 (g + 48))) (kp : KPt h (6 + u) K ν1 ν2) :
    Rel g (sI (sR μ2 (g + 1) (5 + u) (some (mZ μ1 + 1))) (g + 45) 1 0) h ν2 := by
  obtain ⟨r1, r2, r3, r4, r5, r6, ⟨now, nc, nl, nh, fl, tx, w1, w2, w3, w4⟩, r8⟩ := id r
  obtain ⟨-, -, p1, p2, p3, p4, p5⟩ := id w1
  obtain ⟨x1, x2, x3, x4, x5, x6⟩ := pf
  obtain ⟨y1, y2, y3, y4, y5⟩ := qf
  obtain ⟨t1, t2, t3, t4, t5⟩ := t
  obtain ⟨s1, s2, s3, s4, s5, s6, s7, s8⟩ := kp
  rw [x6] at t1 t2 t3 t4 t5 ⊢
  have hT1 : mT μ (g + 1) = some (.inl 8) := wt.2 g 0 (g + 1) (.inl 9) tg r1.1
  have cI : ∀ q, (q < g + 47 ∨ g + 51 ≤ q) → q < mZ μ → q ≠ g + 45 → mI (sI (sR μ2 (g + 1) (5 + u) (some (mZ μ + 1))) (g + 45) 1 0) q = mI μ q := fun q h1 h2 h3 => by
    rw [mI_ne h3, mI_sR, (t2 q h2).1, x1 q h1]
  have cL : ∀ q, q < mZ μ → mL (sI (sR μ2 (g + 1) (5 + u) (some (mZ μ + 1))) (g + 45) 1 0) q = mL μ q := fun q h2 => by
    rw [mL_sI, mL_sR, (t2 q h2).2.1, x2]
  have cR : ∀ q, q < mZ μ → q ≠ g + 1 → mR (sI (sR μ2 (g + 1) (5 + u) (some (mZ μ + 1))) (g + 45) 1 0) q = mR μ q := fun q h2 h3 => by
    funext y
    rw [mR_sI, mR_sR, if_neg h3, (t2 q h2).2.2.1, x3]
  have cR1 : ∀ k, k ≠ 5 + u → mR (sI (sR μ2 (g + 1) (5 + u) (some (mZ μ + 1))) (g + 45) 1 0) (g + 1) k = mR μ (g + 1) k := fun k hk => by
    rw [mR_sI, mR_sR, if_pos rfl, if_neg hk, (t2 (g + 1) (by omega)).2.2.1, x3]
  have cRu : mR (sI (sR μ2 (g + 1) (5 + u) (some (mZ μ + 1))) (g + 45) 1 0) (g + 1) (5 + u) = some (mZ μ + 1) := by
    rw [mR_sI, mR_sR, if_pos rfl, if_pos rfl]
  have cN : ∀ q, q < mZ μ → mN (sI (sR μ2 (g + 1) (5 + u) (some (mZ μ + 1))) (g + 45) 1 0) q = mN μ q := fun q h2 => by
    rw [mN_sI, mN_sR, (t2 q h2).2.2.2, x4]
  have nt : HT (sI (sR μ2 (g + 1) (5 + u) (some (mZ μ + 1))) (g + 45) 1 0) (g + 63) (mZ μ + 1) K := by
    refine ⟨by omega, mZ μ, ?_, hz, ?_, fun k hk => ?_⟩
    · rw [mR_sI, mR_sR, if_neg (by omega)]; exact t3
    · rw [mN_sI, mN_sR]; exact t4
    · rw [mI_ne (by omega), mI_sR, t5 k hk, k3 k hk]
  have c45 : mI (sI (sR μ2 (g + 1) (5 + u) (some (mZ μ + 1))) (g + 45) 1 0) (g + 45) 1 = 0 := mI_at
  generalize sI (sR μ2 (g + 1) (5 + u) (some (mZ μ + 1))) (g + 45) 1 0 = μ' at cI cL cR cR1 cRu cN nt c45
  have fM : ∀ y, (y < 243 + 102 * (6 + u) ∨ 345 + 102 * (6 + u) ≤ y) → mI ν2 (h + 1) y = mI ν (h + 1) y := fun y hy => by rw [s4 y hy, y1 _ (by omega) (by omega)]
  refine r.txt wt tg hz (fun q h1 h2 _ h4 => cI q h1 h2 h4) c45 cL (fun q h2 h3 _ => cR q h2 h3) (fun k k5 k6 => cR1 k (by omega)) cN (fun q h1 h2 h3 => (s1 q h1 h2).trans (y1 q h1 h3)) s3 ((s2 5 (by omega)).trans (y2 5 (by omega))) (s6.trans y3) (s7.trans y4) (s8.trans y5) ⟨now, nc, nl, nh, fl, uf tx (6 + u) K, ?_, ?_, ?_, ?_⟩
  · exact w1.cg (cI _ (by omega) (by omega) (by omega)) (fun k hk => fM k (by omega))
  · exact w2.cg p2 (fun c hc => cI _ (by omega) (by omega) (by omega)) (fun k _ _ => fM k (by omega))
  · exact w3.cg p4 (fun c hc => cI _ (by omega) (by omega) (by omega)) (fun c hc => cL _ (by omega)) (fun k _ _ => fM k (by omega)) (by rw [s6, y3])
  · obtain ⟨u0, u1, u2', u3, u4⟩ := w4
    have eI : ∀ q, g + 63 ≤ q → q < mZ μ → mI μ' q = mI μ q := fun q h1 h2 => cI q (by omega) h2 (by omega)
    have eR : ∀ q, g + 63 ≤ q → q < mZ μ → mR μ' q = mR μ q := fun q h1 h2 => cR q h2 (by omega)
    have eN : ∀ q, g + 63 ≤ q → q < mZ μ → mN μ' q = mN μ q := fun q h1 h2 => cN q h2
    refine ⟨u0, fun i hi => ?_, ?_, ?_, fun i hi => ?_⟩
    · rw [uf_ne (by omega), fM _ (by omega)]
      exact law_al (u1 i hi) wt hT1 (LCl r1).2.1 eI eR eN (by rw [cR (g + 1 + 2) (by omega) (by omega)])
    · rcases (show u = 0 ∨ u = 1 by omega) with rfl | rfl
      · have e : mR μ' (g + 1) 5 = some (mZ μ + 1) := cRu
        rw [e, show uf tx (6 + 0) K 6 = K from rfl]
        exact ⟨nt, (wfs_ne hw).1⟩
      · rw [cR1 5 (by omega), uf_ne (by omega)]
        exact u2'.al wt (fun ta h => wt.2 (g + 1) 5 ta (.inl 8) hT1 h) eI eR eN
    · rcases (show u = 0 ∨ u = 1 by omega) with rfl | rfl
      · rw [cR1 6 (by omega), uf_ne (by omega)]
        exact u3.al wt (fun ta h => wt.2 (g + 1) 6 ta (.inl 8) hT1 h) eI eR eN
      · have e : mR μ' (g + 1) 6 = some (mZ μ + 1) := cRu
        rw [e, show uf tx (6 + 1) K 7 = K from rfl]
        exact ⟨nt, (wfs_ne hw).1⟩
    · by_cases e : i = 6 + u
      · subst e
        rw [uf_at]
        exact ⟨s5, hK, Or.inr hw⟩
      · rw [uf_ne e]
        obtain ⟨⟨g1, g2⟩, g3⟩ := u4 i hi
        have g4 := g3.1
        exact ⟨⟨by rw [fM _ (by omega)]; exact g1, fun k hk => by rw [fM _ (by omega)]; exact g2 k hk⟩, g3⟩
theorem op_told {g h : Nat} {μ ν : XMem} (r : Rel g μ h ν) (wt : WTy μ) (tg : mT μ g = some (.inl 9)) (hz : g + 63 ≤ mZ μ) (x : Int32) : OpI (f_X9_told g x μ) (f_X10_told h x ν) g h := by
  obtain ⟨r1, r2, -⟩ := id r
  unfold f_X9_told f_X10_told
  rw [X9_within_eq, X10_within_eq, b2_mk, b2_mk]
  by_cases hw : wi x 0 1 = 0
  · rw [if_pos hw, if_pos hw, X9_finding_0 r1, X10_finds_0 r2]
    exact .mk (r.find (k := 0) (by decide))
  · obtain ⟨u, hu, rfl⟩ := wi_nat (n := 1) rfl hw
    rw [if_neg hw, if_neg hw, r1.2.2.2.1, fo_mk, r1.2.2.1, fo_mk]
    obtain ⟨μ1, ν1, pf, qf, hr⟩ := read_pair r
    have R1 : mR μ1 = mR μ := pf.2.2.1
    rcases hr with ⟨f, f1, f2, f3, f4⟩ | ⟨K, y, f1, f2, f3, f4, f5, f6, f7, f8, f9⟩
    · rw [f2, b2_mk, f3, b2_mk, if_neg (nI_nm1 f1), if_pos rfl, f4]
      exact .mk (r.pf pf qf)
    · rw [f1, b2_mk, f2, b2_mk, if_pos rfl, if_neg f3]
      obtain ⟨-, -, l0, -, -, n48, -, -⟩ := LCp r1
      have hz1 : mZ μ1 = mZ μ := pf.2.2.2.2.2
      obtain ⟨μ2, t1, t2⟩ := text_eq (P := g + 47) (C := g + 48) (μ := μ1) (by omega) (by omega) f6 (wfs_ne f5).2 f4 (by rw [R1]; exact l0) (by rw [pf.2.2.2.1]; exact n48)
      have L1 : LM h (mR ν1) (mN ν1) := by rw [qf.2.2.2.1, qf.2.2.2.2]; exact r2
      have e6 : (6 : Int32) + nI u = nI (6 + u) := nI_add 6 u
      obtain ⟨ν2, s1, s2⟩ := keeps_eq (i := 6 + u) (by omega) f4 L1 f8 f9
      have fin := told_rel r wt tg hz hu pf qf f4 f5 f7 t2 s2
      have R2 : ∀ q, q < mZ μ → mR μ2 q = mR μ q := fun q hq => by rw [(t2.2.1 q (by omega)).2.2.1, R1]
      have g3 : ∀ k v, mR (sR μ2 (g + 1) k v) g 3 = some (g + 45) := fun k v => by
        rw [mR_sR, if_neg (by omega), R2 g (by omega)]
        exact r1.2.2.1
      rw [e6, s1, b1_mk]
      rcases (show u = 0 ∨ u = 1 by omega) with rfl | rfl
      · rw [if_pos (by decide), R1, r1.1, fo_mk, r1.2.2.2.1, fo_mk, t1, b2_mk, nm_mk, g3, fo_mk, nm_mk]
        exact .mk fin
      · rw [if_neg (by decide), R1, r1.1, fo_mk, r1.2.2.2.1, fo_mk, t1, b2_mk, nm_mk, g3, fo_mk, nm_mk]
        exact .mk fin
set_option maxHeartbeats 1000000 in
theorem law_rel {g h now nc nl nh fl : Nat} {tx : Nat → List Int32} {μ ν μ1 ν1 μ2 ν2 μ' ν' : XMem} {K : List Int32} {x : Int32} (r : Rel g μ h ν) (w : RW μ (g + 1) (g + 63) ν (h + 1) (h + 3) now nc nl nh fl tx) (wt : WTy μ) (tg : mT μ g = some (.inl 9)) (hz : g + 63 ≤ mZ μ) (h6 : nl < 6) (pf : PFC g μ μ1) (qf : PF h ν ν1) (hK : K.length ≤ 100) (hw : wfs K 0 = true) (k3 : ∀ k, k < K.length → mI μ1 (g + 48) k = K.getD k 0)
    (t : TXn (nw μ1 (.inl 2)) μ2 K.length (mI (nw μ1 (.inl 2)) (g + 48))) (kp : KPt h nl K ν1 ν2)
    (hμ : μ' = sI (sI (sR (sI (sR μ2 (mZ μ1) 0 (some (mZ μ1 + 1 + 1))) (mZ μ1) 1 x) (g + 3) nl (some (mZ μ1))) (g + 1) 2 (nI (nl + 1))) (g + 45) 1 0) (hν : ν' = sI (sI ν2 (h + 1) (5 + nl) x) (h + 1) 2 (nI (nl + 1))) : Rel g μ' h ν' := by
  obtain ⟨r1, r2, r3, r4, r5, r6, -, r8⟩ := id r
  obtain ⟨w1, w2, w3, w4⟩ := id w
  obtain ⟨⟨a0, a1, a2, a3, a4⟩, ⟨v0, v1, v2, v3, v4⟩, p1, p2, p3, p4, p5⟩ := id w1
  obtain ⟨x1, x2, x3, x4, x5, x6⟩ := pf
  obtain ⟨y1, y2, y3, y4, y5⟩ := qf
  obtain ⟨t1, t2, t3, t4, t5⟩ := t
  obtain ⟨s1, s2, s3, s4, s5, s6, s7, s8⟩ := kp
  rw [mZ_nw] at t1 t2 t3 t4 t5
  rw [x6] at t1 t2 t3 t4 t5 hμ
  have hT1 : mT μ (g + 1) = some (.inl 8) := wt.2 g 0 (g + 1) (.inl 9) tg r1.1
  have o : ∀ q, q < mZ μ → mI μ2 q = mI μ1 q ∧ mL μ2 q = mL μ1 q ∧ mR μ2 q = mR μ1 q ∧ mN μ2 q = mN μ1 q := fun q hq => by
    obtain ⟨z1, z2, z3, z4⟩ := t2 q (by omega)
    refine ⟨z1.trans ?_, z2.trans ?_, z3.trans ?_, z4.trans ?_⟩
    · funext y; rw [mI_nw, if_neg (by omega)]
    · funext y; rw [mL_nw, if_neg (by omega)]
    · funext y; rw [mR_nw, if_neg (by omega)]
    · rw [mN_nw, if_neg (by omega)]
  have cI : ∀ q, (q < g + 47 ∨ g + 51 ≤ q) → q < mZ μ → q ≠ g + 1 → q ≠ g + 45 → mI μ' q = mI μ q := fun q h1 h2 h3 h4 => by
    rw [hμ, mI_ne h4, mI_ne h3, mI_sR, mI_ne (by omega), mI_sR, (o q h2).1, x1 q h1]
  have c45 : mI μ' (g + 45) 1 = 0 := by rw [hμ]; exact mI_at
  have c1 : mI μ' (g + 1) = uf (mI μ (g + 1)) 2 (nI (nl + 1)) := by
    rw [hμ, mI_ne (by omega), mI_self, mI_sR, mI_ne (by omega), mI_sR, (o (g + 1) (by omega)).1, x1 _ (by omega)]
  have cL : ∀ q, q < mZ μ → mL μ' q = mL μ q := fun q h2 => by
    rw [hμ, mL_sI, mL_sI, mL_sR, mL_sI, mL_sR, (o q h2).2.1, x2]
  have cR : ∀ q, q < mZ μ → q ≠ g + 3 → mR μ' q = mR μ q := fun q h2 h3 => by
    funext y
    rw [hμ, mR_sI, mR_sI, mR_sR, if_neg h3, mR_sI, mR_sR, if_neg (by omega), (o q h2).2.2.1, x3]
  have cR3 : ∀ i, i ≠ nl → mR μ' (g + 3) i = mR μ (g + 3) i := fun i hi => by
    rw [hμ, mR_sI, mR_sI, mR_sR, if_pos rfl, if_neg hi, mR_sI, mR_sR, if_neg (by omega), (o (g + 3) (by omega)).2.2.1, x3]
  have cR3n : mR μ' (g + 3) nl = some (mZ μ) := by rw [hμ, mR_sI, mR_sI, mR_sR, if_pos rfl, if_pos rfl]
  have cRl : mR μ' (mZ μ) 0 = some (mZ μ + 1 + 1) := by rw [hμ, mR_sI, mR_sI, mR_sR, if_neg (by omega), mR_sI, mR_sR, if_pos rfl, if_pos rfl]
  have cIl : mI μ' (mZ μ) 1 = x := by rw [hμ, mI_ne (by omega), mI_ne (by omega), mI_sR, mI_at]
  have cN : ∀ q, q < mZ μ → mN μ' q = mN μ q := fun q h2 => by
    rw [hμ, mN_sI, mN_sI, mN_sR, mN_sI, mN_sR, (o q h2).2.2.2, x4]
  have nt : HT μ' (g + 63) (mZ μ + 1 + 1) K := by
    refine ⟨by omega, mZ μ + 1, ?_, by omega, ?_, fun k hk => ?_⟩
    · rw [hμ, mR_sI, mR_sI, mR_sR, if_neg (by omega), mR_sI, mR_sR, if_neg (by omega)]; exact t3
    · rw [hμ, mN_sI, mN_sI, mN_sR, mN_sI, mN_sR]; exact t4
    · rw [hμ, mI_ne (by omega), mI_ne (by omega), mI_sR, mI_ne (by omega), mI_sR, t5 k hk, mI_nw, if_neg (by omega), k3 k hk]
  clear hμ
  have fM : ∀ y, (y < 243 + 102 * nl ∨ 345 + 102 * nl ≤ y) → y ≠ 2 → y ≠ 5 + nl → mI ν' (h + 1) y = mI ν (h + 1) y := fun y hy k2 k5 => by
    rw [hν, mI_off k2, mI_off k5, s4 y hy, y1 _ (by omega) (by omega)]
  have fT : ∀ y, 243 ≤ y → mI ν' (h + 1) y = mI ν2 (h + 1) y := fun y hy => by rw [hν, mI_off (by omega), mI_off (by omega)]
  have f2 : mI ν' (h + 1) 2 = nI (nl + 1) := by rw [hν]; exact mI_at
  have fr : mI ν' (h + 1) (5 + nl) = x := by rw [hν, mI_off (by omega), mI_at]
  have fI : ∀ q, q ≠ h + 1 → mI ν' q = mI ν2 q := fun q hq => by rw [hν, mI_ne hq, mI_ne hq]
  have fL : mL ν' = mL ν2 := by rw [hν]; rfl
  have fR : mR ν' = mR ν2 := by rw [hν]; rfl
  have fN : mN ν' = mN ν2 := by rw [hν]; rfl
  clear hν
  refine r.txt wt tg hz cI c45 cL (fun q h2 h3 h4 => cR q h2 h4) (fun k k5 k6 => by rw [cR (g + 1) (by omega) (by omega)]) cN (fun q h1 h2 h3 => (fI q h2).trans ((s1 q h1 h2).trans (y1 q h1 h3))) (by rw [fI h (by omega)]; exact s3) (by rw [fI h (by omega), s2 5 (by omega)]; exact y2 5 (by omega)) (fL.trans (s6.trans y3)) (fR.trans (s7.trans y4)) (fN.trans (s8.trans y5)) ⟨now, nc, nl + 1, nh, fl, uf tx nl K, ⟨?_, ?_, p1, p2, by omega, p4, by omega⟩, ?_, ?_, ?_⟩
  · rw [c1]
    exact ⟨a0, a1, rfl, a3, a4⟩
  · rw [f2, fM 0 (by omega) (by omega) (by omega), fM 1 (by omega) (by omega) (by omega), fM 3 (by omega) (by omega) (by omega), fM 4 (by omega) (by omega) (by omega)]
    exact ⟨v0, v1, rfl, v3, v4⟩
  · exact w2.cg p2 (fun c hc => cI _ (by omega) (by omega) (by omega) (by omega)) (fun k _ _ => fM k (by omega) (by omega) (by omega))
  · exact w3.cg p4 (fun c hc => cI _ (by omega) (by omega) (by omega) (by omega)) (fun c hc => cL _ (by omega)) (fun k _ _ => fM k (by omega) (by omega) (by omega)) (by rw [fL, s6, y3])
  · obtain ⟨u0, u1, u2', u3, u4⟩ := w4
    have eI : ∀ q, g + 63 ≤ q → q < mZ μ → mI μ' q = mI μ q := fun q h1 h2 => cI q (by omega) h2 (by omega) (by omega)
    have eR : ∀ q, g + 63 ≤ q → q < mZ μ → mR μ' q = mR μ q := fun q h1 h2 => cR q h2 (by omega)
    have eN : ∀ q, g + 63 ≤ q → q < mZ μ → mN μ' q = mN μ q := fun q h1 h2 => cN q h2
    refine ⟨by omega, fun i hi => ?_, ?_, ?_, fun i hi => ?_⟩
    · by_cases e : i = nl
      · subst e
        rw [uf_at, fr]
        exact ⟨mZ μ, mZ μ + 1 + 1, cR3n, hz, cRl, cIl, nt, (wfs_ne hw).1⟩
      · rw [uf_ne e, fM _ (by omega) (by omega) (by omega)]
        exact law_al (u1 i (by omega)) wt hT1 (LCl r1).2.1 eI eR eN (cR3 i e)
    · rw [cR (g + 1) (by omega) (by omega), uf_ne (by omega)]
      exact u2'.al wt (fun ta h => wt.2 (g + 1) 5 ta (.inl 8) hT1 h) eI eR eN
    · rw [cR (g + 1) (by omega) (by omega), uf_ne (by omega)]
      exact u3.al wt (fun ta h => wt.2 (g + 1) 6 ta (.inl 8) hT1 h) eI eR eN
    · by_cases e : i = nl
      · subst e
        rw [uf_at]
        exact ⟨⟨by rw [fT _ (by omega)]; exact s5.1, fun k hk => by rw [fT _ (by omega)]; exact s5.2 k hk⟩, hK, Or.inr hw⟩
      · rw [uf_ne e]
        obtain ⟨⟨g1, g2⟩, g3⟩ := u4 i (by omega)
        have g4 := g3.1
        exact ⟨⟨by rw [fM _ (by omega) (by omega) (by omega)]; exact g1, fun k hk => by rw [fM _ (by omega) (by omega) (by omega)]; exact g2 k hk⟩, g3⟩
set_option maxHeartbeats 400000 in
theorem op_law {g h : Nat} {μ ν : XMem} (r : Rel g μ h ν) (wt : WTy μ) (tg : mT μ g = some (.inl 9)) (hz : g + 63 ≤ mZ μ) (x : Int32) : OpI (f_X9_law g x μ) (f_X10_law h x ν) g h := by
  obtain ⟨r1, r2, r3, r4, r5, r6, ⟨now, nc, nl, nh, fl, tx, w⟩, r8⟩ := id r
  obtain ⟨⟨a0, a1, a2, a3, a4⟩, ⟨v0, v1, v2, v3, v4⟩, p1, p2, p3, p4, p5⟩ := id w.1
  have i2 : ib 2 1059 = true := by decide
  have j2 : Int32.toNatClampNeg 2 = 2 := by decide
  unfold f_X9_law f_X10_law
  rw [X9_within_eq, X10_within_eq, b2_mk, b2_mk]
  by_cases hw : wi x 0 999 = 0
  · rw [if_pos hw, if_pos hw, X9_finding_0 r1, X10_finds_0 r2]
    exact .mk (r.find (k := 0) (by decide))
  · rw [if_neg hw, if_neg hw, r1.1, fo_mk, r2.1.1, fo_mk, r2.2.1, i2, gd_mk, j2, a2, v2]
    by_cases h6 : nl = 6
    · subst h6
      rw [if_neg (by decide), if_pos (by decide), X9_finding_1 r1, X10_finds_1 r2]
      exact .mk (r.find (k := 1) (by decide))
    · have c1 : nI nl < (6 : Int32) := nI_lt (b := 6) (by omega) (by omega)
      have c2 : ¬ nI nl = (6 : Int32) := fun q => h6 ((nI_eq (b := 6) (by omega) (by omega)).mp q)
      rw [if_pos c1, if_neg c2, r1.2.2.2.1, fo_mk, r1.2.2.1, fo_mk]
      obtain ⟨μ1, ν1, pf, qf, hr⟩ := read_pair r
      have R1 : mR μ1 = mR μ := pf.2.2.1
      rcases hr with ⟨f, f1, f2, f3, f4⟩ | ⟨K, y, f1, f2, f3, f4, f5, f6, f7, f8, f9⟩
      · rw [f2, b2_mk, f3, b2_mk, if_neg (nI_nm1 f1), if_pos rfl, f4]
        exact .mk (r.pf pf qf)
      · rw [f1, b2_mk, f2, b2_mk, if_pos rfl, if_neg f3]
        obtain ⟨-, -, l0, -, -, n48, -, -⟩ := LCp r1
        have hz1 : mZ μ1 = mZ μ := pf.2.2.2.2.2
        have zn : mZ (nw μ1 (.inl 2)) = mZ μ1 + 1 := mZ_nw _ _
        have Rn : ∀ q, q < mZ μ → mR (nw μ1 (.inl 2)) q = mR μ q := fun q hq => by
          funext k
          rw [mR_nw, if_neg (by omega), R1]
        obtain ⟨μ2, t1, t2⟩ := text_eq (P := g + 47) (C := g + 48) (L := K.length) (μ := nw μ1 (.inl 2)) (by omega) (by omega) (by rw [mI_nw, if_neg (by omega)]; exact f6) (wfs_ne f5).2 f4 (by rw [Rn _ (by omega)]; exact l0) (by rw [mN_nw, if_neg (by omega), pf.2.2.2.1]; exact n48)
        have L1 : LM h (mR ν1) (mN ν1) := by rw [qf.2.2.2.1, qf.2.2.2.2]; exact r2
        obtain ⟨ν2, s1, s2⟩ := keeps_eq (i := nl) (by omega) f4 L1 f8 f9
        have L2 : LM h (mR ν2) (mN ν2) := by rw [s2.2.2.2.2.2.2.1, s2.2.2.2.2.2.2.2]; exact L1
        have R2 : ∀ q, q < mZ μ → mR μ2 q = mR μ q := fun q hq => by rw [(t2.2.1 q (by omega)).2.2.1, Rn q hq]
        have N2 : ∀ q, q < mZ μ → mN μ2 q = mN μ q := fun q hq => by rw [(t2.2.1 q (by omega)).2.2.2, mN_nw, if_neg (by omega), pf.2.2.2.1]
        have I2 : mI μ2 (g + 1) 2 = nI nl := by
          rw [(t2.2.1 (g + 1) (by omega)).1, mI_nw, if_neg (by omega), pf.1 _ (by omega)]
          exact a2
        rw [zn] at t1
        have fin := law_rel (x := x) r w wt tg hz (by omega) pf qf f4 f5 f7 t2 s2 rfl rfl
        have vn1 : mI ν1 (h + 1) 2 = nI nl := by rw [qf.1 _ (by omega) (by omega)]; exact v2
        have vn2 : mI ν2 (h + 1) 2 = nI nl := by rw [s2.2.2.2.1 2 (by omega)]; exact vn1
        have ix : (5 : Int32) + nI nl = nI (5 + nl) := nI_add 5 nl
        have A : (fo (mR μ1 g 0) fun b108 => nm (mZ μ1) fun b109 => nm (nw μ1 (.inl 2)) fun m110 => fo (mR m110 g 4) fun b111 => b2 (f_X3_text b111 m110) fun o113 m112 => fo o113 fun b114 => b1 (f_X2_init b109 b114 x m112) fun m115 => b1 (f_X8_addLaw b108 b109 m115) fun m116 => fo (mR m116 g 3) fun b117 => nm (sI m116 b117 1 0) fun m118 => fo (mR m118 g 0) fun b119 => some (((mI m118 b119 2) - 1), m118)) = some (nI nl, sI (sI (sR (sI (sR μ2 (mZ μ1) 0 (some (mZ μ1 + 1 + 1))) (mZ μ1) 1 x) (g + 3) nl (some (mZ μ1))) (g + 1) 2 (nI (nl + 1))) (g + 45) 1 0) := by
          rw [R1, r1.1, fo_mk, nm_mk, nm_mk, Rn g (by omega), r1.2.2.2.1, fo_mk, t1, b2_mk, fo_mk]
          unfold f_X2_init
          rw [nm_mk, nm_mk, b1_mk]
          unfold f_X8_addLaw
          rw [mI_ne (by omega), mI_sR, I2, if_neg (nI_pos (by omega)), mR_sI, mR_sR, if_neg (by omega), R2 (g + 1) (by omega), (LCl r1).2.1, fo_mk, mN_sI, mN_sR, N2 (g + 1 + 2) (by omega), (LCl r1).2.2.2.2.2.1, if_neg (nI_ge (by omega) (by omega)), fo_mk, N2 (g + 1 + 2) (by omega), (LCl r1).2.2.2.2.2.1, ib_nI (by omega) (by omega), gd_mk, nI_clamp (by omega), nm_mk, mI_sR, mI_ne (by omega), mI_sR, I2, nI_1, nm_mk, b1_mk, mR_sI, mR_sR, if_neg (by omega), mR_sI, mR_sR, if_neg (by omega), R2 g (by omega), r1.2.2.1, fo_mk, nm_mk, mR_sI, mR_sI, mR_sR, if_neg (by omega), mR_sI, mR_sR, if_neg (by omega), R2 g (by omega), r1.1, fo_mk, mI_ne (by omega), mI_at, nI_pred]
        have B : (fo (mR ν1 h 0) fun b107 => gd (ib 2 (mN ν1 b107)) <| b1 (f_X10_keeps h (mI ν1 b107 2) ν1) fun m109 => fo (mR m109 h 0) fun b110 => fo (mR m109 h 0) fun b111 => gd (ib 2 (mN m109 b111)) <| gd (ib (5 + (mI m109 b111 2)) (mN m109 b110)) <| nm (sI m109 b110 (Int32.toNatClampNeg (5 + (mI m109 b111 2))) x) fun m114 => fo (mR m114 h 0) fun b115 => gd (ib 2 (mN m114 b115)) <| gd (ib 2 (mN m114 b115)) <| nm (sI m114 b115 2 ((mI m114 b115 2) + 1)) fun m118 => fo (mR m118 h 0) fun b119 => gd (ib 2 (mN m118 b119)) <| some (((mI m118 b119 2) - 1), m118)) = some (nI nl, sI (sI ν2 (h + 1) (5 + nl) x) (h + 1) 2 (nI (nl + 1))) := by
          rw [L1.1.1, fo_mk, L1.2.1, i2, gd_mk, vn1, s1, b1_mk, L2.1.1, fo_mk, fo_mk, L2.2.1, i2, gd_mk, vn2, ix, ib_nI (by omega) (by omega), gd_mk, nI_clamp (by omega), nm_mk, mR_sI, L2.1.1, fo_mk, mN_sI, L2.2.1, i2, gd_mk, gd_mk, mI_off (by omega), vn2, nI_1, nm_mk, mR_sI, mR_sI, L2.1.1, fo_mk, mN_sI, mN_sI, L2.2.1, i2, gd_mk, mI_at, nI_pred]
        exact OpI.of A B rfl fin

/-! PURE LAYER 38: the class's reading, token by token -/
def SHh (f e : Nat → Int32) : List (Int32 × Nat) → Prop
  | [] => True
  | z :: r => f r.length = z.1 ∧ e r.length = nI z.2 ∧ z.2 ≤ 2 ∧ SHh f e r
theorem SHh.up {f e : Nat → Int32} {k : Nat} {v w : Int32} : ∀ {S : List (Int32 × Nat)}, SHh f e S → S.length ≤ k → SHh (uf f k v) (uf e k w) S
  | [], _, _ => trivial
  | z :: r, h, hk => ⟨by rw [uf_ne (by simp at hk; omega)]; exact h.1, by rw [uf_ne (by simp at hk; omega)]; exact h.2.1, h.2.2.1, SHh.up h.2.2.2 (by simp at hk; omega)⟩
theorem SHh.upE {f e : Nat → Int32} {k : Nat} {w : Int32} : ∀ {S : List (Int32 × Nat)}, SHh f e S → S.length ≤ k → SHh f (uf e k w) S
  | [], _, _ => trivial
  | z :: r, h, hk => ⟨h.1, by rw [uf_ne (by simp at hk; omega)]; exact h.2.1, h.2.2.1, SHh.upE h.2.2.2 (by simp at hk; omega)⟩
def CSt (g n : Nat) (β : Nat → Nat) (μ0 μ : XMem) (p aw : Nat) (S : List (Int32 × Nat)) (pd : Int32) (K : List Int32) : Prop :=
  PFC g μ0 μ ∧ mI μ (g + 47) 1 = nI K.length ∧ mI μ (g + 47) 4 = nI S.length ∧ mI μ (g + 47) 5 = nI aw ∧ mI μ (g + 47) 6 = pd ∧ mI μ (g + 47) 7 = nI p ∧ (∀ k, k < K.length → mI μ (g + 48) k = K.getD k 0) ∧ SHh (mI μ (g + 49)) (mI μ (g + 50)) S ∧ aw ≤ 2 ∧ S.length ≤ 5
theorem CSt.f7 {g n p p' aw : Nat} {β : Nat → Nat} {μ0 μ μ' : XMem} {S : List (Int32 × Nat)} {pd : Int32} {K : List Int32} (s : CSt g n β μ0 μ p aw S pd K) (y : F7 g μ μ') (e7 : mI μ' (g + 47) 7 = nI p') : CSt g n β μ0 μ' p' aw S pd K := by
  obtain ⟨s1, s2, s3, s4, s5, s6, s7, s8, s9⟩ := s
  refine ⟨s1.f7 y, by rw [y.2.1 1 (by omega)]; exact s2, by rw [y.2.1 4 (by omega)]; exact s3, by rw [y.2.1 5 (by omega)]; exact s4, by rw [y.2.1 6 (by omega)]; exact s5, e7, fun k hk => by rw [y.1 _ (by omega)]; exact s7 k hk, ?_, s9⟩
  rw [y.1 _ (by omega), y.1 _ (by omega)]
  exact s8
theorem CSt.s5 {g n p aw aw' : Nat} {β : Nat → Nat} {μ0 μ : XMem} {S : List (Int32 × Nat)} {pd : Int32} {K : List Int32} (s : CSt g n β μ0 μ p aw S pd K) (h : aw' ≤ 2) : CSt g n β μ0 (sI μ (g + 47) 5 (nI aw')) p aw' S pd K := by
  obtain ⟨s1, s2, s3, s4, s5, s6, s7, s8, s9⟩ := s
  refine ⟨s1.st (by omega), (mI_off (by omega)).trans s2, (mI_off (by omega)).trans s3, mI_at, (mI_off (by omega)).trans s5, (mI_off (by omega)).trans s6, fun k hk => by rw [mI_ne (by omega)]; exact s7 k hk, ?_, h, s9.2⟩
  rw [mI_ne (by omega), mI_ne (by omega)]
  exact s8
theorem CSt.s6 {g n p aw : Nat} {β : Nat → Nat} {μ0 μ : XMem} {S : List (Int32 × Nat)} {pd v : Int32} {K : List Int32} (s : CSt g n β μ0 μ p aw S pd K) : CSt g n β μ0 (sI μ (g + 47) 6 v) p aw S v K := by
  obtain ⟨s1, s2, s3, s4, s5, s6, s7, s8, s9⟩ := s
  refine ⟨s1.st (by omega), (mI_off (by omega)).trans s2, (mI_off (by omega)).trans s3, (mI_off (by omega)).trans s4, mI_at, (mI_off (by omega)).trans s6, fun k hk => by rw [mI_ne (by omega)]; exact s7 k hk, ?_, s9⟩
  rw [mI_ne (by omega), mI_ne (by omega)]
  exact s8
theorem CSt.emit {g n p aw : Nat} {β : Nat → Nat} {μ0 μ : XMem} {S : List (Int32 × Nat)} {pd : Int32} {K : List Int32} (t : TPC g n β μ0) (s : CSt g n β μ0 μ p aw S pd K) (hK : K.length < 100) (c : Int32) : ∃ μ', f_X3_emit (g + 47) c μ = some μ' ∧ CSt g n β μ0 μ' p aw S pd (K ++ [c]) := by
  obtain ⟨s1, s2, s3, s4, s5, s6, s7, s8, s9⟩ := s
  obtain ⟨-, -, l0, l2, l3, n48, n49, n50⟩ := LCp (t.pf s1).1
  refine ⟨sI (sI μ (g + 48) K.length c) (g + 47) 1 (nI (K.length + 1)), ?_, (s1.st (by omega)).st (by omega), ?_, ?_, ?_, ?_, ?_, ?_, ?_, s9⟩
  · unfold f_X3_emit
    rw [s2, if_neg (nI_pos (by omega)), l0, fo_mk, n48, if_neg (nI_ge (by omega) (by omega)), fo_mk, n48, ib_nI (by omega) (by omega), gd_mk, nI_clamp (by omega), nm_mk, mI_ne (by omega), s2, nI_1, nm_mk]
  · rw [mI_at, List.length_append]; rfl
  · rw [mI_off (by omega), mI_ne (by omega)]; exact s3
  · rw [mI_off (by omega), mI_ne (by omega)]; exact s4
  · rw [mI_off (by omega), mI_ne (by omega)]; exact s5
  · rw [mI_off (by omega), mI_ne (by omega)]; exact s6
  · intro k hk
    rw [List.length_append] at hk
    have hk' : k < K.length + 1 := hk
    rw [mI_ne (by omega)]
    by_cases e : k = K.length
    · subst e
      rw [mI_at]
      simp
    · rw [mI_off e, s7 k (by omega)]
      simp [List.getD_eq_getElem?_getD, List.getElem?_append_left (show k < K.length by omega)]
  · rw [mI_ne (by omega), mI_ne (by omega), mI_ne (by omega), mI_ne (by omega)]
    exact s8
theorem aw_c {aw c : Nat} {x : Int32} (h : aw ≤ 2) (hc : c ≤ 2) (hx : x = nI c) : (nI aw = x) ↔ aw = c := by rw [hx]; exact nI_eq (by omega) (by omega)
/-- what a token does -/
def TKn (g n : Nat) (β : Nat → Nat) (μ0 : XMem) (p aw : Nat) (S : List (Int32 × Nat)) (pd : Int32) (K : List Int32) (r : Int32) (μ' : XMem) : Prop :=
  PFC g μ0 μ' ∧ ∀ m, ((r = 0 ∧ cR n β (m + 1) p aw S pd K = .inl p) ∨ (¬ r = 0 ∧ ∃ aw' S' pd' K', CSt g n β μ0 μ' (te n β p) aw' S' pd' K' ∧ K'.length ≤ K.length + 1 ∧ cR n β (m + 1) p aw S pd K = cR n β m (nx n β p) aw' S' pd' K'))
theorem tok_word {g n p aw : Nat} {β : Nat → Nat} {μ0 μ : XMem} {S : List (Int32 × Nat)} {pd : Int32} {K : List Int32} (t : TPC g n β μ0) (s : CSt g n β μ0 μ (te n β p) aw S pd K) (hK : K.length < 100) (hl : lB n β p = true) : ∃ r μ', f_X3_takesWord (g + 47) (wc n β p) μ = some (r, μ') ∧ TKn g n β μ0 p aw S pd K r μ' := by
  have hp := (lB_t.mp hl).1
  have hcR : ∀ m, cR n β (m + 1) p aw S pd K = if aw = 0 ∧ ¬ wc n β p = -13 then (if -5 ≤ wc n β p then cR n β m (nx n β p) 2 S pd (K ++ [wc n β p]) else cR n β m (nx n β p) 1 S (wc n β p) K) else .inl p := fun m => by
    rw [cR, if_neg (by omega), if_pos hl]
  unfold f_X3_takesWord TKn
  rw [s.2.2.2.1]
  by_cases ha : aw = 0
  · rw [if_pos ((aw_c (c := 0) (x := 0) s.2.2.2.2.2.2.2.2.1 (by omega) rfl).mpr ha)]
    by_cases hw : wc n β p = -13
    · rw [if_pos hw]
      exact ⟨0, μ, rfl, s.1, fun m => Or.inl ⟨rfl, by rw [hcR, if_neg (fun q => q.2 hw)]⟩⟩
    · rw [if_neg hw]
      by_cases h5 : -5 ≤ wc n β p
      · rw [if_neg (Int32.not_lt.mpr h5)]
        obtain ⟨μ1, z1, z2⟩ := s.emit t hK (wc n β p)
        have z3 := z2.s5 (aw' := 2) (by omega)
        rw [z1, b1_mk, nm_mk]
        exact ⟨1, _, rfl, z3.1, fun m => Or.inr ⟨one_nz, 2, S, pd, K ++ [wc n β p], z3, by simp, by rw [hcR, if_pos ⟨ha, hw⟩, if_pos h5]⟩⟩
      · rw [if_pos (Int32.not_le.mp h5), nm_mk, nm_mk]
        have z3 := (s.s6 (v := wc n β p)).s5 (aw' := 1) (by omega)
        exact ⟨1, _, rfl, z3.1, fun m => Or.inr ⟨one_nz, 1, S, wc n β p, K, z3, by omega, by rw [hcR, if_pos ⟨ha, hw⟩, if_neg h5]⟩⟩
  · rw [if_neg (fun q => ha ((aw_c (c := 0) (x := 0) s.2.2.2.2.2.2.2.2.1 (by omega) rfl).mp q))]
    exact ⟨0, μ, rfl, s.1, fun m => Or.inl ⟨rfl, by rw [hcR, if_neg (fun q => ha q.1)]⟩⟩
theorem tok_num {g n p aw : Nat} {β : Nat → Nat} {μ0 μ : XMem} {S : List (Int32 × Nat)} {pd : Int32} {K : List Int32} (t : TPC g n β μ0) (s : CSt g n β μ0 μ (te n β p) aw S pd K) (hK : K.length < 100) (hd : dB n β p = true) : ∃ r μ', f_X3_takesNumber (g + 47) (nI (nv n β p)) μ = some (r, μ') ∧ TKn g n β μ0 p aw S pd K r μ' := by
  have hp := (dB_t.mp hd).1
  have hl : ¬ lB n β p = true := fun q => by have := dB_t.mp hd; have := lB_t.mp q; omega
  have hnv : nv n β p ≤ 10000 := nvs_le β _ _ _ (by omega)
  have hcR : ∀ m, cR n β (m + 1) p aw S pd K = if aw = 0 ∧ nv n β p ≤ 9999 then cR n β m (nx n β p) 2 S pd (K ++ [nI (nv n β p)]) else .inl p := fun m => by
    rw [cR, if_neg (by omega), if_neg hl, if_pos hd]
  unfold f_X3_takesNumber TKn
  rw [s.2.2.2.1]
  by_cases ha : aw = 0
  · rw [if_pos ((aw_c (c := 0) (x := 0) s.2.2.2.2.2.2.2.2.1 (by omega) rfl).mpr ha)]
    by_cases hv : nv n β p ≤ 9999
    · have hv' : nI (nv n β p) ≤ (9999 : Int32) := nI_le (b := 9999) hv (by omega)
      obtain ⟨μ1, z1, z2⟩ := s.emit t hK (nI (nv n β p))
      have z3 := z2.s5 (aw' := 2) (by omega)
      rw [if_pos hv', z1, b1_mk, nm_mk]
      exact ⟨1, _, rfl, z3.1, fun m => Or.inr ⟨one_nz, 2, S, pd, K ++ [nI (nv n β p)], z3, by simp, by rw [hcR, if_pos ⟨ha, hv⟩]⟩⟩
    · have hv' : ¬ nI (nv n β p) ≤ (9999 : Int32) := nI_ge (a := 9999) (by omega) (by omega)
      rw [if_neg hv']
      exact ⟨0, μ, rfl, s.1, fun m => Or.inl ⟨rfl, by rw [hcR, if_neg (fun q => hv q.2)]⟩⟩
  · rw [if_neg (fun q => ha ((aw_c (c := 0) (x := 0) s.2.2.2.2.2.2.2.2.1 (by omega) rfl).mp q))]
    exact ⟨0, μ, rfl, s.1, fun m => Or.inl ⟨rfl, by rw [hcR, if_neg (fun q => ha q.1)]⟩⟩
theorem tok_open {g n p aw : Nat} {β : Nat → Nat} {μ0 μ : XMem} {S : List (Int32 × Nat)} {pd : Int32} {K : List Int32} (t : TPC g n β μ0) (s : CSt g n β μ0 μ (te n β p) aw S pd K) (hp : p < n) (hb : β p = 40) : ∃ r μ', f_X3_takesOpen (g + 47) μ = some (r, μ') ∧ TKn g n β μ0 p aw S pd K r μ' := by
  obtain ⟨h1, h2⟩ := nl_40 (n := n) (β := β) (p := p) (by omega)
  have hcR : ∀ m, cR n β (m + 1) p aw S pd K = if aw = 1 ∧ S.length < 5 then cR n β m (nx n β p) 0 ((pd, if pd = -12 then 2 else 1) :: S) pd K else .inl p := fun m => by
    rw [cR, if_neg (by omega), if_neg h1, if_neg h2, if_pos hb]
  obtain ⟨s1, s2, s3, s4, s5, s6, s7, s8, s9, s10⟩ := id s
  obtain ⟨-, -, l0, l2, l3, n48, n49, n50⟩ := LCp (t.pf s1).1
  unfold f_X3_takesOpen TKn
  rw [s4]
  by_cases ha : aw = 1
  · rw [if_pos ((aw_c (c := 1) (x := 1) s9 (by omega) rfl).mpr ha), s3, if_neg (nI_pos (by omega)), l2, fo_mk, n49]
    by_cases h5 : S.length < 5
    · rw [if_neg (nI_ge h5 (by omega)), l3, fo_mk, n50, if_pos (nI_lt h5 (by omega)), fo_mk, n49, ib_nI h5 (by omega), gd_mk, nI_clamp (by omega), s5, nm_mk, mR_sI, l3, fo_mk, mI_ne (show g + 47 ≠ g + 49 by omega), s5, s3]
      have fin : ∀ due : Nat, due ≤ 2 → due = (if pd = -12 then 2 else 1) → ∃ r μ', f_X3_takesOpen_j76 (g + 47) (nI due) (nI S.length) (g + 50) (sI μ (g + 49) S.length pd) = some (r, μ') ∧ PFC g μ0 μ' ∧ ∀ m, ((r = 0 ∧ cR n β (m + 1) p aw S pd K = .inl p) ∨ (¬ r = 0 ∧ ∃ aw' S' pd' K', CSt g n β μ0 μ' (te n β p) aw' S' pd' K' ∧ K'.length ≤ K.length + 1 ∧ cR n β (m + 1) p aw S pd K = cR n β m (nx n β p) aw' S' pd' K')) := by
        intro due hdu hde
        unfold f_X3_takesOpen_j76
        rw [mN_sI, n50, ib_nI h5 (by omega), gd_mk, nI_clamp (by omega), nm_mk, mI_ne (show g + 47 ≠ g + 50 by omega), mI_ne (show g + 47 ≠ g + 49 by omega), s3, nI_1, nm_mk, nm_mk]
        have e47 : ∀ k, k ≠ 4 → k ≠ 5 → mI (sI (sI (sI (sI μ (g + 49) S.length pd) (g + 50) S.length (nI due)) (g + 47) 4 (nI (S.length + 1))) (g + 47) 5 0) (g + 47) k = mI μ (g + 47) k := fun k k1 k2 => by
          rw [mI_off k2, mI_off k1, mI_ne (by omega), mI_ne (by omega)]
        have z : CSt g n β μ0 (sI (sI (sI (sI μ (g + 49) S.length pd) (g + 50) S.length (nI due)) (g + 47) 4 (nI (S.length + 1))) (g + 47) 5 0) (te n β p) 0 ((pd, due) :: S) pd K := by
          refine ⟨(((s1.st (by omega)).st (by omega)).st (by omega)).st (by omega), (e47 1 (by omega) (by omega)).trans s2, ?_, mI_at, (e47 6 (by omega) (by omega)).trans s5, (e47 7 (by omega) (by omega)).trans s6, fun k hk => ?_, ⟨?_, ?_, hdu, ?_⟩, by omega, ?_⟩
          · rw [mI_off (by omega), mI_at]; rfl
          · rw [mI_ne (by omega), mI_ne (by omega), mI_ne (by omega), mI_ne (by omega)]; exact s7 k hk
          · rw [mI_ne (by omega), mI_ne (by omega), mI_ne (by omega), mI_at]
          · rw [mI_ne (by omega), mI_ne (by omega), mI_at]
          · rw [mI_ne (show g + 49 ≠ g + 47 by omega), mI_ne (show g + 49 ≠ g + 47 by omega), mI_ne (show g + 49 ≠ g + 50 by omega), mI_self, mI_ne (show g + 50 ≠ g + 47 by omega), mI_ne (show g + 50 ≠ g + 47 by omega), mI_self, mI_ne (show g + 50 ≠ g + 49 by omega)]
            exact s8.up (Nat.le_refl _)
          · simp; omega
        exact ⟨1, _, rfl, z.1, fun m => Or.inr ⟨one_nz, 0, (pd, due) :: S, pd, K, z, by omega, by rw [hcR, if_pos ⟨ha, h5⟩, hde]⟩⟩
      by_cases hpd : pd = -12
      · rw [if_pos hpd]
        exact fin 2 (by omega) (by rw [if_pos hpd])
      · rw [if_neg hpd]
        exact fin 1 (by omega) (by rw [if_neg hpd])
    · rw [if_pos (nI_le (by omega) (by omega))]
      exact ⟨0, μ, rfl, s1, fun m => Or.inl ⟨rfl, by rw [hcR, if_neg (fun q => h5 q.2)]⟩⟩
  · rw [if_neg (fun q => ha ((aw_c (c := 1) (x := 1) s9 (by omega) rfl).mp q))]
    exact ⟨0, μ, rfl, s1, fun m => Or.inl ⟨rfl, by rw [hcR, if_neg (fun q => ha q.1)]⟩⟩
theorem nI_m1n : nI 0 - 1 < 0 := by decide
theorem tok_comma {g n p aw : Nat} {β : Nat → Nat} {μ0 μ : XMem} {S : List (Int32 × Nat)} {pd : Int32} {K : List Int32} (t : TPC g n β μ0) (s : CSt g n β μ0 μ (te n β p) aw S pd K) (hp : p < n) (hb : β p = 44) : ∃ r μ', f_X3_takesComma (g + 47) μ = some (r, μ') ∧ TKn g n β μ0 p aw S pd K r μ' := by
  obtain ⟨h1, h2⟩ := nl_40 (n := n) (β := β) (p := p) (by omega)
  have hcR : ∀ m, cR n β (m + 1) p aw S pd K = oE (cmS S) (.inl p) fun S' => if aw = 2 then cR n β m (nx n β p) 0 S' pd K else .inl p := fun m => by
    rw [cR, if_neg (by omega), if_neg h1, if_neg h2, if_neg (by omega), if_pos hb]
  obtain ⟨s1, s2, s3, s4, s5, s6, s7, s8, s9, s10⟩ := id s
  obtain ⟨-, -, l0, l2, l3, n48, n49, n50⟩ := LCp (t.pf s1).1
  unfold f_X3_takesComma TKn
  rw [nm_mk, s4, s3]
  by_cases ha : aw = 2
  · rw [if_pos ((aw_c (c := 2) (x := 2) s9 (by omega) rfl).mpr ha)]
    match S, s3, s8, s10, hcR with
    | [], s3, s8, s10, hcR =>
      rw [List.length_nil, if_pos nI_m1n]
      exact ⟨0, μ, rfl, s1, fun m => Or.inl ⟨rfl, by rw [hcR]; rfl⟩⟩
    | (f, d) :: S', s3, s8, s10, hcR =>
      have hl : ((f, d) :: S').length = S'.length + 1 := rfl
      rw [hl] at s3 s10
      obtain ⟨y1, y2, y3, y4⟩ := s8
      have y2' : mI μ (g + 50) S'.length = nI d := y2
      rw [hl, nI_pred, if_neg (nI_pos (by omega)), l3, fo_mk, n50, if_neg (nI_ge (by omega) (by omega)), fo_mk, n50, ib_nI (by omega) (by omega), gd_mk, nI_clamp (by omega), y2']
      match d, y3, y2', hcR with
      | 0, y3, y2', hcR =>
        rw [if_pos (by decide)]
        exact ⟨0, μ, rfl, s1, fun m => Or.inl ⟨rfl, by rw [hcR]; rfl⟩⟩
      | d + 1, y3, y2', hcR =>
        have y3' : d + 1 ≤ 2 := y3
        rw [if_neg (nI_ne0 (by omega) (by omega)), fo_mk, n50, ib_nI (by omega) (by omega), gd_mk, gd_mk, y2', nI_pred, nm_mk, nm_mk]
        have z : CSt g n β μ0 (sI (sI μ (g + 50) S'.length (nI d)) (g + 47) 5 0) (te n β p) 0 ((f, d) :: S') pd K := by
          refine ⟨(s1.st (by omega)).st (by omega), ?_, ?_, mI_at, ?_, ?_, fun k hk => ?_, ⟨?_, ?_, ?_, ?_⟩, by omega, s10⟩
          · rw [mI_off (by omega), mI_ne (by omega)]; exact s2
          · rw [mI_off (by omega), mI_ne (by omega)]; exact s3
          · rw [mI_off (by omega), mI_ne (by omega)]; exact s5
          · rw [mI_off (by omega), mI_ne (by omega)]; exact s6
          · rw [mI_ne (by omega), mI_ne (by omega)]; exact s7 k hk
          · rw [mI_ne (by omega), mI_ne (by omega)]; exact y1
          · rw [mI_ne (by omega), mI_at]
          · show d ≤ 2
            omega
          · rw [mI_ne (show g + 49 ≠ g + 47 by omega), mI_ne (show g + 49 ≠ g + 50 by omega), mI_ne (show g + 50 ≠ g + 47 by omega), mI_self]
            exact y4.upE (Nat.le_refl _)
        exact ⟨1, _, rfl, z.1, fun m => Or.inr ⟨one_nz, 0, (f, d) :: S', pd, K, z, by omega, by
          rw [hcR]
          show (if aw = 2 then cR n β m (nx n β p) 0 ((f, d) :: S') pd K else .inl p) = _
          rw [if_pos ha]⟩⟩
  · rw [if_neg (fun q => ha ((aw_c (c := 2) (x := 2) s9 (by omega) rfl).mp q))]
    refine ⟨0, μ, rfl, s1, fun m => Or.inl ⟨rfl, ?_⟩⟩
    rw [hcR]
    cases cmS S with
    | none => rfl
    | some z => exact if_neg ha
theorem tok_close {g n p aw : Nat} {β : Nat → Nat} {μ0 μ : XMem} {S : List (Int32 × Nat)} {pd : Int32} {K : List Int32} (t : TPC g n β μ0) (s : CSt g n β μ0 μ (te n β p) aw S pd K) (hK : K.length < 100) (hp : p < n) (hb : β p = 41) : ∃ r μ', f_X3_takesClose (g + 47) μ = some (r, μ') ∧ TKn g n β μ0 p aw S pd K r μ' := by
  obtain ⟨h1, h2⟩ := nl_40 (n := n) (β := β) (p := p) (by omega)
  have hcR : ∀ m, cR n β (m + 1) p aw S pd K = oE (clS S) (.inl p) fun z => if aw = 2 then cR n β m (nx n β p) 2 z.2 pd (K ++ [z.1]) else .inl p := fun m => by
    rw [cR, if_neg (by omega), if_neg h1, if_neg h2, if_neg (by omega), if_neg (by omega), if_pos hb]
  obtain ⟨s1, s2, s3, s4, s5, s6, s7, s8, s9, s10⟩ := id s
  obtain ⟨-, -, l0, l2, l3, n48, n49, n50⟩ := LCp (t.pf s1).1
  unfold f_X3_takesClose TKn
  rw [nm_mk, s4, s3]
  by_cases ha : aw = 2
  · rw [if_pos ((aw_c (c := 2) (x := 2) s9 (by omega) rfl).mpr ha)]
    match S, s, s3, s8, s10, hcR with
    | [], s, s3, s8, s10, hcR =>
      rw [List.length_nil, if_pos nI_m1n]
      exact ⟨0, μ, rfl, s1, fun m => Or.inl ⟨rfl, by rw [hcR]; rfl⟩⟩
    | (f, d) :: S', s, s3, s8, s10, hcR =>
      have hl : ((f, d) :: S').length = S'.length + 1 := rfl
      rw [hl] at s3 s10
      obtain ⟨y1, y2, y3, y4⟩ := s8
      have y2' : mI μ (g + 50) S'.length = nI d := y2
      have y1' : mI μ (g + 49) S'.length = f := y1
      rw [hl, nI_pred, if_neg (nI_pos (by omega)), l2, fo_mk, n49, if_neg (nI_ge (by omega) (by omega)), l3, fo_mk, n50, if_pos (nI_lt (by omega) (by omega)), fo_mk, n50, ib_nI (by omega) (by omega), gd_mk, nI_clamp (by omega), y2']
      match d, s, y3, y2', hcR with
      | d + 1, s, y3, y2', hcR =>
        have y3' : d + 1 ≤ 2 := y3
        rw [if_neg (nI_ne0 (by omega) (by omega))]
        exact ⟨0, μ, rfl, s1, fun m => Or.inl ⟨rfl, by rw [hcR]; rfl⟩⟩
      | 0, s, y3, y2', hcR =>
        obtain ⟨μ1, z1, z2⟩ := s.emit t hK f
        rw [if_pos (by decide), fo_mk, n49, ib_nI (by omega) (by omega), gd_mk, y1', z1, b1_mk, nm_mk]
        obtain ⟨w1, w2, w3, w4, w5, w6, w7, w8, w9, w10⟩ := z2
        have z : CSt g n β μ0 (sI μ1 (g + 47) 4 (nI S'.length)) (te n β p) 2 S' pd (K ++ [f]) := by
          refine ⟨w1.st (by omega), (mI_off (by omega)).trans w2, mI_at, (mI_off (by omega)).trans (w4.trans (by rw [ha])), (mI_off (by omega)).trans w5, (mI_off (by omega)).trans w6, fun k hk => by rw [mI_ne (by omega)]; exact w7 k hk, ?_, by omega, by omega⟩
          rw [mI_ne (by omega), mI_ne (by omega)]
          exact w8.2.2.2
        exact ⟨1, _, rfl, z.1, fun m => Or.inr ⟨one_nz, 2, S', pd, K ++ [f], z, by simp, by
          rw [hcR]
          show (if aw = 2 then cR n β m (nx n β p) 2 S' pd (K ++ [f]) else .inl p) = _
          rw [if_pos ha]⟩⟩
  · rw [if_neg (fun q => ha ((aw_c (c := 2) (x := 2) s9 (by omega) rfl).mp q))]
    refine ⟨0, μ, rfl, s1, fun m => Or.inl ⟨rfl, ?_⟩⟩
    rw [hcR]
    cases clS S with
    | none => rfl
    | some z => exact if_neg ha
set_option maxHeartbeats 400000 in
theorem tok_eq {g n p aw : Nat} {β : Nat → Nat} {μ0 μ : XMem} {S : List (Int32 × Nat)} {pd : Int32} {K : List Int32} (t : TPC g n β μ0) (s : CSt g n β μ0 μ p aw S pd K) (hK : K.length < 100) (hp : p < n) : ∃ r μ', f_X3_takesToken (g + 47) (g + 45) μ = some (r, μ') ∧ TKn g n β μ0 p aw S pd K r μ' := by
  have t' := t.pf s.1
  have h100 := t.2.2.2.1
  have hb := t.2.2.2.2
  have e7 : mI μ (g + 47) 7 = nI p := s.2.2.2.2.2.1
  unfold f_X3_takesToken
  rw [e7, X5_byteAt_eq t' (by omega), b2_mk, X3_isLetter_eq hb, b2_mk]
  by_cases hl : lB n β p = true
  · rw [if_pos hl, if_neg one_nz]
    obtain ⟨μ1, z1, z2, z3⟩ := word_eq t' hl e7
    obtain ⟨r, μ2, y1, y2⟩ := tok_word t (s.f7 z2 z3) hK hl
    rw [z1, b2_mk, y1, b2_mk]
    exact ⟨r, μ2, rfl, y2⟩
  · rw [if_neg hl, if_pos rfl, X3_isDigit_eq hb, b2_mk]
    by_cases hd : dB n β p = true
    · rw [if_pos hd, if_neg one_nz]
      obtain ⟨μ1, z1, z2, z3⟩ := numc_eq t' hd e7
      obtain ⟨r, μ2, y1, y2⟩ := tok_num t (s.f7 z2 z3) hK hd
      rw [z1, b2_mk, y1, b2_mk]
      exact ⟨r, μ2, rfl, y2⟩
    · have ete : te n β p = p + 1 := by unfold te; rw [if_pos hp, if_neg hl, if_neg hd]
      rw [if_neg hd, if_pos rfl, e7, nI_1, nm_mk]
      have s' : CSt g n β μ0 (sI μ (g + 47) 7 (nI (p + 1))) (te n β p) aw S pd K := s.f7 F7.st (by rw [ete]; exact mI_at)
      have other : ¬ β p = 40 → ¬ β p = 41 → ¬ β p = 44 → TKn g n β μ0 p aw S pd K 0 (sI μ (g + 47) 7 (nI (p + 1))) := fun q1 q2 q3 => ⟨s'.1, fun m => Or.inl ⟨rfl, by
        rw [cR, if_neg (by omega), if_neg hl, if_neg hd, if_neg q1, if_neg q3, if_neg q2]⟩⟩
      by_cases h40 : β p = 40
      · rw [if_pos (bt_yes (c := 40) (x := 40) hb (by omega) rfl ⟨hp, h40⟩)]
        obtain ⟨r, μ2, y1, y2⟩ := tok_open t s' hp h40
        rw [y1, b2_mk]
        exact ⟨r, μ2, rfl, y2⟩
      · rw [if_neg (bt_no (c := 40) (x := 40) hb (by omega) rfl (fun q => h40 q.2))]
        by_cases h41 : β p = 41
        · rw [if_pos (bt_yes (c := 41) (x := 41) hb (by omega) rfl ⟨hp, h41⟩)]
          obtain ⟨r, μ2, y1, y2⟩ := tok_close t s' hK hp h41
          rw [y1, b2_mk]
          exact ⟨r, μ2, rfl, y2⟩
        · rw [if_neg (bt_no (c := 41) (x := 41) hb (by omega) rfl (fun q => h41 q.2))]
          by_cases h44 : β p = 44
          · rw [if_neg (bt_no (c := 42) (x := 42) hb (by omega) rfl (fun q => by omega)), if_neg (bt_no (c := 43) (x := 43) hb (by omega) rfl (fun q => by omega)), if_pos (bt_yes (c := 44) (x := 44) hb (by omega) rfl ⟨hp, h44⟩)]
            obtain ⟨r, μ2, y1, y2⟩ := tok_comma t s' hp h44
            rw [y1, b2_mk]
            exact ⟨r, μ2, rfl, y2⟩
          · rw [if_neg (bt_no (c := 44) (x := 44) hb (by omega) rfl (fun q => h44 q.2))]
            refine ⟨0, _, ?_, other h40 h41 h44⟩
            split
            · rfl
            · split <;> rfl
def FRs (g n : Nat) (β : Nat → Nat) (μ0 : XMem) (z : Nat ⊕ List Int32) (F : Option (Int32 × XMem)) : Prop := ∃ μ', PFC g μ0 μ' ∧ ((∃ f, f ≤ n ∧ z = .inl f ∧ F = some (nI f, μ')) ∨ (∃ K', z = .inr K' ∧ F = some (-1, μ') ∧ mI μ' (g + 47) 1 = nI K'.length ∧ K'.length ≤ 100 ∧ ∀ k, k < K'.length → mI μ' (g + 48) k = K'.getD k 0))
set_option maxHeartbeats 400000 in
theorem fault_loop {g n : Nat} {β : Nat → Nat} {μ0 : XMem} (tp : TPC g n β μ0) : ∀ (m fu i t aw : Nat) (S : List (Int32 × Nat)) (pd : Int32) (K : List Int32) (μ : XMem), n < m + t → t ≤ n → m < fu → i ≤ t → K.length ≤ t → CSt g n β μ0 μ t aw S pd K →
    FRs g n β μ0 (cR n β m (sk n β t) aw S pd K) (f_X3_faultOf_h22 (g + 47) (g + 45) (fun m105 => f_X3_faultOf_j68 (g + 47) (g + 45) m105) (fun x107 m106 => some (x107, m106)) (fun m108 => f_X3_faultOf_j68 (g + 47) (g + 45) m108) fu (nI i) μ) := by
  have h100 := tp.2.2.2.1
  intro m
  induction m with
  | zero => intro fu i t aw S pd K μ h1 h2; omega
  | succ m ih =>
    intro fu i t aw S pd K μ h1 h2 h3 h4 h5 s
    obtain ⟨fu, rfl⟩ : ∃ q, fu = q + 1 := ⟨fu - 1, by omega⟩
    have c1 : ¬ (100 : Int32) < nI i := nI_nlt (a := 100) (by omega) (by omega)
    obtain ⟨μ1, z1, z2, z3⟩ := skip_eq (tp.pf s.1) h2 s.2.2.2.2.2.1
    have s1 := s.f7 z2 z3
    have hk1 := sk_ge (n := n) (β := β) t
    have hk2 := sk_le (β := β) h2
    have e45 : mI μ1 (g + 45) 1 = nI n := (tp.pf s1.1).2.1
    rw [f_X3_faultOf_h22, if_neg c1, z1, b1_mk, z3, e45]
    generalize sk n β t = p at *
    by_cases hp : p < n
    · rw [if_pos (nI_lt hp (by omega)), nm_mk]
      obtain ⟨r, μ2, y1, y2, y3⟩ := tok_eq tp s1 (by omega) hp
      rw [y1, b2_mk]
      rcases y3 m with ⟨w1, w2⟩ | ⟨w1, aw', S', pd', K', w2, w3, w4⟩
      · rw [if_pos w1]
        exact ⟨μ2, y2, Or.inl ⟨p, hk2, w2, rfl⟩⟩
      · have ht1 := te_gt (β := β) hp
        have ht2 := te_le (β := β) hk2
        rw [if_neg w1, nm_mk, nI_1, w4]
        exact ih fu (i + 1) (te n β p) aw' S' pd' K' μ2 (by omega) ht2 (by omega) (by omega) (by omega) w2
    · obtain rfl : p = n := by omega
      rw [if_neg (nI_nlt (Nat.le_refl _) (by omega)), cR, if_pos (Nat.le_refl _)]
      unfold f_X3_faultOf_j68
      rw [s1.2.2.2.1, s1.2.2.1, e45]
      have haw := s1.2.2.2.2.2.2.2.2.1
      have hS5 := s1.2.2.2.2.2.2.2.2.2
      by_cases ha : aw = 2
      · rw [if_pos ((aw_c (c := 2) (x := 2) haw (by omega) rfl).mpr ha)]
        by_cases hS : S = []
        · subst hS
          rw [List.length_nil, if_pos (show nI 0 = 0 from rfl), if_pos (show aw = 2 ∧ ([] : List (Int32 × Nat)) = [] from ⟨ha, rfl⟩)]
          exact ⟨μ1, s1.1, Or.inr ⟨K, rfl, rfl, s1.2.1, by omega, s1.2.2.2.2.2.2.1⟩⟩
        · have hl : 0 < S.length := List.length_pos_iff.mpr hS
          rw [if_neg (nI_ne0 hl (by omega)), if_neg (fun q => hS q.2)]
          exact ⟨μ1, s1.1, Or.inl ⟨p, Nat.le_refl _, rfl, rfl⟩⟩
      · rw [if_neg (fun q => ha ((aw_c (c := 2) (x := 2) haw (by omega) rfl).mp q)), if_neg (fun q => ha q.1)]
        exact ⟨μ1, s1.1, Or.inl ⟨p, Nat.le_refl _, rfl, rfl⟩⟩
theorem fault_eq {g n : Nat} {β : Nat → Nat} {μ : XMem} (tp : TPC g n β μ) : FRs g n β μ (cR n β (n + 1) (sk n β 0) 0 [] (mI μ (g + 47) 6) []) (f_X3_faultOf (g + 47) (g + 45) μ) := by
  have h100 := tp.2.2.2.1
  unfold f_X3_faultOf
  rw [nm_mk, nm_mk, nm_mk, nm_mk]
  refine fault_loop tp (n + 1) 2000 0 0 0 [] (mI μ (g + 47) 6) [] _ (by omega) (by omega) (by omega) (by omega) (by simp) ?_
  refine ⟨((((PFC.refl g μ).st (by omega)).st (by omega)).st (by omega)).st (by omega), ?_, ?_, ?_, ?_, mI_at, fun k hk => absurd hk (by simp), trivial, by omega, by simp⟩
  · rw [mI_off (by omega), mI_off (by omega), mI_off (by omega), mI_at]; rfl
  · rw [mI_off (by omega), mI_off (by omega), mI_at]; rfl
  · rw [mI_off (by omega), mI_at]; rfl
  · rw [mI_off (by omega), mI_off (by omega), mI_off (by omega), mI_off (by omega)]

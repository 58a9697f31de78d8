/-! PURE LAYER 35: words, needs, emits of the reference; the class's reading as a function -/
def srch (A : Nat → Int32) (x : Int32) : Nat → Nat → Int32 → Int32
  | 0, _, acc => acc
  | m + 1, i, acc => srch A x m (i + 1) (if A i = x then nI i else acc)
theorem srch_loop {a1 N : Nat} {x2 : Int32} {ν : XMem} (hN : mN ν a1 = N) (h100 : N ≤ 100) {k : Int32 → XMem → Option (Int32 × XMem)} : ∀ (m fu i : Nat) (acc : Int32), i + m = N → m < fu → f_X10_wordOf_h70 a1 x2 k fu acc (nI i) ν = k (srch (mI ν a1) x2 m i acc) ν := by
  intro m
  induction m with
  | zero =>
    intro fu i acc hi hf
    obtain ⟨fu, rfl⟩ : ∃ q, fu = q + 1 := ⟨fu - 1, by omega⟩
    rw [f_X10_wordOf_h70, hN, if_pos (nI_le (by omega) (by omega))]
    rfl
  | succ m ih =>
    intro fu i acc hi hf
    obtain ⟨fu, rfl⟩ : ∃ q, fu = q + 1 := ⟨fu - 1, by omega⟩
    rw [f_X10_wordOf_h70, hN, if_neg (nI_ge (by omega) (by omega)), ib_nI (by omega) (by omega), gd_mk, nI_clamp (by omega), nm_mk, nm_mk, nI_1]
    show _ = k (srch (mI ν a1) x2 m (i + 1) (if mI ν a1 i = x2 then nI i else acc)) ν
    by_cases hx : mI ν a1 i = x2
    · rw [if_pos hx, if_pos hx]
      exact ih fu (i + 1) _ (by omega) (by omega)
    · rw [if_neg hx, if_neg hx]
      exact ih fu (i + 1) _ (by omega) (by omega)
theorem w3_loop {h n e a1 : Nat} {β : Nat → Nat} {ν : XMem} (L : LM h (mR ν) (mN ν)) (T : TPM h n β ν) (he : e ≤ n) (e9 : mI ν h 9 = nI e) {k : Int32 → XMem → Option (Int32 × XMem)} : ∀ (m fu i w : Nat), i + m = e → m < fu → (∀ j, i ≤ j → j < e → 97 ≤ β j) → f_X10_wordOf_h36 h a1 k fu (nI w) (nI i) ν = k (nI (w3s β m i w)) ν := by
  have h100 := T.2.2.1
  intro m
  induction m with
  | zero =>
    intro fu i w hi hf hd
    obtain ⟨fu, rfl⟩ : ∃ q, fu = q + 1 := ⟨fu - 1, by omega⟩
    rw [f_X10_wordOf_h36, e9, if_pos (nI_le (by omega) (by omega))]
    rfl
  | succ m ih =>
    intro fu i w hi hf hd
    obtain ⟨fu, rfl⟩ : ∃ q, fu = q + 1 := ⟨fu - 1, by omega⟩
    have h97 := hd i (Nat.le_refl _) (by omega)
    have e32 : (32 : Int32) * nI w = nI (32 * w) := pk_mul 32 w
    have e96 : nI (32 * w + β i) - 96 = nI (32 * w + β i - 96) := pk_sub (b := 96) (by omega)
    rw [f_X10_wordOf_h36, e9, if_neg (nI_ge (by omega) (by omega)), L.1.2.2.2.2.2.1, fo_mk, L.2.2.2.2.2.2.1, ib_nI (by omega) (by omega), gd_mk, nI_clamp (by omega), T.2.1 i (by omega), e32, nI_add, e96, nm_mk, nm_mk, nI_1]
    exact ih fu (i + 1) _ (by omega) (by omega) (fun j h1 h2 => hd j (by omega) h2)
theorem wordOf_eq {h n p a1 N : Nat} {β : Nat → Nat} {ν : XMem} (L : LM h (mR ν) (mN ν)) (T : TPM h n β ν) (hN : mN ν a1 = N) (hN1 : N ≤ 100) (hp : p ≤ n) (e8 : mI ν h 8 = nI p) (e9 : mI ν h 9 = nI (te n β p)) : f_X10_wordOf h a1 ν = some (if lB n β p = true then (if te n β p - p ≤ 4 then srch (mI ν a1) (nI (w3s β (te n β p - p) p 0)) N 0 (-1) else -1) else -1, ν) := by
  have h100 := T.2.2.1
  unfold f_X10_wordOf
  rw [e8, X10_byteAt_eq L T (by omega), b2_mk, X10_isLetter_eq T.2.2.2, b2_mk]
  by_cases hl : lB n β p = true
  · have h1 := te_le (β := β) hp
    have h2 := te_gt (β := β) (lB_t.mp hl).1
    rw [if_pos hl, if_neg one_nz, if_pos hl, e9, e8, pk_sub (by omega)]
    by_cases h4 : te n β p - p ≤ 4
    · have h4' : nI (te n β p - p) ≤ (4 : Int32) := nI_le (b := 4) h4 (by omega)
      rw [if_pos h4', if_pos h4, nm_mk]
      have z1 := w3_loop (a1 := a1) L T h1 e9 (k := fun x107 m106 => f_X10_wordOf_h70 a1 x107 (fun x109 m108 => some (x109, m108)) 2000 (-1) 0 m106) (te n β p - p) 2000 p 0 (by omega) (by omega) (fun j a b => (lB_t.mp (te_let hl j a b)).2.1)
      refine z1.trans ?_
      exact srch_loop hN hN1 (k := fun x109 m108 => some (x109, m108)) N 2000 0 (-1) (by omega) (by omega)
    · have h4' : ¬ nI (te n β p - p) ≤ (4 : Int32) := nI_ge (a := 4) (by omega) (by omega)
      rw [if_neg h4', if_neg h4]
  · rw [if_neg hl, if_pos rfl, if_neg hl]
def nmI (c : Int32) : Int32 := if c = -1 then 0 else if c = -2 then 1 else if c = -3 then 2 else if c = -4 then 3 else if c = -5 then 4 else -1
def acI (c : Int32) : Int32 := if c = -6 then 0 else if c = -7 then 1 else if c = -8 then 2 else if c = -9 then 3 else if c = -10 then 4 else if c = -11 then 5 else if c = -12 then 6 else -1
set_option maxHeartbeats 1000000 in
theorem w_key {β : Nat → Nat} {p L : Nat} (h1 : 1 ≤ L) (h4 : L ≤ 4) (hl : ∀ j, p ≤ j → j < p + L → 97 ≤ β j ∧ β j ≤ 122) : w3s β L p 0 < 2 ^ 31 ∧ (w3s β L p 0 = 16 ↔ w2s β L p 0 = 112) ∧ (w3s β L p 0 = 20 ↔ w2s β L p 0 = 116) ∧ (w3s β L p 0 = 8 ↔ w2s β L p 0 = 104) ∧ (w3s β L p 0 = 3 ↔ w2s β L p 0 = 99) ∧ (w3s β L p 0 = 23 ↔ w2s β L p 0 = 119) ∧
    (w3s β L p 0 = 20141 ↔ w2s β L p 0 = 7566701) ∧ (w3s β L p 0 = 398963 ↔ w2s β L p 0 = 1818588019) ∧ (w3s β L p 0 = 13996 ↔ w2s β L p 0 = 7173484) ∧ (w3s β L p 0 = 525908 ↔ w2s β L p 0 = 1885434484) ∧ (w3s β L p 0 = 13614 ↔ w2s β L p 0 = 7170414) ∧ (w3s β L p 0 = 13368 ↔ w2s β L p 0 = 7168376) ∧ (w3s β L p 0 = 294 ↔ w2s β L p 0 = 26982) := by
  have a := hl p (by omega) (by omega)
  rcases (show L = 1 ∨ L = 2 ∨ L = 3 ∨ L = 4 by omega) with rfl | rfl | rfl | rfl
  · simp only [w2s, w3s]
    refine ⟨?_, ?_, ?_, ?_, ?_, ?_, ?_, ?_, ?_, ?_, ?_, ?_, ?_⟩ <;> omega
  · have b := hl (p + 1) (by omega) (by omega)
    simp only [w2s, w3s]
    refine ⟨?_, ?_, ?_, ?_, ?_, ?_, ?_, ?_, ?_, ?_, ?_, ?_, ?_⟩ <;> omega
  · have b := hl (p + 1) (by omega) (by omega)
    have c := hl (p + 1 + 1) (by omega) (by omega)
    simp only [w2s, w3s]
    refine ⟨?_, ?_, ?_, ?_, ?_, ?_, ?_, ?_, ?_, ?_, ?_, ?_, ?_⟩ <;> omega
  · have b := hl (p + 1) (by omega) (by omega)
    have c := hl (p + 1 + 1) (by omega) (by omega)
    have d := hl (p + 1 + 1 + 1) (by omega) (by omega)
    simp only [w2s, w3s]
    refine ⟨?_, ?_, ?_, ?_, ?_, ?_, ?_, ?_, ?_, ?_, ?_, ?_, ?_⟩ <;> omega
theorem cd_nm (x : Nat) : (if x = 119 then (4 : Int32) else if x = 99 then 3 else if x = 104 then 2 else if x = 116 then 1 else if x = 112 then 0 else -1) = nmI (cdN x) := by
  unfold cdN
  by_cases e1 : x = 99
  · subst e1; decide
  by_cases e2 : x = 104
  · subst e2; decide
  by_cases e3 : x = 112
  · subst e3; decide
  by_cases e4 : x = 116
  · subst e4; decide
  by_cases e5 : x = 119
  · subst e5; decide
  rw [if_neg e5, if_neg e1, if_neg e2, if_neg e4, if_neg e3, if_neg e1, if_neg e2, if_neg e3, if_neg e4, if_neg e5]
  repeat' split
  all_goals decide
theorem cd_ac (x : Nat) : (if x = 26982 then (6 : Int32) else if x = 7168376 then 5 else if x = 7170414 then 4 else if x = 1885434484 then 3 else if x = 7173484 then 2 else if x = 1818588019 then 1 else if x = 7566701 then 0 else -1) = acI (cdN x) := by
  unfold cdN
  by_cases e1 : x = 26982
  · subst e1; decide
  by_cases e2 : x = 7168376
  · subst e2; decide
  by_cases e3 : x = 7170414
  · subst e3; decide
  by_cases e4 : x = 1885434484
  · subst e4; decide
  by_cases e5 : x = 7173484
  · subst e5; decide
  by_cases e6 : x = 1818588019
  · subst e6; decide
  by_cases e7 : x = 7566701
  · subst e7; decide
  rw [if_neg e1, if_neg e2, if_neg e3, if_neg e4, if_neg e5, if_neg e6, if_neg e7, if_neg e1, if_neg e2, if_neg e3, if_neg e5, if_neg e7, if_neg e6, if_neg e4]
  repeat' split
  all_goals decide
theorem nI_w {w c : Nat} (hw : w < 2 ^ 31) (hc : c < 2 ^ 31) : (nI c = nI w) ↔ w = c := ⟨fun q => ((nI_eq hc hw).mp q).symm, fun q => by rw [q]⟩
theorem names_eq {h n p : Nat} {β : Nat → Nat} {ν : XMem} (L : LM h (mR ν) (mN ν)) (T : TPM h n β ν) (C : Rcst h ν) (hp : p ≤ n) (e8 : mI ν h 8 = nI p) (e9 : mI ν h 9 = nI (te n β p)) : f_X10_wordOf h (h + 8) ν = some (if lB n β p = true then nmI (wc n β p) else -1, ν) := by
  rw [wordOf_eq (N := 5) L T L.2.2.2.2.2.2.2.2.1 (by omega) hp e8 e9]
  by_cases hl : lB n β p = true
  · rw [if_pos hl, if_pos hl]
    unfold wc
    by_cases h4 : te n β p - p ≤ 4
    · rw [if_pos h4, if_pos h4, ← cd_nm]
      have h2 := te_gt (β := β) (lB_t.mp hl).1
      obtain ⟨k0, k1, k2, k3, k4, k5, -⟩ := w_key (β := β) (p := p) (L := te n β p - p) (by omega) h4 (fun j a b => (lB_t.mp (te_let hl j a (by omega))).2)
      obtain ⟨⟨c0, c1, c2, c3, c4⟩, -⟩ := C
      generalize w3s β (te n β p - p) p 0 = x3 at *
      generalize w2s β (te n β p - p) p 0 = x2 at *
      have q0 : (mI ν (h + 8) 0 = nI x3) ↔ x2 = 112 := by rw [c0]; exact (nI_w (c := 16) k0 (by omega)).trans k1
      have q1 : (mI ν (h + 8) 1 = nI x3) ↔ x2 = 116 := by rw [c1]; exact (nI_w (c := 20) k0 (by omega)).trans k2
      have q2 : (mI ν (h + 8) 2 = nI x3) ↔ x2 = 104 := by rw [c2]; exact (nI_w (c := 8) k0 (by omega)).trans k3
      have q3 : (mI ν (h + 8) 3 = nI x3) ↔ x2 = 99 := by rw [c3]; exact (nI_w (c := 3) k0 (by omega)).trans k4
      have q4 : (mI ν (h + 8) 4 = nI x3) ↔ x2 = 119 := by rw [c4]; exact (nI_w (c := 23) k0 (by omega)).trans k5
      simp only [srch, Nat.zero_add, Nat.reduceAdd, q0, q1, q2, q3, q4]
      rfl
    · rw [if_neg h4, if_neg h4]
      rfl
  · rw [if_neg hl, if_neg hl]
theorem acts_eq {h n p : Nat} {β : Nat → Nat} {ν : XMem} (L : LM h (mR ν) (mN ν)) (T : TPM h n β ν) (C : Rcst h ν) (hp : p ≤ n) (e8 : mI ν h 8 = nI p) (e9 : mI ν h 9 = nI (te n β p)) : f_X10_wordOf h (h + 9) ν = some (if lB n β p = true then acI (wc n β p) else -1, ν) := by
  rw [wordOf_eq (N := 7) L T L.2.2.2.2.2.2.2.2.2.1 (by omega) hp e8 e9]
  by_cases hl : lB n β p = true
  · rw [if_pos hl, if_pos hl]
    unfold wc
    by_cases h4 : te n β p - p ≤ 4
    · rw [if_pos h4, if_pos h4, ← cd_ac]
      have h2 := te_gt (β := β) (lB_t.mp hl).1
      obtain ⟨k0, -, -, -, -, -, k1, k2, k3, k4, k5, k6, k7⟩ := w_key (β := β) (p := p) (L := te n β p - p) (by omega) h4 (fun j a b => (lB_t.mp (te_let hl j a (by omega))).2)
      obtain ⟨-, c0, c1, c2, c3, c4, c5, c6⟩ := C
      generalize w3s β (te n β p - p) p 0 = x3 at *
      generalize w2s β (te n β p - p) p 0 = x2 at *
      have q0 : (mI ν (h + 9) 0 = nI x3) ↔ x2 = 7566701 := by rw [c0]; exact (nI_w (c := 20141) k0 (by omega)).trans k1
      have q1 : (mI ν (h + 9) 1 = nI x3) ↔ x2 = 1818588019 := by rw [c1]; exact (nI_w (c := 398963) k0 (by omega)).trans k2
      have q2 : (mI ν (h + 9) 2 = nI x3) ↔ x2 = 7173484 := by rw [c2]; exact (nI_w (c := 13996) k0 (by omega)).trans k3
      have q3 : (mI ν (h + 9) 3 = nI x3) ↔ x2 = 1885434484 := by rw [c3]; exact (nI_w (c := 525908) k0 (by omega)).trans k4
      have q4 : (mI ν (h + 9) 4 = nI x3) ↔ x2 = 7170414 := by rw [c4]; exact (nI_w (c := 13614) k0 (by omega)).trans k5
      have q5 : (mI ν (h + 9) 5 = nI x3) ↔ x2 = 7168376 := by rw [c5]; exact (nI_w (c := 13368) k0 (by omega)).trans k6
      have q6 : (mI ν (h + 9) 6 = nI x3) ↔ x2 = 26982 := by rw [c6]; exact (nI_w (c := 294) k0 (by omega)).trans k7
      simp only [srch, Nat.zero_add, Nat.reduceAdd, q0, q1, q2, q3, q4, q5, q6]
      rfl
    · rw [if_neg h4, if_neg h4]
      rfl
  · rw [if_neg hl, if_neg hl]
/-! states of the reference's reading -/
def PF (h : Nat) (ν0 ν : XMem) : Prop := (∀ q, q ≠ h → q ≠ h + 7 → mI ν q = mI ν0 q) ∧ (∀ k, (k < 8 ∨ 12 < k) → mI ν h k = mI ν0 h k) ∧ mL ν = mL ν0 ∧ mR ν = mR ν0 ∧ mN ν = mN ν0
theorem PF.st {h k : Nat} {v : Int32} {ν0 ν : XMem} (x : PF h ν0 ν) (hk : 8 ≤ k ∧ k ≤ 12) : PF h ν0 (sI ν h k v) := ⟨fun q h1 h2 => by rw [mI_ne h1]; exact x.1 q h1 h2, fun j hj => by rw [mI_off (by omega)]; exact x.2.1 j hj, x.2.2⟩
theorem PF.s7 {h k : Nat} {v : Int32} {ν0 ν : XMem} (x : PF h ν0 ν) : PF h ν0 (sI ν (h + 7) k v) := ⟨fun q h1 h2 => by rw [mI_ne h2]; exact x.1 q h1 h2, fun j hj => by rw [mI_ne (by omega)]; exact x.2.1 j hj, x.2.2⟩
theorem PF.nx {h : Nat} {ν0 ν ν' : XMem} (x : PF h ν0 ν) (y : NX h ν ν') : PF h ν0 ν' := ⟨fun q h1 h2 => (y.1 q h1).trans (x.1 q h1 h2), fun j hj => (y.2.1 j (by omega) (by omega)).trans (x.2.1 j hj), y.2.2.1.trans x.2.2.1, y.2.2.2.1.trans x.2.2.2.1, y.2.2.2.2.trans x.2.2.2.2⟩
def Bs (h n : Nat) (β : Nat → Nat) (ν : XMem) : Prop := LM h (mR ν) (mN ν) ∧ TPM h n β ν ∧ Rcst h ν
theorem Bs.pf {h n : Nat} {β : Nat → Nat} {ν0 ν : XMem} (b : Bs h n β ν0) (x : PF h ν0 ν) : Bs h n β ν := ⟨by rw [x.2.2.2.1, x.2.2.2.2]; exact b.1, ⟨by rw [x.2.1 7 (by omega)]; exact b.2.1.1, fun k hk => by rw [x.1 _ (by omega) (by omega)]; exact b.2.1.2.1 k hk, b.2.1.2.2⟩, b.2.2.cg (x.1 _ (by omega) (by omega)) (x.1 _ (by omega) (by omega))⟩
def GS (h n : Nat) (β : Nat → Nat) (ν0 ν : XMem) (p d : Nat) (K : List Int32) : Prop := PF h ν0 ν ∧ mI ν h 8 = nI p ∧ mI ν h 9 = nI (te n β p) ∧ mI ν h 10 = nI d ∧ mI ν h 11 = nI K.length ∧ mI ν h 12 = 0 ∧ (∀ k, k < K.length → mI ν (h + 7) k = enc (K.getD k 0))
def WS (h : Nat) (ν0 ν : XMem) (f : Nat) : Prop := PF h ν0 ν ∧ mI ν h 8 = nI f ∧ mI ν h 12 = 1
theorem GS.need {h n p d : Nat} {β : Nat → Nat} {ν0 ν : XMem} {K : List Int32} (b : Bs h n β ν0) (s : GS h n β ν0 ν p d K) (hp : p ≤ n) : ∃ ν', f_X10_needs h 1 ν = some ν' ∧ GS h n β ν0 ν' (nx n β p) d K := by
  obtain ⟨s1, s2, s3, s4, s5, s6, s7⟩ := s
  have b' := b.pf (s1.st (k := 12) (v := 0) (by omega))
  obtain ⟨ν', z1, z2, z3, z4⟩ := next_eq (t := te n β p) b'.1 b'.2.1 (te_le hp) ((mI_off (by omega)).trans s3)
  refine ⟨ν', ?_, (s1.st (by omega)).nx z2, z3, z4, ?_, ?_, ?_, ?_⟩
  · unfold f_X10_needs
    rw [if_pos s6, if_neg one_nz, nm_mk, mI_at, if_pos rfl, z1, b1_mk]
  · rw [z2.2.1 10 (by omega) (by omega), mI_off (by omega)]; exact s4
  · rw [z2.2.1 11 (by omega) (by omega), mI_off (by omega)]; exact s5
  · rw [z2.2.1 12 (by omega) (by omega), mI_at]
  · intro k hk
    rw [z2.1 _ (by omega), mI_ne (by omega)]
    exact s7 k hk
theorem GS.bad {h n p d : Nat} {β : Nat → Nat} {ν0 ν : XMem} {K : List Int32} (s : GS h n β ν0 ν p d K) : f_X10_needs h 0 ν = some (sI ν h 12 1) ∧ WS h ν0 (sI ν h 12 1) p := by
  obtain ⟨s1, s2, s3, s4, s5, s6, s7⟩ := s
  refine ⟨?_, s1.st (by omega), (mI_off (by omega)).trans s2, mI_at⟩
  unfold f_X10_needs
  rw [if_pos s6, if_pos rfl, nm_mk, mI_at, if_neg one_nz]
theorem GS.emit {h n p d : Nat} {β : Nat → Nat} {ν0 ν : XMem} {K : List Int32} (b : Bs h n β ν0) (s : GS h n β ν0 ν p d K) (hK : K.length ≤ 100) (c : Int32) : ∃ ν', f_X10_emits h (enc c) ν = some ν' ∧ GS h n β ν0 ν' p d (K ++ [c]) := by
  obtain ⟨s1, s2, s3, s4, s5, s6, s7⟩ := s
  have L := (b.pf s1).1
  refine ⟨sI (sI ν (h + 7) K.length (enc c)) h 11 (nI (K.length + 1)), ?_, (s1.s7).st (by omega), ?_, ?_, ?_, ?_, ?_, ?_⟩
  · unfold f_X10_emits
    rw [if_pos s6, L.1.2.2.2.2.2.2.1, fo_mk, s5, L.2.2.2.2.2.2.2.1, ib_nI (by omega) (by omega), gd_mk, nI_clamp (by omega), nm_mk, mI_ne (by omega), s5, nI_1, nm_mk]
  · rw [mI_off (by omega), mI_ne (by omega)]; exact s2
  · rw [mI_off (by omega), mI_ne (by omega)]; exact s3
  · rw [mI_off (by omega), mI_ne (by omega)]; exact s4
  · rw [mI_at, List.length_append]; rfl
  · rw [mI_off (by omega), mI_ne (by omega)]; exact s6
  · intro k hk
    rw [List.length_append] at hk
    have hk' : k < K.length + 1 := hk
    rw [mI_ne (by omega)]
    by_cases e : k = K.length
    · subst e
      rw [mI_at]
      simp
    · rw [mI_off e, s7 k (by omega)]
      congr 1
      simp [List.getD_eq_getElem?_getD, List.getElem?_append_left (show k < K.length by omega)]
theorem GS.dep {h n p d d' : Nat} {β : Nat → Nat} {ν0 ν : XMem} {K : List Int32} (s : GS h n β ν0 ν p d K) : GS h n β ν0 (sI ν h 10 (nI d')) p d' K := by
  obtain ⟨s1, s2, s3, s4, s5, s6, s7⟩ := s
  exact ⟨s1.st (by omega), (mI_off (by omega)).trans s2, (mI_off (by omega)).trans s3, mI_at, (mI_off (by omega)).trans s5, (mI_off (by omega)).trans s6, fun k hk => by rw [mI_ne (by omega)]; exact s7 k hk⟩
theorem WS.need {h f : Nat} {ν0 ν : XMem} (s : WS h ν0 ν f) (x : Int32) : f_X10_needs h x ν = some (sI ν h 12 1) ∧ WS h ν0 (sI ν h 12 1) f := by
  obtain ⟨s1, s2, s3⟩ := s
  refine ⟨?_, s1.st (by omega), (mI_off (by omega)).trans s2, mI_at⟩
  unfold f_X10_needs
  rw [s3, if_neg one_nz, nm_mk, mI_at, if_neg one_nz]
theorem WS.emit {h f : Nat} {ν0 ν : XMem} (s : WS h ν0 ν f) (x : Int32) : f_X10_emits h x ν = some ν := by
  unfold f_X10_emits
  rw [s.2.2, if_neg one_nz]
theorem WS.dep {h f : Nat} {ν0 ν : XMem} {x : Int32} (s : WS h ν0 ν f) : WS h ν0 (sI ν h 10 x) f := ⟨s.1.st (by omega), (mI_off (by omega)).trans s.2.1, (mI_off (by omega)).trans s.2.2⟩
theorem WS.byte {h n f : Nat} {β : Nat → Nat} {ν0 ν : XMem} (b : Bs h n β ν0) (s : WS h ν0 ν f) (hf : f ≤ n) : f_X10_byteAt h (mI ν h 8) ν = some (bt n β f, ν) := by
  have b' := b.pf s.1
  have := b'.2.1.2.2.1
  rw [s.2.1, X10_byteAt_eq b'.1 b'.2.1 (by omega)]
theorem GS.byte {h n p d : Nat} {β : Nat → Nat} {ν0 ν : XMem} {K : List Int32} (b : Bs h n β ν0) (s : GS h n β ν0 ν p d K) (hp : p ≤ n) : f_X10_byteAt h (mI ν h 8) ν = some (bt n β p, ν) := by
  have b' := b.pf s.1
  have := b'.2.1.2.2.1
  rw [s.2.1, X10_byteAt_eq b'.1 b'.2.1 (by omega)]
/-! the class's reading -/
def oE {α γ : Type} (o : Option α) (y : γ) (k : α → γ) : γ := match o with
  | none => y
  | some a => k a
def cmS (S : List (Int32 × Nat)) : Option (List (Int32 × Nat)) := match S with
  | (f, d + 1) :: S' => some ((f, d) :: S')
  | _ => none
def clS (S : List (Int32 × Nat)) : Option (Int32 × List (Int32 × Nat)) := match S with
  | (f, 0) :: S' => some (f, S')
  | _ => none
def cR (n : Nat) (β : Nat → Nat) : Nat → Nat → Nat → List (Int32 × Nat) → Int32 → List Int32 → Nat ⊕ List Int32
  | 0, _, _, _, _, _ => .inl n
  | m + 1, p, aw, S, pd, K =>
    if n ≤ p then (if aw = 2 ∧ S = [] then .inr K else .inl n)
    else if lB n β p = true then (if aw = 0 ∧ ¬ wc n β p = -13 then (if -5 ≤ wc n β p then cR n β m (nx n β p) 2 S pd (K ++ [wc n β p]) else cR n β m (nx n β p) 1 S (wc n β p) K) else .inl p)
    else if dB n β p = true then (if aw = 0 ∧ nv n β p ≤ 9999 then cR n β m (nx n β p) 2 S pd (K ++ [nI (nv n β p)]) else .inl p)
    else if β p = 40 then (if aw = 1 ∧ S.length < 5 then cR n β m (nx n β p) 0 ((pd, if pd = -12 then 2 else 1) :: S) pd K else .inl p)
    else if β p = 44 then (oE (cmS S) (.inl p) fun S' => if aw = 2 then cR n β m (nx n β p) 0 S' pd K else .inl p)
    else if β p = 41 then (oE (clS S) (.inl p) fun z => if aw = 2 then cR n β m (nx n β p) 2 z.2 pd (K ++ [z.1]) else .inl p)
    else .inl p
theorem nl_40 {n p : Nat} {β : Nat → Nat} (h : β p < 48) : ¬ lB n β p = true ∧ ¬ dB n β p = true := ⟨fun q => by have := lB_t.mp q; omega, fun q => by have := dB_t.mp q; omega⟩
theorem cR_open {n m p : Nat} {β : Nat → Nat} {S : List (Int32 × Nat)} {pd : Int32} {K : List Int32} (hp : p < n) (hb : β p = 40) (hS : S.length < 5) : cR n β (m + 1) p 1 S pd K = cR n β m (nx n β p) 0 ((pd, if pd = -12 then 2 else 1) :: S) pd K := by
  obtain ⟨h1, h2⟩ := nl_40 (n := n) (β := β) (p := p) (by omega)
  rw [cR, if_neg (by omega), if_neg h1, if_neg h2, if_pos hb, if_pos ⟨rfl, hS⟩]
theorem cR_open_no {n m p : Nat} {β : Nat → Nat} {S : List (Int32 × Nat)} {pd : Int32} {K : List Int32} (hp : p ≤ n) (hb : ¬ (p < n ∧ β p = 40 ∧ S.length < 5)) : cR n β (m + 1) p 1 S pd K = .inl p := by
  rw [cR]
  by_cases h0 : n ≤ p
  · rw [if_pos h0, if_neg (by omega), show n = p by omega]
  · rw [if_neg h0]
    by_cases h1 : lB n β p = true
    · rw [if_pos h1, if_neg (by omega)]
    · rw [if_neg h1]
      by_cases h2 : dB n β p = true
      · rw [if_pos h2, if_neg (by omega)]
      · rw [if_neg h2]
        by_cases h3 : β p = 40
        · rw [if_pos h3, if_neg (by omega)]
        · rw [if_neg h3]
          by_cases h4 : β p = 44
          · rw [if_pos h4]
            cases cmS S with
            | none => rfl
            | some z => rfl
          · rw [if_neg h4]
            by_cases h5 : β p = 41
            · rw [if_pos h5]
              cases clS S with
              | none => rfl
              | some z => rfl
            · rw [if_neg h5]
theorem cR_comma {n m p d : Nat} {β : Nat → Nat} {S : List (Int32 × Nat)} {f pd : Int32} {K : List Int32} (hp : p < n) (hb : β p = 44) : cR n β (m + 1) p 2 ((f, d + 1) :: S) pd K = cR n β m (nx n β p) 0 ((f, d) :: S) pd K := by
  obtain ⟨h1, h2⟩ := nl_40 (n := n) (β := β) (p := p) (by omega)
  rw [cR, if_neg (by omega), if_neg h1, if_neg h2, if_neg (by omega), if_pos hb]
  rfl
theorem cR_comma_no {n m p d : Nat} {β : Nat → Nat} {S : List (Int32 × Nat)} {f pd : Int32} {K : List Int32} (hp : p ≤ n) (hb : ¬ (p < n ∧ β p = 44)) : cR n β (m + 1) p 2 ((f, d + 1) :: S) pd K = .inl p := by
  rw [cR]
  by_cases h0 : n ≤ p
  · rw [if_pos h0, if_neg (by simp), show n = p by omega]
  · rw [if_neg h0]
    by_cases h1 : lB n β p = true
    · rw [if_pos h1, if_neg (by omega)]
    · rw [if_neg h1]
      by_cases h2 : dB n β p = true
      · rw [if_pos h2, if_neg (by omega)]
      · rw [if_neg h2]
        by_cases h3 : β p = 40
        · rw [if_pos h3, if_neg (by omega)]
        · rw [if_neg h3, if_neg (by omega)]
          by_cases h5 : β p = 41
          · rw [if_pos h5]; rfl
          · rw [if_neg h5]
theorem cR_close {n m p : Nat} {β : Nat → Nat} {S : List (Int32 × Nat)} {f pd : Int32} {K : List Int32} (hp : p < n) (hb : β p = 41) : cR n β (m + 1) p 2 ((f, 0) :: S) pd K = cR n β m (nx n β p) 2 S pd (K ++ [f]) := by
  obtain ⟨h1, h2⟩ := nl_40 (n := n) (β := β) (p := p) (by omega)
  rw [cR, if_neg (by omega), if_neg h1, if_neg h2, if_neg (by omega), if_neg (by omega), if_pos hb]
  rfl
theorem cR_close_no {n m p : Nat} {β : Nat → Nat} {S : List (Int32 × Nat)} {f pd : Int32} {K : List Int32} (hp : p ≤ n) (hb : ¬ (p < n ∧ β p = 41)) : cR n β (m + 1) p 2 ((f, 0) :: S) pd K = .inl p := by
  rw [cR]
  by_cases h0 : n ≤ p
  · rw [if_pos h0, if_neg (by simp), show n = p by omega]
  · rw [if_neg h0]
    by_cases h1 : lB n β p = true
    · rw [if_pos h1, if_neg (by omega)]
    · rw [if_neg h1]
      by_cases h2 : dB n β p = true
      · rw [if_pos h2, if_neg (by omega)]
      · rw [if_neg h2]
        by_cases h3 : β p = 40
        · rw [if_pos h3, if_neg (by omega)]
        · rw [if_neg h3]
          by_cases h4 : β p = 44
          · rw [if_pos h4]; rfl
          · rw [if_neg h4, if_neg (by omega)]
theorem cR_done {n m p : Nat} {β : Nat → Nat} {pd : Int32} {K : List Int32} (hp : p < n) : cR n β (m + 1) p 2 [] pd K = .inl p := by
  rw [cR, if_neg (by omega)]
  by_cases h1 : lB n β p = true
  · rw [if_pos h1, if_neg (by omega)]
  · rw [if_neg h1]
    by_cases h2 : dB n β p = true
    · rw [if_pos h2, if_neg (by omega)]
    · rw [if_neg h2]
      by_cases h3 : β p = 40
      · rw [if_pos h3, if_neg (by omega)]
      · rw [if_neg h3]
        by_cases h4 : β p = 44
        · rw [if_pos h4]; rfl
        · rw [if_neg h4]
          by_cases h5 : β p = 41
          · rw [if_pos h5]; rfl
          · rw [if_neg h5]

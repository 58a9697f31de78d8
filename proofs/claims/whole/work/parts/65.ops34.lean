/-! PURE LAYER 34: tokens of a tape; the reference's words on them -/
def bt (n : Nat) (β : Nat → Nat) (p : Nat) : Int32 := if p < n then nI (β p) else -1
def lB (n : Nat) (β : Nat → Nat) (p : Nat) : Bool := decide (p < n) && (decide (97 ≤ β p) && decide (β p ≤ 122))
def dB (n : Nat) (β : Nat → Nat) (p : Nat) : Bool := decide (p < n) && (decide (48 ≤ β p) && decide (β p ≤ 57))
def kB (n : Nat) (β : Nat → Nat) (p : Nat) : Bool := decide (p < n) && decide (β p = 32)
theorem lB_t {n p : Nat} {β : Nat → Nat} : lB n β p = true ↔ p < n ∧ 97 ≤ β p ∧ β p ≤ 122 := by unfold lB; simp
theorem dB_t {n p : Nat} {β : Nat → Nat} : dB n β p = true ↔ p < n ∧ 48 ≤ β p ∧ β p ≤ 57 := by unfold dB; simp
theorem kB_t {n p : Nat} {β : Nat → Nat} : kB n β p = true ↔ p < n ∧ β p = 32 := by unfold kB; simp
def ad (q : Nat → Bool) : Nat → Nat → Nat
  | 0, p => p
  | m + 1, p => if q p = true then ad q m (p + 1) else p
def an (q : Nat → Bool) (n p : Nat) : Nat := ad q (n - p) p
theorem an_t {q : Nat → Bool} {n p : Nat} (hq : q p = true) (hp : p < n) : an q n p = an q n (p + 1) := by
  unfold an
  rw [show n - p = (n - (p + 1)) + 1 by omega, ad, if_pos hq]
theorem an_f {q : Nat → Bool} {n p : Nat} (hq : ¬ q p = true) : an q n p = p := by
  unfold an
  cases n - p with
  | zero => rfl
  | succ m => rw [ad, if_neg hq]
theorem an_ge {q : Nat → Bool} {n : Nat} (p : Nat) : p ≤ an q n p := by
  unfold an
  generalize n - p = m
  induction m generalizing p with
  | zero => exact Nat.le_refl _
  | succ m ih =>
    rw [ad]
    split
    · exact Nat.le_trans (Nat.le_succ p) (ih (p + 1))
    · exact Nat.le_refl _
theorem an_le {q : Nat → Bool} {n p : Nat} (hp : p ≤ n) : an q n p ≤ n := by
  unfold an
  generalize hm : n - p = m
  induction m generalizing p with
  | zero => exact hp
  | succ m ih =>
    rw [ad]
    split
    · exact ih (p := p + 1) (by omega) (by omega)
    · exact hp
theorem an_stop {q : Nat → Bool} {n p : Nat} (hq : ∀ k, q k = true → k < n) : ¬ q (an q n p) = true := by
  unfold an
  generalize hm : n - p = m
  induction m generalizing p with
  | zero =>
    intro h
    have := hq p h
    omega
  | succ m ih =>
    rw [ad]
    by_cases h : q p = true
    · rw [if_pos h]
      exact ih (p := p + 1) (by omega)
    · rw [if_neg h]
      exact h
theorem an_in {q : Nat → Bool} {n p k : Nat} (h1 : p ≤ k) (h2 : k < an q n p) : q k = true := by
  unfold an at h2
  generalize n - p = m at h2
  induction m generalizing p with
  | zero =>
    have h2' : k < p := h2
    omega
  | succ m ih =>
    rw [ad] at h2
    by_cases h : q p = true
    · rw [if_pos h] at h2
      by_cases e : k = p
      · rw [e]; exact h
      · exact ih (by omega) h2
    · rw [if_neg h] at h2
      omega
def sk (n : Nat) (β : Nat → Nat) (p : Nat) : Nat := an (kB n β) n p
def te (n : Nat) (β : Nat → Nat) (p : Nat) : Nat := if p < n then (if lB n β p = true then an (lB n β) n (p + 1) else if dB n β p = true then an (dB n β) n (p + 1) else p + 1) else p
def nx (n : Nat) (β : Nat → Nat) (p : Nat) : Nat := sk n β (te n β p)
theorem sk_le {n p : Nat} {β : Nat → Nat} (h : p ≤ n) : sk n β p ≤ n := an_le h
theorem sk_ge {n : Nat} {β : Nat → Nat} (p : Nat) : p ≤ sk n β p := an_ge p
theorem te_le {n p : Nat} {β : Nat → Nat} (h : p ≤ n) : te n β p ≤ n := by
  unfold te
  repeat' split
  · exact an_le (by omega)
  · exact an_le (by omega)
  · omega
  · exact h
theorem te_gt {n p : Nat} {β : Nat → Nat} (h : p < n) : p < te n β p := by
  unfold te
  rw [if_pos h]
  repeat' split
  · exact an_ge (p + 1)
  · exact an_ge (p + 1)
  · omega
theorem nx_le {n p : Nat} {β : Nat → Nat} (h : p ≤ n) : nx n β p ≤ n := sk_le (te_le h)
theorem nx_gt {n p : Nat} {β : Nat → Nat} (h : p < n) : p < nx n β p := Nat.lt_of_lt_of_le (te_gt h) (sk_ge _)
/-- the value of a number, of a word in both ways -/
def nvs (β : Nat → Nat) : Nat → Nat → Nat → Nat
  | 0, _, v => v
  | m + 1, i, v => nvs β m (i + 1) (if 10 * v + β i - 48 ≤ 10000 then 10 * v + β i - 48 else 10000)
theorem nvs_le (β : Nat → Nat) : ∀ (m i v : Nat), v ≤ 10000 → nvs β m i v ≤ 10000 := by
  intro m
  induction m with
  | zero => intro i v h; exact h
  | succ m ih => intro i v h; exact ih _ _ (by split <;> omega)
def w2s (β : Nat → Nat) : Nat → Nat → Nat → Nat
  | 0, _, w => w
  | m + 1, i, w => w2s β m (i + 1) (w * 256 + β i)
def w3s (β : Nat → Nat) : Nat → Nat → Nat → Nat
  | 0, _, w => w
  | m + 1, i, w => w3s β m (i + 1) (32 * w + β i - 96)
def cdN (x : Nat) : Int32 := if x = 99 then -4 else if x = 104 then -3 else if x = 112 then -1 else if x = 116 then -2 else if x = 119 then -5 else if x = 26982 then -12 else if x = 7168376 then -11 else if x = 7170414 then -10 else if x = 7173484 then -8 else if x = 7566701 then -6 else if x = 1818588019 then -7 else if x = 1885434484 then -9 else -13
def wc (n : Nat) (β : Nat → Nat) (p : Nat) : Int32 := if te n β p - p ≤ 4 then cdN (w2s β (te n β p - p) p 0) else -13
def nv (n : Nat) (β : Nat → Nat) (p : Nat) : Nat := nvs β (te n β p - p) p 0
/-! the reference -/
def TPM (h n : Nat) (β : Nat → Nat) (ν : XMem) : Prop := mI ν h 7 = nI n ∧ (∀ k, k < n → mI ν (h + 6) k = nI (β k)) ∧ n ≤ 100 ∧ ∀ k, k < n → β k ≤ 255
theorem X10_byteAt_eq {h n p : Nat} {β : Nat → Nat} {ν : XMem} (L : LM h (mR ν) (mN ν)) (T : TPM h n β ν) (hp : p < 2 ^ 31) : f_X10_byteAt h (nI p) ν = some (bt n β p, ν) := by
  obtain ⟨t1, t2, t3, t4⟩ := T
  unfold f_X10_byteAt bt
  rw [t1]
  by_cases h1 : p < n
  · rw [if_neg (nI_ge h1 (by omega)), if_pos h1, L.1.2.2.2.2.2.1, fo_mk, L.2.2.2.2.2.2.1, ib_nI (by omega) (by omega), gd_mk, nI_clamp hp, t2 p h1]
  · rw [if_pos (nI_le (by omega) hp), if_neg h1]
theorem wi_b {b lo hi : Nat} (h1 : b ≤ 255) (h2 : lo ≤ 255) (h3 : hi ≤ 255) : wi (nI b) (nI lo) (nI hi) = if lo ≤ b ∧ b ≤ hi then 1 else 0 := by
  unfold wi
  by_cases a : b < lo
  · rw [if_pos (nI_lt a (by omega)), if_neg (by omega)]
  · rw [if_neg (nI_nlt (by omega) (by omega))]
    by_cases c : hi < b
    · rw [if_pos (nI_lt c (by omega)), if_neg (by omega)]
    · rw [if_neg (nI_nlt (by omega) (by omega)), if_pos (by omega)]
theorem wi_lB {n p : Nat} {β : Nat → Nat} (hb : ∀ k, k < n → β k ≤ 255) : wi (bt n β p) 97 122 = if lB n β p = true then 1 else 0 := by
  unfold bt
  by_cases h1 : p < n
  · rw [if_pos h1]
    have := wi_b (b := β p) (lo := 97) (hi := 122) (hb p h1) (by omega) (by omega)
    refine this.trans ?_
    by_cases c : 97 ≤ β p ∧ β p ≤ 122
    · rw [if_pos c, if_pos (lB_t.mpr ⟨h1, c⟩)]
    · rw [if_neg c, if_neg (fun q => c (lB_t.mp q).2)]
  · rw [if_neg h1, if_neg (fun q => h1 (lB_t.mp q).1)]
    decide
theorem wi_dB {n p : Nat} {β : Nat → Nat} (hb : ∀ k, k < n → β k ≤ 255) : wi (bt n β p) 48 57 = if dB n β p = true then 1 else 0 := by
  unfold bt
  by_cases h1 : p < n
  · rw [if_pos h1]
    have := wi_b (b := β p) (lo := 48) (hi := 57) (hb p h1) (by omega) (by omega)
    refine this.trans ?_
    by_cases c : 48 ≤ β p ∧ β p ≤ 57
    · rw [if_pos c, if_pos (dB_t.mpr ⟨h1, c⟩)]
    · rw [if_neg c, if_neg (fun q => c (dB_t.mp q).2)]
  · rw [if_neg h1, if_neg (fun q => h1 (dB_t.mp q).1)]
    decide
theorem bt_eq {n p c : Nat} {β : Nat → Nat} (hb : ∀ k, k < n → β k ≤ 255) (hc : c ≤ 255) : bt n β p = nI c ↔ p < n ∧ β p = c := by
  unfold bt
  by_cases h1 : p < n
  · rw [if_pos h1]
    have := hb p h1
    exact ⟨fun q => ⟨h1, (nI_eq (by omega) (by omega)).mp q⟩, fun q => by rw [q.2]⟩
  · rw [if_neg h1]
    refine ⟨fun q => ?_, fun q => absurd q.1 h1⟩
    exfalso
    exact nI_pos (n := c) (by omega) (by rw [← q]; decide)
theorem X10_isLetter_eq {n p : Nat} {β : Nat → Nat} {ν : XMem} (hb : ∀ k, k < n → β k ≤ 255) : f_X10_isLetter (bt n β p) ν = some (if lB n β p = true then 1 else 0, ν) := by
  unfold f_X10_isLetter
  rw [X10_within_eq, b2_mk, wi_lB hb]
theorem X10_isDigit_eq {n p : Nat} {β : Nat → Nat} {ν : XMem} (hb : ∀ k, k < n → β k ≤ 255) : f_X10_isDigit (bt n β p) ν = some (if dB n β p = true then 1 else 0, ν) := by
  unfold f_X10_isDigit
  rw [X10_within_eq, b2_mk, wi_dB hb]
/-- only from and to were written -/
def NX (h : Nat) (ν ν' : XMem) : Prop := (∀ q, q ≠ h → mI ν' q = mI ν q) ∧ (∀ k, k ≠ 8 → k ≠ 9 → mI ν' h k = mI ν h k) ∧ mL ν' = mL ν ∧ mR ν' = mR ν ∧ mN ν' = mN ν
theorem NX.refl (h : Nat) (ν : XMem) : NX h ν ν := ⟨fun _ _ => rfl, fun _ _ _ => rfl, rfl, rfl, rfl⟩
theorem NX.trans {h : Nat} {ν ν' ν'' : XMem} (x : NX h ν ν') (y : NX h ν' ν'') : NX h ν ν'' :=
  ⟨fun q h1 => (y.1 q h1).trans (x.1 q h1), fun k h1 h2 => (y.2.1 k h1 h2).trans (x.2.1 k h1 h2), y.2.2.1.trans x.2.2.1, y.2.2.2.1.trans x.2.2.2.1, y.2.2.2.2.trans x.2.2.2.2⟩
theorem NX.st {h k : Nat} {v : Int32} {ν : XMem} (hk : k = 8 ∨ k = 9) : NX h ν (sI ν h k v) := ⟨fun q hq => mI_ne hq, fun j h1 h2 => mI_off (by omega), rfl, rfl, rfl⟩
theorem NX.L {h : Nat} {ν ν' : XMem} (x : NX h ν ν') (L : LM h (mR ν) (mN ν)) : LM h (mR ν') (mN ν') := by rw [x.2.2.2.1, x.2.2.2.2]; exact L
theorem TPM.nx {h n : Nat} {β : Nat → Nat} {ν ν' : XMem} (T : TPM h n β ν) (x : NX h ν ν') : TPM h n β ν' := ⟨by rw [x.2.1 7 (by omega) (by omega)]; exact T.1, fun k hk => by rw [x.1 _ (by omega)]; exact T.2.1 k hk, T.2.2⟩
theorem next_h8 {h n : Nat} {β : Nat → Nat} {k : XMem → Option XMem} : ∀ (m fu p : Nat) (ν : XMem), p + m = n → m < fu → LM h (mR ν) (mN ν) → TPM h n β ν → mI ν h 8 = nI p → ∃ ν', f_X10_next_h8 h k fu ν = k ν' ∧ NX h ν ν' ∧ mI ν' h 8 = nI (sk n β p) := by
  intro m
  induction m with
  | zero =>
    intro fu p ν hp hf L T e8
    obtain ⟨fu, rfl⟩ : ∃ q, fu = q + 1 := ⟨fu - 1, by omega⟩
    have hq : ¬ kB n β p = true := fun q => by have := (kB_t.mp q).1; omega
    have hb : ¬ bt n β p = 32 := fun q => by have := ((bt_eq (c := 32) T.2.2.2 (by omega)).mp q).1; omega
    have h100 := T.2.2.1
    refine ⟨ν, ?_, NX.refl h ν, by unfold sk; rw [an_f hq]; exact e8⟩
    rw [f_X10_next_h8, e8, X10_byteAt_eq L T (by omega), b2_mk, if_neg hb]
  | succ m ih =>
    intro fu p ν hp hf L T e8
    obtain ⟨fu, rfl⟩ : ∃ q, fu = q + 1 := ⟨fu - 1, by omega⟩
    have h100 := T.2.2.1
    by_cases hq : kB n β p = true
    · have hb : bt n β p = 32 := (bt_eq (c := 32) T.2.2.2 (by omega)).mpr (kB_t.mp hq)
      have x1 : NX h ν (sI ν h 8 (nI (p + 1))) := NX.st (Or.inl rfl)
      obtain ⟨ν', z1, z2, z3⟩ := ih fu (p + 1) (sI ν h 8 (nI (p + 1))) (by omega) (by omega) L (T.nx x1) mI_at
      refine ⟨ν', ?_, x1.trans z2, by unfold sk; rw [an_t hq (by omega)]; exact z3⟩
      rw [f_X10_next_h8, e8, X10_byteAt_eq L T (by omega), b2_mk, if_pos hb, e8, nI_1, nm_mk]
      exact z1
    · have hb : ¬ bt n β p = 32 := fun q => hq (kB_t.mpr ((bt_eq (c := 32) T.2.2.2 (by omega)).mp q))
      refine ⟨ν, ?_, NX.refl h ν, by unfold sk; rw [an_f hq]; exact e8⟩
      rw [f_X10_next_h8, e8, X10_byteAt_eq L T (by omega), b2_mk, if_neg hb]
theorem next_hL {h n : Nat} {β : Nat → Nat} {k : XMem → Option XMem} : ∀ (m fu p : Nat) (ν : XMem), p + m = n → m < fu → LM h (mR ν) (mN ν) → TPM h n β ν → mI ν h 9 = nI p → ∃ ν', f_X10_next_h86 h 1 0 k fu ν = k ν' ∧ NX h ν ν' ∧ mI ν' h 8 = mI ν h 8 ∧ mI ν' h 9 = nI (an (lB n β) n p) := by
  intro m
  induction m with
  | zero =>
    intro fu p ν hp hf L T e9
    obtain ⟨fu, rfl⟩ : ∃ q, fu = q + 1 := ⟨fu - 1, by omega⟩
    have hq : ¬ lB n β p = true := fun q => by have := (lB_t.mp q).1; omega
    have h100 := T.2.2.1
    refine ⟨ν, ?_, NX.refl h ν, rfl, by rw [an_f hq]; exact e9⟩
    rw [f_X10_next_h86, if_neg one_nz, e9, X10_byteAt_eq L T (by omega), b2_mk, X10_isLetter_eq T.2.2.2, b2_mk, if_neg hq, if_pos rfl, if_pos rfl]
  | succ m ih =>
    intro fu p ν hp hf L T e9
    obtain ⟨fu, rfl⟩ : ∃ q, fu = q + 1 := ⟨fu - 1, by omega⟩
    have h100 := T.2.2.1
    by_cases hq : lB n β p = true
    · have x1 : NX h ν (sI ν h 9 (nI (p + 1))) := NX.st (Or.inr rfl)
      obtain ⟨ν', z1, z2, z0, z3⟩ := ih fu (p + 1) (sI ν h 9 (nI (p + 1))) (by omega) (by omega) L (T.nx x1) mI_at
      refine ⟨ν', ?_, x1.trans z2, z0.trans (mI_off (by omega)), by rw [an_t hq (by omega)]; exact z3⟩
      rw [f_X10_next_h86, if_neg one_nz, e9, X10_byteAt_eq L T (by omega), b2_mk, X10_isLetter_eq T.2.2.2, b2_mk, if_pos hq, if_neg one_nz, e9, nI_1, nm_mk]
      exact z1
    · refine ⟨ν, ?_, NX.refl h ν, rfl, by rw [an_f hq]; exact e9⟩
      rw [f_X10_next_h86, if_neg one_nz, e9, X10_byteAt_eq L T (by omega), b2_mk, X10_isLetter_eq T.2.2.2, b2_mk, if_neg hq, if_pos rfl, if_pos rfl]
theorem next_hD {h n : Nat} {β : Nat → Nat} {k : XMem → Option XMem} : ∀ (m fu p : Nat) (ν : XMem), p + m = n → m < fu → LM h (mR ν) (mN ν) → TPM h n β ν → mI ν h 9 = nI p → ∃ ν', f_X10_next_h86 h 0 1 k fu ν = k ν' ∧ NX h ν ν' ∧ mI ν' h 8 = mI ν h 8 ∧ mI ν' h 9 = nI (an (dB n β) n p) := by
  intro m
  induction m with
  | zero =>
    intro fu p ν hp hf L T e9
    obtain ⟨fu, rfl⟩ : ∃ q, fu = q + 1 := ⟨fu - 1, by omega⟩
    have hq : ¬ dB n β p = true := fun q => by have := (dB_t.mp q).1; omega
    have h100 := T.2.2.1
    refine ⟨ν, ?_, NX.refl h ν, rfl, by rw [an_f hq]; exact e9⟩
    rw [f_X10_next_h86, if_pos rfl, if_neg one_nz, e9, X10_byteAt_eq L T (by omega), b2_mk, X10_isDigit_eq T.2.2.2, b2_mk, if_neg hq, if_pos rfl]
  | succ m ih =>
    intro fu p ν hp hf L T e9
    obtain ⟨fu, rfl⟩ : ∃ q, fu = q + 1 := ⟨fu - 1, by omega⟩
    have h100 := T.2.2.1
    by_cases hq : dB n β p = true
    · have x1 : NX h ν (sI ν h 9 (nI (p + 1))) := NX.st (Or.inr rfl)
      obtain ⟨ν', z1, z2, z0, z3⟩ := ih fu (p + 1) (sI ν h 9 (nI (p + 1))) (by omega) (by omega) L (T.nx x1) mI_at
      refine ⟨ν', ?_, x1.trans z2, z0.trans (mI_off (by omega)), by rw [an_t hq (by omega)]; exact z3⟩
      rw [f_X10_next_h86, if_pos rfl, if_neg one_nz, e9, X10_byteAt_eq L T (by omega), b2_mk, X10_isDigit_eq T.2.2.2, b2_mk, if_pos hq, if_neg one_nz, e9, nI_1, nm_mk]
      exact z1
    · refine ⟨ν, ?_, NX.refl h ν, rfl, by rw [an_f hq]; exact e9⟩
      rw [f_X10_next_h86, if_pos rfl, if_neg one_nz, e9, X10_byteAt_eq L T (by omega), b2_mk, X10_isDigit_eq T.2.2.2, b2_mk, if_neg hq, if_pos rfl]
theorem next_eq {h n t : Nat} {β : Nat → Nat} {ν : XMem} (L : LM h (mR ν) (mN ν)) (T : TPM h n β ν) (ht : t ≤ n) (e9 : mI ν h 9 = nI t) : ∃ ν', f_X10_next h ν = some ν' ∧ NX h ν ν' ∧ mI ν' h 8 = nI (sk n β t) ∧ mI ν' h 9 = nI (te n β (sk n β t)) := by
  unfold f_X10_next
  rw [e9, nm_mk]
  have h100 := T.2.2.1
  have x0 : NX h ν (sI ν h 8 (nI t)) := NX.st (Or.inl rfl)
  obtain ⟨ν1, z1, z2, z3⟩ := next_h8 (k := fun m102 => b2 (f_X10_byteAt h (mI m102 h 8) m102) fun r104 m103 => b2 (f_X10_isLetter r104 m103) fun r106 m105 => b2 (f_X10_byteAt h (mI m105 h 8) m105) fun r108 m107 => b2 (f_X10_isDigit r108 m107) fun r110 m109 => if (mI m109 h 7) ≤ (mI m109 h 8) then (f_X10_next_j83 h r106 r110 (mI m109 h 8) h m109) else (f_X10_next_j83 h r106 r110 ((mI m109 h 8) + 1) h m109)) (n - t) 2000 t (sI ν h 8 (nI t)) (by omega) (by omega) L (T.nx x0) mI_at
  have x1 := x0.trans z2
  have L1 := x1.L L
  have T1 := T.nx x1
  have hs := sk_le (β := β) ht
  generalize sk n β t = p at *
  suffices S : ∃ ν', (b2 (f_X10_byteAt h (mI ν1 h 8) ν1) fun r104 m103 => b2 (f_X10_isLetter r104 m103) fun r106 m105 => b2 (f_X10_byteAt h (mI m105 h 8) m105) fun r108 m107 => b2 (f_X10_isDigit r108 m107) fun r110 m109 => if (mI m109 h 7) ≤ (mI m109 h 8) then (f_X10_next_j83 h r106 r110 (mI m109 h 8) h m109) else (f_X10_next_j83 h r106 r110 ((mI m109 h 8) + 1) h m109)) = some ν' ∧ NX h ν1 ν' ∧ mI ν' h 8 = nI p ∧ mI ν' h 9 = nI (te n β p) by
    obtain ⟨ν', s1, s2, s3, s4⟩ := S
    exact ⟨ν', z1.trans s1, x1.trans s2, s3, s4⟩
  rw [z3, X10_byteAt_eq L1 T1 (by omega), b2_mk, X10_isLetter_eq T1.2.2.2, b2_mk, z3, X10_byteAt_eq L1 T1 (by omega), b2_mk, X10_isDigit_eq T1.2.2.2, b2_mk, T1.1, z3]
  unfold te
  by_cases hp : p < n
  · rw [if_neg (nI_ge hp (by omega)), if_pos hp, nI_1]
    unfold f_X10_next_j83
    rw [nm_mk]
    have y1 : NX h ν1 (sI ν1 h 9 (nI (p + 1))) := NX.st (Or.inr rfl)
    by_cases hl : lB n β p = true
    · have hd : ¬ dB n β p = true := fun q => by have := dB_t.mp q; have := lB_t.mp hl; omega
      rw [if_pos hl, if_neg hd, if_pos hl]
      obtain ⟨ν', s1, s2, s0, s3⟩ := next_hL (β := β) (k := fun m115 => some m115) (n - (p + 1)) 2000 (p + 1) (sI ν1 h 9 (nI (p + 1))) (by omega) (by omega) L1 (T1.nx y1) mI_at
      exact ⟨ν', s1, y1.trans s2, s0.trans ((mI_off (by omega)).trans z3), s3⟩
    · rw [if_neg hl, if_neg hl]
      by_cases hd : dB n β p = true
      · rw [if_pos hd, if_pos hd]
        obtain ⟨ν', s1, s2, s0, s3⟩ := next_hD (β := β) (k := fun m115 => some m115) (n - (p + 1)) 2000 (p + 1) (sI ν1 h 9 (nI (p + 1))) (by omega) (by omega) L1 (T1.nx y1) mI_at
        exact ⟨ν', s1, y1.trans s2, s0.trans ((mI_off (by omega)).trans z3), s3⟩
      · rw [if_neg hd, if_neg hd]
        refine ⟨sI ν1 h 9 (nI (p + 1)), ?_, y1, (mI_off (by omega)).trans z3, mI_at⟩
        have key : ∀ (fu : Nat) (mu : XMem), f_X10_next_h86 h 0 0 (fun m115 => some m115) (fu + 1) mu = some mu := by
          intro fu mu
          rw [f_X10_next_h86, if_pos rfl, if_pos rfl]
        exact key 1999 _
  · rw [if_pos (nI_le (by omega) (by omega)), if_neg hp]
    unfold f_X10_next_j83
    rw [nm_mk]
    have hl : ¬ lB n β p = true := fun q => hp (lB_t.mp q).1
    have hd : ¬ dB n β p = true := fun q => hp (dB_t.mp q).1
    rw [if_neg hl, if_neg hd]
    refine ⟨sI ν1 h 9 (nI p), ?_, NX.st (Or.inr rfl), (mI_off (by omega)).trans z3, mI_at⟩
    have key : ∀ (fu : Nat) (mu : XMem), f_X10_next_h86 h 0 0 (fun m115 => some m115) (fu + 1) mu = some mu := by
      intro fu mu
      rw [f_X10_next_h86, if_pos rfl, if_pos rfl]
    exact key 1999 _
theorem num_loop {h n e : Nat} {β : Nat → Nat} {ν : XMem} (L : LM h (mR ν) (mN ν)) (T : TPM h n β ν) (he : e ≤ n) (e9 : mI ν h 9 = nI e) {k : Int32 → XMem → Option (Int32 × XMem)} : ∀ (m fu i v : Nat), i + m = e → m < fu → v ≤ 10000 → (∀ j, i ≤ j → j < e → 48 ≤ β j) → f_X10_number_h7 h k fu (nI v) (nI i) ν = k (nI (nvs β m i v)) ν := by
  have h100 := T.2.2.1
  intro m
  induction m with
  | zero =>
    intro fu i v hi hf hv hd
    obtain ⟨fu, rfl⟩ : ∃ q, fu = q + 1 := ⟨fu - 1, by omega⟩
    rw [f_X10_number_h7, e9, if_pos (nI_le (by omega) (by omega))]
    rfl
  | succ m ih =>
    intro fu i v hi hf hv hd
    obtain ⟨fu, rfl⟩ : ∃ q, fu = q + 1 := ⟨fu - 1, by omega⟩
    have hb := T.2.2.2 i (by omega)
    have h48 := hd i (Nat.le_refl _) (by omega)
    have e10 : (10 : Int32) * nI v = nI (10 * v) := pk_mul 10 v
    have e48 : nI (10 * v + β i) - 48 = nI (10 * v + β i - 48) := pk_sub (b := 48) (by omega)
    have ih' := fun y hy => ih fu (i + 1) y (by omega) (by omega) hy (fun j h1 h2 => hd j (by omega) h2)
    rw [f_X10_number_h7, e9, if_neg (nI_ge (by omega) (by omega)), L.1.2.2.2.2.2.1, fo_mk, L.2.2.2.2.2.2.1, ib_nI (by omega) (by omega), gd_mk, nI_clamp (by omega), T.2.1 i (by omega), e10, nI_add, e48, nm_mk, nm_mk, nm_mk, nI_1]
    show _ = k (nI (nvs β m (i + 1) (if 10 * v + β i - 48 ≤ 10000 then 10 * v + β i - 48 else 10000))) ν
    by_cases hx : 10 * v + β i - 48 ≤ 10000
    · have hx' : nI (10 * v + β i - 48) ≤ (10000 : Int32) := nI_le (b := 10000) hx (by omega)
      rw [if_pos hx', if_pos hx]
      exact ih' _ hx
    · have hx' : ¬ nI (10 * v + β i - 48) ≤ (10000 : Int32) := nI_ge (a := 10000) (by omega) (by omega)
      rw [if_neg hx', if_neg hx]
      exact ih' 10000 (by omega)
theorem te_dig {n p : Nat} {β : Nat → Nat} (hd : dB n β p = true) : ∀ j, p ≤ j → j < te n β p → dB n β j = true := by
  intro j h1 h2
  have hp := (dB_t.mp hd).1
  have hl : ¬ lB n β p = true := fun q => by have := dB_t.mp hd; have := lB_t.mp q; omega
  unfold te at h2
  rw [if_pos hp, if_neg hl, if_pos hd] at h2
  by_cases e : j = p
  · rw [e]; exact hd
  · exact an_in (p := p + 1) (by omega) h2
theorem te_let {n p : Nat} {β : Nat → Nat} (hl : lB n β p = true) : ∀ j, p ≤ j → j < te n β p → lB n β j = true := by
  intro j h1 h2
  have hp := (lB_t.mp hl).1
  unfold te at h2
  rw [if_pos hp, if_pos hl] at h2
  by_cases e : j = p
  · rw [e]; exact hl
  · exact an_in (p := p + 1) (by omega) h2
theorem number_eq {h n p : Nat} {β : Nat → Nat} {ν : XMem} (L : LM h (mR ν) (mN ν)) (T : TPM h n β ν) (hp : p ≤ n) (hd : dB n β p = true) (e8 : mI ν h 8 = nI p) (e9 : mI ν h 9 = nI (te n β p)) : f_X10_number h ν = some (nI (nv n β p), ν) := by
  unfold f_X10_number
  rw [e8, nm_mk]
  have h1 := te_le (β := β) hp
  have h2 := te_gt (β := β) (dB_t.mp hd).1
  have h100 := T.2.2.1
  exact num_loop L T h1 e9 (k := fun x103 m102 => some (x103, m102)) (te n β p - p) 2000 p 0 (by omega) (by omega) (by omega) (fun j a b => (dB_t.mp (te_dig hd j a b)).2.1)

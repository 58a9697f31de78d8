/-! PURE LAYER 37: the class reads a tape (px_or, px_sum begun from the kit's starting texts) -/
theorem px_or (a b : Nat) : nI a ||| nI b = nI (a ||| b) := by
  apply Int32.toBitVec_inj.1
  show BitVec.ofNat 32 a ||| BitVec.ofNat 32 b = BitVec.ofNat 32 (a ||| b)
  apply BitVec.eq_of_getLsbD_eq
  intro i hi
  simp [hi]
theorem px_sum {a k : Nat} (b : Nat) (h : a < 2 ^ k) : nI (2 ^ k * b) ||| nI a = nI (2 ^ k * b + a) := by rw [px_or, Nat.two_pow_add_eq_or_of_lt h]
theorem px_word {w b : Nat} (hw : w < 2 ^ 24) (hb : b ≤ 255) : (nI w <<< ((8 : Int32) &&& 31)) ||| nI b = nI (w * 256 + b) := by
  rw [pk_shlN (n := w) ((8 : Int32) &&& 31) 8 (by decide) (by omega), Nat.mul_comm w (2 ^ 8), px_sum w (by omega), show 2 ^ 8 * w = w * 256 by omega]
def PFC (g : Nat) (μ0 μ : XMem) : Prop := (∀ q, (q < g + 47 ∨ g + 51 ≤ q) → mI μ q = mI μ0 q) ∧ mL μ = mL μ0 ∧ mR μ = mR μ0 ∧ mN μ = mN μ0 ∧ mT μ = mT μ0 ∧ mZ μ = mZ μ0
theorem PFC.refl (g : Nat) (μ : XMem) : PFC g μ μ := ⟨fun _ _ => rfl, rfl, rfl, rfl, rfl, rfl⟩
theorem PFC.st {g a k : Nat} {v : Int32} {μ0 μ : XMem} (x : PFC g μ0 μ) (ha : g + 47 ≤ a ∧ a < g + 51) : PFC g μ0 (sI μ a k v) := ⟨fun q hq => by rw [mI_ne (by omega)]; exact x.1 q hq, x.2⟩
def TPC (g n : Nat) (β : Nat → Nat) (μ : XMem) : Prop := LC g (mR μ) (mN μ) ∧ mI μ (g + 45) 1 = nI n ∧ (∀ k, k < n → mI μ (g + 46) k &&& 255 = nI (β k)) ∧ n ≤ 100 ∧ ∀ k, k < n → β k ≤ 255
theorem TPC.pf {g n : Nat} {β : Nat → Nat} {μ0 μ : XMem} (t : TPC g n β μ0) (x : PFC g μ0 μ) : TPC g n β μ := ⟨by rw [x.2.2.1, x.2.2.2.1]; exact t.1, by rw [x.1 _ (by omega)]; exact t.2.1, fun k hk => by rw [x.1 _ (by omega)]; exact t.2.2.1 k hk, t.2.2.2⟩
theorem LCp {g : Nat} {R : Nat → Nat → Option Nat} {N : Nat → Nat} (L : LC g R N) : R (g + 45) 0 = some (g + 46) ∧ N (g + 46) = 100 ∧ R (g + 47) 0 = some (g + 48) ∧ R (g + 47) 2 = some (g + 49) ∧ R (g + 47) 3 = some (g + 50) ∧ N (g + 48) = 100 ∧ N (g + 49) = 5 ∧ N (g + 50) = 5 := by
  obtain ⟨-, -, -, -, -, -, -, -, -, -, h1, h2, h3, h4, h5, h6, h7, h8, -⟩ := L
  exact ⟨h1, h2, h3, h4, h5, h6, h7, h8⟩
theorem X5_byteAt_eq {g n p : Nat} {β : Nat → Nat} {μ : XMem} (t : TPC g n β μ) (hp : p < 2 ^ 31) : f_X5_byteAt (g + 45) (nI p) μ = some (bt n β p, μ) := by
  obtain ⟨L, t1, t2, t3, t4⟩ := t
  obtain ⟨l0, n46, -⟩ := LCp L
  unfold f_X5_byteAt bt
  rw [if_neg (nI_pos hp), t1]
  by_cases h1 : p < n
  · rw [if_neg (nI_ge h1 (by omega)), if_pos h1, l0, fo_mk, n46, if_pos (nI_lt (by omega) (by omega)), fo_mk, n46, ib_nI (by omega) (by omega), gd_mk, nI_clamp hp, t2 p h1]
  · rw [if_pos (nI_le (by omega) hp), if_neg h1]
theorem X3_isLetter_eq {n p : Nat} {β : Nat → Nat} {μ : XMem} (hb : ∀ k, k < n → β k ≤ 255) : f_X3_isLetter (bt n β p) μ = some (if lB n β p = true then 1 else 0, μ) := by
  rw [← wi_lB hb]
  unfold f_X3_isLetter wi
  repeat' split
  all_goals rfl
theorem X3_isDigit_eq {n p : Nat} {β : Nat → Nat} {μ : XMem} (hb : ∀ k, k < n → β k ≤ 255) : f_X3_isDigit (bt n β p) μ = some (if dB n β p = true then 1 else 0, μ) := by
  rw [← wi_dB hb]
  unfold f_X3_isDigit wi
  repeat' split
  all_goals rfl
/-- only the place was written -/
def F7 (g : Nat) (μ μ' : XMem) : Prop := (∀ q, q ≠ g + 47 → mI μ' q = mI μ q) ∧ (∀ k, k ≠ 7 → mI μ' (g + 47) k = mI μ (g + 47) k) ∧ mL μ' = mL μ ∧ mR μ' = mR μ ∧ mN μ' = mN μ ∧ mT μ' = mT μ ∧ mZ μ' = mZ μ
theorem F7.refl (g : Nat) (μ : XMem) : F7 g μ μ := ⟨fun _ _ => rfl, fun _ _ => rfl, rfl, rfl, rfl, rfl, rfl⟩
theorem F7.trans {g : Nat} {μ μ' μ'' : XMem} (x : F7 g μ μ') (y : F7 g μ' μ'') : F7 g μ μ'' := ⟨fun q h1 => (y.1 q h1).trans (x.1 q h1), fun k h1 => (y.2.1 k h1).trans (x.2.1 k h1), y.2.2.1.trans x.2.2.1, y.2.2.2.1.trans x.2.2.2.1, y.2.2.2.2.1.trans x.2.2.2.2.1, y.2.2.2.2.2.1.trans x.2.2.2.2.2.1, y.2.2.2.2.2.2.trans x.2.2.2.2.2.2⟩
theorem F7.st {g : Nat} {v : Int32} {μ : XMem} : F7 g μ (sI μ (g + 47) 7 v) := ⟨fun q h1 => mI_ne h1, fun k h1 => mI_off h1, rfl, rfl, rfl, rfl, rfl⟩
theorem PFC.f7 {g : Nat} {μ0 μ μ' : XMem} (x : PFC g μ0 μ) (y : F7 g μ μ') : PFC g μ0 μ' := ⟨fun q hq => (y.1 q (by omega)).trans (x.1 q hq), y.2.2.1.trans x.2.1, y.2.2.2.1.trans x.2.2.1, y.2.2.2.2.1.trans x.2.2.2.1, y.2.2.2.2.2.1.trans x.2.2.2.2.1, y.2.2.2.2.2.2.trans x.2.2.2.2.2⟩
theorem TPC.f7 {g n : Nat} {β : Nat → Nat} {μ μ' : XMem} (t : TPC g n β μ) (y : F7 g μ μ') : TPC g n β μ' := t.pf ((PFC.refl g μ).f7 y)
theorem skip_loop {g n : Nat} {β : Nat → Nat} {k : XMem → Option XMem} : ∀ (m fu i p : Nat) (μ : XMem), p + m = n → m < fu → i ≤ p → TPC g n β μ → mI μ (g + 47) 7 = nI p → ∃ μ', f_X3_skipBlanks_h2 (g + 47) (g + 45) k fu (nI i) μ = k μ' ∧ F7 g μ μ' ∧ mI μ' (g + 47) 7 = nI (sk n β p) := by
  intro m
  induction m with
  | zero =>
    intro fu i p μ hp hf hi t e7
    obtain ⟨fu, rfl⟩ : ∃ q, fu = q + 1 := ⟨fu - 1, by omega⟩
    have h100 := t.2.2.2.1
    have hq : ¬ kB n β p = true := fun q => by have := (kB_t.mp q).1; omega
    have hb : ¬ bt n β p = 32 := fun q => by have := ((bt_eq (c := 32) t.2.2.2.2 (by omega)).mp q).1; omega
    refine ⟨μ, ?_, F7.refl g μ, by unfold sk; rw [an_f hq]; exact e7⟩
    rw [f_X3_skipBlanks_h2]
    by_cases hi1 : (100 : Int32) ≤ nI i
    · rw [if_pos hi1]
    · rw [if_neg hi1, e7, X5_byteAt_eq t (by omega), b2_mk, if_neg hb]
  | succ m ih =>
    intro fu i p μ hp hf hi t e7
    obtain ⟨fu, rfl⟩ : ∃ q, fu = q + 1 := ⟨fu - 1, by omega⟩
    have h100 := t.2.2.2.1
    have hi1 : ¬ (100 : Int32) ≤ nI i := nI_ge (b := 100) (by omega) (by omega)
    by_cases hq : kB n β p = true
    · have hb : bt n β p = 32 := (bt_eq (c := 32) t.2.2.2.2 (by omega)).mpr (kB_t.mp hq)
      have y1 : F7 g μ (sI μ (g + 47) 7 (nI (p + 1))) := F7.st
      obtain ⟨μ', z1, z2, z3⟩ := ih fu (i + 1) (p + 1) _ (by omega) (by omega) (by omega) (t.f7 y1) mI_at
      refine ⟨μ', ?_, y1.trans z2, by unfold sk; rw [an_t hq (by omega)]; exact z3⟩
      rw [f_X3_skipBlanks_h2, if_neg hi1, e7, X5_byteAt_eq t (by omega), b2_mk, if_pos hb, e7, nI_1, nm_mk, nm_mk, nI_1]
      exact z1
    · have hb : ¬ bt n β p = 32 := fun q => hq (kB_t.mpr ((bt_eq (c := 32) t.2.2.2.2 (by omega)).mp q))
      refine ⟨μ, ?_, F7.refl g μ, by unfold sk; rw [an_f hq]; exact e7⟩
      rw [f_X3_skipBlanks_h2, if_neg hi1, e7, X5_byteAt_eq t (by omega), b2_mk, if_neg hb]
theorem skip_eq {g n p : Nat} {β : Nat → Nat} {μ : XMem} (t : TPC g n β μ) (hp : p ≤ n) (e7 : mI μ (g + 47) 7 = nI p) : ∃ μ', f_X3_skipBlanks (g + 47) (g + 45) μ = some μ' ∧ F7 g μ μ' ∧ mI μ' (g + 47) 7 = nI (sk n β p) := by
  have h100 := t.2.2.2.1
  exact skip_loop (k := fun m101 => some m101) (n - p) 2000 0 p μ (by omega) (by omega) (by omega) t e7
theorem w2s_snoc (β : Nat → Nat) : ∀ (i p w : Nat), w2s β (i + 1) p w = w2s β i p w * 256 + β (p + i) := by
  intro i
  induction i with
  | zero => intro p w; rfl
  | succ i ih =>
    intro p w
    show w2s β (i + 1) (p + 1) (w * 256 + β p) = w2s β i (p + 1) (w * 256 + β p) * 256 + β (p + (i + 1))
    rw [ih, show p + 1 + i = p + (i + 1) by omega]
theorem w2s_lt {β : Nat → Nat} {p : Nat} : ∀ i, (∀ j, p ≤ j → j < p + i → β j ≤ 122) → (i = 0 → w2s β i p 0 = 0) ∧ (i ≤ 1 → w2s β i p 0 ≤ 122) ∧ (i ≤ 2 → w2s β i p 0 ≤ 31354) ∧ (i ≤ 3 → w2s β i p 0 ≤ 8026746) ∧ (i ≤ 4 → w2s β i p 0 ≤ 2054847098) := by
  intro i
  induction i with
  | zero => intro h; refine ⟨fun _ => rfl, fun _ => ?_, fun _ => ?_, fun _ => ?_, fun _ => ?_⟩ <;> exact Nat.zero_le _
  | succ i ih =>
    intro h
    obtain ⟨a0, a1, a2, a3, a4⟩ := ih (fun j h1 h2 => h j h1 (by omega))
    have hb := h (p + i) (by omega) (by omega)
    rw [w2s_snoc]
    refine ⟨fun q => ?_, fun q => ?_, fun q => ?_, fun q => ?_, fun q => ?_⟩
    · omega
    · have := a0 (by omega); omega
    · have := a1 (by omega); omega
    · have := a2 (by omega); omega
    · have := a3 (by omega); omega
theorem word_loop {g n p0 : Nat} {β : Nat → Nat} {k : Int32 → Int32 → XMem → Option (Int32 × XMem)} : ∀ (m fu i p : Nat) (x : Int32) (μ : XMem), p + m = n → m < fu → p = p0 + i → (i ≤ 4 → x = nI (w2s β i p0 0)) → (∀ j, p0 ≤ j → j < p → lB n β j = true) → TPC g n β μ → mI μ (g + 47) 7 = nI p →
    ∃ x' μ', f_X3_nextWord_h4 (g + 47) (g + 45) k fu x (nI i) μ = k x' (nI (an (lB n β) n p - p0)) μ' ∧ F7 g μ μ' ∧ mI μ' (g + 47) 7 = nI (an (lB n β) n p) ∧ (an (lB n β) n p - p0 ≤ 4 → x' = nI (w2s β (an (lB n β) n p - p0) p0 0)) := by
  intro m
  induction m with
  | zero =>
    intro fu i p x μ hp hf hi hx hl t e7
    obtain ⟨fu, rfl⟩ : ∃ q, fu = q + 1 := ⟨fu - 1, by omega⟩
    have h100 := t.2.2.2.1
    have hq : ¬ lB n β p = true := fun q => by have := (lB_t.mp q).1; omega
    rw [an_f hq, show p - p0 = i by omega]
    refine ⟨x, μ, ?_, F7.refl g μ, e7, hx⟩
    rw [f_X3_nextWord_h4]
    by_cases hi1 : (100 : Int32) ≤ nI i
    · rw [if_pos hi1]
    · rw [if_neg hi1, e7, X5_byteAt_eq t (by omega), b2_mk, X3_isLetter_eq t.2.2.2.2, b2_mk, if_neg hq, if_pos rfl]
  | succ m ih =>
    intro fu i p x μ hp hf hi hx hl t e7
    obtain ⟨fu, rfl⟩ : ∃ q, fu = q + 1 := ⟨fu - 1, by omega⟩
    have h100 := t.2.2.2.1
    have hi1 : ¬ (100 : Int32) ≤ nI i := nI_ge (b := 100) (by omega) (by omega)
    by_cases hq : lB n β p = true
    · have y1 : F7 g μ (sI μ (g + 47) 7 (nI (p + 1))) := F7.st
      have hpn : p < n := (lB_t.mp hq).1
      have ebt : bt n β p = nI (β p) := by unfold bt; rw [if_pos hpn]
      obtain ⟨x', μ', z1, z2, z3, z4⟩ := ih fu (i + 1) (p + 1) ((x <<< ((8 : Int32) &&& 31)) ||| bt n β p) _ (by omega) (by omega) (by omega) (fun h4 => by
          have hw := w2s_lt (β := β) (p := p0) i (fun j h1 h2 => (lB_t.mp (hl j h1 (by omega))).2.2)
          have hb := t.2.2.2.2 p hpn
          rw [hx (by omega), ebt, px_word (by have := hw.2.2.2.1 (by omega); omega) hb, w2s_snoc, ← hi]) (fun j h1 h2 => by
          by_cases e : j = p
          · rw [e]; exact hq
          · exact hl j h1 (by omega)) (t.f7 y1) mI_at
      rw [an_t hq hpn]
      refine ⟨x', μ', ?_, y1.trans z2, z3, z4⟩
      rw [f_X3_nextWord_h4, if_neg hi1, e7, X5_byteAt_eq t (by omega), b2_mk, X3_isLetter_eq t.2.2.2.2, b2_mk, if_pos hq, if_neg one_nz, e7, X5_byteAt_eq t (by omega), b2_mk, nm_mk, nm_mk, e7, nI_1, nI_1, nm_mk]
      exact z1
    · rw [an_f hq, show p - p0 = i by omega]
      refine ⟨x, μ, ?_, F7.refl g μ, e7, hx⟩
      rw [f_X3_nextWord_h4, if_neg hi1, e7, X5_byteAt_eq t (by omega), b2_mk, X3_isLetter_eq t.2.2.2.2, b2_mk, if_neg hq, if_pos rfl]
theorem sif {c : Prop} {d : Decidable c} {a b : Int32} {μ : XMem} : (@ite _ c d (some (a, μ)) (some (b, μ))) = some (@ite _ c d a b, μ) := by split <;> rfl
theorem X3_codeOf_eq {x : Nat} (hx : x < 2 ^ 31) {μ : XMem} : f_X3_codeOf (nI x) μ = some (cdN x, μ) := by
  have q : ∀ c : Nat, c < 2 ^ 31 → ((nI x = nI c) ↔ x = c) := fun c hc => nI_eq hx hc
  unfold f_X3_codeOf cdN
  have q1 : (nI x = 99) ↔ x = 99 := q 99 (by omega)
  have q2 : (nI x = 104) ↔ x = 104 := q 104 (by omega)
  have q3 : (nI x = 112) ↔ x = 112 := q 112 (by omega)
  have q4 : (nI x = 116) ↔ x = 116 := q 116 (by omega)
  have q5 : (nI x = 119) ↔ x = 119 := q 119 (by omega)
  have q6 : (nI x = 26982) ↔ x = 26982 := q 26982 (by omega)
  have q7 : (nI x = 7168376) ↔ x = 7168376 := q 7168376 (by omega)
  have q8 : (nI x = 7170414) ↔ x = 7170414 := q 7170414 (by omega)
  have q9 : (nI x = 7173484) ↔ x = 7173484 := q 7173484 (by omega)
  have q10 : (nI x = 7566701) ↔ x = 7566701 := q 7566701 (by omega)
  have q11 : (nI x = 1818588019) ↔ x = 1818588019 := q 1818588019 (by omega)
  have q12 : (nI x = 1885434484) ↔ x = 1885434484 := q 1885434484 (by omega)
  simp only [q1, q2, q3, q4, q5, q6, q7, q8, q9, q10, q11, q12, sif]
theorem te_L {n p : Nat} {β : Nat → Nat} (hl : lB n β p = true) : te n β p = an (lB n β) n p := by
  unfold te
  rw [if_pos (lB_t.mp hl).1, if_pos hl, an_t hl (lB_t.mp hl).1]
theorem te_D {n p : Nat} {β : Nat → Nat} (hd : dB n β p = true) : te n β p = an (dB n β) n p := by
  have hl : ¬ lB n β p = true := fun q => by have := dB_t.mp hd; have := lB_t.mp q; omega
  unfold te
  rw [if_pos (dB_t.mp hd).1, if_neg hl, if_pos hd, an_t hd (dB_t.mp hd).1]
theorem word_eq {g n p : Nat} {β : Nat → Nat} {μ : XMem} (t : TPC g n β μ) (hl : lB n β p = true) (e7 : mI μ (g + 47) 7 = nI p) : ∃ μ', f_X3_nextWord (g + 47) (g + 45) μ = some (wc n β p, μ') ∧ F7 g μ μ' ∧ mI μ' (g + 47) 7 = nI (te n β p) := by
  have h100 := t.2.2.2.1
  have hp := (lB_t.mp hl).1
  have hle := te_le (β := β) (show p ≤ n by omega)
  have hgt := te_gt (β := β) hp
  obtain ⟨x', μ', z1, z2, z3, z4⟩ := word_loop (p0 := p) (k := fun x102 x103 m101 => if x103 ≤ 4 then (b2 (f_X3_codeOf x102 m101) fun r105 m104 => some (r105, m104)) else (some ((-13), m101))) (n - p) 2000 0 p 0 μ (by omega) (by omega) (by omega) (fun _ => rfl) (fun j h1 h2 => by omega) t e7
  rw [← te_L hl] at z1 z3 z4
  refine ⟨μ', z1.trans ?_, z2, z3⟩
  show (if nI (te n β p - p) ≤ 4 then (b2 (f_X3_codeOf x' μ') fun r105 m104 => some (r105, m104)) else (some ((-13), μ'))) = _
  unfold wc
  by_cases h4 : te n β p - p ≤ 4
  · have h4' : nI (te n β p - p) ≤ (4 : Int32) := nI_le (b := 4) h4 (by omega)
    have hw := (w2s_lt (β := β) (p := p) (te n β p - p) (fun j h1 h2 => (lB_t.mp (te_let hl j h1 (by omega))).2.2)).2.2.2.2 h4
    rw [if_pos h4', if_pos h4, z4 h4, X3_codeOf_eq (by omega), b2_mk]
  · have h4' : ¬ nI (te n β p - p) ≤ (4 : Int32) := nI_ge (a := 4) (by omega) (by omega)
    rw [if_neg h4', if_neg h4]
theorem numc_loop {g n : Nat} {β : Nat → Nat} {k : Int32 → XMem → Option (Int32 × XMem)} : ∀ (m fu i p v : Nat) (μ : XMem), p + m = n → m < fu → i ≤ p → v ≤ 10000 → TPC g n β μ → mI μ (g + 47) 7 = nI p →
    ∃ μ', f_X3_nextNumber_h4 (g + 47) (g + 45) k fu (nI v) (nI i) μ = k (nI (nvs β (an (dB n β) n p - p) p v)) μ' ∧ F7 g μ μ' ∧ mI μ' (g + 47) 7 = nI (an (dB n β) n p) := by
  intro m
  induction m with
  | zero =>
    intro fu i p v μ hp hf hi hv t e7
    obtain ⟨fu, rfl⟩ : ∃ q, fu = q + 1 := ⟨fu - 1, by omega⟩
    have h100 := t.2.2.2.1
    have hq : ¬ dB n β p = true := fun q => by have := (dB_t.mp q).1; omega
    rw [an_f hq, Nat.sub_self]
    refine ⟨μ, ?_, F7.refl g μ, e7⟩
    rw [f_X3_nextNumber_h4]
    by_cases hi1 : (100 : Int32) ≤ nI i
    · rw [if_pos hi1]; rfl
    · rw [if_neg hi1, e7, X5_byteAt_eq t (by omega), b2_mk, X3_isDigit_eq t.2.2.2.2, b2_mk, if_neg hq, if_pos rfl]; rfl
  | succ m ih =>
    intro fu i p v μ hp hf hi hv t e7
    obtain ⟨fu, rfl⟩ : ∃ q, fu = q + 1 := ⟨fu - 1, by omega⟩
    have h100 := t.2.2.2.1
    have hi1 : ¬ (100 : Int32) ≤ nI i := nI_ge (b := 100) (by omega) (by omega)
    by_cases hq : dB n β p = true
    · have y1 : F7 g μ (sI μ (g + 47) 7 (nI (p + 1))) := F7.st
      have hpn : p < n := (dB_t.mp hq).1
      have h48 := (dB_t.mp hq).2.1
      have hb := t.2.2.2.2 p hpn
      have ebt : bt n β p = nI (β p) := by unfold bt; rw [if_pos hpn]
      have e10 : nI v * (10 : Int32) = nI (10 * v) := by rw [Nat.mul_comm]; exact pk_mul v 10
      have e48 : nI (10 * v + β p) - 48 = nI (10 * v + β p - 48) := pk_sub (b := 48) (by omega)
      have es : (if nI (10 * v + β p - 48) < (10000 : Int32) then nI (10 * v + β p - 48) else 10000) = nI (if 10 * v + β p - 48 ≤ 10000 then 10 * v + β p - 48 else 10000) := by
        by_cases hx : 10 * v + β p - 48 < 10000
        · have hx' : nI (10 * v + β p - 48) < (10000 : Int32) := nI_lt (b := 10000) hx (by omega)
          rw [if_pos hx', if_pos (by omega)]
        · have hx' : ¬ nI (10 * v + β p - 48) < (10000 : Int32) := nI_nlt (b := 10000) (by omega) (by omega)
          rw [if_neg hx']
          by_cases hy : 10 * v + β p - 48 ≤ 10000
          · rw [if_pos hy, show 10 * v + β p - 48 = 10000 by omega]; rfl
          · rw [if_neg hy]; rfl
      obtain ⟨μ', z1, z2, z3⟩ := ih fu (i + 1) (p + 1) (if 10 * v + β p - 48 ≤ 10000 then 10 * v + β p - 48 else 10000) _ (by omega) (by omega) (by omega) (by split <;> omega) (t.f7 y1) mI_at
      have hge := an_ge (q := dB n β) (n := n) (p + 1)
      rw [an_t hq hpn, show an (dB n β) n (p + 1) - p = (an (dB n β) n (p + 1) - (p + 1)) + 1 by omega]
      refine ⟨μ', ?_, y1.trans z2, z3⟩
      rw [f_X3_nextNumber_h4, if_neg hi1, e7, X5_byteAt_eq t (by omega), b2_mk, X3_isDigit_eq t.2.2.2.2, b2_mk, if_pos hq, if_neg one_nz, e7, X5_byteAt_eq t (by omega), b2_mk, ebt, e10, nI_add, e48, es, nm_mk, e7, nI_1, nm_mk, nm_mk, nI_1]
      exact z1
    · rw [an_f hq, Nat.sub_self]
      refine ⟨μ, ?_, F7.refl g μ, e7⟩
      rw [f_X3_nextNumber_h4, if_neg hi1, e7, X5_byteAt_eq t (by omega), b2_mk, X3_isDigit_eq t.2.2.2.2, b2_mk, if_neg hq, if_pos rfl]
      rfl
theorem numc_eq {g n p : Nat} {β : Nat → Nat} {μ : XMem} (t : TPC g n β μ) (hd : dB n β p = true) (e7 : mI μ (g + 47) 7 = nI p) : ∃ μ', f_X3_nextNumber (g + 47) (g + 45) μ = some (nI (nv n β p), μ') ∧ F7 g μ μ' ∧ mI μ' (g + 47) 7 = nI (te n β p) := by
  have h100 := t.2.2.2.1
  have hp := (dB_t.mp hd).1
  obtain ⟨μ', z1, z2, z3⟩ := numc_loop (k := fun x102 m101 => some (x102, m101)) (n - p) 2000 0 p 0 μ (by omega) (by omega) (by omega) (by omega) t e7
  rw [← te_D hd] at z1 z3
  exact ⟨μ', z1, z2, z3⟩

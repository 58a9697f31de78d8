/-! PURE LAYER 17: texts are worked out alike -/
/-- a pile in an array: the top first -/
def HS (f : Nat → Int32) : List Int32 → Prop
  | [] => True
  | v :: r => f r.length = v ∧ HS f r
theorem HS.up {f : Nat → Int32} {k : Nat} {v : Int32} : ∀ {st : List Int32}, HS f st → st.length ≤ k → HS (uf f k v) st
  | [], _, _ => trivial
  | x :: r, h, hk => ⟨by rw [uf_ne (by simp at hk; omega)]; exact h.1, HS.up h.2 (by simp at hk; omega)⟩
def op2 (c a b : Int32) : Int32 := if c = -11 then (if a < b then b else a) else if c = -10 then (if b < a then b else a) else if c = -9 then (if b = 0 then 0 else a / b) else if c = -8 then a * b else if c = -7 then a - b else a + b
def vE (p q t n s c : Int32) : Int32 := if c = -5 then s else if c = -4 then n else if c = -3 then t else if c = -2 then q else if c = -1 then p else c
def ev (V : Int32 → Int32) : List Int32 → List Int32 → List Int32
  | [], st => st
  | c :: t, st => if -5 ≤ c then ev V t (V c :: st) else match st with
    | b :: a :: r => if c = -12 then (match r with
      | z :: r => ev V t ((if z = 0 then b else a) :: r)
      | [] => []) else ev V t (op2 c a b :: r)
    | _ => []
/-- nothing but the worker was written -/
def WkC (W : Nat) (μ μ' : XMem) : Prop := (∀ q, q ≠ W → q ≠ W + 1 → mI μ' q = mI μ q) ∧ (∀ k, k ≠ 6 → mI μ' W k = mI μ W k) ∧ mL μ' = mL μ ∧ mR μ' = mR μ ∧ mN μ' = mN μ
theorem WkC.refl (W : Nat) (μ : XMem) : WkC W μ μ := ⟨fun _ _ _ => rfl, fun _ _ => rfl, rfl, rfl, rfl⟩
theorem WkC.trans {W : Nat} {μ μ' μ'' : XMem} (a : WkC W μ μ') (b : WkC W μ' μ'') : WkC W μ μ'' :=
  ⟨fun q h1 h2 => (b.1 q h1 h2).trans (a.1 q h1 h2), fun k h => (b.2.1 k h).trans (a.2.1 k h), b.2.2.1.trans a.2.2.1, b.2.2.2.1.trans a.2.2.2.1, b.2.2.2.2.trans a.2.2.2.2⟩
theorem X7_push_eq {W n : Nat} {μ : XMem} (hr : mR μ W 5 = some (W + 1)) (hN : mN μ (W + 1) = 13) (h6 : mI μ W 6 = nI n) (hn : n < 13) (v : Int32) : f_X7_push W v μ = some (sI (sI μ (W + 1) n v) W 6 (nI (n + 1))) := by
  unfold f_X7_push
  have e : mI (sI μ (W + 1) n v) W 6 = nI n := by rw [mI_ne (by omega)]; exact h6
  rw [h6, if_neg (nI_pos (by omega)), hr, fo_mk, hN, if_neg (nI_ge (by omega) (by omega)), fo_mk, hN, ib_nI (by omega) (by omega), gd_mk, nI_clamp (by omega), nm_mk, e, nI_1, nm_mk]
theorem X7_pop_eq {W n : Nat} {μ : XMem} (hr : mR μ W 5 = some (W + 1)) (hN : mN μ (W + 1) = 13) (h6 : mI μ W 6 = nI (n + 1)) (hn : n < 13) : f_X7_pop W μ = some (mI μ (W + 1) n, sI μ W 6 (nI n)) := by
  unfold f_X7_pop
  have e : mI (sI μ W 6 (nI n)) W 6 = nI n := mI_at
  have e2 : mI (sI μ W 6 (nI n)) (W + 1) = mI μ (W + 1) := mI_ne (by omega)
  have e1 : ¬ nI (n + 1) < (1 : Int32) := nI_nlt (b := 1) (by omega) (by omega)
  rw [h6, if_neg e1, hr, fo_mk, hN, if_pos (nI_le (by omega) (by omega)), nI_pred, nm_mk, mR_sI, hr, fo_mk, mN_sI, hN, e, ib_nI (by omega) (by omega), gd_mk, nI_clamp (by omega), e2]
theorem X7_valueOf_eq {W : Nat} {μ : XMem} (c : Int32) : f_X7_valueOf W c μ = some (vE (mI μ W 0) (mI μ W 1) (mI μ W 2) (mI μ W 3) (mI μ W 4) c, μ) := by
  unfold f_X7_valueOf vE
  repeat' split
  all_goals rfl
theorem op2_cases {c : Int32} (h : -11 ≤ c) (h2 : ¬ -5 ≤ c) : c = -11 ∨ c = -10 ∨ c = -9 ∨ c = -8 ∨ c = -7 ∨ c = -6 := by
  simp only [Int32.le_iff_toInt_le, ← Int32.toInt_inj] at *
  rw [show (-11 : Int32).toInt = -11 from rfl] at *
  rw [show (-5 : Int32).toInt = -5 from rfl] at *
  rw [show (-10 : Int32).toInt = -10 from rfl, show (-9 : Int32).toInt = -9 from rfl, show (-8 : Int32).toInt = -8 from rfl, show (-7 : Int32).toInt = -7 from rfl, show (-6 : Int32).toInt = -6 from rfl]
  omega
set_option maxHeartbeats 400000 in
theorem X7_result_2 {W n : Nat} {μ : XMem} (hr : mR μ W 5 = some (W + 1)) (hN : mN μ (W + 1) = 13) (h6 : mI μ W 6 = nI (n + 2)) (hn : n + 1 < 13) {c : Int32} (h : -11 ≤ c) (h2 : ¬ -5 ≤ c) : f_X7_resultOf W c μ = some (op2 c (mI μ (W + 1) n) (mI μ (W + 1) (n + 1)), sI (sI μ W 6 (nI (n + 1))) W 6 (nI n)) := by
  unfold f_X7_resultOf
  have e2 : mI (sI μ W 6 (nI (n + 1))) (W + 1) = mI μ (W + 1) := mI_ne (by omega)
  rw [X7_pop_eq (n := n + 1) hr hN h6 hn, b2_mk, X7_pop_eq (n := n) (μ := sI μ W 6 (nI (n + 1))) hr hN mI_at (by omega), b2_mk, e2]
  simp only [nm_mk]
  generalize mI μ (W + 1) n = a
  generalize mI μ (W + 1) (n + 1) = b
  unfold op2
  rcases op2_cases h h2 with rfl | rfl | rfl | rfl | rfl | rfl
  · rfl
  · rfl
  · by_cases hb : b = 0
    · subst hb; rfl
    · have : nz b = true := by unfold nz; simp [hb]
      rw [if_neg (by decide), if_neg (by decide), if_pos rfl, if_neg hb, this, gd_mk, if_neg (by decide), if_neg (by decide), if_pos rfl, if_neg hb]
  · rfl
  · rfl
  · rfl
theorem X7_result_3 {W n : Nat} {μ : XMem} (hr : mR μ W 5 = some (W + 1)) (hN : mN μ (W + 1) = 13) (h6 : mI μ W 6 = nI (n + 3)) (hn : n + 2 < 13) : f_X7_resultOf W (-12) μ = some (if mI μ (W + 1) n = 0 then mI μ (W + 1) (n + 2) else mI μ (W + 1) (n + 1), sI (sI (sI μ W 6 (nI (n + 2))) W 6 (nI (n + 1))) W 6 (nI n)) := by
  unfold f_X7_resultOf
  have e2 : mI (sI μ W 6 (nI (n + 2))) (W + 1) = mI μ (W + 1) := mI_ne (by omega)
  have e3 : mI (sI (sI μ W 6 (nI (n + 2))) W 6 (nI (n + 1))) (W + 1) = mI μ (W + 1) := by rw [mI_ne (by omega), e2]
  rw [X7_pop_eq (n := n + 2) hr hN h6 hn, b2_mk, X7_pop_eq (n := n + 1) (μ := sI μ W 6 (nI (n + 2))) hr hN mI_at (by omega), b2_mk, e2]
  rw [if_neg (by decide), if_neg (by decide), if_neg (by decide), if_neg (by decide), if_neg (by decide), if_neg (by decide), X7_pop_eq (n := n) (μ := sI (sI μ W 6 (nI (n + 2))) W 6 (nI (n + 1))) hr hN mI_at (by omega), b2_mk, e3]
  split <;> rfl
theorem i32_nlt {a b : Int32} (h : a ≤ b) : ¬ b < a := by simp only [Int32.lt_iff_toInt_lt, Int32.le_iff_toInt_le] at *; omega
theorem i32_lt {a b : Int32} (h : ¬ a ≤ b) : b < a := by simp only [Int32.lt_iff_toInt_lt, Int32.le_iff_toInt_le] at *; omega
def rgs (μ : XMem) (W : Nat) : Int32 → Int32 := vE (mI μ W 0) (mI μ W 1) (mI μ W 2) (mI μ W 3) (mI μ W 4)
theorem rgs_cg {μ μ' : XMem} {W : Nat} (h : ∀ k, k ≠ 6 → mI μ' W k = mI μ W k) : rgs μ' W = rgs μ W := by
  unfold rgs
  rw [h 0 (by decide), h 1 (by decide), h 2 (by decide), h 3 (by decide), h 4 (by decide)]
set_option maxHeartbeats 800000 in
theorem X7_loop {W ca N : Nat} (hW1 : ca ≠ W) (hW2 : ca ≠ W + 1) (hNN : N < 2 ^ 31) {k : XMem → Option (Int32 × XMem)} : ∀ (t : List Int32) (n i : Nat) (st : List Int32) (μ : XMem), mR μ W 5 = some (W + 1) → mN μ (W + 1) = 13 → mN μ ca = N → i + t.length = N → (∀ j, j < t.length → mI μ ca (i + j) = t.getD j 0) → mI μ W 6 = nI st.length → st.length ≤ 13 → HS (mI μ (W + 1)) st → wfs t st.length = true → t.length < n →
    ∃ μ', f_X7_worked_h47 W ca k n (nI i) μ = k μ' ∧ WkC W μ μ' ∧ mI μ' W 6 = nI 1 ∧ HS (mI μ' (W + 1)) (ev (rgs μ W) t st) ∧ (ev (rgs μ W) t st).length = 1 := by
  intro t
  induction t with
  | nil =>
    intro n i st μ hr hN hca hi hc h6 h13 hs hw hn
    obtain ⟨n, rfl⟩ : ∃ q, n = q + 1 := ⟨n - 1, by simp at hn; omega⟩
    have hl : st.length = 1 := by simpa [wfs] using hw
    refine ⟨μ, ?_, WkC.refl W μ, by rw [h6, hl], hs, hl⟩
    have hi' : i = N := by simpa using hi
    subst hi'
    rw [f_X7_worked_h47, hca, if_pos (nI_le (Nat.le_refl _) hNN)]
  | cons c t ih =>
    intro n i st μ hr hN hca hi hc h6 h13 hs hw hn
    simp only [List.length_cons] at hi hn
    obtain ⟨n, rfl⟩ : ∃ q, n = q + 1 := ⟨n - 1, by omega⟩
    have hcc : mI μ ca i = c := hc 0 (by simp)
    have hc' : ∀ j, j < t.length → mI μ ca (i + 1 + j) = t.getD j 0 := fun j hj => by
      have := hc (j + 1) (by simp; omega)
      rw [show i + 1 + j = i + (j + 1) by omega]
      simpa using this
    have hib : ib (nI i) N = true := ib_nI (by omega) hNN
    have hlt : ¬ nI N ≤ nI i := nI_ge (by omega) hNN
    have go : ∀ (st' : List Int32) (μ1 : XMem), WkC W μ μ1 → mI μ1 W 6 = nI st'.length → st'.length ≤ 13 → HS (mI μ1 (W + 1)) st' → wfs t st'.length = true →
        ∃ μ', f_X7_worked_h47 W ca k n (nI (i + 1)) μ1 = k μ' ∧ WkC W μ μ' ∧ mI μ' W 6 = nI 1 ∧ HS (mI μ' (W + 1)) (ev (rgs μ W) t st') ∧ (ev (rgs μ W) t st').length = 1 := by
      intro st' μ1 w1 w2 w3 w4 w5
      obtain ⟨μ', z1, z2, z3, z4, z5⟩ := ih n (i + 1) st' μ1 (by rw [w1.2.2.2.1]; exact hr) (by rw [w1.2.2.2.2]; exact hN) (by rw [w1.2.2.2.2]; exact hca) (by omega) (fun j hj => by rw [w1.1 ca hW1 hW2]; exact hc' j hj) w2 w3 w4 w5 (by omega)
      rw [rgs_cg w1.2.1] at z4 z5
      exact ⟨μ', z1, w1.trans z2, z3, z4, z5⟩
    have pushC : ∀ (μ0 : XMem) (m : Nat) (v : Int32), WkC W μ μ0 → WkC W μ (sI (sI μ0 (W + 1) m v) W 6 (nI (m + 1))) := fun μ0 m v w0 =>
      ⟨fun q q1 q2 => by rw [mI_ne q1, mI_ne q2]; exact w0.1 q q1 q2, fun q hq => by rw [mI_off hq, mI_ne (by omega)]; exact w0.2.1 q hq, w0.2.2.1, w0.2.2.2.1, w0.2.2.2.2⟩
    have popC : ∀ (μ0 : XMem) (v : Int32), WkC W μ μ0 → WkC W μ (sI μ0 W 6 v) := fun μ0 v w0 =>
      ⟨fun q q1 q2 => by rw [mI_ne q1]; exact w0.1 q q1 q2, fun q hq => by rw [mI_off hq]; exact w0.2.1 q hq, w0.2.2.1, w0.2.2.2.1, w0.2.2.2.2⟩
    rw [f_X7_worked_h47, hca, if_neg hlt, hib, gd_mk, nI_clamp (by omega), hcc]
    by_cases h5 : -5 ≤ c
    · rw [if_neg (i32_nlt h5), gd_mk, X7_valueOf_eq, b2_mk]
      simp only [wfs, h5, if_true, Bool.and_eq_true, decide_eq_true_eq] at hw
      obtain ⟨-, w1, w2⟩ := hw
      rw [X7_push_eq hr hN h6 (by omega), b1_mk, nm_mk, nI_1]
      have := go (rgs μ W c :: st) _ (pushC μ st.length (rgs μ W c) (WkC.refl W μ)) mI_at (by simp; omega) ⟨by rw [mI_ne (by omega), mI_at], by rw [mI_ne (by omega), mI_self]; exact hs.up (Nat.le_refl _)⟩ w2
      simp only [ev, h5, if_true]
      exact this
    · rw [if_pos (i32_lt h5), gd_mk]
      by_cases h12 : c = -12
      · subst h12
        simp only [wfs, h5, if_false, if_true, Bool.and_eq_true, decide_eq_true_eq] at hw
        obtain ⟨w1, w2⟩ := hw
        match st, w1 with
        | b :: a :: z :: r, _ =>
          obtain ⟨s1, s2, s3, s4⟩ := hs
          simp only [List.length_cons] at h6 h13 w2 s1 s2 s3
          rw [X7_result_3 (n := r.length) hr hN h6 (by omega), b2_mk]
          generalize hμ1 : sI (sI (sI μ W 6 (nI (r.length + 2))) W 6 (nI (r.length + 1))) W 6 (nI r.length) = μ1
          have k1 : WkC W μ μ1 := by rw [← hμ1]; exact popC _ _ (popC _ _ (popC _ _ (WkC.refl W μ)))
          have k2 : mI μ1 W 6 = nI r.length := by rw [← hμ1]; exact mI_at
          have k3 : mI μ1 (W + 1) = mI μ (W + 1) := by rw [← hμ1, mI_ne (by omega), mI_ne (by omega), mI_ne (by omega)]
          rw [X7_push_eq (μ := μ1) (by rw [k1.2.2.2.1]; exact hr) (by rw [k1.2.2.2.2]; exact hN) k2 (by omega), b1_mk, nm_mk, nI_1, s1, s2, s3]
          have := go ((if z = 0 then b else a) :: r) _ (pushC μ1 r.length (if z = 0 then b else a) k1) mI_at (by simp; omega) ⟨by rw [mI_ne (by omega), mI_at], by rw [mI_ne (by omega), mI_self, k3]; exact s4.up (Nat.le_refl _)⟩ (by simpa using w2)
          simp only [ev, h5, if_false, if_true]
          exact this
      · simp only [wfs, h5, h12, if_false, Bool.and_eq_true, decide_eq_true_eq] at hw
        obtain ⟨w0, w1, w2⟩ := hw
        match st, w1 with
        | b :: a :: r, _ =>
          obtain ⟨s1, s2, s4⟩ := hs
          simp only [List.length_cons] at h6 h13 w2 s1 s2
          rw [X7_result_2 (n := r.length) hr hN h6 (by omega) w0 h5, b2_mk]
          generalize hμ1 : sI (sI μ W 6 (nI (r.length + 1))) W 6 (nI r.length) = μ1
          have k1 : WkC W μ μ1 := by rw [← hμ1]; exact popC _ _ (popC _ _ (WkC.refl W μ))
          have k2 : mI μ1 W 6 = nI r.length := by rw [← hμ1]; exact mI_at
          have k3 : mI μ1 (W + 1) = mI μ (W + 1) := by rw [← hμ1, mI_ne (by omega), mI_ne (by omega)]
          rw [X7_push_eq (μ := μ1) (by rw [k1.2.2.2.1]; exact hr) (by rw [k1.2.2.2.2]; exact hN) k2 (by omega), b1_mk, nm_mk, nI_1, s1, s2]
          have := go (op2 c a b :: r) _ (pushC μ1 r.length (op2 c a b) k1) mI_at (by simp; omega) ⟨by rw [mI_ne (by omega), mI_at], by rw [mI_ne (by omega), mI_self, k3]; exact s4.up (Nat.le_refl _)⟩ (by simpa using w2)
          simp only [ev, h5, h12, if_false]
          exact this

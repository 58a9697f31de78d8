/-! PURE LAYER 18: the reference works a text out -/
def WkM (h : Nat) (ν ν' : XMem) : Prop := (∀ q, q ≠ h + 10 → mI ν' q = mI ν q) ∧ mL ν' = mL ν ∧ mR ν' = mR ν ∧ mN ν' = mN ν
theorem WkM.refl (h : Nat) (ν : XMem) : WkM h ν ν := ⟨fun _ _ => rfl, rfl, rfl, rfl⟩
theorem WkM.trans {h : Nat} {ν ν' ν'' : XMem} (a : WkM h ν ν') (b : WkM h ν' ν'') : WkM h ν ν'' :=
  ⟨fun q h1 => (b.1 q h1).trans (a.1 q h1), b.2.1.trans a.2.1, b.2.2.1.trans a.2.2.1, b.2.2.2.trans a.2.2.2⟩
def vM (ν : XMem) (h ti c : Nat) (x3 : Int32) : Int32 → Int32 := vE (pwr (crw ν h c)) (if ti = 7 then thm (crw ν h c) else wmt (crw ν h c)) x3 (nI c) (crw ν h c 5)
theorem vM_cg {h ti c : Nat} {x3 : Int32} {ν ν' : XMem} (w : WkM h ν ν') : vM ν' h ti c x3 = vM ν h ti c x3 := by
  have : crw ν' h c = crw ν h c := by
    unfold crw
    rw [w.1 _ (by omega)]
  unfold vM
  rw [this]
theorem enc_cases {c : Int32} (h : -5 ≤ c) (h2 : c ≤ 9999) : c = -5 ∨ c = -4 ∨ c = -3 ∨ c = -2 ∨ c = -1 ∨ ∃ n, n ≤ 9999 ∧ c = nI n := by
  by_cases h0 : c < 0
  · simp only [Int32.le_iff_toInt_le, Int32.lt_iff_toInt_lt, ← Int32.toInt_inj] at *
    rw [show (0 : Int32).toInt = 0 from rfl] at *
    rw [show (-5 : Int32).toInt = -5 from rfl] at *
    rw [show (-4 : Int32).toInt = -4 from rfl, show (-3 : Int32).toInt = -3 from rfl, show (-2 : Int32).toInt = -2 from rfl, show (-1 : Int32).toInt = -1 from rfl]
    omega
  · obtain ⟨n, hn, rfl⟩ := nI_of2 (M := 9999) (n := 9999) rfl h0 h2
    exact Or.inr (Or.inr (Or.inr (Or.inr (Or.inr ⟨n, hn, rfl⟩))))
theorem X10_both_eq {c : Int32} (h : -11 ≤ c) (h2 : ¬ -5 ≤ c) (a b : Int32) (ν : XMem) : f_X10_both (enc c) a b ν = some (op2 c a b, ν) := by
  unfold f_X10_both op2
  have le1 : (b ≤ a) ↔ ¬ a < b := Int32.not_lt.symm
  have le2 : (a ≤ b) ↔ ¬ b < a := Int32.not_lt.symm
  rcases op2_cases h h2 with rfl | rfl | rfl | rfl | rfl | rfl
  · show (if a ≤ b then some (b, ν) else some (a, ν)) = some (if a < b then b else a, ν)
    by_cases q : a < b
    · rw [if_pos (le2.mpr (i32_asym q)), if_pos q]
    · rw [if_neg q]
      by_cases q2 : b < a
      · rw [if_neg (fun z => le2.mp z q2)]
      · rw [if_pos (le2.mpr q2), i32_tri q q2]
  · show (if b ≤ a then some (b, ν) else some (a, ν)) = some (if b < a then b else a, ν)
    by_cases q : b < a
    · rw [if_pos (le1.mpr (i32_asym q)), if_pos q]
    · rw [if_neg q]
      by_cases q2 : a < b
      · rw [if_neg (fun z => le1.mp z q2)]
      · rw [if_pos (le1.mpr q2), i32_tri q2 q]
  · show (if b = 0 then some (0, ν) else gd (nz b) (some (a / b, ν))) = some (if b = 0 then 0 else a / b, ν)
    by_cases q : b = 0
    · rw [if_pos q, if_pos q]
    · have : nz b = true := by unfold nz; simp [q]
      rw [if_neg q, if_neg q, this, gd_mk]
  · rw [if_neg (by decide), if_neg (by decide), if_pos (by decide)]; rfl
  · rw [if_neg (by decide), if_pos (by decide)]; rfl
  · rw [if_pos (by decide)]; rfl
theorem iI_m {a b : Nat} : nI (a + b) - nI b = nI a := by
  rw [← nI_add, Int32.add_sub_cancel]
theorem iI_n {a b : Nat} : nI (a + b) + -nI b = nI a := by
  rw [← Int32.sub_eq_add_neg]; exact iI_m
theorem X10_named_eq {h ti c : Nat} {x3 : Int32} {ν : XMem} (L : LM h (mR ν) (mN ν)) (hc : c < 8) (hti : ti < 8) (hm : ¬ crw ν h c 3 = 0) {k : Int32} (hk : k = -5 ∨ k = -4 ∨ k = -3 ∨ k = -2 ∨ k = -1) : f_X10_named h (enc k - 10000) (nI ti) (nI c) x3 ν = some (vM ν h ti c x3 k, ν) := by
  unfold f_X10_named vM vE
  rcases hk with rfl | rfl | rfl | rfl | rfl
  · rw [if_neg (by decide), if_neg (by decide), if_neg (by decide), if_neg (by decide), oC_5 L hc, b2_mk]; rfl
  · rfl
  · rfl
  · rw [if_neg (by decide), if_pos (by decide)]
    by_cases h7 : ti = 7
    · subst h7
      rw [if_pos (by decide), X10_readOf_eq L hc hm, b2_mk]; rfl
    · have : ¬ nI ti = 7 := fun q => h7 ((nI_eq (b := 7) (by omega) (by omega)).mp q)
      rw [if_neg this, X10_warmth_eq L hc hm, b2_mk, if_neg h7]; rfl
  · rw [if_pos (by decide), X10_powerNow_eq L hc, b2_mk]; rfl
set_option maxHeartbeats 800000 in
theorem X10_loop {h ti c : Nat} (hti : ti < 8) (hc8 : c < 8) {x3 : Int32} {k : XMem → Option (Int32 × XMem)} : ∀ (t : List Int32) (n i : Nat) (st : List Int32) (ν : XMem), LM h (mR ν) (mN ν) → ¬ crw ν h c 3 = 0 → i + t.length ≤ 100 → mI ν (h + 1) (243 + 102 * ti) = nI (i + t.length) → (∀ j, j < t.length → mI ν (h + 1) (244 + 102 * ti + (i + j)) = enc (t.getD j 0)) → st.length ≤ 13 → HS (mI ν (h + 10)) st → wfs t st.length = true → t.length < n →
    ∃ ν', f_X10_worked_h16 h (nI ti) (nI c) x3 (nI (243 + 102 * ti)) k n (nI st.length) (nI (i + 1)) ν = k ν' ∧ WkM h ν ν' ∧ HS (mI ν' (h + 10)) (ev (vM ν h ti c x3) t st) ∧ (ev (vM ν h ti c x3) t st).length = 1 := by
  intro t
  induction t with
  | nil =>
    intro n i st ν L hm hi hT hcd h13 hs hw hn
    obtain ⟨n, rfl⟩ : ∃ q, n = q + 1 := ⟨n - 1, by simp at hn; omega⟩
    have hl : st.length = 1 := by simpa [wfs] using hw
    refine ⟨ν, ?_, WkM.refl h ν, hs, hl⟩
    rw [f_X10_worked_h16, L.1.1, fo_mk, L.2.1, ib_nI (by omega) (by omega), gd_mk, nI_clamp (by omega), hT, if_pos (nI_lt (by simp) (by simp at hi; omega))]
  | cons cd t ih =>
    intro n i st ν L hm hi hT hcd h13 hs hw hn
    simp only [List.length_cons] at hi hn hT
    obtain ⟨n, rfl⟩ : ∃ q, n = q + 1 := ⟨n - 1, by omega⟩
    have hcc : mI ν (h + 1) (243 + 102 * ti + (i + 1)) = enc cd := by
      have := hcd 0 (by simp)
      rw [show 243 + 102 * ti + (i + 1) = 244 + 102 * ti + (i + 0) by omega]
      simpa using this
    have go : ∀ (st' : List Int32) (ν1 : XMem), WkM h ν ν1 → st'.length ≤ 13 → HS (mI ν1 (h + 10)) st' → wfs t st'.length = true →
        ∃ ν', f_X10_worked_h16 h (nI ti) (nI c) x3 (nI (243 + 102 * ti)) k n (nI st'.length) (nI (i + 1 + 1)) ν1 = k ν' ∧ WkM h ν ν' ∧ HS (mI ν' (h + 10)) (ev (vM ν h ti c x3) t st') ∧ (ev (vM ν h ti c x3) t st').length = 1 := by
      intro st' ν1 w1 w3 w4 w5
      have e1 : mI ν1 (h + 1) = mI ν (h + 1) := w1.1 _ (by omega)
      obtain ⟨ν', z1, z2, z4, z5⟩ := ih n (i + 1) st' ν1 (by rw [w1.2.2.1, w1.2.2.2]; exact L) (by unfold crw at hm ⊢; rw [e1]; exact hm) (by omega) (by rw [e1, hT]; congr 1; omega) (fun j hj => by
        rw [e1]
        have := hcd (j + 1) (by simp; omega)
        rw [show i + 1 + j = i + (j + 1) by omega]
        simpa using this) w3 w4 w5 (by omega)
      rw [vM_cg w1] at z4 z5
      exact ⟨ν', z1, w1.trans z2, z4, z5⟩
    have putM : ∀ (m : Nat) (v : Int32), WkM h ν (sI ν (h + 10) m v) := fun m v => ⟨fun q q1 => mI_ne q1, rfl, rfl, rfl⟩
    have nlt : ¬ nI (i + (t.length + 1)) < nI (i + 1) := nI_nlt (by omega) (by omega)
    have L16 := L.1.2.2.2.2.2.2.2.2.2.1
    have N16 := L.2.2.2.2.2.2.2.2.2.2.1
    rw [f_X10_worked_h16, L.1.1, fo_mk, L.2.1, ib_nI (by omega) (by omega), gd_mk, nI_clamp (by omega), hT, if_neg nlt, fo_mk, L.2.1, nI_add, ib_nI (by omega) (by omega), gd_mk, nI_clamp (by omega), hcc, nm_mk]
    by_cases h5 : -5 ≤ cd
    · simp only [wfs, h5, if_true, Bool.and_eq_true, decide_eq_true_eq] at hw
      obtain ⟨w0, w1, w2⟩ := hw
      have n1 : ¬ 10100 ≤ enc cd := by
        rcases enc_cases h5 w0 with rfl | rfl | rfl | rfl | rfl | ⟨m, hm9, rfl⟩
        · decide
        · decide
        · decide
        · decide
        · decide
        · unfold enc
          rw [if_pos (nI_pos' (by omega))]
          exact nI_ge (b := 10100) (by omega) (by omega)
      rw [if_neg n1, L16, fo_mk]
      have fin := go (vM ν h ti c x3 cd :: st) _ (putM st.length (vM ν h ti c x3 cd)) (by simp; omega) ⟨mI_at, by rw [mI_self]; exact hs.up (Nat.le_refl _)⟩ w2
      simp only [ev, h5, if_true]
      rcases enc_cases h5 w0 with hq | hq | hq | hq | hq | ⟨m, hm9, rfl⟩
      iterate 5
        rw [if_pos (by rw [hq]; decide), X10_named_eq L hc8 hti hm (by simp [hq]), b2_mk, N16, ib_nI (by omega) (by omega), gd_mk, nI_clamp (by omega), nm_mk, nI_1, nm_mk, nI_1, nm_mk]
        exact fin
      have e0 : enc (nI m) = nI m := by unfold enc; rw [if_pos (nI_pos' (by omega))]
      have e1 : vM ν h ti c x3 (nI m) = nI m := by
        have q : ∀ z : Int32, z < 0 → ¬ nI m = z := fun z hz e => nI_pos (n := m) (by omega) (by rw [e]; exact hz)
        unfold vM vE
        rw [if_neg (q _ (by decide)), if_neg (q _ (by decide)), if_neg (q _ (by decide)), if_neg (q _ (by decide)), if_neg (q _ (by decide))]
      rw [e1] at fin
      have n2 : ¬ (10000 : Int32) ≤ nI m := nI_ge (b := 10000) (by omega) (by omega)
      rw [e0, if_neg n2, N16, ib_nI (by omega) (by omega), gd_mk, nI_clamp (by omega), nm_mk, nI_1, nm_mk, nI_1, nm_mk, e1]
      exact fin
    · by_cases h12 : cd = -12
      · subst h12
        simp only [wfs, h5, if_false, if_true, Bool.and_eq_true, decide_eq_true_eq] at hw
        obtain ⟨w1, w2⟩ := hw
        match st, w1 with
        | b :: a :: z :: r, _ =>
          obtain ⟨s1, s2, s3, s4⟩ := hs
          simp only [List.length_cons] at h13 w2 s1 s2 s3
          have fin := go ((if z = 0 then b else a) :: r) _ (putM r.length (if z = 0 then b else a)) (by simp; omega) ⟨mI_at, by rw [mI_self]; exact s4.up (Nat.le_refl _)⟩ (by simpa using w2)
          simp only [ev, h5, if_false, if_true]
          have x1 : nI (r.length + 1 + 1 + 1) + (-2) = nI (r.length + 1) := iI_n (a := r.length + 1) (b := 2)
          rw [if_pos (by decide), if_pos (by decide), List.length_cons, List.length_cons, List.length_cons, x1, nm_mk, L16, fo_mk, fo_mk, N16, nI_pred, ib_nI (by omega) (by omega), gd_mk, nI_clamp (by omega), s3]
          by_cases hz : z = 0
          · rw [if_pos hz, fo_mk, N16, nI_1, ib_nI (by omega) (by omega), gd_mk, gd_mk, nI_clamp (by omega), s1, nm_mk, nI_1, nm_mk]
            rw [if_pos hz] at fin ⊢
            exact fin
          · rw [if_neg hz, fo_mk, N16, ib_nI (by omega) (by omega), gd_mk, gd_mk, nI_clamp (by omega), s2, nm_mk, nI_1, nm_mk]
            rw [if_neg hz] at fin ⊢
            exact fin
      · simp only [wfs, h5, h12, if_false, Bool.and_eq_true, decide_eq_true_eq] at hw
        obtain ⟨w0, w1, w2⟩ := hw
        match st, w1 with
        | b :: a :: r, _ =>
          obtain ⟨s1, s2, s4⟩ := hs
          simp only [List.length_cons] at h13 w2 s1 s2
          have fin := go (op2 cd a b :: r) _ (putM r.length (op2 cd a b)) (by simp; omega) ⟨mI_at, by rw [mI_self]; exact s4.up (Nat.le_refl _)⟩ (by simpa using w2)
          simp only [ev, h5, h12, if_false]
          have x1 : nI (r.length + 1 + 1) + (-1) = nI (r.length + 1) := iI_n (a := r.length + 1) (b := 1)
          have n1 : (10100 : Int32) ≤ enc cd := by rcases op2_cases w0 h5 with rfl | rfl | rfl | rfl | rfl | rfl <;> decide
          have n2 : ¬ enc cd = 10106 := by rcases op2_cases w0 h5 with rfl | rfl | rfl | rfl | rfl | rfl <;> decide
          rw [if_pos n1, if_neg n2, List.length_cons, List.length_cons, x1, nm_mk, L16, fo_mk, fo_mk, N16, nI_pred, ib_nI (by omega) (by omega), gd_mk, fo_mk, N16, ib_nI (by omega) (by omega), gd_mk, nI_clamp (by omega), nI_clamp (by omega), s1, s2, X10_both_eq w0 h5, b2_mk, N16, ib_nI (by omega) (by omega), gd_mk, nm_mk, nI_1, nm_mk]
          exact fin

/-! PURE LAYER 36: the reference's expression against the class's reading -/
theorem B220 {h f : Nat} {ν0 ν : XMem} {R : Nat → XMem → Option XMem} (s : WS h ν0 ν f) (x2 x : Int32) : ∃ ν', f_X10_expression_j220 R h x2 x h ν = some ν' ∧ WS h ν0 ν' f := by
  obtain ⟨n1, n2⟩ := s.need x
  refine ⟨_, ?_, n2.dep (x := mI (sI ν h 12 1) h 10 - 1)⟩
  unfold f_X10_expression_j220
  rw [n1, b1_mk, nm_mk, n2.dep.emit, b1_mk]
theorem B201 {h n f : Nat} {β : Nat → Nat} {ν0 ν : XMem} {R : Nat → XMem → Option XMem} (b : Bs h n β ν0) (hf : f ≤ n) (s : WS h ν0 ν f) (x2 : Int32) : ∃ ν', f_X10_expression_j201 R h x2 ν = some ν' ∧ WS h ν0 ν' f := by
  unfold f_X10_expression_j201
  rw [s.byte b hf, b2_mk]
  split
  · exact B220 s x2 1
  · exact B220 s x2 0
theorem B194 {h n f : Nat} {β : Nat → Nat} {ν0 ν : XMem} {R : Nat → XMem → Option XMem} (hR : ∀ ν f, WS h ν0 ν f → R h ν = some ν) (b : Bs h n β ν0) (hf : f ≤ n) (s : WS h ν0 ν f) (x2 x : Int32) : ∃ ν', f_X10_expression_j194 R h x2 x h ν = some ν' ∧ WS h ν0 ν' f := by
  obtain ⟨n1, n2⟩ := s.need x
  unfold f_X10_expression_j194
  rw [n1, b1_mk, hR _ _ n2, b1_mk]
  exact B201 b hf n2 x2
theorem B162t {h n f : Nat} {β : Nat → Nat} {ν0 ν : XMem} {R : Nat → XMem → Option XMem} (hR : ∀ ν f, WS h ν0 ν f → R h ν = some ν) (b : Bs h n β ν0) (hf : f ≤ n) (s : WS h ν0 ν f) (x2 : Int32) : ∃ ν', (if x2 = 6 then (b2 (f_X10_byteAt h (mI ν h 8) ν) fun r129 m128 => if r129 = 44 then (f_X10_expression_j194 R h x2 1 h m128) else (f_X10_expression_j194 R h x2 0 h m128)) else (f_X10_expression_j201 R h x2 ν)) = some ν' ∧ WS h ν0 ν' f := by
  split
  · rw [s.byte b hf, b2_mk]
    split
    · exact B194 hR b hf s x2 1
    · exact B194 hR b hf s x2 0
  · exact B201 b hf s x2
theorem B162 {h n f : Nat} {β : Nat → Nat} {ν0 ν : XMem} {R : Nat → XMem → Option XMem} (hR : ∀ ν f, WS h ν0 ν f → R h ν = some ν) (b : Bs h n β ν0) (hf : f ≤ n) (s : WS h ν0 ν f) (x2 x : Int32) : ∃ ν', f_X10_expression_j162 R h x2 x h ν = some ν' ∧ WS h ν0 ν' f := by
  obtain ⟨n1, n2⟩ := s.need x
  unfold f_X10_expression_j162
  rw [n1, b1_mk, hR _ _ n2, b1_mk]
  exact B162t hR b hf n2 x2
theorem B126t {h n f : Nat} {β : Nat → Nat} {ν0 ν : XMem} {R : Nat → XMem → Option XMem} (hR : ∀ ν f, WS h ν0 ν f → R h ν = some ν) (b : Bs h n β ν0) (hf : f ≤ n) (s : WS h ν0 ν f) (x2 : Int32) : ∃ ν', (b2 (f_X10_byteAt h (mI ν h 8) ν) fun r125 m124 => if r125 = 44 then (f_X10_expression_j162 R h x2 1 h m124) else (f_X10_expression_j162 R h x2 0 h m124)) = some ν' ∧ WS h ν0 ν' f := by
  rw [s.byte b hf, b2_mk]
  split
  · exact B162 hR b hf s x2 1
  · exact B162 hR b hf s x2 0
/-- a place where the reference needs what isn't there -/
theorem B126 {h n p d : Nat} {β : Nat → Nat} {ν0 ν : XMem} {K : List Int32} {R : Nat → XMem → Option XMem} (hR : ∀ ν f, WS h ν0 ν f → R h ν = some ν) (b : Bs h n β ν0) (hp : p ≤ n) (s : GS h n β ν0 ν p d K) (x2 : Int32) : ∃ ν', f_X10_expression_j126 R h x2 0 h ν = some ν' ∧ WS h ν0 ν' p := by
  obtain ⟨n1, n2⟩ := s.bad
  unfold f_X10_expression_j126
  rw [n1, b1_mk, nm_mk, hR _ _ n2.dep, b1_mk]
  exact B126t hR b hp n2.dep x2
def FN (h n : Nat) (β : Nat → Nat) (ν0 : XMem) (d : Nat) (S : List (Int32 × Nat)) (c : Int32) (p : Nat) (K : List Int32) (m : Nat) (pd : Int32) (Sx : List (Int32 × Nat)) (a e : Nat) (ν' : XMem) : Prop :=
  (∃ p' ks pd' m', GS h n β ν0 ν' p' d (K ++ (ks ++ [c])) ∧ p' ≤ n ∧ p + (ks.length + 1) ≤ p' ∧ n < m' + p' ∧ cR n β m p 2 Sx pd K = cR n β m' p' 2 S pd' (K ++ (ks ++ [c])) ∧ (∀ hg, hg ≤ 2 * d → ∀ r, wfs (ks ++ r) (hg + a) = wfs r (hg + e))) ∨ (∃ f, f ≤ n ∧ WS h ν0 ν' f ∧ cR n β m p 2 Sx pd K = .inl f)
theorem bt_no {n p c : Nat} {β : Nat → Nat} {x : Int32} (hb : ∀ k, k < n → β k ≤ 255) (hc : c ≤ 255) (hx : x = nI c) (hn : ¬ (p < n ∧ β p = c)) : ¬ bt n β p = x := fun q => hn ((bt_eq hb hc).mp (by rw [← hx]; exact q))
theorem bt_yes {n p c : Nat} {β : Nat → Nat} {x : Int32} (hb : ∀ k, k < n → β k ≤ 255) (hc : c ≤ 255) (hx : x = nI c) (hn : p < n ∧ β p = c) : bt n β p = x := by rw [hx]; exact (bt_eq hb hc).mpr hn
def FC (h n : Nat) (β : Nat → Nat) (ν0 : XMem) (d : Nat) (S : List (Int32 × Nat)) (c : Int32) (p : Nat) (K : List Int32) (m : Nat) (pd : Int32) (ν' : XMem) : Prop :=
  (∃ p' m', GS h n β ν0 ν' p' d (K ++ [c]) ∧ p' ≤ n ∧ p + 1 ≤ p' ∧ n < m' + p' ∧ cR n β m p 2 ((c, 0) :: S) pd K = cR n β m' p' 2 S pd (K ++ [c])) ∨ (∃ f, f ≤ n ∧ WS h ν0 ν' f ∧ cR n β m p 2 ((c, 0) :: S) pd K = .inl f)
theorem G201 {h n p d m : Nat} {β : Nat → Nat} {ν0 ν : XMem} {K : List Int32} {S : List (Int32 × Nat)} {c pd x2 : Int32} {R : Nat → XMem → Option XMem} (b : Bs h n β ν0) (s : GS h n β ν0 ν p (d + 1) K) (hp : p ≤ n) (hK : K.length ≤ p) (hm : n < m + p) (hx : 10100 + x2 = enc c) : ∃ ν', f_X10_expression_j201 R h x2 ν = some ν' ∧ FC h n β ν0 d S c p K m pd ν' := by
  have h100 := b.2.1.2.2.1
  have hb := b.2.1.2.2.2
  obtain ⟨m, rfl⟩ : ∃ q, m = q + 1 := ⟨m - 1, by omega⟩
  unfold f_X10_expression_j201
  rw [s.byte b hp, b2_mk]
  by_cases hq : p < n ∧ β p = 41
  · rw [if_pos (bt_yes (c := 41) (x := 41) hb (by omega) rfl hq)]
    have hg := nx_gt (β := β) hq.1
    obtain ⟨ν1, z1, z2⟩ := s.need b hp
    have z3 : GS h n β ν0 (sI ν1 h 10 (mI ν1 h 10 - 1)) (nx n β p) d K := by
      rw [z2.2.2.2.1, nI_pred]
      exact z2.dep
    obtain ⟨ν2, y1, y2⟩ := z3.emit b (by omega) c
    refine ⟨ν2, ?_, Or.inl ⟨nx n β p, m, y2, nx_le hp, by omega, by omega, cR_close hq.1 hq.2⟩⟩
    unfold f_X10_expression_j220
    rw [z1, b1_mk, nm_mk, hx, y1, b1_mk]
  · rw [if_neg (bt_no (c := 41) (x := 41) hb (by omega) rfl hq)]
    obtain ⟨n1, n2⟩ := s.bad
    refine ⟨_, ?_, Or.inr ⟨p, hp, n2.dep (x := mI (sI ν h 12 1) h 10 - 1), cR_close_no hp hq⟩⟩
    unfold f_X10_expression_j220
    rw [n1, b1_mk, nm_mk, n2.dep.emit, b1_mk]
def ER (h n : Nat) (β : Nat → Nat) (ν0 : XMem) (d : Nat) (S : List (Int32 × Nat)) (p : Nat) (K : List Int32) (m : Nat) (pd : Int32) (ν' : XMem) : Prop :=
  (∃ p' ks pd' m', GS h n β ν0 ν' p' d (K ++ ks) ∧ p' ≤ n ∧ p + ks.length ≤ p' ∧ n < m' + p' ∧ cR n β m p 0 S pd K = cR n β m' p' 2 S pd' (K ++ ks) ∧ (∀ hg, hg ≤ 2 * d → ∀ r, wfs (ks ++ r) hg = wfs r (hg + 1))) ∨ (∃ f, f ≤ n ∧ WS h ν0 ν' f ∧ cR n β m p 0 S pd K = .inl f)
def RecOk (h n : Nat) (β : Nat → Nat) (ν0 : XMem) (R : Nat → XMem → Option XMem) (d : Nat) : Prop := ∀ (p : Nat) (K : List Int32) (S : List (Int32 × Nat)) (pd : Int32) (ν : XMem) (m : Nat), S.length = d → p ≤ n → GS h n β ν0 ν p d K → K.length ≤ p → n < m + p → ∃ ν', R h ν = some ν' ∧ ER h n β ν0 d S p K m pd ν'
theorem G194 {h n p d m : Nat} {β : Nat → Nat} {ν0 ν : XMem} {K : List Int32} {S : List (Int32 × Nat)} {c pd x2 : Int32} {R : Nat → XMem → Option XMem} (hR : ∀ ν f, WS h ν0 ν f → R h ν = some ν) (hG : RecOk h n β ν0 R (d + 1)) (b : Bs h n β ν0) (s : GS h n β ν0 ν p (d + 1) K) (hS : S.length = d) (hp : p ≤ n) (hK : K.length ≤ p) (hm : n < m + p) (hx : 10100 + x2 = enc c) :
    ∃ ν', (b2 (f_X10_byteAt h (mI ν h 8) ν) fun r129 m128 => if r129 = 44 then (f_X10_expression_j194 R h x2 1 h m128) else (f_X10_expression_j194 R h x2 0 h m128)) = some ν' ∧ FN h n β ν0 d S c p K m pd ((c, 1) :: S) 2 3 ν' := by
  have h100 := b.2.1.2.2.1
  have hb := b.2.1.2.2.2
  obtain ⟨m, rfl⟩ : ∃ q, m = q + 1 := ⟨m - 1, by omega⟩
  rw [s.byte b hp, b2_mk]
  by_cases hq : p < n ∧ β p = 44
  · rw [if_pos (bt_yes (c := 44) (x := 44) hb (by omega) rfl hq)]
    have hg := nx_gt (β := β) hq.1
    obtain ⟨ν1, z1, z2⟩ := s.need b hp
    obtain ⟨ν2, y1, y2⟩ := hG (nx n β p) K ((c, 0) :: S) pd ν1 m (by simp [hS]) (nx_le hp) z2 (by omega) (by omega)
    unfold f_X10_expression_j194
    rw [z1, b1_mk, y1, b1_mk]
    rcases y2 with ⟨p', ks, pd', m', g1, g2, g3, g4, g5, g6⟩ | ⟨f, g1, g2, g3⟩
    · obtain ⟨ν3, w1, w2⟩ := G201 (R := R) (S := S) (pd := pd') b g1 g2 (by rw [List.length_append]; omega) g4 hx
      refine ⟨ν3, w1, ?_⟩
      rcases w2 with ⟨p'', m'', q1, q2, q3, q4, q5⟩ | ⟨f, q1, q2, q3⟩
      · rw [List.append_assoc] at q1 q5
        refine Or.inl ⟨p'', ks, pd', m'', q1, q2, by omega, q4, by rw [cR_comma hq.1 hq.2, g5, q5], fun hg' hh r => g6 (hg' + 2) (by omega) r⟩
      · exact Or.inr ⟨f, q1, q2, by rw [cR_comma hq.1 hq.2, g5, q3]⟩
    · obtain ⟨ν3, w1, w2⟩ := B201 (R := R) b g1 g2 x2
      exact ⟨ν3, w1, Or.inr ⟨f, g1, w2, by rw [cR_comma hq.1 hq.2, g3]⟩⟩
  · rw [if_neg (bt_no (c := 44) (x := 44) hb (by omega) rfl hq)]
    obtain ⟨n1, n2⟩ := s.bad
    unfold f_X10_expression_j194
    rw [n1, b1_mk, hR _ _ n2, b1_mk]
    obtain ⟨ν3, w1, w2⟩ := B201 (R := R) b hp n2 x2
    exact ⟨ν3, w1, Or.inr ⟨p, hp, w2, cR_comma_no hp hq⟩⟩
theorem G162 {h n p d m du e : Nat} {β : Nat → Nat} {ν0 ν : XMem} {K : List Int32} {S : List (Int32 × Nat)} {c pd x2 : Int32} {R : Nat → XMem → Option XMem} (hR : ∀ ν f, WS h ν0 ν f → R h ν = some ν) (hG : RecOk h n β ν0 R (d + 1)) (b : Bs h n β ν0) (s : GS h n β ν0 ν p (d + 1) K) (hS : S.length = d) (hp : p ≤ n) (hK : K.length ≤ p) (hm : n < m + p) (hx : 10100 + x2 = enc c) (hd : (x2 = 6 ∧ du = 2 ∧ e = 3) ∨ (¬ x2 = 6 ∧ du = 1 ∧ e = 2)) :
    ∃ ν', (b2 (f_X10_byteAt h (mI ν h 8) ν) fun r125 m124 => if r125 = 44 then (f_X10_expression_j162 R h x2 1 h m124) else (f_X10_expression_j162 R h x2 0 h m124)) = some ν' ∧ FN h n β ν0 d S c p K m pd ((c, du) :: S) 1 e ν' := by
  have h100 := b.2.1.2.2.1
  have hb := b.2.1.2.2.2
  obtain ⟨m, rfl⟩ : ∃ q, m = q + 1 := ⟨m - 1, by omega⟩
  obtain ⟨du, rfl⟩ : ∃ q, du = q + 1 := ⟨du - 1, by omega⟩
  rw [s.byte b hp, b2_mk]
  by_cases hq : p < n ∧ β p = 44
  · rw [if_pos (bt_yes (c := 44) (x := 44) hb (by omega) rfl hq)]
    have hg := nx_gt (β := β) hq.1
    obtain ⟨ν1, z1, z2⟩ := s.need b hp
    obtain ⟨ν2, y1, y2⟩ := hG (nx n β p) K ((c, du) :: S) pd ν1 m (by simp [hS]) (nx_le hp) z2 (by omega) (by omega)
    unfold f_X10_expression_j162
    rw [z1, b1_mk, y1, b1_mk]
    rcases y2 with ⟨p', ks, pd', m', g1, g2, g3, g4, g5, g6⟩ | ⟨f, g1, g2, g3⟩
    · have hKs : (K ++ ks).length ≤ p' := by rw [List.length_append]; omega
      rcases hd with ⟨hx6, hdu, rfl⟩ | ⟨hx6, hdu, rfl⟩
      · obtain rfl : du = 1 := by omega
        rw [if_pos hx6]
        obtain ⟨ν3, w1, w2⟩ := G194 (S := S) (pd := pd') hR hG b g1 hS g2 hKs g4 hx
        refine ⟨ν3, w1, ?_⟩
        rcases w2 with ⟨p'', ks', pd'', m'', q1, q2, q3, q4, q5, q6⟩ | ⟨f, q1, q2, q3⟩
        · have ea : K ++ ks ++ (ks' ++ [c]) = K ++ (ks ++ ks' ++ [c]) := by simp
          rw [ea] at q1 q5
          refine Or.inl ⟨p'', ks ++ ks', pd'', m'', q1, q2, by rw [List.length_append]; omega, q4, by rw [cR_comma hq.1 hq.2, g5, q5], fun hg' hh r => ?_⟩
          rw [List.append_assoc, g6 (hg' + 1) (by omega)]
          exact q6 hg' hh r
        · exact Or.inr ⟨f, q1, q2, by rw [cR_comma hq.1 hq.2, g5, q3]⟩
      · obtain rfl : du = 0 := by omega
        rw [if_neg hx6]
        obtain ⟨ν3, w1, w2⟩ := G201 (R := R) (S := S) (pd := pd') b g1 g2 hKs g4 hx
        refine ⟨ν3, w1, ?_⟩
        rcases w2 with ⟨p'', m'', q1, q2, q3, q4, q5⟩ | ⟨f, q1, q2, q3⟩
        · rw [List.append_assoc] at q1 q5
          exact Or.inl ⟨p'', ks, pd', m'', q1, q2, by omega, q4, by rw [cR_comma hq.1 hq.2, g5, q5], fun hg' hh r => g6 (hg' + 1) (by omega) r⟩
        · exact Or.inr ⟨f, q1, q2, by rw [cR_comma hq.1 hq.2, g5, q3]⟩
    · obtain ⟨ν3, w1, w2⟩ := B162t hR b g1 g2 x2
      exact ⟨ν3, w1, Or.inr ⟨f, g1, w2, by rw [cR_comma hq.1 hq.2, g3]⟩⟩
  · rw [if_neg (bt_no (c := 44) (x := 44) hb (by omega) rfl hq)]
    obtain ⟨n1, n2⟩ := s.bad
    unfold f_X10_expression_j162
    rw [n1, b1_mk, hR _ _ n2, b1_mk]
    obtain ⟨ν3, w1, w2⟩ := B162t hR b hp n2 x2
    exact ⟨ν3, w1, Or.inr ⟨p, hp, w2, cR_comma_no hp hq⟩⟩
/-- the codes of functions -/
theorem ac_cases {c : Int32} (h : c = -12 ∨ c = -11 ∨ c = -10 ∨ c = -9 ∨ c = -8 ∨ c = -7 ∨ c = -6) : ¬ acI c < 0 ∧ nmI c < 0 ∧ 10100 + acI c = enc c ∧ ¬ -5 ≤ c ∧ ¬ c = -13 ∧ ((acI c = 6 ∧ c = -12) ∨ (¬ acI c = 6 ∧ ¬ c = -12)) := by
  rcases h with rfl | rfl | rfl | rfl | rfl | rfl | rfl <;> decide
theorem nm_cases {c : Int32} (h : c = -5 ∨ c = -4 ∨ c = -3 ∨ c = -2 ∨ c = -1) : ¬ nmI c < 0 ∧ 10000 + nmI c = enc c ∧ -5 ≤ c ∧ ¬ c = -13 ∧ c ≤ 9999 := by
  rcases h with rfl | rfl | rfl | rfl | rfl <;> decide
theorem wc_cases (n : Nat) (β : Nat → Nat) (p : Nat) : wc n β p = -13 ∨ (wc n β p = -5 ∨ wc n β p = -4 ∨ wc n β p = -3 ∨ wc n β p = -2 ∨ wc n β p = -1) ∨ (wc n β p = -12 ∨ wc n β p = -11 ∨ wc n β p = -10 ∨ wc n β p = -9 ∨ wc n β p = -8 ∨ wc n β p = -7 ∨ wc n β p = -6) := by
  unfold wc
  by_cases h : te n β p - p ≤ 4
  · rw [if_pos h]
    generalize w2s β (te n β p - p) p 0 = x
    unfold cdN
    repeat' split
    all_goals decide
  · rw [if_neg h]
    decide
theorem wfs_F {c : Int32} (h : c = -12 ∨ c = -11 ∨ c = -10 ∨ c = -9 ∨ c = -8 ∨ c = -7 ∨ c = -6) {hg e : Nat} (he : (c = -12 ∧ e = 3) ∨ (¬ c = -12 ∧ e = 2)) (r : List Int32) : wfs (c :: r) (hg + e) = wfs r (hg + 1) := by
  have n5 : ¬ -5 ≤ c := (ac_cases h).2.2.2.1
  rw [wfs, if_neg n5]
  rcases he with ⟨hc, rfl⟩ | ⟨hc, rfl⟩
  · rw [if_pos hc, show hg + 3 - 2 = hg + 1 by omega]
    simp
  · rw [if_neg hc, show hg + 2 - 1 = hg + 1 by omega]
    have : -11 ≤ c := by rcases h with rfl | rfl | rfl | rfl | rfl | rfl | rfl <;> first | exact absurd rfl hc | decide
    simp [this]
theorem G126 {h n p d m : Nat} {β : Nat → Nat} {ν0 ν : XMem} {K : List Int32} {S : List (Int32 × Nat)} {c : Int32} {R : Nat → XMem → Option XMem} (hR : ∀ ν f, WS h ν0 ν f → R h ν = some ν) (hG : RecOk h n β ν0 R (d + 1)) (b : Bs h n β ν0) (s : GS h n β ν0 ν p d K) (hS : S.length = d) (hp : p < n) (hbp : β p = 40) (hd5 : d < 5) (hK : K.length ≤ p) (hm : n < m + p) (hc : c = -12 ∨ c = -11 ∨ c = -10 ∨ c = -9 ∨ c = -8 ∨ c = -7 ∨ c = -6) :
    ∃ ν', f_X10_expression_j126 R h (acI c) 1 h ν = some ν' ∧ ((∃ p' ks pd' m', GS h n β ν0 ν' p' d (K ++ ks) ∧ p' ≤ n ∧ p + ks.length ≤ p' ∧ n < m' + p' ∧ cR n β m p 1 S c K = cR n β m' p' 2 S pd' (K ++ ks) ∧ (∀ hg, hg ≤ 2 * d → ∀ r, wfs (ks ++ r) hg = wfs r (hg + 1))) ∨ (∃ f, f ≤ n ∧ WS h ν0 ν' f ∧ cR n β m p 1 S c K = .inl f)) := by
  obtain ⟨a1, a2, a3, a4, a5, a6⟩ := ac_cases hc
  obtain ⟨m, rfl⟩ : ∃ q, m = q + 1 := ⟨m - 1, by omega⟩
  have hg0 := nx_gt (β := β) hp
  obtain ⟨ν1, z1, z2⟩ := s.need b (by omega)
  have z3 : GS h n β ν0 (sI ν1 h 10 (mI ν1 h 10 + 1)) (nx n β p) (d + 1) K := by
    rw [z2.2.2.2.1, nI_1]
    exact z2.dep
  obtain ⟨ν2, y1, y2⟩ := hG (nx n β p) K ((c, if c = -12 then 2 else 1) :: S) c _ m (by simp [hS]) (nx_le (by omega)) z3 (by omega) (by omega)
  unfold f_X10_expression_j126
  rw [z1, b1_mk, nm_mk, y1, b1_mk, cR_open hp hbp (by omega)]
  rcases y2 with ⟨p', ks, pd', m', g1, g2, g3, g4, g5, g6⟩ | ⟨f, g1, g2, g3⟩
  · obtain ⟨e, he1, he2⟩ : ∃ e, ((acI c = 6 ∧ (if c = -12 then 2 else 1) = 2 ∧ e = 3) ∨ (¬ acI c = 6 ∧ (if c = -12 then 2 else 1) = 1 ∧ e = 2)) ∧ ((c = -12 ∧ e = 3) ∨ (¬ c = -12 ∧ e = 2)) := by
      rcases a6 with ⟨t1, t2⟩ | ⟨t1, t2⟩
      · exact ⟨3, Or.inl ⟨t1, by rw [if_pos t2], rfl⟩, Or.inl ⟨t2, rfl⟩⟩
      · exact ⟨2, Or.inr ⟨t1, by rw [if_neg t2], rfl⟩, Or.inr ⟨t2, rfl⟩⟩
    obtain ⟨ν3, w1, w2⟩ := G162 (S := S) (pd := pd') hR hG b g1 hS g2 (by rw [List.length_append]; omega) g4 a3 he1
    refine ⟨ν3, w1, ?_⟩
    rcases w2 with ⟨p'', ks', pd'', m'', q1, q2, q3, q4, q5, q6⟩ | ⟨f, q1, q2, q3⟩
    · have ea : K ++ ks ++ (ks' ++ [c]) = K ++ (ks ++ (ks' ++ [c])) := by simp
      rw [ea] at q1 q5
      refine Or.inl ⟨p'', ks ++ (ks' ++ [c]), pd'', m'', q1, q2, ?_, q4, by rw [g5, q5], fun hg' hh r => ?_⟩
      · have : (ks ++ (ks' ++ [c])).length = ks.length + (ks'.length + 1) := by simp
        omega
      · rw [List.append_assoc, g6 hg' (by omega), List.append_assoc, q6 hg' hh]
        exact wfs_F hc he2 r
    · exact Or.inr ⟨f, q1, q2, by rw [g5, q3]⟩
  · obtain ⟨ν3, w1, w2⟩ := B126t hR b g1 g2 (acI c)
    exact ⟨ν3, w1, Or.inr ⟨f, g1, w2, g3⟩⟩
set_option maxHeartbeats 400000 in
theorem expr_b {h n d : Nat} {β : Nat → Nat} {ν0 : XMem} {R : Nat → XMem → Option XMem} (hR : ∀ ν f, WS h ν0 ν f → R h ν = some ν) (hG : d < 5 → RecOk h n β ν0 R (d + 1)) (b : Bs h n β ν0) (hd5 : d ≤ 5) : RecOk h n β ν0 (f_X10_expression_b R) d := by
  intro p K S pd ν m hS hp s hK hm
  have h100 := b.2.1.2.2.1
  have hb := b.2.1.2.2.2
  obtain ⟨m, rfl⟩ : ∃ q, m = q + 1 := ⟨m - 1, by omega⟩
  have bν := b.pf s.1
  have L := bν.1
  have lnm : mR ν h 14 = some (h + 8) := L.1.2.2.2.2.2.2.2.1
  have lac : mR ν h 15 = some (h + 9) := L.1.2.2.2.2.2.2.2.2.1
  unfold f_X10_expression_b
  rw [if_pos s.2.2.2.2.2.1, s.byte b hp, b2_mk, X10_isDigit_eq hb, b2_mk]
  by_cases hdg : dB n β p = true
  · have hpn := (dB_t.mp hdg).1
    have hl : ¬ lB n β p = true := fun q => by have := dB_t.mp hdg; have := lB_t.mp q; omega
    have hg := nx_gt (β := β) hpn
    have hnv : nv n β p ≤ 10000 := nvs_le β _ _ _ (by omega)
    have een : enc (nI (nv n β p)) = nI (nv n β p) := by unfold enc; rw [if_pos (nI_pos' (by omega))]
    rw [if_pos hdg, if_neg one_nz, number_eq L bν.2.1 hp hdg s.2.1 s.2.2.1, b2_mk]
    obtain ⟨ν1, z1, z2⟩ := s.emit b (by omega) (nI (nv n β p))
    rw [een] at z1
    rw [z1, b1_mk]
    have eR : cR n β (m + 1) p 0 S pd K = if nv n β p ≤ 9999 then cR n β m (nx n β p) 2 S pd (K ++ [nI (nv n β p)]) else .inl p := by
      rw [cR, if_neg (by omega), if_neg hl, if_pos hdg]
      by_cases t : nv n β p ≤ 9999
      · rw [if_pos ⟨rfl, t⟩, if_pos t]
      · rw [if_neg (fun q => t q.2), if_neg t]
    by_cases hv : nv n β p ≤ 9999
    · have hv' : ¬ (10000 : Int32) ≤ nI (nv n β p) := nI_ge (b := 10000) (by omega) (by omega)
      rw [if_neg hv']
      obtain ⟨ν2, y1, y2⟩ := z2.need b hp
      refine ⟨ν2, by rw [y1, b1_mk], Or.inl ⟨nx n β p, [nI (nv n β p)], pd, m, y2, nx_le hp, by simp; omega, by omega, by rw [eR, if_pos hv], fun hg' hh r => ?_⟩⟩
      have c5 : -5 ≤ nI (nv n β p) := by rw [le_iff, nI_toInt (by omega)]; show (-5 : Int) ≤ _; omega
      have c9 : nI (nv n β p) ≤ 9999 := nI_le (b := 9999) hv (by omega)
      show wfs (nI (nv n β p) :: r) hg' = _
      rw [wfs, if_pos c5]
      simp [c9, show hg' + 1 ≤ 13 by omega]
    · have hv' : (10000 : Int32) ≤ nI (nv n β p) := nI_le (a := 10000) (by omega) (by omega)
      rw [if_pos hv']
      obtain ⟨y1, y2⟩ := z2.bad
      exact ⟨_, by rw [y1, b1_mk], Or.inr ⟨p, hp, y2, by rw [eR, if_neg hv]⟩⟩
  · rw [if_neg hdg, if_pos rfl, lnm, fo_mk, names_eq L bν.2.1 bν.2.2 hp s.2.1 s.2.2.1, b2_mk, lac, fo_mk, acts_eq L bν.2.1 bν.2.2 hp s.2.1 s.2.2.1, b2_mk]
    have badname : ∀ x2 : Int32, cR n β (m + 1) p 0 S pd K = .inl p → ∃ ν', f_X10_expression_j96 R h x2 0 h ν = some ν' ∧ ER h n β ν0 d S p K (m + 1) pd ν' := by
      intro x2 hcR
      obtain ⟨n1, n2⟩ := s.bad
      unfold f_X10_expression_j96
      rw [n1, b1_mk, n2.byte b hp, b2_mk]
      have j125 : ∀ x : Int32, ∃ ν', f_X10_expression_j126 R h x2 x h (sI ν h 12 1) = some ν' ∧ WS h ν0 ν' p := by
        intro x
        obtain ⟨k1, k2⟩ := n2.need x
        unfold f_X10_expression_j126
        rw [k1, b1_mk, nm_mk, hR _ _ k2.dep, b1_mk]
        exact B126t hR b hp k2.dep x2
      have fin : ∀ x : Int32, ∃ ν', f_X10_expression_j126 R h x2 x h (sI ν h 12 1) = some ν' ∧ ER h n β ν0 d S p K (m + 1) pd ν' := fun x => by
        obtain ⟨ν', t1, t2⟩ := j125 x
        exact ⟨ν', t1, Or.inr ⟨p, hp, t2, hcR⟩⟩
      unfold f_X10_expression_j125
      split
      · split
        · exact fin 0
        · exact fin 1
      · exact fin 0
    by_cases hl : lB n β p = true
    · have hpn := (lB_t.mp hl).1
      have hg := nx_gt (β := β) hpn
      rw [if_pos hl, if_pos hl]
      rcases wc_cases n β p with hw | hw | hw
      · have e1 : nmI (wc n β p) < 0 := by rw [hw]; decide
        have e2 : acI (wc n β p) < 0 := by rw [hw]; decide
        rw [if_pos e1, if_pos e2]
        refine badname _ ?_
        rw [cR, if_neg (by omega), if_pos hl, if_neg (fun q => q.2 hw)]
      · obtain ⟨a1, a2, a3, a4, a5⟩ := nm_cases hw
        rw [if_neg a1]
        obtain ⟨ν1, z1, z2⟩ := s.emit b (by omega) (wc n β p)
        rw [a2, z1, b1_mk]
        obtain ⟨ν2, y1, y2⟩ := z2.need b hp
        refine ⟨ν2, by rw [y1, b1_mk], Or.inl ⟨nx n β p, [wc n β p], pd, m, y2, nx_le hp, by simp; omega, by omega, ?_, fun hg' hh r => ?_⟩⟩
        · rw [cR, if_neg (by omega), if_pos hl, if_pos ⟨rfl, a4⟩, if_pos a3]
        · show wfs (wc n β p :: r) hg' = _
          rw [wfs, if_pos a3]
          simp [a5, show hg' + 1 ≤ 13 by omega]
      · obtain ⟨a1, a2, a3, a4, a5, a6⟩ := ac_cases hw
        rw [if_pos a2, if_neg a1]
        have eR : cR n β (m + 1) p 0 S pd K = cR n β m (nx n β p) 1 S (wc n β p) K := by
          rw [cR, if_neg (by omega), if_pos hl, if_pos ⟨rfl, a5⟩, if_neg a4]
        obtain ⟨ν1, z1, z2⟩ := s.need b hp
        have hp1 := nx_le (β := β) hp
        obtain ⟨m, rfl⟩ : ∃ q, m = q + 1 := ⟨m - 1, by omega⟩
        unfold f_X10_expression_j96
        rw [z1, b1_mk, z2.byte b hp1, b2_mk]
        unfold ER
        rw [eR]
        by_cases hq : nx n β p < n ∧ β (nx n β p) = 40
        · rw [if_pos (bt_yes (c := 40) (x := 40) hb (by omega) rfl hq), z2.2.2.2.1]
          by_cases h5 : 5 ≤ d
          · have h5' : (5 : Int32) ≤ nI d := nI_le (a := 5) h5 (by omega)
            rw [if_pos h5']
            unfold f_X10_expression_j125
            obtain ⟨ν2, y1, y2⟩ := B126 hR b hp1 z2 (acI (wc n β p))
            exact ⟨ν2, y1, Or.inr ⟨_, hp1, y2, cR_open_no hp1 (by omega)⟩⟩
          · have h5' : ¬ (5 : Int32) ≤ nI d := nI_ge (b := 5) (by omega) (by omega)
            rw [if_neg h5']
            obtain ⟨ν2, y1, y2⟩ := G126 (S := S) (m := m + 1) hR (hG (by omega)) b z2 hS hq.1 hq.2 (by omega) (by omega) (by omega) hw
            refine ⟨ν2, y1, ?_⟩
            rcases y2 with ⟨p', ks, pd', m', g1, g2, g3, g4, g5, g6⟩ | y2
            · exact Or.inl ⟨p', ks, pd', m', g1, g2, by omega, g4, g5, g6⟩
            · exact Or.inr y2
        · rw [if_neg (bt_no (c := 40) (x := 40) hb (by omega) rfl hq)]
          unfold f_X10_expression_j125
          obtain ⟨ν2, y1, y2⟩ := B126 hR b hp1 z2 (acI (wc n β p))
          exact ⟨ν2, y1, Or.inr ⟨_, hp1, y2, cR_open_no hp1 (fun q => hq ⟨q.1, q.2.1⟩)⟩⟩
    · rw [if_neg hl, if_neg hl, if_pos (by decide), if_pos (by decide)]
      refine badname _ ?_
      rw [cR]
      by_cases h0 : n ≤ p
      · rw [if_pos h0, if_neg (by omega), show n = p by omega]
      · rw [if_neg h0, if_neg hl, if_neg hdg]
        by_cases h3 : β p = 40
        · rw [if_pos h3, if_neg (by omega)]
        · rw [if_neg h3]
          by_cases h4 : β p = 44
          · rw [if_pos h4]
            cases cmS S with
            | none => rfl
            | some z => rfl
          · rw [if_neg h4]
            by_cases h5 : β p = 41
            · rw [if_pos h5]
              cases clS S with
              | none => rfl
              | some z => rfl
            · rw [if_neg h5]
theorem expr_w {h f r : Nat} {ν0 ν : XMem} (s : WS h ν0 ν f) : f_X10_expression (r + 1) h ν = some ν := by
  rw [f_X10_expression, f_X10_expression_b, s.2.2, if_neg one_nz]
theorem expr_ok {h n : Nat} {β : Nat → Nat} {ν0 : XMem} (b : Bs h n β ν0) : ∀ (r d : Nat), 8 ≤ r + d → d ≤ 5 → RecOk h n β ν0 (f_X10_expression r) d := by
  intro r
  induction r with
  | zero => intro d h1 h2; omega
  | succ r ih =>
    intro d h1 h2
    obtain ⟨r, rfl⟩ : ∃ q, r = q + 1 := ⟨r - 1, by omega⟩
    exact expr_b (R := f_X10_expression (r + 1)) (fun ν f s => expr_w s) (fun h5 => ih (d + 1) (by omega) (by omega)) b h2

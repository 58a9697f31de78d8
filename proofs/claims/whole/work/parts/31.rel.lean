/-! THE RELATION between the class's store μ (object at g) and the reference's store ν (object at h) -/
/-- a cell's numbers -/
def CInv (f : Nat → Int32) : Prop := ∃ u : Nat → Nat, (∀ k, k < 9 → f k = nI (u k)) ∧ u 0 ≤ 5 ∧ u 1 ≤ 9999 ∧ (1 ≤ u 2 ∧ u 2 ≤ 99) ∧ (1 ≤ u 3 ∧ u 3 ≤ 99) ∧ u 4 ≤ 100 ∧ u 5 ≤ 9999 ∧ u 6 ≤ 2100000 ∧ u 7 ≤ 999 ∧ u 8 ≤ 9999
/-- a house's numbers -/
def HInv (f : Nat → Int32) (b : Nat → Int64) (now nc : Nat) : Prop := ∃ u : Nat → Nat, f 0 = nI (u 0) ∧ f 1 = nI (u 1) ∧ f 2 = nI (u 2) ∧ f 3 = nI (u 3) ∧ f 5 = nI (u 5) ∧ f 8 = nI (u 8) ∧ f 12 = nI (u 12) ∧ u 0 < nc ∧ u 1 ≤ 99 ∧ u 2 ≤ 1 ∧ u 3 ≤ 1 ∧ u 5 ≤ now ∧ u 8 ≤ 2 ∧ u 12 ≤ 1 ∧
  (-(230000000 * (u 5 : Int)) ≤ (b 6).toInt ∧ (b 6).toInt ≤ 230000000 * (u 5 : Int)) ∧ (-(230000000 * (u 5 : Int)) ≤ (b 7).toInt ∧ (b 7).toInt ≤ 230000000 * (u 5 : Int))
/-- a code of the reference out of the class's -/
def enc (c : Int32) : Int32 := if 0 ≤ c then c else if -5 ≤ c then 9999 - c else 10094 - c
/-- a text is whole: from a height on, one is left; never more than 13 -/
def wfs : List Int32 → Nat → Bool
  | [], h => h == 1
  | c :: r, h => if -5 ≤ c then decide (c ≤ 9999) && (decide (h + 1 ≤ 13) && wfs r (h + 1)) else if c = -12 then decide (3 ≤ h) && wfs r (h - 2) else decide (-11 ≤ c) && (decide (2 ≤ h) && wfs r (h - 1))
def HT (μ : XMem) (lo ta : Nat) (t : List Int32) : Prop := lo ≤ ta ∧ ∃ ca, mR μ ta 0 = some ca ∧ lo ≤ ca ∧ mN μ ca = t.length ∧ ∀ k, k < t.length → mI μ ca k = t.getD k 0
def HO (μ : XMem) (lo : Nat) (o : Option Nat) (t : List Int32) : Prop := match o with
  | none => t = []
  | some ta => HT μ lo ta t ∧ t ≠ []
def TM (ν : XMem) (N i : Nat) (t : List Int32) : Prop := mI ν N (243 + 102 * i) = nI t.length ∧ ∀ k, k < t.length → mI ν N (244 + 102 * i + k) = enc (t.getD k 0)
def WFT (t : List Int32) : Prop := t.length ≤ 100 ∧ (t = [] ∨ wfs t 0 = true)
def RWn (μ : XMem) (A : Nat) (ν : XMem) (N now nc nl nh fl : Nat) : Prop :=
  (mI μ A 0 = nI now ∧ mI μ A 1 = nI nc ∧ mI μ A 2 = nI nl ∧ mI μ A 3 = nI nh ∧ mI μ A 4 = nI fl - 1) ∧ (mI ν N 0 = nI now ∧ mI ν N 1 = nI nc ∧ mI ν N 2 = nI nl ∧ mI ν N 3 = nI nh ∧ mI ν N 4 = nI fl) ∧ now ≤ 2000 ∧ nc ≤ 8 ∧ nl ≤ 6 ∧ nh ≤ 8 ∧ fl ≤ nl
def RWc (μ : XMem) (A : Nat) (ν : XMem) (N nc : Nat) : Prop := ∀ c, c < nc → (∀ k, k < 17 → mI μ (A + 6 + c) k = mI ν N (11 + 17 * c + k)) ∧ CInv (mI μ (A + 6 + c))
def RWh (μ : XMem) (A : Nat) (ν : XMem) (N B now nc nh : Nat) : Prop := ∀ c, c < nh → (∀ k, k < 6 → mI μ (A + 14 + c) k = mI ν N (147 + 12 * c + k)) ∧ (∀ k, k < 6 → mI μ (A + 14 + c) (8 + k) = mI ν N (147 + 12 * c + (6 + k))) ∧ mL μ (A + 14 + c) 6 = mL ν B (2 * c) ∧ mL μ (A + 14 + c) 7 = mL ν B (2 * c + 1) ∧ HInv (mI μ (A + 14 + c)) (mL μ (A + 14 + c)) now nc
def RWt (μ : XMem) (A lo : Nat) (ν : XMem) (N nl : Nat) (tx : Nat → List Int32) : Prop := nl ≤ 6 ∧
  (∀ i, i < nl → ∃ la ta, mR μ (A + 2) i = some la ∧ lo ≤ la ∧ mR μ la 0 = some ta ∧ mI μ la 1 = mI ν N (5 + i) ∧ HT μ lo ta (tx i) ∧ tx i ≠ []) ∧ HO μ lo (mR μ A 5) (tx 6) ∧ HO μ lo (mR μ A 6) (tx 7) ∧
  (∀ i, i < nl ∨ i = 6 ∨ i = 7 → TM ν N i (tx i) ∧ WFT (tx i))
def RW (μ : XMem) (A lo : Nat) (ν : XMem) (N B now nc nl nh fl : Nat) (tx : Nat → List Int32) : Prop :=
  RWn μ A ν N now nc nl nh fl ∧ RWc μ A ν N nc ∧ RWh μ A ν N B now nc nh ∧ RWt μ A lo ν N nl tx
def Rfound (g : Nat) (μ : XMem) (h : Nat) (ν : XMem) : Prop := ∀ k, k < 7 → mI μ (g + 52) k = mI ν (h + 5) k
def Rtape (g : Nat) (μ : XMem) (h : Nat) (ν : XMem) : Prop := ∃ n, n ≤ 100 ∧ mI μ (g + 45) 1 = nI n ∧ mI ν h 7 = nI n ∧ ∀ k, k < n → mI μ (g + 46) k &&& 255 = mI ν (h + 6) k
def Rsheet (g : Nat) (μ : XMem) (h : Nat) (ν : XMem) : Prop := ∀ s, s < 4 → ∃ z, z ≤ 40 ∧ mI μ (g + 55 + 2 * s) 0 = mI ν (h + 13) s ∧ mI μ (g + 55 + 2 * s) 1 = nI z ∧ mI ν (h + 14) s = nI z ∧ ∀ k, k < 40 → mL μ (g + 56 + 2 * s) k = mL ν (h + 15) (40 * s + k)
def Rkept (g : Nat) (μ : XMem) (h : Nat) (ν : XMem) : Prop := mI μ g 2 = mI ν h 5 ∧ (mI μ g 2 = 0 ∨ (mI μ g 2 = 1 ∧ ∃ now nc nl nh fl tx, RW μ (g + 23) (g + 63) ν (h + 2) (h + 4) now nc nl nh fl tx))
def Rlive (g : Nat) (μ : XMem) (h : Nat) (ν : XMem) : Prop := ∃ now nc nl nh fl tx, RW μ (g + 1) (g + 63) ν (h + 1) (h + 3) now nc nl nh fl tx
def Rcst (h : Nat) (ν : XMem) : Prop := (mI ν (h + 8) 0 = 16 ∧ mI ν (h + 8) 1 = 20 ∧ mI ν (h + 8) 2 = 8 ∧ mI ν (h + 8) 3 = 3 ∧ mI ν (h + 8) 4 = 23) ∧ (mI ν (h + 9) 0 = 20141 ∧ mI ν (h + 9) 1 = 398963 ∧ mI ν (h + 9) 2 = 13996 ∧ mI ν (h + 9) 3 = 525908 ∧ mI ν (h + 9) 4 = 13614 ∧ mI ν (h + 9) 5 = 13368 ∧ mI ν (h + 9) 6 = 294)
def Rel (g : Nat) (μ : XMem) (h : Nat) (ν : XMem) : Prop :=
  LC g (mR μ) (mN μ) ∧ LM h (mR ν) (mN ν) ∧ Rfound g μ h ν ∧ Rtape g μ h ν ∧ Rsheet g μ h ν ∧ Rkept g μ h ν ∧ Rlive g μ h ν ∧ Rcst h ν
/-! what a part of the relation looks at -/
theorem mI_ne {μ : XMem} {a k : Nat} {v : Int32} {x : Nat} (h : x ≠ a) : mI (sI μ a k v) x = mI μ x := u2_ne h
theorem mL_ne {μ : XMem} {a k : Nat} {v : Int64} {x : Nat} (h : x ≠ a) : mL (sL μ a k v) x = mL μ x := u2_ne h
theorem mI_at {μ : XMem} {a k : Nat} {v : Int32} : mI (sI μ a k v) a k = v := by simp [mI_sI]
theorem mI_off {μ : XMem} {a k : Nat} {v : Int32} {y : Nat} (h : y ≠ k) : mI (sI μ a k v) a y = mI μ a y := by simp [mI_sI, h]
theorem mL_at {μ : XMem} {a k : Nat} {v : Int64} : mL (sL μ a k v) a k = v := by simp [mL_sL]
theorem mL_off {μ : XMem} {a k : Nat} {v : Int64} {y : Nat} (h : y ≠ k) : mL (sL μ a k v) a y = mL μ a y := by simp [mL_sL, h]
theorem Rfound.cg {g h : Nat} {μ μ' ν ν' : XMem} (r : Rfound g μ h ν) (e1 : mI μ' (g + 52) = mI μ (g + 52)) (e2 : mI ν' (h + 5) = mI ν (h + 5)) : Rfound g μ' h ν' := by
  intro k hk
  rw [e1, e2]
  exact r k hk
theorem Rtape.cg {g h : Nat} {μ μ' ν ν' : XMem} (r : Rtape g μ h ν) (e1 : mI μ' (g + 45) = mI μ (g + 45)) (e2 : mI μ' (g + 46) = mI μ (g + 46)) (e3 : mI ν' h 7 = mI ν h 7) (e4 : mI ν' (h + 6) = mI ν (h + 6)) : Rtape g μ' h ν' := by
  obtain ⟨n, h1, h2, h3, h4⟩ := r
  refine ⟨n, h1, by rw [e1]; exact h2, by rw [e3]; exact h3, fun k hk => ?_⟩
  rw [e2, e4]
  exact h4 k hk
theorem Rsheet.cg {g h : Nat} {μ μ' ν ν' : XMem} (r : Rsheet g μ h ν) (e1 : ∀ s, s < 4 → mI μ' (g + 55 + 2 * s) = mI μ (g + 55 + 2 * s)) (e2 : ∀ s, s < 4 → mL μ' (g + 56 + 2 * s) = mL μ (g + 56 + 2 * s)) (e3 : mI ν' (h + 13) = mI ν (h + 13)) (e4 : mI ν' (h + 14) = mI ν (h + 14)) (e5 : mL ν' (h + 15) = mL ν (h + 15)) : Rsheet g μ' h ν' := by
  intro s hs
  obtain ⟨z, h1, h2, h3, h4, h5⟩ := r s hs
  refine ⟨z, h1, by rw [e1 s hs, e3]; exact h2, by rw [e1 s hs]; exact h3, by rw [e4]; exact h4, fun k hk => ?_⟩
  rw [e2 s hs, e5]
  exact h5 k hk
theorem Rcst.cg {h : Nat} {ν ν' : XMem} (r : Rcst h ν) (e1 : mI ν' (h + 8) = mI ν (h + 8)) (e2 : mI ν' (h + 9) = mI ν (h + 9)) : Rcst h ν' := by
  unfold Rcst
  rw [e1, e2]
  exact r
theorem HT.cg {μ μ' : XMem} {lo ta : Nat} {t : List Int32} (r : HT μ lo ta t) (e1 : ∀ q, lo ≤ q → mI μ' q = mI μ q) (e2 : ∀ q, lo ≤ q → mR μ' q = mR μ q) (e3 : ∀ q, lo ≤ q → mN μ' q = mN μ q) : HT μ' lo ta t := by
  obtain ⟨h0, ca, h1, h2, h3, h4⟩ := r
  exact ⟨h0, ca, by rw [e2 _ h0]; exact h1, h2, by rw [e3 _ h2]; exact h3, fun k hk => by rw [e1 _ h2]; exact h4 k hk⟩
theorem HO.cg {μ μ' : XMem} {lo : Nat} {o : Option Nat} {t : List Int32} (r : HO μ lo o t) (e1 : ∀ q, lo ≤ q → mI μ' q = mI μ q) (e2 : ∀ q, lo ≤ q → mR μ' q = mR μ q) (e3 : ∀ q, lo ≤ q → mN μ' q = mN μ q) : HO μ' lo o t := by
  cases o with
  | none => exact r
  | some ta => exact ⟨r.1.cg e1 e2 e3, r.2⟩
theorem RWt.cg {μ μ' ν ν' : XMem} {A lo N nl : Nat} {tx : Nat → List Int32} (r : RWt μ A lo ν N nl tx) (e1 : ∀ q, lo ≤ q → mI μ' q = mI μ q) (e2 : ∀ q, lo ≤ q → mR μ' q = mR μ q) (e3 : ∀ q, lo ≤ q → mN μ' q = mN μ q) (e4 : mR μ' (A + 2) = mR μ (A + 2)) (e5 : mR μ' A = mR μ A)
    (e6 : ∀ k, (5 ≤ k ∧ k < 11) ∨ 243 ≤ k → mI ν' N k = mI ν N k) : RWt μ' A lo ν' N nl tx := by
  obtain ⟨h0, h1, h2, h3, h4⟩ := r
  refine ⟨h0, fun i hi => ?_, by rw [e5]; exact h2.cg e1 e2 e3, by rw [e5]; exact h3.cg e1 e2 e3, fun i hi => ?_⟩
  · obtain ⟨la, ta, g1, g2, g3, g4, g5, g6⟩ := h1 i hi
    refine ⟨la, ta, by rw [e4]; exact g1, g2, by rw [e2 _ g2]; exact g3, ?_, g5.cg e1 e2 e3, g6⟩
    rw [e1 _ g2, e6 _ (by omega)]
    exact g4
  · obtain ⟨⟨g1, g2⟩, g3⟩ := h4 i hi
    exact ⟨⟨by rw [e6 _ (by omega)]; exact g1, fun k hk => by rw [e6 _ (by omega)]; exact g2 k hk⟩, g3⟩
theorem RWn.cg {μ μ' ν ν' : XMem} {A N now nc nl nh fl : Nat} (r : RWn μ A ν N now nc nl nh fl) (e1 : mI μ' A = mI μ A) (e2 : ∀ k, k < 5 → mI ν' N k = mI ν N k) : RWn μ' A ν' N now nc nl nh fl := by
  unfold RWn
  rw [e1, e2 0 (by decide), e2 1 (by decide), e2 2 (by decide), e2 3 (by decide), e2 4 (by decide)]
  exact r
theorem RWc.cg {μ μ' ν ν' : XMem} {A N nc : Nat} (r : RWc μ A ν N nc) (h8 : nc ≤ 8) (e1 : ∀ c, c < 8 → mI μ' (A + 6 + c) = mI μ (A + 6 + c)) (e2 : ∀ k, 11 ≤ k → k < 147 → mI ν' N k = mI ν N k) : RWc μ' A ν' N nc := by
  intro c hc
  rw [e1 c (by omega)]
  exact ⟨fun k hk => by rw [e2 _ (by omega) (by omega)]; exact (r c hc).1 k hk, (r c hc).2⟩
theorem RWh.cg {μ μ' ν ν' : XMem} {A N B now nc nh : Nat} (r : RWh μ A ν N B now nc nh) (h8 : nh ≤ 8) (e1 : ∀ c, c < 8 → mI μ' (A + 14 + c) = mI μ (A + 14 + c)) (e0 : ∀ c, c < 8 → mL μ' (A + 14 + c) = mL μ (A + 14 + c)) (e2 : ∀ k, 147 ≤ k → k < 243 → mI ν' N k = mI ν N k) (e3 : mL ν' B = mL ν B) : RWh μ' A ν' N B now nc nh := by
  intro c hc
  rw [e1 c (by omega), e0 c (by omega), e3]
  obtain ⟨h1, h2, h3⟩ := r c hc
  exact ⟨fun k hk => by rw [e2 _ (by omega) (by omega)]; exact h1 k hk, fun k hk => by rw [e2 _ (by omega) (by omega)]; exact h2 k hk, h3⟩
/-- a world is as it was, where nothing of it was touched -/
theorem RW.cg {μ μ' ν ν' : XMem} {A lo N B now nc nl nh fl : Nat} {tx : Nat → List Int32} (r : RW μ A lo ν N B now nc nl nh fl tx) (e0 : mI μ' A = mI μ A) (e1 : ∀ c, c < 16 → mI μ' (A + 6 + c) = mI μ (A + 6 + c)) (e2 : ∀ c, c < 8 → mL μ' (A + 14 + c) = mL μ (A + 14 + c)) (e3 : ∀ q, lo ≤ q → mI μ' q = mI μ q) (e4 : mR μ' = mR μ) (e5 : mN μ' = mN μ) (e6 : mI ν' N = mI ν N) (e7 : mL ν' B = mL ν B) : RW μ' A lo ν' N B now nc nl nh fl tx := by
  obtain ⟨r1, r2, r3, r4⟩ := r
  obtain ⟨-, -, b1, b2, b3, b4, b5⟩ := id r1
  refine ⟨r1.cg e0 (fun k _ => by rw [e6]), r2.cg b2 (fun c hc => e1 c (by omega)) (fun k _ _ => by rw [e6]), r3.cg b4 (fun c hc => ?_) e2 (fun k _ _ => by rw [e6]) e7, r4.cg e3 (fun q _ => by rw [e4]) (fun q _ => by rw [e5]) (by rw [e4]) (by rw [e4]) (fun k _ => by rw [e6])⟩
  have := e1 (8 + c) (by omega)
  rw [show A + 6 + (8 + c) = A + 14 + c by omega] at this
  exact this
theorem Rkept.cg {g h : Nat} {μ μ' ν ν' : XMem} (r : Rkept g μ h ν) (e8 : mI μ' g 2 = mI μ g 2) (e9 : mI ν' h 5 = mI ν h 5) (e0 : mI μ' (g + 23) = mI μ (g + 23)) (e1 : ∀ c, c < 16 → mI μ' (g + 29 + c) = mI μ (g + 29 + c)) (e2 : ∀ c, c < 8 → mL μ' (g + 37 + c) = mL μ (g + 37 + c)) (e3 : ∀ q, g + 63 ≤ q → mI μ' q = mI μ q) (e4 : mR μ' = mR μ) (e5 : mN μ' = mN μ) (e6 : mI ν' (h + 2) = mI ν (h + 2)) (e7 : mL ν' (h + 4) = mL ν (h + 4)) : Rkept g μ' h ν' := by
  obtain ⟨r1, r2⟩ := r
  refine ⟨by rw [e8, e9]; exact r1, ?_⟩
  rw [e8]
  rcases r2 with r2 | ⟨r2, now, nc, nl, nh, fl, tx, r3⟩
  · exact Or.inl r2
  · exact Or.inr ⟨r2, now, nc, nl, nh, fl, tx, r3.cg e0 e1 e2 e3 e4 e5 e6 e7⟩
theorem Rlive.cg {g h : Nat} {μ μ' ν ν' : XMem} (r : Rlive g μ h ν) (e0 : mI μ' (g + 1) = mI μ (g + 1)) (e1 : ∀ c, c < 16 → mI μ' (g + 7 + c) = mI μ (g + 7 + c)) (e2 : ∀ c, c < 8 → mL μ' (g + 15 + c) = mL μ (g + 15 + c)) (e3 : ∀ q, g + 63 ≤ q → mI μ' q = mI μ q) (e4 : mR μ' = mR μ) (e5 : mN μ' = mN μ) (e6 : mI ν' (h + 1) = mI ν (h + 1)) (e7 : mL ν' (h + 3) = mL ν (h + 3)) : Rlive g μ' h ν' := by
  obtain ⟨now, nc, nl, nh, fl, tx, r3⟩ := r
  exact ⟨now, nc, nl, nh, fl, tx, r3.cg e0 (fun c hc => by have := e1 c hc; rw [show g + 1 + 6 + c = g + 7 + c by omega]; exact this) (fun c hc => by have := e2 c hc; rw [show g + 1 + 14 + c = g + 15 + c by omega]; exact this) e3 e4 e5 e6 e7⟩
/-- a finding -/
theorem Rel.find {g h k : Nat} {μ ν : XMem} (r : Rel g μ h ν) (hk : k < 7) : Rel g (fdC g k μ) h (fdM h k ν) := by
  obtain ⟨r1, r2, r3, r4, r5, r6, r7, r8⟩ := r
  unfold fdC fdM
  refine ⟨r1, r2, ?_, r4.cg (mI_ne (by omega)) (mI_ne (by omega)) (by rw [mI_ne (by omega)]) (mI_ne (by omega)), r5.cg (fun s hs => mI_ne (by omega)) (fun _ _ => rfl) (mI_ne (by omega)) (mI_ne (by omega)) rfl,
    r6.cg (by rw [mI_ne (by omega)]) (by rw [mI_ne (by omega)]) (mI_ne (by omega)) (fun c hc => mI_ne (by omega)) (fun _ _ => rfl) (fun q hq => mI_ne (by omega)) rfl rfl (mI_ne (by omega)) rfl,
    r7.cg (mI_ne (by omega)) (fun c hc => mI_ne (by omega)) (fun _ _ => rfl) (fun q hq => mI_ne (by omega)) rfl rfl (mI_ne (by omega)) rfl, r8.cg (mI_ne (by omega)) (mI_ne (by omega))⟩
  intro j hj
  by_cases e : j = k
  · subst e
    rw [mI_at, mI_at, r3 j hj]
  · rw [mI_off e, mI_off e]
    exact r3 j hj

/-! THE CLAIM OUT OF ONE WALK OF THE LAW'S BODY. Your part is whole_start (and what it stands on); all else here is the same for every law, but numbers. -/
def R_law : String := "WarmGlassLaw"
def lw_P (b : Addr) (xs : List Int32) (args : Array Value) (s : State) : Prop := args = #[.ref b] ∧ s.IntsAt b xs ∧ xs.length ≤ 3072 ∧ (Jvm.Cond.and given_1 narrow_1).before args s = true
def lw_Q (_ : Array Value) (s : State) (o : Outcome) (t : State) : Prop := o = .returned (some (.int 1)) ∧ Framed s o t [] 600000 7302250
def lw_Z (below : List Frame) (a : Array Value) (s : State) : State → Prop := fun t => ∃ o, t.status = .running ∧ Ended t below o ∧ lw_Q a s o t
/-- the law's own end, with 1 on the stack, nothing written that was there before, its room as the claim has it -/
theorem lw_ret {p : Program} {l : Launch} {e : Env} {s : State} {m : MethodId} {below : List Frame} {meth : Method} {c : Code} {b : Nat} (hx : p.tables.exec = Jvm.exec) (hb : c.code = code) (hr : meth.sig.returnType = ret) (hlocks : meth.locks = false) {pc : Nat} {H : Heap} {ls : Array Slot} (hdg : decode code pc = .ok (.ireturn, 1)) : W p l e room_1 s m #[Value.ref b] below meth c H [] 600000 7302250 (lw_Z below #[Value.ref b] s) (F0 m pc ls [.int 1]) := by
  intro T hT X
  obtain ⟨fs, hret, hrun, hended, hW, hframe⟩ := X.leave (v := some (.int 1)) (hlocks := hlocks) (fun h => by rw [hr] at h; cases h)
  have hmeth' : T.vm.method? m = some meth := X.method'
  refine ⟨T.setFrames fs, ?_, .returned (some (.int 1)), hrun, hended, rfl, ⟨_, rfl⟩, hW, hframe⟩
  jvm_step X.here [X.here.top, hx, hb, hdg, hmeth', hr, ret, narrow_b1]
  (try refine ⟨rfl, ?_⟩); (try refine ⟨rfl, ?_⟩)
  first | (intro acts; rw [hret _ acts rfl rfl rfl]) | rw [hret _ _ rfl rfl rfl]
  exact Steps.refl _
/-- what holds at the law's entry: the machine, the code, the tables' words (any of lw_tbl by 'hts w (by decide +kernel)'), the script of L ints xs at the cell b, what the Statement gives of the start (any of its parts by flat_of_before) -/
def lw_At (p : Program) (s : State) (m : MethodId) (meth : Method) (c : Code) (b L : Nat) (xs : Nat → Int32) : Prop :=
  p.tables.exec = Jvm.exec ∧ c.code = code ∧ meth.sig.returnType = ret ∧ c.maxLocals = 4 ∧ s.vm.findClass R_law = some m.cls ∧ (∀ w ∈ lw_tbl, w.before #[Value.ref b] s = true) ∧ va_X b L xs s s.heap ∧ b < s.heap.size ∧ meth.locks = false ∧ (Jvm.Cond.and given_1 narrow_1).before #[Value.ref b] s = true
set_option maxHeartbeats 4000000 in
theorem law_switch {p : Program} {l : Launch} {e : Env} {s : State} {m : MethodId} {below : List Frame} {meth : Method} {c : Code} {D : va_G} {E : Nat → ClassId} {tU b L g h : Nat} {xs : Nat → Int32} {H : Heap} {locs : List Loc} {cells slots k j : Nat} {Q : State → Prop} {ls : Array Slot} {μ ν : XMem} (S : LSc p s c b L xs) (C : Cx p s m #[Value.ref b] c code 4 RL D E (fun q => s.heap.size ≤ q) tU) (I : LI D E s b g h μ ν H locs ls k) (hk : 6 * k + 6 ≤ L) (h1 : cells + 4 ≤ 600000) (h2 : slots + 202 ≤ 7302250) (hj : j < 64)
    (kk : ∀ (H' : Heap) (locs' : List Loc) (μ' ν' : XMem), LI D E s b g h μ' ν' H' locs' ls k → W p l e room_1 s m #[Value.ref b] below meth c H' locs' (cells + 4) (slots + 202) Q (F0 m 1604 ls [])) :
    W p l e room_1 s m #[Value.ref b] below meth c H locs cells slots Q (F0 m 33 ls [.int (nI j)]) := by
  have hx := S.1
  have hb := S.2.1
  by_cases hj2 : j < 42
  · match j, hj2 with
    | 0, _ => exact lv_tableIn (off := 183) (tgt := 216) hx hb dL_law_33 (by decide) (by decide) (by rfl) (by decide) (lc_0 S C I hk h1 h2 kk)
    | 1, _ => exact lv_tableIn (off := 236) (tgt := 269) hx hb dL_law_33 (by decide) (by decide) (by rfl) (by decide) (lc_1 S C I hk h1 h2 kk)
    | 2, _ => exact lv_tableIn (off := 269) (tgt := 302) hx hb dL_law_33 (by decide) (by decide) (by rfl) (by decide) (lc_2 S C I hk h1 h2 kk)
    | 3, _ => exact lv_tableIn (off := 302) (tgt := 335) hx hb dL_law_33 (by decide) (by decide) (by rfl) (by decide) (lc_3 S C I hk h1 h2 kk)
    | 4, _ => exact lv_tableIn (off := 325) (tgt := 358) hx hb dL_law_33 (by decide) (by decide) (by rfl) (by decide) (lc_4 S C I hk h1 h2 kk)
    | 5, _ => exact lv_tableIn (off := 358) (tgt := 391) hx hb dL_law_33 (by decide) (by decide) (by rfl) (by decide) (lc_5 S C I hk h1 h2 kk)
    | 6, _ => exact lv_tableIn (off := 391) (tgt := 424) hx hb dL_law_33 (by decide) (by decide) (by rfl) (by decide) (lc_6 S C I hk h1 h2 kk)
    | 7, _ => exact lv_tableIn (off := 424) (tgt := 457) hx hb dL_law_33 (by decide) (by decide) (by rfl) (by decide) (lc_7 S C I hk h1 h2 kk)
    | 8, _ => exact lv_tableIn (off := 457) (tgt := 490) hx hb dL_law_33 (by decide) (by decide) (by rfl) (by decide) (lc_8 S C I hk h1 h2 kk)
    | 9, _ => exact lv_tableIn (off := 490) (tgt := 523) hx hb dL_law_33 (by decide) (by decide) (by rfl) (by decide) (lc_9 S C I hk h1 h2 kk)
    | 10, _ => exact lv_tableIn (off := 503) (tgt := 536) hx hb dL_law_33 (by decide) (by decide) (by rfl) (by decide) (lc_10 S C I hk h1 h2 kk)
    | 11, _ => exact lv_tableIn (off := 526) (tgt := 559) hx hb dL_law_33 (by decide) (by decide) (by rfl) (by decide) (lc_11 S C I hk h1 h2 kk)
    | 12, _ => exact lv_tableIn (off := 549) (tgt := 582) hx hb dL_law_33 (by decide) (by decide) (by rfl) (by decide) (lc_12 S C I hk h1 h2 kk)
    | 13, _ => exact lv_tableIn (off := 572) (tgt := 605) hx hb dL_law_33 (by decide) (by decide) (by rfl) (by decide) (lc_13 S C I hk h1 h2 kk)
    | 14, _ => exact lv_tableIn (off := 605) (tgt := 638) hx hb dL_law_33 (by decide) (by decide) (by rfl) (by decide) (lc_14 S C I hk h1 h2 kk)
    | 15, _ => exact lv_tableIn (off := 638) (tgt := 671) hx hb dL_law_33 (by decide) (by decide) (by rfl) (by decide) (lc_15 S C I hk h1 h2 kk)
    | 16, _ => exact lv_tableIn (off := 671) (tgt := 704) hx hb dL_law_33 (by decide) (by decide) (by rfl) (by decide) (lc_16 S C I hk h1 h2 kk)
    | 17, _ => exact lv_tableIn (off := 705) (tgt := 738) hx hb dL_law_33 (by decide) (by decide) (by rfl) (by decide) (lc_17 S C I hk h1 h2 kk)
    | 18, _ => exact lv_tableIn (off := 738) (tgt := 771) hx hb dL_law_33 (by decide) (by decide) (by rfl) (by decide) (lc_18 S C I hk h1 h2 kk)
    | 19, _ => exact lv_tableIn (off := 761) (tgt := 794) hx hb dL_law_33 (by decide) (by decide) (by rfl) (by decide) (lc_19 S C I hk h1 h2 kk)
    | 20, _ => exact lv_tableIn (off := 784) (tgt := 817) hx hb dL_law_33 (by decide) (by decide) (by rfl) (by decide) (lc_20 S C I hk h1 h2 kk)
    | 21, _ => exact lv_tableIn (off := 817) (tgt := 850) hx hb dL_law_33 (by decide) (by decide) (by rfl) (by decide) (lc_21 S C I hk h1 h2 kk)
    | 22, _ => exact lv_tableIn (off := 850) (tgt := 883) hx hb dL_law_33 (by decide) (by decide) (by rfl) (by decide) (lc_22 S C I hk h1 h2 kk)
    | 23, _ => exact lv_tableIn (off := 883) (tgt := 916) hx hb dL_law_33 (by decide) (by decide) (by rfl) (by decide) (lc_23 S C I hk h1 h2 kk)
    | 24, _ => exact lv_tableIn (off := 906) (tgt := 939) hx hb dL_law_33 (by decide) (by decide) (by rfl) (by decide) (lc_24 S C I hk h1 h2 kk)
    | 25, _ => exact lv_tableIn (off := 929) (tgt := 962) hx hb dL_law_33 (by decide) (by decide) (by rfl) (by decide) (lc_25 S C I hk h1 h2 kk)
    | 26, _ => exact lv_tableIn (off := 982) (tgt := 1015) hx hb dL_law_33 (by decide) (by decide) (by rfl) (by decide) (lc_26 S C I hk h1 h2 kk)
    | 27, _ => exact lv_tableIn (off := 1035) (tgt := 1068) hx hb dL_law_33 (by decide) (by decide) (by rfl) (by decide) (lc_27 S C I hk h1 h2 kk)
    | 28, _ => exact lv_tableIn (off := 1088) (tgt := 1121) hx hb dL_law_33 (by decide) (by decide) (by rfl) (by decide) (lc_28 S C I hk h1 h2 kk)
    | 29, _ => exact lv_tableIn (off := 1121) (tgt := 1154) hx hb dL_law_33 (by decide) (by decide) (by rfl) (by decide) (lc_29 S C I hk h1 h2 kk)
    | 30, _ => exact lv_tableIn (off := 1164) (tgt := 1197) hx hb dL_law_33 (by decide) (by decide) (by rfl) (by decide) (lc_30 S C I hk h1 h2 kk)
    | 31, _ => exact lv_tableIn (off := 1197) (tgt := 1230) hx hb dL_law_33 (by decide) (by decide) (by rfl) (by decide) (lc_31 S C I hk h1 h2 kk)
    | 32, _ => exact lv_tableIn (off := 1240) (tgt := 1273) hx hb dL_law_33 (by decide) (by decide) (by rfl) (by decide) (lc_32 S C I hk h1 h2 kk)
    | 33, _ => exact lv_tableIn (off := 1273) (tgt := 1306) hx hb dL_law_33 (by decide) (by decide) (by rfl) (by decide) (lc_33 S C I hk h1 h2 kk)
    | 34, _ => exact lv_tableIn (off := 1316) (tgt := 1349) hx hb dL_law_33 (by decide) (by decide) (by rfl) (by decide) (lc_34 S C I hk h1 h2 kk)
    | 35, _ => exact lv_tableIn (off := 1390) (tgt := 1423) hx hb dL_law_33 (by decide) (by decide) (by rfl) (by decide) (lc_35 S C I hk h1 h2 kk)
    | 36, _ => exact lv_tableIn (off := 1453) (tgt := 1486) hx hb dL_law_33 (by decide) (by decide) (by rfl) (by decide) (lc_36 S C I hk h1 h2 kk)
    | 37, _ => exact lv_tableIn (off := 1486) (tgt := 1519) hx hb dL_law_33 (by decide) (by decide) (by rfl) (by decide) (lc_37 S C I hk h1 h2 kk)
    | 38, _ => exact lv_tableIn (off := 1499) (tgt := 1532) hx hb dL_law_33 (by decide) (by decide) (by rfl) (by decide) (lc_38 S C I hk h1 h2 kk)
    | 39, _ => exact lv_tableIn (off := 1512) (tgt := 1545) hx hb dL_law_33 (by decide) (by decide) (by rfl) (by decide) (lc_39 S C I hk h1 h2 kk)
    | 40, _ => exact lv_tableIn (off := 1525) (tgt := 1558) hx hb dL_law_33 (by decide) (by decide) (by rfl) (by decide) (lc_40 S C I hk h1 h2 kk)
    | 41, _ => exact lv_tableIn (off := 1548) (tgt := 1581) hx hb dL_law_33 (by decide) (by decide) (by rfl) (by decide) (lc_41 S C I hk h1 h2 kk)
    | j + 42, q => omega
  · refine lv_tableOut (tgt := 1604) hx hb dL_law_33 (Or.inr ?_) (by decide) (W.widen (k := cells + 4) (n := slots + 202) (by omega) (by omega) (kk H locs μ ν I))
    rw [nI_toInt (by omega)]
    omega
set_option maxHeartbeats 4000000 in
theorem law_end {p : Program} {l : Launch} {e : Env} {s : State} {m : MethodId} {below : List Frame} {meth : Method} {c : Code} {D : va_G} {E : Nat → ClassId} {tU b L g h : Nat} {xs : Nat → Int32} {n k cells slots : Nat} {H : Heap} {locs : List Loc} {ls : Array Slot} {μ ν : XMem} (hr : meth.sig.returnType = ret) (hlocks : meth.locks = false) (S : LSc p s c b L xs) (C : Cx p s m #[Value.ref b] c code 4 RL D E (fun q => s.heap.size ≤ q) tU) (a1 : L ≤ 6 * (k + n) + 5) (a2 : 6 * k ≤ L) (a3 : cells ≤ 200 + 4 * k) (a4 : slots ≤ 6000 + 202 * k) (I : LI D E s b g h μ ν H locs ls k)
    (ih : 6 * k + 6 ≤ L → ∀ (H' : Heap) (locs' : List Loc) (ls' : Array Slot) (μ' ν' : XMem), LI D E s b g h μ' ν' H' locs' ls' (k + 1) → W p l e room_1 s m #[Value.ref b] below meth c H' locs' (cells + 4) (slots + 202) (lw_Z below #[Value.ref b] s) (F0 m 18 ls' [])) :
    W p l e room_1 s m #[Value.ref b] below meth c H locs cells slots (lw_Z below #[Value.ref b] s) (F0 m 18 ls []) := by
  obtain ⟨hx, hb, hX, hbl, hL⟩ := id S
  have hbA : ¬ (fun q : Nat => s.heap.size ≤ q) b := Nat.not_le.mpr hbl
  have tw := I.1
  have hl := I.2.2.2.2.2
  refine lv_iload_n hx hb dL_law_18 rfl (lv_at hl 3 rfl) ?_
  refine lv_aload_n hx hb dL_law_19 rfl (lv_at hl 0 rfl) ?_
  refine va_slen (A := fun q => s.heap.size ≤ q) hx hb hX hbl hbA tw.2.2.1 dL_law_20 ?_
  refine lv_bipush (v := nI 6) hx hb dL_law_21 (by decide) ?_
  refine lv_isub hx hb dL_law_23 ?_
  have e1 : (Int32.ofNat L - nI 6).toInt = (L : Int) - (6 : Nat) := pk_sub_toInt (a := L) (b := 6) (by omega) (by omega)
  have e2 : (nI (6 * k)).toInt = ((6 * k : Nat) : Int) := nI_toInt (by omega)
  refine lv_icmp_gt (tgt := 1610) hx hb dL_law_24 (by decide) (fun q => ?_) (fun q => ?_)
  · refine lv_iconst (v := 1) hx hb dL_law_1610 (by decide) ?_
    refine va_forget tw.2.2.1.2.2 ?_
    refine W.widen (k := 600000) (n := 7302250) (by omega) (by omega) ?_
    exact lw_ret hx hb hr hlocks dL_law_1611
  · have hk : 6 * k + 6 ≤ L := by
      rw [Int32.lt_iff_toInt_lt, e1, e2] at q
      omega
    refine lv_aload_n hx hb dL_law_27 rfl (lv_at hl 0 rfl) ?_
    refine lv_iload_n hx hb dL_law_28 rfl (lv_at hl 3 rfl) ?_
    refine va_sld (A := fun q => s.heap.size ≤ q) hx hb hX hbl hbA tw.2.2.1 (by rintro (q | q); exact nI_pos (by omega) q; rw [nI_clamp (by omega)] at q; omega) dL_law_29 ?_
    refine lv_bipush (v := 63) hx hb dL_law_30 (by decide) ?_
    refine lv_iand hx hb dL_law_32 ?_
    obtain ⟨j, hj, ej⟩ := pk_andE (xs (nI (6 * k)).toNatClampNeg) (m := 63) 6 (by decide)
    rw [ej]
    refine law_switch S C I hk (by omega) (by omega) hj (fun H' locs' μ' ν' I' => ?_)
    obtain ⟨tw', r', tg', th', hz', hl'⟩ := I'
    refine lv_iinc (v := nI (6 * (k + 1))) (lv' := [(3, .int (nI (6 * (k + 1)))), (0, .ref b), (1, .ref g), (2, .ref h)]) hx hb dL_law_1604 hl' (k := 3) rfl (by rw [show Int32.ofInt 6 = nI 6 from by decide, nI_add]; rfl) (by decide) rfl (fun ls2 hl2 => ?_)
    refine lv_goto (tgt := 18) hx hb dL_law_1607 (by decide) ?_
    exact ih hk H' locs' ls2 μ' ν' ⟨tw', r', tg', th', hz', lv_sub hl2 [1, 2, 3, 0] rfl⟩
-- THE LAW'S LOOP
set_option maxHeartbeats 4000000 in
theorem law_loop {p : Program} {l : Launch} {e : Env} {s : State} {m : MethodId} {below : List Frame} {meth : Method} {c : Code} {D : va_G} {E : Nat → ClassId} {tU b L g h : Nat} {xs : Nat → Int32} (hr : meth.sig.returnType = ret) (hlocks : meth.locks = false) (S : LSc p s c b L xs) (C : Cx p s m #[Value.ref b] c code 4 RL D E (fun q => s.heap.size ≤ q) tU) :
    ∀ (n k cells slots : Nat) (H : Heap) (locs : List Loc) (ls : Array Slot) (μ ν : XMem), L ≤ 6 * (k + n) + 5 → 6 * k ≤ L → cells ≤ 200 + 4 * k → slots ≤ 6000 + 202 * k → LI D E s b g h μ ν H locs ls k →
      W p l e room_1 s m #[Value.ref b] below meth c H locs cells slots (lw_Z below #[Value.ref b] s) (F0 m 18 ls []) := by
  intro n
  induction n with
  | zero => exact fun k cells slots H locs ls μ ν a1 a2 a3 a4 I => law_end hr hlocks S C a1 a2 a3 a4 I (fun q => absurd q (by omega))
  | succ n ih =>
    exact fun k cells slots H locs ls μ ν a1 a2 a3 a4 I => law_end hr hlocks S C (by omega) a2 a3 a4 I (fun q H' locs' ls' μ' ν' I' => ih (k + 1) (cells + 4) (slots + 202) H' locs' ls' μ' ν' (by omega) (by omega) (by omega) (by omega) I')

/-! PURE LAYER 25: the loss, in longs and in ints -/
theorem loss_eq {a b s : Nat} (h1 : a < 2 ^ 31) (h2 : b < 2 ^ 31) (h3 : s < 2 ^ 31) (h4 : a * b < 2 ^ 31) :
    (if nI a * nI b < nI s then nI a * nI b else nI s) = (if lg_cmp (Int32.toInt64 (nI a) * Int32.toInt64 (nI b)) (Int32.toInt64 (nI s)) ≤ 0 then Int64.toInt32 (Int32.toInt64 (nI a) * Int32.toInt64 (nI b)) else nI s) := by
  rw [nI_l h1, nI_l h2, nI_l h3, lN_mul, lN_i, pk_mul]
  have e : (lg_cmp (lN (a * b)) (lN s) ≤ 0) ↔ a * b ≤ s := (lg_cmp_le _ _).trans (pk_lLE (by omega) (by omega))
  by_cases c1 : a * b < s
  · rw [if_pos (nI_lt c1 h3), if_pos (e.mpr (by omega))]
  · rw [if_neg (nI_nlt (by omega) h4)]
    by_cases c2 : a * b ≤ s
    · rw [if_pos (e.mpr c2), show a * b = s by omega]
    · rw [if_neg (fun q => c2 (e.mp q))]

/-! the methods as functions, printed by a program of my own out of the bytecode -/
def f_X0_backOf (a0 : Nat) (x1 : Int32) (m0 : XMem) : Option (Int32 × XMem) :=
  if (mI m0 a0 0) = 2 then (
  some ((x1 / 2), m0))
  else (
  if (mI m0 a0 0) = 5 then (
  some (((x1 / 2) + (x1 / 10)), m0))
  else (
  some (0, m0)))
def f_X0_begin (a0 : Nat) (m0 : XMem) : Option (XMem) :=
  nm (sI m0 a0 6 0) fun m101 =>
  nm (sI m101 a0 7 0) fun m102 =>
  nm (sI m102 a0 8 0) fun m103 =>
  nm (sI m103 a0 9 0) fun m104 =>
  nm (sI m104 a0 10 0) fun m105 =>
  nm (sI m105 a0 11 0) fun m106 =>
  nm (sI m106 a0 12 0) fun m107 =>
  nm (sI m107 a0 13 0) fun m108 =>
  nm (sI m108 a0 14 0) fun m109 =>
  nm (sI m109 a0 15 0) fun m110 =>
  nm (sI m110 a0 16 0) fun m111 =>
  some m111
def f_X0_gasFrom (a0 : Nat) (x1 : Int32) (m0 : XMem) : Option (Int32 × XMem) :=
  some (((x1 * (mI m0 a0 4)) / 100), m0)
def f_X0_init (a0 : Nat) (m0 : XMem) : Option (XMem) :=
  some m0
def f_X0_powerThatCounts (a0 : Nat) (m0 : XMem) : Option (Int32 × XMem) :=
  if (mI m0 a0 5) = 0 then (
  some (0, m0))
  else (
  some ((mI m0 a0 1), m0))
def f_X0_toHeat (a0 : Nat) (x1 : Int32) (m0 : XMem) : Option (Int32 × XMem) :=
  if (mI m0 a0 0) = 3 then (
  nm ((x1 / 5)) fun x101 =>
  nm (sI m0 a0 7 ((mI m0 a0 7) + x101)) fun m102 =>
  if 1000 ≤ (mI m102 a0 7) then (
  nm ((mI m102 a0 7)) fun x103 =>
  nm (sI m102 a0 7 0) fun m104 =>
  some (((x1 - x101) + x103), m104))
  else (
  some ((x1 - x101), m102)))
  else (
  some (x1, m0))
def f_X0_warmth (a0 : Nat) (m0 : XMem) : Option (Int32 × XMem) :=
  if (mI m0 a0 3) = 0 then (
  some (0, m0))
  else (
  gd (nz (mI m0 a0 3)) <|
  some (((mI m0 a0 6) / (mI m0 a0 3)), m0))
def f_X0_passHour (a0 : Nat) (x1 : Int32) (m0 : XMem) : Option (XMem) :=
  b2 (f_X0_powerThatCounts a0 m0) fun r102 m101 =>
  nm (sI m101 a0 8 r102) fun m103 =>
  b2 (f_X0_gasFrom a0 (mI m103 a0 8) m103) fun r105 m104 =>
  b2 (f_X0_backOf a0 r105 m104) fun r107 m106 =>
  nm (sI m106 a0 9 (r105 - r107)) fun m108 =>
  nm (if 0 < ((mI m108 a0 5) - ((r105 + 99) / 100)) then ((mI m108 a0 5) - ((r105 + 99) / 100)) else 0) fun x109 =>
  nm (sI m108 a0 5 x109) fun m110 =>
  nm (sI m110 a0 10 x1) fun m111 =>
  b2 (f_X0_toHeat a0 ((mI m111 a0 8) - (mI m111 a0 9)) m111) fun r113 m112 =>
  nm (sI m112 a0 6 ((mI m111 a0 6) + (r113 + (mI m112 a0 10)))) fun m114 =>
  b2 (f_X0_warmth a0 m114) fun r116 m115 =>
  nm (if (r116 * (mI m115 a0 2)) < (mI m114 a0 6) then (r116 * (mI m115 a0 2)) else (mI m114 a0 6)) fun x117 =>
  nm (sI m115 a0 11 x117) fun m118 =>
  nm (sI m118 a0 6 ((mI m118 a0 6) - (mI m118 a0 11))) fun m119 =>
  nm (sI m119 a0 13 ((mI m119 a0 13) + (mI m119 a0 8))) fun m120 =>
  nm (sI m120 a0 14 ((mI m120 a0 14) + (mI m120 a0 9))) fun m121 =>
  nm (sI m121 a0 15 ((mI m121 a0 15) + (mI m121 a0 10))) fun m122 =>
  nm (sI m122 a0 16 ((mI m122 a0 16) + (mI m122 a0 11))) fun m123 =>
  some m123
def f_X0_take (a0 : Nat) (a1 : Nat) (m0 : XMem) : Option (XMem) :=
  nm (sI m0 a0 0 (mI m0 a1 0)) fun m101 =>
  nm (sI m101 a0 1 (mI m101 a1 1)) fun m102 =>
  nm (sI m102 a0 2 (mI m102 a1 2)) fun m103 =>
  nm (sI m103 a0 3 (mI m103 a1 3)) fun m104 =>
  nm (sI m104 a0 4 (mI m104 a1 4)) fun m105 =>
  nm (sI m105 a0 5 (mI m105 a1 5)) fun m106 =>
  nm (sI m106 a0 6 (mI m106 a1 6)) fun m107 =>
  nm (sI m107 a0 7 (mI m107 a1 7)) fun m108 =>
  nm (sI m108 a0 8 (mI m108 a1 8)) fun m109 =>
  nm (sI m109 a0 9 (mI m109 a1 9)) fun m110 =>
  nm (sI m110 a0 10 (mI m110 a1 10)) fun m111 =>
  nm (sI m111 a0 11 (mI m111 a1 11)) fun m112 =>
  nm (sI m112 a0 12 (mI m112 a1 12)) fun m113 =>
  nm (sI m113 a0 13 (mI m113 a1 13)) fun m114 =>
  nm (sI m114 a0 14 (mI m114 a1 14)) fun m115 =>
  nm (sI m115 a0 15 (mI m115 a1 15)) fun m116 =>
  nm (sI m116 a0 16 (mI m116 a1 16)) fun m117 =>
  some m117
def f_X0_thermometer (a0 : Nat) (m0 : XMem) : Option (Int32 × XMem) :=
  b2 (f_X0_warmth a0 m0) fun r102 m101 =>
  if (mI m101 a0 0) = 1 then (
  some ((r102 + (r102 / 10)), m101))
  else (
  if (mI m101 a0 0) = 2 then (
  some ((r102 + (r102 / 10)), m101))
  else (
  if (mI m101 a0 0) = 3 then (
  some (r102, m101))
  else (
  if (mI m101 a0 0) = 4 then (
  some (((r102 / 2) + 5), m101))
  else (
  if (mI m101 a0 0) = 5 then (
  some (((r102 + (r102 / 10)) + 1), m101))
  else (
  some (r102, m101))))))
def f_X10_above (x0 : Int32) (m0 : XMem) : Option (Int32 × XMem) :=
  if x0 = 0 then (
  some ((-1), m0))
  else (
  if x0 = 2 then (
  some (1, m0))
  else (
  if x0 = 5 then (
  some (2, m0))
  else (
  some (0, m0))))
def f_X10_ofCell (a0 : Nat) (x1 : Int32) (x2 : Int32) (m0 : XMem) : Option (Int32 × XMem) :=
  fo (mR m0 a0 0) fun b101 =>
  gd (ib ((11 + (17 * x1)) + x2) (mN m0 b101)) <|
  some ((mI m0 b101 (Int32.toNatClampNeg ((11 + (17 * x1)) + x2))), m0)
def f_X10_saves_h2 (a0 : Nat) (x1 : Int32) (k26 :  XMem → Option (XMem)) : Nat → Int32 → XMem → Option (XMem)
  | 0, _, _ => none
  | n + 1, x2, mu =>
  if 17 ≤ x2 then (
  k26  mu)
  else (
  fo (mR mu a0 17) fun b102 =>
  b2 (f_X10_ofCell a0 x1 x2 mu) fun r104 m103 =>
  gd (ib x2 (mN m103 b102)) <|
  nm (sI m103 b102 (Int32.toNatClampNeg x2) r104) fun m106 =>
  nm (x2 + 1) fun x107 =>
  f_X10_saves_h2 a0 x1 k26 n x107 m106)
def f_X10_saves (a0 : Nat) (x1 : Int32) (m0 : XMem) : Option (XMem) :=
  f_X10_saves_h2 a0 x1 (fun m101 =>
  some m101) 2000 0 m0
def f_X10_powerNow (a0 : Nat) (x1 : Int32) (m0 : XMem) : Option (Int32 × XMem) :=
  b2 (f_X10_ofCell a0 x1 5 m0) fun r102 m101 =>
  if r102 = 0 then (
  some (0, m101))
  else (
  b2 (f_X10_ofCell a0 x1 1 m101) fun r104 m103 =>
  some (r104, m103))
def f_X10_warmth (a0 : Nat) (x1 : Int32) (m0 : XMem) : Option (Int32 × XMem) :=
  b2 (f_X10_ofCell a0 x1 6 m0) fun r102 m101 =>
  b2 (f_X10_ofCell a0 x1 3 m101) fun r104 m103 =>
  gd (nz r104) <|
  some ((r102 / r104), m103)
def f_X10_readOf (a0 : Nat) (x1 : Int32) (m0 : XMem) : Option (Int32 × XMem) :=
  b2 (f_X10_warmth a0 x1 m0) fun r102 m101 =>
  b2 (f_X10_ofCell a0 x1 0 m101) fun r104 m103 =>
  if r104 = 1 then (
  some ((r102 + (r102 / 10)), m103))
  else (
  if r104 = 2 then (
  some ((r102 + (r102 / 10)), m103))
  else (
  if r104 = 3 then (
  some (r102, m103))
  else (
  if r104 = 4 then (
  some (((r102 / 2) + 5), m103))
  else (
  if r104 = 5 then (
  some (((r102 + (r102 / 10)) + 1), m103))
  else (
  some (r102, m103))))))
def f_X10_named (a0 : Nat) (x1 : Int32) (x2 : Int32) (x3 : Int32) (x4 : Int32) (m0 : XMem) : Option (Int32 × XMem) :=
  if x1 = 0 then (
  b2 (f_X10_powerNow a0 x3 m0) fun r103 m102 =>
  some (r103, m102))
  else (
  if x1 = 1 then (
  if x2 = 7 then (
  b2 (f_X10_readOf a0 x3 m0) fun r108 m107 =>
  some (r108, m107))
  else (
  b2 (f_X10_warmth a0 x3 m0) fun r106 m105 =>
  some (r106, m105)))
  else (
  if x1 = 2 then (
  some (x4, m0))
  else (
  if x1 = 3 then (
  some (x3, m0))
  else (
  b2 (f_X10_ofCell a0 x3 5 m0) fun r112 m111 =>
  some (r112, m111)))))
def f_X10_both (x0 : Int32) (x1 : Int32) (x2 : Int32) (m0 : XMem) : Option (Int32 × XMem) :=
  if x0 = 10100 then (
  some ((x1 + x2), m0))
  else (
  if x0 = 10101 then (
  some ((x1 - x2), m0))
  else (
  if x0 = 10102 then (
  some ((x1 * x2), m0))
  else (
  if x0 = 10103 then (
  if x2 = 0 then (
  some (0, m0))
  else (
  gd (nz x2) <|
  some ((x1 / x2), m0)))
  else (
  if x0 = 10104 then (
  if x2 ≤ x1 then (
  some (x2, m0))
  else (
  some (x1, m0)))
  else (
  if x1 ≤ x2 then (
  some (x2, m0))
  else (
  some (x1, m0)))))))
def f_X10_worked_h16 (a0 : Nat) (x1 : Int32) (x2 : Int32) (x3 : Int32) (x4 : Int32) (k180 :  XMem → Option (Int32 × XMem)) : Nat → Int32 → Int32 → XMem → Option (Int32 × XMem)
  | 0, _, _, _ => none
  | n + 1, x5, x6, mu =>
  fo (mR mu a0 0) fun b107 =>
  gd (ib x4 (mN mu b107)) <|
  if (mI mu b107 (Int32.toNatClampNeg x4)) < x6 then (
  k180  mu)
  else (
  fo (mR mu a0 0) fun b109 =>
  gd (ib (x4 + x6) (mN mu b109)) <|
  nm ((mI mu b109 (Int32.toNatClampNeg (x4 + x6)))) fun x111 =>
  if 10100 ≤ x111 then (
  if x111 = 10106 then (
  nm (x5 + (-2)) fun x123 =>
  fo (mR mu a0 16) fun b124 =>
  fo (mR mu a0 16) fun b125 =>
  gd (ib (x123 - 1) (mN mu b125)) <|
  if (mI mu b125 (Int32.toNatClampNeg (x123 - 1))) = 0 then (
  fo (mR mu a0 16) fun b132 =>
  gd (ib (x123 + 1) (mN mu b132)) <|
  gd (ib (x123 - 1) (mN mu b124)) <|
  nm (sI mu b124 (Int32.toNatClampNeg (x123 - 1)) (mI mu b132 (Int32.toNatClampNeg (x123 + 1)))) fun m135 =>
  nm (x6 + 1) fun x136 =>
  f_X10_worked_h16 a0 x1 x2 x3 x4 k180 n x123 x136 m135)
  else (
  fo (mR mu a0 16) fun b127 =>
  gd (ib x123 (mN mu b127)) <|
  gd (ib (x123 - 1) (mN mu b124)) <|
  nm (sI mu b124 (Int32.toNatClampNeg (x123 - 1)) (mI mu b127 (Int32.toNatClampNeg x123))) fun m130 =>
  nm (x6 + 1) fun x131 =>
  f_X10_worked_h16 a0 x1 x2 x3 x4 k180 n x123 x131 m130))
  else (
  nm (x5 + (-1)) fun x112 =>
  fo (mR mu a0 16) fun b113 =>
  fo (mR mu a0 16) fun b114 =>
  gd (ib (x112 - 1) (mN mu b114)) <|
  fo (mR mu a0 16) fun b116 =>
  gd (ib x112 (mN mu b116)) <|
  b2 (f_X10_both x111 (mI mu b114 (Int32.toNatClampNeg (x112 - 1))) (mI mu b116 (Int32.toNatClampNeg x112)) mu) fun r119 m118 =>
  gd (ib (x112 - 1) (mN m118 b113)) <|
  nm (sI m118 b113 (Int32.toNatClampNeg (x112 - 1)) r119) fun m121 =>
  nm (x6 + 1) fun x122 =>
  f_X10_worked_h16 a0 x1 x2 x3 x4 k180 n x112 x122 m121))
  else (
  fo (mR mu a0 16) fun b137 =>
  if 10000 ≤ x111 then (
  b2 (f_X10_named a0 (x111 - 10000) x1 x2 x3 mu) fun r139 m138 =>
  gd (ib x5 (mN m138 b137)) <|
  nm (sI m138 b137 (Int32.toNatClampNeg x5) r139) fun m141 =>
  nm (x5 + 1) fun x142 =>
  nm (x6 + 1) fun x143 =>
  f_X10_worked_h16 a0 x1 x2 x3 x4 k180 n x142 x143 m141)
  else (
  gd (ib x5 (mN mu b137)) <|
  nm (sI mu b137 (Int32.toNatClampNeg x5) x111) fun m145 =>
  nm (x5 + 1) fun x146 =>
  nm (x6 + 1) fun x147 =>
  f_X10_worked_h16 a0 x1 x2 x3 x4 k180 n x146 x147 m145)))
def f_X10_worked (a0 : Nat) (x1 : Int32) (x2 : Int32) (x3 : Int32) (m0 : XMem) : Option (Int32 × XMem) :=
  nm ((243 + (102 * x1))) fun x101 =>
  f_X10_worked_h16 a0 x1 x2 x3 x101 (fun m102 =>
  fo (mR m102 a0 0) fun b103 =>
  gd (ib x101 (mN m102 b103)) <|
  if (mI m102 b103 (Int32.toNatClampNeg x101)) ≤ 0 then (
  if x1 = 7 then (
  some (1, m102))
  else (
  some (0, m102)))
  else (
  fo (mR m102 a0 16) fun b105 =>
  gd (ib 0 (mN m102 b105)) <|
  some ((mI m102 b105 (Int32.toNatClampNeg 0)), m102))) 2000 0 1 m0
def f_X10_held (x0 : Int32) (m0 : XMem) : Option (Int32 × XMem) :=
  if 0 ≤ x0 then (
  if x0 ≤ 9999 then (
  some (x0, m0))
  else (
  some (9999, m0)))
  else (
  some (0, m0))
def f_X10_backOf (a0 : Nat) (x1 : Int32) (x2 : Int32) (m0 : XMem) : Option (Int32 × XMem) :=
  b2 (f_X10_ofCell a0 x1 0 m0) fun r102 m101 =>
  if r102 = 2 then (
  some ((x2 / 2), m101))
  else (
  if r102 = 5 then (
  some (((x2 / 2) + (x2 / 10)), m101))
  else (
  some (0, m101)))
def f_X10_puts (a0 : Nat) (x1 : Int32) (x2 : Int32) (x3 : Int32) (m0 : XMem) : Option (XMem) :=
  fo (mR m0 a0 0) fun b101 =>
  gd (ib ((11 + (17 * x1)) + x2) (mN m0 b101)) <|
  nm (sI m0 b101 (Int32.toNatClampNeg ((11 + (17 * x1)) + x2)) x3) fun m103 =>
  some m103
def f_X10_rayOf (a0 : Nat) (x1 : Int32) (m0 : XMem) : Option (Int32 × XMem) :=
  if 0 ≤ x1 then (
  fo (mR m0 a0 0) fun b101 =>
  gd (ib (5 + x1) (mN m0 b101)) <|
  some ((mI m0 b101 (Int32.toNatClampNeg (5 + x1))), m0))
  else (
  some (0, m0))
def f_X10_goes_h327 (a0 : Nat) (x1 : Int32) (k370 :  XMem → Option (XMem)) : Nat → Int32 → XMem → Option (XMem)
  | 0, _, _ => none
  | n + 1, x14, mu =>
  if 4 ≤ x14 then (
  k370  mu)
  else (
  b2 (f_X10_ofCell a0 x1 (13 + x14) mu) fun r153 m152 =>
  b2 (f_X10_ofCell a0 x1 (8 + x14) m152) fun r155 m154 =>
  b1 (f_X10_puts a0 x1 (13 + x14) (r153 + r155) m154) fun m156 =>
  nm (x14 + 1) fun x157 =>
  f_X10_goes_h327 a0 x1 k370 n x157 m156)
def f_X10_goes_j241 (a0 : Nat) (x1 : Int32) (x2 : Int32) (x4 : Int32) (x5 : Int32) (x6 : Int32) (x8 : Int32) (xs0 : Int32) (mu : XMem) : Option (XMem) :=
  b2 (f_X10_ofCell a0 x1 6 mu) fun r140 m139 =>
  b1 (f_X10_puts a0 x1 6 (r140 - xs0) m139) fun m141 =>
  b1 (f_X10_puts a0 x1 8 x6 m141) fun m142 =>
  b1 (f_X10_puts a0 x1 9 x8 m142) fun m143 =>
  b1 (f_X10_puts a0 x1 10 x5 m143) fun m144 =>
  b1 (f_X10_puts a0 x1 11 xs0 m144) fun m145 =>
  b2 (f_X10_worked a0 6 x1 x4 m145) fun r147 m146 =>
  b2 (f_X10_rayOf a0 x2 m146) fun r149 m148 =>
  b1 (f_X10_puts a0 x1 12 (r147 + ((x5 * r149) / 100)) m148) fun m150 =>
  f_X10_goes_h327 a0 x1 (fun m151 =>
  some m151) 2000 0 m150
def f_X10_goes_j178 (a0 : Nat) (x1 : Int32) (x2 : Int32) (x4 : Int32) (x5 : Int32) (x6 : Int32) (x8 : Int32) (x10 : Int32) (mu : XMem) : Option (XMem) :=
  b2 (f_X10_ofCell a0 x1 6 mu) fun r128 m127 =>
  b1 (f_X10_puts a0 x1 6 ((r128 + x10) + x5) m127) fun m129 =>
  b2 (f_X10_warmth a0 x1 m129) fun r131 m130 =>
  b2 (f_X10_ofCell a0 x1 2 m130) fun r133 m132 =>
  nm (((Int32.toInt64 r131) * (Int32.toInt64 r133))) fun l134 =>
  b2 (f_X10_ofCell a0 x1 6 m132) fun r136 m135 =>
  if (lg_cmp l134 (Int32.toInt64 r136)) ≤ 0 then (
  f_X10_goes_j241 a0 x1 x2 x4 x5 x6 x8 (Int64.toInt32 l134) m135)
  else (
  b2 (f_X10_ofCell a0 x1 6 m135) fun r138 m137 =>
  f_X10_goes_j241 a0 x1 x2 x4 x5 x6 x8 r138 m137)
def f_X10_goes_j175 (a0 : Nat) (x1 : Int32) (x2 : Int32) (x4 : Int32) (x5 : Int32) (x6 : Int32) (x8 : Int32) (x10 : Int32) (xs0 : Int32) (xs1 : Int32) (xs2 : Int32) (as3 : Nat) (mu : XMem) : Option (XMem) :=
  b1 (f_X10_puts as3 xs2 xs1 xs0 mu) fun m126 =>
  f_X10_goes_j178 a0 x1 x2 x4 x5 x6 x8 x10 m126
def f_X10_goes_j154 (a0 : Nat) (x1 : Int32) (x2 : Int32) (x4 : Int32) (x5 : Int32) (x6 : Int32) (x8 : Int32) (x12 : Int32) (xs0 : Int32) (xs1 : Int32) (mu : XMem) : Option (XMem) :=
  nm ((xs1 + xs0)) fun x125 =>
  if x12 < 1000 then (
  f_X10_goes_j175 a0 x1 x2 x4 x5 x6 x8 x125 x12 7 x1 a0 mu)
  else (
  f_X10_goes_j175 a0 x1 x2 x4 x5 x6 x8 x125 0 7 x1 a0 mu)
def f_X10_goes_j93 (a0 : Nat) (x1 : Int32) (x2 : Int32) (x4 : Int32) (x5 : Int32) (x6 : Int32) (x8 : Int32) (xs0 : Int32) (xs1 : Int32) (xs2 : Int32) (as3 : Nat) (mu : XMem) : Option (XMem) :=
  b1 (f_X10_puts as3 xs2 xs1 xs0 mu) fun m116 =>
  nm ((x6 - x8)) fun x117 =>
  b2 (f_X10_ofCell a0 x1 0 m116) fun r119 m118 =>
  if r119 = 3 then (
  nm ((x117 / 5)) fun x120 =>
  nm ((x117 - x120)) fun x121 =>
  b2 (f_X10_ofCell a0 x1 7 m118) fun r123 m122 =>
  nm ((r123 + x120)) fun x124 =>
  if x124 < 1000 then (
  f_X10_goes_j154 a0 x1 x2 x4 x5 x6 x8 x124 0 x121 m122)
  else (
  f_X10_goes_j154 a0 x1 x2 x4 x5 x6 x8 x124 x124 x121 m122))
  else (
  f_X10_goes_j178 a0 x1 x2 x4 x5 x6 x8 x117 m118)
def f_X10_goes_j27 (a0 : Nat) (x1 : Int32) (x2 : Int32) (x4 : Int32) (xs0 : Int32) (mu : XMem) : Option (XMem) :=
  b2 (f_X10_powerNow a0 x1 mu) fun r106 m105 =>
  b2 (f_X10_ofCell a0 x1 4 m105) fun r108 m107 =>
  nm (((r106 * r108) / 100)) fun x109 =>
  b2 (f_X10_backOf a0 x1 x109 m107) fun r111 m110 =>
  nm ((x109 - r111)) fun x112 =>
  b2 (f_X10_ofCell a0 x1 5 m110) fun r114 m113 =>
  nm ((r114 - ((x109 + 99) / 100))) fun x115 =>
  if 0 ≤ x115 then (
  f_X10_goes_j93 a0 x1 x2 x4 xs0 r106 x112 x115 5 x1 a0 m113)
  else (
  f_X10_goes_j93 a0 x1 x2 x4 xs0 r106 x112 0 5 x1 a0 m113)
def f_X10_goes (a0 : Nat) (x1 : Int32) (x2 : Int32) (x3 : Int32) (x4 : Int32) (m0 : XMem) : Option (XMem) :=
  if x3 < 0 then (
  if 0 ≤ x2 then (
  b2 (f_X10_worked a0 x2 x1 x4 m0) fun r102 m101 =>
  b2 (f_X10_held r102 m101) fun r104 m103 =>
  f_X10_goes_j27 a0 x1 x2 x4 r104 m103)
  else (
  f_X10_goes_j27 a0 x1 x2 x4 0 m0))
  else (
  f_X10_goes_j27 a0 x1 x2 x4 x3 m0)
def f_X10_go_h3 (a0 : Nat) (x1 : Int32) (x2 : Int32) (x3 : Int32) (x4 : Int32) (k32 :  XMem → Option (XMem)) : Nat → Int32 → XMem → Option (XMem)
  | 0, _, _ => none
  | n + 1, x5, mu =>
  if x4 ≤ x5 then (
  k32  mu)
  else (
  fo (mR mu a0 0) fun b102 =>
  gd (ib 0 (mN mu b102)) <|
  b1 (f_X10_goes a0 x1 x2 x3 ((mI mu b102 (Int32.toNatClampNeg 0)) + x5) mu) fun m104 =>
  nm (x5 + 1) fun x105 =>
  f_X10_go_h3 a0 x1 x2 x3 x4 k32 n x105 m104)
def f_X10_go (a0 : Nat) (x1 : Int32) (x2 : Int32) (x3 : Int32) (x4 : Int32) (m0 : XMem) : Option (XMem) :=
  f_X10_go_h3 a0 x1 x2 x3 x4 (fun m101 =>
  some m101) 2000 0 m0
def f_X10_seen (a0 : Nat) (x1 : Int32) (x2 : Int32) (m0 : XMem) : Option (Int32 × XMem) :=
  if x2 = 0 then (
  b2 (f_X10_ofCell a0 x1 6 m0) fun r103 m102 =>
  some (r103, m102))
  else (
  if x2 = 1 then (
  b2 (f_X10_readOf a0 x1 m0) fun r106 m105 =>
  some (r106, m105))
  else (
  if x2 = 2 then (
  b2 (f_X10_ofCell a0 x1 12 m0) fun r109 m108 =>
  some (r109, m108))
  else (
  if x2 = 3 then (
  b2 (f_X10_ofCell a0 x1 7 m0) fun r112 m111 =>
  some (r112, m111))
  else (
  b2 (f_X10_ofCell a0 x1 5 m0) fun r114 m113 =>
  some (r114, m113)))))
def f_X10_brings_h2 (a0 : Nat) (x1 : Int32) (k26 :  XMem → Option (XMem)) : Nat → Int32 → XMem → Option (XMem)
  | 0, _, _ => none
  | n + 1, x2, mu =>
  if 17 ≤ x2 then (
  k26  mu)
  else (
  fo (mR mu a0 17) fun b102 =>
  gd (ib x2 (mN mu b102)) <|
  b1 (f_X10_puts a0 x1 x2 (mI mu b102 (Int32.toNatClampNeg x2)) mu) fun m104 =>
  nm (x2 + 1) fun x105 =>
  f_X10_brings_h2 a0 x1 k26 n x105 m104)
def f_X10_brings (a0 : Nat) (x1 : Int32) (m0 : XMem) : Option (XMem) :=
  f_X10_brings_h2 a0 x1 (fun m101 =>
  some m101) 2000 0 m0
def f_X10_would (a0 : Nat) (x1 : Int32) (x2 : Int32) (x3 : Int32) (x4 : Int32) (m0 : XMem) : Option (Int32 × XMem) :=
  b1 (f_X10_saves a0 x1 m0) fun m101 =>
  b1 (f_X10_go a0 x1 x2 (-1) x3 m101) fun m102 =>
  b2 (f_X10_seen a0 x1 x4 m102) fun r104 m103 =>
  b1 (f_X10_brings a0 x1 m103) fun m105 =>
  some (r104, m105)
def f_X10_apart (a0 : Nat) (x1 : Int32) (x2 : Int32) (x3 : Int32) (x4 : Int32) (x5 : Int32) (m0 : XMem) : Option (Int64 × XMem) :=
  b2 (f_X10_would a0 x1 x2 x4 x5 m0) fun r102 m101 =>
  b2 (f_X10_would a0 x1 x3 x4 x5 m101) fun r104 m103 =>
  nm (((Int32.toInt64 r102) - (Int32.toInt64 r104))) fun l105 =>
  if 0 ≤ (lg_cmp l105 0) then (
  some (l105, m103))
  else (
  some ((0 - l105), m103))
def f_X10_within (x0 : Int32) (x1 : Int32) (x2 : Int32) (m0 : XMem) : Option (Int32 × XMem) :=
  if x0 < x1 then (
  some (0, m0))
  else (
  if x2 < x0 then (
  some (0, m0))
  else (
  some (1, m0)))
def f_X10_isCell (a0 : Nat) (x1 : Int32) (m0 : XMem) : Option (Int32 × XMem) :=
  fo (mR m0 a0 0) fun b101 =>
  gd (ib 1 (mN m0 b101)) <|
  b2 (f_X10_within x1 0 ((mI m0 b101 (Int32.toNatClampNeg 1)) - 1) m0) fun r104 m103 =>
  some (r104, m103)
def f_X10_finds (a0 : Nat) (x1 : Int32) (m0 : XMem) : Option (Int32 × XMem) :=
  fo (mR m0 a0 4) fun b101 =>
  gd (ib ((-1000000001) - x1) (mN m0 b101)) <|
  gd (ib ((-1000000001) - x1) (mN m0 b101)) <|
  nm (sI m0 b101 (Int32.toNatClampNeg ((-1000000001) - x1)) ((mI m0 b101 (Int32.toNatClampNeg ((-1000000001) - x1))) + 1)) fun m104 =>
  some (x1, m104)
def f_X10_as_j48 (a0 : Nat) (x1 : Int32) (x3 : Int32) (mu : XMem) : Option (Int32 × XMem) :=
  if 0 ≤ x3 then (
  b2 (f_X10_readOf a0 x1 mu) fun r116 m115 =>
  some (r116, m115))
  else (
  b2 (f_X10_finds a0 (-1000000003) mu) fun r118 m117 =>
  some (r118, m117))
def f_X10_as_h31 (a0 : Nat) (x1 : Int32) (x2 : Int32) (k48 : Int32 →  XMem → Option (Int32 × XMem)) : Nat → Int32 → XMem → Option (Int32 × XMem)
  | 0, _, _ => none
  | n + 1, x3, mu =>
  if x3 < 0 then (
  k48 x3 mu)
  else (
  if x3 = x2 then (
  k48 x3 mu)
  else (
  b2 (f_X10_above x3 mu) fun r114 m113 =>
  f_X10_as_h31 a0 x1 x2 k48 n r114 m113))
def f_X10_as (a0 : Nat) (x1 : Int32) (x2 : Int32) (m0 : XMem) : Option (Int32 × XMem) :=
  b2 (f_X10_isCell a0 x1 m0) fun r102 m101 =>
  if r102 = 0 then (
  b2 (f_X10_finds a0 (-1000000001) m101) fun r104 m103 =>
  some (r104, m103))
  else (
  b2 (f_X10_within x2 0 5 m101) fun r106 m105 =>
  if r106 = 0 then (
  b2 (f_X10_finds a0 (-1000000001) m105) fun r112 m111 =>
  some (r112, m111))
  else (
  b2 (f_X10_ofCell a0 x1 0 m105) fun r108 m107 =>
  f_X10_as_h31 a0 x1 x2 (fun x110 m109 =>
  f_X10_as_j48 a0 x1 x110 m109) 2000 r108 m107))
def f_X10_isLaw (a0 : Nat) (x1 : Int32) (m0 : XMem) : Option (Int32 × XMem) :=
  fo (mR m0 a0 0) fun b101 =>
  gd (ib 2 (mN m0 b101)) <|
  b2 (f_X10_within x1 0 ((mI m0 b101 (Int32.toNatClampNeg 2)) - 1) m0) fun r104 m103 =>
  some (r104, m103)
def f_X10_mustOf (a0 : Nat) (x1 : Int32) (x2 : Int32) (m0 : XMem) : Option (Int32 × XMem) :=
  fo (mR m0 a0 0) fun b101 =>
  gd (ib 0 (mN m0 b101)) <|
  b2 (f_X10_worked a0 x2 x1 (mI m0 b101 (Int32.toNatClampNeg 0)) m0) fun r104 m103 =>
  b2 (f_X10_held r104 m103) fun r106 m105 =>
  b2 (f_X10_rayOf a0 x2 m105) fun r108 m107 =>
  some (((r106 * r108) / 100), m107)
def f_X10_barred (a0 : Nat) (x1 : Int32) (x2 : Int32) (x3 : Int32) (m0 : XMem) : Option (Int32 × XMem) :=
  b2 (f_X10_isCell a0 x1 m0) fun r102 m101 =>
  if r102 = 0 then (
  b2 (f_X10_finds a0 (-1000000001) m101) fun r104 m103 =>
  some (r104, m103))
  else (
  b2 (f_X10_isLaw a0 x2 m101) fun r106 m105 =>
  if r106 = 0 then (
  b2 (f_X10_finds a0 (-1000000001) m105) fun r108 m107 =>
  some (r108, m107))
  else (
  b2 (f_X10_within x3 0 9999 m105) fun r110 m109 =>
  if r110 = 0 then (
  b2 (f_X10_finds a0 (-1000000001) m109) fun r121 m120 =>
  some (r121, m120))
  else (
  b2 (f_X10_ofCell a0 x1 12 m109) fun r112 m111 =>
  fo (mR m111 a0 0) fun b113 =>
  gd (ib 0 (mN m111 b113)) <|
  b2 (f_X10_worked a0 6 x1 (mI m111 b113 (Int32.toNatClampNeg 0)) m111) fun r116 m115 =>
  nm ((((Int32.toInt64 r112) - (Int32.toInt64 r116)) + (Int32.toInt64 x3))) fun l117 =>
  b2 (f_X10_mustOf a0 x1 x2 m115) fun r119 m118 =>
  if 0 ≤ (lg_cmp l117 (Int32.toInt64 r119)) then (
  some (0, m118))
  else (
  some (1, m118)))))
def f_X10_isHouse (a0 : Nat) (x1 : Int32) (m0 : XMem) : Option (Int32 × XMem) :=
  fo (mR m0 a0 0) fun b101 =>
  gd (ib 3 (mN m0 b101)) <|
  b2 (f_X10_within x1 0 ((mI m0 b101 (Int32.toNatClampNeg 3)) - 1) m0) fun r104 m103 =>
  some (r104, m103)
def f_X10_ofHouse (a0 : Nat) (x1 : Int32) (x2 : Int32) (m0 : XMem) : Option (Int32 × XMem) :=
  fo (mR m0 a0 0) fun b101 =>
  gd (ib ((147 + (12 * x1)) + x2) (mN m0 b101)) <|
  some ((mI m0 b101 (Int32.toNatClampNeg ((147 + (12 * x1)) + x2))), m0)
def f_X10_itsBalance (a0 : Nat) (x1 : Int32) (m0 : XMem) : Option (Int64 × XMem) :=
  fo (mR m0 a0 2) fun b101 =>
  b2 (f_X10_ofHouse a0 x1 2 m0) fun r103 m102 =>
  gd (ib ((2 * x1) + r103) (mN m102 b101)) <|
  some ((mL m102 b101 (Int32.toNatClampNeg ((2 * x1) + r103))), m102)
def f_X10_beside (a0 : Nat) (x1 : Int32) (x2 : Int32) (m0 : XMem) : Option (Int32 × XMem) :=
  b2 (f_X10_isHouse a0 x1 m0) fun r102 m101 =>
  if r102 = 0 then (
  b2 (f_X10_finds a0 (-1000000001) m101) fun r104 m103 =>
  some (r104, m103))
  else (
  b2 (f_X10_isHouse a0 x2 m101) fun r106 m105 =>
  if r106 = 0 then (
  b2 (f_X10_finds a0 (-1000000001) m105) fun r108 m107 =>
  some (r108, m107))
  else (
  if x1 = x2 then (
  b2 (f_X10_finds a0 (-1000000001) m105) fun r128 m127 =>
  some (r128, m127))
  else (
  b2 (f_X10_ofHouse a0 x1 5 m105) fun r110 m109 =>
  if r110 = 0 then (
  b2 (f_X10_finds a0 (-1000000004) m109) fun r112 m111 =>
  some (r112, m111))
  else (
  b2 (f_X10_ofHouse a0 x2 5 m109) fun r114 m113 =>
  if r114 = 0 then (
  b2 (f_X10_finds a0 (-1000000004) m113) fun r126 m125 =>
  some (r126, m125))
  else (
  b2 (f_X10_itsBalance a0 x1 m113) fun l116 m115 =>
  b2 (f_X10_ofHouse a0 x2 5 m115) fun r118 m117 =>
  nm ((l116 * (Int32.toInt64 r118))) fun l119 =>
  b2 (f_X10_itsBalance a0 x2 m117) fun l121 m120 =>
  b2 (f_X10_ofHouse a0 x1 5 m120) fun r123 m122 =>
  nm ((l121 * (Int32.toInt64 r123))) fun l124 =>
  if (lg_cmp l119 l124) ≤ 0 then (
  if 0 ≤ (lg_cmp l119 l124) then (
  some (0, m122))
  else (
  some ((-1), m122)))
  else (
  some (1, m122)))))))
def f_X10_byteAt (a0 : Nat) (x1 : Int32) (m0 : XMem) : Option (Int32 × XMem) :=
  if (mI m0 a0 7) ≤ x1 then (
  some ((-1), m0))
  else (
  fo (mR m0 a0 6) fun b101 =>
  gd (ib x1 (mN m0 b101)) <|
  some ((mI m0 b101 (Int32.toNatClampNeg x1)), m0))
def f_X10_cell_h117 (a0 : Nat) (x1 : Int32) (x2 : Int32) (x3 : Int32) (x4 : Int32) (x6 : Int32) (k139 :  XMem → Option (Int32 × XMem)) : Nat → Int32 → XMem → Option (Int32 × XMem)
  | 0, _, _ => none
  | n + 1, x7, mu =>
  if 17 ≤ x7 then (
  k139  mu)
  else (
  b1 (f_X10_puts a0 x6 x7 0 mu) fun m129 =>
  nm (x7 + 1) fun x130 =>
  f_X10_cell_h117 a0 x1 x2 x3 x4 x6 k139 n x130 m129)
def f_X10_cell_j64 (a0 : Nat) (x1 : Int32) (x2 : Int32) (x3 : Int32) (x4 : Int32) (xs0 : Int32) (mu : XMem) : Option (Int32 × XMem) :=
  if xs0 = 0 then (
  b2 (f_X10_finds a0 (-1000000001) mu) fun r128 m127 =>
  some (r128, m127))
  else (
  fo (mR mu a0 0) fun b109 =>
  gd (ib 1 (mN mu b109)) <|
  if (mI mu b109 (Int32.toNatClampNeg 1)) = 8 then (
  b2 (f_X10_finds a0 (-1000000002) mu) fun r126 m125 =>
  some (r126, m125))
  else (
  fo (mR mu a0 0) fun b111 =>
  gd (ib 1 (mN mu b111)) <|
  nm ((mI mu b111 (Int32.toNatClampNeg 1))) fun x113 =>
  fo (mR mu a0 0) fun b114 =>
  gd (ib 1 (mN mu b114)) <|
  gd (ib 1 (mN mu b114)) <|
  nm (sI mu b114 (Int32.toNatClampNeg 1) ((mI mu b114 (Int32.toNatClampNeg 1)) + 1)) fun m117 =>
  f_X10_cell_h117 a0 x1 x2 x3 x4 x113 (fun m118 =>
  b1 (f_X10_puts a0 x113 0 x1 m118) fun m119 =>
  b1 (f_X10_puts a0 x113 1 (x2 - x2 / 10000 * 10000) m119) fun m120 =>
  b1 (f_X10_puts a0 x113 2 ((x2 / 10000) - (x2 / 10000) / 100 * 100) m120) fun m121 =>
  b1 (f_X10_puts a0 x113 3 (x2 / 1000000) m121) fun m122 =>
  b1 (f_X10_puts a0 x113 4 x3 m122) fun m123 =>
  b1 (f_X10_puts a0 x113 5 x4 m123) fun m124 =>
  some (x113, m124)) 2000 0 m117))
def f_X10_cell_j63 (a0 : Nat) (x1 : Int32) (x2 : Int32) (x3 : Int32) (x4 : Int32) (mu : XMem) : Option (Int32 × XMem) :=
  f_X10_cell_j64 a0 x1 x2 x3 x4 0 mu
def f_X10_cell (a0 : Nat) (x1 : Int32) (x2 : Int32) (x3 : Int32) (x4 : Int32) (m0 : XMem) : Option (Int32 × XMem) :=
  b2 (f_X10_within x1 0 5 m0) fun r102 m101 =>
  if r102 = 0 then (
  f_X10_cell_j63 a0 x1 x2 x3 x4 m101)
  else (
  if x2 < 0 then (
  f_X10_cell_j63 a0 x1 x2 x3 x4 m101)
  else (
  b2 (f_X10_within (x2 / 1000000) 1 99 m101) fun r104 m103 =>
  if r104 = 0 then (
  f_X10_cell_j63 a0 x1 x2 x3 x4 m103)
  else (
  if ((x2 / 10000) - (x2 / 10000) / 100 * 100) ≤ 0 then (
  f_X10_cell_j63 a0 x1 x2 x3 x4 m103)
  else (
  b2 (f_X10_within x3 0 100 m103) fun r106 m105 =>
  if r106 = 0 then (
  f_X10_cell_j63 a0 x1 x2 x3 x4 m105)
  else (
  b2 (f_X10_within x4 0 9999 m105) fun r108 m107 =>
  if r108 = 0 then (
  f_X10_cell_j63 a0 x1 x2 x3 x4 m107)
  else (
  f_X10_cell_j64 a0 x1 x2 x3 x4 1 m107))))))
def f_X10_isSheet (x0 : Int32) (m0 : XMem) : Option (Int32 × XMem) :=
  b2 (f_X10_within x0 0 3 m0) fun r102 m101 =>
  some (r102, m101)
def f_X10_copy_h156 (a0 : Nat) (x3 : Int32) (x4 : Int32) (x5 : Int32) (k191 :  XMem → Option (Int32 × XMem)) : Nat → Int32 → XMem → Option (Int32 × XMem)
  | 0, _, _ => none
  | n + 1, x6, mu =>
  if x5 ≤ x6 then (
  k191  mu)
  else (
  fo (mR mu a0 21) fun b145 =>
  fo (mR mu a0 22) fun b146 =>
  gd (ib x6 (mN mu b146)) <|
  gd (ib (((40 * x3) + x4) + x6) (mN mu b145)) <|
  nm (sL mu b145 (Int32.toNatClampNeg (((40 * x3) + x4) + x6)) (mL mu b146 (Int32.toNatClampNeg x6))) fun m149 =>
  nm (x6 + 1) fun x150 =>
  f_X10_copy_h156 a0 x3 x4 x5 k191 n x150 m149)
def f_X10_copy_h119 (a0 : Nat) (x1 : Int32) (x2 : Int32) (x3 : Int32) (x4 : Int32) (x5 : Int32) (k153 :  XMem → Option (Int32 × XMem)) : Nat → Int32 → XMem → Option (Int32 × XMem)
  | 0, _, _ => none
  | n + 1, x6, mu =>
  if x5 ≤ x6 then (
  k153  mu)
  else (
  fo (mR mu a0 22) fun b139 =>
  fo (mR mu a0 21) fun b140 =>
  gd (ib (((40 * x1) + x2) + x6) (mN mu b140)) <|
  gd (ib x6 (mN mu b139)) <|
  nm (sL mu b139 (Int32.toNatClampNeg x6) (mL mu b140 (Int32.toNatClampNeg (((40 * x1) + x2) + x6)))) fun m143 =>
  nm (x6 + 1) fun x144 =>
  f_X10_copy_h119 a0 x1 x2 x3 x4 x5 k153 n x144 m143)
def f_X10_copy (a0 : Nat) (x1 : Int32) (x2 : Int32) (x3 : Int32) (x4 : Int32) (x5 : Int32) (m0 : XMem) : Option (Int32 × XMem) :=
  b2 (f_X10_isSheet x1 m0) fun r102 m101 =>
  if r102 = 0 then (
  b2 (f_X10_finds a0 (-1000000001) m101) fun r104 m103 =>
  some (r104, m103))
  else (
  b2 (f_X10_isSheet x3 m101) fun r106 m105 =>
  if r106 = 0 then (
  b2 (f_X10_finds a0 (-1000000001) m105) fun r138 m137 =>
  some (r138, m137))
  else (
  fo (mR m105 a0 19) fun b107 =>
  gd (ib x1 (mN m105 b107)) <|
  if (mI m105 b107 (Int32.toNatClampNeg x1)) = 0 then (
  b2 (f_X10_finds a0 (-1000000006) m105) fun r110 m109 =>
  some (r110, m109))
  else (
  fo (mR m105 a0 19) fun b111 =>
  gd (ib x3 (mN m105 b111)) <|
  if (mI m105 b111 (Int32.toNatClampNeg x3)) = 0 then (
  b2 (f_X10_finds a0 (-1000000006) m105) fun r136 m135 =>
  some (r136, m135))
  else (
  fo (mR m105 a0 19) fun b113 =>
  gd (ib x1 (mN m105 b113)) <|
  fo (mR m105 a0 19) fun b115 =>
  gd (ib x3 (mN m105 b115)) <|
  if (mI m105 b113 (Int32.toNatClampNeg x1)) = (mI m105 b115 (Int32.toNatClampNeg x3)) then (
  if x2 < 0 then (
  b2 (f_X10_finds a0 (-1000000001) m105) fun r118 m117 =>
  some (r118, m117))
  else (
  if x4 < 0 then (
  b2 (f_X10_finds a0 (-1000000001) m105) fun r120 m119 =>
  some (r120, m119))
  else (
  if x5 < 0 then (
  b2 (f_X10_finds a0 (-1000000001) m105) fun r122 m121 =>
  some (r122, m121))
  else (
  fo (mR m105 a0 20) fun b123 =>
  gd (ib x1 (mN m105 b123)) <|
  if ((mI m105 b123 (Int32.toNatClampNeg x1)) - x2) < x5 then (
  b2 (f_X10_finds a0 (-1000000001) m105) fun r126 m125 =>
  some (r126, m125))
  else (
  fo (mR m105 a0 20) fun b127 =>
  gd (ib x3 (mN m105 b127)) <|
  if x5 ≤ ((mI m105 b127 (Int32.toNatClampNeg x3)) - x4) then (
  f_X10_copy_h119 a0 x1 x2 x3 x4 x5 (fun m129 =>
  f_X10_copy_h156 a0 x3 x4 x5 (fun m130 =>
  some (x5, m130)) 2000 0 m129) 2000 0 m105)
  else (
  b2 (f_X10_finds a0 (-1000000001) m105) fun r132 m131 =>
  some (r132, m131)))))))
  else (
  b2 (f_X10_finds a0 (-1000000003) m105) fun r134 m133 =>
  some (r134, m133))))))
def f_X10_count_h90 (a0 : Nat) (k116 : Int32 →  XMem → Option (Int32 × XMem)) : Nat → Int32 → Int32 → XMem → Option (Int32 × XMem)
  | 0, _, _, _ => none
  | n + 1, x2, x3, mu =>
  fo (mR mu a0 0) fun b122 =>
  gd (ib 1 (mN mu b122)) <|
  if (mI mu b122 (Int32.toNatClampNeg 1)) ≤ x3 then (
  k116 x2 mu)
  else (
  b2 (f_X10_ofCell a0 x3 6 mu) fun r125 m124 =>
  nm ((x2 + r125)) fun x126 =>
  nm (x3 + 1) fun x127 =>
  f_X10_count_h90 a0 k116 n x126 x127 m124)
def f_X10_count (a0 : Nat) (x1 : Int32) (m0 : XMem) : Option (Int32 × XMem) :=
  if x1 = 0 then (
  fo (mR m0 a0 0) fun b102 =>
  gd (ib 0 (mN m0 b102)) <|
  some ((mI m0 b102 (Int32.toNatClampNeg 0)), m0))
  else (
  if x1 = 1 then (
  fo (mR m0 a0 0) fun b105 =>
  gd (ib 1 (mN m0 b105)) <|
  some ((mI m0 b105 (Int32.toNatClampNeg 1)), m0))
  else (
  if x1 = 2 then (
  fo (mR m0 a0 0) fun b108 =>
  gd (ib 2 (mN m0 b108)) <|
  some ((mI m0 b108 (Int32.toNatClampNeg 2)), m0))
  else (
  if x1 = 3 then (
  fo (mR m0 a0 0) fun b111 =>
  gd (ib 3 (mN m0 b111)) <|
  some ((mI m0 b111 (Int32.toNatClampNeg 3)), m0))
  else (
  if x1 = 4 then (
  fo (mR m0 a0 0) fun b114 =>
  gd (ib 4 (mN m0 b114)) <|
  some (((mI m0 b114 (Int32.toNatClampNeg 4)) - 1), m0))
  else (
  if x1 = 5 then (
  some ((mI m0 a0 7), m0))
  else (
  if x1 = 6 then (
  f_X10_count_h90 a0 (fun x119 m118 =>
  some (x119, m118)) 2000 0 0 m0)
  else (
  b2 (f_X10_finds a0 (-1000000001) m0) fun r121 m120 =>
  some (r121, m120))))))))
def f_X10_setHouse (a0 : Nat) (x1 : Int32) (x2 : Int32) (x3 : Int32) (m0 : XMem) : Option (XMem) :=
  fo (mR m0 a0 0) fun b101 =>
  gd (ib ((147 + (12 * x1)) + x2) (mN m0 b101)) <|
  nm (sI m0 b101 (Int32.toNatClampNeg ((147 + (12 * x1)) + x2)) x3) fun m103 =>
  some m103
def f_X10_countsHour_j160 (a0 : Nat) (x1 : Int32) (x2 : Int32) (mu : XMem) : Option (XMem) :=
  b2 (f_X10_ofHouse a0 x1 6 mu) fun r136 m135 =>
  if r136 = 1 then (
  b2 (f_X10_itsBalance a0 x1 m135) fun l138 m137 =>
  if 0 < (lg_cmp l138 0) then (
  some m137)
  else (
  b1 (f_X10_setHouse a0 x1 6 2 m137) fun m139 =>
  b1 (f_X10_setHouse a0 x1 8 x2 m139) fun m140 =>
  some m140))
  else (
  some m135)
def f_X10_countsHour_j115 (a0 : Nat) (x1 : Int32) (x2 : Int32) (mu : XMem) : Option (XMem) :=
  b2 (f_X10_ofHouse a0 x1 6 mu) fun r128 m127 =>
  if r128 = 0 then (
  b2 (f_X10_itsBalance a0 x1 m127) fun l130 m129 =>
  b2 (f_X10_ofHouse a0 x1 4 m129) fun r132 m131 =>
  if (lg_cmp l130 (Int32.toInt64 r132)) < 0 then (
  f_X10_countsHour_j160 a0 x1 x2 m131)
  else (
  b1 (f_X10_setHouse a0 x1 6 1 m131) fun m133 =>
  b1 (f_X10_setHouse a0 x1 7 x2 m133) fun m134 =>
  some m134))
  else (
  f_X10_countsHour_j160 a0 x1 x2 m127)
def f_X10_countsHour_j27 (a0 : Nat) (x1 : Int32) (x2 : Int32) (x3 : Int32) (mu : XMem) : Option (XMem) :=
  b2 (f_X10_readOf a0 x3 mu) fun r108 m107 =>
  b2 (f_X10_ofHouse a0 x1 1 m107) fun r110 m109 =>
  nm (((Int32.toInt64 r108) * (Int32.toInt64 r110))) fun l111 =>
  b2 (f_X10_ofCell a0 x3 8 m109) fun r113 m112 =>
  b2 (f_X10_ofHouse a0 x1 5 m112) fun r115 m114 =>
  b1 (f_X10_setHouse a0 x1 5 (r115 + 1) m114) fun m116 =>
  fo (mR m116 a0 2) fun b117 =>
  gd (ib (2 * x1) (mN m116 b117)) <|
  b2 (f_X10_ofCell a0 x3 4 m116) fun r120 m119 =>
  gd (ib (2 * x1) (mN m119 b117)) <|
  nm (sL m119 b117 (Int32.toNatClampNeg (2 * x1)) ((mL m116 b117 (Int32.toNatClampNeg (2 * x1))) + (l111 - (Int32.toInt64 (r113 - ((r113 * r120) / 100)))))) fun m122 =>
  fo (mR m122 a0 2) fun b123 =>
  gd (ib ((2 * x1) + 1) (mN m122 b123)) <|
  gd (ib ((2 * x1) + 1) (mN m122 b123)) <|
  nm (sL m122 b123 (Int32.toNatClampNeg ((2 * x1) + 1)) ((mL m122 b123 (Int32.toNatClampNeg ((2 * x1) + 1))) + (l111 - (Int32.toInt64 r113)))) fun m126 =>
  f_X10_countsHour_j115 a0 x1 x2 m126
def f_X10_countsHour (a0 : Nat) (x1 : Int32) (x2 : Int32) (m0 : XMem) : Option (XMem) :=
  b2 (f_X10_ofHouse a0 x1 0 m0) fun r102 m101 =>
  b2 (f_X10_ofHouse a0 x1 3 m101) fun r104 m103 =>
  if r104 = 0 then (
  f_X10_countsHour_j27 a0 x1 x2 r102 m103)
  else (
  b2 (f_X10_worked a0 7 r102 x2 m103) fun r106 m105 =>
  if r106 = 0 then (
  f_X10_countsHour_j115 a0 x1 x2 m105)
  else (
  f_X10_countsHour_j27 a0 x1 x2 r102 m105))
def f_X10_emits (a0 : Nat) (x1 : Int32) (m0 : XMem) : Option (XMem) :=
  if (mI m0 a0 12) = 0 then (
  fo (mR m0 a0 13) fun b101 =>
  gd (ib (mI m0 a0 11) (mN m0 b101)) <|
  nm (sI m0 b101 (Int32.toNatClampNeg (mI m0 a0 11)) x1) fun m103 =>
  nm (sI m103 a0 11 ((mI m103 a0 11) + 1)) fun m104 =>
  some m104)
  else (
  some m0)
def f_X10_ever (a0 : Nat) (x1 : Int32) (x2 : Int32) (m0 : XMem) : Option (Int32 × XMem) :=
  b2 (f_X10_isCell a0 x1 m0) fun r102 m101 =>
  if r102 = 0 then (
  b2 (f_X10_finds a0 (-1000000001) m101) fun r104 m103 =>
  some (r104, m103))
  else (
  b2 (f_X10_within x2 0 3 m101) fun r106 m105 =>
  if r106 = 0 then (
  b2 (f_X10_finds a0 (-1000000001) m105) fun r108 m107 =>
  some (r108, m107))
  else (
  b2 (f_X10_ofCell a0 x1 (13 + x2) m105) fun r110 m109 =>
  some (r110, m109)))
def f_X10_isDigit (x0 : Int32) (m0 : XMem) : Option (Int32 × XMem) :=
  b2 (f_X10_within x0 48 57 m0) fun r102 m101 =>
  some (r102, m101)
def f_X10_number_h7 (a0 : Nat) (k51 : Int32 →  XMem → Option (Int32 × XMem)) : Nat → Int32 → Int32 → XMem → Option (Int32 × XMem)
  | 0, _, _, _ => none
  | n + 1, x1, x2, mu =>
  if (mI mu a0 9) ≤ x2 then (
  k51 x1 mu)
  else (
  fo (mR mu a0 6) fun b104 =>
  gd (ib x2 (mN mu b104)) <|
  nm ((((10 * x1) + (mI mu b104 (Int32.toNatClampNeg x2))) - 48)) fun x106 =>
  if x106 ≤ 10000 then (
  nm (x2 + 1) fun x107 =>
  f_X10_number_h7 a0 k51 n x106 x107 mu)
  else (
  nm (x2 + 1) fun x108 =>
  f_X10_number_h7 a0 k51 n 10000 x108 mu))
def f_X10_number (a0 : Nat) (m0 : XMem) : Option (Int32 × XMem) :=
  nm ((mI m0 a0 8)) fun x101 =>
  f_X10_number_h7 a0 (fun x103 m102 =>
  some (x103, m102)) 2000 0 x101 m0
def f_X10_isLetter (x0 : Int32) (m0 : XMem) : Option (Int32 × XMem) :=
  b2 (f_X10_within x0 97 122 m0) fun r102 m101 =>
  some (r102, m101)
def f_X10_next_h86 (a0 : Nat) (x1 : Int32) (x2 : Int32) (k135 :  XMem → Option (XMem)) : Nat → XMem → Option (XMem)
  | 0, _ => none
  | n + 1, mu =>
  if x1 = 0 then (
  if x2 = 0 then (
  k135  mu)
  else (
  b2 (f_X10_byteAt a0 (mI mu a0 9) mu) fun r117 m116 =>
  b2 (f_X10_isDigit r117 m116) fun r119 m118 =>
  if r119 = 0 then (
  k135  m118)
  else (
  nm (sI m118 a0 9 ((mI m118 a0 9) + 1)) fun m120 =>
  f_X10_next_h86 a0 x1 x2 k135 n  m120)))
  else (
  b2 (f_X10_byteAt a0 (mI mu a0 9) mu) fun r122 m121 =>
  b2 (f_X10_isLetter r122 m121) fun r124 m123 =>
  if r124 = 0 then (
  if x2 = 0 then (
  k135  m123)
  else (
  b2 (f_X10_byteAt a0 (mI m123 a0 9) m123) fun r127 m126 =>
  b2 (f_X10_isDigit r127 m126) fun r129 m128 =>
  if r129 = 0 then (
  k135  m128)
  else (
  nm (sI m128 a0 9 ((mI m128 a0 9) + 1)) fun m130 =>
  f_X10_next_h86 a0 x1 x2 k135 n  m130)))
  else (
  nm (sI m123 a0 9 ((mI m123 a0 9) + 1)) fun m125 =>
  f_X10_next_h86 a0 x1 x2 k135 n  m125))
def f_X10_next_j83 (a0 : Nat) (x1 : Int32) (x2 : Int32) (xs0 : Int32) (as1 : Nat) (mu : XMem) : Option (XMem) :=
  nm (sI mu as1 9 xs0) fun m114 =>
  f_X10_next_h86 a0 x1 x2 (fun m115 =>
  some m115) 2000  m114
def f_X10_next_h8 (a0 : Nat) (k34 :  XMem → Option (XMem)) : Nat → XMem → Option (XMem)
  | 0, _ => none
  | n + 1, mu =>
  b2 (f_X10_byteAt a0 (mI mu a0 8) mu) fun r112 m111 =>
  if r112 = 32 then (
  nm (sI m111 a0 8 ((mI m111 a0 8) + 1)) fun m113 =>
  f_X10_next_h8 a0 k34 n  m113)
  else (
  k34  m111)
def f_X10_next (a0 : Nat) (m0 : XMem) : Option (XMem) :=
  nm (sI m0 a0 8 (mI m0 a0 9)) fun m101 =>
  f_X10_next_h8 a0 (fun m102 =>
  b2 (f_X10_byteAt a0 (mI m102 a0 8) m102) fun r104 m103 =>
  b2 (f_X10_isLetter r104 m103) fun r106 m105 =>
  b2 (f_X10_byteAt a0 (mI m105 a0 8) m105) fun r108 m107 =>
  b2 (f_X10_isDigit r108 m107) fun r110 m109 =>
  if (mI m109 a0 7) ≤ (mI m109 a0 8) then (
  f_X10_next_j83 a0 r106 r110 (mI m109 a0 8) a0 m109)
  else (
  f_X10_next_j83 a0 r106 r110 ((mI m109 a0 8) + 1) a0 m109)) 2000  m101
def f_X10_needs (a0 : Nat) (x1 : Int32) (m0 : XMem) : Option (XMem) :=
  if (mI m0 a0 12) = 0 then (
  if x1 = 0 then (
  nm (sI m0 a0 12 1) fun m105 =>
  if (mI m105 a0 12) = 0 then (
  b1 (f_X10_next a0 m105) fun m106 =>
  some m106)
  else (
  some m105))
  else (
  nm (sI m0 a0 12 0) fun m103 =>
  if (mI m103 a0 12) = 0 then (
  b1 (f_X10_next a0 m103) fun m104 =>
  some m104)
  else (
  some m103)))
  else (
  nm (sI m0 a0 12 1) fun m101 =>
  if (mI m101 a0 12) = 0 then (
  b1 (f_X10_next a0 m101) fun m102 =>
  some m102)
  else (
  some m101))
def f_X10_wordOf_h70 (a1 : Nat) (x2 : Int32) (k98 : Int32 →  XMem → Option (Int32 × XMem)) : Nat → Int32 → Int32 → XMem → Option (Int32 × XMem)
  | 0, _, _, _ => none
  | n + 1, x3, x4, mu =>
  if (nI (mN mu a1)) ≤ x4 then (
  k98 x3 mu)
  else (
  gd (ib x4 (mN mu a1)) <|
  if (mI mu a1 (Int32.toNatClampNeg x4)) = x2 then (
  nm (x4 + 1) fun x116 =>
  f_X10_wordOf_h70 a1 x2 k98 n x4 x116 mu)
  else (
  nm (x4 + 1) fun x115 =>
  f_X10_wordOf_h70 a1 x2 k98 n x3 x115 mu))
def f_X10_wordOf_h36 (a0 : Nat) (a1 : Nat) (k65 : Int32 →  XMem → Option (Int32 × XMem)) : Nat → Int32 → Int32 → XMem → Option (Int32 × XMem)
  | 0, _, _, _ => none
  | n + 1, x2, x3, mu =>
  if (mI mu a0 9) ≤ x3 then (
  k65 x2 mu)
  else (
  fo (mR mu a0 6) fun b110 =>
  gd (ib x3 (mN mu b110)) <|
  nm ((((32 * x2) + (mI mu b110 (Int32.toNatClampNeg x3))) - 96)) fun x112 =>
  nm (x3 + 1) fun x113 =>
  f_X10_wordOf_h36 a0 a1 k65 n x112 x113 mu)
def f_X10_wordOf (a0 : Nat) (a1 : Nat) (m0 : XMem) : Option (Int32 × XMem) :=
  b2 (f_X10_byteAt a0 (mI m0 a0 8) m0) fun r102 m101 =>
  b2 (f_X10_isLetter r102 m101) fun r104 m103 =>
  if r104 = 0 then (
  some ((-1), m103))
  else (
  if ((mI m103 a0 9) - (mI m103 a0 8)) ≤ 4 then (
  nm ((mI m103 a0 8)) fun x105 =>
  f_X10_wordOf_h36 a0 a1 (fun x107 m106 =>
  f_X10_wordOf_h70 a1 x107 (fun x109 m108 =>
  some (x109, m108)) 2000 (-1) 0 m106) 2000 0 x105 m103)
  else (
  some ((-1), m103)))
def f_X10_expression_j220 (rec : Nat → XMem → Option XMem) (a0 : Nat) (x2 : Int32) (xs0 : Int32) (as1 : Nat) (mu : XMem) : Option (XMem) :=
  b1 (f_X10_needs as1 xs0 mu) fun m134 =>
  nm (sI m134 a0 10 ((mI m134 a0 10) - 1)) fun m135 =>
  b1 (f_X10_emits a0 (10100 + x2) m135) fun m136 =>
  some m136
def f_X10_expression_j201 (rec : Nat → XMem → Option XMem) (a0 : Nat) (x2 : Int32) (mu : XMem) : Option (XMem) :=
  b2 (f_X10_byteAt a0 (mI mu a0 8) mu) fun r133 m132 =>
  if r133 = 41 then (
  f_X10_expression_j220 rec a0 x2 1 a0 m132)
  else (
  f_X10_expression_j220 rec a0 x2 0 a0 m132)
def f_X10_expression_j194 (rec : Nat → XMem → Option XMem) (a0 : Nat) (x2 : Int32) (xs0 : Int32) (as1 : Nat) (mu : XMem) : Option (XMem) :=
  b1 (f_X10_needs as1 xs0 mu) fun m130 =>
  b1 (rec a0 m130) fun m131 =>
  f_X10_expression_j201 rec a0 x2 m131
def f_X10_expression_j162 (rec : Nat → XMem → Option XMem) (a0 : Nat) (x2 : Int32) (xs0 : Int32) (as1 : Nat) (mu : XMem) : Option (XMem) :=
  b1 (f_X10_needs as1 xs0 mu) fun m126 =>
  b1 (rec a0 m126) fun m127 =>
  if x2 = 6 then (
  b2 (f_X10_byteAt a0 (mI m127 a0 8) m127) fun r129 m128 =>
  if r129 = 44 then (
  f_X10_expression_j194 rec a0 x2 1 a0 m128)
  else (
  f_X10_expression_j194 rec a0 x2 0 a0 m128))
  else (
  f_X10_expression_j201 rec a0 x2 m127)
def f_X10_expression_j126 (rec : Nat → XMem → Option XMem) (a0 : Nat) (x2 : Int32) (xs0 : Int32) (as1 : Nat) (mu : XMem) : Option (XMem) :=
  b1 (f_X10_needs as1 xs0 mu) fun m121 =>
  nm (sI m121 a0 10 ((mI m121 a0 10) + 1)) fun m122 =>
  b1 (rec a0 m122) fun m123 =>
  b2 (f_X10_byteAt a0 (mI m123 a0 8) m123) fun r125 m124 =>
  if r125 = 44 then (
  f_X10_expression_j162 rec a0 x2 1 a0 m124)
  else (
  f_X10_expression_j162 rec a0 x2 0 a0 m124)
def f_X10_expression_j125 (rec : Nat → XMem → Option XMem) (a0 : Nat) (x2 : Int32) (as0 : Nat) (mu : XMem) : Option (XMem) :=
  f_X10_expression_j126 rec a0 x2 0 as0 mu
def f_X10_expression_j96 (rec : Nat → XMem → Option XMem) (a0 : Nat) (x2 : Int32) (xs0 : Int32) (as1 : Nat) (mu : XMem) : Option (XMem) :=
  b1 (f_X10_needs as1 xs0 mu) fun m118 =>
  b2 (f_X10_byteAt a0 (mI m118 a0 8) m118) fun r120 m119 =>
  if r120 = 40 then (
  if 5 ≤ (mI m119 a0 10) then (
  f_X10_expression_j125 rec a0 x2 a0 m119)
  else (
  f_X10_expression_j126 rec a0 x2 1 a0 m119))
  else (
  f_X10_expression_j125 rec a0 x2 a0 m119)
def f_X10_expression_b (rec : Nat → XMem → Option XMem) (a0 : Nat) (m0 : XMem) : Option XMem :=
  if (mI m0 a0 12) = 0 then (
  b2 (f_X10_byteAt a0 (mI m0 a0 8) m0) fun r102 m101 =>
  b2 (f_X10_isDigit r102 m101) fun r104 m103 =>
  if r104 = 0 then (
  fo (mR m103 a0 14) fun b105 =>
  b2 (f_X10_wordOf a0 b105 m103) fun r107 m106 =>
  fo (mR m106 a0 15) fun b108 =>
  b2 (f_X10_wordOf a0 b108 m106) fun r110 m109 =>
  if r107 < 0 then (
  if r110 < 0 then (
  f_X10_expression_j96 rec a0 r110 0 a0 m109)
  else (
  f_X10_expression_j96 rec a0 r110 1 a0 m109))
  else (
  b1 (f_X10_emits a0 (10000 + r107) m109) fun m111 =>
  b1 (f_X10_needs a0 1 m111) fun m112 =>
  some m112))
  else (
  b2 (f_X10_number a0 m103) fun r114 m113 =>
  b1 (f_X10_emits a0 r114 m113) fun m115 =>
  if 10000 ≤ r114 then (
  b1 (f_X10_needs a0 0 m115) fun m116 =>
  some m116)
  else (
  b1 (f_X10_needs a0 1 m115) fun m117 =>
  some m117)))
  else (
  some m0)
def f_X10_expression : Nat → Nat → XMem → Option XMem
  | 0, _, _ => none
  | n + 1, a0, m0 => f_X10_expression_b (f_X10_expression n) a0 m0
def f_X10_feed_h38 (a0 : Nat) (x1 : Int32) (k77 :  XMem → Option (Int32 × XMem)) : Nat → Int32 → XMem → Option (Int32 × XMem)
  | 0, _, _ => none
  | n + 1, x3, mu =>
  if x3 < 0 then (
  k77  mu)
  else (
  fo (mR mu a0 6) fun b109 =>
  gd (ib (mI mu a0 7) (mN mu b109)) <|
  nm (sI mu b109 (Int32.toNatClampNeg (mI mu a0 7)) ((x1 >>> ((8 * x3) &&& 31)) &&& 255)) fun m111 =>
  nm (sI m111 a0 7 ((mI m111 a0 7) + 1)) fun m112 =>
  nm (x3 + (-1)) fun x113 =>
  f_X10_feed_h38 a0 x1 k77 n x113 m112)
def f_X10_feed (a0 : Nat) (x1 : Int32) (x2 : Int32) (m0 : XMem) : Option (Int32 × XMem) :=
  b2 (f_X10_within x2 1 4 m0) fun r102 m101 =>
  if r102 = 0 then (
  b2 (f_X10_finds a0 (-1000000001) m101) fun r108 m107 =>
  some (r108, m107))
  else (
  if ((mI m101 a0 7) + x2) ≤ 100 then (
  nm ((x2 - 1)) fun x103 =>
  f_X10_feed_h38 a0 x1 (fun m104 =>
  some ((mI m104 a0 7), m104)) 2000 x103 m101)
  else (
  b2 (f_X10_finds a0 (-1000000002) m101) fun r106 m105 =>
  some (r106, m105)))
def f_X10_isLawOrNone (a0 : Nat) (x1 : Int32) (m0 : XMem) : Option (Int32 × XMem) :=
  fo (mR m0 a0 0) fun b101 =>
  gd (ib 2 (mN m0 b101)) <|
  b2 (f_X10_within x1 (-1) ((mI m0 b101 (Int32.toNatClampNeg 2)) - 1) m0) fun r104 m103 =>
  some (r104, m103)
def f_X10_force (a0 : Nat) (x1 : Int32) (m0 : XMem) : Option (Int32 × XMem) :=
  b2 (f_X10_isLawOrNone a0 x1 m0) fun r102 m101 =>
  if r102 = 0 then (
  b2 (f_X10_finds a0 (-1000000001) m101) fun r110 m109 =>
  some (r110, m109))
  else (
  fo (mR m101 a0 0) fun b103 =>
  gd (ib 4 (mN m101 b103)) <|
  nm (((mI m101 b103 (Int32.toNatClampNeg 4)) - 1)) fun x105 =>
  fo (mR m101 a0 0) fun b106 =>
  gd (ib 4 (mN m101 b106)) <|
  nm (sI m101 b106 (Int32.toNatClampNeg 4) (x1 + 1)) fun m108 =>
  some (x105, m108))
def f_X10_foretold (a0 : Nat) (x1 : Int32) (x2 : Int32) (x3 : Int32) (x4 : Int32) (m0 : XMem) : Option (Int32 × XMem) :=
  b2 (f_X10_isCell a0 x1 m0) fun r102 m101 =>
  if r102 = 0 then (
  b2 (f_X10_finds a0 (-1000000001) m101) fun r104 m103 =>
  some (r104, m103))
  else (
  b2 (f_X10_isLawOrNone a0 x2 m101) fun r106 m105 =>
  if r106 = 0 then (
  b2 (f_X10_finds a0 (-1000000001) m105) fun r108 m107 =>
  some (r108, m107))
  else (
  b2 (f_X10_within x3 0 100 m105) fun r110 m109 =>
  if r110 = 0 then (
  b2 (f_X10_finds a0 (-1000000001) m109) fun r112 m111 =>
  some (r112, m111))
  else (
  b2 (f_X10_within x4 0 4 m109) fun r114 m113 =>
  if r114 = 0 then (
  b2 (f_X10_finds a0 (-1000000001) m113) fun r118 m117 =>
  some (r118, m117))
  else (
  b2 (f_X10_would a0 x1 x2 x3 x4 m113) fun r116 m115 =>
  some (r116, m115)))))
def f_X10_gets (a0 : Nat) (x1 : Int32) (m0 : XMem) : Option (Int32 × XMem) :=
  b2 (f_X10_ofHouse a0 x1 6 m0) fun r102 m101 =>
  if r102 = 1 then (
  b2 (f_X10_itsBalance a0 x1 m101) fun l104 m103 =>
  if (lg_cmp l104 0) ≤ 0 then (
  some (0, m103))
  else (
  some (1, m103)))
  else (
  some (0, m101))
def f_X10_oneHour_h52 (a0 : Nat) (x1 : Int32) (k74 :  XMem → Option (XMem)) : Nat → Int32 → XMem → Option (XMem)
  | 0, _, _ => none
  | n + 1, x2, mu =>
  fo (mR mu a0 0) fun b116 =>
  gd (ib 3 (mN mu b116)) <|
  if (mI mu b116 (Int32.toNatClampNeg 3)) ≤ x2 then (
  k74  mu)
  else (
  b1 (f_X10_countsHour a0 x2 x1 mu) fun m118 =>
  nm (x2 + 1) fun x119 =>
  f_X10_oneHour_h52 a0 x1 k74 n x119 m118)
def f_X10_oneHour_h9 (a0 : Nat) (x1 : Int32) (k40 :  XMem → Option (XMem)) : Nat → Int32 → XMem → Option (XMem)
  | 0, _, _ => none
  | n + 1, x2, mu =>
  fo (mR mu a0 0) fun b110 =>
  gd (ib 1 (mN mu b110)) <|
  if (mI mu b110 (Int32.toNatClampNeg 1)) ≤ x2 then (
  k40  mu)
  else (
  fo (mR mu a0 0) fun b112 =>
  gd (ib 4 (mN mu b112)) <|
  b1 (f_X10_goes a0 x2 ((mI mu b112 (Int32.toNatClampNeg 4)) - 1) (-1) x1 mu) fun m114 =>
  nm (x2 + 1) fun x115 =>
  f_X10_oneHour_h9 a0 x1 k40 n x115 m114)
def f_X10_oneHour (a0 : Nat) (m0 : XMem) : Option (XMem) :=
  fo (mR m0 a0 0) fun b101 =>
  gd (ib 0 (mN m0 b101)) <|
  nm ((mI m0 b101 (Int32.toNatClampNeg 0))) fun x103 =>
  f_X10_oneHour_h9 a0 x103 (fun m104 =>
  fo (mR m104 a0 0) fun b105 =>
  gd (ib 0 (mN m104 b105)) <|
  gd (ib 0 (mN m104 b105)) <|
  nm (sI m104 b105 (Int32.toNatClampNeg 0) ((mI m104 b105 (Int32.toNatClampNeg 0)) + 1)) fun m108 =>
  f_X10_oneHour_h52 a0 x103 (fun m109 =>
  some m109) 2000 0 m108) 2000 0 m0
def f_X10_hours_h40 (a0 : Nat) (x1 : Int32) (k55 :  XMem → Option (Int32 × XMem)) : Nat → Int32 → XMem → Option (Int32 × XMem)
  | 0, _, _ => none
  | n + 1, x2, mu =>
  if x1 ≤ x2 then (
  k55  mu)
  else (
  b1 (f_X10_oneHour a0 mu) fun m112 =>
  nm (x2 + 1) fun x113 =>
  f_X10_hours_h40 a0 x1 k55 n x113 m112)
def f_X10_hours (a0 : Nat) (x1 : Int32) (m0 : XMem) : Option (Int32 × XMem) :=
  b2 (f_X10_within x1 1 100 m0) fun r102 m101 =>
  if r102 = 0 then (
  b2 (f_X10_finds a0 (-1000000001) m101) fun r111 m110 =>
  some (r111, m110))
  else (
  fo (mR m101 a0 0) fun b103 =>
  gd (ib 0 (mN m101 b103)) <|
  if ((mI m101 b103 (Int32.toNatClampNeg 0)) + x1) ≤ 2000 then (
  f_X10_hours_h40 a0 x1 (fun m105 =>
  fo (mR m105 a0 0) fun b106 =>
  gd (ib 0 (mN m105 b106)) <|
  some ((mI m105 b106 (Int32.toNatClampNeg 0)), m105)) 2000 0 m101)
  else (
  b2 (f_X10_finds a0 (-1000000005) m101) fun r109 m108 =>
  some (r109, m108)))
def f_X10_house_h117 (a0 : Nat) (x1 : Int32) (x2 : Int32) (x4 : Int32) (k139 :  XMem → Option (Int32 × XMem)) : Nat → Int32 → XMem → Option (Int32 × XMem)
  | 0, _, _ => none
  | n + 1, x5, mu =>
  if 12 ≤ x5 then (
  k139  mu)
  else (
  b1 (f_X10_setHouse a0 x4 x5 0 mu) fun m132 =>
  nm (x5 + 1) fun x133 =>
  f_X10_house_h117 a0 x1 x2 x4 k139 n x133 m132)
def f_X10_house_j66 (a0 : Nat) (x1 : Int32) (x2 : Int32) (xs0 : Int32) (mu : XMem) : Option (Int32 × XMem) :=
  if xs0 = 0 then (
  b2 (f_X10_finds a0 (-1000000001) mu) fun r131 m130 =>
  some (r131, m130))
  else (
  fo (mR mu a0 0) fun b107 =>
  gd (ib 3 (mN mu b107)) <|
  if (mI mu b107 (Int32.toNatClampNeg 3)) = 8 then (
  b2 (f_X10_finds a0 (-1000000002) mu) fun r129 m128 =>
  some (r129, m128))
  else (
  fo (mR mu a0 0) fun b109 =>
  gd (ib 3 (mN mu b109)) <|
  nm ((mI mu b109 (Int32.toNatClampNeg 3))) fun x111 =>
  fo (mR mu a0 0) fun b112 =>
  gd (ib 3 (mN mu b112)) <|
  gd (ib 3 (mN mu b112)) <|
  nm (sI mu b112 (Int32.toNatClampNeg 3) ((mI mu b112 (Int32.toNatClampNeg 3)) + 1)) fun m115 =>
  f_X10_house_h117 a0 x1 x2 x111 (fun m116 =>
  b1 (f_X10_setHouse a0 x111 0 (x1 - x1 / 10 * 10) m116) fun m117 =>
  b1 (f_X10_setHouse a0 x111 1 (x1 / 1000) m117) fun m118 =>
  b1 (f_X10_setHouse a0 x111 2 ((x1 / 100) - (x1 / 100) / 10 * 10) m118) fun m119 =>
  b1 (f_X10_setHouse a0 x111 3 ((x1 / 10) - (x1 / 10) / 10 * 10) m119) fun m120 =>
  b1 (f_X10_setHouse a0 x111 4 x2 m120) fun m121 =>
  fo (mR m121 a0 2) fun b122 =>
  gd (ib (2 * x111) (mN m121 b122)) <|
  nm (sL m121 b122 (Int32.toNatClampNeg (2 * x111)) 0) fun m124 =>
  fo (mR m124 a0 2) fun b125 =>
  gd (ib ((2 * x111) + 1) (mN m124 b125)) <|
  nm (sL m124 b125 (Int32.toNatClampNeg ((2 * x111) + 1)) 0) fun m127 =>
  some (x111, m127)) 2000 0 m115))
def f_X10_house_j65 (a0 : Nat) (x1 : Int32) (x2 : Int32) (mu : XMem) : Option (Int32 × XMem) :=
  f_X10_house_j66 a0 x1 x2 0 mu
def f_X10_house (a0 : Nat) (x1 : Int32) (x2 : Int32) (m0 : XMem) : Option (Int32 × XMem) :=
  if x1 < 0 then (
  f_X10_house_j65 a0 x1 x2 m0)
  else (
  b2 (f_X10_within (x1 / 1000) 1 99 m0) fun r102 m101 =>
  if r102 = 0 then (
  f_X10_house_j65 a0 x1 x2 m101)
  else (
  if 2 ≤ ((x1 / 100) - (x1 / 100) / 10 * 10) then (
  f_X10_house_j65 a0 x1 x2 m101)
  else (
  if 2 ≤ ((x1 / 10) - (x1 / 10) / 10 * 10) then (
  f_X10_house_j65 a0 x1 x2 m101)
  else (
  b2 (f_X10_isCell a0 (x1 - x1 / 10 * 10) m101) fun r104 m103 =>
  if r104 = 0 then (
  f_X10_house_j65 a0 x1 x2 m103)
  else (
  b2 (f_X10_within x2 1 99999 m103) fun r106 m105 =>
  if r106 = 0 then (
  f_X10_house_j65 a0 x1 x2 m105)
  else (
  f_X10_house_j66 a0 x1 x2 1 m105))))))
def f_X10_houseOf (a0 : Nat) (x1 : Int32) (x2 : Int32) (m0 : XMem) : Option (Int64 × XMem) :=
  b2 (f_X10_isHouse a0 x1 m0) fun r102 m101 =>
  if r102 = 0 then (
  b2 (f_X10_finds a0 (-1000000001) m101) fun r104 m103 =>
  some ((Int32.toInt64 r104), m103))
  else (
  b2 (f_X10_within x2 0 9 m101) fun r106 m105 =>
  if r106 = 0 then (
  b2 (f_X10_finds a0 (-1000000001) m105) fun r124 m123 =>
  some ((Int32.toInt64 r124), m123))
  else (
  fo (mR m105 a0 2) fun b107 =>
  gd (ib (2 * x1) (mN m105 b107)) <|
  nm ((mL m105 b107 (Int32.toNatClampNeg (2 * x1)))) fun l109 =>
  fo (mR m105 a0 2) fun b110 =>
  gd (ib ((2 * x1) + 1) (mN m105 b110)) <|
  nm ((mL m105 b110 (Int32.toNatClampNeg ((2 * x1) + 1)))) fun l112 =>
  if x2 = 6 then (
  b2 (f_X10_itsBalance a0 x1 m105) fun l115 m114 =>
  some (l115, m114))
  else (
  if x2 = 7 then (
  if 0 ≤ (lg_cmp l109 l112) then (
  some (l112, m105))
  else (
  some (l109, m105)))
  else (
  if x2 = 8 then (
  if 0 ≤ (lg_cmp l109 l112) then (
  some (l109, m105))
  else (
  some (l112, m105)))
  else (
  if x2 = 9 then (
  b2 (f_X10_ofHouse a0 x1 6 m105) fun r120 m119 =>
  some ((Int32.toInt64 r120), m119))
  else (
  b2 (f_X10_ofHouse a0 x1 x2 m105) fun r122 m121 =>
  some ((Int32.toInt64 r122), m121)))))))
def f_X10_image_h29 (a0 : Nat) (k53 :  XMem → Option (Int32 × XMem)) : Nat → Int32 → XMem → Option (Int32 × XMem)
  | 0, _, _ => none
  | n + 1, x1, mu =>
  if 16 ≤ x1 then (
  k53  mu)
  else (
  fo (mR mu a0 3) fun b110 =>
  fo (mR mu a0 2) fun b111 =>
  gd (ib x1 (mN mu b111)) <|
  gd (ib x1 (mN mu b110)) <|
  nm (sL mu b110 (Int32.toNatClampNeg x1) (mL mu b111 (Int32.toNatClampNeg x1))) fun m114 =>
  nm (x1 + 1) fun x115 =>
  f_X10_image_h29 a0 k53 n x115 m114)
def f_X10_image_h2 (a0 : Nat) (k27 :  XMem → Option (Int32 × XMem)) : Nat → Int32 → XMem → Option (Int32 × XMem)
  | 0, _, _ => none
  | n + 1, x1, mu =>
  if 1059 ≤ x1 then (
  k27  mu)
  else (
  fo (mR mu a0 1) fun b104 =>
  fo (mR mu a0 0) fun b105 =>
  gd (ib x1 (mN mu b105)) <|
  gd (ib x1 (mN mu b104)) <|
  nm (sI mu b104 (Int32.toNatClampNeg x1) (mI mu b105 (Int32.toNatClampNeg x1))) fun m108 =>
  nm (x1 + 1) fun x109 =>
  f_X10_image_h2 a0 k27 n x109 m108)
def f_X10_image (a0 : Nat) (m0 : XMem) : Option (Int32 × XMem) :=
  f_X10_image_h2 a0 (fun m101 =>
  f_X10_image_h29 a0 (fun m102 =>
  nm (sI m102 a0 5 1) fun m103 =>
  some (1, m103)) 2000 0 m101) 2000 0 m0
def f_X10_init (a0 : Nat) (m0 : XMem) : Option (XMem) :=
  nm (mZ m0) fun b101 =>
  nm (nw m0 (.inr (0, 1059))) fun m102 =>
  nm (sR m102 a0 0 (some b101)) fun m103 =>
  nm (mZ m103) fun b104 =>
  nm (nw m103 (.inr (0, 1059))) fun m105 =>
  nm (sR m105 a0 1 (some b104)) fun m106 =>
  nm (mZ m106) fun b107 =>
  nm (nw m106 (.inr (2, 16))) fun m108 =>
  nm (sR m108 a0 2 (some b107)) fun m109 =>
  nm (mZ m109) fun b110 =>
  nm (nw m109 (.inr (2, 16))) fun m111 =>
  nm (sR m111 a0 3 (some b110)) fun m112 =>
  nm (mZ m112) fun b113 =>
  nm (nw m112 (.inr (0, 7))) fun m114 =>
  nm (sR m114 a0 4 (some b113)) fun m115 =>
  nm (mZ m115) fun b116 =>
  nm (nw m115 (.inr (0, 100))) fun m117 =>
  nm (sR m117 a0 6 (some b116)) fun m118 =>
  nm (mZ m118) fun b119 =>
  nm (nw m118 (.inr (0, 102))) fun m120 =>
  nm (sR m120 a0 13 (some b119)) fun m121 =>
  nm (mZ m121) fun b122 =>
  nm (nw m121 (.inr (0, 5))) fun m123 =>
  gd (ib 0 (mN m123 b122)) <|
  nm (sI m123 b122 (Int32.toNatClampNeg 0) 16) fun m125 =>
  gd (ib 1 (mN m125 b122)) <|
  nm (sI m125 b122 (Int32.toNatClampNeg 1) 20) fun m127 =>
  gd (ib 2 (mN m127 b122)) <|
  nm (sI m127 b122 (Int32.toNatClampNeg 2) 8) fun m129 =>
  gd (ib 3 (mN m129 b122)) <|
  nm (sI m129 b122 (Int32.toNatClampNeg 3) 3) fun m131 =>
  gd (ib 4 (mN m131 b122)) <|
  nm (sI m131 b122 (Int32.toNatClampNeg 4) 23) fun m133 =>
  nm (sR m133 a0 14 (some b122)) fun m134 =>
  nm (mZ m134) fun b135 =>
  nm (nw m134 (.inr (0, 7))) fun m136 =>
  gd (ib 0 (mN m136 b135)) <|
  nm (sI m136 b135 (Int32.toNatClampNeg 0) 20141) fun m138 =>
  gd (ib 1 (mN m138 b135)) <|
  nm (sI m138 b135 (Int32.toNatClampNeg 1) 398963) fun m140 =>
  gd (ib 2 (mN m140 b135)) <|
  nm (sI m140 b135 (Int32.toNatClampNeg 2) 13996) fun m142 =>
  gd (ib 3 (mN m142 b135)) <|
  nm (sI m142 b135 (Int32.toNatClampNeg 3) 525908) fun m144 =>
  gd (ib 4 (mN m144 b135)) <|
  nm (sI m144 b135 (Int32.toNatClampNeg 4) 13614) fun m146 =>
  gd (ib 5 (mN m146 b135)) <|
  nm (sI m146 b135 (Int32.toNatClampNeg 5) 13368) fun m148 =>
  gd (ib 6 (mN m148 b135)) <|
  nm (sI m148 b135 (Int32.toNatClampNeg 6) 294) fun m150 =>
  nm (sR m150 a0 15 (some b135)) fun m151 =>
  nm (mZ m151) fun b152 =>
  nm (nw m151 (.inr (0, 102))) fun m153 =>
  nm (sR m153 a0 16 (some b152)) fun m154 =>
  nm (mZ m154) fun b155 =>
  nm (nw m154 (.inr (0, 17))) fun m156 =>
  nm (sR m156 a0 17 (some b155)) fun m157 =>
  nm (mZ m157) fun b158 =>
  nm (nw m157 (.inr (0, 51))) fun m159 =>
  nm (sR m159 a0 18 (some b158)) fun m160 =>
  nm (mZ m160) fun b161 =>
  nm (nw m160 (.inr (0, 4))) fun m162 =>
  nm (sR m162 a0 19 (some b161)) fun m163 =>
  nm (mZ m163) fun b164 =>
  nm (nw m163 (.inr (0, 4))) fun m165 =>
  nm (sR m165 a0 20 (some b164)) fun m166 =>
  nm (mZ m166) fun b167 =>
  nm (nw m166 (.inr (2, 160))) fun m168 =>
  nm (sR m168 a0 21 (some b167)) fun m169 =>
  nm (mZ m169) fun b170 =>
  nm (nw m169 (.inr (2, 40))) fun m171 =>
  nm (sR m171 a0 22 (some b170)) fun m172 =>
  some m172
def f_X10_isAhead (a0 : Nat) (x1 : Int32) (x2 : Int32) (m0 : XMem) : Option (Int32 × XMem) :=
  b2 (f_X10_ofHouse a0 x1 7 m0) fun r102 m101 =>
  b2 (f_X10_ofHouse a0 x2 7 m101) fun r104 m103 =>
  if r102 < r104 then (
  some (1, m103))
  else (
  b2 (f_X10_ofHouse a0 x1 7 m103) fun r106 m105 =>
  b2 (f_X10_ofHouse a0 x2 7 m105) fun r108 m107 =>
  if r106 = r108 then (
  if x2 ≤ x1 then (
  some (0, m107))
  else (
  some (1, m107)))
  else (
  some (0, m107)))
def f_X10_isText_j47 (a0 : Nat) (as0 : Nat) (mu : XMem) : Option (Int32 × XMem) :=
  nm (sI mu as0 12 1) fun m108 =>
  if (mI m108 a0 12) = 0 then (
  some (1, m108))
  else (
  some (0, m108))
def f_X10_isText (a0 : Nat) (m0 : XMem) : Option (Int32 × XMem) :=
  nm (sI m0 a0 9 0) fun m101 =>
  nm (sI m101 a0 10 0) fun m102 =>
  nm (sI m102 a0 11 0) fun m103 =>
  nm (sI m103 a0 12 0) fun m104 =>
  b1 (f_X10_next a0 m104) fun m105 =>
  b1 (f_X10_expression 8 a0 m105) fun m106 =>
  if (mI m106 a0 12) = 0 then (
  if (mI m106 a0 7) ≤ (mI m106 a0 8) then (
  nm (sI m106 a0 12 0) fun m107 =>
  if (mI m107 a0 12) = 0 then (
  some (1, m107))
  else (
  some (0, m107)))
  else (
  f_X10_isText_j47 a0 a0 m106))
  else (
  f_X10_isText_j47 a0 a0 m106)
def f_X10_keeps_h19 (a0 : Nat) (x1 : Int32) (k56 :  XMem → Option (XMem)) : Nat → Int32 → XMem → Option (XMem)
  | 0, _, _ => none
  | n + 1, x2, mu =>
  if (mI mu a0 11) ≤ x2 then (
  k56  mu)
  else (
  fo (mR mu a0 0) fun b106 =>
  fo (mR mu a0 13) fun b107 =>
  gd (ib x2 (mN mu b107)) <|
  gd (ib (((243 + (102 * x1)) + 1) + x2) (mN mu b106)) <|
  nm (sI mu b106 (Int32.toNatClampNeg (((243 + (102 * x1)) + 1) + x2)) (mI mu b107 (Int32.toNatClampNeg x2))) fun m110 =>
  nm (x2 + 1) fun x111 =>
  f_X10_keeps_h19 a0 x1 k56 n x111 m110)
def f_X10_keeps (a0 : Nat) (x1 : Int32) (m0 : XMem) : Option (XMem) :=
  fo (mR m0 a0 0) fun b101 =>
  gd (ib (243 + (102 * x1)) (mN m0 b101)) <|
  nm (sI m0 b101 (Int32.toNatClampNeg (243 + (102 * x1))) (mI m0 a0 11)) fun m103 =>
  f_X10_keeps_h19 a0 x1 (fun m104 =>
  nm (sI m104 a0 7 0) fun m105 =>
  some m105) 2000 0 m103
def f_X10_latest (a0 : Nat) (x1 : Int32) (x2 : Int32) (m0 : XMem) : Option (Int32 × XMem) :=
  b2 (f_X10_isCell a0 x1 m0) fun r102 m101 =>
  if r102 = 0 then (
  b2 (f_X10_finds a0 (-1000000001) m101) fun r104 m103 =>
  some (r104, m103))
  else (
  b2 (f_X10_within x2 0 4 m101) fun r106 m105 =>
  if r106 = 0 then (
  b2 (f_X10_finds a0 (-1000000001) m105) fun r108 m107 =>
  some (r108, m107))
  else (
  b2 (f_X10_ofCell a0 x1 (8 + x2) m105) fun r110 m109 =>
  some (r110, m109)))
def f_X10_law (a0 : Nat) (x1 : Int32) (m0 : XMem) : Option (Int32 × XMem) :=
  b2 (f_X10_within x1 0 999 m0) fun r102 m101 =>
  if r102 = 0 then (
  b2 (f_X10_finds a0 (-1000000001) m101) fun r124 m123 =>
  some (r124, m123))
  else (
  fo (mR m101 a0 0) fun b103 =>
  gd (ib 2 (mN m101 b103)) <|
  if (mI m101 b103 (Int32.toNatClampNeg 2)) = 6 then (
  b2 (f_X10_finds a0 (-1000000002) m101) fun r122 m121 =>
  some (r122, m121))
  else (
  b2 (f_X10_isText a0 m101) fun r106 m105 =>
  if r106 = 0 then (
  some (((-1) - (mI m105 a0 8)), m105))
  else (
  fo (mR m105 a0 0) fun b107 =>
  gd (ib 2 (mN m105 b107)) <|
  b1 (f_X10_keeps a0 (mI m105 b107 (Int32.toNatClampNeg 2)) m105) fun m109 =>
  fo (mR m109 a0 0) fun b110 =>
  fo (mR m109 a0 0) fun b111 =>
  gd (ib 2 (mN m109 b111)) <|
  gd (ib (5 + (mI m109 b111 (Int32.toNatClampNeg 2))) (mN m109 b110)) <|
  nm (sI m109 b110 (Int32.toNatClampNeg (5 + (mI m109 b111 (Int32.toNatClampNeg 2)))) x1) fun m114 =>
  fo (mR m114 a0 0) fun b115 =>
  gd (ib 2 (mN m114 b115)) <|
  gd (ib 2 (mN m114 b115)) <|
  nm (sI m114 b115 (Int32.toNatClampNeg 2) ((mI m114 b115 (Int32.toNatClampNeg 2)) + 1)) fun m118 =>
  fo (mR m118 a0 0) fun b119 =>
  gd (ib 2 (mN m118 b119)) <|
  some (((mI m118 b119 (Int32.toNatClampNeg 2)) - 1), m118))))
def f_X10_line (a0 : Nat) (x1 : Int32) (x2 : Int32) (m0 : XMem) : Option (Int32 × XMem) :=
  b2 (f_X10_isHouse a0 x1 m0) fun r102 m101 =>
  if r102 = 0 then (
  b2 (f_X10_finds a0 (-1000000001) m101) fun r104 m103 =>
  some (r104, m103))
  else (
  b2 (f_X10_within x2 0 999 m101) fun r106 m105 =>
  if r106 = 0 then (
  b2 (f_X10_finds a0 (-1000000001) m105) fun r120 m119 =>
  some (r120, m119))
  else (
  b2 (f_X10_ofHouse a0 x1 9 m105) fun r108 m107 =>
  b2 (f_X10_ofHouse a0 x1 11 m107) fun r110 m109 =>
  b2 (f_X10_ofHouse a0 x1 10 m109) fun r112 m111 =>
  if r112 = 1 then (
  if x2 = r108 then (
  b1 (f_X10_setHouse a0 x1 11 (r110 + 0) m111) fun m115 =>
  b1 (f_X10_setHouse a0 x1 9 x2 m115) fun m116 =>
  some (r108, m116))
  else (
  b1 (f_X10_setHouse a0 x1 11 (r110 + 1) m111) fun m117 =>
  b1 (f_X10_setHouse a0 x1 9 x2 m117) fun m118 =>
  some (r108, m118)))
  else (
  b1 (f_X10_setHouse a0 x1 11 (r110 + 0) m111) fun m113 =>
  b1 (f_X10_setHouse a0 x1 9 x2 m113) fun m114 =>
  some (r108, m114))))
def f_X10_look_j106 (l5 : Int64) (l7 : Int64) (l9 : Int64) (mu : XMem) : Option (Int32 × XMem) :=
  if (lg_cmp l5 l7) < 0 then (
  if (lg_cmp l7 l9) < 0 then (
  some (2, mu))
  else (
  some (1, mu)))
  else (
  if (lg_cmp l5 l9) < 0 then (
  if (lg_cmp l7 l9) < 0 then (
  some (2, mu))
  else (
  some (1, mu)))
  else (
  some (0, mu)))
def f_X10_look (a0 : Nat) (x1 : Int32) (x2 : Int32) (x3 : Int32) (x4 : Int32) (m0 : XMem) : Option (Int32 × XMem) :=
  b2 (f_X10_isCell a0 x1 m0) fun r102 m101 =>
  if r102 = 0 then (
  b2 (f_X10_finds a0 (-1000000001) m101) fun r104 m103 =>
  some (r104, m103))
  else (
  b2 (f_X10_isLawOrNone a0 x2 m101) fun r106 m105 =>
  if r106 = 0 then (
  b2 (f_X10_finds a0 (-1000000001) m105) fun r108 m107 =>
  some (r108, m107))
  else (
  b2 (f_X10_isLawOrNone a0 x3 m105) fun r110 m109 =>
  if r110 = 0 then (
  b2 (f_X10_finds a0 (-1000000001) m109) fun r112 m111 =>
  some (r112, m111))
  else (
  b2 (f_X10_within x4 1 100 m109) fun r114 m113 =>
  if r114 = 0 then (
  b2 (f_X10_finds a0 (-1000000001) m113) fun r124 m123 =>
  some (r124, m123))
  else (
  b2 (f_X10_apart a0 x1 x2 x3 x4 1 m113) fun l116 m115 =>
  b2 (f_X10_apart a0 x1 x2 x3 x4 2 m115) fun l118 m117 =>
  b2 (f_X10_apart a0 x1 x2 x3 x4 0 m117) fun l120 m119 =>
  if (lg_cmp l116 0) = 0 then (
  if (lg_cmp l118 0) = 0 then (
  if (lg_cmp l120 0) = 0 then (
  b2 (f_X10_finds a0 (-1000000004) m119) fun r122 m121 =>
  some (r122, m121))
  else (
  f_X10_look_j106 l116 l118 l120 m119))
  else (
  f_X10_look_j106 l116 l118 l120 m119))
  else (
  f_X10_look_j106 l116 l118 l120 m119)))))
def f_X10_moved (a0 : Nat) (x1 : Int32) (m0 : XMem) : Option (Int32 × XMem) :=
  b2 (f_X10_isHouse a0 x1 m0) fun r102 m101 =>
  if r102 = 0 then (
  b2 (f_X10_finds a0 (-1000000001) m101) fun r104 m103 =>
  some (r104, m103))
  else (
  b2 (f_X10_ofHouse a0 x1 11 m101) fun r106 m105 =>
  some (r106, m105))
def f_X10_must (a0 : Nat) (x1 : Int32) (x2 : Int32) (m0 : XMem) : Option (Int32 × XMem) :=
  b2 (f_X10_isCell a0 x1 m0) fun r102 m101 =>
  if r102 = 0 then (
  b2 (f_X10_finds a0 (-1000000001) m101) fun r104 m103 =>
  some (r104, m103))
  else (
  b2 (f_X10_isLaw a0 x2 m101) fun r106 m105 =>
  if r106 = 0 then (
  b2 (f_X10_finds a0 (-1000000001) m105) fun r108 m107 =>
  some (r108, m107))
  else (
  b2 (f_X10_mustOf a0 x1 x2 m105) fun r110 m109 =>
  some (r110, m109)))
def f_X10_need_h46 (a0 : Nat) (x1 : Int32) (x2 : Int32) (x3 : Int32) (k98 : Int32 →  XMem → Option (Int32 × XMem)) : Nat → Int32 → Int32 → XMem → Option (Int32 × XMem)
  | 0, _, _, _ => none
  | n + 1, x4, x5, mu =>
  if 300 < x5 then (
  k98 x4 mu)
  else (
  if 0 ≤ x4 then (
  k98 x4 mu)
  else (
  b1 (f_X10_go a0 x1 (-1) x5 x3 mu) fun m118 =>
  b2 (f_X10_ofCell a0 x1 6 m118) fun r120 m119 =>
  if r120 < x2 then (
  b1 (f_X10_brings a0 x1 m119) fun m121 =>
  nm (x5 + 1) fun x122 =>
  f_X10_need_h46 a0 x1 x2 x3 k98 n (-1) x122 m121)
  else (
  b1 (f_X10_brings a0 x1 m119) fun m123 =>
  nm (x5 + 1) fun x124 =>
  f_X10_need_h46 a0 x1 x2 x3 k98 n x5 x124 m123)))
def f_X10_need (a0 : Nat) (x1 : Int32) (x2 : Int32) (x3 : Int32) (m0 : XMem) : Option (Int32 × XMem) :=
  b2 (f_X10_isCell a0 x1 m0) fun r102 m101 =>
  if r102 = 0 then (
  b2 (f_X10_finds a0 (-1000000001) m101) fun r104 m103 =>
  some (r104, m103))
  else (
  b2 (f_X10_within x2 0 999999 m101) fun r106 m105 =>
  if r106 = 0 then (
  b2 (f_X10_finds a0 (-1000000001) m105) fun r108 m107 =>
  some (r108, m107))
  else (
  b2 (f_X10_within x3 1 20 m105) fun r110 m109 =>
  if r110 = 0 then (
  b2 (f_X10_finds a0 (-1000000001) m109) fun r117 m116 =>
  some (r117, m116))
  else (
  b1 (f_X10_saves a0 x1 m109) fun m111 =>
  f_X10_need_h46 a0 x1 x2 x3 (fun x113 m112 =>
  if 0 ≤ x113 then (
  some (x113, m112))
  else (
  b2 (f_X10_finds a0 (-1000000004) m112) fun r115 m114 =>
  some (r115, m114))) 2000 (-1) 0 m111)))
def f_X10_night_j83 (a0 : Nat) (x1 : Int32) (x3 : Int32) (mu : XMem) : Option (Int32 × XMem) :=
  b1 (f_X10_brings a0 x1 mu) fun m121 =>
  if x3 ≤ 200 then (
  some (x3, m121))
  else (
  b2 (f_X10_finds a0 (-1000000004) m121) fun r123 m122 =>
  some (r123, m122))
def f_X10_night_h39 (a0 : Nat) (x1 : Int32) (x2 : Int32) (k83 : Int32 →  XMem → Option (Int32 × XMem)) : Nat → Int32 → XMem → Option (Int32 × XMem)
  | 0, _, _ => none
  | n + 1, x3, mu =>
  if 201 ≤ x3 then (
  k83 x3 mu)
  else (
  b2 (f_X10_readOf a0 x1 mu) fun r114 m113 =>
  if r114 ≤ x2 then (
  k83 x3 m113)
  else (
  fo (mR m113 a0 0) fun b115 =>
  gd (ib 4 (mN m113 b115)) <|
  fo (mR m113 a0 0) fun b117 =>
  gd (ib 0 (mN m113 b117)) <|
  b1 (f_X10_goes a0 x1 ((mI m113 b115 (Int32.toNatClampNeg 4)) - 1) (-1) ((mI m113 b117 (Int32.toNatClampNeg 0)) + x3) m113) fun m119 =>
  nm (x3 + 1) fun x120 =>
  f_X10_night_h39 a0 x1 x2 k83 n x120 m119))
def f_X10_night (a0 : Nat) (x1 : Int32) (x2 : Int32) (m0 : XMem) : Option (Int32 × XMem) :=
  b2 (f_X10_isCell a0 x1 m0) fun r102 m101 =>
  if r102 = 0 then (
  b2 (f_X10_finds a0 (-1000000001) m101) fun r104 m103 =>
  some (r104, m103))
  else (
  b2 (f_X10_within x2 0 999999 m101) fun r106 m105 =>
  if r106 = 0 then (
  b2 (f_X10_finds a0 (-1000000001) m105) fun r112 m111 =>
  some (r112, m111))
  else (
  b1 (f_X10_saves a0 x1 m105) fun m107 =>
  b1 (f_X10_puts a0 x1 1 0 m107) fun m108 =>
  f_X10_night_h39 a0 x1 x2 (fun x110 m109 =>
  f_X10_night_j83 a0 x1 x110 m109) 2000 0 m108))
def f_X10_of (a0 : Nat) (x1 : Int32) (x2 : Int32) (m0 : XMem) : Option (Int32 × XMem) :=
  b2 (f_X10_isCell a0 x1 m0) fun r102 m101 =>
  if r102 = 0 then (
  b2 (f_X10_finds a0 (-1000000001) m101) fun r104 m103 =>
  some (r104, m103))
  else (
  b2 (f_X10_within x2 0 9 m101) fun r106 m105 =>
  if r106 = 0 then (
  b2 (f_X10_finds a0 (-1000000001) m105) fun r114 m113 =>
  some (r114, m113))
  else (
  if 8 ≤ x2 then (
  if x2 = 8 then (
  b2 (f_X10_warmth a0 x1 m105) fun r110 m109 =>
  some (r110, m109))
  else (
  b2 (f_X10_readOf a0 x1 m105) fun r108 m107 =>
  some (r108, m107)))
  else (
  b2 (f_X10_ofCell a0 x1 x2 m105) fun r112 m111 =>
  some (r112, m111))))
def f_X10_order_h28 (a0 : Nat) (x1 : Int32) (x2 : Int32) (k74 : Int32 →  XMem → Option (Int32 × XMem)) : Nat → Int32 → Int32 → XMem → Option (Int32 × XMem)
  | 0, _, _, _ => none
  | n + 1, x3, x4, mu =>
  fo (mR mu a0 0) fun b116 =>
  gd (ib 3 (mN mu b116)) <|
  if (mI mu b116 (Int32.toNatClampNeg 3)) ≤ x4 then (
  k74 x3 mu)
  else (
  b2 (f_X10_ofHouse a0 x4 6 mu) fun r119 m118 =>
  if r119 ≤ 0 then (
  nm ((x3 + 0)) fun x120 =>
  nm (x4 + 1) fun x121 =>
  f_X10_order_h28 a0 x1 x2 k74 n x120 x121 m118)
  else (
  b2 (f_X10_isAhead a0 x4 x2 m118) fun r123 m122 =>
  if r123 = 0 then (
  nm ((x3 + 0)) fun x124 =>
  nm (x4 + 1) fun x125 =>
  f_X10_order_h28 a0 x1 x2 k74 n x124 x125 m122)
  else (
  nm ((x3 + 1)) fun x126 =>
  nm (x4 + 1) fun x127 =>
  f_X10_order_h28 a0 x1 x2 k74 n x126 x127 m122)))
def f_X10_order_h13 (a0 : Nat) (x1 : Int32) (k89 : Int32 →  XMem → Option (Int32 × XMem)) (k97 :  XMem → Option (Int32 × XMem)) : Nat → Int32 → XMem → Option (Int32 × XMem)
  | 0, _, _ => none
  | n + 1, x2, mu =>
  fo (mR mu a0 0) fun b108 =>
  gd (ib 3 (mN mu b108)) <|
  if (mI mu b108 (Int32.toNatClampNeg 3)) ≤ x2 then (
  k97  mu)
  else (
  f_X10_order_h28 a0 x1 x2 (fun x111 m110 =>
  b2 (f_X10_ofHouse a0 x2 6 m110) fun r113 m112 =>
  if r113 ≤ 0 then (
  nm (x2 + 1) fun x114 =>
  f_X10_order_h13 a0 x1 k89 k97 n x114 m112)
  else (
  if x111 = x1 then (
  k89 x2 m112)
  else (
  nm (x2 + 1) fun x115 =>
  f_X10_order_h13 a0 x1 k89 k97 n x115 m112))) 2000 0 0 mu)
def f_X10_order (a0 : Nat) (x1 : Int32) (m0 : XMem) : Option (Int32 × XMem) :=
  if 0 ≤ x1 then (
  f_X10_order_h13 a0 x1 (fun x102 m101 =>
  some (x102, m101)) (fun m103 =>
  b2 (f_X10_finds a0 (-1000000004) m103) fun r105 m104 =>
  some (r105, m104)) 2000 0 m0)
  else (
  b2 (f_X10_finds a0 (-1000000001) m0) fun r107 m106 =>
  some (r107, m106))
def f_X10_parted_h105 (a0 : Nat) (x1 : Int32) (x3 : Int32) (x4 : Int32) (k180 : Int32 →  XMem → Option (Int32 × XMem)) : Nat → Int32 → Int32 → XMem → Option (Int32 × XMem)
  | 0, _, _, _ => none
  | n + 1, x5, x6, mu =>
  if 50 < x6 then (
  k180 x5 mu)
  else (
  fo (mR mu a0 0) fun b134 =>
  gd (ib 0 (mN mu b134)) <|
  b1 (f_X10_goes a0 x1 x3 (-1) (((mI mu b134 (Int32.toNatClampNeg 0)) + x6) - 1) mu) fun m136 =>
  fo (mR m136 a0 18) fun b137 =>
  gd (ib x6 (mN m136 b137)) <|
  b2 (f_X10_readOf a0 x1 m136) fun r140 m139 =>
  nm (((mI m136 b137 (Int32.toNatClampNeg x6)) - r140)) fun x141 =>
  if x5 = 0 then (
  if x4 ≤ x141 then (
  nm (x6 + 1) fun x143 =>
  f_X10_parted_h105 a0 x1 x3 x4 k180 n x6 x143 m139)
  else (
  if (0 - x141) < x4 then (
  nm (x6 + 1) fun x144 =>
  f_X10_parted_h105 a0 x1 x3 x4 k180 n x5 x144 m139)
  else (
  nm (x6 + 1) fun x145 =>
  f_X10_parted_h105 a0 x1 x3 x4 k180 n x6 x145 m139)))
  else (
  nm (x6 + 1) fun x142 =>
  f_X10_parted_h105 a0 x1 x3 x4 k180 n x5 x142 m139))
def f_X10_parted_h51 (a0 : Nat) (x1 : Int32) (x2 : Int32) (x3 : Int32) (x4 : Int32) (k94 :  XMem → Option (Int32 × XMem)) : Nat → Int32 → XMem → Option (Int32 × XMem)
  | 0, _, _ => none
  | n + 1, x5, mu =>
  if 50 < x5 then (
  k94  mu)
  else (
  fo (mR mu a0 0) fun b125 =>
  gd (ib 0 (mN mu b125)) <|
  b1 (f_X10_goes a0 x1 x2 (-1) (((mI mu b125 (Int32.toNatClampNeg 0)) + x5) - 1) mu) fun m127 =>
  fo (mR m127 a0 18) fun b128 =>
  b2 (f_X10_readOf a0 x1 m127) fun r130 m129 =>
  gd (ib x5 (mN m129 b128)) <|
  nm (sI m129 b128 (Int32.toNatClampNeg x5) r130) fun m132 =>
  nm (x5 + 1) fun x133 =>
  f_X10_parted_h51 a0 x1 x2 x3 x4 k94 n x133 m132)
def f_X10_parted (a0 : Nat) (x1 : Int32) (x2 : Int32) (x3 : Int32) (x4 : Int32) (m0 : XMem) : Option (Int32 × XMem) :=
  b2 (f_X10_isCell a0 x1 m0) fun r102 m101 =>
  if r102 = 0 then (
  b2 (f_X10_finds a0 (-1000000001) m101) fun r104 m103 =>
  some (r104, m103))
  else (
  b2 (f_X10_isLawOrNone a0 x2 m101) fun r106 m105 =>
  if r106 = 0 then (
  b2 (f_X10_finds a0 (-1000000001) m105) fun r108 m107 =>
  some (r108, m107))
  else (
  b2 (f_X10_isLawOrNone a0 x3 m105) fun r110 m109 =>
  if r110 = 0 then (
  b2 (f_X10_finds a0 (-1000000001) m109) fun r112 m111 =>
  some (r112, m111))
  else (
  b2 (f_X10_within x4 1 9999 m109) fun r114 m113 =>
  if r114 = 0 then (
  b2 (f_X10_finds a0 (-1000000001) m113) fun r124 m123 =>
  some (r124, m123))
  else (
  b1 (f_X10_saves a0 x1 m113) fun m115 =>
  f_X10_parted_h51 a0 x1 x2 x3 x4 (fun m116 =>
  b1 (f_X10_brings a0 x1 m116) fun m117 =>
  f_X10_parted_h105 a0 x1 x3 x4 (fun x119 m118 =>
  b1 (f_X10_brings a0 x1 m118) fun m120 =>
  if x119 = 0 then (
  b2 (f_X10_finds a0 (-1000000004) m120) fun r122 m121 =>
  some (r122, m121))
  else (
  some (x119, m120))) 2000 0 1 m117) 2000 1 m115))))
def f_X10_power (a0 : Nat) (x1 : Int32) (x2 : Int32) (m0 : XMem) : Option (Int32 × XMem) :=
  b2 (f_X10_isCell a0 x1 m0) fun r102 m101 =>
  if r102 = 0 then (
  b2 (f_X10_finds a0 (-1000000001) m101) fun r104 m103 =>
  some (r104, m103))
  else (
  b2 (f_X10_within x2 0 9999 m101) fun r106 m105 =>
  if r106 = 0 then (
  b2 (f_X10_finds a0 (-1000000001) m105) fun r111 m110 =>
  some (r111, m110))
  else (
  b2 (f_X10_ofCell a0 x1 1 m105) fun r108 m107 =>
  b1 (f_X10_puts a0 x1 1 x2 m107) fun m109 =>
  some (r108, m109)))
def f_X10_read_h55 (a0 : Nat) (x1 : Int32) (x2 : Int32) (k130 : Int32 →  XMem → Option (Int32 × XMem)) : Nat → Int32 → Int32 → XMem → Option (Int32 × XMem)
  | 0, _, _, _ => none
  | n + 1, x3, x4, mu =>
  fo (mR mu a0 20) fun b117 =>
  gd (ib x1 (mN mu b117)) <|
  if (mI mu b117 (Int32.toNatClampNeg x1)) ≤ x4 then (
  k130 x3 mu)
  else (
  fo (mR mu a0 0) fun b119 =>
  gd (ib 4 (mN mu b119)) <|
  fo (mR mu a0 0) fun b121 =>
  gd (ib 0 (mN mu b121)) <|
  b1 (f_X10_goes a0 x2 ((mI mu b119 (Int32.toNatClampNeg 4)) - 1) (-1) ((mI mu b121 (Int32.toNatClampNeg 0)) + x4) mu) fun m123 =>
  if x3 = 0 then (
  fo (mR m123 a0 21) fun b125 =>
  gd (ib ((40 * x1) + x4) (mN m123 b125)) <|
  b2 (f_X10_readOf a0 x2 m123) fun r128 m127 =>
  if (lg_cmp (mL m123 b125 (Int32.toNatClampNeg ((40 * x1) + x4))) (Int32.toInt64 r128)) = 0 then (
  nm (x4 + 1) fun x129 =>
  f_X10_read_h55 a0 x1 x2 k130 n x3 x129 m127)
  else (
  nm ((x4 + 1)) fun x130 =>
  nm (x4 + 1) fun x131 =>
  f_X10_read_h55 a0 x1 x2 k130 n x130 x131 m127))
  else (
  nm (x4 + 1) fun x124 =>
  f_X10_read_h55 a0 x1 x2 k130 n x3 x124 m123))
def f_X10_read (a0 : Nat) (x1 : Int32) (x2 : Int32) (m0 : XMem) : Option (Int32 × XMem) :=
  b2 (f_X10_isSheet x1 m0) fun r102 m101 =>
  if r102 = 0 then (
  b2 (f_X10_finds a0 (-1000000001) m101) fun r116 m115 =>
  some (r116, m115))
  else (
  fo (mR m101 a0 19) fun b103 =>
  gd (ib x1 (mN m101 b103)) <|
  if (mI m101 b103 (Int32.toNatClampNeg x1)) = 0 then (
  b2 (f_X10_finds a0 (-1000000006) m101) fun r114 m113 =>
  some (r114, m113))
  else (
  b2 (f_X10_isCell a0 x2 m101) fun r106 m105 =>
  if r106 = 0 then (
  b2 (f_X10_finds a0 (-1000000001) m105) fun r112 m111 =>
  some (r112, m111))
  else (
  b1 (f_X10_saves a0 x2 m105) fun m107 =>
  f_X10_read_h55 a0 x1 x2 (fun x109 m108 =>
  b1 (f_X10_brings a0 x2 m108) fun m110 =>
  some (x109, m110)) 2000 0 0 m107)))
def f_X10_saying_h20 (a0 : Nat) (x1 : Int32) (k57 : Int32 →  XMem → Option (Int32 × XMem)) : Nat → Int32 → Int32 → XMem → Option (Int32 × XMem)
  | 0, _, _, _ => none
  | n + 1, x2, x3, mu =>
  fo (mR mu a0 0) fun b107 =>
  gd (ib 3 (mN mu b107)) <|
  if (mI mu b107 (Int32.toNatClampNeg 3)) ≤ x3 then (
  k57 x2 mu)
  else (
  b2 (f_X10_ofHouse a0 x3 6 mu) fun r110 m109 =>
  if r110 = x1 then (
  nm ((x2 ||| (1 <<< (x3 &&& 31)))) fun x113 =>
  nm (x3 + 1) fun x114 =>
  f_X10_saying_h20 a0 x1 k57 n x113 x114 m109)
  else (
  nm ((x2 ||| 0)) fun x111 =>
  nm (x3 + 1) fun x112 =>
  f_X10_saying_h20 a0 x1 k57 n x111 x112 m109))
def f_X10_saying (a0 : Nat) (x1 : Int32) (m0 : XMem) : Option (Int32 × XMem) :=
  b2 (f_X10_within x1 0 2 m0) fun r102 m101 =>
  if r102 = 0 then (
  b2 (f_X10_finds a0 (-1000000001) m101) fun r106 m105 =>
  some (r106, m105))
  else (
  f_X10_saying_h20 a0 x1 (fun x104 m103 =>
  some (x104, m103)) 2000 0 0 m101)
def f_X10_says (a0 : Nat) (x1 : Int32) (x2 : Int32) (m0 : XMem) : Option (Int32 × XMem) :=
  b2 (f_X10_within x1 0 1 m0) fun r102 m101 =>
  if r102 = 0 then (
  b2 (f_X10_finds a0 (-1000000001) m101) fun r104 m103 =>
  some (r104, m103))
  else (
  b2 (f_X10_isCell a0 x2 m101) fun r106 m105 =>
  if r106 = 0 then (
  b2 (f_X10_finds a0 (-1000000001) m105) fun r108 m107 =>
  some (r108, m107))
  else (
  fo (mR m105 a0 0) fun b109 =>
  gd (ib 0 (mN m105 b109)) <|
  b2 (f_X10_worked a0 (6 + x1) x2 (mI m105 b109 (Int32.toNatClampNeg 0)) m105) fun r112 m111 =>
  some (r112, m111)))
def f_X10_shared_h114 (a0 : Nat) (x1 : Int32) (x2 : Int32) (l3 : Int64) (l7 : Int64) (k196 : Int64 → Int32 →  XMem → Option (Int32 × XMem)) : Nat → Int64 → Int32 → Int32 → XMem → Option (Int32 × XMem)
  | 0, _, _, _, _ => none
  | n + 1, l5, x9, x10, mu =>
  fo (mR mu a0 0) fun b136 =>
  gd (ib 3 (mN mu b136)) <|
  if (mI mu b136 (Int32.toNatClampNeg 3)) ≤ x10 then (
  k196 l5 x9 mu)
  else (
  b2 (f_X10_gets a0 x10 mu) fun r139 m138 =>
  if r139 = 0 then (
  nm (x10 + 1) fun x140 =>
  f_X10_shared_h114 a0 x1 x2 l3 l7 k196 n l5 x9 x140 m138)
  else (
  b2 (f_X10_itsBalance a0 x10 m138) fun l142 m141 =>
  nm (((Int32.toInt64 x1) * l142)) fun l143 =>
  gd (nzL l3) <|
  nm ((l5 - (l143 / l3))) fun l145 =>
  gd (nzL l3) <|
  if 0 < (lg_cmp (l143 - l143 / l3 * l3) l7) then (
  nm ((x9 + 1)) fun x147 =>
  nm (x10 + 1) fun x148 =>
  f_X10_shared_h114 a0 x1 x2 l3 l7 k196 n l145 x147 x148 m141)
  else (
  gd (nzL l3) <|
  if (lg_cmp (l143 - l143 / l3 * l3) l7) = 0 then (
  if x2 ≤ x10 then (
  nm ((x9 + 0)) fun x152 =>
  nm (x10 + 1) fun x153 =>
  f_X10_shared_h114 a0 x1 x2 l3 l7 k196 n l145 x152 x153 m141)
  else (
  nm ((x9 + 1)) fun x154 =>
  nm (x10 + 1) fun x155 =>
  f_X10_shared_h114 a0 x1 x2 l3 l7 k196 n l145 x154 x155 m141))
  else (
  nm ((x9 + 0)) fun x150 =>
  nm (x10 + 1) fun x151 =>
  f_X10_shared_h114 a0 x1 x2 l3 l7 k196 n l145 x150 x151 m141))))
def f_X10_shared_h30 (a0 : Nat) (x1 : Int32) (x2 : Int32) (k69 : Int64 →  XMem → Option (Int32 × XMem)) : Nat → Int64 → Int32 → XMem → Option (Int32 × XMem)
  | 0, _, _, _ => none
  | n + 1, l3, x5, mu =>
  fo (mR mu a0 0) fun b126 =>
  gd (ib 3 (mN mu b126)) <|
  if (mI mu b126 (Int32.toNatClampNeg 3)) ≤ x5 then (
  k69 l3 mu)
  else (
  b2 (f_X10_gets a0 x5 mu) fun r129 m128 =>
  if r129 = 0 then (
  nm ((l3 + 0)) fun l130 =>
  nm (x5 + 1) fun x131 =>
  f_X10_shared_h30 a0 x1 x2 k69 n l130 x131 m128)
  else (
  b2 (f_X10_itsBalance a0 x5 m128) fun l133 m132 =>
  nm ((l3 + l133)) fun l134 =>
  nm (x5 + 1) fun x135 =>
  f_X10_shared_h30 a0 x1 x2 k69 n l134 x135 m132))
def f_X10_shared (a0 : Nat) (x1 : Int32) (x2 : Int32) (m0 : XMem) : Option (Int32 × XMem) :=
  b2 (f_X10_within x1 0 999999 m0) fun r102 m101 =>
  if r102 = 0 then (
  b2 (f_X10_finds a0 (-1000000001) m101) fun r104 m103 =>
  some (r104, m103))
  else (
  b2 (f_X10_isHouse a0 x2 m101) fun r106 m105 =>
  if r106 = 0 then (
  b2 (f_X10_finds a0 (-1000000001) m105) fun r125 m124 =>
  some (r125, m124))
  else (
  f_X10_shared_h30 a0 x1 x2 (fun l108 m107 =>
  if (lg_cmp l108 0) = 0 then (
  b2 (f_X10_finds a0 (-1000000004) m107) fun r123 m122 =>
  some (r123, m122))
  else (
  b2 (f_X10_gets a0 x2 m107) fun r110 m109 =>
  if r110 = 0 then (
  some (0, m109))
  else (
  nm ((Int32.toInt64 x1)) fun l111 =>
  b2 (f_X10_itsBalance a0 x2 m109) fun l113 m112 =>
  gd (nzL l108) <|
  nm ((((Int32.toInt64 x1) * l113) - ((Int32.toInt64 x1) * l113) / l108 * l108)) fun l115 =>
  f_X10_shared_h114 a0 x1 x2 l108 l115 (fun l117 x118 m116 =>
  b2 (f_X10_itsBalance a0 x2 m116) fun l120 m119 =>
  gd (nzL l108) <|
  if 0 ≤ (lg_cmp (Int32.toInt64 x118) l117) then (
  some (((Int64.toInt32 (((Int32.toInt64 x1) * l120) / l108)) + 0), m119))
  else (
  some (((Int64.toInt32 (((Int32.toInt64 x1) * l120) / l108)) + 1), m119))) 2000 l111 0 0 m112))) 2000 0 0 m105))
def f_X10_sheet_h85 (a0 : Nat) (x1 : Int32) (k111 :  XMem → Option (Int32 × XMem)) : Nat → Int32 → XMem → Option (Int32 × XMem)
  | 0, _, _ => none
  | n + 1, x4, mu =>
  if 40 ≤ x4 then (
  k111  mu)
  else (
  fo (mR mu a0 21) fun b120 =>
  gd (ib ((40 * x1) + x4) (mN mu b120)) <|
  nm (sL mu b120 (Int32.toNatClampNeg ((40 * x1) + x4)) 0) fun m122 =>
  nm (x4 + 1) fun x123 =>
  f_X10_sheet_h85 a0 x1 k111 n x123 m122)
def f_X10_sheet_j81 (a0 : Nat) (x1 : Int32) (xs0 : Int32) (xs1 : Int32) (as2 : Nat) (mu : XMem) : Option (Int32 × XMem) :=
  gd (ib xs1 (mN mu as2)) <|
  nm (sI mu as2 (Int32.toNatClampNeg xs1) xs0) fun m116 =>
  f_X10_sheet_h85 a0 x1 (fun m117 =>
  fo (mR m117 a0 20) fun b118 =>
  gd (ib x1 (mN m117 b118)) <|
  some ((mI m117 b118 (Int32.toNatClampNeg x1)), m117)) 2000 0 m116
def f_X10_sheet_j36 (a0 : Nat) (x1 : Int32) (x2 : Int32) (x3 : Int32) (mu : XMem) : Option (Int32 × XMem) :=
  if 0 ≤ x3 then (
  if x3 ≤ 40 then (
  fo (mR mu a0 19) fun b107 =>
  gd (ib x1 (mN mu b107)) <|
  nm (sI mu b107 (Int32.toNatClampNeg x1) x2) fun m109 =>
  fo (mR m109 a0 20) fun b110 =>
  if x2 = 0 then (
  f_X10_sheet_j81 a0 x1 0 x1 b110 m109)
  else (
  f_X10_sheet_j81 a0 x1 x3 x1 b110 m109))
  else (
  b2 (f_X10_finds a0 (-1000000001) mu) fun r112 m111 =>
  some (r112, m111)))
  else (
  b2 (f_X10_finds a0 (-1000000007) mu) fun r114 m113 =>
  some (r114, m113))
def f_X10_sheet (a0 : Nat) (x1 : Int32) (x2 : Int32) (x3 : Int32) (m0 : XMem) : Option (Int32 × XMem) :=
  b2 (f_X10_isSheet x1 m0) fun r102 m101 =>
  if r102 = 0 then (
  b2 (f_X10_finds a0 (-1000000001) m101) fun r104 m103 =>
  some (r104, m103))
  else (
  if x2 = 0 then (
  f_X10_sheet_j36 a0 x1 x2 x3 m101)
  else (
  if x2 = 8 then (
  f_X10_sheet_j36 a0 x1 x2 x3 m101)
  else (
  if x2 = 16 then (
  f_X10_sheet_j36 a0 x1 x2 x3 m101)
  else (
  if x2 = 64 then (
  f_X10_sheet_j36 a0 x1 x2 x3 m101)
  else (
  b2 (f_X10_finds a0 (-1000000001) m101) fun r106 m105 =>
  some (r106, m105))))))
def f_X10_show (a0 : Nat) (x1 : Int32) (m0 : XMem) : Option (Int32 × XMem) :=
  b2 (f_X10_isHouse a0 x1 m0) fun r102 m101 =>
  if r102 = 0 then (
  b2 (f_X10_finds a0 (-1000000001) m101) fun r107 m106 =>
  some (r107, m106))
  else (
  b1 (f_X10_setHouse a0 x1 10 1 m101) fun m103 =>
  b2 (f_X10_ofHouse a0 x1 9 m103) fun r105 m104 =>
  some (r105, m104))
def f_X10_since (a0 : Nat) (x1 : Int32) (x2 : Int32) (m0 : XMem) : Option (Int32 × XMem) :=
  b2 (f_X10_isHouse a0 x1 m0) fun r102 m101 =>
  if r102 = 0 then (
  b2 (f_X10_finds a0 (-1000000001) m101) fun r104 m103 =>
  some (r104, m103))
  else (
  b2 (f_X10_within x2 0 1 m101) fun r106 m105 =>
  if r106 = 0 then (
  b2 (f_X10_finds a0 (-1000000001) m105) fun r114 m113 =>
  some (r114, m113))
  else (
  b2 (f_X10_ofHouse a0 x1 6 m105) fun r108 m107 =>
  if r108 ≤ x2 then (
  b2 (f_X10_finds a0 (-1000000004) m107) fun r110 m109 =>
  some (r110, m109))
  else (
  b2 (f_X10_ofHouse a0 x1 (7 + x2) m107) fun r112 m111 =>
  some (r112, m111))))
def f_X10_status_h21 (a0 : Nat) (x1 : Int32) (k55 : Int32 →  XMem → Option (Int32 × XMem)) : Nat → Int32 → Int32 → XMem → Option (Int32 × XMem)
  | 0, _, _, _ => none
  | n + 1, x2, x3, mu =>
  if 7 ≤ x3 then (
  k55 x2 mu)
  else (
  if x1 < 0 then (
  fo (mR mu a0 4) fun b107 =>
  gd (ib x3 (mN mu b107)) <|
  nm ((x2 + (mI mu b107 (Int32.toNatClampNeg x3)))) fun x109 =>
  nm (x3 + 1) fun x110 =>
  f_X10_status_h21 a0 x1 k55 n x109 x110 mu)
  else (
  if x1 = x3 then (
  fo (mR mu a0 4) fun b113 =>
  gd (ib x3 (mN mu b113)) <|
  nm ((x2 + (mI mu b113 (Int32.toNatClampNeg x3)))) fun x115 =>
  nm (x3 + 1) fun x116 =>
  f_X10_status_h21 a0 x1 k55 n x115 x116 mu)
  else (
  nm ((x2 + 0)) fun x111 =>
  nm (x3 + 1) fun x112 =>
  f_X10_status_h21 a0 x1 k55 n x111 x112 mu)))
def f_X10_status (a0 : Nat) (x1 : Int32) (m0 : XMem) : Option (Int32 × XMem) :=
  b2 (f_X10_within x1 (-1) 6 m0) fun r102 m101 =>
  if r102 = 0 then (
  b2 (f_X10_finds a0 (-1000000001) m101) fun r106 m105 =>
  some (r106, m105))
  else (
  f_X10_status_h21 a0 x1 (fun x104 m103 =>
  some (x104, m103)) 2000 0 0 m101)
def f_X10_tear (a0 : Nat) (m0 : XMem) : Option (Int32 × XMem) :=
  if (mI m0 a0 5) = 0 then (
  nm (sI m0 a0 5 0) fun m101 =>
  some (0, m101))
  else (
  nm (sI m0 a0 5 0) fun m102 =>
  some (1, m102))
def f_X10_tells (a0 : Nat) (x1 : Int32) (x2 : Int32) (m0 : XMem) : Option (Int32 × XMem) :=
  b2 (f_X10_isLaw a0 x1 m0) fun r102 m101 =>
  if r102 = 0 then (
  b2 (f_X10_finds a0 (-1000000001) m101) fun r104 m103 =>
  some (r104, m103))
  else (
  b2 (f_X10_isCell a0 x2 m101) fun r106 m105 =>
  if r106 = 0 then (
  b2 (f_X10_finds a0 (-1000000001) m105) fun r108 m107 =>
  some (r108, m107))
  else (
  fo (mR m105 a0 0) fun b109 =>
  gd (ib 0 (mN m105 b109)) <|
  b2 (f_X10_worked a0 x1 x2 (mI m105 b109 (Int32.toNatClampNeg 0)) m105) fun r112 m111 =>
  some (r112, m111)))
def f_X10_told (a0 : Nat) (x1 : Int32) (m0 : XMem) : Option (Int32 × XMem) :=
  b2 (f_X10_within x1 0 1 m0) fun r102 m101 =>
  if r102 = 0 then (
  b2 (f_X10_finds a0 (-1000000001) m101) fun r107 m106 =>
  some (r107, m106))
  else (
  b2 (f_X10_isText a0 m101) fun r104 m103 =>
  if r104 = 0 then (
  some (((-1) - (mI m103 a0 8)), m103))
  else (
  b1 (f_X10_keeps a0 (6 + x1) m103) fun m105 =>
  some (0, m105)))
def f_X10_top (a0 : Nat) (x1 : Int32) (x2 : Int32) (m0 : XMem) : Option (Int32 × XMem) :=
  b2 (f_X10_isCell a0 x1 m0) fun r102 m101 =>
  if r102 = 0 then (
  b2 (f_X10_finds a0 (-1000000001) m101) fun r104 m103 =>
  some (r104, m103))
  else (
  b2 (f_X10_within x2 1 9999 m101) fun r106 m105 =>
  if r106 = 0 then (
  b2 (f_X10_finds a0 (-1000000001) m105) fun r117 m116 =>
  some (r117, m116))
  else (
  b2 (f_X10_ofCell a0 x1 5 m105) fun r108 m107 =>
  nm ((r108 + x2)) fun x109 =>
  if x109 ≤ 9999 then (
  b1 (f_X10_puts a0 x1 5 x109 m107) fun m110 =>
  b2 (f_X10_ofCell a0 x1 5 m110) fun r112 m111 =>
  some (r112, m111))
  else (
  b1 (f_X10_puts a0 x1 5 9999 m107) fun m113 =>
  b2 (f_X10_ofCell a0 x1 5 m113) fun r115 m114 =>
  some (r115, m114))))
def f_X10_undo_h43 (a0 : Nat) (k67 :  XMem → Option (Int32 × XMem)) : Nat → Int32 → XMem → Option (Int32 × XMem)
  | 0, _, _ => none
  | n + 1, x1, mu =>
  if 16 ≤ x1 then (
  k67  mu)
  else (
  fo (mR mu a0 2) fun b113 =>
  fo (mR mu a0 3) fun b114 =>
  gd (ib x1 (mN mu b114)) <|
  gd (ib x1 (mN mu b113)) <|
  nm (sL mu b113 (Int32.toNatClampNeg x1) (mL mu b114 (Int32.toNatClampNeg x1))) fun m117 =>
  nm (x1 + 1) fun x118 =>
  f_X10_undo_h43 a0 k67 n x118 m117)
def f_X10_undo_h16 (a0 : Nat) (k41 :  XMem → Option (Int32 × XMem)) : Nat → Int32 → XMem → Option (Int32 × XMem)
  | 0, _, _ => none
  | n + 1, x1, mu =>
  if 1059 ≤ x1 then (
  k41  mu)
  else (
  fo (mR mu a0 0) fun b107 =>
  fo (mR mu a0 1) fun b108 =>
  gd (ib x1 (mN mu b108)) <|
  gd (ib x1 (mN mu b107)) <|
  nm (sI mu b107 (Int32.toNatClampNeg x1) (mI mu b108 (Int32.toNatClampNeg x1))) fun m111 =>
  nm (x1 + 1) fun x112 =>
  f_X10_undo_h16 a0 k41 n x112 m111)
def f_X10_undo (a0 : Nat) (m0 : XMem) : Option (Int32 × XMem) :=
  if (mI m0 a0 5) = 0 then (
  b2 (f_X10_finds a0 (-1000000004) m0) fun r106 m105 =>
  some (r106, m105))
  else (
  f_X10_undo_h16 a0 (fun m101 =>
  f_X10_undo_h43 a0 (fun m102 =>
  fo (mR m102 a0 0) fun b103 =>
  gd (ib 0 (mN m102 b103)) <|
  some ((mI m102 b103 (Int32.toNatClampNeg 0)), m102)) 2000 0 m101) 2000 0 m0)
def f_X10_weeks_h50 (a0 : Nat) (x1 : Int32) (x2 : Int32) (k125 : Int32 →  XMem → Option (Int32 × XMem)) : Nat → Int32 → Int32 → XMem → Option (Int32 × XMem)
  | 0, _, _, _ => none
  | n + 1, x3, x4, mu =>
  fo (mR mu a0 20) fun b115 =>
  gd (ib x1 (mN mu b115)) <|
  if (mI mu b115 (Int32.toNatClampNeg x1)) ≤ x4 then (
  k125 x3 mu)
  else (
  fo (mR mu a0 0) fun b117 =>
  gd (ib 0 (mN mu b117)) <|
  if 2000 ≤ (mI mu b117 (Int32.toNatClampNeg 0)) then (
  k125 x3 mu)
  else (
  fo (mR mu a0 21) fun b119 =>
  gd (ib ((40 * x1) + x4) (mN mu b119)) <|
  nm ((mL mu b119 (Int32.toNatClampNeg ((40 * x1) + x4)))) fun l121 =>
  if (lg_cmp l121 0) < 0 then (
  nm (x4 + 1) fun x122 =>
  f_X10_weeks_h50 a0 x1 x2 k125 n x3 x122 mu)
  else (
  if 0 < (lg_cmp l121 9999) then (
  nm (x4 + 1) fun x123 =>
  f_X10_weeks_h50 a0 x1 x2 k125 n x3 x123 mu)
  else (
  b1 (f_X10_puts a0 x2 1 (Int64.toInt32 l121) mu) fun m124 =>
  b1 (f_X10_oneHour a0 m124) fun m125 =>
  nm (x3 + 1) fun x126 =>
  nm (x4 + 1) fun x127 =>
  f_X10_weeks_h50 a0 x1 x2 k125 n x126 x127 m125))))
def f_X10_weeks (a0 : Nat) (x1 : Int32) (x2 : Int32) (m0 : XMem) : Option (Int32 × XMem) :=
  b2 (f_X10_isSheet x1 m0) fun r102 m101 =>
  if r102 = 0 then (
  b2 (f_X10_finds a0 (-1000000001) m101) fun r114 m113 =>
  some (r114, m113))
  else (
  fo (mR m101 a0 19) fun b103 =>
  gd (ib x1 (mN m101 b103)) <|
  if (mI m101 b103 (Int32.toNatClampNeg x1)) = 0 then (
  b2 (f_X10_finds a0 (-1000000006) m101) fun r112 m111 =>
  some (r112, m111))
  else (
  b2 (f_X10_isCell a0 x2 m101) fun r106 m105 =>
  if r106 = 0 then (
  b2 (f_X10_finds a0 (-1000000001) m105) fun r110 m109 =>
  some (r110, m109))
  else (
  f_X10_weeks_h50 a0 x1 x2 (fun x108 m107 =>
  some (x108, m107)) 2000 0 0 m105)))
def f_X10_wipe (a0 : Nat) (m0 : XMem) : Option (Int32 × XMem) :=
  nm ((mI m0 a0 7)) fun x101 =>
  nm (sI m0 a0 7 0) fun m102 =>
  some (x101, m102)
def f_X10_write (a0 : Nat) (x1 : Int32) (x2 : Int32) (l3 : Int64) (m0 : XMem) : Option (Int64 × XMem) :=
  b2 (f_X10_isSheet x1 m0) fun r102 m101 =>
  if r102 = 0 then (
  b2 (f_X10_finds a0 (-1000000001) m101) fun r128 m127 =>
  some ((Int32.toInt64 r128), m127))
  else (
  fo (mR m101 a0 19) fun b103 =>
  gd (ib x1 (mN m101 b103)) <|
  if (mI m101 b103 (Int32.toNatClampNeg x1)) = 0 then (
  b2 (f_X10_finds a0 (-1000000006) m101) fun r126 m125 =>
  some ((Int32.toInt64 r126), m125))
  else (
  fo (mR m101 a0 20) fun b105 =>
  gd (ib x1 (mN m101 b105)) <|
  b2 (f_X10_within x2 0 ((mI m101 b105 (Int32.toNatClampNeg x1)) - 1) m101) fun r108 m107 =>
  if r108 = 0 then (
  b2 (f_X10_finds a0 (-1000000001) m107) fun r124 m123 =>
  some ((Int32.toInt64 r124), m123))
  else (
  fo (mR m107 a0 21) fun b109 =>
  gd (ib ((40 * x1) + x2) (mN m107 b109)) <|
  nm ((mL m107 b109 (Int32.toNatClampNeg ((40 * x1) + x2)))) fun l111 =>
  fo (mR m107 a0 21) fun b112 =>
  fo (mR m107 a0 19) fun b113 =>
  gd (ib x1 (mN m107 b113)) <|
  if (mI m107 b113 (Int32.toNatClampNeg x1)) = 8 then (
  gd (ib ((40 * x1) + x2) (mN m107 b112)) <|
  nm (sL m107 b112 (Int32.toNatClampNeg ((40 * x1) + x2)) (Int32.toInt64 (Int8.toInt32 (Int32.toInt8 (Int64.toInt32 l3))))) fun m122 =>
  some (l111, m122))
  else (
  fo (mR m107 a0 19) fun b115 =>
  gd (ib x1 (mN m107 b115)) <|
  if (mI m107 b115 (Int32.toNatClampNeg x1)) = 16 then (
  gd (ib ((40 * x1) + x2) (mN m107 b112)) <|
  nm (sL m107 b112 (Int32.toNatClampNeg ((40 * x1) + x2)) (Int32.toInt64 (Int16.toInt32 (Int32.toInt16 (Int64.toInt32 l3))))) fun m120 =>
  some (l111, m120))
  else (
  gd (ib ((40 * x1) + x2) (mN m107 b112)) <|
  nm (sL m107 b112 (Int32.toNatClampNeg ((40 * x1) + x2)) l3) fun m118 =>
  some (l111, m118))))))
def f_X1_addHour (a0 : Nat) (a1 : Nat) (m0 : XMem) : Option (XMem) :=
  b2 (f_X0_thermometer a1 m0) fun r102 m101 =>
  nm (((Int32.toInt64 r102) * (Int32.toInt64 (mI m101 a0 1)))) fun l103 =>
  nm (sI m101 a0 5 ((mI m101 a0 5) + 1)) fun m104 =>
  b2 (f_X0_gasFrom a1 (mI m104 a1 8) m104) fun r106 m105 =>
  nm (sL m105 a0 6 ((mL m104 a0 6) + (l103 - (Int32.toInt64 ((mI m104 a1 8) - r106))))) fun m107 =>
  nm (sL m107 a0 7 ((mL m107 a0 7) + (l103 - (Int32.toInt64 (mI m107 a1 8))))) fun m108 =>
  some m108
def f_X1_balance (a0 : Nat) (m0 : XMem) : Option (Int64 × XMem) :=
  if (mI m0 a0 2) = 1 then (
  some ((mL m0 a0 7), m0))
  else (
  some ((mL m0 a0 6), m0))
def f_X1_begin (a0 : Nat) (m0 : XMem) : Option (XMem) :=
  nm (sI m0 a0 5 0) fun m101 =>
  nm (sL m101 a0 6 0) fun m102 =>
  nm (sL m102 a0 7 0) fun m103 =>
  nm (sI m103 a0 8 0) fun m104 =>
  nm (sI m104 a0 9 0) fun m105 =>
  nm (sI m105 a0 10 0) fun m106 =>
  nm (sI m106 a0 11 0) fun m107 =>
  nm (sI m107 a0 12 0) fun m108 =>
  nm (sI m108 a0 13 0) fun m109 =>
  some m109
def f_X1_init (a0 : Nat) (m0 : XMem) : Option (XMem) :=
  some m0
def f_X1_isBefore (a0 : Nat) (a1 : Nat) (m0 : XMem) : Option (Int32 × XMem) :=
  if (mI m0 a1 9) ≤ (mI m0 a0 9) then (
  some (0, m0))
  else (
  some (1, m0))
def f_X1_share (a0 : Nat) (m0 : XMem) : Option (Int64 × XMem) :=
  if (mI m0 a0 8) = 1 then (
  b2 (f_X1_balance a0 m0) fun l102 m101 =>
  nm (if l102 < 0 then 0 else l102) fun l103 =>
  some (l103, m101))
  else (
  some (0, m0))
def f_X1_speak_j33 (a0 : Nat) (x1 : Int32) (mu : XMem) : Option (XMem) :=
  if (mI mu a0 8) = 1 then (
  b2 (f_X1_balance a0 mu) fun l106 m105 =>
  if 0 < (lg_cmp l106 0) then (
  some m105)
  else (
  nm (sI m105 a0 8 2) fun m107 =>
  nm (sI m107 a0 10 x1) fun m108 =>
  some m108))
  else (
  some mu)
def f_X1_speak (a0 : Nat) (x1 : Int32) (m0 : XMem) : Option (XMem) :=
  if (mI m0 a0 8) = 0 then (
  b2 (f_X1_balance a0 m0) fun l102 m101 =>
  if (lg_cmp l102 (Int32.toInt64 (mI m101 a0 4))) < 0 then (
  f_X1_speak_j33 a0 x1 m101)
  else (
  nm (sI m101 a0 8 1) fun m103 =>
  nm (sI m103 a0 9 x1) fun m104 =>
  some m104))
  else (
  f_X1_speak_j33 a0 x1 m0)
def f_X1_take (a0 : Nat) (a1 : Nat) (m0 : XMem) : Option (XMem) :=
  nm (sI m0 a0 0 (mI m0 a1 0)) fun m101 =>
  nm (sI m101 a0 1 (mI m101 a1 1)) fun m102 =>
  nm (sI m102 a0 2 (mI m102 a1 2)) fun m103 =>
  nm (sI m103 a0 3 (mI m103 a1 3)) fun m104 =>
  nm (sI m104 a0 4 (mI m104 a1 4)) fun m105 =>
  nm (sI m105 a0 5 (mI m105 a1 5)) fun m106 =>
  nm (sL m106 a0 6 (mL m106 a1 6)) fun m107 =>
  nm (sL m107 a0 7 (mL m107 a1 7)) fun m108 =>
  nm (sI m108 a0 8 (mI m108 a1 8)) fun m109 =>
  nm (sI m109 a0 9 (mI m109 a1 9)) fun m110 =>
  nm (sI m110 a0 10 (mI m110 a1 10)) fun m111 =>
  nm (sI m111 a0 11 (mI m111 a1 11)) fun m112 =>
  gd (zb (mI m112 a1 12)) <|
  nm (sI m112 a0 12 (mI m112 a1 12)) fun m113 =>
  nm (sI m113 a0 13 (mI m113 a1 13)) fun m115 =>
  some m115
def f_X2_init (a0 : Nat) (a1 : Nat) (x2 : Int32) (m0 : XMem) : Option (XMem) :=
  nm (sR m0 a0 0 (some a1)) fun m101 =>
  nm (sI m101 a0 1 x2) fun m102 =>
  some m102
def f_X3_codeOf (x0 : Int32) (m0 : XMem) : Option (Int32 × XMem) :=
  if x0 = 99 then (
  some ((-4), m0))
  else (
  if x0 = 104 then (
  some ((-3), m0))
  else (
  if x0 = 112 then (
  some ((-1), m0))
  else (
  if x0 = 116 then (
  some ((-2), m0))
  else (
  if x0 = 119 then (
  some ((-5), m0))
  else (
  if x0 = 26982 then (
  some ((-12), m0))
  else (
  if x0 = 7168376 then (
  some ((-11), m0))
  else (
  if x0 = 7170414 then (
  some ((-10), m0))
  else (
  if x0 = 7173484 then (
  some ((-8), m0))
  else (
  if x0 = 7566701 then (
  some ((-6), m0))
  else (
  if x0 = 1818588019 then (
  some ((-7), m0))
  else (
  if x0 = 1885434484 then (
  some ((-9), m0))
  else (
  some ((-13), m0)))))))))))))
def f_X3_emit (a0 : Nat) (x1 : Int32) (m0 : XMem) : Option (XMem) :=
  if (mI m0 a0 1) < 0 then (
  some m0)
  else (
  fo (mR m0 a0 0) fun b101 =>
  if (nI (mN m0 b101)) ≤ (mI m0 a0 1) then (
  some m0)
  else (
  fo (mR m0 a0 0) fun b102 =>
  gd (ib (mI m0 a0 1) (mN m0 b102)) <|
  nm (sI m0 b102 (Int32.toNatClampNeg (mI m0 a0 1)) x1) fun m104 =>
  nm (sI m104 a0 1 ((mI m104 a0 1) + 1)) fun m105 =>
  some m105))
def f_X5_byteAt (a0 : Nat) (x1 : Int32) (m0 : XMem) : Option (Int32 × XMem) :=
  if x1 < 0 then (
  some ((-1), m0))
  else (
  if (mI m0 a0 1) ≤ x1 then (
  some ((-1), m0))
  else (
  fo (mR m0 a0 0) fun b101 =>
  if x1 < (nI (mN m0 b101)) then (
  fo (mR m0 a0 0) fun b102 =>
  gd (ib x1 (mN m0 b102)) <|
  some (((mI m0 b102 (Int32.toNatClampNeg x1)) &&& 255), m0))
  else (
  some ((-1), m0))))
def f_X3_skipBlanks_h2 (a0 : Nat) (a1 : Nat) (k37 :  XMem → Option (XMem)) : Nat → Int32 → XMem → Option (XMem)
  | 0, _, _ => none
  | n + 1, x2, mu =>
  if 100 ≤ x2 then (
  k37  mu)
  else (
  b2 (f_X5_byteAt a1 (mI mu a0 7) mu) fun r103 m102 =>
  if r103 = 32 then (
  nm (sI m102 a0 7 ((mI m102 a0 7) + 1)) fun m104 =>
  nm (x2 + 1) fun x105 =>
  f_X3_skipBlanks_h2 a0 a1 k37 n x105 m104)
  else (
  k37  m102))
def f_X3_skipBlanks (a0 : Nat) (a1 : Nat) (m0 : XMem) : Option (XMem) :=
  f_X3_skipBlanks_h2 a0 a1 (fun m101 =>
  some m101) 2000 0 m0
def f_X3_isLetter (x0 : Int32) (m0 : XMem) : Option (Int32 × XMem) :=
  if x0 < 97 then (
  some (0, m0))
  else (
  if 122 < x0 then (
  some (0, m0))
  else (
  some (1, m0)))
def f_X3_nextWord_h4 (a0 : Nat) (a1 : Nat) (k54 : Int32 → Int32 →  XMem → Option (Int32 × XMem)) : Nat → Int32 → Int32 → XMem → Option (Int32 × XMem)
  | 0, _, _, _ => none
  | n + 1, x2, x3, mu =>
  if 100 ≤ x3 then (
  k54 x2 x3 mu)
  else (
  b2 (f_X5_byteAt a1 (mI mu a0 7) mu) fun r107 m106 =>
  b2 (f_X3_isLetter r107 m106) fun r109 m108 =>
  if r109 = 0 then (
  k54 x2 x3 m108)
  else (
  b2 (f_X5_byteAt a1 (mI m108 a0 7) m108) fun r111 m110 =>
  nm (((x2 <<< (8 &&& 31)) ||| r111)) fun x112 =>
  nm (x3 + 1) fun x113 =>
  nm (sI m110 a0 7 ((mI m110 a0 7) + 1)) fun m114 =>
  f_X3_nextWord_h4 a0 a1 k54 n x112 x113 m114))
def f_X3_nextWord (a0 : Nat) (a1 : Nat) (m0 : XMem) : Option (Int32 × XMem) :=
  f_X3_nextWord_h4 a0 a1 (fun x102 x103 m101 =>
  if x103 ≤ 4 then (
  b2 (f_X3_codeOf x102 m101) fun r105 m104 =>
  some (r105, m104))
  else (
  some ((-13), m101))) 2000 0 0 m0
def f_X3_takesWord (a0 : Nat) (x1 : Int32) (m0 : XMem) : Option (Int32 × XMem) :=
  if (mI m0 a0 5) = 0 then (
  if x1 = (-13) then (
  some (0, m0))
  else (
  if x1 < (-5) then (
  nm (sI m0 a0 6 x1) fun m101 =>
  nm (sI m101 a0 5 1) fun m102 =>
  some (1, m102))
  else (
  b1 (f_X3_emit a0 x1 m0) fun m103 =>
  nm (sI m103 a0 5 2) fun m104 =>
  some (1, m104))))
  else (
  some (0, m0))
def f_X3_isDigit (x0 : Int32) (m0 : XMem) : Option (Int32 × XMem) :=
  if x0 < 48 then (
  some (0, m0))
  else (
  if 57 < x0 then (
  some (0, m0))
  else (
  some (1, m0)))
def f_X3_nextNumber_h4 (a0 : Nat) (a1 : Nat) (k63 : Int32 →  XMem → Option (Int32 × XMem)) : Nat → Int32 → Int32 → XMem → Option (Int32 × XMem)
  | 0, _, _, _ => none
  | n + 1, x2, x3, mu =>
  if 100 ≤ x3 then (
  k63 x2 mu)
  else (
  b2 (f_X5_byteAt a1 (mI mu a0 7) mu) fun r104 m103 =>
  b2 (f_X3_isDigit r104 m103) fun r106 m105 =>
  if r106 = 0 then (
  k63 x2 m105)
  else (
  b2 (f_X5_byteAt a1 (mI m105 a0 7) m105) fun r108 m107 =>
  nm (if (((x2 * 10) + r108) - 48) < 10000 then (((x2 * 10) + r108) - 48) else 10000) fun x109 =>
  nm (sI m107 a0 7 ((mI m107 a0 7) + 1)) fun m110 =>
  nm (x3 + 1) fun x111 =>
  f_X3_nextNumber_h4 a0 a1 k63 n x109 x111 m110))
def f_X3_nextNumber (a0 : Nat) (a1 : Nat) (m0 : XMem) : Option (Int32 × XMem) :=
  f_X3_nextNumber_h4 a0 a1 (fun x102 m101 =>
  some (x102, m101)) 2000 0 0 m0
def f_X3_takesNumber (a0 : Nat) (x1 : Int32) (m0 : XMem) : Option (Int32 × XMem) :=
  if (mI m0 a0 5) = 0 then (
  if x1 ≤ 9999 then (
  b1 (f_X3_emit a0 x1 m0) fun m101 =>
  nm (sI m101 a0 5 2) fun m102 =>
  some (1, m102))
  else (
  some (0, m0)))
  else (
  some (0, m0))
def f_X3_takesOpen_j76 (a0 : Nat) (xs0 : Int32) (xs1 : Int32) (as2 : Nat) (mu : XMem) : Option (Int32 × XMem) :=
  gd (ib xs1 (mN mu as2)) <|
  nm (sI mu as2 (Int32.toNatClampNeg xs1) xs0) fun m108 =>
  nm (sI m108 a0 4 ((mI m108 a0 4) + 1)) fun m109 =>
  nm (sI m109 a0 5 0) fun m110 =>
  some (1, m110)
def f_X3_takesOpen (a0 : Nat) (m0 : XMem) : Option (Int32 × XMem) :=
  if (mI m0 a0 5) = 1 then (
  if (mI m0 a0 4) < 0 then (
  some (0, m0))
  else (
  fo (mR m0 a0 2) fun b101 =>
  if (nI (mN m0 b101)) ≤ (mI m0 a0 4) then (
  some (0, m0))
  else (
  fo (mR m0 a0 3) fun b102 =>
  if (mI m0 a0 4) < (nI (mN m0 b102)) then (
  fo (mR m0 a0 2) fun b103 =>
  gd (ib (mI m0 a0 4) (mN m0 b103)) <|
  nm (sI m0 b103 (Int32.toNatClampNeg (mI m0 a0 4)) (mI m0 a0 6)) fun m105 =>
  fo (mR m105 a0 3) fun b106 =>
  if (mI m105 a0 6) = (-12) then (
  f_X3_takesOpen_j76 a0 2 (mI m105 a0 4) b106 m105)
  else (
  f_X3_takesOpen_j76 a0 1 (mI m105 a0 4) b106 m105))
  else (
  some (0, m0)))))
  else (
  some (0, m0))
def f_X3_takesComma (a0 : Nat) (m0 : XMem) : Option (Int32 × XMem) :=
  nm (((mI m0 a0 4) - 1)) fun x101 =>
  if (mI m0 a0 5) = 2 then (
  if x101 < 0 then (
  some (0, m0))
  else (
  fo (mR m0 a0 3) fun b102 =>
  if (nI (mN m0 b102)) ≤ x101 then (
  some (0, m0))
  else (
  fo (mR m0 a0 3) fun b103 =>
  gd (ib x101 (mN m0 b103)) <|
  if (mI m0 b103 (Int32.toNatClampNeg x101)) = 0 then (
  some (0, m0))
  else (
  fo (mR m0 a0 3) fun b105 =>
  gd (ib x101 (mN m0 b105)) <|
  gd (ib x101 (mN m0 b105)) <|
  nm (sI m0 b105 (Int32.toNatClampNeg x101) ((mI m0 b105 (Int32.toNatClampNeg x101)) - 1)) fun m108 =>
  nm (sI m108 a0 5 0) fun m109 =>
  some (1, m109)))))
  else (
  some (0, m0))
def f_X3_takesClose (a0 : Nat) (m0 : XMem) : Option (Int32 × XMem) :=
  nm (((mI m0 a0 4) - 1)) fun x101 =>
  if (mI m0 a0 5) = 2 then (
  if x101 < 0 then (
  some (0, m0))
  else (
  fo (mR m0 a0 2) fun b102 =>
  if (nI (mN m0 b102)) ≤ x101 then (
  some (0, m0))
  else (
  fo (mR m0 a0 3) fun b103 =>
  if x101 < (nI (mN m0 b103)) then (
  fo (mR m0 a0 3) fun b104 =>
  gd (ib x101 (mN m0 b104)) <|
  if (mI m0 b104 (Int32.toNatClampNeg x101)) = 0 then (
  fo (mR m0 a0 2) fun b106 =>
  gd (ib x101 (mN m0 b106)) <|
  b1 (f_X3_emit a0 (mI m0 b106 (Int32.toNatClampNeg x101)) m0) fun m108 =>
  nm (sI m108 a0 4 x101) fun m109 =>
  some (1, m109))
  else (
  some (0, m0)))
  else (
  some (0, m0)))))
  else (
  some (0, m0))
def f_X3_takesToken (a0 : Nat) (a1 : Nat) (m0 : XMem) : Option (Int32 × XMem) :=
  b2 (f_X5_byteAt a1 (mI m0 a0 7) m0) fun r102 m101 =>
  b2 (f_X3_isLetter r102 m101) fun r104 m103 =>
  if r104 = 0 then (
  b2 (f_X3_isDigit r102 m103) fun r106 m105 =>
  if r106 = 0 then (
  nm (sI m105 a0 7 ((mI m105 a0 7) + 1)) fun m107 =>
  if r102 = 40 then (
  b2 (f_X3_takesOpen a0 m107) fun r110 m109 =>
  some (r110, m109))
  else (
  if r102 = 41 then (
  b2 (f_X3_takesClose a0 m107) fun r113 m112 =>
  some (r113, m112))
  else (
  if r102 = 42 then (
  some (0, m107))
  else (
  if r102 = 43 then (
  some (0, m107))
  else (
  if r102 = 44 then (
  b2 (f_X3_takesComma a0 m107) fun r118 m117 =>
  some (r118, m117))
  else (
  some (0, m107)))))))
  else (
  b2 (f_X3_nextNumber a0 a1 m105) fun r120 m119 =>
  b2 (f_X3_takesNumber a0 r120 m119) fun r122 m121 =>
  some (r122, m121)))
  else (
  b2 (f_X3_nextWord a0 a1 m103) fun r124 m123 =>
  b2 (f_X3_takesWord a0 r124 m123) fun r126 m125 =>
  some (r126, m125))
def f_X3_faultOf_j68 (a0 : Nat) (a1 : Nat) (mu : XMem) : Option (Int32 × XMem) :=
  if (mI mu a0 5) = 2 then (
  if (mI mu a0 4) = 0 then (
  some ((-1), mu))
  else (
  some ((mI mu a1 1), mu)))
  else (
  some ((mI mu a1 1), mu))
def f_X3_faultOf_h22 (a0 : Nat) (a1 : Nat) (k44 :  XMem → Option (Int32 × XMem)) (k60 : Int32 →  XMem → Option (Int32 × XMem)) (k68 :  XMem → Option (Int32 × XMem)) : Nat → Int32 → XMem → Option (Int32 × XMem)
  | 0, _, _ => none
  | n + 1, x2, mu =>
  if 100 < x2 then (
  k68  mu)
  else (
  b1 (f_X3_skipBlanks a0 a1 mu) fun m109 =>
  if (mI m109 a0 7) < (mI m109 a1 1) then (
  nm ((mI m109 a0 7)) fun x110 =>
  b2 (f_X3_takesToken a0 a1 m109) fun r112 m111 =>
  if r112 = 0 then (
  k60 x110 m111)
  else (
  nm (x2 + 1) fun x113 =>
  f_X3_faultOf_h22 a0 a1 k44 k60 k68 n x113 m111))
  else (
  k44  m109))
def f_X3_faultOf (a0 : Nat) (a1 : Nat) (m0 : XMem) : Option (Int32 × XMem) :=
  nm (sI m0 a0 1 0) fun m101 =>
  nm (sI m101 a0 4 0) fun m102 =>
  nm (sI m102 a0 5 0) fun m103 =>
  nm (sI m103 a0 7 0) fun m104 =>
  f_X3_faultOf_h22 a0 a1 (fun m105 =>
  f_X3_faultOf_j68 a0 a1 m105) (fun x107 m106 =>
  some (x107, m106)) (fun m108 =>
  f_X3_faultOf_j68 a0 a1 m108) 2000 0 m104
def f_X3_init (a0 : Nat) (m0 : XMem) : Option (XMem) :=
  nm (mZ m0) fun b101 =>
  nm (nw m0 (.inr (0, 100))) fun m102 =>
  nm (sR m102 a0 0 (some b101)) fun m103 =>
  nm (sI m103 a0 1 0) fun m104 =>
  nm (mZ m104) fun b105 =>
  nm (nw m104 (.inr (0, 5))) fun m106 =>
  nm (sR m106 a0 2 (some b105)) fun m107 =>
  nm (mZ m107) fun b108 =>
  nm (nw m107 (.inr (0, 5))) fun m109 =>
  nm (sR m109 a0 3 (some b108)) fun m110 =>
  nm (sI m110 a0 4 0) fun m111 =>
  nm (sI m111 a0 5 0) fun m112 =>
  nm (sI m112 a0 6 0) fun m113 =>
  nm (sI m113 a0 7 0) fun m114 =>
  some m114
def f_X6_init (a0 : Nat) (a1 : Nat) (m0 : XMem) : Option (XMem) :=
  nm (sR m0 a0 0 (some a1)) fun m101 =>
  some m101
def f_X3_text_h13 (a0 : Nat) (a1 : Nat) (k43 :  XMem → Option (Option Nat × XMem)) : Nat → Int32 → XMem → Option (Option Nat × XMem)
  | 0, _, _ => none
  | n + 1, x2, mu =>
  if (nI (mN mu a1)) ≤ x2 then (
  k43  mu)
  else (
  fo (mR mu a0 0) fun b109 =>
  if (nI (mN mu b109)) ≤ x2 then (
  k43  mu)
  else (
  fo (mR mu a0 0) fun b110 =>
  gd (ib x2 (mN mu b110)) <|
  gd (ib x2 (mN mu a1)) <|
  nm (sI mu a1 (Int32.toNatClampNeg x2) (mI mu b110 (Int32.toNatClampNeg x2))) fun m113 =>
  nm (x2 + 1) fun x114 =>
  f_X3_text_h13 a0 a1 k43 n x114 m113))
def f_X3_text (a0 : Nat) (m0 : XMem) : Option (Option Nat × XMem) :=
  nm (if 0 < (mI m0 a0 1) then (mI m0 a0 1) else 0) fun x101 =>
  gd (szb x101) <|
  nm (mZ m0) fun b102 =>
  nm (nw m0 (.inr (0, (Int32.toNatClampNeg x101)))) fun m103 =>
  f_X3_text_h13 a0 b102 (fun m105 =>
  nm (mZ m105) fun b106 =>
  nm (nw m105 (.inl 6)) fun m107 =>
  b1 (f_X6_init b106 b102 m107) fun m108 =>
  some ((some b106), m108)) 200 0 m103
def f_X4_begin_h24 (a0 : Nat) (k46 :  XMem → Option (XMem)) : Nat → Int32 → XMem → Option (XMem)
  | 0, _, _ => none
  | n + 1, x3, mu =>
  fo (mR mu a0 2) fun b107 =>
  if (nI (mN mu b107)) ≤ x3 then (
  k46  mu)
  else (
  fo (mR mu a0 2) fun b108 =>
  gd (ib x3 (mN mu b108)) <|
  nm (sL mu b108 (Int32.toNatClampNeg x3) 0) fun m110 =>
  nm (x3 + 1) fun x111 =>
  f_X4_begin_h24 a0 k46 n x111 m110)
def f_X4_begin (a0 : Nat) (x1 : Int32) (x2 : Int32) (m0 : XMem) : Option (XMem) :=
  nm (sI m0 a0 0 x1) fun m101 =>
  fo (mR m101 a0 2) fun b102 =>
  nm (if x2 < (nI (mN m101 b102)) then x2 else (nI (mN m101 b102))) fun x103 =>
  nm (if 0 < x103 then x103 else 0) fun x104 =>
  nm (sI m101 a0 1 x104) fun m105 =>
  f_X4_begin_h24 a0 (fun m106 =>
  some m106) 2000 0 m105
def f_X4_has (a0 : Nat) (x1 : Int32) (x2 : Int32) (m0 : XMem) : Option (Int32 × XMem) :=
  if x1 < 0 then (
  some (0, m0))
  else (
  if x2 < 0 then (
  some (0, m0))
  else (
  if 0 < (lg_cmp ((Int32.toInt64 x1) + (Int32.toInt64 x2)) (Int32.toInt64 (mI m0 a0 1))) then (
  some (0, m0))
  else (
  some (1, m0))))
def f_X4_init (a0 : Nat) (m0 : XMem) : Option (XMem) :=
  nm (sI m0 a0 0 0) fun m101 =>
  nm (sI m101 a0 1 0) fun m102 =>
  nm (mZ m102) fun b103 =>
  nm (nw m102 (.inr (2, 40))) fun m104 =>
  nm (sR m104 a0 2 (some b103)) fun m105 =>
  some m105
def f_X4_lowest (a0 : Nat) (l1 : Int64) (m0 : XMem) : Option (Int64 × XMem) :=
  if (mI m0 a0 0) = 8 then (
  some ((Int32.toInt64 (Int8.toInt32 (Int32.toInt8 (Int64.toInt32 l1)))), m0))
  else (
  if (mI m0 a0 0) = 16 then (
  some ((Int32.toInt64 (Int16.toInt32 (Int32.toInt16 (Int64.toInt32 l1)))), m0))
  else (
  some (l1, m0)))
def f_X4_numberAt (a0 : Nat) (x1 : Int32) (m0 : XMem) : Option (Int64 × XMem) :=
  if x1 < 0 then (
  some (0, m0))
  else (
  if (mI m0 a0 1) ≤ x1 then (
  some (0, m0))
  else (
  fo (mR m0 a0 2) fun b101 =>
  if x1 < (nI (mN m0 b101)) then (
  fo (mR m0 a0 2) fun b102 =>
  gd (ib x1 (mN m0 b102)) <|
  some ((mL m0 b102 (Int32.toNatClampNeg x1)), m0))
  else (
  some (0, m0))))
def f_X4_put (a0 : Nat) (x1 : Int32) (l2 : Int64) (m0 : XMem) : Option (XMem) :=
  if x1 < 0 then (
  some m0)
  else (
  if (mI m0 a0 1) ≤ x1 then (
  some m0)
  else (
  fo (mR m0 a0 2) fun b101 =>
  if (nI (mN m0 b101)) ≤ x1 then (
  some m0)
  else (
  fo (mR m0 a0 2) fun b102 =>
  b2 (f_X4_lowest a0 l2 m0) fun l104 m103 =>
  gd (ib x1 (mN m103 b102)) <|
  nm (sL m103 b102 (Int32.toNatClampNeg x1) l104) fun m106 =>
  some m106)))
def f_X5_add (a0 : Nat) (x1 : Int32) (m0 : XMem) : Option (XMem) :=
  if (mI m0 a0 1) < 0 then (
  some m0)
  else (
  fo (mR m0 a0 0) fun b101 =>
  if (nI (mN m0 b101)) ≤ (mI m0 a0 1) then (
  some m0)
  else (
  fo (mR m0 a0 0) fun b102 =>
  gd (ib (mI m0 a0 1) (mN m0 b102)) <|
  nm (sI m0 b102 (Int32.toNatClampNeg (mI m0 a0 1)) (Int8.toInt32 (Int32.toInt8 (Int8.toInt32 (Int32.toInt8 x1))))) fun m104 =>
  nm (sI m104 a0 1 ((mI m104 a0 1) + 1)) fun m105 =>
  some m105))
def f_X5_init (a0 : Nat) (m0 : XMem) : Option (XMem) :=
  nm (mZ m0) fun b101 =>
  nm (nw m0 (.inr (1, 100))) fun m102 =>
  nm (sR m102 a0 0 (some b101)) fun m103 =>
  nm (sI m103 a0 1 0) fun m104 =>
  some m104
def f_X7_init (a0 : Nat) (m0 : XMem) : Option (XMem) :=
  nm (sI m0 a0 0 0) fun m101 =>
  nm (sI m101 a0 1 0) fun m102 =>
  nm (sI m102 a0 2 0) fun m103 =>
  nm (sI m103 a0 3 0) fun m104 =>
  nm (sI m104 a0 4 0) fun m105 =>
  nm (mZ m105) fun b106 =>
  nm (nw m105 (.inr (0, 13))) fun m107 =>
  nm (sR m107 a0 5 (some b106)) fun m108 =>
  nm (sI m108 a0 6 0) fun m109 =>
  some m109
def f_X7_pop (a0 : Nat) (m0 : XMem) : Option (Int32 × XMem) :=
  if (mI m0 a0 6) < 1 then (
  some (0, m0))
  else (
  fo (mR m0 a0 5) fun b101 =>
  if (mI m0 a0 6) ≤ (nI (mN m0 b101)) then (
  nm (sI m0 a0 6 ((mI m0 a0 6) - 1)) fun m102 =>
  fo (mR m102 a0 5) fun b103 =>
  gd (ib (mI m102 a0 6) (mN m102 b103)) <|
  some ((mI m102 b103 (Int32.toNatClampNeg (mI m102 a0 6))), m102))
  else (
  some (0, m0)))
def f_X7_push (a0 : Nat) (x1 : Int32) (m0 : XMem) : Option (XMem) :=
  if (mI m0 a0 6) < 0 then (
  some m0)
  else (
  fo (mR m0 a0 5) fun b101 =>
  if (nI (mN m0 b101)) ≤ (mI m0 a0 6) then (
  some m0)
  else (
  fo (mR m0 a0 5) fun b102 =>
  gd (ib (mI m0 a0 6) (mN m0 b102)) <|
  nm (sI m0 b102 (Int32.toNatClampNeg (mI m0 a0 6)) x1) fun m104 =>
  nm (sI m104 a0 6 ((mI m104 a0 6) + 1)) fun m105 =>
  some m105))
def f_X7_resultOf (a0 : Nat) (x1 : Int32) (m0 : XMem) : Option (Int32 × XMem) :=
  b2 (f_X7_pop a0 m0) fun r102 m101 =>
  b2 (f_X7_pop a0 m101) fun r104 m103 =>
  if x1 = (-11) then (
  nm (if r104 < r102 then r102 else r104) fun x106 =>
  some (x106, m103))
  else (
  if x1 = (-10) then (
  nm (if r102 < r104 then r102 else r104) fun x108 =>
  some (x108, m103))
  else (
  if x1 = (-9) then (
  if r102 = 0 then (
  some (0, m103))
  else (
  gd (nz r102) <|
  some ((r104 / r102), m103)))
  else (
  if x1 = (-8) then (
  some ((r104 * r102), m103))
  else (
  if x1 = (-7) then (
  some ((r104 - r102), m103))
  else (
  if x1 = (-6) then (
  some ((r104 + r102), m103))
  else (
  b2 (f_X7_pop a0 m103) fun r115 m114 =>
  if r115 = 0 then (
  some (r102, m114))
  else (
  some (r104, m114))))))))
def f_X7_valueOf (a0 : Nat) (x1 : Int32) (m0 : XMem) : Option (Int32 × XMem) :=
  if x1 = (-5) then (
  some ((mI m0 a0 4), m0))
  else (
  if x1 = (-4) then (
  some ((mI m0 a0 3), m0))
  else (
  if x1 = (-3) then (
  some ((mI m0 a0 2), m0))
  else (
  if x1 = (-2) then (
  some ((mI m0 a0 1), m0))
  else (
  if x1 = (-1) then (
  some ((mI m0 a0 0), m0))
  else (
  some (x1, m0))))))
def f_X7_worked_h47 (a0 : Nat) (a6 : Nat) (k96 :  XMem → Option (Int32 × XMem)) : Nat → Int32 → XMem → Option (Int32 × XMem)
  | 0, _, _ => none
  | n + 1, x7, mu =>
  if (nI (mN mu a6)) ≤ x7 then (
  k96  mu)
  else (
  gd (ib x7 (mN mu a6)) <|
  if (mI mu a6 (Int32.toNatClampNeg x7)) < (-5) then (
  gd (ib x7 (mN mu a6)) <|
  b2 (f_X7_resultOf a0 (mI mu a6 (Int32.toNatClampNeg x7)) mu) fun r116 m115 =>
  b1 (f_X7_push a0 r116 m115) fun m117 =>
  nm (x7 + 1) fun x118 =>
  f_X7_worked_h47 a0 a6 k96 n x118 m117)
  else (
  gd (ib x7 (mN mu a6)) <|
  b2 (f_X7_valueOf a0 (mI mu a6 (Int32.toNatClampNeg x7)) mu) fun r121 m120 =>
  b1 (f_X7_push a0 r121 m120) fun m122 =>
  nm (x7 + 1) fun x123 =>
  f_X7_worked_h47 a0 a6 k96 n x123 m122))
def f_X7_worked (a0 : Nat) (a1 : Nat) (a2 : Nat) (x3 : Int32) (x4 : Int32) (x5 : Int32) (m0 : XMem) : Option (Int32 × XMem) :=
  b2 (f_X0_powerThatCounts a2 m0) fun r102 m101 =>
  nm (sI m101 a0 0 r102) fun m103 =>
  nm (sI m103 a0 1 x3) fun m104 =>
  nm (sI m104 a0 2 x4) fun m105 =>
  nm (sI m105 a0 3 x5) fun m106 =>
  nm (sI m106 a0 4 (mI m106 a2 5)) fun m107 =>
  nm (sI m107 a0 6 0) fun m108 =>
  fo (mR m108 a1 0) fun b109 =>
  f_X7_worked_h47 a0 b109 (fun m110 =>
  b2 (f_X7_pop a0 m110) fun r112 m111 =>
  some (r112, m111)) 2000 0 m108
def f_X8_addLaw (a0 : Nat) (a1 : Nat) (m0 : XMem) : Option (XMem) :=
  if (mI m0 a0 2) < 0 then (
  some m0)
  else (
  fo (mR m0 a0 8) fun b101 =>
  if (nI (mN m0 b101)) ≤ (mI m0 a0 2) then (
  some m0)
  else (
  fo (mR m0 a0 8) fun b102 =>
  gd (ib (mI m0 a0 2) (mN m0 b102)) <|
  nm (sR m0 b102 (Int32.toNatClampNeg (mI m0 a0 2)) (some a1)) fun m104 =>
  nm (sI m104 a0 2 ((mI m104 a0 2) + 1)) fun m105 =>
  some m105))
def f_X8_cellAt (a0 : Nat) (x1 : Int32) (m0 : XMem) : Option (Option Nat × XMem) :=
  if x1 < 0 then (
  some (none, m0))
  else (
  if (mI m0 a0 1) ≤ x1 then (
  some (none, m0))
  else (
  fo (mR m0 a0 7) fun b101 =>
  if x1 < (nI (mN m0 b101)) then (
  fo (mR m0 a0 7) fun b102 =>
  gd (ib x1 (mN m0 b102)) <|
  nm (mR m0 b102 (Int32.toNatClampNeg x1)) fun o104 =>
  some (o104, m0))
  else (
  some (none, m0))))
def f_X8_allHeat_h4 (a0 : Nat) (k39 : Int32 →  XMem → Option (Int32 × XMem)) : Nat → Int32 → Int32 → XMem → Option (Int32 × XMem)
  | 0, _, _, _ => none
  | n + 1, x1, x2, mu =>
  if (mI mu a0 1) ≤ x2 then (
  k39 x1 mu)
  else (
  b2 (f_X8_cellAt a0 x2 mu) fun o104 m103 =>
  oc o104 (
  nm ((x1 + 0)) fun x106 =>
  nm (x2 + 1) fun x107 =>
  f_X8_allHeat_h4 a0 k39 n x106 x107 m103) (fun b105 =>
  nm ((x1 + (mI m103 b105 6))) fun x108 =>
  nm (x2 + 1) fun x109 =>
  f_X8_allHeat_h4 a0 k39 n x108 x109 m103))
def f_X8_allHeat (a0 : Nat) (m0 : XMem) : Option (Int32 × XMem) :=
  f_X8_allHeat_h4 a0 (fun x102 m101 =>
  some (x102, m101)) 2000 0 0 m0
def f_X8_houseAt (a0 : Nat) (x1 : Int32) (m0 : XMem) : Option (Option Nat × XMem) :=
  if x1 < 0 then (
  some (none, m0))
  else (
  if (mI m0 a0 3) ≤ x1 then (
  some (none, m0))
  else (
  fo (mR m0 a0 9) fun b101 =>
  if x1 < (nI (mN m0 b101)) then (
  fo (mR m0 a0 9) fun b102 =>
  gd (ib x1 (mN m0 b102)) <|
  nm (mR m0 b102 (Int32.toNatClampNeg x1)) fun o104 =>
  some (o104, m0))
  else (
  some (none, m0))))
def f_X8_shareOf (a0 : Nat) (x1 : Int32) (m0 : XMem) : Option (Int64 × XMem) :=
  b2 (f_X8_houseAt a0 x1 m0) fun o102 m101 =>
  oc o102 (
  some (0, m101)) (fun b103 =>
  b2 (f_X1_share b103 m101) fun l105 m104 =>
  some (l105, m104))
def f_X8_allShares_h4 (a0 : Nat) (k26 : Int64 →  XMem → Option (Int64 × XMem)) : Nat → Int64 → Int32 → XMem → Option (Int64 × XMem)
  | 0, _, _, _ => none
  | n + 1, l1, x3, mu =>
  if (mI mu a0 3) ≤ x3 then (
  k26 l1 mu)
  else (
  b2 (f_X8_shareOf a0 x3 mu) fun l104 m103 =>
  nm ((l1 + l104)) fun l105 =>
  nm (x3 + 1) fun x106 =>
  f_X8_allShares_h4 a0 k26 n l105 x106 m103)
def f_X8_allShares (a0 : Nat) (m0 : XMem) : Option (Int64 × XMem) :=
  f_X8_allShares_h4 a0 (fun l102 m101 =>
  some (l102, m101)) 2000 0 0 m0
def f_X8_choiceOf (a0 : Nat) (a1 : Nat) (x2 : Int32) (x3 : Int32) (m0 : XMem) : Option (Int32 × XMem) :=
  nm (mR m0 a0 6) fun o101 =>
  oc o101 (
  some (1, m0)) (fun b102 =>
  fo (mR m0 a0 10) fun b103 =>
  fo (mR m0 a0 6) fun b104 =>
  b2 (f_X0_thermometer a1 m0) fun r106 m105 =>
  b2 (f_X7_worked b103 b104 a1 r106 x3 x2 m105) fun r108 m107 =>
  some (r108, m107))
def f_X8_coinsOf_h50 (a0 : Nat) (x1 : Int32) (x2 : Int32) (l3 : Int64) (l7 : Int64) (l9 : Int64) (k128 : Int64 → Int64 →  XMem → Option (Int32 × XMem)) : Nat → Int64 → Int64 → Int32 → XMem → Option (Int32 × XMem)
  | 0, _, _, _, _ => none
  | n + 1, l11, l13, x15, mu =>
  if (mI mu a0 3) ≤ x15 then (
  k128 l11 l13 mu)
  else (
  b2 (f_X8_shareOf a0 x15 mu) fun l112 m111 =>
  nm (((Int32.toInt64 x2) * l112)) fun l113 =>
  gd (nzL l3) <|
  nm ((l11 - (l113 / l3))) fun l115 =>
  gd (nzL l3) <|
  if 0 < (lg_cmp (l113 - l113 / l3 * l3) l9) then (
  nm ((l13 + 1)) fun l117 =>
  nm (x15 + 1) fun x118 =>
  f_X8_coinsOf_h50 a0 x1 x2 l3 l7 l9 k128 n l115 l117 x118 m111)
  else (
  if x1 ≤ x15 then (
  nm (x15 + 1) fun x119 =>
  f_X8_coinsOf_h50 a0 x1 x2 l3 l7 l9 k128 n l115 l13 x119 m111)
  else (
  gd (nzL l3) <|
  if (lg_cmp (l113 - l113 / l3 * l3) l9) = 0 then (
  b2 (f_X8_shareOf a0 x15 m111) fun l123 m122 =>
  if (lg_cmp l123 0) ≤ 0 then (
  nm (x15 + 1) fun x124 =>
  f_X8_coinsOf_h50 a0 x1 x2 l3 l7 l9 k128 n l115 l13 x124 m122)
  else (
  nm ((l13 + 1)) fun l125 =>
  nm (x15 + 1) fun x126 =>
  f_X8_coinsOf_h50 a0 x1 x2 l3 l7 l9 k128 n l115 l125 x126 m122))
  else (
  nm (x15 + 1) fun x121 =>
  f_X8_coinsOf_h50 a0 x1 x2 l3 l7 l9 k128 n l115 l13 x121 m111))))
def f_X8_coinsOf (a0 : Nat) (x1 : Int32) (x2 : Int32) (l3 : Int64) (m0 : XMem) : Option (Int32 × XMem) :=
  b2 (f_X8_shareOf a0 x1 m0) fun l102 m101 =>
  if (lg_cmp l102 0) ≤ 0 then (
  some (0, m101))
  else (
  if 0 < (lg_cmp l3 0) then (
  gd (nzL l3) <|
  nm ((((Int32.toInt64 x2) * l102) / l3)) fun l104 =>
  gd (nzL l3) <|
  nm ((((Int32.toInt64 x2) * l102) - ((Int32.toInt64 x2) * l102) / l3 * l3)) fun l106 =>
  nm ((Int32.toInt64 x2)) fun l107 =>
  f_X8_coinsOf_h50 a0 x1 x2 l3 l104 l106 (fun l109 l110 m108 =>
  if 0 ≤ (lg_cmp l110 l109) then (
  some ((Int64.toInt32 l104), m108))
  else (
  some ((Int64.toInt32 (l104 + 1)), m108))) 2000 l107 0 0 m101)
  else (
  some (0, m101)))
def f_X8_floorOf (a0 : Nat) (a1 : Nat) (x2 : Int32) (x3 : Int32) (m0 : XMem) : Option (Int32 × XMem) :=
  nm (mR m0 a0 5) fun o101 =>
  oc o101 (
  some (0, m0)) (fun b102 =>
  fo (mR m0 a0 10) fun b103 =>
  fo (mR m0 a0 5) fun b104 =>
  b2 (f_X0_warmth a1 m0) fun r106 m105 =>
  b2 (f_X7_worked b103 b104 a1 r106 x3 x2 m105) fun r108 m107 =>
  some (r108, m107))
def f_X8_lawAt (a0 : Nat) (x1 : Int32) (m0 : XMem) : Option (Option Nat × XMem) :=
  if x1 < 0 then (
  some (none, m0))
  else (
  if (mI m0 a0 2) ≤ x1 then (
  some (none, m0))
  else (
  fo (mR m0 a0 8) fun b101 =>
  if x1 < (nI (mN m0 b101)) then (
  fo (mR m0 a0 8) fun b102 =>
  gd (ib x1 (mN m0 b102)) <|
  nm (mR m0 b102 (Int32.toNatClampNeg x1)) fun o104 =>
  some (o104, m0))
  else (
  some (none, m0))))
def f_X8_makesBy (a0 : Nat) (x1 : Int32) (a2 : Nat) (x3 : Int32) (x4 : Int32) (m0 : XMem) : Option (Int32 × XMem) :=
  b2 (f_X8_lawAt a0 x1 m0) fun o102 m101 =>
  oc o102 (
  some (0, m101)) (fun b103 =>
  fo (mR m101 a0 10) fun b104 =>
  fo (mR m101 b103 0) fun b105 =>
  b2 (f_X0_warmth a2 m101) fun r107 m106 =>
  b2 (f_X7_worked b104 b105 a2 r107 x4 x3 m106) fun r109 m108 =>
  nm (if r109 < 9999 then r109 else 9999) fun x110 =>
  nm (if 0 < x110 then x110 else 0) fun x111 =>
  some (x111, m108))
def f_X8_warm (a0 : Nat) (a1 : Nat) (x2 : Int32) (x3 : Int32) (x4 : Int32) (m0 : XMem) : Option (XMem) :=
  b2 (f_X8_makesBy a0 x3 a1 x2 x4 m0) fun r102 m101 =>
  b1 (f_X0_passHour a1 r102 m101) fun m103 =>
  some m103
def f_X8_raysOverFloor (a0 : Nat) (x1 : Int32) (x2 : Int32) (m0 : XMem) : Option (Int32 × XMem) :=
  b2 (f_X8_lawAt a0 x2 m0) fun o102 m101 =>
  oc o102 (
  some (0, m101)) (fun b103 =>
  some (((x1 * (mI m101 b103 1)) / 100), m101))
def f_X8_shine (a0 : Nat) (a1 : Nat) (x2 : Int32) (x3 : Int32) (x4 : Int32) (m0 : XMem) : Option (XMem) :=
  b2 (f_X8_floorOf a0 a1 x2 x4 m0) fun r102 m101 =>
  b2 (f_X8_raysOverFloor a0 (mI m101 a1 10) x3 m101) fun r104 m103 =>
  nm (sI m103 a1 12 (r102 + r104)) fun m105 =>
  some m105
def f_X8_foretell_h3 (a0 : Nat) (a1 : Nat) (x2 : Int32) (x3 : Int32) (x4 : Int32) (k30 :  XMem → Option (XMem)) : Nat → Int32 → XMem → Option (XMem)
  | 0, _, _ => none
  | n + 1, x5, mu =>
  if x4 ≤ x5 then (
  k30  mu)
  else (
  b1 (f_X8_warm a0 a1 x2 x3 ((mI mu a0 0) + x5) mu) fun m103 =>
  nm (x5 + 1) fun x104 =>
  f_X8_foretell_h3 a0 a1 x2 x3 x4 k30 n x104 m103)
def f_X8_foretell (a0 : Nat) (a1 : Nat) (x2 : Int32) (x3 : Int32) (x4 : Int32) (m0 : XMem) : Option (XMem) :=
  f_X8_foretell_h3 a0 a1 x2 x3 x4 (fun m101 =>
  if x4 ≤ 0 then (
  some m101)
  else (
  b1 (f_X8_shine a0 a1 x2 x3 (((mI m101 a0 0) + x4) - 1) m101) fun m102 =>
  some m102)) 2000 0 m0
def f_X8_init_h109 (a0 : Nat) (k137 :  XMem → Option (XMem)) : Nat → Int32 → XMem → Option (XMem)
  | 0, _, _ => none
  | n + 1, x1, mu =>
  fo (mR mu a0 9) fun b131 =>
  if (nI (mN mu b131)) ≤ x1 then (
  k137  mu)
  else (
  fo (mR mu a0 9) fun b132 =>
  nm (mZ mu) fun b133 =>
  nm (nw mu (.inl 1)) fun m134 =>
  b1 (f_X1_init b133 m134) fun m135 =>
  gd (ib x1 (mN m135 b132)) <|
  nm (sR m135 b132 (Int32.toNatClampNeg x1) (some b133)) fun m137 =>
  nm (x1 + 1) fun x138 =>
  f_X8_init_h109 a0 k137 n x138 m137)
def f_X8_init_h79 (a0 : Nat) (k107 :  XMem → Option (XMem)) : Nat → Int32 → XMem → Option (XMem)
  | 0, _, _ => none
  | n + 1, x1, mu =>
  fo (mR mu a0 7) fun b123 =>
  if (nI (mN mu b123)) ≤ x1 then (
  k107  mu)
  else (
  fo (mR mu a0 7) fun b124 =>
  nm (mZ mu) fun b125 =>
  nm (nw mu (.inl 0)) fun m126 =>
  b1 (f_X0_init b125 m126) fun m127 =>
  gd (ib x1 (mN m127 b124)) <|
  nm (sR m127 b124 (Int32.toNatClampNeg x1) (some b125)) fun m129 =>
  nm (x1 + 1) fun x130 =>
  f_X8_init_h79 a0 k107 n x130 m129)
def f_X8_init (a0 : Nat) (m0 : XMem) : Option (XMem) :=
  nm (sI m0 a0 0 0) fun m101 =>
  nm (sI m101 a0 1 0) fun m102 =>
  nm (sI m102 a0 2 0) fun m103 =>
  nm (sI m103 a0 3 0) fun m104 =>
  nm (sI m104 a0 4 (-1)) fun m105 =>
  nm (sR m105 a0 5 none) fun m106 =>
  nm (sR m106 a0 6 none) fun m107 =>
  nm (mZ m107) fun b108 =>
  nm (nw m107 (.inr (3, 8))) fun m109 =>
  nm (sR m109 a0 7 (some b108)) fun m110 =>
  nm (mZ m110) fun b111 =>
  nm (nw m110 (.inr (4, 6))) fun m112 =>
  nm (sR m112 a0 8 (some b111)) fun m113 =>
  nm (mZ m113) fun b114 =>
  nm (nw m113 (.inr (5, 8))) fun m115 =>
  nm (sR m115 a0 9 (some b114)) fun m116 =>
  nm (mZ m116) fun b117 =>
  nm (nw m116 (.inl 7)) fun m118 =>
  b1 (f_X7_init b117 m118) fun m119 =>
  nm (sR m119 a0 10 (some b117)) fun m120 =>
  f_X8_init_h79 a0 (fun m121 =>
  f_X8_init_h109 a0 (fun m122 =>
  some m122) 10 0 m121) 10 0 m120
def f_X8_newCell (a0 : Nat) (m0 : XMem) : Option (Option Nat × XMem) :=
  if (mI m0 a0 1) < 8 then (
  nm (sI m0 a0 1 ((mI m0 a0 1) + 1)) fun m101 =>
  b2 (f_X8_cellAt a0 ((mI m101 a0 1) - 1) m101) fun o103 m102 =>
  some (o103, m102))
  else (
  some (none, m0))
def f_X8_newHouse (a0 : Nat) (m0 : XMem) : Option (Option Nat × XMem) :=
  if (mI m0 a0 3) < 8 then (
  nm (sI m0 a0 3 ((mI m0 a0 3) + 1)) fun m101 =>
  b2 (f_X8_houseAt a0 ((mI m101 a0 3) - 1) m101) fun o103 m102 =>
  some (o103, m102))
  else (
  some (none, m0))
def f_X8_passHourOf (a0 : Nat) (a1 : Nat) (m0 : XMem) : Option (XMem) :=
  b2 (f_X8_cellAt a0 (mI m0 a1 0) m0) fun o102 m101 =>
  oc o102 (
  b1 (f_X1_speak a1 (mI m101 a0 0) m101) fun m104 =>
  some m104) (fun b103 =>
  if (mI m101 a1 3) = 0 then (
  b1 (f_X1_addHour a1 b103 m101) fun m105 =>
  b1 (f_X1_speak a1 (mI m105 a0 0) m105) fun m106 =>
  some m106)
  else (
  b2 (f_X8_choiceOf a0 b103 (mI m101 a1 0) (mI m101 a0 0) m101) fun r108 m107 =>
  if r108 = 0 then (
  b1 (f_X1_speak a1 (mI m107 a0 0) m107) fun m109 =>
  some m109)
  else (
  b1 (f_X1_addHour a1 b103 m107) fun m110 =>
  b1 (f_X1_speak a1 (mI m110 a0 0) m110) fun m111 =>
  some m111)))
def f_X8_passHour_h56 (a0 : Nat) (k85 :  XMem → Option (XMem)) : Nat → Int32 → XMem → Option (XMem)
  | 0, _, _ => none
  | n + 1, x1, mu =>
  if (mI mu a0 3) ≤ x1 then (
  k85  mu)
  else (
  b2 (f_X8_houseAt a0 x1 mu) fun o112 m111 =>
  oc o112 (
  nm (x1 + 1) fun x114 =>
  f_X8_passHour_h56 a0 k85 n x114 m111) (fun b113 =>
  b1 (f_X8_passHourOf a0 b113 m111) fun m115 =>
  nm (x1 + 1) fun x116 =>
  f_X8_passHour_h56 a0 k85 n x116 m115))
def f_X8_passHour_h2 (a0 : Nat) (k54 :  XMem → Option (XMem)) : Nat → Int32 → XMem → Option (XMem)
  | 0, _, _ => none
  | n + 1, x1, mu =>
  if (mI mu a0 1) ≤ x1 then (
  k54  mu)
  else (
  b2 (f_X8_cellAt a0 x1 mu) fun o105 m104 =>
  oc o105 (
  nm (x1 + 1) fun x107 =>
  f_X8_passHour_h2 a0 k54 n x107 m104) (fun b106 =>
  b1 (f_X8_warm a0 b106 x1 (mI m104 a0 4) (mI m104 a0 0) m104) fun m108 =>
  b1 (f_X8_shine a0 b106 x1 (mI m108 a0 4) (mI m108 a0 0) m108) fun m109 =>
  nm (x1 + 1) fun x110 =>
  f_X8_passHour_h2 a0 k54 n x110 m109))
def f_X8_passHour (a0 : Nat) (m0 : XMem) : Option (XMem) :=
  f_X8_passHour_h2 a0 (fun m101 =>
  f_X8_passHour_h56 a0 (fun m102 =>
  nm (sI m102 a0 0 ((mI m102 a0 0) + 1)) fun m103 =>
  some m103) 2000 0 m101) 2000 0 m0
def f_X8_placeInOrder_h24 (a0 : Nat) (x1 : Int32) (a2 : Nat) (k87 : Int32 →  XMem → Option (Int32 × XMem)) : Nat → Int32 → Int32 → XMem → Option (Int32 × XMem)
  | 0, _, _, _ => none
  | n + 1, x3, x4, mu =>
  if (mI mu a0 3) ≤ x4 then (
  k87 x3 mu)
  else (
  b2 (f_X8_houseAt a0 x4 mu) fun o107 m106 =>
  oc o107 (
  nm (x4 + 1) fun x109 =>
  f_X8_placeInOrder_h24 a0 x1 a2 k87 n x3 x109 m106) (fun b108 =>
  if (mI m106 b108 8) = 0 then (
  nm (x4 + 1) fun x110 =>
  f_X8_placeInOrder_h24 a0 x1 a2 k87 n x3 x110 m106)
  else (
  b2 (f_X1_isBefore b108 a2 m106) fun r112 m111 =>
  if r112 = 0 then (
  if x1 ≤ x4 then (
  nm (x4 + 1) fun x115 =>
  f_X8_placeInOrder_h24 a0 x1 a2 k87 n x3 x115 m111)
  else (
  b2 (f_X1_isBefore a2 b108 m111) fun r117 m116 =>
  if r117 = 0 then (
  nm (x3 + 1) fun x119 =>
  nm (x4 + 1) fun x120 =>
  f_X8_placeInOrder_h24 a0 x1 a2 k87 n x119 x120 m116)
  else (
  nm (x4 + 1) fun x118 =>
  f_X8_placeInOrder_h24 a0 x1 a2 k87 n x3 x118 m116)))
  else (
  nm (x3 + 1) fun x113 =>
  nm (x4 + 1) fun x114 =>
  f_X8_placeInOrder_h24 a0 x1 a2 k87 n x113 x114 m111))))
def f_X8_placeInOrder (a0 : Nat) (x1 : Int32) (m0 : XMem) : Option (Int32 × XMem) :=
  b2 (f_X8_houseAt a0 x1 m0) fun o102 m101 =>
  oc o102 (
  some ((-1), m101)) (fun b103 =>
  if (mI m101 b103 8) = 0 then (
  some ((-1), m101))
  else (
  f_X8_placeInOrder_h24 a0 x1 b103 (fun x105 m104 =>
  some (x105, m104)) 2000 0 0 m101))
def f_X8_take_h138 (a0 : Nat) (a1 : Nat) (k180 :  XMem → Option (XMem)) : Nat → Int32 → XMem → Option (XMem)
  | 0, _, _ => none
  | n + 1, x2, mu =>
  if (mI mu a0 3) ≤ x2 then (
  k180  mu)
  else (
  b2 (f_X8_houseAt a0 x2 mu) fun o131 m130 =>
  b2 (f_X8_houseAt a1 x2 m130) fun o133 m132 =>
  oc o131 (
  nm (x2 + 1) fun x135 =>
  f_X8_take_h138 a0 a1 k180 n x135 m132) (fun b134 =>
  oc o133 (
  nm (x2 + 1) fun x137 =>
  f_X8_take_h138 a0 a1 k180 n x137 m132) (fun b136 =>
  b1 (f_X1_take b134 b136 m132) fun m138 =>
  nm (x2 + 1) fun x139 =>
  f_X8_take_h138 a0 a1 k180 n x139 m138)))
def f_X8_take_j136 (a0 : Nat) (a1 : Nat) (mu : XMem) : Option (XMem) :=
  f_X8_take_h138 a0 a1 (fun m129 =>
  some m129) 2000 0 mu
def f_X8_take_h102 (a0 : Nat) (a1 : Nat) (k136 :  XMem → Option (XMem)) : Nat → Int32 → XMem → Option (XMem)
  | 0, _, _ => none
  | n + 1, x2, mu =>
  if (mI mu a0 2) ≤ x2 then (
  k136  mu)
  else (
  fo (mR mu a0 8) fun b122 =>
  if (nI (mN mu b122)) ≤ x2 then (
  k136  mu)
  else (
  fo (mR mu a0 8) fun b123 =>
  b2 (f_X8_lawAt a1 x2 mu) fun o125 m124 =>
  gd (ib x2 (mN m124 b123)) <|
  nm (sR m124 b123 (Int32.toNatClampNeg x2) o125) fun m127 =>
  nm (x2 + 1) fun x128 =>
  f_X8_take_h102 a0 a1 k136 n x128 m127))
def f_X8_take_h58 (a0 : Nat) (a1 : Nat) (k100 :  XMem → Option (XMem)) : Nat → Int32 → XMem → Option (XMem)
  | 0, _, _ => none
  | n + 1, x2, mu =>
  if (mI mu a0 1) ≤ x2 then (
  k100  mu)
  else (
  b2 (f_X8_cellAt a0 x2 mu) fun o113 m112 =>
  b2 (f_X8_cellAt a1 x2 m112) fun o115 m114 =>
  oc o113 (
  nm (x2 + 1) fun x117 =>
  f_X8_take_h58 a0 a1 k100 n x117 m114) (fun b116 =>
  oc o115 (
  nm (x2 + 1) fun x119 =>
  f_X8_take_h58 a0 a1 k100 n x119 m114) (fun b118 =>
  b1 (f_X0_take b116 b118 m114) fun m120 =>
  nm (x2 + 1) fun x121 =>
  f_X8_take_h58 a0 a1 k100 n x121 m120)))
def f_X8_take (a0 : Nat) (a1 : Nat) (m0 : XMem) : Option (XMem) :=
  nm (sI m0 a0 0 (mI m0 a1 0)) fun m101 =>
  nm (sI m101 a0 1 (mI m101 a1 1)) fun m102 =>
  nm (sI m102 a0 2 (mI m102 a1 2)) fun m103 =>
  nm (sI m103 a0 3 (mI m103 a1 3)) fun m104 =>
  nm (sI m104 a0 4 (mI m104 a1 4)) fun m105 =>
  nm (mR m105 a1 5) fun o106 =>
  nm (sR m105 a0 5 o106) fun m107 =>
  nm (mR m107 a1 6) fun o108 =>
  nm (sR m107 a0 6 o108) fun m109 =>
  f_X8_take_h58 a0 a1 (fun m110 =>
  f_X8_take_h102 a0 a1 (fun m111 =>
  f_X8_take_j136 a0 a1 m111) 2000 0 m110) 2000 0 m109
def f_X8_toldBy (a0 : Nat) (a1 : Nat) (a2 : Nat) (x3 : Int32) (x4 : Int32) (m0 : XMem) : Option (Int32 × XMem) :=
  fo (mR m0 a0 10) fun b101 =>
  fo (mR m0 a1 0) fun b102 =>
  b2 (f_X0_warmth a2 m0) fun r104 m103 =>
  b2 (f_X7_worked b101 b102 a2 r104 x4 x3 m103) fun r106 m105 =>
  some (r106, m105)
def f_X9_apart (x0 : Int32) (x1 : Int32) (m0 : XMem) : Option (Int64 × XMem) :=
  nm (if 0 < ((Int32.toInt64 x0) - (Int32.toInt64 x1)) then ((Int32.toInt64 x0) - (Int32.toInt64 x1)) else -((Int32.toInt64 x0) - (Int32.toInt64 x1))) fun l101 =>
  some (l101, m0)
def f_X9_within (x0 : Int32) (x1 : Int32) (x2 : Int32) (m0 : XMem) : Option (Int32 × XMem) :=
  if x0 < x1 then (
  some (0, m0))
  else (
  if x2 < x0 then (
  some (0, m0))
  else (
  some (1, m0)))
def f_X9_finding (a0 : Nat) (x1 : Int32) (m0 : XMem) : Option (Int32 × XMem) :=
  if x1 < 0 then (
  some (((-1000000001) - x1), m0))
  else (
  fo (mR m0 a0 6) fun b101 =>
  if (nI (mN m0 b101)) ≤ x1 then (
  some (((-1000000001) - x1), m0))
  else (
  fo (mR m0 a0 6) fun b102 =>
  gd (ib x1 (mN m0 b102)) <|
  gd (ib x1 (mN m0 b102)) <|
  nm (sI m0 b102 (Int32.toNatClampNeg x1) ((mI m0 b102 (Int32.toNatClampNeg x1)) + 1)) fun m105 =>
  some (((-1000000001) - x1), m105)))
def f_X9_isUnder_h4 (x1 : Int32) (k27 :  XMem → Option (Int32 × XMem)) (k41 :  XMem → Option (Int32 × XMem)) : Nat → Int32 → Int32 → XMem → Option (Int32 × XMem)
  | 0, _, _, _ => none
  | n + 1, x2, x3, mu =>
  if 6 ≤ x3 then (
  k41  mu)
  else (
  if x2 < 0 then (
  k41  mu)
  else (
  if 6 ≤ x2 then (
  k41  mu)
  else (
  if x2 = x1 then (
  k27  mu)
  else (
  gd (ib x2 6) <|
  nm ((xUf (Int32.toNatClampNeg x2))) fun x104 =>
  nm (x3 + 1) fun x105 =>
  f_X9_isUnder_h4 x1 k27 k41 n x104 x105 mu))))
def f_X9_isUnder (x0 : Int32) (x1 : Int32) (m0 : XMem) : Option (Int32 × XMem) :=
  f_X9_isUnder_h4 x1 (fun m101 =>
  some (1, m101)) (fun m102 =>
  some (0, m102)) 2000 x0 0 m0
def f_X9_as (a0 : Nat) (x1 : Int32) (x2 : Int32) (m0 : XMem) : Option (Int32 × XMem) :=
  fo (mR m0 a0 0) fun b101 =>
  b2 (f_X8_cellAt b101 x1 m0) fun o103 m102 =>
  oc o103 (
  b2 (f_X9_finding a0 0 m102) fun r106 m105 =>
  some (r106, m105)) (fun b104 =>
  b2 (f_X9_within x2 0 5 m102) fun r108 m107 =>
  if r108 = 0 then (
  b2 (f_X9_finding a0 0 m107) fun r116 m115 =>
  some (r116, m115))
  else (
  b2 (f_X9_isUnder (mI m107 b104 0) x2 m107) fun r110 m109 =>
  if r110 = 0 then (
  b2 (f_X9_finding a0 2 m109) fun r114 m113 =>
  some (r114, m113))
  else (
  b2 (f_X0_thermometer b104 m109) fun r112 m111 =>
  some (r112, m111))))
def f_X9_mustOf (a0 : Nat) (a1 : Nat) (x2 : Int32) (x3 : Int32) (m0 : XMem) : Option (Int32 × XMem) :=
  fo (mR m0 a0 0) fun b101 =>
  fo (mR m0 a0 0) fun b102 =>
  fo (mR m0 a0 0) fun b103 =>
  b2 (f_X8_makesBy b102 x3 a1 x2 (mI m0 b103 0) m0) fun r105 m104 =>
  b2 (f_X8_raysOverFloor b101 r105 x3 m104) fun r107 m106 =>
  some (r107, m106)
def f_X9_barred (a0 : Nat) (x1 : Int32) (x2 : Int32) (x3 : Int32) (m0 : XMem) : Option (Int32 × XMem) :=
  fo (mR m0 a0 0) fun b101 =>
  b2 (f_X8_cellAt b101 x1 m0) fun o103 m102 =>
  oc o103 (
  b2 (f_X9_finding a0 0 m102) fun r106 m105 =>
  some (r106, m105)) (fun b104 =>
  fo (mR m102 a0 0) fun b107 =>
  b2 (f_X8_lawAt b107 x2 m102) fun o109 m108 =>
  oc o109 (
  b2 (f_X9_finding a0 0 m108) fun r112 m111 =>
  some (r112, m111)) (fun b110 =>
  b2 (f_X9_within x3 0 9999 m108) fun r114 m113 =>
  if r114 = 0 then (
  b2 (f_X9_finding a0 0 m113) fun r123 m122 =>
  some (r123, m122))
  else (
  fo (mR m113 a0 0) fun b115 =>
  fo (mR m113 a0 0) fun b116 =>
  b2 (f_X8_floorOf b115 b104 x1 (mI m113 b116 0) m113) fun r118 m117 =>
  nm (((Int32.toInt64 (mI m113 b104 12)) - (Int32.toInt64 r118))) fun l119 =>
  b2 (f_X9_mustOf a0 b104 x1 x2 m117) fun r121 m120 =>
  if 0 ≤ (lg_cmp (l119 + (Int32.toInt64 x3)) (Int32.toInt64 r121)) then (
  some (0, m120))
  else (
  some (1, m120)))))
def f_X9_beside (a0 : Nat) (x1 : Int32) (x2 : Int32) (m0 : XMem) : Option (Int32 × XMem) :=
  fo (mR m0 a0 0) fun b101 =>
  b2 (f_X8_houseAt b101 x1 m0) fun o103 m102 =>
  fo (mR m102 a0 0) fun b104 =>
  b2 (f_X8_houseAt b104 x2 m102) fun o106 m105 =>
  oc o103 (
  b2 (f_X9_finding a0 0 m105) fun r109 m108 =>
  some (r109, m108)) (fun b107 =>
  oc o106 (
  b2 (f_X9_finding a0 0 m105) fun r112 m111 =>
  some (r112, m111)) (fun b110 =>
  if x1 = x2 then (
  b2 (f_X9_finding a0 0 m105) fun r123 m122 =>
  some (r123, m122))
  else (
  if (mI m105 b107 5) = 0 then (
  b2 (f_X9_finding a0 3 m105) fun r114 m113 =>
  some (r114, m113))
  else (
  if (mI m105 b110 5) = 0 then (
  b2 (f_X9_finding a0 3 m105) fun r121 m120 =>
  some (r121, m120))
  else (
  b2 (f_X1_balance b107 m105) fun l116 m115 =>
  b2 (f_X1_balance b110 m115) fun l118 m117 =>
  nm (((l116 * (Int32.toInt64 (mI m115 b110 5))) - (l118 * (Int32.toInt64 (mI m117 b107 5))))) fun l119 =>
  if (lg_cmp l119 0) = 0 then (
  some (0, m117))
  else (
  if (lg_cmp l119 0) ≤ 0 then (
  some ((-1), m117))
  else (
  some (1, m117))))))))
def f_X9_cell (a0 : Nat) (x1 : Int32) (x2 : Int32) (x3 : Int32) (x4 : Int32) (m0 : XMem) : Option (Int32 × XMem) :=
  nm ((x2 / 1000000)) fun x101 =>
  nm (((x2 / 10000) - (x2 / 10000) / 100 * 100)) fun x102 =>
  b2 (f_X9_within x1 0 5 m0) fun r104 m103 =>
  if r104 = 0 then (
  b2 (f_X9_finding a0 0 m103) fun r106 m105 =>
  some (r106, m105))
  else (
  if x2 < 0 then (
  b2 (f_X9_finding a0 0 m103) fun r108 m107 =>
  some (r108, m107))
  else (
  b2 (f_X9_within x101 1 99 m103) fun r110 m109 =>
  if r110 = 0 then (
  b2 (f_X9_finding a0 0 m109) fun r112 m111 =>
  some (r112, m111))
  else (
  b2 (f_X9_within x102 1 99 m109) fun r114 m113 =>
  if r114 = 0 then (
  b2 (f_X9_finding a0 0 m113) fun r138 m137 =>
  some (r138, m137))
  else (
  b2 (f_X9_within x3 0 100 m113) fun r116 m115 =>
  if r116 = 0 then (
  b2 (f_X9_finding a0 0 m115) fun r118 m117 =>
  some (r118, m117))
  else (
  b2 (f_X9_within x4 0 9999 m115) fun r120 m119 =>
  if r120 = 0 then (
  b2 (f_X9_finding a0 0 m119) fun r136 m135 =>
  some (r136, m135))
  else (
  fo (mR m119 a0 0) fun b121 =>
  b2 (f_X8_newCell b121 m119) fun o123 m122 =>
  oc o123 (
  b2 (f_X9_finding a0 1 m122) fun r126 m125 =>
  some (r126, m125)) (fun b124 =>
  b1 (f_X0_begin b124 m122) fun m127 =>
  nm (sI m127 b124 0 x1) fun m128 =>
  nm (sI m128 b124 3 x101) fun m129 =>
  nm (sI m129 b124 2 x102) fun m130 =>
  nm (sI m130 b124 1 (x2 - x2 / 10000 * 10000)) fun m131 =>
  nm (sI m131 b124 4 x3) fun m132 =>
  nm (sI m132 b124 5 x4) fun m133 =>
  fo (mR m133 a0 0) fun b134 =>
  some (((mI m133 b134 1) - 1), m133))))))))
def f_X9_sheetAt (a0 : Nat) (x1 : Int32) (m0 : XMem) : Option (Option Nat × XMem) :=
  if x1 < 0 then (
  some (none, m0))
  else (
  fo (mR m0 a0 5) fun b101 =>
  if x1 < (nI (mN m0 b101)) then (
  fo (mR m0 a0 5) fun b102 =>
  gd (ib x1 (mN m0 b102)) <|
  nm (mR m0 b102 (Int32.toNatClampNeg x1)) fun o104 =>
  some (o104, m0))
  else (
  some (none, m0)))
def f_X9_copy (a0 : Nat) (x1 : Int32) (x2 : Int32) (x3 : Int32) (x4 : Int32) (x5 : Int32) (m0 : XMem) : Option (Int32 × XMem) :=
  b2 (f_X9_sheetAt a0 x1 m0) fun o102 m101 =>
  b2 (f_X9_sheetAt a0 x3 m101) fun o104 m103 =>
  oc o102 (
  b2 (f_X9_finding a0 0 m103) fun r107 m106 =>
  some (r107, m106)) (fun b105 =>
  oc o104 (
  b2 (f_X9_finding a0 0 m103) fun r110 m109 =>
  some (r110, m109)) (fun b108 =>
  if (mI m103 b105 0) = 0 then (
  b2 (f_X9_finding a0 5 m103) fun r112 m111 =>
  some (r112, m111))
  else (
  if (mI m103 b108 0) = 0 then (
  b2 (f_X9_finding a0 5 m103) fun r128 m127 =>
  some (r128, m127))
  else (
  if (mI m103 b105 0) = (mI m103 b108 0) then (
  b2 (f_X4_has b105 x2 x5 m103) fun r114 m113 =>
  if r114 = 0 then (
  b2 (f_X9_finding a0 0 m113) fun r116 m115 =>
  some (r116, m115))
  else (
  b2 (f_X4_has b108 x4 x5 m113) fun r118 m117 =>
  if r118 = 0 then (
  b2 (f_X9_finding a0 0 m117) fun r124 m123 =>
  some (r124, m123))
  else (
  fo (mR m117 b105 2) fun b119 =>
  fo (mR m117 b108 2) fun b120 =>
  gd (cpb x2 x4 x5 (mN m117 b119) (mN m117 b120)) <|
  nm (sC m117 b119 (Int32.toNatClampNeg x2) b120 (Int32.toNatClampNeg x4) (Int32.toNatClampNeg x5)) fun m122 =>
  some (x5, m122))))
  else (
  b2 (f_X9_finding a0 2 m103) fun r126 m125 =>
  some (r126, m125))))))
def f_X9_count (a0 : Nat) (x1 : Int32) (m0 : XMem) : Option (Int32 × XMem) :=
  if x1 = 0 then (
  fo (mR m0 a0 0) fun b102 =>
  some ((mI m0 b102 0), m0))
  else (
  if x1 = 1 then (
  fo (mR m0 a0 0) fun b104 =>
  some ((mI m0 b104 1), m0))
  else (
  if x1 = 2 then (
  fo (mR m0 a0 0) fun b106 =>
  some ((mI m0 b106 2), m0))
  else (
  if x1 = 3 then (
  fo (mR m0 a0 0) fun b108 =>
  some ((mI m0 b108 3), m0))
  else (
  if x1 = 4 then (
  fo (mR m0 a0 0) fun b110 =>
  some ((mI m0 b110 4), m0))
  else (
  if x1 = 5 then (
  fo (mR m0 a0 3) fun b112 =>
  some ((mI m0 b112 1), m0))
  else (
  if x1 = 6 then (
  fo (mR m0 a0 0) fun b114 =>
  b2 (f_X8_allHeat b114 m0) fun r116 m115 =>
  some (r116, m115))
  else (
  b2 (f_X9_finding a0 0 m0) fun r118 m117 =>
  some (r118, m117))))))))
def f_X9_ever (a0 : Nat) (x1 : Int32) (x2 : Int32) (m0 : XMem) : Option (Int32 × XMem) :=
  fo (mR m0 a0 0) fun b101 =>
  b2 (f_X8_cellAt b101 x1 m0) fun o103 m102 =>
  oc o103 (
  b2 (f_X9_finding a0 0 m102) fun r106 m105 =>
  some (r106, m105)) (fun b104 =>
  if x2 = 0 then (
  some ((mI m102 b104 13), m102))
  else (
  if x2 = 1 then (
  some ((mI m102 b104 14), m102))
  else (
  if x2 = 2 then (
  some ((mI m102 b104 15), m102))
  else (
  if x2 = 3 then (
  some ((mI m102 b104 16), m102))
  else (
  b2 (f_X9_finding a0 0 m102) fun r112 m111 =>
  some (r112, m111))))))
def f_X9_feed_h39 (a0 : Nat) (x1 : Int32) (k62 :  XMem → Option (Int32 × XMem)) : Nat → Int32 → XMem → Option (Int32 × XMem)
  | 0, _, _ => none
  | n + 1, x3, mu =>
  if x3 < 0 then (
  k62  mu)
  else (
  fo (mR mu a0 3) fun b111 =>
  b1 (f_X5_add b111 ((x1.toUInt32 >>> (Int32.toUInt32 (8 * x3) &&& Int32.toUInt32 31)).toInt32) mu) fun m112 =>
  nm (x3 + (-1)) fun x113 =>
  f_X9_feed_h39 a0 x1 k62 n x113 m112)
def f_X9_feed (a0 : Nat) (x1 : Int32) (x2 : Int32) (m0 : XMem) : Option (Int32 × XMem) :=
  b2 (f_X9_within x2 1 4 m0) fun r102 m101 =>
  if r102 = 0 then (
  b2 (f_X9_finding a0 0 m101) fun r110 m109 =>
  some (r110, m109))
  else (
  fo (mR m101 a0 3) fun b103 =>
  if ((mI m101 b103 1) + x2) ≤ 100 then (
  nm ((x2 - 1)) fun x104 =>
  f_X9_feed_h39 a0 x1 (fun m105 =>
  fo (mR m105 a0 3) fun b106 =>
  some ((mI m105 b106 1), m105)) 2000 x104 m101)
  else (
  b2 (f_X9_finding a0 1 m101) fun r108 m107 =>
  some (r108, m107)))
def f_X9_isLawOrNone (a0 : Nat) (x1 : Int32) (m0 : XMem) : Option (Int32 × XMem) :=
  if x1 = (-1) then (
  some (1, m0))
  else (
  fo (mR m0 a0 0) fun b101 =>
  b2 (f_X8_lawAt b101 x1 m0) fun o103 m102 =>
  oc o103 (
  some (0, m102)) (fun b104 =>
  some (1, m102)))
def f_X9_force (a0 : Nat) (x1 : Int32) (m0 : XMem) : Option (Int32 × XMem) :=
  b2 (f_X9_isLawOrNone a0 x1 m0) fun r102 m101 =>
  if r102 = 0 then (
  b2 (f_X9_finding a0 0 m101) fun r108 m107 =>
  some (r108, m107))
  else (
  fo (mR m101 a0 0) fun b103 =>
  nm ((mI m101 b103 4)) fun x104 =>
  fo (mR m101 a0 0) fun b105 =>
  nm (sI m101 b105 4 x1) fun m106 =>
  some (x104, m106))
def f_X9_foretold (a0 : Nat) (x1 : Int32) (x2 : Int32) (x3 : Int32) (x4 : Int32) (m0 : XMem) : Option (Int32 × XMem) :=
  fo (mR m0 a0 0) fun b101 =>
  b2 (f_X8_cellAt b101 x1 m0) fun o103 m102 =>
  oc o103 (
  b2 (f_X9_finding a0 0 m102) fun r106 m105 =>
  some (r106, m105)) (fun b104 =>
  b2 (f_X9_isLawOrNone a0 x2 m102) fun r108 m107 =>
  if r108 = 0 then (
  b2 (f_X9_finding a0 0 m107) fun r110 m109 =>
  some (r110, m109))
  else (
  b2 (f_X9_within x3 0 100 m107) fun r112 m111 =>
  if r112 = 0 then (
  b2 (f_X9_finding a0 0 m111) fun r114 m113 =>
  some (r114, m113))
  else (
  b2 (f_X9_within x4 0 4 m111) fun r116 m115 =>
  if r116 = 0 then (
  b2 (f_X9_finding a0 0 m115) fun r134 m133 =>
  some (r134, m133))
  else (
  fo (mR m115 a0 7) fun b117 =>
  b1 (f_X0_take b117 b104 m115) fun m118 =>
  fo (mR m118 a0 0) fun b119 =>
  fo (mR m118 a0 7) fun b120 =>
  b1 (f_X8_foretell b119 b120 x1 x2 x3 m118) fun m121 =>
  if x4 = 0 then (
  fo (mR m121 a0 7) fun b123 =>
  some ((mI m121 b123 6), m121))
  else (
  if x4 = 1 then (
  fo (mR m121 a0 7) fun b125 =>
  b2 (f_X0_thermometer b125 m121) fun r127 m126 =>
  some (r127, m126))
  else (
  if x4 = 2 then (
  fo (mR m121 a0 7) fun b129 =>
  some ((mI m121 b129 12), m121))
  else (
  if x4 = 3 then (
  fo (mR m121 a0 7) fun b131 =>
  some ((mI m121 b131 7), m121))
  else (
  fo (mR m121 a0 7) fun b132 =>
  some ((mI m121 b132 5), m121)))))))))
def f_X9_hours_h39 (a0 : Nat) (x1 : Int32) (k57 :  XMem → Option (Int32 × XMem)) : Nat → Int32 → XMem → Option (Int32 × XMem)
  | 0, _, _ => none
  | n + 1, x2, mu =>
  if x1 ≤ x2 then (
  k57  mu)
  else (
  fo (mR mu a0 0) fun b110 =>
  b1 (f_X8_passHour b110 mu) fun m111 =>
  nm (x2 + 1) fun x112 =>
  f_X9_hours_h39 a0 x1 k57 n x112 m111)
def f_X9_hours (a0 : Nat) (x1 : Int32) (m0 : XMem) : Option (Int32 × XMem) :=
  b2 (f_X9_within x1 1 100 m0) fun r102 m101 =>
  if r102 = 0 then (
  b2 (f_X9_finding a0 0 m101) fun r109 m108 =>
  some (r109, m108))
  else (
  fo (mR m101 a0 0) fun b103 =>
  if ((mI m101 b103 0) + x1) ≤ 2000 then (
  f_X9_hours_h39 a0 x1 (fun m104 =>
  fo (mR m104 a0 0) fun b105 =>
  some ((mI m104 b105 0), m104)) 2000 0 m101)
  else (
  b2 (f_X9_finding a0 4 m101) fun r107 m106 =>
  some (r107, m106)))
def f_X9_house (a0 : Nat) (x1 : Int32) (x2 : Int32) (m0 : XMem) : Option (Int32 × XMem) :=
  nm ((x1 / 1000)) fun x101 =>
  nm (((x1 / 100) - (x1 / 100) / 10 * 10)) fun x102 =>
  nm (((x1 / 10) - (x1 / 10) / 10 * 10)) fun x103 =>
  nm ((x1 - x1 / 10 * 10)) fun x104 =>
  if x1 < 0 then (
  b2 (f_X9_finding a0 0 m0) fun r106 m105 =>
  some (r106, m105))
  else (
  b2 (f_X9_within x101 1 99 m0) fun r108 m107 =>
  if r108 = 0 then (
  b2 (f_X9_finding a0 0 m107) fun r110 m109 =>
  some (r110, m109))
  else (
  if 1 < x102 then (
  b2 (f_X9_finding a0 0 m107) fun r112 m111 =>
  some (r112, m111))
  else (
  if 1 < x103 then (
  b2 (f_X9_finding a0 0 m107) fun r114 m113 =>
  some (r114, m113))
  else (
  fo (mR m107 a0 0) fun b115 =>
  b2 (f_X8_cellAt b115 x104 m107) fun o117 m116 =>
  oc o117 (
  b2 (f_X9_finding a0 0 m116) fun r120 m119 =>
  some (r120, m119)) (fun b118 =>
  b2 (f_X9_within x2 1 99999 m116) fun r122 m121 =>
  if r122 = 0 then (
  b2 (f_X9_finding a0 0 m121) fun r137 m136 =>
  some (r137, m136))
  else (
  fo (mR m121 a0 0) fun b123 =>
  b2 (f_X8_newHouse b123 m121) fun o125 m124 =>
  oc o125 (
  b2 (f_X9_finding a0 1 m124) fun r128 m127 =>
  some (r128, m127)) (fun b126 =>
  b1 (f_X1_begin b126 m124) fun m129 =>
  nm (sI m129 b126 0 x104) fun m130 =>
  nm (sI m130 b126 1 x101) fun m131 =>
  nm (sI m131 b126 2 x102) fun m132 =>
  nm (sI m132 b126 3 x103) fun m133 =>
  nm (sI m133 b126 4 x2) fun m134 =>
  fo (mR m134 a0 0) fun b135 =>
  some (((mI m134 b135 3) - 1), m134))))))))
def f_X9_houseOf (a0 : Nat) (x1 : Int32) (x2 : Int32) (m0 : XMem) : Option (Int64 × XMem) :=
  fo (mR m0 a0 0) fun b101 =>
  b2 (f_X8_houseAt b101 x1 m0) fun o103 m102 =>
  oc o103 (
  b2 (f_X9_finding a0 0 m102) fun r106 m105 =>
  some ((Int32.toInt64 r106), m105)) (fun b104 =>
  if x2 = 0 then (
  some ((Int32.toInt64 (mI m102 b104 0)), m102))
  else (
  if x2 = 1 then (
  some ((Int32.toInt64 (mI m102 b104 1)), m102))
  else (
  if x2 = 2 then (
  some ((Int32.toInt64 (mI m102 b104 2)), m102))
  else (
  if x2 = 3 then (
  some ((Int32.toInt64 (mI m102 b104 3)), m102))
  else (
  if x2 = 4 then (
  some ((Int32.toInt64 (mI m102 b104 4)), m102))
  else (
  if x2 = 5 then (
  some ((Int32.toInt64 (mI m102 b104 5)), m102))
  else (
  if x2 = 6 then (
  b2 (f_X1_balance b104 m102) fun l115 m114 =>
  some (l115, m114))
  else (
  if x2 = 7 then (
  nm (if (mL m102 b104 7) < (mL m102 b104 6) then (mL m102 b104 7) else (mL m102 b104 6)) fun l117 =>
  some (l117, m102))
  else (
  if x2 = 8 then (
  nm (if (mL m102 b104 7) < (mL m102 b104 6) then (mL m102 b104 6) else (mL m102 b104 7)) fun l119 =>
  some (l119, m102))
  else (
  if x2 = 9 then (
  some ((Int32.toInt64 (mI m102 b104 8)), m102))
  else (
  b2 (f_X9_finding a0 0 m102) fun r122 m121 =>
  some ((Int32.toInt64 r122), m121))))))))))))
def f_X9_image (a0 : Nat) (m0 : XMem) : Option (Int32 × XMem) :=
  fo (mR m0 a0 1) fun b101 =>
  fo (mR m0 a0 0) fun b102 =>
  b1 (f_X8_take b101 b102 m0) fun m103 =>
  nm (sI m103 a0 2 1) fun m104 =>
  some (1, m104)
def f_X9_init_h93 (a0 : Nat) (k121 :  XMem → Option (XMem)) : Nat → Int32 → XMem → Option (XMem)
  | 0, _, _ => none
  | n + 1, x1, mu =>
  fo (mR mu a0 5) fun b133 =>
  if (nI (mN mu b133)) ≤ x1 then (
  k121  mu)
  else (
  fo (mR mu a0 5) fun b134 =>
  nm (mZ mu) fun b135 =>
  nm (nw mu (.inl 4)) fun m136 =>
  b1 (f_X4_init b135 m136) fun m137 =>
  gd (ib x1 (mN m137 b134)) <|
  nm (sR m137 b134 (Int32.toNatClampNeg x1) (some b135)) fun m139 =>
  nm (x1 + 1) fun x140 =>
  f_X9_init_h93 a0 k121 n x140 m139)
def f_X9_init (a0 : Nat) (m0 : XMem) : Option (XMem) :=
  nm (mZ m0) fun b101 =>
  nm (nw m0 (.inl 8)) fun m102 =>
  b1 (f_X8_init b101 m102) fun m103 =>
  nm (sR m103 a0 0 (some b101)) fun m104 =>
  nm (mZ m104) fun b105 =>
  nm (nw m104 (.inl 8)) fun m106 =>
  b1 (f_X8_init b105 m106) fun m107 =>
  nm (sR m107 a0 1 (some b105)) fun m108 =>
  nm (sI m108 a0 2 0) fun m109 =>
  nm (mZ m109) fun b110 =>
  nm (nw m109 (.inl 5)) fun m111 =>
  b1 (f_X5_init b110 m111) fun m112 =>
  nm (sR m112 a0 3 (some b110)) fun m113 =>
  nm (mZ m113) fun b114 =>
  nm (nw m113 (.inl 3)) fun m115 =>
  b1 (f_X3_init b114 m115) fun m116 =>
  nm (sR m116 a0 4 (some b114)) fun m117 =>
  nm (mZ m117) fun b118 =>
  nm (nw m117 (.inr (6, 4))) fun m119 =>
  nm (sR m119 a0 5 (some b118)) fun m120 =>
  nm (mZ m120) fun b121 =>
  nm (nw m120 (.inr (0, 7))) fun m122 =>
  nm (sR m122 a0 6 (some b121)) fun m123 =>
  nm (mZ m123) fun b124 =>
  nm (nw m123 (.inl 0)) fun m125 =>
  b1 (f_X0_init b124 m125) fun m126 =>
  nm (sR m126 a0 7 (some b124)) fun m127 =>
  nm (mZ m127) fun b128 =>
  nm (nw m127 (.inl 0)) fun m129 =>
  b1 (f_X0_init b128 m129) fun m130 =>
  nm (sR m130 a0 8 (some b128)) fun m131 =>
  f_X9_init_h93 a0 (fun m132 =>
  some m132) 10 0 m131
def f_X9_latest (a0 : Nat) (x1 : Int32) (x2 : Int32) (m0 : XMem) : Option (Int32 × XMem) :=
  fo (mR m0 a0 0) fun b101 =>
  b2 (f_X8_cellAt b101 x1 m0) fun o103 m102 =>
  oc o103 (
  b2 (f_X9_finding a0 0 m102) fun r106 m105 =>
  some (r106, m105)) (fun b104 =>
  if x2 = 0 then (
  some ((mI m102 b104 8), m102))
  else (
  if x2 = 1 then (
  some ((mI m102 b104 9), m102))
  else (
  if x2 = 2 then (
  some ((mI m102 b104 10), m102))
  else (
  if x2 = 3 then (
  some ((mI m102 b104 11), m102))
  else (
  if x2 = 4 then (
  some ((mI m102 b104 12), m102))
  else (
  b2 (f_X9_finding a0 0 m102) fun r113 m112 =>
  some (r113, m112)))))))
def f_X9_law (a0 : Nat) (x1 : Int32) (m0 : XMem) : Option (Int32 × XMem) :=
  b2 (f_X9_within x1 0 999 m0) fun r102 m101 =>
  if r102 = 0 then (
  b2 (f_X9_finding a0 0 m101) fun r123 m122 =>
  some (r123, m122))
  else (
  fo (mR m101 a0 0) fun b103 =>
  if (mI m101 b103 2) < 6 then (
  fo (mR m101 a0 4) fun b104 =>
  fo (mR m101 a0 3) fun b105 =>
  b2 (f_X3_faultOf b104 b105 m101) fun r107 m106 =>
  if r107 = (-1) then (
  fo (mR m106 a0 0) fun b108 =>
  nm (mZ m106) fun b109 =>
  nm (nw m106 (.inl 2)) fun m110 =>
  fo (mR m110 a0 4) fun b111 =>
  b2 (f_X3_text b111 m110) fun o113 m112 =>
  fo o113 fun b114 =>
  b1 (f_X2_init b109 b114 x1 m112) fun m115 =>
  b1 (f_X8_addLaw b108 b109 m115) fun m116 =>
  fo (mR m116 a0 3) fun b117 =>
  nm (sI m116 b117 1 0) fun m118 =>
  fo (mR m118 a0 0) fun b119 =>
  some (((mI m118 b119 2) - 1), m118))
  else (
  some (((-1) - r107), m106)))
  else (
  b2 (f_X9_finding a0 1 m101) fun r121 m120 =>
  some (r121, m120)))
def f_X9_line (a0 : Nat) (x1 : Int32) (x2 : Int32) (m0 : XMem) : Option (Int32 × XMem) :=
  fo (mR m0 a0 0) fun b101 =>
  b2 (f_X8_houseAt b101 x1 m0) fun o103 m102 =>
  oc o103 (
  b2 (f_X9_finding a0 0 m102) fun r106 m105 =>
  some (r106, m105)) (fun b104 =>
  b2 (f_X9_within x2 0 999 m102) fun r108 m107 =>
  if r108 = 0 then (
  b2 (f_X9_finding a0 0 m107) fun r115 m114 =>
  some (r115, m114))
  else (
  nm ((mI m107 b104 11)) fun x109 =>
  if (mI m107 b104 12) = 0 then (
  nm (sI m107 b104 11 x2) fun m110 =>
  some (x109, m110))
  else (
  if x2 = x109 then (
  nm (sI m107 b104 11 x2) fun m111 =>
  some (x109, m111))
  else (
  nm (sI m107 b104 13 ((mI m107 b104 13) + 1)) fun m112 =>
  nm (sI m112 b104 11 x2) fun m113 =>
  some (x109, m113)))))
def f_X9_look (a0 : Nat) (x1 : Int32) (x2 : Int32) (x3 : Int32) (x4 : Int32) (m0 : XMem) : Option (Int32 × XMem) :=
  fo (mR m0 a0 0) fun b101 =>
  b2 (f_X8_cellAt b101 x1 m0) fun o103 m102 =>
  oc o103 (
  b2 (f_X9_finding a0 0 m102) fun r106 m105 =>
  some (r106, m105)) (fun b104 =>
  b2 (f_X9_isLawOrNone a0 x2 m102) fun r108 m107 =>
  if r108 = 0 then (
  b2 (f_X9_finding a0 0 m107) fun r110 m109 =>
  some (r110, m109))
  else (
  b2 (f_X9_isLawOrNone a0 x3 m107) fun r112 m111 =>
  if r112 = 0 then (
  b2 (f_X9_finding a0 0 m111) fun r114 m113 =>
  some (r114, m113))
  else (
  b2 (f_X9_within x4 1 100 m111) fun r116 m115 =>
  if r116 = 0 then (
  b2 (f_X9_finding a0 0 m115) fun r148 m147 =>
  some (r148, m147))
  else (
  fo (mR m115 a0 7) fun b117 =>
  b1 (f_X0_take b117 b104 m115) fun m118 =>
  fo (mR m118 a0 8) fun b119 =>
  b1 (f_X0_take b119 b104 m118) fun m120 =>
  fo (mR m120 a0 0) fun b121 =>
  fo (mR m120 a0 7) fun b122 =>
  b1 (f_X8_foretell b121 b122 x1 x2 x4 m120) fun m123 =>
  fo (mR m123 a0 0) fun b124 =>
  fo (mR m123 a0 8) fun b125 =>
  b1 (f_X8_foretell b124 b125 x1 x3 x4 m123) fun m126 =>
  fo (mR m126 a0 7) fun b127 =>
  b2 (f_X0_thermometer b127 m126) fun r129 m128 =>
  fo (mR m128 a0 8) fun b130 =>
  b2 (f_X0_thermometer b130 m128) fun r132 m131 =>
  b2 (f_X9_apart r129 r132 m131) fun l134 m133 =>
  fo (mR m133 a0 7) fun b135 =>
  fo (mR m133 a0 8) fun b136 =>
  b2 (f_X9_apart (mI m133 b135 12) (mI m133 b136 12) m133) fun l138 m137 =>
  fo (mR m137 a0 7) fun b139 =>
  fo (mR m137 a0 8) fun b140 =>
  b2 (f_X9_apart (mI m137 b139 6) (mI m137 b140 6) m137) fun l142 m141 =>
  nm (if l142 < l138 then l138 else l142) fun l143 =>
  nm (if l143 < l134 then l134 else l143) fun l144 =>
  if (lg_cmp l144 0) = 0 then (
  b2 (f_X9_finding a0 3 m141) fun r146 m145 =>
  some (r146, m145))
  else (
  if (lg_cmp l134 l144) = 0 then (
  some (0, m141))
  else (
  if (lg_cmp l138 l144) = 0 then (
  some (1, m141))
  else (
  some (2, m141))))))))
def f_X9_moved (a0 : Nat) (x1 : Int32) (m0 : XMem) : Option (Int32 × XMem) :=
  fo (mR m0 a0 0) fun b101 =>
  b2 (f_X8_houseAt b101 x1 m0) fun o103 m102 =>
  oc o103 (
  b2 (f_X9_finding a0 0 m102) fun r106 m105 =>
  some (r106, m105)) (fun b104 =>
  some ((mI m102 b104 13), m102))
def f_X9_must (a0 : Nat) (x1 : Int32) (x2 : Int32) (m0 : XMem) : Option (Int32 × XMem) :=
  fo (mR m0 a0 0) fun b101 =>
  b2 (f_X8_cellAt b101 x1 m0) fun o103 m102 =>
  oc o103 (
  b2 (f_X9_finding a0 0 m102) fun r106 m105 =>
  some (r106, m105)) (fun b104 =>
  fo (mR m102 a0 0) fun b107 =>
  b2 (f_X8_lawAt b107 x2 m102) fun o109 m108 =>
  oc o109 (
  b2 (f_X9_finding a0 0 m108) fun r112 m111 =>
  some (r112, m111)) (fun b110 =>
  b2 (f_X9_mustOf a0 b104 x1 x2 m108) fun r114 m113 =>
  some (r114, m113)))
def f_X9_need_h65 (a0 : Nat) (x2 : Int32) (x3 : Int32) (a4 : Nat) (x5 : Int32) (k86 :  XMem → Option (Int32 × XMem)) : Nat → Int32 → XMem → Option (Int32 × XMem)
  | 0, _, _ => none
  | n + 1, x6, mu =>
  if x3 ≤ x6 then (
  k86  mu)
  else (
  fo (mR mu a0 7) fun b125 =>
  b1 (f_X0_passHour b125 x5 mu) fun m126 =>
  nm (x6 + 1) fun x127 =>
  f_X9_need_h65 a0 x2 x3 a4 x5 k86 n x127 m126)
def f_X9_need_h45 (a0 : Nat) (x2 : Int32) (x3 : Int32) (a4 : Nat) (k97 : Int32 →  XMem → Option (Int32 × XMem)) (k106 :  XMem → Option (Int32 × XMem)) : Nat → Int32 → XMem → Option (Int32 × XMem)
  | 0, _, _ => none
  | n + 1, x5, mu =>
  if 300 < x5 then (
  k106  mu)
  else (
  fo (mR mu a0 7) fun b120 =>
  b1 (f_X0_take b120 a4 mu) fun m121 =>
  f_X9_need_h65 a0 x2 x3 a4 x5 (fun m122 =>
  fo (mR m122 a0 7) fun b123 =>
  if (mI m122 b123 6) < x2 then (
  nm (x5 + 1) fun x124 =>
  f_X9_need_h45 a0 x2 x3 a4 k97 k106 n x124 m122)
  else (
  k97 x5 m122)) 2000 0 m121)
def f_X9_need (a0 : Nat) (x1 : Int32) (x2 : Int32) (x3 : Int32) (m0 : XMem) : Option (Int32 × XMem) :=
  fo (mR m0 a0 0) fun b101 =>
  b2 (f_X8_cellAt b101 x1 m0) fun o103 m102 =>
  oc o103 (
  b2 (f_X9_finding a0 0 m102) fun r106 m105 =>
  some (r106, m105)) (fun b104 =>
  b2 (f_X9_within x2 0 999999 m102) fun r108 m107 =>
  if r108 = 0 then (
  b2 (f_X9_finding a0 0 m107) fun r110 m109 =>
  some (r110, m109))
  else (
  b2 (f_X9_within x3 1 20 m107) fun r112 m111 =>
  if r112 = 0 then (
  b2 (f_X9_finding a0 0 m111) fun r119 m118 =>
  some (r119, m118))
  else (
  f_X9_need_h45 a0 x2 x3 b104 (fun x114 m113 =>
  some (x114, m113)) (fun m115 =>
  b2 (f_X9_finding a0 3 m115) fun r117 m116 =>
  some (r117, m116)) 2000 0 m111)))
def f_X9_night_h49 (a0 : Nat) (x1 : Int32) (x2 : Int32) (k68 : Int32 →  XMem → Option (Int32 × XMem)) (k106 :  XMem → Option (Int32 × XMem)) : Nat → Int32 → XMem → Option (Int32 × XMem)
  | 0, _, _ => none
  | n + 1, x4, mu =>
  if 200 < x4 then (
  k106  mu)
  else (
  fo (mR mu a0 7) fun b120 =>
  b2 (f_X0_thermometer b120 mu) fun r122 m121 =>
  if x2 < r122 then (
  fo (mR m121 a0 0) fun b123 =>
  fo (mR m121 a0 7) fun b124 =>
  fo (mR m121 a0 0) fun b125 =>
  fo (mR m121 a0 0) fun b126 =>
  b1 (f_X8_warm b123 b124 x1 (mI m121 b125 4) ((mI m121 b126 0) + x4) m121) fun m127 =>
  nm (x4 + 1) fun x128 =>
  f_X9_night_h49 a0 x1 x2 k68 k106 n x128 m127)
  else (
  k68 x4 m121))
def f_X9_night (a0 : Nat) (x1 : Int32) (x2 : Int32) (m0 : XMem) : Option (Int32 × XMem) :=
  fo (mR m0 a0 0) fun b101 =>
  b2 (f_X8_cellAt b101 x1 m0) fun o103 m102 =>
  oc o103 (
  b2 (f_X9_finding a0 0 m102) fun r106 m105 =>
  some (r106, m105)) (fun b104 =>
  b2 (f_X9_within x2 0 999999 m102) fun r108 m107 =>
  if r108 = 0 then (
  b2 (f_X9_finding a0 0 m107) fun r119 m118 =>
  some (r119, m118))
  else (
  fo (mR m107 a0 7) fun b109 =>
  b1 (f_X0_take b109 b104 m107) fun m110 =>
  fo (mR m110 a0 7) fun b111 =>
  nm (sI m110 b111 1 0) fun m112 =>
  f_X9_night_h49 a0 x1 x2 (fun x114 m113 =>
  some (x114, m113)) (fun m115 =>
  b2 (f_X9_finding a0 3 m115) fun r117 m116 =>
  some (r117, m116)) 2000 0 m112))
def f_X9_of (a0 : Nat) (x1 : Int32) (x2 : Int32) (m0 : XMem) : Option (Int32 × XMem) :=
  fo (mR m0 a0 0) fun b101 =>
  b2 (f_X8_cellAt b101 x1 m0) fun o103 m102 =>
  oc o103 (
  b2 (f_X9_finding a0 0 m102) fun r106 m105 =>
  some (r106, m105)) (fun b104 =>
  if x2 = 0 then (
  some ((mI m102 b104 0), m102))
  else (
  if x2 = 1 then (
  some ((mI m102 b104 1), m102))
  else (
  if x2 = 2 then (
  some ((mI m102 b104 2), m102))
  else (
  if x2 = 3 then (
  some ((mI m102 b104 3), m102))
  else (
  if x2 = 4 then (
  some ((mI m102 b104 4), m102))
  else (
  if x2 = 5 then (
  some ((mI m102 b104 5), m102))
  else (
  if x2 = 6 then (
  some ((mI m102 b104 6), m102))
  else (
  if x2 = 7 then (
  some ((mI m102 b104 7), m102))
  else (
  if x2 = 8 then (
  b2 (f_X0_warmth b104 m102) fun r117 m116 =>
  some (r117, m116))
  else (
  if x2 = 9 then (
  b2 (f_X0_thermometer b104 m102) fun r120 m119 =>
  some (r120, m119))
  else (
  b2 (f_X9_finding a0 0 m102) fun r122 m121 =>
  some (r122, m121))))))))))))
def f_X9_order_h12 (a0 : Nat) (x1 : Int32) (k35 : Int32 →  XMem → Option (Int32 × XMem)) (k43 :  XMem → Option (Int32 × XMem)) : Nat → Int32 → XMem → Option (Int32 × XMem)
  | 0, _, _ => none
  | n + 1, x2, mu =>
  fo (mR mu a0 0) fun b108 =>
  if (mI mu b108 3) ≤ x2 then (
  k43  mu)
  else (
  fo (mR mu a0 0) fun b109 =>
  b2 (f_X8_placeInOrder b109 x2 mu) fun r111 m110 =>
  if r111 = x1 then (
  k35 x2 m110)
  else (
  nm (x2 + 1) fun x112 =>
  f_X9_order_h12 a0 x1 k35 k43 n x112 m110))
def f_X9_order (a0 : Nat) (x1 : Int32) (m0 : XMem) : Option (Int32 × XMem) :=
  if 0 ≤ x1 then (
  f_X9_order_h12 a0 x1 (fun x102 m101 =>
  some (x102, m101)) (fun m103 =>
  b2 (f_X9_finding a0 3 m103) fun r105 m104 =>
  some (r105, m104)) 2000 0 m0)
  else (
  b2 (f_X9_finding a0 0 m0) fun r107 m106 =>
  some (r107, m106))
def f_X9_parted_h70 (a0 : Nat) (x1 : Int32) (x2 : Int32) (x3 : Int32) (x4 : Int32) (k150 : Int32 →  XMem → Option (Int32 × XMem)) (k159 :  XMem → Option (Int32 × XMem)) : Nat → Int32 → XMem → Option (Int32 × XMem)
  | 0, _, _ => none
  | n + 1, x6, mu =>
  if 50 < x6 then (
  k159  mu)
  else (
  fo (mR mu a0 0) fun b128 =>
  fo (mR mu a0 7) fun b129 =>
  fo (mR mu a0 0) fun b130 =>
  b1 (f_X8_warm b128 b129 x1 x2 (((mI mu b130 0) + x6) - 1) mu) fun m131 =>
  fo (mR m131 a0 0) fun b132 =>
  fo (mR m131 a0 8) fun b133 =>
  fo (mR m131 a0 0) fun b134 =>
  b1 (f_X8_warm b132 b133 x1 x3 (((mI m131 b134 0) + x6) - 1) m131) fun m135 =>
  fo (mR m135 a0 7) fun b136 =>
  b2 (f_X0_thermometer b136 m135) fun r138 m137 =>
  fo (mR m137 a0 8) fun b139 =>
  b2 (f_X0_thermometer b139 m137) fun r141 m140 =>
  nm (if 0 ≤ (r138 - r141) then (r138 - r141) else 0 - (r138 - r141)) fun x142 =>
  if x142 < x4 then (
  nm (x6 + 1) fun x143 =>
  f_X9_parted_h70 a0 x1 x2 x3 x4 k150 k159 n x143 m140)
  else (
  k150 x6 m140))
def f_X9_parted (a0 : Nat) (x1 : Int32) (x2 : Int32) (x3 : Int32) (x4 : Int32) (m0 : XMem) : Option (Int32 × XMem) :=
  fo (mR m0 a0 0) fun b101 =>
  b2 (f_X8_cellAt b101 x1 m0) fun o103 m102 =>
  oc o103 (
  b2 (f_X9_finding a0 0 m102) fun r106 m105 =>
  some (r106, m105)) (fun b104 =>
  b2 (f_X9_isLawOrNone a0 x2 m102) fun r108 m107 =>
  if r108 = 0 then (
  b2 (f_X9_finding a0 0 m107) fun r110 m109 =>
  some (r110, m109))
  else (
  b2 (f_X9_isLawOrNone a0 x3 m107) fun r112 m111 =>
  if r112 = 0 then (
  b2 (f_X9_finding a0 0 m111) fun r114 m113 =>
  some (r114, m113))
  else (
  b2 (f_X9_within x4 1 9999 m111) fun r116 m115 =>
  if r116 = 0 then (
  b2 (f_X9_finding a0 0 m115) fun r127 m126 =>
  some (r127, m126))
  else (
  fo (mR m115 a0 7) fun b117 =>
  b1 (f_X0_take b117 b104 m115) fun m118 =>
  fo (mR m118 a0 8) fun b119 =>
  b1 (f_X0_take b119 b104 m118) fun m120 =>
  f_X9_parted_h70 a0 x1 x2 x3 x4 (fun x122 m121 =>
  some (x122, m121)) (fun m123 =>
  b2 (f_X9_finding a0 3 m123) fun r125 m124 =>
  some (r125, m124)) 2000 1 m120))))
def f_X9_power (a0 : Nat) (x1 : Int32) (x2 : Int32) (m0 : XMem) : Option (Int32 × XMem) :=
  fo (mR m0 a0 0) fun b101 =>
  b2 (f_X8_cellAt b101 x1 m0) fun o103 m102 =>
  oc o103 (
  b2 (f_X9_finding a0 0 m102) fun r106 m105 =>
  some (r106, m105)) (fun b104 =>
  b2 (f_X9_within x2 0 9999 m102) fun r108 m107 =>
  if r108 = 0 then (
  b2 (f_X9_finding a0 0 m107) fun r112 m111 =>
  some (r112, m111))
  else (
  nm ((mI m107 b104 1)) fun x109 =>
  nm (sI m107 b104 1 x2) fun m110 =>
  some (x109, m110)))
def f_X9_read_h62 (a0 : Nat) (x2 : Int32) (a3 : Nat) (k118 : Int32 →  XMem → Option (Int32 × XMem)) (k129 :  XMem → Option (Int32 × XMem)) : Nat → Int32 → XMem → Option (Int32 × XMem)
  | 0, _, _ => none
  | n + 1, x5, mu =>
  if (mI mu a3 1) ≤ x5 then (
  k129  mu)
  else (
  fo (mR mu a0 0) fun b119 =>
  fo (mR mu a0 7) fun b120 =>
  fo (mR mu a0 0) fun b121 =>
  fo (mR mu a0 0) fun b122 =>
  b1 (f_X8_warm b119 b120 x2 (mI mu b121 4) ((mI mu b122 0) + x5) mu) fun m123 =>
  b2 (f_X4_numberAt a3 x5 m123) fun l125 m124 =>
  fo (mR m124 a0 7) fun b126 =>
  b2 (f_X0_thermometer b126 m124) fun r128 m127 =>
  if (lg_cmp l125 (Int32.toInt64 r128)) = 0 then (
  nm (x5 + 1) fun x129 =>
  f_X9_read_h62 a0 x2 a3 k118 k129 n x129 m127)
  else (
  k118 x5 m127))
def f_X9_read (a0 : Nat) (x1 : Int32) (x2 : Int32) (m0 : XMem) : Option (Int32 × XMem) :=
  b2 (f_X9_sheetAt a0 x1 m0) fun o102 m101 =>
  oc o102 (
  b2 (f_X9_finding a0 0 m101) fun r105 m104 =>
  some (r105, m104)) (fun b103 =>
  if (mI m101 b103 0) = 0 then (
  b2 (f_X9_finding a0 5 m101) fun r118 m117 =>
  some (r118, m117))
  else (
  fo (mR m101 a0 0) fun b106 =>
  b2 (f_X8_cellAt b106 x2 m101) fun o108 m107 =>
  oc o108 (
  b2 (f_X9_finding a0 0 m107) fun r111 m110 =>
  some (r111, m110)) (fun b109 =>
  fo (mR m107 a0 7) fun b112 =>
  b1 (f_X0_take b112 b109 m107) fun m113 =>
  f_X9_read_h62 a0 x2 b103 (fun x115 m114 =>
  some ((x115 + 1), m114)) (fun m116 =>
  some (0, m116)) 2000 0 m113)))
def f_X9_saying_h19 (a0 : Nat) (x1 : Int32) (k66 : Int32 →  XMem → Option (Int32 × XMem)) : Nat → Int32 → Int32 → XMem → Option (Int32 × XMem)
  | 0, _, _, _ => none
  | n + 1, x2, x3, mu =>
  fo (mR mu a0 0) fun b107 =>
  if (mI mu b107 3) ≤ x3 then (
  k66 x2 mu)
  else (
  fo (mR mu a0 0) fun b108 =>
  b2 (f_X8_houseAt b108 x3 mu) fun o110 m109 =>
  oc o110 (
  nm (x3 + 1) fun x112 =>
  f_X9_saying_h19 a0 x1 k66 n x2 x112 m109) (fun b111 =>
  if (mI m109 b111 8) = x1 then (
  nm ((x2 ||| (1 <<< (x3 &&& 31)))) fun x114 =>
  nm (x3 + 1) fun x115 =>
  f_X9_saying_h19 a0 x1 k66 n x114 x115 m109)
  else (
  nm (x3 + 1) fun x113 =>
  f_X9_saying_h19 a0 x1 k66 n x2 x113 m109)))
def f_X9_saying (a0 : Nat) (x1 : Int32) (m0 : XMem) : Option (Int32 × XMem) :=
  b2 (f_X9_within x1 0 2 m0) fun r102 m101 =>
  if r102 = 0 then (
  b2 (f_X9_finding a0 0 m101) fun r106 m105 =>
  some (r106, m105))
  else (
  f_X9_saying_h19 a0 x1 (fun x104 m103 =>
  some (x104, m103)) 2000 0 0 m101)
def f_X9_says (a0 : Nat) (x1 : Int32) (x2 : Int32) (m0 : XMem) : Option (Int32 × XMem) :=
  fo (mR m0 a0 0) fun b101 =>
  b2 (f_X8_cellAt b101 x2 m0) fun o103 m102 =>
  oc o103 (
  b2 (f_X9_finding a0 0 m102) fun r106 m105 =>
  some (r106, m105)) (fun b104 =>
  b2 (f_X9_within x1 0 1 m102) fun r108 m107 =>
  if r108 = 0 then (
  b2 (f_X9_finding a0 0 m107) fun r118 m117 =>
  some (r118, m117))
  else (
  if x1 = 0 then (
  fo (mR m107 a0 0) fun b113 =>
  fo (mR m107 a0 0) fun b114 =>
  b2 (f_X8_floorOf b113 b104 x2 (mI m107 b114 0) m107) fun r116 m115 =>
  some (r116, m115))
  else (
  fo (mR m107 a0 0) fun b109 =>
  fo (mR m107 a0 0) fun b110 =>
  b2 (f_X8_choiceOf b109 b104 x2 (mI m107 b110 0) m107) fun r112 m111 =>
  some (r112, m111))))
def f_X9_shared (a0 : Nat) (x1 : Int32) (x2 : Int32) (m0 : XMem) : Option (Int32 × XMem) :=
  b2 (f_X9_within x1 0 999999 m0) fun r102 m101 =>
  if r102 = 0 then (
  b2 (f_X9_finding a0 0 m101) fun r104 m103 =>
  some (r104, m103))
  else (
  fo (mR m101 a0 0) fun b105 =>
  b2 (f_X8_houseAt b105 x2 m101) fun o107 m106 =>
  oc o107 (
  b2 (f_X9_finding a0 0 m106) fun r110 m109 =>
  some (r110, m109)) (fun b108 =>
  fo (mR m106 a0 0) fun b111 =>
  b2 (f_X8_allShares b111 m106) fun l113 m112 =>
  if 0 < (lg_cmp l113 0) then (
  fo (mR m112 a0 0) fun b114 =>
  b2 (f_X8_coinsOf b114 x2 x1 l113 m112) fun r116 m115 =>
  some (r116, m115))
  else (
  b2 (f_X9_finding a0 3 m112) fun r118 m117 =>
  some (r118, m117))))
def f_X9_sheet_j40 (a0 : Nat) (x2 : Int32) (x3 : Int32) (a4 : Nat) (mu : XMem) : Option (Int32 × XMem) :=
  if 0 ≤ x3 then (
  if x3 ≤ 40 then (
  if x2 = 0 then (
  b1 (f_X4_begin a4 x2 0 mu) fun m109 =>
  some ((mI m109 a4 1), m109))
  else (
  b1 (f_X4_begin a4 x2 x3 mu) fun m108 =>
  some ((mI m108 a4 1), m108)))
  else (
  b2 (f_X9_finding a0 0 mu) fun r111 m110 =>
  some (r111, m110)))
  else (
  b2 (f_X9_finding a0 6 mu) fun r113 m112 =>
  some (r113, m112))
def f_X9_sheet (a0 : Nat) (x1 : Int32) (x2 : Int32) (x3 : Int32) (m0 : XMem) : Option (Int32 × XMem) :=
  b2 (f_X9_sheetAt a0 x1 m0) fun o102 m101 =>
  oc o102 (
  b2 (f_X9_finding a0 0 m101) fun r105 m104 =>
  some (r105, m104)) (fun b103 =>
  if x2 = 0 then (
  f_X9_sheet_j40 a0 x2 x3 b103 m101)
  else (
  if x2 = 8 then (
  f_X9_sheet_j40 a0 x2 x3 b103 m101)
  else (
  if x2 = 16 then (
  f_X9_sheet_j40 a0 x2 x3 b103 m101)
  else (
  if x2 = 64 then (
  f_X9_sheet_j40 a0 x2 x3 b103 m101)
  else (
  b2 (f_X9_finding a0 0 m101) fun r107 m106 =>
  some (r107, m106))))))
def f_X9_show (a0 : Nat) (x1 : Int32) (m0 : XMem) : Option (Int32 × XMem) :=
  fo (mR m0 a0 0) fun b101 =>
  b2 (f_X8_houseAt b101 x1 m0) fun o103 m102 =>
  oc o103 (
  b2 (f_X9_finding a0 0 m102) fun r106 m105 =>
  some (r106, m105)) (fun b104 =>
  nm (sI m102 b104 12 1) fun m107 =>
  some ((mI m107 b104 11), m107))
def f_X9_since (a0 : Nat) (x1 : Int32) (x2 : Int32) (m0 : XMem) : Option (Int32 × XMem) :=
  fo (mR m0 a0 0) fun b101 =>
  b2 (f_X8_houseAt b101 x1 m0) fun o103 m102 =>
  oc o103 (
  b2 (f_X9_finding a0 0 m102) fun r106 m105 =>
  some (r106, m105)) (fun b104 =>
  b2 (f_X9_within x2 0 1 m102) fun r108 m107 =>
  if r108 = 0 then (
  b2 (f_X9_finding a0 0 m107) fun r114 m113 =>
  some (r114, m113))
  else (
  if x2 = 0 then (
  if (mI m107 b104 8) = 0 then (
  b2 (f_X9_finding a0 3 m107) fun r112 m111 =>
  some (r112, m111))
  else (
  some ((mI m107 b104 9), m107)))
  else (
  if (mI m107 b104 8) = 2 then (
  some ((mI m107 b104 10), m107))
  else (
  b2 (f_X9_finding a0 3 m107) fun r110 m109 =>
  some (r110, m109)))))
def f_X9_status_h20 (a0 : Nat) (x1 : Int32) (k54 : Int32 →  XMem → Option (Int32 × XMem)) : Nat → Int32 → Int32 → XMem → Option (Int32 × XMem)
  | 0, _, _, _ => none
  | n + 1, x2, x3, mu =>
  fo (mR mu a0 6) fun b107 =>
  if (nI (mN mu b107)) ≤ x3 then (
  k54 x2 mu)
  else (
  if x1 = (-1) then (
  fo (mR mu a0 6) fun b108 =>
  gd (ib x3 (mN mu b108)) <|
  nm ((x2 + (mI mu b108 (Int32.toNatClampNeg x3)))) fun x110 =>
  nm (x3 + 1) fun x111 =>
  f_X9_status_h20 a0 x1 k54 n x110 x111 mu)
  else (
  if x1 = x3 then (
  fo (mR mu a0 6) fun b113 =>
  gd (ib x3 (mN mu b113)) <|
  nm ((x2 + (mI mu b113 (Int32.toNatClampNeg x3)))) fun x115 =>
  nm (x3 + 1) fun x116 =>
  f_X9_status_h20 a0 x1 k54 n x115 x116 mu)
  else (
  nm (x3 + 1) fun x112 =>
  f_X9_status_h20 a0 x1 k54 n x2 x112 mu)))
def f_X9_status (a0 : Nat) (x1 : Int32) (m0 : XMem) : Option (Int32 × XMem) :=
  b2 (f_X9_within x1 (-1) 6 m0) fun r102 m101 =>
  if r102 = 0 then (
  b2 (f_X9_finding a0 0 m101) fun r106 m105 =>
  some (r106, m105))
  else (
  f_X9_status_h20 a0 x1 (fun x104 m103 =>
  some (x104, m103)) 2000 0 0 m101)
def f_X9_tear (a0 : Nat) (m0 : XMem) : Option (Int32 × XMem) :=
  if (mI m0 a0 2) = 0 then (
  nm (sI m0 a0 2 0) fun m101 =>
  some (0, m101))
  else (
  nm (sI m0 a0 2 0) fun m102 =>
  some (1, m102))
def f_X9_tells (a0 : Nat) (x1 : Int32) (x2 : Int32) (m0 : XMem) : Option (Int32 × XMem) :=
  fo (mR m0 a0 0) fun b101 =>
  b2 (f_X8_lawAt b101 x1 m0) fun o103 m102 =>
  fo (mR m102 a0 0) fun b104 =>
  b2 (f_X8_cellAt b104 x2 m102) fun o106 m105 =>
  oc o103 (
  b2 (f_X9_finding a0 0 m105) fun r109 m108 =>
  some (r109, m108)) (fun b107 =>
  oc o106 (
  b2 (f_X9_finding a0 0 m105) fun r112 m111 =>
  some (r112, m111)) (fun b110 =>
  fo (mR m105 a0 0) fun b113 =>
  fo (mR m105 a0 0) fun b114 =>
  b2 (f_X8_toldBy b113 b107 b110 x2 (mI m105 b114 0) m105) fun r116 m115 =>
  some (r116, m115)))
def f_X9_told (a0 : Nat) (x1 : Int32) (m0 : XMem) : Option (Int32 × XMem) :=
  b2 (f_X9_within x1 0 1 m0) fun r102 m101 =>
  if r102 = 0 then (
  b2 (f_X9_finding a0 0 m101) fun r122 m121 =>
  some (r122, m121))
  else (
  fo (mR m101 a0 4) fun b103 =>
  fo (mR m101 a0 3) fun b104 =>
  b2 (f_X3_faultOf b103 b104 m101) fun r106 m105 =>
  if r106 = (-1) then (
  if x1 = 0 then (
  fo (mR m105 a0 0) fun b114 =>
  fo (mR m105 a0 4) fun b115 =>
  b2 (f_X3_text b115 m105) fun o117 m116 =>
  nm (sR m116 b114 5 o117) fun m118 =>
  fo (mR m118 a0 3) fun b119 =>
  nm (sI m118 b119 1 0) fun m120 =>
  some (0, m120))
  else (
  fo (mR m105 a0 0) fun b107 =>
  fo (mR m105 a0 4) fun b108 =>
  b2 (f_X3_text b108 m105) fun o110 m109 =>
  nm (sR m109 b107 6 o110) fun m111 =>
  fo (mR m111 a0 3) fun b112 =>
  nm (sI m111 b112 1 0) fun m113 =>
  some (0, m113)))
  else (
  some (((-1) - r106), m105)))
def f_X9_top (a0 : Nat) (x1 : Int32) (x2 : Int32) (m0 : XMem) : Option (Int32 × XMem) :=
  fo (mR m0 a0 0) fun b101 =>
  b2 (f_X8_cellAt b101 x1 m0) fun o103 m102 =>
  oc o103 (
  b2 (f_X9_finding a0 0 m102) fun r106 m105 =>
  some (r106, m105)) (fun b104 =>
  b2 (f_X9_within x2 1 9999 m102) fun r108 m107 =>
  if r108 = 0 then (
  b2 (f_X9_finding a0 0 m107) fun r112 m111 =>
  some (r112, m111))
  else (
  nm (if ((mI m107 b104 5) + x2) < 9999 then ((mI m107 b104 5) + x2) else 9999) fun x109 =>
  nm (sI m107 b104 5 x109) fun m110 =>
  some ((mI m110 b104 5), m110)))
def f_X9_undo (a0 : Nat) (m0 : XMem) : Option (Int32 × XMem) :=
  if (mI m0 a0 2) = 0 then (
  b2 (f_X9_finding a0 3 m0) fun r106 m105 =>
  some (r106, m105))
  else (
  fo (mR m0 a0 0) fun b101 =>
  fo (mR m0 a0 1) fun b102 =>
  b1 (f_X8_take b101 b102 m0) fun m103 =>
  fo (mR m103 a0 0) fun b104 =>
  some ((mI m103 b104 0), m103))
def f_X9_weeks_h56 (a0 : Nat) (a3 : Nat) (a4 : Nat) (k126 : Int32 →  XMem → Option (Int32 × XMem)) : Nat → Int32 → Int32 → XMem → Option (Int32 × XMem)
  | 0, _, _, _ => none
  | n + 1, x5, x6, mu =>
  if (mI mu a3 1) ≤ x6 then (
  k126 x5 mu)
  else (
  fo (mR mu a0 0) fun b116 =>
  if 2000 ≤ (mI mu b116 0) then (
  k126 x5 mu)
  else (
  b2 (f_X4_numberAt a3 x6 mu) fun l118 m117 =>
  if (lg_cmp l118 0) < 0 then (
  nm (x6 + 1) fun x119 =>
  f_X9_weeks_h56 a0 a3 a4 k126 n x5 x119 m117)
  else (
  if 0 < (lg_cmp l118 9999) then (
  nm (x6 + 1) fun x120 =>
  f_X9_weeks_h56 a0 a3 a4 k126 n x5 x120 m117)
  else (
  nm (sI m117 a4 1 (Int64.toInt32 l118)) fun m121 =>
  fo (mR m121 a0 0) fun b122 =>
  b1 (f_X8_passHour b122 m121) fun m123 =>
  nm (x5 + 1) fun x124 =>
  nm (x6 + 1) fun x125 =>
  f_X9_weeks_h56 a0 a3 a4 k126 n x124 x125 m123))))
def f_X9_weeks (a0 : Nat) (x1 : Int32) (x2 : Int32) (m0 : XMem) : Option (Int32 × XMem) :=
  b2 (f_X9_sheetAt a0 x1 m0) fun o102 m101 =>
  oc o102 (
  b2 (f_X9_finding a0 0 m101) fun r105 m104 =>
  some (r105, m104)) (fun b103 =>
  if (mI m101 b103 0) = 0 then (
  b2 (f_X9_finding a0 5 m101) fun r115 m114 =>
  some (r115, m114))
  else (
  fo (mR m101 a0 0) fun b106 =>
  b2 (f_X8_cellAt b106 x2 m101) fun o108 m107 =>
  oc o108 (
  b2 (f_X9_finding a0 0 m107) fun r111 m110 =>
  some (r111, m110)) (fun b109 =>
  f_X9_weeks_h56 a0 b103 b109 (fun x113 m112 =>
  some (x113, m112)) 2000 0 0 m107)))
def f_X9_wipe (a0 : Nat) (m0 : XMem) : Option (Int32 × XMem) :=
  fo (mR m0 a0 3) fun b101 =>
  nm ((mI m0 b101 1)) fun x102 =>
  fo (mR m0 a0 3) fun b103 =>
  nm (sI m0 b103 1 0) fun m104 =>
  some (x102, m104)
def f_X9_write (a0 : Nat) (x1 : Int32) (x2 : Int32) (l3 : Int64) (m0 : XMem) : Option (Int64 × XMem) :=
  b2 (f_X9_sheetAt a0 x1 m0) fun o102 m101 =>
  oc o102 (
  b2 (f_X9_finding a0 0 m101) fun r105 m104 =>
  some ((Int32.toInt64 r105), m104)) (fun b103 =>
  if (mI m101 b103 0) = 0 then (
  b2 (f_X9_finding a0 5 m101) fun r114 m113 =>
  some ((Int32.toInt64 r114), m113))
  else (
  b2 (f_X9_within x2 0 ((mI m101 b103 1) - 1) m101) fun r107 m106 =>
  if r107 = 0 then (
  b2 (f_X9_finding a0 0 m106) fun r112 m111 =>
  some ((Int32.toInt64 r112), m111))
  else (
  b2 (f_X4_numberAt b103 x2 m106) fun l109 m108 =>
  b1 (f_X4_put b103 x2 l3 m108) fun m110 =>
  some (l109, m110))))

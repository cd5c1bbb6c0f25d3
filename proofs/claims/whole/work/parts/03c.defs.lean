abbrev zgd (c : Bool) (F : Option (Int32 × zM)) : Option (Int32 × zM) := if c = true then F else none
abbrev zdv (y : Int32) (F : Option (Int32 × zM)) : Option (Int32 × zM) := if y = 0 then none else F
def zfuel : Nat := 1000
/-- a switch: the arms' texts, in order from lo -/
def zsw (x : Int32) (lo : Int) (Fs : List (Option (Int32 × zM))) (Fd : Option (Int32 × zM)) : Option (Int32 × zM) :=
  if x.toInt < lo then Fd else (Fs[(x.toInt - lo).toNat]?).getD Fd
/-! ===== printed: what each method does to the memory ===== -/
def f_X0_begin (P : zSt) (a0 : Nat) (i1 : Int32) (i2 : Int32) (i3 : Int32) (m : zM) : Option (Int32 × zM) :=
  zl (zfp m 3 a0 i1) fun m2 =>
  zl (zfp m2 4 a0 i2) fun m7 =>
  zl (zfp m7 0 a0 i3) fun m12 =>
  zl (zfp m12 1 a0 (0 : Int32)) fun m17 =>
  zl (zfp m17 5 a0 (255 : Int32)) fun m24 =>
  zl (zfp m24 6 a0 (0 : Int32)) fun m29 =>
  zl (zfp m29 7 a0 (0 : Int32)) fun m34 =>
  zl (zfp m34 8 a0 (0 : Int32)) fun m39 =>
  zl (zfp m39 9 a0 (0 : Int32)) fun m44 =>
  zl (zfp m44 10 a0 (0 : Int32)) fun m49 =>
  zl (zfp m49 11 a0 (0 : Int32)) fun m54 =>
  zl (zfp m54 12 a0 (0 : Int32)) fun m59 =>
  some (0, m59)
def f_X0_copyFrom (P : zSt) (a0 : Nat) (a1 : Nat) (m : zM) : Option (Int32 × zM) :=
  zl (zfp m 3 a0 (zf m 3 a1)) fun m5 =>
  zl (zfp m5 4 a0 (zf m5 4 a1)) fun m13 =>
  zl (zfp m13 0 a0 (zf m13 0 a1)) fun m21 =>
  zl (zfp m21 1 a0 (zf m21 1 a1)) fun m29 =>
  zl (zfp m29 5 a0 (zf m29 5 a1)) fun m37 =>
  zl (zfp m37 6 a0 (zf m37 6 a1)) fun m45 =>
  zl (zfp m45 7 a0 (zf m45 7 a1)) fun m53 =>
  zl (zfp m53 8 a0 (zf m53 8 a1)) fun m61 =>
  zl (zfp m61 9 a0 (zf m61 9 a1)) fun m69 =>
  zl (zfp m69 10 a0 (zf m69 10 a1)) fun m77 =>
  zl (zfp m77 11 a0 (zf m77 11 a1)) fun m85 =>
  zl (zfp m85 12 a0 (zf m85 12 a1)) fun m93 =>
  some (0, m93)
def f_X0_isMemberOf_b19 (P : zSt)   (m : zM) : Option (Int32 × zM) :=
  zgd (zbo (0 : Int32)) (some ((0 : Int32), m))
def f_X0_isMemberOf (P : zSt) (a0 : Nat) (i1 : Int32) (m : zM) : Option (Int32 × zM) :=
  (if (zf m 3 a0) = i1 then
    (if (zf m 0 a0) ≤ 0 then
      f_X0_isMemberOf_b19 P m
    else
      zgd (zbo (1 : Int32)) (some ((1 : Int32), m)))
  else
    f_X0_isMemberOf_b19 P m)
def f_X0_isAvailableIn_b26 (P : zSt)   (m : zM) : Option (Int32 × zM) :=
  zgd (zbo (0 : Int32)) (some ((0 : Int32), m))
def f_X0_isAvailableIn (P : zSt) (a0 : Nat) (i1 : Int32) (m : zM) : Option (Int32 × zM) :=
  (if (zf m 3 a0) = i1 then
    (if (zf m 0 a0) ≤ 0 then
      f_X0_isAvailableIn_b26 P m
    else
      (if (zf m 10 a0) = 0 then
        zgd (zbo (1 : Int32)) (some ((1 : Int32), m))
      else
        f_X0_isAvailableIn_b26 P m))
  else
    f_X0_isAvailableIn_b26 P m)
def f_X0_isLessUsedThan (P : zSt) (a0 : Nat) (a1 : Nat) (m : zM) : Option (Int32 × zM) :=
  (if ((zf m 6 a1) * (zf m 0 a0)) ≤ ((zf m 6 a0) * (zf m 0 a1)) then
    zgd (zbo (0 : Int32)) (some ((0 : Int32), m))
  else
    zgd (zbo (1 : Int32)) (some ((1 : Int32), m)))
def f_X10_succeeds (P : zSt) (i0 : Int32) (i1 : Int32) (m : zM) : Option (Int32 × zM) :=
  (if ((i0 >>> ((i1 &&& (7 : Int32)) &&& 31)) &&& (1 : Int32)) = (1 : Int32) then
    zgd (zbo (1 : Int32)) (some ((1 : Int32), m))
  else
    zgd (zbo (0 : Int32)) (some ((0 : Int32), m)))
def f_X0_attempt_b59 (P : zSt)  (x1 : Int32) (m : zM) : Option (Int32 × zM) :=
  zgd (zbo x1) (some (x1, m))
def f_X0_attempt (P : zSt) (a0 : Nat) (m : zM) : Option (Int32 × zM) :=
  zb (f_X10_succeeds P (zf m 5 a0) (zf m 6 a0) m) fun r8 m8 =>
  zgd (zbo (1 : Int32)) <| zl (zfp m8 13 a0 (1 : Int32)) fun m14 =>
  zl (zfp m14 6 a0 ((zf m14 6 a0) + (1 : Int32))) fun m24 =>
  (if r8 = 0 then
    zl (zfp m24 8 a0 ((zf m24 8 a0) + (1 : Int32))) fun m56 =>
    f_X0_attempt_b59 P r8 m56
  else
    zl (zfp m24 7 a0 ((zf m24 7 a0) + (1 : Int32))) fun m38 =>
    zl (zfp m38 8 a0 (0 : Int32)) fun m43 =>
    f_X0_attempt_b59 P r8 m43)
def f_X0_attemptAsShadow_b24 (P : zSt)  (a0 : Nat) (m : zM) : Option (Int32 × zM) :=
  zl (zfp m 11 a0 ((zf m 11 a0) + (1 : Int32))) fun m31 =>
  some (0, m31)
def f_X0_attemptAsShadow (P : zSt) (a0 : Nat) (m : zM) : Option (Int32 × zM) :=
  zb (f_X10_succeeds P (zf m 5 a0) (zf m 11 a0) m) fun r8 m8 =>
  (if r8 = 0 then
    f_X0_attemptAsShadow_b24 P a0 m8
  else
    zl (zfp m8 12 a0 ((zf m8 12 a0) + (1 : Int32))) fun m21 =>
    f_X0_attemptAsShadow_b24 P a0 m21)
def f_X0_eject (P : zSt) (a0 : Nat) (i1 : Int32) (m : zM) : Option (Int32 × zM) :=
  zl (zfp m 9 a0 ((zf m 9 a0) + (1 : Int32))) fun m7 =>
  zl (zfp m7 8 a0 (0 : Int32)) fun m12 =>
  zl (zfp m12 10 a0 (i1 * (zf m12 9 a0))) fun m22 =>
  some (0, m22)
def f_X0_property (P : zSt) (a0 : Nat) (i1 : Int32) (m : zM) : Option (Int32 × zM) :=
  zsw i1 (0)
  [(some ((zf m 3 a0), m)),
  (some ((zf m 4 a0), m)),
  (some ((zf m 0 a0), m)),
  (some ((zf m 5 a0), m)),
  (some ((zf m 1 a0), m)),
  (some ((zf m 6 a0), m)),
  (some ((zf m 7 a0), m)),
  (some ((zf m 8 a0), m)),
  (some ((zf m 9 a0), m)),
  (some ((zf m 10 a0), m)),
  (some ((zf m 11 a0), m)),
  (some ((zf m 12 a0), m))]
  (some ((-2 : Int32), m))
def f_X6_copyFrom (P : zSt) (a0 : Nat) (a1 : Nat) (m : zM) : Option (Int32 × zM) :=
  zl (zfp m 123 a0 (zf m 123 a1)) fun m5 =>
  zl (zfp m5 120 a0 (zf m5 120 a1)) fun m13 =>
  zl (zfp m13 121 a0 (zf m13 121 a1)) fun m21 =>
  zl (zfp m21 124 a0 (zf m21 124 a1)) fun m29 =>
  some (0, m29)
def f_X7_clear (P : zSt) (a0 : Nat) (m : zM) : Option (Int32 × zM) :=
  zl (zfp m 141 a0 (0 : Int32)) fun m2 =>
  some (0, m2)
def f_X7_put (P : zSt) (a0 : Nat) (i1 : Int32) (m : zM) : Option (Int32 × zM) :=
  (if (40 : Int32) ≤ (zf m 141 a0) then
    some (0, m)
  else
    zl (zR P 140 a0) fun b10 =>
    zgd (zin (zf m 141 a0) (zlen P b10)) <| zl (zap m b10 (zf m 141 a0).toNatClampNeg (vp_nar .char (((i1).toUInt32 % 65536).toInt32))) fun m19 =>
    zl (zfp m19 141 a0 ((zf m19 141 a0) + (1 : Int32))) fun m27 =>
    some (0, m27))
def f_X7_putAll_b2 (P : zSt)  : Nat → Nat → Nat → Int32 → zM → Option (Int32 × zM)
  | 0, _, _, _, _ => none
  | fu + 1, a0, a1, x2, m =>
    (if (zf m 141 a1) ≤ x2 then
      some (0, m)
    else
      zl (zR P 140 a1) fun b12 =>
      zgd (zin x2 (zlen P b12)) <|
      zb (f_X7_put P a0 (za m b12 x2.toNatClampNeg) m) fun _ m17 =>
      zl (x2 + (1 : Int32)) fun v20 =>
      f_X7_putAll_b2 P fu a0 a1 v20 m17)
def f_X7_putAll (P : zSt) (a0 : Nat) (a1 : Nat) (m : zM) : Option (Int32 × zM) :=
  f_X7_putAll_b2 P zfuel a0 a1 (0 : Int32) m
def f_X3_copyFrom_b44 (P : zSt)  : Nat → Nat → Nat → Int32 → zM → Option (Int32 × zM)
  | 0, _, _, _, _ => none
  | fu + 1, a0, a1, x2, m =>
    (if (zf m 64 a0) ≤ x2 then
      zl (zfp m 65 a0 (zf m 65 a1)) fun m78 =>
      zl (zfp m78 66 a0 (zf m78 66 a1)) fun m86 =>
      some (0, m86)
    else
      zl (zR P 63 a0) fun b53 =>
      zgd (zin x2 (zlen P b53)) <| zl (zr m b53 x2.toNatClampNeg) fun b57 =>
      zl (zR P 63 a1) fun b59 =>
      zgd (zin x2 (zlen P b59)) <| zl (zr m b59 x2.toNatClampNeg) fun b63 =>
      zb (f_X6_copyFrom P b57 b63 m) fun _ m64 =>
      zl (x2 + (1 : Int32)) fun v67 =>
      f_X3_copyFrom_b44 P fu a0 a1 v67 m64)
def f_X3_copyFrom (P : zSt) (a0 : Nat) (a1 : Nat) (m : zM) : Option (Int32 × zM) :=
  zl (zR P 60 a0) fun b1 =>
  zb (f_X7_clear P b1 m) fun _ m4 =>
  zl (zR P 60 a0) fun b8 =>
  zl (zR P 60 a1) fun b12 =>
  zb (f_X7_putAll P b8 b12 m4) fun _ m15 =>
  zl (zfp m15 61 a0 (zf m15 61 a1)) fun m23 =>
  zl (zfp m23 62 a0 (zf m23 62 a1)) fun m31 =>
  zl (zfp m31 64 a0 (zf m31 64 a1)) fun m39 =>
  f_X3_copyFrom_b44 P zfuel a0 a1 (0 : Int32) m39
def f_X5_copyFrom_b91 (P : zSt)  : Nat → Nat → Nat → Int32 → zM → Option (Int32 × zM)
  | 0, _, _, _, _ => none
  | fu + 1, a0, a1, x2, m =>
    (if (10 : Int32) ≤ x2 then
      some (0, m)
    else
      zl (zR P 109 a0) fun b98 =>
      zl (zR P 109 a1) fun b103 =>
      zgd (zin x2 (zlen P b103)) <|
      zgd (zin x2 (zlen P b98)) <| zl (zap m b98 x2.toNatClampNeg (za m b103 x2.toNatClampNeg)) fun m108 =>
      zl (x2 + (1 : Int32)) fun v109 =>
      f_X5_copyFrom_b91 P fu a0 a1 v109 m108)
def f_X5_copyFrom_b66 (P : zSt)  : Nat → Nat → Nat → Int32 → zM → Option (Int32 × zM)
  | 0, _, _, _, _ => none
  | fu + 1, a0, a1, x2, m =>
    (if (3 : Int32) ≤ x2 then
      f_X5_copyFrom_b91 P zfuel a0 a1 (0 : Int32) m
    else
      zl (zR P 108 a0) fun b72 =>
      zl (zR P 108 a1) fun b77 =>
      zgd (zin x2 (zlen P b77)) <|
      zgd (zin x2 (zlen P b72)) <| zl (zap m b72 x2.toNatClampNeg (za m b77 x2.toNatClampNeg)) fun m82 =>
      zl (x2 + (1 : Int32)) fun v83 =>
      f_X5_copyFrom_b66 P fu a0 a1 v83 m82)
def f_X5_copyFrom (P : zSt) (a0 : Nat) (a1 : Nat) (m : zM) : Option (Int32 × zM) :=
  zl (zfp m 100 a0 (zf m 100 a1)) fun m5 =>
  zl (zfp m5 101 a0 (zf m5 101 a1)) fun m13 =>
  zl (zfp m13 102 a0 (zf m13 102 a1)) fun m21 =>
  zl (zfp m21 103 a0 (zf m21 103 a1)) fun m29 =>
  zl (zfp m29 104 a0 (zf m29 104 a1)) fun m37 =>
  zl (zfp m37 105 a0 (zf m37 105 a1)) fun m45 =>
  zl (zfp m45 106 a0 (zf m45 106 a1)) fun m53 =>
  zl (zfp m53 107 a0 (zf m53 107 a1)) fun m61 =>
  f_X5_copyFrom_b66 P zfuel a0 a1 (0 : Int32) m61
def f_X1_copyFrom_b77 (P : zSt)  : Nat → Nat → Nat → Int32 → zM → Option (Int32 × zM)
  | 0, _, _, _, _ => none
  | fu + 1, a0, a1, x2, m =>
    (if (zf m 24 a0) ≤ x2 then
      zl (zfp m 25 a0 (zf m 25 a1)) fun m111 =>
      zl (zfp m111 26 a0 (zf m111 26 a1)) fun m119 =>
      zl (zfp m119 27 a0 (zf m119 27 a1)) fun m127 =>
      zl (zfp m127 28 a0 (zf m127 28 a1)) fun m135 =>
      zl (zfp m135 29 a0 (zf m135 29 a1)) fun m143 =>
      zl (zfp m143 30 a0 (zf m143 30 a1)) fun m151 =>
      zl (zfp m151 31 a0 (zf m151 31 a1)) fun m159 =>
      zl (zfp m159 32 a0 (zf m159 32 a1)) fun m167 =>
      zl (zfp m167 33 a0 (zf m167 33 a1)) fun m175 =>
      zl (zfp m175 34 a0 (zf m175 34 a1)) fun m183 =>
      some (0, m183)
    else
      zl (zR P 23 a0) fun b86 =>
      zgd (zin x2 (zlen P b86)) <| zl (zr m b86 x2.toNatClampNeg) fun b90 =>
      zl (zR P 23 a1) fun b92 =>
      zgd (zin x2 (zlen P b92)) <| zl (zr m b92 x2.toNatClampNeg) fun b96 =>
      zb (f_X3_copyFrom P b90 b96 m) fun _ m97 =>
      zl (x2 + (1 : Int32)) fun v100 =>
      f_X1_copyFrom_b77 P fu a0 a1 v100 m97)
def f_X1_copyFrom_b41 (P : zSt)  : Nat → Nat → Nat → Int32 → zM → Option (Int32 × zM)
  | 0, _, _, _, _ => none
  | fu + 1, a0, a1, x2, m =>
    (if (4 : Int32) ≤ x2 then
      zl (zfp m 24 a0 (zf m 24 a1)) fun m72 =>
      f_X1_copyFrom_b77 P zfuel a0 a1 (0 : Int32) m72
    else
      zl (zR P 22 a0) fun b47 =>
      zgd (zin x2 (zlen P b47)) <| zl (zr m b47 x2.toNatClampNeg) fun b51 =>
      zl (zR P 22 a1) fun b53 =>
      zgd (zin x2 (zlen P b53)) <| zl (zr m b53 x2.toNatClampNeg) fun b57 =>
      zb (f_X5_copyFrom P b51 b57 m) fun _ m58 =>
      zl (x2 + (1 : Int32)) fun v61 =>
      f_X1_copyFrom_b41 P fu a0 a1 v61 m58)
def f_X1_copyFrom_b10 (P : zSt)  : Nat → Nat → Nat → Int32 → zM → Option (Int32 × zM)
  | 0, _, _, _, _ => none
  | fu + 1, a0, a1, x2, m =>
    (if (zf m 21 a0) ≤ x2 then
      f_X1_copyFrom_b41 P zfuel a0 a1 (0 : Int32) m
    else
      zl (zR P 20 a0) fun b19 =>
      zgd (zin x2 (zlen P b19)) <| zl (zr m b19 x2.toNatClampNeg) fun b23 =>
      zl (zR P 20 a1) fun b25 =>
      zgd (zin x2 (zlen P b25)) <| zl (zr m b25 x2.toNatClampNeg) fun b29 =>
      zb (f_X0_copyFrom P b23 b29 m) fun _ m30 =>
      zl (x2 + (1 : Int32)) fun v33 =>
      f_X1_copyFrom_b10 P fu a0 a1 v33 m30)
def f_X1_copyFrom (P : zSt) (a0 : Nat) (a1 : Nat) (m : zM) : Option (Int32 × zM) :=
  zl (zfp m 21 a0 (zf m 21 a1)) fun m5 =>
  f_X1_copyFrom_b10 P zfuel a0 a1 (0 : Int32) m5
def f_X10_isWithin_b14 (P : zSt)   (m : zM) : Option (Int32 × zM) :=
  zgd (zbo (0 : Int32)) (some ((0 : Int32), m))
def f_X10_isWithin (P : zSt) (i0 : Int32) (i1 : Int32) (i2 : Int32) (m : zM) : Option (Int32 × zM) :=
  (if i0 < i1 then
    f_X10_isWithin_b14 P m
  else
    (if i2 < i0 then
      f_X10_isWithin_b14 P m
    else
      zgd (zbo (1 : Int32)) (some ((1 : Int32), m))))
def f_X1_hasBackend (P : zSt) (a0 : Nat) (i1 : Int32) (m : zM) : Option (Int32 × zM) :=
  zb (f_X10_isWithin P i1 (0 : Int32) ((zf m 21 a0) - (1 : Int32)) m) fun r8 m8 =>
  zgd (zbo r8) (some (r8, m8))
def f_X1_hasRule (P : zSt) (a0 : Nat) (i1 : Int32) (m : zM) : Option (Int32 × zM) :=
  zb (f_X10_isWithin P i1 (0 : Int32) ((zf m 24 a0) - (1 : Int32)) m) fun r8 m8 =>
  zgd (zbo r8) (some (r8, m8))
def f_X1_takeBackend (P : zSt) (a0 : Nat) (i1 : Int32) (i2 : Int32) (i3 : Int32) (m : zM) : Option (Int32 × zM) :=
  zl (zR P 20 a0) fun b1 =>
  zgd (zin (zf m 21 a0) (zlen P b1)) <| zl (zr m b1 (zf m 21 a0).toNatClampNeg) fun b8 =>
  zb (f_X0_begin P b8 i1 i2 i3 m) fun _ m12 =>
  zl (zfp m12 21 a0 ((zf m12 21 a0) + (1 : Int32))) fun m22 =>
  some (((zf m22 21 a0) - (1 : Int32)), m22)
def f_X1_takeRule (P : zSt) (a0 : Nat) (a1 : Nat) (m : zM) : Option (Int32 × zM) :=
  zl (zR P 23 a0) fun b1 =>
  zgd (zin (zf m 24 a0) (zlen P b1)) <| zl (zr m b1 (zf m 24 a0).toNatClampNeg) fun b8 =>
  zb (f_X3_copyFrom P b8 a1 m) fun _ m10 =>
  zl (zfp m10 24 a0 ((zf m10 24 a0) + (1 : Int32))) fun m20 =>
  some (((zf m20 24 a0) - (1 : Int32)), m20)
def f_X1_shiftRule_b41 (P : zSt)  : Nat → Nat → Int32 → Nat → Int32 → zM → Option (Int32 × zM)
  | 0, _, _, _, _, _ => none
  | fu + 1, a0, x2, a3, x4, m =>
    (if x4 ≤ x2 then
      zl (zR P 23 a0) fun b70 =>
      zgd (zin x2 (zlen P b70)) <| zl (zrp m b70 x2.toNatClampNeg a3) fun m75 =>
      some (0, m75)
    else
      zl (zR P 23 a0) fun b48 =>
      zl (zR P 23 a0) fun b54 =>
      zgd (zin (x4 - (1 : Int32)) (zlen P b54)) <| zl (zr m b54 (x4 - (1 : Int32)).toNatClampNeg) fun b61 =>
      zgd (zin x4 (zlen P b48)) <| zl (zrp m b48 x4.toNatClampNeg b61) fun m62 =>
      zl (x4 + (-1 : Int32)) fun v63 =>
      f_X1_shiftRule_b41 P fu a0 x2 a3 v63 m62)
def f_X1_shiftRule_b10 (P : zSt)  : Nat → Nat → Int32 → Int32 → Nat → Int32 → zM → Option (Int32 × zM)
  | 0, _, _, _, _, _, _ => none
  | fu + 1, a0, x1, x2, a3, x4, m =>
    (if x2 ≤ x4 then
      f_X1_shiftRule_b41 P zfuel a0 x2 a3 x1 m
    else
      zl (zR P 23 a0) fun b17 =>
      zl (zR P 23 a0) fun b23 =>
      zgd (zin (x4 + (1 : Int32)) (zlen P b23)) <| zl (zr m b23 (x4 + (1 : Int32)).toNatClampNeg) fun b30 =>
      zgd (zin x4 (zlen P b17)) <| zl (zrp m b17 x4.toNatClampNeg b30) fun m31 =>
      zl (x4 + (1 : Int32)) fun v32 =>
      f_X1_shiftRule_b10 P fu a0 x1 x2 a3 v32 m31)
def f_X1_shiftRule (P : zSt) (a0 : Nat) (i1 : Int32) (i2 : Int32) (m : zM) : Option (Int32 × zM) :=
  zl (zR P 23 a0) fun b1 =>
  zgd (zin i1 (zlen P b1)) <| zl (zr m b1 i1.toNatClampNeg) fun b5 =>
  f_X1_shiftRule_b10 P zfuel a0 i1 i2 b5 i1 m
def f_X7_signAt (P : zSt) (a0 : Nat) (i1 : Int32) (m : zM) : Option (Int32 × zM) :=
  zb (f_X10_isWithin P i1 (0 : Int32) ((zf m 141 a0) - (1 : Int32)) m) fun r8 m8 =>
  (if r8 = 0 then
    some ((-1 : Int32), m8)
  else
    zl (zR P 140 a0) fun b15 =>
    zgd (zin i1 (zlen P b15)) <|
    some ((za m8 b15 i1.toNatClampNeg), m8))
def f_X7_beginsWith_b2 (P : zSt)  : Nat → Nat → Nat → Int32 → zM → Option (Int32 × zM)
  | 0, _, _, _, _ => none
  | fu + 1, a0, a1, x2, m =>
    (if (zf m 141 a1) ≤ x2 then
      zgd (zbo (1 : Int32)) (some ((1 : Int32), m))
    else
      zb (f_X7_signAt P a0 x2 m) fun r12 m12 =>
      zl (zR P 140 a1) fun b16 =>
      zgd (zin x2 (zlen P b16)) <|
      (if r12 = (za m12 b16 x2.toNatClampNeg) then
        zl (x2 + (1 : Int32)) fun v26 =>
        f_X7_beginsWith_b2 P fu a0 a1 v26 m12
      else
        zgd (zbo (0 : Int32)) (some ((0 : Int32), m12))))
def f_X7_beginsWith (P : zSt) (a0 : Nat) (a1 : Nat) (m : zM) : Option (Int32 × zM) :=
  f_X7_beginsWith_b2 P zfuel a0 a1 (0 : Int32) m
def f_X3_matches_b30 (P : zSt)   (m : zM) : Option (Int32 × zM) :=
  zgd (zbo (0 : Int32)) (some ((0 : Int32), m))
def f_X3_matches (P : zSt) (a0 : Nat) (a1 : Nat) (i2 : Int32) (m : zM) : Option (Int32 × zM) :=
  zb (f_X10_isWithin P i2 (zf m 61 a0) (zf m 62 a0) m) fun r9 m9 =>
  (if r9 = 0 then
    f_X3_matches_b30 P m9
  else
    zl (zR P 60 a0) fun b17 =>
    zb (f_X7_beginsWith P a1 b17 m9) fun r20 m20 =>
    (if r20 = 0 then
      f_X3_matches_b30 P m20
    else
      zgd (zbo (1 : Int32)) (some ((1 : Int32), m20))))
def f_X1_findRule_b2 (P : zSt)  : Nat → Nat → Nat → Int32 → Int32 → zM → Option (Int32 × zM)
  | 0, _, _, _, _, _ => none
  | fu + 1, a0, a1, x2, x3, m =>
    (if (zf m 24 a0) ≤ x3 then
      some ((-1 : Int32), m)
    else
      zl (zR P 23 a0) fun b11 =>
      zgd (zin x3 (zlen P b11)) <| zl (zr m b11 x3.toNatClampNeg) fun b15 =>
      zb (f_X3_matches P b15 a1 x2 m) fun r18 m18 =>
      (if r18 = 0 then
        zl (x3 + (1 : Int32)) fun v26 =>
        f_X1_findRule_b2 P fu a0 a1 x2 v26 m18
      else
        some (x3, m18)))
def f_X1_findRule (P : zSt) (a0 : Nat) (a1 : Nat) (i2 : Int32) (m : zM) : Option (Int32 × zM) :=
  f_X1_findRule_b2 P zfuel a0 a1 i2 (0 : Int32) m
def f_X1_passTick_b47 (P : zSt) (rec_12 : Nat → Int32 → zM → Option (Int32 × zM)) (a0 : Nat) (x1 : Int32) (m : zM) : Option (Int32 × zM) :=
  zl (x1 + (1 : Int32)) fun v47 =>
  rec_12 a0 v47 m
def f_X1_passTick_b12 (P : zSt)  : Nat → Nat → Int32 → zM → Option (Int32 × zM)
  | 0, _, _, _ => none
  | fu + 1, a0, x1, m =>
    (if (zf m 21 a0) ≤ x1 then
      some (0, m)
    else
      zl (zR P 20 a0) fun b21 =>
      zgd (zin x1 (zlen P b21)) <| zl (zr m b21 x1.toNatClampNeg) fun b25 =>
      (if (zf m 10 b25) ≤ 0 then
        f_X1_passTick_b47 P (f_X1_passTick_b12 P fu) a0 x1 m
      else
        zl (zR P 20 a0) fun b33 =>
        zgd (zin x1 (zlen P b33)) <| zl (zr m b33 x1.toNatClampNeg) fun b37 =>
        zl (zfp m 10 b37 ((zf m 10 b37) - (1 : Int32))) fun m44 =>
        f_X1_passTick_b47 P (f_X1_passTick_b12 P fu) a0 x1 m44))
def f_X1_passTick (P : zSt) (a0 : Nat) (m : zM) : Option (Int32 × zM) :=
  zl (zfp m 26 a0 ((zf m 26 a0) + (1 : Int32))) fun m7 =>
  f_X1_passTick_b12 P zfuel a0 (0 : Int32) m7
def f_X1_impose_b52 (P : zSt) (rec_12 : Nat → Int32 → Int32 → zM → Option (Int32 × zM)) (a0 : Nat) (x1 : Int32) (x2 : Int32) (m : zM) : Option (Int32 × zM) :=
  zl (x2 + (1 : Int32)) fun v52 =>
  rec_12 a0 x1 v52 m
def f_X1_impose_b99 (P : zSt) (rec_60 : Nat → Int32 → Int32 → zM → Option (Int32 × zM)) (a0 : Nat) (x1 : Int32) (x2 : Int32) (m : zM) : Option (Int32 × zM) :=
  zl (x2 + (1 : Int32)) fun v99 =>
  rec_60 a0 x1 v99 m
def f_X1_impose_b60 (P : zSt)  : Nat → Nat → Int32 → Int32 → zM → Option (Int32 × zM)
  | 0, _, _, _, _ => none
  | fu + 1, a0, x1, x2, m =>
    (if (4 : Int32) ≤ x2 then
      some (0, m)
    else
      (if x1 = (2 : Int32) then
        zl (zR P 22 a0) fun b71 =>
        zgd (zin x2 (zlen P b71)) <| zl (zr m b71 x2.toNatClampNeg) fun b75 =>
        zl (zfp m 101 b75 (1073741824 : Int32)) fun m78 =>
        f_X1_impose_b99 P (f_X1_impose_b60 P fu) a0 x1 x2 m78
      else
        (if x1 = (3 : Int32) then
          zl (zR P 22 a0) fun b90 =>
          zgd (zin x2 (zlen P b90)) <| zl (zr m b90 x2.toNatClampNeg) fun b94 =>
          zl (zfp m 100 b94 (0 : Int32)) fun m96 =>
          f_X1_impose_b99 P (f_X1_impose_b60 P fu) a0 x1 x2 m96
        else
          f_X1_impose_b99 P (f_X1_impose_b60 P fu) a0 x1 x2 m)))
def f_X1_impose_b12 (P : zSt)  : Nat → Nat → Int32 → Int32 → zM → Option (Int32 × zM)
  | 0, _, _, _, _ => none
  | fu + 1, a0, x1, x2, m =>
    (if (zf m 24 a0) ≤ x2 then
      f_X1_impose_b60 P zfuel a0 x1 (0 : Int32) m
    else
      (if x1 = 0 then
        zl (zR P 23 a0) fun b25 =>
        zgd (zin x2 (zlen P b25)) <| zl (zr m b25 x2.toNatClampNeg) fun b29 =>
        zl (zfp m 66 b29 (-1 : Int32)) fun m31 =>
        f_X1_impose_b52 P (f_X1_impose_b12 P fu) a0 x1 x2 m31
      else
        (if x1 = (1 : Int32) then
          zl (zR P 23 a0) fun b43 =>
          zgd (zin x2 (zlen P b43)) <| zl (zr m b43 x2.toNatClampNeg) fun b47 =>
          zl (zfp m 65 b47 (1 : Int32)) fun m49 =>
          f_X1_impose_b52 P (f_X1_impose_b12 P fu) a0 x1 x2 m49
        else
          f_X1_impose_b52 P (f_X1_impose_b12 P fu) a0 x1 x2 m)))
def f_X1_impose_b10 (P : zSt)  (a0 : Nat) (x1 : Int32) (m : zM) : Option (Int32 × zM) :=
  f_X1_impose_b12 P zfuel a0 x1 (0 : Int32) m
def f_X1_impose (P : zSt) (a0 : Nat) (i1 : Int32) (m : zM) : Option (Int32 × zM) :=
  (if i1 = (4 : Int32) then
    zl (zfp m 25 a0 (1 : Int32)) fun m7 =>
    f_X1_impose_b10 P a0 i1 m7
  else
    f_X1_impose_b10 P a0 i1 m)
def f_X1_hasAvailable_b2 (P : zSt)  : Nat → Nat → Int32 → Int32 → zM → Option (Int32 × zM)
  | 0, _, _, _, _ => none
  | fu + 1, a0, x1, x2, m =>
    (if (zf m 21 a0) ≤ x2 then
      zgd (zbo (0 : Int32)) (some ((0 : Int32), m))
    else
      zl (zR P 20 a0) fun b11 =>
      zgd (zin x2 (zlen P b11)) <| zl (zr m b11 x2.toNatClampNeg) fun b15 =>
      zb (f_X0_isAvailableIn P b15 x1 m) fun r17 m17 =>
      (if r17 = 0 then
        zl (x2 + (1 : Int32)) fun v25 =>
        f_X1_hasAvailable_b2 P fu a0 x1 v25 m17
      else
        zgd (zbo (1 : Int32)) (some ((1 : Int32), m17))))
def f_X1_hasAvailable (P : zSt) (a0 : Nat) (i1 : Int32) (m : zM) : Option (Int32 × zM) :=
  f_X1_hasAvailable_b2 P zfuel a0 i1 (0 : Int32) m
def f_X9_chooseByWeights_16_b79 (P : zSt) (rec_7 : Nat → Int32 → Int32 → Int32 → Int32 → zM → Option (Int32 × zM)) (a0 : Nat) (x1 : Int32) (x2 : Int32) (x3 : Int32) (x4 : Int32) (m : zM) : Option (Int32 × zM) :=
  zl (x4 + (1 : Int32)) fun v79 =>
  rec_7 a0 x1 x2 x3 v79 m
def f_X9_chooseByWeights_16_b76 (P : zSt) (rec_7 : Nat → Int32 → Int32 → Int32 → Int32 → zM → Option (Int32 × zM)) (a0 : Nat) (x1 : Int32) (x3 : Int32) (x4 : Int32) (m : zM) : Option (Int32 × zM) :=
  f_X9_chooseByWeights_16_b79 P rec_7 a0 x1 x4 x3 x4 m
def f_X9_chooseByWeights_16_b102 (P : zSt)  (x2 : Int32) (m : zM) : Option (Int32 × zM) :=
  some (x2, m)
def f_X9_chooseByWeights_16_b85 (P : zSt)  (a0 : Nat) (x2 : Int32) (x3 : Int32) (m : zM) : Option (Int32 × zM) :=
  (if x2 = (-1 : Int32) then
    f_X9_chooseByWeights_16_b102 P x2 m
  else
    zgd (zin x2 (zlen P a0)) <| zl (zr m a0 x2.toNatClampNeg) fun b92 =>
    zl (zfp m 121 b92 ((zf m 121 b92) - x3)) fun m99 =>
    f_X9_chooseByWeights_16_b102 P x2 m99)
def f_X9_chooseByWeights_16_b7 (P : zSt)  : Nat → Nat → Int32 → Int32 → Int32 → Int32 → zM → Option (Int32 × zM)
  | 0, _, _, _, _, _, _ => none
  | fu + 1, a0, x1, x2, x3, x4, m =>
    (if x1 ≤ x4 then
      f_X9_chooseByWeights_16_b85 P a0 x2 x3 m
    else
      (if (Int32.ofNat (zlen P a0)) ≤ x4 then
        f_X9_chooseByWeights_16_b85 P a0 x2 x3 m
      else
        zgd (zin x4 (zlen P a0)) <| zl (zr m a0 x4.toNatClampNeg) fun b23 =>
        (if (zf m 122 b23) = 0 then
          f_X9_chooseByWeights_16_b79 P (f_X9_chooseByWeights_16_b7 P fu) a0 x1 x2 x3 x4 m
        else
          zl (zfp m 121 b23 ((zf m 121 b23) + (zf m 120 b23))) fun m46 =>
          zl ((x3 + (zf m46 120 b23))) fun v56 =>
          (if x2 = (-1 : Int32) then
            f_X9_chooseByWeights_16_b76 P (f_X9_chooseByWeights_16_b7 P fu) a0 x1 v56 x4 m46
          else
            zgd (zin x2 (zlen P a0)) <| zl (zr m46 a0 x2.toNatClampNeg) fun b69 =>
            (if (zf m46 121 b23) ≤ (zf m46 121 b69) then
              f_X9_chooseByWeights_16_b79 P (f_X9_chooseByWeights_16_b7 P fu) a0 x1 x2 v56 x4 m46
            else
              f_X9_chooseByWeights_16_b76 P (f_X9_chooseByWeights_16_b7 P fu) a0 x1 v56 x4 m46)))))
def f_X9_chooseByWeights_16 (P : zSt) (a0 : Nat) (i1 : Int32) (m : zM) : Option (Int32 × zM) :=
  f_X9_chooseByWeights_16_b7 P zfuel a0 i1 (-1 : Int32) (0 : Int32) (0 : Int32) m
def f_X1_chooseService_b2 (P : zSt)  : Nat → Nat → Nat → Int32 → zM → Option (Int32 × zM)
  | 0, _, _, _, _ => none
  | fu + 1, a0, a1, x2, m =>
    (if (zf m 64 a1) ≤ x2 then
      zl (zR P 63 a1) fun b39 =>
      zb (f_X9_chooseByWeights_16 P b39 (zf m 64 a1) m) fun r46 m46 =>
      (if r46 = (-1 : Int32) then
        some ((-1 : Int32), m46)
      else
        zl (zR P 63 a1) fun b58 =>
        zgd (zin r46 (zlen P b58)) <| zl (zr m46 b58 r46.toNatClampNeg) fun b62 =>
        zl (zfp m46 124 b62 ((zf m46 124 b62) + (1 : Int32))) fun m69 =>
        zl (zR P 63 a1) fun b73 =>
        zgd (zin r46 (zlen P b73)) <| zl (zr m69 b73 r46.toNatClampNeg) fun b77 =>
        some ((zf m69 123 b77), m69))
    else
      zl (zR P 63 a1) fun b11 =>
      zgd (zin x2 (zlen P b11)) <| zl (zr m b11 x2.toNatClampNeg) fun b15 =>
      zl (zR P 63 a1) fun b18 =>
      zgd (zin x2 (zlen P b18)) <| zl (zr m b18 x2.toNatClampNeg) fun b22 =>
      zb (f_X1_hasAvailable P a0 (zf m 123 b22) m) fun r26 m26 =>
      zgd (zbo r26) <| zl (zfp m26 122 b15 r26) fun m29 =>
      zl (x2 + (1 : Int32)) fun v32 =>
      f_X1_chooseService_b2 P fu a0 a1 v32 m29)
def f_X1_chooseService (P : zSt) (a0 : Nat) (a1 : Nat) (m : zM) : Option (Int32 × zM) :=
  f_X1_chooseService_b2 P zfuel a0 a1 (0 : Int32) m
def f_X1_mirror_b53 (P : zSt) (rec_4 : Nat → Int32 → Int32 → Int32 → zM → Option (Int32 × zM)) (a0 : Nat) (x1 : Int32) (x2 : Int32) (x3 : Int32) (m : zM) : Option (Int32 × zM) :=
  zl (x3 + (1 : Int32)) fun v53 =>
  rec_4 a0 x1 x2 v53 m
def f_X1_mirror_b51 (P : zSt) (rec_4 : Nat → Int32 → Int32 → Int32 → zM → Option (Int32 × zM)) (a0 : Nat) (x1 : Int32) (x3 : Int32) (m : zM) : Option (Int32 × zM) :=
  f_X1_mirror_b53 P rec_4 a0 x1 x3 x3 m
def f_X1_mirror_b4 (P : zSt)  : Nat → Nat → Int32 → Int32 → Int32 → zM → Option (Int32 × zM)
  | 0, _, _, _, _, _ => none
  | fu + 1, a0, x1, x2, x3, m =>
    (if (zf m 21 a0) ≤ x3 then
      (if x2 = (-1 : Int32) then
        some (0, m)
      else
        zl (zR P 20 a0) fun b65 =>
        zgd (zin x2 (zlen P b65)) <| zl (zr m b65 x2.toNatClampNeg) fun b69 =>
        zb (f_X0_attemptAsShadow P b69 m) fun _ m70 =>
        zl (zfp m70 33 a0 ((zf m70 33 a0) + (1 : Int32))) fun m80 =>
        some (0, m80))
    else
      zl (zR P 20 a0) fun b13 =>
      zgd (zin x3 (zlen P b13)) <| zl (zr m b13 x3.toNatClampNeg) fun b17 =>
      zb (f_X0_isMemberOf P b17 x1 m) fun r19 m19 =>
      (if r19 = 0 then
        f_X1_mirror_b53 P (f_X1_mirror_b4 P fu) a0 x1 x2 x3 m19
      else
        (if x2 = (-1 : Int32) then
          f_X1_mirror_b51 P (f_X1_mirror_b4 P fu) a0 x1 x3 m19
        else
          zl (zR P 20 a0) fun b31 =>
          zgd (zin x3 (zlen P b31)) <| zl (zr m19 b31 x3.toNatClampNeg) fun b35 =>
          zl (zR P 20 a0) fun b40 =>
          zgd (zin x2 (zlen P b40)) <| zl (zr m19 b40 x2.toNatClampNeg) fun b44 =>
          (if (zf m19 11 b44) ≤ (zf m19 11 b35) then
            f_X1_mirror_b53 P (f_X1_mirror_b4 P fu) a0 x1 x2 x3 m19
          else
            f_X1_mirror_b51 P (f_X1_mirror_b4 P fu) a0 x1 x3 m19))))
def f_X1_mirror (P : zSt) (a0 : Nat) (i1 : Int32) (m : zM) : Option (Int32 × zM) :=
  f_X1_mirror_b4 P zfuel a0 i1 (-1 : Int32) (0 : Int32) m
def f_X1_countMembers_b55 (P : zSt) (rec_5 : Nat → Int32 → Int32 → Int32 → Int32 → zM → Option (Int32 × zM)) (a0 : Nat) (x1 : Int32) (x2 : Int32) (x3 : Int32) (x4 : Int32) (m : zM) : Option (Int32 × zM) :=
  zl (x4 + (1 : Int32)) fun v55 =>
  rec_5 a0 x1 x2 x3 v55 m
def f_X1_countMembers_b52 (P : zSt) (rec_5 : Nat → Int32 → Int32 → Int32 → Int32 → zM → Option (Int32 × zM)) (a0 : Nat) (x1 : Int32) (x2 : Int32) (x3 : Int32) (x4 : Int32) (m : zM) : Option (Int32 × zM) :=
  zl (x3 + (1 : Int32)) fun v52 =>
  f_X1_countMembers_b55 P rec_5 a0 x1 x2 v52 x4 m
def f_X1_countMembers_b5 (P : zSt)  : Nat → Nat → Int32 → Int32 → Int32 → Int32 → zM → Option (Int32 × zM)
  | 0, _, _, _, _, _, _ => none
  | fu + 1, a0, x1, x2, x3, x4, m =>
    (if (zf m 21 a0) ≤ x4 then
      some (x3, m)
    else
      zl (zR P 20 a0) fun b15 =>
      zgd (zin x4 (zlen P b15)) <| zl (zr m b15 x4.toNatClampNeg) fun b20 =>
      (if (zf m 3 b20) = x1 then
        (if (zf m 0 b20) ≤ 0 then
          f_X1_countMembers_b55 P (f_X1_countMembers_b5 P fu) a0 x1 x2 x3 x4 m
        else
          (if x2 = 0 then
            f_X1_countMembers_b52 P (f_X1_countMembers_b5 P fu) a0 x1 x2 x3 x4 m
          else
            (if (zf m 10 b20) ≤ 0 then
              f_X1_countMembers_b55 P (f_X1_countMembers_b5 P fu) a0 x1 x2 x3 x4 m
            else
              f_X1_countMembers_b52 P (f_X1_countMembers_b5 P fu) a0 x1 x2 x3 x4 m)))
      else
        f_X1_countMembers_b55 P (f_X1_countMembers_b5 P fu) a0 x1 x2 x3 x4 m))
def f_X1_countMembers (P : zSt) (a0 : Nat) (i1 : Int32) (i2 : Int32) (m : zM) : Option (Int32 × zM) :=
  f_X1_countMembers_b5 P zfuel a0 i1 i2 (0 : Int32) (0 : Int32) m
def f_X1_isToEject_b56 (P : zSt)   (m : zM) : Option (Int32 × zM) :=
  zgd (zbo (0 : Int32)) (some ((0 : Int32), m))
def f_X1_isToEject (P : zSt) (a0 : Nat) (a1 : Nat) (m : zM) : Option (Int32 × zM) :=
  zl (zR P 22 a0) fun b1 =>
  zgd (zin (zf m 3 a1) (zlen P b1)) <| zl (zr m b1 (zf m 3 a1).toNatClampNeg) fun b8 =>
  (if (zf m 8 a1) < (zf m 101 b8) then
    f_X1_isToEject_b56 P m
  else
    zb (f_X1_countMembers P a0 (zf m 3 a1) (1 : Int32) m) fun r27 m27 =>
    zb (f_X1_countMembers P a0 (zf m27 3 a1) (0 : Int32) m27) fun r45 m45 =>
    (if ((zf m27 103 b8) * r45) < ((r27 + (1 : Int32)) * (100 : Int32)) then
      f_X1_isToEject_b56 P m45
    else
      zgd (zbo (1 : Int32)) (some ((1 : Int32), m45))))
def f_X8_add_b80 (P : zSt)  (a0 : Nat) (s0 : Int32) (s1 : Int32) (t2 : Nat) (m : zM) : Option (Int32 × zM) :=
  zgd (zin s1 (zlen P t2)) <| zl (zap m t2 s1.toNatClampNeg s0) fun m80 =>
  zl (zfp m80 161 a0 ((zf m80 161 a0) + (1 : Int32))) fun m88 =>
  some (0, m88)
def f_X8_add_b59 (P : zSt)  (a0 : Nat) (x4 : Int32) (s0 : Int32) (s1 : Int32) (t2 : Nat) (m : zM) : Option (Int32 × zM) :=
  zgd (zin s1 (zlen P t2)) <| zl (zap m t2 s1.toNatClampNeg s0) fun m59 =>
  zl (zR P 160 a0) fun b61 =>
  zgd (zin (zf m59 161 a0) (zlen P b61)) <| zl (zr m59 b61 (zf m59 161 a0).toNatClampNeg) fun b68 =>
  (if x4 = 0 then
    f_X8_add_b80 P a0 (0 : Int32) (3 : Int32) b68 m59
  else
    f_X8_add_b80 P a0 (1 : Int32) (3 : Int32) b68 m59)
def f_X8_add_b39 (P : zSt)  (a0 : Nat) (x3 : Int32) (x4 : Int32) (s0 : Int32) (s1 : Int32) (t2 : Nat) (m : zM) : Option (Int32 × zM) :=
  zgd (zin s1 (zlen P t2)) <| zl (zap m t2 s1.toNatClampNeg s0) fun m39 =>
  zl (zR P 160 a0) fun b41 =>
  zgd (zin (zf m39 161 a0) (zlen P b41)) <| zl (zr m39 b41 (zf m39 161 a0).toNatClampNeg) fun b48 =>
  (if x3 = 0 then
    f_X8_add_b59 P a0 x4 (0 : Int32) (2 : Int32) b48 m39
  else
    f_X8_add_b59 P a0 x4 (1 : Int32) (2 : Int32) b48 m39)
def f_X8_add (P : zSt) (a0 : Nat) (i1 : Int32) (i2 : Int32) (i3 : Int32) (i4 : Int32) (m : zM) : Option (Int32 × zM) :=
  (if (4 : Int32) ≤ (zf m 161 a0) then
    some (0, m)
  else
    zl (zR P 160 a0) fun b9 =>
    zgd (zin (zf m 161 a0) (zlen P b9)) <| zl (zr m b9 (zf m 161 a0).toNatClampNeg) fun b16 =>
    zgd (zin (0 : Int32) (zlen P b16)) <| zl (zap m b16 (0 : Int32).toNatClampNeg i1) fun m19 =>
    zl (zR P 160 a0) fun b21 =>
    zgd (zin (zf m19 161 a0) (zlen P b21)) <| zl (zr m19 b21 (zf m19 161 a0).toNatClampNeg) fun b28 =>
    (if i2 = 0 then
      f_X8_add_b39 P a0 i3 i4 (0 : Int32) (1 : Int32) b28 m19
    else
      f_X8_add_b39 P a0 i3 i4 (1 : Int32) (1 : Int32) b28 m19))
def f_X1_attempt_b104 (P : zSt)  (x4 : Int32) (x5 : Int32) (s0 : Int32) (s1 : Int32) (s2 : Int32) (t3 : Nat) (m : zM) : Option (Int32 × zM) :=
  zb (f_X8_add P t3 s2 s1 s0 x5 m) fun _ m106 =>
  zgd (zbo x4) (some (x4, m106))
def f_X1_attempt_b74 (P : zSt)  (a0 : Nat) (x1 : Int32) (x2 : Int32) (a3 : Nat) (x4 : Int32) (x5 : Int32) (m : zM) : Option (Int32 × zM) :=
  zl (zfp m 32 a0 ((zf m 32 a0) + (1 : Int32))) fun m81 =>
  zl (zR P 35 a0) fun b85 =>
  (if (zf m81 4 a3) = x2 then
    f_X1_attempt_b104 P x4 x5 (1 : Int32) x4 x1 b85 m81
  else
    f_X1_attempt_b104 P x4 x5 (0 : Int32) x4 x1 b85 m81)
def f_X1_attempt_b41 (P : zSt)  (a0 : Nat) (x1 : Int32) (x2 : Int32) (a3 : Nat) (x4 : Int32) (s0 : Int32) (m : zM) : Option (Int32 × zM) :=
  (if s0 = 0 then
    f_X1_attempt_b74 P a0 x1 x2 a3 x4 s0 m
  else
    zl (zR P 22 a0) fun b50 =>
    zgd (zin (zf m 3 a3) (zlen P b50)) <| zl (zr m b50 (zf m 3 a3).toNatClampNeg) fun b57 =>
    zb (f_X0_eject P a3 (zf m 102 b57) m) fun _ m61 =>
    zl (zfp m61 34 a0 ((zf m61 34 a0) + (1 : Int32))) fun m71 =>
    f_X1_attempt_b74 P a0 x1 x2 a3 x4 s0 m71)
def f_X1_attempt_b40 (P : zSt)  (a0 : Nat) (x1 : Int32) (x2 : Int32) (a3 : Nat) (x4 : Int32) (m : zM) : Option (Int32 × zM) :=
  f_X1_attempt_b41 P a0 x1 x2 a3 x4 (0 : Int32) m
def f_X1_attempt (P : zSt) (a0 : Nat) (i1 : Int32) (i2 : Int32) (m : zM) : Option (Int32 × zM) :=
  zb (f_X1_hasBackend P a0 i1 m) fun r2 m2 =>
  (if r2 = 0 then
    zgd (zbo (0 : Int32)) (some ((0 : Int32), m2))
  else
    zl (zR P 20 a0) fun b11 =>
    zgd (zin i1 (zlen P b11)) <| zl (zr m2 b11 i1.toNatClampNeg) fun b15 =>
    zb (f_X0_attempt P b15 m2) fun r18 m18 =>
    (if r18 = 0 then
      zb (f_X1_isToEject P a0 b15 m18) fun r30 m30 =>
      (if r30 = 0 then
        f_X1_attempt_b40 P a0 i1 i2 b15 r18 m30
      else
        f_X1_attempt_b41 P a0 i1 i2 b15 r18 (1 : Int32) m30)
    else
      f_X1_attempt_b40 P a0 i1 i2 b15 r18 m18))
def f_X1_gatherCandidates_b64 (P : zSt) (rec_4 : Nat → Int32 → Int32 → Int32 → zM → Option (Int32 × zM)) (a0 : Nat) (x1 : Int32) (x3 : Int32) (s0 : Int32) (m : zM) : Option (Int32 × zM) :=
  zl (x3 + (1 : Int32)) fun v65 =>
  rec_4 a0 x1 s0 v65 m
def f_X1_gatherCandidates_b59 (P : zSt) (rec_4 : Nat → Int32 → Int32 → Int32 → zM → Option (Int32 × zM)) (a0 : Nat) (x1 : Int32) (x3 : Int32) (m : zM) : Option (Int32 × zM) :=
  f_X1_gatherCandidates_b64 P rec_4 a0 x1 x3 (1 : Int32) m
def f_X1_gatherCandidates_b44 (P : zSt) (rec_4 : Nat → Int32 → Int32 → Int32 → zM → Option (Int32 × zM)) (a0 : Nat) (x1 : Int32) (x2 : Int32) (x3 : Int32) (a4 : Nat) (s0 : Int32) (t1 : Nat) (m : zM) : Option (Int32 × zM) :=
  zgd (zbo s0) <| zl (zfp m 2 t1 s0) fun m44 =>
  (if x2 = 0 then
    (if (zf m44 2 a4) = 0 then
      f_X1_gatherCandidates_b64 P rec_4 a0 x1 x3 (0 : Int32) m44
    else
      f_X1_gatherCandidates_b59 P rec_4 a0 x1 x3 m44)
  else
    f_X1_gatherCandidates_b59 P rec_4 a0 x1 x3 m44)
def f_X1_gatherCandidates_b43 (P : zSt) (rec_4 : Nat → Int32 → Int32 → Int32 → zM → Option (Int32 × zM)) (a0 : Nat) (x1 : Int32) (x2 : Int32) (x3 : Int32) (a4 : Nat) (t0 : Nat) (m : zM) : Option (Int32 × zM) :=
  f_X1_gatherCandidates_b44 P rec_4 a0 x1 x2 x3 a4 (0 : Int32) t0 m
def f_X1_gatherCandidates_b4 (P : zSt)  : Nat → Nat → Int32 → Int32 → Int32 → zM → Option (Int32 × zM)
  | 0, _, _, _, _, _ => none
  | fu + 1, a0, x1, x2, x3, m =>
    (if (zf m 21 a0) ≤ x3 then
      zgd (zbo x2) (some (x2, m))
    else
      zl (zR P 20 a0) fun b13 =>
      zgd (zin x3 (zlen P b13)) <| zl (zr m b13 x3.toNatClampNeg) fun b17 =>
      (if (zf m 13 b17) = 0 then
        zb (f_X0_isAvailableIn P b17 x1 m) fun r33 m33 =>
        (if r33 = 0 then
          f_X1_gatherCandidates_b43 P (f_X1_gatherCandidates_b4 P fu) a0 x1 x2 x3 b17 b17 m33
        else
          f_X1_gatherCandidates_b44 P (f_X1_gatherCandidates_b4 P fu) a0 x1 x2 x3 b17 (1 : Int32) b17 m33)
      else
        f_X1_gatherCandidates_b43 P (f_X1_gatherCandidates_b4 P fu) a0 x1 x2 x3 b17 b17 m))
def f_X1_gatherCandidates (P : zSt) (a0 : Nat) (i1 : Int32) (m : zM) : Option (Int32 × zM) :=
  f_X1_gatherCandidates_b4 P zfuel a0 i1 (0 : Int32) (0 : Int32) m
def f_X5_staysNear_b20 (P : zSt)   (m : zM) : Option (Int32 × zM) :=
  zgd (zbo (1 : Int32)) (some ((1 : Int32), m))
def f_X5_staysNear (P : zSt) (a0 : Nat) (i1 : Int32) (i2 : Int32) (i3 : Int32) (i4 : Int32) (m : zM) : Option (Int32 × zM) :=
  zl ((i4 * i3)) fun v4 =>
  (if v4 ≤ 0 then
    f_X5_staysNear_b20 P m
  else
    (if ((100 : Int32) * i2) < v4 then
      zl (zR P 108 a0) fun b23 =>
      zgd (zin i1 (zlen P b23)) <|
      zdv v4 <|
      zgd (zin i1 (zlen P b23)) <| zl (zap m b23 i1.toNatClampNeg ((za m b23 i1.toNatClampNeg) + (((10000 : Int32) * i2) / v4))) fun m38 =>
      zl (zR P 108 a0) fun b40 =>
      zgd (zin i1 (zlen P b40)) <|
      (if (100 : Int32) ≤ (za m38 b40 i1.toNatClampNeg) then
        zl (zR P 108 a0) fun b53 =>
        zgd (zin i1 (zlen P b53)) <|
        zgd (zin i1 (zlen P b53)) <| zl (zap m38 b53 i1.toNatClampNeg ((za m38 b53 i1.toNatClampNeg) - (100 : Int32))) fun m62 =>
        zgd (zbo (1 : Int32)) (some ((1 : Int32), m62))
      else
        zgd (zbo (0 : Int32)) (some ((0 : Int32), m38)))
    else
      f_X5_staysNear_b20 P m))
def f_X1_narrow_b103 (P : zSt) (rec_11 : Nat → Int32 → Int32 → Int32 → Int32 → Int32 → Int32 → zM → Option (Int32 × zM)) (a0 : Nat) (x1 : Int32) (x2 : Int32) (x3 : Int32) (x4 : Int32) (x5 : Int32) (x6 : Int32) (m : zM) : Option (Int32 × zM) :=
  zl (x6 + (1 : Int32)) fun v103 =>
  rec_11 a0 x1 x2 x3 x4 x5 v103 m
def f_X1_narrow_b75 (P : zSt) (rec_11 : Nat → Int32 → Int32 → Int32 → Int32 → Int32 → Int32 → zM → Option (Int32 × zM)) (a0 : Nat) (x1 : Int32) (x2 : Int32) (x3 : Int32) (x4 : Int32) (x5 : Int32) (x6 : Int32) (a7 : Nat) (m : zM) : Option (Int32 × zM) :=
  zb (f_X0_isMemberOf P a7 x1 m) fun r78 m78 =>
  (if r78 = 0 then
    f_X1_narrow_b103 P rec_11 a0 x1 x2 x3 x4 x5 x6 m78
  else
    (if (zf m78 4 a7) = x2 then
      zl ((x5 + (zf m78 0 a7))) fun v101 =>
      f_X1_narrow_b103 P rec_11 a0 x1 x2 x3 x4 v101 x6 m78
    else
      f_X1_narrow_b103 P rec_11 a0 x1 x2 x3 x4 x5 x6 m78))
def f_X1_narrow_b57 (P : zSt) (rec_11 : Nat → Int32 → Int32 → Int32 → Int32 → Int32 → Int32 → zM → Option (Int32 × zM)) (a0 : Nat) (x1 : Int32) (x2 : Int32) (x3 : Int32) (x4 : Int32) (x5 : Int32) (x6 : Int32) (a7 : Nat) (m : zM) : Option (Int32 × zM) :=
  (if (zf m 2 a7) = 0 then
    f_X1_narrow_b75 P rec_11 a0 x1 x2 x3 x4 x5 x6 a7 m
  else
    zl ((x4 + (zf m 0 a7))) fun v73 =>
    f_X1_narrow_b75 P rec_11 a0 x1 x2 x3 v73 x5 x6 a7 m)
def f_X1_narrow_b210 (P : zSt) (rec_140 : Nat → Int32 → Int32 → Int32 → zM → Option (Int32 × zM)) (a0 : Nat) (x2 : Int32) (x6 : Int32) (x7 : Int32) (s0 : Int32) (t1 : Nat) (m : zM) : Option (Int32 × zM) :=
  zgd (zbo s0) <| zl (zfp m 2 t1 s0) fun m210 =>
  zl (x7 + (1 : Int32)) fun v213 =>
  rec_140 a0 x2 x6 v213 m210
def f_X1_narrow_b209 (P : zSt) (rec_140 : Nat → Int32 → Int32 → Int32 → zM → Option (Int32 × zM)) (a0 : Nat) (x2 : Int32) (x6 : Int32) (x7 : Int32) (t0 : Nat) (m : zM) : Option (Int32 × zM) :=
  f_X1_narrow_b210 P rec_140 a0 x2 x6 x7 (0 : Int32) t0 m
def f_X1_narrow_b178 (P : zSt) (rec_140 : Nat → Int32 → Int32 → Int32 → zM → Option (Int32 × zM)) (a0 : Nat) (x2 : Int32) (x6 : Int32) (x7 : Int32) (s0 : Int32) (m : zM) : Option (Int32 × zM) :=
  zl (zR P 20 a0) fun b181 =>
  zgd (zin x7 (zlen P b181)) <| zl (zr m b181 x7.toNatClampNeg) fun b186 =>
  zl (zR P 20 a0) fun b188 =>
  zgd (zin x7 (zlen P b188)) <| zl (zr m b188 x7.toNatClampNeg) fun b193 =>
  (if (zf m 2 b193) = 0 then
    f_X1_narrow_b209 P rec_140 a0 x2 x6 x7 b186 m
  else
    (if s0 = 0 then
      f_X1_narrow_b209 P rec_140 a0 x2 x6 x7 b186 m
    else
      f_X1_narrow_b210 P rec_140 a0 x2 x6 x7 (1 : Int32) b186 m))
def f_X1_narrow_b168 (P : zSt) (rec_140 : Nat → Int32 → Int32 → Int32 → zM → Option (Int32 × zM)) (a0 : Nat) (x2 : Int32) (x6 : Int32) (x7 : Int32) (s0 : Int32) (m : zM) : Option (Int32 × zM) :=
  (if s0 = x6 then
    f_X1_narrow_b178 P rec_140 a0 x2 x6 x7 (1 : Int32) m
  else
    f_X1_narrow_b178 P rec_140 a0 x2 x6 x7 (0 : Int32) m)
def f_X1_narrow_b140 (P : zSt)  : Nat → Nat → Int32 → Int32 → Int32 → zM → Option (Int32 × zM)
  | 0, _, _, _, _, _ => none
  | fu + 1, a0, x2, x6, x7, m =>
    (if (zf m 21 a0) ≤ x7 then
      some (0, m)
    else
      zl (zR P 20 a0) fun b150 =>
      zgd (zin x7 (zlen P b150)) <| zl (zr m b150 x7.toNatClampNeg) fun b155 =>
      (if (zf m 4 b155) = x2 then
        f_X1_narrow_b168 P (f_X1_narrow_b140 P fu) a0 x2 x6 x7 (1 : Int32) m
      else
        f_X1_narrow_b168 P (f_X1_narrow_b140 P fu) a0 x2 x6 x7 (0 : Int32) m))
def f_X1_narrow_b11 (P : zSt)  : Nat → Nat → Int32 → Int32 → Int32 → Int32 → Int32 → Int32 → zM → Option (Int32 × zM)
  | 0, _, _, _, _, _, _, _, _ => none
  | fu + 1, a0, x1, x2, x3, x4, x5, x6, m =>
    (if (zf m 21 a0) ≤ x6 then
      (if x3 ≤ 0 then
        some (0, m)
      else
        (if x4 ≤ 0 then
          some (0, m)
        else
          zl (zR P 22 a0) fun b119 =>
          zgd (zin x1 (zlen P b119)) <| zl (zr m b119 x1.toNatClampNeg) fun b123 =>
          zb (f_X5_staysNear P b123 x2 x3 x5 (zf m 25 a0) m) fun r132 m132 =>
          f_X1_narrow_b140 P zfuel a0 x2 r132 (0 : Int32) m132))
    else
      zl (zR P 20 a0) fun b21 =>
      zgd (zin x6 (zlen P b21)) <| zl (zr m b21 x6.toNatClampNeg) fun b26 =>
      (if (zf m 2 b26) = 0 then
        f_X1_narrow_b57 P (f_X1_narrow_b11 P fu) a0 x1 x2 x3 x4 x5 x6 b26 m
      else
        (if (zf m 4 b26) = x2 then
          zl ((x3 + (zf m 0 b26))) fun v53 =>
          f_X1_narrow_b75 P (f_X1_narrow_b11 P fu) a0 x1 x2 v53 x4 x5 x6 b26 m
        else
          f_X1_narrow_b57 P (f_X1_narrow_b11 P fu) a0 x1 x2 x3 x4 x5 x6 b26 m)))
def f_X1_narrow (P : zSt) (a0 : Nat) (i1 : Int32) (i2 : Int32) (m : zM) : Option (Int32 × zM) :=
  f_X1_narrow_b11 P zfuel a0 i1 i2 (0 : Int32) (0 : Int32) (0 : Int32) (0 : Int32) m
def f_X1_pickLeastUsed_b49 (P : zSt) (rec_4 : Nat → Int32 → Int32 → zM → Option (Int32 × zM)) (a0 : Nat) (x1 : Int32) (x2 : Int32) (m : zM) : Option (Int32 × zM) :=
  zl (x2 + (1 : Int32)) fun v49 =>
  rec_4 a0 x1 v49 m
def f_X1_pickLeastUsed_b47 (P : zSt) (rec_4 : Nat → Int32 → Int32 → zM → Option (Int32 × zM)) (a0 : Nat) (x2 : Int32) (m : zM) : Option (Int32 × zM) :=
  f_X1_pickLeastUsed_b49 P rec_4 a0 x2 x2 m
def f_X1_pickLeastUsed_b4 (P : zSt)  : Nat → Nat → Int32 → Int32 → zM → Option (Int32 × zM)
  | 0, _, _, _, _ => none
  | fu + 1, a0, x1, x2, m =>
    (if (zf m 21 a0) ≤ x2 then
      some (x1, m)
    else
      zl (zR P 20 a0) fun b13 =>
      zgd (zin x2 (zlen P b13)) <| zl (zr m b13 x2.toNatClampNeg) fun b17 =>
      (if (zf m 2 b17) = 0 then
        f_X1_pickLeastUsed_b49 P (f_X1_pickLeastUsed_b4 P fu) a0 x1 x2 m
      else
        (if x1 = (-1 : Int32) then
          f_X1_pickLeastUsed_b47 P (f_X1_pickLeastUsed_b4 P fu) a0 x2 m
        else
          zl (zR P 20 a0) fun b30 =>
          zgd (zin x2 (zlen P b30)) <| zl (zr m b30 x2.toNatClampNeg) fun b34 =>
          zl (zR P 20 a0) fun b36 =>
          zgd (zin x1 (zlen P b36)) <| zl (zr m b36 x1.toNatClampNeg) fun b40 =>
          zb (f_X0_isLessUsedThan P b34 b40 m) fun r41 m41 =>
          (if r41 = 0 then
            f_X1_pickLeastUsed_b49 P (f_X1_pickLeastUsed_b4 P fu) a0 x1 x2 m41
          else
            f_X1_pickLeastUsed_b47 P (f_X1_pickLeastUsed_b4 P fu) a0 x2 m41))))
def f_X1_pickLeastUsed (P : zSt) (a0 : Nat) (m : zM) : Option (Int32 × zM) :=
  f_X1_pickLeastUsed_b4 P zfuel a0 (-1 : Int32) (0 : Int32) m
def f_X9_chooseByWeights_13_b79 (P : zSt) (rec_7 : Nat → Int32 → Int32 → Int32 → Int32 → zM → Option (Int32 × zM)) (a0 : Nat) (x1 : Int32) (x2 : Int32) (x3 : Int32) (x4 : Int32) (m : zM) : Option (Int32 × zM) :=
  zl (x4 + (1 : Int32)) fun v79 =>
  rec_7 a0 x1 x2 x3 v79 m
def f_X9_chooseByWeights_13_b76 (P : zSt) (rec_7 : Nat → Int32 → Int32 → Int32 → Int32 → zM → Option (Int32 × zM)) (a0 : Nat) (x1 : Int32) (x3 : Int32) (x4 : Int32) (m : zM) : Option (Int32 × zM) :=
  f_X9_chooseByWeights_13_b79 P rec_7 a0 x1 x4 x3 x4 m
def f_X9_chooseByWeights_13_b102 (P : zSt)  (x2 : Int32) (m : zM) : Option (Int32 × zM) :=
  some (x2, m)
def f_X9_chooseByWeights_13_b85 (P : zSt)  (a0 : Nat) (x2 : Int32) (x3 : Int32) (m : zM) : Option (Int32 × zM) :=
  (if x2 = (-1 : Int32) then
    f_X9_chooseByWeights_13_b102 P x2 m
  else
    zgd (zin x2 (zlen P a0)) <| zl (zr m a0 x2.toNatClampNeg) fun b92 =>
    zl (zfp m 1 b92 ((zf m 1 b92) - x3)) fun m99 =>
    f_X9_chooseByWeights_13_b102 P x2 m99)
def f_X9_chooseByWeights_13_b7 (P : zSt)  : Nat → Nat → Int32 → Int32 → Int32 → Int32 → zM → Option (Int32 × zM)
  | 0, _, _, _, _, _, _ => none
  | fu + 1, a0, x1, x2, x3, x4, m =>
    (if x1 ≤ x4 then
      f_X9_chooseByWeights_13_b85 P a0 x2 x3 m
    else
      (if (Int32.ofNat (zlen P a0)) ≤ x4 then
        f_X9_chooseByWeights_13_b85 P a0 x2 x3 m
      else
        zgd (zin x4 (zlen P a0)) <| zl (zr m a0 x4.toNatClampNeg) fun b23 =>
        (if (zf m 2 b23) = 0 then
          f_X9_chooseByWeights_13_b79 P (f_X9_chooseByWeights_13_b7 P fu) a0 x1 x2 x3 x4 m
        else
          zl (zfp m 1 b23 ((zf m 1 b23) + (zf m 0 b23))) fun m46 =>
          zl ((x3 + (zf m46 0 b23))) fun v56 =>
          (if x2 = (-1 : Int32) then
            f_X9_chooseByWeights_13_b76 P (f_X9_chooseByWeights_13_b7 P fu) a0 x1 v56 x4 m46
          else
            zgd (zin x2 (zlen P a0)) <| zl (zr m46 a0 x2.toNatClampNeg) fun b69 =>
            (if (zf m46 1 b23) ≤ (zf m46 1 b69) then
              f_X9_chooseByWeights_13_b79 P (f_X9_chooseByWeights_13_b7 P fu) a0 x1 x2 v56 x4 m46
            else
              f_X9_chooseByWeights_13_b76 P (f_X9_chooseByWeights_13_b7 P fu) a0 x1 v56 x4 m46)))))
def f_X9_chooseByWeights_13 (P : zSt) (a0 : Nat) (i1 : Int32) (m : zM) : Option (Int32 × zM) :=
  f_X9_chooseByWeights_13_b7 P zfuel a0 i1 (-1 : Int32) (0 : Int32) (0 : Int32) m
def f_X1_pickSticky_b46 (P : zSt)  (x3 : Int32) (m : zM) : Option (Int32 × zM) :=
  some (x3, m)
def f_X1_pickSticky_b27 (P : zSt)  (a0 : Nat) (a1 : Nat) (x2 : Int32) (m : zM) : Option (Int32 × zM) :=
  zl (zR P 20 a0) fun b28 =>
  zb (f_X9_chooseByWeights_13 P b28 (zf m 21 a0) m) fun r35 m35 =>
  zl (zR P 109 a1) fun b40 =>
  zgd (zin x2 (zlen P b40)) <| zl (zap m35 b40 x2.toNatClampNeg r35) fun m45 =>
  f_X1_pickSticky_b46 P r35 m45
def f_X1_pickSticky (P : zSt) (a0 : Nat) (a1 : Nat) (i2 : Int32) (m : zM) : Option (Int32 × zM) :=
  zl (zR P 109 a1) fun b1 =>
  zgd (zin i2 (zlen P b1)) <|
  zl ((za m b1 i2.toNatClampNeg)) fun v6 =>
  zb (f_X1_hasBackend P a0 v6 m) fun r9 m9 =>
  (if r9 = 0 then
    f_X1_pickSticky_b27 P a0 a1 i2 m9
  else
    zl (zR P 20 a0) fun b16 =>
    zgd (zin v6 (zlen P b16)) <| zl (zr m9 b16 v6.toNatClampNeg) fun b20 =>
    (if (zf m9 2 b20) = 0 then
      f_X1_pickSticky_b27 P a0 a1 i2 m9
    else
      f_X1_pickSticky_b46 P v6 m9))
def f_X1_pick (P : zSt) (a0 : Nat) (i1 : Int32) (i2 : Int32) (i3 : Int32) (m : zM) : Option (Int32 × zM) :=
  zb (f_X1_narrow P a0 i1 i3 m) fun _ m3 =>
  zl (zR P 22 a0) fun b7 =>
  zgd (zin i1 (zlen P b7)) <| zl (zr m3 b7 i1.toNatClampNeg) fun b11 =>
  (if (zf m3 100 b11) = (1 : Int32) then
    zb (f_X1_pickLeastUsed P a0 m3) fun r41 m41 =>
    some (r41, m41)
  else
    (if (zf m3 100 b11) = (2 : Int32) then
      zl (zR P 22 a0) fun b47 =>
      zgd (zin i1 (zlen P b47)) <| zl (zr m3 b47 i1.toNatClampNeg) fun b51 =>
      zb (f_X1_pickSticky P a0 b51 i2 m3) fun r53 m53 =>
      some (r53, m53)
    else
      zl (zR P 20 a0) fun b58 =>
      zb (f_X9_chooseByWeights_13 P b58 (zf m3 21 a0) m3) fun r65 m65 =>
      some (r65, m65)))
def f_X5_earnTokens (P : zSt) (a0 : Nat) (m : zM) : Option (Int32 × zM) :=
  zl (zfp m 105 a0 (if ((zf m 105 a0) + (zf m 104 a0)) < (1000 : Int32) then ((zf m 105 a0) + (zf m 104 a0)) else (1000 : Int32))) fun m16 =>
  some (0, m16)
def f_X1_serve_b161 (P : zSt) (rec_63 : Nat → Int32 → Int32 → Int32 → Int32 → Int32 → Int32 → zM → Option (Int32 × zM)) (a0 : Nat) (x1 : Int32) (x2 : Int32) (x3 : Int32) (x4 : Int32) (x6 : Int32) (s0 : Int32) (m : zM) : Option (Int32 × zM) :=
  zl (x6 + (1 : Int32)) fun v163 =>
  rec_63 a0 x1 x2 x3 x4 s0 v163 m
def f_X1_serve_b160 (P : zSt) (rec_63 : Nat → Int32 → Int32 → Int32 → Int32 → Int32 → Int32 → zM → Option (Int32 × zM)) (a0 : Nat) (x1 : Int32) (x2 : Int32) (x3 : Int32) (x4 : Int32) (x6 : Int32) (m : zM) : Option (Int32 × zM) :=
  f_X1_serve_b161 P rec_63 a0 x1 x2 x3 x4 x6 (0 : Int32) m
def f_X1_serve_b95 (P : zSt) (rec_63 : Nat → Int32 → Int32 → Int32 → Int32 → Int32 → Int32 → zM → Option (Int32 × zM)) (a0 : Nat) (x1 : Int32) (x2 : Int32) (x3 : Int32) (x4 : Int32) (x6 : Int32) (m : zM) : Option (Int32 × zM) :=
  zb (f_X1_pick P a0 x1 x3 x4 m) fun r100 m100 =>
  zb (f_X1_attempt P a0 r100 x4 m100) fun r110 m110 =>
  (if r110 = 0 then
    zb (f_X1_gatherCandidates P a0 x1 m110) fun r136 m136 =>
    (if r136 = 0 then
      f_X1_serve_b160 P rec_63 a0 x1 x2 x3 x4 x6 m136
    else
      zl (zR P 22 a0) fun b143 =>
      zgd (zin x1 (zlen P b143)) <| zl (zr m136 b143 x1.toNatClampNeg) fun b147 =>
      (if (zf m136 105 b147) < (100 : Int32) then
        f_X1_serve_b160 P rec_63 a0 x1 x2 x3 x4 x6 m136
      else
        f_X1_serve_b161 P rec_63 a0 x1 x2 x3 x4 x6 (1 : Int32) m136))
  else
    zl (zR P 22 a0) fun b117 =>
    zgd (zin x1 (zlen P b117)) <| zl (zr m110 b117 x1.toNatClampNeg) fun b121 =>
    zl (zfp m110 107 b121 ((zf m110 107 b121) + (1 : Int32))) fun m128 =>
    some (r100, m128))
def f_X1_serve_b169 (P : zSt)   (m : zM) : Option (Int32 × zM) :=
  some ((-6 : Int32), m)
def f_X1_serve_b63 (P : zSt)  : Nat → Nat → Int32 → Int32 → Int32 → Int32 → Int32 → Int32 → zM → Option (Int32 × zM)
  | 0, _, _, _, _, _, _, _, _ => none
  | fu + 1, a0, x1, x2, x3, x4, x5, x6, m =>
    (if x2 ≤ x6 then
      f_X1_serve_b169 P m
    else
      (if x5 = 0 then
        f_X1_serve_b169 P m
      else
        (if x6 ≤ 0 then
          f_X1_serve_b95 P (f_X1_serve_b63 P fu) a0 x1 x2 x3 x4 x6 m
        else
          zl (zR P 22 a0) fun b80 =>
          zgd (zin x1 (zlen P b80)) <| zl (zr m b80 x1.toNatClampNeg) fun b84 =>
          zl (zfp m 105 b84 ((zf m 105 b84) - (100 : Int32))) fun m92 =>
          f_X1_serve_b95 P (f_X1_serve_b63 P fu) a0 x1 x2 x3 x4 x6 m92)))
def f_X1_serve_b27 (P : zSt)  : Nat → Nat → Int32 → Int32 → Int32 → Int32 → Int32 → zM → Option (Int32 × zM)
  | 0, _, _, _, _, _, _, _ => none
  | fu + 1, a0, x1, x2, x3, x4, x5, m =>
    (if (zf m 21 a0) ≤ x5 then
      zb (f_X1_gatherCandidates P a0 x1 m) fun r55 m55 =>
      f_X1_serve_b63 P zfuel a0 x1 x2 x3 x4 r55 (0 : Int32) m55
    else
      zl (zR P 20 a0) fun b37 =>
      zgd (zin x5 (zlen P b37)) <| zl (zr m b37 x5.toNatClampNeg) fun b42 =>
      zgd (zbo (0 : Int32)) <| zl (zfp m 13 b42 (0 : Int32)) fun m44 =>
      zl (x5 + (1 : Int32)) fun v47 =>
      f_X1_serve_b27 P fu a0 x1 x2 x3 x4 v47 m44)
def f_X1_serve (P : zSt) (a0 : Nat) (i1 : Int32) (i2 : Int32) (i3 : Int32) (i4 : Int32) (m : zM) : Option (Int32 × zM) :=
  zl (zR P 22 a0) fun b1 =>
  zgd (zin i1 (zlen P b1)) <| zl (zr m b1 i1.toNatClampNeg) fun b5 =>
  zl (zfp m 106 b5 ((zf m 106 b5) + (1 : Int32))) fun m12 =>
  zl (zR P 22 a0) fun b16 =>
  zgd (zin i1 (zlen P b16)) <| zl (zr m12 b16 i1.toNatClampNeg) fun b20 =>
  zb (f_X5_earnTokens P b20 m12) fun _ m21 =>
  f_X1_serve_b27 P zfuel a0 i1 i2 i3 i4 (0 : Int32) m21
def f_X1_tally (P : zSt) (a0 : Nat) (i1 : Int32) (m : zM) : Option (Int32 × zM) :=
  zl (zfp m 27 a0 ((zf m 27 a0) + (1 : Int32))) fun m7 =>
  zsw i1 (-6)
  [(zl (zfp m7 31 a0 ((zf m7 31 a0) + (1 : Int32))) fun m69 =>
    some (0, m69)),
  (zl (zfp m7 30 a0 ((zf m7 30 a0) + (1 : Int32))) fun m56 =>
    some (0, m56)),
  (zl (zfp m7 29 a0 ((zf m7 29 a0) + (1 : Int32))) fun m43 =>
    some (0, m43))]
  (zl (zfp m7 28 a0 ((zf m7 28 a0) + (1 : Int32))) fun m82 =>
    some (0, m82))
def f_X1_answer_b75 (P : zSt)  (a0 : Nat) (x4 : Int32) (m : zM) : Option (Int32 × zM) :=
  zb (f_X1_tally P a0 x4 m) fun _ m78 =>
  some (x4, m78)
def f_X1_answer_b60 (P : zSt)  (a0 : Nat) (x1 : Int32) (s0 : Int32) (m : zM) : Option (Int32 × zM) :=
  zl (zR P 23 a0) fun b64 =>
  zgd (zin x1 (zlen P b64)) <| zl (zr m b64 x1.toNatClampNeg) fun b68 =>
  zb (f_X1_mirror P a0 (zf m 66 b68) m) fun _ m72 =>
  f_X1_answer_b75 P a0 s0 m72
def f_X1_answer (P : zSt) (a0 : Nat) (i1 : Int32) (i2 : Int32) (i3 : Int32) (m : zM) : Option (Int32 × zM) :=
  zl (zR P 35 a0) fun b1 =>
  zl (zfp m 161 b1 (0 : Int32)) fun m5 =>
  zb (f_X1_hasRule P a0 i1 m5) fun r14 m14 =>
  (if r14 = 0 then
    f_X1_answer_b75 P a0 (-4 : Int32) m14
  else
    zl (zR P 23 a0) fun b22 =>
    zgd (zin i1 (zlen P b22)) <| zl (zr m14 b22 i1.toNatClampNeg) fun b26 =>
    zb (f_X1_chooseService P a0 b26 m14) fun r27 m27 =>
    (if r27 = (-1 : Int32) then
      f_X1_answer_b60 P a0 i1 (-5 : Int32) m27
    else
      zl (zR P 23 a0) fun b47 =>
      zgd (zin i1 (zlen P b47)) <| zl (zr m27 b47 i1.toNatClampNeg) fun b51 =>
      zb (f_X1_serve P a0 r27 (zf m27 65 b51) i2 i3 m27) fun r57 m57 =>
      f_X1_answer_b60 P a0 i1 r57 m57))
def f_X1_serviceProperty (P : zSt) (a0 : Nat) (i1 : Int32) (i2 : Int32) (m : zM) : Option (Int32 × zM) :=
  zl (zR P 22 a0) fun b1 =>
  zgd (zin i1 (zlen P b1)) <| zl (zr m b1 i1.toNatClampNeg) fun b5 =>
  zsw i2 (0)
  [(some ((zf m 100 b5), m)),
  (some ((zf m 101 b5), m)),
  (some ((zf m 102 b5), m)),
  (some ((zf m 103 b5), m)),
  (some ((zf m 104 b5), m)),
  (some ((zf m 105 b5), m)),
  (zb (f_X1_countMembers P a0 i1 (0 : Int32) m) fun r109 m109 =>
    some (r109, m109)),
  (zb (f_X1_countMembers P a0 i1 (1 : Int32) m) fun r116 m116 =>
    some (r116, m116)),
  (some ((zf m 106 b5), m)),
  (some ((zf m 107 b5), m)),
  (zl (zR P 108 b5) fun b131 =>
    zgd (zin (0 : Int32) (zlen P b131)) <|
    some ((za m b131 (0 : Int32).toNatClampNeg), m)),
  (zl (zR P 108 b5) fun b138 =>
    zgd (zin (1 : Int32) (zlen P b138)) <|
    some ((za m b138 (1 : Int32).toNatClampNeg), m)),
  (zl (zR P 108 b5) fun b145 =>
    zgd (zin (2 : Int32) (zlen P b145)) <|
    some ((za m b145 (2 : Int32).toNatClampNeg), m))]
  (some ((-2 : Int32), m))
def f_X1_property (P : zSt) (a0 : Nat) (i1 : Int32) (m : zM) : Option (Int32 × zM) :=
  zsw i1 (0)
  [(some ((zf m 21 a0), m)),
  (some ((zf m 24 a0), m)),
  (some ((zf m 27 a0), m)),
  (some ((zf m 28 a0), m)),
  (some ((zf m 29 a0), m)),
  (some ((zf m 30 a0), m)),
  (some ((zf m 31 a0), m)),
  (some ((zf m 32 a0), m)),
  (some ((zf m 33 a0), m)),
  (some ((zf m 34 a0), m)),
  (some ((zf m 26 a0), m))]
  (some ((-2 : Int32), m))
def f_X2_start (P : zSt) (a0 : Nat) (m : zM) : Option (Int32 × zM) :=
  zl (zfp m 45 a0 (0 : Int32)) fun m2 =>
  zgd (zbo (1 : Int32)) <| zl (zfp m2 46 a0 (1 : Int32)) fun m7 =>
  some (0, m7)
def f_X2_stop (P : zSt) (a0 : Nat) (m : zM) : Option (Int32 × zM) :=
  zl (zfp m 45 a0 (0 : Int32)) fun m2 =>
  zgd (zbo (0 : Int32)) <| zl (zfp m2 46 a0 (0 : Int32)) fun m7 =>
  some (0, m7)
def f_X2_makesRoomFor_b15 (P : zSt)  (a0 : Nat) (m : zM) : Option (Int32 × zM) :=
  zgd (zbo (zf m 46 a0)) (some ((zf m 46 a0), m))
def f_X2_makesRoomFor (P : zSt) (a0 : Nat) (i1 : Int32) (m : zM) : Option (Int32 × zM) :=
  (if ((zf m 45 a0) + i1) ≤ (60 : Int32) then
    f_X2_makesRoomFor_b15 P a0 m
  else
    zb (f_X2_stop P a0 m) fun _ m12 =>
    f_X2_makesRoomFor_b15 P a0 m12)
def f_X2_addRequest (P : zSt) (a0 : Nat) (i1 : Int32) (i2 : Int32) (i3 : Int32) (i4 : Int32) (m : zM) : Option (Int32 × zM) :=
  zb (f_X2_makesRoomFor P a0 (1 : Int32) m) fun r2 m2 =>
  (if r2 = 0 then
    some (0, m2)
  else
    zl (zR P 40 a0) fun b9 =>
    zgd (zin (zf m2 45 a0) (zlen P b9)) <| zl (zap m2 b9 (zf m2 45 a0).toNatClampNeg i1) fun m17 =>
    zl (zR P 41 a0) fun b19 =>
    zgd (zin (zf m17 45 a0) (zlen P b19)) <| zl (zap m17 b19 (zf m17 45 a0).toNatClampNeg i2) fun m27 =>
    zl (zR P 42 a0) fun b29 =>
    zgd (zin (zf m27 45 a0) (zlen P b29)) <| zl (zap m27 b29 (zf m27 45 a0).toNatClampNeg i3) fun m37 =>
    zl (zR P 43 a0) fun b39 =>
    zgd (zin (zf m37 45 a0) (zlen P b39)) <| zl (zap m37 b39 (zf m37 45 a0).toNatClampNeg i4) fun m48 =>
    zl (zfp m48 45 a0 ((zf m48 45 a0) + (1 : Int32))) fun m56 =>
    some (0, m56))
def f_X2_addTicks_b10 (P : zSt)  : Nat → Nat → Int32 → Int32 → zM → Option (Int32 × zM)
  | 0, _, _, _, _ => none
  | fu + 1, a0, x1, x2, m =>
    (if x1 ≤ x2 then
      some (0, m)
    else
      zl (zR P 40 a0) fun b16 =>
      zgd (zin (zf m 45 a0) (zlen P b16)) <| zl (zap m b16 (zf m 45 a0).toNatClampNeg (-2 : Int32)) fun m25 =>
      zl (zfp m25 45 a0 ((zf m25 45 a0) + (1 : Int32))) fun m33 =>
      zl (x2 + (1 : Int32)) fun v36 =>
      f_X2_addTicks_b10 P fu a0 x1 v36 m33)
def f_X2_addTicks (P : zSt) (a0 : Nat) (i1 : Int32) (m : zM) : Option (Int32 × zM) :=
  zb (f_X2_makesRoomFor P a0 i1 m) fun r2 m2 =>
  (if r2 = 0 then
    some (0, m2)
  else
    f_X2_addTicks_b10 P zfuel a0 i1 (0 : Int32) m2)
def f_X2_changedAnswers_b41 (P : zSt) (rec_4 : Nat → Int32 → Int32 → zM → Option (Int32 × zM)) (a0 : Nat) (x1 : Int32) (x2 : Int32) (m : zM) : Option (Int32 × zM) :=
  zl (x2 + (1 : Int32)) fun v41 =>
  rec_4 a0 x1 v41 m
def f_X2_changedAnswers_b4 (P : zSt)  : Nat → Nat → Int32 → Int32 → zM → Option (Int32 × zM)
  | 0, _, _, _, _ => none
  | fu + 1, a0, x1, x2, m =>
    (if (zf m 45 a0) ≤ x2 then
      some (x1, m)
    else
      zl (zR P 40 a0) fun b13 =>
      zgd (zin x2 (zlen P b13)) <|
      (if (za m b13 x2.toNatClampNeg) = (-2 : Int32) then
        f_X2_changedAnswers_b41 P (f_X2_changedAnswers_b4 P fu) a0 x1 x2 m
      else
        zl (zR P 44 a0) fun b24 =>
        zgd (zin x2 (zlen P b24)) <|
        zl (zR P 43 a0) fun b30 =>
        zgd (zin x2 (zlen P b30)) <|
        (if (za m b24 x2.toNatClampNeg) = (za m b30 x2.toNatClampNeg) then
          f_X2_changedAnswers_b41 P (f_X2_changedAnswers_b4 P fu) a0 x1 x2 m
        else
          zl (x1 + (1 : Int32)) fun v38 =>
          f_X2_changedAnswers_b41 P (f_X2_changedAnswers_b4 P fu) a0 v38 x2 m)))
def f_X2_changedAnswers (P : zSt) (a0 : Nat) (m : zM) : Option (Int32 × zM) :=
  f_X2_changedAnswers_b4 P zfuel a0 (0 : Int32) (0 : Int32) m
def f_X2_answersByBackends_b35 (P : zSt) (rec_4 : Nat → Int32 → Int32 → zM → Option (Int32 × zM)) (a0 : Nat) (x1 : Int32) (x2 : Int32) (m : zM) : Option (Int32 × zM) :=
  zl (x2 + (1 : Int32)) fun v35 =>
  rec_4 a0 x1 v35 m
def f_X2_answersByBackends_b4 (P : zSt)  : Nat → Nat → Int32 → Int32 → zM → Option (Int32 × zM)
  | 0, _, _, _, _ => none
  | fu + 1, a0, x1, x2, m =>
    (if (zf m 45 a0) ≤ x2 then
      some (x1, m)
    else
      zl (zR P 40 a0) fun b13 =>
      zgd (zin x2 (zlen P b13)) <|
      (if (za m b13 x2.toNatClampNeg) = (-2 : Int32) then
        f_X2_answersByBackends_b35 P (f_X2_answersByBackends_b4 P fu) a0 x1 x2 m
      else
        zl (zR P 44 a0) fun b24 =>
        zgd (zin x2 (zlen P b24)) <|
        (if (za m b24 x2.toNatClampNeg) < 0 then
          f_X2_answersByBackends_b35 P (f_X2_answersByBackends_b4 P fu) a0 x1 x2 m
        else
          zl (x1 + (1 : Int32)) fun v32 =>
          f_X2_answersByBackends_b35 P (f_X2_answersByBackends_b4 P fu) a0 v32 x2 m)))
def f_X2_answersByBackends (P : zSt) (a0 : Nat) (m : zM) : Option (Int32 × zM) :=
  f_X2_answersByBackends_b4 P zfuel a0 (0 : Int32) (0 : Int32) m
def f_X3_begin (P : zSt) (a0 : Nat) (m : zM) : Option (Int32 × zM) :=
  zl (zR P 60 a0) fun b1 =>
  zb (f_X7_clear P b1 m) fun _ m4 =>
  zl (zfp m4 61 a0 (0 : Int32)) fun m9 =>
  zl (zfp m9 62 a0 (9 : Int32)) fun m15 =>
  zl (zfp m15 64 a0 (0 : Int32)) fun m20 =>
  zl (zfp m20 65 a0 (1 : Int32)) fun m25 =>
  zl (zfp m25 66 a0 (-1 : Int32)) fun m30 =>
  some (0, m30)
def f_X3_hasTarget_b2 (P : zSt)  : Nat → Nat → Int32 → Int32 → zM → Option (Int32 × zM)
  | 0, _, _, _, _ => none
  | fu + 1, a0, x1, x2, m =>
    (if (zf m 64 a0) ≤ x2 then
      zgd (zbo (0 : Int32)) (some ((0 : Int32), m))
    else
      zl (zR P 63 a0) fun b11 =>
      zgd (zin x2 (zlen P b11)) <| zl (zr m b11 x2.toNatClampNeg) fun b15 =>
      (if (zf m 123 b15) = x1 then
        zgd (zbo (1 : Int32)) (some ((1 : Int32), m))
      else
        zl (x2 + (1 : Int32)) fun v25 =>
        f_X3_hasTarget_b2 P fu a0 x1 v25 m))
def f_X3_hasTarget (P : zSt) (a0 : Nat) (i1 : Int32) (m : zM) : Option (Int32 × zM) :=
  f_X3_hasTarget_b2 P zfuel a0 i1 (0 : Int32) m
def f_X6_begin (P : zSt) (a0 : Nat) (i1 : Int32) (i2 : Int32) (m : zM) : Option (Int32 × zM) :=
  zl (zfp m 123 a0 i1) fun m2 =>
  zl (zfp m2 120 a0 i2) fun m7 =>
  zl (zfp m7 121 a0 (0 : Int32)) fun m12 =>
  zl (zfp m12 124 a0 (0 : Int32)) fun m17 =>
  some (0, m17)
def f_X3_takeTarget (P : zSt) (a0 : Nat) (i1 : Int32) (i2 : Int32) (m : zM) : Option (Int32 × zM) :=
  (if (3 : Int32) ≤ (zf m 64 a0) then
    some (0, m)
  else
    zl (zR P 63 a0) fun b9 =>
    zgd (zin (zf m 64 a0) (zlen P b9)) <| zl (zr m b9 (zf m 64 a0).toNatClampNeg) fun b16 =>
    zb (f_X6_begin P b16 i1 i2 m) fun _ m19 =>
    zl (zfp m19 64 a0 ((zf m19 64 a0) + (1 : Int32))) fun m29 =>
    some (0, m29))
def f_X7_putDigit (P : zSt) (a0 : Nat) (i1 : Int32) (m : zM) : Option (Int32 × zM) :=
  zb (f_X7_put P a0 ((48 : Int32) + i1) m) fun _ m5 =>
  some (0, m5)
def f_X3_printTo_b132 (P : zSt) (rec_64 : Nat → Nat → Int32 → zM → Option (Int32 × zM)) (a0 : Nat) (a1 : Nat) (x2 : Int32) (m : zM) : Option (Int32 × zM) :=
  zl (x2 + (1 : Int32)) fun v132 =>
  rec_64 a0 a1 v132 m
def f_X3_printTo_b84 (P : zSt) (rec_64 : Nat → Nat → Int32 → zM → Option (Int32 × zM)) (a0 : Nat) (a1 : Nat) (x2 : Int32) (s0 : Int32) (t1 : Nat) (m : zM) : Option (Int32 × zM) :=
  zb (f_X7_put P t1 s0 m) fun _ m84 =>
  zl (zR P 63 a0) fun b89 =>
  zgd (zin x2 (zlen P b89)) <| zl (zr m84 b89 x2.toNatClampNeg) fun b93 =>
  zb (f_X7_putDigit P a1 (zf m84 123 b93) m84) fun _ m97 =>
  zl (zR P 63 a0) fun b101 =>
  zgd (zin x2 (zlen P b101)) <| zl (zr m97 b101 x2.toNatClampNeg) fun b105 =>
  (if (zf m97 120 b105) = (1 : Int32) then
    f_X3_printTo_b132 P rec_64 a0 a1 x2 m97
  else
    zb (f_X7_put P a1 (58 : Int32) m97) fun _ m116 =>
    zl (zR P 63 a0) fun b121 =>
    zgd (zin x2 (zlen P b121)) <| zl (zr m116 b121 x2.toNatClampNeg) fun b125 =>
    zb (f_X7_putDigit P a1 (zf m116 120 b125) m116) fun _ m129 =>
    f_X3_printTo_b132 P rec_64 a0 a1 x2 m129)
def f_X3_printTo_b160 (P : zSt)  (a0 : Nat) (a1 : Nat) (m : zM) : Option (Int32 × zM) :=
  (if (zf m 65 a0) = (1 : Int32) then
    some (0, m)
  else
    zb (f_X7_put P a1 (42 : Int32) m) fun _ m171 =>
    zb (f_X7_putDigit P a1 (zf m171 65 a0) m171) fun _ m179 =>
    some (0, m179))
def f_X3_printTo_b64 (P : zSt)  : Nat → Nat → Nat → Int32 → zM → Option (Int32 × zM)
  | 0, _, _, _, _ => none
  | fu + 1, a0, a1, x2, m =>
    (if (zf m 64 a0) ≤ x2 then
      (if (zf m 66 a0) = (-1 : Int32) then
        f_X3_printTo_b160 P a0 a1 m
      else
        zb (f_X7_put P a1 (126 : Int32) m) fun _ m149 =>
        zb (f_X7_putDigit P a1 (zf m149 66 a0) m149) fun _ m157 =>
        f_X3_printTo_b160 P a0 a1 m157)
    else
      (if x2 = 0 then
        f_X3_printTo_b84 P (f_X3_printTo_b64 P fu) a0 a1 x2 (61 : Int32) a1 m
      else
        f_X3_printTo_b84 P (f_X3_printTo_b64 P fu) a0 a1 x2 (44 : Int32) a1 m))
def f_X3_printTo_b62 (P : zSt)  (a0 : Nat) (a1 : Nat) (m : zM) : Option (Int32 × zM) :=
  f_X3_printTo_b64 P zfuel a0 a1 (0 : Int32) m
def f_X3_printTo_b28 (P : zSt)  (a0 : Nat) (a1 : Nat) (m : zM) : Option (Int32 × zM) :=
  zb (f_X7_put P a1 (91 : Int32) m) fun _ m31 =>
  zb (f_X7_putDigit P a1 (zf m31 61 a0) m31) fun _ m39 =>
  zb (f_X7_put P a1 (45 : Int32) m39) fun _ m45 =>
  zb (f_X7_putDigit P a1 (zf m45 62 a0) m45) fun _ m53 =>
  zb (f_X7_put P a1 (93 : Int32) m53) fun _ m59 =>
  f_X3_printTo_b62 P a0 a1 m59
def f_X3_printTo (P : zSt) (a0 : Nat) (a1 : Nat) (m : zM) : Option (Int32 × zM) :=
  zb (f_X7_clear P a1 m) fun _ m1 =>
  zl (zR P 60 a0) fun b6 =>
  zb (f_X7_putAll P a1 b6 m1) fun _ m9 =>
  (if (zf m9 61 a0) = 0 then
    (if (zf m9 62 a0) = (9 : Int32) then
      f_X3_printTo_b62 P a0 a1 m9
    else
      f_X3_printTo_b28 P a0 a1 m9)
  else
    f_X3_printTo_b28 P a0 a1 m9)
def f_X4_readDigit (P : zSt) (a0 : Nat) (i1 : Int32) (i2 : Int32) (m : zM) : Option (Int32 × zM) :=
  zl (zR P 80 a0) fun b1 =>
  zb (f_X7_signAt P b1 (zf m 82 a0) m) fun r8 m8 =>
  zl ((r8 - (48 : Int32))) fun v14 =>
  zb (f_X10_isWithin P v14 i1 i2 m8) fun r18 m18 =>
  (if r18 = 0 then
    some ((-1 : Int32), m18)
  else
    zl (zfp m18 82 a0 ((zf m18 82 a0) + (1 : Int32))) fun m33 =>
    some (v14, m33))
def f_X4_readSign (P : zSt) (a0 : Nat) (i1 : Int32) (m : zM) : Option (Int32 × zM) :=
  zl (zR P 80 a0) fun b1 =>
  zb (f_X7_signAt P b1 (zf m 82 a0) m) fun r8 m8 =>
  (if r8 = i1 then
    zl (zfp m8 82 a0 ((zf m8 82 a0) + (1 : Int32))) fun m24 =>
    zgd (zbo (1 : Int32)) (some ((1 : Int32), m24))
  else
    zgd (zbo (0 : Int32)) (some ((0 : Int32), m8)))
def f_X4_readAttempts (P : zSt) (a0 : Nat) (m : zM) : Option (Int32 × zM) :=
  zb (f_X4_readSign P a0 (42 : Int32) m) fun r3 m3 =>
  (if r3 = 0 then
    zgd (zbo (1 : Int32)) (some ((1 : Int32), m3))
  else
    zl (zR P 81 a0) fun b12 =>
    zb (f_X4_readDigit P a0 (1 : Int32) (4 : Int32) m3) fun r18 m18 =>
    zl (zfp m18 65 b12 r18) fun m21 =>
    zl (zR P 81 a0) fun b25 =>
    (if (zf m21 65 b25) = (-1 : Int32) then
      zgd (zbo (0 : Int32)) (some ((0 : Int32), m21))
    else
      zgd (zbo (1 : Int32)) (some ((1 : Int32), m21))))
def f_X10_isPathSign_b17 (P : zSt)   (m : zM) : Option (Int32 × zM) :=
  zgd (zbo (1 : Int32)) (some ((1 : Int32), m))
def f_X10_isPathSign (P : zSt) (i0 : Int32) (m : zM) : Option (Int32 × zM) :=
  (if i0 = (47 : Int32) then
    f_X10_isPathSign_b17 P m
  else
    zb (f_X10_isWithin P i0 (97 : Int32) (122 : Int32) m) fun r11 m11 =>
    (if r11 = 0 then
      zgd (zbo (0 : Int32)) (some ((0 : Int32), m11))
    else
      f_X10_isPathSign_b17 P m11))
def f_X4_readPrefix_b80 (P : zSt)   (m : zM) : Option (Int32 × zM) :=
  zgd (zbo (1 : Int32)) (some ((1 : Int32), m))
def f_X4_readPrefix_b15 (P : zSt)  : Nat → Nat → zM → Option (Int32 × zM)
  | 0, _, _ => none
  | fu + 1, a0, m =>
    zl (zR P 80 a0) fun b20 =>
    (if (zf m 141 b20) ≤ (zf m 82 a0) then
      f_X4_readPrefix_b80 P m
    else
      zl (zR P 80 a0) fun b30 =>
      zb (f_X7_signAt P b30 (zf m 82 a0) m) fun r37 m37 =>
      zb (f_X10_isPathSign P r37 m37) fun r40 m40 =>
      (if r40 = 0 then
        f_X4_readPrefix_b80 P m40
      else
        zl (zR P 81 a0) fun b47 =>
        zl (zR P 60 b47) fun b50 =>
        zl (zR P 80 a0) fun b54 =>
        zb (f_X7_signAt P b54 (zf m40 82 a0) m40) fun r61 m61 =>
        zb (f_X7_put P b50 r61 m61) fun _ m64 =>
        zl (zfp m64 82 a0 ((zf m64 82 a0) + (1 : Int32))) fun m74 =>
        f_X4_readPrefix_b15 P fu a0 m74))
def f_X4_readPrefix (P : zSt) (a0 : Nat) (m : zM) : Option (Int32 × zM) :=
  zl (zR P 80 a0) fun b1 =>
  zb (f_X7_signAt P b1 (0 : Int32) m) fun r5 m5 =>
  (if r5 = (47 : Int32) then
    f_X4_readPrefix_b15 P zfuel a0 m5
  else
    zgd (zbo (0 : Int32)) (some ((0 : Int32), m5)))
def f_X4_readRange_b33 (P : zSt)   (m : zM) : Option (Int32 × zM) :=
  zgd (zbo (0 : Int32)) (some ((0 : Int32), m))
def f_X4_readRange_b77 (P : zSt)   (m : zM) : Option (Int32 × zM) :=
  zgd (zbo (0 : Int32)) (some ((0 : Int32), m))
def f_X4_readRange (P : zSt) (a0 : Nat) (m : zM) : Option (Int32 × zM) :=
  zb (f_X4_readSign P a0 (91 : Int32) m) fun r3 m3 =>
  (if r3 = 0 then
    zgd (zbo (1 : Int32)) (some ((1 : Int32), m3))
  else
    zb (f_X4_readDigit P a0 (0 : Int32) (9 : Int32) m3) fun r15 m15 =>
    (if r15 = (-1 : Int32) then
      f_X4_readRange_b33 P m15
    else
      zb (f_X4_readSign P a0 (45 : Int32) m15) fun r27 m27 =>
      (if r27 = 0 then
        f_X4_readRange_b33 P m27
      else
        zb (f_X4_readDigit P a0 r15 (9 : Int32) m27) fun r39 m39 =>
        zl (zR P 81 a0) fun b44 =>
        zl (zfp m39 61 b44 r15) fun m48 =>
        zl (zR P 81 a0) fun b52 =>
        zl (zfp m48 62 b52 r39) fun m56 =>
        (if r39 = (-1 : Int32) then
          f_X4_readRange_b77 P m56
        else
          zb (f_X4_readSign P a0 (93 : Int32) m56) fun r67 m67 =>
          (if r67 = 0 then
            f_X4_readRange_b77 P m67
          else
            zgd (zbo (1 : Int32)) (some ((1 : Int32), m67)))))))
def f_X4_readShadow (P : zSt) (a0 : Nat) (m : zM) : Option (Int32 × zM) :=
  zb (f_X4_readSign P a0 (126 : Int32) m) fun r3 m3 =>
  (if r3 = 0 then
    zgd (zbo (1 : Int32)) (some ((1 : Int32), m3))
  else
    zl (zR P 81 a0) fun b12 =>
    zb (f_X4_readDigit P a0 (0 : Int32) (3 : Int32) m3) fun r18 m18 =>
    zl (zfp m18 66 b12 r18) fun m21 =>
    zl (zR P 81 a0) fun b25 =>
    (if (zf m21 66 b25) = (-1 : Int32) then
      zgd (zbo (0 : Int32)) (some ((0 : Int32), m21))
    else
      zgd (zbo (1 : Int32)) (some ((1 : Int32), m21))))
def f_X4_readTarget_b60 (P : zSt)  (a0 : Nat) (x1 : Int32) (s0 : Int32) (m : zM) : Option (Int32 × zM) :=
  zl (zR P 81 a0) fun b62 =>
  zb (f_X3_takeTarget P b62 x1 s0 m) fun _ m67 =>
  (if s0 = (-1 : Int32) then
    zgd (zbo (0 : Int32)) (some ((0 : Int32), m67))
  else
    zgd (zbo (1 : Int32)) (some ((1 : Int32), m67)))
def f_X4_readTarget (P : zSt) (a0 : Nat) (m : zM) : Option (Int32 × zM) :=
  zl (zR P 81 a0) fun b1 =>
  zl (zR P 80 a0) fun b5 =>
  zb (f_X7_signAt P b5 (zf m 82 a0) m) fun r12 m12 =>
  zb (f_X3_hasTarget P b1 (r12 - (48 : Int32)) m12) fun r18 m18 =>
  (if r18 = 0 then
    zb (f_X4_readDigit P a0 (0 : Int32) (3 : Int32) m18) fun r29 m29 =>
    (if r29 = (-1 : Int32) then
      zgd (zbo (0 : Int32)) (some ((0 : Int32), m29))
    else
      zb (f_X4_readSign P a0 (58 : Int32) m29) fun r43 m43 =>
      (if r43 = 0 then
        f_X4_readTarget_b60 P a0 r29 (1 : Int32) m43
      else
        zb (f_X4_readDigit P a0 (1 : Int32) (9 : Int32) m43) fun r53 m53 =>
        f_X4_readTarget_b60 P a0 r29 r53 m53))
  else
    zgd (zbo (0 : Int32)) (some ((0 : Int32), m18)))
def f_X4_readTargets_b22 (P : zSt) (rec_2 : Nat → Int32 → zM → Option (Int32 × zM)) (a0 : Nat) (x1 : Int32) (m : zM) : Option (Int32 × zM) :=
  zb (f_X4_readTarget P a0 m) fun r23 m23 =>
  (if r23 = 0 then
    zgd (zbo (0 : Int32)) (some ((0 : Int32), m23))
  else
    zl (x1 + (1 : Int32)) fun v31 =>
    rec_2 a0 v31 m23)
def f_X4_readTargets_b2 (P : zSt)  : Nat → Nat → Int32 → zM → Option (Int32 × zM)
  | 0, _, _, _ => none
  | fu + 1, a0, x1, m =>
    (if (3 : Int32) ≤ x1 then
      zgd (zbo (1 : Int32)) (some ((1 : Int32), m))
    else
      (if x1 ≤ 0 then
        f_X4_readTargets_b22 P (f_X4_readTargets_b2 P fu) a0 x1 m
      else
        zb (f_X4_readSign P a0 (44 : Int32) m) fun r14 m14 =>
        (if r14 = 0 then
          zgd (zbo (1 : Int32)) (some ((1 : Int32), m14))
        else
          f_X4_readTargets_b22 P (f_X4_readTargets_b2 P fu) a0 x1 m14)))
def f_X4_readTargets (P : zSt) (a0 : Nat) (m : zM) : Option (Int32 × zM) :=
  f_X4_readTargets_b2 P zfuel a0 (0 : Int32) m
def f_X4_read_b75 (P : zSt)  (a0 : Nat) (s0 : Int32) (m : zM) : Option (Int32 × zM) :=
  (if s0 = 0 then
    some ((zf m 82 a0), m)
  else
    some ((-1 : Int32), m))
def f_X4_read_b74 (P : zSt)  (a0 : Nat) (m : zM) : Option (Int32 × zM) :=
  f_X4_read_b75 P a0 (0 : Int32) m
def f_X4_read (P : zSt) (a0 : Nat) (m : zM) : Option (Int32 × zM) :=
  zl (zfp m 82 a0 (0 : Int32)) fun m2 =>
  zl (zR P 81 a0) fun b6 =>
  zb (f_X3_begin P b6 m2) fun _ m9 =>
  zb (f_X4_readPrefix P a0 m9) fun r13 m13 =>
  (if r13 = 0 then
    f_X4_read_b74 P a0 m13
  else
    zb (f_X4_readRange P a0 m13) fun r20 m20 =>
    (if r20 = 0 then
      f_X4_read_b74 P a0 m20
    else
      zb (f_X4_readSign P a0 (61 : Int32) m20) fun r29 m29 =>
      (if r29 = 0 then
        f_X4_read_b74 P a0 m29
      else
        zb (f_X4_readTargets P a0 m29) fun r36 m36 =>
        (if r36 = 0 then
          f_X4_read_b74 P a0 m36
        else
          zb (f_X4_readShadow P a0 m36) fun r43 m43 =>
          (if r43 = 0 then
            f_X4_read_b74 P a0 m43
          else
            zb (f_X4_readAttempts P a0 m43) fun r50 m50 =>
            (if r50 = 0 then
              f_X4_read_b74 P a0 m50
            else
              zl (zR P 80 a0) fun b61 =>
              (if (zf m50 82 a0) = (zf m50 141 b61) then
                f_X4_read_b75 P a0 (1 : Int32) m50
              else
                f_X4_read_b74 P a0 m50)))))))
def f_X6_property (P : zSt) (a0 : Nat) (i1 : Int32) (m : zM) : Option (Int32 × zM) :=
  zsw i1 (0)
  [(some ((zf m 123 a0), m)),
  (some ((zf m 120 a0), m)),
  (some ((zf m 121 a0), m)),
  (some ((zf m 124 a0), m))]
  (some ((-2 : Int32), m))
def f_X7_isPath_b2 (P : zSt)  : Nat → Nat → Int32 → zM → Option (Int32 × zM)
  | 0, _, _, _ => none
  | fu + 1, a0, x1, m =>
    (if (zf m 141 a0) ≤ x1 then
      zb (f_X7_signAt P a0 (0 : Int32) m) fun r32 m32 =>
      (if r32 = (47 : Int32) then
        zgd (zbo (1 : Int32)) (some ((1 : Int32), m32))
      else
        zgd (zbo (0 : Int32)) (some ((0 : Int32), m32)))
    else
      zl (zR P 140 a0) fun b11 =>
      zgd (zin x1 (zlen P b11)) <|
      zb (f_X10_isPathSign P (za m b11 x1.toNatClampNeg) m) fun r16 m16 =>
      (if r16 = 0 then
        zgd (zbo (0 : Int32)) (some ((0 : Int32), m16))
      else
        zl (x1 + (1 : Int32)) fun v24 =>
        f_X7_isPath_b2 P fu a0 v24 m16))
def f_X7_isPath (P : zSt) (a0 : Nat) (m : zM) : Option (Int32 × zM) :=
  f_X7_isPath_b2 P zfuel a0 (0 : Int32) m
def f_X10_isService (P : zSt) (i0 : Int32) (m : zM) : Option (Int32 × zM) :=
  zb (f_X10_isWithin P i0 (0 : Int32) (3 : Int32) m) fun r3 m3 =>
  zgd (zbo r3) (some (r3, m3))
def f_X10_isZone (P : zSt) (i0 : Int32) (m : zM) : Option (Int32 × zM) :=
  zb (f_X10_isWithin P i0 (0 : Int32) (2 : Int32) m) fun r3 m3 =>
  zgd (zbo r3) (some (r3, m3))
def f_X10_addBackend_b24 (P : zSt)   (m : zM) : Option (Int32 × zM) :=
  some ((-2 : Int32), m)
def f_X10_addBackend (P : zSt) (a0 : Nat) (i1 : Int32) (i2 : Int32) (i3 : Int32) (m : zM) : Option (Int32 × zM) :=
  zb (f_X10_isService P i1 m) fun r1 m1 =>
  (if r1 = 0 then
    f_X10_addBackend_b24 P m1
  else
    zb (f_X10_isZone P i2 m1) fun r8 m8 =>
    (if r8 = 0 then
      f_X10_addBackend_b24 P m8
    else
      zb (f_X10_isWithin P i3 (0 : Int32) (9 : Int32) m8) fun r18 m18 =>
      (if r18 = 0 then
        f_X10_addBackend_b24 P m18
      else
        zl (zR P 180 a0) fun b28 =>
        (if (zf m18 21 b28) < (12 : Int32) then
          zl (zR P 184 a0) fun b43 =>
          zb (f_X2_stop P b43 m18) fun _ m46 =>
          zl (zR P 180 a0) fun b50 =>
          zb (f_X1_takeBackend P b50 i1 i2 i3 m46) fun r56 m56 =>
          some (r56, m56)
        else
          some ((-3 : Int32), m18)))))
def f_X10_setWeight (P : zSt) (a0 : Nat) (i1 : Int32) (i2 : Int32) (m : zM) : Option (Int32 × zM) :=
  zl (zR P 180 a0) fun b1 =>
  zb (f_X1_hasBackend P b1 i1 m) fun r5 m5 =>
  (if r5 = 0 then
    some ((-1 : Int32), m5)
  else
    zb (f_X10_isWithin P i2 (0 : Int32) (9 : Int32) m5) fun r17 m17 =>
    (if r17 = 0 then
      some ((-2 : Int32), m17)
    else
      zl (zR P 184 a0) fun b27 =>
      zb (f_X2_stop P b27 m17) fun _ m30 =>
      zl (zR P 180 a0) fun b34 =>
      zl (zR P 20 b34) fun b37 =>
      zgd (zin i1 (zlen P b37)) <| zl (zr m30 b37 i1.toNatClampNeg) fun b41 =>
      zl ((zf m30 0 b41)) fun v45 =>
      zl (zR P 180 a0) fun b47 =>
      zl (zR P 20 b47) fun b50 =>
      zgd (zin i1 (zlen P b50)) <| zl (zr m30 b50 i1.toNatClampNeg) fun b54 =>
      zl (zfp m30 0 b54 i2) fun m56 =>
      some (v45, m56)))
def f_X10_setPattern (P : zSt) (a0 : Nat) (i1 : Int32) (i2 : Int32) (m : zM) : Option (Int32 × zM) :=
  zl (zR P 180 a0) fun b1 =>
  zb (f_X1_hasBackend P b1 i1 m) fun r5 m5 =>
  (if r5 = 0 then
    some ((-1 : Int32), m5)
  else
    zb (f_X10_isWithin P i2 (0 : Int32) (255 : Int32) m5) fun r18 m18 =>
    (if r18 = 0 then
      some ((-2 : Int32), m18)
    else
      zl (zR P 184 a0) fun b28 =>
      zb (f_X2_stop P b28 m18) fun _ m31 =>
      zl (zR P 180 a0) fun b35 =>
      zl (zR P 20 b35) fun b38 =>
      zgd (zin i1 (zlen P b38)) <| zl (zr m31 b38 i1.toNatClampNeg) fun b42 =>
      zl ((zf m31 5 b42)) fun v46 =>
      zl (zR P 180 a0) fun b48 =>
      zl (zR P 20 b48) fun b51 =>
      zgd (zin i1 (zlen P b51)) <| zl (zr m31 b51 i1.toNatClampNeg) fun b55 =>
      zl (zfp m31 5 b55 i2) fun m57 =>
      some (v46, m57)))
def f_X10_configure_b64 (P : zSt)  (a0 : Nat) (x1 : Int32) (x2 : Int32) (x3 : Int32) (x4 : Int32) (x5 : Int32) (x6 : Int32) (s0 : Int32) (m : zM) : Option (Int32 × zM) :=
  (if s0 = 0 then
    some ((-2 : Int32), m)
  else
    zl (zR P 184 a0) fun b75 =>
    zb (f_X2_stop P b75 m) fun _ m78 =>
    zl (zR P 180 a0) fun b82 =>
    zl (zR P 22 b82) fun b85 =>
    zgd (zin x1 (zlen P b85)) <| zl (zr m78 b85 x1.toNatClampNeg) fun b89 =>
    zl ((zf m78 100 b89)) fun v97 =>
    zl (zfp m78 100 b89 x2) fun m102 =>
    zl (zfp m102 101 b89 x3) fun m108 =>
    zl (zfp m108 102 b89 x4) fun m115 =>
    zl (zfp m115 103 b89 x5) fun m122 =>
    zl (zfp m122 104 b89 x6) fun m129 =>
    some (v97, m129))
def f_X10_configure_b63 (P : zSt)  (a0 : Nat) (x1 : Int32) (x2 : Int32) (x3 : Int32) (x4 : Int32) (x5 : Int32) (x6 : Int32) (m : zM) : Option (Int32 × zM) :=
  f_X10_configure_b64 P a0 x1 x2 x3 x4 x5 x6 (0 : Int32) m
def f_X10_configure (P : zSt) (a0 : Nat) (i1 : Int32) (i2 : Int32) (i3 : Int32) (i4 : Int32) (i5 : Int32) (i6 : Int32) (m : zM) : Option (Int32 × zM) :=
  zb (f_X10_isService P i1 m) fun r1 m1 =>
  (if r1 = 0 then
    f_X10_configure_b63 P a0 i1 i2 i3 i4 i5 i6 m1
  else
    zb (f_X10_isWithin P i2 (0 : Int32) (2 : Int32) m1) fun r10 m10 =>
    (if r10 = 0 then
      f_X10_configure_b63 P a0 i1 i2 i3 i4 i5 i6 m10
    else
      zb (f_X10_isWithin P i3 (1 : Int32) (9 : Int32) m10) fun r20 m20 =>
      (if r20 = 0 then
        f_X10_configure_b63 P a0 i1 i2 i3 i4 i5 i6 m20
      else
        zb (f_X10_isWithin P i4 (1 : Int32) (20 : Int32) m20) fun r31 m31 =>
        (if r31 = 0 then
          f_X10_configure_b63 P a0 i1 i2 i3 i4 i5 i6 m31
        else
          zb (f_X10_isWithin P i5 (0 : Int32) (100 : Int32) m31) fun r42 m42 =>
          (if r42 = 0 then
            f_X10_configure_b63 P a0 i1 i2 i3 i4 i5 i6 m42
          else
            zb (f_X10_isWithin P i6 (0 : Int32) (100 : Int32) m42) fun r53 m53 =>
            (if r53 = 0 then
              f_X10_configure_b63 P a0 i1 i2 i3 i4 i5 i6 m53
            else
              f_X10_configure_b64 P a0 i1 i2 i3 i4 i5 i6 (1 : Int32) m53))))))
def f_X10_setZoneLimit (P : zSt) (a0 : Nat) (i1 : Int32) (m : zM) : Option (Int32 × zM) :=
  zb (f_X10_isWithin P i1 (1 : Int32) (100 : Int32) m) fun r4 m4 =>
  (if r4 = 0 then
    some ((-2 : Int32), m4)
  else
    zl (zR P 184 a0) fun b14 =>
    zb (f_X2_stop P b14 m4) fun _ m17 =>
    zl (zR P 180 a0) fun b21 =>
    zl ((zf m17 25 b21)) fun v27 =>
    zl (zR P 180 a0) fun b29 =>
    zl (zfp m17 25 b29 i1) fun m33 =>
    some (v27, m33))
def f_X10_append_b20 (P : zSt)   (m : zM) : Option (Int32 × zM) :=
  some ((-2 : Int32), m)
def f_X10_append_b42 (P : zSt)  : Nat → Nat → Int32 → Int32 → Int32 → zM → Option (Int32 × zM)
  | 0, _, _, _, _, _ => none
  | fu + 1, a0, x1, x2, x3, m =>
    (if x2 ≤ x3 then
      zl (zR P 185 a0) fun b62 =>
      some ((zf m 141 b62), m)
    else
      zl (zR P 185 a0) fun b48 =>
      zb (f_X7_put P b48 x1 m) fun _ m52 =>
      zl (x3 + (1 : Int32)) fun v55 =>
      f_X10_append_b42 P fu a0 x1 x2 v55 m52)
def f_X10_append (P : zSt) (a0 : Nat) (i1 : Int32) (i2 : Int32) (m : zM) : Option (Int32 × zM) :=
  zb (f_X10_isWithin P i1 (0 : Int32) (127 : Int32) m) fun r4 m4 =>
  (if r4 = 0 then
    f_X10_append_b20 P m4
  else
    zb (f_X10_isWithin P i2 (1 : Int32) (40 : Int32) m4) fun r14 m14 =>
    (if r14 = 0 then
      f_X10_append_b20 P m14
    else
      zl (zR P 185 a0) fun b24 =>
      (if ((zf m14 141 b24) + i2) ≤ (40 : Int32) then
        f_X10_append_b42 P zfuel a0 i1 i2 (0 : Int32) m14
      else
        some ((-3 : Int32), m14))))
def f_X10_addRule (P : zSt) (a0 : Nat) (m : zM) : Option (Int32 × zM) :=
  zl (zR P 187 a0) fun b1 =>
  zb (f_X4_read P b1 m) fun r4 m4 =>
  zl (zR P 185 a0) fun b9 =>
  zb (f_X7_clear P b9 m4) fun _ m12 =>
  (if r4 = (-1 : Int32) then
    zl (zR P 180 a0) fun b26 =>
    (if (zf m12 24 b26) < (8 : Int32) then
      zl (zR P 184 a0) fun b41 =>
      zb (f_X2_stop P b41 m12) fun _ m44 =>
      zl (zR P 180 a0) fun b48 =>
      zl (zR P 187 a0) fun b52 =>
      zl (zR P 81 b52) fun b55 =>
      zb (f_X1_takeRule P b48 b55 m44) fun r58 m58 =>
      some (r58, m58)
    else
      some ((-3 : Int32), m12))
  else
    some (((-100 : Int32) - r4), m12))
def f_X10_removeRule (P : zSt) (a0 : Nat) (i1 : Int32) (m : zM) : Option (Int32 × zM) :=
  zl (zR P 180 a0) fun b1 =>
  zb (f_X1_hasRule P b1 i1 m) fun r5 m5 =>
  (if r5 = 0 then
    some ((-1 : Int32), m5)
  else
    zl (zR P 184 a0) fun b14 =>
    zb (f_X2_stop P b14 m5) fun _ m17 =>
    zl (zR P 180 a0) fun b21 =>
    zl (zR P 180 a0) fun b26 =>
    zb (f_X1_shiftRule P b21 i1 ((zf m17 24 b26) - (1 : Int32)) m17) fun _ m34 =>
    zl (zR P 180 a0) fun b38 =>
    zl (zfp m34 24 b38 ((zf m34 24 b38) - (1 : Int32))) fun m47 =>
    zl (zR P 180 a0) fun b51 =>
    some ((zf m47 24 b51), m47))
def f_X10_moveRule (P : zSt) (a0 : Nat) (i1 : Int32) (i2 : Int32) (m : zM) : Option (Int32 × zM) :=
  zl (zR P 180 a0) fun b1 =>
  zb (f_X1_hasRule P b1 i1 m) fun r5 m5 =>
  (if r5 = 0 then
    some ((-1 : Int32), m5)
  else
    zl (zR P 180 a0) fun b14 =>
    zb (f_X1_hasRule P b14 i2 m5) fun r18 m18 =>
    (if r18 = 0 then
      some ((-2 : Int32), m18)
    else
      zl (zR P 184 a0) fun b28 =>
      zb (f_X2_stop P b28 m18) fun _ m31 =>
      zl (zR P 180 a0) fun b35 =>
      zb (f_X1_shiftRule P b35 i1 i2 m31) fun _ m40 =>
      some ((if 0 ≤ (i1 - i2) then (i1 - i2) else 0 - (i1 - i2)), m40)))
def f_X10_isHeader (P : zSt) (i0 : Int32) (m : zM) : Option (Int32 × zM) :=
  zb (f_X10_isWithin P i0 (0 : Int32) (9 : Int32) m) fun r4 m4 =>
  zgd (zbo r4) (some (r4, m4))
def f_X10_requestError_b14 (P : zSt)   (m : zM) : Option (Int32 × zM) :=
  some ((-2 : Int32), m)
def f_X10_requestError (P : zSt) (a0 : Nat) (i1 : Int32) (i2 : Int32) (m : zM) : Option (Int32 × zM) :=
  zb (f_X10_isHeader P i1 m) fun r1 m1 =>
  (if r1 = 0 then
    f_X10_requestError_b14 P m1
  else
    zb (f_X10_isZone P i2 m1) fun r8 m8 =>
    (if r8 = 0 then
      f_X10_requestError_b14 P m8
    else
      zl (zR P 185 a0) fun b18 =>
      zb (f_X7_isPath P b18 m8) fun r21 m21 =>
      (if r21 = 0 then
        some ((-7 : Int32), m21)
      else
        some ((0 : Int32), m21))))
def f_X10_match (P : zSt) (a0 : Nat) (i1 : Int32) (m : zM) : Option (Int32 × zM) :=
  zb (f_X10_requestError P a0 i1 (0 : Int32) m) fun r3 m3 =>
  (if r3 = 0 then
    zl (zR P 180 a0) fun b16 =>
    zl (zR P 185 a0) fun b20 =>
    zb (f_X1_findRule P b16 b20 i1 m3) fun r24 m24 =>
    some (r24, m24)
  else
    some (r3, m3))
def f_X10_request_b27 (P : zSt)  (a0 : Nat) (x1 : Int32) (x2 : Int32) (x3 : Int32) (s0 : Int32) (m : zM) : Option (Int32 × zM) :=
  zl (zR P 185 a0) fun b30 =>
  zb (f_X7_clear P b30 m) fun _ m33 =>
  (if x3 = 0 then
    zl (zR P 180 a0) fun b43 =>
    zb (f_X1_answer P b43 s0 x1 x2 m33) fun r50 m50 =>
    zl (zR P 184 a0) fun b56 =>
    zb (f_X2_addRequest P b56 s0 x1 x2 r50 m50) fun _ m65 =>
    some (r50, m65)
  else
    some (x3, m33))
def f_X10_request (P : zSt) (a0 : Nat) (i1 : Int32) (i2 : Int32) (m : zM) : Option (Int32 × zM) :=
  zb (f_X10_requestError P a0 i1 i2 m) fun r3 m3 =>
  (if r3 = 0 then
    zl (zR P 180 a0) fun b16 =>
    zl (zR P 185 a0) fun b20 =>
    zb (f_X1_findRule P b16 b20 i1 m3) fun r24 m24 =>
    f_X10_request_b27 P a0 i1 i2 r3 r24 m24
  else
    f_X10_request_b27 P a0 i1 i2 r3 (-1 : Int32) m3)
def f_X10_foresee (P : zSt) (a0 : Nat) (i1 : Int32) (i2 : Int32) (m : zM) : Option (Int32 × zM) :=
  zb (f_X10_requestError P a0 i1 i2 m) fun r3 m3 =>
  (if r3 = 0 then
    zl (zR P 183 a0) fun b14 =>
    zl (zR P 180 a0) fun b18 =>
    zb (f_X1_copyFrom P b14 b18 m3) fun _ m21 =>
    zl (zR P 183 a0) fun b25 =>
    zl (zR P 180 a0) fun b29 =>
    zl (zR P 185 a0) fun b33 =>
    zb (f_X1_findRule P b29 b33 i1 m21) fun r37 m37 =>
    zb (f_X1_answer P b25 r37 i1 i2 m37) fun r42 m42 =>
    some (r42, m42)
  else
    some (r3, m3))
def f_X10_tick_b15 (P : zSt)  : Nat → Nat → Int32 → Int32 → zM → Option (Int32 × zM)
  | 0, _, _, _, _ => none
  | fu + 1, a0, x1, x2, m =>
    (if x1 ≤ x2 then
      zl (zR P 184 a0) fun b34 =>
      zb (f_X2_addTicks P b34 x1 m) fun _ m38 =>
      zl (zR P 180 a0) fun b42 =>
      some ((zf m38 26 b42), m38)
    else
      zl (zR P 180 a0) fun b21 =>
      zb (f_X1_passTick P b21 m) fun _ m24 =>
      zl (x2 + (1 : Int32)) fun v27 =>
      f_X10_tick_b15 P fu a0 x1 v27 m24)
def f_X10_tick (P : zSt) (a0 : Nat) (i1 : Int32) (m : zM) : Option (Int32 × zM) :=
  zb (f_X10_isWithin P i1 (1 : Int32) (50 : Int32) m) fun r4 m4 =>
  (if r4 = 0 then
    some ((-2 : Int32), m4)
  else
    f_X10_tick_b15 P zfuel a0 i1 (0 : Int32) m4)
def f_X10_backend (P : zSt) (a0 : Nat) (i1 : Int32) (i2 : Int32) (m : zM) : Option (Int32 × zM) :=
  zl (zR P 180 a0) fun b1 =>
  zb (f_X1_hasBackend P b1 i1 m) fun r5 m5 =>
  (if r5 = 0 then
    some ((-1 : Int32), m5)
  else
    zl (zR P 180 a0) fun b12 =>
    zl (zR P 20 b12) fun b15 =>
    zgd (zin i1 (zlen P b15)) <| zl (zr m5 b15 i1.toNatClampNeg) fun b19 =>
    zb (f_X0_property P b19 i2 m5) fun r21 m21 =>
    some (r21, m21))
def f_X10_service (P : zSt) (a0 : Nat) (i1 : Int32) (i2 : Int32) (m : zM) : Option (Int32 × zM) :=
  zb (f_X10_isService P i1 m) fun r1 m1 =>
  (if r1 = 0 then
    some ((-2 : Int32), m1)
  else
    zl (zR P 180 a0) fun b8 =>
    zb (f_X1_serviceProperty P b8 i1 i2 m1) fun r13 m13 =>
    some (r13, m13))
def f_X10_remembered_b14 (P : zSt)   (m : zM) : Option (Int32 × zM) :=
  some ((-2 : Int32), m)
def f_X10_remembered (P : zSt) (a0 : Nat) (i1 : Int32) (i2 : Int32) (m : zM) : Option (Int32 × zM) :=
  zb (f_X10_isService P i1 m) fun r1 m1 =>
  (if r1 = 0 then
    f_X10_remembered_b14 P m1
  else
    zb (f_X10_isHeader P i2 m1) fun r8 m8 =>
    (if r8 = 0 then
      f_X10_remembered_b14 P m8
    else
      zl (zR P 180 a0) fun b18 =>
      zl (zR P 22 b18) fun b21 =>
      zgd (zin i1 (zlen P b21)) <| zl (zr m8 b21 i1.toNatClampNeg) fun b25 =>
      zl (zR P 109 b25) fun b26 =>
      zgd (zin i2 (zlen P b26)) <|
      some ((za m8 b26 i2.toNatClampNeg), m8)))
def f_X10_target_b33 (P : zSt)   (m : zM) : Option (Int32 × zM) :=
  some ((-1 : Int32), m)
def f_X10_target (P : zSt) (a0 : Nat) (i1 : Int32) (i2 : Int32) (i3 : Int32) (m : zM) : Option (Int32 × zM) :=
  zl (zR P 180 a0) fun b1 =>
  zb (f_X1_hasRule P b1 i1 m) fun r5 m5 =>
  (if r5 = 0 then
    f_X10_target_b33 P m5
  else
    zl (zR P 180 a0) fun b14 =>
    zl (zR P 23 b14) fun b17 =>
    zgd (zin i1 (zlen P b17)) <| zl (zr m5 b17 i1.toNatClampNeg) fun b21 =>
    zb (f_X10_isWithin P i2 (0 : Int32) ((zf m5 64 b21) - (1 : Int32)) m5) fun r27 m27 =>
    (if r27 = 0 then
      f_X10_target_b33 P m27
    else
      zl (zR P 180 a0) fun b36 =>
      zl (zR P 23 b36) fun b39 =>
      zgd (zin i1 (zlen P b39)) <| zl (zr m27 b39 i1.toNatClampNeg) fun b43 =>
      zl (zR P 63 b43) fun b44 =>
      zgd (zin i2 (zlen P b44)) <| zl (zr m27 b44 i2.toNatClampNeg) fun b48 =>
      zb (f_X6_property P b48 i3 m27) fun r50 m50 =>
      some (r50, m50)))
def f_X10_trace (P : zSt) (a0 : Nat) (i1 : Int32) (i2 : Int32) (m : zM) : Option (Int32 × zM) :=
  zl (zR P 180 a0) fun b3 =>
  zl (zR P 35 b3) fun b6 =>
  zb (f_X10_isWithin P i1 (0 : Int32) ((zf m 161 b6) - (1 : Int32)) m) fun r14 m14 =>
  (if r14 = 0 then
    some ((-1 : Int32), m14)
  else
    zb (f_X10_isWithin P i2 (0 : Int32) (3 : Int32) m14) fun r25 m25 =>
    (if r25 = 0 then
      some ((-2 : Int32), m25)
    else
      zl (zR P 180 a0) fun b32 =>
      zl (zR P 35 b32) fun b35 =>
      zl (zR P 160 b35) fun b38 =>
      zgd (zin i1 (zlen P b38)) <| zl (zr m25 b38 i1.toNatClampNeg) fun b42 =>
      zgd (zin i2 (zlen P b42)) <|
      some ((za m25 b42 i2.toNatClampNeg), m25)))
def f_X10_count (P : zSt) (a0 : Nat) (i1 : Int32) (m : zM) : Option (Int32 × zM) :=
  zsw i1 (11)
  [(zl (zR P 184 a0) fun b29 =>
    some ((zf m 45 b29), m)),
  (zl (zR P 180 a0) fun b37 =>
    zl (zR P 35 b37) fun b40 =>
    some ((zf m 161 b40), m)),
  (zl (zR P 185 a0) fun b48 =>
    some ((zf m 141 b48), m))]
  (zl (zR P 180 a0) fun b56 =>
    zb (f_X1_property P b56 i1 m) fun r60 m60 =>
    some (r60, m60))
def f_X10_print (P : zSt) (a0 : Nat) (i1 : Int32) (m : zM) : Option (Int32 × zM) :=
  zl (zR P 180 a0) fun b1 =>
  zb (f_X1_hasRule P b1 i1 m) fun r5 m5 =>
  (if r5 = 0 then
    some ((-1 : Int32), m5)
  else
    zl (zR P 180 a0) fun b14 =>
    zl (zR P 23 b14) fun b17 =>
    zgd (zin i1 (zlen P b17)) <| zl (zr m5 b17 i1.toNatClampNeg) fun b21 =>
    zl (zR P 186 a0) fun b23 =>
    zb (f_X3_printTo P b21 b23 m5) fun _ m26 =>
    zl (zR P 186 a0) fun b30 =>
    some ((zf m26 141 b30), m26))
def f_X10_printed (P : zSt) (a0 : Nat) (i1 : Int32) (m : zM) : Option (Int32 × zM) :=
  zl (zR P 186 a0) fun b1 =>
  zb (f_X7_signAt P b1 i1 m) fun r5 m5 =>
  some (r5, m5)
def f_X10_mark (P : zSt) (a0 : Nat) (m : zM) : Option (Int32 × zM) :=
  zl (zR P 181 a0) fun b1 =>
  zl (zR P 180 a0) fun b5 =>
  zb (f_X1_copyFrom P b1 b5 m) fun _ m8 =>
  zl (zR P 184 a0) fun b12 =>
  zb (f_X2_start P b12 m8) fun _ m15 =>
  zl (zR P 180 a0) fun b19 =>
  some ((zf m15 21 b19), m15)
def f_X10_playAgain_b99 (P : zSt) (rec_21 : Nat → Int32 → zM → Option (Int32 × zM)) (a0 : Nat) (x2 : Int32) (m : zM) : Option (Int32 × zM) :=
  zl (x2 + (1 : Int32)) fun v99 =>
  rec_21 a0 v99 m
def f_X10_playAgain_b21 (P : zSt)  : Nat → Nat → Int32 → zM → Option (Int32 × zM)
  | 0, _, _, _ => none
  | fu + 1, a0, x2, m =>
    zl (zR P 184 a0) fun b23 =>
    (if (zf m 45 b23) ≤ x2 then
      some (0, m)
    else
      zl (zR P 184 a0) fun b33 =>
      zl (zR P 40 b33) fun b36 =>
      zgd (zin x2 (zlen P b36)) <|
      (if (za m b36 x2.toNatClampNeg) = (-2 : Int32) then
        zl (zR P 183 a0) fun b47 =>
        zb (f_X1_passTick P b47 m) fun _ m50 =>
        f_X10_playAgain_b99 P (f_X10_playAgain_b21 P fu) a0 x2 m50
      else
        zl (zR P 184 a0) fun b57 =>
        zl (zR P 44 b57) fun b60 =>
        zl (zR P 183 a0) fun b65 =>
        zl (zR P 184 a0) fun b69 =>
        zl (zR P 40 b69) fun b72 =>
        zgd (zin x2 (zlen P b72)) <|
        zl (zR P 184 a0) fun b78 =>
        zl (zR P 41 b78) fun b81 =>
        zgd (zin x2 (zlen P b81)) <|
        zl (zR P 184 a0) fun b87 =>
        zl (zR P 42 b87) fun b90 =>
        zgd (zin x2 (zlen P b90)) <|
        zb (f_X1_answer P b65 (za m b72 x2.toNatClampNeg) (za m b81 x2.toNatClampNeg) (za m b90 x2.toNatClampNeg) m) fun r95 m95 =>
        zgd (zin x2 (zlen P b60)) <| zl (zap m95 b60 x2.toNatClampNeg r95) fun m98 =>
        f_X10_playAgain_b99 P (f_X10_playAgain_b21 P fu) a0 x2 m98))
def f_X10_playAgain (P : zSt) (a0 : Nat) (i1 : Int32) (m : zM) : Option (Int32 × zM) :=
  zl (zR P 183 a0) fun b1 =>
  zl (zR P 181 a0) fun b5 =>
  zb (f_X1_copyFrom P b1 b5 m) fun _ m8 =>
  zl (zR P 183 a0) fun b12 =>
  zb (f_X1_impose P b12 i1 m8) fun _ m16 =>
  f_X10_playAgain_b21 P zfuel a0 (0 : Int32) m16
def f_X10_playError (P : zSt) (a0 : Nat) (i1 : Int32) (m : zM) : Option (Int32 × zM) :=
  zb (f_X10_isWithin P i1 (0 : Int32) (4 : Int32) m) fun r3 m3 =>
  (if r3 = 0 then
    some ((-2 : Int32), m3)
  else
    zl (zR P 184 a0) fun b13 =>
    (if (zf m3 46 b13) = 0 then
      some ((-1 : Int32), m3)
    else
      some ((0 : Int32), m3)))
def f_X10_play (P : zSt) (a0 : Nat) (i1 : Int32) (m : zM) : Option (Int32 × zM) :=
  zb (f_X10_playError P a0 i1 m) fun r2 m2 =>
  (if r2 = 0 then
    zb (f_X10_playAgain P a0 i1 m2) fun _ m14 =>
    zl (zR P 184 a0) fun b18 =>
    zb (f_X2_changedAnswers P b18 m14) fun r21 m21 =>
    some (r21, m21)
  else
    some (r2, m2))
def f_X10_answeredIf (P : zSt) (a0 : Nat) (i1 : Int32) (m : zM) : Option (Int32 × zM) :=
  zb (f_X10_playError P a0 i1 m) fun r2 m2 =>
  (if r2 = 0 then
    zb (f_X10_playAgain P a0 i1 m2) fun _ m14 =>
    zl (zR P 184 a0) fun b18 =>
    zb (f_X2_answersByBackends P b18 m14) fun r21 m21 =>
    some (r21, m21)
  else
    some (r2, m2))
def f_X10_save (P : zSt) (a0 : Nat) (m : zM) : Option (Int32 × zM) :=
  zl (zR P 182 a0) fun b1 =>
  zl (zR P 180 a0) fun b5 =>
  zb (f_X1_copyFrom P b1 b5 m) fun _ m8 =>
  zgd (zbo (1 : Int32)) <| zl (zfp m8 188 a0 (1 : Int32)) fun m13 =>
  zl (zR P 180 a0) fun b17 =>
  some ((zf m13 21 b17), m13)
def f_X10_restore (P : zSt) (a0 : Nat) (m : zM) : Option (Int32 × zM) :=
  (if (zf m 188 a0) = 0 then
    some ((-1 : Int32), m)
  else
    zl (zR P 184 a0) fun b10 =>
    zb (f_X2_stop P b10 m) fun _ m13 =>
    zl (zR P 180 a0) fun b17 =>
    zl (zR P 182 a0) fun b21 =>
    zb (f_X1_copyFrom P b17 b21 m13) fun _ m24 =>
    zl (zR P 180 a0) fun b28 =>
    zl (zR P 35 b28) fun b31 =>
    zl (zfp m24 161 b31 (0 : Int32)) fun m35 =>
    zl (zR P 180 a0) fun b39 =>
    some ((zf m35 21 b39), m35))
def f_X11_isIn_b14 (P : zSt)   (m : zM) : Option (Int32 × zM) :=
  zgd (zbo (0 : Int32)) (some ((0 : Int32), m))
def f_X11_isIn (P : zSt) (i0 : Int32) (i1 : Int32) (i2 : Int32) (m : zM) : Option (Int32 × zM) :=
  (if i0 < i1 then
    f_X11_isIn_b14 P m
  else
    (if i2 < i0 then
      f_X11_isIn_b14 P m
    else
      zgd (zbo (1 : Int32)) (some ((1 : Int32), m))))
def f_X11_copies_b2 (P : zSt)  : Nat → Nat → Nat → Int32 → zM → Option (Int32 × zM)
  | 0, _, _, _, _ => none
  | fu + 1, a0, a1, x2, m =>
    (if (723 : Int32) ≤ x2 then
      some (0, m)
    else
      zgd (zin x2 (zlen P a0)) <|
      zgd (zin x2 (zlen P a1)) <| zl (zap m a1 x2.toNatClampNeg (za m a0 x2.toNatClampNeg)) fun m14 =>
      zl (x2 + (1 : Int32)) fun v15 =>
      f_X11_copies_b2 P fu a0 a1 v15 m14)
def f_X11_copies (P : zSt) (a0 : Nat) (a1 : Nat) (m : zM) : Option (Int32 × zM) :=
  f_X11_copies_b2 P zfuel a0 a1 (0 : Int32) m
def f_X11_of (P : zSt) (a0 : Nat) (i1 : Int32) (i2 : Int32) (m : zM) : Option (Int32 × zM) :=
  zl (zR P 200 a0) fun b1 =>
  zgd (zin (((0 : Int32) + ((12 : Int32) * i1)) + i2) (zlen P b1)) <|
  some ((za m b1 (((0 : Int32) + ((12 : Int32) * i1)) + i2).toNatClampNeg), m)
def f_X11_sets (P : zSt) (a0 : Nat) (i1 : Int32) (i2 : Int32) (i3 : Int32) (m : zM) : Option (Int32 × zM) :=
  zl (zR P 200 a0) fun b1 =>
  zgd (zin (((0 : Int32) + ((12 : Int32) * i1)) + i2) (zlen P b1)) <| zl (zap m b1 (((0 : Int32) + ((12 : Int32) * i1)) + i2).toNatClampNeg i3) fun m13 =>
  some (0, m13)
def f_X11_isBackend (P : zSt) (a0 : Nat) (i1 : Int32) (m : zM) : Option (Int32 × zM) :=
  zl (zR P 200 a0) fun b3 =>
  zgd (zin (144 : Int32) (zlen P b3)) <|
  zb (f_X11_isIn P i1 (0 : Int32) ((za m b3 (144 : Int32).toNatClampNeg) - (1 : Int32)) m) fun r12 m12 =>
  zgd (zbo r12) (some (r12, m12))
def f_X11_changes (P : zSt) (a0 : Nat) (m : zM) : Option (Int32 × zM) :=
  zgd (zbo (0 : Int32)) <| zl (zfp m 205 a0 (0 : Int32)) fun m2 =>
  zl (zfp m2 210 a0 (0 : Int32)) fun m7 =>
  some (0, m7)
def f_X11_addBackend_b28 (P : zSt)   (m : zM) : Option (Int32 × zM) :=
  some ((-2 : Int32), m)
def f_X11_addBackend_b76 (P : zSt)  : Nat → Nat → Int32 → Int32 → Int32 → Int32 → Int32 → zM → Option (Int32 × zM)
  | 0, _, _, _, _, _, _, _ => none
  | fu + 1, a0, x1, x2, x3, x4, x5, m =>
    (if (12 : Int32) ≤ x5 then
      zb (f_X11_sets P a0 x4 (0 : Int32) x1 m) fun _ m103 =>
      zb (f_X11_sets P a0 x4 (1 : Int32) x2 m103) fun _ m111 =>
      zb (f_X11_sets P a0 x4 (2 : Int32) x3 m111) fun _ m119 =>
      zb (f_X11_sets P a0 x4 (3 : Int32) (255 : Int32) m119) fun _ m129 =>
      some (x4, m129)
    else
      zb (f_X11_sets P a0 x4 x5 (0 : Int32) m) fun _ m89 =>
      zl (x5 + (1 : Int32)) fun v92 =>
      f_X11_addBackend_b76 P fu a0 x1 x2 x3 x4 v92 m89)
def f_X11_addBackend (P : zSt) (a0 : Nat) (i1 : Int32) (i2 : Int32) (i3 : Int32) (m : zM) : Option (Int32 × zM) :=
  zb (f_X11_isIn P i1 (0 : Int32) (3 : Int32) m) fun r3 m3 =>
  (if r3 = 0 then
    f_X11_addBackend_b28 P m3
  else
    zb (f_X11_isIn P i2 (0 : Int32) (2 : Int32) m3) fun r12 m12 =>
    (if r12 = 0 then
      f_X11_addBackend_b28 P m12
    else
      zb (f_X11_isIn P i3 (0 : Int32) (9 : Int32) m12) fun r22 m22 =>
      (if r22 = 0 then
        f_X11_addBackend_b28 P m22
      else
        zl (zR P 200 a0) fun b32 =>
        zgd (zin (144 : Int32) (zlen P b32)) <|
        (if (za m22 b32 (144 : Int32).toNatClampNeg) = (12 : Int32) then
          some ((-3 : Int32), m22)
        else
          zb (f_X11_changes P a0 m22) fun _ m48 =>
          zl (zR P 200 a0) fun b52 =>
          zgd (zin (144 : Int32) (zlen P b52)) <|
          zl ((za m48 b52 (144 : Int32).toNatClampNeg)) fun v59 =>
          zl (zR P 200 a0) fun b62 =>
          zgd (zin (144 : Int32) (zlen P b62)) <|
          zgd (zin (144 : Int32) (zlen P b62)) <| zl (zap m48 b62 (144 : Int32).toNatClampNeg ((za m48 b62 (144 : Int32).toNatClampNeg) + (1 : Int32))) fun m72 =>
          f_X11_addBackend_b76 P zfuel a0 i1 i2 i3 v59 (0 : Int32) m72))))
def f_X11_put (P : zSt) (a0 : Nat) (i1 : Int32) (i2 : Int32) (i3 : Int32) (i4 : Int32) (m : zM) : Option (Int32 × zM) :=
  zb (f_X11_isBackend P a0 i1 m) fun r2 m2 =>
  (if r2 = 0 then
    some ((-1 : Int32), m2)
  else
    zb (f_X11_isIn P i3 (0 : Int32) i4 m2) fun r14 m14 =>
    (if r14 = 0 then
      some ((-2 : Int32), m14)
    else
      zb (f_X11_changes P a0 m14) fun _ m24 =>
      zb (f_X11_of P a0 i1 i2 m24) fun r30 m30 =>
      zb (f_X11_sets P a0 i1 i2 i3 m30) fun _ m39 =>
      some (r30, m39)))
def f_X11_setWeight (P : zSt) (a0 : Nat) (i1 : Int32) (i2 : Int32) (m : zM) : Option (Int32 × zM) :=
  zb (f_X11_put P a0 i1 (2 : Int32) i2 (9 : Int32) m) fun r6 m6 =>
  some (r6, m6)
def f_X11_setPattern (P : zSt) (a0 : Nat) (i1 : Int32) (i2 : Int32) (m : zM) : Option (Int32 × zM) :=
  zb (f_X11_put P a0 i1 (3 : Int32) i2 (255 : Int32) m) fun r7 m7 =>
  some (r7, m7)
def f_X11_configure_b61 (P : zSt)   (m : zM) : Option (Int32 × zM) :=
  some ((-2 : Int32), m)
def f_X11_configure (P : zSt) (a0 : Nat) (i1 : Int32) (i2 : Int32) (i3 : Int32) (i4 : Int32) (i5 : Int32) (i6 : Int32) (m : zM) : Option (Int32 × zM) :=
  zb (f_X11_isIn P i1 (0 : Int32) (3 : Int32) m) fun r3 m3 =>
  (if r3 = 0 then
    f_X11_configure_b61 P m3
  else
    zb (f_X11_isIn P i2 (0 : Int32) (2 : Int32) m3) fun r12 m12 =>
    (if r12 = 0 then
      f_X11_configure_b61 P m12
    else
      zb (f_X11_isIn P i3 (1 : Int32) (9 : Int32) m12) fun r22 m22 =>
      (if r22 = 0 then
        f_X11_configure_b61 P m22
      else
        zb (f_X11_isIn P i4 (1 : Int32) (20 : Int32) m22) fun r33 m33 =>
        (if r33 = 0 then
          f_X11_configure_b61 P m33
        else
          zb (f_X11_isIn P i5 (0 : Int32) (100 : Int32) m33) fun r44 m44 =>
          (if r44 = 0 then
            f_X11_configure_b61 P m44
          else
            zb (f_X11_isIn P i6 (0 : Int32) (100 : Int32) m44) fun r55 m55 =>
            (if r55 = 0 then
              f_X11_configure_b61 P m55
            else
              zb (f_X11_changes P a0 m55) fun _ m65 =>
              zl (((145 : Int32) + ((21 : Int32) * i1))) fun v76 =>
              zl (zR P 200 a0) fun b79 =>
              zgd (zin v76 (zlen P b79)) <|
              zl ((za m65 b79 v76.toNatClampNeg)) fun v85 =>
              zl (zR P 200 a0) fun b88 =>
              zgd (zin v76 (zlen P b88)) <| zl (zap m65 b88 v76.toNatClampNeg i2) fun m94 =>
              zl (zR P 200 a0) fun b96 =>
              zgd (zin (v76 + (1 : Int32)) (zlen P b96)) <| zl (zap m94 b96 (v76 + (1 : Int32)).toNatClampNeg i3) fun m104 =>
              zl (zR P 200 a0) fun b106 =>
              zgd (zin (v76 + (2 : Int32)) (zlen P b106)) <| zl (zap m104 b106 (v76 + (2 : Int32)).toNatClampNeg i4) fun m115 =>
              zl (zR P 200 a0) fun b117 =>
              zgd (zin (v76 + (3 : Int32)) (zlen P b117)) <| zl (zap m115 b117 (v76 + (3 : Int32)).toNatClampNeg i5) fun m126 =>
              zl (zR P 200 a0) fun b128 =>
              zgd (zin (v76 + (4 : Int32)) (zlen P b128)) <| zl (zap m126 b128 (v76 + (4 : Int32)).toNatClampNeg i6) fun m137 =>
              some (v85, m137)))))))
def f_X11_setZoneLimit (P : zSt) (a0 : Nat) (i1 : Int32) (m : zM) : Option (Int32 × zM) :=
  zb (f_X11_isIn P i1 (1 : Int32) (100 : Int32) m) fun r4 m4 =>
  (if r4 = 0 then
    some ((-2 : Int32), m4)
  else
    zb (f_X11_changes P a0 m4) fun _ m14 =>
    zl (zR P 200 a0) fun b18 =>
    zgd (zin (229 : Int32) (zlen P b18)) <|
    zl ((za m14 b18 (229 : Int32).toNatClampNeg)) fun v25 =>
    zl (zR P 200 a0) fun b27 =>
    zgd (zin (229 : Int32) (zlen P b27)) <| zl (zap m14 b27 (229 : Int32).toNatClampNeg i1) fun m34 =>
    some (v25, m34))
def f_X11_append_b20 (P : zSt)   (m : zM) : Option (Int32 × zM) :=
  some ((-2 : Int32), m)
def f_X11_append_b39 (P : zSt)  : Nat → Nat → Int32 → Int32 → Int32 → zM → Option (Int32 × zM)
  | 0, _, _, _, _, _ => none
  | fu + 1, a0, x1, x2, x3, m =>
    (if x2 ≤ x3 then
      some ((zf m 207 a0), m)
    else
      zl (zR P 206 a0) fun b45 =>
      zgd (zin (zf m 207 a0) (zlen P b45)) <| zl (zap m b45 (zf m 207 a0).toNatClampNeg x1) fun m53 =>
      zl (zfp m53 207 a0 ((zf m53 207 a0) + (1 : Int32))) fun m61 =>
      zl (x3 + (1 : Int32)) fun v64 =>
      f_X11_append_b39 P fu a0 x1 x2 v64 m61)
def f_X11_append (P : zSt) (a0 : Nat) (i1 : Int32) (i2 : Int32) (m : zM) : Option (Int32 × zM) :=
  zb (f_X11_isIn P i1 (0 : Int32) (127 : Int32) m) fun r4 m4 =>
  (if r4 = 0 then
    f_X11_append_b20 P m4
  else
    zb (f_X11_isIn P i2 (1 : Int32) (40 : Int32) m4) fun r14 m14 =>
    (if r14 = 0 then
      f_X11_append_b20 P m14
    else
      (if ((zf m14 207 a0) + i2) ≤ (40 : Int32) then
        f_X11_append_b39 P zfuel a0 i1 i2 (0 : Int32) m14
      else
        some ((-3 : Int32), m14))))
def f_X11_isOfPath_b17 (P : zSt)   (m : zM) : Option (Int32 × zM) :=
  zgd (zbo (1 : Int32)) (some ((1 : Int32), m))
def f_X11_isOfPath (P : zSt) (i0 : Int32) (m : zM) : Option (Int32 × zM) :=
  (if i0 = (47 : Int32) then
    f_X11_isOfPath_b17 P m
  else
    zb (f_X11_isIn P i0 (97 : Int32) (122 : Int32) m) fun r11 m11 =>
    (if r11 = 0 then
      zgd (zbo (0 : Int32)) (some ((0 : Int32), m11))
    else
      f_X11_isOfPath_b17 P m11))
def f_X11_isPath_b18 (P : zSt)   (m : zM) : Option (Int32 × zM) :=
  zgd (zbo (0 : Int32)) (some ((0 : Int32), m))
def f_X11_isPath_b22 (P : zSt)  : Nat → Nat → Int32 → zM → Option (Int32 × zM)
  | 0, _, _, _ => none
  | fu + 1, a0, x1, m =>
    (if (zf m 207 a0) ≤ x1 then
      zgd (zbo (1 : Int32)) (some ((1 : Int32), m))
    else
      zl (zR P 206 a0) fun b31 =>
      zgd (zin x1 (zlen P b31)) <|
      zb (f_X11_isOfPath P (za m b31 x1.toNatClampNeg) m) fun r36 m36 =>
      (if r36 = 0 then
        zgd (zbo (0 : Int32)) (some ((0 : Int32), m36))
      else
        zl (x1 + (1 : Int32)) fun v44 =>
        f_X11_isPath_b22 P fu a0 v44 m36))
def f_X11_isPath (P : zSt) (a0 : Nat) (m : zM) : Option (Int32 × zM) :=
  (if (zf m 207 a0) = 0 then
    f_X11_isPath_b18 P m
  else
    zl (zR P 206 a0) fun b8 =>
    zgd (zin (0 : Int32) (zlen P b8)) <|
    (if (za m b8 (0 : Int32).toNatClampNeg) = (47 : Int32) then
      f_X11_isPath_b22 P zfuel a0 (0 : Int32) m
    else
      f_X11_isPath_b18 P m))
def f_X11_here (P : zSt) (a0 : Nat) (m : zM) : Option (Int32 × zM) :=
  (if (zf m 207 a0) ≤ (zf m 213 a0) then
    some ((-1 : Int32), m)
  else
    zl (zR P 206 a0) fun b12 =>
    zgd (zin (zf m 213 a0) (zlen P b12)) <|
    some ((za m b12 (zf m 213 a0).toNatClampNeg), m))
def f_X11_sign_b39 (P : zSt)  (s0 : Int32) (s1 : Int32) (t2 : Nat) (m : zM) : Option (Int32 × zM) :=
  zl (zfp m 213 t2 (s1 + s0)) fun m40 =>
  some (0, m40)
def f_X11_sign_b18 (P : zSt)  (a0 : Nat) (s0 : Int32) (s1 : Int32) (t2 : Nat) (m : zM) : Option (Int32 × zM) :=
  zgd (zbo (s1 ||| s0)) <| zl (zfp m 214 t2 (s1 ||| s0)) fun m19 =>
  (if (zf m19 214 a0) = 0 then
    f_X11_sign_b39 P (1 : Int32) (zf m19 213 a0) a0 m19
  else
    f_X11_sign_b39 P (0 : Int32) (zf m19 213 a0) a0 m19)
def f_X11_sign (P : zSt) (a0 : Nat) (i1 : Int32) (m : zM) : Option (Int32 × zM) :=
  zb (f_X11_here P a0 m) fun r6 m6 =>
  (if r6 = i1 then
    f_X11_sign_b18 P a0 (0 : Int32) (zf m 214 a0) a0 m6
  else
    f_X11_sign_b18 P a0 (1 : Int32) (zf m 214 a0) a0 m6)
def f_X11_digit_b48 (P : zSt)  (a0 : Nat) (x3 : Int32) (s0 : Int32) (s1 : Int32) (t2 : Nat) (m : zM) : Option (Int32 × zM) :=
  zl (zfp m 213 t2 (s1 + s0)) fun m49 =>
  (if (zf m49 214 a0) = 0 then
    some (x3, m49)
  else
    some ((0 : Int32), m49))
def f_X11_digit_b27 (P : zSt)  (a0 : Nat) (x3 : Int32) (s0 : Int32) (s1 : Int32) (t2 : Nat) (m : zM) : Option (Int32 × zM) :=
  zgd (zbo (s1 ||| s0)) <| zl (zfp m 214 t2 (s1 ||| s0)) fun m28 =>
  (if (zf m28 214 a0) = 0 then
    f_X11_digit_b48 P a0 x3 (1 : Int32) (zf m28 213 a0) a0 m28
  else
    f_X11_digit_b48 P a0 x3 (0 : Int32) (zf m28 213 a0) a0 m28)
def f_X11_digit (P : zSt) (a0 : Nat) (i1 : Int32) (i2 : Int32) (m : zM) : Option (Int32 × zM) :=
  zb (f_X11_here P a0 m) fun r1 m1 =>
  zl ((r1 - (48 : Int32))) fun v7 =>
  zb (f_X11_isIn P v7 i1 i2 m1) fun r16 m16 =>
  (if r16 = 0 then
    f_X11_digit_b27 P a0 v7 (1 : Int32) (zf m1 214 a0) a0 m16
  else
    f_X11_digit_b27 P a0 v7 (0 : Int32) (zf m1 214 a0) a0 m16)
def f_X11_target_b71 (P : zSt) (rec_41 : Nat → Int32 → Int32 → Int32 → zM → Option (Int32 × zM)) (a0 : Nat) (x1 : Int32) (x2 : Int32) (x3 : Int32) (s0 : Int32) (s1 : Int32) (t2 : Nat) (m : zM) : Option (Int32 × zM) :=
  zgd (zbo (s1 ||| s0)) <| zl (zfp m 214 t2 (s1 ||| s0)) fun m72 =>
  zl (x3 + (1 : Int32)) fun v75 =>
  rec_41 a0 x1 x2 v75 m72
def f_X11_target_b164 (P : zSt)  (a0 : Nat) (m : zM) : Option (Int32 × zM) :=
  zl (zR P 215 a0) fun b165 =>
  zgd (zin (43 : Int32) (zlen P b165)) <|
  zgd (zin (43 : Int32) (zlen P b165)) <| zl (zap m b165 (43 : Int32).toNatClampNeg ((za m b165 (43 : Int32).toNatClampNeg) + (1 : Int32))) fun m174 =>
  some (0, m174)
def f_X11_target_b41 (P : zSt)  : Nat → Nat → Int32 → Int32 → Int32 → zM → Option (Int32 × zM)
  | 0, _, _, _, _, _ => none
  | fu + 1, a0, x1, x2, x3, m =>
    (if x1 ≤ x3 then
      (if (zf m 214 a0) = 0 then
        zl (zfp m 213 a0 ((zf m 213 a0) + (1 : Int32))) fun m96 =>
        zl (zR P 215 a0) fun b100 =>
        zgd (zin ((44 : Int32) + ((4 : Int32) * x1)) (zlen P b100)) <| zl (zap m96 b100 ((44 : Int32) + ((4 : Int32) * x1)).toNatClampNeg x2) fun m110 =>
        zl (zR P 215 a0) fun b112 =>
        zgd (zin (((44 : Int32) + ((4 : Int32) * x1)) + (1 : Int32)) (zlen P b112)) <| zl (zap m110 b112 (((44 : Int32) + ((4 : Int32) * x1)) + (1 : Int32)).toNatClampNeg (1 : Int32)) fun m124 =>
        zb (f_X11_here P a0 m124) fun r126 m126 =>
        (if r126 = (58 : Int32) then
          zl (zfp m126 213 a0 ((zf m126 213 a0) + (1 : Int32))) fun m141 =>
          zl (zR P 215 a0) fun b145 =>
          zb (f_X11_digit P a0 (1 : Int32) (9 : Int32) m141) fun r160 m160 =>
          zgd (zin (((44 : Int32) + ((4 : Int32) * x1)) + (1 : Int32)) (zlen P b145)) <| zl (zap m160 b145 (((44 : Int32) + ((4 : Int32) * x1)) + (1 : Int32)).toNatClampNeg r160) fun m163 =>
          f_X11_target_b164 P a0 m163
        else
          f_X11_target_b164 P a0 m126)
      else
        some (0, m))
    else
      zl (zR P 215 a0) fun b52 =>
      zgd (zin ((44 : Int32) + ((4 : Int32) * x3)) (zlen P b52)) <|
      (if (za m b52 ((44 : Int32) + ((4 : Int32) * x3)).toNatClampNeg) = x2 then
        f_X11_target_b71 P (f_X11_target_b41 P fu) a0 x1 x2 x3 (1 : Int32) (zf m 214 a0) a0 m
      else
        f_X11_target_b71 P (f_X11_target_b41 P fu) a0 x1 x2 x3 (0 : Int32) (zf m 214 a0) a0 m))
def f_X11_target_b35 (P : zSt)  (a0 : Nat) (x1 : Int32) (x2 : Int32) (s0 : Int32) (s1 : Int32) (t2 : Nat) (m : zM) : Option (Int32 × zM) :=
  zgd (zbo (s1 ||| s0)) <| zl (zfp m 214 t2 (s1 ||| s0)) fun m36 =>
  f_X11_target_b41 P zfuel a0 x1 x2 (0 : Int32) m36
def f_X11_target (P : zSt) (a0 : Nat) (m : zM) : Option (Int32 × zM) :=
  zl (zR P 215 a0) fun b1 =>
  zgd (zin (43 : Int32) (zlen P b1)) <|
  zl ((za m b1 (43 : Int32).toNatClampNeg)) fun v7 =>
  zb (f_X11_here P a0 m) fun r9 m9 =>
  zl ((r9 - (48 : Int32))) fun v15 =>
  zb (f_X11_isIn P v15 (0 : Int32) (3 : Int32) m9) fun r24 m24 =>
  (if r24 = 0 then
    f_X11_target_b35 P a0 v7 v15 (1 : Int32) (zf m9 214 a0) a0 m24
  else
    f_X11_target_b35 P a0 v7 v15 (0 : Int32) (zf m9 214 a0) a0 m24)
def f_X11_reads_b306 (P : zSt) (rec_251 : Nat → Int32 → zM → Option (Int32 × zM)) (a0 : Nat) (x1 : Int32) (s0 : Int32) (s1 : Int32) (t2 : Nat) (m : zM) : Option (Int32 × zM) :=
  zl (zfp m 213 t2 (s1 + s0)) fun m307 =>
  rec_251 a0 x1 m307
def f_X11_reads_b291 (P : zSt) (rec_251 : Nat → Int32 → zM → Option (Int32 × zM)) (a0 : Nat) (s0 : Int32) (m : zM) : Option (Int32 × zM) :=
  (if s0 = 0 then
    f_X11_reads_b306 P rec_251 a0 s0 (0 : Int32) (zf m 213 a0) a0 m
  else
    f_X11_reads_b306 P rec_251 a0 s0 (1 : Int32) (zf m 213 a0) a0 m)
def f_X11_reads_b290 (P : zSt) (rec_251 : Nat → Int32 → zM → Option (Int32 × zM)) (a0 : Nat) (m : zM) : Option (Int32 × zM) :=
  f_X11_reads_b291 P rec_251 a0 (0 : Int32) m
def f_X11_reads_b412 (P : zSt)  (s0 : Int32) (s1 : Int32) (t2 : Nat) (m : zM) : Option (Int32 × zM) :=
  zgd (zbo (s1 ||| s0)) <| zl (zfp m 214 t2 (s1 ||| s0)) fun m413 =>
  some (0, m413)
def f_X11_reads_b391 (P : zSt)  (a0 : Nat) (m : zM) : Option (Int32 × zM) :=
  (if (zf m 207 a0) ≤ (zf m 213 a0) then
    f_X11_reads_b412 P (0 : Int32) (zf m 214 a0) a0 m
  else
    f_X11_reads_b412 P (1 : Int32) (zf m 214 a0) a0 m)
def f_X11_reads_b352 (P : zSt)  (a0 : Nat) (m : zM) : Option (Int32 × zM) :=
  (if (zf m 214 a0) = 0 then
    zb (f_X11_here P a0 m) fun r360 m360 =>
    (if r360 = (42 : Int32) then
      zl (zfp m360 213 a0 ((zf m360 213 a0) + (1 : Int32))) fun m375 =>
      zl (zR P 215 a0) fun b379 =>
      zb (f_X11_digit P a0 (1 : Int32) (4 : Int32) m375) fun r387 m387 =>
      zgd (zin (56 : Int32) (zlen P b379)) <| zl (zap m387 b379 (56 : Int32).toNatClampNeg r387) fun m390 =>
      f_X11_reads_b391 P a0 m390
    else
      f_X11_reads_b391 P a0 m360)
  else
    f_X11_reads_b391 P a0 m)
def f_X11_reads_b251 (P : zSt)  : Nat → Nat → Int32 → zM → Option (Int32 × zM)
  | 0, _, _, _ => none
  | fu + 1, a0, x1, m =>
    (if x1 = 0 then
      (if (zf m 214 a0) = 0 then
        zb (f_X11_here P a0 m) fun r321 m321 =>
        (if r321 = (126 : Int32) then
          zl (zfp m321 213 a0 ((zf m321 213 a0) + (1 : Int32))) fun m336 =>
          zl (zR P 215 a0) fun b340 =>
          zb (f_X11_digit P a0 (0 : Int32) (3 : Int32) m336) fun r348 m348 =>
          zgd (zin (57 : Int32) (zlen P b340)) <| zl (zap m348 b340 (57 : Int32).toNatClampNeg r348) fun m351 =>
          f_X11_reads_b352 P a0 m351
        else
          f_X11_reads_b352 P a0 m321)
      else
        f_X11_reads_b352 P a0 m)
    else
      zb (f_X11_target P a0 m) fun _ m256 =>
      (if (zf m256 214 a0) = 0 then
        zb (f_X11_here P a0 m256) fun r267 m267 =>
        (if r267 = (44 : Int32) then
          zl (zR P 215 a0) fun b276 =>
          zgd (zin (43 : Int32) (zlen P b276)) <|
          (if (3 : Int32) ≤ (za m267 b276 (43 : Int32).toNatClampNeg) then
            f_X11_reads_b290 P (f_X11_reads_b251 P fu) a0 m267
          else
            f_X11_reads_b291 P (f_X11_reads_b251 P fu) a0 (1 : Int32) m267)
        else
          f_X11_reads_b290 P (f_X11_reads_b251 P fu) a0 m267)
      else
        f_X11_reads_b290 P (f_X11_reads_b251 P fu) a0 m256))
def f_X11_reads_b250 (P : zSt)  (a0 : Nat) (s0 : Int32) (m : zM) : Option (Int32 × zM) :=
  f_X11_reads_b251 P zfuel a0 s0 m
def f_X11_reads_b238 (P : zSt)  (a0 : Nat) (m : zM) : Option (Int32 × zM) :=
  (if (zf m 214 a0) = 0 then
    f_X11_reads_b250 P a0 (1 : Int32) m
  else
    f_X11_reads_b250 P a0 (0 : Int32) m)
def f_X11_reads_b225 (P : zSt)  (a0 : Nat) (m : zM) : Option (Int32 × zM) :=
  (if (zf m 214 a0) = 0 then
    zb (f_X11_sign P a0 (61 : Int32) m) fun _ m235 =>
    f_X11_reads_b238 P a0 m235
  else
    f_X11_reads_b238 P a0 m)
def f_X11_reads_b212 (P : zSt)  (a0 : Nat) (m : zM) : Option (Int32 × zM) :=
  (if (zf m 214 a0) = 0 then
    zb (f_X11_sign P a0 (93 : Int32) m) fun _ m222 =>
    f_X11_reads_b225 P a0 m222
  else
    f_X11_reads_b225 P a0 m)
def f_X11_reads_b185 (P : zSt)  (a0 : Nat) (m : zM) : Option (Int32 × zM) :=
  (if (zf m 214 a0) = 0 then
    zl (zR P 215 a0) fun b193 =>
    zl (zR P 215 a0) fun b200 =>
    zgd (zin (41 : Int32) (zlen P b200)) <|
    zb (f_X11_digit P a0 (za m b200 (41 : Int32).toNatClampNeg) (9 : Int32) m) fun r208 m208 =>
    zgd (zin (42 : Int32) (zlen P b193)) <| zl (zap m208 b193 (42 : Int32).toNatClampNeg r208) fun m211 =>
    f_X11_reads_b212 P a0 m211
  else
    f_X11_reads_b212 P a0 m)
def f_X11_reads_b132 (P : zSt)  (a0 : Nat) (m : zM) : Option (Int32 × zM) :=
  (if (zf m 214 a0) = 0 then
    zb (f_X11_here P a0 m) fun r140 m140 =>
    (if r140 = (91 : Int32) then
      zl (zfp m140 213 a0 ((zf m140 213 a0) + (1 : Int32))) fun m155 =>
      zl (zR P 215 a0) fun b159 =>
      zb (f_X11_digit P a0 (0 : Int32) (9 : Int32) m155) fun r168 m168 =>
      zgd (zin (41 : Int32) (zlen P b159)) <| zl (zap m168 b159 (41 : Int32).toNatClampNeg r168) fun m171 =>
      (if (zf m171 214 a0) = 0 then
        zb (f_X11_sign P a0 (45 : Int32) m171) fun _ m182 =>
        f_X11_reads_b185 P a0 m182
      else
        f_X11_reads_b185 P a0 m171)
    else
      f_X11_reads_b225 P a0 m140)
  else
    f_X11_reads_b225 P a0 m)
def f_X11_reads_b64 (P : zSt)  : Nat → Nat → zM → Option (Int32 × zM)
  | 0, _, _ => none
  | fu + 1, a0, m =>
    (if (zf m 214 a0) = 0 then
      (if (zf m 207 a0) ≤ (zf m 213 a0) then
        f_X11_reads_b132 P a0 m
      else
        zb (f_X11_here P a0 m) fun r83 m83 =>
        zb (f_X11_isOfPath P r83 m83) fun r86 m86 =>
        (if r86 = 0 then
          f_X11_reads_b132 P a0 m86
        else
          zl (zR P 215 a0) fun b93 =>
          zl (zR P 215 a0) fun b98 =>
          zgd (zin (0 : Int32) (zlen P b98)) <|
          zb (f_X11_here P a0 m86) fun r105 m105 =>
          zgd (zin ((1 : Int32) + (za m86 b98 (0 : Int32).toNatClampNeg)) (zlen P b93)) <| zl (zap m105 b93 ((1 : Int32) + (za m86 b98 (0 : Int32).toNatClampNeg)).toNatClampNeg r105) fun m108 =>
          zl (zR P 215 a0) fun b110 =>
          zgd (zin (0 : Int32) (zlen P b110)) <|
          zgd (zin (0 : Int32) (zlen P b110)) <| zl (zap m108 b110 (0 : Int32).toNatClampNeg ((za m108 b110 (0 : Int32).toNatClampNeg) + (1 : Int32))) fun m118 =>
          zl (zfp m118 213 a0 ((zf m118 213 a0) + (1 : Int32))) fun m126 =>
          f_X11_reads_b64 P fu a0 m126))
    else
      f_X11_reads_b132 P a0 m)
def f_X11_reads_b61 (P : zSt)  (a0 : Nat) (s0 : Int32) (t1 : Nat) (m : zM) : Option (Int32 × zM) :=
  zgd (zbo s0) <| zl (zfp m 214 t1 s0) fun m61 =>
  f_X11_reads_b64 P zfuel a0 m61
def f_X11_reads_b2 (P : zSt)  : Nat → Nat → Int32 → zM → Option (Int32 × zM)
  | 0, _, _, _ => none
  | fu + 1, a0, x1, m =>
    (if (58 : Int32) ≤ x1 then
      zl (zR P 215 a0) fun b22 =>
      zgd (zin (42 : Int32) (zlen P b22)) <| zl (zap m b22 (42 : Int32).toNatClampNeg (9 : Int32)) fun m29 =>
      zl (zR P 215 a0) fun b31 =>
      zgd (zin (56 : Int32) (zlen P b31)) <| zl (zap m29 b31 (56 : Int32).toNatClampNeg (1 : Int32)) fun m37 =>
      zl (zR P 215 a0) fun b39 =>
      zgd (zin (57 : Int32) (zlen P b39)) <| zl (zap m37 b39 (57 : Int32).toNatClampNeg (-1 : Int32)) fun m45 =>
      zb (f_X11_here P a0 m45) fun r48 m48 =>
      (if r48 = (47 : Int32) then
        f_X11_reads_b61 P a0 (0 : Int32) a0 m48
      else
        f_X11_reads_b61 P a0 (1 : Int32) a0 m48)
    else
      zl (zR P 215 a0) fun b9 =>
      zgd (zin x1 (zlen P b9)) <| zl (zap m b9 x1.toNatClampNeg (0 : Int32)) fun m14 =>
      zl (x1 + (1 : Int32)) fun v15 =>
      f_X11_reads_b2 P fu a0 v15 m14)
def f_X11_reads (P : zSt) (a0 : Nat) (m : zM) : Option (Int32 × zM) :=
  f_X11_reads_b2 P zfuel a0 (0 : Int32) m
def f_X11_addRule_b51 (P : zSt)  : Nat → Nat → Int32 → zM → Option (Int32 × zM)
  | 0, _, _, _ => none
  | fu + 1, a0, x1, m =>
    (if (58 : Int32) ≤ x1 then
      zl (zR P 200 a0) fun b92 =>
      zgd (zin (230 : Int32) (zlen P b92)) <|
      zgd (zin (230 : Int32) (zlen P b92)) <| zl (zap m b92 (230 : Int32).toNatClampNeg ((za m b92 (230 : Int32).toNatClampNeg) + (1 : Int32))) fun m102 =>
      zl (zR P 200 a0) fun b104 =>
      zgd (zin (230 : Int32) (zlen P b104)) <|
      some (((za m102 b104 (230 : Int32).toNatClampNeg) - (1 : Int32)), m102)
    else
      zl (zR P 200 a0) fun b58 =>
      zl (zR P 200 a0) fun b67 =>
      zgd (zin (230 : Int32) (zlen P b67)) <|
      zl (zR P 215 a0) fun b79 =>
      zgd (zin x1 (zlen P b79)) <|
      zgd (zin (((231 : Int32) + ((58 : Int32) * (za m b67 (230 : Int32).toNatClampNeg))) + x1) (zlen P b58)) <| zl (zap m b58 (((231 : Int32) + ((58 : Int32) * (za m b67 (230 : Int32).toNatClampNeg))) + x1).toNatClampNeg (za m b79 x1.toNatClampNeg)) fun m84 =>
      zl (x1 + (1 : Int32)) fun v85 =>
      f_X11_addRule_b51 P fu a0 v85 m84)
def f_X11_addRule (P : zSt) (a0 : Nat) (m : zM) : Option (Int32 × zM) :=
  zl (zfp m 213 a0 (0 : Int32)) fun m2 =>
  zb (f_X11_reads P a0 m2) fun _ m6 =>
  zl (zfp m6 207 a0 (0 : Int32)) fun m11 =>
  (if (zf m11 214 a0) = 0 then
    zl (zR P 200 a0) fun b30 =>
    zgd (zin (230 : Int32) (zlen P b30)) <|
    (if (za m11 b30 (230 : Int32).toNatClampNeg) = (8 : Int32) then
      some ((-3 : Int32), m11)
    else
      zb (f_X11_changes P a0 m11) fun _ m46 =>
      f_X11_addRule_b51 P zfuel a0 (0 : Int32) m46)
  else
    some (((-100 : Int32) - (zf m11 213 a0)), m11))
def f_X11_isRule (P : zSt) (a0 : Nat) (i1 : Int32) (m : zM) : Option (Int32 × zM) :=
  zl (zR P 200 a0) fun b3 =>
  zgd (zin (230 : Int32) (zlen P b3)) <|
  zb (f_X11_isIn P i1 (0 : Int32) ((za m b3 (230 : Int32).toNatClampNeg) - (1 : Int32)) m) fun r12 m12 =>
  zgd (zbo r12) (some (r12, m12))
def f_X11_removeRule_b35 (P : zSt)  : Nat → Nat → Int32 → zM → Option (Int32 × zM)
  | 0, _, _, _ => none
  | fu + 1, a0, x2, m =>
    zl (zR P 200 a0) fun b42 =>
    zgd (zin (230 : Int32) (zlen P b42)) <|
    (if ((231 : Int32) + ((58 : Int32) * (za m b42 (230 : Int32).toNatClampNeg))) ≤ x2 then
      zl (zR P 200 a0) fun b76 =>
      zgd (zin (230 : Int32) (zlen P b76)) <|
      some ((za m b76 (230 : Int32).toNatClampNeg), m)
    else
      zl (zR P 200 a0) fun b55 =>
      zl (zR P 200 a0) fun b60 =>
      zgd (zin (x2 + (58 : Int32)) (zlen P b60)) <|
      zgd (zin x2 (zlen P b55)) <| zl (zap m b55 x2.toNatClampNeg (za m b60 (x2 + (58 : Int32)).toNatClampNeg)) fun m68 =>
      zl (x2 + (1 : Int32)) fun v69 =>
      f_X11_removeRule_b35 P fu a0 v69 m68)
def f_X11_removeRule (P : zSt) (a0 : Nat) (i1 : Int32) (m : zM) : Option (Int32 × zM) :=
  zb (f_X11_isRule P a0 i1 m) fun r2 m2 =>
  (if r2 = 0 then
    some ((-1 : Int32), m2)
  else
    zb (f_X11_changes P a0 m2) fun _ m11 =>
    zl (zR P 200 a0) fun b15 =>
    zgd (zin (230 : Int32) (zlen P b15)) <|
    zgd (zin (230 : Int32) (zlen P b15)) <| zl (zap m11 b15 (230 : Int32).toNatClampNeg ((za m11 b15 (230 : Int32).toNatClampNeg) - (1 : Int32))) fun m25 =>
    zl (((231 : Int32) + ((58 : Int32) * i1))) fun v34 =>
    f_X11_removeRule_b35 P zfuel a0 v34 m25)
def f_X11_swaps_b9 (P : zSt)  : Nat → Nat → Int32 → Int32 → zM → Option (Int32 × zM)
  | 0, _, _, _, _ => none
  | fu + 1, a0, x1, x2, m =>
    (if ((231 : Int32) + ((58 : Int32) * (x1 + (1 : Int32)))) ≤ x2 then
      some (0, m)
    else
      zl (zR P 200 a0) fun b24 =>
      zgd (zin x2 (zlen P b24)) <|
      zl ((za m b24 x2.toNatClampNeg)) fun v29 =>
      zl (zR P 200 a0) fun b31 =>
      zl (zR P 200 a0) fun b36 =>
      zgd (zin (x2 + (58 : Int32)) (zlen P b36)) <|
      zgd (zin x2 (zlen P b31)) <| zl (zap m b31 x2.toNatClampNeg (za m b36 (x2 + (58 : Int32)).toNatClampNeg)) fun m44 =>
      zl (zR P 200 a0) fun b46 =>
      zgd (zin (x2 + (58 : Int32)) (zlen P b46)) <| zl (zap m44 b46 (x2 + (58 : Int32)).toNatClampNeg v29) fun m54 =>
      zl (x2 + (1 : Int32)) fun v55 =>
      f_X11_swaps_b9 P fu a0 x1 v55 m54)
def f_X11_swaps (P : zSt) (a0 : Nat) (i1 : Int32) (m : zM) : Option (Int32 × zM) :=
  zl (((231 : Int32) + ((58 : Int32) * i1))) fun v8 =>
  f_X11_swaps_b9 P zfuel a0 i1 v8 m
def f_X11_moveRule_b47 (P : zSt)  : Nat → Nat → Int32 → Int32 → Int32 → zM → Option (Int32 × zM)
  | 0, _, _, _, _, _ => none
  | fu + 1, a0, x1, x2, x3, m =>
    (if x3 < x2 then
      (if x1 ≤ x2 then
        some ((x2 - x1), m)
      else
        some ((x1 - x2), m))
    else
      zb (f_X11_swaps P a0 x3 m) fun _ m54 =>
      zl (x3 + (-1 : Int32)) fun v57 =>
      f_X11_moveRule_b47 P fu a0 x1 x2 v57 m54)
def f_X11_moveRule_b27 (P : zSt)  : Nat → Nat → Int32 → Int32 → Int32 → zM → Option (Int32 × zM)
  | 0, _, _, _, _, _ => none
  | fu + 1, a0, x1, x2, x3, m =>
    (if x2 ≤ x3 then
      zl ((x1 - (1 : Int32))) fun v46 =>
      f_X11_moveRule_b47 P zfuel a0 x1 x2 v46 m
    else
      zb (f_X11_swaps P a0 x3 m) fun _ m34 =>
      zl (x3 + (1 : Int32)) fun v37 =>
      f_X11_moveRule_b27 P fu a0 x1 x2 v37 m34)
def f_X11_moveRule (P : zSt) (a0 : Nat) (i1 : Int32) (i2 : Int32) (m : zM) : Option (Int32 × zM) :=
  zb (f_X11_isRule P a0 i1 m) fun r2 m2 =>
  (if r2 = 0 then
    some ((-1 : Int32), m2)
  else
    zb (f_X11_isRule P a0 i2 m2) fun r12 m12 =>
    (if r12 = 0 then
      some ((-2 : Int32), m12)
    else
      zb (f_X11_changes P a0 m12) fun _ m22 =>
      f_X11_moveRule_b27 P zfuel a0 i1 i2 i1 m22))
def f_X11_fits_b47 (P : zSt)   (m : zM) : Option (Int32 × zM) :=
  zgd (zbo (0 : Int32)) (some ((0 : Int32), m))
def f_X11_fits_b52 (P : zSt)  : Nat → Nat → Int32 → Int32 → zM → Option (Int32 × zM)
  | 0, _, _, _, _ => none
  | fu + 1, a0, x3, x4, m =>
    zl (zR P 200 a0) fun b55 =>
    zgd (zin x3 (zlen P b55)) <|
    (if (za m b55 x3.toNatClampNeg) ≤ x4 then
      zgd (zbo (1 : Int32)) (some ((1 : Int32), m))
    else
      zl (zR P 200 a0) fun b64 =>
      zgd (zin ((x3 + (1 : Int32)) + x4) (zlen P b64)) <|
      zl (zR P 206 a0) fun b75 =>
      zgd (zin x4 (zlen P b75)) <|
      (if (za m b64 ((x3 + (1 : Int32)) + x4).toNatClampNeg) = (za m b75 x4.toNatClampNeg) then
        zl (x4 + (1 : Int32)) fun v86 =>
        f_X11_fits_b52 P fu a0 x3 v86 m
      else
        zgd (zbo (0 : Int32)) (some ((0 : Int32), m))))
def f_X11_fits (P : zSt) (a0 : Nat) (i1 : Int32) (i2 : Int32) (m : zM) : Option (Int32 × zM) :=
  zl (((231 : Int32) + ((58 : Int32) * i1))) fun v8 =>
  zl (zR P 200 a0) fun b10 =>
  zgd (zin v8 (zlen P b10)) <|
  (if (zf m 207 a0) < (za m b10 v8.toNatClampNeg) then
    f_X11_fits_b47 P m
  else
    zl (zR P 200 a0) fun b24 =>
    zgd (zin (v8 + (41 : Int32)) (zlen P b24)) <|
    zl (zR P 200 a0) fun b33 =>
    zgd (zin (v8 + (42 : Int32)) (zlen P b33)) <|
    zb (f_X11_isIn P i2 (za m b24 (v8 + (41 : Int32)).toNatClampNeg) (za m b33 (v8 + (42 : Int32)).toNatClampNeg) m) fun r41 m41 =>
    (if r41 = 0 then
      f_X11_fits_b47 P m41
    else
      f_X11_fits_b52 P zfuel a0 v8 (0 : Int32) m41))
def f_X11_ruleOf_b29 (P : zSt)  (a0 : Nat) (x2 : Int32) (m : zM) : Option (Int32 × zM) :=
  zl (zR P 200 a0) fun b31 =>
  zgd (zin (230 : Int32) (zlen P b31)) <|
  (if (za m b31 (230 : Int32).toNatClampNeg) ≤ x2 then
    some ((-1 : Int32), m)
  else
    some (x2, m))
def f_X11_ruleOf_b2 (P : zSt)  : Nat → Nat → Int32 → Int32 → zM → Option (Int32 × zM)
  | 0, _, _, _, _ => none
  | fu + 1, a0, x1, x2, m =>
    zl (zR P 200 a0) fun b4 =>
    zgd (zin (230 : Int32) (zlen P b4)) <|
    (if (za m b4 (230 : Int32).toNatClampNeg) ≤ x2 then
      f_X11_ruleOf_b29 P a0 x2 m
    else
      zb (f_X11_fits P a0 x2 x1 m) fun r17 m17 =>
      (if r17 = 0 then
        zl (x2 + (1 : Int32)) fun v23 =>
        f_X11_ruleOf_b2 P fu a0 x1 v23 m17
      else
        f_X11_ruleOf_b29 P a0 x2 m17))
def f_X11_ruleOf (P : zSt) (a0 : Nat) (i1 : Int32) (m : zM) : Option (Int32 × zM) :=
  f_X11_ruleOf_b2 P zfuel a0 i1 (0 : Int32) m
def f_X11_match (P : zSt) (a0 : Nat) (i1 : Int32) (m : zM) : Option (Int32 × zM) :=
  zb (f_X11_isIn P i1 (0 : Int32) (9 : Int32) m) fun r4 m4 =>
  (if r4 = 0 then
    some ((-2 : Int32), m4)
  else
    zb (f_X11_isPath P a0 m4) fun r16 m16 =>
    (if r16 = 0 then
      some ((-7 : Int32), m16)
    else
      zb (f_X11_ruleOf P a0 i1 m16) fun r29 m29 =>
      some (r29, m29)))
def f_X11_isMember_b23 (P : zSt)   (m : zM) : Option (Int32 × zM) :=
  zgd (zbo (0 : Int32)) (some ((0 : Int32), m))
def f_X11_isMember (P : zSt) (a0 : Nat) (i1 : Int32) (i2 : Int32) (m : zM) : Option (Int32 × zM) :=
  zb (f_X11_of P a0 i1 (0 : Int32) m) fun r3 m3 =>
  (if r3 = i2 then
    zb (f_X11_of P a0 i1 (2 : Int32) m3) fun r13 m13 =>
    (if r13 ≤ 0 then
      f_X11_isMember_b23 P m13
    else
      zgd (zbo (1 : Int32)) (some ((1 : Int32), m13)))
  else
    f_X11_isMember_b23 P m3)
def f_X11_isAvailable_b23 (P : zSt)   (m : zM) : Option (Int32 × zM) :=
  zgd (zbo (0 : Int32)) (some ((0 : Int32), m))
def f_X11_isAvailable (P : zSt) (a0 : Nat) (i1 : Int32) (i2 : Int32) (m : zM) : Option (Int32 × zM) :=
  zb (f_X11_isMember P a0 i1 i2 m) fun r3 m3 =>
  (if r3 = 0 then
    f_X11_isAvailable_b23 P m3
  else
    zb (f_X11_of P a0 i1 (9 : Int32) m3) fun r13 m13 =>
    (if r13 = 0 then
      zgd (zbo (1 : Int32)) (some ((1 : Int32), m13))
    else
      f_X11_isAvailable_b23 P m13))
def f_X11_availables_b33 (P : zSt) (rec_4 : Nat → Int32 → Int32 → Int32 → zM → Option (Int32 × zM)) (a0 : Nat) (x1 : Int32) (x3 : Int32) (s0 : Int32) (s1 : Int32) (m : zM) : Option (Int32 × zM) :=
  zl ((s1 ||| s0)) fun v34 =>
  zl (x3 + (1 : Int32)) fun v35 =>
  rec_4 a0 x1 v34 v35 m
def f_X11_availables_b4 (P : zSt)  : Nat → Nat → Int32 → Int32 → Int32 → zM → Option (Int32 × zM)
  | 0, _, _, _, _, _ => none
  | fu + 1, a0, x1, x2, x3, m =>
    zl (zR P 200 a0) fun b6 =>
    zgd (zin (144 : Int32) (zlen P b6)) <|
    (if (za m b6 (144 : Int32).toNatClampNeg) ≤ x3 then
      some (x2, m)
    else
      zb (f_X11_isAvailable P a0 x3 x1 m) fun r20 m20 =>
      (if r20 = 0 then
        f_X11_availables_b33 P (f_X11_availables_b4 P fu) a0 x1 x3 (0 : Int32) x2 m20
      else
        f_X11_availables_b33 P (f_X11_availables_b4 P fu) a0 x1 x3 ((1 : Int32) <<< (x3 &&& 31)) x2 m20))
def f_X11_availables (P : zSt) (a0 : Nat) (i1 : Int32) (m : zM) : Option (Int32 × zM) :=
  f_X11_availables_b4 P zfuel a0 i1 (0 : Int32) (0 : Int32) m
def f_X11_choosesTarget_b132 (P : zSt) (rec_20 : Nat → Int32 → Int32 → Int32 → Int32 → Int32 → zM → Option (Int32 × zM)) (a0 : Nat) (x1 : Int32) (x2 : Int32) (x3 : Int32) (x4 : Int32) (x5 : Int32) (m : zM) : Option (Int32 × zM) :=
  zl (x5 + (1 : Int32)) fun v132 =>
  rec_20 a0 x1 x2 x3 x4 v132 m
def f_X11_choosesTarget_b129 (P : zSt) (rec_20 : Nat → Int32 → Int32 → Int32 → Int32 → Int32 → zM → Option (Int32 × zM)) (a0 : Nat) (x1 : Int32) (x2 : Int32) (x4 : Int32) (x5 : Int32) (m : zM) : Option (Int32 × zM) :=
  f_X11_choosesTarget_b132 P rec_20 a0 x1 x2 x5 x4 x5 m
def f_X11_choosesTarget_b20 (P : zSt)  : Nat → Nat → Int32 → Int32 → Int32 → Int32 → Int32 → zM → Option (Int32 × zM)
  | 0, _, _, _, _, _, _, _ => none
  | fu + 1, a0, x1, x2, x3, x4, x5, m =>
    zl (zR P 200 a0) fun b23 =>
    zgd (zin (((231 : Int32) + ((58 : Int32) * x1)) + (43 : Int32)) (zlen P b23)) <|
    (if (za m b23 (((231 : Int32) + ((58 : Int32) * x1)) + (43 : Int32)).toNatClampNeg) ≤ x5 then
      (if 0 ≤ x3 then
        zl (zR P 200 a0) fun b145 =>
        zgd (zin ((x2 + ((4 : Int32) * x3)) + (2 : Int32)) (zlen P b145)) <|
        zgd (zin ((x2 + ((4 : Int32) * x3)) + (2 : Int32)) (zlen P b145)) <| zl (zap m b145 ((x2 + ((4 : Int32) * x3)) + (2 : Int32)).toNatClampNeg ((za m b145 ((x2 + ((4 : Int32) * x3)) + (2 : Int32)).toNatClampNeg) - x4)) fun m160 =>
        zl (zR P 200 a0) fun b162 =>
        zgd (zin ((x2 + ((4 : Int32) * x3)) + (3 : Int32)) (zlen P b162)) <|
        zgd (zin ((x2 + ((4 : Int32) * x3)) + (3 : Int32)) (zlen P b162)) <| zl (zap m160 b162 ((x2 + ((4 : Int32) * x3)) + (3 : Int32)).toNatClampNeg ((za m160 b162 ((x2 + ((4 : Int32) * x3)) + (3 : Int32)).toNatClampNeg) + (1 : Int32))) fun m176 =>
        some (x3, m176)
      else
        some ((-1 : Int32), m))
    else
      zl ((x2 + ((4 : Int32) * x5))) fun v47 =>
      zl (zR P 200 a0) fun b51 =>
      zgd (zin v47 (zlen P b51)) <|
      zb (f_X11_availables P a0 (za m b51 v47.toNatClampNeg) m) fun r57 m57 =>
      (if r57 = 0 then
        f_X11_choosesTarget_b132 P (f_X11_choosesTarget_b20 P fu) a0 x1 x2 x3 x4 x5 m57
      else
        zl (zR P 200 a0) fun b67 =>
        zgd (zin (v47 + (2 : Int32)) (zlen P b67)) <|
        zl (zR P 200 a0) fun b77 =>
        zgd (zin (v47 + (1 : Int32)) (zlen P b77)) <|
        zgd (zin (v47 + (2 : Int32)) (zlen P b67)) <| zl (zap m57 b67 (v47 + (2 : Int32)).toNatClampNeg ((za m57 b67 (v47 + (2 : Int32)).toNatClampNeg) + (za m57 b77 (v47 + (1 : Int32)).toNatClampNeg))) fun m86 =>
        zl (zR P 200 a0) fun b90 =>
        zgd (zin (v47 + (1 : Int32)) (zlen P b90)) <|
        zl ((x4 + (za m86 b90 (v47 + (1 : Int32)).toNatClampNeg))) fun v99 =>
        (if x3 < 0 then
          f_X11_choosesTarget_b129 P (f_X11_choosesTarget_b20 P fu) a0 x1 x2 v99 x5 m86
        else
          zl (zR P 200 a0) fun b106 =>
          zgd (zin (v47 + (2 : Int32)) (zlen P b106)) <|
          zl (zR P 200 a0) fun b115 =>
          zgd (zin ((x2 + ((4 : Int32) * x3)) + (2 : Int32)) (zlen P b115)) <|
          (if (za m86 b106 (v47 + (2 : Int32)).toNatClampNeg) ≤ (za m86 b115 ((x2 + ((4 : Int32) * x3)) + (2 : Int32)).toNatClampNeg) then
            f_X11_choosesTarget_b132 P (f_X11_choosesTarget_b20 P fu) a0 x1 x2 x3 v99 x5 m86
          else
            f_X11_choosesTarget_b129 P (f_X11_choosesTarget_b20 P fu) a0 x1 x2 v99 x5 m86))))
def f_X11_choosesTarget (P : zSt) (a0 : Nat) (i1 : Int32) (m : zM) : Option (Int32 × zM) :=
  zl ((((231 : Int32) + ((58 : Int32) * i1)) + (44 : Int32))) fun v11 =>
  f_X11_choosesTarget_b20 P zfuel a0 i1 v11 (-1 : Int32) (0 : Int32) (0 : Int32) m
def f_X11_byWeights_b87 (P : zSt) (rec_7 : Nat → Int32 → Int32 → Int32 → Int32 → zM → Option (Int32 × zM)) (a0 : Nat) (x1 : Int32) (x2 : Int32) (x3 : Int32) (x4 : Int32) (m : zM) : Option (Int32 × zM) :=
  zl (x4 + (1 : Int32)) fun v87 =>
  rec_7 a0 x1 x2 x3 v87 m
def f_X11_byWeights_b84 (P : zSt) (rec_7 : Nat → Int32 → Int32 → Int32 → Int32 → zM → Option (Int32 × zM)) (a0 : Nat) (x1 : Int32) (x3 : Int32) (x4 : Int32) (m : zM) : Option (Int32 × zM) :=
  f_X11_byWeights_b87 P rec_7 a0 x1 x4 x3 x4 m
def f_X11_byWeights_b7 (P : zSt)  : Nat → Nat → Int32 → Int32 → Int32 → Int32 → zM → Option (Int32 × zM)
  | 0, _, _, _, _, _, _ => none
  | fu + 1, a0, x1, x2, x3, x4, m =>
    zl (zR P 200 a0) fun b10 =>
    zgd (zin (144 : Int32) (zlen P b10)) <|
    (if (za m b10 (144 : Int32).toNatClampNeg) ≤ x4 then
      zb (f_X11_of P a0 x2 (4 : Int32) m) fun r99 m99 =>
      zb (f_X11_sets P a0 x2 (4 : Int32) (r99 - x3) m99) fun _ m104 =>
      some (x2, m104)
    else
      (if ((x1 >>> (x4 &&& 31)) &&& (1 : Int32)) = 0 then
        f_X11_byWeights_b87 P (f_X11_byWeights_b7 P fu) a0 x1 x2 x3 x4 m
      else
        zb (f_X11_of P a0 x4 (4 : Int32) m) fun r40 m40 =>
        zb (f_X11_of P a0 x4 (2 : Int32) m40) fun r47 m47 =>
        zb (f_X11_sets P a0 x4 (4 : Int32) (r40 + r47) m47) fun _ m51 =>
        zb (f_X11_of P a0 x4 (2 : Int32) m51) fun r59 m59 =>
        zl ((x3 + r59)) fun v63 =>
        (if x2 < 0 then
          f_X11_byWeights_b84 P (f_X11_byWeights_b7 P fu) a0 x1 v63 x4 m59
        else
          zb (f_X11_of P a0 x4 (4 : Int32) m59) fun r72 m72 =>
          zb (f_X11_of P a0 x2 (4 : Int32) m72) fun r78 m78 =>
          (if r72 ≤ r78 then
            f_X11_byWeights_b87 P (f_X11_byWeights_b7 P fu) a0 x1 x2 v63 x4 m78
          else
            f_X11_byWeights_b84 P (f_X11_byWeights_b7 P fu) a0 x1 v63 x4 m78))))
def f_X11_byWeights (P : zSt) (a0 : Nat) (i1 : Int32) (m : zM) : Option (Int32 × zM) :=
  f_X11_byWeights_b7 P zfuel a0 i1 (-1 : Int32) (0 : Int32) (0 : Int32) m
def f_X11_leastUsed_b60 (P : zSt) (rec_4 : Nat → Int32 → Int32 → Int32 → zM → Option (Int32 × zM)) (a0 : Nat) (x1 : Int32) (x2 : Int32) (x3 : Int32) (m : zM) : Option (Int32 × zM) :=
  zl (x3 + (1 : Int32)) fun v60 =>
  rec_4 a0 x1 x2 v60 m
def f_X11_leastUsed_b58 (P : zSt) (rec_4 : Nat → Int32 → Int32 → Int32 → zM → Option (Int32 × zM)) (a0 : Nat) (x1 : Int32) (x3 : Int32) (m : zM) : Option (Int32 × zM) :=
  f_X11_leastUsed_b60 P rec_4 a0 x1 x3 x3 m
def f_X11_leastUsed_b4 (P : zSt)  : Nat → Nat → Int32 → Int32 → Int32 → zM → Option (Int32 × zM)
  | 0, _, _, _, _, _ => none
  | fu + 1, a0, x1, x2, x3, m =>
    zl (zR P 200 a0) fun b6 =>
    zgd (zin (144 : Int32) (zlen P b6)) <|
    (if (za m b6 (144 : Int32).toNatClampNeg) ≤ x3 then
      some (x2, m)
    else
      (if ((x1 >>> (x3 &&& 31)) &&& (1 : Int32)) = (1 : Int32) then
        (if x2 < 0 then
          f_X11_leastUsed_b58 P (f_X11_leastUsed_b4 P fu) a0 x1 x3 m
        else
          zb (f_X11_of P a0 x3 (5 : Int32) m) fun r32 m32 =>
          zb (f_X11_of P a0 x2 (2 : Int32) m32) fun r38 m38 =>
          zb (f_X11_of P a0 x2 (5 : Int32) m38) fun r45 m45 =>
          zb (f_X11_of P a0 x3 (2 : Int32) m45) fun r51 m51 =>
          (if (r45 * r51) ≤ (r32 * r38) then
            f_X11_leastUsed_b60 P (f_X11_leastUsed_b4 P fu) a0 x1 x2 x3 m51
          else
            f_X11_leastUsed_b58 P (f_X11_leastUsed_b4 P fu) a0 x1 x3 m51))
      else
        f_X11_leastUsed_b60 P (f_X11_leastUsed_b4 P fu) a0 x1 x2 x3 m))
def f_X11_leastUsed (P : zSt) (a0 : Nat) (i1 : Int32) (m : zM) : Option (Int32 × zM) :=
  f_X11_leastUsed_b4 P zfuel a0 i1 (-1 : Int32) (0 : Int32) m
def f_X11_weights_b36 (P : zSt) (rec_4 : Nat → Int32 → Int32 → Int32 → zM → Option (Int32 × zM)) (a0 : Nat) (x1 : Int32) (x3 : Int32) (s0 : Int32) (s1 : Int32) (m : zM) : Option (Int32 × zM) :=
  zl ((s1 + s0)) fun v37 =>
  zl (x3 + (1 : Int32)) fun v38 =>
  rec_4 a0 x1 v37 v38 m
def f_X11_weights_b4 (P : zSt)  : Nat → Nat → Int32 → Int32 → Int32 → zM → Option (Int32 × zM)
  | 0, _, _, _, _, _ => none
  | fu + 1, a0, x1, x2, x3, m =>
    zl (zR P 200 a0) fun b6 =>
    zgd (zin (144 : Int32) (zlen P b6)) <|
    (if (za m b6 (144 : Int32).toNatClampNeg) ≤ x3 then
      some (x2, m)
    else
      (if ((x1 >>> (x3 &&& 31)) &&& (1 : Int32)) = (1 : Int32) then
        zb (f_X11_of P a0 x3 (2 : Int32) m) fun r29 m29 =>
        f_X11_weights_b36 P (f_X11_weights_b4 P fu) a0 x1 x3 r29 x2 m29
      else
        f_X11_weights_b36 P (f_X11_weights_b4 P fu) a0 x1 x3 (0 : Int32) x2 m))
def f_X11_weights (P : zSt) (a0 : Nat) (i1 : Int32) (m : zM) : Option (Int32 × zM) :=
  f_X11_weights_b4 P zfuel a0 i1 (0 : Int32) (0 : Int32) m
def f_X11_narrowed_b70 (P : zSt) (rec_9 : Nat → Int32 → Int32 → Int32 → Int32 → Int32 → Int32 → zM → Option (Int32 × zM)) (a0 : Nat) (x1 : Int32) (x2 : Int32) (x3 : Int32) (x4 : Int32) (x5 : Int32) (x6 : Int32) (m : zM) : Option (Int32 × zM) :=
  zl (x6 + (1 : Int32)) fun v70 =>
  rec_9 a0 x1 x2 x3 x4 x5 v70 m
def f_X11_narrowed_b67 (P : zSt) (rec_9 : Nat → Int32 → Int32 → Int32 → Int32 → Int32 → Int32 → zM → Option (Int32 × zM)) (a0 : Nat) (x1 : Int32) (x2 : Int32) (x3 : Int32) (x4 : Int32) (x6 : Int32) (s0 : Int32) (s1 : Int32) (m : zM) : Option (Int32 × zM) :=
  zl ((s1 ||| s0)) fun v68 =>
  f_X11_narrowed_b70 P rec_9 a0 x1 x2 x3 x4 v68 x6 m
def f_X11_narrowed_b87 (P : zSt)  (x1 : Int32) (m : zM) : Option (Int32 × zM) :=
  some (x1, m)
def f_X11_narrowed_b125 (P : zSt)  (a0 : Nat) (x1 : Int32) (x2 : Int32) (x3 : Int32) (x4 : Int32) (x6 : Int32) (x7 : Int32) (s0 : Int32) (m : zM) : Option (Int32 × zM) :=
  (if ((100 : Int32) * x6) < (s0 * x7) then
    zl (((((145 : Int32) + ((21 : Int32) * x2)) + (8 : Int32)) + x3)) fun v156 =>
    zl (zR P 200 a0) fun b159 =>
    zgd (zin v156 (zlen P b159)) <|
    zdv (s0 * x7) <|
    zgd (zin v156 (zlen P b159)) <| zl (zap m b159 v156.toNatClampNeg ((za m b159 v156.toNatClampNeg) + (((10000 : Int32) * x6) / (s0 * x7)))) fun m179 =>
    zl (zR P 200 a0) fun b181 =>
    zgd (zin v156 (zlen P b181)) <|
    (if (100 : Int32) ≤ (za m179 b181 v156.toNatClampNeg) then
      zl (zR P 200 a0) fun b200 =>
      zgd (zin v156 (zlen P b200)) <|
      zgd (zin v156 (zlen P b200)) <| zl (zap m179 b200 v156.toNatClampNeg ((za m179 b200 v156.toNatClampNeg) - (100 : Int32))) fun m210 =>
      some (x4, m210)
    else
      some ((x1 &&& (x4 ^^^ (-1 : Int32))), m179))
  else
    some (x4, m))
def f_X11_narrowed_b9 (P : zSt)  : Nat → Nat → Int32 → Int32 → Int32 → Int32 → Int32 → Int32 → zM → Option (Int32 × zM)
  | 0, _, _, _, _, _, _, _, _ => none
  | fu + 1, a0, x1, x2, x3, x4, x5, x6, m =>
    zl (zR P 200 a0) fun b12 =>
    zgd (zin (144 : Int32) (zlen P b12)) <|
    (if (za m b12 (144 : Int32).toNatClampNeg) ≤ x6 then
      (if x4 = 0 then
        f_X11_narrowed_b87 P x1 m
      else
        (if x4 = x1 then
          f_X11_narrowed_b87 P x1 m
        else
          zb (f_X11_weights P a0 x4 m) fun r92 m92 =>
          zb (f_X11_weights P a0 x5 m92) fun r100 m100 =>
          (if (zf m100 216 a0) = (4 : Int32) then
            f_X11_narrowed_b125 P a0 x1 x2 x3 x4 r92 r100 (1 : Int32) m100
          else
            zl (zR P 200 a0) fun b118 =>
            zgd (zin (229 : Int32) (zlen P b118)) <|
            f_X11_narrowed_b125 P a0 x1 x2 x3 x4 r92 r100 (za m100 b118 (229 : Int32).toNatClampNeg) m100)))
    else
      zb (f_X11_of P a0 x6 (1 : Int32) m) fun r26 m26 =>
      (if r26 = x3 then
        zl ((x4 ||| (x1 &&& ((1 : Int32) <<< (x6 &&& 31))))) fun v45 =>
        zb (f_X11_isMember P a0 x6 x2 m26) fun r53 m53 =>
        (if r53 = 0 then
          f_X11_narrowed_b67 P (f_X11_narrowed_b9 P fu) a0 x1 x2 x3 v45 x6 (0 : Int32) x5 m53
        else
          f_X11_narrowed_b67 P (f_X11_narrowed_b9 P fu) a0 x1 x2 x3 v45 x6 ((1 : Int32) <<< (x6 &&& 31)) x5 m53)
      else
        f_X11_narrowed_b70 P (f_X11_narrowed_b9 P fu) a0 x1 x2 x3 x4 x5 x6 m26))
def f_X11_narrowed (P : zSt) (a0 : Nat) (i1 : Int32) (i2 : Int32) (i3 : Int32) (m : zM) : Option (Int32 × zM) :=
  f_X11_narrowed_b9 P zfuel a0 i1 i2 i3 (0 : Int32) (0 : Int32) (0 : Int32) m
def f_X11_picks_b101 (P : zSt)  (a0 : Nat) (x3 : Int32) (x5 : Int32) (x6 : Int32) (m : zM) : Option (Int32 × zM) :=
  zl (zR P 200 a0) fun b102 =>
  zb (f_X11_byWeights P a0 x5 m) fun r115 m115 =>
  zgd (zin ((x6 + (11 : Int32)) + x3) (zlen P b102)) <| zl (zap m115 b102 ((x6 + (11 : Int32)) + x3).toNatClampNeg r115) fun m118 =>
  zl (zR P 200 a0) fun b120 =>
  zgd (zin ((x6 + (11 : Int32)) + x3) (zlen P b120)) <|
  some ((za m118 b120 ((x6 + (11 : Int32)) + x3).toNatClampNeg), m118)
def f_X11_picks_b39 (P : zSt)  (a0 : Nat) (x3 : Int32) (x5 : Int32) (x6 : Int32) (s0 : Int32) (m : zM) : Option (Int32 × zM) :=
  (if (2 : Int32) ≤ s0 then
    zl (zR P 200 a0) fun b69 =>
    zgd (zin ((x6 + (11 : Int32)) + x3) (zlen P b69)) <|
    zl ((za m b69 ((x6 + (11 : Int32)) + x3).toNatClampNeg)) fun v80 =>
    (if v80 < 0 then
      f_X11_picks_b101 P a0 x3 x5 x6 m
    else
      (if ((x5 >>> (v80 &&& 31)) &&& (1 : Int32)) = (1 : Int32) then
        some (v80, m)
      else
        f_X11_picks_b101 P a0 x3 x5 x6 m))
  else
    (if s0 = 0 then
      zb (f_X11_byWeights P a0 x5 m) fun r55 m55 =>
      some (r55, m55)
    else
      zb (f_X11_leastUsed P a0 x5 m) fun r64 m64 =>
      some (r64, m64)))
def f_X11_picks (P : zSt) (a0 : Nat) (i1 : Int32) (i2 : Int32) (i3 : Int32) (i4 : Int32) (m : zM) : Option (Int32 × zM) :=
  zb (f_X11_narrowed P a0 i1 i2 i4 m) fun r5 m5 =>
  zl (((145 : Int32) + ((21 : Int32) * i2))) fun v18 =>
  (if (zf m5 216 a0) = (3 : Int32) then
    f_X11_picks_b39 P a0 i3 r5 v18 (0 : Int32) m5
  else
    zl (zR P 200 a0) fun b33 =>
    zgd (zin v18 (zlen P b33)) <|
    f_X11_picks_b39 P a0 i3 r5 v18 (za m5 b33 v18.toNatClampNeg) m5)
def f_X11_ejects_b67 (P : zSt) (rec_8 : Nat → Int32 → Int32 → Int32 → Int32 → Int32 → zM → Option (Int32 × zM)) (a0 : Nat) (x1 : Int32) (x2 : Int32) (x3 : Int32) (x5 : Int32) (s0 : Int32) (s1 : Int32) (m : zM) : Option (Int32 × zM) :=
  zl ((s1 + s0)) fun v68 =>
  zl (x5 + (1 : Int32)) fun v70 =>
  rec_8 a0 x1 x2 x3 v68 v70 m
def f_X11_ejects_b66 (P : zSt) (rec_8 : Nat → Int32 → Int32 → Int32 → Int32 → Int32 → zM → Option (Int32 × zM)) (a0 : Nat) (x1 : Int32) (x2 : Int32) (x3 : Int32) (x5 : Int32) (s0 : Int32) (m : zM) : Option (Int32 × zM) :=
  f_X11_ejects_b67 P rec_8 a0 x1 x2 x3 x5 (0 : Int32) s0 m
def f_X11_ejects_b37 (P : zSt) (rec_8 : Nat → Int32 → Int32 → Int32 → Int32 → Int32 → zM → Option (Int32 × zM)) (a0 : Nat) (x1 : Int32) (x2 : Int32) (x4 : Int32) (x5 : Int32) (s0 : Int32) (s1 : Int32) (m : zM) : Option (Int32 × zM) :=
  zl ((s1 + s0)) fun v38 =>
  zb (f_X11_isMember P a0 x5 x2 m) fun r45 m45 =>
  (if r45 = 0 then
    f_X11_ejects_b66 P rec_8 a0 x1 x2 v38 x5 x4 m45
  else
    zb (f_X11_of P a0 x5 (9 : Int32) m45) fun r56 m56 =>
    (if r56 ≤ 0 then
      f_X11_ejects_b66 P rec_8 a0 x1 x2 v38 x5 x4 m56
    else
      f_X11_ejects_b67 P rec_8 a0 x1 x2 v38 x5 (1 : Int32) x4 m56))
def f_X11_ejects_b8 (P : zSt)  : Nat → Nat → Int32 → Int32 → Int32 → Int32 → Int32 → zM → Option (Int32 × zM)
  | 0, _, _, _, _, _, _, _ => none
  | fu + 1, a0, x1, x2, x3, x4, x5, m =>
    zl (zR P 200 a0) fun b11 =>
    zgd (zin (144 : Int32) (zlen P b11)) <|
    (if (za m b11 (144 : Int32).toNatClampNeg) ≤ x5 then
      zl (((145 : Int32) + ((21 : Int32) * x2))) fun v84 =>
      (if (zf m 216 a0) = (2 : Int32) then
        some (0, m)
      else
        zb (f_X11_of P a0 x1 (7 : Int32) m) fun r98 m98 =>
        zl (zR P 200 a0) fun b102 =>
        zgd (zin (v84 + (1 : Int32)) (zlen P b102)) <|
        (if r98 < (za m98 b102 (v84 + (1 : Int32)).toNatClampNeg) then
          some (0, m98)
        else
          zl (zR P 200 a0) fun b121 =>
          zgd (zin (v84 + (3 : Int32)) (zlen P b121)) <|
          (if ((x4 + (1 : Int32)) * (100 : Int32)) ≤ ((za m98 b121 (v84 + (3 : Int32)).toNatClampNeg) * x3) then
            zb (f_X11_of P a0 x1 (8 : Int32) m98) fun r143 m143 =>
            zb (f_X11_sets P a0 x1 (8 : Int32) (r143 + (1 : Int32)) m143) fun _ m148 =>
            zb (f_X11_sets P a0 x1 (7 : Int32) (0 : Int32) m148) fun _ m156 =>
            zl (zR P 200 a0) fun b164 =>
            zgd (zin (v84 + (2 : Int32)) (zlen P b164)) <|
            zb (f_X11_of P a0 x1 (8 : Int32) m156) fun r176 m176 =>
            zb (f_X11_sets P a0 x1 (9 : Int32) ((za m156 b164 (v84 + (2 : Int32)).toNatClampNeg) * r176) m176) fun _ m180 =>
            zl (zR P 200 a0) fun b184 =>
            zgd (zin (704 : Int32) (zlen P b184)) <|
            zgd (zin (704 : Int32) (zlen P b184)) <| zl (zap m180 b184 (704 : Int32).toNatClampNeg ((za m180 b184 (704 : Int32).toNatClampNeg) + (1 : Int32))) fun m194 =>
            some (0, m194)
          else
            some (0, m98))))
    else
      zb (f_X11_isMember P a0 x5 x2 m) fun r26 m26 =>
      (if r26 = 0 then
        f_X11_ejects_b37 P (f_X11_ejects_b8 P fu) a0 x1 x2 x4 x5 (0 : Int32) x3 m26
      else
        f_X11_ejects_b37 P (f_X11_ejects_b8 P fu) a0 x1 x2 x4 x5 (1 : Int32) x3 m26))
def f_X11_ejects (P : zSt) (a0 : Nat) (i1 : Int32) (i2 : Int32) (m : zM) : Option (Int32 × zM) :=
  f_X11_ejects_b8 P zfuel a0 i1 i2 (0 : Int32) (0 : Int32) (0 : Int32) m
def f_X11_tries_b206 (P : zSt)  (a0 : Nat) (x4 : Int32) (s0 : Int32) (s1 : Int32) (t2 : Nat) (m : zM) : Option (Int32 × zM) :=
  zgd (zin s1 (zlen P t2)) <| zl (zap m t2 s1.toNatClampNeg s0) fun m206 =>
  zl (zR P 200 a0) fun b208 =>
  zgd (zin (706 : Int32) (zlen P b208)) <|
  zgd (zin (706 : Int32) (zlen P b208)) <| zl (zap m206 b208 (706 : Int32).toNatClampNeg ((za m206 b208 (706 : Int32).toNatClampNeg) + (1 : Int32))) fun m218 =>
  zgd (zbo x4) (some (x4, m218))
def f_X11_tries_b182 (P : zSt)  (a0 : Nat) (x1 : Int32) (x4 : Int32) (x5 : Int32) (s0 : Int32) (s1 : Int32) (t2 : Nat) (m : zM) : Option (Int32 × zM) :=
  zgd (zin s1 (zlen P t2)) <| zl (zap m t2 s1.toNatClampNeg s0) fun m182 =>
  zl (zR P 200 a0) fun b184 =>
  zb (f_X11_of P a0 x1 (9 : Int32) m182) fun r195 m195 =>
  (if r195 ≤ 0 then
    f_X11_tries_b206 P a0 x4 (0 : Int32) (x5 + (3 : Int32)) b184 m195
  else
    f_X11_tries_b206 P a0 x4 (1 : Int32) (x5 + (3 : Int32)) b184 m195)
def f_X11_tries_b158 (P : zSt)  (a0 : Nat) (x1 : Int32) (x3 : Int32) (x4 : Int32) (x5 : Int32) (s0 : Int32) (s1 : Int32) (t2 : Nat) (m : zM) : Option (Int32 × zM) :=
  zgd (zin s1 (zlen P t2)) <| zl (zap m t2 s1.toNatClampNeg s0) fun m158 =>
  zl (zR P 200 a0) fun b160 =>
  zb (f_X11_of P a0 x1 (1 : Int32) m158) fun r170 m170 =>
  (if r170 = x3 then
    f_X11_tries_b182 P a0 x1 x4 x5 (1 : Int32) (x5 + (2 : Int32)) b160 m170
  else
    f_X11_tries_b182 P a0 x1 x4 x5 (0 : Int32) (x5 + (2 : Int32)) b160 m170)
def f_X11_tries_b116 (P : zSt)  (a0 : Nat) (x1 : Int32) (x3 : Int32) (x4 : Int32) (m : zM) : Option (Int32 × zM) :=
  zl (zR P 200 a0) fun b121 =>
  zgd (zin (706 : Int32) (zlen P b121)) <|
  zl (((707 : Int32) + ((4 : Int32) * (za m b121 (706 : Int32).toNatClampNeg)))) fun v130 =>
  zl (zR P 200 a0) fun b133 =>
  zgd (zin v130 (zlen P b133)) <| zl (zap m b133 v130.toNatClampNeg x1) fun m139 =>
  zl (zR P 200 a0) fun b141 =>
  (if x4 = 0 then
    f_X11_tries_b158 P a0 x1 x3 x4 v130 (0 : Int32) (v130 + (1 : Int32)) b141 m139
  else
    f_X11_tries_b158 P a0 x1 x3 x4 v130 (1 : Int32) (v130 + (1 : Int32)) b141 m139)
def f_X11_tries_b90 (P : zSt)  (a0 : Nat) (x1 : Int32) (x2 : Int32) (x3 : Int32) (x4 : Int32) (s0 : Int32) (s1 : Int32) (s2 : Int32) (t3 : Nat) (m : zM) : Option (Int32 × zM) :=
  zb (f_X11_sets P t3 s2 s1 s0 m) fun _ m90 =>
  zl (zR P 200 a0) fun b94 =>
  zgd (zin (702 : Int32) (zlen P b94)) <|
  zgd (zin (702 : Int32) (zlen P b94)) <| zl (zap m90 b94 (702 : Int32).toNatClampNeg ((za m90 b94 (702 : Int32).toNatClampNeg) + (1 : Int32))) fun m104 =>
  (if x4 = 0 then
    zb (f_X11_ejects P a0 x1 x2 m104) fun _ m113 =>
    f_X11_tries_b116 P a0 x1 x3 x4 m113
  else
    f_X11_tries_b116 P a0 x1 x3 x4 m104)
def f_X11_tries_b64 (P : zSt)  (a0 : Nat) (x1 : Int32) (x2 : Int32) (x3 : Int32) (x4 : Int32) (s0 : Int32) (s1 : Int32) (s2 : Int32) (s3 : Int32) (t4 : Nat) (m : zM) : Option (Int32 × zM) :=
  zb (f_X11_sets P t4 s3 s2 (s1 + s0) m) fun _ m65 =>
  (if x4 = 0 then
    zb (f_X11_of P a0 x1 (7 : Int32) m65) fun r85 m85 =>
    f_X11_tries_b90 P a0 x1 x2 x3 x4 (r85 + (1 : Int32)) (7 : Int32) x1 a0 m85
  else
    f_X11_tries_b90 P a0 x1 x2 x3 x4 (0 : Int32) (7 : Int32) x1 a0 m65)
def f_X11_tries_b27 (P : zSt)  (a0 : Nat) (x1 : Int32) (x2 : Int32) (x3 : Int32) (s0 : Int32) (m : zM) : Option (Int32 × zM) :=
  zb (f_X11_of P a0 x1 (5 : Int32) m) fun r35 m35 =>
  zb (f_X11_sets P a0 x1 (5 : Int32) (r35 + (1 : Int32)) m35) fun _ m40 =>
  zb (f_X11_of P a0 x1 (6 : Int32) m40) fun r51 m51 =>
  (if s0 = 0 then
    f_X11_tries_b64 P a0 x1 x2 x3 s0 (0 : Int32) r51 (6 : Int32) x1 a0 m51
  else
    f_X11_tries_b64 P a0 x1 x2 x3 s0 (1 : Int32) r51 (6 : Int32) x1 a0 m51)
def f_X11_tries (P : zSt) (a0 : Nat) (i1 : Int32) (i2 : Int32) (i3 : Int32) (m : zM) : Option (Int32 × zM) :=
  zb (f_X11_of P a0 i1 (3 : Int32) m) fun r3 m3 =>
  zb (f_X11_of P a0 i1 (5 : Int32) m3) fun r9 m9 =>
  zdv (8 : Int32) <|
  (if ((r3 >>> ((r9 - r9 / (8 : Int32) * (8 : Int32)) &&& 31)) &&& (1 : Int32)) = (1 : Int32) then
    f_X11_tries_b27 P a0 i1 i2 i3 (1 : Int32) m9
  else
    f_X11_tries_b27 P a0 i1 i2 i3 (0 : Int32) m9)
def f_X11_mirrors_b48 (P : zSt) (rec_4 : Nat → Int32 → Int32 → Int32 → zM → Option (Int32 × zM)) (a0 : Nat) (x1 : Int32) (x2 : Int32) (x3 : Int32) (m : zM) : Option (Int32 × zM) :=
  zl (x3 + (1 : Int32)) fun v48 =>
  rec_4 a0 x1 x2 v48 m
def f_X11_mirrors_b46 (P : zSt) (rec_4 : Nat → Int32 → Int32 → Int32 → zM → Option (Int32 × zM)) (a0 : Nat) (x1 : Int32) (x3 : Int32) (m : zM) : Option (Int32 × zM) :=
  f_X11_mirrors_b48 P rec_4 a0 x1 x3 x3 m
def f_X11_mirrors_b4 (P : zSt)  : Nat → Nat → Int32 → Int32 → Int32 → zM → Option (Int32 × zM)
  | 0, _, _, _, _, _ => none
  | fu + 1, a0, x1, x2, x3, m =>
    zl (zR P 200 a0) fun b6 =>
    zgd (zin (144 : Int32) (zlen P b6)) <|
    (if (za m b6 (144 : Int32).toNatClampNeg) ≤ x3 then
      (if 0 ≤ x2 then
        zb (f_X11_of P a0 x2 (11 : Int32) m) fun r67 m67 =>
        zb (f_X11_of P a0 x2 (3 : Int32) m67) fun r73 m73 =>
        zb (f_X11_of P a0 x2 (10 : Int32) m73) fun r80 m80 =>
        zdv (8 : Int32) <|
        zb (f_X11_sets P a0 x2 (11 : Int32) (r67 + ((r73 >>> ((r80 - r80 / (8 : Int32) * (8 : Int32)) &&& 31)) &&& (1 : Int32))) m80) fun _ m90 =>
        zb (f_X11_of P a0 x2 (10 : Int32) m90) fun r101 m101 =>
        zb (f_X11_sets P a0 x2 (10 : Int32) (r101 + (1 : Int32)) m101) fun _ m106 =>
        zl (zR P 200 a0) fun b110 =>
        zgd (zin (703 : Int32) (zlen P b110)) <|
        zgd (zin (703 : Int32) (zlen P b110)) <| zl (zap m106 b110 (703 : Int32).toNatClampNeg ((za m106 b110 (703 : Int32).toNatClampNeg) + (1 : Int32))) fun m120 =>
        some (0, m120)
      else
        some (0, m))
    else
      zb (f_X11_isMember P a0 x3 x1 m) fun r19 m19 =>
      (if r19 = 0 then
        f_X11_mirrors_b48 P (f_X11_mirrors_b4 P fu) a0 x1 x2 x3 m19
      else
        (if x2 < 0 then
          f_X11_mirrors_b46 P (f_X11_mirrors_b4 P fu) a0 x1 x3 m19
        else
          zb (f_X11_of P a0 x3 (10 : Int32) m19) fun r33 m33 =>
          zb (f_X11_of P a0 x2 (10 : Int32) m33) fun r40 m40 =>
          (if r40 ≤ r33 then
            f_X11_mirrors_b48 P (f_X11_mirrors_b4 P fu) a0 x1 x2 x3 m40
          else
            f_X11_mirrors_b46 P (f_X11_mirrors_b4 P fu) a0 x1 x3 m40))))
def f_X11_mirrors (P : zSt) (a0 : Nat) (i1 : Int32) (m : zM) : Option (Int32 × zM) :=
  f_X11_mirrors_b4 P zfuel a0 i1 (-1 : Int32) (0 : Int32) m
def f_X11_serves_b212 (P : zSt) (rec_90 : Nat → Int32 → Int32 → Int32 → Int32 → Int32 → Int32 → Int32 → zM → Option (Int32 × zM)) (a0 : Nat) (x1 : Int32) (x2 : Int32) (x3 : Int32) (x4 : Int32) (x5 : Int32) (x6 : Int32) (x7 : Int32) (s0 : Int32) (m : zM) : Option (Int32 × zM) :=
  (if s0 = 0 then
    some ((-6 : Int32), m)
  else
    zl (zR P 200 a0) fun b223 =>
    zgd (zin (x5 + (5 : Int32)) (zlen P b223)) <|
    zgd (zin (x5 + (5 : Int32)) (zlen P b223)) <| zl (zap m b223 (x5 + (5 : Int32)).toNatClampNeg ((za m b223 (x5 + (5 : Int32)).toNatClampNeg) - (100 : Int32))) fun m235 =>
    rec_90 a0 x1 x2 x3 x4 x5 x6 x7 m235)
def f_X11_serves_b211 (P : zSt) (rec_90 : Nat → Int32 → Int32 → Int32 → Int32 → Int32 → Int32 → Int32 → zM → Option (Int32 × zM)) (a0 : Nat) (x1 : Int32) (x2 : Int32) (x3 : Int32) (x4 : Int32) (x5 : Int32) (x6 : Int32) (x7 : Int32) (m : zM) : Option (Int32 × zM) :=
  f_X11_serves_b212 P rec_90 a0 x1 x2 x3 x4 x5 x6 x7 (0 : Int32) m
def f_X11_serves_b90 (P : zSt)  : Nat → Nat → Int32 → Int32 → Int32 → Int32 → Int32 → Int32 → Int32 → zM → Option (Int32 × zM)
  | 0, _, _, _, _, _, _, _, _, _ => none
  | fu + 1, a0, x1, x2, x3, x4, x5, x6, x7, m =>
    zb (f_X11_availables P a0 x1 m) fun r93 m93 =>
    zb (f_X11_picks P a0 (r93 &&& (x6 ^^^ (-1 : Int32))) x1 x3 x4 m93) fun r105 m105 =>
    zl ((x6 ||| ((1 : Int32) <<< (r105 &&& 31)))) fun v117 =>
    zl (x7 + (1 : Int32)) fun v119 =>
    zb (f_X11_tries P a0 r105 x1 x4 m105) fun r128 m128 =>
    (if r128 = 0 then
      (if (zf m128 216 a0) = (1 : Int32) then
        f_X11_serves_b211 P (f_X11_serves_b90 P fu) a0 x1 x2 x3 x4 x5 v117 v119 m128
      else
        zl (zR P 200 a0) fun b162 =>
        zgd (zin (((231 : Int32) + ((58 : Int32) * x2)) + (56 : Int32)) (zlen P b162)) <|
        (if (za m128 b162 (((231 : Int32) + ((58 : Int32) * x2)) + (56 : Int32)).toNatClampNeg) ≤ v119 then
          f_X11_serves_b211 P (f_X11_serves_b90 P fu) a0 x1 x2 x3 x4 x5 v117 v119 m128
        else
          zl (zR P 200 a0) fun b181 =>
          zgd (zin (x5 + (5 : Int32)) (zlen P b181)) <|
          (if (za m128 b181 (x5 + (5 : Int32)).toNatClampNeg) < (100 : Int32) then
            f_X11_serves_b211 P (f_X11_serves_b90 P fu) a0 x1 x2 x3 x4 x5 v117 v119 m128
          else
            zb (f_X11_availables P a0 x1 m128) fun r196 m196 =>
            (if (r196 &&& (v117 ^^^ (-1 : Int32))) = 0 then
              f_X11_serves_b211 P (f_X11_serves_b90 P fu) a0 x1 x2 x3 x4 x5 v117 v119 m196
            else
              f_X11_serves_b212 P (f_X11_serves_b90 P fu) a0 x1 x2 x3 x4 x5 v117 v119 (1 : Int32) m196))))
    else
      zl (zR P 200 a0) fun b135 =>
      zgd (zin (x5 + (7 : Int32)) (zlen P b135)) <|
      zgd (zin (x5 + (7 : Int32)) (zlen P b135)) <| zl (zap m128 b135 (x5 + (7 : Int32)).toNatClampNeg ((za m128 b135 (x5 + (7 : Int32)).toNatClampNeg) + (1 : Int32))) fun m147 =>
      some (r105, m147))
def f_X11_serves_b83 (P : zSt)  (a0 : Nat) (x1 : Int32) (x2 : Int32) (x3 : Int32) (x4 : Int32) (x5 : Int32) (s0 : Int32) (s1 : Int32) (t2 : Nat) (m : zM) : Option (Int32 × zM) :=
  zgd (zin s1 (zlen P t2)) <| zl (zap m t2 s1.toNatClampNeg s0) fun m83 =>
  f_X11_serves_b90 P zfuel a0 x1 x2 x3 x4 x5 (0 : Int32) (0 : Int32) m83
def f_X11_serves (P : zSt) (a0 : Nat) (i1 : Int32) (i2 : Int32) (i3 : Int32) (i4 : Int32) (m : zM) : Option (Int32 × zM) :=
  zl (((145 : Int32) + ((21 : Int32) * i1))) fun v8 =>
  zl (zR P 200 a0) fun b11 =>
  zgd (zin (v8 + (6 : Int32)) (zlen P b11)) <|
  zgd (zin (v8 + (6 : Int32)) (zlen P b11)) <| zl (zap m b11 (v8 + (6 : Int32)).toNatClampNeg ((za m b11 (v8 + (6 : Int32)).toNatClampNeg) + (1 : Int32))) fun m23 =>
  zl (zR P 200 a0) fun b25 =>
  zgd (zin (v8 + (5 : Int32)) (zlen P b25)) <|
  zl (zR P 200 a0) fun b35 =>
  zgd (zin (v8 + (4 : Int32)) (zlen P b35)) <|
  zgd (zin (v8 + (5 : Int32)) (zlen P b25)) <| zl (zap m23 b25 (v8 + (5 : Int32)).toNatClampNeg ((za m23 b25 (v8 + (5 : Int32)).toNatClampNeg) + (za m23 b35 (v8 + (4 : Int32)).toNatClampNeg))) fun m44 =>
  zl (zR P 200 a0) fun b46 =>
  zl (zR P 200 a0) fun b54 =>
  zgd (zin (v8 + (5 : Int32)) (zlen P b54)) <|
  (if (za m44 b54 (v8 + (5 : Int32)).toNatClampNeg) ≤ (1000 : Int32) then
    zl (zR P 200 a0) fun b75 =>
    zgd (zin (v8 + (5 : Int32)) (zlen P b75)) <|
    f_X11_serves_b83 P a0 i1 i2 i3 i4 v8 (za m44 b75 (v8 + (5 : Int32)).toNatClampNeg) (v8 + (5 : Int32)) b46 m44
  else
    f_X11_serves_b83 P a0 i1 i2 i3 i4 v8 (1000 : Int32) (v8 + (5 : Int32)) b46 m44)
def f_X11_answers_b164 (P : zSt)  (x5 : Int32) (m : zM) : Option (Int32 × zM) :=
  some (x5, m)
def f_X11_answers_b122 (P : zSt)  (a0 : Nat) (x3 : Int32) (x5 : Int32) (s0 : Int32) (s1 : Int32) (t2 : Nat) (m : zM) : Option (Int32 × zM) :=
  zgd (zin (s1 + s0) (zlen P t2)) <|
  zgd (zin (s1 + s0) (zlen P t2)) <| zl (zap m t2 (s1 + s0).toNatClampNeg ((za m t2 (s1 + s0).toNatClampNeg) + (1 : Int32))) fun m127 =>
  zl (zR P 200 a0) fun b129 =>
  zgd (zin (((231 : Int32) + ((58 : Int32) * x3)) + (57 : Int32)) (zlen P b129)) <|
  zl ((za m127 b129 (((231 : Int32) + ((58 : Int32) * x3)) + (57 : Int32)).toNatClampNeg)) fun v144 =>
  (if v144 < 0 then
    f_X11_answers_b164 P x5 m127
  else
    (if (zf m127 216 a0) = 0 then
      f_X11_answers_b164 P x5 m127
    else
      zb (f_X11_mirrors P a0 v144 m127) fun _ m161 =>
      f_X11_answers_b164 P x5 m161))
def f_X11_answers_b91 (P : zSt)  (a0 : Nat) (x3 : Int32) (s0 : Int32) (m : zM) : Option (Int32 × zM) :=
  zl (zR P 200 a0) fun b94 =>
  (if s0 < 0 then
    (if s0 = (-5 : Int32) then
      f_X11_answers_b122 P a0 x3 s0 (5 : Int32) (695 : Int32) b94 m
    else
      f_X11_answers_b122 P a0 x3 s0 (6 : Int32) (695 : Int32) b94 m)
  else
    f_X11_answers_b122 P a0 x3 s0 (3 : Int32) (695 : Int32) b94 m)
def f_X11_answers (P : zSt) (a0 : Nat) (i1 : Int32) (i2 : Int32) (m : zM) : Option (Int32 × zM) :=
  zl (zR P 200 a0) fun b1 =>
  zgd (zin (706 : Int32) (zlen P b1)) <| zl (zap m b1 (706 : Int32).toNatClampNeg (0 : Int32)) fun m8 =>
  zl (zR P 200 a0) fun b10 =>
  zgd (zin (697 : Int32) (zlen P b10)) <|
  zgd (zin (697 : Int32) (zlen P b10)) <| zl (zap m8 b10 (697 : Int32).toNatClampNeg ((za m8 b10 (697 : Int32).toNatClampNeg) + (1 : Int32))) fun m20 =>
  zb (f_X11_ruleOf P a0 i1 m20) fun r23 m23 =>
  (if 0 ≤ r23 then
    zb (f_X11_choosesTarget P a0 r23 m23) fun r48 m48 =>
    (if 0 ≤ r48 then
      zl (zR P 200 a0) fun b65 =>
      zgd (zin ((((231 : Int32) + ((58 : Int32) * r23)) + (44 : Int32)) + ((4 : Int32) * r48)) (zlen P b65)) <|
      zb (f_X11_serves P a0 (za m48 b65 ((((231 : Int32) + ((58 : Int32) * r23)) + (44 : Int32)) + ((4 : Int32) * r48)).toNatClampNeg) r23 i1 i2 m48) fun r88 m88 =>
      f_X11_answers_b91 P a0 r23 r88 m88
    else
      f_X11_answers_b91 P a0 r23 (-5 : Int32) m48)
  else
    zl (zR P 200 a0) fun b32 =>
    zgd (zin (699 : Int32) (zlen P b32)) <|
    zgd (zin (699 : Int32) (zlen P b32)) <| zl (zap m23 b32 (699 : Int32).toNatClampNeg ((za m23 b32 (699 : Int32).toNatClampNeg) + (1 : Int32))) fun m42 =>
    some ((-4 : Int32), m42))
def f_X11_refuses_b19 (P : zSt)   (m : zM) : Option (Int32 × zM) :=
  some ((-2 : Int32), m)
def f_X11_refuses (P : zSt) (a0 : Nat) (i1 : Int32) (i2 : Int32) (m : zM) : Option (Int32 × zM) :=
  zb (f_X11_isIn P i1 (0 : Int32) (9 : Int32) m) fun r4 m4 =>
  (if r4 = 0 then
    f_X11_refuses_b19 P m4
  else
    zb (f_X11_isIn P i2 (0 : Int32) (2 : Int32) m4) fun r13 m13 =>
    (if r13 = 0 then
      f_X11_refuses_b19 P m13
    else
      zb (f_X11_isPath P a0 m13) fun r25 m25 =>
      (if r25 = 0 then
        some ((-7 : Int32), m25)
      else
        some ((0 : Int32), m25))))
def f_X11_request_b153 (P : zSt)  (a0 : Nat) (x4 : Int32) (m : zM) : Option (Int32 × zM) :=
  zl (zfp m 207 a0 (0 : Int32)) fun m155 =>
  some (x4, m155)
def f_X11_request_b106 (P : zSt)  : Nat → Nat → Int32 → Int32 → zM → Option (Int32 × zM)
  | 0, _, _, _, _ => none
  | fu + 1, a0, x4, x6, m =>
    (if (zf m 207 a0) ≤ x6 then
      zl (zfp m 210 a0 ((zf m 210 a0) + (1 : Int32))) fun m150 =>
      f_X11_request_b153 P a0 x4 m150
    else
      zl (zR P 209 a0) fun b116 =>
      zl (zR P 206 a0) fun b130 =>
      zgd (zin x6 (zlen P b130)) <|
      zgd (zin (((40 : Int32) * (zf m 210 a0)) + x6) (zlen P b116)) <| zl (zap m b116 (((40 : Int32) * (zf m 210 a0)) + x6).toNatClampNeg (za m b130 x6.toNatClampNeg)) fun m136 =>
      zl (x6 + (1 : Int32)) fun v137 =>
      f_X11_request_b106 P fu a0 x4 v137 m136)
def f_X11_request_b46 (P : zSt)  (a0 : Nat) (x1 : Int32) (x2 : Int32) (x4 : Int32) (m : zM) : Option (Int32 × zM) :=
  (if (zf m 205 a0) = 0 then
    f_X11_request_b153 P a0 x4 m
  else
    zl (((4 : Int32) * (zf m 210 a0))) fun v59 =>
    zl (zR P 208 a0) fun b62 =>
    zgd (zin v59 (zlen P b62)) <| zl (zap m b62 v59.toNatClampNeg (zf m 207 a0)) fun m71 =>
    zl (zR P 208 a0) fun b73 =>
    zgd (zin (v59 + (1 : Int32)) (zlen P b73)) <| zl (zap m71 b73 (v59 + (1 : Int32)).toNatClampNeg x1) fun m81 =>
    zl (zR P 208 a0) fun b83 =>
    zgd (zin (v59 + (2 : Int32)) (zlen P b83)) <| zl (zap m81 b83 (v59 + (2 : Int32)).toNatClampNeg x2) fun m91 =>
    zl (zR P 208 a0) fun b93 =>
    zgd (zin (v59 + (3 : Int32)) (zlen P b93)) <| zl (zap m91 b93 (v59 + (3 : Int32)).toNatClampNeg x4) fun m102 =>
    f_X11_request_b106 P zfuel a0 x4 (0 : Int32) m102)
def f_X11_request (P : zSt) (a0 : Nat) (i1 : Int32) (i2 : Int32) (m : zM) : Option (Int32 × zM) :=
  zb (f_X11_refuses P a0 i1 i2 m) fun r3 m3 =>
  (if 0 ≤ r3 then
    zb (f_X11_answers P a0 i1 i2 m3) fun r21 m21 =>
    (if (zf m21 205 a0) = 0 then
      f_X11_request_b46 P a0 i1 i2 r21 m21
    else
      (if (zf m21 210 a0) = (60 : Int32) then
        zb (f_X11_changes P a0 m21) fun _ m43 =>
        f_X11_request_b46 P a0 i1 i2 r21 m43
      else
        f_X11_request_b46 P a0 i1 i2 r21 m21))
  else
    zl (zfp m3 207 a0 (0 : Int32)) fun m13 =>
    some (r3, m13))
def f_X11_foresee (P : zSt) (a0 : Nat) (i1 : Int32) (i2 : Int32) (m : zM) : Option (Int32 × zM) :=
  zb (f_X11_refuses P a0 i1 i2 m) fun r3 m3 =>
  (if 0 ≤ r3 then
    zl (zR P 200 a0) fun b14 =>
    zl (zR P 203 a0) fun b18 =>
    zb (f_X11_copies P b14 b18 m3) fun _ m21 =>
    zb (f_X11_answers P a0 i1 i2 m21) fun r27 m27 =>
    zl (zR P 203 a0) fun b33 =>
    zl (zR P 200 a0) fun b37 =>
    zb (f_X11_copies P b33 b37 m27) fun _ m40 =>
    some (r27, m40)
  else
    some (r3, m3))
def f_X11_ticks_b53 (P : zSt) (rec_14 : Nat → Int32 → zM → Option (Int32 × zM)) (a0 : Nat) (x1 : Int32) (s0 : Int32) (s1 : Int32) (s2 : Int32) (t3 : Nat) (m : zM) : Option (Int32 × zM) :=
  zb (f_X11_sets P t3 s2 s1 s0 m) fun _ m53 =>
  zl (x1 + (1 : Int32)) fun v56 =>
  rec_14 a0 v56 m53
def f_X11_ticks_b14 (P : zSt)  : Nat → Nat → Int32 → zM → Option (Int32 × zM)
  | 0, _, _, _ => none
  | fu + 1, a0, x1, m =>
    zl (zR P 200 a0) fun b16 =>
    zgd (zin (144 : Int32) (zlen P b16)) <|
    (if (za m b16 (144 : Int32).toNatClampNeg) ≤ x1 then
      some (0, m)
    else
      zb (f_X11_of P a0 x1 (9 : Int32) m) fun r34 m34 =>
      (if r34 ≤ 0 then
        f_X11_ticks_b53 P (f_X11_ticks_b14 P fu) a0 x1 (0 : Int32) (9 : Int32) x1 a0 m34
      else
        zb (f_X11_of P a0 x1 (9 : Int32) m34) fun r44 m44 =>
        f_X11_ticks_b53 P (f_X11_ticks_b14 P fu) a0 x1 (r44 - (1 : Int32)) (9 : Int32) x1 a0 m44))
def f_X11_ticks (P : zSt) (a0 : Nat) (m : zM) : Option (Int32 × zM) :=
  zl (zR P 200 a0) fun b1 =>
  zgd (zin (705 : Int32) (zlen P b1)) <|
  zgd (zin (705 : Int32) (zlen P b1)) <| zl (zap m b1 (705 : Int32).toNatClampNeg ((za m b1 (705 : Int32).toNatClampNeg) + (1 : Int32))) fun m11 =>
  f_X11_ticks_b14 P zfuel a0 (0 : Int32) m11
def f_X11_tick_b78 (P : zSt) (rec_37 : Nat → Int32 → Int32 → zM → Option (Int32 × zM)) (a0 : Nat) (x1 : Int32) (x2 : Int32) (m : zM) : Option (Int32 × zM) :=
  zl (x2 + (1 : Int32)) fun v78 =>
  rec_37 a0 x1 v78 m
def f_X11_tick_b37 (P : zSt)  : Nat → Nat → Int32 → Int32 → zM → Option (Int32 × zM)
  | 0, _, _, _, _ => none
  | fu + 1, a0, x1, x2, m =>
    (if x1 ≤ x2 then
      zl (zR P 200 a0) fun b85 =>
      zgd (zin (705 : Int32) (zlen P b85)) <|
      some ((za m b85 (705 : Int32).toNatClampNeg), m)
    else
      zb (f_X11_ticks P a0 m) fun _ m43 =>
      (if (zf m43 205 a0) = 0 then
        f_X11_tick_b78 P (f_X11_tick_b37 P fu) a0 x1 x2 m43
      else
        zl (zR P 208 a0) fun b57 =>
        zgd (zin ((4 : Int32) * (zf m43 210 a0)) (zlen P b57)) <| zl (zap m43 b57 ((4 : Int32) * (zf m43 210 a0)).toNatClampNeg (-1 : Int32)) fun m67 =>
        zl (zfp m67 210 a0 ((zf m67 210 a0) + (1 : Int32))) fun m75 =>
        f_X11_tick_b78 P (f_X11_tick_b37 P fu) a0 x1 x2 m75))
def f_X11_tick_b35 (P : zSt)  (a0 : Nat) (x1 : Int32) (m : zM) : Option (Int32 × zM) :=
  f_X11_tick_b37 P zfuel a0 x1 (0 : Int32) m
def f_X11_tick (P : zSt) (a0 : Nat) (i1 : Int32) (m : zM) : Option (Int32 × zM) :=
  zb (f_X11_isIn P i1 (1 : Int32) (50 : Int32) m) fun r4 m4 =>
  (if r4 = 0 then
    some ((-2 : Int32), m4)
  else
    (if (zf m4 205 a0) = 0 then
      f_X11_tick_b35 P a0 i1 m4
    else
      (if ((zf m4 210 a0) + i1) ≤ (60 : Int32) then
        f_X11_tick_b35 P a0 i1 m4
      else
        zb (f_X11_changes P a0 m4) fun _ m32 =>
        f_X11_tick_b35 P a0 i1 m32)))
def f_X11_backend (P : zSt) (a0 : Nat) (i1 : Int32) (i2 : Int32) (m : zM) : Option (Int32 × zM) :=
  zb (f_X11_isBackend P a0 i1 m) fun r2 m2 =>
  (if r2 = 0 then
    some ((-1 : Int32), m2)
  else
    zb (f_X11_isIn P i2 (0 : Int32) (11 : Int32) m2) fun r16 m16 =>
    (if r16 = 0 then
      some ((-2 : Int32), m16)
    else
      zb (f_X11_of P a0 i1 i2 m16) fun r30 m30 =>
      some (r30, m30)))
def f_X11_members_b49 (P : zSt) (rec_5 : Nat → Int32 → Int32 → Int32 → Int32 → zM → Option (Int32 × zM)) (a0 : Nat) (x1 : Int32) (x2 : Int32) (x4 : Int32) (s0 : Int32) (s1 : Int32) (m : zM) : Option (Int32 × zM) :=
  zl ((s1 + s0)) fun v50 =>
  zl (x4 + (1 : Int32)) fun v51 =>
  rec_5 a0 x1 x2 v50 v51 m
def f_X11_members_b44 (P : zSt) (rec_5 : Nat → Int32 → Int32 → Int32 → Int32 → zM → Option (Int32 × zM)) (a0 : Nat) (x1 : Int32) (x2 : Int32) (x4 : Int32) (s0 : Int32) (m : zM) : Option (Int32 × zM) :=
  f_X11_members_b49 P rec_5 a0 x1 x2 x4 (1 : Int32) s0 m
def f_X11_members_b48 (P : zSt) (rec_5 : Nat → Int32 → Int32 → Int32 → Int32 → zM → Option (Int32 × zM)) (a0 : Nat) (x1 : Int32) (x2 : Int32) (x4 : Int32) (s0 : Int32) (m : zM) : Option (Int32 × zM) :=
  f_X11_members_b49 P rec_5 a0 x1 x2 x4 (0 : Int32) s0 m
def f_X11_members_b5 (P : zSt)  : Nat → Nat → Int32 → Int32 → Int32 → Int32 → zM → Option (Int32 × zM)
  | 0, _, _, _, _, _, _ => none
  | fu + 1, a0, x1, x2, x3, x4, m =>
    zl (zR P 200 a0) fun b8 =>
    zgd (zin (144 : Int32) (zlen P b8)) <|
    (if (za m b8 (144 : Int32).toNatClampNeg) ≤ x4 then
      some (x3, m)
    else
      zb (f_X11_isMember P a0 x4 x1 m) fun r23 m23 =>
      (if r23 = 0 then
        f_X11_members_b48 P (f_X11_members_b5 P fu) a0 x1 x2 x4 x3 m23
      else
        (if x2 = 0 then
          f_X11_members_b44 P (f_X11_members_b5 P fu) a0 x1 x2 x4 x3 m23
        else
          zb (f_X11_of P a0 x4 (9 : Int32) m23) fun r38 m38 =>
          (if r38 ≤ 0 then
            f_X11_members_b48 P (f_X11_members_b5 P fu) a0 x1 x2 x4 x3 m38
          else
            f_X11_members_b44 P (f_X11_members_b5 P fu) a0 x1 x2 x4 x3 m38))))
def f_X11_members (P : zSt) (a0 : Nat) (i1 : Int32) (i2 : Int32) (m : zM) : Option (Int32 × zM) :=
  f_X11_members_b5 P zfuel a0 i1 i2 (0 : Int32) (0 : Int32) m
def f_X11_service_b19 (P : zSt)   (m : zM) : Option (Int32 × zM) :=
  some ((-2 : Int32), m)
def f_X11_service_b67 (P : zSt)  (s0 : Int32) (s1 : Int32) (t2 : Nat) (m : zM) : Option (Int32 × zM) :=
  zb (f_X11_members P t2 s1 s0 m) fun r67 m67 =>
  some (r67, m67)
def f_X11_service (P : zSt) (a0 : Nat) (i1 : Int32) (i2 : Int32) (m : zM) : Option (Int32 × zM) :=
  zb (f_X11_isIn P i1 (0 : Int32) (3 : Int32) m) fun r3 m3 =>
  (if r3 = 0 then
    f_X11_service_b19 P m3
  else
    zb (f_X11_isIn P i2 (0 : Int32) (12 : Int32) m3) fun r13 m13 =>
    (if r13 = 0 then
      f_X11_service_b19 P m13
    else
      zl (((145 : Int32) + ((21 : Int32) * i1))) fun v30 =>
      (if (6 : Int32) ≤ i2 then
        (if (8 : Int32) ≤ i2 then
          zl (zR P 200 a0) fun b74 =>
          zgd (zin ((v30 + i2) - (2 : Int32)) (zlen P b74)) <|
          some ((za m13 b74 ((v30 + i2) - (2 : Int32)).toNatClampNeg), m13)
        else
          (if i2 = (7 : Int32) then
            f_X11_service_b67 P (1 : Int32) i1 a0 m13
          else
            f_X11_service_b67 P (0 : Int32) i1 a0 m13))
      else
        zl (zR P 200 a0) fun b38 =>
        zgd (zin (v30 + i2) (zlen P b38)) <|
        some ((za m13 b38 (v30 + i2).toNatClampNeg), m13))))
def f_X11_remembered_b40 (P : zSt)   (m : zM) : Option (Int32 × zM) :=
  some ((-2 : Int32), m)
def f_X11_remembered (P : zSt) (a0 : Nat) (i1 : Int32) (i2 : Int32) (m : zM) : Option (Int32 × zM) :=
  zb (f_X11_isIn P i1 (0 : Int32) (3 : Int32) m) fun r3 m3 =>
  (if r3 = 0 then
    f_X11_remembered_b40 P m3
  else
    zb (f_X11_isIn P i2 (0 : Int32) (9 : Int32) m3) fun r13 m13 =>
    (if r13 = 0 then
      f_X11_remembered_b40 P m13
    else
      zl (zR P 200 a0) fun b20 =>
      zgd (zin ((((145 : Int32) + ((21 : Int32) * i1)) + (11 : Int32)) + i2) (zlen P b20)) <|
      some ((za m13 b20 ((((145 : Int32) + ((21 : Int32) * i1)) + (11 : Int32)) + i2).toNatClampNeg), m13)))
def f_X11_target__b34 (P : zSt)   (m : zM) : Option (Int32 × zM) :=
  some ((-1 : Int32), m)
def f_X11_target_ (P : zSt) (a0 : Nat) (i1 : Int32) (i2 : Int32) (i3 : Int32) (m : zM) : Option (Int32 × zM) :=
  zb (f_X11_isRule P a0 i1 m) fun r2 m2 =>
  (if r2 = 0 then
    f_X11_target__b34 P m2
  else
    zl (zR P 200 a0) fun b11 =>
    zgd (zin (((231 : Int32) + ((58 : Int32) * i1)) + (43 : Int32)) (zlen P b11)) <|
    zb (f_X11_isIn P i2 (0 : Int32) ((za m2 b11 (((231 : Int32) + ((58 : Int32) * i1)) + (43 : Int32)).toNatClampNeg) - (1 : Int32)) m2) fun r28 m28 =>
    (if r28 = 0 then
      f_X11_target__b34 P m28
    else
      zb (f_X11_isIn P i3 (0 : Int32) (3 : Int32) m28) fun r39 m39 =>
      (if r39 = 0 then
        some ((-2 : Int32), m39)
      else
        zl (zR P 200 a0) fun b46 =>
        zgd (zin (((((231 : Int32) + ((58 : Int32) * i1)) + (44 : Int32)) + ((4 : Int32) * i2)) + i3) (zlen P b46)) <|
        some ((za m39 b46 (((((231 : Int32) + ((58 : Int32) * i1)) + (44 : Int32)) + ((4 : Int32) * i2)) + i3).toNatClampNeg), m39))))
def f_X11_trace (P : zSt) (a0 : Nat) (i1 : Int32) (i2 : Int32) (m : zM) : Option (Int32 × zM) :=
  zl (zR P 200 a0) fun b3 =>
  zgd (zin (706 : Int32) (zlen P b3)) <|
  zb (f_X11_isIn P i1 (0 : Int32) ((za m b3 (706 : Int32).toNatClampNeg) - (1 : Int32)) m) fun r12 m12 =>
  (if r12 = 0 then
    some ((-1 : Int32), m12)
  else
    zb (f_X11_isIn P i2 (0 : Int32) (3 : Int32) m12) fun r25 m25 =>
    (if r25 = 0 then
      some ((-2 : Int32), m25)
    else
      zl (zR P 200 a0) fun b32 =>
      zgd (zin (((707 : Int32) + ((4 : Int32) * i1)) + i2) (zlen P b32)) <|
      some ((za m25 b32 (((707 : Int32) + ((4 : Int32) * i1)) + i2).toNatClampNeg), m25)))
def f_X11_count (P : zSt) (a0 : Nat) (i1 : Int32) (m : zM) : Option (Int32 × zM) :=
  zb (f_X11_isIn P i1 (0 : Int32) (13 : Int32) m) fun r4 m4 =>
  (if r4 = 0 then
    some ((-2 : Int32), m4)
  else
    zsw i1 (0)
    [(zl (zR P 200 a0) fun b85 =>
      zgd (zin (144 : Int32) (zlen P b85)) <|
      some ((za m4 b85 (144 : Int32).toNatClampNeg), m4)),
    (zl (zR P 200 a0) fun b94 =>
      zgd (zin (230 : Int32) (zlen P b94)) <|
      some ((za m4 b94 (230 : Int32).toNatClampNeg), m4)),
    (zl (zR P 200 a0) fun b122 =>
      zgd (zin ((695 : Int32) + i1) (zlen P b122)) <|
      some ((za m4 b122 ((695 : Int32) + i1).toNatClampNeg), m4)),
    (zl (zR P 200 a0) fun b122 =>
      zgd (zin ((695 : Int32) + i1) (zlen P b122)) <|
      some ((za m4 b122 ((695 : Int32) + i1).toNatClampNeg), m4)),
    (zl (zR P 200 a0) fun b122 =>
      zgd (zin ((695 : Int32) + i1) (zlen P b122)) <|
      some ((za m4 b122 ((695 : Int32) + i1).toNatClampNeg), m4)),
    (zl (zR P 200 a0) fun b122 =>
      zgd (zin ((695 : Int32) + i1) (zlen P b122)) <|
      some ((za m4 b122 ((695 : Int32) + i1).toNatClampNeg), m4)),
    (zl (zR P 200 a0) fun b122 =>
      zgd (zin ((695 : Int32) + i1) (zlen P b122)) <|
      some ((za m4 b122 ((695 : Int32) + i1).toNatClampNeg), m4)),
    (zl (zR P 200 a0) fun b122 =>
      zgd (zin ((695 : Int32) + i1) (zlen P b122)) <|
      some ((za m4 b122 ((695 : Int32) + i1).toNatClampNeg), m4)),
    (zl (zR P 200 a0) fun b122 =>
      zgd (zin ((695 : Int32) + i1) (zlen P b122)) <|
      some ((za m4 b122 ((695 : Int32) + i1).toNatClampNeg), m4)),
    (zl (zR P 200 a0) fun b122 =>
      zgd (zin ((695 : Int32) + i1) (zlen P b122)) <|
      some ((za m4 b122 ((695 : Int32) + i1).toNatClampNeg), m4)),
    (zl (zR P 200 a0) fun b122 =>
      zgd (zin ((695 : Int32) + i1) (zlen P b122)) <|
      some ((za m4 b122 ((695 : Int32) + i1).toNatClampNeg), m4)),
    (some ((zf m4 210 a0), m4)),
    (zl (zR P 200 a0) fun b108 =>
      zgd (zin (706 : Int32) (zlen P b108)) <|
      some ((za m4 b108 (706 : Int32).toNatClampNeg), m4)),
    (some ((zf m4 207 a0), m4))]
    (zl (zR P 200 a0) fun b122 =>
      zgd (zin ((695 : Int32) + i1) (zlen P b122)) <|
      some ((za m4 b122 ((695 : Int32) + i1).toNatClampNeg), m4)))
def f_X11_prints (P : zSt) (a0 : Nat) (i1 : Int32) (m : zM) : Option (Int32 × zM) :=
  zl (zR P 211 a0) fun b1 =>
  zgd (zin (zf m 212 a0) (zlen P b1)) <| zl (zap m b1 (zf m 212 a0).toNatClampNeg i1) fun m9 =>
  zl (zfp m9 212 a0 ((zf m9 212 a0) + (1 : Int32))) fun m17 =>
  some (0, m17)
def f_X11_printsTwo (P : zSt) (a0 : Nat) (i1 : Int32) (i2 : Int32) (m : zM) : Option (Int32 × zM) :=
  zb (f_X11_prints P a0 i1 m) fun _ m2 =>
  zb (f_X11_prints P a0 ((48 : Int32) + i2) m2) fun _ m10 =>
  some (0, m10)
def f_X11_print_b201 (P : zSt) (rec_120 : Nat → Int32 → Int32 → zM → Option (Int32 × zM)) (a0 : Nat) (x2 : Int32) (x3 : Int32) (m : zM) : Option (Int32 × zM) :=
  zl (x3 + (1 : Int32)) fun v201 =>
  rec_120 a0 x2 v201 m
def f_X11_print_b145 (P : zSt) (rec_120 : Nat → Int32 → Int32 → zM → Option (Int32 × zM)) (a0 : Nat) (x2 : Int32) (x3 : Int32) (s0 : Int32) (t1 : Nat) (m : zM) : Option (Int32 × zM) :=
  zl (zR P 200 a0) fun b146 =>
  zgd (zin ((x2 + (44 : Int32)) + ((4 : Int32) * x3)) (zlen P b146)) <|
  zb (f_X11_printsTwo P t1 s0 (za m b146 ((x2 + (44 : Int32)) + ((4 : Int32) * x3)).toNatClampNeg) m) fun _ m158 =>
  zl (zR P 200 a0) fun b162 =>
  zgd (zin (((x2 + (44 : Int32)) + ((4 : Int32) * x3)) + (1 : Int32)) (zlen P b162)) <|
  (if (za m158 b162 (((x2 + (44 : Int32)) + ((4 : Int32) * x3)) + (1 : Int32)).toNatClampNeg) ≤ (1 : Int32) then
    f_X11_print_b201 P rec_120 a0 x2 x3 m158
  else
    zl (zR P 200 a0) fun b184 =>
    zgd (zin (((x2 + (44 : Int32)) + ((4 : Int32) * x3)) + (1 : Int32)) (zlen P b184)) <|
    zb (f_X11_printsTwo P a0 (58 : Int32) (za m158 b184 (((x2 + (44 : Int32)) + ((4 : Int32) * x3)) + (1 : Int32)).toNatClampNeg) m158) fun _ m198 =>
    f_X11_print_b201 P rec_120 a0 x2 x3 m198)
def f_X11_print_b262 (P : zSt)  (a0 : Nat) (m : zM) : Option (Int32 × zM) :=
  some ((zf m 212 a0), m)
def f_X11_print_b234 (P : zSt)  (a0 : Nat) (x2 : Int32) (m : zM) : Option (Int32 × zM) :=
  zl (zR P 200 a0) fun b235 =>
  zgd (zin (x2 + (56 : Int32)) (zlen P b235)) <|
  (if (za m b235 (x2 + (56 : Int32)).toNatClampNeg) ≤ (1 : Int32) then
    f_X11_print_b262 P a0 m
  else
    zl (zR P 200 a0) fun b251 =>
    zgd (zin (x2 + (56 : Int32)) (zlen P b251)) <|
    zb (f_X11_printsTwo P a0 (42 : Int32) (za m b251 (x2 + (56 : Int32)).toNatClampNeg) m) fun _ m259 =>
    f_X11_print_b262 P a0 m259)
def f_X11_print_b120 (P : zSt)  : Nat → Nat → Int32 → Int32 → zM → Option (Int32 × zM)
  | 0, _, _, _, _ => none
  | fu + 1, a0, x2, x3, m =>
    zl (zR P 200 a0) fun b122 =>
    zgd (zin (x2 + (43 : Int32)) (zlen P b122)) <|
    (if (za m b122 (x2 + (43 : Int32)).toNatClampNeg) ≤ x3 then
      zl (zR P 200 a0) fun b208 =>
      zgd (zin (x2 + (57 : Int32)) (zlen P b208)) <|
      (if (za m b208 (x2 + (57 : Int32)).toNatClampNeg) < 0 then
        f_X11_print_b234 P a0 x2 m
      else
        zl (zR P 200 a0) fun b223 =>
        zgd (zin (x2 + (57 : Int32)) (zlen P b223)) <|
        zb (f_X11_printsTwo P a0 (126 : Int32) (za m b223 (x2 + (57 : Int32)).toNatClampNeg) m) fun _ m231 =>
        f_X11_print_b234 P a0 x2 m231)
    else
      (if x3 = 0 then
        f_X11_print_b145 P (f_X11_print_b120 P fu) a0 x2 x3 (61 : Int32) a0 m
      else
        f_X11_print_b145 P (f_X11_print_b120 P fu) a0 x2 x3 (44 : Int32) a0 m))
def f_X11_print_b118 (P : zSt)  (a0 : Nat) (x2 : Int32) (m : zM) : Option (Int32 × zM) :=
  f_X11_print_b120 P zfuel a0 x2 (0 : Int32) m
def f_X11_print_b82 (P : zSt)  (a0 : Nat) (x2 : Int32) (m : zM) : Option (Int32 × zM) :=
  zl (zR P 200 a0) fun b86 =>
  zgd (zin (x2 + (41 : Int32)) (zlen P b86)) <|
  zb (f_X11_printsTwo P a0 (91 : Int32) (za m b86 (x2 + (41 : Int32)).toNatClampNeg) m) fun _ m94 =>
  zl (zR P 200 a0) fun b101 =>
  zgd (zin (x2 + (42 : Int32)) (zlen P b101)) <|
  zb (f_X11_printsTwo P a0 (45 : Int32) (za m94 b101 (x2 + (42 : Int32)).toNatClampNeg) m94) fun _ m109 =>
  zb (f_X11_prints P a0 (93 : Int32) m109) fun _ m115 =>
  f_X11_print_b118 P a0 x2 m115
def f_X11_print_b26 (P : zSt)  : Nat → Nat → Int32 → Int32 → zM → Option (Int32 × zM)
  | 0, _, _, _, _ => none
  | fu + 1, a0, x2, x3, m =>
    zl (zR P 200 a0) fun b28 =>
    zgd (zin x2 (zlen P b28)) <|
    (if (za m b28 x2.toNatClampNeg) ≤ x3 then
      zl (zR P 200 a0) fun b57 =>
      zgd (zin (x2 + (41 : Int32)) (zlen P b57)) <|
      (if 0 < (za m b57 (x2 + (41 : Int32)).toNatClampNeg) then
        f_X11_print_b82 P a0 x2 m
      else
        zl (zR P 200 a0) fun b69 =>
        zgd (zin (x2 + (42 : Int32)) (zlen P b69)) <|
        (if (9 : Int32) ≤ (za m b69 (x2 + (42 : Int32)).toNatClampNeg) then
          f_X11_print_b118 P a0 x2 m
        else
          f_X11_print_b82 P a0 x2 m))
    else
      zl (zR P 200 a0) fun b38 =>
      zgd (zin ((x2 + (1 : Int32)) + x3) (zlen P b38)) <|
      zb (f_X11_prints P a0 (za m b38 ((x2 + (1 : Int32)) + x3).toNatClampNeg) m) fun _ m47 =>
      zl (x3 + (1 : Int32)) fun v50 =>
      f_X11_print_b26 P fu a0 x2 v50 m47)
def f_X11_print (P : zSt) (a0 : Nat) (i1 : Int32) (m : zM) : Option (Int32 × zM) :=
  zb (f_X11_isRule P a0 i1 m) fun r2 m2 =>
  (if r2 = 0 then
    some ((-1 : Int32), m2)
  else
    zl (zfp m2 212 a0 (0 : Int32)) fun m12 =>
    zl (((231 : Int32) + ((58 : Int32) * i1))) fun v23 =>
    f_X11_print_b26 P zfuel a0 v23 (0 : Int32) m12)
def f_X11_printed (P : zSt) (a0 : Nat) (i1 : Int32) (m : zM) : Option (Int32 × zM) :=
  zb (f_X11_isIn P i1 (0 : Int32) ((zf m 212 a0) - (1 : Int32)) m) fun r8 m8 =>
  (if r8 = 0 then
    some ((-1 : Int32), m8)
  else
    zl (zR P 211 a0) fun b15 =>
    zgd (zin i1 (zlen P b15)) <|
    some ((za m8 b15 i1.toNatClampNeg), m8))
def f_X11_mark (P : zSt) (a0 : Nat) (m : zM) : Option (Int32 × zM) :=
  zl (zR P 200 a0) fun b1 =>
  zl (zR P 202 a0) fun b5 =>
  zb (f_X11_copies P b1 b5 m) fun _ m8 =>
  zgd (zbo (1 : Int32)) <| zl (zfp m8 205 a0 (1 : Int32)) fun m13 =>
  zl (zfp m13 210 a0 (0 : Int32)) fun m18 =>
  zl (zR P 200 a0) fun b22 =>
  zgd (zin (144 : Int32) (zlen P b22)) <|
  some ((za m18 b22 (144 : Int32).toNatClampNeg), m18)
def f_X11_plays_b228 (P : zSt) (rec_88 : Nat → Int32 → Int32 → Int32 → Int32 → zM → Option (Int32 × zM)) (a0 : Nat) (x2 : Int32) (x3 : Int32) (x4 : Int32) (x5 : Int32) (m : zM) : Option (Int32 × zM) :=
  zl (x5 + (1 : Int32)) fun v228 =>
  rec_88 a0 x2 x3 x4 v228 m
def f_X11_plays_b225 (P : zSt) (rec_88 : Nat → Int32 → Int32 → Int32 → Int32 → zM → Option (Int32 × zM)) (a0 : Nat) (x2 : Int32) (x3 : Int32) (x5 : Int32) (s0 : Int32) (s1 : Int32) (m : zM) : Option (Int32 × zM) :=
  zl ((s1 + s0)) fun v226 =>
  f_X11_plays_b228 P rec_88 a0 x2 x3 v226 x5 m
def f_X11_plays_b220 (P : zSt) (rec_88 : Nat → Int32 → Int32 → Int32 → Int32 → zM → Option (Int32 × zM)) (a0 : Nat) (x2 : Int32) (x3 : Int32) (x5 : Int32) (s0 : Int32) (m : zM) : Option (Int32 × zM) :=
  f_X11_plays_b225 P rec_88 a0 x2 x3 x5 (1 : Int32) s0 m
def f_X11_plays_b224 (P : zSt) (rec_88 : Nat → Int32 → Int32 → Int32 → Int32 → zM → Option (Int32 × zM)) (a0 : Nat) (x2 : Int32) (x3 : Int32) (x5 : Int32) (s0 : Int32) (m : zM) : Option (Int32 × zM) :=
  f_X11_plays_b225 P rec_88 a0 x2 x3 x5 (0 : Int32) s0 m
def f_X11_plays_b127 (P : zSt) (rec_88 : Nat → Int32 → Int32 → Int32 → Int32 → zM → Option (Int32 × zM)) : Nat → Nat → Int32 → Int32 → Int32 → Int32 → Int32 → zM → Option (Int32 × zM)
  | 0, _, _, _, _, _, _, _ => none
  | fu + 1, a0, x2, x3, x4, x5, x6, m =>
    (if (zf m 207 a0) ≤ x6 then
      zl (zR P 208 a0) fun b164 =>
      zgd (zin (((4 : Int32) * x5) + (1 : Int32)) (zlen P b164)) <|
      zl (zR P 208 a0) fun b175 =>
      zgd (zin (((4 : Int32) * x5) + (2 : Int32)) (zlen P b175)) <|
      zb (f_X11_answers P a0 (za m b164 (((4 : Int32) * x5) + (1 : Int32)).toNatClampNeg) (za m b175 (((4 : Int32) * x5) + (2 : Int32)).toNatClampNeg) m) fun r185 m185 =>
      (if x2 = 0 then
        zl (zR P 208 a0) fun b207 =>
        zgd (zin (((4 : Int32) * x5) + (3 : Int32)) (zlen P b207)) <|
        (if r185 = (za m185 b207 (((4 : Int32) * x5) + (3 : Int32)).toNatClampNeg) then
          f_X11_plays_b224 P rec_88 a0 x2 x3 x5 x4 m185
        else
          f_X11_plays_b220 P rec_88 a0 x2 x3 x5 x4 m185)
      else
        (if r185 < 0 then
          f_X11_plays_b224 P rec_88 a0 x2 x3 x5 x4 m185
        else
          f_X11_plays_b220 P rec_88 a0 x2 x3 x5 x4 m185))
    else
      zl (zR P 206 a0) fun b137 =>
      zl (zR P 209 a0) fun b143 =>
      zgd (zin (((40 : Int32) * x5) + x6) (zlen P b143)) <|
      zgd (zin x6 (zlen P b137)) <| zl (zap m b137 x6.toNatClampNeg (za m b143 (((40 : Int32) * x5) + x6).toNatClampNeg)) fun m155 =>
      zl (x6 + (1 : Int32)) fun v156 =>
      f_X11_plays_b127 P rec_88 fu a0 x2 x3 x4 x5 v156 m155)
def f_X11_plays_b247 (P : zSt)  : Nat → Nat → Int32 → Int32 → Int32 → zM → Option (Int32 × zM)
  | 0, _, _, _, _, _ => none
  | fu + 1, a0, x3, x4, x5, m =>
    (if x3 ≤ x5 then
      zl (zR P 203 a0) fun b274 =>
      zl (zR P 200 a0) fun b278 =>
      zb (f_X11_copies P b274 b278 m) fun _ m281 =>
      some (x4, m281)
    else
      zl (zR P 206 a0) fun b254 =>
      zl (zR P 217 a0) fun b260 =>
      zgd (zin x5 (zlen P b260)) <|
      zgd (zin x5 (zlen P b254)) <| zl (zap m b254 x5.toNatClampNeg (za m b260 x5.toNatClampNeg)) fun m266 =>
      zl (x5 + (1 : Int32)) fun v267 =>
      f_X11_plays_b247 P fu a0 x3 x4 v267 m266)
def f_X11_plays_b88 (P : zSt)  : Nat → Nat → Int32 → Int32 → Int32 → Int32 → zM → Option (Int32 × zM)
  | 0, _, _, _, _, _, _ => none
  | fu + 1, a0, x2, x3, x4, x5, m =>
    (if (zf m 210 a0) ≤ x5 then
      zl (zfp m 216 a0 (-1 : Int32)) fun m236 =>
      zl (zfp m236 207 a0 x3) fun m241 =>
      f_X11_plays_b247 P zfuel a0 x3 x4 (0 : Int32) m241
    else
      zl (zR P 208 a0) fun b99 =>
      zgd (zin ((4 : Int32) * x5) (zlen P b99)) <|
      zl (zfp m 207 a0 (za m b99 ((4 : Int32) * x5).toNatClampNeg)) fun m107 =>
      (if 0 ≤ (zf m107 207 a0) then
        f_X11_plays_b127 P (f_X11_plays_b88 P fu) zfuel a0 x2 x3 x4 x5 (0 : Int32) m107
      else
        zb (f_X11_ticks P a0 m107) fun _ m118 =>
        f_X11_plays_b228 P (f_X11_plays_b88 P fu) a0 x2 x3 x4 x5 m118))
def f_X11_plays_b40 (P : zSt)  : Nat → Nat → Int32 → Int32 → Int32 → Int32 → zM → Option (Int32 × zM)
  | 0, _, _, _, _, _, _ => none
  | fu + 1, a0, x1, x2, x3, x4, m =>
    (if x3 ≤ x4 then
      zl (zR P 202 a0) fun b67 =>
      zl (zR P 200 a0) fun b71 =>
      zb (f_X11_copies P b67 b71 m) fun _ m74 =>
      zl (zfp m74 216 a0 x1) fun m79 =>
      f_X11_plays_b88 P zfuel a0 x2 x3 (0 : Int32) (0 : Int32) m79
    else
      zl (zR P 217 a0) fun b47 =>
      zl (zR P 206 a0) fun b53 =>
      zgd (zin x4 (zlen P b53)) <|
      zgd (zin x4 (zlen P b47)) <| zl (zap m b47 x4.toNatClampNeg (za m b53 x4.toNatClampNeg)) fun m59 =>
      zl (x4 + (1 : Int32)) fun v60 =>
      f_X11_plays_b40 P fu a0 x1 x2 x3 v60 m59)
def f_X11_plays (P : zSt) (a0 : Nat) (i1 : Int32) (i2 : Int32) (m : zM) : Option (Int32 × zM) :=
  zb (f_X11_isIn P i1 (0 : Int32) (4 : Int32) m) fun r3 m3 =>
  (if r3 = 0 then
    some ((-2 : Int32), m3)
  else
    (if (zf m3 205 a0) = 0 then
      some ((-1 : Int32), m3)
    else
      zl (zR P 200 a0) fun b22 =>
      zl (zR P 203 a0) fun b26 =>
      zb (f_X11_copies P b22 b26 m3) fun _ m29 =>
      zl ((zf m29 207 a0)) fun v36 =>
      f_X11_plays_b40 P zfuel a0 i1 i2 v36 (0 : Int32) m29))
def f_X11_play (P : zSt) (a0 : Nat) (i1 : Int32) (m : zM) : Option (Int32 × zM) :=
  zb (f_X11_plays P a0 i1 (0 : Int32) m) fun r3 m3 =>
  some (r3, m3)
def f_X11_answeredIf (P : zSt) (a0 : Nat) (i1 : Int32) (m : zM) : Option (Int32 × zM) :=
  zb (f_X11_plays P a0 i1 (1 : Int32) m) fun r3 m3 =>
  some (r3, m3)
def f_X11_save (P : zSt) (a0 : Nat) (m : zM) : Option (Int32 × zM) :=
  zl (zR P 200 a0) fun b1 =>
  zl (zR P 201 a0) fun b5 =>
  zb (f_X11_copies P b1 b5 m) fun _ m8 =>
  zgd (zbo (1 : Int32)) <| zl (zfp m8 204 a0 (1 : Int32)) fun m13 =>
  zl (zR P 200 a0) fun b17 =>
  zgd (zin (144 : Int32) (zlen P b17)) <|
  some ((za m13 b17 (144 : Int32).toNatClampNeg), m13)
def f_X11_restore (P : zSt) (a0 : Nat) (m : zM) : Option (Int32 × zM) :=
  (if (zf m 204 a0) = 0 then
    some ((-1 : Int32), m)
  else
    zb (f_X11_changes P a0 m) fun _ m10 =>
    zl (zR P 201 a0) fun b14 =>
    zl (zR P 200 a0) fun b18 =>
    zb (f_X11_copies P b14 b18 m10) fun _ m21 =>
    zl (zR P 200 a0) fun b25 =>
    zgd (zin (706 : Int32) (zlen P b25)) <| zl (zap m21 b25 (706 : Int32).toNatClampNeg (0 : Int32)) fun m32 =>
    zl (zR P 200 a0) fun b34 =>
    zgd (zin (144 : Int32) (zlen P b34)) <|
    some ((za m32 b34 (144 : Int32).toNatClampNeg), m32))

/-! GutterNine$Tape.add -/
noncomputable def f95_at43 (N : Nat) (r_at3 : Int → Int → gI → Option (gI)) (y1 : Int) (x3 : Int) (x4 : Int) (z0 : Int) (s : gI) : Option (gI) :=
    if z0 = 0 then
      iov (x3 + (-8 : Int)) <|
      let i1 : Int := (x3 + (-8 : Int))
      r_at3 y1 i1 s
    else
      if (1000 : Int) ≤ (s.1 1 1) then
        iov (x3 + (-8 : Int)) <|
        let i2 : Int := (x3 + (-8 : Int))
        r_at3 y1 i2 s
      else
        ich x4 <|
        ick (s.1 1 1) 1000 <|
        ich x4 <|
        let s3 : gI := (iw s 2 (s.1 1 1) x4)
        iov ((s3.1 1 1) + (1 : Int)) <|
        let s4 : gI := (iw s3 1 1 ((s3.1 1 1) + (1 : Int)))
        iov (x3 + (-8 : Int)) <|
        let i5 : Int := (x3 + (-8 : Int))
        r_at3 y1 i5 s4
noncomputable def f95_at38 (N : Nat) (r_at3 : Int → Int → gI → Option (gI)) (y1 : Int) (x3 : Int) (x4 : Int) (s : gI) : Option (gI) :=
    f95_at43 N r_at3 y1 x3 x4 (1 : Int) s
noncomputable def f95_at42 (N : Nat) (r_at3 : Int → Int → gI → Option (gI)) (y1 : Int) (x3 : Int) (x4 : Int) (s : gI) : Option (gI) :=
    f95_at43 N r_at3 y1 x3 x4 (0 : Int) s
noncomputable def f95_at3 (N : Nat) : Nat → Int → Int → gI → Option (gI)
  | 0, _, _, _ => none
  | n + 1, y1, x3, s =>
    if x3 < 0 then
      some s
    else
      let i1 : Int := (i_and (Int.bmod (j_ushr y1 x3) 4294967296) (255 : Int))
      if i1 = (10 : Int) then
        f95_at38 N (f95_at3 N n) y1 x3 i1 s
      else
        if i1 < (32 : Int) then
          f95_at42 N (f95_at3 N n) y1 x3 i1 s
        else
          if (126 : Int) < i1 then
            f95_at42 N (f95_at3 N n) y1 x3 i1 s
          else
            f95_at38 N (f95_at3 N n) y1 x3 i1 s
noncomputable def f95 (N : Nat) (y1 : Int) (s : gI) : Option (gI) :=
    f95_at3 N N y1 (56 : Int) s
/-! GutterNine.feed -/
noncomputable def f134 (N : Nat) (y1 : Int) (y3 : Int) (y5 : Int) (s : gI) : Option (Int × gI) :=
    i_o1 (f95 N y1 s) fun s1 =>
    i_o1 (f95 N y3 s1) fun s2 =>
    i_o1 (f95 N y5 s2) fun s3 =>
    some ((s3.1 1 1), s3)
/-! java/lang/String.isLatin1 -/
noncomputable def f305 (N : Nat) (r0 : Nat) (s : gI) : Option (Int × gI) :=
    if (1 : Int) = 0 then
      ib1 (0 : Int) <|
      some ((0 : Int), s)
    else
      if (i_c r0 1) = 0 then
        ib1 (1 : Int) <|
        some ((1 : Int), s)
      else
        ib1 (0 : Int) <|
        some ((0 : Int), s)
/-! java/lang/String.coder -/
noncomputable def f304 (N : Nat) (r0 : Nat) (s : gI) : Option (Int × gI) :=
    if (1 : Int) = 0 then
      ib1 (1 : Int) <|
      some ((1 : Int), s)
    else
      ib1 (i_c r0 1) <|
      some ((i_c r0 1), s)
/-! java/lang/String.length -/
noncomputable def f300 (N : Nat) (r0 : Nat) (zn : Int) (s : gI) : Option (Int × gI) :=
    iov zn <|
    i_o2 (f304 N r0 s) fun i2 s1 =>
    some ((i_shr (zn : Int) i2), s1)
/-! java/lang/StringLatin1.canEncode -/
noncomputable def f309 (N : Nat) (x0 : Int) (s : gI) : Option (Int × gI) :=
    if x0 < 0 then
      ib1 (0 : Int) <|
      some ((0 : Int), s)
    else
      if (255 : Int) < x0 then
        ib1 (0 : Int) <|
        some ((0 : Int), s)
      else
        ib1 (1 : Int) <|
        some ((1 : Int), s)
/-! java/lang/StringLatin1.indexOfChar -/
noncomputable def f311_at7 (N : Nat) (r0 : Nat) (zn : Int) : Nat → Int → Int → Int → gI → Option (Int × gI)
  | 0, _, _, _, _ => none
  | n + 1, x3, x4, x5, s =>
    if x3 ≤ x5 then
      some ((-1 : Int), s)
    else
      ick x5 zn <|
      if (i_c r0 x5) = x4 then
        some (x5, s)
      else
        iov (x5 + (1 : Int)) <|
        let i1 : Int := (x5 + (1 : Int))
        f311_at7 N r0 zn n x3 x4 i1 s
noncomputable def f311 (N : Nat) (r0 : Nat) (zn : Int) (x1 : Int) (x2 : Int) (x3 : Int) (s : gI) : Option (Int × gI) :=
    ick x1 128 <|
    f311_at7 N r0 zn N x3 x1 x2 s
/-! java/lang/StringLatin1.indexOf -/
noncomputable def f310 (N : Nat) (r0 : Nat) (zn : Int) (x1 : Int) (x2 : Int) (x3 : Int) (s : gI) : Option (Int × gI) :=
    i_o2 (f309 N x1 s) fun i2 s1 =>
    if i2 = 0 then
      some ((-1 : Int), s1)
    else
      let i3 : Int := (if x2 < (0 : Int) then (0 : Int) else x2)
      iov zn <|
      let i4 : Int := (if (zn : Int) < x3 then (zn : Int) else x3)
      if i3 < i4 then
        i_o2 (f311 N r0 zn x1 i3 i4 s1) fun i6 s5 =>
        some (i6, s5)
      else
        some ((-1 : Int), s1)
/-! java/lang/String.indexOf -/
noncomputable def f303 (N : Nat) (r0 : Nat) (zn : Int) (x1 : Int) (x2 : Int) (s : gI) : Option (Int × gI) :=
    i_o2 (f305 N r0 s) fun i2 s1 =>
    if i2 = 0 then
      i_o2 (f300 N r0 zn s1) fun i4 s3 =>
      none
    else
      i_o2 (f300 N r0 zn s1) fun i6 s5 =>
      i_o2 (f310 N (r0 + 1) zn x1 x2 i6 s5) fun i8 s7 =>
      some (i8, s7)
/-! java/lang/String.indexOf -/
noncomputable def f302 (N : Nat) (r0 : Nat) (zn : Int) (x1 : Int) (s : gI) : Option (Int × gI) :=
    i_o2 (f303 N r0 zn x1 (0 : Int) s) fun i2 s1 =>
    some (i2, s1)
/-! GutterNine$Tape.runEnd -/
noncomputable def f98_at5 (N : Nat) : Nat → Int → Int → Int → gI → Option (Int × gI)
  | 0, _, _, _, _ => none
  | n + 1, x1, x2, x3, s =>
    if (s.1 1 1) ≤ x3 then
      some (x3, s)
    else
      ick x3 1000 <|
      if (s.1 2 x3) < x1 then
        some (x3, s)
      else
        ick x3 1000 <|
        if x2 < (s.1 2 x3) then
          some (x3, s)
        else
          iov (x3 + (1 : Int)) <|
          let i1 : Int := (x3 + (1 : Int))
          f98_at5 N n x1 x2 i1 s
noncomputable def f98 (N : Nat) (x1 : Int) (x2 : Int) (s : gI) : Option (Int × gI) :=
    let i1 : Int := (s.1 1 3)
    f98_at5 N N x1 x2 i1 s
/-! GutterNine$Tape.readNumber -/
noncomputable def f99_at19 (N : Nat) : Nat → Int → gI → Option (gI)
  | 0, _, _ => none
  | n + 1, x1, s =>
    if (s.1 1 4) ≤ x1 then
      some s
    else
      iov ((s.1 1 5) * (10 : Int)) <|
      ick x1 1000 <|
      iov (((s.1 1 5) * (10 : Int)) + (s.1 2 x1)) <|
      iov ((((s.1 1 5) * (10 : Int)) + (s.1 2 x1)) - (48 : Int)) <|
      let s1 : gI := (iw s 1 5 ((((s.1 1 5) * (10 : Int)) + (s.1 2 x1)) - (48 : Int)))
      iov (x1 + (1 : Int)) <|
      let i2 : Int := (x1 + (1 : Int))
      f99_at19 N n i2 s1
noncomputable def f99 (N : Nat) (s : gI) : Option (gI) :=
    if (s.1 1 2) = (3 : Int) then
      let s1 : gI := (iw s 1 5 (0 : Int))
      let i2 : Int := (s1.1 1 3)
      f99_at19 N N i2 s1
    else
      some s
/-! GutterNine$Tape.advance -/
noncomputable def f97_at178 (N : Nat) (x1 : Int) (x2 : Int) (s : gI) : Option (gI) :=
    iov (x1 + (1 : Int)) <|
    let s1 : gI := (iw s 1 4 (x1 + (1 : Int)))
    i_o2 (f302 N 1034 8 x2 s1) fun i3 s2 =>
    if i3 < 0 then
      let s4 : gI := (iw s2 1 2 (1 : Int))
      some s4
    else
      let s5 : gI := (iw s2 1 2 (4 : Int))
      some s5
noncomputable def f97_at168 (N : Nat) (z0 : Int) (s : gI) : Option (gI) :=
    let s1 : gI := (iw s 1 2 z0)
    i_o1 (f99 N s1) fun s2 =>
    some s2
noncomputable def f97_at125 (N : Nat) (x1 : Int) (x2 : Int) (s : gI) : Option (gI) :=
    if x2 < (48 : Int) then
      f97_at178 N x1 x2 s
    else
      if (57 : Int) < x2 then
        f97_at178 N x1 x2 s
      else
        i_o2 (f98 N (48 : Int) (57 : Int) s) fun i2 s1 =>
        let s3 : gI := (iw s1 1 4 i2)
        iov ((s3.1 1 4) - (s3.1 1 3)) <|
        if (4 : Int) < ((s3.1 1 4) - (s3.1 1 3)) then
          f97_at168 N (1 : Int) s3
        else
          f97_at168 N (3 : Int) s3
noncomputable def f97_at41 (N : Nat) (x1 : Int) (s : gI) : Option (gI) :=
    let s1 : gI := (iw s 1 3 x1)
    if x1 < (s1.1 1 1) then
      ick x1 1000 <|
      let i2 : Int := (s1.1 2 x1)
      if i2 < (97 : Int) then
        f97_at125 N x1 i2 s1
      else
        if (122 : Int) < i2 then
          f97_at125 N x1 i2 s1
        else
          i_o2 (f98 N (97 : Int) (122 : Int) s1) fun i4 s3 =>
          let s5 : gI := (iw s3 1 4 i4)
          iov ((s5.1 1 4) - (s5.1 1 3)) <|
          if (8 : Int) < ((s5.1 1 4) - (s5.1 1 3)) then
            let s6 : gI := (iw s5 1 2 (1 : Int))
            some s6
          else
            let s7 : gI := (iw s5 1 2 (2 : Int))
            some s7
    else
      let s8 : gI := (iw s1 1 2 (0 : Int))
      let s9 : gI := (iw s8 1 4 (s8.1 1 1))
      some s9
noncomputable def f97_at5 (N : Nat) : Nat → Int → gI → Option (gI)
  | 0, _, _ => none
  | n + 1, x1, s =>
    if (s.1 1 1) ≤ x1 then
      f97_at41 N x1 s
    else
      ick x1 1000 <|
      if (s.1 2 x1) = (10 : Int) then
        iov (x1 + (1 : Int)) <|
        let i1 : Int := (x1 + (1 : Int))
        f97_at5 N n i1 s
      else
        ick x1 1000 <|
        if (s.1 2 x1) = (32 : Int) then
          iov (x1 + (1 : Int)) <|
          let i2 : Int := (x1 + (1 : Int))
          f97_at5 N n i2 s
        else
          f97_at41 N x1 s
noncomputable def f97 (N : Nat) (s : gI) : Option (gI) :=
    let i1 : Int := (s.1 1 4)
    f97_at5 N N i1 s
/-! GutterNine$Tape.begin -/
noncomputable def f96 (N : Nat) (s : gI) : Option (gI) :=
    let s1 : gI := (iw s 1 4 (0 : Int))
    let s2 : gI := (iw s1 1 7 (0 : Int))
    i_o1 (f97 N s2) fun s3 =>
    some s3
/-! jdk/internal/util/Preconditions.checkIndex -/
noncomputable def f322_at9 (N : Nat) (x0 : Int) (x1 : Int) (s : gI) : Option (Int × gI) :=
    none
noncomputable def f322 (N : Nat) (x0 : Int) (x1 : Int) (s : gI) : Option (Int × gI) :=
    if x0 < 0 then
      f322_at9 N x0 x1 s
    else
      if x0 < x1 then
        some (x0, s)
      else
        f322_at9 N x0 x1 s
/-! java/lang/String.checkIndex -/
noncomputable def f306 (N : Nat) (x0 : Int) (x1 : Int) (s : gI) : Option (gI) :=
    i_o2 (f322 N x0 x1 s) fun i2 s1 =>
    some s1
/-! java/lang/StringLatin1.charAt -/
noncomputable def f308 (N : Nat) (r0 : Nat) (zn : Int) (x1 : Int) (s : gI) : Option (Int × gI) :=
    iov zn <|
    i_o1 (f306 N x1 (zn : Int) s) fun s1 =>
    ick x1 zn <|
    ich (i_and (i_c r0 x1) (255 : Int)) <|
    ich (i_and (i_c r0 x1) (255 : Int)) <|
    some ((i_and (i_c r0 x1) (255 : Int)), s1)
/-! java/lang/String.charAt -/
noncomputable def f301 (N : Nat) (r0 : Nat) (zn : Int) (x1 : Int) (s : gI) : Option (Int × gI) :=
    i_o2 (f305 N r0 s) fun i2 s1 =>
    if i2 = 0 then
      none
    else
      i_o2 (f308 N (r0 + 1) zn x1 s1) fun i4 s3 =>
      ich i4 <|
      some (i4, s3)
/-! GutterNine$Tape.isWord -/
noncomputable def f101_at31 (N : Nat) (r1 : Nat) (zn : Int) : Nat → Int → gI → Option (Int × gI)
  | 0, _, _ => none
  | n + 1, x2, s =>
    if (s.1 1 4) ≤ x2 then
      ib1 (1 : Int) <|
      some ((1 : Int), s)
    else
      ick x2 1000 <|
      iov (x2 - (s.1 1 3)) <|
      i_o2 (f301 N r1 zn (x2 - (s.1 1 3)) s) fun i2 s1 =>
      if (s.1 2 x2) = i2 then
        iov (x2 + (1 : Int)) <|
        let i3 : Int := (x2 + (1 : Int))
        f101_at31 N r1 zn n i3 s1
      else
        ib1 (0 : Int) <|
        some ((0 : Int), s1)
noncomputable def f101 (N : Nat) (r1 : Nat) (zn : Int) (s : gI) : Option (Int × gI) :=
    if (s.1 1 2) = (2 : Int) then
      iov ((s.1 1 4) - (s.1 1 3)) <|
      i_o2 (f300 N r1 zn s) fun i2 s1 =>
      if ((s.1 1 4) - (s.1 1 3)) = i2 then
        let i3 : Int := (s1.1 1 3)
        f101_at31 N r1 zn N i3 s1
      else
        ib1 (0 : Int) <|
        some ((0 : Int), s1)
    else
      ib1 (0 : Int) <|
      some ((0 : Int), s)
/-! GutterNine$Tape.fail -/
noncomputable def f104 (N : Nat) (x1 : Int) (s : gI) : Option (Int × gI) :=
    iov ((16 : Int) * (s.1 1 3)) <|
    iov (x1 + ((16 : Int) * (s.1 1 3))) <|
    let s1 : gI := (iw s 1 7 (x1 + ((16 : Int) * (s.1 1 3))))
    ib1 (0 : Int) <|
    some ((0 : Int), s1)
/-! GutterNine$Tape.takeWord -/
noncomputable def f105 (N : Nat) (r1 : Nat) (zn : Int) (s : gI) : Option (Int × gI) :=
    i_o2 (f101 N r1 zn s) fun i2 s1 =>
    if i2 = 0 then
      i_o2 (f104 N (1 : Int) s1) fun i5 s4 =>
      ib1 i5 <|
      some (i5, s4)
    else
      i_o1 (f97 N s1) fun s3 =>
      ib1 (1 : Int) <|
      some ((1 : Int), s3)
/-! GutterNine$Tape.takeNumber -/
noncomputable def f107_at30 (N : Nat) (s : gI) : Option (Int × gI) :=
    i_o2 (f104 N (4 : Int) s) fun i2 s1 =>
    ib1 i2 <|
    some (i2, s1)
noncomputable def f107 (N : Nat) (x1 : Int) (x2 : Int) (s : gI) : Option (Int × gI) :=
    if (s.1 1 2) = (3 : Int) then
      if (s.1 1 5) < x1 then
        f107_at30 N s
      else
        if (s.1 1 5) ≤ x2 then
          let s1 : gI := (iw s 1 6 (s.1 1 5))
          i_o1 (f97 N s1) fun s2 =>
          ib1 (1 : Int) <|
          some ((1 : Int), s2)
        else
          f107_at30 N s
    else
      i_o2 (f104 N (1 : Int) s) fun i4 s3 =>
      ib1 i4 <|
      some (i4, s3)
/-! GutterNine$Tape.isSign -/
noncomputable def f100 (N : Nat) (x1 : Int) (s : gI) : Option (Int × gI) :=
    if (s.1 1 2) = (4 : Int) then
      ick (s.1 1 3) 1000 <|
      if (s.1 2 (s.1 1 3)) = x1 then
        ib1 (1 : Int) <|
        some ((1 : Int), s)
      else
        ib1 (0 : Int) <|
        some ((0 : Int), s)
    else
      ib1 (0 : Int) <|
      some ((0 : Int), s)
/-! GutterNine$Tape.takeSemicolon -/
noncomputable def f106 (N : Nat) (s : gI) : Option (Int × gI) :=
    i_o2 (f100 N (59 : Int) s) fun i2 s1 =>
    if i2 = 0 then
      i_o2 (f104 N (1 : Int) s1) fun i5 s4 =>
      ib1 i5 <|
      some (i5, s4)
    else
      i_o1 (f97 N s1) fun s3 =>
      ib1 (1 : Int) <|
      some ((1 : Int), s3)
/-! GutterNine$Tape.letter -/
noncomputable def f103 (N : Nat) (x1 : Int) (s : gI) : Option (Int × gI) :=
    if x1 < 0 then
      ich (32 : Int) <|
      some ((32 : Int), s)
    else
      iov ((s.1 1 4) - (s.1 1 3)) <|
      if ((s.1 1 4) - (s.1 1 3)) ≤ x1 then
        ich (32 : Int) <|
        some ((32 : Int), s)
      else
        iov ((s.1 1 3) + x1) <|
        ick ((s.1 1 3) + x1) 1000 <|
        ich (s.1 2 ((s.1 1 3) + x1)) <|
        some ((s.1 2 ((s.1 1 3) + x1)), s)
/-! GutterNine$Roof.takeRow -/
noncomputable def f81_at38 (N : Nat) : Nat → Int → Int → gI → Option (Int × gI)
  | 0, _, _, _ => none
  | n + 1, x2, x3, s =>
    if (s.1 44 0) ≤ x3 then
      i_o1 (f97 N s) fun s1 =>
      ib1 (1 : Int) <|
      some ((1 : Int), s1)
    else
      i_o2 (f103 N x3 s) fun i3 s2 =>
      i_o2 (f302 N 1032 9 i3 s2) fun i5 s4 =>
      if 0 ≤ i5 then
        iov (x2 * (8 : Int)) <|
        iov ((x2 * (8 : Int)) + x3) <|
        ick ((x2 * (8 : Int)) + x3) 64 <|
        let s6 : gI := (iw s4 45 ((x2 * (8 : Int)) + x3) i5)
        iov (x3 + (1 : Int)) <|
        let i7 : Int := (x3 + (1 : Int))
        f81_at38 N n x2 i7 s6
      else
        i_o2 (f104 N (2 : Int) s4) fun i9 s8 =>
        ib1 i9 <|
        some (i9, s8)
noncomputable def f81 (N : Nat) (x2 : Int) (s : gI) : Option (Int × gI) :=
    if (s.1 1 2) = (2 : Int) then
      iov ((s.1 1 4) - (s.1 1 3)) <|
      if ((s.1 1 4) - (s.1 1 3)) = (s.1 44 0) then
        f81_at38 N N x2 (0 : Int) s
      else
        i_o2 (f104 N (2 : Int) s) fun i2 s1 =>
        ib1 i2 <|
        some (i2, s1)
    else
      i_o2 (f104 N (1 : Int) s) fun i4 s3 =>
      ib1 i4 <|
      some (i4, s3)
/-! GutterNine$Roof.read -/
noncomputable def f80_at127 (N : Nat) (z0 : Int) (s : gI) : Option (Int × gI) :=
    i_o2 (f104 N z0 s) fun i2 s1 =>
    if i2 = 0 then
      ib1 (0 : Int) <|
      some ((0 : Int), s1)
    else
      ib1 (1 : Int) <|
      some ((1 : Int), s1)
noncomputable def f80_at64 (N : Nat) : Nat → Int → gI → Option (Int × gI)
  | 0, _, _ => none
  | n + 1, x2, s =>
    if (s.1 44 1) ≤ x2 then
      if (s.1 1 2) = 0 then
        ib1 (1 : Int) <|
        some ((1 : Int), s)
      else
        i_o2 (f101 N 1030 3 s) fun i2 s1 =>
        if i2 = 0 then
          f80_at127 N (1 : Int) s1
        else
          f80_at127 N (5 : Int) s1
    else
      i_o2 (f105 N 1030 3 s) fun i4 s3 =>
      if i4 = 0 then
        ib1 (0 : Int) <|
        some ((0 : Int), s3)
      else
        i_o2 (f81 N x2 s3) fun i6 s5 =>
        if i6 = 0 then
          ib1 (0 : Int) <|
          some ((0 : Int), s5)
        else
          i_o2 (f106 N s5) fun i8 s7 =>
          if i8 = 0 then
            ib1 (0 : Int) <|
            some ((0 : Int), s7)
          else
            iov (x2 + (1 : Int)) <|
            let i9 : Int := (x2 + (1 : Int))
            f80_at64 N n i9 s7
noncomputable def f80 (N : Nat) (s : gI) : Option (Int × gI) :=
    i_o1 (f96 N s) fun s1 =>
    i_o2 (f105 N 1028 4 s1) fun i3 s2 =>
    if i3 = 0 then
      ib1 (0 : Int) <|
      some ((0 : Int), s2)
    else
      i_o2 (f107 N (2 : Int) (8 : Int) s2) fun i5 s4 =>
      if i5 = 0 then
        ib1 (0 : Int) <|
        some ((0 : Int), s4)
      else
        let s6 : gI := (iw s4 44 0 (s4.1 1 6))
        i_o2 (f107 N (2 : Int) (8 : Int) s6) fun i8 s7 =>
        if i8 = 0 then
          ib1 (0 : Int) <|
          some ((0 : Int), s7)
        else
          let s9 : gI := (iw s7 44 1 (s7.1 1 6))
          i_o2 (f106 N s9) fun i11 s10 =>
          if i11 = 0 then
            ib1 (0 : Int) <|
            some ((0 : Int), s10)
          else
            f80_at64 N N (0 : Int) s10
/-! java/util/Arrays.fill -/
noncomputable def f321_at5 (N : Nat) (r0 : Nat) (zn : Int) : Nat → Int → Int → Int → gI → Option (gI)
  | 0, _, _, _, _ => none
  | n + 1, x1, x2, x3, s =>
    if x3 ≤ x2 then
      some s
    else
      ick x2 zn <|
      let s1 : gI := (iw s r0 x2 x1)
      iov (x2 + (1 : Int)) <|
      let i2 : Int := (x2 + (1 : Int))
      f321_at5 N r0 zn n x1 i2 x3 s1
noncomputable def f321 (N : Nat) (r0 : Nat) (zn : Int) (x1 : Int) (s : gI) : Option (gI) :=
    iov zn <|
    let i1 : Int := (zn : Int)
    f321_at5 N r0 zn N x1 (0 : Int) i1 s
/-! GutterNine$Scene.clear -/
noncomputable def f87 (N : Nat) (s : gI) : Option (gI) :=
    i_o1 (f321 N 7 8 (64 : Int) s) fun s1 =>
    i_o1 (f321 N 8 8 (-1 : Int) s1) fun s2 =>
    i_o1 (f321 N 9 64 (-1 : Int) s2) fun s3 =>
    i_o1 (f321 N 10 8 (-2 : Int) s3) fun s4 =>
    let s5 : gI := (iw s4 6 4 (0 : Int))
    let s6 : gI := (iw s5 6 5 (0 : Int))
    some s6
/-! GutterNine$Past.clear -/
noncomputable def f41 (N : Nat) (s : gI) : Option (gI) :=
    let s1 : gI := (iw s 41 2 (0 : Int))
    let s2 : gI := (iw s1 41 4 (0 : Int))
    some s2
/-! GutterNine.startAnew -/
noncomputable def f165 (N : Nat) (s : gI) : Option (gI) :=
    i_o1 (f87 N s) fun s1 =>
    i_o1 (f41 N s1) fun s2 =>
    some s2
/-! GutterNine.roof -/
noncomputable def f135 (N : Nat) (s : gI) : Option (Int × gI × (Nat → Nat → Nat)) :=
    i_o2 (f80 N s) fun i2 s1 =>
    let s3 : gI := (iw s1 1 1 (0 : Int))
    if i2 = 0 then
      some ((s3.1 1 7), s3, g_rho)
    else
      i_o1 (f165 N s3) fun s4 =>
      some ((0 : Int), s4, i_rhoR)
/-! GutterNine$Law.add -/
noncomputable def f23 (N : Nat) (r0 : Nat) (x1 : Int) (s : gI) : Option (gI) :=
    iov 1000 <|
    if (1000 : Int) ≤ (s.1 r0 2) then
      some s
    else
      ick (s.1 r0 2) 1000 <|
      let s1 : gI := (iw s (r0 + 1) (s.1 r0 2) x1)
      iov ((s1.1 r0 2) + (1 : Int)) <|
      let s2 : gI := (iw s1 r0 2 ((s1.1 r0 2) + (1 : Int)))
      some s2
/-! GutterNine$Law.become -/
noncomputable def f21 (N : Nat) (r0 : Nat) (x1 : Int) (s : gI) : Option (gI) :=
    let s1 : gI := (iw s r0 2 (0 : Int))
    i_o1 (f23 N r0 x1 s1) fun s2 =>
    some s2
/-! GutterNine$Yard.clear -/
noncomputable def f115 (N : Nat) (s : gI) : Option (gI) :=
    let s1 : gI := (iw s 47 0 (0 : Int))
    let s2 : gI := (iw s1 47 3 (0 : Int))
    let s3 : gI := (iw s2 47 8 (0 : Int))
    let s4 : gI := (iw s3 47 12 (-1 : Int))
    let s5 : gI := (iw s4 47 13 (-1 : Int))
    let s6 : gI := (iw s5 47 14 (-1 : Int))
    let s7 : gI := (iw s6 47 15 (-1 : Int))
    let s8 : gI := (iw s7 47 16 (0 : Int))
    i_o1 (f21 N 57 (10000 : Int) s8) fun s9 =>
    i_o1 (f21 N 60 (1 : Int) s9) fun s10 =>
    some s10
/-! GutterNine$YardReader.takeOnce -/
noncomputable def f122 (N : Nat) (x1 : Int) (s : gI) : Option (Int × gI) :=
    if (i_and (s.1 3 2) x1) = 0 then
      let s1 : gI := (iw s 3 2 (i_or (s.1 3 2) x1))
      i_o1 (f97 N s1) fun s2 =>
      ib1 (1 : Int) <|
      some ((1 : Int), s2)
    else
      i_o2 (f104 N (3 : Int) s) fun i4 s3 =>
      ib1 i4 <|
      some (i4, s3)
/-! GutterNine$Law.clear -/
noncomputable def f22 (N : Nat) (r0 : Nat) (s : gI) : Option (gI) :=
    let s1 : gI := (iw s r0 2 (0 : Int))
    some s1
/-! GutterNine$LawReader.joinCode -/
noncomputable def f31 (N : Nat) (s : gI) : Option (Int × gI) :=
    i_o2 (f101 N 1024 3 s) fun i2 s1 =>
    if i2 = 0 then
      i_o2 (f101 N 1026 2 s1) fun i4 s3 =>
      if i4 = 0 then
        i_o2 (f100 N (60 : Int) s3) fun i6 s5 =>
        if i6 = 0 then
          i_o2 (f100 N (61 : Int) s5) fun i8 s7 =>
          if i8 = 0 then
            i_o2 (f100 N (43 : Int) s7) fun i10 s9 =>
            if i10 = 0 then
              i_o2 (f100 N (45 : Int) s9) fun i12 s11 =>
              if i12 = 0 then
                i_o2 (f100 N (42 : Int) s11) fun i14 s13 =>
                if i14 = 0 then
                  i_o2 (f100 N (41 : Int) s13) fun i16 s15 =>
                  if i16 = 0 then
                    some ((-1 : Int), s15)
                  else
                    some ((10012 : Int), s15)
                else
                  some ((10010 : Int), s13)
              else
                some ((10009 : Int), s11)
            else
              some ((10008 : Int), s9)
          else
            some ((10007 : Int), s7)
        else
          some ((10006 : Int), s5)
      else
        some ((10005 : Int), s3)
    else
      some ((10004 : Int), s1)
/-! GutterNine$LawReader.strength -/
noncomputable def f39 (N : Nat) (x0 : Int) (s : gI) : Option (Int × gI) :=
    if x0 = 10003 then
      some ((5 : Int), s)
    else if x0 = 10004 then
      some ((1 : Int), s)
    else if x0 = 10005 then
      some ((1 : Int), s)
    else if x0 = 10006 then
      some ((2 : Int), s)
    else if x0 = 10007 then
      some ((2 : Int), s)
    else if x0 = 10008 then
      some ((3 : Int), s)
    else if x0 = 10009 then
      some ((3 : Int), s)
    else if x0 = 10010 then
      some ((4 : Int), s)
    else 
      some ((0 : Int), s)
/-! GutterNine$LawReader.topStrength -/
noncomputable def f38 (N : Nat) (s : gI) : Option (Int × gI) :=
    if (s.1 4 2) = 0 then
      some ((0 : Int), s)
    else
      iov ((s.1 4 2) - (1 : Int)) <|
      ick ((s.1 4 2) - (1 : Int)) 64 <|
      i_o2 (f39 N (s.1 5 ((s.1 4 2) - (1 : Int))) s) fun i2 s1 =>
      some (i2, s1)
/-! GutterNine$LawReader.pop -/
noncomputable def f37 (N : Nat) (s : gI) : Option (gI) :=
    iov ((s.1 4 2) - (1 : Int)) <|
    let s1 : gI := (iw s 4 2 (if (0 : Int) < ((s.1 4 2) - (1 : Int)) then ((s.1 4 2) - (1 : Int)) else (0 : Int)))
    some s1
/-! GutterNine$LawReader.release -/
noncomputable def f35_at2 (N : Nat) (r1 : Nat) : Nat → Int → Int → gI → Option (gI)
  | 0, _, _, _ => none
  | n + 1, x2, x3, s =>
    if (64 : Int) ≤ x3 then
      some s
    else
      i_o2 (f38 N s) fun i2 s1 =>
      if i2 < x2 then
        some s1
      else
        iov ((s1.1 4 2) - (1 : Int)) <|
        ick ((s1.1 4 2) - (1 : Int)) 64 <|
        i_o1 (f23 N r1 (s1.1 5 ((s1.1 4 2) - (1 : Int))) s1) fun s3 =>
        i_o1 (f37 N s3) fun s4 =>
        iov (x3 + (1 : Int)) <|
        let i5 : Int := (x3 + (1 : Int))
        f35_at2 N r1 n x2 i5 s4
noncomputable def f35 (N : Nat) (r1 : Nat) (x2 : Int) (s : gI) : Option (gI) :=
    f35_at2 N r1 N x2 (0 : Int) s
/-! GutterNine$LawReader.push -/
noncomputable def f36 (N : Nat) (x1 : Int) (s : gI) : Option (gI) :=
    if (64 : Int) ≤ (s.1 4 2) then
      some s
    else
      ick (s.1 4 2) 64 <|
      let s1 : gI := (iw s 5 (s.1 4 2) x1)
      iov ((s1.1 4 2) + (1 : Int)) <|
      let s2 : gI := (iw s1 4 2 ((s1.1 4 2) + (1 : Int)))
      some s2
/-! GutterNine$LawReader.endPart -/
noncomputable def f34_at7 (N : Nat) (r1 : Nat) : Nat → Int → gI → Option (gI)
  | 0, _, _ => none
  | n + 1, x2, s =>
    if (5 : Int) ≤ x2 then
      some s
    else
      i_o2 (f38 N s) fun i2 s1 =>
      if i2 = (5 : Int) then
        i_o1 (f23 N r1 (10003 : Int) s1) fun s3 =>
        i_o1 (f37 N s3) fun s4 =>
        iov ((s4.1 4 4) - (1 : Int)) <|
        let s5 : gI := (iw s4 4 4 ((s4.1 4 4) - (1 : Int)))
        iov (x2 + (1 : Int)) <|
        let i6 : Int := (x2 + (1 : Int))
        f34_at7 N r1 n i6 s5
      else
        some s1
noncomputable def f34 (N : Nat) (r1 : Nat) (s : gI) : Option (gI) :=
    ib1 (0 : Int) <|
    let s1 : gI := (iw s 4 5 (0 : Int))
    f34_at7 N r1 N (0 : Int) s1
/-! GutterNine$LawReader.takeJoin -/
noncomputable def f33_at109 (N : Nat) (r1 : Nat) (x2 : Int) (s : gI) : Option (Int × gI) :=
    i_o1 (f36 N x2 s) fun s1 =>
    ib1 (1 : Int) <|
    let s2 : gI := (iw s1 4 5 (1 : Int))
    ib1 (1 : Int) <|
    some ((1 : Int), s2)
noncomputable def f33_at84 (N : Nat) (r1 : Nat) (x2 : Int) (x3 : Int) (z0 : Int) (s : gI) : Option (Int × gI) :=
    i_o1 (f35 N r1 z0 s) fun s1 =>
    if x3 = (2 : Int) then
      i_o2 (f38 N s1) fun i3 s2 =>
      if i3 = (2 : Int) then
        i_o2 (f104 N (1 : Int) s2) fun i5 s4 =>
        ib1 i5 <|
        some (i5, s4)
      else
        f33_at109 N r1 x2 s2
    else
      f33_at109 N r1 x2 s1
noncomputable def f33_at23 (N : Nat) (r1 : Nat) (x2 : Int) (s : gI) : Option (Int × gI) :=
    if x2 = (10012 : Int) then
      i_o1 (f35 N r1 (1 : Int) s) fun s3 =>
      i_o1 (f37 N s3) fun s4 =>
      iov ((s4.1 4 3) - (1 : Int)) <|
      let s5 : gI := (iw s4 4 3 ((s4.1 4 3) - (1 : Int)))
      iov ((s5.1 4 4) - (1 : Int)) <|
      let s6 : gI := (iw s5 4 4 ((s5.1 4 4) - (1 : Int)))
      i_o1 (f34 N r1 s6) fun s7 =>
      ib1 (1 : Int) <|
      some ((1 : Int), s7)
    else
      i_o2 (f39 N x2 s) fun i2 s1 =>
      if i2 = (2 : Int) then
        f33_at84 N r1 x2 i2 (3 : Int) s1
      else
        f33_at84 N r1 x2 i2 i2 s1
noncomputable def f33 (N : Nat) (r1 : Nat) (x2 : Int) (s : gI) : Option (Int × gI) :=
    if x2 = (10012 : Int) then
      if (s.1 4 3) = 0 then
        i_o2 (f104 N (1 : Int) s) fun i2 s1 =>
        ib1 i2 <|
        some (i2, s1)
      else
        f33_at23 N r1 x2 s
    else
      f33_at23 N r1 x2 s
/-! GutterNine$LawReader.takePart -/
noncomputable def f32_at58 (N : Nat) (r1 : Nat) (x2 : Int) (z0 : Int) (z1 : Int) (s : gI) : Option (Int × gI) :=
    iov (z1 + z0) <|
    let s1 : gI := (iw s 4 3 (z1 + z0))
    i_o1 (f36 N x2 s1) fun s2 =>
    ib1 (1 : Int) <|
    some ((1 : Int), s2)
noncomputable def f32_at31 (N : Nat) (r1 : Nat) (x2 : Int) (s : gI) : Option (Int × gI) :=
    iov ((s.1 4 4) + (1 : Int)) <|
    let s1 : gI := (iw s 4 4 ((s.1 4 4) + (1 : Int)))
    if x2 = (10011 : Int) then
      f32_at58 N r1 x2 (1 : Int) (s1.1 4 3) s1
    else
      f32_at58 N r1 x2 (0 : Int) (s1.1 4 3) s1
noncomputable def f32 (N : Nat) (r1 : Nat) (x2 : Int) (s : gI) : Option (Int × gI) :=
    if (s.1 4 4) < (5 : Int) then
      if x2 = (10003 : Int) then
        f32_at31 N r1 x2 s
      else
        if x2 = (10011 : Int) then
          f32_at31 N r1 x2 s
        else
          i_o1 (f23 N r1 x2 s) fun s1 =>
          i_o1 (f34 N r1 s1) fun s2 =>
          ib1 (1 : Int) <|
          some ((1 : Int), s2)
    else
      i_o2 (f104 N (5 : Int) s) fun i4 s3 =>
      ib1 i4 <|
      some (i4, s3)
/-! GutterNine$LawReader.partCode -/
noncomputable def f30 (N : Nat) (s : gI) : Option (Int × gI) :=
    if (s.1 1 2) = (3 : Int) then
      some ((s.1 1 5), s)
    else
      i_o2 (f101 N 1016 4 s) fun i2 s1 =>
      if i2 = 0 then
        i_o2 (f101 N 1018 5 s1) fun i4 s3 =>
        if i4 = 0 then
          i_o2 (f101 N 1020 4 s3) fun i6 s5 =>
          if i6 = 0 then
            i_o2 (f101 N 1022 3 s5) fun i8 s7 =>
            if i8 = 0 then
              i_o2 (f100 N (40 : Int) s7) fun i10 s9 =>
              if i10 = 0 then
                some ((-1 : Int), s9)
              else
                some ((10011 : Int), s9)
            else
              some ((10003 : Int), s7)
          else
            some ((10002 : Int), s5)
        else
          some ((10001 : Int), s3)
      else
        some ((10000 : Int), s1)
/-! GutterNine$LawReader.read -/
noncomputable def f29_at115 (N : Nat) (r1 : Nat) (r_at26 : Int → gI → Option (Int × gI)) (x2 : Int) (z0 : Int) (s : gI) : Option (Int × gI) :=
    if z0 = 0 then
      ib1 (0 : Int) <|
      some ((0 : Int), s)
    else
      i_o1 (f97 N s) fun s1 =>
      iov (x2 + (1 : Int)) <|
      let i2 : Int := (x2 + (1 : Int))
      r_at26 i2 s1
noncomputable def f29_at79 (N : Nat) (r1 : Nat) (r_at26 : Int → gI → Option (Int × gI)) (x2 : Int) (x3 : Int) (s : gI) : Option (Int × gI) :=
    if x3 = (-1 : Int) then
      i_o2 (f104 N (1 : Int) s) fun i6 s5 =>
      ib1 i6 <|
      some (i6, s5)
    else
      if (s.1 4 5) = 0 then
        i_o2 (f33 N r1 x3 s) fun i2 s1 =>
        f29_at115 N r1 r_at26 x2 i2 s1
      else
        i_o2 (f32 N r1 x3 s) fun i4 s3 =>
        f29_at115 N r1 r_at26 x2 i4 s3
noncomputable def f29_at51 (N : Nat) (r1 : Nat) (r_at26 : Int → gI → Option (Int × gI)) (x2 : Int) (z0 : Int) (s : gI) : Option (Int × gI) :=
    if z0 = (-1 : Int) then
      if (s.1 4 5) = 0 then
        if (s.1 4 3) = 0 then
          i_o1 (f35 N r1 (1 : Int) s) fun s1 =>
          ib1 (1 : Int) <|
          some ((1 : Int), s1)
        else
          f29_at79 N r1 r_at26 x2 z0 s
      else
        f29_at79 N r1 r_at26 x2 z0 s
    else
      f29_at79 N r1 r_at26 x2 z0 s
noncomputable def f29_at26 (N : Nat) (r1 : Nat) : Nat → Int → gI → Option (Int × gI)
  | 0, _, _ => none
  | n + 1, x2, s =>
    if (1000 : Int) < x2 then
      i_o2 (f104 N (1 : Int) s) fun i2 s1 =>
      ib1 i2 <|
      some (i2, s1)
    else
      if (s.1 4 5) = 0 then
        i_o2 (f31 N s) fun i4 s3 =>
        f29_at51 N r1 (f29_at26 N r1 n) x2 i4 s3
      else
        i_o2 (f30 N s) fun i6 s5 =>
        f29_at51 N r1 (f29_at26 N r1 n) x2 i6 s5
noncomputable def f29 (N : Nat) (r1 : Nat) (s : gI) : Option (Int × gI) :=
    i_o1 (f22 N r1 s) fun s1 =>
    let s2 : gI := (iw s1 4 2 (0 : Int))
    let s3 : gI := (iw s2 4 3 (0 : Int))
    let s4 : gI := (iw s3 4 4 (0 : Int))
    ib1 (1 : Int) <|
    let s5 : gI := (iw s4 4 5 (1 : Int))
    f29_at26 N r1 N (0 : Int) s5
/-! GutterNine$YardReader.takeFirst -/
noncomputable def f128 (N : Nat) (s : gI) : Option (Int × gI) :=
    i_o2 (f107 N (0 : Int) (6 : Int) s) fun i2 s1 =>
    if i2 = 0 then
      ib1 (0 : Int) <|
      some ((0 : Int), s1)
    else
      let s3 : gI := (iw s1 47 16 (s1.1 1 6))
      ib1 (1 : Int) <|
      some ((1 : Int), s3)
/-! GutterNine$YardReader.takeWindow -/
noncomputable def f127 (N : Nat) (s : gI) : Option (Int × gI) :=
    i_o2 (f107 N (0 : Int) (7 : Int) s) fun i2 s1 =>
    if i2 = 0 then
      ib1 (0 : Int) <|
      some ((0 : Int), s1)
    else
      let s3 : gI := (iw s1 47 13 (s1.1 1 6))
      i_o2 (f107 N (0 : Int) (7 : Int) s3) fun i5 s4 =>
      if i5 = 0 then
        ib1 (0 : Int) <|
        some ((0 : Int), s4)
      else
        let s6 : gI := (iw s4 47 14 (s4.1 1 6))
        i_o2 (f105 N 1066 5 s6) fun i8 s7 =>
        if i8 = 0 then
          ib1 (0 : Int) <|
          some ((0 : Int), s7)
        else
          i_o2 (f107 N (0 : Int) (8 : Int) s7) fun i10 s9 =>
          if i10 = 0 then
            ib1 (0 : Int) <|
            some ((0 : Int), s9)
          else
            let s11 : gI := (iw s9 47 15 (s9.1 1 6))
            ib1 (1 : Int) <|
            some ((1 : Int), s11)
/-! GutterNine$YardReader.takeNet -/
noncomputable def f126 (N : Nat) (s : gI) : Option (Int × gI) :=
    i_o2 (f107 N (0 : Int) (12 : Int) s) fun i2 s1 =>
    if i2 = 0 then
      ib1 (0 : Int) <|
      some ((0 : Int), s1)
    else
      let s3 : gI := (iw s1 47 12 (s1.1 1 6))
      ib1 (1 : Int) <|
      some ((1 : Int), s3)
/-! GutterNine$YardReader.takeShot -/
noncomputable def f125_at111 (N : Nat) (x2 : Int) (z0 : Int) (z1 : Int) (s : gI) : Option (Int × gI) :=
    ick z1 6 <|
    let s1 : gI := (iw s 54 z1 z0)
    i_o2 (f105 N 1062 2 s1) fun i3 s2 =>
    if i3 = 0 then
      ib1 (0 : Int) <|
      some ((0 : Int), s2)
    else
      i_o2 (f107 N (1 : Int) (12 : Int) s2) fun i5 s4 =>
      if i5 = 0 then
        ib1 (0 : Int) <|
        some ((0 : Int), s4)
      else
        ick x2 6 <|
        let s6 : gI := (iw s4 55 x2 (s4.1 1 6))
        i_o2 (f105 N 1064 5 s6) fun i8 s7 =>
        if i8 = 0 then
          ib1 (0 : Int) <|
          some ((0 : Int), s7)
        else
          i_o2 (f107 N (1 : Int) (99 : Int) s7) fun i10 s9 =>
          if i10 = 0 then
            ib1 (0 : Int) <|
            some ((0 : Int), s9)
          else
            ick x2 6 <|
            let s11 : gI := (iw s9 56 x2 (s9.1 1 6))
            iov ((s11.1 47 8) + (1 : Int)) <|
            let s12 : gI := (iw s11 47 8 ((s11.1 47 8) + (1 : Int)))
            ib1 (1 : Int) <|
            some ((1 : Int), s12)
noncomputable def f125_at62 (N : Nat) (x2 : Int) (x3 : Int) (s : gI) : Option (Int × gI) :=
    i_o1 (f97 N s) fun s1 =>
    i_o2 (f107 N (0 : Int) (8 : Int) s1) fun i3 s2 =>
    if i3 = 0 then
      ib1 (0 : Int) <|
      some ((0 : Int), s2)
    else
      if x3 = 0 then
        f125_at111 N x2 (s2.1 1 6) x2 s2
      else
        iov (-(s2.1 1 6)) <|
        f125_at111 N x2 (-(s2.1 1 6)) x2 s2
noncomputable def f125 (N : Nat) (s : gI) : Option (Int × gI) :=
    let i1 : Int := (s.1 47 8)
    if i1 < (6 : Int) then
      i_o1 (f97 N s) fun s2 =>
      i_o2 (f101 N 1058 4 s2) fun i4 s3 =>
      if i4 = 0 then
        i_o2 (f101 N 1060 5 s3) fun i6 s5 =>
        if i6 = 0 then
          i_o2 (f104 N (1 : Int) s5) fun i8 s7 =>
          ib1 i8 <|
          some (i8, s7)
        else
          f125_at62 N i1 i4 s5
      else
        f125_at62 N i1 i4 s3
    else
      i_o2 (f104 N (5 : Int) s) fun i10 s9 =>
      ib1 i10 <|
      some (i10, s9)
/-! GutterNine$Tape.packed -/
noncomputable def f102_at15 (N : Nat) : Nat → Int → Int → gI → Option (Int × gI)
  | 0, _, _, _ => none
  | n + 1, y1, x3, s =>
    if (s.1 1 4) ≤ x3 then
      some (y1, s)
    else
      ick x3 1000 <|
      let j1 : Int := (j_or (j_shl y1 (8 : Int)) (s.1 2 x3))
      iov (x3 + (1 : Int)) <|
      let i2 : Int := (x3 + (1 : Int))
      f102_at15 N n j1 i2 s
noncomputable def f102 (N : Nat) (s : gI) : Option (Int × gI) :=
    if (s.1 1 2) = (2 : Int) then
      let i1 : Int := (s.1 1 3)
      f102_at15 N N (0 : Int) i1 s
    else
      some ((0 : Int), s)
/-! GutterNine$YardReader.isName -/
noncomputable def f132_at299 (N : Nat) (x1 : Int) (x2 : Int) (x3 : Int) (z0 : Int) (s : gI) : Option (Int × gI) :=
    if (s.1 1 2) = (2 : Int) then
      if x1 = 0 then
        if x2 = 0 then
          if x3 = 0 then
            if z0 = 0 then
              ib1 (1 : Int) <|
              some ((1 : Int), s)
            else
              ib1 (0 : Int) <|
              some ((0 : Int), s)
          else
            ib1 (0 : Int) <|
            some ((0 : Int), s)
        else
          ib1 (0 : Int) <|
          some ((0 : Int), s)
      else
        ib1 (0 : Int) <|
        some ((0 : Int), s)
    else
      ib1 (0 : Int) <|
      some ((0 : Int), s)
noncomputable def f132_at294 (N : Nat) (x1 : Int) (x2 : Int) (x3 : Int) (s : gI) : Option (Int × gI) :=
    f132_at299 N x1 x2 x3 (1 : Int) s
noncomputable def f132_at245 (N : Nat) (x1 : Int) (x2 : Int) (z0 : Int) (s : gI) : Option (Int × gI) :=
    i_o2 (f101 N 1068 4 s) fun i2 s1 =>
    if i2 = 0 then
      i_o2 (f101 N 1070 4 s1) fun i4 s3 =>
      if i4 = 0 then
        i_o2 (f101 N 1072 7 s3) fun i6 s5 =>
        if i6 = 0 then
          i_o2 (f101 N 1074 5 s5) fun i8 s7 =>
          if i8 = 0 then
            f132_at299 N x1 x2 z0 (0 : Int) s7
          else
            f132_at294 N x1 x2 z0 s7
        else
          f132_at294 N x1 x2 z0 s5
      else
        f132_at294 N x1 x2 z0 s3
    else
      f132_at294 N x1 x2 z0 s1
noncomputable def f132_at240 (N : Nat) (x1 : Int) (x2 : Int) (s : gI) : Option (Int × gI) :=
    f132_at245 N x1 x2 (1 : Int) s
noncomputable def f132_at203 (N : Nat) (x1 : Int) (z0 : Int) (s : gI) : Option (Int × gI) :=
    i_o2 (f101 N 1076 3 s) fun i2 s1 =>
    if i2 = 0 then
      i_o2 (f101 N 1078 3 s1) fun i4 s3 =>
      if i4 = 0 then
        i_o2 (f101 N 1080 2 s3) fun i6 s5 =>
        if i6 = 0 then
          f132_at245 N x1 z0 (0 : Int) s5
        else
          f132_at240 N x1 z0 s5
      else
        f132_at240 N x1 z0 s3
    else
      f132_at240 N x1 z0 s1
noncomputable def f132_at198 (N : Nat) (x1 : Int) (s : gI) : Option (Int × gI) :=
    f132_at203 N x1 (1 : Int) s
noncomputable def f132_at101 (N : Nat) (z0 : Int) (s : gI) : Option (Int × gI) :=
    i_o2 (f101 N 1052 3 s) fun i2 s1 =>
    if i2 = 0 then
      i_o2 (f101 N 1054 2 s1) fun i4 s3 =>
      if i4 = 0 then
        i_o2 (f101 N 1056 5 s3) fun i6 s5 =>
        if i6 = 0 then
          i_o2 (f101 N 1058 4 s5) fun i8 s7 =>
          if i8 = 0 then
            i_o2 (f101 N 1060 5 s7) fun i10 s9 =>
            if i10 = 0 then
              i_o2 (f101 N 1062 2 s9) fun i12 s11 =>
              if i12 = 0 then
                i_o2 (f101 N 1064 5 s11) fun i14 s13 =>
                if i14 = 0 then
                  i_o2 (f101 N 1066 5 s13) fun i16 s15 =>
                  if i16 = 0 then
                    f132_at203 N z0 (0 : Int) s15
                  else
                    f132_at198 N z0 s15
                else
                  f132_at198 N z0 s13
              else
                f132_at198 N z0 s11
            else
              f132_at198 N z0 s9
          else
            f132_at198 N z0 s7
        else
          f132_at198 N z0 s5
      else
        f132_at198 N z0 s3
    else
      f132_at198 N z0 s1
noncomputable def f132_at96 (N : Nat) (s : gI) : Option (Int × gI) :=
    f132_at101 N (1 : Int) s
noncomputable def f132 (N : Nat) (s : gI) : Option (Int × gI) :=
    i_o2 (f101 N 1036 6 s) fun i2 s1 =>
    if i2 = 0 then
      i_o2 (f101 N 1038 5 s1) fun i4 s3 =>
      if i4 = 0 then
        i_o2 (f101 N 1040 4 s3) fun i6 s5 =>
        if i6 = 0 then
          i_o2 (f101 N 1042 3 s5) fun i8 s7 =>
          if i8 = 0 then
            i_o2 (f101 N 1044 6 s7) fun i10 s9 =>
            if i10 = 0 then
              i_o2 (f101 N 1046 5 s9) fun i12 s11 =>
              if i12 = 0 then
                i_o2 (f101 N 1048 6 s11) fun i14 s13 =>
                if i14 = 0 then
                  i_o2 (f101 N 1050 6 s13) fun i16 s15 =>
                  if i16 = 0 then
                    f132_at101 N (0 : Int) s15
                  else
                    f132_at96 N s15
                else
                  f132_at96 N s13
              else
                f132_at96 N s11
            else
              f132_at96 N s9
          else
            f132_at96 N s7
        else
          f132_at96 N s5
      else
        f132_at96 N s3
    else
      f132_at96 N s1
/-! GutterNine$Yard.personNamed -/
noncomputable def f117_at2 (N : Nat) : Nat → Int → Int → gI → Option (Int × gI)
  | 0, _, _, _ => none
  | n + 1, y1, x3, s =>
    if (s.1 47 0) ≤ x3 then
      some ((-1 : Int), s)
    else
      ick x3 4 <|
      if (i_cmp (s.2 49 x3) y1) = 0 then
        some (x3, s)
      else
        iov (x3 + (1 : Int)) <|
        let i1 : Int := (x3 + (1 : Int))
        f117_at2 N n y1 i1 s
noncomputable def f117 (N : Nat) (y1 : Int) (s : gI) : Option (Int × gI) :=
    f117_at2 N N y1 (0 : Int) s
/-! GutterNine$Yard.hasName -/
noncomputable def f118_at2 (N : Nat) : Nat → Int → Int → gI → Option (Int × gI)
  | 0, _, _, _ => none
  | n + 1, y1, x3, s =>
    if (s.1 47 3) ≤ x3 then
      i_o2 (f117 N y1 s) fun i2 s1 =>
      if i2 = (-1 : Int) then
        ib1 (0 : Int) <|
        some ((0 : Int), s1)
      else
        ib1 (1 : Int) <|
        some ((1 : Int), s1)
    else
      ick x3 8 <|
      if (i_cmp (s.2 53 x3) y1) = 0 then
        ib1 (1 : Int) <|
        some ((1 : Int), s)
      else
        iov (x3 + (1 : Int)) <|
        let i3 : Int := (x3 + (1 : Int))
        f118_at2 N n y1 i3 s
noncomputable def f118 (N : Nat) (y1 : Int) (s : gI) : Option (Int × gI) :=
    f118_at2 N N y1 (0 : Int) s
/-! GutterNine$YardReader.takeNewName -/
noncomputable def f129 (N : Nat) (s : gI) : Option (Int × gI) :=
    i_o2 (f132 N s) fun i2 s1 =>
    if i2 = 0 then
      i_o2 (f104 N (1 : Int) s1) fun i11 s10 =>
      ib1 i11 <|
      some (i11, s10)
    else
      i_o2 (f102 N s1) fun j4 s3 =>
      i_o2 (f118 N j4 s3) fun i6 s5 =>
      if i6 = 0 then
        i_o1 (f97 N s5) fun s7 =>
        ib1 (1 : Int) <|
        some ((1 : Int), s7)
      else
        i_o2 (f104 N (3 : Int) s5) fun i9 s8 =>
        ib1 i9 <|
        some (i9, s8)
/-! GutterNine$YardReader.kindHere -/
noncomputable def f131 (N : Nat) (s : gI) : Option (Int × gI) :=
    i_o2 (f101 N 1068 4 s) fun i2 s1 =>
    if i2 = 0 then
      i_o2 (f101 N 1070 4 s1) fun i4 s3 =>
      if i4 = 0 then
        i_o2 (f101 N 1072 7 s3) fun i6 s5 =>
        if i6 = 0 then
          i_o2 (f101 N 1074 5 s5) fun i8 s7 =>
          if i8 = 0 then
            some ((-1 : Int), s7)
          else
            some ((3 : Int), s7)
        else
          some ((2 : Int), s5)
      else
        some ((1 : Int), s3)
    else
      some ((0 : Int), s1)
/-! GutterNine$YardReader.takeOwner -/
noncomputable def f130 (N : Nat) (x1 : Int) (s : gI) : Option (Int × gI) :=
    i_o2 (f132 N s) fun i2 s1 =>
    if i2 = 0 then
      i_o2 (f104 N (1 : Int) s1) fun i7 s6 =>
      ib1 i7 <|
      some (i7, s6)
    else
      if x1 = (-1 : Int) then
        i_o2 (f104 N (2 : Int) s1) fun i5 s4 =>
        ib1 i5 <|
        some (i5, s4)
      else
        i_o1 (f97 N s1) fun s3 =>
        ib1 (1 : Int) <|
        some ((1 : Int), s3)
/-! GutterNine$YardReader.takeThing -/
noncomputable def f124 (N : Nat) (s : gI) : Option (Int × gI) :=
    let i1 : Int := (s.1 47 3)
    if i1 < (8 : Int) then
      i_o1 (f97 N s) fun s2 =>
      i_o2 (f102 N s2) fun j4 s3 =>
      i_o2 (f129 N s3) fun i6 s5 =>
      if i6 = 0 then
        ib1 (0 : Int) <|
        some ((0 : Int), s5)
      else
        i_o2 (f131 N s5) fun i8 s7 =>
        if i8 = (-1 : Int) then
          i_o2 (f104 N (1 : Int) s7) fun i28 s27 =>
          ib1 i28 <|
          some (i28, s27)
        else
          i_o1 (f97 N s7) fun s9 =>
          i_o2 (f105 N 1054 2 s9) fun i11 s10 =>
          if i11 = 0 then
            ib1 (0 : Int) <|
            some ((0 : Int), s10)
          else
            i_o2 (f102 N s10) fun j13 s12 =>
            i_o2 (f117 N j13 s12) fun i15 s14 =>
            i_o2 (f130 N i15 s14) fun i17 s16 =>
            if i17 = 0 then
              ib1 (0 : Int) <|
              some ((0 : Int), s16)
            else
              i_o2 (f105 N 1056 5 s16) fun i19 s18 =>
              if i19 = 0 then
                ib1 (0 : Int) <|
                some ((0 : Int), s18)
              else
                i_o2 (f107 N (0 : Int) (99 : Int) s18) fun i21 s20 =>
                if i21 = 0 then
                  ib1 (0 : Int) <|
                  some ((0 : Int), s20)
                else
                  ick i1 8 <|
                  let s22 : gI := (iwl s20 53 i1 j4)
                  ick i1 8 <|
                  let s23 : gI := (iw s22 50 i1 i8)
                  ick i1 8 <|
                  let s24 : gI := (iw s23 51 i1 i15)
                  ick i1 8 <|
                  let s25 : gI := (iw s24 52 i1 (s24.1 1 6))
                  iov ((s25.1 47 3) + (1 : Int)) <|
                  let s26 : gI := (iw s25 47 3 ((s25.1 47 3) + (1 : Int)))
                  ib1 (1 : Int) <|
                  some ((1 : Int), s26)
    else
      i_o2 (f104 N (5 : Int) s) fun i30 s29 =>
      ib1 i30 <|
      some (i30, s29)
/-! GutterNine$YardReader.takePerson -/
noncomputable def f123 (N : Nat) (s : gI) : Option (Int × gI) :=
    let i1 : Int := (s.1 47 0)
    if i1 < (4 : Int) then
      i_o1 (f97 N s) fun s2 =>
      i_o2 (f102 N s2) fun j4 s3 =>
      i_o2 (f129 N s3) fun i6 s5 =>
      if i6 = 0 then
        ib1 (0 : Int) <|
        some ((0 : Int), s5)
      else
        i_o2 (f105 N 1052 3 s5) fun i8 s7 =>
        if i8 = 0 then
          ib1 (0 : Int) <|
          some ((0 : Int), s7)
        else
          i_o2 (f107 N (0 : Int) (10 : Int) s7) fun i10 s9 =>
          if i10 = 0 then
            ib1 (0 : Int) <|
            some ((0 : Int), s9)
          else
            ick i1 4 <|
            let s11 : gI := (iwl s9 49 i1 j4)
            ick i1 4 <|
            let s12 : gI := (iw s11 48 i1 (s11.1 1 6))
            iov ((s12.1 47 0) + (1 : Int)) <|
            let s13 : gI := (iw s12 47 0 ((s12.1 47 0) + (1 : Int)))
            ib1 (1 : Int) <|
            some ((1 : Int), s13)
    else
      i_o2 (f104 N (5 : Int) s) fun i15 s14 =>
      ib1 i15 <|
      some (i15, s14)
/-! GutterNine$YardReader.takeLine -/
noncomputable def f121 (N : Nat) (s : gI) : Option (Int × gI) :=
    i_o2 (f101 N 1036 6 s) fun i2 s1 =>
    if i2 = 0 then
      i_o2 (f101 N 1038 5 s1) fun i4 s3 =>
      if i4 = 0 then
        i_o2 (f101 N 1040 4 s3) fun i6 s5 =>
        if i6 = 0 then
          i_o2 (f101 N 1042 3 s5) fun i8 s7 =>
          if i8 = 0 then
            i_o2 (f101 N 1044 6 s7) fun i10 s9 =>
            if i10 = 0 then
              i_o2 (f101 N 1046 5 s9) fun i12 s11 =>
              if i12 = 0 then
                i_o2 (f101 N 1048 6 s11) fun i14 s13 =>
                if i14 = 0 then
                  i_o2 (f101 N 1050 6 s13) fun i16 s15 =>
                  if i16 = 0 then
                    i_o2 (f104 N (1 : Int) s15) fun i18 s17 =>
                    ib1 i18 <|
                    some (i18, s17)
                  else
                    i_o2 (f122 N (16 : Int) s15) fun i20 s19 =>
                    if i20 = 0 then
                      ib1 (0 : Int) <|
                      some ((0 : Int), s19)
                    else
                      i_o2 (f29 N 60 s19) fun i22 s21 =>
                      if i22 = 0 then
                        ib1 (0 : Int) <|
                        some ((0 : Int), s21)
                      else
                        ib1 (1 : Int) <|
                        some ((1 : Int), s21)
                else
                  i_o2 (f122 N (8 : Int) s13) fun i24 s23 =>
                  if i24 = 0 then
                    ib1 (0 : Int) <|
                    some ((0 : Int), s23)
                  else
                    i_o2 (f29 N 57 s23) fun i26 s25 =>
                    if i26 = 0 then
                      ib1 (0 : Int) <|
                      some ((0 : Int), s25)
                    else
                      ib1 (1 : Int) <|
                      some ((1 : Int), s25)
              else
                i_o2 (f122 N (4 : Int) s11) fun i28 s27 =>
                if i28 = 0 then
                  ib1 (0 : Int) <|
                  some ((0 : Int), s27)
                else
                  i_o2 (f128 N s27) fun i30 s29 =>
                  if i30 = 0 then
                    ib1 (0 : Int) <|
                    some ((0 : Int), s29)
                  else
                    ib1 (1 : Int) <|
                    some ((1 : Int), s29)
            else
              i_o2 (f122 N (2 : Int) s9) fun i32 s31 =>
              if i32 = 0 then
                ib1 (0 : Int) <|
                some ((0 : Int), s31)
              else
                i_o2 (f127 N s31) fun i34 s33 =>
                if i34 = 0 then
                  ib1 (0 : Int) <|
                  some ((0 : Int), s33)
                else
                  ib1 (1 : Int) <|
                  some ((1 : Int), s33)
          else
            i_o2 (f122 N (1 : Int) s7) fun i36 s35 =>
            if i36 = 0 then
              ib1 (0 : Int) <|
              some ((0 : Int), s35)
            else
              i_o2 (f126 N s35) fun i38 s37 =>
              if i38 = 0 then
                ib1 (0 : Int) <|
                some ((0 : Int), s37)
              else
                ib1 (1 : Int) <|
                some ((1 : Int), s37)
        else
          i_o2 (f125 N s5) fun i40 s39 =>
          ib1 i40 <|
          some (i40, s39)
      else
        i_o2 (f124 N s3) fun i42 s41 =>
        ib1 i42 <|
        some (i42, s41)
    else
      i_o2 (f123 N s1) fun i44 s43 =>
      ib1 i44 <|
      some (i44, s43)
/-! GutterNine$YardReader.read -/
noncomputable def f120_at18 (N : Nat) : Nat → Int → gI → Option (Int × gI)
  | 0, _, _ => none
  | n + 1, x2, s =>
    if (1000 : Int) < x2 then
      ib1 (1 : Int) <|
      some ((1 : Int), s)
    else
      if (s.1 1 2) = 0 then
        ib1 (1 : Int) <|
        some ((1 : Int), s)
      else
        i_o2 (f121 N s) fun i2 s1 =>
        if i2 = 0 then
          ib1 (0 : Int) <|
          some ((0 : Int), s1)
        else
          i_o2 (f106 N s1) fun i4 s3 =>
          if i4 = 0 then
            ib1 (0 : Int) <|
            some ((0 : Int), s3)
          else
            iov (x2 + (1 : Int)) <|
            let i5 : Int := (x2 + (1 : Int))
            f120_at18 N n i5 s3
noncomputable def f120 (N : Nat) (s : gI) : Option (Int × gI) :=
    i_o1 (f115 N s) fun s1 =>
    let s2 : gI := (iw s1 3 2 (0 : Int))
    i_o1 (f96 N s2) fun s3 =>
    f120_at18 N N (0 : Int) s3
/-! GutterNine.yard -/
noncomputable def f136 (N : Nat) (s : gI) : Option (Int × gI × (Nat → Nat → Nat)) :=
    i_o2 (f120 N s) fun i2 s1 =>
    let s3 : gI := (iw s1 1 1 (0 : Int))
    if i2 = 0 then
      some ((s3.1 1 7), s3, g_rho)
    else
      i_o1 (f165 N s3) fun s4 =>
      some ((0 : Int), s4, i_rhoY)
/-! GutterNine$Roof.has -/
noncomputable def f78 (N : Nat) (x1 : Int) (x2 : Int) (s : gI) : Option (Int × gI) :=
    if x1 < 0 then
      ib1 (0 : Int) <|
      some ((0 : Int), s)
    else
      if (s.1 12 0) ≤ x1 then
        ib1 (0 : Int) <|
        some ((0 : Int), s)
      else
        if x2 < 0 then
          ib1 (0 : Int) <|
          some ((0 : Int), s)
        else
          if (s.1 12 1) ≤ x2 then
            ib1 (0 : Int) <|
            some ((0 : Int), s)
          else
            ib1 (1 : Int) <|
            some ((1 : Int), s)
/-! GutterNine.tile -/
noncomputable def f137 (N : Nat) (x1 : Int) (x2 : Int) (x3 : Int) (s : gI) : Option (Int × gI) :=
    i_o2 (f78 N x1 x2 s) fun i2 s1 =>
    if i2 = 0 then
      some ((-1 : Int), s1)
    else
      iov (x2 * (8 : Int)) <|
      iov ((x2 * (8 : Int)) + x1) <|
      let i3 : Int := ((x2 * (8 : Int)) + x1)
      if x3 = 0 then
        ick i3 64 <|
        some ((s1.1 13 i3), s1)
      else
        if x3 = (1 : Int) then
          ick i3 64 <|
          some ((s1.1 9 i3), s1)
        else
          some ((-1 : Int), s1)
/-! GutterNine.isThing -/
noncomputable def f167 (N : Nat) (x1 : Int) (s : gI) : Option (Int × gI) :=
    if x1 < 0 then
      ib1 (0 : Int) <|
      some ((0 : Int), s)
    else
      if (s.1 15 3) ≤ x1 then
        ib1 (0 : Int) <|
        some ((0 : Int), s)
      else
        ib1 (1 : Int) <|
        some ((1 : Int), s)
/-! GutterNine.told -/
noncomputable def f171 (N : Nat) (x0 : Int) (s : gI) : Option (Int × gI) :=
    if x0 < (128 : Int) then
      some (x0, s)
    else
      some ((66 : Int), s)
/-! GutterNine.thing -/
noncomputable def f138 (N : Nat) (x1 : Int) (x2 : Int) (s : gI) : Option (Int × gI) :=
    i_o2 (f167 N x1 s) fun i2 s1 =>
    if i2 = 0 then
      some ((-1 : Int), s1)
    else
      if x2 = 0 then
        ick x1 8 <|
        some ((s1.1 18 x1), s1)
      else if x2 = 1 then
        ick x1 8 <|
        some ((s1.1 19 x1), s1)
      else if x2 = 2 then
        ick x1 8 <|
        some ((s1.1 20 x1), s1)
      else if x2 = 3 then
        ick x1 8 <|
        i_o2 (f171 N (s1.1 7 x1) s1) fun i4 s3 =>
        some (i4, s3)
      else if x2 = 4 then
        ick x1 8 <|
        some ((s1.1 8 x1), s1)
      else 
        some ((-1 : Int), s1)
/-! GutterNine.isPerson -/
noncomputable def f166 (N : Nat) (x1 : Int) (s : gI) : Option (Int × gI) :=
    if x1 < 0 then
      ib1 (0 : Int) <|
      some ((0 : Int), s)
    else
      if (s.1 15 0) ≤ x1 then
        ib1 (0 : Int) <|
        some ((0 : Int), s)
      else
        ib1 (1 : Int) <|
        some ((1 : Int), s)
/-! GutterNine.arm -/
noncomputable def f139 (N : Nat) (x1 : Int) (s : gI) : Option (Int × gI) :=
    i_o2 (f166 N x1 s) fun i2 s1 =>
    if i2 = 0 then
      some ((-1 : Int), s1)
    else
      ick x1 4 <|
      some ((s1.1 16 x1), s1)
/-! GutterNine.canThrow -/
noncomputable def f169 (N : Nat) (x1 : Int) (x2 : Int) (x3 : Int) (x4 : Int) (s : gI) : Option (Int × gI) :=
    i_o2 (f166 N x1 s) fun i2 s1 =>
    if i2 = 0 then
      ib1 (0 : Int) <|
      some ((0 : Int), s1)
    else
      i_o2 (f167 N x2 s1) fun i4 s3 =>
      if i4 = 0 then
        ib1 (0 : Int) <|
        some ((0 : Int), s3)
      else
        i_o2 (f78 N x3 x4 s3) fun i6 s5 =>
        if i6 = 0 then
          ib1 (0 : Int) <|
          some ((0 : Int), s5)
        else
          ick x2 8 <|
          if (s5.1 7 x2) = (64 : Int) then
            ib1 (1 : Int) <|
            some ((1 : Int), s5)
          else
            ib1 (0 : Int) <|
            some ((0 : Int), s5)
/-! GutterNine$Scene.save -/
noncomputable def f90 (N : Nat) (r1 : Nat) (zn : Int) (x2 : Int) (s : gI) : Option (gI) :=
    iov (x2 * (26 : Int)) <|
    let i1 : Int := (x2 * (26 : Int))
    icp (0 : Int) i1 (8 : Int) 8 zn <|
    let s2 : gI := (icw s 7 r1 (0 : Int) i1 (8 : Int))
    iov (i1 + (8 : Int)) <|
    icp (0 : Int) (i1 + (8 : Int)) (8 : Int) 8 zn <|
    let s3 : gI := (icw s2 8 r1 (0 : Int) (i1 + (8 : Int)) (8 : Int))
    iov (i1 + (16 : Int)) <|
    icp (0 : Int) (i1 + (16 : Int)) (8 : Int) 8 zn <|
    let s4 : gI := (icw s3 10 r1 (0 : Int) (i1 + (16 : Int)) (8 : Int))
    iov (i1 + (24 : Int)) <|
    ick (i1 + (24 : Int)) zn <|
    let s5 : gI := (iw s4 r1 (i1 + (24 : Int)) (s4.1 6 4))
    iov (i1 + (25 : Int)) <|
    ick (i1 + (25 : Int)) zn <|
    let s6 : gI := (iw s5 r1 (i1 + (25 : Int)) (s5.1 6 5))
    some s6
/-! GutterNine$Past.remember -/
noncomputable def f42 (N : Nat) (s : gI) : Option (gI) :=
    i_o1 (f90 N 42 416 (s.1 41 3) s) fun s1 =>
    iov ((s1.1 41 3) + (1 : Int)) <|
    idv ((s1.1 41 3) + (1 : Int)) (16 : Int) <|
    let s2 : gI := (iw s1 41 3 (((s1.1 41 3) + (1 : Int)) % (16 : Int)))
    iov ((s2.1 41 4) + (1 : Int)) <|
    let s3 : gI := (iw s2 41 4 (if ((s2.1 41 4) + (1 : Int)) < (16 : Int) then ((s2.1 41 4) + (1 : Int)) else (16 : Int)))
    some s3
/-! GutterNine$Roof.landing -/
noncomputable def f83 (N : Nat) (r3 : Nat) (x1 : Int) (x2 : Int) (s : gI) : Option (Int × gI) :=
    if x1 < 0 then
      some ((64 : Int), s)
    else
      if (s.1 12 0) ≤ x1 then
        some ((64 : Int), s)
      else
        if x2 < (s.1 12 1) then
          if 0 ≤ x2 then
            iov (x2 * (8 : Int)) <|
            iov ((x2 * (8 : Int)) + x1) <|
            let i1 : Int := ((x2 * (8 : Int)) + x1)
            ick i1 64 <|
            if (s.1 13 i1) = (8 : Int) then
              some ((64 : Int), s)
            else
              ick i1 64 <|
              if (s.1 13 i1) = (7 : Int) then
                ick i1 64 <|
                if 0 ≤ (s.1 r3 i1) then
                  some ((64 : Int), s)
                else
                  iov ((128 : Int) + i1) <|
                  some (((128 : Int) + i1), s)
              else
                some (i1, s)
          else
            some ((65 : Int), s)
        else
          some ((64 : Int), s)
/-! GutterNine$Scene.cellOf -/
noncomputable def f89 (N : Nat) (x0 : Int) (s : gI) : Option (Int × gI) :=
    if x0 < (128 : Int) then
      if (64 : Int) ≤ x0 then
        some ((-1 : Int), s)
      else
        some (x0, s)
    else
      iov (x0 - (128 : Int)) <|
      some ((x0 - (128 : Int)), s)
/-! GutterNine$Scene.put -/
noncomputable def f88_at22 (N : Nat) (x1 : Int) (x2 : Int) (s : gI) : Option (gI) :=
    ick x1 8 <|
    let s1 : gI := (iw s 7 x1 x2)
    i_o2 (f89 N x2 s1) fun i3 s2 =>
    if i3 = (-1 : Int) then
      some s2
    else
      ick i3 64 <|
      let s4 : gI := (iw s2 9 i3 x1)
      some s4
noncomputable def f88 (N : Nat) (x1 : Int) (x2 : Int) (s : gI) : Option (gI) :=
    ick x1 8 <|
    i_o2 (f89 N (s.1 7 x1) s) fun i2 s1 =>
    if i2 = (-1 : Int) then
      f88_at22 N x1 x2 s1
    else
      ick i2 64 <|
      let s3 : gI := (iw s1 9 i2 (-1 : Int))
      f88_at22 N x1 x2 s3
/-! GutterNine$Play.stepsOf -/
noncomputable def f53 (N : Nat) (x1 : Int) (s : gI) : Option (Int × gI) :=
    ick x1 8 <|
    let i1 : Int := (s.1 18 x1)
    if i1 = 0 then
      some ((64 : Int), s)
    else
      if i1 = (2 : Int) then
        some ((1 : Int), s)
      else
        some ((0 : Int), s)
/-! GutterNine$Roof.step -/
noncomputable def f82_at48 (N : Nat) (r3 : Nat) (x1 : Int) (x4 : Int) (x5 : Int) (s : gI) : Option (Int × gI) :=
    if 0 ≤ x5 then
      if x4 < 0 then
        some ((64 : Int), s)
      else
        if (s.1 12 0) ≤ x4 then
          some ((64 : Int), s)
        else
          if x5 < (s.1 12 1) then
            iov (x5 * (8 : Int)) <|
            iov ((x5 * (8 : Int)) + x4) <|
            let i1 : Int := ((x5 * (8 : Int)) + x4)
            ick i1 64 <|
            if (s.1 13 i1) = (7 : Int) then
              ick i1 64 <|
              if 0 ≤ (s.1 r3 i1) then
                some ((64 : Int), s)
              else
                iov ((128 : Int) + i1) <|
                some (((128 : Int) + i1), s)
            else
              ick i1 64 <|
              if (s.1 13 i1) = (8 : Int) then
                some (x1, s)
              else
                ick i1 64 <|
                if (s.1 r3 i1) < 0 then
                  some (i1, s)
                else
                  some (x1, s)
          else
            some ((64 : Int), s)
    else
      some ((65 : Int), s)
noncomputable def f82_at45 (N : Nat) (r3 : Nat) (x1 : Int) (x5 : Int) (z0 : Int) (z1 : Int) (s : gI) : Option (Int × gI) :=
    iov (z1 + z0) <|
    let i1 : Int := (z1 + z0)
    f82_at48 N r3 x1 i1 x5 s
noncomputable def f82 (N : Nat) (r3 : Nat) (x1 : Int) (x2 : Int) (s : gI) : Option (Int × gI) :=
    idv x1 (8 : Int) <|
    let i1 : Int := (x1 % (8 : Int))
    idv x1 (8 : Int) <|
    let i2 : Int := (x1 / (8 : Int))
    if x2 = 0 then
      iov (i2 + (1 : Int)) <|
      let i4 : Int := (i2 + (1 : Int))
      f82_at48 N r3 x1 i1 i4 s
    else
      if x2 = (1 : Int) then
        iov (i2 + (-1 : Int)) <|
        let i3 : Int := (i2 + (-1 : Int))
        f82_at48 N r3 x1 i1 i3 s
      else
        if x2 = (2 : Int) then
          f82_at45 N r3 x1 i2 (-1 : Int) i1 s
        else
          f82_at45 N r3 x1 i2 (1 : Int) i1 s
/-! GutterNine$Roof.rest -/
noncomputable def f84_at11 (N : Nat) (r3 : Nat) : Nat → Int → Int → Int → Int → gI → Option (Int × gI)
  | 0, _, _, _, _, _ => none
  | n + 1, x2, y4, x6, x7, s =>
    if x2 ≤ x7 then
      some (x6, s)
    else
      ick x6 64 <|
      iov ((s.1 13 x6) - (1 : Int)) <|
      let i1 : Int := ((s.1 13 x6) - (1 : Int))
      if i1 < 0 then
        some (x6, s)
      else
        if i1 ≤ (3 : Int) then
          i_o2 (f82 N r3 x6 i1 s) fun i3 s2 =>
          if i3 < (64 : Int) then
            if (i_cmp (j_and (j_ushr y4 i3) (1 : Int)) (0 : Int)) = 0 then
              let j4 : Int := (j_or y4 (j_shl (1 : Int) i3))
              iov (x7 + (1 : Int)) <|
              let i5 : Int := (x7 + (1 : Int))
              f84_at11 N r3 n x2 j4 i3 i5 s2
            else
              some (x6, s2)
          else
            some (i3, s2)
        else
          some (x6, s)
noncomputable def f84 (N : Nat) (r3 : Nat) (x1 : Int) (x2 : Int) (s : gI) : Option (Int × gI) :=
    let j1 : Int := (j_shl (1 : Int) x1)
    f84_at11 N r3 N x2 j1 x1 (0 : Int) s
/-! GutterNine$Play.pushed -/
noncomputable def f51_at5 (N : Nat) : Nat → Int → Int → Int → gI → Option (Int × gI)
  | 0, _, _, _, _ => none
  | n + 1, x2, x3, x4, s =>
    if x2 ≤ x4 then
      some (x3, s)
    else
      if (64 : Int) ≤ x3 then
        some (x3, s)
      else
        i_o2 (f82 N 9 x3 (0 : Int) s) fun i2 s1 =>
        if i2 = x3 then
          some (x3, s1)
        else
          iov (x4 + (1 : Int)) <|
          let i3 : Int := (x4 + (1 : Int))
          f51_at5 N n x2 i2 i3 s1
noncomputable def f51 (N : Nat) (x1 : Int) (x2 : Int) (s : gI) : Option (Int × gI) :=
    f51_at5 N N x2 x1 (0 : Int) s
/-! GutterNine$Play.moveOn -/
noncomputable def f52 (N : Nat) (x1 : Int) (x2 : Int) (s : gI) : Option (gI) :=
    i_o1 (f88 N x1 x2 s) fun s1 =>
    if (64 : Int) ≤ x2 then
      some s1
    else
      i_o2 (f53 N x1 s1) fun i3 s2 =>
      i_o2 (f84 N 9 x2 i3 s2) fun i5 s4 =>
      i_o1 (f88 N x1 i5 s4) fun s6 =>
      some s6
/-! GutterNine$Play.land -/
noncomputable def f49_at140 (N : Nat) (x1 : Int) (x4 : Int) (x5 : Int) (s : gI) : Option (Int × gI) :=
    i_o1 (f88 N x1 x4 s) fun s1 =>
    some (x5, s1)
noncomputable def f49_at110 (N : Nat) (x1 : Int) (x4 : Int) (x5 : Int) (s : gI) : Option (Int × gI) :=
    if (64 : Int) ≤ x4 then
      f49_at140 N x1 x4 x5 s
    else
      i_o2 (f53 N x1 s) fun i2 s1 =>
      i_o2 (f84 N 9 x4 i2 s1) fun i4 s3 =>
      f49_at140 N x1 i4 x5 s3
noncomputable def f49_at108 (N : Nat) (x1 : Int) (x5 : Int) (z0 : Int) (s : gI) : Option (Int × gI) :=
    f49_at110 N x1 z0 x5 s
noncomputable def f49_at88 (N : Nat) (x1 : Int) (x4 : Int) (x5 : Int) (s : gI) : Option (Int × gI) :=
    ick x4 64 <|
    if (s.1 9 x4) < 0 then
      f49_at108 N x1 x5 x4 s
    else
      f49_at108 N x1 x5 (64 : Int) s
noncomputable def f49_at68 (N : Nat) (x1 : Int) (x4 : Int) (x5 : Int) (z0 : Int) (z1 : Int) (s : gI) : Option (Int × gI) :=
    i_o2 (f51 N z1 z0 s) fun i2 s1 =>
    if i2 = x4 then
      f49_at88 N x1 x4 x5 s1
    else
      i_o1 (f52 N x5 i2 s1) fun s3 =>
      f49_at88 N x1 x4 x5 s3
noncomputable def f49_at39 (N : Nat) (x1 : Int) (x4 : Int) (z0 : Int) (s : gI) : Option (Int × gI) :=
    if z0 = (-1 : Int) then
      f49_at110 N x1 x4 z0 s
    else
      ick x1 8 <|
      if (s.1 18 x1) = (3 : Int) then
        f49_at68 N x1 x4 z0 (2 : Int) x4 s
      else
        f49_at68 N x1 x4 z0 (1 : Int) x4 s
noncomputable def f49 (N : Nat) (x1 : Int) (x2 : Int) (x3 : Int) (s : gI) : Option (Int × gI) :=
    i_o2 (f83 N 9 x2 x3 s) fun i2 s1 =>
    if (64 : Int) ≤ i2 then
      f49_at39 N x1 i2 (-1 : Int) s1
    else
      ick i2 64 <|
      f49_at39 N x1 i2 (s1.1 9 i2) s1
/-! GutterNine.toss -/
noncomputable def f140 (N : Nat) (x1 : Int) (x2 : Int) (x3 : Int) (x4 : Int) (x5 : Int) (s : gI) : Option (Int × gI) :=
    i_o2 (f169 N x1 x2 x3 x4 s) fun i2 s1 =>
    if i2 = 0 then
      some ((-1 : Int), s1)
    else
      if x5 < 0 then
        some ((-1 : Int), s1)
      else
        if x5 < (9 : Int) then
          i_o1 (f42 N s1) fun s3 =>
          ick x2 8 <|
          let s4 : gI := (iw s3 8 x2 x1)
          ick x5 9 <|
          iov (x3 + (i_c 1000 x5)) <|
          ick x5 9 <|
          iov (x4 + (i_c 1001 x5)) <|
          i_o2 (f49 N x2 (x3 + (i_c 1000 x5)) (x4 + (i_c 1001 x5)) s4) fun i6 s5 =>
          ick x2 8 <|
          i_o2 (f171 N (s5.1 7 x2) s5) fun i8 s7 =>
          some (i8, s7)
        else
          some ((-1 : Int), s1)
/-! GutterNine.isRow -/
noncomputable def f168 (N : Nat) (x1 : Int) (s : gI) : Option (Int × gI) :=
    if x1 < 0 then
      ib1 (0 : Int) <|
      some ((0 : Int), s)
    else
      if (s.1 12 1) ≤ x1 then
        ib1 (0 : Int) <|
        some ((0 : Int), s)
      else
        ib1 (1 : Int) <|
        some ((1 : Int), s)
/-! GutterNine$Play.nearestPipe -/
noncomputable def f55_at43 (N : Nat) (r_at5 : Int → Int → Int → Int → gI → Option (Int × gI)) (x1 : Int) (x2 : Int) (x3 : Int) (x4 : Int) (z0 : Int) (s : gI) : Option (Int × gI) :=
    iov (x2 * (8 : Int)) <|
    iov ((x2 * (8 : Int)) + x4) <|
    ick ((x2 * (8 : Int)) + x4) 64 <|
    if (s.1 13 ((x2 * (8 : Int)) + x4)) = (7 : Int) then
      if z0 = 0 then
        iov (x4 + (1 : Int)) <|
        let i2 : Int := (x4 + (1 : Int))
        r_at5 x1 x2 x3 i2 s
      else
        iov (x4 + (1 : Int)) <|
        let i3 : Int := (x4 + (1 : Int))
        r_at5 x1 x2 x4 i3 s
    else
      iov (x4 + (1 : Int)) <|
      let i1 : Int := (x4 + (1 : Int))
      r_at5 x1 x2 x3 i1 s
noncomputable def f55_at38 (N : Nat) (r_at5 : Int → Int → Int → Int → gI → Option (Int × gI)) (x1 : Int) (x2 : Int) (x3 : Int) (x4 : Int) (s : gI) : Option (Int × gI) :=
    f55_at43 N r_at5 x1 x2 x3 x4 (1 : Int) s
noncomputable def f55_at5 (N : Nat) : Nat → Int → Int → Int → Int → gI → Option (Int × gI)
  | 0, _, _, _, _, _ => none
  | n + 1, x1, x2, x3, x4, s =>
    if (s.1 12 0) ≤ x4 then
      some (x3, s)
    else
      if x3 = (-1 : Int) then
        f55_at38 N (f55_at5 N n) x1 x2 x3 x4 s
      else
        iov (x4 - x1) <|
        iov (0 - (x4 - x1)) <|
        iov (x3 - x1) <|
        iov (0 - (x3 - x1)) <|
        if (if 0 ≤ (x3 - x1) then (x3 - x1) else 0 - (x3 - x1)) ≤ (if 0 ≤ (x4 - x1) then (x4 - x1) else 0 - (x4 - x1)) then
          f55_at43 N (f55_at5 N n) x1 x2 x3 x4 (0 : Int) s
        else
          f55_at38 N (f55_at5 N n) x1 x2 x3 x4 s
noncomputable def f55 (N : Nat) (x1 : Int) (x2 : Int) (s : gI) : Option (Int × gI) :=
    f55_at5 N N x1 x2 (-1 : Int) (0 : Int) s
/-! GutterNine$Play.wash -/
noncomputable def f56_at104 (N : Nat) (x1 : Int) (x3 : Int) (x5 : Int) (s : gI) : Option (Int × gI) :=
    i_o1 (f88 N x3 x5 s) fun s1 =>
    if x5 = x1 then
      ib1 (0 : Int) <|
      some ((0 : Int), s1)
    else
      ib1 (1 : Int) <|
      some ((1 : Int), s1)
noncomputable def f56_at94 (N : Nat) (r_at28 : Int → Int → Int → Int → Int → gI → Option (Int × gI)) (x1 : Int) (x3 : Int) (x4 : Int) (x6 : Int) (x7 : Int) (s : gI) : Option (Int × gI) :=
    iov (x6 + (1 : Int)) <|
    let i1 : Int := (x6 + (1 : Int))
    r_at28 x1 x3 x4 x7 i1 s
noncomputable def f56_at28 (N : Nat) : Nat → Int → Int → Int → Int → Int → gI → Option (Int × gI)
  | 0, _, _, _, _, _, _ => none
  | n + 1, x1, x3, x4, x5, x6, s =>
    if (8 : Int) ≤ x6 then
      f56_at104 N x1 x3 x5 s
    else
      if (64 : Int) ≤ x5 then
        f56_at104 N x1 x3 x5 s
      else
        i_o2 (f82 N 9 x5 x4 s) fun i2 s1 =>
        if i2 = x5 then
          f56_at104 N x1 x3 x5 s1
        else
          if (64 : Int) ≤ i2 then
            f56_at94 N (f56_at28 N n) x1 x3 x4 x6 i2 s1
          else
            ick i2 64 <|
            if (s1.1 13 i2) = (6 : Int) then
              f56_at94 N (f56_at28 N n) x1 x3 x4 x6 i2 s1
            else
              f56_at104 N x1 x3 x5 s1
noncomputable def f56_at20 (N : Nat) (x1 : Int) (x3 : Int) (z0 : Int) (s : gI) : Option (Int × gI) :=
    f56_at28 N N x1 x3 z0 x1 (0 : Int) s
noncomputable def f56 (N : Nat) (x1 : Int) (x2 : Int) (s : gI) : Option (Int × gI) :=
    ick x1 64 <|
    let i1 : Int := (s.1 9 x1)
    if x1 ≤ x2 then
      f56_at20 N x1 i1 (3 : Int) s
    else
      f56_at20 N x1 i1 (2 : Int) s
/-! GutterNine$Play.washRow -/
noncomputable def f54_at76 (N : Nat) (r_at13 : Int → Int → Int → Int → gI → Option (Int × gI)) (x1 : Int) (x2 : Int) (x3 : Int) (x4 : Int) (x5 : Int) (x6 : Int) (z0 : Int) (s : gI) : Option (Int × gI) :=
    if z0 = 0 then
      iov (x4 + (1 : Int)) <|
      let i1 : Int := (x4 + (1 : Int))
      r_at13 x1 x2 x3 i1 s
    else
      if x6 = (-1 : Int) then
        iov (x4 + (1 : Int)) <|
        let i2 : Int := (x4 + (1 : Int))
        r_at13 x1 x2 x3 i2 s
      else
        iov (x6 - x4) <|
        iov (0 - (x6 - x4)) <|
        if (if 0 ≤ (x6 - x4) then (x6 - x4) else 0 - (x6 - x4)) = x3 then
          iov (x1 * (8 : Int)) <|
          iov ((x1 * (8 : Int)) + x6) <|
          i_o2 (f56 N x5 ((x1 * (8 : Int)) + x6) s) fun i5 s4 =>
          if i5 = 0 then
            iov (x4 + (1 : Int)) <|
            let i6 : Int := (x4 + (1 : Int))
            r_at13 x1 x2 x3 i6 s4
          else
            iov (x2 + (1 : Int)) <|
            let i7 : Int := (x2 + (1 : Int))
            iov (x4 + (1 : Int)) <|
            let i8 : Int := (x4 + (1 : Int))
            r_at13 x1 i7 x3 i8 s4
        else
          iov (x4 + (1 : Int)) <|
          let i3 : Int := (x4 + (1 : Int))
          r_at13 x1 x2 x3 i3 s
noncomputable def f54_at75 (N : Nat) (r_at13 : Int → Int → Int → Int → gI → Option (Int × gI)) (x1 : Int) (x2 : Int) (x3 : Int) (x4 : Int) (x5 : Int) (x6 : Int) (s : gI) : Option (Int × gI) :=
    f54_at76 N r_at13 x1 x2 x3 x4 x5 x6 (0 : Int) s
noncomputable def f54_at13 (N : Nat) (r_at4 : Int → Int → Int → gI → Option (Int × gI)) : Nat → Int → Int → Int → Int → gI → Option (Int × gI)
  | 0, _, _, _, _, _ => none
  | n + 1, x1, x2, x3, x4, s =>
    if (s.1 12 0) ≤ x4 then
      iov (x3 + (1 : Int)) <|
      let i1 : Int := (x3 + (1 : Int))
      r_at4 x1 x2 i1 s
    else
      iov (x1 * (8 : Int)) <|
      iov ((x1 * (8 : Int)) + x4) <|
      let i2 : Int := ((x1 * (8 : Int)) + x4)
      i_o2 (f55 N x4 x1 s) fun i4 s3 =>
      ick i2 64 <|
      if (s3.1 9 i2) < 0 then
        f54_at75 N (f54_at13 N r_at4 n) x1 x2 x3 x4 i2 i4 s3
      else
        ick i2 64 <|
        if (s3.1 13 i2) = (6 : Int) then
          f54_at76 N (f54_at13 N r_at4 n) x1 x2 x3 x4 i2 i4 (1 : Int) s3
        else
          f54_at75 N (f54_at13 N r_at4 n) x1 x2 x3 x4 i2 i4 s3
noncomputable def f54_at4 (N : Nat) : Nat → Int → Int → Int → gI → Option (Int × gI)
  | 0, _, _, _, _ => none
  | n + 1, x1, x2, x3, s =>
    if (8 : Int) ≤ x3 then
      some (x2, s)
    else
      f54_at13 N (f54_at4 N n) N x1 x2 x3 (0 : Int) s
noncomputable def f54 (N : Nat) (x1 : Int) (s : gI) : Option (Int × gI) :=
    f54_at4 N N x1 (0 : Int) (1 : Int) s
/-! GutterNine.hose -/
noncomputable def f141 (N : Nat) (x1 : Int) (s : gI) : Option (Int × gI) :=
    i_o2 (f168 N x1 s) fun i2 s1 =>
    if i2 = 0 then
      some ((-1 : Int), s1)
    else
      i_o1 (f42 N s1) fun s3 =>
      i_o2 (f54 N x1 s3) fun i5 s4 =>
      some (i5, s4)
/-! GutterNine$Yard.hasWindow -/
noncomputable def f116 (N : Nat) (s : gI) : Option (Int × gI) :=
    if (s.1 15 15) = (-1 : Int) then
      ib1 (0 : Int) <|
      some ((0 : Int), s)
    else
      ib1 (1 : Int) <|
      some ((1 : Int), s)
/-! GutterNine$Play.away -/
noncomputable def f58 (N : Nat) (x1 : Int) (s : gI) : Option (Int × gI) :=
    idv x1 (8 : Int) <|
    iov ((x1 % (8 : Int)) - (s.1 15 13)) <|
    iov (0 - ((x1 % (8 : Int)) - (s.1 15 13))) <|
    idv x1 (8 : Int) <|
    iov ((x1 / (8 : Int)) - (s.1 15 14)) <|
    iov (0 - ((x1 / (8 : Int)) - (s.1 15 14))) <|
    iov ((if 0 ≤ ((x1 % (8 : Int)) - (s.1 15 13)) then ((x1 % (8 : Int)) - (s.1 15 13)) else 0 - ((x1 % (8 : Int)) - (s.1 15 13))) + (if 0 ≤ ((x1 / (8 : Int)) - (s.1 15 14)) then ((x1 / (8 : Int)) - (s.1 15 14)) else 0 - ((x1 / (8 : Int)) - (s.1 15 14)))) <|
    some (((if 0 ≤ ((x1 % (8 : Int)) - (s.1 15 13)) then ((x1 % (8 : Int)) - (s.1 15 13)) else 0 - ((x1 % (8 : Int)) - (s.1 15 13))) + (if 0 ≤ ((x1 / (8 : Int)) - (s.1 15 14)) then ((x1 / (8 : Int)) - (s.1 15 14)) else 0 - ((x1 / (8 : Int)) - (s.1 15 14)))), s)
/-! GutterNine$Play.sweep -/
noncomputable def f57_at4 (N : Nat) : Nat → Int → Int → gI → Option (Int × gI)
  | 0, _, _, _ => none
  | n + 1, x1, x2, s =>
    if (s.1 15 3) ≤ x2 then
      some (x1, s)
    else
      ick x2 8 <|
      let i1 : Int := (s.1 7 x2)
      if (64 : Int) ≤ i1 then
        iov (x2 + (1 : Int)) <|
        let i2 : Int := (x2 + (1 : Int))
        f57_at4 N n x1 i2 s
      else
        i_o2 (f58 N i1 s) fun i4 s3 =>
        if (s3.1 15 15) < i4 then
          iov (x2 + (1 : Int)) <|
          let i5 : Int := (x2 + (1 : Int))
          f57_at4 N n x1 i5 s3
        else
          i_o1 (f88 N x2 (64 : Int) s3) fun s6 =>
          let i7 : Int := (i_or x1 (i_shl (1 : Int) x2))
          iov (x2 + (1 : Int)) <|
          let i8 : Int := (x2 + (1 : Int))
          f57_at4 N n i7 i8 s6
noncomputable def f57 (N : Nat) (s : gI) : Option (Int × gI) :=
    f57_at4 N N (0 : Int) (0 : Int) s
/-! GutterNine.broom -/
noncomputable def f142 (N : Nat) (s : gI) : Option (Int × gI) :=
    i_o2 (f116 N s) fun i2 s1 =>
    if i2 = 0 then
      some ((-1 : Int), s1)
    else
      i_o1 (f42 N s1) fun s3 =>
      i_o2 (f57 N s3) fun i5 s4 =>
      some (i5, s4)
/-! GutterNine$Play.isLight -/
noncomputable def f60 (N : Nat) (x1 : Int) (s : gI) : Option (Int × gI) :=
    ick x1 8 <|
    if (s.1 18 x1) = 0 then
      ib1 (1 : Int) <|
      some ((1 : Int), s)
    else
      ick x1 8 <|
      if (s.1 18 x1) = (2 : Int) then
        ib1 (1 : Int) <|
        some ((1 : Int), s)
      else
        ib1 (0 : Int) <|
        some ((0 : Int), s)
/-! GutterNine$Play.isSheltered -/
noncomputable def f61 (N : Nat) (x1 : Int) (s : gI) : Option (Int × gI) :=
    ick x1 64 <|
    if (s.1 13 x1) = (5 : Int) then
      ib1 (1 : Int) <|
      some ((1 : Int), s)
    else
      ick x1 64 <|
      if (s.1 13 x1) = (6 : Int) then
        ib1 (1 : Int) <|
        some ((1 : Int), s)
      else
        ib1 (0 : Int) <|
        some ((0 : Int), s)
/-! GutterNine$Play.blow -/
noncomputable def f59_at106 (N : Nat) (r_at4 : Int → Int → Int → gI → Option (Int × gI)) (x1 : Int) (x3 : Int) (z0 : Int) (z1 : Int) (s : gI) : Option (Int × gI) :=
    iov (z1 + z0) <|
    let i1 : Int := (z1 + z0)
    iov (x3 + (1 : Int)) <|
    let i2 : Int := (x3 + (1 : Int))
    r_at4 x1 i1 i2 s
noncomputable def f59_at86 (N : Nat) (r_at4 : Int → Int → Int → gI → Option (Int × gI)) (x1 : Int) (x2 : Int) (x3 : Int) (x4 : Int) (s : gI) : Option (Int × gI) :=
    ick x3 8 <|
    if (s.1 7 x3) = x4 then
      f59_at106 N r_at4 x1 x3 (0 : Int) x2 s
    else
      f59_at106 N r_at4 x1 x3 (1 : Int) x2 s
noncomputable def f59_at4 (N : Nat) : Nat → Int → Int → Int → gI → Option (Int × gI)
  | 0, _, _, _, _ => none
  | n + 1, x1, x2, x3, s =>
    if (s.1 15 3) ≤ x3 then
      some (x2, s)
    else
      ick x3 8 <|
      let i1 : Int := (s.1 7 x3)
      if (64 : Int) ≤ i1 then
        iov (x3 + (1 : Int)) <|
        let i2 : Int := (x3 + (1 : Int))
        f59_at4 N n x1 x2 i2 s
      else
        i_o2 (f60 N x3 s) fun i4 s3 =>
        if i4 = 0 then
          iov (x3 + (1 : Int)) <|
          let i5 : Int := (x3 + (1 : Int))
          f59_at4 N n x1 x2 i5 s3
        else
          i_o2 (f61 N i1 s3) fun i7 s6 =>
          if i7 = 0 then
            i_o2 (f82 N 9 i1 x1 s6) fun i9 s8 =>
            if i9 = i1 then
              f59_at86 N (f59_at4 N n) x1 x2 x3 i1 s8
            else
              i_o1 (f52 N x3 i9 s8) fun s10 =>
              f59_at86 N (f59_at4 N n) x1 x2 x3 i1 s10
          else
            iov (x3 + (1 : Int)) <|
            let i11 : Int := (x3 + (1 : Int))
            f59_at4 N n x1 x2 i11 s6
noncomputable def f59 (N : Nat) (x1 : Int) (s : gI) : Option (Int × gI) :=
    f59_at4 N N x1 (0 : Int) (0 : Int) s
/-! GutterNine.gale -/
noncomputable def f143 (N : Nat) (x1 : Int) (s : gI) : Option (Int × gI) :=
    if x1 < 0 then
      some ((-1 : Int), s)
    else
      if x1 ≤ (3 : Int) then
        i_o1 (f42 N s) fun s1 =>
        i_o2 (f59 N x1 s1) fun i3 s2 =>
        some (i3, s2)
      else
        some ((-1 : Int), s)
/-! GutterNine$Play.bitsAt -/
noncomputable def f71_at4 (N : Nat) : Nat → Int → Int → Int → gI → Option (Int × gI)
  | 0, _, _, _, _ => none
  | n + 1, x1, x2, x3, s =>
    if (s.1 15 3) ≤ x3 then
      some (x2, s)
    else
      ick x3 8 <|
      i_o2 (f171 N (s.1 7 x3) s) fun i2 s1 =>
      if i2 = x1 then
        let i4 : Int := (i_or x2 (i_shl (1 : Int) x3))
        iov (x3 + (1 : Int)) <|
        let i5 : Int := (x3 + (1 : Int))
        f71_at4 N n x1 i4 i5 s1
      else
        iov (x3 + (1 : Int)) <|
        let i3 : Int := (x3 + (1 : Int))
        f71_at4 N n x1 x2 i3 s1
noncomputable def f71 (N : Nat) (x1 : Int) (s : gI) : Option (Int × gI) :=
    f71_at4 N N x1 (0 : Int) (0 : Int) s
/-! java/lang/Integer.bitCount -/
noncomputable def f296 (N : Nat) (x0 : Int) (s : gI) : Option (Int × gI) :=
    iov (x0 - (i_and (i_ushr x0 (1 : Int)) (1431655765 : Int))) <|
    let i1 : Int := (x0 - (i_and (i_ushr x0 (1 : Int)) (1431655765 : Int)))
    iov ((i_and i1 (858993459 : Int)) + (i_and (i_ushr i1 (2 : Int)) (858993459 : Int))) <|
    let i2 : Int := ((i_and i1 (858993459 : Int)) + (i_and (i_ushr i1 (2 : Int)) (858993459 : Int)))
    iov (i2 + (i_ushr i2 (4 : Int))) <|
    let i3 : Int := (i_and (i2 + (i_ushr i2 (4 : Int))) (252645135 : Int))
    iov (i3 + (i_ushr i3 (8 : Int))) <|
    let i4 : Int := (i3 + (i_ushr i3 (8 : Int)))
    iov (i4 + (i_ushr i4 (16 : Int))) <|
    let i5 : Int := (i4 + (i_ushr i4 (16 : Int)))
    some ((i_and i5 (63 : Int)), s)
/-! GutterNine$Play.manyAt -/
noncomputable def f72 (N : Nat) (x1 : Int) (s : gI) : Option (Int × gI) :=
    i_o2 (f71 N x1 s) fun i2 s1 =>
    i_o2 (f296 N i2 s1) fun i4 s3 =>
    some (i4, s3)
/-! GutterNine$Play.daysTillSaturdayPassed -/
noncomputable def f63 (N : Nat) (s : gI) : Option (Int × gI) :=
    iov ((s.1 15 16) + (s.1 6 4)) <|
    idv ((s.1 15 16) + (s.1 6 4)) (7 : Int) <|
    let i1 : Int := (((s.1 15 16) + (s.1 6 4)) % (7 : Int))
    iov ((12 : Int) - i1) <|
    idv ((12 : Int) - i1) (7 : Int) <|
    iov ((((12 : Int) - i1) % (7 : Int)) + (1 : Int)) <|
    some (((((12 : Int) - i1) % (7 : Int)) + (1 : Int)), s)
/-! GutterNine$Play.isLost -/
noncomputable def f67 (N : Nat) (x1 : Int) (s : gI) : Option (Int × gI) :=
    ick x1 8 <|
    if (s.1 7 x1) = (64 : Int) then
      ib1 (0 : Int) <|
      some ((0 : Int), s)
    else
      ick x1 8 <|
      if (s.1 7 x1) = (65 : Int) then
        ib1 (0 : Int) <|
        some ((0 : Int), s)
      else
        ib1 (1 : Int) <|
        some ((1 : Int), s)
/-! GutterNine$Play.manyLost -/
noncomputable def f68_at29 (N : Nat) (r_at4 : Int → Int → gI → Option (Int × gI)) (x2 : Int) (z0 : Int) (z1 : Int) (s : gI) : Option (Int × gI) :=
    iov (z1 + z0) <|
    let i1 : Int := (z1 + z0)
    iov (x2 + (1 : Int)) <|
    let i2 : Int := (x2 + (1 : Int))
    r_at4 i1 i2 s
noncomputable def f68_at4 (N : Nat) : Nat → Int → Int → gI → Option (Int × gI)
  | 0, _, _, _ => none
  | n + 1, x1, x2, s =>
    if (s.1 15 3) ≤ x2 then
      some (x1, s)
    else
      i_o2 (f67 N x2 s) fun i2 s1 =>
      if i2 = 0 then
        f68_at29 N (f68_at4 N n) x2 (0 : Int) x1 s1
      else
        f68_at29 N (f68_at4 N n) x2 (1 : Int) x1 s1
noncomputable def f68 (N : Nat) (s : gI) : Option (Int × gI) :=
    f68_at4 N N (0 : Int) (0 : Int) s
/-! GutterNine$Play.worthLost -/
noncomputable def f69_at37 (N : Nat) (r_at4 : Int → Int → gI → Option (Int × gI)) (x2 : Int) (z0 : Int) (z1 : Int) (s : gI) : Option (Int × gI) :=
    iov (z1 + z0) <|
    let i1 : Int := (z1 + z0)
    iov (x2 + (1 : Int)) <|
    let i2 : Int := (x2 + (1 : Int))
    r_at4 i1 i2 s
noncomputable def f69_at4 (N : Nat) : Nat → Int → Int → gI → Option (Int × gI)
  | 0, _, _, _ => none
  | n + 1, x1, x2, s =>
    if (s.1 15 3) ≤ x2 then
      some (x1, s)
    else
      i_o2 (f67 N x2 s) fun i2 s1 =>
      if i2 = 0 then
        f69_at37 N (f69_at4 N n) x2 (0 : Int) x1 s1
      else
        ick x2 8 <|
        f69_at37 N (f69_at4 N n) x2 (s1.1 20 x2) x1 s1
noncomputable def f69 (N : Nat) (s : gI) : Option (Int × gI) :=
    f69_at4 N N (0 : Int) (0 : Int) s
/-! GutterNine$Law.bit -/
noncomputable def f27 (N : Nat) (x0 : Int) (s : gI) : Option (Int × gI) :=
    if x0 = 0 then
      some ((0 : Int), s)
    else
      some ((1 : Int), s)
/-! GutterNine$Law.join -/
noncomputable def f26_at65 (N : Nat) (s : gI) : Option (Int × gI) :=
    i_o2 (f27 N (1 : Int) s) fun i2 s1 =>
    some (i2, s1)
noncomputable def f26 (N : Nat) (x0 : Int) (x1 : Int) (x2 : Int) (s : gI) : Option (Int × gI) :=
    if x0 = 10004 then
      if x1 = 0 then
        i_o2 (f27 N (0 : Int) s) fun i2 s1 =>
        some (i2, s1)
      else
        if x2 = 0 then
          i_o2 (f27 N (0 : Int) s) fun i4 s3 =>
          some (i4, s3)
        else
          i_o2 (f27 N (1 : Int) s) fun i6 s5 =>
          some (i6, s5)
    else if x0 = 10005 then
      if x1 = 0 then
        if x2 = 0 then
          i_o2 (f27 N (0 : Int) s) fun i8 s7 =>
          some (i8, s7)
        else
          f26_at65 N s
      else
        f26_at65 N s
    else if x0 = 10006 then
      if x2 ≤ x1 then
        i_o2 (f27 N (0 : Int) s) fun i10 s9 =>
        some (i10, s9)
      else
        i_o2 (f27 N (1 : Int) s) fun i12 s11 =>
        some (i12, s11)
    else if x0 = 10007 then
      if x1 = x2 then
        i_o2 (f27 N (1 : Int) s) fun i16 s15 =>
        some (i16, s15)
      else
        i_o2 (f27 N (0 : Int) s) fun i14 s13 =>
        some (i14, s13)
    else if x0 = 10008 then
      some ((Int.bmod (x1 + x2) 4294967296), s)
    else if x0 = 10009 then
      some ((Int.bmod (x1 - x2) 4294967296), s)
    else 
      some ((Int.bmod (x1 * x2) 4294967296), s)
/-! GutterNine$Law.fact -/
noncomputable def f25 (N : Nat) (x0 : Int) (x1 : Int) (x2 : Int) (x3 : Int) (s : gI) : Option (Int × gI) :=
    if x0 = 10000 then
      some (x1, s)
    else if x0 = 10001 then
      some (x2, s)
    else if x0 = 10002 then
      some (x3, s)
    else 
      some (x0, s)
/-! GutterNine$Law.of -/
noncomputable def f24_at99 (N : Nat) (r0 : Nat) (r_at6 : Int → Int → Int → Int → Int → gI → Option (Int × gI)) (x1 : Int) (x2 : Int) (x3 : Int) (x4 : Int) (x5 : Int) (z0 : Int) (z1 : Int) (s : gI) : Option (Int × gI) :=
    i_o2 (f27 N z0 s) fun i2 s1 =>
    ick z1 64 <|
    let s3 : gI := (iw s1 (r0 + 2) z1 i2)
    iov (x5 + (1 : Int)) <|
    let i4 : Int := (x5 + (1 : Int))
    r_at6 x1 x2 x3 x4 i4 s3
noncomputable def f24_at6 (N : Nat) (r0 : Nat) : Nat → Int → Int → Int → Int → Int → gI → Option (Int × gI)
  | 0, _, _, _, _, _, _ => none
  | n + 1, x1, x2, x3, x4, x5, s =>
    if (s.1 r0 2) ≤ x5 then
      ick (0 : Int) 64 <|
      some ((s.1 (r0 + 2) (0 : Int)), s)
    else
      ick x5 1000 <|
      let i1 : Int := (s.1 (r0 + 1) x5)
      if (10003 : Int) ≤ i1 then
        if i1 = (10003 : Int) then
          if x4 < (1 : Int) then
            iov (x5 + (1 : Int)) <|
            let i8 : Int := (x5 + (1 : Int))
            f24_at6 N r0 n x1 x2 x3 x4 i8 s
          else
            iov (x4 - (1 : Int)) <|
            iov (x4 - (1 : Int)) <|
            ick (x4 - (1 : Int)) 64 <|
            if (s.1 (r0 + 2) (x4 - (1 : Int))) = 0 then
              f24_at99 N r0 (f24_at6 N r0 n) x1 x2 x3 x4 x5 (1 : Int) (x4 - (1 : Int)) s
            else
              f24_at99 N r0 (f24_at6 N r0 n) x1 x2 x3 x4 x5 (0 : Int) (x4 - (1 : Int)) s
        else
          if x4 < (2 : Int) then
            iov (x5 + (1 : Int)) <|
            let i2 : Int := (x5 + (1 : Int))
            f24_at6 N r0 n x1 x2 x3 x4 i2 s
          else
            iov (x4 + (-1 : Int)) <|
            let i3 : Int := (x4 + (-1 : Int))
            iov (i3 - (1 : Int)) <|
            iov (i3 - (1 : Int)) <|
            ick (i3 - (1 : Int)) 64 <|
            ick i3 64 <|
            i_o2 (f26 N i1 (s.1 (r0 + 2) (i3 - (1 : Int))) (s.1 (r0 + 2) i3) s) fun i5 s4 =>
            ick (i3 - (1 : Int)) 64 <|
            let s6 : gI := (iw s4 (r0 + 2) (i3 - (1 : Int)) i5)
            iov (x5 + (1 : Int)) <|
            let i7 : Int := (x5 + (1 : Int))
            f24_at6 N r0 n x1 x2 x3 i3 i7 s6
      else
        if (64 : Int) ≤ x4 then
          iov (x5 + (1 : Int)) <|
          let i9 : Int := (x5 + (1 : Int))
          f24_at6 N r0 n x1 x2 x3 x4 i9 s
        else
          i_o2 (f25 N i1 x1 x2 x3 s) fun i11 s10 =>
          ick x4 64 <|
          let s12 : gI := (iw s10 (r0 + 2) x4 i11)
          iov (x4 + (1 : Int)) <|
          let i13 : Int := (x4 + (1 : Int))
          iov (x5 + (1 : Int)) <|
          let i14 : Int := (x5 + (1 : Int))
          f24_at6 N r0 n x1 x2 x3 i13 i14 s12
noncomputable def f24 (N : Nat) (r0 : Nat) (x1 : Int) (x2 : Int) (x3 : Int) (s : gI) : Option (Int × gI) :=
    f24_at6 N r0 N x1 x2 x3 (0 : Int) (0 : Int) s
/-! GutterNine$Play.due -/
noncomputable def f64 (N : Nat) (r1 : Nat) (s : gI) : Option (Int × gI) :=
    i_o2 (f68 N s) fun i2 s1 =>
    i_o2 (f69 N s1) fun i4 s3 =>
    i_o2 (f24 N r1 i2 i4 (s3.1 6 4) s3) fun i6 s5 =>
    some ((if (0 : Int) < (if i6 < (99 : Int) then i6 else (99 : Int)) then (if i6 < (99 : Int) then i6 else (99 : Int)) else (0 : Int)), s5)
/-! GutterNine$Play.bringLost -/
noncomputable def f65_at2 (N : Nat) : Nat → Int → gI → Option (gI)
  | 0, _, _ => none
  | n + 1, x1, s =>
    if (s.1 15 3) ≤ x1 then
      some s
    else
      i_o2 (f67 N x1 s) fun i2 s1 =>
      if i2 = 0 then
        iov (x1 + (1 : Int)) <|
        let i3 : Int := (x1 + (1 : Int))
        f65_at2 N n i3 s1
      else
        i_o1 (f88 N x1 (64 : Int) s1) fun s4 =>
        iov (x1 + (1 : Int)) <|
        let i5 : Int := (x1 + (1 : Int))
        f65_at2 N n i5 s4
noncomputable def f65 (N : Nat) (s : gI) : Option (gI) :=
    f65_at2 N N (0 : Int) s
/-! GutterNine$Play.passDay -/
noncomputable def f62_at74 (N : Nat) (s : gI) : Option (gI) :=
    iov ((s.1 6 4) + (1 : Int)) <|
    let s1 : gI := (iw s 6 4 ((s.1 6 4) + (1 : Int)))
    some s1
noncomputable def f62_at32 (N : Nat) (s : gI) : Option (gI) :=
    i_o2 (f63 N s) fun i2 s1 =>
    if i2 = (1 : Int) then
      i_o2 (f68 N s1) fun i4 s3 =>
      if i4 ≤ 0 then
        f62_at74 N s3
      else
        i_o2 (f64 N 25 s3) fun i6 s5 =>
        iov ((s3.1 6 5) + i6) <|
        let s7 : gI := (iw s5 6 5 ((s3.1 6 5) + i6))
        i_o1 (f65 N s7) fun s8 =>
        f62_at74 N s8
    else
      f62_at74 N s1
noncomputable def f62 (N : Nat) (s : gI) : Option (gI) :=
    i_o2 (f72 N (66 : Int) s) fun i2 s1 =>
    if i2 ≤ 0 then
      f62_at32 N s1
    else
      i_o2 (f64 N 28 s1) fun i4 s3 =>
      iov ((s1.1 6 5) + i4) <|
      let s5 : gI := (iw s3 6 5 ((s1.1 6 5) + i4))
      f62_at32 N s5
/-! GutterNine.days -/
noncomputable def f144_at26 (N : Nat) : Nat → Int → Int → gI → Option (Int × gI)
  | 0, _, _, _ => none
  | n + 1, x1, x2, s =>
    if x1 ≤ x2 then
      some ((s.1 6 4), s)
    else
      i_o1 (f62 N s) fun s1 =>
      iov (x2 + (1 : Int)) <|
      let i2 : Int := (x2 + (1 : Int))
      f144_at26 N n x1 i2 s1
noncomputable def f144 (N : Nat) (x1 : Int) (s : gI) : Option (Int × gI) :=
    if x1 < (1 : Int) then
      some ((-1 : Int), s)
    else
      if x1 ≤ (100 : Int) then
        i_o1 (f42 N s) fun s1 =>
        f144_at26 N N x1 (0 : Int) s1
      else
        some ((-1 : Int), s)
/-! GutterNine$Play.bringFromOver -/
noncomputable def f66_at4 (N : Nat) : Nat → Int → Int → gI → Option (Int × gI)
  | 0, _, _, _ => none
  | n + 1, x1, x2, s =>
    if (s.1 15 3) ≤ x2 then
      some (x1, s)
    else
      ick x2 8 <|
      if (s.1 7 x2) = (65 : Int) then
        i_o1 (f88 N x2 (64 : Int) s) fun s2 =>
        iov (x1 + (1 : Int)) <|
        let i3 : Int := (x1 + (1 : Int))
        iov (x2 + (1 : Int)) <|
        let i4 : Int := (x2 + (1 : Int))
        f66_at4 N n i3 i4 s2
      else
        iov (x2 + (1 : Int)) <|
        let i1 : Int := (x2 + (1 : Int))
        f66_at4 N n x1 i1 s
noncomputable def f66 (N : Nat) (s : gI) : Option (Int × gI) :=
    f66_at4 N N (0 : Int) (0 : Int) s
/-! GutterNine.fetch -/
noncomputable def f145 (N : Nat) (x1 : Int) (s : gI) : Option (Int × gI) :=
    i_o2 (f166 N x1 s) fun i2 s1 =>
    if i2 = 0 then
      some ((-1 : Int), s1)
    else
      i_o1 (f42 N s1) fun s3 =>
      i_o2 (f66 N s3) fun i5 s4 =>
      some (i5, s4)
/-! GutterNine$Scene.load -/
noncomputable def f91_at63 (N : Nat) (r1 : Nat) (zn : Int) : Nat → Int → gI → Option (gI)
  | 0, _, _ => none
  | n + 1, x4, s =>
    if (8 : Int) ≤ x4 then
      some s
    else
      ick x4 8 <|
      i_o2 (f89 N (s.1 7 x4) s) fun i2 s1 =>
      if i2 = (-1 : Int) then
        iov (x4 + (1 : Int)) <|
        let i3 : Int := (x4 + (1 : Int))
        f91_at63 N r1 zn n i3 s1
      else
        ick i2 64 <|
        let s4 : gI := (iw s1 9 i2 x4)
        iov (x4 + (1 : Int)) <|
        let i5 : Int := (x4 + (1 : Int))
        f91_at63 N r1 zn n i5 s4
noncomputable def f91 (N : Nat) (r1 : Nat) (zn : Int) (x2 : Int) (s : gI) : Option (gI) :=
    iov (x2 * (26 : Int)) <|
    let i1 : Int := (x2 * (26 : Int))
    icp i1 (0 : Int) (8 : Int) zn 8 <|
    let s2 : gI := (icw s r1 7 i1 (0 : Int) (8 : Int))
    iov (i1 + (8 : Int)) <|
    icp (i1 + (8 : Int)) (0 : Int) (8 : Int) zn 8 <|
    let s3 : gI := (icw s2 r1 8 (i1 + (8 : Int)) (0 : Int) (8 : Int))
    iov (i1 + (24 : Int)) <|
    ick (i1 + (24 : Int)) zn <|
    let s4 : gI := (iw s3 6 4 (s3.1 r1 (i1 + (24 : Int))))
    iov (i1 + (25 : Int)) <|
    ick (i1 + (25 : Int)) zn <|
    let s5 : gI := (iw s4 6 5 (s4.1 r1 (i1 + (25 : Int))))
    i_o1 (f321 N 9 64 (-1 : Int) s5) fun s6 =>
    f91_at63 N r1 zn N (0 : Int) s6
/-! GutterNine$Past.stepBack -/
noncomputable def f43 (N : Nat) (s : gI) : Option (Int × gI) :=
    if (s.1 41 4) = 0 then
      ib1 (0 : Int) <|
      some ((0 : Int), s)
    else
      iov ((s.1 41 4) - (1 : Int)) <|
      let s1 : gI := (iw s 41 4 ((s.1 41 4) - (1 : Int)))
      iov ((s1.1 41 3) + (16 : Int)) <|
      iov (((s1.1 41 3) + (16 : Int)) - (1 : Int)) <|
      idv (((s1.1 41 3) + (16 : Int)) - (1 : Int)) (16 : Int) <|
      let s2 : gI := (iw s1 41 3 ((((s1.1 41 3) + (16 : Int)) - (1 : Int)) % (16 : Int)))
      i_o1 (f91 N 42 416 (s2.1 41 3) s2) fun s3 =>
      ib1 (1 : Int) <|
      some ((1 : Int), s3)
/-! GutterNine.undo -/
noncomputable def f146 (N : Nat) (s : gI) : Option (Int × gI) :=
    i_o2 (f43 N s) fun i2 s1 =>
    ib1 i2 <|
    some (i2, s1)
/-! GutterNine$Roof.canHold -/
noncomputable def f79 (N : Nat) (x1 : Int) (x2 : Int) (s : gI) : Option (Int × gI) :=
    i_o2 (f78 N x1 x2 s) fun i2 s1 =>
    if i2 = 0 then
      ib1 (0 : Int) <|
      some ((0 : Int), s1)
    else
      iov (x2 * (8 : Int)) <|
      iov ((x2 * (8 : Int)) + x1) <|
      ick ((x2 * (8 : Int)) + x1) 64 <|
      if (7 : Int) ≤ (s1.1 13 ((x2 * (8 : Int)) + x1)) then
        ib1 (0 : Int) <|
        some ((0 : Int), s1)
      else
        ib1 (1 : Int) <|
        some ((1 : Int), s1)
/-! GutterNine.rolls -/
noncomputable def f147 (N : Nat) (x1 : Int) (x2 : Int) (s : gI) : Option (Int × gI) :=
    i_o2 (f79 N x1 x2 s) fun i2 s1 =>
    if i2 = 0 then
      some ((-1 : Int), s1)
    else
      iov (x2 * (8 : Int)) <|
      iov ((x2 * (8 : Int)) + x1) <|
      let i3 : Int := ((x2 * (8 : Int)) + x1)
      ick i3 64 <|
      if (s1.1 9 i3) < 0 then
        i_o2 (f84 N 9 i3 (64 : Int) s1) fun i5 s4 =>
        i_o2 (f171 N i5 s4) fun i7 s6 =>
        some (i7, s6)
      else
        some ((-1 : Int), s1)
/-! GutterNine$Chooser.isSo -/
noncomputable def f2 (N : Nat) (x1 : Int) (x2 : Int) (x3 : Int) (s : gI) : Option (Int × gI) :=
    ick x1 8 <|
    i_o2 (f171 N (s.1 7 x1) s) fun i2 s1 =>
    if x3 = 0 then
      if x2 = (-1 : Int) then
        ib1 (0 : Int) <|
        some ((0 : Int), s1)
      else
        ick x2 8 <|
        if (s1.1 7 x2) = (64 : Int) then
          ib1 (1 : Int) <|
          some ((1 : Int), s1)
        else
          ib1 (0 : Int) <|
          some ((0 : Int), s1)
    else if x3 = 1 then
      if i2 = (64 : Int) then
        ib1 (1 : Int) <|
        some ((1 : Int), s1)
      else
        ib1 (0 : Int) <|
        some ((0 : Int), s1)
    else if x3 = 2 then
      if (64 : Int) ≤ i2 then
        ib1 (0 : Int) <|
        some ((0 : Int), s1)
      else
        ib1 (1 : Int) <|
        some ((1 : Int), s1)
    else if x3 = 3 then
      if i2 = (65 : Int) then
        ib1 (1 : Int) <|
        some ((1 : Int), s1)
      else
        ib1 (0 : Int) <|
        some ((0 : Int), s1)
    else 
      if i2 = (66 : Int) then
        ib1 (1 : Int) <|
        some ((1 : Int), s1)
      else
        ib1 (0 : Int) <|
        some ((0 : Int), s1)
/-! GutterNine$Play.takeBack -/
noncomputable def f50 (N : Nat) (x1 : Int) (x2 : Int) (x3 : Int) (x4 : Int) (s : gI) : Option (gI) :=
    i_o1 (f88 N x1 (64 : Int) s) fun s1 =>
    if x2 = (-1 : Int) then
      some s1
    else
      iov (x4 * (8 : Int)) <|
      iov ((x4 * (8 : Int)) + x3) <|
      i_o1 (f88 N x2 ((x4 * (8 : Int)) + x3) s1) fun s2 =>
      some s2
/-! GutterNine.weight -/
noncomputable def f172 (N : Nat) (x0 : Int) (x1 : Int) (s : gI) : Option (Int × gI) :=
    if x1 = 0 then
      iov ((8 : Int) * x0) <|
      some (((8 : Int) * x0), s)
    else
      iov ((10 : Int) - x0) <|
      some (((10 : Int) - x0), s)
/-! GutterNine$Chooser.chance -/
noncomputable def f1_at87 (N : Nat) (r_at6 : Int → Int → Int → Int → Int → Int → gI → Option (Int × gI)) (x1 : Int) (x2 : Int) (x3 : Int) (x4 : Int) (x5 : Int) (x6 : Int) (x7 : Int) (x8 : Int) (x9 : Int) (s : gI) : Option (Int × gI) :=
    i_o1 (f50 N x2 x9 x7 x8 s) fun s1 =>
    iov (x6 + (1 : Int)) <|
    let i2 : Int := (x6 + (1 : Int))
    r_at6 x1 x2 x3 x4 x5 i2 s1
noncomputable def f1_at6 (N : Nat) : Nat → Int → Int → Int → Int → Int → Int → gI → Option (Int × gI)
  | 0, _, _, _, _, _, _, _ => none
  | n + 1, x1, x2, x3, x4, x5, x6, s =>
    if (9 : Int) ≤ x6 then
      some (x5, s)
    else
      idv x3 (8 : Int) <|
      ick x6 9 <|
      iov ((x3 % (8 : Int)) + (i_c 1000 x6)) <|
      let i1 : Int := ((x3 % (8 : Int)) + (i_c 1000 x6))
      idv x3 (8 : Int) <|
      ick x6 9 <|
      iov ((x3 / (8 : Int)) + (i_c 1001 x6)) <|
      let i2 : Int := ((x3 / (8 : Int)) + (i_c 1001 x6))
      i_o2 (f49 N x2 i1 i2 s) fun i4 s3 =>
      i_o2 (f2 N x2 i4 x4 s3) fun i6 s5 =>
      if i6 = 0 then
        f1_at87 N (f1_at6 N n) x1 x2 x3 x4 x5 x6 i1 i2 i4 s5
      else
        ick x1 4 <|
        i_o2 (f172 N (s5.1 16 x1) x6 s5) fun i8 s7 =>
        iov (x5 + i8) <|
        let i9 : Int := (x5 + i8)
        f1_at87 N (f1_at6 N n) x1 x2 x3 x4 i9 x6 i1 i2 i4 s7
noncomputable def f1 (N : Nat) (x1 : Int) (x2 : Int) (x3 : Int) (x4 : Int) (s : gI) : Option (Int × gI) :=
    f1_at6 N N x1 x2 x3 x4 (0 : Int) (0 : Int) s
/-! GutterNine.odds -/
noncomputable def f148 (N : Nat) (x1 : Int) (x2 : Int) (x3 : Int) (x4 : Int) (x5 : Int) (s : gI) : Option (Int × gI) :=
    i_o2 (f169 N x1 x2 x3 x4 s) fun i2 s1 =>
    if i2 = 0 then
      some ((-1 : Int), s1)
    else
      if x5 < 0 then
        some ((-1 : Int), s1)
      else
        if x5 ≤ (4 : Int) then
          iov (x4 * (8 : Int)) <|
          iov ((x4 * (8 : Int)) + x3) <|
          i_o2 (f1 N x1 x2 ((x4 * (8 : Int)) + x3) x5 s1) fun i4 s3 =>
          some (i4, s3)
        else
          some ((-1 : Int), s1)
/-! GutterNine$Chooser.landingGain -/
noncomputable def f4_at84 (N : Nat) (x1 : Int) (x2 : Int) (x3 : Int) (x4 : Int) (x5 : Int) (s : gI) : Option (Int × gI) :=
    i_o1 (f50 N x1 x4 x2 x3 s) fun s1 =>
    some (x5, s1)
noncomputable def f4_at43 (N : Nat) (x1 : Int) (x2 : Int) (x3 : Int) (x4 : Int) (z0 : Int) (s : gI) : Option (Int × gI) :=
    if x4 = (-1 : Int) then
      f4_at84 N x1 x2 x3 x4 z0 s
    else
      ick x4 8 <|
      if (s.1 7 x4) = (64 : Int) then
        ick x4 8 <|
        iov (z0 + (s.1 20 x4)) <|
        let i1 : Int := (z0 + (s.1 20 x4))
        f4_at84 N x1 x2 x3 x4 i1 s
      else
        f4_at84 N x1 x2 x3 x4 z0 s
noncomputable def f4 (N : Nat) (x1 : Int) (x2 : Int) (x3 : Int) (s : gI) : Option (Int × gI) :=
    i_o2 (f49 N x1 x2 x3 s) fun i2 s1 =>
    ick x1 8 <|
    if (s1.1 7 x1) = (64 : Int) then
      f4_at43 N x1 x2 x3 i2 (0 : Int) s1
    else
      ick x1 8 <|
      iov (-(s1.1 20 x1)) <|
      f4_at43 N x1 x2 x3 i2 (-(s1.1 20 x1)) s1
/-! GutterNine$Chooser.gainOf -/
noncomputable def f3_at6 (N : Nat) : Nat → Int → Int → Int → Int → Int → gI → Option (Int × gI)
  | 0, _, _, _, _, _, _ => none
  | n + 1, x1, x2, x3, x4, x5, s =>
    if (9 : Int) ≤ x5 then
      some (x4, s)
    else
      idv x3 (8 : Int) <|
      ick x5 9 <|
      iov ((x3 % (8 : Int)) + (i_c 1000 x5)) <|
      idv x3 (8 : Int) <|
      ick x5 9 <|
      iov ((x3 / (8 : Int)) + (i_c 1001 x5)) <|
      i_o2 (f4 N x2 ((x3 % (8 : Int)) + (i_c 1000 x5)) ((x3 / (8 : Int)) + (i_c 1001 x5)) s) fun i2 s1 =>
      ick x1 4 <|
      i_o2 (f172 N (s1.1 16 x1) x5 s1) fun i4 s3 =>
      iov (i4 * i2) <|
      iov (x4 + (i4 * i2)) <|
      let i5 : Int := (x4 + (i4 * i2))
      iov (x5 + (1 : Int)) <|
      let i6 : Int := (x5 + (1 : Int))
      f3_at6 N n x1 x2 x3 i5 i6 s3
noncomputable def f3 (N : Nat) (x1 : Int) (x2 : Int) (x3 : Int) (s : gI) : Option (Int × gI) :=
    f3_at6 N N x1 x2 x3 (0 : Int) (0 : Int) s
/-! GutterNine.gain -/
noncomputable def f149 (N : Nat) (x1 : Int) (x2 : Int) (x3 : Int) (x4 : Int) (s : gI) : Option (Int × gI) :=
    i_o2 (f169 N x1 x2 x3 x4 s) fun i2 s1 =>
    if i2 = 0 then
      none
    else
      iov (x4 * (8 : Int)) <|
      iov ((x4 * (8 : Int)) + x3) <|
      i_o2 (f3 N x1 x2 ((x4 * (8 : Int)) + x3) s1) fun i4 s3 =>
      some (i4, s3)
/-! GutterNine.anybodyCanThrow -/
noncomputable def f170 (N : Nat) (s : gI) : Option (Int × gI) :=
    if (s.1 15 0) ≤ 0 then
      ib1 (0 : Int) <|
      some ((0 : Int), s)
    else
      i_o2 (f72 N (64 : Int) s) fun i2 s1 =>
      if i2 ≤ 0 then
        ib1 (0 : Int) <|
        some ((0 : Int), s1)
      else
        ib1 (1 : Int) <|
        some ((1 : Int), s1)
/-! GutterNine$Chooser.tabulate -/
noncomputable def f6_at18 (N : Nat) (r_at2 : Int → Int → gI → Option (gI)) : Nat → Int → Int → Int → gI → Option (gI)
  | 0, _, _, _, _ => none
  | n + 1, x1, x2, x3, s =>
    if (s.1 12 0) < x3 then
      iov (x2 + (1 : Int)) <|
      let i1 : Int := (x2 + (1 : Int))
      r_at2 x1 i1 s
    else
      iov (x2 + (1 : Int)) <|
      iov ((x2 + (1 : Int)) * (10 : Int)) <|
      iov (((x2 + (1 : Int)) * (10 : Int)) + x3) <|
      iov ((((x2 + (1 : Int)) * (10 : Int)) + x3) + (1 : Int)) <|
      i_o2 (f4 N x1 x3 x2 s) fun i3 s2 =>
      ick ((((x2 + (1 : Int)) * (10 : Int)) + x3) + (1 : Int)) 100 <|
      let s4 : gI := (iw s2 33 ((((x2 + (1 : Int)) * (10 : Int)) + x3) + (1 : Int)) i3)
      iov (x3 + (1 : Int)) <|
      let i5 : Int := (x3 + (1 : Int))
      f6_at18 N r_at2 n x1 x2 i5 s4
noncomputable def f6_at2 (N : Nat) : Nat → Int → Int → gI → Option (gI)
  | 0, _, _, _ => none
  | n + 1, x1, x2, s =>
    if (s.1 12 1) < x2 then
      some s
    else
      f6_at18 N (f6_at2 N n) N x1 x2 (-1 : Int) s
noncomputable def f6 (N : Nat) (x1 : Int) (s : gI) : Option (gI) :=
    f6_at2 N N x1 (-1 : Int) s
/-! GutterNine$Chooser.mean -/
noncomputable def f9 (N : Nat) (x1 : Int) (x2 : Int) (x3 : Int) (s : gI) : Option (Int × gI) :=
    ick x1 4 <|
    let i1 : Int := (s.1 16 x1)
    i_o2 (f172 N i1 (0 : Int) s) fun i3 s2 =>
    iov (i3 * x2) <|
    i_o2 (f172 N i1 (1 : Int) s2) fun i5 s4 =>
    iov (i5 * x3) <|
    iov ((i3 * x2) + (i5 * x3)) <|
    some (((i3 * x2) + (i5 * x3)), s4)
/-! GutterNine$Chooser.compare -/
noncomputable def f8_at3 (N : Nat) : Nat → Int → Int → Int → Int → Int → gI → Option (gI)
  | 0, _, _, _, _, _, _ => none
  | n + 1, x1, x2, x3, x4, x5, s =>
    if (s.1 15 0) ≤ x5 then
      some s
    else
      i_o2 (f9 N x5 x3 x4 s) fun i2 s1 =>
      ick x5 4 <|
      if i2 ≤ (s1.1 34 x5) then
        iov (x5 + (1 : Int)) <|
        let i3 : Int := (x5 + (1 : Int))
        f8_at3 N n x1 x2 x3 x4 i3 s1
      else
        ick x5 4 <|
        let s4 : gI := (iw s1 34 x5 i2)
        ick x5 4 <|
        let s5 : gI := (iw s4 35 x5 x1)
        ick x5 4 <|
        let s6 : gI := (iw s5 36 x5 x2)
        iov (x5 + (1 : Int)) <|
        let i7 : Int := (x5 + (1 : Int))
        f8_at3 N n x1 x2 x3 x4 i7 s6
noncomputable def f8 (N : Nat) (x1 : Int) (x2 : Int) (x3 : Int) (x4 : Int) (s : gI) : Option (gI) :=
    f8_at3 N N x1 x2 x3 x4 (0 : Int) s
/-! GutterNine$Chooser.chooseCells -/
noncomputable def f7_at50 (N : Nat) (r_at18 : Int → Int → Int → gI → Option (gI)) : Nat → Int → Int → Int → Int → Int → Int → gI → Option (gI)
  | 0, _, _, _, _, _, _, _ => none
  | n + 1, x1, x2, x3, x4, x5, x6, s =>
    if (9 : Int) ≤ x6 then
      iov (x2 * (8 : Int)) <|
      iov ((x2 * (8 : Int)) + x3) <|
      ick x4 100 <|
      i_o1 (f8 N x1 ((x2 * (8 : Int)) + x3) (s.1 33 x4) x5 s) fun s1 =>
      iov (x3 + (1 : Int)) <|
      let i2 : Int := (x3 + (1 : Int))
      r_at18 x1 x2 i2 s1
    else
      ick x6 9 <|
      iov ((i_c 1001 x6) * (10 : Int)) <|
      iov (x4 + ((i_c 1001 x6) * (10 : Int))) <|
      ick x6 9 <|
      iov ((x4 + ((i_c 1001 x6) * (10 : Int))) + (i_c 1000 x6)) <|
      ick ((x4 + ((i_c 1001 x6) * (10 : Int))) + (i_c 1000 x6)) 100 <|
      iov (x5 + (s.1 33 ((x4 + ((i_c 1001 x6) * (10 : Int))) + (i_c 1000 x6)))) <|
      let i3 : Int := (x5 + (s.1 33 ((x4 + ((i_c 1001 x6) * (10 : Int))) + (i_c 1000 x6))))
      iov (x6 + (1 : Int)) <|
      let i4 : Int := (x6 + (1 : Int))
      f7_at50 N r_at18 n x1 x2 x3 x4 i3 i4 s
noncomputable def f7_at18 (N : Nat) (r_at2 : Int → Int → gI → Option (gI)) : Nat → Int → Int → Int → gI → Option (gI)
  | 0, _, _, _, _ => none
  | n + 1, x1, x2, x3, s =>
    if (s.1 12 0) ≤ x3 then
      iov (x2 + (1 : Int)) <|
      let i1 : Int := (x2 + (1 : Int))
      r_at2 x1 i1 s
    else
      iov (x2 + (1 : Int)) <|
      iov ((x2 + (1 : Int)) * (10 : Int)) <|
      iov (((x2 + (1 : Int)) * (10 : Int)) + x3) <|
      iov ((((x2 + (1 : Int)) * (10 : Int)) + x3) + (1 : Int)) <|
      let i2 : Int := ((((x2 + (1 : Int)) * (10 : Int)) + x3) + (1 : Int))
      f7_at50 N (f7_at18 N r_at2 n) N x1 x2 x3 i2 (0 : Int) (1 : Int) s
noncomputable def f7_at2 (N : Nat) : Nat → Int → Int → gI → Option (gI)
  | 0, _, _, _ => none
  | n + 1, x1, x2, s =>
    if (s.1 12 1) ≤ x2 then
      some s
    else
      f7_at18 N (f7_at2 N n) N x1 x2 (0 : Int) s
noncomputable def f7 (N : Nat) (x1 : Int) (s : gI) : Option (gI) :=
    f7_at2 N N x1 (0 : Int) s
/-! GutterNine$Chooser.choose -/
noncomputable def f5_at63 (N : Nat) : Nat → Int → gI → Option (gI)
  | 0, _, _ => none
  | n + 1, x1, s =>
    if (s.1 15 0) ≤ x1 then
      ick (s.1 32 8) 4 <|
      let s1 : gI := (iw s 32 7 (s.1 34 (s.1 32 8)))
      ick (s1.1 32 8) 4 <|
      let s2 : gI := (iw s1 32 9 (s1.1 35 (s1.1 32 8)))
      ick (s2.1 32 8) 4 <|
      let s3 : gI := (iw s2 32 10 (s2.1 36 (s2.1 32 8)))
      some s3
    else
      ick x1 4 <|
      ick (s.1 32 8) 4 <|
      if (s.1 34 x1) ≤ (s.1 34 (s.1 32 8)) then
        iov (x1 + (1 : Int)) <|
        let i4 : Int := (x1 + (1 : Int))
        f5_at63 N n i4 s
      else
        let s5 : gI := (iw s 32 8 x1)
        iov (x1 + (1 : Int)) <|
        let i6 : Int := (x1 + (1 : Int))
        f5_at63 N n i6 s5
noncomputable def f5_at12 (N : Nat) : Nat → Int → gI → Option (gI)
  | 0, _, _ => none
  | n + 1, x1, s =>
    if (s.1 15 3) ≤ x1 then
      let s1 : gI := (iw s 32 8 (0 : Int))
      f5_at63 N N (1 : Int) s1
    else
      ick x1 8 <|
      if (s.1 7 x1) = (64 : Int) then
        i_o1 (f6 N x1 s) fun s3 =>
        i_o1 (f7 N x1 s3) fun s4 =>
        iov (x1 + (1 : Int)) <|
        let i5 : Int := (x1 + (1 : Int))
        f5_at12 N n i5 s4
      else
        iov (x1 + (1 : Int)) <|
        let i2 : Int := (x1 + (1 : Int))
        f5_at12 N n i2 s
noncomputable def f5 (N : Nat) (s : gI) : Option (gI) :=
    i_o1 (f321 N 34 4 (-8000 : Int) s) fun s1 =>
    f5_at12 N N (0 : Int) s1
/-! GutterNine.next -/
noncomputable def f150_at16 (N : Nat) (s : gI) : Option (Int × gI) :=
    none
noncomputable def f150 (N : Nat) (x1 : Int) (s : gI) : Option (Int × gI) :=
    if x1 < 0 then
      f150_at16 N s
    else
      if (3 : Int) < x1 then
        f150_at16 N s
      else
        i_o2 (f170 N s) fun i2 s1 =>
        if i2 = 0 then
          f150_at16 N s1
        else
          i_o1 (f5 N s1) fun s3 =>
          if x1 = 0 then
            some ((s3.1 32 7), s3)
          else if x1 = 1 then
            some ((s3.1 32 8), s3)
          else if x1 = 2 then
            some ((s3.1 32 9), s3)
          else 
            some ((s3.1 32 10), s3)
/-! GutterNine$Play.worthInHand -/
noncomputable def f70_at43 (N : Nat) (r_at4 : Int → Int → gI → Option (Int × gI)) (x2 : Int) (z0 : Int) (z1 : Int) (s : gI) : Option (Int × gI) :=
    iov (z1 + z0) <|
    let i1 : Int := (z1 + z0)
    iov (x2 + (1 : Int)) <|
    let i2 : Int := (x2 + (1 : Int))
    r_at4 i1 i2 s
noncomputable def f70_at4 (N : Nat) : Nat → Int → Int → gI → Option (Int × gI)
  | 0, _, _, _ => none
  | n + 1, x1, x2, s =>
    if (s.1 15 3) ≤ x2 then
      some (x1, s)
    else
      ick x2 8 <|
      if (s.1 7 x2) = (64 : Int) then
        ick x2 8 <|
        f70_at43 N (f70_at4 N n) x2 (s.1 20 x2) x1 s
      else
        f70_at43 N (f70_at4 N n) x2 (0 : Int) x1 s
noncomputable def f70 (N : Nat) (s : gI) : Option (Int × gI) :=
    f70_at4 N N (0 : Int) (0 : Int) s
/-! GutterNine$Chooser.isInHand -/
noncomputable def f13 (N : Nat) (x1 : Int) (s : gI) : Option (Int × gI) :=
    if (s.1 15 3) ≤ x1 then
      ib1 (0 : Int) <|
      some ((0 : Int), s)
    else
      ick x1 8 <|
      if (s.1 7 x1) = (64 : Int) then
        ib1 (1 : Int) <|
        some ((1 : Int), s)
      else
        ib1 (0 : Int) <|
        some ((0 : Int), s)
/-! GutterNine$Chooser.greatestMean -/
noncomputable def f10_at11 (N : Nat) : Nat → Int → Int → Int → Int → gI → Option (Int × gI)
  | 0, _, _, _, _, _ => none
  | n + 1, x1, x2, x3, x4, s =>
    if (s.1 15 0) ≤ x4 then
      some (x3, s)
    else
      i_o2 (f9 N x4 x1 x2 s) fun i2 s1 =>
      let i3 : Int := (if x3 < i2 then i2 else x3)
      iov (x4 + (1 : Int)) <|
      let i4 : Int := (x4 + (1 : Int))
      f10_at11 N n x1 x2 i3 i4 s1
noncomputable def f10 (N : Nat) (x1 : Int) (x2 : Int) (s : gI) : Option (Int × gI) :=
    i_o2 (f9 N (0 : Int) x1 x2 s) fun i2 s1 =>
    f10_at11 N N x1 x2 i2 (1 : Int) s1
/-! GutterNine$Chooser.meanOfOne -/
noncomputable def f11_at84 (N : Nat) (r_at15 : Int → Int → Int → gI → Option (Int × gI)) : Nat → Int → Int → Int → Int → Int → Int → Int → Int → gI → Option (Int × gI)
  | 0, _, _, _, _, _, _, _, _, _ => none
  | n + 1, x1, x2, x3, x4, x5, x6, x7, x8, s =>
    if (9 : Int) ≤ x8 then
      i_o2 (f10 N x6 x7 s) fun i2 s1 =>
      iov (x1 + i2) <|
      let i3 : Int := (if x2 < (x1 + i2) then (x1 + i2) else x2)
      iov (x3 + (1 : Int)) <|
      let i4 : Int := (x3 + (1 : Int))
      r_at15 x1 i3 i4 s1
    else
      idv x5 (8 : Int) <|
      ick x8 9 <|
      iov ((x5 % (8 : Int)) + (i_c 1000 x8)) <|
      idv x5 (8 : Int) <|
      ick x8 9 <|
      iov ((x5 / (8 : Int)) + (i_c 1001 x8)) <|
      i_o2 (f4 N x4 ((x5 % (8 : Int)) + (i_c 1000 x8)) ((x5 / (8 : Int)) + (i_c 1001 x8)) s) fun i6 s5 =>
      iov (x7 + i6) <|
      let i7 : Int := (x7 + i6)
      iov (x8 + (1 : Int)) <|
      let i8 : Int := (x8 + (1 : Int))
      f11_at84 N r_at15 n x1 x2 x3 x4 x5 x6 i7 i8 s5
noncomputable def f11_at15 (N : Nat) : Nat → Int → Int → Int → gI → Option (Int × gI)
  | 0, _, _, _, _ => none
  | n + 1, x1, x2, x3, s =>
    if (64 : Int) ≤ x3 then
      some (x2, s)
    else
      idv x3 (8 : Int) <|
      let i1 : Int := (x3 / (8 : Int))
      idv x3 (8 : Int) <|
      ick (x3 % (8 : Int)) 8 <|
      let i2 : Int := (s.1 7 (x3 % (8 : Int)))
      i_o2 (f13 N i1 s) fun i4 s3 =>
      if i4 = 0 then
        iov (x3 + (1 : Int)) <|
        let i5 : Int := (x3 + (1 : Int))
        f11_at15 N n x1 x2 i5 s3
      else
        if i2 < (64 : Int) then
          idv i2 (8 : Int) <|
          idv i2 (8 : Int) <|
          i_o2 (f4 N i1 (i2 % (8 : Int)) (i2 / (8 : Int)) s3) fun i7 s6 =>
          f11_at84 N (f11_at15 N n) N x1 x2 x3 i1 i2 i7 (0 : Int) (1 : Int) s6
        else
          iov (x3 + (1 : Int)) <|
          let i8 : Int := (x3 + (1 : Int))
          f11_at15 N n x1 x2 i8 s3
noncomputable def f11 (N : Nat) (s : gI) : Option (Int × gI) :=
    i_o2 (f70 N s) fun i2 s1 =>
    iov ((80 : Int) * i2) <|
    let i3 : Int := ((80 : Int) * i2)
    f11_at15 N N i3 i3 (0 : Int) s1
/-! GutterNine$Chooser.meanOfTwo -/
noncomputable def f12_at160 (N : Nat) (r_at62 : Int → Int → Int → Int → Int → Int → Int → gI → Option (Int × gI)) (x1 : Int) (x2 : Int) (x3 : Int) (x4 : Int) (x5 : Int) (x7 : Int) (z0 : Int) (z1 : Int) (s : gI) : Option (Int × gI) :=
    iov (z1 + z0) <|
    let i1 : Int := (z1 + z0)
    iov (x7 + (1 : Int)) <|
    let i2 : Int := (x7 + (1 : Int))
    r_at62 x1 x2 x3 x4 x5 i1 i2 s
noncomputable def f12_at144 (N : Nat) (r_at62 : Int → Int → Int → Int → Int → Int → Int → gI → Option (Int × gI)) (x1 : Int) (x2 : Int) (x3 : Int) (x4 : Int) (x6 : Int) (x7 : Int) (x11 : Int) (z0 : Int) (z1 : Int) (s : gI) : Option (Int × gI) :=
    iov (z1 + z0) <|
    let i1 : Int := (z1 + z0)
    if x7 = 0 then
      f12_at160 N r_at62 x1 x2 x3 x4 i1 x7 (0 : Int) x6 s
    else
      f12_at160 N r_at62 x1 x2 x3 x4 i1 x7 x11 x6 s
noncomputable def f12_at62 (N : Nat) (r_at10 : Int → Int → gI → Option (Int × gI)) : Nat → Int → Int → Int → Int → Int → Int → Int → gI → Option (Int × gI)
  | 0, _, _, _, _, _, _, _, _ => none
  | n + 1, x1, x2, x3, x4, x5, x6, x7, s =>
    if (9 : Int) ≤ x7 then
      i_o2 (f10 N x5 x6 s) fun i2 s1 =>
      let i3 : Int := (if x1 < i2 then i2 else x1)
      iov (x2 + (1 : Int)) <|
      let i4 : Int := (x2 + (1 : Int))
      r_at10 i3 i4 s1
    else
      idv x4 (8 : Int) <|
      ick x7 9 <|
      iov ((x4 % (8 : Int)) + (i_c 1000 x7)) <|
      let i5 : Int := ((x4 % (8 : Int)) + (i_c 1000 x7))
      idv x4 (8 : Int) <|
      ick x7 9 <|
      iov ((x4 / (8 : Int)) + (i_c 1001 x7)) <|
      let i6 : Int := ((x4 / (8 : Int)) + (i_c 1001 x7))
      i_o2 (f49 N x3 i5 i6 s) fun i8 s7 =>
      i_o2 (f11 N s7) fun i10 s9 =>
      i_o1 (f50 N x3 i8 i5 i6 s9) fun s11 =>
      if x7 = 0 then
        f12_at144 N (f12_at62 N r_at10 n) x1 x2 x3 x4 x6 x7 i10 i10 x5 s11
      else
        f12_at144 N (f12_at62 N r_at10 n) x1 x2 x3 x4 x6 x7 i10 (0 : Int) x5 s11
noncomputable def f12_at10 (N : Nat) : Nat → Int → Int → gI → Option (Int × gI)
  | 0, _, _, _ => none
  | n + 1, x1, x2, s =>
    if (64 : Int) ≤ x2 then
      some (x1, s)
    else
      idv x2 (8 : Int) <|
      let i1 : Int := (x2 / (8 : Int))
      idv x2 (8 : Int) <|
      ick (x2 % (8 : Int)) 8 <|
      let i2 : Int := (s.1 7 (x2 % (8 : Int)))
      i_o2 (f13 N i1 s) fun i4 s3 =>
      if i4 = 0 then
        iov (x2 + (1 : Int)) <|
        let i5 : Int := (x2 + (1 : Int))
        f12_at10 N n x1 i5 s3
      else
        if i2 < (64 : Int) then
          f12_at62 N (f12_at10 N n) N x1 x2 i1 i2 (0 : Int) (0 : Int) (0 : Int) s3
        else
          iov (x2 + (1 : Int)) <|
          let i6 : Int := (x2 + (1 : Int))
          f12_at10 N n x1 i6 s3
noncomputable def f12 (N : Nat) (s : gI) : Option (Int × gI) :=
    i_o2 (f11 N s) fun i2 s1 =>
    iov ((80 : Int) * i2) <|
    let i3 : Int := ((80 : Int) * i2)
    f12_at10 N N i3 (0 : Int) s1
/-! GutterNine.plan -/
noncomputable def f151 (N : Nat) (x1 : Int) (s : gI) : Option (Int × gI) :=
    if x1 = (1 : Int) then
      i_o2 (f11 N s) fun i4 s3 =>
      some (i4, s3)
    else
      if x1 = (2 : Int) then
        i_o2 (f12 N s) fun i2 s1 =>
        some (i2, s1)
      else
        some ((-1 : Int), s)
/-! GutterNine$Chooser.chanceFor -/
noncomputable def f15_at91 (N : Nat) (r_at6 : Int → Int → Int → Int → Int → Int → gI → Option (Int × gI)) (x1 : Int) (x2 : Int) (x3 : Int) (x4 : Int) (x5 : Int) (x6 : Int) (x7 : Int) (x8 : Int) (x9 : Int) (s : gI) : Option (Int × gI) :=
    i_o1 (f50 N x3 x9 x7 x8 s) fun s1 =>
    iov (x6 + (1 : Int)) <|
    let i2 : Int := (x6 + (1 : Int))
    r_at6 x1 x2 x3 x4 x5 i2 s1
noncomputable def f15_at6 (N : Nat) : Nat → Int → Int → Int → Int → Int → Int → gI → Option (Int × gI)
  | 0, _, _, _, _, _, _, _ => none
  | n + 1, x1, x2, x3, x4, x5, x6, s =>
    if (9 : Int) ≤ x6 then
      some (x5, s)
    else
      idv x4 (8 : Int) <|
      ick x6 9 <|
      iov ((x4 % (8 : Int)) + (i_c 1000 x6)) <|
      let i1 : Int := ((x4 % (8 : Int)) + (i_c 1000 x6))
      idv x4 (8 : Int) <|
      ick x6 9 <|
      iov ((x4 / (8 : Int)) + (i_c 1001 x6)) <|
      let i2 : Int := ((x4 / (8 : Int)) + (i_c 1001 x6))
      i_o2 (f49 N x3 i1 i2 s) fun i4 s3 =>
      ick x1 8 <|
      if (s3.1 7 x1) = (64 : Int) then
        ick x2 4 <|
        i_o2 (f172 N (s3.1 16 x2) x6 s3) fun i6 s5 =>
        iov (x5 + i6) <|
        let i7 : Int := (x5 + i6)
        f15_at91 N (f15_at6 N n) x1 x2 x3 x4 i7 x6 i1 i2 i4 s5
      else
        f15_at91 N (f15_at6 N n) x1 x2 x3 x4 x5 x6 i1 i2 i4 s3
noncomputable def f15 (N : Nat) (x1 : Int) (x2 : Int) (x3 : Int) (x4 : Int) (s : gI) : Option (Int × gI) :=
    f15_at6 N N x1 x2 x3 x4 (0 : Int) (0 : Int) s
/-! GutterNine$Chooser.chooseAlone -/
noncomputable def f14_at34 (N : Nat) (r_at17 : Int → Int → Int → gI → Option (gI)) : Nat → Int → Int → Int → Int → gI → Option (gI)
  | 0, _, _, _, _, _ => none
  | n + 1, x1, x2, x3, x4, s =>
    if (s.1 15 3) ≤ x4 then
      iov (x3 + (1 : Int)) <|
      let i1 : Int := (x3 + (1 : Int))
      r_at17 x1 x2 i1 s
    else
      ick x4 8 <|
      if (s.1 7 x4) = (64 : Int) then
        i_o2 (f15 N x1 x3 x4 x2 s) fun i3 s2 =>
        if i3 ≤ (s2.1 32 7) then
          iov (x4 + (1 : Int)) <|
          let i4 : Int := (x4 + (1 : Int))
          f14_at34 N r_at17 n x1 x2 x3 i4 s2
        else
          let s5 : gI := (iw s2 32 7 i3)
          let s6 : gI := (iw s5 32 8 x3)
          let s7 : gI := (iw s6 32 9 x4)
          iov (x4 + (1 : Int)) <|
          let i8 : Int := (x4 + (1 : Int))
          f14_at34 N r_at17 n x1 x2 x3 i8 s7
      else
        iov (x4 + (1 : Int)) <|
        let i9 : Int := (x4 + (1 : Int))
        f14_at34 N r_at17 n x1 x2 x3 i9 s
noncomputable def f14_at17 (N : Nat) : Nat → Int → Int → Int → gI → Option (gI)
  | 0, _, _, _, _ => none
  | n + 1, x1, x2, x3, s =>
    if (s.1 15 0) ≤ x3 then
      some s
    else
      f14_at34 N (f14_at17 N n) N x1 x2 x3 (0 : Int) s
noncomputable def f14 (N : Nat) (x1 : Int) (s : gI) : Option (gI) :=
    let s1 : gI := (iw s 32 7 (-1 : Int))
    ick x1 8 <|
    let i2 : Int := (s1.1 7 x1)
    f14_at17 N N x1 i2 (0 : Int) s1
/-! GutterNine.alone -/
noncomputable def f152 (N : Nat) (x1 : Int) (x2 : Int) (s : gI) : Option (Int × gI) :=
    i_o2 (f167 N x1 s) fun i2 s1 =>
    if i2 = 0 then
      some ((-1 : Int), s1)
    else
      ick x1 8 <|
      if (64 : Int) ≤ (s1.1 7 x1) then
        some ((-1 : Int), s1)
      else
        i_o2 (f170 N s1) fun i4 s3 =>
        if i4 = 0 then
          some ((-1 : Int), s3)
        else
          i_o1 (f14 N x1 s3) fun s5 =>
          if x2 = 0 then
            some ((s5.1 32 7), s5)
          else if x2 = 1 then
            some ((s5.1 32 8), s5)
          else if x2 = 2 then
            some ((s5.1 32 9), s5)
          else 
            some ((-1 : Int), s5)
/-! GutterNine$Play.hold -/
noncomputable def f47 (N : Nat) (s : gI) : Option (gI) :=
    i_o1 (f90 N 31 26 (0 : Int) s) fun s1 =>
    some s1
/-! GutterNine$Play.release -/
noncomputable def f48 (N : Nat) (s : gI) : Option (gI) :=
    i_o1 (f91 N 31 26 (0 : Int) s) fun s1 =>
    some s1
/-! GutterNine.washed -/
noncomputable def f153_at30 (N : Nat) (x1 : Int) (z0 : Int) (s : gI) : Option (Int × gI) :=
    i_o2 (f71 N z0 s) fun i2 s1 =>
    i_o1 (f47 N s1) fun s3 =>
    i_o2 (f54 N x1 s3) fun i5 s4 =>
    i_o2 (f71 N z0 s4) fun i7 s6 =>
    i_o1 (f48 N s6) fun s8 =>
    some ((i_and i7 (i_xor i2 (-1 : Int))), s8)
noncomputable def f153 (N : Nat) (x1 : Int) (x2 : Int) (s : gI) : Option (Int × gI) :=
    i_o2 (f168 N x1 s) fun i2 s1 =>
    if i2 = 0 then
      some ((-1 : Int), s1)
    else
      if x2 < 0 then
        some ((-1 : Int), s1)
      else
        if x2 ≤ (1 : Int) then
          if x2 = 0 then
            f153_at30 N x1 (64 : Int) s1
          else
            f153_at30 N x1 (66 : Int) s1
        else
          some ((-1 : Int), s1)
/-! GutterNine.blown -/
noncomputable def f154_at32 (N : Nat) : Nat → Int → Int → Int → Int → Int → Int → gI → Option (Int × gI)
  | 0, _, _, _, _, _, _, _ => none
  | n + 1, x1, x2, x3, x4, x5, x6, s =>
    if (3 : Int) < x6 then
      if x1 = 0 then
        some (x3, s)
      else
        some (x4, s)
    else
      i_o1 (f47 N s) fun s1 =>
      i_o2 (f59 N x6 s1) fun i3 s2 =>
      i_o2 (f72 N (64 : Int) s2) fun i5 s4 =>
      iov (i5 - x2) <|
      let i6 : Int := (i5 - x2)
      i_o1 (f48 N s4) fun s7 =>
      iov (x3 + i6) <|
      let i8 : Int := (x3 + i6)
      if i6 ≤ x5 then
        iov (x6 + (1 : Int)) <|
        let i9 : Int := (x6 + (1 : Int))
        f154_at32 N n x1 x2 i8 x4 x5 i9 s7
      else
        iov (x6 + (1 : Int)) <|
        let i10 : Int := (x6 + (1 : Int))
        f154_at32 N n x1 x2 i8 x6 i6 i10 s7
noncomputable def f154 (N : Nat) (x1 : Int) (s : gI) : Option (Int × gI) :=
    if x1 < 0 then
      some ((-1 : Int), s)
    else
      if x1 ≤ (1 : Int) then
        i_o2 (f72 N (64 : Int) s) fun i2 s1 =>
        f154_at32 N N x1 i2 (0 : Int) (0 : Int) (0 : Int) (0 : Int) s1
      else
        some ((-1 : Int), s)
/-! GutterNine.await -/
noncomputable def f155_at9 (N : Nat) (s : gI) : Option (Int × gI) :=
    none
noncomputable def f155_at60 (N : Nat) : Nat → Int → Int → Int → gI → Option (Int × gI)
  | 0, _, _, _, _ => none
  | n + 1, x2, x3, x4, s =>
    if x2 ≤ x4 then
      i_o2 (f70 N s) fun i2 s1 =>
      iov (i2 - (s1.1 6 5)) <|
      let i3 : Int := (i2 - (s1.1 6 5))
      i_o1 (f48 N s1) fun s4 =>
      iov (i3 - x3) <|
      some ((i3 - x3), s4)
    else
      i_o1 (f62 N s) fun s5 =>
      iov (x4 + (1 : Int)) <|
      let i6 : Int := (x4 + (1 : Int))
      f155_at60 N n x2 x3 i6 s5
noncomputable def f155 (N : Nat) (x1 : Int) (s : gI) : Option (Int × gI) :=
    if x1 < 0 then
      f155_at9 N s
    else
      if x1 ≤ (1 : Int) then
        i_o2 (f63 N s) fun i2 s1 =>
        if x1 = 0 then
          some (i2, s1)
        else
          i_o2 (f70 N s1) fun i4 s3 =>
          iov (i4 - (s3.1 6 5)) <|
          let i5 : Int := (i4 - (s3.1 6 5))
          i_o1 (f47 N s3) fun s6 =>
          f155_at60 N N i2 i5 (0 : Int) s6
      else
        f155_at9 N s
/-! GutterNine.see -/
noncomputable def f156 (N : Nat) (x1 : Int) (x2 : Int) (s : gI) : Option (Int × gI) :=
    if x1 < 0 then
      ib1 (0 : Int) <|
      some ((0 : Int), s)
    else
      if (s.1 12 0) ≤ x1 then
        ib1 (0 : Int) <|
        some ((0 : Int), s)
      else
        if x2 < (-2 : Int) then
          ib1 (0 : Int) <|
          some ((0 : Int), s)
        else
          if x2 ≤ (3 : Int) then
            ick x1 8 <|
            let s1 : gI := (iw s 10 x1 x2)
            ib1 (1 : Int) <|
            some ((1 : Int), s1)
          else
            ib1 (0 : Int) <|
            some ((0 : Int), s)
/-! GutterNine$Chooser.kindBelow -/
noncomputable def f19_at13 (N : Nat) : Nat → Int → Int → gI → Option (Int × gI)
  | 0, _, _, _ => none
  | n + 1, x1, x2, s =>
    if x2 < 0 then
      some ((-1 : Int), s)
    else
      iov (x2 * (8 : Int)) <|
      iov ((x2 * (8 : Int)) + x1) <|
      let i1 : Int := ((x2 * (8 : Int)) + x1)
      ick i1 64 <|
      let i2 : Int := (s.1 9 i1)
      if i2 < 0 then
        iov (x2 + (-1 : Int)) <|
        let i3 : Int := (x2 + (-1 : Int))
        f19_at13 N n x1 i3 s
      else
        ick i1 64 <|
        if (s.1 13 i1) = (7 : Int) then
          iov (x2 + (-1 : Int)) <|
          let i4 : Int := (x2 + (-1 : Int))
          f19_at13 N n x1 i4 s
        else
          ick i2 8 <|
          some ((s.1 18 i2), s)
noncomputable def f19 (N : Nat) (x1 : Int) (s : gI) : Option (Int × gI) :=
    iov ((s.1 12 1) - (1 : Int)) <|
    let i1 : Int := ((s.1 12 1) - (1 : Int))
    f19_at13 N N x1 i1 s
/-! GutterNine$Chooser.isAsSeen -/
noncomputable def f18_at2 (N : Nat) : Nat → Int → gI → Option (Int × gI)
  | 0, _, _ => none
  | n + 1, x1, s =>
    if (s.1 12 0) ≤ x1 then
      ib1 (1 : Int) <|
      some ((1 : Int), s)
    else
      ick x1 8 <|
      if (s.1 10 x1) = (-2 : Int) then
        iov (x1 + (1 : Int)) <|
        let i1 : Int := (x1 + (1 : Int))
        f18_at2 N n i1 s
      else
        ick x1 8 <|
        i_o2 (f19 N x1 s) fun i3 s2 =>
        if (s.1 10 x1) = i3 then
          iov (x1 + (1 : Int)) <|
          let i4 : Int := (x1 + (1 : Int))
          f18_at2 N n i4 s2
        else
          ib1 (0 : Int) <|
          some ((0 : Int), s2)
noncomputable def f18 (N : Nat) (s : gI) : Option (Int × gI) :=
    f18_at2 N N (0 : Int) s
/-! GutterNine$Chooser.meet -/
noncomputable def f17_at14 (N : Nat) : Nat → Int → Int → gI → Option (gI)
  | 0, _, _, _ => none
  | n + 1, x1, x2, s =>
    if (s.1 32 12) ≤ x2 then
      ick (s.1 32 12) 9 <|
      let s1 : gI := (iw s 37 (s.1 32 12) x1)
      iov ((s1.1 32 12) + (1 : Int)) <|
      let s2 : gI := (iw s1 32 12 ((s1.1 32 12) + (1 : Int)))
      some s2
    else
      ick x2 9 <|
      if (s.1 37 x2) = x1 then
        some s
      else
        iov (x2 + (1 : Int)) <|
        let i3 : Int := (x2 + (1 : Int))
        f17_at14 N n x1 i3 s
noncomputable def f17 (N : Nat) (x1 : Int) (s : gI) : Option (gI) :=
    let s1 : gI := (iw s 32 13 (if x1 < (s.1 32 13) then x1 else (s.1 32 13)))
    f17_at14 N N x1 (0 : Int) s1
/-! GutterNine$Chooser.narrow -/
noncomputable def f16_at124 (N : Nat) (r_at19 : Int → Int → Int → Int → gI → Option (gI)) (x1 : Int) (x2 : Int) (x3 : Int) (x4 : Int) (x6 : Int) (x7 : Int) (x8 : Int) (s : gI) : Option (gI) :=
    i_o1 (f50 N x2 x8 x6 x7 s) fun s1 =>
    iov (x4 + (1 : Int)) <|
    let i2 : Int := (x4 + (1 : Int))
    r_at19 x1 x2 x3 i2 s1
noncomputable def f16_at19 (N : Nat) : Nat → Int → Int → Int → Int → gI → Option (gI)
  | 0, _, _, _, _, _ => none
  | n + 1, x1, x2, x3, x4, s =>
    if (9 : Int) ≤ x4 then
      some s
    else
      ick x1 4 <|
      i_o2 (f172 N (s.1 16 x1) x4 s) fun i2 s1 =>
      idv x3 (8 : Int) <|
      ick x4 9 <|
      iov ((x3 % (8 : Int)) + (i_c 1000 x4)) <|
      let i3 : Int := ((x3 % (8 : Int)) + (i_c 1000 x4))
      idv x3 (8 : Int) <|
      ick x4 9 <|
      iov ((x3 / (8 : Int)) + (i_c 1001 x4)) <|
      let i4 : Int := ((x3 / (8 : Int)) + (i_c 1001 x4))
      i_o2 (f49 N x2 i3 i4 s1) fun i6 s5 =>
      if i2 ≤ 0 then
        f16_at124 N (f16_at19 N n) x1 x2 x3 x4 i3 i4 i6 s5
      else
        i_o2 (f18 N s5) fun i8 s7 =>
        if i8 = 0 then
          f16_at124 N (f16_at19 N n) x1 x2 x3 x4 i3 i4 i6 s7
        else
          iov ((s7.1 32 11) + i2) <|
          let s9 : gI := (iw s7 32 11 ((s7.1 32 11) + i2))
          ick x2 8 <|
          i_o2 (f171 N (s9.1 7 x2) s9) fun i11 s10 =>
          i_o1 (f17 N i11 s10) fun s12 =>
          f16_at124 N (f16_at19 N n) x1 x2 x3 x4 i3 i4 i6 s12
noncomputable def f16 (N : Nat) (x1 : Int) (x2 : Int) (x3 : Int) (s : gI) : Option (gI) :=
    let s1 : gI := (iw s 32 11 (0 : Int))
    let s2 : gI := (iw s1 32 12 (0 : Int))
    let s3 : gI := (iw s2 32 13 (66 : Int))
    f16_at19 N N x1 x2 x3 (0 : Int) s3
/-! GutterNine.lies -/
noncomputable def f157 (N : Nat) (x1 : Int) (x2 : Int) (x3 : Int) (x4 : Int) (x5 : Int) (s : gI) : Option (Int × gI) :=
    i_o2 (f169 N x1 x2 x3 x4 s) fun i2 s1 =>
    if i2 = 0 then
      some ((-1 : Int), s1)
    else
      if x5 < 0 then
        some ((-1 : Int), s1)
      else
        if x5 ≤ (2 : Int) then
          iov (x4 * (8 : Int)) <|
          iov ((x4 * (8 : Int)) + x3) <|
          i_o1 (f16 N x1 x2 ((x4 * (8 : Int)) + x3) s1) fun s3 =>
          if (s3.1 32 11) = 0 then
            some ((-1 : Int), s3)
          else
            if x5 = 0 then
              some ((s3.1 32 11), s3)
            else
              if x5 = (1 : Int) then
                some ((s3.1 32 12), s3)
              else
                some ((s3.1 32 13), s3)
        else
          some ((-1 : Int), s1)
/-! GutterNine$Play.lostFrom -/
noncomputable def f73_at140 (N : Nat) (r_at4 : Int → Int → Int → gI → Option (Int × gI)) (x1 : Int) (x3 : Int) (z0 : Int) (z1 : Int) (s : gI) : Option (Int × gI) :=
    iov (z1 + z0) <|
    let i1 : Int := (z1 + z0)
    iov (x3 + (1 : Int)) <|
    let i2 : Int := (x3 + (1 : Int))
    r_at4 x1 i1 i2 s
noncomputable def f73_at119 (N : Nat) (r_at4 : Int → Int → Int → gI → Option (Int × gI)) (x1 : Int) (x2 : Int) (x3 : Int) (x4 : Int) (s : gI) : Option (Int × gI) :=
    if x4 = (64 : Int) then
      f73_at140 N r_at4 x1 x3 (0 : Int) x2 s
    else
      ick x3 6 <|
      f73_at140 N r_at4 x1 x3 (s.1 24 x3) x2 s
noncomputable def f73_at48 (N : Nat) (r_at4 : Int → Int → Int → gI → Option (Int × gI)) (x1 : Int) (x2 : Int) (x3 : Int) (s : gI) : Option (Int × gI) :=
    ick x3 6 <|
    iov (x1 + (s.1 22 x3)) <|
    ick x3 6 <|
    iov ((s.1 12 1) - (s.1 23 x3)) <|
    i_o2 (f83 N 14 (x1 + (s.1 22 x3)) ((s.1 12 1) - (s.1 23 x3)) s) fun i2 s1 =>
    if (64 : Int) ≤ i2 then
      f73_at119 N r_at4 x1 x2 x3 i2 s1
    else
      i_o2 (f84 N 14 i2 (64 : Int) s1) fun i4 s3 =>
      f73_at119 N r_at4 x1 x2 x3 i4 s3
noncomputable def f73_at4 (N : Nat) : Nat → Int → Int → Int → gI → Option (Int × gI)
  | 0, _, _, _, _ => none
  | n + 1, x1, x2, x3, s =>
    if (s.1 15 8) ≤ x3 then
      some (x2, s)
    else
      if (s.1 15 12) = (-1 : Int) then
        f73_at48 N (f73_at4 N n) x1 x2 x3 s
      else
        ick x3 6 <|
        if (s.1 23 x3) ≤ (s.1 15 12) then
          f73_at48 N (f73_at4 N n) x1 x2 x3 s
        else
          iov (x3 + (1 : Int)) <|
          let i1 : Int := (x3 + (1 : Int))
          f73_at4 N n x1 x2 i1 s
noncomputable def f73 (N : Nat) (x1 : Int) (s : gI) : Option (Int × gI) :=
    f73_at4 N N x1 (0 : Int) (0 : Int) s
/-! GutterNine.pitch -/
noncomputable def f158_at52 (N : Nat) : Nat → Int → Int → Int → Int → gI → Option (Int × gI)
  | 0, _, _, _, _, _ => none
  | n + 1, x1, x2, x3, x4, s =>
    if (s.1 12 0) ≤ x4 then
      if x1 = 0 then
        some (x3, s)
      else
        some (x2, s)
    else
      i_o2 (f73 N x4 s) fun i2 s1 =>
      if x3 ≤ i2 then
        iov (x4 + (1 : Int)) <|
        let i3 : Int := (x4 + (1 : Int))
        f158_at52 N n x1 x2 x3 i3 s1
      else
        iov (x4 + (1 : Int)) <|
        let i4 : Int := (x4 + (1 : Int))
        f158_at52 N n x1 x4 i2 i4 s1
noncomputable def f158 (N : Nat) (x1 : Int) (s : gI) : Option (Int × gI) :=
    if x1 < 0 then
      some ((-1 : Int), s)
    else
      iov (x1 - (2 : Int)) <|
      if (x1 - (2 : Int)) < (s.1 12 0) then
        if x1 < (2 : Int) then
          i_o2 (f73 N (0 : Int) s) fun i2 s1 =>
          f158_at52 N N x1 (0 : Int) i2 (1 : Int) s1
        else
          iov (x1 - (2 : Int)) <|
          i_o2 (f73 N (x1 - (2 : Int)) s) fun i4 s3 =>
          some (i4, s3)
      else
        some ((-1 : Int), s)
/-! GutterNine.pays -/
noncomputable def f159_at89 (N : Nat) (r_at24 : Int → Int → Int → Int → gI → Option (Int × gI)) (x1 : Int) (x2 : Int) (x3 : Int) (x4 : Int) (z0 : Int) (s : gI) : Option (Int × gI) :=
    if z0 = 0 then
      iov (x4 + (1 : Int)) <|
      let i1 : Int := (x4 + (1 : Int))
      r_at24 x1 x2 x3 i1 s
    else
      ick x4 8 <|
      if (s.1 7 x4) = (64 : Int) then
        iov (x4 + (1 : Int)) <|
        let i2 : Int := (x4 + (1 : Int))
        r_at24 x1 x2 x3 i2 s
      else
        ick x4 8 <|
        iov (x3 + (s.1 20 x4)) <|
        let i3 : Int := (x3 + (s.1 20 x4))
        iov (x4 + (1 : Int)) <|
        let i4 : Int := (x4 + (1 : Int))
        r_at24 x1 x2 i3 i4 s
noncomputable def f159_at84 (N : Nat) (r_at24 : Int → Int → Int → Int → gI → Option (Int × gI)) (x1 : Int) (x2 : Int) (x3 : Int) (x4 : Int) (s : gI) : Option (Int × gI) :=
    f159_at89 N r_at24 x1 x2 x3 x4 (1 : Int) s
noncomputable def f159_at88 (N : Nat) (r_at24 : Int → Int → Int → Int → gI → Option (Int × gI)) (x1 : Int) (x2 : Int) (x3 : Int) (x4 : Int) (s : gI) : Option (Int × gI) :=
    f159_at89 N r_at24 x1 x2 x3 x4 (0 : Int) s
noncomputable def f159_at62 (N : Nat) (r_at24 : Int → Int → Int → Int → gI → Option (Int × gI)) (x1 : Int) (x2 : Int) (x3 : Int) (x4 : Int) (s : gI) : Option (Int × gI) :=
    if x2 = (2 : Int) then
      ick x4 8 <|
      if (s.1 19 x4) = x1 then
        f159_at84 N r_at24 x1 x2 x3 x4 s
      else
        f159_at88 N r_at24 x1 x2 x3 x4 s
    else
      f159_at88 N r_at24 x1 x2 x3 x4 s
noncomputable def f159_at24 (N : Nat) : Nat → Int → Int → Int → Int → gI → Option (Int × gI)
  | 0, _, _, _, _, _ => none
  | n + 1, x1, x2, x3, x4, s =>
    if (s.1 15 3) ≤ x4 then
      if x2 = (1 : Int) then
        if (s.1 15 0) ≤ 0 then
          some (x3, s)
        else
          idv x3 (s.1 15 0) <|
          some ((x3 / (s.1 15 0)), s)
      else
        some (x3, s)
    else
      if x2 = (1 : Int) then
        f159_at84 N (f159_at24 N n) x1 x2 x3 x4 s
      else
        if x2 = 0 then
          ick x4 8 <|
          if (s.1 8 x4) = x1 then
            f159_at84 N (f159_at24 N n) x1 x2 x3 x4 s
          else
            f159_at62 N (f159_at24 N n) x1 x2 x3 x4 s
        else
          f159_at62 N (f159_at24 N n) x1 x2 x3 x4 s
noncomputable def f159 (N : Nat) (x1 : Int) (x2 : Int) (s : gI) : Option (Int × gI) :=
    i_o2 (f166 N x1 s) fun i2 s1 =>
    if i2 = 0 then
      some ((-1 : Int), s1)
    else
      if x2 < 0 then
        some ((-1 : Int), s1)
      else
        if x2 ≤ (2 : Int) then
          f159_at24 N N x1 x2 (0 : Int) (0 : Int) s1
        else
          some ((-1 : Int), s1)
/-! GutterNine$Waiting.begin -/
noncomputable def f109_at24 (N : Nat) : Nat → Int → gI → Option (gI)
  | 0, _, _ => none
  | n + 1, x4, s =>
    if (s.1 15 3) ≤ x4 then
      some s
    else
      ick x4 8 <|
      if (s.1 7 x4) = (65 : Int) then
        ick x4 8 <|
        ick (s.1 19 x4) 4 <|
        ick x4 8 <|
        iov ((s.1 39 (s.1 19 x4)) + (s.1 20 x4)) <|
        ick (s.1 19 x4) 4 <|
        let s2 : gI := (iw s 39 (s.1 19 x4) ((s.1 39 (s.1 19 x4)) + (s.1 20 x4)))
        iov (x4 + (1 : Int)) <|
        let i3 : Int := (x4 + (1 : Int))
        f109_at24 N n i3 s2
      else
        iov (x4 + (1 : Int)) <|
        let i1 : Int := (x4 + (1 : Int))
        f109_at24 N n i1 s
noncomputable def f109 (N : Nat) (x3 : Int) (s : gI) : Option (gI) :=
    let s1 : gI := (iw s 38 0 (s.1 15 0))
    let s2 : gI := (iw s1 38 1 x3)
    i_o1 (f321 N 39 4 (0 : Int) s2) fun s3 =>
    f109_at24 N N (0 : Int) s3
/-! GutterNine$Waiting.decode -/
noncomputable def f111_at9 (N : Nat) : Nat → Int → Int → gI → Option (gI)
  | 0, _, _, _ => none
  | n + 1, x2, x3, s =>
    if x3 < 0 then
      some s
    else
      idv x2 (8 : Int) <|
      ick x3 4 <|
      let s1 : gI := (iw s 40 x3 (x2 % (8 : Int)))
      idv x2 (8 : Int) <|
      let i2 : Int := (x2 / (8 : Int))
      iov (x3 + (-1 : Int)) <|
      let i3 : Int := (x3 + (-1 : Int))
      f111_at9 N n i2 i3 s1
noncomputable def f111 (N : Nat) (x1 : Int) (s : gI) : Option (gI) :=
    iov ((s.1 38 0) - (1 : Int)) <|
    let i1 : Int := ((s.1 38 0) - (1 : Int))
    f111_at9 N N x1 i1 s
/-! GutterNine$Waiting.cost -/
noncomputable def f113_at60 (N : Nat) (r_at18 : Int → Int → Int → Int → gI → Option (Int × gI)) (x1 : Int) (x3 : Int) (x4 : Int) (x5 : Int) (z0 : Int) (s : gI) : Option (Int × gI) :=
    if x5 = x1 then
      iov (x5 + (1 : Int)) <|
      let i1 : Int := (x5 + (1 : Int))
      r_at18 x1 x3 x4 i1 s
    else
      if z0 = 0 then
        iov (x5 + (1 : Int)) <|
        let i2 : Int := (x5 + (1 : Int))
        r_at18 x1 x3 x4 i2 s
      else
        ick x5 4 <|
        let i3 : Int := (s.1 40 x5)
        iov (x5 + (1 : Int)) <|
        let i4 : Int := (x5 + (1 : Int))
        r_at18 x1 i3 (0 : Int) i4 s
noncomputable def f113_at55 (N : Nat) (r_at18 : Int → Int → Int → Int → gI → Option (Int × gI)) (x1 : Int) (x3 : Int) (x4 : Int) (x5 : Int) (s : gI) : Option (Int × gI) :=
    f113_at60 N r_at18 x1 x3 x4 x5 (1 : Int) s
noncomputable def f113_at59 (N : Nat) (r_at18 : Int → Int → Int → Int → gI → Option (Int × gI)) (x1 : Int) (x3 : Int) (x4 : Int) (x5 : Int) (s : gI) : Option (Int × gI) :=
    f113_at60 N r_at18 x1 x3 x4 x5 (0 : Int) s
noncomputable def f113_at18 (N : Nat) : Nat → Int → Int → Int → Int → gI → Option (Int × gI)
  | 0, _, _, _, _, _ => none
  | n + 1, x1, x3, x4, x5, s =>
    if (s.1 38 0) ≤ x5 then
      ick x1 4 <|
      iov ((s.1 39 x1) * x3) <|
      if x4 = 0 then
        iov (((s.1 39 x1) * x3) + (0 : Int)) <|
        some ((((s.1 39 x1) * x3) + (0 : Int)), s)
      else
        iov (((s.1 39 x1) * x3) + (s.1 38 1)) <|
        some ((((s.1 39 x1) * x3) + (s.1 38 1)), s)
    else
      ick x5 4 <|
      if (s.1 40 x5) < x3 then
        f113_at55 N (f113_at18 N n) x1 x3 x4 x5 s
      else
        ick x5 4 <|
        if (s.1 40 x5) = x3 then
          if x1 ≤ x5 then
            f113_at59 N (f113_at18 N n) x1 x3 x4 x5 s
          else
            f113_at55 N (f113_at18 N n) x1 x3 x4 x5 s
        else
          f113_at59 N (f113_at18 N n) x1 x3 x4 x5 s
noncomputable def f113 (N : Nat) (x1 : Int) (x2 : Int) (s : gI) : Option (Int × gI) :=
    if x2 = (7 : Int) then
      f113_at18 N N x1 x2 (0 : Int) (0 : Int) s
    else
      f113_at18 N N x1 x2 (1 : Int) (0 : Int) s
/-! GutterNine$Waiting.isRest -/
noncomputable def f112_at24 (N : Nat) (r_at2 : Int → gI → Option (Int × gI)) : Nat → Int → Int → Int → gI → Option (Int × gI)
  | 0, _, _, _, _ => none
  | n + 1, x1, x2, x3, s =>
    if (8 : Int) ≤ x3 then
      iov (x1 + (1 : Int)) <|
      let i1 : Int := (x1 + (1 : Int))
      r_at2 i1 s
    else
      i_o2 (f113 N x1 x3 s) fun i3 s2 =>
      if x2 ≤ i3 then
        iov (x3 + (1 : Int)) <|
        let i4 : Int := (x3 + (1 : Int))
        f112_at24 N r_at2 n x1 x2 i4 s2
      else
        ib1 (0 : Int) <|
        some ((0 : Int), s2)
noncomputable def f112_at2 (N : Nat) : Nat → Int → gI → Option (Int × gI)
  | 0, _, _ => none
  | n + 1, x1, s =>
    if (s.1 38 0) ≤ x1 then
      ib1 (1 : Int) <|
      some ((1 : Int), s)
    else
      ick x1 4 <|
      i_o2 (f113 N x1 (s.1 40 x1) s) fun i2 s1 =>
      f112_at24 N (f112_at2 N n) N x1 i2 (0 : Int) s1
noncomputable def f112 (N : Nat) (s : gI) : Option (Int × gI) :=
    f112_at2 N N (0 : Int) s
/-! GutterNine$Waiting.find -/
noncomputable def f110_at14 (N : Nat) : Nat → Int → Int → Int → Int → gI → Option (Int × gI)
  | 0, _, _, _, _, _ => none
  | n + 1, x1, x2, x3, x4, s =>
    if x2 ≤ x4 then
      if x1 = (-1 : Int) then
        some (x3, s)
      else
        some ((-1 : Int), s)
    else
      i_o1 (f111 N x4 s) fun s1 =>
      i_o2 (f112 N s1) fun i3 s2 =>
      if i3 = 0 then
        iov (x4 + (1 : Int)) <|
        let i4 : Int := (x4 + (1 : Int))
        f110_at14 N n x1 x2 x3 i4 s2
      else
        if x3 = x1 then
          some (x4, s2)
        else
          iov (x3 + (1 : Int)) <|
          let i5 : Int := (x3 + (1 : Int))
          iov (x4 + (1 : Int)) <|
          let i6 : Int := (x4 + (1 : Int))
          f110_at14 N n x1 x2 i5 i6 s2
noncomputable def f110 (N : Nat) (x1 : Int) (s : gI) : Option (Int × gI) :=
    iov ((3 : Int) * (s.1 38 0)) <|
    let i1 : Int := (i_shl (1 : Int) ((3 : Int) * (s.1 38 0)))
    f110_at14 N N x1 i1 (0 : Int) (0 : Int) s
/-! GutterNine.rests -/
noncomputable def f160 (N : Nat) (x1 : Int) (x2 : Int) (s : gI) : Option (Int × gI) :=
    if x1 < 0 then
      some ((-1 : Int), s)
    else
      if (999 : Int) < x1 then
        some ((-1 : Int), s)
      else
        if x2 < (-1 : Int) then
          some ((-1 : Int), s)
        else
          if (s.1 15 0) = 0 then
            some ((-1 : Int), s)
          else
            i_o1 (f109 N x1 s) fun s1 =>
            i_o2 (f110 N x2 s1) fun i3 s2 =>
            some (i3, s2)
/-! GutterNine$Roof.change -/
noncomputable def f85_at82 (N : Nat) (r_at37 : Int → Int → Int → Int → Int → Int → gI → Option (Int × gI)) : Nat → Int → Int → Int → Int → Int → Int → Int → Int → gI → Option (Int × gI)
  | 0, _, _, _, _, _, _, _, _, _ => none
  | n + 1, x1, x2, x3, x4, x5, x6, x7, x8, s =>
    if (5 : Int) < x8 then
      ick x6 64 <|
      let s1 : gI := (iw s 13 x6 x7)
      iov (x6 + (1 : Int)) <|
      let i2 : Int := (x6 + (1 : Int))
      r_at37 x1 x2 x3 x4 x5 i2 s1
    else
      ick x6 64 <|
      let s3 : gI := (iw s 13 x6 x8)
      i_o2 (f84 N 14 x1 (64 : Int) s3) fun i5 s4 =>
      i_o2 (f171 N i5 s4) fun i7 s6 =>
      if i7 = x2 then
        iov (x4 + (1 : Int)) <|
        let i9 : Int := (x4 + (1 : Int))
        if x5 = (-1 : Int) then
          iov (x6 * (8 : Int)) <|
          iov ((x6 * (8 : Int)) + x8) <|
          let i11 : Int := ((x6 * (8 : Int)) + x8)
          iov (x8 + (1 : Int)) <|
          let i12 : Int := (x8 + (1 : Int))
          f85_at82 N r_at37 n x1 x2 x3 i9 i11 x6 x7 i12 s6
        else
          iov (x8 + (1 : Int)) <|
          let i10 : Int := (x8 + (1 : Int))
          f85_at82 N r_at37 n x1 x2 x3 i9 x5 x6 x7 i10 s6
      else
        iov (x8 + (1 : Int)) <|
        let i8 : Int := (x8 + (1 : Int))
        f85_at82 N r_at37 n x1 x2 x3 x4 x5 x6 x7 i8 s6
noncomputable def f85_at37 (N : Nat) : Nat → Int → Int → Int → Int → Int → Int → gI → Option (Int × gI)
  | 0, _, _, _, _, _, _, _ => none
  | n + 1, x1, x2, x3, x4, x5, x6, s =>
    if (64 : Int) ≤ x6 then
      if x3 = 0 then
        if x4 ≤ 0 then
          some (x5, s)
        else
          some (x4, s)
      else
        some (x5, s)
    else
      ick x6 64 <|
      let i1 : Int := (s.1 13 x6)
      idv x6 (8 : Int) <|
      idv x6 (8 : Int) <|
      i_o2 (f78 N (x6 % (8 : Int)) (x6 / (8 : Int)) s) fun i3 s2 =>
      if i3 = 0 then
        iov (x6 + (1 : Int)) <|
        let i4 : Int := (x6 + (1 : Int))
        f85_at37 N n x1 x2 x3 x4 x5 i4 s2
      else
        if i1 ≤ (5 : Int) then
          f85_at82 N (f85_at37 N n) N x1 x2 x3 x4 x5 x6 i1 (0 : Int) s2
        else
          iov (x6 + (1 : Int)) <|
          let i5 : Int := (x6 + (1 : Int))
          f85_at37 N n x1 x2 x3 x4 x5 i5 s2
noncomputable def f85 (N : Nat) (x1 : Int) (x2 : Int) (x3 : Int) (s : gI) : Option (Int × gI) :=
    i_o2 (f84 N 14 x1 (64 : Int) s) fun i2 s1 =>
    i_o2 (f171 N i2 s1) fun i4 s3 =>
    if i4 = x2 then
      if x3 = 0 then
        some ((0 : Int), s3)
      else
        some ((-1 : Int), s3)
    else
      f85_at37 N N x1 x2 x3 (0 : Int) (-1 : Int) (0 : Int) s3
/-! GutterNine.otherwise -/
noncomputable def f161 (N : Nat) (x1 : Int) (x2 : Int) (x3 : Int) (x4 : Int) (s : gI) : Option (Int × gI) :=
    i_o2 (f79 N x1 x2 s) fun i2 s1 =>
    if i2 = 0 then
      some ((-1 : Int), s1)
    else
      if x4 < 0 then
        some ((-1 : Int), s1)
      else
        if x4 ≤ (1 : Int) then
          iov (x2 * (8 : Int)) <|
          iov ((x2 * (8 : Int)) + x1) <|
          i_o2 (f85 N ((x2 * (8 : Int)) + x1) x3 x4 s1) fun i4 s3 =>
          some (i4, s3)
        else
          some ((-1 : Int), s1)
/-! GutterNine$Play.draw -/
noncomputable def f76 (N : Nat) (x1 : Int) (s : gI) : Option (Int × gI) :=
    iol ((s.2 11 4) * (1103515245 : Int)) <|
    iol (((s.2 11 4) * (1103515245 : Int)) + (12345 : Int)) <|
    idv (((s.2 11 4) * (1103515245 : Int)) + (12345 : Int)) (2147483648 : Int) <|
    let s1 : gI := (iwl s 11 4 ((((s.2 11 4) * (1103515245 : Int)) + (12345 : Int)) % (2147483648 : Int)))
    if x1 ≤ 0 then
      some ((0 : Int), s1)
    else
      idv (s1.2 11 4) (65536 : Int) <|
      idv ((s1.2 11 4) / (65536 : Int)) x1 <|
      some ((Int.bmod (((s1.2 11 4) / (65536 : Int)) % x1) 4294967296), s1)
/-! GutterNine$Play.drawThrow -/
noncomputable def f75_at82 (N : Nat) (x1 : Int) (x2 : Int) (x5 : Int) (s : gI) : Option (gI) :=
    ick x1 8 <|
    ick x1 8 <|
    let s1 : gI := (iw s 8 x1 (s.1 19 x1))
    idv x2 (s1.1 12 0) <|
    ick x5 9 <|
    iov ((x2 % (s1.1 12 0)) + (i_c 1000 x5)) <|
    idv x2 (s1.1 12 0) <|
    ick x5 9 <|
    iov ((x2 / (s1.1 12 0)) + (i_c 1001 x5)) <|
    i_o2 (f49 N x1 ((x2 % (s1.1 12 0)) + (i_c 1000 x5)) ((x2 / (s1.1 12 0)) + (i_c 1001 x5)) s1) fun i3 s2 =>
    some s2
noncomputable def f75 (N : Nat) (x1 : Int) (s : gI) : Option (gI) :=
    iov ((s.1 12 0) * (s.1 12 1)) <|
    i_o2 (f76 N ((s.1 12 0) * (s.1 12 1)) s) fun i2 s1 =>
    i_o2 (f76 N (80 : Int) s1) fun i4 s3 =>
    ick x1 8 <|
    ick (s3.1 19 x1) 4 <|
    let i5 : Int := (s3.1 16 (s3.1 19 x1))
    iov ((8 : Int) * i5) <|
    if i4 < ((8 : Int) * i5) then
      f75_at82 N x1 i2 (0 : Int) s3
    else
      if (10 : Int) ≤ i5 then
        f75_at82 N x1 i2 (0 : Int) s3
      else
        iov ((8 : Int) * i5) <|
        iov (i4 - ((8 : Int) * i5)) <|
        iov ((10 : Int) - i5) <|
        idv (i4 - ((8 : Int) * i5)) ((10 : Int) - i5) <|
        iov ((1 : Int) + ((i4 - ((8 : Int) * i5)) / ((10 : Int) - i5))) <|
        let i6 : Int := ((1 : Int) + ((i4 - ((8 : Int) * i5)) / ((10 : Int) - i5)))
        f75_at82 N x1 i2 i6 s3
/-! GutterNine$Play.drawSummer -/
noncomputable def f74_at64 (N : Nat) (r_at8 : Int → Int → gI → Option (gI)) (x2 : Int) (x3 : Int) (s : gI) : Option (gI) :=
    i_o1 (f62 N s) fun s1 =>
    iov (x3 + (1 : Int)) <|
    let i2 : Int := (x3 + (1 : Int))
    r_at8 x2 i2 s1
noncomputable def f74_at47 (N : Nat) (r_at8 : Int → Int → gI → Option (gI)) (x2 : Int) (x3 : Int) (s : gI) : Option (gI) :=
    idv x3 (10 : Int) <|
    if (x3 % (10 : Int)) = 0 then
      i_o2 (f76 N (4 : Int) s) fun i2 s1 =>
      i_o2 (f59 N i2 s1) fun i4 s3 =>
      f74_at64 N r_at8 x2 x3 s3
    else
      f74_at64 N r_at8 x2 x3 s
noncomputable def f74_at8 (N : Nat) : Nat → Int → Int → gI → Option (gI)
  | 0, _, _, _ => none
  | n + 1, x2, x3, s =>
    if x2 < x3 then
      some s
    else
      i_o2 (f76 N (s.1 15 3) s) fun i2 s1 =>
      ick i2 8 <|
      if (s1.1 7 i2) = (64 : Int) then
        i_o1 (f75 N i2 s1) fun s3 =>
        f74_at47 N (f74_at8 N n) x2 x3 s3
      else
        f74_at47 N (f74_at8 N n) x2 x3 s1
noncomputable def f74 (N : Nat) (x1 : Int) (x2 : Int) (s : gI) : Option (gI) :=
    let s1 : gI := (iwl s 11 4 x1)
    f74_at8 N N x2 (1 : Int) s1
/-! GutterNine.summer -/
noncomputable def f162_at146 (N : Nat) (x6 : Int) (s : gI) : Option (Int × gI) :=
    i_o1 (f48 N s) fun s1 =>
    some (x6, s1)
noncomputable def f162_at36 (N : Nat) (x1 : Int) (x2 : Int) (x3 : Int) (z0 : Int) (s : gI) : Option (Int × gI) :=
    if z0 = 0 then
      some ((-1 : Int), s)
    else
      if (s.1 15 3) = 0 then
        some ((-1 : Int), s)
      else
        let i1 : Int := (s.1 6 5)
        i_o1 (f47 N s) fun s2 =>
        i_o1 (f74 N x1 x2 s2) fun s3 =>
        iov ((s3.1 6 5) - i1) <|
        let i4 : Int := ((s3.1 6 5) - i1)
        if x3 = 0 then
          i_o2 (f72 N (64 : Int) s3) fun i10 s9 =>
          f162_at146 N i10 s9
        else
          if x3 = (1 : Int) then
            i_o2 (f72 N (65 : Int) s3) fun i8 s7 =>
            f162_at146 N i8 s7
          else
            if x3 = (2 : Int) then
              i_o2 (f68 N s3) fun i6 s5 =>
              f162_at146 N i6 s5
            else
              f162_at146 N i4 s3
noncomputable def f162_at35 (N : Nat) (x1 : Int) (x2 : Int) (x3 : Int) (s : gI) : Option (Int × gI) :=
    f162_at36 N x1 x2 x3 (0 : Int) s
noncomputable def f162 (N : Nat) (x1 : Int) (x2 : Int) (x3 : Int) (s : gI) : Option (Int × gI) :=
    if x1 < 0 then
      f162_at35 N x1 x2 x3 s
    else
      if (9999 : Int) < x1 then
        f162_at35 N x1 x2 x3 s
      else
        if x2 < (1 : Int) then
          f162_at35 N x1 x2 x3 s
        else
          if (60 : Int) < x2 then
            f162_at35 N x1 x2 x3 s
          else
            if x3 < 0 then
              f162_at35 N x1 x2 x3 s
            else
              if (3 : Int) < x3 then
                f162_at35 N x1 x2 x3 s
              else
                f162_at36 N x1 x2 x3 (1 : Int) s
/-! GutterNine$Past.lay -/
noncomputable def f44 (N : Nat) (x2 : Int) (s : gI) : Option (Int × gI) :=
    if x2 < 0 then
      ib1 (0 : Int) <|
      some ((0 : Int), s)
    else
      if x2 < (4 : Int) then
        i_o1 (f90 N 43 104 x2 s) fun s1 =>
        let s2 : gI := (iw s1 41 2 (i_or (s1.1 41 2) (i_shl (1 : Int) x2)))
        ib1 (1 : Int) <|
        some ((1 : Int), s2)
      else
        ib1 (0 : Int) <|
        some ((0 : Int), s)
/-! GutterNine$Scene.loadSeen -/
noncomputable def f92 (N : Nat) (x2 : Int) (s : gI) : Option (gI) :=
    iov (x2 * (26 : Int)) <|
    iov ((x2 * (26 : Int)) + (16 : Int)) <|
    icp ((x2 * (26 : Int)) + (16 : Int)) (0 : Int) (8 : Int) 104 8 <|
    let s1 : gI := (icw s 43 10 ((x2 * (26 : Int)) + (16 : Int)) (0 : Int) (8 : Int))
    some s1
/-! GutterNine$Past.goBack -/
noncomputable def f45 (N : Nat) (x2 : Int) (s : gI) : Option (Int × gI) :=
    if x2 < 0 then
      ib1 (0 : Int) <|
      some ((0 : Int), s)
    else
      if (4 : Int) ≤ x2 then
        ib1 (0 : Int) <|
        some ((0 : Int), s)
      else
        if (i_and (i_shr (s.1 41 2) x2) (1 : Int)) = 0 then
          ib1 (0 : Int) <|
          some ((0 : Int), s)
        else
          i_o1 (f91 N 43 104 x2 s) fun s1 =>
          i_o1 (f92 N x2 s1) fun s2 =>
          let s3 : gI := (iw s2 41 4 (0 : Int))
          ib1 (1 : Int) <|
          some ((1 : Int), s3)
/-! GutterNine.mark -/
noncomputable def f163 (N : Nat) (x1 : Int) (x2 : Int) (s : gI) : Option (Int × gI) :=
    if x2 = 0 then
      i_o2 (f44 N x1 s) fun i2 s1 =>
      ib1 i2 <|
      some (i2, s1)
    else
      i_o2 (f45 N x1 s) fun i4 s3 =>
      ib1 i4 <|
      some (i4, s3)
/-! GutterNine$Scene.columnsSeen -/
noncomputable def f93_at27 (N : Nat) (r_at4 : Int → Int → gI → Option (Int × gI)) (x2 : Int) (z0 : Int) (z1 : Int) (s : gI) : Option (Int × gI) :=
    iov (z1 + z0) <|
    let i1 : Int := (z1 + z0)
    iov (x2 + (1 : Int)) <|
    let i2 : Int := (x2 + (1 : Int))
    r_at4 i1 i2 s
noncomputable def f93_at4 (N : Nat) : Nat → Int → Int → gI → Option (Int × gI)
  | 0, _, _, _ => none
  | n + 1, x1, x2, s =>
    if (8 : Int) ≤ x2 then
      some (x1, s)
    else
      ick x2 8 <|
      if (s.1 10 x2) = (-2 : Int) then
        f93_at27 N (f93_at4 N n) x2 (0 : Int) x1 s
      else
        f93_at27 N (f93_at4 N n) x2 (1 : Int) x1 s
noncomputable def f93 (N : Nat) (s : gI) : Option (Int × gI) :=
    f93_at4 N N (0 : Int) (0 : Int) s
/-! GutterNine.count -/
noncomputable def f164 (N : Nat) (x1 : Int) (s : gI) : Option (Int × gI) :=
    if x1 = 0 then
      some ((s.1 12 0), s)
    else if x1 = 1 then
      some ((s.1 12 1), s)
    else if x1 = 2 then
      some ((s.1 15 0), s)
    else if x1 = 3 then
      some ((s.1 15 3), s)
    else if x1 = 4 then
      i_o2 (f72 N (64 : Int) s) fun i2 s1 =>
      some (i2, s1)
    else if x1 = 5 then
      i_o2 (f68 N s) fun i4 s3 =>
      i_o2 (f72 N (66 : Int) s3) fun i6 s5 =>
      iov (i4 - i6) <|
      some ((i4 - i6), s5)
    else if x1 = 6 then
      i_o2 (f72 N (65 : Int) s) fun i8 s7 =>
      some (i8, s7)
    else if x1 = 7 then
      i_o2 (f72 N (66 : Int) s) fun i10 s9 =>
      some (i10, s9)
    else if x1 = 8 then
      some ((s.1 6 4), s)
    else if x1 = 9 then
      some ((s.1 6 5), s)
    else if x1 = 10 then
      some ((s.1 41 4), s)
    else if x1 = 11 then
      i_o2 (f93 N s) fun i12 s11 =>
      some (i12, s11)
    else if x1 = 12 then
      some ((s.1 1 1), s)
    else 
      some ((-1 : Int), s)
/-! GutterNineModel.thrown -/
noncomputable def f173 (N : Nat) (s : gI) : Option (Int × gI) :=
    some ((s.1 63 0), s)
/-! GutterNineModel.lay -/
noncomputable def f175_at38 (N : Nat) (r_at3 : Int → Int → gI → Option (gI)) (y1 : Int) (x3 : Int) (x4 : Int) (s : gI) : Option (gI) :=
    if (1000 : Int) ≤ (s.1 63 2) then
      iov (x3 + (-8 : Int)) <|
      let i1 : Int := (x3 + (-8 : Int))
      r_at3 y1 i1 s
    else
      ick (s.1 63 2) 1000 <|
      let s2 : gI := (iw s 64 (s.1 63 2) x4)
      iov ((s2.1 63 2) + (1 : Int)) <|
      let s3 : gI := (iw s2 63 2 ((s2.1 63 2) + (1 : Int)))
      iov (x3 + (-8 : Int)) <|
      let i4 : Int := (x3 + (-8 : Int))
      r_at3 y1 i4 s3
noncomputable def f175_at3 (N : Nat) : Nat → Int → Int → gI → Option (gI)
  | 0, _, _, _ => none
  | n + 1, y1, x3, s =>
    if x3 < 0 then
      some s
    else
      let i1 : Int := (i_and (Int.bmod (j_shr y1 x3) 4294967296) (255 : Int))
      if i1 = (10 : Int) then
        f175_at38 N (f175_at3 N n) y1 x3 i1 s
      else
        if i1 < (32 : Int) then
          iov (x3 + (-8 : Int)) <|
          let i2 : Int := (x3 + (-8 : Int))
          f175_at3 N n y1 i2 s
        else
          if (126 : Int) < i1 then
            iov (x3 + (-8 : Int)) <|
            let i3 : Int := (x3 + (-8 : Int))
            f175_at3 N n y1 i3 s
          else
            f175_at38 N (f175_at3 N n) y1 x3 i1 s
noncomputable def f175 (N : Nat) (y1 : Int) (s : gI) : Option (gI) :=
    f175_at3 N N y1 (56 : Int) s
/-! GutterNineModel.feed -/
noncomputable def f174 (N : Nat) (y1 : Int) (y3 : Int) (y5 : Int) (s : gI) : Option (Int × gI) :=
    let s1 : gI := (iw s 63 0 (0 : Int))
    i_o1 (f175 N y1 s1) fun s2 =>
    i_o1 (f175 N y3 s2) fun s3 =>
    i_o1 (f175 N y5 s3) fun s4 =>
    some ((s4.1 63 2), s4)
/-! GutterNineModel.isLetter -/
noncomputable def f177 (N : Nat) (x0 : Int) (s : gI) : Option (Int × gI) :=
    if x0 < (97 : Int) then
      ib1 (0 : Int) <|
      some ((0 : Int), s)
    else
      if (122 : Int) < x0 then
        ib1 (0 : Int) <|
        some ((0 : Int), s)
      else
        ib1 (1 : Int) <|
        some ((1 : Int), s)
/-! GutterNineModel.isDigit -/
noncomputable def f178 (N : Nat) (x0 : Int) (s : gI) : Option (Int × gI) :=
    if x0 < (48 : Int) then
      ib1 (0 : Int) <|
      some ((0 : Int), s)
    else
      if (57 : Int) < x0 then
        ib1 (0 : Int) <|
        some ((0 : Int), s)
      else
        ib1 (1 : Int) <|
        some ((1 : Int), s)
/-! GutterNineModel.isSignOf -/
noncomputable def f180 (N : Nat) (x0 : Int) (s : gI) : Option (Int × gI) :=
    if x0 = (40 : Int) then
      ib1 (1 : Int) <|
      some ((1 : Int), s)
    else
      if x0 = (41 : Int) then
        ib1 (1 : Int) <|
        some ((1 : Int), s)
      else
        if x0 = (59 : Int) then
          ib1 (1 : Int) <|
          some ((1 : Int), s)
        else
          if x0 = (61 : Int) then
            ib1 (1 : Int) <|
            some ((1 : Int), s)
          else
            if x0 = (60 : Int) then
              ib1 (1 : Int) <|
              some ((1 : Int), s)
            else
              if x0 = (43 : Int) then
                ib1 (1 : Int) <|
                some ((1 : Int), s)
              else
                if x0 = (45 : Int) then
                  ib1 (1 : Int) <|
                  some ((1 : Int), s)
                else
                  if x0 = (42 : Int) then
                    ib1 (1 : Int) <|
                    some ((1 : Int), s)
                  else
                    ib1 (0 : Int) <|
                    some ((0 : Int), s)
/-! GutterNineModel.rank -/
noncomputable def f179 (N : Nat) (x0 : Int) (s : gI) : Option (Int × gI) :=
    i_o2 (f177 N x0 s) fun i2 s1 =>
    if i2 = 0 then
      iov (x0 - (21 : Int)) <|
      some ((x0 - (21 : Int)), s1)
    else
      iov (x0 - (96 : Int)) <|
      some ((x0 - (96 : Int)), s1)
/-! GutterNineModel.cutAll -/
noncomputable def f181_at265 (N : Nat) (r_at17 : Int → Int → gI → Option (gI)) (x1 : Int) (x2 : Int) (y5 : Int) (s : gI) : Option (gI) :=
    ick x1 1002 <|
    let s1 : gI := (iwl s 67 x1 y5)
    iov (x1 + (1 : Int)) <|
    let i2 : Int := (x1 + (1 : Int))
    r_at17 i2 x2 s1
noncomputable def f181_at261 (N : Nat) (r_at17 : Int → Int → gI → Option (gI)) (x1 : Int) (x2 : Int) (y5 : Int) (z0 : Int) (z1 : Int) (s : gI) : Option (gI) :=
    ick z1 1002 <|
    let s1 : gI := (iw s 65 z1 z0)
    iov (x2 + (1 : Int)) <|
    let i2 : Int := (x2 + (1 : Int))
    f181_at265 N r_at17 x1 i2 y5 s1
noncomputable def f181_at236 (N : Nat) (r_at17 : Int → Int → gI → Option (gI)) (x1 : Int) (x2 : Int) (y5 : Int) (z0 : Int) (z1 : Int) (s : gI) : Option (gI) :=
    ick z1 1002 <|
    let s1 : gI := (iw s 65 z1 z0)
    f181_at265 N r_at17 x1 x2 y5 s1
noncomputable def f181_at218 (N : Nat) (r_at17 : Int → Int → gI → Option (gI)) (x1 : Int) (x2 : Int) (x4 : Int) (y5 : Int) (s : gI) : Option (gI) :=
    iov (x2 - x4) <|
    if (x2 - x4) ≤ (4 : Int) then
      f181_at236 N r_at17 x1 x2 y5 (2 : Int) x1 s
    else
      f181_at236 N r_at17 x1 x2 y5 (4 : Int) x1 s
noncomputable def f181_at159 (N : Nat) (r_at17 : Int → Int → gI → Option (gI)) : Nat → Int → Int → Int → Int → gI → Option (gI)
  | 0, _, _, _, _, _ => none
  | n + 1, x1, x2, x4, y5, s =>
    if (s.1 63 3) ≤ x2 then
      f181_at218 N r_at17 x1 x2 x4 y5 s
    else
      ick x2 1000 <|
      i_o2 (f178 N (s.1 64 x2) s) fun i2 s1 =>
      if i2 = 0 then
        f181_at218 N r_at17 x1 x2 x4 y5 s1
      else
        iov (x2 - x4) <|
        if (4 : Int) ≤ (x2 - x4) then
          iov (x2 + (1 : Int)) <|
          let i3 : Int := (x2 + (1 : Int))
          f181_at159 N r_at17 n x1 i3 x4 y5 s1
        else
          iol ((10 : Int) * y5) <|
          ick x2 1000 <|
          iol (((10 : Int) * y5) + (s1.1 64 x2)) <|
          iol ((((10 : Int) * y5) + (s1.1 64 x2)) - (48 : Int)) <|
          let j4 : Int := ((((10 : Int) * y5) + (s1.1 64 x2)) - (48 : Int))
          iov (x2 + (1 : Int)) <|
          let i5 : Int := (x2 + (1 : Int))
          f181_at159 N r_at17 n x1 i5 x4 j4 s1
noncomputable def f181_at148 (N : Nat) (r_at17 : Int → Int → gI → Option (gI)) (x1 : Int) (x2 : Int) (y5 : Int) (z0 : Int) (z1 : Int) (s : gI) : Option (gI) :=
    ick z1 1002 <|
    let s1 : gI := (iw s 65 z1 z0)
    f181_at265 N r_at17 x1 x2 y5 s1
noncomputable def f181_at129 (N : Nat) (r_at17 : Int → Int → gI → Option (gI)) (x1 : Int) (x2 : Int) (x4 : Int) (y5 : Int) (s : gI) : Option (gI) :=
    iov (x2 - x4) <|
    if (x2 - x4) ≤ (8 : Int) then
      f181_at148 N r_at17 x1 x2 y5 (1 : Int) x1 s
    else
      f181_at148 N r_at17 x1 x2 y5 (4 : Int) x1 s
noncomputable def f181_at70 (N : Nat) (r_at17 : Int → Int → gI → Option (gI)) : Nat → Int → Int → Int → Int → gI → Option (gI)
  | 0, _, _, _, _, _ => none
  | n + 1, x1, x2, x4, y5, s =>
    if (s.1 63 3) ≤ x2 then
      f181_at129 N r_at17 x1 x2 x4 y5 s
    else
      ick x2 1000 <|
      i_o2 (f177 N (s.1 64 x2) s) fun i2 s1 =>
      if i2 = 0 then
        f181_at129 N r_at17 x1 x2 x4 y5 s1
      else
        iov (x2 - x4) <|
        if (8 : Int) ≤ (x2 - x4) then
          iov (x2 + (1 : Int)) <|
          let i3 : Int := (x2 + (1 : Int))
          f181_at70 N r_at17 n x1 i3 x4 y5 s1
        else
          iol ((37 : Int) * y5) <|
          ick x2 1000 <|
          i_o2 (f179 N (s1.1 64 x2) s1) fun i5 s4 =>
          iol (((37 : Int) * y5) + i5) <|
          let j6 : Int := (((37 : Int) * y5) + i5)
          iov (x2 + (1 : Int)) <|
          let i7 : Int := (x2 + (1 : Int))
          f181_at70 N r_at17 n x1 i7 x4 j6 s4
noncomputable def f181_at17 (N : Nat) : Nat → Int → Int → gI → Option (gI)
  | 0, _, _, _ => none
  | n + 1, x1, x2, s =>
    if (s.1 63 3) ≤ x2 then
      ick x1 1002 <|
      let s1 : gI := (iw s 65 x1 (0 : Int))
      ick x1 1002 <|
      let s2 : gI := (iw s1 66 x1 (s1.1 63 3))
      let s3 : gI := (iw s2 63 7 (0 : Int))
      let s4 : gI := (iw s3 63 8 (0 : Int))
      some s4
    else
      ick x2 1000 <|
      let i5 : Int := (s.1 64 x2)
      if i5 = (10 : Int) then
        iov (x2 + (1 : Int)) <|
        let i6 : Int := (x2 + (1 : Int))
        f181_at17 N n x1 i6 s
      else
        if i5 = (32 : Int) then
          iov (x2 + (1 : Int)) <|
          let i14 : Int := (x2 + (1 : Int))
          f181_at17 N n x1 i14 s
        else
          ick x1 1002 <|
          let s7 : gI := (iw s 66 x1 x2)
          i_o2 (f177 N i5 s7) fun i9 s8 =>
          if i9 = 0 then
            i_o2 (f178 N i5 s8) fun i11 s10 =>
            if i11 = 0 then
              i_o2 (f180 N i5 s10) fun i13 s12 =>
              if i13 = 0 then
                f181_at261 N (f181_at17 N n) x1 x2 i5 (4 : Int) x1 s12
              else
                f181_at261 N (f181_at17 N n) x1 x2 i5 (3 : Int) x1 s12
            else
              f181_at159 N (f181_at17 N n) N x1 x2 x2 (0 : Int) s10
          else
            f181_at70 N (f181_at17 N n) N x1 x2 x2 (0 : Int) s8
noncomputable def f181 (N : Nat) (s : gI) : Option (gI) :=
    let s1 : gI := (iw s 63 3 (s.1 63 2))
    let s2 : gI := (iw s1 63 2 (0 : Int))
    f181_at17 N N (0 : Int) (0 : Int) s2
/-! GutterNineModel.isWord -/
noncomputable def f184 (N : Nat) (x1 : Int) (s : gI) : Option (Int × gI) :=
    if (s.1 63 8) = 0 then
      ick (s.1 63 7) 1002 <|
      if (s.1 65 (s.1 63 7)) = (1 : Int) then
        ick (s.1 63 7) 1002 <|
        ick x1 28 <|
        if (i_cmp (s.2 67 (s.1 63 7)) (s.2 68 x1)) = 0 then
          ib1 (1 : Int) <|
          some ((1 : Int), s)
        else
          ib1 (0 : Int) <|
          some ((0 : Int), s)
      else
        ib1 (0 : Int) <|
        some ((0 : Int), s)
    else
      ib1 (0 : Int) <|
      some ((0 : Int), s)
/-! GutterNineModel.hasWord -/
noncomputable def f187_at20 (N : Nat) (x2 : Int) (z0 : Int) (z1 : Int) (s : gI) : Option (Int × gI) :=
    iov (z1 + z0) <|
    let s1 : gI := (iw s 63 7 (z1 + z0))
    ib1 x2 <|
    some (x2, s1)
noncomputable def f187 (N : Nat) (x1 : Int) (s : gI) : Option (Int × gI) :=
    i_o2 (f184 N x1 s) fun i2 s1 =>
    if i2 = 0 then
      f187_at20 N i2 (0 : Int) (s1.1 63 7) s1
    else
      f187_at20 N i2 (1 : Int) (s1.1 63 7) s1
/-! GutterNineModel.wrong -/
noncomputable def f182 (N : Nat) (x1 : Int) (s : gI) : Option (gI) :=
    if (s.1 63 8) = 0 then
      ick (s.1 63 7) 1002 <|
      iov ((16 : Int) * (s.1 66 (s.1 63 7))) <|
      iov (x1 + ((16 : Int) * (s.1 66 (s.1 63 7)))) <|
      let s1 : gI := (iw s 63 8 (x1 + ((16 : Int) * (s.1 66 (s.1 63 7)))))
      some s1
    else
      some s
/-! GutterNineModel.takeWord -/
noncomputable def f188 (N : Nat) (x1 : Int) (s : gI) : Option (gI) :=
    i_o2 (f187 N x1 s) fun i2 s1 =>
    if i2 = 0 then
      i_o1 (f182 N (1 : Int) s1) fun s3 =>
      some s3
    else
      some s1
/-! GutterNineModel.takeNumber -/
noncomputable def f190_at70 (N : Nat) (s : gI) : Option (Int × gI) :=
    if (s.1 63 8) ≤ 0 then
      iov ((s.1 63 7) + (1 : Int)) <|
      let s1 : gI := (iw s 63 7 ((s.1 63 7) + (1 : Int)))
      iov ((s1.1 63 7) - (1 : Int)) <|
      ick ((s1.1 63 7) - (1 : Int)) 1002 <|
      some ((Int.bmod (s1.2 67 ((s1.1 63 7) - (1 : Int))) 4294967296), s1)
    else
      some ((0 : Int), s)
noncomputable def f190_at65 (N : Nat) (s : gI) : Option (Int × gI) :=
    i_o1 (f182 N (4 : Int) s) fun s1 =>
    f190_at70 N s1
noncomputable def f190_at28 (N : Nat) (x1 : Int) (x2 : Int) (s : gI) : Option (Int × gI) :=
    if (s.1 63 8) = 0 then
      ick (s.1 63 7) 1002 <|
      if (i_cmp (s.2 67 (s.1 63 7)) x1) < 0 then
        f190_at65 N s
      else
        ick (s.1 63 7) 1002 <|
        if (i_cmp (s.2 67 (s.1 63 7)) x2) ≤ 0 then
          f190_at70 N s
        else
          f190_at65 N s
    else
      f190_at70 N s
noncomputable def f190 (N : Nat) (x1 : Int) (x2 : Int) (s : gI) : Option (Int × gI) :=
    if (s.1 63 8) = 0 then
      ick (s.1 63 7) 1002 <|
      if (s.1 65 (s.1 63 7)) = (2 : Int) then
        f190_at28 N x1 x2 s
      else
        i_o1 (f182 N (1 : Int) s) fun s1 =>
        f190_at70 N s1
    else
      f190_at28 N x1 x2 s
/-! GutterNineModel.isSign -/
noncomputable def f183 (N : Nat) (x1 : Int) (s : gI) : Option (Int × gI) :=
    if (s.1 63 8) = 0 then
      ick (s.1 63 7) 1002 <|
      if (s.1 65 (s.1 63 7)) = (3 : Int) then
        ick (s.1 63 7) 1002 <|
        if (i_cmp (s.2 67 (s.1 63 7)) x1) = 0 then
          ib1 (1 : Int) <|
          some ((1 : Int), s)
        else
          ib1 (0 : Int) <|
          some ((0 : Int), s)
      else
        ib1 (0 : Int) <|
        some ((0 : Int), s)
    else
      ib1 (0 : Int) <|
      some ((0 : Int), s)
/-! GutterNineModel.takeSign -/
noncomputable def f185 (N : Nat) (x1 : Int) (s : gI) : Option (gI) :=
    i_o2 (f183 N x1 s) fun i2 s1 =>
    if i2 = 0 then
      i_o1 (f182 N (1 : Int) s1) fun s3 =>
      some s3
    else
      iov ((s1.1 63 7) + (1 : Int)) <|
      let s4 : gI := (iw s1 63 7 ((s1.1 63 7) + (1 : Int)))
      some s4
/-! GutterNineModel.begins -/
noncomputable def f216_at66 (N : Nat) : Nat → Int → gI → Option (gI)
  | 0, _, _ => none
  | n + 1, x1, s =>
    if (4 : Int) ≤ x1 then
      some s
    else
      ick x1 4 <|
      ib1 (0 : Int) <|
      let s1 : gI := (iw s 79 x1 (0 : Int))
      iov (x1 + (1 : Int)) <|
      let i2 : Int := (x1 + (1 : Int))
      f216_at66 N n i2 s1
noncomputable def f216_at2 (N : Nat) : Nat → Int → gI → Option (gI)
  | 0, _, _ => none
  | n + 1, x1, s =>
    if (8 : Int) ≤ x1 then
      ick (16 : Int) 700 <|
      let s1 : gI := (iw s 78 (16 : Int) (0 : Int))
      ick (17 : Int) 700 <|
      let s2 : gI := (iw s1 78 (17 : Int) (0 : Int))
      let s3 : gI := (iw s2 63 23 (0 : Int))
      f216_at66 N N (0 : Int) s3
    else
      ick x1 700 <|
      let s4 : gI := (iw s 78 x1 (64 : Int))
      iov ((8 : Int) + x1) <|
      ick ((8 : Int) + x1) 700 <|
      let s5 : gI := (iw s4 78 ((8 : Int) + x1) (-1 : Int))
      iov ((18 : Int) + x1) <|
      ick ((18 : Int) + x1) 700 <|
      let s6 : gI := (iw s5 78 ((18 : Int) + x1) (-2 : Int))
      iov (x1 + (1 : Int)) <|
      let i7 : Int := (x1 + (1 : Int))
      f216_at2 N n i7 s6
noncomputable def f216 (N : Nat) (s : gI) : Option (gI) :=
    f216_at2 N N (0 : Int) s
/-! GutterNineModel.tileOf -/
noncomputable def f193_at4 (N : Nat) : Nat → Int → Int → Int → gI → Option (Int × gI)
  | 0, _, _, _, _ => none
  | n + 1, x1, x2, x3, s =>
    if (9 : Int) ≤ x3 then
      some (x2, s)
    else
      ick x3 9 <|
      if (s.1 70 x3) = x1 then
        iov (x3 + (1 : Int)) <|
        let i2 : Int := (x3 + (1 : Int))
        f193_at4 N n x1 x3 i2 s
      else
        iov (x3 + (1 : Int)) <|
        let i1 : Int := (x3 + (1 : Int))
        f193_at4 N n x1 x2 i1 s
noncomputable def f193 (N : Nat) (x1 : Int) (s : gI) : Option (Int × gI) :=
    f193_at4 N N x1 (-1 : Int) (0 : Int) s
/-! GutterNineModel.takeRow -/
noncomputable def f194_at147 (N : Nat) (s : gI) : Option (gI) :=
    if (s.1 63 8) ≤ 0 then
      iov ((s.1 63 7) + (1 : Int)) <|
      let s1 : gI := (iw s 63 7 ((s.1 63 7) + (1 : Int)))
      some s1
    else
      iov ((s.1 63 7) + (0 : Int)) <|
      let s2 : gI := (iw s 63 7 ((s.1 63 7) + (0 : Int)))
      some s2
noncomputable def f194_at142 (N : Nat) (s : gI) : Option (gI) :=
    i_o1 (f182 N (2 : Int) s) fun s1 =>
    f194_at147 N s1
noncomputable def f194_at100 (N : Nat) (r_at59 : Int → Int → Int → Int → gI → Option (gI)) (x1 : Int) (y3 : Int) (x6 : Int) (x7 : Int) (z0 : Int) (s : gI) : Option (gI) :=
    iov ((8 : Int) * x1) <|
    iov ((72 : Int) + ((8 : Int) * x1)) <|
    iov (((72 : Int) + ((8 : Int) * x1)) + x6) <|
    ick (((72 : Int) + ((8 : Int) * x1)) + x6) 140 <|
    let s1 : gI := (iw s 69 (((72 : Int) + ((8 : Int) * x1)) + x6) x7)
    idv y3 (37 : Int) <|
    let j2 : Int := (y3 / (37 : Int))
    iov (x6 + (-1 : Int)) <|
    let i3 : Int := (x6 + (-1 : Int))
    r_at59 x1 j2 z0 i3 s1
noncomputable def f194_at99 (N : Nat) (r_at59 : Int → Int → Int → Int → gI → Option (gI)) (x1 : Int) (y3 : Int) (x6 : Int) (x7 : Int) (s : gI) : Option (gI) :=
    f194_at100 N r_at59 x1 y3 x6 x7 (0 : Int) s
noncomputable def f194_at59 (N : Nat) : Nat → Int → Int → Int → Int → gI → Option (gI)
  | 0, _, _, _, _, _ => none
  | n + 1, x1, y3, x5, x6, s =>
    if x6 < 0 then
      if x5 = 0 then
        f194_at142 N s
      else
        if (i_cmp y3 (0 : Int)) ≤ 0 then
          f194_at147 N s
        else
          f194_at142 N s
    else
      idv y3 (37 : Int) <|
      iov ((Int.bmod (y3 % (37 : Int)) 4294967296) + (96 : Int)) <|
      i_o2 (f193 N ((Int.bmod (y3 % (37 : Int)) 4294967296) + (96 : Int)) s) fun i2 s1 =>
      if x5 = 0 then
        f194_at99 N (f194_at59 N n) x1 y3 x6 i2 s1
      else
        if (i_cmp y3 (0 : Int)) ≤ 0 then
          f194_at99 N (f194_at59 N n) x1 y3 x6 i2 s1
        else
          if i2 < 0 then
            f194_at99 N (f194_at59 N n) x1 y3 x6 i2 s1
          else
            f194_at100 N (f194_at59 N n) x1 y3 x6 i2 (1 : Int) s1
noncomputable def f194_at25 (N : Nat) (x1 : Int) (s : gI) : Option (gI) :=
    if (s.1 63 8) ≤ 0 then
      ick (70 : Int) 140 <|
      let i1 : Int := (s.1 69 (70 : Int))
      ick (s.1 63 7) 1002 <|
      let j2 : Int := (s.2 67 (s.1 63 7))
      iov (i1 - (1 : Int)) <|
      let i3 : Int := (i1 - (1 : Int))
      f194_at59 N N x1 j2 (1 : Int) i3 s
    else
      some s
noncomputable def f194 (N : Nat) (x1 : Int) (s : gI) : Option (gI) :=
    if (s.1 63 8) = 0 then
      ick (s.1 63 7) 1002 <|
      if (s.1 65 (s.1 63 7)) = (1 : Int) then
        f194_at25 N x1 s
      else
        i_o1 (f182 N (1 : Int) s) fun s1 =>
        f194_at25 N x1 s1
    else
      f194_at25 N x1 s
/-! GutterNineModel.roof -/
noncomputable def f195_at167 (N : Nat) : Nat → Int → gI → Option (Int × gI)
  | 0, _, _ => none
  | n + 1, x1, s =>
    if (70 : Int) ≤ x1 then
      i_o1 (f216 N s) fun s1 =>
      some ((0 : Int), s1)
    else
      iov ((70 : Int) + x1) <|
      ick ((70 : Int) + x1) 140 <|
      ick x1 140 <|
      let s2 : gI := (iw s 69 x1 (s.1 69 ((70 : Int) + x1)))
      iov (x1 + (1 : Int)) <|
      let i3 : Int := (x1 + (1 : Int))
      f195_at167 N n i3 s2
noncomputable def f195_at153 (N : Nat) (s : gI) : Option (Int × gI) :=
    if (s.1 63 8) ≤ 0 then
      f195_at167 N N (0 : Int) s
    else
      some ((s.1 63 8), s)
noncomputable def f195_at150 (N : Nat) (z0 : Int) (s : gI) : Option (Int × gI) :=
    i_o1 (f182 N z0 s) fun s1 =>
    f195_at153 N s1
noncomputable def f195_at116 (N : Nat) (s : gI) : Option (Int × gI) :=
    if (s.1 63 8) = 0 then
      ick (s.1 63 7) 1002 <|
      if (s.1 65 (s.1 63 7)) = 0 then
        f195_at153 N s
      else
        i_o2 (f184 N (27 : Int) s) fun i2 s1 =>
        if i2 = 0 then
          f195_at150 N (1 : Int) s1
        else
          f195_at150 N (5 : Int) s1
    else
      f195_at153 N s
noncomputable def f195_at75 (N : Nat) : Nat → Int → gI → Option (Int × gI)
  | 0, _, _ => none
  | n + 1, x1, s =>
    ick (71 : Int) 140 <|
    if (s.1 69 (71 : Int)) ≤ x1 then
      f195_at116 N s
    else
      if (s.1 63 8) = 0 then
        i_o1 (f188 N (27 : Int) s) fun s1 =>
        i_o1 (f194 N x1 s1) fun s2 =>
        i_o1 (f185 N (59 : Int) s2) fun s3 =>
        iov (x1 + (1 : Int)) <|
        let i4 : Int := (x1 + (1 : Int))
        f195_at75 N n i4 s3
      else
        f195_at116 N s
noncomputable def f195_at11 (N : Nat) : Nat → Int → gI → Option (Int × gI)
  | 0, _, _ => none
  | n + 1, x1, s =>
    if (70 : Int) ≤ x1 then
      i_o1 (f188 N (26 : Int) s) fun s1 =>
      i_o2 (f190 N (2 : Int) (8 : Int) s1) fun i3 s2 =>
      ick (70 : Int) 140 <|
      let s4 : gI := (iw s2 69 (70 : Int) i3)
      i_o2 (f190 N (2 : Int) (8 : Int) s4) fun i6 s5 =>
      ick (71 : Int) 140 <|
      let s7 : gI := (iw s5 69 (71 : Int) i6)
      i_o1 (f185 N (59 : Int) s7) fun s8 =>
      f195_at75 N N (0 : Int) s8
    else
      iov ((70 : Int) + x1) <|
      ick ((70 : Int) + x1) 140 <|
      let s9 : gI := (iw s 69 ((70 : Int) + x1) (0 : Int))
      iov (x1 + (1 : Int)) <|
      let i10 : Int := (x1 + (1 : Int))
      f195_at11 N n i10 s9
noncomputable def f195 (N : Nat) (s : gI) : Option (Int × gI) :=
    let s1 : gI := (iw s 63 0 (0 : Int))
    i_o1 (f181 N s1) fun s2 =>
    f195_at11 N N (0 : Int) s2
/-! GutterNineModel.standsAsAlways -/
noncomputable def f196_at2 (N : Nat) : Nat → Int → Int → gI → Option (gI)
  | 0, _, _, _ => none
  | n + 1, x1, x2, s =>
    if (70 : Int) ≤ x2 then
      iov (x1 + (3 : Int)) <|
      ick (x1 + (3 : Int)) 140 <|
      let s1 : gI := (iw s 71 (x1 + (3 : Int)) (-1 : Int))
      iov (x1 + (4 : Int)) <|
      ick (x1 + (4 : Int)) 140 <|
      let s2 : gI := (iw s1 71 (x1 + (4 : Int)) (-1 : Int))
      iov (x1 + (8 : Int)) <|
      ick (x1 + (8 : Int)) 140 <|
      let s3 : gI := (iw s2 71 (x1 + (8 : Int)) (-1 : Int))
      iov (x1 + (8 : Int)) <|
      iov ((x1 + (8 : Int)) + (1 : Int)) <|
      ick ((x1 + (8 : Int)) + (1 : Int)) 140 <|
      let s4 : gI := (iw s3 71 ((x1 + (8 : Int)) + (1 : Int)) (-1 : Int))
      some s4
    else
      iov (x1 + x2) <|
      ick (x1 + x2) 140 <|
      let s5 : gI := (iw s 71 (x1 + x2) (0 : Int))
      iov (x2 + (1 : Int)) <|
      let i6 : Int := (x2 + (1 : Int))
      f196_at2 N n x1 i6 s5
noncomputable def f196 (N : Nat) (x1 : Int) (s : gI) : Option (gI) :=
    f196_at2 N N x1 (0 : Int) s
/-! GutterNineModel.wordHere -/
noncomputable def f192_at5 (N : Nat) : Nat → Int → Int → Int → Int → gI → Option (Int × gI)
  | 0, _, _, _, _, _ => none
  | n + 1, x1, x2, x3, x4, s =>
    if x2 ≤ x4 then
      some (x3, s)
    else
      iov (x1 + x4) <|
      i_o2 (f184 N (x1 + x4) s) fun i2 s1 =>
      if i2 = 0 then
        iov (x4 + (1 : Int)) <|
        let i3 : Int := (x4 + (1 : Int))
        f192_at5 N n x1 x2 x3 i3 s1
      else
        iov (x4 + (1 : Int)) <|
        let i4 : Int := (x4 + (1 : Int))
        f192_at5 N n x1 x2 x4 i4 s1
noncomputable def f192 (N : Nat) (x1 : Int) (x2 : Int) (s : gI) : Option (Int × gI) :=
    f192_at5 N N x1 x2 (-1 : Int) (0 : Int) s
/-! GutterNineModel.isOnce -/
noncomputable def f200_at46 (N : Nat) (z0 : Int) (z1 : Int) (s : gI) : Option (Int × gI) :=
    iov (z1 + z0) <|
    let s1 : gI := (iw s 63 7 (z1 + z0))
    if (s1.1 63 8) = 0 then
      ib1 (1 : Int) <|
      some ((1 : Int), s1)
    else
      ib1 (0 : Int) <|
      some ((0 : Int), s1)
noncomputable def f200_at17 (N : Nat) (x1 : Int) (s : gI) : Option (Int × gI) :=
    let s1 : gI := (iw s 63 19 (i_or (s.1 63 19) (i_shl (1 : Int) x1)))
    if (s1.1 63 8) ≤ 0 then
      f200_at46 N (1 : Int) (s1.1 63 7) s1
    else
      f200_at46 N (0 : Int) (s1.1 63 7) s1
noncomputable def f200 (N : Nat) (x1 : Int) (s : gI) : Option (Int × gI) :=
    if (i_and (i_shr (s.1 63 19) x1) (1 : Int)) = (1 : Int) then
      i_o1 (f182 N (3 : Int) s) fun s1 =>
      f200_at17 N x1 s1
    else
      f200_at17 N x1 s
/-! GutterNineModel.hasSign -/
noncomputable def f186_at20 (N : Nat) (x2 : Int) (z0 : Int) (z1 : Int) (s : gI) : Option (Int × gI) :=
    iov (z1 + z0) <|
    let s1 : gI := (iw s 63 7 (z1 + z0))
    ib1 x2 <|
    some (x2, s1)
noncomputable def f186 (N : Nat) (x1 : Int) (s : gI) : Option (Int × gI) :=
    i_o2 (f183 N x1 s) fun i2 s1 =>
    if i2 = 0 then
      f186_at20 N i2 (0 : Int) (s1.1 63 7) s1
    else
      f186_at20 N i2 (1 : Int) (s1.1 63 7) s1
/-! GutterNineModel.emit -/
noncomputable def f207 (N : Nat) (x1 : Int) (x2 : Int) (s : gI) : Option (gI) :=
    iov ((1100 : Int) + (s.1 63 15)) <|
    ick ((1100 : Int) + (s.1 63 15)) 2200 <|
    let s1 : gI := (iw s 72 ((1100 : Int) + (s.1 63 15)) x1)
    iov ((1100 : Int) + (s1.1 63 15)) <|
    ick ((1100 : Int) + (s1.1 63 15)) 2200 <|
    let s2 : gI := (iw s1 73 ((1100 : Int) + (s1.1 63 15)) x2)
    iov ((s2.1 63 15) + (1 : Int)) <|
    let s3 : gI := (iw s2 63 15 ((s2.1 63 15) + (1 : Int)))
    some s3
/-! GutterNineModel.products -/
noncomputable def f211_at5 (N : Nat) (tp : Int → gI → Option gI) : Nat → Int → gI → Option (gI)
  | 0, _, _ => none
  | n + 1, x1, s =>
    i_o2 (f186 N (42 : Int) s) fun i2 s1 =>
    if i2 = 0 then
      some s1
    else
      i_o1 (tp x1 s1) fun s3 =>
      i_o1 (f207 N (6 : Int) (0 : Int) s3) fun s4 =>
      f211_at5 N tp n x1 s4
noncomputable def f211 (N : Nat) (tp : Int → gI → Option gI) (x1 : Int) (s : gI) : Option (gI) :=
    i_o1 (tp x1 s) fun s1 =>
    f211_at5 N tp N x1 s1
/-! GutterNineModel.sums -/
noncomputable def f210_at23 (N : Nat) (tp : Int → gI → Option gI) (r_at5 : Int → gI → Option (gI)) (x1 : Int) (s : gI) : Option (gI) :=
    i_o2 (f183 N (43 : Int) s) fun i2 s1 =>
    iov ((s1.1 63 7) + (1 : Int)) <|
    let s3 : gI := (iw s1 63 7 ((s1.1 63 7) + (1 : Int)))
    i_o1 (f211 N tp x1 s3) fun s4 =>
    if i2 = 0 then
      i_o1 (f207 N (5 : Int) (0 : Int) s4) fun s5 =>
      r_at5 x1 s5
    else
      i_o1 (f207 N (4 : Int) (0 : Int) s4) fun s6 =>
      r_at5 x1 s6
noncomputable def f210_at5 (N : Nat) (tp : Int → gI → Option gI) : Nat → Int → gI → Option (gI)
  | 0, _, _ => none
  | n + 1, x1, s =>
    i_o2 (f183 N (43 : Int) s) fun i2 s1 =>
    if i2 = 0 then
      i_o2 (f183 N (45 : Int) s1) fun i4 s3 =>
      if i4 = 0 then
        some s3
      else
        f210_at23 N tp (f210_at5 N tp n) x1 s3
    else
      f210_at23 N tp (f210_at5 N tp n) x1 s1
noncomputable def f210 (N : Nat) (tp : Int → gI → Option gI) (x1 : Int) (s : gI) : Option (gI) :=
    i_o1 (f211 N tp x1 s) fun s1 =>
    f210_at5 N tp N x1 s1
/-! GutterNineModel.test -/
noncomputable def f209_at30 (N : Nat) (tp : Int → gI → Option gI) (x1 : Int) (x2 : Int) (s : gI) : Option (gI) :=
    i_o1 (f210 N tp x1 s) fun s1 =>
    if x2 = 0 then
      i_o1 (f207 N (8 : Int) (0 : Int) s1) fun s2 =>
      some s2
    else
      i_o1 (f207 N (7 : Int) (0 : Int) s1) fun s3 =>
      some s3
noncomputable def f209 (N : Nat) (tp : Int → gI → Option gI) (x1 : Int) (s : gI) : Option (gI) :=
    i_o1 (f210 N tp x1 s) fun s1 =>
    i_o2 (f183 N (60 : Int) s1) fun i3 s2 =>
    i_o2 (f186 N (60 : Int) s2) fun i5 s4 =>
    if i5 = 0 then
      i_o2 (f186 N (61 : Int) s4) fun i7 s6 =>
      if i7 = 0 then
        some s6
      else
        f209_at30 N tp x1 i3 s6
    else
      f209_at30 N tp x1 i3 s4
/-! GutterNineModel.all -/
noncomputable def f208_at23 (N : Nat) (tp : Int → gI → Option gI) (r_at5 : Int → gI → Option (gI)) (x1 : Int) (s : gI) : Option (gI) :=
    i_o2 (f184 N (21 : Int) s) fun i2 s1 =>
    iov ((s1.1 63 7) + (1 : Int)) <|
    let s3 : gI := (iw s1 63 7 ((s1.1 63 7) + (1 : Int)))
    i_o1 (f209 N tp x1 s3) fun s4 =>
    if i2 = 0 then
      i_o1 (f207 N (10 : Int) (0 : Int) s4) fun s5 =>
      r_at5 x1 s5
    else
      i_o1 (f207 N (9 : Int) (0 : Int) s4) fun s6 =>
      r_at5 x1 s6
noncomputable def f208_at5 (N : Nat) (tp : Int → gI → Option gI) : Nat → Int → gI → Option (gI)
  | 0, _, _ => none
  | n + 1, x1, s =>
    i_o2 (f184 N (21 : Int) s) fun i2 s1 =>
    if i2 = 0 then
      i_o2 (f184 N (22 : Int) s1) fun i4 s3 =>
      if i4 = 0 then
        some s3
      else
        f208_at23 N tp (f208_at5 N tp n) x1 s3
    else
      f208_at23 N tp (f208_at5 N tp n) x1 s1
noncomputable def f208 (N : Nat) (tp : Int → gI → Option gI) (x1 : Int) (s : gI) : Option (gI) :=
    i_o1 (f209 N tp x1 s) fun s1 =>
    f208_at5 N tp N x1 s1
/-! GutterNineModel.takePart -/
noncomputable def f212_at165 (N : Nat) (tp : Int → gI → Option gI) (z0 : Int) (z1 : Int) (s : gI) : Option (gI) :=
    i_o1 (f207 N z1 z0 s) fun s1 =>
    iov ((s1.1 63 7) + (1 : Int)) <|
    let s2 : gI := (iw s1 63 7 ((s1.1 63 7) + (1 : Int)))
    some s2
noncomputable def f212_at147 (N : Nat) (tp : Int → gI → Option gI) (x2 : Int) (x3 : Int) (z0 : Int) (s : gI) : Option (gI) :=
    if x2 = 0 then
      f212_at165 N tp x3 z0 s
    else
      ick (s.1 63 7) 1002 <|
      f212_at165 N tp (Int.bmod (s.2 67 (s.1 63 7)) 4294967296) z0 s
noncomputable def f212_at79 (N : Nat) (tp : Int → gI → Option gI) (x1 : Int) (x2 : Int) (x3 : Int) (s : gI) : Option (gI) :=
    if (s.1 63 8) ≤ 0 then
      i_o2 (f187 N (20 : Int) s) fun i2 s1 =>
      if i2 = 0 then
        i_o2 (f186 N (40 : Int) s1) fun i4 s3 =>
        if i4 = 0 then
          if x2 = 0 then
            f212_at147 N tp x2 x3 (2 : Int) s3
          else
            f212_at147 N tp x2 x3 (1 : Int) s3
        else
          iov (x1 + (1 : Int)) <|
          i_o1 (f208 N tp (x1 + (1 : Int)) s3) fun s5 =>
          i_o1 (f185 N (41 : Int) s5) fun s6 =>
          some s6
      else
        iov (x1 + (1 : Int)) <|
        i_o1 (tp (x1 + (1 : Int)) s1) fun s7 =>
        i_o1 (f207 N (3 : Int) (0 : Int) s7) fun s8 =>
        some s8
    else
      some s
noncomputable def f212_at69 (N : Nat) (tp : Int → gI → Option gI) (x1 : Int) (x2 : Int) (x3 : Int) (s : gI) : Option (gI) :=
    if x1 = (5 : Int) then
      i_o1 (f182 N (5 : Int) s) fun s1 =>
      f212_at79 N tp x1 x2 x3 s1
    else
      f212_at79 N tp x1 x2 x3 s
noncomputable def f212_at26 (N : Nat) (tp : Int → gI → Option gI) (x1 : Int) (z0 : Int) (s : gI) : Option (gI) :=
    i_o2 (f192 N (23 : Int) (3 : Int) s) fun i2 s1 =>
    if 0 ≤ i2 then
      f212_at69 N tp x1 z0 i2 s1
    else
      if z0 = 0 then
        i_o2 (f183 N (40 : Int) s1) fun i4 s3 =>
        if i4 = 0 then
          i_o2 (f184 N (20 : Int) s3) fun i6 s5 =>
          if i6 = 0 then
            i_o1 (f182 N (1 : Int) s5) fun s7 =>
            f212_at79 N tp x1 z0 i2 s7
          else
            f212_at69 N tp x1 z0 i2 s5
        else
          f212_at69 N tp x1 z0 i2 s3
      else
        f212_at69 N tp x1 z0 i2 s1
noncomputable def f212 (N : Nat) : Nat → Int → gI → Option gI
  | 0, _, _ => none
  | rd + 1, x1, s =>
    let tp := f212 N rd
    if (s.1 63 8) ≤ 0 then
      ick (s.1 63 7) 1002 <|
      if (s.1 65 (s.1 63 7)) = (2 : Int) then
        f212_at26 N tp x1 (1 : Int) s
      else
        f212_at26 N tp x1 (0 : Int) s
    else
      some s
/-! GutterNineModel.readLaw -/
noncomputable def f202 (N : Nat) (s : gI) : Option (gI) :=
    i_o2 (f192 N (14 : Int) (2 : Int) s) fun i2 s1 =>
    if 0 ≤ i2 then
      iov ((3 : Int) + i2) <|
      i_o2 (f200 N ((3 : Int) + i2) s1) fun i4 s3 =>
      if i4 = 0 then
        some s3
      else
        iov ((78 : Int) + i2) <|
        ick ((78 : Int) + i2) 140 <|
        let s5 : gI := (iw s3 71 ((78 : Int) + i2) (s3.1 63 15))
        i_o1 (f208 N (f212 N 7) (0 : Int) s5) fun s6 =>
        i_o1 (f207 N (0 : Int) (0 : Int) s6) fun s7 =>
        some s7
    else
      i_o1 (f182 N (1 : Int) s1) fun s8 =>
      some s8
/-! GutterNineModel.takeAfter -/
noncomputable def f191 (N : Nat) (x1 : Int) (x2 : Int) (x3 : Int) (s : gI) : Option (Int × gI) :=
    i_o1 (f188 N x1 s) fun s1 =>
    i_o2 (f190 N x2 x3 s1) fun i3 s2 =>
    some (i3, s2)
/-! GutterNineModel.readShot -/
noncomputable def f206 (N : Nat) (s : gI) : Option (gI) :=
    ick (72 : Int) 140 <|
    let i1 : Int := (s.1 71 (72 : Int))
    if i1 = (6 : Int) then
      i_o1 (f182 N (5 : Int) s) fun s19 =>
      some s19
    else
      iov ((s.1 63 7) + (1 : Int)) <|
      let s2 : gI := (iw s 63 7 ((s.1 63 7) + (1 : Int)))
      i_o2 (f192 N (6 : Int) (2 : Int) s2) fun i4 s3 =>
      if 0 ≤ i4 then
        iov ((s3.1 63 7) + (1 : Int)) <|
        let s5 : gI := (iw s3 63 7 ((s3.1 63 7) + (1 : Int)))
        iov ((4 : Int) * i1) <|
        iov ((108 : Int) + ((4 : Int) * i1)) <|
        let i6 : Int := ((108 : Int) + ((4 : Int) * i1))
        ick i6 140 <|
        let s7 : gI := (iw s5 71 i6 i4)
        iov (i6 + (1 : Int)) <|
        i_o2 (f190 N (0 : Int) (8 : Int) s7) fun i9 s8 =>
        ick (i6 + (1 : Int)) 140 <|
        let s10 : gI := (iw s8 71 (i6 + (1 : Int)) i9)
        iov (i6 + (2 : Int)) <|
        i_o2 (f191 N (8 : Int) (1 : Int) (12 : Int) s10) fun i12 s11 =>
        ick (i6 + (2 : Int)) 140 <|
        let s13 : gI := (iw s11 71 (i6 + (2 : Int)) i12)
        iov (i6 + (3 : Int)) <|
        i_o2 (f191 N (9 : Int) (1 : Int) (99 : Int) s13) fun i15 s14 =>
        ick (i6 + (3 : Int)) 140 <|
        let s16 : gI := (iw s14 71 (i6 + (3 : Int)) i15)
        ick (72 : Int) 140 <|
        iov ((s16.1 71 (72 : Int)) + (1 : Int)) <|
        ick (72 : Int) 140 <|
        let s17 : gI := (iw s16 71 (72 : Int) ((s16.1 71 (72 : Int)) + (1 : Int)))
        some s17
      else
        i_o1 (f182 N (1 : Int) s3) fun s18 =>
        some s18
/-! GutterNineModel.isName -/
noncomputable def f197 (N : Nat) (s : gI) : Option (Int × gI) :=
    if (s.1 63 8) = 0 then
      ick (s.1 63 7) 1002 <|
      if (s.1 65 (s.1 63 7)) = (1 : Int) then
        i_o2 (f192 N (0 : Int) (23 : Int) s) fun i2 s1 =>
        if 0 ≤ i2 then
          ib1 (0 : Int) <|
          some ((0 : Int), s1)
        else
          ib1 (1 : Int) <|
          some ((1 : Int), s1)
      else
        ib1 (0 : Int) <|
        some ((0 : Int), s)
    else
      ib1 (0 : Int) <|
      some ((0 : Int), s)
/-! GutterNineModel.find -/
noncomputable def f198_at2 (N : Nat) : Nat → Int → gI → Option (Int × gI)
  | 0, _, _ => none
  | n + 1, x1, s =>
    if (s.1 63 18) ≤ x1 then
      some ((-1 : Int), s)
    else
      ick x1 12 <|
      ick (s.1 63 7) 1002 <|
      if (i_cmp (s.2 74 x1) (s.2 67 (s.1 63 7))) = 0 then
        ick x1 12 <|
        some ((s.1 75 x1), s)
      else
        iov (x1 + (1 : Int)) <|
        let i1 : Int := (x1 + (1 : Int))
        f198_at2 N n i1 s
noncomputable def f198 (N : Nat) (s : gI) : Option (Int × gI) :=
    f198_at2 N N (0 : Int) s
/-! GutterNineModel.readName -/
noncomputable def f203_at37 (N : Nat) (x1 : Int) (s : gI) : Option (gI) :=
    if (s.1 63 8) = 0 then
      ick (s.1 63 7) 1002 <|
      ick (s.1 63 18) 12 <|
      let s1 : gI := (iwl s 74 (s.1 63 18) (s.2 67 (s.1 63 7)))
      ick (s1.1 63 18) 12 <|
      let s2 : gI := (iw s1 75 (s1.1 63 18) x1)
      iov ((s2.1 63 18) + (1 : Int)) <|
      let s3 : gI := (iw s2 63 18 ((s2.1 63 18) + (1 : Int)))
      iov ((s3.1 63 7) + (1 : Int)) <|
      let s4 : gI := (iw s3 63 7 ((s3.1 63 7) + (1 : Int)))
      some s4
    else
      some s
noncomputable def f203 (N : Nat) (x1 : Int) (s : gI) : Option (gI) :=
    iov ((s.1 63 7) + (1 : Int)) <|
    let s1 : gI := (iw s 63 7 ((s.1 63 7) + (1 : Int)))
    i_o2 (f197 N s1) fun i3 s2 =>
    if i3 = 0 then
      i_o1 (f182 N (1 : Int) s2) fun s7 =>
      f203_at37 N x1 s7
    else
      i_o2 (f198 N s2) fun i5 s4 =>
      if i5 < 0 then
        f203_at37 N x1 s4
      else
        i_o1 (f182 N (3 : Int) s4) fun s6 =>
        f203_at37 N x1 s6
/-! GutterNineModel.within -/
noncomputable def f189 (N : Nat) (x0 : Int) (x1 : Int) (x2 : Int) (s : gI) : Option (Int × gI) :=
    if x0 < x1 then
      ib1 (0 : Int) <|
      some ((0 : Int), s)
    else
      if x2 < x0 then
        ib1 (0 : Int) <|
        some ((0 : Int), s)
      else
        ib1 (1 : Int) <|
        some ((1 : Int), s)
/-! GutterNineModel.readThing -/
noncomputable def f205_at136 (N : Nat) (x1 : Int) (x2 : Int) (x3 : Int) (z0 : Int) (z1 : Int) (s : gI) : Option (gI) :=
    iov (z1 + z0) <|
    let s1 : gI := (iw s 63 7 (z1 + z0))
    iov ((3 : Int) * x1) <|
    iov ((84 : Int) + ((3 : Int) * x1)) <|
    let i2 : Int := ((84 : Int) + ((3 : Int) * x1))
    ick i2 140 <|
    let s3 : gI := (iw s1 71 i2 x2)
    iov (i2 + (1 : Int)) <|
    ick (i2 + (1 : Int)) 140 <|
    let s4 : gI := (iw s3 71 (i2 + (1 : Int)) x3)
    iov (i2 + (2 : Int)) <|
    i_o2 (f191 N (4 : Int) (0 : Int) (99 : Int) s4) fun i6 s5 =>
    ick (i2 + (2 : Int)) 140 <|
    let s7 : gI := (iw s5 71 (i2 + (2 : Int)) i6)
    ick (71 : Int) 140 <|
    iov ((s7.1 71 (71 : Int)) + (1 : Int)) <|
    ick (71 : Int) 140 <|
    let s8 : gI := (iw s7 71 (71 : Int) ((s7.1 71 (71 : Int)) + (1 : Int)))
    some s8
noncomputable def f205_at119 (N : Nat) (x1 : Int) (x2 : Int) (x3 : Int) (s : gI) : Option (gI) :=
    if (s.1 63 8) ≤ 0 then
      f205_at136 N x1 x2 x3 (1 : Int) (s.1 63 7) s
    else
      f205_at136 N x1 x2 x3 (0 : Int) (s.1 63 7) s
noncomputable def f205_at104 (N : Nat) (x1 : Int) (x2 : Int) (z0 : Int) (s : gI) : Option (gI) :=
    i_o2 (f189 N z0 (0 : Int) (3 : Int) s) fun i2 s1 =>
    if i2 = 0 then
      i_o1 (f182 N (2 : Int) s1) fun s3 =>
      f205_at119 N x1 x2 z0 s3
    else
      f205_at119 N x1 x2 z0 s1
noncomputable def f205_at89 (N : Nat) (x1 : Int) (x2 : Int) (s : gI) : Option (gI) :=
    if (s.1 63 8) ≤ 0 then
      i_o2 (f198 N s) fun i2 s1 =>
      f205_at104 N x1 x2 i2 s1
    else
      f205_at104 N x1 x2 (0 : Int) s
noncomputable def f205_at44 (N : Nat) (x1 : Int) (z0 : Int) (s : gI) : Option (gI) :=
    if 0 ≤ z0 then
      iov ((s.1 63 7) + (1 : Int)) <|
      let s1 : gI := (iw s 63 7 ((s.1 63 7) + (1 : Int)))
      i_o1 (f188 N (3 : Int) s1) fun s2 =>
      if (s2.1 63 8) = 0 then
        i_o2 (f197 N s2) fun i4 s3 =>
        if i4 = 0 then
          i_o1 (f182 N (1 : Int) s3) fun s5 =>
          f205_at89 N x1 z0 s5
        else
          f205_at89 N x1 z0 s3
      else
        f205_at89 N x1 z0 s2
    else
      i_o1 (f182 N (1 : Int) s) fun s6 =>
      some s6
noncomputable def f205 (N : Nat) (s : gI) : Option (gI) :=
    ick (71 : Int) 140 <|
    let i1 : Int := (s.1 71 (71 : Int))
    if i1 = (8 : Int) then
      i_o1 (f182 N (5 : Int) s) fun s5 =>
      some s5
    else
      i_o1 (f203 N (100 : Int) s) fun s2 =>
      if (s2.1 63 8) ≤ 0 then
        i_o2 (f192 N (16 : Int) (4 : Int) s2) fun i4 s3 =>
        f205_at44 N i1 i4 s3
      else
        f205_at44 N i1 (-1 : Int) s2
/-! GutterNineModel.readPerson -/
noncomputable def f204 (N : Nat) (s : gI) : Option (gI) :=
    ick (70 : Int) 140 <|
    let i1 : Int := (s.1 71 (70 : Int))
    if i1 = (4 : Int) then
      i_o1 (f182 N (5 : Int) s) fun s7 =>
      some s7
    else
      i_o1 (f203 N i1 s) fun s2 =>
      iov ((80 : Int) + i1) <|
      i_o2 (f191 N (1 : Int) (0 : Int) (10 : Int) s2) fun i4 s3 =>
      ick ((80 : Int) + i1) 140 <|
      let s5 : gI := (iw s3 71 ((80 : Int) + i1) i4)
      ick (70 : Int) 140 <|
      iov ((s5.1 71 (70 : Int)) + (1 : Int)) <|
      ick (70 : Int) 140 <|
      let s6 : gI := (iw s5 71 (70 : Int) ((s5.1 71 (70 : Int)) + (1 : Int)))
      some s6
/-! GutterNineModel.readLine -/
noncomputable def f201 (N : Nat) (s : gI) : Option (gI) :=
    i_o2 (f184 N (0 : Int) s) fun i2 s1 =>
    if i2 = 0 then
      i_o2 (f184 N (2 : Int) s1) fun i4 s3 =>
      if i4 = 0 then
        i_o2 (f184 N (5 : Int) s3) fun i6 s5 =>
        if i6 = 0 then
          i_o2 (f184 N (10 : Int) s5) fun i8 s7 =>
          if i8 = 0 then
            i_o2 (f184 N (11 : Int) s7) fun i10 s9 =>
            if i10 = 0 then
              i_o2 (f184 N (13 : Int) s9) fun i12 s11 =>
              if i12 = 0 then
                i_o1 (f202 N s11) fun s13 =>
                some s13
              else
                i_o2 (f200 N (2 : Int) s11) fun i15 s14 =>
                if i15 = 0 then
                  some s14
                else
                  i_o2 (f190 N (0 : Int) (6 : Int) s14) fun i17 s16 =>
                  ick (77 : Int) 140 <|
                  let s18 : gI := (iw s16 71 (77 : Int) i17)
                  some s18
            else
              i_o2 (f200 N (1 : Int) s9) fun i20 s19 =>
              if i20 = 0 then
                some s19
              else
                i_o2 (f190 N (0 : Int) (7 : Int) s19) fun i22 s21 =>
                ick (75 : Int) 140 <|
                let s23 : gI := (iw s21 71 (75 : Int) i22)
                i_o2 (f190 N (0 : Int) (7 : Int) s23) fun i25 s24 =>
                ick (76 : Int) 140 <|
                let s26 : gI := (iw s24 71 (76 : Int) i25)
                i_o2 (f191 N (12 : Int) (0 : Int) (8 : Int) s26) fun i28 s27 =>
                ick (74 : Int) 140 <|
                let s29 : gI := (iw s27 71 (74 : Int) i28)
                some s29
          else
            i_o2 (f200 N (0 : Int) s7) fun i31 s30 =>
            if i31 = 0 then
              some s30
            else
              i_o2 (f190 N (0 : Int) (12 : Int) s30) fun i33 s32 =>
              ick (73 : Int) 140 <|
              let s34 : gI := (iw s32 71 (73 : Int) i33)
              some s34
        else
          i_o1 (f206 N s5) fun s35 =>
          some s35
      else
        i_o1 (f205 N s3) fun s36 =>
        some s36
    else
      i_o1 (f204 N s1) fun s37 =>
      some s37
/-! GutterNineModel.yard -/
noncomputable def f199_at105 (N : Nat) : Nat → Int → gI → Option (Int × gI)
  | 0, _, _ => none
  | n + 1, x1, s =>
    if (s.1 63 15) ≤ x1 then
      i_o1 (f216 N s) fun s1 =>
      some ((0 : Int), s1)
    else
      iov ((1100 : Int) + x1) <|
      ick ((1100 : Int) + x1) 2200 <|
      ick x1 2200 <|
      let s2 : gI := (iw s 72 x1 (s.1 72 ((1100 : Int) + x1)))
      iov ((1100 : Int) + x1) <|
      ick ((1100 : Int) + x1) 2200 <|
      ick x1 2200 <|
      let s3 : gI := (iw s2 73 x1 (s2.1 73 ((1100 : Int) + x1)))
      iov (x1 + (1 : Int)) <|
      let i4 : Int := (x1 + (1 : Int))
      f199_at105 N n i4 s3
noncomputable def f199_at76 (N : Nat) : Nat → Int → gI → Option (Int × gI)
  | 0, _, _ => none
  | n + 1, x1, s =>
    if (70 : Int) ≤ x1 then
      f199_at105 N N (0 : Int) s
    else
      iov ((70 : Int) + x1) <|
      ick ((70 : Int) + x1) 140 <|
      ick x1 140 <|
      let s1 : gI := (iw s 71 x1 (s.1 71 ((70 : Int) + x1)))
      iov (x1 + (1 : Int)) <|
      let i2 : Int := (x1 + (1 : Int))
      f199_at76 N n i2 s1
noncomputable def f199_at62 (N : Nat) (s : gI) : Option (Int × gI) :=
    if (s.1 63 8) ≤ 0 then
      f199_at76 N N (0 : Int) s
    else
      some ((s.1 63 8), s)
noncomputable def f199_at30 (N : Nat) : Nat → gI → Option (Int × gI)
  | 0, _ => none
  | n + 1, s =>
    if (s.1 63 8) = 0 then
      ick (s.1 63 7) 1002 <|
      if (s.1 65 (s.1 63 7)) = 0 then
        f199_at62 N s
      else
        i_o1 (f201 N s) fun s1 =>
        i_o1 (f185 N (59 : Int) s1) fun s2 =>
        f199_at30 N n s2
    else
      f199_at62 N s
noncomputable def f199 (N : Nat) (s : gI) : Option (Int × gI) :=
    let s1 : gI := (iw s 63 0 (0 : Int))
    i_o1 (f181 N s1) fun s2 =>
    let s3 : gI := (iw s2 63 15 (0 : Int))
    let s4 : gI := (iw s3 63 18 (0 : Int))
    let s5 : gI := (iw s4 63 19 (0 : Int))
    i_o1 (f196 N (70 : Int) s5) fun s6 =>
    f199_at30 N N s6
/-! GutterNineModel.wide -/
noncomputable def f218 (N : Nat) (s : gI) : Option (Int × gI) :=
    ick (0 : Int) 140 <|
    some ((s.1 69 (0 : Int)), s)
/-! GutterNineModel.deep -/
noncomputable def f219 (N : Nat) (s : gI) : Option (Int × gI) :=
    ick (1 : Int) 140 <|
    some ((s.1 69 (1 : Int)), s)
/-! GutterNineModel.isCell -/
noncomputable def f224 (N : Nat) (x1 : Int) (x2 : Int) (s : gI) : Option (Int × gI) :=
    if x1 < 0 then
      ib1 (0 : Int) <|
      some ((0 : Int), s)
    else
      i_o2 (f218 N s) fun i2 s1 =>
      if i2 ≤ x1 then
        ib1 (0 : Int) <|
        some ((0 : Int), s1)
      else
        if x2 < 0 then
          ib1 (0 : Int) <|
          some ((0 : Int), s1)
        else
          i_o2 (f219 N s1) fun i4 s3 =>
          if i4 ≤ x2 then
            ib1 (0 : Int) <|
            some ((0 : Int), s3)
          else
            ib1 (1 : Int) <|
            some ((1 : Int), s3)
/-! GutterNineModel.tileAt -/
noncomputable def f225 (N : Nat) (x1 : Int) (s : gI) : Option (Int × gI) :=
    iov ((2 : Int) + x1) <|
    ick ((2 : Int) + x1) 140 <|
    some ((s.1 69 ((2 : Int) + x1)), s)
/-! GutterNineModel.things -/
noncomputable def f221 (N : Nat) (s : gI) : Option (Int × gI) :=
    ick (1 : Int) 140 <|
    some ((s.1 71 (1 : Int)), s)
/-! GutterNineModel.thingAt -/
noncomputable def f227_at43 (N : Nat) (r_at6 : Int → Int → Int → Int → Int → gI → Option (Int × gI)) (x1 : Int) (x2 : Int) (x3 : Int) (x4 : Int) (x5 : Int) (s : gI) : Option (Int × gI) :=
    iov (x5 + (1 : Int)) <|
    let i1 : Int := (x5 + (1 : Int))
    r_at6 x1 x2 x3 x4 i1 s
noncomputable def f227_at6 (N : Nat) : Nat → Int → Int → Int → Int → Int → gI → Option (Int × gI)
  | 0, _, _, _, _, _, _ => none
  | n + 1, x1, x2, x3, x4, x5, s =>
    i_o2 (f221 N s) fun i2 s1 =>
    if i2 ≤ x5 then
      some (x4, s1)
    else
      if x1 < 0 then
        some (x4, s1)
      else
        if x5 = x3 then
          f227_at43 N (f227_at6 N n) x1 x2 x3 x4 x5 s1
        else
          iov (x1 + x5) <|
          ick (x1 + x5) 700 <|
          if (s1.1 78 (x1 + x5)) = x2 then
            iov (x5 + (1 : Int)) <|
            let i3 : Int := (x5 + (1 : Int))
            f227_at6 N n x1 x2 x3 x5 i3 s1
          else
            f227_at43 N (f227_at6 N n) x1 x2 x3 x4 x5 s1
noncomputable def f227 (N : Nat) (x1 : Int) (x2 : Int) (x3 : Int) (s : gI) : Option (Int × gI) :=
    f227_at6 N N x1 x2 x3 (-1 : Int) (0 : Int) s
/-! GutterNineModel.tile -/
noncomputable def f238 (N : Nat) (x1 : Int) (x2 : Int) (x3 : Int) (s : gI) : Option (Int × gI) :=
    let s1 : gI := (iw s 63 0 (0 : Int))
    i_o2 (f224 N x1 x2 s1) fun i3 s2 =>
    if i3 = 0 then
      some ((-1 : Int), s2)
    else
      i_o2 (f189 N x3 (0 : Int) (1 : Int) s2) fun i5 s4 =>
      if i5 = 0 then
        some ((-1 : Int), s4)
      else
        iov ((8 : Int) * x2) <|
        iov (((8 : Int) * x2) + x1) <|
        let i6 : Int := (((8 : Int) * x2) + x1)
        if x3 = 0 then
          i_o2 (f225 N i6 s4) fun i14 s13 =>
          some (i14, s13)
        else
          i_o2 (f225 N i6 s4) fun i8 s7 =>
          if i8 = (7 : Int) then
            iov ((128 : Int) + i6) <|
            i_o2 (f227 N (0 : Int) ((128 : Int) + i6) (-1 : Int) s7) fun i12 s11 =>
            some (i12, s11)
          else
            i_o2 (f227 N (0 : Int) i6 (-1 : Int) s7) fun i10 s9 =>
            some (i10, s9)
/-! GutterNineModel.isThing -/
noncomputable def f223 (N : Nat) (x1 : Int) (s : gI) : Option (Int × gI) :=
    if x1 < 0 then
      ib1 (0 : Int) <|
      some ((0 : Int), s)
    else
      i_o2 (f221 N s) fun i2 s1 =>
      if i2 ≤ x1 then
        ib1 (0 : Int) <|
        some ((0 : Int), s1)
      else
        ib1 (1 : Int) <|
        some ((1 : Int), s1)
/-! GutterNineModel.toldPlace -/
noncomputable def f237 (N : Nat) (x0 : Int) (s : gI) : Option (Int × gI) :=
    if x0 < (128 : Int) then
      some (x0, s)
    else
      some ((66 : Int), s)
/-! GutterNineModel.thingOf -/
noncomputable def f226 (N : Nat) (x1 : Int) (x2 : Int) (s : gI) : Option (Int × gI) :=
    iov ((3 : Int) * x1) <|
    iov ((14 : Int) + ((3 : Int) * x1)) <|
    iov (((14 : Int) + ((3 : Int) * x1)) + x2) <|
    ick (((14 : Int) + ((3 : Int) * x1)) + x2) 140 <|
    some ((s.1 71 (((14 : Int) + ((3 : Int) * x1)) + x2)), s)
/-! GutterNineModel.thing -/
noncomputable def f239 (N : Nat) (x1 : Int) (x2 : Int) (s : gI) : Option (Int × gI) :=
    let s1 : gI := (iw s 63 0 (0 : Int))
    i_o2 (f223 N x1 s1) fun i3 s2 =>
    if i3 = 0 then
      some ((-1 : Int), s2)
    else
      i_o2 (f189 N x2 (0 : Int) (4 : Int) s2) fun i5 s4 =>
      if i5 = 0 then
        some ((-1 : Int), s4)
      else
        if (3 : Int) ≤ x2 then
          if x2 = (3 : Int) then
            ick x1 700 <|
            i_o2 (f237 N (s4.1 78 x1) s4) fun i7 s6 =>
            some (i7, s6)
          else
            iov ((8 : Int) + x1) <|
            ick ((8 : Int) + x1) 700 <|
            some ((s4.1 78 ((8 : Int) + x1)), s4)
        else
          i_o2 (f226 N x1 x2 s4) fun i9 s8 =>
          some (i9, s8)
/-! GutterNineModel.people -/
noncomputable def f220 (N : Nat) (s : gI) : Option (Int × gI) :=
    ick (0 : Int) 140 <|
    some ((s.1 71 (0 : Int)), s)
/-! GutterNineModel.isPerson -/
noncomputable def f222 (N : Nat) (x1 : Int) (s : gI) : Option (Int × gI) :=
    if x1 < 0 then
      ib1 (0 : Int) <|
      some ((0 : Int), s)
    else
      i_o2 (f220 N s) fun i2 s1 =>
      if i2 ≤ x1 then
        ib1 (0 : Int) <|
        some ((0 : Int), s1)
      else
        ib1 (1 : Int) <|
        some ((1 : Int), s1)
/-! GutterNineModel.arm -/
noncomputable def f240 (N : Nat) (x1 : Int) (s : gI) : Option (Int × gI) :=
    let s1 : gI := (iw s 63 0 (0 : Int))
    i_o2 (f222 N x1 s1) fun i3 s2 =>
    if i3 = 0 then
      some ((-1 : Int), s2)
    else
      iov ((10 : Int) + x1) <|
      ick ((10 : Int) + x1) 140 <|
      some ((s2.1 71 ((10 : Int) + x1)), s2)
/-! GutterNineModel.mayThrow -/
noncomputable def f241 (N : Nat) (x1 : Int) (x2 : Int) (x3 : Int) (x4 : Int) (s : gI) : Option (Int × gI) :=
    i_o2 (f222 N x1 s) fun i2 s1 =>
    if i2 = 0 then
      ib1 (0 : Int) <|
      some ((0 : Int), s1)
    else
      i_o2 (f223 N x2 s1) fun i4 s3 =>
      if i4 = 0 then
        ib1 (0 : Int) <|
        some ((0 : Int), s3)
      else
        i_o2 (f224 N x3 x4 s3) fun i6 s5 =>
        if i6 = 0 then
          ib1 (0 : Int) <|
          some ((0 : Int), s5)
        else
          ick x2 700 <|
          if (s5.1 78 x2) = (64 : Int) then
            ib1 (1 : Int) <|
            some ((1 : Int), s5)
          else
            ib1 (0 : Int) <|
            some ((0 : Int), s5)
/-! GutterNineModel.copies -/
noncomputable def f215_at3 (N : Nat) : Nat → Int → Int → Int → Int → gI → Option (gI)
  | 0, _, _, _, _, _ => none
  | n + 1, x1, x2, x3, x4, s =>
    if x3 ≤ x4 then
      some s
    else
      iov (x2 + x4) <|
      iov (x1 + x4) <|
      ick (x1 + x4) 700 <|
      ick (x2 + x4) 700 <|
      let s1 : gI := (iw s 78 (x2 + x4) (s.1 78 (x1 + x4)))
      iov (x4 + (1 : Int)) <|
      let i2 : Int := (x4 + (1 : Int))
      f215_at3 N n x1 x2 x3 i2 s1
noncomputable def f215 (N : Nat) (x1 : Int) (x2 : Int) (x3 : Int) (s : gI) : Option (gI) :=
    f215_at3 N N x1 x2 x3 (0 : Int) s
/-! GutterNineModel.keeps -/
noncomputable def f217_at53 (N : Nat) (s : gI) : Option (gI) :=
    iov ((5 : Int) + (s.1 63 23)) <|
    iov ((28 : Int) * ((5 : Int) + (s.1 63 23))) <|
    i_o1 (f215 N (0 : Int) ((28 : Int) * ((5 : Int) + (s.1 63 23))) (18 : Int) s) fun s1 =>
    iov ((s1.1 63 23) + (1 : Int)) <|
    let s2 : gI := (iw s1 63 23 ((s1.1 63 23) + (1 : Int)))
    some s2
noncomputable def f217_at11 (N : Nat) : Nat → Int → gI → Option (gI)
  | 0, _, _ => none
  | n + 1, x1, s =>
    if (16 : Int) ≤ x1 then
      iov ((s.1 63 23) - (1 : Int)) <|
      let s1 : gI := (iw s 63 23 ((s.1 63 23) - (1 : Int)))
      f217_at53 N s1
    else
      iov ((5 : Int) + x1) <|
      iov ((28 : Int) * ((5 : Int) + x1)) <|
      iov ((5 : Int) + x1) <|
      iov (((5 : Int) + x1) - (1 : Int)) <|
      iov ((28 : Int) * (((5 : Int) + x1) - (1 : Int))) <|
      i_o1 (f215 N ((28 : Int) * ((5 : Int) + x1)) ((28 : Int) * (((5 : Int) + x1) - (1 : Int))) (18 : Int) s) fun s2 =>
      iov (x1 + (1 : Int)) <|
      let i3 : Int := (x1 + (1 : Int))
      f217_at11 N n i3 s2
noncomputable def f217 (N : Nat) (s : gI) : Option (gI) :=
    if (s.1 63 23) = (16 : Int) then
      f217_at11 N N (1 : Int) s
    else
      f217_at53 N s
/-! GutterNineModel.slipX -/
noncomputable def f233_at20 (N : Nat) (z0 : Int) (s : gI) : Option (Int × gI) :=
    idv z0 (3 : Int) <|
    iov ((z0 % (3 : Int)) - (1 : Int)) <|
    some (((z0 % (3 : Int)) - (1 : Int)), s)
noncomputable def f233 (N : Nat) (x0 : Int) (s : gI) : Option (Int × gI) :=
    if x0 = 0 then
      f233_at20 N (4 : Int) s
    else
      if (5 : Int) ≤ x0 then
        f233_at20 N x0 s
      else
        iov (x0 - (1 : Int)) <|
        f233_at20 N (x0 - (1 : Int)) s
/-! GutterNineModel.slipY -/
noncomputable def f234_at20 (N : Nat) (z0 : Int) (s : gI) : Option (Int × gI) :=
    idv z0 (3 : Int) <|
    iov ((z0 / (3 : Int)) - (1 : Int)) <|
    some (((z0 / (3 : Int)) - (1 : Int)), s)
noncomputable def f234 (N : Nat) (x0 : Int) (s : gI) : Option (Int × gI) :=
    if x0 = 0 then
      f234_at20 N (4 : Int) s
    else
      if (5 : Int) ≤ x0 then
        f234_at20 N x0 s
      else
        iov (x0 - (1 : Int)) <|
        f234_at20 N (x0 - (1 : Int)) s
/-! GutterNineModel.comesTo -/
noncomputable def f228 (N : Nat) (x1 : Int) (x2 : Int) (x3 : Int) (x4 : Int) (s : gI) : Option (Int × gI) :=
    if x3 < 0 then
      some ((64 : Int), s)
    else
      i_o2 (f218 N s) fun i2 s1 =>
      if i2 ≤ x3 then
        some ((64 : Int), s1)
      else
        i_o2 (f219 N s1) fun i4 s3 =>
        if x4 < i4 then
          if 0 ≤ x4 then
            iov ((8 : Int) * x4) <|
            iov (((8 : Int) * x4) + x3) <|
            let i5 : Int := (((8 : Int) * x4) + x3)
            i_o2 (f225 N i5 s3) fun i7 s6 =>
            if i7 = (8 : Int) then
              some ((-1 : Int), s6)
            else
              i_o2 (f227 N x1 i5 x2 s6) fun i9 s8 =>
              if i9 < 0 then
                i_o2 (f225 N i5 s8) fun i11 s10 =>
                if i11 = (7 : Int) then
                  iov ((128 : Int) + i5) <|
                  i_o2 (f227 N x1 ((128 : Int) + i5) x2 s10) fun i13 s12 =>
                  if i13 < 0 then
                    iov ((128 : Int) + i5) <|
                    some (((128 : Int) + i5), s12)
                  else
                    some ((64 : Int), s12)
                else
                  some (i5, s10)
              else
                some ((-1 : Int), s8)
          else
            some ((65 : Int), s3)
        else
          some ((64 : Int), s3)
/-! GutterNineModel.across -/
noncomputable def f229 (N : Nat) (x0 : Int) (s : gI) : Option (Int × gI) :=
    if x0 = (3 : Int) then
      some ((-1 : Int), s)
    else
      if x0 = (4 : Int) then
        some ((1 : Int), s)
      else
        some ((0 : Int), s)
/-! GutterNineModel.along -/
noncomputable def f230 (N : Nat) (x0 : Int) (s : gI) : Option (Int × gI) :=
    if x0 = (1 : Int) then
      some ((1 : Int), s)
    else
      if x0 = (2 : Int) then
        some ((-1 : Int), s)
      else
        some ((0 : Int), s)
/-! GutterNineModel.rolled -/
noncomputable def f231_at116 (N : Nat) (r_at26 : Int → Int → Int → Int → Int → Int → gI → Option (Int × gI)) (x1 : Int) (x2 : Int) (x3 : Int) (y6 : Int) (x10 : Int) (s : gI) : Option (Int × gI) :=
    if x10 < (64 : Int) then
      let j1 : Int := (j_or y6 (j_shl (1 : Int) x10))
      if x3 = 0 then
        r_at26 x1 x2 x3 x10 j1 (1 : Int) s
      else
        r_at26 x1 x2 x3 x10 j1 (0 : Int) s
    else
      some (x10, s)
noncomputable def f231_at87 (N : Nat) (r_at26 : Int → Int → Int → Int → Int → Int → gI → Option (Int × gI)) (x1 : Int) (x2 : Int) (x3 : Int) (x5 : Int) (y6 : Int) (z0 : Int) (s : gI) : Option (Int × gI) :=
    if z0 < 0 then
      some (x5, s)
    else
      if (64 : Int) ≤ z0 then
        f231_at116 N r_at26 x1 x2 x3 y6 z0 s
      else
        if (i_cmp (j_and (j_shr y6 z0) (1 : Int)) (1 : Int)) = 0 then
          some (x5, s)
        else
          f231_at116 N r_at26 x1 x2 x3 y6 z0 s
noncomputable def f231_at59 (N : Nat) (r_at26 : Int → Int → Int → Int → Int → Int → gI → Option (Int × gI)) (x1 : Int) (x2 : Int) (x3 : Int) (x5 : Int) (y6 : Int) (x9 : Int) (s : gI) : Option (Int × gI) :=
    idv x5 (8 : Int) <|
    i_o2 (f229 N x9 s) fun i2 s1 =>
    iov ((x5 % (8 : Int)) + i2) <|
    idv x5 (8 : Int) <|
    i_o2 (f230 N x9 s1) fun i4 s3 =>
    iov ((x5 / (8 : Int)) + i4) <|
    i_o2 (f228 N x1 x2 ((x5 % (8 : Int)) + i2) ((x5 / (8 : Int)) + i4) s3) fun i6 s5 =>
    f231_at87 N r_at26 x1 x2 x3 x5 y6 i6 s5
noncomputable def f231_at26 (N : Nat) : Nat → Int → Int → Int → Int → Int → Int → gI → Option (Int × gI)
  | 0, _, _, _, _, _, _, _ => none
  | n + 1, x1, x2, x3, x5, y6, x8, s =>
    if x8 = 0 then
      some (x5, s)
    else
      i_o2 (f225 N x5 s) fun i2 s1 =>
      i_o2 (f229 N i2 s1) fun i4 s3 =>
      if i4 = 0 then
        i_o2 (f230 N i2 s3) fun i6 s5 =>
        if i6 = 0 then
          f231_at87 N (f231_at26 N n) x1 x2 x3 x5 y6 (-1 : Int) s5
        else
          f231_at59 N (f231_at26 N n) x1 x2 x3 x5 y6 i2 s5
      else
        f231_at59 N (f231_at26 N n) x1 x2 x3 x5 y6 i2 s3
noncomputable def f231 (N : Nat) (x1 : Int) (x2 : Int) (x3 : Int) (x4 : Int) (s : gI) : Option (Int × gI) :=
    let j1 : Int := (j_shl (1 : Int) x4)
    if x3 = 0 then
      f231_at26 N N x1 x2 x3 x4 j1 (1 : Int) s
    else
      if x3 = (2 : Int) then
        f231_at26 N N x1 x2 x3 x4 j1 (1 : Int) s
      else
        f231_at26 N N x1 x2 x3 x4 j1 (0 : Int) s
/-! GutterNineModel.rollsOn -/
noncomputable def f232 (N : Nat) (x1 : Int) (x2 : Int) (s : gI) : Option (gI) :=
    iov (x1 + x2) <|
    ick (x1 + x2) 700 <|
    if (64 : Int) ≤ (s.1 78 (x1 + x2)) then
      some s
    else
      iov (x1 + x2) <|
      i_o2 (f226 N x2 (0 : Int) s) fun i2 s1 =>
      iov (x1 + x2) <|
      ick (x1 + x2) 700 <|
      i_o2 (f231 N x1 x2 i2 (s1.1 78 (x1 + x2)) s1) fun i4 s3 =>
      ick (x1 + x2) 700 <|
      let s5 : gI := (iw s3 78 (x1 + x2) i4)
      some s5
/-! GutterNineModel.knocks -/
noncomputable def f236_at77 (N : Nat) (x1 : Int) (x2 : Int) (z0 : Int) (z1 : Int) (s : gI) : Option (gI) :=
    ick z1 700 <|
    let s1 : gI := (iw s 78 z1 z0)
    i_o1 (f232 N x1 x2 s1) fun s2 =>
    some s2
noncomputable def f236_at56 (N : Nat) (x1 : Int) (x2 : Int) (x6 : Int) (z0 : Int) (s : gI) : Option (gI) :=
    iov (x1 + x2) <|
    if 0 ≤ z0 then
      f236_at77 N x1 x2 z0 (x1 + x2) s
    else
      f236_at77 N x1 x2 x6 (x1 + x2) s
noncomputable def f236_at55 (N : Nat) (x1 : Int) (x2 : Int) (x6 : Int) (s : gI) : Option (gI) :=
    f236_at56 N x1 x2 x6 (-1 : Int) s
noncomputable def f236 (N : Nat) (x1 : Int) (x2 : Int) (x3 : Int) (x4 : Int) (x5 : Int) (s : gI) : Option (gI) :=
    iov (x4 + (1 : Int)) <|
    i_o2 (f228 N x1 x2 x3 (x4 + (1 : Int)) s) fun i2 s1 =>
    if 0 ≤ i2 then
      iov (x1 + x2) <|
      ick (x1 + x2) 700 <|
      let s3 : gI := (iw s1 78 (x1 + x2) i2)
      if x5 = 0 then
        f236_at55 N x1 x2 i2 s3
      else
        if (64 : Int) ≤ i2 then
          f236_at55 N x1 x2 i2 s3
        else
          iov (x4 + (2 : Int)) <|
          i_o2 (f228 N x1 x2 x3 (x4 + (2 : Int)) s3) fun i5 s4 =>
          f236_at56 N x1 x2 i2 i5 s4
    else
      some s1
/-! GutterNineModel.throwsAt -/
noncomputable def f235_at70 (N : Nat) (x1 : Int) (x3 : Int) (x7 : Int) (x8 : Int) (s : gI) : Option (gI) :=
    iov (x1 + x3) <|
    if 0 ≤ x8 then
      ick (x1 + x3) 700 <|
      let s1 : gI := (iw s 78 (x1 + x3) (64 : Int))
      some s1
    else
      if x7 < 0 then
        ick (x1 + x3) 700 <|
        let s2 : gI := (iw s 78 (x1 + x3) (64 : Int))
        some s2
      else
        i_o2 (f218 N s) fun i4 s3 =>
        if i4 ≤ x7 then
          ick (x1 + x3) 700 <|
          let s5 : gI := (iw s3 78 (x1 + x3) (64 : Int))
          some s5
        else
          ick (x1 + x3) 700 <|
          let s6 : gI := (iw s3 78 (x1 + x3) (65 : Int))
          some s6
noncomputable def f235_at220 (N : Nat) (x1 : Int) (x3 : Int) (s : gI) : Option (gI) :=
    i_o1 (f232 N x1 x3 s) fun s1 =>
    some s1
noncomputable def f235_at219 (N : Nat) (x1 : Int) (x3 : Int) (z0 : Int) (z1 : Int) (s : gI) : Option (gI) :=
    ick z1 700 <|
    let s1 : gI := (iw s 78 z1 z0)
    f235_at220 N x1 x3 s1
noncomputable def f235_at184 (N : Nat) (x1 : Int) (x3 : Int) (z0 : Int) (z1 : Int) (s : gI) : Option (gI) :=
    ick z1 700 <|
    let s1 : gI := (iw s 78 z1 z0)
    f235_at220 N x1 x3 s1
noncomputable def f235_at153 (N : Nat) (x1 : Int) (x3 : Int) (x9 : Int) (x10 : Int) (z0 : Int) (z1 : Int) (z2 : Int) (z3 : Int) (z4 : Int) (s : gI) : Option (gI) :=
    i_o1 (f236 N z4 z3 z2 z1 z0 s) fun s1 =>
    iov (x1 + x3) <|
    iov (x1 + x10) <|
    ick (x1 + x10) 700 <|
    if (s1.1 78 (x1 + x10)) = x9 then
      f235_at184 N x1 x3 (64 : Int) (x1 + x3) s1
    else
      f235_at184 N x1 x3 x9 (x1 + x3) s1
noncomputable def f235 (N : Nat) (x1 : Int) (x2 : Int) (x3 : Int) (x4 : Int) (x5 : Int) (x6 : Int) (s : gI) : Option (gI) :=
    i_o2 (f233 N x6 s) fun i2 s1 =>
    iov (x4 + i2) <|
    let i3 : Int := (x4 + i2)
    i_o2 (f234 N x6 s1) fun i5 s4 =>
    iov (x5 + i5) <|
    let i6 : Int := (x5 + i5)
    iov (x1 + (8 : Int)) <|
    iov ((x1 + (8 : Int)) + x3) <|
    ick ((x1 + (8 : Int)) + x3) 700 <|
    let s7 : gI := (iw s4 78 ((x1 + (8 : Int)) + x3) x2)
    iov (x1 + x3) <|
    ick (x1 + x3) 700 <|
    let s8 : gI := (iw s7 78 (x1 + x3) (64 : Int))
    if i3 < 0 then
      f235_at70 N x1 x3 i3 i6 s8
    else
      i_o2 (f218 N s8) fun i10 s9 =>
      if i10 ≤ i3 then
        f235_at70 N x1 x3 i3 i6 s9
      else
        i_o2 (f219 N s9) fun i12 s11 =>
        if i12 ≤ i6 then
          f235_at70 N x1 x3 i3 i6 s11
        else
          if 0 ≤ i6 then
            iov ((8 : Int) * i6) <|
            iov (((8 : Int) * i6) + i3) <|
            let i13 : Int := (((8 : Int) * i6) + i3)
            i_o2 (f227 N x1 i13 x3 s11) fun i15 s14 =>
            if i15 < 0 then
              i_o2 (f228 N x1 x3 i3 i6 s14) fun i17 s16 =>
              iov (x1 + x3) <|
              if 0 ≤ i17 then
                f235_at219 N x1 x3 i17 (x1 + x3) s16
              else
                f235_at219 N x1 x3 (64 : Int) (x1 + x3) s16
            else
              i_o2 (f226 N x3 (0 : Int) s14) fun i19 s18 =>
              if i19 = (3 : Int) then
                f235_at153 N x1 x3 i13 i15 (1 : Int) i6 i3 i15 x1 s18
              else
                f235_at153 N x1 x3 i13 i15 (0 : Int) i6 i3 i15 x1 s18
          else
            f235_at70 N x1 x3 i3 i6 s11
/-! GutterNineModel.toss -/
noncomputable def f242 (N : Nat) (x1 : Int) (x2 : Int) (x3 : Int) (x4 : Int) (x5 : Int) (s : gI) : Option (Int × gI) :=
    let s1 : gI := (iw s 63 0 (0 : Int))
    i_o2 (f241 N x1 x2 x3 x4 s1) fun i3 s2 =>
    if i3 = 0 then
      some ((-1 : Int), s2)
    else
      i_o2 (f189 N x5 (0 : Int) (8 : Int) s2) fun i5 s4 =>
      if i5 = 0 then
        some ((-1 : Int), s4)
      else
        i_o1 (f217 N s4) fun s6 =>
        i_o1 (f235 N (0 : Int) x1 x2 x3 x4 x5 s6) fun s7 =>
        ick x2 700 <|
        i_o2 (f237 N (s7.1 78 x2) s7) fun i9 s8 =>
        some (i9, s8)
/-! GutterNineModel.isRow -/
noncomputable def f248 (N : Nat) (x1 : Int) (s : gI) : Option (Int × gI) :=
    if x1 < 0 then
      ib1 (0 : Int) <|
      some ((0 : Int), s)
    else
      i_o2 (f219 N s) fun i2 s1 =>
      if i2 ≤ x1 then
        ib1 (0 : Int) <|
        some ((0 : Int), s1)
      else
        ib1 (1 : Int) <|
        some ((1 : Int), s1)
/-! GutterNineModel.far -/
noncomputable def f244 (N : Nat) (x0 : Int) (x1 : Int) (s : gI) : Option (Int × gI) :=
    if x1 ≤ x0 then
      iov (x0 - x1) <|
      some ((x0 - x1), s)
    else
      iov (x1 - x0) <|
      some ((x1 - x0), s)
/-! GutterNineModel.pipeFrom -/
noncomputable def f243_at48 (N : Nat) (r_at5 : Int → Int → Int → Int → gI → Option (Int × gI)) (x1 : Int) (x2 : Int) (x4 : Int) (s : gI) : Option (Int × gI) :=
    iov (x4 + (1 : Int)) <|
    let i1 : Int := (x4 + (1 : Int))
    r_at5 x1 x2 x4 i1 s
noncomputable def f243_at5 (N : Nat) : Nat → Int → Int → Int → Int → gI → Option (Int × gI)
  | 0, _, _, _, _, _ => none
  | n + 1, x1, x2, x3, x4, s =>
    i_o2 (f218 N s) fun i2 s1 =>
    if i2 ≤ x4 then
      some (x3, s1)
    else
      iov ((8 : Int) * x2) <|
      iov (((8 : Int) * x2) + x4) <|
      i_o2 (f225 N (((8 : Int) * x2) + x4) s1) fun i4 s3 =>
      if i4 = (7 : Int) then
        if x3 < 0 then
          f243_at48 N (f243_at5 N n) x1 x2 x4 s3
        else
          i_o2 (f244 N x4 x1 s3) fun i7 s6 =>
          i_o2 (f244 N x3 x1 s6) fun i9 s8 =>
          if i9 ≤ i7 then
            iov (x4 + (1 : Int)) <|
            let i10 : Int := (x4 + (1 : Int))
            f243_at5 N n x1 x2 x3 i10 s8
          else
            f243_at48 N (f243_at5 N n) x1 x2 x4 s8
      else
        iov (x4 + (1 : Int)) <|
        let i5 : Int := (x4 + (1 : Int))
        f243_at5 N n x1 x2 x3 i5 s3
noncomputable def f243 (N : Nat) (x1 : Int) (x2 : Int) (s : gI) : Option (Int × gI) :=
    f243_at5 N N x1 x2 (-1 : Int) (0 : Int) s
/-! GutterNineModel.washesOne -/
noncomputable def f246_at102 (N : Nat) (x3 : Int) (x7 : Int) (s : gI) : Option (Int × gI) :=
    if x7 = x3 then
      ib1 (0 : Int) <|
      some ((0 : Int), s)
    else
      ib1 (1 : Int) <|
      some ((1 : Int), s)
noncomputable def f246_at90 (N : Nat) (r_at16 : Int → Int → Int → Int → Int → Int → Int → gI → Option (Int × gI)) (x1 : Int) (x2 : Int) (x3 : Int) (x4 : Int) (x5 : Int) (x6 : Int) (x7 : Int) (x8 : Int) (z0 : Int) (s : gI) : Option (Int × gI) :=
    if z0 = 0 then
      f246_at102 N x3 x7 s
    else
      if 0 ≤ x8 then
        iov (x1 + x2) <|
        ick (x1 + x2) 700 <|
        let s1 : gI := (iw s 78 (x1 + x2) x8)
        iov (x7 + x6) <|
        let i2 : Int := (x7 + x6)
        r_at16 x1 x2 x3 x4 x5 x6 i2 s1
      else
        f246_at102 N x3 x7 s
noncomputable def f246_at85 (N : Nat) (r_at16 : Int → Int → Int → Int → Int → Int → Int → gI → Option (Int × gI)) (x1 : Int) (x2 : Int) (x3 : Int) (x4 : Int) (x5 : Int) (x6 : Int) (x7 : Int) (x8 : Int) (s : gI) : Option (Int × gI) :=
    f246_at90 N r_at16 x1 x2 x3 x4 x5 x6 x7 x8 (1 : Int) s
noncomputable def f246_at89 (N : Nat) (r_at16 : Int → Int → Int → Int → Int → Int → Int → gI → Option (Int × gI)) (x1 : Int) (x2 : Int) (x3 : Int) (x4 : Int) (x5 : Int) (x6 : Int) (x7 : Int) (x8 : Int) (s : gI) : Option (Int × gI) :=
    f246_at90 N r_at16 x1 x2 x3 x4 x5 x6 x7 x8 (0 : Int) s
noncomputable def f246_at16 (N : Nat) : Nat → Int → Int → Int → Int → Int → Int → Int → gI → Option (Int × gI)
  | 0, _, _, _, _, _, _, _, _ => none
  | n + 1, x1, x2, x3, x4, x5, x6, x7, s =>
    iov (x1 + x2) <|
    ick (x1 + x2) 700 <|
    iov ((8 : Int) * x4) <|
    iov (((8 : Int) * x4) + x7) <|
    if (s.1 78 (x1 + x2)) = (((8 : Int) * x4) + x7) then
      iov (x7 + x6) <|
      i_o2 (f228 N x1 x2 (x7 + x6) x4 s) fun i2 s1 =>
      iov (x7 + x6) <|
      if (x7 + x6) = x5 then
        f246_at85 N (f246_at16 N n) x1 x2 x3 x4 x5 x6 x7 i2 s1
      else
        if i2 < 0 then
          f246_at89 N (f246_at16 N n) x1 x2 x3 x4 x5 x6 x7 i2 s1
        else
          iov ((8 : Int) * x4) <|
          iov (((8 : Int) * x4) + x7) <|
          iov ((((8 : Int) * x4) + x7) + x6) <|
          i_o2 (f225 N ((((8 : Int) * x4) + x7) + x6) s1) fun i4 s3 =>
          if i4 = (6 : Int) then
            f246_at85 N (f246_at16 N n) x1 x2 x3 x4 x5 x6 x7 i2 s3
          else
            f246_at89 N (f246_at16 N n) x1 x2 x3 x4 x5 x6 x7 i2 s3
    else
      ib1 (1 : Int) <|
      some ((1 : Int), s)
noncomputable def f246 (N : Nat) (x1 : Int) (x2 : Int) (x3 : Int) (x4 : Int) (x5 : Int) (s : gI) : Option (Int × gI) :=
    if x3 ≤ x5 then
      f246_at16 N N x1 x2 x3 x4 x5 (1 : Int) x3 s
    else
      f246_at16 N N x1 x2 x3 x4 x5 (-1 : Int) x3 s
/-! GutterNineModel.washes -/
noncomputable def f245_at135 (N : Nat) (r_at15 : Int → Int → Int → Int → Int → gI → Option (Int × gI)) (x1 : Int) (x2 : Int) (x4 : Int) (x5 : Int) (z0 : Int) (z1 : Int) (s : gI) : Option (Int × gI) :=
    iov (z1 + z0) <|
    let i1 : Int := (z1 + z0)
    iov (x5 + (1 : Int)) <|
    let i2 : Int := (x5 + (1 : Int))
    r_at15 x1 x2 i1 x4 i2 s
noncomputable def f245_at56 (N : Nat) (r_at15 : Int → Int → Int → Int → Int → gI → Option (Int × gI)) (x1 : Int) (x2 : Int) (x3 : Int) (x4 : Int) (x5 : Int) (z0 : Int) (s : gI) : Option (Int × gI) :=
    i_o2 (f243 N x5 x2 s) fun i2 s1 =>
    if z0 < 0 then
      iov (x5 + (1 : Int)) <|
      let i3 : Int := (x5 + (1 : Int))
      r_at15 x1 x2 x3 x4 i3 s1
    else
      if i2 < 0 then
        iov (x5 + (1 : Int)) <|
        let i4 : Int := (x5 + (1 : Int))
        r_at15 x1 x2 x3 x4 i4 s1
      else
        i_o2 (f244 N i2 x5 s1) fun i6 s5 =>
        if i6 = x4 then
          if (i_and (i_shr (s5.1 63 25) z0) (1 : Int)) = 0 then
            let s9 : gI := (iw s5 63 25 (i_or (s5.1 63 25) (i_shl (1 : Int) z0)))
            i_o2 (f246 N x1 z0 x5 x2 i2 s9) fun i11 s10 =>
            if i11 = 0 then
              f245_at135 N r_at15 x1 x2 x4 x5 (0 : Int) x3 s10
            else
              f245_at135 N r_at15 x1 x2 x4 x5 (1 : Int) x3 s10
          else
            iov (x5 + (1 : Int)) <|
            let i8 : Int := (x5 + (1 : Int))
            r_at15 x1 x2 x3 x4 i8 s5
        else
          iov (x5 + (1 : Int)) <|
          let i7 : Int := (x5 + (1 : Int))
          r_at15 x1 x2 x3 x4 i7 s5
noncomputable def f245_at15 (N : Nat) (r_at5 : Int → Int → Int → Int → gI → Option (Int × gI)) : Nat → Int → Int → Int → Int → Int → gI → Option (Int × gI)
  | 0, _, _, _, _, _, _ => none
  | n + 1, x1, x2, x3, x4, x5, s =>
    i_o2 (f218 N s) fun i2 s1 =>
    if i2 ≤ x5 then
      iov (x4 + (1 : Int)) <|
      let i3 : Int := (x4 + (1 : Int))
      r_at5 x1 x2 x3 i3 s1
    else
      iov ((8 : Int) * x2) <|
      iov (((8 : Int) * x2) + x5) <|
      let i4 : Int := (((8 : Int) * x2) + x5)
      i_o2 (f225 N i4 s1) fun i6 s5 =>
      if i6 = (6 : Int) then
        i_o2 (f227 N x1 i4 (-1 : Int) s5) fun i8 s7 =>
        f245_at56 N (f245_at15 N r_at5 n) x1 x2 x3 x4 x5 i8 s7
      else
        f245_at56 N (f245_at15 N r_at5 n) x1 x2 x3 x4 x5 (-1 : Int) s5
noncomputable def f245_at5 (N : Nat) : Nat → Int → Int → Int → Int → gI → Option (Int × gI)
  | 0, _, _, _, _, _ => none
  | n + 1, x1, x2, x3, x4, s =>
    if (8 : Int) ≤ x4 then
      some (x3, s)
    else
      f245_at15 N (f245_at5 N n) N x1 x2 x3 x4 (0 : Int) s
noncomputable def f245 (N : Nat) (x1 : Int) (x2 : Int) (s : gI) : Option (Int × gI) :=
    f245_at5 N N x1 x2 (0 : Int) (1 : Int) s
/-! GutterNineModel.hoses -/
noncomputable def f247 (N : Nat) (x1 : Int) (x2 : Int) (s : gI) : Option (Int × gI) :=
    let s1 : gI := (iw s 63 25 (0 : Int))
    i_o2 (f245 N x1 x2 s1) fun i3 s2 =>
    some (i3, s2)
/-! GutterNineModel.hose -/
noncomputable def f249 (N : Nat) (x1 : Int) (s : gI) : Option (Int × gI) :=
    let s1 : gI := (iw s 63 0 (0 : Int))
    i_o2 (f248 N x1 s1) fun i3 s2 =>
    if i3 = 0 then
      some ((-1 : Int), s2)
    else
      i_o1 (f217 N s2) fun s4 =>
      i_o2 (f247 N (0 : Int) x1 s4) fun i6 s5 =>
      some (i6, s5)
/-! GutterNineModel.broom -/
noncomputable def f250_at24 (N : Nat) : Nat → Int → Int → gI → Option (Int × gI)
  | 0, _, _, _ => none
  | n + 1, x1, x2, s =>
    i_o2 (f221 N s) fun i2 s1 =>
    if i2 ≤ x2 then
      some (x1, s1)
    else
      ick x2 700 <|
      if (64 : Int) ≤ (s1.1 78 x2) then
        iov (x2 + (1 : Int)) <|
        let i3 : Int := (x2 + (1 : Int))
        f250_at24 N n x1 i3 s1
      else
        ick x2 700 <|
        idv (s1.1 78 x2) (8 : Int) <|
        ick (5 : Int) 140 <|
        i_o2 (f244 N ((s1.1 78 x2) % (8 : Int)) (s1.1 71 (5 : Int)) s1) fun i5 s4 =>
        ick x2 700 <|
        idv (s4.1 78 x2) (8 : Int) <|
        ick (6 : Int) 140 <|
        i_o2 (f244 N ((s4.1 78 x2) / (8 : Int)) (s4.1 71 (6 : Int)) s4) fun i7 s6 =>
        iov (i5 + i7) <|
        ick (4 : Int) 140 <|
        if (s6.1 71 (4 : Int)) < (i5 + i7) then
          iov (x2 + (1 : Int)) <|
          let i8 : Int := (x2 + (1 : Int))
          f250_at24 N n x1 i8 s6
        else
          ick x2 700 <|
          let s9 : gI := (iw s6 78 x2 (64 : Int))
          let i10 : Int := (i_or x1 (i_shl (1 : Int) x2))
          iov (x2 + (1 : Int)) <|
          let i11 : Int := (x2 + (1 : Int))
          f250_at24 N n i10 i11 s9
noncomputable def f250 (N : Nat) (s : gI) : Option (Int × gI) :=
    let s1 : gI := (iw s 63 0 (0 : Int))
    ick (4 : Int) 140 <|
    if 0 ≤ (s1.1 71 (4 : Int)) then
      i_o1 (f217 N s1) fun s2 =>
      f250_at24 N N (0 : Int) (0 : Int) s2
    else
      some ((-1 : Int), s1)
/-! GutterNineModel.blows -/
noncomputable def f251_at173 (N : Nat) (r_at5 : Int → Int → Int → Int → gI → Option (Int × gI)) (x1 : Int) (x2 : Int) (x4 : Int) (z0 : Int) (z1 : Int) (s : gI) : Option (Int × gI) :=
    iov (z1 + z0) <|
    let i1 : Int := (z1 + z0)
    iov (x4 + (1 : Int)) <|
    let i2 : Int := (x4 + (1 : Int))
    r_at5 x1 x2 i1 i2 s
noncomputable def f251_at153 (N : Nat) (r_at5 : Int → Int → Int → Int → gI → Option (Int × gI)) (x1 : Int) (x2 : Int) (x3 : Int) (x4 : Int) (x5 : Int) (s : gI) : Option (Int × gI) :=
    iov (x1 + x4) <|
    ick (x1 + x4) 700 <|
    if (s.1 78 (x1 + x4)) = x5 then
      f251_at173 N r_at5 x1 x2 x4 (0 : Int) x3 s
    else
      f251_at173 N r_at5 x1 x2 x4 (1 : Int) x3 s
noncomputable def f251_at128 (N : Nat) (r_at5 : Int → Int → Int → Int → gI → Option (Int × gI)) (x1 : Int) (x2 : Int) (x3 : Int) (x4 : Int) (x5 : Int) (z0 : Int) (s : gI) : Option (Int × gI) :=
    if z0 < 0 then
      f251_at153 N r_at5 x1 x2 x3 x4 x5 s
    else
      iov (x1 + x4) <|
      ick (x1 + x4) 700 <|
      let s1 : gI := (iw s 78 (x1 + x4) z0)
      i_o1 (f232 N x1 x4 s1) fun s2 =>
      f251_at153 N r_at5 x1 x2 x3 x4 x5 s2
noncomputable def f251_at120 (N : Nat) (r_at5 : Int → Int → Int → Int → gI → Option (Int × gI)) (x1 : Int) (x2 : Int) (x3 : Int) (x4 : Int) (x5 : Int) (z0 : Int) (z1 : Int) (z2 : Int) (z3 : Int) (z4 : Int) (s : gI) : Option (Int × gI) :=
    iov (z1 + z0) <|
    i_o2 (f228 N z4 z3 z2 (z1 + z0) s) fun i2 s1 =>
    f251_at128 N r_at5 x1 x2 x3 x4 x5 i2 s1
noncomputable def f251_at100 (N : Nat) (r_at5 : Int → Int → Int → Int → gI → Option (Int × gI)) (x1 : Int) (x2 : Int) (x3 : Int) (x4 : Int) (x5 : Int) (z0 : Int) (z1 : Int) (z2 : Int) (z3 : Int) (s : gI) : Option (Int × gI) :=
    iov (z1 + z0) <|
    idv x5 (8 : Int) <|
    if (2 : Int) ≤ x2 then
      f251_at120 N r_at5 x1 x2 x3 x4 x5 (0 : Int) (x5 / (8 : Int)) (z1 + z0) z2 z3 s
    else
      iov ((2 : Int) * x2) <|
      iov ((1 : Int) - ((2 : Int) * x2)) <|
      f251_at120 N r_at5 x1 x2 x3 x4 x5 ((1 : Int) - ((2 : Int) * x2)) (x5 / (8 : Int)) (z1 + z0) z2 z3 s
noncomputable def f251_at70 (N : Nat) (r_at5 : Int → Int → Int → Int → gI → Option (Int × gI)) (x1 : Int) (x2 : Int) (x3 : Int) (x4 : Int) (x5 : Int) (z0 : Int) (s : gI) : Option (Int × gI) :=
    if z0 = 0 then
      f251_at128 N r_at5 x1 x2 x3 x4 x5 (-1 : Int) s
    else
      idv x5 (8 : Int) <|
      if (2 : Int) ≤ x2 then
        iov ((2 : Int) * x2) <|
        iov (((2 : Int) * x2) - (5 : Int)) <|
        f251_at100 N r_at5 x1 x2 x3 x4 x5 (((2 : Int) * x2) - (5 : Int)) (x5 % (8 : Int)) x4 x1 s
      else
        f251_at100 N r_at5 x1 x2 x3 x4 x5 (0 : Int) (x5 % (8 : Int)) x4 x1 s
noncomputable def f251_at69 (N : Nat) (r_at5 : Int → Int → Int → Int → gI → Option (Int × gI)) (x1 : Int) (x2 : Int) (x3 : Int) (x4 : Int) (x5 : Int) (s : gI) : Option (Int × gI) :=
    f251_at70 N r_at5 x1 x2 x3 x4 x5 (0 : Int) s
noncomputable def f251_at5 (N : Nat) : Nat → Int → Int → Int → Int → gI → Option (Int × gI)
  | 0, _, _, _, _, _ => none
  | n + 1, x1, x2, x3, x4, s =>
    i_o2 (f221 N s) fun i2 s1 =>
    if i2 ≤ x4 then
      some (x3, s1)
    else
      iov (x1 + x4) <|
      ick (x1 + x4) 700 <|
      let i3 : Int := (s1.1 78 (x1 + x4))
      i_o2 (f226 N x4 (0 : Int) s1) fun i5 s4 =>
      idv i5 (2 : Int) <|
      if (i5 % (2 : Int)) = 0 then
        if (64 : Int) ≤ i3 then
          f251_at69 N (f251_at5 N n) x1 x2 x3 x4 i3 s4
        else
          i_o2 (f225 N i3 s4) fun i7 s6 =>
          if i7 = (5 : Int) then
            f251_at69 N (f251_at5 N n) x1 x2 x3 x4 i3 s6
          else
            i_o2 (f225 N i3 s6) fun i9 s8 =>
            if i9 = (6 : Int) then
              f251_at69 N (f251_at5 N n) x1 x2 x3 x4 i3 s8
            else
              f251_at70 N (f251_at5 N n) x1 x2 x3 x4 i3 (1 : Int) s8
      else
        f251_at69 N (f251_at5 N n) x1 x2 x3 x4 i3 s4
noncomputable def f251 (N : Nat) (x1 : Int) (x2 : Int) (s : gI) : Option (Int × gI) :=
    f251_at5 N N x1 x2 (0 : Int) (0 : Int) s
/-! GutterNineModel.gale -/
noncomputable def f252 (N : Nat) (x1 : Int) (s : gI) : Option (Int × gI) :=
    let s1 : gI := (iw s 63 0 (0 : Int))
    i_o2 (f189 N x1 (0 : Int) (3 : Int) s1) fun i3 s2 =>
    if i3 = 0 then
      some ((-1 : Int), s2)
    else
      i_o1 (f217 N s2) fun s4 =>
      i_o2 (f251 N (0 : Int) x1 s4) fun i6 s5 =>
      some (i6, s5)
/-! GutterNineModel.both -/
noncomputable def f214 (N : Nat) (x0 : Int) (x1 : Int) (x2 : Int) (s : gI) : Option (Int × gI) :=
    if x0 = 4 then
      some ((Int.bmod (x1 + x2) 4294967296), s)
    else if x0 = 5 then
      some ((Int.bmod (x1 - x2) 4294967296), s)
    else if x0 = 6 then
      some ((Int.bmod (x1 * x2) 4294967296), s)
    else if x0 = 7 then
      if x2 ≤ x1 then
        some ((0 : Int), s)
      else
        some ((1 : Int), s)
    else if x0 = 8 then
      if x1 = x2 then
        some ((1 : Int), s)
      else
        some ((0 : Int), s)
    else if x0 = 9 then
      if x1 = 0 then
        some ((0 : Int), s)
      else
        if x2 = 0 then
          some ((0 : Int), s)
        else
          some ((1 : Int), s)
    else 
      if x1 = 0 then
        if x2 = 0 then
          some ((0 : Int), s)
        else
          some ((1 : Int), s)
      else
        some ((1 : Int), s)
/-! GutterNineModel.worthAt -/
noncomputable def f213_at64 (N : Nat) (r_at4 : Int → Int → gI → Option (Int × gI)) (x2 : Int) (x3 : Int) (z0 : Int) (z1 : Int) (s : gI) : Option (Int × gI) :=
    ick z1 1100 <|
    let s1 : gI := (iw s 77 z1 z0)
    iov (x2 + (1 : Int)) <|
    let i2 : Int := (x2 + (1 : Int))
    iov (x3 + (1 : Int)) <|
    let i3 : Int := (x3 + (1 : Int))
    r_at4 i2 i3 s1
noncomputable def f213_at33 (N : Nat) (r_at4 : Int → Int → gI → Option (Int × gI)) (x2 : Int) (x3 : Int) (x4 : Int) (s : gI) : Option (Int × gI) :=
    if x4 = (1 : Int) then
      ick x3 2200 <|
      f213_at64 N r_at4 x2 x3 (s.1 73 x3) x2 s
    else
      ick x3 2200 <|
      ick (s.1 73 x3) 3 <|
      f213_at64 N r_at4 x2 x3 (s.1 76 (s.1 73 x3)) x2 s
noncomputable def f213_at100 (N : Nat) (r_at4 : Int → Int → gI → Option (Int × gI)) (x2 : Int) (x3 : Int) (z0 : Int) (z1 : Int) (s : gI) : Option (Int × gI) :=
    ick z1 1100 <|
    let s1 : gI := (iw s 77 z1 z0)
    iov (x3 + (1 : Int)) <|
    let i2 : Int := (x3 + (1 : Int))
    r_at4 x2 i2 s1
noncomputable def f213_at4 (N : Nat) : Nat → Int → Int → gI → Option (Int × gI)
  | 0, _, _, _ => none
  | n + 1, x2, x3, s =>
    ick x3 2200 <|
    if (s.1 72 x3) = 0 then
      ick (0 : Int) 1100 <|
      some ((s.1 77 (0 : Int)), s)
    else
      ick x3 2200 <|
      let i1 : Int := (s.1 72 x3)
      if i1 = (1 : Int) then
        f213_at33 N (f213_at4 N n) x2 x3 i1 s
      else
        if i1 = (2 : Int) then
          f213_at33 N (f213_at4 N n) x2 x3 i1 s
        else
          if i1 = (3 : Int) then
            iov (x2 - (1 : Int)) <|
            iov (x2 - (1 : Int)) <|
            ick (x2 - (1 : Int)) 1100 <|
            if (s.1 77 (x2 - (1 : Int))) = 0 then
              f213_at100 N (f213_at4 N n) x2 x3 (1 : Int) (x2 - (1 : Int)) s
            else
              f213_at100 N (f213_at4 N n) x2 x3 (0 : Int) (x2 - (1 : Int)) s
          else
            iov (x2 + (-1 : Int)) <|
            let i2 : Int := (x2 + (-1 : Int))
            iov (i2 - (1 : Int)) <|
            iov (i2 - (1 : Int)) <|
            ick (i2 - (1 : Int)) 1100 <|
            ick i2 1100 <|
            i_o2 (f214 N i1 (s.1 77 (i2 - (1 : Int))) (s.1 77 i2) s) fun i4 s3 =>
            ick (i2 - (1 : Int)) 1100 <|
            let s5 : gI := (iw s3 77 (i2 - (1 : Int)) i4)
            iov (x3 + (1 : Int)) <|
            let i6 : Int := (x3 + (1 : Int))
            f213_at4 N n i2 i6 s5
noncomputable def f213 (N : Nat) (x1 : Int) (s : gI) : Option (Int × gI) :=
    f213_at4 N N (0 : Int) x1 s
/-! GutterNineModel.isLost -/
noncomputable def f253 (N : Nat) (x0 : Int) (s : gI) : Option (Int × gI) :=
    if x0 < (64 : Int) then
      ib1 (1 : Int) <|
      some ((1 : Int), s)
    else
      if x0 < (128 : Int) then
        ib1 (0 : Int) <|
        some ((0 : Int), s)
      else
        ib1 (1 : Int) <|
        some ((1 : Int), s)
/-! GutterNineModel.lawAt -/
noncomputable def f254_at142 (N : Nat) (z0 : Int) (s : gI) : Option (Int × gI) :=
    if 0 ≤ z0 then
      if z0 ≤ (99 : Int) then
        some (z0, s)
      else
        some ((99 : Int), s)
    else
      some ((0 : Int), s)
noncomputable def f254_at98 (N : Nat) (r_at31 : Int → Int → Int → gI → Option (Int × gI)) (x1 : Int) (x2 : Int) (x3 : Int) (z0 : Int) (z1 : Int) (z2 : Int) (s : gI) : Option (Int × gI) :=
    iov (z1 + z0) <|
    ick z2 3 <|
    let s1 : gI := (iw s 76 z2 (z1 + z0))
    iov (x3 + (1 : Int)) <|
    let i2 : Int := (x3 + (1 : Int))
    r_at31 x1 x2 i2 s1
noncomputable def f254_at65 (N : Nat) (r_at31 : Int → Int → Int → gI → Option (Int × gI)) (x1 : Int) (x2 : Int) (x3 : Int) (z0 : Int) (z1 : Int) (z2 : Int) (s : gI) : Option (Int × gI) :=
    iov (z1 + z0) <|
    ick z2 3 <|
    let s1 : gI := (iw s 76 z2 (z1 + z0))
    ick (1 : Int) 3 <|
    iov (x1 + x3) <|
    ick (x1 + x3) 700 <|
    i_o2 (f253 N (s1.1 78 (x1 + x3)) s1) fun i3 s2 =>
    if i3 = 0 then
      f254_at98 N r_at31 x1 x2 x3 (0 : Int) (s1.1 76 (1 : Int)) (1 : Int) s2
    else
      i_o2 (f226 N x3 (2 : Int) s2) fun i5 s4 =>
      f254_at98 N r_at31 x1 x2 x3 i5 (s1.1 76 (1 : Int)) (1 : Int) s4
noncomputable def f254_at31 (N : Nat) : Nat → Int → Int → Int → gI → Option (Int × gI)
  | 0, _, _, _, _ => none
  | n + 1, x1, x2, x3, s =>
    i_o2 (f221 N s) fun i2 s1 =>
    if i2 ≤ x3 then
      iov ((8 : Int) + x2) <|
      ick ((8 : Int) + x2) 140 <|
      let i3 : Int := (s1.1 71 ((8 : Int) + x2))
      if 0 ≤ i3 then
        i_o2 (f213 N i3 s1) fun i5 s4 =>
        f254_at142 N i5 s4
      else
        if x2 = 0 then
          ick (0 : Int) 3 <|
          f254_at142 N (s1.1 76 (0 : Int)) s1
        else
          f254_at142 N (1 : Int) s1
    else
      ick (0 : Int) 3 <|
      iov (x1 + x3) <|
      ick (x1 + x3) 700 <|
      i_o2 (f253 N (s1.1 78 (x1 + x3)) s1) fun i7 s6 =>
      if i7 = 0 then
        f254_at65 N (f254_at31 N n) x1 x2 x3 (0 : Int) (s1.1 76 (0 : Int)) (0 : Int) s6
      else
        f254_at65 N (f254_at31 N n) x1 x2 x3 (1 : Int) (s1.1 76 (0 : Int)) (0 : Int) s6
noncomputable def f254 (N : Nat) (x1 : Int) (x2 : Int) (s : gI) : Option (Int × gI) :=
    ick (0 : Int) 3 <|
    let s1 : gI := (iw s 76 (0 : Int) (0 : Int))
    ick (1 : Int) 3 <|
    let s2 : gI := (iw s1 76 (1 : Int) (0 : Int))
    iov (x1 + (16 : Int)) <|
    ick (x1 + (16 : Int)) 700 <|
    ick (2 : Int) 3 <|
    let s3 : gI := (iw s2 76 (2 : Int) (s2.1 78 (x1 + (16 : Int))))
    f254_at31 N N x1 x2 (0 : Int) s3
/-! GutterNineModel.passes -/
noncomputable def f255_at200 (N : Nat) (x1 : Int) (s : gI) : Option (gI) :=
    iov (x1 + (16 : Int)) <|
    ick (x1 + (16 : Int)) 700 <|
    iov ((s.1 78 (x1 + (16 : Int))) + (1 : Int)) <|
    ick (x1 + (16 : Int)) 700 <|
    let s1 : gI := (iw s 78 (x1 + (16 : Int)) ((s.1 78 (x1 + (16 : Int))) + (1 : Int)))
    some s1
noncomputable def f255_at147 (N : Nat) : Nat → Int → Int → gI → Option (gI)
  | 0, _, _, _ => none
  | n + 1, x1, x4, s =>
    i_o2 (f221 N s) fun i2 s1 =>
    if i2 ≤ x4 then
      f255_at200 N x1 s1
    else
      iov (x1 + x4) <|
      iov (x1 + x4) <|
      ick (x1 + x4) 700 <|
      i_o2 (f253 N (s1.1 78 (x1 + x4)) s1) fun i4 s3 =>
      if i4 = 0 then
        iov (x1 + x4) <|
        ick (x1 + x4) 700 <|
        ick (x1 + x4) 700 <|
        let s5 : gI := (iw s3 78 (x1 + x4) (s3.1 78 (x1 + x4)))
        iov (x4 + (1 : Int)) <|
        let i6 : Int := (x4 + (1 : Int))
        f255_at147 N n x1 i6 s5
      else
        ick (x1 + x4) 700 <|
        let s7 : gI := (iw s3 78 (x1 + x4) (64 : Int))
        iov (x4 + (1 : Int)) <|
        let i8 : Int := (x4 + (1 : Int))
        f255_at147 N n x1 i8 s7
noncomputable def f255_at96 (N : Nat) (x1 : Int) (x3 : Int) (z0 : Int) (z1 : Int) (z2 : Int) (s : gI) : Option (gI) :=
    iov (z1 + z0) <|
    ick z2 700 <|
    let s1 : gI := (iw s 78 z2 (z1 + z0))
    if x3 = 0 then
      f255_at200 N x1 s1
    else
      iov (x1 + (16 : Int)) <|
      ick (x1 + (16 : Int)) 700 <|
      ick (7 : Int) 140 <|
      iov ((s1.1 78 (x1 + (16 : Int))) + (s1.1 71 (7 : Int))) <|
      idv ((s1.1 78 (x1 + (16 : Int))) + (s1.1 71 (7 : Int))) (7 : Int) <|
      if (((s1.1 78 (x1 + (16 : Int))) + (s1.1 71 (7 : Int))) % (7 : Int)) = (5 : Int) then
        iov (x1 + (17 : Int)) <|
        ick (x1 + (17 : Int)) 700 <|
        i_o2 (f254 N x1 (0 : Int) s1) fun i3 s2 =>
        iov ((s1.1 78 (x1 + (17 : Int))) + i3) <|
        ick (x1 + (17 : Int)) 700 <|
        let s4 : gI := (iw s2 78 (x1 + (17 : Int)) ((s1.1 78 (x1 + (17 : Int))) + i3))
        f255_at147 N N x1 (0 : Int) s4
      else
        f255_at200 N x1 s1
noncomputable def f255_at60 (N : Nat) (r_at7 : Int → Int → Int → Int → gI → Option (gI)) (x1 : Int) (x2 : Int) (x4 : Int) (s : gI) : Option (gI) :=
    iov (x4 + (1 : Int)) <|
    let i1 : Int := (x4 + (1 : Int))
    r_at7 x1 x2 (1 : Int) i1 s
noncomputable def f255_at40 (N : Nat) (r_at7 : Int → Int → Int → Int → gI → Option (gI)) (x1 : Int) (x3 : Int) (x4 : Int) (z0 : Int) (s : gI) : Option (gI) :=
    if x3 = 0 then
      iov (x1 + x4) <|
      ick (x1 + x4) 700 <|
      i_o2 (f253 N (s.1 78 (x1 + x4)) s) fun i2 s1 =>
      if i2 = 0 then
        iov (x4 + (1 : Int)) <|
        let i3 : Int := (x4 + (1 : Int))
        r_at7 x1 z0 (0 : Int) i3 s1
      else
        f255_at60 N r_at7 x1 z0 x4 s1
    else
      f255_at60 N r_at7 x1 z0 x4 s
noncomputable def f255_at35 (N : Nat) (r_at7 : Int → Int → Int → Int → gI → Option (gI)) (x1 : Int) (x3 : Int) (x4 : Int) (s : gI) : Option (gI) :=
    f255_at40 N r_at7 x1 x3 x4 (1 : Int) s
noncomputable def f255_at7 (N : Nat) : Nat → Int → Int → Int → Int → gI → Option (gI)
  | 0, _, _, _, _, _ => none
  | n + 1, x1, x2, x3, x4, s =>
    i_o2 (f221 N s) fun i2 s1 =>
    if i2 ≤ x4 then
      iov (x1 + (17 : Int)) <|
      ick (x1 + (17 : Int)) 700 <|
      if x2 = 0 then
        f255_at96 N x1 x3 (0 : Int) (s1.1 78 (x1 + (17 : Int))) (x1 + (17 : Int)) s1
      else
        i_o2 (f254 N x1 (1 : Int) s1) fun i4 s3 =>
        f255_at96 N x1 x3 i4 (s1.1 78 (x1 + (17 : Int))) (x1 + (17 : Int)) s3
    else
      if x2 = 0 then
        iov (x1 + x4) <|
        ick (x1 + x4) 700 <|
        if (s1.1 78 (x1 + x4)) < (128 : Int) then
          f255_at40 N (f255_at7 N n) x1 x3 x4 (0 : Int) s1
        else
          f255_at35 N (f255_at7 N n) x1 x3 x4 s1
      else
        f255_at35 N (f255_at7 N n) x1 x3 x4 s1
noncomputable def f255 (N : Nat) (x1 : Int) (s : gI) : Option (gI) :=
    f255_at7 N N x1 (0 : Int) (0 : Int) (0 : Int) s
/-! GutterNineModel.days -/
noncomputable def f256_at23 (N : Nat) : Nat → Int → Int → gI → Option (Int × gI)
  | 0, _, _, _ => none
  | n + 1, x1, x2, s =>
    if x1 ≤ x2 then
      ick (16 : Int) 700 <|
      some ((s.1 78 (16 : Int)), s)
    else
      i_o1 (f255 N (0 : Int) s) fun s1 =>
      iov (x2 + (1 : Int)) <|
      let i2 : Int := (x2 + (1 : Int))
      f256_at23 N n x1 i2 s1
noncomputable def f256 (N : Nat) (x1 : Int) (s : gI) : Option (Int × gI) :=
    let s1 : gI := (iw s 63 0 (0 : Int))
    i_o2 (f189 N x1 (1 : Int) (100 : Int) s1) fun i3 s2 =>
    if i3 = 0 then
      some ((-1 : Int), s2)
    else
      i_o1 (f217 N s2) fun s4 =>
      f256_at23 N N x1 (0 : Int) s4
/-! GutterNineModel.fetch -/
noncomputable def f257_at48 (N : Nat) (r_at23 : Int → Int → gI → Option (Int × gI)) (x3 : Int) (z0 : Int) (z1 : Int) (s : gI) : Option (Int × gI) :=
    iov (z1 + z0) <|
    let i1 : Int := (z1 + z0)
    ick x3 700 <|
    if (s.1 78 x3) = (65 : Int) then
      ick x3 700 <|
      let s4 : gI := (iw s 78 x3 (64 : Int))
      iov (x3 + (1 : Int)) <|
      let i5 : Int := (x3 + (1 : Int))
      r_at23 i1 i5 s4
    else
      ick x3 700 <|
      ick x3 700 <|
      let s2 : gI := (iw s 78 x3 (s.1 78 x3))
      iov (x3 + (1 : Int)) <|
      let i3 : Int := (x3 + (1 : Int))
      r_at23 i1 i3 s2
noncomputable def f257_at23 (N : Nat) : Nat → Int → Int → gI → Option (Int × gI)
  | 0, _, _, _ => none
  | n + 1, x2, x3, s =>
    i_o2 (f221 N s) fun i2 s1 =>
    if i2 ≤ x3 then
      some (x2, s1)
    else
      ick x3 700 <|
      if (s1.1 78 x3) = (65 : Int) then
        f257_at48 N (f257_at23 N n) x3 (1 : Int) x2 s1
      else
        f257_at48 N (f257_at23 N n) x3 (0 : Int) x2 s1
noncomputable def f257 (N : Nat) (x1 : Int) (s : gI) : Option (Int × gI) :=
    let s1 : gI := (iw s 63 0 (0 : Int))
    i_o2 (f222 N x1 s1) fun i3 s2 =>
    if i3 = 0 then
      some ((-1 : Int), s2)
    else
      i_o1 (f217 N s2) fun s4 =>
      f257_at23 N N (0 : Int) (0 : Int) s4
/-! GutterNineModel.undo -/
noncomputable def f258 (N : Nat) (s : gI) : Option (Int × gI) :=
    let s1 : gI := (iw s 63 0 (0 : Int))
    if (s1.1 63 23) = 0 then
      ib1 (0 : Int) <|
      some ((0 : Int), s1)
    else
      iov ((s1.1 63 23) - (1 : Int)) <|
      let s2 : gI := (iw s1 63 23 ((s1.1 63 23) - (1 : Int)))
      iov ((5 : Int) + (s2.1 63 23)) <|
      iov ((28 : Int) * ((5 : Int) + (s2.1 63 23))) <|
      i_o1 (f215 N ((28 : Int) * ((5 : Int) + (s2.1 63 23))) (0 : Int) (18 : Int) s2) fun s3 =>
      ib1 (1 : Int) <|
      some ((1 : Int), s3)
/-! GutterNineModel.rolls -/
noncomputable def f259 (N : Nat) (x1 : Int) (x2 : Int) (s : gI) : Option (Int × gI) :=
    let s1 : gI := (iw s 63 0 (0 : Int))
    let i2 : Int := (Int.bmod ((Int.bmod ((8 : Int) * x2) 4294967296) + x1) 4294967296)
    i_o2 (f224 N x1 x2 s1) fun i4 s3 =>
    if i4 = 0 then
      some ((-1 : Int), s3)
    else
      i_o2 (f225 N i2 s3) fun i6 s5 =>
      if i6 = (8 : Int) then
        some ((-1 : Int), s5)
      else
        i_o2 (f225 N i2 s5) fun i8 s7 =>
        if i8 = (7 : Int) then
          some ((-1 : Int), s7)
        else
          i_o2 (f227 N (0 : Int) i2 (-1 : Int) s7) fun i10 s9 =>
          if i10 < 0 then
            i_o2 (f231 N (0 : Int) (-1 : Int) (0 : Int) i2 s9) fun i12 s11 =>
            i_o2 (f237 N i12 s11) fun i14 s13 =>
            some (i14, s13)
          else
            some ((-1 : Int), s9)
/-! GutterNineModel.tries -/
noncomputable def f262 (N : Nat) (x1 : Int) (x2 : Int) (x3 : Int) (x4 : Int) (x5 : Int) (x6 : Int) (x7 : Int) (s : gI) : Option (gI) :=
    i_o1 (f215 N x1 x2 (18 : Int) s) fun s1 =>
    i_o1 (f235 N x2 x3 x4 x5 x6 x7 s1) fun s2 =>
    some s2
/-! GutterNineModel.isOdd -/
noncomputable def f263_at65 (N : Nat) (r_at17 : Int → Int → Int → Int → Int → gI → Option (Int × gI)) (x1 : Int) (x2 : Int) (x3 : Int) (x5 : Int) (s : gI) : Option (Int × gI) :=
    iov (x5 + (1 : Int)) <|
    let i1 : Int := (x5 + (1 : Int))
    r_at17 x1 x2 x3 (1 : Int) i1 s
noncomputable def f263_at69 (N : Nat) (r_at17 : Int → Int → Int → Int → Int → gI → Option (Int × gI)) (x1 : Int) (x2 : Int) (x3 : Int) (x5 : Int) (s : gI) : Option (Int × gI) :=
    iov (x5 + (1 : Int)) <|
    let i1 : Int := (x5 + (1 : Int))
    r_at17 x1 x2 x3 (0 : Int) i1 s
noncomputable def f263_at17 (N : Nat) : Nat → Int → Int → Int → Int → Int → gI → Option (Int × gI)
  | 0, _, _, _, _, _, _ => none
  | n + 1, x1, x2, x3, x4, x5, s =>
    i_o2 (f221 N s) fun i2 s1 =>
    if i2 ≤ x5 then
      if x2 = 0 then
        ib1 x4 <|
        some (x4, s1)
      else if x2 = 1 then
        if x3 = (64 : Int) then
          ib1 (1 : Int) <|
          some ((1 : Int), s1)
        else
          ib1 (0 : Int) <|
          some ((0 : Int), s1)
      else if x2 = 2 then
        if (64 : Int) ≤ x3 then
          ib1 (0 : Int) <|
          some ((0 : Int), s1)
        else
          ib1 (1 : Int) <|
          some ((1 : Int), s1)
      else if x2 = 3 then
        if x3 = (65 : Int) then
          ib1 (1 : Int) <|
          some ((1 : Int), s1)
        else
          ib1 (0 : Int) <|
          some ((0 : Int), s1)
      else 
        if x3 < (128 : Int) then
          ib1 (0 : Int) <|
          some ((0 : Int), s1)
        else
          ib1 (1 : Int) <|
          some ((1 : Int), s1)
    else
      if x4 = 0 then
        if x5 = x1 then
          f263_at69 N (f263_at17 N n) x1 x2 x3 x5 s1
        else
          iov ((588 : Int) + x5) <|
          ick ((588 : Int) + x5) 700 <|
          if (s1.1 78 ((588 : Int) + x5)) = (64 : Int) then
            ick x5 700 <|
            if (s1.1 78 x5) = (64 : Int) then
              f263_at69 N (f263_at17 N n) x1 x2 x3 x5 s1
            else
              f263_at65 N (f263_at17 N n) x1 x2 x3 x5 s1
          else
            f263_at69 N (f263_at17 N n) x1 x2 x3 x5 s1
      else
        f263_at65 N (f263_at17 N n) x1 x2 x3 x5 s1
noncomputable def f263 (N : Nat) (x1 : Int) (x2 : Int) (s : gI) : Option (Int × gI) :=
    iov ((588 : Int) + x1) <|
    ick ((588 : Int) + x1) 700 <|
    let i1 : Int := (s.1 78 ((588 : Int) + x1))
    f263_at17 N N x1 x2 i1 (0 : Int) (0 : Int) s
/-! GutterNineModel.weightOf -/
noncomputable def f260 (N : Nat) (x1 : Int) (x2 : Int) (s : gI) : Option (Int × gI) :=
    if x2 = 0 then
      iov ((10 : Int) + x1) <|
      ick ((10 : Int) + x1) 140 <|
      iov ((8 : Int) * (s.1 71 ((10 : Int) + x1))) <|
      some (((8 : Int) * (s.1 71 ((10 : Int) + x1))), s)
    else
      iov ((10 : Int) + x1) <|
      ick ((10 : Int) + x1) 140 <|
      iov ((10 : Int) - (s.1 71 ((10 : Int) + x1))) <|
      some (((10 : Int) - (s.1 71 ((10 : Int) + x1))), s)
/-! GutterNineModel.odds -/
noncomputable def f264_at80 (N : Nat) (r_at35 : Int → Int → Int → Int → Int → Int → Int → gI → Option (Int × gI)) (x1 : Int) (x2 : Int) (x3 : Int) (x4 : Int) (x5 : Int) (x7 : Int) (z0 : Int) (z1 : Int) (s : gI) : Option (Int × gI) :=
    iov (z1 + z0) <|
    let i1 : Int := (z1 + z0)
    iov (x7 + (1 : Int)) <|
    let i2 : Int := (x7 + (1 : Int))
    r_at35 x1 x2 x3 x4 x5 i1 i2 s
noncomputable def f264_at35 (N : Nat) : Nat → Int → Int → Int → Int → Int → Int → Int → gI → Option (Int × gI)
  | 0, _, _, _, _, _, _, _, _ => none
  | n + 1, x1, x2, x3, x4, x5, x6, x7, s =>
    if (9 : Int) ≤ x7 then
      some (x6, s)
    else
      i_o1 (f262 N (0 : Int) (588 : Int) x1 x2 x3 x4 x7 s) fun s1 =>
      i_o2 (f263 N x2 x5 s1) fun i3 s2 =>
      if i3 = 0 then
        f264_at80 N (f264_at35 N n) x1 x2 x3 x4 x5 x7 (0 : Int) x6 s2
      else
        i_o2 (f260 N x1 x7 s2) fun i5 s4 =>
        f264_at80 N (f264_at35 N n) x1 x2 x3 x4 x5 x7 i5 x6 s4
noncomputable def f264 (N : Nat) (x1 : Int) (x2 : Int) (x3 : Int) (x4 : Int) (x5 : Int) (s : gI) : Option (Int × gI) :=
    let s1 : gI := (iw s 63 0 (0 : Int))
    i_o2 (f241 N x1 x2 x3 x4 s1) fun i3 s2 =>
    if i3 = 0 then
      some ((-1 : Int), s2)
    else
      i_o2 (f189 N x5 (0 : Int) (4 : Int) s2) fun i5 s4 =>
      if i5 = 0 then
        some ((-1 : Int), s4)
      else
        f264_at35 N N x1 x2 x3 x4 x5 (0 : Int) (0 : Int) s4
/-! GutterNineModel.worthIn -/
noncomputable def f261_at36 (N : Nat) (r_at4 : Int → Int → Int → gI → Option (Int × gI)) (x1 : Int) (x3 : Int) (z0 : Int) (z1 : Int) (s : gI) : Option (Int × gI) :=
    iov (z1 + z0) <|
    let i1 : Int := (z1 + z0)
    iov (x3 + (1 : Int)) <|
    let i2 : Int := (x3 + (1 : Int))
    r_at4 x1 i1 i2 s
noncomputable def f261_at4 (N : Nat) : Nat → Int → Int → Int → gI → Option (Int × gI)
  | 0, _, _, _, _ => none
  | n + 1, x1, x2, x3, s =>
    i_o2 (f221 N s) fun i2 s1 =>
    if i2 ≤ x3 then
      some (x2, s1)
    else
      iov (x1 + x3) <|
      ick (x1 + x3) 700 <|
      if (s1.1 78 (x1 + x3)) = (64 : Int) then
        i_o2 (f226 N x3 (2 : Int) s1) fun i4 s3 =>
        f261_at36 N (f261_at4 N n) x1 x3 i4 x2 s3
      else
        f261_at36 N (f261_at4 N n) x1 x3 (0 : Int) x2 s1
noncomputable def f261 (N : Nat) (x1 : Int) (s : gI) : Option (Int × gI) :=
    f261_at4 N N x1 (0 : Int) (0 : Int) s
/-! GutterNineModel.meanOf -/
noncomputable def f265_at6 (N : Nat) : Nat → Int → Int → Int → Int → Int → Int → Int → gI → Option (Int × gI)
  | 0, _, _, _, _, _, _, _, _ => none
  | n + 1, x1, x2, x3, x4, x5, x6, x7, s =>
    if (9 : Int) ≤ x7 then
      some (x6, s)
    else
      i_o2 (f260 N x3 x7 s) fun i2 s1 =>
      if i2 ≤ 0 then
        iov (x7 + (1 : Int)) <|
        let i3 : Int := (x7 + (1 : Int))
        f265_at6 N n x1 x2 x3 x4 x5 x6 i3 s1
      else
        idv x5 (8 : Int) <|
        idv x5 (8 : Int) <|
        i_o1 (f262 N x1 x2 x3 x4 (x5 % (8 : Int)) (x5 / (8 : Int)) x7 s1) fun s4 =>
        i_o2 (f260 N x3 x7 s4) fun i6 s5 =>
        i_o2 (f261 N x2 s5) fun i8 s7 =>
        iov (i6 * i8) <|
        iov (x6 + (i6 * i8)) <|
        let i9 : Int := (x6 + (i6 * i8))
        iov (x7 + (1 : Int)) <|
        let i10 : Int := (x7 + (1 : Int))
        f265_at6 N n x1 x2 x3 x4 x5 i9 i10 s7
noncomputable def f265 (N : Nat) (x1 : Int) (x2 : Int) (x3 : Int) (x4 : Int) (x5 : Int) (s : gI) : Option (Int × gI) :=
    f265_at6 N N x1 x2 x3 x4 x5 (0 : Int) (0 : Int) s
/-! GutterNineModel.gain -/
noncomputable def f266_at18 (N : Nat) (x1 : Int) (x2 : Int) (x3 : Int) (x4 : Int) (z0 : Int) (s : gI) : Option (Int × gI) :=
    let s1 : gI := (iw s 63 0 z0)
    if (s1.1 63 0) ≤ 0 then
      iov ((8 : Int) * x4) <|
      iov (((8 : Int) * x4) + x3) <|
      i_o2 (f265 N (0 : Int) (588 : Int) x1 x2 (((8 : Int) * x4) + x3) s1) fun i3 s2 =>
      i_o2 (f261 N (0 : Int) s2) fun i5 s4 =>
      iov ((80 : Int) * i5) <|
      iov (i3 - ((80 : Int) * i5)) <|
      some ((i3 - ((80 : Int) * i5)), s4)
    else
      some ((0 : Int), s1)
noncomputable def f266 (N : Nat) (x1 : Int) (x2 : Int) (x3 : Int) (x4 : Int) (s : gI) : Option (Int × gI) :=
    i_o2 (f241 N x1 x2 x3 x4 s) fun i2 s1 =>
    if i2 = 0 then
      f266_at18 N x1 x2 x3 x4 (1 : Int) s1
    else
      f266_at18 N x1 x2 x3 x4 (0 : Int) s1
/-! GutterNineModel.inHand -/
noncomputable def f267_at31 (N : Nat) (r_at4 : Int → Int → Int → gI → Option (Int × gI)) (x1 : Int) (x3 : Int) (z0 : Int) (z1 : Int) (s : gI) : Option (Int × gI) :=
    iov (z1 + z0) <|
    let i1 : Int := (z1 + z0)
    iov (x3 + (1 : Int)) <|
    let i2 : Int := (x3 + (1 : Int))
    r_at4 x1 i1 i2 s
noncomputable def f267_at4 (N : Nat) : Nat → Int → Int → Int → gI → Option (Int × gI)
  | 0, _, _, _, _ => none
  | n + 1, x1, x2, x3, s =>
    i_o2 (f221 N s) fun i2 s1 =>
    if i2 ≤ x3 then
      some (x2, s1)
    else
      iov (x1 + x3) <|
      ick (x1 + x3) 700 <|
      if (s1.1 78 (x1 + x3)) = (64 : Int) then
        f267_at31 N (f267_at4 N n) x1 x3 (1 : Int) x2 s1
      else
        f267_at31 N (f267_at4 N n) x1 x3 (0 : Int) x2 s1
noncomputable def f267 (N : Nat) (x1 : Int) (s : gI) : Option (Int × gI) :=
    f267_at4 N N x1 (0 : Int) (0 : Int) s
/-! GutterNineModel.next -/
noncomputable def f268_at166 (N : Nat) (r_at73 : Int → Int → Int → Int → Int → Int → gI → Option (Int × gI)) (x1 : Int) (x3 : Int) (x4 : Int) (x5 : Int) (x6 : Int) (x7 : Int) (x8 : Int) (z0 : Int) (s : gI) : Option (Int × gI) :=
    if x8 = 0 then
      iov (x6 + (1 : Int)) <|
      let i1 : Int := (x6 + (1 : Int))
      r_at73 x1 z0 x3 x4 x5 i1 s
    else
      iov (x6 + (1 : Int)) <|
      let i2 : Int := (x6 + (1 : Int))
      r_at73 x1 z0 x7 x4 x5 i2 s
noncomputable def f268_at140 (N : Nat) (r_at73 : Int → Int → Int → Int → Int → Int → gI → Option (Int × gI)) (x1 : Int) (x2 : Int) (x3 : Int) (x4 : Int) (x5 : Int) (x6 : Int) (x7 : Int) (z0 : Int) (s : gI) : Option (Int × gI) :=
    if z0 = 0 then
      f268_at166 N r_at73 x1 x3 x4 x5 x6 x7 z0 x2 s
    else
      iov (x4 * (1024 : Int)) <|
      iov (x5 * (64 : Int)) <|
      iov ((x4 * (1024 : Int)) + (x5 * (64 : Int))) <|
      iov (((x4 * (1024 : Int)) + (x5 * (64 : Int))) + x6) <|
      f268_at166 N r_at73 x1 x3 x4 x5 x6 x7 z0 (((x4 * (1024 : Int)) + (x5 * (64 : Int))) + x6) s
noncomputable def f268_at135 (N : Nat) (r_at73 : Int → Int → Int → Int → Int → Int → gI → Option (Int × gI)) (x1 : Int) (x2 : Int) (x3 : Int) (x4 : Int) (x5 : Int) (x6 : Int) (x7 : Int) (s : gI) : Option (Int × gI) :=
    f268_at140 N r_at73 x1 x2 x3 x4 x5 x6 x7 (1 : Int) s
noncomputable def f268_at73 (N : Nat) (r_at61 : Int → Int → Int → Int → Int → gI → Option (Int × gI)) : Nat → Int → Int → Int → Int → Int → Int → gI → Option (Int × gI)
  | 0, _, _, _, _, _, _, _ => none
  | n + 1, x1, x2, x3, x4, x5, x6, s =>
    i_o2 (f219 N s) fun i2 s1 =>
    iov ((8 : Int) * i2) <|
    if ((8 : Int) * i2) ≤ x6 then
      iov (x5 + (1 : Int)) <|
      let i3 : Int := (x5 + (1 : Int))
      r_at61 x1 x2 x3 x4 i3 s1
    else
      ick x5 700 <|
      if (s1.1 78 x5) = (64 : Int) then
        idv x6 (8 : Int) <|
        i_o2 (f218 N s1) fun i6 s5 =>
        if i6 ≤ (x6 % (8 : Int)) then
          iov (x6 + (1 : Int)) <|
          let i7 : Int := (x6 + (1 : Int))
          f268_at73 N r_at61 n x1 x2 x3 x4 x5 i7 s5
        else
          i_o2 (f265 N (0 : Int) (588 : Int) x4 x5 x6 s5) fun i9 s8 =>
          if x2 < 0 then
            f268_at135 N (f268_at73 N r_at61 n) x1 x2 x3 x4 x5 x6 i9 s8
          else
            if i9 ≤ x3 then
              f268_at140 N (f268_at73 N r_at61 n) x1 x2 x3 x4 x5 x6 i9 (0 : Int) s8
            else
              f268_at135 N (f268_at73 N r_at61 n) x1 x2 x3 x4 x5 x6 i9 s8
      else
        iov (x5 + (1 : Int)) <|
        let i4 : Int := (x5 + (1 : Int))
        r_at61 x1 x2 x3 x4 i4 s1
noncomputable def f268_at61 (N : Nat) (r_at49 : Int → Int → Int → Int → gI → Option (Int × gI)) : Nat → Int → Int → Int → Int → Int → gI → Option (Int × gI)
  | 0, _, _, _, _, _, _ => none
  | n + 1, x1, x2, x3, x4, x5, s =>
    i_o2 (f221 N s) fun i2 s1 =>
    if i2 ≤ x5 then
      iov (x4 + (1 : Int)) <|
      let i3 : Int := (x4 + (1 : Int))
      r_at49 x1 x2 x3 i3 s1
    else
      f268_at73 N (f268_at61 N r_at49 n) N x1 x2 x3 x4 x5 (0 : Int) s1
noncomputable def f268_at49 (N : Nat) : Nat → Int → Int → Int → Int → gI → Option (Int × gI)
  | 0, _, _, _, _, _ => none
  | n + 1, x1, x2, x3, x4, s =>
    i_o2 (f220 N s) fun i2 s1 =>
    if i2 ≤ x4 then
      if x1 = 0 then
        i_o2 (f261 N (0 : Int) s1) fun i4 s3 =>
        iov ((80 : Int) * i4) <|
        iov (x3 - ((80 : Int) * i4)) <|
        some ((x3 - ((80 : Int) * i4)), s3)
      else
        if x1 = (1 : Int) then
          idv x2 (1024 : Int) <|
          some ((x2 / (1024 : Int)), s1)
        else
          if x1 = (2 : Int) then
            idv x2 (64 : Int) <|
            idv (x2 / (64 : Int)) (16 : Int) <|
            some (((x2 / (64 : Int)) % (16 : Int)), s1)
          else
            idv x2 (64 : Int) <|
            some ((x2 % (64 : Int)), s1)
    else
      f268_at61 N (f268_at49 N n) N x1 x2 x3 x4 (0 : Int) s1
noncomputable def f268_at30 (N : Nat) (x1 : Int) (z0 : Int) (s : gI) : Option (Int × gI) :=
    let s1 : gI := (iw s 63 0 z0)
    if (s1.1 63 0) ≤ 0 then
      f268_at49 N N x1 (-1 : Int) (0 : Int) (0 : Int) s1
    else
      some ((0 : Int), s1)
noncomputable def f268_at29 (N : Nat) (x1 : Int) (s : gI) : Option (Int × gI) :=
    f268_at30 N x1 (1 : Int) s
noncomputable def f268 (N : Nat) (x1 : Int) (s : gI) : Option (Int × gI) :=
    i_o2 (f189 N x1 (0 : Int) (3 : Int) s) fun i2 s1 =>
    if i2 = 0 then
      f268_at29 N x1 s1
    else
      i_o2 (f220 N s1) fun i4 s3 =>
      if i4 ≤ 0 then
        f268_at29 N x1 s3
      else
        i_o2 (f267 N (0 : Int) s3) fun i6 s5 =>
        if i6 ≤ 0 then
          f268_at29 N x1 s5
        else
          f268_at30 N x1 (0 : Int) s5
/-! GutterNineModel.planOne -/
noncomputable def f269_at36 (N : Nat) (r_at24 : Int → Int → Int → Int → Int → gI → Option (Int × gI)) : Nat → Int → Int → Int → Int → Int → Int → gI → Option (Int × gI)
  | 0, _, _, _, _, _, _, _ => none
  | n + 1, x1, x2, x3, x4, x5, x6, s =>
    i_o2 (f221 N s) fun i2 s1 =>
    if i2 ≤ x6 then
      iov (x5 + (1 : Int)) <|
      let i3 : Int := (x5 + (1 : Int))
      r_at24 x1 x2 x3 x4 i3 s1
    else
      iov (x1 + x5) <|
      ick (x1 + x5) 700 <|
      if (s1.1 78 (x1 + x5)) = (64 : Int) then
        iov (x1 + x6) <|
        ick (x1 + x6) 700 <|
        if (64 : Int) ≤ (s1.1 78 (x1 + x6)) then
          iov (x6 + (1 : Int)) <|
          let i5 : Int := (x6 + (1 : Int))
          f269_at36 N r_at24 n x1 x2 x3 x4 x5 i5 s1
        else
          iov (x1 + x6) <|
          ick (x1 + x6) 700 <|
          i_o2 (f265 N x1 x2 x4 x5 (s1.1 78 (x1 + x6)) s1) fun i7 s6 =>
          if i7 ≤ x3 then
            iov (x6 + (1 : Int)) <|
            let i8 : Int := (x6 + (1 : Int))
            f269_at36 N r_at24 n x1 x2 x3 x4 x5 i8 s6
          else
            iov (x6 + (1 : Int)) <|
            let i9 : Int := (x6 + (1 : Int))
            f269_at36 N r_at24 n x1 x2 i7 x4 x5 i9 s6
      else
        iov (x5 + (1 : Int)) <|
        let i4 : Int := (x5 + (1 : Int))
        r_at24 x1 x2 x3 x4 i4 s1
noncomputable def f269_at24 (N : Nat) (r_at12 : Int → Int → Int → Int → gI → Option (Int × gI)) : Nat → Int → Int → Int → Int → Int → gI → Option (Int × gI)
  | 0, _, _, _, _, _, _ => none
  | n + 1, x1, x2, x3, x4, x5, s =>
    i_o2 (f221 N s) fun i2 s1 =>
    if i2 ≤ x5 then
      iov (x4 + (1 : Int)) <|
      let i3 : Int := (x4 + (1 : Int))
      r_at12 x1 x2 x3 i3 s1
    else
      f269_at36 N (f269_at24 N r_at12 n) N x1 x2 x3 x4 x5 (0 : Int) s1
noncomputable def f269_at12 (N : Nat) : Nat → Int → Int → Int → Int → gI → Option (Int × gI)
  | 0, _, _, _, _, _ => none
  | n + 1, x1, x2, x3, x4, s =>
    i_o2 (f220 N s) fun i2 s1 =>
    if i2 ≤ x4 then
      some (x3, s1)
    else
      f269_at24 N (f269_at12 N n) N x1 x2 x3 x4 (0 : Int) s1
noncomputable def f269 (N : Nat) (x1 : Int) (x2 : Int) (s : gI) : Option (Int × gI) :=
    i_o2 (f261 N x1 s) fun i2 s1 =>
    iov ((80 : Int) * i2) <|
    let i3 : Int := ((80 : Int) * i2)
    f269_at12 N N x1 x2 i3 (0 : Int) s1
/-! GutterNineModel.twoFrom -/
noncomputable def f271_at6 (N : Nat) : Nat → Int → Int → Int → Int → Int → gI → Option (Int × gI)
  | 0, _, _, _, _, _, _ => none
  | n + 1, x1, x2, x3, x4, x5, s =>
    if (9 : Int) ≤ x5 then
      some (x4, s)
    else
      i_o2 (f260 N x1 x5 s) fun i2 s1 =>
      if i2 ≤ 0 then
        iov (x5 + (1 : Int)) <|
        let i3 : Int := (x5 + (1 : Int))
        f271_at6 N n x1 x2 x3 x4 i3 s1
      else
        idv x3 (8 : Int) <|
        idv x3 (8 : Int) <|
        i_o1 (f262 N (0 : Int) (616 : Int) x1 x2 (x3 % (8 : Int)) (x3 / (8 : Int)) x5 s1) fun s4 =>
        i_o2 (f260 N x1 x5 s4) fun i6 s5 =>
        i_o2 (f269 N (616 : Int) (644 : Int) s5) fun i8 s7 =>
        iov (i6 * i8) <|
        iov (x4 + (i6 * i8)) <|
        let i9 : Int := (x4 + (i6 * i8))
        iov (x5 + (1 : Int)) <|
        let i10 : Int := (x5 + (1 : Int))
        f271_at6 N n x1 x2 x3 i9 i10 s7
noncomputable def f271 (N : Nat) (x1 : Int) (x2 : Int) (x3 : Int) (s : gI) : Option (Int × gI) :=
    f271_at6 N N x1 x2 x3 (0 : Int) (0 : Int) s
/-! GutterNineModel.plan -/
noncomputable def f270_at116 (N : Nat) (r_at64 : Int → Int → Int → Int → gI → Option (Int × gI)) (x3 : Int) (x4 : Int) (x5 : Int) (x6 : Int) (z0 : Int) (s : gI) : Option (Int × gI) :=
    if z0 ≤ x3 then
      iov (x6 + (1 : Int)) <|
      let i1 : Int := (x6 + (1 : Int))
      r_at64 x3 x4 x5 i1 s
    else
      iov (x6 + (1 : Int)) <|
      let i2 : Int := (x6 + (1 : Int))
      r_at64 z0 x4 x5 i2 s
noncomputable def f270_at64 (N : Nat) (r_at52 : Int → Int → Int → gI → Option (Int × gI)) : Nat → Int → Int → Int → Int → gI → Option (Int × gI)
  | 0, _, _, _, _, _ => none
  | n + 1, x3, x4, x5, x6, s =>
    i_o2 (f221 N s) fun i2 s1 =>
    if i2 ≤ x6 then
      iov (x5 + (1 : Int)) <|
      let i3 : Int := (x5 + (1 : Int))
      r_at52 x3 x4 i3 s1
    else
      ick x5 700 <|
      if (s1.1 78 x5) = (64 : Int) then
        ick x6 700 <|
        if (64 : Int) ≤ (s1.1 78 x6) then
          f270_at116 N (f270_at64 N r_at52 n) x3 x4 x5 x6 (0 : Int) s1
        else
          ick x6 700 <|
          i_o2 (f271 N x4 x5 (s1.1 78 x6) s1) fun i6 s5 =>
          f270_at116 N (f270_at64 N r_at52 n) x3 x4 x5 x6 i6 s5
      else
        iov (x5 + (1 : Int)) <|
        let i4 : Int := (x5 + (1 : Int))
        r_at52 x3 x4 i4 s1
noncomputable def f270_at52 (N : Nat) (r_at40 : Int → Int → gI → Option (Int × gI)) : Nat → Int → Int → Int → gI → Option (Int × gI)
  | 0, _, _, _, _ => none
  | n + 1, x3, x4, x5, s =>
    i_o2 (f221 N s) fun i2 s1 =>
    if i2 ≤ x5 then
      iov (x4 + (1 : Int)) <|
      let i3 : Int := (x4 + (1 : Int))
      r_at40 x3 i3 s1
    else
      f270_at64 N (f270_at52 N r_at40 n) N x3 x4 x5 (0 : Int) s1
noncomputable def f270_at40 (N : Nat) : Nat → Int → Int → gI → Option (Int × gI)
  | 0, _, _, _ => none
  | n + 1, x3, x4, s =>
    i_o2 (f220 N s) fun i2 s1 =>
    if i2 ≤ x4 then
      some (x3, s1)
    else
      f270_at52 N (f270_at40 N n) N x3 x4 (0 : Int) s1
noncomputable def f270 (N : Nat) (x1 : Int) (s : gI) : Option (Int × gI) :=
    let s1 : gI := (iw s 63 0 (0 : Int))
    i_o2 (f189 N x1 (1 : Int) (2 : Int) s1) fun i3 s2 =>
    if i3 = 0 then
      some ((-1 : Int), s2)
    else
      i_o2 (f269 N (0 : Int) (588 : Int) s2) fun i5 s4 =>
      if x1 = (1 : Int) then
        some (i5, s4)
      else
        iov ((80 : Int) * i5) <|
        let i6 : Int := ((80 : Int) * i5)
        f270_at40 N N i6 (0 : Int) s4
/-! GutterNineModel.alone -/
noncomputable def f272_at186 (N : Nat) (r_at73 : Int → Int → Int → Int → Int → Int → Int → gI → Option (Int × gI)) (x1 : Int) (x2 : Int) (x3 : Int) (x4 : Int) (x5 : Int) (x6 : Int) (x7 : Int) (x8 : Int) (s : gI) : Option (Int × gI) :=
    if x8 ≤ x3 then
      iov (x7 + (1 : Int)) <|
      let i1 : Int := (x7 + (1 : Int))
      r_at73 x1 x2 x3 x4 x5 x6 i1 s
    else
      iov (x7 + (1 : Int)) <|
      let i2 : Int := (x7 + (1 : Int))
      r_at73 x1 x2 x8 x6 x7 x6 i2 s
noncomputable def f272_at177 (N : Nat) (r_at104 : Int → Int → Int → Int → Int → Int → Int → Int → Int → gI → Option (Int × gI)) (x1 : Int) (x2 : Int) (x3 : Int) (x4 : Int) (x5 : Int) (x6 : Int) (x7 : Int) (x9 : Int) (z0 : Int) (z1 : Int) (s : gI) : Option (Int × gI) :=
    iov (z1 + z0) <|
    let i1 : Int := (z1 + z0)
    iov (x9 + (1 : Int)) <|
    let i2 : Int := (x9 + (1 : Int))
    r_at104 x1 x2 x3 x4 x5 x6 x7 i1 i2 s
noncomputable def f272_at104 (N : Nat) (r_at73 : Int → Int → Int → Int → Int → Int → Int → gI → Option (Int × gI)) : Nat → Int → Int → Int → Int → Int → Int → Int → Int → Int → gI → Option (Int × gI)
  | 0, _, _, _, _, _, _, _, _, _, _ => none
  | n + 1, x1, x2, x3, x4, x5, x6, x7, x8, x9, s =>
    if (9 : Int) ≤ x9 then
      f272_at186 N r_at73 x1 x2 x3 x4 x5 x6 x7 x8 s
    else
      if x8 < 0 then
        f272_at186 N r_at73 x1 x2 x3 x4 x5 x6 x7 x8 s
      else
        ick x1 700 <|
        idv (s.1 78 x1) (8 : Int) <|
        ick x1 700 <|
        idv (s.1 78 x1) (8 : Int) <|
        i_o1 (f262 N (0 : Int) (588 : Int) x6 x7 ((s.1 78 x1) % (8 : Int)) ((s.1 78 x1) / (8 : Int)) x9 s) fun s1 =>
        iov ((588 : Int) + x1) <|
        ick ((588 : Int) + x1) 700 <|
        if (s1.1 78 ((588 : Int) + x1)) = (64 : Int) then
          i_o2 (f260 N x6 x9 s1) fun i3 s2 =>
          f272_at177 N (f272_at104 N r_at73 n) x1 x2 x3 x4 x5 x6 x7 x9 i3 x8 s2
        else
          f272_at177 N (f272_at104 N r_at73 n) x1 x2 x3 x4 x5 x6 x7 x9 (0 : Int) x8 s1
noncomputable def f272_at73 (N : Nat) (r_at61 : Int → Int → Int → Int → Int → Int → gI → Option (Int × gI)) : Nat → Int → Int → Int → Int → Int → Int → Int → gI → Option (Int × gI)
  | 0, _, _, _, _, _, _, _, _ => none
  | n + 1, x1, x2, x3, x4, x5, x6, x7, s =>
    i_o2 (f221 N s) fun i2 s1 =>
    if i2 ≤ x7 then
      iov (x6 + (1 : Int)) <|
      let i3 : Int := (x6 + (1 : Int))
      r_at61 x1 x2 x3 x4 x5 i3 s1
    else
      ick x7 700 <|
      if (s1.1 78 x7) = (64 : Int) then
        f272_at104 N (f272_at73 N r_at61 n) N x1 x2 x3 x4 x5 x6 x7 (0 : Int) (0 : Int) s1
      else
        f272_at104 N (f272_at73 N r_at61 n) N x1 x2 x3 x4 x5 x6 x7 (-1 : Int) (0 : Int) s1
noncomputable def f272_at61 (N : Nat) : Nat → Int → Int → Int → Int → Int → Int → gI → Option (Int × gI)
  | 0, _, _, _, _, _, _, _ => none
  | n + 1, x1, x2, x3, x4, x5, x6, s =>
    i_o2 (f220 N s) fun i2 s1 =>
    if i2 ≤ x6 then
      if x2 = 0 then
        some (x3, s1)
      else
        if x2 = (1 : Int) then
          some (x4, s1)
        else
          some (x5, s1)
    else
      f272_at73 N (f272_at61 N n) N x1 x2 x3 x4 x5 x6 (0 : Int) s1
noncomputable def f272 (N : Nat) (x1 : Int) (x2 : Int) (s : gI) : Option (Int × gI) :=
    let s1 : gI := (iw s 63 0 (0 : Int))
    i_o2 (f223 N x1 s1) fun i3 s2 =>
    if i3 = 0 then
      some ((-1 : Int), s2)
    else
      ick x1 700 <|
      if (64 : Int) ≤ (s2.1 78 x1) then
        some ((-1 : Int), s2)
      else
        i_o2 (f189 N x2 (0 : Int) (2 : Int) s2) fun i5 s4 =>
        if i5 = 0 then
          some ((-1 : Int), s4)
        else
          i_o2 (f220 N s4) fun i7 s6 =>
          if i7 = 0 then
            some ((-1 : Int), s6)
          else
            i_o2 (f267 N (0 : Int) s6) fun i9 s8 =>
            if i9 = 0 then
              some ((-1 : Int), s8)
            else
              f272_at61 N N x1 x2 (-1 : Int) (0 : Int) (0 : Int) (0 : Int) s8
/-! GutterNineModel.washed -/
noncomputable def f273_at148 (N : Nat) (r_at48 : Int → Int → Int → gI → Option (Int × gI)) (x2 : Int) (x4 : Int) (z0 : Int) (z1 : Int) (s : gI) : Option (Int × gI) :=
    let i1 : Int := (i_or z1 z0)
    iov (x4 + (1 : Int)) <|
    let i2 : Int := (x4 + (1 : Int))
    r_at48 x2 i1 i2 s
noncomputable def f273_at132 (N : Nat) (r_at48 : Int → Int → Int → gI → Option (Int × gI)) (x2 : Int) (x3 : Int) (x4 : Int) (z0 : Int) (s : gI) : Option (Int × gI) :=
    if z0 = 0 then
      f273_at148 N r_at48 x2 x4 (0 : Int) x3 s
    else
      f273_at148 N r_at48 x2 x4 (i_shl (1 : Int) x4) x3 s
noncomputable def f273_at131 (N : Nat) (r_at48 : Int → Int → Int → gI → Option (Int × gI)) (x2 : Int) (x3 : Int) (x4 : Int) (s : gI) : Option (Int × gI) :=
    f273_at132 N r_at48 x2 x3 x4 (0 : Int) s
noncomputable def f273_at93 (N : Nat) (r_at48 : Int → Int → Int → gI → Option (Int × gI)) (x2 : Int) (x3 : Int) (x4 : Int) (s : gI) : Option (Int × gI) :=
    f273_at132 N r_at48 x2 x3 x4 (0 : Int) s
noncomputable def f273_at48 (N : Nat) : Nat → Int → Int → Int → gI → Option (Int × gI)
  | 0, _, _, _, _ => none
  | n + 1, x2, x3, x4, s =>
    i_o2 (f221 N s) fun i2 s1 =>
    if i2 ≤ x4 then
      some (x3, s1)
    else
      if x2 = 0 then
        iov ((588 : Int) + x4) <|
        ick ((588 : Int) + x4) 700 <|
        if (s1.1 78 ((588 : Int) + x4)) = (64 : Int) then
          ick x4 700 <|
          if (s1.1 78 x4) = (64 : Int) then
            f273_at93 N (f273_at48 N n) x2 x3 x4 s1
          else
            f273_at132 N (f273_at48 N n) x2 x3 x4 (1 : Int) s1
        else
          f273_at93 N (f273_at48 N n) x2 x3 x4 s1
      else
        iov ((588 : Int) + x4) <|
        ick ((588 : Int) + x4) 700 <|
        if (s1.1 78 ((588 : Int) + x4)) < (128 : Int) then
          f273_at131 N (f273_at48 N n) x2 x3 x4 s1
        else
          ick x4 700 <|
          if (128 : Int) ≤ (s1.1 78 x4) then
            f273_at131 N (f273_at48 N n) x2 x3 x4 s1
          else
            f273_at132 N (f273_at48 N n) x2 x3 x4 (1 : Int) s1
noncomputable def f273 (N : Nat) (x1 : Int) (x2 : Int) (s : gI) : Option (Int × gI) :=
    let s1 : gI := (iw s 63 0 (0 : Int))
    i_o2 (f248 N x1 s1) fun i3 s2 =>
    if i3 = 0 then
      some ((-1 : Int), s2)
    else
      i_o2 (f189 N x2 (0 : Int) (1 : Int) s2) fun i5 s4 =>
      if i5 = 0 then
        some ((-1 : Int), s4)
      else
        i_o1 (f215 N (0 : Int) (588 : Int) (18 : Int) s4) fun s6 =>
        i_o2 (f247 N (588 : Int) x1 s6) fun i8 s7 =>
        f273_at48 N N x2 (0 : Int) (0 : Int) s7
/-! GutterNineModel.blown -/
noncomputable def f274_at74 (N : Nat) (r_at15 : Int → Int → Int → Int → Int → gI → Option (Int × gI)) (x1 : Int) (x2 : Int) (x4 : Int) (x5 : Int) (x6 : Int) (z0 : Int) (s : gI) : Option (Int × gI) :=
    if x6 ≤ x4 then
      iov (x5 + (1 : Int)) <|
      let i1 : Int := (x5 + (1 : Int))
      r_at15 x1 x2 z0 x4 i1 s
    else
      iov (x5 + (1 : Int)) <|
      let i2 : Int := (x5 + (1 : Int))
      r_at15 x1 x2 z0 x6 i2 s
noncomputable def f274_at15 (N : Nat) : Nat → Int → Int → Int → Int → Int → gI → Option (Int × gI)
  | 0, _, _, _, _, _, _ => none
  | n + 1, x1, x2, x3, x4, x5, s =>
    if (4 : Int) ≤ x5 then
      if x1 = 0 then
        some (x2, s)
      else
        if x1 = (1 : Int) then
          some (x3, s)
        else
          some ((-1 : Int), s)
    else
      i_o1 (f215 N (0 : Int) (588 : Int) (18 : Int) s) fun s1 =>
      i_o2 (f251 N (588 : Int) x5 s1) fun i3 s2 =>
      i_o2 (f267 N (588 : Int) s2) fun i5 s4 =>
      i_o2 (f267 N (0 : Int) s4) fun i7 s6 =>
      iov (i5 - i7) <|
      let i8 : Int := (i5 - i7)
      iov (x2 + i8) <|
      let i9 : Int := (x2 + i8)
      if i8 ≤ x4 then
        f274_at74 N (f274_at15 N n) x1 i9 x4 x5 i8 x3 s6
      else
        f274_at74 N (f274_at15 N n) x1 i9 x4 x5 i8 x5 s6
noncomputable def f274 (N : Nat) (x1 : Int) (s : gI) : Option (Int × gI) :=
    let s1 : gI := (iw s 63 0 (0 : Int))
    f274_at15 N N x1 (0 : Int) (0 : Int) (-1 : Int) (0 : Int) s1
/-! GutterNineModel.await -/
noncomputable def f275_at73 (N : Nat) (r_at41 : Int → Int → Int → gI → Option (Int × gI)) (x1 : Int) (x2 : Int) (z0 : Int) (s : gI) : Option (Int × gI) :=
    i_o1 (f255 N (588 : Int) s) fun s1 =>
    iov (x2 + (1 : Int)) <|
    let i2 : Int := (x2 + (1 : Int))
    r_at41 x1 i2 z0 s1
noncomputable def f275_at41 (N : Nat) : Nat → Int → Int → Int → gI → Option (Int × gI)
  | 0, _, _, _, _ => none
  | n + 1, x1, x2, x3, s =>
    if x3 = 0 then
      ick (604 : Int) 700 <|
      ick (7 : Int) 140 <|
      iov ((s.1 78 (604 : Int)) + (s.1 71 (7 : Int))) <|
      idv ((s.1 78 (604 : Int)) + (s.1 71 (7 : Int))) (7 : Int) <|
      if (((s.1 78 (604 : Int)) + (s.1 71 (7 : Int))) % (7 : Int)) = (5 : Int) then
        f275_at73 N (f275_at41 N n) x1 x2 (1 : Int) s
      else
        f275_at73 N (f275_at41 N n) x1 x2 (0 : Int) s
    else
      if x1 = 0 then
        some (x2, s)
      else
        i_o2 (f261 N (588 : Int) s) fun i2 s1 =>
        i_o2 (f261 N (0 : Int) s1) fun i4 s3 =>
        iov (i2 - i4) <|
        ick (605 : Int) 700 <|
        ick (17 : Int) 700 <|
        iov ((s3.1 78 (605 : Int)) - (s3.1 78 (17 : Int))) <|
        iov ((i2 - i4) - ((s3.1 78 (605 : Int)) - (s3.1 78 (17 : Int)))) <|
        some (((i2 - i4) - ((s3.1 78 (605 : Int)) - (s3.1 78 (17 : Int)))), s3)
noncomputable def f275_at15 (N : Nat) (x1 : Int) (z0 : Int) (s : gI) : Option (Int × gI) :=
    let s1 : gI := (iw s 63 0 z0)
    if (s1.1 63 0) ≤ 0 then
      i_o1 (f215 N (0 : Int) (588 : Int) (18 : Int) s1) fun s2 =>
      f275_at41 N N x1 (0 : Int) (0 : Int) s2
    else
      some ((0 : Int), s1)
noncomputable def f275 (N : Nat) (x1 : Int) (s : gI) : Option (Int × gI) :=
    i_o2 (f189 N x1 (0 : Int) (1 : Int) s) fun i2 s1 =>
    if i2 = 0 then
      f275_at15 N x1 (1 : Int) s1
    else
      f275_at15 N x1 (0 : Int) s1
/-! GutterNineModel.see -/
noncomputable def f276 (N : Nat) (x1 : Int) (x2 : Int) (s : gI) : Option (Int × gI) :=
    let s1 : gI := (iw s 63 0 (0 : Int))
    if x1 < 0 then
      ib1 (0 : Int) <|
      some ((0 : Int), s1)
    else
      i_o2 (f218 N s1) fun i3 s2 =>
      if i3 ≤ x1 then
        ib1 (0 : Int) <|
        some ((0 : Int), s2)
      else
        i_o2 (f189 N x2 (-2 : Int) (3 : Int) s2) fun i5 s4 =>
        if i5 = 0 then
          ib1 (0 : Int) <|
          some ((0 : Int), s4)
        else
          iov ((18 : Int) + x1) <|
          ick ((18 : Int) + x1) 700 <|
          let s6 : gI := (iw s4 78 ((18 : Int) + x1) x2)
          ib1 (1 : Int) <|
          some ((1 : Int), s6)
/-! GutterNineModel.kindIn -/
noncomputable def f277_at5 (N : Nat) : Nat → Int → Int → Int → Int → gI → Option (Int × gI)
  | 0, _, _, _, _, _ => none
  | n + 1, x1, x2, x3, x4, s =>
    i_o2 (f219 N s) fun i2 s1 =>
    if i2 ≤ x4 then
      some (x3, s1)
    else
      iov ((8 : Int) * x4) <|
      iov (((8 : Int) * x4) + x2) <|
      i_o2 (f227 N x1 (((8 : Int) * x4) + x2) (-1 : Int) s1) fun i4 s3 =>
      if 0 ≤ i4 then
        i_o2 (f226 N i4 (0 : Int) s3) fun i6 s5 =>
        iov (x4 + (1 : Int)) <|
        let i7 : Int := (x4 + (1 : Int))
        f277_at5 N n x1 x2 i6 i7 s5
      else
        iov (x4 + (1 : Int)) <|
        let i8 : Int := (x4 + (1 : Int))
        f277_at5 N n x1 x2 x3 i8 s3
noncomputable def f277 (N : Nat) (x1 : Int) (x2 : Int) (s : gI) : Option (Int × gI) :=
    f277_at5 N N x1 x2 (-1 : Int) (0 : Int) s
/-! GutterNineModel.isSeen -/
noncomputable def f278_at52 (N : Nat) (r_at4 : Int → Int → Int → gI → Option (Int × gI)) (x1 : Int) (x3 : Int) (s : gI) : Option (Int × gI) :=
    iov (x3 + (1 : Int)) <|
    let i1 : Int := (x3 + (1 : Int))
    r_at4 x1 (0 : Int) i1 s
noncomputable def f278_at48 (N : Nat) (r_at4 : Int → Int → Int → gI → Option (Int × gI)) (x1 : Int) (x3 : Int) (s : gI) : Option (Int × gI) :=
    iov (x3 + (1 : Int)) <|
    let i1 : Int := (x3 + (1 : Int))
    r_at4 x1 (1 : Int) i1 s
noncomputable def f278_at4 (N : Nat) : Nat → Int → Int → Int → gI → Option (Int × gI)
  | 0, _, _, _, _ => none
  | n + 1, x1, x2, x3, s =>
    i_o2 (f218 N s) fun i2 s1 =>
    if i2 ≤ x3 then
      ib1 x2 <|
      some (x2, s1)
    else
      if x2 = 0 then
        f278_at52 N (f278_at4 N n) x1 x3 s1
      else
        iov ((18 : Int) + x3) <|
        ick ((18 : Int) + x3) 700 <|
        if (s1.1 78 ((18 : Int) + x3)) = (-2 : Int) then
          f278_at48 N (f278_at4 N n) x1 x3 s1
        else
          iov ((18 : Int) + x3) <|
          ick ((18 : Int) + x3) 700 <|
          i_o2 (f277 N x1 x3 s1) fun i4 s3 =>
          if (s1.1 78 ((18 : Int) + x3)) = i4 then
            f278_at48 N (f278_at4 N n) x1 x3 s3
          else
            f278_at52 N (f278_at4 N n) x1 x3 s3
noncomputable def f278 (N : Nat) (x1 : Int) (s : gI) : Option (Int × gI) :=
    f278_at4 N N x1 (1 : Int) (0 : Int) s
/-! GutterNineModel.lies -/
noncomputable def f279_at244 (N : Nat) (r_at168 : Int → Int → Int → Int → Int → Int → Int → gI → Option (Int × gI)) (x5 : Int) (x6 : Int) (y7 : Int) (y9 : Int) (x11 : Int) (x12 : Int) (x13 : Int) (s : gI) : Option (Int × gI) :=
    iov (x13 + (1 : Int)) <|
    let i1 : Int := (x13 + (1 : Int))
    r_at168 x5 x6 y7 y9 x11 x12 i1 s
noncomputable def f279_at226 (N : Nat) (r_at168 : Int → Int → Int → Int → Int → Int → Int → gI → Option (Int × gI)) (x5 : Int) (x6 : Int) (y7 : Int) (y9 : Int) (x12 : Int) (x13 : Int) (x14 : Int) (z0 : Int) (z1 : Int) (s : gI) : Option (Int × gI) :=
    iov (z1 + z0) <|
    let i1 : Int := (z1 + z0)
    if x14 = 0 then
      f279_at244 N r_at168 x5 x6 y7 y9 i1 x12 x13 s
    else
      if 0 ≤ x12 then
        f279_at244 N r_at168 x5 x6 y7 y9 i1 x12 x13 s
      else
        iov (x13 + (1 : Int)) <|
        let i2 : Int := (x13 + (1 : Int))
        r_at168 x5 x6 y7 y9 i1 x13 i2 s
noncomputable def f279_at212 (N : Nat) (r_at168 : Int → Int → Int → Int → Int → Int → Int → gI → Option (Int × gI)) (x5 : Int) (x6 : Int) (y7 : Int) (y9 : Int) (x11 : Int) (x12 : Int) (x13 : Int) (z0 : Int) (s : gI) : Option (Int × gI) :=
    if z0 = 0 then
      f279_at226 N r_at168 x5 x6 y7 y9 x12 x13 z0 (0 : Int) x11 s
    else
      f279_at226 N r_at168 x5 x6 y7 y9 x12 x13 z0 (1 : Int) x11 s
noncomputable def f279_at202 (N : Nat) (r_at168 : Int → Int → Int → Int → Int → Int → Int → gI → Option (Int × gI)) (x5 : Int) (x6 : Int) (y7 : Int) (y9 : Int) (x11 : Int) (x12 : Int) (x13 : Int) (w0 : Int) (s : gI) : Option (Int × gI) :=
    if (i_cmp w0 (1 : Int)) = 0 then
      f279_at212 N r_at168 x5 x6 y7 y9 x11 x12 x13 (1 : Int) s
    else
      f279_at212 N r_at168 x5 x6 y7 y9 x11 x12 x13 (0 : Int) s
noncomputable def f279_at168 (N : Nat) : Nat → Int → Int → Int → Int → Int → Int → Int → gI → Option (Int × gI)
  | 0, _, _, _, _, _, _, _, _ => none
  | n + 1, x5, x6, y7, y9, x11, x12, x13, s =>
    if (66 : Int) < x13 then
      if x11 = 0 then
        some ((-1 : Int), s)
      else
        if x5 = 0 then
          some (x6, s)
        else
          if x5 = (1 : Int) then
            some (x11, s)
          else
            some (x12, s)
    else
      if (64 : Int) ≤ x13 then
        iov (x13 - (64 : Int)) <|
        f279_at202 N (f279_at168 N n) x5 x6 y7 y9 x11 x12 x13 (j_and (j_shr y9 (x13 - (64 : Int))) (1 : Int)) s
      else
        f279_at202 N (f279_at168 N n) x5 x6 y7 y9 x11 x12 x13 (j_and (j_shr y7 x13) (1 : Int)) s
noncomputable def f279_at150 (N : Nat) (r_at41 : Int → Int → Int → Int → Int → Int → Int → Int → Int → gI → Option (Int × gI)) (x1 : Int) (x2 : Int) (x3 : Int) (x4 : Int) (x5 : Int) (x6 : Int) (y7 : Int) (x11 : Int) (w0 : Int) (w1 : Int) (s : gI) : Option (Int × gI) :=
    let j1 : Int := (j_or w1 w0)
    iov (x11 + (1 : Int)) <|
    let i2 : Int := (x11 + (1 : Int))
    r_at41 x1 x2 x3 x4 x5 x6 y7 j1 i2 s
noncomputable def f279_at127 (N : Nat) (r_at41 : Int → Int → Int → Int → Int → Int → Int → Int → Int → gI → Option (Int × gI)) (x1 : Int) (x2 : Int) (x3 : Int) (x4 : Int) (x5 : Int) (x6 : Int) (y9 : Int) (x11 : Int) (x12 : Int) (w0 : Int) (w1 : Int) (s : gI) : Option (Int × gI) :=
    let j1 : Int := (j_or w1 w0)
    if (64 : Int) ≤ x12 then
      iov (x12 - (64 : Int)) <|
      f279_at150 N r_at41 x1 x2 x3 x4 x5 x6 j1 x11 (j_shl (1 : Int) (x12 - (64 : Int))) y9 s
    else
      f279_at150 N r_at41 x1 x2 x3 x4 x5 x6 j1 x11 (0 : Int) y9 s
noncomputable def f279_at41 (N : Nat) : Nat → Int → Int → Int → Int → Int → Int → Int → Int → Int → gI → Option (Int × gI)
  | 0, _, _, _, _, _, _, _, _, _, _ => none
  | n + 1, x1, x2, x3, x4, x5, x6, y7, y9, x11, s =>
    if (9 : Int) ≤ x11 then
      f279_at168 N N x5 x6 y7 y9 (0 : Int) (-1 : Int) (0 : Int) s
    else
      i_o1 (f262 N (0 : Int) (588 : Int) x1 x2 x3 x4 x11 s) fun s1 =>
      i_o2 (f260 N x1 x11 s1) fun i3 s2 =>
      if i3 ≤ 0 then
        iov (x11 + (1 : Int)) <|
        let i4 : Int := (x11 + (1 : Int))
        f279_at41 N n x1 x2 x3 x4 x5 x6 y7 y9 i4 s2
      else
        i_o2 (f278 N (588 : Int) s2) fun i6 s5 =>
        if i6 = 0 then
          iov (x11 + (1 : Int)) <|
          let i7 : Int := (x11 + (1 : Int))
          f279_at41 N n x1 x2 x3 x4 x5 x6 y7 y9 i7 s5
        else
          iov ((588 : Int) + x2) <|
          ick ((588 : Int) + x2) 700 <|
          i_o2 (f237 N (s5.1 78 ((588 : Int) + x2)) s5) fun i9 s8 =>
          i_o2 (f260 N x1 x11 s8) fun i11 s10 =>
          iov (x6 + i11) <|
          let i12 : Int := (x6 + i11)
          if (64 : Int) ≤ i9 then
            f279_at127 N (f279_at41 N n) x1 x2 x3 x4 x5 i12 y9 x11 i9 (0 : Int) y7 s10
          else
            f279_at127 N (f279_at41 N n) x1 x2 x3 x4 x5 i12 y9 x11 i9 (j_shl (1 : Int) i9) y7 s10
noncomputable def f279 (N : Nat) (x1 : Int) (x2 : Int) (x3 : Int) (x4 : Int) (x5 : Int) (s : gI) : Option (Int × gI) :=
    let s1 : gI := (iw s 63 0 (0 : Int))
    i_o2 (f241 N x1 x2 x3 x4 s1) fun i3 s2 =>
    if i3 = 0 then
      some ((-1 : Int), s2)
    else
      i_o2 (f189 N x5 (0 : Int) (2 : Int) s2) fun i5 s4 =>
      if i5 = 0 then
        some ((-1 : Int), s4)
      else
        f279_at41 N N x1 x2 x3 x4 x5 (0 : Int) (0 : Int) (0 : Int) (0 : Int) s4
/-! GutterNineModel.isGone -/
noncomputable def f280_at118 (N : Nat) (x6 : Int) (s : gI) : Option (Int × gI) :=
    if x6 < 0 then
      ib1 (0 : Int) <|
      some ((0 : Int), s)
    else
      if x6 = (64 : Int) then
        ib1 (0 : Int) <|
        some ((0 : Int), s)
      else
        ib1 (1 : Int) <|
        some ((1 : Int), s)
noncomputable def f280_at83 (N : Nat) (x4 : Int) (x5 : Int) (s : gI) : Option (Int × gI) :=
    i_o2 (f228 N (-1 : Int) (-1 : Int) x4 x5 s) fun i2 s1 =>
    if i2 < 0 then
      f280_at118 N i2 s1
    else
      if (64 : Int) ≤ i2 then
        f280_at118 N i2 s1
      else
        i_o2 (f231 N (-1 : Int) (-1 : Int) (0 : Int) i2 s1) fun i4 s3 =>
        f280_at118 N i4 s3
noncomputable def f280_at37 (N : Nat) (x3 : Int) (z0 : Int) (z1 : Int) (s : gI) : Option (Int × gI) :=
    iov (z1 + z0) <|
    let i1 : Int := (z1 + z0)
    i_o2 (f219 N s) fun i3 s2 =>
    iov (x3 + (2 : Int)) <|
    ick (x3 + (2 : Int)) 140 <|
    iov (i3 - (s2.1 71 (x3 + (2 : Int)))) <|
    let i4 : Int := (i3 - (s2.1 71 (x3 + (2 : Int))))
    ick (3 : Int) 140 <|
    if (s2.1 71 (3 : Int)) < 0 then
      f280_at83 N i1 i4 s2
    else
      iov (x3 + (2 : Int)) <|
      ick (x3 + (2 : Int)) 140 <|
      ick (3 : Int) 140 <|
      if (s2.1 71 (x3 + (2 : Int))) ≤ (s2.1 71 (3 : Int)) then
        f280_at83 N i1 i4 s2
      else
        ib1 (0 : Int) <|
        some ((0 : Int), s2)
noncomputable def f280 (N : Nat) (x1 : Int) (x2 : Int) (s : gI) : Option (Int × gI) :=
    iov ((4 : Int) * x1) <|
    iov ((38 : Int) + ((4 : Int) * x1)) <|
    let i1 : Int := ((38 : Int) + ((4 : Int) * x1))
    ick i1 140 <|
    if (s.1 71 i1) = 0 then
      iov (i1 + (1 : Int)) <|
      ick (i1 + (1 : Int)) 140 <|
      iov (-(s.1 71 (i1 + (1 : Int)))) <|
      f280_at37 N i1 (-(s.1 71 (i1 + (1 : Int)))) x2 s
    else
      iov (i1 + (1 : Int)) <|
      ick (i1 + (1 : Int)) 140 <|
      f280_at37 N i1 (s.1 71 (i1 + (1 : Int))) x2 s
/-! GutterNineModel.lostAt -/
noncomputable def f281_at41 (N : Nat) (r_at4 : Int → Int → Int → gI → Option (Int × gI)) (x1 : Int) (x3 : Int) (z0 : Int) (z1 : Int) (s : gI) : Option (Int × gI) :=
    iov (z1 + z0) <|
    let i1 : Int := (z1 + z0)
    iov (x3 + (1 : Int)) <|
    let i2 : Int := (x3 + (1 : Int))
    r_at4 x1 i1 i2 s
noncomputable def f281_at4 (N : Nat) : Nat → Int → Int → Int → gI → Option (Int × gI)
  | 0, _, _, _, _ => none
  | n + 1, x1, x2, x3, s =>
    ick (2 : Int) 140 <|
    if (s.1 71 (2 : Int)) ≤ x3 then
      some (x2, s)
    else
      i_o2 (f280 N x3 x1 s) fun i2 s1 =>
      if i2 = 0 then
        f281_at41 N (f281_at4 N n) x1 x3 (0 : Int) x2 s1
      else
        iov ((4 : Int) * x3) <|
        iov ((38 : Int) + ((4 : Int) * x3)) <|
        iov (((38 : Int) + ((4 : Int) * x3)) + (3 : Int)) <|
        ick (((38 : Int) + ((4 : Int) * x3)) + (3 : Int)) 140 <|
        f281_at41 N (f281_at4 N n) x1 x3 (s1.1 71 (((38 : Int) + ((4 : Int) * x3)) + (3 : Int))) x2 s1
noncomputable def f281 (N : Nat) (x1 : Int) (s : gI) : Option (Int × gI) :=
    f281_at4 N N x1 (0 : Int) (0 : Int) s
/-! GutterNineModel.pitch -/
noncomputable def f282_at25 (N : Nat) : Nat → Int → Int → Int → gI → Option (Int × gI)
  | 0, _, _, _, _ => none
  | n + 1, x1, x2, x3, s =>
    i_o2 (f218 N s) fun i2 s1 =>
    if i2 ≤ x3 then
      if x1 = 0 then
        i_o2 (f281 N x2 s1) fun i6 s5 =>
        some (i6, s5)
      else
        if x1 = (1 : Int) then
          some (x2, s1)
        else
          iov (x1 - (2 : Int)) <|
          i_o2 (f281 N (x1 - (2 : Int)) s1) fun i4 s3 =>
          some (i4, s3)
    else
      i_o2 (f281 N x3 s1) fun i8 s7 =>
      i_o2 (f281 N x2 s7) fun i10 s9 =>
      if i10 ≤ i8 then
        iov (x3 + (1 : Int)) <|
        let i11 : Int := (x3 + (1 : Int))
        f282_at25 N n x1 x2 i11 s9
      else
        iov (x3 + (1 : Int)) <|
        let i12 : Int := (x3 + (1 : Int))
        f282_at25 N n x1 x3 i12 s9
noncomputable def f282 (N : Nat) (x1 : Int) (s : gI) : Option (Int × gI) :=
    let s1 : gI := (iw s 63 0 (0 : Int))
    i_o2 (f218 N s1) fun i3 s2 =>
    iov ((1 : Int) + i3) <|
    i_o2 (f189 N x1 (0 : Int) ((1 : Int) + i3) s2) fun i5 s4 =>
    if i5 = 0 then
      some ((-1 : Int), s4)
    else
      f282_at25 N N x1 (0 : Int) (1 : Int) s4
/-! GutterNineModel.pays -/
noncomputable def f283_at107 (N : Nat) (r_at29 : Int → Int → Int → Int → gI → Option (Int × gI)) (x1 : Int) (x2 : Int) (x4 : Int) (z0 : Int) (z1 : Int) (s : gI) : Option (Int × gI) :=
    iov (z1 + z0) <|
    let i1 : Int := (z1 + z0)
    iov (x4 + (1 : Int)) <|
    let i2 : Int := (x4 + (1 : Int))
    r_at29 x1 x2 i1 i2 s
noncomputable def f283_at106 (N : Nat) (r_at29 : Int → Int → Int → Int → gI → Option (Int × gI)) (x1 : Int) (x2 : Int) (x4 : Int) (z0 : Int) (s : gI) : Option (Int × gI) :=
    f283_at107 N r_at29 x1 x2 x4 (0 : Int) z0 s
noncomputable def f283_at76 (N : Nat) (r_at29 : Int → Int → Int → Int → gI → Option (Int × gI)) (x1 : Int) (x2 : Int) (x3 : Int) (x4 : Int) (z0 : Int) (s : gI) : Option (Int × gI) :=
    if z0 = 0 then
      f283_at106 N r_at29 x1 x2 x4 x3 s
    else
      ick x4 700 <|
      if (s.1 78 x4) = (64 : Int) then
        f283_at106 N r_at29 x1 x2 x4 x3 s
      else
        i_o2 (f226 N x4 (2 : Int) s) fun i2 s1 =>
        f283_at107 N r_at29 x1 x2 x4 i2 x3 s1
noncomputable def f283_at71 (N : Nat) (r_at29 : Int → Int → Int → Int → gI → Option (Int × gI)) (x1 : Int) (x2 : Int) (x3 : Int) (x4 : Int) (s : gI) : Option (Int × gI) :=
    f283_at76 N r_at29 x1 x2 x3 x4 (1 : Int) s
noncomputable def f283_at67 (N : Nat) (r_at29 : Int → Int → Int → Int → gI → Option (Int × gI)) (x1 : Int) (x2 : Int) (x3 : Int) (x4 : Int) (z0 : Int) (s : gI) : Option (Int × gI) :=
    if z0 = x1 then
      f283_at71 N r_at29 x1 x2 x3 x4 s
    else
      f283_at76 N r_at29 x1 x2 x3 x4 (0 : Int) s
noncomputable def f283_at29 (N : Nat) : Nat → Int → Int → Int → Int → gI → Option (Int × gI)
  | 0, _, _, _, _, _ => none
  | n + 1, x1, x2, x3, x4, s =>
    i_o2 (f221 N s) fun i2 s1 =>
    if i2 ≤ x4 then
      if x2 = (1 : Int) then
        i_o2 (f220 N s1) fun i4 s3 =>
        idv x3 i4 <|
        some ((x3 / i4), s3)
      else
        some (x3, s1)
    else
      if x2 = (1 : Int) then
        f283_at71 N (f283_at29 N n) x1 x2 x3 x4 s1
      else
        if x2 = 0 then
          iov ((8 : Int) + x4) <|
          ick ((8 : Int) + x4) 700 <|
          f283_at67 N (f283_at29 N n) x1 x2 x3 x4 (s1.1 78 ((8 : Int) + x4)) s1
        else
          i_o2 (f226 N x4 (1 : Int) s1) fun i6 s5 =>
          f283_at67 N (f283_at29 N n) x1 x2 x3 x4 i6 s5
noncomputable def f283 (N : Nat) (x1 : Int) (x2 : Int) (s : gI) : Option (Int × gI) :=
    let s1 : gI := (iw s 63 0 (0 : Int))
    i_o2 (f222 N x1 s1) fun i3 s2 =>
    if i3 = 0 then
      some ((-1 : Int), s2)
    else
      i_o2 (f189 N x2 (0 : Int) (2 : Int) s2) fun i5 s4 =>
      if i5 = 0 then
        some ((-1 : Int), s4)
      else
        f283_at29 N N x1 x2 (0 : Int) (0 : Int) s4
/-! GutterNineModel.waits -/
noncomputable def f284_at94 (N : Nat) (r_at49 : Int → Int → Int → Int → Int → gI → Option (Int × gI)) (x1 : Int) (x2 : Int) (x3 : Int) (x5 : Int) (z0 : Int) (z1 : Int) (s : gI) : Option (Int × gI) :=
    iov (z1 + z0) <|
    let i1 : Int := (z1 + z0)
    iov (x5 + (1 : Int)) <|
    let i2 : Int := (x5 + (1 : Int))
    r_at49 x1 x2 x3 i1 i2 s
noncomputable def f284_at93 (N : Nat) (r_at49 : Int → Int → Int → Int → Int → gI → Option (Int × gI)) (x1 : Int) (x2 : Int) (x3 : Int) (x5 : Int) (z0 : Int) (s : gI) : Option (Int × gI) :=
    f284_at94 N r_at49 x1 x2 x3 x5 (0 : Int) z0 s
noncomputable def f284_at49 (N : Nat) : Nat → Int → Int → Int → Int → Int → gI → Option (Int × gI)
  | 0, _, _, _, _, _, _ => none
  | n + 1, x1, x2, x3, x4, x5, s =>
    i_o2 (f221 N s) fun i2 s1 =>
    if i2 ≤ x5 then
      ick x3 4 <|
      iov (x4 * (s1.1 80 x3)) <|
      if x3 = x1 then
        ick x3 4 <|
        if (7 : Int) ≤ (s1.1 80 x3) then
          iov ((x4 * (s1.1 80 x3)) + (0 : Int)) <|
          some (((x4 * (s1.1 80 x3)) + (0 : Int)), s1)
        else
          iov ((x4 * (s1.1 80 x3)) + x2) <|
          some (((x4 * (s1.1 80 x3)) + x2), s1)
      else
        iov ((x4 * (s1.1 80 x3)) + (0 : Int)) <|
        some (((x4 * (s1.1 80 x3)) + (0 : Int)), s1)
    else
      ick x5 700 <|
      if (s1.1 78 x5) = (65 : Int) then
        i_o2 (f226 N x5 (1 : Int) s1) fun i4 s3 =>
        if i4 = x1 then
          i_o2 (f226 N x5 (2 : Int) s3) fun i6 s5 =>
          f284_at94 N (f284_at49 N n) x1 x2 x3 x5 i6 x4 s5
        else
          f284_at93 N (f284_at49 N n) x1 x2 x3 x5 x4 s3
      else
        f284_at93 N (f284_at49 N n) x1 x2 x3 x5 x4 s1
noncomputable def f284_at5 (N : Nat) : Nat → Int → Int → Int → Int → gI → Option (Int × gI)
  | 0, _, _, _, _, _ => none
  | n + 1, x1, x2, x3, x4, s =>
    i_o2 (f220 N s) fun i2 s1 =>
    if i2 ≤ x4 then
      f284_at49 N N x1 x2 x3 (0 : Int) (0 : Int) s1
    else
      ick x4 4 <|
      ick x3 4 <|
      if (s1.1 80 x3) ≤ (s1.1 80 x4) then
        iov (x4 + (1 : Int)) <|
        let i3 : Int := (x4 + (1 : Int))
        f284_at5 N n x1 x2 x3 i3 s1
      else
        iov (x4 + (1 : Int)) <|
        let i4 : Int := (x4 + (1 : Int))
        f284_at5 N n x1 x2 x4 i4 s1
noncomputable def f284 (N : Nat) (x1 : Int) (x2 : Int) (s : gI) : Option (Int × gI) :=
    f284_at5 N N x1 x2 (0 : Int) (1 : Int) s
/-! GutterNineModel.isRest -/
noncomputable def f285_at115 (N : Nat) (r_at78 : Int → Int → Int → Int → Int → Int → gI → Option (Int × gI)) (x2 : Int) (x5 : Int) (x6 : Int) (x7 : Int) (x8 : Int) (s : gI) : Option (Int × gI) :=
    iov (x8 + (1 : Int)) <|
    let i1 : Int := (x8 + (1 : Int))
    r_at78 x2 (0 : Int) x5 x6 x7 i1 s
noncomputable def f285_at78 (N : Nat) (r_at43 : Int → Int → Int → gI → Option (Int × gI)) : Nat → Int → Int → Int → Int → Int → Int → gI → Option (Int × gI)
  | 0, _, _, _, _, _, _, _ => none
  | n + 1, x2, x4, x5, x6, x7, x8, s =>
    if (8 : Int) ≤ x8 then
      ick x5 4 <|
      let s1 : gI := (iw s 80 x5 x6)
      iov (x5 + (1 : Int)) <|
      let i2 : Int := (x5 + (1 : Int))
      r_at43 x2 x4 i2 s1
    else
      ick x5 4 <|
      let s3 : gI := (iw s 80 x5 x8)
      if x4 = 0 then
        f285_at115 N (f285_at78 N r_at43 n) x2 x5 x6 x7 x8 s3
      else
        i_o2 (f284 N x5 x2 s3) fun i5 s4 =>
        if i5 < x7 then
          f285_at115 N (f285_at78 N r_at43 n) x2 x5 x6 x7 x8 s4
        else
          iov (x8 + (1 : Int)) <|
          let i6 : Int := (x8 + (1 : Int))
          f285_at78 N r_at43 n x2 (1 : Int) x5 x6 x7 i6 s4
noncomputable def f285_at43 (N : Nat) : Nat → Int → Int → Int → gI → Option (Int × gI)
  | 0, _, _, _, _ => none
  | n + 1, x2, x4, x5, s =>
    i_o2 (f220 N s) fun i2 s1 =>
    if i2 ≤ x5 then
      ib1 x4 <|
      some (x4, s1)
    else
      if x4 = 0 then
        ib1 x4 <|
        some (x4, s1)
      else
        ick x5 4 <|
        let i3 : Int := (s1.1 80 x5)
        i_o2 (f284 N x5 x2 s1) fun i5 s4 =>
        f285_at78 N (f285_at43 N n) N x2 x4 x5 i3 i5 (0 : Int) s4
noncomputable def f285_at10 (N : Nat) : Nat → Int → Int → Int → gI → Option (Int × gI)
  | 0, _, _, _, _ => none
  | n + 1, x2, x3, x4, s =>
    if x4 < 0 then
      f285_at43 N N x2 (1 : Int) (0 : Int) s
    else
      idv x3 (8 : Int) <|
      ick x4 4 <|
      let s1 : gI := (iw s 80 x4 (x3 % (8 : Int)))
      idv x3 (8 : Int) <|
      let i2 : Int := (x3 / (8 : Int))
      iov (x4 + (-1 : Int)) <|
      let i3 : Int := (x4 + (-1 : Int))
      f285_at10 N n x2 i2 i3 s1
noncomputable def f285 (N : Nat) (x1 : Int) (x2 : Int) (s : gI) : Option (Int × gI) :=
    i_o2 (f220 N s) fun i2 s1 =>
    iov (i2 - (1 : Int)) <|
    let i3 : Int := (i2 - (1 : Int))
    f285_at10 N N x2 x1 i3 s1
/-! GutterNineModel.rests -/
noncomputable def f286_at61 (N : Nat) : Nat → Int → Int → Int → Int → Int → gI → Option (Int × gI)
  | 0, _, _, _, _, _, _ => none
  | n + 1, x1, x2, x3, x4, x5, s =>
    if x3 ≤ x5 then
      if 0 ≤ x2 then
        some ((-1 : Int), s)
      else
        some (x4, s)
    else
      i_o2 (f285 N x5 x1 s) fun i2 s1 =>
      if i2 = 0 then
        iov (x5 + (1 : Int)) <|
        let i3 : Int := (x5 + (1 : Int))
        f286_at61 N n x1 x2 x3 x4 i3 s1
      else
        if x4 = x2 then
          some (x5, s1)
        else
          iov (x4 + (1 : Int)) <|
          let i4 : Int := (x4 + (1 : Int))
          iov (x5 + (1 : Int)) <|
          let i5 : Int := (x5 + (1 : Int))
          f286_at61 N n x1 x2 x3 i4 i5 s1
noncomputable def f286_at35 (N : Nat) : Nat → Int → Int → Int → Int → gI → Option (Int × gI)
  | 0, _, _, _, _, _ => none
  | n + 1, x1, x2, x3, x4, s =>
    i_o2 (f220 N s) fun i2 s1 =>
    if i2 ≤ x4 then
      f286_at61 N N x1 x2 x3 (0 : Int) (0 : Int) s1
    else
      iov (x3 * (8 : Int)) <|
      let i3 : Int := (x3 * (8 : Int))
      iov (x4 + (1 : Int)) <|
      let i4 : Int := (x4 + (1 : Int))
      f286_at35 N n x1 x2 i3 i4 s1
noncomputable def f286 (N : Nat) (x1 : Int) (x2 : Int) (s : gI) : Option (Int × gI) :=
    let s1 : gI := (iw s 63 0 (0 : Int))
    i_o2 (f189 N x1 (0 : Int) (999 : Int) s1) fun i3 s2 =>
    if i3 = 0 then
      some ((-1 : Int), s2)
    else
      if x2 < (-1 : Int) then
        some ((-1 : Int), s2)
      else
        i_o2 (f220 N s2) fun i5 s4 =>
        if i5 = 0 then
          some ((-1 : Int), s4)
        else
          f286_at35 N N x1 x2 (1 : Int) (0 : Int) s4
/-! GutterNineModel.otherwise -/
noncomputable def f287_at274 (N : Nat) (r_at140 : Int → Int → Int → Int → Int → Int → gI → Option (Int × gI)) (x3 : Int) (x4 : Int) (x5 : Int) (x7 : Int) (x8 : Int) (x9 : Int) (x10 : Int) (s : gI) : Option (Int × gI) :=
    ick (Int.bmod ((2 : Int) + x9) 4294967296) 140 <|
    let s1 : gI := (iw s 69 (Int.bmod ((2 : Int) + x9) 4294967296) x10)
    iov (x9 + (1 : Int)) <|
    let i2 : Int := (x9 + (1 : Int))
    r_at140 x3 x4 x5 x7 x8 i2 s1
noncomputable def f287_at265 (N : Nat) (r_at163 : Int → Int → Int → Int → Int → Int → Int → Int → gI → Option (Int × gI)) (x3 : Int) (x4 : Int) (x5 : Int) (x8 : Int) (x9 : Int) (x10 : Int) (x11 : Int) (z0 : Int) (z1 : Int) (s : gI) : Option (Int × gI) :=
    let i1 : Int := (Int.bmod (z1 + z0) 4294967296)
    iov (x11 + (1 : Int)) <|
    let i2 : Int := (x11 + (1 : Int))
    r_at163 x3 x4 x5 i1 x8 x9 x10 i2 s
noncomputable def f287_at251 (N : Nat) (r_at163 : Int → Int → Int → Int → Int → Int → Int → Int → gI → Option (Int × gI)) (x3 : Int) (x4 : Int) (x5 : Int) (x7 : Int) (x9 : Int) (x10 : Int) (x11 : Int) (x12 : Int) (z0 : Int) (s : gI) : Option (Int × gI) :=
    if x12 = 0 then
      f287_at265 N r_at163 x3 x4 x5 z0 x9 x10 x11 (0 : Int) x7 s
    else
      f287_at265 N r_at163 x3 x4 x5 z0 x9 x10 x11 (1 : Int) x7 s
noncomputable def f287_at249 (N : Nat) (r_at163 : Int → Int → Int → Int → Int → Int → Int → Int → gI → Option (Int × gI)) (x3 : Int) (x4 : Int) (x5 : Int) (x7 : Int) (x8 : Int) (x9 : Int) (x10 : Int) (x11 : Int) (x12 : Int) (s : gI) : Option (Int × gI) :=
    f287_at251 N r_at163 x3 x4 x5 x7 x9 x10 x11 x12 x8 s
noncomputable def f287_at226 (N : Nat) (r_at163 : Int → Int → Int → Int → Int → Int → Int → Int → gI → Option (Int × gI)) (x3 : Int) (x4 : Int) (x5 : Int) (x7 : Int) (x8 : Int) (x9 : Int) (x10 : Int) (x11 : Int) (z0 : Int) (s : gI) : Option (Int × gI) :=
    if z0 = 0 then
      f287_at249 N r_at163 x3 x4 x5 x7 x8 x9 x10 x11 z0 s
    else
      if x7 = 0 then
        f287_at251 N r_at163 x3 x4 x5 x7 x9 x10 x11 z0 (Int.bmod ((Int.bmod ((8 : Int) * x9) 4294967296) + x11) 4294967296) s
      else
        f287_at249 N r_at163 x3 x4 x5 x7 x8 x9 x10 x11 z0 s
noncomputable def f287_at225 (N : Nat) (r_at163 : Int → Int → Int → Int → Int → Int → Int → Int → gI → Option (Int × gI)) (x3 : Int) (x4 : Int) (x5 : Int) (x7 : Int) (x8 : Int) (x9 : Int) (x10 : Int) (x11 : Int) (s : gI) : Option (Int × gI) :=
    f287_at226 N r_at163 x3 x4 x5 x7 x8 x9 x10 x11 (0 : Int) s
noncomputable def f287_at163 (N : Nat) (r_at140 : Int → Int → Int → Int → Int → Int → gI → Option (Int × gI)) : Nat → Int → Int → Int → Int → Int → Int → Int → Int → gI → Option (Int × gI)
  | 0, _, _, _, _, _, _, _, _, _ => none
  | n + 1, x3, x4, x5, x7, x8, x9, x10, x11, s =>
    if (5 : Int) < x11 then
      f287_at274 N r_at140 x3 x4 x5 x7 x8 x9 x10 s
    else
      idv x9 (8 : Int) <|
      i_o2 (f218 N s) fun i2 s1 =>
      if i2 ≤ (x9 % (8 : Int)) then
        f287_at274 N r_at140 x3 x4 x5 x7 x8 x9 x10 s1
      else
        if (5 : Int) < x10 then
          f287_at274 N r_at140 x3 x4 x5 x7 x8 x9 x10 s1
        else
          ick (Int.bmod ((2 : Int) + x9) 4294967296) 140 <|
          let s3 : gI := (iw s1 69 (Int.bmod ((2 : Int) + x9) 4294967296) x11)
          if x11 = x10 then
            f287_at225 N (f287_at163 N r_at140 n) x3 x4 x5 x7 x8 x9 x10 x11 s3
          else
            i_o2 (f231 N (-1 : Int) (-1 : Int) (0 : Int) x5 s3) fun i5 s4 =>
            i_o2 (f237 N i5 s4) fun i7 s6 =>
            if i7 = x3 then
              f287_at226 N (f287_at163 N r_at140 n) x3 x4 x5 x7 x8 x9 x10 x11 (1 : Int) s6
            else
              f287_at225 N (f287_at163 N r_at140 n) x3 x4 x5 x7 x8 x9 x10 x11 s6
noncomputable def f287_at140 (N : Nat) : Nat → Int → Int → Int → Int → Int → Int → gI → Option (Int × gI)
  | 0, _, _, _, _, _, _, _ => none
  | n + 1, x3, x4, x5, x7, x8, x9, s =>
    i_o2 (f219 N s) fun i2 s1 =>
    if (Int.bmod ((8 : Int) * i2) 4294967296) ≤ x9 then
      if x7 = 0 then
        some ((-1 : Int), s1)
      else
        if x4 = 0 then
          some (x7, s1)
        else
          some (x8, s1)
    else
      i_o2 (f225 N x9 s1) fun i4 s3 =>
      f287_at163 N (f287_at140 N n) N x3 x4 x5 x7 x8 x9 i4 (0 : Int) s3
noncomputable def f287_at73 (N : Nat) (x3 : Int) (x4 : Int) (x5 : Int) (z0 : Int) (s : gI) : Option (Int × gI) :=
    if z0 = 0 then
      some ((-1 : Int), s)
    else
      i_o2 (f225 N x5 s) fun i2 s1 =>
      if i2 = (8 : Int) then
        some ((-1 : Int), s1)
      else
        i_o2 (f225 N x5 s1) fun i4 s3 =>
        if i4 = (7 : Int) then
          some ((-1 : Int), s3)
        else
          i_o2 (f231 N (-1 : Int) (-1 : Int) (0 : Int) x5 s3) fun i6 s5 =>
          i_o2 (f237 N i6 s5) fun i8 s7 =>
          if i8 = x3 then
            if x4 = 0 then
              some ((0 : Int), s7)
            else
              some ((-1 : Int), s7)
          else
            f287_at140 N N x3 x4 x5 (0 : Int) (-1 : Int) (0 : Int) s7
noncomputable def f287_at72 (N : Nat) (x3 : Int) (x4 : Int) (x5 : Int) (s : gI) : Option (Int × gI) :=
    f287_at73 N x3 x4 x5 (0 : Int) s
noncomputable def f287_at68 (N : Nat) (x3 : Int) (x4 : Int) (x5 : Int) (s : gI) : Option (Int × gI) :=
    f287_at73 N x3 x4 x5 (1 : Int) s
noncomputable def f287 (N : Nat) (x1 : Int) (x2 : Int) (x3 : Int) (x4 : Int) (s : gI) : Option (Int × gI) :=
    let s1 : gI := (iw s 63 0 (0 : Int))
    let i2 : Int := (Int.bmod ((Int.bmod ((8 : Int) * x2) 4294967296) + x1) 4294967296)
    i_o2 (f224 N x1 x2 s1) fun i4 s3 =>
    if i4 = 0 then
      f287_at72 N x3 x4 i2 s3
    else
      i_o2 (f189 N x4 (0 : Int) (1 : Int) s3) fun i6 s5 =>
      if i6 = 0 then
        f287_at72 N x3 x4 i2 s5
      else
        i_o2 (f189 N x3 (64 : Int) (66 : Int) s5) fun i8 s7 =>
        if i8 = 0 then
          if x3 < 0 then
            f287_at72 N x3 x4 i2 s7
          else
            if (64 : Int) ≤ x3 then
              f287_at72 N x3 x4 i2 s7
            else
              idv x3 (8 : Int) <|
              idv x3 (8 : Int) <|
              i_o2 (f224 N (x3 % (8 : Int)) (x3 / (8 : Int)) s7) fun i10 s9 =>
              if i10 = 0 then
                f287_at72 N x3 x4 i2 s9
              else
                f287_at68 N x3 x4 i2 s9
        else
          f287_at68 N x3 x4 i2 s7
/-! GutterNineModel.draw -/
noncomputable def f288 (N : Nat) (x1 : Int) (s : gI) : Option (Int × gI) :=
    iol ((s.2 63 27) * (1103515245 : Int)) <|
    iol (((s.2 63 27) * (1103515245 : Int)) + (12345 : Int)) <|
    idv (((s.2 63 27) * (1103515245 : Int)) + (12345 : Int)) (2147483648 : Int) <|
    let s1 : gI := (iwl s 63 27 ((((s.2 63 27) * (1103515245 : Int)) + (12345 : Int)) % (2147483648 : Int)))
    idv (s1.2 63 27) (65536 : Int) <|
    idv ((s1.2 63 27) / (65536 : Int)) x1 <|
    some ((Int.bmod (((s1.2 63 27) / (65536 : Int)) % x1) 4294967296), s1)
/-! GutterNineModel.throwsOwn -/
noncomputable def f289_at32 (N : Nat) : Nat → Int → Int → Int → Int → Int → gI → Option (gI)
  | 0, _, _, _, _, _, _ => none
  | n + 1, x1, x2, x3, x4, x5, s =>
    i_o2 (f260 N x4 x5 s) fun i2 s1 =>
    if x3 < i2 then
      i_o2 (f218 N s1) fun i4 s3 =>
      idv x2 i4 <|
      i_o2 (f218 N s3) fun i6 s5 =>
      idv x2 i6 <|
      i_o1 (f235 N (588 : Int) x4 x1 (x2 % i4) (x2 / i6) x5 s5) fun s7 =>
      some s7
    else
      i_o2 (f260 N x4 x5 s1) fun i9 s8 =>
      iov (x3 - i9) <|
      let i10 : Int := (x3 - i9)
      iov (x5 + (1 : Int)) <|
      let i11 : Int := (x5 + (1 : Int))
      f289_at32 N n x1 x2 i10 x4 i11 s8
noncomputable def f289 (N : Nat) (x1 : Int) (s : gI) : Option (gI) :=
    i_o2 (f218 N s) fun i2 s1 =>
    i_o2 (f219 N s1) fun i4 s3 =>
    iov (i2 * i4) <|
    i_o2 (f288 N (i2 * i4) s3) fun i6 s5 =>
    i_o2 (f288 N (80 : Int) s5) fun i8 s7 =>
    i_o2 (f226 N x1 (1 : Int) s7) fun i10 s9 =>
    f289_at32 N N x1 i6 i8 i10 (0 : Int) s9
/-! GutterNineModel.summer -/
noncomputable def f290_at173 (N : Nat) (r_at141 : Int → Int → Int → gI → Option (Int × gI)) (x3 : Int) (x5 : Int) (z0 : Int) (z1 : Int) (s : gI) : Option (Int × gI) :=
    iov (z1 + z0) <|
    let i1 : Int := (z1 + z0)
    iov (x5 + (1 : Int)) <|
    let i2 : Int := (x5 + (1 : Int))
    r_at141 x3 i1 i2 s
noncomputable def f290_at141 (N : Nat) : Nat → Int → Int → Int → gI → Option (Int × gI)
  | 0, _, _, _, _ => none
  | n + 1, x3, x4, x5, s =>
    i_o2 (f221 N s) fun i2 s1 =>
    if i2 ≤ x5 then
      i_o2 (f267 N (588 : Int) s1) fun i4 s3 =>
      if x3 = 0 then
        some (i4, s3)
      else
        if x3 = (1 : Int) then
          some (x4, s3)
        else
          if x3 = (2 : Int) then
            i_o2 (f221 N s3) fun i6 s5 =>
            iov (i6 - i4) <|
            iov ((i6 - i4) - x4) <|
            some (((i6 - i4) - x4), s5)
          else
            ick (605 : Int) 700 <|
            ick (17 : Int) 700 <|
            iov ((s3.1 78 (605 : Int)) - (s3.1 78 (17 : Int))) <|
            some (((s3.1 78 (605 : Int)) - (s3.1 78 (17 : Int))), s3)
    else
      iov ((588 : Int) + x5) <|
      ick ((588 : Int) + x5) 700 <|
      if (s1.1 78 ((588 : Int) + x5)) = (65 : Int) then
        f290_at173 N (f290_at141 N n) x3 x5 (1 : Int) x4 s1
      else
        f290_at173 N (f290_at141 N n) x3 x5 (0 : Int) x4 s1
noncomputable def f290_at122 (N : Nat) (r_at63 : Int → Int → Int → gI → Option (Int × gI)) (x2 : Int) (x3 : Int) (x4 : Int) (s : gI) : Option (Int × gI) :=
    i_o1 (f255 N (588 : Int) s) fun s1 =>
    iov (x4 + (1 : Int)) <|
    let i2 : Int := (x4 + (1 : Int))
    r_at63 x2 x3 i2 s1
noncomputable def f290_at101 (N : Nat) (r_at63 : Int → Int → Int → gI → Option (Int × gI)) (x2 : Int) (x3 : Int) (x4 : Int) (s : gI) : Option (Int × gI) :=
    idv x4 (10 : Int) <|
    if (x4 % (10 : Int)) = 0 then
      i_o2 (f288 N (4 : Int) s) fun i2 s1 =>
      i_o2 (f251 N (588 : Int) i2 s1) fun i4 s3 =>
      f290_at122 N r_at63 x2 x3 x4 s3
    else
      f290_at122 N r_at63 x2 x3 x4 s
noncomputable def f290_at63 (N : Nat) : Nat → Int → Int → Int → gI → Option (Int × gI)
  | 0, _, _, _, _ => none
  | n + 1, x2, x3, x4, s =>
    if x2 < x4 then
      f290_at141 N N x3 (0 : Int) (0 : Int) s
    else
      i_o2 (f221 N s) fun i2 s1 =>
      i_o2 (f288 N i2 s1) fun i4 s3 =>
      iov ((588 : Int) + i4) <|
      ick ((588 : Int) + i4) 700 <|
      if (s3.1 78 ((588 : Int) + i4)) = (64 : Int) then
        i_o1 (f289 N i4 s3) fun s5 =>
        f290_at101 N (f290_at63 N n) x2 x3 x4 s5
      else
        f290_at101 N (f290_at63 N n) x2 x3 x4 s3
noncomputable def f290 (N : Nat) (x1 : Int) (x2 : Int) (x3 : Int) (s : gI) : Option (Int × gI) :=
    let s1 : gI := (iw s 63 0 (0 : Int))
    i_o2 (f189 N x1 (0 : Int) (9999 : Int) s1) fun i3 s2 =>
    if i3 = 0 then
      some ((-1 : Int), s2)
    else
      i_o2 (f189 N x2 (1 : Int) (60 : Int) s2) fun i5 s4 =>
      if i5 = 0 then
        some ((-1 : Int), s4)
      else
        i_o2 (f189 N x3 (0 : Int) (3 : Int) s4) fun i7 s6 =>
        if i7 = 0 then
          some ((-1 : Int), s6)
        else
          i_o2 (f221 N s6) fun i9 s8 =>
          if i9 = 0 then
            some ((-1 : Int), s8)
          else
            i_o1 (f215 N (0 : Int) (588 : Int) (18 : Int) s8) fun s10 =>
            let s11 : gI := (iwl s10 63 27 x1)
            f290_at63 N N x2 x3 (1 : Int) s11
/-! GutterNineModel.mark -/
noncomputable def f291_at65 (N : Nat) (x2 : Int) (z0 : Int) (z1 : Int) (s : gI) : Option (Int × gI) :=
    i_o1 (f215 N z1 z0 (28 : Int) s) fun s1 =>
    if x2 = 0 then
      let s2 : gI := (iw s1 63 23 (s1.1 63 23))
      ib1 (1 : Int) <|
      some ((1 : Int), s2)
    else
      let s3 : gI := (iw s1 63 23 (0 : Int))
      ib1 (1 : Int) <|
      some ((1 : Int), s3)
noncomputable def f291_at51 (N : Nat) (x1 : Int) (x2 : Int) (z0 : Int) (s : gI) : Option (Int × gI) :=
    if x2 = 0 then
      iov ((1 : Int) + x1) <|
      iov ((28 : Int) * ((1 : Int) + x1)) <|
      f291_at65 N x2 ((28 : Int) * ((1 : Int) + x1)) z0 s
    else
      f291_at65 N x2 (0 : Int) z0 s
noncomputable def f291_at29 (N : Nat) (x1 : Int) (x2 : Int) (s : gI) : Option (Int × gI) :=
    ick x1 4 <|
    ib1 (1 : Int) <|
    let s1 : gI := (iw s 79 x1 (1 : Int))
    if x2 = 0 then
      f291_at51 N x1 x2 (0 : Int) s1
    else
      iov ((1 : Int) + x1) <|
      iov ((28 : Int) * ((1 : Int) + x1)) <|
      f291_at51 N x1 x2 ((28 : Int) * ((1 : Int) + x1)) s1
noncomputable def f291 (N : Nat) (x1 : Int) (x2 : Int) (s : gI) : Option (Int × gI) :=
    let s1 : gI := (iw s 63 0 (0 : Int))
    i_o2 (f189 N x1 (0 : Int) (3 : Int) s1) fun i3 s2 =>
    if i3 = 0 then
      ib1 (0 : Int) <|
      some ((0 : Int), s2)
    else
      if x2 = 0 then
        f291_at29 N x1 x2 s2
      else
        ick x1 4 <|
        if (s2.1 79 x1) = 0 then
          ib1 (0 : Int) <|
          some ((0 : Int), s2)
        else
          f291_at29 N x1 x2 s2
/-! GutterNineModel.count -/
noncomputable def f292_at130 (N : Nat) (r_at99 : Int → Int → Int → Int → Int → Int → gI → Option (Int × gI)) (x1 : Int) (x2 : Int) (x3 : Int) (x4 : Int) (x6 : Int) (z0 : Int) (z1 : Int) (s : gI) : Option (Int × gI) :=
    iov (z1 + z0) <|
    let i1 : Int := (z1 + z0)
    iov (x6 + (1 : Int)) <|
    let i2 : Int := (x6 + (1 : Int))
    r_at99 x1 x2 x3 x4 i1 i2 s
noncomputable def f292_at99 (N : Nat) : Nat → Int → Int → Int → Int → Int → Int → gI → Option (Int × gI)
  | 0, _, _, _, _, _, _, _ => none
  | n + 1, x1, x2, x3, x4, x5, x6, s =>
    i_o2 (f218 N s) fun i2 s1 =>
    if i2 ≤ x6 then
      if x1 = 0 then
        i_o2 (f218 N s1) fun i4 s3 =>
        some (i4, s3)
      else if x1 = 1 then
        i_o2 (f219 N s1) fun i6 s5 =>
        some (i6, s5)
      else if x1 = 2 then
        i_o2 (f220 N s1) fun i8 s7 =>
        some (i8, s7)
      else if x1 = 3 then
        i_o2 (f221 N s1) fun i10 s9 =>
        some (i10, s9)
      else if x1 = 4 then
        i_o2 (f267 N (0 : Int) s1) fun i12 s11 =>
        some (i12, s11)
      else if x1 = 5 then
        some (x2, s1)
      else if x1 = 6 then
        some (x3, s1)
      else if x1 = 7 then
        some (x4, s1)
      else if x1 = 8 then
        ick (16 : Int) 700 <|
        some ((s1.1 78 (16 : Int)), s1)
      else if x1 = 9 then
        ick (17 : Int) 700 <|
        some ((s1.1 78 (17 : Int)), s1)
      else if x1 = 10 then
        some ((s1.1 63 23), s1)
      else if x1 = 11 then
        some (x5, s1)
      else if x1 = 12 then
        some ((s1.1 63 2), s1)
      else 
        some ((-1 : Int), s1)
    else
      iov ((18 : Int) + x6) <|
      ick ((18 : Int) + x6) 700 <|
      if (s1.1 78 ((18 : Int) + x6)) = (-2 : Int) then
        f292_at130 N (f292_at99 N n) x1 x2 x3 x4 x6 (0 : Int) x5 s1
      else
        f292_at130 N (f292_at99 N n) x1 x2 x3 x4 x6 (1 : Int) x5 s1
noncomputable def f292_at87 (N : Nat) (r_at18 : Int → Int → Int → Int → Int → Int → gI → Option (Int × gI)) (x1 : Int) (x2 : Int) (x3 : Int) (x5 : Int) (x6 : Int) (z0 : Int) (z1 : Int) (s : gI) : Option (Int × gI) :=
    iov (z1 + z0) <|
    let i1 : Int := (z1 + z0)
    iov (x6 + (1 : Int)) <|
    let i2 : Int := (x6 + (1 : Int))
    r_at18 x1 x2 x3 i1 x5 i2 s
noncomputable def f292_at65 (N : Nat) (r_at18 : Int → Int → Int → Int → Int → Int → gI → Option (Int × gI)) (x1 : Int) (x2 : Int) (x4 : Int) (x5 : Int) (x6 : Int) (z0 : Int) (z1 : Int) (s : gI) : Option (Int × gI) :=
    iov (z1 + z0) <|
    let i1 : Int := (z1 + z0)
    ick x6 700 <|
    if (s.1 78 x6) < (128 : Int) then
      f292_at87 N r_at18 x1 x2 i1 x5 x6 (0 : Int) x4 s
    else
      f292_at87 N r_at18 x1 x2 i1 x5 x6 (1 : Int) x4 s
noncomputable def f292_at45 (N : Nat) (r_at18 : Int → Int → Int → Int → Int → Int → gI → Option (Int × gI)) (x1 : Int) (x3 : Int) (x4 : Int) (x5 : Int) (x6 : Int) (z0 : Int) (z1 : Int) (s : gI) : Option (Int × gI) :=
    iov (z1 + z0) <|
    let i1 : Int := (z1 + z0)
    ick x6 700 <|
    if (s.1 78 x6) = (65 : Int) then
      f292_at65 N r_at18 x1 i1 x4 x5 x6 (1 : Int) x3 s
    else
      f292_at65 N r_at18 x1 i1 x4 x5 x6 (0 : Int) x3 s
noncomputable def f292_at18 (N : Nat) : Nat → Int → Int → Int → Int → Int → Int → gI → Option (Int × gI)
  | 0, _, _, _, _, _, _, _ => none
  | n + 1, x1, x2, x3, x4, x5, x6, s =>
    i_o2 (f221 N s) fun i2 s1 =>
    if i2 ≤ x6 then
      f292_at99 N N x1 x2 x3 x4 x5 (0 : Int) s1
    else
      ick x6 700 <|
      if (64 : Int) ≤ (s1.1 78 x6) then
        f292_at45 N (f292_at18 N n) x1 x3 x4 x5 x6 (0 : Int) x2 s1
      else
        f292_at45 N (f292_at18 N n) x1 x3 x4 x5 x6 (1 : Int) x2 s1
noncomputable def f292 (N : Nat) (x1 : Int) (s : gI) : Option (Int × gI) :=
    let s1 : gI := (iw s 63 0 (0 : Int))
    f292_at18 N N x1 (0 : Int) (0 : Int) (0 : Int) (0 : Int) (0 : Int) s1

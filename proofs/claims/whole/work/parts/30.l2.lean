/-! java/lang/String.isLatin1 -/
noncomputable def f305 (N : Nat) (r0 : Nat) (s : gI) : Option (Int × gI) :=
    if (1 : Int) = 0 then
      ib1 (0 : Int) <|
      some ((0 : Int), s)
    else
      if (i_c r0 1) = 0 then
        ib1 (1 : Int) <|
        some ((1 : Int), s)
      else
        ib1 (0 : Int) <|
        some ((0 : Int), s)
/-! java/lang/String.coder -/
noncomputable def f304 (N : Nat) (r0 : Nat) (s : gI) : Option (Int × gI) :=
    if (1 : Int) = 0 then
      ib1 (1 : Int) <|
      some ((1 : Int), s)
    else
      ib1 (i_c r0 1) <|
      some ((i_c r0 1), s)
/-! java/lang/String.length -/
noncomputable def f300 (N : Nat) (r0 : Nat) (zn : Int) (s : gI) : Option (Int × gI) :=
    iov zn <|
    i_o2 (f304 N r0 s) fun i2 s1 =>
    some ((i_shr (zn : Int) i2), s1)
/-! java/lang/StringLatin1.canEncode -/
noncomputable def f309 (N : Nat) (x0 : Int) (s : gI) : Option (Int × gI) :=
    if x0 < 0 then
      ib1 (0 : Int) <|
      some ((0 : Int), s)
    else
      if (255 : Int) < x0 then
        ib1 (0 : Int) <|
        some ((0 : Int), s)
      else
        ib1 (1 : Int) <|
        some ((1 : Int), s)
/-! java/lang/StringLatin1.indexOfChar -/
noncomputable def f311 (N : Nat) (r0 : Nat) (x1 : Int) (x2 : Int) (x3 : Int) (s : gI) : Option (Int × gI) :=
    none
/-! java/lang/StringLatin1.indexOf -/
noncomputable def f310 (N : Nat) (r0 : Nat) (zn : Int) (x1 : Int) (x2 : Int) (x3 : Int) (s : gI) : Option (Int × gI) :=
    i_o2 (f309 N x1 s) fun i2 s1 =>
    if i2 = 0 then
      some ((-1 : Int), s1)
    else
      let i3 : Int := (if x2 < (0 : Int) then (0 : Int) else x2)
      iov zn <|
      let i4 : Int := (if (zn : Int) < x3 then (zn : Int) else x3)
      if i3 < i4 then
        i_o2 (f311 N r0 x1 i3 i4 s1) fun i6 s5 =>
        some (i6, s5)
      else
        some ((-1 : Int), s1)
/-! java/lang/String.indexOf -/
noncomputable def f303 (N : Nat) (r0 : Nat) (zn : Int) (x1 : Int) (x2 : Int) (s : gI) : Option (Int × gI) :=
    i_o2 (f305 N r0 s) fun i2 s1 =>
    if i2 = 0 then
      i_o2 (f300 N r0 zn s1) fun i4 s3 =>
      none
    else
      i_o2 (f300 N r0 zn s1) fun i6 s5 =>
      i_o2 (f310 N (r0 + 1) zn x1 x2 i6 s5) fun i8 s7 =>
      some (i8, s7)
/-! java/lang/String.indexOf -/
noncomputable def f302 (N : Nat) (r0 : Nat) (zn : Int) (x1 : Int) (s : gI) : Option (Int × gI) :=
    i_o2 (f303 N r0 zn x1 (0 : Int) s) fun i2 s1 =>
    some (i2, s1)
/-! GutterNine$Tape.runEnd -/
noncomputable def f98_at5 (N : Nat) : Nat → Int → Int → Int → gI → Option (Int × gI)
  | 0, _, _, _, _ => none
  | n + 1, x1, x2, x3, s =>
    if (s.1 1 1) ≤ x3 then
      some (x3, s)
    else
      ick x3 1000 <|
      if (s.1 2 x3) < x1 then
        some (x3, s)
      else
        ick x3 1000 <|
        if x2 < (s.1 2 x3) then
          some (x3, s)
        else
          iov (x3 + (1 : Int)) <|
          let i1 : Int := (x3 + (1 : Int))
          f98_at5 N n x1 x2 i1 s
noncomputable def f98 (N : Nat) (x1 : Int) (x2 : Int) (s : gI) : Option (Int × gI) :=
    let i1 : Int := (s.1 1 3)
    f98_at5 N N x1 x2 i1 s
/-! GutterNine$Tape.readNumber -/
noncomputable def f99_at19 (N : Nat) : Nat → Int → gI → Option (gI)
  | 0, _, _ => none
  | n + 1, x1, s =>
    if (s.1 1 4) ≤ x1 then
      some s
    else
      iov ((s.1 1 5) * (10 : Int)) <|
      ick x1 1000 <|
      iov (((s.1 1 5) * (10 : Int)) + (s.1 2 x1)) <|
      iov ((((s.1 1 5) * (10 : Int)) + (s.1 2 x1)) - (48 : Int)) <|
      let s1 : gI := (iw s 1 5 ((((s.1 1 5) * (10 : Int)) + (s.1 2 x1)) - (48 : Int)))
      iov (x1 + (1 : Int)) <|
      let i2 : Int := (x1 + (1 : Int))
      f99_at19 N n i2 s1
noncomputable def f99 (N : Nat) (s : gI) : Option (gI) :=
    if (s.1 1 2) = (3 : Int) then
      let s1 : gI := (iw s 1 5 (0 : Int))
      let i2 : Int := (s1.1 1 3)
      f99_at19 N N i2 s1
    else
      some s
/-! GutterNine$Tape.advance -/
noncomputable def f97_at178 (N : Nat) (x1 : Int) (x2 : Int) (s : gI) : Option (gI) :=
    iov (x1 + (1 : Int)) <|
    let s1 : gI := (iw s 1 4 (x1 + (1 : Int)))
    i_o2 (f302 N 1034 8 x2 s1) fun i3 s2 =>
    if i3 < 0 then
      let s4 : gI := (iw s2 1 2 (1 : Int))
      some s4
    else
      let s5 : gI := (iw s2 1 2 (4 : Int))
      some s5
noncomputable def f97_at168 (N : Nat) (z0 : Int) (s : gI) : Option (gI) :=
    let s1 : gI := (iw s 1 2 z0)
    i_o1 (f99 N s1) fun s2 =>
    some s2
noncomputable def f97_at125 (N : Nat) (x1 : Int) (x2 : Int) (s : gI) : Option (gI) :=
    if x2 < (48 : Int) then
      f97_at178 N x1 x2 s
    else
      if (57 : Int) < x2 then
        f97_at178 N x1 x2 s
      else
        i_o2 (f98 N (48 : Int) (57 : Int) s) fun i2 s1 =>
        let s3 : gI := (iw s1 1 4 i2)
        iov ((s3.1 1 4) - (s3.1 1 3)) <|
        if (4 : Int) < ((s3.1 1 4) - (s3.1 1 3)) then
          f97_at168 N (1 : Int) s3
        else
          f97_at168 N (3 : Int) s3
noncomputable def f97_at41 (N : Nat) (x1 : Int) (s : gI) : Option (gI) :=
    let s1 : gI := (iw s 1 3 x1)
    if x1 < (s1.1 1 1) then
      ick x1 1000 <|
      let i2 : Int := (s1.1 2 x1)
      if i2 < (97 : Int) then
        f97_at125 N x1 i2 s1
      else
        if (122 : Int) < i2 then
          f97_at125 N x1 i2 s1
        else
          i_o2 (f98 N (97 : Int) (122 : Int) s1) fun i4 s3 =>
          let s5 : gI := (iw s3 1 4 i4)
          iov ((s5.1 1 4) - (s5.1 1 3)) <|
          if (8 : Int) < ((s5.1 1 4) - (s5.1 1 3)) then
            let s6 : gI := (iw s5 1 2 (1 : Int))
            some s6
          else
            let s7 : gI := (iw s5 1 2 (2 : Int))
            some s7
    else
      let s8 : gI := (iw s1 1 2 (0 : Int))
      let s9 : gI := (iw s8 1 4 (s8.1 1 1))
      some s9
noncomputable def f97_at5 (N : Nat) : Nat → Int → gI → Option (gI)
  | 0, _, _ => none
  | n + 1, x1, s =>
    if (s.1 1 1) ≤ x1 then
      f97_at41 N x1 s
    else
      ick x1 1000 <|
      if (s.1 2 x1) = (10 : Int) then
        iov (x1 + (1 : Int)) <|
        let i1 : Int := (x1 + (1 : Int))
        f97_at5 N n i1 s
      else
        ick x1 1000 <|
        if (s.1 2 x1) = (32 : Int) then
          iov (x1 + (1 : Int)) <|
          let i2 : Int := (x1 + (1 : Int))
          f97_at5 N n i2 s
        else
          f97_at41 N x1 s
noncomputable def f97 (N : Nat) (s : gI) : Option (gI) :=
    let i1 : Int := (s.1 1 4)
    f97_at5 N N i1 s
/-! GutterNine$Tape.begin -/
noncomputable def f96 (N : Nat) (s : gI) : Option (gI) :=
    let s1 : gI := (iw s 1 4 (0 : Int))
    let s2 : gI := (iw s1 1 7 (0 : Int))
    i_o1 (f97 N s2) fun s3 =>
    some s3
/-! jdk/internal/util/Preconditions.checkIndex -/
noncomputable def f322_at9 (N : Nat) (x0 : Int) (x1 : Int) (s : gI) : Option (Int × gI) :=
    none
noncomputable def f322 (N : Nat) (x0 : Int) (x1 : Int) (s : gI) : Option (Int × gI) :=
    if x0 < 0 then
      f322_at9 N x0 x1 s
    else
      if x0 < x1 then
        some (x0, s)
      else
        f322_at9 N x0 x1 s
/-! java/lang/String.checkIndex -/
noncomputable def f306 (N : Nat) (x0 : Int) (x1 : Int) (s : gI) : Option (gI) :=
    i_o2 (f322 N x0 x1 s) fun i2 s1 =>
    some s1
/-! java/lang/StringLatin1.charAt -/
noncomputable def f308 (N : Nat) (r0 : Nat) (zn : Int) (x1 : Int) (s : gI) : Option (Int × gI) :=
    iov zn <|
    i_o1 (f306 N x1 (zn : Int) s) fun s1 =>
    ick x1 zn <|
    ich (i_and (i_c r0 x1) (255 : Int)) <|
    ich (i_and (i_c r0 x1) (255 : Int)) <|
    some ((i_and (i_c r0 x1) (255 : Int)), s1)
/-! java/lang/String.charAt -/
noncomputable def f301 (N : Nat) (r0 : Nat) (zn : Int) (x1 : Int) (s : gI) : Option (Int × gI) :=
    i_o2 (f305 N r0 s) fun i2 s1 =>
    if i2 = 0 then
      none
    else
      i_o2 (f308 N (r0 + 1) zn x1 s1) fun i4 s3 =>
      ich i4 <|
      some (i4, s3)
/-! GutterNine$Tape.isWord -/
noncomputable def f101_at31 (N : Nat) (r1 : Nat) (zn : Int) : Nat → Int → gI → Option (Int × gI)
  | 0, _, _ => none
  | n + 1, x2, s =>
    if (s.1 1 4) ≤ x2 then
      ib1 (1 : Int) <|
      some ((1 : Int), s)
    else
      ick x2 1000 <|
      iov (x2 - (s.1 1 3)) <|
      i_o2 (f301 N r1 zn (x2 - (s.1 1 3)) s) fun i2 s1 =>
      if (s.1 2 x2) = i2 then
        iov (x2 + (1 : Int)) <|
        let i3 : Int := (x2 + (1 : Int))
        f101_at31 N r1 zn n i3 s1
      else
        ib1 (0 : Int) <|
        some ((0 : Int), s1)
noncomputable def f101 (N : Nat) (r1 : Nat) (zn : Int) (s : gI) : Option (Int × gI) :=
    if (s.1 1 2) = (2 : Int) then
      iov ((s.1 1 4) - (s.1 1 3)) <|
      i_o2 (f300 N r1 zn s) fun i2 s1 =>
      if ((s.1 1 4) - (s.1 1 3)) = i2 then
        let i3 : Int := (s1.1 1 3)
        f101_at31 N r1 zn N i3 s1
      else
        ib1 (0 : Int) <|
        some ((0 : Int), s1)
    else
      ib1 (0 : Int) <|
      some ((0 : Int), s)
/-! GutterNine$Tape.fail -/
noncomputable def f104 (N : Nat) (x1 : Int) (s : gI) : Option (Int × gI) :=
    iov ((16 : Int) * (s.1 1 3)) <|
    iov (x1 + ((16 : Int) * (s.1 1 3))) <|
    let s1 : gI := (iw s 1 7 (x1 + ((16 : Int) * (s.1 1 3))))
    ib1 (0 : Int) <|
    some ((0 : Int), s1)
/-! GutterNine$Tape.takeWord -/
noncomputable def f105 (N : Nat) (r1 : Nat) (zn : Int) (s : gI) : Option (Int × gI) :=
    i_o2 (f101 N r1 zn s) fun i2 s1 =>
    if i2 = 0 then
      i_o2 (f104 N (1 : Int) s1) fun i5 s4 =>
      ib1 i5 <|
      some (i5, s4)
    else
      i_o1 (f97 N s1) fun s3 =>
      ib1 (1 : Int) <|
      some ((1 : Int), s3)
/-! GutterNine$Tape.takeNumber -/
noncomputable def f107_at30 (N : Nat) (s : gI) : Option (Int × gI) :=
    i_o2 (f104 N (4 : Int) s) fun i2 s1 =>
    ib1 i2 <|
    some (i2, s1)
noncomputable def f107 (N : Nat) (x1 : Int) (x2 : Int) (s : gI) : Option (Int × gI) :=
    if (s.1 1 2) = (3 : Int) then
      if (s.1 1 5) < x1 then
        f107_at30 N s
      else
        if (s.1 1 5) ≤ x2 then
          let s1 : gI := (iw s 1 6 (s.1 1 5))
          i_o1 (f97 N s1) fun s2 =>
          ib1 (1 : Int) <|
          some ((1 : Int), s2)
        else
          f107_at30 N s
    else
      i_o2 (f104 N (1 : Int) s) fun i4 s3 =>
      ib1 i4 <|
      some (i4, s3)
/-! GutterNine$Tape.isSign -/
noncomputable def f100 (N : Nat) (x1 : Int) (s : gI) : Option (Int × gI) :=
    if (s.1 1 2) = (4 : Int) then
      ick (s.1 1 3) 1000 <|
      if (s.1 2 (s.1 1 3)) = x1 then
        ib1 (1 : Int) <|
        some ((1 : Int), s)
      else
        ib1 (0 : Int) <|
        some ((0 : Int), s)
    else
      ib1 (0 : Int) <|
      some ((0 : Int), s)
/-! GutterNine$Tape.takeSemicolon -/
noncomputable def f106 (N : Nat) (s : gI) : Option (Int × gI) :=
    i_o2 (f100 N (59 : Int) s) fun i2 s1 =>
    if i2 = 0 then
      i_o2 (f104 N (1 : Int) s1) fun i5 s4 =>
      ib1 i5 <|
      some (i5, s4)
    else
      i_o1 (f97 N s1) fun s3 =>
      ib1 (1 : Int) <|
      some ((1 : Int), s3)
/-! GutterNine$Tape.letter -/
noncomputable def f103 (N : Nat) (x1 : Int) (s : gI) : Option (Int × gI) :=
    if x1 < 0 then
      ich (32 : Int) <|
      some ((32 : Int), s)
    else
      iov ((s.1 1 4) - (s.1 1 3)) <|
      if ((s.1 1 4) - (s.1 1 3)) ≤ x1 then
        ich (32 : Int) <|
        some ((32 : Int), s)
      else
        iov ((s.1 1 3) + x1) <|
        ick ((s.1 1 3) + x1) 1000 <|
        ich (s.1 2 ((s.1 1 3) + x1)) <|
        some ((s.1 2 ((s.1 1 3) + x1)), s)
/-! GutterNine$Roof.takeRow -/
noncomputable def f81_at38 (N : Nat) : Nat → Int → Int → gI → Option (Int × gI)
  | 0, _, _, _ => none
  | n + 1, x2, x3, s =>
    if (s.1 44 0) ≤ x3 then
      i_o1 (f97 N s) fun s1 =>
      ib1 (1 : Int) <|
      some ((1 : Int), s1)
    else
      i_o2 (f103 N x3 s) fun i3 s2 =>
      i_o2 (f302 N 1032 9 i3 s2) fun i5 s4 =>
      if 0 ≤ i5 then
        iov (x2 * (8 : Int)) <|
        iov ((x2 * (8 : Int)) + x3) <|
        ick ((x2 * (8 : Int)) + x3) 64 <|
        let s6 : gI := (iw s4 45 ((x2 * (8 : Int)) + x3) i5)
        iov (x3 + (1 : Int)) <|
        let i7 : Int := (x3 + (1 : Int))
        f81_at38 N n x2 i7 s6
      else
        i_o2 (f104 N (2 : Int) s4) fun i9 s8 =>
        ib1 i9 <|
        some (i9, s8)
noncomputable def f81 (N : Nat) (x2 : Int) (s : gI) : Option (Int × gI) :=
    if (s.1 1 2) = (2 : Int) then
      iov ((s.1 1 4) - (s.1 1 3)) <|
      if ((s.1 1 4) - (s.1 1 3)) = (s.1 44 0) then
        f81_at38 N N x2 (0 : Int) s
      else
        i_o2 (f104 N (2 : Int) s) fun i2 s1 =>
        ib1 i2 <|
        some (i2, s1)
    else
      i_o2 (f104 N (1 : Int) s) fun i4 s3 =>
      ib1 i4 <|
      some (i4, s3)
/-! GutterNine$Roof.read -/
noncomputable def f80_at127 (N : Nat) (z0 : Int) (s : gI) : Option (Int × gI) :=
    i_o2 (f104 N z0 s) fun i2 s1 =>
    if i2 = 0 then
      ib1 (0 : Int) <|
      some ((0 : Int), s1)
    else
      ib1 (1 : Int) <|
      some ((1 : Int), s1)
noncomputable def f80_at64 (N : Nat) : Nat → Int → gI → Option (Int × gI)
  | 0, _, _ => none
  | n + 1, x2, s =>
    if (s.1 44 1) ≤ x2 then
      if (s.1 1 2) = 0 then
        ib1 (1 : Int) <|
        some ((1 : Int), s)
      else
        i_o2 (f101 N 1030 3 s) fun i2 s1 =>
        if i2 = 0 then
          f80_at127 N (1 : Int) s1
        else
          f80_at127 N (5 : Int) s1
    else
      i_o2 (f105 N 1030 3 s) fun i4 s3 =>
      if i4 = 0 then
        ib1 (0 : Int) <|
        some ((0 : Int), s3)
      else
        i_o2 (f81 N x2 s3) fun i6 s5 =>
        if i6 = 0 then
          ib1 (0 : Int) <|
          some ((0 : Int), s5)
        else
          i_o2 (f106 N s5) fun i8 s7 =>
          if i8 = 0 then
            ib1 (0 : Int) <|
            some ((0 : Int), s7)
          else
            iov (x2 + (1 : Int)) <|
            let i9 : Int := (x2 + (1 : Int))
            f80_at64 N n i9 s7
noncomputable def f80 (N : Nat) (s : gI) : Option (Int × gI) :=
    i_o1 (f96 N s) fun s1 =>
    i_o2 (f105 N 1028 4 s1) fun i3 s2 =>
    if i3 = 0 then
      ib1 (0 : Int) <|
      some ((0 : Int), s2)
    else
      i_o2 (f107 N (2 : Int) (8 : Int) s2) fun i5 s4 =>
      if i5 = 0 then
        ib1 (0 : Int) <|
        some ((0 : Int), s4)
      else
        let s6 : gI := (iw s4 44 0 (s4.1 1 6))
        i_o2 (f107 N (2 : Int) (8 : Int) s6) fun i8 s7 =>
        if i8 = 0 then
          ib1 (0 : Int) <|
          some ((0 : Int), s7)
        else
          let s9 : gI := (iw s7 44 1 (s7.1 1 6))
          i_o2 (f106 N s9) fun i11 s10 =>
          if i11 = 0 then
            ib1 (0 : Int) <|
            some ((0 : Int), s10)
          else
            f80_at64 N N (0 : Int) s10
/-! java/util/Arrays.fill -/
noncomputable def f321_at5 (N : Nat) (r0 : Nat) (zn : Int) : Nat → Int → Int → Int → gI → Option (gI)
  | 0, _, _, _, _ => none
  | n + 1, x1, x2, x3, s =>
    if x3 ≤ x2 then
      some s
    else
      ick x2 zn <|
      let s1 : gI := (iw s r0 x2 x1)
      iov (x2 + (1 : Int)) <|
      let i2 : Int := (x2 + (1 : Int))
      f321_at5 N r0 zn n x1 i2 x3 s1
noncomputable def f321 (N : Nat) (r0 : Nat) (zn : Int) (x1 : Int) (s : gI) : Option (gI) :=
    iov zn <|
    let i1 : Int := (zn : Int)
    f321_at5 N r0 zn N x1 (0 : Int) i1 s
/-! GutterNine$Scene.clear -/
noncomputable def f87 (N : Nat) (s : gI) : Option (gI) :=
    i_o1 (f321 N 7 8 (64 : Int) s) fun s1 =>
    i_o1 (f321 N 8 8 (-1 : Int) s1) fun s2 =>
    i_o1 (f321 N 9 64 (-1 : Int) s2) fun s3 =>
    i_o1 (f321 N 10 8 (-2 : Int) s3) fun s4 =>
    let s5 : gI := (iw s4 6 4 (0 : Int))
    let s6 : gI := (iw s5 6 5 (0 : Int))
    some s6
/-! GutterNine$Past.clear -/
noncomputable def f41 (N : Nat) (s : gI) : Option (gI) :=
    let s1 : gI := (iw s 41 2 (0 : Int))
    let s2 : gI := (iw s1 41 4 (0 : Int))
    some s2
/-! GutterNine.startAnew -/
noncomputable def f165 (N : Nat) (s : gI) : Option (gI) :=
    i_o1 (f87 N s) fun s1 =>
    i_o1 (f41 N s1) fun s2 =>
    some s2
/-! GutterNine.roof -/
noncomputable def f135 (N : Nat) (s : gI) : Option (Int × gI × (Nat → Nat → Nat)) :=
    i_o2 (f80 N s) fun i2 s1 =>
    let s3 : gI := (iw s1 1 1 (0 : Int))
    if i2 = 0 then
      some ((s3.1 1 7), s3, g_rho)
    else
      i_o1 (f165 N s3) fun s4 =>
      some ((0 : Int), s4, i_rhoR)
/-! GutterNine.isThing -/
noncomputable def f167 (N : Nat) (x1 : Int) (s : gI) : Option (Int × gI) :=
    if x1 < 0 then
      ib1 (0 : Int) <|
      some ((0 : Int), s)
    else
      if (s.1 15 3) ≤ x1 then
        ib1 (0 : Int) <|
        some ((0 : Int), s)
      else
        ib1 (1 : Int) <|
        some ((1 : Int), s)
/-! GutterNine.told -/
noncomputable def f171 (N : Nat) (x0 : Int) (s : gI) : Option (Int × gI) :=
    if x0 < (128 : Int) then
      some (x0, s)
    else
      some ((66 : Int), s)
/-! GutterNine.thing -/
noncomputable def f138 (N : Nat) (x1 : Int) (x2 : Int) (s : gI) : Option (Int × gI) :=
    i_o2 (f167 N x1 s) fun i2 s1 =>
    if i2 = 0 then
      some ((-1 : Int), s1)
    else
      if x2 = 0 then
        ick x1 8 <|
        some ((s1.1 18 x1), s1)
      else if x2 = 1 then
        ick x1 8 <|
        some ((s1.1 19 x1), s1)
      else if x2 = 2 then
        ick x1 8 <|
        some ((s1.1 20 x1), s1)
      else if x2 = 3 then
        ick x1 8 <|
        i_o2 (f171 N (s1.1 7 x1) s1) fun i4 s3 =>
        some (i4, s3)
      else if x2 = 4 then
        ick x1 8 <|
        some ((s1.1 8 x1), s1)
      else 
        some ((-1 : Int), s1)
/-! GutterNine$Roof.landing -/
noncomputable def f83 (N : Nat) (r3 : Nat) (x1 : Int) (x2 : Int) (s : gI) : Option (Int × gI) :=
    if x1 < 0 then
      some ((64 : Int), s)
    else
      if (s.1 12 0) ≤ x1 then
        some ((64 : Int), s)
      else
        if x2 < (s.1 12 1) then
          if 0 ≤ x2 then
            iov (x2 * (8 : Int)) <|
            iov ((x2 * (8 : Int)) + x1) <|
            let i1 : Int := ((x2 * (8 : Int)) + x1)
            ick i1 64 <|
            if (s.1 13 i1) = (8 : Int) then
              some ((64 : Int), s)
            else
              ick i1 64 <|
              if (s.1 13 i1) = (7 : Int) then
                ick i1 64 <|
                if 0 ≤ (s.1 r3 i1) then
                  some ((64 : Int), s)
                else
                  iov ((128 : Int) + i1) <|
                  some (((128 : Int) + i1), s)
              else
                some (i1, s)
          else
            some ((65 : Int), s)
        else
          some ((64 : Int), s)
/-! GutterNine$Scene.cellOf -/
noncomputable def f89 (N : Nat) (x0 : Int) (s : gI) : Option (Int × gI) :=
    if x0 < (128 : Int) then
      if (64 : Int) ≤ x0 then
        some ((-1 : Int), s)
      else
        some (x0, s)
    else
      iov (x0 - (128 : Int)) <|
      some ((x0 - (128 : Int)), s)
/-! GutterNine$Scene.put -/
noncomputable def f88_at22 (N : Nat) (x1 : Int) (x2 : Int) (s : gI) : Option (gI) :=
    ick x1 8 <|
    let s1 : gI := (iw s 7 x1 x2)
    i_o2 (f89 N x2 s1) fun i3 s2 =>
    if i3 = (-1 : Int) then
      some s2
    else
      ick i3 64 <|
      let s4 : gI := (iw s2 9 i3 x1)
      some s4
noncomputable def f88 (N : Nat) (x1 : Int) (x2 : Int) (s : gI) : Option (gI) :=
    ick x1 8 <|
    i_o2 (f89 N (s.1 7 x1) s) fun i2 s1 =>
    if i2 = (-1 : Int) then
      f88_at22 N x1 x2 s1
    else
      ick i2 64 <|
      let s3 : gI := (iw s1 9 i2 (-1 : Int))
      f88_at22 N x1 x2 s3
/-! GutterNine$Play.stepsOf -/
noncomputable def f53 (N : Nat) (x1 : Int) (s : gI) : Option (Int × gI) :=
    ick x1 8 <|
    let i1 : Int := (s.1 18 x1)
    if i1 = 0 then
      some ((64 : Int), s)
    else
      if i1 = (2 : Int) then
        some ((1 : Int), s)
      else
        some ((0 : Int), s)
/-! GutterNine$Roof.step -/
noncomputable def f82_at48 (N : Nat) (r3 : Nat) (x1 : Int) (x4 : Int) (x5 : Int) (s : gI) : Option (Int × gI) :=
    if 0 ≤ x5 then
      if x4 < 0 then
        some ((64 : Int), s)
      else
        if (s.1 12 0) ≤ x4 then
          some ((64 : Int), s)
        else
          if x5 < (s.1 12 1) then
            iov (x5 * (8 : Int)) <|
            iov ((x5 * (8 : Int)) + x4) <|
            let i1 : Int := ((x5 * (8 : Int)) + x4)
            ick i1 64 <|
            if (s.1 13 i1) = (7 : Int) then
              ick i1 64 <|
              if 0 ≤ (s.1 r3 i1) then
                some ((64 : Int), s)
              else
                iov ((128 : Int) + i1) <|
                some (((128 : Int) + i1), s)
            else
              ick i1 64 <|
              if (s.1 13 i1) = (8 : Int) then
                some (x1, s)
              else
                ick i1 64 <|
                if (s.1 r3 i1) < 0 then
                  some (i1, s)
                else
                  some (x1, s)
          else
            some ((64 : Int), s)
    else
      some ((65 : Int), s)
noncomputable def f82_at45 (N : Nat) (r3 : Nat) (x1 : Int) (x5 : Int) (z0 : Int) (z1 : Int) (s : gI) : Option (Int × gI) :=
    iov (z1 + z0) <|
    let i1 : Int := (z1 + z0)
    f82_at48 N r3 x1 i1 x5 s
noncomputable def f82 (N : Nat) (r3 : Nat) (x1 : Int) (x2 : Int) (s : gI) : Option (Int × gI) :=
    idv x1 (8 : Int) <|
    let i1 : Int := (x1 % (8 : Int))
    idv x1 (8 : Int) <|
    let i2 : Int := (x1 / (8 : Int))
    if x2 = 0 then
      iov (i2 + (1 : Int)) <|
      let i4 : Int := (i2 + (1 : Int))
      f82_at48 N r3 x1 i1 i4 s
    else
      if x2 = (1 : Int) then
        iov (i2 + (-1 : Int)) <|
        let i3 : Int := (i2 + (-1 : Int))
        f82_at48 N r3 x1 i1 i3 s
      else
        if x2 = (2 : Int) then
          f82_at45 N r3 x1 i2 (-1 : Int) i1 s
        else
          f82_at45 N r3 x1 i2 (1 : Int) i1 s
/-! GutterNine$Roof.rest -/
noncomputable def f84_at11 (N : Nat) (r3 : Nat) : Nat → Int → Int → Int → Int → gI → Option (Int × gI)
  | 0, _, _, _, _, _ => none
  | n + 1, x2, y4, x6, x7, s =>
    if x2 ≤ x7 then
      some (x6, s)
    else
      ick x6 64 <|
      iov ((s.1 13 x6) - (1 : Int)) <|
      let i1 : Int := ((s.1 13 x6) - (1 : Int))
      if i1 < 0 then
        some (x6, s)
      else
        if i1 ≤ (3 : Int) then
          i_o2 (f82 N r3 x6 i1 s) fun i3 s2 =>
          if i3 < (64 : Int) then
            if (i_cmp (j_and (j_ushr y4 i3) (1 : Int)) (0 : Int)) = 0 then
              let j4 : Int := (j_or y4 (j_shl (1 : Int) i3))
              iov (x7 + (1 : Int)) <|
              let i5 : Int := (x7 + (1 : Int))
              f84_at11 N r3 n x2 j4 i3 i5 s2
            else
              some (x6, s2)
          else
            some (i3, s2)
        else
          some (x6, s)
noncomputable def f84 (N : Nat) (r3 : Nat) (x1 : Int) (x2 : Int) (s : gI) : Option (Int × gI) :=
    let j1 : Int := (j_shl (1 : Int) x1)
    f84_at11 N r3 N x2 j1 x1 (0 : Int) s
/-! GutterNine$Play.pushed -/
noncomputable def f51_at5 (N : Nat) : Nat → Int → Int → Int → gI → Option (Int × gI)
  | 0, _, _, _, _ => none
  | n + 1, x2, x3, x4, s =>
    if x2 ≤ x4 then
      some (x3, s)
    else
      if (64 : Int) ≤ x3 then
        some (x3, s)
      else
        i_o2 (f82 N 9 x3 (0 : Int) s) fun i2 s1 =>
        if i2 = x3 then
          some (x3, s1)
        else
          iov (x4 + (1 : Int)) <|
          let i3 : Int := (x4 + (1 : Int))
          f51_at5 N n x2 i2 i3 s1
noncomputable def f51 (N : Nat) (x1 : Int) (x2 : Int) (s : gI) : Option (Int × gI) :=
    f51_at5 N N x2 x1 (0 : Int) s
/-! GutterNine$Play.moveOn -/
noncomputable def f52 (N : Nat) (x1 : Int) (x2 : Int) (s : gI) : Option (gI) :=
    i_o1 (f88 N x1 x2 s) fun s1 =>
    if (64 : Int) ≤ x2 then
      some s1
    else
      i_o2 (f53 N x1 s1) fun i3 s2 =>
      i_o2 (f84 N 9 x2 i3 s2) fun i5 s4 =>
      i_o1 (f88 N x1 i5 s4) fun s6 =>
      some s6
/-! GutterNine$Play.land -/
noncomputable def f49_at140 (N : Nat) (x1 : Int) (x4 : Int) (x5 : Int) (s : gI) : Option (Int × gI) :=
    i_o1 (f88 N x1 x4 s) fun s1 =>
    some (x5, s1)
noncomputable def f49_at110 (N : Nat) (x1 : Int) (x4 : Int) (x5 : Int) (s : gI) : Option (Int × gI) :=
    if (64 : Int) ≤ x4 then
      f49_at140 N x1 x4 x5 s
    else
      i_o2 (f53 N x1 s) fun i2 s1 =>
      i_o2 (f84 N 9 x4 i2 s1) fun i4 s3 =>
      f49_at140 N x1 i4 x5 s3
noncomputable def f49_at108 (N : Nat) (x1 : Int) (x5 : Int) (z0 : Int) (s : gI) : Option (Int × gI) :=
    f49_at110 N x1 z0 x5 s
noncomputable def f49_at88 (N : Nat) (x1 : Int) (x4 : Int) (x5 : Int) (s : gI) : Option (Int × gI) :=
    ick x4 64 <|
    if (s.1 9 x4) < 0 then
      f49_at108 N x1 x5 x4 s
    else
      f49_at108 N x1 x5 (64 : Int) s
noncomputable def f49_at68 (N : Nat) (x1 : Int) (x4 : Int) (x5 : Int) (z0 : Int) (z1 : Int) (s : gI) : Option (Int × gI) :=
    i_o2 (f51 N z1 z0 s) fun i2 s1 =>
    if i2 = x4 then
      f49_at88 N x1 x4 x5 s1
    else
      i_o1 (f52 N x5 i2 s1) fun s3 =>
      f49_at88 N x1 x4 x5 s3
noncomputable def f49_at39 (N : Nat) (x1 : Int) (x4 : Int) (z0 : Int) (s : gI) : Option (Int × gI) :=
    if z0 = (-1 : Int) then
      f49_at110 N x1 x4 z0 s
    else
      ick x1 8 <|
      if (s.1 18 x1) = (3 : Int) then
        f49_at68 N x1 x4 z0 (2 : Int) x4 s
      else
        f49_at68 N x1 x4 z0 (1 : Int) x4 s
noncomputable def f49 (N : Nat) (x1 : Int) (x2 : Int) (x3 : Int) (s : gI) : Option (Int × gI) :=
    i_o2 (f83 N 9 x2 x3 s) fun i2 s1 =>
    if (64 : Int) ≤ i2 then
      f49_at39 N x1 i2 (-1 : Int) s1
    else
      ick i2 64 <|
      f49_at39 N x1 i2 (s1.1 9 i2) s1
/-! GutterNine$Play.nearestPipe -/
noncomputable def f55_at43 (N : Nat) (r_at5 : Int → Int → Int → Int → gI → Option (Int × gI)) (x1 : Int) (x2 : Int) (x3 : Int) (x4 : Int) (z0 : Int) (s : gI) : Option (Int × gI) :=
    iov (x2 * (8 : Int)) <|
    iov ((x2 * (8 : Int)) + x4) <|
    ick ((x2 * (8 : Int)) + x4) 64 <|
    if (s.1 13 ((x2 * (8 : Int)) + x4)) = (7 : Int) then
      if z0 = 0 then
        iov (x4 + (1 : Int)) <|
        let i2 : Int := (x4 + (1 : Int))
        r_at5 x1 x2 x3 i2 s
      else
        iov (x4 + (1 : Int)) <|
        let i3 : Int := (x4 + (1 : Int))
        r_at5 x1 x2 x4 i3 s
    else
      iov (x4 + (1 : Int)) <|
      let i1 : Int := (x4 + (1 : Int))
      r_at5 x1 x2 x3 i1 s
noncomputable def f55_at38 (N : Nat) (r_at5 : Int → Int → Int → Int → gI → Option (Int × gI)) (x1 : Int) (x2 : Int) (x3 : Int) (x4 : Int) (s : gI) : Option (Int × gI) :=
    f55_at43 N r_at5 x1 x2 x3 x4 (1 : Int) s
noncomputable def f55_at5 (N : Nat) : Nat → Int → Int → Int → Int → gI → Option (Int × gI)
  | 0, _, _, _, _, _ => none
  | n + 1, x1, x2, x3, x4, s =>
    if (s.1 12 0) ≤ x4 then
      some (x3, s)
    else
      if x3 = (-1 : Int) then
        f55_at38 N (f55_at5 N n) x1 x2 x3 x4 s
      else
        iov (x4 - x1) <|
        iov (0 - (x4 - x1)) <|
        iov (x3 - x1) <|
        iov (0 - (x3 - x1)) <|
        if (if 0 ≤ (x3 - x1) then (x3 - x1) else 0 - (x3 - x1)) ≤ (if 0 ≤ (x4 - x1) then (x4 - x1) else 0 - (x4 - x1)) then
          f55_at43 N (f55_at5 N n) x1 x2 x3 x4 (0 : Int) s
        else
          f55_at38 N (f55_at5 N n) x1 x2 x3 x4 s
noncomputable def f55 (N : Nat) (x1 : Int) (x2 : Int) (s : gI) : Option (Int × gI) :=
    f55_at5 N N x1 x2 (-1 : Int) (0 : Int) s
/-! GutterNine$Play.wash -/
noncomputable def f56_at104 (N : Nat) (x1 : Int) (x3 : Int) (x5 : Int) (s : gI) : Option (Int × gI) :=
    i_o1 (f88 N x3 x5 s) fun s1 =>
    if x5 = x1 then
      ib1 (0 : Int) <|
      some ((0 : Int), s1)
    else
      ib1 (1 : Int) <|
      some ((1 : Int), s1)
noncomputable def f56_at94 (N : Nat) (r_at28 : Int → Int → Int → Int → Int → gI → Option (Int × gI)) (x1 : Int) (x3 : Int) (x4 : Int) (x6 : Int) (x7 : Int) (s : gI) : Option (Int × gI) :=
    iov (x6 + (1 : Int)) <|
    let i1 : Int := (x6 + (1 : Int))
    r_at28 x1 x3 x4 x7 i1 s
noncomputable def f56_at28 (N : Nat) : Nat → Int → Int → Int → Int → Int → gI → Option (Int × gI)
  | 0, _, _, _, _, _, _ => none
  | n + 1, x1, x3, x4, x5, x6, s =>
    if (8 : Int) ≤ x6 then
      f56_at104 N x1 x3 x5 s
    else
      if (64 : Int) ≤ x5 then
        f56_at104 N x1 x3 x5 s
      else
        i_o2 (f82 N 9 x5 x4 s) fun i2 s1 =>
        if i2 = x5 then
          f56_at104 N x1 x3 x5 s1
        else
          if (64 : Int) ≤ i2 then
            f56_at94 N (f56_at28 N n) x1 x3 x4 x6 i2 s1
          else
            ick i2 64 <|
            if (s1.1 13 i2) = (6 : Int) then
              f56_at94 N (f56_at28 N n) x1 x3 x4 x6 i2 s1
            else
              f56_at104 N x1 x3 x5 s1
noncomputable def f56_at20 (N : Nat) (x1 : Int) (x3 : Int) (z0 : Int) (s : gI) : Option (Int × gI) :=
    f56_at28 N N x1 x3 z0 x1 (0 : Int) s
noncomputable def f56 (N : Nat) (x1 : Int) (x2 : Int) (s : gI) : Option (Int × gI) :=
    ick x1 64 <|
    let i1 : Int := (s.1 9 x1)
    if x1 ≤ x2 then
      f56_at20 N x1 i1 (3 : Int) s
    else
      f56_at20 N x1 i1 (2 : Int) s
/-! GutterNine$Play.washRow -/
noncomputable def f54_at76 (N : Nat) (r_at13 : Int → Int → Int → Int → gI → Option (Int × gI)) (x1 : Int) (x2 : Int) (x3 : Int) (x4 : Int) (x5 : Int) (x6 : Int) (z0 : Int) (s : gI) : Option (Int × gI) :=
    if z0 = 0 then
      iov (x4 + (1 : Int)) <|
      let i1 : Int := (x4 + (1 : Int))
      r_at13 x1 x2 x3 i1 s
    else
      if x6 = (-1 : Int) then
        iov (x4 + (1 : Int)) <|
        let i2 : Int := (x4 + (1 : Int))
        r_at13 x1 x2 x3 i2 s
      else
        iov (x6 - x4) <|
        iov (0 - (x6 - x4)) <|
        if (if 0 ≤ (x6 - x4) then (x6 - x4) else 0 - (x6 - x4)) = x3 then
          iov (x1 * (8 : Int)) <|
          iov ((x1 * (8 : Int)) + x6) <|
          i_o2 (f56 N x5 ((x1 * (8 : Int)) + x6) s) fun i5 s4 =>
          if i5 = 0 then
            iov (x4 + (1 : Int)) <|
            let i6 : Int := (x4 + (1 : Int))
            r_at13 x1 x2 x3 i6 s4
          else
            iov (x2 + (1 : Int)) <|
            let i7 : Int := (x2 + (1 : Int))
            iov (x4 + (1 : Int)) <|
            let i8 : Int := (x4 + (1 : Int))
            r_at13 x1 i7 x3 i8 s4
        else
          iov (x4 + (1 : Int)) <|
          let i3 : Int := (x4 + (1 : Int))
          r_at13 x1 x2 x3 i3 s
noncomputable def f54_at75 (N : Nat) (r_at13 : Int → Int → Int → Int → gI → Option (Int × gI)) (x1 : Int) (x2 : Int) (x3 : Int) (x4 : Int) (x5 : Int) (x6 : Int) (s : gI) : Option (Int × gI) :=
    f54_at76 N r_at13 x1 x2 x3 x4 x5 x6 (0 : Int) s
noncomputable def f54_at13 (N : Nat) (r_at4 : Int → Int → Int → gI → Option (Int × gI)) : Nat → Int → Int → Int → Int → gI → Option (Int × gI)
  | 0, _, _, _, _, _ => none
  | n + 1, x1, x2, x3, x4, s =>
    if (s.1 12 0) ≤ x4 then
      iov (x3 + (1 : Int)) <|
      let i1 : Int := (x3 + (1 : Int))
      r_at4 x1 x2 i1 s
    else
      iov (x1 * (8 : Int)) <|
      iov ((x1 * (8 : Int)) + x4) <|
      let i2 : Int := ((x1 * (8 : Int)) + x4)
      i_o2 (f55 N x4 x1 s) fun i4 s3 =>
      ick i2 64 <|
      if (s3.1 9 i2) < 0 then
        f54_at75 N (f54_at13 N r_at4 n) x1 x2 x3 x4 i2 i4 s3
      else
        ick i2 64 <|
        if (s3.1 13 i2) = (6 : Int) then
          f54_at76 N (f54_at13 N r_at4 n) x1 x2 x3 x4 i2 i4 (1 : Int) s3
        else
          f54_at75 N (f54_at13 N r_at4 n) x1 x2 x3 x4 i2 i4 s3
noncomputable def f54_at4 (N : Nat) : Nat → Int → Int → Int → gI → Option (Int × gI)
  | 0, _, _, _, _ => none
  | n + 1, x1, x2, x3, s =>
    if (8 : Int) ≤ x3 then
      some (x2, s)
    else
      f54_at13 N (f54_at4 N n) N x1 x2 x3 (0 : Int) s
noncomputable def f54 (N : Nat) (x1 : Int) (s : gI) : Option (Int × gI) :=
    f54_at4 N N x1 (0 : Int) (1 : Int) s
/-! GutterNine$Law.bit -/
noncomputable def f27 (N : Nat) (x0 : Int) (s : gI) : Option (Int × gI) :=
    if x0 = 0 then
      some ((0 : Int), s)
    else
      some ((1 : Int), s)
/-! GutterNine$Law.join -/
noncomputable def f26_at65 (N : Nat) (s : gI) : Option (Int × gI) :=
    i_o2 (f27 N (1 : Int) s) fun i2 s1 =>
    some (i2, s1)
noncomputable def f26 (N : Nat) (x0 : Int) (x1 : Int) (x2 : Int) (s : gI) : Option (Int × gI) :=
    if x0 = 10004 then
      if x1 = 0 then
        i_o2 (f27 N (0 : Int) s) fun i2 s1 =>
        some (i2, s1)
      else
        if x2 = 0 then
          i_o2 (f27 N (0 : Int) s) fun i4 s3 =>
          some (i4, s3)
        else
          i_o2 (f27 N (1 : Int) s) fun i6 s5 =>
          some (i6, s5)
    else if x0 = 10005 then
      if x1 = 0 then
        if x2 = 0 then
          i_o2 (f27 N (0 : Int) s) fun i8 s7 =>
          some (i8, s7)
        else
          f26_at65 N s
      else
        f26_at65 N s
    else if x0 = 10006 then
      if x2 ≤ x1 then
        i_o2 (f27 N (0 : Int) s) fun i10 s9 =>
        some (i10, s9)
      else
        i_o2 (f27 N (1 : Int) s) fun i12 s11 =>
        some (i12, s11)
    else if x0 = 10007 then
      if x1 = x2 then
        i_o2 (f27 N (1 : Int) s) fun i16 s15 =>
        some (i16, s15)
      else
        i_o2 (f27 N (0 : Int) s) fun i14 s13 =>
        some (i14, s13)
    else if x0 = 10008 then
      some ((Int.bmod (x1 + x2) 4294967296), s)
    else if x0 = 10009 then
      some ((Int.bmod (x1 - x2) 4294967296), s)
    else 
      some ((Int.bmod (x1 * x2) 4294967296), s)
/-! GutterNine$Law.fact -/
noncomputable def f25 (N : Nat) (x0 : Int) (x1 : Int) (x2 : Int) (x3 : Int) (s : gI) : Option (Int × gI) :=
    if x0 = 10000 then
      some (x1, s)
    else if x0 = 10001 then
      some (x2, s)
    else if x0 = 10002 then
      some (x3, s)
    else 
      some (x0, s)
/-! GutterNine$Law.of -/
noncomputable def f24_at99 (N : Nat) (r0 : Nat) (r_at6 : Int → Int → Int → Int → Int → gI → Option (Int × gI)) (x1 : Int) (x2 : Int) (x3 : Int) (x4 : Int) (x5 : Int) (z0 : Int) (z1 : Int) (s : gI) : Option (Int × gI) :=
    i_o2 (f27 N z0 s) fun i2 s1 =>
    ick z1 64 <|
    let s3 : gI := (iw s1 (r0 + 2) z1 i2)
    iov (x5 + (1 : Int)) <|
    let i4 : Int := (x5 + (1 : Int))
    r_at6 x1 x2 x3 x4 i4 s3
noncomputable def f24_at6 (N : Nat) (r0 : Nat) : Nat → Int → Int → Int → Int → Int → gI → Option (Int × gI)
  | 0, _, _, _, _, _, _ => none
  | n + 1, x1, x2, x3, x4, x5, s =>
    if (s.1 r0 2) ≤ x5 then
      ick (0 : Int) 64 <|
      some ((s.1 (r0 + 2) (0 : Int)), s)
    else
      ick x5 1000 <|
      let i1 : Int := (s.1 (r0 + 1) x5)
      if (10003 : Int) ≤ i1 then
        if i1 = (10003 : Int) then
          if x4 < (1 : Int) then
            iov (x5 + (1 : Int)) <|
            let i8 : Int := (x5 + (1 : Int))
            f24_at6 N r0 n x1 x2 x3 x4 i8 s
          else
            iov (x4 - (1 : Int)) <|
            iov (x4 - (1 : Int)) <|
            ick (x4 - (1 : Int)) 64 <|
            if (s.1 (r0 + 2) (x4 - (1 : Int))) = 0 then
              f24_at99 N r0 (f24_at6 N r0 n) x1 x2 x3 x4 x5 (1 : Int) (x4 - (1 : Int)) s
            else
              f24_at99 N r0 (f24_at6 N r0 n) x1 x2 x3 x4 x5 (0 : Int) (x4 - (1 : Int)) s
        else
          if x4 < (2 : Int) then
            iov (x5 + (1 : Int)) <|
            let i2 : Int := (x5 + (1 : Int))
            f24_at6 N r0 n x1 x2 x3 x4 i2 s
          else
            iov (x4 + (-1 : Int)) <|
            let i3 : Int := (x4 + (-1 : Int))
            iov (i3 - (1 : Int)) <|
            iov (i3 - (1 : Int)) <|
            ick (i3 - (1 : Int)) 64 <|
            ick i3 64 <|
            i_o2 (f26 N i1 (s.1 (r0 + 2) (i3 - (1 : Int))) (s.1 (r0 + 2) i3) s) fun i5 s4 =>
            ick (i3 - (1 : Int)) 64 <|
            let s6 : gI := (iw s4 (r0 + 2) (i3 - (1 : Int)) i5)
            iov (x5 + (1 : Int)) <|
            let i7 : Int := (x5 + (1 : Int))
            f24_at6 N r0 n x1 x2 x3 i3 i7 s6
      else
        if (64 : Int) ≤ x4 then
          iov (x5 + (1 : Int)) <|
          let i9 : Int := (x5 + (1 : Int))
          f24_at6 N r0 n x1 x2 x3 x4 i9 s
        else
          i_o2 (f25 N i1 x1 x2 x3 s) fun i11 s10 =>
          ick x4 64 <|
          let s12 : gI := (iw s10 (r0 + 2) x4 i11)
          iov (x4 + (1 : Int)) <|
          let i13 : Int := (x4 + (1 : Int))
          iov (x5 + (1 : Int)) <|
          let i14 : Int := (x5 + (1 : Int))
          f24_at6 N r0 n x1 x2 x3 i13 i14 s12
noncomputable def f24 (N : Nat) (r0 : Nat) (x1 : Int) (x2 : Int) (x3 : Int) (s : gI) : Option (Int × gI) :=
    f24_at6 N r0 N x1 x2 x3 (0 : Int) (0 : Int) s

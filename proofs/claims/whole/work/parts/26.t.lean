def f89 (N : Nat) (x0 : Int32) (s : gS) : Option (Int32 × gS) :=
    if x0 < (128 : Int32) then
      if (64 : Int32) ≤ x0 then
        some ((-(1 : Int32)), s)
      else
        some (x0, s)
    else
      some ((x0 - (128 : Int32)), s)
def f88_6_at22 (N : Nat) (x1 : Int32) (x2 : Int32) (s : gS) : Option (gS) :=
    g_ck x1 8 <|
    let s1 : gS := (g_up s.1 7 x1.toNatClampNeg x2, s.2)
    g_o2 (f89 N x2 s1) fun i3 s2 =>
    if i3 = (-(1 : Int32)) then
      some s2
    else
      g_ck i3 64 <|
      let s4 : gS := (g_up s2.1 9 i3.toNatClampNeg x1, s2.2)
      some s4
def f88_6 (N : Nat) (x1 : Int32) (x2 : Int32) (s : gS) : Option (gS) :=
    g_ck x1 8 <|
    g_o2 (f89 N (s.1 7 x1.toNatClampNeg) s) fun i2 s1 =>
    if i2 = (-(1 : Int32)) then
      f88_6_at22 N x1 x2 s1
    else
      g_ck i2 64 <|
      let s3 : gS := (g_up s1.1 9 i2.toNatClampNeg (-(1 : Int32)), s1.2)
      f88_6_at22 N x1 x2 s3
def f82_12_9_at48 (N : Nat) (x1 : Int32) (x4 : Int32) (x5 : Int32) (s : gS) : Option (Int32 × gS) :=
    if 0 ≤ x5 then
      if x4 < 0 then
        some ((64 : Int32), s)
      else
        if (s.1 12 0) ≤ x4 then
          some ((64 : Int32), s)
        else
          if x5 < (s.1 12 1) then
            let i1 : Int32 := ((x5 * (8 : Int32)) + x4)
            g_ck i1 64 <|
            if (s.1 13 i1.toNatClampNeg) = (7 : Int32) then
              g_ck i1 64 <|
              if 0 ≤ (s.1 9 i1.toNatClampNeg) then
                some ((64 : Int32), s)
              else
                some (((128 : Int32) + i1), s)
            else
              g_ck i1 64 <|
              if (s.1 13 i1.toNatClampNeg) = (8 : Int32) then
                some (x1, s)
              else
                g_ck i1 64 <|
                if (s.1 9 i1.toNatClampNeg) < 0 then
                  some (i1, s)
                else
                  some (x1, s)
          else
            some ((64 : Int32), s)
    else
      some ((65 : Int32), s)
def f82_12_9_at45 (N : Nat) (x1 : Int32) (x5 : Int32) (z0 : Int32) (z1 : Int32) (s : gS) : Option (Int32 × gS) :=
    let i1 : Int32 := (z1 + z0)
    f82_12_9_at48 N x1 i1 x5 s
def f82_12_9 (N : Nat) (x1 : Int32) (x2 : Int32) (s : gS) : Option (Int32 × gS) :=
    if (8 : Int32) = 0 then none else
    let i1 : Int32 := (x1 - x1 / (8 : Int32) * (8 : Int32))
    if (8 : Int32) = 0 then none else
    let i2 : Int32 := (x1 / (8 : Int32))
    if x2 = 0 then
      let i4 : Int32 := (i2 + (1 : Int32))
      f82_12_9_at48 N x1 i1 i4 s
    else
      if x2 = (1 : Int32) then
        let i3 : Int32 := (i2 + (-(1 : Int32)))
        f82_12_9_at48 N x1 i1 i3 s
      else
        if x2 = (2 : Int32) then
          f82_12_9_at45 N x1 i2 (-(1 : Int32)) i1 s
        else
          f82_12_9_at45 N x1 i2 (1 : Int32) i1 s
def f84_12_9_at11 (N : Nat) : Nat → Int32 → Int64 → Int32 → Int32 → gS → Option (Int32 × gS)
  | 0, _, _, _, _, _ => none
  | n + 1, x2, y4, x6, x7, s =>
    if x2 ≤ x7 then
      some (x6, s)
    else
      g_ck x6 64 <|
      let i1 : Int32 := ((s.1 13 x6.toNatClampNeg) - (1 : Int32))
      if i1 < 0 then
        some (x6, s)
      else
        if i1 ≤ (3 : Int32) then
          g_o2 (f82_12_9 N x6 i1 s) fun i3 s2 =>
          if i3 < (64 : Int32) then
            if (lg_cmp ((y4.toUInt64 >>> (i3.toInt64.toUInt64 &&& Int64.toUInt64 63)).toInt64 &&& (1 : Int64)) (0 : Int64)) = 0 then
              let j4 : Int64 := (y4 ||| ((1 : Int64) <<< (i3.toInt64 &&& 63)))
              let i5 : Int32 := (x7 + (1 : Int32))
              f84_12_9_at11 N n x2 j4 i3 i5 s2
            else
              some (x6, s2)
          else
            some (i3, s2)
        else
          some (x6, s)
def f84_12_9 (N : Nat) (x1 : Int32) (x2 : Int32) (s : gS) : Option (Int32 × gS) :=
    let j1 : Int64 := ((1 : Int64) <<< (x1.toInt64 &&& 63))
    f84_12_9_at11 N N x2 j1 x1 (0 : Int32) s
theorem f89_ok (L N d : Nat) (x0 : Int32) (s : gS) {o : Int32 × gS} (h : f89 N x0 s = some o) : EE (d + 1) 89 [.int x0] (gm L s) (some (.int o.1), gm L o.2) := by
  refine EE.of (d := d + 0) (md := gm_89) rfl rfl (RR.of 400 ?_)
  refine RT.ite h (fun h => ?_) (fun h => ?_)
  · refine RT.ite h (fun h => ?_) (fun h => ?_)
    · cases h
      exact RT.ret
    · cases h
      exact RT.ret
  · cases h
    exact RT.ret
theorem f88_6_at22_ok (L N d : Nat) (x1 : Int32) (x2 : Int32) {u3 : Option Value} {u4 : Option Value} (s : gS) {o : gS} (h : f88_6_at22 N x1 x2 s = some o) : RR (d + 1) kj88 k88_22 [some (.ref 6), some (.int x1), some (.int x2), u3, u4] [] (gm L s) (none, gm L o) := by
  refine RR.of 400 ?_
  refine RT.chk h fun h => ?_
  obtain ⟨i3, s2, h1, h⟩ := g_o2_inv h
  refine RT.call (f89_ok L N d _ _ h1) ?_
  refine RT.ite h (fun h => ?_) (fun h => ?_)
  · cases h
    exact RT.ret
  · refine RT.chk h fun h => ?_
    cases h
    exact RT.ret
theorem f88_6_ok (L N d : Nat) (x1 : Int32) (x2 : Int32) (s : gS) {o : gS} (h : f88_6 N x1 x2 s = some o) : EE (d + 2) 88 [.ref 6, .int x1, .int x2] (gm L s) (none, gm L o) := by
  refine EE.of (d := d + 1) (md := gm_88) rfl rfl (RR.of 14 ?_)
  refine RT.chk h fun h => ?_
  obtain ⟨i2, s1, h1, h⟩ := g_o2_inv h
  refine RT.call (f89_ok L N d _ _ h1) ?_
  refine RT.ite h (fun h => ?_) (fun h => ?_)
  · exact RT.run (f88_6_at22_ok L N d _ _ _ h)
  · refine RT.chk h fun h => ?_
    exact RT.run (f88_6_at22_ok L N d _ _ _ h)
theorem f82_12_9_at48_ok (L N d : Nat) (x1 : Int32) (x4 : Int32) (x5 : Int32) {u2 : Option Value} {u6 : Option Value} (s : gS) {o : Int32 × gS} (h : f82_12_9_at48 N x1 x4 x5 s = some o) : RR (d + 0) kj82 k82_48 [some (.ref 12), some (.int x1), u2, some (.ref 9), some (.int x4), some (.int x5), u6] [] (gm L s) (some (.int o.1), gm L o.2) := by
  refine RR.of 400 ?_
  refine RT.ite h (fun h => ?_) (fun h => ?_)
  · refine RT.ite h (fun h => ?_) (fun h => ?_)
    · cases h
      exact RT.ret
    · refine RT.ite h (fun h => ?_) (fun h => ?_)
      · cases h
        exact RT.ret
      · refine RT.ite h (fun h => ?_) (fun h => ?_)
        · refine RT.chk h fun h => ?_
          refine RT.ite h (fun h => ?_) (fun h => ?_)
          · refine RT.chk h fun h => ?_
            refine RT.ite h (fun h => ?_) (fun h => ?_)
            · cases h
              exact RT.ret
            · cases h
              exact RT.ret
          · refine RT.chk h fun h => ?_
            refine RT.ite h (fun h => ?_) (fun h => ?_)
            · cases h
              exact RT.ret
            · refine RT.chk h fun h => ?_
              refine RT.ite h (fun h => ?_) (fun h => ?_)
              · cases h
                exact RT.ret
              · cases h
                exact RT.ret
        · cases h
          exact RT.ret
  · cases h
    exact RT.ret
theorem f82_12_9_at45_ok (L N d : Nat) (x1 : Int32) (x5 : Int32) (z0 : Int32) (z1 : Int32) {u2 : Option Value} {u4 : Option Value} {u6 : Option Value} (s : gS) {o : Int32 × gS} (h : f82_12_9_at45 N x1 x5 z0 z1 s = some o) : RR (d + 0) kj82 k82_45 [some (.ref 12), some (.int x1), u2, some (.ref 9), u4, some (.int x5), u6] [.int z0, .int z1] (gm L s) (some (.int o.1), gm L o.2) := by
  refine RR.of 2 ?_
  exact RT.run (f82_12_9_at48_ok L N d _ _ _ _ h)
theorem f82_12_9_ok (L N d : Nat) (x1 : Int32) (x2 : Int32) (s : gS) {o : Int32 × gS} (h : f82_12_9 N x1 x2 s = some o) : EE (d + 1) 82 [.ref 12, .int x1, .int x2, .ref 9] (gm L s) (some (.int o.1), gm L o.2) := by
  refine EE.of (d := d + 0) (md := gm_82) rfl rfl (RR.of 19 ?_)
  refine RT.nz h fun h => ?_
  refine RT.nz h fun h => ?_
  refine RT.ite h (fun h => ?_) (fun h => ?_)
  · exact RT.run (f82_12_9_at48_ok L N d _ _ _ _ h)
  · refine RT.ite h (fun h => ?_) (fun h => ?_)
    · exact RT.run (f82_12_9_at48_ok L N d _ _ _ _ h)
    · refine RT.ite h (fun h => ?_) (fun h => ?_)
      · exact RT.run (f82_12_9_at45_ok L N d _ _ _ _ _ h)
      · exact RT.run (f82_12_9_at45_ok L N d _ _ _ _ _ h)
theorem f84_12_9_at11_ok (L N d : Nat) : ∀ (n : Nat) (x2 : Int32) (y4 : Int64) (x6 : Int32) (x7 : Int32) {u1 u8 u9 : Option Value} (s : gS) (o : Int32 × gS), f84_12_9_at11 N n x2 y4 x6 x7 s = some o → RR (d + 1) kj84 k84_11 [some (.ref 12), u1, some (.int x2), some (.ref 9), some (.long y4), none, some (.int x6), some (.int x7), u8, u9] [] (gm L s) (some (.int o.1), gm L o.2) := by
  intro n
  induction n with
  | zero => intro _ _ _ _ _ _ _ _ _ h; cases h
  | succ n ih =>
    intro x2 y4 x6 x7 u1 u8 u9 s o h
    refine RR.of 400 ?_
    refine RT.ite h (fun h => ?_) (fun h => ?_)
    · cases h
      exact RT.ret
    · refine RT.chk h fun h => ?_
      refine RT.ite h (fun h => ?_) (fun h => ?_)
      · cases h
        exact RT.ret
      · refine RT.ite h (fun h => ?_) (fun h => ?_)
        · obtain ⟨i3, s2, h1, h⟩ := g_o2_inv h
          refine RT.call (f82_12_9_ok L N d _ _ _ h1) ?_
          refine RT.ite h (fun h => ?_) (fun h => ?_)
          · refine RT.ite h (fun h => ?_) (fun h => ?_)
            · exact RT.run (ih _ _ _ _ _ _ h)
            · cases h
              exact RT.ret
          · cases h
            exact RT.ret
        · cases h
          exact RT.ret
theorem f84_12_9_ok (L N d : Nat) (x1 : Int32) (x2 : Int32) (s : gS) {o : Int32 × gS} (h : f84_12_9 N x1 x2 s = some o) : EE (d + 2) 84 [.ref 12, .int x1, .int x2, .ref 9] (gm L s) (some (.int o.1), gm L o.2) := by
  refine EE.of (d := d + 1) (md := gm_84) rfl rfl (RR.of 8 ?_)
  exact RT.run (f84_12_9_at11_ok L N d N _ _ _ _ _ _ h)

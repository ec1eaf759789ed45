-- GutterNine$Tape.takeWord
set_option maxHeartbeats 100000 in
theorem f105_1_1062_ok (L N d : Nat) (s : gI) {o : Int × gI} (h : f105 N 1062 2  s = some o) : iEE L (d + 6) 105 [vR 1, vR 1062] (s, g_rho) (some (vI o.1), (o.2, g_rho)) := by
  refine iEE.of (wr := false) (d := d + 5) (md := gm_105) rfl rfl rfl (iRR.of 401 ?_)
  obtain ⟨i2, s1, h1, h⟩ := i_o2_inv h
  refine iRT.call (f101_1_1062_ok L N (d + 0)  _ h1) ?_
  refine iRT.ite h (fun h => ?_) (fun h => ?_)
  · obtain ⟨i5, s4, h1, h⟩ := i_o2_inv h
    refine iRT.call (f104_1_ok L N (d + 4) _ _ h1) ?_
    refine iRT.b1 h fun h => ?_
    cases h
    exact iRT.ret
  · obtain ⟨s3, h1, h⟩ := i_o1_inv h
    refine iRT.call (f97_1_ok L N (d + 0)  _ h1) ?_
    replace h := (ib1_inv h).2
    cases h
    exact iRT.ret
-- java/lang/String.coder
set_option maxHeartbeats 100000 in
theorem f304_1064_ok (L N d : Nat) (s : gI) {o : Int × gI} (h : f304 N 1064  s = some o) : iEE L (d + 1) 304 [vR 1064] (s, g_rho) (some (vI o.1), (o.2, g_rho)) := by
  refine iEE.of (wr := false) (d := d + 0) (md := gm_304) rfl rfl rfl (iRR.of 401 ?_)
  replace h := i_h0 (by decide) h
  refine iRT.b1 h fun h => ?_
  cases h
  exact iRT.ret
-- java/lang/String.length
set_option maxHeartbeats 100000 in
theorem f300_1064_ok (L N d : Nat) (s : gI) {o : Int × gI} (h : f300 N 1064 5  s = some o) : iEE L (d + 2) 300 [vR 1064] (s, g_rho) (some (vI o.1), (o.2, g_rho)) := by
  refine iEE.of (wr := false) (d := d + 1) (md := gm_300) rfl rfl rfl (iRR.of 401 ?_)
  replace h := (iov_inv h).2
  obtain ⟨i2, s1, h1, h⟩ := i_o2_inv h
  refine iRT.call (f304_1064_ok L N (d + 0)  _ h1) ?_
  cases h
  exact iRT.ret
-- java/lang/String.isLatin1
set_option maxHeartbeats 100000 in
theorem f305_1064_ok (L N d : Nat) (s : gI) {o : Int × gI} (h : f305 N 1064  s = some o) : iEE L (d + 1) 305 [vR 1064] (s, g_rho) (some (vI o.1), (o.2, g_rho)) := by
  refine iEE.of (wr := false) (d := d + 0) (md := gm_305) rfl rfl rfl (iRR.of 401 ?_)
  replace h := i_h0 (by decide) h
  refine iRT.ite h (fun h => ?_) (fun h => ?_)
  · replace h := (ib1_inv h).2
    cases h
    exact iRT.ret
  · replace h := (ib1_inv h).2
    cases h
    exact iRT.ret
-- java/lang/StringLatin1.charAt
set_option maxHeartbeats 100000 in
theorem f308_1065_ok (L N d : Nat) (x1 : Int) (s : gI) {o : Int × gI} (h : f308 N 1065 5 x1 s = some o) : iEE L (d + 3) 308 [vR 1065, vI x1] (s, g_rho) (some (vI o.1), (o.2, g_rho)) := by
  refine iEE.of (wr := false) (d := d + 2) (md := gm_308) rfl rfl rfl (iRR.of 401 ?_)
  replace h := (iov_inv h).2
  obtain ⟨s1, h1, h⟩ := i_o1_inv h
  refine iRT.call (f306_ok L N (d + 0) _ _ _ h1) ?_
  refine iRT.ck h fun h => ?_
  refine iRT.ch h fun h => ?_
  refine iRT.ch h fun h => ?_
  cases h
  exact iRT.ret
-- java/lang/String.charAt
set_option maxHeartbeats 100000 in
theorem f301_1064_ok (L N d : Nat) (x1 : Int) (s : gI) {o : Int × gI} (h : f301 N 1064 5 x1 s = some o) : iEE L (d + 4) 301 [vR 1064, vI x1] (s, g_rho) (some (vI o.1), (o.2, g_rho)) := by
  refine iEE.of (wr := false) (d := d + 3) (md := gm_301) rfl rfl rfl (iRR.of 401 ?_)
  obtain ⟨i2, s1, h1, h⟩ := i_o2_inv h
  refine iRT.call (f305_1064_ok L N (d + 2)  _ h1) ?_
  refine iRT.ite h (fun h => ?_) (fun h => ?_)
  · cases h
  · obtain ⟨i4, s3, h1, h⟩ := i_o2_inv h
    refine iRT.call (f308_1065_ok L N (d + 0) _ _ h1) ?_
    refine iRT.ch h fun h => ?_
    cases h
    exact iRT.ret
-- GutterNine$Tape.isWord
set_option maxHeartbeats 100000 in
theorem f101_1_1064_at31_ok (L N d : Nat) : ∀ (n : Nat) (x2 : Int) (s : gI) (o : Int × gI), f101_at31 N 1064 5 n x2 s = some o → iRR false L (d + 4) kj101 k101_31 [some (vR 1), some (vR 1064), some (vI x2)] [] (s, g_rho) (some (vI o.1), (o.2, g_rho)) := by
  intro n
  induction n with
  | zero => intro _ _ _ h; cases h
  | succ n ih =>
    intro x2 s o h
    refine iRR.of 401 ?_
    refine iRT.ite h (fun h => ?_) (fun h => ?_)
    · replace h := (ib1_inv h).2
      cases h
      exact iRT.ret
    · refine iRT.ck h fun h => ?_
      refine iRT.ov h fun h => ?_
      obtain ⟨i2, s1, h1, h⟩ := i_o2_inv h
      refine iRT.call (f301_1064_ok L N (d + 0) _ _ h1) ?_
      refine iRT.ite h (fun h => ?_) (fun h => ?_)
      · refine iRT.ov h fun h => ?_
        exact iRT.go 1 (ih _ _ _ h) (fun _ _ => rfl)
      · replace h := (ib1_inv h).2
        cases h
        exact iRT.ret
set_option maxHeartbeats 100000 in
theorem f101_1_1064_ok (L N d : Nat) (s : gI) {o : Int × gI} (h : f101 N 1064 5  s = some o) : iEE L (d + 5) 101 [vR 1, vR 1064] (s, g_rho) (some (vI o.1), (o.2, g_rho)) := by
  refine iEE.of (wr := false) (d := d + 4) (md := gm_101) rfl rfl rfl (iRR.of 401 ?_)
  refine iRT.ite h (fun h => ?_) (fun h => ?_)
  · refine iRT.ov h fun h => ?_
    obtain ⟨i2, s1, h1, h⟩ := i_o2_inv h
    refine iRT.call (f300_1064_ok L N (d + 2)  _ h1) ?_
    refine iRT.ite h (fun h => ?_) (fun h => ?_)
    · exact iRT.go 3 (f101_1_1064_at31_ok L N d N _ _ _ h) (fun _ _ => rfl)
    · replace h := (ib1_inv h).2
      cases h
      exact iRT.ret
  · replace h := (ib1_inv h).2
    cases h
    exact iRT.ret
-- GutterNine$Tape.takeWord
set_option maxHeartbeats 100000 in
theorem f105_1_1064_ok (L N d : Nat) (s : gI) {o : Int × gI} (h : f105 N 1064 5  s = some o) : iEE L (d + 6) 105 [vR 1, vR 1064] (s, g_rho) (some (vI o.1), (o.2, g_rho)) := by
  refine iEE.of (wr := false) (d := d + 5) (md := gm_105) rfl rfl rfl (iRR.of 401 ?_)
  obtain ⟨i2, s1, h1, h⟩ := i_o2_inv h
  refine iRT.call (f101_1_1064_ok L N (d + 0)  _ h1) ?_
  refine iRT.ite h (fun h => ?_) (fun h => ?_)
  · obtain ⟨i5, s4, h1, h⟩ := i_o2_inv h
    refine iRT.call (f104_1_ok L N (d + 4) _ _ h1) ?_
    refine iRT.b1 h fun h => ?_
    cases h
    exact iRT.ret
  · obtain ⟨s3, h1, h⟩ := i_o1_inv h
    refine iRT.call (f97_1_ok L N (d + 0)  _ h1) ?_
    replace h := (ib1_inv h).2
    cases h
    exact iRT.ret
-- java/lang/String.coder
set_option maxHeartbeats 100000 in
theorem f304_1060_ok (L N d : Nat) (s : gI) {o : Int × gI} (h : f304 N 1060  s = some o) : iEE L (d + 1) 304 [vR 1060] (s, g_rho) (some (vI o.1), (o.2, g_rho)) := by
  refine iEE.of (wr := false) (d := d + 0) (md := gm_304) rfl rfl rfl (iRR.of 401 ?_)
  replace h := i_h0 (by decide) h
  refine iRT.b1 h fun h => ?_
  cases h
  exact iRT.ret
-- java/lang/String.length
set_option maxHeartbeats 100000 in
theorem f300_1060_ok (L N d : Nat) (s : gI) {o : Int × gI} (h : f300 N 1060 5  s = some o) : iEE L (d + 2) 300 [vR 1060] (s, g_rho) (some (vI o.1), (o.2, g_rho)) := by
  refine iEE.of (wr := false) (d := d + 1) (md := gm_300) rfl rfl rfl (iRR.of 401 ?_)
  replace h := (iov_inv h).2
  obtain ⟨i2, s1, h1, h⟩ := i_o2_inv h
  refine iRT.call (f304_1060_ok L N (d + 0)  _ h1) ?_
  cases h
  exact iRT.ret
-- java/lang/String.isLatin1
set_option maxHeartbeats 100000 in
theorem f305_1060_ok (L N d : Nat) (s : gI) {o : Int × gI} (h : f305 N 1060  s = some o) : iEE L (d + 1) 305 [vR 1060] (s, g_rho) (some (vI o.1), (o.2, g_rho)) := by
  refine iEE.of (wr := false) (d := d + 0) (md := gm_305) rfl rfl rfl (iRR.of 401 ?_)
  replace h := i_h0 (by decide) h
  refine iRT.ite h (fun h => ?_) (fun h => ?_)
  · replace h := (ib1_inv h).2
    cases h
    exact iRT.ret
  · replace h := (ib1_inv h).2
    cases h
    exact iRT.ret
-- java/lang/StringLatin1.charAt
set_option maxHeartbeats 100000 in
theorem f308_1061_ok (L N d : Nat) (x1 : Int) (s : gI) {o : Int × gI} (h : f308 N 1061 5 x1 s = some o) : iEE L (d + 3) 308 [vR 1061, vI x1] (s, g_rho) (some (vI o.1), (o.2, g_rho)) := by
  refine iEE.of (wr := false) (d := d + 2) (md := gm_308) rfl rfl rfl (iRR.of 401 ?_)
  replace h := (iov_inv h).2
  obtain ⟨s1, h1, h⟩ := i_o1_inv h
  refine iRT.call (f306_ok L N (d + 0) _ _ _ h1) ?_
  refine iRT.ck h fun h => ?_
  refine iRT.ch h fun h => ?_
  refine iRT.ch h fun h => ?_
  cases h
  exact iRT.ret
-- java/lang/String.charAt
set_option maxHeartbeats 100000 in
theorem f301_1060_ok (L N d : Nat) (x1 : Int) (s : gI) {o : Int × gI} (h : f301 N 1060 5 x1 s = some o) : iEE L (d + 4) 301 [vR 1060, vI x1] (s, g_rho) (some (vI o.1), (o.2, g_rho)) := by
  refine iEE.of (wr := false) (d := d + 3) (md := gm_301) rfl rfl rfl (iRR.of 401 ?_)
  obtain ⟨i2, s1, h1, h⟩ := i_o2_inv h
  refine iRT.call (f305_1060_ok L N (d + 2)  _ h1) ?_
  refine iRT.ite h (fun h => ?_) (fun h => ?_)
  · cases h
  · obtain ⟨i4, s3, h1, h⟩ := i_o2_inv h
    refine iRT.call (f308_1061_ok L N (d + 0) _ _ h1) ?_
    refine iRT.ch h fun h => ?_
    cases h
    exact iRT.ret
-- GutterNine$Tape.isWord
set_option maxHeartbeats 100000 in
theorem f101_1_1060_at31_ok (L N d : Nat) : ∀ (n : Nat) (x2 : Int) (s : gI) (o : Int × gI), f101_at31 N 1060 5 n x2 s = some o → iRR false L (d + 4) kj101 k101_31 [some (vR 1), some (vR 1060), some (vI x2)] [] (s, g_rho) (some (vI o.1), (o.2, g_rho)) := by
  intro n
  induction n with
  | zero => intro _ _ _ h; cases h
  | succ n ih =>
    intro x2 s o h
    refine iRR.of 401 ?_
    refine iRT.ite h (fun h => ?_) (fun h => ?_)
    · replace h := (ib1_inv h).2
      cases h
      exact iRT.ret
    · refine iRT.ck h fun h => ?_
      refine iRT.ov h fun h => ?_
      obtain ⟨i2, s1, h1, h⟩ := i_o2_inv h
      refine iRT.call (f301_1060_ok L N (d + 0) _ _ h1) ?_
      refine iRT.ite h (fun h => ?_) (fun h => ?_)
      · refine iRT.ov h fun h => ?_
        exact iRT.go 1 (ih _ _ _ h) (fun _ _ => rfl)
      · replace h := (ib1_inv h).2
        cases h
        exact iRT.ret
set_option maxHeartbeats 100000 in
theorem f101_1_1060_ok (L N d : Nat) (s : gI) {o : Int × gI} (h : f101 N 1060 5  s = some o) : iEE L (d + 5) 101 [vR 1, vR 1060] (s, g_rho) (some (vI o.1), (o.2, g_rho)) := by
  refine iEE.of (wr := false) (d := d + 4) (md := gm_101) rfl rfl rfl (iRR.of 401 ?_)
  refine iRT.ite h (fun h => ?_) (fun h => ?_)
  · refine iRT.ov h fun h => ?_
    obtain ⟨i2, s1, h1, h⟩ := i_o2_inv h
    refine iRT.call (f300_1060_ok L N (d + 2)  _ h1) ?_
    refine iRT.ite h (fun h => ?_) (fun h => ?_)
    · exact iRT.go 3 (f101_1_1060_at31_ok L N d N _ _ _ h) (fun _ _ => rfl)
    · replace h := (ib1_inv h).2
      cases h
      exact iRT.ret
  · replace h := (ib1_inv h).2
    cases h
    exact iRT.ret
-- GutterNine$YardReader.takeShot
set_option maxHeartbeats 100000 in
theorem f125_3_47_at111_ok (L N d : Nat) (x2 : Int) (z0 : Int) (z1 : Int) {u3 : Option iV} (s : gI) {o : Int × gI} (h : f125_at111 N x2 z0 z1 s = some o) : iRR false L (d + 6) kj125 k125_111 [some (vR 3), some (vR 47), some (vI x2), u3] [vI z0, vI z1, vR 54] (s, g_rho) (some (vI o.1), (o.2, g_rho)) := by
  refine iRR.of 401 ?_
  refine iRT.ck h fun h => ?_
  obtain ⟨i3, s2, h1, h⟩ := i_o2_inv h
  refine iRT.call (f105_1_1062_ok L N (d + 0)  _ h1) ?_
  refine iRT.ite h (fun h => ?_) (fun h => ?_)
  · replace h := (ib1_inv h).2
    cases h
    exact iRT.ret
  · obtain ⟨i5, s4, h1, h⟩ := i_o2_inv h
    refine iRT.call (f107_1_ok L N (d + 0) _ _ _ h1) ?_
    refine iRT.ite h (fun h => ?_) (fun h => ?_)
    · replace h := (ib1_inv h).2
      cases h
      exact iRT.ret
    · refine iRT.ck h fun h => ?_
      obtain ⟨i8, s7, h1, h⟩ := i_o2_inv h
      refine iRT.call (f105_1_1064_ok L N (d + 0)  _ h1) ?_
      refine iRT.ite h (fun h => ?_) (fun h => ?_)
      · replace h := (ib1_inv h).2
        cases h
        exact iRT.ret
      · obtain ⟨i10, s9, h1, h⟩ := i_o2_inv h
        refine iRT.call (f107_1_ok L N (d + 0) _ _ _ h1) ?_
        refine iRT.ite h (fun h => ?_) (fun h => ?_)
        · replace h := (ib1_inv h).2
          cases h
          exact iRT.ret
        · refine iRT.ck h fun h => ?_
          refine iRT.ov h fun h => ?_
          replace h := (ib1_inv h).2
          cases h
          exact iRT.ret
set_option maxHeartbeats 100000 in
theorem f125_3_47_at62_ok (L N d : Nat) (x2 : Int) (x3 : Int) (s : gI) {o : Int × gI} (h : f125_at62 N x2 x3 s = some o) : iRR false L (d + 6) kj125 k125_62 [some (vR 3), some (vR 47), some (vI x2), some (vI x3)] [] (s, g_rho) (some (vI o.1), (o.2, g_rho)) := by
  refine iRR.of 401 ?_
  obtain ⟨s1, h1, h⟩ := i_o1_inv h
  refine iRT.call (f97_1_ok L N (d + 1)  _ h1) ?_
  obtain ⟨i3, s2, h1, h⟩ := i_o2_inv h
  refine iRT.call (f107_1_ok L N (d + 0) _ _ _ h1) ?_
  refine iRT.ite h (fun h => ?_) (fun h => ?_)
  · replace h := (ib1_inv h).2
    cases h
    exact iRT.ret
  · refine iRT.ite h (fun h => ?_) (fun h => ?_)
    · exact iRT.go 3 (f125_3_47_at111_ok L N d _ _ _ _ h) (fun _ _ => rfl)
    · refine iRT.ov h fun h => ?_
      exact iRT.go 1 (f125_3_47_at111_ok L N d _ _ _ _ h) (fun _ _ => rfl)
set_option maxHeartbeats 100000 in
theorem f125_3_47_ok (L N d : Nat) (s : gI) {o : Int × gI} (h : f125 N  s = some o) : iEE L (d + 7) 125 [vR 3, vR 47] (s, g_rho) (some (vI o.1), (o.2, g_rho)) := by
  refine iEE.of (wr := false) (d := d + 6) (md := gm_125) rfl rfl rfl (iRR.of 401 ?_)
  refine iRT.ite h (fun h => ?_) (fun h => ?_)
  · obtain ⟨s2, h1, h⟩ := i_o1_inv h
    refine iRT.call (f97_1_ok L N (d + 1)  _ h1) ?_
    obtain ⟨i4, s3, h1, h⟩ := i_o2_inv h
    refine iRT.call (f101_1_1058_ok L N (d + 1)  _ h1) ?_
    refine iRT.ite h (fun h => ?_) (fun h => ?_)
    · obtain ⟨i6, s5, h1, h⟩ := i_o2_inv h
      refine iRT.call (f101_1_1060_ok L N (d + 1)  _ h1) ?_
      refine iRT.ite h (fun h => ?_) (fun h => ?_)
      · obtain ⟨i8, s7, h1, h⟩ := i_o2_inv h
        refine iRT.call (f104_1_ok L N (d + 5) _ _ h1) ?_
        refine iRT.b1 h fun h => ?_
        cases h
        exact iRT.ret
      · exact iRT.go 0 (f125_3_47_at62_ok L N d _ _ _ h) (fun _ _ => rfl)
    · exact iRT.go 0 (f125_3_47_at62_ok L N d _ _ _ h) (fun _ _ => rfl)
  · obtain ⟨i10, s9, h1, h⟩ := i_o2_inv h
    refine iRT.call (f104_1_ok L N (d + 5) _ _ h1) ?_
    refine iRT.b1 h fun h => ?_
    cases h
    exact iRT.ret
-- GutterNine$Tape.packed
set_option maxHeartbeats 100000 in
theorem f102_1_at15_ok (L N d : Nat) : ∀ (n : Nat) (y1 : Int) (x3 : Int) (s : gI) (o : Int × gI), f102_at15 N n y1 x3 s = some o → iRR false L (d + 0) kj102 k102_15 [some (vR 1), some (vJ y1), none, some (vI x3)] [] (s, g_rho) (some (vJ o.1), (o.2, g_rho)) := by
  intro n
  induction n with
  | zero => intro _ _ _ _ h; cases h
  | succ n ih =>
    intro y1 x3 s o h
    refine iRR.of 401 ?_
    refine iRT.ite h (fun h => ?_) (fun h => ?_)
    · cases h
      exact iRT.ret
    · refine iRT.ck h fun h => ?_
      refine iRT.ov h fun h => ?_
      exact iRT.go 1 (ih _ _ _ _ h) (fun _ _ => rfl)
set_option maxHeartbeats 100000 in
theorem f102_1_ok (L N d : Nat) (s : gI) {o : Int × gI} (h : f102 N  s = some o) : iEE L (d + 1) 102 [vR 1] (s, g_rho) (some (vJ o.1), (o.2, g_rho)) := by
  refine iEE.of (wr := false) (d := d + 0) (md := gm_102) rfl rfl rfl (iRR.of 401 ?_)
  refine iRT.ite h (fun h => ?_) (fun h => ?_)
  · exact iRT.go 3 (f102_1_at15_ok L N d N _ _ _ _ h) (fun _ _ => rfl)
  · cases h
    exact iRT.ret
-- java/lang/String.coder
set_option maxHeartbeats 100000 in
theorem f304_1052_ok (L N d : Nat) (s : gI) {o : Int × gI} (h : f304 N 1052  s = some o) : iEE L (d + 1) 304 [vR 1052] (s, g_rho) (some (vI o.1), (o.2, g_rho)) := by
  refine iEE.of (wr := false) (d := d + 0) (md := gm_304) rfl rfl rfl (iRR.of 401 ?_)
  replace h := i_h0 (by decide) h
  refine iRT.b1 h fun h => ?_
  cases h
  exact iRT.ret
-- java/lang/String.length
set_option maxHeartbeats 100000 in
theorem f300_1052_ok (L N d : Nat) (s : gI) {o : Int × gI} (h : f300 N 1052 3  s = some o) : iEE L (d + 2) 300 [vR 1052] (s, g_rho) (some (vI o.1), (o.2, g_rho)) := by
  refine iEE.of (wr := false) (d := d + 1) (md := gm_300) rfl rfl rfl (iRR.of 401 ?_)
  replace h := (iov_inv h).2
  obtain ⟨i2, s1, h1, h⟩ := i_o2_inv h
  refine iRT.call (f304_1052_ok L N (d + 0)  _ h1) ?_
  cases h
  exact iRT.ret
-- java/lang/String.isLatin1
set_option maxHeartbeats 100000 in
theorem f305_1052_ok (L N d : Nat) (s : gI) {o : Int × gI} (h : f305 N 1052  s = some o) : iEE L (d + 1) 305 [vR 1052] (s, g_rho) (some (vI o.1), (o.2, g_rho)) := by
  refine iEE.of (wr := false) (d := d + 0) (md := gm_305) rfl rfl rfl (iRR.of 401 ?_)
  replace h := i_h0 (by decide) h
  refine iRT.ite h (fun h => ?_) (fun h => ?_)
  · replace h := (ib1_inv h).2
    cases h
    exact iRT.ret
  · replace h := (ib1_inv h).2
    cases h
    exact iRT.ret
-- java/lang/StringLatin1.charAt
set_option maxHeartbeats 100000 in
theorem f308_1053_ok (L N d : Nat) (x1 : Int) (s : gI) {o : Int × gI} (h : f308 N 1053 3 x1 s = some o) : iEE L (d + 3) 308 [vR 1053, vI x1] (s, g_rho) (some (vI o.1), (o.2, g_rho)) := by
  refine iEE.of (wr := false) (d := d + 2) (md := gm_308) rfl rfl rfl (iRR.of 401 ?_)
  replace h := (iov_inv h).2
  obtain ⟨s1, h1, h⟩ := i_o1_inv h
  refine iRT.call (f306_ok L N (d + 0) _ _ _ h1) ?_
  refine iRT.ck h fun h => ?_
  refine iRT.ch h fun h => ?_
  refine iRT.ch h fun h => ?_
  cases h
  exact iRT.ret
-- java/lang/String.charAt
set_option maxHeartbeats 100000 in
theorem f301_1052_ok (L N d : Nat) (x1 : Int) (s : gI) {o : Int × gI} (h : f301 N 1052 3 x1 s = some o) : iEE L (d + 4) 301 [vR 1052, vI x1] (s, g_rho) (some (vI o.1), (o.2, g_rho)) := by
  refine iEE.of (wr := false) (d := d + 3) (md := gm_301) rfl rfl rfl (iRR.of 401 ?_)
  obtain ⟨i2, s1, h1, h⟩ := i_o2_inv h
  refine iRT.call (f305_1052_ok L N (d + 2)  _ h1) ?_
  refine iRT.ite h (fun h => ?_) (fun h => ?_)
  · cases h
  · obtain ⟨i4, s3, h1, h⟩ := i_o2_inv h
    refine iRT.call (f308_1053_ok L N (d + 0) _ _ h1) ?_
    refine iRT.ch h fun h => ?_
    cases h
    exact iRT.ret
-- GutterNine$Tape.isWord
set_option maxHeartbeats 100000 in
theorem f101_1_1052_at31_ok (L N d : Nat) : ∀ (n : Nat) (x2 : Int) (s : gI) (o : Int × gI), f101_at31 N 1052 3 n x2 s = some o → iRR false L (d + 4) kj101 k101_31 [some (vR 1), some (vR 1052), some (vI x2)] [] (s, g_rho) (some (vI o.1), (o.2, g_rho)) := by
  intro n
  induction n with
  | zero => intro _ _ _ h; cases h
  | succ n ih =>
    intro x2 s o h
    refine iRR.of 401 ?_
    refine iRT.ite h (fun h => ?_) (fun h => ?_)
    · replace h := (ib1_inv h).2
      cases h
      exact iRT.ret
    · refine iRT.ck h fun h => ?_
      refine iRT.ov h fun h => ?_
      obtain ⟨i2, s1, h1, h⟩ := i_o2_inv h
      refine iRT.call (f301_1052_ok L N (d + 0) _ _ h1) ?_
      refine iRT.ite h (fun h => ?_) (fun h => ?_)
      · refine iRT.ov h fun h => ?_
        exact iRT.go 1 (ih _ _ _ h) (fun _ _ => rfl)
      · replace h := (ib1_inv h).2
        cases h
        exact iRT.ret
set_option maxHeartbeats 100000 in
theorem f101_1_1052_ok (L N d : Nat) (s : gI) {o : Int × gI} (h : f101 N 1052 3  s = some o) : iEE L (d + 5) 101 [vR 1, vR 1052] (s, g_rho) (some (vI o.1), (o.2, g_rho)) := by
  refine iEE.of (wr := false) (d := d + 4) (md := gm_101) rfl rfl rfl (iRR.of 401 ?_)
  refine iRT.ite h (fun h => ?_) (fun h => ?_)
  · refine iRT.ov h fun h => ?_
    obtain ⟨i2, s1, h1, h⟩ := i_o2_inv h
    refine iRT.call (f300_1052_ok L N (d + 2)  _ h1) ?_
    refine iRT.ite h (fun h => ?_) (fun h => ?_)
    · exact iRT.go 3 (f101_1_1052_at31_ok L N d N _ _ _ h) (fun _ _ => rfl)
    · replace h := (ib1_inv h).2
      cases h
      exact iRT.ret
  · replace h := (ib1_inv h).2
    cases h
    exact iRT.ret
-- java/lang/String.coder
set_option maxHeartbeats 100000 in
theorem f304_1076_ok (L N d : Nat) (s : gI) {o : Int × gI} (h : f304 N 1076  s = some o) : iEE L (d + 1) 304 [vR 1076] (s, g_rho) (some (vI o.1), (o.2, g_rho)) := by
  refine iEE.of (wr := false) (d := d + 0) (md := gm_304) rfl rfl rfl (iRR.of 401 ?_)
  replace h := i_h0 (by decide) h
  refine iRT.b1 h fun h => ?_
  cases h
  exact iRT.ret
-- java/lang/String.length
set_option maxHeartbeats 100000 in
theorem f300_1076_ok (L N d : Nat) (s : gI) {o : Int × gI} (h : f300 N 1076 3  s = some o) : iEE L (d + 2) 300 [vR 1076] (s, g_rho) (some (vI o.1), (o.2, g_rho)) := by
  refine iEE.of (wr := false) (d := d + 1) (md := gm_300) rfl rfl rfl (iRR.of 401 ?_)
  replace h := (iov_inv h).2
  obtain ⟨i2, s1, h1, h⟩ := i_o2_inv h
  refine iRT.call (f304_1076_ok L N (d + 0)  _ h1) ?_
  cases h
  exact iRT.ret
-- java/lang/String.isLatin1
set_option maxHeartbeats 100000 in
theorem f305_1076_ok (L N d : Nat) (s : gI) {o : Int × gI} (h : f305 N 1076  s = some o) : iEE L (d + 1) 305 [vR 1076] (s, g_rho) (some (vI o.1), (o.2, g_rho)) := by
  refine iEE.of (wr := false) (d := d + 0) (md := gm_305) rfl rfl rfl (iRR.of 401 ?_)
  replace h := i_h0 (by decide) h
  refine iRT.ite h (fun h => ?_) (fun h => ?_)
  · replace h := (ib1_inv h).2
    cases h
    exact iRT.ret
  · replace h := (ib1_inv h).2
    cases h
    exact iRT.ret
-- java/lang/StringLatin1.charAt
set_option maxHeartbeats 100000 in
theorem f308_1077_ok (L N d : Nat) (x1 : Int) (s : gI) {o : Int × gI} (h : f308 N 1077 3 x1 s = some o) : iEE L (d + 3) 308 [vR 1077, vI x1] (s, g_rho) (some (vI o.1), (o.2, g_rho)) := by
  refine iEE.of (wr := false) (d := d + 2) (md := gm_308) rfl rfl rfl (iRR.of 401 ?_)
  replace h := (iov_inv h).2
  obtain ⟨s1, h1, h⟩ := i_o1_inv h
  refine iRT.call (f306_ok L N (d + 0) _ _ _ h1) ?_
  refine iRT.ck h fun h => ?_
  refine iRT.ch h fun h => ?_
  refine iRT.ch h fun h => ?_
  cases h
  exact iRT.ret
-- java/lang/String.charAt
set_option maxHeartbeats 100000 in
theorem f301_1076_ok (L N d : Nat) (x1 : Int) (s : gI) {o : Int × gI} (h : f301 N 1076 3 x1 s = some o) : iEE L (d + 4) 301 [vR 1076, vI x1] (s, g_rho) (some (vI o.1), (o.2, g_rho)) := by
  refine iEE.of (wr := false) (d := d + 3) (md := gm_301) rfl rfl rfl (iRR.of 401 ?_)
  obtain ⟨i2, s1, h1, h⟩ := i_o2_inv h
  refine iRT.call (f305_1076_ok L N (d + 2)  _ h1) ?_
  refine iRT.ite h (fun h => ?_) (fun h => ?_)
  · cases h
  · obtain ⟨i4, s3, h1, h⟩ := i_o2_inv h
    refine iRT.call (f308_1077_ok L N (d + 0) _ _ h1) ?_
    refine iRT.ch h fun h => ?_
    cases h
    exact iRT.ret
-- GutterNine$Tape.isWord
set_option maxHeartbeats 100000 in
theorem f101_1_1076_at31_ok (L N d : Nat) : ∀ (n : Nat) (x2 : Int) (s : gI) (o : Int × gI), f101_at31 N 1076 3 n x2 s = some o → iRR false L (d + 4) kj101 k101_31 [some (vR 1), some (vR 1076), some (vI x2)] [] (s, g_rho) (some (vI o.1), (o.2, g_rho)) := by
  intro n
  induction n with
  | zero => intro _ _ _ h; cases h
  | succ n ih =>
    intro x2 s o h
    refine iRR.of 401 ?_
    refine iRT.ite h (fun h => ?_) (fun h => ?_)
    · replace h := (ib1_inv h).2
      cases h
      exact iRT.ret
    · refine iRT.ck h fun h => ?_
      refine iRT.ov h fun h => ?_
      obtain ⟨i2, s1, h1, h⟩ := i_o2_inv h
      refine iRT.call (f301_1076_ok L N (d + 0) _ _ h1) ?_
      refine iRT.ite h (fun h => ?_) (fun h => ?_)
      · refine iRT.ov h fun h => ?_
        exact iRT.go 1 (ih _ _ _ h) (fun _ _ => rfl)
      · replace h := (ib1_inv h).2
        cases h
        exact iRT.ret
set_option maxHeartbeats 100000 in
theorem f101_1_1076_ok (L N d : Nat) (s : gI) {o : Int × gI} (h : f101 N 1076 3  s = some o) : iEE L (d + 5) 101 [vR 1, vR 1076] (s, g_rho) (some (vI o.1), (o.2, g_rho)) := by
  refine iEE.of (wr := false) (d := d + 4) (md := gm_101) rfl rfl rfl (iRR.of 401 ?_)
  refine iRT.ite h (fun h => ?_) (fun h => ?_)
  · refine iRT.ov h fun h => ?_
    obtain ⟨i2, s1, h1, h⟩ := i_o2_inv h
    refine iRT.call (f300_1076_ok L N (d + 2)  _ h1) ?_
    refine iRT.ite h (fun h => ?_) (fun h => ?_)
    · exact iRT.go 3 (f101_1_1076_at31_ok L N d N _ _ _ h) (fun _ _ => rfl)
    · replace h := (ib1_inv h).2
      cases h
      exact iRT.ret
  · replace h := (ib1_inv h).2
    cases h
    exact iRT.ret
-- java/lang/String.coder
set_option maxHeartbeats 100000 in
theorem f304_1068_ok (L N d : Nat) (s : gI) {o : Int × gI} (h : f304 N 1068  s = some o) : iEE L (d + 1) 304 [vR 1068] (s, g_rho) (some (vI o.1), (o.2, g_rho)) := by
  refine iEE.of (wr := false) (d := d + 0) (md := gm_304) rfl rfl rfl (iRR.of 401 ?_)
  replace h := i_h0 (by decide) h
  refine iRT.b1 h fun h => ?_
  cases h
  exact iRT.ret
-- java/lang/String.length
set_option maxHeartbeats 100000 in
theorem f300_1068_ok (L N d : Nat) (s : gI) {o : Int × gI} (h : f300 N 1068 4  s = some o) : iEE L (d + 2) 300 [vR 1068] (s, g_rho) (some (vI o.1), (o.2, g_rho)) := by
  refine iEE.of (wr := false) (d := d + 1) (md := gm_300) rfl rfl rfl (iRR.of 401 ?_)
  replace h := (iov_inv h).2
  obtain ⟨i2, s1, h1, h⟩ := i_o2_inv h
  refine iRT.call (f304_1068_ok L N (d + 0)  _ h1) ?_
  cases h
  exact iRT.ret
-- java/lang/String.isLatin1
set_option maxHeartbeats 100000 in
theorem f305_1068_ok (L N d : Nat) (s : gI) {o : Int × gI} (h : f305 N 1068  s = some o) : iEE L (d + 1) 305 [vR 1068] (s, g_rho) (some (vI o.1), (o.2, g_rho)) := by
  refine iEE.of (wr := false) (d := d + 0) (md := gm_305) rfl rfl rfl (iRR.of 401 ?_)
  replace h := i_h0 (by decide) h
  refine iRT.ite h (fun h => ?_) (fun h => ?_)
  · replace h := (ib1_inv h).2
    cases h
    exact iRT.ret
  · replace h := (ib1_inv h).2
    cases h
    exact iRT.ret
-- java/lang/StringLatin1.charAt
set_option maxHeartbeats 100000 in
theorem f308_1069_ok (L N d : Nat) (x1 : Int) (s : gI) {o : Int × gI} (h : f308 N 1069 4 x1 s = some o) : iEE L (d + 3) 308 [vR 1069, vI x1] (s, g_rho) (some (vI o.1), (o.2, g_rho)) := by
  refine iEE.of (wr := false) (d := d + 2) (md := gm_308) rfl rfl rfl (iRR.of 401 ?_)
  replace h := (iov_inv h).2
  obtain ⟨s1, h1, h⟩ := i_o1_inv h
  refine iRT.call (f306_ok L N (d + 0) _ _ _ h1) ?_
  refine iRT.ck h fun h => ?_
  refine iRT.ch h fun h => ?_
  refine iRT.ch h fun h => ?_
  cases h
  exact iRT.ret
-- java/lang/String.charAt
set_option maxHeartbeats 100000 in
theorem f301_1068_ok (L N d : Nat) (x1 : Int) (s : gI) {o : Int × gI} (h : f301 N 1068 4 x1 s = some o) : iEE L (d + 4) 301 [vR 1068, vI x1] (s, g_rho) (some (vI o.1), (o.2, g_rho)) := by
  refine iEE.of (wr := false) (d := d + 3) (md := gm_301) rfl rfl rfl (iRR.of 401 ?_)
  obtain ⟨i2, s1, h1, h⟩ := i_o2_inv h
  refine iRT.call (f305_1068_ok L N (d + 2)  _ h1) ?_
  refine iRT.ite h (fun h => ?_) (fun h => ?_)
  · cases h
  · obtain ⟨i4, s3, h1, h⟩ := i_o2_inv h
    refine iRT.call (f308_1069_ok L N (d + 0) _ _ h1) ?_
    refine iRT.ch h fun h => ?_
    cases h
    exact iRT.ret
-- GutterNine$Tape.isWord
set_option maxHeartbeats 100000 in
theorem f101_1_1068_at31_ok (L N d : Nat) : ∀ (n : Nat) (x2 : Int) (s : gI) (o : Int × gI), f101_at31 N 1068 4 n x2 s = some o → iRR false L (d + 4) kj101 k101_31 [some (vR 1), some (vR 1068), some (vI x2)] [] (s, g_rho) (some (vI o.1), (o.2, g_rho)) := by
  intro n
  induction n with
  | zero => intro _ _ _ h; cases h
  | succ n ih =>
    intro x2 s o h
    refine iRR.of 401 ?_
    refine iRT.ite h (fun h => ?_) (fun h => ?_)
    · replace h := (ib1_inv h).2
      cases h
      exact iRT.ret
    · refine iRT.ck h fun h => ?_
      refine iRT.ov h fun h => ?_
      obtain ⟨i2, s1, h1, h⟩ := i_o2_inv h
      refine iRT.call (f301_1068_ok L N (d + 0) _ _ h1) ?_
      refine iRT.ite h (fun h => ?_) (fun h => ?_)
      · refine iRT.ov h fun h => ?_
        exact iRT.go 1 (ih _ _ _ h) (fun _ _ => rfl)
      · replace h := (ib1_inv h).2
        cases h
        exact iRT.ret
set_option maxHeartbeats 100000 in
theorem f101_1_1068_ok (L N d : Nat) (s : gI) {o : Int × gI} (h : f101 N 1068 4  s = some o) : iEE L (d + 5) 101 [vR 1, vR 1068] (s, g_rho) (some (vI o.1), (o.2, g_rho)) := by
  refine iEE.of (wr := false) (d := d + 4) (md := gm_101) rfl rfl rfl (iRR.of 401 ?_)
  refine iRT.ite h (fun h => ?_) (fun h => ?_)
  · refine iRT.ov h fun h => ?_
    obtain ⟨i2, s1, h1, h⟩ := i_o2_inv h
    refine iRT.call (f300_1068_ok L N (d + 2)  _ h1) ?_
    refine iRT.ite h (fun h => ?_) (fun h => ?_)
    · exact iRT.go 3 (f101_1_1068_at31_ok L N d N _ _ _ h) (fun _ _ => rfl)
    · replace h := (ib1_inv h).2
      cases h
      exact iRT.ret
  · replace h := (ib1_inv h).2
    cases h
    exact iRT.ret
-- java/lang/String.coder
set_option maxHeartbeats 100000 in
theorem f304_1070_ok (L N d : Nat) (s : gI) {o : Int × gI} (h : f304 N 1070  s = some o) : iEE L (d + 1) 304 [vR 1070] (s, g_rho) (some (vI o.1), (o.2, g_rho)) := by
  refine iEE.of (wr := false) (d := d + 0) (md := gm_304) rfl rfl rfl (iRR.of 401 ?_)
  replace h := i_h0 (by decide) h
  refine iRT.b1 h fun h => ?_
  cases h
  exact iRT.ret
-- java/lang/String.length
set_option maxHeartbeats 100000 in
theorem f300_1070_ok (L N d : Nat) (s : gI) {o : Int × gI} (h : f300 N 1070 4  s = some o) : iEE L (d + 2) 300 [vR 1070] (s, g_rho) (some (vI o.1), (o.2, g_rho)) := by
  refine iEE.of (wr := false) (d := d + 1) (md := gm_300) rfl rfl rfl (iRR.of 401 ?_)
  replace h := (iov_inv h).2
  obtain ⟨i2, s1, h1, h⟩ := i_o2_inv h
  refine iRT.call (f304_1070_ok L N (d + 0)  _ h1) ?_
  cases h
  exact iRT.ret
-- java/lang/String.isLatin1
set_option maxHeartbeats 100000 in
theorem f305_1070_ok (L N d : Nat) (s : gI) {o : Int × gI} (h : f305 N 1070  s = some o) : iEE L (d + 1) 305 [vR 1070] (s, g_rho) (some (vI o.1), (o.2, g_rho)) := by
  refine iEE.of (wr := false) (d := d + 0) (md := gm_305) rfl rfl rfl (iRR.of 401 ?_)
  replace h := i_h0 (by decide) h
  refine iRT.ite h (fun h => ?_) (fun h => ?_)
  · replace h := (ib1_inv h).2
    cases h
    exact iRT.ret
  · replace h := (ib1_inv h).2
    cases h
    exact iRT.ret
-- java/lang/StringLatin1.charAt
set_option maxHeartbeats 100000 in
theorem f308_1071_ok (L N d : Nat) (x1 : Int) (s : gI) {o : Int × gI} (h : f308 N 1071 4 x1 s = some o) : iEE L (d + 3) 308 [vR 1071, vI x1] (s, g_rho) (some (vI o.1), (o.2, g_rho)) := by
  refine iEE.of (wr := false) (d := d + 2) (md := gm_308) rfl rfl rfl (iRR.of 401 ?_)
  replace h := (iov_inv h).2
  obtain ⟨s1, h1, h⟩ := i_o1_inv h
  refine iRT.call (f306_ok L N (d + 0) _ _ _ h1) ?_
  refine iRT.ck h fun h => ?_
  refine iRT.ch h fun h => ?_
  refine iRT.ch h fun h => ?_
  cases h
  exact iRT.ret
-- java/lang/String.charAt
set_option maxHeartbeats 100000 in
theorem f301_1070_ok (L N d : Nat) (x1 : Int) (s : gI) {o : Int × gI} (h : f301 N 1070 4 x1 s = some o) : iEE L (d + 4) 301 [vR 1070, vI x1] (s, g_rho) (some (vI o.1), (o.2, g_rho)) := by
  refine iEE.of (wr := false) (d := d + 3) (md := gm_301) rfl rfl rfl (iRR.of 401 ?_)
  obtain ⟨i2, s1, h1, h⟩ := i_o2_inv h
  refine iRT.call (f305_1070_ok L N (d + 2)  _ h1) ?_
  refine iRT.ite h (fun h => ?_) (fun h => ?_)
  · cases h
  · obtain ⟨i4, s3, h1, h⟩ := i_o2_inv h
    refine iRT.call (f308_1071_ok L N (d + 0) _ _ h1) ?_
    refine iRT.ch h fun h => ?_
    cases h
    exact iRT.ret
-- GutterNine$Tape.isWord
set_option maxHeartbeats 100000 in
theorem f101_1_1070_at31_ok (L N d : Nat) : ∀ (n : Nat) (x2 : Int) (s : gI) (o : Int × gI), f101_at31 N 1070 4 n x2 s = some o → iRR false L (d + 4) kj101 k101_31 [some (vR 1), some (vR 1070), some (vI x2)] [] (s, g_rho) (some (vI o.1), (o.2, g_rho)) := by
  intro n
  induction n with
  | zero => intro _ _ _ h; cases h
  | succ n ih =>
    intro x2 s o h
    refine iRR.of 401 ?_
    refine iRT.ite h (fun h => ?_) (fun h => ?_)
    · replace h := (ib1_inv h).2
      cases h
      exact iRT.ret
    · refine iRT.ck h fun h => ?_
      refine iRT.ov h fun h => ?_
      obtain ⟨i2, s1, h1, h⟩ := i_o2_inv h
      refine iRT.call (f301_1070_ok L N (d + 0) _ _ h1) ?_
      refine iRT.ite h (fun h => ?_) (fun h => ?_)
      · refine iRT.ov h fun h => ?_
        exact iRT.go 1 (ih _ _ _ h) (fun _ _ => rfl)
      · replace h := (ib1_inv h).2
        cases h
        exact iRT.ret
set_option maxHeartbeats 100000 in
theorem f101_1_1070_ok (L N d : Nat) (s : gI) {o : Int × gI} (h : f101 N 1070 4  s = some o) : iEE L (d + 5) 101 [vR 1, vR 1070] (s, g_rho) (some (vI o.1), (o.2, g_rho)) := by
  refine iEE.of (wr := false) (d := d + 4) (md := gm_101) rfl rfl rfl (iRR.of 401 ?_)
  refine iRT.ite h (fun h => ?_) (fun h => ?_)
  · refine iRT.ov h fun h => ?_
    obtain ⟨i2, s1, h1, h⟩ := i_o2_inv h
    refine iRT.call (f300_1070_ok L N (d + 2)  _ h1) ?_
    refine iRT.ite h (fun h => ?_) (fun h => ?_)
    · exact iRT.go 3 (f101_1_1070_at31_ok L N d N _ _ _ h) (fun _ _ => rfl)
    · replace h := (ib1_inv h).2
      cases h
      exact iRT.ret
  · replace h := (ib1_inv h).2
    cases h
    exact iRT.ret
-- java/lang/String.coder
set_option maxHeartbeats 100000 in
theorem f304_1072_ok (L N d : Nat) (s : gI) {o : Int × gI} (h : f304 N 1072  s = some o) : iEE L (d + 1) 304 [vR 1072] (s, g_rho) (some (vI o.1), (o.2, g_rho)) := by
  refine iEE.of (wr := false) (d := d + 0) (md := gm_304) rfl rfl rfl (iRR.of 401 ?_)
  replace h := i_h0 (by decide) h
  refine iRT.b1 h fun h => ?_
  cases h
  exact iRT.ret
-- java/lang/String.length
set_option maxHeartbeats 100000 in
theorem f300_1072_ok (L N d : Nat) (s : gI) {o : Int × gI} (h : f300 N 1072 7  s = some o) : iEE L (d + 2) 300 [vR 1072] (s, g_rho) (some (vI o.1), (o.2, g_rho)) := by
  refine iEE.of (wr := false) (d := d + 1) (md := gm_300) rfl rfl rfl (iRR.of 401 ?_)
  replace h := (iov_inv h).2
  obtain ⟨i2, s1, h1, h⟩ := i_o2_inv h
  refine iRT.call (f304_1072_ok L N (d + 0)  _ h1) ?_
  cases h
  exact iRT.ret
-- java/lang/String.isLatin1
set_option maxHeartbeats 100000 in
theorem f305_1072_ok (L N d : Nat) (s : gI) {o : Int × gI} (h : f305 N 1072  s = some o) : iEE L (d + 1) 305 [vR 1072] (s, g_rho) (some (vI o.1), (o.2, g_rho)) := by
  refine iEE.of (wr := false) (d := d + 0) (md := gm_305) rfl rfl rfl (iRR.of 401 ?_)
  replace h := i_h0 (by decide) h
  refine iRT.ite h (fun h => ?_) (fun h => ?_)
  · replace h := (ib1_inv h).2
    cases h
    exact iRT.ret
  · replace h := (ib1_inv h).2
    cases h
    exact iRT.ret
-- java/lang/StringLatin1.charAt
set_option maxHeartbeats 100000 in
theorem f308_1073_ok (L N d : Nat) (x1 : Int) (s : gI) {o : Int × gI} (h : f308 N 1073 7 x1 s = some o) : iEE L (d + 3) 308 [vR 1073, vI x1] (s, g_rho) (some (vI o.1), (o.2, g_rho)) := by
  refine iEE.of (wr := false) (d := d + 2) (md := gm_308) rfl rfl rfl (iRR.of 401 ?_)
  replace h := (iov_inv h).2
  obtain ⟨s1, h1, h⟩ := i_o1_inv h
  refine iRT.call (f306_ok L N (d + 0) _ _ _ h1) ?_
  refine iRT.ck h fun h => ?_
  refine iRT.ch h fun h => ?_
  refine iRT.ch h fun h => ?_
  cases h
  exact iRT.ret
-- java/lang/String.charAt
set_option maxHeartbeats 100000 in
theorem f301_1072_ok (L N d : Nat) (x1 : Int) (s : gI) {o : Int × gI} (h : f301 N 1072 7 x1 s = some o) : iEE L (d + 4) 301 [vR 1072, vI x1] (s, g_rho) (some (vI o.1), (o.2, g_rho)) := by
  refine iEE.of (wr := false) (d := d + 3) (md := gm_301) rfl rfl rfl (iRR.of 401 ?_)
  obtain ⟨i2, s1, h1, h⟩ := i_o2_inv h
  refine iRT.call (f305_1072_ok L N (d + 2)  _ h1) ?_
  refine iRT.ite h (fun h => ?_) (fun h => ?_)
  · cases h
  · obtain ⟨i4, s3, h1, h⟩ := i_o2_inv h
    refine iRT.call (f308_1073_ok L N (d + 0) _ _ h1) ?_
    refine iRT.ch h fun h => ?_
    cases h
    exact iRT.ret
-- GutterNine$Tape.isWord
set_option maxHeartbeats 100000 in
theorem f101_1_1072_at31_ok (L N d : Nat) : ∀ (n : Nat) (x2 : Int) (s : gI) (o : Int × gI), f101_at31 N 1072 7 n x2 s = some o → iRR false L (d + 4) kj101 k101_31 [some (vR 1), some (vR 1072), some (vI x2)] [] (s, g_rho) (some (vI o.1), (o.2, g_rho)) := by
  intro n
  induction n with
  | zero => intro _ _ _ h; cases h
  | succ n ih =>
    intro x2 s o h
    refine iRR.of 401 ?_
    refine iRT.ite h (fun h => ?_) (fun h => ?_)
    · replace h := (ib1_inv h).2
      cases h
      exact iRT.ret
    · refine iRT.ck h fun h => ?_
      refine iRT.ov h fun h => ?_
      obtain ⟨i2, s1, h1, h⟩ := i_o2_inv h
      refine iRT.call (f301_1072_ok L N (d + 0) _ _ h1) ?_
      refine iRT.ite h (fun h => ?_) (fun h => ?_)
      · refine iRT.ov h fun h => ?_
        exact iRT.go 1 (ih _ _ _ h) (fun _ _ => rfl)
      · replace h := (ib1_inv h).2
        cases h
        exact iRT.ret
set_option maxHeartbeats 100000 in
theorem f101_1_1072_ok (L N d : Nat) (s : gI) {o : Int × gI} (h : f101 N 1072 7  s = some o) : iEE L (d + 5) 101 [vR 1, vR 1072] (s, g_rho) (some (vI o.1), (o.2, g_rho)) := by
  refine iEE.of (wr := false) (d := d + 4) (md := gm_101) rfl rfl rfl (iRR.of 401 ?_)
  refine iRT.ite h (fun h => ?_) (fun h => ?_)
  · refine iRT.ov h fun h => ?_
    obtain ⟨i2, s1, h1, h⟩ := i_o2_inv h
    refine iRT.call (f300_1072_ok L N (d + 2)  _ h1) ?_
    refine iRT.ite h (fun h => ?_) (fun h => ?_)
    · exact iRT.go 3 (f101_1_1072_at31_ok L N d N _ _ _ h) (fun _ _ => rfl)
    · replace h := (ib1_inv h).2
      cases h
      exact iRT.ret
  · replace h := (ib1_inv h).2
    cases h
    exact iRT.ret
-- java/lang/String.coder
set_option maxHeartbeats 100000 in
theorem f304_1074_ok (L N d : Nat) (s : gI) {o : Int × gI} (h : f304 N 1074  s = some o) : iEE L (d + 1) 304 [vR 1074] (s, g_rho) (some (vI o.1), (o.2, g_rho)) := by
  refine iEE.of (wr := false) (d := d + 0) (md := gm_304) rfl rfl rfl (iRR.of 401 ?_)
  replace h := i_h0 (by decide) h
  refine iRT.b1 h fun h => ?_
  cases h
  exact iRT.ret
-- java/lang/String.length
set_option maxHeartbeats 100000 in
theorem f300_1074_ok (L N d : Nat) (s : gI) {o : Int × gI} (h : f300 N 1074 5  s = some o) : iEE L (d + 2) 300 [vR 1074] (s, g_rho) (some (vI o.1), (o.2, g_rho)) := by
  refine iEE.of (wr := false) (d := d + 1) (md := gm_300) rfl rfl rfl (iRR.of 401 ?_)
  replace h := (iov_inv h).2
  obtain ⟨i2, s1, h1, h⟩ := i_o2_inv h
  refine iRT.call (f304_1074_ok L N (d + 0)  _ h1) ?_
  cases h
  exact iRT.ret
-- java/lang/String.isLatin1
set_option maxHeartbeats 100000 in
theorem f305_1074_ok (L N d : Nat) (s : gI) {o : Int × gI} (h : f305 N 1074  s = some o) : iEE L (d + 1) 305 [vR 1074] (s, g_rho) (some (vI o.1), (o.2, g_rho)) := by
  refine iEE.of (wr := false) (d := d + 0) (md := gm_305) rfl rfl rfl (iRR.of 401 ?_)
  replace h := i_h0 (by decide) h
  refine iRT.ite h (fun h => ?_) (fun h => ?_)
  · replace h := (ib1_inv h).2
    cases h
    exact iRT.ret
  · replace h := (ib1_inv h).2
    cases h
    exact iRT.ret
-- java/lang/StringLatin1.charAt
set_option maxHeartbeats 100000 in
theorem f308_1075_ok (L N d : Nat) (x1 : Int) (s : gI) {o : Int × gI} (h : f308 N 1075 5 x1 s = some o) : iEE L (d + 3) 308 [vR 1075, vI x1] (s, g_rho) (some (vI o.1), (o.2, g_rho)) := by
  refine iEE.of (wr := false) (d := d + 2) (md := gm_308) rfl rfl rfl (iRR.of 401 ?_)
  replace h := (iov_inv h).2
  obtain ⟨s1, h1, h⟩ := i_o1_inv h
  refine iRT.call (f306_ok L N (d + 0) _ _ _ h1) ?_
  refine iRT.ck h fun h => ?_
  refine iRT.ch h fun h => ?_
  refine iRT.ch h fun h => ?_
  cases h
  exact iRT.ret
-- java/lang/String.charAt
set_option maxHeartbeats 100000 in
theorem f301_1074_ok (L N d : Nat) (x1 : Int) (s : gI) {o : Int × gI} (h : f301 N 1074 5 x1 s = some o) : iEE L (d + 4) 301 [vR 1074, vI x1] (s, g_rho) (some (vI o.1), (o.2, g_rho)) := by
  refine iEE.of (wr := false) (d := d + 3) (md := gm_301) rfl rfl rfl (iRR.of 401 ?_)
  obtain ⟨i2, s1, h1, h⟩ := i_o2_inv h
  refine iRT.call (f305_1074_ok L N (d + 2)  _ h1) ?_
  refine iRT.ite h (fun h => ?_) (fun h => ?_)
  · cases h
  · obtain ⟨i4, s3, h1, h⟩ := i_o2_inv h
    refine iRT.call (f308_1075_ok L N (d + 0) _ _ h1) ?_
    refine iRT.ch h fun h => ?_
    cases h
    exact iRT.ret
-- GutterNine$Tape.isWord
set_option maxHeartbeats 100000 in
theorem f101_1_1074_at31_ok (L N d : Nat) : ∀ (n : Nat) (x2 : Int) (s : gI) (o : Int × gI), f101_at31 N 1074 5 n x2 s = some o → iRR false L (d + 4) kj101 k101_31 [some (vR 1), some (vR 1074), some (vI x2)] [] (s, g_rho) (some (vI o.1), (o.2, g_rho)) := by
  intro n
  induction n with
  | zero => intro _ _ _ h; cases h
  | succ n ih =>
    intro x2 s o h
    refine iRR.of 401 ?_
    refine iRT.ite h (fun h => ?_) (fun h => ?_)
    · replace h := (ib1_inv h).2
      cases h
      exact iRT.ret
    · refine iRT.ck h fun h => ?_
      refine iRT.ov h fun h => ?_
      obtain ⟨i2, s1, h1, h⟩ := i_o2_inv h
      refine iRT.call (f301_1074_ok L N (d + 0) _ _ h1) ?_
      refine iRT.ite h (fun h => ?_) (fun h => ?_)
      · refine iRT.ov h fun h => ?_
        exact iRT.go 1 (ih _ _ _ h) (fun _ _ => rfl)
      · replace h := (ib1_inv h).2
        cases h
        exact iRT.ret
set_option maxHeartbeats 100000 in
theorem f101_1_1074_ok (L N d : Nat) (s : gI) {o : Int × gI} (h : f101 N 1074 5  s = some o) : iEE L (d + 5) 101 [vR 1, vR 1074] (s, g_rho) (some (vI o.1), (o.2, g_rho)) := by
  refine iEE.of (wr := false) (d := d + 4) (md := gm_101) rfl rfl rfl (iRR.of 401 ?_)
  refine iRT.ite h (fun h => ?_) (fun h => ?_)
  · refine iRT.ov h fun h => ?_
    obtain ⟨i2, s1, h1, h⟩ := i_o2_inv h
    refine iRT.call (f300_1074_ok L N (d + 2)  _ h1) ?_
    refine iRT.ite h (fun h => ?_) (fun h => ?_)
    · exact iRT.go 3 (f101_1_1074_at31_ok L N d N _ _ _ h) (fun _ _ => rfl)
    · replace h := (ib1_inv h).2
      cases h
      exact iRT.ret
  · replace h := (ib1_inv h).2
    cases h
    exact iRT.ret
-- java/lang/String.coder
set_option maxHeartbeats 100000 in
theorem f304_1078_ok (L N d : Nat) (s : gI) {o : Int × gI} (h : f304 N 1078  s = some o) : iEE L (d + 1) 304 [vR 1078] (s, g_rho) (some (vI o.1), (o.2, g_rho)) := by
  refine iEE.of (wr := false) (d := d + 0) (md := gm_304) rfl rfl rfl (iRR.of 401 ?_)
  replace h := i_h0 (by decide) h
  refine iRT.b1 h fun h => ?_
  cases h
  exact iRT.ret
-- java/lang/String.length
set_option maxHeartbeats 100000 in
theorem f300_1078_ok (L N d : Nat) (s : gI) {o : Int × gI} (h : f300 N 1078 3  s = some o) : iEE L (d + 2) 300 [vR 1078] (s, g_rho) (some (vI o.1), (o.2, g_rho)) := by
  refine iEE.of (wr := false) (d := d + 1) (md := gm_300) rfl rfl rfl (iRR.of 401 ?_)
  replace h := (iov_inv h).2
  obtain ⟨i2, s1, h1, h⟩ := i_o2_inv h
  refine iRT.call (f304_1078_ok L N (d + 0)  _ h1) ?_
  cases h
  exact iRT.ret
-- java/lang/String.isLatin1
set_option maxHeartbeats 100000 in
theorem f305_1078_ok (L N d : Nat) (s : gI) {o : Int × gI} (h : f305 N 1078  s = some o) : iEE L (d + 1) 305 [vR 1078] (s, g_rho) (some (vI o.1), (o.2, g_rho)) := by
  refine iEE.of (wr := false) (d := d + 0) (md := gm_305) rfl rfl rfl (iRR.of 401 ?_)
  replace h := i_h0 (by decide) h
  refine iRT.ite h (fun h => ?_) (fun h => ?_)
  · replace h := (ib1_inv h).2
    cases h
    exact iRT.ret
  · replace h := (ib1_inv h).2
    cases h
    exact iRT.ret
-- java/lang/StringLatin1.charAt
set_option maxHeartbeats 100000 in
theorem f308_1079_ok (L N d : Nat) (x1 : Int) (s : gI) {o : Int × gI} (h : f308 N 1079 3 x1 s = some o) : iEE L (d + 3) 308 [vR 1079, vI x1] (s, g_rho) (some (vI o.1), (o.2, g_rho)) := by
  refine iEE.of (wr := false) (d := d + 2) (md := gm_308) rfl rfl rfl (iRR.of 401 ?_)
  replace h := (iov_inv h).2
  obtain ⟨s1, h1, h⟩ := i_o1_inv h
  refine iRT.call (f306_ok L N (d + 0) _ _ _ h1) ?_
  refine iRT.ck h fun h => ?_
  refine iRT.ch h fun h => ?_
  refine iRT.ch h fun h => ?_
  cases h
  exact iRT.ret
-- java/lang/String.charAt
set_option maxHeartbeats 100000 in
theorem f301_1078_ok (L N d : Nat) (x1 : Int) (s : gI) {o : Int × gI} (h : f301 N 1078 3 x1 s = some o) : iEE L (d + 4) 301 [vR 1078, vI x1] (s, g_rho) (some (vI o.1), (o.2, g_rho)) := by
  refine iEE.of (wr := false) (d := d + 3) (md := gm_301) rfl rfl rfl (iRR.of 401 ?_)
  obtain ⟨i2, s1, h1, h⟩ := i_o2_inv h
  refine iRT.call (f305_1078_ok L N (d + 2)  _ h1) ?_
  refine iRT.ite h (fun h => ?_) (fun h => ?_)
  · cases h
  · obtain ⟨i4, s3, h1, h⟩ := i_o2_inv h
    refine iRT.call (f308_1079_ok L N (d + 0) _ _ h1) ?_
    refine iRT.ch h fun h => ?_
    cases h
    exact iRT.ret
-- GutterNine$Tape.isWord
set_option maxHeartbeats 100000 in
theorem f101_1_1078_at31_ok (L N d : Nat) : ∀ (n : Nat) (x2 : Int) (s : gI) (o : Int × gI), f101_at31 N 1078 3 n x2 s = some o → iRR false L (d + 4) kj101 k101_31 [some (vR 1), some (vR 1078), some (vI x2)] [] (s, g_rho) (some (vI o.1), (o.2, g_rho)) := by
  intro n
  induction n with
  | zero => intro _ _ _ h; cases h
  | succ n ih =>
    intro x2 s o h
    refine iRR.of 401 ?_
    refine iRT.ite h (fun h => ?_) (fun h => ?_)
    · replace h := (ib1_inv h).2
      cases h
      exact iRT.ret
    · refine iRT.ck h fun h => ?_
      refine iRT.ov h fun h => ?_
      obtain ⟨i2, s1, h1, h⟩ := i_o2_inv h
      refine iRT.call (f301_1078_ok L N (d + 0) _ _ h1) ?_
      refine iRT.ite h (fun h => ?_) (fun h => ?_)
      · refine iRT.ov h fun h => ?_
        exact iRT.go 1 (ih _ _ _ h) (fun _ _ => rfl)
      · replace h := (ib1_inv h).2
        cases h
        exact iRT.ret
set_option maxHeartbeats 100000 in
theorem f101_1_1078_ok (L N d : Nat) (s : gI) {o : Int × gI} (h : f101 N 1078 3  s = some o) : iEE L (d + 5) 101 [vR 1, vR 1078] (s, g_rho) (some (vI o.1), (o.2, g_rho)) := by
  refine iEE.of (wr := false) (d := d + 4) (md := gm_101) rfl rfl rfl (iRR.of 401 ?_)
  refine iRT.ite h (fun h => ?_) (fun h => ?_)
  · refine iRT.ov h fun h => ?_
    obtain ⟨i2, s1, h1, h⟩ := i_o2_inv h
    refine iRT.call (f300_1078_ok L N (d + 2)  _ h1) ?_
    refine iRT.ite h (fun h => ?_) (fun h => ?_)
    · exact iRT.go 3 (f101_1_1078_at31_ok L N d N _ _ _ h) (fun _ _ => rfl)
    · replace h := (ib1_inv h).2
      cases h
      exact iRT.ret
  · replace h := (ib1_inv h).2
    cases h
    exact iRT.ret
-- java/lang/String.coder
set_option maxHeartbeats 100000 in
theorem f304_1080_ok (L N d : Nat) (s : gI) {o : Int × gI} (h : f304 N 1080  s = some o) : iEE L (d + 1) 304 [vR 1080] (s, g_rho) (some (vI o.1), (o.2, g_rho)) := by
  refine iEE.of (wr := false) (d := d + 0) (md := gm_304) rfl rfl rfl (iRR.of 401 ?_)
  replace h := i_h0 (by decide) h
  refine iRT.b1 h fun h => ?_
  cases h
  exact iRT.ret
-- java/lang/String.length
set_option maxHeartbeats 100000 in
theorem f300_1080_ok (L N d : Nat) (s : gI) {o : Int × gI} (h : f300 N 1080 2  s = some o) : iEE L (d + 2) 300 [vR 1080] (s, g_rho) (some (vI o.1), (o.2, g_rho)) := by
  refine iEE.of (wr := false) (d := d + 1) (md := gm_300) rfl rfl rfl (iRR.of 401 ?_)
  replace h := (iov_inv h).2
  obtain ⟨i2, s1, h1, h⟩ := i_o2_inv h
  refine iRT.call (f304_1080_ok L N (d + 0)  _ h1) ?_
  cases h
  exact iRT.ret
-- java/lang/String.isLatin1
set_option maxHeartbeats 100000 in
theorem f305_1080_ok (L N d : Nat) (s : gI) {o : Int × gI} (h : f305 N 1080  s = some o) : iEE L (d + 1) 305 [vR 1080] (s, g_rho) (some (vI o.1), (o.2, g_rho)) := by
  refine iEE.of (wr := false) (d := d + 0) (md := gm_305) rfl rfl rfl (iRR.of 401 ?_)
  replace h := i_h0 (by decide) h
  refine iRT.ite h (fun h => ?_) (fun h => ?_)
  · replace h := (ib1_inv h).2
    cases h
    exact iRT.ret
  · replace h := (ib1_inv h).2
    cases h
    exact iRT.ret
-- java/lang/StringLatin1.charAt
set_option maxHeartbeats 100000 in
theorem f308_1081_ok (L N d : Nat) (x1 : Int) (s : gI) {o : Int × gI} (h : f308 N 1081 2 x1 s = some o) : iEE L (d + 3) 308 [vR 1081, vI x1] (s, g_rho) (some (vI o.1), (o.2, g_rho)) := by
  refine iEE.of (wr := false) (d := d + 2) (md := gm_308) rfl rfl rfl (iRR.of 401 ?_)
  replace h := (iov_inv h).2
  obtain ⟨s1, h1, h⟩ := i_o1_inv h
  refine iRT.call (f306_ok L N (d + 0) _ _ _ h1) ?_
  refine iRT.ck h fun h => ?_
  refine iRT.ch h fun h => ?_
  refine iRT.ch h fun h => ?_
  cases h
  exact iRT.ret
-- java/lang/String.charAt
set_option maxHeartbeats 100000 in
theorem f301_1080_ok (L N d : Nat) (x1 : Int) (s : gI) {o : Int × gI} (h : f301 N 1080 2 x1 s = some o) : iEE L (d + 4) 301 [vR 1080, vI x1] (s, g_rho) (some (vI o.1), (o.2, g_rho)) := by
  refine iEE.of (wr := false) (d := d + 3) (md := gm_301) rfl rfl rfl (iRR.of 401 ?_)
  obtain ⟨i2, s1, h1, h⟩ := i_o2_inv h
  refine iRT.call (f305_1080_ok L N (d + 2)  _ h1) ?_
  refine iRT.ite h (fun h => ?_) (fun h => ?_)
  · cases h
  · obtain ⟨i4, s3, h1, h⟩ := i_o2_inv h
    refine iRT.call (f308_1081_ok L N (d + 0) _ _ h1) ?_
    refine iRT.ch h fun h => ?_
    cases h
    exact iRT.ret
-- GutterNine$Tape.isWord
set_option maxHeartbeats 100000 in
theorem f101_1_1080_at31_ok (L N d : Nat) : ∀ (n : Nat) (x2 : Int) (s : gI) (o : Int × gI), f101_at31 N 1080 2 n x2 s = some o → iRR false L (d + 4) kj101 k101_31 [some (vR 1), some (vR 1080), some (vI x2)] [] (s, g_rho) (some (vI o.1), (o.2, g_rho)) := by
  intro n
  induction n with
  | zero => intro _ _ _ h; cases h
  | succ n ih =>
    intro x2 s o h
    refine iRR.of 401 ?_
    refine iRT.ite h (fun h => ?_) (fun h => ?_)
    · replace h := (ib1_inv h).2
      cases h
      exact iRT.ret
    · refine iRT.ck h fun h => ?_
      refine iRT.ov h fun h => ?_
      obtain ⟨i2, s1, h1, h⟩ := i_o2_inv h
      refine iRT.call (f301_1080_ok L N (d + 0) _ _ h1) ?_
      refine iRT.ite h (fun h => ?_) (fun h => ?_)
      · refine iRT.ov h fun h => ?_
        exact iRT.go 1 (ih _ _ _ h) (fun _ _ => rfl)
      · replace h := (ib1_inv h).2
        cases h
        exact iRT.ret
set_option maxHeartbeats 100000 in
theorem f101_1_1080_ok (L N d : Nat) (s : gI) {o : Int × gI} (h : f101 N 1080 2  s = some o) : iEE L (d + 5) 101 [vR 1, vR 1080] (s, g_rho) (some (vI o.1), (o.2, g_rho)) := by
  refine iEE.of (wr := false) (d := d + 4) (md := gm_101) rfl rfl rfl (iRR.of 401 ?_)
  refine iRT.ite h (fun h => ?_) (fun h => ?_)
  · refine iRT.ov h fun h => ?_
    obtain ⟨i2, s1, h1, h⟩ := i_o2_inv h
    refine iRT.call (f300_1080_ok L N (d + 2)  _ h1) ?_
    refine iRT.ite h (fun h => ?_) (fun h => ?_)
    · exact iRT.go 3 (f101_1_1080_at31_ok L N d N _ _ _ h) (fun _ _ => rfl)
    · replace h := (ib1_inv h).2
      cases h
      exact iRT.ret
  · replace h := (ib1_inv h).2
    cases h
    exact iRT.ret
-- java/lang/String.coder
set_option maxHeartbeats 100000 in
theorem f304_1054_ok (L N d : Nat) (s : gI) {o : Int × gI} (h : f304 N 1054  s = some o) : iEE L (d + 1) 304 [vR 1054] (s, g_rho) (some (vI o.1), (o.2, g_rho)) := by
  refine iEE.of (wr := false) (d := d + 0) (md := gm_304) rfl rfl rfl (iRR.of 401 ?_)
  replace h := i_h0 (by decide) h
  refine iRT.b1 h fun h => ?_
  cases h
  exact iRT.ret
-- java/lang/String.length
set_option maxHeartbeats 100000 in
theorem f300_1054_ok (L N d : Nat) (s : gI) {o : Int × gI} (h : f300 N 1054 2  s = some o) : iEE L (d + 2) 300 [vR 1054] (s, g_rho) (some (vI o.1), (o.2, g_rho)) := by
  refine iEE.of (wr := false) (d := d + 1) (md := gm_300) rfl rfl rfl (iRR.of 401 ?_)
  replace h := (iov_inv h).2
  obtain ⟨i2, s1, h1, h⟩ := i_o2_inv h
  refine iRT.call (f304_1054_ok L N (d + 0)  _ h1) ?_
  cases h
  exact iRT.ret
-- java/lang/String.isLatin1
set_option maxHeartbeats 100000 in
theorem f305_1054_ok (L N d : Nat) (s : gI) {o : Int × gI} (h : f305 N 1054  s = some o) : iEE L (d + 1) 305 [vR 1054] (s, g_rho) (some (vI o.1), (o.2, g_rho)) := by
  refine iEE.of (wr := false) (d := d + 0) (md := gm_305) rfl rfl rfl (iRR.of 401 ?_)
  replace h := i_h0 (by decide) h
  refine iRT.ite h (fun h => ?_) (fun h => ?_)
  · replace h := (ib1_inv h).2
    cases h
    exact iRT.ret
  · replace h := (ib1_inv h).2
    cases h
    exact iRT.ret
-- java/lang/StringLatin1.charAt
set_option maxHeartbeats 100000 in
theorem f308_1055_ok (L N d : Nat) (x1 : Int) (s : gI) {o : Int × gI} (h : f308 N 1055 2 x1 s = some o) : iEE L (d + 3) 308 [vR 1055, vI x1] (s, g_rho) (some (vI o.1), (o.2, g_rho)) := by
  refine iEE.of (wr := false) (d := d + 2) (md := gm_308) rfl rfl rfl (iRR.of 401 ?_)
  replace h := (iov_inv h).2
  obtain ⟨s1, h1, h⟩ := i_o1_inv h
  refine iRT.call (f306_ok L N (d + 0) _ _ _ h1) ?_
  refine iRT.ck h fun h => ?_
  refine iRT.ch h fun h => ?_
  refine iRT.ch h fun h => ?_
  cases h
  exact iRT.ret
-- java/lang/String.charAt
set_option maxHeartbeats 100000 in
theorem f301_1054_ok (L N d : Nat) (x1 : Int) (s : gI) {o : Int × gI} (h : f301 N 1054 2 x1 s = some o) : iEE L (d + 4) 301 [vR 1054, vI x1] (s, g_rho) (some (vI o.1), (o.2, g_rho)) := by
  refine iEE.of (wr := false) (d := d + 3) (md := gm_301) rfl rfl rfl (iRR.of 401 ?_)
  obtain ⟨i2, s1, h1, h⟩ := i_o2_inv h
  refine iRT.call (f305_1054_ok L N (d + 2)  _ h1) ?_
  refine iRT.ite h (fun h => ?_) (fun h => ?_)
  · cases h
  · obtain ⟨i4, s3, h1, h⟩ := i_o2_inv h
    refine iRT.call (f308_1055_ok L N (d + 0) _ _ h1) ?_
    refine iRT.ch h fun h => ?_
    cases h
    exact iRT.ret
-- GutterNine$Tape.isWord
set_option maxHeartbeats 100000 in
theorem f101_1_1054_at31_ok (L N d : Nat) : ∀ (n : Nat) (x2 : Int) (s : gI) (o : Int × gI), f101_at31 N 1054 2 n x2 s = some o → iRR false L (d + 4) kj101 k101_31 [some (vR 1), some (vR 1054), some (vI x2)] [] (s, g_rho) (some (vI o.1), (o.2, g_rho)) := by
  intro n
  induction n with
  | zero => intro _ _ _ h; cases h
  | succ n ih =>
    intro x2 s o h
    refine iRR.of 401 ?_
    refine iRT.ite h (fun h => ?_) (fun h => ?_)
    · replace h := (ib1_inv h).2
      cases h
      exact iRT.ret
    · refine iRT.ck h fun h => ?_
      refine iRT.ov h fun h => ?_
      obtain ⟨i2, s1, h1, h⟩ := i_o2_inv h
      refine iRT.call (f301_1054_ok L N (d + 0) _ _ h1) ?_
      refine iRT.ite h (fun h => ?_) (fun h => ?_)
      · refine iRT.ov h fun h => ?_
        exact iRT.go 1 (ih _ _ _ h) (fun _ _ => rfl)
      · replace h := (ib1_inv h).2
        cases h
        exact iRT.ret
set_option maxHeartbeats 100000 in
theorem f101_1_1054_ok (L N d : Nat) (s : gI) {o : Int × gI} (h : f101 N 1054 2  s = some o) : iEE L (d + 5) 101 [vR 1, vR 1054] (s, g_rho) (some (vI o.1), (o.2, g_rho)) := by
  refine iEE.of (wr := false) (d := d + 4) (md := gm_101) rfl rfl rfl (iRR.of 401 ?_)
  refine iRT.ite h (fun h => ?_) (fun h => ?_)
  · refine iRT.ov h fun h => ?_
    obtain ⟨i2, s1, h1, h⟩ := i_o2_inv h
    refine iRT.call (f300_1054_ok L N (d + 2)  _ h1) ?_
    refine iRT.ite h (fun h => ?_) (fun h => ?_)
    · exact iRT.go 3 (f101_1_1054_at31_ok L N d N _ _ _ h) (fun _ _ => rfl)
    · replace h := (ib1_inv h).2
      cases h
      exact iRT.ret
  · replace h := (ib1_inv h).2
    cases h
    exact iRT.ret
-- java/lang/String.coder
set_option maxHeartbeats 100000 in
theorem f304_1056_ok (L N d : Nat) (s : gI) {o : Int × gI} (h : f304 N 1056  s = some o) : iEE L (d + 1) 304 [vR 1056] (s, g_rho) (some (vI o.1), (o.2, g_rho)) := by
  refine iEE.of (wr := false) (d := d + 0) (md := gm_304) rfl rfl rfl (iRR.of 401 ?_)
  replace h := i_h0 (by decide) h
  refine iRT.b1 h fun h => ?_
  cases h
  exact iRT.ret
-- java/lang/String.length
set_option maxHeartbeats 100000 in
theorem f300_1056_ok (L N d : Nat) (s : gI) {o : Int × gI} (h : f300 N 1056 5  s = some o) : iEE L (d + 2) 300 [vR 1056] (s, g_rho) (some (vI o.1), (o.2, g_rho)) := by
  refine iEE.of (wr := false) (d := d + 1) (md := gm_300) rfl rfl rfl (iRR.of 401 ?_)
  replace h := (iov_inv h).2
  obtain ⟨i2, s1, h1, h⟩ := i_o2_inv h
  refine iRT.call (f304_1056_ok L N (d + 0)  _ h1) ?_
  cases h
  exact iRT.ret
-- java/lang/String.isLatin1
set_option maxHeartbeats 100000 in
theorem f305_1056_ok (L N d : Nat) (s : gI) {o : Int × gI} (h : f305 N 1056  s = some o) : iEE L (d + 1) 305 [vR 1056] (s, g_rho) (some (vI o.1), (o.2, g_rho)) := by
  refine iEE.of (wr := false) (d := d + 0) (md := gm_305) rfl rfl rfl (iRR.of 401 ?_)
  replace h := i_h0 (by decide) h
  refine iRT.ite h (fun h => ?_) (fun h => ?_)
  · replace h := (ib1_inv h).2
    cases h
    exact iRT.ret
  · replace h := (ib1_inv h).2
    cases h
    exact iRT.ret
-- java/lang/StringLatin1.charAt
set_option maxHeartbeats 100000 in
theorem f308_1057_ok (L N d : Nat) (x1 : Int) (s : gI) {o : Int × gI} (h : f308 N 1057 5 x1 s = some o) : iEE L (d + 3) 308 [vR 1057, vI x1] (s, g_rho) (some (vI o.1), (o.2, g_rho)) := by
  refine iEE.of (wr := false) (d := d + 2) (md := gm_308) rfl rfl rfl (iRR.of 401 ?_)
  replace h := (iov_inv h).2
  obtain ⟨s1, h1, h⟩ := i_o1_inv h
  refine iRT.call (f306_ok L N (d + 0) _ _ _ h1) ?_
  refine iRT.ck h fun h => ?_
  refine iRT.ch h fun h => ?_
  refine iRT.ch h fun h => ?_
  cases h
  exact iRT.ret
-- java/lang/String.charAt
set_option maxHeartbeats 100000 in
theorem f301_1056_ok (L N d : Nat) (x1 : Int) (s : gI) {o : Int × gI} (h : f301 N 1056 5 x1 s = some o) : iEE L (d + 4) 301 [vR 1056, vI x1] (s, g_rho) (some (vI o.1), (o.2, g_rho)) := by
  refine iEE.of (wr := false) (d := d + 3) (md := gm_301) rfl rfl rfl (iRR.of 401 ?_)
  obtain ⟨i2, s1, h1, h⟩ := i_o2_inv h
  refine iRT.call (f305_1056_ok L N (d + 2)  _ h1) ?_
  refine iRT.ite h (fun h => ?_) (fun h => ?_)
  · cases h
  · obtain ⟨i4, s3, h1, h⟩ := i_o2_inv h
    refine iRT.call (f308_1057_ok L N (d + 0) _ _ h1) ?_
    refine iRT.ch h fun h => ?_
    cases h
    exact iRT.ret
-- GutterNine$Tape.isWord
set_option maxHeartbeats 100000 in
theorem f101_1_1056_at31_ok (L N d : Nat) : ∀ (n : Nat) (x2 : Int) (s : gI) (o : Int × gI), f101_at31 N 1056 5 n x2 s = some o → iRR false L (d + 4) kj101 k101_31 [some (vR 1), some (vR 1056), some (vI x2)] [] (s, g_rho) (some (vI o.1), (o.2, g_rho)) := by
  intro n
  induction n with
  | zero => intro _ _ _ h; cases h
  | succ n ih =>
    intro x2 s o h
    refine iRR.of 401 ?_
    refine iRT.ite h (fun h => ?_) (fun h => ?_)
    · replace h := (ib1_inv h).2
      cases h
      exact iRT.ret
    · refine iRT.ck h fun h => ?_
      refine iRT.ov h fun h => ?_
      obtain ⟨i2, s1, h1, h⟩ := i_o2_inv h
      refine iRT.call (f301_1056_ok L N (d + 0) _ _ h1) ?_
      refine iRT.ite h (fun h => ?_) (fun h => ?_)
      · refine iRT.ov h fun h => ?_
        exact iRT.go 1 (ih _ _ _ h) (fun _ _ => rfl)
      · replace h := (ib1_inv h).2
        cases h
        exact iRT.ret
set_option maxHeartbeats 100000 in
theorem f101_1_1056_ok (L N d : Nat) (s : gI) {o : Int × gI} (h : f101 N 1056 5  s = some o) : iEE L (d + 5) 101 [vR 1, vR 1056] (s, g_rho) (some (vI o.1), (o.2, g_rho)) := by
  refine iEE.of (wr := false) (d := d + 4) (md := gm_101) rfl rfl rfl (iRR.of 401 ?_)
  refine iRT.ite h (fun h => ?_) (fun h => ?_)
  · refine iRT.ov h fun h => ?_
    obtain ⟨i2, s1, h1, h⟩ := i_o2_inv h
    refine iRT.call (f300_1056_ok L N (d + 2)  _ h1) ?_
    refine iRT.ite h (fun h => ?_) (fun h => ?_)
    · exact iRT.go 3 (f101_1_1056_at31_ok L N d N _ _ _ h) (fun _ _ => rfl)
    · replace h := (ib1_inv h).2
      cases h
      exact iRT.ret
  · replace h := (ib1_inv h).2
    cases h
    exact iRT.ret
-- GutterNine$YardReader.isName
set_option maxHeartbeats 100000 in
theorem f132_3_at299_ok (L N d : Nat) (x1 : Int) (x2 : Int) (x3 : Int) (z0 : Int) {u4 : Option iV} (s : gI) {o : Int × gI} (h : f132_at299 N x1 x2 x3 z0 s = some o) : iRR false L (d + 5) kj132 k132_299 [some (vR 3), some (vI x1), some (vI x2), some (vI x3), u4] [vI z0] (s, g_rho) (some (vI o.1), (o.2, g_rho)) := by
  refine iRR.of 401 ?_
  refine iRT.ite h (fun h => ?_) (fun h => ?_)
  · refine iRT.ite h (fun h => ?_) (fun h => ?_)
    · refine iRT.ite h (fun h => ?_) (fun h => ?_)
      · refine iRT.ite h (fun h => ?_) (fun h => ?_)
        · refine iRT.ite h (fun h => ?_) (fun h => ?_)
          · replace h := (ib1_inv h).2
            cases h
            exact iRT.ret
          · replace h := (ib1_inv h).2
            cases h
            exact iRT.ret
        · replace h := (ib1_inv h).2
          cases h
          exact iRT.ret
      · replace h := (ib1_inv h).2
        cases h
        exact iRT.ret
    · replace h := (ib1_inv h).2
      cases h
      exact iRT.ret
  · replace h := (ib1_inv h).2
    cases h
    exact iRT.ret
set_option maxHeartbeats 100000 in
theorem f132_3_at294_ok (L N d : Nat) (x1 : Int) (x2 : Int) (x3 : Int) {u4 : Option iV} (s : gI) {o : Int × gI} (h : f132_at294 N x1 x2 x3 s = some o) : iRR false L (d + 5) kj132 k132_294 [some (vR 3), some (vI x1), some (vI x2), some (vI x3), u4] [] (s, g_rho) (some (vI o.1), (o.2, g_rho)) := by
  refine iRR.of 3 ?_
  exact iRT.go 2 (f132_3_at299_ok L N d _ _ _ _ _ h) (fun _ _ => rfl)
set_option maxHeartbeats 100000 in
theorem f132_3_at245_ok (L N d : Nat) (x1 : Int) (x2 : Int) (z0 : Int) {u3 : Option iV} {u4 : Option iV} (s : gI) {o : Int × gI} (h : f132_at245 N x1 x2 z0 s = some o) : iRR false L (d + 5) kj132 k132_245 [some (vR 3), some (vI x1), some (vI x2), u3, u4] [vI z0] (s, g_rho) (some (vI o.1), (o.2, g_rho)) := by
  refine iRR.of 23 ?_
  obtain ⟨i2, s1, h1, h⟩ := i_o2_inv h
  refine iRT.call (f101_1_1068_ok L N (d + 0)  _ h1) ?_
  refine iRT.ite h (fun h => ?_) (fun h => ?_)
  · obtain ⟨i4, s3, h1, h⟩ := i_o2_inv h
    refine iRT.call (f101_1_1070_ok L N (d + 0)  _ h1) ?_
    refine iRT.ite h (fun h => ?_) (fun h => ?_)
    · obtain ⟨i6, s5, h1, h⟩ := i_o2_inv h
      refine iRT.call (f101_1_1072_ok L N (d + 0)  _ h1) ?_
      refine iRT.ite h (fun h => ?_) (fun h => ?_)
      · obtain ⟨i8, s7, h1, h⟩ := i_o2_inv h
        refine iRT.call (f101_1_1074_ok L N (d + 0)  _ h1) ?_
        refine iRT.ite h (fun h => ?_) (fun h => ?_)
        · exact iRT.go 1 (f132_3_at299_ok L N d _ _ _ _ _ h) (fun _ _ => rfl)
        · exact iRT.go 0 (f132_3_at294_ok L N d _ _ _ _ h) (fun _ _ => rfl)
      · exact iRT.go 0 (f132_3_at294_ok L N d _ _ _ _ h) (fun _ _ => rfl)
    · exact iRT.go 0 (f132_3_at294_ok L N d _ _ _ _ h) (fun _ _ => rfl)
  · exact iRT.go 0 (f132_3_at294_ok L N d _ _ _ _ h) (fun _ _ => rfl)
set_option maxHeartbeats 100000 in
theorem f132_3_at240_ok (L N d : Nat) (x1 : Int) (x2 : Int) {u3 : Option iV} {u4 : Option iV} (s : gI) {o : Int × gI} (h : f132_at240 N x1 x2 s = some o) : iRR false L (d + 5) kj132 k132_240 [some (vR 3), some (vI x1), some (vI x2), u3, u4] [] (s, g_rho) (some (vI o.1), (o.2, g_rho)) := by
  refine iRR.of 3 ?_
  exact iRT.go 2 (f132_3_at245_ok L N d _ _ _ _ h) (fun _ _ => rfl)
set_option maxHeartbeats 100000 in
theorem f132_3_at203_ok (L N d : Nat) (x1 : Int) (z0 : Int) {u2 : Option iV} {u3 : Option iV} {u4 : Option iV} (s : gI) {o : Int × gI} (h : f132_at203 N x1 z0 s = some o) : iRR false L (d + 5) kj132 k132_203 [some (vR 3), some (vI x1), u2, u3, u4] [vI z0] (s, g_rho) (some (vI o.1), (o.2, g_rho)) := by
  refine iRR.of 18 ?_
  obtain ⟨i2, s1, h1, h⟩ := i_o2_inv h
  refine iRT.call (f101_1_1076_ok L N (d + 0)  _ h1) ?_
  refine iRT.ite h (fun h => ?_) (fun h => ?_)
  · obtain ⟨i4, s3, h1, h⟩ := i_o2_inv h
    refine iRT.call (f101_1_1078_ok L N (d + 0)  _ h1) ?_
    refine iRT.ite h (fun h => ?_) (fun h => ?_)
    · obtain ⟨i6, s5, h1, h⟩ := i_o2_inv h
      refine iRT.call (f101_1_1080_ok L N (d + 0)  _ h1) ?_
      refine iRT.ite h (fun h => ?_) (fun h => ?_)
      · exact iRT.go 1 (f132_3_at245_ok L N d _ _ _ _ h) (fun _ _ => rfl)
      · exact iRT.go 0 (f132_3_at240_ok L N d _ _ _ h) (fun _ _ => rfl)
    · exact iRT.go 0 (f132_3_at240_ok L N d _ _ _ h) (fun _ _ => rfl)
  · exact iRT.go 0 (f132_3_at240_ok L N d _ _ _ h) (fun _ _ => rfl)
set_option maxHeartbeats 100000 in
theorem f132_3_at198_ok (L N d : Nat) (x1 : Int) {u2 : Option iV} {u3 : Option iV} {u4 : Option iV} (s : gI) {o : Int × gI} (h : f132_at198 N x1 s = some o) : iRR false L (d + 5) kj132 k132_198 [some (vR 3), some (vI x1), u2, u3, u4] [] (s, g_rho) (some (vI o.1), (o.2, g_rho)) := by
  refine iRR.of 3 ?_
  exact iRT.go 2 (f132_3_at203_ok L N d _ _ _ h) (fun _ _ => rfl)
set_option maxHeartbeats 100000 in
theorem f132_3_at101_ok (L N d : Nat) (z0 : Int) {u1 : Option iV} {u2 : Option iV} {u3 : Option iV} {u4 : Option iV} (s : gI) {o : Int × gI} (h : f132_at101 N z0 s = some o) : iRR false L (d + 5) kj132 k132_101 [some (vR 3), u1, u2, u3, u4] [vI z0] (s, g_rho) (some (vI o.1), (o.2, g_rho)) := by
  refine iRR.of 43 ?_
  obtain ⟨i2, s1, h1, h⟩ := i_o2_inv h
  refine iRT.call (f101_1_1052_ok L N (d + 0)  _ h1) ?_
  refine iRT.ite h (fun h => ?_) (fun h => ?_)
  · obtain ⟨i4, s3, h1, h⟩ := i_o2_inv h
    refine iRT.call (f101_1_1054_ok L N (d + 0)  _ h1) ?_
    refine iRT.ite h (fun h => ?_) (fun h => ?_)
    · obtain ⟨i6, s5, h1, h⟩ := i_o2_inv h
      refine iRT.call (f101_1_1056_ok L N (d + 0)  _ h1) ?_
      refine iRT.ite h (fun h => ?_) (fun h => ?_)
      · obtain ⟨i8, s7, h1, h⟩ := i_o2_inv h
        refine iRT.call (f101_1_1058_ok L N (d + 0)  _ h1) ?_
        refine iRT.ite h (fun h => ?_) (fun h => ?_)
        · obtain ⟨i10, s9, h1, h⟩ := i_o2_inv h
          refine iRT.call (f101_1_1060_ok L N (d + 0)  _ h1) ?_
          refine iRT.ite h (fun h => ?_) (fun h => ?_)
          · obtain ⟨i12, s11, h1, h⟩ := i_o2_inv h
            refine iRT.call (f101_1_1062_ok L N (d + 0)  _ h1) ?_
            refine iRT.ite h (fun h => ?_) (fun h => ?_)
            · obtain ⟨i14, s13, h1, h⟩ := i_o2_inv h
              refine iRT.call (f101_1_1064_ok L N (d + 0)  _ h1) ?_
              refine iRT.ite h (fun h => ?_) (fun h => ?_)
              · obtain ⟨i16, s15, h1, h⟩ := i_o2_inv h
                refine iRT.call (f101_1_1066_ok L N (d + 0)  _ h1) ?_
                refine iRT.ite h (fun h => ?_) (fun h => ?_)
                · exact iRT.go 1 (f132_3_at203_ok L N d _ _ _ h) (fun _ _ => rfl)
                · exact iRT.go 0 (f132_3_at198_ok L N d _ _ h) (fun _ _ => rfl)
              · exact iRT.go 0 (f132_3_at198_ok L N d _ _ h) (fun _ _ => rfl)
            · exact iRT.go 0 (f132_3_at198_ok L N d _ _ h) (fun _ _ => rfl)
          · exact iRT.go 0 (f132_3_at198_ok L N d _ _ h) (fun _ _ => rfl)
        · exact iRT.go 0 (f132_3_at198_ok L N d _ _ h) (fun _ _ => rfl)
      · exact iRT.go 0 (f132_3_at198_ok L N d _ _ h) (fun _ _ => rfl)
    · exact iRT.go 0 (f132_3_at198_ok L N d _ _ h) (fun _ _ => rfl)
  · exact iRT.go 0 (f132_3_at198_ok L N d _ _ h) (fun _ _ => rfl)
set_option maxHeartbeats 100000 in
theorem f132_3_at96_ok (L N d : Nat) {u1 : Option iV} {u2 : Option iV} {u3 : Option iV} {u4 : Option iV} (s : gI) {o : Int × gI} (h : f132_at96 N  s = some o) : iRR false L (d + 5) kj132 k132_96 [some (vR 3), u1, u2, u3, u4] [] (s, g_rho) (some (vI o.1), (o.2, g_rho)) := by
  refine iRR.of 3 ?_
  exact iRT.go 2 (f132_3_at101_ok L N d _ _ h) (fun _ _ => rfl)
set_option maxHeartbeats 100000 in
theorem f132_3_ok (L N d : Nat) (s : gI) {o : Int × gI} (h : f132 N  s = some o) : iEE L (d + 6) 132 [vR 3] (s, g_rho) (some (vI o.1), (o.2, g_rho)) := by
  refine iEE.of (wr := false) (d := d + 5) (md := gm_132) rfl rfl rfl (iRR.of 42 ?_)
  obtain ⟨i2, s1, h1, h⟩ := i_o2_inv h
  refine iRT.call (f101_1_1036_ok L N (d + 0)  _ h1) ?_
  refine iRT.ite h (fun h => ?_) (fun h => ?_)
  · obtain ⟨i4, s3, h1, h⟩ := i_o2_inv h
    refine iRT.call (f101_1_1038_ok L N (d + 0)  _ h1) ?_
    refine iRT.ite h (fun h => ?_) (fun h => ?_)
    · obtain ⟨i6, s5, h1, h⟩ := i_o2_inv h
      refine iRT.call (f101_1_1040_ok L N (d + 0)  _ h1) ?_
      refine iRT.ite h (fun h => ?_) (fun h => ?_)
      · obtain ⟨i8, s7, h1, h⟩ := i_o2_inv h
        refine iRT.call (f101_1_1042_ok L N (d + 0)  _ h1) ?_
        refine iRT.ite h (fun h => ?_) (fun h => ?_)
        · obtain ⟨i10, s9, h1, h⟩ := i_o2_inv h
          refine iRT.call (f101_1_1044_ok L N (d + 0)  _ h1) ?_
          refine iRT.ite h (fun h => ?_) (fun h => ?_)
          · obtain ⟨i12, s11, h1, h⟩ := i_o2_inv h
            refine iRT.call (f101_1_1046_ok L N (d + 0)  _ h1) ?_
            refine iRT.ite h (fun h => ?_) (fun h => ?_)
            · obtain ⟨i14, s13, h1, h⟩ := i_o2_inv h
              refine iRT.call (f101_1_1048_ok L N (d + 0)  _ h1) ?_
              refine iRT.ite h (fun h => ?_) (fun h => ?_)
              · obtain ⟨i16, s15, h1, h⟩ := i_o2_inv h
                refine iRT.call (f101_1_1050_ok L N (d + 0)  _ h1) ?_
                refine iRT.ite h (fun h => ?_) (fun h => ?_)
                · exact iRT.go 1 (f132_3_at101_ok L N d _ _ h) (fun _ _ => rfl)
                · exact iRT.go 0 (f132_3_at96_ok L N d  _ h) (fun _ _ => rfl)
              · exact iRT.go 0 (f132_3_at96_ok L N d  _ h) (fun _ _ => rfl)
            · exact iRT.go 0 (f132_3_at96_ok L N d  _ h) (fun _ _ => rfl)
          · exact iRT.go 0 (f132_3_at96_ok L N d  _ h) (fun _ _ => rfl)
        · exact iRT.go 0 (f132_3_at96_ok L N d  _ h) (fun _ _ => rfl)
      · exact iRT.go 0 (f132_3_at96_ok L N d  _ h) (fun _ _ => rfl)
    · exact iRT.go 0 (f132_3_at96_ok L N d  _ h) (fun _ _ => rfl)
  · exact iRT.go 0 (f132_3_at96_ok L N d  _ h) (fun _ _ => rfl)
-- GutterNine$Yard.personNamed
set_option maxHeartbeats 100000 in
theorem f117_47_at2_ok (L N d : Nat) : ∀ (n : Nat) (y1 : Int) (x3 : Int) (s : gI) (o : Int × gI), f117_at2 N n y1 x3 s = some o → iRR false L (d + 0) kj117 k117_2 [some (vR 47), some (vJ y1), none, some (vI x3)] [] (s, g_rho) (some (vI o.1), (o.2, g_rho)) := by
  intro n
  induction n with
  | zero => intro _ _ _ _ h; cases h
  | succ n ih =>
    intro y1 x3 s o h
    refine iRR.of 401 ?_
    refine iRT.ite h (fun h => ?_) (fun h => ?_)
    · cases h
      exact iRT.ret
    · refine iRT.ck h fun h => ?_
      refine iRT.ite h (fun h => ?_) (fun h => ?_)
      · cases h
        exact iRT.ret
      · refine iRT.ov h fun h => ?_
        exact iRT.go 1 (ih _ _ _ _ h) (fun _ _ => rfl)
set_option maxHeartbeats 100000 in
theorem f117_47_ok (L N d : Nat) (y1 : Int) (s : gI) {o : Int × gI} (h : f117 N y1 s = some o) : iEE L (d + 1) 117 [vR 47, vJ y1] (s, g_rho) (some (vI o.1), (o.2, g_rho)) := by
  refine iEE.of (wr := false) (d := d + 0) (md := gm_117) rfl rfl rfl (iRR.of 3 ?_)
  exact iRT.go 2 (f117_47_at2_ok L N d N _ _ _ _ h) (fun _ _ => rfl)
-- GutterNine$Yard.hasName
set_option maxHeartbeats 100000 in
theorem f118_47_at2_ok (L N d : Nat) : ∀ (n : Nat) (y1 : Int) (x3 : Int) (s : gI) (o : Int × gI), f118_at2 N n y1 x3 s = some o → iRR false L (d + 1) kj118 k118_2 [some (vR 47), some (vJ y1), none, some (vI x3)] [] (s, g_rho) (some (vI o.1), (o.2, g_rho)) := by
  intro n
  induction n with
  | zero => intro _ _ _ _ h; cases h
  | succ n ih =>
    intro y1 x3 s o h
    refine iRR.of 401 ?_
    refine iRT.ite h (fun h => ?_) (fun h => ?_)
    · obtain ⟨i2, s1, h1, h⟩ := i_o2_inv h
      refine iRT.call (f117_47_ok L N (d + 0) _ _ h1) ?_
      refine iRT.ite h (fun h => ?_) (fun h => ?_)
      · replace h := (ib1_inv h).2
        cases h
        exact iRT.ret
      · replace h := (ib1_inv h).2
        cases h
        exact iRT.ret
    · refine iRT.ck h fun h => ?_
      refine iRT.ite h (fun h => ?_) (fun h => ?_)
      · replace h := (ib1_inv h).2
        cases h
        exact iRT.ret
      · refine iRT.ov h fun h => ?_
        exact iRT.go 1 (ih _ _ _ _ h) (fun _ _ => rfl)
set_option maxHeartbeats 100000 in
theorem f118_47_ok (L N d : Nat) (y1 : Int) (s : gI) {o : Int × gI} (h : f118 N y1 s = some o) : iEE L (d + 2) 118 [vR 47, vJ y1] (s, g_rho) (some (vI o.1), (o.2, g_rho)) := by
  refine iEE.of (wr := false) (d := d + 1) (md := gm_118) rfl rfl rfl (iRR.of 3 ?_)
  exact iRT.go 2 (f118_47_at2_ok L N d N _ _ _ _ h) (fun _ _ => rfl)
-- GutterNine$YardReader.takeNewName
set_option maxHeartbeats 100000 in
theorem f129_3_47_ok (L N d : Nat) (s : gI) {o : Int × gI} (h : f129 N  s = some o) : iEE L (d + 7) 129 [vR 3, vR 47] (s, g_rho) (some (vI o.1), (o.2, g_rho)) := by
  refine iEE.of (wr := false) (d := d + 6) (md := gm_129) rfl rfl rfl (iRR.of 401 ?_)
  obtain ⟨i2, s1, h1, h⟩ := i_o2_inv h
  refine iRT.call (f132_3_ok L N (d + 0)  _ h1) ?_
  refine iRT.ite h (fun h => ?_) (fun h => ?_)
  · obtain ⟨i11, s10, h1, h⟩ := i_o2_inv h
    refine iRT.call (f104_1_ok L N (d + 5) _ _ h1) ?_
    refine iRT.b1 h fun h => ?_
    cases h
    exact iRT.ret
  · obtain ⟨j4, s3, h1, h⟩ := i_o2_inv h
    refine iRT.call (f102_1_ok L N (d + 5)  _ h1) ?_
    obtain ⟨i6, s5, h1, h⟩ := i_o2_inv h
    refine iRT.call (f118_47_ok L N (d + 4) _ _ h1) ?_
    refine iRT.ite h (fun h => ?_) (fun h => ?_)
    · obtain ⟨s7, h1, h⟩ := i_o1_inv h
      refine iRT.call (f97_1_ok L N (d + 1)  _ h1) ?_
      replace h := (ib1_inv h).2
      cases h
      exact iRT.ret
    · obtain ⟨i9, s8, h1, h⟩ := i_o2_inv h
      refine iRT.call (f104_1_ok L N (d + 5) _ _ h1) ?_
      refine iRT.b1 h fun h => ?_
      cases h
      exact iRT.ret
-- GutterNine$YardReader.kindHere
set_option maxHeartbeats 100000 in
theorem f131_3_ok (L N d : Nat) (s : gI) {o : Int × gI} (h : f131 N  s = some o) : iEE L (d + 6) 131 [vR 3] (s, g_rho) (some (vI o.1), (o.2, g_rho)) := by
  refine iEE.of (wr := false) (d := d + 5) (md := gm_131) rfl rfl rfl (iRR.of 401 ?_)
  obtain ⟨i2, s1, h1, h⟩ := i_o2_inv h
  refine iRT.call (f101_1_1068_ok L N (d + 0)  _ h1) ?_
  refine iRT.ite h (fun h => ?_) (fun h => ?_)
  · obtain ⟨i4, s3, h1, h⟩ := i_o2_inv h
    refine iRT.call (f101_1_1070_ok L N (d + 0)  _ h1) ?_
    refine iRT.ite h (fun h => ?_) (fun h => ?_)
    · obtain ⟨i6, s5, h1, h⟩ := i_o2_inv h
      refine iRT.call (f101_1_1072_ok L N (d + 0)  _ h1) ?_
      refine iRT.ite h (fun h => ?_) (fun h => ?_)
      · obtain ⟨i8, s7, h1, h⟩ := i_o2_inv h
        refine iRT.call (f101_1_1074_ok L N (d + 0)  _ h1) ?_
        refine iRT.ite h (fun h => ?_) (fun h => ?_)
        · cases h
          exact iRT.ret
        · cases h
          exact iRT.ret
      · cases h
        exact iRT.ret
    · cases h
      exact iRT.ret
  · cases h
    exact iRT.ret
-- GutterNine$Tape.takeWord
set_option maxHeartbeats 100000 in
theorem f105_1_1054_ok (L N d : Nat) (s : gI) {o : Int × gI} (h : f105 N 1054 2  s = some o) : iEE L (d + 6) 105 [vR 1, vR 1054] (s, g_rho) (some (vI o.1), (o.2, g_rho)) := by
  refine iEE.of (wr := false) (d := d + 5) (md := gm_105) rfl rfl rfl (iRR.of 401 ?_)
  obtain ⟨i2, s1, h1, h⟩ := i_o2_inv h
  refine iRT.call (f101_1_1054_ok L N (d + 0)  _ h1) ?_
  refine iRT.ite h (fun h => ?_) (fun h => ?_)
  · obtain ⟨i5, s4, h1, h⟩ := i_o2_inv h
    refine iRT.call (f104_1_ok L N (d + 4) _ _ h1) ?_
    refine iRT.b1 h fun h => ?_
    cases h
    exact iRT.ret
  · obtain ⟨s3, h1, h⟩ := i_o1_inv h
    refine iRT.call (f97_1_ok L N (d + 0)  _ h1) ?_
    replace h := (ib1_inv h).2
    cases h
    exact iRT.ret
-- GutterNine$YardReader.takeOwner
set_option maxHeartbeats 100000 in
theorem f130_3_ok (L N d : Nat) (x1 : Int) (s : gI) {o : Int × gI} (h : f130 N x1 s = some o) : iEE L (d + 7) 130 [vR 3, vI x1] (s, g_rho) (some (vI o.1), (o.2, g_rho)) := by
  refine iEE.of (wr := false) (d := d + 6) (md := gm_130) rfl rfl rfl (iRR.of 401 ?_)
  obtain ⟨i2, s1, h1, h⟩ := i_o2_inv h
  refine iRT.call (f132_3_ok L N (d + 0)  _ h1) ?_
  refine iRT.ite h (fun h => ?_) (fun h => ?_)
  · obtain ⟨i7, s6, h1, h⟩ := i_o2_inv h
    refine iRT.call (f104_1_ok L N (d + 5) _ _ h1) ?_
    refine iRT.b1 h fun h => ?_
    cases h
    exact iRT.ret
  · refine iRT.ite h (fun h => ?_) (fun h => ?_)
    · obtain ⟨i5, s4, h1, h⟩ := i_o2_inv h
      refine iRT.call (f104_1_ok L N (d + 5) _ _ h1) ?_
      refine iRT.b1 h fun h => ?_
      cases h
      exact iRT.ret
    · obtain ⟨s3, h1, h⟩ := i_o1_inv h
      refine iRT.call (f97_1_ok L N (d + 1)  _ h1) ?_
      replace h := (ib1_inv h).2
      cases h
      exact iRT.ret
-- GutterNine$Tape.takeWord
set_option maxHeartbeats 100000 in
theorem f105_1_1056_ok (L N d : Nat) (s : gI) {o : Int × gI} (h : f105 N 1056 5  s = some o) : iEE L (d + 6) 105 [vR 1, vR 1056] (s, g_rho) (some (vI o.1), (o.2, g_rho)) := by
  refine iEE.of (wr := false) (d := d + 5) (md := gm_105) rfl rfl rfl (iRR.of 401 ?_)
  obtain ⟨i2, s1, h1, h⟩ := i_o2_inv h
  refine iRT.call (f101_1_1056_ok L N (d + 0)  _ h1) ?_
  refine iRT.ite h (fun h => ?_) (fun h => ?_)
  · obtain ⟨i5, s4, h1, h⟩ := i_o2_inv h
    refine iRT.call (f104_1_ok L N (d + 4) _ _ h1) ?_
    refine iRT.b1 h fun h => ?_
    cases h
    exact iRT.ret
  · obtain ⟨s3, h1, h⟩ := i_o1_inv h
    refine iRT.call (f97_1_ok L N (d + 0)  _ h1) ?_
    replace h := (ib1_inv h).2
    cases h
    exact iRT.ret
-- GutterNine$YardReader.takeThing
set_option maxHeartbeats 100000 in
theorem f124_3_47_ok (L N d : Nat) (s : gI) {o : Int × gI} (h : f124 N  s = some o) : iEE L (d + 8) 124 [vR 3, vR 47] (s, g_rho) (some (vI o.1), (o.2, g_rho)) := by
  refine iEE.of (wr := false) (d := d + 7) (md := gm_124) rfl rfl rfl (iRR.of 401 ?_)
  refine iRT.ite h (fun h => ?_) (fun h => ?_)
  · obtain ⟨s2, h1, h⟩ := i_o1_inv h
    refine iRT.call (f97_1_ok L N (d + 2)  _ h1) ?_
    obtain ⟨j4, s3, h1, h⟩ := i_o2_inv h
    refine iRT.call (f102_1_ok L N (d + 6)  _ h1) ?_
    obtain ⟨i6, s5, h1, h⟩ := i_o2_inv h
    refine iRT.call (f129_3_47_ok L N (d + 0)  _ h1) ?_
    refine iRT.ite h (fun h => ?_) (fun h => ?_)
    · replace h := (ib1_inv h).2
      cases h
      exact iRT.ret
    · obtain ⟨i8, s7, h1, h⟩ := i_o2_inv h
      refine iRT.call (f131_3_ok L N (d + 1)  _ h1) ?_
      refine iRT.ite h (fun h => ?_) (fun h => ?_)
      · obtain ⟨i28, s27, h1, h⟩ := i_o2_inv h
        refine iRT.call (f104_1_ok L N (d + 6) _ _ h1) ?_
        refine iRT.b1 h fun h => ?_
        cases h
        exact iRT.ret
      · obtain ⟨s9, h1, h⟩ := i_o1_inv h
        refine iRT.call (f97_1_ok L N (d + 2)  _ h1) ?_
        obtain ⟨i11, s10, h1, h⟩ := i_o2_inv h
        refine iRT.call (f105_1_1054_ok L N (d + 1)  _ h1) ?_
        refine iRT.ite h (fun h => ?_) (fun h => ?_)
        · replace h := (ib1_inv h).2
          cases h
          exact iRT.ret
        · obtain ⟨j13, s12, h1, h⟩ := i_o2_inv h
          refine iRT.call (f102_1_ok L N (d + 6)  _ h1) ?_
          obtain ⟨i15, s14, h1, h⟩ := i_o2_inv h
          refine iRT.call (f117_47_ok L N (d + 6) _ _ h1) ?_
          obtain ⟨i17, s16, h1, h⟩ := i_o2_inv h
          refine iRT.call (f130_3_ok L N (d + 0) _ _ h1) ?_
          refine iRT.ite h (fun h => ?_) (fun h => ?_)
          · replace h := (ib1_inv h).2
            cases h
            exact iRT.ret
          · obtain ⟨i19, s18, h1, h⟩ := i_o2_inv h
            refine iRT.call (f105_1_1056_ok L N (d + 1)  _ h1) ?_
            refine iRT.ite h (fun h => ?_) (fun h => ?_)
            · replace h := (ib1_inv h).2
              cases h
              exact iRT.ret
            · obtain ⟨i21, s20, h1, h⟩ := i_o2_inv h
              refine iRT.call (f107_1_ok L N (d + 1) _ _ _ h1) ?_
              refine iRT.ite h (fun h => ?_) (fun h => ?_)
              · replace h := (ib1_inv h).2
                cases h
                exact iRT.ret
              · refine iRT.ck h fun h => ?_
                refine iRT.ck h fun h => ?_
                refine iRT.ck h fun h => ?_
                refine iRT.ck h fun h => ?_
                refine iRT.ov h fun h => ?_
                replace h := (ib1_inv h).2
                cases h
                exact iRT.ret
  · obtain ⟨i30, s29, h1, h⟩ := i_o2_inv h
    refine iRT.call (f104_1_ok L N (d + 6) _ _ h1) ?_
    refine iRT.b1 h fun h => ?_
    cases h
    exact iRT.ret
-- GutterNine$Tape.takeWord
set_option maxHeartbeats 100000 in
theorem f105_1_1052_ok (L N d : Nat) (s : gI) {o : Int × gI} (h : f105 N 1052 3  s = some o) : iEE L (d + 6) 105 [vR 1, vR 1052] (s, g_rho) (some (vI o.1), (o.2, g_rho)) := by
  refine iEE.of (wr := false) (d := d + 5) (md := gm_105) rfl rfl rfl (iRR.of 401 ?_)
  obtain ⟨i2, s1, h1, h⟩ := i_o2_inv h
  refine iRT.call (f101_1_1052_ok L N (d + 0)  _ h1) ?_
  refine iRT.ite h (fun h => ?_) (fun h => ?_)
  · obtain ⟨i5, s4, h1, h⟩ := i_o2_inv h
    refine iRT.call (f104_1_ok L N (d + 4) _ _ h1) ?_
    refine iRT.b1 h fun h => ?_
    cases h
    exact iRT.ret
  · obtain ⟨s3, h1, h⟩ := i_o1_inv h
    refine iRT.call (f97_1_ok L N (d + 0)  _ h1) ?_
    replace h := (ib1_inv h).2
    cases h
    exact iRT.ret
-- GutterNine$YardReader.takePerson
set_option maxHeartbeats 100000 in
theorem f123_3_47_ok (L N d : Nat) (s : gI) {o : Int × gI} (h : f123 N  s = some o) : iEE L (d + 8) 123 [vR 3, vR 47] (s, g_rho) (some (vI o.1), (o.2, g_rho)) := by
  refine iEE.of (wr := false) (d := d + 7) (md := gm_123) rfl rfl rfl (iRR.of 401 ?_)
  refine iRT.ite h (fun h => ?_) (fun h => ?_)
  · obtain ⟨s2, h1, h⟩ := i_o1_inv h
    refine iRT.call (f97_1_ok L N (d + 2)  _ h1) ?_
    obtain ⟨j4, s3, h1, h⟩ := i_o2_inv h
    refine iRT.call (f102_1_ok L N (d + 6)  _ h1) ?_
    obtain ⟨i6, s5, h1, h⟩ := i_o2_inv h
    refine iRT.call (f129_3_47_ok L N (d + 0)  _ h1) ?_
    refine iRT.ite h (fun h => ?_) (fun h => ?_)
    · replace h := (ib1_inv h).2
      cases h
      exact iRT.ret
    · obtain ⟨i8, s7, h1, h⟩ := i_o2_inv h
      refine iRT.call (f105_1_1052_ok L N (d + 1)  _ h1) ?_
      refine iRT.ite h (fun h => ?_) (fun h => ?_)
      · replace h := (ib1_inv h).2
        cases h
        exact iRT.ret
      · obtain ⟨i10, s9, h1, h⟩ := i_o2_inv h
        refine iRT.call (f107_1_ok L N (d + 1) _ _ _ h1) ?_
        refine iRT.ite h (fun h => ?_) (fun h => ?_)
        · replace h := (ib1_inv h).2
          cases h
          exact iRT.ret
        · refine iRT.ck h fun h => ?_
          refine iRT.ck h fun h => ?_
          refine iRT.ov h fun h => ?_
          replace h := (ib1_inv h).2
          cases h
          exact iRT.ret
  · obtain ⟨i15, s14, h1, h⟩ := i_o2_inv h
    refine iRT.call (f104_1_ok L N (d + 6) _ _ h1) ?_
    refine iRT.b1 h fun h => ?_
    cases h
    exact iRT.ret
-- GutterNine$YardReader.takeLine
set_option maxHeartbeats 100000 in
theorem f121_3_47_ok (L N d : Nat) (s : gI) {o : Int × gI} (h : f121 N  s = some o) : iEE L (d + 9) 121 [vR 3, vR 47] (s, g_rho) (some (vI o.1), (o.2, g_rho)) := by
  refine iEE.of (wr := false) (d := d + 8) (md := gm_121) rfl rfl rfl (iRR.of 401 ?_)
  obtain ⟨i2, s1, h1, h⟩ := i_o2_inv h
  refine iRT.call (f101_1_1036_ok L N (d + 3)  _ h1) ?_
  refine iRT.ite h (fun h => ?_) (fun h => ?_)
  · obtain ⟨i4, s3, h1, h⟩ := i_o2_inv h
    refine iRT.call (f101_1_1038_ok L N (d + 3)  _ h1) ?_
    refine iRT.ite h (fun h => ?_) (fun h => ?_)
    · obtain ⟨i6, s5, h1, h⟩ := i_o2_inv h
      refine iRT.call (f101_1_1040_ok L N (d + 3)  _ h1) ?_
      refine iRT.ite h (fun h => ?_) (fun h => ?_)
      · obtain ⟨i8, s7, h1, h⟩ := i_o2_inv h
        refine iRT.call (f101_1_1042_ok L N (d + 3)  _ h1) ?_
        refine iRT.ite h (fun h => ?_) (fun h => ?_)
        · obtain ⟨i10, s9, h1, h⟩ := i_o2_inv h
          refine iRT.call (f101_1_1044_ok L N (d + 3)  _ h1) ?_
          refine iRT.ite h (fun h => ?_) (fun h => ?_)
          · obtain ⟨i12, s11, h1, h⟩ := i_o2_inv h
            refine iRT.call (f101_1_1046_ok L N (d + 3)  _ h1) ?_
            refine iRT.ite h (fun h => ?_) (fun h => ?_)
            · obtain ⟨i14, s13, h1, h⟩ := i_o2_inv h
              refine iRT.call (f101_1_1048_ok L N (d + 3)  _ h1) ?_
              refine iRT.ite h (fun h => ?_) (fun h => ?_)
              · obtain ⟨i16, s15, h1, h⟩ := i_o2_inv h
                refine iRT.call (f101_1_1050_ok L N (d + 3)  _ h1) ?_
                refine iRT.ite h (fun h => ?_) (fun h => ?_)
                · obtain ⟨i18, s17, h1, h⟩ := i_o2_inv h
                  refine iRT.call (f104_1_ok L N (d + 7) _ _ h1) ?_
                  refine iRT.b1 h fun h => ?_
                  cases h
                  exact iRT.ret
                · obtain ⟨i20, s19, h1, h⟩ := i_o2_inv h
                  refine iRT.call (f122_3_ok L N (d + 2) _ _ h1) ?_
                  refine iRT.ite h (fun h => ?_) (fun h => ?_)
                  · replace h := (ib1_inv h).2
                    cases h
                    exact iRT.ret
                  · obtain ⟨i22, s21, h1, h⟩ := i_o2_inv h
                    refine iRT.call (f29_4_60_ok L N (d + 1)  _ h1) ?_
                    refine iRT.ite h (fun h => ?_) (fun h => ?_)
                    · replace h := (ib1_inv h).2
                      cases h
                      exact iRT.ret
                    · replace h := (ib1_inv h).2
                      cases h
                      exact iRT.ret
              · obtain ⟨i24, s23, h1, h⟩ := i_o2_inv h
                refine iRT.call (f122_3_ok L N (d + 2) _ _ h1) ?_
                refine iRT.ite h (fun h => ?_) (fun h => ?_)
                · replace h := (ib1_inv h).2
                  cases h
                  exact iRT.ret
                · obtain ⟨i26, s25, h1, h⟩ := i_o2_inv h
                  refine iRT.call (f29_4_57_ok L N (d + 1)  _ h1) ?_
                  refine iRT.ite h (fun h => ?_) (fun h => ?_)
                  · replace h := (ib1_inv h).2
                    cases h
                    exact iRT.ret
                  · replace h := (ib1_inv h).2
                    cases h
                    exact iRT.ret
            · obtain ⟨i28, s27, h1, h⟩ := i_o2_inv h
              refine iRT.call (f122_3_ok L N (d + 2) _ _ h1) ?_
              refine iRT.ite h (fun h => ?_) (fun h => ?_)
              · replace h := (ib1_inv h).2
                cases h
                exact iRT.ret
              · obtain ⟨i30, s29, h1, h⟩ := i_o2_inv h
                refine iRT.call (f128_3_47_ok L N (d + 1)  _ h1) ?_
                refine iRT.ite h (fun h => ?_) (fun h => ?_)
                · replace h := (ib1_inv h).2
                  cases h
                  exact iRT.ret
                · replace h := (ib1_inv h).2
                  cases h
                  exact iRT.ret
          · obtain ⟨i32, s31, h1, h⟩ := i_o2_inv h
            refine iRT.call (f122_3_ok L N (d + 2) _ _ h1) ?_
            refine iRT.ite h (fun h => ?_) (fun h => ?_)
            · replace h := (ib1_inv h).2
              cases h
              exact iRT.ret
            · obtain ⟨i34, s33, h1, h⟩ := i_o2_inv h
              refine iRT.call (f127_3_47_ok L N (d + 1)  _ h1) ?_
              refine iRT.ite h (fun h => ?_) (fun h => ?_)
              · replace h := (ib1_inv h).2
                cases h
                exact iRT.ret
              · replace h := (ib1_inv h).2
                cases h
                exact iRT.ret
        · obtain ⟨i36, s35, h1, h⟩ := i_o2_inv h
          refine iRT.call (f122_3_ok L N (d + 2) _ _ h1) ?_
          refine iRT.ite h (fun h => ?_) (fun h => ?_)
          · replace h := (ib1_inv h).2
            cases h
            exact iRT.ret
          · obtain ⟨i38, s37, h1, h⟩ := i_o2_inv h
            refine iRT.call (f126_3_47_ok L N (d + 1)  _ h1) ?_
            refine iRT.ite h (fun h => ?_) (fun h => ?_)
            · replace h := (ib1_inv h).2
              cases h
              exact iRT.ret
            · replace h := (ib1_inv h).2
              cases h
              exact iRT.ret
      · obtain ⟨i40, s39, h1, h⟩ := i_o2_inv h
        refine iRT.call (f125_3_47_ok L N (d + 1)  _ h1) ?_
        refine iRT.b1 h fun h => ?_
        cases h
        exact iRT.ret
    · obtain ⟨i42, s41, h1, h⟩ := i_o2_inv h
      refine iRT.call (f124_3_47_ok L N (d + 0)  _ h1) ?_
      refine iRT.b1 h fun h => ?_
      cases h
      exact iRT.ret
  · obtain ⟨i44, s43, h1, h⟩ := i_o2_inv h
    refine iRT.call (f123_3_47_ok L N (d + 0)  _ h1) ?_
    refine iRT.b1 h fun h => ?_
    cases h
    exact iRT.ret
-- GutterNine$YardReader.read
set_option maxHeartbeats 100000 in
theorem f120_3_47_at18_ok (L N d : Nat) : ∀ (n : Nat) (x2 : Int) (s : gI) (o : Int × gI), f120_at18 N n x2 s = some o → iRR false L (d + 9) kj120 k120_18 [some (vR 3), some (vR 47), some (vI x2)] [] (s, g_rho) (some (vI o.1), (o.2, g_rho)) := by
  intro n
  induction n with
  | zero => intro _ _ _ h; cases h
  | succ n ih =>
    intro x2 s o h
    refine iRR.of 401 ?_
    refine iRT.ite h (fun h => ?_) (fun h => ?_)
    · replace h := (ib1_inv h).2
      cases h
      exact iRT.ret
    · refine iRT.ite h (fun h => ?_) (fun h => ?_)
      · replace h := (ib1_inv h).2
        cases h
        exact iRT.ret
      · obtain ⟨i2, s1, h1, h⟩ := i_o2_inv h
        refine iRT.call (f121_3_47_ok L N (d + 0)  _ h1) ?_
        refine iRT.ite h (fun h => ?_) (fun h => ?_)
        · replace h := (ib1_inv h).2
          cases h
          exact iRT.ret
        · obtain ⟨i4, s3, h1, h⟩ := i_o2_inv h
          refine iRT.call (f106_1_ok L N (d + 3)  _ h1) ?_
          refine iRT.ite h (fun h => ?_) (fun h => ?_)
          · replace h := (ib1_inv h).2
            cases h
            exact iRT.ret
          · refine iRT.ov h fun h => ?_
            exact iRT.go 1 (ih _ _ _ h) (fun _ _ => rfl)
set_option maxHeartbeats 100000 in
theorem f120_3_47_ok (L N d : Nat) (s : gI) {o : Int × gI} (h : f120 N  s = some o) : iEE L (d + 10) 120 [vR 3, vR 47] (s, g_rho) (some (vI o.1), (o.2, g_rho)) := by
  refine iEE.of (wr := false) (d := d + 9) (md := gm_120) rfl rfl rfl (iRR.of 11 ?_)
  obtain ⟨s1, h1, h⟩ := i_o1_inv h
  refine iRT.call (f115_47_ok L N (d + 6)  _ h1) ?_
  obtain ⟨s3, h1, h⟩ := i_o1_inv h
  refine iRT.call (f96_1_ok L N (d + 3)  _ h1) ?_
  exact iRT.go 2 (f120_3_47_at18_ok L N d N _ _ _ h) (fun _ _ => rfl)
-- java/util/Arrays.fill
set_option maxHeartbeats 100000 in
theorem f321_7Y_at5_ok (L N d : Nat) : ∀ (n : Nat) (x1 : Int) (x2 : Int) (x3 : Int) (s : gI) (o : gI), f321_at5 N 7 8 n x1 x2 x3 s = some o → iRR false L (d + 0) kj321 k321_5 [some (vR 7), some (vI x1), some (vI x2), some (vI x3)] [] (s, i_rhoY) (none, (o, i_rhoY)) := by
  intro n
  induction n with
  | zero => intro _ _ _ _ _ h; cases h
  | succ n ih =>
    intro x1 x2 x3 s o h
    refine iRR.of 401 ?_
    refine iRT.ite h (fun h => ?_) (fun h => ?_)
    · cases h
      exact iRT.ret
    · refine iRT.ck h fun h => ?_
      refine iRT.ov h fun h => ?_
      exact iRT.go 1 (ih _ _ _ _ _ h) (fun _ _ => rfl)
set_option maxHeartbeats 100000 in
theorem f321_7Y_ok (L N d : Nat) (x1 : Int) (s : gI) {o : gI} (h : f321 N 7 8 x1 s = some o) : iEE L (d + 1) 321 [vR 7, vI x1] (s, i_rhoY) (none, (o, i_rhoY)) := by
  refine iEE.of (wr := false) (d := d + 0) (md := gm_321) rfl rfl rfl (iRR.of 6 ?_)
  replace h := (iov_inv h).2
  exact iRT.go 5 (f321_7Y_at5_ok L N d N _ _ _ _ _ h) (fun _ _ => rfl)
-- java/util/Arrays.fill
set_option maxHeartbeats 100000 in
theorem f321_8Y_at5_ok (L N d : Nat) : ∀ (n : Nat) (x1 : Int) (x2 : Int) (x3 : Int) (s : gI) (o : gI), f321_at5 N 8 8 n x1 x2 x3 s = some o → iRR false L (d + 0) kj321 k321_5 [some (vR 8), some (vI x1), some (vI x2), some (vI x3)] [] (s, i_rhoY) (none, (o, i_rhoY)) := by
  intro n
  induction n with
  | zero => intro _ _ _ _ _ h; cases h
  | succ n ih =>
    intro x1 x2 x3 s o h
    refine iRR.of 401 ?_
    refine iRT.ite h (fun h => ?_) (fun h => ?_)
    · cases h
      exact iRT.ret
    · refine iRT.ck h fun h => ?_
      refine iRT.ov h fun h => ?_
      exact iRT.go 1 (ih _ _ _ _ _ h) (fun _ _ => rfl)
set_option maxHeartbeats 100000 in
theorem f321_8Y_ok (L N d : Nat) (x1 : Int) (s : gI) {o : gI} (h : f321 N 8 8 x1 s = some o) : iEE L (d + 1) 321 [vR 8, vI x1] (s, i_rhoY) (none, (o, i_rhoY)) := by
  refine iEE.of (wr := false) (d := d + 0) (md := gm_321) rfl rfl rfl (iRR.of 6 ?_)
  replace h := (iov_inv h).2
  exact iRT.go 5 (f321_8Y_at5_ok L N d N _ _ _ _ _ h) (fun _ _ => rfl)
-- java/util/Arrays.fill
set_option maxHeartbeats 100000 in
theorem f321_9Y_at5_ok (L N d : Nat) : ∀ (n : Nat) (x1 : Int) (x2 : Int) (x3 : Int) (s : gI) (o : gI), f321_at5 N 9 64 n x1 x2 x3 s = some o → iRR false L (d + 0) kj321 k321_5 [some (vR 9), some (vI x1), some (vI x2), some (vI x3)] [] (s, i_rhoY) (none, (o, i_rhoY)) := by
  intro n
  induction n with
  | zero => intro _ _ _ _ _ h; cases h
  | succ n ih =>
    intro x1 x2 x3 s o h
    refine iRR.of 401 ?_
    refine iRT.ite h (fun h => ?_) (fun h => ?_)
    · cases h
      exact iRT.ret
    · refine iRT.ck h fun h => ?_
      refine iRT.ov h fun h => ?_
      exact iRT.go 1 (ih _ _ _ _ _ h) (fun _ _ => rfl)
set_option maxHeartbeats 100000 in
theorem f321_9Y_ok (L N d : Nat) (x1 : Int) (s : gI) {o : gI} (h : f321 N 9 64 x1 s = some o) : iEE L (d + 1) 321 [vR 9, vI x1] (s, i_rhoY) (none, (o, i_rhoY)) := by
  refine iEE.of (wr := false) (d := d + 0) (md := gm_321) rfl rfl rfl (iRR.of 6 ?_)
  replace h := (iov_inv h).2
  exact iRT.go 5 (f321_9Y_at5_ok L N d N _ _ _ _ _ h) (fun _ _ => rfl)
-- java/util/Arrays.fill
set_option maxHeartbeats 100000 in
theorem f321_10Y_at5_ok (L N d : Nat) : ∀ (n : Nat) (x1 : Int) (x2 : Int) (x3 : Int) (s : gI) (o : gI), f321_at5 N 10 8 n x1 x2 x3 s = some o → iRR false L (d + 0) kj321 k321_5 [some (vR 10), some (vI x1), some (vI x2), some (vI x3)] [] (s, i_rhoY) (none, (o, i_rhoY)) := by
  intro n
  induction n with
  | zero => intro _ _ _ _ _ h; cases h
  | succ n ih =>
    intro x1 x2 x3 s o h
    refine iRR.of 401 ?_
    refine iRT.ite h (fun h => ?_) (fun h => ?_)
    · cases h
      exact iRT.ret
    · refine iRT.ck h fun h => ?_
      refine iRT.ov h fun h => ?_
      exact iRT.go 1 (ih _ _ _ _ _ h) (fun _ _ => rfl)
set_option maxHeartbeats 100000 in
theorem f321_10Y_ok (L N d : Nat) (x1 : Int) (s : gI) {o : gI} (h : f321 N 10 8 x1 s = some o) : iEE L (d + 1) 321 [vR 10, vI x1] (s, i_rhoY) (none, (o, i_rhoY)) := by
  refine iEE.of (wr := false) (d := d + 0) (md := gm_321) rfl rfl rfl (iRR.of 6 ?_)
  replace h := (iov_inv h).2
  exact iRT.go 5 (f321_10Y_at5_ok L N d N _ _ _ _ _ h) (fun _ _ => rfl)
-- GutterNine$Scene.clear
set_option maxHeartbeats 100000 in
theorem f87_6Y_ok (L N d : Nat) (s : gI) {o : gI} (h : f87 N  s = some o) : iEE L (d + 2) 87 [vR 6] (s, i_rhoY) (none, (o, i_rhoY)) := by
  refine iEE.of (wr := false) (d := d + 1) (md := gm_87) rfl rfl rfl (iRR.of 401 ?_)
  obtain ⟨s1, h1, h⟩ := i_o1_inv h
  refine iRT.call (f321_7Y_ok L N (d + 0) _ _ h1) ?_
  obtain ⟨s2, h1, h⟩ := i_o1_inv h
  refine iRT.call (f321_8Y_ok L N (d + 0) _ _ h1) ?_
  obtain ⟨s3, h1, h⟩ := i_o1_inv h
  refine iRT.call (f321_9Y_ok L N (d + 0) _ _ h1) ?_
  obtain ⟨s4, h1, h⟩ := i_o1_inv h
  refine iRT.call (f321_10Y_ok L N (d + 0) _ _ h1) ?_
  cases h
  exact iRT.ret
-- GutterNine$Past.clear
set_option maxHeartbeats 100000 in
theorem f41_41Y_ok (L N d : Nat) (s : gI) {o : gI} (h : f41 N  s = some o) : iEE L (d + 1) 41 [vR 41] (s, i_rhoY) (none, (o, i_rhoY)) := by
  refine iEE.of (wr := false) (d := d + 0) (md := gm_41) rfl rfl rfl (iRR.of 401 ?_)
  cases h
  exact iRT.ret
-- GutterNine.startAnew
set_option maxHeartbeats 100000 in
theorem f165_0Y_ok (L N d : Nat) (s : gI) {o : gI} (h : f165 N  s = some o) : iEE L (d + 3) 165 [vR 0] (s, i_rhoY) (none, (o, i_rhoY)) := by
  refine iEE.of (wr := false) (d := d + 2) (md := gm_165) rfl rfl rfl (iRR.of 401 ?_)
  obtain ⟨s1, h1, h⟩ := i_o1_inv h
  refine iRT.call (f87_6Y_ok L N (d + 0)  _ h1) ?_
  obtain ⟨s2, h1, h⟩ := i_o1_inv h
  refine iRT.call (f41_41Y_ok L N (d + 1)  _ h1) ?_
  cases h
  exact iRT.ret
-- GutterNine.yard
set_option maxHeartbeats 100000 in
theorem f136_0_ok (L N d : Nat) (s : gI) {o : Int × gI × (Nat → Nat → Nat)} (h : f136 N  s = some o) : iEE L (d + 11) 136 [vR 0] (s, g_rho) (some (vI o.1), (o.2.1, o.2.2)) := by
  refine iEE.of (wr := false) (d := d + 10) (md := gm_136) rfl rfl rfl (iRR.of 401 ?_)
  obtain ⟨i2, s1, h1, h⟩ := i_o2_inv h
  refine iRT.call (f120_3_47_ok L N (d + 0)  _ h1) ?_
  refine iRT.ite h (fun h => ?_) (fun h => ?_)
  · cases h
    exact iRT.ret
  · obtain ⟨s4, h1, h⟩ := i_o1_inv h
    refine iRT.call (f165_0Y_ok L N (d + 7)  _ h1) ?_
    cases h
    exact iRT.ret
-- GutterNine$Roof.has
set_option maxHeartbeats 100000 in
theorem f78_12_ok (L N d : Nat) (x1 : Int) (x2 : Int) (s : gI) {o : Int × gI} (h : f78 N x1 x2 s = some o) : iEE L (d + 1) 78 [vR 12, vI x1, vI x2] (s, g_rho) (some (vI o.1), (o.2, g_rho)) := by
  refine iEE.of (wr := false) (d := d + 0) (md := gm_78) rfl rfl rfl (iRR.of 401 ?_)
  refine iRT.ite h (fun h => ?_) (fun h => ?_)
  · replace h := (ib1_inv h).2
    cases h
    exact iRT.ret
  · refine iRT.ite h (fun h => ?_) (fun h => ?_)
    · replace h := (ib1_inv h).2
      cases h
      exact iRT.ret
    · refine iRT.ite h (fun h => ?_) (fun h => ?_)
      · replace h := (ib1_inv h).2
        cases h
        exact iRT.ret
      · refine iRT.ite h (fun h => ?_) (fun h => ?_)
        · replace h := (ib1_inv h).2
          cases h
          exact iRT.ret
        · replace h := (ib1_inv h).2
          cases h
          exact iRT.ret
-- GutterNine.tile
set_option maxHeartbeats 100000 in
theorem f137_0_ok (L N d : Nat) (x1 : Int) (x2 : Int) (x3 : Int) (s : gI) {o : Int × gI} (h : f137 N x1 x2 x3 s = some o) : iEE L (d + 2) 137 [vR 0, vI x1, vI x2, vI x3] (s, g_rho) (some (vI o.1), (o.2, g_rho)) := by
  refine iEE.of (wr := false) (d := d + 1) (md := gm_137) rfl rfl rfl (iRR.of 401 ?_)
  obtain ⟨i2, s1, h1, h⟩ := i_o2_inv h
  refine iRT.call (f78_12_ok L N (d + 0) _ _ _ h1) ?_
  refine iRT.ite h (fun h => ?_) (fun h => ?_)
  · cases h
    exact iRT.ret
  · refine iRT.ov h fun h => ?_
    refine iRT.ov h fun h => ?_
    refine iRT.ite h (fun h => ?_) (fun h => ?_)
    · refine iRT.ck h fun h => ?_
      cases h
      exact iRT.ret
    · refine iRT.ite h (fun h => ?_) (fun h => ?_)
      · refine iRT.ck h fun h => ?_
        cases h
        exact iRT.ret
      · cases h
        exact iRT.ret
-- GutterNine.isThing
set_option maxHeartbeats 100000 in
theorem f167_0_ok (L N d : Nat) (x1 : Int) (s : gI) {o : Int × gI} (h : f167 N x1 s = some o) : iEE L (d + 1) 167 [vR 0, vI x1] (s, g_rho) (some (vI o.1), (o.2, g_rho)) := by
  refine iEE.of (wr := false) (d := d + 0) (md := gm_167) rfl rfl rfl (iRR.of 401 ?_)
  refine iRT.ite h (fun h => ?_) (fun h => ?_)
  · replace h := (ib1_inv h).2
    cases h
    exact iRT.ret
  · refine iRT.ite h (fun h => ?_) (fun h => ?_)
    · replace h := (ib1_inv h).2
      cases h
      exact iRT.ret
    · replace h := (ib1_inv h).2
      cases h
      exact iRT.ret
-- GutterNine.told
set_option maxHeartbeats 100000 in
theorem f171_ok (L N d : Nat) (x0 : Int) (s : gI) {o : Int × gI} (h : f171 N x0 s = some o) : iEE L (d + 1) 171 [vI x0] (s, g_rho) (some (vI o.1), (o.2, g_rho)) := by
  refine iEE.of (wr := false) (d := d + 0) (md := gm_171) rfl rfl rfl (iRR.of 401 ?_)
  refine iRT.ite h (fun h => ?_) (fun h => ?_)
  · cases h
    exact iRT.ret
  · cases h
    exact iRT.ret
-- GutterNine.thing
set_option maxHeartbeats 100000 in
theorem f138_0_ok (L N d : Nat) (x1 : Int) (x2 : Int) (s : gI) {o : Int × gI} (h : f138 N x1 x2 s = some o) : iEE L (d + 2) 138 [vR 0, vI x1, vI x2] (s, g_rho) (some (vI o.1), (o.2, g_rho)) := by
  refine iEE.of (wr := false) (d := d + 1) (md := gm_138) rfl rfl rfl (iRR.of 401 ?_)
  obtain ⟨i2, s1, h1, h⟩ := i_o2_inv h
  refine iRT.call (f167_0_ok L N (d + 0) _ _ h1) ?_
  refine iRT.ite h (fun h => ?_) (fun h => ?_)
  · cases h
    exact iRT.ret
  · rcases iRT.cs h with ⟨hx0, h⟩ | ⟨hx0, h⟩
    · refine iRT.swin hx0 (off := 33) (by decide) (by decide) (by decide) ?_
      refine iRT.ck h fun h => ?_
      cases h
      exact iRT.ret
    · skip
      rcases iRT.cs h with ⟨hx1, h⟩ | ⟨hx1, h⟩
      · refine iRT.swin hx1 (off := 46) (by decide) (by decide) (by decide) ?_
        refine iRT.ck h fun h => ?_
        cases h
        exact iRT.ret
      · skip
        rcases iRT.cs h with ⟨hx2, h⟩ | ⟨hx2, h⟩
        · refine iRT.swin hx2 (off := 59) (by decide) (by decide) (by decide) ?_
          refine iRT.ck h fun h => ?_
          cases h
          exact iRT.ret
        · skip
          rcases iRT.cs h with ⟨hx3, h⟩ | ⟨hx3, h⟩
          · refine iRT.swin hx3 (off := 72) (by decide) (by decide) (by decide) ?_
            refine iRT.ck h fun h => ?_
            obtain ⟨i4, s3, h1, h⟩ := i_o2_inv h
            refine iRT.call (f171_ok L N (d + 0) _ _ h1) ?_
            cases h
            exact iRT.ret
          · skip
            rcases iRT.cs h with ⟨hx4, h⟩ | ⟨hx4, h⟩
            · refine iRT.swin hx4 (off := 85) (by decide) (by decide) (by decide) ?_
              refine iRT.ck h fun h => ?_
              cases h
              exact iRT.ret
            · skip
              refine iRT.swout (by omega) (by decide) ?_
              cases h
              exact iRT.ret
-- GutterNine.isPerson
set_option maxHeartbeats 100000 in
theorem f166_0_ok (L N d : Nat) (x1 : Int) (s : gI) {o : Int × gI} (h : f166 N x1 s = some o) : iEE L (d + 1) 166 [vR 0, vI x1] (s, g_rho) (some (vI o.1), (o.2, g_rho)) := by
  refine iEE.of (wr := false) (d := d + 0) (md := gm_166) rfl rfl rfl (iRR.of 401 ?_)
  refine iRT.ite h (fun h => ?_) (fun h => ?_)
  · replace h := (ib1_inv h).2
    cases h
    exact iRT.ret
  · refine iRT.ite h (fun h => ?_) (fun h => ?_)
    · replace h := (ib1_inv h).2
      cases h
      exact iRT.ret
    · replace h := (ib1_inv h).2
      cases h
      exact iRT.ret
-- GutterNine.arm
set_option maxHeartbeats 100000 in
theorem f139_0_ok (L N d : Nat) (x1 : Int) (s : gI) {o : Int × gI} (h : f139 N x1 s = some o) : iEE L (d + 2) 139 [vR 0, vI x1] (s, g_rho) (some (vI o.1), (o.2, g_rho)) := by
  refine iEE.of (wr := false) (d := d + 1) (md := gm_139) rfl rfl rfl (iRR.of 401 ?_)
  obtain ⟨i2, s1, h1, h⟩ := i_o2_inv h
  refine iRT.call (f166_0_ok L N (d + 0) _ _ h1) ?_
  refine iRT.ite h (fun h => ?_) (fun h => ?_)
  · cases h
    exact iRT.ret
  · refine iRT.ck h fun h => ?_
    cases h
    exact iRT.ret
-- GutterNine.canThrow
set_option maxHeartbeats 100000 in
theorem f169_0_ok (L N d : Nat) (x1 : Int) (x2 : Int) (x3 : Int) (x4 : Int) (s : gI) {o : Int × gI} (h : f169 N x1 x2 x3 x4 s = some o) : iEE L (d + 2) 169 [vR 0, vI x1, vI x2, vI x3, vI x4] (s, g_rho) (some (vI o.1), (o.2, g_rho)) := by
  refine iEE.of (wr := false) (d := d + 1) (md := gm_169) rfl rfl rfl (iRR.of 401 ?_)
  obtain ⟨i2, s1, h1, h⟩ := i_o2_inv h
  refine iRT.call (f166_0_ok L N (d + 0) _ _ h1) ?_
  refine iRT.ite h (fun h => ?_) (fun h => ?_)
  · replace h := (ib1_inv h).2
    cases h
    exact iRT.ret
  · obtain ⟨i4, s3, h1, h⟩ := i_o2_inv h
    refine iRT.call (f167_0_ok L N (d + 0) _ _ h1) ?_
    refine iRT.ite h (fun h => ?_) (fun h => ?_)
    · replace h := (ib1_inv h).2
      cases h
      exact iRT.ret
    · obtain ⟨i6, s5, h1, h⟩ := i_o2_inv h
      refine iRT.call (f78_12_ok L N (d + 0) _ _ _ h1) ?_
      refine iRT.ite h (fun h => ?_) (fun h => ?_)
      · replace h := (ib1_inv h).2
        cases h
        exact iRT.ret
      · refine iRT.ck h fun h => ?_
        refine iRT.ite h (fun h => ?_) (fun h => ?_)
        · replace h := (ib1_inv h).2
          cases h
          exact iRT.ret
        · replace h := (ib1_inv h).2
          cases h
          exact iRT.ret
-- GutterNine$Scene.save
set_option maxHeartbeats 100000 in
theorem f90_6_42_ok (L N d : Nat) (x2 : Int) (s : gI) {o : gI} (h : f90 N 42 416 x2 s = some o) : iEE L (d + 1) 90 [vR 6, vR 42, vI x2] (s, g_rho) (none, (o, g_rho)) := by
  refine iEE.of (wr := false) (d := d + 0) (md := gm_90) rfl rfl rfl (iRR.of 401 ?_)
  refine iRT.ov h fun h => ?_
  refine iRT.cp h fun h => ?_
  refine iRT.ov h fun h => ?_
  refine iRT.cp h fun h => ?_
  refine iRT.ov h fun h => ?_
  refine iRT.cp h fun h => ?_
  refine iRT.ov h fun h => ?_
  refine iRT.ck h fun h => ?_
  refine iRT.ov h fun h => ?_
  refine iRT.ck h fun h => ?_
  cases h
  exact iRT.ret
-- GutterNine$Past.remember
set_option maxHeartbeats 100000 in
theorem f42_41_6_ok (L N d : Nat) (s : gI) {o : gI} (h : f42 N  s = some o) : iEE L (d + 2) 42 [vR 41, vR 6] (s, g_rho) (none, (o, g_rho)) := by
  refine iEE.of (wr := false) (d := d + 1) (md := gm_42) rfl rfl rfl (iRR.of 401 ?_)
  obtain ⟨s1, h1, h⟩ := i_o1_inv h
  refine iRT.call (f90_6_42_ok L N (d + 0) _ _ h1) ?_
  refine iRT.ov h fun h => ?_
  refine iRT.dv h fun h => ?_
  refine iRT.ov h fun h => ?_
  cases h
  exact iRT.ret
-- GutterNine$Roof.landing
set_option maxHeartbeats 100000 in
theorem f83_12_9_ok (L N d : Nat) (x1 : Int) (x2 : Int) (s : gI) {o : Int × gI} (h : f83 N 9 x1 x2 s = some o) : iEE L (d + 1) 83 [vR 12, vI x1, vI x2, vR 9] (s, g_rho) (some (vI o.1), (o.2, g_rho)) := by
  refine iEE.of (wr := false) (d := d + 0) (md := gm_83) rfl rfl rfl (iRR.of 401 ?_)
  refine iRT.ite h (fun h => ?_) (fun h => ?_)
  · cases h
    exact iRT.ret
  · refine iRT.ite h (fun h => ?_) (fun h => ?_)
    · cases h
      exact iRT.ret
    · refine iRT.ite h (fun h => ?_) (fun h => ?_)
      · refine iRT.ite h (fun h => ?_) (fun h => ?_)
        · refine iRT.ov h fun h => ?_
          refine iRT.ov h fun h => ?_
          refine iRT.ck h fun h => ?_
          refine iRT.ite h (fun h => ?_) (fun h => ?_)
          · cases h
            exact iRT.ret
          · refine iRT.ck h fun h => ?_
            refine iRT.ite h (fun h => ?_) (fun h => ?_)
            · refine iRT.ck h fun h => ?_
              refine iRT.ite h (fun h => ?_) (fun h => ?_)
              · cases h
                exact iRT.ret
              · refine iRT.ov h fun h => ?_
                cases h
                exact iRT.ret
            · cases h
              exact iRT.ret
        · cases h
          exact iRT.ret
      · cases h
        exact iRT.ret
-- GutterNine$Scene.cellOf
set_option maxHeartbeats 100000 in
theorem f89_ok (L N d : Nat) (x0 : Int) (s : gI) {o : Int × gI} (h : f89 N x0 s = some o) : iEE L (d + 1) 89 [vI x0] (s, g_rho) (some (vI o.1), (o.2, g_rho)) := by
  refine iEE.of (wr := false) (d := d + 0) (md := gm_89) rfl rfl rfl (iRR.of 401 ?_)
  refine iRT.ite h (fun h => ?_) (fun h => ?_)
  · refine iRT.ite h (fun h => ?_) (fun h => ?_)
    · cases h
      exact iRT.ret
    · cases h
      exact iRT.ret
  · refine iRT.ov h fun h => ?_
    cases h
    exact iRT.ret
-- GutterNine$Scene.put
set_option maxHeartbeats 100000 in
theorem f88_6_at22_ok (L N d : Nat) (x1 : Int) (x2 : Int) {u3 : Option iV} {u4 : Option iV} (s : gI) {o : gI} (h : f88_at22 N x1 x2 s = some o) : iRR false L (d + 1) kj88 k88_22 [some (vR 6), some (vI x1), some (vI x2), u3, u4] [] (s, g_rho) (none, (o, g_rho)) := by
  refine iRR.of 401 ?_
  refine iRT.ck h fun h => ?_
  obtain ⟨i3, s2, h1, h⟩ := i_o2_inv h
  refine iRT.call (f89_ok L N (d + 0) _ _ h1) ?_
  refine iRT.ite h (fun h => ?_) (fun h => ?_)
  · cases h
    exact iRT.ret
  · refine iRT.ck h fun h => ?_
    cases h
    exact iRT.ret
set_option maxHeartbeats 100000 in
theorem f88_6_ok (L N d : Nat) (x1 : Int) (x2 : Int) (s : gI) {o : gI} (h : f88 N x1 x2 s = some o) : iEE L (d + 2) 88 [vR 6, vI x1, vI x2] (s, g_rho) (none, (o, g_rho)) := by
  refine iEE.of (wr := false) (d := d + 1) (md := gm_88) rfl rfl rfl (iRR.of 15 ?_)
  refine iRT.ck h fun h => ?_
  obtain ⟨i2, s1, h1, h⟩ := i_o2_inv h
  refine iRT.call (f89_ok L N (d + 0) _ _ h1) ?_
  refine iRT.ite h (fun h => ?_) (fun h => ?_)
  · exact iRT.go 0 (f88_6_at22_ok L N d _ _ _ h) (fun _ _ => rfl)
  · refine iRT.ck h fun h => ?_
    exact iRT.go 0 (f88_6_at22_ok L N d _ _ _ h) (fun _ _ => rfl)
-- GutterNine$Play.stepsOf
set_option maxHeartbeats 100000 in
theorem f53_11_ok (L N d : Nat) (x1 : Int) (s : gI) {o : Int × gI} (h : f53 N x1 s = some o) : iEE L (d + 1) 53 [vR 11, vI x1] (s, g_rho) (some (vI o.1), (o.2, g_rho)) := by
  refine iEE.of (wr := false) (d := d + 0) (md := gm_53) rfl rfl rfl (iRR.of 401 ?_)
  refine iRT.ck h fun h => ?_
  refine iRT.ite h (fun h => ?_) (fun h => ?_)
  · cases h
    exact iRT.ret
  · refine iRT.ite h (fun h => ?_) (fun h => ?_)
    · cases h
      exact iRT.ret
    · cases h
      exact iRT.ret
-- GutterNine$Roof.step
set_option maxHeartbeats 100000 in
theorem f82_12_9_at48_ok (L N d : Nat) (x1 : Int) (x4 : Int) (x5 : Int) {u2 : Option iV} {u6 : Option iV} (s : gI) {o : Int × gI} (h : f82_at48 N 9 x1 x4 x5 s = some o) : iRR false L (d + 0) kj82 k82_48 [some (vR 12), some (vI x1), u2, some (vR 9), some (vI x4), some (vI x5), u6] [] (s, g_rho) (some (vI o.1), (o.2, g_rho)) := by
  refine iRR.of 401 ?_
  refine iRT.ite h (fun h => ?_) (fun h => ?_)
  · refine iRT.ite h (fun h => ?_) (fun h => ?_)
    · cases h
      exact iRT.ret
    · refine iRT.ite h (fun h => ?_) (fun h => ?_)
      · cases h
        exact iRT.ret
      · refine iRT.ite h (fun h => ?_) (fun h => ?_)
        · refine iRT.ov h fun h => ?_
          refine iRT.ov h fun h => ?_
          refine iRT.ck h fun h => ?_
          refine iRT.ite h (fun h => ?_) (fun h => ?_)
          · refine iRT.ck h fun h => ?_
            refine iRT.ite h (fun h => ?_) (fun h => ?_)
            · cases h
              exact iRT.ret
            · refine iRT.ov h fun h => ?_
              cases h
              exact iRT.ret
          · refine iRT.ck h fun h => ?_
            refine iRT.ite h (fun h => ?_) (fun h => ?_)
            · cases h
              exact iRT.ret
            · refine iRT.ck h fun h => ?_
              refine iRT.ite h (fun h => ?_) (fun h => ?_)
              · cases h
                exact iRT.ret
              · cases h
                exact iRT.ret
        · cases h
          exact iRT.ret
  · cases h
    exact iRT.ret
set_option maxHeartbeats 100000 in
theorem f82_12_9_at45_ok (L N d : Nat) (x1 : Int) (x5 : Int) (z0 : Int) (z1 : Int) {u2 : Option iV} {u4 : Option iV} {u6 : Option iV} (s : gI) {o : Int × gI} (h : f82_at45 N 9 x1 x5 z0 z1 s = some o) : iRR false L (d + 0) kj82 k82_45 [some (vR 12), some (vI x1), u2, some (vR 9), u4, some (vI x5), u6] [vI z0, vI z1] (s, g_rho) (some (vI o.1), (o.2, g_rho)) := by
  refine iRR.of 3 ?_
  refine iRT.ov h fun h => ?_
  exact iRT.go 1 (f82_12_9_at48_ok L N d _ _ _ _ h) (fun _ _ => rfl)
set_option maxHeartbeats 100000 in
theorem f82_12_9_ok (L N d : Nat) (x1 : Int) (x2 : Int) (s : gI) {o : Int × gI} (h : f82 N 9 x1 x2 s = some o) : iEE L (d + 1) 82 [vR 12, vI x1, vI x2, vR 9] (s, g_rho) (some (vI o.1), (o.2, g_rho)) := by
  refine iEE.of (wr := false) (d := d + 0) (md := gm_82) rfl rfl rfl (iRR.of 20 ?_)
  refine iRT.dv h fun h => ?_
  refine iRT.dv h fun h => ?_
  refine iRT.ite h (fun h => ?_) (fun h => ?_)
  · refine iRT.ov h fun h => ?_
    exact iRT.go 1 (f82_12_9_at48_ok L N d _ _ _ _ h) (fun _ _ => rfl)
  · refine iRT.ite h (fun h => ?_) (fun h => ?_)
    · refine iRT.ov h fun h => ?_
      exact iRT.go 1 (f82_12_9_at48_ok L N d _ _ _ _ h) (fun _ _ => rfl)
    · refine iRT.ite h (fun h => ?_) (fun h => ?_)
      · exact iRT.go 2 (f82_12_9_at45_ok L N d _ _ _ _ _ h) (fun _ _ => rfl)
      · exact iRT.go 1 (f82_12_9_at45_ok L N d _ _ _ _ _ h) (fun _ _ => rfl)
-- GutterNine$Roof.rest
set_option maxHeartbeats 100000 in
theorem f84_12_9_at11_ok (L N d : Nat) : ∀ (n : Nat) (x2 : Int) (y4 : Int) (x6 : Int) (x7 : Int) {u1 u8 u9 : Option iV} (s : gI) (o : Int × gI), f84_at11 N 9 n x2 y4 x6 x7 s = some o → iRR false L (d + 1) kj84 k84_11 [some (vR 12), u1, some (vI x2), some (vR 9), some (vJ y4), none, some (vI x6), some (vI x7), u8, u9] [] (s, g_rho) (some (vI o.1), (o.2, g_rho)) := by
  intro n
  induction n with
  | zero => intro _ _ _ _ _ _ _ _ _ h; cases h
  | succ n ih =>
    intro x2 y4 x6 x7 u1 u8 u9 s o h
    refine iRR.of 401 ?_
    refine iRT.ite h (fun h => ?_) (fun h => ?_)
    · cases h
      exact iRT.ret
    · refine iRT.ck h fun h => ?_
      refine iRT.ov h fun h => ?_
      refine iRT.ite h (fun h => ?_) (fun h => ?_)
      · cases h
        exact iRT.ret
      · refine iRT.ite h (fun h => ?_) (fun h => ?_)
        · obtain ⟨i3, s2, h1, h⟩ := i_o2_inv h
          refine iRT.call (f82_12_9_ok L N (d + 0) _ _ _ h1) ?_
          refine iRT.ite h (fun h => ?_) (fun h => ?_)
          · refine iRT.ite h (fun h => ?_) (fun h => ?_)
            · refine iRT.ov h fun h => ?_
              exact iRT.go 1 (ih _ _ _ _ _ _ h) (fun _ _ => rfl)
            · cases h
              exact iRT.ret
          · cases h
            exact iRT.ret
        · cases h
          exact iRT.ret
set_option maxHeartbeats 100000 in
theorem f84_12_9_ok (L N d : Nat) (x1 : Int) (x2 : Int) (s : gI) {o : Int × gI} (h : f84 N 9 x1 x2 s = some o) : iEE L (d + 2) 84 [vR 12, vI x1, vI x2, vR 9] (s, g_rho) (some (vI o.1), (o.2, g_rho)) := by
  refine iEE.of (wr := false) (d := d + 1) (md := gm_84) rfl rfl rfl (iRR.of 9 ?_)
  exact iRT.go 8 (f84_12_9_at11_ok L N d N _ _ _ _ _ _ h) (fun _ _ => rfl)
-- GutterNine$Play.pushed
set_option maxHeartbeats 100000 in
theorem f51_11_at5_ok (L N d : Nat) : ∀ (n : Nat) (x2 : Int) (x3 : Int) (x4 : Int) {u1 u5 : Option iV} (s : gI) (o : Int × gI), f51_at5 N n x2 x3 x4 s = some o → iRR false L (d + 1) kj51 k51_5 [some (vR 11), u1, some (vI x2), some (vI x3), some (vI x4), u5] [] (s, g_rho) (some (vI o.1), (o.2, g_rho)) := by
  intro n
  induction n with
  | zero => intro _ _ _ _ _ _ _ h; cases h
  | succ n ih =>
    intro x2 x3 x4 u1 u5 s o h
    refine iRR.of 401 ?_
    refine iRT.ite h (fun h => ?_) (fun h => ?_)
    · cases h
      exact iRT.ret
    · refine iRT.ite h (fun h => ?_) (fun h => ?_)
      · cases h
        exact iRT.ret
      · obtain ⟨i2, s1, h1, h⟩ := i_o2_inv h
        refine iRT.call (f82_12_9_ok L N (d + 0) _ _ _ h1) ?_
        refine iRT.ite h (fun h => ?_) (fun h => ?_)
        · cases h
          exact iRT.ret
        · refine iRT.ov h fun h => ?_
          exact iRT.go 1 (ih _ _ _ _ _ h) (fun _ _ => rfl)
set_option maxHeartbeats 100000 in
theorem f51_11_ok (L N d : Nat) (x1 : Int) (x2 : Int) (s : gI) {o : Int × gI} (h : f51 N x1 x2 s = some o) : iEE L (d + 2) 51 [vR 11, vI x1, vI x2] (s, g_rho) (some (vI o.1), (o.2, g_rho)) := by
  refine iEE.of (wr := false) (d := d + 1) (md := gm_51) rfl rfl rfl (iRR.of 5 ?_)
  exact iRT.go 4 (f51_11_at5_ok L N d N _ _ _ _ _ h) (fun _ _ => rfl)
-- GutterNine$Play.moveOn
set_option maxHeartbeats 100000 in
theorem f52_11_ok (L N d : Nat) (x1 : Int) (x2 : Int) (s : gI) {o : gI} (h : f52 N x1 x2 s = some o) : iEE L (d + 3) 52 [vR 11, vI x1, vI x2] (s, g_rho) (none, (o, g_rho)) := by
  refine iEE.of (wr := false) (d := d + 2) (md := gm_52) rfl rfl rfl (iRR.of 401 ?_)
  obtain ⟨s1, h1, h⟩ := i_o1_inv h
  refine iRT.call (f88_6_ok L N (d + 0) _ _ _ h1) ?_
  refine iRT.ite h (fun h => ?_) (fun h => ?_)
  · cases h
    exact iRT.ret
  · obtain ⟨i3, s2, h1, h⟩ := i_o2_inv h
    refine iRT.call (f53_11_ok L N (d + 1) _ _ h1) ?_
    obtain ⟨i5, s4, h1, h⟩ := i_o2_inv h
    refine iRT.call (f84_12_9_ok L N (d + 0) _ _ _ h1) ?_
    obtain ⟨s6, h1, h⟩ := i_o1_inv h
    refine iRT.call (f88_6_ok L N (d + 0) _ _ _ h1) ?_
    cases h
    exact iRT.ret
-- GutterNine$Play.land
set_option maxHeartbeats 100000 in
theorem f49_11_at140_ok (L N d : Nat) (x1 : Int) (x4 : Int) (x5 : Int) {u2 : Option iV} {u3 : Option iV} {u6 : Option iV} (s : gI) {o : Int × gI} (h : f49_at140 N x1 x4 x5 s = some o) : iRR false L (d + 3) kj49 k49_140 [some (vR 11), some (vI x1), u2, u3, some (vI x4), some (vI x5), u6] [] (s, g_rho) (some (vI o.1), (o.2, g_rho)) := by
  refine iRR.of 401 ?_
  obtain ⟨s1, h1, h⟩ := i_o1_inv h
  refine iRT.call (f88_6_ok L N (d + 1) _ _ _ h1) ?_
  cases h
  exact iRT.ret
set_option maxHeartbeats 100000 in
theorem f49_11_at110_ok (L N d : Nat) (x1 : Int) (x4 : Int) (x5 : Int) {u2 : Option iV} {u3 : Option iV} {u6 : Option iV} (s : gI) {o : Int × gI} (h : f49_at110 N x1 x4 x5 s = some o) : iRR false L (d + 3) kj49 k49_110 [some (vR 11), some (vI x1), u2, u3, some (vI x4), some (vI x5), u6] [] (s, g_rho) (some (vI o.1), (o.2, g_rho)) := by
  refine iRR.of 15 ?_
  refine iRT.ite h (fun h => ?_) (fun h => ?_)
  · exact iRT.go 0 (f49_11_at140_ok L N d _ _ _ _ h) (fun _ _ => rfl)
  · obtain ⟨i2, s1, h1, h⟩ := i_o2_inv h
    refine iRT.call (f53_11_ok L N (d + 2) _ _ h1) ?_
    obtain ⟨i4, s3, h1, h⟩ := i_o2_inv h
    refine iRT.call (f84_12_9_ok L N (d + 1) _ _ _ h1) ?_
    exact iRT.go 1 (f49_11_at140_ok L N d _ _ _ _ h) (fun _ _ => rfl)
set_option maxHeartbeats 100000 in
theorem f49_11_at108_ok (L N d : Nat) (x1 : Int) (x5 : Int) (z0 : Int) {u2 : Option iV} {u3 : Option iV} {u4 : Option iV} {u6 : Option iV} (s : gI) {o : Int × gI} (h : f49_at108 N x1 x5 z0 s = some o) : iRR false L (d + 3) kj49 k49_108 [some (vR 11), some (vI x1), u2, u3, u4, some (vI x5), u6] [vI z0] (s, g_rho) (some (vI o.1), (o.2, g_rho)) := by
  refine iRR.of 2 ?_
  exact iRT.go 1 (f49_11_at110_ok L N d _ _ _ _ h) (fun _ _ => rfl)
set_option maxHeartbeats 100000 in
theorem f49_11_at88_ok (L N d : Nat) (x1 : Int) (x4 : Int) (x5 : Int) {u2 : Option iV} {u3 : Option iV} {u6 : Option iV} (s : gI) {o : Int × gI} (h : f49_at88 N x1 x4 x5 s = some o) : iRR false L (d + 3) kj49 k49_88 [some (vR 11), some (vI x1), u2, u3, some (vI x4), some (vI x5), u6] [] (s, g_rho) (some (vI o.1), (o.2, g_rho)) := by
  refine iRR.of 9 ?_
  refine iRT.ck h fun h => ?_
  refine iRT.ite h (fun h => ?_) (fun h => ?_)
  · exact iRT.go 1 (f49_11_at108_ok L N d _ _ _ _ h) (fun _ _ => rfl)
  · exact iRT.go 2 (f49_11_at108_ok L N d _ _ _ _ h) (fun _ _ => rfl)
set_option maxHeartbeats 100000 in
theorem f49_11_at68_ok (L N d : Nat) (x1 : Int) (x4 : Int) (x5 : Int) (z0 : Int) (z1 : Int) {u2 : Option iV} {u3 : Option iV} {u6 : Option iV} (s : gI) {o : Int × gI} (h : f49_at68 N x1 x4 x5 z0 z1 s = some o) : iRR false L (d + 3) kj49 k49_68 [some (vR 11), some (vI x1), u2, u3, some (vI x4), some (vI x5), u6] [vI z0, vI z1, vR 11] (s, g_rho) (some (vI o.1), (o.2, g_rho)) := by
  refine iRR.of 10 ?_
  obtain ⟨i2, s1, h1, h⟩ := i_o2_inv h
  refine iRT.call (f51_11_ok L N (d + 1) _ _ _ h1) ?_
  refine iRT.ite h (fun h => ?_) (fun h => ?_)
  · exact iRT.go 0 (f49_11_at88_ok L N d _ _ _ _ h) (fun _ _ => rfl)
  · obtain ⟨s3, h1, h⟩ := i_o1_inv h
    refine iRT.call (f52_11_ok L N (d + 0) _ _ _ h1) ?_
    exact iRT.go 0 (f49_11_at88_ok L N d _ _ _ _ h) (fun _ _ => rfl)
set_option maxHeartbeats 100000 in
theorem f49_11_at39_ok (L N d : Nat) (x1 : Int) (x4 : Int) (z0 : Int) {u2 : Option iV} {u3 : Option iV} {u5 : Option iV} {u6 : Option iV} (s : gI) {o : Int × gI} (h : f49_at39 N x1 x4 z0 s = some o) : iRR false L (d + 3) kj49 k49_39 [some (vR 11), some (vI x1), u2, u3, some (vI x4), u5, u6] [vI z0] (s, g_rho) (some (vI o.1), (o.2, g_rho)) := by
  refine iRR.of 16 ?_
  refine iRT.ite h (fun h => ?_) (fun h => ?_)
  · exact iRT.go 0 (f49_11_at110_ok L N d _ _ _ _ h) (fun _ _ => rfl)
  · refine iRT.ck h fun h => ?_
    refine iRT.ite h (fun h => ?_) (fun h => ?_)
    · exact iRT.go 2 (f49_11_at68_ok L N d _ _ _ _ _ _ h) (fun _ _ => rfl)
    · exact iRT.go 1 (f49_11_at68_ok L N d _ _ _ _ _ _ h) (fun _ _ => rfl)
set_option maxHeartbeats 100000 in
theorem f49_11_ok (L N d : Nat) (x1 : Int) (x2 : Int) (x3 : Int) (s : gI) {o : Int × gI} (h : f49 N x1 x2 x3 s = some o) : iEE L (d + 4) 49 [vR 11, vI x1, vI x2, vI x3] (s, g_rho) (some (vI o.1), (o.2, g_rho)) := by
  refine iEE.of (wr := false) (d := d + 3) (md := gm_49) rfl rfl rfl (iRR.of 19 ?_)
  obtain ⟨i2, s1, h1, h⟩ := i_o2_inv h
  refine iRT.call (f83_12_9_ok L N (d + 2) _ _ _ h1) ?_
  refine iRT.ite h (fun h => ?_) (fun h => ?_)
  · exact iRT.go 1 (f49_11_at39_ok L N d _ _ _ _ h) (fun _ _ => rfl)
  · refine iRT.ck h fun h => ?_
    exact iRT.go 1 (f49_11_at39_ok L N d _ _ _ _ h) (fun _ _ => rfl)
-- GutterNine.toss
set_option maxHeartbeats 100000 in
theorem f140_0_ok (L N d : Nat) (x1 : Int) (x2 : Int) (x3 : Int) (x4 : Int) (x5 : Int) (s : gI) {o : Int × gI} (h : f140 N x1 x2 x3 x4 x5 s = some o) : iEE L (d + 5) 140 [vR 0, vI x1, vI x2, vI x3, vI x4, vI x5] (s, g_rho) (some (vI o.1), (o.2, g_rho)) := by
  refine iEE.of (wr := false) (d := d + 4) (md := gm_140) rfl rfl rfl (iRR.of 401 ?_)
  obtain ⟨i2, s1, h1, h⟩ := i_o2_inv h
  refine iRT.call (f169_0_ok L N (d + 2) _ _ _ _ _ h1) ?_
  refine iRT.ite h (fun h => ?_) (fun h => ?_)
  · cases h
    exact iRT.ret
  · refine iRT.ite h (fun h => ?_) (fun h => ?_)
    · cases h
      exact iRT.ret
    · refine iRT.ite h (fun h => ?_) (fun h => ?_)
      · obtain ⟨s3, h1, h⟩ := i_o1_inv h
        refine iRT.call (f42_41_6_ok L N (d + 2)  _ h1) ?_
        refine iRT.ck h fun h => ?_
        refine iRT.ck h fun h => ?_
        refine iRT.ov h fun h => ?_
        refine iRT.ck h fun h => ?_
        refine iRT.ov h fun h => ?_
        obtain ⟨i6, s5, h1, h⟩ := i_o2_inv h
        refine iRT.call (f49_11_ok L N (d + 0) _ _ _ _ h1) ?_
        refine iRT.ck h fun h => ?_
        obtain ⟨i8, s7, h1, h⟩ := i_o2_inv h
        refine iRT.call (f171_ok L N (d + 3) _ _ h1) ?_
        cases h
        exact iRT.ret
      · cases h
        exact iRT.ret
-- GutterNine.isRow
set_option maxHeartbeats 100000 in
theorem f168_0_ok (L N d : Nat) (x1 : Int) (s : gI) {o : Int × gI} (h : f168 N x1 s = some o) : iEE L (d + 1) 168 [vR 0, vI x1] (s, g_rho) (some (vI o.1), (o.2, g_rho)) := by
  refine iEE.of (wr := false) (d := d + 0) (md := gm_168) rfl rfl rfl (iRR.of 401 ?_)
  refine iRT.ite h (fun h => ?_) (fun h => ?_)
  · replace h := (ib1_inv h).2
    cases h
    exact iRT.ret
  · refine iRT.ite h (fun h => ?_) (fun h => ?_)
    · replace h := (ib1_inv h).2
      cases h
      exact iRT.ret
    · replace h := (ib1_inv h).2
      cases h
      exact iRT.ret
-- GutterNine$Play.nearestPipe
set_option maxHeartbeats 100000 in
theorem f55_11_at43_ok (L N d : Nat) {r_at5 : Int → Int → Int → Int → gI → Option (Int × gI)} (h_at5 : ∀ x1 x2 x3 x4 u5 s o, r_at5 x1 x2 x3 x4 s = some o → iRR false L (d + 0) kj55 k55_5 [some (vR 11), some (vI x1), some (vI x2), some (vI x3), some (vI x4), u5] [] (s, g_rho) (some (vI o.1), (o.2, g_rho))) (x1 : Int) (x2 : Int) (x3 : Int) (x4 : Int) (z0 : Int) {u5 : Option iV} (s : gI) {o : Int × gI} (h : f55_at43 N r_at5 x1 x2 x3 x4 z0 s = some o) : iRR false L (d + 0) kj55 k55_43 [some (vR 11), some (vI x1), some (vI x2), some (vI x3), some (vI x4), u5] [vI z0] (s, g_rho) (some (vI o.1), (o.2, g_rho)) := by
  refine iRR.of 19 ?_
  refine iRT.ov h fun h => ?_
  refine iRT.ov h fun h => ?_
  refine iRT.ck h fun h => ?_
  refine iRT.ite h (fun h => ?_) (fun h => ?_)
  · refine iRT.ite h (fun h => ?_) (fun h => ?_)
    · refine iRT.ov h fun h => ?_
      exact iRT.go 1 (h_at5 _ _ _ _ _ _ _ h) (fun _ _ => rfl)
    · refine iRT.ov h fun h => ?_
      exact iRT.go 1 (h_at5 _ _ _ _ _ _ _ h) (fun _ _ => rfl)
  · refine iRT.ov h fun h => ?_
    exact iRT.go 1 (h_at5 _ _ _ _ _ _ _ h) (fun _ _ => rfl)
set_option maxHeartbeats 100000 in
theorem f55_11_at38_ok (L N d : Nat) {r_at5 : Int → Int → Int → Int → gI → Option (Int × gI)} (h_at5 : ∀ x1 x2 x3 x4 u5 s o, r_at5 x1 x2 x3 x4 s = some o → iRR false L (d + 0) kj55 k55_5 [some (vR 11), some (vI x1), some (vI x2), some (vI x3), some (vI x4), u5] [] (s, g_rho) (some (vI o.1), (o.2, g_rho))) (x1 : Int) (x2 : Int) (x3 : Int) (x4 : Int) {u5 : Option iV} (s : gI) {o : Int × gI} (h : f55_at38 N r_at5 x1 x2 x3 x4 s = some o) : iRR false L (d + 0) kj55 k55_38 [some (vR 11), some (vI x1), some (vI x2), some (vI x3), some (vI x4), u5] [] (s, g_rho) (some (vI o.1), (o.2, g_rho)) := by
  refine iRR.of 3 ?_
  exact iRT.go 2 (f55_11_at43_ok L N d h_at5 _ _ _ _ _ _ h) (fun _ _ => rfl)
set_option maxHeartbeats 100000 in
theorem f55_11_at5_ok (L N d : Nat) : ∀ (n : Nat) (x1 : Int) (x2 : Int) (x3 : Int) (x4 : Int) {u5 : Option iV} (s : gI) (o : Int × gI), f55_at5 N n x1 x2 x3 x4 s = some o → iRR false L (d + 0) kj55 k55_5 [some (vR 11), some (vI x1), some (vI x2), some (vI x3), some (vI x4), u5] [] (s, g_rho) (some (vI o.1), (o.2, g_rho)) := by
  intro n
  induction n with
  | zero => intro _ _ _ _ _ _ _ h; cases h
  | succ n ih =>
    intro x1 x2 x3 x4 u5 s o h
    refine iRR.of 401 ?_
    refine iRT.ite h (fun h => ?_) (fun h => ?_)
    · cases h
      exact iRT.ret
    · refine iRT.ite h (fun h => ?_) (fun h => ?_)
      · exact iRT.go 0 (f55_11_at38_ok L N d (fun a0 a1 a2 a3 b0 s o h => ih a0 a1 a2 a3 s o h) _ _ _ _ _ h) (fun _ _ => rfl)
      · refine iRT.ov h fun h => ?_
        refine iRT.ov h fun h => ?_
        refine iRT.ov h fun h => ?_
        refine iRT.ov h fun h => ?_
        refine iRT.ite h (fun h => ?_) (fun h => ?_)
        · exact iRT.go 1 (f55_11_at43_ok L N d (fun a0 a1 a2 a3 b0 s o h => ih a0 a1 a2 a3 s o h) _ _ _ _ _ _ h) (fun _ _ => rfl)
        · exact iRT.go 0 (f55_11_at38_ok L N d (fun a0 a1 a2 a3 b0 s o h => ih a0 a1 a2 a3 s o h) _ _ _ _ _ h) (fun _ _ => rfl)
set_option maxHeartbeats 100000 in
theorem f55_11_ok (L N d : Nat) (x1 : Int) (x2 : Int) (s : gI) {o : Int × gI} (h : f55 N x1 x2 s = some o) : iEE L (d + 1) 55 [vR 11, vI x1, vI x2] (s, g_rho) (some (vI o.1), (o.2, g_rho)) := by
  refine iEE.of (wr := false) (d := d + 0) (md := gm_55) rfl rfl rfl (iRR.of 5 ?_)
  exact iRT.go 4 (f55_11_at5_ok L N d N _ _ _ _ _ _ h) (fun _ _ => rfl)
-- GutterNine$Play.wash
set_option maxHeartbeats 100000 in
theorem f56_11_at104_ok (L N d : Nat) (x1 : Int) (x3 : Int) (x5 : Int) {u2 : Option iV} {u4 : Option iV} {u6 : Option iV} {u7 : Option iV} (s : gI) {o : Int × gI} (h : f56_at104 N x1 x3 x5 s = some o) : iRR false L (d + 2) kj56 k56_104 [some (vR 11), some (vI x1), u2, some (vI x3), u4, some (vI x5), u6, u7] [] (s, g_rho) (some (vI o.1), (o.2, g_rho)) := by
  refine iRR.of 401 ?_
  obtain ⟨s1, h1, h⟩ := i_o1_inv h
  refine iRT.call (f88_6_ok L N (d + 0) _ _ _ h1) ?_
  refine iRT.ite h (fun h => ?_) (fun h => ?_)
  · replace h := (ib1_inv h).2
    cases h
    exact iRT.ret
  · replace h := (ib1_inv h).2
    cases h
    exact iRT.ret
set_option maxHeartbeats 100000 in
theorem f56_11_at94_ok (L N d : Nat) {r_at28 : Int → Int → Int → Int → Int → gI → Option (Int × gI)} (h_at28 : ∀ x1 x3 x4 x5 x6 u2 u7 s o, r_at28 x1 x3 x4 x5 x6 s = some o → iRR false L (d + 2) kj56 k56_28 [some (vR 11), some (vI x1), u2, some (vI x3), some (vI x4), some (vI x5), some (vI x6), u7] [] (s, g_rho) (some (vI o.1), (o.2, g_rho))) (x1 : Int) (x3 : Int) (x4 : Int) (x6 : Int) (x7 : Int) {u2 : Option iV} {u5 : Option iV} (s : gI) {o : Int × gI} (h : f56_at94 N r_at28 x1 x3 x4 x6 x7 s = some o) : iRR false L (d + 2) kj56 k56_94 [some (vR 11), some (vI x1), u2, some (vI x3), some (vI x4), u5, some (vI x6), some (vI x7)] [] (s, g_rho) (some (vI o.1), (o.2, g_rho)) := by
  refine iRR.of 5 ?_
  refine iRT.ov h fun h => ?_
  exact iRT.go 1 (h_at28 _ _ _ _ _ _ _ _ _ h) (fun _ _ => rfl)
set_option maxHeartbeats 100000 in
theorem f56_11_at28_ok (L N d : Nat) : ∀ (n : Nat) (x1 : Int) (x3 : Int) (x4 : Int) (x5 : Int) (x6 : Int) {u2 u7 : Option iV} (s : gI) (o : Int × gI), f56_at28 N n x1 x3 x4 x5 x6 s = some o → iRR false L (d + 2) kj56 k56_28 [some (vR 11), some (vI x1), u2, some (vI x3), some (vI x4), some (vI x5), some (vI x6), u7] [] (s, g_rho) (some (vI o.1), (o.2, g_rho)) := by
  intro n
  induction n with
  | zero => intro _ _ _ _ _ _ _ _ _ h; cases h
  | succ n ih =>
    intro x1 x3 x4 x5 x6 u2 u7 s o h
    refine iRR.of 30 ?_
    refine iRT.ite h (fun h => ?_) (fun h => ?_)
    · exact iRT.go 0 (f56_11_at104_ok L N d _ _ _ _ h) (fun _ _ => rfl)
    · refine iRT.ite h (fun h => ?_) (fun h => ?_)
      · exact iRT.go 0 (f56_11_at104_ok L N d _ _ _ _ h) (fun _ _ => rfl)
      · obtain ⟨i2, s1, h1, h⟩ := i_o2_inv h
        refine iRT.call (f82_12_9_ok L N (d + 1) _ _ _ h1) ?_
        refine iRT.ite h (fun h => ?_) (fun h => ?_)
        · exact iRT.go 0 (f56_11_at104_ok L N d _ _ _ _ h) (fun _ _ => rfl)
        · refine iRT.ite h (fun h => ?_) (fun h => ?_)
          · exact iRT.go 0 (f56_11_at94_ok L N d (fun a0 a1 a2 a3 a4 b0 b1 s o h => ih a0 a1 a2 a3 a4 s o h) _ _ _ _ _ _ h) (fun _ _ => rfl)
          · refine iRT.ck h fun h => ?_
            refine iRT.ite h (fun h => ?_) (fun h => ?_)
            · exact iRT.go 0 (f56_11_at94_ok L N d (fun a0 a1 a2 a3 a4 b0 b1 s o h => ih a0 a1 a2 a3 a4 s o h) _ _ _ _ _ _ h) (fun _ _ => rfl)
            · exact iRT.go 1 (f56_11_at104_ok L N d _ _ _ _ h) (fun _ _ => rfl)
set_option maxHeartbeats 100000 in
theorem f56_11_at20_ok (L N d : Nat) (x1 : Int) (x3 : Int) (z0 : Int) {u2 : Option iV} {u4 : Option iV} {u5 : Option iV} {u6 : Option iV} {u7 : Option iV} (s : gI) {o : Int × gI} (h : f56_at20 N x1 x3 z0 s = some o) : iRR false L (d + 2) kj56 k56_20 [some (vR 11), some (vI x1), u2, some (vI x3), u4, u5, u6, u7] [vI z0] (s, g_rho) (some (vI o.1), (o.2, g_rho)) := by
  refine iRR.of 6 ?_
  exact iRT.go 5 (f56_11_at28_ok L N d N _ _ _ _ _ _ _ h) (fun _ _ => rfl)
set_option maxHeartbeats 100000 in
theorem f56_11_ok (L N d : Nat) (x1 : Int) (x2 : Int) (s : gI) {o : Int × gI} (h : f56 N x1 x2 s = some o) : iEE L (d + 3) 56 [vR 11, vI x1, vI x2] (s, g_rho) (some (vI o.1), (o.2, g_rho)) := by
  refine iEE.of (wr := false) (d := d + 2) (md := gm_56) rfl rfl rfl (iRR.of 12 ?_)
  refine iRT.ck h fun h => ?_
  refine iRT.ite h (fun h => ?_) (fun h => ?_)
  · exact iRT.go 1 (f56_11_at20_ok L N d _ _ _ _ h) (fun _ _ => rfl)
  · exact iRT.go 2 (f56_11_at20_ok L N d _ _ _ _ h) (fun _ _ => rfl)
-- GutterNine$Play.washRow
set_option maxHeartbeats 100000 in
theorem f54_11_at76_ok (L N d : Nat) {r_at13 : Int → Int → Int → Int → gI → Option (Int × gI)} (h_at13 : ∀ x1 x2 x3 x4 u5 u6 u7 s o, r_at13 x1 x2 x3 x4 s = some o → iRR false L (d + 3) kj54 k54_13 [some (vR 11), some (vI x1), some (vI x2), some (vI x3), some (vI x4), u5, u6, u7] [] (s, g_rho) (some (vI o.1), (o.2, g_rho))) (x1 : Int) (x2 : Int) (x3 : Int) (x4 : Int) (x5 : Int) (x6 : Int) (z0 : Int) {u7 : Option iV} (s : gI) {o : Int × gI} (h : f54_at76 N r_at13 x1 x2 x3 x4 x5 x6 z0 s = some o) : iRR false L (d + 3) kj54 k54_76 [some (vR 11), some (vI x1), some (vI x2), some (vI x3), some (vI x4), some (vI x5), some (vI x6), u7] [vI z0] (s, g_rho) (some (vI o.1), (o.2, g_rho)) := by
  refine iRR.of 25 ?_
  refine iRT.ite h (fun h => ?_) (fun h => ?_)
  · refine iRT.ov h fun h => ?_
    exact iRT.go 1 (h_at13 _ _ _ _ _ _ _ _ _ h) (fun _ _ => rfl)
  · refine iRT.ite h (fun h => ?_) (fun h => ?_)
    · refine iRT.ov h fun h => ?_
      exact iRT.go 1 (h_at13 _ _ _ _ _ _ _ _ _ h) (fun _ _ => rfl)
    · refine iRT.ov h fun h => ?_
      refine iRT.ov h fun h => ?_
      refine iRT.ite h (fun h => ?_) (fun h => ?_)
      · refine iRT.ov h fun h => ?_
        refine iRT.ov h fun h => ?_
        obtain ⟨i5, s4, h1, h⟩ := i_o2_inv h
        refine iRT.call (f56_11_ok L N (d + 0) _ _ _ h1) ?_
        refine iRT.ite h (fun h => ?_) (fun h => ?_)
        · refine iRT.ov h fun h => ?_
          exact iRT.go 1 (h_at13 _ _ _ _ _ _ _ _ _ h) (fun _ _ => rfl)
        · refine iRT.ov h fun h => ?_
          refine iRT.ov h fun h => ?_
          exact iRT.go 1 (h_at13 _ _ _ _ _ _ _ _ _ h) (fun _ _ => rfl)
      · refine iRT.ov h fun h => ?_
        exact iRT.go 1 (h_at13 _ _ _ _ _ _ _ _ _ h) (fun _ _ => rfl)
set_option maxHeartbeats 100000 in
theorem f54_11_at75_ok (L N d : Nat) {r_at13 : Int → Int → Int → Int → gI → Option (Int × gI)} (h_at13 : ∀ x1 x2 x3 x4 u5 u6 u7 s o, r_at13 x1 x2 x3 x4 s = some o → iRR false L (d + 3) kj54 k54_13 [some (vR 11), some (vI x1), some (vI x2), some (vI x3), some (vI x4), u5, u6, u7] [] (s, g_rho) (some (vI o.1), (o.2, g_rho))) (x1 : Int) (x2 : Int) (x3 : Int) (x4 : Int) (x5 : Int) (x6 : Int) {u7 : Option iV} (s : gI) {o : Int × gI} (h : f54_at75 N r_at13 x1 x2 x3 x4 x5 x6 s = some o) : iRR false L (d + 3) kj54 k54_75 [some (vR 11), some (vI x1), some (vI x2), some (vI x3), some (vI x4), some (vI x5), some (vI x6), u7] [] (s, g_rho) (some (vI o.1), (o.2, g_rho)) := by
  refine iRR.of 2 ?_
  exact iRT.go 1 (f54_11_at76_ok L N d h_at13 _ _ _ _ _ _ _ _ h) (fun _ _ => rfl)
set_option maxHeartbeats 100000 in
theorem f54_11_at13_ok (L N d : Nat) {r_at4 : Int → Int → Int → gI → Option (Int × gI)} (h_at4 : ∀ x1 x2 x3 u4 u5 u6 u7 s o, r_at4 x1 x2 x3 s = some o → iRR false L (d + 3) kj54 k54_4 [some (vR 11), some (vI x1), some (vI x2), some (vI x3), u4, u5, u6, u7] [] (s, g_rho) (some (vI o.1), (o.2, g_rho))) : ∀ (n : Nat) (x1 : Int) (x2 : Int) (x3 : Int) (x4 : Int) {u5 u6 u7 : Option iV} (s : gI) (o : Int × gI), f54_at13 N r_at4 n x1 x2 x3 x4 s = some o → iRR false L (d + 3) kj54 k54_13 [some (vR 11), some (vI x1), some (vI x2), some (vI x3), some (vI x4), u5, u6, u7] [] (s, g_rho) (some (vI o.1), (o.2, g_rho)) := by
  intro n
  induction n with
  | zero => intro _ _ _ _ _ _ _ _ _ h; cases h
  | succ n ih =>
    intro x1 x2 x3 x4 u5 u6 u7 s o h
    refine iRR.of 32 ?_
    refine iRT.ite h (fun h => ?_) (fun h => ?_)
    · refine iRT.ov h fun h => ?_
      exact iRT.go 1 (h_at4 _ _ _ _ _ _ _ _ _ h) (fun _ _ => rfl)
    · refine iRT.ov h fun h => ?_
      refine iRT.ov h fun h => ?_
      obtain ⟨i4, s3, h1, h⟩ := i_o2_inv h
      refine iRT.call (f55_11_ok L N (d + 2) _ _ _ h1) ?_
      refine iRT.ck h fun h => ?_
      refine iRT.ite h (fun h => ?_) (fun h => ?_)
      · exact iRT.go 0 (f54_11_at75_ok L N d (fun a0 a1 a2 a3 b0 b1 b2 s o h => ih a0 a1 a2 a3 s o h) _ _ _ _ _ _ _ h) (fun _ _ => rfl)
      · refine iRT.ck h fun h => ?_
        refine iRT.ite h (fun h => ?_) (fun h => ?_)
        · exact iRT.go 2 (f54_11_at76_ok L N d (fun a0 a1 a2 a3 b0 b1 b2 s o h => ih a0 a1 a2 a3 s o h) _ _ _ _ _ _ _ _ h) (fun _ _ => rfl)
        · exact iRT.go 0 (f54_11_at75_ok L N d (fun a0 a1 a2 a3 b0 b1 b2 s o h => ih a0 a1 a2 a3 s o h) _ _ _ _ _ _ _ h) (fun _ _ => rfl)
set_option maxHeartbeats 100000 in
theorem f54_11_at4_ok (L N d : Nat) : ∀ (n : Nat) (x1 : Int) (x2 : Int) (x3 : Int) {u4 u5 u6 u7 : Option iV} (s : gI) (o : Int × gI), f54_at4 N n x1 x2 x3 s = some o → iRR false L (d + 3) kj54 k54_4 [some (vR 11), some (vI x1), some (vI x2), some (vI x3), u4, u5, u6, u7] [] (s, g_rho) (some (vI o.1), (o.2, g_rho)) := by
  intro n
  induction n with
  | zero => intro _ _ _ _ _ _ _ _ _ h; cases h
  | succ n ih =>
    intro x1 x2 x3 u4 u5 u6 u7 s o h
    refine iRR.of 401 ?_
    refine iRT.ite h (fun h => ?_) (fun h => ?_)
    · cases h
      exact iRT.ret
    · exact iRT.go 2 (f54_11_at13_ok L N d (fun a0 a1 a2 b0 b1 b2 b3 s o h => ih a0 a1 a2 s o h) N _ _ _ _ _ _ h) (fun _ _ => rfl)
set_option maxHeartbeats 100000 in
theorem f54_11_ok (L N d : Nat) (x1 : Int) (s : gI) {o : Int × gI} (h : f54 N x1 s = some o) : iEE L (d + 4) 54 [vR 11, vI x1] (s, g_rho) (some (vI o.1), (o.2, g_rho)) := by
  refine iEE.of (wr := false) (d := d + 3) (md := gm_54) rfl rfl rfl (iRR.of 5 ?_)
  exact iRT.go 4 (f54_11_at4_ok L N d N _ _ _ _ _ h) (fun _ _ => rfl)
-- GutterNine.hose
set_option maxHeartbeats 100000 in
theorem f141_0_ok (L N d : Nat) (x1 : Int) (s : gI) {o : Int × gI} (h : f141 N x1 s = some o) : iEE L (d + 5) 141 [vR 0, vI x1] (s, g_rho) (some (vI o.1), (o.2, g_rho)) := by
  refine iEE.of (wr := false) (d := d + 4) (md := gm_141) rfl rfl rfl (iRR.of 401 ?_)
  obtain ⟨i2, s1, h1, h⟩ := i_o2_inv h
  refine iRT.call (f168_0_ok L N (d + 3) _ _ h1) ?_
  refine iRT.ite h (fun h => ?_) (fun h => ?_)
  · cases h
    exact iRT.ret
  · obtain ⟨s3, h1, h⟩ := i_o1_inv h
    refine iRT.call (f42_41_6_ok L N (d + 2)  _ h1) ?_
    obtain ⟨i5, s4, h1, h⟩ := i_o2_inv h
    refine iRT.call (f54_11_ok L N (d + 0) _ _ h1) ?_
    cases h
    exact iRT.ret
-- GutterNine$Yard.hasWindow
set_option maxHeartbeats 100000 in
theorem f116_15_ok (L N d : Nat) (s : gI) {o : Int × gI} (h : f116 N  s = some o) : iEE L (d + 1) 116 [vR 15] (s, g_rho) (some (vI o.1), (o.2, g_rho)) := by
  refine iEE.of (wr := false) (d := d + 0) (md := gm_116) rfl rfl rfl (iRR.of 401 ?_)
  refine iRT.ite h (fun h => ?_) (fun h => ?_)
  · replace h := (ib1_inv h).2
    cases h
    exact iRT.ret
  · replace h := (ib1_inv h).2
    cases h
    exact iRT.ret
-- GutterNine$Play.away
set_option maxHeartbeats 100000 in
theorem f58_11_ok (L N d : Nat) (x1 : Int) (s : gI) {o : Int × gI} (h : f58 N x1 s = some o) : iEE L (d + 1) 58 [vR 11, vI x1] (s, g_rho) (some (vI o.1), (o.2, g_rho)) := by
  refine iEE.of (wr := false) (d := d + 0) (md := gm_58) rfl rfl rfl (iRR.of 401 ?_)
  refine iRT.dv h fun h => ?_
  refine iRT.ov h fun h => ?_
  refine iRT.ov h fun h => ?_
  refine iRT.dv h fun h => ?_
  refine iRT.ov h fun h => ?_
  refine iRT.ov h fun h => ?_
  refine iRT.ov h fun h => ?_
  cases h
  exact iRT.ret
-- GutterNine$Play.sweep
set_option maxHeartbeats 100000 in
theorem f57_11_at4_ok (L N d : Nat) : ∀ (n : Nat) (x1 : Int) (x2 : Int) {u3 : Option iV} (s : gI) (o : Int × gI), f57_at4 N n x1 x2 s = some o → iRR false L (d + 2) kj57 k57_4 [some (vR 11), some (vI x1), some (vI x2), u3] [] (s, g_rho) (some (vI o.1), (o.2, g_rho)) := by
  intro n
  induction n with
  | zero => intro _ _ _ _ _ h; cases h
  | succ n ih =>
    intro x1 x2 u3 s o h
    refine iRR.of 401 ?_
    refine iRT.ite h (fun h => ?_) (fun h => ?_)
    · cases h
      exact iRT.ret
    · refine iRT.ck h fun h => ?_
      refine iRT.ite h (fun h => ?_) (fun h => ?_)
      · refine iRT.ov h fun h => ?_
        exact iRT.go 1 (ih _ _ _ _ h) (fun _ _ => rfl)
      · obtain ⟨i4, s3, h1, h⟩ := i_o2_inv h
        refine iRT.call (f58_11_ok L N (d + 1) _ _ h1) ?_
        refine iRT.ite h (fun h => ?_) (fun h => ?_)
        · refine iRT.ov h fun h => ?_
          exact iRT.go 1 (ih _ _ _ _ h) (fun _ _ => rfl)
        · obtain ⟨s6, h1, h⟩ := i_o1_inv h
          refine iRT.call (f88_6_ok L N (d + 0) _ _ _ h1) ?_
          refine iRT.ov h fun h => ?_
          exact iRT.go 1 (ih _ _ _ _ h) (fun _ _ => rfl)
set_option maxHeartbeats 100000 in
theorem f57_11_ok (L N d : Nat) (s : gI) {o : Int × gI} (h : f57 N  s = some o) : iEE L (d + 3) 57 [vR 11] (s, g_rho) (some (vI o.1), (o.2, g_rho)) := by
  refine iEE.of (wr := false) (d := d + 2) (md := gm_57) rfl rfl rfl (iRR.of 5 ?_)
  exact iRT.go 4 (f57_11_at4_ok L N d N _ _ _ _ h) (fun _ _ => rfl)
-- GutterNine.broom
set_option maxHeartbeats 100000 in
theorem f142_0_ok (L N d : Nat) (s : gI) {o : Int × gI} (h : f142 N  s = some o) : iEE L (d + 4) 142 [vR 0] (s, g_rho) (some (vI o.1), (o.2, g_rho)) := by
  refine iEE.of (wr := false) (d := d + 3) (md := gm_142) rfl rfl rfl (iRR.of 401 ?_)
  obtain ⟨i2, s1, h1, h⟩ := i_o2_inv h
  refine iRT.call (f116_15_ok L N (d + 2)  _ h1) ?_
  refine iRT.ite h (fun h => ?_) (fun h => ?_)
  · cases h
    exact iRT.ret
  · obtain ⟨s3, h1, h⟩ := i_o1_inv h
    refine iRT.call (f42_41_6_ok L N (d + 1)  _ h1) ?_
    obtain ⟨i5, s4, h1, h⟩ := i_o2_inv h
    refine iRT.call (f57_11_ok L N (d + 0)  _ h1) ?_
    cases h
    exact iRT.ret
-- GutterNine$Play.isLight
set_option maxHeartbeats 100000 in
theorem f60_11_ok (L N d : Nat) (x1 : Int) (s : gI) {o : Int × gI} (h : f60 N x1 s = some o) : iEE L (d + 1) 60 [vR 11, vI x1] (s, g_rho) (some (vI o.1), (o.2, g_rho)) := by
  refine iEE.of (wr := false) (d := d + 0) (md := gm_60) rfl rfl rfl (iRR.of 401 ?_)
  refine iRT.ck h fun h => ?_
  refine iRT.ite h (fun h => ?_) (fun h => ?_)
  · replace h := (ib1_inv h).2
    cases h
    exact iRT.ret
  · refine iRT.ck h fun h => ?_
    refine iRT.ite h (fun h => ?_) (fun h => ?_)
    · replace h := (ib1_inv h).2
      cases h
      exact iRT.ret
    · replace h := (ib1_inv h).2
      cases h
      exact iRT.ret
-- GutterNine$Play.isSheltered
set_option maxHeartbeats 100000 in
theorem f61_11_ok (L N d : Nat) (x1 : Int) (s : gI) {o : Int × gI} (h : f61 N x1 s = some o) : iEE L (d + 1) 61 [vR 11, vI x1] (s, g_rho) (some (vI o.1), (o.2, g_rho)) := by
  refine iEE.of (wr := false) (d := d + 0) (md := gm_61) rfl rfl rfl (iRR.of 401 ?_)
  refine iRT.ck h fun h => ?_
  refine iRT.ite h (fun h => ?_) (fun h => ?_)
  · replace h := (ib1_inv h).2
    cases h
    exact iRT.ret
  · refine iRT.ck h fun h => ?_
    refine iRT.ite h (fun h => ?_) (fun h => ?_)
    · replace h := (ib1_inv h).2
      cases h
      exact iRT.ret
    · replace h := (ib1_inv h).2
      cases h
      exact iRT.ret
-- GutterNine$Play.blow
set_option maxHeartbeats 100000 in
theorem f59_11_at106_ok (L N d : Nat) {r_at4 : Int → Int → Int → gI → Option (Int × gI)} (h_at4 : ∀ x1 x2 x3 u4 u5 s o, r_at4 x1 x2 x3 s = some o → iRR false L (d + 3) kj59 k59_4 [some (vR 11), some (vI x1), some (vI x2), some (vI x3), u4, u5] [] (s, g_rho) (some (vI o.1), (o.2, g_rho))) (x1 : Int) (x3 : Int) (z0 : Int) (z1 : Int) {u2 : Option iV} {u4 : Option iV} {u5 : Option iV} (s : gI) {o : Int × gI} (h : f59_at106 N r_at4 x1 x3 z0 z1 s = some o) : iRR false L (d + 3) kj59 k59_106 [some (vR 11), some (vI x1), u2, some (vI x3), u4, u5] [vI z0, vI z1] (s, g_rho) (some (vI o.1), (o.2, g_rho)) := by
  refine iRR.of 5 ?_
  refine iRT.ov h fun h => ?_
  refine iRT.ov h fun h => ?_
  exact iRT.go 1 (h_at4 _ _ _ _ _ _ _ h) (fun _ _ => rfl)
set_option maxHeartbeats 100000 in
theorem f59_11_at86_ok (L N d : Nat) {r_at4 : Int → Int → Int → gI → Option (Int × gI)} (h_at4 : ∀ x1 x2 x3 u4 u5 s o, r_at4 x1 x2 x3 s = some o → iRR false L (d + 3) kj59 k59_4 [some (vR 11), some (vI x1), some (vI x2), some (vI x3), u4, u5] [] (s, g_rho) (some (vI o.1), (o.2, g_rho))) (x1 : Int) (x2 : Int) (x3 : Int) (x4 : Int) {u5 : Option iV} (s : gI) {o : Int × gI} (h : f59_at86 N r_at4 x1 x2 x3 x4 s = some o) : iRR false L (d + 3) kj59 k59_86 [some (vR 11), some (vI x1), some (vI x2), some (vI x3), some (vI x4), u5] [] (s, g_rho) (some (vI o.1), (o.2, g_rho)) := by
  refine iRR.of 11 ?_
  refine iRT.ck h fun h => ?_
  refine iRT.ite h (fun h => ?_) (fun h => ?_)
  · exact iRT.go 2 (f59_11_at106_ok L N d h_at4 _ _ _ _ _ h) (fun _ _ => rfl)
  · exact iRT.go 1 (f59_11_at106_ok L N d h_at4 _ _ _ _ _ h) (fun _ _ => rfl)
set_option maxHeartbeats 100000 in
theorem f59_11_at4_ok (L N d : Nat) : ∀ (n : Nat) (x1 : Int) (x2 : Int) (x3 : Int) {u4 u5 : Option iV} (s : gI) (o : Int × gI), f59_at4 N n x1 x2 x3 s = some o → iRR false L (d + 3) kj59 k59_4 [some (vR 11), some (vI x1), some (vI x2), some (vI x3), u4, u5] [] (s, g_rho) (some (vI o.1), (o.2, g_rho)) := by
  intro n
  induction n with
  | zero => intro _ _ _ _ _ _ _ h; cases h
  | succ n ih =>
    intro x1 x2 x3 u4 u5 s o h
    refine iRR.of 401 ?_
    refine iRT.ite h (fun h => ?_) (fun h => ?_)
    · cases h
      exact iRT.ret
    · refine iRT.ck h fun h => ?_
      refine iRT.ite h (fun h => ?_) (fun h => ?_)
      · refine iRT.ov h fun h => ?_
        exact iRT.go 1 (ih _ _ _ _ _ h) (fun _ _ => rfl)
      · obtain ⟨i4, s3, h1, h⟩ := i_o2_inv h
        refine iRT.call (f60_11_ok L N (d + 2) _ _ h1) ?_
        refine iRT.ite h (fun h => ?_) (fun h => ?_)
        · refine iRT.ov h fun h => ?_
          exact iRT.go 1 (ih _ _ _ _ _ h) (fun _ _ => rfl)
        · obtain ⟨i7, s6, h1, h⟩ := i_o2_inv h
          refine iRT.call (f61_11_ok L N (d + 2) _ _ h1) ?_
          refine iRT.ite h (fun h => ?_) (fun h => ?_)
          · obtain ⟨i9, s8, h1, h⟩ := i_o2_inv h
            refine iRT.call (f82_12_9_ok L N (d + 2) _ _ _ h1) ?_
            refine iRT.ite h (fun h => ?_) (fun h => ?_)
            · exact iRT.go 0 (f59_11_at86_ok L N d (fun a0 a1 a2 b0 b1 s o h => ih a0 a1 a2 s o h) _ _ _ _ _ h) (fun _ _ => rfl)
            · obtain ⟨s10, h1, h⟩ := i_o1_inv h
              refine iRT.call (f52_11_ok L N (d + 0) _ _ _ h1) ?_
              exact iRT.go 0 (f59_11_at86_ok L N d (fun a0 a1 a2 b0 b1 s o h => ih a0 a1 a2 s o h) _ _ _ _ _ h) (fun _ _ => rfl)
          · refine iRT.ov h fun h => ?_
            exact iRT.go 1 (ih _ _ _ _ _ h) (fun _ _ => rfl)
set_option maxHeartbeats 100000 in
theorem f59_11_ok (L N d : Nat) (x1 : Int) (s : gI) {o : Int × gI} (h : f59 N x1 s = some o) : iEE L (d + 4) 59 [vR 11, vI x1] (s, g_rho) (some (vI o.1), (o.2, g_rho)) := by
  refine iEE.of (wr := false) (d := d + 3) (md := gm_59) rfl rfl rfl (iRR.of 5 ?_)
  exact iRT.go 4 (f59_11_at4_ok L N d N _ _ _ _ _ h) (fun _ _ => rfl)
-- GutterNine.gale
set_option maxHeartbeats 100000 in
theorem f143_0_ok (L N d : Nat) (x1 : Int) (s : gI) {o : Int × gI} (h : f143 N x1 s = some o) : iEE L (d + 5) 143 [vR 0, vI x1] (s, g_rho) (some (vI o.1), (o.2, g_rho)) := by
  refine iEE.of (wr := false) (d := d + 4) (md := gm_143) rfl rfl rfl (iRR.of 401 ?_)
  refine iRT.ite h (fun h => ?_) (fun h => ?_)
  · cases h
    exact iRT.ret
  · refine iRT.ite h (fun h => ?_) (fun h => ?_)
    · obtain ⟨s1, h1, h⟩ := i_o1_inv h
      refine iRT.call (f42_41_6_ok L N (d + 2)  _ h1) ?_
      obtain ⟨i3, s2, h1, h⟩ := i_o2_inv h
      refine iRT.call (f59_11_ok L N (d + 0) _ _ h1) ?_
      cases h
      exact iRT.ret
    · cases h
      exact iRT.ret
-- GutterNine$Play.bitsAt
set_option maxHeartbeats 100000 in
theorem f71_11_at4_ok (L N d : Nat) : ∀ (n : Nat) (x1 : Int) (x2 : Int) (x3 : Int) (s : gI) (o : Int × gI), f71_at4 N n x1 x2 x3 s = some o → iRR false L (d + 1) kj71 k71_4 [some (vR 11), some (vI x1), some (vI x2), some (vI x3)] [] (s, g_rho) (some (vI o.1), (o.2, g_rho)) := by
  intro n
  induction n with
  | zero => intro _ _ _ _ _ h; cases h
  | succ n ih =>
    intro x1 x2 x3 s o h
    refine iRR.of 401 ?_
    refine iRT.ite h (fun h => ?_) (fun h => ?_)
    · cases h
      exact iRT.ret
    · refine iRT.ck h fun h => ?_
      obtain ⟨i2, s1, h1, h⟩ := i_o2_inv h
      refine iRT.call (f171_ok L N (d + 0) _ _ h1) ?_
      refine iRT.ite h (fun h => ?_) (fun h => ?_)
      · refine iRT.ov h fun h => ?_
        exact iRT.go 1 (ih _ _ _ _ _ h) (fun _ _ => rfl)
      · refine iRT.ov h fun h => ?_
        exact iRT.go 1 (ih _ _ _ _ _ h) (fun _ _ => rfl)
set_option maxHeartbeats 100000 in
theorem f71_11_ok (L N d : Nat) (x1 : Int) (s : gI) {o : Int × gI} (h : f71 N x1 s = some o) : iEE L (d + 2) 71 [vR 11, vI x1] (s, g_rho) (some (vI o.1), (o.2, g_rho)) := by
  refine iEE.of (wr := false) (d := d + 1) (md := gm_71) rfl rfl rfl (iRR.of 5 ?_)
  exact iRT.go 4 (f71_11_at4_ok L N d N _ _ _ _ _ h) (fun _ _ => rfl)
-- java/lang/Integer.bitCount
set_option maxHeartbeats 100000 in
theorem f296_ok (L N d : Nat) (x0 : Int) (s : gI) {o : Int × gI} (h : f296 N x0 s = some o) : iEE L (d + 1) 296 [vI x0] (s, g_rho) (some (vI o.1), (o.2, g_rho)) := by
  refine iEE.of (wr := false) (d := d + 0) (md := gm_296) rfl rfl rfl (iRR.of 401 ?_)
  refine iRT.ov h fun h => ?_
  refine iRT.ov h fun h => ?_
  refine iRT.ov h fun h => ?_
  refine iRT.ov h fun h => ?_
  refine iRT.ov h fun h => ?_
  cases h
  exact iRT.ret
-- GutterNine$Play.manyAt
set_option maxHeartbeats 100000 in
theorem f72_11_ok (L N d : Nat) (x1 : Int) (s : gI) {o : Int × gI} (h : f72 N x1 s = some o) : iEE L (d + 3) 72 [vR 11, vI x1] (s, g_rho) (some (vI o.1), (o.2, g_rho)) := by
  refine iEE.of (wr := false) (d := d + 2) (md := gm_72) rfl rfl rfl (iRR.of 401 ?_)
  obtain ⟨i2, s1, h1, h⟩ := i_o2_inv h
  refine iRT.call (f71_11_ok L N (d + 0) _ _ h1) ?_
  obtain ⟨i4, s3, h1, h⟩ := i_o2_inv h
  refine iRT.call (f296_ok L N (d + 1) _ _ h1) ?_
  cases h
  exact iRT.ret
-- GutterNine$Play.daysTillSaturdayPassed
set_option maxHeartbeats 100000 in
theorem f63_11_ok (L N d : Nat) (s : gI) {o : Int × gI} (h : f63 N  s = some o) : iEE L (d + 1) 63 [vR 11] (s, g_rho) (some (vI o.1), (o.2, g_rho)) := by
  refine iEE.of (wr := false) (d := d + 0) (md := gm_63) rfl rfl rfl (iRR.of 401 ?_)
  refine iRT.ov h fun h => ?_
  refine iRT.dv h fun h => ?_
  refine iRT.ov h fun h => ?_
  refine iRT.dv h fun h => ?_
  refine iRT.ov h fun h => ?_
  cases h
  exact iRT.ret
-- GutterNine$Play.isLost
set_option maxHeartbeats 100000 in
theorem f67_11_ok (L N d : Nat) (x1 : Int) (s : gI) {o : Int × gI} (h : f67 N x1 s = some o) : iEE L (d + 1) 67 [vR 11, vI x1] (s, g_rho) (some (vI o.1), (o.2, g_rho)) := by
  refine iEE.of (wr := false) (d := d + 0) (md := gm_67) rfl rfl rfl (iRR.of 401 ?_)
  refine iRT.ck h fun h => ?_
  refine iRT.ite h (fun h => ?_) (fun h => ?_)
  · replace h := (ib1_inv h).2
    cases h
    exact iRT.ret
  · refine iRT.ck h fun h => ?_
    refine iRT.ite h (fun h => ?_) (fun h => ?_)
    · replace h := (ib1_inv h).2
      cases h
      exact iRT.ret
    · replace h := (ib1_inv h).2
      cases h
      exact iRT.ret
-- GutterNine$Play.manyLost
set_option maxHeartbeats 100000 in
theorem f68_11_at29_ok (L N d : Nat) {r_at4 : Int → Int → gI → Option (Int × gI)} (h_at4 : ∀ x1 x2 s o, r_at4 x1 x2 s = some o → iRR false L (d + 1) kj68 k68_4 [some (vR 11), some (vI x1), some (vI x2)] [] (s, g_rho) (some (vI o.1), (o.2, g_rho))) (x2 : Int) (z0 : Int) (z1 : Int) {u1 : Option iV} (s : gI) {o : Int × gI} (h : f68_at29 N r_at4 x2 z0 z1 s = some o) : iRR false L (d + 1) kj68 k68_29 [some (vR 11), u1, some (vI x2)] [vI z0, vI z1] (s, g_rho) (some (vI o.1), (o.2, g_rho)) := by
  refine iRR.of 5 ?_
  refine iRT.ov h fun h => ?_
  refine iRT.ov h fun h => ?_
  exact iRT.go 1 (h_at4 _ _ _ _ h) (fun _ _ => rfl)
set_option maxHeartbeats 100000 in
theorem f68_11_at4_ok (L N d : Nat) : ∀ (n : Nat) (x1 : Int) (x2 : Int) (s : gI) (o : Int × gI), f68_at4 N n x1 x2 s = some o → iRR false L (d + 1) kj68 k68_4 [some (vR 11), some (vI x1), some (vI x2)] [] (s, g_rho) (some (vI o.1), (o.2, g_rho)) := by
  intro n
  induction n with
  | zero => intro _ _ _ _ h; cases h
  | succ n ih =>
    intro x1 x2 s o h
    refine iRR.of 401 ?_
    refine iRT.ite h (fun h => ?_) (fun h => ?_)
    · cases h
      exact iRT.ret
    · obtain ⟨i2, s1, h1, h⟩ := i_o2_inv h
      refine iRT.call (f67_11_ok L N (d + 0) _ _ h1) ?_
      refine iRT.ite h (fun h => ?_) (fun h => ?_)
      · exact iRT.go 1 (f68_11_at29_ok L N d (fun a0 a1  s o h => ih a0 a1 s o h) _ _ _ _ h) (fun _ _ => rfl)
      · exact iRT.go 2 (f68_11_at29_ok L N d (fun a0 a1  s o h => ih a0 a1 s o h) _ _ _ _ h) (fun _ _ => rfl)
set_option maxHeartbeats 100000 in
theorem f68_11_ok (L N d : Nat) (s : gI) {o : Int × gI} (h : f68 N  s = some o) : iEE L (d + 2) 68 [vR 11] (s, g_rho) (some (vI o.1), (o.2, g_rho)) := by
  refine iEE.of (wr := false) (d := d + 1) (md := gm_68) rfl rfl rfl (iRR.of 5 ?_)
  exact iRT.go 4 (f68_11_at4_ok L N d N _ _ _ _ h) (fun _ _ => rfl)
-- GutterNine$Play.worthLost
set_option maxHeartbeats 100000 in
theorem f69_11_at37_ok (L N d : Nat) {r_at4 : Int → Int → gI → Option (Int × gI)} (h_at4 : ∀ x1 x2 s o, r_at4 x1 x2 s = some o → iRR false L (d + 1) kj69 k69_4 [some (vR 11), some (vI x1), some (vI x2)] [] (s, g_rho) (some (vI o.1), (o.2, g_rho))) (x2 : Int) (z0 : Int) (z1 : Int) {u1 : Option iV} (s : gI) {o : Int × gI} (h : f69_at37 N r_at4 x2 z0 z1 s = some o) : iRR false L (d + 1) kj69 k69_37 [some (vR 11), u1, some (vI x2)] [vI z0, vI z1] (s, g_rho) (some (vI o.1), (o.2, g_rho)) := by
  refine iRR.of 5 ?_
  refine iRT.ov h fun h => ?_
  refine iRT.ov h fun h => ?_
  exact iRT.go 1 (h_at4 _ _ _ _ h) (fun _ _ => rfl)
set_option maxHeartbeats 100000 in
theorem f69_11_at4_ok (L N d : Nat) : ∀ (n : Nat) (x1 : Int) (x2 : Int) (s : gI) (o : Int × gI), f69_at4 N n x1 x2 s = some o → iRR false L (d + 1) kj69 k69_4 [some (vR 11), some (vI x1), some (vI x2)] [] (s, g_rho) (some (vI o.1), (o.2, g_rho)) := by
  intro n
  induction n with
  | zero => intro _ _ _ _ h; cases h
  | succ n ih =>
    intro x1 x2 s o h
    refine iRR.of 401 ?_
    refine iRT.ite h (fun h => ?_) (fun h => ?_)
    · cases h
      exact iRT.ret
    · obtain ⟨i2, s1, h1, h⟩ := i_o2_inv h
      refine iRT.call (f67_11_ok L N (d + 0) _ _ h1) ?_
      refine iRT.ite h (fun h => ?_) (fun h => ?_)
      · exact iRT.go 1 (f69_11_at37_ok L N d (fun a0 a1  s o h => ih a0 a1 s o h) _ _ _ _ h) (fun _ _ => rfl)
      · refine iRT.ck h fun h => ?_
        exact iRT.go 1 (f69_11_at37_ok L N d (fun a0 a1  s o h => ih a0 a1 s o h) _ _ _ _ h) (fun _ _ => rfl)
set_option maxHeartbeats 100000 in
theorem f69_11_ok (L N d : Nat) (s : gI) {o : Int × gI} (h : f69 N  s = some o) : iEE L (d + 2) 69 [vR 11] (s, g_rho) (some (vI o.1), (o.2, g_rho)) := by
  refine iEE.of (wr := false) (d := d + 1) (md := gm_69) rfl rfl rfl (iRR.of 5 ?_)
  exact iRT.go 4 (f69_11_at4_ok L N d N _ _ _ _ h) (fun _ _ => rfl)
-- GutterNine$Law.bit
set_option maxHeartbeats 100000 in
theorem f27_ok (L N d : Nat) (x0 : Int) (s : gI) {o : Int × gI} (h : f27 N x0 s = some o) : iEE L (d + 1) 27 [vI x0] (s, g_rho) (some (vI o.1), (o.2, g_rho)) := by
  refine iEE.of (wr := false) (d := d + 0) (md := gm_27) rfl rfl rfl (iRR.of 401 ?_)
  refine iRT.ite h (fun h => ?_) (fun h => ?_)
  · cases h
    exact iRT.ret
  · cases h
    exact iRT.ret
-- GutterNine$Law.join
set_option maxHeartbeats 100000 in
theorem f26_at65_ok (L N d : Nat) {u0 : Option iV} {u1 : Option iV} {u2 : Option iV} (s : gI) {o : Int × gI} (h : f26_at65 N  s = some o) : iRR true L (d + 1) kj26 k26_65 [u0, u1, u2] [] (s, g_rho) (some (vI o.1), (o.2, g_rho)) := by
  refine iRR.of 401 ?_
  obtain ⟨i2, s1, h1, h⟩ := i_o2_inv h
  refine iRT.call (f27_ok L N (d + 0) _ _ h1) ?_
  cases h
  exact iRT.ret
set_option maxHeartbeats 100000 in
theorem f26_ok (L N d : Nat) (x0 : Int) (x1 : Int) (x2 : Int) (s : gI) {o : Int × gI} (h : f26 N x0 x1 x2 s = some o) : iEE L (d + 2) 26 [vI x0, vI x1, vI x2] (s, g_rho) (some (vI o.1), (o.2, g_rho)) := by
  refine iEE.of (wr := true) (d := d + 1) (md := gm_26) rfl rfl rfl (iRR.of 401 ?_)
  rcases iRT.cs h with ⟨hx0, h⟩ | ⟨hx0, h⟩
  · refine iRT.swin hx0 (off := 39) (by decide) (by decide) (by decide) ?_
    refine iRT.ite h (fun h => ?_) (fun h => ?_)
    · obtain ⟨i2, s1, h1, h⟩ := i_o2_inv h
      refine iRT.call (f27_ok L N (d + 0) _ _ h1) ?_
      cases h
      exact iRT.ret
    · refine iRT.ite h (fun h => ?_) (fun h => ?_)
      · obtain ⟨i4, s3, h1, h⟩ := i_o2_inv h
        refine iRT.call (f27_ok L N (d + 0) _ _ h1) ?_
        cases h
        exact iRT.ret
      · obtain ⟨i6, s5, h1, h⟩ := i_o2_inv h
        refine iRT.call (f27_ok L N (d + 0) _ _ h1) ?_
        cases h
        exact iRT.ret
  · skip
    rcases iRT.cs h with ⟨hx1, h⟩ | ⟨hx1, h⟩
    · refine iRT.swin hx1 (off := 56) (by decide) (by decide) (by decide) ?_
      refine iRT.ite h (fun h => ?_) (fun h => ?_)
      · refine iRT.ite h (fun h => ?_) (fun h => ?_)
        · obtain ⟨i8, s7, h1, h⟩ := i_o2_inv h
          refine iRT.call (f27_ok L N (d + 0) _ _ h1) ?_
          cases h
          exact iRT.ret
        · exact iRT.go 0 (f26_at65_ok L N d  _ h) (fun _ _ => rfl)
      · exact iRT.go 0 (f26_at65_ok L N d  _ h) (fun _ _ => rfl)
    · skip
      rcases iRT.cs h with ⟨hx2, h⟩ | ⟨hx2, h⟩
      · refine iRT.swin hx2 (off := 73) (by decide) (by decide) (by decide) ?_
        refine iRT.ite h (fun h => ?_) (fun h => ?_)
        · obtain ⟨i10, s9, h1, h⟩ := i_o2_inv h
          refine iRT.call (f27_ok L N (d + 0) _ _ h1) ?_
          cases h
          exact iRT.ret
        · obtain ⟨i12, s11, h1, h⟩ := i_o2_inv h
          refine iRT.call (f27_ok L N (d + 0) _ _ h1) ?_
          cases h
          exact iRT.ret
      · skip
        rcases iRT.cs h with ⟨hx3, h⟩ | ⟨hx3, h⟩
        · refine iRT.swin hx3 (off := 87) (by decide) (by decide) (by decide) ?_
          refine iRT.ite h (fun h => ?_) (fun h => ?_)
          · obtain ⟨i16, s15, h1, h⟩ := i_o2_inv h
            refine iRT.call (f27_ok L N (d + 0) _ _ h1) ?_
            cases h
            exact iRT.ret
          · obtain ⟨i14, s13, h1, h⟩ := i_o2_inv h
            refine iRT.call (f27_ok L N (d + 0) _ _ h1) ?_
            cases h
            exact iRT.ret
        · skip
          rcases iRT.cs h with ⟨hx4, h⟩ | ⟨hx4, h⟩
          · refine iRT.swin hx4 (off := 101) (by decide) (by decide) (by decide) ?_
            cases h
            exact iRT.ret
          · skip
            rcases iRT.cs h with ⟨hx5, h⟩ | ⟨hx5, h⟩
            · refine iRT.swin hx5 (off := 105) (by decide) (by decide) (by decide) ?_
              cases h
              exact iRT.ret
            · skip
              refine iRT.swout (by omega) (by decide) ?_
              cases h
              exact iRT.ret
-- GutterNine$Law.fact
set_option maxHeartbeats 100000 in
theorem f25_ok (L N d : Nat) (x0 : Int) (x1 : Int) (x2 : Int) (x3 : Int) (s : gI) {o : Int × gI} (h : f25 N x0 x1 x2 x3 s = some o) : iEE L (d + 1) 25 [vI x0, vI x1, vI x2, vI x3] (s, g_rho) (some (vI o.1), (o.2, g_rho)) := by
  refine iEE.of (wr := false) (d := d + 0) (md := gm_25) rfl rfl rfl (iRR.of 401 ?_)
  rcases iRT.cs h with ⟨hx0, h⟩ | ⟨hx0, h⟩
  · refine iRT.swin hx0 (off := 27) (by decide) (by decide) (by decide) ?_
    cases h
    exact iRT.ret
  · skip
    rcases iRT.cs h with ⟨hx1, h⟩ | ⟨hx1, h⟩
    · refine iRT.swin hx1 (off := 29) (by decide) (by decide) (by decide) ?_
      cases h
      exact iRT.ret
    · skip
      rcases iRT.cs h with ⟨hx2, h⟩ | ⟨hx2, h⟩
      · refine iRT.swin hx2 (off := 31) (by decide) (by decide) (by decide) ?_
        cases h
        exact iRT.ret
      · skip
        refine iRT.swout (by omega) (by decide) ?_
        cases h
        exact iRT.ret
-- GutterNine$Law.of
set_option maxHeartbeats 100000 in
theorem f24_25_at99_ok (L N d : Nat) {r_at6 : Int → Int → Int → Int → Int → gI → Option (Int × gI)} (h_at6 : ∀ x1 x2 x3 x4 x5 u6 s o, r_at6 x1 x2 x3 x4 x5 s = some o → iRR false L (d + 2) kj24 k24_6 [some (vR 25), some (vI x1), some (vI x2), some (vI x3), some (vI x4), some (vI x5), u6] [] (s, g_rho) (some (vI o.1), (o.2, g_rho))) (x1 : Int) (x2 : Int) (x3 : Int) (x4 : Int) (x5 : Int) (z0 : Int) (z1 : Int) {u6 : Option iV} (s : gI) {o : Int × gI} (h : f24_at99 N 25 r_at6 x1 x2 x3 x4 x5 z0 z1 s = some o) : iRR false L (d + 2) kj24 k24_99 [some (vR 25), some (vI x1), some (vI x2), some (vI x3), some (vI x4), some (vI x5), u6] [vI z0, vI z1, vR 27] (s, g_rho) (some (vI o.1), (o.2, g_rho)) := by
  refine iRR.of 6 ?_
  obtain ⟨i2, s1, h1, h⟩ := i_o2_inv h
  refine iRT.call (f27_ok L N (d + 1) _ _ h1) ?_
  refine iRT.ck h fun h => ?_
  refine iRT.ov h fun h => ?_
  exact iRT.go 1 (h_at6 _ _ _ _ _ _ _ _ h) (fun _ _ => rfl)
set_option maxHeartbeats 100000 in
theorem f24_25_at6_ok (L N d : Nat) : ∀ (n : Nat) (x1 : Int) (x2 : Int) (x3 : Int) (x4 : Int) (x5 : Int) {u6 : Option iV} (s : gI) (o : Int × gI), f24_at6 N 25 n x1 x2 x3 x4 x5 s = some o → iRR false L (d + 2) kj24 k24_6 [some (vR 25), some (vI x1), some (vI x2), some (vI x3), some (vI x4), some (vI x5), u6] [] (s, g_rho) (some (vI o.1), (o.2, g_rho)) := by
  intro n
  induction n with
  | zero => intro _ _ _ _ _ _ _ _ h; cases h
  | succ n ih =>
    intro x1 x2 x3 x4 x5 u6 s o h
    refine iRR.of 401 ?_
    refine iRT.ite h (fun h => ?_) (fun h => ?_)
    · replace h := (ick_inv h).2.2
      cases h
      exact iRT.ret
    · refine iRT.ck h fun h => ?_
      refine iRT.ite h (fun h => ?_) (fun h => ?_)
      · refine iRT.ite h (fun h => ?_) (fun h => ?_)
        · refine iRT.ite h (fun h => ?_) (fun h => ?_)
          · refine iRT.ov h fun h => ?_
            exact iRT.go 1 (ih _ _ _ _ _ _ _ h) (fun _ _ => rfl)
          · refine iRT.ov h fun h => ?_
            refine iRT.ov h fun h => ?_
            refine iRT.ck h fun h => ?_
            refine iRT.ite h (fun h => ?_) (fun h => ?_)
            · exact iRT.go 2 (f24_25_at99_ok L N d (fun a0 a1 a2 a3 a4 b0 s o h => ih a0 a1 a2 a3 a4 s o h) _ _ _ _ _ _ _ _ h) (fun _ _ => rfl)
            · exact iRT.go 1 (f24_25_at99_ok L N d (fun a0 a1 a2 a3 a4 b0 s o h => ih a0 a1 a2 a3 a4 s o h) _ _ _ _ _ _ _ _ h) (fun _ _ => rfl)
        · refine iRT.ite h (fun h => ?_) (fun h => ?_)
          · refine iRT.ov h fun h => ?_
            exact iRT.go 1 (ih _ _ _ _ _ _ _ h) (fun _ _ => rfl)
          · refine iRT.ov h fun h => ?_
            refine iRT.ov h fun h => ?_
            refine iRT.ov h fun h => ?_
            refine iRT.ck h fun h => ?_
            refine iRT.ck h fun h => ?_
            obtain ⟨i5, s4, h1, h⟩ := i_o2_inv h
            refine iRT.call (f26_ok L N (d + 0) _ _ _ _ h1) ?_
            refine iRT.ck h fun h => ?_
            refine iRT.ov h fun h => ?_
            exact iRT.go 1 (ih _ _ _ _ _ _ _ h) (fun _ _ => rfl)
      · refine iRT.ite h (fun h => ?_) (fun h => ?_)
        · refine iRT.ov h fun h => ?_
          exact iRT.go 1 (ih _ _ _ _ _ _ _ h) (fun _ _ => rfl)
        · obtain ⟨i11, s10, h1, h⟩ := i_o2_inv h
          refine iRT.call (f25_ok L N (d + 1) _ _ _ _ _ h1) ?_
          refine iRT.ck h fun h => ?_
          refine iRT.ov h fun h => ?_
          refine iRT.ov h fun h => ?_
          exact iRT.go 1 (ih _ _ _ _ _ _ _ h) (fun _ _ => rfl)
set_option maxHeartbeats 100000 in
theorem f24_25_ok (L N d : Nat) (x1 : Int) (x2 : Int) (x3 : Int) (s : gI) {o : Int × gI} (h : f24 N 25 x1 x2 x3 s = some o) : iEE L (d + 3) 24 [vR 25, vI x1, vI x2, vI x3] (s, g_rho) (some (vI o.1), (o.2, g_rho)) := by
  refine iEE.of (wr := false) (d := d + 2) (md := gm_24) rfl rfl rfl (iRR.of 5 ?_)
  exact iRT.go 4 (f24_25_at6_ok L N d N _ _ _ _ _ _ _ h) (fun _ _ => rfl)

-- GutterNine$Tape.add
set_option maxHeartbeats 100000 in
theorem f95_1_at43_ok (L N d : Nat) {r_at3 : Int → Int → gI → Option (gI)} (h_at3 : ∀ y1 x3 u4 u5 s o, r_at3 y1 x3 s = some o → iRR false L (d + 0) kj95 k95_3 [some (vR 1), some (vJ y1), none, some (vI x3), u4, u5] [] (s, g_rho) (none, (o, g_rho))) (y1 : Int) (x3 : Int) (x4 : Int) (z0 : Int) {u5 : Option iV} (s : gI) {o : gI} (h : f95_at43 N r_at3 y1 x3 x4 z0 s = some o) : iRR false L (d + 0) kj95 k95_43 [some (vR 1), some (vJ y1), none, some (vI x3), some (vI x4), u5] [vI z0] (s, g_rho) (none, (o, g_rho)) := by
  refine iRR.of 23 ?_
  refine iRT.ite h (fun h => ?_) (fun h => ?_)
  · refine iRT.ov h fun h => ?_
    exact iRT.go 1 (h_at3 _ _ _ _ _ _ h) (fun _ _ => rfl)
  · refine iRT.ite h (fun h => ?_) (fun h => ?_)
    · refine iRT.ov h fun h => ?_
      exact iRT.go 1 (h_at3 _ _ _ _ _ _ h) (fun _ _ => rfl)
    · refine iRT.ch h fun h => ?_
      refine iRT.ck h fun h => ?_
      refine iRT.ch h fun h => ?_
      refine iRT.ov h fun h => ?_
      refine iRT.ov h fun h => ?_
      exact iRT.go 1 (h_at3 _ _ _ _ _ _ h) (fun _ _ => rfl)
set_option maxHeartbeats 100000 in
theorem f95_1_at38_ok (L N d : Nat) {r_at3 : Int → Int → gI → Option (gI)} (h_at3 : ∀ y1 x3 u4 u5 s o, r_at3 y1 x3 s = some o → iRR false L (d + 0) kj95 k95_3 [some (vR 1), some (vJ y1), none, some (vI x3), u4, u5] [] (s, g_rho) (none, (o, g_rho))) (y1 : Int) (x3 : Int) (x4 : Int) {u5 : Option iV} (s : gI) {o : gI} (h : f95_at38 N r_at3 y1 x3 x4 s = some o) : iRR false L (d + 0) kj95 k95_38 [some (vR 1), some (vJ y1), none, some (vI x3), some (vI x4), u5] [] (s, g_rho) (none, (o, g_rho)) := by
  refine iRR.of 3 ?_
  exact iRT.go 2 (f95_1_at43_ok L N d h_at3 _ _ _ _ _ h) (fun _ _ => rfl)
set_option maxHeartbeats 100000 in
theorem f95_1_at42_ok (L N d : Nat) {r_at3 : Int → Int → gI → Option (gI)} (h_at3 : ∀ y1 x3 u4 u5 s o, r_at3 y1 x3 s = some o → iRR false L (d + 0) kj95 k95_3 [some (vR 1), some (vJ y1), none, some (vI x3), u4, u5] [] (s, g_rho) (none, (o, g_rho))) (y1 : Int) (x3 : Int) (x4 : Int) {u5 : Option iV} (s : gI) {o : gI} (h : f95_at42 N r_at3 y1 x3 x4 s = some o) : iRR false L (d + 0) kj95 k95_42 [some (vR 1), some (vJ y1), none, some (vI x3), some (vI x4), u5] [] (s, g_rho) (none, (o, g_rho)) := by
  refine iRR.of 2 ?_
  exact iRT.go 1 (f95_1_at43_ok L N d h_at3 _ _ _ _ _ h) (fun _ _ => rfl)
set_option maxHeartbeats 100000 in
theorem f95_1_at3_ok (L N d : Nat) : ∀ (n : Nat) (y1 : Int) (x3 : Int) {u4 u5 : Option iV} (s : gI) (o : gI), f95_at3 N n y1 x3 s = some o → iRR false L (d + 0) kj95 k95_3 [some (vR 1), some (vJ y1), none, some (vI x3), u4, u5] [] (s, g_rho) (none, (o, g_rho)) := by
  intro n
  induction n with
  | zero => intro _ _ _ _ _ _ h; cases h
  | succ n ih =>
    intro y1 x3 u4 u5 s o h
    refine iRR.of 401 ?_
    refine iRT.ite h (fun h => ?_) (fun h => ?_)
    · cases h
      exact iRT.ret
    · refine iRT.ite h (fun h => ?_) (fun h => ?_)
      · exact iRT.go 0 (f95_1_at38_ok L N d (fun a0 a1 b0 b1 s o h => ih a0 a1 s o h) _ _ _ _ h) (fun _ _ => rfl)
      · refine iRT.ite h (fun h => ?_) (fun h => ?_)
        · exact iRT.go 0 (f95_1_at42_ok L N d (fun a0 a1 b0 b1 s o h => ih a0 a1 s o h) _ _ _ _ h) (fun _ _ => rfl)
        · refine iRT.ite h (fun h => ?_) (fun h => ?_)
          · exact iRT.go 0 (f95_1_at42_ok L N d (fun a0 a1 b0 b1 s o h => ih a0 a1 s o h) _ _ _ _ h) (fun _ _ => rfl)
          · exact iRT.go 0 (f95_1_at38_ok L N d (fun a0 a1 b0 b1 s o h => ih a0 a1 s o h) _ _ _ _ h) (fun _ _ => rfl)
set_option maxHeartbeats 100000 in
theorem f95_1_ok (L N d : Nat) (y1 : Int) (s : gI) {o : gI} (h : f95 N y1 s = some o) : iEE L (d + 1) 95 [vR 1, vJ y1] (s, g_rho) (none, (o, g_rho)) := by
  refine iEE.of (wr := false) (d := d + 0) (md := gm_95) rfl rfl rfl (iRR.of 3 ?_)
  exact iRT.go 2 (f95_1_at3_ok L N d N _ _ _ _ h) (fun _ _ => rfl)
-- GutterNine.feed
set_option maxHeartbeats 100000 in
theorem f134_0_ok (L N d : Nat) (y1 : Int) (y3 : Int) (y5 : Int) (s : gI) {o : Int × gI} (h : f134 N y1 y3 y5 s = some o) : iEE L (d + 2) 134 [vR 0, vJ y1, vJ y3, vJ y5] (s, g_rho) (some (vI o.1), (o.2, g_rho)) := by
  refine iEE.of (wr := false) (d := d + 1) (md := gm_134) rfl rfl rfl (iRR.of 401 ?_)
  obtain ⟨s1, h1, h⟩ := i_o1_inv h
  refine iRT.call (f95_1_ok L N (d + 0) _ _ h1) ?_
  obtain ⟨s2, h1, h⟩ := i_o1_inv h
  refine iRT.call (f95_1_ok L N (d + 0) _ _ h1) ?_
  obtain ⟨s3, h1, h⟩ := i_o1_inv h
  refine iRT.call (f95_1_ok L N (d + 0) _ _ h1) ?_
  cases h
  exact iRT.ret
-- java/lang/String.isLatin1
set_option maxHeartbeats 100000 in
theorem f305_1034_ok (L N d : Nat) (s : gI) {o : Int × gI} (h : f305 N 1034  s = some o) : iEE L (d + 1) 305 [vR 1034] (s, g_rho) (some (vI o.1), (o.2, g_rho)) := by
  refine iEE.of (wr := false) (d := d + 0) (md := gm_305) rfl rfl rfl (iRR.of 401 ?_)
  replace h := i_h0 (by decide) h
  refine iRT.ite h (fun h => ?_) (fun h => ?_)
  · replace h := (ib1_inv h).2
    cases h
    exact iRT.ret
  · replace h := (ib1_inv h).2
    cases h
    exact iRT.ret
-- java/lang/String.coder
set_option maxHeartbeats 100000 in
theorem f304_1034_ok (L N d : Nat) (s : gI) {o : Int × gI} (h : f304 N 1034  s = some o) : iEE L (d + 1) 304 [vR 1034] (s, g_rho) (some (vI o.1), (o.2, g_rho)) := by
  refine iEE.of (wr := false) (d := d + 0) (md := gm_304) rfl rfl rfl (iRR.of 401 ?_)
  replace h := i_h0 (by decide) h
  refine iRT.b1 h fun h => ?_
  cases h
  exact iRT.ret
-- java/lang/String.length
set_option maxHeartbeats 100000 in
theorem f300_1034_ok (L N d : Nat) (s : gI) {o : Int × gI} (h : f300 N 1034 8  s = some o) : iEE L (d + 2) 300 [vR 1034] (s, g_rho) (some (vI o.1), (o.2, g_rho)) := by
  refine iEE.of (wr := false) (d := d + 1) (md := gm_300) rfl rfl rfl (iRR.of 401 ?_)
  replace h := (iov_inv h).2
  obtain ⟨i2, s1, h1, h⟩ := i_o2_inv h
  refine iRT.call (f304_1034_ok L N (d + 0)  _ h1) ?_
  cases h
  exact iRT.ret
-- java/lang/StringLatin1.canEncode
set_option maxHeartbeats 100000 in
theorem f309_ok (L N d : Nat) (x0 : Int) (s : gI) {o : Int × gI} (h : f309 N x0 s = some o) : iEE L (d + 1) 309 [vI x0] (s, g_rho) (some (vI o.1), (o.2, g_rho)) := by
  refine iEE.of (wr := false) (d := d + 0) (md := gm_309) rfl rfl rfl (iRR.of 401 ?_)
  refine iRT.ite h (fun h => ?_) (fun h => ?_)
  · replace h := (ib1_inv h).2
    cases h
    exact iRT.ret
  · refine iRT.ite h (fun h => ?_) (fun h => ?_)
    · replace h := (ib1_inv h).2
      cases h
      exact iRT.ret
    · replace h := (ib1_inv h).2
      cases h
      exact iRT.ret
-- java/lang/StringLatin1.indexOfChar
set_option maxHeartbeats 100000 in
theorem f311_1035_at7_ok (L N d : Nat) : ∀ (n : Nat) (x3 : Int) (x4 : Int) (x5 : Int) {u1 u2 : Option iV} (s : gI) (o : Int × gI), f311_at7 N 1035 8 n x3 x4 x5 s = some o → iRR false L (d + 0) kj311 k311_7 [some (vR 1035), u1, u2, some (vI x3), some (vI x4), some (vI x5)] [] (s, g_rho) (some (vI o.1), (o.2, g_rho)) := by
  intro n
  induction n with
  | zero => intro _ _ _ _ _ _ _ h; cases h
  | succ n ih =>
    intro x3 x4 x5 u1 u2 s o h
    refine iRR.of 401 ?_
    refine iRT.ite h (fun h => ?_) (fun h => ?_)
    · cases h
      exact iRT.ret
    · refine iRT.ck h fun h => ?_
      refine iRT.ite h (fun h => ?_) (fun h => ?_)
      · cases h
        exact iRT.ret
      · refine iRT.ov h fun h => ?_
        exact iRT.go 1 (ih _ _ _ _ _ h) (fun _ _ => rfl)
set_option maxHeartbeats 100000 in
theorem f311_1035_ok (L N d : Nat) (x1 : Int) (x2 : Int) (x3 : Int) (s : gI) {o : Int × gI} (h : f311 N 1035 8 x1 x2 x3 s = some o) : iEE L (d + 1) 311 [vR 1035, vI x1, vI x2, vI x3] (s, g_rho) (some (vI o.1), (o.2, g_rho)) := by
  refine iEE.of (wr := false) (d := d + 0) (md := gm_311) rfl rfl rfl (iRR.of 6 ?_)
  refine iRT.ck h fun h => ?_
  exact iRT.go 3 (f311_1035_at7_ok L N d N _ _ _ _ _ h) (fun _ _ => rfl)
-- java/lang/StringLatin1.indexOf
set_option maxHeartbeats 100000 in
theorem f310_1035_ok (L N d : Nat) (x1 : Int) (x2 : Int) (x3 : Int) (s : gI) {o : Int × gI} (h : f310 N 1035 8 x1 x2 x3 s = some o) : iEE L (d + 2) 310 [vR 1035, vI x1, vI x2, vI x3] (s, g_rho) (some (vI o.1), (o.2, g_rho)) := by
  refine iEE.of (wr := false) (d := d + 1) (md := gm_310) rfl rfl rfl (iRR.of 401 ?_)
  obtain ⟨i2, s1, h1, h⟩ := i_o2_inv h
  refine iRT.call (f309_ok L N (d + 0) _ _ h1) ?_
  refine iRT.ite h (fun h => ?_) (fun h => ?_)
  · cases h
    exact iRT.ret
  · replace h := (iov_inv h).2
    refine iRT.ite h (fun h => ?_) (fun h => ?_)
    · obtain ⟨i6, s5, h1, h⟩ := i_o2_inv h
      refine iRT.call (f311_1035_ok L N (d + 0) _ _ _ _ h1) ?_
      cases h
      exact iRT.ret
    · cases h
      exact iRT.ret
-- java/lang/String.indexOf
set_option maxHeartbeats 100000 in
theorem f303_1034_ok (L N d : Nat) (x1 : Int) (x2 : Int) (s : gI) {o : Int × gI} (h : f303 N 1034 8 x1 x2 s = some o) : iEE L (d + 3) 303 [vR 1034, vI x1, vI x2] (s, g_rho) (some (vI o.1), (o.2, g_rho)) := by
  refine iEE.of (wr := false) (d := d + 2) (md := gm_303) rfl rfl rfl (iRR.of 401 ?_)
  obtain ⟨i2, s1, h1, h⟩ := i_o2_inv h
  refine iRT.call (f305_1034_ok L N (d + 1)  _ h1) ?_
  refine iRT.ite h (fun h => ?_) (fun h => ?_)
  · obtain ⟨i4, s3, h1, h⟩ := i_o2_inv h
    refine iRT.call (f300_1034_ok L N (d + 0)  _ h1) ?_
    cases h
  · obtain ⟨i6, s5, h1, h⟩ := i_o2_inv h
    refine iRT.call (f300_1034_ok L N (d + 0)  _ h1) ?_
    obtain ⟨i8, s7, h1, h⟩ := i_o2_inv h
    refine iRT.call (f310_1035_ok L N (d + 0) _ _ _ _ h1) ?_
    cases h
    exact iRT.ret
-- java/lang/String.indexOf
set_option maxHeartbeats 100000 in
theorem f302_1034_ok (L N d : Nat) (x1 : Int) (s : gI) {o : Int × gI} (h : f302 N 1034 8 x1 s = some o) : iEE L (d + 4) 302 [vR 1034, vI x1] (s, g_rho) (some (vI o.1), (o.2, g_rho)) := by
  refine iEE.of (wr := false) (d := d + 3) (md := gm_302) rfl rfl rfl (iRR.of 401 ?_)
  obtain ⟨i2, s1, h1, h⟩ := i_o2_inv h
  refine iRT.call (f303_1034_ok L N (d + 0) _ _ _ h1) ?_
  cases h
  exact iRT.ret
-- GutterNine$Tape.runEnd
set_option maxHeartbeats 100000 in
theorem f98_1_at5_ok (L N d : Nat) : ∀ (n : Nat) (x1 : Int) (x2 : Int) (x3 : Int) (s : gI) (o : Int × gI), f98_at5 N n x1 x2 x3 s = some o → iRR false L (d + 0) kj98 k98_5 [some (vR 1), some (vI x1), some (vI x2), some (vI x3)] [] (s, g_rho) (some (vI o.1), (o.2, g_rho)) := by
  intro n
  induction n with
  | zero => intro _ _ _ _ _ h; cases h
  | succ n ih =>
    intro x1 x2 x3 s o h
    refine iRR.of 401 ?_
    refine iRT.ite h (fun h => ?_) (fun h => ?_)
    · cases h
      exact iRT.ret
    · refine iRT.ck h fun h => ?_
      refine iRT.ite h (fun h => ?_) (fun h => ?_)
      · cases h
        exact iRT.ret
      · refine iRT.ck h fun h => ?_
        refine iRT.ite h (fun h => ?_) (fun h => ?_)
        · cases h
          exact iRT.ret
        · refine iRT.ov h fun h => ?_
          exact iRT.go 1 (ih _ _ _ _ _ h) (fun _ _ => rfl)
set_option maxHeartbeats 100000 in
theorem f98_1_ok (L N d : Nat) (x1 : Int) (x2 : Int) (s : gI) {o : Int × gI} (h : f98 N x1 x2 s = some o) : iEE L (d + 1) 98 [vR 1, vI x1, vI x2] (s, g_rho) (some (vI o.1), (o.2, g_rho)) := by
  refine iEE.of (wr := false) (d := d + 0) (md := gm_98) rfl rfl rfl (iRR.of 4 ?_)
  exact iRT.go 3 (f98_1_at5_ok L N d N _ _ _ _ _ h) (fun _ _ => rfl)
-- GutterNine$Tape.readNumber
set_option maxHeartbeats 100000 in
theorem f99_1_at19_ok (L N d : Nat) : ∀ (n : Nat) (x1 : Int) (s : gI) (o : gI), f99_at19 N n x1 s = some o → iRR false L (d + 0) kj99 k99_19 [some (vR 1), some (vI x1)] [] (s, g_rho) (none, (o, g_rho)) := by
  intro n
  induction n with
  | zero => intro _ _ _ h; cases h
  | succ n ih =>
    intro x1 s o h
    refine iRR.of 401 ?_
    refine iRT.ite h (fun h => ?_) (fun h => ?_)
    · cases h
      exact iRT.ret
    · refine iRT.ov h fun h => ?_
      refine iRT.ck h fun h => ?_
      refine iRT.ov h fun h => ?_
      refine iRT.ov h fun h => ?_
      refine iRT.ov h fun h => ?_
      exact iRT.go 1 (ih _ _ _ h) (fun _ _ => rfl)
set_option maxHeartbeats 100000 in
theorem f99_1_ok (L N d : Nat) (s : gI) {o : gI} (h : f99 N  s = some o) : iEE L (d + 1) 99 [vR 1] (s, g_rho) (none, (o, g_rho)) := by
  refine iEE.of (wr := false) (d := d + 0) (md := gm_99) rfl rfl rfl (iRR.of 401 ?_)
  refine iRT.ite h (fun h => ?_) (fun h => ?_)
  · exact iRT.go 6 (f99_1_at19_ok L N d N _ _ _ h) (fun _ _ => rfl)
  · cases h
    exact iRT.ret
-- GutterNine$Tape.advance
set_option maxHeartbeats 100000 in
theorem f97_1_at178_ok (L N d : Nat) (x1 : Int) (x2 : Int) (s : gI) {o : gI} (h : f97_at178 N x1 x2 s = some o) : iRR false L (d + 4) kj97 k97_178 [some (vR 1), some (vI x1), some (vI x2)] [] (s, g_rho) (none, (o, g_rho)) := by
  refine iRR.of 401 ?_
  refine iRT.ov h fun h => ?_
  obtain ⟨i3, s2, h1, h⟩ := i_o2_inv h
  refine iRT.call (f302_1034_ok L N (d + 0) _ _ h1) ?_
  refine iRT.ite h (fun h => ?_) (fun h => ?_)
  · cases h
    exact iRT.ret
  · cases h
    exact iRT.ret
set_option maxHeartbeats 100000 in
theorem f97_1_at168_ok (L N d : Nat) (z0 : Int) {u1 : Option iV} {u2 : Option iV} (s : gI) {o : gI} (h : f97_at168 N z0 s = some o) : iRR false L (d + 4) kj97 k97_168 [some (vR 1), u1, u2] [vI z0, vR 1] (s, g_rho) (none, (o, g_rho)) := by
  refine iRR.of 401 ?_
  delta f97_at168 at h
  obtain ⟨s2, h1, h⟩ := i_o1_inv h
  refine iRT.call (f99_1_ok L N (d + 3)  _ h1) ?_
  cases h
  exact iRT.ret
set_option maxHeartbeats 100000 in
theorem f97_1_at125_ok (L N d : Nat) (x1 : Int) (x2 : Int) (s : gI) {o : gI} (h : f97_at125 N x1 x2 s = some o) : iRR false L (d + 4) kj97 k97_125 [some (vR 1), some (vI x1), some (vI x2)] [] (s, g_rho) (none, (o, g_rho)) := by
  refine iRR.of 23 ?_
  refine iRT.ite h (fun h => ?_) (fun h => ?_)
  · exact iRT.go 0 (f97_1_at178_ok L N d _ _ _ h) (fun _ _ => rfl)
  · refine iRT.ite h (fun h => ?_) (fun h => ?_)
    · exact iRT.go 0 (f97_1_at178_ok L N d _ _ _ h) (fun _ _ => rfl)
    · obtain ⟨i2, s1, h1, h⟩ := i_o2_inv h
      refine iRT.call (f98_1_ok L N (d + 3) _ _ _ h1) ?_
      refine iRT.ov h fun h => ?_
      refine iRT.ite h (fun h => ?_) (fun h => ?_)
      · exact iRT.go 1 (f97_1_at168_ok L N d _ _ h) (fun _ _ => rfl)
      · exact iRT.go 2 (f97_1_at168_ok L N d _ _ h) (fun _ _ => rfl)
set_option maxHeartbeats 100000 in
theorem f97_1_at41_ok (L N d : Nat) (x1 : Int) {u2 : Option iV} (s : gI) {o : gI} (h : f97_at41 N x1 s = some o) : iRR false L (d + 4) kj97 k97_41 [some (vR 1), some (vI x1), u2] [] (s, g_rho) (none, (o, g_rho)) := by
  refine iRR.of 401 ?_
  refine iRT.ite h (fun h => ?_) (fun h => ?_)
  · refine iRT.ck h fun h => ?_
    refine iRT.ite h (fun h => ?_) (fun h => ?_)
    · exact iRT.go 0 (f97_1_at125_ok L N d _ _ _ h) (fun _ _ => rfl)
    · refine iRT.ite h (fun h => ?_) (fun h => ?_)
      · exact iRT.go 0 (f97_1_at125_ok L N d _ _ _ h) (fun _ _ => rfl)
      · obtain ⟨i4, s3, h1, h⟩ := i_o2_inv h
        refine iRT.call (f98_1_ok L N (d + 3) _ _ _ h1) ?_
        refine iRT.ov h fun h => ?_
        refine iRT.ite h (fun h => ?_) (fun h => ?_)
        · cases h
          exact iRT.ret
        · cases h
          exact iRT.ret
  · cases h
    exact iRT.ret
set_option maxHeartbeats 100000 in
theorem f97_1_at5_ok (L N d : Nat) : ∀ (n : Nat) (x1 : Int) {u2 : Option iV} (s : gI) (o : gI), f97_at5 N n x1 s = some o → iRR false L (d + 4) kj97 k97_5 [some (vR 1), some (vI x1), u2] [] (s, g_rho) (none, (o, g_rho)) := by
  intro n
  induction n with
  | zero => intro _ _ _ _ h; cases h
  | succ n ih =>
    intro x1 u2 s o h
    refine iRR.of 19 ?_
    refine iRT.ite h (fun h => ?_) (fun h => ?_)
    · exact iRT.go 0 (f97_1_at41_ok L N d _ _ h) (fun _ _ => rfl)
    · refine iRT.ck h fun h => ?_
      refine iRT.ite h (fun h => ?_) (fun h => ?_)
      · refine iRT.ov h fun h => ?_
        exact iRT.go 1 (ih _ _ _ h) (fun _ _ => rfl)
      · refine iRT.ck h fun h => ?_
        refine iRT.ite h (fun h => ?_) (fun h => ?_)
        · refine iRT.ov h fun h => ?_
          exact iRT.go 1 (ih _ _ _ h) (fun _ _ => rfl)
        · exact iRT.go 0 (f97_1_at41_ok L N d _ _ h) (fun _ _ => rfl)
set_option maxHeartbeats 100000 in
theorem f97_1_ok (L N d : Nat) (s : gI) {o : gI} (h : f97 N  s = some o) : iEE L (d + 5) 97 [vR 1] (s, g_rho) (none, (o, g_rho)) := by
  refine iEE.of (wr := false) (d := d + 4) (md := gm_97) rfl rfl rfl (iRR.of 4 ?_)
  exact iRT.go 3 (f97_1_at5_ok L N d N _ _ _ h) (fun _ _ => rfl)
-- GutterNine$Tape.begin
set_option maxHeartbeats 100000 in
theorem f96_1_ok (L N d : Nat) (s : gI) {o : gI} (h : f96 N  s = some o) : iEE L (d + 6) 96 [vR 1] (s, g_rho) (none, (o, g_rho)) := by
  refine iEE.of (wr := false) (d := d + 5) (md := gm_96) rfl rfl rfl (iRR.of 401 ?_)
  delta f96 at h
  obtain ⟨s3, h1, h⟩ := i_o1_inv h
  refine iRT.call (f97_1_ok L N (d + 0)  _ h1) ?_
  cases h
  exact iRT.ret
-- java/lang/String.coder
set_option maxHeartbeats 100000 in
theorem f304_1028_ok (L N d : Nat) (s : gI) {o : Int × gI} (h : f304 N 1028  s = some o) : iEE L (d + 1) 304 [vR 1028] (s, g_rho) (some (vI o.1), (o.2, g_rho)) := by
  refine iEE.of (wr := false) (d := d + 0) (md := gm_304) rfl rfl rfl (iRR.of 401 ?_)
  replace h := i_h0 (by decide) h
  refine iRT.b1 h fun h => ?_
  cases h
  exact iRT.ret
-- java/lang/String.length
set_option maxHeartbeats 100000 in
theorem f300_1028_ok (L N d : Nat) (s : gI) {o : Int × gI} (h : f300 N 1028 4  s = some o) : iEE L (d + 2) 300 [vR 1028] (s, g_rho) (some (vI o.1), (o.2, g_rho)) := by
  refine iEE.of (wr := false) (d := d + 1) (md := gm_300) rfl rfl rfl (iRR.of 401 ?_)
  replace h := (iov_inv h).2
  obtain ⟨i2, s1, h1, h⟩ := i_o2_inv h
  refine iRT.call (f304_1028_ok L N (d + 0)  _ h1) ?_
  cases h
  exact iRT.ret
-- java/lang/String.isLatin1
set_option maxHeartbeats 100000 in
theorem f305_1028_ok (L N d : Nat) (s : gI) {o : Int × gI} (h : f305 N 1028  s = some o) : iEE L (d + 1) 305 [vR 1028] (s, g_rho) (some (vI o.1), (o.2, g_rho)) := by
  refine iEE.of (wr := false) (d := d + 0) (md := gm_305) rfl rfl rfl (iRR.of 401 ?_)
  replace h := i_h0 (by decide) h
  refine iRT.ite h (fun h => ?_) (fun h => ?_)
  · replace h := (ib1_inv h).2
    cases h
    exact iRT.ret
  · replace h := (ib1_inv h).2
    cases h
    exact iRT.ret
-- jdk/internal/util/Preconditions.checkIndex
set_option maxHeartbeats 100000 in
theorem f322_at9_ok (L N d : Nat) (x0 : Int) (x1 : Int) (s : gI) {o : Int × gI} (h : f322_at9 N x0 x1 s = some o) : iRR false L (d + 0) kj322 k322_9 [some (vI x0), some (vI x1), some (none)] [] (s, g_rho) (some (vI o.1), (o.2, g_rho)) := by
  refine iRR.of 401 ?_
  cases h
set_option maxHeartbeats 100000 in
theorem f322_ok (L N d : Nat) (x0 : Int) (x1 : Int) (s : gI) {o : Int × gI} (h : f322 N x0 x1 s = some o) : iEE L (d + 1) 322 [vI x0, vI x1, none] (s, g_rho) (some (vI o.1), (o.2, g_rho)) := by
  refine iEE.of (wr := false) (d := d + 0) (md := gm_322) rfl rfl rfl (iRR.of 401 ?_)
  refine iRT.ite h (fun h => ?_) (fun h => ?_)
  · exact iRT.go 0 (f322_at9_ok L N d _ _ _ h) (fun _ _ => rfl)
  · refine iRT.ite h (fun h => ?_) (fun h => ?_)
    · cases h
      exact iRT.ret
    · exact iRT.go 0 (f322_at9_ok L N d _ _ _ h) (fun _ _ => rfl)
-- java/lang/String.checkIndex
set_option maxHeartbeats 100000 in
theorem f306_ok (L N d : Nat) (x0 : Int) (x1 : Int) (s : gI) {o : gI} (h : f306 N x0 x1 s = some o) : iEE L (d + 2) 306 [vI x0, vI x1] (s, g_rho) (none, (o, g_rho)) := by
  refine iEE.of (wr := false) (d := d + 1) (md := gm_306) rfl rfl rfl (iRR.of 401 ?_)
  obtain ⟨i2, s1, h1, h⟩ := i_o2_inv h
  refine iRT.call (f322_ok L N (d + 0) _ _ _ h1) ?_
  cases h
  exact iRT.ret
-- java/lang/StringLatin1.charAt
set_option maxHeartbeats 100000 in
theorem f308_1029_ok (L N d : Nat) (x1 : Int) (s : gI) {o : Int × gI} (h : f308 N 1029 4 x1 s = some o) : iEE L (d + 3) 308 [vR 1029, vI x1] (s, g_rho) (some (vI o.1), (o.2, g_rho)) := by
  refine iEE.of (wr := false) (d := d + 2) (md := gm_308) rfl rfl rfl (iRR.of 401 ?_)
  replace h := (iov_inv h).2
  obtain ⟨s1, h1, h⟩ := i_o1_inv h
  refine iRT.call (f306_ok L N (d + 0) _ _ _ h1) ?_
  refine iRT.ck h fun h => ?_
  refine iRT.ch h fun h => ?_
  refine iRT.ch h fun h => ?_
  cases h
  exact iRT.ret
-- java/lang/String.charAt
set_option maxHeartbeats 100000 in
theorem f301_1028_ok (L N d : Nat) (x1 : Int) (s : gI) {o : Int × gI} (h : f301 N 1028 4 x1 s = some o) : iEE L (d + 4) 301 [vR 1028, vI x1] (s, g_rho) (some (vI o.1), (o.2, g_rho)) := by
  refine iEE.of (wr := false) (d := d + 3) (md := gm_301) rfl rfl rfl (iRR.of 401 ?_)
  obtain ⟨i2, s1, h1, h⟩ := i_o2_inv h
  refine iRT.call (f305_1028_ok L N (d + 2)  _ h1) ?_
  refine iRT.ite h (fun h => ?_) (fun h => ?_)
  · cases h
  · obtain ⟨i4, s3, h1, h⟩ := i_o2_inv h
    refine iRT.call (f308_1029_ok L N (d + 0) _ _ h1) ?_
    refine iRT.ch h fun h => ?_
    cases h
    exact iRT.ret
-- GutterNine$Tape.isWord
set_option maxHeartbeats 100000 in
theorem f101_1_1028_at31_ok (L N d : Nat) : ∀ (n : Nat) (x2 : Int) (s : gI) (o : Int × gI), f101_at31 N 1028 4 n x2 s = some o → iRR false L (d + 4) kj101 k101_31 [some (vR 1), some (vR 1028), some (vI x2)] [] (s, g_rho) (some (vI o.1), (o.2, g_rho)) := by
  intro n
  induction n with
  | zero => intro _ _ _ h; cases h
  | succ n ih =>
    intro x2 s o h
    refine iRR.of 401 ?_
    refine iRT.ite h (fun h => ?_) (fun h => ?_)
    · replace h := (ib1_inv h).2
      cases h
      exact iRT.ret
    · refine iRT.ck h fun h => ?_
      refine iRT.ov h fun h => ?_
      obtain ⟨i2, s1, h1, h⟩ := i_o2_inv h
      refine iRT.call (f301_1028_ok L N (d + 0) _ _ h1) ?_
      refine iRT.ite h (fun h => ?_) (fun h => ?_)
      · refine iRT.ov h fun h => ?_
        exact iRT.go 1 (ih _ _ _ h) (fun _ _ => rfl)
      · replace h := (ib1_inv h).2
        cases h
        exact iRT.ret
set_option maxHeartbeats 100000 in
theorem f101_1_1028_ok (L N d : Nat) (s : gI) {o : Int × gI} (h : f101 N 1028 4  s = some o) : iEE L (d + 5) 101 [vR 1, vR 1028] (s, g_rho) (some (vI o.1), (o.2, g_rho)) := by
  refine iEE.of (wr := false) (d := d + 4) (md := gm_101) rfl rfl rfl (iRR.of 401 ?_)
  refine iRT.ite h (fun h => ?_) (fun h => ?_)
  · refine iRT.ov h fun h => ?_
    obtain ⟨i2, s1, h1, h⟩ := i_o2_inv h
    refine iRT.call (f300_1028_ok L N (d + 2)  _ h1) ?_
    refine iRT.ite h (fun h => ?_) (fun h => ?_)
    · exact iRT.go 3 (f101_1_1028_at31_ok L N d N _ _ _ h) (fun _ _ => rfl)
    · replace h := (ib1_inv h).2
      cases h
      exact iRT.ret
  · replace h := (ib1_inv h).2
    cases h
    exact iRT.ret
-- GutterNine$Tape.fail
set_option maxHeartbeats 100000 in
theorem f104_1_ok (L N d : Nat) (x1 : Int) (s : gI) {o : Int × gI} (h : f104 N x1 s = some o) : iEE L (d + 1) 104 [vR 1, vI x1] (s, g_rho) (some (vI o.1), (o.2, g_rho)) := by
  refine iEE.of (wr := false) (d := d + 0) (md := gm_104) rfl rfl rfl (iRR.of 401 ?_)
  refine iRT.ov h fun h => ?_
  refine iRT.ov h fun h => ?_
  replace h := (ib1_inv h).2
  cases h
  exact iRT.ret
-- GutterNine$Tape.takeWord
set_option maxHeartbeats 100000 in
theorem f105_1_1028_ok (L N d : Nat) (s : gI) {o : Int × gI} (h : f105 N 1028 4  s = some o) : iEE L (d + 6) 105 [vR 1, vR 1028] (s, g_rho) (some (vI o.1), (o.2, g_rho)) := by
  refine iEE.of (wr := false) (d := d + 5) (md := gm_105) rfl rfl rfl (iRR.of 401 ?_)
  obtain ⟨i2, s1, h1, h⟩ := i_o2_inv h
  refine iRT.call (f101_1_1028_ok L N (d + 0)  _ h1) ?_
  refine iRT.ite h (fun h => ?_) (fun h => ?_)
  · obtain ⟨i5, s4, h1, h⟩ := i_o2_inv h
    refine iRT.call (f104_1_ok L N (d + 4) _ _ h1) ?_
    refine iRT.b1 h fun h => ?_
    cases h
    exact iRT.ret
  · obtain ⟨s3, h1, h⟩ := i_o1_inv h
    refine iRT.call (f97_1_ok L N (d + 0)  _ h1) ?_
    replace h := (ib1_inv h).2
    cases h
    exact iRT.ret
-- GutterNine$Tape.takeNumber
set_option maxHeartbeats 100000 in
theorem f107_1_at30_ok (L N d : Nat) {u1 : Option iV} {u2 : Option iV} (s : gI) {o : Int × gI} (h : f107_at30 N  s = some o) : iRR false L (d + 5) kj107 k107_30 [some (vR 1), u1, u2] [] (s, g_rho) (some (vI o.1), (o.2, g_rho)) := by
  refine iRR.of 401 ?_
  obtain ⟨i2, s1, h1, h⟩ := i_o2_inv h
  refine iRT.call (f104_1_ok L N (d + 4) _ _ h1) ?_
  refine iRT.b1 h fun h => ?_
  cases h
  exact iRT.ret
set_option maxHeartbeats 100000 in
theorem f107_1_ok (L N d : Nat) (x1 : Int) (x2 : Int) (s : gI) {o : Int × gI} (h : f107 N x1 x2 s = some o) : iEE L (d + 6) 107 [vR 1, vI x1, vI x2] (s, g_rho) (some (vI o.1), (o.2, g_rho)) := by
  refine iEE.of (wr := false) (d := d + 5) (md := gm_107) rfl rfl rfl (iRR.of 401 ?_)
  refine iRT.ite h (fun h => ?_) (fun h => ?_)
  · refine iRT.ite h (fun h => ?_) (fun h => ?_)
    · exact iRT.go 0 (f107_1_at30_ok L N d  _ h) (fun _ _ => rfl)
    · refine iRT.ite h (fun h => ?_) (fun h => ?_)
      · obtain ⟨s2, h1, h⟩ := i_o1_inv h
        refine iRT.call (f97_1_ok L N (d + 0)  _ h1) ?_
        replace h := (ib1_inv h).2
        cases h
        exact iRT.ret
      · exact iRT.go 0 (f107_1_at30_ok L N d  _ h) (fun _ _ => rfl)
  · obtain ⟨i4, s3, h1, h⟩ := i_o2_inv h
    refine iRT.call (f104_1_ok L N (d + 4) _ _ h1) ?_
    refine iRT.b1 h fun h => ?_
    cases h
    exact iRT.ret
-- GutterNine$Tape.isSign
set_option maxHeartbeats 100000 in
theorem f100_1_ok (L N d : Nat) (x1 : Int) (s : gI) {o : Int × gI} (h : f100 N x1 s = some o) : iEE L (d + 1) 100 [vR 1, vI x1] (s, g_rho) (some (vI o.1), (o.2, g_rho)) := by
  refine iEE.of (wr := false) (d := d + 0) (md := gm_100) rfl rfl rfl (iRR.of 401 ?_)
  refine iRT.ite h (fun h => ?_) (fun h => ?_)
  · refine iRT.ck h fun h => ?_
    refine iRT.ite h (fun h => ?_) (fun h => ?_)
    · replace h := (ib1_inv h).2
      cases h
      exact iRT.ret
    · replace h := (ib1_inv h).2
      cases h
      exact iRT.ret
  · replace h := (ib1_inv h).2
    cases h
    exact iRT.ret
-- GutterNine$Tape.takeSemicolon
set_option maxHeartbeats 100000 in
theorem f106_1_ok (L N d : Nat) (s : gI) {o : Int × gI} (h : f106 N  s = some o) : iEE L (d + 6) 106 [vR 1] (s, g_rho) (some (vI o.1), (o.2, g_rho)) := by
  refine iEE.of (wr := false) (d := d + 5) (md := gm_106) rfl rfl rfl (iRR.of 401 ?_)
  obtain ⟨i2, s1, h1, h⟩ := i_o2_inv h
  refine iRT.call (f100_1_ok L N (d + 4) _ _ h1) ?_
  refine iRT.ite h (fun h => ?_) (fun h => ?_)
  · obtain ⟨i5, s4, h1, h⟩ := i_o2_inv h
    refine iRT.call (f104_1_ok L N (d + 4) _ _ h1) ?_
    refine iRT.b1 h fun h => ?_
    cases h
    exact iRT.ret
  · obtain ⟨s3, h1, h⟩ := i_o1_inv h
    refine iRT.call (f97_1_ok L N (d + 0)  _ h1) ?_
    replace h := (ib1_inv h).2
    cases h
    exact iRT.ret
-- java/lang/String.coder
set_option maxHeartbeats 100000 in
theorem f304_1030_ok (L N d : Nat) (s : gI) {o : Int × gI} (h : f304 N 1030  s = some o) : iEE L (d + 1) 304 [vR 1030] (s, g_rho) (some (vI o.1), (o.2, g_rho)) := by
  refine iEE.of (wr := false) (d := d + 0) (md := gm_304) rfl rfl rfl (iRR.of 401 ?_)
  replace h := i_h0 (by decide) h
  refine iRT.b1 h fun h => ?_
  cases h
  exact iRT.ret
-- java/lang/String.length
set_option maxHeartbeats 100000 in
theorem f300_1030_ok (L N d : Nat) (s : gI) {o : Int × gI} (h : f300 N 1030 3  s = some o) : iEE L (d + 2) 300 [vR 1030] (s, g_rho) (some (vI o.1), (o.2, g_rho)) := by
  refine iEE.of (wr := false) (d := d + 1) (md := gm_300) rfl rfl rfl (iRR.of 401 ?_)
  replace h := (iov_inv h).2
  obtain ⟨i2, s1, h1, h⟩ := i_o2_inv h
  refine iRT.call (f304_1030_ok L N (d + 0)  _ h1) ?_
  cases h
  exact iRT.ret
-- java/lang/String.isLatin1
set_option maxHeartbeats 100000 in
theorem f305_1030_ok (L N d : Nat) (s : gI) {o : Int × gI} (h : f305 N 1030  s = some o) : iEE L (d + 1) 305 [vR 1030] (s, g_rho) (some (vI o.1), (o.2, g_rho)) := by
  refine iEE.of (wr := false) (d := d + 0) (md := gm_305) rfl rfl rfl (iRR.of 401 ?_)
  replace h := i_h0 (by decide) h
  refine iRT.ite h (fun h => ?_) (fun h => ?_)
  · replace h := (ib1_inv h).2
    cases h
    exact iRT.ret
  · replace h := (ib1_inv h).2
    cases h
    exact iRT.ret
-- java/lang/StringLatin1.charAt
set_option maxHeartbeats 100000 in
theorem f308_1031_ok (L N d : Nat) (x1 : Int) (s : gI) {o : Int × gI} (h : f308 N 1031 3 x1 s = some o) : iEE L (d + 3) 308 [vR 1031, vI x1] (s, g_rho) (some (vI o.1), (o.2, g_rho)) := by
  refine iEE.of (wr := false) (d := d + 2) (md := gm_308) rfl rfl rfl (iRR.of 401 ?_)
  replace h := (iov_inv h).2
  obtain ⟨s1, h1, h⟩ := i_o1_inv h
  refine iRT.call (f306_ok L N (d + 0) _ _ _ h1) ?_
  refine iRT.ck h fun h => ?_
  refine iRT.ch h fun h => ?_
  refine iRT.ch h fun h => ?_
  cases h
  exact iRT.ret
-- java/lang/String.charAt
set_option maxHeartbeats 100000 in
theorem f301_1030_ok (L N d : Nat) (x1 : Int) (s : gI) {o : Int × gI} (h : f301 N 1030 3 x1 s = some o) : iEE L (d + 4) 301 [vR 1030, vI x1] (s, g_rho) (some (vI o.1), (o.2, g_rho)) := by
  refine iEE.of (wr := false) (d := d + 3) (md := gm_301) rfl rfl rfl (iRR.of 401 ?_)
  obtain ⟨i2, s1, h1, h⟩ := i_o2_inv h
  refine iRT.call (f305_1030_ok L N (d + 2)  _ h1) ?_
  refine iRT.ite h (fun h => ?_) (fun h => ?_)
  · cases h
  · obtain ⟨i4, s3, h1, h⟩ := i_o2_inv h
    refine iRT.call (f308_1031_ok L N (d + 0) _ _ h1) ?_
    refine iRT.ch h fun h => ?_
    cases h
    exact iRT.ret
-- GutterNine$Tape.isWord
set_option maxHeartbeats 100000 in
theorem f101_1_1030_at31_ok (L N d : Nat) : ∀ (n : Nat) (x2 : Int) (s : gI) (o : Int × gI), f101_at31 N 1030 3 n x2 s = some o → iRR false L (d + 4) kj101 k101_31 [some (vR 1), some (vR 1030), some (vI x2)] [] (s, g_rho) (some (vI o.1), (o.2, g_rho)) := by
  intro n
  induction n with
  | zero => intro _ _ _ h; cases h
  | succ n ih =>
    intro x2 s o h
    refine iRR.of 401 ?_
    refine iRT.ite h (fun h => ?_) (fun h => ?_)
    · replace h := (ib1_inv h).2
      cases h
      exact iRT.ret
    · refine iRT.ck h fun h => ?_
      refine iRT.ov h fun h => ?_
      obtain ⟨i2, s1, h1, h⟩ := i_o2_inv h
      refine iRT.call (f301_1030_ok L N (d + 0) _ _ h1) ?_
      refine iRT.ite h (fun h => ?_) (fun h => ?_)
      · refine iRT.ov h fun h => ?_
        exact iRT.go 1 (ih _ _ _ h) (fun _ _ => rfl)
      · replace h := (ib1_inv h).2
        cases h
        exact iRT.ret
set_option maxHeartbeats 100000 in
theorem f101_1_1030_ok (L N d : Nat) (s : gI) {o : Int × gI} (h : f101 N 1030 3  s = some o) : iEE L (d + 5) 101 [vR 1, vR 1030] (s, g_rho) (some (vI o.1), (o.2, g_rho)) := by
  refine iEE.of (wr := false) (d := d + 4) (md := gm_101) rfl rfl rfl (iRR.of 401 ?_)
  refine iRT.ite h (fun h => ?_) (fun h => ?_)
  · refine iRT.ov h fun h => ?_
    obtain ⟨i2, s1, h1, h⟩ := i_o2_inv h
    refine iRT.call (f300_1030_ok L N (d + 2)  _ h1) ?_
    refine iRT.ite h (fun h => ?_) (fun h => ?_)
    · exact iRT.go 3 (f101_1_1030_at31_ok L N d N _ _ _ h) (fun _ _ => rfl)
    · replace h := (ib1_inv h).2
      cases h
      exact iRT.ret
  · replace h := (ib1_inv h).2
    cases h
    exact iRT.ret
-- GutterNine$Tape.takeWord
set_option maxHeartbeats 100000 in
theorem f105_1_1030_ok (L N d : Nat) (s : gI) {o : Int × gI} (h : f105 N 1030 3  s = some o) : iEE L (d + 6) 105 [vR 1, vR 1030] (s, g_rho) (some (vI o.1), (o.2, g_rho)) := by
  refine iEE.of (wr := false) (d := d + 5) (md := gm_105) rfl rfl rfl (iRR.of 401 ?_)
  obtain ⟨i2, s1, h1, h⟩ := i_o2_inv h
  refine iRT.call (f101_1_1030_ok L N (d + 0)  _ h1) ?_
  refine iRT.ite h (fun h => ?_) (fun h => ?_)
  · obtain ⟨i5, s4, h1, h⟩ := i_o2_inv h
    refine iRT.call (f104_1_ok L N (d + 4) _ _ h1) ?_
    refine iRT.b1 h fun h => ?_
    cases h
    exact iRT.ret
  · obtain ⟨s3, h1, h⟩ := i_o1_inv h
    refine iRT.call (f97_1_ok L N (d + 0)  _ h1) ?_
    replace h := (ib1_inv h).2
    cases h
    exact iRT.ret
-- GutterNine$Tape.letter
set_option maxHeartbeats 100000 in
theorem f103_1_ok (L N d : Nat) (x1 : Int) (s : gI) {o : Int × gI} (h : f103 N x1 s = some o) : iEE L (d + 1) 103 [vR 1, vI x1] (s, g_rho) (some (vI o.1), (o.2, g_rho)) := by
  refine iEE.of (wr := false) (d := d + 0) (md := gm_103) rfl rfl rfl (iRR.of 401 ?_)
  refine iRT.ite h (fun h => ?_) (fun h => ?_)
  · replace h := (ich_inv h).2.2
    cases h
    exact iRT.ret
  · refine iRT.ov h fun h => ?_
    refine iRT.ite h (fun h => ?_) (fun h => ?_)
    · replace h := (ich_inv h).2.2
      cases h
      exact iRT.ret
    · refine iRT.ov h fun h => ?_
      refine iRT.ck h fun h => ?_
      refine iRT.ch h fun h => ?_
      cases h
      exact iRT.ret
-- java/lang/String.isLatin1
set_option maxHeartbeats 100000 in
theorem f305_1032_ok (L N d : Nat) (s : gI) {o : Int × gI} (h : f305 N 1032  s = some o) : iEE L (d + 1) 305 [vR 1032] (s, g_rho) (some (vI o.1), (o.2, g_rho)) := by
  refine iEE.of (wr := false) (d := d + 0) (md := gm_305) rfl rfl rfl (iRR.of 401 ?_)
  replace h := i_h0 (by decide) h
  refine iRT.ite h (fun h => ?_) (fun h => ?_)
  · replace h := (ib1_inv h).2
    cases h
    exact iRT.ret
  · replace h := (ib1_inv h).2
    cases h
    exact iRT.ret
-- java/lang/String.coder
set_option maxHeartbeats 100000 in
theorem f304_1032_ok (L N d : Nat) (s : gI) {o : Int × gI} (h : f304 N 1032  s = some o) : iEE L (d + 1) 304 [vR 1032] (s, g_rho) (some (vI o.1), (o.2, g_rho)) := by
  refine iEE.of (wr := false) (d := d + 0) (md := gm_304) rfl rfl rfl (iRR.of 401 ?_)
  replace h := i_h0 (by decide) h
  refine iRT.b1 h fun h => ?_
  cases h
  exact iRT.ret
-- java/lang/String.length
set_option maxHeartbeats 100000 in
theorem f300_1032_ok (L N d : Nat) (s : gI) {o : Int × gI} (h : f300 N 1032 9  s = some o) : iEE L (d + 2) 300 [vR 1032] (s, g_rho) (some (vI o.1), (o.2, g_rho)) := by
  refine iEE.of (wr := false) (d := d + 1) (md := gm_300) rfl rfl rfl (iRR.of 401 ?_)
  replace h := (iov_inv h).2
  obtain ⟨i2, s1, h1, h⟩ := i_o2_inv h
  refine iRT.call (f304_1032_ok L N (d + 0)  _ h1) ?_
  cases h
  exact iRT.ret
-- java/lang/StringLatin1.indexOfChar
set_option maxHeartbeats 100000 in
theorem f311_1033_at7_ok (L N d : Nat) : ∀ (n : Nat) (x3 : Int) (x4 : Int) (x5 : Int) {u1 u2 : Option iV} (s : gI) (o : Int × gI), f311_at7 N 1033 9 n x3 x4 x5 s = some o → iRR false L (d + 0) kj311 k311_7 [some (vR 1033), u1, u2, some (vI x3), some (vI x4), some (vI x5)] [] (s, g_rho) (some (vI o.1), (o.2, g_rho)) := by
  intro n
  induction n with
  | zero => intro _ _ _ _ _ _ _ h; cases h
  | succ n ih =>
    intro x3 x4 x5 u1 u2 s o h
    refine iRR.of 401 ?_
    refine iRT.ite h (fun h => ?_) (fun h => ?_)
    · cases h
      exact iRT.ret
    · refine iRT.ck h fun h => ?_
      refine iRT.ite h (fun h => ?_) (fun h => ?_)
      · cases h
        exact iRT.ret
      · refine iRT.ov h fun h => ?_
        exact iRT.go 1 (ih _ _ _ _ _ h) (fun _ _ => rfl)
set_option maxHeartbeats 100000 in
theorem f311_1033_ok (L N d : Nat) (x1 : Int) (x2 : Int) (x3 : Int) (s : gI) {o : Int × gI} (h : f311 N 1033 9 x1 x2 x3 s = some o) : iEE L (d + 1) 311 [vR 1033, vI x1, vI x2, vI x3] (s, g_rho) (some (vI o.1), (o.2, g_rho)) := by
  refine iEE.of (wr := false) (d := d + 0) (md := gm_311) rfl rfl rfl (iRR.of 6 ?_)
  refine iRT.ck h fun h => ?_
  exact iRT.go 3 (f311_1033_at7_ok L N d N _ _ _ _ _ h) (fun _ _ => rfl)
-- java/lang/StringLatin1.indexOf
set_option maxHeartbeats 100000 in
theorem f310_1033_ok (L N d : Nat) (x1 : Int) (x2 : Int) (x3 : Int) (s : gI) {o : Int × gI} (h : f310 N 1033 9 x1 x2 x3 s = some o) : iEE L (d + 2) 310 [vR 1033, vI x1, vI x2, vI x3] (s, g_rho) (some (vI o.1), (o.2, g_rho)) := by
  refine iEE.of (wr := false) (d := d + 1) (md := gm_310) rfl rfl rfl (iRR.of 401 ?_)
  obtain ⟨i2, s1, h1, h⟩ := i_o2_inv h
  refine iRT.call (f309_ok L N (d + 0) _ _ h1) ?_
  refine iRT.ite h (fun h => ?_) (fun h => ?_)
  · cases h
    exact iRT.ret
  · replace h := (iov_inv h).2
    refine iRT.ite h (fun h => ?_) (fun h => ?_)
    · obtain ⟨i6, s5, h1, h⟩ := i_o2_inv h
      refine iRT.call (f311_1033_ok L N (d + 0) _ _ _ _ h1) ?_
      cases h
      exact iRT.ret
    · cases h
      exact iRT.ret
-- java/lang/String.indexOf
set_option maxHeartbeats 100000 in
theorem f303_1032_ok (L N d : Nat) (x1 : Int) (x2 : Int) (s : gI) {o : Int × gI} (h : f303 N 1032 9 x1 x2 s = some o) : iEE L (d + 3) 303 [vR 1032, vI x1, vI x2] (s, g_rho) (some (vI o.1), (o.2, g_rho)) := by
  refine iEE.of (wr := false) (d := d + 2) (md := gm_303) rfl rfl rfl (iRR.of 401 ?_)
  obtain ⟨i2, s1, h1, h⟩ := i_o2_inv h
  refine iRT.call (f305_1032_ok L N (d + 1)  _ h1) ?_
  refine iRT.ite h (fun h => ?_) (fun h => ?_)
  · obtain ⟨i4, s3, h1, h⟩ := i_o2_inv h
    refine iRT.call (f300_1032_ok L N (d + 0)  _ h1) ?_
    cases h
  · obtain ⟨i6, s5, h1, h⟩ := i_o2_inv h
    refine iRT.call (f300_1032_ok L N (d + 0)  _ h1) ?_
    obtain ⟨i8, s7, h1, h⟩ := i_o2_inv h
    refine iRT.call (f310_1033_ok L N (d + 0) _ _ _ _ h1) ?_
    cases h
    exact iRT.ret
-- java/lang/String.indexOf
set_option maxHeartbeats 100000 in
theorem f302_1032_ok (L N d : Nat) (x1 : Int) (s : gI) {o : Int × gI} (h : f302 N 1032 9 x1 s = some o) : iEE L (d + 4) 302 [vR 1032, vI x1] (s, g_rho) (some (vI o.1), (o.2, g_rho)) := by
  refine iEE.of (wr := false) (d := d + 3) (md := gm_302) rfl rfl rfl (iRR.of 401 ?_)
  obtain ⟨i2, s1, h1, h⟩ := i_o2_inv h
  refine iRT.call (f303_1032_ok L N (d + 0) _ _ _ h1) ?_
  cases h
  exact iRT.ret
-- GutterNine$Roof.takeRow
set_option maxHeartbeats 100000 in
theorem f81_44_1_at38_ok (L N d : Nat) : ∀ (n : Nat) (x2 : Int) (x3 : Int) {u4 : Option iV} (s : gI) (o : Int × gI), f81_at38 N n x2 x3 s = some o → iRR false L (d + 5) kj81 k81_38 [some (vR 44), some (vR 1), some (vI x2), some (vI x3), u4] [] (s, g_rho) (some (vI o.1), (o.2, g_rho)) := by
  intro n
  induction n with
  | zero => intro _ _ _ _ _ h; cases h
  | succ n ih =>
    intro x2 x3 u4 s o h
    refine iRR.of 401 ?_
    refine iRT.ite h (fun h => ?_) (fun h => ?_)
    · obtain ⟨s1, h1, h⟩ := i_o1_inv h
      refine iRT.call (f97_1_ok L N (d + 0)  _ h1) ?_
      replace h := (ib1_inv h).2
      cases h
      exact iRT.ret
    · obtain ⟨i3, s2, h1, h⟩ := i_o2_inv h
      refine iRT.call (f103_1_ok L N (d + 4) _ _ h1) ?_
      obtain ⟨i5, s4, h1, h⟩ := i_o2_inv h
      refine iRT.call (f302_1032_ok L N (d + 1) _ _ h1) ?_
      refine iRT.ite h (fun h => ?_) (fun h => ?_)
      · refine iRT.ov h fun h => ?_
        refine iRT.ov h fun h => ?_
        refine iRT.ck h fun h => ?_
        refine iRT.ov h fun h => ?_
        exact iRT.go 1 (ih _ _ _ _ h) (fun _ _ => rfl)
      · obtain ⟨i9, s8, h1, h⟩ := i_o2_inv h
        refine iRT.call (f104_1_ok L N (d + 4) _ _ h1) ?_
        refine iRT.b1 h fun h => ?_
        cases h
        exact iRT.ret
set_option maxHeartbeats 100000 in
theorem f81_44_1_ok (L N d : Nat) (x2 : Int) (s : gI) {o : Int × gI} (h : f81 N x2 s = some o) : iEE L (d + 6) 81 [vR 44, vR 1, vI x2] (s, g_rho) (some (vI o.1), (o.2, g_rho)) := by
  refine iEE.of (wr := false) (d := d + 5) (md := gm_81) rfl rfl rfl (iRR.of 401 ?_)
  refine iRT.ite h (fun h => ?_) (fun h => ?_)
  · refine iRT.ov h fun h => ?_
    refine iRT.ite h (fun h => ?_) (fun h => ?_)
    · exact iRT.go 2 (f81_44_1_at38_ok L N d N _ _ _ _ h) (fun _ _ => rfl)
    · obtain ⟨i2, s1, h1, h⟩ := i_o2_inv h
      refine iRT.call (f104_1_ok L N (d + 4) _ _ h1) ?_
      refine iRT.b1 h fun h => ?_
      cases h
      exact iRT.ret
  · obtain ⟨i4, s3, h1, h⟩ := i_o2_inv h
    refine iRT.call (f104_1_ok L N (d + 4) _ _ h1) ?_
    refine iRT.b1 h fun h => ?_
    cases h
    exact iRT.ret
-- GutterNine$Roof.read
set_option maxHeartbeats 100000 in
theorem f80_44_1_at127_ok (L N d : Nat) (z0 : Int) {u0 : Option iV} {u1 : Option iV} {u2 : Option iV} (s : gI) {o : Int × gI} (h : f80_at127 N z0 s = some o) : iRR false L (d + 6) kj80 k80_127 [u0, u1, u2] [vI z0, vR 1] (s, g_rho) (some (vI o.1), (o.2, g_rho)) := by
  refine iRR.of 401 ?_
  obtain ⟨i2, s1, h1, h⟩ := i_o2_inv h
  refine iRT.call (f104_1_ok L N (d + 5) _ _ h1) ?_
  refine iRT.ite h (fun h => ?_) (fun h => ?_)
  · replace h := (ib1_inv h).2
    cases h
    exact iRT.ret
  · replace h := (ib1_inv h).2
    cases h
    exact iRT.ret
set_option maxHeartbeats 100000 in
theorem f80_44_1_at64_ok (L N d : Nat) : ∀ (n : Nat) (x2 : Int) (s : gI) (o : Int × gI), f80_at64 N n x2 s = some o → iRR false L (d + 6) kj80 k80_64 [some (vR 44), some (vR 1), some (vI x2)] [] (s, g_rho) (some (vI o.1), (o.2, g_rho)) := by
  intro n
  induction n with
  | zero => intro _ _ _ h; cases h
  | succ n ih =>
    intro x2 s o h
    refine iRR.of 401 ?_
    refine iRT.ite h (fun h => ?_) (fun h => ?_)
    · refine iRT.ite h (fun h => ?_) (fun h => ?_)
      · replace h := (ib1_inv h).2
        cases h
        exact iRT.ret
      · obtain ⟨i2, s1, h1, h⟩ := i_o2_inv h
        refine iRT.call (f101_1_1030_ok L N (d + 1)  _ h1) ?_
        refine iRT.ite h (fun h => ?_) (fun h => ?_)
        · exact iRT.go 1 (f80_44_1_at127_ok L N d _ _ h) (fun _ _ => rfl)
        · exact iRT.go 2 (f80_44_1_at127_ok L N d _ _ h) (fun _ _ => rfl)
    · obtain ⟨i4, s3, h1, h⟩ := i_o2_inv h
      refine iRT.call (f105_1_1030_ok L N (d + 0)  _ h1) ?_
      refine iRT.ite h (fun h => ?_) (fun h => ?_)
      · replace h := (ib1_inv h).2
        cases h
        exact iRT.ret
      · obtain ⟨i6, s5, h1, h⟩ := i_o2_inv h
        refine iRT.call (f81_44_1_ok L N (d + 0) _ _ h1) ?_
        refine iRT.ite h (fun h => ?_) (fun h => ?_)
        · replace h := (ib1_inv h).2
          cases h
          exact iRT.ret
        · obtain ⟨i8, s7, h1, h⟩ := i_o2_inv h
          refine iRT.call (f106_1_ok L N (d + 0)  _ h1) ?_
          refine iRT.ite h (fun h => ?_) (fun h => ?_)
          · replace h := (ib1_inv h).2
            cases h
            exact iRT.ret
          · refine iRT.ov h fun h => ?_
            exact iRT.go 1 (ih _ _ _ h) (fun _ _ => rfl)
set_option maxHeartbeats 100000 in
theorem f80_44_1_ok (L N d : Nat) (s : gI) {o : Int × gI} (h : f80 N  s = some o) : iEE L (d + 7) 80 [vR 44, vR 1] (s, g_rho) (some (vI o.1), (o.2, g_rho)) := by
  refine iEE.of (wr := false) (d := d + 6) (md := gm_80) rfl rfl rfl (iRR.of 401 ?_)
  obtain ⟨s1, h1, h⟩ := i_o1_inv h
  refine iRT.call (f96_1_ok L N (d + 0)  _ h1) ?_
  obtain ⟨i3, s2, h1, h⟩ := i_o2_inv h
  refine iRT.call (f105_1_1028_ok L N (d + 0)  _ h1) ?_
  refine iRT.ite h (fun h => ?_) (fun h => ?_)
  · replace h := (ib1_inv h).2
    cases h
    exact iRT.ret
  · obtain ⟨i5, s4, h1, h⟩ := i_o2_inv h
    refine iRT.call (f107_1_ok L N (d + 0) _ _ _ h1) ?_
    refine iRT.ite h (fun h => ?_) (fun h => ?_)
    · replace h := (ib1_inv h).2
      cases h
      exact iRT.ret
    · obtain ⟨i8, s7, h1, h⟩ := i_o2_inv h
      refine iRT.call (f107_1_ok L N (d + 0) _ _ _ h1) ?_
      refine iRT.ite h (fun h => ?_) (fun h => ?_)
      · replace h := (ib1_inv h).2
        cases h
        exact iRT.ret
      · obtain ⟨i11, s10, h1, h⟩ := i_o2_inv h
        refine iRT.call (f106_1_ok L N (d + 0)  _ h1) ?_
        refine iRT.ite h (fun h => ?_) (fun h => ?_)
        · replace h := (ib1_inv h).2
          cases h
          exact iRT.ret
        · exact iRT.go 2 (f80_44_1_at64_ok L N d N _ _ _ h) (fun _ _ => rfl)
-- java/util/Arrays.fill
set_option maxHeartbeats 100000 in
theorem f321_7R_at5_ok (L N d : Nat) : ∀ (n : Nat) (x1 : Int) (x2 : Int) (x3 : Int) (s : gI) (o : gI), f321_at5 N 7 8 n x1 x2 x3 s = some o → iRR false L (d + 0) kj321 k321_5 [some (vR 7), some (vI x1), some (vI x2), some (vI x3)] [] (s, i_rhoR) (none, (o, i_rhoR)) := by
  intro n
  induction n with
  | zero => intro _ _ _ _ _ h; cases h
  | succ n ih =>
    intro x1 x2 x3 s o h
    refine iRR.of 401 ?_
    refine iRT.ite h (fun h => ?_) (fun h => ?_)
    · cases h
      exact iRT.ret
    · refine iRT.ck h fun h => ?_
      refine iRT.ov h fun h => ?_
      exact iRT.go 1 (ih _ _ _ _ _ h) (fun _ _ => rfl)
set_option maxHeartbeats 100000 in
theorem f321_7R_ok (L N d : Nat) (x1 : Int) (s : gI) {o : gI} (h : f321 N 7 8 x1 s = some o) : iEE L (d + 1) 321 [vR 7, vI x1] (s, i_rhoR) (none, (o, i_rhoR)) := by
  refine iEE.of (wr := false) (d := d + 0) (md := gm_321) rfl rfl rfl (iRR.of 6 ?_)
  replace h := (iov_inv h).2
  exact iRT.go 5 (f321_7R_at5_ok L N d N _ _ _ _ _ h) (fun _ _ => rfl)
-- java/util/Arrays.fill
set_option maxHeartbeats 100000 in
theorem f321_8R_at5_ok (L N d : Nat) : ∀ (n : Nat) (x1 : Int) (x2 : Int) (x3 : Int) (s : gI) (o : gI), f321_at5 N 8 8 n x1 x2 x3 s = some o → iRR false L (d + 0) kj321 k321_5 [some (vR 8), some (vI x1), some (vI x2), some (vI x3)] [] (s, i_rhoR) (none, (o, i_rhoR)) := by
  intro n
  induction n with
  | zero => intro _ _ _ _ _ h; cases h
  | succ n ih =>
    intro x1 x2 x3 s o h
    refine iRR.of 401 ?_
    refine iRT.ite h (fun h => ?_) (fun h => ?_)
    · cases h
      exact iRT.ret
    · refine iRT.ck h fun h => ?_
      refine iRT.ov h fun h => ?_
      exact iRT.go 1 (ih _ _ _ _ _ h) (fun _ _ => rfl)
set_option maxHeartbeats 100000 in
theorem f321_8R_ok (L N d : Nat) (x1 : Int) (s : gI) {o : gI} (h : f321 N 8 8 x1 s = some o) : iEE L (d + 1) 321 [vR 8, vI x1] (s, i_rhoR) (none, (o, i_rhoR)) := by
  refine iEE.of (wr := false) (d := d + 0) (md := gm_321) rfl rfl rfl (iRR.of 6 ?_)
  replace h := (iov_inv h).2
  exact iRT.go 5 (f321_8R_at5_ok L N d N _ _ _ _ _ h) (fun _ _ => rfl)
-- java/util/Arrays.fill
set_option maxHeartbeats 100000 in
theorem f321_9R_at5_ok (L N d : Nat) : ∀ (n : Nat) (x1 : Int) (x2 : Int) (x3 : Int) (s : gI) (o : gI), f321_at5 N 9 64 n x1 x2 x3 s = some o → iRR false L (d + 0) kj321 k321_5 [some (vR 9), some (vI x1), some (vI x2), some (vI x3)] [] (s, i_rhoR) (none, (o, i_rhoR)) := by
  intro n
  induction n with
  | zero => intro _ _ _ _ _ h; cases h
  | succ n ih =>
    intro x1 x2 x3 s o h
    refine iRR.of 401 ?_
    refine iRT.ite h (fun h => ?_) (fun h => ?_)
    · cases h
      exact iRT.ret
    · refine iRT.ck h fun h => ?_
      refine iRT.ov h fun h => ?_
      exact iRT.go 1 (ih _ _ _ _ _ h) (fun _ _ => rfl)
set_option maxHeartbeats 100000 in
theorem f321_9R_ok (L N d : Nat) (x1 : Int) (s : gI) {o : gI} (h : f321 N 9 64 x1 s = some o) : iEE L (d + 1) 321 [vR 9, vI x1] (s, i_rhoR) (none, (o, i_rhoR)) := by
  refine iEE.of (wr := false) (d := d + 0) (md := gm_321) rfl rfl rfl (iRR.of 6 ?_)
  replace h := (iov_inv h).2
  exact iRT.go 5 (f321_9R_at5_ok L N d N _ _ _ _ _ h) (fun _ _ => rfl)
-- java/util/Arrays.fill
set_option maxHeartbeats 100000 in
theorem f321_10R_at5_ok (L N d : Nat) : ∀ (n : Nat) (x1 : Int) (x2 : Int) (x3 : Int) (s : gI) (o : gI), f321_at5 N 10 8 n x1 x2 x3 s = some o → iRR false L (d + 0) kj321 k321_5 [some (vR 10), some (vI x1), some (vI x2), some (vI x3)] [] (s, i_rhoR) (none, (o, i_rhoR)) := by
  intro n
  induction n with
  | zero => intro _ _ _ _ _ h; cases h
  | succ n ih =>
    intro x1 x2 x3 s o h
    refine iRR.of 401 ?_
    refine iRT.ite h (fun h => ?_) (fun h => ?_)
    · cases h
      exact iRT.ret
    · refine iRT.ck h fun h => ?_
      refine iRT.ov h fun h => ?_
      exact iRT.go 1 (ih _ _ _ _ _ h) (fun _ _ => rfl)
set_option maxHeartbeats 100000 in
theorem f321_10R_ok (L N d : Nat) (x1 : Int) (s : gI) {o : gI} (h : f321 N 10 8 x1 s = some o) : iEE L (d + 1) 321 [vR 10, vI x1] (s, i_rhoR) (none, (o, i_rhoR)) := by
  refine iEE.of (wr := false) (d := d + 0) (md := gm_321) rfl rfl rfl (iRR.of 6 ?_)
  replace h := (iov_inv h).2
  exact iRT.go 5 (f321_10R_at5_ok L N d N _ _ _ _ _ h) (fun _ _ => rfl)
-- GutterNine$Scene.clear
set_option maxHeartbeats 100000 in
theorem f87_6R_ok (L N d : Nat) (s : gI) {o : gI} (h : f87 N  s = some o) : iEE L (d + 2) 87 [vR 6] (s, i_rhoR) (none, (o, i_rhoR)) := by
  refine iEE.of (wr := false) (d := d + 1) (md := gm_87) rfl rfl rfl (iRR.of 401 ?_)
  obtain ⟨s1, h1, h⟩ := i_o1_inv h
  refine iRT.call (f321_7R_ok L N (d + 0) _ _ h1) ?_
  obtain ⟨s2, h1, h⟩ := i_o1_inv h
  refine iRT.call (f321_8R_ok L N (d + 0) _ _ h1) ?_
  obtain ⟨s3, h1, h⟩ := i_o1_inv h
  refine iRT.call (f321_9R_ok L N (d + 0) _ _ h1) ?_
  obtain ⟨s4, h1, h⟩ := i_o1_inv h
  refine iRT.call (f321_10R_ok L N (d + 0) _ _ h1) ?_
  cases h
  exact iRT.ret
-- GutterNine$Past.clear
set_option maxHeartbeats 100000 in
theorem f41_41R_ok (L N d : Nat) (s : gI) {o : gI} (h : f41 N  s = some o) : iEE L (d + 1) 41 [vR 41] (s, i_rhoR) (none, (o, i_rhoR)) := by
  refine iEE.of (wr := false) (d := d + 0) (md := gm_41) rfl rfl rfl (iRR.of 401 ?_)
  cases h
  exact iRT.ret
-- GutterNine.startAnew
set_option maxHeartbeats 100000 in
theorem f165_0R_ok (L N d : Nat) (s : gI) {o : gI} (h : f165 N  s = some o) : iEE L (d + 3) 165 [vR 0] (s, i_rhoR) (none, (o, i_rhoR)) := by
  refine iEE.of (wr := false) (d := d + 2) (md := gm_165) rfl rfl rfl (iRR.of 401 ?_)
  obtain ⟨s1, h1, h⟩ := i_o1_inv h
  refine iRT.call (f87_6R_ok L N (d + 0)  _ h1) ?_
  obtain ⟨s2, h1, h⟩ := i_o1_inv h
  refine iRT.call (f41_41R_ok L N (d + 1)  _ h1) ?_
  cases h
  exact iRT.ret
-- GutterNine.roof
set_option maxHeartbeats 100000 in
theorem f135_0_ok (L N d : Nat) (s : gI) {o : Int × gI × (Nat → Nat → Nat)} (h : f135 N  s = some o) : iEE L (d + 8) 135 [vR 0] (s, g_rho) (some (vI o.1), (o.2.1, o.2.2)) := by
  refine iEE.of (wr := false) (d := d + 7) (md := gm_135) rfl rfl rfl (iRR.of 401 ?_)
  obtain ⟨i2, s1, h1, h⟩ := i_o2_inv h
  refine iRT.call (f80_44_1_ok L N (d + 0)  _ h1) ?_
  refine iRT.ite h (fun h => ?_) (fun h => ?_)
  · cases h
    exact iRT.ret
  · obtain ⟨s4, h1, h⟩ := i_o1_inv h
    refine iRT.call (f165_0R_ok L N (d + 4)  _ h1) ?_
    cases h
    exact iRT.ret
-- GutterNine$Law.add
set_option maxHeartbeats 100000 in
theorem f23_57_ok (L N d : Nat) (x1 : Int) (s : gI) {o : gI} (h : f23 N 57 x1 s = some o) : iEE L (d + 1) 23 [vR 57, vI x1] (s, g_rho) (none, (o, g_rho)) := by
  refine iEE.of (wr := false) (d := d + 0) (md := gm_23) rfl rfl rfl (iRR.of 401 ?_)
  replace h := (iov_inv h).2
  refine iRT.ite h (fun h => ?_) (fun h => ?_)
  · cases h
    exact iRT.ret
  · refine iRT.ck h fun h => ?_
    refine iRT.ov h fun h => ?_
    cases h
    exact iRT.ret
-- GutterNine$Law.become
set_option maxHeartbeats 100000 in
theorem f21_57_ok (L N d : Nat) (x1 : Int) (s : gI) {o : gI} (h : f21 N 57 x1 s = some o) : iEE L (d + 2) 21 [vR 57, vI x1] (s, g_rho) (none, (o, g_rho)) := by
  refine iEE.of (wr := false) (d := d + 1) (md := gm_21) rfl rfl rfl (iRR.of 401 ?_)
  delta f21 at h
  obtain ⟨s2, h1, h⟩ := i_o1_inv h
  refine iRT.call (f23_57_ok L N (d + 0) _ _ h1) ?_
  cases h
  exact iRT.ret
-- GutterNine$Law.add
set_option maxHeartbeats 100000 in
theorem f23_60_ok (L N d : Nat) (x1 : Int) (s : gI) {o : gI} (h : f23 N 60 x1 s = some o) : iEE L (d + 1) 23 [vR 60, vI x1] (s, g_rho) (none, (o, g_rho)) := by
  refine iEE.of (wr := false) (d := d + 0) (md := gm_23) rfl rfl rfl (iRR.of 401 ?_)
  replace h := (iov_inv h).2
  refine iRT.ite h (fun h => ?_) (fun h => ?_)
  · cases h
    exact iRT.ret
  · refine iRT.ck h fun h => ?_
    refine iRT.ov h fun h => ?_
    cases h
    exact iRT.ret
-- GutterNine$Law.become
set_option maxHeartbeats 100000 in
theorem f21_60_ok (L N d : Nat) (x1 : Int) (s : gI) {o : gI} (h : f21 N 60 x1 s = some o) : iEE L (d + 2) 21 [vR 60, vI x1] (s, g_rho) (none, (o, g_rho)) := by
  refine iEE.of (wr := false) (d := d + 1) (md := gm_21) rfl rfl rfl (iRR.of 401 ?_)
  delta f21 at h
  obtain ⟨s2, h1, h⟩ := i_o1_inv h
  refine iRT.call (f23_60_ok L N (d + 0) _ _ h1) ?_
  cases h
  exact iRT.ret
-- GutterNine$Yard.clear
set_option maxHeartbeats 100000 in
theorem f115_47_ok (L N d : Nat) (s : gI) {o : gI} (h : f115 N  s = some o) : iEE L (d + 3) 115 [vR 47] (s, g_rho) (none, (o, g_rho)) := by
  refine iEE.of (wr := false) (d := d + 2) (md := gm_115) rfl rfl rfl (iRR.of 401 ?_)
  delta f115 at h
  obtain ⟨s9, h1, h⟩ := i_o1_inv h
  refine iRT.call (f21_57_ok L N (d + 0) _ _ h1) ?_
  obtain ⟨s10, h1, h⟩ := i_o1_inv h
  refine iRT.call (f21_60_ok L N (d + 0) _ _ h1) ?_
  cases h
  exact iRT.ret
-- java/lang/String.coder
set_option maxHeartbeats 100000 in
theorem f304_1036_ok (L N d : Nat) (s : gI) {o : Int × gI} (h : f304 N 1036  s = some o) : iEE L (d + 1) 304 [vR 1036] (s, g_rho) (some (vI o.1), (o.2, g_rho)) := by
  refine iEE.of (wr := false) (d := d + 0) (md := gm_304) rfl rfl rfl (iRR.of 401 ?_)
  replace h := i_h0 (by decide) h
  refine iRT.b1 h fun h => ?_
  cases h
  exact iRT.ret
-- java/lang/String.length
set_option maxHeartbeats 100000 in
theorem f300_1036_ok (L N d : Nat) (s : gI) {o : Int × gI} (h : f300 N 1036 6  s = some o) : iEE L (d + 2) 300 [vR 1036] (s, g_rho) (some (vI o.1), (o.2, g_rho)) := by
  refine iEE.of (wr := false) (d := d + 1) (md := gm_300) rfl rfl rfl (iRR.of 401 ?_)
  replace h := (iov_inv h).2
  obtain ⟨i2, s1, h1, h⟩ := i_o2_inv h
  refine iRT.call (f304_1036_ok L N (d + 0)  _ h1) ?_
  cases h
  exact iRT.ret
-- java/lang/String.isLatin1
set_option maxHeartbeats 100000 in
theorem f305_1036_ok (L N d : Nat) (s : gI) {o : Int × gI} (h : f305 N 1036  s = some o) : iEE L (d + 1) 305 [vR 1036] (s, g_rho) (some (vI o.1), (o.2, g_rho)) := by
  refine iEE.of (wr := false) (d := d + 0) (md := gm_305) rfl rfl rfl (iRR.of 401 ?_)
  replace h := i_h0 (by decide) h
  refine iRT.ite h (fun h => ?_) (fun h => ?_)
  · replace h := (ib1_inv h).2
    cases h
    exact iRT.ret
  · replace h := (ib1_inv h).2
    cases h
    exact iRT.ret
-- java/lang/StringLatin1.charAt
set_option maxHeartbeats 100000 in
theorem f308_1037_ok (L N d : Nat) (x1 : Int) (s : gI) {o : Int × gI} (h : f308 N 1037 6 x1 s = some o) : iEE L (d + 3) 308 [vR 1037, vI x1] (s, g_rho) (some (vI o.1), (o.2, g_rho)) := by
  refine iEE.of (wr := false) (d := d + 2) (md := gm_308) rfl rfl rfl (iRR.of 401 ?_)
  replace h := (iov_inv h).2
  obtain ⟨s1, h1, h⟩ := i_o1_inv h
  refine iRT.call (f306_ok L N (d + 0) _ _ _ h1) ?_
  refine iRT.ck h fun h => ?_
  refine iRT.ch h fun h => ?_
  refine iRT.ch h fun h => ?_
  cases h
  exact iRT.ret
-- java/lang/String.charAt
set_option maxHeartbeats 100000 in
theorem f301_1036_ok (L N d : Nat) (x1 : Int) (s : gI) {o : Int × gI} (h : f301 N 1036 6 x1 s = some o) : iEE L (d + 4) 301 [vR 1036, vI x1] (s, g_rho) (some (vI o.1), (o.2, g_rho)) := by
  refine iEE.of (wr := false) (d := d + 3) (md := gm_301) rfl rfl rfl (iRR.of 401 ?_)
  obtain ⟨i2, s1, h1, h⟩ := i_o2_inv h
  refine iRT.call (f305_1036_ok L N (d + 2)  _ h1) ?_
  refine iRT.ite h (fun h => ?_) (fun h => ?_)
  · cases h
  · obtain ⟨i4, s3, h1, h⟩ := i_o2_inv h
    refine iRT.call (f308_1037_ok L N (d + 0) _ _ h1) ?_
    refine iRT.ch h fun h => ?_
    cases h
    exact iRT.ret
-- GutterNine$Tape.isWord
set_option maxHeartbeats 100000 in
theorem f101_1_1036_at31_ok (L N d : Nat) : ∀ (n : Nat) (x2 : Int) (s : gI) (o : Int × gI), f101_at31 N 1036 6 n x2 s = some o → iRR false L (d + 4) kj101 k101_31 [some (vR 1), some (vR 1036), some (vI x2)] [] (s, g_rho) (some (vI o.1), (o.2, g_rho)) := by
  intro n
  induction n with
  | zero => intro _ _ _ h; cases h
  | succ n ih =>
    intro x2 s o h
    refine iRR.of 401 ?_
    refine iRT.ite h (fun h => ?_) (fun h => ?_)
    · replace h := (ib1_inv h).2
      cases h
      exact iRT.ret
    · refine iRT.ck h fun h => ?_
      refine iRT.ov h fun h => ?_
      obtain ⟨i2, s1, h1, h⟩ := i_o2_inv h
      refine iRT.call (f301_1036_ok L N (d + 0) _ _ h1) ?_
      refine iRT.ite h (fun h => ?_) (fun h => ?_)
      · refine iRT.ov h fun h => ?_
        exact iRT.go 1 (ih _ _ _ h) (fun _ _ => rfl)
      · replace h := (ib1_inv h).2
        cases h
        exact iRT.ret
set_option maxHeartbeats 100000 in
theorem f101_1_1036_ok (L N d : Nat) (s : gI) {o : Int × gI} (h : f101 N 1036 6  s = some o) : iEE L (d + 5) 101 [vR 1, vR 1036] (s, g_rho) (some (vI o.1), (o.2, g_rho)) := by
  refine iEE.of (wr := false) (d := d + 4) (md := gm_101) rfl rfl rfl (iRR.of 401 ?_)
  refine iRT.ite h (fun h => ?_) (fun h => ?_)
  · refine iRT.ov h fun h => ?_
    obtain ⟨i2, s1, h1, h⟩ := i_o2_inv h
    refine iRT.call (f300_1036_ok L N (d + 2)  _ h1) ?_
    refine iRT.ite h (fun h => ?_) (fun h => ?_)
    · exact iRT.go 3 (f101_1_1036_at31_ok L N d N _ _ _ h) (fun _ _ => rfl)
    · replace h := (ib1_inv h).2
      cases h
      exact iRT.ret
  · replace h := (ib1_inv h).2
    cases h
    exact iRT.ret
-- java/lang/String.coder
set_option maxHeartbeats 100000 in
theorem f304_1038_ok (L N d : Nat) (s : gI) {o : Int × gI} (h : f304 N 1038  s = some o) : iEE L (d + 1) 304 [vR 1038] (s, g_rho) (some (vI o.1), (o.2, g_rho)) := by
  refine iEE.of (wr := false) (d := d + 0) (md := gm_304) rfl rfl rfl (iRR.of 401 ?_)
  replace h := i_h0 (by decide) h
  refine iRT.b1 h fun h => ?_
  cases h
  exact iRT.ret
-- java/lang/String.length
set_option maxHeartbeats 100000 in
theorem f300_1038_ok (L N d : Nat) (s : gI) {o : Int × gI} (h : f300 N 1038 5  s = some o) : iEE L (d + 2) 300 [vR 1038] (s, g_rho) (some (vI o.1), (o.2, g_rho)) := by
  refine iEE.of (wr := false) (d := d + 1) (md := gm_300) rfl rfl rfl (iRR.of 401 ?_)
  replace h := (iov_inv h).2
  obtain ⟨i2, s1, h1, h⟩ := i_o2_inv h
  refine iRT.call (f304_1038_ok L N (d + 0)  _ h1) ?_
  cases h
  exact iRT.ret
-- java/lang/String.isLatin1
set_option maxHeartbeats 100000 in
theorem f305_1038_ok (L N d : Nat) (s : gI) {o : Int × gI} (h : f305 N 1038  s = some o) : iEE L (d + 1) 305 [vR 1038] (s, g_rho) (some (vI o.1), (o.2, g_rho)) := by
  refine iEE.of (wr := false) (d := d + 0) (md := gm_305) rfl rfl rfl (iRR.of 401 ?_)
  replace h := i_h0 (by decide) h
  refine iRT.ite h (fun h => ?_) (fun h => ?_)
  · replace h := (ib1_inv h).2
    cases h
    exact iRT.ret
  · replace h := (ib1_inv h).2
    cases h
    exact iRT.ret
-- java/lang/StringLatin1.charAt
set_option maxHeartbeats 100000 in
theorem f308_1039_ok (L N d : Nat) (x1 : Int) (s : gI) {o : Int × gI} (h : f308 N 1039 5 x1 s = some o) : iEE L (d + 3) 308 [vR 1039, vI x1] (s, g_rho) (some (vI o.1), (o.2, g_rho)) := by
  refine iEE.of (wr := false) (d := d + 2) (md := gm_308) rfl rfl rfl (iRR.of 401 ?_)
  replace h := (iov_inv h).2
  obtain ⟨s1, h1, h⟩ := i_o1_inv h
  refine iRT.call (f306_ok L N (d + 0) _ _ _ h1) ?_
  refine iRT.ck h fun h => ?_
  refine iRT.ch h fun h => ?_
  refine iRT.ch h fun h => ?_
  cases h
  exact iRT.ret
-- java/lang/String.charAt
set_option maxHeartbeats 100000 in
theorem f301_1038_ok (L N d : Nat) (x1 : Int) (s : gI) {o : Int × gI} (h : f301 N 1038 5 x1 s = some o) : iEE L (d + 4) 301 [vR 1038, vI x1] (s, g_rho) (some (vI o.1), (o.2, g_rho)) := by
  refine iEE.of (wr := false) (d := d + 3) (md := gm_301) rfl rfl rfl (iRR.of 401 ?_)
  obtain ⟨i2, s1, h1, h⟩ := i_o2_inv h
  refine iRT.call (f305_1038_ok L N (d + 2)  _ h1) ?_
  refine iRT.ite h (fun h => ?_) (fun h => ?_)
  · cases h
  · obtain ⟨i4, s3, h1, h⟩ := i_o2_inv h
    refine iRT.call (f308_1039_ok L N (d + 0) _ _ h1) ?_
    refine iRT.ch h fun h => ?_
    cases h
    exact iRT.ret
-- GutterNine$Tape.isWord
set_option maxHeartbeats 100000 in
theorem f101_1_1038_at31_ok (L N d : Nat) : ∀ (n : Nat) (x2 : Int) (s : gI) (o : Int × gI), f101_at31 N 1038 5 n x2 s = some o → iRR false L (d + 4) kj101 k101_31 [some (vR 1), some (vR 1038), some (vI x2)] [] (s, g_rho) (some (vI o.1), (o.2, g_rho)) := by
  intro n
  induction n with
  | zero => intro _ _ _ h; cases h
  | succ n ih =>
    intro x2 s o h
    refine iRR.of 401 ?_
    refine iRT.ite h (fun h => ?_) (fun h => ?_)
    · replace h := (ib1_inv h).2
      cases h
      exact iRT.ret
    · refine iRT.ck h fun h => ?_
      refine iRT.ov h fun h => ?_
      obtain ⟨i2, s1, h1, h⟩ := i_o2_inv h
      refine iRT.call (f301_1038_ok L N (d + 0) _ _ h1) ?_
      refine iRT.ite h (fun h => ?_) (fun h => ?_)
      · refine iRT.ov h fun h => ?_
        exact iRT.go 1 (ih _ _ _ h) (fun _ _ => rfl)
      · replace h := (ib1_inv h).2
        cases h
        exact iRT.ret
set_option maxHeartbeats 100000 in
theorem f101_1_1038_ok (L N d : Nat) (s : gI) {o : Int × gI} (h : f101 N 1038 5  s = some o) : iEE L (d + 5) 101 [vR 1, vR 1038] (s, g_rho) (some (vI o.1), (o.2, g_rho)) := by
  refine iEE.of (wr := false) (d := d + 4) (md := gm_101) rfl rfl rfl (iRR.of 401 ?_)
  refine iRT.ite h (fun h => ?_) (fun h => ?_)
  · refine iRT.ov h fun h => ?_
    obtain ⟨i2, s1, h1, h⟩ := i_o2_inv h
    refine iRT.call (f300_1038_ok L N (d + 2)  _ h1) ?_
    refine iRT.ite h (fun h => ?_) (fun h => ?_)
    · exact iRT.go 3 (f101_1_1038_at31_ok L N d N _ _ _ h) (fun _ _ => rfl)
    · replace h := (ib1_inv h).2
      cases h
      exact iRT.ret
  · replace h := (ib1_inv h).2
    cases h
    exact iRT.ret
-- java/lang/String.coder
set_option maxHeartbeats 100000 in
theorem f304_1040_ok (L N d : Nat) (s : gI) {o : Int × gI} (h : f304 N 1040  s = some o) : iEE L (d + 1) 304 [vR 1040] (s, g_rho) (some (vI o.1), (o.2, g_rho)) := by
  refine iEE.of (wr := false) (d := d + 0) (md := gm_304) rfl rfl rfl (iRR.of 401 ?_)
  replace h := i_h0 (by decide) h
  refine iRT.b1 h fun h => ?_
  cases h
  exact iRT.ret
-- java/lang/String.length
set_option maxHeartbeats 100000 in
theorem f300_1040_ok (L N d : Nat) (s : gI) {o : Int × gI} (h : f300 N 1040 4  s = some o) : iEE L (d + 2) 300 [vR 1040] (s, g_rho) (some (vI o.1), (o.2, g_rho)) := by
  refine iEE.of (wr := false) (d := d + 1) (md := gm_300) rfl rfl rfl (iRR.of 401 ?_)
  replace h := (iov_inv h).2
  obtain ⟨i2, s1, h1, h⟩ := i_o2_inv h
  refine iRT.call (f304_1040_ok L N (d + 0)  _ h1) ?_
  cases h
  exact iRT.ret
-- java/lang/String.isLatin1
set_option maxHeartbeats 100000 in
theorem f305_1040_ok (L N d : Nat) (s : gI) {o : Int × gI} (h : f305 N 1040  s = some o) : iEE L (d + 1) 305 [vR 1040] (s, g_rho) (some (vI o.1), (o.2, g_rho)) := by
  refine iEE.of (wr := false) (d := d + 0) (md := gm_305) rfl rfl rfl (iRR.of 401 ?_)
  replace h := i_h0 (by decide) h
  refine iRT.ite h (fun h => ?_) (fun h => ?_)
  · replace h := (ib1_inv h).2
    cases h
    exact iRT.ret
  · replace h := (ib1_inv h).2
    cases h
    exact iRT.ret
-- java/lang/StringLatin1.charAt
set_option maxHeartbeats 100000 in
theorem f308_1041_ok (L N d : Nat) (x1 : Int) (s : gI) {o : Int × gI} (h : f308 N 1041 4 x1 s = some o) : iEE L (d + 3) 308 [vR 1041, vI x1] (s, g_rho) (some (vI o.1), (o.2, g_rho)) := by
  refine iEE.of (wr := false) (d := d + 2) (md := gm_308) rfl rfl rfl (iRR.of 401 ?_)
  replace h := (iov_inv h).2
  obtain ⟨s1, h1, h⟩ := i_o1_inv h
  refine iRT.call (f306_ok L N (d + 0) _ _ _ h1) ?_
  refine iRT.ck h fun h => ?_
  refine iRT.ch h fun h => ?_
  refine iRT.ch h fun h => ?_
  cases h
  exact iRT.ret
-- java/lang/String.charAt
set_option maxHeartbeats 100000 in
theorem f301_1040_ok (L N d : Nat) (x1 : Int) (s : gI) {o : Int × gI} (h : f301 N 1040 4 x1 s = some o) : iEE L (d + 4) 301 [vR 1040, vI x1] (s, g_rho) (some (vI o.1), (o.2, g_rho)) := by
  refine iEE.of (wr := false) (d := d + 3) (md := gm_301) rfl rfl rfl (iRR.of 401 ?_)
  obtain ⟨i2, s1, h1, h⟩ := i_o2_inv h
  refine iRT.call (f305_1040_ok L N (d + 2)  _ h1) ?_
  refine iRT.ite h (fun h => ?_) (fun h => ?_)
  · cases h
  · obtain ⟨i4, s3, h1, h⟩ := i_o2_inv h
    refine iRT.call (f308_1041_ok L N (d + 0) _ _ h1) ?_
    refine iRT.ch h fun h => ?_
    cases h
    exact iRT.ret
-- GutterNine$Tape.isWord
set_option maxHeartbeats 100000 in
theorem f101_1_1040_at31_ok (L N d : Nat) : ∀ (n : Nat) (x2 : Int) (s : gI) (o : Int × gI), f101_at31 N 1040 4 n x2 s = some o → iRR false L (d + 4) kj101 k101_31 [some (vR 1), some (vR 1040), some (vI x2)] [] (s, g_rho) (some (vI o.1), (o.2, g_rho)) := by
  intro n
  induction n with
  | zero => intro _ _ _ h; cases h
  | succ n ih =>
    intro x2 s o h
    refine iRR.of 401 ?_
    refine iRT.ite h (fun h => ?_) (fun h => ?_)
    · replace h := (ib1_inv h).2
      cases h
      exact iRT.ret
    · refine iRT.ck h fun h => ?_
      refine iRT.ov h fun h => ?_
      obtain ⟨i2, s1, h1, h⟩ := i_o2_inv h
      refine iRT.call (f301_1040_ok L N (d + 0) _ _ h1) ?_
      refine iRT.ite h (fun h => ?_) (fun h => ?_)
      · refine iRT.ov h fun h => ?_
        exact iRT.go 1 (ih _ _ _ h) (fun _ _ => rfl)
      · replace h := (ib1_inv h).2
        cases h
        exact iRT.ret
set_option maxHeartbeats 100000 in
theorem f101_1_1040_ok (L N d : Nat) (s : gI) {o : Int × gI} (h : f101 N 1040 4  s = some o) : iEE L (d + 5) 101 [vR 1, vR 1040] (s, g_rho) (some (vI o.1), (o.2, g_rho)) := by
  refine iEE.of (wr := false) (d := d + 4) (md := gm_101) rfl rfl rfl (iRR.of 401 ?_)
  refine iRT.ite h (fun h => ?_) (fun h => ?_)
  · refine iRT.ov h fun h => ?_
    obtain ⟨i2, s1, h1, h⟩ := i_o2_inv h
    refine iRT.call (f300_1040_ok L N (d + 2)  _ h1) ?_
    refine iRT.ite h (fun h => ?_) (fun h => ?_)
    · exact iRT.go 3 (f101_1_1040_at31_ok L N d N _ _ _ h) (fun _ _ => rfl)
    · replace h := (ib1_inv h).2
      cases h
      exact iRT.ret
  · replace h := (ib1_inv h).2
    cases h
    exact iRT.ret
-- java/lang/String.coder
set_option maxHeartbeats 100000 in
theorem f304_1042_ok (L N d : Nat) (s : gI) {o : Int × gI} (h : f304 N 1042  s = some o) : iEE L (d + 1) 304 [vR 1042] (s, g_rho) (some (vI o.1), (o.2, g_rho)) := by
  refine iEE.of (wr := false) (d := d + 0) (md := gm_304) rfl rfl rfl (iRR.of 401 ?_)
  replace h := i_h0 (by decide) h
  refine iRT.b1 h fun h => ?_
  cases h
  exact iRT.ret
-- java/lang/String.length
set_option maxHeartbeats 100000 in
theorem f300_1042_ok (L N d : Nat) (s : gI) {o : Int × gI} (h : f300 N 1042 3  s = some o) : iEE L (d + 2) 300 [vR 1042] (s, g_rho) (some (vI o.1), (o.2, g_rho)) := by
  refine iEE.of (wr := false) (d := d + 1) (md := gm_300) rfl rfl rfl (iRR.of 401 ?_)
  replace h := (iov_inv h).2
  obtain ⟨i2, s1, h1, h⟩ := i_o2_inv h
  refine iRT.call (f304_1042_ok L N (d + 0)  _ h1) ?_
  cases h
  exact iRT.ret
-- java/lang/String.isLatin1
set_option maxHeartbeats 100000 in
theorem f305_1042_ok (L N d : Nat) (s : gI) {o : Int × gI} (h : f305 N 1042  s = some o) : iEE L (d + 1) 305 [vR 1042] (s, g_rho) (some (vI o.1), (o.2, g_rho)) := by
  refine iEE.of (wr := false) (d := d + 0) (md := gm_305) rfl rfl rfl (iRR.of 401 ?_)
  replace h := i_h0 (by decide) h
  refine iRT.ite h (fun h => ?_) (fun h => ?_)
  · replace h := (ib1_inv h).2
    cases h
    exact iRT.ret
  · replace h := (ib1_inv h).2
    cases h
    exact iRT.ret
-- java/lang/StringLatin1.charAt
set_option maxHeartbeats 100000 in
theorem f308_1043_ok (L N d : Nat) (x1 : Int) (s : gI) {o : Int × gI} (h : f308 N 1043 3 x1 s = some o) : iEE L (d + 3) 308 [vR 1043, vI x1] (s, g_rho) (some (vI o.1), (o.2, g_rho)) := by
  refine iEE.of (wr := false) (d := d + 2) (md := gm_308) rfl rfl rfl (iRR.of 401 ?_)
  replace h := (iov_inv h).2
  obtain ⟨s1, h1, h⟩ := i_o1_inv h
  refine iRT.call (f306_ok L N (d + 0) _ _ _ h1) ?_
  refine iRT.ck h fun h => ?_
  refine iRT.ch h fun h => ?_
  refine iRT.ch h fun h => ?_
  cases h
  exact iRT.ret
-- java/lang/String.charAt
set_option maxHeartbeats 100000 in
theorem f301_1042_ok (L N d : Nat) (x1 : Int) (s : gI) {o : Int × gI} (h : f301 N 1042 3 x1 s = some o) : iEE L (d + 4) 301 [vR 1042, vI x1] (s, g_rho) (some (vI o.1), (o.2, g_rho)) := by
  refine iEE.of (wr := false) (d := d + 3) (md := gm_301) rfl rfl rfl (iRR.of 401 ?_)
  obtain ⟨i2, s1, h1, h⟩ := i_o2_inv h
  refine iRT.call (f305_1042_ok L N (d + 2)  _ h1) ?_
  refine iRT.ite h (fun h => ?_) (fun h => ?_)
  · cases h
  · obtain ⟨i4, s3, h1, h⟩ := i_o2_inv h
    refine iRT.call (f308_1043_ok L N (d + 0) _ _ h1) ?_
    refine iRT.ch h fun h => ?_
    cases h
    exact iRT.ret
-- GutterNine$Tape.isWord
set_option maxHeartbeats 100000 in
theorem f101_1_1042_at31_ok (L N d : Nat) : ∀ (n : Nat) (x2 : Int) (s : gI) (o : Int × gI), f101_at31 N 1042 3 n x2 s = some o → iRR false L (d + 4) kj101 k101_31 [some (vR 1), some (vR 1042), some (vI x2)] [] (s, g_rho) (some (vI o.1), (o.2, g_rho)) := by
  intro n
  induction n with
  | zero => intro _ _ _ h; cases h
  | succ n ih =>
    intro x2 s o h
    refine iRR.of 401 ?_
    refine iRT.ite h (fun h => ?_) (fun h => ?_)
    · replace h := (ib1_inv h).2
      cases h
      exact iRT.ret
    · refine iRT.ck h fun h => ?_
      refine iRT.ov h fun h => ?_
      obtain ⟨i2, s1, h1, h⟩ := i_o2_inv h
      refine iRT.call (f301_1042_ok L N (d + 0) _ _ h1) ?_
      refine iRT.ite h (fun h => ?_) (fun h => ?_)
      · refine iRT.ov h fun h => ?_
        exact iRT.go 1 (ih _ _ _ h) (fun _ _ => rfl)
      · replace h := (ib1_inv h).2
        cases h
        exact iRT.ret
set_option maxHeartbeats 100000 in
theorem f101_1_1042_ok (L N d : Nat) (s : gI) {o : Int × gI} (h : f101 N 1042 3  s = some o) : iEE L (d + 5) 101 [vR 1, vR 1042] (s, g_rho) (some (vI o.1), (o.2, g_rho)) := by
  refine iEE.of (wr := false) (d := d + 4) (md := gm_101) rfl rfl rfl (iRR.of 401 ?_)
  refine iRT.ite h (fun h => ?_) (fun h => ?_)
  · refine iRT.ov h fun h => ?_
    obtain ⟨i2, s1, h1, h⟩ := i_o2_inv h
    refine iRT.call (f300_1042_ok L N (d + 2)  _ h1) ?_
    refine iRT.ite h (fun h => ?_) (fun h => ?_)
    · exact iRT.go 3 (f101_1_1042_at31_ok L N d N _ _ _ h) (fun _ _ => rfl)
    · replace h := (ib1_inv h).2
      cases h
      exact iRT.ret
  · replace h := (ib1_inv h).2
    cases h
    exact iRT.ret
-- java/lang/String.coder
set_option maxHeartbeats 100000 in
theorem f304_1044_ok (L N d : Nat) (s : gI) {o : Int × gI} (h : f304 N 1044  s = some o) : iEE L (d + 1) 304 [vR 1044] (s, g_rho) (some (vI o.1), (o.2, g_rho)) := by
  refine iEE.of (wr := false) (d := d + 0) (md := gm_304) rfl rfl rfl (iRR.of 401 ?_)
  replace h := i_h0 (by decide) h
  refine iRT.b1 h fun h => ?_
  cases h
  exact iRT.ret
-- java/lang/String.length
set_option maxHeartbeats 100000 in
theorem f300_1044_ok (L N d : Nat) (s : gI) {o : Int × gI} (h : f300 N 1044 6  s = some o) : iEE L (d + 2) 300 [vR 1044] (s, g_rho) (some (vI o.1), (o.2, g_rho)) := by
  refine iEE.of (wr := false) (d := d + 1) (md := gm_300) rfl rfl rfl (iRR.of 401 ?_)
  replace h := (iov_inv h).2
  obtain ⟨i2, s1, h1, h⟩ := i_o2_inv h
  refine iRT.call (f304_1044_ok L N (d + 0)  _ h1) ?_
  cases h
  exact iRT.ret
-- java/lang/String.isLatin1
set_option maxHeartbeats 100000 in
theorem f305_1044_ok (L N d : Nat) (s : gI) {o : Int × gI} (h : f305 N 1044  s = some o) : iEE L (d + 1) 305 [vR 1044] (s, g_rho) (some (vI o.1), (o.2, g_rho)) := by
  refine iEE.of (wr := false) (d := d + 0) (md := gm_305) rfl rfl rfl (iRR.of 401 ?_)
  replace h := i_h0 (by decide) h
  refine iRT.ite h (fun h => ?_) (fun h => ?_)
  · replace h := (ib1_inv h).2
    cases h
    exact iRT.ret
  · replace h := (ib1_inv h).2
    cases h
    exact iRT.ret
-- java/lang/StringLatin1.charAt
set_option maxHeartbeats 100000 in
theorem f308_1045_ok (L N d : Nat) (x1 : Int) (s : gI) {o : Int × gI} (h : f308 N 1045 6 x1 s = some o) : iEE L (d + 3) 308 [vR 1045, vI x1] (s, g_rho) (some (vI o.1), (o.2, g_rho)) := by
  refine iEE.of (wr := false) (d := d + 2) (md := gm_308) rfl rfl rfl (iRR.of 401 ?_)
  replace h := (iov_inv h).2
  obtain ⟨s1, h1, h⟩ := i_o1_inv h
  refine iRT.call (f306_ok L N (d + 0) _ _ _ h1) ?_
  refine iRT.ck h fun h => ?_
  refine iRT.ch h fun h => ?_
  refine iRT.ch h fun h => ?_
  cases h
  exact iRT.ret
-- java/lang/String.charAt
set_option maxHeartbeats 100000 in
theorem f301_1044_ok (L N d : Nat) (x1 : Int) (s : gI) {o : Int × gI} (h : f301 N 1044 6 x1 s = some o) : iEE L (d + 4) 301 [vR 1044, vI x1] (s, g_rho) (some (vI o.1), (o.2, g_rho)) := by
  refine iEE.of (wr := false) (d := d + 3) (md := gm_301) rfl rfl rfl (iRR.of 401 ?_)
  obtain ⟨i2, s1, h1, h⟩ := i_o2_inv h
  refine iRT.call (f305_1044_ok L N (d + 2)  _ h1) ?_
  refine iRT.ite h (fun h => ?_) (fun h => ?_)
  · cases h
  · obtain ⟨i4, s3, h1, h⟩ := i_o2_inv h
    refine iRT.call (f308_1045_ok L N (d + 0) _ _ h1) ?_
    refine iRT.ch h fun h => ?_
    cases h
    exact iRT.ret
-- GutterNine$Tape.isWord
set_option maxHeartbeats 100000 in
theorem f101_1_1044_at31_ok (L N d : Nat) : ∀ (n : Nat) (x2 : Int) (s : gI) (o : Int × gI), f101_at31 N 1044 6 n x2 s = some o → iRR false L (d + 4) kj101 k101_31 [some (vR 1), some (vR 1044), some (vI x2)] [] (s, g_rho) (some (vI o.1), (o.2, g_rho)) := by
  intro n
  induction n with
  | zero => intro _ _ _ h; cases h
  | succ n ih =>
    intro x2 s o h
    refine iRR.of 401 ?_
    refine iRT.ite h (fun h => ?_) (fun h => ?_)
    · replace h := (ib1_inv h).2
      cases h
      exact iRT.ret
    · refine iRT.ck h fun h => ?_
      refine iRT.ov h fun h => ?_
      obtain ⟨i2, s1, h1, h⟩ := i_o2_inv h
      refine iRT.call (f301_1044_ok L N (d + 0) _ _ h1) ?_
      refine iRT.ite h (fun h => ?_) (fun h => ?_)
      · refine iRT.ov h fun h => ?_
        exact iRT.go 1 (ih _ _ _ h) (fun _ _ => rfl)
      · replace h := (ib1_inv h).2
        cases h
        exact iRT.ret
set_option maxHeartbeats 100000 in
theorem f101_1_1044_ok (L N d : Nat) (s : gI) {o : Int × gI} (h : f101 N 1044 6  s = some o) : iEE L (d + 5) 101 [vR 1, vR 1044] (s, g_rho) (some (vI o.1), (o.2, g_rho)) := by
  refine iEE.of (wr := false) (d := d + 4) (md := gm_101) rfl rfl rfl (iRR.of 401 ?_)
  refine iRT.ite h (fun h => ?_) (fun h => ?_)
  · refine iRT.ov h fun h => ?_
    obtain ⟨i2, s1, h1, h⟩ := i_o2_inv h
    refine iRT.call (f300_1044_ok L N (d + 2)  _ h1) ?_
    refine iRT.ite h (fun h => ?_) (fun h => ?_)
    · exact iRT.go 3 (f101_1_1044_at31_ok L N d N _ _ _ h) (fun _ _ => rfl)
    · replace h := (ib1_inv h).2
      cases h
      exact iRT.ret
  · replace h := (ib1_inv h).2
    cases h
    exact iRT.ret
-- java/lang/String.coder
set_option maxHeartbeats 100000 in
theorem f304_1046_ok (L N d : Nat) (s : gI) {o : Int × gI} (h : f304 N 1046  s = some o) : iEE L (d + 1) 304 [vR 1046] (s, g_rho) (some (vI o.1), (o.2, g_rho)) := by
  refine iEE.of (wr := false) (d := d + 0) (md := gm_304) rfl rfl rfl (iRR.of 401 ?_)
  replace h := i_h0 (by decide) h
  refine iRT.b1 h fun h => ?_
  cases h
  exact iRT.ret
-- java/lang/String.length
set_option maxHeartbeats 100000 in
theorem f300_1046_ok (L N d : Nat) (s : gI) {o : Int × gI} (h : f300 N 1046 5  s = some o) : iEE L (d + 2) 300 [vR 1046] (s, g_rho) (some (vI o.1), (o.2, g_rho)) := by
  refine iEE.of (wr := false) (d := d + 1) (md := gm_300) rfl rfl rfl (iRR.of 401 ?_)
  replace h := (iov_inv h).2
  obtain ⟨i2, s1, h1, h⟩ := i_o2_inv h
  refine iRT.call (f304_1046_ok L N (d + 0)  _ h1) ?_
  cases h
  exact iRT.ret
-- java/lang/String.isLatin1
set_option maxHeartbeats 100000 in
theorem f305_1046_ok (L N d : Nat) (s : gI) {o : Int × gI} (h : f305 N 1046  s = some o) : iEE L (d + 1) 305 [vR 1046] (s, g_rho) (some (vI o.1), (o.2, g_rho)) := by
  refine iEE.of (wr := false) (d := d + 0) (md := gm_305) rfl rfl rfl (iRR.of 401 ?_)
  replace h := i_h0 (by decide) h
  refine iRT.ite h (fun h => ?_) (fun h => ?_)
  · replace h := (ib1_inv h).2
    cases h
    exact iRT.ret
  · replace h := (ib1_inv h).2
    cases h
    exact iRT.ret
-- java/lang/StringLatin1.charAt
set_option maxHeartbeats 100000 in
theorem f308_1047_ok (L N d : Nat) (x1 : Int) (s : gI) {o : Int × gI} (h : f308 N 1047 5 x1 s = some o) : iEE L (d + 3) 308 [vR 1047, vI x1] (s, g_rho) (some (vI o.1), (o.2, g_rho)) := by
  refine iEE.of (wr := false) (d := d + 2) (md := gm_308) rfl rfl rfl (iRR.of 401 ?_)
  replace h := (iov_inv h).2
  obtain ⟨s1, h1, h⟩ := i_o1_inv h
  refine iRT.call (f306_ok L N (d + 0) _ _ _ h1) ?_
  refine iRT.ck h fun h => ?_
  refine iRT.ch h fun h => ?_
  refine iRT.ch h fun h => ?_
  cases h
  exact iRT.ret
-- java/lang/String.charAt
set_option maxHeartbeats 100000 in
theorem f301_1046_ok (L N d : Nat) (x1 : Int) (s : gI) {o : Int × gI} (h : f301 N 1046 5 x1 s = some o) : iEE L (d + 4) 301 [vR 1046, vI x1] (s, g_rho) (some (vI o.1), (o.2, g_rho)) := by
  refine iEE.of (wr := false) (d := d + 3) (md := gm_301) rfl rfl rfl (iRR.of 401 ?_)
  obtain ⟨i2, s1, h1, h⟩ := i_o2_inv h
  refine iRT.call (f305_1046_ok L N (d + 2)  _ h1) ?_
  refine iRT.ite h (fun h => ?_) (fun h => ?_)
  · cases h
  · obtain ⟨i4, s3, h1, h⟩ := i_o2_inv h
    refine iRT.call (f308_1047_ok L N (d + 0) _ _ h1) ?_
    refine iRT.ch h fun h => ?_
    cases h
    exact iRT.ret
-- GutterNine$Tape.isWord
set_option maxHeartbeats 100000 in
theorem f101_1_1046_at31_ok (L N d : Nat) : ∀ (n : Nat) (x2 : Int) (s : gI) (o : Int × gI), f101_at31 N 1046 5 n x2 s = some o → iRR false L (d + 4) kj101 k101_31 [some (vR 1), some (vR 1046), some (vI x2)] [] (s, g_rho) (some (vI o.1), (o.2, g_rho)) := by
  intro n
  induction n with
  | zero => intro _ _ _ h; cases h
  | succ n ih =>
    intro x2 s o h
    refine iRR.of 401 ?_
    refine iRT.ite h (fun h => ?_) (fun h => ?_)
    · replace h := (ib1_inv h).2
      cases h
      exact iRT.ret
    · refine iRT.ck h fun h => ?_
      refine iRT.ov h fun h => ?_
      obtain ⟨i2, s1, h1, h⟩ := i_o2_inv h
      refine iRT.call (f301_1046_ok L N (d + 0) _ _ h1) ?_
      refine iRT.ite h (fun h => ?_) (fun h => ?_)
      · refine iRT.ov h fun h => ?_
        exact iRT.go 1 (ih _ _ _ h) (fun _ _ => rfl)
      · replace h := (ib1_inv h).2
        cases h
        exact iRT.ret
set_option maxHeartbeats 100000 in
theorem f101_1_1046_ok (L N d : Nat) (s : gI) {o : Int × gI} (h : f101 N 1046 5  s = some o) : iEE L (d + 5) 101 [vR 1, vR 1046] (s, g_rho) (some (vI o.1), (o.2, g_rho)) := by
  refine iEE.of (wr := false) (d := d + 4) (md := gm_101) rfl rfl rfl (iRR.of 401 ?_)
  refine iRT.ite h (fun h => ?_) (fun h => ?_)
  · refine iRT.ov h fun h => ?_
    obtain ⟨i2, s1, h1, h⟩ := i_o2_inv h
    refine iRT.call (f300_1046_ok L N (d + 2)  _ h1) ?_
    refine iRT.ite h (fun h => ?_) (fun h => ?_)
    · exact iRT.go 3 (f101_1_1046_at31_ok L N d N _ _ _ h) (fun _ _ => rfl)
    · replace h := (ib1_inv h).2
      cases h
      exact iRT.ret
  · replace h := (ib1_inv h).2
    cases h
    exact iRT.ret
-- java/lang/String.coder
set_option maxHeartbeats 100000 in
theorem f304_1048_ok (L N d : Nat) (s : gI) {o : Int × gI} (h : f304 N 1048  s = some o) : iEE L (d + 1) 304 [vR 1048] (s, g_rho) (some (vI o.1), (o.2, g_rho)) := by
  refine iEE.of (wr := false) (d := d + 0) (md := gm_304) rfl rfl rfl (iRR.of 401 ?_)
  replace h := i_h0 (by decide) h
  refine iRT.b1 h fun h => ?_
  cases h
  exact iRT.ret
-- java/lang/String.length
set_option maxHeartbeats 100000 in
theorem f300_1048_ok (L N d : Nat) (s : gI) {o : Int × gI} (h : f300 N 1048 6  s = some o) : iEE L (d + 2) 300 [vR 1048] (s, g_rho) (some (vI o.1), (o.2, g_rho)) := by
  refine iEE.of (wr := false) (d := d + 1) (md := gm_300) rfl rfl rfl (iRR.of 401 ?_)
  replace h := (iov_inv h).2
  obtain ⟨i2, s1, h1, h⟩ := i_o2_inv h
  refine iRT.call (f304_1048_ok L N (d + 0)  _ h1) ?_
  cases h
  exact iRT.ret
-- java/lang/String.isLatin1
set_option maxHeartbeats 100000 in
theorem f305_1048_ok (L N d : Nat) (s : gI) {o : Int × gI} (h : f305 N 1048  s = some o) : iEE L (d + 1) 305 [vR 1048] (s, g_rho) (some (vI o.1), (o.2, g_rho)) := by
  refine iEE.of (wr := false) (d := d + 0) (md := gm_305) rfl rfl rfl (iRR.of 401 ?_)
  replace h := i_h0 (by decide) h
  refine iRT.ite h (fun h => ?_) (fun h => ?_)
  · replace h := (ib1_inv h).2
    cases h
    exact iRT.ret
  · replace h := (ib1_inv h).2
    cases h
    exact iRT.ret
-- java/lang/StringLatin1.charAt
set_option maxHeartbeats 100000 in
theorem f308_1049_ok (L N d : Nat) (x1 : Int) (s : gI) {o : Int × gI} (h : f308 N 1049 6 x1 s = some o) : iEE L (d + 3) 308 [vR 1049, vI x1] (s, g_rho) (some (vI o.1), (o.2, g_rho)) := by
  refine iEE.of (wr := false) (d := d + 2) (md := gm_308) rfl rfl rfl (iRR.of 401 ?_)
  replace h := (iov_inv h).2
  obtain ⟨s1, h1, h⟩ := i_o1_inv h
  refine iRT.call (f306_ok L N (d + 0) _ _ _ h1) ?_
  refine iRT.ck h fun h => ?_
  refine iRT.ch h fun h => ?_
  refine iRT.ch h fun h => ?_
  cases h
  exact iRT.ret
-- java/lang/String.charAt
set_option maxHeartbeats 100000 in
theorem f301_1048_ok (L N d : Nat) (x1 : Int) (s : gI) {o : Int × gI} (h : f301 N 1048 6 x1 s = some o) : iEE L (d + 4) 301 [vR 1048, vI x1] (s, g_rho) (some (vI o.1), (o.2, g_rho)) := by
  refine iEE.of (wr := false) (d := d + 3) (md := gm_301) rfl rfl rfl (iRR.of 401 ?_)
  obtain ⟨i2, s1, h1, h⟩ := i_o2_inv h
  refine iRT.call (f305_1048_ok L N (d + 2)  _ h1) ?_
  refine iRT.ite h (fun h => ?_) (fun h => ?_)
  · cases h
  · obtain ⟨i4, s3, h1, h⟩ := i_o2_inv h
    refine iRT.call (f308_1049_ok L N (d + 0) _ _ h1) ?_
    refine iRT.ch h fun h => ?_
    cases h
    exact iRT.ret
-- GutterNine$Tape.isWord
set_option maxHeartbeats 100000 in
theorem f101_1_1048_at31_ok (L N d : Nat) : ∀ (n : Nat) (x2 : Int) (s : gI) (o : Int × gI), f101_at31 N 1048 6 n x2 s = some o → iRR false L (d + 4) kj101 k101_31 [some (vR 1), some (vR 1048), some (vI x2)] [] (s, g_rho) (some (vI o.1), (o.2, g_rho)) := by
  intro n
  induction n with
  | zero => intro _ _ _ h; cases h
  | succ n ih =>
    intro x2 s o h
    refine iRR.of 401 ?_
    refine iRT.ite h (fun h => ?_) (fun h => ?_)
    · replace h := (ib1_inv h).2
      cases h
      exact iRT.ret
    · refine iRT.ck h fun h => ?_
      refine iRT.ov h fun h => ?_
      obtain ⟨i2, s1, h1, h⟩ := i_o2_inv h
      refine iRT.call (f301_1048_ok L N (d + 0) _ _ h1) ?_
      refine iRT.ite h (fun h => ?_) (fun h => ?_)
      · refine iRT.ov h fun h => ?_
        exact iRT.go 1 (ih _ _ _ h) (fun _ _ => rfl)
      · replace h := (ib1_inv h).2
        cases h
        exact iRT.ret
set_option maxHeartbeats 100000 in
theorem f101_1_1048_ok (L N d : Nat) (s : gI) {o : Int × gI} (h : f101 N 1048 6  s = some o) : iEE L (d + 5) 101 [vR 1, vR 1048] (s, g_rho) (some (vI o.1), (o.2, g_rho)) := by
  refine iEE.of (wr := false) (d := d + 4) (md := gm_101) rfl rfl rfl (iRR.of 401 ?_)
  refine iRT.ite h (fun h => ?_) (fun h => ?_)
  · refine iRT.ov h fun h => ?_
    obtain ⟨i2, s1, h1, h⟩ := i_o2_inv h
    refine iRT.call (f300_1048_ok L N (d + 2)  _ h1) ?_
    refine iRT.ite h (fun h => ?_) (fun h => ?_)
    · exact iRT.go 3 (f101_1_1048_at31_ok L N d N _ _ _ h) (fun _ _ => rfl)
    · replace h := (ib1_inv h).2
      cases h
      exact iRT.ret
  · replace h := (ib1_inv h).2
    cases h
    exact iRT.ret
-- java/lang/String.coder
set_option maxHeartbeats 100000 in
theorem f304_1050_ok (L N d : Nat) (s : gI) {o : Int × gI} (h : f304 N 1050  s = some o) : iEE L (d + 1) 304 [vR 1050] (s, g_rho) (some (vI o.1), (o.2, g_rho)) := by
  refine iEE.of (wr := false) (d := d + 0) (md := gm_304) rfl rfl rfl (iRR.of 401 ?_)
  replace h := i_h0 (by decide) h
  refine iRT.b1 h fun h => ?_
  cases h
  exact iRT.ret
-- java/lang/String.length
set_option maxHeartbeats 100000 in
theorem f300_1050_ok (L N d : Nat) (s : gI) {o : Int × gI} (h : f300 N 1050 6  s = some o) : iEE L (d + 2) 300 [vR 1050] (s, g_rho) (some (vI o.1), (o.2, g_rho)) := by
  refine iEE.of (wr := false) (d := d + 1) (md := gm_300) rfl rfl rfl (iRR.of 401 ?_)
  replace h := (iov_inv h).2
  obtain ⟨i2, s1, h1, h⟩ := i_o2_inv h
  refine iRT.call (f304_1050_ok L N (d + 0)  _ h1) ?_
  cases h
  exact iRT.ret
-- java/lang/String.isLatin1
set_option maxHeartbeats 100000 in
theorem f305_1050_ok (L N d : Nat) (s : gI) {o : Int × gI} (h : f305 N 1050  s = some o) : iEE L (d + 1) 305 [vR 1050] (s, g_rho) (some (vI o.1), (o.2, g_rho)) := by
  refine iEE.of (wr := false) (d := d + 0) (md := gm_305) rfl rfl rfl (iRR.of 401 ?_)
  replace h := i_h0 (by decide) h
  refine iRT.ite h (fun h => ?_) (fun h => ?_)
  · replace h := (ib1_inv h).2
    cases h
    exact iRT.ret
  · replace h := (ib1_inv h).2
    cases h
    exact iRT.ret
-- java/lang/StringLatin1.charAt
set_option maxHeartbeats 100000 in
theorem f308_1051_ok (L N d : Nat) (x1 : Int) (s : gI) {o : Int × gI} (h : f308 N 1051 6 x1 s = some o) : iEE L (d + 3) 308 [vR 1051, vI x1] (s, g_rho) (some (vI o.1), (o.2, g_rho)) := by
  refine iEE.of (wr := false) (d := d + 2) (md := gm_308) rfl rfl rfl (iRR.of 401 ?_)
  replace h := (iov_inv h).2
  obtain ⟨s1, h1, h⟩ := i_o1_inv h
  refine iRT.call (f306_ok L N (d + 0) _ _ _ h1) ?_
  refine iRT.ck h fun h => ?_
  refine iRT.ch h fun h => ?_
  refine iRT.ch h fun h => ?_
  cases h
  exact iRT.ret
-- java/lang/String.charAt
set_option maxHeartbeats 100000 in
theorem f301_1050_ok (L N d : Nat) (x1 : Int) (s : gI) {o : Int × gI} (h : f301 N 1050 6 x1 s = some o) : iEE L (d + 4) 301 [vR 1050, vI x1] (s, g_rho) (some (vI o.1), (o.2, g_rho)) := by
  refine iEE.of (wr := false) (d := d + 3) (md := gm_301) rfl rfl rfl (iRR.of 401 ?_)
  obtain ⟨i2, s1, h1, h⟩ := i_o2_inv h
  refine iRT.call (f305_1050_ok L N (d + 2)  _ h1) ?_
  refine iRT.ite h (fun h => ?_) (fun h => ?_)
  · cases h
  · obtain ⟨i4, s3, h1, h⟩ := i_o2_inv h
    refine iRT.call (f308_1051_ok L N (d + 0) _ _ h1) ?_
    refine iRT.ch h fun h => ?_
    cases h
    exact iRT.ret
-- GutterNine$Tape.isWord
set_option maxHeartbeats 100000 in
theorem f101_1_1050_at31_ok (L N d : Nat) : ∀ (n : Nat) (x2 : Int) (s : gI) (o : Int × gI), f101_at31 N 1050 6 n x2 s = some o → iRR false L (d + 4) kj101 k101_31 [some (vR 1), some (vR 1050), some (vI x2)] [] (s, g_rho) (some (vI o.1), (o.2, g_rho)) := by
  intro n
  induction n with
  | zero => intro _ _ _ h; cases h
  | succ n ih =>
    intro x2 s o h
    refine iRR.of 401 ?_
    refine iRT.ite h (fun h => ?_) (fun h => ?_)
    · replace h := (ib1_inv h).2
      cases h
      exact iRT.ret
    · refine iRT.ck h fun h => ?_
      refine iRT.ov h fun h => ?_
      obtain ⟨i2, s1, h1, h⟩ := i_o2_inv h
      refine iRT.call (f301_1050_ok L N (d + 0) _ _ h1) ?_
      refine iRT.ite h (fun h => ?_) (fun h => ?_)
      · refine iRT.ov h fun h => ?_
        exact iRT.go 1 (ih _ _ _ h) (fun _ _ => rfl)
      · replace h := (ib1_inv h).2
        cases h
        exact iRT.ret
set_option maxHeartbeats 100000 in
theorem f101_1_1050_ok (L N d : Nat) (s : gI) {o : Int × gI} (h : f101 N 1050 6  s = some o) : iEE L (d + 5) 101 [vR 1, vR 1050] (s, g_rho) (some (vI o.1), (o.2, g_rho)) := by
  refine iEE.of (wr := false) (d := d + 4) (md := gm_101) rfl rfl rfl (iRR.of 401 ?_)
  refine iRT.ite h (fun h => ?_) (fun h => ?_)
  · refine iRT.ov h fun h => ?_
    obtain ⟨i2, s1, h1, h⟩ := i_o2_inv h
    refine iRT.call (f300_1050_ok L N (d + 2)  _ h1) ?_
    refine iRT.ite h (fun h => ?_) (fun h => ?_)
    · exact iRT.go 3 (f101_1_1050_at31_ok L N d N _ _ _ h) (fun _ _ => rfl)
    · replace h := (ib1_inv h).2
      cases h
      exact iRT.ret
  · replace h := (ib1_inv h).2
    cases h
    exact iRT.ret
-- GutterNine$YardReader.takeOnce
set_option maxHeartbeats 100000 in
theorem f122_3_ok (L N d : Nat) (x1 : Int) (s : gI) {o : Int × gI} (h : f122 N x1 s = some o) : iEE L (d + 6) 122 [vR 3, vI x1] (s, g_rho) (some (vI o.1), (o.2, g_rho)) := by
  refine iEE.of (wr := false) (d := d + 5) (md := gm_122) rfl rfl rfl (iRR.of 401 ?_)
  refine iRT.ite h (fun h => ?_) (fun h => ?_)
  · obtain ⟨s2, h1, h⟩ := i_o1_inv h
    refine iRT.call (f97_1_ok L N (d + 0)  _ h1) ?_
    replace h := (ib1_inv h).2
    cases h
    exact iRT.ret
  · obtain ⟨i4, s3, h1, h⟩ := i_o2_inv h
    refine iRT.call (f104_1_ok L N (d + 4) _ _ h1) ?_
    refine iRT.b1 h fun h => ?_
    cases h
    exact iRT.ret
-- GutterNine$Law.clear
set_option maxHeartbeats 100000 in
theorem f22_60_ok (L N d : Nat) (s : gI) {o : gI} (h : f22 N 60  s = some o) : iEE L (d + 1) 22 [vR 60] (s, g_rho) (none, (o, g_rho)) := by
  refine iEE.of (wr := false) (d := d + 0) (md := gm_22) rfl rfl rfl (iRR.of 401 ?_)
  cases h
  exact iRT.ret
-- java/lang/String.coder
set_option maxHeartbeats 100000 in
theorem f304_1024_ok (L N d : Nat) (s : gI) {o : Int × gI} (h : f304 N 1024  s = some o) : iEE L (d + 1) 304 [vR 1024] (s, g_rho) (some (vI o.1), (o.2, g_rho)) := by
  refine iEE.of (wr := false) (d := d + 0) (md := gm_304) rfl rfl rfl (iRR.of 401 ?_)
  replace h := i_h0 (by decide) h
  refine iRT.b1 h fun h => ?_
  cases h
  exact iRT.ret
-- java/lang/String.length
set_option maxHeartbeats 100000 in
theorem f300_1024_ok (L N d : Nat) (s : gI) {o : Int × gI} (h : f300 N 1024 3  s = some o) : iEE L (d + 2) 300 [vR 1024] (s, g_rho) (some (vI o.1), (o.2, g_rho)) := by
  refine iEE.of (wr := false) (d := d + 1) (md := gm_300) rfl rfl rfl (iRR.of 401 ?_)
  replace h := (iov_inv h).2
  obtain ⟨i2, s1, h1, h⟩ := i_o2_inv h
  refine iRT.call (f304_1024_ok L N (d + 0)  _ h1) ?_
  cases h
  exact iRT.ret
-- java/lang/String.isLatin1
set_option maxHeartbeats 100000 in
theorem f305_1024_ok (L N d : Nat) (s : gI) {o : Int × gI} (h : f305 N 1024  s = some o) : iEE L (d + 1) 305 [vR 1024] (s, g_rho) (some (vI o.1), (o.2, g_rho)) := by
  refine iEE.of (wr := false) (d := d + 0) (md := gm_305) rfl rfl rfl (iRR.of 401 ?_)
  replace h := i_h0 (by decide) h
  refine iRT.ite h (fun h => ?_) (fun h => ?_)
  · replace h := (ib1_inv h).2
    cases h
    exact iRT.ret
  · replace h := (ib1_inv h).2
    cases h
    exact iRT.ret
-- java/lang/StringLatin1.charAt
set_option maxHeartbeats 100000 in
theorem f308_1025_ok (L N d : Nat) (x1 : Int) (s : gI) {o : Int × gI} (h : f308 N 1025 3 x1 s = some o) : iEE L (d + 3) 308 [vR 1025, vI x1] (s, g_rho) (some (vI o.1), (o.2, g_rho)) := by
  refine iEE.of (wr := false) (d := d + 2) (md := gm_308) rfl rfl rfl (iRR.of 401 ?_)
  replace h := (iov_inv h).2
  obtain ⟨s1, h1, h⟩ := i_o1_inv h
  refine iRT.call (f306_ok L N (d + 0) _ _ _ h1) ?_
  refine iRT.ck h fun h => ?_
  refine iRT.ch h fun h => ?_
  refine iRT.ch h fun h => ?_
  cases h
  exact iRT.ret
-- java/lang/String.charAt
set_option maxHeartbeats 100000 in
theorem f301_1024_ok (L N d : Nat) (x1 : Int) (s : gI) {o : Int × gI} (h : f301 N 1024 3 x1 s = some o) : iEE L (d + 4) 301 [vR 1024, vI x1] (s, g_rho) (some (vI o.1), (o.2, g_rho)) := by
  refine iEE.of (wr := false) (d := d + 3) (md := gm_301) rfl rfl rfl (iRR.of 401 ?_)
  obtain ⟨i2, s1, h1, h⟩ := i_o2_inv h
  refine iRT.call (f305_1024_ok L N (d + 2)  _ h1) ?_
  refine iRT.ite h (fun h => ?_) (fun h => ?_)
  · cases h
  · obtain ⟨i4, s3, h1, h⟩ := i_o2_inv h
    refine iRT.call (f308_1025_ok L N (d + 0) _ _ h1) ?_
    refine iRT.ch h fun h => ?_
    cases h
    exact iRT.ret
-- GutterNine$Tape.isWord
set_option maxHeartbeats 100000 in
theorem f101_1_1024_at31_ok (L N d : Nat) : ∀ (n : Nat) (x2 : Int) (s : gI) (o : Int × gI), f101_at31 N 1024 3 n x2 s = some o → iRR false L (d + 4) kj101 k101_31 [some (vR 1), some (vR 1024), some (vI x2)] [] (s, g_rho) (some (vI o.1), (o.2, g_rho)) := by
  intro n
  induction n with
  | zero => intro _ _ _ h; cases h
  | succ n ih =>
    intro x2 s o h
    refine iRR.of 401 ?_
    refine iRT.ite h (fun h => ?_) (fun h => ?_)
    · replace h := (ib1_inv h).2
      cases h
      exact iRT.ret
    · refine iRT.ck h fun h => ?_
      refine iRT.ov h fun h => ?_
      obtain ⟨i2, s1, h1, h⟩ := i_o2_inv h
      refine iRT.call (f301_1024_ok L N (d + 0) _ _ h1) ?_
      refine iRT.ite h (fun h => ?_) (fun h => ?_)
      · refine iRT.ov h fun h => ?_
        exact iRT.go 1 (ih _ _ _ h) (fun _ _ => rfl)
      · replace h := (ib1_inv h).2
        cases h
        exact iRT.ret
set_option maxHeartbeats 100000 in
theorem f101_1_1024_ok (L N d : Nat) (s : gI) {o : Int × gI} (h : f101 N 1024 3  s = some o) : iEE L (d + 5) 101 [vR 1, vR 1024] (s, g_rho) (some (vI o.1), (o.2, g_rho)) := by
  refine iEE.of (wr := false) (d := d + 4) (md := gm_101) rfl rfl rfl (iRR.of 401 ?_)
  refine iRT.ite h (fun h => ?_) (fun h => ?_)
  · refine iRT.ov h fun h => ?_
    obtain ⟨i2, s1, h1, h⟩ := i_o2_inv h
    refine iRT.call (f300_1024_ok L N (d + 2)  _ h1) ?_
    refine iRT.ite h (fun h => ?_) (fun h => ?_)
    · exact iRT.go 3 (f101_1_1024_at31_ok L N d N _ _ _ h) (fun _ _ => rfl)
    · replace h := (ib1_inv h).2
      cases h
      exact iRT.ret
  · replace h := (ib1_inv h).2
    cases h
    exact iRT.ret
-- java/lang/String.coder
set_option maxHeartbeats 100000 in
theorem f304_1026_ok (L N d : Nat) (s : gI) {o : Int × gI} (h : f304 N 1026  s = some o) : iEE L (d + 1) 304 [vR 1026] (s, g_rho) (some (vI o.1), (o.2, g_rho)) := by
  refine iEE.of (wr := false) (d := d + 0) (md := gm_304) rfl rfl rfl (iRR.of 401 ?_)
  replace h := i_h0 (by decide) h
  refine iRT.b1 h fun h => ?_
  cases h
  exact iRT.ret
-- java/lang/String.length
set_option maxHeartbeats 100000 in
theorem f300_1026_ok (L N d : Nat) (s : gI) {o : Int × gI} (h : f300 N 1026 2  s = some o) : iEE L (d + 2) 300 [vR 1026] (s, g_rho) (some (vI o.1), (o.2, g_rho)) := by
  refine iEE.of (wr := false) (d := d + 1) (md := gm_300) rfl rfl rfl (iRR.of 401 ?_)
  replace h := (iov_inv h).2
  obtain ⟨i2, s1, h1, h⟩ := i_o2_inv h
  refine iRT.call (f304_1026_ok L N (d + 0)  _ h1) ?_
  cases h
  exact iRT.ret
-- java/lang/String.isLatin1
set_option maxHeartbeats 100000 in
theorem f305_1026_ok (L N d : Nat) (s : gI) {o : Int × gI} (h : f305 N 1026  s = some o) : iEE L (d + 1) 305 [vR 1026] (s, g_rho) (some (vI o.1), (o.2, g_rho)) := by
  refine iEE.of (wr := false) (d := d + 0) (md := gm_305) rfl rfl rfl (iRR.of 401 ?_)
  replace h := i_h0 (by decide) h
  refine iRT.ite h (fun h => ?_) (fun h => ?_)
  · replace h := (ib1_inv h).2
    cases h
    exact iRT.ret
  · replace h := (ib1_inv h).2
    cases h
    exact iRT.ret
-- java/lang/StringLatin1.charAt
set_option maxHeartbeats 100000 in
theorem f308_1027_ok (L N d : Nat) (x1 : Int) (s : gI) {o : Int × gI} (h : f308 N 1027 2 x1 s = some o) : iEE L (d + 3) 308 [vR 1027, vI x1] (s, g_rho) (some (vI o.1), (o.2, g_rho)) := by
  refine iEE.of (wr := false) (d := d + 2) (md := gm_308) rfl rfl rfl (iRR.of 401 ?_)
  replace h := (iov_inv h).2
  obtain ⟨s1, h1, h⟩ := i_o1_inv h
  refine iRT.call (f306_ok L N (d + 0) _ _ _ h1) ?_
  refine iRT.ck h fun h => ?_
  refine iRT.ch h fun h => ?_
  refine iRT.ch h fun h => ?_
  cases h
  exact iRT.ret
-- java/lang/String.charAt
set_option maxHeartbeats 100000 in
theorem f301_1026_ok (L N d : Nat) (x1 : Int) (s : gI) {o : Int × gI} (h : f301 N 1026 2 x1 s = some o) : iEE L (d + 4) 301 [vR 1026, vI x1] (s, g_rho) (some (vI o.1), (o.2, g_rho)) := by
  refine iEE.of (wr := false) (d := d + 3) (md := gm_301) rfl rfl rfl (iRR.of 401 ?_)
  obtain ⟨i2, s1, h1, h⟩ := i_o2_inv h
  refine iRT.call (f305_1026_ok L N (d + 2)  _ h1) ?_
  refine iRT.ite h (fun h => ?_) (fun h => ?_)
  · cases h
  · obtain ⟨i4, s3, h1, h⟩ := i_o2_inv h
    refine iRT.call (f308_1027_ok L N (d + 0) _ _ h1) ?_
    refine iRT.ch h fun h => ?_
    cases h
    exact iRT.ret
-- GutterNine$Tape.isWord
set_option maxHeartbeats 100000 in
theorem f101_1_1026_at31_ok (L N d : Nat) : ∀ (n : Nat) (x2 : Int) (s : gI) (o : Int × gI), f101_at31 N 1026 2 n x2 s = some o → iRR false L (d + 4) kj101 k101_31 [some (vR 1), some (vR 1026), some (vI x2)] [] (s, g_rho) (some (vI o.1), (o.2, g_rho)) := by
  intro n
  induction n with
  | zero => intro _ _ _ h; cases h
  | succ n ih =>
    intro x2 s o h
    refine iRR.of 401 ?_
    refine iRT.ite h (fun h => ?_) (fun h => ?_)
    · replace h := (ib1_inv h).2
      cases h
      exact iRT.ret
    · refine iRT.ck h fun h => ?_
      refine iRT.ov h fun h => ?_
      obtain ⟨i2, s1, h1, h⟩ := i_o2_inv h
      refine iRT.call (f301_1026_ok L N (d + 0) _ _ h1) ?_
      refine iRT.ite h (fun h => ?_) (fun h => ?_)
      · refine iRT.ov h fun h => ?_
        exact iRT.go 1 (ih _ _ _ h) (fun _ _ => rfl)
      · replace h := (ib1_inv h).2
        cases h
        exact iRT.ret
set_option maxHeartbeats 100000 in
theorem f101_1_1026_ok (L N d : Nat) (s : gI) {o : Int × gI} (h : f101 N 1026 2  s = some o) : iEE L (d + 5) 101 [vR 1, vR 1026] (s, g_rho) (some (vI o.1), (o.2, g_rho)) := by
  refine iEE.of (wr := false) (d := d + 4) (md := gm_101) rfl rfl rfl (iRR.of 401 ?_)
  refine iRT.ite h (fun h => ?_) (fun h => ?_)
  · refine iRT.ov h fun h => ?_
    obtain ⟨i2, s1, h1, h⟩ := i_o2_inv h
    refine iRT.call (f300_1026_ok L N (d + 2)  _ h1) ?_
    refine iRT.ite h (fun h => ?_) (fun h => ?_)
    · exact iRT.go 3 (f101_1_1026_at31_ok L N d N _ _ _ h) (fun _ _ => rfl)
    · replace h := (ib1_inv h).2
      cases h
      exact iRT.ret
  · replace h := (ib1_inv h).2
    cases h
    exact iRT.ret
-- GutterNine$LawReader.joinCode
set_option maxHeartbeats 100000 in
theorem f31_4_ok (L N d : Nat) (s : gI) {o : Int × gI} (h : f31 N  s = some o) : iEE L (d + 6) 31 [vR 4] (s, g_rho) (some (vI o.1), (o.2, g_rho)) := by
  refine iEE.of (wr := false) (d := d + 5) (md := gm_31) rfl rfl rfl (iRR.of 401 ?_)
  obtain ⟨i2, s1, h1, h⟩ := i_o2_inv h
  refine iRT.call (f101_1_1024_ok L N (d + 0)  _ h1) ?_
  refine iRT.ite h (fun h => ?_) (fun h => ?_)
  · obtain ⟨i4, s3, h1, h⟩ := i_o2_inv h
    refine iRT.call (f101_1_1026_ok L N (d + 0)  _ h1) ?_
    refine iRT.ite h (fun h => ?_) (fun h => ?_)
    · obtain ⟨i6, s5, h1, h⟩ := i_o2_inv h
      refine iRT.call (f100_1_ok L N (d + 4) _ _ h1) ?_
      refine iRT.ite h (fun h => ?_) (fun h => ?_)
      · obtain ⟨i8, s7, h1, h⟩ := i_o2_inv h
        refine iRT.call (f100_1_ok L N (d + 4) _ _ h1) ?_
        refine iRT.ite h (fun h => ?_) (fun h => ?_)
        · obtain ⟨i10, s9, h1, h⟩ := i_o2_inv h
          refine iRT.call (f100_1_ok L N (d + 4) _ _ h1) ?_
          refine iRT.ite h (fun h => ?_) (fun h => ?_)
          · obtain ⟨i12, s11, h1, h⟩ := i_o2_inv h
            refine iRT.call (f100_1_ok L N (d + 4) _ _ h1) ?_
            refine iRT.ite h (fun h => ?_) (fun h => ?_)
            · obtain ⟨i14, s13, h1, h⟩ := i_o2_inv h
              refine iRT.call (f100_1_ok L N (d + 4) _ _ h1) ?_
              refine iRT.ite h (fun h => ?_) (fun h => ?_)
              · obtain ⟨i16, s15, h1, h⟩ := i_o2_inv h
                refine iRT.call (f100_1_ok L N (d + 4) _ _ h1) ?_
                refine iRT.ite h (fun h => ?_) (fun h => ?_)
                · cases h
                  exact iRT.ret
                · cases h
                  exact iRT.ret
              · cases h
                exact iRT.ret
            · cases h
              exact iRT.ret
          · cases h
            exact iRT.ret
        · cases h
          exact iRT.ret
      · cases h
        exact iRT.ret
    · cases h
      exact iRT.ret
  · cases h
    exact iRT.ret
-- GutterNine$LawReader.strength
set_option maxHeartbeats 100000 in
theorem f39_ok (L N d : Nat) (x0 : Int) (s : gI) {o : Int × gI} (h : f39 N x0 s = some o) : iEE L (d + 1) 39 [vI x0] (s, g_rho) (some (vI o.1), (o.2, g_rho)) := by
  refine iEE.of (wr := false) (d := d + 0) (md := gm_39) rfl rfl rfl (iRR.of 401 ?_)
  rcases iRT.cs h with ⟨hx0, h⟩ | ⟨hx0, h⟩
  · refine iRT.swin hx0 (off := 61) (by decide) (by decide) (by decide) ?_
    cases h
    exact iRT.ret
  · skip
    rcases iRT.cs h with ⟨hx1, h⟩ | ⟨hx1, h⟩
    · refine iRT.swin hx1 (off := 47) (by decide) (by decide) (by decide) ?_
      cases h
      exact iRT.ret
    · skip
      rcases iRT.cs h with ⟨hx2, h⟩ | ⟨hx2, h⟩
      · refine iRT.swin hx2 (off := 49) (by decide) (by decide) (by decide) ?_
        cases h
        exact iRT.ret
      · skip
        rcases iRT.cs h with ⟨hx3, h⟩ | ⟨hx3, h⟩
        · refine iRT.swin hx3 (off := 51) (by decide) (by decide) (by decide) ?_
          cases h
          exact iRT.ret
        · skip
          rcases iRT.cs h with ⟨hx4, h⟩ | ⟨hx4, h⟩
          · refine iRT.swin hx4 (off := 53) (by decide) (by decide) (by decide) ?_
            cases h
            exact iRT.ret
          · skip
            rcases iRT.cs h with ⟨hx5, h⟩ | ⟨hx5, h⟩
            · refine iRT.swin hx5 (off := 55) (by decide) (by decide) (by decide) ?_
              cases h
              exact iRT.ret
            · skip
              rcases iRT.cs h with ⟨hx6, h⟩ | ⟨hx6, h⟩
              · refine iRT.swin hx6 (off := 57) (by decide) (by decide) (by decide) ?_
                cases h
                exact iRT.ret
              · skip
                rcases iRT.cs h with ⟨hx7, h⟩ | ⟨hx7, h⟩
                · refine iRT.swin hx7 (off := 59) (by decide) (by decide) (by decide) ?_
                  cases h
                  exact iRT.ret
                · skip
                  refine iRT.swout (by omega) (by decide) ?_
                  cases h
                  exact iRT.ret
-- GutterNine$LawReader.topStrength
set_option maxHeartbeats 100000 in
theorem f38_4_ok (L N d : Nat) (s : gI) {o : Int × gI} (h : f38 N  s = some o) : iEE L (d + 2) 38 [vR 4] (s, g_rho) (some (vI o.1), (o.2, g_rho)) := by
  refine iEE.of (wr := false) (d := d + 1) (md := gm_38) rfl rfl rfl (iRR.of 401 ?_)
  refine iRT.ite h (fun h => ?_) (fun h => ?_)
  · cases h
    exact iRT.ret
  · refine iRT.ov h fun h => ?_
    refine iRT.ck h fun h => ?_
    obtain ⟨i2, s1, h1, h⟩ := i_o2_inv h
    refine iRT.call (f39_ok L N (d + 0) _ _ h1) ?_
    cases h
    exact iRT.ret
-- GutterNine$LawReader.pop
set_option maxHeartbeats 100000 in
theorem f37_4_ok (L N d : Nat) (s : gI) {o : gI} (h : f37 N  s = some o) : iEE L (d + 1) 37 [vR 4] (s, g_rho) (none, (o, g_rho)) := by
  refine iEE.of (wr := false) (d := d + 0) (md := gm_37) rfl rfl rfl (iRR.of 401 ?_)
  refine iRT.ov h fun h => ?_
  cases h
  exact iRT.ret
-- GutterNine$LawReader.release
set_option maxHeartbeats 100000 in
theorem f35_4_60_at2_ok (L N d : Nat) : ∀ (n : Nat) (x2 : Int) (x3 : Int) (s : gI) (o : gI), f35_at2 N 60 n x2 x3 s = some o → iRR false L (d + 2) kj35 k35_2 [some (vR 4), some (vR 60), some (vI x2), some (vI x3)] [] (s, g_rho) (none, (o, g_rho)) := by
  intro n
  induction n with
  | zero => intro _ _ _ _ h; cases h
  | succ n ih =>
    intro x2 x3 s o h
    refine iRR.of 401 ?_
    refine iRT.ite h (fun h => ?_) (fun h => ?_)
    · cases h
      exact iRT.ret
    · obtain ⟨i2, s1, h1, h⟩ := i_o2_inv h
      refine iRT.call (f38_4_ok L N (d + 0)  _ h1) ?_
      refine iRT.ite h (fun h => ?_) (fun h => ?_)
      · cases h
        exact iRT.ret
      · refine iRT.ov h fun h => ?_
        refine iRT.ck h fun h => ?_
        obtain ⟨s3, h1, h⟩ := i_o1_inv h
        refine iRT.call (f23_60_ok L N (d + 1) _ _ h1) ?_
        obtain ⟨s4, h1, h⟩ := i_o1_inv h
        refine iRT.call (f37_4_ok L N (d + 1)  _ h1) ?_
        refine iRT.ov h fun h => ?_
        exact iRT.go 1 (ih _ _ _ _ h) (fun _ _ => rfl)
set_option maxHeartbeats 100000 in
theorem f35_4_60_ok (L N d : Nat) (x2 : Int) (s : gI) {o : gI} (h : f35 N 60 x2 s = some o) : iEE L (d + 3) 35 [vR 4, vR 60, vI x2] (s, g_rho) (none, (o, g_rho)) := by
  refine iEE.of (wr := false) (d := d + 2) (md := gm_35) rfl rfl rfl (iRR.of 3 ?_)
  exact iRT.go 2 (f35_4_60_at2_ok L N d N _ _ _ _ h) (fun _ _ => rfl)
-- GutterNine$LawReader.push
set_option maxHeartbeats 100000 in
theorem f36_4_ok (L N d : Nat) (x1 : Int) (s : gI) {o : gI} (h : f36 N x1 s = some o) : iEE L (d + 1) 36 [vR 4, vI x1] (s, g_rho) (none, (o, g_rho)) := by
  refine iEE.of (wr := false) (d := d + 0) (md := gm_36) rfl rfl rfl (iRR.of 401 ?_)
  refine iRT.ite h (fun h => ?_) (fun h => ?_)
  · cases h
    exact iRT.ret
  · refine iRT.ck h fun h => ?_
    refine iRT.ov h fun h => ?_
    cases h
    exact iRT.ret
-- GutterNine$LawReader.endPart
set_option maxHeartbeats 100000 in
theorem f34_4_60_at7_ok (L N d : Nat) : ∀ (n : Nat) (x2 : Int) (s : gI) (o : gI), f34_at7 N 60 n x2 s = some o → iRR false L (d + 2) kj34 k34_7 [some (vR 4), some (vR 60), some (vI x2)] [] (s, g_rho) (none, (o, g_rho)) := by
  intro n
  induction n with
  | zero => intro _ _ _ h; cases h
  | succ n ih =>
    intro x2 s o h
    refine iRR.of 401 ?_
    refine iRT.ite h (fun h => ?_) (fun h => ?_)
    · cases h
      exact iRT.ret
    · obtain ⟨i2, s1, h1, h⟩ := i_o2_inv h
      refine iRT.call (f38_4_ok L N (d + 0)  _ h1) ?_
      refine iRT.ite h (fun h => ?_) (fun h => ?_)
      · obtain ⟨s3, h1, h⟩ := i_o1_inv h
        refine iRT.call (f23_60_ok L N (d + 1) _ _ h1) ?_
        obtain ⟨s4, h1, h⟩ := i_o1_inv h
        refine iRT.call (f37_4_ok L N (d + 1)  _ h1) ?_
        refine iRT.ov h fun h => ?_
        refine iRT.ov h fun h => ?_
        exact iRT.go 1 (ih _ _ _ h) (fun _ _ => rfl)
      · cases h
        exact iRT.ret
set_option maxHeartbeats 100000 in
theorem f34_4_60_ok (L N d : Nat) (s : gI) {o : gI} (h : f34 N 60  s = some o) : iEE L (d + 3) 34 [vR 4, vR 60] (s, g_rho) (none, (o, g_rho)) := by
  refine iEE.of (wr := false) (d := d + 2) (md := gm_34) rfl rfl rfl (iRR.of 6 ?_)
  replace h := (ib1_inv h).2
  exact iRT.go 5 (f34_4_60_at7_ok L N d N _ _ _ h) (fun _ _ => rfl)
-- GutterNine$LawReader.takeJoin
set_option maxHeartbeats 100000 in
theorem f33_4_60_at109_ok (L N d : Nat) (x2 : Int) {u1 : Option iV} {u3 : Option iV} (s : gI) {o : Int × gI} (h : f33_at109 N 60 x2 s = some o) : iRR false L (d + 3) kj33 k33_109 [some (vR 4), u1, some (vI x2), u3] [] (s, g_rho) (some (vI o.1), (o.2, g_rho)) := by
  refine iRR.of 401 ?_
  obtain ⟨s1, h1, h⟩ := i_o1_inv h
  refine iRT.call (f36_4_ok L N (d + 2) _ _ h1) ?_
  replace h := (ib1_inv h).2
  replace h := (ib1_inv h).2
  cases h
  exact iRT.ret
set_option maxHeartbeats 100000 in
theorem f33_4_60_at84_ok (L N d : Nat) (x2 : Int) (x3 : Int) (z0 : Int) {u1 : Option iV} (s : gI) {o : Int × gI} (h : f33_at84 N 60 x2 x3 z0 s = some o) : iRR false L (d + 3) kj33 k33_84 [some (vR 4), u1, some (vI x2), some (vI x3)] [vI z0, vR 60, vR 4] (s, g_rho) (some (vI o.1), (o.2, g_rho)) := by
  refine iRR.of 401 ?_
  obtain ⟨s1, h1, h⟩ := i_o1_inv h
  refine iRT.call (f35_4_60_ok L N (d + 0) _ _ h1) ?_
  refine iRT.ite h (fun h => ?_) (fun h => ?_)
  · obtain ⟨i3, s2, h1, h⟩ := i_o2_inv h
    refine iRT.call (f38_4_ok L N (d + 1)  _ h1) ?_
    refine iRT.ite h (fun h => ?_) (fun h => ?_)
    · obtain ⟨i5, s4, h1, h⟩ := i_o2_inv h
      refine iRT.call (f104_1_ok L N (d + 2) _ _ h1) ?_
      refine iRT.b1 h fun h => ?_
      cases h
      exact iRT.ret
    · exact iRT.go 0 (f33_4_60_at109_ok L N d _ _ h) (fun _ _ => rfl)
  · exact iRT.go 0 (f33_4_60_at109_ok L N d _ _ h) (fun _ _ => rfl)
set_option maxHeartbeats 100000 in
theorem f33_4_60_at23_ok (L N d : Nat) (x2 : Int) {u3 : Option iV} (s : gI) {o : Int × gI} (h : f33_at23 N 60 x2 s = some o) : iRR false L (d + 3) kj33 k33_23 [some (vR 4), some (vR 60), some (vI x2), u3] [] (s, g_rho) (some (vI o.1), (o.2, g_rho)) := by
  refine iRR.of 401 ?_
  refine iRT.ite h (fun h => ?_) (fun h => ?_)
  · obtain ⟨s3, h1, h⟩ := i_o1_inv h
    refine iRT.call (f35_4_60_ok L N (d + 0) _ _ h1) ?_
    obtain ⟨s4, h1, h⟩ := i_o1_inv h
    refine iRT.call (f37_4_ok L N (d + 2)  _ h1) ?_
    refine iRT.ov h fun h => ?_
    refine iRT.ov h fun h => ?_
    obtain ⟨s7, h1, h⟩ := i_o1_inv h
    refine iRT.call (f34_4_60_ok L N (d + 0)  _ h1) ?_
    replace h := (ib1_inv h).2
    cases h
    exact iRT.ret
  · obtain ⟨i2, s1, h1, h⟩ := i_o2_inv h
    refine iRT.call (f39_ok L N (d + 2) _ _ h1) ?_
    refine iRT.ite h (fun h => ?_) (fun h => ?_)
    · exact iRT.go 2 (f33_4_60_at84_ok L N d _ _ _ _ h) (fun _ _ => rfl)
    · exact iRT.go 1 (f33_4_60_at84_ok L N d _ _ _ _ h) (fun _ _ => rfl)
set_option maxHeartbeats 100000 in
theorem f33_4_60_ok (L N d : Nat) (x2 : Int) (s : gI) {o : Int × gI} (h : f33 N 60 x2 s = some o) : iEE L (d + 4) 33 [vR 4, vR 60, vI x2] (s, g_rho) (some (vI o.1), (o.2, g_rho)) := by
  refine iEE.of (wr := false) (d := d + 3) (md := gm_33) rfl rfl rfl (iRR.of 401 ?_)
  refine iRT.ite h (fun h => ?_) (fun h => ?_)
  · refine iRT.ite h (fun h => ?_) (fun h => ?_)
    · obtain ⟨i2, s1, h1, h⟩ := i_o2_inv h
      refine iRT.call (f104_1_ok L N (d + 2) _ _ h1) ?_
      refine iRT.b1 h fun h => ?_
      cases h
      exact iRT.ret
    · exact iRT.go 0 (f33_4_60_at23_ok L N d _ _ h) (fun _ _ => rfl)
  · exact iRT.go 0 (f33_4_60_at23_ok L N d _ _ h) (fun _ _ => rfl)
-- GutterNine$LawReader.takePart
set_option maxHeartbeats 100000 in
theorem f32_4_60_at58_ok (L N d : Nat) (x2 : Int) (z0 : Int) (z1 : Int) {u1 : Option iV} (s : gI) {o : Int × gI} (h : f32_at58 N 60 x2 z0 z1 s = some o) : iRR false L (d + 3) kj32 k32_58 [some (vR 4), u1, some (vI x2)] [vI z0, vI z1, vR 4] (s, g_rho) (some (vI o.1), (o.2, g_rho)) := by
  refine iRR.of 401 ?_
  refine iRT.ov h fun h => ?_
  obtain ⟨s2, h1, h⟩ := i_o1_inv h
  refine iRT.call (f36_4_ok L N (d + 2) _ _ h1) ?_
  replace h := (ib1_inv h).2
  cases h
  exact iRT.ret
set_option maxHeartbeats 100000 in
theorem f32_4_60_at31_ok (L N d : Nat) (x2 : Int) {u1 : Option iV} (s : gI) {o : Int × gI} (h : f32_at31 N 60 x2 s = some o) : iRR false L (d + 3) kj32 k32_31 [some (vR 4), u1, some (vI x2)] [] (s, g_rho) (some (vI o.1), (o.2, g_rho)) := by
  refine iRR.of 15 ?_
  refine iRT.ov h fun h => ?_
  refine iRT.ite h (fun h => ?_) (fun h => ?_)
  · exact iRT.go 2 (f32_4_60_at58_ok L N d _ _ _ _ h) (fun _ _ => rfl)
  · exact iRT.go 1 (f32_4_60_at58_ok L N d _ _ _ _ h) (fun _ _ => rfl)
set_option maxHeartbeats 100000 in
theorem f32_4_60_ok (L N d : Nat) (x2 : Int) (s : gI) {o : Int × gI} (h : f32 N 60 x2 s = some o) : iEE L (d + 4) 32 [vR 4, vR 60, vI x2] (s, g_rho) (some (vI o.1), (o.2, g_rho)) := by
  refine iEE.of (wr := false) (d := d + 3) (md := gm_32) rfl rfl rfl (iRR.of 401 ?_)
  refine iRT.ite h (fun h => ?_) (fun h => ?_)
  · refine iRT.ite h (fun h => ?_) (fun h => ?_)
    · exact iRT.go 0 (f32_4_60_at31_ok L N d _ _ h) (fun _ _ => rfl)
    · refine iRT.ite h (fun h => ?_) (fun h => ?_)
      · exact iRT.go 0 (f32_4_60_at31_ok L N d _ _ h) (fun _ _ => rfl)
      · obtain ⟨s1, h1, h⟩ := i_o1_inv h
        refine iRT.call (f23_60_ok L N (d + 2) _ _ h1) ?_
        obtain ⟨s2, h1, h⟩ := i_o1_inv h
        refine iRT.call (f34_4_60_ok L N (d + 0)  _ h1) ?_
        replace h := (ib1_inv h).2
        cases h
        exact iRT.ret
  · obtain ⟨i4, s3, h1, h⟩ := i_o2_inv h
    refine iRT.call (f104_1_ok L N (d + 2) _ _ h1) ?_
    refine iRT.b1 h fun h => ?_
    cases h
    exact iRT.ret
-- java/lang/String.coder
set_option maxHeartbeats 100000 in
theorem f304_1016_ok (L N d : Nat) (s : gI) {o : Int × gI} (h : f304 N 1016  s = some o) : iEE L (d + 1) 304 [vR 1016] (s, g_rho) (some (vI o.1), (o.2, g_rho)) := by
  refine iEE.of (wr := false) (d := d + 0) (md := gm_304) rfl rfl rfl (iRR.of 401 ?_)
  replace h := i_h0 (by decide) h
  refine iRT.b1 h fun h => ?_
  cases h
  exact iRT.ret
-- java/lang/String.length
set_option maxHeartbeats 100000 in
theorem f300_1016_ok (L N d : Nat) (s : gI) {o : Int × gI} (h : f300 N 1016 4  s = some o) : iEE L (d + 2) 300 [vR 1016] (s, g_rho) (some (vI o.1), (o.2, g_rho)) := by
  refine iEE.of (wr := false) (d := d + 1) (md := gm_300) rfl rfl rfl (iRR.of 401 ?_)
  replace h := (iov_inv h).2
  obtain ⟨i2, s1, h1, h⟩ := i_o2_inv h
  refine iRT.call (f304_1016_ok L N (d + 0)  _ h1) ?_
  cases h
  exact iRT.ret
-- java/lang/String.isLatin1
set_option maxHeartbeats 100000 in
theorem f305_1016_ok (L N d : Nat) (s : gI) {o : Int × gI} (h : f305 N 1016  s = some o) : iEE L (d + 1) 305 [vR 1016] (s, g_rho) (some (vI o.1), (o.2, g_rho)) := by
  refine iEE.of (wr := false) (d := d + 0) (md := gm_305) rfl rfl rfl (iRR.of 401 ?_)
  replace h := i_h0 (by decide) h
  refine iRT.ite h (fun h => ?_) (fun h => ?_)
  · replace h := (ib1_inv h).2
    cases h
    exact iRT.ret
  · replace h := (ib1_inv h).2
    cases h
    exact iRT.ret
-- java/lang/StringLatin1.charAt
set_option maxHeartbeats 100000 in
theorem f308_1017_ok (L N d : Nat) (x1 : Int) (s : gI) {o : Int × gI} (h : f308 N 1017 4 x1 s = some o) : iEE L (d + 3) 308 [vR 1017, vI x1] (s, g_rho) (some (vI o.1), (o.2, g_rho)) := by
  refine iEE.of (wr := false) (d := d + 2) (md := gm_308) rfl rfl rfl (iRR.of 401 ?_)
  replace h := (iov_inv h).2
  obtain ⟨s1, h1, h⟩ := i_o1_inv h
  refine iRT.call (f306_ok L N (d + 0) _ _ _ h1) ?_
  refine iRT.ck h fun h => ?_
  refine iRT.ch h fun h => ?_
  refine iRT.ch h fun h => ?_
  cases h
  exact iRT.ret
-- java/lang/String.charAt
set_option maxHeartbeats 100000 in
theorem f301_1016_ok (L N d : Nat) (x1 : Int) (s : gI) {o : Int × gI} (h : f301 N 1016 4 x1 s = some o) : iEE L (d + 4) 301 [vR 1016, vI x1] (s, g_rho) (some (vI o.1), (o.2, g_rho)) := by
  refine iEE.of (wr := false) (d := d + 3) (md := gm_301) rfl rfl rfl (iRR.of 401 ?_)
  obtain ⟨i2, s1, h1, h⟩ := i_o2_inv h
  refine iRT.call (f305_1016_ok L N (d + 2)  _ h1) ?_
  refine iRT.ite h (fun h => ?_) (fun h => ?_)
  · cases h
  · obtain ⟨i4, s3, h1, h⟩ := i_o2_inv h
    refine iRT.call (f308_1017_ok L N (d + 0) _ _ h1) ?_
    refine iRT.ch h fun h => ?_
    cases h
    exact iRT.ret
-- GutterNine$Tape.isWord
set_option maxHeartbeats 100000 in
theorem f101_1_1016_at31_ok (L N d : Nat) : ∀ (n : Nat) (x2 : Int) (s : gI) (o : Int × gI), f101_at31 N 1016 4 n x2 s = some o → iRR false L (d + 4) kj101 k101_31 [some (vR 1), some (vR 1016), some (vI x2)] [] (s, g_rho) (some (vI o.1), (o.2, g_rho)) := by
  intro n
  induction n with
  | zero => intro _ _ _ h; cases h
  | succ n ih =>
    intro x2 s o h
    refine iRR.of 401 ?_
    refine iRT.ite h (fun h => ?_) (fun h => ?_)
    · replace h := (ib1_inv h).2
      cases h
      exact iRT.ret
    · refine iRT.ck h fun h => ?_
      refine iRT.ov h fun h => ?_
      obtain ⟨i2, s1, h1, h⟩ := i_o2_inv h
      refine iRT.call (f301_1016_ok L N (d + 0) _ _ h1) ?_
      refine iRT.ite h (fun h => ?_) (fun h => ?_)
      · refine iRT.ov h fun h => ?_
        exact iRT.go 1 (ih _ _ _ h) (fun _ _ => rfl)
      · replace h := (ib1_inv h).2
        cases h
        exact iRT.ret
set_option maxHeartbeats 100000 in
theorem f101_1_1016_ok (L N d : Nat) (s : gI) {o : Int × gI} (h : f101 N 1016 4  s = some o) : iEE L (d + 5) 101 [vR 1, vR 1016] (s, g_rho) (some (vI o.1), (o.2, g_rho)) := by
  refine iEE.of (wr := false) (d := d + 4) (md := gm_101) rfl rfl rfl (iRR.of 401 ?_)
  refine iRT.ite h (fun h => ?_) (fun h => ?_)
  · refine iRT.ov h fun h => ?_
    obtain ⟨i2, s1, h1, h⟩ := i_o2_inv h
    refine iRT.call (f300_1016_ok L N (d + 2)  _ h1) ?_
    refine iRT.ite h (fun h => ?_) (fun h => ?_)
    · exact iRT.go 3 (f101_1_1016_at31_ok L N d N _ _ _ h) (fun _ _ => rfl)
    · replace h := (ib1_inv h).2
      cases h
      exact iRT.ret
  · replace h := (ib1_inv h).2
    cases h
    exact iRT.ret
-- java/lang/String.coder
set_option maxHeartbeats 100000 in
theorem f304_1018_ok (L N d : Nat) (s : gI) {o : Int × gI} (h : f304 N 1018  s = some o) : iEE L (d + 1) 304 [vR 1018] (s, g_rho) (some (vI o.1), (o.2, g_rho)) := by
  refine iEE.of (wr := false) (d := d + 0) (md := gm_304) rfl rfl rfl (iRR.of 401 ?_)
  replace h := i_h0 (by decide) h
  refine iRT.b1 h fun h => ?_
  cases h
  exact iRT.ret
-- java/lang/String.length
set_option maxHeartbeats 100000 in
theorem f300_1018_ok (L N d : Nat) (s : gI) {o : Int × gI} (h : f300 N 1018 5  s = some o) : iEE L (d + 2) 300 [vR 1018] (s, g_rho) (some (vI o.1), (o.2, g_rho)) := by
  refine iEE.of (wr := false) (d := d + 1) (md := gm_300) rfl rfl rfl (iRR.of 401 ?_)
  replace h := (iov_inv h).2
  obtain ⟨i2, s1, h1, h⟩ := i_o2_inv h
  refine iRT.call (f304_1018_ok L N (d + 0)  _ h1) ?_
  cases h
  exact iRT.ret
-- java/lang/String.isLatin1
set_option maxHeartbeats 100000 in
theorem f305_1018_ok (L N d : Nat) (s : gI) {o : Int × gI} (h : f305 N 1018  s = some o) : iEE L (d + 1) 305 [vR 1018] (s, g_rho) (some (vI o.1), (o.2, g_rho)) := by
  refine iEE.of (wr := false) (d := d + 0) (md := gm_305) rfl rfl rfl (iRR.of 401 ?_)
  replace h := i_h0 (by decide) h
  refine iRT.ite h (fun h => ?_) (fun h => ?_)
  · replace h := (ib1_inv h).2
    cases h
    exact iRT.ret
  · replace h := (ib1_inv h).2
    cases h
    exact iRT.ret
-- java/lang/StringLatin1.charAt
set_option maxHeartbeats 100000 in
theorem f308_1019_ok (L N d : Nat) (x1 : Int) (s : gI) {o : Int × gI} (h : f308 N 1019 5 x1 s = some o) : iEE L (d + 3) 308 [vR 1019, vI x1] (s, g_rho) (some (vI o.1), (o.2, g_rho)) := by
  refine iEE.of (wr := false) (d := d + 2) (md := gm_308) rfl rfl rfl (iRR.of 401 ?_)
  replace h := (iov_inv h).2
  obtain ⟨s1, h1, h⟩ := i_o1_inv h
  refine iRT.call (f306_ok L N (d + 0) _ _ _ h1) ?_
  refine iRT.ck h fun h => ?_
  refine iRT.ch h fun h => ?_
  refine iRT.ch h fun h => ?_
  cases h
  exact iRT.ret
-- java/lang/String.charAt
set_option maxHeartbeats 100000 in
theorem f301_1018_ok (L N d : Nat) (x1 : Int) (s : gI) {o : Int × gI} (h : f301 N 1018 5 x1 s = some o) : iEE L (d + 4) 301 [vR 1018, vI x1] (s, g_rho) (some (vI o.1), (o.2, g_rho)) := by
  refine iEE.of (wr := false) (d := d + 3) (md := gm_301) rfl rfl rfl (iRR.of 401 ?_)
  obtain ⟨i2, s1, h1, h⟩ := i_o2_inv h
  refine iRT.call (f305_1018_ok L N (d + 2)  _ h1) ?_
  refine iRT.ite h (fun h => ?_) (fun h => ?_)
  · cases h
  · obtain ⟨i4, s3, h1, h⟩ := i_o2_inv h
    refine iRT.call (f308_1019_ok L N (d + 0) _ _ h1) ?_
    refine iRT.ch h fun h => ?_
    cases h
    exact iRT.ret
-- GutterNine$Tape.isWord
set_option maxHeartbeats 100000 in
theorem f101_1_1018_at31_ok (L N d : Nat) : ∀ (n : Nat) (x2 : Int) (s : gI) (o : Int × gI), f101_at31 N 1018 5 n x2 s = some o → iRR false L (d + 4) kj101 k101_31 [some (vR 1), some (vR 1018), some (vI x2)] [] (s, g_rho) (some (vI o.1), (o.2, g_rho)) := by
  intro n
  induction n with
  | zero => intro _ _ _ h; cases h
  | succ n ih =>
    intro x2 s o h
    refine iRR.of 401 ?_
    refine iRT.ite h (fun h => ?_) (fun h => ?_)
    · replace h := (ib1_inv h).2
      cases h
      exact iRT.ret
    · refine iRT.ck h fun h => ?_
      refine iRT.ov h fun h => ?_
      obtain ⟨i2, s1, h1, h⟩ := i_o2_inv h
      refine iRT.call (f301_1018_ok L N (d + 0) _ _ h1) ?_
      refine iRT.ite h (fun h => ?_) (fun h => ?_)
      · refine iRT.ov h fun h => ?_
        exact iRT.go 1 (ih _ _ _ h) (fun _ _ => rfl)
      · replace h := (ib1_inv h).2
        cases h
        exact iRT.ret
set_option maxHeartbeats 100000 in
theorem f101_1_1018_ok (L N d : Nat) (s : gI) {o : Int × gI} (h : f101 N 1018 5  s = some o) : iEE L (d + 5) 101 [vR 1, vR 1018] (s, g_rho) (some (vI o.1), (o.2, g_rho)) := by
  refine iEE.of (wr := false) (d := d + 4) (md := gm_101) rfl rfl rfl (iRR.of 401 ?_)
  refine iRT.ite h (fun h => ?_) (fun h => ?_)
  · refine iRT.ov h fun h => ?_
    obtain ⟨i2, s1, h1, h⟩ := i_o2_inv h
    refine iRT.call (f300_1018_ok L N (d + 2)  _ h1) ?_
    refine iRT.ite h (fun h => ?_) (fun h => ?_)
    · exact iRT.go 3 (f101_1_1018_at31_ok L N d N _ _ _ h) (fun _ _ => rfl)
    · replace h := (ib1_inv h).2
      cases h
      exact iRT.ret
  · replace h := (ib1_inv h).2
    cases h
    exact iRT.ret
-- java/lang/String.coder
set_option maxHeartbeats 100000 in
theorem f304_1020_ok (L N d : Nat) (s : gI) {o : Int × gI} (h : f304 N 1020  s = some o) : iEE L (d + 1) 304 [vR 1020] (s, g_rho) (some (vI o.1), (o.2, g_rho)) := by
  refine iEE.of (wr := false) (d := d + 0) (md := gm_304) rfl rfl rfl (iRR.of 401 ?_)
  replace h := i_h0 (by decide) h
  refine iRT.b1 h fun h => ?_
  cases h
  exact iRT.ret
-- java/lang/String.length
set_option maxHeartbeats 100000 in
theorem f300_1020_ok (L N d : Nat) (s : gI) {o : Int × gI} (h : f300 N 1020 4  s = some o) : iEE L (d + 2) 300 [vR 1020] (s, g_rho) (some (vI o.1), (o.2, g_rho)) := by
  refine iEE.of (wr := false) (d := d + 1) (md := gm_300) rfl rfl rfl (iRR.of 401 ?_)
  replace h := (iov_inv h).2
  obtain ⟨i2, s1, h1, h⟩ := i_o2_inv h
  refine iRT.call (f304_1020_ok L N (d + 0)  _ h1) ?_
  cases h
  exact iRT.ret
-- java/lang/String.isLatin1
set_option maxHeartbeats 100000 in
theorem f305_1020_ok (L N d : Nat) (s : gI) {o : Int × gI} (h : f305 N 1020  s = some o) : iEE L (d + 1) 305 [vR 1020] (s, g_rho) (some (vI o.1), (o.2, g_rho)) := by
  refine iEE.of (wr := false) (d := d + 0) (md := gm_305) rfl rfl rfl (iRR.of 401 ?_)
  replace h := i_h0 (by decide) h
  refine iRT.ite h (fun h => ?_) (fun h => ?_)
  · replace h := (ib1_inv h).2
    cases h
    exact iRT.ret
  · replace h := (ib1_inv h).2
    cases h
    exact iRT.ret
-- java/lang/StringLatin1.charAt
set_option maxHeartbeats 100000 in
theorem f308_1021_ok (L N d : Nat) (x1 : Int) (s : gI) {o : Int × gI} (h : f308 N 1021 4 x1 s = some o) : iEE L (d + 3) 308 [vR 1021, vI x1] (s, g_rho) (some (vI o.1), (o.2, g_rho)) := by
  refine iEE.of (wr := false) (d := d + 2) (md := gm_308) rfl rfl rfl (iRR.of 401 ?_)
  replace h := (iov_inv h).2
  obtain ⟨s1, h1, h⟩ := i_o1_inv h
  refine iRT.call (f306_ok L N (d + 0) _ _ _ h1) ?_
  refine iRT.ck h fun h => ?_
  refine iRT.ch h fun h => ?_
  refine iRT.ch h fun h => ?_
  cases h
  exact iRT.ret
-- java/lang/String.charAt
set_option maxHeartbeats 100000 in
theorem f301_1020_ok (L N d : Nat) (x1 : Int) (s : gI) {o : Int × gI} (h : f301 N 1020 4 x1 s = some o) : iEE L (d + 4) 301 [vR 1020, vI x1] (s, g_rho) (some (vI o.1), (o.2, g_rho)) := by
  refine iEE.of (wr := false) (d := d + 3) (md := gm_301) rfl rfl rfl (iRR.of 401 ?_)
  obtain ⟨i2, s1, h1, h⟩ := i_o2_inv h
  refine iRT.call (f305_1020_ok L N (d + 2)  _ h1) ?_
  refine iRT.ite h (fun h => ?_) (fun h => ?_)
  · cases h
  · obtain ⟨i4, s3, h1, h⟩ := i_o2_inv h
    refine iRT.call (f308_1021_ok L N (d + 0) _ _ h1) ?_
    refine iRT.ch h fun h => ?_
    cases h
    exact iRT.ret
-- GutterNine$Tape.isWord
set_option maxHeartbeats 100000 in
theorem f101_1_1020_at31_ok (L N d : Nat) : ∀ (n : Nat) (x2 : Int) (s : gI) (o : Int × gI), f101_at31 N 1020 4 n x2 s = some o → iRR false L (d + 4) kj101 k101_31 [some (vR 1), some (vR 1020), some (vI x2)] [] (s, g_rho) (some (vI o.1), (o.2, g_rho)) := by
  intro n
  induction n with
  | zero => intro _ _ _ h; cases h
  | succ n ih =>
    intro x2 s o h
    refine iRR.of 401 ?_
    refine iRT.ite h (fun h => ?_) (fun h => ?_)
    · replace h := (ib1_inv h).2
      cases h
      exact iRT.ret
    · refine iRT.ck h fun h => ?_
      refine iRT.ov h fun h => ?_
      obtain ⟨i2, s1, h1, h⟩ := i_o2_inv h
      refine iRT.call (f301_1020_ok L N (d + 0) _ _ h1) ?_
      refine iRT.ite h (fun h => ?_) (fun h => ?_)
      · refine iRT.ov h fun h => ?_
        exact iRT.go 1 (ih _ _ _ h) (fun _ _ => rfl)
      · replace h := (ib1_inv h).2
        cases h
        exact iRT.ret
set_option maxHeartbeats 100000 in
theorem f101_1_1020_ok (L N d : Nat) (s : gI) {o : Int × gI} (h : f101 N 1020 4  s = some o) : iEE L (d + 5) 101 [vR 1, vR 1020] (s, g_rho) (some (vI o.1), (o.2, g_rho)) := by
  refine iEE.of (wr := false) (d := d + 4) (md := gm_101) rfl rfl rfl (iRR.of 401 ?_)
  refine iRT.ite h (fun h => ?_) (fun h => ?_)
  · refine iRT.ov h fun h => ?_
    obtain ⟨i2, s1, h1, h⟩ := i_o2_inv h
    refine iRT.call (f300_1020_ok L N (d + 2)  _ h1) ?_
    refine iRT.ite h (fun h => ?_) (fun h => ?_)
    · exact iRT.go 3 (f101_1_1020_at31_ok L N d N _ _ _ h) (fun _ _ => rfl)
    · replace h := (ib1_inv h).2
      cases h
      exact iRT.ret
  · replace h := (ib1_inv h).2
    cases h
    exact iRT.ret
-- java/lang/String.coder
set_option maxHeartbeats 100000 in
theorem f304_1022_ok (L N d : Nat) (s : gI) {o : Int × gI} (h : f304 N 1022  s = some o) : iEE L (d + 1) 304 [vR 1022] (s, g_rho) (some (vI o.1), (o.2, g_rho)) := by
  refine iEE.of (wr := false) (d := d + 0) (md := gm_304) rfl rfl rfl (iRR.of 401 ?_)
  replace h := i_h0 (by decide) h
  refine iRT.b1 h fun h => ?_
  cases h
  exact iRT.ret
-- java/lang/String.length
set_option maxHeartbeats 100000 in
theorem f300_1022_ok (L N d : Nat) (s : gI) {o : Int × gI} (h : f300 N 1022 3  s = some o) : iEE L (d + 2) 300 [vR 1022] (s, g_rho) (some (vI o.1), (o.2, g_rho)) := by
  refine iEE.of (wr := false) (d := d + 1) (md := gm_300) rfl rfl rfl (iRR.of 401 ?_)
  replace h := (iov_inv h).2
  obtain ⟨i2, s1, h1, h⟩ := i_o2_inv h
  refine iRT.call (f304_1022_ok L N (d + 0)  _ h1) ?_
  cases h
  exact iRT.ret
-- java/lang/String.isLatin1
set_option maxHeartbeats 100000 in
theorem f305_1022_ok (L N d : Nat) (s : gI) {o : Int × gI} (h : f305 N 1022  s = some o) : iEE L (d + 1) 305 [vR 1022] (s, g_rho) (some (vI o.1), (o.2, g_rho)) := by
  refine iEE.of (wr := false) (d := d + 0) (md := gm_305) rfl rfl rfl (iRR.of 401 ?_)
  replace h := i_h0 (by decide) h
  refine iRT.ite h (fun h => ?_) (fun h => ?_)
  · replace h := (ib1_inv h).2
    cases h
    exact iRT.ret
  · replace h := (ib1_inv h).2
    cases h
    exact iRT.ret
-- java/lang/StringLatin1.charAt
set_option maxHeartbeats 100000 in
theorem f308_1023_ok (L N d : Nat) (x1 : Int) (s : gI) {o : Int × gI} (h : f308 N 1023 3 x1 s = some o) : iEE L (d + 3) 308 [vR 1023, vI x1] (s, g_rho) (some (vI o.1), (o.2, g_rho)) := by
  refine iEE.of (wr := false) (d := d + 2) (md := gm_308) rfl rfl rfl (iRR.of 401 ?_)
  replace h := (iov_inv h).2
  obtain ⟨s1, h1, h⟩ := i_o1_inv h
  refine iRT.call (f306_ok L N (d + 0) _ _ _ h1) ?_
  refine iRT.ck h fun h => ?_
  refine iRT.ch h fun h => ?_
  refine iRT.ch h fun h => ?_
  cases h
  exact iRT.ret
-- java/lang/String.charAt
set_option maxHeartbeats 100000 in
theorem f301_1022_ok (L N d : Nat) (x1 : Int) (s : gI) {o : Int × gI} (h : f301 N 1022 3 x1 s = some o) : iEE L (d + 4) 301 [vR 1022, vI x1] (s, g_rho) (some (vI o.1), (o.2, g_rho)) := by
  refine iEE.of (wr := false) (d := d + 3) (md := gm_301) rfl rfl rfl (iRR.of 401 ?_)
  obtain ⟨i2, s1, h1, h⟩ := i_o2_inv h
  refine iRT.call (f305_1022_ok L N (d + 2)  _ h1) ?_
  refine iRT.ite h (fun h => ?_) (fun h => ?_)
  · cases h
  · obtain ⟨i4, s3, h1, h⟩ := i_o2_inv h
    refine iRT.call (f308_1023_ok L N (d + 0) _ _ h1) ?_
    refine iRT.ch h fun h => ?_
    cases h
    exact iRT.ret
-- GutterNine$Tape.isWord
set_option maxHeartbeats 100000 in
theorem f101_1_1022_at31_ok (L N d : Nat) : ∀ (n : Nat) (x2 : Int) (s : gI) (o : Int × gI), f101_at31 N 1022 3 n x2 s = some o → iRR false L (d + 4) kj101 k101_31 [some (vR 1), some (vR 1022), some (vI x2)] [] (s, g_rho) (some (vI o.1), (o.2, g_rho)) := by
  intro n
  induction n with
  | zero => intro _ _ _ h; cases h
  | succ n ih =>
    intro x2 s o h
    refine iRR.of 401 ?_
    refine iRT.ite h (fun h => ?_) (fun h => ?_)
    · replace h := (ib1_inv h).2
      cases h
      exact iRT.ret
    · refine iRT.ck h fun h => ?_
      refine iRT.ov h fun h => ?_
      obtain ⟨i2, s1, h1, h⟩ := i_o2_inv h
      refine iRT.call (f301_1022_ok L N (d + 0) _ _ h1) ?_
      refine iRT.ite h (fun h => ?_) (fun h => ?_)
      · refine iRT.ov h fun h => ?_
        exact iRT.go 1 (ih _ _ _ h) (fun _ _ => rfl)
      · replace h := (ib1_inv h).2
        cases h
        exact iRT.ret
set_option maxHeartbeats 100000 in
theorem f101_1_1022_ok (L N d : Nat) (s : gI) {o : Int × gI} (h : f101 N 1022 3  s = some o) : iEE L (d + 5) 101 [vR 1, vR 1022] (s, g_rho) (some (vI o.1), (o.2, g_rho)) := by
  refine iEE.of (wr := false) (d := d + 4) (md := gm_101) rfl rfl rfl (iRR.of 401 ?_)
  refine iRT.ite h (fun h => ?_) (fun h => ?_)
  · refine iRT.ov h fun h => ?_
    obtain ⟨i2, s1, h1, h⟩ := i_o2_inv h
    refine iRT.call (f300_1022_ok L N (d + 2)  _ h1) ?_
    refine iRT.ite h (fun h => ?_) (fun h => ?_)
    · exact iRT.go 3 (f101_1_1022_at31_ok L N d N _ _ _ h) (fun _ _ => rfl)
    · replace h := (ib1_inv h).2
      cases h
      exact iRT.ret
  · replace h := (ib1_inv h).2
    cases h
    exact iRT.ret
-- GutterNine$LawReader.partCode
set_option maxHeartbeats 100000 in
theorem f30_4_ok (L N d : Nat) (s : gI) {o : Int × gI} (h : f30 N  s = some o) : iEE L (d + 6) 30 [vR 4] (s, g_rho) (some (vI o.1), (o.2, g_rho)) := by
  refine iEE.of (wr := false) (d := d + 5) (md := gm_30) rfl rfl rfl (iRR.of 401 ?_)
  refine iRT.ite h (fun h => ?_) (fun h => ?_)
  · cases h
    exact iRT.ret
  · obtain ⟨i2, s1, h1, h⟩ := i_o2_inv h
    refine iRT.call (f101_1_1016_ok L N (d + 0)  _ h1) ?_
    refine iRT.ite h (fun h => ?_) (fun h => ?_)
    · obtain ⟨i4, s3, h1, h⟩ := i_o2_inv h
      refine iRT.call (f101_1_1018_ok L N (d + 0)  _ h1) ?_
      refine iRT.ite h (fun h => ?_) (fun h => ?_)
      · obtain ⟨i6, s5, h1, h⟩ := i_o2_inv h
        refine iRT.call (f101_1_1020_ok L N (d + 0)  _ h1) ?_
        refine iRT.ite h (fun h => ?_) (fun h => ?_)
        · obtain ⟨i8, s7, h1, h⟩ := i_o2_inv h
          refine iRT.call (f101_1_1022_ok L N (d + 0)  _ h1) ?_
          refine iRT.ite h (fun h => ?_) (fun h => ?_)
          · obtain ⟨i10, s9, h1, h⟩ := i_o2_inv h
            refine iRT.call (f100_1_ok L N (d + 4) _ _ h1) ?_
            refine iRT.ite h (fun h => ?_) (fun h => ?_)
            · cases h
              exact iRT.ret
            · cases h
              exact iRT.ret
          · cases h
            exact iRT.ret
        · cases h
          exact iRT.ret
      · cases h
        exact iRT.ret
    · cases h
      exact iRT.ret
-- GutterNine$LawReader.read
set_option maxHeartbeats 100000 in
theorem f29_4_60_at115_ok (L N d : Nat) {r_at26 : Int → gI → Option (Int × gI)} (h_at26 : ∀ x2 u3 u4 s o, r_at26 x2 s = some o → iRR false L (d + 6) kj29 k29_26 [some (vR 4), some (vR 60), some (vI x2), u3, u4] [] (s, g_rho) (some (vI o.1), (o.2, g_rho))) (x2 : Int) (z0 : Int) {u3 : Option iV} {u4 : Option iV} (s : gI) {o : Int × gI} (h : f29_at115 N 60 r_at26 x2 z0 s = some o) : iRR false L (d + 6) kj29 k29_115 [some (vR 4), some (vR 60), some (vI x2), u3, u4] [vI z0] (s, g_rho) (some (vI o.1), (o.2, g_rho)) := by
  refine iRR.of 401 ?_
  refine iRT.ite h (fun h => ?_) (fun h => ?_)
  · replace h := (ib1_inv h).2
    cases h
    exact iRT.ret
  · obtain ⟨s1, h1, h⟩ := i_o1_inv h
    refine iRT.call (f97_1_ok L N (d + 1)  _ h1) ?_
    refine iRT.ov h fun h => ?_
    exact iRT.go 1 (h_at26 _ _ _ _ _ h) (fun _ _ => rfl)
set_option maxHeartbeats 100000 in
theorem f29_4_60_at79_ok (L N d : Nat) {r_at26 : Int → gI → Option (Int × gI)} (h_at26 : ∀ x2 u3 u4 s o, r_at26 x2 s = some o → iRR false L (d + 6) kj29 k29_26 [some (vR 4), some (vR 60), some (vI x2), u3, u4] [] (s, g_rho) (some (vI o.1), (o.2, g_rho))) (x2 : Int) (x3 : Int) {u4 : Option iV} (s : gI) {o : Int × gI} (h : f29_at79 N 60 r_at26 x2 x3 s = some o) : iRR false L (d + 6) kj29 k29_79 [some (vR 4), some (vR 60), some (vI x2), some (vI x3), u4] [] (s, g_rho) (some (vI o.1), (o.2, g_rho)) := by
  refine iRR.of 401 ?_
  refine iRT.ite h (fun h => ?_) (fun h => ?_)
  · obtain ⟨i6, s5, h1, h⟩ := i_o2_inv h
    refine iRT.call (f104_1_ok L N (d + 5) _ _ h1) ?_
    refine iRT.b1 h fun h => ?_
    cases h
    exact iRT.ret
  · refine iRT.ite h (fun h => ?_) (fun h => ?_)
    · obtain ⟨i2, s1, h1, h⟩ := i_o2_inv h
      refine iRT.call (f33_4_60_ok L N (d + 2) _ _ h1) ?_
      exact iRT.go 0 (f29_4_60_at115_ok L N d h_at26 _ _ _ h) (fun _ _ => rfl)
    · obtain ⟨i4, s3, h1, h⟩ := i_o2_inv h
      refine iRT.call (f32_4_60_ok L N (d + 2) _ _ h1) ?_
      exact iRT.go 1 (f29_4_60_at115_ok L N d h_at26 _ _ _ h) (fun _ _ => rfl)
set_option maxHeartbeats 100000 in
theorem f29_4_60_at51_ok (L N d : Nat) {r_at26 : Int → gI → Option (Int × gI)} (h_at26 : ∀ x2 u3 u4 s o, r_at26 x2 s = some o → iRR false L (d + 6) kj29 k29_26 [some (vR 4), some (vR 60), some (vI x2), u3, u4] [] (s, g_rho) (some (vI o.1), (o.2, g_rho))) (x2 : Int) (z0 : Int) {u3 : Option iV} {u4 : Option iV} (s : gI) {o : Int × gI} (h : f29_at51 N 60 r_at26 x2 z0 s = some o) : iRR false L (d + 6) kj29 k29_51 [some (vR 4), some (vR 60), some (vI x2), u3, u4] [vI z0] (s, g_rho) (some (vI o.1), (o.2, g_rho)) := by
  refine iRR.of 401 ?_
  refine iRT.ite h (fun h => ?_) (fun h => ?_)
  · refine iRT.ite h (fun h => ?_) (fun h => ?_)
    · refine iRT.ite h (fun h => ?_) (fun h => ?_)
      · obtain ⟨s1, h1, h⟩ := i_o1_inv h
        refine iRT.call (f35_4_60_ok L N (d + 3) _ _ h1) ?_
        replace h := (ib1_inv h).2
        cases h
        exact iRT.ret
      · exact iRT.go 0 (f29_4_60_at79_ok L N d h_at26 _ _ _ h) (fun _ _ => rfl)
    · exact iRT.go 0 (f29_4_60_at79_ok L N d h_at26 _ _ _ h) (fun _ _ => rfl)
  · exact iRT.go 0 (f29_4_60_at79_ok L N d h_at26 _ _ _ h) (fun _ _ => rfl)
set_option maxHeartbeats 100000 in
theorem f29_4_60_at26_ok (L N d : Nat) : ∀ (n : Nat) (x2 : Int) {u3 u4 : Option iV} (s : gI) (o : Int × gI), f29_at26 N 60 n x2 s = some o → iRR false L (d + 6) kj29 k29_26 [some (vR 4), some (vR 60), some (vI x2), u3, u4] [] (s, g_rho) (some (vI o.1), (o.2, g_rho)) := by
  intro n
  induction n with
  | zero => intro _ _ _ _ _ h; cases h
  | succ n ih =>
    intro x2 u3 u4 s o h
    refine iRR.of 401 ?_
    refine iRT.ite h (fun h => ?_) (fun h => ?_)
    · obtain ⟨i2, s1, h1, h⟩ := i_o2_inv h
      refine iRT.call (f104_1_ok L N (d + 5) _ _ h1) ?_
      refine iRT.b1 h fun h => ?_
      cases h
      exact iRT.ret
    · refine iRT.ite h (fun h => ?_) (fun h => ?_)
      · obtain ⟨i4, s3, h1, h⟩ := i_o2_inv h
        refine iRT.call (f31_4_ok L N (d + 0)  _ h1) ?_
        exact iRT.go 0 (f29_4_60_at51_ok L N d (fun a0 b0 b1 s o h => ih a0 s o h) _ _ _ h) (fun _ _ => rfl)
      · obtain ⟨i6, s5, h1, h⟩ := i_o2_inv h
        refine iRT.call (f30_4_ok L N (d + 0)  _ h1) ?_
        exact iRT.go 1 (f29_4_60_at51_ok L N d (fun a0 b0 b1 s o h => ih a0 s o h) _ _ _ h) (fun _ _ => rfl)
set_option maxHeartbeats 100000 in
theorem f29_4_60_ok (L N d : Nat) (s : gI) {o : Int × gI} (h : f29 N 60  s = some o) : iEE L (d + 7) 29 [vR 4, vR 60] (s, g_rho) (some (vI o.1), (o.2, g_rho)) := by
  refine iEE.of (wr := false) (d := d + 6) (md := gm_29) rfl rfl rfl (iRR.of 17 ?_)
  obtain ⟨s1, h1, h⟩ := i_o1_inv h
  refine iRT.call (f22_60_ok L N (d + 5)  _ h1) ?_
  replace h := (ib1_inv h).2
  exact iRT.go 14 (f29_4_60_at26_ok L N d N _ _ _ h) (fun _ _ => rfl)
-- GutterNine$Law.clear
set_option maxHeartbeats 100000 in
theorem f22_57_ok (L N d : Nat) (s : gI) {o : gI} (h : f22 N 57  s = some o) : iEE L (d + 1) 22 [vR 57] (s, g_rho) (none, (o, g_rho)) := by
  refine iEE.of (wr := false) (d := d + 0) (md := gm_22) rfl rfl rfl (iRR.of 401 ?_)
  cases h
  exact iRT.ret
-- GutterNine$LawReader.release
set_option maxHeartbeats 100000 in
theorem f35_4_57_at2_ok (L N d : Nat) : ∀ (n : Nat) (x2 : Int) (x3 : Int) (s : gI) (o : gI), f35_at2 N 57 n x2 x3 s = some o → iRR false L (d + 2) kj35 k35_2 [some (vR 4), some (vR 57), some (vI x2), some (vI x3)] [] (s, g_rho) (none, (o, g_rho)) := by
  intro n
  induction n with
  | zero => intro _ _ _ _ h; cases h
  | succ n ih =>
    intro x2 x3 s o h
    refine iRR.of 401 ?_
    refine iRT.ite h (fun h => ?_) (fun h => ?_)
    · cases h
      exact iRT.ret
    · obtain ⟨i2, s1, h1, h⟩ := i_o2_inv h
      refine iRT.call (f38_4_ok L N (d + 0)  _ h1) ?_
      refine iRT.ite h (fun h => ?_) (fun h => ?_)
      · cases h
        exact iRT.ret
      · refine iRT.ov h fun h => ?_
        refine iRT.ck h fun h => ?_
        obtain ⟨s3, h1, h⟩ := i_o1_inv h
        refine iRT.call (f23_57_ok L N (d + 1) _ _ h1) ?_
        obtain ⟨s4, h1, h⟩ := i_o1_inv h
        refine iRT.call (f37_4_ok L N (d + 1)  _ h1) ?_
        refine iRT.ov h fun h => ?_
        exact iRT.go 1 (ih _ _ _ _ h) (fun _ _ => rfl)
set_option maxHeartbeats 100000 in
theorem f35_4_57_ok (L N d : Nat) (x2 : Int) (s : gI) {o : gI} (h : f35 N 57 x2 s = some o) : iEE L (d + 3) 35 [vR 4, vR 57, vI x2] (s, g_rho) (none, (o, g_rho)) := by
  refine iEE.of (wr := false) (d := d + 2) (md := gm_35) rfl rfl rfl (iRR.of 3 ?_)
  exact iRT.go 2 (f35_4_57_at2_ok L N d N _ _ _ _ h) (fun _ _ => rfl)
-- GutterNine$LawReader.endPart
set_option maxHeartbeats 100000 in
theorem f34_4_57_at7_ok (L N d : Nat) : ∀ (n : Nat) (x2 : Int) (s : gI) (o : gI), f34_at7 N 57 n x2 s = some o → iRR false L (d + 2) kj34 k34_7 [some (vR 4), some (vR 57), some (vI x2)] [] (s, g_rho) (none, (o, g_rho)) := by
  intro n
  induction n with
  | zero => intro _ _ _ h; cases h
  | succ n ih =>
    intro x2 s o h
    refine iRR.of 401 ?_
    refine iRT.ite h (fun h => ?_) (fun h => ?_)
    · cases h
      exact iRT.ret
    · obtain ⟨i2, s1, h1, h⟩ := i_o2_inv h
      refine iRT.call (f38_4_ok L N (d + 0)  _ h1) ?_
      refine iRT.ite h (fun h => ?_) (fun h => ?_)
      · obtain ⟨s3, h1, h⟩ := i_o1_inv h
        refine iRT.call (f23_57_ok L N (d + 1) _ _ h1) ?_
        obtain ⟨s4, h1, h⟩ := i_o1_inv h
        refine iRT.call (f37_4_ok L N (d + 1)  _ h1) ?_
        refine iRT.ov h fun h => ?_
        refine iRT.ov h fun h => ?_
        exact iRT.go 1 (ih _ _ _ h) (fun _ _ => rfl)
      · cases h
        exact iRT.ret
set_option maxHeartbeats 100000 in
theorem f34_4_57_ok (L N d : Nat) (s : gI) {o : gI} (h : f34 N 57  s = some o) : iEE L (d + 3) 34 [vR 4, vR 57] (s, g_rho) (none, (o, g_rho)) := by
  refine iEE.of (wr := false) (d := d + 2) (md := gm_34) rfl rfl rfl (iRR.of 6 ?_)
  replace h := (ib1_inv h).2
  exact iRT.go 5 (f34_4_57_at7_ok L N d N _ _ _ h) (fun _ _ => rfl)
-- GutterNine$LawReader.takeJoin
set_option maxHeartbeats 100000 in
theorem f33_4_57_at109_ok (L N d : Nat) (x2 : Int) {u1 : Option iV} {u3 : Option iV} (s : gI) {o : Int × gI} (h : f33_at109 N 57 x2 s = some o) : iRR false L (d + 3) kj33 k33_109 [some (vR 4), u1, some (vI x2), u3] [] (s, g_rho) (some (vI o.1), (o.2, g_rho)) := by
  refine iRR.of 401 ?_
  obtain ⟨s1, h1, h⟩ := i_o1_inv h
  refine iRT.call (f36_4_ok L N (d + 2) _ _ h1) ?_
  replace h := (ib1_inv h).2
  replace h := (ib1_inv h).2
  cases h
  exact iRT.ret
set_option maxHeartbeats 100000 in
theorem f33_4_57_at84_ok (L N d : Nat) (x2 : Int) (x3 : Int) (z0 : Int) {u1 : Option iV} (s : gI) {o : Int × gI} (h : f33_at84 N 57 x2 x3 z0 s = some o) : iRR false L (d + 3) kj33 k33_84 [some (vR 4), u1, some (vI x2), some (vI x3)] [vI z0, vR 57, vR 4] (s, g_rho) (some (vI o.1), (o.2, g_rho)) := by
  refine iRR.of 401 ?_
  obtain ⟨s1, h1, h⟩ := i_o1_inv h
  refine iRT.call (f35_4_57_ok L N (d + 0) _ _ h1) ?_
  refine iRT.ite h (fun h => ?_) (fun h => ?_)
  · obtain ⟨i3, s2, h1, h⟩ := i_o2_inv h
    refine iRT.call (f38_4_ok L N (d + 1)  _ h1) ?_
    refine iRT.ite h (fun h => ?_) (fun h => ?_)
    · obtain ⟨i5, s4, h1, h⟩ := i_o2_inv h
      refine iRT.call (f104_1_ok L N (d + 2) _ _ h1) ?_
      refine iRT.b1 h fun h => ?_
      cases h
      exact iRT.ret
    · exact iRT.go 0 (f33_4_57_at109_ok L N d _ _ h) (fun _ _ => rfl)
  · exact iRT.go 0 (f33_4_57_at109_ok L N d _ _ h) (fun _ _ => rfl)
set_option maxHeartbeats 100000 in
theorem f33_4_57_at23_ok (L N d : Nat) (x2 : Int) {u3 : Option iV} (s : gI) {o : Int × gI} (h : f33_at23 N 57 x2 s = some o) : iRR false L (d + 3) kj33 k33_23 [some (vR 4), some (vR 57), some (vI x2), u3] [] (s, g_rho) (some (vI o.1), (o.2, g_rho)) := by
  refine iRR.of 401 ?_
  refine iRT.ite h (fun h => ?_) (fun h => ?_)
  · obtain ⟨s3, h1, h⟩ := i_o1_inv h
    refine iRT.call (f35_4_57_ok L N (d + 0) _ _ h1) ?_
    obtain ⟨s4, h1, h⟩ := i_o1_inv h
    refine iRT.call (f37_4_ok L N (d + 2)  _ h1) ?_
    refine iRT.ov h fun h => ?_
    refine iRT.ov h fun h => ?_
    obtain ⟨s7, h1, h⟩ := i_o1_inv h
    refine iRT.call (f34_4_57_ok L N (d + 0)  _ h1) ?_
    replace h := (ib1_inv h).2
    cases h
    exact iRT.ret
  · obtain ⟨i2, s1, h1, h⟩ := i_o2_inv h
    refine iRT.call (f39_ok L N (d + 2) _ _ h1) ?_
    refine iRT.ite h (fun h => ?_) (fun h => ?_)
    · exact iRT.go 2 (f33_4_57_at84_ok L N d _ _ _ _ h) (fun _ _ => rfl)
    · exact iRT.go 1 (f33_4_57_at84_ok L N d _ _ _ _ h) (fun _ _ => rfl)
set_option maxHeartbeats 100000 in
theorem f33_4_57_ok (L N d : Nat) (x2 : Int) (s : gI) {o : Int × gI} (h : f33 N 57 x2 s = some o) : iEE L (d + 4) 33 [vR 4, vR 57, vI x2] (s, g_rho) (some (vI o.1), (o.2, g_rho)) := by
  refine iEE.of (wr := false) (d := d + 3) (md := gm_33) rfl rfl rfl (iRR.of 401 ?_)
  refine iRT.ite h (fun h => ?_) (fun h => ?_)
  · refine iRT.ite h (fun h => ?_) (fun h => ?_)
    · obtain ⟨i2, s1, h1, h⟩ := i_o2_inv h
      refine iRT.call (f104_1_ok L N (d + 2) _ _ h1) ?_
      refine iRT.b1 h fun h => ?_
      cases h
      exact iRT.ret
    · exact iRT.go 0 (f33_4_57_at23_ok L N d _ _ h) (fun _ _ => rfl)
  · exact iRT.go 0 (f33_4_57_at23_ok L N d _ _ h) (fun _ _ => rfl)
-- GutterNine$LawReader.takePart
set_option maxHeartbeats 100000 in
theorem f32_4_57_at58_ok (L N d : Nat) (x2 : Int) (z0 : Int) (z1 : Int) {u1 : Option iV} (s : gI) {o : Int × gI} (h : f32_at58 N 57 x2 z0 z1 s = some o) : iRR false L (d + 3) kj32 k32_58 [some (vR 4), u1, some (vI x2)] [vI z0, vI z1, vR 4] (s, g_rho) (some (vI o.1), (o.2, g_rho)) := by
  refine iRR.of 401 ?_
  refine iRT.ov h fun h => ?_
  obtain ⟨s2, h1, h⟩ := i_o1_inv h
  refine iRT.call (f36_4_ok L N (d + 2) _ _ h1) ?_
  replace h := (ib1_inv h).2
  cases h
  exact iRT.ret
set_option maxHeartbeats 100000 in
theorem f32_4_57_at31_ok (L N d : Nat) (x2 : Int) {u1 : Option iV} (s : gI) {o : Int × gI} (h : f32_at31 N 57 x2 s = some o) : iRR false L (d + 3) kj32 k32_31 [some (vR 4), u1, some (vI x2)] [] (s, g_rho) (some (vI o.1), (o.2, g_rho)) := by
  refine iRR.of 15 ?_
  refine iRT.ov h fun h => ?_
  refine iRT.ite h (fun h => ?_) (fun h => ?_)
  · exact iRT.go 2 (f32_4_57_at58_ok L N d _ _ _ _ h) (fun _ _ => rfl)
  · exact iRT.go 1 (f32_4_57_at58_ok L N d _ _ _ _ h) (fun _ _ => rfl)
set_option maxHeartbeats 100000 in
theorem f32_4_57_ok (L N d : Nat) (x2 : Int) (s : gI) {o : Int × gI} (h : f32 N 57 x2 s = some o) : iEE L (d + 4) 32 [vR 4, vR 57, vI x2] (s, g_rho) (some (vI o.1), (o.2, g_rho)) := by
  refine iEE.of (wr := false) (d := d + 3) (md := gm_32) rfl rfl rfl (iRR.of 401 ?_)
  refine iRT.ite h (fun h => ?_) (fun h => ?_)
  · refine iRT.ite h (fun h => ?_) (fun h => ?_)
    · exact iRT.go 0 (f32_4_57_at31_ok L N d _ _ h) (fun _ _ => rfl)
    · refine iRT.ite h (fun h => ?_) (fun h => ?_)
      · exact iRT.go 0 (f32_4_57_at31_ok L N d _ _ h) (fun _ _ => rfl)
      · obtain ⟨s1, h1, h⟩ := i_o1_inv h
        refine iRT.call (f23_57_ok L N (d + 2) _ _ h1) ?_
        obtain ⟨s2, h1, h⟩ := i_o1_inv h
        refine iRT.call (f34_4_57_ok L N (d + 0)  _ h1) ?_
        replace h := (ib1_inv h).2
        cases h
        exact iRT.ret
  · obtain ⟨i4, s3, h1, h⟩ := i_o2_inv h
    refine iRT.call (f104_1_ok L N (d + 2) _ _ h1) ?_
    refine iRT.b1 h fun h => ?_
    cases h
    exact iRT.ret
-- GutterNine$LawReader.read
set_option maxHeartbeats 100000 in
theorem f29_4_57_at115_ok (L N d : Nat) {r_at26 : Int → gI → Option (Int × gI)} (h_at26 : ∀ x2 u3 u4 s o, r_at26 x2 s = some o → iRR false L (d + 6) kj29 k29_26 [some (vR 4), some (vR 57), some (vI x2), u3, u4] [] (s, g_rho) (some (vI o.1), (o.2, g_rho))) (x2 : Int) (z0 : Int) {u3 : Option iV} {u4 : Option iV} (s : gI) {o : Int × gI} (h : f29_at115 N 57 r_at26 x2 z0 s = some o) : iRR false L (d + 6) kj29 k29_115 [some (vR 4), some (vR 57), some (vI x2), u3, u4] [vI z0] (s, g_rho) (some (vI o.1), (o.2, g_rho)) := by
  refine iRR.of 401 ?_
  refine iRT.ite h (fun h => ?_) (fun h => ?_)
  · replace h := (ib1_inv h).2
    cases h
    exact iRT.ret
  · obtain ⟨s1, h1, h⟩ := i_o1_inv h
    refine iRT.call (f97_1_ok L N (d + 1)  _ h1) ?_
    refine iRT.ov h fun h => ?_
    exact iRT.go 1 (h_at26 _ _ _ _ _ h) (fun _ _ => rfl)
set_option maxHeartbeats 100000 in
theorem f29_4_57_at79_ok (L N d : Nat) {r_at26 : Int → gI → Option (Int × gI)} (h_at26 : ∀ x2 u3 u4 s o, r_at26 x2 s = some o → iRR false L (d + 6) kj29 k29_26 [some (vR 4), some (vR 57), some (vI x2), u3, u4] [] (s, g_rho) (some (vI o.1), (o.2, g_rho))) (x2 : Int) (x3 : Int) {u4 : Option iV} (s : gI) {o : Int × gI} (h : f29_at79 N 57 r_at26 x2 x3 s = some o) : iRR false L (d + 6) kj29 k29_79 [some (vR 4), some (vR 57), some (vI x2), some (vI x3), u4] [] (s, g_rho) (some (vI o.1), (o.2, g_rho)) := by
  refine iRR.of 401 ?_
  refine iRT.ite h (fun h => ?_) (fun h => ?_)
  · obtain ⟨i6, s5, h1, h⟩ := i_o2_inv h
    refine iRT.call (f104_1_ok L N (d + 5) _ _ h1) ?_
    refine iRT.b1 h fun h => ?_
    cases h
    exact iRT.ret
  · refine iRT.ite h (fun h => ?_) (fun h => ?_)
    · obtain ⟨i2, s1, h1, h⟩ := i_o2_inv h
      refine iRT.call (f33_4_57_ok L N (d + 2) _ _ h1) ?_
      exact iRT.go 0 (f29_4_57_at115_ok L N d h_at26 _ _ _ h) (fun _ _ => rfl)
    · obtain ⟨i4, s3, h1, h⟩ := i_o2_inv h
      refine iRT.call (f32_4_57_ok L N (d + 2) _ _ h1) ?_
      exact iRT.go 1 (f29_4_57_at115_ok L N d h_at26 _ _ _ h) (fun _ _ => rfl)
set_option maxHeartbeats 100000 in
theorem f29_4_57_at51_ok (L N d : Nat) {r_at26 : Int → gI → Option (Int × gI)} (h_at26 : ∀ x2 u3 u4 s o, r_at26 x2 s = some o → iRR false L (d + 6) kj29 k29_26 [some (vR 4), some (vR 57), some (vI x2), u3, u4] [] (s, g_rho) (some (vI o.1), (o.2, g_rho))) (x2 : Int) (z0 : Int) {u3 : Option iV} {u4 : Option iV} (s : gI) {o : Int × gI} (h : f29_at51 N 57 r_at26 x2 z0 s = some o) : iRR false L (d + 6) kj29 k29_51 [some (vR 4), some (vR 57), some (vI x2), u3, u4] [vI z0] (s, g_rho) (some (vI o.1), (o.2, g_rho)) := by
  refine iRR.of 401 ?_
  refine iRT.ite h (fun h => ?_) (fun h => ?_)
  · refine iRT.ite h (fun h => ?_) (fun h => ?_)
    · refine iRT.ite h (fun h => ?_) (fun h => ?_)
      · obtain ⟨s1, h1, h⟩ := i_o1_inv h
        refine iRT.call (f35_4_57_ok L N (d + 3) _ _ h1) ?_
        replace h := (ib1_inv h).2
        cases h
        exact iRT.ret
      · exact iRT.go 0 (f29_4_57_at79_ok L N d h_at26 _ _ _ h) (fun _ _ => rfl)
    · exact iRT.go 0 (f29_4_57_at79_ok L N d h_at26 _ _ _ h) (fun _ _ => rfl)
  · exact iRT.go 0 (f29_4_57_at79_ok L N d h_at26 _ _ _ h) (fun _ _ => rfl)
set_option maxHeartbeats 100000 in
theorem f29_4_57_at26_ok (L N d : Nat) : ∀ (n : Nat) (x2 : Int) {u3 u4 : Option iV} (s : gI) (o : Int × gI), f29_at26 N 57 n x2 s = some o → iRR false L (d + 6) kj29 k29_26 [some (vR 4), some (vR 57), some (vI x2), u3, u4] [] (s, g_rho) (some (vI o.1), (o.2, g_rho)) := by
  intro n
  induction n with
  | zero => intro _ _ _ _ _ h; cases h
  | succ n ih =>
    intro x2 u3 u4 s o h
    refine iRR.of 401 ?_
    refine iRT.ite h (fun h => ?_) (fun h => ?_)
    · obtain ⟨i2, s1, h1, h⟩ := i_o2_inv h
      refine iRT.call (f104_1_ok L N (d + 5) _ _ h1) ?_
      refine iRT.b1 h fun h => ?_
      cases h
      exact iRT.ret
    · refine iRT.ite h (fun h => ?_) (fun h => ?_)
      · obtain ⟨i4, s3, h1, h⟩ := i_o2_inv h
        refine iRT.call (f31_4_ok L N (d + 0)  _ h1) ?_
        exact iRT.go 0 (f29_4_57_at51_ok L N d (fun a0 b0 b1 s o h => ih a0 s o h) _ _ _ h) (fun _ _ => rfl)
      · obtain ⟨i6, s5, h1, h⟩ := i_o2_inv h
        refine iRT.call (f30_4_ok L N (d + 0)  _ h1) ?_
        exact iRT.go 1 (f29_4_57_at51_ok L N d (fun a0 b0 b1 s o h => ih a0 s o h) _ _ _ h) (fun _ _ => rfl)
set_option maxHeartbeats 100000 in
theorem f29_4_57_ok (L N d : Nat) (s : gI) {o : Int × gI} (h : f29 N 57  s = some o) : iEE L (d + 7) 29 [vR 4, vR 57] (s, g_rho) (some (vI o.1), (o.2, g_rho)) := by
  refine iEE.of (wr := false) (d := d + 6) (md := gm_29) rfl rfl rfl (iRR.of 17 ?_)
  obtain ⟨s1, h1, h⟩ := i_o1_inv h
  refine iRT.call (f22_57_ok L N (d + 5)  _ h1) ?_
  replace h := (ib1_inv h).2
  exact iRT.go 14 (f29_4_57_at26_ok L N d N _ _ _ h) (fun _ _ => rfl)
-- GutterNine$YardReader.takeFirst
set_option maxHeartbeats 100000 in
theorem f128_3_47_ok (L N d : Nat) (s : gI) {o : Int × gI} (h : f128 N  s = some o) : iEE L (d + 7) 128 [vR 3, vR 47] (s, g_rho) (some (vI o.1), (o.2, g_rho)) := by
  refine iEE.of (wr := false) (d := d + 6) (md := gm_128) rfl rfl rfl (iRR.of 401 ?_)
  obtain ⟨i2, s1, h1, h⟩ := i_o2_inv h
  refine iRT.call (f107_1_ok L N (d + 0) _ _ _ h1) ?_
  refine iRT.ite h (fun h => ?_) (fun h => ?_)
  · replace h := (ib1_inv h).2
    cases h
    exact iRT.ret
  · replace h := (ib1_inv h).2
    cases h
    exact iRT.ret
-- java/lang/String.coder
set_option maxHeartbeats 100000 in
theorem f304_1066_ok (L N d : Nat) (s : gI) {o : Int × gI} (h : f304 N 1066  s = some o) : iEE L (d + 1) 304 [vR 1066] (s, g_rho) (some (vI o.1), (o.2, g_rho)) := by
  refine iEE.of (wr := false) (d := d + 0) (md := gm_304) rfl rfl rfl (iRR.of 401 ?_)
  replace h := i_h0 (by decide) h
  refine iRT.b1 h fun h => ?_
  cases h
  exact iRT.ret
-- java/lang/String.length
set_option maxHeartbeats 100000 in
theorem f300_1066_ok (L N d : Nat) (s : gI) {o : Int × gI} (h : f300 N 1066 5  s = some o) : iEE L (d + 2) 300 [vR 1066] (s, g_rho) (some (vI o.1), (o.2, g_rho)) := by
  refine iEE.of (wr := false) (d := d + 1) (md := gm_300) rfl rfl rfl (iRR.of 401 ?_)
  replace h := (iov_inv h).2
  obtain ⟨i2, s1, h1, h⟩ := i_o2_inv h
  refine iRT.call (f304_1066_ok L N (d + 0)  _ h1) ?_
  cases h
  exact iRT.ret
-- java/lang/String.isLatin1
set_option maxHeartbeats 100000 in
theorem f305_1066_ok (L N d : Nat) (s : gI) {o : Int × gI} (h : f305 N 1066  s = some o) : iEE L (d + 1) 305 [vR 1066] (s, g_rho) (some (vI o.1), (o.2, g_rho)) := by
  refine iEE.of (wr := false) (d := d + 0) (md := gm_305) rfl rfl rfl (iRR.of 401 ?_)
  replace h := i_h0 (by decide) h
  refine iRT.ite h (fun h => ?_) (fun h => ?_)
  · replace h := (ib1_inv h).2
    cases h
    exact iRT.ret
  · replace h := (ib1_inv h).2
    cases h
    exact iRT.ret
-- java/lang/StringLatin1.charAt
set_option maxHeartbeats 100000 in
theorem f308_1067_ok (L N d : Nat) (x1 : Int) (s : gI) {o : Int × gI} (h : f308 N 1067 5 x1 s = some o) : iEE L (d + 3) 308 [vR 1067, vI x1] (s, g_rho) (some (vI o.1), (o.2, g_rho)) := by
  refine iEE.of (wr := false) (d := d + 2) (md := gm_308) rfl rfl rfl (iRR.of 401 ?_)
  replace h := (iov_inv h).2
  obtain ⟨s1, h1, h⟩ := i_o1_inv h
  refine iRT.call (f306_ok L N (d + 0) _ _ _ h1) ?_
  refine iRT.ck h fun h => ?_
  refine iRT.ch h fun h => ?_
  refine iRT.ch h fun h => ?_
  cases h
  exact iRT.ret
-- java/lang/String.charAt
set_option maxHeartbeats 100000 in
theorem f301_1066_ok (L N d : Nat) (x1 : Int) (s : gI) {o : Int × gI} (h : f301 N 1066 5 x1 s = some o) : iEE L (d + 4) 301 [vR 1066, vI x1] (s, g_rho) (some (vI o.1), (o.2, g_rho)) := by
  refine iEE.of (wr := false) (d := d + 3) (md := gm_301) rfl rfl rfl (iRR.of 401 ?_)
  obtain ⟨i2, s1, h1, h⟩ := i_o2_inv h
  refine iRT.call (f305_1066_ok L N (d + 2)  _ h1) ?_
  refine iRT.ite h (fun h => ?_) (fun h => ?_)
  · cases h
  · obtain ⟨i4, s3, h1, h⟩ := i_o2_inv h
    refine iRT.call (f308_1067_ok L N (d + 0) _ _ h1) ?_
    refine iRT.ch h fun h => ?_
    cases h
    exact iRT.ret
-- GutterNine$Tape.isWord
set_option maxHeartbeats 100000 in
theorem f101_1_1066_at31_ok (L N d : Nat) : ∀ (n : Nat) (x2 : Int) (s : gI) (o : Int × gI), f101_at31 N 1066 5 n x2 s = some o → iRR false L (d + 4) kj101 k101_31 [some (vR 1), some (vR 1066), some (vI x2)] [] (s, g_rho) (some (vI o.1), (o.2, g_rho)) := by
  intro n
  induction n with
  | zero => intro _ _ _ h; cases h
  | succ n ih =>
    intro x2 s o h
    refine iRR.of 401 ?_
    refine iRT.ite h (fun h => ?_) (fun h => ?_)
    · replace h := (ib1_inv h).2
      cases h
      exact iRT.ret
    · refine iRT.ck h fun h => ?_
      refine iRT.ov h fun h => ?_
      obtain ⟨i2, s1, h1, h⟩ := i_o2_inv h
      refine iRT.call (f301_1066_ok L N (d + 0) _ _ h1) ?_
      refine iRT.ite h (fun h => ?_) (fun h => ?_)
      · refine iRT.ov h fun h => ?_
        exact iRT.go 1 (ih _ _ _ h) (fun _ _ => rfl)
      · replace h := (ib1_inv h).2
        cases h
        exact iRT.ret
set_option maxHeartbeats 100000 in
theorem f101_1_1066_ok (L N d : Nat) (s : gI) {o : Int × gI} (h : f101 N 1066 5  s = some o) : iEE L (d + 5) 101 [vR 1, vR 1066] (s, g_rho) (some (vI o.1), (o.2, g_rho)) := by
  refine iEE.of (wr := false) (d := d + 4) (md := gm_101) rfl rfl rfl (iRR.of 401 ?_)
  refine iRT.ite h (fun h => ?_) (fun h => ?_)
  · refine iRT.ov h fun h => ?_
    obtain ⟨i2, s1, h1, h⟩ := i_o2_inv h
    refine iRT.call (f300_1066_ok L N (d + 2)  _ h1) ?_
    refine iRT.ite h (fun h => ?_) (fun h => ?_)
    · exact iRT.go 3 (f101_1_1066_at31_ok L N d N _ _ _ h) (fun _ _ => rfl)
    · replace h := (ib1_inv h).2
      cases h
      exact iRT.ret
  · replace h := (ib1_inv h).2
    cases h
    exact iRT.ret
-- GutterNine$Tape.takeWord
set_option maxHeartbeats 100000 in
theorem f105_1_1066_ok (L N d : Nat) (s : gI) {o : Int × gI} (h : f105 N 1066 5  s = some o) : iEE L (d + 6) 105 [vR 1, vR 1066] (s, g_rho) (some (vI o.1), (o.2, g_rho)) := by
  refine iEE.of (wr := false) (d := d + 5) (md := gm_105) rfl rfl rfl (iRR.of 401 ?_)
  obtain ⟨i2, s1, h1, h⟩ := i_o2_inv h
  refine iRT.call (f101_1_1066_ok L N (d + 0)  _ h1) ?_
  refine iRT.ite h (fun h => ?_) (fun h => ?_)
  · obtain ⟨i5, s4, h1, h⟩ := i_o2_inv h
    refine iRT.call (f104_1_ok L N (d + 4) _ _ h1) ?_
    refine iRT.b1 h fun h => ?_
    cases h
    exact iRT.ret
  · obtain ⟨s3, h1, h⟩ := i_o1_inv h
    refine iRT.call (f97_1_ok L N (d + 0)  _ h1) ?_
    replace h := (ib1_inv h).2
    cases h
    exact iRT.ret
-- GutterNine$YardReader.takeWindow
set_option maxHeartbeats 100000 in
theorem f127_3_47_ok (L N d : Nat) (s : gI) {o : Int × gI} (h : f127 N  s = some o) : iEE L (d + 7) 127 [vR 3, vR 47] (s, g_rho) (some (vI o.1), (o.2, g_rho)) := by
  refine iEE.of (wr := false) (d := d + 6) (md := gm_127) rfl rfl rfl (iRR.of 401 ?_)
  obtain ⟨i2, s1, h1, h⟩ := i_o2_inv h
  refine iRT.call (f107_1_ok L N (d + 0) _ _ _ h1) ?_
  refine iRT.ite h (fun h => ?_) (fun h => ?_)
  · replace h := (ib1_inv h).2
    cases h
    exact iRT.ret
  · obtain ⟨i5, s4, h1, h⟩ := i_o2_inv h
    refine iRT.call (f107_1_ok L N (d + 0) _ _ _ h1) ?_
    refine iRT.ite h (fun h => ?_) (fun h => ?_)
    · replace h := (ib1_inv h).2
      cases h
      exact iRT.ret
    · obtain ⟨i8, s7, h1, h⟩ := i_o2_inv h
      refine iRT.call (f105_1_1066_ok L N (d + 0)  _ h1) ?_
      refine iRT.ite h (fun h => ?_) (fun h => ?_)
      · replace h := (ib1_inv h).2
        cases h
        exact iRT.ret
      · obtain ⟨i10, s9, h1, h⟩ := i_o2_inv h
        refine iRT.call (f107_1_ok L N (d + 0) _ _ _ h1) ?_
        refine iRT.ite h (fun h => ?_) (fun h => ?_)
        · replace h := (ib1_inv h).2
          cases h
          exact iRT.ret
        · replace h := (ib1_inv h).2
          cases h
          exact iRT.ret
-- GutterNine$YardReader.takeNet
set_option maxHeartbeats 100000 in
theorem f126_3_47_ok (L N d : Nat) (s : gI) {o : Int × gI} (h : f126 N  s = some o) : iEE L (d + 7) 126 [vR 3, vR 47] (s, g_rho) (some (vI o.1), (o.2, g_rho)) := by
  refine iEE.of (wr := false) (d := d + 6) (md := gm_126) rfl rfl rfl (iRR.of 401 ?_)
  obtain ⟨i2, s1, h1, h⟩ := i_o2_inv h
  refine iRT.call (f107_1_ok L N (d + 0) _ _ _ h1) ?_
  refine iRT.ite h (fun h => ?_) (fun h => ?_)
  · replace h := (ib1_inv h).2
    cases h
    exact iRT.ret
  · replace h := (ib1_inv h).2
    cases h
    exact iRT.ret
-- java/lang/String.coder
set_option maxHeartbeats 100000 in
theorem f304_1058_ok (L N d : Nat) (s : gI) {o : Int × gI} (h : f304 N 1058  s = some o) : iEE L (d + 1) 304 [vR 1058] (s, g_rho) (some (vI o.1), (o.2, g_rho)) := by
  refine iEE.of (wr := false) (d := d + 0) (md := gm_304) rfl rfl rfl (iRR.of 401 ?_)
  replace h := i_h0 (by decide) h
  refine iRT.b1 h fun h => ?_
  cases h
  exact iRT.ret
-- java/lang/String.length
set_option maxHeartbeats 100000 in
theorem f300_1058_ok (L N d : Nat) (s : gI) {o : Int × gI} (h : f300 N 1058 4  s = some o) : iEE L (d + 2) 300 [vR 1058] (s, g_rho) (some (vI o.1), (o.2, g_rho)) := by
  refine iEE.of (wr := false) (d := d + 1) (md := gm_300) rfl rfl rfl (iRR.of 401 ?_)
  replace h := (iov_inv h).2
  obtain ⟨i2, s1, h1, h⟩ := i_o2_inv h
  refine iRT.call (f304_1058_ok L N (d + 0)  _ h1) ?_
  cases h
  exact iRT.ret
-- java/lang/String.isLatin1
set_option maxHeartbeats 100000 in
theorem f305_1058_ok (L N d : Nat) (s : gI) {o : Int × gI} (h : f305 N 1058  s = some o) : iEE L (d + 1) 305 [vR 1058] (s, g_rho) (some (vI o.1), (o.2, g_rho)) := by
  refine iEE.of (wr := false) (d := d + 0) (md := gm_305) rfl rfl rfl (iRR.of 401 ?_)
  replace h := i_h0 (by decide) h
  refine iRT.ite h (fun h => ?_) (fun h => ?_)
  · replace h := (ib1_inv h).2
    cases h
    exact iRT.ret
  · replace h := (ib1_inv h).2
    cases h
    exact iRT.ret
-- java/lang/StringLatin1.charAt
set_option maxHeartbeats 100000 in
theorem f308_1059_ok (L N d : Nat) (x1 : Int) (s : gI) {o : Int × gI} (h : f308 N 1059 4 x1 s = some o) : iEE L (d + 3) 308 [vR 1059, vI x1] (s, g_rho) (some (vI o.1), (o.2, g_rho)) := by
  refine iEE.of (wr := false) (d := d + 2) (md := gm_308) rfl rfl rfl (iRR.of 401 ?_)
  replace h := (iov_inv h).2
  obtain ⟨s1, h1, h⟩ := i_o1_inv h
  refine iRT.call (f306_ok L N (d + 0) _ _ _ h1) ?_
  refine iRT.ck h fun h => ?_
  refine iRT.ch h fun h => ?_
  refine iRT.ch h fun h => ?_
  cases h
  exact iRT.ret
-- java/lang/String.charAt
set_option maxHeartbeats 100000 in
theorem f301_1058_ok (L N d : Nat) (x1 : Int) (s : gI) {o : Int × gI} (h : f301 N 1058 4 x1 s = some o) : iEE L (d + 4) 301 [vR 1058, vI x1] (s, g_rho) (some (vI o.1), (o.2, g_rho)) := by
  refine iEE.of (wr := false) (d := d + 3) (md := gm_301) rfl rfl rfl (iRR.of 401 ?_)
  obtain ⟨i2, s1, h1, h⟩ := i_o2_inv h
  refine iRT.call (f305_1058_ok L N (d + 2)  _ h1) ?_
  refine iRT.ite h (fun h => ?_) (fun h => ?_)
  · cases h
  · obtain ⟨i4, s3, h1, h⟩ := i_o2_inv h
    refine iRT.call (f308_1059_ok L N (d + 0) _ _ h1) ?_
    refine iRT.ch h fun h => ?_
    cases h
    exact iRT.ret
-- GutterNine$Tape.isWord
set_option maxHeartbeats 100000 in
theorem f101_1_1058_at31_ok (L N d : Nat) : ∀ (n : Nat) (x2 : Int) (s : gI) (o : Int × gI), f101_at31 N 1058 4 n x2 s = some o → iRR false L (d + 4) kj101 k101_31 [some (vR 1), some (vR 1058), some (vI x2)] [] (s, g_rho) (some (vI o.1), (o.2, g_rho)) := by
  intro n
  induction n with
  | zero => intro _ _ _ h; cases h
  | succ n ih =>
    intro x2 s o h
    refine iRR.of 401 ?_
    refine iRT.ite h (fun h => ?_) (fun h => ?_)
    · replace h := (ib1_inv h).2
      cases h
      exact iRT.ret
    · refine iRT.ck h fun h => ?_
      refine iRT.ov h fun h => ?_
      obtain ⟨i2, s1, h1, h⟩ := i_o2_inv h
      refine iRT.call (f301_1058_ok L N (d + 0) _ _ h1) ?_
      refine iRT.ite h (fun h => ?_) (fun h => ?_)
      · refine iRT.ov h fun h => ?_
        exact iRT.go 1 (ih _ _ _ h) (fun _ _ => rfl)
      · replace h := (ib1_inv h).2
        cases h
        exact iRT.ret
set_option maxHeartbeats 100000 in
theorem f101_1_1058_ok (L N d : Nat) (s : gI) {o : Int × gI} (h : f101 N 1058 4  s = some o) : iEE L (d + 5) 101 [vR 1, vR 1058] (s, g_rho) (some (vI o.1), (o.2, g_rho)) := by
  refine iEE.of (wr := false) (d := d + 4) (md := gm_101) rfl rfl rfl (iRR.of 401 ?_)
  refine iRT.ite h (fun h => ?_) (fun h => ?_)
  · refine iRT.ov h fun h => ?_
    obtain ⟨i2, s1, h1, h⟩ := i_o2_inv h
    refine iRT.call (f300_1058_ok L N (d + 2)  _ h1) ?_
    refine iRT.ite h (fun h => ?_) (fun h => ?_)
    · exact iRT.go 3 (f101_1_1058_at31_ok L N d N _ _ _ h) (fun _ _ => rfl)
    · replace h := (ib1_inv h).2
      cases h
      exact iRT.ret
  · replace h := (ib1_inv h).2
    cases h
    exact iRT.ret
-- java/lang/String.coder
set_option maxHeartbeats 100000 in
theorem f304_1062_ok (L N d : Nat) (s : gI) {o : Int × gI} (h : f304 N 1062  s = some o) : iEE L (d + 1) 304 [vR 1062] (s, g_rho) (some (vI o.1), (o.2, g_rho)) := by
  refine iEE.of (wr := false) (d := d + 0) (md := gm_304) rfl rfl rfl (iRR.of 401 ?_)
  replace h := i_h0 (by decide) h
  refine iRT.b1 h fun h => ?_
  cases h
  exact iRT.ret
-- java/lang/String.length
set_option maxHeartbeats 100000 in
theorem f300_1062_ok (L N d : Nat) (s : gI) {o : Int × gI} (h : f300 N 1062 2  s = some o) : iEE L (d + 2) 300 [vR 1062] (s, g_rho) (some (vI o.1), (o.2, g_rho)) := by
  refine iEE.of (wr := false) (d := d + 1) (md := gm_300) rfl rfl rfl (iRR.of 401 ?_)
  replace h := (iov_inv h).2
  obtain ⟨i2, s1, h1, h⟩ := i_o2_inv h
  refine iRT.call (f304_1062_ok L N (d + 0)  _ h1) ?_
  cases h
  exact iRT.ret
-- java/lang/String.isLatin1
set_option maxHeartbeats 100000 in
theorem f305_1062_ok (L N d : Nat) (s : gI) {o : Int × gI} (h : f305 N 1062  s = some o) : iEE L (d + 1) 305 [vR 1062] (s, g_rho) (some (vI o.1), (o.2, g_rho)) := by
  refine iEE.of (wr := false) (d := d + 0) (md := gm_305) rfl rfl rfl (iRR.of 401 ?_)
  replace h := i_h0 (by decide) h
  refine iRT.ite h (fun h => ?_) (fun h => ?_)
  · replace h := (ib1_inv h).2
    cases h
    exact iRT.ret
  · replace h := (ib1_inv h).2
    cases h
    exact iRT.ret
-- java/lang/StringLatin1.charAt
set_option maxHeartbeats 100000 in
theorem f308_1063_ok (L N d : Nat) (x1 : Int) (s : gI) {o : Int × gI} (h : f308 N 1063 2 x1 s = some o) : iEE L (d + 3) 308 [vR 1063, vI x1] (s, g_rho) (some (vI o.1), (o.2, g_rho)) := by
  refine iEE.of (wr := false) (d := d + 2) (md := gm_308) rfl rfl rfl (iRR.of 401 ?_)
  replace h := (iov_inv h).2
  obtain ⟨s1, h1, h⟩ := i_o1_inv h
  refine iRT.call (f306_ok L N (d + 0) _ _ _ h1) ?_
  refine iRT.ck h fun h => ?_
  refine iRT.ch h fun h => ?_
  refine iRT.ch h fun h => ?_
  cases h
  exact iRT.ret
-- java/lang/String.charAt
set_option maxHeartbeats 100000 in
theorem f301_1062_ok (L N d : Nat) (x1 : Int) (s : gI) {o : Int × gI} (h : f301 N 1062 2 x1 s = some o) : iEE L (d + 4) 301 [vR 1062, vI x1] (s, g_rho) (some (vI o.1), (o.2, g_rho)) := by
  refine iEE.of (wr := false) (d := d + 3) (md := gm_301) rfl rfl rfl (iRR.of 401 ?_)
  obtain ⟨i2, s1, h1, h⟩ := i_o2_inv h
  refine iRT.call (f305_1062_ok L N (d + 2)  _ h1) ?_
  refine iRT.ite h (fun h => ?_) (fun h => ?_)
  · cases h
  · obtain ⟨i4, s3, h1, h⟩ := i_o2_inv h
    refine iRT.call (f308_1063_ok L N (d + 0) _ _ h1) ?_
    refine iRT.ch h fun h => ?_
    cases h
    exact iRT.ret
-- GutterNine$Tape.isWord
set_option maxHeartbeats 100000 in
theorem f101_1_1062_at31_ok (L N d : Nat) : ∀ (n : Nat) (x2 : Int) (s : gI) (o : Int × gI), f101_at31 N 1062 2 n x2 s = some o → iRR false L (d + 4) kj101 k101_31 [some (vR 1), some (vR 1062), some (vI x2)] [] (s, g_rho) (some (vI o.1), (o.2, g_rho)) := by
  intro n
  induction n with
  | zero => intro _ _ _ h; cases h
  | succ n ih =>
    intro x2 s o h
    refine iRR.of 401 ?_
    refine iRT.ite h (fun h => ?_) (fun h => ?_)
    · replace h := (ib1_inv h).2
      cases h
      exact iRT.ret
    · refine iRT.ck h fun h => ?_
      refine iRT.ov h fun h => ?_
      obtain ⟨i2, s1, h1, h⟩ := i_o2_inv h
      refine iRT.call (f301_1062_ok L N (d + 0) _ _ h1) ?_
      refine iRT.ite h (fun h => ?_) (fun h => ?_)
      · refine iRT.ov h fun h => ?_
        exact iRT.go 1 (ih _ _ _ h) (fun _ _ => rfl)
      · replace h := (ib1_inv h).2
        cases h
        exact iRT.ret
set_option maxHeartbeats 100000 in
theorem f101_1_1062_ok (L N d : Nat) (s : gI) {o : Int × gI} (h : f101 N 1062 2  s = some o) : iEE L (d + 5) 101 [vR 1, vR 1062] (s, g_rho) (some (vI o.1), (o.2, g_rho)) := by
  refine iEE.of (wr := false) (d := d + 4) (md := gm_101) rfl rfl rfl (iRR.of 401 ?_)
  refine iRT.ite h (fun h => ?_) (fun h => ?_)
  · refine iRT.ov h fun h => ?_
    obtain ⟨i2, s1, h1, h⟩ := i_o2_inv h
    refine iRT.call (f300_1062_ok L N (d + 2)  _ h1) ?_
    refine iRT.ite h (fun h => ?_) (fun h => ?_)
    · exact iRT.go 3 (f101_1_1062_at31_ok L N d N _ _ _ h) (fun _ _ => rfl)
    · replace h := (ib1_inv h).2
      cases h
      exact iRT.ret
  · replace h := (ib1_inv h).2
    cases h
    exact iRT.ret

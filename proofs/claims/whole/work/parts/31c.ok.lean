-- GutterNine$Play.due
set_option maxHeartbeats 100000 in
theorem f64_11_25_ok (L N d : Nat) (s : gI) {o : Int × gI} (h : f64 N 25  s = some o) : iEE L (d + 4) 64 [vR 11, vR 25] (s, g_rho) (some (vI o.1), (o.2, g_rho)) := by
  refine iEE.of (wr := false) (d := d + 3) (md := gm_64) rfl rfl rfl (iRR.of 401 ?_)
  obtain ⟨i2, s1, h1, h⟩ := i_o2_inv h
  refine iRT.call (f68_11_ok L N (d + 1)  _ h1) ?_
  obtain ⟨i4, s3, h1, h⟩ := i_o2_inv h
  refine iRT.call (f69_11_ok L N (d + 1)  _ h1) ?_
  obtain ⟨i6, s5, h1, h⟩ := i_o2_inv h
  refine iRT.call (f24_25_ok L N (d + 0) _ _ _ _ h1) ?_
  cases h
  exact iRT.ret
-- GutterNine$Play.bringLost
set_option maxHeartbeats 100000 in
theorem f65_11_at2_ok (L N d : Nat) : ∀ (n : Nat) (x1 : Int) (s : gI) (o : gI), f65_at2 N n x1 s = some o → iRR false L (d + 2) kj65 k65_2 [some (vR 11), some (vI x1)] [] (s, g_rho) (none, (o, g_rho)) := by
  intro n
  induction n with
  | zero => intro _ _ _ h; cases h
  | succ n ih =>
    intro x1 s o h
    refine iRR.of 401 ?_
    refine iRT.ite h (fun h => ?_) (fun h => ?_)
    · cases h
      exact iRT.ret
    · obtain ⟨i2, s1, h1, h⟩ := i_o2_inv h
      refine iRT.call (f67_11_ok L N (d + 1) _ _ h1) ?_
      refine iRT.ite h (fun h => ?_) (fun h => ?_)
      · refine iRT.ov h fun h => ?_
        exact iRT.go 1 (ih _ _ _ h) (fun _ _ => rfl)
      · obtain ⟨s4, h1, h⟩ := i_o1_inv h
        refine iRT.call (f88_6_ok L N (d + 0) _ _ _ h1) ?_
        refine iRT.ov h fun h => ?_
        exact iRT.go 1 (ih _ _ _ h) (fun _ _ => rfl)
set_option maxHeartbeats 100000 in
theorem f65_11_ok (L N d : Nat) (s : gI) {o : gI} (h : f65 N  s = some o) : iEE L (d + 3) 65 [vR 11] (s, g_rho) (none, (o, g_rho)) := by
  refine iEE.of (wr := false) (d := d + 2) (md := gm_65) rfl rfl rfl (iRR.of 3 ?_)
  exact iRT.go 2 (f65_11_at2_ok L N d N _ _ _ h) (fun _ _ => rfl)
-- GutterNine$Law.of
set_option maxHeartbeats 100000 in
theorem f24_28_at99_ok (L N d : Nat) {r_at6 : Int → Int → Int → Int → Int → gI → Option (Int × gI)} (h_at6 : ∀ x1 x2 x3 x4 x5 u6 s o, r_at6 x1 x2 x3 x4 x5 s = some o → iRR false L (d + 2) kj24 k24_6 [some (vR 28), some (vI x1), some (vI x2), some (vI x3), some (vI x4), some (vI x5), u6] [] (s, g_rho) (some (vI o.1), (o.2, g_rho))) (x1 : Int) (x2 : Int) (x3 : Int) (x4 : Int) (x5 : Int) (z0 : Int) (z1 : Int) {u6 : Option iV} (s : gI) {o : Int × gI} (h : f24_at99 N 28 r_at6 x1 x2 x3 x4 x5 z0 z1 s = some o) : iRR false L (d + 2) kj24 k24_99 [some (vR 28), some (vI x1), some (vI x2), some (vI x3), some (vI x4), some (vI x5), u6] [vI z0, vI z1, vR 30] (s, g_rho) (some (vI o.1), (o.2, g_rho)) := by
  refine iRR.of 6 ?_
  obtain ⟨i2, s1, h1, h⟩ := i_o2_inv h
  refine iRT.call (f27_ok L N (d + 1) _ _ h1) ?_
  refine iRT.ck h fun h => ?_
  refine iRT.ov h fun h => ?_
  exact iRT.go 1 (h_at6 _ _ _ _ _ _ _ _ h) (fun _ _ => rfl)
set_option maxHeartbeats 100000 in
theorem f24_28_at6_ok (L N d : Nat) : ∀ (n : Nat) (x1 : Int) (x2 : Int) (x3 : Int) (x4 : Int) (x5 : Int) {u6 : Option iV} (s : gI) (o : Int × gI), f24_at6 N 28 n x1 x2 x3 x4 x5 s = some o → iRR false L (d + 2) kj24 k24_6 [some (vR 28), some (vI x1), some (vI x2), some (vI x3), some (vI x4), some (vI x5), u6] [] (s, g_rho) (some (vI o.1), (o.2, g_rho)) := by
  intro n
  induction n with
  | zero => intro _ _ _ _ _ _ _ _ h; cases h
  | succ n ih =>
    intro x1 x2 x3 x4 x5 u6 s o h
    refine iRR.of 401 ?_
    refine iRT.ite h (fun h => ?_) (fun h => ?_)
    · replace h := (ick_inv h).2.2
      cases h
      exact iRT.ret
    · refine iRT.ck h fun h => ?_
      refine iRT.ite h (fun h => ?_) (fun h => ?_)
      · refine iRT.ite h (fun h => ?_) (fun h => ?_)
        · refine iRT.ite h (fun h => ?_) (fun h => ?_)
          · refine iRT.ov h fun h => ?_
            exact iRT.go 1 (ih _ _ _ _ _ _ _ h) (fun _ _ => rfl)
          · refine iRT.ov h fun h => ?_
            refine iRT.ov h fun h => ?_
            refine iRT.ck h fun h => ?_
            refine iRT.ite h (fun h => ?_) (fun h => ?_)
            · exact iRT.go 2 (f24_28_at99_ok L N d (fun a0 a1 a2 a3 a4 b0 s o h => ih a0 a1 a2 a3 a4 s o h) _ _ _ _ _ _ _ _ h) (fun _ _ => rfl)
            · exact iRT.go 1 (f24_28_at99_ok L N d (fun a0 a1 a2 a3 a4 b0 s o h => ih a0 a1 a2 a3 a4 s o h) _ _ _ _ _ _ _ _ h) (fun _ _ => rfl)
        · refine iRT.ite h (fun h => ?_) (fun h => ?_)
          · refine iRT.ov h fun h => ?_
            exact iRT.go 1 (ih _ _ _ _ _ _ _ h) (fun _ _ => rfl)
          · refine iRT.ov h fun h => ?_
            refine iRT.ov h fun h => ?_
            refine iRT.ov h fun h => ?_
            refine iRT.ck h fun h => ?_
            refine iRT.ck h fun h => ?_
            obtain ⟨i5, s4, h1, h⟩ := i_o2_inv h
            refine iRT.call (f26_ok L N (d + 0) _ _ _ _ h1) ?_
            refine iRT.ck h fun h => ?_
            refine iRT.ov h fun h => ?_
            exact iRT.go 1 (ih _ _ _ _ _ _ _ h) (fun _ _ => rfl)
      · refine iRT.ite h (fun h => ?_) (fun h => ?_)
        · refine iRT.ov h fun h => ?_
          exact iRT.go 1 (ih _ _ _ _ _ _ _ h) (fun _ _ => rfl)
        · obtain ⟨i11, s10, h1, h⟩ := i_o2_inv h
          refine iRT.call (f25_ok L N (d + 1) _ _ _ _ _ h1) ?_
          refine iRT.ck h fun h => ?_
          refine iRT.ov h fun h => ?_
          refine iRT.ov h fun h => ?_
          exact iRT.go 1 (ih _ _ _ _ _ _ _ h) (fun _ _ => rfl)
set_option maxHeartbeats 100000 in
theorem f24_28_ok (L N d : Nat) (x1 : Int) (x2 : Int) (x3 : Int) (s : gI) {o : Int × gI} (h : f24 N 28 x1 x2 x3 s = some o) : iEE L (d + 3) 24 [vR 28, vI x1, vI x2, vI x3] (s, g_rho) (some (vI o.1), (o.2, g_rho)) := by
  refine iEE.of (wr := false) (d := d + 2) (md := gm_24) rfl rfl rfl (iRR.of 5 ?_)
  exact iRT.go 4 (f24_28_at6_ok L N d N _ _ _ _ _ _ _ h) (fun _ _ => rfl)
-- GutterNine$Play.due
set_option maxHeartbeats 100000 in
theorem f64_11_28_ok (L N d : Nat) (s : gI) {o : Int × gI} (h : f64 N 28  s = some o) : iEE L (d + 4) 64 [vR 11, vR 28] (s, g_rho) (some (vI o.1), (o.2, g_rho)) := by
  refine iEE.of (wr := false) (d := d + 3) (md := gm_64) rfl rfl rfl (iRR.of 401 ?_)
  obtain ⟨i2, s1, h1, h⟩ := i_o2_inv h
  refine iRT.call (f68_11_ok L N (d + 1)  _ h1) ?_
  obtain ⟨i4, s3, h1, h⟩ := i_o2_inv h
  refine iRT.call (f69_11_ok L N (d + 1)  _ h1) ?_
  obtain ⟨i6, s5, h1, h⟩ := i_o2_inv h
  refine iRT.call (f24_28_ok L N (d + 0) _ _ _ _ h1) ?_
  cases h
  exact iRT.ret
-- GutterNine$Play.passDay
set_option maxHeartbeats 100000 in
theorem f62_11_at74_ok (L N d : Nat) (s : gI) {o : gI} (h : f62_at74 N  s = some o) : iRR false L (d + 4) kj62 k62_74 [some (vR 11)] [] (s, g_rho) (none, (o, g_rho)) := by
  refine iRR.of 401 ?_
  refine iRT.ov h fun h => ?_
  cases h
  exact iRT.ret
set_option maxHeartbeats 100000 in
theorem f62_11_at32_ok (L N d : Nat) (s : gI) {o : gI} (h : f62_at32 N  s = some o) : iRR false L (d + 4) kj62 k62_32 [some (vR 11)] [] (s, g_rho) (none, (o, g_rho)) := by
  refine iRR.of 21 ?_
  obtain ⟨i2, s1, h1, h⟩ := i_o2_inv h
  refine iRT.call (f63_11_ok L N (d + 3)  _ h1) ?_
  refine iRT.ite h (fun h => ?_) (fun h => ?_)
  · obtain ⟨i4, s3, h1, h⟩ := i_o2_inv h
    refine iRT.call (f68_11_ok L N (d + 2)  _ h1) ?_
    refine iRT.ite h (fun h => ?_) (fun h => ?_)
    · exact iRT.go 0 (f62_11_at74_ok L N d  _ h) (fun _ _ => rfl)
    · obtain ⟨i6, s5, h1, h⟩ := i_o2_inv h
      refine iRT.call (f64_11_25_ok L N (d + 0)  _ h1) ?_
      refine iRT.ov h fun h => ?_
      obtain ⟨s8, h1, h⟩ := i_o1_inv h
      refine iRT.call (f65_11_ok L N (d + 1)  _ h1) ?_
      exact iRT.go 0 (f62_11_at74_ok L N d  _ h) (fun _ _ => rfl)
  · exact iRT.go 0 (f62_11_at74_ok L N d  _ h) (fun _ _ => rfl)
set_option maxHeartbeats 100000 in
theorem f62_11_ok (L N d : Nat) (s : gI) {o : gI} (h : f62 N  s = some o) : iEE L (d + 5) 62 [vR 11] (s, g_rho) (none, (o, g_rho)) := by
  refine iEE.of (wr := false) (d := d + 4) (md := gm_62) rfl rfl rfl (iRR.of 16 ?_)
  obtain ⟨i2, s1, h1, h⟩ := i_o2_inv h
  refine iRT.call (f72_11_ok L N (d + 1) _ _ h1) ?_
  refine iRT.ite h (fun h => ?_) (fun h => ?_)
  · exact iRT.go 0 (f62_11_at32_ok L N d  _ h) (fun _ _ => rfl)
  · obtain ⟨i4, s3, h1, h⟩ := i_o2_inv h
    refine iRT.call (f64_11_28_ok L N (d + 0)  _ h1) ?_
    refine iRT.ov h fun h => ?_
    exact iRT.go 1 (f62_11_at32_ok L N d  _ h) (fun _ _ => rfl)
-- GutterNine.days
set_option maxHeartbeats 100000 in
theorem f144_0_at26_ok (L N d : Nat) : ∀ (n : Nat) (x1 : Int) (x2 : Int) (s : gI) (o : Int × gI), f144_at26 N n x1 x2 s = some o → iRR false L (d + 5) kj144 k144_26 [some (vR 0), some (vI x1), some (vI x2)] [] (s, g_rho) (some (vI o.1), (o.2, g_rho)) := by
  intro n
  induction n with
  | zero => intro _ _ _ _ h; cases h
  | succ n ih =>
    intro x1 x2 s o h
    refine iRR.of 401 ?_
    refine iRT.ite h (fun h => ?_) (fun h => ?_)
    · cases h
      exact iRT.ret
    · obtain ⟨s1, h1, h⟩ := i_o1_inv h
      refine iRT.call (f62_11_ok L N (d + 0)  _ h1) ?_
      refine iRT.ov h fun h => ?_
      exact iRT.go 1 (ih _ _ _ _ h) (fun _ _ => rfl)
set_option maxHeartbeats 100000 in
theorem f144_0_ok (L N d : Nat) (x1 : Int) (s : gI) {o : Int × gI} (h : f144 N x1 s = some o) : iEE L (d + 6) 144 [vR 0, vI x1] (s, g_rho) (some (vI o.1), (o.2, g_rho)) := by
  refine iEE.of (wr := false) (d := d + 5) (md := gm_144) rfl rfl rfl (iRR.of 401 ?_)
  refine iRT.ite h (fun h => ?_) (fun h => ?_)
  · cases h
    exact iRT.ret
  · refine iRT.ite h (fun h => ?_) (fun h => ?_)
    · obtain ⟨s1, h1, h⟩ := i_o1_inv h
      refine iRT.call (f42_41_6_ok L N (d + 3)  _ h1) ?_
      exact iRT.go 2 (f144_0_at26_ok L N d N _ _ _ _ h) (fun _ _ => rfl)
    · cases h
      exact iRT.ret
-- GutterNine$Play.bringFromOver
set_option maxHeartbeats 100000 in
theorem f66_11_at4_ok (L N d : Nat) : ∀ (n : Nat) (x1 : Int) (x2 : Int) (s : gI) (o : Int × gI), f66_at4 N n x1 x2 s = some o → iRR false L (d + 2) kj66 k66_4 [some (vR 11), some (vI x1), some (vI x2)] [] (s, g_rho) (some (vI o.1), (o.2, g_rho)) := by
  intro n
  induction n with
  | zero => intro _ _ _ _ h; cases h
  | succ n ih =>
    intro x1 x2 s o h
    refine iRR.of 401 ?_
    refine iRT.ite h (fun h => ?_) (fun h => ?_)
    · cases h
      exact iRT.ret
    · refine iRT.ck h fun h => ?_
      refine iRT.ite h (fun h => ?_) (fun h => ?_)
      · obtain ⟨s2, h1, h⟩ := i_o1_inv h
        refine iRT.call (f88_6_ok L N (d + 0) _ _ _ h1) ?_
        refine iRT.ov h fun h => ?_
        refine iRT.ov h fun h => ?_
        exact iRT.go 1 (ih _ _ _ _ h) (fun _ _ => rfl)
      · refine iRT.ov h fun h => ?_
        exact iRT.go 1 (ih _ _ _ _ h) (fun _ _ => rfl)
set_option maxHeartbeats 100000 in
theorem f66_11_ok (L N d : Nat) (s : gI) {o : Int × gI} (h : f66 N  s = some o) : iEE L (d + 3) 66 [vR 11] (s, g_rho) (some (vI o.1), (o.2, g_rho)) := by
  refine iEE.of (wr := false) (d := d + 2) (md := gm_66) rfl rfl rfl (iRR.of 5 ?_)
  exact iRT.go 4 (f66_11_at4_ok L N d N _ _ _ _ h) (fun _ _ => rfl)
-- GutterNine.fetch
set_option maxHeartbeats 100000 in
theorem f145_0_ok (L N d : Nat) (x1 : Int) (s : gI) {o : Int × gI} (h : f145 N x1 s = some o) : iEE L (d + 4) 145 [vR 0, vI x1] (s, g_rho) (some (vI o.1), (o.2, g_rho)) := by
  refine iEE.of (wr := false) (d := d + 3) (md := gm_145) rfl rfl rfl (iRR.of 401 ?_)
  obtain ⟨i2, s1, h1, h⟩ := i_o2_inv h
  refine iRT.call (f166_0_ok L N (d + 2) _ _ h1) ?_
  refine iRT.ite h (fun h => ?_) (fun h => ?_)
  · cases h
    exact iRT.ret
  · obtain ⟨s3, h1, h⟩ := i_o1_inv h
    refine iRT.call (f42_41_6_ok L N (d + 1)  _ h1) ?_
    obtain ⟨i5, s4, h1, h⟩ := i_o2_inv h
    refine iRT.call (f66_11_ok L N (d + 0)  _ h1) ?_
    cases h
    exact iRT.ret
-- java/util/Arrays.fill
set_option maxHeartbeats 100000 in
theorem f321_9_at5_ok (L N d : Nat) : ∀ (n : Nat) (x1 : Int) (x2 : Int) (x3 : Int) (s : gI) (o : gI), f321_at5 N 9 64 n x1 x2 x3 s = some o → iRR false L (d + 0) kj321 k321_5 [some (vR 9), some (vI x1), some (vI x2), some (vI x3)] [] (s, g_rho) (none, (o, g_rho)) := by
  intro n
  induction n with
  | zero => intro _ _ _ _ _ h; cases h
  | succ n ih =>
    intro x1 x2 x3 s o h
    refine iRR.of 401 ?_
    refine iRT.ite h (fun h => ?_) (fun h => ?_)
    · cases h
      exact iRT.ret
    · refine iRT.ck h fun h => ?_
      refine iRT.ov h fun h => ?_
      exact iRT.go 1 (ih _ _ _ _ _ h) (fun _ _ => rfl)
set_option maxHeartbeats 100000 in
theorem f321_9_ok (L N d : Nat) (x1 : Int) (s : gI) {o : gI} (h : f321 N 9 64 x1 s = some o) : iEE L (d + 1) 321 [vR 9, vI x1] (s, g_rho) (none, (o, g_rho)) := by
  refine iEE.of (wr := false) (d := d + 0) (md := gm_321) rfl rfl rfl (iRR.of 6 ?_)
  replace h := (iov_inv h).2
  exact iRT.go 5 (f321_9_at5_ok L N d N _ _ _ _ _ h) (fun _ _ => rfl)
-- GutterNine$Scene.load
set_option maxHeartbeats 100000 in
theorem f91_6_42_at63_ok (L N d : Nat) : ∀ (n : Nat) (x4 : Int) {u1 u2 u3 u5 : Option iV} (s : gI) (o : gI), f91_at63 N 42 416 n x4 s = some o → iRR false L (d + 1) kj91 k91_63 [some (vR 6), u1, u2, u3, some (vI x4), u5] [] (s, g_rho) (none, (o, g_rho)) := by
  intro n
  induction n with
  | zero => intro _ _ _ _ _ _ _ h; cases h
  | succ n ih =>
    intro x4 u1 u2 u3 u5 s o h
    refine iRR.of 401 ?_
    refine iRT.ite h (fun h => ?_) (fun h => ?_)
    · cases h
      exact iRT.ret
    · refine iRT.ck h fun h => ?_
      obtain ⟨i2, s1, h1, h⟩ := i_o2_inv h
      refine iRT.call (f89_ok L N (d + 0) _ _ h1) ?_
      refine iRT.ite h (fun h => ?_) (fun h => ?_)
      · refine iRT.ov h fun h => ?_
        exact iRT.go 1 (ih _ _ _ h) (fun _ _ => rfl)
      · refine iRT.ck h fun h => ?_
        refine iRT.ov h fun h => ?_
        exact iRT.go 1 (ih _ _ _ h) (fun _ _ => rfl)
set_option maxHeartbeats 100000 in
theorem f91_6_42_ok (L N d : Nat) (x2 : Int) (s : gI) {o : gI} (h : f91 N 42 416 x2 s = some o) : iEE L (d + 2) 91 [vR 6, vR 42, vI x2] (s, g_rho) (none, (o, g_rho)) := by
  refine iEE.of (wr := false) (d := d + 1) (md := gm_91) rfl rfl rfl (iRR.of 41 ?_)
  refine iRT.ov h fun h => ?_
  refine iRT.cp h fun h => ?_
  refine iRT.ov h fun h => ?_
  refine iRT.cp h fun h => ?_
  refine iRT.ov h fun h => ?_
  refine iRT.ck h fun h => ?_
  refine iRT.ov h fun h => ?_
  refine iRT.ck h fun h => ?_
  obtain ⟨s6, h1, h⟩ := i_o1_inv h
  refine iRT.call (f321_9_ok L N (d + 0) _ _ h1) ?_
  exact iRT.go 2 (f91_6_42_at63_ok L N d N _ _ _ h) (fun _ _ => rfl)
-- GutterNine$Past.stepBack
set_option maxHeartbeats 100000 in
theorem f43_41_6_ok (L N d : Nat) (s : gI) {o : Int × gI} (h : f43 N  s = some o) : iEE L (d + 3) 43 [vR 41, vR 6] (s, g_rho) (some (vI o.1), (o.2, g_rho)) := by
  refine iEE.of (wr := false) (d := d + 2) (md := gm_43) rfl rfl rfl (iRR.of 401 ?_)
  refine iRT.ite h (fun h => ?_) (fun h => ?_)
  · replace h := (ib1_inv h).2
    cases h
    exact iRT.ret
  · refine iRT.ov h fun h => ?_
    refine iRT.ov h fun h => ?_
    refine iRT.ov h fun h => ?_
    refine iRT.dv h fun h => ?_
    obtain ⟨s3, h1, h⟩ := i_o1_inv h
    refine iRT.call (f91_6_42_ok L N (d + 0) _ _ h1) ?_
    replace h := (ib1_inv h).2
    cases h
    exact iRT.ret
-- GutterNine.undo
set_option maxHeartbeats 100000 in
theorem f146_0_ok (L N d : Nat) (s : gI) {o : Int × gI} (h : f146 N  s = some o) : iEE L (d + 4) 146 [vR 0] (s, g_rho) (some (vI o.1), (o.2, g_rho)) := by
  refine iEE.of (wr := false) (d := d + 3) (md := gm_146) rfl rfl rfl (iRR.of 401 ?_)
  obtain ⟨i2, s1, h1, h⟩ := i_o2_inv h
  refine iRT.call (f43_41_6_ok L N (d + 0)  _ h1) ?_
  refine iRT.b1 h fun h => ?_
  cases h
  exact iRT.ret
-- GutterNine$Roof.canHold
set_option maxHeartbeats 100000 in
theorem f79_12_ok (L N d : Nat) (x1 : Int) (x2 : Int) (s : gI) {o : Int × gI} (h : f79 N x1 x2 s = some o) : iEE L (d + 2) 79 [vR 12, vI x1, vI x2] (s, g_rho) (some (vI o.1), (o.2, g_rho)) := by
  refine iEE.of (wr := false) (d := d + 1) (md := gm_79) rfl rfl rfl (iRR.of 401 ?_)
  obtain ⟨i2, s1, h1, h⟩ := i_o2_inv h
  refine iRT.call (f78_12_ok L N (d + 0) _ _ _ h1) ?_
  refine iRT.ite h (fun h => ?_) (fun h => ?_)
  · replace h := (ib1_inv h).2
    cases h
    exact iRT.ret
  · refine iRT.ov h fun h => ?_
    refine iRT.ov h fun h => ?_
    refine iRT.ck h fun h => ?_
    refine iRT.ite h (fun h => ?_) (fun h => ?_)
    · replace h := (ib1_inv h).2
      cases h
      exact iRT.ret
    · replace h := (ib1_inv h).2
      cases h
      exact iRT.ret
-- GutterNine.rolls
set_option maxHeartbeats 100000 in
theorem f147_0_ok (L N d : Nat) (x1 : Int) (x2 : Int) (s : gI) {o : Int × gI} (h : f147 N x1 x2 s = some o) : iEE L (d + 3) 147 [vR 0, vI x1, vI x2] (s, g_rho) (some (vI o.1), (o.2, g_rho)) := by
  refine iEE.of (wr := false) (d := d + 2) (md := gm_147) rfl rfl rfl (iRR.of 401 ?_)
  obtain ⟨i2, s1, h1, h⟩ := i_o2_inv h
  refine iRT.call (f79_12_ok L N (d + 0) _ _ _ h1) ?_
  refine iRT.ite h (fun h => ?_) (fun h => ?_)
  · cases h
    exact iRT.ret
  · refine iRT.ov h fun h => ?_
    refine iRT.ov h fun h => ?_
    refine iRT.ck h fun h => ?_
    refine iRT.ite h (fun h => ?_) (fun h => ?_)
    · obtain ⟨i5, s4, h1, h⟩ := i_o2_inv h
      refine iRT.call (f84_12_9_ok L N (d + 0) _ _ _ h1) ?_
      obtain ⟨i7, s6, h1, h⟩ := i_o2_inv h
      refine iRT.call (f171_ok L N (d + 1) _ _ h1) ?_
      cases h
      exact iRT.ret
    · cases h
      exact iRT.ret
-- GutterNine$Chooser.isSo
set_option maxHeartbeats 100000 in
theorem f2_32_ok (L N d : Nat) (x1 : Int) (x2 : Int) (x3 : Int) (s : gI) {o : Int × gI} (h : f2 N x1 x2 x3 s = some o) : iEE L (d + 2) 2 [vR 32, vI x1, vI x2, vI x3] (s, g_rho) (some (vI o.1), (o.2, g_rho)) := by
  refine iEE.of (wr := false) (d := d + 1) (md := gm_2) rfl rfl rfl (iRR.of 401 ?_)
  refine iRT.ck h fun h => ?_
  obtain ⟨i2, s1, h1, h⟩ := i_o2_inv h
  refine iRT.call (f171_ok L N (d + 0) _ _ h1) ?_
  rcases iRT.cs h with ⟨hx0, h⟩ | ⟨hx0, h⟩
  · refine iRT.swin hx0 (off := 29) (by decide) (by decide) (by decide) ?_
    refine iRT.ite h (fun h => ?_) (fun h => ?_)
    · replace h := (ib1_inv h).2
      cases h
      exact iRT.ret
    · refine iRT.ck h fun h => ?_
      refine iRT.ite h (fun h => ?_) (fun h => ?_)
      · replace h := (ib1_inv h).2
        cases h
        exact iRT.ret
      · replace h := (ib1_inv h).2
        cases h
        exact iRT.ret
  · skip
    rcases iRT.cs h with ⟨hx1, h⟩ | ⟨hx1, h⟩
    · refine iRT.swin hx1 (off := 54) (by decide) (by decide) (by decide) ?_
      refine iRT.ite h (fun h => ?_) (fun h => ?_)
      · replace h := (ib1_inv h).2
        cases h
        exact iRT.ret
      · replace h := (ib1_inv h).2
        cases h
        exact iRT.ret
    · skip
      rcases iRT.cs h with ⟨hx2, h⟩ | ⟨hx2, h⟩
      · refine iRT.swin hx2 (off := 67) (by decide) (by decide) (by decide) ?_
        refine iRT.ite h (fun h => ?_) (fun h => ?_)
        · replace h := (ib1_inv h).2
          cases h
          exact iRT.ret
        · replace h := (ib1_inv h).2
          cases h
          exact iRT.ret
      · skip
        rcases iRT.cs h with ⟨hx3, h⟩ | ⟨hx3, h⟩
        · refine iRT.swin hx3 (off := 80) (by decide) (by decide) (by decide) ?_
          refine iRT.ite h (fun h => ?_) (fun h => ?_)
          · replace h := (ib1_inv h).2
            cases h
            exact iRT.ret
          · replace h := (ib1_inv h).2
            cases h
            exact iRT.ret
        · skip
          refine iRT.swout (by omega) (by decide) ?_
          refine iRT.ite h (fun h => ?_) (fun h => ?_)
          · replace h := (ib1_inv h).2
            cases h
            exact iRT.ret
          · replace h := (ib1_inv h).2
            cases h
            exact iRT.ret
-- GutterNine$Play.takeBack
set_option maxHeartbeats 100000 in
theorem f50_11_ok (L N d : Nat) (x1 : Int) (x2 : Int) (x3 : Int) (x4 : Int) (s : gI) {o : gI} (h : f50 N x1 x2 x3 x4 s = some o) : iEE L (d + 3) 50 [vR 11, vI x1, vI x2, vI x3, vI x4] (s, g_rho) (none, (o, g_rho)) := by
  refine iEE.of (wr := false) (d := d + 2) (md := gm_50) rfl rfl rfl (iRR.of 401 ?_)
  obtain ⟨s1, h1, h⟩ := i_o1_inv h
  refine iRT.call (f88_6_ok L N (d + 0) _ _ _ h1) ?_
  refine iRT.ite h (fun h => ?_) (fun h => ?_)
  · cases h
    exact iRT.ret
  · refine iRT.ov h fun h => ?_
    refine iRT.ov h fun h => ?_
    obtain ⟨s2, h1, h⟩ := i_o1_inv h
    refine iRT.call (f88_6_ok L N (d + 0) _ _ _ h1) ?_
    cases h
    exact iRT.ret
-- GutterNine.weight
set_option maxHeartbeats 100000 in
theorem f172_ok (L N d : Nat) (x0 : Int) (x1 : Int) (s : gI) {o : Int × gI} (h : f172 N x0 x1 s = some o) : iEE L (d + 1) 172 [vI x0, vI x1] (s, g_rho) (some (vI o.1), (o.2, g_rho)) := by
  refine iEE.of (wr := false) (d := d + 0) (md := gm_172) rfl rfl rfl (iRR.of 401 ?_)
  refine iRT.ite h (fun h => ?_) (fun h => ?_)
  · refine iRT.ov h fun h => ?_
    cases h
    exact iRT.ret
  · refine iRT.ov h fun h => ?_
    cases h
    exact iRT.ret
-- GutterNine$Chooser.chance
set_option maxHeartbeats 100000 in
theorem f1_32_at87_ok (L N d : Nat) {r_at6 : Int → Int → Int → Int → Int → Int → gI → Option (Int × gI)} (h_at6 : ∀ x1 x2 x3 x4 x5 x6 u7 u8 u9 s o, r_at6 x1 x2 x3 x4 x5 x6 s = some o → iRR false L (d + 4) kj1 k1_6 [some (vR 32), some (vI x1), some (vI x2), some (vI x3), some (vI x4), some (vI x5), some (vI x6), u7, u8, u9] [] (s, g_rho) (some (vI o.1), (o.2, g_rho))) (x1 : Int) (x2 : Int) (x3 : Int) (x4 : Int) (x5 : Int) (x6 : Int) (x7 : Int) (x8 : Int) (x9 : Int) (s : gI) {o : Int × gI} (h : f1_at87 N r_at6 x1 x2 x3 x4 x5 x6 x7 x8 x9 s = some o) : iRR false L (d + 4) kj1 k1_87 [some (vR 32), some (vI x1), some (vI x2), some (vI x3), some (vI x4), some (vI x5), some (vI x6), some (vI x7), some (vI x8), some (vI x9)] [] (s, g_rho) (some (vI o.1), (o.2, g_rho)) := by
  refine iRR.of 10 ?_
  obtain ⟨s1, h1, h⟩ := i_o1_inv h
  refine iRT.call (f50_11_ok L N (d + 1) _ _ _ _ _ h1) ?_
  refine iRT.ov h fun h => ?_
  exact iRT.go 1 (h_at6 _ _ _ _ _ _ _ _ _ _ _ h) (fun _ _ => rfl)
set_option maxHeartbeats 100000 in
theorem f1_32_at6_ok (L N d : Nat) : ∀ (n : Nat) (x1 : Int) (x2 : Int) (x3 : Int) (x4 : Int) (x5 : Int) (x6 : Int) {u7 u8 u9 : Option iV} (s : gI) (o : Int × gI), f1_at6 N n x1 x2 x3 x4 x5 x6 s = some o → iRR false L (d + 4) kj1 k1_6 [some (vR 32), some (vI x1), some (vI x2), some (vI x3), some (vI x4), some (vI x5), some (vI x6), u7, u8, u9] [] (s, g_rho) (some (vI o.1), (o.2, g_rho)) := by
  intro n
  induction n with
  | zero => intro _ _ _ _ _ _ _ _ _ _ _ h; cases h
  | succ n ih =>
    intro x1 x2 x3 x4 x5 x6 u7 u8 u9 s o h
    refine iRR.of 401 ?_
    refine iRT.ite h (fun h => ?_) (fun h => ?_)
    · cases h
      exact iRT.ret
    · refine iRT.dv h fun h => ?_
      refine iRT.ck h fun h => ?_
      refine iRT.ov h fun h => ?_
      refine iRT.dv h fun h => ?_
      refine iRT.ck h fun h => ?_
      refine iRT.ov h fun h => ?_
      obtain ⟨i4, s3, h1, h⟩ := i_o2_inv h
      refine iRT.call (f49_11_ok L N (d + 0) _ _ _ _ h1) ?_
      obtain ⟨i6, s5, h1, h⟩ := i_o2_inv h
      refine iRT.call (f2_32_ok L N (d + 2) _ _ _ _ h1) ?_
      refine iRT.ite h (fun h => ?_) (fun h => ?_)
      · exact iRT.go 0 (f1_32_at87_ok L N d (fun a0 a1 a2 a3 a4 a5 b0 b1 b2 s o h => ih a0 a1 a2 a3 a4 a5 s o h) _ _ _ _ _ _ _ _ _ _ h) (fun _ _ => rfl)
      · refine iRT.ck h fun h => ?_
        obtain ⟨i8, s7, h1, h⟩ := i_o2_inv h
        refine iRT.call (f172_ok L N (d + 3) _ _ _ h1) ?_
        refine iRT.ov h fun h => ?_
        exact iRT.go 1 (f1_32_at87_ok L N d (fun a0 a1 a2 a3 a4 a5 b0 b1 b2 s o h => ih a0 a1 a2 a3 a4 a5 s o h) _ _ _ _ _ _ _ _ _ _ h) (fun _ _ => rfl)
set_option maxHeartbeats 100000 in
theorem f1_32_ok (L N d : Nat) (x1 : Int) (x2 : Int) (x3 : Int) (x4 : Int) (s : gI) {o : Int × gI} (h : f1 N x1 x2 x3 x4 s = some o) : iEE L (d + 5) 1 [vR 32, vI x1, vI x2, vI x3, vI x4] (s, g_rho) (some (vI o.1), (o.2, g_rho)) := by
  refine iEE.of (wr := false) (d := d + 4) (md := gm_1) rfl rfl rfl (iRR.of 5 ?_)
  exact iRT.go 4 (f1_32_at6_ok L N d N _ _ _ _ _ _ _ _ h) (fun _ _ => rfl)
-- GutterNine.odds
set_option maxHeartbeats 100000 in
theorem f148_0_ok (L N d : Nat) (x1 : Int) (x2 : Int) (x3 : Int) (x4 : Int) (x5 : Int) (s : gI) {o : Int × gI} (h : f148 N x1 x2 x3 x4 x5 s = some o) : iEE L (d + 6) 148 [vR 0, vI x1, vI x2, vI x3, vI x4, vI x5] (s, g_rho) (some (vI o.1), (o.2, g_rho)) := by
  refine iEE.of (wr := false) (d := d + 5) (md := gm_148) rfl rfl rfl (iRR.of 401 ?_)
  obtain ⟨i2, s1, h1, h⟩ := i_o2_inv h
  refine iRT.call (f169_0_ok L N (d + 3) _ _ _ _ _ h1) ?_
  refine iRT.ite h (fun h => ?_) (fun h => ?_)
  · cases h
    exact iRT.ret
  · refine iRT.ite h (fun h => ?_) (fun h => ?_)
    · cases h
      exact iRT.ret
    · refine iRT.ite h (fun h => ?_) (fun h => ?_)
      · refine iRT.ov h fun h => ?_
        refine iRT.ov h fun h => ?_
        obtain ⟨i4, s3, h1, h⟩ := i_o2_inv h
        refine iRT.call (f1_32_ok L N (d + 0) _ _ _ _ _ h1) ?_
        cases h
        exact iRT.ret
      · cases h
        exact iRT.ret
-- GutterNine$Chooser.landingGain
set_option maxHeartbeats 100000 in
theorem f4_32_at84_ok (L N d : Nat) (x1 : Int) (x2 : Int) (x3 : Int) (x4 : Int) (x5 : Int) (s : gI) {o : Int × gI} (h : f4_at84 N x1 x2 x3 x4 x5 s = some o) : iRR false L (d + 4) kj4 k4_84 [some (vR 32), some (vI x1), some (vI x2), some (vI x3), some (vI x4), some (vI x5)] [] (s, g_rho) (some (vI o.1), (o.2, g_rho)) := by
  refine iRR.of 401 ?_
  obtain ⟨s1, h1, h⟩ := i_o1_inv h
  refine iRT.call (f50_11_ok L N (d + 1) _ _ _ _ _ h1) ?_
  cases h
  exact iRT.ret
set_option maxHeartbeats 100000 in
theorem f4_32_at43_ok (L N d : Nat) (x1 : Int) (x2 : Int) (x3 : Int) (x4 : Int) (z0 : Int) {u5 : Option iV} (s : gI) {o : Int × gI} (h : f4_at43 N x1 x2 x3 x4 z0 s = some o) : iRR false L (d + 4) kj4 k4_43 [some (vR 32), some (vI x1), some (vI x2), some (vI x3), some (vI x4), u5] [vI z0] (s, g_rho) (some (vI o.1), (o.2, g_rho)) := by
  refine iRR.of 21 ?_
  refine iRT.ite h (fun h => ?_) (fun h => ?_)
  · exact iRT.go 0 (f4_32_at84_ok L N d _ _ _ _ _ _ h) (fun _ _ => rfl)
  · refine iRT.ck h fun h => ?_
    refine iRT.ite h (fun h => ?_) (fun h => ?_)
    · refine iRT.ck h fun h => ?_
      refine iRT.ov h fun h => ?_
      exact iRT.go 1 (f4_32_at84_ok L N d _ _ _ _ _ _ h) (fun _ _ => rfl)
    · exact iRT.go 0 (f4_32_at84_ok L N d _ _ _ _ _ _ h) (fun _ _ => rfl)
set_option maxHeartbeats 100000 in
theorem f4_32_ok (L N d : Nat) (x1 : Int) (x2 : Int) (x3 : Int) (s : gI) {o : Int × gI} (h : f4 N x1 x2 x3 s = some o) : iEE L (d + 5) 4 [vR 32, vI x1, vI x2, vI x3] (s, g_rho) (some (vI o.1), (o.2, g_rho)) := by
  refine iEE.of (wr := false) (d := d + 4) (md := gm_4) rfl rfl rfl (iRR.of 22 ?_)
  obtain ⟨i2, s1, h1, h⟩ := i_o2_inv h
  refine iRT.call (f49_11_ok L N (d + 0) _ _ _ _ h1) ?_
  refine iRT.ck h fun h => ?_
  refine iRT.ite h (fun h => ?_) (fun h => ?_)
  · exact iRT.go 2 (f4_32_at43_ok L N d _ _ _ _ _ _ h) (fun _ _ => rfl)
  · refine iRT.ck h fun h => ?_
    refine iRT.ov h fun h => ?_
    exact iRT.go 0 (f4_32_at43_ok L N d _ _ _ _ _ _ h) (fun _ _ => rfl)
-- GutterNine$Chooser.gainOf
set_option maxHeartbeats 100000 in
theorem f3_32_at6_ok (L N d : Nat) : ∀ (n : Nat) (x1 : Int) (x2 : Int) (x3 : Int) (x4 : Int) (x5 : Int) {u6 : Option iV} (s : gI) (o : Int × gI), f3_at6 N n x1 x2 x3 x4 x5 s = some o → iRR false L (d + 5) kj3 k3_6 [some (vR 32), some (vI x1), some (vI x2), some (vI x3), some (vI x4), some (vI x5), u6] [] (s, g_rho) (some (vI o.1), (o.2, g_rho)) := by
  intro n
  induction n with
  | zero => intro _ _ _ _ _ _ _ _ h; cases h
  | succ n ih =>
    intro x1 x2 x3 x4 x5 u6 s o h
    refine iRR.of 401 ?_
    refine iRT.ite h (fun h => ?_) (fun h => ?_)
    · cases h
      exact iRT.ret
    · refine iRT.dv h fun h => ?_
      refine iRT.ck h fun h => ?_
      refine iRT.ov h fun h => ?_
      refine iRT.dv h fun h => ?_
      refine iRT.ck h fun h => ?_
      refine iRT.ov h fun h => ?_
      obtain ⟨i2, s1, h1, h⟩ := i_o2_inv h
      refine iRT.call (f4_32_ok L N (d + 0) _ _ _ _ h1) ?_
      refine iRT.ck h fun h => ?_
      obtain ⟨i4, s3, h1, h⟩ := i_o2_inv h
      refine iRT.call (f172_ok L N (d + 4) _ _ _ h1) ?_
      refine iRT.ov h fun h => ?_
      refine iRT.ov h fun h => ?_
      refine iRT.ov h fun h => ?_
      exact iRT.go 1 (ih _ _ _ _ _ _ _ h) (fun _ _ => rfl)
set_option maxHeartbeats 100000 in
theorem f3_32_ok (L N d : Nat) (x1 : Int) (x2 : Int) (x3 : Int) (s : gI) {o : Int × gI} (h : f3 N x1 x2 x3 s = some o) : iEE L (d + 6) 3 [vR 32, vI x1, vI x2, vI x3] (s, g_rho) (some (vI o.1), (o.2, g_rho)) := by
  refine iEE.of (wr := false) (d := d + 5) (md := gm_3) rfl rfl rfl (iRR.of 5 ?_)
  exact iRT.go 4 (f3_32_at6_ok L N d N _ _ _ _ _ _ _ h) (fun _ _ => rfl)
-- GutterNine.gain
set_option maxHeartbeats 100000 in
theorem f149_0_ok (L N d : Nat) (x1 : Int) (x2 : Int) (x3 : Int) (x4 : Int) (s : gI) {o : Int × gI} (h : f149 N x1 x2 x3 x4 s = some o) : iEE L (d + 7) 149 [vR 0, vI x1, vI x2, vI x3, vI x4] (s, g_rho) (some (vI o.1), (o.2, g_rho)) := by
  refine iEE.of (wr := false) (d := d + 6) (md := gm_149) rfl rfl rfl (iRR.of 401 ?_)
  obtain ⟨i2, s1, h1, h⟩ := i_o2_inv h
  refine iRT.call (f169_0_ok L N (d + 4) _ _ _ _ _ h1) ?_
  refine iRT.ite h (fun h => ?_) (fun h => ?_)
  · cases h
  · refine iRT.ov h fun h => ?_
    refine iRT.ov h fun h => ?_
    obtain ⟨i4, s3, h1, h⟩ := i_o2_inv h
    refine iRT.call (f3_32_ok L N (d + 0) _ _ _ _ h1) ?_
    cases h
    exact iRT.ret
-- GutterNine.anybodyCanThrow
set_option maxHeartbeats 100000 in
theorem f170_0_ok (L N d : Nat) (s : gI) {o : Int × gI} (h : f170 N  s = some o) : iEE L (d + 4) 170 [vR 0] (s, g_rho) (some (vI o.1), (o.2, g_rho)) := by
  refine iEE.of (wr := false) (d := d + 3) (md := gm_170) rfl rfl rfl (iRR.of 401 ?_)
  refine iRT.ite h (fun h => ?_) (fun h => ?_)
  · replace h := (ib1_inv h).2
    cases h
    exact iRT.ret
  · obtain ⟨i2, s1, h1, h⟩ := i_o2_inv h
    refine iRT.call (f72_11_ok L N (d + 0) _ _ h1) ?_
    refine iRT.ite h (fun h => ?_) (fun h => ?_)
    · replace h := (ib1_inv h).2
      cases h
      exact iRT.ret
    · replace h := (ib1_inv h).2
      cases h
      exact iRT.ret
-- java/util/Arrays.fill
set_option maxHeartbeats 100000 in
theorem f321_34_at5_ok (L N d : Nat) : ∀ (n : Nat) (x1 : Int) (x2 : Int) (x3 : Int) (s : gI) (o : gI), f321_at5 N 34 4 n x1 x2 x3 s = some o → iRR false L (d + 0) kj321 k321_5 [some (vR 34), some (vI x1), some (vI x2), some (vI x3)] [] (s, g_rho) (none, (o, g_rho)) := by
  intro n
  induction n with
  | zero => intro _ _ _ _ _ h; cases h
  | succ n ih =>
    intro x1 x2 x3 s o h
    refine iRR.of 401 ?_
    refine iRT.ite h (fun h => ?_) (fun h => ?_)
    · cases h
      exact iRT.ret
    · refine iRT.ck h fun h => ?_
      refine iRT.ov h fun h => ?_
      exact iRT.go 1 (ih _ _ _ _ _ h) (fun _ _ => rfl)
set_option maxHeartbeats 100000 in
theorem f321_34_ok (L N d : Nat) (x1 : Int) (s : gI) {o : gI} (h : f321 N 34 4 x1 s = some o) : iEE L (d + 1) 321 [vR 34, vI x1] (s, g_rho) (none, (o, g_rho)) := by
  refine iEE.of (wr := false) (d := d + 0) (md := gm_321) rfl rfl rfl (iRR.of 6 ?_)
  replace h := (iov_inv h).2
  exact iRT.go 5 (f321_34_at5_ok L N d N _ _ _ _ _ h) (fun _ _ => rfl)
-- GutterNine$Chooser.tabulate
set_option maxHeartbeats 100000 in
theorem f6_32_at18_ok (L N d : Nat) {r_at2 : Int → Int → gI → Option (gI)} (h_at2 : ∀ x1 x2 u3 s o, r_at2 x1 x2 s = some o → iRR false L (d + 5) kj6 k6_2 [some (vR 32), some (vI x1), some (vI x2), u3] [] (s, g_rho) (none, (o, g_rho))) : ∀ (n : Nat) (x1 : Int) (x2 : Int) (x3 : Int) (s : gI) (o : gI), f6_at18 N r_at2 n x1 x2 x3 s = some o → iRR false L (d + 5) kj6 k6_18 [some (vR 32), some (vI x1), some (vI x2), some (vI x3)] [] (s, g_rho) (none, (o, g_rho)) := by
  intro n
  induction n with
  | zero => intro _ _ _ _ _ h; cases h
  | succ n ih =>
    intro x1 x2 x3 s o h
    refine iRR.of 26 ?_
    refine iRT.ite h (fun h => ?_) (fun h => ?_)
    · refine iRT.ov h fun h => ?_
      exact iRT.go 1 (h_at2 _ _ _ _ _ h) (fun _ _ => rfl)
    · refine iRT.ov h fun h => ?_
      refine iRT.ov h fun h => ?_
      refine iRT.ov h fun h => ?_
      refine iRT.ov h fun h => ?_
      obtain ⟨i3, s2, h1, h⟩ := i_o2_inv h
      refine iRT.call (f4_32_ok L N (d + 0) _ _ _ _ h1) ?_
      refine iRT.ck h fun h => ?_
      refine iRT.ov h fun h => ?_
      exact iRT.go 1 (ih _ _ _ _ _ h) (fun _ _ => rfl)
set_option maxHeartbeats 100000 in
theorem f6_32_at2_ok (L N d : Nat) : ∀ (n : Nat) (x1 : Int) (x2 : Int) {u3 : Option iV} (s : gI) (o : gI), f6_at2 N n x1 x2 s = some o → iRR false L (d + 5) kj6 k6_2 [some (vR 32), some (vI x1), some (vI x2), u3] [] (s, g_rho) (none, (o, g_rho)) := by
  intro n
  induction n with
  | zero => intro _ _ _ _ _ h; cases h
  | succ n ih =>
    intro x1 x2 u3 s o h
    refine iRR.of 401 ?_
    refine iRT.ite h (fun h => ?_) (fun h => ?_)
    · cases h
      exact iRT.ret
    · exact iRT.go 2 (f6_32_at18_ok L N d (fun a0 a1 b0 s o h => ih a0 a1 s o h) N _ _ _ _ _ h) (fun _ _ => rfl)
set_option maxHeartbeats 100000 in
theorem f6_32_ok (L N d : Nat) (x1 : Int) (s : gI) {o : gI} (h : f6 N x1 s = some o) : iEE L (d + 6) 6 [vR 32, vI x1] (s, g_rho) (none, (o, g_rho)) := by
  refine iEE.of (wr := false) (d := d + 5) (md := gm_6) rfl rfl rfl (iRR.of 3 ?_)
  exact iRT.go 2 (f6_32_at2_ok L N d N _ _ _ _ h) (fun _ _ => rfl)
-- GutterNine$Chooser.mean
set_option maxHeartbeats 100000 in
theorem f9_32_ok (L N d : Nat) (x1 : Int) (x2 : Int) (x3 : Int) (s : gI) {o : Int × gI} (h : f9 N x1 x2 x3 s = some o) : iEE L (d + 2) 9 [vR 32, vI x1, vI x2, vI x3] (s, g_rho) (some (vI o.1), (o.2, g_rho)) := by
  refine iEE.of (wr := false) (d := d + 1) (md := gm_9) rfl rfl rfl (iRR.of 401 ?_)
  refine iRT.ck h fun h => ?_
  obtain ⟨i3, s2, h1, h⟩ := i_o2_inv h
  refine iRT.call (f172_ok L N (d + 0) _ _ _ h1) ?_
  refine iRT.ov h fun h => ?_
  obtain ⟨i5, s4, h1, h⟩ := i_o2_inv h
  refine iRT.call (f172_ok L N (d + 0) _ _ _ h1) ?_
  refine iRT.ov h fun h => ?_
  refine iRT.ov h fun h => ?_
  cases h
  exact iRT.ret
-- GutterNine$Chooser.compare
set_option maxHeartbeats 100000 in
theorem f8_32_at3_ok (L N d : Nat) : ∀ (n : Nat) (x1 : Int) (x2 : Int) (x3 : Int) (x4 : Int) (x5 : Int) {u6 : Option iV} (s : gI) (o : gI), f8_at3 N n x1 x2 x3 x4 x5 s = some o → iRR false L (d + 2) kj8 k8_3 [some (vR 32), some (vI x1), some (vI x2), some (vI x3), some (vI x4), some (vI x5), u6] [] (s, g_rho) (none, (o, g_rho)) := by
  intro n
  induction n with
  | zero => intro _ _ _ _ _ _ _ _ h; cases h
  | succ n ih =>
    intro x1 x2 x3 x4 x5 u6 s o h
    refine iRR.of 401 ?_
    refine iRT.ite h (fun h => ?_) (fun h => ?_)
    · cases h
      exact iRT.ret
    · obtain ⟨i2, s1, h1, h⟩ := i_o2_inv h
      refine iRT.call (f9_32_ok L N (d + 0) _ _ _ _ h1) ?_
      refine iRT.ck h fun h => ?_
      refine iRT.ite h (fun h => ?_) (fun h => ?_)
      · refine iRT.ov h fun h => ?_
        exact iRT.go 1 (ih _ _ _ _ _ _ _ h) (fun _ _ => rfl)
      · refine iRT.ck h fun h => ?_
        refine iRT.ck h fun h => ?_
        refine iRT.ck h fun h => ?_
        refine iRT.ov h fun h => ?_
        exact iRT.go 1 (ih _ _ _ _ _ _ _ h) (fun _ _ => rfl)
set_option maxHeartbeats 100000 in
theorem f8_32_ok (L N d : Nat) (x1 : Int) (x2 : Int) (x3 : Int) (x4 : Int) (s : gI) {o : gI} (h : f8 N x1 x2 x3 x4 s = some o) : iEE L (d + 3) 8 [vR 32, vI x1, vI x2, vI x3, vI x4] (s, g_rho) (none, (o, g_rho)) := by
  refine iEE.of (wr := false) (d := d + 2) (md := gm_8) rfl rfl rfl (iRR.of 3 ?_)
  exact iRT.go 2 (f8_32_at3_ok L N d N _ _ _ _ _ _ _ h) (fun _ _ => rfl)
-- GutterNine$Chooser.chooseCells
set_option maxHeartbeats 100000 in
theorem f7_32_at50_ok (L N d : Nat) {r_at18 : Int → Int → Int → gI → Option (gI)} (h_at18 : ∀ x1 x2 x3 u4 u5 u6 s o, r_at18 x1 x2 x3 s = some o → iRR false L (d + 3) kj7 k7_18 [some (vR 32), some (vI x1), some (vI x2), some (vI x3), u4, u5, u6] [] (s, g_rho) (none, (o, g_rho))) : ∀ (n : Nat) (x1 : Int) (x2 : Int) (x3 : Int) (x4 : Int) (x5 : Int) (x6 : Int) (s : gI) (o : gI), f7_at50 N r_at18 n x1 x2 x3 x4 x5 x6 s = some o → iRR false L (d + 3) kj7 k7_50 [some (vR 32), some (vI x1), some (vI x2), some (vI x3), some (vI x4), some (vI x5), some (vI x6)] [] (s, g_rho) (none, (o, g_rho)) := by
  intro n
  induction n with
  | zero => intro _ _ _ _ _ _ _ _ h; cases h
  | succ n ih =>
    intro x1 x2 x3 x4 x5 x6 s o h
    refine iRR.of 23 ?_
    refine iRT.ite h (fun h => ?_) (fun h => ?_)
    · refine iRT.ov h fun h => ?_
      refine iRT.ov h fun h => ?_
      refine iRT.ck h fun h => ?_
      obtain ⟨s1, h1, h⟩ := i_o1_inv h
      refine iRT.call (f8_32_ok L N (d + 0) _ _ _ _ _ h1) ?_
      refine iRT.ov h fun h => ?_
      exact iRT.go 1 (h_at18 _ _ _ _ _ _ _ _ h) (fun _ _ => rfl)
    · refine iRT.ck h fun h => ?_
      refine iRT.ov h fun h => ?_
      refine iRT.ov h fun h => ?_
      refine iRT.ck h fun h => ?_
      refine iRT.ov h fun h => ?_
      refine iRT.ck h fun h => ?_
      refine iRT.ov h fun h => ?_
      refine iRT.ov h fun h => ?_
      exact iRT.go 1 (ih _ _ _ _ _ _ _ _ h) (fun _ _ => rfl)
set_option maxHeartbeats 100000 in
theorem f7_32_at18_ok (L N d : Nat) {r_at2 : Int → Int → gI → Option (gI)} (h_at2 : ∀ x1 x2 u3 u4 u5 u6 s o, r_at2 x1 x2 s = some o → iRR false L (d + 3) kj7 k7_2 [some (vR 32), some (vI x1), some (vI x2), u3, u4, u5, u6] [] (s, g_rho) (none, (o, g_rho))) : ∀ (n : Nat) (x1 : Int) (x2 : Int) (x3 : Int) {u4 u5 u6 : Option iV} (s : gI) (o : gI), f7_at18 N r_at2 n x1 x2 x3 s = some o → iRR false L (d + 3) kj7 k7_18 [some (vR 32), some (vI x1), some (vI x2), some (vI x3), u4, u5, u6] [] (s, g_rho) (none, (o, g_rho)) := by
  intro n
  induction n with
  | zero => intro _ _ _ _ _ _ _ _ h; cases h
  | succ n ih =>
    intro x1 x2 x3 u4 u5 u6 s o h
    refine iRR.of 21 ?_
    refine iRT.ite h (fun h => ?_) (fun h => ?_)
    · refine iRT.ov h fun h => ?_
      exact iRT.go 1 (h_at2 _ _ _ _ _ _ _ _ h) (fun _ _ => rfl)
    · refine iRT.ov h fun h => ?_
      refine iRT.ov h fun h => ?_
      refine iRT.ov h fun h => ?_
      refine iRT.ov h fun h => ?_
      exact iRT.go 5 (f7_32_at50_ok L N d (fun a0 a1 a2 b0 b1 b2 s o h => ih a0 a1 a2 s o h) N _ _ _ _ _ _ _ _ h) (fun _ _ => rfl)
set_option maxHeartbeats 100000 in
theorem f7_32_at2_ok (L N d : Nat) : ∀ (n : Nat) (x1 : Int) (x2 : Int) {u3 u4 u5 u6 : Option iV} (s : gI) (o : gI), f7_at2 N n x1 x2 s = some o → iRR false L (d + 3) kj7 k7_2 [some (vR 32), some (vI x1), some (vI x2), u3, u4, u5, u6] [] (s, g_rho) (none, (o, g_rho)) := by
  intro n
  induction n with
  | zero => intro _ _ _ _ _ _ _ _ h; cases h
  | succ n ih =>
    intro x1 x2 u3 u4 u5 u6 s o h
    refine iRR.of 401 ?_
    refine iRT.ite h (fun h => ?_) (fun h => ?_)
    · cases h
      exact iRT.ret
    · exact iRT.go 2 (f7_32_at18_ok L N d (fun a0 a1 b0 b1 b2 b3 s o h => ih a0 a1 s o h) N _ _ _ _ _ h) (fun _ _ => rfl)
set_option maxHeartbeats 100000 in
theorem f7_32_ok (L N d : Nat) (x1 : Int) (s : gI) {o : gI} (h : f7 N x1 s = some o) : iEE L (d + 4) 7 [vR 32, vI x1] (s, g_rho) (none, (o, g_rho)) := by
  refine iEE.of (wr := false) (d := d + 3) (md := gm_7) rfl rfl rfl (iRR.of 3 ?_)
  exact iRT.go 2 (f7_32_at2_ok L N d N _ _ _ _ h) (fun _ _ => rfl)
-- GutterNine$Chooser.choose
set_option maxHeartbeats 100000 in
theorem f5_32_at63_ok (L N d : Nat) : ∀ (n : Nat) (x1 : Int) (s : gI) (o : gI), f5_at63 N n x1 s = some o → iRR false L (d + 6) kj5 k5_63 [some (vR 32), some (vI x1)] [] (s, g_rho) (none, (o, g_rho)) := by
  intro n
  induction n with
  | zero => intro _ _ _ h; cases h
  | succ n ih =>
    intro x1 s o h
    refine iRR.of 401 ?_
    refine iRT.ite h (fun h => ?_) (fun h => ?_)
    · refine iRT.ck h fun h => ?_
      refine iRT.ck h fun h => ?_
      refine iRT.ck h fun h => ?_
      cases h
      exact iRT.ret
    · refine iRT.ck h fun h => ?_
      refine iRT.ck h fun h => ?_
      refine iRT.ite h (fun h => ?_) (fun h => ?_)
      · refine iRT.ov h fun h => ?_
        exact iRT.go 1 (ih _ _ _ h) (fun _ _ => rfl)
      · refine iRT.ov h fun h => ?_
        exact iRT.go 1 (ih _ _ _ h) (fun _ _ => rfl)
set_option maxHeartbeats 100000 in
theorem f5_32_at12_ok (L N d : Nat) : ∀ (n : Nat) (x1 : Int) (s : gI) (o : gI), f5_at12 N n x1 s = some o → iRR false L (d + 6) kj5 k5_12 [some (vR 32), some (vI x1)] [] (s, g_rho) (none, (o, g_rho)) := by
  intro n
  induction n with
  | zero => intro _ _ _ h; cases h
  | succ n ih =>
    intro x1 s o h
    refine iRR.of 22 ?_
    refine iRT.ite h (fun h => ?_) (fun h => ?_)
    · exact iRT.go 5 (f5_32_at63_ok L N d N _ _ _ h) (fun _ _ => rfl)
    · refine iRT.ck h fun h => ?_
      refine iRT.ite h (fun h => ?_) (fun h => ?_)
      · obtain ⟨s3, h1, h⟩ := i_o1_inv h
        refine iRT.call (f6_32_ok L N (d + 0) _ _ h1) ?_
        obtain ⟨s4, h1, h⟩ := i_o1_inv h
        refine iRT.call (f7_32_ok L N (d + 2) _ _ h1) ?_
        refine iRT.ov h fun h => ?_
        exact iRT.go 1 (ih _ _ _ h) (fun _ _ => rfl)
      · refine iRT.ov h fun h => ?_
        exact iRT.go 1 (ih _ _ _ h) (fun _ _ => rfl)
set_option maxHeartbeats 100000 in
theorem f5_32_ok (L N d : Nat) (s : gI) {o : gI} (h : f5 N  s = some o) : iEE L (d + 7) 5 [vR 32] (s, g_rho) (none, (o, g_rho)) := by
  refine iEE.of (wr := false) (d := d + 6) (md := gm_5) rfl rfl rfl (iRR.of 7 ?_)
  obtain ⟨s1, h1, h⟩ := i_o1_inv h
  refine iRT.call (f321_34_ok L N (d + 5) _ _ h1) ?_
  exact iRT.go 2 (f5_32_at12_ok L N d N _ _ _ h) (fun _ _ => rfl)
-- GutterNine.next
set_option maxHeartbeats 100000 in
theorem f150_0_at16_ok (L N d : Nat) {u0 : Option iV} {u1 : Option iV} (s : gI) {o : Int × gI} (h : f150_at16 N  s = some o) : iRR false L (d + 7) kj150 k150_16 [u0, u1] [] (s, g_rho) (some (vI o.1), (o.2, g_rho)) := by
  refine iRR.of 401 ?_
  cases h
set_option maxHeartbeats 100000 in
theorem f150_0_ok (L N d : Nat) (x1 : Int) (s : gI) {o : Int × gI} (h : f150 N x1 s = some o) : iEE L (d + 8) 150 [vR 0, vI x1] (s, g_rho) (some (vI o.1), (o.2, g_rho)) := by
  refine iEE.of (wr := false) (d := d + 7) (md := gm_150) rfl rfl rfl (iRR.of 401 ?_)
  refine iRT.ite h (fun h => ?_) (fun h => ?_)
  · exact iRT.go 0 (f150_0_at16_ok L N d  _ h) (fun _ _ => rfl)
  · refine iRT.ite h (fun h => ?_) (fun h => ?_)
    · exact iRT.go 0 (f150_0_at16_ok L N d  _ h) (fun _ _ => rfl)
    · obtain ⟨i2, s1, h1, h⟩ := i_o2_inv h
      refine iRT.call (f170_0_ok L N (d + 3)  _ h1) ?_
      refine iRT.ite h (fun h => ?_) (fun h => ?_)
      · exact iRT.go 0 (f150_0_at16_ok L N d  _ h) (fun _ _ => rfl)
      · obtain ⟨s3, h1, h⟩ := i_o1_inv h
        refine iRT.call (f5_32_ok L N (d + 0)  _ h1) ?_
        rcases iRT.cs h with ⟨hx0, h⟩ | ⟨hx0, h⟩
        · refine iRT.swin hx0 (off := 26) (by decide) (by decide) (by decide) ?_
          cases h
          exact iRT.ret
        · skip
          rcases iRT.cs h with ⟨hx1, h⟩ | ⟨hx1, h⟩
          · refine iRT.swin hx1 (off := 34) (by decide) (by decide) (by decide) ?_
            cases h
            exact iRT.ret
          · skip
            rcases iRT.cs h with ⟨hx2, h⟩ | ⟨hx2, h⟩
            · refine iRT.swin hx2 (off := 42) (by decide) (by decide) (by decide) ?_
              cases h
              exact iRT.ret
            · skip
              refine iRT.swout (by omega) (by decide) ?_
              cases h
              exact iRT.ret
-- GutterNine$Play.worthInHand
set_option maxHeartbeats 100000 in
theorem f70_11_at43_ok (L N d : Nat) {r_at4 : Int → Int → gI → Option (Int × gI)} (h_at4 : ∀ x1 x2 s o, r_at4 x1 x2 s = some o → iRR false L (d + 0) kj70 k70_4 [some (vR 11), some (vI x1), some (vI x2)] [] (s, g_rho) (some (vI o.1), (o.2, g_rho))) (x2 : Int) (z0 : Int) (z1 : Int) {u1 : Option iV} (s : gI) {o : Int × gI} (h : f70_at43 N r_at4 x2 z0 z1 s = some o) : iRR false L (d + 0) kj70 k70_43 [some (vR 11), u1, some (vI x2)] [vI z0, vI z1] (s, g_rho) (some (vI o.1), (o.2, g_rho)) := by
  refine iRR.of 5 ?_
  refine iRT.ov h fun h => ?_
  refine iRT.ov h fun h => ?_
  exact iRT.go 1 (h_at4 _ _ _ _ h) (fun _ _ => rfl)
set_option maxHeartbeats 100000 in
theorem f70_11_at4_ok (L N d : Nat) : ∀ (n : Nat) (x1 : Int) (x2 : Int) (s : gI) (o : Int × gI), f70_at4 N n x1 x2 s = some o → iRR false L (d + 0) kj70 k70_4 [some (vR 11), some (vI x1), some (vI x2)] [] (s, g_rho) (some (vI o.1), (o.2, g_rho)) := by
  intro n
  induction n with
  | zero => intro _ _ _ _ h; cases h
  | succ n ih =>
    intro x1 x2 s o h
    refine iRR.of 401 ?_
    refine iRT.ite h (fun h => ?_) (fun h => ?_)
    · cases h
      exact iRT.ret
    · refine iRT.ck h fun h => ?_
      refine iRT.ite h (fun h => ?_) (fun h => ?_)
      · refine iRT.ck h fun h => ?_
        exact iRT.go 1 (f70_11_at43_ok L N d (fun a0 a1  s o h => ih a0 a1 s o h) _ _ _ _ h) (fun _ _ => rfl)
      · exact iRT.go 1 (f70_11_at43_ok L N d (fun a0 a1  s o h => ih a0 a1 s o h) _ _ _ _ h) (fun _ _ => rfl)
set_option maxHeartbeats 100000 in
theorem f70_11_ok (L N d : Nat) (s : gI) {o : Int × gI} (h : f70 N  s = some o) : iEE L (d + 1) 70 [vR 11] (s, g_rho) (some (vI o.1), (o.2, g_rho)) := by
  refine iEE.of (wr := false) (d := d + 0) (md := gm_70) rfl rfl rfl (iRR.of 5 ?_)
  exact iRT.go 4 (f70_11_at4_ok L N d N _ _ _ _ h) (fun _ _ => rfl)
-- GutterNine$Chooser.isInHand
set_option maxHeartbeats 100000 in
theorem f13_32_ok (L N d : Nat) (x1 : Int) (s : gI) {o : Int × gI} (h : f13 N x1 s = some o) : iEE L (d + 1) 13 [vR 32, vI x1] (s, g_rho) (some (vI o.1), (o.2, g_rho)) := by
  refine iEE.of (wr := false) (d := d + 0) (md := gm_13) rfl rfl rfl (iRR.of 401 ?_)
  refine iRT.ite h (fun h => ?_) (fun h => ?_)
  · replace h := (ib1_inv h).2
    cases h
    exact iRT.ret
  · refine iRT.ck h fun h => ?_
    refine iRT.ite h (fun h => ?_) (fun h => ?_)
    · replace h := (ib1_inv h).2
      cases h
      exact iRT.ret
    · replace h := (ib1_inv h).2
      cases h
      exact iRT.ret
-- GutterNine$Chooser.greatestMean
set_option maxHeartbeats 100000 in
theorem f10_32_at11_ok (L N d : Nat) : ∀ (n : Nat) (x1 : Int) (x2 : Int) (x3 : Int) (x4 : Int) (s : gI) (o : Int × gI), f10_at11 N n x1 x2 x3 x4 s = some o → iRR false L (d + 2) kj10 k10_11 [some (vR 32), some (vI x1), some (vI x2), some (vI x3), some (vI x4)] [] (s, g_rho) (some (vI o.1), (o.2, g_rho)) := by
  intro n
  induction n with
  | zero => intro _ _ _ _ _ _ h; cases h
  | succ n ih =>
    intro x1 x2 x3 x4 s o h
    refine iRR.of 401 ?_
    refine iRT.ite h (fun h => ?_) (fun h => ?_)
    · cases h
      exact iRT.ret
    · obtain ⟨i2, s1, h1, h⟩ := i_o2_inv h
      refine iRT.call (f9_32_ok L N (d + 0) _ _ _ _ h1) ?_
      refine iRT.ov h fun h => ?_
      exact iRT.go 1 (ih _ _ _ _ _ _ h) (fun _ _ => rfl)
set_option maxHeartbeats 100000 in
theorem f10_32_ok (L N d : Nat) (x1 : Int) (x2 : Int) (s : gI) {o : Int × gI} (h : f10 N x1 x2 s = some o) : iEE L (d + 3) 10 [vR 32, vI x1, vI x2] (s, g_rho) (some (vI o.1), (o.2, g_rho)) := by
  refine iEE.of (wr := false) (d := d + 2) (md := gm_10) rfl rfl rfl (iRR.of 9 ?_)
  obtain ⟨i2, s1, h1, h⟩ := i_o2_inv h
  refine iRT.call (f9_32_ok L N (d + 0) _ _ _ _ h1) ?_
  exact iRT.go 3 (f10_32_at11_ok L N d N _ _ _ _ _ _ h) (fun _ _ => rfl)
-- GutterNine$Chooser.meanOfOne
set_option maxHeartbeats 100000 in
theorem f11_32_at84_ok (L N d : Nat) {r_at15 : Int → Int → Int → gI → Option (Int × gI)} (h_at15 : ∀ x1 x2 x3 u4 u5 u6 u7 u8 s o, r_at15 x1 x2 x3 s = some o → iRR false L (d + 5) kj11 k11_15 [some (vR 32), some (vI x1), some (vI x2), some (vI x3), u4, u5, u6, u7, u8] [] (s, g_rho) (some (vI o.1), (o.2, g_rho))) : ∀ (n : Nat) (x1 : Int) (x2 : Int) (x3 : Int) (x4 : Int) (x5 : Int) (x6 : Int) (x7 : Int) (x8 : Int) (s : gI) (o : Int × gI), f11_at84 N r_at15 n x1 x2 x3 x4 x5 x6 x7 x8 s = some o → iRR false L (d + 5) kj11 k11_84 [some (vR 32), some (vI x1), some (vI x2), some (vI x3), some (vI x4), some (vI x5), some (vI x6), some (vI x7), some (vI x8)] [] (s, g_rho) (some (vI o.1), (o.2, g_rho)) := by
  intro n
  induction n with
  | zero => intro _ _ _ _ _ _ _ _ _ _ h; cases h
  | succ n ih =>
    intro x1 x2 x3 x4 x5 x6 x7 x8 s o h
    refine iRR.of 26 ?_
    refine iRT.ite h (fun h => ?_) (fun h => ?_)
    · obtain ⟨i2, s1, h1, h⟩ := i_o2_inv h
      refine iRT.call (f10_32_ok L N (d + 2) _ _ _ h1) ?_
      refine iRT.ov h fun h => ?_
      refine iRT.ov h fun h => ?_
      exact iRT.go 1 (h_at15 _ _ _ _ _ _ _ _ _ _ h) (fun _ _ => rfl)
    · refine iRT.dv h fun h => ?_
      refine iRT.ck h fun h => ?_
      refine iRT.ov h fun h => ?_
      refine iRT.dv h fun h => ?_
      refine iRT.ck h fun h => ?_
      refine iRT.ov h fun h => ?_
      obtain ⟨i6, s5, h1, h⟩ := i_o2_inv h
      refine iRT.call (f4_32_ok L N (d + 0) _ _ _ _ h1) ?_
      refine iRT.ov h fun h => ?_
      refine iRT.ov h fun h => ?_
      exact iRT.go 1 (ih _ _ _ _ _ _ _ _ _ _ h) (fun _ _ => rfl)
set_option maxHeartbeats 100000 in
theorem f11_32_at15_ok (L N d : Nat) : ∀ (n : Nat) (x1 : Int) (x2 : Int) (x3 : Int) {u4 u5 u6 u7 u8 : Option iV} (s : gI) (o : Int × gI), f11_at15 N n x1 x2 x3 s = some o → iRR false L (d + 5) kj11 k11_15 [some (vR 32), some (vI x1), some (vI x2), some (vI x3), u4, u5, u6, u7, u8] [] (s, g_rho) (some (vI o.1), (o.2, g_rho)) := by
  intro n
  induction n with
  | zero => intro _ _ _ _ _ _ _ _ _ _ h; cases h
  | succ n ih =>
    intro x1 x2 x3 u4 u5 u6 u7 u8 s o h
    refine iRR.of 401 ?_
    refine iRT.ite h (fun h => ?_) (fun h => ?_)
    · cases h
      exact iRT.ret
    · refine iRT.dv h fun h => ?_
      refine iRT.dv h fun h => ?_
      refine iRT.ck h fun h => ?_
      obtain ⟨i4, s3, h1, h⟩ := i_o2_inv h
      refine iRT.call (f13_32_ok L N (d + 4) _ _ h1) ?_
      refine iRT.ite h (fun h => ?_) (fun h => ?_)
      · refine iRT.ov h fun h => ?_
        exact iRT.go 1 (ih _ _ _ _ _ h) (fun _ _ => rfl)
      · refine iRT.ite h (fun h => ?_) (fun h => ?_)
        · refine iRT.dv h fun h => ?_
          refine iRT.dv h fun h => ?_
          obtain ⟨i7, s6, h1, h⟩ := i_o2_inv h
          refine iRT.call (f4_32_ok L N (d + 0) _ _ _ _ h1) ?_
          exact iRT.go 5 (f11_32_at84_ok L N d (fun a0 a1 a2 b0 b1 b2 b3 b4 s o h => ih a0 a1 a2 s o h) N _ _ _ _ _ _ _ _ _ _ h) (fun _ _ => rfl)
        · refine iRT.ov h fun h => ?_
          exact iRT.go 1 (ih _ _ _ _ _ h) (fun _ _ => rfl)
set_option maxHeartbeats 100000 in
theorem f11_32_ok (L N d : Nat) (s : gI) {o : Int × gI} (h : f11 N  s = some o) : iEE L (d + 6) 11 [vR 32] (s, g_rho) (some (vI o.1), (o.2, g_rho)) := by
  refine iEE.of (wr := false) (d := d + 5) (md := gm_11) rfl rfl rfl (iRR.of 11 ?_)
  obtain ⟨i2, s1, h1, h⟩ := i_o2_inv h
  refine iRT.call (f70_11_ok L N (d + 4)  _ h1) ?_
  refine iRT.ov h fun h => ?_
  exact iRT.go 5 (f11_32_at15_ok L N d N _ _ _ _ _ h) (fun _ _ => rfl)
-- GutterNine$Chooser.meanOfTwo
set_option maxHeartbeats 100000 in
theorem f12_32_at160_ok (L N d : Nat) {r_at62 : Int → Int → Int → Int → Int → Int → Int → gI → Option (Int × gI)} (h_at62 : ∀ x1 x2 x3 x4 x5 x6 x7 u8 u9 u10 u11 s o, r_at62 x1 x2 x3 x4 x5 x6 x7 s = some o → iRR false L (d + 6) kj12 k12_62 [some (vR 32), some (vI x1), some (vI x2), some (vI x3), some (vI x4), some (vI x5), some (vI x6), some (vI x7), u8, u9, u10, u11] [] (s, g_rho) (some (vI o.1), (o.2, g_rho))) (x1 : Int) (x2 : Int) (x3 : Int) (x4 : Int) (x5 : Int) (x7 : Int) (z0 : Int) (z1 : Int) {u6 : Option iV} {u8 : Option iV} {u9 : Option iV} {u10 : Option iV} {u11 : Option iV} (s : gI) {o : Int × gI} (h : f12_at160 N r_at62 x1 x2 x3 x4 x5 x7 z0 z1 s = some o) : iRR false L (d + 6) kj12 k12_160 [some (vR 32), some (vI x1), some (vI x2), some (vI x3), some (vI x4), some (vI x5), u6, some (vI x7), u8, u9, u10, u11] [vI z0, vI z1] (s, g_rho) (some (vI o.1), (o.2, g_rho)) := by
  refine iRR.of 5 ?_
  refine iRT.ov h fun h => ?_
  refine iRT.ov h fun h => ?_
  exact iRT.go 1 (h_at62 _ _ _ _ _ _ _ _ _ _ _ _ _ h) (fun _ _ => rfl)
set_option maxHeartbeats 100000 in
theorem f12_32_at144_ok (L N d : Nat) {r_at62 : Int → Int → Int → Int → Int → Int → Int → gI → Option (Int × gI)} (h_at62 : ∀ x1 x2 x3 x4 x5 x6 x7 u8 u9 u10 u11 s o, r_at62 x1 x2 x3 x4 x5 x6 x7 s = some o → iRR false L (d + 6) kj12 k12_62 [some (vR 32), some (vI x1), some (vI x2), some (vI x3), some (vI x4), some (vI x5), some (vI x6), some (vI x7), u8, u9, u10, u11] [] (s, g_rho) (some (vI o.1), (o.2, g_rho))) (x1 : Int) (x2 : Int) (x3 : Int) (x4 : Int) (x6 : Int) (x7 : Int) (x11 : Int) (z0 : Int) (z1 : Int) {u5 : Option iV} {u8 : Option iV} {u9 : Option iV} {u10 : Option iV} (s : gI) {o : Int × gI} (h : f12_at144 N r_at62 x1 x2 x3 x4 x6 x7 x11 z0 z1 s = some o) : iRR false L (d + 6) kj12 k12_144 [some (vR 32), some (vI x1), some (vI x2), some (vI x3), some (vI x4), u5, some (vI x6), some (vI x7), u8, u9, u10, some (vI x11)] [vI z0, vI z1] (s, g_rho) (some (vI o.1), (o.2, g_rho)) := by
  refine iRR.of 8 ?_
  refine iRT.ov h fun h => ?_
  refine iRT.ite h (fun h => ?_) (fun h => ?_)
  · exact iRT.go 2 (f12_32_at160_ok L N d h_at62 _ _ _ _ _ _ _ _ _ h) (fun _ _ => rfl)
  · exact iRT.go 1 (f12_32_at160_ok L N d h_at62 _ _ _ _ _ _ _ _ _ h) (fun _ _ => rfl)
set_option maxHeartbeats 100000 in
theorem f12_32_at62_ok (L N d : Nat) {r_at10 : Int → Int → gI → Option (Int × gI)} (h_at10 : ∀ x1 x2 u3 u4 u5 u6 u7 u8 u9 u10 u11 s o, r_at10 x1 x2 s = some o → iRR false L (d + 6) kj12 k12_10 [some (vR 32), some (vI x1), some (vI x2), u3, u4, u5, u6, u7, u8, u9, u10, u11] [] (s, g_rho) (some (vI o.1), (o.2, g_rho))) : ∀ (n : Nat) (x1 : Int) (x2 : Int) (x3 : Int) (x4 : Int) (x5 : Int) (x6 : Int) (x7 : Int) {u8 u9 u10 u11 : Option iV} (s : gI) (o : Int × gI), f12_at62 N r_at10 n x1 x2 x3 x4 x5 x6 x7 s = some o → iRR false L (d + 6) kj12 k12_62 [some (vR 32), some (vI x1), some (vI x2), some (vI x3), some (vI x4), some (vI x5), some (vI x6), some (vI x7), u8, u9, u10, u11] [] (s, g_rho) (some (vI o.1), (o.2, g_rho)) := by
  intro n
  induction n with
  | zero => intro _ _ _ _ _ _ _ _ _ _ _ _ _ h; cases h
  | succ n ih =>
    intro x1 x2 x3 x4 x5 x6 x7 u8 u9 u10 u11 s o h
    refine iRR.of 42 ?_
    refine iRT.ite h (fun h => ?_) (fun h => ?_)
    · obtain ⟨i2, s1, h1, h⟩ := i_o2_inv h
      refine iRT.call (f10_32_ok L N (d + 3) _ _ _ h1) ?_
      refine iRT.ov h fun h => ?_
      exact iRT.go 1 (h_at10 _ _ _ _ _ _ _ _ _ _ _ _ _ h) (fun _ _ => rfl)
    · refine iRT.dv h fun h => ?_
      refine iRT.ck h fun h => ?_
      refine iRT.ov h fun h => ?_
      refine iRT.dv h fun h => ?_
      refine iRT.ck h fun h => ?_
      refine iRT.ov h fun h => ?_
      obtain ⟨i8, s7, h1, h⟩ := i_o2_inv h
      refine iRT.call (f49_11_ok L N (d + 2) _ _ _ _ h1) ?_
      obtain ⟨i10, s9, h1, h⟩ := i_o2_inv h
      refine iRT.call (f11_32_ok L N (d + 0)  _ h1) ?_
      obtain ⟨s11, h1, h⟩ := i_o1_inv h
      refine iRT.call (f50_11_ok L N (d + 3) _ _ _ _ _ h1) ?_
      refine iRT.ite h (fun h => ?_) (fun h => ?_)
      · exact iRT.go 2 (f12_32_at144_ok L N d (fun a0 a1 a2 a3 a4 a5 a6 b0 b1 b2 b3 s o h => ih a0 a1 a2 a3 a4 a5 a6 s o h) _ _ _ _ _ _ _ _ _ _ h) (fun _ _ => rfl)
      · exact iRT.go 1 (f12_32_at144_ok L N d (fun a0 a1 a2 a3 a4 a5 a6 b0 b1 b2 b3 s o h => ih a0 a1 a2 a3 a4 a5 a6 s o h) _ _ _ _ _ _ _ _ _ _ h) (fun _ _ => rfl)
set_option maxHeartbeats 100000 in
theorem f12_32_at10_ok (L N d : Nat) : ∀ (n : Nat) (x1 : Int) (x2 : Int) {u3 u4 u5 u6 u7 u8 u9 u10 u11 : Option iV} (s : gI) (o : Int × gI), f12_at10 N n x1 x2 s = some o → iRR false L (d + 6) kj12 k12_10 [some (vR 32), some (vI x1), some (vI x2), u3, u4, u5, u6, u7, u8, u9, u10, u11] [] (s, g_rho) (some (vI o.1), (o.2, g_rho)) := by
  intro n
  induction n with
  | zero => intro _ _ _ _ _ _ _ _ _ _ _ _ _ h; cases h
  | succ n ih =>
    intro x1 x2 u3 u4 u5 u6 u7 u8 u9 u10 u11 s o h
    refine iRR.of 401 ?_
    refine iRT.ite h (fun h => ?_) (fun h => ?_)
    · cases h
      exact iRT.ret
    · refine iRT.dv h fun h => ?_
      refine iRT.dv h fun h => ?_
      refine iRT.ck h fun h => ?_
      obtain ⟨i4, s3, h1, h⟩ := i_o2_inv h
      refine iRT.call (f13_32_ok L N (d + 5) _ _ h1) ?_
      refine iRT.ite h (fun h => ?_) (fun h => ?_)
      · refine iRT.ov h fun h => ?_
        exact iRT.go 1 (ih _ _ _ _ h) (fun _ _ => rfl)
      · refine iRT.ite h (fun h => ?_) (fun h => ?_)
        · exact iRT.go 6 (f12_32_at62_ok L N d (fun a0 a1 b0 b1 b2 b3 b4 b5 b6 b7 b8 s o h => ih a0 a1 s o h) N _ _ _ _ _ _ _ _ _ h) (fun _ _ => rfl)
        · refine iRT.ov h fun h => ?_
          exact iRT.go 1 (ih _ _ _ _ h) (fun _ _ => rfl)
set_option maxHeartbeats 100000 in
theorem f12_32_ok (L N d : Nat) (s : gI) {o : Int × gI} (h : f12 N  s = some o) : iEE L (d + 7) 12 [vR 32] (s, g_rho) (some (vI o.1), (o.2, g_rho)) := by
  refine iEE.of (wr := false) (d := d + 6) (md := gm_12) rfl rfl rfl (iRR.of 8 ?_)
  obtain ⟨i2, s1, h1, h⟩ := i_o2_inv h
  refine iRT.call (f11_32_ok L N (d + 0)  _ h1) ?_
  refine iRT.ov h fun h => ?_
  exact iRT.go 3 (f12_32_at10_ok L N d N _ _ _ _ h) (fun _ _ => rfl)
-- GutterNine.plan
set_option maxHeartbeats 100000 in
theorem f151_0_ok (L N d : Nat) (x1 : Int) (s : gI) {o : Int × gI} (h : f151 N x1 s = some o) : iEE L (d + 8) 151 [vR 0, vI x1] (s, g_rho) (some (vI o.1), (o.2, g_rho)) := by
  refine iEE.of (wr := false) (d := d + 7) (md := gm_151) rfl rfl rfl (iRR.of 401 ?_)
  refine iRT.ite h (fun h => ?_) (fun h => ?_)
  · obtain ⟨i4, s3, h1, h⟩ := i_o2_inv h
    refine iRT.call (f11_32_ok L N (d + 1)  _ h1) ?_
    cases h
    exact iRT.ret
  · refine iRT.ite h (fun h => ?_) (fun h => ?_)
    · obtain ⟨i2, s1, h1, h⟩ := i_o2_inv h
      refine iRT.call (f12_32_ok L N (d + 0)  _ h1) ?_
      cases h
      exact iRT.ret
    · cases h
      exact iRT.ret
-- GutterNine$Chooser.chanceFor
set_option maxHeartbeats 100000 in
theorem f15_32_at91_ok (L N d : Nat) {r_at6 : Int → Int → Int → Int → Int → Int → gI → Option (Int × gI)} (h_at6 : ∀ x1 x2 x3 x4 x5 x6 u7 u8 u9 s o, r_at6 x1 x2 x3 x4 x5 x6 s = some o → iRR false L (d + 4) kj15 k15_6 [some (vR 32), some (vI x1), some (vI x2), some (vI x3), some (vI x4), some (vI x5), some (vI x6), u7, u8, u9] [] (s, g_rho) (some (vI o.1), (o.2, g_rho))) (x1 : Int) (x2 : Int) (x3 : Int) (x4 : Int) (x5 : Int) (x6 : Int) (x7 : Int) (x8 : Int) (x9 : Int) (s : gI) {o : Int × gI} (h : f15_at91 N r_at6 x1 x2 x3 x4 x5 x6 x7 x8 x9 s = some o) : iRR false L (d + 4) kj15 k15_91 [some (vR 32), some (vI x1), some (vI x2), some (vI x3), some (vI x4), some (vI x5), some (vI x6), some (vI x7), some (vI x8), some (vI x9)] [] (s, g_rho) (some (vI o.1), (o.2, g_rho)) := by
  refine iRR.of 10 ?_
  obtain ⟨s1, h1, h⟩ := i_o1_inv h
  refine iRT.call (f50_11_ok L N (d + 1) _ _ _ _ _ h1) ?_
  refine iRT.ov h fun h => ?_
  exact iRT.go 1 (h_at6 _ _ _ _ _ _ _ _ _ _ _ h) (fun _ _ => rfl)
set_option maxHeartbeats 100000 in
theorem f15_32_at6_ok (L N d : Nat) : ∀ (n : Nat) (x1 : Int) (x2 : Int) (x3 : Int) (x4 : Int) (x5 : Int) (x6 : Int) {u7 u8 u9 : Option iV} (s : gI) (o : Int × gI), f15_at6 N n x1 x2 x3 x4 x5 x6 s = some o → iRR false L (d + 4) kj15 k15_6 [some (vR 32), some (vI x1), some (vI x2), some (vI x3), some (vI x4), some (vI x5), some (vI x6), u7, u8, u9] [] (s, g_rho) (some (vI o.1), (o.2, g_rho)) := by
  intro n
  induction n with
  | zero => intro _ _ _ _ _ _ _ _ _ _ _ h; cases h
  | succ n ih =>
    intro x1 x2 x3 x4 x5 x6 u7 u8 u9 s o h
    refine iRR.of 401 ?_
    refine iRT.ite h (fun h => ?_) (fun h => ?_)
    · cases h
      exact iRT.ret
    · refine iRT.dv h fun h => ?_
      refine iRT.ck h fun h => ?_
      refine iRT.ov h fun h => ?_
      refine iRT.dv h fun h => ?_
      refine iRT.ck h fun h => ?_
      refine iRT.ov h fun h => ?_
      obtain ⟨i4, s3, h1, h⟩ := i_o2_inv h
      refine iRT.call (f49_11_ok L N (d + 0) _ _ _ _ h1) ?_
      refine iRT.ck h fun h => ?_
      refine iRT.ite h (fun h => ?_) (fun h => ?_)
      · refine iRT.ck h fun h => ?_
        obtain ⟨i6, s5, h1, h⟩ := i_o2_inv h
        refine iRT.call (f172_ok L N (d + 3) _ _ _ h1) ?_
        refine iRT.ov h fun h => ?_
        exact iRT.go 1 (f15_32_at91_ok L N d (fun a0 a1 a2 a3 a4 a5 b0 b1 b2 s o h => ih a0 a1 a2 a3 a4 a5 s o h) _ _ _ _ _ _ _ _ _ _ h) (fun _ _ => rfl)
      · exact iRT.go 0 (f15_32_at91_ok L N d (fun a0 a1 a2 a3 a4 a5 b0 b1 b2 s o h => ih a0 a1 a2 a3 a4 a5 s o h) _ _ _ _ _ _ _ _ _ _ h) (fun _ _ => rfl)
set_option maxHeartbeats 100000 in
theorem f15_32_ok (L N d : Nat) (x1 : Int) (x2 : Int) (x3 : Int) (x4 : Int) (s : gI) {o : Int × gI} (h : f15 N x1 x2 x3 x4 s = some o) : iEE L (d + 5) 15 [vR 32, vI x1, vI x2, vI x3, vI x4] (s, g_rho) (some (vI o.1), (o.2, g_rho)) := by
  refine iEE.of (wr := false) (d := d + 4) (md := gm_15) rfl rfl rfl (iRR.of 5 ?_)
  exact iRT.go 4 (f15_32_at6_ok L N d N _ _ _ _ _ _ _ _ h) (fun _ _ => rfl)
-- GutterNine$Chooser.chooseAlone
set_option maxHeartbeats 100000 in
theorem f14_32_at34_ok (L N d : Nat) {r_at17 : Int → Int → Int → gI → Option (gI)} (h_at17 : ∀ x1 x2 x3 u4 u5 s o, r_at17 x1 x2 x3 s = some o → iRR false L (d + 5) kj14 k14_17 [some (vR 32), some (vI x1), some (vI x2), some (vI x3), u4, u5] [] (s, g_rho) (none, (o, g_rho))) : ∀ (n : Nat) (x1 : Int) (x2 : Int) (x3 : Int) (x4 : Int) {u5 : Option iV} (s : gI) (o : gI), f14_at34 N r_at17 n x1 x2 x3 x4 s = some o → iRR false L (d + 5) kj14 k14_34 [some (vR 32), some (vI x1), some (vI x2), some (vI x3), some (vI x4), u5] [] (s, g_rho) (none, (o, g_rho)) := by
  intro n
  induction n with
  | zero => intro _ _ _ _ _ _ _ h; cases h
  | succ n ih =>
    intro x1 x2 x3 x4 u5 s o h
    refine iRR.of 36 ?_
    refine iRT.ite h (fun h => ?_) (fun h => ?_)
    · refine iRT.ov h fun h => ?_
      exact iRT.go 1 (h_at17 _ _ _ _ _ _ _ h) (fun _ _ => rfl)
    · refine iRT.ck h fun h => ?_
      refine iRT.ite h (fun h => ?_) (fun h => ?_)
      · obtain ⟨i3, s2, h1, h⟩ := i_o2_inv h
        refine iRT.call (f15_32_ok L N (d + 0) _ _ _ _ _ h1) ?_
        refine iRT.ite h (fun h => ?_) (fun h => ?_)
        · refine iRT.ov h fun h => ?_
          exact iRT.go 1 (ih _ _ _ _ _ _ h) (fun _ _ => rfl)
        · refine iRT.ov h fun h => ?_
          exact iRT.go 1 (ih _ _ _ _ _ _ h) (fun _ _ => rfl)
      · refine iRT.ov h fun h => ?_
        exact iRT.go 1 (ih _ _ _ _ _ _ h) (fun _ _ => rfl)
set_option maxHeartbeats 100000 in
theorem f14_32_at17_ok (L N d : Nat) : ∀ (n : Nat) (x1 : Int) (x2 : Int) (x3 : Int) {u4 u5 : Option iV} (s : gI) (o : gI), f14_at17 N n x1 x2 x3 s = some o → iRR false L (d + 5) kj14 k14_17 [some (vR 32), some (vI x1), some (vI x2), some (vI x3), u4, u5] [] (s, g_rho) (none, (o, g_rho)) := by
  intro n
  induction n with
  | zero => intro _ _ _ _ _ _ _ h; cases h
  | succ n ih =>
    intro x1 x2 x3 u4 u5 s o h
    refine iRR.of 401 ?_
    refine iRT.ite h (fun h => ?_) (fun h => ?_)
    · cases h
      exact iRT.ret
    · exact iRT.go 2 (f14_32_at34_ok L N d (fun a0 a1 a2 b0 b1 s o h => ih a0 a1 a2 s o h) N _ _ _ _ _ _ h) (fun _ _ => rfl)
set_option maxHeartbeats 100000 in
theorem f14_32_ok (L N d : Nat) (x1 : Int) (s : gI) {o : gI} (h : f14 N x1 s = some o) : iEE L (d + 6) 14 [vR 32, vI x1] (s, g_rho) (none, (o, g_rho)) := by
  refine iEE.of (wr := false) (d := d + 5) (md := gm_14) rfl rfl rfl (iRR.of 12 ?_)
  refine iRT.ck h fun h => ?_
  exact iRT.go 3 (f14_32_at17_ok L N d N _ _ _ _ _ h) (fun _ _ => rfl)
-- GutterNine.alone
set_option maxHeartbeats 100000 in
theorem f152_0_ok (L N d : Nat) (x1 : Int) (x2 : Int) (s : gI) {o : Int × gI} (h : f152 N x1 x2 s = some o) : iEE L (d + 7) 152 [vR 0, vI x1, vI x2] (s, g_rho) (some (vI o.1), (o.2, g_rho)) := by
  refine iEE.of (wr := false) (d := d + 6) (md := gm_152) rfl rfl rfl (iRR.of 401 ?_)
  obtain ⟨i2, s1, h1, h⟩ := i_o2_inv h
  refine iRT.call (f167_0_ok L N (d + 5) _ _ h1) ?_
  refine iRT.ite h (fun h => ?_) (fun h => ?_)
  · cases h
    exact iRT.ret
  · refine iRT.ck h fun h => ?_
    refine iRT.ite h (fun h => ?_) (fun h => ?_)
    · cases h
      exact iRT.ret
    · obtain ⟨i4, s3, h1, h⟩ := i_o2_inv h
      refine iRT.call (f170_0_ok L N (d + 2)  _ h1) ?_
      refine iRT.ite h (fun h => ?_) (fun h => ?_)
      · cases h
        exact iRT.ret
      · obtain ⟨s5, h1, h⟩ := i_o1_inv h
        refine iRT.call (f14_32_ok L N (d + 0) _ _ h1) ?_
        rcases iRT.cs h with ⟨hx0, h⟩ | ⟨hx0, h⟩
        · refine iRT.swin hx0 (off := 28) (by decide) (by decide) (by decide) ?_
          cases h
          exact iRT.ret
        · skip
          rcases iRT.cs h with ⟨hx1, h⟩ | ⟨hx1, h⟩
          · refine iRT.swin hx1 (off := 36) (by decide) (by decide) (by decide) ?_
            cases h
            exact iRT.ret
          · skip
            rcases iRT.cs h with ⟨hx2, h⟩ | ⟨hx2, h⟩
            · refine iRT.swin hx2 (off := 44) (by decide) (by decide) (by decide) ?_
              cases h
              exact iRT.ret
            · skip
              refine iRT.swout (by omega) (by decide) ?_
              cases h
              exact iRT.ret
-- GutterNine$Scene.save
set_option maxHeartbeats 100000 in
theorem f90_6_31_ok (L N d : Nat) (x2 : Int) (s : gI) {o : gI} (h : f90 N 31 26 x2 s = some o) : iEE L (d + 1) 90 [vR 6, vR 31, vI x2] (s, g_rho) (none, (o, g_rho)) := by
  refine iEE.of (wr := false) (d := d + 0) (md := gm_90) rfl rfl rfl (iRR.of 401 ?_)
  refine iRT.ov h fun h => ?_
  refine iRT.cp h fun h => ?_
  refine iRT.ov h fun h => ?_
  refine iRT.cp h fun h => ?_
  refine iRT.ov h fun h => ?_
  refine iRT.cp h fun h => ?_
  refine iRT.ov h fun h => ?_
  refine iRT.ck h fun h => ?_
  refine iRT.ov h fun h => ?_
  refine iRT.ck h fun h => ?_
  cases h
  exact iRT.ret
-- GutterNine$Play.hold
set_option maxHeartbeats 100000 in
theorem f47_11_ok (L N d : Nat) (s : gI) {o : gI} (h : f47 N  s = some o) : iEE L (d + 2) 47 [vR 11] (s, g_rho) (none, (o, g_rho)) := by
  refine iEE.of (wr := false) (d := d + 1) (md := gm_47) rfl rfl rfl (iRR.of 401 ?_)
  obtain ⟨s1, h1, h⟩ := i_o1_inv h
  refine iRT.call (f90_6_31_ok L N (d + 0) _ _ h1) ?_
  cases h
  exact iRT.ret
-- GutterNine$Scene.load
set_option maxHeartbeats 100000 in
theorem f91_6_31_at63_ok (L N d : Nat) : ∀ (n : Nat) (x4 : Int) {u1 u2 u3 u5 : Option iV} (s : gI) (o : gI), f91_at63 N 31 26 n x4 s = some o → iRR false L (d + 1) kj91 k91_63 [some (vR 6), u1, u2, u3, some (vI x4), u5] [] (s, g_rho) (none, (o, g_rho)) := by
  intro n
  induction n with
  | zero => intro _ _ _ _ _ _ _ h; cases h
  | succ n ih =>
    intro x4 u1 u2 u3 u5 s o h
    refine iRR.of 401 ?_
    refine iRT.ite h (fun h => ?_) (fun h => ?_)
    · cases h
      exact iRT.ret
    · refine iRT.ck h fun h => ?_
      obtain ⟨i2, s1, h1, h⟩ := i_o2_inv h
      refine iRT.call (f89_ok L N (d + 0) _ _ h1) ?_
      refine iRT.ite h (fun h => ?_) (fun h => ?_)
      · refine iRT.ov h fun h => ?_
        exact iRT.go 1 (ih _ _ _ h) (fun _ _ => rfl)
      · refine iRT.ck h fun h => ?_
        refine iRT.ov h fun h => ?_
        exact iRT.go 1 (ih _ _ _ h) (fun _ _ => rfl)
set_option maxHeartbeats 100000 in
theorem f91_6_31_ok (L N d : Nat) (x2 : Int) (s : gI) {o : gI} (h : f91 N 31 26 x2 s = some o) : iEE L (d + 2) 91 [vR 6, vR 31, vI x2] (s, g_rho) (none, (o, g_rho)) := by
  refine iEE.of (wr := false) (d := d + 1) (md := gm_91) rfl rfl rfl (iRR.of 41 ?_)
  refine iRT.ov h fun h => ?_
  refine iRT.cp h fun h => ?_
  refine iRT.ov h fun h => ?_
  refine iRT.cp h fun h => ?_
  refine iRT.ov h fun h => ?_
  refine iRT.ck h fun h => ?_
  refine iRT.ov h fun h => ?_
  refine iRT.ck h fun h => ?_
  obtain ⟨s6, h1, h⟩ := i_o1_inv h
  refine iRT.call (f321_9_ok L N (d + 0) _ _ h1) ?_
  exact iRT.go 2 (f91_6_31_at63_ok L N d N _ _ _ h) (fun _ _ => rfl)
-- GutterNine$Play.release
set_option maxHeartbeats 100000 in
theorem f48_11_ok (L N d : Nat) (s : gI) {o : gI} (h : f48 N  s = some o) : iEE L (d + 3) 48 [vR 11] (s, g_rho) (none, (o, g_rho)) := by
  refine iEE.of (wr := false) (d := d + 2) (md := gm_48) rfl rfl rfl (iRR.of 401 ?_)
  obtain ⟨s1, h1, h⟩ := i_o1_inv h
  refine iRT.call (f91_6_31_ok L N (d + 0) _ _ h1) ?_
  cases h
  exact iRT.ret
-- GutterNine.washed
set_option maxHeartbeats 100000 in
theorem f153_0_at30_ok (L N d : Nat) (x1 : Int) (z0 : Int) {u2 : Option iV} {u3 : Option iV} {u4 : Option iV} {u5 : Option iV} (s : gI) {o : Int × gI} (h : f153_at30 N x1 z0 s = some o) : iRR false L (d + 4) kj153 k153_30 [some (vR 0), some (vI x1), u2, u3, u4, u5] [vI z0] (s, g_rho) (some (vI o.1), (o.2, g_rho)) := by
  refine iRR.of 401 ?_
  obtain ⟨i2, s1, h1, h⟩ := i_o2_inv h
  refine iRT.call (f71_11_ok L N (d + 2) _ _ h1) ?_
  obtain ⟨s3, h1, h⟩ := i_o1_inv h
  refine iRT.call (f47_11_ok L N (d + 2)  _ h1) ?_
  obtain ⟨i5, s4, h1, h⟩ := i_o2_inv h
  refine iRT.call (f54_11_ok L N (d + 0) _ _ h1) ?_
  obtain ⟨i7, s6, h1, h⟩ := i_o2_inv h
  refine iRT.call (f71_11_ok L N (d + 2) _ _ h1) ?_
  obtain ⟨s8, h1, h⟩ := i_o1_inv h
  refine iRT.call (f48_11_ok L N (d + 1)  _ h1) ?_
  cases h
  exact iRT.ret
set_option maxHeartbeats 100000 in
theorem f153_0_ok (L N d : Nat) (x1 : Int) (x2 : Int) (s : gI) {o : Int × gI} (h : f153 N x1 x2 s = some o) : iEE L (d + 5) 153 [vR 0, vI x1, vI x2] (s, g_rho) (some (vI o.1), (o.2, g_rho)) := by
  refine iEE.of (wr := false) (d := d + 4) (md := gm_153) rfl rfl rfl (iRR.of 401 ?_)
  obtain ⟨i2, s1, h1, h⟩ := i_o2_inv h
  refine iRT.call (f168_0_ok L N (d + 3) _ _ h1) ?_
  refine iRT.ite h (fun h => ?_) (fun h => ?_)
  · cases h
    exact iRT.ret
  · refine iRT.ite h (fun h => ?_) (fun h => ?_)
    · cases h
      exact iRT.ret
    · refine iRT.ite h (fun h => ?_) (fun h => ?_)
      · refine iRT.ite h (fun h => ?_) (fun h => ?_)
        · exact iRT.go 2 (f153_0_at30_ok L N d _ _ _ h) (fun _ _ => rfl)
        · exact iRT.go 1 (f153_0_at30_ok L N d _ _ _ h) (fun _ _ => rfl)
      · cases h
        exact iRT.ret
-- GutterNine.blown
set_option maxHeartbeats 100000 in
theorem f154_0_at32_ok (L N d : Nat) : ∀ (n : Nat) (x1 : Int) (x2 : Int) (x3 : Int) (x4 : Int) (x5 : Int) (x6 : Int) {u7 : Option iV} (s : gI) (o : Int × gI), f154_at32 N n x1 x2 x3 x4 x5 x6 s = some o → iRR false L (d + 4) kj154 k154_32 [some (vR 0), some (vI x1), some (vI x2), some (vI x3), some (vI x4), some (vI x5), some (vI x6), u7] [] (s, g_rho) (some (vI o.1), (o.2, g_rho)) := by
  intro n
  induction n with
  | zero => intro _ _ _ _ _ _ _ _ _ h; cases h
  | succ n ih =>
    intro x1 x2 x3 x4 x5 x6 u7 s o h
    refine iRR.of 401 ?_
    refine iRT.ite h (fun h => ?_) (fun h => ?_)
    · refine iRT.ite h (fun h => ?_) (fun h => ?_)
      · cases h
        exact iRT.ret
      · cases h
        exact iRT.ret
    · obtain ⟨s1, h1, h⟩ := i_o1_inv h
      refine iRT.call (f47_11_ok L N (d + 2)  _ h1) ?_
      obtain ⟨i3, s2, h1, h⟩ := i_o2_inv h
      refine iRT.call (f59_11_ok L N (d + 0) _ _ h1) ?_
      obtain ⟨i5, s4, h1, h⟩ := i_o2_inv h
      refine iRT.call (f72_11_ok L N (d + 1) _ _ h1) ?_
      refine iRT.ov h fun h => ?_
      obtain ⟨s7, h1, h⟩ := i_o1_inv h
      refine iRT.call (f48_11_ok L N (d + 1)  _ h1) ?_
      refine iRT.ov h fun h => ?_
      refine iRT.ite h (fun h => ?_) (fun h => ?_)
      · refine iRT.ov h fun h => ?_
        exact iRT.go 1 (ih _ _ _ _ _ _ _ _ h) (fun _ _ => rfl)
      · refine iRT.ov h fun h => ?_
        exact iRT.go 1 (ih _ _ _ _ _ _ _ _ h) (fun _ _ => rfl)
set_option maxHeartbeats 100000 in
theorem f154_0_ok (L N d : Nat) (x1 : Int) (s : gI) {o : Int × gI} (h : f154 N x1 s = some o) : iEE L (d + 5) 154 [vR 0, vI x1] (s, g_rho) (some (vI o.1), (o.2, g_rho)) := by
  refine iEE.of (wr := false) (d := d + 4) (md := gm_154) rfl rfl rfl (iRR.of 401 ?_)
  refine iRT.ite h (fun h => ?_) (fun h => ?_)
  · cases h
    exact iRT.ret
  · refine iRT.ite h (fun h => ?_) (fun h => ?_)
    · obtain ⟨i2, s1, h1, h⟩ := i_o2_inv h
      refine iRT.call (f72_11_ok L N (d + 1) _ _ h1) ?_
      exact iRT.go 9 (f154_0_at32_ok L N d N _ _ _ _ _ _ _ _ h) (fun _ _ => rfl)
    · cases h
      exact iRT.ret
-- GutterNine.await
set_option maxHeartbeats 100000 in
theorem f155_0_at9_ok (L N d : Nat) {u0 : Option iV} {u1 : Option iV} {u2 : Option iV} {u3 : Option iV} {u4 : Option iV} (s : gI) {o : Int × gI} (h : f155_at9 N  s = some o) : iRR false L (d + 5) kj155 k155_9 [u0, u1, u2, u3, u4] [] (s, g_rho) (some (vI o.1), (o.2, g_rho)) := by
  refine iRR.of 401 ?_
  cases h
set_option maxHeartbeats 100000 in
theorem f155_0_at60_ok (L N d : Nat) : ∀ (n : Nat) (x2 : Int) (x3 : Int) (x4 : Int) {u1 : Option iV} (s : gI) (o : Int × gI), f155_at60 N n x2 x3 x4 s = some o → iRR false L (d + 5) kj155 k155_60 [some (vR 0), u1, some (vI x2), some (vI x3), some (vI x4)] [] (s, g_rho) (some (vI o.1), (o.2, g_rho)) := by
  intro n
  induction n with
  | zero => intro _ _ _ _ _ _ h; cases h
  | succ n ih =>
    intro x2 x3 x4 u1 s o h
    refine iRR.of 401 ?_
    refine iRT.ite h (fun h => ?_) (fun h => ?_)
    · obtain ⟨i2, s1, h1, h⟩ := i_o2_inv h
      refine iRT.call (f70_11_ok L N (d + 4)  _ h1) ?_
      refine iRT.ov h fun h => ?_
      obtain ⟨s4, h1, h⟩ := i_o1_inv h
      refine iRT.call (f48_11_ok L N (d + 2)  _ h1) ?_
      refine iRT.ov h fun h => ?_
      cases h
      exact iRT.ret
    · obtain ⟨s5, h1, h⟩ := i_o1_inv h
      refine iRT.call (f62_11_ok L N (d + 0)  _ h1) ?_
      refine iRT.ov h fun h => ?_
      exact iRT.go 1 (ih _ _ _ _ _ h) (fun _ _ => rfl)
set_option maxHeartbeats 100000 in
theorem f155_0_ok (L N d : Nat) (x1 : Int) (s : gI) {o : Int × gI} (h : f155 N x1 s = some o) : iEE L (d + 6) 155 [vR 0, vI x1] (s, g_rho) (some (vI o.1), (o.2, g_rho)) := by
  refine iEE.of (wr := false) (d := d + 5) (md := gm_155) rfl rfl rfl (iRR.of 401 ?_)
  refine iRT.ite h (fun h => ?_) (fun h => ?_)
  · exact iRT.go 0 (f155_0_at9_ok L N d  _ h) (fun _ _ => rfl)
  · refine iRT.ite h (fun h => ?_) (fun h => ?_)
    · obtain ⟨i2, s1, h1, h⟩ := i_o2_inv h
      refine iRT.call (f63_11_ok L N (d + 4)  _ h1) ?_
      refine iRT.ite h (fun h => ?_) (fun h => ?_)
      · cases h
        exact iRT.ret
      · obtain ⟨i4, s3, h1, h⟩ := i_o2_inv h
        refine iRT.call (f70_11_ok L N (d + 4)  _ h1) ?_
        refine iRT.ov h fun h => ?_
        obtain ⟨s6, h1, h⟩ := i_o1_inv h
        refine iRT.call (f47_11_ok L N (d + 3)  _ h1) ?_
        exact iRT.go 2 (f155_0_at60_ok L N d N _ _ _ _ _ h) (fun _ _ => rfl)
    · exact iRT.go 0 (f155_0_at9_ok L N d  _ h) (fun _ _ => rfl)
-- GutterNine.see
set_option maxHeartbeats 100000 in
theorem f156_0_ok (L N d : Nat) (x1 : Int) (x2 : Int) (s : gI) {o : Int × gI} (h : f156 N x1 x2 s = some o) : iEE L (d + 1) 156 [vR 0, vI x1, vI x2] (s, g_rho) (some (vI o.1), (o.2, g_rho)) := by
  refine iEE.of (wr := false) (d := d + 0) (md := gm_156) rfl rfl rfl (iRR.of 401 ?_)
  refine iRT.ite h (fun h => ?_) (fun h => ?_)
  · replace h := (ib1_inv h).2
    cases h
    exact iRT.ret
  · refine iRT.ite h (fun h => ?_) (fun h => ?_)
    · replace h := (ib1_inv h).2
      cases h
      exact iRT.ret
    · refine iRT.ite h (fun h => ?_) (fun h => ?_)
      · replace h := (ib1_inv h).2
        cases h
        exact iRT.ret
      · refine iRT.ite h (fun h => ?_) (fun h => ?_)
        · refine iRT.ck h fun h => ?_
          replace h := (ib1_inv h).2
          cases h
          exact iRT.ret
        · replace h := (ib1_inv h).2
          cases h
          exact iRT.ret
-- GutterNine$Chooser.kindBelow
set_option maxHeartbeats 100000 in
theorem f19_32_at13_ok (L N d : Nat) : ∀ (n : Nat) (x1 : Int) (x2 : Int) {u3 u4 : Option iV} (s : gI) (o : Int × gI), f19_at13 N n x1 x2 s = some o → iRR false L (d + 0) kj19 k19_13 [some (vR 32), some (vI x1), some (vI x2), u3, u4] [] (s, g_rho) (some (vI o.1), (o.2, g_rho)) := by
  intro n
  induction n with
  | zero => intro _ _ _ _ _ _ h; cases h
  | succ n ih =>
    intro x1 x2 u3 u4 s o h
    refine iRR.of 401 ?_
    refine iRT.ite h (fun h => ?_) (fun h => ?_)
    · cases h
      exact iRT.ret
    · refine iRT.ov h fun h => ?_
      refine iRT.ov h fun h => ?_
      refine iRT.ck h fun h => ?_
      refine iRT.ite h (fun h => ?_) (fun h => ?_)
      · refine iRT.ov h fun h => ?_
        exact iRT.go 1 (ih _ _ _ _ h) (fun _ _ => rfl)
      · refine iRT.ck h fun h => ?_
        refine iRT.ite h (fun h => ?_) (fun h => ?_)
        · refine iRT.ov h fun h => ?_
          exact iRT.go 1 (ih _ _ _ _ h) (fun _ _ => rfl)
        · refine iRT.ck h fun h => ?_
          cases h
          exact iRT.ret
set_option maxHeartbeats 100000 in
theorem f19_32_ok (L N d : Nat) (x1 : Int) (s : gI) {o : Int × gI} (h : f19 N x1 s = some o) : iEE L (d + 1) 19 [vR 32, vI x1] (s, g_rho) (some (vI o.1), (o.2, g_rho)) := by
  refine iEE.of (wr := false) (d := d + 0) (md := gm_19) rfl rfl rfl (iRR.of 8 ?_)
  refine iRT.ov h fun h => ?_
  exact iRT.go 1 (f19_32_at13_ok L N d N _ _ _ _ h) (fun _ _ => rfl)
-- GutterNine$Chooser.isAsSeen
set_option maxHeartbeats 100000 in
theorem f18_32_at2_ok (L N d : Nat) : ∀ (n : Nat) (x1 : Int) (s : gI) (o : Int × gI), f18_at2 N n x1 s = some o → iRR false L (d + 1) kj18 k18_2 [some (vR 32), some (vI x1)] [] (s, g_rho) (some (vI o.1), (o.2, g_rho)) := by
  intro n
  induction n with
  | zero => intro _ _ _ h; cases h
  | succ n ih =>
    intro x1 s o h
    refine iRR.of 401 ?_
    refine iRT.ite h (fun h => ?_) (fun h => ?_)
    · replace h := (ib1_inv h).2
      cases h
      exact iRT.ret
    · refine iRT.ck h fun h => ?_
      refine iRT.ite h (fun h => ?_) (fun h => ?_)
      · refine iRT.ov h fun h => ?_
        exact iRT.go 1 (ih _ _ _ h) (fun _ _ => rfl)
      · refine iRT.ck h fun h => ?_
        obtain ⟨i3, s2, h1, h⟩ := i_o2_inv h
        refine iRT.call (f19_32_ok L N (d + 0) _ _ h1) ?_
        refine iRT.ite h (fun h => ?_) (fun h => ?_)
        · refine iRT.ov h fun h => ?_
          exact iRT.go 1 (ih _ _ _ h) (fun _ _ => rfl)
        · replace h := (ib1_inv h).2
          cases h
          exact iRT.ret
set_option maxHeartbeats 100000 in
theorem f18_32_ok (L N d : Nat) (s : gI) {o : Int × gI} (h : f18 N  s = some o) : iEE L (d + 2) 18 [vR 32] (s, g_rho) (some (vI o.1), (o.2, g_rho)) := by
  refine iEE.of (wr := false) (d := d + 1) (md := gm_18) rfl rfl rfl (iRR.of 3 ?_)
  exact iRT.go 2 (f18_32_at2_ok L N d N _ _ _ h) (fun _ _ => rfl)
-- GutterNine$Chooser.meet
set_option maxHeartbeats 100000 in
theorem f17_32_at14_ok (L N d : Nat) : ∀ (n : Nat) (x1 : Int) (x2 : Int) (s : gI) (o : gI), f17_at14 N n x1 x2 s = some o → iRR false L (d + 0) kj17 k17_14 [some (vR 32), some (vI x1), some (vI x2)] [] (s, g_rho) (none, (o, g_rho)) := by
  intro n
  induction n with
  | zero => intro _ _ _ _ h; cases h
  | succ n ih =>
    intro x1 x2 s o h
    refine iRR.of 401 ?_
    refine iRT.ite h (fun h => ?_) (fun h => ?_)
    · refine iRT.ck h fun h => ?_
      refine iRT.ov h fun h => ?_
      cases h
      exact iRT.ret
    · refine iRT.ck h fun h => ?_
      refine iRT.ite h (fun h => ?_) (fun h => ?_)
      · cases h
        exact iRT.ret
      · refine iRT.ov h fun h => ?_
        exact iRT.go 1 (ih _ _ _ _ h) (fun _ _ => rfl)
set_option maxHeartbeats 100000 in
theorem f17_32_ok (L N d : Nat) (x1 : Int) (s : gI) {o : gI} (h : f17 N x1 s = some o) : iEE L (d + 1) 17 [vR 32, vI x1] (s, g_rho) (none, (o, g_rho)) := by
  refine iEE.of (wr := false) (d := d + 0) (md := gm_17) rfl rfl rfl (iRR.of 9 ?_)
  exact iRT.go 8 (f17_32_at14_ok L N d N _ _ _ _ h) (fun _ _ => rfl)
-- GutterNine$Chooser.narrow
set_option maxHeartbeats 100000 in
theorem f16_32_at124_ok (L N d : Nat) {r_at19 : Int → Int → Int → Int → gI → Option (gI)} (h_at19 : ∀ x1 x2 x3 x4 u5 u6 u7 u8 s o, r_at19 x1 x2 x3 x4 s = some o → iRR false L (d + 4) kj16 k16_19 [some (vR 32), some (vI x1), some (vI x2), some (vI x3), some (vI x4), u5, u6, u7, u8] [] (s, g_rho) (none, (o, g_rho))) (x1 : Int) (x2 : Int) (x3 : Int) (x4 : Int) (x6 : Int) (x7 : Int) (x8 : Int) {u5 : Option iV} (s : gI) {o : gI} (h : f16_at124 N r_at19 x1 x2 x3 x4 x6 x7 x8 s = some o) : iRR false L (d + 4) kj16 k16_124 [some (vR 32), some (vI x1), some (vI x2), some (vI x3), some (vI x4), u5, some (vI x6), some (vI x7), some (vI x8)] [] (s, g_rho) (none, (o, g_rho)) := by
  refine iRR.of 10 ?_
  obtain ⟨s1, h1, h⟩ := i_o1_inv h
  refine iRT.call (f50_11_ok L N (d + 1) _ _ _ _ _ h1) ?_
  refine iRT.ov h fun h => ?_
  exact iRT.go 1 (h_at19 _ _ _ _ _ _ _ _ _ _ h) (fun _ _ => rfl)
set_option maxHeartbeats 100000 in
theorem f16_32_at19_ok (L N d : Nat) : ∀ (n : Nat) (x1 : Int) (x2 : Int) (x3 : Int) (x4 : Int) {u5 u6 u7 u8 : Option iV} (s : gI) (o : gI), f16_at19 N n x1 x2 x3 x4 s = some o → iRR false L (d + 4) kj16 k16_19 [some (vR 32), some (vI x1), some (vI x2), some (vI x3), some (vI x4), u5, u6, u7, u8] [] (s, g_rho) (none, (o, g_rho)) := by
  intro n
  induction n with
  | zero => intro _ _ _ _ _ _ _ _ _ _ h; cases h
  | succ n ih =>
    intro x1 x2 x3 x4 u5 u6 u7 u8 s o h
    refine iRR.of 401 ?_
    refine iRT.ite h (fun h => ?_) (fun h => ?_)
    · cases h
      exact iRT.ret
    · refine iRT.ck h fun h => ?_
      obtain ⟨i2, s1, h1, h⟩ := i_o2_inv h
      refine iRT.call (f172_ok L N (d + 3) _ _ _ h1) ?_
      refine iRT.dv h fun h => ?_
      refine iRT.ck h fun h => ?_
      refine iRT.ov h fun h => ?_
      refine iRT.dv h fun h => ?_
      refine iRT.ck h fun h => ?_
      refine iRT.ov h fun h => ?_
      obtain ⟨i6, s5, h1, h⟩ := i_o2_inv h
      refine iRT.call (f49_11_ok L N (d + 0) _ _ _ _ h1) ?_
      refine iRT.ite h (fun h => ?_) (fun h => ?_)
      · exact iRT.go 0 (f16_32_at124_ok L N d (fun a0 a1 a2 a3 b0 b1 b2 b3 s o h => ih a0 a1 a2 a3 s o h) _ _ _ _ _ _ _ _ h) (fun _ _ => rfl)
      · obtain ⟨i8, s7, h1, h⟩ := i_o2_inv h
        refine iRT.call (f18_32_ok L N (d + 2)  _ h1) ?_
        refine iRT.ite h (fun h => ?_) (fun h => ?_)
        · exact iRT.go 0 (f16_32_at124_ok L N d (fun a0 a1 a2 a3 b0 b1 b2 b3 s o h => ih a0 a1 a2 a3 s o h) _ _ _ _ _ _ _ _ h) (fun _ _ => rfl)
        · refine iRT.ov h fun h => ?_
          refine iRT.ck h fun h => ?_
          obtain ⟨i11, s10, h1, h⟩ := i_o2_inv h
          refine iRT.call (f171_ok L N (d + 3) _ _ h1) ?_
          obtain ⟨s12, h1, h⟩ := i_o1_inv h
          refine iRT.call (f17_32_ok L N (d + 3) _ _ h1) ?_
          exact iRT.go 0 (f16_32_at124_ok L N d (fun a0 a1 a2 a3 b0 b1 b2 b3 s o h => ih a0 a1 a2 a3 s o h) _ _ _ _ _ _ _ _ h) (fun _ _ => rfl)
set_option maxHeartbeats 100000 in
theorem f16_32_ok (L N d : Nat) (x1 : Int) (x2 : Int) (x3 : Int) (s : gI) {o : gI} (h : f16 N x1 x2 x3 s = some o) : iEE L (d + 5) 16 [vR 32, vI x1, vI x2, vI x3] (s, g_rho) (none, (o, g_rho)) := by
  refine iEE.of (wr := false) (d := d + 4) (md := gm_16) rfl rfl rfl (iRR.of 12 ?_)
  exact iRT.go 11 (f16_32_at19_ok L N d N _ _ _ _ _ _ h) (fun _ _ => rfl)
-- GutterNine.lies
set_option maxHeartbeats 100000 in
theorem f157_0_ok (L N d : Nat) (x1 : Int) (x2 : Int) (x3 : Int) (x4 : Int) (x5 : Int) (s : gI) {o : Int × gI} (h : f157 N x1 x2 x3 x4 x5 s = some o) : iEE L (d + 6) 157 [vR 0, vI x1, vI x2, vI x3, vI x4, vI x5] (s, g_rho) (some (vI o.1), (o.2, g_rho)) := by
  refine iEE.of (wr := false) (d := d + 5) (md := gm_157) rfl rfl rfl (iRR.of 401 ?_)
  obtain ⟨i2, s1, h1, h⟩ := i_o2_inv h
  refine iRT.call (f169_0_ok L N (d + 3) _ _ _ _ _ h1) ?_
  refine iRT.ite h (fun h => ?_) (fun h => ?_)
  · cases h
    exact iRT.ret
  · refine iRT.ite h (fun h => ?_) (fun h => ?_)
    · cases h
      exact iRT.ret
    · refine iRT.ite h (fun h => ?_) (fun h => ?_)
      · refine iRT.ov h fun h => ?_
        refine iRT.ov h fun h => ?_
        obtain ⟨s3, h1, h⟩ := i_o1_inv h
        refine iRT.call (f16_32_ok L N (d + 0) _ _ _ _ h1) ?_
        refine iRT.ite h (fun h => ?_) (fun h => ?_)
        · cases h
          exact iRT.ret
        · refine iRT.ite h (fun h => ?_) (fun h => ?_)
          · cases h
            exact iRT.ret
          · refine iRT.ite h (fun h => ?_) (fun h => ?_)
            · cases h
              exact iRT.ret
            · cases h
              exact iRT.ret
      · cases h
        exact iRT.ret
-- GutterNine$Roof.landing
set_option maxHeartbeats 100000 in
theorem f83_12_14_ok (L N d : Nat) (x1 : Int) (x2 : Int) (s : gI) {o : Int × gI} (h : f83 N 14 x1 x2 s = some o) : iEE L (d + 1) 83 [vR 12, vI x1, vI x2, vR 14] (s, g_rho) (some (vI o.1), (o.2, g_rho)) := by
  refine iEE.of (wr := false) (d := d + 0) (md := gm_83) rfl rfl rfl (iRR.of 401 ?_)
  refine iRT.ite h (fun h => ?_) (fun h => ?_)
  · cases h
    exact iRT.ret
  · refine iRT.ite h (fun h => ?_) (fun h => ?_)
    · cases h
      exact iRT.ret
    · refine iRT.ite h (fun h => ?_) (fun h => ?_)
      · refine iRT.ite h (fun h => ?_) (fun h => ?_)
        · refine iRT.ov h fun h => ?_
          refine iRT.ov h fun h => ?_
          refine iRT.ck h fun h => ?_
          refine iRT.ite h (fun h => ?_) (fun h => ?_)
          · cases h
            exact iRT.ret
          · refine iRT.ck h fun h => ?_
            refine iRT.ite h (fun h => ?_) (fun h => ?_)
            · refine iRT.ck h fun h => ?_
              refine iRT.ite h (fun h => ?_) (fun h => ?_)
              · cases h
                exact iRT.ret
              · refine iRT.ov h fun h => ?_
                cases h
                exact iRT.ret
            · cases h
              exact iRT.ret
        · cases h
          exact iRT.ret
      · cases h
        exact iRT.ret
-- GutterNine$Roof.step
set_option maxHeartbeats 100000 in
theorem f82_12_14_at48_ok (L N d : Nat) (x1 : Int) (x4 : Int) (x5 : Int) {u2 : Option iV} {u6 : Option iV} (s : gI) {o : Int × gI} (h : f82_at48 N 14 x1 x4 x5 s = some o) : iRR false L (d + 0) kj82 k82_48 [some (vR 12), some (vI x1), u2, some (vR 14), some (vI x4), some (vI x5), u6] [] (s, g_rho) (some (vI o.1), (o.2, g_rho)) := by
  refine iRR.of 401 ?_
  refine iRT.ite h (fun h => ?_) (fun h => ?_)
  · refine iRT.ite h (fun h => ?_) (fun h => ?_)
    · cases h
      exact iRT.ret
    · refine iRT.ite h (fun h => ?_) (fun h => ?_)
      · cases h
        exact iRT.ret
      · refine iRT.ite h (fun h => ?_) (fun h => ?_)
        · refine iRT.ov h fun h => ?_
          refine iRT.ov h fun h => ?_
          refine iRT.ck h fun h => ?_
          refine iRT.ite h (fun h => ?_) (fun h => ?_)
          · refine iRT.ck h fun h => ?_
            refine iRT.ite h (fun h => ?_) (fun h => ?_)
            · cases h
              exact iRT.ret
            · refine iRT.ov h fun h => ?_
              cases h
              exact iRT.ret
          · refine iRT.ck h fun h => ?_
            refine iRT.ite h (fun h => ?_) (fun h => ?_)
            · cases h
              exact iRT.ret
            · refine iRT.ck h fun h => ?_
              refine iRT.ite h (fun h => ?_) (fun h => ?_)
              · cases h
                exact iRT.ret
              · cases h
                exact iRT.ret
        · cases h
          exact iRT.ret
  · cases h
    exact iRT.ret
set_option maxHeartbeats 100000 in
theorem f82_12_14_at45_ok (L N d : Nat) (x1 : Int) (x5 : Int) (z0 : Int) (z1 : Int) {u2 : Option iV} {u4 : Option iV} {u6 : Option iV} (s : gI) {o : Int × gI} (h : f82_at45 N 14 x1 x5 z0 z1 s = some o) : iRR false L (d + 0) kj82 k82_45 [some (vR 12), some (vI x1), u2, some (vR 14), u4, some (vI x5), u6] [vI z0, vI z1] (s, g_rho) (some (vI o.1), (o.2, g_rho)) := by
  refine iRR.of 3 ?_
  refine iRT.ov h fun h => ?_
  exact iRT.go 1 (f82_12_14_at48_ok L N d _ _ _ _ h) (fun _ _ => rfl)
set_option maxHeartbeats 100000 in
theorem f82_12_14_ok (L N d : Nat) (x1 : Int) (x2 : Int) (s : gI) {o : Int × gI} (h : f82 N 14 x1 x2 s = some o) : iEE L (d + 1) 82 [vR 12, vI x1, vI x2, vR 14] (s, g_rho) (some (vI o.1), (o.2, g_rho)) := by
  refine iEE.of (wr := false) (d := d + 0) (md := gm_82) rfl rfl rfl (iRR.of 20 ?_)
  refine iRT.dv h fun h => ?_
  refine iRT.dv h fun h => ?_
  refine iRT.ite h (fun h => ?_) (fun h => ?_)
  · refine iRT.ov h fun h => ?_
    exact iRT.go 1 (f82_12_14_at48_ok L N d _ _ _ _ h) (fun _ _ => rfl)
  · refine iRT.ite h (fun h => ?_) (fun h => ?_)
    · refine iRT.ov h fun h => ?_
      exact iRT.go 1 (f82_12_14_at48_ok L N d _ _ _ _ h) (fun _ _ => rfl)
    · refine iRT.ite h (fun h => ?_) (fun h => ?_)
      · exact iRT.go 2 (f82_12_14_at45_ok L N d _ _ _ _ _ h) (fun _ _ => rfl)
      · exact iRT.go 1 (f82_12_14_at45_ok L N d _ _ _ _ _ h) (fun _ _ => rfl)
-- GutterNine$Roof.rest
set_option maxHeartbeats 100000 in
theorem f84_12_14_at11_ok (L N d : Nat) : ∀ (n : Nat) (x2 : Int) (y4 : Int) (x6 : Int) (x7 : Int) {u1 u8 u9 : Option iV} (s : gI) (o : Int × gI), f84_at11 N 14 n x2 y4 x6 x7 s = some o → iRR false L (d + 1) kj84 k84_11 [some (vR 12), u1, some (vI x2), some (vR 14), some (vJ y4), none, some (vI x6), some (vI x7), u8, u9] [] (s, g_rho) (some (vI o.1), (o.2, g_rho)) := by
  intro n
  induction n with
  | zero => intro _ _ _ _ _ _ _ _ _ h; cases h
  | succ n ih =>
    intro x2 y4 x6 x7 u1 u8 u9 s o h
    refine iRR.of 401 ?_
    refine iRT.ite h (fun h => ?_) (fun h => ?_)
    · cases h
      exact iRT.ret
    · refine iRT.ck h fun h => ?_
      refine iRT.ov h fun h => ?_
      refine iRT.ite h (fun h => ?_) (fun h => ?_)
      · cases h
        exact iRT.ret
      · refine iRT.ite h (fun h => ?_) (fun h => ?_)
        · obtain ⟨i3, s2, h1, h⟩ := i_o2_inv h
          refine iRT.call (f82_12_14_ok L N (d + 0) _ _ _ h1) ?_
          refine iRT.ite h (fun h => ?_) (fun h => ?_)
          · refine iRT.ite h (fun h => ?_) (fun h => ?_)
            · refine iRT.ov h fun h => ?_
              exact iRT.go 1 (ih _ _ _ _ _ _ h) (fun _ _ => rfl)
            · cases h
              exact iRT.ret
          · cases h
            exact iRT.ret
        · cases h
          exact iRT.ret
set_option maxHeartbeats 100000 in
theorem f84_12_14_ok (L N d : Nat) (x1 : Int) (x2 : Int) (s : gI) {o : Int × gI} (h : f84 N 14 x1 x2 s = some o) : iEE L (d + 2) 84 [vR 12, vI x1, vI x2, vR 14] (s, g_rho) (some (vI o.1), (o.2, g_rho)) := by
  refine iEE.of (wr := false) (d := d + 1) (md := gm_84) rfl rfl rfl (iRR.of 9 ?_)
  exact iRT.go 8 (f84_12_14_at11_ok L N d N _ _ _ _ _ _ h) (fun _ _ => rfl)
-- GutterNine$Play.lostFrom
set_option maxHeartbeats 100000 in
theorem f73_11_at140_ok (L N d : Nat) {r_at4 : Int → Int → Int → gI → Option (Int × gI)} (h_at4 : ∀ x1 x2 x3 u4 s o, r_at4 x1 x2 x3 s = some o → iRR false L (d + 2) kj73 k73_4 [some (vR 11), some (vI x1), some (vI x2), some (vI x3), u4] [] (s, g_rho) (some (vI o.1), (o.2, g_rho))) (x1 : Int) (x3 : Int) (z0 : Int) (z1 : Int) {u2 : Option iV} {u4 : Option iV} (s : gI) {o : Int × gI} (h : f73_at140 N r_at4 x1 x3 z0 z1 s = some o) : iRR false L (d + 2) kj73 k73_140 [some (vR 11), some (vI x1), u2, some (vI x3), u4] [vI z0, vI z1] (s, g_rho) (some (vI o.1), (o.2, g_rho)) := by
  refine iRR.of 5 ?_
  refine iRT.ov h fun h => ?_
  refine iRT.ov h fun h => ?_
  exact iRT.go 1 (h_at4 _ _ _ _ _ _ h) (fun _ _ => rfl)
set_option maxHeartbeats 100000 in
theorem f73_11_at119_ok (L N d : Nat) {r_at4 : Int → Int → Int → gI → Option (Int × gI)} (h_at4 : ∀ x1 x2 x3 u4 s o, r_at4 x1 x2 x3 s = some o → iRR false L (d + 2) kj73 k73_4 [some (vR 11), some (vI x1), some (vI x2), some (vI x3), u4] [] (s, g_rho) (some (vI o.1), (o.2, g_rho))) (x1 : Int) (x2 : Int) (x3 : Int) (x4 : Int) (s : gI) {o : Int × gI} (h : f73_at119 N r_at4 x1 x2 x3 x4 s = some o) : iRR false L (d + 2) kj73 k73_119 [some (vR 11), some (vI x1), some (vI x2), some (vI x3), some (vI x4)] [] (s, g_rho) (some (vI o.1), (o.2, g_rho)) := by
  refine iRR.of 10 ?_
  refine iRT.ite h (fun h => ?_) (fun h => ?_)
  · exact iRT.go 2 (f73_11_at140_ok L N d h_at4 _ _ _ _ _ h) (fun _ _ => rfl)
  · refine iRT.ck h fun h => ?_
    exact iRT.go 0 (f73_11_at140_ok L N d h_at4 _ _ _ _ _ h) (fun _ _ => rfl)
set_option maxHeartbeats 100000 in
theorem f73_11_at48_ok (L N d : Nat) {r_at4 : Int → Int → Int → gI → Option (Int × gI)} (h_at4 : ∀ x1 x2 x3 u4 s o, r_at4 x1 x2 x3 s = some o → iRR false L (d + 2) kj73 k73_4 [some (vR 11), some (vI x1), some (vI x2), some (vI x3), u4] [] (s, g_rho) (some (vI o.1), (o.2, g_rho))) (x1 : Int) (x2 : Int) (x3 : Int) {u4 : Option iV} (s : gI) {o : Int × gI} (h : f73_at48 N r_at4 x1 x2 x3 s = some o) : iRR false L (d + 2) kj73 k73_48 [some (vR 11), some (vI x1), some (vI x2), some (vI x3), u4] [] (s, g_rho) (some (vI o.1), (o.2, g_rho)) := by
  refine iRR.of 36 ?_
  refine iRT.ck h fun h => ?_
  refine iRT.ov h fun h => ?_
  refine iRT.ck h fun h => ?_
  refine iRT.ov h fun h => ?_
  obtain ⟨i2, s1, h1, h⟩ := i_o2_inv h
  refine iRT.call (f83_12_14_ok L N (d + 1) _ _ _ h1) ?_
  refine iRT.ite h (fun h => ?_) (fun h => ?_)
  · exact iRT.go 0 (f73_11_at119_ok L N d h_at4 _ _ _ _ _ h) (fun _ _ => rfl)
  · obtain ⟨i4, s3, h1, h⟩ := i_o2_inv h
    refine iRT.call (f84_12_14_ok L N (d + 0) _ _ _ h1) ?_
    exact iRT.go 1 (f73_11_at119_ok L N d h_at4 _ _ _ _ _ h) (fun _ _ => rfl)
set_option maxHeartbeats 100000 in
theorem f73_11_at4_ok (L N d : Nat) : ∀ (n : Nat) (x1 : Int) (x2 : Int) (x3 : Int) {u4 : Option iV} (s : gI) (o : Int × gI), f73_at4 N n x1 x2 x3 s = some o → iRR false L (d + 2) kj73 k73_4 [some (vR 11), some (vI x1), some (vI x2), some (vI x3), u4] [] (s, g_rho) (some (vI o.1), (o.2, g_rho)) := by
  intro n
  induction n with
  | zero => intro _ _ _ _ _ _ h; cases h
  | succ n ih =>
    intro x1 x2 x3 u4 s o h
    refine iRR.of 401 ?_
    refine iRT.ite h (fun h => ?_) (fun h => ?_)
    · cases h
      exact iRT.ret
    · refine iRT.ite h (fun h => ?_) (fun h => ?_)
      · exact iRT.go 0 (f73_11_at48_ok L N d (fun a0 a1 a2 b0 s o h => ih a0 a1 a2 s o h) _ _ _ _ h) (fun _ _ => rfl)
      · refine iRT.ck h fun h => ?_
        refine iRT.ite h (fun h => ?_) (fun h => ?_)
        · exact iRT.go 0 (f73_11_at48_ok L N d (fun a0 a1 a2 b0 s o h => ih a0 a1 a2 s o h) _ _ _ _ h) (fun _ _ => rfl)
        · refine iRT.ov h fun h => ?_
          exact iRT.go 1 (ih _ _ _ _ _ h) (fun _ _ => rfl)
set_option maxHeartbeats 100000 in
theorem f73_11_ok (L N d : Nat) (x1 : Int) (s : gI) {o : Int × gI} (h : f73 N x1 s = some o) : iEE L (d + 3) 73 [vR 11, vI x1] (s, g_rho) (some (vI o.1), (o.2, g_rho)) := by
  refine iEE.of (wr := false) (d := d + 2) (md := gm_73) rfl rfl rfl (iRR.of 5 ?_)
  exact iRT.go 4 (f73_11_at4_ok L N d N _ _ _ _ _ h) (fun _ _ => rfl)
-- GutterNine.pitch
set_option maxHeartbeats 100000 in
theorem f158_0_at52_ok (L N d : Nat) : ∀ (n : Nat) (x1 : Int) (x2 : Int) (x3 : Int) (x4 : Int) {u5 : Option iV} (s : gI) (o : Int × gI), f158_at52 N n x1 x2 x3 x4 s = some o → iRR false L (d + 3) kj158 k158_52 [some (vR 0), some (vI x1), some (vI x2), some (vI x3), some (vI x4), u5] [] (s, g_rho) (some (vI o.1), (o.2, g_rho)) := by
  intro n
  induction n with
  | zero => intro _ _ _ _ _ _ _ h; cases h
  | succ n ih =>
    intro x1 x2 x3 x4 u5 s o h
    refine iRR.of 401 ?_
    refine iRT.ite h (fun h => ?_) (fun h => ?_)
    · refine iRT.ite h (fun h => ?_) (fun h => ?_)
      · cases h
        exact iRT.ret
      · cases h
        exact iRT.ret
    · obtain ⟨i2, s1, h1, h⟩ := i_o2_inv h
      refine iRT.call (f73_11_ok L N (d + 0) _ _ h1) ?_
      refine iRT.ite h (fun h => ?_) (fun h => ?_)
      · refine iRT.ov h fun h => ?_
        exact iRT.go 1 (ih _ _ _ _ _ _ h) (fun _ _ => rfl)
      · refine iRT.ov h fun h => ?_
        exact iRT.go 1 (ih _ _ _ _ _ _ h) (fun _ _ => rfl)
set_option maxHeartbeats 100000 in
theorem f158_0_ok (L N d : Nat) (x1 : Int) (s : gI) {o : Int × gI} (h : f158 N x1 s = some o) : iEE L (d + 4) 158 [vR 0, vI x1] (s, g_rho) (some (vI o.1), (o.2, g_rho)) := by
  refine iEE.of (wr := false) (d := d + 3) (md := gm_158) rfl rfl rfl (iRR.of 401 ?_)
  refine iRT.ite h (fun h => ?_) (fun h => ?_)
  · cases h
    exact iRT.ret
  · refine iRT.ov h fun h => ?_
    refine iRT.ite h (fun h => ?_) (fun h => ?_)
    · refine iRT.ite h (fun h => ?_) (fun h => ?_)
      · obtain ⟨i2, s1, h1, h⟩ := i_o2_inv h
        refine iRT.call (f73_11_ok L N (d + 0) _ _ h1) ?_
        exact iRT.go 3 (f158_0_at52_ok L N d N _ _ _ _ _ _ h) (fun _ _ => rfl)
      · refine iRT.ov h fun h => ?_
        obtain ⟨i4, s3, h1, h⟩ := i_o2_inv h
        refine iRT.call (f73_11_ok L N (d + 0) _ _ h1) ?_
        cases h
        exact iRT.ret
    · cases h
      exact iRT.ret
-- GutterNine.pays
set_option maxHeartbeats 100000 in
theorem f159_0_at89_ok (L N d : Nat) {r_at24 : Int → Int → Int → Int → gI → Option (Int × gI)} (h_at24 : ∀ x1 x2 x3 x4 u5 s o, r_at24 x1 x2 x3 x4 s = some o → iRR false L (d + 1) kj159 k159_24 [some (vR 0), some (vI x1), some (vI x2), some (vI x3), some (vI x4), u5] [] (s, g_rho) (some (vI o.1), (o.2, g_rho))) (x1 : Int) (x2 : Int) (x3 : Int) (x4 : Int) (z0 : Int) {u5 : Option iV} (s : gI) {o : Int × gI} (h : f159_at89 N r_at24 x1 x2 x3 x4 z0 s = some o) : iRR false L (d + 1) kj159 k159_89 [some (vR 0), some (vI x1), some (vI x2), some (vI x3), some (vI x4), u5] [vI z0] (s, g_rho) (some (vI o.1), (o.2, g_rho)) := by
  refine iRR.of 22 ?_
  refine iRT.ite h (fun h => ?_) (fun h => ?_)
  · refine iRT.ov h fun h => ?_
    exact iRT.go 1 (h_at24 _ _ _ _ _ _ _ h) (fun _ _ => rfl)
  · refine iRT.ck h fun h => ?_
    refine iRT.ite h (fun h => ?_) (fun h => ?_)
    · refine iRT.ov h fun h => ?_
      exact iRT.go 1 (h_at24 _ _ _ _ _ _ _ h) (fun _ _ => rfl)
    · refine iRT.ck h fun h => ?_
      refine iRT.ov h fun h => ?_
      refine iRT.ov h fun h => ?_
      exact iRT.go 1 (h_at24 _ _ _ _ _ _ _ h) (fun _ _ => rfl)
set_option maxHeartbeats 100000 in
theorem f159_0_at84_ok (L N d : Nat) {r_at24 : Int → Int → Int → Int → gI → Option (Int × gI)} (h_at24 : ∀ x1 x2 x3 x4 u5 s o, r_at24 x1 x2 x3 x4 s = some o → iRR false L (d + 1) kj159 k159_24 [some (vR 0), some (vI x1), some (vI x2), some (vI x3), some (vI x4), u5] [] (s, g_rho) (some (vI o.1), (o.2, g_rho))) (x1 : Int) (x2 : Int) (x3 : Int) (x4 : Int) {u5 : Option iV} (s : gI) {o : Int × gI} (h : f159_at84 N r_at24 x1 x2 x3 x4 s = some o) : iRR false L (d + 1) kj159 k159_84 [some (vR 0), some (vI x1), some (vI x2), some (vI x3), some (vI x4), u5] [] (s, g_rho) (some (vI o.1), (o.2, g_rho)) := by
  refine iRR.of 3 ?_
  exact iRT.go 2 (f159_0_at89_ok L N d h_at24 _ _ _ _ _ _ h) (fun _ _ => rfl)
set_option maxHeartbeats 100000 in
theorem f159_0_at88_ok (L N d : Nat) {r_at24 : Int → Int → Int → Int → gI → Option (Int × gI)} (h_at24 : ∀ x1 x2 x3 x4 u5 s o, r_at24 x1 x2 x3 x4 s = some o → iRR false L (d + 1) kj159 k159_24 [some (vR 0), some (vI x1), some (vI x2), some (vI x3), some (vI x4), u5] [] (s, g_rho) (some (vI o.1), (o.2, g_rho))) (x1 : Int) (x2 : Int) (x3 : Int) (x4 : Int) {u5 : Option iV} (s : gI) {o : Int × gI} (h : f159_at88 N r_at24 x1 x2 x3 x4 s = some o) : iRR false L (d + 1) kj159 k159_88 [some (vR 0), some (vI x1), some (vI x2), some (vI x3), some (vI x4), u5] [] (s, g_rho) (some (vI o.1), (o.2, g_rho)) := by
  refine iRR.of 2 ?_
  exact iRT.go 1 (f159_0_at89_ok L N d h_at24 _ _ _ _ _ _ h) (fun _ _ => rfl)
set_option maxHeartbeats 100000 in
theorem f159_0_at62_ok (L N d : Nat) {r_at24 : Int → Int → Int → Int → gI → Option (Int × gI)} (h_at24 : ∀ x1 x2 x3 x4 u5 s o, r_at24 x1 x2 x3 x4 s = some o → iRR false L (d + 1) kj159 k159_24 [some (vR 0), some (vI x1), some (vI x2), some (vI x3), some (vI x4), u5] [] (s, g_rho) (some (vI o.1), (o.2, g_rho))) (x1 : Int) (x2 : Int) (x3 : Int) (x4 : Int) {u5 : Option iV} (s : gI) {o : Int × gI} (h : f159_at62 N r_at24 x1 x2 x3 x4 s = some o) : iRR false L (d + 1) kj159 k159_62 [some (vR 0), some (vI x1), some (vI x2), some (vI x3), some (vI x4), u5] [] (s, g_rho) (some (vI o.1), (o.2, g_rho)) := by
  refine iRR.of 12 ?_
  refine iRT.ite h (fun h => ?_) (fun h => ?_)
  · refine iRT.ck h fun h => ?_
    refine iRT.ite h (fun h => ?_) (fun h => ?_)
    · exact iRT.go 0 (f159_0_at84_ok L N d h_at24 _ _ _ _ _ h) (fun _ _ => rfl)
    · exact iRT.go 0 (f159_0_at88_ok L N d h_at24 _ _ _ _ _ h) (fun _ _ => rfl)
  · exact iRT.go 0 (f159_0_at88_ok L N d h_at24 _ _ _ _ _ h) (fun _ _ => rfl)
set_option maxHeartbeats 100000 in
theorem f159_0_at24_ok (L N d : Nat) : ∀ (n : Nat) (x1 : Int) (x2 : Int) (x3 : Int) (x4 : Int) {u5 : Option iV} (s : gI) (o : Int × gI), f159_at24 N n x1 x2 x3 x4 s = some o → iRR false L (d + 1) kj159 k159_24 [some (vR 0), some (vI x1), some (vI x2), some (vI x3), some (vI x4), u5] [] (s, g_rho) (some (vI o.1), (o.2, g_rho)) := by
  intro n
  induction n with
  | zero => intro _ _ _ _ _ _ _ h; cases h
  | succ n ih =>
    intro x1 x2 x3 x4 u5 s o h
    refine iRR.of 401 ?_
    refine iRT.ite h (fun h => ?_) (fun h => ?_)
    · refine iRT.ite h (fun h => ?_) (fun h => ?_)
      · refine iRT.ite h (fun h => ?_) (fun h => ?_)
        · cases h
          exact iRT.ret
        · refine iRT.dv h fun h => ?_
          cases h
          exact iRT.ret
      · cases h
        exact iRT.ret
    · refine iRT.ite h (fun h => ?_) (fun h => ?_)
      · exact iRT.go 0 (f159_0_at84_ok L N d (fun a0 a1 a2 a3 b0 s o h => ih a0 a1 a2 a3 s o h) _ _ _ _ _ h) (fun _ _ => rfl)
      · refine iRT.ite h (fun h => ?_) (fun h => ?_)
        · refine iRT.ck h fun h => ?_
          refine iRT.ite h (fun h => ?_) (fun h => ?_)
          · exact iRT.go 0 (f159_0_at84_ok L N d (fun a0 a1 a2 a3 b0 s o h => ih a0 a1 a2 a3 s o h) _ _ _ _ _ h) (fun _ _ => rfl)
          · exact iRT.go 0 (f159_0_at62_ok L N d (fun a0 a1 a2 a3 b0 s o h => ih a0 a1 a2 a3 s o h) _ _ _ _ _ h) (fun _ _ => rfl)
        · exact iRT.go 0 (f159_0_at62_ok L N d (fun a0 a1 a2 a3 b0 s o h => ih a0 a1 a2 a3 s o h) _ _ _ _ _ h) (fun _ _ => rfl)
set_option maxHeartbeats 100000 in
theorem f159_0_ok (L N d : Nat) (x1 : Int) (x2 : Int) (s : gI) {o : Int × gI} (h : f159 N x1 x2 s = some o) : iEE L (d + 2) 159 [vR 0, vI x1, vI x2] (s, g_rho) (some (vI o.1), (o.2, g_rho)) := by
  refine iEE.of (wr := false) (d := d + 1) (md := gm_159) rfl rfl rfl (iRR.of 401 ?_)
  obtain ⟨i2, s1, h1, h⟩ := i_o2_inv h
  refine iRT.call (f166_0_ok L N (d + 0) _ _ h1) ?_
  refine iRT.ite h (fun h => ?_) (fun h => ?_)
  · cases h
    exact iRT.ret
  · refine iRT.ite h (fun h => ?_) (fun h => ?_)
    · cases h
      exact iRT.ret
    · refine iRT.ite h (fun h => ?_) (fun h => ?_)
      · exact iRT.go 4 (f159_0_at24_ok L N d N _ _ _ _ _ _ h) (fun _ _ => rfl)
      · cases h
        exact iRT.ret
-- java/util/Arrays.fill
set_option maxHeartbeats 100000 in
theorem f321_39_at5_ok (L N d : Nat) : ∀ (n : Nat) (x1 : Int) (x2 : Int) (x3 : Int) (s : gI) (o : gI), f321_at5 N 39 4 n x1 x2 x3 s = some o → iRR false L (d + 0) kj321 k321_5 [some (vR 39), some (vI x1), some (vI x2), some (vI x3)] [] (s, g_rho) (none, (o, g_rho)) := by
  intro n
  induction n with
  | zero => intro _ _ _ _ _ h; cases h
  | succ n ih =>
    intro x1 x2 x3 s o h
    refine iRR.of 401 ?_
    refine iRT.ite h (fun h => ?_) (fun h => ?_)
    · cases h
      exact iRT.ret
    · refine iRT.ck h fun h => ?_
      refine iRT.ov h fun h => ?_
      exact iRT.go 1 (ih _ _ _ _ _ h) (fun _ _ => rfl)
set_option maxHeartbeats 100000 in
theorem f321_39_ok (L N d : Nat) (x1 : Int) (s : gI) {o : gI} (h : f321 N 39 4 x1 s = some o) : iEE L (d + 1) 321 [vR 39, vI x1] (s, g_rho) (none, (o, g_rho)) := by
  refine iEE.of (wr := false) (d := d + 0) (md := gm_321) rfl rfl rfl (iRR.of 6 ?_)
  replace h := (iov_inv h).2
  exact iRT.go 5 (f321_39_at5_ok L N d N _ _ _ _ _ h) (fun _ _ => rfl)
-- GutterNine$Waiting.begin
set_option maxHeartbeats 100000 in
theorem f109_38_15_6_at24_ok (L N d : Nat) : ∀ (n : Nat) (x4 : Int) {u3 : Option iV} (s : gI) (o : gI), f109_at24 N n x4 s = some o → iRR false L (d + 1) kj109 k109_24 [some (vR 38), some (vR 15), some (vR 6), u3, some (vI x4)] [] (s, g_rho) (none, (o, g_rho)) := by
  intro n
  induction n with
  | zero => intro _ _ _ _ h; cases h
  | succ n ih =>
    intro x4 u3 s o h
    refine iRR.of 401 ?_
    refine iRT.ite h (fun h => ?_) (fun h => ?_)
    · cases h
      exact iRT.ret
    · refine iRT.ck h fun h => ?_
      refine iRT.ite h (fun h => ?_) (fun h => ?_)
      · refine iRT.ck h fun h => ?_
        refine iRT.ck h fun h => ?_
        refine iRT.ck h fun h => ?_
        refine iRT.ov h fun h => ?_
        refine iRT.ck h fun h => ?_
        refine iRT.ov h fun h => ?_
        exact iRT.go 1 (ih _ _ _ h) (fun _ _ => rfl)
      · refine iRT.ov h fun h => ?_
        exact iRT.go 1 (ih _ _ _ h) (fun _ _ => rfl)
set_option maxHeartbeats 100000 in
theorem f109_38_15_6_ok (L N d : Nat) (x3 : Int) (s : gI) {o : gI} (h : f109 N x3 s = some o) : iEE L (d + 2) 109 [vR 38, vR 15, vR 6, vI x3] (s, g_rho) (none, (o, g_rho)) := by
  refine iEE.of (wr := false) (d := d + 1) (md := gm_109) rfl rfl rfl (iRR.of 14 ?_)
  delta f109 at h
  obtain ⟨s3, h1, h⟩ := i_o1_inv h
  refine iRT.call (f321_39_ok L N (d + 0) _ _ h1) ?_
  exact iRT.go 2 (f109_38_15_6_at24_ok L N d N _ _ _ h) (fun _ _ => rfl)
-- GutterNine$Waiting.decode
set_option maxHeartbeats 100000 in
theorem f111_38_at9_ok (L N d : Nat) : ∀ (n : Nat) (x2 : Int) (x3 : Int) {u1 : Option iV} (s : gI) (o : gI), f111_at9 N n x2 x3 s = some o → iRR false L (d + 0) kj111 k111_9 [some (vR 38), u1, some (vI x2), some (vI x3)] [] (s, g_rho) (none, (o, g_rho)) := by
  intro n
  induction n with
  | zero => intro _ _ _ _ _ h; cases h
  | succ n ih =>
    intro x2 x3 u1 s o h
    refine iRR.of 401 ?_
    refine iRT.ite h (fun h => ?_) (fun h => ?_)
    · cases h
      exact iRT.ret
    · refine iRT.dv h fun h => ?_
      refine iRT.ck h fun h => ?_
      refine iRT.dv h fun h => ?_
      refine iRT.ov h fun h => ?_
      exact iRT.go 1 (ih _ _ _ _ h) (fun _ _ => rfl)
set_option maxHeartbeats 100000 in
theorem f111_38_ok (L N d : Nat) (x1 : Int) (s : gI) {o : gI} (h : f111 N x1 s = some o) : iEE L (d + 1) 111 [vR 38, vI x1] (s, g_rho) (none, (o, g_rho)) := by
  refine iEE.of (wr := false) (d := d + 0) (md := gm_111) rfl rfl rfl (iRR.of 8 ?_)
  refine iRT.ov h fun h => ?_
  exact iRT.go 1 (f111_38_at9_ok L N d N _ _ _ _ h) (fun _ _ => rfl)
-- GutterNine$Waiting.cost
set_option maxHeartbeats 100000 in
theorem f113_38_at60_ok (L N d : Nat) {r_at18 : Int → Int → Int → Int → gI → Option (Int × gI)} (h_at18 : ∀ x1 x3 x4 x5 u2 u6 s o, r_at18 x1 x3 x4 x5 s = some o → iRR false L (d + 0) kj113 k113_18 [some (vR 38), some (vI x1), u2, some (vI x3), some (vI x4), some (vI x5), u6] [] (s, g_rho) (some (vI o.1), (o.2, g_rho))) (x1 : Int) (x3 : Int) (x4 : Int) (x5 : Int) (z0 : Int) {u2 : Option iV} {u6 : Option iV} (s : gI) {o : Int × gI} (h : f113_at60 N r_at18 x1 x3 x4 x5 z0 s = some o) : iRR false L (d + 0) kj113 k113_60 [some (vR 38), some (vI x1), u2, some (vI x3), some (vI x4), some (vI x5), u6] [vI z0] (s, g_rho) (some (vI o.1), (o.2, g_rho)) := by
  refine iRR.of 16 ?_
  refine iRT.ite h (fun h => ?_) (fun h => ?_)
  · refine iRT.ov h fun h => ?_
    exact iRT.go 1 (h_at18 _ _ _ _ _ _ _ _ h) (fun _ _ => rfl)
  · refine iRT.ite h (fun h => ?_) (fun h => ?_)
    · refine iRT.ov h fun h => ?_
      exact iRT.go 1 (h_at18 _ _ _ _ _ _ _ _ h) (fun _ _ => rfl)
    · refine iRT.ck h fun h => ?_
      refine iRT.ov h fun h => ?_
      exact iRT.go 1 (h_at18 _ _ _ _ _ _ _ _ h) (fun _ _ => rfl)
set_option maxHeartbeats 100000 in
theorem f113_38_at55_ok (L N d : Nat) {r_at18 : Int → Int → Int → Int → gI → Option (Int × gI)} (h_at18 : ∀ x1 x3 x4 x5 u2 u6 s o, r_at18 x1 x3 x4 x5 s = some o → iRR false L (d + 0) kj113 k113_18 [some (vR 38), some (vI x1), u2, some (vI x3), some (vI x4), some (vI x5), u6] [] (s, g_rho) (some (vI o.1), (o.2, g_rho))) (x1 : Int) (x3 : Int) (x4 : Int) (x5 : Int) {u2 : Option iV} {u6 : Option iV} (s : gI) {o : Int × gI} (h : f113_at55 N r_at18 x1 x3 x4 x5 s = some o) : iRR false L (d + 0) kj113 k113_55 [some (vR 38), some (vI x1), u2, some (vI x3), some (vI x4), some (vI x5), u6] [] (s, g_rho) (some (vI o.1), (o.2, g_rho)) := by
  refine iRR.of 3 ?_
  exact iRT.go 2 (f113_38_at60_ok L N d h_at18 _ _ _ _ _ _ h) (fun _ _ => rfl)
set_option maxHeartbeats 100000 in
theorem f113_38_at59_ok (L N d : Nat) {r_at18 : Int → Int → Int → Int → gI → Option (Int × gI)} (h_at18 : ∀ x1 x3 x4 x5 u2 u6 s o, r_at18 x1 x3 x4 x5 s = some o → iRR false L (d + 0) kj113 k113_18 [some (vR 38), some (vI x1), u2, some (vI x3), some (vI x4), some (vI x5), u6] [] (s, g_rho) (some (vI o.1), (o.2, g_rho))) (x1 : Int) (x3 : Int) (x4 : Int) (x5 : Int) {u2 : Option iV} {u6 : Option iV} (s : gI) {o : Int × gI} (h : f113_at59 N r_at18 x1 x3 x4 x5 s = some o) : iRR false L (d + 0) kj113 k113_59 [some (vR 38), some (vI x1), u2, some (vI x3), some (vI x4), some (vI x5), u6] [] (s, g_rho) (some (vI o.1), (o.2, g_rho)) := by
  refine iRR.of 2 ?_
  exact iRT.go 1 (f113_38_at60_ok L N d h_at18 _ _ _ _ _ _ h) (fun _ _ => rfl)
set_option maxHeartbeats 100000 in
theorem f113_38_at18_ok (L N d : Nat) : ∀ (n : Nat) (x1 : Int) (x3 : Int) (x4 : Int) (x5 : Int) {u2 u6 : Option iV} (s : gI) (o : Int × gI), f113_at18 N n x1 x3 x4 x5 s = some o → iRR false L (d + 0) kj113 k113_18 [some (vR 38), some (vI x1), u2, some (vI x3), some (vI x4), some (vI x5), u6] [] (s, g_rho) (some (vI o.1), (o.2, g_rho)) := by
  intro n
  induction n with
  | zero => intro _ _ _ _ _ _ _ _ h; cases h
  | succ n ih =>
    intro x1 x3 x4 x5 u2 u6 s o h
    refine iRR.of 401 ?_
    refine iRT.ite h (fun h => ?_) (fun h => ?_)
    · refine iRT.ck h fun h => ?_
      refine iRT.ov h fun h => ?_
      refine iRT.ite h (fun h => ?_) (fun h => ?_)
      · refine iRT.ov h fun h => ?_
        cases h
        exact iRT.ret
      · refine iRT.ov h fun h => ?_
        cases h
        exact iRT.ret
    · refine iRT.ck h fun h => ?_
      refine iRT.ite h (fun h => ?_) (fun h => ?_)
      · exact iRT.go 0 (f113_38_at55_ok L N d (fun a0 a1 a2 a3 b0 b1 s o h => ih a0 a1 a2 a3 s o h) _ _ _ _ _ h) (fun _ _ => rfl)
      · refine iRT.ck h fun h => ?_
        refine iRT.ite h (fun h => ?_) (fun h => ?_)
        · refine iRT.ite h (fun h => ?_) (fun h => ?_)
          · exact iRT.go 0 (f113_38_at59_ok L N d (fun a0 a1 a2 a3 b0 b1 s o h => ih a0 a1 a2 a3 s o h) _ _ _ _ _ h) (fun _ _ => rfl)
          · exact iRT.go 0 (f113_38_at55_ok L N d (fun a0 a1 a2 a3 b0 b1 s o h => ih a0 a1 a2 a3 s o h) _ _ _ _ _ h) (fun _ _ => rfl)
        · exact iRT.go 0 (f113_38_at59_ok L N d (fun a0 a1 a2 a3 b0 b1 s o h => ih a0 a1 a2 a3 s o h) _ _ _ _ _ h) (fun _ _ => rfl)
set_option maxHeartbeats 100000 in
theorem f113_38_ok (L N d : Nat) (x1 : Int) (x2 : Int) (s : gI) {o : Int × gI} (h : f113 N x1 x2 s = some o) : iEE L (d + 1) 113 [vR 38, vI x1, vI x2] (s, g_rho) (some (vI o.1), (o.2, g_rho)) := by
  refine iEE.of (wr := false) (d := d + 0) (md := gm_113) rfl rfl rfl (iRR.of 11 ?_)
  refine iRT.ite h (fun h => ?_) (fun h => ?_)
  · exact iRT.go 4 (f113_38_at18_ok L N d N _ _ _ _ _ _ h) (fun _ _ => rfl)
  · exact iRT.go 5 (f113_38_at18_ok L N d N _ _ _ _ _ _ h) (fun _ _ => rfl)
-- GutterNine$Waiting.isRest
set_option maxHeartbeats 100000 in
theorem f112_38_at24_ok (L N d : Nat) {r_at2 : Int → gI → Option (Int × gI)} (h_at2 : ∀ x1 u2 u3 s o, r_at2 x1 s = some o → iRR false L (d + 1) kj112 k112_2 [some (vR 38), some (vI x1), u2, u3] [] (s, g_rho) (some (vI o.1), (o.2, g_rho))) : ∀ (n : Nat) (x1 : Int) (x2 : Int) (x3 : Int) (s : gI) (o : Int × gI), f112_at24 N r_at2 n x1 x2 x3 s = some o → iRR false L (d + 1) kj112 k112_24 [some (vR 38), some (vI x1), some (vI x2), some (vI x3)] [] (s, g_rho) (some (vI o.1), (o.2, g_rho)) := by
  intro n
  induction n with
  | zero => intro _ _ _ _ _ h; cases h
  | succ n ih =>
    intro x1 x2 x3 s o h
    refine iRR.of 401 ?_
    refine iRT.ite h (fun h => ?_) (fun h => ?_)
    · refine iRT.ov h fun h => ?_
      exact iRT.go 1 (h_at2 _ _ _ _ _ h) (fun _ _ => rfl)
    · obtain ⟨i3, s2, h1, h⟩ := i_o2_inv h
      refine iRT.call (f113_38_ok L N (d + 0) _ _ _ h1) ?_
      refine iRT.ite h (fun h => ?_) (fun h => ?_)
      · refine iRT.ov h fun h => ?_
        exact iRT.go 1 (ih _ _ _ _ _ h) (fun _ _ => rfl)
      · replace h := (ib1_inv h).2
        cases h
        exact iRT.ret
set_option maxHeartbeats 100000 in
theorem f112_38_at2_ok (L N d : Nat) : ∀ (n : Nat) (x1 : Int) {u2 u3 : Option iV} (s : gI) (o : Int × gI), f112_at2 N n x1 s = some o → iRR false L (d + 1) kj112 k112_2 [some (vR 38), some (vI x1), u2, u3] [] (s, g_rho) (some (vI o.1), (o.2, g_rho)) := by
  intro n
  induction n with
  | zero => intro _ _ _ _ _ h; cases h
  | succ n ih =>
    intro x1 u2 u3 s o h
    refine iRR.of 401 ?_
    refine iRT.ite h (fun h => ?_) (fun h => ?_)
    · replace h := (ib1_inv h).2
      cases h
      exact iRT.ret
    · refine iRT.ck h fun h => ?_
      obtain ⟨i2, s1, h1, h⟩ := i_o2_inv h
      refine iRT.call (f113_38_ok L N (d + 0) _ _ _ h1) ?_
      exact iRT.go 3 (f112_38_at24_ok L N d (fun a0 b0 b1 s o h => ih a0 s o h) N _ _ _ _ _ h) (fun _ _ => rfl)
set_option maxHeartbeats 100000 in
theorem f112_38_ok (L N d : Nat) (s : gI) {o : Int × gI} (h : f112 N  s = some o) : iEE L (d + 2) 112 [vR 38] (s, g_rho) (some (vI o.1), (o.2, g_rho)) := by
  refine iEE.of (wr := false) (d := d + 1) (md := gm_112) rfl rfl rfl (iRR.of 3 ?_)
  exact iRT.go 2 (f112_38_at2_ok L N d N _ _ _ h) (fun _ _ => rfl)
-- GutterNine$Waiting.find
set_option maxHeartbeats 100000 in
theorem f110_38_at14_ok (L N d : Nat) : ∀ (n : Nat) (x1 : Int) (x2 : Int) (x3 : Int) (x4 : Int) (s : gI) (o : Int × gI), f110_at14 N n x1 x2 x3 x4 s = some o → iRR false L (d + 2) kj110 k110_14 [some (vR 38), some (vI x1), some (vI x2), some (vI x3), some (vI x4)] [] (s, g_rho) (some (vI o.1), (o.2, g_rho)) := by
  intro n
  induction n with
  | zero => intro _ _ _ _ _ _ h; cases h
  | succ n ih =>
    intro x1 x2 x3 x4 s o h
    refine iRR.of 401 ?_
    refine iRT.ite h (fun h => ?_) (fun h => ?_)
    · refine iRT.ite h (fun h => ?_) (fun h => ?_)
      · cases h
        exact iRT.ret
      · cases h
        exact iRT.ret
    · obtain ⟨s1, h1, h⟩ := i_o1_inv h
      refine iRT.call (f111_38_ok L N (d + 1) _ _ h1) ?_
      obtain ⟨i3, s2, h1, h⟩ := i_o2_inv h
      refine iRT.call (f112_38_ok L N (d + 0)  _ h1) ?_
      refine iRT.ite h (fun h => ?_) (fun h => ?_)
      · refine iRT.ov h fun h => ?_
        exact iRT.go 1 (ih _ _ _ _ _ _ h) (fun _ _ => rfl)
      · refine iRT.ite h (fun h => ?_) (fun h => ?_)
        · cases h
          exact iRT.ret
        · refine iRT.ov h fun h => ?_
          refine iRT.ov h fun h => ?_
          exact iRT.go 1 (ih _ _ _ _ _ _ h) (fun _ _ => rfl)
set_option maxHeartbeats 100000 in
theorem f110_38_ok (L N d : Nat) (x1 : Int) (s : gI) {o : Int × gI} (h : f110 N x1 s = some o) : iEE L (d + 3) 110 [vR 38, vI x1] (s, g_rho) (some (vI o.1), (o.2, g_rho)) := by
  refine iEE.of (wr := false) (d := d + 2) (md := gm_110) rfl rfl rfl (iRR.of 12 ?_)
  refine iRT.ov h fun h => ?_
  exact iRT.go 6 (f110_38_at14_ok L N d N _ _ _ _ _ _ h) (fun _ _ => rfl)
-- GutterNine.rests
set_option maxHeartbeats 100000 in
theorem f160_0_ok (L N d : Nat) (x1 : Int) (x2 : Int) (s : gI) {o : Int × gI} (h : f160 N x1 x2 s = some o) : iEE L (d + 4) 160 [vR 0, vI x1, vI x2] (s, g_rho) (some (vI o.1), (o.2, g_rho)) := by
  refine iEE.of (wr := false) (d := d + 3) (md := gm_160) rfl rfl rfl (iRR.of 401 ?_)
  refine iRT.ite h (fun h => ?_) (fun h => ?_)
  · cases h
    exact iRT.ret
  · refine iRT.ite h (fun h => ?_) (fun h => ?_)
    · cases h
      exact iRT.ret
    · refine iRT.ite h (fun h => ?_) (fun h => ?_)
      · cases h
        exact iRT.ret
      · refine iRT.ite h (fun h => ?_) (fun h => ?_)
        · cases h
          exact iRT.ret
        · obtain ⟨s1, h1, h⟩ := i_o1_inv h
          refine iRT.call (f109_38_15_6_ok L N (d + 1) _ _ h1) ?_
          obtain ⟨i3, s2, h1, h⟩ := i_o2_inv h
          refine iRT.call (f110_38_ok L N (d + 0) _ _ h1) ?_
          cases h
          exact iRT.ret
-- GutterNine$Roof.change
set_option maxHeartbeats 100000 in
theorem f85_12_at82_ok (L N d : Nat) {r_at37 : Int → Int → Int → Int → Int → Int → gI → Option (Int × gI)} (h_at37 : ∀ x1 x2 x3 x4 x5 x6 u7 u8 s o, r_at37 x1 x2 x3 x4 x5 x6 s = some o → iRR false L (d + 2) kj85 k85_37 [some (vR 12), some (vI x1), some (vI x2), some (vI x3), some (vI x4), some (vI x5), some (vI x6), u7, u8] [] (s, g_rho) (some (vI o.1), (o.2, g_rho))) : ∀ (n : Nat) (x1 : Int) (x2 : Int) (x3 : Int) (x4 : Int) (x5 : Int) (x6 : Int) (x7 : Int) (x8 : Int) (s : gI) (o : Int × gI), f85_at82 N r_at37 n x1 x2 x3 x4 x5 x6 x7 x8 s = some o → iRR false L (d + 2) kj85 k85_82 [some (vR 12), some (vI x1), some (vI x2), some (vI x3), some (vI x4), some (vI x5), some (vI x6), some (vI x7), some (vI x8)] [] (s, g_rho) (some (vI o.1), (o.2, g_rho)) := by
  intro n
  induction n with
  | zero => intro _ _ _ _ _ _ _ _ _ _ h; cases h
  | succ n ih =>
    intro x1 x2 x3 x4 x5 x6 x7 x8 s o h
    refine iRR.of 31 ?_
    refine iRT.ite h (fun h => ?_) (fun h => ?_)
    · refine iRT.ck h fun h => ?_
      refine iRT.ov h fun h => ?_
      exact iRT.go 1 (h_at37 _ _ _ _ _ _ _ _ _ _ h) (fun _ _ => rfl)
    · refine iRT.ck h fun h => ?_
      obtain ⟨i5, s4, h1, h⟩ := i_o2_inv h
      refine iRT.call (f84_12_14_ok L N (d + 0) _ _ _ h1) ?_
      obtain ⟨i7, s6, h1, h⟩ := i_o2_inv h
      refine iRT.call (f171_ok L N (d + 1) _ _ h1) ?_
      refine iRT.ite h (fun h => ?_) (fun h => ?_)
      · refine iRT.ov h fun h => ?_
        refine iRT.ite h (fun h => ?_) (fun h => ?_)
        · refine iRT.ov h fun h => ?_
          refine iRT.ov h fun h => ?_
          refine iRT.ov h fun h => ?_
          exact iRT.go 1 (ih _ _ _ _ _ _ _ _ _ _ h) (fun _ _ => rfl)
        · refine iRT.ov h fun h => ?_
          exact iRT.go 1 (ih _ _ _ _ _ _ _ _ _ _ h) (fun _ _ => rfl)
      · refine iRT.ov h fun h => ?_
        exact iRT.go 1 (ih _ _ _ _ _ _ _ _ _ _ h) (fun _ _ => rfl)
set_option maxHeartbeats 100000 in
theorem f85_12_at37_ok (L N d : Nat) : ∀ (n : Nat) (x1 : Int) (x2 : Int) (x3 : Int) (x4 : Int) (x5 : Int) (x6 : Int) {u7 u8 : Option iV} (s : gI) (o : Int × gI), f85_at37 N n x1 x2 x3 x4 x5 x6 s = some o → iRR false L (d + 2) kj85 k85_37 [some (vR 12), some (vI x1), some (vI x2), some (vI x3), some (vI x4), some (vI x5), some (vI x6), u7, u8] [] (s, g_rho) (some (vI o.1), (o.2, g_rho)) := by
  intro n
  induction n with
  | zero => intro _ _ _ _ _ _ _ _ _ _ h; cases h
  | succ n ih =>
    intro x1 x2 x3 x4 x5 x6 u7 u8 s o h
    refine iRR.of 401 ?_
    refine iRT.ite h (fun h => ?_) (fun h => ?_)
    · refine iRT.ite h (fun h => ?_) (fun h => ?_)
      · refine iRT.ite h (fun h => ?_) (fun h => ?_)
        · cases h
          exact iRT.ret
        · cases h
          exact iRT.ret
      · cases h
        exact iRT.ret
    · refine iRT.ck h fun h => ?_
      refine iRT.dv h fun h => ?_
      refine iRT.dv h fun h => ?_
      obtain ⟨i3, s2, h1, h⟩ := i_o2_inv h
      refine iRT.call (f78_12_ok L N (d + 1) _ _ _ h1) ?_
      refine iRT.ite h (fun h => ?_) (fun h => ?_)
      · refine iRT.ov h fun h => ?_
        exact iRT.go 1 (ih _ _ _ _ _ _ _ _ h) (fun _ _ => rfl)
      · refine iRT.ite h (fun h => ?_) (fun h => ?_)
        · exact iRT.go 2 (f85_12_at82_ok L N d (fun a0 a1 a2 a3 a4 a5 b0 b1 s o h => ih a0 a1 a2 a3 a4 a5 s o h) N _ _ _ _ _ _ _ _ _ _ h) (fun _ _ => rfl)
        · refine iRT.ov h fun h => ?_
          exact iRT.go 1 (ih _ _ _ _ _ _ _ _ h) (fun _ _ => rfl)
set_option maxHeartbeats 100000 in
theorem f85_12_ok (L N d : Nat) (x1 : Int) (x2 : Int) (x3 : Int) (s : gI) {o : Int × gI} (h : f85 N x1 x2 x3 s = some o) : iEE L (d + 3) 85 [vR 12, vI x1, vI x2, vI x3] (s, g_rho) (some (vI o.1), (o.2, g_rho)) := by
  refine iEE.of (wr := false) (d := d + 2) (md := gm_85) rfl rfl rfl (iRR.of 401 ?_)
  obtain ⟨i2, s1, h1, h⟩ := i_o2_inv h
  refine iRT.call (f84_12_14_ok L N (d + 0) _ _ _ h1) ?_
  obtain ⟨i4, s3, h1, h⟩ := i_o2_inv h
  refine iRT.call (f171_ok L N (d + 1) _ _ h1) ?_
  refine iRT.ite h (fun h => ?_) (fun h => ?_)
  · refine iRT.ite h (fun h => ?_) (fun h => ?_)
    · cases h
      exact iRT.ret
    · cases h
      exact iRT.ret
  · exact iRT.go 6 (f85_12_at37_ok L N d N _ _ _ _ _ _ _ _ h) (fun _ _ => rfl)
-- GutterNine.otherwise
set_option maxHeartbeats 100000 in
theorem f161_0_ok (L N d : Nat) (x1 : Int) (x2 : Int) (x3 : Int) (x4 : Int) (s : gI) {o : Int × gI} (h : f161 N x1 x2 x3 x4 s = some o) : iEE L (d + 4) 161 [vR 0, vI x1, vI x2, vI x3, vI x4] (s, g_rho) (some (vI o.1), (o.2, g_rho)) := by
  refine iEE.of (wr := false) (d := d + 3) (md := gm_161) rfl rfl rfl (iRR.of 401 ?_)
  obtain ⟨i2, s1, h1, h⟩ := i_o2_inv h
  refine iRT.call (f79_12_ok L N (d + 1) _ _ _ h1) ?_
  refine iRT.ite h (fun h => ?_) (fun h => ?_)
  · cases h
    exact iRT.ret
  · refine iRT.ite h (fun h => ?_) (fun h => ?_)
    · cases h
      exact iRT.ret
    · refine iRT.ite h (fun h => ?_) (fun h => ?_)
      · refine iRT.ov h fun h => ?_
        refine iRT.ov h fun h => ?_
        obtain ⟨i4, s3, h1, h⟩ := i_o2_inv h
        refine iRT.call (f85_12_ok L N (d + 0) _ _ _ _ h1) ?_
        cases h
        exact iRT.ret
      · cases h
        exact iRT.ret
-- GutterNine$Play.draw
set_option maxHeartbeats 100000 in
theorem f76_11_ok (L N d : Nat) (x1 : Int) (s : gI) {o : Int × gI} (h : f76 N x1 s = some o) : iEE L (d + 1) 76 [vR 11, vI x1] (s, g_rho) (some (vI o.1), (o.2, g_rho)) := by
  refine iEE.of (wr := false) (d := d + 0) (md := gm_76) rfl rfl rfl (iRR.of 401 ?_)
  refine iRT.ol h fun h => ?_
  refine iRT.ol h fun h => ?_
  refine iRT.dv h fun h => ?_
  refine iRT.ite h (fun h => ?_) (fun h => ?_)
  · cases h
    exact iRT.ret
  · refine iRT.dv h fun h => ?_
    refine iRT.dv h fun h => ?_
    cases h
    exact iRT.ret
-- GutterNine$Play.drawThrow
set_option maxHeartbeats 100000 in
theorem f75_11_at82_ok (L N d : Nat) (x1 : Int) (x2 : Int) (x5 : Int) {u3 : Option iV} {u4 : Option iV} (s : gI) {o : gI} (h : f75_at82 N x1 x2 x5 s = some o) : iRR false L (d + 4) kj75 k75_82 [some (vR 11), some (vI x1), some (vI x2), u3, u4, some (vI x5)] [] (s, g_rho) (none, (o, g_rho)) := by
  refine iRR.of 401 ?_
  refine iRT.ck h fun h => ?_
  refine iRT.ck h fun h => ?_
  refine iRT.dv h fun h => ?_
  refine iRT.ck h fun h => ?_
  refine iRT.ov h fun h => ?_
  refine iRT.dv h fun h => ?_
  refine iRT.ck h fun h => ?_
  refine iRT.ov h fun h => ?_
  obtain ⟨i3, s2, h1, h⟩ := i_o2_inv h
  refine iRT.call (f49_11_ok L N (d + 0) _ _ _ _ h1) ?_
  cases h
  exact iRT.ret
set_option maxHeartbeats 100000 in
theorem f75_11_ok (L N d : Nat) (x1 : Int) (s : gI) {o : gI} (h : f75 N x1 s = some o) : iEE L (d + 5) 75 [vR 11, vI x1] (s, g_rho) (none, (o, g_rho)) := by
  refine iEE.of (wr := false) (d := d + 4) (md := gm_75) rfl rfl rfl (iRR.of 47 ?_)
  refine iRT.ov h fun h => ?_
  obtain ⟨i2, s1, h1, h⟩ := i_o2_inv h
  refine iRT.call (f76_11_ok L N (d + 3) _ _ h1) ?_
  obtain ⟨i4, s3, h1, h⟩ := i_o2_inv h
  refine iRT.call (f76_11_ok L N (d + 3) _ _ h1) ?_
  refine iRT.ck h fun h => ?_
  refine iRT.ck h fun h => ?_
  refine iRT.ov h fun h => ?_
  refine iRT.ite h (fun h => ?_) (fun h => ?_)
  · exact iRT.go 0 (f75_11_at82_ok L N d _ _ _ _ h) (fun _ _ => rfl)
  · refine iRT.ite h (fun h => ?_) (fun h => ?_)
    · exact iRT.go 0 (f75_11_at82_ok L N d _ _ _ _ h) (fun _ _ => rfl)
    · refine iRT.ov h fun h => ?_
      refine iRT.ov h fun h => ?_
      refine iRT.ov h fun h => ?_
      refine iRT.dv h fun h => ?_
      refine iRT.ov h fun h => ?_
      exact iRT.go 1 (f75_11_at82_ok L N d _ _ _ _ h) (fun _ _ => rfl)
-- GutterNine$Play.drawSummer
set_option maxHeartbeats 100000 in
theorem f74_11_at64_ok (L N d : Nat) {r_at8 : Int → Int → gI → Option (gI)} (h_at8 : ∀ x2 x3 u1 u4 s o, r_at8 x2 x3 s = some o → iRR false L (d + 5) kj74 k74_8 [some (vR 11), u1, some (vI x2), some (vI x3), u4] [] (s, g_rho) (none, (o, g_rho))) (x2 : Int) (x3 : Int) {u1 : Option iV} {u4 : Option iV} (s : gI) {o : gI} (h : f74_at64 N r_at8 x2 x3 s = some o) : iRR false L (d + 5) kj74 k74_64 [some (vR 11), u1, some (vI x2), some (vI x3), u4] [] (s, g_rho) (none, (o, g_rho)) := by
  refine iRR.of 5 ?_
  obtain ⟨s1, h1, h⟩ := i_o1_inv h
  refine iRT.call (f62_11_ok L N (d + 0)  _ h1) ?_
  refine iRT.ov h fun h => ?_
  exact iRT.go 1 (h_at8 _ _ _ _ _ _ h) (fun _ _ => rfl)
set_option maxHeartbeats 100000 in
theorem f74_11_at47_ok (L N d : Nat) {r_at8 : Int → Int → gI → Option (gI)} (h_at8 : ∀ x2 x3 u1 u4 s o, r_at8 x2 x3 s = some o → iRR false L (d + 5) kj74 k74_8 [some (vR 11), u1, some (vI x2), some (vI x3), u4] [] (s, g_rho) (none, (o, g_rho))) (x2 : Int) (x3 : Int) {u1 : Option iV} {u4 : Option iV} (s : gI) {o : gI} (h : f74_at47 N r_at8 x2 x3 s = some o) : iRR false L (d + 5) kj74 k74_47 [some (vR 11), u1, some (vI x2), some (vI x3), u4] [] (s, g_rho) (none, (o, g_rho)) := by
  refine iRR.of 11 ?_
  refine iRT.dv h fun h => ?_
  refine iRT.ite h (fun h => ?_) (fun h => ?_)
  · obtain ⟨i2, s1, h1, h⟩ := i_o2_inv h
    refine iRT.call (f76_11_ok L N (d + 4) _ _ h1) ?_
    obtain ⟨i4, s3, h1, h⟩ := i_o2_inv h
    refine iRT.call (f59_11_ok L N (d + 1) _ _ h1) ?_
    exact iRT.go 1 (f74_11_at64_ok L N d h_at8 _ _ _ h) (fun _ _ => rfl)
  · exact iRT.go 0 (f74_11_at64_ok L N d h_at8 _ _ _ h) (fun _ _ => rfl)
set_option maxHeartbeats 100000 in
theorem f74_11_at8_ok (L N d : Nat) : ∀ (n : Nat) (x2 : Int) (x3 : Int) {u1 u4 : Option iV} (s : gI) (o : gI), f74_at8 N n x2 x3 s = some o → iRR false L (d + 5) kj74 k74_8 [some (vR 11), u1, some (vI x2), some (vI x3), u4] [] (s, g_rho) (none, (o, g_rho)) := by
  intro n
  induction n with
  | zero => intro _ _ _ _ _ _ h; cases h
  | succ n ih =>
    intro x2 x3 u1 u4 s o h
    refine iRR.of 401 ?_
    refine iRT.ite h (fun h => ?_) (fun h => ?_)
    · cases h
      exact iRT.ret
    · obtain ⟨i2, s1, h1, h⟩ := i_o2_inv h
      refine iRT.call (f76_11_ok L N (d + 4) _ _ h1) ?_
      refine iRT.ck h fun h => ?_
      refine iRT.ite h (fun h => ?_) (fun h => ?_)
      · obtain ⟨s3, h1, h⟩ := i_o1_inv h
        refine iRT.call (f75_11_ok L N (d + 0) _ _ h1) ?_
        exact iRT.go 0 (f74_11_at47_ok L N d (fun a0 a1 b0 b1 s o h => ih a0 a1 s o h) _ _ _ h) (fun _ _ => rfl)
      · exact iRT.go 0 (f74_11_at47_ok L N d (fun a0 a1 b0 b1 s o h => ih a0 a1 s o h) _ _ _ h) (fun _ _ => rfl)
set_option maxHeartbeats 100000 in
theorem f74_11_ok (L N d : Nat) (x1 : Int) (x2 : Int) (s : gI) {o : gI} (h : f74 N x1 x2 s = some o) : iEE L (d + 6) 74 [vR 11, vI x1, vI x2] (s, g_rho) (none, (o, g_rho)) := by
  refine iEE.of (wr := false) (d := d + 5) (md := gm_74) rfl rfl rfl (iRR.of 7 ?_)
  exact iRT.go 6 (f74_11_at8_ok L N d N _ _ _ _ h) (fun _ _ => rfl)
-- GutterNine.summer
set_option maxHeartbeats 100000 in
theorem f162_0_at146_ok (L N d : Nat) (x6 : Int) {u1 : Option iV} {u2 : Option iV} {u3 : Option iV} {u4 : Option iV} {u5 : Option iV} (s : gI) {o : Int × gI} (h : f162_at146 N x6 s = some o) : iRR false L (d + 6) kj162 k162_146 [some (vR 0), u1, u2, u3, u4, u5, some (vI x6)] [] (s, g_rho) (some (vI o.1), (o.2, g_rho)) := by
  refine iRR.of 401 ?_
  obtain ⟨s1, h1, h⟩ := i_o1_inv h
  refine iRT.call (f48_11_ok L N (d + 3)  _ h1) ?_
  cases h
  exact iRT.ret
set_option maxHeartbeats 100000 in
theorem f162_0_at36_ok (L N d : Nat) (x1 : Int) (x2 : Int) (x3 : Int) (z0 : Int) {u4 : Option iV} {u5 : Option iV} {u6 : Option iV} (s : gI) {o : Int × gI} (h : f162_at36 N x1 x2 x3 z0 s = some o) : iRR false L (d + 6) kj162 k162_36 [some (vR 0), some (vI x1), some (vI x2), some (vI x3), u4, u5, u6] [vI z0] (s, g_rho) (some (vI o.1), (o.2, g_rho)) := by
  refine iRR.of 401 ?_
  refine iRT.ite h (fun h => ?_) (fun h => ?_)
  · cases h
    exact iRT.ret
  · refine iRT.ite h (fun h => ?_) (fun h => ?_)
    · cases h
      exact iRT.ret
    · obtain ⟨s2, h1, h⟩ := i_o1_inv h
      refine iRT.call (f47_11_ok L N (d + 4)  _ h1) ?_
      obtain ⟨s3, h1, h⟩ := i_o1_inv h
      refine iRT.call (f74_11_ok L N (d + 0) _ _ _ h1) ?_
      refine iRT.ov h fun h => ?_
      refine iRT.ite h (fun h => ?_) (fun h => ?_)
      · obtain ⟨i10, s9, h1, h⟩ := i_o2_inv h
        refine iRT.call (f72_11_ok L N (d + 3) _ _ h1) ?_
        exact iRT.go 2 (f162_0_at146_ok L N d _ _ h) (fun _ _ => rfl)
      · refine iRT.ite h (fun h => ?_) (fun h => ?_)
        · obtain ⟨i8, s7, h1, h⟩ := i_o2_inv h
          refine iRT.call (f72_11_ok L N (d + 3) _ _ h1) ?_
          exact iRT.go 2 (f162_0_at146_ok L N d _ _ h) (fun _ _ => rfl)
        · refine iRT.ite h (fun h => ?_) (fun h => ?_)
          · obtain ⟨i6, s5, h1, h⟩ := i_o2_inv h
            refine iRT.call (f68_11_ok L N (d + 4)  _ h1) ?_
            exact iRT.go 1 (f162_0_at146_ok L N d _ _ h) (fun _ _ => rfl)
          · exact iRT.go 0 (f162_0_at146_ok L N d _ _ h) (fun _ _ => rfl)
set_option maxHeartbeats 100000 in
theorem f162_0_at35_ok (L N d : Nat) (x1 : Int) (x2 : Int) (x3 : Int) {u4 : Option iV} {u5 : Option iV} {u6 : Option iV} (s : gI) {o : Int × gI} (h : f162_at35 N x1 x2 x3 s = some o) : iRR false L (d + 6) kj162 k162_35 [some (vR 0), some (vI x1), some (vI x2), some (vI x3), u4, u5, u6] [] (s, g_rho) (some (vI o.1), (o.2, g_rho)) := by
  refine iRR.of 2 ?_
  exact iRT.go 1 (f162_0_at36_ok L N d _ _ _ _ _ h) (fun _ _ => rfl)
set_option maxHeartbeats 100000 in
theorem f162_0_ok (L N d : Nat) (x1 : Int) (x2 : Int) (x3 : Int) (s : gI) {o : Int × gI} (h : f162 N x1 x2 x3 s = some o) : iEE L (d + 7) 162 [vR 0, vI x1, vI x2, vI x3] (s, g_rho) (some (vI o.1), (o.2, g_rho)) := by
  refine iEE.of (wr := false) (d := d + 6) (md := gm_162) rfl rfl rfl (iRR.of 19 ?_)
  refine iRT.ite h (fun h => ?_) (fun h => ?_)
  · exact iRT.go 0 (f162_0_at35_ok L N d _ _ _ _ h) (fun _ _ => rfl)
  · refine iRT.ite h (fun h => ?_) (fun h => ?_)
    · exact iRT.go 0 (f162_0_at35_ok L N d _ _ _ _ h) (fun _ _ => rfl)
    · refine iRT.ite h (fun h => ?_) (fun h => ?_)
      · exact iRT.go 0 (f162_0_at35_ok L N d _ _ _ _ h) (fun _ _ => rfl)
      · refine iRT.ite h (fun h => ?_) (fun h => ?_)
        · exact iRT.go 0 (f162_0_at35_ok L N d _ _ _ _ h) (fun _ _ => rfl)
        · refine iRT.ite h (fun h => ?_) (fun h => ?_)
          · exact iRT.go 0 (f162_0_at35_ok L N d _ _ _ _ h) (fun _ _ => rfl)
          · refine iRT.ite h (fun h => ?_) (fun h => ?_)
            · exact iRT.go 0 (f162_0_at35_ok L N d _ _ _ _ h) (fun _ _ => rfl)
            · exact iRT.go 2 (f162_0_at36_ok L N d _ _ _ _ _ h) (fun _ _ => rfl)
-- GutterNine$Scene.save
set_option maxHeartbeats 100000 in
theorem f90_6_43_ok (L N d : Nat) (x2 : Int) (s : gI) {o : gI} (h : f90 N 43 104 x2 s = some o) : iEE L (d + 1) 90 [vR 6, vR 43, vI x2] (s, g_rho) (none, (o, g_rho)) := by
  refine iEE.of (wr := false) (d := d + 0) (md := gm_90) rfl rfl rfl (iRR.of 401 ?_)
  refine iRT.ov h fun h => ?_
  refine iRT.cp h fun h => ?_
  refine iRT.ov h fun h => ?_
  refine iRT.cp h fun h => ?_
  refine iRT.ov h fun h => ?_
  refine iRT.cp h fun h => ?_
  refine iRT.ov h fun h => ?_
  refine iRT.ck h fun h => ?_
  refine iRT.ov h fun h => ?_
  refine iRT.ck h fun h => ?_
  cases h
  exact iRT.ret
-- GutterNine$Past.lay
set_option maxHeartbeats 100000 in
theorem f44_41_6_ok (L N d : Nat) (x2 : Int) (s : gI) {o : Int × gI} (h : f44 N x2 s = some o) : iEE L (d + 2) 44 [vR 41, vR 6, vI x2] (s, g_rho) (some (vI o.1), (o.2, g_rho)) := by
  refine iEE.of (wr := false) (d := d + 1) (md := gm_44) rfl rfl rfl (iRR.of 401 ?_)
  refine iRT.ite h (fun h => ?_) (fun h => ?_)
  · replace h := (ib1_inv h).2
    cases h
    exact iRT.ret
  · refine iRT.ite h (fun h => ?_) (fun h => ?_)
    · obtain ⟨s1, h1, h⟩ := i_o1_inv h
      refine iRT.call (f90_6_43_ok L N (d + 0) _ _ h1) ?_
      replace h := (ib1_inv h).2
      cases h
      exact iRT.ret
    · replace h := (ib1_inv h).2
      cases h
      exact iRT.ret
-- GutterNine$Scene.load
set_option maxHeartbeats 100000 in
theorem f91_6_43_at63_ok (L N d : Nat) : ∀ (n : Nat) (x4 : Int) {u1 u2 u3 u5 : Option iV} (s : gI) (o : gI), f91_at63 N 43 104 n x4 s = some o → iRR false L (d + 1) kj91 k91_63 [some (vR 6), u1, u2, u3, some (vI x4), u5] [] (s, g_rho) (none, (o, g_rho)) := by
  intro n
  induction n with
  | zero => intro _ _ _ _ _ _ _ h; cases h
  | succ n ih =>
    intro x4 u1 u2 u3 u5 s o h
    refine iRR.of 401 ?_
    refine iRT.ite h (fun h => ?_) (fun h => ?_)
    · cases h
      exact iRT.ret
    · refine iRT.ck h fun h => ?_
      obtain ⟨i2, s1, h1, h⟩ := i_o2_inv h
      refine iRT.call (f89_ok L N (d + 0) _ _ h1) ?_
      refine iRT.ite h (fun h => ?_) (fun h => ?_)
      · refine iRT.ov h fun h => ?_
        exact iRT.go 1 (ih _ _ _ h) (fun _ _ => rfl)
      · refine iRT.ck h fun h => ?_
        refine iRT.ov h fun h => ?_
        exact iRT.go 1 (ih _ _ _ h) (fun _ _ => rfl)
set_option maxHeartbeats 100000 in
theorem f91_6_43_ok (L N d : Nat) (x2 : Int) (s : gI) {o : gI} (h : f91 N 43 104 x2 s = some o) : iEE L (d + 2) 91 [vR 6, vR 43, vI x2] (s, g_rho) (none, (o, g_rho)) := by
  refine iEE.of (wr := false) (d := d + 1) (md := gm_91) rfl rfl rfl (iRR.of 41 ?_)
  refine iRT.ov h fun h => ?_
  refine iRT.cp h fun h => ?_
  refine iRT.ov h fun h => ?_
  refine iRT.cp h fun h => ?_
  refine iRT.ov h fun h => ?_
  refine iRT.ck h fun h => ?_
  refine iRT.ov h fun h => ?_
  refine iRT.ck h fun h => ?_
  obtain ⟨s6, h1, h⟩ := i_o1_inv h
  refine iRT.call (f321_9_ok L N (d + 0) _ _ h1) ?_
  exact iRT.go 2 (f91_6_43_at63_ok L N d N _ _ _ h) (fun _ _ => rfl)
-- GutterNine$Scene.loadSeen
set_option maxHeartbeats 100000 in
theorem f92_6_43_ok (L N d : Nat) (x2 : Int) (s : gI) {o : gI} (h : f92 N x2 s = some o) : iEE L (d + 1) 92 [vR 6, vR 43, vI x2] (s, g_rho) (none, (o, g_rho)) := by
  refine iEE.of (wr := false) (d := d + 0) (md := gm_92) rfl rfl rfl (iRR.of 401 ?_)
  refine iRT.ov h fun h => ?_
  refine iRT.ov h fun h => ?_
  refine iRT.cp h fun h => ?_
  cases h
  exact iRT.ret
-- GutterNine$Past.goBack
set_option maxHeartbeats 100000 in
theorem f45_41_6_ok (L N d : Nat) (x2 : Int) (s : gI) {o : Int × gI} (h : f45 N x2 s = some o) : iEE L (d + 3) 45 [vR 41, vR 6, vI x2] (s, g_rho) (some (vI o.1), (o.2, g_rho)) := by
  refine iEE.of (wr := false) (d := d + 2) (md := gm_45) rfl rfl rfl (iRR.of 401 ?_)
  refine iRT.ite h (fun h => ?_) (fun h => ?_)
  · replace h := (ib1_inv h).2
    cases h
    exact iRT.ret
  · refine iRT.ite h (fun h => ?_) (fun h => ?_)
    · replace h := (ib1_inv h).2
      cases h
      exact iRT.ret
    · refine iRT.ite h (fun h => ?_) (fun h => ?_)
      · replace h := (ib1_inv h).2
        cases h
        exact iRT.ret
      · obtain ⟨s1, h1, h⟩ := i_o1_inv h
        refine iRT.call (f91_6_43_ok L N (d + 0) _ _ h1) ?_
        obtain ⟨s2, h1, h⟩ := i_o1_inv h
        refine iRT.call (f92_6_43_ok L N (d + 1) _ _ h1) ?_
        replace h := (ib1_inv h).2
        cases h
        exact iRT.ret
-- GutterNine.mark
set_option maxHeartbeats 100000 in
theorem f163_0_ok (L N d : Nat) (x1 : Int) (x2 : Int) (s : gI) {o : Int × gI} (h : f163 N x1 x2 s = some o) : iEE L (d + 4) 163 [vR 0, vI x1, vI x2] (s, g_rho) (some (vI o.1), (o.2, g_rho)) := by
  refine iEE.of (wr := false) (d := d + 3) (md := gm_163) rfl rfl rfl (iRR.of 401 ?_)
  refine iRT.ite h (fun h => ?_) (fun h => ?_)
  · obtain ⟨i2, s1, h1, h⟩ := i_o2_inv h
    refine iRT.call (f44_41_6_ok L N (d + 1) _ _ h1) ?_
    refine iRT.b1 h fun h => ?_
    cases h
    exact iRT.ret
  · obtain ⟨i4, s3, h1, h⟩ := i_o2_inv h
    refine iRT.call (f45_41_6_ok L N (d + 0) _ _ h1) ?_
    refine iRT.b1 h fun h => ?_
    cases h
    exact iRT.ret
-- GutterNine$Scene.columnsSeen
set_option maxHeartbeats 100000 in
theorem f93_6_at27_ok (L N d : Nat) {r_at4 : Int → Int → gI → Option (Int × gI)} (h_at4 : ∀ x1 x2 s o, r_at4 x1 x2 s = some o → iRR false L (d + 0) kj93 k93_4 [some (vR 6), some (vI x1), some (vI x2)] [] (s, g_rho) (some (vI o.1), (o.2, g_rho))) (x2 : Int) (z0 : Int) (z1 : Int) {u1 : Option iV} (s : gI) {o : Int × gI} (h : f93_at27 N r_at4 x2 z0 z1 s = some o) : iRR false L (d + 0) kj93 k93_27 [some (vR 6), u1, some (vI x2)] [vI z0, vI z1] (s, g_rho) (some (vI o.1), (o.2, g_rho)) := by
  refine iRR.of 5 ?_
  refine iRT.ov h fun h => ?_
  refine iRT.ov h fun h => ?_
  exact iRT.go 1 (h_at4 _ _ _ _ h) (fun _ _ => rfl)
set_option maxHeartbeats 100000 in
theorem f93_6_at4_ok (L N d : Nat) : ∀ (n : Nat) (x1 : Int) (x2 : Int) (s : gI) (o : Int × gI), f93_at4 N n x1 x2 s = some o → iRR false L (d + 0) kj93 k93_4 [some (vR 6), some (vI x1), some (vI x2)] [] (s, g_rho) (some (vI o.1), (o.2, g_rho)) := by
  intro n
  induction n with
  | zero => intro _ _ _ _ h; cases h
  | succ n ih =>
    intro x1 x2 s o h
    refine iRR.of 401 ?_
    refine iRT.ite h (fun h => ?_) (fun h => ?_)
    · cases h
      exact iRT.ret
    · refine iRT.ck h fun h => ?_
      refine iRT.ite h (fun h => ?_) (fun h => ?_)
      · exact iRT.go 2 (f93_6_at27_ok L N d (fun a0 a1  s o h => ih a0 a1 s o h) _ _ _ _ h) (fun _ _ => rfl)
      · exact iRT.go 1 (f93_6_at27_ok L N d (fun a0 a1  s o h => ih a0 a1 s o h) _ _ _ _ h) (fun _ _ => rfl)
set_option maxHeartbeats 100000 in
theorem f93_6_ok (L N d : Nat) (s : gI) {o : Int × gI} (h : f93 N  s = some o) : iEE L (d + 1) 93 [vR 6] (s, g_rho) (some (vI o.1), (o.2, g_rho)) := by
  refine iEE.of (wr := false) (d := d + 0) (md := gm_93) rfl rfl rfl (iRR.of 5 ?_)
  exact iRT.go 4 (f93_6_at4_ok L N d N _ _ _ _ h) (fun _ _ => rfl)
-- GutterNine.count
set_option maxHeartbeats 100000 in
theorem f164_0_ok (L N d : Nat) (x1 : Int) (s : gI) {o : Int × gI} (h : f164 N x1 s = some o) : iEE L (d + 4) 164 [vR 0, vI x1] (s, g_rho) (some (vI o.1), (o.2, g_rho)) := by
  refine iEE.of (wr := false) (d := d + 3) (md := gm_164) rfl rfl rfl (iRR.of 401 ?_)
  rcases iRT.cs h with ⟨hx0, h⟩ | ⟨hx0, h⟩
  · refine iRT.swin hx0 (off := 67) (by decide) (by decide) (by decide) ?_
    cases h
    exact iRT.ret
  · skip
    rcases iRT.cs h with ⟨hx1, h⟩ | ⟨hx1, h⟩
    · refine iRT.swin hx1 (off := 78) (by decide) (by decide) (by decide) ?_
      cases h
      exact iRT.ret
    · skip
      rcases iRT.cs h with ⟨hx2, h⟩ | ⟨hx2, h⟩
      · refine iRT.swin hx2 (off := 89) (by decide) (by decide) (by decide) ?_
        cases h
        exact iRT.ret
      · skip
        rcases iRT.cs h with ⟨hx3, h⟩ | ⟨hx3, h⟩
        · refine iRT.swin hx3 (off := 100) (by decide) (by decide) (by decide) ?_
          cases h
          exact iRT.ret
        · skip
          rcases iRT.cs h with ⟨hx4, h⟩ | ⟨hx4, h⟩
          · refine iRT.swin hx4 (off := 111) (by decide) (by decide) (by decide) ?_
            obtain ⟨i2, s1, h1, h⟩ := i_o2_inv h
            refine iRT.call (f72_11_ok L N (d + 0) _ _ h1) ?_
            cases h
            exact iRT.ret
          · skip
            rcases iRT.cs h with ⟨hx5, h⟩ | ⟨hx5, h⟩
            · refine iRT.swin hx5 (off := 121) (by decide) (by decide) (by decide) ?_
              obtain ⟨i4, s3, h1, h⟩ := i_o2_inv h
              refine iRT.call (f68_11_ok L N (d + 1)  _ h1) ?_
              obtain ⟨i6, s5, h1, h⟩ := i_o2_inv h
              refine iRT.call (f72_11_ok L N (d + 0) _ _ h1) ?_
              refine iRT.ov h fun h => ?_
              cases h
              exact iRT.ret
            · skip
              rcases iRT.cs h with ⟨hx6, h⟩ | ⟨hx6, h⟩
              · refine iRT.swin hx6 (off := 139) (by decide) (by decide) (by decide) ?_
                obtain ⟨i8, s7, h1, h⟩ := i_o2_inv h
                refine iRT.call (f72_11_ok L N (d + 0) _ _ h1) ?_
                cases h
                exact iRT.ret
              · skip
                rcases iRT.cs h with ⟨hx7, h⟩ | ⟨hx7, h⟩
                · refine iRT.swin hx7 (off := 149) (by decide) (by decide) (by decide) ?_
                  obtain ⟨i10, s9, h1, h⟩ := i_o2_inv h
                  refine iRT.call (f72_11_ok L N (d + 0) _ _ h1) ?_
                  cases h
                  exact iRT.ret
                · skip
                  rcases iRT.cs h with ⟨hx8, h⟩ | ⟨hx8, h⟩
                  · refine iRT.swin hx8 (off := 159) (by decide) (by decide) (by decide) ?_
                    cases h
                    exact iRT.ret
                  · skip
                    rcases iRT.cs h with ⟨hx9, h⟩ | ⟨hx9, h⟩
                    · refine iRT.swin hx9 (off := 167) (by decide) (by decide) (by decide) ?_
                      cases h
                      exact iRT.ret
                    · skip
                      rcases iRT.cs h with ⟨hx10, h⟩ | ⟨hx10, h⟩
                      · refine iRT.swin hx10 (off := 175) (by decide) (by decide) (by decide) ?_
                        cases h
                        exact iRT.ret
                      · skip
                        rcases iRT.cs h with ⟨hx11, h⟩ | ⟨hx11, h⟩
                        · refine iRT.swin hx11 (off := 183) (by decide) (by decide) (by decide) ?_
                          obtain ⟨i12, s11, h1, h⟩ := i_o2_inv h
                          refine iRT.call (f93_6_ok L N (d + 2)  _ h1) ?_
                          cases h
                          exact iRT.ret
                        · skip
                          rcases iRT.cs h with ⟨hx12, h⟩ | ⟨hx12, h⟩
                          · refine iRT.swin hx12 (off := 191) (by decide) (by decide) (by decide) ?_
                            cases h
                            exact iRT.ret
                          · skip
                            refine iRT.swout (by omega) (by decide) ?_
                            cases h
                            exact iRT.ret
-- GutterNineModel.thrown
set_option maxHeartbeats 100000 in
theorem f173_63_ok (L N d : Nat) (s : gI) {o : Int × gI} (h : f173 N  s = some o) : iEE L (d + 1) 173 [vR 63] (s, g_rho) (some (vI o.1), (o.2, g_rho)) := by
  refine iEE.of (wr := false) (d := d + 0) (md := gm_173) rfl rfl rfl (iRR.of 401 ?_)
  cases h
  exact iRT.ret
-- GutterNineModel.lay
set_option maxHeartbeats 100000 in
theorem f175_63_at38_ok (L N d : Nat) {r_at3 : Int → Int → gI → Option (gI)} (h_at3 : ∀ y1 x3 u4 s o, r_at3 y1 x3 s = some o → iRR false L (d + 0) kj175 k175_3 [some (vR 63), some (vJ y1), none, some (vI x3), u4] [] (s, g_rho) (none, (o, g_rho))) (y1 : Int) (x3 : Int) (x4 : Int) (s : gI) {o : gI} (h : f175_at38 N r_at3 y1 x3 x4 s = some o) : iRR false L (d + 0) kj175 k175_38 [some (vR 63), some (vJ y1), none, some (vI x3), some (vI x4)] [] (s, g_rho) (none, (o, g_rho)) := by
  refine iRR.of 19 ?_
  refine iRT.ite h (fun h => ?_) (fun h => ?_)
  · refine iRT.ov h fun h => ?_
    exact iRT.go 1 (h_at3 _ _ _ _ _ h) (fun _ _ => rfl)
  · refine iRT.ck h fun h => ?_
    refine iRT.ov h fun h => ?_
    refine iRT.ov h fun h => ?_
    exact iRT.go 1 (h_at3 _ _ _ _ _ h) (fun _ _ => rfl)
set_option maxHeartbeats 100000 in
theorem f175_63_at3_ok (L N d : Nat) : ∀ (n : Nat) (y1 : Int) (x3 : Int) {u4 : Option iV} (s : gI) (o : gI), f175_at3 N n y1 x3 s = some o → iRR false L (d + 0) kj175 k175_3 [some (vR 63), some (vJ y1), none, some (vI x3), u4] [] (s, g_rho) (none, (o, g_rho)) := by
  intro n
  induction n with
  | zero => intro _ _ _ _ _ h; cases h
  | succ n ih =>
    intro y1 x3 u4 s o h
    refine iRR.of 401 ?_
    refine iRT.ite h (fun h => ?_) (fun h => ?_)
    · cases h
      exact iRT.ret
    · refine iRT.ite h (fun h => ?_) (fun h => ?_)
      · exact iRT.go 0 (f175_63_at38_ok L N d (fun a0 a1 b0 s o h => ih a0 a1 s o h) _ _ _ _ h) (fun _ _ => rfl)
      · refine iRT.ite h (fun h => ?_) (fun h => ?_)
        · refine iRT.ov h fun h => ?_
          exact iRT.go 1 (ih _ _ _ _ h) (fun _ _ => rfl)
        · refine iRT.ite h (fun h => ?_) (fun h => ?_)
          · refine iRT.ov h fun h => ?_
            exact iRT.go 1 (ih _ _ _ _ h) (fun _ _ => rfl)
          · exact iRT.go 0 (f175_63_at38_ok L N d (fun a0 a1 b0 s o h => ih a0 a1 s o h) _ _ _ _ h) (fun _ _ => rfl)
set_option maxHeartbeats 100000 in
theorem f175_63_ok (L N d : Nat) (y1 : Int) (s : gI) {o : gI} (h : f175 N y1 s = some o) : iEE L (d + 1) 175 [vR 63, vJ y1] (s, g_rho) (none, (o, g_rho)) := by
  refine iEE.of (wr := false) (d := d + 0) (md := gm_175) rfl rfl rfl (iRR.of 3 ?_)
  exact iRT.go 2 (f175_63_at3_ok L N d N _ _ _ _ h) (fun _ _ => rfl)
-- GutterNineModel.feed
set_option maxHeartbeats 100000 in
theorem f174_63_ok (L N d : Nat) (y1 : Int) (y3 : Int) (y5 : Int) (s : gI) {o : Int × gI} (h : f174 N y1 y3 y5 s = some o) : iEE L (d + 2) 174 [vR 63, vJ y1, vJ y3, vJ y5] (s, g_rho) (some (vI o.1), (o.2, g_rho)) := by
  refine iEE.of (wr := false) (d := d + 1) (md := gm_174) rfl rfl rfl (iRR.of 401 ?_)
  delta f174 at h
  obtain ⟨s2, h1, h⟩ := i_o1_inv h
  refine iRT.call (f175_63_ok L N (d + 0) _ _ h1) ?_
  obtain ⟨s3, h1, h⟩ := i_o1_inv h
  refine iRT.call (f175_63_ok L N (d + 0) _ _ h1) ?_
  obtain ⟨s4, h1, h⟩ := i_o1_inv h
  refine iRT.call (f175_63_ok L N (d + 0) _ _ h1) ?_
  cases h
  exact iRT.ret
-- GutterNineModel.isLetter
set_option maxHeartbeats 100000 in
theorem f177_ok (L N d : Nat) (x0 : Int) (s : gI) {o : Int × gI} (h : f177 N x0 s = some o) : iEE L (d + 1) 177 [vI x0] (s, g_rho) (some (vI o.1), (o.2, g_rho)) := by
  refine iEE.of (wr := false) (d := d + 0) (md := gm_177) rfl rfl rfl (iRR.of 401 ?_)
  refine iRT.ite h (fun h => ?_) (fun h => ?_)
  · replace h := (ib1_inv h).2
    cases h
    exact iRT.ret
  · refine iRT.ite h (fun h => ?_) (fun h => ?_)
    · replace h := (ib1_inv h).2
      cases h
      exact iRT.ret
    · replace h := (ib1_inv h).2
      cases h
      exact iRT.ret
-- GutterNineModel.isDigit
set_option maxHeartbeats 100000 in
theorem f178_ok (L N d : Nat) (x0 : Int) (s : gI) {o : Int × gI} (h : f178 N x0 s = some o) : iEE L (d + 1) 178 [vI x0] (s, g_rho) (some (vI o.1), (o.2, g_rho)) := by
  refine iEE.of (wr := false) (d := d + 0) (md := gm_178) rfl rfl rfl (iRR.of 401 ?_)
  refine iRT.ite h (fun h => ?_) (fun h => ?_)
  · replace h := (ib1_inv h).2
    cases h
    exact iRT.ret
  · refine iRT.ite h (fun h => ?_) (fun h => ?_)
    · replace h := (ib1_inv h).2
      cases h
      exact iRT.ret
    · replace h := (ib1_inv h).2
      cases h
      exact iRT.ret
-- GutterNineModel.isSignOf
set_option maxHeartbeats 100000 in
theorem f180_ok (L N d : Nat) (x0 : Int) (s : gI) {o : Int × gI} (h : f180 N x0 s = some o) : iEE L (d + 1) 180 [vI x0] (s, g_rho) (some (vI o.1), (o.2, g_rho)) := by
  refine iEE.of (wr := false) (d := d + 0) (md := gm_180) rfl rfl rfl (iRR.of 401 ?_)
  refine iRT.ite h (fun h => ?_) (fun h => ?_)
  · replace h := (ib1_inv h).2
    cases h
    exact iRT.ret
  · refine iRT.ite h (fun h => ?_) (fun h => ?_)
    · replace h := (ib1_inv h).2
      cases h
      exact iRT.ret
    · refine iRT.ite h (fun h => ?_) (fun h => ?_)
      · replace h := (ib1_inv h).2
        cases h
        exact iRT.ret
      · refine iRT.ite h (fun h => ?_) (fun h => ?_)
        · replace h := (ib1_inv h).2
          cases h
          exact iRT.ret
        · refine iRT.ite h (fun h => ?_) (fun h => ?_)
          · replace h := (ib1_inv h).2
            cases h
            exact iRT.ret
          · refine iRT.ite h (fun h => ?_) (fun h => ?_)
            · replace h := (ib1_inv h).2
              cases h
              exact iRT.ret
            · refine iRT.ite h (fun h => ?_) (fun h => ?_)
              · replace h := (ib1_inv h).2
                cases h
                exact iRT.ret
              · refine iRT.ite h (fun h => ?_) (fun h => ?_)
                · replace h := (ib1_inv h).2
                  cases h
                  exact iRT.ret
                · replace h := (ib1_inv h).2
                  cases h
                  exact iRT.ret
-- GutterNineModel.rank
set_option maxHeartbeats 100000 in
theorem f179_ok (L N d : Nat) (x0 : Int) (s : gI) {o : Int × gI} (h : f179 N x0 s = some o) : iEE L (d + 2) 179 [vI x0] (s, g_rho) (some (vI o.1), (o.2, g_rho)) := by
  refine iEE.of (wr := false) (d := d + 1) (md := gm_179) rfl rfl rfl (iRR.of 401 ?_)
  obtain ⟨i2, s1, h1, h⟩ := i_o2_inv h
  refine iRT.call (f177_ok L N (d + 0) _ _ h1) ?_
  refine iRT.ite h (fun h => ?_) (fun h => ?_)
  · refine iRT.ov h fun h => ?_
    cases h
    exact iRT.ret
  · refine iRT.ov h fun h => ?_
    cases h
    exact iRT.ret
-- GutterNineModel.cutAll
set_option maxHeartbeats 100000 in
theorem f181_63_at265_ok (L N d : Nat) {r_at17 : Int → Int → gI → Option (gI)} (h_at17 : ∀ x1 x2 u3 u4 u5 u6 s o, r_at17 x1 x2 s = some o → iRR false L (d + 2) kj181 k181_17 [some (vR 63), some (vI x1), some (vI x2), u3, u4, u5, u6] [] (s, g_rho) (none, (o, g_rho))) (x1 : Int) (x2 : Int) (y5 : Int) {u3 : Option iV} {u4 : Option iV} (s : gI) {o : gI} (h : f181_at265 N r_at17 x1 x2 y5 s = some o) : iRR false L (d + 2) kj181 k181_265 [some (vR 63), some (vI x1), some (vI x2), u3, u4, some (vJ y5), none] [] (s, g_rho) (none, (o, g_rho)) := by
  refine iRR.of 8 ?_
  refine iRT.ck h fun h => ?_
  refine iRT.ov h fun h => ?_
  exact iRT.go 1 (h_at17 _ _ _ _ _ _ _ _ h) (fun _ _ => rfl)
set_option maxHeartbeats 100000 in
theorem f181_63_at261_ok (L N d : Nat) {r_at17 : Int → Int → gI → Option (gI)} (h_at17 : ∀ x1 x2 u3 u4 u5 u6 s o, r_at17 x1 x2 s = some o → iRR false L (d + 2) kj181 k181_17 [some (vR 63), some (vI x1), some (vI x2), u3, u4, u5, u6] [] (s, g_rho) (none, (o, g_rho))) (x1 : Int) (x2 : Int) (y5 : Int) (z0 : Int) (z1 : Int) {u3 : Option iV} {u4 : Option iV} (s : gI) {o : gI} (h : f181_at261 N r_at17 x1 x2 y5 z0 z1 s = some o) : iRR false L (d + 2) kj181 k181_261 [some (vR 63), some (vI x1), some (vI x2), u3, u4, some (vJ y5), none] [vI z0, vI z1, vR 65] (s, g_rho) (none, (o, g_rho)) := by
  refine iRR.of 3 ?_
  refine iRT.ck h fun h => ?_
  refine iRT.ov h fun h => ?_
  exact iRT.go 0 (f181_63_at265_ok L N d h_at17 _ _ _ _ h) (fun _ _ => rfl)
set_option maxHeartbeats 100000 in
theorem f181_63_at236_ok (L N d : Nat) {r_at17 : Int → Int → gI → Option (gI)} (h_at17 : ∀ x1 x2 u3 u4 u5 u6 s o, r_at17 x1 x2 s = some o → iRR false L (d + 2) kj181 k181_17 [some (vR 63), some (vI x1), some (vI x2), u3, u4, u5, u6] [] (s, g_rho) (none, (o, g_rho))) (x1 : Int) (x2 : Int) (y5 : Int) (z0 : Int) (z1 : Int) {u3 : Option iV} {u4 : Option iV} (s : gI) {o : gI} (h : f181_at236 N r_at17 x1 x2 y5 z0 z1 s = some o) : iRR false L (d + 2) kj181 k181_236 [some (vR 63), some (vI x1), some (vI x2), u3, u4, some (vJ y5), none] [vI z0, vI z1, vR 65] (s, g_rho) (none, (o, g_rho)) := by
  refine iRR.of 3 ?_
  refine iRT.ck h fun h => ?_
  exact iRT.go 1 (f181_63_at265_ok L N d h_at17 _ _ _ _ h) (fun _ _ => rfl)
set_option maxHeartbeats 100000 in
theorem f181_63_at218_ok (L N d : Nat) {r_at17 : Int → Int → gI → Option (gI)} (h_at17 : ∀ x1 x2 u3 u4 u5 u6 s o, r_at17 x1 x2 s = some o → iRR false L (d + 2) kj181 k181_17 [some (vR 63), some (vI x1), some (vI x2), u3, u4, u5, u6] [] (s, g_rho) (none, (o, g_rho))) (x1 : Int) (x2 : Int) (x4 : Int) (y5 : Int) {u3 : Option iV} (s : gI) {o : gI} (h : f181_at218 N r_at17 x1 x2 x4 y5 s = some o) : iRR false L (d + 2) kj181 k181_218 [some (vR 63), some (vI x1), some (vI x2), u3, some (vI x4), some (vJ y5), none] [] (s, g_rho) (none, (o, g_rho)) := by
  refine iRR.of 11 ?_
  refine iRT.ov h fun h => ?_
  refine iRT.ite h (fun h => ?_) (fun h => ?_)
  · exact iRT.go 1 (f181_63_at236_ok L N d h_at17 _ _ _ _ _ _ h) (fun _ _ => rfl)
  · exact iRT.go 2 (f181_63_at236_ok L N d h_at17 _ _ _ _ _ _ h) (fun _ _ => rfl)
set_option maxHeartbeats 100000 in
theorem f181_63_at159_ok (L N d : Nat) {r_at17 : Int → Int → gI → Option (gI)} (h_at17 : ∀ x1 x2 u3 u4 u5 u6 s o, r_at17 x1 x2 s = some o → iRR false L (d + 2) kj181 k181_17 [some (vR 63), some (vI x1), some (vI x2), u3, u4, u5, u6] [] (s, g_rho) (none, (o, g_rho))) : ∀ (n : Nat) (x1 : Int) (x2 : Int) (x4 : Int) (y5 : Int) {u3 : Option iV} (s : gI) (o : gI), f181_at159 N r_at17 n x1 x2 x4 y5 s = some o → iRR false L (d + 2) kj181 k181_159 [some (vR 63), some (vI x1), some (vI x2), u3, some (vI x4), some (vJ y5), none] [] (s, g_rho) (none, (o, g_rho)) := by
  intro n
  induction n with
  | zero => intro _ _ _ _ _ _ _ h; cases h
  | succ n ih =>
    intro x1 x2 x4 y5 u3 s o h
    refine iRR.of 31 ?_
    refine iRT.ite h (fun h => ?_) (fun h => ?_)
    · exact iRT.go 0 (f181_63_at218_ok L N d h_at17 _ _ _ _ _ h) (fun _ _ => rfl)
    · refine iRT.ck h fun h => ?_
      obtain ⟨i2, s1, h1, h⟩ := i_o2_inv h
      refine iRT.call (f178_ok L N (d + 1) _ _ h1) ?_
      refine iRT.ite h (fun h => ?_) (fun h => ?_)
      · exact iRT.go 0 (f181_63_at218_ok L N d h_at17 _ _ _ _ _ h) (fun _ _ => rfl)
      · refine iRT.ov h fun h => ?_
        refine iRT.ite h (fun h => ?_) (fun h => ?_)
        · refine iRT.ov h fun h => ?_
          exact iRT.go 1 (ih _ _ _ _ _ _ h) (fun _ _ => rfl)
        · refine iRT.ol h fun h => ?_
          refine iRT.ck h fun h => ?_
          refine iRT.ol h fun h => ?_
          refine iRT.ol h fun h => ?_
          refine iRT.ov h fun h => ?_
          exact iRT.go 1 (ih _ _ _ _ _ _ h) (fun _ _ => rfl)
set_option maxHeartbeats 100000 in
theorem f181_63_at148_ok (L N d : Nat) {r_at17 : Int → Int → gI → Option (gI)} (h_at17 : ∀ x1 x2 u3 u4 u5 u6 s o, r_at17 x1 x2 s = some o → iRR false L (d + 2) kj181 k181_17 [some (vR 63), some (vI x1), some (vI x2), u3, u4, u5, u6] [] (s, g_rho) (none, (o, g_rho))) (x1 : Int) (x2 : Int) (y5 : Int) (z0 : Int) (z1 : Int) {u3 : Option iV} {u4 : Option iV} (s : gI) {o : gI} (h : f181_at148 N r_at17 x1 x2 y5 z0 z1 s = some o) : iRR false L (d + 2) kj181 k181_148 [some (vR 63), some (vI x1), some (vI x2), u3, u4, some (vJ y5), none] [vI z0, vI z1, vR 65] (s, g_rho) (none, (o, g_rho)) := by
  refine iRR.of 3 ?_
  refine iRT.ck h fun h => ?_
  exact iRT.go 1 (f181_63_at265_ok L N d h_at17 _ _ _ _ h) (fun _ _ => rfl)
set_option maxHeartbeats 100000 in
theorem f181_63_at129_ok (L N d : Nat) {r_at17 : Int → Int → gI → Option (gI)} (h_at17 : ∀ x1 x2 u3 u4 u5 u6 s o, r_at17 x1 x2 s = some o → iRR false L (d + 2) kj181 k181_17 [some (vR 63), some (vI x1), some (vI x2), u3, u4, u5, u6] [] (s, g_rho) (none, (o, g_rho))) (x1 : Int) (x2 : Int) (x4 : Int) (y5 : Int) {u3 : Option iV} (s : gI) {o : gI} (h : f181_at129 N r_at17 x1 x2 x4 y5 s = some o) : iRR false L (d + 2) kj181 k181_129 [some (vR 63), some (vI x1), some (vI x2), u3, some (vI x4), some (vJ y5), none] [] (s, g_rho) (none, (o, g_rho)) := by
  refine iRR.of 11 ?_
  refine iRT.ov h fun h => ?_
  refine iRT.ite h (fun h => ?_) (fun h => ?_)
  · exact iRT.go 1 (f181_63_at148_ok L N d h_at17 _ _ _ _ _ _ h) (fun _ _ => rfl)
  · exact iRT.go 2 (f181_63_at148_ok L N d h_at17 _ _ _ _ _ _ h) (fun _ _ => rfl)
set_option maxHeartbeats 100000 in
theorem f181_63_at70_ok (L N d : Nat) {r_at17 : Int → Int → gI → Option (gI)} (h_at17 : ∀ x1 x2 u3 u4 u5 u6 s o, r_at17 x1 x2 s = some o → iRR false L (d + 2) kj181 k181_17 [some (vR 63), some (vI x1), some (vI x2), u3, u4, u5, u6] [] (s, g_rho) (none, (o, g_rho))) : ∀ (n : Nat) (x1 : Int) (x2 : Int) (x4 : Int) (y5 : Int) {u3 : Option iV} (s : gI) (o : gI), f181_at70 N r_at17 n x1 x2 x4 y5 s = some o → iRR false L (d + 2) kj181 k181_70 [some (vR 63), some (vI x1), some (vI x2), u3, some (vI x4), some (vJ y5), none] [] (s, g_rho) (none, (o, g_rho)) := by
  intro n
  induction n with
  | zero => intro _ _ _ _ _ _ _ h; cases h
  | succ n ih =>
    intro x1 x2 x4 y5 u3 s o h
    refine iRR.of 30 ?_
    refine iRT.ite h (fun h => ?_) (fun h => ?_)
    · exact iRT.go 0 (f181_63_at129_ok L N d h_at17 _ _ _ _ _ h) (fun _ _ => rfl)
    · refine iRT.ck h fun h => ?_
      obtain ⟨i2, s1, h1, h⟩ := i_o2_inv h
      refine iRT.call (f177_ok L N (d + 1) _ _ h1) ?_
      refine iRT.ite h (fun h => ?_) (fun h => ?_)
      · exact iRT.go 0 (f181_63_at129_ok L N d h_at17 _ _ _ _ _ h) (fun _ _ => rfl)
      · refine iRT.ov h fun h => ?_
        refine iRT.ite h (fun h => ?_) (fun h => ?_)
        · refine iRT.ov h fun h => ?_
          exact iRT.go 1 (ih _ _ _ _ _ _ h) (fun _ _ => rfl)
        · refine iRT.ol h fun h => ?_
          refine iRT.ck h fun h => ?_
          obtain ⟨i5, s4, h1, h⟩ := i_o2_inv h
          refine iRT.call (f179_ok L N (d + 0) _ _ h1) ?_
          refine iRT.ol h fun h => ?_
          refine iRT.ov h fun h => ?_
          exact iRT.go 1 (ih _ _ _ _ _ _ h) (fun _ _ => rfl)
set_option maxHeartbeats 100000 in
theorem f181_63_at17_ok (L N d : Nat) : ∀ (n : Nat) (x1 : Int) (x2 : Int) {u3 u4 u5 u6 : Option iV} (s : gI) (o : gI), f181_at17 N n x1 x2 s = some o → iRR false L (d + 2) kj181 k181_17 [some (vR 63), some (vI x1), some (vI x2), u3, u4, u5, u6] [] (s, g_rho) (none, (o, g_rho)) := by
  intro n
  induction n with
  | zero => intro _ _ _ _ _ _ _ _ h; cases h
  | succ n ih =>
    intro x1 x2 u3 u4 u5 u6 s o h
    refine iRR.of 401 ?_
    refine iRT.ite h (fun h => ?_) (fun h => ?_)
    · refine iRT.ck h fun h => ?_
      refine iRT.ck h fun h => ?_
      cases h
      exact iRT.ret
    · refine iRT.ck h fun h => ?_
      refine iRT.ite h (fun h => ?_) (fun h => ?_)
      · refine iRT.ov h fun h => ?_
        exact iRT.go 1 (ih _ _ _ _ h) (fun _ _ => rfl)
      · refine iRT.ite h (fun h => ?_) (fun h => ?_)
        · refine iRT.ov h fun h => ?_
          exact iRT.go 1 (ih _ _ _ _ h) (fun _ _ => rfl)
        · refine iRT.ck h fun h => ?_
          obtain ⟨i9, s8, h1, h⟩ := i_o2_inv h
          refine iRT.call (f177_ok L N (d + 1) _ _ h1) ?_
          refine iRT.ite h (fun h => ?_) (fun h => ?_)
          · obtain ⟨i11, s10, h1, h⟩ := i_o2_inv h
            refine iRT.call (f178_ok L N (d + 1) _ _ h1) ?_
            refine iRT.ite h (fun h => ?_) (fun h => ?_)
            · obtain ⟨i13, s12, h1, h⟩ := i_o2_inv h
              refine iRT.call (f180_ok L N (d + 1) _ _ h1) ?_
              refine iRT.ite h (fun h => ?_) (fun h => ?_)
              · exact iRT.go 1 (f181_63_at261_ok L N d (fun a0 a1 b0 b1 b2 b3 s o h => ih a0 a1 s o h) _ _ _ _ _ _ h) (fun _ _ => rfl)
              · exact iRT.go 2 (f181_63_at261_ok L N d (fun a0 a1 b0 b1 b2 b3 s o h => ih a0 a1 s o h) _ _ _ _ _ _ h) (fun _ _ => rfl)
            · exact iRT.go 0 (f181_63_at159_ok L N d (fun a0 a1 b0 b1 b2 b3 s o h => ih a0 a1 s o h) N _ _ _ _ _ _ h) (fun _ _ => rfl)
          · exact iRT.go 0 (f181_63_at70_ok L N d (fun a0 a1 b0 b1 b2 b3 s o h => ih a0 a1 s o h) N _ _ _ _ _ _ h) (fun _ _ => rfl)
set_option maxHeartbeats 100000 in
theorem f181_63_ok (L N d : Nat) (s : gI) {o : gI} (h : f181 N  s = some o) : iEE L (d + 3) 181 [vR 63] (s, g_rho) (none, (o, g_rho)) := by
  refine iEE.of (wr := false) (d := d + 2) (md := gm_181) rfl rfl rfl (iRR.of 12 ?_)
  exact iRT.go 11 (f181_63_at17_ok L N d N _ _ _ _ h) (fun _ _ => rfl)
